abbrev zy_LassoFinderModel_settled : MethodName := ⟨"LassoFinderModel", "settled", "(II)I"⟩
abbrev zy_LassoFinderModel_truthAt : MethodName := ⟨"LassoFinderModel", "truthAt", "(II)I"⟩
abbrev zy_LassoFinderModel_before : MethodName := ⟨"LassoFinderModel", "before", "(IIII)I"⟩
abbrev zy_LassoFinderModel_away : MethodName := ⟨"LassoFinderModel", "away", "(I)I"⟩
abbrev zy_LassoFinderModel_keep : MethodName := ⟨"LassoFinderModel", "keep", "([III)V"⟩
abbrev zy_LassoFinderModel_stepOf : MethodName := ⟨"LassoFinderModel", "stepOf", "([II)I"⟩
abbrev zy_LassoFinderModel_ahead : MethodName := ⟨"LassoFinderModel", "ahead", "(IJI)J"⟩
theorem zm_288 : Cond.fieldLink "LassoFinderModel" 175 "LassoFinderModel" "far" "[I" ∈ zTB := z_in (zt_6 _ (List.mem_of_getElem? (i := 171) rfl)) rfl
theorem zm_373 : Cond.methodLink "LassoFinderModel" 419 ⟨"LassoFinderModel", "settled", "(II)I"⟩ ∈ zTB := z_in (zt_8 _ (List.mem_of_getElem? (i := 83) rfl)) rfl
theorem zm_375 : Cond.methodLink "LassoFinderModel" 422 ⟨"LassoFinderModel", "truthAt", "(II)I"⟩ ∈ zTB := z_in (zt_8 _ (List.mem_of_getElem? (i := 87) rfl)) rfl
theorem zm_376 : Cond.methodLink "LassoFinderModel" 425 ⟨"LassoFinderModel", "away", "(I)I"⟩ ∈ zTB := z_in (zt_8 _ (List.mem_of_getElem? (i := 95) rfl)) rfl
theorem zm_377 : Cond.methodLink "LassoFinderModel" 415 ⟨"LassoFinderModel", "before", "(IIII)I"⟩ ∈ zTB := z_in (zt_8 _ (List.mem_of_getElem? (i := 91) rfl)) rfl
theorem zm_470 : Cond.code ⟨"LassoFinderModel", "away", "(I)I"⟩ prog_14_method_55_code 2 (some .int) ∈ zTB := z_in (zt_8 _ (List.mem_of_getElem? (i := 98) rfl)) rfl
theorem zm_471 : Cond.instanceMethod ⟨"LassoFinderModel", "away", "(I)I"⟩ ∈ zTB := z_in (zt_8 _ (List.mem_of_getElem? (i := 97) rfl)) rfl
theorem zm_472 : Cond.code ⟨"LassoFinderModel", "before", "(IIII)I"⟩ prog_14_method_51_code 6 (some .int) ∈ zTB := z_in (zt_8 _ (List.mem_of_getElem? (i := 94) rfl)) rfl
theorem zm_473 : Cond.instanceMethod ⟨"LassoFinderModel", "before", "(IIII)I"⟩ ∈ zTB := z_in (zt_8 _ (List.mem_of_getElem? (i := 93) rfl)) rfl
theorem zm_474 : Cond.code ⟨"LassoFinderModel", "truthAt", "(II)I"⟩ prog_14_method_52_code 6 (some .int) ∈ zTB := z_in (zt_8 _ (List.mem_of_getElem? (i := 90) rfl)) rfl
theorem zm_475 : Cond.instanceMethod ⟨"LassoFinderModel", "truthAt", "(II)I"⟩ ∈ zTB := z_in (zt_8 _ (List.mem_of_getElem? (i := 89) rfl)) rfl
theorem zm_476 : Cond.code ⟨"LassoFinderModel", "settled", "(II)I"⟩ prog_14_method_53_code 9 (some .int) ∈ zTB := z_in (zt_8 _ (List.mem_of_getElem? (i := 86) rfl)) rfl
theorem zm_477 : Cond.instanceMethod ⟨"LassoFinderModel", "settled", "(II)I"⟩ ∈ zTB := z_in (zt_8 _ (List.mem_of_getElem? (i := 85) rfl)) rfl
theorem zf_LassoFinderModel_away : zFaceV zy_LassoFinderModel_away prog_14_method_55_code 2 (some .int) 1 := ⟨zm_471, (z_in (zp_8 _ (List.mem_of_getElem? (i := 8) rfl)) rfl), zm_25, zm_470, by decide +kernel, by decide +kernel, by decide +kernel⟩
theorem zf_LassoFinderModel_before : zFaceV zy_LassoFinderModel_before prog_14_method_51_code 6 (some .int) 4 := ⟨zm_473, (z_in (zp_8 _ (List.mem_of_getElem? (i := 7) rfl)) rfl), zm_25, zm_472, by decide +kernel, by decide +kernel, by decide +kernel⟩
theorem zf_LassoFinderModel_truthAt : zFaceV zy_LassoFinderModel_truthAt prog_14_method_52_code 6 (some .int) 2 := ⟨zm_475, (z_in (zp_8 _ (List.mem_of_getElem? (i := 6) rfl)) rfl), zm_25, zm_474, by decide +kernel, by decide +kernel, by decide +kernel⟩
theorem zf_LassoFinderModel_settled : zFaceV zy_LassoFinderModel_settled prog_14_method_53_code 9 (some .int) 2 := ⟨zm_477, (z_in (zp_8 _ (List.mem_of_getElem? (i := 5) rfl)) rfl), zm_25, zm_476, by decide +kernel, by decide +kernel, by decide +kernel⟩
theorem zd_LassoFinderModel_ahead_0 : decode prog_14_method_63_code 0 = .ok (.lconst 0, 1) := by decide +kernel
theorem zd_LassoFinderModel_ahead_1 : decode prog_14_method_63_code 1 = .ok (.lstore 5, 2) := by decide +kernel
theorem zd_LassoFinderModel_ahead_3 : decode prog_14_method_63_code 3 = .ok (.iconst 0, 1) := by decide +kernel
theorem zd_LassoFinderModel_ahead_4 : decode prog_14_method_63_code 4 = .ok (.istore 7, 2) := by decide +kernel
theorem zd_LassoFinderModel_ahead_6 : decode prog_14_method_63_code 6 = .ok (.iload 7, 2) := by decide +kernel
theorem zd_LassoFinderModel_ahead_8 : decode prog_14_method_63_code 8 = .ok (.iconst 1, 1) := by decide +kernel
theorem zd_LassoFinderModel_ahead_9 : decode prog_14_method_63_code 9 = .ok (.aload_n 0, 1) := by decide +kernel
theorem zd_LassoFinderModel_ahead_10 : decode prog_14_method_63_code 10 = .ok (.getfield 376, 3) := by decide +kernel
theorem zd_LassoFinderModel_ahead_13 : decode prog_14_method_63_code 13 = .ok (.ishl, 1) := by decide +kernel
theorem zd_LassoFinderModel_ahead_14 : decode prog_14_method_63_code 14 = .ok (.if_icmp .ge 123, 3) := by decide +kernel
theorem zd_LassoFinderModel_ahead_17 : decode prog_14_method_63_code 17 = .ok (.aload_n 0, 1) := by decide +kernel
theorem zd_LassoFinderModel_ahead_18 : decode prog_14_method_63_code 18 = .ok (.aload_n 0, 1) := by decide +kernel
theorem zd_LassoFinderModel_ahead_19 : decode prog_14_method_63_code 19 = .ok (.getfield 115, 3) := by decide +kernel
theorem zd_LassoFinderModel_ahead_22 : decode prog_14_method_63_code 22 = .ok (.iload_n 1, 1) := by decide +kernel
theorem zd_LassoFinderModel_ahead_23 : decode prog_14_method_63_code 23 = .ok (.iaload, 1) := by decide +kernel
theorem zd_LassoFinderModel_ahead_24 : decode prog_14_method_63_code 24 = .ok (.iload 7, 2) := by decide +kernel
theorem zd_LassoFinderModel_ahead_26 : decode prog_14_method_63_code 26 = .ok (.invokevirtual 422, 3) := by decide +kernel
theorem zd_LassoFinderModel_ahead_29 : decode prog_14_method_63_code 29 = .ok (.istore 8, 2) := by decide +kernel
theorem zd_LassoFinderModel_ahead_31 : decode prog_14_method_63_code 31 = .ok (.aload_n 0, 1) := by decide +kernel
theorem zd_LassoFinderModel_ahead_32 : decode prog_14_method_63_code 32 = .ok (.aload_n 0, 1) := by decide +kernel
theorem zd_LassoFinderModel_ahead_33 : decode prog_14_method_63_code 33 = .ok (.getfield 112, 3) := by decide +kernel
theorem zd_LassoFinderModel_ahead_36 : decode prog_14_method_63_code 36 = .ok (.iload_n 1, 1) := by decide +kernel
theorem zd_LassoFinderModel_ahead_37 : decode prog_14_method_63_code 37 = .ok (.iaload, 1) := by decide +kernel
theorem zd_LassoFinderModel_ahead_38 : decode prog_14_method_63_code 38 = .ok (.iload 7, 2) := by decide +kernel
theorem zd_LassoFinderModel_ahead_40 : decode prog_14_method_63_code 40 = .ok (.invokevirtual 419, 3) := by decide +kernel
theorem zd_LassoFinderModel_ahead_43 : decode prog_14_method_63_code 43 = .ok (.istore 9, 2) := by decide +kernel
theorem zd_LassoFinderModel_ahead_45 : decode prog_14_method_63_code 45 = .ok (.iconst 0, 1) := by decide +kernel
theorem zd_LassoFinderModel_ahead_46 : decode prog_14_method_63_code 46 = .ok (.istore 10, 2) := by decide +kernel
theorem zd_LassoFinderModel_ahead_48 : decode prog_14_method_63_code 48 = .ok (.iload 10, 2) := by decide +kernel
theorem zd_LassoFinderModel_ahead_50 : decode prog_14_method_63_code 50 = .ok (.iconst 1, 1) := by decide +kernel
theorem zd_LassoFinderModel_ahead_51 : decode prog_14_method_63_code 51 = .ok (.aload_n 0, 1) := by decide +kernel
theorem zd_LassoFinderModel_ahead_52 : decode prog_14_method_63_code 52 = .ok (.getfield 376, 3) := by decide +kernel
theorem zd_LassoFinderModel_ahead_55 : decode prog_14_method_63_code 55 = .ok (.ishl, 1) := by decide +kernel
theorem zd_LassoFinderModel_ahead_56 : decode prog_14_method_63_code 56 = .ok (.if_icmp .ge 75, 3) := by decide +kernel
theorem zd_LassoFinderModel_ahead_59 : decode prog_14_method_63_code 59 = .ok (.iload 10, 2) := by decide +kernel
theorem zd_LassoFinderModel_ahead_61 : decode prog_14_method_63_code 61 = .ok (.iload 9, 2) := by decide +kernel
theorem zd_LassoFinderModel_ahead_63 : decode prog_14_method_63_code 63 = .ok (.ior, 1) := by decide +kernel
theorem zd_LassoFinderModel_ahead_64 : decode prog_14_method_63_code 64 = .ok (.istore 11, 2) := by decide +kernel
theorem zd_LassoFinderModel_ahead_66 : decode prog_14_method_63_code 66 = .ok (.lload_n 2, 1) := by decide +kernel
theorem zd_LassoFinderModel_ahead_67 : decode prog_14_method_63_code 67 = .ok (.bipush 8, 2) := by decide +kernel
theorem zd_LassoFinderModel_ahead_69 : decode prog_14_method_63_code 69 = .ok (.iload 8, 2) := by decide +kernel
theorem zd_LassoFinderModel_ahead_71 : decode prog_14_method_63_code 71 = .ok (.imul, 1) := by decide +kernel
theorem zd_LassoFinderModel_ahead_72 : decode prog_14_method_63_code 72 = .ok (.iload 10, 2) := by decide +kernel
theorem zd_LassoFinderModel_ahead_74 : decode prog_14_method_63_code 74 = .ok (.iadd, 1) := by decide +kernel
theorem zd_LassoFinderModel_ahead_75 : decode prog_14_method_63_code 75 = .ok (.lshr, 1) := by decide +kernel
theorem zd_LassoFinderModel_ahead_76 : decode prog_14_method_63_code 76 = .ok (.lconst 1, 1) := by decide +kernel
theorem zd_LassoFinderModel_ahead_77 : decode prog_14_method_63_code 77 = .ok (.land, 1) := by decide +kernel
theorem zd_LassoFinderModel_ahead_78 : decode prog_14_method_63_code 78 = .ok (.lconst 1, 1) := by decide +kernel
theorem zd_LassoFinderModel_ahead_79 : decode prog_14_method_63_code 79 = .ok (.lcmp, 1) := by decide +kernel
theorem zd_LassoFinderModel_ahead_80 : decode prog_14_method_63_code 80 = .ok (.ifCond .ne 45, 3) := by decide +kernel
theorem zd_LassoFinderModel_ahead_83 : decode prog_14_method_63_code 83 = .ok (.aload_n 0, 1) := by decide +kernel
theorem zd_LassoFinderModel_ahead_84 : decode prog_14_method_63_code 84 = .ok (.bipush 64, 2) := by decide +kernel
theorem zd_LassoFinderModel_ahead_86 : decode prog_14_method_63_code 86 = .ok (.aload_n 0, 1) := by decide +kernel
theorem zd_LassoFinderModel_ahead_87 : decode prog_14_method_63_code 87 = .ok (.getfield 112, 3) := by decide +kernel
theorem zd_LassoFinderModel_ahead_90 : decode prog_14_method_63_code 90 = .ok (.iload_n 1, 1) := by decide +kernel
theorem zd_LassoFinderModel_ahead_91 : decode prog_14_method_63_code 91 = .ok (.iaload, 1) := by decide +kernel
theorem zd_LassoFinderModel_ahead_92 : decode prog_14_method_63_code 92 = .ok (.imul, 1) := by decide +kernel
theorem zd_LassoFinderModel_ahead_93 : decode prog_14_method_63_code 93 = .ok (.bipush 8, 2) := by decide +kernel
theorem zd_LassoFinderModel_ahead_95 : decode prog_14_method_63_code 95 = .ok (.iload 7, 2) := by decide +kernel
theorem zd_LassoFinderModel_ahead_97 : decode prog_14_method_63_code 97 = .ok (.imul, 1) := by decide +kernel
theorem zd_LassoFinderModel_ahead_98 : decode prog_14_method_63_code 98 = .ok (.iadd, 1) := by decide +kernel
theorem zd_LassoFinderModel_ahead_99 : decode prog_14_method_63_code 99 = .ok (.iload 11, 2) := by decide +kernel
theorem zd_LassoFinderModel_ahead_101 : decode prog_14_method_63_code 101 = .ok (.iadd, 1) := by decide +kernel
theorem zd_LassoFinderModel_ahead_102 : decode prog_14_method_63_code 102 = .ok (.invokevirtual 425, 3) := by decide +kernel
theorem zd_LassoFinderModel_ahead_105 : decode prog_14_method_63_code 105 = .ok (.iload 4, 2) := by decide +kernel
theorem zd_LassoFinderModel_ahead_107 : decode prog_14_method_63_code 107 = .ok (.if_icmp .ne 18, 3) := by decide +kernel
theorem zd_LassoFinderModel_ahead_110 : decode prog_14_method_63_code 110 = .ok (.lload 5, 2) := by decide +kernel
theorem zd_LassoFinderModel_ahead_112 : decode prog_14_method_63_code 112 = .ok (.lconst 1, 1) := by decide +kernel
theorem zd_LassoFinderModel_ahead_113 : decode prog_14_method_63_code 113 = .ok (.bipush 8, 2) := by decide +kernel
theorem zd_LassoFinderModel_ahead_115 : decode prog_14_method_63_code 115 = .ok (.iload 7, 2) := by decide +kernel
theorem zd_LassoFinderModel_ahead_117 : decode prog_14_method_63_code 117 = .ok (.imul, 1) := by decide +kernel
theorem zd_LassoFinderModel_ahead_118 : decode prog_14_method_63_code 118 = .ok (.iload 11, 2) := by decide +kernel
theorem zd_LassoFinderModel_ahead_120 : decode prog_14_method_63_code 120 = .ok (.iadd, 1) := by decide +kernel
theorem zd_LassoFinderModel_ahead_121 : decode prog_14_method_63_code 121 = .ok (.lshl, 1) := by decide +kernel
theorem zd_LassoFinderModel_ahead_122 : decode prog_14_method_63_code 122 = .ok (.lor, 1) := by decide +kernel
theorem zd_LassoFinderModel_ahead_123 : decode prog_14_method_63_code 123 = .ok (.lstore 5, 2) := by decide +kernel
theorem zd_LassoFinderModel_ahead_125 : decode prog_14_method_63_code 125 = .ok (.iinc 10 1, 3) := by decide +kernel
theorem zd_LassoFinderModel_ahead_128 : decode prog_14_method_63_code 128 = .ok (.goto (-80), 3) := by decide +kernel
theorem zd_LassoFinderModel_ahead_131 : decode prog_14_method_63_code 131 = .ok (.iinc 7 1, 3) := by decide +kernel
theorem zd_LassoFinderModel_ahead_134 : decode prog_14_method_63_code 134 = .ok (.goto (-128), 3) := by decide +kernel
theorem zd_LassoFinderModel_ahead_137 : decode prog_14_method_63_code 137 = .ok (.lload 5, 2) := by decide +kernel
theorem zd_LassoFinderModel_ahead_139 : decode prog_14_method_63_code 139 = .ok (.lreturn, 1) := by decide +kernel
theorem zd_LassoFinderModel_away_0 : decode prog_14_method_55_code 0 = .ok (.aload_n 0, 1) := by decide +kernel
theorem zd_LassoFinderModel_away_1 : decode prog_14_method_55_code 1 = .ok (.getfield 175, 3) := by decide +kernel
theorem zd_LassoFinderModel_away_4 : decode prog_14_method_55_code 4 = .ok (.iload_n 1, 1) := by decide +kernel
theorem zd_LassoFinderModel_away_5 : decode prog_14_method_55_code 5 = .ok (.iaload, 1) := by decide +kernel
theorem zd_LassoFinderModel_away_6 : decode prog_14_method_55_code 6 = .ok (.ifCond .ge 7, 3) := by decide +kernel
theorem zd_LassoFinderModel_away_9 : decode prog_14_method_55_code 9 = .ok (.iconst (-1), 1) := by decide +kernel
theorem zd_LassoFinderModel_away_10 : decode prog_14_method_55_code 10 = .ok (.goto 13, 3) := by decide +kernel
theorem zd_LassoFinderModel_away_13 : decode prog_14_method_55_code 13 = .ok (.aload_n 0, 1) := by decide +kernel
theorem zd_LassoFinderModel_away_14 : decode prog_14_method_55_code 14 = .ok (.getfield 175, 3) := by decide +kernel
theorem zd_LassoFinderModel_away_17 : decode prog_14_method_55_code 17 = .ok (.iload_n 1, 1) := by decide +kernel
theorem zd_LassoFinderModel_away_18 : decode prog_14_method_55_code 18 = .ok (.iaload, 1) := by decide +kernel
theorem zd_LassoFinderModel_away_19 : decode prog_14_method_55_code 19 = .ok (.sipush 4095, 3) := by decide +kernel
theorem zd_LassoFinderModel_away_22 : decode prog_14_method_55_code 22 = .ok (.iand, 1) := by decide +kernel
theorem zd_LassoFinderModel_away_23 : decode prog_14_method_55_code 23 = .ok (.ireturn, 1) := by decide +kernel
theorem zd_LassoFinderModel_before_0 : decode prog_14_method_51_code 0 = .ok (.aload_n 0, 1) := by decide +kernel
theorem zd_LassoFinderModel_before_1 : decode prog_14_method_51_code 1 = .ok (.getfield 145, 3) := by decide +kernel
theorem zd_LassoFinderModel_before_4 : decode prog_14_method_51_code 4 = .ok (.aload_n 0, 1) := by decide +kernel
theorem zd_LassoFinderModel_before_5 : decode prog_14_method_51_code 5 = .ok (.getfield 151, 3) := by decide +kernel
theorem zd_LassoFinderModel_before_8 : decode prog_14_method_51_code 8 = .ok (.iload_n 1, 1) := by decide +kernel
theorem zd_LassoFinderModel_before_9 : decode prog_14_method_51_code 9 = .ok (.iaload, 1) := by decide +kernel
theorem zd_LassoFinderModel_before_10 : decode prog_14_method_51_code 10 = .ok (.iaload, 1) := by decide +kernel
theorem zd_LassoFinderModel_before_11 : decode prog_14_method_51_code 11 = .ok (.istore 5, 2) := by decide +kernel
theorem zd_LassoFinderModel_before_13 : decode prog_14_method_51_code 13 = .ok (.iload 5, 2) := by decide +kernel
theorem zd_LassoFinderModel_before_15 : decode prog_14_method_51_code 15 = .ok (.bipush 14, 2) := by decide +kernel
theorem zd_LassoFinderModel_before_17 : decode prog_14_method_51_code 17 = .ok (.if_icmp .ne 10, 3) := by decide +kernel
theorem zd_LassoFinderModel_before_20 : decode prog_14_method_51_code 20 = .ok (.iload_n 2, 1) := by decide +kernel
theorem zd_LassoFinderModel_before_21 : decode prog_14_method_51_code 21 = .ok (.iload 4, 2) := by decide +kernel
theorem zd_LassoFinderModel_before_23 : decode prog_14_method_51_code 23 = .ok (.iand, 1) := by decide +kernel
theorem zd_LassoFinderModel_before_24 : decode prog_14_method_51_code 24 = .ok (.goto 39, 3) := by decide +kernel
theorem zd_LassoFinderModel_before_27 : decode prog_14_method_51_code 27 = .ok (.iload 5, 2) := by decide +kernel
theorem zd_LassoFinderModel_before_29 : decode prog_14_method_51_code 29 = .ok (.bipush 15, 2) := by decide +kernel
theorem zd_LassoFinderModel_before_31 : decode prog_14_method_51_code 31 = .ok (.if_icmp .ne 10, 3) := by decide +kernel
theorem zd_LassoFinderModel_before_34 : decode prog_14_method_51_code 34 = .ok (.iload_n 2, 1) := by decide +kernel
theorem zd_LassoFinderModel_before_35 : decode prog_14_method_51_code 35 = .ok (.iload 4, 2) := by decide +kernel
theorem zd_LassoFinderModel_before_37 : decode prog_14_method_51_code 37 = .ok (.ior, 1) := by decide +kernel
theorem zd_LassoFinderModel_before_38 : decode prog_14_method_51_code 38 = .ok (.goto 25, 3) := by decide +kernel
theorem zd_LassoFinderModel_before_41 : decode prog_14_method_51_code 41 = .ok (.iload 5, 2) := by decide +kernel
theorem zd_LassoFinderModel_before_43 : decode prog_14_method_51_code 43 = .ok (.bipush 12, 2) := by decide +kernel
theorem zd_LassoFinderModel_before_45 : decode prog_14_method_51_code 45 = .ok (.if_icmp .ne 12, 3) := by decide +kernel
theorem zd_LassoFinderModel_before_48 : decode prog_14_method_51_code 48 = .ok (.iload_n 3, 1) := by decide +kernel
theorem zd_LassoFinderModel_before_49 : decode prog_14_method_51_code 49 = .ok (.iload_n 2, 1) := by decide +kernel
theorem zd_LassoFinderModel_before_50 : decode prog_14_method_51_code 50 = .ok (.iload 4, 2) := by decide +kernel
theorem zd_LassoFinderModel_before_52 : decode prog_14_method_51_code 52 = .ok (.iand, 1) := by decide +kernel
theorem zd_LassoFinderModel_before_53 : decode prog_14_method_51_code 53 = .ok (.ior, 1) := by decide +kernel
theorem zd_LassoFinderModel_before_54 : decode prog_14_method_51_code 54 = .ok (.goto 9, 3) := by decide +kernel
theorem zd_LassoFinderModel_before_57 : decode prog_14_method_51_code 57 = .ok (.iload_n 3, 1) := by decide +kernel
theorem zd_LassoFinderModel_before_58 : decode prog_14_method_51_code 58 = .ok (.iload_n 2, 1) := by decide +kernel
theorem zd_LassoFinderModel_before_59 : decode prog_14_method_51_code 59 = .ok (.iload 4, 2) := by decide +kernel
theorem zd_LassoFinderModel_before_61 : decode prog_14_method_51_code 61 = .ok (.ior, 1) := by decide +kernel
theorem zd_LassoFinderModel_before_62 : decode prog_14_method_51_code 62 = .ok (.iand, 1) := by decide +kernel
theorem zd_LassoFinderModel_before_63 : decode prog_14_method_51_code 63 = .ok (.ireturn, 1) := by decide +kernel
theorem zd_LassoFinderModel_keep_0 : decode prog_14_method_59_code 0 = .ok (.bipush 9, 2) := by decide +kernel
theorem zd_LassoFinderModel_keep_2 : decode prog_14_method_59_code 2 = .ok (.iload_n 1, 1) := by decide +kernel
theorem zd_LassoFinderModel_keep_3 : decode prog_14_method_59_code 3 = .ok (.iconst 3, 1) := by decide +kernel
theorem zd_LassoFinderModel_keep_4 : decode prog_14_method_59_code 4 = .ok (.irem, 1) := by decide +kernel
theorem zd_LassoFinderModel_keep_5 : decode prog_14_method_59_code 5 = .ok (.imul, 1) := by decide +kernel
theorem zd_LassoFinderModel_keep_6 : decode prog_14_method_59_code 6 = .ok (.istore_n 3, 1) := by decide +kernel
theorem zd_LassoFinderModel_keep_7 : decode prog_14_method_59_code 7 = .ok (.aload_n 0, 1) := by decide +kernel
theorem zd_LassoFinderModel_keep_8 : decode prog_14_method_59_code 8 = .ok (.iload_n 1, 1) := by decide +kernel
theorem zd_LassoFinderModel_keep_9 : decode prog_14_method_59_code 9 = .ok (.iconst 3, 1) := by decide +kernel
theorem zd_LassoFinderModel_keep_10 : decode prog_14_method_59_code 10 = .ok (.idiv, 1) := by decide +kernel
theorem zd_LassoFinderModel_keep_11 : decode prog_14_method_59_code 11 = .ok (.aload_n 0, 1) := by decide +kernel
theorem zd_LassoFinderModel_keep_12 : decode prog_14_method_59_code 12 = .ok (.iload_n 1, 1) := by decide +kernel
theorem zd_LassoFinderModel_keep_13 : decode prog_14_method_59_code 13 = .ok (.iconst 3, 1) := by decide +kernel
theorem zd_LassoFinderModel_keep_14 : decode prog_14_method_59_code 14 = .ok (.idiv, 1) := by decide +kernel
theorem zd_LassoFinderModel_keep_15 : decode prog_14_method_59_code 15 = .ok (.iaload, 1) := by decide +kernel
theorem zd_LassoFinderModel_keep_16 : decode prog_14_method_59_code 16 = .ok (.sipush 511, 3) := by decide +kernel
theorem zd_LassoFinderModel_keep_19 : decode prog_14_method_59_code 19 = .ok (.iload_n 3, 1) := by decide +kernel
theorem zd_LassoFinderModel_keep_20 : decode prog_14_method_59_code 20 = .ok (.ishl, 1) := by decide +kernel
theorem zd_LassoFinderModel_keep_21 : decode prog_14_method_59_code 21 = .ok (.iconst (-1), 1) := by decide +kernel
theorem zd_LassoFinderModel_keep_22 : decode prog_14_method_59_code 22 = .ok (.ixor, 1) := by decide +kernel
theorem zd_LassoFinderModel_keep_23 : decode prog_14_method_59_code 23 = .ok (.iand, 1) := by decide +kernel
theorem zd_LassoFinderModel_keep_24 : decode prog_14_method_59_code 24 = .ok (.iload_n 2, 1) := by decide +kernel
theorem zd_LassoFinderModel_keep_25 : decode prog_14_method_59_code 25 = .ok (.iload_n 3, 1) := by decide +kernel
theorem zd_LassoFinderModel_keep_26 : decode prog_14_method_59_code 26 = .ok (.ishl, 1) := by decide +kernel
theorem zd_LassoFinderModel_keep_27 : decode prog_14_method_59_code 27 = .ok (.ior, 1) := by decide +kernel
theorem zd_LassoFinderModel_keep_28 : decode prog_14_method_59_code 28 = .ok (.iastore, 1) := by decide +kernel
theorem zd_LassoFinderModel_keep_29 : decode prog_14_method_59_code 29 = .ok (.return_, 1) := by decide +kernel
theorem zd_LassoFinderModel_settled_0 : decode prog_14_method_53_code 0 = .ok (.iconst 0, 1) := by decide +kernel
theorem zd_LassoFinderModel_settled_1 : decode prog_14_method_53_code 1 = .ok (.istore_n 3, 1) := by decide +kernel
theorem zd_LassoFinderModel_settled_2 : decode prog_14_method_53_code 2 = .ok (.iconst 0, 1) := by decide +kernel
theorem zd_LassoFinderModel_settled_3 : decode prog_14_method_53_code 3 = .ok (.istore 4, 2) := by decide +kernel
theorem zd_LassoFinderModel_settled_5 : decode prog_14_method_53_code 5 = .ok (.iload 4, 2) := by decide +kernel
theorem zd_LassoFinderModel_settled_7 : decode prog_14_method_53_code 7 = .ok (.aload_n 0, 1) := by decide +kernel
theorem zd_LassoFinderModel_settled_8 : decode prog_14_method_53_code 8 = .ok (.getfield 376, 3) := by decide +kernel
theorem zd_LassoFinderModel_settled_11 : decode prog_14_method_53_code 11 = .ok (.if_icmp .ge 167, 3) := by decide +kernel
theorem zd_LassoFinderModel_settled_14 : decode prog_14_method_53_code 14 = .ok (.aload_n 0, 1) := by decide +kernel
theorem zd_LassoFinderModel_settled_15 : decode prog_14_method_53_code 15 = .ok (.getfield 166, 3) := by decide +kernel
theorem zd_LassoFinderModel_settled_18 : decode prog_14_method_53_code 18 = .ok (.bipush 8, 2) := by decide +kernel
theorem zd_LassoFinderModel_settled_20 : decode prog_14_method_53_code 20 = .ok (.iload_n 1, 1) := by decide +kernel
theorem zd_LassoFinderModel_settled_21 : decode prog_14_method_53_code 21 = .ok (.imul, 1) := by decide +kernel
theorem zd_LassoFinderModel_settled_22 : decode prog_14_method_53_code 22 = .ok (.iload_n 2, 1) := by decide +kernel
theorem zd_LassoFinderModel_settled_23 : decode prog_14_method_53_code 23 = .ok (.iadd, 1) := by decide +kernel
theorem zd_LassoFinderModel_settled_24 : decode prog_14_method_53_code 24 = .ok (.iaload, 1) := by decide +kernel
theorem zd_LassoFinderModel_settled_25 : decode prog_14_method_53_code 25 = .ok (.istore 5, 2) := by decide +kernel
theorem zd_LassoFinderModel_settled_27 : decode prog_14_method_53_code 27 = .ok (.aload_n 0, 1) := by decide +kernel
theorem zd_LassoFinderModel_settled_28 : decode prog_14_method_53_code 28 = .ok (.getfield 145, 3) := by decide +kernel
theorem zd_LassoFinderModel_settled_31 : decode prog_14_method_53_code 31 = .ok (.aload_n 0, 1) := by decide +kernel
theorem zd_LassoFinderModel_settled_32 : decode prog_14_method_53_code 32 = .ok (.getfield 151, 3) := by decide +kernel
theorem zd_LassoFinderModel_settled_35 : decode prog_14_method_53_code 35 = .ok (.iload 4, 2) := by decide +kernel
theorem zd_LassoFinderModel_settled_37 : decode prog_14_method_53_code 37 = .ok (.iaload, 1) := by decide +kernel
theorem zd_LassoFinderModel_settled_38 : decode prog_14_method_53_code 38 = .ok (.iaload, 1) := by decide +kernel
theorem zd_LassoFinderModel_settled_39 : decode prog_14_method_53_code 39 = .ok (.bipush 12, 2) := by decide +kernel
theorem zd_LassoFinderModel_settled_41 : decode prog_14_method_53_code 41 = .ok (.if_icmp .eq 20, 3) := by decide +kernel
theorem zd_LassoFinderModel_settled_44 : decode prog_14_method_53_code 44 = .ok (.aload_n 0, 1) := by decide +kernel
theorem zd_LassoFinderModel_settled_45 : decode prog_14_method_53_code 45 = .ok (.getfield 145, 3) := by decide +kernel
theorem zd_LassoFinderModel_settled_48 : decode prog_14_method_53_code 48 = .ok (.aload_n 0, 1) := by decide +kernel
theorem zd_LassoFinderModel_settled_49 : decode prog_14_method_53_code 49 = .ok (.getfield 151, 3) := by decide +kernel
theorem zd_LassoFinderModel_settled_52 : decode prog_14_method_53_code 52 = .ok (.iload 4, 2) := by decide +kernel
theorem zd_LassoFinderModel_settled_54 : decode prog_14_method_53_code 54 = .ok (.iaload, 1) := by decide +kernel
theorem zd_LassoFinderModel_settled_55 : decode prog_14_method_53_code 55 = .ok (.iaload, 1) := by decide +kernel
theorem zd_LassoFinderModel_settled_56 : decode prog_14_method_53_code 56 = .ok (.bipush 13, 2) := by decide +kernel
theorem zd_LassoFinderModel_settled_58 : decode prog_14_method_53_code 58 = .ok (.if_icmp .ne 17, 3) := by decide +kernel
theorem zd_LassoFinderModel_settled_61 : decode prog_14_method_53_code 61 = .ok (.iload 5, 2) := by decide +kernel
theorem zd_LassoFinderModel_settled_63 : decode prog_14_method_53_code 63 = .ok (.iconst 2, 1) := by decide +kernel
theorem zd_LassoFinderModel_settled_64 : decode prog_14_method_53_code 64 = .ok (.iload 4, 2) := by decide +kernel
theorem zd_LassoFinderModel_settled_66 : decode prog_14_method_53_code 66 = .ok (.imul, 1) := by decide +kernel
theorem zd_LassoFinderModel_settled_67 : decode prog_14_method_53_code 67 = .ok (.iconst 1, 1) := by decide +kernel
theorem zd_LassoFinderModel_settled_68 : decode prog_14_method_53_code 68 = .ok (.iadd, 1) := by decide +kernel
theorem zd_LassoFinderModel_settled_69 : decode prog_14_method_53_code 69 = .ok (.ishr, 1) := by decide +kernel
theorem zd_LassoFinderModel_settled_70 : decode prog_14_method_53_code 70 = .ok (.iconst 1, 1) := by decide +kernel
theorem zd_LassoFinderModel_settled_71 : decode prog_14_method_53_code 71 = .ok (.iand, 1) := by decide +kernel
theorem zd_LassoFinderModel_settled_72 : decode prog_14_method_53_code 72 = .ok (.goto 12, 3) := by decide +kernel
theorem zd_LassoFinderModel_settled_75 : decode prog_14_method_53_code 75 = .ok (.iload 5, 2) := by decide +kernel
theorem zd_LassoFinderModel_settled_77 : decode prog_14_method_53_code 77 = .ok (.iconst 2, 1) := by decide +kernel
theorem zd_LassoFinderModel_settled_78 : decode prog_14_method_53_code 78 = .ok (.iload 4, 2) := by decide +kernel
theorem zd_LassoFinderModel_settled_80 : decode prog_14_method_53_code 80 = .ok (.imul, 1) := by decide +kernel
theorem zd_LassoFinderModel_settled_81 : decode prog_14_method_53_code 81 = .ok (.ishr, 1) := by decide +kernel
theorem zd_LassoFinderModel_settled_82 : decode prog_14_method_53_code 82 = .ok (.iconst 1, 1) := by decide +kernel
theorem zd_LassoFinderModel_settled_83 : decode prog_14_method_53_code 83 = .ok (.iand, 1) := by decide +kernel
theorem zd_LassoFinderModel_settled_84 : decode prog_14_method_53_code 84 = .ok (.istore 6, 2) := by decide +kernel
theorem zd_LassoFinderModel_settled_86 : decode prog_14_method_53_code 86 = .ok (.iload_n 2, 1) := by decide +kernel
theorem zd_LassoFinderModel_settled_87 : decode prog_14_method_53_code 87 = .ok (.iload 4, 2) := by decide +kernel
theorem zd_LassoFinderModel_settled_89 : decode prog_14_method_53_code 89 = .ok (.ishr, 1) := by decide +kernel
theorem zd_LassoFinderModel_settled_90 : decode prog_14_method_53_code 90 = .ok (.iconst 1, 1) := by decide +kernel
theorem zd_LassoFinderModel_settled_91 : decode prog_14_method_53_code 91 = .ok (.iand, 1) := by decide +kernel
theorem zd_LassoFinderModel_settled_92 : decode prog_14_method_53_code 92 = .ok (.istore 7, 2) := by decide +kernel
theorem zd_LassoFinderModel_settled_94 : decode prog_14_method_53_code 94 = .ok (.aload_n 0, 1) := by decide +kernel
theorem zd_LassoFinderModel_settled_95 : decode prog_14_method_53_code 95 = .ok (.getfield 145, 3) := by decide +kernel
theorem zd_LassoFinderModel_settled_98 : decode prog_14_method_53_code 98 = .ok (.aload_n 0, 1) := by decide +kernel
theorem zd_LassoFinderModel_settled_99 : decode prog_14_method_53_code 99 = .ok (.getfield 151, 3) := by decide +kernel
theorem zd_LassoFinderModel_settled_102 : decode prog_14_method_53_code 102 = .ok (.iload 4, 2) := by decide +kernel
theorem zd_LassoFinderModel_settled_104 : decode prog_14_method_53_code 104 = .ok (.iaload, 1) := by decide +kernel
theorem zd_LassoFinderModel_settled_105 : decode prog_14_method_53_code 105 = .ok (.iaload, 1) := by decide +kernel
theorem zd_LassoFinderModel_settled_106 : decode prog_14_method_53_code 106 = .ok (.bipush 12, 2) := by decide +kernel
theorem zd_LassoFinderModel_settled_108 : decode prog_14_method_53_code 108 = .ok (.if_icmp .eq 20, 3) := by decide +kernel
theorem zd_LassoFinderModel_settled_111 : decode prog_14_method_53_code 111 = .ok (.aload_n 0, 1) := by decide +kernel
theorem zd_LassoFinderModel_settled_112 : decode prog_14_method_53_code 112 = .ok (.getfield 145, 3) := by decide +kernel
theorem zd_LassoFinderModel_settled_115 : decode prog_14_method_53_code 115 = .ok (.aload_n 0, 1) := by decide +kernel
theorem zd_LassoFinderModel_settled_116 : decode prog_14_method_53_code 116 = .ok (.getfield 151, 3) := by decide +kernel
theorem zd_LassoFinderModel_settled_119 : decode prog_14_method_53_code 119 = .ok (.iload 4, 2) := by decide +kernel
theorem zd_LassoFinderModel_settled_121 : decode prog_14_method_53_code 121 = .ok (.iaload, 1) := by decide +kernel
theorem zd_LassoFinderModel_settled_122 : decode prog_14_method_53_code 122 = .ok (.iaload, 1) := by decide +kernel
theorem zd_LassoFinderModel_settled_123 : decode prog_14_method_53_code 123 = .ok (.bipush 15, 2) := by decide +kernel
theorem zd_LassoFinderModel_settled_125 : decode prog_14_method_53_code 125 = .ok (.if_icmp .ne 7, 3) := by decide +kernel
theorem zd_LassoFinderModel_settled_128 : decode prog_14_method_53_code 128 = .ok (.iconst 1, 1) := by decide +kernel
theorem zd_LassoFinderModel_settled_129 : decode prog_14_method_53_code 129 = .ok (.goto 4, 3) := by decide +kernel
theorem zd_LassoFinderModel_settled_132 : decode prog_14_method_53_code 132 = .ok (.iconst 0, 1) := by decide +kernel
theorem zd_LassoFinderModel_settled_133 : decode prog_14_method_53_code 133 = .ok (.istore 8, 2) := by decide +kernel
theorem zd_LassoFinderModel_settled_135 : decode prog_14_method_53_code 135 = .ok (.iload 8, 2) := by decide +kernel
theorem zd_LassoFinderModel_settled_137 : decode prog_14_method_53_code 137 = .ok (.ifCond .eq 17, 3) := by decide +kernel
theorem zd_LassoFinderModel_settled_140 : decode prog_14_method_53_code 140 = .ok (.iload 7, 2) := by decide +kernel
theorem zd_LassoFinderModel_settled_142 : decode prog_14_method_53_code 142 = .ok (.ifCond .eq 23, 3) := by decide +kernel
theorem zd_LassoFinderModel_settled_145 : decode prog_14_method_53_code 145 = .ok (.iload 6, 2) := by decide +kernel
theorem zd_LassoFinderModel_settled_147 : decode prog_14_method_53_code 147 = .ok (.iconst 1, 1) := by decide +kernel
theorem zd_LassoFinderModel_settled_148 : decode prog_14_method_53_code 148 = .ok (.if_icmp .ne 24, 3) := by decide +kernel
theorem zd_LassoFinderModel_settled_151 : decode prog_14_method_53_code 151 = .ok (.goto 14, 3) := by decide +kernel
theorem zd_LassoFinderModel_settled_154 : decode prog_14_method_53_code 154 = .ok (.iload 7, 2) := by decide +kernel
theorem zd_LassoFinderModel_settled_156 : decode prog_14_method_53_code 156 = .ok (.iconst 1, 1) := by decide +kernel
theorem zd_LassoFinderModel_settled_157 : decode prog_14_method_53_code 157 = .ok (.if_icmp .eq 8, 3) := by decide +kernel
theorem zd_LassoFinderModel_settled_160 : decode prog_14_method_53_code 160 = .ok (.iload 6, 2) := by decide +kernel
theorem zd_LassoFinderModel_settled_162 : decode prog_14_method_53_code 162 = .ok (.ifCond .ne 10, 3) := by decide +kernel
theorem zd_LassoFinderModel_settled_165 : decode prog_14_method_53_code 165 = .ok (.iload_n 3, 1) := by decide +kernel
theorem zd_LassoFinderModel_settled_166 : decode prog_14_method_53_code 166 = .ok (.iconst 1, 1) := by decide +kernel
theorem zd_LassoFinderModel_settled_167 : decode prog_14_method_53_code 167 = .ok (.iload 4, 2) := by decide +kernel
theorem zd_LassoFinderModel_settled_169 : decode prog_14_method_53_code 169 = .ok (.ishl, 1) := by decide +kernel
theorem zd_LassoFinderModel_settled_170 : decode prog_14_method_53_code 170 = .ok (.ior, 1) := by decide +kernel
theorem zd_LassoFinderModel_settled_171 : decode prog_14_method_53_code 171 = .ok (.istore_n 3, 1) := by decide +kernel
theorem zd_LassoFinderModel_settled_172 : decode prog_14_method_53_code 172 = .ok (.iinc 4 1, 3) := by decide +kernel
theorem zd_LassoFinderModel_settled_175 : decode prog_14_method_53_code 175 = .ok (.goto (-170), 3) := by decide +kernel
theorem zd_LassoFinderModel_settled_178 : decode prog_14_method_53_code 178 = .ok (.iload_n 3, 1) := by decide +kernel
theorem zd_LassoFinderModel_settled_179 : decode prog_14_method_53_code 179 = .ok (.ireturn, 1) := by decide +kernel
theorem zd_LassoFinderModel_stepOf_0 : decode prog_14_method_58_code 0 = .ok (.aload_n 0, 1) := by decide +kernel
theorem zd_LassoFinderModel_stepOf_1 : decode prog_14_method_58_code 1 = .ok (.iload_n 1, 1) := by decide +kernel
theorem zd_LassoFinderModel_stepOf_2 : decode prog_14_method_58_code 2 = .ok (.iconst 3, 1) := by decide +kernel
theorem zd_LassoFinderModel_stepOf_3 : decode prog_14_method_58_code 3 = .ok (.idiv, 1) := by decide +kernel
theorem zd_LassoFinderModel_stepOf_4 : decode prog_14_method_58_code 4 = .ok (.iaload, 1) := by decide +kernel
theorem zd_LassoFinderModel_stepOf_5 : decode prog_14_method_58_code 5 = .ok (.bipush 9, 2) := by decide +kernel
theorem zd_LassoFinderModel_stepOf_7 : decode prog_14_method_58_code 7 = .ok (.iload_n 1, 1) := by decide +kernel
theorem zd_LassoFinderModel_stepOf_8 : decode prog_14_method_58_code 8 = .ok (.iconst 3, 1) := by decide +kernel
theorem zd_LassoFinderModel_stepOf_9 : decode prog_14_method_58_code 9 = .ok (.irem, 1) := by decide +kernel
theorem zd_LassoFinderModel_stepOf_10 : decode prog_14_method_58_code 10 = .ok (.imul, 1) := by decide +kernel
theorem zd_LassoFinderModel_stepOf_11 : decode prog_14_method_58_code 11 = .ok (.ishr, 1) := by decide +kernel
theorem zd_LassoFinderModel_stepOf_12 : decode prog_14_method_58_code 12 = .ok (.sipush 511, 3) := by decide +kernel
theorem zd_LassoFinderModel_stepOf_15 : decode prog_14_method_58_code 15 = .ok (.iand, 1) := by decide +kernel
theorem zd_LassoFinderModel_stepOf_16 : decode prog_14_method_58_code 16 = .ok (.ireturn, 1) := by decide +kernel
theorem zd_LassoFinderModel_truthAt_0 : decode prog_14_method_52_code 0 = .ok (.iconst 0, 1) := by decide +kernel
theorem zd_LassoFinderModel_truthAt_1 : decode prog_14_method_52_code 1 = .ok (.istore_n 3, 1) := by decide +kernel
theorem zd_LassoFinderModel_truthAt_2 : decode prog_14_method_52_code 2 = .ok (.iconst 0, 1) := by decide +kernel
theorem zd_LassoFinderModel_truthAt_3 : decode prog_14_method_52_code 3 = .ok (.istore 4, 2) := by decide +kernel
theorem zd_LassoFinderModel_truthAt_5 : decode prog_14_method_52_code 5 = .ok (.iload 4, 2) := by decide +kernel
theorem zd_LassoFinderModel_truthAt_7 : decode prog_14_method_52_code 7 = .ok (.aload_n 0, 1) := by decide +kernel
theorem zd_LassoFinderModel_truthAt_8 : decode prog_14_method_52_code 8 = .ok (.getfield 376, 3) := by decide +kernel
theorem zd_LassoFinderModel_truthAt_11 : decode prog_14_method_52_code 11 = .ok (.if_icmp .ge 60, 3) := by decide +kernel
theorem zd_LassoFinderModel_truthAt_14 : decode prog_14_method_52_code 14 = .ok (.aload_n 0, 1) := by decide +kernel
theorem zd_LassoFinderModel_truthAt_15 : decode prog_14_method_52_code 15 = .ok (.getfield 166, 3) := by decide +kernel
theorem zd_LassoFinderModel_truthAt_18 : decode prog_14_method_52_code 18 = .ok (.bipush 8, 2) := by decide +kernel
theorem zd_LassoFinderModel_truthAt_20 : decode prog_14_method_52_code 20 = .ok (.iload_n 1, 1) := by decide +kernel
theorem zd_LassoFinderModel_truthAt_21 : decode prog_14_method_52_code 21 = .ok (.imul, 1) := by decide +kernel
theorem zd_LassoFinderModel_truthAt_22 : decode prog_14_method_52_code 22 = .ok (.iload_n 3, 1) := by decide +kernel
theorem zd_LassoFinderModel_truthAt_23 : decode prog_14_method_52_code 23 = .ok (.iadd, 1) := by decide +kernel
theorem zd_LassoFinderModel_truthAt_24 : decode prog_14_method_52_code 24 = .ok (.iaload, 1) := by decide +kernel
theorem zd_LassoFinderModel_truthAt_25 : decode prog_14_method_52_code 25 = .ok (.istore 5, 2) := by decide +kernel
theorem zd_LassoFinderModel_truthAt_27 : decode prog_14_method_52_code 27 = .ok (.iload_n 3, 1) := by decide +kernel
theorem zd_LassoFinderModel_truthAt_28 : decode prog_14_method_52_code 28 = .ok (.aload_n 0, 1) := by decide +kernel
theorem zd_LassoFinderModel_truthAt_29 : decode prog_14_method_52_code 29 = .ok (.iload 4, 2) := by decide +kernel
theorem zd_LassoFinderModel_truthAt_31 : decode prog_14_method_52_code 31 = .ok (.iload 5, 2) := by decide +kernel
theorem zd_LassoFinderModel_truthAt_33 : decode prog_14_method_52_code 33 = .ok (.iconst 2, 1) := by decide +kernel
theorem zd_LassoFinderModel_truthAt_34 : decode prog_14_method_52_code 34 = .ok (.iload 4, 2) := by decide +kernel
theorem zd_LassoFinderModel_truthAt_36 : decode prog_14_method_52_code 36 = .ok (.imul, 1) := by decide +kernel
theorem zd_LassoFinderModel_truthAt_37 : decode prog_14_method_52_code 37 = .ok (.ishr, 1) := by decide +kernel
theorem zd_LassoFinderModel_truthAt_38 : decode prog_14_method_52_code 38 = .ok (.iconst 1, 1) := by decide +kernel
theorem zd_LassoFinderModel_truthAt_39 : decode prog_14_method_52_code 39 = .ok (.iand, 1) := by decide +kernel
theorem zd_LassoFinderModel_truthAt_40 : decode prog_14_method_52_code 40 = .ok (.iload 5, 2) := by decide +kernel
theorem zd_LassoFinderModel_truthAt_42 : decode prog_14_method_52_code 42 = .ok (.iconst 2, 1) := by decide +kernel
theorem zd_LassoFinderModel_truthAt_43 : decode prog_14_method_52_code 43 = .ok (.iload 4, 2) := by decide +kernel
theorem zd_LassoFinderModel_truthAt_45 : decode prog_14_method_52_code 45 = .ok (.imul, 1) := by decide +kernel
theorem zd_LassoFinderModel_truthAt_46 : decode prog_14_method_52_code 46 = .ok (.iconst 1, 1) := by decide +kernel
theorem zd_LassoFinderModel_truthAt_47 : decode prog_14_method_52_code 47 = .ok (.iadd, 1) := by decide +kernel
theorem zd_LassoFinderModel_truthAt_48 : decode prog_14_method_52_code 48 = .ok (.ishr, 1) := by decide +kernel
theorem zd_LassoFinderModel_truthAt_49 : decode prog_14_method_52_code 49 = .ok (.iconst 1, 1) := by decide +kernel
theorem zd_LassoFinderModel_truthAt_50 : decode prog_14_method_52_code 50 = .ok (.iand, 1) := by decide +kernel
theorem zd_LassoFinderModel_truthAt_51 : decode prog_14_method_52_code 51 = .ok (.iload_n 2, 1) := by decide +kernel
theorem zd_LassoFinderModel_truthAt_52 : decode prog_14_method_52_code 52 = .ok (.iload 4, 2) := by decide +kernel
theorem zd_LassoFinderModel_truthAt_54 : decode prog_14_method_52_code 54 = .ok (.ishr, 1) := by decide +kernel
theorem zd_LassoFinderModel_truthAt_55 : decode prog_14_method_52_code 55 = .ok (.iconst 1, 1) := by decide +kernel
theorem zd_LassoFinderModel_truthAt_56 : decode prog_14_method_52_code 56 = .ok (.iand, 1) := by decide +kernel
theorem zd_LassoFinderModel_truthAt_57 : decode prog_14_method_52_code 57 = .ok (.invokevirtual 415, 3) := by decide +kernel
theorem zd_LassoFinderModel_truthAt_60 : decode prog_14_method_52_code 60 = .ok (.iload 4, 2) := by decide +kernel
theorem zd_LassoFinderModel_truthAt_62 : decode prog_14_method_52_code 62 = .ok (.ishl, 1) := by decide +kernel
theorem zd_LassoFinderModel_truthAt_63 : decode prog_14_method_52_code 63 = .ok (.ior, 1) := by decide +kernel
theorem zd_LassoFinderModel_truthAt_64 : decode prog_14_method_52_code 64 = .ok (.istore_n 3, 1) := by decide +kernel
theorem zd_LassoFinderModel_truthAt_65 : decode prog_14_method_52_code 65 = .ok (.iinc 4 1, 3) := by decide +kernel
theorem zd_LassoFinderModel_truthAt_68 : decode prog_14_method_52_code 68 = .ok (.goto (-63), 3) := by decide +kernel
theorem zd_LassoFinderModel_truthAt_71 : decode prog_14_method_52_code 71 = .ok (.iload_n 3, 1) := by decide +kernel
theorem zd_LassoFinderModel_truthAt_72 : decode prog_14_method_52_code 72 = .ok (.ireturn, 1) := by decide +kernel
def wp_LassoFinderModel_stepOf_ad56 (I : Nat → Int32) (J : Nat → Int64) (B : Nat → Nat → Int32) (D : Nat → Nat → Int64) (a1 : Int32) (Post : Int32 → (Nat → Int32) → (Nat → Int64) → (Nat → Nat → Int32) → (Nat → Nat → Int64) → Prop) : Prop :=
  ∀ z1 : Int32, z1 = (a1 / 3) → vp_in z1 1024 ∧ ∀ z2 : Int32, z2 = ((B 53) z1.toNatClampNeg) → ∀ z3 : Int32, z3 = (a1 - a1 / 3 * 3) → ∀ z4 : Int32, z4 = (9 * z3) → ∀ z5 : Int32, z5 = (z2 >>> (z4 &&& 31)) → ∀ z6 : Int32, z6 = (z5 &&& 511) → Post z6 I J B D
set_option maxHeartbeats 8000000 in
set_option maxRecDepth 100000 in
theorem w_LassoFinderModel_stepOf_ad56 (l : Launch) (G : va_G) (K : Nat → ClassId) (ad : Nat → Nat) (I : Nat → Int32) (J : Nat → Int64) (B : Nat → Nat → Int32) (D : Nat → Nat → Int64) (a1 : Int32) (Post : Int32 → (Nat → Int32) → (Nat → Int64) → (Nat → Nat → Int32) → (Nat → Nat → Int64) → Prop) (sz : Nat) (hok : wp_LassoFinderModel_stepOf_ad56 I J B D a1 Post) : Met l zy_LassoFinderModel_stepOf (Cond.code zy_LassoFinderModel_stepOf prog_14_method_58_code 2 (some .int) :: zTB) { frames := 0, cells := 0, slots := 0, locals := 0 } (va_Pc [.ref (ad 56), .int a1] (zPre G K (wM ad K I J B D) sz)) (va_Qi (fun (r : Int32) (u : zS) => Post r u.1 u.2.1 u.2.2.1 u.2.2.2) (fun u t => zPost G K (va_A (wM ad K I J B D) sz) (wM ad K u.1 u.2.1 u.2.2.1 u.2.2.2) t) (va_A (wM ad K I J B D) sz)) 0 0 (va_A (wM ad K I J B D) sz) := by
  refine zMet (y := zy_LassoFinderModel_stepOf) (av := [.ref (ad 56), .int a1]) (maxL := 2) (cc := prog_14_method_58_code) (ret := (some .int)) (W0 := (wM ad K I J B D)) (sz := sz) (G := G) (K := K) (wt := zTB) (mc := 0) (ms := 0) (Qf := fun A => va_Qi (fun (r : Int32) (u : zS) => Post r u.1 u.2.1 u.2.2.1 u.2.2.2) (fun u t => zPost G K A (wM ad K u.1 u.2.1 u.2.2.1 u.2.2.2) t) A) (by decide) (Nat.le_of_ble_eq_true rfl) ?_
  intro p e s m below meth c ls A hx hb hr hml hts hown hlocks hin hA hK H locs hw hsz hl
  clear hsz
  have hown : s.vm.findClass "LassoFinderModel" = some m.cls := hown
  have C : zCx p s m ([.ref (ad 56), .int a1] : List Value).toArray meth c A G K prog_14_method_58_code (some .int) 2 "LassoFinderModel" := ⟨hx, hb, hr, hml, hts, hown, hlocks, hA, hK⟩
  have hl : lv_has ls 2 [(0, .ref (ad 56)), (1, .int a1)] := hl
  have hw : zW G A s.heap (wM ad K I J B D) H locs := hw
  unfold wp_LassoFinderModel_stepOf_ad56 at hok
  refine lv_aload_n hx hb zd_LassoFinderModel_stepOf_0 rfl (lv_at hl 0 rfl) ?_
  refine lv_iload_n hx hb zd_LassoFinderModel_stepOf_1 rfl (lv_at hl 1 rfl) ?_
  refine lv_iconst (v := 3) hx hb zd_LassoFinderModel_stepOf_2 (by decide) ?_
  refine lv_idiv hx hb zd_LassoFinderModel_stepOf_3 (by decide) ?_
  refine lv_topi (fun z1 ez1 => ?_)
  have hok := hok z1 ez1
  refine va_iald (f := (B 53)) hx hb hK hw.1 56 0 rfl rfl hok.1 zd_LassoFinderModel_stepOf_4 ?_
  have hok := hok.2
  refine lv_topi (fun z2 ez2 => ?_)
  have hok := hok z2 ez2
  refine lv_bipush (v := 9) hx hb zd_LassoFinderModel_stepOf_5 (by decide) ?_
  refine lv_iload_n hx hb zd_LassoFinderModel_stepOf_7 rfl (lv_at hl 1 rfl) ?_
  refine lv_iconst (v := 3) hx hb zd_LassoFinderModel_stepOf_8 (by decide) ?_
  refine lv_irem hx hb zd_LassoFinderModel_stepOf_9 (by decide) ?_
  refine lv_topi (fun z3 ez3 => ?_)
  have hok := hok z3 ez3
  refine lv_imul hx hb zd_LassoFinderModel_stepOf_10 ?_
  refine lv_topi (fun z4 ez4 => ?_)
  have hok := hok z4 ez4
  refine lv_ishr hx hb zd_LassoFinderModel_stepOf_11 ?_
  refine lv_topi (fun z5 ez5 => ?_)
  have hok := hok z5 ez5
  refine lv_sipush (v := 511) hx hb zd_LassoFinderModel_stepOf_12 (by decide) ?_
  refine lv_iand hx hb zd_LassoFinderModel_stepOf_15 ?_
  refine lv_topi (fun z6 ez6 => ?_)
  have hok := hok z6 ez6
  exact z_iret (u := (I, J, B, D)) hx hb hr hlocks rfl hw [0, 1, 2, 3, 4, 5, 6, 7, 8, 9, 10, 11, 12, 13, 14, 15, 16, 17, 18, 19, 20, 21, 22, 23, 24, 25, 26, 27, 28, 29, 30, 31, 32, 33, 34, 35, 36, 37, 38, 39, 40, 41, 42, 43, 44, 45, 46, 47, 48, 49, 50, 51, 52, 53, 54, 55, 56, 57] rfl (by decide) hok (Nat.le_of_ble_eq_true rfl) (Nat.le_of_ble_eq_true rfl) zd_LassoFinderModel_stepOf_16
def wp_LassoFinderModel_keep_ad55 (I : Nat → Int32) (J : Nat → Int64) (B : Nat → Nat → Int32) (D : Nat → Nat → Int64) (a1 : Int32) (a2 : Int32) (Post : (Nat → Int32) → (Nat → Int64) → (Nat → Nat → Int32) → (Nat → Nat → Int64) → Prop) : Prop :=
  ∀ z1 : Int32, z1 = (a1 - a1 / 3 * 3) → ∀ z2 : Int32, z2 = (9 * z1) → ∀ z3 : Int32, z3 = (a1 / 3) → ∀ z4 : Int32, z4 = (a1 / 3) → vp_in z4 1280 ∧ ∀ z5 : Int32, z5 = ((B 52) z4.toNatClampNeg) → ∀ z6 : Int32, z6 = (511 <<< (z2 &&& 31)) → ∀ z7 : Int32, z7 = (z6 ^^^ (-1)) → ∀ z8 : Int32, z8 = (z5 &&& z7) → ∀ z9 : Int32, z9 = (a2 <<< (z2 &&& 31)) → ∀ z10 : Int32, z10 = (z8 ||| z9) → vp_in z3 1280 ∧ Post I J (va_up B 52 (upd (B 52) z3.toNatClampNeg z10)) D
set_option maxHeartbeats 8000000 in
set_option maxRecDepth 100000 in
theorem w_LassoFinderModel_keep_ad55 (l : Launch) (G : va_G) (K : Nat → ClassId) (ad : Nat → Nat) (I : Nat → Int32) (J : Nat → Int64) (B : Nat → Nat → Int32) (D : Nat → Nat → Int64) (a1 : Int32) (a2 : Int32) (Post : (Nat → Int32) → (Nat → Int64) → (Nat → Nat → Int32) → (Nat → Nat → Int64) → Prop) (sz : Nat) (hok : wp_LassoFinderModel_keep_ad55 I J B D a1 a2 Post) : Met l zy_LassoFinderModel_keep (Cond.code zy_LassoFinderModel_keep prog_14_method_59_code 4 none :: zTB) { frames := 0, cells := 0, slots := 0, locals := 0 } (va_Pc [.ref (ad 55), .int a1, .int a2] (zPre G K (wM ad K I J B D) sz)) (va_Qv (fun u : zS => Post u.1 u.2.1 u.2.2.1 u.2.2.2) (fun u t => zPost G K (va_A (wM ad K I J B D) sz) (wM ad K u.1 u.2.1 u.2.2.1 u.2.2.2) t) (va_A (wM ad K I J B D) sz)) 0 0 (va_A (wM ad K I J B D) sz) := by
  refine zMet (y := zy_LassoFinderModel_keep) (av := [.ref (ad 55), .int a1, .int a2]) (maxL := 4) (cc := prog_14_method_59_code) (ret := none) (W0 := (wM ad K I J B D)) (sz := sz) (G := G) (K := K) (wt := zTB) (mc := 0) (ms := 0) (Qf := fun A => va_Qv (fun u : zS => Post u.1 u.2.1 u.2.2.1 u.2.2.2) (fun u t => zPost G K A (wM ad K u.1 u.2.1 u.2.2.1 u.2.2.2) t) A) (by decide) (Nat.le_of_ble_eq_true rfl) ?_
  intro p e s m below meth c ls A hx hb hr hml hts hown hlocks hin hA hK H locs hw hsz hl
  clear hsz
  have hown : s.vm.findClass "LassoFinderModel" = some m.cls := hown
  have C : zCx p s m ([.ref (ad 55), .int a1, .int a2] : List Value).toArray meth c A G K prog_14_method_59_code none 4 "LassoFinderModel" := ⟨hx, hb, hr, hml, hts, hown, hlocks, hA, hK⟩
  have hl : lv_has ls 4 [(0, .ref (ad 55)), (1, .int a1), (2, .int a2)] := hl
  have hw : zW G A s.heap (wM ad K I J B D) H locs := hw
  unfold wp_LassoFinderModel_keep_ad55 at hok
  refine lv_bipush (v := 9) hx hb zd_LassoFinderModel_keep_0 (by decide) ?_
  refine lv_iload_n hx hb zd_LassoFinderModel_keep_2 rfl (lv_at hl 1 rfl) ?_
  refine lv_iconst (v := 3) hx hb zd_LassoFinderModel_keep_3 (by decide) ?_
  refine lv_irem hx hb zd_LassoFinderModel_keep_4 (by decide) ?_
  refine lv_topi (fun z1 ez1 => ?_)
  have hok := hok z1 ez1
  refine lv_imul hx hb zd_LassoFinderModel_keep_5 ?_
  refine lv_topi (fun z2 ez2 => ?_)
  have hok := hok z2 ez2
  refine lv_istore_n hx hb zd_LassoFinderModel_keep_6 rfl hl (by decide) rfl (fun ls hl => ?_)
  have hl : lv_has ls 4 [(3, .int z2), (0, .ref (ad 55)), (1, .int a1), (2, .int a2)] := hl
  refine lv_aload_n hx hb zd_LassoFinderModel_keep_7 rfl (lv_at hl 1 rfl) ?_
  refine lv_iload_n hx hb zd_LassoFinderModel_keep_8 rfl (lv_at hl 2 rfl) ?_
  refine lv_iconst (v := 3) hx hb zd_LassoFinderModel_keep_9 (by decide) ?_
  refine lv_idiv hx hb zd_LassoFinderModel_keep_10 (by decide) ?_
  refine lv_topi (fun z3 ez3 => ?_)
  have hok := hok z3 ez3
  refine lv_aload_n hx hb zd_LassoFinderModel_keep_11 rfl (lv_at hl 1 rfl) ?_
  refine lv_iload_n hx hb zd_LassoFinderModel_keep_12 rfl (lv_at hl 2 rfl) ?_
  refine lv_iconst (v := 3) hx hb zd_LassoFinderModel_keep_13 (by decide) ?_
  refine lv_idiv hx hb zd_LassoFinderModel_keep_14 (by decide) ?_
  refine lv_topi (fun z4 ez4 => ?_)
  have hok := hok z4 ez4
  refine va_iald (f := (B 52)) hx hb hK hw.1 55 0 rfl rfl hok.1 zd_LassoFinderModel_keep_15 ?_
  have hok := hok.2
  refine lv_topi (fun z5 ez5 => ?_)
  have hok := hok z5 ez5
  refine lv_sipush (v := 511) hx hb zd_LassoFinderModel_keep_16 (by decide) ?_
  refine lv_iload_n hx hb zd_LassoFinderModel_keep_19 rfl (lv_at hl 0 rfl) ?_
  refine lv_ishl hx hb zd_LassoFinderModel_keep_20 ?_
  refine lv_topi (fun z6 ez6 => ?_)
  have hok := hok z6 ez6
  refine lv_iconst (v := (-1)) hx hb zd_LassoFinderModel_keep_21 (by decide) ?_
  refine lv_ixor hx hb zd_LassoFinderModel_keep_22 ?_
  refine lv_topi (fun z7 ez7 => ?_)
  have hok := hok z7 ez7
  refine lv_iand hx hb zd_LassoFinderModel_keep_23 ?_
  refine lv_topi (fun z8 ez8 => ?_)
  have hok := hok z8 ez8
  refine lv_iload_n hx hb zd_LassoFinderModel_keep_24 rfl (lv_at hl 3 rfl) ?_
  refine lv_iload_n hx hb zd_LassoFinderModel_keep_25 rfl (lv_at hl 0 rfl) ?_
  refine lv_ishl hx hb zd_LassoFinderModel_keep_26 ?_
  refine lv_topi (fun z9 ez9 => ?_)
  have hok := hok z9 ez9
  refine lv_ior hx hb zd_LassoFinderModel_keep_27 ?_
  refine lv_topi (fun z10 ez10 => ?_)
  have hok := hok z10 ez10
  refine va_iast (f := (B 52)) hx hb hK hw.1 hw.2.1 hw.2.2 55 0 rfl rfl hok.1 zd_LassoFinderModel_keep_28 (fun H locs w91 w92 w93 => ?_)
  have hok := hok.2
  have hw : zW G A s.heap _ H locs := ⟨w91, w92, w93⟩
  have hw : zW G A s.heap (wM ad K I J (va_up B 52 (upd (B 52) z3.toNatClampNeg z10)) D) H locs := hw
  exact z_vret (u := (I, J, (va_up B 52 (upd (B 52) z3.toNatClampNeg z10)), D)) hx hb hr hlocks hw [0, 1, 2, 3, 4, 5, 6, 7, 8, 9, 10, 11, 12, 13, 14, 15, 16, 17, 18, 19, 20, 21, 22, 23, 24, 25, 26, 27, 28, 29, 30, 31, 32, 33, 34, 35, 36, 37, 38, 39, 40, 41, 42, 43, 44, 45, 46, 47, 48, 49, 50, 51, 52, 53, 54, 55, 56, 57] rfl (by decide) hok (Nat.le_of_ble_eq_true rfl) (Nat.le_of_ble_eq_true rfl) zd_LassoFinderModel_keep_29
def wp_LassoFinderModel_keep_ad56 (I : Nat → Int32) (J : Nat → Int64) (B : Nat → Nat → Int32) (D : Nat → Nat → Int64) (a1 : Int32) (a2 : Int32) (Post : (Nat → Int32) → (Nat → Int64) → (Nat → Nat → Int32) → (Nat → Nat → Int64) → Prop) : Prop :=
  ∀ z1 : Int32, z1 = (a1 - a1 / 3 * 3) → ∀ z2 : Int32, z2 = (9 * z1) → ∀ z3 : Int32, z3 = (a1 / 3) → ∀ z4 : Int32, z4 = (a1 / 3) → vp_in z4 1024 ∧ ∀ z5 : Int32, z5 = ((B 53) z4.toNatClampNeg) → ∀ z6 : Int32, z6 = (511 <<< (z2 &&& 31)) → ∀ z7 : Int32, z7 = (z6 ^^^ (-1)) → ∀ z8 : Int32, z8 = (z5 &&& z7) → ∀ z9 : Int32, z9 = (a2 <<< (z2 &&& 31)) → ∀ z10 : Int32, z10 = (z8 ||| z9) → vp_in z3 1024 ∧ Post I J (va_up B 53 (upd (B 53) z3.toNatClampNeg z10)) D
set_option maxHeartbeats 8000000 in
set_option maxRecDepth 100000 in
theorem w_LassoFinderModel_keep_ad56 (l : Launch) (G : va_G) (K : Nat → ClassId) (ad : Nat → Nat) (I : Nat → Int32) (J : Nat → Int64) (B : Nat → Nat → Int32) (D : Nat → Nat → Int64) (a1 : Int32) (a2 : Int32) (Post : (Nat → Int32) → (Nat → Int64) → (Nat → Nat → Int32) → (Nat → Nat → Int64) → Prop) (sz : Nat) (hok : wp_LassoFinderModel_keep_ad56 I J B D a1 a2 Post) : Met l zy_LassoFinderModel_keep (Cond.code zy_LassoFinderModel_keep prog_14_method_59_code 4 none :: zTB) { frames := 0, cells := 0, slots := 0, locals := 0 } (va_Pc [.ref (ad 56), .int a1, .int a2] (zPre G K (wM ad K I J B D) sz)) (va_Qv (fun u : zS => Post u.1 u.2.1 u.2.2.1 u.2.2.2) (fun u t => zPost G K (va_A (wM ad K I J B D) sz) (wM ad K u.1 u.2.1 u.2.2.1 u.2.2.2) t) (va_A (wM ad K I J B D) sz)) 0 0 (va_A (wM ad K I J B D) sz) := by
  refine zMet (y := zy_LassoFinderModel_keep) (av := [.ref (ad 56), .int a1, .int a2]) (maxL := 4) (cc := prog_14_method_59_code) (ret := none) (W0 := (wM ad K I J B D)) (sz := sz) (G := G) (K := K) (wt := zTB) (mc := 0) (ms := 0) (Qf := fun A => va_Qv (fun u : zS => Post u.1 u.2.1 u.2.2.1 u.2.2.2) (fun u t => zPost G K A (wM ad K u.1 u.2.1 u.2.2.1 u.2.2.2) t) A) (by decide) (Nat.le_of_ble_eq_true rfl) ?_
  intro p e s m below meth c ls A hx hb hr hml hts hown hlocks hin hA hK H locs hw hsz hl
  clear hsz
  have hown : s.vm.findClass "LassoFinderModel" = some m.cls := hown
  have C : zCx p s m ([.ref (ad 56), .int a1, .int a2] : List Value).toArray meth c A G K prog_14_method_59_code none 4 "LassoFinderModel" := ⟨hx, hb, hr, hml, hts, hown, hlocks, hA, hK⟩
  have hl : lv_has ls 4 [(0, .ref (ad 56)), (1, .int a1), (2, .int a2)] := hl
  have hw : zW G A s.heap (wM ad K I J B D) H locs := hw
  unfold wp_LassoFinderModel_keep_ad56 at hok
  refine lv_bipush (v := 9) hx hb zd_LassoFinderModel_keep_0 (by decide) ?_
  refine lv_iload_n hx hb zd_LassoFinderModel_keep_2 rfl (lv_at hl 1 rfl) ?_
  refine lv_iconst (v := 3) hx hb zd_LassoFinderModel_keep_3 (by decide) ?_
  refine lv_irem hx hb zd_LassoFinderModel_keep_4 (by decide) ?_
  refine lv_topi (fun z1 ez1 => ?_)
  have hok := hok z1 ez1
  refine lv_imul hx hb zd_LassoFinderModel_keep_5 ?_
  refine lv_topi (fun z2 ez2 => ?_)
  have hok := hok z2 ez2
  refine lv_istore_n hx hb zd_LassoFinderModel_keep_6 rfl hl (by decide) rfl (fun ls hl => ?_)
  have hl : lv_has ls 4 [(3, .int z2), (0, .ref (ad 56)), (1, .int a1), (2, .int a2)] := hl
  refine lv_aload_n hx hb zd_LassoFinderModel_keep_7 rfl (lv_at hl 1 rfl) ?_
  refine lv_iload_n hx hb zd_LassoFinderModel_keep_8 rfl (lv_at hl 2 rfl) ?_
  refine lv_iconst (v := 3) hx hb zd_LassoFinderModel_keep_9 (by decide) ?_
  refine lv_idiv hx hb zd_LassoFinderModel_keep_10 (by decide) ?_
  refine lv_topi (fun z3 ez3 => ?_)
  have hok := hok z3 ez3
  refine lv_aload_n hx hb zd_LassoFinderModel_keep_11 rfl (lv_at hl 1 rfl) ?_
  refine lv_iload_n hx hb zd_LassoFinderModel_keep_12 rfl (lv_at hl 2 rfl) ?_
  refine lv_iconst (v := 3) hx hb zd_LassoFinderModel_keep_13 (by decide) ?_
  refine lv_idiv hx hb zd_LassoFinderModel_keep_14 (by decide) ?_
  refine lv_topi (fun z4 ez4 => ?_)
  have hok := hok z4 ez4
  refine va_iald (f := (B 53)) hx hb hK hw.1 56 0 rfl rfl hok.1 zd_LassoFinderModel_keep_15 ?_
  have hok := hok.2
  refine lv_topi (fun z5 ez5 => ?_)
  have hok := hok z5 ez5
  refine lv_sipush (v := 511) hx hb zd_LassoFinderModel_keep_16 (by decide) ?_
  refine lv_iload_n hx hb zd_LassoFinderModel_keep_19 rfl (lv_at hl 0 rfl) ?_
  refine lv_ishl hx hb zd_LassoFinderModel_keep_20 ?_
  refine lv_topi (fun z6 ez6 => ?_)
  have hok := hok z6 ez6
  refine lv_iconst (v := (-1)) hx hb zd_LassoFinderModel_keep_21 (by decide) ?_
  refine lv_ixor hx hb zd_LassoFinderModel_keep_22 ?_
  refine lv_topi (fun z7 ez7 => ?_)
  have hok := hok z7 ez7
  refine lv_iand hx hb zd_LassoFinderModel_keep_23 ?_
  refine lv_topi (fun z8 ez8 => ?_)
  have hok := hok z8 ez8
  refine lv_iload_n hx hb zd_LassoFinderModel_keep_24 rfl (lv_at hl 3 rfl) ?_
  refine lv_iload_n hx hb zd_LassoFinderModel_keep_25 rfl (lv_at hl 0 rfl) ?_
  refine lv_ishl hx hb zd_LassoFinderModel_keep_26 ?_
  refine lv_topi (fun z9 ez9 => ?_)
  have hok := hok z9 ez9
  refine lv_ior hx hb zd_LassoFinderModel_keep_27 ?_
  refine lv_topi (fun z10 ez10 => ?_)
  have hok := hok z10 ez10
  refine va_iast (f := (B 53)) hx hb hK hw.1 hw.2.1 hw.2.2 56 0 rfl rfl hok.1 zd_LassoFinderModel_keep_28 (fun H locs w91 w92 w93 => ?_)
  have hok := hok.2
  have hw : zW G A s.heap _ H locs := ⟨w91, w92, w93⟩
  have hw : zW G A s.heap (wM ad K I J (va_up B 53 (upd (B 53) z3.toNatClampNeg z10)) D) H locs := hw
  exact z_vret (u := (I, J, (va_up B 53 (upd (B 53) z3.toNatClampNeg z10)), D)) hx hb hr hlocks hw [0, 1, 2, 3, 4, 5, 6, 7, 8, 9, 10, 11, 12, 13, 14, 15, 16, 17, 18, 19, 20, 21, 22, 23, 24, 25, 26, 27, 28, 29, 30, 31, 32, 33, 34, 35, 36, 37, 38, 39, 40, 41, 42, 43, 44, 45, 46, 47, 48, 49, 50, 51, 52, 53, 54, 55, 56, 57] rfl (by decide) hok (Nat.le_of_ble_eq_true rfl) (Nat.le_of_ble_eq_true rfl) zd_LassoFinderModel_keep_29
def wc_LassoFinderModel_away_23 (a0 : Int32) (Post : Int32 → (Nat → Int32) → (Nat → Int64) → (Nat → Nat → Int32) → (Nat → Nat → Int64) → Prop) (y0 : Int32) (I : Nat → Int32) (J : Nat → Int64) (B : Nat → Nat → Int32) (D : Nat → Nat → Int64) : Prop :=
  Post y0 I J B D
def wp_LassoFinderModel_away (I : Nat → Int32) (J : Nat → Int64) (B : Nat → Nat → Int32) (D : Nat → Nat → Int64) (a0 : Int32) (Post : Int32 → (Nat → Int32) → (Nat → Int64) → (Nat → Nat → Int32) → (Nat → Nat → Int64) → Prop) : Prop :=
  vp_in a0 6144 ∧ ∀ z1 : Int32, z1 = ((B 51) a0.toNatClampNeg) → (((0 : Int32) ≤ z1 → vp_in a0 6144 ∧ ∀ z3 : Int32, z3 = ((B 51) a0.toNatClampNeg) → ∀ z4 : Int32, z4 = (z3 &&& 4095) → wc_LassoFinderModel_away_23 a0 Post z4 I J B D) ∧ (¬ (0 : Int32) ≤ z1 → wc_LassoFinderModel_away_23 a0 Post (-1) I J B D))
set_option maxHeartbeats 8000000 in
set_option maxRecDepth 100000 in
theorem wJ_LassoFinderModel_away_23 {p : Program} {l : Launch} {e : Env} {s : State} {m : MethodId} {below : List Frame} {meth : Method} {c : Code} {A : Nat → Prop} (G : va_G) (K : Nat → ClassId) (ad : Nat → Nat) (a0 : Int32) (Post : Int32 → (Nat → Int32) → (Nat → Int64) → (Nat → Nat → Int32) → (Nat → Nat → Int64) → Prop) (C : zCx p s m ([.ref (ad 0), .int a0] : List Value).toArray meth c A G K prog_14_method_55_code (some .int) 2 "LassoFinderModel") : ∀ (y0 : Int32) (I : Nat → Int32) (J : Nat → Int64) (B : Nat → Nat → Int32) (D : Nat → Nat → Int64) (ls : Array Slot) (H : Heap) (locs : List Loc), wc_LassoFinderModel_away_23 a0 Post y0 I J B D → lv_has ls 2 [] → zW G A s.heap (wM ad K I J B D) H locs → W p l e { frames := 0, cells := 0, slots := 0, locals := 0 } s m ([.ref (ad 0), .int a0] : List Value).toArray below meth c H locs 0 0 (MQ below (va_Qi (fun (r : Int32) (u : zS) => Post r u.1 u.2.1 u.2.2.1 u.2.2.2) (fun u t => zPost G K A (wM ad K u.1 u.2.1 u.2.2.1 u.2.2.2) t) A) ([.ref (ad 0), .int a0] : List Value).toArray s 0 0 A) (F0 m 23 ls [.int y0]) := by
  obtain ⟨hx, hb, hr, hml, hts, hown, hlocks, hA, hK⟩ := id C
  intro y0 I J B D ls H locs hok hl hw
  unfold wc_LassoFinderModel_away_23 at hok
  exact z_iret (u := (I, J, B, D)) hx hb hr hlocks rfl hw [0, 1, 2, 3, 4, 5, 6, 7, 8, 9, 10, 11, 12, 13, 14, 15, 16, 17, 18, 19, 20, 21, 22, 23, 24, 25, 26, 27, 28, 29, 30, 31, 32, 33, 34, 35, 36, 37, 38, 39, 40, 41, 42, 43, 44, 45, 46, 47, 48, 49, 50, 51, 52, 53, 54, 55, 56, 57] rfl (by decide) hok (Nat.le_of_ble_eq_true rfl) (Nat.le_of_ble_eq_true rfl) zd_LassoFinderModel_away_23
set_option maxHeartbeats 8000000 in
set_option maxRecDepth 100000 in
theorem w_LassoFinderModel_away (l : Launch) (G : va_G) (K : Nat → ClassId) (ad : Nat → Nat) (I : Nat → Int32) (J : Nat → Int64) (B : Nat → Nat → Int32) (D : Nat → Nat → Int64) (a0 : Int32) (Post : Int32 → (Nat → Int32) → (Nat → Int64) → (Nat → Nat → Int32) → (Nat → Nat → Int64) → Prop) (sz : Nat) (hok : wp_LassoFinderModel_away I J B D a0 Post) : Met l zy_LassoFinderModel_away (Cond.code zy_LassoFinderModel_away prog_14_method_55_code 2 (some .int) :: zTB) { frames := 0, cells := 0, slots := 0, locals := 0 } (va_Pc [.ref (ad 0), .int a0] (zPre G K (wM ad K I J B D) sz)) (va_Qi (fun (r : Int32) (u : zS) => Post r u.1 u.2.1 u.2.2.1 u.2.2.2) (fun u t => zPost G K (va_A (wM ad K I J B D) sz) (wM ad K u.1 u.2.1 u.2.2.1 u.2.2.2) t) (va_A (wM ad K I J B D) sz)) 0 0 (va_A (wM ad K I J B D) sz) := by
  refine zMet (y := zy_LassoFinderModel_away) (av := [.ref (ad 0), .int a0]) (maxL := 2) (cc := prog_14_method_55_code) (ret := (some .int)) (W0 := (wM ad K I J B D)) (sz := sz) (G := G) (K := K) (wt := zTB) (mc := 0) (ms := 0) (Qf := fun A => va_Qi (fun (r : Int32) (u : zS) => Post r u.1 u.2.1 u.2.2.1 u.2.2.2) (fun u t => zPost G K A (wM ad K u.1 u.2.1 u.2.2.1 u.2.2.2) t) A) (by decide) (Nat.le_of_ble_eq_true rfl) ?_
  intro p e s m below meth c ls A hx hb hr hml hts hown hlocks hin hA hK H locs hw hsz hl
  clear hsz
  have hown : s.vm.findClass "LassoFinderModel" = some m.cls := hown
  have C : zCx p s m ([.ref (ad 0), .int a0] : List Value).toArray meth c A G K prog_14_method_55_code (some .int) 2 "LassoFinderModel" := ⟨hx, hb, hr, hml, hts, hown, hlocks, hA, hK⟩
  have hl : lv_has ls 2 [(0, .ref (ad 0)), (1, .int a0)] := hl
  have hw : zW G A s.heap (wM ad K I J B D) H locs := hw
  unfold wp_LassoFinderModel_away at hok
  refine lv_aload_n hx hb zd_LassoFinderModel_away_0 rfl (lv_at hl 0 rfl) ?_
  refine z_get (v := .ref (ad 54)) hx hb hts hown hK hw zZ12 0 rfl 77 (by decide) zm_288 rfl zd_LassoFinderModel_away_1 ?_
  refine lv_iload_n hx hb zd_LassoFinderModel_away_4 rfl (lv_at hl 1 rfl) ?_
  refine va_iald (f := (B 51)) hx hb hK hw.1 54 0 rfl rfl hok.1 zd_LassoFinderModel_away_5 ?_
  have hok := hok.2
  refine lv_topi (fun z1 ez1 => ?_)
  have hok := hok z1 ez1
  refine lv_if_ge (tgt := 13) hx hb zd_LassoFinderModel_away_6 (by decide) (fun hc2 => ?_) (fun hc2 => ?_)
  · have hok := hok.1 hc2
    refine lv_aload_n hx hb zd_LassoFinderModel_away_13 rfl (lv_at hl 0 rfl) ?_
    refine z_get (v := .ref (ad 54)) hx hb hts hown hK hw zZ12 0 rfl 77 (by decide) zm_288 rfl zd_LassoFinderModel_away_14 ?_
    refine lv_iload_n hx hb zd_LassoFinderModel_away_17 rfl (lv_at hl 1 rfl) ?_
    refine va_iald (f := (B 51)) hx hb hK hw.1 54 0 rfl rfl hok.1 zd_LassoFinderModel_away_18 ?_
    have hok := hok.2
    refine lv_topi (fun z3 ez3 => ?_)
    have hok := hok z3 ez3
    refine lv_sipush (v := 4095) hx hb zd_LassoFinderModel_away_19 (by decide) ?_
    refine lv_iand hx hb zd_LassoFinderModel_away_22 ?_
    refine lv_topi (fun z4 ez4 => ?_)
    have hok := hok z4 ez4
    exact wJ_LassoFinderModel_away_23 G K ad a0 Post C z4 I J B D ls H locs hok (lv_sub hl [] rfl) hw
  · have hok := hok.2 hc2
    refine lv_iconst (v := (-1)) hx hb zd_LassoFinderModel_away_9 (by decide) ?_
    refine lv_goto (tgt := 23) hx hb zd_LassoFinderModel_away_10 (by decide) ?_
    exact wJ_LassoFinderModel_away_23 G K ad a0 Post C (-1) I J B D ls H locs hok (lv_sub hl [] rfl) hw
def wc_LassoFinderModel_before_63 (a0 : Int32) (a1 : Int32) (a2 : Int32) (a3 : Int32) (Post : Int32 → (Nat → Int32) → (Nat → Int64) → (Nat → Nat → Int32) → (Nat → Nat → Int64) → Prop) (y0 : Int32) (I : Nat → Int32) (J : Nat → Int64) (B : Nat → Nat → Int32) (D : Nat → Nat → Int64) : Prop :=
  Post y0 I J B D
def wp_LassoFinderModel_before (I : Nat → Int32) (J : Nat → Int64) (B : Nat → Nat → Int32) (D : Nat → Nat → Int64) (a0 : Int32) (a1 : Int32) (a2 : Int32) (a3 : Int32) (Post : Int32 → (Nat → Int32) → (Nat → Int64) → (Nat → Nat → Int32) → (Nat → Nat → Int64) → Prop) : Prop :=
  vp_in a0 3 ∧ ∀ z1 : Int32, z1 = ((B 43) a0.toNatClampNeg) → vp_in z1 240 ∧ ∀ z2 : Int32, z2 = ((B 41) z1.toNatClampNeg) → ((¬ z2 = 14 → ((¬ z2 = 15 → ((¬ z2 = 12 → ∀ z6 : Int32, z6 = (a1 ||| a3) → ∀ z7 : Int32, z7 = (a2 &&& z6) → wc_LassoFinderModel_before_63 a0 a1 a2 a3 Post z7 I J B D) ∧ (z2 = 12 → ∀ z8 : Int32, z8 = (a1 &&& a3) → ∀ z9 : Int32, z9 = (a2 ||| z8) → wc_LassoFinderModel_before_63 a0 a1 a2 a3 Post z9 I J B D))) ∧ (z2 = 15 → ∀ z10 : Int32, z10 = (a1 ||| a3) → wc_LassoFinderModel_before_63 a0 a1 a2 a3 Post z10 I J B D))) ∧ (z2 = 14 → ∀ z11 : Int32, z11 = (a1 &&& a3) → wc_LassoFinderModel_before_63 a0 a1 a2 a3 Post z11 I J B D))
set_option maxHeartbeats 8000000 in
set_option maxRecDepth 100000 in
theorem wJ_LassoFinderModel_before_63 {p : Program} {l : Launch} {e : Env} {s : State} {m : MethodId} {below : List Frame} {meth : Method} {c : Code} {A : Nat → Prop} (G : va_G) (K : Nat → ClassId) (ad : Nat → Nat) (a0 : Int32) (a1 : Int32) (a2 : Int32) (a3 : Int32) (Post : Int32 → (Nat → Int32) → (Nat → Int64) → (Nat → Nat → Int32) → (Nat → Nat → Int64) → Prop) (C : zCx p s m ([.ref (ad 0), .int a0, .int a1, .int a2, .int a3] : List Value).toArray meth c A G K prog_14_method_51_code (some .int) 6 "LassoFinderModel") : ∀ (y0 : Int32) (I : Nat → Int32) (J : Nat → Int64) (B : Nat → Nat → Int32) (D : Nat → Nat → Int64) (ls : Array Slot) (H : Heap) (locs : List Loc), wc_LassoFinderModel_before_63 a0 a1 a2 a3 Post y0 I J B D → lv_has ls 6 [] → zW G A s.heap (wM ad K I J B D) H locs → W p l e { frames := 0, cells := 0, slots := 0, locals := 0 } s m ([.ref (ad 0), .int a0, .int a1, .int a2, .int a3] : List Value).toArray below meth c H locs 0 0 (MQ below (va_Qi (fun (r : Int32) (u : zS) => Post r u.1 u.2.1 u.2.2.1 u.2.2.2) (fun u t => zPost G K A (wM ad K u.1 u.2.1 u.2.2.1 u.2.2.2) t) A) ([.ref (ad 0), .int a0, .int a1, .int a2, .int a3] : List Value).toArray s 0 0 A) (F0 m 63 ls [.int y0]) := by
  obtain ⟨hx, hb, hr, hml, hts, hown, hlocks, hA, hK⟩ := id C
  intro y0 I J B D ls H locs hok hl hw
  unfold wc_LassoFinderModel_before_63 at hok
  exact z_iret (u := (I, J, B, D)) hx hb hr hlocks rfl hw [0, 1, 2, 3, 4, 5, 6, 7, 8, 9, 10, 11, 12, 13, 14, 15, 16, 17, 18, 19, 20, 21, 22, 23, 24, 25, 26, 27, 28, 29, 30, 31, 32, 33, 34, 35, 36, 37, 38, 39, 40, 41, 42, 43, 44, 45, 46, 47, 48, 49, 50, 51, 52, 53, 54, 55, 56, 57] rfl (by decide) hok (Nat.le_of_ble_eq_true rfl) (Nat.le_of_ble_eq_true rfl) zd_LassoFinderModel_before_63
set_option maxHeartbeats 8000000 in
set_option maxRecDepth 100000 in
theorem w_LassoFinderModel_before (l : Launch) (G : va_G) (K : Nat → ClassId) (ad : Nat → Nat) (I : Nat → Int32) (J : Nat → Int64) (B : Nat → Nat → Int32) (D : Nat → Nat → Int64) (a0 : Int32) (a1 : Int32) (a2 : Int32) (a3 : Int32) (Post : Int32 → (Nat → Int32) → (Nat → Int64) → (Nat → Nat → Int32) → (Nat → Nat → Int64) → Prop) (sz : Nat) (hok : wp_LassoFinderModel_before I J B D a0 a1 a2 a3 Post) : Met l zy_LassoFinderModel_before (Cond.code zy_LassoFinderModel_before prog_14_method_51_code 6 (some .int) :: zTB) { frames := 0, cells := 0, slots := 0, locals := 0 } (va_Pc [.ref (ad 0), .int a0, .int a1, .int a2, .int a3] (zPre G K (wM ad K I J B D) sz)) (va_Qi (fun (r : Int32) (u : zS) => Post r u.1 u.2.1 u.2.2.1 u.2.2.2) (fun u t => zPost G K (va_A (wM ad K I J B D) sz) (wM ad K u.1 u.2.1 u.2.2.1 u.2.2.2) t) (va_A (wM ad K I J B D) sz)) 0 0 (va_A (wM ad K I J B D) sz) := by
  refine zMet (y := zy_LassoFinderModel_before) (av := [.ref (ad 0), .int a0, .int a1, .int a2, .int a3]) (maxL := 6) (cc := prog_14_method_51_code) (ret := (some .int)) (W0 := (wM ad K I J B D)) (sz := sz) (G := G) (K := K) (wt := zTB) (mc := 0) (ms := 0) (Qf := fun A => va_Qi (fun (r : Int32) (u : zS) => Post r u.1 u.2.1 u.2.2.1 u.2.2.2) (fun u t => zPost G K A (wM ad K u.1 u.2.1 u.2.2.1 u.2.2.2) t) A) (by decide) (Nat.le_of_ble_eq_true rfl) ?_
  intro p e s m below meth c ls A hx hb hr hml hts hown hlocks hin hA hK H locs hw hsz hl
  clear hsz
  have hown : s.vm.findClass "LassoFinderModel" = some m.cls := hown
  have C : zCx p s m ([.ref (ad 0), .int a0, .int a1, .int a2, .int a3] : List Value).toArray meth c A G K prog_14_method_51_code (some .int) 6 "LassoFinderModel" := ⟨hx, hb, hr, hml, hts, hown, hlocks, hA, hK⟩
  have hl : lv_has ls 6 [(0, .ref (ad 0)), (1, .int a0), (2, .int a1), (3, .int a2), (4, .int a3)] := hl
  have hw : zW G A s.heap (wM ad K I J B D) H locs := hw
  unfold wp_LassoFinderModel_before at hok
  refine lv_aload_n hx hb zd_LassoFinderModel_before_0 rfl (lv_at hl 0 rfl) ?_
  refine z_get (v := .ref (ad 44)) hx hb hts hown hK hw zZ12 0 rfl 63 (by decide) zm_278 rfl zd_LassoFinderModel_before_1 ?_
  refine lv_aload_n hx hb zd_LassoFinderModel_before_4 rfl (lv_at hl 0 rfl) ?_
  refine z_get (v := .ref (ad 46)) hx hb hts hown hK hw zZ12 0 rfl 68 (by decide) zm_280 rfl zd_LassoFinderModel_before_5 ?_
  refine lv_iload_n hx hb zd_LassoFinderModel_before_8 rfl (lv_at hl 1 rfl) ?_
  refine va_iald (f := (B 43)) hx hb hK hw.1 46 0 rfl rfl hok.1 zd_LassoFinderModel_before_9 ?_
  have hok := hok.2
  refine lv_topi (fun z1 ez1 => ?_)
  have hok := hok z1 ez1
  refine va_iald (f := (B 41)) hx hb hK hw.1 44 0 rfl rfl hok.1 zd_LassoFinderModel_before_10 ?_
  have hok := hok.2
  refine lv_topi (fun z2 ez2 => ?_)
  have hok := hok z2 ez2
  refine lv_istore hx hb zd_LassoFinderModel_before_11 hl (by decide) rfl (fun ls hl => ?_)
  have hl : lv_has ls 6 [(5, .int z2), (0, .ref (ad 0)), (1, .int a0), (2, .int a1), (3, .int a2), (4, .int a3)] := hl
  refine lv_iload hx hb zd_LassoFinderModel_before_13 (lv_at hl 0 rfl) ?_
  refine lv_bipush (v := 14) hx hb zd_LassoFinderModel_before_15 (by decide) ?_
  refine lv_icmp_ne (tgt := 27) hx hb zd_LassoFinderModel_before_17 (by decide) (fun hc3 => ?_) (fun hc3 => ?_)
  · have hok := hok.1 hc3
    refine lv_iload hx hb zd_LassoFinderModel_before_27 (lv_at hl 0 rfl) ?_
    refine lv_bipush (v := 15) hx hb zd_LassoFinderModel_before_29 (by decide) ?_
    refine lv_icmp_ne (tgt := 41) hx hb zd_LassoFinderModel_before_31 (by decide) (fun hc4 => ?_) (fun hc4 => ?_)
    · have hok := hok.1 hc4
      refine lv_iload hx hb zd_LassoFinderModel_before_41 (lv_at hl 0 rfl) ?_
      refine lv_bipush (v := 12) hx hb zd_LassoFinderModel_before_43 (by decide) ?_
      refine lv_icmp_ne (tgt := 57) hx hb zd_LassoFinderModel_before_45 (by decide) (fun hc5 => ?_) (fun hc5 => ?_)
      · have hok := hok.1 hc5
        refine lv_iload_n hx hb zd_LassoFinderModel_before_57 rfl (lv_at hl 4 rfl) ?_
        refine lv_iload_n hx hb zd_LassoFinderModel_before_58 rfl (lv_at hl 3 rfl) ?_
        refine lv_iload hx hb zd_LassoFinderModel_before_59 (lv_at hl 5 rfl) ?_
        refine lv_ior hx hb zd_LassoFinderModel_before_61 ?_
        refine lv_topi (fun z6 ez6 => ?_)
        have hok := hok z6 ez6
        refine lv_iand hx hb zd_LassoFinderModel_before_62 ?_
        refine lv_topi (fun z7 ez7 => ?_)
        have hok := hok z7 ez7
        exact wJ_LassoFinderModel_before_63 G K ad a0 a1 a2 a3 Post C z7 I J B D ls H locs hok (lv_sub hl [] rfl) hw
      · have hok := hok.2 hc5
        refine lv_iload_n hx hb zd_LassoFinderModel_before_48 rfl (lv_at hl 4 rfl) ?_
        refine lv_iload_n hx hb zd_LassoFinderModel_before_49 rfl (lv_at hl 3 rfl) ?_
        refine lv_iload hx hb zd_LassoFinderModel_before_50 (lv_at hl 5 rfl) ?_
        refine lv_iand hx hb zd_LassoFinderModel_before_52 ?_
        refine lv_topi (fun z8 ez8 => ?_)
        have hok := hok z8 ez8
        refine lv_ior hx hb zd_LassoFinderModel_before_53 ?_
        refine lv_topi (fun z9 ez9 => ?_)
        have hok := hok z9 ez9
        refine lv_goto (tgt := 63) hx hb zd_LassoFinderModel_before_54 (by decide) ?_
        exact wJ_LassoFinderModel_before_63 G K ad a0 a1 a2 a3 Post C z9 I J B D ls H locs hok (lv_sub hl [] rfl) hw
    · have hok := hok.2 hc4
      refine lv_iload_n hx hb zd_LassoFinderModel_before_34 rfl (lv_at hl 3 rfl) ?_
      refine lv_iload hx hb zd_LassoFinderModel_before_35 (lv_at hl 5 rfl) ?_
      refine lv_ior hx hb zd_LassoFinderModel_before_37 ?_
      refine lv_topi (fun z10 ez10 => ?_)
      have hok := hok z10 ez10
      refine lv_goto (tgt := 63) hx hb zd_LassoFinderModel_before_38 (by decide) ?_
      exact wJ_LassoFinderModel_before_63 G K ad a0 a1 a2 a3 Post C z10 I J B D ls H locs hok (lv_sub hl [] rfl) hw
  · have hok := hok.2 hc3
    refine lv_iload_n hx hb zd_LassoFinderModel_before_20 rfl (lv_at hl 3 rfl) ?_
    refine lv_iload hx hb zd_LassoFinderModel_before_21 (lv_at hl 5 rfl) ?_
    refine lv_iand hx hb zd_LassoFinderModel_before_23 ?_
    refine lv_topi (fun z11 ez11 => ?_)
    have hok := hok z11 ez11
    refine lv_goto (tgt := 63) hx hb zd_LassoFinderModel_before_24 (by decide) ?_
    exact wJ_LassoFinderModel_before_63 G K ad a0 a1 a2 a3 Post C z11 I J B D ls H locs hok (lv_sub hl [] rfl) hw
def wb_LassoFinderModel_truthAt_5 (a0 : Int32) (a1 : Int32) (K5 : Int32 → Int32 → Int32 → Int32 → (Nat → Int32) → (Nat → Int64) → (Nat → Nat → Int32) → (Nat → Nat → Int64) → Prop) (Post : Int32 → (Nat → Int32) → (Nat → Int64) → (Nat → Nat → Int32) → (Nat → Nat → Int64) → Prop) (x1 : Int32) (x2 : Int32) (x3 : Int32) (x4 : Int32) (I : Nat → Int32) (J : Nat → Int64) (B : Nat → Nat → Int32) (D : Nat → Nat → Int64) : Prop :=
  (((I 20) ≤ x4 → Post x3 I J B D) ∧ (¬ (I 20) ≤ x4 → ∀ z2 : Int32, z2 = (8 * x1) → ∀ z3 : Int32, z3 = (z2 + x3) → vp_in z3 768 ∧ ∀ z4 : Int32, z4 = ((B 48) z3.toNatClampNeg) → ∀ z5 : Int32, z5 = (2 * x4) → ∀ z6 : Int32, z6 = (z4 >>> (z5 &&& 31)) → ∀ z7 : Int32, z7 = (z6 &&& 1) → ∀ z8 : Int32, z8 = (2 * x4) → ∀ z9 : Int32, z9 = (z8 + 1) → ∀ z10 : Int32, z10 = (z4 >>> (z9 &&& 31)) → ∀ z11 : Int32, z11 = (z10 &&& 1) → ∀ z12 : Int32, z12 = (x2 >>> (x4 &&& 31)) → ∀ z13 : Int32, z13 = (z12 &&& 1) → wp_LassoFinderModel_before I J B D x4 z7 z11 z13 (fun r14 I14 J14 B14 D14 => ∀ z15 : Int32, z15 = (r14 <<< (x4 &&& 31)) → ∀ z16 : Int32, z16 = (x3 ||| z15) → ∀ z17 : Int32, z17 = (x4 + 1) → K5 x1 x2 z16 z17 I14 J14 B14 D14)))
def wl_LassoFinderModel_truthAt_5 (a0 : Int32) (a1 : Int32) (Post : Int32 → (Nat → Int32) → (Nat → Int64) → (Nat → Nat → Int32) → (Nat → Nat → Int64) → Prop) (n : Nat) : Int32 → Int32 → Int32 → Int32 → (Nat → Int32) → (Nat → Int64) → (Nat → Nat → Int32) → (Nat → Nat → Int64) → Prop := Nat.rec (fun _ _ _ _ _ _ _ _ => False) (fun _ r => wb_LassoFinderModel_truthAt_5 a0 a1 r Post) n
def wp_LassoFinderModel_truthAt (I : Nat → Int32) (J : Nat → Int64) (B : Nat → Nat → Int32) (D : Nat → Nat → Int64) (a0 : Int32) (a1 : Int32) (Post : Int32 → (Nat → Int32) → (Nat → Int64) → (Nat → Nat → Int32) → (Nat → Nat → Int64) → Prop) : Prop :=
  ∃ n : Nat, wl_LassoFinderModel_truthAt_5 a0 a1 Post n a0 a1 0 0 I J B D
set_option maxHeartbeats 8000000 in
set_option maxRecDepth 100000 in
theorem wB_LassoFinderModel_truthAt_5 {p : Program} {l : Launch} {e : Env} {s : State} {m : MethodId} {below : List Frame} {meth : Method} {c : Code} {A : Nat → Prop} (G : va_G) (K : Nat → ClassId) (ad : Nat → Nat) (a0 : Int32) (a1 : Int32) (Post : Int32 → (Nat → Int32) → (Nat → Int64) → (Nat → Nat → Int32) → (Nat → Nat → Int64) → Prop) (C : zCx p s m ([.ref (ad 0), .int a0, .int a1] : List Value).toArray meth c A G K prog_14_method_52_code (some .int) 6 "LassoFinderModel") (K5 : Int32 → Int32 → Int32 → Int32 → (Nat → Int32) → (Nat → Int64) → (Nat → Nat → Int32) → (Nat → Nat → Int64) → Prop) (kh5 : ∀ (x1 : Int32) (x2 : Int32) (x3 : Int32) (x4 : Int32) (I : Nat → Int32) (J : Nat → Int64) (B : Nat → Nat → Int32) (D : Nat → Nat → Int64) (ls : Array Slot) (H : Heap) (locs : List Loc), K5 x1 x2 x3 x4 I J B D → lv_has ls 6 [(0, .ref (ad 0)), (1, .int x1), (2, .int x2), (3, .int x3), (4, .int x4)] → zW G A s.heap (wM ad K I J B D) H locs → W p l e { frames := 1, cells := 0, slots := 0, locals := 25 } s m ([.ref (ad 0), .int a0, .int a1] : List Value).toArray below meth c H locs 0 0 (MQ below (va_Qi (fun (r : Int32) (u : zS) => Post r u.1 u.2.1 u.2.2.1 u.2.2.2) (fun u t => zPost G K A (wM ad K u.1 u.2.1 u.2.2.1 u.2.2.2) t) A) ([.ref (ad 0), .int a0, .int a1] : List Value).toArray s 0 0 A) (F0 m 5 ls [])) : ∀ (x1 : Int32) (x2 : Int32) (x3 : Int32) (x4 : Int32) (I : Nat → Int32) (J : Nat → Int64) (B : Nat → Nat → Int32) (D : Nat → Nat → Int64) (ls : Array Slot) (H : Heap) (locs : List Loc), wb_LassoFinderModel_truthAt_5 a0 a1 K5 Post x1 x2 x3 x4 I J B D → lv_has ls 6 [(0, .ref (ad 0)), (1, .int x1), (2, .int x2), (3, .int x3), (4, .int x4)] → zW G A s.heap (wM ad K I J B D) H locs → W p l e { frames := 1, cells := 0, slots := 0, locals := 25 } s m ([.ref (ad 0), .int a0, .int a1] : List Value).toArray below meth c H locs 0 0 (MQ below (va_Qi (fun (r : Int32) (u : zS) => Post r u.1 u.2.1 u.2.2.1 u.2.2.2) (fun u t => zPost G K A (wM ad K u.1 u.2.1 u.2.2.1 u.2.2.2) t) A) ([.ref (ad 0), .int a0, .int a1] : List Value).toArray s 0 0 A) (F0 m 5 ls []) := by
  obtain ⟨hx, hb, hr, hml, hts, hown, hlocks, hA, hK⟩ := id C
  intro x1 x2 x3 x4 I J B D ls H locs hok hl hw
  unfold wb_LassoFinderModel_truthAt_5 at hok
  refine lv_iload hx hb zd_LassoFinderModel_truthAt_5 (lv_at hl 4 rfl) ?_
  refine lv_aload_n hx hb zd_LassoFinderModel_truthAt_7 rfl (lv_at hl 0 rfl) ?_
  refine z_get (v := .int (I 20)) hx hb hts hown hK hw zZ12 0 rfl 64 (by decide) zm_356 rfl zd_LassoFinderModel_truthAt_8 ?_
  refine lv_icmp_ge (tgt := 71) hx hb zd_LassoFinderModel_truthAt_11 (by decide) (fun hc1 => ?_) (fun hc1 => ?_)
  · have hok := hok.1 hc1
    refine lv_iload_n hx hb zd_LassoFinderModel_truthAt_71 rfl (lv_at hl 3 rfl) ?_
    exact z_iret (u := (I, J, B, D)) hx hb hr hlocks rfl hw [0, 1, 2, 3, 4, 5, 6, 7, 8, 9, 10, 11, 12, 13, 14, 15, 16, 17, 18, 19, 20, 21, 22, 23, 24, 25, 26, 27, 28, 29, 30, 31, 32, 33, 34, 35, 36, 37, 38, 39, 40, 41, 42, 43, 44, 45, 46, 47, 48, 49, 50, 51, 52, 53, 54, 55, 56, 57] rfl (by decide) hok (Nat.le_of_ble_eq_true rfl) (Nat.le_of_ble_eq_true rfl) zd_LassoFinderModel_truthAt_72
  · have hok := hok.2 hc1
    refine lv_aload_n hx hb zd_LassoFinderModel_truthAt_14 rfl (lv_at hl 0 rfl) ?_
    refine z_get (v := .ref (ad 51)) hx hb hts hown hK hw zZ12 0 rfl 74 (by decide) zm_285 rfl zd_LassoFinderModel_truthAt_15 ?_
    refine lv_bipush (v := 8) hx hb zd_LassoFinderModel_truthAt_18 (by decide) ?_
    refine lv_iload_n hx hb zd_LassoFinderModel_truthAt_20 rfl (lv_at hl 1 rfl) ?_
    refine lv_imul hx hb zd_LassoFinderModel_truthAt_21 ?_
    refine lv_topi (fun z2 ez2 => ?_)
    have hok := hok z2 ez2
    refine lv_iload_n hx hb zd_LassoFinderModel_truthAt_22 rfl (lv_at hl 3 rfl) ?_
    refine lv_iadd hx hb zd_LassoFinderModel_truthAt_23 ?_
    refine lv_topi (fun z3 ez3 => ?_)
    have hok := hok z3 ez3
    refine va_iald (f := (B 48)) hx hb hK hw.1 51 0 rfl rfl hok.1 zd_LassoFinderModel_truthAt_24 ?_
    have hok := hok.2
    refine lv_topi (fun z4 ez4 => ?_)
    have hok := hok z4 ez4
    refine lv_istore hx hb zd_LassoFinderModel_truthAt_25 hl (by decide) rfl (fun ls hl => ?_)
    have hl : lv_has ls 6 [(5, .int z4), (0, .ref (ad 0)), (1, .int x1), (2, .int x2), (3, .int x3), (4, .int x4)] := hl
    refine lv_iload_n hx hb zd_LassoFinderModel_truthAt_27 rfl (lv_at hl 4 rfl) ?_
    refine lv_aload_n hx hb zd_LassoFinderModel_truthAt_28 rfl (lv_at hl 1 rfl) ?_
    refine lv_iload hx hb zd_LassoFinderModel_truthAt_29 (lv_at hl 5 rfl) ?_
    refine lv_iload hx hb zd_LassoFinderModel_truthAt_31 (lv_at hl 0 rfl) ?_
    refine lv_iconst (v := 2) hx hb zd_LassoFinderModel_truthAt_33 (by decide) ?_
    refine lv_iload hx hb zd_LassoFinderModel_truthAt_34 (lv_at hl 5 rfl) ?_
    refine lv_imul hx hb zd_LassoFinderModel_truthAt_36 ?_
    refine lv_topi (fun z5 ez5 => ?_)
    have hok := hok z5 ez5
    refine lv_ishr hx hb zd_LassoFinderModel_truthAt_37 ?_
    refine lv_topi (fun z6 ez6 => ?_)
    have hok := hok z6 ez6
    refine lv_iconst (v := 1) hx hb zd_LassoFinderModel_truthAt_38 (by decide) ?_
    refine lv_iand hx hb zd_LassoFinderModel_truthAt_39 ?_
    refine lv_topi (fun z7 ez7 => ?_)
    have hok := hok z7 ez7
    refine lv_iload hx hb zd_LassoFinderModel_truthAt_40 (lv_at hl 0 rfl) ?_
    refine lv_iconst (v := 2) hx hb zd_LassoFinderModel_truthAt_42 (by decide) ?_
    refine lv_iload hx hb zd_LassoFinderModel_truthAt_43 (lv_at hl 5 rfl) ?_
    refine lv_imul hx hb zd_LassoFinderModel_truthAt_45 ?_
    refine lv_topi (fun z8 ez8 => ?_)
    have hok := hok z8 ez8
    refine lv_iconst (v := 1) hx hb zd_LassoFinderModel_truthAt_46 (by decide) ?_
    refine lv_iadd hx hb zd_LassoFinderModel_truthAt_47 ?_
    refine lv_topi (fun z9 ez9 => ?_)
    have hok := hok z9 ez9
    refine lv_ishr hx hb zd_LassoFinderModel_truthAt_48 ?_
    refine lv_topi (fun z10 ez10 => ?_)
    have hok := hok z10 ez10
    refine lv_iconst (v := 1) hx hb zd_LassoFinderModel_truthAt_49 (by decide) ?_
    refine lv_iand hx hb zd_LassoFinderModel_truthAt_50 ?_
    refine lv_topi (fun z11 ez11 => ?_)
    have hok := hok z11 ez11
    refine lv_iload_n hx hb zd_LassoFinderModel_truthAt_51 rfl (lv_at hl 3 rfl) ?_
    refine lv_iload hx hb zd_LassoFinderModel_truthAt_52 (lv_at hl 5 rfl) ?_
    refine lv_ishr hx hb zd_LassoFinderModel_truthAt_54 ?_
    refine lv_topi (fun z12 ez12 => ?_)
    have hok := hok z12 ez12
    refine lv_iconst (v := 1) hx hb zd_LassoFinderModel_truthAt_55 (by decide) ?_
    refine lv_iand hx hb zd_LassoFinderModel_truthAt_56 ?_
    refine lv_topi (fun z13 ez13 => ?_)
    have hok := hok z13 ez13
    refine z_calli (w1 := fun (u : zS) => wM ad K u.1 u.2.1 u.2.2.1 u.2.2.2) (wr := []) (z_runV (q0 := 0) (wc := (wM ad K I J B D)) (As := [.int x4, .int z7, .int z11, .int z13]) (rest := [.int x3]) ⟨hx, hb, hml, hown, hts⟩ (w_LassoFinderModel_before l G K ad I J B D x4 z7 z11 z13 _ H.size hok) zf_LassoFinderModel_before zm_377 ⟨Nat.le_of_ble_eq_true rfl, Nat.le_of_ble_eq_true rfl⟩ hK hw [0, 1, 2, 3, 4, 5, 6, 7, 8, 9, 10, 11, 12, 13, 14, 15, 16, 17, 18, 19, 20, 21, 22, 23, 24, 25, 26, 27, 28, 29, 30, 31, 32, 33, 34, 35, 36, 37, 38, 39, 40, 41, 42, 43, 44, 45, 46, 47, 48, 49, 50, 51, 52, 53, 54, 55, 56, 57] rfl (by decide) rfl rfl rfl hl.1 rfl (Nat.le_of_ble_eq_true rfl) zd_LassoFinderModel_truthAt_57 ⟨Nat.le_of_ble_eq_true rfl, Nat.le_of_ble_eq_true rfl⟩) hw hA [0, 1, 2, 3, 4, 5, 6, 7, 8, 9, 10, 11, 12, 13, 14, 15, 16, 17, 18, 19, 20, 21, 22, 23, 24, 25, 26, 27, 28, 29, 30, 31, 32, 33, 34, 35, 36, 37, 38, 39, 40, 41, 42, 43, 44, 45, 46, 47, 48, 49, 50, 51, 52, 53, 54, 55, 56, 57] [] rfl rfl (by decide) (by decide) (fun r14 u H locs hok hw => ?_)
    obtain ⟨I14, J14, B14, D14⟩ := u
    dsimp only at hok
    have hw : zW G A s.heap (wM ad K I14 J14 B14 D14) H locs := hw
    refine lv_iload hx hb zd_LassoFinderModel_truthAt_60 (lv_at hl 5 rfl) ?_
    refine lv_ishl hx hb zd_LassoFinderModel_truthAt_62 ?_
    refine lv_topi (fun z15 ez15 => ?_)
    have hok := hok z15 ez15
    refine lv_ior hx hb zd_LassoFinderModel_truthAt_63 ?_
    refine lv_topi (fun z16 ez16 => ?_)
    have hok := hok z16 ez16
    refine lv_istore_n hx hb zd_LassoFinderModel_truthAt_64 rfl hl (by decide) rfl (fun ls hl => ?_)
    have hl : lv_has ls 6 [(3, .int z16), (5, .int z4), (0, .ref (ad 0)), (1, .int x1), (2, .int x2), (4, .int x4)] := hl
    obtain ⟨z17, ez17⟩ : ∃ z : Int32, z = (x4 + 1) := ⟨_, rfl⟩
    have hok := hok z17 ez17
    refine lv_iinc (v := z17) hx hb zd_LassoFinderModel_truthAt_65 hl (k := 5) rfl ez17.symm (by decide) rfl (fun ls hl => ?_)
    have hl : lv_has ls 6 [(4, .int z17), (3, .int z16), (5, .int z4), (0, .ref (ad 0)), (1, .int x1), (2, .int x2)] := hl
    refine lv_goto (tgt := 5) hx hb zd_LassoFinderModel_truthAt_68 (by decide) ?_
    exact kh5 x1 x2 z16 z17 I14 J14 B14 D14 ls H locs hok (lv_sub hl [3, 4, 5, 1, 0] rfl) hw
theorem wL_LassoFinderModel_truthAt_5 {p : Program} {l : Launch} {e : Env} {s : State} {m : MethodId} {below : List Frame} {meth : Method} {c : Code} {A : Nat → Prop} (G : va_G) (K : Nat → ClassId) (ad : Nat → Nat) (a0 : Int32) (a1 : Int32) (Post : Int32 → (Nat → Int32) → (Nat → Int64) → (Nat → Nat → Int32) → (Nat → Nat → Int64) → Prop) (C : zCx p s m ([.ref (ad 0), .int a0, .int a1] : List Value).toArray meth c A G K prog_14_method_52_code (some .int) 6 "LassoFinderModel") : ∀ (n : Nat) (x1 : Int32) (x2 : Int32) (x3 : Int32) (x4 : Int32) (I : Nat → Int32) (J : Nat → Int64) (B : Nat → Nat → Int32) (D : Nat → Nat → Int64) (ls : Array Slot) (H : Heap) (locs : List Loc), wl_LassoFinderModel_truthAt_5 a0 a1 Post n x1 x2 x3 x4 I J B D → lv_has ls 6 [(0, .ref (ad 0)), (1, .int x1), (2, .int x2), (3, .int x3), (4, .int x4)] → zW G A s.heap (wM ad K I J B D) H locs → W p l e { frames := 1, cells := 0, slots := 0, locals := 25 } s m ([.ref (ad 0), .int a0, .int a1] : List Value).toArray below meth c H locs 0 0 (MQ below (va_Qi (fun (r : Int32) (u : zS) => Post r u.1 u.2.1 u.2.2.1 u.2.2.2) (fun u t => zPost G K A (wM ad K u.1 u.2.1 u.2.2.1 u.2.2.2) t) A) ([.ref (ad 0), .int a0, .int a1] : List Value).toArray s 0 0 A) (F0 m 5 ls []) := by
  intro n
  induction n with
  | zero => intro x1 x2 x3 x4 I J B D ls H locs hok; exact hok.elim
  | succ n ih => exact wB_LassoFinderModel_truthAt_5 G K ad a0 a1 Post C (wl_LassoFinderModel_truthAt_5 a0 a1 Post n) ih
set_option maxHeartbeats 8000000 in
set_option maxRecDepth 100000 in
theorem w_LassoFinderModel_truthAt (l : Launch) (G : va_G) (K : Nat → ClassId) (ad : Nat → Nat) (I : Nat → Int32) (J : Nat → Int64) (B : Nat → Nat → Int32) (D : Nat → Nat → Int64) (a0 : Int32) (a1 : Int32) (Post : Int32 → (Nat → Int32) → (Nat → Int64) → (Nat → Nat → Int32) → (Nat → Nat → Int64) → Prop) (sz : Nat) (hok : wp_LassoFinderModel_truthAt I J B D a0 a1 Post) : Met l zy_LassoFinderModel_truthAt (Cond.code zy_LassoFinderModel_truthAt prog_14_method_52_code 6 (some .int) :: zTB) { frames := 1, cells := 0, slots := 0, locals := 25 } (va_Pc [.ref (ad 0), .int a0, .int a1] (zPre G K (wM ad K I J B D) sz)) (va_Qi (fun (r : Int32) (u : zS) => Post r u.1 u.2.1 u.2.2.1 u.2.2.2) (fun u t => zPost G K (va_A (wM ad K I J B D) sz) (wM ad K u.1 u.2.1 u.2.2.1 u.2.2.2) t) (va_A (wM ad K I J B D) sz)) 0 0 (va_A (wM ad K I J B D) sz) := by
  refine zMet (y := zy_LassoFinderModel_truthAt) (av := [.ref (ad 0), .int a0, .int a1]) (maxL := 6) (cc := prog_14_method_52_code) (ret := (some .int)) (W0 := (wM ad K I J B D)) (sz := sz) (G := G) (K := K) (wt := zTB) (mc := 0) (ms := 0) (Qf := fun A => va_Qi (fun (r : Int32) (u : zS) => Post r u.1 u.2.1 u.2.2.1 u.2.2.2) (fun u t => zPost G K A (wM ad K u.1 u.2.1 u.2.2.1 u.2.2.2) t) A) (by decide) (Nat.le_of_ble_eq_true rfl) ?_
  intro p e s m below meth c ls A hx hb hr hml hts hown hlocks hin hA hK H locs hw hsz hl
  clear hsz
  have hown : s.vm.findClass "LassoFinderModel" = some m.cls := hown
  have C : zCx p s m ([.ref (ad 0), .int a0, .int a1] : List Value).toArray meth c A G K prog_14_method_52_code (some .int) 6 "LassoFinderModel" := ⟨hx, hb, hr, hml, hts, hown, hlocks, hA, hK⟩
  have hl : lv_has ls 6 [(0, .ref (ad 0)), (1, .int a0), (2, .int a1)] := hl
  have hw : zW G A s.heap (wM ad K I J B D) H locs := hw
  unfold wp_LassoFinderModel_truthAt at hok
  refine lv_iconst (v := 0) hx hb zd_LassoFinderModel_truthAt_0 (by decide) ?_
  refine lv_istore_n hx hb zd_LassoFinderModel_truthAt_1 rfl hl (by decide) rfl (fun ls hl => ?_)
  have hl : lv_has ls 6 [(3, .int 0), (0, .ref (ad 0)), (1, .int a0), (2, .int a1)] := hl
  refine lv_iconst (v := 0) hx hb zd_LassoFinderModel_truthAt_2 (by decide) ?_
  refine lv_istore hx hb zd_LassoFinderModel_truthAt_3 hl (by decide) rfl (fun ls hl => ?_)
  have hl : lv_has ls 6 [(4, .int 0), (3, .int 0), (0, .ref (ad 0)), (1, .int a0), (2, .int a1)] := hl
  obtain ⟨n9, hok⟩ := hok
  exact wL_LassoFinderModel_truthAt_5 G K ad a0 a1 Post C n9 a0 a1 0 0 I J B D ls H locs hok (lv_sub hl [2, 3, 4, 1, 0] rfl) hw
def wc_LassoFinderModel_settled_172 (a0 : Int32) (a1 : Int32) (K5 : Int32 → Int32 → Int32 → Int32 → (Nat → Int32) → (Nat → Int64) → (Nat → Nat → Int32) → (Nat → Nat → Int64) → Prop) (Post : Int32 → (Nat → Int32) → (Nat → Int64) → (Nat → Nat → Int32) → (Nat → Nat → Int64) → Prop) (x1 : Int32) (x2 : Int32) (x3 : Int32) (x4 : Int32) (I : Nat → Int32) (J : Nat → Int64) (B : Nat → Nat → Int32) (D : Nat → Nat → Int64) : Prop :=
  ∀ z1 : Int32, z1 = (x4 + 1) → K5 x1 x2 x3 z1 I J B D
def wc_LassoFinderModel_settled_165 (a0 : Int32) (a1 : Int32) (K5 : Int32 → Int32 → Int32 → Int32 → (Nat → Int32) → (Nat → Int64) → (Nat → Nat → Int32) → (Nat → Nat → Int64) → Prop) (Post : Int32 → (Nat → Int32) → (Nat → Int64) → (Nat → Nat → Int32) → (Nat → Nat → Int64) → Prop) (x1 : Int32) (x2 : Int32) (x3 : Int32) (x4 : Int32) (I : Nat → Int32) (J : Nat → Int64) (B : Nat → Nat → Int32) (D : Nat → Nat → Int64) : Prop :=
  ∀ z2 : Int32, z2 = (1 <<< (x4 &&& 31)) → ∀ z3 : Int32, z3 = (x3 ||| z2) → wc_LassoFinderModel_settled_172 a0 a1 K5 Post x1 x2 z3 x4 I J B D
def wc_LassoFinderModel_settled_133 (a0 : Int32) (a1 : Int32) (K5 : Int32 → Int32 → Int32 → Int32 → (Nat → Int32) → (Nat → Int64) → (Nat → Nat → Int32) → (Nat → Nat → Int64) → Prop) (Post : Int32 → (Nat → Int32) → (Nat → Int64) → (Nat → Nat → Int32) → (Nat → Nat → Int64) → Prop) (x1 : Int32) (x2 : Int32) (x3 : Int32) (x4 : Int32) (x6 : Int32) (x7 : Int32) (y0 : Int32) (I : Nat → Int32) (J : Nat → Int64) (B : Nat → Nat → Int32) (D : Nat → Nat → Int64) : Prop :=
  ((y0 = 0 → ((x7 = 1 → wc_LassoFinderModel_settled_165 a0 a1 K5 Post x1 x2 x3 x4 I J B D) ∧ (¬ x7 = 1 → ((¬ x6 = 0 → wc_LassoFinderModel_settled_172 a0 a1 K5 Post x1 x2 x3 x4 I J B D) ∧ (x6 = 0 → wc_LassoFinderModel_settled_165 a0 a1 K5 Post x1 x2 x3 x4 I J B D))))) ∧ (¬ y0 = 0 → ((x7 = 0 → wc_LassoFinderModel_settled_165 a0 a1 K5 Post x1 x2 x3 x4 I J B D) ∧ (¬ x7 = 0 → ((¬ x6 = 1 → wc_LassoFinderModel_settled_172 a0 a1 K5 Post x1 x2 x3 x4 I J B D) ∧ (x6 = 1 → wc_LassoFinderModel_settled_165 a0 a1 K5 Post x1 x2 x3 x4 I J B D))))))
def wc_LassoFinderModel_settled_128 (a0 : Int32) (a1 : Int32) (K5 : Int32 → Int32 → Int32 → Int32 → (Nat → Int32) → (Nat → Int64) → (Nat → Nat → Int32) → (Nat → Nat → Int64) → Prop) (Post : Int32 → (Nat → Int32) → (Nat → Int64) → (Nat → Nat → Int32) → (Nat → Nat → Int64) → Prop) (x1 : Int32) (x2 : Int32) (x3 : Int32) (x4 : Int32) (x6 : Int32) (x7 : Int32) (I : Nat → Int32) (J : Nat → Int64) (B : Nat → Nat → Int32) (D : Nat → Nat → Int64) : Prop :=
  wc_LassoFinderModel_settled_133 a0 a1 K5 Post x1 x2 x3 x4 x6 x7 1 I J B D
def wc_LassoFinderModel_settled_84 (a0 : Int32) (a1 : Int32) (K5 : Int32 → Int32 → Int32 → Int32 → (Nat → Int32) → (Nat → Int64) → (Nat → Nat → Int32) → (Nat → Nat → Int64) → Prop) (Post : Int32 → (Nat → Int32) → (Nat → Int64) → (Nat → Nat → Int32) → (Nat → Nat → Int64) → Prop) (x1 : Int32) (x2 : Int32) (x3 : Int32) (x4 : Int32) (y0 : Int32) (I : Nat → Int32) (J : Nat → Int64) (B : Nat → Nat → Int32) (D : Nat → Nat → Int64) : Prop :=
  ∀ z9 : Int32, z9 = (x2 >>> (x4 &&& 31)) → ∀ z10 : Int32, z10 = (z9 &&& 1) → vp_in x4 3 ∧ ∀ z11 : Int32, z11 = ((B 43) x4.toNatClampNeg) → vp_in z11 240 ∧ ∀ z12 : Int32, z12 = ((B 41) z11.toNatClampNeg) → ((z12 = 12 → wc_LassoFinderModel_settled_128 a0 a1 K5 Post x1 x2 x3 x4 y0 z10 I J B D) ∧ (¬ z12 = 12 → vp_in x4 3 ∧ ∀ z14 : Int32, z14 = ((B 43) x4.toNatClampNeg) → vp_in z14 240 ∧ ∀ z15 : Int32, z15 = ((B 41) z14.toNatClampNeg) → ((¬ z15 = 15 → wc_LassoFinderModel_settled_133 a0 a1 K5 Post x1 x2 x3 x4 y0 z10 0 I J B D) ∧ (z15 = 15 → wc_LassoFinderModel_settled_128 a0 a1 K5 Post x1 x2 x3 x4 y0 z10 I J B D))))
def wc_LassoFinderModel_settled_61 (a0 : Int32) (a1 : Int32) (K5 : Int32 → Int32 → Int32 → Int32 → (Nat → Int32) → (Nat → Int64) → (Nat → Nat → Int32) → (Nat → Nat → Int64) → Prop) (Post : Int32 → (Nat → Int32) → (Nat → Int64) → (Nat → Nat → Int32) → (Nat → Nat → Int64) → Prop) (x1 : Int32) (x2 : Int32) (x3 : Int32) (x4 : Int32) (x5 : Int32) (I : Nat → Int32) (J : Nat → Int64) (B : Nat → Nat → Int32) (D : Nat → Nat → Int64) : Prop :=
  ∀ z17 : Int32, z17 = (2 * x4) → ∀ z18 : Int32, z18 = (z17 + 1) → ∀ z19 : Int32, z19 = (x5 >>> (z18 &&& 31)) → ∀ z20 : Int32, z20 = (z19 &&& 1) → wc_LassoFinderModel_settled_84 a0 a1 K5 Post x1 x2 x3 x4 z20 I J B D
def wb_LassoFinderModel_settled_5 (a0 : Int32) (a1 : Int32) (K5 : Int32 → Int32 → Int32 → Int32 → (Nat → Int32) → (Nat → Int64) → (Nat → Nat → Int32) → (Nat → Nat → Int64) → Prop) (Post : Int32 → (Nat → Int32) → (Nat → Int64) → (Nat → Nat → Int32) → (Nat → Nat → Int64) → Prop) (x1 : Int32) (x2 : Int32) (x3 : Int32) (x4 : Int32) (I : Nat → Int32) (J : Nat → Int64) (B : Nat → Nat → Int32) (D : Nat → Nat → Int64) : Prop :=
  (((I 20) ≤ x4 → Post x3 I J B D) ∧ (¬ (I 20) ≤ x4 → ∀ z22 : Int32, z22 = (8 * x1) → ∀ z23 : Int32, z23 = (z22 + x2) → vp_in z23 768 ∧ ∀ z24 : Int32, z24 = ((B 48) z23.toNatClampNeg) → vp_in x4 3 ∧ ∀ z25 : Int32, z25 = ((B 43) x4.toNatClampNeg) → vp_in z25 240 ∧ ∀ z26 : Int32, z26 = ((B 41) z25.toNatClampNeg) → ((z26 = 12 → wc_LassoFinderModel_settled_61 a0 a1 K5 Post x1 x2 x3 x4 z24 I J B D) ∧ (¬ z26 = 12 → vp_in x4 3 ∧ ∀ z28 : Int32, z28 = ((B 43) x4.toNatClampNeg) → vp_in z28 240 ∧ ∀ z29 : Int32, z29 = ((B 41) z28.toNatClampNeg) → ((¬ z29 = 13 → ∀ z31 : Int32, z31 = (2 * x4) → ∀ z32 : Int32, z32 = (z24 >>> (z31 &&& 31)) → ∀ z33 : Int32, z33 = (z32 &&& 1) → wc_LassoFinderModel_settled_84 a0 a1 K5 Post x1 x2 x3 x4 z33 I J B D) ∧ (z29 = 13 → wc_LassoFinderModel_settled_61 a0 a1 K5 Post x1 x2 x3 x4 z24 I J B D))))))
def wl_LassoFinderModel_settled_5 (a0 : Int32) (a1 : Int32) (Post : Int32 → (Nat → Int32) → (Nat → Int64) → (Nat → Nat → Int32) → (Nat → Nat → Int64) → Prop) (n : Nat) : Int32 → Int32 → Int32 → Int32 → (Nat → Int32) → (Nat → Int64) → (Nat → Nat → Int32) → (Nat → Nat → Int64) → Prop := Nat.rec (fun _ _ _ _ _ _ _ _ => False) (fun _ r => wb_LassoFinderModel_settled_5 a0 a1 r Post) n
def wp_LassoFinderModel_settled (I : Nat → Int32) (J : Nat → Int64) (B : Nat → Nat → Int32) (D : Nat → Nat → Int64) (a0 : Int32) (a1 : Int32) (Post : Int32 → (Nat → Int32) → (Nat → Int64) → (Nat → Nat → Int32) → (Nat → Nat → Int64) → Prop) : Prop :=
  ∃ n : Nat, wl_LassoFinderModel_settled_5 a0 a1 Post n a0 a1 0 0 I J B D
set_option maxHeartbeats 8000000 in
set_option maxRecDepth 100000 in
theorem wJ_LassoFinderModel_settled_172 {p : Program} {l : Launch} {e : Env} {s : State} {m : MethodId} {below : List Frame} {meth : Method} {c : Code} {A : Nat → Prop} (G : va_G) (K : Nat → ClassId) (ad : Nat → Nat) (a0 : Int32) (a1 : Int32) (Post : Int32 → (Nat → Int32) → (Nat → Int64) → (Nat → Nat → Int32) → (Nat → Nat → Int64) → Prop) (C : zCx p s m ([.ref (ad 0), .int a0, .int a1] : List Value).toArray meth c A G K prog_14_method_53_code (some .int) 9 "LassoFinderModel") (K5 : Int32 → Int32 → Int32 → Int32 → (Nat → Int32) → (Nat → Int64) → (Nat → Nat → Int32) → (Nat → Nat → Int64) → Prop) (kh5 : ∀ (x1 : Int32) (x2 : Int32) (x3 : Int32) (x4 : Int32) (I : Nat → Int32) (J : Nat → Int64) (B : Nat → Nat → Int32) (D : Nat → Nat → Int64) (ls : Array Slot) (H : Heap) (locs : List Loc), K5 x1 x2 x3 x4 I J B D → lv_has ls 9 [(0, .ref (ad 0)), (1, .int x1), (2, .int x2), (3, .int x3), (4, .int x4)] → zW G A s.heap (wM ad K I J B D) H locs → W p l e { frames := 0, cells := 0, slots := 0, locals := 0 } s m ([.ref (ad 0), .int a0, .int a1] : List Value).toArray below meth c H locs 0 0 (MQ below (va_Qi (fun (r : Int32) (u : zS) => Post r u.1 u.2.1 u.2.2.1 u.2.2.2) (fun u t => zPost G K A (wM ad K u.1 u.2.1 u.2.2.1 u.2.2.2) t) A) ([.ref (ad 0), .int a0, .int a1] : List Value).toArray s 0 0 A) (F0 m 5 ls [])) : ∀ (x1 : Int32) (x2 : Int32) (x3 : Int32) (x4 : Int32) (I : Nat → Int32) (J : Nat → Int64) (B : Nat → Nat → Int32) (D : Nat → Nat → Int64) (ls : Array Slot) (H : Heap) (locs : List Loc), wc_LassoFinderModel_settled_172 a0 a1 K5 Post x1 x2 x3 x4 I J B D → lv_has ls 9 [(0, .ref (ad 0)), (1, .int x1), (2, .int x2), (3, .int x3), (4, .int x4)] → zW G A s.heap (wM ad K I J B D) H locs → W p l e { frames := 0, cells := 0, slots := 0, locals := 0 } s m ([.ref (ad 0), .int a0, .int a1] : List Value).toArray below meth c H locs 0 0 (MQ below (va_Qi (fun (r : Int32) (u : zS) => Post r u.1 u.2.1 u.2.2.1 u.2.2.2) (fun u t => zPost G K A (wM ad K u.1 u.2.1 u.2.2.1 u.2.2.2) t) A) ([.ref (ad 0), .int a0, .int a1] : List Value).toArray s 0 0 A) (F0 m 172 ls []) := by
  obtain ⟨hx, hb, hr, hml, hts, hown, hlocks, hA, hK⟩ := id C
  intro x1 x2 x3 x4 I J B D ls H locs hok hl hw
  unfold wc_LassoFinderModel_settled_172 at hok
  obtain ⟨z1, ez1⟩ : ∃ z : Int32, z = (x4 + 1) := ⟨_, rfl⟩
  have hok := hok z1 ez1
  refine lv_iinc (v := z1) hx hb zd_LassoFinderModel_settled_172 hl (k := 4) rfl ez1.symm (by decide) rfl (fun ls hl => ?_)
  have hl : lv_has ls 9 [(4, .int z1), (0, .ref (ad 0)), (1, .int x1), (2, .int x2), (3, .int x3)] := hl
  refine lv_goto (tgt := 5) hx hb zd_LassoFinderModel_settled_175 (by decide) ?_
  exact kh5 x1 x2 x3 z1 I J B D ls H locs hok (lv_sub hl [1, 2, 3, 4, 0] rfl) hw
set_option maxHeartbeats 8000000 in
set_option maxRecDepth 100000 in
theorem wJ_LassoFinderModel_settled_165 {p : Program} {l : Launch} {e : Env} {s : State} {m : MethodId} {below : List Frame} {meth : Method} {c : Code} {A : Nat → Prop} (G : va_G) (K : Nat → ClassId) (ad : Nat → Nat) (a0 : Int32) (a1 : Int32) (Post : Int32 → (Nat → Int32) → (Nat → Int64) → (Nat → Nat → Int32) → (Nat → Nat → Int64) → Prop) (C : zCx p s m ([.ref (ad 0), .int a0, .int a1] : List Value).toArray meth c A G K prog_14_method_53_code (some .int) 9 "LassoFinderModel") (K5 : Int32 → Int32 → Int32 → Int32 → (Nat → Int32) → (Nat → Int64) → (Nat → Nat → Int32) → (Nat → Nat → Int64) → Prop) (kh5 : ∀ (x1 : Int32) (x2 : Int32) (x3 : Int32) (x4 : Int32) (I : Nat → Int32) (J : Nat → Int64) (B : Nat → Nat → Int32) (D : Nat → Nat → Int64) (ls : Array Slot) (H : Heap) (locs : List Loc), K5 x1 x2 x3 x4 I J B D → lv_has ls 9 [(0, .ref (ad 0)), (1, .int x1), (2, .int x2), (3, .int x3), (4, .int x4)] → zW G A s.heap (wM ad K I J B D) H locs → W p l e { frames := 0, cells := 0, slots := 0, locals := 0 } s m ([.ref (ad 0), .int a0, .int a1] : List Value).toArray below meth c H locs 0 0 (MQ below (va_Qi (fun (r : Int32) (u : zS) => Post r u.1 u.2.1 u.2.2.1 u.2.2.2) (fun u t => zPost G K A (wM ad K u.1 u.2.1 u.2.2.1 u.2.2.2) t) A) ([.ref (ad 0), .int a0, .int a1] : List Value).toArray s 0 0 A) (F0 m 5 ls [])) : ∀ (x1 : Int32) (x2 : Int32) (x3 : Int32) (x4 : Int32) (I : Nat → Int32) (J : Nat → Int64) (B : Nat → Nat → Int32) (D : Nat → Nat → Int64) (ls : Array Slot) (H : Heap) (locs : List Loc), wc_LassoFinderModel_settled_165 a0 a1 K5 Post x1 x2 x3 x4 I J B D → lv_has ls 9 [(0, .ref (ad 0)), (1, .int x1), (2, .int x2), (3, .int x3), (4, .int x4)] → zW G A s.heap (wM ad K I J B D) H locs → W p l e { frames := 0, cells := 0, slots := 0, locals := 0 } s m ([.ref (ad 0), .int a0, .int a1] : List Value).toArray below meth c H locs 0 0 (MQ below (va_Qi (fun (r : Int32) (u : zS) => Post r u.1 u.2.1 u.2.2.1 u.2.2.2) (fun u t => zPost G K A (wM ad K u.1 u.2.1 u.2.2.1 u.2.2.2) t) A) ([.ref (ad 0), .int a0, .int a1] : List Value).toArray s 0 0 A) (F0 m 165 ls []) := by
  obtain ⟨hx, hb, hr, hml, hts, hown, hlocks, hA, hK⟩ := id C
  intro x1 x2 x3 x4 I J B D ls H locs hok hl hw
  unfold wc_LassoFinderModel_settled_165 at hok
  refine lv_iload_n hx hb zd_LassoFinderModel_settled_165 rfl (lv_at hl 3 rfl) ?_
  refine lv_iconst (v := 1) hx hb zd_LassoFinderModel_settled_166 (by decide) ?_
  refine lv_iload hx hb zd_LassoFinderModel_settled_167 (lv_at hl 4 rfl) ?_
  refine lv_ishl hx hb zd_LassoFinderModel_settled_169 ?_
  refine lv_topi (fun z2 ez2 => ?_)
  have hok := hok z2 ez2
  refine lv_ior hx hb zd_LassoFinderModel_settled_170 ?_
  refine lv_topi (fun z3 ez3 => ?_)
  have hok := hok z3 ez3
  refine lv_istore_n hx hb zd_LassoFinderModel_settled_171 rfl hl (by decide) rfl (fun ls hl => ?_)
  have hl : lv_has ls 9 [(3, .int z3), (0, .ref (ad 0)), (1, .int x1), (2, .int x2), (4, .int x4)] := hl
  exact wJ_LassoFinderModel_settled_172 G K ad a0 a1 Post C K5 kh5 x1 x2 z3 x4 I J B D ls H locs hok (lv_sub hl [1, 2, 3, 0, 4] rfl) hw
set_option maxHeartbeats 8000000 in
set_option maxRecDepth 100000 in
theorem wJ_LassoFinderModel_settled_133 {p : Program} {l : Launch} {e : Env} {s : State} {m : MethodId} {below : List Frame} {meth : Method} {c : Code} {A : Nat → Prop} (G : va_G) (K : Nat → ClassId) (ad : Nat → Nat) (a0 : Int32) (a1 : Int32) (Post : Int32 → (Nat → Int32) → (Nat → Int64) → (Nat → Nat → Int32) → (Nat → Nat → Int64) → Prop) (C : zCx p s m ([.ref (ad 0), .int a0, .int a1] : List Value).toArray meth c A G K prog_14_method_53_code (some .int) 9 "LassoFinderModel") (K5 : Int32 → Int32 → Int32 → Int32 → (Nat → Int32) → (Nat → Int64) → (Nat → Nat → Int32) → (Nat → Nat → Int64) → Prop) (kh5 : ∀ (x1 : Int32) (x2 : Int32) (x3 : Int32) (x4 : Int32) (I : Nat → Int32) (J : Nat → Int64) (B : Nat → Nat → Int32) (D : Nat → Nat → Int64) (ls : Array Slot) (H : Heap) (locs : List Loc), K5 x1 x2 x3 x4 I J B D → lv_has ls 9 [(0, .ref (ad 0)), (1, .int x1), (2, .int x2), (3, .int x3), (4, .int x4)] → zW G A s.heap (wM ad K I J B D) H locs → W p l e { frames := 0, cells := 0, slots := 0, locals := 0 } s m ([.ref (ad 0), .int a0, .int a1] : List Value).toArray below meth c H locs 0 0 (MQ below (va_Qi (fun (r : Int32) (u : zS) => Post r u.1 u.2.1 u.2.2.1 u.2.2.2) (fun u t => zPost G K A (wM ad K u.1 u.2.1 u.2.2.1 u.2.2.2) t) A) ([.ref (ad 0), .int a0, .int a1] : List Value).toArray s 0 0 A) (F0 m 5 ls [])) : ∀ (x1 : Int32) (x2 : Int32) (x3 : Int32) (x4 : Int32) (x6 : Int32) (x7 : Int32) (y0 : Int32) (I : Nat → Int32) (J : Nat → Int64) (B : Nat → Nat → Int32) (D : Nat → Nat → Int64) (ls : Array Slot) (H : Heap) (locs : List Loc), wc_LassoFinderModel_settled_133 a0 a1 K5 Post x1 x2 x3 x4 x6 x7 y0 I J B D → lv_has ls 9 [(0, .ref (ad 0)), (1, .int x1), (2, .int x2), (3, .int x3), (4, .int x4), (6, .int x6), (7, .int x7)] → zW G A s.heap (wM ad K I J B D) H locs → W p l e { frames := 0, cells := 0, slots := 0, locals := 0 } s m ([.ref (ad 0), .int a0, .int a1] : List Value).toArray below meth c H locs 0 0 (MQ below (va_Qi (fun (r : Int32) (u : zS) => Post r u.1 u.2.1 u.2.2.1 u.2.2.2) (fun u t => zPost G K A (wM ad K u.1 u.2.1 u.2.2.1 u.2.2.2) t) A) ([.ref (ad 0), .int a0, .int a1] : List Value).toArray s 0 0 A) (F0 m 133 ls [.int y0]) := by
  obtain ⟨hx, hb, hr, hml, hts, hown, hlocks, hA, hK⟩ := id C
  intro x1 x2 x3 x4 x6 x7 y0 I J B D ls H locs hok hl hw
  unfold wc_LassoFinderModel_settled_133 at hok
  refine lv_istore hx hb zd_LassoFinderModel_settled_133 hl (by decide) rfl (fun ls hl => ?_)
  have hl : lv_has ls 9 [(8, .int y0), (0, .ref (ad 0)), (1, .int x1), (2, .int x2), (3, .int x3), (4, .int x4), (6, .int x6), (7, .int x7)] := hl
  refine lv_iload hx hb zd_LassoFinderModel_settled_135 (lv_at hl 0 rfl) ?_
  refine lv_if_eq (tgt := 154) hx hb zd_LassoFinderModel_settled_137 (by decide) (fun hc4 => ?_) (fun hc4 => ?_)
  · have hok := hok.1 hc4
    refine lv_iload hx hb zd_LassoFinderModel_settled_154 (lv_at hl 7 rfl) ?_
    refine lv_iconst (v := 1) hx hb zd_LassoFinderModel_settled_156 (by decide) ?_
    refine lv_icmp_eq (tgt := 165) hx hb zd_LassoFinderModel_settled_157 (by decide) (fun hc5 => ?_) (fun hc5 => ?_)
    · have hok := hok.1 hc5
      exact wJ_LassoFinderModel_settled_165 G K ad a0 a1 Post C K5 kh5 x1 x2 x3 x4 I J B D ls H locs hok (lv_sub hl [1, 2, 3, 4, 5] rfl) hw
    · have hok := hok.2 hc5
      refine lv_iload hx hb zd_LassoFinderModel_settled_160 (lv_at hl 6 rfl) ?_
      refine lv_if_ne (tgt := 172) hx hb zd_LassoFinderModel_settled_162 (by decide) (fun hc6 => ?_) (fun hc6 => ?_)
      · have hok := hok.1 hc6
        exact wJ_LassoFinderModel_settled_172 G K ad a0 a1 Post C K5 kh5 x1 x2 x3 x4 I J B D ls H locs hok (lv_sub hl [1, 2, 3, 4, 5] rfl) hw
      · have hok := hok.2 hc6
        exact wJ_LassoFinderModel_settled_165 G K ad a0 a1 Post C K5 kh5 x1 x2 x3 x4 I J B D ls H locs hok (lv_sub hl [1, 2, 3, 4, 5] rfl) hw
  · have hok := hok.2 hc4
    refine lv_iload hx hb zd_LassoFinderModel_settled_140 (lv_at hl 7 rfl) ?_
    refine lv_if_eq (tgt := 165) hx hb zd_LassoFinderModel_settled_142 (by decide) (fun hc7 => ?_) (fun hc7 => ?_)
    · have hok := hok.1 hc7
      exact wJ_LassoFinderModel_settled_165 G K ad a0 a1 Post C K5 kh5 x1 x2 x3 x4 I J B D ls H locs hok (lv_sub hl [1, 2, 3, 4, 5] rfl) hw
    · have hok := hok.2 hc7
      refine lv_iload hx hb zd_LassoFinderModel_settled_145 (lv_at hl 6 rfl) ?_
      refine lv_iconst (v := 1) hx hb zd_LassoFinderModel_settled_147 (by decide) ?_
      refine lv_icmp_ne (tgt := 172) hx hb zd_LassoFinderModel_settled_148 (by decide) (fun hc8 => ?_) (fun hc8 => ?_)
      · have hok := hok.1 hc8
        exact wJ_LassoFinderModel_settled_172 G K ad a0 a1 Post C K5 kh5 x1 x2 x3 x4 I J B D ls H locs hok (lv_sub hl [1, 2, 3, 4, 5] rfl) hw
      · have hok := hok.2 hc8
        refine lv_goto (tgt := 165) hx hb zd_LassoFinderModel_settled_151 (by decide) ?_
        exact wJ_LassoFinderModel_settled_165 G K ad a0 a1 Post C K5 kh5 x1 x2 x3 x4 I J B D ls H locs hok (lv_sub hl [1, 2, 3, 4, 5] rfl) hw
set_option maxHeartbeats 8000000 in
set_option maxRecDepth 100000 in
theorem wJ_LassoFinderModel_settled_128 {p : Program} {l : Launch} {e : Env} {s : State} {m : MethodId} {below : List Frame} {meth : Method} {c : Code} {A : Nat → Prop} (G : va_G) (K : Nat → ClassId) (ad : Nat → Nat) (a0 : Int32) (a1 : Int32) (Post : Int32 → (Nat → Int32) → (Nat → Int64) → (Nat → Nat → Int32) → (Nat → Nat → Int64) → Prop) (C : zCx p s m ([.ref (ad 0), .int a0, .int a1] : List Value).toArray meth c A G K prog_14_method_53_code (some .int) 9 "LassoFinderModel") (K5 : Int32 → Int32 → Int32 → Int32 → (Nat → Int32) → (Nat → Int64) → (Nat → Nat → Int32) → (Nat → Nat → Int64) → Prop) (kh5 : ∀ (x1 : Int32) (x2 : Int32) (x3 : Int32) (x4 : Int32) (I : Nat → Int32) (J : Nat → Int64) (B : Nat → Nat → Int32) (D : Nat → Nat → Int64) (ls : Array Slot) (H : Heap) (locs : List Loc), K5 x1 x2 x3 x4 I J B D → lv_has ls 9 [(0, .ref (ad 0)), (1, .int x1), (2, .int x2), (3, .int x3), (4, .int x4)] → zW G A s.heap (wM ad K I J B D) H locs → W p l e { frames := 0, cells := 0, slots := 0, locals := 0 } s m ([.ref (ad 0), .int a0, .int a1] : List Value).toArray below meth c H locs 0 0 (MQ below (va_Qi (fun (r : Int32) (u : zS) => Post r u.1 u.2.1 u.2.2.1 u.2.2.2) (fun u t => zPost G K A (wM ad K u.1 u.2.1 u.2.2.1 u.2.2.2) t) A) ([.ref (ad 0), .int a0, .int a1] : List Value).toArray s 0 0 A) (F0 m 5 ls [])) : ∀ (x1 : Int32) (x2 : Int32) (x3 : Int32) (x4 : Int32) (x6 : Int32) (x7 : Int32) (I : Nat → Int32) (J : Nat → Int64) (B : Nat → Nat → Int32) (D : Nat → Nat → Int64) (ls : Array Slot) (H : Heap) (locs : List Loc), wc_LassoFinderModel_settled_128 a0 a1 K5 Post x1 x2 x3 x4 x6 x7 I J B D → lv_has ls 9 [(0, .ref (ad 0)), (1, .int x1), (2, .int x2), (3, .int x3), (4, .int x4), (6, .int x6), (7, .int x7)] → zW G A s.heap (wM ad K I J B D) H locs → W p l e { frames := 0, cells := 0, slots := 0, locals := 0 } s m ([.ref (ad 0), .int a0, .int a1] : List Value).toArray below meth c H locs 0 0 (MQ below (va_Qi (fun (r : Int32) (u : zS) => Post r u.1 u.2.1 u.2.2.1 u.2.2.2) (fun u t => zPost G K A (wM ad K u.1 u.2.1 u.2.2.1 u.2.2.2) t) A) ([.ref (ad 0), .int a0, .int a1] : List Value).toArray s 0 0 A) (F0 m 128 ls []) := by
  obtain ⟨hx, hb, hr, hml, hts, hown, hlocks, hA, hK⟩ := id C
  intro x1 x2 x3 x4 x6 x7 I J B D ls H locs hok hl hw
  unfold wc_LassoFinderModel_settled_128 at hok
  refine lv_iconst (v := 1) hx hb zd_LassoFinderModel_settled_128 (by decide) ?_
  refine lv_goto (tgt := 133) hx hb zd_LassoFinderModel_settled_129 (by decide) ?_
  exact wJ_LassoFinderModel_settled_133 G K ad a0 a1 Post C K5 kh5 x1 x2 x3 x4 x6 x7 1 I J B D ls H locs hok (lv_sub hl [0, 1, 2, 3, 4, 5, 6] rfl) hw
set_option maxHeartbeats 8000000 in
set_option maxRecDepth 100000 in
theorem wJ_LassoFinderModel_settled_84 {p : Program} {l : Launch} {e : Env} {s : State} {m : MethodId} {below : List Frame} {meth : Method} {c : Code} {A : Nat → Prop} (G : va_G) (K : Nat → ClassId) (ad : Nat → Nat) (a0 : Int32) (a1 : Int32) (Post : Int32 → (Nat → Int32) → (Nat → Int64) → (Nat → Nat → Int32) → (Nat → Nat → Int64) → Prop) (C : zCx p s m ([.ref (ad 0), .int a0, .int a1] : List Value).toArray meth c A G K prog_14_method_53_code (some .int) 9 "LassoFinderModel") (K5 : Int32 → Int32 → Int32 → Int32 → (Nat → Int32) → (Nat → Int64) → (Nat → Nat → Int32) → (Nat → Nat → Int64) → Prop) (kh5 : ∀ (x1 : Int32) (x2 : Int32) (x3 : Int32) (x4 : Int32) (I : Nat → Int32) (J : Nat → Int64) (B : Nat → Nat → Int32) (D : Nat → Nat → Int64) (ls : Array Slot) (H : Heap) (locs : List Loc), K5 x1 x2 x3 x4 I J B D → lv_has ls 9 [(0, .ref (ad 0)), (1, .int x1), (2, .int x2), (3, .int x3), (4, .int x4)] → zW G A s.heap (wM ad K I J B D) H locs → W p l e { frames := 0, cells := 0, slots := 0, locals := 0 } s m ([.ref (ad 0), .int a0, .int a1] : List Value).toArray below meth c H locs 0 0 (MQ below (va_Qi (fun (r : Int32) (u : zS) => Post r u.1 u.2.1 u.2.2.1 u.2.2.2) (fun u t => zPost G K A (wM ad K u.1 u.2.1 u.2.2.1 u.2.2.2) t) A) ([.ref (ad 0), .int a0, .int a1] : List Value).toArray s 0 0 A) (F0 m 5 ls [])) : ∀ (x1 : Int32) (x2 : Int32) (x3 : Int32) (x4 : Int32) (y0 : Int32) (I : Nat → Int32) (J : Nat → Int64) (B : Nat → Nat → Int32) (D : Nat → Nat → Int64) (ls : Array Slot) (H : Heap) (locs : List Loc), wc_LassoFinderModel_settled_84 a0 a1 K5 Post x1 x2 x3 x4 y0 I J B D → lv_has ls 9 [(0, .ref (ad 0)), (1, .int x1), (2, .int x2), (3, .int x3), (4, .int x4)] → zW G A s.heap (wM ad K I J B D) H locs → W p l e { frames := 0, cells := 0, slots := 0, locals := 0 } s m ([.ref (ad 0), .int a0, .int a1] : List Value).toArray below meth c H locs 0 0 (MQ below (va_Qi (fun (r : Int32) (u : zS) => Post r u.1 u.2.1 u.2.2.1 u.2.2.2) (fun u t => zPost G K A (wM ad K u.1 u.2.1 u.2.2.1 u.2.2.2) t) A) ([.ref (ad 0), .int a0, .int a1] : List Value).toArray s 0 0 A) (F0 m 84 ls [.int y0]) := by
  obtain ⟨hx, hb, hr, hml, hts, hown, hlocks, hA, hK⟩ := id C
  intro x1 x2 x3 x4 y0 I J B D ls H locs hok hl hw
  unfold wc_LassoFinderModel_settled_84 at hok
  refine lv_istore hx hb zd_LassoFinderModel_settled_84 hl (by decide) rfl (fun ls hl => ?_)
  have hl : lv_has ls 9 [(6, .int y0), (0, .ref (ad 0)), (1, .int x1), (2, .int x2), (3, .int x3), (4, .int x4)] := hl
  refine lv_iload_n hx hb zd_LassoFinderModel_settled_86 rfl (lv_at hl 3 rfl) ?_
  refine lv_iload hx hb zd_LassoFinderModel_settled_87 (lv_at hl 5 rfl) ?_
  refine lv_ishr hx hb zd_LassoFinderModel_settled_89 ?_
  refine lv_topi (fun z9 ez9 => ?_)
  have hok := hok z9 ez9
  refine lv_iconst (v := 1) hx hb zd_LassoFinderModel_settled_90 (by decide) ?_
  refine lv_iand hx hb zd_LassoFinderModel_settled_91 ?_
  refine lv_topi (fun z10 ez10 => ?_)
  have hok := hok z10 ez10
  refine lv_istore hx hb zd_LassoFinderModel_settled_92 hl (by decide) rfl (fun ls hl => ?_)
  have hl : lv_has ls 9 [(7, .int z10), (6, .int y0), (0, .ref (ad 0)), (1, .int x1), (2, .int x2), (3, .int x3), (4, .int x4)] := hl
  refine lv_aload_n hx hb zd_LassoFinderModel_settled_94 rfl (lv_at hl 2 rfl) ?_
  refine z_get (v := .ref (ad 44)) hx hb hts hown hK hw zZ12 0 rfl 63 (by decide) zm_278 rfl zd_LassoFinderModel_settled_95 ?_
  refine lv_aload_n hx hb zd_LassoFinderModel_settled_98 rfl (lv_at hl 2 rfl) ?_
  refine z_get (v := .ref (ad 46)) hx hb hts hown hK hw zZ12 0 rfl 68 (by decide) zm_280 rfl zd_LassoFinderModel_settled_99 ?_
  refine lv_iload hx hb zd_LassoFinderModel_settled_102 (lv_at hl 6 rfl) ?_
  refine va_iald (f := (B 43)) hx hb hK hw.1 46 0 rfl rfl hok.1 zd_LassoFinderModel_settled_104 ?_
  have hok := hok.2
  refine lv_topi (fun z11 ez11 => ?_)
  have hok := hok z11 ez11
  refine va_iald (f := (B 41)) hx hb hK hw.1 44 0 rfl rfl hok.1 zd_LassoFinderModel_settled_105 ?_
  have hok := hok.2
  refine lv_topi (fun z12 ez12 => ?_)
  have hok := hok z12 ez12
  refine lv_bipush (v := 12) hx hb zd_LassoFinderModel_settled_106 (by decide) ?_
  refine lv_icmp_eq (tgt := 128) hx hb zd_LassoFinderModel_settled_108 (by decide) (fun hc13 => ?_) (fun hc13 => ?_)
  · have hok := hok.1 hc13
    exact wJ_LassoFinderModel_settled_128 G K ad a0 a1 Post C K5 kh5 x1 x2 x3 x4 y0 z10 I J B D ls H locs hok (lv_sub hl [2, 3, 4, 5, 6, 1, 0] rfl) hw
  · have hok := hok.2 hc13
    refine lv_aload_n hx hb zd_LassoFinderModel_settled_111 rfl (lv_at hl 2 rfl) ?_
    refine z_get (v := .ref (ad 44)) hx hb hts hown hK hw zZ12 0 rfl 63 (by decide) zm_278 rfl zd_LassoFinderModel_settled_112 ?_
    refine lv_aload_n hx hb zd_LassoFinderModel_settled_115 rfl (lv_at hl 2 rfl) ?_
    refine z_get (v := .ref (ad 46)) hx hb hts hown hK hw zZ12 0 rfl 68 (by decide) zm_280 rfl zd_LassoFinderModel_settled_116 ?_
    refine lv_iload hx hb zd_LassoFinderModel_settled_119 (lv_at hl 6 rfl) ?_
    refine va_iald (f := (B 43)) hx hb hK hw.1 46 0 rfl rfl hok.1 zd_LassoFinderModel_settled_121 ?_
    have hok := hok.2
    refine lv_topi (fun z14 ez14 => ?_)
    have hok := hok z14 ez14
    refine va_iald (f := (B 41)) hx hb hK hw.1 44 0 rfl rfl hok.1 zd_LassoFinderModel_settled_122 ?_
    have hok := hok.2
    refine lv_topi (fun z15 ez15 => ?_)
    have hok := hok z15 ez15
    refine lv_bipush (v := 15) hx hb zd_LassoFinderModel_settled_123 (by decide) ?_
    refine lv_icmp_ne (tgt := 132) hx hb zd_LassoFinderModel_settled_125 (by decide) (fun hc16 => ?_) (fun hc16 => ?_)
    · have hok := hok.1 hc16
      refine lv_iconst (v := 0) hx hb zd_LassoFinderModel_settled_132 (by decide) ?_
      exact wJ_LassoFinderModel_settled_133 G K ad a0 a1 Post C K5 kh5 x1 x2 x3 x4 y0 z10 0 I J B D ls H locs hok (lv_sub hl [2, 3, 4, 5, 6, 1, 0] rfl) hw
    · have hok := hok.2 hc16
      exact wJ_LassoFinderModel_settled_128 G K ad a0 a1 Post C K5 kh5 x1 x2 x3 x4 y0 z10 I J B D ls H locs hok (lv_sub hl [2, 3, 4, 5, 6, 1, 0] rfl) hw
set_option maxHeartbeats 8000000 in
set_option maxRecDepth 100000 in
theorem wJ_LassoFinderModel_settled_61 {p : Program} {l : Launch} {e : Env} {s : State} {m : MethodId} {below : List Frame} {meth : Method} {c : Code} {A : Nat → Prop} (G : va_G) (K : Nat → ClassId) (ad : Nat → Nat) (a0 : Int32) (a1 : Int32) (Post : Int32 → (Nat → Int32) → (Nat → Int64) → (Nat → Nat → Int32) → (Nat → Nat → Int64) → Prop) (C : zCx p s m ([.ref (ad 0), .int a0, .int a1] : List Value).toArray meth c A G K prog_14_method_53_code (some .int) 9 "LassoFinderModel") (K5 : Int32 → Int32 → Int32 → Int32 → (Nat → Int32) → (Nat → Int64) → (Nat → Nat → Int32) → (Nat → Nat → Int64) → Prop) (kh5 : ∀ (x1 : Int32) (x2 : Int32) (x3 : Int32) (x4 : Int32) (I : Nat → Int32) (J : Nat → Int64) (B : Nat → Nat → Int32) (D : Nat → Nat → Int64) (ls : Array Slot) (H : Heap) (locs : List Loc), K5 x1 x2 x3 x4 I J B D → lv_has ls 9 [(0, .ref (ad 0)), (1, .int x1), (2, .int x2), (3, .int x3), (4, .int x4)] → zW G A s.heap (wM ad K I J B D) H locs → W p l e { frames := 0, cells := 0, slots := 0, locals := 0 } s m ([.ref (ad 0), .int a0, .int a1] : List Value).toArray below meth c H locs 0 0 (MQ below (va_Qi (fun (r : Int32) (u : zS) => Post r u.1 u.2.1 u.2.2.1 u.2.2.2) (fun u t => zPost G K A (wM ad K u.1 u.2.1 u.2.2.1 u.2.2.2) t) A) ([.ref (ad 0), .int a0, .int a1] : List Value).toArray s 0 0 A) (F0 m 5 ls [])) : ∀ (x1 : Int32) (x2 : Int32) (x3 : Int32) (x4 : Int32) (x5 : Int32) (I : Nat → Int32) (J : Nat → Int64) (B : Nat → Nat → Int32) (D : Nat → Nat → Int64) (ls : Array Slot) (H : Heap) (locs : List Loc), wc_LassoFinderModel_settled_61 a0 a1 K5 Post x1 x2 x3 x4 x5 I J B D → lv_has ls 9 [(0, .ref (ad 0)), (1, .int x1), (2, .int x2), (3, .int x3), (4, .int x4), (5, .int x5)] → zW G A s.heap (wM ad K I J B D) H locs → W p l e { frames := 0, cells := 0, slots := 0, locals := 0 } s m ([.ref (ad 0), .int a0, .int a1] : List Value).toArray below meth c H locs 0 0 (MQ below (va_Qi (fun (r : Int32) (u : zS) => Post r u.1 u.2.1 u.2.2.1 u.2.2.2) (fun u t => zPost G K A (wM ad K u.1 u.2.1 u.2.2.1 u.2.2.2) t) A) ([.ref (ad 0), .int a0, .int a1] : List Value).toArray s 0 0 A) (F0 m 61 ls []) := by
  obtain ⟨hx, hb, hr, hml, hts, hown, hlocks, hA, hK⟩ := id C
  intro x1 x2 x3 x4 x5 I J B D ls H locs hok hl hw
  unfold wc_LassoFinderModel_settled_61 at hok
  refine lv_iload hx hb zd_LassoFinderModel_settled_61 (lv_at hl 5 rfl) ?_
  refine lv_iconst (v := 2) hx hb zd_LassoFinderModel_settled_63 (by decide) ?_
  refine lv_iload hx hb zd_LassoFinderModel_settled_64 (lv_at hl 4 rfl) ?_
  refine lv_imul hx hb zd_LassoFinderModel_settled_66 ?_
  refine lv_topi (fun z17 ez17 => ?_)
  have hok := hok z17 ez17
  refine lv_iconst (v := 1) hx hb zd_LassoFinderModel_settled_67 (by decide) ?_
  refine lv_iadd hx hb zd_LassoFinderModel_settled_68 ?_
  refine lv_topi (fun z18 ez18 => ?_)
  have hok := hok z18 ez18
  refine lv_ishr hx hb zd_LassoFinderModel_settled_69 ?_
  refine lv_topi (fun z19 ez19 => ?_)
  have hok := hok z19 ez19
  refine lv_iconst (v := 1) hx hb zd_LassoFinderModel_settled_70 (by decide) ?_
  refine lv_iand hx hb zd_LassoFinderModel_settled_71 ?_
  refine lv_topi (fun z20 ez20 => ?_)
  have hok := hok z20 ez20
  refine lv_goto (tgt := 84) hx hb zd_LassoFinderModel_settled_72 (by decide) ?_
  exact wJ_LassoFinderModel_settled_84 G K ad a0 a1 Post C K5 kh5 x1 x2 x3 x4 z20 I J B D ls H locs hok (lv_sub hl [0, 1, 2, 3, 4] rfl) hw
set_option maxHeartbeats 8000000 in
set_option maxRecDepth 100000 in
theorem wB_LassoFinderModel_settled_5 {p : Program} {l : Launch} {e : Env} {s : State} {m : MethodId} {below : List Frame} {meth : Method} {c : Code} {A : Nat → Prop} (G : va_G) (K : Nat → ClassId) (ad : Nat → Nat) (a0 : Int32) (a1 : Int32) (Post : Int32 → (Nat → Int32) → (Nat → Int64) → (Nat → Nat → Int32) → (Nat → Nat → Int64) → Prop) (C : zCx p s m ([.ref (ad 0), .int a0, .int a1] : List Value).toArray meth c A G K prog_14_method_53_code (some .int) 9 "LassoFinderModel") (K5 : Int32 → Int32 → Int32 → Int32 → (Nat → Int32) → (Nat → Int64) → (Nat → Nat → Int32) → (Nat → Nat → Int64) → Prop) (kh5 : ∀ (x1 : Int32) (x2 : Int32) (x3 : Int32) (x4 : Int32) (I : Nat → Int32) (J : Nat → Int64) (B : Nat → Nat → Int32) (D : Nat → Nat → Int64) (ls : Array Slot) (H : Heap) (locs : List Loc), K5 x1 x2 x3 x4 I J B D → lv_has ls 9 [(0, .ref (ad 0)), (1, .int x1), (2, .int x2), (3, .int x3), (4, .int x4)] → zW G A s.heap (wM ad K I J B D) H locs → W p l e { frames := 0, cells := 0, slots := 0, locals := 0 } s m ([.ref (ad 0), .int a0, .int a1] : List Value).toArray below meth c H locs 0 0 (MQ below (va_Qi (fun (r : Int32) (u : zS) => Post r u.1 u.2.1 u.2.2.1 u.2.2.2) (fun u t => zPost G K A (wM ad K u.1 u.2.1 u.2.2.1 u.2.2.2) t) A) ([.ref (ad 0), .int a0, .int a1] : List Value).toArray s 0 0 A) (F0 m 5 ls [])) : ∀ (x1 : Int32) (x2 : Int32) (x3 : Int32) (x4 : Int32) (I : Nat → Int32) (J : Nat → Int64) (B : Nat → Nat → Int32) (D : Nat → Nat → Int64) (ls : Array Slot) (H : Heap) (locs : List Loc), wb_LassoFinderModel_settled_5 a0 a1 K5 Post x1 x2 x3 x4 I J B D → lv_has ls 9 [(0, .ref (ad 0)), (1, .int x1), (2, .int x2), (3, .int x3), (4, .int x4)] → zW G A s.heap (wM ad K I J B D) H locs → W p l e { frames := 0, cells := 0, slots := 0, locals := 0 } s m ([.ref (ad 0), .int a0, .int a1] : List Value).toArray below meth c H locs 0 0 (MQ below (va_Qi (fun (r : Int32) (u : zS) => Post r u.1 u.2.1 u.2.2.1 u.2.2.2) (fun u t => zPost G K A (wM ad K u.1 u.2.1 u.2.2.1 u.2.2.2) t) A) ([.ref (ad 0), .int a0, .int a1] : List Value).toArray s 0 0 A) (F0 m 5 ls []) := by
  obtain ⟨hx, hb, hr, hml, hts, hown, hlocks, hA, hK⟩ := id C
  intro x1 x2 x3 x4 I J B D ls H locs hok hl hw
  unfold wb_LassoFinderModel_settled_5 at hok
  refine lv_iload hx hb zd_LassoFinderModel_settled_5 (lv_at hl 4 rfl) ?_
  refine lv_aload_n hx hb zd_LassoFinderModel_settled_7 rfl (lv_at hl 0 rfl) ?_
  refine z_get (v := .int (I 20)) hx hb hts hown hK hw zZ12 0 rfl 64 (by decide) zm_356 rfl zd_LassoFinderModel_settled_8 ?_
  refine lv_icmp_ge (tgt := 178) hx hb zd_LassoFinderModel_settled_11 (by decide) (fun hc21 => ?_) (fun hc21 => ?_)
  · have hok := hok.1 hc21
    refine lv_iload_n hx hb zd_LassoFinderModel_settled_178 rfl (lv_at hl 3 rfl) ?_
    exact z_iret (u := (I, J, B, D)) hx hb hr hlocks rfl hw [0, 1, 2, 3, 4, 5, 6, 7, 8, 9, 10, 11, 12, 13, 14, 15, 16, 17, 18, 19, 20, 21, 22, 23, 24, 25, 26, 27, 28, 29, 30, 31, 32, 33, 34, 35, 36, 37, 38, 39, 40, 41, 42, 43, 44, 45, 46, 47, 48, 49, 50, 51, 52, 53, 54, 55, 56, 57] rfl (by decide) hok (Nat.le_of_ble_eq_true rfl) (Nat.le_of_ble_eq_true rfl) zd_LassoFinderModel_settled_179
  · have hok := hok.2 hc21
    refine lv_aload_n hx hb zd_LassoFinderModel_settled_14 rfl (lv_at hl 0 rfl) ?_
    refine z_get (v := .ref (ad 51)) hx hb hts hown hK hw zZ12 0 rfl 74 (by decide) zm_285 rfl zd_LassoFinderModel_settled_15 ?_
    refine lv_bipush (v := 8) hx hb zd_LassoFinderModel_settled_18 (by decide) ?_
    refine lv_iload_n hx hb zd_LassoFinderModel_settled_20 rfl (lv_at hl 1 rfl) ?_
    refine lv_imul hx hb zd_LassoFinderModel_settled_21 ?_
    refine lv_topi (fun z22 ez22 => ?_)
    have hok := hok z22 ez22
    refine lv_iload_n hx hb zd_LassoFinderModel_settled_22 rfl (lv_at hl 2 rfl) ?_
    refine lv_iadd hx hb zd_LassoFinderModel_settled_23 ?_
    refine lv_topi (fun z23 ez23 => ?_)
    have hok := hok z23 ez23
    refine va_iald (f := (B 48)) hx hb hK hw.1 51 0 rfl rfl hok.1 zd_LassoFinderModel_settled_24 ?_
    have hok := hok.2
    refine lv_topi (fun z24 ez24 => ?_)
    have hok := hok z24 ez24
    refine lv_istore hx hb zd_LassoFinderModel_settled_25 hl (by decide) rfl (fun ls hl => ?_)
    have hl : lv_has ls 9 [(5, .int z24), (0, .ref (ad 0)), (1, .int x1), (2, .int x2), (3, .int x3), (4, .int x4)] := hl
    refine lv_aload_n hx hb zd_LassoFinderModel_settled_27 rfl (lv_at hl 1 rfl) ?_
    refine z_get (v := .ref (ad 44)) hx hb hts hown hK hw zZ12 0 rfl 63 (by decide) zm_278 rfl zd_LassoFinderModel_settled_28 ?_
    refine lv_aload_n hx hb zd_LassoFinderModel_settled_31 rfl (lv_at hl 1 rfl) ?_
    refine z_get (v := .ref (ad 46)) hx hb hts hown hK hw zZ12 0 rfl 68 (by decide) zm_280 rfl zd_LassoFinderModel_settled_32 ?_
    refine lv_iload hx hb zd_LassoFinderModel_settled_35 (lv_at hl 5 rfl) ?_
    refine va_iald (f := (B 43)) hx hb hK hw.1 46 0 rfl rfl hok.1 zd_LassoFinderModel_settled_37 ?_
    have hok := hok.2
    refine lv_topi (fun z25 ez25 => ?_)
    have hok := hok z25 ez25
    refine va_iald (f := (B 41)) hx hb hK hw.1 44 0 rfl rfl hok.1 zd_LassoFinderModel_settled_38 ?_
    have hok := hok.2
    refine lv_topi (fun z26 ez26 => ?_)
    have hok := hok z26 ez26
    refine lv_bipush (v := 12) hx hb zd_LassoFinderModel_settled_39 (by decide) ?_
    refine lv_icmp_eq (tgt := 61) hx hb zd_LassoFinderModel_settled_41 (by decide) (fun hc27 => ?_) (fun hc27 => ?_)
    · have hok := hok.1 hc27
      exact wJ_LassoFinderModel_settled_61 G K ad a0 a1 Post C K5 kh5 x1 x2 x3 x4 z24 I J B D ls H locs hok (lv_sub hl [1, 2, 3, 4, 5, 0] rfl) hw
    · have hok := hok.2 hc27
      refine lv_aload_n hx hb zd_LassoFinderModel_settled_44 rfl (lv_at hl 1 rfl) ?_
      refine z_get (v := .ref (ad 44)) hx hb hts hown hK hw zZ12 0 rfl 63 (by decide) zm_278 rfl zd_LassoFinderModel_settled_45 ?_
      refine lv_aload_n hx hb zd_LassoFinderModel_settled_48 rfl (lv_at hl 1 rfl) ?_
      refine z_get (v := .ref (ad 46)) hx hb hts hown hK hw zZ12 0 rfl 68 (by decide) zm_280 rfl zd_LassoFinderModel_settled_49 ?_
      refine lv_iload hx hb zd_LassoFinderModel_settled_52 (lv_at hl 5 rfl) ?_
      refine va_iald (f := (B 43)) hx hb hK hw.1 46 0 rfl rfl hok.1 zd_LassoFinderModel_settled_54 ?_
      have hok := hok.2
      refine lv_topi (fun z28 ez28 => ?_)
      have hok := hok z28 ez28
      refine va_iald (f := (B 41)) hx hb hK hw.1 44 0 rfl rfl hok.1 zd_LassoFinderModel_settled_55 ?_
      have hok := hok.2
      refine lv_topi (fun z29 ez29 => ?_)
      have hok := hok z29 ez29
      refine lv_bipush (v := 13) hx hb zd_LassoFinderModel_settled_56 (by decide) ?_
      refine lv_icmp_ne (tgt := 75) hx hb zd_LassoFinderModel_settled_58 (by decide) (fun hc30 => ?_) (fun hc30 => ?_)
      · have hok := hok.1 hc30
        refine lv_iload hx hb zd_LassoFinderModel_settled_75 (lv_at hl 0 rfl) ?_
        refine lv_iconst (v := 2) hx hb zd_LassoFinderModel_settled_77 (by decide) ?_
        refine lv_iload hx hb zd_LassoFinderModel_settled_78 (lv_at hl 5 rfl) ?_
        refine lv_imul hx hb zd_LassoFinderModel_settled_80 ?_
        refine lv_topi (fun z31 ez31 => ?_)
        have hok := hok z31 ez31
        refine lv_ishr hx hb zd_LassoFinderModel_settled_81 ?_
        refine lv_topi (fun z32 ez32 => ?_)
        have hok := hok z32 ez32
        refine lv_iconst (v := 1) hx hb zd_LassoFinderModel_settled_82 (by decide) ?_
        refine lv_iand hx hb zd_LassoFinderModel_settled_83 ?_
        refine lv_topi (fun z33 ez33 => ?_)
        have hok := hok z33 ez33
        exact wJ_LassoFinderModel_settled_84 G K ad a0 a1 Post C K5 kh5 x1 x2 x3 x4 z33 I J B D ls H locs hok (lv_sub hl [1, 2, 3, 4, 5] rfl) hw
      · have hok := hok.2 hc30
        exact wJ_LassoFinderModel_settled_61 G K ad a0 a1 Post C K5 kh5 x1 x2 x3 x4 z24 I J B D ls H locs hok (lv_sub hl [1, 2, 3, 4, 5, 0] rfl) hw
theorem wL_LassoFinderModel_settled_5 {p : Program} {l : Launch} {e : Env} {s : State} {m : MethodId} {below : List Frame} {meth : Method} {c : Code} {A : Nat → Prop} (G : va_G) (K : Nat → ClassId) (ad : Nat → Nat) (a0 : Int32) (a1 : Int32) (Post : Int32 → (Nat → Int32) → (Nat → Int64) → (Nat → Nat → Int32) → (Nat → Nat → Int64) → Prop) (C : zCx p s m ([.ref (ad 0), .int a0, .int a1] : List Value).toArray meth c A G K prog_14_method_53_code (some .int) 9 "LassoFinderModel") : ∀ (n : Nat) (x1 : Int32) (x2 : Int32) (x3 : Int32) (x4 : Int32) (I : Nat → Int32) (J : Nat → Int64) (B : Nat → Nat → Int32) (D : Nat → Nat → Int64) (ls : Array Slot) (H : Heap) (locs : List Loc), wl_LassoFinderModel_settled_5 a0 a1 Post n x1 x2 x3 x4 I J B D → lv_has ls 9 [(0, .ref (ad 0)), (1, .int x1), (2, .int x2), (3, .int x3), (4, .int x4)] → zW G A s.heap (wM ad K I J B D) H locs → W p l e { frames := 0, cells := 0, slots := 0, locals := 0 } s m ([.ref (ad 0), .int a0, .int a1] : List Value).toArray below meth c H locs 0 0 (MQ below (va_Qi (fun (r : Int32) (u : zS) => Post r u.1 u.2.1 u.2.2.1 u.2.2.2) (fun u t => zPost G K A (wM ad K u.1 u.2.1 u.2.2.1 u.2.2.2) t) A) ([.ref (ad 0), .int a0, .int a1] : List Value).toArray s 0 0 A) (F0 m 5 ls []) := by
  intro n
  induction n with
  | zero => intro x1 x2 x3 x4 I J B D ls H locs hok; exact hok.elim
  | succ n ih => exact wB_LassoFinderModel_settled_5 G K ad a0 a1 Post C (wl_LassoFinderModel_settled_5 a0 a1 Post n) ih
set_option maxHeartbeats 8000000 in
set_option maxRecDepth 100000 in
theorem w_LassoFinderModel_settled (l : Launch) (G : va_G) (K : Nat → ClassId) (ad : Nat → Nat) (I : Nat → Int32) (J : Nat → Int64) (B : Nat → Nat → Int32) (D : Nat → Nat → Int64) (a0 : Int32) (a1 : Int32) (Post : Int32 → (Nat → Int32) → (Nat → Int64) → (Nat → Nat → Int32) → (Nat → Nat → Int64) → Prop) (sz : Nat) (hok : wp_LassoFinderModel_settled I J B D a0 a1 Post) : Met l zy_LassoFinderModel_settled (Cond.code zy_LassoFinderModel_settled prog_14_method_53_code 9 (some .int) :: zTB) { frames := 0, cells := 0, slots := 0, locals := 0 } (va_Pc [.ref (ad 0), .int a0, .int a1] (zPre G K (wM ad K I J B D) sz)) (va_Qi (fun (r : Int32) (u : zS) => Post r u.1 u.2.1 u.2.2.1 u.2.2.2) (fun u t => zPost G K (va_A (wM ad K I J B D) sz) (wM ad K u.1 u.2.1 u.2.2.1 u.2.2.2) t) (va_A (wM ad K I J B D) sz)) 0 0 (va_A (wM ad K I J B D) sz) := by
  refine zMet (y := zy_LassoFinderModel_settled) (av := [.ref (ad 0), .int a0, .int a1]) (maxL := 9) (cc := prog_14_method_53_code) (ret := (some .int)) (W0 := (wM ad K I J B D)) (sz := sz) (G := G) (K := K) (wt := zTB) (mc := 0) (ms := 0) (Qf := fun A => va_Qi (fun (r : Int32) (u : zS) => Post r u.1 u.2.1 u.2.2.1 u.2.2.2) (fun u t => zPost G K A (wM ad K u.1 u.2.1 u.2.2.1 u.2.2.2) t) A) (by decide) (Nat.le_of_ble_eq_true rfl) ?_
  intro p e s m below meth c ls A hx hb hr hml hts hown hlocks hin hA hK H locs hw hsz hl
  clear hsz
  have hown : s.vm.findClass "LassoFinderModel" = some m.cls := hown
  have C : zCx p s m ([.ref (ad 0), .int a0, .int a1] : List Value).toArray meth c A G K prog_14_method_53_code (some .int) 9 "LassoFinderModel" := ⟨hx, hb, hr, hml, hts, hown, hlocks, hA, hK⟩
  have hl : lv_has ls 9 [(0, .ref (ad 0)), (1, .int a0), (2, .int a1)] := hl
  have hw : zW G A s.heap (wM ad K I J B D) H locs := hw
  unfold wp_LassoFinderModel_settled at hok
  refine lv_iconst (v := 0) hx hb zd_LassoFinderModel_settled_0 (by decide) ?_
  refine lv_istore_n hx hb zd_LassoFinderModel_settled_1 rfl hl (by decide) rfl (fun ls hl => ?_)
  have hl : lv_has ls 9 [(3, .int 0), (0, .ref (ad 0)), (1, .int a0), (2, .int a1)] := hl
  refine lv_iconst (v := 0) hx hb zd_LassoFinderModel_settled_2 (by decide) ?_
  refine lv_istore hx hb zd_LassoFinderModel_settled_3 hl (by decide) rfl (fun ls hl => ?_)
  have hl : lv_has ls 9 [(4, .int 0), (3, .int 0), (0, .ref (ad 0)), (1, .int a0), (2, .int a1)] := hl
  obtain ⟨n9, hok⟩ := hok
  exact wL_LassoFinderModel_settled_5 G K ad a0 a1 Post C n9 a0 a1 0 0 I J B D ls H locs hok (lv_sub hl [2, 3, 4, 1, 0] rfl) hw
def wc_LassoFinderModel_ahead_125 (a0 : Int32) (a1 : Int64) (a2 : Int32) (K6 : Int32 → Int64 → Int32 → Int64 → Int32 → (Nat → Int32) → (Nat → Int64) → (Nat → Nat → Int32) → (Nat → Nat → Int64) → Prop) (K48 : Int32 → Int64 → Int32 → Int64 → Int32 → Int32 → Int32 → Int32 → (Nat → Int32) → (Nat → Int64) → (Nat → Nat → Int32) → (Nat → Nat → Int64) → Prop) (Post : Int64 → (Nat → Int32) → (Nat → Int64) → (Nat → Nat → Int32) → (Nat → Nat → Int64) → Prop) (x1 : Int32) (x2 : Int64) (x4 : Int32) (x5 : Int64) (x7 : Int32) (x8 : Int32) (x9 : Int32) (x10 : Int32) (I : Nat → Int32) (J : Nat → Int64) (B : Nat → Nat → Int32) (D : Nat → Nat → Int64) : Prop :=
  ∀ z1 : Int32, z1 = (x10 + 1) → K48 x1 x2 x4 x5 x7 x8 x9 z1 I J B D
def wb_LassoFinderModel_ahead_48 (a0 : Int32) (a1 : Int64) (a2 : Int32) (K48 : Int32 → Int64 → Int32 → Int64 → Int32 → Int32 → Int32 → Int32 → (Nat → Int32) → (Nat → Int64) → (Nat → Nat → Int32) → (Nat → Nat → Int64) → Prop) (K6 : Int32 → Int64 → Int32 → Int64 → Int32 → (Nat → Int32) → (Nat → Int64) → (Nat → Nat → Int32) → (Nat → Nat → Int64) → Prop) (Post : Int64 → (Nat → Int32) → (Nat → Int64) → (Nat → Nat → Int32) → (Nat → Nat → Int64) → Prop) (x1 : Int32) (x2 : Int64) (x4 : Int32) (x5 : Int64) (x7 : Int32) (x8 : Int32) (x9 : Int32) (x10 : Int32) (I : Nat → Int32) (J : Nat → Int64) (B : Nat → Nat → Int32) (D : Nat → Nat → Int64) : Prop :=
  ∀ z2 : Int32, z2 = (1 <<< ((I 20) &&& 31)) → ((z2 ≤ x10 → ∀ z4 : Int32, z4 = (x7 + 1) → K6 x1 x2 x4 x5 z4 I J B D) ∧ (¬ z2 ≤ x10 → ∀ z5 : Int32, z5 = (x10 ||| x9) → ∀ z6 : Int32, z6 = (8 * x8) → ∀ z7 : Int32, z7 = (z6 + x10) → ∀ z8 : Int64, z8 = (x2 >>> (z7.toInt64 &&& 63)) → ∀ z9 : Int64, z9 = (z8 &&& 1) → ∀ z10 : Int32, z10 = (lg_cmp z9 1) → ((¬ z10 = 0 → wc_LassoFinderModel_ahead_125 a0 a1 a2 K6 K48 Post x1 x2 x4 x5 x7 x8 x9 x10 I J B D) ∧ (z10 = 0 → vp_in x1 401 ∧ ∀ z12 : Int32, z12 = ((B 30) x1.toNatClampNeg) → ∀ z13 : Int32, z13 = (64 * z12) → ∀ z14 : Int32, z14 = (8 * x7) → ∀ z15 : Int32, z15 = (z13 + z14) → ∀ z16 : Int32, z16 = (z15 + z5) → wp_LassoFinderModel_away I J B D z16 (fun r17 I17 J17 B17 D17 => ((¬ r17 = x4 → wc_LassoFinderModel_ahead_125 a0 a1 a2 K6 K48 Post x1 x2 x4 x5 x7 x8 x9 x10 I17 J17 B17 D17) ∧ (r17 = x4 → ∀ z19 : Int32, z19 = (8 * x7) → ∀ z20 : Int32, z20 = (z19 + z5) → ∀ z21 : Int64, z21 = ((1 : Int64) <<< (z20.toInt64 &&& 63)) → ∀ z22 : Int64, z22 = (x5 ||| z21) → wc_LassoFinderModel_ahead_125 a0 a1 a2 K6 K48 Post x1 x2 x4 z22 x7 x8 x9 x10 I17 J17 B17 D17)))))))
def wl_LassoFinderModel_ahead_48 (a0 : Int32) (a1 : Int64) (a2 : Int32) (K6 : Int32 → Int64 → Int32 → Int64 → Int32 → (Nat → Int32) → (Nat → Int64) → (Nat → Nat → Int32) → (Nat → Nat → Int64) → Prop) (Post : Int64 → (Nat → Int32) → (Nat → Int64) → (Nat → Nat → Int32) → (Nat → Nat → Int64) → Prop) (n : Nat) : Int32 → Int64 → Int32 → Int64 → Int32 → Int32 → Int32 → Int32 → (Nat → Int32) → (Nat → Int64) → (Nat → Nat → Int32) → (Nat → Nat → Int64) → Prop := Nat.rec (fun _ _ _ _ _ _ _ _ _ _ _ _ => False) (fun _ r => wb_LassoFinderModel_ahead_48 a0 a1 a2 r K6 Post) n
def wb_LassoFinderModel_ahead_6 (a0 : Int32) (a1 : Int64) (a2 : Int32) (K6 : Int32 → Int64 → Int32 → Int64 → Int32 → (Nat → Int32) → (Nat → Int64) → (Nat → Nat → Int32) → (Nat → Nat → Int64) → Prop) (Post : Int64 → (Nat → Int32) → (Nat → Int64) → (Nat → Nat → Int32) → (Nat → Nat → Int64) → Prop) (x1 : Int32) (x2 : Int64) (x4 : Int32) (x5 : Int64) (x7 : Int32) (I : Nat → Int32) (J : Nat → Int64) (B : Nat → Nat → Int32) (D : Nat → Nat → Int64) : Prop :=
  ∀ z23 : Int32, z23 = (1 <<< ((I 20) &&& 31)) → ((z23 ≤ x7 → Post x5 I J B D) ∧ (¬ z23 ≤ x7 → vp_in x1 401 ∧ ∀ z25 : Int32, z25 = ((B 31) x1.toNatClampNeg) → wp_LassoFinderModel_truthAt I J B D z25 x7 (fun r26 I26 J26 B26 D26 => vp_in x1 401 ∧ ∀ z27 : Int32, z27 = ((B26 30) x1.toNatClampNeg) → wp_LassoFinderModel_settled I26 J26 B26 D26 z27 x7 (fun r28 I28 J28 B28 D28 => ∃ n : Nat, wl_LassoFinderModel_ahead_48 a0 a1 a2 K6 Post n x1 x2 x4 x5 x7 r26 r28 0 I28 J28 B28 D28))))
def wl_LassoFinderModel_ahead_6 (a0 : Int32) (a1 : Int64) (a2 : Int32) (Post : Int64 → (Nat → Int32) → (Nat → Int64) → (Nat → Nat → Int32) → (Nat → Nat → Int64) → Prop) (n : Nat) : Int32 → Int64 → Int32 → Int64 → Int32 → (Nat → Int32) → (Nat → Int64) → (Nat → Nat → Int32) → (Nat → Nat → Int64) → Prop := Nat.rec (fun _ _ _ _ _ _ _ _ _ => False) (fun _ r => wb_LassoFinderModel_ahead_6 a0 a1 a2 r Post) n
def wp_LassoFinderModel_ahead (I : Nat → Int32) (J : Nat → Int64) (B : Nat → Nat → Int32) (D : Nat → Nat → Int64) (a0 : Int32) (a1 : Int64) (a2 : Int32) (Post : Int64 → (Nat → Int32) → (Nat → Int64) → (Nat → Nat → Int32) → (Nat → Nat → Int64) → Prop) : Prop :=
  ∃ n : Nat, wl_LassoFinderModel_ahead_6 a0 a1 a2 Post n a0 a1 a2 0 0 I J B D
set_option maxHeartbeats 8000000 in
set_option maxRecDepth 100000 in
theorem wJ_LassoFinderModel_ahead_125 {p : Program} {l : Launch} {e : Env} {s : State} {m : MethodId} {below : List Frame} {meth : Method} {c : Code} {A : Nat → Prop} (G : va_G) (K : Nat → ClassId) (ad : Nat → Nat) (a0 : Int32) (a1 : Int64) (a2 : Int32) (Post : Int64 → (Nat → Int32) → (Nat → Int64) → (Nat → Nat → Int32) → (Nat → Nat → Int64) → Prop) (C : zCx p s m ([.ref (ad 0), .int a0, .long a1, .int a2] : List Value).toArray meth c A G K prog_14_method_63_code (some .long) 12 "LassoFinderModel") (K6 : Int32 → Int64 → Int32 → Int64 → Int32 → (Nat → Int32) → (Nat → Int64) → (Nat → Nat → Int32) → (Nat → Nat → Int64) → Prop) (kh6 : ∀ (x1 : Int32) (x2 : Int64) (x4 : Int32) (x5 : Int64) (x7 : Int32) (I : Nat → Int32) (J : Nat → Int64) (B : Nat → Nat → Int32) (D : Nat → Nat → Int64) (ls : Array Slot) (H : Heap) (locs : List Loc), K6 x1 x2 x4 x5 x7 I J B D → lv_has ls 12 [(0, .ref (ad 0)), (1, .int x1), (2, .long x2), (4, .int x4), (5, .long x5), (7, .int x7)] → zW G A s.heap (wM ad K I J B D) H locs → W p l e { frames := 2, cells := 0, slots := 0, locals := 50 } s m ([.ref (ad 0), .int a0, .long a1, .int a2] : List Value).toArray below meth c H locs 0 0 (MQ below (va_Ql (fun (r : Int64) (u : zS) => Post r u.1 u.2.1 u.2.2.1 u.2.2.2) (fun u t => zPost G K A (wM ad K u.1 u.2.1 u.2.2.1 u.2.2.2) t) A) ([.ref (ad 0), .int a0, .long a1, .int a2] : List Value).toArray s 0 0 A) (F0 m 6 ls [])) (K48 : Int32 → Int64 → Int32 → Int64 → Int32 → Int32 → Int32 → Int32 → (Nat → Int32) → (Nat → Int64) → (Nat → Nat → Int32) → (Nat → Nat → Int64) → Prop) (kh48 : ∀ (x1 : Int32) (x2 : Int64) (x4 : Int32) (x5 : Int64) (x7 : Int32) (x8 : Int32) (x9 : Int32) (x10 : Int32) (I : Nat → Int32) (J : Nat → Int64) (B : Nat → Nat → Int32) (D : Nat → Nat → Int64) (ls : Array Slot) (H : Heap) (locs : List Loc), K48 x1 x2 x4 x5 x7 x8 x9 x10 I J B D → lv_has ls 12 [(0, .ref (ad 0)), (1, .int x1), (2, .long x2), (4, .int x4), (5, .long x5), (7, .int x7), (8, .int x8), (9, .int x9), (10, .int x10)] → zW G A s.heap (wM ad K I J B D) H locs → W p l e { frames := 2, cells := 0, slots := 0, locals := 50 } s m ([.ref (ad 0), .int a0, .long a1, .int a2] : List Value).toArray below meth c H locs 0 0 (MQ below (va_Ql (fun (r : Int64) (u : zS) => Post r u.1 u.2.1 u.2.2.1 u.2.2.2) (fun u t => zPost G K A (wM ad K u.1 u.2.1 u.2.2.1 u.2.2.2) t) A) ([.ref (ad 0), .int a0, .long a1, .int a2] : List Value).toArray s 0 0 A) (F0 m 48 ls [])) : ∀ (x1 : Int32) (x2 : Int64) (x4 : Int32) (x5 : Int64) (x7 : Int32) (x8 : Int32) (x9 : Int32) (x10 : Int32) (I : Nat → Int32) (J : Nat → Int64) (B : Nat → Nat → Int32) (D : Nat → Nat → Int64) (ls : Array Slot) (H : Heap) (locs : List Loc), wc_LassoFinderModel_ahead_125 a0 a1 a2 K6 K48 Post x1 x2 x4 x5 x7 x8 x9 x10 I J B D → lv_has ls 12 [(0, .ref (ad 0)), (1, .int x1), (2, .long x2), (4, .int x4), (5, .long x5), (7, .int x7), (8, .int x8), (9, .int x9), (10, .int x10)] → zW G A s.heap (wM ad K I J B D) H locs → W p l e { frames := 2, cells := 0, slots := 0, locals := 50 } s m ([.ref (ad 0), .int a0, .long a1, .int a2] : List Value).toArray below meth c H locs 0 0 (MQ below (va_Ql (fun (r : Int64) (u : zS) => Post r u.1 u.2.1 u.2.2.1 u.2.2.2) (fun u t => zPost G K A (wM ad K u.1 u.2.1 u.2.2.1 u.2.2.2) t) A) ([.ref (ad 0), .int a0, .long a1, .int a2] : List Value).toArray s 0 0 A) (F0 m 125 ls []) := by
  obtain ⟨hx, hb, hr, hml, hts, hown, hlocks, hA, hK⟩ := id C
  intro x1 x2 x4 x5 x7 x8 x9 x10 I J B D ls H locs hok hl hw
  unfold wc_LassoFinderModel_ahead_125 at hok
  obtain ⟨z1, ez1⟩ : ∃ z : Int32, z = (x10 + 1) := ⟨_, rfl⟩
  have hok := hok z1 ez1
  refine lv_iinc (v := z1) hx hb zd_LassoFinderModel_ahead_125 hl (k := 8) rfl ez1.symm (by decide) rfl (fun ls hl => ?_)
  have hl : lv_has ls 12 [(10, .int z1), (0, .ref (ad 0)), (1, .int x1), (2, .long x2), (4, .int x4), (5, .long x5), (7, .int x7), (8, .int x8), (9, .int x9)] := hl
  refine lv_goto (tgt := 48) hx hb zd_LassoFinderModel_ahead_128 (by decide) ?_
  exact kh48 x1 x2 x4 x5 x7 x8 x9 z1 I J B D ls H locs hok (lv_sub hl [1, 2, 3, 4, 5, 6, 7, 8, 0] rfl) hw
set_option maxHeartbeats 8000000 in
set_option maxRecDepth 100000 in
theorem wB_LassoFinderModel_ahead_48 {p : Program} {l : Launch} {e : Env} {s : State} {m : MethodId} {below : List Frame} {meth : Method} {c : Code} {A : Nat → Prop} (G : va_G) (K : Nat → ClassId) (ad : Nat → Nat) (a0 : Int32) (a1 : Int64) (a2 : Int32) (Post : Int64 → (Nat → Int32) → (Nat → Int64) → (Nat → Nat → Int32) → (Nat → Nat → Int64) → Prop) (C : zCx p s m ([.ref (ad 0), .int a0, .long a1, .int a2] : List Value).toArray meth c A G K prog_14_method_63_code (some .long) 12 "LassoFinderModel") (K6 : Int32 → Int64 → Int32 → Int64 → Int32 → (Nat → Int32) → (Nat → Int64) → (Nat → Nat → Int32) → (Nat → Nat → Int64) → Prop) (kh6 : ∀ (x1 : Int32) (x2 : Int64) (x4 : Int32) (x5 : Int64) (x7 : Int32) (I : Nat → Int32) (J : Nat → Int64) (B : Nat → Nat → Int32) (D : Nat → Nat → Int64) (ls : Array Slot) (H : Heap) (locs : List Loc), K6 x1 x2 x4 x5 x7 I J B D → lv_has ls 12 [(0, .ref (ad 0)), (1, .int x1), (2, .long x2), (4, .int x4), (5, .long x5), (7, .int x7)] → zW G A s.heap (wM ad K I J B D) H locs → W p l e { frames := 2, cells := 0, slots := 0, locals := 50 } s m ([.ref (ad 0), .int a0, .long a1, .int a2] : List Value).toArray below meth c H locs 0 0 (MQ below (va_Ql (fun (r : Int64) (u : zS) => Post r u.1 u.2.1 u.2.2.1 u.2.2.2) (fun u t => zPost G K A (wM ad K u.1 u.2.1 u.2.2.1 u.2.2.2) t) A) ([.ref (ad 0), .int a0, .long a1, .int a2] : List Value).toArray s 0 0 A) (F0 m 6 ls [])) (K48 : Int32 → Int64 → Int32 → Int64 → Int32 → Int32 → Int32 → Int32 → (Nat → Int32) → (Nat → Int64) → (Nat → Nat → Int32) → (Nat → Nat → Int64) → Prop) (kh48 : ∀ (x1 : Int32) (x2 : Int64) (x4 : Int32) (x5 : Int64) (x7 : Int32) (x8 : Int32) (x9 : Int32) (x10 : Int32) (I : Nat → Int32) (J : Nat → Int64) (B : Nat → Nat → Int32) (D : Nat → Nat → Int64) (ls : Array Slot) (H : Heap) (locs : List Loc), K48 x1 x2 x4 x5 x7 x8 x9 x10 I J B D → lv_has ls 12 [(0, .ref (ad 0)), (1, .int x1), (2, .long x2), (4, .int x4), (5, .long x5), (7, .int x7), (8, .int x8), (9, .int x9), (10, .int x10)] → zW G A s.heap (wM ad K I J B D) H locs → W p l e { frames := 2, cells := 0, slots := 0, locals := 50 } s m ([.ref (ad 0), .int a0, .long a1, .int a2] : List Value).toArray below meth c H locs 0 0 (MQ below (va_Ql (fun (r : Int64) (u : zS) => Post r u.1 u.2.1 u.2.2.1 u.2.2.2) (fun u t => zPost G K A (wM ad K u.1 u.2.1 u.2.2.1 u.2.2.2) t) A) ([.ref (ad 0), .int a0, .long a1, .int a2] : List Value).toArray s 0 0 A) (F0 m 48 ls [])) : ∀ (x1 : Int32) (x2 : Int64) (x4 : Int32) (x5 : Int64) (x7 : Int32) (x8 : Int32) (x9 : Int32) (x10 : Int32) (I : Nat → Int32) (J : Nat → Int64) (B : Nat → Nat → Int32) (D : Nat → Nat → Int64) (ls : Array Slot) (H : Heap) (locs : List Loc), wb_LassoFinderModel_ahead_48 a0 a1 a2 K48 K6 Post x1 x2 x4 x5 x7 x8 x9 x10 I J B D → lv_has ls 12 [(0, .ref (ad 0)), (1, .int x1), (2, .long x2), (4, .int x4), (5, .long x5), (7, .int x7), (8, .int x8), (9, .int x9), (10, .int x10)] → zW G A s.heap (wM ad K I J B D) H locs → W p l e { frames := 2, cells := 0, slots := 0, locals := 50 } s m ([.ref (ad 0), .int a0, .long a1, .int a2] : List Value).toArray below meth c H locs 0 0 (MQ below (va_Ql (fun (r : Int64) (u : zS) => Post r u.1 u.2.1 u.2.2.1 u.2.2.2) (fun u t => zPost G K A (wM ad K u.1 u.2.1 u.2.2.1 u.2.2.2) t) A) ([.ref (ad 0), .int a0, .long a1, .int a2] : List Value).toArray s 0 0 A) (F0 m 48 ls []) := by
  obtain ⟨hx, hb, hr, hml, hts, hown, hlocks, hA, hK⟩ := id C
  intro x1 x2 x4 x5 x7 x8 x9 x10 I J B D ls H locs hok hl hw
  unfold wb_LassoFinderModel_ahead_48 at hok
  refine lv_iload hx hb zd_LassoFinderModel_ahead_48 (lv_at hl 8 rfl) ?_
  refine lv_iconst (v := 1) hx hb zd_LassoFinderModel_ahead_50 (by decide) ?_
  refine lv_aload_n hx hb zd_LassoFinderModel_ahead_51 rfl (lv_at hl 0 rfl) ?_
  refine z_get (v := .int (I 20)) hx hb hts hown hK hw zZ12 0 rfl 64 (by decide) zm_356 rfl zd_LassoFinderModel_ahead_52 ?_
  refine lv_ishl hx hb zd_LassoFinderModel_ahead_55 ?_
  refine lv_topi (fun z2 ez2 => ?_)
  have hok := hok z2 ez2
  refine lv_icmp_ge (tgt := 131) hx hb zd_LassoFinderModel_ahead_56 (by decide) (fun hc3 => ?_) (fun hc3 => ?_)
  · have hok := hok.1 hc3
    obtain ⟨z4, ez4⟩ : ∃ z : Int32, z = (x7 + 1) := ⟨_, rfl⟩
    have hok := hok z4 ez4
    refine lv_iinc (v := z4) hx hb zd_LassoFinderModel_ahead_131 hl (k := 5) rfl ez4.symm (by decide) rfl (fun ls hl => ?_)
    have hl : lv_has ls 12 [(7, .int z4), (0, .ref (ad 0)), (1, .int x1), (2, .long x2), (4, .int x4), (5, .long x5), (8, .int x8), (9, .int x9), (10, .int x10)] := hl
    refine lv_goto (tgt := 6) hx hb zd_LassoFinderModel_ahead_134 (by decide) ?_
    exact kh6 x1 x2 x4 x5 z4 I J B D ls H locs hok (lv_sub hl [1, 2, 3, 4, 5, 0] rfl) hw
  · have hok := hok.2 hc3
    refine lv_iload hx hb zd_LassoFinderModel_ahead_59 (lv_at hl 8 rfl) ?_
    refine lv_iload hx hb zd_LassoFinderModel_ahead_61 (lv_at hl 7 rfl) ?_
    refine lv_ior hx hb zd_LassoFinderModel_ahead_63 ?_
    refine lv_topi (fun z5 ez5 => ?_)
    have hok := hok z5 ez5
    refine lv_istore hx hb zd_LassoFinderModel_ahead_64 hl (by decide) rfl (fun ls hl => ?_)
    have hl : lv_has ls 12 [(11, .int z5), (0, .ref (ad 0)), (1, .int x1), (2, .long x2), (4, .int x4), (5, .long x5), (7, .int x7), (8, .int x8), (9, .int x9), (10, .int x10)] := hl
    refine lv_lload_n hx hb zd_LassoFinderModel_ahead_66 rfl (lv_at hl 3 rfl) ?_
    refine lv_bipush (v := 8) hx hb zd_LassoFinderModel_ahead_67 (by decide) ?_
    refine lv_iload hx hb zd_LassoFinderModel_ahead_69 (lv_at hl 7 rfl) ?_
    refine lv_imul hx hb zd_LassoFinderModel_ahead_71 ?_
    refine lv_topi (fun z6 ez6 => ?_)
    have hok := hok z6 ez6
    refine lv_iload hx hb zd_LassoFinderModel_ahead_72 (lv_at hl 9 rfl) ?_
    refine lv_iadd hx hb zd_LassoFinderModel_ahead_74 ?_
    refine lv_topi (fun z7 ez7 => ?_)
    have hok := hok z7 ez7
    refine lv_lshr hx hb zd_LassoFinderModel_ahead_75 rfl ?_
    refine lv_topl (fun z8 ez8 => ?_)
    have hok := hok z8 ez8
    refine lv_lconst (v := 1) hx hb zd_LassoFinderModel_ahead_76 (by decide) ?_
    refine lv_land hx hb zd_LassoFinderModel_ahead_77 ?_
    refine lv_topl (fun z9 ez9 => ?_)
    have hok := hok z9 ez9
    refine lv_lconst (v := 1) hx hb zd_LassoFinderModel_ahead_78 (by decide) ?_
    refine W.lcmp hx hb zd_LassoFinderModel_ahead_79 ?_
    refine lv_topi (fun z10 ez10 => ?_)
    have hok := hok z10 ez10
    refine lv_if_ne (tgt := 125) hx hb zd_LassoFinderModel_ahead_80 (by decide) (fun hc11 => ?_) (fun hc11 => ?_)
    · have hok := hok.1 hc11
      exact wJ_LassoFinderModel_ahead_125 G K ad a0 a1 a2 Post C K6 kh6 K48 kh48 x1 x2 x4 x5 x7 x8 x9 x10 I J B D ls H locs hok (lv_sub hl [1, 2, 3, 4, 5, 6, 7, 8, 9] rfl) hw
    · have hok := hok.2 hc11
      refine lv_aload_n hx hb zd_LassoFinderModel_ahead_83 rfl (lv_at hl 1 rfl) ?_
      refine lv_bipush (v := 64) hx hb zd_LassoFinderModel_ahead_84 (by decide) ?_
      refine lv_aload_n hx hb zd_LassoFinderModel_ahead_86 rfl (lv_at hl 1 rfl) ?_
      refine z_get (v := .ref (ad 33)) hx hb hts hown hK hw zZ12 0 rfl 49 (by decide) zm_267 rfl zd_LassoFinderModel_ahead_87 ?_
      refine lv_iload_n hx hb zd_LassoFinderModel_ahead_90 rfl (lv_at hl 2 rfl) ?_
      refine va_iald (f := (B 30)) hx hb hK hw.1 33 0 rfl rfl hok.1 zd_LassoFinderModel_ahead_91 ?_
      have hok := hok.2
      refine lv_topi (fun z12 ez12 => ?_)
      have hok := hok z12 ez12
      refine lv_imul hx hb zd_LassoFinderModel_ahead_92 ?_
      refine lv_topi (fun z13 ez13 => ?_)
      have hok := hok z13 ez13
      refine lv_bipush (v := 8) hx hb zd_LassoFinderModel_ahead_93 (by decide) ?_
      refine lv_iload hx hb zd_LassoFinderModel_ahead_95 (lv_at hl 6 rfl) ?_
      refine lv_imul hx hb zd_LassoFinderModel_ahead_97 ?_
      refine lv_topi (fun z14 ez14 => ?_)
      have hok := hok z14 ez14
      refine lv_iadd hx hb zd_LassoFinderModel_ahead_98 ?_
      refine lv_topi (fun z15 ez15 => ?_)
      have hok := hok z15 ez15
      refine lv_iload hx hb zd_LassoFinderModel_ahead_99 (lv_at hl 0 rfl) ?_
      refine lv_iadd hx hb zd_LassoFinderModel_ahead_101 ?_
      refine lv_topi (fun z16 ez16 => ?_)
      have hok := hok z16 ez16
      refine z_calli (w1 := fun (u : zS) => wM ad K u.1 u.2.1 u.2.2.1 u.2.2.2) (wr := []) (z_runV (q0 := 0) (wc := (wM ad K I J B D)) (As := [.int z16]) (rest := []) ⟨hx, hb, hml, hown, hts⟩ (w_LassoFinderModel_away l G K ad I J B D z16 _ H.size hok) zf_LassoFinderModel_away zm_376 ⟨Nat.le_of_ble_eq_true rfl, Nat.le_of_ble_eq_true rfl⟩ hK hw [0, 1, 2, 3, 4, 5, 6, 7, 8, 9, 10, 11, 12, 13, 14, 15, 16, 17, 18, 19, 20, 21, 22, 23, 24, 25, 26, 27, 28, 29, 30, 31, 32, 33, 34, 35, 36, 37, 38, 39, 40, 41, 42, 43, 44, 45, 46, 47, 48, 49, 50, 51, 52, 53, 54, 55, 56, 57] rfl (by decide) rfl rfl rfl hl.1 rfl (Nat.le_of_ble_eq_true rfl) zd_LassoFinderModel_ahead_102 ⟨Nat.le_of_ble_eq_true rfl, Nat.le_of_ble_eq_true rfl⟩) hw hA [0, 1, 2, 3, 4, 5, 6, 7, 8, 9, 10, 11, 12, 13, 14, 15, 16, 17, 18, 19, 20, 21, 22, 23, 24, 25, 26, 27, 28, 29, 30, 31, 32, 33, 34, 35, 36, 37, 38, 39, 40, 41, 42, 43, 44, 45, 46, 47, 48, 49, 50, 51, 52, 53, 54, 55, 56, 57] [] rfl rfl (by decide) (by decide) (fun r17 u H locs hok hw => ?_)
      obtain ⟨I17, J17, B17, D17⟩ := u
      dsimp only at hok
      have hw : zW G A s.heap (wM ad K I17 J17 B17 D17) H locs := hw
      refine lv_iload hx hb zd_LassoFinderModel_ahead_105 (lv_at hl 4 rfl) ?_
      refine lv_icmp_ne (tgt := 125) hx hb zd_LassoFinderModel_ahead_107 (by decide) (fun hc18 => ?_) (fun hc18 => ?_)
      · have hok := hok.1 hc18
        exact wJ_LassoFinderModel_ahead_125 G K ad a0 a1 a2 Post C K6 kh6 K48 kh48 x1 x2 x4 x5 x7 x8 x9 x10 I17 J17 B17 D17 ls H locs hok (lv_sub hl [1, 2, 3, 4, 5, 6, 7, 8, 9] rfl) hw
      · have hok := hok.2 hc18
        refine lv_lload hx hb zd_LassoFinderModel_ahead_110 (lv_at hl 5 rfl) ?_
        refine lv_lconst (v := 1) hx hb zd_LassoFinderModel_ahead_112 (by decide) ?_
        refine lv_bipush (v := 8) hx hb zd_LassoFinderModel_ahead_113 (by decide) ?_
        refine lv_iload hx hb zd_LassoFinderModel_ahead_115 (lv_at hl 6 rfl) ?_
        refine lv_imul hx hb zd_LassoFinderModel_ahead_117 ?_
        refine lv_topi (fun z19 ez19 => ?_)
        have hok := hok z19 ez19
        refine lv_iload hx hb zd_LassoFinderModel_ahead_118 (lv_at hl 0 rfl) ?_
        refine lv_iadd hx hb zd_LassoFinderModel_ahead_120 ?_
        refine lv_topi (fun z20 ez20 => ?_)
        have hok := hok z20 ez20
        refine lv_lshl hx hb zd_LassoFinderModel_ahead_121 rfl ?_
        refine lv_topl (fun z21 ez21 => ?_)
        have hok := hok z21 ez21
        refine lv_lor hx hb zd_LassoFinderModel_ahead_122 ?_
        refine lv_topl (fun z22 ez22 => ?_)
        have hok := hok z22 ez22
        refine lv_lstore hx hb zd_LassoFinderModel_ahead_123 hl (by decide) rfl (fun ls hl => ?_)
        have hl : lv_has ls 12 [(5, .long z22), (11, .int z5), (0, .ref (ad 0)), (1, .int x1), (2, .long x2), (4, .int x4), (7, .int x7), (8, .int x8), (9, .int x9), (10, .int x10)] := hl
        exact wJ_LassoFinderModel_ahead_125 G K ad a0 a1 a2 Post C K6 kh6 K48 kh48 x1 x2 x4 z22 x7 x8 x9 x10 I17 J17 B17 D17 ls H locs hok (lv_sub hl [2, 3, 4, 5, 0, 6, 7, 8, 9] rfl) hw
theorem wL_LassoFinderModel_ahead_48 {p : Program} {l : Launch} {e : Env} {s : State} {m : MethodId} {below : List Frame} {meth : Method} {c : Code} {A : Nat → Prop} (G : va_G) (K : Nat → ClassId) (ad : Nat → Nat) (a0 : Int32) (a1 : Int64) (a2 : Int32) (Post : Int64 → (Nat → Int32) → (Nat → Int64) → (Nat → Nat → Int32) → (Nat → Nat → Int64) → Prop) (C : zCx p s m ([.ref (ad 0), .int a0, .long a1, .int a2] : List Value).toArray meth c A G K prog_14_method_63_code (some .long) 12 "LassoFinderModel") (K6 : Int32 → Int64 → Int32 → Int64 → Int32 → (Nat → Int32) → (Nat → Int64) → (Nat → Nat → Int32) → (Nat → Nat → Int64) → Prop) (kh6 : ∀ (x1 : Int32) (x2 : Int64) (x4 : Int32) (x5 : Int64) (x7 : Int32) (I : Nat → Int32) (J : Nat → Int64) (B : Nat → Nat → Int32) (D : Nat → Nat → Int64) (ls : Array Slot) (H : Heap) (locs : List Loc), K6 x1 x2 x4 x5 x7 I J B D → lv_has ls 12 [(0, .ref (ad 0)), (1, .int x1), (2, .long x2), (4, .int x4), (5, .long x5), (7, .int x7)] → zW G A s.heap (wM ad K I J B D) H locs → W p l e { frames := 2, cells := 0, slots := 0, locals := 50 } s m ([.ref (ad 0), .int a0, .long a1, .int a2] : List Value).toArray below meth c H locs 0 0 (MQ below (va_Ql (fun (r : Int64) (u : zS) => Post r u.1 u.2.1 u.2.2.1 u.2.2.2) (fun u t => zPost G K A (wM ad K u.1 u.2.1 u.2.2.1 u.2.2.2) t) A) ([.ref (ad 0), .int a0, .long a1, .int a2] : List Value).toArray s 0 0 A) (F0 m 6 ls [])) : ∀ (n : Nat) (x1 : Int32) (x2 : Int64) (x4 : Int32) (x5 : Int64) (x7 : Int32) (x8 : Int32) (x9 : Int32) (x10 : Int32) (I : Nat → Int32) (J : Nat → Int64) (B : Nat → Nat → Int32) (D : Nat → Nat → Int64) (ls : Array Slot) (H : Heap) (locs : List Loc), wl_LassoFinderModel_ahead_48 a0 a1 a2 K6 Post n x1 x2 x4 x5 x7 x8 x9 x10 I J B D → lv_has ls 12 [(0, .ref (ad 0)), (1, .int x1), (2, .long x2), (4, .int x4), (5, .long x5), (7, .int x7), (8, .int x8), (9, .int x9), (10, .int x10)] → zW G A s.heap (wM ad K I J B D) H locs → W p l e { frames := 2, cells := 0, slots := 0, locals := 50 } s m ([.ref (ad 0), .int a0, .long a1, .int a2] : List Value).toArray below meth c H locs 0 0 (MQ below (va_Ql (fun (r : Int64) (u : zS) => Post r u.1 u.2.1 u.2.2.1 u.2.2.2) (fun u t => zPost G K A (wM ad K u.1 u.2.1 u.2.2.1 u.2.2.2) t) A) ([.ref (ad 0), .int a0, .long a1, .int a2] : List Value).toArray s 0 0 A) (F0 m 48 ls []) := by
  intro n
  induction n with
  | zero => intro x1 x2 x4 x5 x7 x8 x9 x10 I J B D ls H locs hok; exact hok.elim
  | succ n ih => exact wB_LassoFinderModel_ahead_48 G K ad a0 a1 a2 Post C K6 kh6 (wl_LassoFinderModel_ahead_48 a0 a1 a2 K6 Post n) ih
set_option maxHeartbeats 8000000 in
set_option maxRecDepth 100000 in
theorem wB_LassoFinderModel_ahead_6 {p : Program} {l : Launch} {e : Env} {s : State} {m : MethodId} {below : List Frame} {meth : Method} {c : Code} {A : Nat → Prop} (G : va_G) (K : Nat → ClassId) (ad : Nat → Nat) (a0 : Int32) (a1 : Int64) (a2 : Int32) (Post : Int64 → (Nat → Int32) → (Nat → Int64) → (Nat → Nat → Int32) → (Nat → Nat → Int64) → Prop) (C : zCx p s m ([.ref (ad 0), .int a0, .long a1, .int a2] : List Value).toArray meth c A G K prog_14_method_63_code (some .long) 12 "LassoFinderModel") (K6 : Int32 → Int64 → Int32 → Int64 → Int32 → (Nat → Int32) → (Nat → Int64) → (Nat → Nat → Int32) → (Nat → Nat → Int64) → Prop) (kh6 : ∀ (x1 : Int32) (x2 : Int64) (x4 : Int32) (x5 : Int64) (x7 : Int32) (I : Nat → Int32) (J : Nat → Int64) (B : Nat → Nat → Int32) (D : Nat → Nat → Int64) (ls : Array Slot) (H : Heap) (locs : List Loc), K6 x1 x2 x4 x5 x7 I J B D → lv_has ls 12 [(0, .ref (ad 0)), (1, .int x1), (2, .long x2), (4, .int x4), (5, .long x5), (7, .int x7)] → zW G A s.heap (wM ad K I J B D) H locs → W p l e { frames := 2, cells := 0, slots := 0, locals := 50 } s m ([.ref (ad 0), .int a0, .long a1, .int a2] : List Value).toArray below meth c H locs 0 0 (MQ below (va_Ql (fun (r : Int64) (u : zS) => Post r u.1 u.2.1 u.2.2.1 u.2.2.2) (fun u t => zPost G K A (wM ad K u.1 u.2.1 u.2.2.1 u.2.2.2) t) A) ([.ref (ad 0), .int a0, .long a1, .int a2] : List Value).toArray s 0 0 A) (F0 m 6 ls [])) : ∀ (x1 : Int32) (x2 : Int64) (x4 : Int32) (x5 : Int64) (x7 : Int32) (I : Nat → Int32) (J : Nat → Int64) (B : Nat → Nat → Int32) (D : Nat → Nat → Int64) (ls : Array Slot) (H : Heap) (locs : List Loc), wb_LassoFinderModel_ahead_6 a0 a1 a2 K6 Post x1 x2 x4 x5 x7 I J B D → lv_has ls 12 [(0, .ref (ad 0)), (1, .int x1), (2, .long x2), (4, .int x4), (5, .long x5), (7, .int x7)] → zW G A s.heap (wM ad K I J B D) H locs → W p l e { frames := 2, cells := 0, slots := 0, locals := 50 } s m ([.ref (ad 0), .int a0, .long a1, .int a2] : List Value).toArray below meth c H locs 0 0 (MQ below (va_Ql (fun (r : Int64) (u : zS) => Post r u.1 u.2.1 u.2.2.1 u.2.2.2) (fun u t => zPost G K A (wM ad K u.1 u.2.1 u.2.2.1 u.2.2.2) t) A) ([.ref (ad 0), .int a0, .long a1, .int a2] : List Value).toArray s 0 0 A) (F0 m 6 ls []) := by
  obtain ⟨hx, hb, hr, hml, hts, hown, hlocks, hA, hK⟩ := id C
  intro x1 x2 x4 x5 x7 I J B D ls H locs hok hl hw
  unfold wb_LassoFinderModel_ahead_6 at hok
  refine lv_iload hx hb zd_LassoFinderModel_ahead_6 (lv_at hl 5 rfl) ?_
  refine lv_iconst (v := 1) hx hb zd_LassoFinderModel_ahead_8 (by decide) ?_
  refine lv_aload_n hx hb zd_LassoFinderModel_ahead_9 rfl (lv_at hl 0 rfl) ?_
  refine z_get (v := .int (I 20)) hx hb hts hown hK hw zZ12 0 rfl 64 (by decide) zm_356 rfl zd_LassoFinderModel_ahead_10 ?_
  refine lv_ishl hx hb zd_LassoFinderModel_ahead_13 ?_
  refine lv_topi (fun z23 ez23 => ?_)
  have hok := hok z23 ez23
  refine lv_icmp_ge (tgt := 137) hx hb zd_LassoFinderModel_ahead_14 (by decide) (fun hc24 => ?_) (fun hc24 => ?_)
  · have hok := hok.1 hc24
    refine lv_lload hx hb zd_LassoFinderModel_ahead_137 (lv_at hl 4 rfl) ?_
    exact z_lret (u := (I, J, B, D)) hx hb hr hlocks hw [0, 1, 2, 3, 4, 5, 6, 7, 8, 9, 10, 11, 12, 13, 14, 15, 16, 17, 18, 19, 20, 21, 22, 23, 24, 25, 26, 27, 28, 29, 30, 31, 32, 33, 34, 35, 36, 37, 38, 39, 40, 41, 42, 43, 44, 45, 46, 47, 48, 49, 50, 51, 52, 53, 54, 55, 56, 57] rfl (by decide) hok (Nat.le_of_ble_eq_true rfl) (Nat.le_of_ble_eq_true rfl) zd_LassoFinderModel_ahead_139
  · have hok := hok.2 hc24
    refine lv_aload_n hx hb zd_LassoFinderModel_ahead_17 rfl (lv_at hl 0 rfl) ?_
    refine lv_aload_n hx hb zd_LassoFinderModel_ahead_18 rfl (lv_at hl 0 rfl) ?_
    refine z_get (v := .ref (ad 34)) hx hb hts hown hK hw zZ12 0 rfl 50 (by decide) zm_268 rfl zd_LassoFinderModel_ahead_19 ?_
    refine lv_iload_n hx hb zd_LassoFinderModel_ahead_22 rfl (lv_at hl 1 rfl) ?_
    refine va_iald (f := (B 31)) hx hb hK hw.1 34 0 rfl rfl hok.1 zd_LassoFinderModel_ahead_23 ?_
    have hok := hok.2
    refine lv_topi (fun z25 ez25 => ?_)
    have hok := hok z25 ez25
    refine lv_iload hx hb zd_LassoFinderModel_ahead_24 (lv_at hl 5 rfl) ?_
    refine z_calli (w1 := fun (u : zS) => wM ad K u.1 u.2.1 u.2.2.1 u.2.2.2) (wr := []) (z_runV (q0 := 0) (wc := (wM ad K I J B D)) (As := [.int z25, .int x7]) (rest := []) ⟨hx, hb, hml, hown, hts⟩ (w_LassoFinderModel_truthAt l G K ad I J B D z25 x7 _ H.size hok) zf_LassoFinderModel_truthAt zm_375 ⟨Nat.le_of_ble_eq_true rfl, Nat.le_of_ble_eq_true rfl⟩ hK hw [0, 1, 2, 3, 4, 5, 6, 7, 8, 9, 10, 11, 12, 13, 14, 15, 16, 17, 18, 19, 20, 21, 22, 23, 24, 25, 26, 27, 28, 29, 30, 31, 32, 33, 34, 35, 36, 37, 38, 39, 40, 41, 42, 43, 44, 45, 46, 47, 48, 49, 50, 51, 52, 53, 54, 55, 56, 57] rfl (by decide) rfl rfl rfl hl.1 rfl (Nat.le_of_ble_eq_true rfl) zd_LassoFinderModel_ahead_26 ⟨Nat.le_of_ble_eq_true rfl, Nat.le_of_ble_eq_true rfl⟩) hw hA [0, 1, 2, 3, 4, 5, 6, 7, 8, 9, 10, 11, 12, 13, 14, 15, 16, 17, 18, 19, 20, 21, 22, 23, 24, 25, 26, 27, 28, 29, 30, 31, 32, 33, 34, 35, 36, 37, 38, 39, 40, 41, 42, 43, 44, 45, 46, 47, 48, 49, 50, 51, 52, 53, 54, 55, 56, 57] [] rfl rfl (by decide) (by decide) (fun r26 u H locs hok hw => ?_)
    obtain ⟨I26, J26, B26, D26⟩ := u
    dsimp only at hok
    have hw : zW G A s.heap (wM ad K I26 J26 B26 D26) H locs := hw
    refine lv_istore hx hb zd_LassoFinderModel_ahead_29 hl (by decide) rfl (fun ls hl => ?_)
    have hl : lv_has ls 12 [(8, .int r26), (0, .ref (ad 0)), (1, .int x1), (2, .long x2), (4, .int x4), (5, .long x5), (7, .int x7)] := hl
    refine lv_aload_n hx hb zd_LassoFinderModel_ahead_31 rfl (lv_at hl 1 rfl) ?_
    refine lv_aload_n hx hb zd_LassoFinderModel_ahead_32 rfl (lv_at hl 1 rfl) ?_
    refine z_get (v := .ref (ad 33)) hx hb hts hown hK hw zZ12 0 rfl 49 (by decide) zm_267 rfl zd_LassoFinderModel_ahead_33 ?_
    refine lv_iload_n hx hb zd_LassoFinderModel_ahead_36 rfl (lv_at hl 2 rfl) ?_
    refine va_iald (f := (B26 30)) hx hb hK hw.1 33 0 rfl rfl hok.1 zd_LassoFinderModel_ahead_37 ?_
    have hok := hok.2
    refine lv_topi (fun z27 ez27 => ?_)
    have hok := hok z27 ez27
    refine lv_iload hx hb zd_LassoFinderModel_ahead_38 (lv_at hl 6 rfl) ?_
    refine z_calli (w1 := fun (u : zS) => wM ad K u.1 u.2.1 u.2.2.1 u.2.2.2) (wr := []) (z_runV (q0 := 0) (wc := (wM ad K I26 J26 B26 D26)) (As := [.int z27, .int x7]) (rest := []) ⟨hx, hb, hml, hown, hts⟩ (w_LassoFinderModel_settled l G K ad I26 J26 B26 D26 z27 x7 _ H.size hok) zf_LassoFinderModel_settled zm_373 ⟨Nat.le_of_ble_eq_true rfl, Nat.le_of_ble_eq_true rfl⟩ hK hw [0, 1, 2, 3, 4, 5, 6, 7, 8, 9, 10, 11, 12, 13, 14, 15, 16, 17, 18, 19, 20, 21, 22, 23, 24, 25, 26, 27, 28, 29, 30, 31, 32, 33, 34, 35, 36, 37, 38, 39, 40, 41, 42, 43, 44, 45, 46, 47, 48, 49, 50, 51, 52, 53, 54, 55, 56, 57] rfl (by decide) rfl rfl rfl hl.1 rfl (Nat.le_of_ble_eq_true rfl) zd_LassoFinderModel_ahead_40 ⟨Nat.le_of_ble_eq_true rfl, Nat.le_of_ble_eq_true rfl⟩) hw hA [0, 1, 2, 3, 4, 5, 6, 7, 8, 9, 10, 11, 12, 13, 14, 15, 16, 17, 18, 19, 20, 21, 22, 23, 24, 25, 26, 27, 28, 29, 30, 31, 32, 33, 34, 35, 36, 37, 38, 39, 40, 41, 42, 43, 44, 45, 46, 47, 48, 49, 50, 51, 52, 53, 54, 55, 56, 57] [] rfl rfl (by decide) (by decide) (fun r28 u H locs hok hw => ?_)
    obtain ⟨I28, J28, B28, D28⟩ := u
    dsimp only at hok
    have hw : zW G A s.heap (wM ad K I28 J28 B28 D28) H locs := hw
    refine lv_istore hx hb zd_LassoFinderModel_ahead_43 hl (by decide) rfl (fun ls hl => ?_)
    have hl : lv_has ls 12 [(9, .int r28), (8, .int r26), (0, .ref (ad 0)), (1, .int x1), (2, .long x2), (4, .int x4), (5, .long x5), (7, .int x7)] := hl
    refine lv_iconst (v := 0) hx hb zd_LassoFinderModel_ahead_45 (by decide) ?_
    refine lv_istore hx hb zd_LassoFinderModel_ahead_46 hl (by decide) rfl (fun ls hl => ?_)
    have hl : lv_has ls 12 [(10, .int 0), (9, .int r28), (8, .int r26), (0, .ref (ad 0)), (1, .int x1), (2, .long x2), (4, .int x4), (5, .long x5), (7, .int x7)] := hl
    obtain ⟨n9, hok⟩ := hok
    exact wL_LassoFinderModel_ahead_48 G K ad a0 a1 a2 Post C K6 kh6 n9 x1 x2 x4 x5 x7 r26 r28 0 I28 J28 B28 D28 ls H locs hok (lv_sub hl [3, 4, 5, 6, 7, 8, 2, 1, 0] rfl) hw
theorem wL_LassoFinderModel_ahead_6 {p : Program} {l : Launch} {e : Env} {s : State} {m : MethodId} {below : List Frame} {meth : Method} {c : Code} {A : Nat → Prop} (G : va_G) (K : Nat → ClassId) (ad : Nat → Nat) (a0 : Int32) (a1 : Int64) (a2 : Int32) (Post : Int64 → (Nat → Int32) → (Nat → Int64) → (Nat → Nat → Int32) → (Nat → Nat → Int64) → Prop) (C : zCx p s m ([.ref (ad 0), .int a0, .long a1, .int a2] : List Value).toArray meth c A G K prog_14_method_63_code (some .long) 12 "LassoFinderModel") : ∀ (n : Nat) (x1 : Int32) (x2 : Int64) (x4 : Int32) (x5 : Int64) (x7 : Int32) (I : Nat → Int32) (J : Nat → Int64) (B : Nat → Nat → Int32) (D : Nat → Nat → Int64) (ls : Array Slot) (H : Heap) (locs : List Loc), wl_LassoFinderModel_ahead_6 a0 a1 a2 Post n x1 x2 x4 x5 x7 I J B D → lv_has ls 12 [(0, .ref (ad 0)), (1, .int x1), (2, .long x2), (4, .int x4), (5, .long x5), (7, .int x7)] → zW G A s.heap (wM ad K I J B D) H locs → W p l e { frames := 2, cells := 0, slots := 0, locals := 50 } s m ([.ref (ad 0), .int a0, .long a1, .int a2] : List Value).toArray below meth c H locs 0 0 (MQ below (va_Ql (fun (r : Int64) (u : zS) => Post r u.1 u.2.1 u.2.2.1 u.2.2.2) (fun u t => zPost G K A (wM ad K u.1 u.2.1 u.2.2.1 u.2.2.2) t) A) ([.ref (ad 0), .int a0, .long a1, .int a2] : List Value).toArray s 0 0 A) (F0 m 6 ls []) := by
  intro n
  induction n with
  | zero => intro x1 x2 x4 x5 x7 I J B D ls H locs hok; exact hok.elim
  | succ n ih => exact wB_LassoFinderModel_ahead_6 G K ad a0 a1 a2 Post C (wl_LassoFinderModel_ahead_6 a0 a1 a2 Post n) ih
set_option maxHeartbeats 8000000 in
set_option maxRecDepth 100000 in
theorem w_LassoFinderModel_ahead (l : Launch) (G : va_G) (K : Nat → ClassId) (ad : Nat → Nat) (I : Nat → Int32) (J : Nat → Int64) (B : Nat → Nat → Int32) (D : Nat → Nat → Int64) (a0 : Int32) (a1 : Int64) (a2 : Int32) (Post : Int64 → (Nat → Int32) → (Nat → Int64) → (Nat → Nat → Int32) → (Nat → Nat → Int64) → Prop) (sz : Nat) (hok : wp_LassoFinderModel_ahead I J B D a0 a1 a2 Post) : Met l zy_LassoFinderModel_ahead (Cond.code zy_LassoFinderModel_ahead prog_14_method_63_code 12 (some .long) :: zTB) { frames := 2, cells := 0, slots := 0, locals := 50 } (va_Pc [.ref (ad 0), .int a0, .long a1, .int a2] (zPre G K (wM ad K I J B D) sz)) (va_Ql (fun (r : Int64) (u : zS) => Post r u.1 u.2.1 u.2.2.1 u.2.2.2) (fun u t => zPost G K (va_A (wM ad K I J B D) sz) (wM ad K u.1 u.2.1 u.2.2.1 u.2.2.2) t) (va_A (wM ad K I J B D) sz)) 0 0 (va_A (wM ad K I J B D) sz) := by
  refine zMet (y := zy_LassoFinderModel_ahead) (av := [.ref (ad 0), .int a0, .long a1, .int a2]) (maxL := 12) (cc := prog_14_method_63_code) (ret := (some .long)) (W0 := (wM ad K I J B D)) (sz := sz) (G := G) (K := K) (wt := zTB) (mc := 0) (ms := 0) (Qf := fun A => va_Ql (fun (r : Int64) (u : zS) => Post r u.1 u.2.1 u.2.2.1 u.2.2.2) (fun u t => zPost G K A (wM ad K u.1 u.2.1 u.2.2.1 u.2.2.2) t) A) (by decide) (Nat.le_of_ble_eq_true rfl) ?_
  intro p e s m below meth c ls A hx hb hr hml hts hown hlocks hin hA hK H locs hw hsz hl
  clear hsz
  have hown : s.vm.findClass "LassoFinderModel" = some m.cls := hown
  have C : zCx p s m ([.ref (ad 0), .int a0, .long a1, .int a2] : List Value).toArray meth c A G K prog_14_method_63_code (some .long) 12 "LassoFinderModel" := ⟨hx, hb, hr, hml, hts, hown, hlocks, hA, hK⟩
  have hl : lv_has ls 12 [(0, .ref (ad 0)), (1, .int a0), (2, .long a1), (4, .int a2)] := hl
  have hw : zW G A s.heap (wM ad K I J B D) H locs := hw
  unfold wp_LassoFinderModel_ahead at hok
  refine lv_lconst (v := 0) hx hb zd_LassoFinderModel_ahead_0 (by decide) ?_
  refine lv_lstore hx hb zd_LassoFinderModel_ahead_1 hl (by decide) rfl (fun ls hl => ?_)
  have hl : lv_has ls 12 [(5, .long 0), (0, .ref (ad 0)), (1, .int a0), (2, .long a1), (4, .int a2)] := hl
  refine lv_iconst (v := 0) hx hb zd_LassoFinderModel_ahead_3 (by decide) ?_
  refine lv_istore hx hb zd_LassoFinderModel_ahead_4 hl (by decide) rfl (fun ls hl => ?_)
  have hl : lv_has ls 12 [(7, .int 0), (5, .long 0), (0, .ref (ad 0)), (1, .int a0), (2, .long a1), (4, .int a2)] := hl
  obtain ⟨n9, hok⟩ := hok
  exact wL_LassoFinderModel_ahead_6 G K ad a0 a1 a2 Post C n9 a0 a1 a2 0 0 I J B D ls H locs hok (lv_sub hl [2, 3, 4, 5, 1, 0] rfl) hw
