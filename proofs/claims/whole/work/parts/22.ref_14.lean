abbrev zy_LassoFinderModel_nearest : MethodName := ⟨"LassoFinderModel", "nearest", "(II)I"⟩
abbrev zy_LassoFinderModel_round : MethodName := ⟨"LassoFinderModel", "round", "(II)I"⟩
abbrev zy_LassoFinderModel_sooner : MethodName := ⟨"LassoFinderModel", "sooner", "(I)Z"⟩
theorem zm_289 : Cond.fieldLink "LassoFinderModel" 181 "LassoFinderModel" "row" "[I" ∈ zTB := z_in (zt_6 _ (List.mem_of_getElem? (i := 174) rfl)) rfl
theorem zm_290 : Cond.fieldLink "LassoFinderModel" 184 "LassoFinderModel" "tried" "[I" ∈ zTB := z_in (zt_6 _ (List.mem_of_getElem? (i := 175) rfl)) rfl
theorem zm_367 : Cond.methodLink "LassoFinderModel" 451 ⟨"LassoFinderModel", "stepOf", "([II)I"⟩ ∈ zTB := z_in (zt_8 _ (List.mem_of_getElem? (i := 110) rfl)) rfl
theorem zm_370 : Cond.methodLink "LassoFinderModel" 440 ⟨"LassoFinderModel", "keep", "([III)V"⟩ ∈ zTB := z_in (zt_8 _ (List.mem_of_getElem? (i := 107) rfl)) rfl
theorem zm_371 : Cond.fieldLink "LassoFinderModel" 448 "LassoFinderModel" "cycle" "I" ∈ zTB := z_in (zt_6 _ (List.mem_of_getElem? (i := 173) rfl)) rfl
theorem zm_372 : Cond.methodLink "LassoFinderModel" 434 ⟨"LassoFinderModel", "nearest", "(II)I"⟩ ∈ zTB := z_in (zt_8 _ (List.mem_of_getElem? (i := 75) rfl)) rfl
theorem zm_374 : Cond.methodLink "LassoFinderModel" 444 ⟨"LassoFinderModel", "ahead", "(IJI)J"⟩ ∈ zTB := z_in (zt_8 _ (List.mem_of_getElem? (i := 117) rfl)) rfl
theorem zm_378 : Cond.methodLink "LassoFinderModel" 428 ⟨"LassoFinderModel", "measure", "(II)V"⟩ ∈ zTB := z_in (zt_8 _ (List.mem_of_getElem? (i := 79) rfl)) rfl
theorem zm_478 : Cond.code ⟨"LassoFinderModel", "stepOf", "([II)I"⟩ prog_14_method_58_code 2 (some .int) ∈ zTB := z_in (zt_8 _ (List.mem_of_getElem? (i := 112) rfl)) rfl
theorem zm_479 : Cond.static ⟨"LassoFinderModel", "stepOf", "([II)I"⟩ ∈ zTB := z_in (zt_8 _ (List.mem_of_getElem? (i := 111) rfl)) rfl
theorem zm_480 : Cond.code ⟨"LassoFinderModel", "keep", "([III)V"⟩ prog_14_method_59_code 4 none ∈ zTB := z_in (zt_8 _ (List.mem_of_getElem? (i := 109) rfl)) rfl
theorem zm_481 : Cond.static ⟨"LassoFinderModel", "keep", "([III)V"⟩ ∈ zTB := z_in (zt_8 _ (List.mem_of_getElem? (i := 108) rfl)) rfl
theorem zm_482 : Cond.code ⟨"LassoFinderModel", "ahead", "(IJI)J"⟩ prog_14_method_63_code 12 (some .long) ∈ zTB := z_in (zt_8 _ (List.mem_of_getElem? (i := 120) rfl)) rfl
theorem zm_483 : Cond.instanceMethod ⟨"LassoFinderModel", "ahead", "(IJI)J"⟩ ∈ zTB := z_in (zt_8 _ (List.mem_of_getElem? (i := 119) rfl)) rfl
theorem zm_484 : Cond.code ⟨"LassoFinderModel", "measure", "(II)V"⟩ prog_14_method_56_code 16 none ∈ zTB := z_in (zt_8 _ (List.mem_of_getElem? (i := 82) rfl)) rfl
theorem zm_485 : Cond.instanceMethod ⟨"LassoFinderModel", "measure", "(II)V"⟩ ∈ zTB := z_in (zt_8 _ (List.mem_of_getElem? (i := 81) rfl)) rfl
theorem zm_486 : Cond.code ⟨"LassoFinderModel", "nearest", "(II)I"⟩ prog_14_method_57_code 8 (some .int) ∈ zTB := z_in (zt_8 _ (List.mem_of_getElem? (i := 78) rfl)) rfl
theorem zm_487 : Cond.instanceMethod ⟨"LassoFinderModel", "nearest", "(II)I"⟩ ∈ zTB := z_in (zt_8 _ (List.mem_of_getElem? (i := 77) rfl)) rfl
theorem zf_LassoFinderModel_stepOf : zFaceS zy_LassoFinderModel_stepOf prog_14_method_58_code 2 (some .int) 2 := ⟨zm_479, zm_25, zm_478, by decide +kernel, by decide +kernel, by decide +kernel⟩
theorem zf_LassoFinderModel_keep : zFaceS zy_LassoFinderModel_keep prog_14_method_59_code 4 none 3 := ⟨zm_481, zm_25, zm_480, by decide +kernel, by decide +kernel, by decide +kernel⟩
theorem zf_LassoFinderModel_ahead : zFaceV zy_LassoFinderModel_ahead prog_14_method_63_code 12 (some .long) 3 := ⟨zm_483, (z_in (zp_8 _ (List.mem_of_getElem? (i := 12) rfl)) rfl), zm_25, zm_482, by decide +kernel, by decide +kernel, by decide +kernel⟩
theorem zf_LassoFinderModel_measure : zFaceV zy_LassoFinderModel_measure prog_14_method_56_code 16 none 2 := ⟨zm_485, (z_in (zp_8 _ (List.mem_of_getElem? (i := 4) rfl)) rfl), zm_25, zm_484, by decide +kernel, by decide +kernel, by decide +kernel⟩
theorem zf_LassoFinderModel_nearest : zFaceV zy_LassoFinderModel_nearest prog_14_method_57_code 8 (some .int) 2 := ⟨zm_487, (z_in (zp_8 _ (List.mem_of_getElem? (i := 3) rfl)) rfl), zm_25, zm_486, by decide +kernel, by decide +kernel, by decide +kernel⟩
theorem zd_LassoFinderModel_nearest_0 : decode prog_14_method_57_code 0 = .ok (.aload_n 0, 1) := by decide +kernel
theorem zd_LassoFinderModel_nearest_1 : decode prog_14_method_57_code 1 = .ok (.iload_n 1, 1) := by decide +kernel
theorem zd_LassoFinderModel_nearest_2 : decode prog_14_method_57_code 2 = .ok (.iload_n 2, 1) := by decide +kernel
theorem zd_LassoFinderModel_nearest_3 : decode prog_14_method_57_code 3 = .ok (.invokevirtual 428, 3) := by decide +kernel
theorem zd_LassoFinderModel_nearest_6 : decode prog_14_method_57_code 6 = .ok (.aload_n 0, 1) := by decide +kernel
theorem zd_LassoFinderModel_nearest_7 : decode prog_14_method_57_code 7 = .ok (.iload_n 1, 1) := by decide +kernel
theorem zd_LassoFinderModel_nearest_8 : decode prog_14_method_57_code 8 = .ok (.iload_n 2, 1) := by decide +kernel
theorem zd_LassoFinderModel_nearest_9 : decode prog_14_method_57_code 9 = .ok (.invokevirtual 419, 3) := by decide +kernel
theorem zd_LassoFinderModel_nearest_12 : decode prog_14_method_57_code 12 = .ok (.istore_n 3, 1) := by decide +kernel
theorem zd_LassoFinderModel_nearest_13 : decode prog_14_method_57_code 13 = .ok (.iconst 0, 1) := by decide +kernel
theorem zd_LassoFinderModel_nearest_14 : decode prog_14_method_57_code 14 = .ok (.istore 4, 2) := by decide +kernel
theorem zd_LassoFinderModel_nearest_16 : decode prog_14_method_57_code 16 = .ok (.aload_n 0, 1) := by decide +kernel
theorem zd_LassoFinderModel_nearest_17 : decode prog_14_method_57_code 17 = .ok (.getfield 109, 3) := by decide +kernel
theorem zd_LassoFinderModel_nearest_20 : decode prog_14_method_57_code 20 = .ok (.iload_n 1, 1) := by decide +kernel
theorem zd_LassoFinderModel_nearest_21 : decode prog_14_method_57_code 21 = .ok (.iaload, 1) := by decide +kernel
theorem zd_LassoFinderModel_nearest_22 : decode prog_14_method_57_code 22 = .ok (.istore 5, 2) := by decide +kernel
theorem zd_LassoFinderModel_nearest_24 : decode prog_14_method_57_code 24 = .ok (.iload 5, 2) := by decide +kernel
theorem zd_LassoFinderModel_nearest_26 : decode prog_14_method_57_code 26 = .ok (.aload_n 0, 1) := by decide +kernel
theorem zd_LassoFinderModel_nearest_27 : decode prog_14_method_57_code 27 = .ok (.getfield 109, 3) := by decide +kernel
theorem zd_LassoFinderModel_nearest_30 : decode prog_14_method_57_code 30 = .ok (.iload_n 1, 1) := by decide +kernel
theorem zd_LassoFinderModel_nearest_31 : decode prog_14_method_57_code 31 = .ok (.iconst 1, 1) := by decide +kernel
theorem zd_LassoFinderModel_nearest_32 : decode prog_14_method_57_code 32 = .ok (.iadd, 1) := by decide +kernel
theorem zd_LassoFinderModel_nearest_33 : decode prog_14_method_57_code 33 = .ok (.iaload, 1) := by decide +kernel
theorem zd_LassoFinderModel_nearest_34 : decode prog_14_method_57_code 34 = .ok (.if_icmp .ge 107, 3) := by decide +kernel
theorem zd_LassoFinderModel_nearest_37 : decode prog_14_method_57_code 37 = .ok (.iconst 0, 1) := by decide +kernel
theorem zd_LassoFinderModel_nearest_38 : decode prog_14_method_57_code 38 = .ok (.istore 6, 2) := by decide +kernel
theorem zd_LassoFinderModel_nearest_40 : decode prog_14_method_57_code 40 = .ok (.iload 6, 2) := by decide +kernel
theorem zd_LassoFinderModel_nearest_42 : decode prog_14_method_57_code 42 = .ok (.iconst 1, 1) := by decide +kernel
theorem zd_LassoFinderModel_nearest_43 : decode prog_14_method_57_code 43 = .ok (.aload_n 0, 1) := by decide +kernel
theorem zd_LassoFinderModel_nearest_44 : decode prog_14_method_57_code 44 = .ok (.getfield 376, 3) := by decide +kernel
theorem zd_LassoFinderModel_nearest_47 : decode prog_14_method_57_code 47 = .ok (.ishl, 1) := by decide +kernel
theorem zd_LassoFinderModel_nearest_48 : decode prog_14_method_57_code 48 = .ok (.if_icmp .ge 87, 3) := by decide +kernel
theorem zd_LassoFinderModel_nearest_51 : decode prog_14_method_57_code 51 = .ok (.aload_n 0, 1) := by decide +kernel
theorem zd_LassoFinderModel_nearest_52 : decode prog_14_method_57_code 52 = .ok (.iload_n 1, 1) := by decide +kernel
theorem zd_LassoFinderModel_nearest_53 : decode prog_14_method_57_code 53 = .ok (.iload 6, 2) := by decide +kernel
theorem zd_LassoFinderModel_nearest_55 : decode prog_14_method_57_code 55 = .ok (.invokevirtual 422, 3) := by decide +kernel
theorem zd_LassoFinderModel_nearest_58 : decode prog_14_method_57_code 58 = .ok (.iload_n 2, 1) := by decide +kernel
theorem zd_LassoFinderModel_nearest_59 : decode prog_14_method_57_code 59 = .ok (.if_icmp .eq 7, 3) := by decide +kernel
theorem zd_LassoFinderModel_nearest_62 : decode prog_14_method_57_code 62 = .ok (.iconst (-1), 1) := by decide +kernel
theorem zd_LassoFinderModel_nearest_63 : decode prog_14_method_57_code 63 = .ok (.goto 39, 3) := by decide +kernel
theorem zd_LassoFinderModel_nearest_66 : decode prog_14_method_57_code 66 = .ok (.aload_n 0, 1) := by decide +kernel
theorem zd_LassoFinderModel_nearest_67 : decode prog_14_method_57_code 67 = .ok (.bipush 64, 2) := by decide +kernel
theorem zd_LassoFinderModel_nearest_69 : decode prog_14_method_57_code 69 = .ok (.aload_n 0, 1) := by decide +kernel
theorem zd_LassoFinderModel_nearest_70 : decode prog_14_method_57_code 70 = .ok (.getfield 112, 3) := by decide +kernel
theorem zd_LassoFinderModel_nearest_73 : decode prog_14_method_57_code 73 = .ok (.iload 5, 2) := by decide +kernel
theorem zd_LassoFinderModel_nearest_75 : decode prog_14_method_57_code 75 = .ok (.iaload, 1) := by decide +kernel
theorem zd_LassoFinderModel_nearest_76 : decode prog_14_method_57_code 76 = .ok (.imul, 1) := by decide +kernel
theorem zd_LassoFinderModel_nearest_77 : decode prog_14_method_57_code 77 = .ok (.bipush 8, 2) := by decide +kernel
theorem zd_LassoFinderModel_nearest_79 : decode prog_14_method_57_code 79 = .ok (.iload 6, 2) := by decide +kernel
theorem zd_LassoFinderModel_nearest_81 : decode prog_14_method_57_code 81 = .ok (.imul, 1) := by decide +kernel
theorem zd_LassoFinderModel_nearest_82 : decode prog_14_method_57_code 82 = .ok (.iadd, 1) := by decide +kernel
theorem zd_LassoFinderModel_nearest_83 : decode prog_14_method_57_code 83 = .ok (.iload_n 3, 1) := by decide +kernel
theorem zd_LassoFinderModel_nearest_84 : decode prog_14_method_57_code 84 = .ok (.aload_n 0, 1) := by decide +kernel
theorem zd_LassoFinderModel_nearest_85 : decode prog_14_method_57_code 85 = .ok (.aload_n 0, 1) := by decide +kernel
theorem zd_LassoFinderModel_nearest_86 : decode prog_14_method_57_code 86 = .ok (.getfield 112, 3) := by decide +kernel
theorem zd_LassoFinderModel_nearest_89 : decode prog_14_method_57_code 89 = .ok (.iload 5, 2) := by decide +kernel
theorem zd_LassoFinderModel_nearest_91 : decode prog_14_method_57_code 91 = .ok (.iaload, 1) := by decide +kernel
theorem zd_LassoFinderModel_nearest_92 : decode prog_14_method_57_code 92 = .ok (.iload 6, 2) := by decide +kernel
theorem zd_LassoFinderModel_nearest_94 : decode prog_14_method_57_code 94 = .ok (.invokevirtual 419, 3) := by decide +kernel
theorem zd_LassoFinderModel_nearest_97 : decode prog_14_method_57_code 97 = .ok (.ior, 1) := by decide +kernel
theorem zd_LassoFinderModel_nearest_98 : decode prog_14_method_57_code 98 = .ok (.iadd, 1) := by decide +kernel
theorem zd_LassoFinderModel_nearest_99 : decode prog_14_method_57_code 99 = .ok (.invokevirtual 425, 3) := by decide +kernel
theorem zd_LassoFinderModel_nearest_102 : decode prog_14_method_57_code 102 = .ok (.istore 7, 2) := by decide +kernel
theorem zd_LassoFinderModel_nearest_104 : decode prog_14_method_57_code 104 = .ok (.iload 7, 2) := by decide +kernel
theorem zd_LassoFinderModel_nearest_106 : decode prog_14_method_57_code 106 = .ok (.ifCond .lt 23, 3) := by decide +kernel
theorem zd_LassoFinderModel_nearest_109 : decode prog_14_method_57_code 109 = .ok (.iload 4, 2) := by decide +kernel
theorem zd_LassoFinderModel_nearest_111 : decode prog_14_method_57_code 111 = .ok (.ifCond .eq 12, 3) := by decide +kernel
theorem zd_LassoFinderModel_nearest_114 : decode prog_14_method_57_code 114 = .ok (.iload 7, 2) := by decide +kernel
theorem zd_LassoFinderModel_nearest_116 : decode prog_14_method_57_code 116 = .ok (.iconst 1, 1) := by decide +kernel
theorem zd_LassoFinderModel_nearest_117 : decode prog_14_method_57_code 117 = .ok (.iadd, 1) := by decide +kernel
theorem zd_LassoFinderModel_nearest_118 : decode prog_14_method_57_code 118 = .ok (.iload 4, 2) := by decide +kernel
theorem zd_LassoFinderModel_nearest_120 : decode prog_14_method_57_code 120 = .ok (.if_icmp .ge 9, 3) := by decide +kernel
theorem zd_LassoFinderModel_nearest_123 : decode prog_14_method_57_code 123 = .ok (.iload 7, 2) := by decide +kernel
theorem zd_LassoFinderModel_nearest_125 : decode prog_14_method_57_code 125 = .ok (.iconst 1, 1) := by decide +kernel
theorem zd_LassoFinderModel_nearest_126 : decode prog_14_method_57_code 126 = .ok (.iadd, 1) := by decide +kernel
theorem zd_LassoFinderModel_nearest_127 : decode prog_14_method_57_code 127 = .ok (.istore 4, 2) := by decide +kernel
theorem zd_LassoFinderModel_nearest_129 : decode prog_14_method_57_code 129 = .ok (.iinc 6 1, 3) := by decide +kernel
theorem zd_LassoFinderModel_nearest_132 : decode prog_14_method_57_code 132 = .ok (.goto (-92), 3) := by decide +kernel
theorem zd_LassoFinderModel_nearest_135 : decode prog_14_method_57_code 135 = .ok (.iinc 5 1, 3) := by decide +kernel
theorem zd_LassoFinderModel_nearest_138 : decode prog_14_method_57_code 138 = .ok (.goto (-114), 3) := by decide +kernel
theorem zd_LassoFinderModel_nearest_141 : decode prog_14_method_57_code 141 = .ok (.iload 4, 2) := by decide +kernel
theorem zd_LassoFinderModel_nearest_143 : decode prog_14_method_57_code 143 = .ok (.ireturn, 1) := by decide +kernel
theorem zd_LassoFinderModel_round_0 : decode prog_14_method_64_code 0 = .ok (.aload_n 0, 1) := by decide +kernel
theorem zd_LassoFinderModel_round_1 : decode prog_14_method_64_code 1 = .ok (.iload_n 1, 1) := by decide +kernel
theorem zd_LassoFinderModel_round_2 : decode prog_14_method_64_code 2 = .ok (.iload_n 2, 1) := by decide +kernel
theorem zd_LassoFinderModel_round_3 : decode prog_14_method_64_code 3 = .ok (.invokevirtual 434, 3) := by decide +kernel
theorem zd_LassoFinderModel_round_6 : decode prog_14_method_64_code 6 = .ok (.istore_n 3, 1) := by decide +kernel
theorem zd_LassoFinderModel_round_7 : decode prog_14_method_64_code 7 = .ok (.iload_n 1, 1) := by decide +kernel
theorem zd_LassoFinderModel_round_8 : decode prog_14_method_64_code 8 = .ok (.istore 4, 2) := by decide +kernel
theorem zd_LassoFinderModel_round_10 : decode prog_14_method_64_code 10 = .ok (.lconst 1, 1) := by decide +kernel
theorem zd_LassoFinderModel_round_11 : decode prog_14_method_64_code 11 = .ok (.bipush 8, 2) := by decide +kernel
theorem zd_LassoFinderModel_round_13 : decode prog_14_method_64_code 13 = .ok (.iload_n 2, 1) := by decide +kernel
theorem zd_LassoFinderModel_round_14 : decode prog_14_method_64_code 14 = .ok (.imul, 1) := by decide +kernel
theorem zd_LassoFinderModel_round_15 : decode prog_14_method_64_code 15 = .ok (.aload_n 0, 1) := by decide +kernel
theorem zd_LassoFinderModel_round_16 : decode prog_14_method_64_code 16 = .ok (.iload_n 1, 1) := by decide +kernel
theorem zd_LassoFinderModel_round_17 : decode prog_14_method_64_code 17 = .ok (.iload_n 2, 1) := by decide +kernel
theorem zd_LassoFinderModel_round_18 : decode prog_14_method_64_code 18 = .ok (.invokevirtual 419, 3) := by decide +kernel
theorem zd_LassoFinderModel_round_21 : decode prog_14_method_64_code 21 = .ok (.iadd, 1) := by decide +kernel
theorem zd_LassoFinderModel_round_22 : decode prog_14_method_64_code 22 = .ok (.lshl, 1) := by decide +kernel
theorem zd_LassoFinderModel_round_23 : decode prog_14_method_64_code 23 = .ok (.lstore 5, 2) := by decide +kernel
theorem zd_LassoFinderModel_round_25 : decode prog_14_method_64_code 25 = .ok (.iload_n 3, 1) := by decide +kernel
theorem zd_LassoFinderModel_round_26 : decode prog_14_method_64_code 26 = .ok (.iconst 1, 1) := by decide +kernel
theorem zd_LassoFinderModel_round_27 : decode prog_14_method_64_code 27 = .ok (.isub, 1) := by decide +kernel
theorem zd_LassoFinderModel_round_28 : decode prog_14_method_64_code 28 = .ok (.istore 7, 2) := by decide +kernel
theorem zd_LassoFinderModel_round_30 : decode prog_14_method_64_code 30 = .ok (.iload 7, 2) := by decide +kernel
theorem zd_LassoFinderModel_round_32 : decode prog_14_method_64_code 32 = .ok (.ifCond .lt 95, 3) := by decide +kernel
theorem zd_LassoFinderModel_round_35 : decode prog_14_method_64_code 35 = .ok (.lconst 0, 1) := by decide +kernel
theorem zd_LassoFinderModel_round_36 : decode prog_14_method_64_code 36 = .ok (.lstore 8, 2) := by decide +kernel
theorem zd_LassoFinderModel_round_38 : decode prog_14_method_64_code 38 = .ok (.iconst (-1), 1) := by decide +kernel
theorem zd_LassoFinderModel_round_39 : decode prog_14_method_64_code 39 = .ok (.istore 10, 2) := by decide +kernel
theorem zd_LassoFinderModel_round_41 : decode prog_14_method_64_code 41 = .ok (.aload_n 0, 1) := by decide +kernel
theorem zd_LassoFinderModel_round_42 : decode prog_14_method_64_code 42 = .ok (.getfield 109, 3) := by decide +kernel
theorem zd_LassoFinderModel_round_45 : decode prog_14_method_64_code 45 = .ok (.iload 4, 2) := by decide +kernel
theorem zd_LassoFinderModel_round_47 : decode prog_14_method_64_code 47 = .ok (.iaload, 1) := by decide +kernel
theorem zd_LassoFinderModel_round_48 : decode prog_14_method_64_code 48 = .ok (.istore 11, 2) := by decide +kernel
theorem zd_LassoFinderModel_round_50 : decode prog_14_method_64_code 50 = .ok (.iload 11, 2) := by decide +kernel
theorem zd_LassoFinderModel_round_52 : decode prog_14_method_64_code 52 = .ok (.aload_n 0, 1) := by decide +kernel
theorem zd_LassoFinderModel_round_53 : decode prog_14_method_64_code 53 = .ok (.getfield 109, 3) := by decide +kernel
theorem zd_LassoFinderModel_round_56 : decode prog_14_method_64_code 56 = .ok (.iload 4, 2) := by decide +kernel
theorem zd_LassoFinderModel_round_58 : decode prog_14_method_64_code 58 = .ok (.iconst 1, 1) := by decide +kernel
theorem zd_LassoFinderModel_round_59 : decode prog_14_method_64_code 59 = .ok (.iadd, 1) := by decide +kernel
theorem zd_LassoFinderModel_round_60 : decode prog_14_method_64_code 60 = .ok (.iaload, 1) := by decide +kernel
theorem zd_LassoFinderModel_round_61 : decode prog_14_method_64_code 61 = .ok (.if_icmp .ge 32, 3) := by decide +kernel
theorem zd_LassoFinderModel_round_64 : decode prog_14_method_64_code 64 = .ok (.lload 8, 2) := by decide +kernel
theorem zd_LassoFinderModel_round_66 : decode prog_14_method_64_code 66 = .ok (.lconst 0, 1) := by decide +kernel
theorem zd_LassoFinderModel_round_67 : decode prog_14_method_64_code 67 = .ok (.lcmp, 1) := by decide +kernel
theorem zd_LassoFinderModel_round_68 : decode prog_14_method_64_code 68 = .ok (.ifCond .ne 25, 3) := by decide +kernel
theorem zd_LassoFinderModel_round_71 : decode prog_14_method_64_code 71 = .ok (.aload_n 0, 1) := by decide +kernel
theorem zd_LassoFinderModel_round_72 : decode prog_14_method_64_code 72 = .ok (.iload 11, 2) := by decide +kernel
theorem zd_LassoFinderModel_round_74 : decode prog_14_method_64_code 74 = .ok (.lload 5, 2) := by decide +kernel
theorem zd_LassoFinderModel_round_76 : decode prog_14_method_64_code 76 = .ok (.iload 7, 2) := by decide +kernel
theorem zd_LassoFinderModel_round_78 : decode prog_14_method_64_code 78 = .ok (.invokevirtual 444, 3) := by decide +kernel
theorem zd_LassoFinderModel_round_81 : decode prog_14_method_64_code 81 = .ok (.lstore 8, 2) := by decide +kernel
theorem zd_LassoFinderModel_round_83 : decode prog_14_method_64_code 83 = .ok (.iload 11, 2) := by decide +kernel
theorem zd_LassoFinderModel_round_85 : decode prog_14_method_64_code 85 = .ok (.istore 10, 2) := by decide +kernel
theorem zd_LassoFinderModel_round_87 : decode prog_14_method_64_code 87 = .ok (.iinc 11 1, 3) := by decide +kernel
theorem zd_LassoFinderModel_round_90 : decode prog_14_method_64_code 90 = .ok (.goto (-40), 3) := by decide +kernel
theorem zd_LassoFinderModel_round_93 : decode prog_14_method_64_code 93 = .ok (.aload_n 0, 1) := by decide +kernel
theorem zd_LassoFinderModel_round_94 : decode prog_14_method_64_code 94 = .ok (.getfield 184, 3) := by decide +kernel
theorem zd_LassoFinderModel_round_97 : decode prog_14_method_64_code 97 = .ok (.iload_n 3, 1) := by decide +kernel
theorem zd_LassoFinderModel_round_98 : decode prog_14_method_64_code 98 = .ok (.iconst 1, 1) := by decide +kernel
theorem zd_LassoFinderModel_round_99 : decode prog_14_method_64_code 99 = .ok (.isub, 1) := by decide +kernel
theorem zd_LassoFinderModel_round_100 : decode prog_14_method_64_code 100 = .ok (.iload 7, 2) := by decide +kernel
theorem zd_LassoFinderModel_round_102 : decode prog_14_method_64_code 102 = .ok (.isub, 1) := by decide +kernel
theorem zd_LassoFinderModel_round_103 : decode prog_14_method_64_code 103 = .ok (.iload 10, 2) := by decide +kernel
theorem zd_LassoFinderModel_round_105 : decode prog_14_method_64_code 105 = .ok (.invokestatic 440, 3) := by decide +kernel
theorem zd_LassoFinderModel_round_108 : decode prog_14_method_64_code 108 = .ok (.aload_n 0, 1) := by decide +kernel
theorem zd_LassoFinderModel_round_109 : decode prog_14_method_64_code 109 = .ok (.getfield 112, 3) := by decide +kernel
theorem zd_LassoFinderModel_round_112 : decode prog_14_method_64_code 112 = .ok (.iload 10, 2) := by decide +kernel
theorem zd_LassoFinderModel_round_114 : decode prog_14_method_64_code 114 = .ok (.iaload, 1) := by decide +kernel
theorem zd_LassoFinderModel_round_115 : decode prog_14_method_64_code 115 = .ok (.istore 4, 2) := by decide +kernel
theorem zd_LassoFinderModel_round_117 : decode prog_14_method_64_code 117 = .ok (.lload 8, 2) := by decide +kernel
theorem zd_LassoFinderModel_round_119 : decode prog_14_method_64_code 119 = .ok (.lstore 5, 2) := by decide +kernel
theorem zd_LassoFinderModel_round_121 : decode prog_14_method_64_code 121 = .ok (.iinc 7 (-1), 3) := by decide +kernel
theorem zd_LassoFinderModel_round_124 : decode prog_14_method_64_code 124 = .ok (.goto (-94), 3) := by decide +kernel
theorem zd_LassoFinderModel_round_127 : decode prog_14_method_64_code 127 = .ok (.iload_n 3, 1) := by decide +kernel
theorem zd_LassoFinderModel_round_128 : decode prog_14_method_64_code 128 = .ok (.ireturn, 1) := by decide +kernel
theorem zd_LassoFinderModel_sooner_0 : decode prog_14_method_65_code 0 = .ok (.aload_n 0, 1) := by decide +kernel
theorem zd_LassoFinderModel_sooner_1 : decode prog_14_method_65_code 1 = .ok (.getfield 448, 3) := by decide +kernel
theorem zd_LassoFinderModel_sooner_4 : decode prog_14_method_65_code 4 = .ok (.ifCond .eq 11, 3) := by decide +kernel
theorem zd_LassoFinderModel_sooner_7 : decode prog_14_method_65_code 7 = .ok (.iload_n 1, 1) := by decide +kernel
theorem zd_LassoFinderModel_sooner_8 : decode prog_14_method_65_code 8 = .ok (.aload_n 0, 1) := by decide +kernel
theorem zd_LassoFinderModel_sooner_9 : decode prog_14_method_65_code 9 = .ok (.getfield 448, 3) := by decide +kernel
theorem zd_LassoFinderModel_sooner_12 : decode prog_14_method_65_code 12 = .ok (.if_icmp .eq 24, 3) := by decide +kernel
theorem zd_LassoFinderModel_sooner_15 : decode prog_14_method_65_code 15 = .ok (.aload_n 0, 1) := by decide +kernel
theorem zd_LassoFinderModel_sooner_16 : decode prog_14_method_65_code 16 = .ok (.getfield 448, 3) := by decide +kernel
theorem zd_LassoFinderModel_sooner_19 : decode prog_14_method_65_code 19 = .ok (.ifCond .eq 11, 3) := by decide +kernel
theorem zd_LassoFinderModel_sooner_22 : decode prog_14_method_65_code 22 = .ok (.iload_n 1, 1) := by decide +kernel
theorem zd_LassoFinderModel_sooner_23 : decode prog_14_method_65_code 23 = .ok (.aload_n 0, 1) := by decide +kernel
theorem zd_LassoFinderModel_sooner_24 : decode prog_14_method_65_code 24 = .ok (.getfield 448, 3) := by decide +kernel
theorem zd_LassoFinderModel_sooner_27 : decode prog_14_method_65_code 27 = .ok (.if_icmp .ge 7, 3) := by decide +kernel
theorem zd_LassoFinderModel_sooner_30 : decode prog_14_method_65_code 30 = .ok (.iconst 1, 1) := by decide +kernel
theorem zd_LassoFinderModel_sooner_31 : decode prog_14_method_65_code 31 = .ok (.goto 4, 3) := by decide +kernel
theorem zd_LassoFinderModel_sooner_34 : decode prog_14_method_65_code 34 = .ok (.iconst 0, 1) := by decide +kernel
theorem zd_LassoFinderModel_sooner_35 : decode prog_14_method_65_code 35 = .ok (.ireturn, 1) := by decide +kernel
theorem zd_LassoFinderModel_sooner_36 : decode prog_14_method_65_code 36 = .ok (.iconst 0, 1) := by decide +kernel
theorem zd_LassoFinderModel_sooner_37 : decode prog_14_method_65_code 37 = .ok (.istore_n 2, 1) := by decide +kernel
theorem zd_LassoFinderModel_sooner_38 : decode prog_14_method_65_code 38 = .ok (.iload_n 2, 1) := by decide +kernel
theorem zd_LassoFinderModel_sooner_39 : decode prog_14_method_65_code 39 = .ok (.iload_n 1, 1) := by decide +kernel
theorem zd_LassoFinderModel_sooner_40 : decode prog_14_method_65_code 40 = .ok (.if_icmp .ge 33, 3) := by decide +kernel
theorem zd_LassoFinderModel_sooner_43 : decode prog_14_method_65_code 43 = .ok (.aload_n 0, 1) := by decide +kernel
theorem zd_LassoFinderModel_sooner_44 : decode prog_14_method_65_code 44 = .ok (.getfield 184, 3) := by decide +kernel
theorem zd_LassoFinderModel_sooner_47 : decode prog_14_method_65_code 47 = .ok (.iload_n 2, 1) := by decide +kernel
theorem zd_LassoFinderModel_sooner_48 : decode prog_14_method_65_code 48 = .ok (.invokestatic 451, 3) := by decide +kernel
theorem zd_LassoFinderModel_sooner_51 : decode prog_14_method_65_code 51 = .ok (.aload_n 0, 1) := by decide +kernel
theorem zd_LassoFinderModel_sooner_52 : decode prog_14_method_65_code 52 = .ok (.getfield 181, 3) := by decide +kernel
theorem zd_LassoFinderModel_sooner_55 : decode prog_14_method_65_code 55 = .ok (.aload_n 0, 1) := by decide +kernel
theorem zd_LassoFinderModel_sooner_56 : decode prog_14_method_65_code 56 = .ok (.getfield 178, 3) := by decide +kernel
theorem zd_LassoFinderModel_sooner_59 : decode prog_14_method_65_code 59 = .ok (.iload_n 2, 1) := by decide +kernel
theorem zd_LassoFinderModel_sooner_60 : decode prog_14_method_65_code 60 = .ok (.iadd, 1) := by decide +kernel
theorem zd_LassoFinderModel_sooner_61 : decode prog_14_method_65_code 61 = .ok (.invokestatic 451, 3) := by decide +kernel
theorem zd_LassoFinderModel_sooner_64 : decode prog_14_method_65_code 64 = .ok (.if_icmp .ne 9, 3) := by decide +kernel
theorem zd_LassoFinderModel_sooner_67 : decode prog_14_method_65_code 67 = .ok (.iinc 2 1, 3) := by decide +kernel
theorem zd_LassoFinderModel_sooner_70 : decode prog_14_method_65_code 70 = .ok (.goto (-32), 3) := by decide +kernel
theorem zd_LassoFinderModel_sooner_73 : decode prog_14_method_65_code 73 = .ok (.iload_n 2, 1) := by decide +kernel
theorem zd_LassoFinderModel_sooner_74 : decode prog_14_method_65_code 74 = .ok (.iload_n 1, 1) := by decide +kernel
theorem zd_LassoFinderModel_sooner_75 : decode prog_14_method_65_code 75 = .ok (.if_icmp .ge 31, 3) := by decide +kernel
theorem zd_LassoFinderModel_sooner_78 : decode prog_14_method_65_code 78 = .ok (.aload_n 0, 1) := by decide +kernel
theorem zd_LassoFinderModel_sooner_79 : decode prog_14_method_65_code 79 = .ok (.getfield 184, 3) := by decide +kernel
theorem zd_LassoFinderModel_sooner_82 : decode prog_14_method_65_code 82 = .ok (.iload_n 2, 1) := by decide +kernel
theorem zd_LassoFinderModel_sooner_83 : decode prog_14_method_65_code 83 = .ok (.invokestatic 451, 3) := by decide +kernel
theorem zd_LassoFinderModel_sooner_86 : decode prog_14_method_65_code 86 = .ok (.aload_n 0, 1) := by decide +kernel
theorem zd_LassoFinderModel_sooner_87 : decode prog_14_method_65_code 87 = .ok (.getfield 181, 3) := by decide +kernel
theorem zd_LassoFinderModel_sooner_90 : decode prog_14_method_65_code 90 = .ok (.aload_n 0, 1) := by decide +kernel
theorem zd_LassoFinderModel_sooner_91 : decode prog_14_method_65_code 91 = .ok (.getfield 178, 3) := by decide +kernel
theorem zd_LassoFinderModel_sooner_94 : decode prog_14_method_65_code 94 = .ok (.iload_n 2, 1) := by decide +kernel
theorem zd_LassoFinderModel_sooner_95 : decode prog_14_method_65_code 95 = .ok (.iadd, 1) := by decide +kernel
theorem zd_LassoFinderModel_sooner_96 : decode prog_14_method_65_code 96 = .ok (.invokestatic 451, 3) := by decide +kernel
theorem zd_LassoFinderModel_sooner_99 : decode prog_14_method_65_code 99 = .ok (.if_icmp .ge 7, 3) := by decide +kernel
theorem zd_LassoFinderModel_sooner_102 : decode prog_14_method_65_code 102 = .ok (.iconst 1, 1) := by decide +kernel
theorem zd_LassoFinderModel_sooner_103 : decode prog_14_method_65_code 103 = .ok (.goto 4, 3) := by decide +kernel
theorem zd_LassoFinderModel_sooner_106 : decode prog_14_method_65_code 106 = .ok (.iconst 0, 1) := by decide +kernel
theorem zd_LassoFinderModel_sooner_107 : decode prog_14_method_65_code 107 = .ok (.ireturn, 1) := by decide +kernel
def wc_LassoFinderModel_nearest_129 (a0 : Int32) (a1 : Int32) (K24 : Int32 → Int32 → Int32 → Int32 → Int32 → (Nat → Int32) → (Nat → Int64) → (Nat → Nat → Int32) → (Nat → Nat → Int64) → Prop) (K40 : Int32 → Int32 → Int32 → Int32 → Int32 → Int32 → (Nat → Int32) → (Nat → Int64) → (Nat → Nat → Int32) → (Nat → Nat → Int64) → Prop) (Post : Int32 → (Nat → Int32) → (Nat → Int64) → (Nat → Nat → Int32) → (Nat → Nat → Int64) → Prop) (x1 : Int32) (x2 : Int32) (x3 : Int32) (x4 : Int32) (x5 : Int32) (x6 : Int32) (I : Nat → Int32) (J : Nat → Int64) (B : Nat → Nat → Int32) (D : Nat → Nat → Int64) : Prop :=
  ∀ z1 : Int32, z1 = (x6 + 1) → K40 x1 x2 x3 x4 x5 z1 I J B D
def wc_LassoFinderModel_nearest_123 (a0 : Int32) (a1 : Int32) (K24 : Int32 → Int32 → Int32 → Int32 → Int32 → (Nat → Int32) → (Nat → Int64) → (Nat → Nat → Int32) → (Nat → Nat → Int64) → Prop) (K40 : Int32 → Int32 → Int32 → Int32 → Int32 → Int32 → (Nat → Int32) → (Nat → Int64) → (Nat → Nat → Int32) → (Nat → Nat → Int64) → Prop) (Post : Int32 → (Nat → Int32) → (Nat → Int64) → (Nat → Nat → Int32) → (Nat → Nat → Int64) → Prop) (x1 : Int32) (x2 : Int32) (x3 : Int32) (x5 : Int32) (x6 : Int32) (x7 : Int32) (I : Nat → Int32) (J : Nat → Int64) (B : Nat → Nat → Int32) (D : Nat → Nat → Int64) : Prop :=
  ∀ z2 : Int32, z2 = (x7 + 1) → wc_LassoFinderModel_nearest_129 a0 a1 K24 K40 Post x1 x2 x3 z2 x5 x6 I J B D
def wc_LassoFinderModel_nearest_102 (a0 : Int32) (a1 : Int32) (K24 : Int32 → Int32 → Int32 → Int32 → Int32 → (Nat → Int32) → (Nat → Int64) → (Nat → Nat → Int32) → (Nat → Nat → Int64) → Prop) (K40 : Int32 → Int32 → Int32 → Int32 → Int32 → Int32 → (Nat → Int32) → (Nat → Int64) → (Nat → Nat → Int32) → (Nat → Nat → Int64) → Prop) (Post : Int32 → (Nat → Int32) → (Nat → Int64) → (Nat → Nat → Int32) → (Nat → Nat → Int64) → Prop) (x1 : Int32) (x2 : Int32) (x3 : Int32) (x4 : Int32) (x5 : Int32) (x6 : Int32) (y0 : Int32) (I : Nat → Int32) (J : Nat → Int64) (B : Nat → Nat → Int32) (D : Nat → Nat → Int64) : Prop :=
  ((y0 < 0 → wc_LassoFinderModel_nearest_129 a0 a1 K24 K40 Post x1 x2 x3 x4 x5 x6 I J B D) ∧ (¬ y0 < 0 → ((x4 = 0 → wc_LassoFinderModel_nearest_123 a0 a1 K24 K40 Post x1 x2 x3 x5 x6 y0 I J B D) ∧ (¬ x4 = 0 → ∀ z5 : Int32, z5 = (y0 + 1) → ((x4 ≤ z5 → wc_LassoFinderModel_nearest_129 a0 a1 K24 K40 Post x1 x2 x3 x4 x5 x6 I J B D) ∧ (¬ x4 ≤ z5 → wc_LassoFinderModel_nearest_123 a0 a1 K24 K40 Post x1 x2 x3 x5 x6 y0 I J B D))))))
def wb_LassoFinderModel_nearest_40 (a0 : Int32) (a1 : Int32) (K40 : Int32 → Int32 → Int32 → Int32 → Int32 → Int32 → (Nat → Int32) → (Nat → Int64) → (Nat → Nat → Int32) → (Nat → Nat → Int64) → Prop) (K24 : Int32 → Int32 → Int32 → Int32 → Int32 → (Nat → Int32) → (Nat → Int64) → (Nat → Nat → Int32) → (Nat → Nat → Int64) → Prop) (Post : Int32 → (Nat → Int32) → (Nat → Int64) → (Nat → Nat → Int32) → (Nat → Nat → Int64) → Prop) (x1 : Int32) (x2 : Int32) (x3 : Int32) (x4 : Int32) (x5 : Int32) (x6 : Int32) (I : Nat → Int32) (J : Nat → Int64) (B : Nat → Nat → Int32) (D : Nat → Nat → Int64) : Prop :=
  ∀ z7 : Int32, z7 = (1 <<< ((I 20) &&& 31)) → ((z7 ≤ x6 → ∀ z9 : Int32, z9 = (x5 + 1) → K24 x1 x2 x3 x4 z9 I J B D) ∧ (¬ z7 ≤ x6 → wp_LassoFinderModel_truthAt I J B D x1 x6 (fun r10 I10 J10 B10 D10 => ((r10 = x2 → vp_in x5 401 ∧ ∀ z12 : Int32, z12 = ((B10 30) x5.toNatClampNeg) → ∀ z13 : Int32, z13 = (64 * z12) → ∀ z14 : Int32, z14 = (8 * x6) → ∀ z15 : Int32, z15 = (z13 + z14) → vp_in x5 401 ∧ ∀ z16 : Int32, z16 = ((B10 30) x5.toNatClampNeg) → wp_LassoFinderModel_settled I10 J10 B10 D10 z16 x6 (fun r17 I17 J17 B17 D17 => ∀ z18 : Int32, z18 = (x3 ||| r17) → ∀ z19 : Int32, z19 = (z15 + z18) → wp_LassoFinderModel_away I17 J17 B17 D17 z19 (fun r20 I20 J20 B20 D20 => wc_LassoFinderModel_nearest_102 a0 a1 K24 K40 Post x1 x2 x3 x4 x5 x6 r20 I20 J20 B20 D20))) ∧ (¬ r10 = x2 → wc_LassoFinderModel_nearest_102 a0 a1 K24 K40 Post x1 x2 x3 x4 x5 x6 (-1) I10 J10 B10 D10)))))
def wl_LassoFinderModel_nearest_40 (a0 : Int32) (a1 : Int32) (K24 : Int32 → Int32 → Int32 → Int32 → Int32 → (Nat → Int32) → (Nat → Int64) → (Nat → Nat → Int32) → (Nat → Nat → Int64) → Prop) (Post : Int32 → (Nat → Int32) → (Nat → Int64) → (Nat → Nat → Int32) → (Nat → Nat → Int64) → Prop) (n : Nat) : Int32 → Int32 → Int32 → Int32 → Int32 → Int32 → (Nat → Int32) → (Nat → Int64) → (Nat → Nat → Int32) → (Nat → Nat → Int64) → Prop := Nat.rec (fun _ _ _ _ _ _ _ _ _ _ => False) (fun _ r => wb_LassoFinderModel_nearest_40 a0 a1 r K24 Post) n
def wb_LassoFinderModel_nearest_24 (a0 : Int32) (a1 : Int32) (K24 : Int32 → Int32 → Int32 → Int32 → Int32 → (Nat → Int32) → (Nat → Int64) → (Nat → Nat → Int32) → (Nat → Nat → Int64) → Prop) (Post : Int32 → (Nat → Int32) → (Nat → Int64) → (Nat → Nat → Int32) → (Nat → Nat → Int64) → Prop) (x1 : Int32) (x2 : Int32) (x3 : Int32) (x4 : Int32) (x5 : Int32) (I : Nat → Int32) (J : Nat → Int64) (B : Nat → Nat → Int32) (D : Nat → Nat → Int64) : Prop :=
  ∀ z21 : Int32, z21 = (x1 + 1) → vp_in z21 98 ∧ ∀ z22 : Int32, z22 = ((B 29) z21.toNatClampNeg) → ((z22 ≤ x5 → Post x4 I J B D) ∧ (¬ z22 ≤ x5 → ∃ n : Nat, wl_LassoFinderModel_nearest_40 a0 a1 K24 Post n x1 x2 x3 x4 x5 0 I J B D))
def wl_LassoFinderModel_nearest_24 (a0 : Int32) (a1 : Int32) (Post : Int32 → (Nat → Int32) → (Nat → Int64) → (Nat → Nat → Int32) → (Nat → Nat → Int64) → Prop) (n : Nat) : Int32 → Int32 → Int32 → Int32 → Int32 → (Nat → Int32) → (Nat → Int64) → (Nat → Nat → Int32) → (Nat → Nat → Int64) → Prop := Nat.rec (fun _ _ _ _ _ _ _ _ _ => False) (fun _ r => wb_LassoFinderModel_nearest_24 a0 a1 r Post) n
def wp_LassoFinderModel_nearest (I : Nat → Int32) (J : Nat → Int64) (B : Nat → Nat → Int32) (D : Nat → Nat → Int64) (a0 : Int32) (a1 : Int32) (Post : Int32 → (Nat → Int32) → (Nat → Int64) → (Nat → Nat → Int32) → (Nat → Nat → Int64) → Prop) : Prop :=
  wp_LassoFinderModel_measure I J B D a0 a1 (fun I24 J24 B24 D24 => wp_LassoFinderModel_settled I24 J24 B24 D24 a0 a1 (fun r25 I25 J25 B25 D25 => vp_in a0 98 ∧ ∀ z26 : Int32, z26 = ((B25 29) a0.toNatClampNeg) → ∃ n : Nat, wl_LassoFinderModel_nearest_24 a0 a1 Post n a0 a1 r25 0 z26 I25 J25 B25 D25))
set_option maxHeartbeats 8000000 in
set_option maxRecDepth 100000 in
theorem wJ_LassoFinderModel_nearest_129 {p : Program} {l : Launch} {e : Env} {s : State} {m : MethodId} {below : List Frame} {meth : Method} {c : Code} {A : Nat → Prop} (G : va_G) (K : Nat → ClassId) (ad : Nat → Nat) (a0 : Int32) (a1 : Int32) (Post : Int32 → (Nat → Int32) → (Nat → Int64) → (Nat → Nat → Int32) → (Nat → Nat → Int64) → Prop) (C : zCx p s m ([.ref (ad 0), .int a0, .int a1] : List Value).toArray meth c A G K prog_14_method_57_code (some .int) 8 "LassoFinderModel") (K24 : Int32 → Int32 → Int32 → Int32 → Int32 → (Nat → Int32) → (Nat → Int64) → (Nat → Nat → Int32) → (Nat → Nat → Int64) → Prop) (kh24 : ∀ (x1 : Int32) (x2 : Int32) (x3 : Int32) (x4 : Int32) (x5 : Int32) (I : Nat → Int32) (J : Nat → Int64) (B : Nat → Nat → Int32) (D : Nat → Nat → Int64) (ls : Array Slot) (H : Heap) (locs : List Loc), K24 x1 x2 x3 x4 x5 I J B D → lv_has ls 8 [(0, .ref (ad 0)), (1, .int x1), (2, .int x2), (3, .int x3), (4, .int x4), (5, .int x5)] → zW G A s.heap (wM ad K I J B D) H locs → W p l e { frames := 3, cells := 0, slots := 0, locals := 85 } s m ([.ref (ad 0), .int a0, .int a1] : List Value).toArray below meth c H locs 0 0 (MQ below (va_Qi (fun (r : Int32) (u : zS) => Post r u.1 u.2.1 u.2.2.1 u.2.2.2) (fun u t => zPost G K A (wM ad K u.1 u.2.1 u.2.2.1 u.2.2.2) t) A) ([.ref (ad 0), .int a0, .int a1] : List Value).toArray s 0 0 A) (F0 m 24 ls [])) (K40 : Int32 → Int32 → Int32 → Int32 → Int32 → Int32 → (Nat → Int32) → (Nat → Int64) → (Nat → Nat → Int32) → (Nat → Nat → Int64) → Prop) (kh40 : ∀ (x1 : Int32) (x2 : Int32) (x3 : Int32) (x4 : Int32) (x5 : Int32) (x6 : Int32) (I : Nat → Int32) (J : Nat → Int64) (B : Nat → Nat → Int32) (D : Nat → Nat → Int64) (ls : Array Slot) (H : Heap) (locs : List Loc), K40 x1 x2 x3 x4 x5 x6 I J B D → lv_has ls 8 [(0, .ref (ad 0)), (1, .int x1), (2, .int x2), (3, .int x3), (4, .int x4), (5, .int x5), (6, .int x6)] → zW G A s.heap (wM ad K I J B D) H locs → W p l e { frames := 3, cells := 0, slots := 0, locals := 85 } s m ([.ref (ad 0), .int a0, .int a1] : List Value).toArray below meth c H locs 0 0 (MQ below (va_Qi (fun (r : Int32) (u : zS) => Post r u.1 u.2.1 u.2.2.1 u.2.2.2) (fun u t => zPost G K A (wM ad K u.1 u.2.1 u.2.2.1 u.2.2.2) t) A) ([.ref (ad 0), .int a0, .int a1] : List Value).toArray s 0 0 A) (F0 m 40 ls [])) : ∀ (x1 : Int32) (x2 : Int32) (x3 : Int32) (x4 : Int32) (x5 : Int32) (x6 : Int32) (I : Nat → Int32) (J : Nat → Int64) (B : Nat → Nat → Int32) (D : Nat → Nat → Int64) (ls : Array Slot) (H : Heap) (locs : List Loc), wc_LassoFinderModel_nearest_129 a0 a1 K24 K40 Post x1 x2 x3 x4 x5 x6 I J B D → lv_has ls 8 [(0, .ref (ad 0)), (1, .int x1), (2, .int x2), (3, .int x3), (4, .int x4), (5, .int x5), (6, .int x6)] → zW G A s.heap (wM ad K I J B D) H locs → W p l e { frames := 3, cells := 0, slots := 0, locals := 85 } s m ([.ref (ad 0), .int a0, .int a1] : List Value).toArray below meth c H locs 0 0 (MQ below (va_Qi (fun (r : Int32) (u : zS) => Post r u.1 u.2.1 u.2.2.1 u.2.2.2) (fun u t => zPost G K A (wM ad K u.1 u.2.1 u.2.2.1 u.2.2.2) t) A) ([.ref (ad 0), .int a0, .int a1] : List Value).toArray s 0 0 A) (F0 m 129 ls []) := by
  obtain ⟨hx, hb, hr, hml, hts, hown, hlocks, hA, hK⟩ := id C
  intro x1 x2 x3 x4 x5 x6 I J B D ls H locs hok hl hw
  unfold wc_LassoFinderModel_nearest_129 at hok
  obtain ⟨z1, ez1⟩ : ∃ z : Int32, z = (x6 + 1) := ⟨_, rfl⟩
  have hok := hok z1 ez1
  refine lv_iinc (v := z1) hx hb zd_LassoFinderModel_nearest_129 hl (k := 6) rfl ez1.symm (by decide) rfl (fun ls hl => ?_)
  have hl : lv_has ls 8 [(6, .int z1), (0, .ref (ad 0)), (1, .int x1), (2, .int x2), (3, .int x3), (4, .int x4), (5, .int x5)] := hl
  refine lv_goto (tgt := 40) hx hb zd_LassoFinderModel_nearest_132 (by decide) ?_
  exact kh40 x1 x2 x3 x4 x5 z1 I J B D ls H locs hok (lv_sub hl [1, 2, 3, 4, 5, 6, 0] rfl) hw
set_option maxHeartbeats 8000000 in
set_option maxRecDepth 100000 in
theorem wJ_LassoFinderModel_nearest_123 {p : Program} {l : Launch} {e : Env} {s : State} {m : MethodId} {below : List Frame} {meth : Method} {c : Code} {A : Nat → Prop} (G : va_G) (K : Nat → ClassId) (ad : Nat → Nat) (a0 : Int32) (a1 : Int32) (Post : Int32 → (Nat → Int32) → (Nat → Int64) → (Nat → Nat → Int32) → (Nat → Nat → Int64) → Prop) (C : zCx p s m ([.ref (ad 0), .int a0, .int a1] : List Value).toArray meth c A G K prog_14_method_57_code (some .int) 8 "LassoFinderModel") (K24 : Int32 → Int32 → Int32 → Int32 → Int32 → (Nat → Int32) → (Nat → Int64) → (Nat → Nat → Int32) → (Nat → Nat → Int64) → Prop) (kh24 : ∀ (x1 : Int32) (x2 : Int32) (x3 : Int32) (x4 : Int32) (x5 : Int32) (I : Nat → Int32) (J : Nat → Int64) (B : Nat → Nat → Int32) (D : Nat → Nat → Int64) (ls : Array Slot) (H : Heap) (locs : List Loc), K24 x1 x2 x3 x4 x5 I J B D → lv_has ls 8 [(0, .ref (ad 0)), (1, .int x1), (2, .int x2), (3, .int x3), (4, .int x4), (5, .int x5)] → zW G A s.heap (wM ad K I J B D) H locs → W p l e { frames := 3, cells := 0, slots := 0, locals := 85 } s m ([.ref (ad 0), .int a0, .int a1] : List Value).toArray below meth c H locs 0 0 (MQ below (va_Qi (fun (r : Int32) (u : zS) => Post r u.1 u.2.1 u.2.2.1 u.2.2.2) (fun u t => zPost G K A (wM ad K u.1 u.2.1 u.2.2.1 u.2.2.2) t) A) ([.ref (ad 0), .int a0, .int a1] : List Value).toArray s 0 0 A) (F0 m 24 ls [])) (K40 : Int32 → Int32 → Int32 → Int32 → Int32 → Int32 → (Nat → Int32) → (Nat → Int64) → (Nat → Nat → Int32) → (Nat → Nat → Int64) → Prop) (kh40 : ∀ (x1 : Int32) (x2 : Int32) (x3 : Int32) (x4 : Int32) (x5 : Int32) (x6 : Int32) (I : Nat → Int32) (J : Nat → Int64) (B : Nat → Nat → Int32) (D : Nat → Nat → Int64) (ls : Array Slot) (H : Heap) (locs : List Loc), K40 x1 x2 x3 x4 x5 x6 I J B D → lv_has ls 8 [(0, .ref (ad 0)), (1, .int x1), (2, .int x2), (3, .int x3), (4, .int x4), (5, .int x5), (6, .int x6)] → zW G A s.heap (wM ad K I J B D) H locs → W p l e { frames := 3, cells := 0, slots := 0, locals := 85 } s m ([.ref (ad 0), .int a0, .int a1] : List Value).toArray below meth c H locs 0 0 (MQ below (va_Qi (fun (r : Int32) (u : zS) => Post r u.1 u.2.1 u.2.2.1 u.2.2.2) (fun u t => zPost G K A (wM ad K u.1 u.2.1 u.2.2.1 u.2.2.2) t) A) ([.ref (ad 0), .int a0, .int a1] : List Value).toArray s 0 0 A) (F0 m 40 ls [])) : ∀ (x1 : Int32) (x2 : Int32) (x3 : Int32) (x5 : Int32) (x6 : Int32) (x7 : Int32) (I : Nat → Int32) (J : Nat → Int64) (B : Nat → Nat → Int32) (D : Nat → Nat → Int64) (ls : Array Slot) (H : Heap) (locs : List Loc), wc_LassoFinderModel_nearest_123 a0 a1 K24 K40 Post x1 x2 x3 x5 x6 x7 I J B D → lv_has ls 8 [(0, .ref (ad 0)), (1, .int x1), (2, .int x2), (3, .int x3), (5, .int x5), (6, .int x6), (7, .int x7)] → zW G A s.heap (wM ad K I J B D) H locs → W p l e { frames := 3, cells := 0, slots := 0, locals := 85 } s m ([.ref (ad 0), .int a0, .int a1] : List Value).toArray below meth c H locs 0 0 (MQ below (va_Qi (fun (r : Int32) (u : zS) => Post r u.1 u.2.1 u.2.2.1 u.2.2.2) (fun u t => zPost G K A (wM ad K u.1 u.2.1 u.2.2.1 u.2.2.2) t) A) ([.ref (ad 0), .int a0, .int a1] : List Value).toArray s 0 0 A) (F0 m 123 ls []) := by
  obtain ⟨hx, hb, hr, hml, hts, hown, hlocks, hA, hK⟩ := id C
  intro x1 x2 x3 x5 x6 x7 I J B D ls H locs hok hl hw
  unfold wc_LassoFinderModel_nearest_123 at hok
  refine lv_iload hx hb zd_LassoFinderModel_nearest_123 (lv_at hl 6 rfl) ?_
  refine lv_iconst (v := 1) hx hb zd_LassoFinderModel_nearest_125 (by decide) ?_
  refine lv_iadd hx hb zd_LassoFinderModel_nearest_126 ?_
  refine lv_topi (fun z2 ez2 => ?_)
  have hok := hok z2 ez2
  refine lv_istore hx hb zd_LassoFinderModel_nearest_127 hl (by decide) rfl (fun ls hl => ?_)
  have hl : lv_has ls 8 [(4, .int z2), (0, .ref (ad 0)), (1, .int x1), (2, .int x2), (3, .int x3), (5, .int x5), (6, .int x6), (7, .int x7)] := hl
  exact wJ_LassoFinderModel_nearest_129 G K ad a0 a1 Post C K24 kh24 K40 kh40 x1 x2 x3 z2 x5 x6 I J B D ls H locs hok (lv_sub hl [1, 2, 3, 4, 0, 5, 6] rfl) hw
set_option maxHeartbeats 8000000 in
set_option maxRecDepth 100000 in
theorem wJ_LassoFinderModel_nearest_102 {p : Program} {l : Launch} {e : Env} {s : State} {m : MethodId} {below : List Frame} {meth : Method} {c : Code} {A : Nat → Prop} (G : va_G) (K : Nat → ClassId) (ad : Nat → Nat) (a0 : Int32) (a1 : Int32) (Post : Int32 → (Nat → Int32) → (Nat → Int64) → (Nat → Nat → Int32) → (Nat → Nat → Int64) → Prop) (C : zCx p s m ([.ref (ad 0), .int a0, .int a1] : List Value).toArray meth c A G K prog_14_method_57_code (some .int) 8 "LassoFinderModel") (K24 : Int32 → Int32 → Int32 → Int32 → Int32 → (Nat → Int32) → (Nat → Int64) → (Nat → Nat → Int32) → (Nat → Nat → Int64) → Prop) (kh24 : ∀ (x1 : Int32) (x2 : Int32) (x3 : Int32) (x4 : Int32) (x5 : Int32) (I : Nat → Int32) (J : Nat → Int64) (B : Nat → Nat → Int32) (D : Nat → Nat → Int64) (ls : Array Slot) (H : Heap) (locs : List Loc), K24 x1 x2 x3 x4 x5 I J B D → lv_has ls 8 [(0, .ref (ad 0)), (1, .int x1), (2, .int x2), (3, .int x3), (4, .int x4), (5, .int x5)] → zW G A s.heap (wM ad K I J B D) H locs → W p l e { frames := 3, cells := 0, slots := 0, locals := 85 } s m ([.ref (ad 0), .int a0, .int a1] : List Value).toArray below meth c H locs 0 0 (MQ below (va_Qi (fun (r : Int32) (u : zS) => Post r u.1 u.2.1 u.2.2.1 u.2.2.2) (fun u t => zPost G K A (wM ad K u.1 u.2.1 u.2.2.1 u.2.2.2) t) A) ([.ref (ad 0), .int a0, .int a1] : List Value).toArray s 0 0 A) (F0 m 24 ls [])) (K40 : Int32 → Int32 → Int32 → Int32 → Int32 → Int32 → (Nat → Int32) → (Nat → Int64) → (Nat → Nat → Int32) → (Nat → Nat → Int64) → Prop) (kh40 : ∀ (x1 : Int32) (x2 : Int32) (x3 : Int32) (x4 : Int32) (x5 : Int32) (x6 : Int32) (I : Nat → Int32) (J : Nat → Int64) (B : Nat → Nat → Int32) (D : Nat → Nat → Int64) (ls : Array Slot) (H : Heap) (locs : List Loc), K40 x1 x2 x3 x4 x5 x6 I J B D → lv_has ls 8 [(0, .ref (ad 0)), (1, .int x1), (2, .int x2), (3, .int x3), (4, .int x4), (5, .int x5), (6, .int x6)] → zW G A s.heap (wM ad K I J B D) H locs → W p l e { frames := 3, cells := 0, slots := 0, locals := 85 } s m ([.ref (ad 0), .int a0, .int a1] : List Value).toArray below meth c H locs 0 0 (MQ below (va_Qi (fun (r : Int32) (u : zS) => Post r u.1 u.2.1 u.2.2.1 u.2.2.2) (fun u t => zPost G K A (wM ad K u.1 u.2.1 u.2.2.1 u.2.2.2) t) A) ([.ref (ad 0), .int a0, .int a1] : List Value).toArray s 0 0 A) (F0 m 40 ls [])) : ∀ (x1 : Int32) (x2 : Int32) (x3 : Int32) (x4 : Int32) (x5 : Int32) (x6 : Int32) (y0 : Int32) (I : Nat → Int32) (J : Nat → Int64) (B : Nat → Nat → Int32) (D : Nat → Nat → Int64) (ls : Array Slot) (H : Heap) (locs : List Loc), wc_LassoFinderModel_nearest_102 a0 a1 K24 K40 Post x1 x2 x3 x4 x5 x6 y0 I J B D → lv_has ls 8 [(0, .ref (ad 0)), (1, .int x1), (2, .int x2), (3, .int x3), (4, .int x4), (5, .int x5), (6, .int x6)] → zW G A s.heap (wM ad K I J B D) H locs → W p l e { frames := 3, cells := 0, slots := 0, locals := 85 } s m ([.ref (ad 0), .int a0, .int a1] : List Value).toArray below meth c H locs 0 0 (MQ below (va_Qi (fun (r : Int32) (u : zS) => Post r u.1 u.2.1 u.2.2.1 u.2.2.2) (fun u t => zPost G K A (wM ad K u.1 u.2.1 u.2.2.1 u.2.2.2) t) A) ([.ref (ad 0), .int a0, .int a1] : List Value).toArray s 0 0 A) (F0 m 102 ls [.int y0]) := by
  obtain ⟨hx, hb, hr, hml, hts, hown, hlocks, hA, hK⟩ := id C
  intro x1 x2 x3 x4 x5 x6 y0 I J B D ls H locs hok hl hw
  unfold wc_LassoFinderModel_nearest_102 at hok
  refine lv_istore hx hb zd_LassoFinderModel_nearest_102 hl (by decide) rfl (fun ls hl => ?_)
  have hl : lv_has ls 8 [(7, .int y0), (0, .ref (ad 0)), (1, .int x1), (2, .int x2), (3, .int x3), (4, .int x4), (5, .int x5), (6, .int x6)] := hl
  refine lv_iload hx hb zd_LassoFinderModel_nearest_104 (lv_at hl 0 rfl) ?_
  refine lv_if_lt (tgt := 129) hx hb zd_LassoFinderModel_nearest_106 (by decide) (fun hc3 => ?_) (fun hc3 => ?_)
  · have hok := hok.1 hc3
    exact wJ_LassoFinderModel_nearest_129 G K ad a0 a1 Post C K24 kh24 K40 kh40 x1 x2 x3 x4 x5 x6 I J B D ls H locs hok (lv_sub hl [1, 2, 3, 4, 5, 6, 7] rfl) hw
  · have hok := hok.2 hc3
    refine lv_iload hx hb zd_LassoFinderModel_nearest_109 (lv_at hl 5 rfl) ?_
    refine lv_if_eq (tgt := 123) hx hb zd_LassoFinderModel_nearest_111 (by decide) (fun hc4 => ?_) (fun hc4 => ?_)
    · have hok := hok.1 hc4
      exact wJ_LassoFinderModel_nearest_123 G K ad a0 a1 Post C K24 kh24 K40 kh40 x1 x2 x3 x5 x6 y0 I J B D ls H locs hok (lv_sub hl [1, 2, 3, 4, 6, 7, 0] rfl) hw
    · have hok := hok.2 hc4
      refine lv_iload hx hb zd_LassoFinderModel_nearest_114 (lv_at hl 0 rfl) ?_
      refine lv_iconst (v := 1) hx hb zd_LassoFinderModel_nearest_116 (by decide) ?_
      refine lv_iadd hx hb zd_LassoFinderModel_nearest_117 ?_
      refine lv_topi (fun z5 ez5 => ?_)
      have hok := hok z5 ez5
      refine lv_iload hx hb zd_LassoFinderModel_nearest_118 (lv_at hl 5 rfl) ?_
      refine lv_icmp_ge (tgt := 129) hx hb zd_LassoFinderModel_nearest_120 (by decide) (fun hc6 => ?_) (fun hc6 => ?_)
      · have hok := hok.1 hc6
        exact wJ_LassoFinderModel_nearest_129 G K ad a0 a1 Post C K24 kh24 K40 kh40 x1 x2 x3 x4 x5 x6 I J B D ls H locs hok (lv_sub hl [1, 2, 3, 4, 5, 6, 7] rfl) hw
      · have hok := hok.2 hc6
        exact wJ_LassoFinderModel_nearest_123 G K ad a0 a1 Post C K24 kh24 K40 kh40 x1 x2 x3 x5 x6 y0 I J B D ls H locs hok (lv_sub hl [1, 2, 3, 4, 6, 7, 0] rfl) hw
set_option maxHeartbeats 8000000 in
set_option maxRecDepth 100000 in
theorem wB_LassoFinderModel_nearest_40 {p : Program} {l : Launch} {e : Env} {s : State} {m : MethodId} {below : List Frame} {meth : Method} {c : Code} {A : Nat → Prop} (G : va_G) (K : Nat → ClassId) (ad : Nat → Nat) (a0 : Int32) (a1 : Int32) (Post : Int32 → (Nat → Int32) → (Nat → Int64) → (Nat → Nat → Int32) → (Nat → Nat → Int64) → Prop) (C : zCx p s m ([.ref (ad 0), .int a0, .int a1] : List Value).toArray meth c A G K prog_14_method_57_code (some .int) 8 "LassoFinderModel") (K24 : Int32 → Int32 → Int32 → Int32 → Int32 → (Nat → Int32) → (Nat → Int64) → (Nat → Nat → Int32) → (Nat → Nat → Int64) → Prop) (kh24 : ∀ (x1 : Int32) (x2 : Int32) (x3 : Int32) (x4 : Int32) (x5 : Int32) (I : Nat → Int32) (J : Nat → Int64) (B : Nat → Nat → Int32) (D : Nat → Nat → Int64) (ls : Array Slot) (H : Heap) (locs : List Loc), K24 x1 x2 x3 x4 x5 I J B D → lv_has ls 8 [(0, .ref (ad 0)), (1, .int x1), (2, .int x2), (3, .int x3), (4, .int x4), (5, .int x5)] → zW G A s.heap (wM ad K I J B D) H locs → W p l e { frames := 3, cells := 0, slots := 0, locals := 85 } s m ([.ref (ad 0), .int a0, .int a1] : List Value).toArray below meth c H locs 0 0 (MQ below (va_Qi (fun (r : Int32) (u : zS) => Post r u.1 u.2.1 u.2.2.1 u.2.2.2) (fun u t => zPost G K A (wM ad K u.1 u.2.1 u.2.2.1 u.2.2.2) t) A) ([.ref (ad 0), .int a0, .int a1] : List Value).toArray s 0 0 A) (F0 m 24 ls [])) (K40 : Int32 → Int32 → Int32 → Int32 → Int32 → Int32 → (Nat → Int32) → (Nat → Int64) → (Nat → Nat → Int32) → (Nat → Nat → Int64) → Prop) (kh40 : ∀ (x1 : Int32) (x2 : Int32) (x3 : Int32) (x4 : Int32) (x5 : Int32) (x6 : Int32) (I : Nat → Int32) (J : Nat → Int64) (B : Nat → Nat → Int32) (D : Nat → Nat → Int64) (ls : Array Slot) (H : Heap) (locs : List Loc), K40 x1 x2 x3 x4 x5 x6 I J B D → lv_has ls 8 [(0, .ref (ad 0)), (1, .int x1), (2, .int x2), (3, .int x3), (4, .int x4), (5, .int x5), (6, .int x6)] → zW G A s.heap (wM ad K I J B D) H locs → W p l e { frames := 3, cells := 0, slots := 0, locals := 85 } s m ([.ref (ad 0), .int a0, .int a1] : List Value).toArray below meth c H locs 0 0 (MQ below (va_Qi (fun (r : Int32) (u : zS) => Post r u.1 u.2.1 u.2.2.1 u.2.2.2) (fun u t => zPost G K A (wM ad K u.1 u.2.1 u.2.2.1 u.2.2.2) t) A) ([.ref (ad 0), .int a0, .int a1] : List Value).toArray s 0 0 A) (F0 m 40 ls [])) : ∀ (x1 : Int32) (x2 : Int32) (x3 : Int32) (x4 : Int32) (x5 : Int32) (x6 : Int32) (I : Nat → Int32) (J : Nat → Int64) (B : Nat → Nat → Int32) (D : Nat → Nat → Int64) (ls : Array Slot) (H : Heap) (locs : List Loc), wb_LassoFinderModel_nearest_40 a0 a1 K40 K24 Post x1 x2 x3 x4 x5 x6 I J B D → lv_has ls 8 [(0, .ref (ad 0)), (1, .int x1), (2, .int x2), (3, .int x3), (4, .int x4), (5, .int x5), (6, .int x6)] → zW G A s.heap (wM ad K I J B D) H locs → W p l e { frames := 3, cells := 0, slots := 0, locals := 85 } s m ([.ref (ad 0), .int a0, .int a1] : List Value).toArray below meth c H locs 0 0 (MQ below (va_Qi (fun (r : Int32) (u : zS) => Post r u.1 u.2.1 u.2.2.1 u.2.2.2) (fun u t => zPost G K A (wM ad K u.1 u.2.1 u.2.2.1 u.2.2.2) t) A) ([.ref (ad 0), .int a0, .int a1] : List Value).toArray s 0 0 A) (F0 m 40 ls []) := by
  obtain ⟨hx, hb, hr, hml, hts, hown, hlocks, hA, hK⟩ := id C
  intro x1 x2 x3 x4 x5 x6 I J B D ls H locs hok hl hw
  unfold wb_LassoFinderModel_nearest_40 at hok
  refine lv_iload hx hb zd_LassoFinderModel_nearest_40 (lv_at hl 6 rfl) ?_
  refine lv_iconst (v := 1) hx hb zd_LassoFinderModel_nearest_42 (by decide) ?_
  refine lv_aload_n hx hb zd_LassoFinderModel_nearest_43 rfl (lv_at hl 0 rfl) ?_
  refine z_get (v := .int (I 20)) hx hb hts hown hK hw zZ12 0 wM_g0 64 (by decide) zm_356 rfl zd_LassoFinderModel_nearest_44 ?_
  refine lv_ishl hx hb zd_LassoFinderModel_nearest_47 ?_
  refine lv_topi (fun z7 ez7 => ?_)
  have hok := hok z7 ez7
  refine lv_icmp_ge (tgt := 135) hx hb zd_LassoFinderModel_nearest_48 (by decide) (fun hc8 => ?_) (fun hc8 => ?_)
  · have hok := hok.1 hc8
    obtain ⟨z9, ez9⟩ : ∃ z : Int32, z = (x5 + 1) := ⟨_, rfl⟩
    have hok := hok z9 ez9
    refine lv_iinc (v := z9) hx hb zd_LassoFinderModel_nearest_135 hl (k := 5) rfl ez9.symm (by decide) rfl (fun ls hl => ?_)
    have hl : lv_has ls 8 [(5, .int z9), (0, .ref (ad 0)), (1, .int x1), (2, .int x2), (3, .int x3), (4, .int x4), (6, .int x6)] := hl
    refine lv_goto (tgt := 24) hx hb zd_LassoFinderModel_nearest_138 (by decide) ?_
    exact kh24 x1 x2 x3 x4 z9 I J B D ls H locs hok (lv_sub hl [1, 2, 3, 4, 5, 0] rfl) hw
  · have hok := hok.2 hc8
    refine lv_aload_n hx hb zd_LassoFinderModel_nearest_51 rfl (lv_at hl 0 rfl) ?_
    refine lv_iload_n hx hb zd_LassoFinderModel_nearest_52 rfl (lv_at hl 1 rfl) ?_
    refine lv_iload hx hb zd_LassoFinderModel_nearest_53 (lv_at hl 6 rfl) ?_
    refine z_calli (w1 := fun (u : zS) => wM ad K u.1 u.2.1 u.2.2.1 u.2.2.2) (wr := []) (z_runV (q0 := 0) (wc := (wM ad K I J B D)) (As := [.int x1, .int x6]) (rest := []) ⟨hx, hb, hml, hown, hts⟩ (w_LassoFinderModel_truthAt l G K ad I J B D x1 x6 _ H.size hok) zf_LassoFinderModel_truthAt zm_375 ⟨Nat.le_of_ble_eq_true rfl, Nat.le_of_ble_eq_true rfl⟩ hK hw (List.range 58) wM_all wM_nd wM_g0 rfl rfl hl.1 rfl (Nat.le_of_ble_eq_true rfl) zd_LassoFinderModel_nearest_55 ⟨Nat.le_of_ble_eq_true rfl, Nat.le_of_ble_eq_true rfl⟩) hw hA (List.range 58) [] wM_all rfl (by decide) (fun i hi => by cases hi) (fun r10 u H locs hok hw => ?_)
    obtain ⟨I10, J10, B10, D10⟩ := u
    dsimp only at hok
    have hw : zW G A s.heap (wM ad K I10 J10 B10 D10) H locs := hw
    refine lv_iload_n hx hb zd_LassoFinderModel_nearest_58 rfl (lv_at hl 2 rfl) ?_
    refine lv_icmp_eq (tgt := 66) hx hb zd_LassoFinderModel_nearest_59 (by decide) (fun hc11 => ?_) (fun hc11 => ?_)
    · have hok := hok.1 hc11
      refine lv_aload_n hx hb zd_LassoFinderModel_nearest_66 rfl (lv_at hl 0 rfl) ?_
      refine lv_bipush (v := 64) hx hb zd_LassoFinderModel_nearest_67 (by decide) ?_
      refine lv_aload_n hx hb zd_LassoFinderModel_nearest_69 rfl (lv_at hl 0 rfl) ?_
      refine z_get (v := .ref (ad 33)) hx hb hts hown hK hw zZ12 0 wM_g0 49 (by decide) zm_267 rfl zd_LassoFinderModel_nearest_70 ?_
      refine lv_iload hx hb zd_LassoFinderModel_nearest_73 (lv_at hl 5 rfl) ?_
      refine va_iald (f := (B10 30)) hx hb hK hw.1 33 0 wM_a33 rfl hok.1 zd_LassoFinderModel_nearest_75 ?_
      have hok := hok.2
      refine lv_topi (fun z12 ez12 => ?_)
      have hok := hok z12 ez12
      refine lv_imul hx hb zd_LassoFinderModel_nearest_76 ?_
      refine lv_topi (fun z13 ez13 => ?_)
      have hok := hok z13 ez13
      refine lv_bipush (v := 8) hx hb zd_LassoFinderModel_nearest_77 (by decide) ?_
      refine lv_iload hx hb zd_LassoFinderModel_nearest_79 (lv_at hl 6 rfl) ?_
      refine lv_imul hx hb zd_LassoFinderModel_nearest_81 ?_
      refine lv_topi (fun z14 ez14 => ?_)
      have hok := hok z14 ez14
      refine lv_iadd hx hb zd_LassoFinderModel_nearest_82 ?_
      refine lv_topi (fun z15 ez15 => ?_)
      have hok := hok z15 ez15
      refine lv_iload_n hx hb zd_LassoFinderModel_nearest_83 rfl (lv_at hl 3 rfl) ?_
      refine lv_aload_n hx hb zd_LassoFinderModel_nearest_84 rfl (lv_at hl 0 rfl) ?_
      refine lv_aload_n hx hb zd_LassoFinderModel_nearest_85 rfl (lv_at hl 0 rfl) ?_
      refine z_get (v := .ref (ad 33)) hx hb hts hown hK hw zZ12 0 wM_g0 49 (by decide) zm_267 rfl zd_LassoFinderModel_nearest_86 ?_
      refine lv_iload hx hb zd_LassoFinderModel_nearest_89 (lv_at hl 5 rfl) ?_
      refine va_iald (f := (B10 30)) hx hb hK hw.1 33 0 wM_a33 rfl hok.1 zd_LassoFinderModel_nearest_91 ?_
      have hok := hok.2
      refine lv_topi (fun z16 ez16 => ?_)
      have hok := hok z16 ez16
      refine lv_iload hx hb zd_LassoFinderModel_nearest_92 (lv_at hl 6 rfl) ?_
      refine z_calli (w1 := fun (u : zS) => wM ad K u.1 u.2.1 u.2.2.1 u.2.2.2) (wr := []) (z_runV (q0 := 0) (wc := (wM ad K I10 J10 B10 D10)) (As := [.int z16, .int x6]) (rest := [.int x3, .int z15, .ref (ad 0)]) ⟨hx, hb, hml, hown, hts⟩ (w_LassoFinderModel_settled l G K ad I10 J10 B10 D10 z16 x6 _ H.size hok) zf_LassoFinderModel_settled zm_373 ⟨Nat.le_of_ble_eq_true rfl, Nat.le_of_ble_eq_true rfl⟩ hK hw (List.range 58) wM_all wM_nd wM_g0 rfl rfl hl.1 rfl (Nat.le_of_ble_eq_true rfl) zd_LassoFinderModel_nearest_94 ⟨Nat.le_of_ble_eq_true rfl, Nat.le_of_ble_eq_true rfl⟩) hw hA (List.range 58) [] wM_all rfl (by decide) (fun i hi => by cases hi) (fun r17 u H locs hok hw => ?_)
      obtain ⟨I17, J17, B17, D17⟩ := u
      dsimp only at hok
      have hw : zW G A s.heap (wM ad K I17 J17 B17 D17) H locs := hw
      refine lv_ior hx hb zd_LassoFinderModel_nearest_97 ?_
      refine lv_topi (fun z18 ez18 => ?_)
      have hok := hok z18 ez18
      refine lv_iadd hx hb zd_LassoFinderModel_nearest_98 ?_
      refine lv_topi (fun z19 ez19 => ?_)
      have hok := hok z19 ez19
      refine z_calli (w1 := fun (u : zS) => wM ad K u.1 u.2.1 u.2.2.1 u.2.2.2) (wr := []) (z_runV (q0 := 0) (wc := (wM ad K I17 J17 B17 D17)) (As := [.int z19]) (rest := []) ⟨hx, hb, hml, hown, hts⟩ (w_LassoFinderModel_away l G K ad I17 J17 B17 D17 z19 _ H.size hok) zf_LassoFinderModel_away zm_376 ⟨Nat.le_of_ble_eq_true rfl, Nat.le_of_ble_eq_true rfl⟩ hK hw (List.range 58) wM_all wM_nd wM_g0 rfl rfl hl.1 rfl (Nat.le_of_ble_eq_true rfl) zd_LassoFinderModel_nearest_99 ⟨Nat.le_of_ble_eq_true rfl, Nat.le_of_ble_eq_true rfl⟩) hw hA (List.range 58) [] wM_all rfl (by decide) (fun i hi => by cases hi) (fun r20 u H locs hok hw => ?_)
      obtain ⟨I20, J20, B20, D20⟩ := u
      dsimp only at hok
      have hw : zW G A s.heap (wM ad K I20 J20 B20 D20) H locs := hw
      exact wJ_LassoFinderModel_nearest_102 G K ad a0 a1 Post C K24 kh24 K40 kh40 x1 x2 x3 x4 x5 x6 r20 I20 J20 B20 D20 ls H locs hok (lv_sub hl [0, 1, 2, 3, 4, 5, 6] rfl) hw
    · have hok := hok.2 hc11
      refine lv_iconst (v := (-1)) hx hb zd_LassoFinderModel_nearest_62 (by decide) ?_
      refine lv_goto (tgt := 102) hx hb zd_LassoFinderModel_nearest_63 (by decide) ?_
      exact wJ_LassoFinderModel_nearest_102 G K ad a0 a1 Post C K24 kh24 K40 kh40 x1 x2 x3 x4 x5 x6 (-1) I10 J10 B10 D10 ls H locs hok (lv_sub hl [0, 1, 2, 3, 4, 5, 6] rfl) hw
theorem wL_LassoFinderModel_nearest_40 {p : Program} {l : Launch} {e : Env} {s : State} {m : MethodId} {below : List Frame} {meth : Method} {c : Code} {A : Nat → Prop} (G : va_G) (K : Nat → ClassId) (ad : Nat → Nat) (a0 : Int32) (a1 : Int32) (Post : Int32 → (Nat → Int32) → (Nat → Int64) → (Nat → Nat → Int32) → (Nat → Nat → Int64) → Prop) (C : zCx p s m ([.ref (ad 0), .int a0, .int a1] : List Value).toArray meth c A G K prog_14_method_57_code (some .int) 8 "LassoFinderModel") (K24 : Int32 → Int32 → Int32 → Int32 → Int32 → (Nat → Int32) → (Nat → Int64) → (Nat → Nat → Int32) → (Nat → Nat → Int64) → Prop) (kh24 : ∀ (x1 : Int32) (x2 : Int32) (x3 : Int32) (x4 : Int32) (x5 : Int32) (I : Nat → Int32) (J : Nat → Int64) (B : Nat → Nat → Int32) (D : Nat → Nat → Int64) (ls : Array Slot) (H : Heap) (locs : List Loc), K24 x1 x2 x3 x4 x5 I J B D → lv_has ls 8 [(0, .ref (ad 0)), (1, .int x1), (2, .int x2), (3, .int x3), (4, .int x4), (5, .int x5)] → zW G A s.heap (wM ad K I J B D) H locs → W p l e { frames := 3, cells := 0, slots := 0, locals := 85 } s m ([.ref (ad 0), .int a0, .int a1] : List Value).toArray below meth c H locs 0 0 (MQ below (va_Qi (fun (r : Int32) (u : zS) => Post r u.1 u.2.1 u.2.2.1 u.2.2.2) (fun u t => zPost G K A (wM ad K u.1 u.2.1 u.2.2.1 u.2.2.2) t) A) ([.ref (ad 0), .int a0, .int a1] : List Value).toArray s 0 0 A) (F0 m 24 ls [])) : ∀ (n : Nat) (x1 : Int32) (x2 : Int32) (x3 : Int32) (x4 : Int32) (x5 : Int32) (x6 : Int32) (I : Nat → Int32) (J : Nat → Int64) (B : Nat → Nat → Int32) (D : Nat → Nat → Int64) (ls : Array Slot) (H : Heap) (locs : List Loc), wl_LassoFinderModel_nearest_40 a0 a1 K24 Post n x1 x2 x3 x4 x5 x6 I J B D → lv_has ls 8 [(0, .ref (ad 0)), (1, .int x1), (2, .int x2), (3, .int x3), (4, .int x4), (5, .int x5), (6, .int x6)] → zW G A s.heap (wM ad K I J B D) H locs → W p l e { frames := 3, cells := 0, slots := 0, locals := 85 } s m ([.ref (ad 0), .int a0, .int a1] : List Value).toArray below meth c H locs 0 0 (MQ below (va_Qi (fun (r : Int32) (u : zS) => Post r u.1 u.2.1 u.2.2.1 u.2.2.2) (fun u t => zPost G K A (wM ad K u.1 u.2.1 u.2.2.1 u.2.2.2) t) A) ([.ref (ad 0), .int a0, .int a1] : List Value).toArray s 0 0 A) (F0 m 40 ls []) := by
  intro n
  induction n with
  | zero => intro x1 x2 x3 x4 x5 x6 I J B D ls H locs hok; exact hok.elim
  | succ n ih => exact wB_LassoFinderModel_nearest_40 G K ad a0 a1 Post C K24 kh24 (wl_LassoFinderModel_nearest_40 a0 a1 K24 Post n) ih
set_option maxHeartbeats 8000000 in
set_option maxRecDepth 100000 in
theorem wB_LassoFinderModel_nearest_24 {p : Program} {l : Launch} {e : Env} {s : State} {m : MethodId} {below : List Frame} {meth : Method} {c : Code} {A : Nat → Prop} (G : va_G) (K : Nat → ClassId) (ad : Nat → Nat) (a0 : Int32) (a1 : Int32) (Post : Int32 → (Nat → Int32) → (Nat → Int64) → (Nat → Nat → Int32) → (Nat → Nat → Int64) → Prop) (C : zCx p s m ([.ref (ad 0), .int a0, .int a1] : List Value).toArray meth c A G K prog_14_method_57_code (some .int) 8 "LassoFinderModel") (K24 : Int32 → Int32 → Int32 → Int32 → Int32 → (Nat → Int32) → (Nat → Int64) → (Nat → Nat → Int32) → (Nat → Nat → Int64) → Prop) (kh24 : ∀ (x1 : Int32) (x2 : Int32) (x3 : Int32) (x4 : Int32) (x5 : Int32) (I : Nat → Int32) (J : Nat → Int64) (B : Nat → Nat → Int32) (D : Nat → Nat → Int64) (ls : Array Slot) (H : Heap) (locs : List Loc), K24 x1 x2 x3 x4 x5 I J B D → lv_has ls 8 [(0, .ref (ad 0)), (1, .int x1), (2, .int x2), (3, .int x3), (4, .int x4), (5, .int x5)] → zW G A s.heap (wM ad K I J B D) H locs → W p l e { frames := 3, cells := 0, slots := 0, locals := 85 } s m ([.ref (ad 0), .int a0, .int a1] : List Value).toArray below meth c H locs 0 0 (MQ below (va_Qi (fun (r : Int32) (u : zS) => Post r u.1 u.2.1 u.2.2.1 u.2.2.2) (fun u t => zPost G K A (wM ad K u.1 u.2.1 u.2.2.1 u.2.2.2) t) A) ([.ref (ad 0), .int a0, .int a1] : List Value).toArray s 0 0 A) (F0 m 24 ls [])) : ∀ (x1 : Int32) (x2 : Int32) (x3 : Int32) (x4 : Int32) (x5 : Int32) (I : Nat → Int32) (J : Nat → Int64) (B : Nat → Nat → Int32) (D : Nat → Nat → Int64) (ls : Array Slot) (H : Heap) (locs : List Loc), wb_LassoFinderModel_nearest_24 a0 a1 K24 Post x1 x2 x3 x4 x5 I J B D → lv_has ls 8 [(0, .ref (ad 0)), (1, .int x1), (2, .int x2), (3, .int x3), (4, .int x4), (5, .int x5)] → zW G A s.heap (wM ad K I J B D) H locs → W p l e { frames := 3, cells := 0, slots := 0, locals := 85 } s m ([.ref (ad 0), .int a0, .int a1] : List Value).toArray below meth c H locs 0 0 (MQ below (va_Qi (fun (r : Int32) (u : zS) => Post r u.1 u.2.1 u.2.2.1 u.2.2.2) (fun u t => zPost G K A (wM ad K u.1 u.2.1 u.2.2.1 u.2.2.2) t) A) ([.ref (ad 0), .int a0, .int a1] : List Value).toArray s 0 0 A) (F0 m 24 ls []) := by
  obtain ⟨hx, hb, hr, hml, hts, hown, hlocks, hA, hK⟩ := id C
  intro x1 x2 x3 x4 x5 I J B D ls H locs hok hl hw
  unfold wb_LassoFinderModel_nearest_24 at hok
  refine lv_iload hx hb zd_LassoFinderModel_nearest_24 (lv_at hl 5 rfl) ?_
  refine lv_aload_n hx hb zd_LassoFinderModel_nearest_26 rfl (lv_at hl 0 rfl) ?_
  refine z_get (v := .ref (ad 32)) hx hb hts hown hK hw zZ12 0 wM_g0 48 (by decide) zm_266 rfl zd_LassoFinderModel_nearest_27 ?_
  refine lv_iload_n hx hb zd_LassoFinderModel_nearest_30 rfl (lv_at hl 1 rfl) ?_
  refine lv_iconst (v := 1) hx hb zd_LassoFinderModel_nearest_31 (by decide) ?_
  refine lv_iadd hx hb zd_LassoFinderModel_nearest_32 ?_
  refine lv_topi (fun z21 ez21 => ?_)
  have hok := hok z21 ez21
  refine va_iald (f := (B 29)) hx hb hK hw.1 32 0 wM_a32 rfl hok.1 zd_LassoFinderModel_nearest_33 ?_
  have hok := hok.2
  refine lv_topi (fun z22 ez22 => ?_)
  have hok := hok z22 ez22
  refine lv_icmp_ge (tgt := 141) hx hb zd_LassoFinderModel_nearest_34 (by decide) (fun hc23 => ?_) (fun hc23 => ?_)
  · have hok := hok.1 hc23
    refine lv_iload hx hb zd_LassoFinderModel_nearest_141 (lv_at hl 4 rfl) ?_
    exact (z_iret (u := (I, J, B, D)) hx hb hr hlocks rfl hw (List.range 58) wM_all wM_nd hok (Nat.le_of_ble_eq_true rfl) (Nat.le_of_ble_eq_true rfl) zd_LassoFinderModel_nearest_143)
  · have hok := hok.2 hc23
    refine lv_iconst (v := 0) hx hb zd_LassoFinderModel_nearest_37 (by decide) ?_
    refine lv_istore hx hb zd_LassoFinderModel_nearest_38 hl (by decide) rfl (fun ls hl => ?_)
    have hl : lv_has ls 8 [(6, .int 0), (0, .ref (ad 0)), (1, .int x1), (2, .int x2), (3, .int x3), (4, .int x4), (5, .int x5)] := hl
    obtain ⟨n9, hok⟩ := hok
    exact wL_LassoFinderModel_nearest_40 G K ad a0 a1 Post C K24 kh24 n9 x1 x2 x3 x4 x5 0 I J B D ls H locs hok (lv_sub hl [1, 2, 3, 4, 5, 6, 0] rfl) hw
theorem wL_LassoFinderModel_nearest_24 {p : Program} {l : Launch} {e : Env} {s : State} {m : MethodId} {below : List Frame} {meth : Method} {c : Code} {A : Nat → Prop} (G : va_G) (K : Nat → ClassId) (ad : Nat → Nat) (a0 : Int32) (a1 : Int32) (Post : Int32 → (Nat → Int32) → (Nat → Int64) → (Nat → Nat → Int32) → (Nat → Nat → Int64) → Prop) (C : zCx p s m ([.ref (ad 0), .int a0, .int a1] : List Value).toArray meth c A G K prog_14_method_57_code (some .int) 8 "LassoFinderModel") : ∀ (n : Nat) (x1 : Int32) (x2 : Int32) (x3 : Int32) (x4 : Int32) (x5 : Int32) (I : Nat → Int32) (J : Nat → Int64) (B : Nat → Nat → Int32) (D : Nat → Nat → Int64) (ls : Array Slot) (H : Heap) (locs : List Loc), wl_LassoFinderModel_nearest_24 a0 a1 Post n x1 x2 x3 x4 x5 I J B D → lv_has ls 8 [(0, .ref (ad 0)), (1, .int x1), (2, .int x2), (3, .int x3), (4, .int x4), (5, .int x5)] → zW G A s.heap (wM ad K I J B D) H locs → W p l e { frames := 3, cells := 0, slots := 0, locals := 85 } s m ([.ref (ad 0), .int a0, .int a1] : List Value).toArray below meth c H locs 0 0 (MQ below (va_Qi (fun (r : Int32) (u : zS) => Post r u.1 u.2.1 u.2.2.1 u.2.2.2) (fun u t => zPost G K A (wM ad K u.1 u.2.1 u.2.2.1 u.2.2.2) t) A) ([.ref (ad 0), .int a0, .int a1] : List Value).toArray s 0 0 A) (F0 m 24 ls []) := by
  intro n
  induction n with
  | zero => intro x1 x2 x3 x4 x5 I J B D ls H locs hok; exact hok.elim
  | succ n ih => exact wB_LassoFinderModel_nearest_24 G K ad a0 a1 Post C (wl_LassoFinderModel_nearest_24 a0 a1 Post n) ih
set_option maxHeartbeats 8000000 in
set_option maxRecDepth 100000 in
theorem w_LassoFinderModel_nearest (l : Launch) (G : va_G) (K : Nat → ClassId) (ad : Nat → Nat) (I : Nat → Int32) (J : Nat → Int64) (B : Nat → Nat → Int32) (D : Nat → Nat → Int64) (a0 : Int32) (a1 : Int32) (Post : Int32 → (Nat → Int32) → (Nat → Int64) → (Nat → Nat → Int32) → (Nat → Nat → Int64) → Prop) (sz : Nat) (hok : wp_LassoFinderModel_nearest I J B D a0 a1 Post) : Met l zy_LassoFinderModel_nearest (Cond.code zy_LassoFinderModel_nearest prog_14_method_57_code 8 (some .int) :: zTB) { frames := 3, cells := 0, slots := 0, locals := 85 } (va_Pc [.ref (ad 0), .int a0, .int a1] (zPre G K (wM ad K I J B D) sz)) (va_Qi (fun (r : Int32) (u : zS) => Post r u.1 u.2.1 u.2.2.1 u.2.2.2) (fun u t => zPost G K (va_A (wM ad K I J B D) sz) (wM ad K u.1 u.2.1 u.2.2.1 u.2.2.2) t) (va_A (wM ad K I J B D) sz)) 0 0 (va_A (wM ad K I J B D) sz) := by
  refine zMet (y := zy_LassoFinderModel_nearest) (av := [.ref (ad 0), .int a0, .int a1]) (maxL := 8) (cc := prog_14_method_57_code) (ret := (some .int)) (W0 := (wM ad K I J B D)) (sz := sz) (G := G) (K := K) (wt := zTB) (mc := 0) (ms := 0) (Qf := fun A => va_Qi (fun (r : Int32) (u : zS) => Post r u.1 u.2.1 u.2.2.1 u.2.2.2) (fun u t => zPost G K A (wM ad K u.1 u.2.1 u.2.2.1 u.2.2.2) t) A) (by decide) (Nat.le_of_ble_eq_true rfl) ?_
  intro p e s m below meth c ls A hx hb hr hml hts hown hlocks hin hA hK H locs hw hsz hl
  clear hsz
  have hown : s.vm.findClass "LassoFinderModel" = some m.cls := hown
  have C : zCx p s m ([.ref (ad 0), .int a0, .int a1] : List Value).toArray meth c A G K prog_14_method_57_code (some .int) 8 "LassoFinderModel" := ⟨hx, hb, hr, hml, hts, hown, hlocks, hA, hK⟩
  have hl : lv_has ls 8 [(0, .ref (ad 0)), (1, .int a0), (2, .int a1)] := hl
  have hw : zW G A s.heap (wM ad K I J B D) H locs := hw
  unfold wp_LassoFinderModel_nearest at hok
  refine lv_aload_n hx hb zd_LassoFinderModel_nearest_0 rfl (lv_at hl 0 rfl) ?_
  refine lv_iload_n hx hb zd_LassoFinderModel_nearest_1 rfl (lv_at hl 1 rfl) ?_
  refine lv_iload_n hx hb zd_LassoFinderModel_nearest_2 rfl (lv_at hl 2 rfl) ?_
  refine z_callv (w1 := fun (u : zS) => wM ad K u.1 u.2.1 u.2.2.1 u.2.2.2) (wr := []) (z_runV (q0 := 0) (wc := (wM ad K I J B D)) (As := [.int a0, .int a1]) (rest := []) ⟨hx, hb, hml, hown, hts⟩ (w_LassoFinderModel_measure l G K ad I J B D a0 a1 _ H.size hok) zf_LassoFinderModel_measure zm_378 ⟨Nat.le_of_ble_eq_true rfl, Nat.le_of_ble_eq_true rfl⟩ hK hw (List.range 58) wM_all wM_nd wM_g0 rfl rfl hl.1 rfl (Nat.le_of_ble_eq_true rfl) zd_LassoFinderModel_nearest_3 ⟨Nat.le_of_ble_eq_true rfl, Nat.le_of_ble_eq_true rfl⟩) hw hA (List.range 58) [] wM_all rfl (by decide) (fun i hi => by cases hi) (fun u H locs hok hw => ?_)
  obtain ⟨I24, J24, B24, D24⟩ := u
  dsimp only at hok
  have hw : zW G A s.heap (wM ad K I24 J24 B24 D24) H locs := hw
  refine lv_aload_n hx hb zd_LassoFinderModel_nearest_6 rfl (lv_at hl 0 rfl) ?_
  refine lv_iload_n hx hb zd_LassoFinderModel_nearest_7 rfl (lv_at hl 1 rfl) ?_
  refine lv_iload_n hx hb zd_LassoFinderModel_nearest_8 rfl (lv_at hl 2 rfl) ?_
  refine z_calli (w1 := fun (u : zS) => wM ad K u.1 u.2.1 u.2.2.1 u.2.2.2) (wr := []) (z_runV (q0 := 0) (wc := (wM ad K I24 J24 B24 D24)) (As := [.int a0, .int a1]) (rest := []) ⟨hx, hb, hml, hown, hts⟩ (w_LassoFinderModel_settled l G K ad I24 J24 B24 D24 a0 a1 _ H.size hok) zf_LassoFinderModel_settled zm_373 ⟨Nat.le_of_ble_eq_true rfl, Nat.le_of_ble_eq_true rfl⟩ hK hw (List.range 58) wM_all wM_nd wM_g0 rfl rfl hl.1 rfl (Nat.le_of_ble_eq_true rfl) zd_LassoFinderModel_nearest_9 ⟨Nat.le_of_ble_eq_true rfl, Nat.le_of_ble_eq_true rfl⟩) hw hA (List.range 58) [] wM_all rfl (by decide) (fun i hi => by cases hi) (fun r25 u H locs hok hw => ?_)
  obtain ⟨I25, J25, B25, D25⟩ := u
  dsimp only at hok
  have hw : zW G A s.heap (wM ad K I25 J25 B25 D25) H locs := hw
  refine lv_istore_n hx hb zd_LassoFinderModel_nearest_12 rfl hl (by decide) rfl (fun ls hl => ?_)
  have hl : lv_has ls 8 [(3, .int r25), (0, .ref (ad 0)), (1, .int a0), (2, .int a1)] := hl
  refine lv_iconst (v := 0) hx hb zd_LassoFinderModel_nearest_13 (by decide) ?_
  refine lv_istore hx hb zd_LassoFinderModel_nearest_14 hl (by decide) rfl (fun ls hl => ?_)
  have hl : lv_has ls 8 [(4, .int 0), (3, .int r25), (0, .ref (ad 0)), (1, .int a0), (2, .int a1)] := hl
  refine lv_aload_n hx hb zd_LassoFinderModel_nearest_16 rfl (lv_at hl 2 rfl) ?_
  refine z_get (v := .ref (ad 32)) hx hb hts hown hK hw zZ12 0 wM_g0 48 (by decide) zm_266 rfl zd_LassoFinderModel_nearest_17 ?_
  refine lv_iload_n hx hb zd_LassoFinderModel_nearest_20 rfl (lv_at hl 3 rfl) ?_
  refine va_iald (f := (B25 29)) hx hb hK hw.1 32 0 wM_a32 rfl hok.1 zd_LassoFinderModel_nearest_21 ?_
  have hok := hok.2
  refine lv_topi (fun z26 ez26 => ?_)
  have hok := hok z26 ez26
  refine lv_istore hx hb zd_LassoFinderModel_nearest_22 hl (by decide) rfl (fun ls hl => ?_)
  have hl : lv_has ls 8 [(5, .int z26), (4, .int 0), (3, .int r25), (0, .ref (ad 0)), (1, .int a0), (2, .int a1)] := hl
  obtain ⟨n9, hok⟩ := hok
  exact wL_LassoFinderModel_nearest_24 G K ad a0 a1 Post C n9 a0 a1 r25 0 z26 I25 J25 B25 D25 ls H locs hok (lv_sub hl [3, 4, 5, 2, 1, 0] rfl) hw
def wc_LassoFinderModel_round_93 (a0 : Int32) (a1 : Int32) (K30 : Int32 → Int32 → Int64 → Int32 → (Nat → Int32) → (Nat → Int64) → (Nat → Nat → Int32) → (Nat → Nat → Int64) → Prop) (Post : Int32 → (Nat → Int32) → (Nat → Int64) → (Nat → Nat → Int32) → (Nat → Nat → Int64) → Prop) (x3 : Int32) (x7 : Int32) (x8 : Int64) (x10 : Int32) (I : Nat → Int32) (J : Nat → Int64) (B : Nat → Nat → Int32) (D : Nat → Nat → Int64) : Prop :=
  ∀ z1 : Int32, z1 = (x3 - 1) → ∀ z2 : Int32, z2 = (z1 - x7) → wp_LassoFinderModel_keep_ad56 I J B D z2 x10 (fun I3 J3 B3 D3 => vp_in x10 401 ∧ ∀ z4 : Int32, z4 = ((B3 30) x10.toNatClampNeg) → ∀ z5 : Int32, z5 = (x7 + (-1)) → K30 x3 z4 x8 z5 I3 J3 B3 D3)
def wb_LassoFinderModel_round_50 (a0 : Int32) (a1 : Int32) (K50 : Int32 → Int32 → Int64 → Int32 → Int64 → Int32 → Int32 → (Nat → Int32) → (Nat → Int64) → (Nat → Nat → Int32) → (Nat → Nat → Int64) → Prop) (K30 : Int32 → Int32 → Int64 → Int32 → (Nat → Int32) → (Nat → Int64) → (Nat → Nat → Int32) → (Nat → Nat → Int64) → Prop) (Post : Int32 → (Nat → Int32) → (Nat → Int64) → (Nat → Nat → Int32) → (Nat → Nat → Int64) → Prop) (x3 : Int32) (x4 : Int32) (x5 : Int64) (x7 : Int32) (x8 : Int64) (x10 : Int32) (x11 : Int32) (I : Nat → Int32) (J : Nat → Int64) (B : Nat → Nat → Int32) (D : Nat → Nat → Int64) : Prop :=
  ∀ z6 : Int32, z6 = (x4 + 1) → vp_in z6 98 ∧ ∀ z7 : Int32, z7 = ((B 29) z6.toNatClampNeg) → ((z7 ≤ x11 → wc_LassoFinderModel_round_93 a0 a1 K30 Post x3 x7 x8 x10 I J B D) ∧ (¬ z7 ≤ x11 → ∀ z9 : Int32, z9 = (lg_cmp x8 0) → ((¬ z9 = 0 → wc_LassoFinderModel_round_93 a0 a1 K30 Post x3 x7 x8 x10 I J B D) ∧ (z9 = 0 → wp_LassoFinderModel_ahead I J B D x11 x5 x7 (fun r11 I11 J11 B11 D11 => ∀ z12 : Int32, z12 = (x11 + 1) → K50 x3 x4 x5 x7 r11 x11 z12 I11 J11 B11 D11)))))
def wl_LassoFinderModel_round_50 (a0 : Int32) (a1 : Int32) (K30 : Int32 → Int32 → Int64 → Int32 → (Nat → Int32) → (Nat → Int64) → (Nat → Nat → Int32) → (Nat → Nat → Int64) → Prop) (Post : Int32 → (Nat → Int32) → (Nat → Int64) → (Nat → Nat → Int32) → (Nat → Nat → Int64) → Prop) (n : Nat) : Int32 → Int32 → Int64 → Int32 → Int64 → Int32 → Int32 → (Nat → Int32) → (Nat → Int64) → (Nat → Nat → Int32) → (Nat → Nat → Int64) → Prop := Nat.rec (fun _ _ _ _ _ _ _ _ _ _ _ => False) (fun _ r => wb_LassoFinderModel_round_50 a0 a1 r K30 Post) n
def wb_LassoFinderModel_round_30 (a0 : Int32) (a1 : Int32) (K30 : Int32 → Int32 → Int64 → Int32 → (Nat → Int32) → (Nat → Int64) → (Nat → Nat → Int32) → (Nat → Nat → Int64) → Prop) (Post : Int32 → (Nat → Int32) → (Nat → Int64) → (Nat → Nat → Int32) → (Nat → Nat → Int64) → Prop) (x3 : Int32) (x4 : Int32) (x5 : Int64) (x7 : Int32) (I : Nat → Int32) (J : Nat → Int64) (B : Nat → Nat → Int32) (D : Nat → Nat → Int64) : Prop :=
  ((x7 < 0 → Post x3 I J B D) ∧ (¬ x7 < 0 → vp_in x4 98 ∧ ∀ z14 : Int32, z14 = ((B 29) x4.toNatClampNeg) → ∃ n : Nat, wl_LassoFinderModel_round_50 a0 a1 K30 Post n x3 x4 x5 x7 0 (-1) z14 I J B D))
def wl_LassoFinderModel_round_30 (a0 : Int32) (a1 : Int32) (Post : Int32 → (Nat → Int32) → (Nat → Int64) → (Nat → Nat → Int32) → (Nat → Nat → Int64) → Prop) (n : Nat) : Int32 → Int32 → Int64 → Int32 → (Nat → Int32) → (Nat → Int64) → (Nat → Nat → Int32) → (Nat → Nat → Int64) → Prop := Nat.rec (fun _ _ _ _ _ _ _ _ => False) (fun _ r => wb_LassoFinderModel_round_30 a0 a1 r Post) n
def wp_LassoFinderModel_round (I : Nat → Int32) (J : Nat → Int64) (B : Nat → Nat → Int32) (D : Nat → Nat → Int64) (a0 : Int32) (a1 : Int32) (Post : Int32 → (Nat → Int32) → (Nat → Int64) → (Nat → Nat → Int32) → (Nat → Nat → Int64) → Prop) : Prop :=
  wp_LassoFinderModel_nearest I J B D a0 a1 (fun r15 I15 J15 B15 D15 => ∀ z16 : Int32, z16 = (8 * a1) → wp_LassoFinderModel_settled I15 J15 B15 D15 a0 a1 (fun r17 I17 J17 B17 D17 => ∀ z18 : Int32, z18 = (z16 + r17) → ∀ z19 : Int64, z19 = ((1 : Int64) <<< (z18.toInt64 &&& 63)) → ∀ z20 : Int32, z20 = (r15 - 1) → ∃ n : Nat, wl_LassoFinderModel_round_30 a0 a1 Post n r15 a0 z19 z20 I17 J17 B17 D17))
set_option maxHeartbeats 8000000 in
set_option maxRecDepth 100000 in
theorem wJ_LassoFinderModel_round_93 {p : Program} {l : Launch} {e : Env} {s : State} {m : MethodId} {below : List Frame} {meth : Method} {c : Code} {A : Nat → Prop} (G : va_G) (K : Nat → ClassId) (ad : Nat → Nat) (a0 : Int32) (a1 : Int32) (Post : Int32 → (Nat → Int32) → (Nat → Int64) → (Nat → Nat → Int32) → (Nat → Nat → Int64) → Prop) (C : zCx p s m ([.ref (ad 0), .int a0, .int a1] : List Value).toArray meth c A G K prog_14_method_64_code (some .int) 12 "LassoFinderModel") (K30 : Int32 → Int32 → Int64 → Int32 → (Nat → Int32) → (Nat → Int64) → (Nat → Nat → Int32) → (Nat → Nat → Int64) → Prop) (kh30 : ∀ (x3 : Int32) (x4 : Int32) (x5 : Int64) (x7 : Int32) (I : Nat → Int32) (J : Nat → Int64) (B : Nat → Nat → Int32) (D : Nat → Nat → Int64) (ls : Array Slot) (H : Heap) (locs : List Loc), K30 x3 x4 x5 x7 I J B D → lv_has ls 12 [(0, .ref (ad 0)), (3, .int x3), (4, .int x4), (5, .long x5), (7, .int x7)] → zW G A s.heap (wM ad K I J B D) H locs → W p l e { frames := 4, cells := 0, slots := 0, locals := 112 } s m ([.ref (ad 0), .int a0, .int a1] : List Value).toArray below meth c H locs 0 0 (MQ below (va_Qi (fun (r : Int32) (u : zS) => Post r u.1 u.2.1 u.2.2.1 u.2.2.2) (fun u t => zPost G K A (wM ad K u.1 u.2.1 u.2.2.1 u.2.2.2) t) A) ([.ref (ad 0), .int a0, .int a1] : List Value).toArray s 0 0 A) (F0 m 30 ls [])) : ∀ (x3 : Int32) (x7 : Int32) (x8 : Int64) (x10 : Int32) (I : Nat → Int32) (J : Nat → Int64) (B : Nat → Nat → Int32) (D : Nat → Nat → Int64) (ls : Array Slot) (H : Heap) (locs : List Loc), wc_LassoFinderModel_round_93 a0 a1 K30 Post x3 x7 x8 x10 I J B D → lv_has ls 12 [(0, .ref (ad 0)), (3, .int x3), (7, .int x7), (8, .long x8), (10, .int x10)] → zW G A s.heap (wM ad K I J B D) H locs → W p l e { frames := 4, cells := 0, slots := 0, locals := 112 } s m ([.ref (ad 0), .int a0, .int a1] : List Value).toArray below meth c H locs 0 0 (MQ below (va_Qi (fun (r : Int32) (u : zS) => Post r u.1 u.2.1 u.2.2.1 u.2.2.2) (fun u t => zPost G K A (wM ad K u.1 u.2.1 u.2.2.1 u.2.2.2) t) A) ([.ref (ad 0), .int a0, .int a1] : List Value).toArray s 0 0 A) (F0 m 93 ls []) := by
  obtain ⟨hx, hb, hr, hml, hts, hown, hlocks, hA, hK⟩ := id C
  intro x3 x7 x8 x10 I J B D ls H locs hok hl hw
  unfold wc_LassoFinderModel_round_93 at hok
  refine lv_aload_n hx hb zd_LassoFinderModel_round_93 rfl (lv_at hl 0 rfl) ?_
  refine z_get (v := .ref (ad 56)) hx hb hts hown hK hw zZ12 0 wM_g0 81 (by decide) zm_290 rfl zd_LassoFinderModel_round_94 ?_
  refine lv_iload_n hx hb zd_LassoFinderModel_round_97 rfl (lv_at hl 1 rfl) ?_
  refine lv_iconst (v := 1) hx hb zd_LassoFinderModel_round_98 (by decide) ?_
  refine lv_isub hx hb zd_LassoFinderModel_round_99 ?_
  refine lv_topi (fun z1 ez1 => ?_)
  have hok := hok z1 ez1
  refine lv_iload hx hb zd_LassoFinderModel_round_100 (lv_at hl 2 rfl) ?_
  refine lv_isub hx hb zd_LassoFinderModel_round_102 ?_
  refine lv_topi (fun z2 ez2 => ?_)
  have hok := hok z2 ez2
  refine lv_iload hx hb zd_LassoFinderModel_round_103 (lv_at hl 4 rfl) ?_
  refine z_callv (w1 := fun (u : zS) => wM ad K u.1 u.2.1 u.2.2.1 u.2.2.2) (wr := []) (z_runS (wc := (wM ad K I J B D)) (As := [.ref (ad 56), .int z2, .int x10]) (rest := []) ⟨hx, hb, hml, hown, hts⟩ (w_LassoFinderModel_keep_ad56 l G K ad I J B D z2 x10 _ H.size hok) zf_LassoFinderModel_keep zm_370 ⟨Nat.le_of_ble_eq_true rfl, Nat.le_of_ble_eq_true rfl⟩ hK hw (List.range 58) wM_all wM_nd rfl hl.1 rfl (Nat.le_of_ble_eq_true rfl) zd_LassoFinderModel_round_105 ⟨Nat.le_of_ble_eq_true rfl, Nat.le_of_ble_eq_true rfl⟩) hw hA (List.range 58) [] wM_all rfl (by decide) (fun i hi => by cases hi) (fun u H locs hok hw => ?_)
  obtain ⟨I3, J3, B3, D3⟩ := u
  dsimp only at hok
  have hw : zW G A s.heap (wM ad K I3 J3 B3 D3) H locs := hw
  refine lv_aload_n hx hb zd_LassoFinderModel_round_108 rfl (lv_at hl 0 rfl) ?_
  refine z_get (v := .ref (ad 33)) hx hb hts hown hK hw zZ12 0 wM_g0 49 (by decide) zm_267 rfl zd_LassoFinderModel_round_109 ?_
  refine lv_iload hx hb zd_LassoFinderModel_round_112 (lv_at hl 4 rfl) ?_
  refine va_iald (f := (B3 30)) hx hb hK hw.1 33 0 wM_a33 rfl hok.1 zd_LassoFinderModel_round_114 ?_
  have hok := hok.2
  refine lv_topi (fun z4 ez4 => ?_)
  have hok := hok z4 ez4
  refine lv_istore hx hb zd_LassoFinderModel_round_115 hl (by decide) rfl (fun ls hl => ?_)
  have hl : lv_has ls 12 [(4, .int z4), (0, .ref (ad 0)), (3, .int x3), (7, .int x7), (8, .long x8), (10, .int x10)] := hl
  refine lv_lload hx hb zd_LassoFinderModel_round_117 (lv_at hl 4 rfl) ?_
  refine lv_lstore hx hb zd_LassoFinderModel_round_119 hl (by decide) rfl (fun ls hl => ?_)
  have hl : lv_has ls 12 [(5, .long x8), (4, .int z4), (0, .ref (ad 0)), (3, .int x3), (7, .int x7), (8, .long x8), (10, .int x10)] := hl
  obtain ⟨z5, ez5⟩ : ∃ z : Int32, z = (x7 + (-1)) := ⟨_, rfl⟩
  have hok := hok z5 ez5
  refine lv_iinc (v := z5) hx hb zd_LassoFinderModel_round_121 hl (k := 4) rfl ez5.symm (by decide) rfl (fun ls hl => ?_)
  have hl : lv_has ls 12 [(7, .int z5), (5, .long x8), (4, .int z4), (0, .ref (ad 0)), (3, .int x3), (8, .long x8), (10, .int x10)] := hl
  refine lv_goto (tgt := 30) hx hb zd_LassoFinderModel_round_124 (by decide) ?_
  exact kh30 x3 z4 x8 z5 I3 J3 B3 D3 ls H locs hok (lv_sub hl [3, 4, 2, 1, 0] rfl) hw
set_option maxHeartbeats 8000000 in
set_option maxRecDepth 100000 in
theorem wB_LassoFinderModel_round_50 {p : Program} {l : Launch} {e : Env} {s : State} {m : MethodId} {below : List Frame} {meth : Method} {c : Code} {A : Nat → Prop} (G : va_G) (K : Nat → ClassId) (ad : Nat → Nat) (a0 : Int32) (a1 : Int32) (Post : Int32 → (Nat → Int32) → (Nat → Int64) → (Nat → Nat → Int32) → (Nat → Nat → Int64) → Prop) (C : zCx p s m ([.ref (ad 0), .int a0, .int a1] : List Value).toArray meth c A G K prog_14_method_64_code (some .int) 12 "LassoFinderModel") (K30 : Int32 → Int32 → Int64 → Int32 → (Nat → Int32) → (Nat → Int64) → (Nat → Nat → Int32) → (Nat → Nat → Int64) → Prop) (kh30 : ∀ (x3 : Int32) (x4 : Int32) (x5 : Int64) (x7 : Int32) (I : Nat → Int32) (J : Nat → Int64) (B : Nat → Nat → Int32) (D : Nat → Nat → Int64) (ls : Array Slot) (H : Heap) (locs : List Loc), K30 x3 x4 x5 x7 I J B D → lv_has ls 12 [(0, .ref (ad 0)), (3, .int x3), (4, .int x4), (5, .long x5), (7, .int x7)] → zW G A s.heap (wM ad K I J B D) H locs → W p l e { frames := 4, cells := 0, slots := 0, locals := 112 } s m ([.ref (ad 0), .int a0, .int a1] : List Value).toArray below meth c H locs 0 0 (MQ below (va_Qi (fun (r : Int32) (u : zS) => Post r u.1 u.2.1 u.2.2.1 u.2.2.2) (fun u t => zPost G K A (wM ad K u.1 u.2.1 u.2.2.1 u.2.2.2) t) A) ([.ref (ad 0), .int a0, .int a1] : List Value).toArray s 0 0 A) (F0 m 30 ls [])) (K50 : Int32 → Int32 → Int64 → Int32 → Int64 → Int32 → Int32 → (Nat → Int32) → (Nat → Int64) → (Nat → Nat → Int32) → (Nat → Nat → Int64) → Prop) (kh50 : ∀ (x3 : Int32) (x4 : Int32) (x5 : Int64) (x7 : Int32) (x8 : Int64) (x10 : Int32) (x11 : Int32) (I : Nat → Int32) (J : Nat → Int64) (B : Nat → Nat → Int32) (D : Nat → Nat → Int64) (ls : Array Slot) (H : Heap) (locs : List Loc), K50 x3 x4 x5 x7 x8 x10 x11 I J B D → lv_has ls 12 [(0, .ref (ad 0)), (3, .int x3), (4, .int x4), (5, .long x5), (7, .int x7), (8, .long x8), (10, .int x10), (11, .int x11)] → zW G A s.heap (wM ad K I J B D) H locs → W p l e { frames := 4, cells := 0, slots := 0, locals := 112 } s m ([.ref (ad 0), .int a0, .int a1] : List Value).toArray below meth c H locs 0 0 (MQ below (va_Qi (fun (r : Int32) (u : zS) => Post r u.1 u.2.1 u.2.2.1 u.2.2.2) (fun u t => zPost G K A (wM ad K u.1 u.2.1 u.2.2.1 u.2.2.2) t) A) ([.ref (ad 0), .int a0, .int a1] : List Value).toArray s 0 0 A) (F0 m 50 ls [])) : ∀ (x3 : Int32) (x4 : Int32) (x5 : Int64) (x7 : Int32) (x8 : Int64) (x10 : Int32) (x11 : Int32) (I : Nat → Int32) (J : Nat → Int64) (B : Nat → Nat → Int32) (D : Nat → Nat → Int64) (ls : Array Slot) (H : Heap) (locs : List Loc), wb_LassoFinderModel_round_50 a0 a1 K50 K30 Post x3 x4 x5 x7 x8 x10 x11 I J B D → lv_has ls 12 [(0, .ref (ad 0)), (3, .int x3), (4, .int x4), (5, .long x5), (7, .int x7), (8, .long x8), (10, .int x10), (11, .int x11)] → zW G A s.heap (wM ad K I J B D) H locs → W p l e { frames := 4, cells := 0, slots := 0, locals := 112 } s m ([.ref (ad 0), .int a0, .int a1] : List Value).toArray below meth c H locs 0 0 (MQ below (va_Qi (fun (r : Int32) (u : zS) => Post r u.1 u.2.1 u.2.2.1 u.2.2.2) (fun u t => zPost G K A (wM ad K u.1 u.2.1 u.2.2.1 u.2.2.2) t) A) ([.ref (ad 0), .int a0, .int a1] : List Value).toArray s 0 0 A) (F0 m 50 ls []) := by
  obtain ⟨hx, hb, hr, hml, hts, hown, hlocks, hA, hK⟩ := id C
  intro x3 x4 x5 x7 x8 x10 x11 I J B D ls H locs hok hl hw
  unfold wb_LassoFinderModel_round_50 at hok
  refine lv_iload hx hb zd_LassoFinderModel_round_50 (lv_at hl 7 rfl) ?_
  refine lv_aload_n hx hb zd_LassoFinderModel_round_52 rfl (lv_at hl 0 rfl) ?_
  refine z_get (v := .ref (ad 32)) hx hb hts hown hK hw zZ12 0 wM_g0 48 (by decide) zm_266 rfl zd_LassoFinderModel_round_53 ?_
  refine lv_iload hx hb zd_LassoFinderModel_round_56 (lv_at hl 2 rfl) ?_
  refine lv_iconst (v := 1) hx hb zd_LassoFinderModel_round_58 (by decide) ?_
  refine lv_iadd hx hb zd_LassoFinderModel_round_59 ?_
  refine lv_topi (fun z6 ez6 => ?_)
  have hok := hok z6 ez6
  refine va_iald (f := (B 29)) hx hb hK hw.1 32 0 wM_a32 rfl hok.1 zd_LassoFinderModel_round_60 ?_
  have hok := hok.2
  refine lv_topi (fun z7 ez7 => ?_)
  have hok := hok z7 ez7
  refine lv_icmp_ge (tgt := 93) hx hb zd_LassoFinderModel_round_61 (by decide) (fun hc8 => ?_) (fun hc8 => ?_)
  · have hok := hok.1 hc8
    exact wJ_LassoFinderModel_round_93 G K ad a0 a1 Post C K30 kh30 x3 x7 x8 x10 I J B D ls H locs hok (lv_sub hl [0, 1, 4, 5, 6] rfl) hw
  · have hok := hok.2 hc8
    refine lv_lload hx hb zd_LassoFinderModel_round_64 (lv_at hl 5 rfl) ?_
    refine lv_lconst (v := 0) hx hb zd_LassoFinderModel_round_66 (by decide) ?_
    refine W.lcmp hx hb zd_LassoFinderModel_round_67 ?_
    refine lv_topi (fun z9 ez9 => ?_)
    have hok := hok z9 ez9
    refine lv_if_ne (tgt := 93) hx hb zd_LassoFinderModel_round_68 (by decide) (fun hc10 => ?_) (fun hc10 => ?_)
    · have hok := hok.1 hc10
      exact wJ_LassoFinderModel_round_93 G K ad a0 a1 Post C K30 kh30 x3 x7 x8 x10 I J B D ls H locs hok (lv_sub hl [0, 1, 4, 5, 6] rfl) hw
    · have hok := hok.2 hc10
      refine lv_aload_n hx hb zd_LassoFinderModel_round_71 rfl (lv_at hl 0 rfl) ?_
      refine lv_iload hx hb zd_LassoFinderModel_round_72 (lv_at hl 7 rfl) ?_
      refine lv_lload hx hb zd_LassoFinderModel_round_74 (lv_at hl 3 rfl) ?_
      refine lv_iload hx hb zd_LassoFinderModel_round_76 (lv_at hl 4 rfl) ?_
      refine z_calll (w1 := fun (u : zS) => wM ad K u.1 u.2.1 u.2.2.1 u.2.2.2) (wr := []) (z_runV (q0 := 0) (wc := (wM ad K I J B D)) (As := [.int x11, .long x5, .int x7]) (rest := []) ⟨hx, hb, hml, hown, hts⟩ (w_LassoFinderModel_ahead l G K ad I J B D x11 x5 x7 _ H.size hok) zf_LassoFinderModel_ahead zm_374 ⟨Nat.le_of_ble_eq_true rfl, Nat.le_of_ble_eq_true rfl⟩ hK hw (List.range 58) wM_all wM_nd wM_g0 rfl rfl hl.1 rfl (Nat.le_of_ble_eq_true rfl) zd_LassoFinderModel_round_78 ⟨Nat.le_of_ble_eq_true rfl, Nat.le_of_ble_eq_true rfl⟩) hw hA (List.range 58) [] wM_all rfl (by decide) (fun i hi => by cases hi) (fun r11 u H locs hok hw => ?_)
      obtain ⟨I11, J11, B11, D11⟩ := u
      dsimp only at hok
      have hw : zW G A s.heap (wM ad K I11 J11 B11 D11) H locs := hw
      refine lv_lstore hx hb zd_LassoFinderModel_round_81 hl (by decide) rfl (fun ls hl => ?_)
      have hl : lv_has ls 12 [(8, .long r11), (0, .ref (ad 0)), (3, .int x3), (4, .int x4), (5, .long x5), (7, .int x7), (10, .int x10), (11, .int x11)] := hl
      refine lv_iload hx hb zd_LassoFinderModel_round_83 (lv_at hl 7 rfl) ?_
      refine lv_istore hx hb zd_LassoFinderModel_round_85 hl (by decide) rfl (fun ls hl => ?_)
      have hl : lv_has ls 12 [(10, .int x11), (8, .long r11), (0, .ref (ad 0)), (3, .int x3), (4, .int x4), (5, .long x5), (7, .int x7), (11, .int x11)] := hl
      obtain ⟨z12, ez12⟩ : ∃ z : Int32, z = (x11 + 1) := ⟨_, rfl⟩
      have hok := hok z12 ez12
      refine lv_iinc (v := z12) hx hb zd_LassoFinderModel_round_87 hl (k := 7) rfl ez12.symm (by decide) rfl (fun ls hl => ?_)
      have hl : lv_has ls 12 [(11, .int z12), (10, .int x11), (8, .long r11), (0, .ref (ad 0)), (3, .int x3), (4, .int x4), (5, .long x5), (7, .int x7)] := hl
      refine lv_goto (tgt := 50) hx hb zd_LassoFinderModel_round_90 (by decide) ?_
      exact kh50 x3 x4 x5 x7 r11 x11 z12 I11 J11 B11 D11 ls H locs hok (lv_sub hl [3, 4, 5, 6, 7, 2, 1, 0] rfl) hw
theorem wL_LassoFinderModel_round_50 {p : Program} {l : Launch} {e : Env} {s : State} {m : MethodId} {below : List Frame} {meth : Method} {c : Code} {A : Nat → Prop} (G : va_G) (K : Nat → ClassId) (ad : Nat → Nat) (a0 : Int32) (a1 : Int32) (Post : Int32 → (Nat → Int32) → (Nat → Int64) → (Nat → Nat → Int32) → (Nat → Nat → Int64) → Prop) (C : zCx p s m ([.ref (ad 0), .int a0, .int a1] : List Value).toArray meth c A G K prog_14_method_64_code (some .int) 12 "LassoFinderModel") (K30 : Int32 → Int32 → Int64 → Int32 → (Nat → Int32) → (Nat → Int64) → (Nat → Nat → Int32) → (Nat → Nat → Int64) → Prop) (kh30 : ∀ (x3 : Int32) (x4 : Int32) (x5 : Int64) (x7 : Int32) (I : Nat → Int32) (J : Nat → Int64) (B : Nat → Nat → Int32) (D : Nat → Nat → Int64) (ls : Array Slot) (H : Heap) (locs : List Loc), K30 x3 x4 x5 x7 I J B D → lv_has ls 12 [(0, .ref (ad 0)), (3, .int x3), (4, .int x4), (5, .long x5), (7, .int x7)] → zW G A s.heap (wM ad K I J B D) H locs → W p l e { frames := 4, cells := 0, slots := 0, locals := 112 } s m ([.ref (ad 0), .int a0, .int a1] : List Value).toArray below meth c H locs 0 0 (MQ below (va_Qi (fun (r : Int32) (u : zS) => Post r u.1 u.2.1 u.2.2.1 u.2.2.2) (fun u t => zPost G K A (wM ad K u.1 u.2.1 u.2.2.1 u.2.2.2) t) A) ([.ref (ad 0), .int a0, .int a1] : List Value).toArray s 0 0 A) (F0 m 30 ls [])) : ∀ (n : Nat) (x3 : Int32) (x4 : Int32) (x5 : Int64) (x7 : Int32) (x8 : Int64) (x10 : Int32) (x11 : Int32) (I : Nat → Int32) (J : Nat → Int64) (B : Nat → Nat → Int32) (D : Nat → Nat → Int64) (ls : Array Slot) (H : Heap) (locs : List Loc), wl_LassoFinderModel_round_50 a0 a1 K30 Post n x3 x4 x5 x7 x8 x10 x11 I J B D → lv_has ls 12 [(0, .ref (ad 0)), (3, .int x3), (4, .int x4), (5, .long x5), (7, .int x7), (8, .long x8), (10, .int x10), (11, .int x11)] → zW G A s.heap (wM ad K I J B D) H locs → W p l e { frames := 4, cells := 0, slots := 0, locals := 112 } s m ([.ref (ad 0), .int a0, .int a1] : List Value).toArray below meth c H locs 0 0 (MQ below (va_Qi (fun (r : Int32) (u : zS) => Post r u.1 u.2.1 u.2.2.1 u.2.2.2) (fun u t => zPost G K A (wM ad K u.1 u.2.1 u.2.2.1 u.2.2.2) t) A) ([.ref (ad 0), .int a0, .int a1] : List Value).toArray s 0 0 A) (F0 m 50 ls []) := by
  intro n
  induction n with
  | zero => intro x3 x4 x5 x7 x8 x10 x11 I J B D ls H locs hok; exact hok.elim
  | succ n ih => exact wB_LassoFinderModel_round_50 G K ad a0 a1 Post C K30 kh30 (wl_LassoFinderModel_round_50 a0 a1 K30 Post n) ih
set_option maxHeartbeats 8000000 in
set_option maxRecDepth 100000 in
theorem wB_LassoFinderModel_round_30 {p : Program} {l : Launch} {e : Env} {s : State} {m : MethodId} {below : List Frame} {meth : Method} {c : Code} {A : Nat → Prop} (G : va_G) (K : Nat → ClassId) (ad : Nat → Nat) (a0 : Int32) (a1 : Int32) (Post : Int32 → (Nat → Int32) → (Nat → Int64) → (Nat → Nat → Int32) → (Nat → Nat → Int64) → Prop) (C : zCx p s m ([.ref (ad 0), .int a0, .int a1] : List Value).toArray meth c A G K prog_14_method_64_code (some .int) 12 "LassoFinderModel") (K30 : Int32 → Int32 → Int64 → Int32 → (Nat → Int32) → (Nat → Int64) → (Nat → Nat → Int32) → (Nat → Nat → Int64) → Prop) (kh30 : ∀ (x3 : Int32) (x4 : Int32) (x5 : Int64) (x7 : Int32) (I : Nat → Int32) (J : Nat → Int64) (B : Nat → Nat → Int32) (D : Nat → Nat → Int64) (ls : Array Slot) (H : Heap) (locs : List Loc), K30 x3 x4 x5 x7 I J B D → lv_has ls 12 [(0, .ref (ad 0)), (3, .int x3), (4, .int x4), (5, .long x5), (7, .int x7)] → zW G A s.heap (wM ad K I J B D) H locs → W p l e { frames := 4, cells := 0, slots := 0, locals := 112 } s m ([.ref (ad 0), .int a0, .int a1] : List Value).toArray below meth c H locs 0 0 (MQ below (va_Qi (fun (r : Int32) (u : zS) => Post r u.1 u.2.1 u.2.2.1 u.2.2.2) (fun u t => zPost G K A (wM ad K u.1 u.2.1 u.2.2.1 u.2.2.2) t) A) ([.ref (ad 0), .int a0, .int a1] : List Value).toArray s 0 0 A) (F0 m 30 ls [])) : ∀ (x3 : Int32) (x4 : Int32) (x5 : Int64) (x7 : Int32) (I : Nat → Int32) (J : Nat → Int64) (B : Nat → Nat → Int32) (D : Nat → Nat → Int64) (ls : Array Slot) (H : Heap) (locs : List Loc), wb_LassoFinderModel_round_30 a0 a1 K30 Post x3 x4 x5 x7 I J B D → lv_has ls 12 [(0, .ref (ad 0)), (3, .int x3), (4, .int x4), (5, .long x5), (7, .int x7)] → zW G A s.heap (wM ad K I J B D) H locs → W p l e { frames := 4, cells := 0, slots := 0, locals := 112 } s m ([.ref (ad 0), .int a0, .int a1] : List Value).toArray below meth c H locs 0 0 (MQ below (va_Qi (fun (r : Int32) (u : zS) => Post r u.1 u.2.1 u.2.2.1 u.2.2.2) (fun u t => zPost G K A (wM ad K u.1 u.2.1 u.2.2.1 u.2.2.2) t) A) ([.ref (ad 0), .int a0, .int a1] : List Value).toArray s 0 0 A) (F0 m 30 ls []) := by
  obtain ⟨hx, hb, hr, hml, hts, hown, hlocks, hA, hK⟩ := id C
  intro x3 x4 x5 x7 I J B D ls H locs hok hl hw
  unfold wb_LassoFinderModel_round_30 at hok
  refine lv_iload hx hb zd_LassoFinderModel_round_30 (lv_at hl 4 rfl) ?_
  refine lv_if_lt (tgt := 127) hx hb zd_LassoFinderModel_round_32 (by decide) (fun hc13 => ?_) (fun hc13 => ?_)
  · have hok := hok.1 hc13
    refine lv_iload_n hx hb zd_LassoFinderModel_round_127 rfl (lv_at hl 1 rfl) ?_
    exact (z_iret (u := (I, J, B, D)) hx hb hr hlocks rfl hw (List.range 58) wM_all wM_nd hok (Nat.le_of_ble_eq_true rfl) (Nat.le_of_ble_eq_true rfl) zd_LassoFinderModel_round_128)
  · have hok := hok.2 hc13
    refine lv_lconst (v := 0) hx hb zd_LassoFinderModel_round_35 (by decide) ?_
    refine lv_lstore hx hb zd_LassoFinderModel_round_36 hl (by decide) rfl (fun ls hl => ?_)
    have hl : lv_has ls 12 [(8, .long 0), (0, .ref (ad 0)), (3, .int x3), (4, .int x4), (5, .long x5), (7, .int x7)] := hl
    refine lv_iconst (v := (-1)) hx hb zd_LassoFinderModel_round_38 (by decide) ?_
    refine lv_istore hx hb zd_LassoFinderModel_round_39 hl (by decide) rfl (fun ls hl => ?_)
    have hl : lv_has ls 12 [(10, .int (-1)), (8, .long 0), (0, .ref (ad 0)), (3, .int x3), (4, .int x4), (5, .long x5), (7, .int x7)] := hl
    refine lv_aload_n hx hb zd_LassoFinderModel_round_41 rfl (lv_at hl 2 rfl) ?_
    refine z_get (v := .ref (ad 32)) hx hb hts hown hK hw zZ12 0 wM_g0 48 (by decide) zm_266 rfl zd_LassoFinderModel_round_42 ?_
    refine lv_iload hx hb zd_LassoFinderModel_round_45 (lv_at hl 4 rfl) ?_
    refine va_iald (f := (B 29)) hx hb hK hw.1 32 0 wM_a32 rfl hok.1 zd_LassoFinderModel_round_47 ?_
    have hok := hok.2
    refine lv_topi (fun z14 ez14 => ?_)
    have hok := hok z14 ez14
    refine lv_istore hx hb zd_LassoFinderModel_round_48 hl (by decide) rfl (fun ls hl => ?_)
    have hl : lv_has ls 12 [(11, .int z14), (10, .int (-1)), (8, .long 0), (0, .ref (ad 0)), (3, .int x3), (4, .int x4), (5, .long x5), (7, .int x7)] := hl
    obtain ⟨n9, hok⟩ := hok
    exact wL_LassoFinderModel_round_50 G K ad a0 a1 Post C K30 kh30 n9 x3 x4 x5 x7 0 (-1) z14 I J B D ls H locs hok (lv_sub hl [3, 4, 5, 6, 7, 2, 1, 0] rfl) hw
theorem wL_LassoFinderModel_round_30 {p : Program} {l : Launch} {e : Env} {s : State} {m : MethodId} {below : List Frame} {meth : Method} {c : Code} {A : Nat → Prop} (G : va_G) (K : Nat → ClassId) (ad : Nat → Nat) (a0 : Int32) (a1 : Int32) (Post : Int32 → (Nat → Int32) → (Nat → Int64) → (Nat → Nat → Int32) → (Nat → Nat → Int64) → Prop) (C : zCx p s m ([.ref (ad 0), .int a0, .int a1] : List Value).toArray meth c A G K prog_14_method_64_code (some .int) 12 "LassoFinderModel") : ∀ (n : Nat) (x3 : Int32) (x4 : Int32) (x5 : Int64) (x7 : Int32) (I : Nat → Int32) (J : Nat → Int64) (B : Nat → Nat → Int32) (D : Nat → Nat → Int64) (ls : Array Slot) (H : Heap) (locs : List Loc), wl_LassoFinderModel_round_30 a0 a1 Post n x3 x4 x5 x7 I J B D → lv_has ls 12 [(0, .ref (ad 0)), (3, .int x3), (4, .int x4), (5, .long x5), (7, .int x7)] → zW G A s.heap (wM ad K I J B D) H locs → W p l e { frames := 4, cells := 0, slots := 0, locals := 112 } s m ([.ref (ad 0), .int a0, .int a1] : List Value).toArray below meth c H locs 0 0 (MQ below (va_Qi (fun (r : Int32) (u : zS) => Post r u.1 u.2.1 u.2.2.1 u.2.2.2) (fun u t => zPost G K A (wM ad K u.1 u.2.1 u.2.2.1 u.2.2.2) t) A) ([.ref (ad 0), .int a0, .int a1] : List Value).toArray s 0 0 A) (F0 m 30 ls []) := by
  intro n
  induction n with
  | zero => intro x3 x4 x5 x7 I J B D ls H locs hok; exact hok.elim
  | succ n ih => exact wB_LassoFinderModel_round_30 G K ad a0 a1 Post C (wl_LassoFinderModel_round_30 a0 a1 Post n) ih
set_option maxHeartbeats 8000000 in
set_option maxRecDepth 100000 in
theorem w_LassoFinderModel_round (l : Launch) (G : va_G) (K : Nat → ClassId) (ad : Nat → Nat) (I : Nat → Int32) (J : Nat → Int64) (B : Nat → Nat → Int32) (D : Nat → Nat → Int64) (a0 : Int32) (a1 : Int32) (Post : Int32 → (Nat → Int32) → (Nat → Int64) → (Nat → Nat → Int32) → (Nat → Nat → Int64) → Prop) (sz : Nat) (hok : wp_LassoFinderModel_round I J B D a0 a1 Post) : Met l zy_LassoFinderModel_round (Cond.code zy_LassoFinderModel_round prog_14_method_64_code 12 (some .int) :: zTB) { frames := 4, cells := 0, slots := 0, locals := 112 } (va_Pc [.ref (ad 0), .int a0, .int a1] (zPre G K (wM ad K I J B D) sz)) (va_Qi (fun (r : Int32) (u : zS) => Post r u.1 u.2.1 u.2.2.1 u.2.2.2) (fun u t => zPost G K (va_A (wM ad K I J B D) sz) (wM ad K u.1 u.2.1 u.2.2.1 u.2.2.2) t) (va_A (wM ad K I J B D) sz)) 0 0 (va_A (wM ad K I J B D) sz) := by
  refine zMet (y := zy_LassoFinderModel_round) (av := [.ref (ad 0), .int a0, .int a1]) (maxL := 12) (cc := prog_14_method_64_code) (ret := (some .int)) (W0 := (wM ad K I J B D)) (sz := sz) (G := G) (K := K) (wt := zTB) (mc := 0) (ms := 0) (Qf := fun A => va_Qi (fun (r : Int32) (u : zS) => Post r u.1 u.2.1 u.2.2.1 u.2.2.2) (fun u t => zPost G K A (wM ad K u.1 u.2.1 u.2.2.1 u.2.2.2) t) A) (by decide) (Nat.le_of_ble_eq_true rfl) ?_
  intro p e s m below meth c ls A hx hb hr hml hts hown hlocks hin hA hK H locs hw hsz hl
  clear hsz
  have hown : s.vm.findClass "LassoFinderModel" = some m.cls := hown
  have C : zCx p s m ([.ref (ad 0), .int a0, .int a1] : List Value).toArray meth c A G K prog_14_method_64_code (some .int) 12 "LassoFinderModel" := ⟨hx, hb, hr, hml, hts, hown, hlocks, hA, hK⟩
  have hl : lv_has ls 12 [(0, .ref (ad 0)), (1, .int a0), (2, .int a1)] := hl
  have hw : zW G A s.heap (wM ad K I J B D) H locs := hw
  unfold wp_LassoFinderModel_round at hok
  refine lv_aload_n hx hb zd_LassoFinderModel_round_0 rfl (lv_at hl 0 rfl) ?_
  refine lv_iload_n hx hb zd_LassoFinderModel_round_1 rfl (lv_at hl 1 rfl) ?_
  refine lv_iload_n hx hb zd_LassoFinderModel_round_2 rfl (lv_at hl 2 rfl) ?_
  refine z_calli (w1 := fun (u : zS) => wM ad K u.1 u.2.1 u.2.2.1 u.2.2.2) (wr := []) (z_runV (q0 := 0) (wc := (wM ad K I J B D)) (As := [.int a0, .int a1]) (rest := []) ⟨hx, hb, hml, hown, hts⟩ (w_LassoFinderModel_nearest l G K ad I J B D a0 a1 _ H.size hok) zf_LassoFinderModel_nearest zm_372 ⟨Nat.le_of_ble_eq_true rfl, Nat.le_of_ble_eq_true rfl⟩ hK hw (List.range 58) wM_all wM_nd wM_g0 rfl rfl hl.1 rfl (Nat.le_of_ble_eq_true rfl) zd_LassoFinderModel_round_3 ⟨Nat.le_of_ble_eq_true rfl, Nat.le_of_ble_eq_true rfl⟩) hw hA (List.range 58) [] wM_all rfl (by decide) (fun i hi => by cases hi) (fun r15 u H locs hok hw => ?_)
  obtain ⟨I15, J15, B15, D15⟩ := u
  dsimp only at hok
  have hw : zW G A s.heap (wM ad K I15 J15 B15 D15) H locs := hw
  refine lv_istore_n hx hb zd_LassoFinderModel_round_6 rfl hl (by decide) rfl (fun ls hl => ?_)
  have hl : lv_has ls 12 [(3, .int r15), (0, .ref (ad 0)), (1, .int a0), (2, .int a1)] := hl
  refine lv_iload_n hx hb zd_LassoFinderModel_round_7 rfl (lv_at hl 2 rfl) ?_
  refine lv_istore hx hb zd_LassoFinderModel_round_8 hl (by decide) rfl (fun ls hl => ?_)
  have hl : lv_has ls 12 [(4, .int a0), (3, .int r15), (0, .ref (ad 0)), (1, .int a0), (2, .int a1)] := hl
  refine lv_lconst (v := 1) hx hb zd_LassoFinderModel_round_10 (by decide) ?_
  refine lv_bipush (v := 8) hx hb zd_LassoFinderModel_round_11 (by decide) ?_
  refine lv_iload_n hx hb zd_LassoFinderModel_round_13 rfl (lv_at hl 4 rfl) ?_
  refine lv_imul hx hb zd_LassoFinderModel_round_14 ?_
  refine lv_topi (fun z16 ez16 => ?_)
  have hok := hok z16 ez16
  refine lv_aload_n hx hb zd_LassoFinderModel_round_15 rfl (lv_at hl 2 rfl) ?_
  refine lv_iload_n hx hb zd_LassoFinderModel_round_16 rfl (lv_at hl 3 rfl) ?_
  refine lv_iload_n hx hb zd_LassoFinderModel_round_17 rfl (lv_at hl 4 rfl) ?_
  refine z_calli (w1 := fun (u : zS) => wM ad K u.1 u.2.1 u.2.2.1 u.2.2.2) (wr := []) (z_runV (q0 := 0) (wc := (wM ad K I15 J15 B15 D15)) (As := [.int a0, .int a1]) (rest := [.int z16, .long 1]) ⟨hx, hb, hml, hown, hts⟩ (w_LassoFinderModel_settled l G K ad I15 J15 B15 D15 a0 a1 _ H.size hok) zf_LassoFinderModel_settled zm_373 ⟨Nat.le_of_ble_eq_true rfl, Nat.le_of_ble_eq_true rfl⟩ hK hw (List.range 58) wM_all wM_nd wM_g0 rfl rfl hl.1 rfl (Nat.le_of_ble_eq_true rfl) zd_LassoFinderModel_round_18 ⟨Nat.le_of_ble_eq_true rfl, Nat.le_of_ble_eq_true rfl⟩) hw hA (List.range 58) [] wM_all rfl (by decide) (fun i hi => by cases hi) (fun r17 u H locs hok hw => ?_)
  obtain ⟨I17, J17, B17, D17⟩ := u
  dsimp only at hok
  have hw : zW G A s.heap (wM ad K I17 J17 B17 D17) H locs := hw
  refine lv_iadd hx hb zd_LassoFinderModel_round_21 ?_
  refine lv_topi (fun z18 ez18 => ?_)
  have hok := hok z18 ez18
  refine lv_lshl hx hb zd_LassoFinderModel_round_22 rfl ?_
  refine lv_topl (fun z19 ez19 => ?_)
  have hok := hok z19 ez19
  refine lv_lstore hx hb zd_LassoFinderModel_round_23 hl (by decide) rfl (fun ls hl => ?_)
  have hl : lv_has ls 12 [(5, .long z19), (4, .int a0), (3, .int r15), (0, .ref (ad 0)), (1, .int a0), (2, .int a1)] := hl
  refine lv_iload_n hx hb zd_LassoFinderModel_round_25 rfl (lv_at hl 2 rfl) ?_
  refine lv_iconst (v := 1) hx hb zd_LassoFinderModel_round_26 (by decide) ?_
  refine lv_isub hx hb zd_LassoFinderModel_round_27 ?_
  refine lv_topi (fun z20 ez20 => ?_)
  have hok := hok z20 ez20
  refine lv_istore hx hb zd_LassoFinderModel_round_28 hl (by decide) rfl (fun ls hl => ?_)
  have hl : lv_has ls 12 [(7, .int z20), (5, .long z19), (4, .int a0), (3, .int r15), (0, .ref (ad 0)), (1, .int a0), (2, .int a1)] := hl
  obtain ⟨n9, hok⟩ := hok
  exact wL_LassoFinderModel_round_30 G K ad a0 a1 Post C n9 r15 a0 z19 z20 I17 J17 B17 D17 ls H locs hok (lv_sub hl [4, 3, 2, 1, 0] rfl) hw
def wp_LassoFinderModel_stepOf_ad55 (I : Nat → Int32) (J : Nat → Int64) (B : Nat → Nat → Int32) (D : Nat → Nat → Int64) (a1 : Int32) (Post : Int32 → (Nat → Int32) → (Nat → Int64) → (Nat → Nat → Int32) → (Nat → Nat → Int64) → Prop) : Prop :=
  ∀ z1 : Int32, z1 = (a1 / 3) → vp_in z1 1280 ∧ ∀ z2 : Int32, z2 = ((B 52) z1.toNatClampNeg) → ∀ z3 : Int32, z3 = (a1 - a1 / 3 * 3) → ∀ z4 : Int32, z4 = (9 * z3) → ∀ z5 : Int32, z5 = (z2 >>> (z4 &&& 31)) → ∀ z6 : Int32, z6 = (z5 &&& 511) → Post z6 I J B D
set_option maxHeartbeats 8000000 in
set_option maxRecDepth 100000 in
theorem w_LassoFinderModel_stepOf_ad55 (l : Launch) (G : va_G) (K : Nat → ClassId) (ad : Nat → Nat) (I : Nat → Int32) (J : Nat → Int64) (B : Nat → Nat → Int32) (D : Nat → Nat → Int64) (a1 : Int32) (Post : Int32 → (Nat → Int32) → (Nat → Int64) → (Nat → Nat → Int32) → (Nat → Nat → Int64) → Prop) (sz : Nat) (hok : wp_LassoFinderModel_stepOf_ad55 I J B D a1 Post) : Met l zy_LassoFinderModel_stepOf (Cond.code zy_LassoFinderModel_stepOf prog_14_method_58_code 2 (some .int) :: zTB) { frames := 0, cells := 0, slots := 0, locals := 0 } (va_Pc [.ref (ad 55), .int a1] (zPre G K (wM ad K I J B D) sz)) (va_Qi (fun (r : Int32) (u : zS) => Post r u.1 u.2.1 u.2.2.1 u.2.2.2) (fun u t => zPost G K (va_A (wM ad K I J B D) sz) (wM ad K u.1 u.2.1 u.2.2.1 u.2.2.2) t) (va_A (wM ad K I J B D) sz)) 0 0 (va_A (wM ad K I J B D) sz) := by
  refine zMet (y := zy_LassoFinderModel_stepOf) (av := [.ref (ad 55), .int a1]) (maxL := 2) (cc := prog_14_method_58_code) (ret := (some .int)) (W0 := (wM ad K I J B D)) (sz := sz) (G := G) (K := K) (wt := zTB) (mc := 0) (ms := 0) (Qf := fun A => va_Qi (fun (r : Int32) (u : zS) => Post r u.1 u.2.1 u.2.2.1 u.2.2.2) (fun u t => zPost G K A (wM ad K u.1 u.2.1 u.2.2.1 u.2.2.2) t) A) (by decide) (Nat.le_of_ble_eq_true rfl) ?_
  intro p e s m below meth c ls A hx hb hr hml hts hown hlocks hin hA hK H locs hw hsz hl
  clear hsz
  have hown : s.vm.findClass "LassoFinderModel" = some m.cls := hown
  have C : zCx p s m ([.ref (ad 55), .int a1] : List Value).toArray meth c A G K prog_14_method_58_code (some .int) 2 "LassoFinderModel" := ⟨hx, hb, hr, hml, hts, hown, hlocks, hA, hK⟩
  have hl : lv_has ls 2 [(0, .ref (ad 55)), (1, .int a1)] := hl
  have hw : zW G A s.heap (wM ad K I J B D) H locs := hw
  unfold wp_LassoFinderModel_stepOf_ad55 at hok
  refine lv_aload_n hx hb zd_LassoFinderModel_stepOf_0 rfl (lv_at hl 0 rfl) ?_
  refine lv_iload_n hx hb zd_LassoFinderModel_stepOf_1 rfl (lv_at hl 1 rfl) ?_
  refine lv_iconst (v := 3) hx hb zd_LassoFinderModel_stepOf_2 (by decide) ?_
  refine lv_idiv hx hb zd_LassoFinderModel_stepOf_3 (by decide) ?_
  refine lv_topi (fun z1 ez1 => ?_)
  have hok := hok z1 ez1
  refine va_iald (f := (B 52)) hx hb hK hw.1 55 0 wM_a55 rfl hok.1 zd_LassoFinderModel_stepOf_4 ?_
  have hok := hok.2
  refine lv_topi (fun z2 ez2 => ?_)
  have hok := hok z2 ez2
  refine lv_bipush (v := 9) hx hb zd_LassoFinderModel_stepOf_5 (by decide) ?_
  refine lv_iload_n hx hb zd_LassoFinderModel_stepOf_7 rfl (lv_at hl 1 rfl) ?_
  refine lv_iconst (v := 3) hx hb zd_LassoFinderModel_stepOf_8 (by decide) ?_
  refine lv_irem hx hb zd_LassoFinderModel_stepOf_9 (by decide) ?_
  refine lv_topi (fun z3 ez3 => ?_)
  have hok := hok z3 ez3
  refine lv_imul hx hb zd_LassoFinderModel_stepOf_10 ?_
  refine lv_topi (fun z4 ez4 => ?_)
  have hok := hok z4 ez4
  refine lv_ishr hx hb zd_LassoFinderModel_stepOf_11 ?_
  refine lv_topi (fun z5 ez5 => ?_)
  have hok := hok z5 ez5
  refine lv_sipush (v := 511) hx hb zd_LassoFinderModel_stepOf_12 (by decide) ?_
  refine lv_iand hx hb zd_LassoFinderModel_stepOf_15 ?_
  refine lv_topi (fun z6 ez6 => ?_)
  have hok := hok z6 ez6
  exact (z_iret (u := (I, J, B, D)) hx hb hr hlocks rfl hw (List.range 58) wM_all wM_nd hok (Nat.le_of_ble_eq_true rfl) (Nat.le_of_ble_eq_true rfl) zd_LassoFinderModel_stepOf_16)
def wc_LassoFinderModel_sooner_35 (a0 : Int32) (Post : Int32 → (Nat → Int32) → (Nat → Int64) → (Nat → Nat → Int32) → (Nat → Nat → Int64) → Prop) (y0 : Int32) (I : Nat → Int32) (J : Nat → Int64) (B : Nat → Nat → Int32) (D : Nat → Nat → Int64) : Prop :=
  (y0 = 0 ∨ y0 = 1) ∧ Post y0 I J B D
def wc_LassoFinderModel_sooner_30 (a0 : Int32) (Post : Int32 → (Nat → Int32) → (Nat → Int64) → (Nat → Nat → Int32) → (Nat → Nat → Int64) → Prop)  (I : Nat → Int32) (J : Nat → Int64) (B : Nat → Nat → Int32) (D : Nat → Nat → Int64) : Prop :=
  wc_LassoFinderModel_sooner_35 a0 Post 1 I J B D
def wc_LassoFinderModel_sooner_15 (a0 : Int32) (Post : Int32 → (Nat → Int32) → (Nat → Int64) → (Nat → Nat → Int32) → (Nat → Nat → Int64) → Prop) (x1 : Int32) (I : Nat → Int32) (J : Nat → Int64) (B : Nat → Nat → Int32) (D : Nat → Nat → Int64) : Prop :=
  (((I 25) = 0 → wc_LassoFinderModel_sooner_30 a0 Post I J B D) ∧ (¬ (I 25) = 0 → (((I 25) ≤ x1 → wc_LassoFinderModel_sooner_35 a0 Post 0 I J B D) ∧ (¬ (I 25) ≤ x1 → wc_LassoFinderModel_sooner_30 a0 Post I J B D))))
def wc_LassoFinderModel_sooner_107 (a0 : Int32) (Post : Int32 → (Nat → Int32) → (Nat → Int64) → (Nat → Nat → Int32) → (Nat → Nat → Int64) → Prop) (y0 : Int32) (I : Nat → Int32) (J : Nat → Int64) (B : Nat → Nat → Int32) (D : Nat → Nat → Int64) : Prop :=
  (y0 = 0 ∨ y0 = 1) ∧ Post y0 I J B D
def wc_LassoFinderModel_sooner_106 (a0 : Int32) (Post : Int32 → (Nat → Int32) → (Nat → Int64) → (Nat → Nat → Int32) → (Nat → Nat → Int64) → Prop)  (I : Nat → Int32) (J : Nat → Int64) (B : Nat → Nat → Int32) (D : Nat → Nat → Int64) : Prop :=
  wc_LassoFinderModel_sooner_107 a0 Post 0 I J B D
def wc_LassoFinderModel_sooner_73 (a0 : Int32) (Post : Int32 → (Nat → Int32) → (Nat → Int64) → (Nat → Nat → Int32) → (Nat → Nat → Int64) → Prop) (x1 : Int32) (x2 : Int32) (I : Nat → Int32) (J : Nat → Int64) (B : Nat → Nat → Int32) (D : Nat → Nat → Int64) : Prop :=
  ((x1 ≤ x2 → wc_LassoFinderModel_sooner_106 a0 Post I J B D) ∧ (¬ x1 ≤ x2 → wp_LassoFinderModel_stepOf_ad56 I J B D x2 (fun r4 I4 J4 B4 D4 => ∀ z5 : Int32, z5 = ((I4 24) + x2) → wp_LassoFinderModel_stepOf_ad55 I4 J4 B4 D4 z5 (fun r6 I6 J6 B6 D6 => ((r6 ≤ r4 → wc_LassoFinderModel_sooner_106 a0 Post I6 J6 B6 D6) ∧ (¬ r6 ≤ r4 → wc_LassoFinderModel_sooner_107 a0 Post 1 I6 J6 B6 D6))))))
def wb_LassoFinderModel_sooner_38 (a0 : Int32) (K38 : Int32 → Int32 → (Nat → Int32) → (Nat → Int64) → (Nat → Nat → Int32) → (Nat → Nat → Int64) → Prop) (Post : Int32 → (Nat → Int32) → (Nat → Int64) → (Nat → Nat → Int32) → (Nat → Nat → Int64) → Prop) (x1 : Int32) (x2 : Int32) (I : Nat → Int32) (J : Nat → Int64) (B : Nat → Nat → Int32) (D : Nat → Nat → Int64) : Prop :=
  ((x1 ≤ x2 → wc_LassoFinderModel_sooner_73 a0 Post x1 x2 I J B D) ∧ (¬ x1 ≤ x2 → wp_LassoFinderModel_stepOf_ad56 I J B D x2 (fun r9 I9 J9 B9 D9 => ∀ z10 : Int32, z10 = ((I9 24) + x2) → wp_LassoFinderModel_stepOf_ad55 I9 J9 B9 D9 z10 (fun r11 I11 J11 B11 D11 => ((¬ r9 = r11 → wc_LassoFinderModel_sooner_73 a0 Post x1 x2 I11 J11 B11 D11) ∧ (r9 = r11 → ∀ z13 : Int32, z13 = (x2 + 1) → K38 x1 z13 I11 J11 B11 D11))))))
def wl_LassoFinderModel_sooner_38 (a0 : Int32) (Post : Int32 → (Nat → Int32) → (Nat → Int64) → (Nat → Nat → Int32) → (Nat → Nat → Int64) → Prop) (n : Nat) : Int32 → Int32 → (Nat → Int32) → (Nat → Int64) → (Nat → Nat → Int32) → (Nat → Nat → Int64) → Prop := Nat.rec (fun _ _ _ _ _ _ => False) (fun _ r => wb_LassoFinderModel_sooner_38 a0 r Post) n
def wp_LassoFinderModel_sooner (I : Nat → Int32) (J : Nat → Int64) (B : Nat → Nat → Int32) (D : Nat → Nat → Int64) (a0 : Int32) (Post : Int32 → (Nat → Int32) → (Nat → Int64) → (Nat → Nat → Int32) → (Nat → Nat → Int64) → Prop) : Prop :=
  (((I 25) = 0 → wc_LassoFinderModel_sooner_15 a0 Post a0 I J B D) ∧ (¬ (I 25) = 0 → ((a0 = (I 25) → ∃ n : Nat, wl_LassoFinderModel_sooner_38 a0 Post n a0 0 I J B D) ∧ (¬ a0 = (I 25) → wc_LassoFinderModel_sooner_15 a0 Post a0 I J B D))))
set_option maxHeartbeats 8000000 in
set_option maxRecDepth 100000 in
theorem wJ_LassoFinderModel_sooner_35 {p : Program} {l : Launch} {e : Env} {s : State} {m : MethodId} {below : List Frame} {meth : Method} {c : Code} {A : Nat → Prop} (G : va_G) (K : Nat → ClassId) (ad : Nat → Nat) (a0 : Int32) (Post : Int32 → (Nat → Int32) → (Nat → Int64) → (Nat → Nat → Int32) → (Nat → Nat → Int64) → Prop) (C : zCx p s m ([.ref (ad 0), .int a0] : List Value).toArray meth c A G K prog_14_method_65_code (some .boolean) 3 "LassoFinderModel") : ∀ (y0 : Int32) (I : Nat → Int32) (J : Nat → Int64) (B : Nat → Nat → Int32) (D : Nat → Nat → Int64) (ls : Array Slot) (H : Heap) (locs : List Loc), wc_LassoFinderModel_sooner_35 a0 Post y0 I J B D → lv_has ls 3 [] → zW G A s.heap (wM ad K I J B D) H locs → W p l e { frames := 1, cells := 0, slots := 0, locals := 21 } s m ([.ref (ad 0), .int a0] : List Value).toArray below meth c H locs 0 0 (MQ below (va_Qi (fun (r : Int32) (u : zS) => Post r u.1 u.2.1 u.2.2.1 u.2.2.2) (fun u t => zPost G K A (wM ad K u.1 u.2.1 u.2.2.1 u.2.2.2) t) A) ([.ref (ad 0), .int a0] : List Value).toArray s 0 0 A) (F0 m 35 ls [.int y0]) := by
  obtain ⟨hx, hb, hr, hml, hts, hown, hlocks, hA, hK⟩ := id C
  intro y0 I J B D ls H locs hok hl hw
  unfold wc_LassoFinderModel_sooner_35 at hok
  have hbo := hok.1
  have hok := hok.2
  exact (z_iret (u := (I, J, B, D)) hx hb hr hlocks (z_nar hbo) hw (List.range 58) wM_all wM_nd hok (Nat.le_of_ble_eq_true rfl) (Nat.le_of_ble_eq_true rfl) zd_LassoFinderModel_sooner_35)
set_option maxHeartbeats 8000000 in
set_option maxRecDepth 100000 in
theorem wJ_LassoFinderModel_sooner_30 {p : Program} {l : Launch} {e : Env} {s : State} {m : MethodId} {below : List Frame} {meth : Method} {c : Code} {A : Nat → Prop} (G : va_G) (K : Nat → ClassId) (ad : Nat → Nat) (a0 : Int32) (Post : Int32 → (Nat → Int32) → (Nat → Int64) → (Nat → Nat → Int32) → (Nat → Nat → Int64) → Prop) (C : zCx p s m ([.ref (ad 0), .int a0] : List Value).toArray meth c A G K prog_14_method_65_code (some .boolean) 3 "LassoFinderModel") : ∀  (I : Nat → Int32) (J : Nat → Int64) (B : Nat → Nat → Int32) (D : Nat → Nat → Int64) (ls : Array Slot) (H : Heap) (locs : List Loc), wc_LassoFinderModel_sooner_30 a0 Post  I J B D → lv_has ls 3 [] → zW G A s.heap (wM ad K I J B D) H locs → W p l e { frames := 1, cells := 0, slots := 0, locals := 21 } s m ([.ref (ad 0), .int a0] : List Value).toArray below meth c H locs 0 0 (MQ below (va_Qi (fun (r : Int32) (u : zS) => Post r u.1 u.2.1 u.2.2.1 u.2.2.2) (fun u t => zPost G K A (wM ad K u.1 u.2.1 u.2.2.1 u.2.2.2) t) A) ([.ref (ad 0), .int a0] : List Value).toArray s 0 0 A) (F0 m 30 ls []) := by
  obtain ⟨hx, hb, hr, hml, hts, hown, hlocks, hA, hK⟩ := id C
  intro  I J B D ls H locs hok hl hw
  unfold wc_LassoFinderModel_sooner_30 at hok
  refine lv_iconst (v := 1) hx hb zd_LassoFinderModel_sooner_30 (by decide) ?_
  refine lv_goto (tgt := 35) hx hb zd_LassoFinderModel_sooner_31 (by decide) ?_
  exact wJ_LassoFinderModel_sooner_35 G K ad a0 Post C 1 I J B D ls H locs hok (lv_sub hl [] rfl) hw
set_option maxHeartbeats 8000000 in
set_option maxRecDepth 100000 in
theorem wJ_LassoFinderModel_sooner_15 {p : Program} {l : Launch} {e : Env} {s : State} {m : MethodId} {below : List Frame} {meth : Method} {c : Code} {A : Nat → Prop} (G : va_G) (K : Nat → ClassId) (ad : Nat → Nat) (a0 : Int32) (Post : Int32 → (Nat → Int32) → (Nat → Int64) → (Nat → Nat → Int32) → (Nat → Nat → Int64) → Prop) (C : zCx p s m ([.ref (ad 0), .int a0] : List Value).toArray meth c A G K prog_14_method_65_code (some .boolean) 3 "LassoFinderModel") : ∀ (x1 : Int32) (I : Nat → Int32) (J : Nat → Int64) (B : Nat → Nat → Int32) (D : Nat → Nat → Int64) (ls : Array Slot) (H : Heap) (locs : List Loc), wc_LassoFinderModel_sooner_15 a0 Post x1 I J B D → lv_has ls 3 [(0, .ref (ad 0)), (1, .int x1)] → zW G A s.heap (wM ad K I J B D) H locs → W p l e { frames := 1, cells := 0, slots := 0, locals := 21 } s m ([.ref (ad 0), .int a0] : List Value).toArray below meth c H locs 0 0 (MQ below (va_Qi (fun (r : Int32) (u : zS) => Post r u.1 u.2.1 u.2.2.1 u.2.2.2) (fun u t => zPost G K A (wM ad K u.1 u.2.1 u.2.2.1 u.2.2.2) t) A) ([.ref (ad 0), .int a0] : List Value).toArray s 0 0 A) (F0 m 15 ls []) := by
  obtain ⟨hx, hb, hr, hml, hts, hown, hlocks, hA, hK⟩ := id C
  intro x1 I J B D ls H locs hok hl hw
  unfold wc_LassoFinderModel_sooner_15 at hok
  refine lv_aload_n hx hb zd_LassoFinderModel_sooner_15 rfl (lv_at hl 0 rfl) ?_
  refine z_get (v := .int (I 25)) hx hb hts hown hK hw zZ12 0 wM_g0 79 (by decide) zm_371 rfl zd_LassoFinderModel_sooner_16 ?_
  refine lv_if_eq (tgt := 30) hx hb zd_LassoFinderModel_sooner_19 (by decide) (fun hc1 => ?_) (fun hc1 => ?_)
  · have hok := hok.1 hc1
    exact wJ_LassoFinderModel_sooner_30 G K ad a0 Post C I J B D ls H locs hok (lv_sub hl [] rfl) hw
  · have hok := hok.2 hc1
    refine lv_iload_n hx hb zd_LassoFinderModel_sooner_22 rfl (lv_at hl 1 rfl) ?_
    refine lv_aload_n hx hb zd_LassoFinderModel_sooner_23 rfl (lv_at hl 0 rfl) ?_
    refine z_get (v := .int (I 25)) hx hb hts hown hK hw zZ12 0 wM_g0 79 (by decide) zm_371 rfl zd_LassoFinderModel_sooner_24 ?_
    refine lv_icmp_ge (tgt := 34) hx hb zd_LassoFinderModel_sooner_27 (by decide) (fun hc2 => ?_) (fun hc2 => ?_)
    · have hok := hok.1 hc2
      refine lv_iconst (v := 0) hx hb zd_LassoFinderModel_sooner_34 (by decide) ?_
      exact wJ_LassoFinderModel_sooner_35 G K ad a0 Post C 0 I J B D ls H locs hok (lv_sub hl [] rfl) hw
    · have hok := hok.2 hc2
      exact wJ_LassoFinderModel_sooner_30 G K ad a0 Post C I J B D ls H locs hok (lv_sub hl [] rfl) hw
set_option maxHeartbeats 8000000 in
set_option maxRecDepth 100000 in
theorem wJ_LassoFinderModel_sooner_107 {p : Program} {l : Launch} {e : Env} {s : State} {m : MethodId} {below : List Frame} {meth : Method} {c : Code} {A : Nat → Prop} (G : va_G) (K : Nat → ClassId) (ad : Nat → Nat) (a0 : Int32) (Post : Int32 → (Nat → Int32) → (Nat → Int64) → (Nat → Nat → Int32) → (Nat → Nat → Int64) → Prop) (C : zCx p s m ([.ref (ad 0), .int a0] : List Value).toArray meth c A G K prog_14_method_65_code (some .boolean) 3 "LassoFinderModel") : ∀ (y0 : Int32) (I : Nat → Int32) (J : Nat → Int64) (B : Nat → Nat → Int32) (D : Nat → Nat → Int64) (ls : Array Slot) (H : Heap) (locs : List Loc), wc_LassoFinderModel_sooner_107 a0 Post y0 I J B D → lv_has ls 3 [] → zW G A s.heap (wM ad K I J B D) H locs → W p l e { frames := 1, cells := 0, slots := 0, locals := 21 } s m ([.ref (ad 0), .int a0] : List Value).toArray below meth c H locs 0 0 (MQ below (va_Qi (fun (r : Int32) (u : zS) => Post r u.1 u.2.1 u.2.2.1 u.2.2.2) (fun u t => zPost G K A (wM ad K u.1 u.2.1 u.2.2.1 u.2.2.2) t) A) ([.ref (ad 0), .int a0] : List Value).toArray s 0 0 A) (F0 m 107 ls [.int y0]) := by
  obtain ⟨hx, hb, hr, hml, hts, hown, hlocks, hA, hK⟩ := id C
  intro y0 I J B D ls H locs hok hl hw
  unfold wc_LassoFinderModel_sooner_107 at hok
  have hbo := hok.1
  have hok := hok.2
  exact (z_iret (u := (I, J, B, D)) hx hb hr hlocks (z_nar hbo) hw (List.range 58) wM_all wM_nd hok (Nat.le_of_ble_eq_true rfl) (Nat.le_of_ble_eq_true rfl) zd_LassoFinderModel_sooner_107)
set_option maxHeartbeats 8000000 in
set_option maxRecDepth 100000 in
theorem wJ_LassoFinderModel_sooner_106 {p : Program} {l : Launch} {e : Env} {s : State} {m : MethodId} {below : List Frame} {meth : Method} {c : Code} {A : Nat → Prop} (G : va_G) (K : Nat → ClassId) (ad : Nat → Nat) (a0 : Int32) (Post : Int32 → (Nat → Int32) → (Nat → Int64) → (Nat → Nat → Int32) → (Nat → Nat → Int64) → Prop) (C : zCx p s m ([.ref (ad 0), .int a0] : List Value).toArray meth c A G K prog_14_method_65_code (some .boolean) 3 "LassoFinderModel") : ∀  (I : Nat → Int32) (J : Nat → Int64) (B : Nat → Nat → Int32) (D : Nat → Nat → Int64) (ls : Array Slot) (H : Heap) (locs : List Loc), wc_LassoFinderModel_sooner_106 a0 Post  I J B D → lv_has ls 3 [] → zW G A s.heap (wM ad K I J B D) H locs → W p l e { frames := 1, cells := 0, slots := 0, locals := 21 } s m ([.ref (ad 0), .int a0] : List Value).toArray below meth c H locs 0 0 (MQ below (va_Qi (fun (r : Int32) (u : zS) => Post r u.1 u.2.1 u.2.2.1 u.2.2.2) (fun u t => zPost G K A (wM ad K u.1 u.2.1 u.2.2.1 u.2.2.2) t) A) ([.ref (ad 0), .int a0] : List Value).toArray s 0 0 A) (F0 m 106 ls []) := by
  obtain ⟨hx, hb, hr, hml, hts, hown, hlocks, hA, hK⟩ := id C
  intro  I J B D ls H locs hok hl hw
  unfold wc_LassoFinderModel_sooner_106 at hok
  refine lv_iconst (v := 0) hx hb zd_LassoFinderModel_sooner_106 (by decide) ?_
  exact wJ_LassoFinderModel_sooner_107 G K ad a0 Post C 0 I J B D ls H locs hok (lv_sub hl [] rfl) hw
set_option maxHeartbeats 8000000 in
set_option maxRecDepth 100000 in
theorem wJ_LassoFinderModel_sooner_73 {p : Program} {l : Launch} {e : Env} {s : State} {m : MethodId} {below : List Frame} {meth : Method} {c : Code} {A : Nat → Prop} (G : va_G) (K : Nat → ClassId) (ad : Nat → Nat) (a0 : Int32) (Post : Int32 → (Nat → Int32) → (Nat → Int64) → (Nat → Nat → Int32) → (Nat → Nat → Int64) → Prop) (C : zCx p s m ([.ref (ad 0), .int a0] : List Value).toArray meth c A G K prog_14_method_65_code (some .boolean) 3 "LassoFinderModel") : ∀ (x1 : Int32) (x2 : Int32) (I : Nat → Int32) (J : Nat → Int64) (B : Nat → Nat → Int32) (D : Nat → Nat → Int64) (ls : Array Slot) (H : Heap) (locs : List Loc), wc_LassoFinderModel_sooner_73 a0 Post x1 x2 I J B D → lv_has ls 3 [(0, .ref (ad 0)), (1, .int x1), (2, .int x2)] → zW G A s.heap (wM ad K I J B D) H locs → W p l e { frames := 1, cells := 0, slots := 0, locals := 21 } s m ([.ref (ad 0), .int a0] : List Value).toArray below meth c H locs 0 0 (MQ below (va_Qi (fun (r : Int32) (u : zS) => Post r u.1 u.2.1 u.2.2.1 u.2.2.2) (fun u t => zPost G K A (wM ad K u.1 u.2.1 u.2.2.1 u.2.2.2) t) A) ([.ref (ad 0), .int a0] : List Value).toArray s 0 0 A) (F0 m 73 ls []) := by
  obtain ⟨hx, hb, hr, hml, hts, hown, hlocks, hA, hK⟩ := id C
  intro x1 x2 I J B D ls H locs hok hl hw
  unfold wc_LassoFinderModel_sooner_73 at hok
  refine lv_iload_n hx hb zd_LassoFinderModel_sooner_73 rfl (lv_at hl 2 rfl) ?_
  refine lv_iload_n hx hb zd_LassoFinderModel_sooner_74 rfl (lv_at hl 1 rfl) ?_
  refine lv_icmp_ge (tgt := 106) hx hb zd_LassoFinderModel_sooner_75 (by decide) (fun hc3 => ?_) (fun hc3 => ?_)
  · have hok := hok.1 hc3
    exact wJ_LassoFinderModel_sooner_106 G K ad a0 Post C I J B D ls H locs hok (lv_sub hl [] rfl) hw
  · have hok := hok.2 hc3
    refine lv_aload_n hx hb zd_LassoFinderModel_sooner_78 rfl (lv_at hl 0 rfl) ?_
    refine z_get (v := .ref (ad 56)) hx hb hts hown hK hw zZ12 0 wM_g0 81 (by decide) zm_290 rfl zd_LassoFinderModel_sooner_79 ?_
    refine lv_iload_n hx hb zd_LassoFinderModel_sooner_82 rfl (lv_at hl 2 rfl) ?_
    refine z_calli (w1 := fun (u : zS) => wM ad K u.1 u.2.1 u.2.2.1 u.2.2.2) (wr := []) (z_runS (wc := (wM ad K I J B D)) (As := [.ref (ad 56), .int x2]) (rest := []) ⟨hx, hb, hml, hown, hts⟩ (w_LassoFinderModel_stepOf_ad56 l G K ad I J B D x2 _ H.size hok) zf_LassoFinderModel_stepOf zm_367 ⟨Nat.le_of_ble_eq_true rfl, Nat.le_of_ble_eq_true rfl⟩ hK hw (List.range 58) wM_all wM_nd rfl hl.1 rfl (Nat.le_of_ble_eq_true rfl) zd_LassoFinderModel_sooner_83 ⟨Nat.le_of_ble_eq_true rfl, Nat.le_of_ble_eq_true rfl⟩) hw hA (List.range 58) [] wM_all rfl (by decide) (fun i hi => by cases hi) (fun r4 u H locs hok hw => ?_)
    obtain ⟨I4, J4, B4, D4⟩ := u
    dsimp only at hok
    have hw : zW G A s.heap (wM ad K I4 J4 B4 D4) H locs := hw
    refine lv_aload_n hx hb zd_LassoFinderModel_sooner_86 rfl (lv_at hl 0 rfl) ?_
    refine z_get (v := .ref (ad 55)) hx hb hts hown hK hw zZ12 0 wM_g0 80 (by decide) zm_289 rfl zd_LassoFinderModel_sooner_87 ?_
    refine lv_aload_n hx hb zd_LassoFinderModel_sooner_90 rfl (lv_at hl 0 rfl) ?_
    refine z_get (v := .int (I4 24)) hx hb hts hown hK hw zZ12 0 wM_g0 78 (by decide) zm_330 rfl zd_LassoFinderModel_sooner_91 ?_
    refine lv_iload_n hx hb zd_LassoFinderModel_sooner_94 rfl (lv_at hl 2 rfl) ?_
    refine lv_iadd hx hb zd_LassoFinderModel_sooner_95 ?_
    refine lv_topi (fun z5 ez5 => ?_)
    have hok := hok z5 ez5
    refine z_calli (w1 := fun (u : zS) => wM ad K u.1 u.2.1 u.2.2.1 u.2.2.2) (wr := []) (z_runS (wc := (wM ad K I4 J4 B4 D4)) (As := [.ref (ad 55), .int z5]) (rest := [.int r4]) ⟨hx, hb, hml, hown, hts⟩ (w_LassoFinderModel_stepOf_ad55 l G K ad I4 J4 B4 D4 z5 _ H.size hok) zf_LassoFinderModel_stepOf zm_367 ⟨Nat.le_of_ble_eq_true rfl, Nat.le_of_ble_eq_true rfl⟩ hK hw (List.range 58) wM_all wM_nd rfl hl.1 rfl (Nat.le_of_ble_eq_true rfl) zd_LassoFinderModel_sooner_96 ⟨Nat.le_of_ble_eq_true rfl, Nat.le_of_ble_eq_true rfl⟩) hw hA (List.range 58) [] wM_all rfl (by decide) (fun i hi => by cases hi) (fun r6 u H locs hok hw => ?_)
    obtain ⟨I6, J6, B6, D6⟩ := u
    dsimp only at hok
    have hw : zW G A s.heap (wM ad K I6 J6 B6 D6) H locs := hw
    refine lv_icmp_ge (tgt := 106) hx hb zd_LassoFinderModel_sooner_99 (by decide) (fun hc7 => ?_) (fun hc7 => ?_)
    · have hok := hok.1 hc7
      exact wJ_LassoFinderModel_sooner_106 G K ad a0 Post C I6 J6 B6 D6 ls H locs hok (lv_sub hl [] rfl) hw
    · have hok := hok.2 hc7
      refine lv_iconst (v := 1) hx hb zd_LassoFinderModel_sooner_102 (by decide) ?_
      refine lv_goto (tgt := 107) hx hb zd_LassoFinderModel_sooner_103 (by decide) ?_
      exact wJ_LassoFinderModel_sooner_107 G K ad a0 Post C 1 I6 J6 B6 D6 ls H locs hok (lv_sub hl [] rfl) hw
set_option maxHeartbeats 8000000 in
set_option maxRecDepth 100000 in
theorem wB_LassoFinderModel_sooner_38 {p : Program} {l : Launch} {e : Env} {s : State} {m : MethodId} {below : List Frame} {meth : Method} {c : Code} {A : Nat → Prop} (G : va_G) (K : Nat → ClassId) (ad : Nat → Nat) (a0 : Int32) (Post : Int32 → (Nat → Int32) → (Nat → Int64) → (Nat → Nat → Int32) → (Nat → Nat → Int64) → Prop) (C : zCx p s m ([.ref (ad 0), .int a0] : List Value).toArray meth c A G K prog_14_method_65_code (some .boolean) 3 "LassoFinderModel") (K38 : Int32 → Int32 → (Nat → Int32) → (Nat → Int64) → (Nat → Nat → Int32) → (Nat → Nat → Int64) → Prop) (kh38 : ∀ (x1 : Int32) (x2 : Int32) (I : Nat → Int32) (J : Nat → Int64) (B : Nat → Nat → Int32) (D : Nat → Nat → Int64) (ls : Array Slot) (H : Heap) (locs : List Loc), K38 x1 x2 I J B D → lv_has ls 3 [(0, .ref (ad 0)), (1, .int x1), (2, .int x2)] → zW G A s.heap (wM ad K I J B D) H locs → W p l e { frames := 1, cells := 0, slots := 0, locals := 21 } s m ([.ref (ad 0), .int a0] : List Value).toArray below meth c H locs 0 0 (MQ below (va_Qi (fun (r : Int32) (u : zS) => Post r u.1 u.2.1 u.2.2.1 u.2.2.2) (fun u t => zPost G K A (wM ad K u.1 u.2.1 u.2.2.1 u.2.2.2) t) A) ([.ref (ad 0), .int a0] : List Value).toArray s 0 0 A) (F0 m 38 ls [])) : ∀ (x1 : Int32) (x2 : Int32) (I : Nat → Int32) (J : Nat → Int64) (B : Nat → Nat → Int32) (D : Nat → Nat → Int64) (ls : Array Slot) (H : Heap) (locs : List Loc), wb_LassoFinderModel_sooner_38 a0 K38 Post x1 x2 I J B D → lv_has ls 3 [(0, .ref (ad 0)), (1, .int x1), (2, .int x2)] → zW G A s.heap (wM ad K I J B D) H locs → W p l e { frames := 1, cells := 0, slots := 0, locals := 21 } s m ([.ref (ad 0), .int a0] : List Value).toArray below meth c H locs 0 0 (MQ below (va_Qi (fun (r : Int32) (u : zS) => Post r u.1 u.2.1 u.2.2.1 u.2.2.2) (fun u t => zPost G K A (wM ad K u.1 u.2.1 u.2.2.1 u.2.2.2) t) A) ([.ref (ad 0), .int a0] : List Value).toArray s 0 0 A) (F0 m 38 ls []) := by
  obtain ⟨hx, hb, hr, hml, hts, hown, hlocks, hA, hK⟩ := id C
  intro x1 x2 I J B D ls H locs hok hl hw
  unfold wb_LassoFinderModel_sooner_38 at hok
  refine lv_iload_n hx hb zd_LassoFinderModel_sooner_38 rfl (lv_at hl 2 rfl) ?_
  refine lv_iload_n hx hb zd_LassoFinderModel_sooner_39 rfl (lv_at hl 1 rfl) ?_
  refine lv_icmp_ge (tgt := 73) hx hb zd_LassoFinderModel_sooner_40 (by decide) (fun hc8 => ?_) (fun hc8 => ?_)
  · have hok := hok.1 hc8
    exact wJ_LassoFinderModel_sooner_73 G K ad a0 Post C x1 x2 I J B D ls H locs hok (lv_sub hl [0, 1, 2] rfl) hw
  · have hok := hok.2 hc8
    refine lv_aload_n hx hb zd_LassoFinderModel_sooner_43 rfl (lv_at hl 0 rfl) ?_
    refine z_get (v := .ref (ad 56)) hx hb hts hown hK hw zZ12 0 wM_g0 81 (by decide) zm_290 rfl zd_LassoFinderModel_sooner_44 ?_
    refine lv_iload_n hx hb zd_LassoFinderModel_sooner_47 rfl (lv_at hl 2 rfl) ?_
    refine z_calli (w1 := fun (u : zS) => wM ad K u.1 u.2.1 u.2.2.1 u.2.2.2) (wr := []) (z_runS (wc := (wM ad K I J B D)) (As := [.ref (ad 56), .int x2]) (rest := []) ⟨hx, hb, hml, hown, hts⟩ (w_LassoFinderModel_stepOf_ad56 l G K ad I J B D x2 _ H.size hok) zf_LassoFinderModel_stepOf zm_367 ⟨Nat.le_of_ble_eq_true rfl, Nat.le_of_ble_eq_true rfl⟩ hK hw (List.range 58) wM_all wM_nd rfl hl.1 rfl (Nat.le_of_ble_eq_true rfl) zd_LassoFinderModel_sooner_48 ⟨Nat.le_of_ble_eq_true rfl, Nat.le_of_ble_eq_true rfl⟩) hw hA (List.range 58) [] wM_all rfl (by decide) (fun i hi => by cases hi) (fun r9 u H locs hok hw => ?_)
    obtain ⟨I9, J9, B9, D9⟩ := u
    dsimp only at hok
    have hw : zW G A s.heap (wM ad K I9 J9 B9 D9) H locs := hw
    refine lv_aload_n hx hb zd_LassoFinderModel_sooner_51 rfl (lv_at hl 0 rfl) ?_
    refine z_get (v := .ref (ad 55)) hx hb hts hown hK hw zZ12 0 wM_g0 80 (by decide) zm_289 rfl zd_LassoFinderModel_sooner_52 ?_
    refine lv_aload_n hx hb zd_LassoFinderModel_sooner_55 rfl (lv_at hl 0 rfl) ?_
    refine z_get (v := .int (I9 24)) hx hb hts hown hK hw zZ12 0 wM_g0 78 (by decide) zm_330 rfl zd_LassoFinderModel_sooner_56 ?_
    refine lv_iload_n hx hb zd_LassoFinderModel_sooner_59 rfl (lv_at hl 2 rfl) ?_
    refine lv_iadd hx hb zd_LassoFinderModel_sooner_60 ?_
    refine lv_topi (fun z10 ez10 => ?_)
    have hok := hok z10 ez10
    refine z_calli (w1 := fun (u : zS) => wM ad K u.1 u.2.1 u.2.2.1 u.2.2.2) (wr := []) (z_runS (wc := (wM ad K I9 J9 B9 D9)) (As := [.ref (ad 55), .int z10]) (rest := [.int r9]) ⟨hx, hb, hml, hown, hts⟩ (w_LassoFinderModel_stepOf_ad55 l G K ad I9 J9 B9 D9 z10 _ H.size hok) zf_LassoFinderModel_stepOf zm_367 ⟨Nat.le_of_ble_eq_true rfl, Nat.le_of_ble_eq_true rfl⟩ hK hw (List.range 58) wM_all wM_nd rfl hl.1 rfl (Nat.le_of_ble_eq_true rfl) zd_LassoFinderModel_sooner_61 ⟨Nat.le_of_ble_eq_true rfl, Nat.le_of_ble_eq_true rfl⟩) hw hA (List.range 58) [] wM_all rfl (by decide) (fun i hi => by cases hi) (fun r11 u H locs hok hw => ?_)
    obtain ⟨I11, J11, B11, D11⟩ := u
    dsimp only at hok
    have hw : zW G A s.heap (wM ad K I11 J11 B11 D11) H locs := hw
    refine lv_icmp_ne (tgt := 73) hx hb zd_LassoFinderModel_sooner_64 (by decide) (fun hc12 => ?_) (fun hc12 => ?_)
    · have hok := hok.1 hc12
      exact wJ_LassoFinderModel_sooner_73 G K ad a0 Post C x1 x2 I11 J11 B11 D11 ls H locs hok (lv_sub hl [0, 1, 2] rfl) hw
    · have hok := hok.2 hc12
      obtain ⟨z13, ez13⟩ : ∃ z : Int32, z = (x2 + 1) := ⟨_, rfl⟩
      have hok := hok z13 ez13
      refine lv_iinc (v := z13) hx hb zd_LassoFinderModel_sooner_67 hl (k := 2) rfl ez13.symm (by decide) rfl (fun ls hl => ?_)
      have hl : lv_has ls 3 [(2, .int z13), (0, .ref (ad 0)), (1, .int x1)] := hl
      refine lv_goto (tgt := 38) hx hb zd_LassoFinderModel_sooner_70 (by decide) ?_
      exact kh38 x1 z13 I11 J11 B11 D11 ls H locs hok (lv_sub hl [1, 2, 0] rfl) hw
theorem wL_LassoFinderModel_sooner_38 {p : Program} {l : Launch} {e : Env} {s : State} {m : MethodId} {below : List Frame} {meth : Method} {c : Code} {A : Nat → Prop} (G : va_G) (K : Nat → ClassId) (ad : Nat → Nat) (a0 : Int32) (Post : Int32 → (Nat → Int32) → (Nat → Int64) → (Nat → Nat → Int32) → (Nat → Nat → Int64) → Prop) (C : zCx p s m ([.ref (ad 0), .int a0] : List Value).toArray meth c A G K prog_14_method_65_code (some .boolean) 3 "LassoFinderModel") : ∀ (n : Nat) (x1 : Int32) (x2 : Int32) (I : Nat → Int32) (J : Nat → Int64) (B : Nat → Nat → Int32) (D : Nat → Nat → Int64) (ls : Array Slot) (H : Heap) (locs : List Loc), wl_LassoFinderModel_sooner_38 a0 Post n x1 x2 I J B D → lv_has ls 3 [(0, .ref (ad 0)), (1, .int x1), (2, .int x2)] → zW G A s.heap (wM ad K I J B D) H locs → W p l e { frames := 1, cells := 0, slots := 0, locals := 21 } s m ([.ref (ad 0), .int a0] : List Value).toArray below meth c H locs 0 0 (MQ below (va_Qi (fun (r : Int32) (u : zS) => Post r u.1 u.2.1 u.2.2.1 u.2.2.2) (fun u t => zPost G K A (wM ad K u.1 u.2.1 u.2.2.1 u.2.2.2) t) A) ([.ref (ad 0), .int a0] : List Value).toArray s 0 0 A) (F0 m 38 ls []) := by
  intro n
  induction n with
  | zero => intro x1 x2 I J B D ls H locs hok; exact hok.elim
  | succ n ih => exact wB_LassoFinderModel_sooner_38 G K ad a0 Post C (wl_LassoFinderModel_sooner_38 a0 Post n) ih
set_option maxHeartbeats 8000000 in
set_option maxRecDepth 100000 in
theorem w_LassoFinderModel_sooner (l : Launch) (G : va_G) (K : Nat → ClassId) (ad : Nat → Nat) (I : Nat → Int32) (J : Nat → Int64) (B : Nat → Nat → Int32) (D : Nat → Nat → Int64) (a0 : Int32) (Post : Int32 → (Nat → Int32) → (Nat → Int64) → (Nat → Nat → Int32) → (Nat → Nat → Int64) → Prop) (sz : Nat) (hok : wp_LassoFinderModel_sooner I J B D a0 Post) : Met l zy_LassoFinderModel_sooner (Cond.code zy_LassoFinderModel_sooner prog_14_method_65_code 3 (some .boolean) :: zTB) { frames := 1, cells := 0, slots := 0, locals := 21 } (va_Pc [.ref (ad 0), .int a0] (zPre G K (wM ad K I J B D) sz)) (va_Qi (fun (r : Int32) (u : zS) => Post r u.1 u.2.1 u.2.2.1 u.2.2.2) (fun u t => zPost G K (va_A (wM ad K I J B D) sz) (wM ad K u.1 u.2.1 u.2.2.1 u.2.2.2) t) (va_A (wM ad K I J B D) sz)) 0 0 (va_A (wM ad K I J B D) sz) := by
  refine zMet (y := zy_LassoFinderModel_sooner) (av := [.ref (ad 0), .int a0]) (maxL := 3) (cc := prog_14_method_65_code) (ret := (some .boolean)) (W0 := (wM ad K I J B D)) (sz := sz) (G := G) (K := K) (wt := zTB) (mc := 0) (ms := 0) (Qf := fun A => va_Qi (fun (r : Int32) (u : zS) => Post r u.1 u.2.1 u.2.2.1 u.2.2.2) (fun u t => zPost G K A (wM ad K u.1 u.2.1 u.2.2.1 u.2.2.2) t) A) (by decide) (Nat.le_of_ble_eq_true rfl) ?_
  intro p e s m below meth c ls A hx hb hr hml hts hown hlocks hin hA hK H locs hw hsz hl
  clear hsz
  have hown : s.vm.findClass "LassoFinderModel" = some m.cls := hown
  have C : zCx p s m ([.ref (ad 0), .int a0] : List Value).toArray meth c A G K prog_14_method_65_code (some .boolean) 3 "LassoFinderModel" := ⟨hx, hb, hr, hml, hts, hown, hlocks, hA, hK⟩
  have hl : lv_has ls 3 [(0, .ref (ad 0)), (1, .int a0)] := hl
  have hw : zW G A s.heap (wM ad K I J B D) H locs := hw
  unfold wp_LassoFinderModel_sooner at hok
  refine lv_aload_n hx hb zd_LassoFinderModel_sooner_0 rfl (lv_at hl 0 rfl) ?_
  refine z_get (v := .int (I 25)) hx hb hts hown hK hw zZ12 0 wM_g0 79 (by decide) zm_371 rfl zd_LassoFinderModel_sooner_1 ?_
  refine lv_if_eq (tgt := 15) hx hb zd_LassoFinderModel_sooner_4 (by decide) (fun hc14 => ?_) (fun hc14 => ?_)
  · have hok := hok.1 hc14
    exact wJ_LassoFinderModel_sooner_15 G K ad a0 Post C a0 I J B D ls H locs hok (lv_sub hl [0, 1] rfl) hw
  · have hok := hok.2 hc14
    refine lv_iload_n hx hb zd_LassoFinderModel_sooner_7 rfl (lv_at hl 1 rfl) ?_
    refine lv_aload_n hx hb zd_LassoFinderModel_sooner_8 rfl (lv_at hl 0 rfl) ?_
    refine z_get (v := .int (I 25)) hx hb hts hown hK hw zZ12 0 wM_g0 79 (by decide) zm_371 rfl zd_LassoFinderModel_sooner_9 ?_
    refine lv_icmp_eq (tgt := 36) hx hb zd_LassoFinderModel_sooner_12 (by decide) (fun hc15 => ?_) (fun hc15 => ?_)
    · have hok := hok.1 hc15
      refine lv_iconst (v := 0) hx hb zd_LassoFinderModel_sooner_36 (by decide) ?_
      refine lv_istore_n hx hb zd_LassoFinderModel_sooner_37 rfl hl (by decide) rfl (fun ls hl => ?_)
      have hl : lv_has ls 3 [(2, .int 0), (0, .ref (ad 0)), (1, .int a0)] := hl
      obtain ⟨n9, hok⟩ := hok
      exact wL_LassoFinderModel_sooner_38 G K ad a0 Post C n9 a0 0 I J B D ls H locs hok (lv_sub hl [1, 2, 0] rfl) hw
    · have hok := hok.2 hc15
      exact wJ_LassoFinderModel_sooner_15 G K ad a0 Post C a0 I J B D ls H locs hok (lv_sub hl [0, 1] rfl) hw
