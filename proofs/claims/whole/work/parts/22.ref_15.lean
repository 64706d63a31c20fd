abbrev zy_LassoFinderModel_spread : MethodName := ⟨"LassoFinderModel", "spread", "(I)Z"⟩
abbrev zy_LassoFinderModel_round : MethodName := ⟨"LassoFinderModel", "round", "(II)I"⟩
abbrev zy_LassoFinderModel_sooner : MethodName := ⟨"LassoFinderModel", "sooner", "(I)Z"⟩
theorem zm_286 : Cond.fieldLink "LassoFinderModel" 169 "LassoFinderModel" "deep" "[I" ∈ zTB := z_in (zt_6 _ (List.mem_of_getElem? (i := 169) rfl)) rfl
theorem zm_289 : Cond.fieldLink "LassoFinderModel" 181 "LassoFinderModel" "row" "[I" ∈ zTB := z_in (zt_6 _ (List.mem_of_getElem? (i := 174) rfl)) rfl
theorem zm_290 : Cond.fieldLink "LassoFinderModel" 184 "LassoFinderModel" "tried" "[I" ∈ zTB := z_in (zt_6 _ (List.mem_of_getElem? (i := 175) rfl)) rfl
theorem zm_367 : Cond.methodLink "LassoFinderModel" 451 ⟨"LassoFinderModel", "stepOf", "([II)I"⟩ ∈ zTB := z_in (zt_8 _ (List.mem_of_getElem? (i := 110) rfl)) rfl
theorem zm_370 : Cond.methodLink "LassoFinderModel" 440 ⟨"LassoFinderModel", "keep", "([III)V"⟩ ∈ zTB := z_in (zt_8 _ (List.mem_of_getElem? (i := 107) rfl)) rfl
theorem zm_371 : Cond.fieldLink "LassoFinderModel" 448 "LassoFinderModel" "cycle" "I" ∈ zTB := z_in (zt_6 _ (List.mem_of_getElem? (i := 173) rfl)) rfl
theorem zm_372 : Cond.methodLink "LassoFinderModel" 434 ⟨"LassoFinderModel", "nearest", "(II)I"⟩ ∈ zTB := z_in (zt_8 _ (List.mem_of_getElem? (i := 75) rfl)) rfl
theorem zm_374 : Cond.methodLink "LassoFinderModel" 444 ⟨"LassoFinderModel", "ahead", "(IJI)J"⟩ ∈ zTB := z_in (zt_8 _ (List.mem_of_getElem? (i := 117) rfl)) rfl
theorem zm_480 : Cond.code ⟨"LassoFinderModel", "stepOf", "([II)I"⟩ prog_14_method_58_code 2 (some .int) ∈ zTB := z_in (zt_8 _ (List.mem_of_getElem? (i := 112) rfl)) rfl
theorem zm_481 : Cond.static ⟨"LassoFinderModel", "stepOf", "([II)I"⟩ ∈ zTB := z_in (zt_8 _ (List.mem_of_getElem? (i := 111) rfl)) rfl
theorem zm_482 : Cond.code ⟨"LassoFinderModel", "keep", "([III)V"⟩ prog_14_method_59_code 4 none ∈ zTB := z_in (zt_8 _ (List.mem_of_getElem? (i := 109) rfl)) rfl
theorem zm_483 : Cond.static ⟨"LassoFinderModel", "keep", "([III)V"⟩ ∈ zTB := z_in (zt_8 _ (List.mem_of_getElem? (i := 108) rfl)) rfl
theorem zm_484 : Cond.code ⟨"LassoFinderModel", "ahead", "(IJI)J"⟩ prog_14_method_63_code 12 (some .long) ∈ zTB := z_in (zt_8 _ (List.mem_of_getElem? (i := 120) rfl)) rfl
theorem zm_485 : Cond.instanceMethod ⟨"LassoFinderModel", "ahead", "(IJI)J"⟩ ∈ zTB := z_in (zt_8 _ (List.mem_of_getElem? (i := 119) rfl)) rfl
theorem zm_486 : Cond.code ⟨"LassoFinderModel", "nearest", "(II)I"⟩ prog_14_method_57_code 8 (some .int) ∈ zTB := z_in (zt_8 _ (List.mem_of_getElem? (i := 78) rfl)) rfl
theorem zm_487 : Cond.instanceMethod ⟨"LassoFinderModel", "nearest", "(II)I"⟩ ∈ zTB := z_in (zt_8 _ (List.mem_of_getElem? (i := 77) rfl)) rfl
theorem zf_LassoFinderModel_stepOf : zFaceS zy_LassoFinderModel_stepOf prog_14_method_58_code 2 (some .int) 2 := ⟨zm_481, zm_25, zm_480, by decide +kernel, by decide +kernel, by decide +kernel⟩
theorem zf_LassoFinderModel_keep : zFaceS zy_LassoFinderModel_keep prog_14_method_59_code 4 none 3 := ⟨zm_483, zm_25, zm_482, by decide +kernel, by decide +kernel, by decide +kernel⟩
theorem zf_LassoFinderModel_ahead : zFaceV zy_LassoFinderModel_ahead prog_14_method_63_code 12 (some .long) 3 := ⟨zm_485, (z_in (zp_8 _ (List.mem_of_getElem? (i := 12) rfl)) rfl), zm_25, zm_484, by decide +kernel, by decide +kernel, by decide +kernel⟩
theorem zf_LassoFinderModel_nearest : zFaceV zy_LassoFinderModel_nearest prog_14_method_57_code 8 (some .int) 2 := ⟨zm_487, (z_in (zp_8 _ (List.mem_of_getElem? (i := 3) rfl)) rfl), zm_25, zm_486, by decide +kernel, by decide +kernel, by decide +kernel⟩
theorem zd_LassoFinderModel_round_0 : decode prog_14_method_64_code 0 = .ok (.aload_n 0, 1) := by decide +kernel
theorem zd_LassoFinderModel_round_1 : decode prog_14_method_64_code 1 = .ok (.iload_n 1, 1) := by decide +kernel
theorem zd_LassoFinderModel_round_2 : decode prog_14_method_64_code 2 = .ok (.iload_n 2, 1) := by decide +kernel
theorem zd_LassoFinderModel_round_3 : decode prog_14_method_64_code 3 = .ok (.invokevirtual 434, 3) := by decide +kernel
theorem zd_LassoFinderModel_round_6 : decode prog_14_method_64_code 6 = .ok (.istore_n 3, 1) := by decide +kernel
theorem zd_LassoFinderModel_round_7 : decode prog_14_method_64_code 7 = .ok (.iload_n 1, 1) := by decide +kernel
theorem zd_LassoFinderModel_round_8 : decode prog_14_method_64_code 8 = .ok (.istore 4, 2) := by decide +kernel
theorem zd_LassoFinderModel_round_10 : decode prog_14_method_64_code 10 = .ok (.lconst 1, 1) := by decide +kernel
theorem zd_LassoFinderModel_round_11 : decode prog_14_method_64_code 11 = .ok (.bipush 8, 2) := by decide +kernel
theorem zd_LassoFinderModel_round_13 : decode prog_14_method_64_code 13 = .ok (.iload_n 2, 1) := by decide +kernel
theorem zd_LassoFinderModel_round_14 : decode prog_14_method_64_code 14 = .ok (.imul, 1) := by decide +kernel
theorem zd_LassoFinderModel_round_15 : decode prog_14_method_64_code 15 = .ok (.aload_n 0, 1) := by decide +kernel
theorem zd_LassoFinderModel_round_16 : decode prog_14_method_64_code 16 = .ok (.iload_n 1, 1) := by decide +kernel
theorem zd_LassoFinderModel_round_17 : decode prog_14_method_64_code 17 = .ok (.iload_n 2, 1) := by decide +kernel
theorem zd_LassoFinderModel_round_18 : decode prog_14_method_64_code 18 = .ok (.invokevirtual 419, 3) := by decide +kernel
theorem zd_LassoFinderModel_round_21 : decode prog_14_method_64_code 21 = .ok (.iadd, 1) := by decide +kernel
theorem zd_LassoFinderModel_round_22 : decode prog_14_method_64_code 22 = .ok (.lshl, 1) := by decide +kernel
theorem zd_LassoFinderModel_round_23 : decode prog_14_method_64_code 23 = .ok (.lstore 5, 2) := by decide +kernel
theorem zd_LassoFinderModel_round_25 : decode prog_14_method_64_code 25 = .ok (.iload_n 3, 1) := by decide +kernel
theorem zd_LassoFinderModel_round_26 : decode prog_14_method_64_code 26 = .ok (.iconst 1, 1) := by decide +kernel
theorem zd_LassoFinderModel_round_27 : decode prog_14_method_64_code 27 = .ok (.isub, 1) := by decide +kernel
theorem zd_LassoFinderModel_round_28 : decode prog_14_method_64_code 28 = .ok (.istore 7, 2) := by decide +kernel
theorem zd_LassoFinderModel_round_30 : decode prog_14_method_64_code 30 = .ok (.iload 7, 2) := by decide +kernel
theorem zd_LassoFinderModel_round_32 : decode prog_14_method_64_code 32 = .ok (.ifCond .lt 95, 3) := by decide +kernel
theorem zd_LassoFinderModel_round_35 : decode prog_14_method_64_code 35 = .ok (.lconst 0, 1) := by decide +kernel
theorem zd_LassoFinderModel_round_36 : decode prog_14_method_64_code 36 = .ok (.lstore 8, 2) := by decide +kernel
theorem zd_LassoFinderModel_round_38 : decode prog_14_method_64_code 38 = .ok (.iconst (-1), 1) := by decide +kernel
theorem zd_LassoFinderModel_round_39 : decode prog_14_method_64_code 39 = .ok (.istore 10, 2) := by decide +kernel
theorem zd_LassoFinderModel_round_41 : decode prog_14_method_64_code 41 = .ok (.aload_n 0, 1) := by decide +kernel
theorem zd_LassoFinderModel_round_42 : decode prog_14_method_64_code 42 = .ok (.getfield 109, 3) := by decide +kernel
theorem zd_LassoFinderModel_round_45 : decode prog_14_method_64_code 45 = .ok (.iload 4, 2) := by decide +kernel
theorem zd_LassoFinderModel_round_47 : decode prog_14_method_64_code 47 = .ok (.iaload, 1) := by decide +kernel
theorem zd_LassoFinderModel_round_48 : decode prog_14_method_64_code 48 = .ok (.istore 11, 2) := by decide +kernel
theorem zd_LassoFinderModel_round_50 : decode prog_14_method_64_code 50 = .ok (.iload 11, 2) := by decide +kernel
theorem zd_LassoFinderModel_round_52 : decode prog_14_method_64_code 52 = .ok (.aload_n 0, 1) := by decide +kernel
theorem zd_LassoFinderModel_round_53 : decode prog_14_method_64_code 53 = .ok (.getfield 109, 3) := by decide +kernel
theorem zd_LassoFinderModel_round_56 : decode prog_14_method_64_code 56 = .ok (.iload 4, 2) := by decide +kernel
theorem zd_LassoFinderModel_round_58 : decode prog_14_method_64_code 58 = .ok (.iconst 1, 1) := by decide +kernel
theorem zd_LassoFinderModel_round_59 : decode prog_14_method_64_code 59 = .ok (.iadd, 1) := by decide +kernel
theorem zd_LassoFinderModel_round_60 : decode prog_14_method_64_code 60 = .ok (.iaload, 1) := by decide +kernel
theorem zd_LassoFinderModel_round_61 : decode prog_14_method_64_code 61 = .ok (.if_icmp .ge 32, 3) := by decide +kernel
theorem zd_LassoFinderModel_round_64 : decode prog_14_method_64_code 64 = .ok (.lload 8, 2) := by decide +kernel
theorem zd_LassoFinderModel_round_66 : decode prog_14_method_64_code 66 = .ok (.lconst 0, 1) := by decide +kernel
theorem zd_LassoFinderModel_round_67 : decode prog_14_method_64_code 67 = .ok (.lcmp, 1) := by decide +kernel
theorem zd_LassoFinderModel_round_68 : decode prog_14_method_64_code 68 = .ok (.ifCond .ne 25, 3) := by decide +kernel
theorem zd_LassoFinderModel_round_71 : decode prog_14_method_64_code 71 = .ok (.aload_n 0, 1) := by decide +kernel
theorem zd_LassoFinderModel_round_72 : decode prog_14_method_64_code 72 = .ok (.iload 11, 2) := by decide +kernel
theorem zd_LassoFinderModel_round_74 : decode prog_14_method_64_code 74 = .ok (.lload 5, 2) := by decide +kernel
theorem zd_LassoFinderModel_round_76 : decode prog_14_method_64_code 76 = .ok (.iload 7, 2) := by decide +kernel
theorem zd_LassoFinderModel_round_78 : decode prog_14_method_64_code 78 = .ok (.invokevirtual 444, 3) := by decide +kernel
theorem zd_LassoFinderModel_round_81 : decode prog_14_method_64_code 81 = .ok (.lstore 8, 2) := by decide +kernel
theorem zd_LassoFinderModel_round_83 : decode prog_14_method_64_code 83 = .ok (.iload 11, 2) := by decide +kernel
theorem zd_LassoFinderModel_round_85 : decode prog_14_method_64_code 85 = .ok (.istore 10, 2) := by decide +kernel
theorem zd_LassoFinderModel_round_87 : decode prog_14_method_64_code 87 = .ok (.iinc 11 1, 3) := by decide +kernel
theorem zd_LassoFinderModel_round_90 : decode prog_14_method_64_code 90 = .ok (.goto (-40), 3) := by decide +kernel
theorem zd_LassoFinderModel_round_93 : decode prog_14_method_64_code 93 = .ok (.aload_n 0, 1) := by decide +kernel
theorem zd_LassoFinderModel_round_94 : decode prog_14_method_64_code 94 = .ok (.getfield 184, 3) := by decide +kernel
theorem zd_LassoFinderModel_round_97 : decode prog_14_method_64_code 97 = .ok (.iload_n 3, 1) := by decide +kernel
theorem zd_LassoFinderModel_round_98 : decode prog_14_method_64_code 98 = .ok (.iconst 1, 1) := by decide +kernel
theorem zd_LassoFinderModel_round_99 : decode prog_14_method_64_code 99 = .ok (.isub, 1) := by decide +kernel
theorem zd_LassoFinderModel_round_100 : decode prog_14_method_64_code 100 = .ok (.iload 7, 2) := by decide +kernel
theorem zd_LassoFinderModel_round_102 : decode prog_14_method_64_code 102 = .ok (.isub, 1) := by decide +kernel
theorem zd_LassoFinderModel_round_103 : decode prog_14_method_64_code 103 = .ok (.iload 10, 2) := by decide +kernel
theorem zd_LassoFinderModel_round_105 : decode prog_14_method_64_code 105 = .ok (.invokestatic 440, 3) := by decide +kernel
theorem zd_LassoFinderModel_round_108 : decode prog_14_method_64_code 108 = .ok (.aload_n 0, 1) := by decide +kernel
theorem zd_LassoFinderModel_round_109 : decode prog_14_method_64_code 109 = .ok (.getfield 112, 3) := by decide +kernel
theorem zd_LassoFinderModel_round_112 : decode prog_14_method_64_code 112 = .ok (.iload 10, 2) := by decide +kernel
theorem zd_LassoFinderModel_round_114 : decode prog_14_method_64_code 114 = .ok (.iaload, 1) := by decide +kernel
theorem zd_LassoFinderModel_round_115 : decode prog_14_method_64_code 115 = .ok (.istore 4, 2) := by decide +kernel
theorem zd_LassoFinderModel_round_117 : decode prog_14_method_64_code 117 = .ok (.lload 8, 2) := by decide +kernel
theorem zd_LassoFinderModel_round_119 : decode prog_14_method_64_code 119 = .ok (.lstore 5, 2) := by decide +kernel
theorem zd_LassoFinderModel_round_121 : decode prog_14_method_64_code 121 = .ok (.iinc 7 (-1), 3) := by decide +kernel
theorem zd_LassoFinderModel_round_124 : decode prog_14_method_64_code 124 = .ok (.goto (-94), 3) := by decide +kernel
theorem zd_LassoFinderModel_round_127 : decode prog_14_method_64_code 127 = .ok (.iload_n 3, 1) := by decide +kernel
theorem zd_LassoFinderModel_round_128 : decode prog_14_method_64_code 128 = .ok (.ireturn, 1) := by decide +kernel
theorem zd_LassoFinderModel_sooner_0 : decode prog_14_method_65_code 0 = .ok (.aload_n 0, 1) := by decide +kernel
theorem zd_LassoFinderModel_sooner_1 : decode prog_14_method_65_code 1 = .ok (.getfield 448, 3) := by decide +kernel
theorem zd_LassoFinderModel_sooner_4 : decode prog_14_method_65_code 4 = .ok (.ifCond .eq 11, 3) := by decide +kernel
theorem zd_LassoFinderModel_sooner_7 : decode prog_14_method_65_code 7 = .ok (.iload_n 1, 1) := by decide +kernel
theorem zd_LassoFinderModel_sooner_8 : decode prog_14_method_65_code 8 = .ok (.aload_n 0, 1) := by decide +kernel
theorem zd_LassoFinderModel_sooner_9 : decode prog_14_method_65_code 9 = .ok (.getfield 448, 3) := by decide +kernel
theorem zd_LassoFinderModel_sooner_12 : decode prog_14_method_65_code 12 = .ok (.if_icmp .eq 24, 3) := by decide +kernel
theorem zd_LassoFinderModel_sooner_15 : decode prog_14_method_65_code 15 = .ok (.aload_n 0, 1) := by decide +kernel
theorem zd_LassoFinderModel_sooner_16 : decode prog_14_method_65_code 16 = .ok (.getfield 448, 3) := by decide +kernel
theorem zd_LassoFinderModel_sooner_19 : decode prog_14_method_65_code 19 = .ok (.ifCond .eq 11, 3) := by decide +kernel
theorem zd_LassoFinderModel_sooner_22 : decode prog_14_method_65_code 22 = .ok (.iload_n 1, 1) := by decide +kernel
theorem zd_LassoFinderModel_sooner_23 : decode prog_14_method_65_code 23 = .ok (.aload_n 0, 1) := by decide +kernel
theorem zd_LassoFinderModel_sooner_24 : decode prog_14_method_65_code 24 = .ok (.getfield 448, 3) := by decide +kernel
theorem zd_LassoFinderModel_sooner_27 : decode prog_14_method_65_code 27 = .ok (.if_icmp .ge 7, 3) := by decide +kernel
theorem zd_LassoFinderModel_sooner_30 : decode prog_14_method_65_code 30 = .ok (.iconst 1, 1) := by decide +kernel
theorem zd_LassoFinderModel_sooner_31 : decode prog_14_method_65_code 31 = .ok (.goto 4, 3) := by decide +kernel
theorem zd_LassoFinderModel_sooner_34 : decode prog_14_method_65_code 34 = .ok (.iconst 0, 1) := by decide +kernel
theorem zd_LassoFinderModel_sooner_35 : decode prog_14_method_65_code 35 = .ok (.ireturn, 1) := by decide +kernel
theorem zd_LassoFinderModel_sooner_36 : decode prog_14_method_65_code 36 = .ok (.iconst 0, 1) := by decide +kernel
theorem zd_LassoFinderModel_sooner_37 : decode prog_14_method_65_code 37 = .ok (.istore_n 2, 1) := by decide +kernel
theorem zd_LassoFinderModel_sooner_38 : decode prog_14_method_65_code 38 = .ok (.iload_n 2, 1) := by decide +kernel
theorem zd_LassoFinderModel_sooner_39 : decode prog_14_method_65_code 39 = .ok (.iload_n 1, 1) := by decide +kernel
theorem zd_LassoFinderModel_sooner_40 : decode prog_14_method_65_code 40 = .ok (.if_icmp .ge 33, 3) := by decide +kernel
theorem zd_LassoFinderModel_sooner_43 : decode prog_14_method_65_code 43 = .ok (.aload_n 0, 1) := by decide +kernel
theorem zd_LassoFinderModel_sooner_44 : decode prog_14_method_65_code 44 = .ok (.getfield 184, 3) := by decide +kernel
theorem zd_LassoFinderModel_sooner_47 : decode prog_14_method_65_code 47 = .ok (.iload_n 2, 1) := by decide +kernel
theorem zd_LassoFinderModel_sooner_48 : decode prog_14_method_65_code 48 = .ok (.invokestatic 451, 3) := by decide +kernel
theorem zd_LassoFinderModel_sooner_51 : decode prog_14_method_65_code 51 = .ok (.aload_n 0, 1) := by decide +kernel
theorem zd_LassoFinderModel_sooner_52 : decode prog_14_method_65_code 52 = .ok (.getfield 181, 3) := by decide +kernel
theorem zd_LassoFinderModel_sooner_55 : decode prog_14_method_65_code 55 = .ok (.aload_n 0, 1) := by decide +kernel
theorem zd_LassoFinderModel_sooner_56 : decode prog_14_method_65_code 56 = .ok (.getfield 178, 3) := by decide +kernel
theorem zd_LassoFinderModel_sooner_59 : decode prog_14_method_65_code 59 = .ok (.iload_n 2, 1) := by decide +kernel
theorem zd_LassoFinderModel_sooner_60 : decode prog_14_method_65_code 60 = .ok (.iadd, 1) := by decide +kernel
theorem zd_LassoFinderModel_sooner_61 : decode prog_14_method_65_code 61 = .ok (.invokestatic 451, 3) := by decide +kernel
theorem zd_LassoFinderModel_sooner_64 : decode prog_14_method_65_code 64 = .ok (.if_icmp .ne 9, 3) := by decide +kernel
theorem zd_LassoFinderModel_sooner_67 : decode prog_14_method_65_code 67 = .ok (.iinc 2 1, 3) := by decide +kernel
theorem zd_LassoFinderModel_sooner_70 : decode prog_14_method_65_code 70 = .ok (.goto (-32), 3) := by decide +kernel
theorem zd_LassoFinderModel_sooner_73 : decode prog_14_method_65_code 73 = .ok (.iload_n 2, 1) := by decide +kernel
theorem zd_LassoFinderModel_sooner_74 : decode prog_14_method_65_code 74 = .ok (.iload_n 1, 1) := by decide +kernel
theorem zd_LassoFinderModel_sooner_75 : decode prog_14_method_65_code 75 = .ok (.if_icmp .ge 31, 3) := by decide +kernel
theorem zd_LassoFinderModel_sooner_78 : decode prog_14_method_65_code 78 = .ok (.aload_n 0, 1) := by decide +kernel
theorem zd_LassoFinderModel_sooner_79 : decode prog_14_method_65_code 79 = .ok (.getfield 184, 3) := by decide +kernel
theorem zd_LassoFinderModel_sooner_82 : decode prog_14_method_65_code 82 = .ok (.iload_n 2, 1) := by decide +kernel
theorem zd_LassoFinderModel_sooner_83 : decode prog_14_method_65_code 83 = .ok (.invokestatic 451, 3) := by decide +kernel
theorem zd_LassoFinderModel_sooner_86 : decode prog_14_method_65_code 86 = .ok (.aload_n 0, 1) := by decide +kernel
theorem zd_LassoFinderModel_sooner_87 : decode prog_14_method_65_code 87 = .ok (.getfield 181, 3) := by decide +kernel
theorem zd_LassoFinderModel_sooner_90 : decode prog_14_method_65_code 90 = .ok (.aload_n 0, 1) := by decide +kernel
theorem zd_LassoFinderModel_sooner_91 : decode prog_14_method_65_code 91 = .ok (.getfield 178, 3) := by decide +kernel
theorem zd_LassoFinderModel_sooner_94 : decode prog_14_method_65_code 94 = .ok (.iload_n 2, 1) := by decide +kernel
theorem zd_LassoFinderModel_sooner_95 : decode prog_14_method_65_code 95 = .ok (.iadd, 1) := by decide +kernel
theorem zd_LassoFinderModel_sooner_96 : decode prog_14_method_65_code 96 = .ok (.invokestatic 451, 3) := by decide +kernel
theorem zd_LassoFinderModel_sooner_99 : decode prog_14_method_65_code 99 = .ok (.if_icmp .ge 7, 3) := by decide +kernel
theorem zd_LassoFinderModel_sooner_102 : decode prog_14_method_65_code 102 = .ok (.iconst 1, 1) := by decide +kernel
theorem zd_LassoFinderModel_sooner_103 : decode prog_14_method_65_code 103 = .ok (.goto 4, 3) := by decide +kernel
theorem zd_LassoFinderModel_sooner_106 : decode prog_14_method_65_code 106 = .ok (.iconst 0, 1) := by decide +kernel
theorem zd_LassoFinderModel_sooner_107 : decode prog_14_method_65_code 107 = .ok (.ireturn, 1) := by decide +kernel
theorem zd_LassoFinderModel_spread_0 : decode prog_14_method_60_code 0 = .ok (.iconst 0, 1) := by decide +kernel
theorem zd_LassoFinderModel_spread_1 : decode prog_14_method_60_code 1 = .ok (.istore_n 2, 1) := by decide +kernel
theorem zd_LassoFinderModel_spread_2 : decode prog_14_method_60_code 2 = .ok (.iconst 0, 1) := by decide +kernel
theorem zd_LassoFinderModel_spread_3 : decode prog_14_method_60_code 3 = .ok (.istore_n 3, 1) := by decide +kernel
theorem zd_LassoFinderModel_spread_4 : decode prog_14_method_60_code 4 = .ok (.iload_n 3, 1) := by decide +kernel
theorem zd_LassoFinderModel_spread_5 : decode prog_14_method_60_code 5 = .ok (.bipush 8, 2) := by decide +kernel
theorem zd_LassoFinderModel_spread_7 : decode prog_14_method_60_code 7 = .ok (.aload_n 0, 1) := by decide +kernel
theorem zd_LassoFinderModel_spread_8 : decode prog_14_method_60_code 8 = .ok (.getfield 345, 3) := by decide +kernel
theorem zd_LassoFinderModel_spread_11 : decode prog_14_method_60_code 11 = .ok (.imul, 1) := by decide +kernel
theorem zd_LassoFinderModel_spread_12 : decode prog_14_method_60_code 12 = .ok (.if_icmp .ge 129, 3) := by decide +kernel
theorem zd_LassoFinderModel_spread_15 : decode prog_14_method_60_code 15 = .ok (.aload_n 0, 1) := by decide +kernel
theorem zd_LassoFinderModel_spread_16 : decode prog_14_method_60_code 16 = .ok (.getfield 169, 3) := by decide +kernel
theorem zd_LassoFinderModel_spread_19 : decode prog_14_method_60_code 19 = .ok (.iload_n 3, 1) := by decide +kernel
theorem zd_LassoFinderModel_spread_20 : decode prog_14_method_60_code 20 = .ok (.iaload, 1) := by decide +kernel
theorem zd_LassoFinderModel_spread_21 : decode prog_14_method_60_code 21 = .ok (.iload_n 1, 1) := by decide +kernel
theorem zd_LassoFinderModel_spread_22 : decode prog_14_method_60_code 22 = .ok (.if_icmp .eq 6, 3) := by decide +kernel
theorem zd_LassoFinderModel_spread_25 : decode prog_14_method_60_code 25 = .ok (.goto 110, 3) := by decide +kernel
theorem zd_LassoFinderModel_spread_28 : decode prog_14_method_60_code 28 = .ok (.aload_n 0, 1) := by decide +kernel
theorem zd_LassoFinderModel_spread_29 : decode prog_14_method_60_code 29 = .ok (.getfield 109, 3) := by decide +kernel
theorem zd_LassoFinderModel_spread_32 : decode prog_14_method_60_code 32 = .ok (.iload_n 3, 1) := by decide +kernel
theorem zd_LassoFinderModel_spread_33 : decode prog_14_method_60_code 33 = .ok (.iconst 3, 1) := by decide +kernel
theorem zd_LassoFinderModel_spread_34 : decode prog_14_method_60_code 34 = .ok (.ishr, 1) := by decide +kernel
theorem zd_LassoFinderModel_spread_35 : decode prog_14_method_60_code 35 = .ok (.iaload, 1) := by decide +kernel
theorem zd_LassoFinderModel_spread_36 : decode prog_14_method_60_code 36 = .ok (.istore 4, 2) := by decide +kernel
theorem zd_LassoFinderModel_spread_38 : decode prog_14_method_60_code 38 = .ok (.iload 4, 2) := by decide +kernel
theorem zd_LassoFinderModel_spread_40 : decode prog_14_method_60_code 40 = .ok (.aload_n 0, 1) := by decide +kernel
theorem zd_LassoFinderModel_spread_41 : decode prog_14_method_60_code 41 = .ok (.getfield 109, 3) := by decide +kernel
theorem zd_LassoFinderModel_spread_44 : decode prog_14_method_60_code 44 = .ok (.iload_n 3, 1) := by decide +kernel
theorem zd_LassoFinderModel_spread_45 : decode prog_14_method_60_code 45 = .ok (.iconst 3, 1) := by decide +kernel
theorem zd_LassoFinderModel_spread_46 : decode prog_14_method_60_code 46 = .ok (.ishr, 1) := by decide +kernel
theorem zd_LassoFinderModel_spread_47 : decode prog_14_method_60_code 47 = .ok (.iconst 1, 1) := by decide +kernel
theorem zd_LassoFinderModel_spread_48 : decode prog_14_method_60_code 48 = .ok (.iadd, 1) := by decide +kernel
theorem zd_LassoFinderModel_spread_49 : decode prog_14_method_60_code 49 = .ok (.iaload, 1) := by decide +kernel
theorem zd_LassoFinderModel_spread_50 : decode prog_14_method_60_code 50 = .ok (.if_icmp .ge 85, 3) := by decide +kernel
theorem zd_LassoFinderModel_spread_53 : decode prog_14_method_60_code 53 = .ok (.iconst 0, 1) := by decide +kernel
theorem zd_LassoFinderModel_spread_54 : decode prog_14_method_60_code 54 = .ok (.istore 5, 2) := by decide +kernel
theorem zd_LassoFinderModel_spread_56 : decode prog_14_method_60_code 56 = .ok (.iload 5, 2) := by decide +kernel
theorem zd_LassoFinderModel_spread_58 : decode prog_14_method_60_code 58 = .ok (.iconst 1, 1) := by decide +kernel
theorem zd_LassoFinderModel_spread_59 : decode prog_14_method_60_code 59 = .ok (.aload_n 0, 1) := by decide +kernel
theorem zd_LassoFinderModel_spread_60 : decode prog_14_method_60_code 60 = .ok (.getfield 376, 3) := by decide +kernel
theorem zd_LassoFinderModel_spread_63 : decode prog_14_method_60_code 63 = .ok (.ishl, 1) := by decide +kernel
theorem zd_LassoFinderModel_spread_64 : decode prog_14_method_60_code 64 = .ok (.if_icmp .ge 65, 3) := by decide +kernel
theorem zd_LassoFinderModel_spread_67 : decode prog_14_method_60_code 67 = .ok (.bipush 8, 2) := by decide +kernel
theorem zd_LassoFinderModel_spread_69 : decode prog_14_method_60_code 69 = .ok (.aload_n 0, 1) := by decide +kernel
theorem zd_LassoFinderModel_spread_70 : decode prog_14_method_60_code 70 = .ok (.getfield 112, 3) := by decide +kernel
theorem zd_LassoFinderModel_spread_73 : decode prog_14_method_60_code 73 = .ok (.iload 4, 2) := by decide +kernel
theorem zd_LassoFinderModel_spread_75 : decode prog_14_method_60_code 75 = .ok (.iaload, 1) := by decide +kernel
theorem zd_LassoFinderModel_spread_76 : decode prog_14_method_60_code 76 = .ok (.imul, 1) := by decide +kernel
theorem zd_LassoFinderModel_spread_77 : decode prog_14_method_60_code 77 = .ok (.iload 5, 2) := by decide +kernel
theorem zd_LassoFinderModel_spread_79 : decode prog_14_method_60_code 79 = .ok (.iadd, 1) := by decide +kernel
theorem zd_LassoFinderModel_spread_80 : decode prog_14_method_60_code 80 = .ok (.istore 6, 2) := by decide +kernel
theorem zd_LassoFinderModel_spread_82 : decode prog_14_method_60_code 82 = .ok (.aload_n 0, 1) := by decide +kernel
theorem zd_LassoFinderModel_spread_83 : decode prog_14_method_60_code 83 = .ok (.getfield 169, 3) := by decide +kernel
theorem zd_LassoFinderModel_spread_86 : decode prog_14_method_60_code 86 = .ok (.iload 6, 2) := by decide +kernel
theorem zd_LassoFinderModel_spread_88 : decode prog_14_method_60_code 88 = .ok (.iaload, 1) := by decide +kernel
theorem zd_LassoFinderModel_spread_89 : decode prog_14_method_60_code 89 = .ok (.ifCond .ge 34, 3) := by decide +kernel
theorem zd_LassoFinderModel_spread_92 : decode prog_14_method_60_code 92 = .ok (.aload_n 0, 1) := by decide +kernel
theorem zd_LassoFinderModel_spread_93 : decode prog_14_method_60_code 93 = .ok (.iload_n 3, 1) := by decide +kernel
theorem zd_LassoFinderModel_spread_94 : decode prog_14_method_60_code 94 = .ok (.iconst 3, 1) := by decide +kernel
theorem zd_LassoFinderModel_spread_95 : decode prog_14_method_60_code 95 = .ok (.ishr, 1) := by decide +kernel
theorem zd_LassoFinderModel_spread_96 : decode prog_14_method_60_code 96 = .ok (.iload 5, 2) := by decide +kernel
theorem zd_LassoFinderModel_spread_98 : decode prog_14_method_60_code 98 = .ok (.invokevirtual 422, 3) := by decide +kernel
theorem zd_LassoFinderModel_spread_101 : decode prog_14_method_60_code 101 = .ok (.iload_n 3, 1) := by decide +kernel
theorem zd_LassoFinderModel_spread_102 : decode prog_14_method_60_code 102 = .ok (.bipush 7, 2) := by decide +kernel
theorem zd_LassoFinderModel_spread_104 : decode prog_14_method_60_code 104 = .ok (.iand, 1) := by decide +kernel
theorem zd_LassoFinderModel_spread_105 : decode prog_14_method_60_code 105 = .ok (.if_icmp .eq 6, 3) := by decide +kernel
theorem zd_LassoFinderModel_spread_108 : decode prog_14_method_60_code 108 = .ok (.goto 15, 3) := by decide +kernel
theorem zd_LassoFinderModel_spread_111 : decode prog_14_method_60_code 111 = .ok (.aload_n 0, 1) := by decide +kernel
theorem zd_LassoFinderModel_spread_112 : decode prog_14_method_60_code 112 = .ok (.getfield 169, 3) := by decide +kernel
theorem zd_LassoFinderModel_spread_115 : decode prog_14_method_60_code 115 = .ok (.iload 6, 2) := by decide +kernel
theorem zd_LassoFinderModel_spread_117 : decode prog_14_method_60_code 117 = .ok (.iload_n 1, 1) := by decide +kernel
theorem zd_LassoFinderModel_spread_118 : decode prog_14_method_60_code 118 = .ok (.iconst 1, 1) := by decide +kernel
theorem zd_LassoFinderModel_spread_119 : decode prog_14_method_60_code 119 = .ok (.iadd, 1) := by decide +kernel
theorem zd_LassoFinderModel_spread_120 : decode prog_14_method_60_code 120 = .ok (.iastore, 1) := by decide +kernel
theorem zd_LassoFinderModel_spread_121 : decode prog_14_method_60_code 121 = .ok (.iconst 1, 1) := by decide +kernel
theorem zd_LassoFinderModel_spread_122 : decode prog_14_method_60_code 122 = .ok (.istore_n 2, 1) := by decide +kernel
theorem zd_LassoFinderModel_spread_123 : decode prog_14_method_60_code 123 = .ok (.iinc 5 1, 3) := by decide +kernel
theorem zd_LassoFinderModel_spread_126 : decode prog_14_method_60_code 126 = .ok (.goto (-70), 3) := by decide +kernel
theorem zd_LassoFinderModel_spread_129 : decode prog_14_method_60_code 129 = .ok (.iinc 4 1, 3) := by decide +kernel
theorem zd_LassoFinderModel_spread_132 : decode prog_14_method_60_code 132 = .ok (.goto (-94), 3) := by decide +kernel
theorem zd_LassoFinderModel_spread_135 : decode prog_14_method_60_code 135 = .ok (.iinc 3 1, 3) := by decide +kernel
theorem zd_LassoFinderModel_spread_138 : decode prog_14_method_60_code 138 = .ok (.goto (-134), 3) := by decide +kernel
theorem zd_LassoFinderModel_spread_141 : decode prog_14_method_60_code 141 = .ok (.iload_n 2, 1) := by decide +kernel
theorem zd_LassoFinderModel_spread_142 : decode prog_14_method_60_code 142 = .ok (.ireturn, 1) := by decide +kernel
def wc_LassoFinderModel_round_93 (a0 : Int32) (a1 : Int32) (K30 : Int32 → Int32 → Int64 → Int32 → (Nat → Int32) → (Nat → Int64) → (Nat → Nat → Int32) → (Nat → Nat → Int64) → Prop) (Post : Int32 → (Nat → Int32) → (Nat → Int64) → (Nat → Nat → Int32) → (Nat → Nat → Int64) → Prop) (x3 : Int32) (x7 : Int32) (x8 : Int64) (x10 : Int32) (I : Nat → Int32) (J : Nat → Int64) (B : Nat → Nat → Int32) (D : Nat → Nat → Int64) : Prop :=
  ∀ z1 : Int32, z1 = (x3 - 1) → ∀ z2 : Int32, z2 = (z1 - x7) → wp_LassoFinderModel_keep_ad56 I J B D z2 x10 (fun I3 J3 B3 D3 => vp_in x10 401 ∧ ∀ z4 : Int32, z4 = ((B3 30) x10.toNatClampNeg) → ∀ z5 : Int32, z5 = (x7 + (-1)) → K30 x3 z4 x8 z5 I3 J3 B3 D3)
def wb_LassoFinderModel_round_50 (a0 : Int32) (a1 : Int32) (K50 : Int32 → Int32 → Int64 → Int32 → Int64 → Int32 → Int32 → (Nat → Int32) → (Nat → Int64) → (Nat → Nat → Int32) → (Nat → Nat → Int64) → Prop) (K30 : Int32 → Int32 → Int64 → Int32 → (Nat → Int32) → (Nat → Int64) → (Nat → Nat → Int32) → (Nat → Nat → Int64) → Prop) (Post : Int32 → (Nat → Int32) → (Nat → Int64) → (Nat → Nat → Int32) → (Nat → Nat → Int64) → Prop) (x3 : Int32) (x4 : Int32) (x5 : Int64) (x7 : Int32) (x8 : Int64) (x10 : Int32) (x11 : Int32) (I : Nat → Int32) (J : Nat → Int64) (B : Nat → Nat → Int32) (D : Nat → Nat → Int64) : Prop :=
  ∀ z6 : Int32, z6 = (x4 + 1) → vp_in z6 98 ∧ ∀ z7 : Int32, z7 = ((B 29) z6.toNatClampNeg) → ((z7 ≤ x11 → wc_LassoFinderModel_round_93 a0 a1 K30 Post x3 x7 x8 x10 I J B D) ∧ (¬ z7 ≤ x11 → ∀ z9 : Int32, z9 = (lg_cmp x8 0) → ((¬ z9 = 0 → wc_LassoFinderModel_round_93 a0 a1 K30 Post x3 x7 x8 x10 I J B D) ∧ (z9 = 0 → wp_LassoFinderModel_ahead I J B D x11 x5 x7 (fun r11 I11 J11 B11 D11 => ∀ z12 : Int32, z12 = (x11 + 1) → K50 x3 x4 x5 x7 r11 x11 z12 I11 J11 B11 D11)))))
def wl_LassoFinderModel_round_50 (a0 : Int32) (a1 : Int32) (K30 : Int32 → Int32 → Int64 → Int32 → (Nat → Int32) → (Nat → Int64) → (Nat → Nat → Int32) → (Nat → Nat → Int64) → Prop) (Post : Int32 → (Nat → Int32) → (Nat → Int64) → (Nat → Nat → Int32) → (Nat → Nat → Int64) → Prop) (n : Nat) : Int32 → Int32 → Int64 → Int32 → Int64 → Int32 → Int32 → (Nat → Int32) → (Nat → Int64) → (Nat → Nat → Int32) → (Nat → Nat → Int64) → Prop := Nat.rec (fun _ _ _ _ _ _ _ _ _ _ _ => False) (fun _ r => wb_LassoFinderModel_round_50 a0 a1 r K30 Post) n
def wb_LassoFinderModel_round_30 (a0 : Int32) (a1 : Int32) (K30 : Int32 → Int32 → Int64 → Int32 → (Nat → Int32) → (Nat → Int64) → (Nat → Nat → Int32) → (Nat → Nat → Int64) → Prop) (Post : Int32 → (Nat → Int32) → (Nat → Int64) → (Nat → Nat → Int32) → (Nat → Nat → Int64) → Prop) (x3 : Int32) (x4 : Int32) (x5 : Int64) (x7 : Int32) (I : Nat → Int32) (J : Nat → Int64) (B : Nat → Nat → Int32) (D : Nat → Nat → Int64) : Prop :=
  ((x7 < 0 → Post x3 I J B D) ∧ (¬ x7 < 0 → vp_in x4 98 ∧ ∀ z14 : Int32, z14 = ((B 29) x4.toNatClampNeg) → ∃ n : Nat, wl_LassoFinderModel_round_50 a0 a1 K30 Post n x3 x4 x5 x7 0 (-1) z14 I J B D))
def wl_LassoFinderModel_round_30 (a0 : Int32) (a1 : Int32) (Post : Int32 → (Nat → Int32) → (Nat → Int64) → (Nat → Nat → Int32) → (Nat → Nat → Int64) → Prop) (n : Nat) : Int32 → Int32 → Int64 → Int32 → (Nat → Int32) → (Nat → Int64) → (Nat → Nat → Int32) → (Nat → Nat → Int64) → Prop := Nat.rec (fun _ _ _ _ _ _ _ _ => False) (fun _ r => wb_LassoFinderModel_round_30 a0 a1 r Post) n
def wp_LassoFinderModel_round (I : Nat → Int32) (J : Nat → Int64) (B : Nat → Nat → Int32) (D : Nat → Nat → Int64) (a0 : Int32) (a1 : Int32) (Post : Int32 → (Nat → Int32) → (Nat → Int64) → (Nat → Nat → Int32) → (Nat → Nat → Int64) → Prop) : Prop :=
  wp_LassoFinderModel_nearest I J B D a0 a1 (fun r15 I15 J15 B15 D15 => ∀ z16 : Int32, z16 = (8 * a1) → wp_LassoFinderModel_settled I15 J15 B15 D15 a0 a1 (fun r17 I17 J17 B17 D17 => ∀ z18 : Int32, z18 = (z16 + r17) → ∀ z19 : Int64, z19 = ((1 : Int64) <<< (z18.toInt64 &&& 63)) → ∀ z20 : Int32, z20 = (r15 - 1) → ∃ n : Nat, wl_LassoFinderModel_round_30 a0 a1 Post n r15 a0 z19 z20 I17 J17 B17 D17))
set_option maxHeartbeats 8000000 in
set_option maxRecDepth 100000 in
theorem wJ_LassoFinderModel_round_93 {p : Program} {l : Launch} {e : Env} {s : State} {m : MethodId} {below : List Frame} {meth : Method} {c : Code} {A : Nat → Prop} (G : va_G) (K : Nat → ClassId) (ad : Nat → Nat) (a0 : Int32) (a1 : Int32) (Post : Int32 → (Nat → Int32) → (Nat → Int64) → (Nat → Nat → Int32) → (Nat → Nat → Int64) → Prop) (C : zCx p s m ([.ref (ad 0), .int a0, .int a1] : List Value).toArray meth c A G K prog_14_method_64_code (some .int) 12 "LassoFinderModel") (K30 : Int32 → Int32 → Int64 → Int32 → (Nat → Int32) → (Nat → Int64) → (Nat → Nat → Int32) → (Nat → Nat → Int64) → Prop) (kh30 : ∀ (x3 : Int32) (x4 : Int32) (x5 : Int64) (x7 : Int32) (I : Nat → Int32) (J : Nat → Int64) (B : Nat → Nat → Int32) (D : Nat → Nat → Int64) (ls : Array Slot) (H : Heap) (locs : List Loc), K30 x3 x4 x5 x7 I J B D → lv_has ls 12 [(0, .ref (ad 0)), (3, .int x3), (4, .int x4), (5, .long x5), (7, .int x7)] → zW G A s.heap (wM ad K I J B D) H locs → W p l e { frames := 4, cells := 0, slots := 0, locals := 112 } s m ([.ref (ad 0), .int a0, .int a1] : List Value).toArray below meth c H locs 0 0 (MQ below (va_Qi (fun (r : Int32) (u : zS) => Post r u.1 u.2.1 u.2.2.1 u.2.2.2) (fun u t => zPost G K A (wM ad K u.1 u.2.1 u.2.2.1 u.2.2.2) t) A) ([.ref (ad 0), .int a0, .int a1] : List Value).toArray s 0 0 A) (F0 m 30 ls [])) : ∀ (x3 : Int32) (x7 : Int32) (x8 : Int64) (x10 : Int32) (I : Nat → Int32) (J : Nat → Int64) (B : Nat → Nat → Int32) (D : Nat → Nat → Int64) (ls : Array Slot) (H : Heap) (locs : List Loc), wc_LassoFinderModel_round_93 a0 a1 K30 Post x3 x7 x8 x10 I J B D → lv_has ls 12 [(0, .ref (ad 0)), (3, .int x3), (7, .int x7), (8, .long x8), (10, .int x10)] → zW G A s.heap (wM ad K I J B D) H locs → W p l e { frames := 4, cells := 0, slots := 0, locals := 112 } s m ([.ref (ad 0), .int a0, .int a1] : List Value).toArray below meth c H locs 0 0 (MQ below (va_Qi (fun (r : Int32) (u : zS) => Post r u.1 u.2.1 u.2.2.1 u.2.2.2) (fun u t => zPost G K A (wM ad K u.1 u.2.1 u.2.2.1 u.2.2.2) t) A) ([.ref (ad 0), .int a0, .int a1] : List Value).toArray s 0 0 A) (F0 m 93 ls []) := by
  obtain ⟨hx, hb, hr, hml, hts, hown, hlocks, hA, hK⟩ := id C
  intro x3 x7 x8 x10 I J B D ls H locs hok hl hw
  unfold wc_LassoFinderModel_round_93 at hok
  refine lv_aload_n hx hb zd_LassoFinderModel_round_93 rfl (lv_at hl 0 rfl) ?_
  refine z_get (v := .ref (ad 56)) hx hb hts hown hK hw zZ12 0 rfl 81 (by decide) zm_290 rfl zd_LassoFinderModel_round_94 ?_
  refine lv_iload_n hx hb zd_LassoFinderModel_round_97 rfl (lv_at hl 1 rfl) ?_
  refine lv_iconst (v := 1) hx hb zd_LassoFinderModel_round_98 (by decide) ?_
  refine lv_isub hx hb zd_LassoFinderModel_round_99 ?_
  refine lv_topi (fun z1 ez1 => ?_)
  have hok := hok z1 ez1
  refine lv_iload hx hb zd_LassoFinderModel_round_100 (lv_at hl 2 rfl) ?_
  refine lv_isub hx hb zd_LassoFinderModel_round_102 ?_
  refine lv_topi (fun z2 ez2 => ?_)
  have hok := hok z2 ez2
  refine lv_iload hx hb zd_LassoFinderModel_round_103 (lv_at hl 4 rfl) ?_
  refine z_callv (w1 := fun (u : zS) => wM ad K u.1 u.2.1 u.2.2.1 u.2.2.2) (wr := []) (z_runS (wc := (wM ad K I J B D)) (As := [.ref (ad 56), .int z2, .int x10]) (rest := []) ⟨hx, hb, hml, hown, hts⟩ (w_LassoFinderModel_keep_ad56 l G K ad I J B D z2 x10 _ H.size hok) zf_LassoFinderModel_keep zm_370 ⟨Nat.le_of_ble_eq_true rfl, Nat.le_of_ble_eq_true rfl⟩ hK hw [0, 1, 2, 3, 4, 5, 6, 7, 8, 9, 10, 11, 12, 13, 14, 15, 16, 17, 18, 19, 20, 21, 22, 23, 24, 25, 26, 27, 28, 29, 30, 31, 32, 33, 34, 35, 36, 37, 38, 39, 40, 41, 42, 43, 44, 45, 46, 47, 48, 49, 50, 51, 52, 53, 54, 55, 56, 57] rfl (by decide) rfl hl.1 rfl (Nat.le_of_ble_eq_true rfl) zd_LassoFinderModel_round_105 ⟨Nat.le_of_ble_eq_true rfl, Nat.le_of_ble_eq_true rfl⟩) hw hA [0, 1, 2, 3, 4, 5, 6, 7, 8, 9, 10, 11, 12, 13, 14, 15, 16, 17, 18, 19, 20, 21, 22, 23, 24, 25, 26, 27, 28, 29, 30, 31, 32, 33, 34, 35, 36, 37, 38, 39, 40, 41, 42, 43, 44, 45, 46, 47, 48, 49, 50, 51, 52, 53, 54, 55, 56, 57] [] rfl rfl (by decide) (by decide) (fun u H locs hok hw => ?_)
  obtain ⟨I3, J3, B3, D3⟩ := u
  dsimp only at hok
  have hw : zW G A s.heap (wM ad K I3 J3 B3 D3) H locs := hw
  refine lv_aload_n hx hb zd_LassoFinderModel_round_108 rfl (lv_at hl 0 rfl) ?_
  refine z_get (v := .ref (ad 33)) hx hb hts hown hK hw zZ12 0 rfl 49 (by decide) zm_267 rfl zd_LassoFinderModel_round_109 ?_
  refine lv_iload hx hb zd_LassoFinderModel_round_112 (lv_at hl 4 rfl) ?_
  refine va_iald (f := (B3 30)) hx hb hK hw.1 33 0 rfl rfl hok.1 zd_LassoFinderModel_round_114 ?_
  have hok := hok.2
  refine lv_topi (fun z4 ez4 => ?_)
  have hok := hok z4 ez4
  refine lv_istore hx hb zd_LassoFinderModel_round_115 hl (by decide) rfl (fun ls hl => ?_)
  have hl : lv_has ls 12 [(4, .int z4), (0, .ref (ad 0)), (3, .int x3), (7, .int x7), (8, .long x8), (10, .int x10)] := hl
  refine lv_lload hx hb zd_LassoFinderModel_round_117 (lv_at hl 4 rfl) ?_
  refine lv_lstore hx hb zd_LassoFinderModel_round_119 hl (by decide) rfl (fun ls hl => ?_)
  have hl : lv_has ls 12 [(5, .long x8), (4, .int z4), (0, .ref (ad 0)), (3, .int x3), (7, .int x7), (8, .long x8), (10, .int x10)] := hl
  obtain ⟨z5, ez5⟩ : ∃ z : Int32, z = (x7 + (-1)) := ⟨_, rfl⟩
  have hok := hok z5 ez5
  refine lv_iinc (v := z5) hx hb zd_LassoFinderModel_round_121 hl (k := 4) rfl ez5.symm (by decide) rfl (fun ls hl => ?_)
  have hl : lv_has ls 12 [(7, .int z5), (5, .long x8), (4, .int z4), (0, .ref (ad 0)), (3, .int x3), (8, .long x8), (10, .int x10)] := hl
  refine lv_goto (tgt := 30) hx hb zd_LassoFinderModel_round_124 (by decide) ?_
  exact kh30 x3 z4 x8 z5 I3 J3 B3 D3 ls H locs hok (lv_sub hl [3, 4, 2, 1, 0] rfl) hw
set_option maxHeartbeats 8000000 in
set_option maxRecDepth 100000 in
theorem wB_LassoFinderModel_round_50 {p : Program} {l : Launch} {e : Env} {s : State} {m : MethodId} {below : List Frame} {meth : Method} {c : Code} {A : Nat → Prop} (G : va_G) (K : Nat → ClassId) (ad : Nat → Nat) (a0 : Int32) (a1 : Int32) (Post : Int32 → (Nat → Int32) → (Nat → Int64) → (Nat → Nat → Int32) → (Nat → Nat → Int64) → Prop) (C : zCx p s m ([.ref (ad 0), .int a0, .int a1] : List Value).toArray meth c A G K prog_14_method_64_code (some .int) 12 "LassoFinderModel") (K30 : Int32 → Int32 → Int64 → Int32 → (Nat → Int32) → (Nat → Int64) → (Nat → Nat → Int32) → (Nat → Nat → Int64) → Prop) (kh30 : ∀ (x3 : Int32) (x4 : Int32) (x5 : Int64) (x7 : Int32) (I : Nat → Int32) (J : Nat → Int64) (B : Nat → Nat → Int32) (D : Nat → Nat → Int64) (ls : Array Slot) (H : Heap) (locs : List Loc), K30 x3 x4 x5 x7 I J B D → lv_has ls 12 [(0, .ref (ad 0)), (3, .int x3), (4, .int x4), (5, .long x5), (7, .int x7)] → zW G A s.heap (wM ad K I J B D) H locs → W p l e { frames := 4, cells := 0, slots := 0, locals := 112 } s m ([.ref (ad 0), .int a0, .int a1] : List Value).toArray below meth c H locs 0 0 (MQ below (va_Qi (fun (r : Int32) (u : zS) => Post r u.1 u.2.1 u.2.2.1 u.2.2.2) (fun u t => zPost G K A (wM ad K u.1 u.2.1 u.2.2.1 u.2.2.2) t) A) ([.ref (ad 0), .int a0, .int a1] : List Value).toArray s 0 0 A) (F0 m 30 ls [])) (K50 : Int32 → Int32 → Int64 → Int32 → Int64 → Int32 → Int32 → (Nat → Int32) → (Nat → Int64) → (Nat → Nat → Int32) → (Nat → Nat → Int64) → Prop) (kh50 : ∀ (x3 : Int32) (x4 : Int32) (x5 : Int64) (x7 : Int32) (x8 : Int64) (x10 : Int32) (x11 : Int32) (I : Nat → Int32) (J : Nat → Int64) (B : Nat → Nat → Int32) (D : Nat → Nat → Int64) (ls : Array Slot) (H : Heap) (locs : List Loc), K50 x3 x4 x5 x7 x8 x10 x11 I J B D → lv_has ls 12 [(0, .ref (ad 0)), (3, .int x3), (4, .int x4), (5, .long x5), (7, .int x7), (8, .long x8), (10, .int x10), (11, .int x11)] → zW G A s.heap (wM ad K I J B D) H locs → W p l e { frames := 4, cells := 0, slots := 0, locals := 112 } s m ([.ref (ad 0), .int a0, .int a1] : List Value).toArray below meth c H locs 0 0 (MQ below (va_Qi (fun (r : Int32) (u : zS) => Post r u.1 u.2.1 u.2.2.1 u.2.2.2) (fun u t => zPost G K A (wM ad K u.1 u.2.1 u.2.2.1 u.2.2.2) t) A) ([.ref (ad 0), .int a0, .int a1] : List Value).toArray s 0 0 A) (F0 m 50 ls [])) : ∀ (x3 : Int32) (x4 : Int32) (x5 : Int64) (x7 : Int32) (x8 : Int64) (x10 : Int32) (x11 : Int32) (I : Nat → Int32) (J : Nat → Int64) (B : Nat → Nat → Int32) (D : Nat → Nat → Int64) (ls : Array Slot) (H : Heap) (locs : List Loc), wb_LassoFinderModel_round_50 a0 a1 K50 K30 Post x3 x4 x5 x7 x8 x10 x11 I J B D → lv_has ls 12 [(0, .ref (ad 0)), (3, .int x3), (4, .int x4), (5, .long x5), (7, .int x7), (8, .long x8), (10, .int x10), (11, .int x11)] → zW G A s.heap (wM ad K I J B D) H locs → W p l e { frames := 4, cells := 0, slots := 0, locals := 112 } s m ([.ref (ad 0), .int a0, .int a1] : List Value).toArray below meth c H locs 0 0 (MQ below (va_Qi (fun (r : Int32) (u : zS) => Post r u.1 u.2.1 u.2.2.1 u.2.2.2) (fun u t => zPost G K A (wM ad K u.1 u.2.1 u.2.2.1 u.2.2.2) t) A) ([.ref (ad 0), .int a0, .int a1] : List Value).toArray s 0 0 A) (F0 m 50 ls []) := by
  obtain ⟨hx, hb, hr, hml, hts, hown, hlocks, hA, hK⟩ := id C
  intro x3 x4 x5 x7 x8 x10 x11 I J B D ls H locs hok hl hw
  unfold wb_LassoFinderModel_round_50 at hok
  refine lv_iload hx hb zd_LassoFinderModel_round_50 (lv_at hl 7 rfl) ?_
  refine lv_aload_n hx hb zd_LassoFinderModel_round_52 rfl (lv_at hl 0 rfl) ?_
  refine z_get (v := .ref (ad 32)) hx hb hts hown hK hw zZ12 0 rfl 48 (by decide) zm_266 rfl zd_LassoFinderModel_round_53 ?_
  refine lv_iload hx hb zd_LassoFinderModel_round_56 (lv_at hl 2 rfl) ?_
  refine lv_iconst (v := 1) hx hb zd_LassoFinderModel_round_58 (by decide) ?_
  refine lv_iadd hx hb zd_LassoFinderModel_round_59 ?_
  refine lv_topi (fun z6 ez6 => ?_)
  have hok := hok z6 ez6
  refine va_iald (f := (B 29)) hx hb hK hw.1 32 0 rfl rfl hok.1 zd_LassoFinderModel_round_60 ?_
  have hok := hok.2
  refine lv_topi (fun z7 ez7 => ?_)
  have hok := hok z7 ez7
  refine lv_icmp_ge (tgt := 93) hx hb zd_LassoFinderModel_round_61 (by decide) (fun hc8 => ?_) (fun hc8 => ?_)
  · have hok := hok.1 hc8
    exact wJ_LassoFinderModel_round_93 G K ad a0 a1 Post C K30 kh30 x3 x7 x8 x10 I J B D ls H locs hok (lv_sub hl [0, 1, 4, 5, 6] rfl) hw
  · have hok := hok.2 hc8
    refine lv_lload hx hb zd_LassoFinderModel_round_64 (lv_at hl 5 rfl) ?_
    refine lv_lconst (v := 0) hx hb zd_LassoFinderModel_round_66 (by decide) ?_
    refine W.lcmp hx hb zd_LassoFinderModel_round_67 ?_
    refine lv_topi (fun z9 ez9 => ?_)
    have hok := hok z9 ez9
    refine lv_if_ne (tgt := 93) hx hb zd_LassoFinderModel_round_68 (by decide) (fun hc10 => ?_) (fun hc10 => ?_)
    · have hok := hok.1 hc10
      exact wJ_LassoFinderModel_round_93 G K ad a0 a1 Post C K30 kh30 x3 x7 x8 x10 I J B D ls H locs hok (lv_sub hl [0, 1, 4, 5, 6] rfl) hw
    · have hok := hok.2 hc10
      refine lv_aload_n hx hb zd_LassoFinderModel_round_71 rfl (lv_at hl 0 rfl) ?_
      refine lv_iload hx hb zd_LassoFinderModel_round_72 (lv_at hl 7 rfl) ?_
      refine lv_lload hx hb zd_LassoFinderModel_round_74 (lv_at hl 3 rfl) ?_
      refine lv_iload hx hb zd_LassoFinderModel_round_76 (lv_at hl 4 rfl) ?_
      refine z_calll (w1 := fun (u : zS) => wM ad K u.1 u.2.1 u.2.2.1 u.2.2.2) (wr := []) (z_runV (q0 := 0) (wc := (wM ad K I J B D)) (As := [.int x11, .long x5, .int x7]) (rest := []) ⟨hx, hb, hml, hown, hts⟩ (w_LassoFinderModel_ahead l G K ad I J B D x11 x5 x7 _ H.size hok) zf_LassoFinderModel_ahead zm_374 ⟨Nat.le_of_ble_eq_true rfl, Nat.le_of_ble_eq_true rfl⟩ hK hw [0, 1, 2, 3, 4, 5, 6, 7, 8, 9, 10, 11, 12, 13, 14, 15, 16, 17, 18, 19, 20, 21, 22, 23, 24, 25, 26, 27, 28, 29, 30, 31, 32, 33, 34, 35, 36, 37, 38, 39, 40, 41, 42, 43, 44, 45, 46, 47, 48, 49, 50, 51, 52, 53, 54, 55, 56, 57] rfl (by decide) rfl rfl rfl hl.1 rfl (Nat.le_of_ble_eq_true rfl) zd_LassoFinderModel_round_78 ⟨Nat.le_of_ble_eq_true rfl, Nat.le_of_ble_eq_true rfl⟩) hw hA [0, 1, 2, 3, 4, 5, 6, 7, 8, 9, 10, 11, 12, 13, 14, 15, 16, 17, 18, 19, 20, 21, 22, 23, 24, 25, 26, 27, 28, 29, 30, 31, 32, 33, 34, 35, 36, 37, 38, 39, 40, 41, 42, 43, 44, 45, 46, 47, 48, 49, 50, 51, 52, 53, 54, 55, 56, 57] [] rfl rfl (by decide) (by decide) (fun r11 u H locs hok hw => ?_)
      obtain ⟨I11, J11, B11, D11⟩ := u
      dsimp only at hok
      have hw : zW G A s.heap (wM ad K I11 J11 B11 D11) H locs := hw
      refine lv_lstore hx hb zd_LassoFinderModel_round_81 hl (by decide) rfl (fun ls hl => ?_)
      have hl : lv_has ls 12 [(8, .long r11), (0, .ref (ad 0)), (3, .int x3), (4, .int x4), (5, .long x5), (7, .int x7), (10, .int x10), (11, .int x11)] := hl
      refine lv_iload hx hb zd_LassoFinderModel_round_83 (lv_at hl 7 rfl) ?_
      refine lv_istore hx hb zd_LassoFinderModel_round_85 hl (by decide) rfl (fun ls hl => ?_)
      have hl : lv_has ls 12 [(10, .int x11), (8, .long r11), (0, .ref (ad 0)), (3, .int x3), (4, .int x4), (5, .long x5), (7, .int x7), (11, .int x11)] := hl
      obtain ⟨z12, ez12⟩ : ∃ z : Int32, z = (x11 + 1) := ⟨_, rfl⟩
      have hok := hok z12 ez12
      refine lv_iinc (v := z12) hx hb zd_LassoFinderModel_round_87 hl (k := 7) rfl ez12.symm (by decide) rfl (fun ls hl => ?_)
      have hl : lv_has ls 12 [(11, .int z12), (10, .int x11), (8, .long r11), (0, .ref (ad 0)), (3, .int x3), (4, .int x4), (5, .long x5), (7, .int x7)] := hl
      refine lv_goto (tgt := 50) hx hb zd_LassoFinderModel_round_90 (by decide) ?_
      exact kh50 x3 x4 x5 x7 r11 x11 z12 I11 J11 B11 D11 ls H locs hok (lv_sub hl [3, 4, 5, 6, 7, 2, 1, 0] rfl) hw
theorem wL_LassoFinderModel_round_50 {p : Program} {l : Launch} {e : Env} {s : State} {m : MethodId} {below : List Frame} {meth : Method} {c : Code} {A : Nat → Prop} (G : va_G) (K : Nat → ClassId) (ad : Nat → Nat) (a0 : Int32) (a1 : Int32) (Post : Int32 → (Nat → Int32) → (Nat → Int64) → (Nat → Nat → Int32) → (Nat → Nat → Int64) → Prop) (C : zCx p s m ([.ref (ad 0), .int a0, .int a1] : List Value).toArray meth c A G K prog_14_method_64_code (some .int) 12 "LassoFinderModel") (K30 : Int32 → Int32 → Int64 → Int32 → (Nat → Int32) → (Nat → Int64) → (Nat → Nat → Int32) → (Nat → Nat → Int64) → Prop) (kh30 : ∀ (x3 : Int32) (x4 : Int32) (x5 : Int64) (x7 : Int32) (I : Nat → Int32) (J : Nat → Int64) (B : Nat → Nat → Int32) (D : Nat → Nat → Int64) (ls : Array Slot) (H : Heap) (locs : List Loc), K30 x3 x4 x5 x7 I J B D → lv_has ls 12 [(0, .ref (ad 0)), (3, .int x3), (4, .int x4), (5, .long x5), (7, .int x7)] → zW G A s.heap (wM ad K I J B D) H locs → W p l e { frames := 4, cells := 0, slots := 0, locals := 112 } s m ([.ref (ad 0), .int a0, .int a1] : List Value).toArray below meth c H locs 0 0 (MQ below (va_Qi (fun (r : Int32) (u : zS) => Post r u.1 u.2.1 u.2.2.1 u.2.2.2) (fun u t => zPost G K A (wM ad K u.1 u.2.1 u.2.2.1 u.2.2.2) t) A) ([.ref (ad 0), .int a0, .int a1] : List Value).toArray s 0 0 A) (F0 m 30 ls [])) : ∀ (n : Nat) (x3 : Int32) (x4 : Int32) (x5 : Int64) (x7 : Int32) (x8 : Int64) (x10 : Int32) (x11 : Int32) (I : Nat → Int32) (J : Nat → Int64) (B : Nat → Nat → Int32) (D : Nat → Nat → Int64) (ls : Array Slot) (H : Heap) (locs : List Loc), wl_LassoFinderModel_round_50 a0 a1 K30 Post n x3 x4 x5 x7 x8 x10 x11 I J B D → lv_has ls 12 [(0, .ref (ad 0)), (3, .int x3), (4, .int x4), (5, .long x5), (7, .int x7), (8, .long x8), (10, .int x10), (11, .int x11)] → zW G A s.heap (wM ad K I J B D) H locs → W p l e { frames := 4, cells := 0, slots := 0, locals := 112 } s m ([.ref (ad 0), .int a0, .int a1] : List Value).toArray below meth c H locs 0 0 (MQ below (va_Qi (fun (r : Int32) (u : zS) => Post r u.1 u.2.1 u.2.2.1 u.2.2.2) (fun u t => zPost G K A (wM ad K u.1 u.2.1 u.2.2.1 u.2.2.2) t) A) ([.ref (ad 0), .int a0, .int a1] : List Value).toArray s 0 0 A) (F0 m 50 ls []) := by
  intro n
  induction n with
  | zero => intro x3 x4 x5 x7 x8 x10 x11 I J B D ls H locs hok; exact hok.elim
  | succ n ih => exact wB_LassoFinderModel_round_50 G K ad a0 a1 Post C K30 kh30 (wl_LassoFinderModel_round_50 a0 a1 K30 Post n) ih
set_option maxHeartbeats 8000000 in
set_option maxRecDepth 100000 in
theorem wB_LassoFinderModel_round_30 {p : Program} {l : Launch} {e : Env} {s : State} {m : MethodId} {below : List Frame} {meth : Method} {c : Code} {A : Nat → Prop} (G : va_G) (K : Nat → ClassId) (ad : Nat → Nat) (a0 : Int32) (a1 : Int32) (Post : Int32 → (Nat → Int32) → (Nat → Int64) → (Nat → Nat → Int32) → (Nat → Nat → Int64) → Prop) (C : zCx p s m ([.ref (ad 0), .int a0, .int a1] : List Value).toArray meth c A G K prog_14_method_64_code (some .int) 12 "LassoFinderModel") (K30 : Int32 → Int32 → Int64 → Int32 → (Nat → Int32) → (Nat → Int64) → (Nat → Nat → Int32) → (Nat → Nat → Int64) → Prop) (kh30 : ∀ (x3 : Int32) (x4 : Int32) (x5 : Int64) (x7 : Int32) (I : Nat → Int32) (J : Nat → Int64) (B : Nat → Nat → Int32) (D : Nat → Nat → Int64) (ls : Array Slot) (H : Heap) (locs : List Loc), K30 x3 x4 x5 x7 I J B D → lv_has ls 12 [(0, .ref (ad 0)), (3, .int x3), (4, .int x4), (5, .long x5), (7, .int x7)] → zW G A s.heap (wM ad K I J B D) H locs → W p l e { frames := 4, cells := 0, slots := 0, locals := 112 } s m ([.ref (ad 0), .int a0, .int a1] : List Value).toArray below meth c H locs 0 0 (MQ below (va_Qi (fun (r : Int32) (u : zS) => Post r u.1 u.2.1 u.2.2.1 u.2.2.2) (fun u t => zPost G K A (wM ad K u.1 u.2.1 u.2.2.1 u.2.2.2) t) A) ([.ref (ad 0), .int a0, .int a1] : List Value).toArray s 0 0 A) (F0 m 30 ls [])) : ∀ (x3 : Int32) (x4 : Int32) (x5 : Int64) (x7 : Int32) (I : Nat → Int32) (J : Nat → Int64) (B : Nat → Nat → Int32) (D : Nat → Nat → Int64) (ls : Array Slot) (H : Heap) (locs : List Loc), wb_LassoFinderModel_round_30 a0 a1 K30 Post x3 x4 x5 x7 I J B D → lv_has ls 12 [(0, .ref (ad 0)), (3, .int x3), (4, .int x4), (5, .long x5), (7, .int x7)] → zW G A s.heap (wM ad K I J B D) H locs → W p l e { frames := 4, cells := 0, slots := 0, locals := 112 } s m ([.ref (ad 0), .int a0, .int a1] : List Value).toArray below meth c H locs 0 0 (MQ below (va_Qi (fun (r : Int32) (u : zS) => Post r u.1 u.2.1 u.2.2.1 u.2.2.2) (fun u t => zPost G K A (wM ad K u.1 u.2.1 u.2.2.1 u.2.2.2) t) A) ([.ref (ad 0), .int a0, .int a1] : List Value).toArray s 0 0 A) (F0 m 30 ls []) := by
  obtain ⟨hx, hb, hr, hml, hts, hown, hlocks, hA, hK⟩ := id C
  intro x3 x4 x5 x7 I J B D ls H locs hok hl hw
  unfold wb_LassoFinderModel_round_30 at hok
  refine lv_iload hx hb zd_LassoFinderModel_round_30 (lv_at hl 4 rfl) ?_
  refine lv_if_lt (tgt := 127) hx hb zd_LassoFinderModel_round_32 (by decide) (fun hc13 => ?_) (fun hc13 => ?_)
  · have hok := hok.1 hc13
    refine lv_iload_n hx hb zd_LassoFinderModel_round_127 rfl (lv_at hl 1 rfl) ?_
    exact z_iret (u := (I, J, B, D)) hx hb hr hlocks rfl hw [0, 1, 2, 3, 4, 5, 6, 7, 8, 9, 10, 11, 12, 13, 14, 15, 16, 17, 18, 19, 20, 21, 22, 23, 24, 25, 26, 27, 28, 29, 30, 31, 32, 33, 34, 35, 36, 37, 38, 39, 40, 41, 42, 43, 44, 45, 46, 47, 48, 49, 50, 51, 52, 53, 54, 55, 56, 57] rfl (by decide) hok (Nat.le_of_ble_eq_true rfl) (Nat.le_of_ble_eq_true rfl) zd_LassoFinderModel_round_128
  · have hok := hok.2 hc13
    refine lv_lconst (v := 0) hx hb zd_LassoFinderModel_round_35 (by decide) ?_
    refine lv_lstore hx hb zd_LassoFinderModel_round_36 hl (by decide) rfl (fun ls hl => ?_)
    have hl : lv_has ls 12 [(8, .long 0), (0, .ref (ad 0)), (3, .int x3), (4, .int x4), (5, .long x5), (7, .int x7)] := hl
    refine lv_iconst (v := (-1)) hx hb zd_LassoFinderModel_round_38 (by decide) ?_
    refine lv_istore hx hb zd_LassoFinderModel_round_39 hl (by decide) rfl (fun ls hl => ?_)
    have hl : lv_has ls 12 [(10, .int (-1)), (8, .long 0), (0, .ref (ad 0)), (3, .int x3), (4, .int x4), (5, .long x5), (7, .int x7)] := hl
    refine lv_aload_n hx hb zd_LassoFinderModel_round_41 rfl (lv_at hl 2 rfl) ?_
    refine z_get (v := .ref (ad 32)) hx hb hts hown hK hw zZ12 0 rfl 48 (by decide) zm_266 rfl zd_LassoFinderModel_round_42 ?_
    refine lv_iload hx hb zd_LassoFinderModel_round_45 (lv_at hl 4 rfl) ?_
    refine va_iald (f := (B 29)) hx hb hK hw.1 32 0 rfl rfl hok.1 zd_LassoFinderModel_round_47 ?_
    have hok := hok.2
    refine lv_topi (fun z14 ez14 => ?_)
    have hok := hok z14 ez14
    refine lv_istore hx hb zd_LassoFinderModel_round_48 hl (by decide) rfl (fun ls hl => ?_)
    have hl : lv_has ls 12 [(11, .int z14), (10, .int (-1)), (8, .long 0), (0, .ref (ad 0)), (3, .int x3), (4, .int x4), (5, .long x5), (7, .int x7)] := hl
    obtain ⟨n9, hok⟩ := hok
    exact wL_LassoFinderModel_round_50 G K ad a0 a1 Post C K30 kh30 n9 x3 x4 x5 x7 0 (-1) z14 I J B D ls H locs hok (lv_sub hl [3, 4, 5, 6, 7, 2, 1, 0] rfl) hw
theorem wL_LassoFinderModel_round_30 {p : Program} {l : Launch} {e : Env} {s : State} {m : MethodId} {below : List Frame} {meth : Method} {c : Code} {A : Nat → Prop} (G : va_G) (K : Nat → ClassId) (ad : Nat → Nat) (a0 : Int32) (a1 : Int32) (Post : Int32 → (Nat → Int32) → (Nat → Int64) → (Nat → Nat → Int32) → (Nat → Nat → Int64) → Prop) (C : zCx p s m ([.ref (ad 0), .int a0, .int a1] : List Value).toArray meth c A G K prog_14_method_64_code (some .int) 12 "LassoFinderModel") : ∀ (n : Nat) (x3 : Int32) (x4 : Int32) (x5 : Int64) (x7 : Int32) (I : Nat → Int32) (J : Nat → Int64) (B : Nat → Nat → Int32) (D : Nat → Nat → Int64) (ls : Array Slot) (H : Heap) (locs : List Loc), wl_LassoFinderModel_round_30 a0 a1 Post n x3 x4 x5 x7 I J B D → lv_has ls 12 [(0, .ref (ad 0)), (3, .int x3), (4, .int x4), (5, .long x5), (7, .int x7)] → zW G A s.heap (wM ad K I J B D) H locs → W p l e { frames := 4, cells := 0, slots := 0, locals := 112 } s m ([.ref (ad 0), .int a0, .int a1] : List Value).toArray below meth c H locs 0 0 (MQ below (va_Qi (fun (r : Int32) (u : zS) => Post r u.1 u.2.1 u.2.2.1 u.2.2.2) (fun u t => zPost G K A (wM ad K u.1 u.2.1 u.2.2.1 u.2.2.2) t) A) ([.ref (ad 0), .int a0, .int a1] : List Value).toArray s 0 0 A) (F0 m 30 ls []) := by
  intro n
  induction n with
  | zero => intro x3 x4 x5 x7 I J B D ls H locs hok; exact hok.elim
  | succ n ih => exact wB_LassoFinderModel_round_30 G K ad a0 a1 Post C (wl_LassoFinderModel_round_30 a0 a1 Post n) ih
set_option maxHeartbeats 8000000 in
set_option maxRecDepth 100000 in
theorem w_LassoFinderModel_round (l : Launch) (G : va_G) (K : Nat → ClassId) (ad : Nat → Nat) (I : Nat → Int32) (J : Nat → Int64) (B : Nat → Nat → Int32) (D : Nat → Nat → Int64) (a0 : Int32) (a1 : Int32) (Post : Int32 → (Nat → Int32) → (Nat → Int64) → (Nat → Nat → Int32) → (Nat → Nat → Int64) → Prop) (sz : Nat) (hok : wp_LassoFinderModel_round I J B D a0 a1 Post) : Met l zy_LassoFinderModel_round (Cond.code zy_LassoFinderModel_round prog_14_method_64_code 12 (some .int) :: zTB) { frames := 4, cells := 0, slots := 0, locals := 112 } (va_Pc [.ref (ad 0), .int a0, .int a1] (zPre G K (wM ad K I J B D) sz)) (va_Qi (fun (r : Int32) (u : zS) => Post r u.1 u.2.1 u.2.2.1 u.2.2.2) (fun u t => zPost G K (va_A (wM ad K I J B D) sz) (wM ad K u.1 u.2.1 u.2.2.1 u.2.2.2) t) (va_A (wM ad K I J B D) sz)) 0 0 (va_A (wM ad K I J B D) sz) := by
  refine zMet (y := zy_LassoFinderModel_round) (av := [.ref (ad 0), .int a0, .int a1]) (maxL := 12) (cc := prog_14_method_64_code) (ret := (some .int)) (W0 := (wM ad K I J B D)) (sz := sz) (G := G) (K := K) (wt := zTB) (mc := 0) (ms := 0) (Qf := fun A => va_Qi (fun (r : Int32) (u : zS) => Post r u.1 u.2.1 u.2.2.1 u.2.2.2) (fun u t => zPost G K A (wM ad K u.1 u.2.1 u.2.2.1 u.2.2.2) t) A) (by decide) (Nat.le_of_ble_eq_true rfl) ?_
  intro p e s m below meth c ls A hx hb hr hml hts hown hlocks hin hA hK H locs hw hsz hl
  clear hsz
  have hown : s.vm.findClass "LassoFinderModel" = some m.cls := hown
  have C : zCx p s m ([.ref (ad 0), .int a0, .int a1] : List Value).toArray meth c A G K prog_14_method_64_code (some .int) 12 "LassoFinderModel" := ⟨hx, hb, hr, hml, hts, hown, hlocks, hA, hK⟩
  have hl : lv_has ls 12 [(0, .ref (ad 0)), (1, .int a0), (2, .int a1)] := hl
  have hw : zW G A s.heap (wM ad K I J B D) H locs := hw
  unfold wp_LassoFinderModel_round at hok
  refine lv_aload_n hx hb zd_LassoFinderModel_round_0 rfl (lv_at hl 0 rfl) ?_
  refine lv_iload_n hx hb zd_LassoFinderModel_round_1 rfl (lv_at hl 1 rfl) ?_
  refine lv_iload_n hx hb zd_LassoFinderModel_round_2 rfl (lv_at hl 2 rfl) ?_
  refine z_calli (w1 := fun (u : zS) => wM ad K u.1 u.2.1 u.2.2.1 u.2.2.2) (wr := []) (z_runV (q0 := 0) (wc := (wM ad K I J B D)) (As := [.int a0, .int a1]) (rest := []) ⟨hx, hb, hml, hown, hts⟩ (w_LassoFinderModel_nearest l G K ad I J B D a0 a1 _ H.size hok) zf_LassoFinderModel_nearest zm_372 ⟨Nat.le_of_ble_eq_true rfl, Nat.le_of_ble_eq_true rfl⟩ hK hw [0, 1, 2, 3, 4, 5, 6, 7, 8, 9, 10, 11, 12, 13, 14, 15, 16, 17, 18, 19, 20, 21, 22, 23, 24, 25, 26, 27, 28, 29, 30, 31, 32, 33, 34, 35, 36, 37, 38, 39, 40, 41, 42, 43, 44, 45, 46, 47, 48, 49, 50, 51, 52, 53, 54, 55, 56, 57] rfl (by decide) rfl rfl rfl hl.1 rfl (Nat.le_of_ble_eq_true rfl) zd_LassoFinderModel_round_3 ⟨Nat.le_of_ble_eq_true rfl, Nat.le_of_ble_eq_true rfl⟩) hw hA [0, 1, 2, 3, 4, 5, 6, 7, 8, 9, 10, 11, 12, 13, 14, 15, 16, 17, 18, 19, 20, 21, 22, 23, 24, 25, 26, 27, 28, 29, 30, 31, 32, 33, 34, 35, 36, 37, 38, 39, 40, 41, 42, 43, 44, 45, 46, 47, 48, 49, 50, 51, 52, 53, 54, 55, 56, 57] [] rfl rfl (by decide) (by decide) (fun r15 u H locs hok hw => ?_)
  obtain ⟨I15, J15, B15, D15⟩ := u
  dsimp only at hok
  have hw : zW G A s.heap (wM ad K I15 J15 B15 D15) H locs := hw
  refine lv_istore_n hx hb zd_LassoFinderModel_round_6 rfl hl (by decide) rfl (fun ls hl => ?_)
  have hl : lv_has ls 12 [(3, .int r15), (0, .ref (ad 0)), (1, .int a0), (2, .int a1)] := hl
  refine lv_iload_n hx hb zd_LassoFinderModel_round_7 rfl (lv_at hl 2 rfl) ?_
  refine lv_istore hx hb zd_LassoFinderModel_round_8 hl (by decide) rfl (fun ls hl => ?_)
  have hl : lv_has ls 12 [(4, .int a0), (3, .int r15), (0, .ref (ad 0)), (1, .int a0), (2, .int a1)] := hl
  refine lv_lconst (v := 1) hx hb zd_LassoFinderModel_round_10 (by decide) ?_
  refine lv_bipush (v := 8) hx hb zd_LassoFinderModel_round_11 (by decide) ?_
  refine lv_iload_n hx hb zd_LassoFinderModel_round_13 rfl (lv_at hl 4 rfl) ?_
  refine lv_imul hx hb zd_LassoFinderModel_round_14 ?_
  refine lv_topi (fun z16 ez16 => ?_)
  have hok := hok z16 ez16
  refine lv_aload_n hx hb zd_LassoFinderModel_round_15 rfl (lv_at hl 2 rfl) ?_
  refine lv_iload_n hx hb zd_LassoFinderModel_round_16 rfl (lv_at hl 3 rfl) ?_
  refine lv_iload_n hx hb zd_LassoFinderModel_round_17 rfl (lv_at hl 4 rfl) ?_
  refine z_calli (w1 := fun (u : zS) => wM ad K u.1 u.2.1 u.2.2.1 u.2.2.2) (wr := []) (z_runV (q0 := 0) (wc := (wM ad K I15 J15 B15 D15)) (As := [.int a0, .int a1]) (rest := [.int z16, .long 1]) ⟨hx, hb, hml, hown, hts⟩ (w_LassoFinderModel_settled l G K ad I15 J15 B15 D15 a0 a1 _ H.size hok) zf_LassoFinderModel_settled zm_373 ⟨Nat.le_of_ble_eq_true rfl, Nat.le_of_ble_eq_true rfl⟩ hK hw [0, 1, 2, 3, 4, 5, 6, 7, 8, 9, 10, 11, 12, 13, 14, 15, 16, 17, 18, 19, 20, 21, 22, 23, 24, 25, 26, 27, 28, 29, 30, 31, 32, 33, 34, 35, 36, 37, 38, 39, 40, 41, 42, 43, 44, 45, 46, 47, 48, 49, 50, 51, 52, 53, 54, 55, 56, 57] rfl (by decide) rfl rfl rfl hl.1 rfl (Nat.le_of_ble_eq_true rfl) zd_LassoFinderModel_round_18 ⟨Nat.le_of_ble_eq_true rfl, Nat.le_of_ble_eq_true rfl⟩) hw hA [0, 1, 2, 3, 4, 5, 6, 7, 8, 9, 10, 11, 12, 13, 14, 15, 16, 17, 18, 19, 20, 21, 22, 23, 24, 25, 26, 27, 28, 29, 30, 31, 32, 33, 34, 35, 36, 37, 38, 39, 40, 41, 42, 43, 44, 45, 46, 47, 48, 49, 50, 51, 52, 53, 54, 55, 56, 57] [] rfl rfl (by decide) (by decide) (fun r17 u H locs hok hw => ?_)
  obtain ⟨I17, J17, B17, D17⟩ := u
  dsimp only at hok
  have hw : zW G A s.heap (wM ad K I17 J17 B17 D17) H locs := hw
  refine lv_iadd hx hb zd_LassoFinderModel_round_21 ?_
  refine lv_topi (fun z18 ez18 => ?_)
  have hok := hok z18 ez18
  refine lv_lshl hx hb zd_LassoFinderModel_round_22 rfl ?_
  refine lv_topl (fun z19 ez19 => ?_)
  have hok := hok z19 ez19
  refine lv_lstore hx hb zd_LassoFinderModel_round_23 hl (by decide) rfl (fun ls hl => ?_)
  have hl : lv_has ls 12 [(5, .long z19), (4, .int a0), (3, .int r15), (0, .ref (ad 0)), (1, .int a0), (2, .int a1)] := hl
  refine lv_iload_n hx hb zd_LassoFinderModel_round_25 rfl (lv_at hl 2 rfl) ?_
  refine lv_iconst (v := 1) hx hb zd_LassoFinderModel_round_26 (by decide) ?_
  refine lv_isub hx hb zd_LassoFinderModel_round_27 ?_
  refine lv_topi (fun z20 ez20 => ?_)
  have hok := hok z20 ez20
  refine lv_istore hx hb zd_LassoFinderModel_round_28 hl (by decide) rfl (fun ls hl => ?_)
  have hl : lv_has ls 12 [(7, .int z20), (5, .long z19), (4, .int a0), (3, .int r15), (0, .ref (ad 0)), (1, .int a0), (2, .int a1)] := hl
  obtain ⟨n9, hok⟩ := hok
  exact wL_LassoFinderModel_round_30 G K ad a0 a1 Post C n9 r15 a0 z19 z20 I17 J17 B17 D17 ls H locs hok (lv_sub hl [4, 3, 2, 1, 0] rfl) hw
def wp_LassoFinderModel_stepOf_ad55 (I : Nat → Int32) (J : Nat → Int64) (B : Nat → Nat → Int32) (D : Nat → Nat → Int64) (a1 : Int32) (Post : Int32 → (Nat → Int32) → (Nat → Int64) → (Nat → Nat → Int32) → (Nat → Nat → Int64) → Prop) : Prop :=
  ∀ z1 : Int32, z1 = (a1 / 3) → vp_in z1 1280 ∧ ∀ z2 : Int32, z2 = ((B 52) z1.toNatClampNeg) → ∀ z3 : Int32, z3 = (a1 - a1 / 3 * 3) → ∀ z4 : Int32, z4 = (9 * z3) → ∀ z5 : Int32, z5 = (z2 >>> (z4 &&& 31)) → ∀ z6 : Int32, z6 = (z5 &&& 511) → Post z6 I J B D
set_option maxHeartbeats 8000000 in
set_option maxRecDepth 100000 in
theorem w_LassoFinderModel_stepOf_ad55 (l : Launch) (G : va_G) (K : Nat → ClassId) (ad : Nat → Nat) (I : Nat → Int32) (J : Nat → Int64) (B : Nat → Nat → Int32) (D : Nat → Nat → Int64) (a1 : Int32) (Post : Int32 → (Nat → Int32) → (Nat → Int64) → (Nat → Nat → Int32) → (Nat → Nat → Int64) → Prop) (sz : Nat) (hok : wp_LassoFinderModel_stepOf_ad55 I J B D a1 Post) : Met l zy_LassoFinderModel_stepOf (Cond.code zy_LassoFinderModel_stepOf prog_14_method_58_code 2 (some .int) :: zTB) { frames := 0, cells := 0, slots := 0, locals := 0 } (va_Pc [.ref (ad 55), .int a1] (zPre G K (wM ad K I J B D) sz)) (va_Qi (fun (r : Int32) (u : zS) => Post r u.1 u.2.1 u.2.2.1 u.2.2.2) (fun u t => zPost G K (va_A (wM ad K I J B D) sz) (wM ad K u.1 u.2.1 u.2.2.1 u.2.2.2) t) (va_A (wM ad K I J B D) sz)) 0 0 (va_A (wM ad K I J B D) sz) := by
  refine zMet (y := zy_LassoFinderModel_stepOf) (av := [.ref (ad 55), .int a1]) (maxL := 2) (cc := prog_14_method_58_code) (ret := (some .int)) (W0 := (wM ad K I J B D)) (sz := sz) (G := G) (K := K) (wt := zTB) (mc := 0) (ms := 0) (Qf := fun A => va_Qi (fun (r : Int32) (u : zS) => Post r u.1 u.2.1 u.2.2.1 u.2.2.2) (fun u t => zPost G K A (wM ad K u.1 u.2.1 u.2.2.1 u.2.2.2) t) A) (by decide) (Nat.le_of_ble_eq_true rfl) ?_
  intro p e s m below meth c ls A hx hb hr hml hts hown hlocks hin hA hK H locs hw hsz hl
  clear hsz
  have hown : s.vm.findClass "LassoFinderModel" = some m.cls := hown
  have C : zCx p s m ([.ref (ad 55), .int a1] : List Value).toArray meth c A G K prog_14_method_58_code (some .int) 2 "LassoFinderModel" := ⟨hx, hb, hr, hml, hts, hown, hlocks, hA, hK⟩
  have hl : lv_has ls 2 [(0, .ref (ad 55)), (1, .int a1)] := hl
  have hw : zW G A s.heap (wM ad K I J B D) H locs := hw
  unfold wp_LassoFinderModel_stepOf_ad55 at hok
  refine lv_aload_n hx hb zd_LassoFinderModel_stepOf_0 rfl (lv_at hl 0 rfl) ?_
  refine lv_iload_n hx hb zd_LassoFinderModel_stepOf_1 rfl (lv_at hl 1 rfl) ?_
  refine lv_iconst (v := 3) hx hb zd_LassoFinderModel_stepOf_2 (by decide) ?_
  refine lv_idiv hx hb zd_LassoFinderModel_stepOf_3 (by decide) ?_
  refine lv_topi (fun z1 ez1 => ?_)
  have hok := hok z1 ez1
  refine va_iald (f := (B 52)) hx hb hK hw.1 55 0 rfl rfl hok.1 zd_LassoFinderModel_stepOf_4 ?_
  have hok := hok.2
  refine lv_topi (fun z2 ez2 => ?_)
  have hok := hok z2 ez2
  refine lv_bipush (v := 9) hx hb zd_LassoFinderModel_stepOf_5 (by decide) ?_
  refine lv_iload_n hx hb zd_LassoFinderModel_stepOf_7 rfl (lv_at hl 1 rfl) ?_
  refine lv_iconst (v := 3) hx hb zd_LassoFinderModel_stepOf_8 (by decide) ?_
  refine lv_irem hx hb zd_LassoFinderModel_stepOf_9 (by decide) ?_
  refine lv_topi (fun z3 ez3 => ?_)
  have hok := hok z3 ez3
  refine lv_imul hx hb zd_LassoFinderModel_stepOf_10 ?_
  refine lv_topi (fun z4 ez4 => ?_)
  have hok := hok z4 ez4
  refine lv_ishr hx hb zd_LassoFinderModel_stepOf_11 ?_
  refine lv_topi (fun z5 ez5 => ?_)
  have hok := hok z5 ez5
  refine lv_sipush (v := 511) hx hb zd_LassoFinderModel_stepOf_12 (by decide) ?_
  refine lv_iand hx hb zd_LassoFinderModel_stepOf_15 ?_
  refine lv_topi (fun z6 ez6 => ?_)
  have hok := hok z6 ez6
  exact z_iret (u := (I, J, B, D)) hx hb hr hlocks rfl hw [0, 1, 2, 3, 4, 5, 6, 7, 8, 9, 10, 11, 12, 13, 14, 15, 16, 17, 18, 19, 20, 21, 22, 23, 24, 25, 26, 27, 28, 29, 30, 31, 32, 33, 34, 35, 36, 37, 38, 39, 40, 41, 42, 43, 44, 45, 46, 47, 48, 49, 50, 51, 52, 53, 54, 55, 56, 57] rfl (by decide) hok (Nat.le_of_ble_eq_true rfl) (Nat.le_of_ble_eq_true rfl) zd_LassoFinderModel_stepOf_16
def wc_LassoFinderModel_sooner_35 (a0 : Int32) (Post : Int32 → (Nat → Int32) → (Nat → Int64) → (Nat → Nat → Int32) → (Nat → Nat → Int64) → Prop) (y0 : Int32) (I : Nat → Int32) (J : Nat → Int64) (B : Nat → Nat → Int32) (D : Nat → Nat → Int64) : Prop :=
  (y0 = 0 ∨ y0 = 1) ∧ Post y0 I J B D
def wc_LassoFinderModel_sooner_30 (a0 : Int32) (Post : Int32 → (Nat → Int32) → (Nat → Int64) → (Nat → Nat → Int32) → (Nat → Nat → Int64) → Prop)  (I : Nat → Int32) (J : Nat → Int64) (B : Nat → Nat → Int32) (D : Nat → Nat → Int64) : Prop :=
  wc_LassoFinderModel_sooner_35 a0 Post 1 I J B D
def wc_LassoFinderModel_sooner_15 (a0 : Int32) (Post : Int32 → (Nat → Int32) → (Nat → Int64) → (Nat → Nat → Int32) → (Nat → Nat → Int64) → Prop) (x1 : Int32) (I : Nat → Int32) (J : Nat → Int64) (B : Nat → Nat → Int32) (D : Nat → Nat → Int64) : Prop :=
  (((I 25) = 0 → wc_LassoFinderModel_sooner_30 a0 Post I J B D) ∧ (¬ (I 25) = 0 → (((I 25) ≤ x1 → wc_LassoFinderModel_sooner_35 a0 Post 0 I J B D) ∧ (¬ (I 25) ≤ x1 → wc_LassoFinderModel_sooner_30 a0 Post I J B D))))
def wc_LassoFinderModel_sooner_107 (a0 : Int32) (Post : Int32 → (Nat → Int32) → (Nat → Int64) → (Nat → Nat → Int32) → (Nat → Nat → Int64) → Prop) (y0 : Int32) (I : Nat → Int32) (J : Nat → Int64) (B : Nat → Nat → Int32) (D : Nat → Nat → Int64) : Prop :=
  (y0 = 0 ∨ y0 = 1) ∧ Post y0 I J B D
def wc_LassoFinderModel_sooner_106 (a0 : Int32) (Post : Int32 → (Nat → Int32) → (Nat → Int64) → (Nat → Nat → Int32) → (Nat → Nat → Int64) → Prop)  (I : Nat → Int32) (J : Nat → Int64) (B : Nat → Nat → Int32) (D : Nat → Nat → Int64) : Prop :=
  wc_LassoFinderModel_sooner_107 a0 Post 0 I J B D
def wc_LassoFinderModel_sooner_73 (a0 : Int32) (Post : Int32 → (Nat → Int32) → (Nat → Int64) → (Nat → Nat → Int32) → (Nat → Nat → Int64) → Prop) (x1 : Int32) (x2 : Int32) (I : Nat → Int32) (J : Nat → Int64) (B : Nat → Nat → Int32) (D : Nat → Nat → Int64) : Prop :=
  ((x1 ≤ x2 → wc_LassoFinderModel_sooner_106 a0 Post I J B D) ∧ (¬ x1 ≤ x2 → wp_LassoFinderModel_stepOf_ad56 I J B D x2 (fun r4 I4 J4 B4 D4 => ∀ z5 : Int32, z5 = ((I4 24) + x2) → wp_LassoFinderModel_stepOf_ad55 I4 J4 B4 D4 z5 (fun r6 I6 J6 B6 D6 => ((r6 ≤ r4 → wc_LassoFinderModel_sooner_106 a0 Post I6 J6 B6 D6) ∧ (¬ r6 ≤ r4 → wc_LassoFinderModel_sooner_107 a0 Post 1 I6 J6 B6 D6))))))
def wb_LassoFinderModel_sooner_38 (a0 : Int32) (K38 : Int32 → Int32 → (Nat → Int32) → (Nat → Int64) → (Nat → Nat → Int32) → (Nat → Nat → Int64) → Prop) (Post : Int32 → (Nat → Int32) → (Nat → Int64) → (Nat → Nat → Int32) → (Nat → Nat → Int64) → Prop) (x1 : Int32) (x2 : Int32) (I : Nat → Int32) (J : Nat → Int64) (B : Nat → Nat → Int32) (D : Nat → Nat → Int64) : Prop :=
  ((x1 ≤ x2 → wc_LassoFinderModel_sooner_73 a0 Post x1 x2 I J B D) ∧ (¬ x1 ≤ x2 → wp_LassoFinderModel_stepOf_ad56 I J B D x2 (fun r9 I9 J9 B9 D9 => ∀ z10 : Int32, z10 = ((I9 24) + x2) → wp_LassoFinderModel_stepOf_ad55 I9 J9 B9 D9 z10 (fun r11 I11 J11 B11 D11 => ((¬ r9 = r11 → wc_LassoFinderModel_sooner_73 a0 Post x1 x2 I11 J11 B11 D11) ∧ (r9 = r11 → ∀ z13 : Int32, z13 = (x2 + 1) → K38 x1 z13 I11 J11 B11 D11))))))
def wl_LassoFinderModel_sooner_38 (a0 : Int32) (Post : Int32 → (Nat → Int32) → (Nat → Int64) → (Nat → Nat → Int32) → (Nat → Nat → Int64) → Prop) (n : Nat) : Int32 → Int32 → (Nat → Int32) → (Nat → Int64) → (Nat → Nat → Int32) → (Nat → Nat → Int64) → Prop := Nat.rec (fun _ _ _ _ _ _ => False) (fun _ r => wb_LassoFinderModel_sooner_38 a0 r Post) n
def wp_LassoFinderModel_sooner (I : Nat → Int32) (J : Nat → Int64) (B : Nat → Nat → Int32) (D : Nat → Nat → Int64) (a0 : Int32) (Post : Int32 → (Nat → Int32) → (Nat → Int64) → (Nat → Nat → Int32) → (Nat → Nat → Int64) → Prop) : Prop :=
  (((I 25) = 0 → wc_LassoFinderModel_sooner_15 a0 Post a0 I J B D) ∧ (¬ (I 25) = 0 → ((a0 = (I 25) → ∃ n : Nat, wl_LassoFinderModel_sooner_38 a0 Post n a0 0 I J B D) ∧ (¬ a0 = (I 25) → wc_LassoFinderModel_sooner_15 a0 Post a0 I J B D))))
set_option maxHeartbeats 8000000 in
set_option maxRecDepth 100000 in
theorem wJ_LassoFinderModel_sooner_35 {p : Program} {l : Launch} {e : Env} {s : State} {m : MethodId} {below : List Frame} {meth : Method} {c : Code} {A : Nat → Prop} (G : va_G) (K : Nat → ClassId) (ad : Nat → Nat) (a0 : Int32) (Post : Int32 → (Nat → Int32) → (Nat → Int64) → (Nat → Nat → Int32) → (Nat → Nat → Int64) → Prop) (C : zCx p s m ([.ref (ad 0), .int a0] : List Value).toArray meth c A G K prog_14_method_65_code (some .boolean) 3 "LassoFinderModel") : ∀ (y0 : Int32) (I : Nat → Int32) (J : Nat → Int64) (B : Nat → Nat → Int32) (D : Nat → Nat → Int64) (ls : Array Slot) (H : Heap) (locs : List Loc), wc_LassoFinderModel_sooner_35 a0 Post y0 I J B D → lv_has ls 3 [] → zW G A s.heap (wM ad K I J B D) H locs → W p l e { frames := 1, cells := 0, slots := 0, locals := 21 } s m ([.ref (ad 0), .int a0] : List Value).toArray below meth c H locs 0 0 (MQ below (va_Qi (fun (r : Int32) (u : zS) => Post r u.1 u.2.1 u.2.2.1 u.2.2.2) (fun u t => zPost G K A (wM ad K u.1 u.2.1 u.2.2.1 u.2.2.2) t) A) ([.ref (ad 0), .int a0] : List Value).toArray s 0 0 A) (F0 m 35 ls [.int y0]) := by
  obtain ⟨hx, hb, hr, hml, hts, hown, hlocks, hA, hK⟩ := id C
  intro y0 I J B D ls H locs hok hl hw
  unfold wc_LassoFinderModel_sooner_35 at hok
  have hbo := hok.1
  have hok := hok.2
  exact z_iret (u := (I, J, B, D)) hx hb hr hlocks (z_nar hbo) hw [0, 1, 2, 3, 4, 5, 6, 7, 8, 9, 10, 11, 12, 13, 14, 15, 16, 17, 18, 19, 20, 21, 22, 23, 24, 25, 26, 27, 28, 29, 30, 31, 32, 33, 34, 35, 36, 37, 38, 39, 40, 41, 42, 43, 44, 45, 46, 47, 48, 49, 50, 51, 52, 53, 54, 55, 56, 57] rfl (by decide) hok (Nat.le_of_ble_eq_true rfl) (Nat.le_of_ble_eq_true rfl) zd_LassoFinderModel_sooner_35
set_option maxHeartbeats 8000000 in
set_option maxRecDepth 100000 in
theorem wJ_LassoFinderModel_sooner_30 {p : Program} {l : Launch} {e : Env} {s : State} {m : MethodId} {below : List Frame} {meth : Method} {c : Code} {A : Nat → Prop} (G : va_G) (K : Nat → ClassId) (ad : Nat → Nat) (a0 : Int32) (Post : Int32 → (Nat → Int32) → (Nat → Int64) → (Nat → Nat → Int32) → (Nat → Nat → Int64) → Prop) (C : zCx p s m ([.ref (ad 0), .int a0] : List Value).toArray meth c A G K prog_14_method_65_code (some .boolean) 3 "LassoFinderModel") : ∀  (I : Nat → Int32) (J : Nat → Int64) (B : Nat → Nat → Int32) (D : Nat → Nat → Int64) (ls : Array Slot) (H : Heap) (locs : List Loc), wc_LassoFinderModel_sooner_30 a0 Post  I J B D → lv_has ls 3 [] → zW G A s.heap (wM ad K I J B D) H locs → W p l e { frames := 1, cells := 0, slots := 0, locals := 21 } s m ([.ref (ad 0), .int a0] : List Value).toArray below meth c H locs 0 0 (MQ below (va_Qi (fun (r : Int32) (u : zS) => Post r u.1 u.2.1 u.2.2.1 u.2.2.2) (fun u t => zPost G K A (wM ad K u.1 u.2.1 u.2.2.1 u.2.2.2) t) A) ([.ref (ad 0), .int a0] : List Value).toArray s 0 0 A) (F0 m 30 ls []) := by
  obtain ⟨hx, hb, hr, hml, hts, hown, hlocks, hA, hK⟩ := id C
  intro  I J B D ls H locs hok hl hw
  unfold wc_LassoFinderModel_sooner_30 at hok
  refine lv_iconst (v := 1) hx hb zd_LassoFinderModel_sooner_30 (by decide) ?_
  refine lv_goto (tgt := 35) hx hb zd_LassoFinderModel_sooner_31 (by decide) ?_
  exact wJ_LassoFinderModel_sooner_35 G K ad a0 Post C 1 I J B D ls H locs hok (lv_sub hl [] rfl) hw
set_option maxHeartbeats 8000000 in
set_option maxRecDepth 100000 in
theorem wJ_LassoFinderModel_sooner_15 {p : Program} {l : Launch} {e : Env} {s : State} {m : MethodId} {below : List Frame} {meth : Method} {c : Code} {A : Nat → Prop} (G : va_G) (K : Nat → ClassId) (ad : Nat → Nat) (a0 : Int32) (Post : Int32 → (Nat → Int32) → (Nat → Int64) → (Nat → Nat → Int32) → (Nat → Nat → Int64) → Prop) (C : zCx p s m ([.ref (ad 0), .int a0] : List Value).toArray meth c A G K prog_14_method_65_code (some .boolean) 3 "LassoFinderModel") : ∀ (x1 : Int32) (I : Nat → Int32) (J : Nat → Int64) (B : Nat → Nat → Int32) (D : Nat → Nat → Int64) (ls : Array Slot) (H : Heap) (locs : List Loc), wc_LassoFinderModel_sooner_15 a0 Post x1 I J B D → lv_has ls 3 [(0, .ref (ad 0)), (1, .int x1)] → zW G A s.heap (wM ad K I J B D) H locs → W p l e { frames := 1, cells := 0, slots := 0, locals := 21 } s m ([.ref (ad 0), .int a0] : List Value).toArray below meth c H locs 0 0 (MQ below (va_Qi (fun (r : Int32) (u : zS) => Post r u.1 u.2.1 u.2.2.1 u.2.2.2) (fun u t => zPost G K A (wM ad K u.1 u.2.1 u.2.2.1 u.2.2.2) t) A) ([.ref (ad 0), .int a0] : List Value).toArray s 0 0 A) (F0 m 15 ls []) := by
  obtain ⟨hx, hb, hr, hml, hts, hown, hlocks, hA, hK⟩ := id C
  intro x1 I J B D ls H locs hok hl hw
  unfold wc_LassoFinderModel_sooner_15 at hok
  refine lv_aload_n hx hb zd_LassoFinderModel_sooner_15 rfl (lv_at hl 0 rfl) ?_
  refine z_get (v := .int (I 25)) hx hb hts hown hK hw zZ12 0 rfl 79 (by decide) zm_371 rfl zd_LassoFinderModel_sooner_16 ?_
  refine lv_if_eq (tgt := 30) hx hb zd_LassoFinderModel_sooner_19 (by decide) (fun hc1 => ?_) (fun hc1 => ?_)
  · have hok := hok.1 hc1
    exact wJ_LassoFinderModel_sooner_30 G K ad a0 Post C I J B D ls H locs hok (lv_sub hl [] rfl) hw
  · have hok := hok.2 hc1
    refine lv_iload_n hx hb zd_LassoFinderModel_sooner_22 rfl (lv_at hl 1 rfl) ?_
    refine lv_aload_n hx hb zd_LassoFinderModel_sooner_23 rfl (lv_at hl 0 rfl) ?_
    refine z_get (v := .int (I 25)) hx hb hts hown hK hw zZ12 0 rfl 79 (by decide) zm_371 rfl zd_LassoFinderModel_sooner_24 ?_
    refine lv_icmp_ge (tgt := 34) hx hb zd_LassoFinderModel_sooner_27 (by decide) (fun hc2 => ?_) (fun hc2 => ?_)
    · have hok := hok.1 hc2
      refine lv_iconst (v := 0) hx hb zd_LassoFinderModel_sooner_34 (by decide) ?_
      exact wJ_LassoFinderModel_sooner_35 G K ad a0 Post C 0 I J B D ls H locs hok (lv_sub hl [] rfl) hw
    · have hok := hok.2 hc2
      exact wJ_LassoFinderModel_sooner_30 G K ad a0 Post C I J B D ls H locs hok (lv_sub hl [] rfl) hw
set_option maxHeartbeats 8000000 in
set_option maxRecDepth 100000 in
theorem wJ_LassoFinderModel_sooner_107 {p : Program} {l : Launch} {e : Env} {s : State} {m : MethodId} {below : List Frame} {meth : Method} {c : Code} {A : Nat → Prop} (G : va_G) (K : Nat → ClassId) (ad : Nat → Nat) (a0 : Int32) (Post : Int32 → (Nat → Int32) → (Nat → Int64) → (Nat → Nat → Int32) → (Nat → Nat → Int64) → Prop) (C : zCx p s m ([.ref (ad 0), .int a0] : List Value).toArray meth c A G K prog_14_method_65_code (some .boolean) 3 "LassoFinderModel") : ∀ (y0 : Int32) (I : Nat → Int32) (J : Nat → Int64) (B : Nat → Nat → Int32) (D : Nat → Nat → Int64) (ls : Array Slot) (H : Heap) (locs : List Loc), wc_LassoFinderModel_sooner_107 a0 Post y0 I J B D → lv_has ls 3 [] → zW G A s.heap (wM ad K I J B D) H locs → W p l e { frames := 1, cells := 0, slots := 0, locals := 21 } s m ([.ref (ad 0), .int a0] : List Value).toArray below meth c H locs 0 0 (MQ below (va_Qi (fun (r : Int32) (u : zS) => Post r u.1 u.2.1 u.2.2.1 u.2.2.2) (fun u t => zPost G K A (wM ad K u.1 u.2.1 u.2.2.1 u.2.2.2) t) A) ([.ref (ad 0), .int a0] : List Value).toArray s 0 0 A) (F0 m 107 ls [.int y0]) := by
  obtain ⟨hx, hb, hr, hml, hts, hown, hlocks, hA, hK⟩ := id C
  intro y0 I J B D ls H locs hok hl hw
  unfold wc_LassoFinderModel_sooner_107 at hok
  have hbo := hok.1
  have hok := hok.2
  exact z_iret (u := (I, J, B, D)) hx hb hr hlocks (z_nar hbo) hw [0, 1, 2, 3, 4, 5, 6, 7, 8, 9, 10, 11, 12, 13, 14, 15, 16, 17, 18, 19, 20, 21, 22, 23, 24, 25, 26, 27, 28, 29, 30, 31, 32, 33, 34, 35, 36, 37, 38, 39, 40, 41, 42, 43, 44, 45, 46, 47, 48, 49, 50, 51, 52, 53, 54, 55, 56, 57] rfl (by decide) hok (Nat.le_of_ble_eq_true rfl) (Nat.le_of_ble_eq_true rfl) zd_LassoFinderModel_sooner_107
set_option maxHeartbeats 8000000 in
set_option maxRecDepth 100000 in
theorem wJ_LassoFinderModel_sooner_106 {p : Program} {l : Launch} {e : Env} {s : State} {m : MethodId} {below : List Frame} {meth : Method} {c : Code} {A : Nat → Prop} (G : va_G) (K : Nat → ClassId) (ad : Nat → Nat) (a0 : Int32) (Post : Int32 → (Nat → Int32) → (Nat → Int64) → (Nat → Nat → Int32) → (Nat → Nat → Int64) → Prop) (C : zCx p s m ([.ref (ad 0), .int a0] : List Value).toArray meth c A G K prog_14_method_65_code (some .boolean) 3 "LassoFinderModel") : ∀  (I : Nat → Int32) (J : Nat → Int64) (B : Nat → Nat → Int32) (D : Nat → Nat → Int64) (ls : Array Slot) (H : Heap) (locs : List Loc), wc_LassoFinderModel_sooner_106 a0 Post  I J B D → lv_has ls 3 [] → zW G A s.heap (wM ad K I J B D) H locs → W p l e { frames := 1, cells := 0, slots := 0, locals := 21 } s m ([.ref (ad 0), .int a0] : List Value).toArray below meth c H locs 0 0 (MQ below (va_Qi (fun (r : Int32) (u : zS) => Post r u.1 u.2.1 u.2.2.1 u.2.2.2) (fun u t => zPost G K A (wM ad K u.1 u.2.1 u.2.2.1 u.2.2.2) t) A) ([.ref (ad 0), .int a0] : List Value).toArray s 0 0 A) (F0 m 106 ls []) := by
  obtain ⟨hx, hb, hr, hml, hts, hown, hlocks, hA, hK⟩ := id C
  intro  I J B D ls H locs hok hl hw
  unfold wc_LassoFinderModel_sooner_106 at hok
  refine lv_iconst (v := 0) hx hb zd_LassoFinderModel_sooner_106 (by decide) ?_
  exact wJ_LassoFinderModel_sooner_107 G K ad a0 Post C 0 I J B D ls H locs hok (lv_sub hl [] rfl) hw
set_option maxHeartbeats 8000000 in
set_option maxRecDepth 100000 in
theorem wJ_LassoFinderModel_sooner_73 {p : Program} {l : Launch} {e : Env} {s : State} {m : MethodId} {below : List Frame} {meth : Method} {c : Code} {A : Nat → Prop} (G : va_G) (K : Nat → ClassId) (ad : Nat → Nat) (a0 : Int32) (Post : Int32 → (Nat → Int32) → (Nat → Int64) → (Nat → Nat → Int32) → (Nat → Nat → Int64) → Prop) (C : zCx p s m ([.ref (ad 0), .int a0] : List Value).toArray meth c A G K prog_14_method_65_code (some .boolean) 3 "LassoFinderModel") : ∀ (x1 : Int32) (x2 : Int32) (I : Nat → Int32) (J : Nat → Int64) (B : Nat → Nat → Int32) (D : Nat → Nat → Int64) (ls : Array Slot) (H : Heap) (locs : List Loc), wc_LassoFinderModel_sooner_73 a0 Post x1 x2 I J B D → lv_has ls 3 [(0, .ref (ad 0)), (1, .int x1), (2, .int x2)] → zW G A s.heap (wM ad K I J B D) H locs → W p l e { frames := 1, cells := 0, slots := 0, locals := 21 } s m ([.ref (ad 0), .int a0] : List Value).toArray below meth c H locs 0 0 (MQ below (va_Qi (fun (r : Int32) (u : zS) => Post r u.1 u.2.1 u.2.2.1 u.2.2.2) (fun u t => zPost G K A (wM ad K u.1 u.2.1 u.2.2.1 u.2.2.2) t) A) ([.ref (ad 0), .int a0] : List Value).toArray s 0 0 A) (F0 m 73 ls []) := by
  obtain ⟨hx, hb, hr, hml, hts, hown, hlocks, hA, hK⟩ := id C
  intro x1 x2 I J B D ls H locs hok hl hw
  unfold wc_LassoFinderModel_sooner_73 at hok
  refine lv_iload_n hx hb zd_LassoFinderModel_sooner_73 rfl (lv_at hl 2 rfl) ?_
  refine lv_iload_n hx hb zd_LassoFinderModel_sooner_74 rfl (lv_at hl 1 rfl) ?_
  refine lv_icmp_ge (tgt := 106) hx hb zd_LassoFinderModel_sooner_75 (by decide) (fun hc3 => ?_) (fun hc3 => ?_)
  · have hok := hok.1 hc3
    exact wJ_LassoFinderModel_sooner_106 G K ad a0 Post C I J B D ls H locs hok (lv_sub hl [] rfl) hw
  · have hok := hok.2 hc3
    refine lv_aload_n hx hb zd_LassoFinderModel_sooner_78 rfl (lv_at hl 0 rfl) ?_
    refine z_get (v := .ref (ad 56)) hx hb hts hown hK hw zZ12 0 rfl 81 (by decide) zm_290 rfl zd_LassoFinderModel_sooner_79 ?_
    refine lv_iload_n hx hb zd_LassoFinderModel_sooner_82 rfl (lv_at hl 2 rfl) ?_
    refine z_calli (w1 := fun (u : zS) => wM ad K u.1 u.2.1 u.2.2.1 u.2.2.2) (wr := []) (z_runS (wc := (wM ad K I J B D)) (As := [.ref (ad 56), .int x2]) (rest := []) ⟨hx, hb, hml, hown, hts⟩ (w_LassoFinderModel_stepOf_ad56 l G K ad I J B D x2 _ H.size hok) zf_LassoFinderModel_stepOf zm_367 ⟨Nat.le_of_ble_eq_true rfl, Nat.le_of_ble_eq_true rfl⟩ hK hw [0, 1, 2, 3, 4, 5, 6, 7, 8, 9, 10, 11, 12, 13, 14, 15, 16, 17, 18, 19, 20, 21, 22, 23, 24, 25, 26, 27, 28, 29, 30, 31, 32, 33, 34, 35, 36, 37, 38, 39, 40, 41, 42, 43, 44, 45, 46, 47, 48, 49, 50, 51, 52, 53, 54, 55, 56, 57] rfl (by decide) rfl hl.1 rfl (Nat.le_of_ble_eq_true rfl) zd_LassoFinderModel_sooner_83 ⟨Nat.le_of_ble_eq_true rfl, Nat.le_of_ble_eq_true rfl⟩) hw hA [0, 1, 2, 3, 4, 5, 6, 7, 8, 9, 10, 11, 12, 13, 14, 15, 16, 17, 18, 19, 20, 21, 22, 23, 24, 25, 26, 27, 28, 29, 30, 31, 32, 33, 34, 35, 36, 37, 38, 39, 40, 41, 42, 43, 44, 45, 46, 47, 48, 49, 50, 51, 52, 53, 54, 55, 56, 57] [] rfl rfl (by decide) (by decide) (fun r4 u H locs hok hw => ?_)
    obtain ⟨I4, J4, B4, D4⟩ := u
    dsimp only at hok
    have hw : zW G A s.heap (wM ad K I4 J4 B4 D4) H locs := hw
    refine lv_aload_n hx hb zd_LassoFinderModel_sooner_86 rfl (lv_at hl 0 rfl) ?_
    refine z_get (v := .ref (ad 55)) hx hb hts hown hK hw zZ12 0 rfl 80 (by decide) zm_289 rfl zd_LassoFinderModel_sooner_87 ?_
    refine lv_aload_n hx hb zd_LassoFinderModel_sooner_90 rfl (lv_at hl 0 rfl) ?_
    refine z_get (v := .int (I4 24)) hx hb hts hown hK hw zZ12 0 rfl 78 (by decide) zm_330 rfl zd_LassoFinderModel_sooner_91 ?_
    refine lv_iload_n hx hb zd_LassoFinderModel_sooner_94 rfl (lv_at hl 2 rfl) ?_
    refine lv_iadd hx hb zd_LassoFinderModel_sooner_95 ?_
    refine lv_topi (fun z5 ez5 => ?_)
    have hok := hok z5 ez5
    refine z_calli (w1 := fun (u : zS) => wM ad K u.1 u.2.1 u.2.2.1 u.2.2.2) (wr := []) (z_runS (wc := (wM ad K I4 J4 B4 D4)) (As := [.ref (ad 55), .int z5]) (rest := [.int r4]) ⟨hx, hb, hml, hown, hts⟩ (w_LassoFinderModel_stepOf_ad55 l G K ad I4 J4 B4 D4 z5 _ H.size hok) zf_LassoFinderModel_stepOf zm_367 ⟨Nat.le_of_ble_eq_true rfl, Nat.le_of_ble_eq_true rfl⟩ hK hw [0, 1, 2, 3, 4, 5, 6, 7, 8, 9, 10, 11, 12, 13, 14, 15, 16, 17, 18, 19, 20, 21, 22, 23, 24, 25, 26, 27, 28, 29, 30, 31, 32, 33, 34, 35, 36, 37, 38, 39, 40, 41, 42, 43, 44, 45, 46, 47, 48, 49, 50, 51, 52, 53, 54, 55, 56, 57] rfl (by decide) rfl hl.1 rfl (Nat.le_of_ble_eq_true rfl) zd_LassoFinderModel_sooner_96 ⟨Nat.le_of_ble_eq_true rfl, Nat.le_of_ble_eq_true rfl⟩) hw hA [0, 1, 2, 3, 4, 5, 6, 7, 8, 9, 10, 11, 12, 13, 14, 15, 16, 17, 18, 19, 20, 21, 22, 23, 24, 25, 26, 27, 28, 29, 30, 31, 32, 33, 34, 35, 36, 37, 38, 39, 40, 41, 42, 43, 44, 45, 46, 47, 48, 49, 50, 51, 52, 53, 54, 55, 56, 57] [] rfl rfl (by decide) (by decide) (fun r6 u H locs hok hw => ?_)
    obtain ⟨I6, J6, B6, D6⟩ := u
    dsimp only at hok
    have hw : zW G A s.heap (wM ad K I6 J6 B6 D6) H locs := hw
    refine lv_icmp_ge (tgt := 106) hx hb zd_LassoFinderModel_sooner_99 (by decide) (fun hc7 => ?_) (fun hc7 => ?_)
    · have hok := hok.1 hc7
      exact wJ_LassoFinderModel_sooner_106 G K ad a0 Post C I6 J6 B6 D6 ls H locs hok (lv_sub hl [] rfl) hw
    · have hok := hok.2 hc7
      refine lv_iconst (v := 1) hx hb zd_LassoFinderModel_sooner_102 (by decide) ?_
      refine lv_goto (tgt := 107) hx hb zd_LassoFinderModel_sooner_103 (by decide) ?_
      exact wJ_LassoFinderModel_sooner_107 G K ad a0 Post C 1 I6 J6 B6 D6 ls H locs hok (lv_sub hl [] rfl) hw
set_option maxHeartbeats 8000000 in
set_option maxRecDepth 100000 in
theorem wB_LassoFinderModel_sooner_38 {p : Program} {l : Launch} {e : Env} {s : State} {m : MethodId} {below : List Frame} {meth : Method} {c : Code} {A : Nat → Prop} (G : va_G) (K : Nat → ClassId) (ad : Nat → Nat) (a0 : Int32) (Post : Int32 → (Nat → Int32) → (Nat → Int64) → (Nat → Nat → Int32) → (Nat → Nat → Int64) → Prop) (C : zCx p s m ([.ref (ad 0), .int a0] : List Value).toArray meth c A G K prog_14_method_65_code (some .boolean) 3 "LassoFinderModel") (K38 : Int32 → Int32 → (Nat → Int32) → (Nat → Int64) → (Nat → Nat → Int32) → (Nat → Nat → Int64) → Prop) (kh38 : ∀ (x1 : Int32) (x2 : Int32) (I : Nat → Int32) (J : Nat → Int64) (B : Nat → Nat → Int32) (D : Nat → Nat → Int64) (ls : Array Slot) (H : Heap) (locs : List Loc), K38 x1 x2 I J B D → lv_has ls 3 [(0, .ref (ad 0)), (1, .int x1), (2, .int x2)] → zW G A s.heap (wM ad K I J B D) H locs → W p l e { frames := 1, cells := 0, slots := 0, locals := 21 } s m ([.ref (ad 0), .int a0] : List Value).toArray below meth c H locs 0 0 (MQ below (va_Qi (fun (r : Int32) (u : zS) => Post r u.1 u.2.1 u.2.2.1 u.2.2.2) (fun u t => zPost G K A (wM ad K u.1 u.2.1 u.2.2.1 u.2.2.2) t) A) ([.ref (ad 0), .int a0] : List Value).toArray s 0 0 A) (F0 m 38 ls [])) : ∀ (x1 : Int32) (x2 : Int32) (I : Nat → Int32) (J : Nat → Int64) (B : Nat → Nat → Int32) (D : Nat → Nat → Int64) (ls : Array Slot) (H : Heap) (locs : List Loc), wb_LassoFinderModel_sooner_38 a0 K38 Post x1 x2 I J B D → lv_has ls 3 [(0, .ref (ad 0)), (1, .int x1), (2, .int x2)] → zW G A s.heap (wM ad K I J B D) H locs → W p l e { frames := 1, cells := 0, slots := 0, locals := 21 } s m ([.ref (ad 0), .int a0] : List Value).toArray below meth c H locs 0 0 (MQ below (va_Qi (fun (r : Int32) (u : zS) => Post r u.1 u.2.1 u.2.2.1 u.2.2.2) (fun u t => zPost G K A (wM ad K u.1 u.2.1 u.2.2.1 u.2.2.2) t) A) ([.ref (ad 0), .int a0] : List Value).toArray s 0 0 A) (F0 m 38 ls []) := by
  obtain ⟨hx, hb, hr, hml, hts, hown, hlocks, hA, hK⟩ := id C
  intro x1 x2 I J B D ls H locs hok hl hw
  unfold wb_LassoFinderModel_sooner_38 at hok
  refine lv_iload_n hx hb zd_LassoFinderModel_sooner_38 rfl (lv_at hl 2 rfl) ?_
  refine lv_iload_n hx hb zd_LassoFinderModel_sooner_39 rfl (lv_at hl 1 rfl) ?_
  refine lv_icmp_ge (tgt := 73) hx hb zd_LassoFinderModel_sooner_40 (by decide) (fun hc8 => ?_) (fun hc8 => ?_)
  · have hok := hok.1 hc8
    exact wJ_LassoFinderModel_sooner_73 G K ad a0 Post C x1 x2 I J B D ls H locs hok (lv_sub hl [0, 1, 2] rfl) hw
  · have hok := hok.2 hc8
    refine lv_aload_n hx hb zd_LassoFinderModel_sooner_43 rfl (lv_at hl 0 rfl) ?_
    refine z_get (v := .ref (ad 56)) hx hb hts hown hK hw zZ12 0 rfl 81 (by decide) zm_290 rfl zd_LassoFinderModel_sooner_44 ?_
    refine lv_iload_n hx hb zd_LassoFinderModel_sooner_47 rfl (lv_at hl 2 rfl) ?_
    refine z_calli (w1 := fun (u : zS) => wM ad K u.1 u.2.1 u.2.2.1 u.2.2.2) (wr := []) (z_runS (wc := (wM ad K I J B D)) (As := [.ref (ad 56), .int x2]) (rest := []) ⟨hx, hb, hml, hown, hts⟩ (w_LassoFinderModel_stepOf_ad56 l G K ad I J B D x2 _ H.size hok) zf_LassoFinderModel_stepOf zm_367 ⟨Nat.le_of_ble_eq_true rfl, Nat.le_of_ble_eq_true rfl⟩ hK hw [0, 1, 2, 3, 4, 5, 6, 7, 8, 9, 10, 11, 12, 13, 14, 15, 16, 17, 18, 19, 20, 21, 22, 23, 24, 25, 26, 27, 28, 29, 30, 31, 32, 33, 34, 35, 36, 37, 38, 39, 40, 41, 42, 43, 44, 45, 46, 47, 48, 49, 50, 51, 52, 53, 54, 55, 56, 57] rfl (by decide) rfl hl.1 rfl (Nat.le_of_ble_eq_true rfl) zd_LassoFinderModel_sooner_48 ⟨Nat.le_of_ble_eq_true rfl, Nat.le_of_ble_eq_true rfl⟩) hw hA [0, 1, 2, 3, 4, 5, 6, 7, 8, 9, 10, 11, 12, 13, 14, 15, 16, 17, 18, 19, 20, 21, 22, 23, 24, 25, 26, 27, 28, 29, 30, 31, 32, 33, 34, 35, 36, 37, 38, 39, 40, 41, 42, 43, 44, 45, 46, 47, 48, 49, 50, 51, 52, 53, 54, 55, 56, 57] [] rfl rfl (by decide) (by decide) (fun r9 u H locs hok hw => ?_)
    obtain ⟨I9, J9, B9, D9⟩ := u
    dsimp only at hok
    have hw : zW G A s.heap (wM ad K I9 J9 B9 D9) H locs := hw
    refine lv_aload_n hx hb zd_LassoFinderModel_sooner_51 rfl (lv_at hl 0 rfl) ?_
    refine z_get (v := .ref (ad 55)) hx hb hts hown hK hw zZ12 0 rfl 80 (by decide) zm_289 rfl zd_LassoFinderModel_sooner_52 ?_
    refine lv_aload_n hx hb zd_LassoFinderModel_sooner_55 rfl (lv_at hl 0 rfl) ?_
    refine z_get (v := .int (I9 24)) hx hb hts hown hK hw zZ12 0 rfl 78 (by decide) zm_330 rfl zd_LassoFinderModel_sooner_56 ?_
    refine lv_iload_n hx hb zd_LassoFinderModel_sooner_59 rfl (lv_at hl 2 rfl) ?_
    refine lv_iadd hx hb zd_LassoFinderModel_sooner_60 ?_
    refine lv_topi (fun z10 ez10 => ?_)
    have hok := hok z10 ez10
    refine z_calli (w1 := fun (u : zS) => wM ad K u.1 u.2.1 u.2.2.1 u.2.2.2) (wr := []) (z_runS (wc := (wM ad K I9 J9 B9 D9)) (As := [.ref (ad 55), .int z10]) (rest := [.int r9]) ⟨hx, hb, hml, hown, hts⟩ (w_LassoFinderModel_stepOf_ad55 l G K ad I9 J9 B9 D9 z10 _ H.size hok) zf_LassoFinderModel_stepOf zm_367 ⟨Nat.le_of_ble_eq_true rfl, Nat.le_of_ble_eq_true rfl⟩ hK hw [0, 1, 2, 3, 4, 5, 6, 7, 8, 9, 10, 11, 12, 13, 14, 15, 16, 17, 18, 19, 20, 21, 22, 23, 24, 25, 26, 27, 28, 29, 30, 31, 32, 33, 34, 35, 36, 37, 38, 39, 40, 41, 42, 43, 44, 45, 46, 47, 48, 49, 50, 51, 52, 53, 54, 55, 56, 57] rfl (by decide) rfl hl.1 rfl (Nat.le_of_ble_eq_true rfl) zd_LassoFinderModel_sooner_61 ⟨Nat.le_of_ble_eq_true rfl, Nat.le_of_ble_eq_true rfl⟩) hw hA [0, 1, 2, 3, 4, 5, 6, 7, 8, 9, 10, 11, 12, 13, 14, 15, 16, 17, 18, 19, 20, 21, 22, 23, 24, 25, 26, 27, 28, 29, 30, 31, 32, 33, 34, 35, 36, 37, 38, 39, 40, 41, 42, 43, 44, 45, 46, 47, 48, 49, 50, 51, 52, 53, 54, 55, 56, 57] [] rfl rfl (by decide) (by decide) (fun r11 u H locs hok hw => ?_)
    obtain ⟨I11, J11, B11, D11⟩ := u
    dsimp only at hok
    have hw : zW G A s.heap (wM ad K I11 J11 B11 D11) H locs := hw
    refine lv_icmp_ne (tgt := 73) hx hb zd_LassoFinderModel_sooner_64 (by decide) (fun hc12 => ?_) (fun hc12 => ?_)
    · have hok := hok.1 hc12
      exact wJ_LassoFinderModel_sooner_73 G K ad a0 Post C x1 x2 I11 J11 B11 D11 ls H locs hok (lv_sub hl [0, 1, 2] rfl) hw
    · have hok := hok.2 hc12
      obtain ⟨z13, ez13⟩ : ∃ z : Int32, z = (x2 + 1) := ⟨_, rfl⟩
      have hok := hok z13 ez13
      refine lv_iinc (v := z13) hx hb zd_LassoFinderModel_sooner_67 hl (k := 2) rfl ez13.symm (by decide) rfl (fun ls hl => ?_)
      have hl : lv_has ls 3 [(2, .int z13), (0, .ref (ad 0)), (1, .int x1)] := hl
      refine lv_goto (tgt := 38) hx hb zd_LassoFinderModel_sooner_70 (by decide) ?_
      exact kh38 x1 z13 I11 J11 B11 D11 ls H locs hok (lv_sub hl [1, 2, 0] rfl) hw
theorem wL_LassoFinderModel_sooner_38 {p : Program} {l : Launch} {e : Env} {s : State} {m : MethodId} {below : List Frame} {meth : Method} {c : Code} {A : Nat → Prop} (G : va_G) (K : Nat → ClassId) (ad : Nat → Nat) (a0 : Int32) (Post : Int32 → (Nat → Int32) → (Nat → Int64) → (Nat → Nat → Int32) → (Nat → Nat → Int64) → Prop) (C : zCx p s m ([.ref (ad 0), .int a0] : List Value).toArray meth c A G K prog_14_method_65_code (some .boolean) 3 "LassoFinderModel") : ∀ (n : Nat) (x1 : Int32) (x2 : Int32) (I : Nat → Int32) (J : Nat → Int64) (B : Nat → Nat → Int32) (D : Nat → Nat → Int64) (ls : Array Slot) (H : Heap) (locs : List Loc), wl_LassoFinderModel_sooner_38 a0 Post n x1 x2 I J B D → lv_has ls 3 [(0, .ref (ad 0)), (1, .int x1), (2, .int x2)] → zW G A s.heap (wM ad K I J B D) H locs → W p l e { frames := 1, cells := 0, slots := 0, locals := 21 } s m ([.ref (ad 0), .int a0] : List Value).toArray below meth c H locs 0 0 (MQ below (va_Qi (fun (r : Int32) (u : zS) => Post r u.1 u.2.1 u.2.2.1 u.2.2.2) (fun u t => zPost G K A (wM ad K u.1 u.2.1 u.2.2.1 u.2.2.2) t) A) ([.ref (ad 0), .int a0] : List Value).toArray s 0 0 A) (F0 m 38 ls []) := by
  intro n
  induction n with
  | zero => intro x1 x2 I J B D ls H locs hok; exact hok.elim
  | succ n ih => exact wB_LassoFinderModel_sooner_38 G K ad a0 Post C (wl_LassoFinderModel_sooner_38 a0 Post n) ih
set_option maxHeartbeats 8000000 in
set_option maxRecDepth 100000 in
theorem w_LassoFinderModel_sooner (l : Launch) (G : va_G) (K : Nat → ClassId) (ad : Nat → Nat) (I : Nat → Int32) (J : Nat → Int64) (B : Nat → Nat → Int32) (D : Nat → Nat → Int64) (a0 : Int32) (Post : Int32 → (Nat → Int32) → (Nat → Int64) → (Nat → Nat → Int32) → (Nat → Nat → Int64) → Prop) (sz : Nat) (hok : wp_LassoFinderModel_sooner I J B D a0 Post) : Met l zy_LassoFinderModel_sooner (Cond.code zy_LassoFinderModel_sooner prog_14_method_65_code 3 (some .boolean) :: zTB) { frames := 1, cells := 0, slots := 0, locals := 21 } (va_Pc [.ref (ad 0), .int a0] (zPre G K (wM ad K I J B D) sz)) (va_Qi (fun (r : Int32) (u : zS) => Post r u.1 u.2.1 u.2.2.1 u.2.2.2) (fun u t => zPost G K (va_A (wM ad K I J B D) sz) (wM ad K u.1 u.2.1 u.2.2.1 u.2.2.2) t) (va_A (wM ad K I J B D) sz)) 0 0 (va_A (wM ad K I J B D) sz) := by
  refine zMet (y := zy_LassoFinderModel_sooner) (av := [.ref (ad 0), .int a0]) (maxL := 3) (cc := prog_14_method_65_code) (ret := (some .boolean)) (W0 := (wM ad K I J B D)) (sz := sz) (G := G) (K := K) (wt := zTB) (mc := 0) (ms := 0) (Qf := fun A => va_Qi (fun (r : Int32) (u : zS) => Post r u.1 u.2.1 u.2.2.1 u.2.2.2) (fun u t => zPost G K A (wM ad K u.1 u.2.1 u.2.2.1 u.2.2.2) t) A) (by decide) (Nat.le_of_ble_eq_true rfl) ?_
  intro p e s m below meth c ls A hx hb hr hml hts hown hlocks hin hA hK H locs hw hsz hl
  clear hsz
  have hown : s.vm.findClass "LassoFinderModel" = some m.cls := hown
  have C : zCx p s m ([.ref (ad 0), .int a0] : List Value).toArray meth c A G K prog_14_method_65_code (some .boolean) 3 "LassoFinderModel" := ⟨hx, hb, hr, hml, hts, hown, hlocks, hA, hK⟩
  have hl : lv_has ls 3 [(0, .ref (ad 0)), (1, .int a0)] := hl
  have hw : zW G A s.heap (wM ad K I J B D) H locs := hw
  unfold wp_LassoFinderModel_sooner at hok
  refine lv_aload_n hx hb zd_LassoFinderModel_sooner_0 rfl (lv_at hl 0 rfl) ?_
  refine z_get (v := .int (I 25)) hx hb hts hown hK hw zZ12 0 rfl 79 (by decide) zm_371 rfl zd_LassoFinderModel_sooner_1 ?_
  refine lv_if_eq (tgt := 15) hx hb zd_LassoFinderModel_sooner_4 (by decide) (fun hc14 => ?_) (fun hc14 => ?_)
  · have hok := hok.1 hc14
    exact wJ_LassoFinderModel_sooner_15 G K ad a0 Post C a0 I J B D ls H locs hok (lv_sub hl [0, 1] rfl) hw
  · have hok := hok.2 hc14
    refine lv_iload_n hx hb zd_LassoFinderModel_sooner_7 rfl (lv_at hl 1 rfl) ?_
    refine lv_aload_n hx hb zd_LassoFinderModel_sooner_8 rfl (lv_at hl 0 rfl) ?_
    refine z_get (v := .int (I 25)) hx hb hts hown hK hw zZ12 0 rfl 79 (by decide) zm_371 rfl zd_LassoFinderModel_sooner_9 ?_
    refine lv_icmp_eq (tgt := 36) hx hb zd_LassoFinderModel_sooner_12 (by decide) (fun hc15 => ?_) (fun hc15 => ?_)
    · have hok := hok.1 hc15
      refine lv_iconst (v := 0) hx hb zd_LassoFinderModel_sooner_36 (by decide) ?_
      refine lv_istore_n hx hb zd_LassoFinderModel_sooner_37 rfl hl (by decide) rfl (fun ls hl => ?_)
      have hl : lv_has ls 3 [(2, .int 0), (0, .ref (ad 0)), (1, .int a0)] := hl
      obtain ⟨n9, hok⟩ := hok
      exact wL_LassoFinderModel_sooner_38 G K ad a0 Post C n9 a0 0 I J B D ls H locs hok (lv_sub hl [1, 2, 0] rfl) hw
    · have hok := hok.2 hc15
      exact wJ_LassoFinderModel_sooner_15 G K ad a0 Post C a0 I J B D ls H locs hok (lv_sub hl [0, 1] rfl) hw
def wc_LassoFinderModel_spread_135 (a0 : Int32) (K4 : Int32 → Int32 → Int32 → (Nat → Int32) → (Nat → Int64) → (Nat → Nat → Int32) → (Nat → Nat → Int64) → Prop) (Post : Int32 → (Nat → Int32) → (Nat → Int64) → (Nat → Nat → Int32) → (Nat → Nat → Int64) → Prop) (x1 : Int32) (x2 : Int32) (x3 : Int32) (I : Nat → Int32) (J : Nat → Int64) (B : Nat → Nat → Int32) (D : Nat → Nat → Int64) : Prop :=
  ∀ z1 : Int32, z1 = (x3 + 1) → K4 x1 x2 z1 I J B D
def wc_LassoFinderModel_spread_123 (a0 : Int32) (K4 : Int32 → Int32 → Int32 → (Nat → Int32) → (Nat → Int64) → (Nat → Nat → Int32) → (Nat → Nat → Int64) → Prop) (K38 : Int32 → Int32 → Int32 → Int32 → (Nat → Int32) → (Nat → Int64) → (Nat → Nat → Int32) → (Nat → Nat → Int64) → Prop) (K56 : Int32 → Int32 → Int32 → Int32 → Int32 → (Nat → Int32) → (Nat → Int64) → (Nat → Nat → Int32) → (Nat → Nat → Int64) → Prop) (Post : Int32 → (Nat → Int32) → (Nat → Int64) → (Nat → Nat → Int32) → (Nat → Nat → Int64) → Prop) (x1 : Int32) (x2 : Int32) (x3 : Int32) (x4 : Int32) (x5 : Int32) (I : Nat → Int32) (J : Nat → Int64) (B : Nat → Nat → Int32) (D : Nat → Nat → Int64) : Prop :=
  ∀ z2 : Int32, z2 = (x5 + 1) → K56 x1 x2 x3 x4 z2 I J B D
def wb_LassoFinderModel_spread_56 (a0 : Int32) (K56 : Int32 → Int32 → Int32 → Int32 → Int32 → (Nat → Int32) → (Nat → Int64) → (Nat → Nat → Int32) → (Nat → Nat → Int64) → Prop) (K4 : Int32 → Int32 → Int32 → (Nat → Int32) → (Nat → Int64) → (Nat → Nat → Int32) → (Nat → Nat → Int64) → Prop) (K38 : Int32 → Int32 → Int32 → Int32 → (Nat → Int32) → (Nat → Int64) → (Nat → Nat → Int32) → (Nat → Nat → Int64) → Prop) (Post : Int32 → (Nat → Int32) → (Nat → Int64) → (Nat → Nat → Int32) → (Nat → Nat → Int64) → Prop) (x1 : Int32) (x2 : Int32) (x3 : Int32) (x4 : Int32) (x5 : Int32) (I : Nat → Int32) (J : Nat → Int64) (B : Nat → Nat → Int32) (D : Nat → Nat → Int64) : Prop :=
  ∀ z3 : Int32, z3 = (1 <<< ((I 20) &&& 31)) → ((z3 ≤ x5 → ∀ z5 : Int32, z5 = (x4 + 1) → K38 x1 x2 x3 z5 I J B D) ∧ (¬ z3 ≤ x5 → vp_in x4 401 ∧ ∀ z6 : Int32, z6 = ((B 30) x4.toNatClampNeg) → ∀ z7 : Int32, z7 = (8 * z6) → ∀ z8 : Int32, z8 = (z7 + x5) → vp_in z8 768 ∧ ∀ z9 : Int32, z9 = ((B 49) z8.toNatClampNeg) → (((0 : Int32) ≤ z9 → wc_LassoFinderModel_spread_123 a0 K4 K38 K56 Post x1 x2 x3 x4 x5 I J B D) ∧ (¬ (0 : Int32) ≤ z9 → ∀ z11 : Int32, z11 = (x3 >>> (3 &&& 31)) → wp_LassoFinderModel_truthAt I J B D z11 x5 (fun r12 I12 J12 B12 D12 => ∀ z13 : Int32, z13 = (x3 &&& 7) → ((r12 = z13 → ∀ z15 : Int32, z15 = (x1 + 1) → vp_in z8 768 ∧ wc_LassoFinderModel_spread_123 a0 K4 K38 K56 Post x1 1 x3 x4 x5 I12 J12 (va_up B12 49 (upd (B12 49) z8.toNatClampNeg z15)) D12) ∧ (¬ r12 = z13 → wc_LassoFinderModel_spread_123 a0 K4 K38 K56 Post x1 x2 x3 x4 x5 I12 J12 B12 D12)))))))
def wl_LassoFinderModel_spread_56 (a0 : Int32) (K4 : Int32 → Int32 → Int32 → (Nat → Int32) → (Nat → Int64) → (Nat → Nat → Int32) → (Nat → Nat → Int64) → Prop) (K38 : Int32 → Int32 → Int32 → Int32 → (Nat → Int32) → (Nat → Int64) → (Nat → Nat → Int32) → (Nat → Nat → Int64) → Prop) (Post : Int32 → (Nat → Int32) → (Nat → Int64) → (Nat → Nat → Int32) → (Nat → Nat → Int64) → Prop) (n : Nat) : Int32 → Int32 → Int32 → Int32 → Int32 → (Nat → Int32) → (Nat → Int64) → (Nat → Nat → Int32) → (Nat → Nat → Int64) → Prop := Nat.rec (fun _ _ _ _ _ _ _ _ _ => False) (fun _ r => wb_LassoFinderModel_spread_56 a0 r K4 K38 Post) n
def wb_LassoFinderModel_spread_38 (a0 : Int32) (K38 : Int32 → Int32 → Int32 → Int32 → (Nat → Int32) → (Nat → Int64) → (Nat → Nat → Int32) → (Nat → Nat → Int64) → Prop) (K4 : Int32 → Int32 → Int32 → (Nat → Int32) → (Nat → Int64) → (Nat → Nat → Int32) → (Nat → Nat → Int64) → Prop) (Post : Int32 → (Nat → Int32) → (Nat → Int64) → (Nat → Nat → Int32) → (Nat → Nat → Int64) → Prop) (x1 : Int32) (x2 : Int32) (x3 : Int32) (x4 : Int32) (I : Nat → Int32) (J : Nat → Int64) (B : Nat → Nat → Int32) (D : Nat → Nat → Int64) : Prop :=
  ∀ z16 : Int32, z16 = (x3 >>> (3 &&& 31)) → ∀ z17 : Int32, z17 = (z16 + 1) → vp_in z17 98 ∧ ∀ z18 : Int32, z18 = ((B 29) z17.toNatClampNeg) → ((z18 ≤ x4 → wc_LassoFinderModel_spread_135 a0 K4 Post x1 x2 x3 I J B D) ∧ (¬ z18 ≤ x4 → ∃ n : Nat, wl_LassoFinderModel_spread_56 a0 K4 K38 Post n x1 x2 x3 x4 0 I J B D))
def wl_LassoFinderModel_spread_38 (a0 : Int32) (K4 : Int32 → Int32 → Int32 → (Nat → Int32) → (Nat → Int64) → (Nat → Nat → Int32) → (Nat → Nat → Int64) → Prop) (Post : Int32 → (Nat → Int32) → (Nat → Int64) → (Nat → Nat → Int32) → (Nat → Nat → Int64) → Prop) (n : Nat) : Int32 → Int32 → Int32 → Int32 → (Nat → Int32) → (Nat → Int64) → (Nat → Nat → Int32) → (Nat → Nat → Int64) → Prop := Nat.rec (fun _ _ _ _ _ _ _ _ => False) (fun _ r => wb_LassoFinderModel_spread_38 a0 r K4 Post) n
def wb_LassoFinderModel_spread_4 (a0 : Int32) (K4 : Int32 → Int32 → Int32 → (Nat → Int32) → (Nat → Int64) → (Nat → Nat → Int32) → (Nat → Nat → Int64) → Prop) (Post : Int32 → (Nat → Int32) → (Nat → Int64) → (Nat → Nat → Int32) → (Nat → Nat → Int64) → Prop) (x1 : Int32) (x2 : Int32) (x3 : Int32) (I : Nat → Int32) (J : Nat → Int64) (B : Nat → Nat → Int32) (D : Nat → Nat → Int64) : Prop :=
  ∀ z20 : Int32, z20 = (8 * (I 14)) → ((z20 ≤ x3 → (x2 = 0 ∨ x2 = 1) ∧ Post x2 I J B D) ∧ (¬ z20 ≤ x3 → vp_in x3 768 ∧ ∀ z22 : Int32, z22 = ((B 49) x3.toNatClampNeg) → ((z22 = x1 → ∀ z24 : Int32, z24 = (x3 >>> (3 &&& 31)) → vp_in z24 98 ∧ ∀ z25 : Int32, z25 = ((B 29) z24.toNatClampNeg) → ∃ n : Nat, wl_LassoFinderModel_spread_38 a0 K4 Post n x1 x2 x3 z25 I J B D) ∧ (¬ z22 = x1 → wc_LassoFinderModel_spread_135 a0 K4 Post x1 x2 x3 I J B D))))
def wl_LassoFinderModel_spread_4 (a0 : Int32) (Post : Int32 → (Nat → Int32) → (Nat → Int64) → (Nat → Nat → Int32) → (Nat → Nat → Int64) → Prop) (n : Nat) : Int32 → Int32 → Int32 → (Nat → Int32) → (Nat → Int64) → (Nat → Nat → Int32) → (Nat → Nat → Int64) → Prop := Nat.rec (fun _ _ _ _ _ _ _ => False) (fun _ r => wb_LassoFinderModel_spread_4 a0 r Post) n
def wp_LassoFinderModel_spread (I : Nat → Int32) (J : Nat → Int64) (B : Nat → Nat → Int32) (D : Nat → Nat → Int64) (a0 : Int32) (Post : Int32 → (Nat → Int32) → (Nat → Int64) → (Nat → Nat → Int32) → (Nat → Nat → Int64) → Prop) : Prop :=
  ∃ n : Nat, wl_LassoFinderModel_spread_4 a0 Post n a0 0 0 I J B D
set_option maxHeartbeats 8000000 in
set_option maxRecDepth 100000 in
theorem wJ_LassoFinderModel_spread_135 {p : Program} {l : Launch} {e : Env} {s : State} {m : MethodId} {below : List Frame} {meth : Method} {c : Code} {A : Nat → Prop} (G : va_G) (K : Nat → ClassId) (ad : Nat → Nat) (a0 : Int32) (Post : Int32 → (Nat → Int32) → (Nat → Int64) → (Nat → Nat → Int32) → (Nat → Nat → Int64) → Prop) (C : zCx p s m ([.ref (ad 0), .int a0] : List Value).toArray meth c A G K prog_14_method_60_code (some .boolean) 7 "LassoFinderModel") (K4 : Int32 → Int32 → Int32 → (Nat → Int32) → (Nat → Int64) → (Nat → Nat → Int32) → (Nat → Nat → Int64) → Prop) (kh4 : ∀ (x1 : Int32) (x2 : Int32) (x3 : Int32) (I : Nat → Int32) (J : Nat → Int64) (B : Nat → Nat → Int32) (D : Nat → Nat → Int64) (ls : Array Slot) (H : Heap) (locs : List Loc), K4 x1 x2 x3 I J B D → lv_has ls 7 [(0, .ref (ad 0)), (1, .int x1), (2, .int x2), (3, .int x3)] → zW G A s.heap (wM ad K I J B D) H locs → W p l e { frames := 2, cells := 0, slots := 0, locals := 50 } s m ([.ref (ad 0), .int a0] : List Value).toArray below meth c H locs 0 0 (MQ below (va_Qi (fun (r : Int32) (u : zS) => Post r u.1 u.2.1 u.2.2.1 u.2.2.2) (fun u t => zPost G K A (wM ad K u.1 u.2.1 u.2.2.1 u.2.2.2) t) A) ([.ref (ad 0), .int a0] : List Value).toArray s 0 0 A) (F0 m 4 ls [])) : ∀ (x1 : Int32) (x2 : Int32) (x3 : Int32) (I : Nat → Int32) (J : Nat → Int64) (B : Nat → Nat → Int32) (D : Nat → Nat → Int64) (ls : Array Slot) (H : Heap) (locs : List Loc), wc_LassoFinderModel_spread_135 a0 K4 Post x1 x2 x3 I J B D → lv_has ls 7 [(0, .ref (ad 0)), (1, .int x1), (2, .int x2), (3, .int x3)] → zW G A s.heap (wM ad K I J B D) H locs → W p l e { frames := 2, cells := 0, slots := 0, locals := 50 } s m ([.ref (ad 0), .int a0] : List Value).toArray below meth c H locs 0 0 (MQ below (va_Qi (fun (r : Int32) (u : zS) => Post r u.1 u.2.1 u.2.2.1 u.2.2.2) (fun u t => zPost G K A (wM ad K u.1 u.2.1 u.2.2.1 u.2.2.2) t) A) ([.ref (ad 0), .int a0] : List Value).toArray s 0 0 A) (F0 m 135 ls []) := by
  obtain ⟨hx, hb, hr, hml, hts, hown, hlocks, hA, hK⟩ := id C
  intro x1 x2 x3 I J B D ls H locs hok hl hw
  unfold wc_LassoFinderModel_spread_135 at hok
  obtain ⟨z1, ez1⟩ : ∃ z : Int32, z = (x3 + 1) := ⟨_, rfl⟩
  have hok := hok z1 ez1
  refine lv_iinc (v := z1) hx hb zd_LassoFinderModel_spread_135 hl (k := 3) rfl ez1.symm (by decide) rfl (fun ls hl => ?_)
  have hl : lv_has ls 7 [(3, .int z1), (0, .ref (ad 0)), (1, .int x1), (2, .int x2)] := hl
  refine lv_goto (tgt := 4) hx hb zd_LassoFinderModel_spread_138 (by decide) ?_
  exact kh4 x1 x2 z1 I J B D ls H locs hok (lv_sub hl [1, 2, 3, 0] rfl) hw
set_option maxHeartbeats 8000000 in
set_option maxRecDepth 100000 in
theorem wJ_LassoFinderModel_spread_123 {p : Program} {l : Launch} {e : Env} {s : State} {m : MethodId} {below : List Frame} {meth : Method} {c : Code} {A : Nat → Prop} (G : va_G) (K : Nat → ClassId) (ad : Nat → Nat) (a0 : Int32) (Post : Int32 → (Nat → Int32) → (Nat → Int64) → (Nat → Nat → Int32) → (Nat → Nat → Int64) → Prop) (C : zCx p s m ([.ref (ad 0), .int a0] : List Value).toArray meth c A G K prog_14_method_60_code (some .boolean) 7 "LassoFinderModel") (K4 : Int32 → Int32 → Int32 → (Nat → Int32) → (Nat → Int64) → (Nat → Nat → Int32) → (Nat → Nat → Int64) → Prop) (kh4 : ∀ (x1 : Int32) (x2 : Int32) (x3 : Int32) (I : Nat → Int32) (J : Nat → Int64) (B : Nat → Nat → Int32) (D : Nat → Nat → Int64) (ls : Array Slot) (H : Heap) (locs : List Loc), K4 x1 x2 x3 I J B D → lv_has ls 7 [(0, .ref (ad 0)), (1, .int x1), (2, .int x2), (3, .int x3)] → zW G A s.heap (wM ad K I J B D) H locs → W p l e { frames := 2, cells := 0, slots := 0, locals := 50 } s m ([.ref (ad 0), .int a0] : List Value).toArray below meth c H locs 0 0 (MQ below (va_Qi (fun (r : Int32) (u : zS) => Post r u.1 u.2.1 u.2.2.1 u.2.2.2) (fun u t => zPost G K A (wM ad K u.1 u.2.1 u.2.2.1 u.2.2.2) t) A) ([.ref (ad 0), .int a0] : List Value).toArray s 0 0 A) (F0 m 4 ls [])) (K38 : Int32 → Int32 → Int32 → Int32 → (Nat → Int32) → (Nat → Int64) → (Nat → Nat → Int32) → (Nat → Nat → Int64) → Prop) (kh38 : ∀ (x1 : Int32) (x2 : Int32) (x3 : Int32) (x4 : Int32) (I : Nat → Int32) (J : Nat → Int64) (B : Nat → Nat → Int32) (D : Nat → Nat → Int64) (ls : Array Slot) (H : Heap) (locs : List Loc), K38 x1 x2 x3 x4 I J B D → lv_has ls 7 [(0, .ref (ad 0)), (1, .int x1), (2, .int x2), (3, .int x3), (4, .int x4)] → zW G A s.heap (wM ad K I J B D) H locs → W p l e { frames := 2, cells := 0, slots := 0, locals := 50 } s m ([.ref (ad 0), .int a0] : List Value).toArray below meth c H locs 0 0 (MQ below (va_Qi (fun (r : Int32) (u : zS) => Post r u.1 u.2.1 u.2.2.1 u.2.2.2) (fun u t => zPost G K A (wM ad K u.1 u.2.1 u.2.2.1 u.2.2.2) t) A) ([.ref (ad 0), .int a0] : List Value).toArray s 0 0 A) (F0 m 38 ls [])) (K56 : Int32 → Int32 → Int32 → Int32 → Int32 → (Nat → Int32) → (Nat → Int64) → (Nat → Nat → Int32) → (Nat → Nat → Int64) → Prop) (kh56 : ∀ (x1 : Int32) (x2 : Int32) (x3 : Int32) (x4 : Int32) (x5 : Int32) (I : Nat → Int32) (J : Nat → Int64) (B : Nat → Nat → Int32) (D : Nat → Nat → Int64) (ls : Array Slot) (H : Heap) (locs : List Loc), K56 x1 x2 x3 x4 x5 I J B D → lv_has ls 7 [(0, .ref (ad 0)), (1, .int x1), (2, .int x2), (3, .int x3), (4, .int x4), (5, .int x5)] → zW G A s.heap (wM ad K I J B D) H locs → W p l e { frames := 2, cells := 0, slots := 0, locals := 50 } s m ([.ref (ad 0), .int a0] : List Value).toArray below meth c H locs 0 0 (MQ below (va_Qi (fun (r : Int32) (u : zS) => Post r u.1 u.2.1 u.2.2.1 u.2.2.2) (fun u t => zPost G K A (wM ad K u.1 u.2.1 u.2.2.1 u.2.2.2) t) A) ([.ref (ad 0), .int a0] : List Value).toArray s 0 0 A) (F0 m 56 ls [])) : ∀ (x1 : Int32) (x2 : Int32) (x3 : Int32) (x4 : Int32) (x5 : Int32) (I : Nat → Int32) (J : Nat → Int64) (B : Nat → Nat → Int32) (D : Nat → Nat → Int64) (ls : Array Slot) (H : Heap) (locs : List Loc), wc_LassoFinderModel_spread_123 a0 K4 K38 K56 Post x1 x2 x3 x4 x5 I J B D → lv_has ls 7 [(0, .ref (ad 0)), (1, .int x1), (2, .int x2), (3, .int x3), (4, .int x4), (5, .int x5)] → zW G A s.heap (wM ad K I J B D) H locs → W p l e { frames := 2, cells := 0, slots := 0, locals := 50 } s m ([.ref (ad 0), .int a0] : List Value).toArray below meth c H locs 0 0 (MQ below (va_Qi (fun (r : Int32) (u : zS) => Post r u.1 u.2.1 u.2.2.1 u.2.2.2) (fun u t => zPost G K A (wM ad K u.1 u.2.1 u.2.2.1 u.2.2.2) t) A) ([.ref (ad 0), .int a0] : List Value).toArray s 0 0 A) (F0 m 123 ls []) := by
  obtain ⟨hx, hb, hr, hml, hts, hown, hlocks, hA, hK⟩ := id C
  intro x1 x2 x3 x4 x5 I J B D ls H locs hok hl hw
  unfold wc_LassoFinderModel_spread_123 at hok
  obtain ⟨z2, ez2⟩ : ∃ z : Int32, z = (x5 + 1) := ⟨_, rfl⟩
  have hok := hok z2 ez2
  refine lv_iinc (v := z2) hx hb zd_LassoFinderModel_spread_123 hl (k := 5) rfl ez2.symm (by decide) rfl (fun ls hl => ?_)
  have hl : lv_has ls 7 [(5, .int z2), (0, .ref (ad 0)), (1, .int x1), (2, .int x2), (3, .int x3), (4, .int x4)] := hl
  refine lv_goto (tgt := 56) hx hb zd_LassoFinderModel_spread_126 (by decide) ?_
  exact kh56 x1 x2 x3 x4 z2 I J B D ls H locs hok (lv_sub hl [1, 2, 3, 4, 5, 0] rfl) hw
set_option maxHeartbeats 8000000 in
set_option maxRecDepth 100000 in
theorem wB_LassoFinderModel_spread_56 {p : Program} {l : Launch} {e : Env} {s : State} {m : MethodId} {below : List Frame} {meth : Method} {c : Code} {A : Nat → Prop} (G : va_G) (K : Nat → ClassId) (ad : Nat → Nat) (a0 : Int32) (Post : Int32 → (Nat → Int32) → (Nat → Int64) → (Nat → Nat → Int32) → (Nat → Nat → Int64) → Prop) (C : zCx p s m ([.ref (ad 0), .int a0] : List Value).toArray meth c A G K prog_14_method_60_code (some .boolean) 7 "LassoFinderModel") (K4 : Int32 → Int32 → Int32 → (Nat → Int32) → (Nat → Int64) → (Nat → Nat → Int32) → (Nat → Nat → Int64) → Prop) (kh4 : ∀ (x1 : Int32) (x2 : Int32) (x3 : Int32) (I : Nat → Int32) (J : Nat → Int64) (B : Nat → Nat → Int32) (D : Nat → Nat → Int64) (ls : Array Slot) (H : Heap) (locs : List Loc), K4 x1 x2 x3 I J B D → lv_has ls 7 [(0, .ref (ad 0)), (1, .int x1), (2, .int x2), (3, .int x3)] → zW G A s.heap (wM ad K I J B D) H locs → W p l e { frames := 2, cells := 0, slots := 0, locals := 50 } s m ([.ref (ad 0), .int a0] : List Value).toArray below meth c H locs 0 0 (MQ below (va_Qi (fun (r : Int32) (u : zS) => Post r u.1 u.2.1 u.2.2.1 u.2.2.2) (fun u t => zPost G K A (wM ad K u.1 u.2.1 u.2.2.1 u.2.2.2) t) A) ([.ref (ad 0), .int a0] : List Value).toArray s 0 0 A) (F0 m 4 ls [])) (K38 : Int32 → Int32 → Int32 → Int32 → (Nat → Int32) → (Nat → Int64) → (Nat → Nat → Int32) → (Nat → Nat → Int64) → Prop) (kh38 : ∀ (x1 : Int32) (x2 : Int32) (x3 : Int32) (x4 : Int32) (I : Nat → Int32) (J : Nat → Int64) (B : Nat → Nat → Int32) (D : Nat → Nat → Int64) (ls : Array Slot) (H : Heap) (locs : List Loc), K38 x1 x2 x3 x4 I J B D → lv_has ls 7 [(0, .ref (ad 0)), (1, .int x1), (2, .int x2), (3, .int x3), (4, .int x4)] → zW G A s.heap (wM ad K I J B D) H locs → W p l e { frames := 2, cells := 0, slots := 0, locals := 50 } s m ([.ref (ad 0), .int a0] : List Value).toArray below meth c H locs 0 0 (MQ below (va_Qi (fun (r : Int32) (u : zS) => Post r u.1 u.2.1 u.2.2.1 u.2.2.2) (fun u t => zPost G K A (wM ad K u.1 u.2.1 u.2.2.1 u.2.2.2) t) A) ([.ref (ad 0), .int a0] : List Value).toArray s 0 0 A) (F0 m 38 ls [])) (K56 : Int32 → Int32 → Int32 → Int32 → Int32 → (Nat → Int32) → (Nat → Int64) → (Nat → Nat → Int32) → (Nat → Nat → Int64) → Prop) (kh56 : ∀ (x1 : Int32) (x2 : Int32) (x3 : Int32) (x4 : Int32) (x5 : Int32) (I : Nat → Int32) (J : Nat → Int64) (B : Nat → Nat → Int32) (D : Nat → Nat → Int64) (ls : Array Slot) (H : Heap) (locs : List Loc), K56 x1 x2 x3 x4 x5 I J B D → lv_has ls 7 [(0, .ref (ad 0)), (1, .int x1), (2, .int x2), (3, .int x3), (4, .int x4), (5, .int x5)] → zW G A s.heap (wM ad K I J B D) H locs → W p l e { frames := 2, cells := 0, slots := 0, locals := 50 } s m ([.ref (ad 0), .int a0] : List Value).toArray below meth c H locs 0 0 (MQ below (va_Qi (fun (r : Int32) (u : zS) => Post r u.1 u.2.1 u.2.2.1 u.2.2.2) (fun u t => zPost G K A (wM ad K u.1 u.2.1 u.2.2.1 u.2.2.2) t) A) ([.ref (ad 0), .int a0] : List Value).toArray s 0 0 A) (F0 m 56 ls [])) : ∀ (x1 : Int32) (x2 : Int32) (x3 : Int32) (x4 : Int32) (x5 : Int32) (I : Nat → Int32) (J : Nat → Int64) (B : Nat → Nat → Int32) (D : Nat → Nat → Int64) (ls : Array Slot) (H : Heap) (locs : List Loc), wb_LassoFinderModel_spread_56 a0 K56 K4 K38 Post x1 x2 x3 x4 x5 I J B D → lv_has ls 7 [(0, .ref (ad 0)), (1, .int x1), (2, .int x2), (3, .int x3), (4, .int x4), (5, .int x5)] → zW G A s.heap (wM ad K I J B D) H locs → W p l e { frames := 2, cells := 0, slots := 0, locals := 50 } s m ([.ref (ad 0), .int a0] : List Value).toArray below meth c H locs 0 0 (MQ below (va_Qi (fun (r : Int32) (u : zS) => Post r u.1 u.2.1 u.2.2.1 u.2.2.2) (fun u t => zPost G K A (wM ad K u.1 u.2.1 u.2.2.1 u.2.2.2) t) A) ([.ref (ad 0), .int a0] : List Value).toArray s 0 0 A) (F0 m 56 ls []) := by
  obtain ⟨hx, hb, hr, hml, hts, hown, hlocks, hA, hK⟩ := id C
  intro x1 x2 x3 x4 x5 I J B D ls H locs hok hl hw
  unfold wb_LassoFinderModel_spread_56 at hok
  refine lv_iload hx hb zd_LassoFinderModel_spread_56 (lv_at hl 5 rfl) ?_
  refine lv_iconst (v := 1) hx hb zd_LassoFinderModel_spread_58 (by decide) ?_
  refine lv_aload_n hx hb zd_LassoFinderModel_spread_59 rfl (lv_at hl 0 rfl) ?_
  refine z_get (v := .int (I 20)) hx hb hts hown hK hw zZ12 0 rfl 64 (by decide) zm_356 rfl zd_LassoFinderModel_spread_60 ?_
  refine lv_ishl hx hb zd_LassoFinderModel_spread_63 ?_
  refine lv_topi (fun z3 ez3 => ?_)
  have hok := hok z3 ez3
  refine lv_icmp_ge (tgt := 129) hx hb zd_LassoFinderModel_spread_64 (by decide) (fun hc4 => ?_) (fun hc4 => ?_)
  · have hok := hok.1 hc4
    obtain ⟨z5, ez5⟩ : ∃ z : Int32, z = (x4 + 1) := ⟨_, rfl⟩
    have hok := hok z5 ez5
    refine lv_iinc (v := z5) hx hb zd_LassoFinderModel_spread_129 hl (k := 4) rfl ez5.symm (by decide) rfl (fun ls hl => ?_)
    have hl : lv_has ls 7 [(4, .int z5), (0, .ref (ad 0)), (1, .int x1), (2, .int x2), (3, .int x3), (5, .int x5)] := hl
    refine lv_goto (tgt := 38) hx hb zd_LassoFinderModel_spread_132 (by decide) ?_
    exact kh38 x1 x2 x3 z5 I J B D ls H locs hok (lv_sub hl [1, 2, 3, 4, 0] rfl) hw
  · have hok := hok.2 hc4
    refine lv_bipush (v := 8) hx hb zd_LassoFinderModel_spread_67 (by decide) ?_
    refine lv_aload_n hx hb zd_LassoFinderModel_spread_69 rfl (lv_at hl 0 rfl) ?_
    refine z_get (v := .ref (ad 33)) hx hb hts hown hK hw zZ12 0 rfl 49 (by decide) zm_267 rfl zd_LassoFinderModel_spread_70 ?_
    refine lv_iload hx hb zd_LassoFinderModel_spread_73 (lv_at hl 4 rfl) ?_
    refine va_iald (f := (B 30)) hx hb hK hw.1 33 0 rfl rfl hok.1 zd_LassoFinderModel_spread_75 ?_
    have hok := hok.2
    refine lv_topi (fun z6 ez6 => ?_)
    have hok := hok z6 ez6
    refine lv_imul hx hb zd_LassoFinderModel_spread_76 ?_
    refine lv_topi (fun z7 ez7 => ?_)
    have hok := hok z7 ez7
    refine lv_iload hx hb zd_LassoFinderModel_spread_77 (lv_at hl 5 rfl) ?_
    refine lv_iadd hx hb zd_LassoFinderModel_spread_79 ?_
    refine lv_topi (fun z8 ez8 => ?_)
    have hok := hok z8 ez8
    refine lv_istore hx hb zd_LassoFinderModel_spread_80 hl (by decide) rfl (fun ls hl => ?_)
    have hl : lv_has ls 7 [(6, .int z8), (0, .ref (ad 0)), (1, .int x1), (2, .int x2), (3, .int x3), (4, .int x4), (5, .int x5)] := hl
    refine lv_aload_n hx hb zd_LassoFinderModel_spread_82 rfl (lv_at hl 1 rfl) ?_
    refine z_get (v := .ref (ad 52)) hx hb hts hown hK hw zZ12 0 rfl 75 (by decide) zm_286 rfl zd_LassoFinderModel_spread_83 ?_
    refine lv_iload hx hb zd_LassoFinderModel_spread_86 (lv_at hl 0 rfl) ?_
    refine va_iald (f := (B 49)) hx hb hK hw.1 52 0 rfl rfl hok.1 zd_LassoFinderModel_spread_88 ?_
    have hok := hok.2
    refine lv_topi (fun z9 ez9 => ?_)
    have hok := hok z9 ez9
    refine lv_if_ge (tgt := 123) hx hb zd_LassoFinderModel_spread_89 (by decide) (fun hc10 => ?_) (fun hc10 => ?_)
    · have hok := hok.1 hc10
      exact wJ_LassoFinderModel_spread_123 G K ad a0 Post C K4 kh4 K38 kh38 K56 kh56 x1 x2 x3 x4 x5 I J B D ls H locs hok (lv_sub hl [1, 2, 3, 4, 5, 6] rfl) hw
    · have hok := hok.2 hc10
      refine lv_aload_n hx hb zd_LassoFinderModel_spread_92 rfl (lv_at hl 1 rfl) ?_
      refine lv_iload_n hx hb zd_LassoFinderModel_spread_93 rfl (lv_at hl 4 rfl) ?_
      refine lv_iconst (v := 3) hx hb zd_LassoFinderModel_spread_94 (by decide) ?_
      refine lv_ishr hx hb zd_LassoFinderModel_spread_95 ?_
      refine lv_topi (fun z11 ez11 => ?_)
      have hok := hok z11 ez11
      refine lv_iload hx hb zd_LassoFinderModel_spread_96 (lv_at hl 6 rfl) ?_
      refine z_calli (w1 := fun (u : zS) => wM ad K u.1 u.2.1 u.2.2.1 u.2.2.2) (wr := []) (z_runV (q0 := 0) (wc := (wM ad K I J B D)) (As := [.int z11, .int x5]) (rest := []) ⟨hx, hb, hml, hown, hts⟩ (w_LassoFinderModel_truthAt l G K ad I J B D z11 x5 _ H.size hok) zf_LassoFinderModel_truthAt zm_375 ⟨Nat.le_of_ble_eq_true rfl, Nat.le_of_ble_eq_true rfl⟩ hK hw [0, 1, 2, 3, 4, 5, 6, 7, 8, 9, 10, 11, 12, 13, 14, 15, 16, 17, 18, 19, 20, 21, 22, 23, 24, 25, 26, 27, 28, 29, 30, 31, 32, 33, 34, 35, 36, 37, 38, 39, 40, 41, 42, 43, 44, 45, 46, 47, 48, 49, 50, 51, 52, 53, 54, 55, 56, 57] rfl (by decide) rfl rfl rfl hl.1 rfl (Nat.le_of_ble_eq_true rfl) zd_LassoFinderModel_spread_98 ⟨Nat.le_of_ble_eq_true rfl, Nat.le_of_ble_eq_true rfl⟩) hw hA [0, 1, 2, 3, 4, 5, 6, 7, 8, 9, 10, 11, 12, 13, 14, 15, 16, 17, 18, 19, 20, 21, 22, 23, 24, 25, 26, 27, 28, 29, 30, 31, 32, 33, 34, 35, 36, 37, 38, 39, 40, 41, 42, 43, 44, 45, 46, 47, 48, 49, 50, 51, 52, 53, 54, 55, 56, 57] [] rfl rfl (by decide) (by decide) (fun r12 u H locs hok hw => ?_)
      obtain ⟨I12, J12, B12, D12⟩ := u
      dsimp only at hok
      have hw : zW G A s.heap (wM ad K I12 J12 B12 D12) H locs := hw
      refine lv_iload_n hx hb zd_LassoFinderModel_spread_101 rfl (lv_at hl 4 rfl) ?_
      refine lv_bipush (v := 7) hx hb zd_LassoFinderModel_spread_102 (by decide) ?_
      refine lv_iand hx hb zd_LassoFinderModel_spread_104 ?_
      refine lv_topi (fun z13 ez13 => ?_)
      have hok := hok z13 ez13
      refine lv_icmp_eq (tgt := 111) hx hb zd_LassoFinderModel_spread_105 (by decide) (fun hc14 => ?_) (fun hc14 => ?_)
      · have hok := hok.1 hc14
        refine lv_aload_n hx hb zd_LassoFinderModel_spread_111 rfl (lv_at hl 1 rfl) ?_
        refine z_get (v := .ref (ad 52)) hx hb hts hown hK hw zZ12 0 rfl 75 (by decide) zm_286 rfl zd_LassoFinderModel_spread_112 ?_
        refine lv_iload hx hb zd_LassoFinderModel_spread_115 (lv_at hl 0 rfl) ?_
        refine lv_iload_n hx hb zd_LassoFinderModel_spread_117 rfl (lv_at hl 2 rfl) ?_
        refine lv_iconst (v := 1) hx hb zd_LassoFinderModel_spread_118 (by decide) ?_
        refine lv_iadd hx hb zd_LassoFinderModel_spread_119 ?_
        refine lv_topi (fun z15 ez15 => ?_)
        have hok := hok z15 ez15
        refine va_iast (f := (B12 49)) hx hb hK hw.1 hw.2.1 hw.2.2 52 0 rfl rfl hok.1 zd_LassoFinderModel_spread_120 (fun H locs w91 w92 w93 => ?_)
        have hok := hok.2
        have hw : zW G A s.heap _ H locs := ⟨w91, w92, w93⟩
        have hw : zW G A s.heap (wM ad K I12 J12 (va_up B12 49 (upd (B12 49) z8.toNatClampNeg z15)) D12) H locs := hw
        refine lv_iconst (v := 1) hx hb zd_LassoFinderModel_spread_121 (by decide) ?_
        refine lv_istore_n hx hb zd_LassoFinderModel_spread_122 rfl hl (by decide) rfl (fun ls hl => ?_)
        have hl : lv_has ls 7 [(2, .int 1), (6, .int z8), (0, .ref (ad 0)), (1, .int x1), (3, .int x3), (4, .int x4), (5, .int x5)] := hl
        exact wJ_LassoFinderModel_spread_123 G K ad a0 Post C K4 kh4 K38 kh38 K56 kh56 x1 1 x3 x4 x5 I12 J12 (va_up B12 49 (upd (B12 49) z8.toNatClampNeg z15)) D12 ls H locs hok (lv_sub hl [2, 3, 0, 4, 5, 6] rfl) hw
      · have hok := hok.2 hc14
        refine lv_goto (tgt := 123) hx hb zd_LassoFinderModel_spread_108 (by decide) ?_
        exact wJ_LassoFinderModel_spread_123 G K ad a0 Post C K4 kh4 K38 kh38 K56 kh56 x1 x2 x3 x4 x5 I12 J12 B12 D12 ls H locs hok (lv_sub hl [1, 2, 3, 4, 5, 6] rfl) hw
theorem wL_LassoFinderModel_spread_56 {p : Program} {l : Launch} {e : Env} {s : State} {m : MethodId} {below : List Frame} {meth : Method} {c : Code} {A : Nat → Prop} (G : va_G) (K : Nat → ClassId) (ad : Nat → Nat) (a0 : Int32) (Post : Int32 → (Nat → Int32) → (Nat → Int64) → (Nat → Nat → Int32) → (Nat → Nat → Int64) → Prop) (C : zCx p s m ([.ref (ad 0), .int a0] : List Value).toArray meth c A G K prog_14_method_60_code (some .boolean) 7 "LassoFinderModel") (K4 : Int32 → Int32 → Int32 → (Nat → Int32) → (Nat → Int64) → (Nat → Nat → Int32) → (Nat → Nat → Int64) → Prop) (kh4 : ∀ (x1 : Int32) (x2 : Int32) (x3 : Int32) (I : Nat → Int32) (J : Nat → Int64) (B : Nat → Nat → Int32) (D : Nat → Nat → Int64) (ls : Array Slot) (H : Heap) (locs : List Loc), K4 x1 x2 x3 I J B D → lv_has ls 7 [(0, .ref (ad 0)), (1, .int x1), (2, .int x2), (3, .int x3)] → zW G A s.heap (wM ad K I J B D) H locs → W p l e { frames := 2, cells := 0, slots := 0, locals := 50 } s m ([.ref (ad 0), .int a0] : List Value).toArray below meth c H locs 0 0 (MQ below (va_Qi (fun (r : Int32) (u : zS) => Post r u.1 u.2.1 u.2.2.1 u.2.2.2) (fun u t => zPost G K A (wM ad K u.1 u.2.1 u.2.2.1 u.2.2.2) t) A) ([.ref (ad 0), .int a0] : List Value).toArray s 0 0 A) (F0 m 4 ls [])) (K38 : Int32 → Int32 → Int32 → Int32 → (Nat → Int32) → (Nat → Int64) → (Nat → Nat → Int32) → (Nat → Nat → Int64) → Prop) (kh38 : ∀ (x1 : Int32) (x2 : Int32) (x3 : Int32) (x4 : Int32) (I : Nat → Int32) (J : Nat → Int64) (B : Nat → Nat → Int32) (D : Nat → Nat → Int64) (ls : Array Slot) (H : Heap) (locs : List Loc), K38 x1 x2 x3 x4 I J B D → lv_has ls 7 [(0, .ref (ad 0)), (1, .int x1), (2, .int x2), (3, .int x3), (4, .int x4)] → zW G A s.heap (wM ad K I J B D) H locs → W p l e { frames := 2, cells := 0, slots := 0, locals := 50 } s m ([.ref (ad 0), .int a0] : List Value).toArray below meth c H locs 0 0 (MQ below (va_Qi (fun (r : Int32) (u : zS) => Post r u.1 u.2.1 u.2.2.1 u.2.2.2) (fun u t => zPost G K A (wM ad K u.1 u.2.1 u.2.2.1 u.2.2.2) t) A) ([.ref (ad 0), .int a0] : List Value).toArray s 0 0 A) (F0 m 38 ls [])) : ∀ (n : Nat) (x1 : Int32) (x2 : Int32) (x3 : Int32) (x4 : Int32) (x5 : Int32) (I : Nat → Int32) (J : Nat → Int64) (B : Nat → Nat → Int32) (D : Nat → Nat → Int64) (ls : Array Slot) (H : Heap) (locs : List Loc), wl_LassoFinderModel_spread_56 a0 K4 K38 Post n x1 x2 x3 x4 x5 I J B D → lv_has ls 7 [(0, .ref (ad 0)), (1, .int x1), (2, .int x2), (3, .int x3), (4, .int x4), (5, .int x5)] → zW G A s.heap (wM ad K I J B D) H locs → W p l e { frames := 2, cells := 0, slots := 0, locals := 50 } s m ([.ref (ad 0), .int a0] : List Value).toArray below meth c H locs 0 0 (MQ below (va_Qi (fun (r : Int32) (u : zS) => Post r u.1 u.2.1 u.2.2.1 u.2.2.2) (fun u t => zPost G K A (wM ad K u.1 u.2.1 u.2.2.1 u.2.2.2) t) A) ([.ref (ad 0), .int a0] : List Value).toArray s 0 0 A) (F0 m 56 ls []) := by
  intro n
  induction n with
  | zero => intro x1 x2 x3 x4 x5 I J B D ls H locs hok; exact hok.elim
  | succ n ih => exact wB_LassoFinderModel_spread_56 G K ad a0 Post C K4 kh4 K38 kh38 (wl_LassoFinderModel_spread_56 a0 K4 K38 Post n) ih
set_option maxHeartbeats 8000000 in
set_option maxRecDepth 100000 in
theorem wB_LassoFinderModel_spread_38 {p : Program} {l : Launch} {e : Env} {s : State} {m : MethodId} {below : List Frame} {meth : Method} {c : Code} {A : Nat → Prop} (G : va_G) (K : Nat → ClassId) (ad : Nat → Nat) (a0 : Int32) (Post : Int32 → (Nat → Int32) → (Nat → Int64) → (Nat → Nat → Int32) → (Nat → Nat → Int64) → Prop) (C : zCx p s m ([.ref (ad 0), .int a0] : List Value).toArray meth c A G K prog_14_method_60_code (some .boolean) 7 "LassoFinderModel") (K4 : Int32 → Int32 → Int32 → (Nat → Int32) → (Nat → Int64) → (Nat → Nat → Int32) → (Nat → Nat → Int64) → Prop) (kh4 : ∀ (x1 : Int32) (x2 : Int32) (x3 : Int32) (I : Nat → Int32) (J : Nat → Int64) (B : Nat → Nat → Int32) (D : Nat → Nat → Int64) (ls : Array Slot) (H : Heap) (locs : List Loc), K4 x1 x2 x3 I J B D → lv_has ls 7 [(0, .ref (ad 0)), (1, .int x1), (2, .int x2), (3, .int x3)] → zW G A s.heap (wM ad K I J B D) H locs → W p l e { frames := 2, cells := 0, slots := 0, locals := 50 } s m ([.ref (ad 0), .int a0] : List Value).toArray below meth c H locs 0 0 (MQ below (va_Qi (fun (r : Int32) (u : zS) => Post r u.1 u.2.1 u.2.2.1 u.2.2.2) (fun u t => zPost G K A (wM ad K u.1 u.2.1 u.2.2.1 u.2.2.2) t) A) ([.ref (ad 0), .int a0] : List Value).toArray s 0 0 A) (F0 m 4 ls [])) (K38 : Int32 → Int32 → Int32 → Int32 → (Nat → Int32) → (Nat → Int64) → (Nat → Nat → Int32) → (Nat → Nat → Int64) → Prop) (kh38 : ∀ (x1 : Int32) (x2 : Int32) (x3 : Int32) (x4 : Int32) (I : Nat → Int32) (J : Nat → Int64) (B : Nat → Nat → Int32) (D : Nat → Nat → Int64) (ls : Array Slot) (H : Heap) (locs : List Loc), K38 x1 x2 x3 x4 I J B D → lv_has ls 7 [(0, .ref (ad 0)), (1, .int x1), (2, .int x2), (3, .int x3), (4, .int x4)] → zW G A s.heap (wM ad K I J B D) H locs → W p l e { frames := 2, cells := 0, slots := 0, locals := 50 } s m ([.ref (ad 0), .int a0] : List Value).toArray below meth c H locs 0 0 (MQ below (va_Qi (fun (r : Int32) (u : zS) => Post r u.1 u.2.1 u.2.2.1 u.2.2.2) (fun u t => zPost G K A (wM ad K u.1 u.2.1 u.2.2.1 u.2.2.2) t) A) ([.ref (ad 0), .int a0] : List Value).toArray s 0 0 A) (F0 m 38 ls [])) : ∀ (x1 : Int32) (x2 : Int32) (x3 : Int32) (x4 : Int32) (I : Nat → Int32) (J : Nat → Int64) (B : Nat → Nat → Int32) (D : Nat → Nat → Int64) (ls : Array Slot) (H : Heap) (locs : List Loc), wb_LassoFinderModel_spread_38 a0 K38 K4 Post x1 x2 x3 x4 I J B D → lv_has ls 7 [(0, .ref (ad 0)), (1, .int x1), (2, .int x2), (3, .int x3), (4, .int x4)] → zW G A s.heap (wM ad K I J B D) H locs → W p l e { frames := 2, cells := 0, slots := 0, locals := 50 } s m ([.ref (ad 0), .int a0] : List Value).toArray below meth c H locs 0 0 (MQ below (va_Qi (fun (r : Int32) (u : zS) => Post r u.1 u.2.1 u.2.2.1 u.2.2.2) (fun u t => zPost G K A (wM ad K u.1 u.2.1 u.2.2.1 u.2.2.2) t) A) ([.ref (ad 0), .int a0] : List Value).toArray s 0 0 A) (F0 m 38 ls []) := by
  obtain ⟨hx, hb, hr, hml, hts, hown, hlocks, hA, hK⟩ := id C
  intro x1 x2 x3 x4 I J B D ls H locs hok hl hw
  unfold wb_LassoFinderModel_spread_38 at hok
  refine lv_iload hx hb zd_LassoFinderModel_spread_38 (lv_at hl 4 rfl) ?_
  refine lv_aload_n hx hb zd_LassoFinderModel_spread_40 rfl (lv_at hl 0 rfl) ?_
  refine z_get (v := .ref (ad 32)) hx hb hts hown hK hw zZ12 0 rfl 48 (by decide) zm_266 rfl zd_LassoFinderModel_spread_41 ?_
  refine lv_iload_n hx hb zd_LassoFinderModel_spread_44 rfl (lv_at hl 3 rfl) ?_
  refine lv_iconst (v := 3) hx hb zd_LassoFinderModel_spread_45 (by decide) ?_
  refine lv_ishr hx hb zd_LassoFinderModel_spread_46 ?_
  refine lv_topi (fun z16 ez16 => ?_)
  have hok := hok z16 ez16
  refine lv_iconst (v := 1) hx hb zd_LassoFinderModel_spread_47 (by decide) ?_
  refine lv_iadd hx hb zd_LassoFinderModel_spread_48 ?_
  refine lv_topi (fun z17 ez17 => ?_)
  have hok := hok z17 ez17
  refine va_iald (f := (B 29)) hx hb hK hw.1 32 0 rfl rfl hok.1 zd_LassoFinderModel_spread_49 ?_
  have hok := hok.2
  refine lv_topi (fun z18 ez18 => ?_)
  have hok := hok z18 ez18
  refine lv_icmp_ge (tgt := 135) hx hb zd_LassoFinderModel_spread_50 (by decide) (fun hc19 => ?_) (fun hc19 => ?_)
  · have hok := hok.1 hc19
    exact wJ_LassoFinderModel_spread_135 G K ad a0 Post C K4 kh4 x1 x2 x3 I J B D ls H locs hok (lv_sub hl [0, 1, 2, 3] rfl) hw
  · have hok := hok.2 hc19
    refine lv_iconst (v := 0) hx hb zd_LassoFinderModel_spread_53 (by decide) ?_
    refine lv_istore hx hb zd_LassoFinderModel_spread_54 hl (by decide) rfl (fun ls hl => ?_)
    have hl : lv_has ls 7 [(5, .int 0), (0, .ref (ad 0)), (1, .int x1), (2, .int x2), (3, .int x3), (4, .int x4)] := hl
    obtain ⟨n9, hok⟩ := hok
    exact wL_LassoFinderModel_spread_56 G K ad a0 Post C K4 kh4 K38 kh38 n9 x1 x2 x3 x4 0 I J B D ls H locs hok (lv_sub hl [1, 2, 3, 4, 5, 0] rfl) hw
theorem wL_LassoFinderModel_spread_38 {p : Program} {l : Launch} {e : Env} {s : State} {m : MethodId} {below : List Frame} {meth : Method} {c : Code} {A : Nat → Prop} (G : va_G) (K : Nat → ClassId) (ad : Nat → Nat) (a0 : Int32) (Post : Int32 → (Nat → Int32) → (Nat → Int64) → (Nat → Nat → Int32) → (Nat → Nat → Int64) → Prop) (C : zCx p s m ([.ref (ad 0), .int a0] : List Value).toArray meth c A G K prog_14_method_60_code (some .boolean) 7 "LassoFinderModel") (K4 : Int32 → Int32 → Int32 → (Nat → Int32) → (Nat → Int64) → (Nat → Nat → Int32) → (Nat → Nat → Int64) → Prop) (kh4 : ∀ (x1 : Int32) (x2 : Int32) (x3 : Int32) (I : Nat → Int32) (J : Nat → Int64) (B : Nat → Nat → Int32) (D : Nat → Nat → Int64) (ls : Array Slot) (H : Heap) (locs : List Loc), K4 x1 x2 x3 I J B D → lv_has ls 7 [(0, .ref (ad 0)), (1, .int x1), (2, .int x2), (3, .int x3)] → zW G A s.heap (wM ad K I J B D) H locs → W p l e { frames := 2, cells := 0, slots := 0, locals := 50 } s m ([.ref (ad 0), .int a0] : List Value).toArray below meth c H locs 0 0 (MQ below (va_Qi (fun (r : Int32) (u : zS) => Post r u.1 u.2.1 u.2.2.1 u.2.2.2) (fun u t => zPost G K A (wM ad K u.1 u.2.1 u.2.2.1 u.2.2.2) t) A) ([.ref (ad 0), .int a0] : List Value).toArray s 0 0 A) (F0 m 4 ls [])) : ∀ (n : Nat) (x1 : Int32) (x2 : Int32) (x3 : Int32) (x4 : Int32) (I : Nat → Int32) (J : Nat → Int64) (B : Nat → Nat → Int32) (D : Nat → Nat → Int64) (ls : Array Slot) (H : Heap) (locs : List Loc), wl_LassoFinderModel_spread_38 a0 K4 Post n x1 x2 x3 x4 I J B D → lv_has ls 7 [(0, .ref (ad 0)), (1, .int x1), (2, .int x2), (3, .int x3), (4, .int x4)] → zW G A s.heap (wM ad K I J B D) H locs → W p l e { frames := 2, cells := 0, slots := 0, locals := 50 } s m ([.ref (ad 0), .int a0] : List Value).toArray below meth c H locs 0 0 (MQ below (va_Qi (fun (r : Int32) (u : zS) => Post r u.1 u.2.1 u.2.2.1 u.2.2.2) (fun u t => zPost G K A (wM ad K u.1 u.2.1 u.2.2.1 u.2.2.2) t) A) ([.ref (ad 0), .int a0] : List Value).toArray s 0 0 A) (F0 m 38 ls []) := by
  intro n
  induction n with
  | zero => intro x1 x2 x3 x4 I J B D ls H locs hok; exact hok.elim
  | succ n ih => exact wB_LassoFinderModel_spread_38 G K ad a0 Post C K4 kh4 (wl_LassoFinderModel_spread_38 a0 K4 Post n) ih
set_option maxHeartbeats 8000000 in
set_option maxRecDepth 100000 in
theorem wB_LassoFinderModel_spread_4 {p : Program} {l : Launch} {e : Env} {s : State} {m : MethodId} {below : List Frame} {meth : Method} {c : Code} {A : Nat → Prop} (G : va_G) (K : Nat → ClassId) (ad : Nat → Nat) (a0 : Int32) (Post : Int32 → (Nat → Int32) → (Nat → Int64) → (Nat → Nat → Int32) → (Nat → Nat → Int64) → Prop) (C : zCx p s m ([.ref (ad 0), .int a0] : List Value).toArray meth c A G K prog_14_method_60_code (some .boolean) 7 "LassoFinderModel") (K4 : Int32 → Int32 → Int32 → (Nat → Int32) → (Nat → Int64) → (Nat → Nat → Int32) → (Nat → Nat → Int64) → Prop) (kh4 : ∀ (x1 : Int32) (x2 : Int32) (x3 : Int32) (I : Nat → Int32) (J : Nat → Int64) (B : Nat → Nat → Int32) (D : Nat → Nat → Int64) (ls : Array Slot) (H : Heap) (locs : List Loc), K4 x1 x2 x3 I J B D → lv_has ls 7 [(0, .ref (ad 0)), (1, .int x1), (2, .int x2), (3, .int x3)] → zW G A s.heap (wM ad K I J B D) H locs → W p l e { frames := 2, cells := 0, slots := 0, locals := 50 } s m ([.ref (ad 0), .int a0] : List Value).toArray below meth c H locs 0 0 (MQ below (va_Qi (fun (r : Int32) (u : zS) => Post r u.1 u.2.1 u.2.2.1 u.2.2.2) (fun u t => zPost G K A (wM ad K u.1 u.2.1 u.2.2.1 u.2.2.2) t) A) ([.ref (ad 0), .int a0] : List Value).toArray s 0 0 A) (F0 m 4 ls [])) : ∀ (x1 : Int32) (x2 : Int32) (x3 : Int32) (I : Nat → Int32) (J : Nat → Int64) (B : Nat → Nat → Int32) (D : Nat → Nat → Int64) (ls : Array Slot) (H : Heap) (locs : List Loc), wb_LassoFinderModel_spread_4 a0 K4 Post x1 x2 x3 I J B D → lv_has ls 7 [(0, .ref (ad 0)), (1, .int x1), (2, .int x2), (3, .int x3)] → zW G A s.heap (wM ad K I J B D) H locs → W p l e { frames := 2, cells := 0, slots := 0, locals := 50 } s m ([.ref (ad 0), .int a0] : List Value).toArray below meth c H locs 0 0 (MQ below (va_Qi (fun (r : Int32) (u : zS) => Post r u.1 u.2.1 u.2.2.1 u.2.2.2) (fun u t => zPost G K A (wM ad K u.1 u.2.1 u.2.2.1 u.2.2.2) t) A) ([.ref (ad 0), .int a0] : List Value).toArray s 0 0 A) (F0 m 4 ls []) := by
  obtain ⟨hx, hb, hr, hml, hts, hown, hlocks, hA, hK⟩ := id C
  intro x1 x2 x3 I J B D ls H locs hok hl hw
  unfold wb_LassoFinderModel_spread_4 at hok
  refine lv_iload_n hx hb zd_LassoFinderModel_spread_4 rfl (lv_at hl 3 rfl) ?_
  refine lv_bipush (v := 8) hx hb zd_LassoFinderModel_spread_5 (by decide) ?_
  refine lv_aload_n hx hb zd_LassoFinderModel_spread_7 rfl (lv_at hl 0 rfl) ?_
  refine z_get (v := .int (I 14)) hx hb hts hown hK hw zZ12 0 rfl 44 (by decide) zm_300 rfl zd_LassoFinderModel_spread_8 ?_
  refine lv_imul hx hb zd_LassoFinderModel_spread_11 ?_
  refine lv_topi (fun z20 ez20 => ?_)
  have hok := hok z20 ez20
  refine lv_icmp_ge (tgt := 141) hx hb zd_LassoFinderModel_spread_12 (by decide) (fun hc21 => ?_) (fun hc21 => ?_)
  · have hok := hok.1 hc21
    refine lv_iload_n hx hb zd_LassoFinderModel_spread_141 rfl (lv_at hl 2 rfl) ?_
    have hbo := hok.1
    have hok := hok.2
    exact z_iret (u := (I, J, B, D)) hx hb hr hlocks (z_nar hbo) hw [0, 1, 2, 3, 4, 5, 6, 7, 8, 9, 10, 11, 12, 13, 14, 15, 16, 17, 18, 19, 20, 21, 22, 23, 24, 25, 26, 27, 28, 29, 30, 31, 32, 33, 34, 35, 36, 37, 38, 39, 40, 41, 42, 43, 44, 45, 46, 47, 48, 49, 50, 51, 52, 53, 54, 55, 56, 57] rfl (by decide) hok (Nat.le_of_ble_eq_true rfl) (Nat.le_of_ble_eq_true rfl) zd_LassoFinderModel_spread_142
  · have hok := hok.2 hc21
    refine lv_aload_n hx hb zd_LassoFinderModel_spread_15 rfl (lv_at hl 0 rfl) ?_
    refine z_get (v := .ref (ad 52)) hx hb hts hown hK hw zZ12 0 rfl 75 (by decide) zm_286 rfl zd_LassoFinderModel_spread_16 ?_
    refine lv_iload_n hx hb zd_LassoFinderModel_spread_19 rfl (lv_at hl 3 rfl) ?_
    refine va_iald (f := (B 49)) hx hb hK hw.1 52 0 rfl rfl hok.1 zd_LassoFinderModel_spread_20 ?_
    have hok := hok.2
    refine lv_topi (fun z22 ez22 => ?_)
    have hok := hok z22 ez22
    refine lv_iload_n hx hb zd_LassoFinderModel_spread_21 rfl (lv_at hl 1 rfl) ?_
    refine lv_icmp_eq (tgt := 28) hx hb zd_LassoFinderModel_spread_22 (by decide) (fun hc23 => ?_) (fun hc23 => ?_)
    · have hok := hok.1 hc23
      refine lv_aload_n hx hb zd_LassoFinderModel_spread_28 rfl (lv_at hl 0 rfl) ?_
      refine z_get (v := .ref (ad 32)) hx hb hts hown hK hw zZ12 0 rfl 48 (by decide) zm_266 rfl zd_LassoFinderModel_spread_29 ?_
      refine lv_iload_n hx hb zd_LassoFinderModel_spread_32 rfl (lv_at hl 3 rfl) ?_
      refine lv_iconst (v := 3) hx hb zd_LassoFinderModel_spread_33 (by decide) ?_
      refine lv_ishr hx hb zd_LassoFinderModel_spread_34 ?_
      refine lv_topi (fun z24 ez24 => ?_)
      have hok := hok z24 ez24
      refine va_iald (f := (B 29)) hx hb hK hw.1 32 0 rfl rfl hok.1 zd_LassoFinderModel_spread_35 ?_
      have hok := hok.2
      refine lv_topi (fun z25 ez25 => ?_)
      have hok := hok z25 ez25
      refine lv_istore hx hb zd_LassoFinderModel_spread_36 hl (by decide) rfl (fun ls hl => ?_)
      have hl : lv_has ls 7 [(4, .int z25), (0, .ref (ad 0)), (1, .int x1), (2, .int x2), (3, .int x3)] := hl
      obtain ⟨n9, hok⟩ := hok
      exact wL_LassoFinderModel_spread_38 G K ad a0 Post C K4 kh4 n9 x1 x2 x3 z25 I J B D ls H locs hok (lv_sub hl [1, 2, 3, 4, 0] rfl) hw
    · have hok := hok.2 hc23
      refine lv_goto (tgt := 135) hx hb zd_LassoFinderModel_spread_25 (by decide) ?_
      exact wJ_LassoFinderModel_spread_135 G K ad a0 Post C K4 kh4 x1 x2 x3 I J B D ls H locs hok (lv_sub hl [0, 1, 2, 3] rfl) hw
theorem wL_LassoFinderModel_spread_4 {p : Program} {l : Launch} {e : Env} {s : State} {m : MethodId} {below : List Frame} {meth : Method} {c : Code} {A : Nat → Prop} (G : va_G) (K : Nat → ClassId) (ad : Nat → Nat) (a0 : Int32) (Post : Int32 → (Nat → Int32) → (Nat → Int64) → (Nat → Nat → Int32) → (Nat → Nat → Int64) → Prop) (C : zCx p s m ([.ref (ad 0), .int a0] : List Value).toArray meth c A G K prog_14_method_60_code (some .boolean) 7 "LassoFinderModel") : ∀ (n : Nat) (x1 : Int32) (x2 : Int32) (x3 : Int32) (I : Nat → Int32) (J : Nat → Int64) (B : Nat → Nat → Int32) (D : Nat → Nat → Int64) (ls : Array Slot) (H : Heap) (locs : List Loc), wl_LassoFinderModel_spread_4 a0 Post n x1 x2 x3 I J B D → lv_has ls 7 [(0, .ref (ad 0)), (1, .int x1), (2, .int x2), (3, .int x3)] → zW G A s.heap (wM ad K I J B D) H locs → W p l e { frames := 2, cells := 0, slots := 0, locals := 50 } s m ([.ref (ad 0), .int a0] : List Value).toArray below meth c H locs 0 0 (MQ below (va_Qi (fun (r : Int32) (u : zS) => Post r u.1 u.2.1 u.2.2.1 u.2.2.2) (fun u t => zPost G K A (wM ad K u.1 u.2.1 u.2.2.1 u.2.2.2) t) A) ([.ref (ad 0), .int a0] : List Value).toArray s 0 0 A) (F0 m 4 ls []) := by
  intro n
  induction n with
  | zero => intro x1 x2 x3 I J B D ls H locs hok; exact hok.elim
  | succ n ih => exact wB_LassoFinderModel_spread_4 G K ad a0 Post C (wl_LassoFinderModel_spread_4 a0 Post n) ih
set_option maxHeartbeats 8000000 in
set_option maxRecDepth 100000 in
theorem w_LassoFinderModel_spread (l : Launch) (G : va_G) (K : Nat → ClassId) (ad : Nat → Nat) (I : Nat → Int32) (J : Nat → Int64) (B : Nat → Nat → Int32) (D : Nat → Nat → Int64) (a0 : Int32) (Post : Int32 → (Nat → Int32) → (Nat → Int64) → (Nat → Nat → Int32) → (Nat → Nat → Int64) → Prop) (sz : Nat) (hok : wp_LassoFinderModel_spread I J B D a0 Post) : Met l zy_LassoFinderModel_spread (Cond.code zy_LassoFinderModel_spread prog_14_method_60_code 7 (some .boolean) :: zTB) { frames := 2, cells := 0, slots := 0, locals := 50 } (va_Pc [.ref (ad 0), .int a0] (zPre G K (wM ad K I J B D) sz)) (va_Qi (fun (r : Int32) (u : zS) => Post r u.1 u.2.1 u.2.2.1 u.2.2.2) (fun u t => zPost G K (va_A (wM ad K I J B D) sz) (wM ad K u.1 u.2.1 u.2.2.1 u.2.2.2) t) (va_A (wM ad K I J B D) sz)) 0 0 (va_A (wM ad K I J B D) sz) := by
  refine zMet (y := zy_LassoFinderModel_spread) (av := [.ref (ad 0), .int a0]) (maxL := 7) (cc := prog_14_method_60_code) (ret := (some .boolean)) (W0 := (wM ad K I J B D)) (sz := sz) (G := G) (K := K) (wt := zTB) (mc := 0) (ms := 0) (Qf := fun A => va_Qi (fun (r : Int32) (u : zS) => Post r u.1 u.2.1 u.2.2.1 u.2.2.2) (fun u t => zPost G K A (wM ad K u.1 u.2.1 u.2.2.1 u.2.2.2) t) A) (by decide) (Nat.le_of_ble_eq_true rfl) ?_
  intro p e s m below meth c ls A hx hb hr hml hts hown hlocks hin hA hK H locs hw hsz hl
  clear hsz
  have hown : s.vm.findClass "LassoFinderModel" = some m.cls := hown
  have C : zCx p s m ([.ref (ad 0), .int a0] : List Value).toArray meth c A G K prog_14_method_60_code (some .boolean) 7 "LassoFinderModel" := ⟨hx, hb, hr, hml, hts, hown, hlocks, hA, hK⟩
  have hl : lv_has ls 7 [(0, .ref (ad 0)), (1, .int a0)] := hl
  have hw : zW G A s.heap (wM ad K I J B D) H locs := hw
  unfold wp_LassoFinderModel_spread at hok
  refine lv_iconst (v := 0) hx hb zd_LassoFinderModel_spread_0 (by decide) ?_
  refine lv_istore_n hx hb zd_LassoFinderModel_spread_1 rfl hl (by decide) rfl (fun ls hl => ?_)
  have hl : lv_has ls 7 [(2, .int 0), (0, .ref (ad 0)), (1, .int a0)] := hl
  refine lv_iconst (v := 0) hx hb zd_LassoFinderModel_spread_2 (by decide) ?_
  refine lv_istore_n hx hb zd_LassoFinderModel_spread_3 rfl hl (by decide) rfl (fun ls hl => ?_)
  have hl : lv_has ls 7 [(3, .int 0), (2, .int 0), (0, .ref (ad 0)), (1, .int a0)] := hl
  obtain ⟨n9, hok⟩ := hok
  exact wL_LassoFinderModel_spread_4 G K ad a0 Post C n9 a0 0 0 I J B D ls H locs hok (lv_sub hl [2, 3, 1, 0] rfl) hw
