abbrev zy_LassoSearch_followCycle : MethodName := ⟨"LassoFinder$LassoSearch", "followCycle", "(II)V"⟩
abbrev zy_LassoSearch_allowedRound : MethodName := ⟨"LassoFinder$LassoSearch", "allowedRound", "(JII)J"⟩
abbrev zy_LassoSearch_canEnd : MethodName := ⟨"LassoFinder$LassoSearch", "canEnd", "(III)Z"⟩
abbrev zy_LassoSearch_keepBetter : MethodName := ⟨"LassoFinder$LassoSearch", "keepBetter", "(I)V"⟩
theorem zn_562 : Cond.methodLink "LassoFinder$LassoSearch" 177 ⟨"LassoFinder$LassoSearch", "allowedRound", "(JII)J"⟩ ∈ zTB := z_in (zt_6 _ (List.mem_of_getElem? (i := 18) rfl)) rfl
theorem zn_563 : Cond.methodLink "LassoFinder$LassoSearch" 181 ⟨"LassoFinder$LassoSearch", "canEnd", "(III)Z"⟩ ∈ zTB := z_in (zt_6 _ (List.mem_of_getElem? (i := 22) rfl)) rfl
theorem zn_812 : Cond.fieldLink "LassoFinder$LassoSearch" 52 "LassoFinder$LassoSearch" "cycleSteps" "[I" ∈ zTB := z_in (zt_5 _ (List.mem_of_getElem? (i := 141) rfl)) rfl
theorem zn_813 : Cond.fieldLink "LassoFinder$LassoSearch" 55 "LassoFinder$LassoSearch" "triedSteps" "[I" ∈ zTB := z_in (zt_5 _ (List.mem_of_getElem? (i := 142) rfl)) rfl
theorem zn_827 : Cond.fieldLink "LassoFinder$LassoSearch" 164 "LassoFinder$LassoSearch" "cycleLength" "I" ∈ zTB := z_in (zt_5 _ (List.mem_of_getElem? (i := 146) rfl)) rfl
theorem zn_828 : Cond.fieldLink "LassoFinder$LassoSearch" 137 "LassoFinder$Truths" "settled" "[I" ∈ zTB := z_in (zt_2 _ (List.mem_of_getElem? (i := 193) rfl)) rfl
theorem zn_865 : Cond.code ⟨"LassoFinder$LassoSearch", "canEnd", "(III)Z"⟩ prog_4_method_21_code 5 (some .boolean) ∈ zTB := z_in (zt_6 _ (List.mem_of_getElem? (i := 25) rfl)) rfl
theorem zn_866 : Cond.instanceMethod ⟨"LassoFinder$LassoSearch", "canEnd", "(III)Z"⟩ ∈ zTB := z_in (zt_6 _ (List.mem_of_getElem? (i := 24) rfl)) rfl
theorem zn_867 : Cond.code ⟨"LassoFinder$LassoSearch", "allowedRound", "(JII)J"⟩ prog_4_method_20_code 12 (some .long) ∈ zTB := z_in (zt_6 _ (List.mem_of_getElem? (i := 21) rfl)) rfl
theorem zn_868 : Cond.instanceMethod ⟨"LassoFinder$LassoSearch", "allowedRound", "(JII)J"⟩ ∈ zTB := z_in (zt_6 _ (List.mem_of_getElem? (i := 20) rfl)) rfl
theorem zf_LassoSearch_canEnd : zFaceV zy_LassoSearch_canEnd prog_4_method_21_code 5 (some .boolean) 3 := ⟨zn_866, (z_in (zp_5 _ (List.mem_of_getElem? (i := 5) rfl)) rfl), zm_7, zn_865, by decide +kernel, by decide +kernel, by decide +kernel⟩
theorem zf_LassoSearch_allowedRound : zFaceV zy_LassoSearch_allowedRound prog_4_method_20_code 12 (some .long) 3 := ⟨zn_868, (z_in (zp_5 _ (List.mem_of_getElem? (i := 4) rfl)) rfl), zm_7, zn_867, by decide +kernel, by decide +kernel, by decide +kernel⟩
theorem zd_LassoSearch_allowedRound_0 : decode prog_4_method_20_code 0 = .ok (.lconst 0, 1) := by decide +kernel
theorem zd_LassoSearch_allowedRound_1 : decode prog_4_method_20_code 1 = .ok (.lstore 5, 2) := by decide +kernel
theorem zd_LassoSearch_allowedRound_3 : decode prog_4_method_20_code 3 = .ok (.iconst 0, 1) := by decide +kernel
theorem zd_LassoSearch_allowedRound_4 : decode prog_4_method_20_code 4 = .ok (.istore 7, 2) := by decide +kernel
theorem zd_LassoSearch_allowedRound_6 : decode prog_4_method_20_code 6 = .ok (.iload 7, 2) := by decide +kernel
theorem zd_LassoSearch_allowedRound_8 : decode prog_4_method_20_code 8 = .ok (.aload_n 0, 1) := by decide +kernel
theorem zd_LassoSearch_allowedRound_9 : decode prog_4_method_20_code 9 = .ok (.getfield 19, 3) := by decide +kernel
theorem zd_LassoSearch_allowedRound_12 : decode prog_4_method_20_code 12 = .ok (.getfield 104, 3) := by decide +kernel
theorem zd_LassoSearch_allowedRound_15 : decode prog_4_method_20_code 15 = .ok (.if_icmp .ge 130, 3) := by decide +kernel
theorem zd_LassoSearch_allowedRound_18 : decode prog_4_method_20_code 18 = .ok (.aload_n 0, 1) := by decide +kernel
theorem zd_LassoSearch_allowedRound_19 : decode prog_4_method_20_code 19 = .ok (.aload_n 0, 1) := by decide +kernel
theorem zd_LassoSearch_allowedRound_20 : decode prog_4_method_20_code 20 = .ok (.getfield 15, 3) := by decide +kernel
theorem zd_LassoSearch_allowedRound_23 : decode prog_4_method_20_code 23 = .ok (.getfield 161, 3) := by decide +kernel
theorem zd_LassoSearch_allowedRound_26 : decode prog_4_method_20_code 26 = .ok (.iload_n 3, 1) := by decide +kernel
theorem zd_LassoSearch_allowedRound_27 : decode prog_4_method_20_code 27 = .ok (.iaload, 1) := by decide +kernel
theorem zd_LassoSearch_allowedRound_28 : decode prog_4_method_20_code 28 = .ok (.iload 7, 2) := by decide +kernel
theorem zd_LassoSearch_allowedRound_30 : decode prog_4_method_20_code 30 = .ok (.invokevirtual 125, 3) := by decide +kernel
theorem zd_LassoSearch_allowedRound_33 : decode prog_4_method_20_code 33 = .ok (.istore 8, 2) := by decide +kernel
theorem zd_LassoSearch_allowedRound_35 : decode prog_4_method_20_code 35 = .ok (.aload_n 0, 1) := by decide +kernel
theorem zd_LassoSearch_allowedRound_36 : decode prog_4_method_20_code 36 = .ok (.getfield 15, 3) := by decide +kernel
theorem zd_LassoSearch_allowedRound_39 : decode prog_4_method_20_code 39 = .ok (.getfield 151, 3) := by decide +kernel
theorem zd_LassoSearch_allowedRound_42 : decode prog_4_method_20_code 42 = .ok (.iload_n 3, 1) := by decide +kernel
theorem zd_LassoSearch_allowedRound_43 : decode prog_4_method_20_code 43 = .ok (.iaload, 1) := by decide +kernel
theorem zd_LassoSearch_allowedRound_44 : decode prog_4_method_20_code 44 = .ok (.bipush 8, 2) := by decide +kernel
theorem zd_LassoSearch_allowedRound_46 : decode prog_4_method_20_code 46 = .ok (.imul, 1) := by decide +kernel
theorem zd_LassoSearch_allowedRound_47 : decode prog_4_method_20_code 47 = .ok (.iload 7, 2) := by decide +kernel
theorem zd_LassoSearch_allowedRound_49 : decode prog_4_method_20_code 49 = .ok (.iadd, 1) := by decide +kernel
theorem zd_LassoSearch_allowedRound_50 : decode prog_4_method_20_code 50 = .ok (.bipush 8, 2) := by decide +kernel
theorem zd_LassoSearch_allowedRound_52 : decode prog_4_method_20_code 52 = .ok (.imul, 1) := by decide +kernel
theorem zd_LassoSearch_allowedRound_53 : decode prog_4_method_20_code 53 = .ok (.istore 9, 2) := by decide +kernel
theorem zd_LassoSearch_allowedRound_55 : decode prog_4_method_20_code 55 = .ok (.iconst 0, 1) := by decide +kernel
theorem zd_LassoSearch_allowedRound_56 : decode prog_4_method_20_code 56 = .ok (.istore 10, 2) := by decide +kernel
theorem zd_LassoSearch_allowedRound_58 : decode prog_4_method_20_code 58 = .ok (.iload 10, 2) := by decide +kernel
theorem zd_LassoSearch_allowedRound_60 : decode prog_4_method_20_code 60 = .ok (.aload_n 0, 1) := by decide +kernel
theorem zd_LassoSearch_allowedRound_61 : decode prog_4_method_20_code 61 = .ok (.getfield 19, 3) := by decide +kernel
theorem zd_LassoSearch_allowedRound_64 : decode prog_4_method_20_code 64 = .ok (.getfield 104, 3) := by decide +kernel
theorem zd_LassoSearch_allowedRound_67 : decode prog_4_method_20_code 67 = .ok (.if_icmp .ge 72, 3) := by decide +kernel
theorem zd_LassoSearch_allowedRound_70 : decode prog_4_method_20_code 70 = .ok (.iload 10, 2) := by decide +kernel
theorem zd_LassoSearch_allowedRound_72 : decode prog_4_method_20_code 72 = .ok (.aload_n 0, 1) := by decide +kernel
theorem zd_LassoSearch_allowedRound_73 : decode prog_4_method_20_code 73 = .ok (.getfield 19, 3) := by decide +kernel
theorem zd_LassoSearch_allowedRound_76 : decode prog_4_method_20_code 76 = .ok (.getfield 137, 3) := by decide +kernel
theorem zd_LassoSearch_allowedRound_79 : decode prog_4_method_20_code 79 = .ok (.iload 8, 2) := by decide +kernel
theorem zd_LassoSearch_allowedRound_81 : decode prog_4_method_20_code 81 = .ok (.iaload, 1) := by decide +kernel
theorem zd_LassoSearch_allowedRound_82 : decode prog_4_method_20_code 82 = .ok (.ior, 1) := by decide +kernel
theorem zd_LassoSearch_allowedRound_83 : decode prog_4_method_20_code 83 = .ok (.istore 11, 2) := by decide +kernel
theorem zd_LassoSearch_allowedRound_85 : decode prog_4_method_20_code 85 = .ok (.lload_n 1, 1) := by decide +kernel
theorem zd_LassoSearch_allowedRound_86 : decode prog_4_method_20_code 86 = .ok (.iload 8, 2) := by decide +kernel
theorem zd_LassoSearch_allowedRound_88 : decode prog_4_method_20_code 88 = .ok (.bipush 8, 2) := by decide +kernel
theorem zd_LassoSearch_allowedRound_90 : decode prog_4_method_20_code 90 = .ok (.irem, 1) := by decide +kernel
theorem zd_LassoSearch_allowedRound_91 : decode prog_4_method_20_code 91 = .ok (.bipush 8, 2) := by decide +kernel
theorem zd_LassoSearch_allowedRound_93 : decode prog_4_method_20_code 93 = .ok (.imul, 1) := by decide +kernel
theorem zd_LassoSearch_allowedRound_94 : decode prog_4_method_20_code 94 = .ok (.iload 10, 2) := by decide +kernel
theorem zd_LassoSearch_allowedRound_96 : decode prog_4_method_20_code 96 = .ok (.iadd, 1) := by decide +kernel
theorem zd_LassoSearch_allowedRound_97 : decode prog_4_method_20_code 97 = .ok (.lushr, 1) := by decide +kernel
theorem zd_LassoSearch_allowedRound_98 : decode prog_4_method_20_code 98 = .ok (.lconst 1, 1) := by decide +kernel
theorem zd_LassoSearch_allowedRound_99 : decode prog_4_method_20_code 99 = .ok (.land, 1) := by decide +kernel
theorem zd_LassoSearch_allowedRound_100 : decode prog_4_method_20_code 100 = .ok (.lconst 0, 1) := by decide +kernel
theorem zd_LassoSearch_allowedRound_101 : decode prog_4_method_20_code 101 = .ok (.lcmp, 1) := by decide +kernel
theorem zd_LassoSearch_allowedRound_102 : decode prog_4_method_20_code 102 = .ok (.ifCond .eq 31, 3) := by decide +kernel
theorem zd_LassoSearch_allowedRound_105 : decode prog_4_method_20_code 105 = .ok (.aload_n 0, 1) := by decide +kernel
theorem zd_LassoSearch_allowedRound_106 : decode prog_4_method_20_code 106 = .ok (.iload 9, 2) := by decide +kernel
theorem zd_LassoSearch_allowedRound_108 : decode prog_4_method_20_code 108 = .ok (.iload 11, 2) := by decide +kernel
theorem zd_LassoSearch_allowedRound_110 : decode prog_4_method_20_code 110 = .ok (.iload 4, 2) := by decide +kernel
theorem zd_LassoSearch_allowedRound_112 : decode prog_4_method_20_code 112 = .ok (.invokevirtual 181, 3) := by decide +kernel
theorem zd_LassoSearch_allowedRound_115 : decode prog_4_method_20_code 115 = .ok (.ifCond .eq 18, 3) := by decide +kernel
theorem zd_LassoSearch_allowedRound_118 : decode prog_4_method_20_code 118 = .ok (.lload 5, 2) := by decide +kernel
theorem zd_LassoSearch_allowedRound_120 : decode prog_4_method_20_code 120 = .ok (.lconst 1, 1) := by decide +kernel
theorem zd_LassoSearch_allowedRound_121 : decode prog_4_method_20_code 121 = .ok (.iload 7, 2) := by decide +kernel
theorem zd_LassoSearch_allowedRound_123 : decode prog_4_method_20_code 123 = .ok (.bipush 8, 2) := by decide +kernel
theorem zd_LassoSearch_allowedRound_125 : decode prog_4_method_20_code 125 = .ok (.imul, 1) := by decide +kernel
theorem zd_LassoSearch_allowedRound_126 : decode prog_4_method_20_code 126 = .ok (.iload 11, 2) := by decide +kernel
theorem zd_LassoSearch_allowedRound_128 : decode prog_4_method_20_code 128 = .ok (.iadd, 1) := by decide +kernel
theorem zd_LassoSearch_allowedRound_129 : decode prog_4_method_20_code 129 = .ok (.lshl, 1) := by decide +kernel
theorem zd_LassoSearch_allowedRound_130 : decode prog_4_method_20_code 130 = .ok (.lor, 1) := by decide +kernel
theorem zd_LassoSearch_allowedRound_131 : decode prog_4_method_20_code 131 = .ok (.lstore 5, 2) := by decide +kernel
theorem zd_LassoSearch_allowedRound_133 : decode prog_4_method_20_code 133 = .ok (.iinc 10 1, 3) := by decide +kernel
theorem zd_LassoSearch_allowedRound_136 : decode prog_4_method_20_code 136 = .ok (.goto (-78), 3) := by decide +kernel
theorem zd_LassoSearch_allowedRound_139 : decode prog_4_method_20_code 139 = .ok (.iinc 7 1, 3) := by decide +kernel
theorem zd_LassoSearch_allowedRound_142 : decode prog_4_method_20_code 142 = .ok (.goto (-136), 3) := by decide +kernel
theorem zd_LassoSearch_allowedRound_145 : decode prog_4_method_20_code 145 = .ok (.lload 5, 2) := by decide +kernel
theorem zd_LassoSearch_allowedRound_147 : decode prog_4_method_20_code 147 = .ok (.lreturn, 1) := by decide +kernel
theorem zd_LassoSearch_canEnd_0 : decode prog_4_method_21_code 0 = .ok (.iconst 0, 1) := by decide +kernel
theorem zd_LassoSearch_canEnd_1 : decode prog_4_method_21_code 1 = .ok (.istore 4, 2) := by decide +kernel
theorem zd_LassoSearch_canEnd_3 : decode prog_4_method_21_code 3 = .ok (.iload 4, 2) := by decide +kernel
theorem zd_LassoSearch_canEnd_5 : decode prog_4_method_21_code 5 = .ok (.aload_n 0, 1) := by decide +kernel
theorem zd_LassoSearch_canEnd_6 : decode prog_4_method_21_code 6 = .ok (.getfield 19, 3) := by decide +kernel
theorem zd_LassoSearch_canEnd_9 : decode prog_4_method_21_code 9 = .ok (.getfield 104, 3) := by decide +kernel
theorem zd_LassoSearch_canEnd_12 : decode prog_4_method_21_code 12 = .ok (.if_icmp .ge 40, 3) := by decide +kernel
theorem zd_LassoSearch_canEnd_15 : decode prog_4_method_21_code 15 = .ok (.iload_n 2, 1) := by decide +kernel
theorem zd_LassoSearch_canEnd_16 : decode prog_4_method_21_code 16 = .ok (.iload 4, 2) := by decide +kernel
theorem zd_LassoSearch_canEnd_18 : decode prog_4_method_21_code 18 = .ok (.ior, 1) := by decide +kernel
theorem zd_LassoSearch_canEnd_19 : decode prog_4_method_21_code 19 = .ok (.aload_n 0, 1) := by decide +kernel
theorem zd_LassoSearch_canEnd_20 : decode prog_4_method_21_code 20 = .ok (.getfield 19, 3) := by decide +kernel
theorem zd_LassoSearch_canEnd_23 : decode prog_4_method_21_code 23 = .ok (.getfield 104, 3) := by decide +kernel
theorem zd_LassoSearch_canEnd_26 : decode prog_4_method_21_code 26 = .ok (.iconst 1, 1) := by decide +kernel
theorem zd_LassoSearch_canEnd_27 : decode prog_4_method_21_code 27 = .ok (.isub, 1) := by decide +kernel
theorem zd_LassoSearch_canEnd_28 : decode prog_4_method_21_code 28 = .ok (.if_icmp .ne 18, 3) := by decide +kernel
theorem zd_LassoSearch_canEnd_31 : decode prog_4_method_21_code 31 = .ok (.aload_n 0, 1) := by decide +kernel
theorem zd_LassoSearch_canEnd_32 : decode prog_4_method_21_code 32 = .ok (.getfield 43, 3) := by decide +kernel
theorem zd_LassoSearch_canEnd_35 : decode prog_4_method_21_code 35 = .ok (.iload_n 1, 1) := by decide +kernel
theorem zd_LassoSearch_canEnd_36 : decode prog_4_method_21_code 36 = .ok (.iload 4, 2) := by decide +kernel
theorem zd_LassoSearch_canEnd_38 : decode prog_4_method_21_code 38 = .ok (.iadd, 1) := by decide +kernel
theorem zd_LassoSearch_canEnd_39 : decode prog_4_method_21_code 39 = .ok (.iaload, 1) := by decide +kernel
theorem zd_LassoSearch_canEnd_40 : decode prog_4_method_21_code 40 = .ok (.iload_n 3, 1) := by decide +kernel
theorem zd_LassoSearch_canEnd_41 : decode prog_4_method_21_code 41 = .ok (.if_icmp .ne 5, 3) := by decide +kernel
theorem zd_LassoSearch_canEnd_44 : decode prog_4_method_21_code 44 = .ok (.iconst 1, 1) := by decide +kernel
theorem zd_LassoSearch_canEnd_45 : decode prog_4_method_21_code 45 = .ok (.ireturn, 1) := by decide +kernel
theorem zd_LassoSearch_canEnd_46 : decode prog_4_method_21_code 46 = .ok (.iinc 4 1, 3) := by decide +kernel
theorem zd_LassoSearch_canEnd_49 : decode prog_4_method_21_code 49 = .ok (.goto (-46), 3) := by decide +kernel
theorem zd_LassoSearch_canEnd_52 : decode prog_4_method_21_code 52 = .ok (.iconst 0, 1) := by decide +kernel
theorem zd_LassoSearch_canEnd_53 : decode prog_4_method_21_code 53 = .ok (.ireturn, 1) := by decide +kernel
theorem zd_LassoSearch_followCycle_0 : decode prog_4_method_19_code 0 = .ok (.lconst 1, 1) := by decide +kernel
theorem zd_LassoSearch_followCycle_1 : decode prog_4_method_19_code 1 = .ok (.iload_n 1, 1) := by decide +kernel
theorem zd_LassoSearch_followCycle_2 : decode prog_4_method_19_code 2 = .ok (.bipush 8, 2) := by decide +kernel
theorem zd_LassoSearch_followCycle_4 : decode prog_4_method_19_code 4 = .ok (.irem, 1) := by decide +kernel
theorem zd_LassoSearch_followCycle_5 : decode prog_4_method_19_code 5 = .ok (.bipush 8, 2) := by decide +kernel
theorem zd_LassoSearch_followCycle_7 : decode prog_4_method_19_code 7 = .ok (.imul, 1) := by decide +kernel
theorem zd_LassoSearch_followCycle_8 : decode prog_4_method_19_code 8 = .ok (.lshl, 1) := by decide +kernel
theorem zd_LassoSearch_followCycle_9 : decode prog_4_method_19_code 9 = .ok (.lstore_n 3, 1) := by decide +kernel
theorem zd_LassoSearch_followCycle_10 : decode prog_4_method_19_code 10 = .ok (.iload_n 1, 1) := by decide +kernel
theorem zd_LassoSearch_followCycle_11 : decode prog_4_method_19_code 11 = .ok (.bipush 8, 2) := by decide +kernel
theorem zd_LassoSearch_followCycle_13 : decode prog_4_method_19_code 13 = .ok (.idiv, 1) := by decide +kernel
theorem zd_LassoSearch_followCycle_14 : decode prog_4_method_19_code 14 = .ok (.istore 5, 2) := by decide +kernel
theorem zd_LassoSearch_followCycle_16 : decode prog_4_method_19_code 16 = .ok (.iconst 0, 1) := by decide +kernel
theorem zd_LassoSearch_followCycle_17 : decode prog_4_method_19_code 17 = .ok (.istore 6, 2) := by decide +kernel
theorem zd_LassoSearch_followCycle_19 : decode prog_4_method_19_code 19 = .ok (.iload 6, 2) := by decide +kernel
theorem zd_LassoSearch_followCycle_21 : decode prog_4_method_19_code 21 = .ok (.iload_n 2, 1) := by decide +kernel
theorem zd_LassoSearch_followCycle_22 : decode prog_4_method_19_code 22 = .ok (.if_icmp .ge 98, 3) := by decide +kernel
theorem zd_LassoSearch_followCycle_25 : decode prog_4_method_19_code 25 = .ok (.lconst 0, 1) := by decide +kernel
theorem zd_LassoSearch_followCycle_26 : decode prog_4_method_19_code 26 = .ok (.lstore 7, 2) := by decide +kernel
theorem zd_LassoSearch_followCycle_28 : decode prog_4_method_19_code 28 = .ok (.aload_n 0, 1) := by decide +kernel
theorem zd_LassoSearch_followCycle_29 : decode prog_4_method_19_code 29 = .ok (.getfield 15, 3) := by decide +kernel
theorem zd_LassoSearch_followCycle_32 : decode prog_4_method_19_code 32 = .ok (.getfield 148, 3) := by decide +kernel
theorem zd_LassoSearch_followCycle_35 : decode prog_4_method_19_code 35 = .ok (.iload 5, 2) := by decide +kernel
theorem zd_LassoSearch_followCycle_37 : decode prog_4_method_19_code 37 = .ok (.iaload, 1) := by decide +kernel
theorem zd_LassoSearch_followCycle_38 : decode prog_4_method_19_code 38 = .ok (.istore 9, 2) := by decide +kernel
theorem zd_LassoSearch_followCycle_40 : decode prog_4_method_19_code 40 = .ok (.iload 9, 2) := by decide +kernel
theorem zd_LassoSearch_followCycle_42 : decode prog_4_method_19_code 42 = .ok (.aload_n 0, 1) := by decide +kernel
theorem zd_LassoSearch_followCycle_43 : decode prog_4_method_19_code 43 = .ok (.getfield 15, 3) := by decide +kernel
theorem zd_LassoSearch_followCycle_46 : decode prog_4_method_19_code 46 = .ok (.getfield 148, 3) := by decide +kernel
theorem zd_LassoSearch_followCycle_49 : decode prog_4_method_19_code 49 = .ok (.iload 5, 2) := by decide +kernel
theorem zd_LassoSearch_followCycle_51 : decode prog_4_method_19_code 51 = .ok (.iconst 1, 1) := by decide +kernel
theorem zd_LassoSearch_followCycle_52 : decode prog_4_method_19_code 52 = .ok (.iadd, 1) := by decide +kernel
theorem zd_LassoSearch_followCycle_53 : decode prog_4_method_19_code 53 = .ok (.iaload, 1) := by decide +kernel
theorem zd_LassoSearch_followCycle_54 : decode prog_4_method_19_code 54 = .ok (.if_icmp .ge 40, 3) := by decide +kernel
theorem zd_LassoSearch_followCycle_57 : decode prog_4_method_19_code 57 = .ok (.lload 7, 2) := by decide +kernel
theorem zd_LassoSearch_followCycle_59 : decode prog_4_method_19_code 59 = .ok (.lconst 0, 1) := by decide +kernel
theorem zd_LassoSearch_followCycle_60 : decode prog_4_method_19_code 60 = .ok (.lcmp, 1) := by decide +kernel
theorem zd_LassoSearch_followCycle_61 : decode prog_4_method_19_code 61 = .ok (.ifCond .ne 33, 3) := by decide +kernel
theorem zd_LassoSearch_followCycle_64 : decode prog_4_method_19_code 64 = .ok (.aload_n 0, 1) := by decide +kernel
theorem zd_LassoSearch_followCycle_65 : decode prog_4_method_19_code 65 = .ok (.lload_n 3, 1) := by decide +kernel
theorem zd_LassoSearch_followCycle_66 : decode prog_4_method_19_code 66 = .ok (.iload 9, 2) := by decide +kernel
theorem zd_LassoSearch_followCycle_68 : decode prog_4_method_19_code 68 = .ok (.iload_n 2, 1) := by decide +kernel
theorem zd_LassoSearch_followCycle_69 : decode prog_4_method_19_code 69 = .ok (.iload 6, 2) := by decide +kernel
theorem zd_LassoSearch_followCycle_71 : decode prog_4_method_19_code 71 = .ok (.isub, 1) := by decide +kernel
theorem zd_LassoSearch_followCycle_72 : decode prog_4_method_19_code 72 = .ok (.iconst 1, 1) := by decide +kernel
theorem zd_LassoSearch_followCycle_73 : decode prog_4_method_19_code 73 = .ok (.isub, 1) := by decide +kernel
theorem zd_LassoSearch_followCycle_74 : decode prog_4_method_19_code 74 = .ok (.invokevirtual 177, 3) := by decide +kernel
theorem zd_LassoSearch_followCycle_77 : decode prog_4_method_19_code 77 = .ok (.lstore 7, 2) := by decide +kernel
theorem zd_LassoSearch_followCycle_79 : decode prog_4_method_19_code 79 = .ok (.aload_n 0, 1) := by decide +kernel
theorem zd_LassoSearch_followCycle_80 : decode prog_4_method_19_code 80 = .ok (.getfield 55, 3) := by decide +kernel
theorem zd_LassoSearch_followCycle_83 : decode prog_4_method_19_code 83 = .ok (.iload 6, 2) := by decide +kernel
theorem zd_LassoSearch_followCycle_85 : decode prog_4_method_19_code 85 = .ok (.iload 9, 2) := by decide +kernel
theorem zd_LassoSearch_followCycle_87 : decode prog_4_method_19_code 87 = .ok (.iastore, 1) := by decide +kernel
theorem zd_LassoSearch_followCycle_88 : decode prog_4_method_19_code 88 = .ok (.iinc 9 1, 3) := by decide +kernel
theorem zd_LassoSearch_followCycle_91 : decode prog_4_method_19_code 91 = .ok (.goto (-51), 3) := by decide +kernel
theorem zd_LassoSearch_followCycle_94 : decode prog_4_method_19_code 94 = .ok (.lload 7, 2) := by decide +kernel
theorem zd_LassoSearch_followCycle_96 : decode prog_4_method_19_code 96 = .ok (.lstore_n 3, 1) := by decide +kernel
theorem zd_LassoSearch_followCycle_97 : decode prog_4_method_19_code 97 = .ok (.aload_n 0, 1) := by decide +kernel
theorem zd_LassoSearch_followCycle_98 : decode prog_4_method_19_code 98 = .ok (.getfield 15, 3) := by decide +kernel
theorem zd_LassoSearch_followCycle_101 : decode prog_4_method_19_code 101 = .ok (.getfield 151, 3) := by decide +kernel
theorem zd_LassoSearch_followCycle_104 : decode prog_4_method_19_code 104 = .ok (.aload_n 0, 1) := by decide +kernel
theorem zd_LassoSearch_followCycle_105 : decode prog_4_method_19_code 105 = .ok (.getfield 55, 3) := by decide +kernel
theorem zd_LassoSearch_followCycle_108 : decode prog_4_method_19_code 108 = .ok (.iload 6, 2) := by decide +kernel
theorem zd_LassoSearch_followCycle_110 : decode prog_4_method_19_code 110 = .ok (.iaload, 1) := by decide +kernel
theorem zd_LassoSearch_followCycle_111 : decode prog_4_method_19_code 111 = .ok (.iaload, 1) := by decide +kernel
theorem zd_LassoSearch_followCycle_112 : decode prog_4_method_19_code 112 = .ok (.istore 5, 2) := by decide +kernel
theorem zd_LassoSearch_followCycle_114 : decode prog_4_method_19_code 114 = .ok (.iinc 6 1, 3) := by decide +kernel
theorem zd_LassoSearch_followCycle_117 : decode prog_4_method_19_code 117 = .ok (.goto (-98), 3) := by decide +kernel
theorem zd_LassoSearch_followCycle_120 : decode prog_4_method_19_code 120 = .ok (.return_, 1) := by decide +kernel
theorem zd_LassoSearch_keepBetter_0 : decode prog_4_method_17_code 0 = .ok (.aload_n 0, 1) := by decide +kernel
theorem zd_LassoSearch_keepBetter_1 : decode prog_4_method_17_code 1 = .ok (.getfield 164, 3) := by decide +kernel
theorem zd_LassoSearch_keepBetter_4 : decode prog_4_method_17_code 4 = .ok (.iconst (-1), 1) := by decide +kernel
theorem zd_LassoSearch_keepBetter_5 : decode prog_4_method_17_code 5 = .ok (.if_icmp .eq 11, 3) := by decide +kernel
theorem zd_LassoSearch_keepBetter_8 : decode prog_4_method_17_code 8 = .ok (.iload_n 1, 1) := by decide +kernel
theorem zd_LassoSearch_keepBetter_9 : decode prog_4_method_17_code 9 = .ok (.aload_n 0, 1) := by decide +kernel
theorem zd_LassoSearch_keepBetter_10 : decode prog_4_method_17_code 10 = .ok (.getfield 164, 3) := by decide +kernel
theorem zd_LassoSearch_keepBetter_13 : decode prog_4_method_17_code 13 = .ok (.if_icmp .ge 7, 3) := by decide +kernel
theorem zd_LassoSearch_keepBetter_16 : decode prog_4_method_17_code 16 = .ok (.iconst 1, 1) := by decide +kernel
theorem zd_LassoSearch_keepBetter_17 : decode prog_4_method_17_code 17 = .ok (.goto 4, 3) := by decide +kernel
theorem zd_LassoSearch_keepBetter_20 : decode prog_4_method_17_code 20 = .ok (.iconst 0, 1) := by decide +kernel
theorem zd_LassoSearch_keepBetter_21 : decode prog_4_method_17_code 21 = .ok (.istore_n 2, 1) := by decide +kernel
theorem zd_LassoSearch_keepBetter_22 : decode prog_4_method_17_code 22 = .ok (.iload_n 2, 1) := by decide +kernel
theorem zd_LassoSearch_keepBetter_23 : decode prog_4_method_17_code 23 = .ok (.ifCond .ne 7, 3) := by decide +kernel
theorem zd_LassoSearch_keepBetter_26 : decode prog_4_method_17_code 26 = .ok (.iconst 1, 1) := by decide +kernel
theorem zd_LassoSearch_keepBetter_27 : decode prog_4_method_17_code 27 = .ok (.goto 4, 3) := by decide +kernel
theorem zd_LassoSearch_keepBetter_30 : decode prog_4_method_17_code 30 = .ok (.iconst 0, 1) := by decide +kernel
theorem zd_LassoSearch_keepBetter_31 : decode prog_4_method_17_code 31 = .ok (.istore_n 3, 1) := by decide +kernel
theorem zd_LassoSearch_keepBetter_32 : decode prog_4_method_17_code 32 = .ok (.iconst 0, 1) := by decide +kernel
theorem zd_LassoSearch_keepBetter_33 : decode prog_4_method_17_code 33 = .ok (.istore 4, 2) := by decide +kernel
theorem zd_LassoSearch_keepBetter_35 : decode prog_4_method_17_code 35 = .ok (.iload 4, 2) := by decide +kernel
theorem zd_LassoSearch_keepBetter_37 : decode prog_4_method_17_code 37 = .ok (.iload_n 1, 1) := by decide +kernel
theorem zd_LassoSearch_keepBetter_38 : decode prog_4_method_17_code 38 = .ok (.if_icmp .ge 59, 3) := by decide +kernel
theorem zd_LassoSearch_keepBetter_41 : decode prog_4_method_17_code 41 = .ok (.iload_n 3, 1) := by decide +kernel
theorem zd_LassoSearch_keepBetter_42 : decode prog_4_method_17_code 42 = .ok (.ifCond .eq 55, 3) := by decide +kernel
theorem zd_LassoSearch_keepBetter_45 : decode prog_4_method_17_code 45 = .ok (.aload_n 0, 1) := by decide +kernel
theorem zd_LassoSearch_keepBetter_46 : decode prog_4_method_17_code 46 = .ok (.getfield 55, 3) := by decide +kernel
theorem zd_LassoSearch_keepBetter_49 : decode prog_4_method_17_code 49 = .ok (.iload 4, 2) := by decide +kernel
theorem zd_LassoSearch_keepBetter_51 : decode prog_4_method_17_code 51 = .ok (.iaload, 1) := by decide +kernel
theorem zd_LassoSearch_keepBetter_52 : decode prog_4_method_17_code 52 = .ok (.aload_n 0, 1) := by decide +kernel
theorem zd_LassoSearch_keepBetter_53 : decode prog_4_method_17_code 53 = .ok (.getfield 52, 3) := by decide +kernel
theorem zd_LassoSearch_keepBetter_56 : decode prog_4_method_17_code 56 = .ok (.iload 4, 2) := by decide +kernel
theorem zd_LassoSearch_keepBetter_58 : decode prog_4_method_17_code 58 = .ok (.iaload, 1) := by decide +kernel
theorem zd_LassoSearch_keepBetter_59 : decode prog_4_method_17_code 59 = .ok (.if_icmp .ne 7, 3) := by decide +kernel
theorem zd_LassoSearch_keepBetter_62 : decode prog_4_method_17_code 62 = .ok (.iconst 1, 1) := by decide +kernel
theorem zd_LassoSearch_keepBetter_63 : decode prog_4_method_17_code 63 = .ok (.goto 4, 3) := by decide +kernel
theorem zd_LassoSearch_keepBetter_66 : decode prog_4_method_17_code 66 = .ok (.iconst 0, 1) := by decide +kernel
theorem zd_LassoSearch_keepBetter_67 : decode prog_4_method_17_code 67 = .ok (.istore_n 3, 1) := by decide +kernel
theorem zd_LassoSearch_keepBetter_68 : decode prog_4_method_17_code 68 = .ok (.aload_n 0, 1) := by decide +kernel
theorem zd_LassoSearch_keepBetter_69 : decode prog_4_method_17_code 69 = .ok (.getfield 55, 3) := by decide +kernel
theorem zd_LassoSearch_keepBetter_72 : decode prog_4_method_17_code 72 = .ok (.iload 4, 2) := by decide +kernel
theorem zd_LassoSearch_keepBetter_74 : decode prog_4_method_17_code 74 = .ok (.iaload, 1) := by decide +kernel
theorem zd_LassoSearch_keepBetter_75 : decode prog_4_method_17_code 75 = .ok (.aload_n 0, 1) := by decide +kernel
theorem zd_LassoSearch_keepBetter_76 : decode prog_4_method_17_code 76 = .ok (.getfield 52, 3) := by decide +kernel
theorem zd_LassoSearch_keepBetter_79 : decode prog_4_method_17_code 79 = .ok (.iload 4, 2) := by decide +kernel
theorem zd_LassoSearch_keepBetter_81 : decode prog_4_method_17_code 81 = .ok (.iaload, 1) := by decide +kernel
theorem zd_LassoSearch_keepBetter_82 : decode prog_4_method_17_code 82 = .ok (.if_icmp .ge 7, 3) := by decide +kernel
theorem zd_LassoSearch_keepBetter_85 : decode prog_4_method_17_code 85 = .ok (.iconst 1, 1) := by decide +kernel
theorem zd_LassoSearch_keepBetter_86 : decode prog_4_method_17_code 86 = .ok (.goto 4, 3) := by decide +kernel
theorem zd_LassoSearch_keepBetter_89 : decode prog_4_method_17_code 89 = .ok (.iconst 0, 1) := by decide +kernel
theorem zd_LassoSearch_keepBetter_90 : decode prog_4_method_17_code 90 = .ok (.istore_n 2, 1) := by decide +kernel
theorem zd_LassoSearch_keepBetter_91 : decode prog_4_method_17_code 91 = .ok (.iinc 4 1, 3) := by decide +kernel
theorem zd_LassoSearch_keepBetter_94 : decode prog_4_method_17_code 94 = .ok (.goto (-59), 3) := by decide +kernel
theorem zd_LassoSearch_keepBetter_97 : decode prog_4_method_17_code 97 = .ok (.iload_n 2, 1) := by decide +kernel
theorem zd_LassoSearch_keepBetter_98 : decode prog_4_method_17_code 98 = .ok (.ifCond .eq 28, 3) := by decide +kernel
theorem zd_LassoSearch_keepBetter_101 : decode prog_4_method_17_code 101 = .ok (.aload_n 0, 1) := by decide +kernel
theorem zd_LassoSearch_keepBetter_102 : decode prog_4_method_17_code 102 = .ok (.getfield 52, 3) := by decide +kernel
theorem zd_LassoSearch_keepBetter_105 : decode prog_4_method_17_code 105 = .ok (.astore 4, 2) := by decide +kernel
theorem zd_LassoSearch_keepBetter_107 : decode prog_4_method_17_code 107 = .ok (.aload_n 0, 1) := by decide +kernel
theorem zd_LassoSearch_keepBetter_108 : decode prog_4_method_17_code 108 = .ok (.aload_n 0, 1) := by decide +kernel
theorem zd_LassoSearch_keepBetter_109 : decode prog_4_method_17_code 109 = .ok (.getfield 55, 3) := by decide +kernel
theorem zd_LassoSearch_keepBetter_112 : decode prog_4_method_17_code 112 = .ok (.putfield 52, 3) := by decide +kernel
theorem zd_LassoSearch_keepBetter_115 : decode prog_4_method_17_code 115 = .ok (.aload_n 0, 1) := by decide +kernel
theorem zd_LassoSearch_keepBetter_116 : decode prog_4_method_17_code 116 = .ok (.aload 4, 2) := by decide +kernel
theorem zd_LassoSearch_keepBetter_118 : decode prog_4_method_17_code 118 = .ok (.putfield 55, 3) := by decide +kernel
theorem zd_LassoSearch_keepBetter_121 : decode prog_4_method_17_code 121 = .ok (.aload_n 0, 1) := by decide +kernel
theorem zd_LassoSearch_keepBetter_122 : decode prog_4_method_17_code 122 = .ok (.iload_n 1, 1) := by decide +kernel
theorem zd_LassoSearch_keepBetter_123 : decode prog_4_method_17_code 123 = .ok (.putfield 164, 3) := by decide +kernel
theorem zd_LassoSearch_keepBetter_126 : decode prog_4_method_17_code 126 = .ok (.return_, 1) := by decide +kernel
def wc_LassoSearch_canEnd_46 (a0 : Int32) (a1 : Int32) (a2 : Int32) (K3 : Int32 → Int32 → Int32 → Int32 → (Nat → Int32) → (Nat → Int64) → (Nat → Nat → Int32) → (Nat → Nat → Int64) → Prop) (Post : Int32 → (Nat → Int32) → (Nat → Int64) → (Nat → Nat → Int32) → (Nat → Nat → Int64) → Prop) (x1 : Int32) (x2 : Int32) (x3 : Int32) (x4 : Int32) (I : Nat → Int32) (J : Nat → Int64) (B : Nat → Nat → Int32) (D : Nat → Nat → Int64) : Prop :=
  ∀ z1 : Int32, z1 = (x4 + 1) → K3 x1 x2 x3 z1 I J B D
def wb_LassoSearch_canEnd_3 (a0 : Int32) (a1 : Int32) (a2 : Int32) (K3 : Int32 → Int32 → Int32 → Int32 → (Nat → Int32) → (Nat → Int64) → (Nat → Nat → Int32) → (Nat → Nat → Int64) → Prop) (Post : Int32 → (Nat → Int32) → (Nat → Int64) → (Nat → Nat → Int32) → (Nat → Nat → Int64) → Prop) (x1 : Int32) (x2 : Int32) (x3 : Int32) (x4 : Int32) (I : Nat → Int32) (J : Nat → Int64) (B : Nat → Nat → Int32) (D : Nat → Nat → Int64) : Prop :=
  (((I 30) ≤ x4 → Post 0 I J B D) ∧ (¬ (I 30) ≤ x4 → ∀ z3 : Int32, z3 = (x2 ||| x4) → ∀ z4 : Int32, z4 = ((I 30) - 1) → ((¬ z3 = z4 → wc_LassoSearch_canEnd_46 a0 a1 a2 K3 Post x1 x2 x3 x4 I J B D) ∧ (z3 = z4 → ∀ z6 : Int32, z6 = (x1 + x4) → vp_in z6 6144 ∧ ∀ z7 : Int32, z7 = ((B 56) z6.toNatClampNeg) → ((¬ z7 = x3 → wc_LassoSearch_canEnd_46 a0 a1 a2 K3 Post x1 x2 x3 x4 I J B D) ∧ (z7 = x3 → Post 1 I J B D))))))
def wl_LassoSearch_canEnd_3 (a0 : Int32) (a1 : Int32) (a2 : Int32) (Post : Int32 → (Nat → Int32) → (Nat → Int64) → (Nat → Nat → Int32) → (Nat → Nat → Int64) → Prop) (n : Nat) : Int32 → Int32 → Int32 → Int32 → (Nat → Int32) → (Nat → Int64) → (Nat → Nat → Int32) → (Nat → Nat → Int64) → Prop := Nat.rec (fun _ _ _ _ _ _ _ _ => False) (fun _ r => wb_LassoSearch_canEnd_3 a0 a1 a2 r Post) n
def wp_LassoSearch_canEnd (I : Nat → Int32) (J : Nat → Int64) (B : Nat → Nat → Int32) (D : Nat → Nat → Int64) (a0 : Int32) (a1 : Int32) (a2 : Int32) (Post : Int32 → (Nat → Int32) → (Nat → Int64) → (Nat → Nat → Int32) → (Nat → Nat → Int64) → Prop) : Prop :=
  ∃ n : Nat, wl_LassoSearch_canEnd_3 a0 a1 a2 Post n a0 a1 a2 0 I J B D
set_option maxHeartbeats 8000000 in
set_option maxRecDepth 100000 in
theorem wJ_LassoSearch_canEnd_46 {p : Program} {l : Launch} {e : Env} {s : State} {m : MethodId} {below : List Frame} {meth : Method} {c : Code} {A : Nat → Prop} (G : va_G) (K : Nat → ClassId) (ad : Nat → Nat) (a0 : Int32) (a1 : Int32) (a2 : Int32) (Post : Int32 → (Nat → Int32) → (Nat → Int64) → (Nat → Nat → Int32) → (Nat → Nat → Int64) → Prop) (C : zCx p s m ([.ref (ad 65), .int a0, .int a1, .int a2] : List Value).toArray meth c A G K prog_4_method_21_code (some .boolean) 5 "LassoFinder$LassoSearch") (K3 : Int32 → Int32 → Int32 → Int32 → (Nat → Int32) → (Nat → Int64) → (Nat → Nat → Int32) → (Nat → Nat → Int64) → Prop) (kh3 : ∀ (x1 : Int32) (x2 : Int32) (x3 : Int32) (x4 : Int32) (I : Nat → Int32) (J : Nat → Int64) (B : Nat → Nat → Int32) (D : Nat → Nat → Int64) (ls : Array Slot) (H : Heap) (locs : List Loc), K3 x1 x2 x3 x4 I J B D → lv_has ls 5 [(0, .ref (ad 65)), (1, .int x1), (2, .int x2), (3, .int x3), (4, .int x4)] → zW G A s.heap (wS ad K I J B D) H locs → W p l e { frames := 0, cells := 0, slots := 0, locals := 0 } s m ([.ref (ad 65), .int a0, .int a1, .int a2] : List Value).toArray below meth c H locs 0 0 (MQ below (va_Qi (fun (r : Int32) (u : zS) => Post r u.1 u.2.1 u.2.2.1 u.2.2.2) (fun u t => zPost G K A (wS ad K u.1 u.2.1 u.2.2.1 u.2.2.2) t) A) ([.ref (ad 65), .int a0, .int a1, .int a2] : List Value).toArray s 0 0 A) (F0 m 3 ls [])) : ∀ (x1 : Int32) (x2 : Int32) (x3 : Int32) (x4 : Int32) (I : Nat → Int32) (J : Nat → Int64) (B : Nat → Nat → Int32) (D : Nat → Nat → Int64) (ls : Array Slot) (H : Heap) (locs : List Loc), wc_LassoSearch_canEnd_46 a0 a1 a2 K3 Post x1 x2 x3 x4 I J B D → lv_has ls 5 [(0, .ref (ad 65)), (1, .int x1), (2, .int x2), (3, .int x3), (4, .int x4)] → zW G A s.heap (wS ad K I J B D) H locs → W p l e { frames := 0, cells := 0, slots := 0, locals := 0 } s m ([.ref (ad 65), .int a0, .int a1, .int a2] : List Value).toArray below meth c H locs 0 0 (MQ below (va_Qi (fun (r : Int32) (u : zS) => Post r u.1 u.2.1 u.2.2.1 u.2.2.2) (fun u t => zPost G K A (wS ad K u.1 u.2.1 u.2.2.1 u.2.2.2) t) A) ([.ref (ad 65), .int a0, .int a1, .int a2] : List Value).toArray s 0 0 A) (F0 m 46 ls []) := by
  obtain ⟨hx, hb, hr, hml, hts, hown, hlocks, hA, hK⟩ := id C
  intro x1 x2 x3 x4 I J B D ls H locs hok hl hw
  unfold wc_LassoSearch_canEnd_46 at hok
  obtain ⟨z1, ez1⟩ : ∃ z : Int32, z = (x4 + 1) := ⟨_, rfl⟩
  have hok := hok z1 ez1
  refine lv_iinc (v := z1) hx hb zd_LassoSearch_canEnd_46 hl (k := 4) rfl ez1.symm (by decide) rfl (fun ls hl => ?_)
  have hl : lv_has ls 5 [(4, .int z1), (0, .ref (ad 65)), (1, .int x1), (2, .int x2), (3, .int x3)] := hl
  refine lv_goto (tgt := 3) hx hb zd_LassoSearch_canEnd_49 (by decide) ?_
  exact kh3 x1 x2 x3 z1 I J B D ls H locs hok (lv_sub hl [1, 2, 3, 4, 0] rfl) hw
set_option maxHeartbeats 8000000 in
set_option maxRecDepth 100000 in
theorem wB_LassoSearch_canEnd_3 {p : Program} {l : Launch} {e : Env} {s : State} {m : MethodId} {below : List Frame} {meth : Method} {c : Code} {A : Nat → Prop} (G : va_G) (K : Nat → ClassId) (ad : Nat → Nat) (a0 : Int32) (a1 : Int32) (a2 : Int32) (Post : Int32 → (Nat → Int32) → (Nat → Int64) → (Nat → Nat → Int32) → (Nat → Nat → Int64) → Prop) (C : zCx p s m ([.ref (ad 65), .int a0, .int a1, .int a2] : List Value).toArray meth c A G K prog_4_method_21_code (some .boolean) 5 "LassoFinder$LassoSearch") (K3 : Int32 → Int32 → Int32 → Int32 → (Nat → Int32) → (Nat → Int64) → (Nat → Nat → Int32) → (Nat → Nat → Int64) → Prop) (kh3 : ∀ (x1 : Int32) (x2 : Int32) (x3 : Int32) (x4 : Int32) (I : Nat → Int32) (J : Nat → Int64) (B : Nat → Nat → Int32) (D : Nat → Nat → Int64) (ls : Array Slot) (H : Heap) (locs : List Loc), K3 x1 x2 x3 x4 I J B D → lv_has ls 5 [(0, .ref (ad 65)), (1, .int x1), (2, .int x2), (3, .int x3), (4, .int x4)] → zW G A s.heap (wS ad K I J B D) H locs → W p l e { frames := 0, cells := 0, slots := 0, locals := 0 } s m ([.ref (ad 65), .int a0, .int a1, .int a2] : List Value).toArray below meth c H locs 0 0 (MQ below (va_Qi (fun (r : Int32) (u : zS) => Post r u.1 u.2.1 u.2.2.1 u.2.2.2) (fun u t => zPost G K A (wS ad K u.1 u.2.1 u.2.2.1 u.2.2.2) t) A) ([.ref (ad 65), .int a0, .int a1, .int a2] : List Value).toArray s 0 0 A) (F0 m 3 ls [])) : ∀ (x1 : Int32) (x2 : Int32) (x3 : Int32) (x4 : Int32) (I : Nat → Int32) (J : Nat → Int64) (B : Nat → Nat → Int32) (D : Nat → Nat → Int64) (ls : Array Slot) (H : Heap) (locs : List Loc), wb_LassoSearch_canEnd_3 a0 a1 a2 K3 Post x1 x2 x3 x4 I J B D → lv_has ls 5 [(0, .ref (ad 65)), (1, .int x1), (2, .int x2), (3, .int x3), (4, .int x4)] → zW G A s.heap (wS ad K I J B D) H locs → W p l e { frames := 0, cells := 0, slots := 0, locals := 0 } s m ([.ref (ad 65), .int a0, .int a1, .int a2] : List Value).toArray below meth c H locs 0 0 (MQ below (va_Qi (fun (r : Int32) (u : zS) => Post r u.1 u.2.1 u.2.2.1 u.2.2.2) (fun u t => zPost G K A (wS ad K u.1 u.2.1 u.2.2.1 u.2.2.2) t) A) ([.ref (ad 65), .int a0, .int a1, .int a2] : List Value).toArray s 0 0 A) (F0 m 3 ls []) := by
  obtain ⟨hx, hb, hr, hml, hts, hown, hlocks, hA, hK⟩ := id C
  intro x1 x2 x3 x4 I J B D ls H locs hok hl hw
  unfold wb_LassoSearch_canEnd_3 at hok
  refine lv_iload hx hb zd_LassoSearch_canEnd_3 (lv_at hl 4 rfl) ?_
  refine lv_aload_n hx hb zd_LassoSearch_canEnd_5 rfl (lv_at hl 0 rfl) ?_
  refine z_get (v := .ref (ad 11)) hx hb hts hown hK hw zZ3 0 wS_g0 1 (by decide) zn_819 rfl zd_LassoSearch_canEnd_6 ?_
  refine z_get (v := .int (I 30)) hx hb hts hown hK hw zZ11 23 wS_g23 7 (by decide) zn_820 rfl zd_LassoSearch_canEnd_9 ?_
  refine lv_icmp_ge (tgt := 52) hx hb zd_LassoSearch_canEnd_12 (by decide) (fun hc2 => ?_) (fun hc2 => ?_)
  · have hok := hok.1 hc2
    refine lv_iconst (v := 0) hx hb zd_LassoSearch_canEnd_52 (by decide) ?_
    exact (z_iret (u := (I, J, B, D)) hx hb hr hlocks rfl hw (List.range 77) wS_all wS_nd hok (Nat.le_of_ble_eq_true rfl) (Nat.le_of_ble_eq_true rfl) zd_LassoSearch_canEnd_53)
  · have hok := hok.2 hc2
    refine lv_iload_n hx hb zd_LassoSearch_canEnd_15 rfl (lv_at hl 2 rfl) ?_
    refine lv_iload hx hb zd_LassoSearch_canEnd_16 (lv_at hl 4 rfl) ?_
    refine lv_ior hx hb zd_LassoSearch_canEnd_18 ?_
    refine lv_topi (fun z3 ez3 => ?_)
    have hok := hok z3 ez3
    refine lv_aload_n hx hb zd_LassoSearch_canEnd_19 rfl (lv_at hl 0 rfl) ?_
    refine z_get (v := .ref (ad 11)) hx hb hts hown hK hw zZ3 0 wS_g0 1 (by decide) zn_819 rfl zd_LassoSearch_canEnd_20 ?_
    refine z_get (v := .int (I 30)) hx hb hts hown hK hw zZ11 23 wS_g23 7 (by decide) zn_820 rfl zd_LassoSearch_canEnd_23 ?_
    refine lv_iconst (v := 1) hx hb zd_LassoSearch_canEnd_26 (by decide) ?_
    refine lv_isub hx hb zd_LassoSearch_canEnd_27 ?_
    refine lv_topi (fun z4 ez4 => ?_)
    have hok := hok z4 ez4
    refine lv_icmp_ne (tgt := 46) hx hb zd_LassoSearch_canEnd_28 (by decide) (fun hc5 => ?_) (fun hc5 => ?_)
    · have hok := hok.1 hc5
      exact wJ_LassoSearch_canEnd_46 G K ad a0 a1 a2 Post C K3 kh3 x1 x2 x3 x4 I J B D ls H locs hok (lv_sub hl [0, 1, 2, 3, 4] rfl) hw
    · have hok := hok.2 hc5
      refine lv_aload_n hx hb zd_LassoSearch_canEnd_31 rfl (lv_at hl 0 rfl) ?_
      refine z_get (v := .ref (ad 72)) hx hb hts hown hK hw zZ3 0 wS_g0 11 (by decide) zn_809 rfl zd_LassoSearch_canEnd_32 ?_
      refine lv_iload_n hx hb zd_LassoSearch_canEnd_35 rfl (lv_at hl 1 rfl) ?_
      refine lv_iload hx hb zd_LassoSearch_canEnd_36 (lv_at hl 4 rfl) ?_
      refine lv_iadd hx hb zd_LassoSearch_canEnd_38 ?_
      refine lv_topi (fun z6 ez6 => ?_)
      have hok := hok z6 ez6
      refine va_iald (f := (B 56)) hx hb hK hw.1 7 0 wS_a7 rfl hok.1 zd_LassoSearch_canEnd_39 ?_
      have hok := hok.2
      refine lv_topi (fun z7 ez7 => ?_)
      have hok := hok z7 ez7
      refine lv_iload_n hx hb zd_LassoSearch_canEnd_40 rfl (lv_at hl 3 rfl) ?_
      refine lv_icmp_ne (tgt := 46) hx hb zd_LassoSearch_canEnd_41 (by decide) (fun hc8 => ?_) (fun hc8 => ?_)
      · have hok := hok.1 hc8
        exact wJ_LassoSearch_canEnd_46 G K ad a0 a1 a2 Post C K3 kh3 x1 x2 x3 x4 I J B D ls H locs hok (lv_sub hl [0, 1, 2, 3, 4] rfl) hw
      · have hok := hok.2 hc8
        refine lv_iconst (v := 1) hx hb zd_LassoSearch_canEnd_44 (by decide) ?_
        exact (z_iret (u := (I, J, B, D)) hx hb hr hlocks rfl hw (List.range 77) wS_all wS_nd hok (Nat.le_of_ble_eq_true rfl) (Nat.le_of_ble_eq_true rfl) zd_LassoSearch_canEnd_45)
theorem wL_LassoSearch_canEnd_3 {p : Program} {l : Launch} {e : Env} {s : State} {m : MethodId} {below : List Frame} {meth : Method} {c : Code} {A : Nat → Prop} (G : va_G) (K : Nat → ClassId) (ad : Nat → Nat) (a0 : Int32) (a1 : Int32) (a2 : Int32) (Post : Int32 → (Nat → Int32) → (Nat → Int64) → (Nat → Nat → Int32) → (Nat → Nat → Int64) → Prop) (C : zCx p s m ([.ref (ad 65), .int a0, .int a1, .int a2] : List Value).toArray meth c A G K prog_4_method_21_code (some .boolean) 5 "LassoFinder$LassoSearch") : ∀ (n : Nat) (x1 : Int32) (x2 : Int32) (x3 : Int32) (x4 : Int32) (I : Nat → Int32) (J : Nat → Int64) (B : Nat → Nat → Int32) (D : Nat → Nat → Int64) (ls : Array Slot) (H : Heap) (locs : List Loc), wl_LassoSearch_canEnd_3 a0 a1 a2 Post n x1 x2 x3 x4 I J B D → lv_has ls 5 [(0, .ref (ad 65)), (1, .int x1), (2, .int x2), (3, .int x3), (4, .int x4)] → zW G A s.heap (wS ad K I J B D) H locs → W p l e { frames := 0, cells := 0, slots := 0, locals := 0 } s m ([.ref (ad 65), .int a0, .int a1, .int a2] : List Value).toArray below meth c H locs 0 0 (MQ below (va_Qi (fun (r : Int32) (u : zS) => Post r u.1 u.2.1 u.2.2.1 u.2.2.2) (fun u t => zPost G K A (wS ad K u.1 u.2.1 u.2.2.1 u.2.2.2) t) A) ([.ref (ad 65), .int a0, .int a1, .int a2] : List Value).toArray s 0 0 A) (F0 m 3 ls []) := by
  intro n
  induction n with
  | zero => intro x1 x2 x3 x4 I J B D ls H locs hok; exact hok.elim
  | succ n ih => exact wB_LassoSearch_canEnd_3 G K ad a0 a1 a2 Post C (wl_LassoSearch_canEnd_3 a0 a1 a2 Post n) ih
set_option maxHeartbeats 8000000 in
set_option maxRecDepth 100000 in
theorem w_LassoSearch_canEnd (l : Launch) (G : va_G) (K : Nat → ClassId) (ad : Nat → Nat) (I : Nat → Int32) (J : Nat → Int64) (B : Nat → Nat → Int32) (D : Nat → Nat → Int64) (a0 : Int32) (a1 : Int32) (a2 : Int32) (Post : Int32 → (Nat → Int32) → (Nat → Int64) → (Nat → Nat → Int32) → (Nat → Nat → Int64) → Prop) (sz : Nat) (hok : wp_LassoSearch_canEnd I J B D a0 a1 a2 Post) : Met l zy_LassoSearch_canEnd (Cond.code zy_LassoSearch_canEnd prog_4_method_21_code 5 (some .boolean) :: zTB) { frames := 0, cells := 0, slots := 0, locals := 0 } (va_Pc [.ref (ad 65), .int a0, .int a1, .int a2] (zPre G K (wS ad K I J B D) sz)) (va_Qi (fun (r : Int32) (u : zS) => Post r u.1 u.2.1 u.2.2.1 u.2.2.2) (fun u t => zPost G K (va_A (wS ad K I J B D) sz) (wS ad K u.1 u.2.1 u.2.2.1 u.2.2.2) t) (va_A (wS ad K I J B D) sz)) 0 0 (va_A (wS ad K I J B D) sz) := by
  refine zMet (y := zy_LassoSearch_canEnd) (av := [.ref (ad 65), .int a0, .int a1, .int a2]) (maxL := 5) (cc := prog_4_method_21_code) (ret := (some .boolean)) (W0 := (wS ad K I J B D)) (sz := sz) (G := G) (K := K) (wt := zTB) (mc := 0) (ms := 0) (Qf := fun A => va_Qi (fun (r : Int32) (u : zS) => Post r u.1 u.2.1 u.2.2.1 u.2.2.2) (fun u t => zPost G K A (wS ad K u.1 u.2.1 u.2.2.1 u.2.2.2) t) A) (by decide) (Nat.le_of_ble_eq_true rfl) ?_
  intro p e s m below meth c ls A hx hb hr hml hts hown hlocks hin hA hK H locs hw hsz hl
  clear hsz
  have hown : s.vm.findClass "LassoFinder$LassoSearch" = some m.cls := hown
  have C : zCx p s m ([.ref (ad 65), .int a0, .int a1, .int a2] : List Value).toArray meth c A G K prog_4_method_21_code (some .boolean) 5 "LassoFinder$LassoSearch" := ⟨hx, hb, hr, hml, hts, hown, hlocks, hA, hK⟩
  have hl : lv_has ls 5 [(0, .ref (ad 65)), (1, .int a0), (2, .int a1), (3, .int a2)] := hl
  have hw : zW G A s.heap (wS ad K I J B D) H locs := hw
  unfold wp_LassoSearch_canEnd at hok
  refine lv_iconst (v := 0) hx hb zd_LassoSearch_canEnd_0 (by decide) ?_
  refine lv_istore hx hb zd_LassoSearch_canEnd_1 hl (by decide) rfl (fun ls hl => ?_)
  have hl : lv_has ls 5 [(4, .int 0), (0, .ref (ad 65)), (1, .int a0), (2, .int a1), (3, .int a2)] := hl
  obtain ⟨n9, hok⟩ := hok
  exact wL_LassoSearch_canEnd_3 G K ad a0 a1 a2 Post C n9 a0 a1 a2 0 I J B D ls H locs hok (lv_sub hl [1, 2, 3, 4, 0] rfl) hw
def wc_LassoSearch_allowedRound_133 (a0 : Int64) (a1 : Int32) (a2 : Int32) (K6 : Int64 → Int32 → Int32 → Int64 → Int32 → (Nat → Int32) → (Nat → Int64) → (Nat → Nat → Int32) → (Nat → Nat → Int64) → Prop) (K58 : Int64 → Int32 → Int32 → Int64 → Int32 → Int32 → Int32 → Int32 → (Nat → Int32) → (Nat → Int64) → (Nat → Nat → Int32) → (Nat → Nat → Int64) → Prop) (Post : Int64 → (Nat → Int32) → (Nat → Int64) → (Nat → Nat → Int32) → (Nat → Nat → Int64) → Prop) (x1 : Int64) (x3 : Int32) (x4 : Int32) (x5 : Int64) (x7 : Int32) (x8 : Int32) (x9 : Int32) (x10 : Int32) (I : Nat → Int32) (J : Nat → Int64) (B : Nat → Nat → Int32) (D : Nat → Nat → Int64) : Prop :=
  ∀ z1 : Int32, z1 = (x10 + 1) → K58 x1 x3 x4 x5 x7 x8 x9 z1 I J B D
def wb_LassoSearch_allowedRound_58 (a0 : Int64) (a1 : Int32) (a2 : Int32) (K58 : Int64 → Int32 → Int32 → Int64 → Int32 → Int32 → Int32 → Int32 → (Nat → Int32) → (Nat → Int64) → (Nat → Nat → Int32) → (Nat → Nat → Int64) → Prop) (K6 : Int64 → Int32 → Int32 → Int64 → Int32 → (Nat → Int32) → (Nat → Int64) → (Nat → Nat → Int32) → (Nat → Nat → Int64) → Prop) (Post : Int64 → (Nat → Int32) → (Nat → Int64) → (Nat → Nat → Int32) → (Nat → Nat → Int64) → Prop) (x1 : Int64) (x3 : Int32) (x4 : Int32) (x5 : Int64) (x7 : Int32) (x8 : Int32) (x9 : Int32) (x10 : Int32) (I : Nat → Int32) (J : Nat → Int64) (B : Nat → Nat → Int32) (D : Nat → Nat → Int64) : Prop :=
  (((I 30) ≤ x10 → ∀ z3 : Int32, z3 = (x7 + 1) → K6 x1 x3 x4 x5 z3 I J B D) ∧ (¬ (I 30) ≤ x10 → vp_in x8 768 ∧ ∀ z4 : Int32, z4 = ((B 48) x8.toNatClampNeg) → ∀ z5 : Int32, z5 = (x10 ||| z4) → ∀ z6 : Int32, z6 = (x8 - x8 / 8 * 8) → ∀ z7 : Int32, z7 = (z6 * 8) → ∀ z8 : Int32, z8 = (z7 + x10) → ∀ z9 : Int64, z9 = (x1.toUInt64 >>> (z8.toInt64.toUInt64 &&& Int64.toUInt64 63)).toInt64 → ∀ z10 : Int64, z10 = (z9 &&& 1) → ∀ z11 : Int32, z11 = (lg_cmp z10 0) → ((z11 = 0 → wc_LassoSearch_allowedRound_133 a0 a1 a2 K6 K58 Post x1 x3 x4 x5 x7 x8 x9 x10 I J B D) ∧ (¬ z11 = 0 → wp_LassoSearch_canEnd I J B D x9 z5 x4 (fun r13 I13 J13 B13 D13 => ((r13 = 0 → wc_LassoSearch_allowedRound_133 a0 a1 a2 K6 K58 Post x1 x3 x4 x5 x7 x8 x9 x10 I13 J13 B13 D13) ∧ (¬ r13 = 0 → ∀ z15 : Int32, z15 = (x7 * 8) → ∀ z16 : Int32, z16 = (z15 + z5) → ∀ z17 : Int64, z17 = ((1 : Int64) <<< (z16.toInt64 &&& 63)) → ∀ z18 : Int64, z18 = (x5 ||| z17) → wc_LassoSearch_allowedRound_133 a0 a1 a2 K6 K58 Post x1 x3 x4 z18 x7 x8 x9 x10 I13 J13 B13 D13)))))))
def wl_LassoSearch_allowedRound_58 (a0 : Int64) (a1 : Int32) (a2 : Int32) (K6 : Int64 → Int32 → Int32 → Int64 → Int32 → (Nat → Int32) → (Nat → Int64) → (Nat → Nat → Int32) → (Nat → Nat → Int64) → Prop) (Post : Int64 → (Nat → Int32) → (Nat → Int64) → (Nat → Nat → Int32) → (Nat → Nat → Int64) → Prop) (n : Nat) : Int64 → Int32 → Int32 → Int64 → Int32 → Int32 → Int32 → Int32 → (Nat → Int32) → (Nat → Int64) → (Nat → Nat → Int32) → (Nat → Nat → Int64) → Prop := Nat.rec (fun _ _ _ _ _ _ _ _ _ _ _ _ => False) (fun _ r => wb_LassoSearch_allowedRound_58 a0 a1 a2 r K6 Post) n
def wb_LassoSearch_allowedRound_6 (a0 : Int64) (a1 : Int32) (a2 : Int32) (K6 : Int64 → Int32 → Int32 → Int64 → Int32 → (Nat → Int32) → (Nat → Int64) → (Nat → Nat → Int32) → (Nat → Nat → Int64) → Prop) (Post : Int64 → (Nat → Int32) → (Nat → Int64) → (Nat → Nat → Int32) → (Nat → Nat → Int64) → Prop) (x1 : Int64) (x3 : Int32) (x4 : Int32) (x5 : Int64) (x7 : Int32) (I : Nat → Int32) (J : Nat → Int64) (B : Nat → Nat → Int32) (D : Nat → Nat → Int64) : Prop :=
  (((I 30) ≤ x7 → Post x5 I J B D) ∧ (¬ (I 30) ≤ x7 → vp_in x3 400 ∧ ∀ z20 : Int32, z20 = ((B 33) x3.toNatClampNeg) → wp_LassoSearch_spotBefore I J B D z20 x7 (fun r21 I21 J21 B21 D21 => vp_in x3 400 ∧ ∀ z22 : Int32, z22 = ((B21 34) x3.toNatClampNeg) → ∀ z23 : Int32, z23 = (z22 * 8) → ∀ z24 : Int32, z24 = (z23 + x7) → ∀ z25 : Int32, z25 = (z24 * 8) → ∃ n : Nat, wl_LassoSearch_allowedRound_58 a0 a1 a2 K6 Post n x1 x3 x4 x5 x7 r21 z25 0 I21 J21 B21 D21)))
def wl_LassoSearch_allowedRound_6 (a0 : Int64) (a1 : Int32) (a2 : Int32) (Post : Int64 → (Nat → Int32) → (Nat → Int64) → (Nat → Nat → Int32) → (Nat → Nat → Int64) → Prop) (n : Nat) : Int64 → Int32 → Int32 → Int64 → Int32 → (Nat → Int32) → (Nat → Int64) → (Nat → Nat → Int32) → (Nat → Nat → Int64) → Prop := Nat.rec (fun _ _ _ _ _ _ _ _ _ => False) (fun _ r => wb_LassoSearch_allowedRound_6 a0 a1 a2 r Post) n
def wp_LassoSearch_allowedRound (I : Nat → Int32) (J : Nat → Int64) (B : Nat → Nat → Int32) (D : Nat → Nat → Int64) (a0 : Int64) (a1 : Int32) (a2 : Int32) (Post : Int64 → (Nat → Int32) → (Nat → Int64) → (Nat → Nat → Int32) → (Nat → Nat → Int64) → Prop) : Prop :=
  ∃ n : Nat, wl_LassoSearch_allowedRound_6 a0 a1 a2 Post n a0 a1 a2 0 0 I J B D
set_option maxHeartbeats 8000000 in
set_option maxRecDepth 100000 in
theorem wJ_LassoSearch_allowedRound_133 {p : Program} {l : Launch} {e : Env} {s : State} {m : MethodId} {below : List Frame} {meth : Method} {c : Code} {A : Nat → Prop} (G : va_G) (K : Nat → ClassId) (ad : Nat → Nat) (a0 : Int64) (a1 : Int32) (a2 : Int32) (Post : Int64 → (Nat → Int32) → (Nat → Int64) → (Nat → Nat → Int32) → (Nat → Nat → Int64) → Prop) (C : zCx p s m ([.ref (ad 65), .long a0, .int a1, .int a2] : List Value).toArray meth c A G K prog_4_method_20_code (some .long) 12 "LassoFinder$LassoSearch") (K6 : Int64 → Int32 → Int32 → Int64 → Int32 → (Nat → Int32) → (Nat → Int64) → (Nat → Nat → Int32) → (Nat → Nat → Int64) → Prop) (kh6 : ∀ (x1 : Int64) (x3 : Int32) (x4 : Int32) (x5 : Int64) (x7 : Int32) (I : Nat → Int32) (J : Nat → Int64) (B : Nat → Nat → Int32) (D : Nat → Nat → Int64) (ls : Array Slot) (H : Heap) (locs : List Loc), K6 x1 x3 x4 x5 x7 I J B D → lv_has ls 12 [(0, .ref (ad 65)), (1, .long x1), (3, .int x3), (4, .int x4), (5, .long x5), (7, .int x7)] → zW G A s.heap (wS ad K I J B D) H locs → W p l e { frames := 1, cells := 0, slots := 0, locals := 24 } s m ([.ref (ad 65), .long a0, .int a1, .int a2] : List Value).toArray below meth c H locs 0 0 (MQ below (va_Ql (fun (r : Int64) (u : zS) => Post r u.1 u.2.1 u.2.2.1 u.2.2.2) (fun u t => zPost G K A (wS ad K u.1 u.2.1 u.2.2.1 u.2.2.2) t) A) ([.ref (ad 65), .long a0, .int a1, .int a2] : List Value).toArray s 0 0 A) (F0 m 6 ls [])) (K58 : Int64 → Int32 → Int32 → Int64 → Int32 → Int32 → Int32 → Int32 → (Nat → Int32) → (Nat → Int64) → (Nat → Nat → Int32) → (Nat → Nat → Int64) → Prop) (kh58 : ∀ (x1 : Int64) (x3 : Int32) (x4 : Int32) (x5 : Int64) (x7 : Int32) (x8 : Int32) (x9 : Int32) (x10 : Int32) (I : Nat → Int32) (J : Nat → Int64) (B : Nat → Nat → Int32) (D : Nat → Nat → Int64) (ls : Array Slot) (H : Heap) (locs : List Loc), K58 x1 x3 x4 x5 x7 x8 x9 x10 I J B D → lv_has ls 12 [(0, .ref (ad 65)), (1, .long x1), (3, .int x3), (4, .int x4), (5, .long x5), (7, .int x7), (8, .int x8), (9, .int x9), (10, .int x10)] → zW G A s.heap (wS ad K I J B D) H locs → W p l e { frames := 1, cells := 0, slots := 0, locals := 24 } s m ([.ref (ad 65), .long a0, .int a1, .int a2] : List Value).toArray below meth c H locs 0 0 (MQ below (va_Ql (fun (r : Int64) (u : zS) => Post r u.1 u.2.1 u.2.2.1 u.2.2.2) (fun u t => zPost G K A (wS ad K u.1 u.2.1 u.2.2.1 u.2.2.2) t) A) ([.ref (ad 65), .long a0, .int a1, .int a2] : List Value).toArray s 0 0 A) (F0 m 58 ls [])) : ∀ (x1 : Int64) (x3 : Int32) (x4 : Int32) (x5 : Int64) (x7 : Int32) (x8 : Int32) (x9 : Int32) (x10 : Int32) (I : Nat → Int32) (J : Nat → Int64) (B : Nat → Nat → Int32) (D : Nat → Nat → Int64) (ls : Array Slot) (H : Heap) (locs : List Loc), wc_LassoSearch_allowedRound_133 a0 a1 a2 K6 K58 Post x1 x3 x4 x5 x7 x8 x9 x10 I J B D → lv_has ls 12 [(0, .ref (ad 65)), (1, .long x1), (3, .int x3), (4, .int x4), (5, .long x5), (7, .int x7), (8, .int x8), (9, .int x9), (10, .int x10)] → zW G A s.heap (wS ad K I J B D) H locs → W p l e { frames := 1, cells := 0, slots := 0, locals := 24 } s m ([.ref (ad 65), .long a0, .int a1, .int a2] : List Value).toArray below meth c H locs 0 0 (MQ below (va_Ql (fun (r : Int64) (u : zS) => Post r u.1 u.2.1 u.2.2.1 u.2.2.2) (fun u t => zPost G K A (wS ad K u.1 u.2.1 u.2.2.1 u.2.2.2) t) A) ([.ref (ad 65), .long a0, .int a1, .int a2] : List Value).toArray s 0 0 A) (F0 m 133 ls []) := by
  obtain ⟨hx, hb, hr, hml, hts, hown, hlocks, hA, hK⟩ := id C
  intro x1 x3 x4 x5 x7 x8 x9 x10 I J B D ls H locs hok hl hw
  unfold wc_LassoSearch_allowedRound_133 at hok
  obtain ⟨z1, ez1⟩ : ∃ z : Int32, z = (x10 + 1) := ⟨_, rfl⟩
  have hok := hok z1 ez1
  refine lv_iinc (v := z1) hx hb zd_LassoSearch_allowedRound_133 hl (k := 8) rfl ez1.symm (by decide) rfl (fun ls hl => ?_)
  have hl : lv_has ls 12 [(10, .int z1), (0, .ref (ad 65)), (1, .long x1), (3, .int x3), (4, .int x4), (5, .long x5), (7, .int x7), (8, .int x8), (9, .int x9)] := hl
  refine lv_goto (tgt := 58) hx hb zd_LassoSearch_allowedRound_136 (by decide) ?_
  exact kh58 x1 x3 x4 x5 x7 x8 x9 z1 I J B D ls H locs hok (lv_sub hl [1, 2, 3, 4, 5, 6, 7, 8, 0] rfl) hw
set_option maxHeartbeats 8000000 in
set_option maxRecDepth 100000 in
theorem wB_LassoSearch_allowedRound_58 {p : Program} {l : Launch} {e : Env} {s : State} {m : MethodId} {below : List Frame} {meth : Method} {c : Code} {A : Nat → Prop} (G : va_G) (K : Nat → ClassId) (ad : Nat → Nat) (a0 : Int64) (a1 : Int32) (a2 : Int32) (Post : Int64 → (Nat → Int32) → (Nat → Int64) → (Nat → Nat → Int32) → (Nat → Nat → Int64) → Prop) (C : zCx p s m ([.ref (ad 65), .long a0, .int a1, .int a2] : List Value).toArray meth c A G K prog_4_method_20_code (some .long) 12 "LassoFinder$LassoSearch") (K6 : Int64 → Int32 → Int32 → Int64 → Int32 → (Nat → Int32) → (Nat → Int64) → (Nat → Nat → Int32) → (Nat → Nat → Int64) → Prop) (kh6 : ∀ (x1 : Int64) (x3 : Int32) (x4 : Int32) (x5 : Int64) (x7 : Int32) (I : Nat → Int32) (J : Nat → Int64) (B : Nat → Nat → Int32) (D : Nat → Nat → Int64) (ls : Array Slot) (H : Heap) (locs : List Loc), K6 x1 x3 x4 x5 x7 I J B D → lv_has ls 12 [(0, .ref (ad 65)), (1, .long x1), (3, .int x3), (4, .int x4), (5, .long x5), (7, .int x7)] → zW G A s.heap (wS ad K I J B D) H locs → W p l e { frames := 1, cells := 0, slots := 0, locals := 24 } s m ([.ref (ad 65), .long a0, .int a1, .int a2] : List Value).toArray below meth c H locs 0 0 (MQ below (va_Ql (fun (r : Int64) (u : zS) => Post r u.1 u.2.1 u.2.2.1 u.2.2.2) (fun u t => zPost G K A (wS ad K u.1 u.2.1 u.2.2.1 u.2.2.2) t) A) ([.ref (ad 65), .long a0, .int a1, .int a2] : List Value).toArray s 0 0 A) (F0 m 6 ls [])) (K58 : Int64 → Int32 → Int32 → Int64 → Int32 → Int32 → Int32 → Int32 → (Nat → Int32) → (Nat → Int64) → (Nat → Nat → Int32) → (Nat → Nat → Int64) → Prop) (kh58 : ∀ (x1 : Int64) (x3 : Int32) (x4 : Int32) (x5 : Int64) (x7 : Int32) (x8 : Int32) (x9 : Int32) (x10 : Int32) (I : Nat → Int32) (J : Nat → Int64) (B : Nat → Nat → Int32) (D : Nat → Nat → Int64) (ls : Array Slot) (H : Heap) (locs : List Loc), K58 x1 x3 x4 x5 x7 x8 x9 x10 I J B D → lv_has ls 12 [(0, .ref (ad 65)), (1, .long x1), (3, .int x3), (4, .int x4), (5, .long x5), (7, .int x7), (8, .int x8), (9, .int x9), (10, .int x10)] → zW G A s.heap (wS ad K I J B D) H locs → W p l e { frames := 1, cells := 0, slots := 0, locals := 24 } s m ([.ref (ad 65), .long a0, .int a1, .int a2] : List Value).toArray below meth c H locs 0 0 (MQ below (va_Ql (fun (r : Int64) (u : zS) => Post r u.1 u.2.1 u.2.2.1 u.2.2.2) (fun u t => zPost G K A (wS ad K u.1 u.2.1 u.2.2.1 u.2.2.2) t) A) ([.ref (ad 65), .long a0, .int a1, .int a2] : List Value).toArray s 0 0 A) (F0 m 58 ls [])) : ∀ (x1 : Int64) (x3 : Int32) (x4 : Int32) (x5 : Int64) (x7 : Int32) (x8 : Int32) (x9 : Int32) (x10 : Int32) (I : Nat → Int32) (J : Nat → Int64) (B : Nat → Nat → Int32) (D : Nat → Nat → Int64) (ls : Array Slot) (H : Heap) (locs : List Loc), wb_LassoSearch_allowedRound_58 a0 a1 a2 K58 K6 Post x1 x3 x4 x5 x7 x8 x9 x10 I J B D → lv_has ls 12 [(0, .ref (ad 65)), (1, .long x1), (3, .int x3), (4, .int x4), (5, .long x5), (7, .int x7), (8, .int x8), (9, .int x9), (10, .int x10)] → zW G A s.heap (wS ad K I J B D) H locs → W p l e { frames := 1, cells := 0, slots := 0, locals := 24 } s m ([.ref (ad 65), .long a0, .int a1, .int a2] : List Value).toArray below meth c H locs 0 0 (MQ below (va_Ql (fun (r : Int64) (u : zS) => Post r u.1 u.2.1 u.2.2.1 u.2.2.2) (fun u t => zPost G K A (wS ad K u.1 u.2.1 u.2.2.1 u.2.2.2) t) A) ([.ref (ad 65), .long a0, .int a1, .int a2] : List Value).toArray s 0 0 A) (F0 m 58 ls []) := by
  obtain ⟨hx, hb, hr, hml, hts, hown, hlocks, hA, hK⟩ := id C
  intro x1 x3 x4 x5 x7 x8 x9 x10 I J B D ls H locs hok hl hw
  unfold wb_LassoSearch_allowedRound_58 at hok
  refine lv_iload hx hb zd_LassoSearch_allowedRound_58 (lv_at hl 8 rfl) ?_
  refine lv_aload_n hx hb zd_LassoSearch_allowedRound_60 rfl (lv_at hl 0 rfl) ?_
  refine z_get (v := .ref (ad 11)) hx hb hts hown hK hw zZ3 0 wS_g0 1 (by decide) zn_819 rfl zd_LassoSearch_allowedRound_61 ?_
  refine z_get (v := .int (I 30)) hx hb hts hown hK hw zZ11 23 wS_g23 7 (by decide) zn_820 rfl zd_LassoSearch_allowedRound_64 ?_
  refine lv_icmp_ge (tgt := 139) hx hb zd_LassoSearch_allowedRound_67 (by decide) (fun hc2 => ?_) (fun hc2 => ?_)
  · have hok := hok.1 hc2
    obtain ⟨z3, ez3⟩ : ∃ z : Int32, z = (x7 + 1) := ⟨_, rfl⟩
    have hok := hok z3 ez3
    refine lv_iinc (v := z3) hx hb zd_LassoSearch_allowedRound_139 hl (k := 5) rfl ez3.symm (by decide) rfl (fun ls hl => ?_)
    have hl : lv_has ls 12 [(7, .int z3), (0, .ref (ad 65)), (1, .long x1), (3, .int x3), (4, .int x4), (5, .long x5), (8, .int x8), (9, .int x9), (10, .int x10)] := hl
    refine lv_goto (tgt := 6) hx hb zd_LassoSearch_allowedRound_142 (by decide) ?_
    exact kh6 x1 x3 x4 x5 z3 I J B D ls H locs hok (lv_sub hl [1, 2, 3, 4, 5, 0] rfl) hw
  · have hok := hok.2 hc2
    refine lv_iload hx hb zd_LassoSearch_allowedRound_70 (lv_at hl 8 rfl) ?_
    refine lv_aload_n hx hb zd_LassoSearch_allowedRound_72 rfl (lv_at hl 0 rfl) ?_
    refine z_get (v := .ref (ad 11)) hx hb hts hown hK hw zZ3 0 wS_g0 1 (by decide) zn_819 rfl zd_LassoSearch_allowedRound_73 ?_
    refine z_get (v := .ref (ad 63)) hx hb hts hown hK hw zZ11 23 wS_g23 5 (by decide) zn_828 rfl zd_LassoSearch_allowedRound_76 ?_
    refine lv_iload hx hb zd_LassoSearch_allowedRound_79 (lv_at hl 6 rfl) ?_
    refine va_iald (f := (B 48)) hx hb hK hw.1 75 0 wS_a75 rfl hok.1 zd_LassoSearch_allowedRound_81 ?_
    have hok := hok.2
    refine lv_topi (fun z4 ez4 => ?_)
    have hok := hok z4 ez4
    refine lv_ior hx hb zd_LassoSearch_allowedRound_82 ?_
    refine lv_topi (fun z5 ez5 => ?_)
    have hok := hok z5 ez5
    refine lv_istore hx hb zd_LassoSearch_allowedRound_83 hl (by decide) rfl (fun ls hl => ?_)
    have hl : lv_has ls 12 [(11, .int z5), (0, .ref (ad 65)), (1, .long x1), (3, .int x3), (4, .int x4), (5, .long x5), (7, .int x7), (8, .int x8), (9, .int x9), (10, .int x10)] := hl
    refine lv_lload_n hx hb zd_LassoSearch_allowedRound_85 rfl (lv_at hl 2 rfl) ?_
    refine lv_iload hx hb zd_LassoSearch_allowedRound_86 (lv_at hl 7 rfl) ?_
    refine lv_bipush (v := 8) hx hb zd_LassoSearch_allowedRound_88 (by decide) ?_
    refine lv_irem hx hb zd_LassoSearch_allowedRound_90 (by decide) ?_
    refine lv_topi (fun z6 ez6 => ?_)
    have hok := hok z6 ez6
    refine lv_bipush (v := 8) hx hb zd_LassoSearch_allowedRound_91 (by decide) ?_
    refine lv_imul hx hb zd_LassoSearch_allowedRound_93 ?_
    refine lv_topi (fun z7 ez7 => ?_)
    have hok := hok z7 ez7
    refine lv_iload hx hb zd_LassoSearch_allowedRound_94 (lv_at hl 9 rfl) ?_
    refine lv_iadd hx hb zd_LassoSearch_allowedRound_96 ?_
    refine lv_topi (fun z8 ez8 => ?_)
    have hok := hok z8 ez8
    refine lv_lushr hx hb zd_LassoSearch_allowedRound_97 rfl ?_
    refine lv_topl (fun z9 ez9 => ?_)
    have hok := hok z9 ez9
    refine lv_lconst (v := 1) hx hb zd_LassoSearch_allowedRound_98 (by decide) ?_
    refine lv_land hx hb zd_LassoSearch_allowedRound_99 ?_
    refine lv_topl (fun z10 ez10 => ?_)
    have hok := hok z10 ez10
    refine lv_lconst (v := 0) hx hb zd_LassoSearch_allowedRound_100 (by decide) ?_
    refine W.lcmp hx hb zd_LassoSearch_allowedRound_101 ?_
    refine lv_topi (fun z11 ez11 => ?_)
    have hok := hok z11 ez11
    refine lv_if_eq (tgt := 133) hx hb zd_LassoSearch_allowedRound_102 (by decide) (fun hc12 => ?_) (fun hc12 => ?_)
    · have hok := hok.1 hc12
      exact wJ_LassoSearch_allowedRound_133 G K ad a0 a1 a2 Post C K6 kh6 K58 kh58 x1 x3 x4 x5 x7 x8 x9 x10 I J B D ls H locs hok (lv_sub hl [1, 2, 3, 4, 5, 6, 7, 8, 9] rfl) hw
    · have hok := hok.2 hc12
      refine lv_aload_n hx hb zd_LassoSearch_allowedRound_105 rfl (lv_at hl 1 rfl) ?_
      refine lv_iload hx hb zd_LassoSearch_allowedRound_106 (lv_at hl 8 rfl) ?_
      refine lv_iload hx hb zd_LassoSearch_allowedRound_108 (lv_at hl 0 rfl) ?_
      refine lv_iload hx hb zd_LassoSearch_allowedRound_110 (lv_at hl 4 rfl) ?_
      refine z_calli (w1 := fun (u : zS) => wS ad K u.1 u.2.1 u.2.2.1 u.2.2.2) (wr := []) (z_runV (q0 := 0) (wc := (wS ad K I J B D)) (As := [.int x9, .int z5, .int x4]) (rest := []) ⟨hx, hb, hml, hown, hts⟩ (w_LassoSearch_canEnd l G K ad I J B D x9 z5 x4 _ H.size hok) zf_LassoSearch_canEnd zn_563 ⟨Nat.le_of_ble_eq_true rfl, Nat.le_of_ble_eq_true rfl⟩ hK hw (List.range 77) wS_all wS_nd wS_g0 rfl rfl hl.1 rfl (Nat.le_of_ble_eq_true rfl) zd_LassoSearch_allowedRound_112 ⟨Nat.le_of_ble_eq_true rfl, Nat.le_of_ble_eq_true rfl⟩) hw hA (List.range 77) [] wS_all rfl (by decide) (fun i hi => by cases hi) (fun r13 u H locs hok hw => ?_)
      obtain ⟨I13, J13, B13, D13⟩ := u
      dsimp only at hok
      have hw : zW G A s.heap (wS ad K I13 J13 B13 D13) H locs := hw
      refine lv_if_eq (tgt := 133) hx hb zd_LassoSearch_allowedRound_115 (by decide) (fun hc14 => ?_) (fun hc14 => ?_)
      · have hok := hok.1 hc14
        exact wJ_LassoSearch_allowedRound_133 G K ad a0 a1 a2 Post C K6 kh6 K58 kh58 x1 x3 x4 x5 x7 x8 x9 x10 I13 J13 B13 D13 ls H locs hok (lv_sub hl [1, 2, 3, 4, 5, 6, 7, 8, 9] rfl) hw
      · have hok := hok.2 hc14
        refine lv_lload hx hb zd_LassoSearch_allowedRound_118 (lv_at hl 5 rfl) ?_
        refine lv_lconst (v := 1) hx hb zd_LassoSearch_allowedRound_120 (by decide) ?_
        refine lv_iload hx hb zd_LassoSearch_allowedRound_121 (lv_at hl 6 rfl) ?_
        refine lv_bipush (v := 8) hx hb zd_LassoSearch_allowedRound_123 (by decide) ?_
        refine lv_imul hx hb zd_LassoSearch_allowedRound_125 ?_
        refine lv_topi (fun z15 ez15 => ?_)
        have hok := hok z15 ez15
        refine lv_iload hx hb zd_LassoSearch_allowedRound_126 (lv_at hl 0 rfl) ?_
        refine lv_iadd hx hb zd_LassoSearch_allowedRound_128 ?_
        refine lv_topi (fun z16 ez16 => ?_)
        have hok := hok z16 ez16
        refine lv_lshl hx hb zd_LassoSearch_allowedRound_129 rfl ?_
        refine lv_topl (fun z17 ez17 => ?_)
        have hok := hok z17 ez17
        refine lv_lor hx hb zd_LassoSearch_allowedRound_130 ?_
        refine lv_topl (fun z18 ez18 => ?_)
        have hok := hok z18 ez18
        refine lv_lstore hx hb zd_LassoSearch_allowedRound_131 hl (by decide) rfl (fun ls hl => ?_)
        have hl : lv_has ls 12 [(5, .long z18), (11, .int z5), (0, .ref (ad 65)), (1, .long x1), (3, .int x3), (4, .int x4), (7, .int x7), (8, .int x8), (9, .int x9), (10, .int x10)] := hl
        exact wJ_LassoSearch_allowedRound_133 G K ad a0 a1 a2 Post C K6 kh6 K58 kh58 x1 x3 x4 z18 x7 x8 x9 x10 I13 J13 B13 D13 ls H locs hok (lv_sub hl [2, 3, 4, 5, 0, 6, 7, 8, 9] rfl) hw
theorem wL_LassoSearch_allowedRound_58 {p : Program} {l : Launch} {e : Env} {s : State} {m : MethodId} {below : List Frame} {meth : Method} {c : Code} {A : Nat → Prop} (G : va_G) (K : Nat → ClassId) (ad : Nat → Nat) (a0 : Int64) (a1 : Int32) (a2 : Int32) (Post : Int64 → (Nat → Int32) → (Nat → Int64) → (Nat → Nat → Int32) → (Nat → Nat → Int64) → Prop) (C : zCx p s m ([.ref (ad 65), .long a0, .int a1, .int a2] : List Value).toArray meth c A G K prog_4_method_20_code (some .long) 12 "LassoFinder$LassoSearch") (K6 : Int64 → Int32 → Int32 → Int64 → Int32 → (Nat → Int32) → (Nat → Int64) → (Nat → Nat → Int32) → (Nat → Nat → Int64) → Prop) (kh6 : ∀ (x1 : Int64) (x3 : Int32) (x4 : Int32) (x5 : Int64) (x7 : Int32) (I : Nat → Int32) (J : Nat → Int64) (B : Nat → Nat → Int32) (D : Nat → Nat → Int64) (ls : Array Slot) (H : Heap) (locs : List Loc), K6 x1 x3 x4 x5 x7 I J B D → lv_has ls 12 [(0, .ref (ad 65)), (1, .long x1), (3, .int x3), (4, .int x4), (5, .long x5), (7, .int x7)] → zW G A s.heap (wS ad K I J B D) H locs → W p l e { frames := 1, cells := 0, slots := 0, locals := 24 } s m ([.ref (ad 65), .long a0, .int a1, .int a2] : List Value).toArray below meth c H locs 0 0 (MQ below (va_Ql (fun (r : Int64) (u : zS) => Post r u.1 u.2.1 u.2.2.1 u.2.2.2) (fun u t => zPost G K A (wS ad K u.1 u.2.1 u.2.2.1 u.2.2.2) t) A) ([.ref (ad 65), .long a0, .int a1, .int a2] : List Value).toArray s 0 0 A) (F0 m 6 ls [])) : ∀ (n : Nat) (x1 : Int64) (x3 : Int32) (x4 : Int32) (x5 : Int64) (x7 : Int32) (x8 : Int32) (x9 : Int32) (x10 : Int32) (I : Nat → Int32) (J : Nat → Int64) (B : Nat → Nat → Int32) (D : Nat → Nat → Int64) (ls : Array Slot) (H : Heap) (locs : List Loc), wl_LassoSearch_allowedRound_58 a0 a1 a2 K6 Post n x1 x3 x4 x5 x7 x8 x9 x10 I J B D → lv_has ls 12 [(0, .ref (ad 65)), (1, .long x1), (3, .int x3), (4, .int x4), (5, .long x5), (7, .int x7), (8, .int x8), (9, .int x9), (10, .int x10)] → zW G A s.heap (wS ad K I J B D) H locs → W p l e { frames := 1, cells := 0, slots := 0, locals := 24 } s m ([.ref (ad 65), .long a0, .int a1, .int a2] : List Value).toArray below meth c H locs 0 0 (MQ below (va_Ql (fun (r : Int64) (u : zS) => Post r u.1 u.2.1 u.2.2.1 u.2.2.2) (fun u t => zPost G K A (wS ad K u.1 u.2.1 u.2.2.1 u.2.2.2) t) A) ([.ref (ad 65), .long a0, .int a1, .int a2] : List Value).toArray s 0 0 A) (F0 m 58 ls []) := by
  intro n
  induction n with
  | zero => intro x1 x3 x4 x5 x7 x8 x9 x10 I J B D ls H locs hok; exact hok.elim
  | succ n ih => exact wB_LassoSearch_allowedRound_58 G K ad a0 a1 a2 Post C K6 kh6 (wl_LassoSearch_allowedRound_58 a0 a1 a2 K6 Post n) ih
set_option maxHeartbeats 8000000 in
set_option maxRecDepth 100000 in
theorem wB_LassoSearch_allowedRound_6 {p : Program} {l : Launch} {e : Env} {s : State} {m : MethodId} {below : List Frame} {meth : Method} {c : Code} {A : Nat → Prop} (G : va_G) (K : Nat → ClassId) (ad : Nat → Nat) (a0 : Int64) (a1 : Int32) (a2 : Int32) (Post : Int64 → (Nat → Int32) → (Nat → Int64) → (Nat → Nat → Int32) → (Nat → Nat → Int64) → Prop) (C : zCx p s m ([.ref (ad 65), .long a0, .int a1, .int a2] : List Value).toArray meth c A G K prog_4_method_20_code (some .long) 12 "LassoFinder$LassoSearch") (K6 : Int64 → Int32 → Int32 → Int64 → Int32 → (Nat → Int32) → (Nat → Int64) → (Nat → Nat → Int32) → (Nat → Nat → Int64) → Prop) (kh6 : ∀ (x1 : Int64) (x3 : Int32) (x4 : Int32) (x5 : Int64) (x7 : Int32) (I : Nat → Int32) (J : Nat → Int64) (B : Nat → Nat → Int32) (D : Nat → Nat → Int64) (ls : Array Slot) (H : Heap) (locs : List Loc), K6 x1 x3 x4 x5 x7 I J B D → lv_has ls 12 [(0, .ref (ad 65)), (1, .long x1), (3, .int x3), (4, .int x4), (5, .long x5), (7, .int x7)] → zW G A s.heap (wS ad K I J B D) H locs → W p l e { frames := 1, cells := 0, slots := 0, locals := 24 } s m ([.ref (ad 65), .long a0, .int a1, .int a2] : List Value).toArray below meth c H locs 0 0 (MQ below (va_Ql (fun (r : Int64) (u : zS) => Post r u.1 u.2.1 u.2.2.1 u.2.2.2) (fun u t => zPost G K A (wS ad K u.1 u.2.1 u.2.2.1 u.2.2.2) t) A) ([.ref (ad 65), .long a0, .int a1, .int a2] : List Value).toArray s 0 0 A) (F0 m 6 ls [])) : ∀ (x1 : Int64) (x3 : Int32) (x4 : Int32) (x5 : Int64) (x7 : Int32) (I : Nat → Int32) (J : Nat → Int64) (B : Nat → Nat → Int32) (D : Nat → Nat → Int64) (ls : Array Slot) (H : Heap) (locs : List Loc), wb_LassoSearch_allowedRound_6 a0 a1 a2 K6 Post x1 x3 x4 x5 x7 I J B D → lv_has ls 12 [(0, .ref (ad 65)), (1, .long x1), (3, .int x3), (4, .int x4), (5, .long x5), (7, .int x7)] → zW G A s.heap (wS ad K I J B D) H locs → W p l e { frames := 1, cells := 0, slots := 0, locals := 24 } s m ([.ref (ad 65), .long a0, .int a1, .int a2] : List Value).toArray below meth c H locs 0 0 (MQ below (va_Ql (fun (r : Int64) (u : zS) => Post r u.1 u.2.1 u.2.2.1 u.2.2.2) (fun u t => zPost G K A (wS ad K u.1 u.2.1 u.2.2.1 u.2.2.2) t) A) ([.ref (ad 65), .long a0, .int a1, .int a2] : List Value).toArray s 0 0 A) (F0 m 6 ls []) := by
  obtain ⟨hx, hb, hr, hml, hts, hown, hlocks, hA, hK⟩ := id C
  intro x1 x3 x4 x5 x7 I J B D ls H locs hok hl hw
  unfold wb_LassoSearch_allowedRound_6 at hok
  refine lv_iload hx hb zd_LassoSearch_allowedRound_6 (lv_at hl 5 rfl) ?_
  refine lv_aload_n hx hb zd_LassoSearch_allowedRound_8 rfl (lv_at hl 0 rfl) ?_
  refine z_get (v := .ref (ad 11)) hx hb hts hown hK hw zZ3 0 wS_g0 1 (by decide) zn_819 rfl zd_LassoSearch_allowedRound_9 ?_
  refine z_get (v := .int (I 30)) hx hb hts hown hK hw zZ11 23 wS_g23 7 (by decide) zn_820 rfl zd_LassoSearch_allowedRound_12 ?_
  refine lv_icmp_ge (tgt := 145) hx hb zd_LassoSearch_allowedRound_15 (by decide) (fun hc19 => ?_) (fun hc19 => ?_)
  · have hok := hok.1 hc19
    refine lv_lload hx hb zd_LassoSearch_allowedRound_145 (lv_at hl 4 rfl) ?_
    exact (z_lret (u := (I, J, B, D)) hx hb hr hlocks hw (List.range 77) wS_all wS_nd hok (Nat.le_of_ble_eq_true rfl) (Nat.le_of_ble_eq_true rfl) zd_LassoSearch_allowedRound_147)
  · have hok := hok.2 hc19
    refine lv_aload_n hx hb zd_LassoSearch_allowedRound_18 rfl (lv_at hl 0 rfl) ?_
    refine lv_aload_n hx hb zd_LassoSearch_allowedRound_19 rfl (lv_at hl 0 rfl) ?_
    refine z_get (v := .ref (ad 8)) hx hb hts hown hK hw zZ3 0 wS_g0 0 (by decide) zn_822 rfl zd_LassoSearch_allowedRound_20 ?_
    refine z_get (v := .ref (ad 48)) hx hb hts hown hK hw zZ2 20 wS_g20 3 (by decide) zn_825 rfl zd_LassoSearch_allowedRound_23 ?_
    refine lv_iload_n hx hb zd_LassoSearch_allowedRound_26 rfl (lv_at hl 2 rfl) ?_
    refine va_iald (f := (B 33)) hx hb hK hw.1 60 0 wS_a60 rfl hok.1 zd_LassoSearch_allowedRound_27 ?_
    have hok := hok.2
    refine lv_topi (fun z20 ez20 => ?_)
    have hok := hok z20 ez20
    refine lv_iload hx hb zd_LassoSearch_allowedRound_28 (lv_at hl 5 rfl) ?_
    refine z_calli (w1 := fun (u : zS) => wS ad K u.1 u.2.1 u.2.2.1 u.2.2.2) (wr := []) (z_runV (q0 := 0) (wc := (wS ad K I J B D)) (As := [.int z20, .int x7]) (rest := []) ⟨hx, hb, hml, hown, hts⟩ (w_LassoSearch_spotBefore l G K ad I J B D z20 x7 _ H.size hok) zf_LassoSearch_spotBefore zn_553 ⟨Nat.le_of_ble_eq_true rfl, Nat.le_of_ble_eq_true rfl⟩ hK hw (List.range 77) wS_all wS_nd wS_g0 rfl rfl hl.1 rfl (Nat.le_of_ble_eq_true rfl) zd_LassoSearch_allowedRound_30 ⟨Nat.le_of_ble_eq_true rfl, Nat.le_of_ble_eq_true rfl⟩) hw hA (List.range 77) [] wS_all rfl (by decide) (fun i hi => by cases hi) (fun r21 u H locs hok hw => ?_)
    obtain ⟨I21, J21, B21, D21⟩ := u
    dsimp only at hok
    have hw : zW G A s.heap (wS ad K I21 J21 B21 D21) H locs := hw
    refine lv_istore hx hb zd_LassoSearch_allowedRound_33 hl (by decide) rfl (fun ls hl => ?_)
    have hl : lv_has ls 12 [(8, .int r21), (0, .ref (ad 65)), (1, .long x1), (3, .int x3), (4, .int x4), (5, .long x5), (7, .int x7)] := hl
    refine lv_aload_n hx hb zd_LassoSearch_allowedRound_35 rfl (lv_at hl 1 rfl) ?_
    refine z_get (v := .ref (ad 8)) hx hb hts hown hK hw zZ3 0 wS_g0 0 (by decide) zn_822 rfl zd_LassoSearch_allowedRound_36 ?_
    refine z_get (v := .ref (ad 49)) hx hb hts hown hK hw zZ2 20 wS_g20 4 (by decide) zn_824 rfl zd_LassoSearch_allowedRound_39 ?_
    refine lv_iload_n hx hb zd_LassoSearch_allowedRound_42 rfl (lv_at hl 3 rfl) ?_
    refine va_iald (f := (B21 34)) hx hb hK hw.1 61 0 wS_a61 rfl hok.1 zd_LassoSearch_allowedRound_43 ?_
    have hok := hok.2
    refine lv_topi (fun z22 ez22 => ?_)
    have hok := hok z22 ez22
    refine lv_bipush (v := 8) hx hb zd_LassoSearch_allowedRound_44 (by decide) ?_
    refine lv_imul hx hb zd_LassoSearch_allowedRound_46 ?_
    refine lv_topi (fun z23 ez23 => ?_)
    have hok := hok z23 ez23
    refine lv_iload hx hb zd_LassoSearch_allowedRound_47 (lv_at hl 6 rfl) ?_
    refine lv_iadd hx hb zd_LassoSearch_allowedRound_49 ?_
    refine lv_topi (fun z24 ez24 => ?_)
    have hok := hok z24 ez24
    refine lv_bipush (v := 8) hx hb zd_LassoSearch_allowedRound_50 (by decide) ?_
    refine lv_imul hx hb zd_LassoSearch_allowedRound_52 ?_
    refine lv_topi (fun z25 ez25 => ?_)
    have hok := hok z25 ez25
    refine lv_istore hx hb zd_LassoSearch_allowedRound_53 hl (by decide) rfl (fun ls hl => ?_)
    have hl : lv_has ls 12 [(9, .int z25), (8, .int r21), (0, .ref (ad 65)), (1, .long x1), (3, .int x3), (4, .int x4), (5, .long x5), (7, .int x7)] := hl
    refine lv_iconst (v := 0) hx hb zd_LassoSearch_allowedRound_55 (by decide) ?_
    refine lv_istore hx hb zd_LassoSearch_allowedRound_56 hl (by decide) rfl (fun ls hl => ?_)
    have hl : lv_has ls 12 [(10, .int 0), (9, .int z25), (8, .int r21), (0, .ref (ad 65)), (1, .long x1), (3, .int x3), (4, .int x4), (5, .long x5), (7, .int x7)] := hl
    obtain ⟨n9, hok⟩ := hok
    exact wL_LassoSearch_allowedRound_58 G K ad a0 a1 a2 Post C K6 kh6 n9 x1 x3 x4 x5 x7 r21 z25 0 I21 J21 B21 D21 ls H locs hok (lv_sub hl [3, 4, 5, 6, 7, 8, 2, 1, 0] rfl) hw
theorem wL_LassoSearch_allowedRound_6 {p : Program} {l : Launch} {e : Env} {s : State} {m : MethodId} {below : List Frame} {meth : Method} {c : Code} {A : Nat → Prop} (G : va_G) (K : Nat → ClassId) (ad : Nat → Nat) (a0 : Int64) (a1 : Int32) (a2 : Int32) (Post : Int64 → (Nat → Int32) → (Nat → Int64) → (Nat → Nat → Int32) → (Nat → Nat → Int64) → Prop) (C : zCx p s m ([.ref (ad 65), .long a0, .int a1, .int a2] : List Value).toArray meth c A G K prog_4_method_20_code (some .long) 12 "LassoFinder$LassoSearch") : ∀ (n : Nat) (x1 : Int64) (x3 : Int32) (x4 : Int32) (x5 : Int64) (x7 : Int32) (I : Nat → Int32) (J : Nat → Int64) (B : Nat → Nat → Int32) (D : Nat → Nat → Int64) (ls : Array Slot) (H : Heap) (locs : List Loc), wl_LassoSearch_allowedRound_6 a0 a1 a2 Post n x1 x3 x4 x5 x7 I J B D → lv_has ls 12 [(0, .ref (ad 65)), (1, .long x1), (3, .int x3), (4, .int x4), (5, .long x5), (7, .int x7)] → zW G A s.heap (wS ad K I J B D) H locs → W p l e { frames := 1, cells := 0, slots := 0, locals := 24 } s m ([.ref (ad 65), .long a0, .int a1, .int a2] : List Value).toArray below meth c H locs 0 0 (MQ below (va_Ql (fun (r : Int64) (u : zS) => Post r u.1 u.2.1 u.2.2.1 u.2.2.2) (fun u t => zPost G K A (wS ad K u.1 u.2.1 u.2.2.1 u.2.2.2) t) A) ([.ref (ad 65), .long a0, .int a1, .int a2] : List Value).toArray s 0 0 A) (F0 m 6 ls []) := by
  intro n
  induction n with
  | zero => intro x1 x3 x4 x5 x7 I J B D ls H locs hok; exact hok.elim
  | succ n ih => exact wB_LassoSearch_allowedRound_6 G K ad a0 a1 a2 Post C (wl_LassoSearch_allowedRound_6 a0 a1 a2 Post n) ih
set_option maxHeartbeats 8000000 in
set_option maxRecDepth 100000 in
theorem w_LassoSearch_allowedRound (l : Launch) (G : va_G) (K : Nat → ClassId) (ad : Nat → Nat) (I : Nat → Int32) (J : Nat → Int64) (B : Nat → Nat → Int32) (D : Nat → Nat → Int64) (a0 : Int64) (a1 : Int32) (a2 : Int32) (Post : Int64 → (Nat → Int32) → (Nat → Int64) → (Nat → Nat → Int32) → (Nat → Nat → Int64) → Prop) (sz : Nat) (hok : wp_LassoSearch_allowedRound I J B D a0 a1 a2 Post) : Met l zy_LassoSearch_allowedRound (Cond.code zy_LassoSearch_allowedRound prog_4_method_20_code 12 (some .long) :: zTB) { frames := 1, cells := 0, slots := 0, locals := 24 } (va_Pc [.ref (ad 65), .long a0, .int a1, .int a2] (zPre G K (wS ad K I J B D) sz)) (va_Ql (fun (r : Int64) (u : zS) => Post r u.1 u.2.1 u.2.2.1 u.2.2.2) (fun u t => zPost G K (va_A (wS ad K I J B D) sz) (wS ad K u.1 u.2.1 u.2.2.1 u.2.2.2) t) (va_A (wS ad K I J B D) sz)) 0 0 (va_A (wS ad K I J B D) sz) := by
  refine zMet (y := zy_LassoSearch_allowedRound) (av := [.ref (ad 65), .long a0, .int a1, .int a2]) (maxL := 12) (cc := prog_4_method_20_code) (ret := (some .long)) (W0 := (wS ad K I J B D)) (sz := sz) (G := G) (K := K) (wt := zTB) (mc := 0) (ms := 0) (Qf := fun A => va_Ql (fun (r : Int64) (u : zS) => Post r u.1 u.2.1 u.2.2.1 u.2.2.2) (fun u t => zPost G K A (wS ad K u.1 u.2.1 u.2.2.1 u.2.2.2) t) A) (by decide) (Nat.le_of_ble_eq_true rfl) ?_
  intro p e s m below meth c ls A hx hb hr hml hts hown hlocks hin hA hK H locs hw hsz hl
  clear hsz
  have hown : s.vm.findClass "LassoFinder$LassoSearch" = some m.cls := hown
  have C : zCx p s m ([.ref (ad 65), .long a0, .int a1, .int a2] : List Value).toArray meth c A G K prog_4_method_20_code (some .long) 12 "LassoFinder$LassoSearch" := ⟨hx, hb, hr, hml, hts, hown, hlocks, hA, hK⟩
  have hl : lv_has ls 12 [(0, .ref (ad 65)), (1, .long a0), (3, .int a1), (4, .int a2)] := hl
  have hw : zW G A s.heap (wS ad K I J B D) H locs := hw
  unfold wp_LassoSearch_allowedRound at hok
  refine lv_lconst (v := 0) hx hb zd_LassoSearch_allowedRound_0 (by decide) ?_
  refine lv_lstore hx hb zd_LassoSearch_allowedRound_1 hl (by decide) rfl (fun ls hl => ?_)
  have hl : lv_has ls 12 [(5, .long 0), (0, .ref (ad 65)), (1, .long a0), (3, .int a1), (4, .int a2)] := hl
  refine lv_iconst (v := 0) hx hb zd_LassoSearch_allowedRound_3 (by decide) ?_
  refine lv_istore hx hb zd_LassoSearch_allowedRound_4 hl (by decide) rfl (fun ls hl => ?_)
  have hl : lv_has ls 12 [(7, .int 0), (5, .long 0), (0, .ref (ad 65)), (1, .long a0), (3, .int a1), (4, .int a2)] := hl
  obtain ⟨n9, hok⟩ := hok
  exact wL_LassoSearch_allowedRound_6 G K ad a0 a1 a2 Post C n9 a0 a1 a2 0 0 I J B D ls H locs hok (lv_sub hl [2, 3, 4, 5, 1, 0] rfl) hw
def wc_LassoSearch_followCycle_94 (a0 : Int32) (a1 : Int32) (K19 : Int32 → Int64 → Int32 → Int32 → (Nat → Int32) → (Nat → Int64) → (Nat → Nat → Int32) → (Nat → Nat → Int64) → Prop) (Post : (Nat → Int32) → (Nat → Int64) → (Nat → Nat → Int32) → (Nat → Nat → Int64) → Prop) (x2 : Int32) (x6 : Int32) (x7 : Int64) (I : Nat → Int32) (J : Nat → Int64) (B : Nat → Nat → Int32) (D : Nat → Nat → Int64) : Prop :=
  vp_in x6 3072 ∧ ∀ z1 : Int32, z1 = ((B 60) x6.toNatClampNeg) → vp_in z1 400 ∧ ∀ z2 : Int32, z2 = ((B 34) z1.toNatClampNeg) → ∀ z3 : Int32, z3 = (x6 + 1) → K19 x2 x7 z2 z3 I J B D
def wb_LassoSearch_followCycle_40 (a0 : Int32) (a1 : Int32) (K40 : Int32 → Int64 → Int32 → Int32 → Int64 → Int32 → (Nat → Int32) → (Nat → Int64) → (Nat → Nat → Int32) → (Nat → Nat → Int64) → Prop) (K19 : Int32 → Int64 → Int32 → Int32 → (Nat → Int32) → (Nat → Int64) → (Nat → Nat → Int32) → (Nat → Nat → Int64) → Prop) (Post : (Nat → Int32) → (Nat → Int64) → (Nat → Nat → Int32) → (Nat → Nat → Int64) → Prop) (x2 : Int32) (x3 : Int64) (x5 : Int32) (x6 : Int32) (x7 : Int64) (x9 : Int32) (I : Nat → Int32) (J : Nat → Int64) (B : Nat → Nat → Int32) (D : Nat → Nat → Int64) : Prop :=
  ∀ z4 : Int32, z4 = (x5 + 1) → vp_in z4 97 ∧ ∀ z5 : Int32, z5 = ((B 32) z4.toNatClampNeg) → ((z5 ≤ x9 → wc_LassoSearch_followCycle_94 a0 a1 K19 Post x2 x6 x7 I J B D) ∧ (¬ z5 ≤ x9 → ∀ z7 : Int32, z7 = (lg_cmp x7 0) → ((¬ z7 = 0 → wc_LassoSearch_followCycle_94 a0 a1 K19 Post x2 x6 x7 I J B D) ∧ (z7 = 0 → ∀ z9 : Int32, z9 = (x2 - x6) → ∀ z10 : Int32, z10 = (z9 - 1) → wp_LassoSearch_allowedRound I J B D x3 x9 z10 (fun r11 I11 J11 B11 D11 => vp_in x6 3072 ∧ ∀ z12 : Int32, z12 = (x9 + 1) → K40 x2 x3 x5 x6 r11 z12 I11 J11 (va_up B11 60 (upd (B11 60) x6.toNatClampNeg x9)) D11)))))
def wl_LassoSearch_followCycle_40 (a0 : Int32) (a1 : Int32) (K19 : Int32 → Int64 → Int32 → Int32 → (Nat → Int32) → (Nat → Int64) → (Nat → Nat → Int32) → (Nat → Nat → Int64) → Prop) (Post : (Nat → Int32) → (Nat → Int64) → (Nat → Nat → Int32) → (Nat → Nat → Int64) → Prop) (n : Nat) : Int32 → Int64 → Int32 → Int32 → Int64 → Int32 → (Nat → Int32) → (Nat → Int64) → (Nat → Nat → Int32) → (Nat → Nat → Int64) → Prop := Nat.rec (fun _ _ _ _ _ _ _ _ _ _ => False) (fun _ r => wb_LassoSearch_followCycle_40 a0 a1 r K19 Post) n
def wb_LassoSearch_followCycle_19 (a0 : Int32) (a1 : Int32) (K19 : Int32 → Int64 → Int32 → Int32 → (Nat → Int32) → (Nat → Int64) → (Nat → Nat → Int32) → (Nat → Nat → Int64) → Prop) (Post : (Nat → Int32) → (Nat → Int64) → (Nat → Nat → Int32) → (Nat → Nat → Int64) → Prop) (x2 : Int32) (x3 : Int64) (x5 : Int32) (x6 : Int32) (I : Nat → Int32) (J : Nat → Int64) (B : Nat → Nat → Int32) (D : Nat → Nat → Int64) : Prop :=
  ((x2 ≤ x6 → Post I J B D) ∧ (¬ x2 ≤ x6 → vp_in x5 97 ∧ ∀ z14 : Int32, z14 = ((B 32) x5.toNatClampNeg) → ∃ n : Nat, wl_LassoSearch_followCycle_40 a0 a1 K19 Post n x2 x3 x5 x6 0 z14 I J B D))
def wl_LassoSearch_followCycle_19 (a0 : Int32) (a1 : Int32) (Post : (Nat → Int32) → (Nat → Int64) → (Nat → Nat → Int32) → (Nat → Nat → Int64) → Prop) (n : Nat) : Int32 → Int64 → Int32 → Int32 → (Nat → Int32) → (Nat → Int64) → (Nat → Nat → Int32) → (Nat → Nat → Int64) → Prop := Nat.rec (fun _ _ _ _ _ _ _ _ => False) (fun _ r => wb_LassoSearch_followCycle_19 a0 a1 r Post) n
def wp_LassoSearch_followCycle (I : Nat → Int32) (J : Nat → Int64) (B : Nat → Nat → Int32) (D : Nat → Nat → Int64) (a0 : Int32) (a1 : Int32) (Post : (Nat → Int32) → (Nat → Int64) → (Nat → Nat → Int32) → (Nat → Nat → Int64) → Prop) : Prop :=
  ∀ z15 : Int32, z15 = (a0 - a0 / 8 * 8) → ∀ z16 : Int32, z16 = (z15 * 8) → ∀ z17 : Int64, z17 = ((1 : Int64) <<< (z16.toInt64 &&& 63)) → ∀ z18 : Int32, z18 = (a0 / 8) → ∃ n : Nat, wl_LassoSearch_followCycle_19 a0 a1 Post n a1 z17 z18 0 I J B D
set_option maxHeartbeats 8000000 in
set_option maxRecDepth 100000 in
theorem wJ_LassoSearch_followCycle_94 {p : Program} {l : Launch} {e : Env} {s : State} {m : MethodId} {below : List Frame} {meth : Method} {c : Code} {A : Nat → Prop} (G : va_G) (K : Nat → ClassId) (ad : Nat → Nat) (a0 : Int32) (a1 : Int32) (Post : (Nat → Int32) → (Nat → Int64) → (Nat → Nat → Int32) → (Nat → Nat → Int64) → Prop) (C : zCx p s m ([.ref (ad 65), .int a0, .int a1] : List Value).toArray meth c A G K prog_4_method_19_code none 10 "LassoFinder$LassoSearch") (K19 : Int32 → Int64 → Int32 → Int32 → (Nat → Int32) → (Nat → Int64) → (Nat → Nat → Int32) → (Nat → Nat → Int64) → Prop) (kh19 : ∀ (x2 : Int32) (x3 : Int64) (x5 : Int32) (x6 : Int32) (I : Nat → Int32) (J : Nat → Int64) (B : Nat → Nat → Int32) (D : Nat → Nat → Int64) (ls : Array Slot) (H : Heap) (locs : List Loc), K19 x2 x3 x5 x6 I J B D → lv_has ls 10 [(0, .ref (ad 65)), (2, .int x2), (3, .long x3), (5, .int x5), (6, .int x6)] → zW G A s.heap (wS ad K I J B D) H locs → W p l e { frames := 2, cells := 0, slots := 0, locals := 55 } s m ([.ref (ad 65), .int a0, .int a1] : List Value).toArray below meth c H locs 0 0 (MQ below (va_Qv (fun u : zS => Post u.1 u.2.1 u.2.2.1 u.2.2.2) (fun u t => zPost G K A (wS ad K u.1 u.2.1 u.2.2.1 u.2.2.2) t) A) ([.ref (ad 65), .int a0, .int a1] : List Value).toArray s 0 0 A) (F0 m 19 ls [])) : ∀ (x2 : Int32) (x6 : Int32) (x7 : Int64) (I : Nat → Int32) (J : Nat → Int64) (B : Nat → Nat → Int32) (D : Nat → Nat → Int64) (ls : Array Slot) (H : Heap) (locs : List Loc), wc_LassoSearch_followCycle_94 a0 a1 K19 Post x2 x6 x7 I J B D → lv_has ls 10 [(0, .ref (ad 65)), (2, .int x2), (6, .int x6), (7, .long x7)] → zW G A s.heap (wS ad K I J B D) H locs → W p l e { frames := 2, cells := 0, slots := 0, locals := 55 } s m ([.ref (ad 65), .int a0, .int a1] : List Value).toArray below meth c H locs 0 0 (MQ below (va_Qv (fun u : zS => Post u.1 u.2.1 u.2.2.1 u.2.2.2) (fun u t => zPost G K A (wS ad K u.1 u.2.1 u.2.2.1 u.2.2.2) t) A) ([.ref (ad 65), .int a0, .int a1] : List Value).toArray s 0 0 A) (F0 m 94 ls []) := by
  obtain ⟨hx, hb, hr, hml, hts, hown, hlocks, hA, hK⟩ := id C
  intro x2 x6 x7 I J B D ls H locs hok hl hw
  unfold wc_LassoSearch_followCycle_94 at hok
  refine lv_lload hx hb zd_LassoSearch_followCycle_94 (lv_at hl 3 rfl) ?_
  refine lv_lstore_n hx hb zd_LassoSearch_followCycle_96 rfl hl (by decide) rfl (fun ls hl => ?_)
  have hl : lv_has ls 10 [(3, .long x7), (0, .ref (ad 65)), (2, .int x2), (6, .int x6), (7, .long x7)] := hl
  refine lv_aload_n hx hb zd_LassoSearch_followCycle_97 rfl (lv_at hl 1 rfl) ?_
  refine z_get (v := .ref (ad 8)) hx hb hts hown hK hw zZ3 0 wS_g0 0 (by decide) zn_822 rfl zd_LassoSearch_followCycle_98 ?_
  refine z_get (v := .ref (ad 49)) hx hb hts hown hK hw zZ2 20 wS_g20 4 (by decide) zn_824 rfl zd_LassoSearch_followCycle_101 ?_
  refine lv_aload_n hx hb zd_LassoSearch_followCycle_104 rfl (lv_at hl 1 rfl) ?_
  refine z_get (v := .ref (zfl ad (I 39) 76 75)) hx hb hts hown hK hw zZ3 0 wS_g0 16 (by decide) zn_813 rfl zd_LassoSearch_followCycle_105 ?_
  refine lv_iload hx hb zd_LassoSearch_followCycle_108 (lv_at hl 3 rfl) ?_
  refine va_iald (f := (B 60)) hx hb hK hw.1 11 0 wS_a11 rfl hok.1 zd_LassoSearch_followCycle_110 ?_
  have hok := hok.2
  refine lv_topi (fun z1 ez1 => ?_)
  have hok := hok z1 ez1
  refine va_iald (f := (B 34)) hx hb hK hw.1 61 0 wS_a61 rfl hok.1 zd_LassoSearch_followCycle_111 ?_
  have hok := hok.2
  refine lv_topi (fun z2 ez2 => ?_)
  have hok := hok z2 ez2
  refine lv_istore hx hb zd_LassoSearch_followCycle_112 hl (by decide) rfl (fun ls hl => ?_)
  have hl : lv_has ls 10 [(5, .int z2), (3, .long x7), (0, .ref (ad 65)), (2, .int x2), (6, .int x6), (7, .long x7)] := hl
  obtain ⟨z3, ez3⟩ : ∃ z : Int32, z = (x6 + 1) := ⟨_, rfl⟩
  have hok := hok z3 ez3
  refine lv_iinc (v := z3) hx hb zd_LassoSearch_followCycle_114 hl (k := 4) rfl ez3.symm (by decide) rfl (fun ls hl => ?_)
  have hl : lv_has ls 10 [(6, .int z3), (5, .int z2), (3, .long x7), (0, .ref (ad 65)), (2, .int x2), (7, .long x7)] := hl
  refine lv_goto (tgt := 19) hx hb zd_LassoSearch_followCycle_117 (by decide) ?_
  exact kh19 x2 x7 z2 z3 I J B D ls H locs hok (lv_sub hl [3, 4, 2, 1, 0] rfl) hw
set_option maxHeartbeats 8000000 in
set_option maxRecDepth 100000 in
theorem wB_LassoSearch_followCycle_40 {p : Program} {l : Launch} {e : Env} {s : State} {m : MethodId} {below : List Frame} {meth : Method} {c : Code} {A : Nat → Prop} (G : va_G) (K : Nat → ClassId) (ad : Nat → Nat) (a0 : Int32) (a1 : Int32) (Post : (Nat → Int32) → (Nat → Int64) → (Nat → Nat → Int32) → (Nat → Nat → Int64) → Prop) (C : zCx p s m ([.ref (ad 65), .int a0, .int a1] : List Value).toArray meth c A G K prog_4_method_19_code none 10 "LassoFinder$LassoSearch") (K19 : Int32 → Int64 → Int32 → Int32 → (Nat → Int32) → (Nat → Int64) → (Nat → Nat → Int32) → (Nat → Nat → Int64) → Prop) (kh19 : ∀ (x2 : Int32) (x3 : Int64) (x5 : Int32) (x6 : Int32) (I : Nat → Int32) (J : Nat → Int64) (B : Nat → Nat → Int32) (D : Nat → Nat → Int64) (ls : Array Slot) (H : Heap) (locs : List Loc), K19 x2 x3 x5 x6 I J B D → lv_has ls 10 [(0, .ref (ad 65)), (2, .int x2), (3, .long x3), (5, .int x5), (6, .int x6)] → zW G A s.heap (wS ad K I J B D) H locs → W p l e { frames := 2, cells := 0, slots := 0, locals := 55 } s m ([.ref (ad 65), .int a0, .int a1] : List Value).toArray below meth c H locs 0 0 (MQ below (va_Qv (fun u : zS => Post u.1 u.2.1 u.2.2.1 u.2.2.2) (fun u t => zPost G K A (wS ad K u.1 u.2.1 u.2.2.1 u.2.2.2) t) A) ([.ref (ad 65), .int a0, .int a1] : List Value).toArray s 0 0 A) (F0 m 19 ls [])) (K40 : Int32 → Int64 → Int32 → Int32 → Int64 → Int32 → (Nat → Int32) → (Nat → Int64) → (Nat → Nat → Int32) → (Nat → Nat → Int64) → Prop) (kh40 : ∀ (x2 : Int32) (x3 : Int64) (x5 : Int32) (x6 : Int32) (x7 : Int64) (x9 : Int32) (I : Nat → Int32) (J : Nat → Int64) (B : Nat → Nat → Int32) (D : Nat → Nat → Int64) (ls : Array Slot) (H : Heap) (locs : List Loc), K40 x2 x3 x5 x6 x7 x9 I J B D → lv_has ls 10 [(0, .ref (ad 65)), (2, .int x2), (3, .long x3), (5, .int x5), (6, .int x6), (7, .long x7), (9, .int x9)] → zW G A s.heap (wS ad K I J B D) H locs → W p l e { frames := 2, cells := 0, slots := 0, locals := 55 } s m ([.ref (ad 65), .int a0, .int a1] : List Value).toArray below meth c H locs 0 0 (MQ below (va_Qv (fun u : zS => Post u.1 u.2.1 u.2.2.1 u.2.2.2) (fun u t => zPost G K A (wS ad K u.1 u.2.1 u.2.2.1 u.2.2.2) t) A) ([.ref (ad 65), .int a0, .int a1] : List Value).toArray s 0 0 A) (F0 m 40 ls [])) : ∀ (x2 : Int32) (x3 : Int64) (x5 : Int32) (x6 : Int32) (x7 : Int64) (x9 : Int32) (I : Nat → Int32) (J : Nat → Int64) (B : Nat → Nat → Int32) (D : Nat → Nat → Int64) (ls : Array Slot) (H : Heap) (locs : List Loc), wb_LassoSearch_followCycle_40 a0 a1 K40 K19 Post x2 x3 x5 x6 x7 x9 I J B D → lv_has ls 10 [(0, .ref (ad 65)), (2, .int x2), (3, .long x3), (5, .int x5), (6, .int x6), (7, .long x7), (9, .int x9)] → zW G A s.heap (wS ad K I J B D) H locs → W p l e { frames := 2, cells := 0, slots := 0, locals := 55 } s m ([.ref (ad 65), .int a0, .int a1] : List Value).toArray below meth c H locs 0 0 (MQ below (va_Qv (fun u : zS => Post u.1 u.2.1 u.2.2.1 u.2.2.2) (fun u t => zPost G K A (wS ad K u.1 u.2.1 u.2.2.1 u.2.2.2) t) A) ([.ref (ad 65), .int a0, .int a1] : List Value).toArray s 0 0 A) (F0 m 40 ls []) := by
  obtain ⟨hx, hb, hr, hml, hts, hown, hlocks, hA, hK⟩ := id C
  intro x2 x3 x5 x6 x7 x9 I J B D ls H locs hok hl hw
  unfold wb_LassoSearch_followCycle_40 at hok
  refine lv_iload hx hb zd_LassoSearch_followCycle_40 (lv_at hl 6 rfl) ?_
  refine lv_aload_n hx hb zd_LassoSearch_followCycle_42 rfl (lv_at hl 0 rfl) ?_
  refine z_get (v := .ref (ad 8)) hx hb hts hown hK hw zZ3 0 wS_g0 0 (by decide) zn_822 rfl zd_LassoSearch_followCycle_43 ?_
  refine z_get (v := .ref (ad 47)) hx hb hts hown hK hw zZ2 20 wS_g20 2 (by decide) zn_823 rfl zd_LassoSearch_followCycle_46 ?_
  refine lv_iload hx hb zd_LassoSearch_followCycle_49 (lv_at hl 3 rfl) ?_
  refine lv_iconst (v := 1) hx hb zd_LassoSearch_followCycle_51 (by decide) ?_
  refine lv_iadd hx hb zd_LassoSearch_followCycle_52 ?_
  refine lv_topi (fun z4 ez4 => ?_)
  have hok := hok z4 ez4
  refine va_iald (f := (B 32)) hx hb hK hw.1 59 0 wS_a59 rfl hok.1 zd_LassoSearch_followCycle_53 ?_
  have hok := hok.2
  refine lv_topi (fun z5 ez5 => ?_)
  have hok := hok z5 ez5
  refine lv_icmp_ge (tgt := 94) hx hb zd_LassoSearch_followCycle_54 (by decide) (fun hc6 => ?_) (fun hc6 => ?_)
  · have hok := hok.1 hc6
    exact wJ_LassoSearch_followCycle_94 G K ad a0 a1 Post C K19 kh19 x2 x6 x7 I J B D ls H locs hok (lv_sub hl [0, 1, 4, 5] rfl) hw
  · have hok := hok.2 hc6
    refine lv_lload hx hb zd_LassoSearch_followCycle_57 (lv_at hl 5 rfl) ?_
    refine lv_lconst (v := 0) hx hb zd_LassoSearch_followCycle_59 (by decide) ?_
    refine W.lcmp hx hb zd_LassoSearch_followCycle_60 ?_
    refine lv_topi (fun z7 ez7 => ?_)
    have hok := hok z7 ez7
    refine lv_if_ne (tgt := 94) hx hb zd_LassoSearch_followCycle_61 (by decide) (fun hc8 => ?_) (fun hc8 => ?_)
    · have hok := hok.1 hc8
      exact wJ_LassoSearch_followCycle_94 G K ad a0 a1 Post C K19 kh19 x2 x6 x7 I J B D ls H locs hok (lv_sub hl [0, 1, 4, 5] rfl) hw
    · have hok := hok.2 hc8
      refine lv_aload_n hx hb zd_LassoSearch_followCycle_64 rfl (lv_at hl 0 rfl) ?_
      refine lv_lload_n hx hb zd_LassoSearch_followCycle_65 rfl (lv_at hl 2 rfl) ?_
      refine lv_iload hx hb zd_LassoSearch_followCycle_66 (lv_at hl 6 rfl) ?_
      refine lv_iload_n hx hb zd_LassoSearch_followCycle_68 rfl (lv_at hl 1 rfl) ?_
      refine lv_iload hx hb zd_LassoSearch_followCycle_69 (lv_at hl 4 rfl) ?_
      refine lv_isub hx hb zd_LassoSearch_followCycle_71 ?_
      refine lv_topi (fun z9 ez9 => ?_)
      have hok := hok z9 ez9
      refine lv_iconst (v := 1) hx hb zd_LassoSearch_followCycle_72 (by decide) ?_
      refine lv_isub hx hb zd_LassoSearch_followCycle_73 ?_
      refine lv_topi (fun z10 ez10 => ?_)
      have hok := hok z10 ez10
      refine z_calll (w1 := fun (u : zS) => wS ad K u.1 u.2.1 u.2.2.1 u.2.2.2) (wr := []) (z_runV (q0 := 0) (wc := (wS ad K I J B D)) (As := [.long x3, .int x9, .int z10]) (rest := []) ⟨hx, hb, hml, hown, hts⟩ (w_LassoSearch_allowedRound l G K ad I J B D x3 x9 z10 _ H.size hok) zf_LassoSearch_allowedRound zn_562 ⟨Nat.le_of_ble_eq_true rfl, Nat.le_of_ble_eq_true rfl⟩ hK hw (List.range 77) wS_all wS_nd wS_g0 rfl rfl hl.1 rfl (Nat.le_of_ble_eq_true rfl) zd_LassoSearch_followCycle_74 ⟨Nat.le_of_ble_eq_true rfl, Nat.le_of_ble_eq_true rfl⟩) hw hA (List.range 77) [] wS_all rfl (by decide) (fun i hi => by cases hi) (fun r11 u H locs hok hw => ?_)
      obtain ⟨I11, J11, B11, D11⟩ := u
      dsimp only at hok
      have hw : zW G A s.heap (wS ad K I11 J11 B11 D11) H locs := hw
      refine lv_lstore hx hb zd_LassoSearch_followCycle_77 hl (by decide) rfl (fun ls hl => ?_)
      have hl : lv_has ls 10 [(7, .long r11), (0, .ref (ad 65)), (2, .int x2), (3, .long x3), (5, .int x5), (6, .int x6), (9, .int x9)] := hl
      refine lv_aload_n hx hb zd_LassoSearch_followCycle_79 rfl (lv_at hl 1 rfl) ?_
      refine z_get (v := .ref (zfl ad (I11 39) 76 75)) hx hb hts hown hK hw zZ3 0 wS_g0 16 (by decide) zn_813 rfl zd_LassoSearch_followCycle_80 ?_
      refine lv_iload hx hb zd_LassoSearch_followCycle_83 (lv_at hl 5 rfl) ?_
      refine lv_iload hx hb zd_LassoSearch_followCycle_85 (lv_at hl 6 rfl) ?_
      refine va_iast (f := (B11 60)) hx hb hK hw.1 hw.2.1 hw.2.2 11 0 wS_a11 rfl hok.1 zd_LassoSearch_followCycle_87 (fun H locs w91 w92 w93 => ?_)
      have hok := hok.2
      have hw := wS_t11 ⟨w91, w92, w93⟩
      obtain ⟨z12, ez12⟩ : ∃ z : Int32, z = (x9 + 1) := ⟨_, rfl⟩
      have hok := hok z12 ez12
      refine lv_iinc (v := z12) hx hb zd_LassoSearch_followCycle_88 hl (k := 6) rfl ez12.symm (by decide) rfl (fun ls hl => ?_)
      have hl : lv_has ls 10 [(9, .int z12), (7, .long r11), (0, .ref (ad 65)), (2, .int x2), (3, .long x3), (5, .int x5), (6, .int x6)] := hl
      refine lv_goto (tgt := 40) hx hb zd_LassoSearch_followCycle_91 (by decide) ?_
      exact kh40 x2 x3 x5 x6 r11 z12 I11 J11 (va_up B11 60 (upd (B11 60) x6.toNatClampNeg x9)) D11 ls H locs hok (lv_sub hl [2, 3, 4, 5, 6, 1, 0] rfl) hw
theorem wL_LassoSearch_followCycle_40 {p : Program} {l : Launch} {e : Env} {s : State} {m : MethodId} {below : List Frame} {meth : Method} {c : Code} {A : Nat → Prop} (G : va_G) (K : Nat → ClassId) (ad : Nat → Nat) (a0 : Int32) (a1 : Int32) (Post : (Nat → Int32) → (Nat → Int64) → (Nat → Nat → Int32) → (Nat → Nat → Int64) → Prop) (C : zCx p s m ([.ref (ad 65), .int a0, .int a1] : List Value).toArray meth c A G K prog_4_method_19_code none 10 "LassoFinder$LassoSearch") (K19 : Int32 → Int64 → Int32 → Int32 → (Nat → Int32) → (Nat → Int64) → (Nat → Nat → Int32) → (Nat → Nat → Int64) → Prop) (kh19 : ∀ (x2 : Int32) (x3 : Int64) (x5 : Int32) (x6 : Int32) (I : Nat → Int32) (J : Nat → Int64) (B : Nat → Nat → Int32) (D : Nat → Nat → Int64) (ls : Array Slot) (H : Heap) (locs : List Loc), K19 x2 x3 x5 x6 I J B D → lv_has ls 10 [(0, .ref (ad 65)), (2, .int x2), (3, .long x3), (5, .int x5), (6, .int x6)] → zW G A s.heap (wS ad K I J B D) H locs → W p l e { frames := 2, cells := 0, slots := 0, locals := 55 } s m ([.ref (ad 65), .int a0, .int a1] : List Value).toArray below meth c H locs 0 0 (MQ below (va_Qv (fun u : zS => Post u.1 u.2.1 u.2.2.1 u.2.2.2) (fun u t => zPost G K A (wS ad K u.1 u.2.1 u.2.2.1 u.2.2.2) t) A) ([.ref (ad 65), .int a0, .int a1] : List Value).toArray s 0 0 A) (F0 m 19 ls [])) : ∀ (n : Nat) (x2 : Int32) (x3 : Int64) (x5 : Int32) (x6 : Int32) (x7 : Int64) (x9 : Int32) (I : Nat → Int32) (J : Nat → Int64) (B : Nat → Nat → Int32) (D : Nat → Nat → Int64) (ls : Array Slot) (H : Heap) (locs : List Loc), wl_LassoSearch_followCycle_40 a0 a1 K19 Post n x2 x3 x5 x6 x7 x9 I J B D → lv_has ls 10 [(0, .ref (ad 65)), (2, .int x2), (3, .long x3), (5, .int x5), (6, .int x6), (7, .long x7), (9, .int x9)] → zW G A s.heap (wS ad K I J B D) H locs → W p l e { frames := 2, cells := 0, slots := 0, locals := 55 } s m ([.ref (ad 65), .int a0, .int a1] : List Value).toArray below meth c H locs 0 0 (MQ below (va_Qv (fun u : zS => Post u.1 u.2.1 u.2.2.1 u.2.2.2) (fun u t => zPost G K A (wS ad K u.1 u.2.1 u.2.2.1 u.2.2.2) t) A) ([.ref (ad 65), .int a0, .int a1] : List Value).toArray s 0 0 A) (F0 m 40 ls []) := by
  intro n
  induction n with
  | zero => intro x2 x3 x5 x6 x7 x9 I J B D ls H locs hok; exact hok.elim
  | succ n ih => exact wB_LassoSearch_followCycle_40 G K ad a0 a1 Post C K19 kh19 (wl_LassoSearch_followCycle_40 a0 a1 K19 Post n) ih
set_option maxHeartbeats 8000000 in
set_option maxRecDepth 100000 in
theorem wB_LassoSearch_followCycle_19 {p : Program} {l : Launch} {e : Env} {s : State} {m : MethodId} {below : List Frame} {meth : Method} {c : Code} {A : Nat → Prop} (G : va_G) (K : Nat → ClassId) (ad : Nat → Nat) (a0 : Int32) (a1 : Int32) (Post : (Nat → Int32) → (Nat → Int64) → (Nat → Nat → Int32) → (Nat → Nat → Int64) → Prop) (C : zCx p s m ([.ref (ad 65), .int a0, .int a1] : List Value).toArray meth c A G K prog_4_method_19_code none 10 "LassoFinder$LassoSearch") (K19 : Int32 → Int64 → Int32 → Int32 → (Nat → Int32) → (Nat → Int64) → (Nat → Nat → Int32) → (Nat → Nat → Int64) → Prop) (kh19 : ∀ (x2 : Int32) (x3 : Int64) (x5 : Int32) (x6 : Int32) (I : Nat → Int32) (J : Nat → Int64) (B : Nat → Nat → Int32) (D : Nat → Nat → Int64) (ls : Array Slot) (H : Heap) (locs : List Loc), K19 x2 x3 x5 x6 I J B D → lv_has ls 10 [(0, .ref (ad 65)), (2, .int x2), (3, .long x3), (5, .int x5), (6, .int x6)] → zW G A s.heap (wS ad K I J B D) H locs → W p l e { frames := 2, cells := 0, slots := 0, locals := 55 } s m ([.ref (ad 65), .int a0, .int a1] : List Value).toArray below meth c H locs 0 0 (MQ below (va_Qv (fun u : zS => Post u.1 u.2.1 u.2.2.1 u.2.2.2) (fun u t => zPost G K A (wS ad K u.1 u.2.1 u.2.2.1 u.2.2.2) t) A) ([.ref (ad 65), .int a0, .int a1] : List Value).toArray s 0 0 A) (F0 m 19 ls [])) : ∀ (x2 : Int32) (x3 : Int64) (x5 : Int32) (x6 : Int32) (I : Nat → Int32) (J : Nat → Int64) (B : Nat → Nat → Int32) (D : Nat → Nat → Int64) (ls : Array Slot) (H : Heap) (locs : List Loc), wb_LassoSearch_followCycle_19 a0 a1 K19 Post x2 x3 x5 x6 I J B D → lv_has ls 10 [(0, .ref (ad 65)), (2, .int x2), (3, .long x3), (5, .int x5), (6, .int x6)] → zW G A s.heap (wS ad K I J B D) H locs → W p l e { frames := 2, cells := 0, slots := 0, locals := 55 } s m ([.ref (ad 65), .int a0, .int a1] : List Value).toArray below meth c H locs 0 0 (MQ below (va_Qv (fun u : zS => Post u.1 u.2.1 u.2.2.1 u.2.2.2) (fun u t => zPost G K A (wS ad K u.1 u.2.1 u.2.2.1 u.2.2.2) t) A) ([.ref (ad 65), .int a0, .int a1] : List Value).toArray s 0 0 A) (F0 m 19 ls []) := by
  obtain ⟨hx, hb, hr, hml, hts, hown, hlocks, hA, hK⟩ := id C
  intro x2 x3 x5 x6 I J B D ls H locs hok hl hw
  unfold wb_LassoSearch_followCycle_19 at hok
  refine lv_iload hx hb zd_LassoSearch_followCycle_19 (lv_at hl 4 rfl) ?_
  refine lv_iload_n hx hb zd_LassoSearch_followCycle_21 rfl (lv_at hl 1 rfl) ?_
  refine lv_icmp_ge (tgt := 120) hx hb zd_LassoSearch_followCycle_22 (by decide) (fun hc13 => ?_) (fun hc13 => ?_)
  · have hok := hok.1 hc13
    exact (z_vret (u := (I, J, B, D)) hx hb hr hlocks hw (List.range 77) wS_all wS_nd hok (Nat.le_of_ble_eq_true rfl) (Nat.le_of_ble_eq_true rfl) zd_LassoSearch_followCycle_120)
  · have hok := hok.2 hc13
    refine lv_lconst (v := 0) hx hb zd_LassoSearch_followCycle_25 (by decide) ?_
    refine lv_lstore hx hb zd_LassoSearch_followCycle_26 hl (by decide) rfl (fun ls hl => ?_)
    have hl : lv_has ls 10 [(7, .long 0), (0, .ref (ad 65)), (2, .int x2), (3, .long x3), (5, .int x5), (6, .int x6)] := hl
    refine lv_aload_n hx hb zd_LassoSearch_followCycle_28 rfl (lv_at hl 1 rfl) ?_
    refine z_get (v := .ref (ad 8)) hx hb hts hown hK hw zZ3 0 wS_g0 0 (by decide) zn_822 rfl zd_LassoSearch_followCycle_29 ?_
    refine z_get (v := .ref (ad 47)) hx hb hts hown hK hw zZ2 20 wS_g20 2 (by decide) zn_823 rfl zd_LassoSearch_followCycle_32 ?_
    refine lv_iload hx hb zd_LassoSearch_followCycle_35 (lv_at hl 4 rfl) ?_
    refine va_iald (f := (B 32)) hx hb hK hw.1 59 0 wS_a59 rfl hok.1 zd_LassoSearch_followCycle_37 ?_
    have hok := hok.2
    refine lv_topi (fun z14 ez14 => ?_)
    have hok := hok z14 ez14
    refine lv_istore hx hb zd_LassoSearch_followCycle_38 hl (by decide) rfl (fun ls hl => ?_)
    have hl : lv_has ls 10 [(9, .int z14), (7, .long 0), (0, .ref (ad 65)), (2, .int x2), (3, .long x3), (5, .int x5), (6, .int x6)] := hl
    obtain ⟨n9, hok⟩ := hok
    exact wL_LassoSearch_followCycle_40 G K ad a0 a1 Post C K19 kh19 n9 x2 x3 x5 x6 0 z14 I J B D ls H locs hok (lv_sub hl [2, 3, 4, 5, 6, 1, 0] rfl) hw
theorem wL_LassoSearch_followCycle_19 {p : Program} {l : Launch} {e : Env} {s : State} {m : MethodId} {below : List Frame} {meth : Method} {c : Code} {A : Nat → Prop} (G : va_G) (K : Nat → ClassId) (ad : Nat → Nat) (a0 : Int32) (a1 : Int32) (Post : (Nat → Int32) → (Nat → Int64) → (Nat → Nat → Int32) → (Nat → Nat → Int64) → Prop) (C : zCx p s m ([.ref (ad 65), .int a0, .int a1] : List Value).toArray meth c A G K prog_4_method_19_code none 10 "LassoFinder$LassoSearch") : ∀ (n : Nat) (x2 : Int32) (x3 : Int64) (x5 : Int32) (x6 : Int32) (I : Nat → Int32) (J : Nat → Int64) (B : Nat → Nat → Int32) (D : Nat → Nat → Int64) (ls : Array Slot) (H : Heap) (locs : List Loc), wl_LassoSearch_followCycle_19 a0 a1 Post n x2 x3 x5 x6 I J B D → lv_has ls 10 [(0, .ref (ad 65)), (2, .int x2), (3, .long x3), (5, .int x5), (6, .int x6)] → zW G A s.heap (wS ad K I J B D) H locs → W p l e { frames := 2, cells := 0, slots := 0, locals := 55 } s m ([.ref (ad 65), .int a0, .int a1] : List Value).toArray below meth c H locs 0 0 (MQ below (va_Qv (fun u : zS => Post u.1 u.2.1 u.2.2.1 u.2.2.2) (fun u t => zPost G K A (wS ad K u.1 u.2.1 u.2.2.1 u.2.2.2) t) A) ([.ref (ad 65), .int a0, .int a1] : List Value).toArray s 0 0 A) (F0 m 19 ls []) := by
  intro n
  induction n with
  | zero => intro x2 x3 x5 x6 I J B D ls H locs hok; exact hok.elim
  | succ n ih => exact wB_LassoSearch_followCycle_19 G K ad a0 a1 Post C (wl_LassoSearch_followCycle_19 a0 a1 Post n) ih
set_option maxHeartbeats 8000000 in
set_option maxRecDepth 100000 in
theorem w_LassoSearch_followCycle (l : Launch) (G : va_G) (K : Nat → ClassId) (ad : Nat → Nat) (I : Nat → Int32) (J : Nat → Int64) (B : Nat → Nat → Int32) (D : Nat → Nat → Int64) (a0 : Int32) (a1 : Int32) (Post : (Nat → Int32) → (Nat → Int64) → (Nat → Nat → Int32) → (Nat → Nat → Int64) → Prop) (sz : Nat) (hok : wp_LassoSearch_followCycle I J B D a0 a1 Post) : Met l zy_LassoSearch_followCycle (Cond.code zy_LassoSearch_followCycle prog_4_method_19_code 10 none :: zTB) { frames := 2, cells := 0, slots := 0, locals := 55 } (va_Pc [.ref (ad 65), .int a0, .int a1] (zPre G K (wS ad K I J B D) sz)) (va_Qv (fun u : zS => Post u.1 u.2.1 u.2.2.1 u.2.2.2) (fun u t => zPost G K (va_A (wS ad K I J B D) sz) (wS ad K u.1 u.2.1 u.2.2.1 u.2.2.2) t) (va_A (wS ad K I J B D) sz)) 0 0 (va_A (wS ad K I J B D) sz) := by
  refine zMet (y := zy_LassoSearch_followCycle) (av := [.ref (ad 65), .int a0, .int a1]) (maxL := 10) (cc := prog_4_method_19_code) (ret := none) (W0 := (wS ad K I J B D)) (sz := sz) (G := G) (K := K) (wt := zTB) (mc := 0) (ms := 0) (Qf := fun A => va_Qv (fun u : zS => Post u.1 u.2.1 u.2.2.1 u.2.2.2) (fun u t => zPost G K A (wS ad K u.1 u.2.1 u.2.2.1 u.2.2.2) t) A) (by decide) (Nat.le_of_ble_eq_true rfl) ?_
  intro p e s m below meth c ls A hx hb hr hml hts hown hlocks hin hA hK H locs hw hsz hl
  clear hsz
  have hown : s.vm.findClass "LassoFinder$LassoSearch" = some m.cls := hown
  have C : zCx p s m ([.ref (ad 65), .int a0, .int a1] : List Value).toArray meth c A G K prog_4_method_19_code none 10 "LassoFinder$LassoSearch" := ⟨hx, hb, hr, hml, hts, hown, hlocks, hA, hK⟩
  have hl : lv_has ls 10 [(0, .ref (ad 65)), (1, .int a0), (2, .int a1)] := hl
  have hw : zW G A s.heap (wS ad K I J B D) H locs := hw
  unfold wp_LassoSearch_followCycle at hok
  refine lv_lconst (v := 1) hx hb zd_LassoSearch_followCycle_0 (by decide) ?_
  refine lv_iload_n hx hb zd_LassoSearch_followCycle_1 rfl (lv_at hl 1 rfl) ?_
  refine lv_bipush (v := 8) hx hb zd_LassoSearch_followCycle_2 (by decide) ?_
  refine lv_irem hx hb zd_LassoSearch_followCycle_4 (by decide) ?_
  refine lv_topi (fun z15 ez15 => ?_)
  have hok := hok z15 ez15
  refine lv_bipush (v := 8) hx hb zd_LassoSearch_followCycle_5 (by decide) ?_
  refine lv_imul hx hb zd_LassoSearch_followCycle_7 ?_
  refine lv_topi (fun z16 ez16 => ?_)
  have hok := hok z16 ez16
  refine lv_lshl hx hb zd_LassoSearch_followCycle_8 rfl ?_
  refine lv_topl (fun z17 ez17 => ?_)
  have hok := hok z17 ez17
  refine lv_lstore_n hx hb zd_LassoSearch_followCycle_9 rfl hl (by decide) rfl (fun ls hl => ?_)
  have hl : lv_has ls 10 [(3, .long z17), (0, .ref (ad 65)), (1, .int a0), (2, .int a1)] := hl
  refine lv_iload_n hx hb zd_LassoSearch_followCycle_10 rfl (lv_at hl 2 rfl) ?_
  refine lv_bipush (v := 8) hx hb zd_LassoSearch_followCycle_11 (by decide) ?_
  refine lv_idiv hx hb zd_LassoSearch_followCycle_13 (by decide) ?_
  refine lv_topi (fun z18 ez18 => ?_)
  have hok := hok z18 ez18
  refine lv_istore hx hb zd_LassoSearch_followCycle_14 hl (by decide) rfl (fun ls hl => ?_)
  have hl : lv_has ls 10 [(5, .int z18), (3, .long z17), (0, .ref (ad 65)), (1, .int a0), (2, .int a1)] := hl
  refine lv_iconst (v := 0) hx hb zd_LassoSearch_followCycle_16 (by decide) ?_
  refine lv_istore hx hb zd_LassoSearch_followCycle_17 hl (by decide) rfl (fun ls hl => ?_)
  have hl : lv_has ls 10 [(6, .int 0), (5, .int z18), (3, .long z17), (0, .ref (ad 65)), (1, .int a0), (2, .int a1)] := hl
  obtain ⟨n9, hok⟩ := hok
  exact wL_LassoSearch_followCycle_19 G K ad a0 a1 Post C n9 a1 z17 z18 0 I J B D ls H locs hok (lv_sub hl [3, 5, 2, 1, 0] rfl) hw
def wc_LassoSearch_keepBetter_126 (a0 : Int32) (Post : (Nat → Int32) → (Nat → Int64) → (Nat → Nat → Int32) → (Nat → Nat → Int64) → Prop)  (I : Nat → Int32) (J : Nat → Int64) (B : Nat → Nat → Int32) (D : Nat → Nat → Int64) : Prop :=
  Post I J B D
def wc_LassoSearch_keepBetter_97 (a0 : Int32) (Post : (Nat → Int32) → (Nat → Int64) → (Nat → Nat → Int32) → (Nat → Nat → Int64) → Prop) (x1 : Int32) (x2 : Int32) (I : Nat → Int32) (J : Nat → Int64) (B : Nat → Nat → Int32) (D : Nat → Nat → Int64) : Prop :=
  ((x2 = 0 → wc_LassoSearch_keepBetter_126 a0 Post I J B D) ∧ (¬ x2 = 0 → wc_LassoSearch_keepBetter_126 a0 Post (upd (upd I 39 (zflip (I 39))) 37 x1) J (va_up (va_up B 59 (B 60)) 60 (B 59)) D))
def wc_LassoSearch_keepBetter_90 (a0 : Int32) (K35 : Int32 → Int32 → Int32 → Int32 → (Nat → Int32) → (Nat → Int64) → (Nat → Nat → Int32) → (Nat → Nat → Int64) → Prop) (Post : (Nat → Int32) → (Nat → Int64) → (Nat → Nat → Int32) → (Nat → Nat → Int64) → Prop) (x1 : Int32) (x3 : Int32) (x4 : Int32) (y0 : Int32) (I : Nat → Int32) (J : Nat → Int64) (B : Nat → Nat → Int32) (D : Nat → Nat → Int64) : Prop :=
  ∀ z2 : Int32, z2 = (x4 + 1) → K35 x1 y0 x3 z2 I J B D
def wc_LassoSearch_keepBetter_67 (a0 : Int32) (K35 : Int32 → Int32 → Int32 → Int32 → (Nat → Int32) → (Nat → Int64) → (Nat → Nat → Int32) → (Nat → Nat → Int64) → Prop) (Post : (Nat → Int32) → (Nat → Int64) → (Nat → Nat → Int32) → (Nat → Nat → Int64) → Prop) (x1 : Int32) (x4 : Int32) (y0 : Int32) (I : Nat → Int32) (J : Nat → Int64) (B : Nat → Nat → Int32) (D : Nat → Nat → Int64) : Prop :=
  vp_in x4 3072 ∧ ∀ z3 : Int32, z3 = ((B 60) x4.toNatClampNeg) → vp_in x4 3072 ∧ ∀ z4 : Int32, z4 = ((B 59) x4.toNatClampNeg) → ((z4 ≤ z3 → wc_LassoSearch_keepBetter_90 a0 K35 Post x1 y0 x4 0 I J B D) ∧ (¬ z4 ≤ z3 → wc_LassoSearch_keepBetter_90 a0 K35 Post x1 y0 x4 1 I J B D))
def wb_LassoSearch_keepBetter_35 (a0 : Int32) (K35 : Int32 → Int32 → Int32 → Int32 → (Nat → Int32) → (Nat → Int64) → (Nat → Nat → Int32) → (Nat → Nat → Int64) → Prop) (Post : (Nat → Int32) → (Nat → Int64) → (Nat → Nat → Int32) → (Nat → Nat → Int64) → Prop) (x1 : Int32) (x2 : Int32) (x3 : Int32) (x4 : Int32) (I : Nat → Int32) (J : Nat → Int64) (B : Nat → Nat → Int32) (D : Nat → Nat → Int64) : Prop :=
  ((x1 ≤ x4 → wc_LassoSearch_keepBetter_97 a0 Post x1 x2 I J B D) ∧ (¬ x1 ≤ x4 → ((x3 = 0 → wc_LassoSearch_keepBetter_97 a0 Post x1 x2 I J B D) ∧ (¬ x3 = 0 → vp_in x4 3072 ∧ ∀ z8 : Int32, z8 = ((B 60) x4.toNatClampNeg) → vp_in x4 3072 ∧ ∀ z9 : Int32, z9 = ((B 59) x4.toNatClampNeg) → ((¬ z8 = z9 → wc_LassoSearch_keepBetter_67 a0 K35 Post x1 x4 0 I J B D) ∧ (z8 = z9 → wc_LassoSearch_keepBetter_67 a0 K35 Post x1 x4 1 I J B D))))))
def wl_LassoSearch_keepBetter_35 (a0 : Int32) (Post : (Nat → Int32) → (Nat → Int64) → (Nat → Nat → Int32) → (Nat → Nat → Int64) → Prop) (n : Nat) : Int32 → Int32 → Int32 → Int32 → (Nat → Int32) → (Nat → Int64) → (Nat → Nat → Int32) → (Nat → Nat → Int64) → Prop := Nat.rec (fun _ _ _ _ _ _ _ _ => False) (fun _ r => wb_LassoSearch_keepBetter_35 a0 r Post) n
def wc_LassoSearch_keepBetter_31 (a0 : Int32) (Post : (Nat → Int32) → (Nat → Int64) → (Nat → Nat → Int32) → (Nat → Nat → Int64) → Prop) (x1 : Int32) (x2 : Int32) (y0 : Int32) (I : Nat → Int32) (J : Nat → Int64) (B : Nat → Nat → Int32) (D : Nat → Nat → Int64) : Prop :=
  ∃ n : Nat, wl_LassoSearch_keepBetter_35 a0 Post n x1 x2 y0 0 I J B D
def wc_LassoSearch_keepBetter_21 (a0 : Int32) (Post : (Nat → Int32) → (Nat → Int64) → (Nat → Nat → Int32) → (Nat → Nat → Int64) → Prop) (x1 : Int32) (y0 : Int32) (I : Nat → Int32) (J : Nat → Int64) (B : Nat → Nat → Int32) (D : Nat → Nat → Int64) : Prop :=
  ((¬ y0 = 0 → wc_LassoSearch_keepBetter_31 a0 Post x1 y0 0 I J B D) ∧ (y0 = 0 → wc_LassoSearch_keepBetter_31 a0 Post x1 y0 1 I J B D))
def wc_LassoSearch_keepBetter_16 (a0 : Int32) (Post : (Nat → Int32) → (Nat → Int64) → (Nat → Nat → Int32) → (Nat → Nat → Int64) → Prop) (x1 : Int32) (I : Nat → Int32) (J : Nat → Int64) (B : Nat → Nat → Int32) (D : Nat → Nat → Int64) : Prop :=
  wc_LassoSearch_keepBetter_21 a0 Post x1 1 I J B D
def wp_LassoSearch_keepBetter (I : Nat → Int32) (J : Nat → Int64) (B : Nat → Nat → Int32) (D : Nat → Nat → Int64) (a0 : Int32) (Post : (Nat → Int32) → (Nat → Int64) → (Nat → Nat → Int32) → (Nat → Nat → Int64) → Prop) : Prop :=
  (((I 37) = (-1) → wc_LassoSearch_keepBetter_16 a0 Post a0 I J B D) ∧ (¬ (I 37) = (-1) → (((I 37) ≤ a0 → wc_LassoSearch_keepBetter_21 a0 Post a0 0 I J B D) ∧ (¬ (I 37) ≤ a0 → wc_LassoSearch_keepBetter_16 a0 Post a0 I J B D))))
set_option maxHeartbeats 8000000 in
set_option maxRecDepth 100000 in
theorem wJ_LassoSearch_keepBetter_126 {p : Program} {l : Launch} {e : Env} {s : State} {m : MethodId} {below : List Frame} {meth : Method} {c : Code} {A : Nat → Prop} (G : va_G) (K : Nat → ClassId) (ad : Nat → Nat) (a0 : Int32) (Post : (Nat → Int32) → (Nat → Int64) → (Nat → Nat → Int32) → (Nat → Nat → Int64) → Prop) (C : zCx p s m ([.ref (ad 65), .int a0] : List Value).toArray meth c A G K prog_4_method_17_code none 5 "LassoFinder$LassoSearch") : ∀  (I : Nat → Int32) (J : Nat → Int64) (B : Nat → Nat → Int32) (D : Nat → Nat → Int64) (ls : Array Slot) (H : Heap) (locs : List Loc), wc_LassoSearch_keepBetter_126 a0 Post  I J B D → lv_has ls 5 [] → zW G A s.heap (wS ad K I J B D) H locs → W p l e { frames := 0, cells := 0, slots := 0, locals := 0 } s m ([.ref (ad 65), .int a0] : List Value).toArray below meth c H locs 0 0 (MQ below (va_Qv (fun u : zS => Post u.1 u.2.1 u.2.2.1 u.2.2.2) (fun u t => zPost G K A (wS ad K u.1 u.2.1 u.2.2.1 u.2.2.2) t) A) ([.ref (ad 65), .int a0] : List Value).toArray s 0 0 A) (F0 m 126 ls []) := by
  obtain ⟨hx, hb, hr, hml, hts, hown, hlocks, hA, hK⟩ := id C
  intro  I J B D ls H locs hok hl hw
  unfold wc_LassoSearch_keepBetter_126 at hok
  exact (z_vret (u := (I, J, B, D)) hx hb hr hlocks hw (List.range 77) wS_all wS_nd hok (Nat.le_of_ble_eq_true rfl) (Nat.le_of_ble_eq_true rfl) zd_LassoSearch_keepBetter_126)
set_option maxHeartbeats 8000000 in
set_option maxRecDepth 100000 in
theorem wJ_LassoSearch_keepBetter_97 {p : Program} {l : Launch} {e : Env} {s : State} {m : MethodId} {below : List Frame} {meth : Method} {c : Code} {A : Nat → Prop} (G : va_G) (K : Nat → ClassId) (ad : Nat → Nat) (a0 : Int32) (Post : (Nat → Int32) → (Nat → Int64) → (Nat → Nat → Int32) → (Nat → Nat → Int64) → Prop) (C : zCx p s m ([.ref (ad 65), .int a0] : List Value).toArray meth c A G K prog_4_method_17_code none 5 "LassoFinder$LassoSearch") : ∀ (x1 : Int32) (x2 : Int32) (I : Nat → Int32) (J : Nat → Int64) (B : Nat → Nat → Int32) (D : Nat → Nat → Int64) (ls : Array Slot) (H : Heap) (locs : List Loc), wc_LassoSearch_keepBetter_97 a0 Post x1 x2 I J B D → lv_has ls 5 [(0, .ref (ad 65)), (1, .int x1), (2, .int x2)] → zW G A s.heap (wS ad K I J B D) H locs → W p l e { frames := 0, cells := 0, slots := 0, locals := 0 } s m ([.ref (ad 65), .int a0] : List Value).toArray below meth c H locs 0 0 (MQ below (va_Qv (fun u : zS => Post u.1 u.2.1 u.2.2.1 u.2.2.2) (fun u t => zPost G K A (wS ad K u.1 u.2.1 u.2.2.1 u.2.2.2) t) A) ([.ref (ad 65), .int a0] : List Value).toArray s 0 0 A) (F0 m 97 ls []) := by
  obtain ⟨hx, hb, hr, hml, hts, hown, hlocks, hA, hK⟩ := id C
  intro x1 x2 I J B D ls H locs hok hl hw
  unfold wc_LassoSearch_keepBetter_97 at hok
  refine lv_iload_n hx hb zd_LassoSearch_keepBetter_97 rfl (lv_at hl 2 rfl) ?_
  refine lv_if_eq (tgt := 126) hx hb zd_LassoSearch_keepBetter_98 (by decide) (fun hc1 => ?_) (fun hc1 => ?_)
  · have hok := hok.1 hc1
    exact wJ_LassoSearch_keepBetter_126 G K ad a0 Post C I J B D ls H locs hok (lv_sub hl [] rfl) hw
  · have hok := hok.2 hc1
    refine lv_aload_n hx hb zd_LassoSearch_keepBetter_101 rfl (lv_at hl 0 rfl) ?_
    refine z_get (v := .ref (zfl ad (I 39) 75 76)) hx hb hts hown hK hw zZ3 0 wS_g0 15 (by decide) zn_812 rfl zd_LassoSearch_keepBetter_102 ?_
    refine lv_astore hx hb zd_LassoSearch_keepBetter_105 hl (by decide) rfl (fun ls hl => ?_)
    have hl : lv_has ls 5 [(4, .ref (zfl ad (I 39) 75 76)), (0, .ref (ad 65)), (1, .int x1), (2, .int x2)] := hl
    refine lv_aload_n hx hb zd_LassoSearch_keepBetter_107 rfl (lv_at hl 1 rfl) ?_
    refine lv_aload_n hx hb zd_LassoSearch_keepBetter_108 rfl (lv_at hl 1 rfl) ?_
    refine z_get (v := .ref (zfl ad (I 39) 76 75)) hx hb hts hown hK hw zZ3 0 wS_g0 16 (by decide) zn_813 rfl zd_LassoSearch_keepBetter_109 ?_
    refine z_put (v := .ref (zfl ad (I 39) 76 75)) hx hb hts hown hK hw zZ3 0 wS_g0 15 (by decide) zn_812 rfl rfl rfl (Nat.le_of_ble_eq_true rfl) zd_LassoSearch_keepBetter_112 (fun H locs hw => ?_)
    refine lv_aload_n hx hb zd_LassoSearch_keepBetter_115 rfl (lv_at hl 1 rfl) ?_
    refine lv_aload hx hb zd_LassoSearch_keepBetter_116 (lv_at hl 0 rfl) ?_
    refine z_put (v := .ref (zfl ad (I 39) 75 76)) hx hb hts hown hK hw zZ3 0 rfl 16 (by decide) zn_813 rfl rfl rfl (Nat.le_of_ble_eq_true rfl) zd_LassoSearch_keepBetter_118 (fun H locs hw => ?_)
    have hw := wS_swap hw
    refine lv_aload_n hx hb zd_LassoSearch_keepBetter_121 rfl (lv_at hl 1 rfl) ?_
    refine lv_iload_n hx hb zd_LassoSearch_keepBetter_122 rfl (lv_at hl 2 rfl) ?_
    refine z_put (v := .int x1) hx hb hts hown hK hw zZ3 0 wS_g0 18 (by decide) zn_827 rfl rfl rfl (Nat.le_of_ble_eq_true rfl) zd_LassoSearch_keepBetter_123 (fun H locs hw => ?_)
    have hw := wS_sI37 hw
    exact wJ_LassoSearch_keepBetter_126 G K ad a0 Post C (upd (upd I 39 (zflip (I 39))) 37 x1) J (va_up (va_up B 59 (B 60)) 60 (B 59)) D ls H locs hok (lv_sub hl [] rfl) hw
set_option maxHeartbeats 8000000 in
set_option maxRecDepth 100000 in
theorem wJ_LassoSearch_keepBetter_90 {p : Program} {l : Launch} {e : Env} {s : State} {m : MethodId} {below : List Frame} {meth : Method} {c : Code} {A : Nat → Prop} (G : va_G) (K : Nat → ClassId) (ad : Nat → Nat) (a0 : Int32) (Post : (Nat → Int32) → (Nat → Int64) → (Nat → Nat → Int32) → (Nat → Nat → Int64) → Prop) (C : zCx p s m ([.ref (ad 65), .int a0] : List Value).toArray meth c A G K prog_4_method_17_code none 5 "LassoFinder$LassoSearch") (K35 : Int32 → Int32 → Int32 → Int32 → (Nat → Int32) → (Nat → Int64) → (Nat → Nat → Int32) → (Nat → Nat → Int64) → Prop) (kh35 : ∀ (x1 : Int32) (x2 : Int32) (x3 : Int32) (x4 : Int32) (I : Nat → Int32) (J : Nat → Int64) (B : Nat → Nat → Int32) (D : Nat → Nat → Int64) (ls : Array Slot) (H : Heap) (locs : List Loc), K35 x1 x2 x3 x4 I J B D → lv_has ls 5 [(0, .ref (ad 65)), (1, .int x1), (2, .int x2), (3, .int x3), (4, .int x4)] → zW G A s.heap (wS ad K I J B D) H locs → W p l e { frames := 0, cells := 0, slots := 0, locals := 0 } s m ([.ref (ad 65), .int a0] : List Value).toArray below meth c H locs 0 0 (MQ below (va_Qv (fun u : zS => Post u.1 u.2.1 u.2.2.1 u.2.2.2) (fun u t => zPost G K A (wS ad K u.1 u.2.1 u.2.2.1 u.2.2.2) t) A) ([.ref (ad 65), .int a0] : List Value).toArray s 0 0 A) (F0 m 35 ls [])) : ∀ (x1 : Int32) (x3 : Int32) (x4 : Int32) (y0 : Int32) (I : Nat → Int32) (J : Nat → Int64) (B : Nat → Nat → Int32) (D : Nat → Nat → Int64) (ls : Array Slot) (H : Heap) (locs : List Loc), wc_LassoSearch_keepBetter_90 a0 K35 Post x1 x3 x4 y0 I J B D → lv_has ls 5 [(0, .ref (ad 65)), (1, .int x1), (3, .int x3), (4, .int x4)] → zW G A s.heap (wS ad K I J B D) H locs → W p l e { frames := 0, cells := 0, slots := 0, locals := 0 } s m ([.ref (ad 65), .int a0] : List Value).toArray below meth c H locs 0 0 (MQ below (va_Qv (fun u : zS => Post u.1 u.2.1 u.2.2.1 u.2.2.2) (fun u t => zPost G K A (wS ad K u.1 u.2.1 u.2.2.1 u.2.2.2) t) A) ([.ref (ad 65), .int a0] : List Value).toArray s 0 0 A) (F0 m 90 ls [.int y0]) := by
  obtain ⟨hx, hb, hr, hml, hts, hown, hlocks, hA, hK⟩ := id C
  intro x1 x3 x4 y0 I J B D ls H locs hok hl hw
  unfold wc_LassoSearch_keepBetter_90 at hok
  refine lv_istore_n hx hb zd_LassoSearch_keepBetter_90 rfl hl (by decide) rfl (fun ls hl => ?_)
  have hl : lv_has ls 5 [(2, .int y0), (0, .ref (ad 65)), (1, .int x1), (3, .int x3), (4, .int x4)] := hl
  obtain ⟨z2, ez2⟩ : ∃ z : Int32, z = (x4 + 1) := ⟨_, rfl⟩
  have hok := hok z2 ez2
  refine lv_iinc (v := z2) hx hb zd_LassoSearch_keepBetter_91 hl (k := 4) rfl ez2.symm (by decide) rfl (fun ls hl => ?_)
  have hl : lv_has ls 5 [(4, .int z2), (2, .int y0), (0, .ref (ad 65)), (1, .int x1), (3, .int x3)] := hl
  refine lv_goto (tgt := 35) hx hb zd_LassoSearch_keepBetter_94 (by decide) ?_
  exact kh35 x1 y0 x3 z2 I J B D ls H locs hok (lv_sub hl [2, 3, 1, 4, 0] rfl) hw
set_option maxHeartbeats 8000000 in
set_option maxRecDepth 100000 in
theorem wJ_LassoSearch_keepBetter_67 {p : Program} {l : Launch} {e : Env} {s : State} {m : MethodId} {below : List Frame} {meth : Method} {c : Code} {A : Nat → Prop} (G : va_G) (K : Nat → ClassId) (ad : Nat → Nat) (a0 : Int32) (Post : (Nat → Int32) → (Nat → Int64) → (Nat → Nat → Int32) → (Nat → Nat → Int64) → Prop) (C : zCx p s m ([.ref (ad 65), .int a0] : List Value).toArray meth c A G K prog_4_method_17_code none 5 "LassoFinder$LassoSearch") (K35 : Int32 → Int32 → Int32 → Int32 → (Nat → Int32) → (Nat → Int64) → (Nat → Nat → Int32) → (Nat → Nat → Int64) → Prop) (kh35 : ∀ (x1 : Int32) (x2 : Int32) (x3 : Int32) (x4 : Int32) (I : Nat → Int32) (J : Nat → Int64) (B : Nat → Nat → Int32) (D : Nat → Nat → Int64) (ls : Array Slot) (H : Heap) (locs : List Loc), K35 x1 x2 x3 x4 I J B D → lv_has ls 5 [(0, .ref (ad 65)), (1, .int x1), (2, .int x2), (3, .int x3), (4, .int x4)] → zW G A s.heap (wS ad K I J B D) H locs → W p l e { frames := 0, cells := 0, slots := 0, locals := 0 } s m ([.ref (ad 65), .int a0] : List Value).toArray below meth c H locs 0 0 (MQ below (va_Qv (fun u : zS => Post u.1 u.2.1 u.2.2.1 u.2.2.2) (fun u t => zPost G K A (wS ad K u.1 u.2.1 u.2.2.1 u.2.2.2) t) A) ([.ref (ad 65), .int a0] : List Value).toArray s 0 0 A) (F0 m 35 ls [])) : ∀ (x1 : Int32) (x4 : Int32) (y0 : Int32) (I : Nat → Int32) (J : Nat → Int64) (B : Nat → Nat → Int32) (D : Nat → Nat → Int64) (ls : Array Slot) (H : Heap) (locs : List Loc), wc_LassoSearch_keepBetter_67 a0 K35 Post x1 x4 y0 I J B D → lv_has ls 5 [(0, .ref (ad 65)), (1, .int x1), (4, .int x4)] → zW G A s.heap (wS ad K I J B D) H locs → W p l e { frames := 0, cells := 0, slots := 0, locals := 0 } s m ([.ref (ad 65), .int a0] : List Value).toArray below meth c H locs 0 0 (MQ below (va_Qv (fun u : zS => Post u.1 u.2.1 u.2.2.1 u.2.2.2) (fun u t => zPost G K A (wS ad K u.1 u.2.1 u.2.2.1 u.2.2.2) t) A) ([.ref (ad 65), .int a0] : List Value).toArray s 0 0 A) (F0 m 67 ls [.int y0]) := by
  obtain ⟨hx, hb, hr, hml, hts, hown, hlocks, hA, hK⟩ := id C
  intro x1 x4 y0 I J B D ls H locs hok hl hw
  unfold wc_LassoSearch_keepBetter_67 at hok
  refine lv_istore_n hx hb zd_LassoSearch_keepBetter_67 rfl hl (by decide) rfl (fun ls hl => ?_)
  have hl : lv_has ls 5 [(3, .int y0), (0, .ref (ad 65)), (1, .int x1), (4, .int x4)] := hl
  refine lv_aload_n hx hb zd_LassoSearch_keepBetter_68 rfl (lv_at hl 1 rfl) ?_
  refine z_get (v := .ref (zfl ad (I 39) 76 75)) hx hb hts hown hK hw zZ3 0 wS_g0 16 (by decide) zn_813 rfl zd_LassoSearch_keepBetter_69 ?_
  refine lv_iload hx hb zd_LassoSearch_keepBetter_72 (lv_at hl 3 rfl) ?_
  refine va_iald (f := (B 60)) hx hb hK hw.1 11 0 wS_a11 rfl hok.1 zd_LassoSearch_keepBetter_74 ?_
  have hok := hok.2
  refine lv_topi (fun z3 ez3 => ?_)
  have hok := hok z3 ez3
  refine lv_aload_n hx hb zd_LassoSearch_keepBetter_75 rfl (lv_at hl 1 rfl) ?_
  refine z_get (v := .ref (zfl ad (I 39) 75 76)) hx hb hts hown hK hw zZ3 0 wS_g0 15 (by decide) zn_812 rfl zd_LassoSearch_keepBetter_76 ?_
  refine lv_iload hx hb zd_LassoSearch_keepBetter_79 (lv_at hl 3 rfl) ?_
  refine va_iald (f := (B 59)) hx hb hK hw.1 10 0 wS_a10 rfl hok.1 zd_LassoSearch_keepBetter_81 ?_
  have hok := hok.2
  refine lv_topi (fun z4 ez4 => ?_)
  have hok := hok z4 ez4
  refine lv_icmp_ge (tgt := 89) hx hb zd_LassoSearch_keepBetter_82 (by decide) (fun hc5 => ?_) (fun hc5 => ?_)
  · have hok := hok.1 hc5
    refine lv_iconst (v := 0) hx hb zd_LassoSearch_keepBetter_89 (by decide) ?_
    exact wJ_LassoSearch_keepBetter_90 G K ad a0 Post C K35 kh35 x1 y0 x4 0 I J B D ls H locs hok (lv_sub hl [1, 2, 0, 3] rfl) hw
  · have hok := hok.2 hc5
    refine lv_iconst (v := 1) hx hb zd_LassoSearch_keepBetter_85 (by decide) ?_
    refine lv_goto (tgt := 90) hx hb zd_LassoSearch_keepBetter_86 (by decide) ?_
    exact wJ_LassoSearch_keepBetter_90 G K ad a0 Post C K35 kh35 x1 y0 x4 1 I J B D ls H locs hok (lv_sub hl [1, 2, 0, 3] rfl) hw
set_option maxHeartbeats 8000000 in
set_option maxRecDepth 100000 in
theorem wB_LassoSearch_keepBetter_35 {p : Program} {l : Launch} {e : Env} {s : State} {m : MethodId} {below : List Frame} {meth : Method} {c : Code} {A : Nat → Prop} (G : va_G) (K : Nat → ClassId) (ad : Nat → Nat) (a0 : Int32) (Post : (Nat → Int32) → (Nat → Int64) → (Nat → Nat → Int32) → (Nat → Nat → Int64) → Prop) (C : zCx p s m ([.ref (ad 65), .int a0] : List Value).toArray meth c A G K prog_4_method_17_code none 5 "LassoFinder$LassoSearch") (K35 : Int32 → Int32 → Int32 → Int32 → (Nat → Int32) → (Nat → Int64) → (Nat → Nat → Int32) → (Nat → Nat → Int64) → Prop) (kh35 : ∀ (x1 : Int32) (x2 : Int32) (x3 : Int32) (x4 : Int32) (I : Nat → Int32) (J : Nat → Int64) (B : Nat → Nat → Int32) (D : Nat → Nat → Int64) (ls : Array Slot) (H : Heap) (locs : List Loc), K35 x1 x2 x3 x4 I J B D → lv_has ls 5 [(0, .ref (ad 65)), (1, .int x1), (2, .int x2), (3, .int x3), (4, .int x4)] → zW G A s.heap (wS ad K I J B D) H locs → W p l e { frames := 0, cells := 0, slots := 0, locals := 0 } s m ([.ref (ad 65), .int a0] : List Value).toArray below meth c H locs 0 0 (MQ below (va_Qv (fun u : zS => Post u.1 u.2.1 u.2.2.1 u.2.2.2) (fun u t => zPost G K A (wS ad K u.1 u.2.1 u.2.2.1 u.2.2.2) t) A) ([.ref (ad 65), .int a0] : List Value).toArray s 0 0 A) (F0 m 35 ls [])) : ∀ (x1 : Int32) (x2 : Int32) (x3 : Int32) (x4 : Int32) (I : Nat → Int32) (J : Nat → Int64) (B : Nat → Nat → Int32) (D : Nat → Nat → Int64) (ls : Array Slot) (H : Heap) (locs : List Loc), wb_LassoSearch_keepBetter_35 a0 K35 Post x1 x2 x3 x4 I J B D → lv_has ls 5 [(0, .ref (ad 65)), (1, .int x1), (2, .int x2), (3, .int x3), (4, .int x4)] → zW G A s.heap (wS ad K I J B D) H locs → W p l e { frames := 0, cells := 0, slots := 0, locals := 0 } s m ([.ref (ad 65), .int a0] : List Value).toArray below meth c H locs 0 0 (MQ below (va_Qv (fun u : zS => Post u.1 u.2.1 u.2.2.1 u.2.2.2) (fun u t => zPost G K A (wS ad K u.1 u.2.1 u.2.2.1 u.2.2.2) t) A) ([.ref (ad 65), .int a0] : List Value).toArray s 0 0 A) (F0 m 35 ls []) := by
  obtain ⟨hx, hb, hr, hml, hts, hown, hlocks, hA, hK⟩ := id C
  intro x1 x2 x3 x4 I J B D ls H locs hok hl hw
  unfold wb_LassoSearch_keepBetter_35 at hok
  refine lv_iload hx hb zd_LassoSearch_keepBetter_35 (lv_at hl 4 rfl) ?_
  refine lv_iload_n hx hb zd_LassoSearch_keepBetter_37 rfl (lv_at hl 1 rfl) ?_
  refine lv_icmp_ge (tgt := 97) hx hb zd_LassoSearch_keepBetter_38 (by decide) (fun hc6 => ?_) (fun hc6 => ?_)
  · have hok := hok.1 hc6
    exact wJ_LassoSearch_keepBetter_97 G K ad a0 Post C x1 x2 I J B D ls H locs hok (lv_sub hl [0, 1, 2] rfl) hw
  · have hok := hok.2 hc6
    refine lv_iload_n hx hb zd_LassoSearch_keepBetter_41 rfl (lv_at hl 3 rfl) ?_
    refine lv_if_eq (tgt := 97) hx hb zd_LassoSearch_keepBetter_42 (by decide) (fun hc7 => ?_) (fun hc7 => ?_)
    · have hok := hok.1 hc7
      exact wJ_LassoSearch_keepBetter_97 G K ad a0 Post C x1 x2 I J B D ls H locs hok (lv_sub hl [0, 1, 2] rfl) hw
    · have hok := hok.2 hc7
      refine lv_aload_n hx hb zd_LassoSearch_keepBetter_45 rfl (lv_at hl 0 rfl) ?_
      refine z_get (v := .ref (zfl ad (I 39) 76 75)) hx hb hts hown hK hw zZ3 0 wS_g0 16 (by decide) zn_813 rfl zd_LassoSearch_keepBetter_46 ?_
      refine lv_iload hx hb zd_LassoSearch_keepBetter_49 (lv_at hl 4 rfl) ?_
      refine va_iald (f := (B 60)) hx hb hK hw.1 11 0 wS_a11 rfl hok.1 zd_LassoSearch_keepBetter_51 ?_
      have hok := hok.2
      refine lv_topi (fun z8 ez8 => ?_)
      have hok := hok z8 ez8
      refine lv_aload_n hx hb zd_LassoSearch_keepBetter_52 rfl (lv_at hl 0 rfl) ?_
      refine z_get (v := .ref (zfl ad (I 39) 75 76)) hx hb hts hown hK hw zZ3 0 wS_g0 15 (by decide) zn_812 rfl zd_LassoSearch_keepBetter_53 ?_
      refine lv_iload hx hb zd_LassoSearch_keepBetter_56 (lv_at hl 4 rfl) ?_
      refine va_iald (f := (B 59)) hx hb hK hw.1 10 0 wS_a10 rfl hok.1 zd_LassoSearch_keepBetter_58 ?_
      have hok := hok.2
      refine lv_topi (fun z9 ez9 => ?_)
      have hok := hok z9 ez9
      refine lv_icmp_ne (tgt := 66) hx hb zd_LassoSearch_keepBetter_59 (by decide) (fun hc10 => ?_) (fun hc10 => ?_)
      · have hok := hok.1 hc10
        refine lv_iconst (v := 0) hx hb zd_LassoSearch_keepBetter_66 (by decide) ?_
        exact wJ_LassoSearch_keepBetter_67 G K ad a0 Post C K35 kh35 x1 x4 0 I J B D ls H locs hok (lv_sub hl [0, 1, 4] rfl) hw
      · have hok := hok.2 hc10
        refine lv_iconst (v := 1) hx hb zd_LassoSearch_keepBetter_62 (by decide) ?_
        refine lv_goto (tgt := 67) hx hb zd_LassoSearch_keepBetter_63 (by decide) ?_
        exact wJ_LassoSearch_keepBetter_67 G K ad a0 Post C K35 kh35 x1 x4 1 I J B D ls H locs hok (lv_sub hl [0, 1, 4] rfl) hw
theorem wL_LassoSearch_keepBetter_35 {p : Program} {l : Launch} {e : Env} {s : State} {m : MethodId} {below : List Frame} {meth : Method} {c : Code} {A : Nat → Prop} (G : va_G) (K : Nat → ClassId) (ad : Nat → Nat) (a0 : Int32) (Post : (Nat → Int32) → (Nat → Int64) → (Nat → Nat → Int32) → (Nat → Nat → Int64) → Prop) (C : zCx p s m ([.ref (ad 65), .int a0] : List Value).toArray meth c A G K prog_4_method_17_code none 5 "LassoFinder$LassoSearch") : ∀ (n : Nat) (x1 : Int32) (x2 : Int32) (x3 : Int32) (x4 : Int32) (I : Nat → Int32) (J : Nat → Int64) (B : Nat → Nat → Int32) (D : Nat → Nat → Int64) (ls : Array Slot) (H : Heap) (locs : List Loc), wl_LassoSearch_keepBetter_35 a0 Post n x1 x2 x3 x4 I J B D → lv_has ls 5 [(0, .ref (ad 65)), (1, .int x1), (2, .int x2), (3, .int x3), (4, .int x4)] → zW G A s.heap (wS ad K I J B D) H locs → W p l e { frames := 0, cells := 0, slots := 0, locals := 0 } s m ([.ref (ad 65), .int a0] : List Value).toArray below meth c H locs 0 0 (MQ below (va_Qv (fun u : zS => Post u.1 u.2.1 u.2.2.1 u.2.2.2) (fun u t => zPost G K A (wS ad K u.1 u.2.1 u.2.2.1 u.2.2.2) t) A) ([.ref (ad 65), .int a0] : List Value).toArray s 0 0 A) (F0 m 35 ls []) := by
  intro n
  induction n with
  | zero => intro x1 x2 x3 x4 I J B D ls H locs hok; exact hok.elim
  | succ n ih => exact wB_LassoSearch_keepBetter_35 G K ad a0 Post C (wl_LassoSearch_keepBetter_35 a0 Post n) ih
set_option maxHeartbeats 8000000 in
set_option maxRecDepth 100000 in
theorem wJ_LassoSearch_keepBetter_31 {p : Program} {l : Launch} {e : Env} {s : State} {m : MethodId} {below : List Frame} {meth : Method} {c : Code} {A : Nat → Prop} (G : va_G) (K : Nat → ClassId) (ad : Nat → Nat) (a0 : Int32) (Post : (Nat → Int32) → (Nat → Int64) → (Nat → Nat → Int32) → (Nat → Nat → Int64) → Prop) (C : zCx p s m ([.ref (ad 65), .int a0] : List Value).toArray meth c A G K prog_4_method_17_code none 5 "LassoFinder$LassoSearch") : ∀ (x1 : Int32) (x2 : Int32) (y0 : Int32) (I : Nat → Int32) (J : Nat → Int64) (B : Nat → Nat → Int32) (D : Nat → Nat → Int64) (ls : Array Slot) (H : Heap) (locs : List Loc), wc_LassoSearch_keepBetter_31 a0 Post x1 x2 y0 I J B D → lv_has ls 5 [(0, .ref (ad 65)), (1, .int x1), (2, .int x2)] → zW G A s.heap (wS ad K I J B D) H locs → W p l e { frames := 0, cells := 0, slots := 0, locals := 0 } s m ([.ref (ad 65), .int a0] : List Value).toArray below meth c H locs 0 0 (MQ below (va_Qv (fun u : zS => Post u.1 u.2.1 u.2.2.1 u.2.2.2) (fun u t => zPost G K A (wS ad K u.1 u.2.1 u.2.2.1 u.2.2.2) t) A) ([.ref (ad 65), .int a0] : List Value).toArray s 0 0 A) (F0 m 31 ls [.int y0]) := by
  obtain ⟨hx, hb, hr, hml, hts, hown, hlocks, hA, hK⟩ := id C
  intro x1 x2 y0 I J B D ls H locs hok hl hw
  unfold wc_LassoSearch_keepBetter_31 at hok
  refine lv_istore_n hx hb zd_LassoSearch_keepBetter_31 rfl hl (by decide) rfl (fun ls hl => ?_)
  have hl : lv_has ls 5 [(3, .int y0), (0, .ref (ad 65)), (1, .int x1), (2, .int x2)] := hl
  refine lv_iconst (v := 0) hx hb zd_LassoSearch_keepBetter_32 (by decide) ?_
  refine lv_istore hx hb zd_LassoSearch_keepBetter_33 hl (by decide) rfl (fun ls hl => ?_)
  have hl : lv_has ls 5 [(4, .int 0), (3, .int y0), (0, .ref (ad 65)), (1, .int x1), (2, .int x2)] := hl
  obtain ⟨n9, hok⟩ := hok
  exact wL_LassoSearch_keepBetter_35 G K ad a0 Post C n9 x1 x2 y0 0 I J B D ls H locs hok (lv_sub hl [2, 3, 4, 1, 0] rfl) hw
set_option maxHeartbeats 8000000 in
set_option maxRecDepth 100000 in
theorem wJ_LassoSearch_keepBetter_21 {p : Program} {l : Launch} {e : Env} {s : State} {m : MethodId} {below : List Frame} {meth : Method} {c : Code} {A : Nat → Prop} (G : va_G) (K : Nat → ClassId) (ad : Nat → Nat) (a0 : Int32) (Post : (Nat → Int32) → (Nat → Int64) → (Nat → Nat → Int32) → (Nat → Nat → Int64) → Prop) (C : zCx p s m ([.ref (ad 65), .int a0] : List Value).toArray meth c A G K prog_4_method_17_code none 5 "LassoFinder$LassoSearch") : ∀ (x1 : Int32) (y0 : Int32) (I : Nat → Int32) (J : Nat → Int64) (B : Nat → Nat → Int32) (D : Nat → Nat → Int64) (ls : Array Slot) (H : Heap) (locs : List Loc), wc_LassoSearch_keepBetter_21 a0 Post x1 y0 I J B D → lv_has ls 5 [(0, .ref (ad 65)), (1, .int x1)] → zW G A s.heap (wS ad K I J B D) H locs → W p l e { frames := 0, cells := 0, slots := 0, locals := 0 } s m ([.ref (ad 65), .int a0] : List Value).toArray below meth c H locs 0 0 (MQ below (va_Qv (fun u : zS => Post u.1 u.2.1 u.2.2.1 u.2.2.2) (fun u t => zPost G K A (wS ad K u.1 u.2.1 u.2.2.1 u.2.2.2) t) A) ([.ref (ad 65), .int a0] : List Value).toArray s 0 0 A) (F0 m 21 ls [.int y0]) := by
  obtain ⟨hx, hb, hr, hml, hts, hown, hlocks, hA, hK⟩ := id C
  intro x1 y0 I J B D ls H locs hok hl hw
  unfold wc_LassoSearch_keepBetter_21 at hok
  refine lv_istore_n hx hb zd_LassoSearch_keepBetter_21 rfl hl (by decide) rfl (fun ls hl => ?_)
  have hl : lv_has ls 5 [(2, .int y0), (0, .ref (ad 65)), (1, .int x1)] := hl
  refine lv_iload_n hx hb zd_LassoSearch_keepBetter_22 rfl (lv_at hl 0 rfl) ?_
  refine lv_if_ne (tgt := 30) hx hb zd_LassoSearch_keepBetter_23 (by decide) (fun hc11 => ?_) (fun hc11 => ?_)
  · have hok := hok.1 hc11
    refine lv_iconst (v := 0) hx hb zd_LassoSearch_keepBetter_30 (by decide) ?_
    exact wJ_LassoSearch_keepBetter_31 G K ad a0 Post C x1 y0 0 I J B D ls H locs hok (lv_sub hl [1, 2, 0] rfl) hw
  · have hok := hok.2 hc11
    refine lv_iconst (v := 1) hx hb zd_LassoSearch_keepBetter_26 (by decide) ?_
    refine lv_goto (tgt := 31) hx hb zd_LassoSearch_keepBetter_27 (by decide) ?_
    exact wJ_LassoSearch_keepBetter_31 G K ad a0 Post C x1 y0 1 I J B D ls H locs hok (lv_sub hl [1, 2, 0] rfl) hw
set_option maxHeartbeats 8000000 in
set_option maxRecDepth 100000 in
theorem wJ_LassoSearch_keepBetter_16 {p : Program} {l : Launch} {e : Env} {s : State} {m : MethodId} {below : List Frame} {meth : Method} {c : Code} {A : Nat → Prop} (G : va_G) (K : Nat → ClassId) (ad : Nat → Nat) (a0 : Int32) (Post : (Nat → Int32) → (Nat → Int64) → (Nat → Nat → Int32) → (Nat → Nat → Int64) → Prop) (C : zCx p s m ([.ref (ad 65), .int a0] : List Value).toArray meth c A G K prog_4_method_17_code none 5 "LassoFinder$LassoSearch") : ∀ (x1 : Int32) (I : Nat → Int32) (J : Nat → Int64) (B : Nat → Nat → Int32) (D : Nat → Nat → Int64) (ls : Array Slot) (H : Heap) (locs : List Loc), wc_LassoSearch_keepBetter_16 a0 Post x1 I J B D → lv_has ls 5 [(0, .ref (ad 65)), (1, .int x1)] → zW G A s.heap (wS ad K I J B D) H locs → W p l e { frames := 0, cells := 0, slots := 0, locals := 0 } s m ([.ref (ad 65), .int a0] : List Value).toArray below meth c H locs 0 0 (MQ below (va_Qv (fun u : zS => Post u.1 u.2.1 u.2.2.1 u.2.2.2) (fun u t => zPost G K A (wS ad K u.1 u.2.1 u.2.2.1 u.2.2.2) t) A) ([.ref (ad 65), .int a0] : List Value).toArray s 0 0 A) (F0 m 16 ls []) := by
  obtain ⟨hx, hb, hr, hml, hts, hown, hlocks, hA, hK⟩ := id C
  intro x1 I J B D ls H locs hok hl hw
  unfold wc_LassoSearch_keepBetter_16 at hok
  refine lv_iconst (v := 1) hx hb zd_LassoSearch_keepBetter_16 (by decide) ?_
  refine lv_goto (tgt := 21) hx hb zd_LassoSearch_keepBetter_17 (by decide) ?_
  exact wJ_LassoSearch_keepBetter_21 G K ad a0 Post C x1 1 I J B D ls H locs hok (lv_sub hl [0, 1] rfl) hw
set_option maxHeartbeats 8000000 in
set_option maxRecDepth 100000 in
theorem w_LassoSearch_keepBetter (l : Launch) (G : va_G) (K : Nat → ClassId) (ad : Nat → Nat) (I : Nat → Int32) (J : Nat → Int64) (B : Nat → Nat → Int32) (D : Nat → Nat → Int64) (a0 : Int32) (Post : (Nat → Int32) → (Nat → Int64) → (Nat → Nat → Int32) → (Nat → Nat → Int64) → Prop) (sz : Nat) (hok : wp_LassoSearch_keepBetter I J B D a0 Post) : Met l zy_LassoSearch_keepBetter (Cond.code zy_LassoSearch_keepBetter prog_4_method_17_code 5 none :: zTB) { frames := 0, cells := 0, slots := 0, locals := 0 } (va_Pc [.ref (ad 65), .int a0] (zPre G K (wS ad K I J B D) sz)) (va_Qv (fun u : zS => Post u.1 u.2.1 u.2.2.1 u.2.2.2) (fun u t => zPost G K (va_A (wS ad K I J B D) sz) (wS ad K u.1 u.2.1 u.2.2.1 u.2.2.2) t) (va_A (wS ad K I J B D) sz)) 0 0 (va_A (wS ad K I J B D) sz) := by
  refine zMet (y := zy_LassoSearch_keepBetter) (av := [.ref (ad 65), .int a0]) (maxL := 5) (cc := prog_4_method_17_code) (ret := none) (W0 := (wS ad K I J B D)) (sz := sz) (G := G) (K := K) (wt := zTB) (mc := 0) (ms := 0) (Qf := fun A => va_Qv (fun u : zS => Post u.1 u.2.1 u.2.2.1 u.2.2.2) (fun u t => zPost G K A (wS ad K u.1 u.2.1 u.2.2.1 u.2.2.2) t) A) (by decide) (Nat.le_of_ble_eq_true rfl) ?_
  intro p e s m below meth c ls A hx hb hr hml hts hown hlocks hin hA hK H locs hw hsz hl
  clear hsz
  have hown : s.vm.findClass "LassoFinder$LassoSearch" = some m.cls := hown
  have C : zCx p s m ([.ref (ad 65), .int a0] : List Value).toArray meth c A G K prog_4_method_17_code none 5 "LassoFinder$LassoSearch" := ⟨hx, hb, hr, hml, hts, hown, hlocks, hA, hK⟩
  have hl : lv_has ls 5 [(0, .ref (ad 65)), (1, .int a0)] := hl
  have hw : zW G A s.heap (wS ad K I J B D) H locs := hw
  unfold wp_LassoSearch_keepBetter at hok
  refine lv_aload_n hx hb zd_LassoSearch_keepBetter_0 rfl (lv_at hl 0 rfl) ?_
  refine z_get (v := .int (I 37)) hx hb hts hown hK hw zZ3 0 wS_g0 18 (by decide) zn_827 rfl zd_LassoSearch_keepBetter_1 ?_
  refine lv_iconst (v := (-1)) hx hb zd_LassoSearch_keepBetter_4 (by decide) ?_
  refine lv_icmp_eq (tgt := 16) hx hb zd_LassoSearch_keepBetter_5 (by decide) (fun hc12 => ?_) (fun hc12 => ?_)
  · have hok := hok.1 hc12
    exact wJ_LassoSearch_keepBetter_16 G K ad a0 Post C a0 I J B D ls H locs hok (lv_sub hl [0, 1] rfl) hw
  · have hok := hok.2 hc12
    refine lv_iload_n hx hb zd_LassoSearch_keepBetter_8 rfl (lv_at hl 1 rfl) ?_
    refine lv_aload_n hx hb zd_LassoSearch_keepBetter_9 rfl (lv_at hl 0 rfl) ?_
    refine z_get (v := .int (I 37)) hx hb hts hown hK hw zZ3 0 wS_g0 18 (by decide) zn_827 rfl zd_LassoSearch_keepBetter_10 ?_
    refine lv_icmp_ge (tgt := 20) hx hb zd_LassoSearch_keepBetter_13 (by decide) (fun hc13 => ?_) (fun hc13 => ?_)
    · have hok := hok.1 hc13
      refine lv_iconst (v := 0) hx hb zd_LassoSearch_keepBetter_20 (by decide) ?_
      exact wJ_LassoSearch_keepBetter_21 G K ad a0 Post C a0 0 I J B D ls H locs hok (lv_sub hl [0, 1] rfl) hw
    · have hok := hok.2 hc13
      exact wJ_LassoSearch_keepBetter_16 G K ad a0 Post C a0 I J B D ls H locs hok (lv_sub hl [0, 1] rfl) hw
