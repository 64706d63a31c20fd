abbrev zy_ModelReader_endProcess : MethodName := ⟨"LassoFinder$ModelReader", "endProcess", "()V"⟩
abbrev zy_Terms_reckon : MethodName := ⟨"LassoFinder$Terms", "reckon", "(I[I)I"⟩
abbrev zy_Terms_joined : MethodName := ⟨"LassoFinder$Terms", "joined", "(III)I"⟩
abbrev zy_Situation_put : MethodName := ⟨"LassoFinder$Situation", "put", "(II)V"⟩
abbrev zy_Situation_taken : MethodName := ⟨"LassoFinder$Situation", "taken", "(I)I"⟩
abbrev zy_Situation_passOn : MethodName := ⟨"LassoFinder$Situation", "passOn", "(I)V"⟩
abbrev zy_Graph_add : MethodName := ⟨"LassoFinder$Graph", "add", "(IIII)Z"⟩
abbrev zy_Graph_turnRound : MethodName := ⟨"LassoFinder$Graph", "turnRound", "()V"⟩
theorem zn_330 : Cond.methodLink "LassoFinder$ModelReader" 47 ⟨"LassoFinder$Text", "ahead", "()C"⟩ ∈ zTB := z_in (zt_3 _ (List.mem_of_getElem? (i := 122) rfl)) rfl
theorem zn_377 : Cond.methodLink "LassoFinder$ModelReader" 100 ⟨"LassoFinder$ModelReader", "checkJumps", "()V"⟩ ∈ zTB := z_in (zt_4 _ (List.mem_of_getElem? (i := 100) rfl)) rfl
theorem zn_381 : Cond.methodLink "LassoFinder$ModelReader" 103 ⟨"LassoFinder$Program", "takeProcess", "(LLassoFinder$Tree;)V"⟩ ∈ zTB := z_in (zt_4 _ (List.mem_of_getElem? (i := 116) rfl)) rfl
theorem zn_400 : Cond.methodLink "LassoFinder$Terms" 95 ⟨"LassoFinder$Terms", "joined", "(III)I"⟩ ∈ zTB := z_in (zt_4 _ (List.mem_of_getElem? (i := 179) rfl)) rfl
theorem zn_412 : Cond.methodLink "LassoFinder$Graph" 97 ⟨"java/util/Arrays", "fill", "([II)V"⟩ ∈ zTB := z_in (zt_4 _ (List.mem_of_getElem? (i := 224) rfl)) rfl
theorem zn_461 : Cond.fieldLink "LassoFinder$Graph" 41 "LassoFinder$Graph" "states" "I" ∈ zTB := z_in (zt_2 _ (List.mem_of_getElem? (i := 102) rfl)) rfl
theorem zn_462 : Cond.fieldLink "LassoFinder$Graph" 45 "LassoFinder$Graph" "steps" "I" ∈ zTB := z_in (zt_2 _ (List.mem_of_getElem? (i := 105) rfl)) rfl
theorem zn_463 : Cond.fieldLink "LassoFinder$Situation" 19 "LassoFinder$Situation" "program" "LLassoFinder$Program;" ∈ zTB := z_in (zt_2 _ (List.mem_of_getElem? (i := 46) rfl)) rfl
theorem zn_469 : Cond.fieldLink "LassoFinder$Situation" 118 "LassoFinder$Program" "actor" "[I" ∈ zTB := z_in (zt_1 _ (List.mem_of_getElem? (i := 105) rfl)) rfl
theorem zn_470 : Cond.fieldLink "LassoFinder$Situation" 142 "LassoFinder$Program" "after" "[I" ∈ zTB := z_in (zt_1 _ (List.mem_of_getElem? (i := 107) rfl)) rfl
theorem zn_471 : Cond.fieldLink "LassoFinder$Situation" 145 "LassoFinder$Program" "keeps" "[Z" ∈ zTB := z_in (zt_1 _ (List.mem_of_getElem? (i := 109) rfl)) rfl
theorem zn_673 : Cond.code ⟨"LassoFinder$ModelReader", "checkJumps", "()V"⟩ prog_5_method_5_code 3 none ∈ zTB := z_in (zt_4 _ (List.mem_of_getElem? (i := 103) rfl)) rfl
theorem zn_674 : Cond.instanceMethod ⟨"LassoFinder$ModelReader", "checkJumps", "()V"⟩ ∈ zTB := z_in (zt_4 _ (List.mem_of_getElem? (i := 102) rfl)) rfl
theorem zn_675 : Cond.code ⟨"LassoFinder$Program", "takeProcess", "(LLassoFinder$Tree;)V"⟩ prog_7_method_5_code 4 none ∈ zTB := z_in (zt_4 _ (List.mem_of_getElem? (i := 119) rfl)) rfl
theorem zn_676 : Cond.selects "LassoFinder$Program" ⟨"LassoFinder$Program", "takeProcess", "(LLassoFinder$Tree;)V"⟩ ⟨"LassoFinder$Program", "takeProcess", "(LLassoFinder$Tree;)V"⟩ ∈ zTB := z_in (zt_4 _ (List.mem_of_getElem? (i := 118) rfl)) rfl
theorem zn_677 : Cond.instanceMethod ⟨"LassoFinder$Program", "takeProcess", "(LLassoFinder$Tree;)V"⟩ ∈ zTB := z_in (zt_4 _ (List.mem_of_getElem? (i := 117) rfl)) rfl
theorem zn_678 : Cond.code ⟨"LassoFinder$Terms", "joined", "(III)I"⟩ prog_9_method_13_code 3 (some .int) ∈ zTB := z_in (zt_4 _ (List.mem_of_getElem? (i := 181) rfl)) rfl
theorem zn_679 : Cond.static ⟨"LassoFinder$Terms", "joined", "(III)I"⟩ ∈ zTB := z_in (zt_4 _ (List.mem_of_getElem? (i := 180) rfl)) rfl
theorem zf_ModelReader_checkJumps : zFaceV zy_ModelReader_checkJumps prog_5_method_5_code 3 none 0 := ⟨zn_674, (z_in (zp_2 _ (List.mem_of_getElem? (i := 6) rfl)) rfl), zm_9, zn_673, by decide +kernel, by decide +kernel, by decide +kernel⟩
theorem zf_Program_takeProcess : zFaceV zy_Program_takeProcess prog_7_method_5_code 4 none 1 := ⟨zn_677, zn_676, zm_13, zn_675, by decide +kernel, by decide +kernel, by decide +kernel⟩
theorem zf_Terms_joined : zFaceS zy_Terms_joined prog_9_method_13_code 3 (some .int) 3 := ⟨zn_679, zm_17, zn_678, by decide +kernel, by decide +kernel, by decide +kernel⟩
theorem zd_Graph_add_0 : decode prog_3_method_7_code 0 = .ok (.aload_n 0, 1) := by decide +kernel
theorem zd_Graph_add_1 : decode prog_3_method_7_code 1 = .ok (.getfield 45, 3) := by decide +kernel
theorem zd_Graph_add_4 : decode prog_3_method_7_code 4 = .ok (.sipush 400, 3) := by decide +kernel
theorem zd_Graph_add_7 : decode prog_3_method_7_code 7 = .ok (.if_icmp .ne 5, 3) := by decide +kernel
theorem zd_Graph_add_10 : decode prog_3_method_7_code 10 = .ok (.iconst 0, 1) := by decide +kernel
theorem zd_Graph_add_11 : decode prog_3_method_7_code 11 = .ok (.ireturn, 1) := by decide +kernel
theorem zd_Graph_add_12 : decode prog_3_method_7_code 12 = .ok (.aload_n 0, 1) := by decide +kernel
theorem zd_Graph_add_13 : decode prog_3_method_7_code 13 = .ok (.getfield 23, 3) := by decide +kernel
theorem zd_Graph_add_16 : decode prog_3_method_7_code 16 = .ok (.aload_n 0, 1) := by decide +kernel
theorem zd_Graph_add_17 : decode prog_3_method_7_code 17 = .ok (.getfield 45, 3) := by decide +kernel
theorem zd_Graph_add_20 : decode prog_3_method_7_code 20 = .ok (.iload_n 1, 1) := by decide +kernel
theorem zd_Graph_add_21 : decode prog_3_method_7_code 21 = .ok (.iastore, 1) := by decide +kernel
theorem zd_Graph_add_22 : decode prog_3_method_7_code 22 = .ok (.aload_n 0, 1) := by decide +kernel
theorem zd_Graph_add_23 : decode prog_3_method_7_code 23 = .ok (.getfield 26, 3) := by decide +kernel
theorem zd_Graph_add_26 : decode prog_3_method_7_code 26 = .ok (.aload_n 0, 1) := by decide +kernel
theorem zd_Graph_add_27 : decode prog_3_method_7_code 27 = .ok (.getfield 45, 3) := by decide +kernel
theorem zd_Graph_add_30 : decode prog_3_method_7_code 30 = .ok (.iload_n 2, 1) := by decide +kernel
theorem zd_Graph_add_31 : decode prog_3_method_7_code 31 = .ok (.iastore, 1) := by decide +kernel
theorem zd_Graph_add_32 : decode prog_3_method_7_code 32 = .ok (.aload_n 0, 1) := by decide +kernel
theorem zd_Graph_add_33 : decode prog_3_method_7_code 33 = .ok (.getfield 29, 3) := by decide +kernel
theorem zd_Graph_add_36 : decode prog_3_method_7_code 36 = .ok (.aload_n 0, 1) := by decide +kernel
theorem zd_Graph_add_37 : decode prog_3_method_7_code 37 = .ok (.getfield 45, 3) := by decide +kernel
theorem zd_Graph_add_40 : decode prog_3_method_7_code 40 = .ok (.iload_n 3, 1) := by decide +kernel
theorem zd_Graph_add_41 : decode prog_3_method_7_code 41 = .ok (.iastore, 1) := by decide +kernel
theorem zd_Graph_add_42 : decode prog_3_method_7_code 42 = .ok (.aload_n 0, 1) := by decide +kernel
theorem zd_Graph_add_43 : decode prog_3_method_7_code 43 = .ok (.getfield 32, 3) := by decide +kernel
theorem zd_Graph_add_46 : decode prog_3_method_7_code 46 = .ok (.aload_n 0, 1) := by decide +kernel
theorem zd_Graph_add_47 : decode prog_3_method_7_code 47 = .ok (.getfield 45, 3) := by decide +kernel
theorem zd_Graph_add_50 : decode prog_3_method_7_code 50 = .ok (.iload 4, 2) := by decide +kernel
theorem zd_Graph_add_52 : decode prog_3_method_7_code 52 = .ok (.iastore, 1) := by decide +kernel
theorem zd_Graph_add_53 : decode prog_3_method_7_code 53 = .ok (.aload_n 0, 1) := by decide +kernel
theorem zd_Graph_add_54 : decode prog_3_method_7_code 54 = .ok (.dup, 1) := by decide +kernel
theorem zd_Graph_add_55 : decode prog_3_method_7_code 55 = .ok (.getfield 45, 3) := by decide +kernel
theorem zd_Graph_add_58 : decode prog_3_method_7_code 58 = .ok (.iconst 1, 1) := by decide +kernel
theorem zd_Graph_add_59 : decode prog_3_method_7_code 59 = .ok (.iadd, 1) := by decide +kernel
theorem zd_Graph_add_60 : decode prog_3_method_7_code 60 = .ok (.putfield 45, 3) := by decide +kernel
theorem zd_Graph_add_63 : decode prog_3_method_7_code 63 = .ok (.iconst 1, 1) := by decide +kernel
theorem zd_Graph_add_64 : decode prog_3_method_7_code 64 = .ok (.ireturn, 1) := by decide +kernel
theorem zd_Graph_turnRound_0 : decode prog_3_method_9_code 0 = .ok (.aload_n 0, 1) := by decide +kernel
theorem zd_Graph_turnRound_1 : decode prog_3_method_9_code 1 = .ok (.getfield 35, 3) := by decide +kernel
theorem zd_Graph_turnRound_4 : decode prog_3_method_9_code 4 = .ok (.iconst 0, 1) := by decide +kernel
theorem zd_Graph_turnRound_5 : decode prog_3_method_9_code 5 = .ok (.invokestatic 97, 3) := by decide +kernel
theorem zd_Graph_turnRound_8 : decode prog_3_method_9_code 8 = .ok (.iconst 0, 1) := by decide +kernel
theorem zd_Graph_turnRound_9 : decode prog_3_method_9_code 9 = .ok (.istore_n 1, 1) := by decide +kernel
theorem zd_Graph_turnRound_10 : decode prog_3_method_9_code 10 = .ok (.iload_n 1, 1) := by decide +kernel
theorem zd_Graph_turnRound_11 : decode prog_3_method_9_code 11 = .ok (.aload_n 0, 1) := by decide +kernel
theorem zd_Graph_turnRound_12 : decode prog_3_method_9_code 12 = .ok (.getfield 45, 3) := by decide +kernel
theorem zd_Graph_turnRound_15 : decode prog_3_method_9_code 15 = .ok (.if_icmp .ge 24, 3) := by decide +kernel
theorem zd_Graph_turnRound_18 : decode prog_3_method_9_code 18 = .ok (.aload_n 0, 1) := by decide +kernel
theorem zd_Graph_turnRound_19 : decode prog_3_method_9_code 19 = .ok (.getfield 35, 3) := by decide +kernel
theorem zd_Graph_turnRound_22 : decode prog_3_method_9_code 22 = .ok (.aload_n 0, 1) := by decide +kernel
theorem zd_Graph_turnRound_23 : decode prog_3_method_9_code 23 = .ok (.getfield 26, 3) := by decide +kernel
theorem zd_Graph_turnRound_26 : decode prog_3_method_9_code 26 = .ok (.iload_n 1, 1) := by decide +kernel
theorem zd_Graph_turnRound_27 : decode prog_3_method_9_code 27 = .ok (.iaload, 1) := by decide +kernel
theorem zd_Graph_turnRound_28 : decode prog_3_method_9_code 28 = .ok (.dup2, 1) := by decide +kernel
theorem zd_Graph_turnRound_29 : decode prog_3_method_9_code 29 = .ok (.iaload, 1) := by decide +kernel
theorem zd_Graph_turnRound_30 : decode prog_3_method_9_code 30 = .ok (.iconst 1, 1) := by decide +kernel
theorem zd_Graph_turnRound_31 : decode prog_3_method_9_code 31 = .ok (.iadd, 1) := by decide +kernel
theorem zd_Graph_turnRound_32 : decode prog_3_method_9_code 32 = .ok (.iastore, 1) := by decide +kernel
theorem zd_Graph_turnRound_33 : decode prog_3_method_9_code 33 = .ok (.iinc 1 1, 3) := by decide +kernel
theorem zd_Graph_turnRound_36 : decode prog_3_method_9_code 36 = .ok (.goto (-26), 3) := by decide +kernel
theorem zd_Graph_turnRound_39 : decode prog_3_method_9_code 39 = .ok (.iconst 1, 1) := by decide +kernel
theorem zd_Graph_turnRound_40 : decode prog_3_method_9_code 40 = .ok (.istore_n 1, 1) := by decide +kernel
theorem zd_Graph_turnRound_41 : decode prog_3_method_9_code 41 = .ok (.iload_n 1, 1) := by decide +kernel
theorem zd_Graph_turnRound_42 : decode prog_3_method_9_code 42 = .ok (.aload_n 0, 1) := by decide +kernel
theorem zd_Graph_turnRound_43 : decode prog_3_method_9_code 43 = .ok (.getfield 41, 3) := by decide +kernel
theorem zd_Graph_turnRound_46 : decode prog_3_method_9_code 46 = .ok (.if_icmp .gt 26, 3) := by decide +kernel
theorem zd_Graph_turnRound_49 : decode prog_3_method_9_code 49 = .ok (.aload_n 0, 1) := by decide +kernel
theorem zd_Graph_turnRound_50 : decode prog_3_method_9_code 50 = .ok (.getfield 35, 3) := by decide +kernel
theorem zd_Graph_turnRound_53 : decode prog_3_method_9_code 53 = .ok (.iload_n 1, 1) := by decide +kernel
theorem zd_Graph_turnRound_54 : decode prog_3_method_9_code 54 = .ok (.dup2, 1) := by decide +kernel
theorem zd_Graph_turnRound_55 : decode prog_3_method_9_code 55 = .ok (.iaload, 1) := by decide +kernel
theorem zd_Graph_turnRound_56 : decode prog_3_method_9_code 56 = .ok (.aload_n 0, 1) := by decide +kernel
theorem zd_Graph_turnRound_57 : decode prog_3_method_9_code 57 = .ok (.getfield 35, 3) := by decide +kernel
theorem zd_Graph_turnRound_60 : decode prog_3_method_9_code 60 = .ok (.iload_n 1, 1) := by decide +kernel
theorem zd_Graph_turnRound_61 : decode prog_3_method_9_code 61 = .ok (.iconst 1, 1) := by decide +kernel
theorem zd_Graph_turnRound_62 : decode prog_3_method_9_code 62 = .ok (.isub, 1) := by decide +kernel
theorem zd_Graph_turnRound_63 : decode prog_3_method_9_code 63 = .ok (.iaload, 1) := by decide +kernel
theorem zd_Graph_turnRound_64 : decode prog_3_method_9_code 64 = .ok (.iadd, 1) := by decide +kernel
theorem zd_Graph_turnRound_65 : decode prog_3_method_9_code 65 = .ok (.iastore, 1) := by decide +kernel
theorem zd_Graph_turnRound_66 : decode prog_3_method_9_code 66 = .ok (.iinc 1 1, 3) := by decide +kernel
theorem zd_Graph_turnRound_69 : decode prog_3_method_9_code 69 = .ok (.goto (-28), 3) := by decide +kernel
theorem zd_Graph_turnRound_72 : decode prog_3_method_9_code 72 = .ok (.aload_n 0, 1) := by decide +kernel
theorem zd_Graph_turnRound_73 : decode prog_3_method_9_code 73 = .ok (.getfield 45, 3) := by decide +kernel
theorem zd_Graph_turnRound_76 : decode prog_3_method_9_code 76 = .ok (.iconst 1, 1) := by decide +kernel
theorem zd_Graph_turnRound_77 : decode prog_3_method_9_code 77 = .ok (.isub, 1) := by decide +kernel
theorem zd_Graph_turnRound_78 : decode prog_3_method_9_code 78 = .ok (.istore_n 1, 1) := by decide +kernel
theorem zd_Graph_turnRound_79 : decode prog_3_method_9_code 79 = .ok (.iload_n 1, 1) := by decide +kernel
theorem zd_Graph_turnRound_80 : decode prog_3_method_9_code 80 = .ok (.ifCond .lt 43, 3) := by decide +kernel
theorem zd_Graph_turnRound_83 : decode prog_3_method_9_code 83 = .ok (.aload_n 0, 1) := by decide +kernel
theorem zd_Graph_turnRound_84 : decode prog_3_method_9_code 84 = .ok (.getfield 26, 3) := by decide +kernel
theorem zd_Graph_turnRound_87 : decode prog_3_method_9_code 87 = .ok (.iload_n 1, 1) := by decide +kernel
theorem zd_Graph_turnRound_88 : decode prog_3_method_9_code 88 = .ok (.iaload, 1) := by decide +kernel
theorem zd_Graph_turnRound_89 : decode prog_3_method_9_code 89 = .ok (.istore_n 2, 1) := by decide +kernel
theorem zd_Graph_turnRound_90 : decode prog_3_method_9_code 90 = .ok (.aload_n 0, 1) := by decide +kernel
theorem zd_Graph_turnRound_91 : decode prog_3_method_9_code 91 = .ok (.getfield 35, 3) := by decide +kernel
theorem zd_Graph_turnRound_94 : decode prog_3_method_9_code 94 = .ok (.iload_n 2, 1) := by decide +kernel
theorem zd_Graph_turnRound_95 : decode prog_3_method_9_code 95 = .ok (.dup2, 1) := by decide +kernel
theorem zd_Graph_turnRound_96 : decode prog_3_method_9_code 96 = .ok (.iaload, 1) := by decide +kernel
theorem zd_Graph_turnRound_97 : decode prog_3_method_9_code 97 = .ok (.iconst 1, 1) := by decide +kernel
theorem zd_Graph_turnRound_98 : decode prog_3_method_9_code 98 = .ok (.isub, 1) := by decide +kernel
theorem zd_Graph_turnRound_99 : decode prog_3_method_9_code 99 = .ok (.iastore, 1) := by decide +kernel
theorem zd_Graph_turnRound_100 : decode prog_3_method_9_code 100 = .ok (.aload_n 0, 1) := by decide +kernel
theorem zd_Graph_turnRound_101 : decode prog_3_method_9_code 101 = .ok (.getfield 38, 3) := by decide +kernel
theorem zd_Graph_turnRound_104 : decode prog_3_method_9_code 104 = .ok (.aload_n 0, 1) := by decide +kernel
theorem zd_Graph_turnRound_105 : decode prog_3_method_9_code 105 = .ok (.getfield 35, 3) := by decide +kernel
theorem zd_Graph_turnRound_108 : decode prog_3_method_9_code 108 = .ok (.iload_n 2, 1) := by decide +kernel
theorem zd_Graph_turnRound_109 : decode prog_3_method_9_code 109 = .ok (.iaload, 1) := by decide +kernel
theorem zd_Graph_turnRound_110 : decode prog_3_method_9_code 110 = .ok (.aload_n 0, 1) := by decide +kernel
theorem zd_Graph_turnRound_111 : decode prog_3_method_9_code 111 = .ok (.getfield 23, 3) := by decide +kernel
theorem zd_Graph_turnRound_114 : decode prog_3_method_9_code 114 = .ok (.iload_n 1, 1) := by decide +kernel
theorem zd_Graph_turnRound_115 : decode prog_3_method_9_code 115 = .ok (.iaload, 1) := by decide +kernel
theorem zd_Graph_turnRound_116 : decode prog_3_method_9_code 116 = .ok (.iastore, 1) := by decide +kernel
theorem zd_Graph_turnRound_117 : decode prog_3_method_9_code 117 = .ok (.iinc 1 (-1), 3) := by decide +kernel
theorem zd_Graph_turnRound_120 : decode prog_3_method_9_code 120 = .ok (.goto (-41), 3) := by decide +kernel
theorem zd_Graph_turnRound_123 : decode prog_3_method_9_code 123 = .ok (.return_, 1) := by decide +kernel
theorem zd_ModelReader_endProcess_0 : decode prog_5_method_4_code 0 = .ok (.aload_n 0, 1) := by decide +kernel
theorem zd_ModelReader_endProcess_1 : decode prog_5_method_4_code 1 = .ok (.getfield 9, 3) := by decide +kernel
theorem zd_ModelReader_endProcess_4 : decode prog_5_method_4_code 4 = .ok (.invokevirtual 47, 3) := by decide +kernel
theorem zd_ModelReader_endProcess_7 : decode prog_5_method_4_code 7 = .ok (.bipush 125, 2) := by decide +kernel
theorem zd_ModelReader_endProcess_9 : decode prog_5_method_4_code 9 = .ok (.if_icmp .eq 10, 3) := by decide +kernel
theorem zd_ModelReader_endProcess_12 : decode prog_5_method_4_code 12 = .ok (.aload_n 0, 1) := by decide +kernel
theorem zd_ModelReader_endProcess_13 : decode prog_5_method_4_code 13 = .ok (.getfield 9, 3) := by decide +kernel
theorem zd_ModelReader_endProcess_16 : decode prog_5_method_4_code 16 = .ok (.invokevirtual 62, 3) := by decide +kernel
theorem zd_ModelReader_endProcess_19 : decode prog_5_method_4_code 19 = .ok (.aload_n 0, 1) := by decide +kernel
theorem zd_ModelReader_endProcess_20 : decode prog_5_method_4_code 20 = .ok (.invokevirtual 100, 3) := by decide +kernel
theorem zd_ModelReader_endProcess_23 : decode prog_5_method_4_code 23 = .ok (.aload_n 0, 1) := by decide +kernel
theorem zd_ModelReader_endProcess_24 : decode prog_5_method_4_code 24 = .ok (.getfield 9, 3) := by decide +kernel
theorem zd_ModelReader_endProcess_27 : decode prog_5_method_4_code 27 = .ok (.invokevirtual 65, 3) := by decide +kernel
theorem zd_ModelReader_endProcess_30 : decode prog_5_method_4_code 30 = .ok (.aload_n 0, 1) := by decide +kernel
theorem zd_ModelReader_endProcess_31 : decode prog_5_method_4_code 31 = .ok (.getfield 23, 3) := by decide +kernel
theorem zd_ModelReader_endProcess_34 : decode prog_5_method_4_code 34 = .ok (.aload_n 0, 1) := by decide +kernel
theorem zd_ModelReader_endProcess_35 : decode prog_5_method_4_code 35 = .ok (.getfield 30, 3) := by decide +kernel
theorem zd_ModelReader_endProcess_38 : decode prog_5_method_4_code 38 = .ok (.invokevirtual 103, 3) := by decide +kernel
theorem zd_ModelReader_endProcess_41 : decode prog_5_method_4_code 41 = .ok (.return_, 1) := by decide +kernel
theorem zd_Situation_passOn_0 : decode prog_8_method_14_code 0 = .ok (.aload_n 0, 1) := by decide +kernel
theorem zd_Situation_passOn_1 : decode prog_8_method_14_code 1 = .ok (.getfield 19, 3) := by decide +kernel
theorem zd_Situation_passOn_4 : decode prog_8_method_14_code 4 = .ok (.getfield 118, 3) := by decide +kernel
theorem zd_Situation_passOn_7 : decode prog_8_method_14_code 7 = .ok (.iload_n 1, 1) := by decide +kernel
theorem zd_Situation_passOn_8 : decode prog_8_method_14_code 8 = .ok (.iaload, 1) := by decide +kernel
theorem zd_Situation_passOn_9 : decode prog_8_method_14_code 9 = .ok (.istore_n 2, 1) := by decide +kernel
theorem zd_Situation_passOn_10 : decode prog_8_method_14_code 10 = .ok (.aload_n 0, 1) := by decide +kernel
theorem zd_Situation_passOn_11 : decode prog_8_method_14_code 11 = .ok (.getfield 34, 3) := by decide +kernel
theorem zd_Situation_passOn_14 : decode prog_8_method_14_code 14 = .ok (.iload_n 2, 1) := by decide +kernel
theorem zd_Situation_passOn_15 : decode prog_8_method_14_code 15 = .ok (.aload_n 0, 1) := by decide +kernel
theorem zd_Situation_passOn_16 : decode prog_8_method_14_code 16 = .ok (.getfield 19, 3) := by decide +kernel
theorem zd_Situation_passOn_19 : decode prog_8_method_14_code 19 = .ok (.getfield 142, 3) := by decide +kernel
theorem zd_Situation_passOn_22 : decode prog_8_method_14_code 22 = .ok (.iload_n 1, 1) := by decide +kernel
theorem zd_Situation_passOn_23 : decode prog_8_method_14_code 23 = .ok (.iaload, 1) := by decide +kernel
theorem zd_Situation_passOn_24 : decode prog_8_method_14_code 24 = .ok (.iastore, 1) := by decide +kernel
theorem zd_Situation_passOn_25 : decode prog_8_method_14_code 25 = .ok (.aload_n 0, 1) := by decide +kernel
theorem zd_Situation_passOn_26 : decode prog_8_method_14_code 26 = .ok (.getfield 19, 3) := by decide +kernel
theorem zd_Situation_passOn_29 : decode prog_8_method_14_code 29 = .ok (.getfield 145, 3) := by decide +kernel
theorem zd_Situation_passOn_32 : decode prog_8_method_14_code 32 = .ok (.iload_n 1, 1) := by decide +kernel
theorem zd_Situation_passOn_33 : decode prog_8_method_14_code 33 = .ok (.baload, 1) := by decide +kernel
theorem zd_Situation_passOn_34 : decode prog_8_method_14_code 34 = .ok (.ifCond .eq 8, 3) := by decide +kernel
theorem zd_Situation_passOn_37 : decode prog_8_method_14_code 37 = .ok (.aload_n 0, 1) := by decide +kernel
theorem zd_Situation_passOn_38 : decode prog_8_method_14_code 38 = .ok (.iload_n 2, 1) := by decide +kernel
theorem zd_Situation_passOn_39 : decode prog_8_method_14_code 39 = .ok (.putfield 37, 3) := by decide +kernel
theorem zd_Situation_passOn_42 : decode prog_8_method_14_code 42 = .ok (.return_, 1) := by decide +kernel
theorem zd_Situation_put_0 : decode prog_8_method_12_code 0 = .ok (.aload_n 0, 1) := by decide +kernel
theorem zd_Situation_put_1 : decode prog_8_method_12_code 1 = .ok (.getfield 29, 3) := by decide +kernel
theorem zd_Situation_put_4 : decode prog_8_method_12_code 4 = .ok (.iload_n 1, 1) := by decide +kernel
theorem zd_Situation_put_5 : decode prog_8_method_12_code 5 = .ok (.iconst 3, 1) := by decide +kernel
theorem zd_Situation_put_6 : decode prog_8_method_12_code 6 = .ok (.imul, 1) := by decide +kernel
theorem zd_Situation_put_7 : decode prog_8_method_12_code 7 = .ok (.aload_n 0, 1) := by decide +kernel
theorem zd_Situation_put_8 : decode prog_8_method_12_code 8 = .ok (.getfield 25, 3) := by decide +kernel
theorem zd_Situation_put_11 : decode prog_8_method_12_code 11 = .ok (.iload_n 1, 1) := by decide +kernel
theorem zd_Situation_put_12 : decode prog_8_method_12_code 12 = .ok (.iaload, 1) := by decide +kernel
theorem zd_Situation_put_13 : decode prog_8_method_12_code 13 = .ok (.iadd, 1) := by decide +kernel
theorem zd_Situation_put_14 : decode prog_8_method_12_code 14 = .ok (.iload_n 2, 1) := by decide +kernel
theorem zd_Situation_put_15 : decode prog_8_method_12_code 15 = .ok (.iastore, 1) := by decide +kernel
theorem zd_Situation_put_16 : decode prog_8_method_12_code 16 = .ok (.aload_n 0, 1) := by decide +kernel
theorem zd_Situation_put_17 : decode prog_8_method_12_code 17 = .ok (.getfield 25, 3) := by decide +kernel
theorem zd_Situation_put_20 : decode prog_8_method_12_code 20 = .ok (.iload_n 1, 1) := by decide +kernel
theorem zd_Situation_put_21 : decode prog_8_method_12_code 21 = .ok (.dup2, 1) := by decide +kernel
theorem zd_Situation_put_22 : decode prog_8_method_12_code 22 = .ok (.iaload, 1) := by decide +kernel
theorem zd_Situation_put_23 : decode prog_8_method_12_code 23 = .ok (.iconst 1, 1) := by decide +kernel
theorem zd_Situation_put_24 : decode prog_8_method_12_code 24 = .ok (.iadd, 1) := by decide +kernel
theorem zd_Situation_put_25 : decode prog_8_method_12_code 25 = .ok (.iastore, 1) := by decide +kernel
theorem zd_Situation_put_26 : decode prog_8_method_12_code 26 = .ok (.return_, 1) := by decide +kernel
theorem zd_Situation_taken_0 : decode prog_8_method_13_code 0 = .ok (.iload_n 1, 1) := by decide +kernel
theorem zd_Situation_taken_1 : decode prog_8_method_13_code 1 = .ok (.iconst 3, 1) := by decide +kernel
theorem zd_Situation_taken_2 : decode prog_8_method_13_code 2 = .ok (.imul, 1) := by decide +kernel
theorem zd_Situation_taken_3 : decode prog_8_method_13_code 3 = .ok (.istore_n 2, 1) := by decide +kernel
theorem zd_Situation_taken_4 : decode prog_8_method_13_code 4 = .ok (.iload_n 2, 1) := by decide +kernel
theorem zd_Situation_taken_5 : decode prog_8_method_13_code 5 = .ok (.iconst 3, 1) := by decide +kernel
theorem zd_Situation_taken_6 : decode prog_8_method_13_code 6 = .ok (.iadd, 1) := by decide +kernel
theorem zd_Situation_taken_7 : decode prog_8_method_13_code 7 = .ok (.iconst 1, 1) := by decide +kernel
theorem zd_Situation_taken_8 : decode prog_8_method_13_code 8 = .ok (.isub, 1) := by decide +kernel
theorem zd_Situation_taken_9 : decode prog_8_method_13_code 9 = .ok (.istore_n 3, 1) := by decide +kernel
theorem zd_Situation_taken_10 : decode prog_8_method_13_code 10 = .ok (.aload_n 0, 1) := by decide +kernel
theorem zd_Situation_taken_11 : decode prog_8_method_13_code 11 = .ok (.getfield 29, 3) := by decide +kernel
theorem zd_Situation_taken_14 : decode prog_8_method_13_code 14 = .ok (.iload_n 2, 1) := by decide +kernel
theorem zd_Situation_taken_15 : decode prog_8_method_13_code 15 = .ok (.iaload, 1) := by decide +kernel
theorem zd_Situation_taken_16 : decode prog_8_method_13_code 16 = .ok (.istore 4, 2) := by decide +kernel
theorem zd_Situation_taken_18 : decode prog_8_method_13_code 18 = .ok (.iload_n 2, 1) := by decide +kernel
theorem zd_Situation_taken_19 : decode prog_8_method_13_code 19 = .ok (.istore 5, 2) := by decide +kernel
theorem zd_Situation_taken_21 : decode prog_8_method_13_code 21 = .ok (.iload 5, 2) := by decide +kernel
theorem zd_Situation_taken_23 : decode prog_8_method_13_code 23 = .ok (.iload_n 3, 1) := by decide +kernel
theorem zd_Situation_taken_24 : decode prog_8_method_13_code 24 = .ok (.if_icmp .ge 25, 3) := by decide +kernel
theorem zd_Situation_taken_27 : decode prog_8_method_13_code 27 = .ok (.aload_n 0, 1) := by decide +kernel
theorem zd_Situation_taken_28 : decode prog_8_method_13_code 28 = .ok (.getfield 29, 3) := by decide +kernel
theorem zd_Situation_taken_31 : decode prog_8_method_13_code 31 = .ok (.iload 5, 2) := by decide +kernel
theorem zd_Situation_taken_33 : decode prog_8_method_13_code 33 = .ok (.aload_n 0, 1) := by decide +kernel
theorem zd_Situation_taken_34 : decode prog_8_method_13_code 34 = .ok (.getfield 29, 3) := by decide +kernel
theorem zd_Situation_taken_37 : decode prog_8_method_13_code 37 = .ok (.iload 5, 2) := by decide +kernel
theorem zd_Situation_taken_39 : decode prog_8_method_13_code 39 = .ok (.iconst 1, 1) := by decide +kernel
theorem zd_Situation_taken_40 : decode prog_8_method_13_code 40 = .ok (.iadd, 1) := by decide +kernel
theorem zd_Situation_taken_41 : decode prog_8_method_13_code 41 = .ok (.iaload, 1) := by decide +kernel
theorem zd_Situation_taken_42 : decode prog_8_method_13_code 42 = .ok (.iastore, 1) := by decide +kernel
theorem zd_Situation_taken_43 : decode prog_8_method_13_code 43 = .ok (.iinc 5 1, 3) := by decide +kernel
theorem zd_Situation_taken_46 : decode prog_8_method_13_code 46 = .ok (.goto (-25), 3) := by decide +kernel
theorem zd_Situation_taken_49 : decode prog_8_method_13_code 49 = .ok (.aload_n 0, 1) := by decide +kernel
theorem zd_Situation_taken_50 : decode prog_8_method_13_code 50 = .ok (.getfield 29, 3) := by decide +kernel
theorem zd_Situation_taken_53 : decode prog_8_method_13_code 53 = .ok (.iload_n 3, 1) := by decide +kernel
theorem zd_Situation_taken_54 : decode prog_8_method_13_code 54 = .ok (.iconst 0, 1) := by decide +kernel
theorem zd_Situation_taken_55 : decode prog_8_method_13_code 55 = .ok (.iastore, 1) := by decide +kernel
theorem zd_Situation_taken_56 : decode prog_8_method_13_code 56 = .ok (.aload_n 0, 1) := by decide +kernel
theorem zd_Situation_taken_57 : decode prog_8_method_13_code 57 = .ok (.getfield 25, 3) := by decide +kernel
theorem zd_Situation_taken_60 : decode prog_8_method_13_code 60 = .ok (.iload_n 1, 1) := by decide +kernel
theorem zd_Situation_taken_61 : decode prog_8_method_13_code 61 = .ok (.dup2, 1) := by decide +kernel
theorem zd_Situation_taken_62 : decode prog_8_method_13_code 62 = .ok (.iaload, 1) := by decide +kernel
theorem zd_Situation_taken_63 : decode prog_8_method_13_code 63 = .ok (.iconst 1, 1) := by decide +kernel
theorem zd_Situation_taken_64 : decode prog_8_method_13_code 64 = .ok (.isub, 1) := by decide +kernel
theorem zd_Situation_taken_65 : decode prog_8_method_13_code 65 = .ok (.iastore, 1) := by decide +kernel
theorem zd_Situation_taken_66 : decode prog_8_method_13_code 66 = .ok (.iload 4, 2) := by decide +kernel
theorem zd_Situation_taken_68 : decode prog_8_method_13_code 68 = .ok (.ireturn, 1) := by decide +kernel
theorem zd_Terms_joined_0 : decode prog_9_method_13_code 0 = .ok (.iload_n 0, 1) := by decide +kernel
theorem zd_Terms_joined_1 : decode prog_9_method_13_code 1 = .ok (.tableswitch 67 16 19 #[31, 42, 53, 60], 31) := by decide +kernel
theorem zd_Terms_joined_32 : decode prog_9_method_13_code 32 = .ok (.iload_n 1, 1) := by decide +kernel
theorem zd_Terms_joined_33 : decode prog_9_method_13_code 33 = .ok (.iload_n 2, 1) := by decide +kernel
theorem zd_Terms_joined_34 : decode prog_9_method_13_code 34 = .ok (.if_icmp .ne 7, 3) := by decide +kernel
theorem zd_Terms_joined_37 : decode prog_9_method_13_code 37 = .ok (.iconst 1, 1) := by decide +kernel
theorem zd_Terms_joined_38 : decode prog_9_method_13_code 38 = .ok (.goto 4, 3) := by decide +kernel
theorem zd_Terms_joined_41 : decode prog_9_method_13_code 41 = .ok (.iconst 0, 1) := by decide +kernel
theorem zd_Terms_joined_42 : decode prog_9_method_13_code 42 = .ok (.ireturn, 1) := by decide +kernel
theorem zd_Terms_joined_43 : decode prog_9_method_13_code 43 = .ok (.iload_n 1, 1) := by decide +kernel
theorem zd_Terms_joined_44 : decode prog_9_method_13_code 44 = .ok (.iload_n 2, 1) := by decide +kernel
theorem zd_Terms_joined_45 : decode prog_9_method_13_code 45 = .ok (.if_icmp .ge 7, 3) := by decide +kernel
theorem zd_Terms_joined_48 : decode prog_9_method_13_code 48 = .ok (.iconst 1, 1) := by decide +kernel
theorem zd_Terms_joined_49 : decode prog_9_method_13_code 49 = .ok (.goto 4, 3) := by decide +kernel
theorem zd_Terms_joined_52 : decode prog_9_method_13_code 52 = .ok (.iconst 0, 1) := by decide +kernel
theorem zd_Terms_joined_53 : decode prog_9_method_13_code 53 = .ok (.ireturn, 1) := by decide +kernel
theorem zd_Terms_joined_54 : decode prog_9_method_13_code 54 = .ok (.iload_n 1, 1) := by decide +kernel
theorem zd_Terms_joined_55 : decode prog_9_method_13_code 55 = .ok (.iload_n 2, 1) := by decide +kernel
theorem zd_Terms_joined_56 : decode prog_9_method_13_code 56 = .ok (.iadd, 1) := by decide +kernel
theorem zd_Terms_joined_57 : decode prog_9_method_13_code 57 = .ok (.bipush 7, 2) := by decide +kernel
theorem zd_Terms_joined_59 : decode prog_9_method_13_code 59 = .ok (.iand, 1) := by decide +kernel
theorem zd_Terms_joined_60 : decode prog_9_method_13_code 60 = .ok (.ireturn, 1) := by decide +kernel
theorem zd_Terms_joined_61 : decode prog_9_method_13_code 61 = .ok (.iload_n 1, 1) := by decide +kernel
theorem zd_Terms_joined_62 : decode prog_9_method_13_code 62 = .ok (.iload_n 2, 1) := by decide +kernel
theorem zd_Terms_joined_63 : decode prog_9_method_13_code 63 = .ok (.isub, 1) := by decide +kernel
theorem zd_Terms_joined_64 : decode prog_9_method_13_code 64 = .ok (.bipush 7, 2) := by decide +kernel
theorem zd_Terms_joined_66 : decode prog_9_method_13_code 66 = .ok (.iand, 1) := by decide +kernel
theorem zd_Terms_joined_67 : decode prog_9_method_13_code 67 = .ok (.ireturn, 1) := by decide +kernel
theorem zd_Terms_joined_68 : decode prog_9_method_13_code 68 = .ok (.iload_n 1, 1) := by decide +kernel
theorem zd_Terms_joined_69 : decode prog_9_method_13_code 69 = .ok (.iload_n 2, 1) := by decide +kernel
theorem zd_Terms_joined_70 : decode prog_9_method_13_code 70 = .ok (.imul, 1) := by decide +kernel
theorem zd_Terms_joined_71 : decode prog_9_method_13_code 71 = .ok (.bipush 7, 2) := by decide +kernel
theorem zd_Terms_joined_73 : decode prog_9_method_13_code 73 = .ok (.iand, 1) := by decide +kernel
theorem zd_Terms_joined_74 : decode prog_9_method_13_code 74 = .ok (.ireturn, 1) := by decide +kernel
theorem zd_Terms_reckon_0 : decode prog_9_method_12_code 0 = .ok (.iconst 0, 1) := by decide +kernel
theorem zd_Terms_reckon_1 : decode prog_9_method_12_code 1 = .ok (.istore_n 3, 1) := by decide +kernel
theorem zd_Terms_reckon_2 : decode prog_9_method_12_code 2 = .ok (.iload_n 1, 1) := by decide +kernel
theorem zd_Terms_reckon_3 : decode prog_9_method_12_code 3 = .ok (.istore 4, 2) := by decide +kernel
theorem zd_Terms_reckon_5 : decode prog_9_method_12_code 5 = .ok (.iload 4, 2) := by decide +kernel
theorem zd_Terms_reckon_7 : decode prog_9_method_12_code 7 = .ok (.aload_n 0, 1) := by decide +kernel
theorem zd_Terms_reckon_8 : decode prog_9_method_12_code 8 = .ok (.getfield 31, 3) := by decide +kernel
theorem zd_Terms_reckon_11 : decode prog_9_method_12_code 11 = .ok (.if_icmp .ge 98, 3) := by decide +kernel
theorem zd_Terms_reckon_14 : decode prog_9_method_12_code 14 = .ok (.aload_n 0, 1) := by decide +kernel
theorem zd_Terms_reckon_15 : decode prog_9_method_12_code 15 = .ok (.getfield 21, 3) := by decide +kernel
theorem zd_Terms_reckon_18 : decode prog_9_method_12_code 18 = .ok (.iload 4, 2) := by decide +kernel
theorem zd_Terms_reckon_20 : decode prog_9_method_12_code 20 = .ok (.iaload, 1) := by decide +kernel
theorem zd_Terms_reckon_21 : decode prog_9_method_12_code 21 = .ok (.bipush 22, 2) := by decide +kernel
theorem zd_Terms_reckon_23 : decode prog_9_method_12_code 23 = .ok (.if_icmp .eq 86, 3) := by decide +kernel
theorem zd_Terms_reckon_26 : decode prog_9_method_12_code 26 = .ok (.aload_n 0, 1) := by decide +kernel
theorem zd_Terms_reckon_27 : decode prog_9_method_12_code 27 = .ok (.getfield 21, 3) := by decide +kernel
theorem zd_Terms_reckon_30 : decode prog_9_method_12_code 30 = .ok (.iload 4, 2) := by decide +kernel
theorem zd_Terms_reckon_32 : decode prog_9_method_12_code 32 = .ok (.iaload, 1) := by decide +kernel
theorem zd_Terms_reckon_33 : decode prog_9_method_12_code 33 = .ok (.istore 5, 2) := by decide +kernel
theorem zd_Terms_reckon_35 : decode prog_9_method_12_code 35 = .ok (.iload 5, 2) := by decide +kernel
theorem zd_Terms_reckon_37 : decode prog_9_method_12_code 37 = .ok (.bipush 16, 2) := by decide +kernel
theorem zd_Terms_reckon_39 : decode prog_9_method_12_code 39 = .ok (.if_icmp .lt 36, 3) := by decide +kernel
theorem zd_Terms_reckon_42 : decode prog_9_method_12_code 42 = .ok (.iinc 3 (-1), 3) := by decide +kernel
theorem zd_Terms_reckon_45 : decode prog_9_method_12_code 45 = .ok (.aload_n 0, 1) := by decide +kernel
theorem zd_Terms_reckon_46 : decode prog_9_method_12_code 46 = .ok (.getfield 28, 3) := by decide +kernel
theorem zd_Terms_reckon_49 : decode prog_9_method_12_code 49 = .ok (.iload_n 3, 1) := by decide +kernel
theorem zd_Terms_reckon_50 : decode prog_9_method_12_code 50 = .ok (.iconst 1, 1) := by decide +kernel
theorem zd_Terms_reckon_51 : decode prog_9_method_12_code 51 = .ok (.isub, 1) := by decide +kernel
theorem zd_Terms_reckon_52 : decode prog_9_method_12_code 52 = .ok (.iload 5, 2) := by decide +kernel
theorem zd_Terms_reckon_54 : decode prog_9_method_12_code 54 = .ok (.aload_n 0, 1) := by decide +kernel
theorem zd_Terms_reckon_55 : decode prog_9_method_12_code 55 = .ok (.getfield 28, 3) := by decide +kernel
theorem zd_Terms_reckon_58 : decode prog_9_method_12_code 58 = .ok (.iload_n 3, 1) := by decide +kernel
theorem zd_Terms_reckon_59 : decode prog_9_method_12_code 59 = .ok (.iconst 1, 1) := by decide +kernel
theorem zd_Terms_reckon_60 : decode prog_9_method_12_code 60 = .ok (.isub, 1) := by decide +kernel
theorem zd_Terms_reckon_61 : decode prog_9_method_12_code 61 = .ok (.iaload, 1) := by decide +kernel
theorem zd_Terms_reckon_62 : decode prog_9_method_12_code 62 = .ok (.aload_n 0, 1) := by decide +kernel
theorem zd_Terms_reckon_63 : decode prog_9_method_12_code 63 = .ok (.getfield 28, 3) := by decide +kernel
theorem zd_Terms_reckon_66 : decode prog_9_method_12_code 66 = .ok (.iload_n 3, 1) := by decide +kernel
theorem zd_Terms_reckon_67 : decode prog_9_method_12_code 67 = .ok (.iaload, 1) := by decide +kernel
theorem zd_Terms_reckon_68 : decode prog_9_method_12_code 68 = .ok (.invokestatic 95, 3) := by decide +kernel
theorem zd_Terms_reckon_71 : decode prog_9_method_12_code 71 = .ok (.iastore, 1) := by decide +kernel
theorem zd_Terms_reckon_72 : decode prog_9_method_12_code 72 = .ok (.goto 31, 3) := by decide +kernel
theorem zd_Terms_reckon_75 : decode prog_9_method_12_code 75 = .ok (.aload_n 0, 1) := by decide +kernel
theorem zd_Terms_reckon_76 : decode prog_9_method_12_code 76 = .ok (.getfield 28, 3) := by decide +kernel
theorem zd_Terms_reckon_79 : decode prog_9_method_12_code 79 = .ok (.iload_n 3, 1) := by decide +kernel
theorem zd_Terms_reckon_80 : decode prog_9_method_12_code 80 = .ok (.iload 5, 2) := by decide +kernel
theorem zd_Terms_reckon_82 : decode prog_9_method_12_code 82 = .ok (.bipush 8, 2) := by decide +kernel
theorem zd_Terms_reckon_84 : decode prog_9_method_12_code 84 = .ok (.if_icmp .lt 13, 3) := by decide +kernel
theorem zd_Terms_reckon_87 : decode prog_9_method_12_code 87 = .ok (.aload_n 2, 1) := by decide +kernel
theorem zd_Terms_reckon_88 : decode prog_9_method_12_code 88 = .ok (.iload 5, 2) := by decide +kernel
theorem zd_Terms_reckon_90 : decode prog_9_method_12_code 90 = .ok (.bipush 8, 2) := by decide +kernel
theorem zd_Terms_reckon_92 : decode prog_9_method_12_code 92 = .ok (.isub, 1) := by decide +kernel
theorem zd_Terms_reckon_93 : decode prog_9_method_12_code 93 = .ok (.iaload, 1) := by decide +kernel
theorem zd_Terms_reckon_94 : decode prog_9_method_12_code 94 = .ok (.goto 5, 3) := by decide +kernel
theorem zd_Terms_reckon_97 : decode prog_9_method_12_code 97 = .ok (.iload 5, 2) := by decide +kernel
theorem zd_Terms_reckon_99 : decode prog_9_method_12_code 99 = .ok (.iastore, 1) := by decide +kernel
theorem zd_Terms_reckon_100 : decode prog_9_method_12_code 100 = .ok (.iinc 3 1, 3) := by decide +kernel
theorem zd_Terms_reckon_103 : decode prog_9_method_12_code 103 = .ok (.iinc 4 1, 3) := by decide +kernel
theorem zd_Terms_reckon_106 : decode prog_9_method_12_code 106 = .ok (.goto (-101), 3) := by decide +kernel
theorem zd_Terms_reckon_109 : decode prog_9_method_12_code 109 = .ok (.aload_n 0, 1) := by decide +kernel
theorem zd_Terms_reckon_110 : decode prog_9_method_12_code 110 = .ok (.getfield 28, 3) := by decide +kernel
theorem zd_Terms_reckon_113 : decode prog_9_method_12_code 113 = .ok (.iconst 0, 1) := by decide +kernel
theorem zd_Terms_reckon_114 : decode prog_9_method_12_code 114 = .ok (.iaload, 1) := by decide +kernel
theorem zd_Terms_reckon_115 : decode prog_9_method_12_code 115 = .ok (.ireturn, 1) := by decide +kernel
def wc_ModelReader_endProcess_19 (Post : (Nat → Int32) → (Nat → Int64) → (Nat → Nat → Int32) → (Nat → Nat → Int64) → Prop) (PX : String → (Nat → Int32) → (Nat → Int64) → (Nat → Nat → Int32) → (Nat → Nat → Int64) → Prop)  (I : Nat → Int32) (J : Nat → Int64) (B : Nat → Nat → Int32) (D : Nat → Nat → Int64) : Prop :=
  wp_ModelReader_checkJumps I J B D  (fun I1 J1 B1 D1 => wp_Text_skip I1 J1 B1 D1  (fun I2 J2 B2 D2 => wp_Program_takeProcess_ad6 I2 J2 B2 D2  (fun I3 J3 B3 D3 => Post I3 J3 B3 D3))) PX
def wp_ModelReader_endProcess (I : Nat → Int32) (J : Nat → Int64) (B : Nat → Nat → Int32) (D : Nat → Nat → Int64) (Post : (Nat → Int32) → (Nat → Int64) → (Nat → Nat → Int32) → (Nat → Nat → Int64) → Prop) (PX : String → (Nat → Int32) → (Nat → Int64) → (Nat → Nat → Int32) → (Nat → Nat → Int64) → Prop) : Prop :=
  wp_Text_ahead I J B D  (fun r4 I4 J4 B4 D4 => ((r4 = 125 → wc_ModelReader_endProcess_19  Post PX I4 J4 B4 D4) ∧ (¬ r4 = 125 → wp_Text_refuse I4 J4 B4 D4  (fun I6 J6 B6 D6 => wc_ModelReader_endProcess_19  Post PX I6 J6 B6 D6) PX)))
set_option maxHeartbeats 8000000 in
set_option maxRecDepth 100000 in
theorem wJ_ModelReader_endProcess_19 {p : Program} {l : Launch} {e : Env} {s : State} {m : MethodId} {below : List Frame} {meth : Method} {c : Code} {A : Nat → Prop} (G : va_G) (K : Nat → ClassId) (ad : Nat → Nat) (sv : Value) (Post : (Nat → Int32) → (Nat → Int64) → (Nat → Nat → Int32) → (Nat → Nat → Int64) → Prop) (PX : String → (Nat → Int32) → (Nat → Int64) → (Nat → Nat → Int32) → (Nat → Nat → Int64) → Prop) (C : zCy p l s m ([.ref (ad 5)] : List Value).toArray meth c A G K prog_5_method_4_code none 1 "LassoFinder$ModelReader") : ∀  (I : Nat → Int32) (J : Nat → Int64) (B : Nat → Nat → Int32) (D : Nat → Nat → Int64) (ls : Array Slot) (H : Heap) (locs : List Loc), wc_ModelReader_endProcess_19  Post PX  I J B D → lv_has ls 1 [(0, .ref (ad 5))] → zW G A s.heap (wX ad K sv I J B D) H locs → W p l e { frames := 8, cells := 1, slots := 6, locals := 124 } s m ([.ref (ad 5)] : List Value).toArray below meth c H locs 0 0 (zyMQ below (va_Qv (fun u : zS => Post u.1 u.2.1 u.2.2.1 u.2.2.2) (fun u t => zPost G K A (wX ad K sv u.1 u.2.1 u.2.2.1 u.2.2.2) t) A) (zYC (fun E (u : zS) => PX E u.1 u.2.1 u.2.2.1 u.2.2.2) (fun u => wX ad K sv u.1 u.2.1 u.2.2.1 u.2.2.2) G K A) ([.ref (ad 5)] : List Value).toArray s 1 6 A) (F0 m 19 ls []) := by
  obtain ⟨hx, hb, hr, hml, hts, hown, hlocks, hA, hK, hT, hnt, hlt⟩ := id C
  intro  I J B D ls H locs hok hl hw
  unfold wc_ModelReader_endProcess_19 at hok
  refine lv_aload_n hx hb zd_ModelReader_endProcess_19 rfl (lv_at hl 0 rfl) ?_
  refine z_yV (q0 := 5) (wc := (wX ad K sv I J B D)) (wr := []) (w1 := fun (u : zS) => wX ad K sv u.1 u.2.1 u.2.2.1 u.2.2.2) (As := []) (rest := []) ⟨hx, hb, hml, hown, hts⟩ (w_ModelReader_checkJumps l hlt G K ad sv I J B D  _ _ H.size hok) zf_ModelReader_checkJumps zn_377 ⟨Nat.le_of_ble_eq_true rfl, Nat.le_of_ble_eq_true rfl⟩ hK hT hw hA (List.range 65) [] wX_all rfl wX_nd (by decide) (fun i hi => by cases hi) wX_g5 rfl rfl hl.1 rfl (Nat.le_of_ble_eq_true rfl) zd_ModelReader_endProcess_20 ⟨Nat.le_of_ble_eq_true rfl, Nat.le_of_ble_eq_true rfl⟩ (fun v st9 t9 L9 h0 hq hL => ?_) (fun E ce q9 u H locs hu hw hce hcv hcl => z_yout (u := u) hnt hlocks hce hcv hcl hw (List.range 65) wX_all wX_nd hu (Nat.le_of_ble_eq_true rfl) (Nat.le_of_ble_eq_true rfl))
  obtain ⟨⟨u, hv9, hok, hB9⟩, hF9⟩ := hq
  cases hv9
  have hw := z_back (wr := []) hw hA (List.range 65) [] wX_all rfl (by decide) (fun i hi => by cases hi) h0 hL hB9 hF9
  obtain ⟨I1, J1, B1, D1⟩ := u
  dsimp only at hok
  generalize t9.heap = H at hw ⊢
  generalize locs ++ L9 = locs at hw ⊢
  have hw : zW G A s.heap (wX ad K sv I1 J1 B1 D1) H locs := hw
  refine W.eq (g2 := F0 m 23 ls []) rfl ?_
  refine lv_aload_n hx hb zd_ModelReader_endProcess_23 rfl (lv_at hl 0 rfl) ?_
  refine z_get (v := .ref (ad 1)) hx hb hts hown hK hw zZ4 5 wX_g5 0 (by decide) zn_422 rfl zd_ModelReader_endProcess_24 ?_
  refine z_callv (w1 := fun (u : zS) => wX ad K sv u.1 u.2.1 u.2.2.1 u.2.2.2) (wr := []) (z_runV (q0 := 1) (wc := (wX ad K sv I1 J1 B1 D1)) (As := []) (rest := []) ⟨hx, hb, hml, hown, hts⟩ (w_Text_skip l G K ad sv I1 J1 B1 D1  _ H.size hok) zf_Text_skip zn_338 ⟨Nat.le_of_ble_eq_true rfl, Nat.le_of_ble_eq_true rfl⟩ hK hw (List.range 65) wX_all wX_nd wX_g1 rfl rfl hl.1 rfl (Nat.le_of_ble_eq_true rfl) zd_ModelReader_endProcess_27 ⟨Nat.le_of_ble_eq_true rfl, Nat.le_of_ble_eq_true rfl⟩) hw hA (List.range 65) [] wX_all rfl (by decide) (fun i hi => by cases hi) (fun u H locs hok hw => ?_)
  obtain ⟨I2, J2, B2, D2⟩ := u
  dsimp only at hok
  have hw : zW G A s.heap (wX ad K sv I2 J2 B2 D2) H locs := hw
  refine lv_aload_n hx hb zd_ModelReader_endProcess_30 rfl (lv_at hl 0 rfl) ?_
  refine z_get (v := .ref (ad 3)) hx hb hts hown hK hw zZ4 5 wX_g5 3 (by decide) zn_421 rfl zd_ModelReader_endProcess_31 ?_
  refine lv_aload_n hx hb zd_ModelReader_endProcess_34 rfl (lv_at hl 0 rfl) ?_
  refine z_get (v := .ref (ad 6)) hx hb hts hown hK hw zZ4 5 wX_g5 4 (by decide) zn_424 rfl zd_ModelReader_endProcess_35 ?_
  refine z_callv (w1 := fun (u : zS) => wX ad K sv u.1 u.2.1 u.2.2.1 u.2.2.2) (wr := []) (z_runV (q0 := 3) (wc := (wX ad K sv I2 J2 B2 D2)) (As := [.ref (ad 6)]) (rest := []) ⟨hx, hb, hml, hown, hts⟩ (w_Program_takeProcess_ad6 l G K ad sv I2 J2 B2 D2  _ H.size hok) zf_Program_takeProcess zn_381 ⟨Nat.le_of_ble_eq_true rfl, Nat.le_of_ble_eq_true rfl⟩ hK hw (List.range 65) wX_all wX_nd wX_g3 rfl rfl hl.1 rfl (Nat.le_of_ble_eq_true rfl) zd_ModelReader_endProcess_38 ⟨Nat.le_of_ble_eq_true rfl, Nat.le_of_ble_eq_true rfl⟩) hw hA (List.range 65) [] wX_all rfl (by decide) (fun i hi => by cases hi) (fun u H locs hok hw => ?_)
  obtain ⟨I3, J3, B3, D3⟩ := u
  dsimp only at hok
  have hw : zW G A s.heap (wX ad K sv I3 J3 B3 D3) H locs := hw
  exact zy_ret (z_vret (u := (I3, J3, B3, D3)) hx hb hr hlocks hw (List.range 65) wX_all wX_nd hok (Nat.le_of_ble_eq_true rfl) (Nat.le_of_ble_eq_true rfl) zd_ModelReader_endProcess_41)
set_option maxHeartbeats 8000000 in
set_option maxRecDepth 100000 in
theorem w_ModelReader_endProcess (l : Launch) (hlt : l.stackTraces = false) (G : va_G) (K : Nat → ClassId) (ad : Nat → Nat) (sv : Value) (I : Nat → Int32) (J : Nat → Int64) (B : Nat → Nat → Int32) (D : Nat → Nat → Int64) (Post : (Nat → Int32) → (Nat → Int64) → (Nat → Nat → Int32) → (Nat → Nat → Int64) → Prop) (PX : String → (Nat → Int32) → (Nat → Int64) → (Nat → Nat → Int32) → (Nat → Nat → Int64) → Prop) (sz : Nat) (hok : wp_ModelReader_endProcess I J B D  Post PX) : zyMet l zy_ModelReader_endProcess (Cond.code zy_ModelReader_endProcess prog_5_method_4_code 1 none :: zTB) { frames := 8, cells := 1, slots := 6, locals := 124 } (va_Pc [.ref (ad 5)] (zPreY G K (wX ad K sv I J B D) sz)) (va_Qv (fun u : zS => Post u.1 u.2.1 u.2.2.1 u.2.2.2) (fun u t => zPost G K (va_A (wX ad K sv I J B D) sz) (wX ad K sv u.1 u.2.1 u.2.2.1 u.2.2.2) t) (va_A (wX ad K sv I J B D) sz)) (zYC (fun E (u : zS) => PX E u.1 u.2.1 u.2.2.1 u.2.2.2) (fun u => wX ad K sv u.1 u.2.1 u.2.2.1 u.2.2.2) G K (va_A (wX ad K sv I J B D) sz)) 1 6 (va_A (wX ad K sv I J B D) sz) := by
  refine zMetY (y := zy_ModelReader_endProcess) (av := [.ref (ad 5)]) (maxL := 1) (cc := prog_5_method_4_code) (ret := none) (W0 := (wX ad K sv I J B D)) (sz := sz) (G := G) (K := K) (wt := zTB) (mc := 1) (ms := 6) (Qf := fun A => va_Qv (fun u : zS => Post u.1 u.2.1 u.2.2.1 u.2.2.2) (fun u t => zPost G K A (wX ad K sv u.1 u.2.1 u.2.2.1 u.2.2.2) t) A) (Xf := fun A => (zYC (fun E (u : zS) => PX E u.1 u.2.1 u.2.2.1 u.2.2.2) (fun u => wX ad K sv u.1 u.2.1 u.2.2.1 u.2.2.2) G K A)) (by decide) (Nat.le_of_ble_eq_true rfl) ?_
  intro p e s m below meth c ls A hx hb hr hml hts hown hlocks hin hA hK H locs hw hsz hl hT hnt
  clear hsz
  have hown : s.vm.findClass "LassoFinder$ModelReader" = some m.cls := hown
  have C : zCy p l s m ([.ref (ad 5)] : List Value).toArray meth c A G K prog_5_method_4_code none 1 "LassoFinder$ModelReader" := ⟨hx, hb, hr, hml, hts, hown, hlocks, hA, hK, hT, hnt, hlt⟩
  have hl : lv_has ls 1 [(0, .ref (ad 5))] := hl
  have hw : zW G A s.heap (wX ad K sv I J B D) H locs := hw
  unfold wp_ModelReader_endProcess at hok
  refine lv_aload_n hx hb zd_ModelReader_endProcess_0 rfl (lv_at hl 0 rfl) ?_
  refine z_get (v := .ref (ad 1)) hx hb hts hown hK hw zZ4 5 wX_g5 0 (by decide) zn_422 rfl zd_ModelReader_endProcess_1 ?_
  refine z_calli (w1 := fun (u : zS) => wX ad K sv u.1 u.2.1 u.2.2.1 u.2.2.2) (wr := []) (z_runV (q0 := 1) (wc := (wX ad K sv I J B D)) (As := []) (rest := []) ⟨hx, hb, hml, hown, hts⟩ (w_Text_ahead l G K ad sv I J B D  _ H.size hok) zf_Text_ahead zn_330 ⟨Nat.le_of_ble_eq_true rfl, Nat.le_of_ble_eq_true rfl⟩ hK hw (List.range 65) wX_all wX_nd wX_g1 rfl rfl hl.1 rfl (Nat.le_of_ble_eq_true rfl) zd_ModelReader_endProcess_4 ⟨Nat.le_of_ble_eq_true rfl, Nat.le_of_ble_eq_true rfl⟩) hw hA (List.range 65) [] wX_all rfl (by decide) (fun i hi => by cases hi) (fun r4 u H locs hok hw => ?_)
  obtain ⟨I4, J4, B4, D4⟩ := u
  dsimp only at hok
  have hw : zW G A s.heap (wX ad K sv I4 J4 B4 D4) H locs := hw
  refine lv_bipush (v := 125) hx hb zd_ModelReader_endProcess_7 (by decide) ?_
  refine lv_icmp_eq (tgt := 19) hx hb zd_ModelReader_endProcess_9 (by decide) (fun hc5 => ?_) (fun hc5 => ?_)
  · have hok := hok.1 hc5
    exact wJ_ModelReader_endProcess_19 G K ad sv  Post PX C I4 J4 B4 D4 ls H locs hok (lv_sub hl [0] rfl) hw
  · have hok := hok.2 hc5
    refine lv_aload_n hx hb zd_ModelReader_endProcess_12 rfl (lv_at hl 0 rfl) ?_
    refine z_get (v := .ref (ad 1)) hx hb hts hown hK hw zZ4 5 wX_g5 0 (by decide) zn_422 rfl zd_ModelReader_endProcess_13 ?_
    refine z_yV (q0 := 1) (wc := (wX ad K sv I4 J4 B4 D4)) (wr := []) (w1 := fun (u : zS) => wX ad K sv u.1 u.2.1 u.2.2.1 u.2.2.2) (As := []) (rest := []) ⟨hx, hb, hml, hown, hts⟩ (w_Text_refuse l hlt G K ad sv I4 J4 B4 D4  _ _ H.size hok) zf_Text_refuse zn_336 ⟨Nat.le_of_ble_eq_true rfl, Nat.le_of_ble_eq_true rfl⟩ hK hT hw hA (List.range 65) [] wX_all rfl wX_nd (by decide) (fun i hi => by cases hi) wX_g1 rfl rfl hl.1 rfl (Nat.le_of_ble_eq_true rfl) zd_ModelReader_endProcess_16 ⟨Nat.le_of_ble_eq_true rfl, Nat.le_of_ble_eq_true rfl⟩ (fun v st9 t9 L9 h0 hq hL => ?_) (fun E ce q9 u H locs hu hw hce hcv hcl => z_yout (u := u) hnt hlocks hce hcv hcl hw (List.range 65) wX_all wX_nd hu (Nat.le_of_ble_eq_true rfl) (Nat.le_of_ble_eq_true rfl))
    obtain ⟨⟨u, hv9, hok, hB9⟩, hF9⟩ := hq
    cases hv9
    have hw := z_back (wr := []) hw hA (List.range 65) [] wX_all rfl (by decide) (fun i hi => by cases hi) h0 hL hB9 hF9
    obtain ⟨I6, J6, B6, D6⟩ := u
    dsimp only at hok
    generalize t9.heap = H at hw ⊢
    generalize locs ++ L9 = locs at hw ⊢
    have hw : zW G A s.heap (wX ad K sv I6 J6 B6 D6) H locs := hw
    refine W.eq (g2 := F0 m 19 ls []) rfl ?_
    exact wJ_ModelReader_endProcess_19 G K ad sv  Post PX C I6 J6 B6 D6 ls H locs hok (lv_sub hl [0] rfl) hw
def wb_Graph_turnRound_79 (K79 : Int32 → (Nat → Int32) → (Nat → Int64) → (Nat → Nat → Int32) → (Nat → Nat → Int64) → Prop) (Post : (Nat → Int32) → (Nat → Int64) → (Nat → Nat → Int32) → (Nat → Nat → Int64) → Prop) (x1 : Int32) (I : Nat → Int32) (J : Nat → Int64) (B : Nat → Nat → Int32) (D : Nat → Nat → Int64) : Prop :=
  ((x1 < 0 → Post I J B D) ∧ (¬ x1 < 0 → vp_in x1 400 ∧ ∀ z2 : Int32, z2 = ((B 34) x1.toNatClampNeg) → vp_in z2 97 ∧ ∀ z3 : Int32, z3 = ((B 37) z2.toNatClampNeg) → ∀ z4 : Int32, z4 = (z3 - 1) → vp_in z2 97 ∧ vp_in z2 97 ∧ ∀ z5 : Int32, z5 = ((upd (B 37) z2.toNatClampNeg z4) z2.toNatClampNeg) → vp_in x1 400 ∧ ∀ z6 : Int32, z6 = ((B 33) x1.toNatClampNeg) → vp_in z5 400 ∧ ∀ z7 : Int32, z7 = (x1 + (-1)) → K79 z7 I J (va_up (va_up B 37 (upd (B 37) z2.toNatClampNeg z4)) 38 (upd (B 38) z5.toNatClampNeg z6)) D))
def wl_Graph_turnRound_79 (Post : (Nat → Int32) → (Nat → Int64) → (Nat → Nat → Int32) → (Nat → Nat → Int64) → Prop) (n : Nat) : Int32 → (Nat → Int32) → (Nat → Int64) → (Nat → Nat → Int32) → (Nat → Nat → Int64) → Prop := Nat.rec (fun _ _ _ _ _ => False) (fun _ r => wb_Graph_turnRound_79  r Post) n
def wb_Graph_turnRound_41 (K41 : Int32 → (Nat → Int32) → (Nat → Int64) → (Nat → Nat → Int32) → (Nat → Nat → Int64) → Prop) (Post : (Nat → Int32) → (Nat → Int64) → (Nat → Nat → Int32) → (Nat → Nat → Int64) → Prop) (x1 : Int32) (I : Nat → Int32) (J : Nat → Int64) (B : Nat → Nat → Int32) (D : Nat → Nat → Int64) : Prop :=
  (((I 19) < x1 → ∀ z9 : Int32, z9 = ((I 20) - 1) → ∃ n : Nat, wl_Graph_turnRound_79  Post n z9 I J B D) ∧ (¬ (I 19) < x1 → vp_in x1 97 ∧ ∀ z10 : Int32, z10 = ((B 37) x1.toNatClampNeg) → ∀ z11 : Int32, z11 = (x1 - 1) → vp_in z11 97 ∧ ∀ z12 : Int32, z12 = ((B 37) z11.toNatClampNeg) → ∀ z13 : Int32, z13 = (z10 + z12) → vp_in x1 97 ∧ ∀ z14 : Int32, z14 = (x1 + 1) → K41 z14 I J (va_up B 37 (upd (B 37) x1.toNatClampNeg z13)) D))
def wl_Graph_turnRound_41 (Post : (Nat → Int32) → (Nat → Int64) → (Nat → Nat → Int32) → (Nat → Nat → Int64) → Prop) (n : Nat) : Int32 → (Nat → Int32) → (Nat → Int64) → (Nat → Nat → Int32) → (Nat → Nat → Int64) → Prop := Nat.rec (fun _ _ _ _ _ => False) (fun _ r => wb_Graph_turnRound_41  r Post) n
def wb_Graph_turnRound_10 (K10 : Int32 → (Nat → Int32) → (Nat → Int64) → (Nat → Nat → Int32) → (Nat → Nat → Int64) → Prop) (Post : (Nat → Int32) → (Nat → Int64) → (Nat → Nat → Int32) → (Nat → Nat → Int64) → Prop) (x1 : Int32) (I : Nat → Int32) (J : Nat → Int64) (B : Nat → Nat → Int32) (D : Nat → Nat → Int64) : Prop :=
  (((I 20) ≤ x1 → ∃ n : Nat, wl_Graph_turnRound_41  Post n 1 I J B D) ∧ (¬ (I 20) ≤ x1 → vp_in x1 400 ∧ ∀ z16 : Int32, z16 = ((B 34) x1.toNatClampNeg) → vp_in z16 97 ∧ ∀ z17 : Int32, z17 = ((B 37) z16.toNatClampNeg) → ∀ z18 : Int32, z18 = (z17 + 1) → vp_in z16 97 ∧ ∀ z19 : Int32, z19 = (x1 + 1) → K10 z19 I J (va_up B 37 (upd (B 37) z16.toNatClampNeg z18)) D))
def wl_Graph_turnRound_10 (Post : (Nat → Int32) → (Nat → Int64) → (Nat → Nat → Int32) → (Nat → Nat → Int64) → Prop) (n : Nat) : Int32 → (Nat → Int32) → (Nat → Int64) → (Nat → Nat → Int32) → (Nat → Nat → Int64) → Prop := Nat.rec (fun _ _ _ _ _ => False) (fun _ r => wb_Graph_turnRound_10  r Post) n
def wp_Graph_turnRound (I : Nat → Int32) (J : Nat → Int64) (B : Nat → Nat → Int32) (D : Nat → Nat → Int64) (Post : (Nat → Int32) → (Nat → Int64) → (Nat → Nat → Int32) → (Nat → Nat → Int64) → Prop) : Prop :=
  ∃ n : Nat, wl_Graph_turnRound_10  Post n 0 I J (va_up B 37 (zFill (B 37) 0 97)) D
set_option maxHeartbeats 8000000 in
set_option maxRecDepth 100000 in
theorem wB_Graph_turnRound_79 {p : Program} {l : Launch} {e : Env} {s : State} {m : MethodId} {below : List Frame} {meth : Method} {c : Code} {A : Nat → Prop} (G : va_G) (K : Nat → ClassId) (ad : Nat → Nat) (sv : Value) (Post : (Nat → Int32) → (Nat → Int64) → (Nat → Nat → Int32) → (Nat → Nat → Int64) → Prop) (C : zCx p s m ([.ref (ad 8)] : List Value).toArray meth c A G K prog_3_method_9_code none 3 "LassoFinder$Graph") (K79 : Int32 → (Nat → Int32) → (Nat → Int64) → (Nat → Nat → Int32) → (Nat → Nat → Int64) → Prop) (kh79 : ∀ (x1 : Int32) (I : Nat → Int32) (J : Nat → Int64) (B : Nat → Nat → Int32) (D : Nat → Nat → Int64) (ls : Array Slot) (H : Heap) (locs : List Loc), K79 x1 I J B D → lv_has ls 3 [(0, .ref (ad 8)), (1, .int x1)] → zW G A s.heap (wX ad K sv I J B D) H locs → W p l e { frames := 1, cells := 0, slots := 0, locals := 23 } s m ([.ref (ad 8)] : List Value).toArray below meth c H locs 0 0 (MQ below (va_Qv (fun u : zS => Post u.1 u.2.1 u.2.2.1 u.2.2.2) (fun u t => zPost G K A (wX ad K sv u.1 u.2.1 u.2.2.1 u.2.2.2) t) A) ([.ref (ad 8)] : List Value).toArray s 0 0 A) (F0 m 79 ls [])) : ∀ (x1 : Int32) (I : Nat → Int32) (J : Nat → Int64) (B : Nat → Nat → Int32) (D : Nat → Nat → Int64) (ls : Array Slot) (H : Heap) (locs : List Loc), wb_Graph_turnRound_79  K79 Post x1 I J B D → lv_has ls 3 [(0, .ref (ad 8)), (1, .int x1)] → zW G A s.heap (wX ad K sv I J B D) H locs → W p l e { frames := 1, cells := 0, slots := 0, locals := 23 } s m ([.ref (ad 8)] : List Value).toArray below meth c H locs 0 0 (MQ below (va_Qv (fun u : zS => Post u.1 u.2.1 u.2.2.1 u.2.2.2) (fun u t => zPost G K A (wX ad K sv u.1 u.2.1 u.2.2.1 u.2.2.2) t) A) ([.ref (ad 8)] : List Value).toArray s 0 0 A) (F0 m 79 ls []) := by
  obtain ⟨hx, hb, hr, hml, hts, hown, hlocks, hA, hK⟩ := id C
  intro x1 I J B D ls H locs hok hl hw
  unfold wb_Graph_turnRound_79 at hok
  refine lv_iload_n hx hb zd_Graph_turnRound_79 rfl (lv_at hl 1 rfl) ?_
  refine lv_if_lt (tgt := 123) hx hb zd_Graph_turnRound_80 (by decide) (fun hc1 => ?_) (fun hc1 => ?_)
  · have hok := hok.1 hc1
    exact (z_vret (u := (I, J, B, D)) hx hb hr hlocks hw (List.range 65) wX_all wX_nd hok (Nat.le_of_ble_eq_true rfl) (Nat.le_of_ble_eq_true rfl) zd_Graph_turnRound_123)
  · have hok := hok.2 hc1
    refine lv_aload_n hx hb zd_Graph_turnRound_83 rfl (lv_at hl 0 rfl) ?_
    refine z_get (v := .ref (ad 49)) hx hb hts hown hK hw zZ2 8 wX_g8 4 (by decide) zn_272 rfl zd_Graph_turnRound_84 ?_
    refine lv_iload_n hx hb zd_Graph_turnRound_87 rfl (lv_at hl 1 rfl) ?_
    refine va_iald (f := (B 34)) hx hb hK hw.1 49 0 wX_a49 rfl hok.1 zd_Graph_turnRound_88 ?_
    have hok := hok.2
    refine lv_topi (fun z2 ez2 => ?_)
    have hok := hok z2 ez2
    refine lv_istore_n hx hb zd_Graph_turnRound_89 rfl hl (by decide) rfl (fun ls hl => ?_)
    have hl : lv_has ls 3 [(2, .int z2), (0, .ref (ad 8)), (1, .int x1)] := hl
    refine lv_aload_n hx hb zd_Graph_turnRound_90 rfl (lv_at hl 1 rfl) ?_
    refine z_get (v := .ref (ad 52)) hx hb hts hown hK hw zZ2 8 wX_g8 7 (by decide) zn_275 rfl zd_Graph_turnRound_91 ?_
    refine lv_iload_n hx hb zd_Graph_turnRound_94 rfl (lv_at hl 0 rfl) ?_
    refine lv_dup2_11 hx hb zd_Graph_turnRound_95 rfl rfl ?_
    refine va_iald (f := (B 37)) hx hb hK hw.1 52 0 wX_a52 rfl hok.1 zd_Graph_turnRound_96 ?_
    have hok := hok.2
    refine lv_topi (fun z3 ez3 => ?_)
    have hok := hok z3 ez3
    refine lv_iconst (v := 1) hx hb zd_Graph_turnRound_97 (by decide) ?_
    refine lv_isub hx hb zd_Graph_turnRound_98 ?_
    refine lv_topi (fun z4 ez4 => ?_)
    have hok := hok z4 ez4
    refine va_iast (f := (B 37)) hx hb hK hw.1 hw.2.1 hw.2.2 52 0 wX_a52 rfl hok.1 zd_Graph_turnRound_99 (fun H locs w91 w92 w93 => ?_)
    have hok := hok.2
    have hw := wX_t52 ⟨w91, w92, w93⟩
    refine lv_aload_n hx hb zd_Graph_turnRound_100 rfl (lv_at hl 1 rfl) ?_
    refine z_get (v := .ref (ad 53)) hx hb hts hown hK hw zZ2 8 wX_g8 8 (by decide) zn_276 rfl zd_Graph_turnRound_101 ?_
    refine lv_aload_n hx hb zd_Graph_turnRound_104 rfl (lv_at hl 1 rfl) ?_
    refine z_get (v := .ref (ad 52)) hx hb hts hown hK hw zZ2 8 wX_g8 7 (by decide) zn_275 rfl zd_Graph_turnRound_105 ?_
    refine lv_iload_n hx hb zd_Graph_turnRound_108 rfl (lv_at hl 0 rfl) ?_
    refine va_iald (f := (upd (B 37) z2.toNatClampNeg z4)) hx hb hK hw.1 52 0 wX_a52 rfl hok.1 zd_Graph_turnRound_109 ?_
    have hok := hok.2
    refine lv_topi (fun z5 ez5 => ?_)
    have hok := hok z5 ez5
    refine lv_aload_n hx hb zd_Graph_turnRound_110 rfl (lv_at hl 1 rfl) ?_
    refine z_get (v := .ref (ad 48)) hx hb hts hown hK hw zZ2 8 wX_g8 3 (by decide) zn_271 rfl zd_Graph_turnRound_111 ?_
    refine lv_iload_n hx hb zd_Graph_turnRound_114 rfl (lv_at hl 2 rfl) ?_
    refine va_iald (f := (B 33)) hx hb hK hw.1 48 0 wX_a48 rfl hok.1 zd_Graph_turnRound_115 ?_
    have hok := hok.2
    refine lv_topi (fun z6 ez6 => ?_)
    have hok := hok z6 ez6
    refine va_iast (f := (B 38)) hx hb hK hw.1 hw.2.1 hw.2.2 53 0 wX_a53 rfl hok.1 zd_Graph_turnRound_116 (fun H locs w91 w92 w93 => ?_)
    have hok := hok.2
    have hw := wX_t53 ⟨w91, w92, w93⟩
    obtain ⟨z7, ez7⟩ : ∃ z : Int32, z = (x1 + (-1)) := ⟨_, rfl⟩
    have hok := hok z7 ez7
    refine lv_iinc (v := z7) hx hb zd_Graph_turnRound_117 hl (k := 2) rfl ez7.symm (by decide) rfl (fun ls hl => ?_)
    have hl : lv_has ls 3 [(1, .int z7), (2, .int z2), (0, .ref (ad 8))] := hl
    refine lv_goto (tgt := 79) hx hb zd_Graph_turnRound_120 (by decide) ?_
    exact kh79 z7 I J (va_up (va_up B 37 (upd (B 37) z2.toNatClampNeg z4)) 38 (upd (B 38) z5.toNatClampNeg z6)) D ls H locs hok (lv_sub hl [2, 0] rfl) hw
theorem wL_Graph_turnRound_79 {p : Program} {l : Launch} {e : Env} {s : State} {m : MethodId} {below : List Frame} {meth : Method} {c : Code} {A : Nat → Prop} (G : va_G) (K : Nat → ClassId) (ad : Nat → Nat) (sv : Value) (Post : (Nat → Int32) → (Nat → Int64) → (Nat → Nat → Int32) → (Nat → Nat → Int64) → Prop) (C : zCx p s m ([.ref (ad 8)] : List Value).toArray meth c A G K prog_3_method_9_code none 3 "LassoFinder$Graph") : ∀ (n : Nat) (x1 : Int32) (I : Nat → Int32) (J : Nat → Int64) (B : Nat → Nat → Int32) (D : Nat → Nat → Int64) (ls : Array Slot) (H : Heap) (locs : List Loc), wl_Graph_turnRound_79  Post n x1 I J B D → lv_has ls 3 [(0, .ref (ad 8)), (1, .int x1)] → zW G A s.heap (wX ad K sv I J B D) H locs → W p l e { frames := 1, cells := 0, slots := 0, locals := 23 } s m ([.ref (ad 8)] : List Value).toArray below meth c H locs 0 0 (MQ below (va_Qv (fun u : zS => Post u.1 u.2.1 u.2.2.1 u.2.2.2) (fun u t => zPost G K A (wX ad K sv u.1 u.2.1 u.2.2.1 u.2.2.2) t) A) ([.ref (ad 8)] : List Value).toArray s 0 0 A) (F0 m 79 ls []) := by
  intro n
  induction n with
  | zero => intro x1 I J B D ls H locs hok; exact hok.elim
  | succ n ih => exact wB_Graph_turnRound_79 G K ad sv  Post C (wl_Graph_turnRound_79  Post n) ih
set_option maxHeartbeats 8000000 in
set_option maxRecDepth 100000 in
theorem wB_Graph_turnRound_41 {p : Program} {l : Launch} {e : Env} {s : State} {m : MethodId} {below : List Frame} {meth : Method} {c : Code} {A : Nat → Prop} (G : va_G) (K : Nat → ClassId) (ad : Nat → Nat) (sv : Value) (Post : (Nat → Int32) → (Nat → Int64) → (Nat → Nat → Int32) → (Nat → Nat → Int64) → Prop) (C : zCx p s m ([.ref (ad 8)] : List Value).toArray meth c A G K prog_3_method_9_code none 3 "LassoFinder$Graph") (K41 : Int32 → (Nat → Int32) → (Nat → Int64) → (Nat → Nat → Int32) → (Nat → Nat → Int64) → Prop) (kh41 : ∀ (x1 : Int32) (I : Nat → Int32) (J : Nat → Int64) (B : Nat → Nat → Int32) (D : Nat → Nat → Int64) (ls : Array Slot) (H : Heap) (locs : List Loc), K41 x1 I J B D → lv_has ls 3 [(0, .ref (ad 8)), (1, .int x1)] → zW G A s.heap (wX ad K sv I J B D) H locs → W p l e { frames := 1, cells := 0, slots := 0, locals := 23 } s m ([.ref (ad 8)] : List Value).toArray below meth c H locs 0 0 (MQ below (va_Qv (fun u : zS => Post u.1 u.2.1 u.2.2.1 u.2.2.2) (fun u t => zPost G K A (wX ad K sv u.1 u.2.1 u.2.2.1 u.2.2.2) t) A) ([.ref (ad 8)] : List Value).toArray s 0 0 A) (F0 m 41 ls [])) : ∀ (x1 : Int32) (I : Nat → Int32) (J : Nat → Int64) (B : Nat → Nat → Int32) (D : Nat → Nat → Int64) (ls : Array Slot) (H : Heap) (locs : List Loc), wb_Graph_turnRound_41  K41 Post x1 I J B D → lv_has ls 3 [(0, .ref (ad 8)), (1, .int x1)] → zW G A s.heap (wX ad K sv I J B D) H locs → W p l e { frames := 1, cells := 0, slots := 0, locals := 23 } s m ([.ref (ad 8)] : List Value).toArray below meth c H locs 0 0 (MQ below (va_Qv (fun u : zS => Post u.1 u.2.1 u.2.2.1 u.2.2.2) (fun u t => zPost G K A (wX ad K sv u.1 u.2.1 u.2.2.1 u.2.2.2) t) A) ([.ref (ad 8)] : List Value).toArray s 0 0 A) (F0 m 41 ls []) := by
  obtain ⟨hx, hb, hr, hml, hts, hown, hlocks, hA, hK⟩ := id C
  intro x1 I J B D ls H locs hok hl hw
  unfold wb_Graph_turnRound_41 at hok
  refine lv_iload_n hx hb zd_Graph_turnRound_41 rfl (lv_at hl 1 rfl) ?_
  refine lv_aload_n hx hb zd_Graph_turnRound_42 rfl (lv_at hl 0 rfl) ?_
  refine z_get (v := .int (I 19)) hx hb hts hown hK hw zZ2 8 wX_g8 9 (by decide) zn_461 rfl zd_Graph_turnRound_43 ?_
  refine lv_icmp_gt (tgt := 72) hx hb zd_Graph_turnRound_46 (by decide) (fun hc8 => ?_) (fun hc8 => ?_)
  · have hok := hok.1 hc8
    refine lv_aload_n hx hb zd_Graph_turnRound_72 rfl (lv_at hl 0 rfl) ?_
    refine z_get (v := .int (I 20)) hx hb hts hown hK hw zZ2 8 wX_g8 10 (by decide) zn_462 rfl zd_Graph_turnRound_73 ?_
    refine lv_iconst (v := 1) hx hb zd_Graph_turnRound_76 (by decide) ?_
    refine lv_isub hx hb zd_Graph_turnRound_77 ?_
    refine lv_topi (fun z9 ez9 => ?_)
    have hok := hok z9 ez9
    refine lv_istore_n hx hb zd_Graph_turnRound_78 rfl hl (by decide) rfl (fun ls hl => ?_)
    have hl : lv_has ls 3 [(1, .int z9), (0, .ref (ad 8))] := hl
    obtain ⟨n9, hok⟩ := hok
    exact wL_Graph_turnRound_79 G K ad sv  Post C n9 z9 I J B D ls H locs hok (lv_sub hl [1, 0] rfl) hw
  · have hok := hok.2 hc8
    refine lv_aload_n hx hb zd_Graph_turnRound_49 rfl (lv_at hl 0 rfl) ?_
    refine z_get (v := .ref (ad 52)) hx hb hts hown hK hw zZ2 8 wX_g8 7 (by decide) zn_275 rfl zd_Graph_turnRound_50 ?_
    refine lv_iload_n hx hb zd_Graph_turnRound_53 rfl (lv_at hl 1 rfl) ?_
    refine lv_dup2_11 hx hb zd_Graph_turnRound_54 rfl rfl ?_
    refine va_iald (f := (B 37)) hx hb hK hw.1 52 0 wX_a52 rfl hok.1 zd_Graph_turnRound_55 ?_
    have hok := hok.2
    refine lv_topi (fun z10 ez10 => ?_)
    have hok := hok z10 ez10
    refine lv_aload_n hx hb zd_Graph_turnRound_56 rfl (lv_at hl 0 rfl) ?_
    refine z_get (v := .ref (ad 52)) hx hb hts hown hK hw zZ2 8 wX_g8 7 (by decide) zn_275 rfl zd_Graph_turnRound_57 ?_
    refine lv_iload_n hx hb zd_Graph_turnRound_60 rfl (lv_at hl 1 rfl) ?_
    refine lv_iconst (v := 1) hx hb zd_Graph_turnRound_61 (by decide) ?_
    refine lv_isub hx hb zd_Graph_turnRound_62 ?_
    refine lv_topi (fun z11 ez11 => ?_)
    have hok := hok z11 ez11
    refine va_iald (f := (B 37)) hx hb hK hw.1 52 0 wX_a52 rfl hok.1 zd_Graph_turnRound_63 ?_
    have hok := hok.2
    refine lv_topi (fun z12 ez12 => ?_)
    have hok := hok z12 ez12
    refine lv_iadd hx hb zd_Graph_turnRound_64 ?_
    refine lv_topi (fun z13 ez13 => ?_)
    have hok := hok z13 ez13
    refine va_iast (f := (B 37)) hx hb hK hw.1 hw.2.1 hw.2.2 52 0 wX_a52 rfl hok.1 zd_Graph_turnRound_65 (fun H locs w91 w92 w93 => ?_)
    have hok := hok.2
    have hw := wX_t52 ⟨w91, w92, w93⟩
    obtain ⟨z14, ez14⟩ : ∃ z : Int32, z = (x1 + 1) := ⟨_, rfl⟩
    have hok := hok z14 ez14
    refine lv_iinc (v := z14) hx hb zd_Graph_turnRound_66 hl (k := 1) rfl ez14.symm (by decide) rfl (fun ls hl => ?_)
    have hl : lv_has ls 3 [(1, .int z14), (0, .ref (ad 8))] := hl
    refine lv_goto (tgt := 41) hx hb zd_Graph_turnRound_69 (by decide) ?_
    exact kh41 z14 I J (va_up B 37 (upd (B 37) x1.toNatClampNeg z13)) D ls H locs hok (lv_sub hl [1, 0] rfl) hw
theorem wL_Graph_turnRound_41 {p : Program} {l : Launch} {e : Env} {s : State} {m : MethodId} {below : List Frame} {meth : Method} {c : Code} {A : Nat → Prop} (G : va_G) (K : Nat → ClassId) (ad : Nat → Nat) (sv : Value) (Post : (Nat → Int32) → (Nat → Int64) → (Nat → Nat → Int32) → (Nat → Nat → Int64) → Prop) (C : zCx p s m ([.ref (ad 8)] : List Value).toArray meth c A G K prog_3_method_9_code none 3 "LassoFinder$Graph") : ∀ (n : Nat) (x1 : Int32) (I : Nat → Int32) (J : Nat → Int64) (B : Nat → Nat → Int32) (D : Nat → Nat → Int64) (ls : Array Slot) (H : Heap) (locs : List Loc), wl_Graph_turnRound_41  Post n x1 I J B D → lv_has ls 3 [(0, .ref (ad 8)), (1, .int x1)] → zW G A s.heap (wX ad K sv I J B D) H locs → W p l e { frames := 1, cells := 0, slots := 0, locals := 23 } s m ([.ref (ad 8)] : List Value).toArray below meth c H locs 0 0 (MQ below (va_Qv (fun u : zS => Post u.1 u.2.1 u.2.2.1 u.2.2.2) (fun u t => zPost G K A (wX ad K sv u.1 u.2.1 u.2.2.1 u.2.2.2) t) A) ([.ref (ad 8)] : List Value).toArray s 0 0 A) (F0 m 41 ls []) := by
  intro n
  induction n with
  | zero => intro x1 I J B D ls H locs hok; exact hok.elim
  | succ n ih => exact wB_Graph_turnRound_41 G K ad sv  Post C (wl_Graph_turnRound_41  Post n) ih
set_option maxHeartbeats 8000000 in
set_option maxRecDepth 100000 in
theorem wB_Graph_turnRound_10 {p : Program} {l : Launch} {e : Env} {s : State} {m : MethodId} {below : List Frame} {meth : Method} {c : Code} {A : Nat → Prop} (G : va_G) (K : Nat → ClassId) (ad : Nat → Nat) (sv : Value) (Post : (Nat → Int32) → (Nat → Int64) → (Nat → Nat → Int32) → (Nat → Nat → Int64) → Prop) (C : zCx p s m ([.ref (ad 8)] : List Value).toArray meth c A G K prog_3_method_9_code none 3 "LassoFinder$Graph") (K10 : Int32 → (Nat → Int32) → (Nat → Int64) → (Nat → Nat → Int32) → (Nat → Nat → Int64) → Prop) (kh10 : ∀ (x1 : Int32) (I : Nat → Int32) (J : Nat → Int64) (B : Nat → Nat → Int32) (D : Nat → Nat → Int64) (ls : Array Slot) (H : Heap) (locs : List Loc), K10 x1 I J B D → lv_has ls 3 [(0, .ref (ad 8)), (1, .int x1)] → zW G A s.heap (wX ad K sv I J B D) H locs → W p l e { frames := 1, cells := 0, slots := 0, locals := 23 } s m ([.ref (ad 8)] : List Value).toArray below meth c H locs 0 0 (MQ below (va_Qv (fun u : zS => Post u.1 u.2.1 u.2.2.1 u.2.2.2) (fun u t => zPost G K A (wX ad K sv u.1 u.2.1 u.2.2.1 u.2.2.2) t) A) ([.ref (ad 8)] : List Value).toArray s 0 0 A) (F0 m 10 ls [])) : ∀ (x1 : Int32) (I : Nat → Int32) (J : Nat → Int64) (B : Nat → Nat → Int32) (D : Nat → Nat → Int64) (ls : Array Slot) (H : Heap) (locs : List Loc), wb_Graph_turnRound_10  K10 Post x1 I J B D → lv_has ls 3 [(0, .ref (ad 8)), (1, .int x1)] → zW G A s.heap (wX ad K sv I J B D) H locs → W p l e { frames := 1, cells := 0, slots := 0, locals := 23 } s m ([.ref (ad 8)] : List Value).toArray below meth c H locs 0 0 (MQ below (va_Qv (fun u : zS => Post u.1 u.2.1 u.2.2.1 u.2.2.2) (fun u t => zPost G K A (wX ad K sv u.1 u.2.1 u.2.2.1 u.2.2.2) t) A) ([.ref (ad 8)] : List Value).toArray s 0 0 A) (F0 m 10 ls []) := by
  obtain ⟨hx, hb, hr, hml, hts, hown, hlocks, hA, hK⟩ := id C
  intro x1 I J B D ls H locs hok hl hw
  unfold wb_Graph_turnRound_10 at hok
  refine lv_iload_n hx hb zd_Graph_turnRound_10 rfl (lv_at hl 1 rfl) ?_
  refine lv_aload_n hx hb zd_Graph_turnRound_11 rfl (lv_at hl 0 rfl) ?_
  refine z_get (v := .int (I 20)) hx hb hts hown hK hw zZ2 8 wX_g8 10 (by decide) zn_462 rfl zd_Graph_turnRound_12 ?_
  refine lv_icmp_ge (tgt := 39) hx hb zd_Graph_turnRound_15 (by decide) (fun hc15 => ?_) (fun hc15 => ?_)
  · have hok := hok.1 hc15
    refine lv_iconst (v := 1) hx hb zd_Graph_turnRound_39 (by decide) ?_
    refine lv_istore_n hx hb zd_Graph_turnRound_40 rfl hl (by decide) rfl (fun ls hl => ?_)
    have hl : lv_has ls 3 [(1, .int 1), (0, .ref (ad 8))] := hl
    obtain ⟨n9, hok⟩ := hok
    exact wL_Graph_turnRound_41 G K ad sv  Post C n9 1 I J B D ls H locs hok (lv_sub hl [1, 0] rfl) hw
  · have hok := hok.2 hc15
    refine lv_aload_n hx hb zd_Graph_turnRound_18 rfl (lv_at hl 0 rfl) ?_
    refine z_get (v := .ref (ad 52)) hx hb hts hown hK hw zZ2 8 wX_g8 7 (by decide) zn_275 rfl zd_Graph_turnRound_19 ?_
    refine lv_aload_n hx hb zd_Graph_turnRound_22 rfl (lv_at hl 0 rfl) ?_
    refine z_get (v := .ref (ad 49)) hx hb hts hown hK hw zZ2 8 wX_g8 4 (by decide) zn_272 rfl zd_Graph_turnRound_23 ?_
    refine lv_iload_n hx hb zd_Graph_turnRound_26 rfl (lv_at hl 1 rfl) ?_
    refine va_iald (f := (B 34)) hx hb hK hw.1 49 0 wX_a49 rfl hok.1 zd_Graph_turnRound_27 ?_
    have hok := hok.2
    refine lv_topi (fun z16 ez16 => ?_)
    have hok := hok z16 ez16
    refine lv_dup2_11 hx hb zd_Graph_turnRound_28 rfl rfl ?_
    refine va_iald (f := (B 37)) hx hb hK hw.1 52 0 wX_a52 rfl hok.1 zd_Graph_turnRound_29 ?_
    have hok := hok.2
    refine lv_topi (fun z17 ez17 => ?_)
    have hok := hok z17 ez17
    refine lv_iconst (v := 1) hx hb zd_Graph_turnRound_30 (by decide) ?_
    refine lv_iadd hx hb zd_Graph_turnRound_31 ?_
    refine lv_topi (fun z18 ez18 => ?_)
    have hok := hok z18 ez18
    refine va_iast (f := (B 37)) hx hb hK hw.1 hw.2.1 hw.2.2 52 0 wX_a52 rfl hok.1 zd_Graph_turnRound_32 (fun H locs w91 w92 w93 => ?_)
    have hok := hok.2
    have hw := wX_t52 ⟨w91, w92, w93⟩
    obtain ⟨z19, ez19⟩ : ∃ z : Int32, z = (x1 + 1) := ⟨_, rfl⟩
    have hok := hok z19 ez19
    refine lv_iinc (v := z19) hx hb zd_Graph_turnRound_33 hl (k := 1) rfl ez19.symm (by decide) rfl (fun ls hl => ?_)
    have hl : lv_has ls 3 [(1, .int z19), (0, .ref (ad 8))] := hl
    refine lv_goto (tgt := 10) hx hb zd_Graph_turnRound_36 (by decide) ?_
    exact kh10 z19 I J (va_up B 37 (upd (B 37) z16.toNatClampNeg z18)) D ls H locs hok (lv_sub hl [1, 0] rfl) hw
theorem wL_Graph_turnRound_10 {p : Program} {l : Launch} {e : Env} {s : State} {m : MethodId} {below : List Frame} {meth : Method} {c : Code} {A : Nat → Prop} (G : va_G) (K : Nat → ClassId) (ad : Nat → Nat) (sv : Value) (Post : (Nat → Int32) → (Nat → Int64) → (Nat → Nat → Int32) → (Nat → Nat → Int64) → Prop) (C : zCx p s m ([.ref (ad 8)] : List Value).toArray meth c A G K prog_3_method_9_code none 3 "LassoFinder$Graph") : ∀ (n : Nat) (x1 : Int32) (I : Nat → Int32) (J : Nat → Int64) (B : Nat → Nat → Int32) (D : Nat → Nat → Int64) (ls : Array Slot) (H : Heap) (locs : List Loc), wl_Graph_turnRound_10  Post n x1 I J B D → lv_has ls 3 [(0, .ref (ad 8)), (1, .int x1)] → zW G A s.heap (wX ad K sv I J B D) H locs → W p l e { frames := 1, cells := 0, slots := 0, locals := 23 } s m ([.ref (ad 8)] : List Value).toArray below meth c H locs 0 0 (MQ below (va_Qv (fun u : zS => Post u.1 u.2.1 u.2.2.1 u.2.2.2) (fun u t => zPost G K A (wX ad K sv u.1 u.2.1 u.2.2.1 u.2.2.2) t) A) ([.ref (ad 8)] : List Value).toArray s 0 0 A) (F0 m 10 ls []) := by
  intro n
  induction n with
  | zero => intro x1 I J B D ls H locs hok; exact hok.elim
  | succ n ih => exact wB_Graph_turnRound_10 G K ad sv  Post C (wl_Graph_turnRound_10  Post n) ih
set_option maxHeartbeats 8000000 in
set_option maxRecDepth 100000 in
theorem w_Graph_turnRound (l : Launch) (G : va_G) (K : Nat → ClassId) (ad : Nat → Nat) (sv : Value) (I : Nat → Int32) (J : Nat → Int64) (B : Nat → Nat → Int32) (D : Nat → Nat → Int64) (Post : (Nat → Int32) → (Nat → Int64) → (Nat → Nat → Int32) → (Nat → Nat → Int64) → Prop) (sz : Nat) (hok : wp_Graph_turnRound I J B D  Post) : Met l zy_Graph_turnRound (Cond.code zy_Graph_turnRound prog_3_method_9_code 3 none :: zTB) { frames := 1, cells := 0, slots := 0, locals := 23 } (va_Pc [.ref (ad 8)] (zPre G K (wX ad K sv I J B D) sz)) (va_Qv (fun u : zS => Post u.1 u.2.1 u.2.2.1 u.2.2.2) (fun u t => zPost G K (va_A (wX ad K sv I J B D) sz) (wX ad K sv u.1 u.2.1 u.2.2.1 u.2.2.2) t) (va_A (wX ad K sv I J B D) sz)) 0 0 (va_A (wX ad K sv I J B D) sz) := by
  refine zMet (y := zy_Graph_turnRound) (av := [.ref (ad 8)]) (maxL := 3) (cc := prog_3_method_9_code) (ret := none) (W0 := (wX ad K sv I J B D)) (sz := sz) (G := G) (K := K) (wt := zTB) (mc := 0) (ms := 0) (Qf := fun A => va_Qv (fun u : zS => Post u.1 u.2.1 u.2.2.1 u.2.2.2) (fun u t => zPost G K A (wX ad K sv u.1 u.2.1 u.2.2.1 u.2.2.2) t) A) (by decide) (Nat.le_of_ble_eq_true rfl) ?_
  intro p e s m below meth c ls A hx hb hr hml hts hown hlocks hin hA hK H locs hw hsz hl
  clear hsz
  have hown : s.vm.findClass "LassoFinder$Graph" = some m.cls := hown
  have C : zCx p s m ([.ref (ad 8)] : List Value).toArray meth c A G K prog_3_method_9_code none 3 "LassoFinder$Graph" := ⟨hx, hb, hr, hml, hts, hown, hlocks, hA, hK⟩
  have hl : lv_has ls 3 [(0, .ref (ad 8))] := hl
  have hw : zW G A s.heap (wX ad K sv I J B D) H locs := hw
  unfold wp_Graph_turnRound at hok
  refine lv_aload_n hx hb zd_Graph_turnRound_0 rfl (lv_at hl 0 rfl) ?_
  refine z_get (v := .ref (ad 52)) hx hb hts hown hK hw zZ2 8 wX_g8 7 (by decide) zn_275 rfl zd_Graph_turnRound_1 ?_
  refine lv_iconst (v := 0) hx hb zd_Graph_turnRound_4 (by decide) ?_
  refine z_fillI (f := (B 37)) (v := 0) (n := 97) (rest := []) ⟨hx, hb, hml, hown, hts⟩ hK hw hA 52 wX_a52 (by decide) zn_412 ⟨(Nat.le_of_ble_eq_true rfl), (Nat.le_of_ble_eq_true rfl)⟩ hl.1 rfl (Nat.le_of_ble_eq_true rfl) zd_Graph_turnRound_5 ⟨(Nat.le_of_ble_eq_true rfl), (Nat.le_of_ble_eq_true rfl)⟩ (fun H locs hw => ?_)
  have hw := wX_t52 hw
  refine lv_iconst (v := 0) hx hb zd_Graph_turnRound_8 (by decide) ?_
  refine lv_istore_n hx hb zd_Graph_turnRound_9 rfl hl (by decide) rfl (fun ls hl => ?_)
  have hl : lv_has ls 3 [(1, .int 0), (0, .ref (ad 8))] := hl
  obtain ⟨n9, hok⟩ := hok
  exact wL_Graph_turnRound_10 G K ad sv  Post C n9 0 I J (va_up B 37 (zFill (B 37) 0 97)) D ls H locs hok (lv_sub hl [1, 0] rfl) hw
def wp_Graph_add (I : Nat → Int32) (J : Nat → Int64) (B : Nat → Nat → Int32) (D : Nat → Nat → Int64) (a0 : Int32) (a1 : Int32) (a2 : Int32) (a3 : Int32) (Post : Int32 → (Nat → Int32) → (Nat → Int64) → (Nat → Nat → Int32) → (Nat → Nat → Int64) → Prop) : Prop :=
  ((¬ (I 20) = 400 → vp_in (I 20) 400 ∧ vp_in (I 20) 400 ∧ vp_in (I 20) 400 ∧ vp_in (I 20) 400 ∧ ∀ z2 : Int32, z2 = ((I 20) + 1) → Post 1 (upd I 20 z2) J (va_up (va_up (va_up (va_up B 33 (upd (B 33) (I 20).toNatClampNeg a0)) 34 (upd (B 34) (I 20).toNatClampNeg a1)) 35 (upd (B 35) (I 20).toNatClampNeg a2)) 36 (upd (B 36) (I 20).toNatClampNeg a3)) D) ∧ ((I 20) = 400 → Post 0 I J B D))
set_option maxHeartbeats 8000000 in
set_option maxRecDepth 100000 in
theorem w_Graph_add (l : Launch) (G : va_G) (K : Nat → ClassId) (ad : Nat → Nat) (sv : Value) (I : Nat → Int32) (J : Nat → Int64) (B : Nat → Nat → Int32) (D : Nat → Nat → Int64) (a0 : Int32) (a1 : Int32) (a2 : Int32) (a3 : Int32) (Post : Int32 → (Nat → Int32) → (Nat → Int64) → (Nat → Nat → Int32) → (Nat → Nat → Int64) → Prop) (sz : Nat) (hok : wp_Graph_add I J B D a0 a1 a2 a3 Post) : Met l zy_Graph_add (Cond.code zy_Graph_add prog_3_method_7_code 5 (some .boolean) :: zTB) { frames := 0, cells := 0, slots := 0, locals := 0 } (va_Pc [.ref (ad 8), .int a0, .int a1, .int a2, .int a3] (zPre G K (wX ad K sv I J B D) sz)) (va_Qi (fun (r : Int32) (u : zS) => Post r u.1 u.2.1 u.2.2.1 u.2.2.2) (fun u t => zPost G K (va_A (wX ad K sv I J B D) sz) (wX ad K sv u.1 u.2.1 u.2.2.1 u.2.2.2) t) (va_A (wX ad K sv I J B D) sz)) 0 0 (va_A (wX ad K sv I J B D) sz) := by
  refine zMet (y := zy_Graph_add) (av := [.ref (ad 8), .int a0, .int a1, .int a2, .int a3]) (maxL := 5) (cc := prog_3_method_7_code) (ret := (some .boolean)) (W0 := (wX ad K sv I J B D)) (sz := sz) (G := G) (K := K) (wt := zTB) (mc := 0) (ms := 0) (Qf := fun A => va_Qi (fun (r : Int32) (u : zS) => Post r u.1 u.2.1 u.2.2.1 u.2.2.2) (fun u t => zPost G K A (wX ad K sv u.1 u.2.1 u.2.2.1 u.2.2.2) t) A) (by decide) (Nat.le_of_ble_eq_true rfl) ?_
  intro p e s m below meth c ls A hx hb hr hml hts hown hlocks hin hA hK H locs hw hsz hl
  clear hsz
  have hown : s.vm.findClass "LassoFinder$Graph" = some m.cls := hown
  have C : zCx p s m ([.ref (ad 8), .int a0, .int a1, .int a2, .int a3] : List Value).toArray meth c A G K prog_3_method_7_code (some .boolean) 5 "LassoFinder$Graph" := ⟨hx, hb, hr, hml, hts, hown, hlocks, hA, hK⟩
  have hl : lv_has ls 5 [(0, .ref (ad 8)), (1, .int a0), (2, .int a1), (3, .int a2), (4, .int a3)] := hl
  have hw : zW G A s.heap (wX ad K sv I J B D) H locs := hw
  unfold wp_Graph_add at hok
  refine lv_aload_n hx hb zd_Graph_add_0 rfl (lv_at hl 0 rfl) ?_
  refine z_get (v := .int (I 20)) hx hb hts hown hK hw zZ2 8 wX_g8 10 (by decide) zn_462 rfl zd_Graph_add_1 ?_
  refine lv_sipush (v := 400) hx hb zd_Graph_add_4 (by decide) ?_
  refine lv_icmp_ne (tgt := 12) hx hb zd_Graph_add_7 (by decide) (fun hc1 => ?_) (fun hc1 => ?_)
  · have hok := hok.1 hc1
    refine lv_aload_n hx hb zd_Graph_add_12 rfl (lv_at hl 0 rfl) ?_
    refine z_get (v := .ref (ad 48)) hx hb hts hown hK hw zZ2 8 wX_g8 3 (by decide) zn_271 rfl zd_Graph_add_13 ?_
    refine lv_aload_n hx hb zd_Graph_add_16 rfl (lv_at hl 0 rfl) ?_
    refine z_get (v := .int (I 20)) hx hb hts hown hK hw zZ2 8 wX_g8 10 (by decide) zn_462 rfl zd_Graph_add_17 ?_
    refine lv_iload_n hx hb zd_Graph_add_20 rfl (lv_at hl 1 rfl) ?_
    refine va_iast (f := (B 33)) hx hb hK hw.1 hw.2.1 hw.2.2 48 0 wX_a48 rfl hok.1 zd_Graph_add_21 (fun H locs w91 w92 w93 => ?_)
    have hok := hok.2
    have hw := wX_t48 ⟨w91, w92, w93⟩
    refine lv_aload_n hx hb zd_Graph_add_22 rfl (lv_at hl 0 rfl) ?_
    refine z_get (v := .ref (ad 49)) hx hb hts hown hK hw zZ2 8 wX_g8 4 (by decide) zn_272 rfl zd_Graph_add_23 ?_
    refine lv_aload_n hx hb zd_Graph_add_26 rfl (lv_at hl 0 rfl) ?_
    refine z_get (v := .int (I 20)) hx hb hts hown hK hw zZ2 8 wX_g8 10 (by decide) zn_462 rfl zd_Graph_add_27 ?_
    refine lv_iload_n hx hb zd_Graph_add_30 rfl (lv_at hl 2 rfl) ?_
    refine va_iast (f := (B 34)) hx hb hK hw.1 hw.2.1 hw.2.2 49 0 wX_a49 rfl hok.1 zd_Graph_add_31 (fun H locs w91 w92 w93 => ?_)
    have hok := hok.2
    have hw := wX_t49 ⟨w91, w92, w93⟩
    refine lv_aload_n hx hb zd_Graph_add_32 rfl (lv_at hl 0 rfl) ?_
    refine z_get (v := .ref (ad 50)) hx hb hts hown hK hw zZ2 8 wX_g8 5 (by decide) zn_273 rfl zd_Graph_add_33 ?_
    refine lv_aload_n hx hb zd_Graph_add_36 rfl (lv_at hl 0 rfl) ?_
    refine z_get (v := .int (I 20)) hx hb hts hown hK hw zZ2 8 wX_g8 10 (by decide) zn_462 rfl zd_Graph_add_37 ?_
    refine lv_iload_n hx hb zd_Graph_add_40 rfl (lv_at hl 3 rfl) ?_
    refine va_iast (f := (B 35)) hx hb hK hw.1 hw.2.1 hw.2.2 50 0 wX_a50 rfl hok.1 zd_Graph_add_41 (fun H locs w91 w92 w93 => ?_)
    have hok := hok.2
    have hw := wX_t50 ⟨w91, w92, w93⟩
    refine lv_aload_n hx hb zd_Graph_add_42 rfl (lv_at hl 0 rfl) ?_
    refine z_get (v := .ref (ad 51)) hx hb hts hown hK hw zZ2 8 wX_g8 6 (by decide) zn_274 rfl zd_Graph_add_43 ?_
    refine lv_aload_n hx hb zd_Graph_add_46 rfl (lv_at hl 0 rfl) ?_
    refine z_get (v := .int (I 20)) hx hb hts hown hK hw zZ2 8 wX_g8 10 (by decide) zn_462 rfl zd_Graph_add_47 ?_
    refine lv_iload hx hb zd_Graph_add_50 (lv_at hl 4 rfl) ?_
    refine va_iast (f := (B 36)) hx hb hK hw.1 hw.2.1 hw.2.2 51 0 wX_a51 rfl hok.1 zd_Graph_add_52 (fun H locs w91 w92 w93 => ?_)
    have hok := hok.2
    have hw := wX_t51 ⟨w91, w92, w93⟩
    refine lv_aload_n hx hb zd_Graph_add_53 rfl (lv_at hl 0 rfl) ?_
    refine lv_dup hx hb zd_Graph_add_54 rfl ?_
    refine z_get (v := .int (I 20)) hx hb hts hown hK hw zZ2 8 wX_g8 10 (by decide) zn_462 rfl zd_Graph_add_55 ?_
    refine lv_iconst (v := 1) hx hb zd_Graph_add_58 (by decide) ?_
    refine lv_iadd hx hb zd_Graph_add_59 ?_
    refine lv_topi (fun z2 ez2 => ?_)
    have hok := hok z2 ez2
    refine z_put (v := .int z2) hx hb hts hown hK hw zZ2 8 wX_g8 10 (by decide) zn_462 rfl rfl rfl (Nat.le_of_ble_eq_true rfl) zd_Graph_add_60 (fun H locs hw => ?_)
    have hw := wX_sI20 hw
    refine lv_iconst (v := 1) hx hb zd_Graph_add_63 (by decide) ?_
    exact (z_iret (u := ((upd I 20 z2), J, (va_up (va_up (va_up (va_up B 33 (upd (B 33) (I 20).toNatClampNeg a0)) 34 (upd (B 34) (I 20).toNatClampNeg a1)) 35 (upd (B 35) (I 20).toNatClampNeg a2)) 36 (upd (B 36) (I 20).toNatClampNeg a3)), D)) hx hb hr hlocks rfl hw (List.range 65) wX_all wX_nd hok (Nat.le_of_ble_eq_true rfl) (Nat.le_of_ble_eq_true rfl) zd_Graph_add_64)
  · have hok := hok.2 hc1
    refine lv_iconst (v := 0) hx hb zd_Graph_add_10 (by decide) ?_
    exact (z_iret (u := (I, J, B, D)) hx hb hr hlocks rfl hw (List.range 65) wX_all wX_nd hok (Nat.le_of_ble_eq_true rfl) (Nat.le_of_ble_eq_true rfl) zd_Graph_add_11)
def wc_Situation_passOn_42 (a0 : Int32) (Post : (Nat → Int32) → (Nat → Int64) → (Nat → Nat → Int32) → (Nat → Nat → Int64) → Prop)  (I : Nat → Int32) (J : Nat → Int64) (B : Nat → Nat → Int32) (D : Nat → Nat → Int64) : Prop :=
  Post I J B D
def wp_Situation_passOn (I : Nat → Int32) (J : Nat → Int64) (B : Nat → Nat → Int32) (D : Nat → Nat → Int64) (a0 : Int32) (Post : (Nat → Int32) → (Nat → Int64) → (Nat → Nat → Int32) → (Nat → Nat → Int64) → Prop) : Prop :=
  vp_in a0 48 ∧ ∀ z1 : Int32, z1 = ((B 10) a0.toNatClampNeg) → vp_in a0 48 ∧ ∀ z2 : Int32, z2 = ((B 11) a0.toNatClampNeg) → vp_in z1 4 ∧ vp_in a0 48 ∧ ∀ z3 : Int32, z3 = ((B 12) a0.toNatClampNeg) → ((z3 = 0 → wc_Situation_passOn_42 a0 Post I J (va_up B 31 (upd (B 31) z1.toNatClampNeg z2)) D) ∧ (¬ z3 = 0 → wc_Situation_passOn_42 a0 Post (upd I 18 z1) J (va_up B 31 (upd (B 31) z1.toNatClampNeg z2)) D))
set_option maxHeartbeats 8000000 in
set_option maxRecDepth 100000 in
theorem wJ_Situation_passOn_42 {p : Program} {l : Launch} {e : Env} {s : State} {m : MethodId} {below : List Frame} {meth : Method} {c : Code} {A : Nat → Prop} (G : va_G) (K : Nat → ClassId) (ad : Nat → Nat) (sv : Value) (a0 : Int32) (Post : (Nat → Int32) → (Nat → Int64) → (Nat → Nat → Int32) → (Nat → Nat → Int64) → Prop) (C : zCx p s m ([.ref (ad 7), .int a0] : List Value).toArray meth c A G K prog_8_method_14_code none 3 "LassoFinder$Situation") : ∀  (I : Nat → Int32) (J : Nat → Int64) (B : Nat → Nat → Int32) (D : Nat → Nat → Int64) (ls : Array Slot) (H : Heap) (locs : List Loc), wc_Situation_passOn_42 a0 Post  I J B D → lv_has ls 3 [] → zW G A s.heap (wX ad K sv I J B D) H locs → W p l e { frames := 0, cells := 0, slots := 0, locals := 0 } s m ([.ref (ad 7), .int a0] : List Value).toArray below meth c H locs 0 0 (MQ below (va_Qv (fun u : zS => Post u.1 u.2.1 u.2.2.1 u.2.2.2) (fun u t => zPost G K A (wX ad K sv u.1 u.2.1 u.2.2.1 u.2.2.2) t) A) ([.ref (ad 7), .int a0] : List Value).toArray s 0 0 A) (F0 m 42 ls []) := by
  obtain ⟨hx, hb, hr, hml, hts, hown, hlocks, hA, hK⟩ := id C
  intro  I J B D ls H locs hok hl hw
  unfold wc_Situation_passOn_42 at hok
  exact (z_vret (u := (I, J, B, D)) hx hb hr hlocks hw (List.range 65) wX_all wX_nd hok (Nat.le_of_ble_eq_true rfl) (Nat.le_of_ble_eq_true rfl) zd_Situation_passOn_42)
set_option maxHeartbeats 8000000 in
set_option maxRecDepth 100000 in
theorem w_Situation_passOn (l : Launch) (G : va_G) (K : Nat → ClassId) (ad : Nat → Nat) (sv : Value) (I : Nat → Int32) (J : Nat → Int64) (B : Nat → Nat → Int32) (D : Nat → Nat → Int64) (a0 : Int32) (Post : (Nat → Int32) → (Nat → Int64) → (Nat → Nat → Int32) → (Nat → Nat → Int64) → Prop) (sz : Nat) (hok : wp_Situation_passOn I J B D a0 Post) : Met l zy_Situation_passOn (Cond.code zy_Situation_passOn prog_8_method_14_code 3 none :: zTB) { frames := 0, cells := 0, slots := 0, locals := 0 } (va_Pc [.ref (ad 7), .int a0] (zPre G K (wX ad K sv I J B D) sz)) (va_Qv (fun u : zS => Post u.1 u.2.1 u.2.2.1 u.2.2.2) (fun u t => zPost G K (va_A (wX ad K sv I J B D) sz) (wX ad K sv u.1 u.2.1 u.2.2.1 u.2.2.2) t) (va_A (wX ad K sv I J B D) sz)) 0 0 (va_A (wX ad K sv I J B D) sz) := by
  refine zMet (y := zy_Situation_passOn) (av := [.ref (ad 7), .int a0]) (maxL := 3) (cc := prog_8_method_14_code) (ret := none) (W0 := (wX ad K sv I J B D)) (sz := sz) (G := G) (K := K) (wt := zTB) (mc := 0) (ms := 0) (Qf := fun A => va_Qv (fun u : zS => Post u.1 u.2.1 u.2.2.1 u.2.2.2) (fun u t => zPost G K A (wX ad K sv u.1 u.2.1 u.2.2.1 u.2.2.2) t) A) (by decide) (Nat.le_of_ble_eq_true rfl) ?_
  intro p e s m below meth c ls A hx hb hr hml hts hown hlocks hin hA hK H locs hw hsz hl
  clear hsz
  have hown : s.vm.findClass "LassoFinder$Situation" = some m.cls := hown
  have C : zCx p s m ([.ref (ad 7), .int a0] : List Value).toArray meth c A G K prog_8_method_14_code none 3 "LassoFinder$Situation" := ⟨hx, hb, hr, hml, hts, hown, hlocks, hA, hK⟩
  have hl : lv_has ls 3 [(0, .ref (ad 7)), (1, .int a0)] := hl
  have hw : zW G A s.heap (wX ad K sv I J B D) H locs := hw
  unfold wp_Situation_passOn at hok
  refine lv_aload_n hx hb zd_Situation_passOn_0 rfl (lv_at hl 0 rfl) ?_
  refine z_get (v := .ref (ad 3)) hx hb hts hown hK hw zZ7 7 wX_g7 2 (by decide) zn_463 rfl zd_Situation_passOn_1 ?_
  refine z_get (v := .ref (ad 22)) hx hb hts hown hK hw zZ6 3 wX_g3 4 (by decide) zn_469 rfl zd_Situation_passOn_4 ?_
  refine lv_iload_n hx hb zd_Situation_passOn_7 rfl (lv_at hl 1 rfl) ?_
  refine va_iald (f := (B 10)) hx hb hK hw.1 22 0 wX_a22 rfl hok.1 zd_Situation_passOn_8 ?_
  have hok := hok.2
  refine lv_topi (fun z1 ez1 => ?_)
  have hok := hok z1 ez1
  refine lv_istore_n hx hb zd_Situation_passOn_9 rfl hl (by decide) rfl (fun ls hl => ?_)
  have hl : lv_has ls 3 [(2, .int z1), (0, .ref (ad 7)), (1, .int a0)] := hl
  refine lv_aload_n hx hb zd_Situation_passOn_10 rfl (lv_at hl 1 rfl) ?_
  refine z_get (v := .ref (ad 45)) hx hb hts hown hK hw zZ7 7 wX_g7 5 (by decide) zn_268 rfl zd_Situation_passOn_11 ?_
  refine lv_iload_n hx hb zd_Situation_passOn_14 rfl (lv_at hl 0 rfl) ?_
  refine lv_aload_n hx hb zd_Situation_passOn_15 rfl (lv_at hl 1 rfl) ?_
  refine z_get (v := .ref (ad 3)) hx hb hts hown hK hw zZ7 7 wX_g7 2 (by decide) zn_463 rfl zd_Situation_passOn_16 ?_
  refine z_get (v := .ref (ad 23)) hx hb hts hown hK hw zZ6 3 wX_g3 5 (by decide) zn_470 rfl zd_Situation_passOn_19 ?_
  refine lv_iload_n hx hb zd_Situation_passOn_22 rfl (lv_at hl 2 rfl) ?_
  refine va_iald (f := (B 11)) hx hb hK hw.1 23 0 wX_a23 rfl hok.1 zd_Situation_passOn_23 ?_
  have hok := hok.2
  refine lv_topi (fun z2 ez2 => ?_)
  have hok := hok z2 ez2
  refine va_iast (f := (B 31)) hx hb hK hw.1 hw.2.1 hw.2.2 45 0 wX_a45 rfl hok.1 zd_Situation_passOn_24 (fun H locs w91 w92 w93 => ?_)
  have hok := hok.2
  have hw := wX_t45 ⟨w91, w92, w93⟩
  refine lv_aload_n hx hb zd_Situation_passOn_25 rfl (lv_at hl 1 rfl) ?_
  refine z_get (v := .ref (ad 3)) hx hb hts hown hK hw zZ7 7 wX_g7 2 (by decide) zn_463 rfl zd_Situation_passOn_26 ?_
  refine z_get (v := .ref (ad 24)) hx hb hts hown hK hw zZ6 3 wX_g3 6 (by decide) zn_471 rfl zd_Situation_passOn_29 ?_
  refine lv_iload_n hx hb zd_Situation_passOn_32 rfl (lv_at hl 2 rfl) ?_
  refine va_zald (f := (B 12)) hx hb hK hw.1 24 2 wX_a24 rfl hok.1 zd_Situation_passOn_33 ?_
  have hok := hok.2
  refine lv_topi (fun z3 ez3 => ?_)
  have hok := hok z3 ez3
  refine lv_if_eq (tgt := 42) hx hb zd_Situation_passOn_34 (by decide) (fun hc4 => ?_) (fun hc4 => ?_)
  · have hok := hok.1 hc4
    exact wJ_Situation_passOn_42 G K ad sv a0 Post C I J (va_up B 31 (upd (B 31) z1.toNatClampNeg z2)) D ls H locs hok (lv_sub hl [] rfl) hw
  · have hok := hok.2 hc4
    refine lv_aload_n hx hb zd_Situation_passOn_37 rfl (lv_at hl 1 rfl) ?_
    refine lv_iload_n hx hb zd_Situation_passOn_38 rfl (lv_at hl 0 rfl) ?_
    refine z_put (v := .int z1) hx hb hts hown hK hw zZ7 7 wX_g7 6 (by decide) zn_311 rfl rfl rfl (Nat.le_of_ble_eq_true rfl) zd_Situation_passOn_39 (fun H locs hw => ?_)
    have hw := wX_sI18 hw
    exact wJ_Situation_passOn_42 G K ad sv a0 Post C (upd I 18 z1) J (va_up B 31 (upd (B 31) z1.toNatClampNeg z2)) D ls H locs hok (lv_sub hl [] rfl) hw
def wp_Situation_put (I : Nat → Int32) (J : Nat → Int64) (B : Nat → Nat → Int32) (D : Nat → Nat → Int64) (a0 : Int32) (a1 : Int32) (Post : (Nat → Int32) → (Nat → Int64) → (Nat → Nat → Int32) → (Nat → Nat → Int64) → Prop) : Prop :=
  ∀ z1 : Int32, z1 = (a0 * 3) → vp_in a0 8 ∧ ∀ z2 : Int32, z2 = ((B 29) a0.toNatClampNeg) → ∀ z3 : Int32, z3 = (z1 + z2) → vp_in z3 24 ∧ vp_in a0 8 ∧ ∀ z4 : Int32, z4 = ((B 29) a0.toNatClampNeg) → ∀ z5 : Int32, z5 = (z4 + 1) → vp_in a0 8 ∧ Post I J (va_up (va_up B 30 (upd (B 30) z3.toNatClampNeg a1)) 29 (upd (B 29) a0.toNatClampNeg z5)) D
set_option maxHeartbeats 8000000 in
set_option maxRecDepth 100000 in
theorem w_Situation_put (l : Launch) (G : va_G) (K : Nat → ClassId) (ad : Nat → Nat) (sv : Value) (I : Nat → Int32) (J : Nat → Int64) (B : Nat → Nat → Int32) (D : Nat → Nat → Int64) (a0 : Int32) (a1 : Int32) (Post : (Nat → Int32) → (Nat → Int64) → (Nat → Nat → Int32) → (Nat → Nat → Int64) → Prop) (sz : Nat) (hok : wp_Situation_put I J B D a0 a1 Post) : Met l zy_Situation_put (Cond.code zy_Situation_put prog_8_method_12_code 3 none :: zTB) { frames := 0, cells := 0, slots := 0, locals := 0 } (va_Pc [.ref (ad 7), .int a0, .int a1] (zPre G K (wX ad K sv I J B D) sz)) (va_Qv (fun u : zS => Post u.1 u.2.1 u.2.2.1 u.2.2.2) (fun u t => zPost G K (va_A (wX ad K sv I J B D) sz) (wX ad K sv u.1 u.2.1 u.2.2.1 u.2.2.2) t) (va_A (wX ad K sv I J B D) sz)) 0 0 (va_A (wX ad K sv I J B D) sz) := by
  refine zMet (y := zy_Situation_put) (av := [.ref (ad 7), .int a0, .int a1]) (maxL := 3) (cc := prog_8_method_12_code) (ret := none) (W0 := (wX ad K sv I J B D)) (sz := sz) (G := G) (K := K) (wt := zTB) (mc := 0) (ms := 0) (Qf := fun A => va_Qv (fun u : zS => Post u.1 u.2.1 u.2.2.1 u.2.2.2) (fun u t => zPost G K A (wX ad K sv u.1 u.2.1 u.2.2.1 u.2.2.2) t) A) (by decide) (Nat.le_of_ble_eq_true rfl) ?_
  intro p e s m below meth c ls A hx hb hr hml hts hown hlocks hin hA hK H locs hw hsz hl
  clear hsz
  have hown : s.vm.findClass "LassoFinder$Situation" = some m.cls := hown
  have C : zCx p s m ([.ref (ad 7), .int a0, .int a1] : List Value).toArray meth c A G K prog_8_method_12_code none 3 "LassoFinder$Situation" := ⟨hx, hb, hr, hml, hts, hown, hlocks, hA, hK⟩
  have hl : lv_has ls 3 [(0, .ref (ad 7)), (1, .int a0), (2, .int a1)] := hl
  have hw : zW G A s.heap (wX ad K sv I J B D) H locs := hw
  unfold wp_Situation_put at hok
  refine lv_aload_n hx hb zd_Situation_put_0 rfl (lv_at hl 0 rfl) ?_
  refine z_get (v := .ref (ad 44)) hx hb hts hown hK hw zZ7 7 wX_g7 4 (by decide) zn_267 rfl zd_Situation_put_1 ?_
  refine lv_iload_n hx hb zd_Situation_put_4 rfl (lv_at hl 1 rfl) ?_
  refine lv_iconst (v := 3) hx hb zd_Situation_put_5 (by decide) ?_
  refine lv_imul hx hb zd_Situation_put_6 ?_
  refine lv_topi (fun z1 ez1 => ?_)
  have hok := hok z1 ez1
  refine lv_aload_n hx hb zd_Situation_put_7 rfl (lv_at hl 0 rfl) ?_
  refine z_get (v := .ref (ad 43)) hx hb hts hown hK hw zZ7 7 wX_g7 3 (by decide) zn_266 rfl zd_Situation_put_8 ?_
  refine lv_iload_n hx hb zd_Situation_put_11 rfl (lv_at hl 1 rfl) ?_
  refine va_iald (f := (B 29)) hx hb hK hw.1 43 0 wX_a43 rfl hok.1 zd_Situation_put_12 ?_
  have hok := hok.2
  refine lv_topi (fun z2 ez2 => ?_)
  have hok := hok z2 ez2
  refine lv_iadd hx hb zd_Situation_put_13 ?_
  refine lv_topi (fun z3 ez3 => ?_)
  have hok := hok z3 ez3
  refine lv_iload_n hx hb zd_Situation_put_14 rfl (lv_at hl 2 rfl) ?_
  refine va_iast (f := (B 30)) hx hb hK hw.1 hw.2.1 hw.2.2 44 0 wX_a44 rfl hok.1 zd_Situation_put_15 (fun H locs w91 w92 w93 => ?_)
  have hok := hok.2
  have hw := wX_t44 ⟨w91, w92, w93⟩
  refine lv_aload_n hx hb zd_Situation_put_16 rfl (lv_at hl 0 rfl) ?_
  refine z_get (v := .ref (ad 43)) hx hb hts hown hK hw zZ7 7 wX_g7 3 (by decide) zn_266 rfl zd_Situation_put_17 ?_
  refine lv_iload_n hx hb zd_Situation_put_20 rfl (lv_at hl 1 rfl) ?_
  refine lv_dup2_11 hx hb zd_Situation_put_21 rfl rfl ?_
  refine va_iald (f := (B 29)) hx hb hK hw.1 43 0 wX_a43 rfl hok.1 zd_Situation_put_22 ?_
  have hok := hok.2
  refine lv_topi (fun z4 ez4 => ?_)
  have hok := hok z4 ez4
  refine lv_iconst (v := 1) hx hb zd_Situation_put_23 (by decide) ?_
  refine lv_iadd hx hb zd_Situation_put_24 ?_
  refine lv_topi (fun z5 ez5 => ?_)
  have hok := hok z5 ez5
  refine va_iast (f := (B 29)) hx hb hK hw.1 hw.2.1 hw.2.2 43 0 wX_a43 rfl hok.1 zd_Situation_put_25 (fun H locs w91 w92 w93 => ?_)
  have hok := hok.2
  have hw := wX_t43 ⟨w91, w92, w93⟩
  exact (z_vret (u := (I, J, (va_up (va_up B 30 (upd (B 30) z3.toNatClampNeg a1)) 29 (upd (B 29) a0.toNatClampNeg z5)), D)) hx hb hr hlocks hw (List.range 65) wX_all wX_nd hok (Nat.le_of_ble_eq_true rfl) (Nat.le_of_ble_eq_true rfl) zd_Situation_put_26)
def wb_Situation_taken_21 (a0 : Int32) (K21 : Int32 → Int32 → Int32 → Int32 → (Nat → Int32) → (Nat → Int64) → (Nat → Nat → Int32) → (Nat → Nat → Int64) → Prop) (Post : Int32 → (Nat → Int32) → (Nat → Int64) → (Nat → Nat → Int32) → (Nat → Nat → Int64) → Prop) (x1 : Int32) (x3 : Int32) (x4 : Int32) (x5 : Int32) (I : Nat → Int32) (J : Nat → Int64) (B : Nat → Nat → Int32) (D : Nat → Nat → Int64) : Prop :=
  ((x3 ≤ x5 → vp_in x3 24 ∧ vp_in x1 8 ∧ ∀ z2 : Int32, z2 = ((B 29) x1.toNatClampNeg) → ∀ z3 : Int32, z3 = (z2 - 1) → vp_in x1 8 ∧ Post x4 I J (va_up (va_up B 30 (upd (B 30) x3.toNatClampNeg 0)) 29 (upd (B 29) x1.toNatClampNeg z3)) D) ∧ (¬ x3 ≤ x5 → ∀ z4 : Int32, z4 = (x5 + 1) → vp_in z4 24 ∧ ∀ z5 : Int32, z5 = ((B 30) z4.toNatClampNeg) → vp_in x5 24 ∧ ∀ z6 : Int32, z6 = (x5 + 1) → K21 x1 x3 x4 z6 I J (va_up B 30 (upd (B 30) x5.toNatClampNeg z5)) D))
def wl_Situation_taken_21 (a0 : Int32) (Post : Int32 → (Nat → Int32) → (Nat → Int64) → (Nat → Nat → Int32) → (Nat → Nat → Int64) → Prop) (n : Nat) : Int32 → Int32 → Int32 → Int32 → (Nat → Int32) → (Nat → Int64) → (Nat → Nat → Int32) → (Nat → Nat → Int64) → Prop := Nat.rec (fun _ _ _ _ _ _ _ _ => False) (fun _ r => wb_Situation_taken_21 a0 r Post) n
def wp_Situation_taken (I : Nat → Int32) (J : Nat → Int64) (B : Nat → Nat → Int32) (D : Nat → Nat → Int64) (a0 : Int32) (Post : Int32 → (Nat → Int32) → (Nat → Int64) → (Nat → Nat → Int32) → (Nat → Nat → Int64) → Prop) : Prop :=
  ∀ z7 : Int32, z7 = (a0 * 3) → ∀ z8 : Int32, z8 = (z7 + 3) → ∀ z9 : Int32, z9 = (z8 - 1) → vp_in z7 24 ∧ ∀ z10 : Int32, z10 = ((B 30) z7.toNatClampNeg) → ∃ n : Nat, wl_Situation_taken_21 a0 Post n a0 z9 z10 z7 I J B D
set_option maxHeartbeats 8000000 in
set_option maxRecDepth 100000 in
theorem wB_Situation_taken_21 {p : Program} {l : Launch} {e : Env} {s : State} {m : MethodId} {below : List Frame} {meth : Method} {c : Code} {A : Nat → Prop} (G : va_G) (K : Nat → ClassId) (ad : Nat → Nat) (sv : Value) (a0 : Int32) (Post : Int32 → (Nat → Int32) → (Nat → Int64) → (Nat → Nat → Int32) → (Nat → Nat → Int64) → Prop) (C : zCx p s m ([.ref (ad 7), .int a0] : List Value).toArray meth c A G K prog_8_method_13_code (some .int) 6 "LassoFinder$Situation") (K21 : Int32 → Int32 → Int32 → Int32 → (Nat → Int32) → (Nat → Int64) → (Nat → Nat → Int32) → (Nat → Nat → Int64) → Prop) (kh21 : ∀ (x1 : Int32) (x3 : Int32) (x4 : Int32) (x5 : Int32) (I : Nat → Int32) (J : Nat → Int64) (B : Nat → Nat → Int32) (D : Nat → Nat → Int64) (ls : Array Slot) (H : Heap) (locs : List Loc), K21 x1 x3 x4 x5 I J B D → lv_has ls 6 [(0, .ref (ad 7)), (1, .int x1), (3, .int x3), (4, .int x4), (5, .int x5)] → zW G A s.heap (wX ad K sv I J B D) H locs → W p l e { frames := 0, cells := 0, slots := 0, locals := 0 } s m ([.ref (ad 7), .int a0] : List Value).toArray below meth c H locs 0 0 (MQ below (va_Qi (fun (r : Int32) (u : zS) => Post r u.1 u.2.1 u.2.2.1 u.2.2.2) (fun u t => zPost G K A (wX ad K sv u.1 u.2.1 u.2.2.1 u.2.2.2) t) A) ([.ref (ad 7), .int a0] : List Value).toArray s 0 0 A) (F0 m 21 ls [])) : ∀ (x1 : Int32) (x3 : Int32) (x4 : Int32) (x5 : Int32) (I : Nat → Int32) (J : Nat → Int64) (B : Nat → Nat → Int32) (D : Nat → Nat → Int64) (ls : Array Slot) (H : Heap) (locs : List Loc), wb_Situation_taken_21 a0 K21 Post x1 x3 x4 x5 I J B D → lv_has ls 6 [(0, .ref (ad 7)), (1, .int x1), (3, .int x3), (4, .int x4), (5, .int x5)] → zW G A s.heap (wX ad K sv I J B D) H locs → W p l e { frames := 0, cells := 0, slots := 0, locals := 0 } s m ([.ref (ad 7), .int a0] : List Value).toArray below meth c H locs 0 0 (MQ below (va_Qi (fun (r : Int32) (u : zS) => Post r u.1 u.2.1 u.2.2.1 u.2.2.2) (fun u t => zPost G K A (wX ad K sv u.1 u.2.1 u.2.2.1 u.2.2.2) t) A) ([.ref (ad 7), .int a0] : List Value).toArray s 0 0 A) (F0 m 21 ls []) := by
  obtain ⟨hx, hb, hr, hml, hts, hown, hlocks, hA, hK⟩ := id C
  intro x1 x3 x4 x5 I J B D ls H locs hok hl hw
  unfold wb_Situation_taken_21 at hok
  refine lv_iload hx hb zd_Situation_taken_21 (lv_at hl 4 rfl) ?_
  refine lv_iload_n hx hb zd_Situation_taken_23 rfl (lv_at hl 2 rfl) ?_
  refine lv_icmp_ge (tgt := 49) hx hb zd_Situation_taken_24 (by decide) (fun hc1 => ?_) (fun hc1 => ?_)
  · have hok := hok.1 hc1
    refine lv_aload_n hx hb zd_Situation_taken_49 rfl (lv_at hl 0 rfl) ?_
    refine z_get (v := .ref (ad 44)) hx hb hts hown hK hw zZ7 7 wX_g7 4 (by decide) zn_267 rfl zd_Situation_taken_50 ?_
    refine lv_iload_n hx hb zd_Situation_taken_53 rfl (lv_at hl 2 rfl) ?_
    refine lv_iconst (v := 0) hx hb zd_Situation_taken_54 (by decide) ?_
    refine va_iast (f := (B 30)) hx hb hK hw.1 hw.2.1 hw.2.2 44 0 wX_a44 rfl hok.1 zd_Situation_taken_55 (fun H locs w91 w92 w93 => ?_)
    have hok := hok.2
    have hw := wX_t44 ⟨w91, w92, w93⟩
    refine lv_aload_n hx hb zd_Situation_taken_56 rfl (lv_at hl 0 rfl) ?_
    refine z_get (v := .ref (ad 43)) hx hb hts hown hK hw zZ7 7 wX_g7 3 (by decide) zn_266 rfl zd_Situation_taken_57 ?_
    refine lv_iload_n hx hb zd_Situation_taken_60 rfl (lv_at hl 1 rfl) ?_
    refine lv_dup2_11 hx hb zd_Situation_taken_61 rfl rfl ?_
    refine va_iald (f := (B 29)) hx hb hK hw.1 43 0 wX_a43 rfl hok.1 zd_Situation_taken_62 ?_
    have hok := hok.2
    refine lv_topi (fun z2 ez2 => ?_)
    have hok := hok z2 ez2
    refine lv_iconst (v := 1) hx hb zd_Situation_taken_63 (by decide) ?_
    refine lv_isub hx hb zd_Situation_taken_64 ?_
    refine lv_topi (fun z3 ez3 => ?_)
    have hok := hok z3 ez3
    refine va_iast (f := (B 29)) hx hb hK hw.1 hw.2.1 hw.2.2 43 0 wX_a43 rfl hok.1 zd_Situation_taken_65 (fun H locs w91 w92 w93 => ?_)
    have hok := hok.2
    have hw := wX_t43 ⟨w91, w92, w93⟩
    refine lv_iload hx hb zd_Situation_taken_66 (lv_at hl 3 rfl) ?_
    exact (z_iret (u := (I, J, (va_up (va_up B 30 (upd (B 30) x3.toNatClampNeg 0)) 29 (upd (B 29) x1.toNatClampNeg z3)), D)) hx hb hr hlocks rfl hw (List.range 65) wX_all wX_nd hok (Nat.le_of_ble_eq_true rfl) (Nat.le_of_ble_eq_true rfl) zd_Situation_taken_68)
  · have hok := hok.2 hc1
    refine lv_aload_n hx hb zd_Situation_taken_27 rfl (lv_at hl 0 rfl) ?_
    refine z_get (v := .ref (ad 44)) hx hb hts hown hK hw zZ7 7 wX_g7 4 (by decide) zn_267 rfl zd_Situation_taken_28 ?_
    refine lv_iload hx hb zd_Situation_taken_31 (lv_at hl 4 rfl) ?_
    refine lv_aload_n hx hb zd_Situation_taken_33 rfl (lv_at hl 0 rfl) ?_
    refine z_get (v := .ref (ad 44)) hx hb hts hown hK hw zZ7 7 wX_g7 4 (by decide) zn_267 rfl zd_Situation_taken_34 ?_
    refine lv_iload hx hb zd_Situation_taken_37 (lv_at hl 4 rfl) ?_
    refine lv_iconst (v := 1) hx hb zd_Situation_taken_39 (by decide) ?_
    refine lv_iadd hx hb zd_Situation_taken_40 ?_
    refine lv_topi (fun z4 ez4 => ?_)
    have hok := hok z4 ez4
    refine va_iald (f := (B 30)) hx hb hK hw.1 44 0 wX_a44 rfl hok.1 zd_Situation_taken_41 ?_
    have hok := hok.2
    refine lv_topi (fun z5 ez5 => ?_)
    have hok := hok z5 ez5
    refine va_iast (f := (B 30)) hx hb hK hw.1 hw.2.1 hw.2.2 44 0 wX_a44 rfl hok.1 zd_Situation_taken_42 (fun H locs w91 w92 w93 => ?_)
    have hok := hok.2
    have hw := wX_t44 ⟨w91, w92, w93⟩
    obtain ⟨z6, ez6⟩ : ∃ z : Int32, z = (x5 + 1) := ⟨_, rfl⟩
    have hok := hok z6 ez6
    refine lv_iinc (v := z6) hx hb zd_Situation_taken_43 hl (k := 4) rfl ez6.symm (by decide) rfl (fun ls hl => ?_)
    have hl : lv_has ls 6 [(5, .int z6), (0, .ref (ad 7)), (1, .int x1), (3, .int x3), (4, .int x4)] := hl
    refine lv_goto (tgt := 21) hx hb zd_Situation_taken_46 (by decide) ?_
    exact kh21 x1 x3 x4 z6 I J (va_up B 30 (upd (B 30) x5.toNatClampNeg z5)) D ls H locs hok (lv_sub hl [1, 2, 3, 4, 0] rfl) hw
theorem wL_Situation_taken_21 {p : Program} {l : Launch} {e : Env} {s : State} {m : MethodId} {below : List Frame} {meth : Method} {c : Code} {A : Nat → Prop} (G : va_G) (K : Nat → ClassId) (ad : Nat → Nat) (sv : Value) (a0 : Int32) (Post : Int32 → (Nat → Int32) → (Nat → Int64) → (Nat → Nat → Int32) → (Nat → Nat → Int64) → Prop) (C : zCx p s m ([.ref (ad 7), .int a0] : List Value).toArray meth c A G K prog_8_method_13_code (some .int) 6 "LassoFinder$Situation") : ∀ (n : Nat) (x1 : Int32) (x3 : Int32) (x4 : Int32) (x5 : Int32) (I : Nat → Int32) (J : Nat → Int64) (B : Nat → Nat → Int32) (D : Nat → Nat → Int64) (ls : Array Slot) (H : Heap) (locs : List Loc), wl_Situation_taken_21 a0 Post n x1 x3 x4 x5 I J B D → lv_has ls 6 [(0, .ref (ad 7)), (1, .int x1), (3, .int x3), (4, .int x4), (5, .int x5)] → zW G A s.heap (wX ad K sv I J B D) H locs → W p l e { frames := 0, cells := 0, slots := 0, locals := 0 } s m ([.ref (ad 7), .int a0] : List Value).toArray below meth c H locs 0 0 (MQ below (va_Qi (fun (r : Int32) (u : zS) => Post r u.1 u.2.1 u.2.2.1 u.2.2.2) (fun u t => zPost G K A (wX ad K sv u.1 u.2.1 u.2.2.1 u.2.2.2) t) A) ([.ref (ad 7), .int a0] : List Value).toArray s 0 0 A) (F0 m 21 ls []) := by
  intro n
  induction n with
  | zero => intro x1 x3 x4 x5 I J B D ls H locs hok; exact hok.elim
  | succ n ih => exact wB_Situation_taken_21 G K ad sv a0 Post C (wl_Situation_taken_21 a0 Post n) ih
set_option maxHeartbeats 8000000 in
set_option maxRecDepth 100000 in
theorem w_Situation_taken (l : Launch) (G : va_G) (K : Nat → ClassId) (ad : Nat → Nat) (sv : Value) (I : Nat → Int32) (J : Nat → Int64) (B : Nat → Nat → Int32) (D : Nat → Nat → Int64) (a0 : Int32) (Post : Int32 → (Nat → Int32) → (Nat → Int64) → (Nat → Nat → Int32) → (Nat → Nat → Int64) → Prop) (sz : Nat) (hok : wp_Situation_taken I J B D a0 Post) : Met l zy_Situation_taken (Cond.code zy_Situation_taken prog_8_method_13_code 6 (some .int) :: zTB) { frames := 0, cells := 0, slots := 0, locals := 0 } (va_Pc [.ref (ad 7), .int a0] (zPre G K (wX ad K sv I J B D) sz)) (va_Qi (fun (r : Int32) (u : zS) => Post r u.1 u.2.1 u.2.2.1 u.2.2.2) (fun u t => zPost G K (va_A (wX ad K sv I J B D) sz) (wX ad K sv u.1 u.2.1 u.2.2.1 u.2.2.2) t) (va_A (wX ad K sv I J B D) sz)) 0 0 (va_A (wX ad K sv I J B D) sz) := by
  refine zMet (y := zy_Situation_taken) (av := [.ref (ad 7), .int a0]) (maxL := 6) (cc := prog_8_method_13_code) (ret := (some .int)) (W0 := (wX ad K sv I J B D)) (sz := sz) (G := G) (K := K) (wt := zTB) (mc := 0) (ms := 0) (Qf := fun A => va_Qi (fun (r : Int32) (u : zS) => Post r u.1 u.2.1 u.2.2.1 u.2.2.2) (fun u t => zPost G K A (wX ad K sv u.1 u.2.1 u.2.2.1 u.2.2.2) t) A) (by decide) (Nat.le_of_ble_eq_true rfl) ?_
  intro p e s m below meth c ls A hx hb hr hml hts hown hlocks hin hA hK H locs hw hsz hl
  clear hsz
  have hown : s.vm.findClass "LassoFinder$Situation" = some m.cls := hown
  have C : zCx p s m ([.ref (ad 7), .int a0] : List Value).toArray meth c A G K prog_8_method_13_code (some .int) 6 "LassoFinder$Situation" := ⟨hx, hb, hr, hml, hts, hown, hlocks, hA, hK⟩
  have hl : lv_has ls 6 [(0, .ref (ad 7)), (1, .int a0)] := hl
  have hw : zW G A s.heap (wX ad K sv I J B D) H locs := hw
  unfold wp_Situation_taken at hok
  refine lv_iload_n hx hb zd_Situation_taken_0 rfl (lv_at hl 1 rfl) ?_
  refine lv_iconst (v := 3) hx hb zd_Situation_taken_1 (by decide) ?_
  refine lv_imul hx hb zd_Situation_taken_2 ?_
  refine lv_topi (fun z7 ez7 => ?_)
  have hok := hok z7 ez7
  refine lv_istore_n hx hb zd_Situation_taken_3 rfl hl (by decide) rfl (fun ls hl => ?_)
  have hl : lv_has ls 6 [(2, .int z7), (0, .ref (ad 7)), (1, .int a0)] := hl
  refine lv_iload_n hx hb zd_Situation_taken_4 rfl (lv_at hl 0 rfl) ?_
  refine lv_iconst (v := 3) hx hb zd_Situation_taken_5 (by decide) ?_
  refine lv_iadd hx hb zd_Situation_taken_6 ?_
  refine lv_topi (fun z8 ez8 => ?_)
  have hok := hok z8 ez8
  refine lv_iconst (v := 1) hx hb zd_Situation_taken_7 (by decide) ?_
  refine lv_isub hx hb zd_Situation_taken_8 ?_
  refine lv_topi (fun z9 ez9 => ?_)
  have hok := hok z9 ez9
  refine lv_istore_n hx hb zd_Situation_taken_9 rfl hl (by decide) rfl (fun ls hl => ?_)
  have hl : lv_has ls 6 [(3, .int z9), (2, .int z7), (0, .ref (ad 7)), (1, .int a0)] := hl
  refine lv_aload_n hx hb zd_Situation_taken_10 rfl (lv_at hl 2 rfl) ?_
  refine z_get (v := .ref (ad 44)) hx hb hts hown hK hw zZ7 7 wX_g7 4 (by decide) zn_267 rfl zd_Situation_taken_11 ?_
  refine lv_iload_n hx hb zd_Situation_taken_14 rfl (lv_at hl 1 rfl) ?_
  refine va_iald (f := (B 30)) hx hb hK hw.1 44 0 wX_a44 rfl hok.1 zd_Situation_taken_15 ?_
  have hok := hok.2
  refine lv_topi (fun z10 ez10 => ?_)
  have hok := hok z10 ez10
  refine lv_istore hx hb zd_Situation_taken_16 hl (by decide) rfl (fun ls hl => ?_)
  have hl : lv_has ls 6 [(4, .int z10), (3, .int z9), (2, .int z7), (0, .ref (ad 7)), (1, .int a0)] := hl
  refine lv_iload_n hx hb zd_Situation_taken_18 rfl (lv_at hl 2 rfl) ?_
  refine lv_istore hx hb zd_Situation_taken_19 hl (by decide) rfl (fun ls hl => ?_)
  have hl : lv_has ls 6 [(5, .int z7), (4, .int z10), (3, .int z9), (2, .int z7), (0, .ref (ad 7)), (1, .int a0)] := hl
  obtain ⟨n9, hok⟩ := hok
  exact wL_Situation_taken_21 G K ad sv a0 Post C n9 a0 z9 z10 z7 I J B D ls H locs hok (lv_sub hl [4, 5, 2, 1, 0] rfl) hw
def wc_Terms_joined_42 (a0 : Int32) (a1 : Int32) (a2 : Int32) (Post : Int32 → (Nat → Int32) → (Nat → Int64) → (Nat → Nat → Int32) → (Nat → Nat → Int64) → Prop) (y0 : Int32) (I : Nat → Int32) (J : Nat → Int64) (B : Nat → Nat → Int32) (D : Nat → Nat → Int64) : Prop :=
  Post y0 I J B D
def wc_Terms_joined_53 (a0 : Int32) (a1 : Int32) (a2 : Int32) (Post : Int32 → (Nat → Int32) → (Nat → Int64) → (Nat → Nat → Int32) → (Nat → Nat → Int64) → Prop) (y0 : Int32) (I : Nat → Int32) (J : Nat → Int64) (B : Nat → Nat → Int32) (D : Nat → Nat → Int64) : Prop :=
  Post y0 I J B D
def wp_Terms_joined (I : Nat → Int32) (J : Nat → Int64) (B : Nat → Nat → Int32) (D : Nat → Nat → Int64) (a0 : Int32) (a1 : Int32) (a2 : Int32) (Post : Int32 → (Nat → Int32) → (Nat → Int64) → (Nat → Nat → Int32) → (Nat → Nat → Int64) → Prop) : Prop :=
  ((a0 = 16 → ((¬ a1 = a2 → wc_Terms_joined_42 a0 a1 a2 Post 0 I J B D) ∧ (a1 = a2 → wc_Terms_joined_42 a0 a1 a2 Post 1 I J B D))) ∧ (a0 = 17 → ((a2 ≤ a1 → wc_Terms_joined_53 a0 a1 a2 Post 0 I J B D) ∧ (¬ a2 ≤ a1 → wc_Terms_joined_53 a0 a1 a2 Post 1 I J B D))) ∧ (a0 = 18 → ∀ z6 : Int32, z6 = (a1 + a2) → ∀ z7 : Int32, z7 = (z6 &&& 7) → Post z7 I J B D) ∧ (a0 = 19 → ∀ z9 : Int32, z9 = (a1 - a2) → ∀ z10 : Int32, z10 = (z9 &&& 7) → Post z10 I J B D) ∧ (¬ a0 = 16 → ¬ a0 = 17 → ¬ a0 = 18 → ¬ a0 = 19 → ∀ z11 : Int32, z11 = (a1 * a2) → ∀ z12 : Int32, z12 = (z11 &&& 7) → Post z12 I J B D))
set_option maxHeartbeats 8000000 in
set_option maxRecDepth 100000 in
theorem wJ_Terms_joined_42 {p : Program} {l : Launch} {e : Env} {s : State} {m : MethodId} {below : List Frame} {meth : Method} {c : Code} {A : Nat → Prop} (G : va_G) (K : Nat → ClassId) (ad : Nat → Nat) (sv : Value) (a0 : Int32) (a1 : Int32) (a2 : Int32) (Post : Int32 → (Nat → Int32) → (Nat → Int64) → (Nat → Nat → Int32) → (Nat → Nat → Int64) → Prop) (C : zCx p s m ([.int a0, .int a1, .int a2] : List Value).toArray meth c A G K prog_9_method_13_code (some .int) 3 "LassoFinder$Terms") : ∀ (y0 : Int32) (I : Nat → Int32) (J : Nat → Int64) (B : Nat → Nat → Int32) (D : Nat → Nat → Int64) (ls : Array Slot) (H : Heap) (locs : List Loc), wc_Terms_joined_42 a0 a1 a2 Post y0 I J B D → lv_has ls 3 [] → zW G A s.heap (wX ad K sv I J B D) H locs → W p l e { frames := 0, cells := 0, slots := 0, locals := 0 } s m ([.int a0, .int a1, .int a2] : List Value).toArray below meth c H locs 0 0 (MQ below (va_Qi (fun (r : Int32) (u : zS) => Post r u.1 u.2.1 u.2.2.1 u.2.2.2) (fun u t => zPost G K A (wX ad K sv u.1 u.2.1 u.2.2.1 u.2.2.2) t) A) ([.int a0, .int a1, .int a2] : List Value).toArray s 0 0 A) (F0 m 42 ls [.int y0]) := by
  obtain ⟨hx, hb, hr, hml, hts, hown, hlocks, hA, hK⟩ := id C
  intro y0 I J B D ls H locs hok hl hw
  unfold wc_Terms_joined_42 at hok
  exact (z_iret (u := (I, J, B, D)) hx hb hr hlocks rfl hw (List.range 65) wX_all wX_nd hok (Nat.le_of_ble_eq_true rfl) (Nat.le_of_ble_eq_true rfl) zd_Terms_joined_42)
set_option maxHeartbeats 8000000 in
set_option maxRecDepth 100000 in
theorem wJ_Terms_joined_53 {p : Program} {l : Launch} {e : Env} {s : State} {m : MethodId} {below : List Frame} {meth : Method} {c : Code} {A : Nat → Prop} (G : va_G) (K : Nat → ClassId) (ad : Nat → Nat) (sv : Value) (a0 : Int32) (a1 : Int32) (a2 : Int32) (Post : Int32 → (Nat → Int32) → (Nat → Int64) → (Nat → Nat → Int32) → (Nat → Nat → Int64) → Prop) (C : zCx p s m ([.int a0, .int a1, .int a2] : List Value).toArray meth c A G K prog_9_method_13_code (some .int) 3 "LassoFinder$Terms") : ∀ (y0 : Int32) (I : Nat → Int32) (J : Nat → Int64) (B : Nat → Nat → Int32) (D : Nat → Nat → Int64) (ls : Array Slot) (H : Heap) (locs : List Loc), wc_Terms_joined_53 a0 a1 a2 Post y0 I J B D → lv_has ls 3 [] → zW G A s.heap (wX ad K sv I J B D) H locs → W p l e { frames := 0, cells := 0, slots := 0, locals := 0 } s m ([.int a0, .int a1, .int a2] : List Value).toArray below meth c H locs 0 0 (MQ below (va_Qi (fun (r : Int32) (u : zS) => Post r u.1 u.2.1 u.2.2.1 u.2.2.2) (fun u t => zPost G K A (wX ad K sv u.1 u.2.1 u.2.2.1 u.2.2.2) t) A) ([.int a0, .int a1, .int a2] : List Value).toArray s 0 0 A) (F0 m 53 ls [.int y0]) := by
  obtain ⟨hx, hb, hr, hml, hts, hown, hlocks, hA, hK⟩ := id C
  intro y0 I J B D ls H locs hok hl hw
  unfold wc_Terms_joined_53 at hok
  exact (z_iret (u := (I, J, B, D)) hx hb hr hlocks rfl hw (List.range 65) wX_all wX_nd hok (Nat.le_of_ble_eq_true rfl) (Nat.le_of_ble_eq_true rfl) zd_Terms_joined_53)
set_option maxHeartbeats 8000000 in
set_option maxRecDepth 100000 in
theorem w_Terms_joined (l : Launch) (G : va_G) (K : Nat → ClassId) (ad : Nat → Nat) (sv : Value) (I : Nat → Int32) (J : Nat → Int64) (B : Nat → Nat → Int32) (D : Nat → Nat → Int64) (a0 : Int32) (a1 : Int32) (a2 : Int32) (Post : Int32 → (Nat → Int32) → (Nat → Int64) → (Nat → Nat → Int32) → (Nat → Nat → Int64) → Prop) (sz : Nat) (hok : wp_Terms_joined I J B D a0 a1 a2 Post) : Met l zy_Terms_joined (Cond.code zy_Terms_joined prog_9_method_13_code 3 (some .int) :: zTB) { frames := 0, cells := 0, slots := 0, locals := 0 } (va_Pc [.int a0, .int a1, .int a2] (zPre G K (wX ad K sv I J B D) sz)) (va_Qi (fun (r : Int32) (u : zS) => Post r u.1 u.2.1 u.2.2.1 u.2.2.2) (fun u t => zPost G K (va_A (wX ad K sv I J B D) sz) (wX ad K sv u.1 u.2.1 u.2.2.1 u.2.2.2) t) (va_A (wX ad K sv I J B D) sz)) 0 0 (va_A (wX ad K sv I J B D) sz) := by
  refine zMet (y := zy_Terms_joined) (av := [.int a0, .int a1, .int a2]) (maxL := 3) (cc := prog_9_method_13_code) (ret := (some .int)) (W0 := (wX ad K sv I J B D)) (sz := sz) (G := G) (K := K) (wt := zTB) (mc := 0) (ms := 0) (Qf := fun A => va_Qi (fun (r : Int32) (u : zS) => Post r u.1 u.2.1 u.2.2.1 u.2.2.2) (fun u t => zPost G K A (wX ad K sv u.1 u.2.1 u.2.2.1 u.2.2.2) t) A) (by decide) (Nat.le_of_ble_eq_true rfl) ?_
  intro p e s m below meth c ls A hx hb hr hml hts hown hlocks hin hA hK H locs hw hsz hl
  clear hsz
  have hown : s.vm.findClass "LassoFinder$Terms" = some m.cls := hown
  have C : zCx p s m ([.int a0, .int a1, .int a2] : List Value).toArray meth c A G K prog_9_method_13_code (some .int) 3 "LassoFinder$Terms" := ⟨hx, hb, hr, hml, hts, hown, hlocks, hA, hK⟩
  have hl : lv_has ls 3 [(0, .int a0), (1, .int a1), (2, .int a2)] := hl
  have hw : zW G A s.heap (wX ad K sv I J B D) H locs := hw
  unfold wp_Terms_joined at hok
  refine lv_iload_n hx hb zd_Terms_joined_0 rfl (lv_at hl 0 rfl) ?_
  by_cases hs1 : a0 = 16
  · have hok := hok.1 hs1
    refine lv_tableIn (off := 31) (tgt := 32) hx hb zd_Terms_joined_1 (by rw [hs1]; decide) (by rw [hs1]; decide) (by rw [hs1]; decide) (by decide) ?_
    refine lv_iload_n hx hb zd_Terms_joined_32 rfl (lv_at hl 1 rfl) ?_
    refine lv_iload_n hx hb zd_Terms_joined_33 rfl (lv_at hl 2 rfl) ?_
    refine lv_icmp_ne (tgt := 41) hx hb zd_Terms_joined_34 (by decide) (fun hc2 => ?_) (fun hc2 => ?_)
    · have hok := hok.1 hc2
      refine lv_iconst (v := 0) hx hb zd_Terms_joined_41 (by decide) ?_
      exact wJ_Terms_joined_42 G K ad sv a0 a1 a2 Post C 0 I J B D ls H locs hok (lv_sub hl [] rfl) hw
    · have hok := hok.2 hc2
      refine lv_iconst (v := 1) hx hb zd_Terms_joined_37 (by decide) ?_
      refine lv_goto (tgt := 42) hx hb zd_Terms_joined_38 (by decide) ?_
      exact wJ_Terms_joined_42 G K ad sv a0 a1 a2 Post C 1 I J B D ls H locs hok (lv_sub hl [] rfl) hw
  by_cases hs3 : a0 = 17
  · have hok := hok.2.1 hs3
    refine lv_tableIn (off := 42) (tgt := 43) hx hb zd_Terms_joined_1 (by rw [hs3]; decide) (by rw [hs3]; decide) (by rw [hs3]; decide) (by decide) ?_
    refine lv_iload_n hx hb zd_Terms_joined_43 rfl (lv_at hl 1 rfl) ?_
    refine lv_iload_n hx hb zd_Terms_joined_44 rfl (lv_at hl 2 rfl) ?_
    refine lv_icmp_ge (tgt := 52) hx hb zd_Terms_joined_45 (by decide) (fun hc4 => ?_) (fun hc4 => ?_)
    · have hok := hok.1 hc4
      refine lv_iconst (v := 0) hx hb zd_Terms_joined_52 (by decide) ?_
      exact wJ_Terms_joined_53 G K ad sv a0 a1 a2 Post C 0 I J B D ls H locs hok (lv_sub hl [] rfl) hw
    · have hok := hok.2 hc4
      refine lv_iconst (v := 1) hx hb zd_Terms_joined_48 (by decide) ?_
      refine lv_goto (tgt := 53) hx hb zd_Terms_joined_49 (by decide) ?_
      exact wJ_Terms_joined_53 G K ad sv a0 a1 a2 Post C 1 I J B D ls H locs hok (lv_sub hl [] rfl) hw
  by_cases hs5 : a0 = 18
  · have hok := hok.2.2.1 hs5
    refine lv_tableIn (off := 53) (tgt := 54) hx hb zd_Terms_joined_1 (by rw [hs5]; decide) (by rw [hs5]; decide) (by rw [hs5]; decide) (by decide) ?_
    refine lv_iload_n hx hb zd_Terms_joined_54 rfl (lv_at hl 1 rfl) ?_
    refine lv_iload_n hx hb zd_Terms_joined_55 rfl (lv_at hl 2 rfl) ?_
    refine lv_iadd hx hb zd_Terms_joined_56 ?_
    refine lv_topi (fun z6 ez6 => ?_)
    have hok := hok z6 ez6
    refine lv_bipush (v := 7) hx hb zd_Terms_joined_57 (by decide) ?_
    refine lv_iand hx hb zd_Terms_joined_59 ?_
    refine lv_topi (fun z7 ez7 => ?_)
    have hok := hok z7 ez7
    exact (z_iret (u := (I, J, B, D)) hx hb hr hlocks rfl hw (List.range 65) wX_all wX_nd hok (Nat.le_of_ble_eq_true rfl) (Nat.le_of_ble_eq_true rfl) zd_Terms_joined_60)
  by_cases hs8 : a0 = 19
  · have hok := hok.2.2.2.1 hs8
    refine lv_tableIn (off := 60) (tgt := 61) hx hb zd_Terms_joined_1 (by rw [hs8]; decide) (by rw [hs8]; decide) (by rw [hs8]; decide) (by decide) ?_
    refine lv_iload_n hx hb zd_Terms_joined_61 rfl (lv_at hl 1 rfl) ?_
    refine lv_iload_n hx hb zd_Terms_joined_62 rfl (lv_at hl 2 rfl) ?_
    refine lv_isub hx hb zd_Terms_joined_63 ?_
    refine lv_topi (fun z9 ez9 => ?_)
    have hok := hok z9 ez9
    refine lv_bipush (v := 7) hx hb zd_Terms_joined_64 (by decide) ?_
    refine lv_iand hx hb zd_Terms_joined_66 ?_
    refine lv_topi (fun z10 ez10 => ?_)
    have hok := hok z10 ez10
    exact (z_iret (u := (I, J, B, D)) hx hb hr hlocks rfl hw (List.range 65) wX_all wX_nd hok (Nat.le_of_ble_eq_true rfl) (Nat.le_of_ble_eq_true rfl) zd_Terms_joined_67)
  have hok := hok.2.2.2.2 hs1 hs3 hs5 hs8
  refine lv_tableOut (tgt := 68) hx hb zd_Terms_joined_1 (by have h0 := lv_neT hs1 (a := 16) (by decide); have h1 := lv_neT hs3 (a := 17) (by decide); have h2 := lv_neT hs5 (a := 18) (by decide); have h3 := lv_neT hs8 (a := 19) (by decide); omega) (by decide) ?_
  refine lv_iload_n hx hb zd_Terms_joined_68 rfl (lv_at hl 1 rfl) ?_
  refine lv_iload_n hx hb zd_Terms_joined_69 rfl (lv_at hl 2 rfl) ?_
  refine lv_imul hx hb zd_Terms_joined_70 ?_
  refine lv_topi (fun z11 ez11 => ?_)
  have hok := hok z11 ez11
  refine lv_bipush (v := 7) hx hb zd_Terms_joined_71 (by decide) ?_
  refine lv_iand hx hb zd_Terms_joined_73 ?_
  refine lv_topi (fun z12 ez12 => ?_)
  have hok := hok z12 ez12
  exact (z_iret (u := (I, J, B, D)) hx hb hr hlocks rfl hw (List.range 65) wX_all wX_nd hok (Nat.le_of_ble_eq_true rfl) (Nat.le_of_ble_eq_true rfl) zd_Terms_joined_74)
def wc_Terms_reckon_ad43_A_109 (a0 : Int32) (Post : Int32 → (Nat → Int32) → (Nat → Int64) → (Nat → Nat → Int32) → (Nat → Nat → Int64) → Prop)  (I : Nat → Int32) (J : Nat → Int64) (B : Nat → Nat → Int32) (D : Nat → Nat → Int64) : Prop :=
  vp_in 0 13 ∧ ∀ z1 : Int32, z1 = ((B 17) (0 : Int32).toNatClampNeg) → Post z1 I J B D
def wc_Terms_reckon_ad43_A_103 (a0 : Int32) (K5 : Int32 → Int32 → (Nat → Int32) → (Nat → Int64) → (Nat → Nat → Int32) → (Nat → Nat → Int64) → Prop) (Post : Int32 → (Nat → Int32) → (Nat → Int64) → (Nat → Nat → Int32) → (Nat → Nat → Int64) → Prop) (x3 : Int32) (x4 : Int32) (I : Nat → Int32) (J : Nat → Int64) (B : Nat → Nat → Int32) (D : Nat → Nat → Int64) : Prop :=
  ∀ z2 : Int32, z2 = (x4 + 1) → K5 x3 z2 I J B D
def wc_Terms_reckon_ad43_A_99 (a0 : Int32) (K5 : Int32 → Int32 → (Nat → Int32) → (Nat → Int64) → (Nat → Nat → Int32) → (Nat → Nat → Int64) → Prop) (Post : Int32 → (Nat → Int32) → (Nat → Int64) → (Nat → Nat → Int32) → (Nat → Nat → Int64) → Prop) (x3 : Int32) (x4 : Int32) (y0 : Int32) (y1 : Int32) (I : Nat → Int32) (J : Nat → Int64) (B : Nat → Nat → Int32) (D : Nat → Nat → Int64) : Prop :=
  vp_in y1 13 ∧ ∀ z3 : Int32, z3 = (x3 + 1) → wc_Terms_reckon_ad43_A_103 a0 K5 Post z3 x4 I J (va_up B 17 (upd (B 17) y1.toNatClampNeg y0)) D
def wb_Terms_reckon_ad43_A_5 (a0 : Int32) (K5 : Int32 → Int32 → (Nat → Int32) → (Nat → Int64) → (Nat → Nat → Int32) → (Nat → Nat → Int64) → Prop) (Post : Int32 → (Nat → Int32) → (Nat → Int64) → (Nat → Nat → Int32) → (Nat → Nat → Int64) → Prop) (x3 : Int32) (x4 : Int32) (I : Nat → Int32) (J : Nat → Int64) (B : Nat → Nat → Int32) (D : Nat → Nat → Int64) : Prop :=
  (((I 11) ≤ x4 → wc_Terms_reckon_ad43_A_109 a0 Post I J B D) ∧ (¬ (I 11) ≤ x4 → vp_in x4 480 ∧ ∀ z5 : Int32, z5 = ((B 15) x4.toNatClampNeg) → ((z5 = 22 → wc_Terms_reckon_ad43_A_109 a0 Post I J B D) ∧ (¬ z5 = 22 → vp_in x4 480 ∧ ∀ z7 : Int32, z7 = ((B 15) x4.toNatClampNeg) → ((z7 < 16 → ((z7 < 8 → wc_Terms_reckon_ad43_A_99 a0 K5 Post x3 x4 z7 x3 I J B D) ∧ (¬ z7 < 8 → ∀ z10 : Int32, z10 = (z7 - 8) → vp_in z10 8 ∧ ∀ z11 : Int32, z11 = ((B 29) z10.toNatClampNeg) → wc_Terms_reckon_ad43_A_99 a0 K5 Post x3 x4 z11 x3 I J B D))) ∧ (¬ z7 < 16 → ∀ z12 : Int32, z12 = (x3 + (-1)) → ∀ z13 : Int32, z13 = (z12 - 1) → ∀ z14 : Int32, z14 = (z12 - 1) → vp_in z14 13 ∧ ∀ z15 : Int32, z15 = ((B 17) z14.toNatClampNeg) → vp_in z12 13 ∧ ∀ z16 : Int32, z16 = ((B 17) z12.toNatClampNeg) → wp_Terms_joined I J B D z7 z15 z16 (fun r17 I17 J17 B17 D17 => vp_in z13 13 ∧ wc_Terms_reckon_ad43_A_103 a0 K5 Post z12 x4 I17 J17 (va_up B17 17 (upd (B17 17) z13.toNatClampNeg r17)) D17)))))))
def wl_Terms_reckon_ad43_A_5 (a0 : Int32) (Post : Int32 → (Nat → Int32) → (Nat → Int64) → (Nat → Nat → Int32) → (Nat → Nat → Int64) → Prop) (n : Nat) : Int32 → Int32 → (Nat → Int32) → (Nat → Int64) → (Nat → Nat → Int32) → (Nat → Nat → Int64) → Prop := Nat.rec (fun _ _ _ _ _ _ => False) (fun _ r => wb_Terms_reckon_ad43_A_5 a0 r Post) n
def wp_Terms_reckon_ad43_A (I : Nat → Int32) (J : Nat → Int64) (B : Nat → Nat → Int32) (D : Nat → Nat → Int64) (a0 : Int32) (Post : Int32 → (Nat → Int32) → (Nat → Int64) → (Nat → Nat → Int32) → (Nat → Nat → Int64) → Prop) : Prop :=
  ∃ n : Nat, wl_Terms_reckon_ad43_A_5 a0 Post n 0 a0 I J B D
set_option maxHeartbeats 8000000 in
set_option maxRecDepth 100000 in
theorem wJ_Terms_reckon_ad43_A_109 {p : Program} {l : Launch} {e : Env} {s : State} {m : MethodId} {below : List Frame} {meth : Method} {c : Code} {A : Nat → Prop} (G : va_G) (K : Nat → ClassId) (ad : Nat → Nat) (sv : Value) (a0 : Int32) (Post : Int32 → (Nat → Int32) → (Nat → Int64) → (Nat → Nat → Int32) → (Nat → Nat → Int64) → Prop) (C : zCx p s m ([.ref (ad 4), .int a0, .ref (ad 43)] : List Value).toArray meth c A G K prog_9_method_12_code (some .int) 6 "LassoFinder$Terms") : ∀  (I : Nat → Int32) (J : Nat → Int64) (B : Nat → Nat → Int32) (D : Nat → Nat → Int64) (ls : Array Slot) (H : Heap) (locs : List Loc), wc_Terms_reckon_ad43_A_109 a0 Post  I J B D → lv_has ls 6 [(0, .ref (ad 4))] → zW G A s.heap (wX ad K sv I J B D) H locs → W p l e { frames := 1, cells := 0, slots := 0, locals := 22 } s m ([.ref (ad 4), .int a0, .ref (ad 43)] : List Value).toArray below meth c H locs 0 0 (MQ below (va_Qi (fun (r : Int32) (u : zS) => Post r u.1 u.2.1 u.2.2.1 u.2.2.2) (fun u t => zPost G K A (wX ad K sv u.1 u.2.1 u.2.2.1 u.2.2.2) t) A) ([.ref (ad 4), .int a0, .ref (ad 43)] : List Value).toArray s 0 0 A) (F0 m 109 ls []) := by
  obtain ⟨hx, hb, hr, hml, hts, hown, hlocks, hA, hK⟩ := id C
  intro  I J B D ls H locs hok hl hw
  unfold wc_Terms_reckon_ad43_A_109 at hok
  refine lv_aload_n hx hb zd_Terms_reckon_109 rfl (lv_at hl 0 rfl) ?_
  refine z_get (v := .ref (ad 31)) hx hb hts hown hK hw zZ8 4 wX_g4 6 (by decide) zn_254 rfl zd_Terms_reckon_110 ?_
  refine lv_iconst (v := 0) hx hb zd_Terms_reckon_113 (by decide) ?_
  refine va_iald (f := (B 17)) hx hb hK hw.1 31 0 wX_a31 rfl hok.1 zd_Terms_reckon_114 ?_
  have hok := hok.2
  refine lv_topi (fun z1 ez1 => ?_)
  have hok := hok z1 ez1
  exact (z_iret (u := (I, J, B, D)) hx hb hr hlocks rfl hw (List.range 65) wX_all wX_nd hok (Nat.le_of_ble_eq_true rfl) (Nat.le_of_ble_eq_true rfl) zd_Terms_reckon_115)
set_option maxHeartbeats 8000000 in
set_option maxRecDepth 100000 in
theorem wJ_Terms_reckon_ad43_A_103 {p : Program} {l : Launch} {e : Env} {s : State} {m : MethodId} {below : List Frame} {meth : Method} {c : Code} {A : Nat → Prop} (G : va_G) (K : Nat → ClassId) (ad : Nat → Nat) (sv : Value) (a0 : Int32) (Post : Int32 → (Nat → Int32) → (Nat → Int64) → (Nat → Nat → Int32) → (Nat → Nat → Int64) → Prop) (C : zCx p s m ([.ref (ad 4), .int a0, .ref (ad 43)] : List Value).toArray meth c A G K prog_9_method_12_code (some .int) 6 "LassoFinder$Terms") (K5 : Int32 → Int32 → (Nat → Int32) → (Nat → Int64) → (Nat → Nat → Int32) → (Nat → Nat → Int64) → Prop) (kh5 : ∀ (x3 : Int32) (x4 : Int32) (I : Nat → Int32) (J : Nat → Int64) (B : Nat → Nat → Int32) (D : Nat → Nat → Int64) (ls : Array Slot) (H : Heap) (locs : List Loc), K5 x3 x4 I J B D → lv_has ls 6 [(0, .ref (ad 4)), (2, .ref (ad 43)), (3, .int x3), (4, .int x4)] → zW G A s.heap (wX ad K sv I J B D) H locs → W p l e { frames := 1, cells := 0, slots := 0, locals := 22 } s m ([.ref (ad 4), .int a0, .ref (ad 43)] : List Value).toArray below meth c H locs 0 0 (MQ below (va_Qi (fun (r : Int32) (u : zS) => Post r u.1 u.2.1 u.2.2.1 u.2.2.2) (fun u t => zPost G K A (wX ad K sv u.1 u.2.1 u.2.2.1 u.2.2.2) t) A) ([.ref (ad 4), .int a0, .ref (ad 43)] : List Value).toArray s 0 0 A) (F0 m 5 ls [])) : ∀ (x3 : Int32) (x4 : Int32) (I : Nat → Int32) (J : Nat → Int64) (B : Nat → Nat → Int32) (D : Nat → Nat → Int64) (ls : Array Slot) (H : Heap) (locs : List Loc), wc_Terms_reckon_ad43_A_103 a0 K5 Post x3 x4 I J B D → lv_has ls 6 [(0, .ref (ad 4)), (2, .ref (ad 43)), (3, .int x3), (4, .int x4)] → zW G A s.heap (wX ad K sv I J B D) H locs → W p l e { frames := 1, cells := 0, slots := 0, locals := 22 } s m ([.ref (ad 4), .int a0, .ref (ad 43)] : List Value).toArray below meth c H locs 0 0 (MQ below (va_Qi (fun (r : Int32) (u : zS) => Post r u.1 u.2.1 u.2.2.1 u.2.2.2) (fun u t => zPost G K A (wX ad K sv u.1 u.2.1 u.2.2.1 u.2.2.2) t) A) ([.ref (ad 4), .int a0, .ref (ad 43)] : List Value).toArray s 0 0 A) (F0 m 103 ls []) := by
  obtain ⟨hx, hb, hr, hml, hts, hown, hlocks, hA, hK⟩ := id C
  intro x3 x4 I J B D ls H locs hok hl hw
  unfold wc_Terms_reckon_ad43_A_103 at hok
  obtain ⟨z2, ez2⟩ : ∃ z : Int32, z = (x4 + 1) := ⟨_, rfl⟩
  have hok := hok z2 ez2
  refine lv_iinc (v := z2) hx hb zd_Terms_reckon_103 hl (k := 3) rfl ez2.symm (by decide) rfl (fun ls hl => ?_)
  have hl : lv_has ls 6 [(4, .int z2), (0, .ref (ad 4)), (2, .ref (ad 43)), (3, .int x3)] := hl
  refine lv_goto (tgt := 5) hx hb zd_Terms_reckon_106 (by decide) ?_
  exact kh5 x3 z2 I J B D ls H locs hok (lv_sub hl [1, 2, 3, 0] rfl) hw
set_option maxHeartbeats 8000000 in
set_option maxRecDepth 100000 in
theorem wJ_Terms_reckon_ad43_A_99 {p : Program} {l : Launch} {e : Env} {s : State} {m : MethodId} {below : List Frame} {meth : Method} {c : Code} {A : Nat → Prop} (G : va_G) (K : Nat → ClassId) (ad : Nat → Nat) (sv : Value) (a0 : Int32) (Post : Int32 → (Nat → Int32) → (Nat → Int64) → (Nat → Nat → Int32) → (Nat → Nat → Int64) → Prop) (C : zCx p s m ([.ref (ad 4), .int a0, .ref (ad 43)] : List Value).toArray meth c A G K prog_9_method_12_code (some .int) 6 "LassoFinder$Terms") (K5 : Int32 → Int32 → (Nat → Int32) → (Nat → Int64) → (Nat → Nat → Int32) → (Nat → Nat → Int64) → Prop) (kh5 : ∀ (x3 : Int32) (x4 : Int32) (I : Nat → Int32) (J : Nat → Int64) (B : Nat → Nat → Int32) (D : Nat → Nat → Int64) (ls : Array Slot) (H : Heap) (locs : List Loc), K5 x3 x4 I J B D → lv_has ls 6 [(0, .ref (ad 4)), (2, .ref (ad 43)), (3, .int x3), (4, .int x4)] → zW G A s.heap (wX ad K sv I J B D) H locs → W p l e { frames := 1, cells := 0, slots := 0, locals := 22 } s m ([.ref (ad 4), .int a0, .ref (ad 43)] : List Value).toArray below meth c H locs 0 0 (MQ below (va_Qi (fun (r : Int32) (u : zS) => Post r u.1 u.2.1 u.2.2.1 u.2.2.2) (fun u t => zPost G K A (wX ad K sv u.1 u.2.1 u.2.2.1 u.2.2.2) t) A) ([.ref (ad 4), .int a0, .ref (ad 43)] : List Value).toArray s 0 0 A) (F0 m 5 ls [])) : ∀ (x3 : Int32) (x4 : Int32) (y0 : Int32) (y1 : Int32) (I : Nat → Int32) (J : Nat → Int64) (B : Nat → Nat → Int32) (D : Nat → Nat → Int64) (ls : Array Slot) (H : Heap) (locs : List Loc), wc_Terms_reckon_ad43_A_99 a0 K5 Post x3 x4 y0 y1 I J B D → lv_has ls 6 [(0, .ref (ad 4)), (2, .ref (ad 43)), (3, .int x3), (4, .int x4)] → zW G A s.heap (wX ad K sv I J B D) H locs → W p l e { frames := 1, cells := 0, slots := 0, locals := 22 } s m ([.ref (ad 4), .int a0, .ref (ad 43)] : List Value).toArray below meth c H locs 0 0 (MQ below (va_Qi (fun (r : Int32) (u : zS) => Post r u.1 u.2.1 u.2.2.1 u.2.2.2) (fun u t => zPost G K A (wX ad K sv u.1 u.2.1 u.2.2.1 u.2.2.2) t) A) ([.ref (ad 4), .int a0, .ref (ad 43)] : List Value).toArray s 0 0 A) (F0 m 99 ls [.int y0, .int y1, .ref (ad 31)]) := by
  obtain ⟨hx, hb, hr, hml, hts, hown, hlocks, hA, hK⟩ := id C
  intro x3 x4 y0 y1 I J B D ls H locs hok hl hw
  unfold wc_Terms_reckon_ad43_A_99 at hok
  refine va_iast (f := (B 17)) hx hb hK hw.1 hw.2.1 hw.2.2 31 0 wX_a31 rfl hok.1 zd_Terms_reckon_99 (fun H locs w91 w92 w93 => ?_)
  have hok := hok.2
  have hw := wX_t31 ⟨w91, w92, w93⟩
  obtain ⟨z3, ez3⟩ : ∃ z : Int32, z = (x3 + 1) := ⟨_, rfl⟩
  have hok := hok z3 ez3
  refine lv_iinc (v := z3) hx hb zd_Terms_reckon_100 hl (k := 2) rfl ez3.symm (by decide) rfl (fun ls hl => ?_)
  have hl : lv_has ls 6 [(3, .int z3), (0, .ref (ad 4)), (2, .ref (ad 43)), (4, .int x4)] := hl
  exact wJ_Terms_reckon_ad43_A_103 G K ad sv a0 Post C K5 kh5 z3 x4 I J (va_up B 17 (upd (B 17) y1.toNatClampNeg y0)) D ls H locs hok (lv_sub hl [1, 2, 0, 3] rfl) hw
set_option maxHeartbeats 8000000 in
set_option maxRecDepth 100000 in
theorem wB_Terms_reckon_ad43_A_5 {p : Program} {l : Launch} {e : Env} {s : State} {m : MethodId} {below : List Frame} {meth : Method} {c : Code} {A : Nat → Prop} (G : va_G) (K : Nat → ClassId) (ad : Nat → Nat) (sv : Value) (a0 : Int32) (Post : Int32 → (Nat → Int32) → (Nat → Int64) → (Nat → Nat → Int32) → (Nat → Nat → Int64) → Prop) (C : zCx p s m ([.ref (ad 4), .int a0, .ref (ad 43)] : List Value).toArray meth c A G K prog_9_method_12_code (some .int) 6 "LassoFinder$Terms") (K5 : Int32 → Int32 → (Nat → Int32) → (Nat → Int64) → (Nat → Nat → Int32) → (Nat → Nat → Int64) → Prop) (kh5 : ∀ (x3 : Int32) (x4 : Int32) (I : Nat → Int32) (J : Nat → Int64) (B : Nat → Nat → Int32) (D : Nat → Nat → Int64) (ls : Array Slot) (H : Heap) (locs : List Loc), K5 x3 x4 I J B D → lv_has ls 6 [(0, .ref (ad 4)), (2, .ref (ad 43)), (3, .int x3), (4, .int x4)] → zW G A s.heap (wX ad K sv I J B D) H locs → W p l e { frames := 1, cells := 0, slots := 0, locals := 22 } s m ([.ref (ad 4), .int a0, .ref (ad 43)] : List Value).toArray below meth c H locs 0 0 (MQ below (va_Qi (fun (r : Int32) (u : zS) => Post r u.1 u.2.1 u.2.2.1 u.2.2.2) (fun u t => zPost G K A (wX ad K sv u.1 u.2.1 u.2.2.1 u.2.2.2) t) A) ([.ref (ad 4), .int a0, .ref (ad 43)] : List Value).toArray s 0 0 A) (F0 m 5 ls [])) : ∀ (x3 : Int32) (x4 : Int32) (I : Nat → Int32) (J : Nat → Int64) (B : Nat → Nat → Int32) (D : Nat → Nat → Int64) (ls : Array Slot) (H : Heap) (locs : List Loc), wb_Terms_reckon_ad43_A_5 a0 K5 Post x3 x4 I J B D → lv_has ls 6 [(0, .ref (ad 4)), (2, .ref (ad 43)), (3, .int x3), (4, .int x4)] → zW G A s.heap (wX ad K sv I J B D) H locs → W p l e { frames := 1, cells := 0, slots := 0, locals := 22 } s m ([.ref (ad 4), .int a0, .ref (ad 43)] : List Value).toArray below meth c H locs 0 0 (MQ below (va_Qi (fun (r : Int32) (u : zS) => Post r u.1 u.2.1 u.2.2.1 u.2.2.2) (fun u t => zPost G K A (wX ad K sv u.1 u.2.1 u.2.2.1 u.2.2.2) t) A) ([.ref (ad 4), .int a0, .ref (ad 43)] : List Value).toArray s 0 0 A) (F0 m 5 ls []) := by
  obtain ⟨hx, hb, hr, hml, hts, hown, hlocks, hA, hK⟩ := id C
  intro x3 x4 I J B D ls H locs hok hl hw
  unfold wb_Terms_reckon_ad43_A_5 at hok
  refine lv_iload hx hb zd_Terms_reckon_5 (lv_at hl 3 rfl) ?_
  refine lv_aload_n hx hb zd_Terms_reckon_7 rfl (lv_at hl 0 rfl) ?_
  refine z_get (v := .int (I 11)) hx hb hts hown hK hw zZ8 4 wX_g4 3 (by decide) zn_435 rfl zd_Terms_reckon_8 ?_
  refine lv_icmp_ge (tgt := 109) hx hb zd_Terms_reckon_11 (by decide) (fun hc4 => ?_) (fun hc4 => ?_)
  · have hok := hok.1 hc4
    exact wJ_Terms_reckon_ad43_A_109 G K ad sv a0 Post C I J B D ls H locs hok (lv_sub hl [0] rfl) hw
  · have hok := hok.2 hc4
    refine lv_aload_n hx hb zd_Terms_reckon_14 rfl (lv_at hl 0 rfl) ?_
    refine z_get (v := .ref (ad 29)) hx hb hts hown hK hw zZ8 4 wX_g4 2 (by decide) zn_252 rfl zd_Terms_reckon_15 ?_
    refine lv_iload hx hb zd_Terms_reckon_18 (lv_at hl 3 rfl) ?_
    refine va_iald (f := (B 15)) hx hb hK hw.1 29 0 wX_a29 rfl hok.1 zd_Terms_reckon_20 ?_
    have hok := hok.2
    refine lv_topi (fun z5 ez5 => ?_)
    have hok := hok z5 ez5
    refine lv_bipush (v := 22) hx hb zd_Terms_reckon_21 (by decide) ?_
    refine lv_icmp_eq (tgt := 109) hx hb zd_Terms_reckon_23 (by decide) (fun hc6 => ?_) (fun hc6 => ?_)
    · have hok := hok.1 hc6
      exact wJ_Terms_reckon_ad43_A_109 G K ad sv a0 Post C I J B D ls H locs hok (lv_sub hl [0] rfl) hw
    · have hok := hok.2 hc6
      refine lv_aload_n hx hb zd_Terms_reckon_26 rfl (lv_at hl 0 rfl) ?_
      refine z_get (v := .ref (ad 29)) hx hb hts hown hK hw zZ8 4 wX_g4 2 (by decide) zn_252 rfl zd_Terms_reckon_27 ?_
      refine lv_iload hx hb zd_Terms_reckon_30 (lv_at hl 3 rfl) ?_
      refine va_iald (f := (B 15)) hx hb hK hw.1 29 0 wX_a29 rfl hok.1 zd_Terms_reckon_32 ?_
      have hok := hok.2
      refine lv_topi (fun z7 ez7 => ?_)
      have hok := hok z7 ez7
      refine lv_istore hx hb zd_Terms_reckon_33 hl (by decide) rfl (fun ls hl => ?_)
      have hl : lv_has ls 6 [(5, .int z7), (0, .ref (ad 4)), (2, .ref (ad 43)), (3, .int x3), (4, .int x4)] := hl
      refine lv_iload hx hb zd_Terms_reckon_35 (lv_at hl 0 rfl) ?_
      refine lv_bipush (v := 16) hx hb zd_Terms_reckon_37 (by decide) ?_
      refine lv_icmp_lt (tgt := 75) hx hb zd_Terms_reckon_39 (by decide) (fun hc8 => ?_) (fun hc8 => ?_)
      · have hok := hok.1 hc8
        refine lv_aload_n hx hb zd_Terms_reckon_75 rfl (lv_at hl 1 rfl) ?_
        refine z_get (v := .ref (ad 31)) hx hb hts hown hK hw zZ8 4 wX_g4 6 (by decide) zn_254 rfl zd_Terms_reckon_76 ?_
        refine lv_iload_n hx hb zd_Terms_reckon_79 rfl (lv_at hl 3 rfl) ?_
        refine lv_iload hx hb zd_Terms_reckon_80 (lv_at hl 0 rfl) ?_
        refine lv_bipush (v := 8) hx hb zd_Terms_reckon_82 (by decide) ?_
        refine lv_icmp_lt (tgt := 97) hx hb zd_Terms_reckon_84 (by decide) (fun hc9 => ?_) (fun hc9 => ?_)
        · have hok := hok.1 hc9
          refine lv_iload hx hb zd_Terms_reckon_97 (lv_at hl 0 rfl) ?_
          exact wJ_Terms_reckon_ad43_A_99 G K ad sv a0 Post C K5 kh5 x3 x4 z7 x3 I J B D ls H locs hok (lv_sub hl [1, 2, 3, 4] rfl) hw
        · have hok := hok.2 hc9
          refine lv_aload_n hx hb zd_Terms_reckon_87 rfl (lv_at hl 2 rfl) ?_
          refine lv_iload hx hb zd_Terms_reckon_88 (lv_at hl 0 rfl) ?_
          refine lv_bipush (v := 8) hx hb zd_Terms_reckon_90 (by decide) ?_
          refine lv_isub hx hb zd_Terms_reckon_92 ?_
          refine lv_topi (fun z10 ez10 => ?_)
          have hok := hok z10 ez10
          refine va_iald (f := (B 29)) hx hb hK hw.1 43 0 wX_a43 rfl hok.1 zd_Terms_reckon_93 ?_
          have hok := hok.2
          refine lv_topi (fun z11 ez11 => ?_)
          have hok := hok z11 ez11
          refine lv_goto (tgt := 99) hx hb zd_Terms_reckon_94 (by decide) ?_
          exact wJ_Terms_reckon_ad43_A_99 G K ad sv a0 Post C K5 kh5 x3 x4 z11 x3 I J B D ls H locs hok (lv_sub hl [1, 2, 3, 4] rfl) hw
      · have hok := hok.2 hc8
        obtain ⟨z12, ez12⟩ : ∃ z : Int32, z = (x3 + (-1)) := ⟨_, rfl⟩
        have hok := hok z12 ez12
        refine lv_iinc (v := z12) hx hb zd_Terms_reckon_42 hl (k := 3) rfl ez12.symm (by decide) rfl (fun ls hl => ?_)
        have hl : lv_has ls 6 [(3, .int z12), (5, .int z7), (0, .ref (ad 4)), (2, .ref (ad 43)), (4, .int x4)] := hl
        refine lv_aload_n hx hb zd_Terms_reckon_45 rfl (lv_at hl 2 rfl) ?_
        refine z_get (v := .ref (ad 31)) hx hb hts hown hK hw zZ8 4 wX_g4 6 (by decide) zn_254 rfl zd_Terms_reckon_46 ?_
        refine lv_iload_n hx hb zd_Terms_reckon_49 rfl (lv_at hl 0 rfl) ?_
        refine lv_iconst (v := 1) hx hb zd_Terms_reckon_50 (by decide) ?_
        refine lv_isub hx hb zd_Terms_reckon_51 ?_
        refine lv_topi (fun z13 ez13 => ?_)
        have hok := hok z13 ez13
        refine lv_iload hx hb zd_Terms_reckon_52 (lv_at hl 1 rfl) ?_
        refine lv_aload_n hx hb zd_Terms_reckon_54 rfl (lv_at hl 2 rfl) ?_
        refine z_get (v := .ref (ad 31)) hx hb hts hown hK hw zZ8 4 wX_g4 6 (by decide) zn_254 rfl zd_Terms_reckon_55 ?_
        refine lv_iload_n hx hb zd_Terms_reckon_58 rfl (lv_at hl 0 rfl) ?_
        refine lv_iconst (v := 1) hx hb zd_Terms_reckon_59 (by decide) ?_
        refine lv_isub hx hb zd_Terms_reckon_60 ?_
        refine lv_topi (fun z14 ez14 => ?_)
        have hok := hok z14 ez14
        refine va_iald (f := (B 17)) hx hb hK hw.1 31 0 wX_a31 rfl hok.1 zd_Terms_reckon_61 ?_
        have hok := hok.2
        refine lv_topi (fun z15 ez15 => ?_)
        have hok := hok z15 ez15
        refine lv_aload_n hx hb zd_Terms_reckon_62 rfl (lv_at hl 2 rfl) ?_
        refine z_get (v := .ref (ad 31)) hx hb hts hown hK hw zZ8 4 wX_g4 6 (by decide) zn_254 rfl zd_Terms_reckon_63 ?_
        refine lv_iload_n hx hb zd_Terms_reckon_66 rfl (lv_at hl 0 rfl) ?_
        refine va_iald (f := (B 17)) hx hb hK hw.1 31 0 wX_a31 rfl hok.1 zd_Terms_reckon_67 ?_
        have hok := hok.2
        refine lv_topi (fun z16 ez16 => ?_)
        have hok := hok z16 ez16
        refine z_calli (w1 := fun (u : zS) => wX ad K sv u.1 u.2.1 u.2.2.1 u.2.2.2) (wr := []) (z_runS (wc := (wX ad K sv I J B D)) (As := [.int z7, .int z15, .int z16]) (rest := [.int z13, .ref (ad 31)]) ⟨hx, hb, hml, hown, hts⟩ (w_Terms_joined l G K ad sv I J B D z7 z15 z16 _ H.size hok) zf_Terms_joined zn_400 ⟨Nat.le_of_ble_eq_true rfl, Nat.le_of_ble_eq_true rfl⟩ hK hw (List.range 65) wX_all wX_nd rfl hl.1 rfl (Nat.le_of_ble_eq_true rfl) zd_Terms_reckon_68 ⟨Nat.le_of_ble_eq_true rfl, Nat.le_of_ble_eq_true rfl⟩) hw hA (List.range 65) [] wX_all rfl (by decide) (fun i hi => by cases hi) (fun r17 u H locs hok hw => ?_)
        obtain ⟨I17, J17, B17, D17⟩ := u
        dsimp only at hok
        have hw : zW G A s.heap (wX ad K sv I17 J17 B17 D17) H locs := hw
        refine va_iast (f := (B17 17)) hx hb hK hw.1 hw.2.1 hw.2.2 31 0 wX_a31 rfl hok.1 zd_Terms_reckon_71 (fun H locs w91 w92 w93 => ?_)
        have hok := hok.2
        have hw := wX_t31 ⟨w91, w92, w93⟩
        refine lv_goto (tgt := 103) hx hb zd_Terms_reckon_72 (by decide) ?_
        exact wJ_Terms_reckon_ad43_A_103 G K ad sv a0 Post C K5 kh5 z12 x4 I17 J17 (va_up B17 17 (upd (B17 17) z13.toNatClampNeg r17)) D17 ls H locs hok (lv_sub hl [2, 3, 0, 4] rfl) hw
theorem wL_Terms_reckon_ad43_A_5 {p : Program} {l : Launch} {e : Env} {s : State} {m : MethodId} {below : List Frame} {meth : Method} {c : Code} {A : Nat → Prop} (G : va_G) (K : Nat → ClassId) (ad : Nat → Nat) (sv : Value) (a0 : Int32) (Post : Int32 → (Nat → Int32) → (Nat → Int64) → (Nat → Nat → Int32) → (Nat → Nat → Int64) → Prop) (C : zCx p s m ([.ref (ad 4), .int a0, .ref (ad 43)] : List Value).toArray meth c A G K prog_9_method_12_code (some .int) 6 "LassoFinder$Terms") : ∀ (n : Nat) (x3 : Int32) (x4 : Int32) (I : Nat → Int32) (J : Nat → Int64) (B : Nat → Nat → Int32) (D : Nat → Nat → Int64) (ls : Array Slot) (H : Heap) (locs : List Loc), wl_Terms_reckon_ad43_A_5 a0 Post n x3 x4 I J B D → lv_has ls 6 [(0, .ref (ad 4)), (2, .ref (ad 43)), (3, .int x3), (4, .int x4)] → zW G A s.heap (wX ad K sv I J B D) H locs → W p l e { frames := 1, cells := 0, slots := 0, locals := 22 } s m ([.ref (ad 4), .int a0, .ref (ad 43)] : List Value).toArray below meth c H locs 0 0 (MQ below (va_Qi (fun (r : Int32) (u : zS) => Post r u.1 u.2.1 u.2.2.1 u.2.2.2) (fun u t => zPost G K A (wX ad K sv u.1 u.2.1 u.2.2.1 u.2.2.2) t) A) ([.ref (ad 4), .int a0, .ref (ad 43)] : List Value).toArray s 0 0 A) (F0 m 5 ls []) := by
  intro n
  induction n with
  | zero => intro x3 x4 I J B D ls H locs hok; exact hok.elim
  | succ n ih => exact wB_Terms_reckon_ad43_A_5 G K ad sv a0 Post C (wl_Terms_reckon_ad43_A_5 a0 Post n) ih
set_option maxHeartbeats 8000000 in
set_option maxRecDepth 100000 in
theorem w_Terms_reckon_ad43_A (l : Launch) (G : va_G) (K : Nat → ClassId) (ad : Nat → Nat) (sv : Value) (I : Nat → Int32) (J : Nat → Int64) (B : Nat → Nat → Int32) (D : Nat → Nat → Int64) (a0 : Int32) (Post : Int32 → (Nat → Int32) → (Nat → Int64) → (Nat → Nat → Int32) → (Nat → Nat → Int64) → Prop) (sz : Nat) (hok : wp_Terms_reckon_ad43_A I J B D a0 Post) : Met l zy_Terms_reckon (Cond.code zy_Terms_reckon prog_9_method_12_code 6 (some .int) :: zTB) { frames := 1, cells := 0, slots := 0, locals := 22 } (va_Pc [.ref (ad 4), .int a0, .ref (ad 43)] (zPre G K (wX ad K sv I J B D) sz)) (va_Qi (fun (r : Int32) (u : zS) => Post r u.1 u.2.1 u.2.2.1 u.2.2.2) (fun u t => zPost G K (va_A (wX ad K sv I J B D) sz) (wX ad K sv u.1 u.2.1 u.2.2.1 u.2.2.2) t) (va_A (wX ad K sv I J B D) sz)) 0 0 (va_A (wX ad K sv I J B D) sz) := by
  refine zMet (y := zy_Terms_reckon) (av := [.ref (ad 4), .int a0, .ref (ad 43)]) (maxL := 6) (cc := prog_9_method_12_code) (ret := (some .int)) (W0 := (wX ad K sv I J B D)) (sz := sz) (G := G) (K := K) (wt := zTB) (mc := 0) (ms := 0) (Qf := fun A => va_Qi (fun (r : Int32) (u : zS) => Post r u.1 u.2.1 u.2.2.1 u.2.2.2) (fun u t => zPost G K A (wX ad K sv u.1 u.2.1 u.2.2.1 u.2.2.2) t) A) (by decide) (Nat.le_of_ble_eq_true rfl) ?_
  intro p e s m below meth c ls A hx hb hr hml hts hown hlocks hin hA hK H locs hw hsz hl
  clear hsz
  have hown : s.vm.findClass "LassoFinder$Terms" = some m.cls := hown
  have C : zCx p s m ([.ref (ad 4), .int a0, .ref (ad 43)] : List Value).toArray meth c A G K prog_9_method_12_code (some .int) 6 "LassoFinder$Terms" := ⟨hx, hb, hr, hml, hts, hown, hlocks, hA, hK⟩
  have hl : lv_has ls 6 [(0, .ref (ad 4)), (1, .int a0), (2, .ref (ad 43))] := hl
  have hw : zW G A s.heap (wX ad K sv I J B D) H locs := hw
  unfold wp_Terms_reckon_ad43_A at hok
  refine lv_iconst (v := 0) hx hb zd_Terms_reckon_0 (by decide) ?_
  refine lv_istore_n hx hb zd_Terms_reckon_1 rfl hl (by decide) rfl (fun ls hl => ?_)
  have hl : lv_has ls 6 [(3, .int 0), (0, .ref (ad 4)), (1, .int a0), (2, .ref (ad 43))] := hl
  refine lv_iload_n hx hb zd_Terms_reckon_2 rfl (lv_at hl 2 rfl) ?_
  refine lv_istore hx hb zd_Terms_reckon_3 hl (by decide) rfl (fun ls hl => ?_)
  have hl : lv_has ls 6 [(4, .int a0), (3, .int 0), (0, .ref (ad 4)), (1, .int a0), (2, .ref (ad 43))] := hl
  obtain ⟨n9, hok⟩ := hok
  exact wL_Terms_reckon_ad43_A_5 G K ad sv a0 Post C n9 0 a0 I J B D ls H locs hok (lv_sub hl [2, 4, 1, 0] rfl) hw
