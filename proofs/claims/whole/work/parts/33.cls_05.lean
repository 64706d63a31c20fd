abbrev zy_ModelReader_endProcess : MethodName := ⟨"LassoFinder$ModelReader", "endProcess", "()V"⟩
abbrev zy_Program_takeProcess : MethodName := ⟨"LassoFinder$Program", "takeProcess", "(LLassoFinder$Tree;)V"⟩
abbrev zy_Program_takeWay : MethodName := ⟨"LassoFinder$Program", "takeWay", "(LLassoFinder$Tree;I)V"⟩
abbrev zy_Program_takePlaces : MethodName := ⟨"LassoFinder$Program", "takePlaces", "(LLassoFinder$Tree;I)V"⟩
abbrev zy_Graph_turnRound : MethodName := ⟨"LassoFinder$Graph", "turnRound", "()V"⟩
theorem zn_306 : Cond.methodLink "LassoFinder$ModelReader" 47 ⟨"LassoFinder$Text", "ahead", "()C"⟩ ∈ zTB := z_in (zt_3 _ (List.mem_of_getElem? (i := 122) rfl)) rfl
theorem zn_353 : Cond.methodLink "LassoFinder$ModelReader" 100 ⟨"LassoFinder$ModelReader", "checkJumps", "()V"⟩ ∈ zTB := z_in (zt_4 _ (List.mem_of_getElem? (i := 100) rfl)) rfl
theorem zn_357 : Cond.methodLink "LassoFinder$ModelReader" 103 ⟨"LassoFinder$Program", "takeProcess", "(LLassoFinder$Tree;)V"⟩ ∈ zTB := z_in (zt_4 _ (List.mem_of_getElem? (i := 116) rfl)) rfl
theorem zn_358 : Cond.methodLink "LassoFinder$Program" 75 ⟨"LassoFinder$Program", "takeWay", "(LLassoFinder$Tree;I)V"⟩ ∈ zTB := z_in (zt_4 _ (List.mem_of_getElem? (i := 120) rfl)) rfl
theorem zn_359 : Cond.methodLink "LassoFinder$Program" 95 ⟨"LassoFinder$Tree", "behind", "(I)I"⟩ ∈ zTB := z_in (zt_4 _ (List.mem_of_getElem? (i := 124) rfl)) rfl
theorem zn_360 : Cond.methodLink "LassoFinder$Program" 85 ⟨"LassoFinder$Tree", "settled", "(I)I"⟩ ∈ zTB := z_in (zt_4 _ (List.mem_of_getElem? (i := 125) rfl)) rfl
theorem zn_361 : Cond.methodLink "LassoFinder$Program" 89 ⟨"LassoFinder$Tree", "pointAt", "(I)I"⟩ ∈ zTB := z_in (zt_4 _ (List.mem_of_getElem? (i := 126) rfl)) rfl
theorem zn_362 : Cond.methodLink "LassoFinder$Program" 79 ⟨"LassoFinder$Program", "takePlaces", "(LLassoFinder$Tree;I)V"⟩ ∈ zTB := z_in (zt_4 _ (List.mem_of_getElem? (i := 130) rfl)) rfl
theorem zn_395 : Cond.fieldLink "LassoFinder$Program" 69 "LassoFinder$Tree" "size" "I" ∈ zTB := z_in (zt_1 _ (List.mem_of_getElem? (i := 231) rfl)) rfl
theorem zn_396 : Cond.fieldLink "LassoFinder$Program" 74 "LassoFinder$Tree" "kinds" "[I" ∈ zTB := z_in (zt_1 _ (List.mem_of_getElem? (i := 209) rfl)) rfl
theorem zn_397 : Cond.fieldLink "LassoFinder$Program" 82 "LassoFinder$Tree" "labelled" "[I" ∈ zTB := z_in (zt_1 _ (List.mem_of_getElem? (i := 229) rfl)) rfl
theorem zn_398 : Cond.fieldLink "LassoFinder$Program" 92 "LassoFinder$Tree" "number" "[I" ∈ zTB := z_in (zt_1 _ (List.mem_of_getElem? (i := 224) rfl)) rfl
theorem zn_399 : Cond.fieldLink "LassoFinder$Program" 98 "LassoFinder$Tree" "atomics" "[I" ∈ zTB := z_in (zt_1 _ (List.mem_of_getElem? (i := 215) rfl)) rfl
theorem zn_400 : Cond.fieldLink "LassoFinder$Program" 103 "LassoFinder$Tree" "pointOf" "[I" ∈ zTB := z_in (zt_1 _ (List.mem_of_getElem? (i := 221) rfl)) rfl
theorem zn_401 : Cond.fieldLink "LassoFinder$Program" 106 "LassoFinder$Tree" "leads" "[Z" ∈ zTB := z_in (zt_1 _ (List.mem_of_getElem? (i := 217) rfl)) rfl
theorem zn_402 : Cond.fieldLink "LassoFinder$Program" 109 "LassoFinder$Tree" "around" "[I" ∈ zTB := z_in (zt_1 _ (List.mem_of_getElem? (i := 212) rfl)) rfl
theorem zn_427 : Cond.methodLink "LassoFinder$Graph" 97 ⟨"java/util/Arrays", "fill", "([II)V"⟩ ∈ zTB := z_in (zt_4 _ (List.mem_of_getElem? (i := 224) rfl)) rfl
theorem zn_429 : Cond.fieldLink "LassoFinder$Graph" 41 "LassoFinder$Graph" "states" "I" ∈ zTB := z_in (zt_2 _ (List.mem_of_getElem? (i := 102) rfl)) rfl
theorem zn_430 : Cond.fieldLink "LassoFinder$Graph" 45 "LassoFinder$Graph" "steps" "I" ∈ zTB := z_in (zt_2 _ (List.mem_of_getElem? (i := 105) rfl)) rfl
theorem zn_554 : Cond.code ⟨"LassoFinder$ModelReader", "checkJumps", "()V"⟩ prog_5_method_5_code 3 none ∈ zTB := z_in (zt_4 _ (List.mem_of_getElem? (i := 103) rfl)) rfl
theorem zn_555 : Cond.instanceMethod ⟨"LassoFinder$ModelReader", "checkJumps", "()V"⟩ ∈ zTB := z_in (zt_4 _ (List.mem_of_getElem? (i := 102) rfl)) rfl
theorem zn_556 : Cond.code ⟨"LassoFinder$Tree", "pointAt", "(I)I"⟩ prog_11_method_8_code 2 (some .int) ∈ zTB := z_in (zt_4 _ (List.mem_of_getElem? (i := 129) rfl)) rfl
theorem zn_557 : Cond.selects "LassoFinder$Tree" ⟨"LassoFinder$Tree", "pointAt", "(I)I"⟩ ⟨"LassoFinder$Tree", "pointAt", "(I)I"⟩ ∈ zTB := z_in (zt_4 _ (List.mem_of_getElem? (i := 128) rfl)) rfl
theorem zn_558 : Cond.instanceMethod ⟨"LassoFinder$Tree", "pointAt", "(I)I"⟩ ∈ zTB := z_in (zt_4 _ (List.mem_of_getElem? (i := 127) rfl)) rfl
theorem zn_559 : Cond.code ⟨"LassoFinder$Program", "takeWay", "(LLassoFinder$Tree;I)V"⟩ prog_7_method_6_code 6 none ∈ zTB := z_in (zt_4 _ (List.mem_of_getElem? (i := 123) rfl)) rfl
theorem zn_560 : Cond.instanceMethod ⟨"LassoFinder$Program", "takeWay", "(LLassoFinder$Tree;I)V"⟩ ∈ zTB := z_in (zt_4 _ (List.mem_of_getElem? (i := 122) rfl)) rfl
theorem zn_561 : Cond.code ⟨"LassoFinder$Program", "takePlaces", "(LLassoFinder$Tree;I)V"⟩ prog_7_method_7_code 7 none ∈ zTB := z_in (zt_4 _ (List.mem_of_getElem? (i := 133) rfl)) rfl
theorem zn_562 : Cond.instanceMethod ⟨"LassoFinder$Program", "takePlaces", "(LLassoFinder$Tree;I)V"⟩ ∈ zTB := z_in (zt_4 _ (List.mem_of_getElem? (i := 132) rfl)) rfl
theorem zn_563 : Cond.code ⟨"LassoFinder$Program", "takeProcess", "(LLassoFinder$Tree;)V"⟩ prog_7_method_5_code 4 none ∈ zTB := z_in (zt_4 _ (List.mem_of_getElem? (i := 119) rfl)) rfl
theorem zn_564 : Cond.selects "LassoFinder$Program" ⟨"LassoFinder$Program", "takeProcess", "(LLassoFinder$Tree;)V"⟩ ⟨"LassoFinder$Program", "takeProcess", "(LLassoFinder$Tree;)V"⟩ ∈ zTB := z_in (zt_4 _ (List.mem_of_getElem? (i := 118) rfl)) rfl
theorem zn_565 : Cond.instanceMethod ⟨"LassoFinder$Program", "takeProcess", "(LLassoFinder$Tree;)V"⟩ ∈ zTB := z_in (zt_4 _ (List.mem_of_getElem? (i := 117) rfl)) rfl
theorem zf_ModelReader_checkJumps : zFaceV zy_ModelReader_checkJumps prog_5_method_5_code 3 none 0 := ⟨zn_555, (z_in (zp_2 _ (List.mem_of_getElem? (i := 6) rfl)) rfl), zm_9, zn_554, by decide +kernel, by decide +kernel, by decide +kernel⟩
theorem zf_Tree_pointAt : zFaceV zy_Tree_pointAt prog_11_method_8_code 2 (some .int) 1 := ⟨zn_558, zn_557, zm_21, zn_556, by decide +kernel, by decide +kernel, by decide +kernel⟩
theorem zf_Program_takeWay : zFaceV zy_Program_takeWay prog_7_method_6_code 6 none 2 := ⟨zn_560, (z_in (zp_2 _ (List.mem_of_getElem? (i := 7) rfl)) rfl), zm_13, zn_559, by decide +kernel, by decide +kernel, by decide +kernel⟩
theorem zf_Program_takePlaces : zFaceV zy_Program_takePlaces prog_7_method_7_code 7 none 2 := ⟨zn_562, (z_in (zp_2 _ (List.mem_of_getElem? (i := 8) rfl)) rfl), zm_13, zn_561, by decide +kernel, by decide +kernel, by decide +kernel⟩
theorem zf_Program_takeProcess : zFaceV zy_Program_takeProcess prog_7_method_5_code 4 none 1 := ⟨zn_565, zn_564, zm_13, zn_563, by decide +kernel, by decide +kernel, by decide +kernel⟩
theorem zd_Graph_turnRound_0 : decode prog_3_method_9_code 0 = .ok (.aload_n 0, 1) := by decide +kernel
theorem zd_Graph_turnRound_1 : decode prog_3_method_9_code 1 = .ok (.getfield 35, 3) := by decide +kernel
theorem zd_Graph_turnRound_4 : decode prog_3_method_9_code 4 = .ok (.iconst 0, 1) := by decide +kernel
theorem zd_Graph_turnRound_5 : decode prog_3_method_9_code 5 = .ok (.invokestatic 97, 3) := by decide +kernel
theorem zd_Graph_turnRound_8 : decode prog_3_method_9_code 8 = .ok (.iconst 0, 1) := by decide +kernel
theorem zd_Graph_turnRound_9 : decode prog_3_method_9_code 9 = .ok (.istore_n 1, 1) := by decide +kernel
theorem zd_Graph_turnRound_10 : decode prog_3_method_9_code 10 = .ok (.iload_n 1, 1) := by decide +kernel
theorem zd_Graph_turnRound_11 : decode prog_3_method_9_code 11 = .ok (.aload_n 0, 1) := by decide +kernel
theorem zd_Graph_turnRound_12 : decode prog_3_method_9_code 12 = .ok (.getfield 45, 3) := by decide +kernel
theorem zd_Graph_turnRound_15 : decode prog_3_method_9_code 15 = .ok (.if_icmp .ge 24, 3) := by decide +kernel
theorem zd_Graph_turnRound_18 : decode prog_3_method_9_code 18 = .ok (.aload_n 0, 1) := by decide +kernel
theorem zd_Graph_turnRound_19 : decode prog_3_method_9_code 19 = .ok (.getfield 35, 3) := by decide +kernel
theorem zd_Graph_turnRound_22 : decode prog_3_method_9_code 22 = .ok (.aload_n 0, 1) := by decide +kernel
theorem zd_Graph_turnRound_23 : decode prog_3_method_9_code 23 = .ok (.getfield 26, 3) := by decide +kernel
theorem zd_Graph_turnRound_26 : decode prog_3_method_9_code 26 = .ok (.iload_n 1, 1) := by decide +kernel
theorem zd_Graph_turnRound_27 : decode prog_3_method_9_code 27 = .ok (.iaload, 1) := by decide +kernel
theorem zd_Graph_turnRound_28 : decode prog_3_method_9_code 28 = .ok (.dup2, 1) := by decide +kernel
theorem zd_Graph_turnRound_29 : decode prog_3_method_9_code 29 = .ok (.iaload, 1) := by decide +kernel
theorem zd_Graph_turnRound_30 : decode prog_3_method_9_code 30 = .ok (.iconst 1, 1) := by decide +kernel
theorem zd_Graph_turnRound_31 : decode prog_3_method_9_code 31 = .ok (.iadd, 1) := by decide +kernel
theorem zd_Graph_turnRound_32 : decode prog_3_method_9_code 32 = .ok (.iastore, 1) := by decide +kernel
theorem zd_Graph_turnRound_33 : decode prog_3_method_9_code 33 = .ok (.iinc 1 1, 3) := by decide +kernel
theorem zd_Graph_turnRound_36 : decode prog_3_method_9_code 36 = .ok (.goto (-26), 3) := by decide +kernel
theorem zd_Graph_turnRound_39 : decode prog_3_method_9_code 39 = .ok (.iconst 1, 1) := by decide +kernel
theorem zd_Graph_turnRound_40 : decode prog_3_method_9_code 40 = .ok (.istore_n 1, 1) := by decide +kernel
theorem zd_Graph_turnRound_41 : decode prog_3_method_9_code 41 = .ok (.iload_n 1, 1) := by decide +kernel
theorem zd_Graph_turnRound_42 : decode prog_3_method_9_code 42 = .ok (.aload_n 0, 1) := by decide +kernel
theorem zd_Graph_turnRound_43 : decode prog_3_method_9_code 43 = .ok (.getfield 41, 3) := by decide +kernel
theorem zd_Graph_turnRound_46 : decode prog_3_method_9_code 46 = .ok (.if_icmp .gt 26, 3) := by decide +kernel
theorem zd_Graph_turnRound_49 : decode prog_3_method_9_code 49 = .ok (.aload_n 0, 1) := by decide +kernel
theorem zd_Graph_turnRound_50 : decode prog_3_method_9_code 50 = .ok (.getfield 35, 3) := by decide +kernel
theorem zd_Graph_turnRound_53 : decode prog_3_method_9_code 53 = .ok (.iload_n 1, 1) := by decide +kernel
theorem zd_Graph_turnRound_54 : decode prog_3_method_9_code 54 = .ok (.dup2, 1) := by decide +kernel
theorem zd_Graph_turnRound_55 : decode prog_3_method_9_code 55 = .ok (.iaload, 1) := by decide +kernel
theorem zd_Graph_turnRound_56 : decode prog_3_method_9_code 56 = .ok (.aload_n 0, 1) := by decide +kernel
theorem zd_Graph_turnRound_57 : decode prog_3_method_9_code 57 = .ok (.getfield 35, 3) := by decide +kernel
theorem zd_Graph_turnRound_60 : decode prog_3_method_9_code 60 = .ok (.iload_n 1, 1) := by decide +kernel
theorem zd_Graph_turnRound_61 : decode prog_3_method_9_code 61 = .ok (.iconst 1, 1) := by decide +kernel
theorem zd_Graph_turnRound_62 : decode prog_3_method_9_code 62 = .ok (.isub, 1) := by decide +kernel
theorem zd_Graph_turnRound_63 : decode prog_3_method_9_code 63 = .ok (.iaload, 1) := by decide +kernel
theorem zd_Graph_turnRound_64 : decode prog_3_method_9_code 64 = .ok (.iadd, 1) := by decide +kernel
theorem zd_Graph_turnRound_65 : decode prog_3_method_9_code 65 = .ok (.iastore, 1) := by decide +kernel
theorem zd_Graph_turnRound_66 : decode prog_3_method_9_code 66 = .ok (.iinc 1 1, 3) := by decide +kernel
theorem zd_Graph_turnRound_69 : decode prog_3_method_9_code 69 = .ok (.goto (-28), 3) := by decide +kernel
theorem zd_Graph_turnRound_72 : decode prog_3_method_9_code 72 = .ok (.aload_n 0, 1) := by decide +kernel
theorem zd_Graph_turnRound_73 : decode prog_3_method_9_code 73 = .ok (.getfield 45, 3) := by decide +kernel
theorem zd_Graph_turnRound_76 : decode prog_3_method_9_code 76 = .ok (.iconst 1, 1) := by decide +kernel
theorem zd_Graph_turnRound_77 : decode prog_3_method_9_code 77 = .ok (.isub, 1) := by decide +kernel
theorem zd_Graph_turnRound_78 : decode prog_3_method_9_code 78 = .ok (.istore_n 1, 1) := by decide +kernel
theorem zd_Graph_turnRound_79 : decode prog_3_method_9_code 79 = .ok (.iload_n 1, 1) := by decide +kernel
theorem zd_Graph_turnRound_80 : decode prog_3_method_9_code 80 = .ok (.ifCond .lt 43, 3) := by decide +kernel
theorem zd_Graph_turnRound_83 : decode prog_3_method_9_code 83 = .ok (.aload_n 0, 1) := by decide +kernel
theorem zd_Graph_turnRound_84 : decode prog_3_method_9_code 84 = .ok (.getfield 26, 3) := by decide +kernel
theorem zd_Graph_turnRound_87 : decode prog_3_method_9_code 87 = .ok (.iload_n 1, 1) := by decide +kernel
theorem zd_Graph_turnRound_88 : decode prog_3_method_9_code 88 = .ok (.iaload, 1) := by decide +kernel
theorem zd_Graph_turnRound_89 : decode prog_3_method_9_code 89 = .ok (.istore_n 2, 1) := by decide +kernel
theorem zd_Graph_turnRound_90 : decode prog_3_method_9_code 90 = .ok (.aload_n 0, 1) := by decide +kernel
theorem zd_Graph_turnRound_91 : decode prog_3_method_9_code 91 = .ok (.getfield 35, 3) := by decide +kernel
theorem zd_Graph_turnRound_94 : decode prog_3_method_9_code 94 = .ok (.iload_n 2, 1) := by decide +kernel
theorem zd_Graph_turnRound_95 : decode prog_3_method_9_code 95 = .ok (.dup2, 1) := by decide +kernel
theorem zd_Graph_turnRound_96 : decode prog_3_method_9_code 96 = .ok (.iaload, 1) := by decide +kernel
theorem zd_Graph_turnRound_97 : decode prog_3_method_9_code 97 = .ok (.iconst 1, 1) := by decide +kernel
theorem zd_Graph_turnRound_98 : decode prog_3_method_9_code 98 = .ok (.isub, 1) := by decide +kernel
theorem zd_Graph_turnRound_99 : decode prog_3_method_9_code 99 = .ok (.iastore, 1) := by decide +kernel
theorem zd_Graph_turnRound_100 : decode prog_3_method_9_code 100 = .ok (.aload_n 0, 1) := by decide +kernel
theorem zd_Graph_turnRound_101 : decode prog_3_method_9_code 101 = .ok (.getfield 38, 3) := by decide +kernel
theorem zd_Graph_turnRound_104 : decode prog_3_method_9_code 104 = .ok (.aload_n 0, 1) := by decide +kernel
theorem zd_Graph_turnRound_105 : decode prog_3_method_9_code 105 = .ok (.getfield 35, 3) := by decide +kernel
theorem zd_Graph_turnRound_108 : decode prog_3_method_9_code 108 = .ok (.iload_n 2, 1) := by decide +kernel
theorem zd_Graph_turnRound_109 : decode prog_3_method_9_code 109 = .ok (.iaload, 1) := by decide +kernel
theorem zd_Graph_turnRound_110 : decode prog_3_method_9_code 110 = .ok (.aload_n 0, 1) := by decide +kernel
theorem zd_Graph_turnRound_111 : decode prog_3_method_9_code 111 = .ok (.getfield 23, 3) := by decide +kernel
theorem zd_Graph_turnRound_114 : decode prog_3_method_9_code 114 = .ok (.iload_n 1, 1) := by decide +kernel
theorem zd_Graph_turnRound_115 : decode prog_3_method_9_code 115 = .ok (.iaload, 1) := by decide +kernel
theorem zd_Graph_turnRound_116 : decode prog_3_method_9_code 116 = .ok (.iastore, 1) := by decide +kernel
theorem zd_Graph_turnRound_117 : decode prog_3_method_9_code 117 = .ok (.iinc 1 (-1), 3) := by decide +kernel
theorem zd_Graph_turnRound_120 : decode prog_3_method_9_code 120 = .ok (.goto (-41), 3) := by decide +kernel
theorem zd_Graph_turnRound_123 : decode prog_3_method_9_code 123 = .ok (.return_, 1) := by decide +kernel
theorem zd_ModelReader_endProcess_0 : decode prog_5_method_4_code 0 = .ok (.aload_n 0, 1) := by decide +kernel
theorem zd_ModelReader_endProcess_1 : decode prog_5_method_4_code 1 = .ok (.getfield 9, 3) := by decide +kernel
theorem zd_ModelReader_endProcess_4 : decode prog_5_method_4_code 4 = .ok (.invokevirtual 47, 3) := by decide +kernel
theorem zd_ModelReader_endProcess_7 : decode prog_5_method_4_code 7 = .ok (.bipush 125, 2) := by decide +kernel
theorem zd_ModelReader_endProcess_9 : decode prog_5_method_4_code 9 = .ok (.if_icmp .eq 10, 3) := by decide +kernel
theorem zd_ModelReader_endProcess_12 : decode prog_5_method_4_code 12 = .ok (.aload_n 0, 1) := by decide +kernel
theorem zd_ModelReader_endProcess_13 : decode prog_5_method_4_code 13 = .ok (.getfield 9, 3) := by decide +kernel
theorem zd_ModelReader_endProcess_16 : decode prog_5_method_4_code 16 = .ok (.invokevirtual 62, 3) := by decide +kernel
theorem zd_ModelReader_endProcess_19 : decode prog_5_method_4_code 19 = .ok (.aload_n 0, 1) := by decide +kernel
theorem zd_ModelReader_endProcess_20 : decode prog_5_method_4_code 20 = .ok (.invokevirtual 100, 3) := by decide +kernel
theorem zd_ModelReader_endProcess_23 : decode prog_5_method_4_code 23 = .ok (.aload_n 0, 1) := by decide +kernel
theorem zd_ModelReader_endProcess_24 : decode prog_5_method_4_code 24 = .ok (.getfield 9, 3) := by decide +kernel
theorem zd_ModelReader_endProcess_27 : decode prog_5_method_4_code 27 = .ok (.invokevirtual 65, 3) := by decide +kernel
theorem zd_ModelReader_endProcess_30 : decode prog_5_method_4_code 30 = .ok (.aload_n 0, 1) := by decide +kernel
theorem zd_ModelReader_endProcess_31 : decode prog_5_method_4_code 31 = .ok (.getfield 23, 3) := by decide +kernel
theorem zd_ModelReader_endProcess_34 : decode prog_5_method_4_code 34 = .ok (.aload_n 0, 1) := by decide +kernel
theorem zd_ModelReader_endProcess_35 : decode prog_5_method_4_code 35 = .ok (.getfield 30, 3) := by decide +kernel
theorem zd_ModelReader_endProcess_38 : decode prog_5_method_4_code 38 = .ok (.invokevirtual 103, 3) := by decide +kernel
theorem zd_ModelReader_endProcess_41 : decode prog_5_method_4_code 41 = .ok (.return_, 1) := by decide +kernel
theorem zd_Program_takePlaces_0 : decode prog_7_method_7_code 0 = .ok (.lconst 1, 1) := by decide +kernel
theorem zd_Program_takePlaces_1 : decode prog_7_method_7_code 1 = .ok (.aload_n 1, 1) := by decide +kernel
theorem zd_Program_takePlaces_2 : decode prog_7_method_7_code 2 = .ok (.getfield 92, 3) := by decide +kernel
theorem zd_Program_takePlaces_5 : decode prog_7_method_7_code 5 = .ok (.iload_n 2, 1) := by decide +kernel
theorem zd_Program_takePlaces_6 : decode prog_7_method_7_code 6 = .ok (.iaload, 1) := by decide +kernel
theorem zd_Program_takePlaces_7 : decode prog_7_method_7_code 7 = .ok (.lshl, 1) := by decide +kernel
theorem zd_Program_takePlaces_8 : decode prog_7_method_7_code 8 = .ok (.lstore_n 3, 1) := by decide +kernel
theorem zd_Program_takePlaces_9 : decode prog_7_method_7_code 9 = .ok (.iload_n 2, 1) := by decide +kernel
theorem zd_Program_takePlaces_10 : decode prog_7_method_7_code 10 = .ok (.istore 5, 2) := by decide +kernel
theorem zd_Program_takePlaces_12 : decode prog_7_method_7_code 12 = .ok (.iconst 0, 1) := by decide +kernel
theorem zd_Program_takePlaces_13 : decode prog_7_method_7_code 13 = .ok (.istore 6, 2) := by decide +kernel
theorem zd_Program_takePlaces_15 : decode prog_7_method_7_code 15 = .ok (.iload 6, 2) := by decide +kernel
theorem zd_Program_takePlaces_17 : decode prog_7_method_7_code 17 = .ok (.sipush 240, 3) := by decide +kernel
theorem zd_Program_takePlaces_20 : decode prog_7_method_7_code 20 = .ok (.if_icmp .ge 73, 3) := by decide +kernel
theorem zd_Program_takePlaces_23 : decode prog_7_method_7_code 23 = .ok (.iload 5, 2) := by decide +kernel
theorem zd_Program_takePlaces_25 : decode prog_7_method_7_code 25 = .ok (.iconst (-1), 1) := by decide +kernel
theorem zd_Program_takePlaces_26 : decode prog_7_method_7_code 26 = .ok (.if_icmp .eq 67, 3) := by decide +kernel
theorem zd_Program_takePlaces_29 : decode prog_7_method_7_code 29 = .ok (.aload_n 1, 1) := by decide +kernel
theorem zd_Program_takePlaces_30 : decode prog_7_method_7_code 30 = .ok (.getfield 103, 3) := by decide +kernel
theorem zd_Program_takePlaces_33 : decode prog_7_method_7_code 33 = .ok (.iload 5, 2) := by decide +kernel
theorem zd_Program_takePlaces_35 : decode prog_7_method_7_code 35 = .ok (.iaload, 1) := by decide +kernel
theorem zd_Program_takePlaces_36 : decode prog_7_method_7_code 36 = .ok (.iconst (-1), 1) := by decide +kernel
theorem zd_Program_takePlaces_37 : decode prog_7_method_7_code 37 = .ok (.if_icmp .eq 27, 3) := by decide +kernel
theorem zd_Program_takePlaces_40 : decode prog_7_method_7_code 40 = .ok (.aload_n 0, 1) := by decide +kernel
theorem zd_Program_takePlaces_41 : decode prog_7_method_7_code 41 = .ok (.getfield 46, 3) := by decide +kernel
theorem zd_Program_takePlaces_44 : decode prog_7_method_7_code 44 = .ok (.aload_n 0, 1) := by decide +kernel
theorem zd_Program_takePlaces_45 : decode prog_7_method_7_code 45 = .ok (.getfield 66, 3) := by decide +kernel
theorem zd_Program_takePlaces_48 : decode prog_7_method_7_code 48 = .ok (.bipush 31, 2) := by decide +kernel
theorem zd_Program_takePlaces_50 : decode prog_7_method_7_code 50 = .ok (.imul, 1) := by decide +kernel
theorem zd_Program_takePlaces_51 : decode prog_7_method_7_code 51 = .ok (.aload_n 1, 1) := by decide +kernel
theorem zd_Program_takePlaces_52 : decode prog_7_method_7_code 52 = .ok (.getfield 103, 3) := by decide +kernel
theorem zd_Program_takePlaces_55 : decode prog_7_method_7_code 55 = .ok (.iload 5, 2) := by decide +kernel
theorem zd_Program_takePlaces_57 : decode prog_7_method_7_code 57 = .ok (.iaload, 1) := by decide +kernel
theorem zd_Program_takePlaces_58 : decode prog_7_method_7_code 58 = .ok (.iadd, 1) := by decide +kernel
theorem zd_Program_takePlaces_59 : decode prog_7_method_7_code 59 = .ok (.dup2, 1) := by decide +kernel
theorem zd_Program_takePlaces_60 : decode prog_7_method_7_code 60 = .ok (.laload, 1) := by decide +kernel
theorem zd_Program_takePlaces_61 : decode prog_7_method_7_code 61 = .ok (.lload_n 3, 1) := by decide +kernel
theorem zd_Program_takePlaces_62 : decode prog_7_method_7_code 62 = .ok (.lor, 1) := by decide +kernel
theorem zd_Program_takePlaces_63 : decode prog_7_method_7_code 63 = .ok (.lastore, 1) := by decide +kernel
theorem zd_Program_takePlaces_64 : decode prog_7_method_7_code 64 = .ok (.aload_n 1, 1) := by decide +kernel
theorem zd_Program_takePlaces_65 : decode prog_7_method_7_code 65 = .ok (.getfield 106, 3) := by decide +kernel
theorem zd_Program_takePlaces_68 : decode prog_7_method_7_code 68 = .ok (.iload 5, 2) := by decide +kernel
theorem zd_Program_takePlaces_70 : decode prog_7_method_7_code 70 = .ok (.baload, 1) := by decide +kernel
theorem zd_Program_takePlaces_71 : decode prog_7_method_7_code 71 = .ok (.ifCond .eq 13, 3) := by decide +kernel
theorem zd_Program_takePlaces_74 : decode prog_7_method_7_code 74 = .ok (.aload_n 1, 1) := by decide +kernel
theorem zd_Program_takePlaces_75 : decode prog_7_method_7_code 75 = .ok (.getfield 109, 3) := by decide +kernel
theorem zd_Program_takePlaces_78 : decode prog_7_method_7_code 78 = .ok (.iload 5, 2) := by decide +kernel
theorem zd_Program_takePlaces_80 : decode prog_7_method_7_code 80 = .ok (.iaload, 1) := by decide +kernel
theorem zd_Program_takePlaces_81 : decode prog_7_method_7_code 81 = .ok (.goto 4, 3) := by decide +kernel
theorem zd_Program_takePlaces_84 : decode prog_7_method_7_code 84 = .ok (.iconst (-1), 1) := by decide +kernel
theorem zd_Program_takePlaces_85 : decode prog_7_method_7_code 85 = .ok (.istore 5, 2) := by decide +kernel
theorem zd_Program_takePlaces_87 : decode prog_7_method_7_code 87 = .ok (.iinc 6 1, 3) := by decide +kernel
theorem zd_Program_takePlaces_90 : decode prog_7_method_7_code 90 = .ok (.goto (-75), 3) := by decide +kernel
theorem zd_Program_takePlaces_93 : decode prog_7_method_7_code 93 = .ok (.return_, 1) := by decide +kernel
theorem zd_Program_takeProcess_0 : decode prog_7_method_5_code 0 = .ok (.iconst 0, 1) := by decide +kernel
theorem zd_Program_takeProcess_1 : decode prog_7_method_5_code 1 = .ok (.istore_n 2, 1) := by decide +kernel
theorem zd_Program_takeProcess_2 : decode prog_7_method_5_code 2 = .ok (.iload_n 2, 1) := by decide +kernel
theorem zd_Program_takeProcess_3 : decode prog_7_method_5_code 3 = .ok (.aload_n 1, 1) := by decide +kernel
theorem zd_Program_takeProcess_4 : decode prog_7_method_5_code 4 = .ok (.getfield 69, 3) := by decide +kernel
theorem zd_Program_takeProcess_7 : decode prog_7_method_5_code 7 = .ok (.if_icmp .ge 30, 3) := by decide +kernel
theorem zd_Program_takeProcess_10 : decode prog_7_method_5_code 10 = .ok (.aload_n 1, 1) := by decide +kernel
theorem zd_Program_takeProcess_11 : decode prog_7_method_5_code 11 = .ok (.getfield 74, 3) := by decide +kernel
theorem zd_Program_takeProcess_14 : decode prog_7_method_5_code 14 = .ok (.iload_n 2, 1) := by decide +kernel
theorem zd_Program_takeProcess_15 : decode prog_7_method_5_code 15 = .ok (.iaload, 1) := by decide +kernel
theorem zd_Program_takeProcess_16 : decode prog_7_method_5_code 16 = .ok (.ifCond .ne 15, 3) := by decide +kernel
theorem zd_Program_takeProcess_19 : decode prog_7_method_5_code 19 = .ok (.aload_n 0, 1) := by decide +kernel
theorem zd_Program_takeProcess_20 : decode prog_7_method_5_code 20 = .ok (.aload_n 1, 1) := by decide +kernel
theorem zd_Program_takeProcess_21 : decode prog_7_method_5_code 21 = .ok (.iload_n 2, 1) := by decide +kernel
theorem zd_Program_takeProcess_22 : decode prog_7_method_5_code 22 = .ok (.invokevirtual 75, 3) := by decide +kernel
theorem zd_Program_takeProcess_25 : decode prog_7_method_5_code 25 = .ok (.aload_n 0, 1) := by decide +kernel
theorem zd_Program_takeProcess_26 : decode prog_7_method_5_code 26 = .ok (.aload_n 1, 1) := by decide +kernel
theorem zd_Program_takeProcess_27 : decode prog_7_method_5_code 27 = .ok (.iload_n 2, 1) := by decide +kernel
theorem zd_Program_takeProcess_28 : decode prog_7_method_5_code 28 = .ok (.invokevirtual 79, 3) := by decide +kernel
theorem zd_Program_takeProcess_31 : decode prog_7_method_5_code 31 = .ok (.iinc 2 1, 3) := by decide +kernel
theorem zd_Program_takeProcess_34 : decode prog_7_method_5_code 34 = .ok (.goto (-32), 3) := by decide +kernel
theorem zd_Program_takeProcess_37 : decode prog_7_method_5_code 37 = .ok (.iconst 0, 1) := by decide +kernel
theorem zd_Program_takeProcess_38 : decode prog_7_method_5_code 38 = .ok (.istore_n 2, 1) := by decide +kernel
theorem zd_Program_takeProcess_39 : decode prog_7_method_5_code 39 = .ok (.iload_n 2, 1) := by decide +kernel
theorem zd_Program_takeProcess_40 : decode prog_7_method_5_code 40 = .ok (.bipush 8, 2) := by decide +kernel
theorem zd_Program_takeProcess_42 : decode prog_7_method_5_code 42 = .ok (.if_icmp .ge 45, 3) := by decide +kernel
theorem zd_Program_takeProcess_45 : decode prog_7_method_5_code 45 = .ok (.aload_n 1, 1) := by decide +kernel
theorem zd_Program_takeProcess_46 : decode prog_7_method_5_code 46 = .ok (.getfield 82, 3) := by decide +kernel
theorem zd_Program_takeProcess_49 : decode prog_7_method_5_code 49 = .ok (.iload_n 2, 1) := by decide +kernel
theorem zd_Program_takeProcess_50 : decode prog_7_method_5_code 50 = .ok (.iaload, 1) := by decide +kernel
theorem zd_Program_takeProcess_51 : decode prog_7_method_5_code 51 = .ok (.istore_n 3, 1) := by decide +kernel
theorem zd_Program_takeProcess_52 : decode prog_7_method_5_code 52 = .ok (.iload_n 3, 1) := by decide +kernel
theorem zd_Program_takeProcess_53 : decode prog_7_method_5_code 53 = .ok (.bipush (-3), 2) := by decide +kernel
theorem zd_Program_takeProcess_55 : decode prog_7_method_5_code 55 = .ok (.if_icmp .eq 26, 3) := by decide +kernel
theorem zd_Program_takeProcess_58 : decode prog_7_method_5_code 58 = .ok (.aload_n 0, 1) := by decide +kernel
theorem zd_Program_takeProcess_59 : decode prog_7_method_5_code 59 = .ok (.getfield 43, 3) := by decide +kernel
theorem zd_Program_takeProcess_62 : decode prog_7_method_5_code 62 = .ok (.aload_n 0, 1) := by decide +kernel
theorem zd_Program_takeProcess_63 : decode prog_7_method_5_code 63 = .ok (.getfield 66, 3) := by decide +kernel
theorem zd_Program_takeProcess_66 : decode prog_7_method_5_code 66 = .ok (.bipush 8, 2) := by decide +kernel
theorem zd_Program_takeProcess_68 : decode prog_7_method_5_code 68 = .ok (.imul, 1) := by decide +kernel
theorem zd_Program_takeProcess_69 : decode prog_7_method_5_code 69 = .ok (.iload_n 2, 1) := by decide +kernel
theorem zd_Program_takeProcess_70 : decode prog_7_method_5_code 70 = .ok (.iadd, 1) := by decide +kernel
theorem zd_Program_takeProcess_71 : decode prog_7_method_5_code 71 = .ok (.aload_n 1, 1) := by decide +kernel
theorem zd_Program_takeProcess_72 : decode prog_7_method_5_code 72 = .ok (.aload_n 1, 1) := by decide +kernel
theorem zd_Program_takeProcess_73 : decode prog_7_method_5_code 73 = .ok (.iload_n 3, 1) := by decide +kernel
theorem zd_Program_takeProcess_74 : decode prog_7_method_5_code 74 = .ok (.invokevirtual 85, 3) := by decide +kernel
theorem zd_Program_takeProcess_77 : decode prog_7_method_5_code 77 = .ok (.invokevirtual 89, 3) := by decide +kernel
theorem zd_Program_takeProcess_80 : decode prog_7_method_5_code 80 = .ok (.iastore, 1) := by decide +kernel
theorem zd_Program_takeProcess_81 : decode prog_7_method_5_code 81 = .ok (.iinc 2 1, 3) := by decide +kernel
theorem zd_Program_takeProcess_84 : decode prog_7_method_5_code 84 = .ok (.goto (-45), 3) := by decide +kernel
theorem zd_Program_takeProcess_87 : decode prog_7_method_5_code 87 = .ok (.aload_n 0, 1) := by decide +kernel
theorem zd_Program_takeProcess_88 : decode prog_7_method_5_code 88 = .ok (.getfield 40, 3) := by decide +kernel
theorem zd_Program_takeProcess_91 : decode prog_7_method_5_code 91 = .ok (.aload_n 0, 1) := by decide +kernel
theorem zd_Program_takeProcess_92 : decode prog_7_method_5_code 92 = .ok (.getfield 66, 3) := by decide +kernel
theorem zd_Program_takeProcess_95 : decode prog_7_method_5_code 95 = .ok (.aload_n 1, 1) := by decide +kernel
theorem zd_Program_takeProcess_96 : decode prog_7_method_5_code 96 = .ok (.aload_n 1, 1) := by decide +kernel
theorem zd_Program_takeProcess_97 : decode prog_7_method_5_code 97 = .ok (.iconst 0, 1) := by decide +kernel
theorem zd_Program_takeProcess_98 : decode prog_7_method_5_code 98 = .ok (.invokevirtual 85, 3) := by decide +kernel
theorem zd_Program_takeProcess_101 : decode prog_7_method_5_code 101 = .ok (.invokevirtual 89, 3) := by decide +kernel
theorem zd_Program_takeProcess_104 : decode prog_7_method_5_code 104 = .ok (.iastore, 1) := by decide +kernel
theorem zd_Program_takeProcess_105 : decode prog_7_method_5_code 105 = .ok (.aload_n 0, 1) := by decide +kernel
theorem zd_Program_takeProcess_106 : decode prog_7_method_5_code 106 = .ok (.dup, 1) := by decide +kernel
theorem zd_Program_takeProcess_107 : decode prog_7_method_5_code 107 = .ok (.getfield 66, 3) := by decide +kernel
theorem zd_Program_takeProcess_110 : decode prog_7_method_5_code 110 = .ok (.iconst 1, 1) := by decide +kernel
theorem zd_Program_takeProcess_111 : decode prog_7_method_5_code 111 = .ok (.iadd, 1) := by decide +kernel
theorem zd_Program_takeProcess_112 : decode prog_7_method_5_code 112 = .ok (.putfield 66, 3) := by decide +kernel
theorem zd_Program_takeProcess_115 : decode prog_7_method_5_code 115 = .ok (.return_, 1) := by decide +kernel
theorem zd_Program_takeWay_0 : decode prog_7_method_6_code 0 = .ok (.aload_n 1, 1) := by decide +kernel
theorem zd_Program_takeWay_1 : decode prog_7_method_6_code 1 = .ok (.getfield 92, 3) := by decide +kernel
theorem zd_Program_takeWay_4 : decode prog_7_method_6_code 4 = .ok (.iload_n 2, 1) := by decide +kernel
theorem zd_Program_takeWay_5 : decode prog_7_method_6_code 5 = .ok (.iaload, 1) := by decide +kernel
theorem zd_Program_takeWay_6 : decode prog_7_method_6_code 6 = .ok (.istore_n 3, 1) := by decide +kernel
theorem zd_Program_takeWay_7 : decode prog_7_method_6_code 7 = .ok (.aload_n 1, 1) := by decide +kernel
theorem zd_Program_takeWay_8 : decode prog_7_method_6_code 8 = .ok (.aload_n 1, 1) := by decide +kernel
theorem zd_Program_takeWay_9 : decode prog_7_method_6_code 9 = .ok (.iload_n 2, 1) := by decide +kernel
theorem zd_Program_takeWay_10 : decode prog_7_method_6_code 10 = .ok (.invokevirtual 95, 3) := by decide +kernel
theorem zd_Program_takeWay_13 : decode prog_7_method_6_code 13 = .ok (.invokevirtual 85, 3) := by decide +kernel
theorem zd_Program_takeWay_16 : decode prog_7_method_6_code 16 = .ok (.istore 4, 2) := by decide +kernel
theorem zd_Program_takeWay_18 : decode prog_7_method_6_code 18 = .ok (.aload_n 1, 1) := by decide +kernel
theorem zd_Program_takeWay_19 : decode prog_7_method_6_code 19 = .ok (.getfield 98, 3) := by decide +kernel
theorem zd_Program_takeWay_22 : decode prog_7_method_6_code 22 = .ok (.iload_n 2, 1) := by decide +kernel
theorem zd_Program_takeWay_23 : decode prog_7_method_6_code 23 = .ok (.iaload, 1) := by decide +kernel
theorem zd_Program_takeWay_24 : decode prog_7_method_6_code 24 = .ok (.istore 5, 2) := by decide +kernel
theorem zd_Program_takeWay_26 : decode prog_7_method_6_code 26 = .ok (.aload_n 0, 1) := by decide +kernel
theorem zd_Program_takeWay_27 : decode prog_7_method_6_code 27 = .ok (.getfield 27, 3) := by decide +kernel
theorem zd_Program_takeWay_30 : decode prog_7_method_6_code 30 = .ok (.iload_n 3, 1) := by decide +kernel
theorem zd_Program_takeWay_31 : decode prog_7_method_6_code 31 = .ok (.aload_n 1, 1) := by decide +kernel
theorem zd_Program_takeWay_32 : decode prog_7_method_6_code 32 = .ok (.iload 4, 2) := by decide +kernel
theorem zd_Program_takeWay_34 : decode prog_7_method_6_code 34 = .ok (.invokevirtual 89, 3) := by decide +kernel
theorem zd_Program_takeWay_37 : decode prog_7_method_6_code 37 = .ok (.iastore, 1) := by decide +kernel
theorem zd_Program_takeWay_38 : decode prog_7_method_6_code 38 = .ok (.aload_n 0, 1) := by decide +kernel
theorem zd_Program_takeWay_39 : decode prog_7_method_6_code 39 = .ok (.getfield 30, 3) := by decide +kernel
theorem zd_Program_takeWay_42 : decode prog_7_method_6_code 42 = .ok (.iload_n 3, 1) := by decide +kernel
theorem zd_Program_takeWay_43 : decode prog_7_method_6_code 43 = .ok (.iload 5, 2) := by decide +kernel
theorem zd_Program_takeWay_45 : decode prog_7_method_6_code 45 = .ok (.iconst (-1), 1) := by decide +kernel
theorem zd_Program_takeWay_46 : decode prog_7_method_6_code 46 = .ok (.if_icmp .eq 24, 3) := by decide +kernel
theorem zd_Program_takeWay_49 : decode prog_7_method_6_code 49 = .ok (.iload 4, 2) := by decide +kernel
theorem zd_Program_takeWay_51 : decode prog_7_method_6_code 51 = .ok (.ifCond .lt 19, 3) := by decide +kernel
theorem zd_Program_takeWay_54 : decode prog_7_method_6_code 54 = .ok (.aload_n 1, 1) := by decide +kernel
theorem zd_Program_takeWay_55 : decode prog_7_method_6_code 55 = .ok (.getfield 98, 3) := by decide +kernel
theorem zd_Program_takeWay_58 : decode prog_7_method_6_code 58 = .ok (.iload 4, 2) := by decide +kernel
theorem zd_Program_takeWay_60 : decode prog_7_method_6_code 60 = .ok (.iaload, 1) := by decide +kernel
theorem zd_Program_takeWay_61 : decode prog_7_method_6_code 61 = .ok (.iload 5, 2) := by decide +kernel
theorem zd_Program_takeWay_63 : decode prog_7_method_6_code 63 = .ok (.if_icmp .ne 7, 3) := by decide +kernel
theorem zd_Program_takeWay_66 : decode prog_7_method_6_code 66 = .ok (.iconst 1, 1) := by decide +kernel
theorem zd_Program_takeWay_67 : decode prog_7_method_6_code 67 = .ok (.goto 4, 3) := by decide +kernel
theorem zd_Program_takeWay_70 : decode prog_7_method_6_code 70 = .ok (.iconst 0, 1) := by decide +kernel
theorem zd_Program_takeWay_71 : decode prog_7_method_6_code 71 = .ok (.bastore, 1) := by decide +kernel
theorem zd_Program_takeWay_72 : decode prog_7_method_6_code 72 = .ok (.return_, 1) := by decide +kernel
def wc_Program_takeWay_ad6_71 (a1 : Int32) (Post : (Nat → Int32) → (Nat → Int64) → (Nat → Nat → Int32) → (Nat → Nat → Int64) → Prop) (y0 : Int32) (y1 : Int32) (I : Nat → Int32) (J : Nat → Int64) (B : Nat → Nat → Int32) (D : Nat → Nat → Int64) : Prop :=
  vp_in y1 48 ∧ Post I J (va_up B 12 (upd (B 12) y1.toNatClampNeg (vp_nar .boolean y0))) D
def wc_Program_takeWay_ad6_70 (a1 : Int32) (Post : (Nat → Int32) → (Nat → Int64) → (Nat → Nat → Int32) → (Nat → Nat → Int64) → Prop) (y0 : Int32) (I : Nat → Int32) (J : Nat → Int64) (B : Nat → Nat → Int32) (D : Nat → Nat → Int64) : Prop :=
  wc_Program_takeWay_ad6_71 a1 Post 0 y0 I J B D
def wp_Program_takeWay_ad6 (I : Nat → Int32) (J : Nat → Int64) (B : Nat → Nat → Int32) (D : Nat → Nat → Int64) (a1 : Int32) (Post : (Nat → Int32) → (Nat → Int64) → (Nat → Nat → Int32) → (Nat → Nat → Int64) → Prop) : Prop :=
  vp_in a1 240 ∧ ∀ z1 : Int32, z1 = ((B 26) a1.toNatClampNeg) → wp_Tree_behind I J B D a1 (fun r2 I2 J2 B2 D2 => wp_Tree_settled I2 J2 B2 D2 r2 (fun r3 I3 J3 B3 D3 => vp_in a1 240 ∧ ∀ z4 : Int32, z4 = ((B3 21) a1.toNatClampNeg) → wp_Tree_pointAt I3 J3 B3 D3 r3 (fun r5 I5 J5 B5 D5 => vp_in z1 48 ∧ ((z4 = (-1) → wc_Program_takeWay_ad6_70 a1 Post z1 I5 J5 (va_up B5 11 (upd (B5 11) z1.toNatClampNeg r5)) D5) ∧ (¬ z4 = (-1) → ((r3 < 0 → wc_Program_takeWay_ad6_70 a1 Post z1 I5 J5 (va_up B5 11 (upd (B5 11) z1.toNatClampNeg r5)) D5) ∧ (¬ r3 < 0 → vp_in r3 240 ∧ ∀ z8 : Int32, z8 = ((B5 21) r3.toNatClampNeg) → ((¬ z8 = z4 → wc_Program_takeWay_ad6_70 a1 Post z1 I5 J5 (va_up B5 11 (upd (B5 11) z1.toNatClampNeg r5)) D5) ∧ (z8 = z4 → wc_Program_takeWay_ad6_71 a1 Post 1 z1 I5 J5 (va_up B5 11 (upd (B5 11) z1.toNatClampNeg r5)) D5)))))))))
set_option maxHeartbeats 8000000 in
set_option maxRecDepth 100000 in
theorem wJ_Program_takeWay_ad6_71 {p : Program} {l : Launch} {e : Env} {s : State} {m : MethodId} {below : List Frame} {meth : Method} {c : Code} {A : Nat → Prop} (G : va_G) (K : Nat → ClassId) (ad : Nat → Nat) (sv : Value) (a1 : Int32) (Post : (Nat → Int32) → (Nat → Int64) → (Nat → Nat → Int32) → (Nat → Nat → Int64) → Prop) (C : zCx p s m ([.ref (ad 3), .ref (ad 6), .int a1] : List Value).toArray meth c A G K prog_7_method_6_code none 6 "LassoFinder$Program") : ∀ (y0 : Int32) (y1 : Int32) (I : Nat → Int32) (J : Nat → Int64) (B : Nat → Nat → Int32) (D : Nat → Nat → Int64) (ls : Array Slot) (H : Heap) (locs : List Loc), wc_Program_takeWay_ad6_71 a1 Post y0 y1 I J B D → lv_has ls 6 [] → zW G A s.heap (wX ad K sv I J B D) H locs → W p l e { frames := 2, cells := 0, slots := 0, locals := 46 } s m ([.ref (ad 3), .ref (ad 6), .int a1] : List Value).toArray below meth c H locs 0 0 (MQ below (va_Qv (fun u : zS => Post u.1 u.2.1 u.2.2.1 u.2.2.2) (fun u t => zPost G K A (wX ad K sv u.1 u.2.1 u.2.2.1 u.2.2.2) t) A) ([.ref (ad 3), .ref (ad 6), .int a1] : List Value).toArray s 0 0 A) (F0 m 71 ls [.int y0, .int y1, .ref (ad 24)]) := by
  obtain ⟨hx, hb, hr, hml, hts, hown, hlocks, hA, hK⟩ := id C
  intro y0 y1 I J B D ls H locs hok hl hw
  unfold wc_Program_takeWay_ad6_71 at hok
  refine va_zast (f := (B 12)) hx hb hK hw.1 hw.2.1 hw.2.2 24 2 wX_a24 rfl hok.1 zd_Program_takeWay_71 (fun H locs w91 w92 w93 => ?_)
  have hok := hok.2
  have hw := wX_t24 ⟨w91, w92, w93⟩
  exact (z_vret (u := (I, J, (va_up B 12 (upd (B 12) y1.toNatClampNeg (vp_nar .boolean y0))), D)) hx hb hr hlocks hw (List.range 65) wX_all wX_nd hok (Nat.le_of_ble_eq_true rfl) (Nat.le_of_ble_eq_true rfl) zd_Program_takeWay_72)
set_option maxHeartbeats 8000000 in
set_option maxRecDepth 100000 in
theorem wJ_Program_takeWay_ad6_70 {p : Program} {l : Launch} {e : Env} {s : State} {m : MethodId} {below : List Frame} {meth : Method} {c : Code} {A : Nat → Prop} (G : va_G) (K : Nat → ClassId) (ad : Nat → Nat) (sv : Value) (a1 : Int32) (Post : (Nat → Int32) → (Nat → Int64) → (Nat → Nat → Int32) → (Nat → Nat → Int64) → Prop) (C : zCx p s m ([.ref (ad 3), .ref (ad 6), .int a1] : List Value).toArray meth c A G K prog_7_method_6_code none 6 "LassoFinder$Program") : ∀ (y0 : Int32) (I : Nat → Int32) (J : Nat → Int64) (B : Nat → Nat → Int32) (D : Nat → Nat → Int64) (ls : Array Slot) (H : Heap) (locs : List Loc), wc_Program_takeWay_ad6_70 a1 Post y0 I J B D → lv_has ls 6 [] → zW G A s.heap (wX ad K sv I J B D) H locs → W p l e { frames := 2, cells := 0, slots := 0, locals := 46 } s m ([.ref (ad 3), .ref (ad 6), .int a1] : List Value).toArray below meth c H locs 0 0 (MQ below (va_Qv (fun u : zS => Post u.1 u.2.1 u.2.2.1 u.2.2.2) (fun u t => zPost G K A (wX ad K sv u.1 u.2.1 u.2.2.1 u.2.2.2) t) A) ([.ref (ad 3), .ref (ad 6), .int a1] : List Value).toArray s 0 0 A) (F0 m 70 ls [.int y0, .ref (ad 24)]) := by
  obtain ⟨hx, hb, hr, hml, hts, hown, hlocks, hA, hK⟩ := id C
  intro y0 I J B D ls H locs hok hl hw
  unfold wc_Program_takeWay_ad6_70 at hok
  refine lv_iconst (v := 0) hx hb zd_Program_takeWay_70 (by decide) ?_
  exact wJ_Program_takeWay_ad6_71 G K ad sv a1 Post C 0 y0 I J B D ls H locs hok (lv_sub hl [] rfl) hw
set_option maxHeartbeats 8000000 in
set_option maxRecDepth 100000 in
theorem w_Program_takeWay_ad6 (l : Launch) (G : va_G) (K : Nat → ClassId) (ad : Nat → Nat) (sv : Value) (I : Nat → Int32) (J : Nat → Int64) (B : Nat → Nat → Int32) (D : Nat → Nat → Int64) (a1 : Int32) (Post : (Nat → Int32) → (Nat → Int64) → (Nat → Nat → Int32) → (Nat → Nat → Int64) → Prop) (sz : Nat) (hok : wp_Program_takeWay_ad6 I J B D a1 Post) : Met l zy_Program_takeWay (Cond.code zy_Program_takeWay prog_7_method_6_code 6 none :: zTB) { frames := 2, cells := 0, slots := 0, locals := 46 } (va_Pc [.ref (ad 3), .ref (ad 6), .int a1] (zPre G K (wX ad K sv I J B D) sz)) (va_Qv (fun u : zS => Post u.1 u.2.1 u.2.2.1 u.2.2.2) (fun u t => zPost G K (va_A (wX ad K sv I J B D) sz) (wX ad K sv u.1 u.2.1 u.2.2.1 u.2.2.2) t) (va_A (wX ad K sv I J B D) sz)) 0 0 (va_A (wX ad K sv I J B D) sz) := by
  refine zMet (y := zy_Program_takeWay) (av := [.ref (ad 3), .ref (ad 6), .int a1]) (maxL := 6) (cc := prog_7_method_6_code) (ret := none) (W0 := (wX ad K sv I J B D)) (sz := sz) (G := G) (K := K) (wt := zTB) (mc := 0) (ms := 0) (Qf := fun A => va_Qv (fun u : zS => Post u.1 u.2.1 u.2.2.1 u.2.2.2) (fun u t => zPost G K A (wX ad K sv u.1 u.2.1 u.2.2.1 u.2.2.2) t) A) (by decide) (Nat.le_of_ble_eq_true rfl) ?_
  intro p e s m below meth c ls A hx hb hr hml hts hown hlocks hin hA hK H locs hw hsz hl
  clear hsz
  have hown : s.vm.findClass "LassoFinder$Program" = some m.cls := hown
  have C : zCx p s m ([.ref (ad 3), .ref (ad 6), .int a1] : List Value).toArray meth c A G K prog_7_method_6_code none 6 "LassoFinder$Program" := ⟨hx, hb, hr, hml, hts, hown, hlocks, hA, hK⟩
  have hl : lv_has ls 6 [(0, .ref (ad 3)), (1, .ref (ad 6)), (2, .int a1)] := hl
  have hw : zW G A s.heap (wX ad K sv I J B D) H locs := hw
  unfold wp_Program_takeWay_ad6 at hok
  refine lv_aload_n hx hb zd_Program_takeWay_0 rfl (lv_at hl 1 rfl) ?_
  refine z_get (v := .ref (ad 40)) hx hb hts hown hK hw zZ10 6 wX_g6 8 (by decide) zn_398 rfl zd_Program_takeWay_1 ?_
  refine lv_iload_n hx hb zd_Program_takeWay_4 rfl (lv_at hl 2 rfl) ?_
  refine va_iald (f := (B 26)) hx hb hK hw.1 40 0 wX_a40 rfl hok.1 zd_Program_takeWay_5 ?_
  have hok := hok.2
  refine lv_topi (fun z1 ez1 => ?_)
  have hok := hok z1 ez1
  refine lv_istore_n hx hb zd_Program_takeWay_6 rfl hl (by decide) rfl (fun ls hl => ?_)
  have hl : lv_has ls 6 [(3, .int z1), (0, .ref (ad 3)), (1, .ref (ad 6)), (2, .int a1)] := hl
  refine lv_aload_n hx hb zd_Program_takeWay_7 rfl (lv_at hl 2 rfl) ?_
  refine lv_aload_n hx hb zd_Program_takeWay_8 rfl (lv_at hl 2 rfl) ?_
  refine lv_iload_n hx hb zd_Program_takeWay_9 rfl (lv_at hl 3 rfl) ?_
  refine z_calli (w1 := fun (u : zS) => wX ad K sv u.1 u.2.1 u.2.2.1 u.2.2.2) (wr := []) (z_runV (q0 := 6) (wc := (wX ad K sv I J B D)) (As := [.int a1]) (rest := [.ref (ad 6)]) ⟨hx, hb, hml, hown, hts⟩ (w_Tree_behind l G K ad sv I J B D a1 _ H.size hok) zf_Tree_behind zn_359 ⟨Nat.le_of_ble_eq_true rfl, Nat.le_of_ble_eq_true rfl⟩ hK hw (List.range 65) wX_all wX_nd wX_g6 rfl rfl hl.1 rfl (Nat.le_of_ble_eq_true rfl) zd_Program_takeWay_10 ⟨Nat.le_of_ble_eq_true rfl, Nat.le_of_ble_eq_true rfl⟩) hw hA (List.range 65) [] wX_all rfl (by decide) (fun i hi => by cases hi) (fun r2 u H locs hok hw => ?_)
  obtain ⟨I2, J2, B2, D2⟩ := u
  dsimp only at hok
  have hw : zW G A s.heap (wX ad K sv I2 J2 B2 D2) H locs := hw
  refine z_calli (w1 := fun (u : zS) => wX ad K sv u.1 u.2.1 u.2.2.1 u.2.2.2) (wr := []) (z_runV (q0 := 6) (wc := (wX ad K sv I2 J2 B2 D2)) (As := [.int r2]) (rest := []) ⟨hx, hb, hml, hown, hts⟩ (w_Tree_settled l G K ad sv I2 J2 B2 D2 r2 _ H.size hok) zf_Tree_settled zn_360 ⟨Nat.le_of_ble_eq_true rfl, Nat.le_of_ble_eq_true rfl⟩ hK hw (List.range 65) wX_all wX_nd wX_g6 rfl rfl hl.1 rfl (Nat.le_of_ble_eq_true rfl) zd_Program_takeWay_13 ⟨Nat.le_of_ble_eq_true rfl, Nat.le_of_ble_eq_true rfl⟩) hw hA (List.range 65) [] wX_all rfl (by decide) (fun i hi => by cases hi) (fun r3 u H locs hok hw => ?_)
  obtain ⟨I3, J3, B3, D3⟩ := u
  dsimp only at hok
  have hw : zW G A s.heap (wX ad K sv I3 J3 B3 D3) H locs := hw
  refine lv_istore hx hb zd_Program_takeWay_16 hl (by decide) rfl (fun ls hl => ?_)
  have hl : lv_has ls 6 [(4, .int r3), (3, .int z1), (0, .ref (ad 3)), (1, .ref (ad 6)), (2, .int a1)] := hl
  refine lv_aload_n hx hb zd_Program_takeWay_18 rfl (lv_at hl 3 rfl) ?_
  refine z_get (v := .ref (ad 35)) hx hb hts hown hK hw zZ10 6 wX_g6 3 (by decide) zn_399 rfl zd_Program_takeWay_19 ?_
  refine lv_iload_n hx hb zd_Program_takeWay_22 rfl (lv_at hl 4 rfl) ?_
  refine va_iald (f := (B3 21)) hx hb hK hw.1 35 0 wX_a35 rfl hok.1 zd_Program_takeWay_23 ?_
  have hok := hok.2
  refine lv_topi (fun z4 ez4 => ?_)
  have hok := hok z4 ez4
  refine lv_istore hx hb zd_Program_takeWay_24 hl (by decide) rfl (fun ls hl => ?_)
  have hl : lv_has ls 6 [(5, .int z4), (4, .int r3), (3, .int z1), (0, .ref (ad 3)), (1, .ref (ad 6)), (2, .int a1)] := hl
  refine lv_aload_n hx hb zd_Program_takeWay_26 rfl (lv_at hl 3 rfl) ?_
  refine z_get (v := .ref (ad 23)) hx hb hts hown hK hw zZ6 3 wX_g3 5 (by decide) zn_246 rfl zd_Program_takeWay_27 ?_
  refine lv_iload_n hx hb zd_Program_takeWay_30 rfl (lv_at hl 2 rfl) ?_
  refine lv_aload_n hx hb zd_Program_takeWay_31 rfl (lv_at hl 4 rfl) ?_
  refine lv_iload hx hb zd_Program_takeWay_32 (lv_at hl 1 rfl) ?_
  refine z_calli (w1 := fun (u : zS) => wX ad K sv u.1 u.2.1 u.2.2.1 u.2.2.2) (wr := []) (z_runV (q0 := 6) (wc := (wX ad K sv I3 J3 B3 D3)) (As := [.int r3]) (rest := [.int z1, .ref (ad 23)]) ⟨hx, hb, hml, hown, hts⟩ (w_Tree_pointAt l G K ad sv I3 J3 B3 D3 r3 _ H.size hok) zf_Tree_pointAt zn_361 ⟨Nat.le_of_ble_eq_true rfl, Nat.le_of_ble_eq_true rfl⟩ hK hw (List.range 65) wX_all wX_nd wX_g6 rfl rfl hl.1 rfl (Nat.le_of_ble_eq_true rfl) zd_Program_takeWay_34 ⟨Nat.le_of_ble_eq_true rfl, Nat.le_of_ble_eq_true rfl⟩) hw hA (List.range 65) [] wX_all rfl (by decide) (fun i hi => by cases hi) (fun r5 u H locs hok hw => ?_)
  obtain ⟨I5, J5, B5, D5⟩ := u
  dsimp only at hok
  have hw : zW G A s.heap (wX ad K sv I5 J5 B5 D5) H locs := hw
  refine va_iast (f := (B5 11)) hx hb hK hw.1 hw.2.1 hw.2.2 23 0 wX_a23 rfl hok.1 zd_Program_takeWay_37 (fun H locs w91 w92 w93 => ?_)
  have hok := hok.2
  have hw := wX_t23 ⟨w91, w92, w93⟩
  refine lv_aload_n hx hb zd_Program_takeWay_38 rfl (lv_at hl 3 rfl) ?_
  refine z_get (v := .ref (ad 24)) hx hb hts hown hK hw zZ6 3 wX_g3 6 (by decide) zn_247 rfl zd_Program_takeWay_39 ?_
  refine lv_iload_n hx hb zd_Program_takeWay_42 rfl (lv_at hl 2 rfl) ?_
  refine lv_iload hx hb zd_Program_takeWay_43 (lv_at hl 0 rfl) ?_
  refine lv_iconst (v := (-1)) hx hb zd_Program_takeWay_45 (by decide) ?_
  refine lv_icmp_eq (tgt := 70) hx hb zd_Program_takeWay_46 (by decide) (fun hc6 => ?_) (fun hc6 => ?_)
  · have hok := hok.1 hc6
    exact wJ_Program_takeWay_ad6_70 G K ad sv a1 Post C z1 I5 J5 (va_up B5 11 (upd (B5 11) z1.toNatClampNeg r5)) D5 ls H locs hok (lv_sub hl [] rfl) hw
  · have hok := hok.2 hc6
    refine lv_iload hx hb zd_Program_takeWay_49 (lv_at hl 1 rfl) ?_
    refine lv_if_lt (tgt := 70) hx hb zd_Program_takeWay_51 (by decide) (fun hc7 => ?_) (fun hc7 => ?_)
    · have hok := hok.1 hc7
      exact wJ_Program_takeWay_ad6_70 G K ad sv a1 Post C z1 I5 J5 (va_up B5 11 (upd (B5 11) z1.toNatClampNeg r5)) D5 ls H locs hok (lv_sub hl [] rfl) hw
    · have hok := hok.2 hc7
      refine lv_aload_n hx hb zd_Program_takeWay_54 rfl (lv_at hl 4 rfl) ?_
      refine z_get (v := .ref (ad 35)) hx hb hts hown hK hw zZ10 6 wX_g6 3 (by decide) zn_399 rfl zd_Program_takeWay_55 ?_
      refine lv_iload hx hb zd_Program_takeWay_58 (lv_at hl 1 rfl) ?_
      refine va_iald (f := (B5 21)) hx hb hK hw.1 35 0 wX_a35 rfl hok.1 zd_Program_takeWay_60 ?_
      have hok := hok.2
      refine lv_topi (fun z8 ez8 => ?_)
      have hok := hok z8 ez8
      refine lv_iload hx hb zd_Program_takeWay_61 (lv_at hl 0 rfl) ?_
      refine lv_icmp_ne (tgt := 70) hx hb zd_Program_takeWay_63 (by decide) (fun hc9 => ?_) (fun hc9 => ?_)
      · have hok := hok.1 hc9
        exact wJ_Program_takeWay_ad6_70 G K ad sv a1 Post C z1 I5 J5 (va_up B5 11 (upd (B5 11) z1.toNatClampNeg r5)) D5 ls H locs hok (lv_sub hl [] rfl) hw
      · have hok := hok.2 hc9
        refine lv_iconst (v := 1) hx hb zd_Program_takeWay_66 (by decide) ?_
        refine lv_goto (tgt := 71) hx hb zd_Program_takeWay_67 (by decide) ?_
        exact wJ_Program_takeWay_ad6_71 G K ad sv a1 Post C 1 z1 I5 J5 (va_up B5 11 (upd (B5 11) z1.toNatClampNeg r5)) D5 ls H locs hok (lv_sub hl [] rfl) hw
def wc_Program_takePlaces_ad6_93 (a1 : Int32) (Post : (Nat → Int32) → (Nat → Int64) → (Nat → Nat → Int32) → (Nat → Nat → Int64) → Prop)  (I : Nat → Int32) (J : Nat → Int64) (B : Nat → Nat → Int32) (D : Nat → Nat → Int64) : Prop :=
  Post I J B D
def wc_Program_takePlaces_ad6_85 (a1 : Int32) (K15 : Int64 → Int32 → Int32 → (Nat → Int32) → (Nat → Int64) → (Nat → Nat → Int32) → (Nat → Nat → Int64) → Prop) (Post : (Nat → Int32) → (Nat → Int64) → (Nat → Nat → Int32) → (Nat → Nat → Int64) → Prop) (x3 : Int64) (x6 : Int32) (y0 : Int32) (I : Nat → Int32) (J : Nat → Int64) (B : Nat → Nat → Int32) (D : Nat → Nat → Int64) : Prop :=
  ∀ z1 : Int32, z1 = (x6 + 1) → K15 x3 y0 z1 I J B D
def wc_Program_takePlaces_ad6_64 (a1 : Int32) (K15 : Int64 → Int32 → Int32 → (Nat → Int32) → (Nat → Int64) → (Nat → Nat → Int32) → (Nat → Nat → Int64) → Prop) (Post : (Nat → Int32) → (Nat → Int64) → (Nat → Nat → Int32) → (Nat → Nat → Int64) → Prop) (x3 : Int64) (x5 : Int32) (x6 : Int32) (I : Nat → Int32) (J : Nat → Int64) (B : Nat → Nat → Int32) (D : Nat → Nat → Int64) : Prop :=
  vp_in x5 240 ∧ ∀ z2 : Int32, z2 = ((B 22) x5.toNatClampNeg) → ((z2 = 0 → wc_Program_takePlaces_ad6_85 a1 K15 Post x3 x6 (-1) I J B D) ∧ (¬ z2 = 0 → vp_in x5 240 ∧ ∀ z4 : Int32, z4 = ((B 19) x5.toNatClampNeg) → wc_Program_takePlaces_ad6_85 a1 K15 Post x3 x6 z4 I J B D))
def wb_Program_takePlaces_ad6_15 (a1 : Int32) (K15 : Int64 → Int32 → Int32 → (Nat → Int32) → (Nat → Int64) → (Nat → Nat → Int32) → (Nat → Nat → Int64) → Prop) (Post : (Nat → Int32) → (Nat → Int64) → (Nat → Nat → Int32) → (Nat → Nat → Int64) → Prop) (x3 : Int64) (x5 : Int32) (x6 : Int32) (I : Nat → Int32) (J : Nat → Int64) (B : Nat → Nat → Int32) (D : Nat → Nat → Int64) : Prop :=
  (((240 : Int32) ≤ x6 → wc_Program_takePlaces_ad6_93 a1 Post I J B D) ∧ (¬ (240 : Int32) ≤ x6 → ((x5 = (-1) → wc_Program_takePlaces_ad6_93 a1 Post I J B D) ∧ (¬ x5 = (-1) → vp_in x5 240 ∧ ∀ z7 : Int32, z7 = ((B 25) x5.toNatClampNeg) → ((z7 = (-1) → wc_Program_takePlaces_ad6_64 a1 K15 Post x3 x5 x6 I J B D) ∧ (¬ z7 = (-1) → ∀ z9 : Int32, z9 = ((I 10) * 31) → vp_in x5 240 ∧ ∀ z10 : Int32, z10 = ((B 25) x5.toNatClampNeg) → ∀ z11 : Int32, z11 = (z9 + z10) → vp_in z11 124 ∧ ∀ z12 : Int64, z12 = ((D 1) z11.toNatClampNeg) → ∀ z13 : Int64, z13 = (z12 ||| x3) → vp_in z11 124 ∧ wc_Program_takePlaces_ad6_64 a1 K15 Post x3 x5 x6 I J B (va_up D 1 (vp_updL (D 1) z11.toNatClampNeg z13))))))))
def wl_Program_takePlaces_ad6_15 (a1 : Int32) (Post : (Nat → Int32) → (Nat → Int64) → (Nat → Nat → Int32) → (Nat → Nat → Int64) → Prop) (n : Nat) : Int64 → Int32 → Int32 → (Nat → Int32) → (Nat → Int64) → (Nat → Nat → Int32) → (Nat → Nat → Int64) → Prop := Nat.rec (fun _ _ _ _ _ _ _ => False) (fun _ r => wb_Program_takePlaces_ad6_15 a1 r Post) n
def wp_Program_takePlaces_ad6 (I : Nat → Int32) (J : Nat → Int64) (B : Nat → Nat → Int32) (D : Nat → Nat → Int64) (a1 : Int32) (Post : (Nat → Int32) → (Nat → Int64) → (Nat → Nat → Int32) → (Nat → Nat → Int64) → Prop) : Prop :=
  vp_in a1 240 ∧ ∀ z14 : Int32, z14 = ((B 26) a1.toNatClampNeg) → ∀ z15 : Int64, z15 = ((1 : Int64) <<< (z14.toInt64 &&& 63)) → ∃ n : Nat, wl_Program_takePlaces_ad6_15 a1 Post n z15 a1 0 I J B D
set_option maxHeartbeats 8000000 in
set_option maxRecDepth 100000 in
theorem wJ_Program_takePlaces_ad6_93 {p : Program} {l : Launch} {e : Env} {s : State} {m : MethodId} {below : List Frame} {meth : Method} {c : Code} {A : Nat → Prop} (G : va_G) (K : Nat → ClassId) (ad : Nat → Nat) (sv : Value) (a1 : Int32) (Post : (Nat → Int32) → (Nat → Int64) → (Nat → Nat → Int32) → (Nat → Nat → Int64) → Prop) (C : zCx p s m ([.ref (ad 3), .ref (ad 6), .int a1] : List Value).toArray meth c A G K prog_7_method_7_code none 7 "LassoFinder$Program") : ∀  (I : Nat → Int32) (J : Nat → Int64) (B : Nat → Nat → Int32) (D : Nat → Nat → Int64) (ls : Array Slot) (H : Heap) (locs : List Loc), wc_Program_takePlaces_ad6_93 a1 Post  I J B D → lv_has ls 7 [] → zW G A s.heap (wX ad K sv I J B D) H locs → W p l e { frames := 0, cells := 0, slots := 0, locals := 0 } s m ([.ref (ad 3), .ref (ad 6), .int a1] : List Value).toArray below meth c H locs 0 0 (MQ below (va_Qv (fun u : zS => Post u.1 u.2.1 u.2.2.1 u.2.2.2) (fun u t => zPost G K A (wX ad K sv u.1 u.2.1 u.2.2.1 u.2.2.2) t) A) ([.ref (ad 3), .ref (ad 6), .int a1] : List Value).toArray s 0 0 A) (F0 m 93 ls []) := by
  obtain ⟨hx, hb, hr, hml, hts, hown, hlocks, hA, hK⟩ := id C
  intro  I J B D ls H locs hok hl hw
  unfold wc_Program_takePlaces_ad6_93 at hok
  exact (z_vret (u := (I, J, B, D)) hx hb hr hlocks hw (List.range 65) wX_all wX_nd hok (Nat.le_of_ble_eq_true rfl) (Nat.le_of_ble_eq_true rfl) zd_Program_takePlaces_93)
set_option maxHeartbeats 8000000 in
set_option maxRecDepth 100000 in
theorem wJ_Program_takePlaces_ad6_85 {p : Program} {l : Launch} {e : Env} {s : State} {m : MethodId} {below : List Frame} {meth : Method} {c : Code} {A : Nat → Prop} (G : va_G) (K : Nat → ClassId) (ad : Nat → Nat) (sv : Value) (a1 : Int32) (Post : (Nat → Int32) → (Nat → Int64) → (Nat → Nat → Int32) → (Nat → Nat → Int64) → Prop) (C : zCx p s m ([.ref (ad 3), .ref (ad 6), .int a1] : List Value).toArray meth c A G K prog_7_method_7_code none 7 "LassoFinder$Program") (K15 : Int64 → Int32 → Int32 → (Nat → Int32) → (Nat → Int64) → (Nat → Nat → Int32) → (Nat → Nat → Int64) → Prop) (kh15 : ∀ (x3 : Int64) (x5 : Int32) (x6 : Int32) (I : Nat → Int32) (J : Nat → Int64) (B : Nat → Nat → Int32) (D : Nat → Nat → Int64) (ls : Array Slot) (H : Heap) (locs : List Loc), K15 x3 x5 x6 I J B D → lv_has ls 7 [(0, .ref (ad 3)), (1, .ref (ad 6)), (3, .long x3), (5, .int x5), (6, .int x6)] → zW G A s.heap (wX ad K sv I J B D) H locs → W p l e { frames := 0, cells := 0, slots := 0, locals := 0 } s m ([.ref (ad 3), .ref (ad 6), .int a1] : List Value).toArray below meth c H locs 0 0 (MQ below (va_Qv (fun u : zS => Post u.1 u.2.1 u.2.2.1 u.2.2.2) (fun u t => zPost G K A (wX ad K sv u.1 u.2.1 u.2.2.1 u.2.2.2) t) A) ([.ref (ad 3), .ref (ad 6), .int a1] : List Value).toArray s 0 0 A) (F0 m 15 ls [])) : ∀ (x3 : Int64) (x6 : Int32) (y0 : Int32) (I : Nat → Int32) (J : Nat → Int64) (B : Nat → Nat → Int32) (D : Nat → Nat → Int64) (ls : Array Slot) (H : Heap) (locs : List Loc), wc_Program_takePlaces_ad6_85 a1 K15 Post x3 x6 y0 I J B D → lv_has ls 7 [(0, .ref (ad 3)), (1, .ref (ad 6)), (3, .long x3), (6, .int x6)] → zW G A s.heap (wX ad K sv I J B D) H locs → W p l e { frames := 0, cells := 0, slots := 0, locals := 0 } s m ([.ref (ad 3), .ref (ad 6), .int a1] : List Value).toArray below meth c H locs 0 0 (MQ below (va_Qv (fun u : zS => Post u.1 u.2.1 u.2.2.1 u.2.2.2) (fun u t => zPost G K A (wX ad K sv u.1 u.2.1 u.2.2.1 u.2.2.2) t) A) ([.ref (ad 3), .ref (ad 6), .int a1] : List Value).toArray s 0 0 A) (F0 m 85 ls [.int y0]) := by
  obtain ⟨hx, hb, hr, hml, hts, hown, hlocks, hA, hK⟩ := id C
  intro x3 x6 y0 I J B D ls H locs hok hl hw
  unfold wc_Program_takePlaces_ad6_85 at hok
  refine lv_istore hx hb zd_Program_takePlaces_85 hl (by decide) rfl (fun ls hl => ?_)
  have hl : lv_has ls 7 [(5, .int y0), (0, .ref (ad 3)), (1, .ref (ad 6)), (3, .long x3), (6, .int x6)] := hl
  obtain ⟨z1, ez1⟩ : ∃ z : Int32, z = (x6 + 1) := ⟨_, rfl⟩
  have hok := hok z1 ez1
  refine lv_iinc (v := z1) hx hb zd_Program_takePlaces_87 hl (k := 4) rfl ez1.symm (by decide) rfl (fun ls hl => ?_)
  have hl : lv_has ls 7 [(6, .int z1), (5, .int y0), (0, .ref (ad 3)), (1, .ref (ad 6)), (3, .long x3)] := hl
  refine lv_goto (tgt := 15) hx hb zd_Program_takePlaces_90 (by decide) ?_
  exact kh15 x3 y0 z1 I J B D ls H locs hok (lv_sub hl [2, 3, 4, 1, 0] rfl) hw
set_option maxHeartbeats 8000000 in
set_option maxRecDepth 100000 in
theorem wJ_Program_takePlaces_ad6_64 {p : Program} {l : Launch} {e : Env} {s : State} {m : MethodId} {below : List Frame} {meth : Method} {c : Code} {A : Nat → Prop} (G : va_G) (K : Nat → ClassId) (ad : Nat → Nat) (sv : Value) (a1 : Int32) (Post : (Nat → Int32) → (Nat → Int64) → (Nat → Nat → Int32) → (Nat → Nat → Int64) → Prop) (C : zCx p s m ([.ref (ad 3), .ref (ad 6), .int a1] : List Value).toArray meth c A G K prog_7_method_7_code none 7 "LassoFinder$Program") (K15 : Int64 → Int32 → Int32 → (Nat → Int32) → (Nat → Int64) → (Nat → Nat → Int32) → (Nat → Nat → Int64) → Prop) (kh15 : ∀ (x3 : Int64) (x5 : Int32) (x6 : Int32) (I : Nat → Int32) (J : Nat → Int64) (B : Nat → Nat → Int32) (D : Nat → Nat → Int64) (ls : Array Slot) (H : Heap) (locs : List Loc), K15 x3 x5 x6 I J B D → lv_has ls 7 [(0, .ref (ad 3)), (1, .ref (ad 6)), (3, .long x3), (5, .int x5), (6, .int x6)] → zW G A s.heap (wX ad K sv I J B D) H locs → W p l e { frames := 0, cells := 0, slots := 0, locals := 0 } s m ([.ref (ad 3), .ref (ad 6), .int a1] : List Value).toArray below meth c H locs 0 0 (MQ below (va_Qv (fun u : zS => Post u.1 u.2.1 u.2.2.1 u.2.2.2) (fun u t => zPost G K A (wX ad K sv u.1 u.2.1 u.2.2.1 u.2.2.2) t) A) ([.ref (ad 3), .ref (ad 6), .int a1] : List Value).toArray s 0 0 A) (F0 m 15 ls [])) : ∀ (x3 : Int64) (x5 : Int32) (x6 : Int32) (I : Nat → Int32) (J : Nat → Int64) (B : Nat → Nat → Int32) (D : Nat → Nat → Int64) (ls : Array Slot) (H : Heap) (locs : List Loc), wc_Program_takePlaces_ad6_64 a1 K15 Post x3 x5 x6 I J B D → lv_has ls 7 [(0, .ref (ad 3)), (1, .ref (ad 6)), (3, .long x3), (5, .int x5), (6, .int x6)] → zW G A s.heap (wX ad K sv I J B D) H locs → W p l e { frames := 0, cells := 0, slots := 0, locals := 0 } s m ([.ref (ad 3), .ref (ad 6), .int a1] : List Value).toArray below meth c H locs 0 0 (MQ below (va_Qv (fun u : zS => Post u.1 u.2.1 u.2.2.1 u.2.2.2) (fun u t => zPost G K A (wX ad K sv u.1 u.2.1 u.2.2.1 u.2.2.2) t) A) ([.ref (ad 3), .ref (ad 6), .int a1] : List Value).toArray s 0 0 A) (F0 m 64 ls []) := by
  obtain ⟨hx, hb, hr, hml, hts, hown, hlocks, hA, hK⟩ := id C
  intro x3 x5 x6 I J B D ls H locs hok hl hw
  unfold wc_Program_takePlaces_ad6_64 at hok
  refine lv_aload_n hx hb zd_Program_takePlaces_64 rfl (lv_at hl 1 rfl) ?_
  refine z_get (v := .ref (ad 36)) hx hb hts hown hK hw zZ10 6 wX_g6 4 (by decide) zn_401 rfl zd_Program_takePlaces_65 ?_
  refine lv_iload hx hb zd_Program_takePlaces_68 (lv_at hl 3 rfl) ?_
  refine va_zald (f := (B 22)) hx hb hK hw.1 36 2 wX_a36 rfl hok.1 zd_Program_takePlaces_70 ?_
  have hok := hok.2
  refine lv_topi (fun z2 ez2 => ?_)
  have hok := hok z2 ez2
  refine lv_if_eq (tgt := 84) hx hb zd_Program_takePlaces_71 (by decide) (fun hc3 => ?_) (fun hc3 => ?_)
  · have hok := hok.1 hc3
    refine lv_iconst (v := (-1)) hx hb zd_Program_takePlaces_84 (by decide) ?_
    exact wJ_Program_takePlaces_ad6_85 G K ad sv a1 Post C K15 kh15 x3 x6 (-1) I J B D ls H locs hok (lv_sub hl [0, 1, 2, 4] rfl) hw
  · have hok := hok.2 hc3
    refine lv_aload_n hx hb zd_Program_takePlaces_74 rfl (lv_at hl 1 rfl) ?_
    refine z_get (v := .ref (ad 33)) hx hb hts hown hK hw zZ10 6 wX_g6 1 (by decide) zn_402 rfl zd_Program_takePlaces_75 ?_
    refine lv_iload hx hb zd_Program_takePlaces_78 (lv_at hl 3 rfl) ?_
    refine va_iald (f := (B 19)) hx hb hK hw.1 33 0 wX_a33 rfl hok.1 zd_Program_takePlaces_80 ?_
    have hok := hok.2
    refine lv_topi (fun z4 ez4 => ?_)
    have hok := hok z4 ez4
    refine lv_goto (tgt := 85) hx hb zd_Program_takePlaces_81 (by decide) ?_
    exact wJ_Program_takePlaces_ad6_85 G K ad sv a1 Post C K15 kh15 x3 x6 z4 I J B D ls H locs hok (lv_sub hl [0, 1, 2, 4] rfl) hw
set_option maxHeartbeats 8000000 in
set_option maxRecDepth 100000 in
theorem wB_Program_takePlaces_ad6_15 {p : Program} {l : Launch} {e : Env} {s : State} {m : MethodId} {below : List Frame} {meth : Method} {c : Code} {A : Nat → Prop} (G : va_G) (K : Nat → ClassId) (ad : Nat → Nat) (sv : Value) (a1 : Int32) (Post : (Nat → Int32) → (Nat → Int64) → (Nat → Nat → Int32) → (Nat → Nat → Int64) → Prop) (C : zCx p s m ([.ref (ad 3), .ref (ad 6), .int a1] : List Value).toArray meth c A G K prog_7_method_7_code none 7 "LassoFinder$Program") (K15 : Int64 → Int32 → Int32 → (Nat → Int32) → (Nat → Int64) → (Nat → Nat → Int32) → (Nat → Nat → Int64) → Prop) (kh15 : ∀ (x3 : Int64) (x5 : Int32) (x6 : Int32) (I : Nat → Int32) (J : Nat → Int64) (B : Nat → Nat → Int32) (D : Nat → Nat → Int64) (ls : Array Slot) (H : Heap) (locs : List Loc), K15 x3 x5 x6 I J B D → lv_has ls 7 [(0, .ref (ad 3)), (1, .ref (ad 6)), (3, .long x3), (5, .int x5), (6, .int x6)] → zW G A s.heap (wX ad K sv I J B D) H locs → W p l e { frames := 0, cells := 0, slots := 0, locals := 0 } s m ([.ref (ad 3), .ref (ad 6), .int a1] : List Value).toArray below meth c H locs 0 0 (MQ below (va_Qv (fun u : zS => Post u.1 u.2.1 u.2.2.1 u.2.2.2) (fun u t => zPost G K A (wX ad K sv u.1 u.2.1 u.2.2.1 u.2.2.2) t) A) ([.ref (ad 3), .ref (ad 6), .int a1] : List Value).toArray s 0 0 A) (F0 m 15 ls [])) : ∀ (x3 : Int64) (x5 : Int32) (x6 : Int32) (I : Nat → Int32) (J : Nat → Int64) (B : Nat → Nat → Int32) (D : Nat → Nat → Int64) (ls : Array Slot) (H : Heap) (locs : List Loc), wb_Program_takePlaces_ad6_15 a1 K15 Post x3 x5 x6 I J B D → lv_has ls 7 [(0, .ref (ad 3)), (1, .ref (ad 6)), (3, .long x3), (5, .int x5), (6, .int x6)] → zW G A s.heap (wX ad K sv I J B D) H locs → W p l e { frames := 0, cells := 0, slots := 0, locals := 0 } s m ([.ref (ad 3), .ref (ad 6), .int a1] : List Value).toArray below meth c H locs 0 0 (MQ below (va_Qv (fun u : zS => Post u.1 u.2.1 u.2.2.1 u.2.2.2) (fun u t => zPost G K A (wX ad K sv u.1 u.2.1 u.2.2.1 u.2.2.2) t) A) ([.ref (ad 3), .ref (ad 6), .int a1] : List Value).toArray s 0 0 A) (F0 m 15 ls []) := by
  obtain ⟨hx, hb, hr, hml, hts, hown, hlocks, hA, hK⟩ := id C
  intro x3 x5 x6 I J B D ls H locs hok hl hw
  unfold wb_Program_takePlaces_ad6_15 at hok
  refine lv_iload hx hb zd_Program_takePlaces_15 (lv_at hl 4 rfl) ?_
  refine lv_sipush (v := 240) hx hb zd_Program_takePlaces_17 (by decide) ?_
  refine lv_icmp_ge (tgt := 93) hx hb zd_Program_takePlaces_20 (by decide) (fun hc5 => ?_) (fun hc5 => ?_)
  · have hok := hok.1 hc5
    exact wJ_Program_takePlaces_ad6_93 G K ad sv a1 Post C I J B D ls H locs hok (lv_sub hl [] rfl) hw
  · have hok := hok.2 hc5
    refine lv_iload hx hb zd_Program_takePlaces_23 (lv_at hl 3 rfl) ?_
    refine lv_iconst (v := (-1)) hx hb zd_Program_takePlaces_25 (by decide) ?_
    refine lv_icmp_eq (tgt := 93) hx hb zd_Program_takePlaces_26 (by decide) (fun hc6 => ?_) (fun hc6 => ?_)
    · have hok := hok.1 hc6
      exact wJ_Program_takePlaces_ad6_93 G K ad sv a1 Post C I J B D ls H locs hok (lv_sub hl [] rfl) hw
    · have hok := hok.2 hc6
      refine lv_aload_n hx hb zd_Program_takePlaces_29 rfl (lv_at hl 1 rfl) ?_
      refine z_get (v := .ref (ad 39)) hx hb hts hown hK hw zZ10 6 wX_g6 7 (by decide) zn_400 rfl zd_Program_takePlaces_30 ?_
      refine lv_iload hx hb zd_Program_takePlaces_33 (lv_at hl 3 rfl) ?_
      refine va_iald (f := (B 25)) hx hb hK hw.1 39 0 wX_a39 rfl hok.1 zd_Program_takePlaces_35 ?_
      have hok := hok.2
      refine lv_topi (fun z7 ez7 => ?_)
      have hok := hok z7 ez7
      refine lv_iconst (v := (-1)) hx hb zd_Program_takePlaces_36 (by decide) ?_
      refine lv_icmp_eq (tgt := 64) hx hb zd_Program_takePlaces_37 (by decide) (fun hc8 => ?_) (fun hc8 => ?_)
      · have hok := hok.1 hc8
        exact wJ_Program_takePlaces_ad6_64 G K ad sv a1 Post C K15 kh15 x3 x5 x6 I J B D ls H locs hok (lv_sub hl [0, 1, 2, 3, 4] rfl) hw
      · have hok := hok.2 hc8
        refine lv_aload_n hx hb zd_Program_takePlaces_40 rfl (lv_at hl 0 rfl) ?_
        refine z_get (v := .ref (ad 28)) hx hb hts hown hK hw zZ6 3 wX_g3 10 (by decide) zn_251 rfl zd_Program_takePlaces_41 ?_
        refine lv_aload_n hx hb zd_Program_takePlaces_44 rfl (lv_at hl 0 rfl) ?_
        refine z_get (v := .int (I 10)) hx hb hts hown hK hw zZ6 3 wX_g3 13 (by decide) zn_387 rfl zd_Program_takePlaces_45 ?_
        refine lv_bipush (v := 31) hx hb zd_Program_takePlaces_48 (by decide) ?_
        refine lv_imul hx hb zd_Program_takePlaces_50 ?_
        refine lv_topi (fun z9 ez9 => ?_)
        have hok := hok z9 ez9
        refine lv_aload_n hx hb zd_Program_takePlaces_51 rfl (lv_at hl 1 rfl) ?_
        refine z_get (v := .ref (ad 39)) hx hb hts hown hK hw zZ10 6 wX_g6 7 (by decide) zn_400 rfl zd_Program_takePlaces_52 ?_
        refine lv_iload hx hb zd_Program_takePlaces_55 (lv_at hl 3 rfl) ?_
        refine va_iald (f := (B 25)) hx hb hK hw.1 39 0 wX_a39 rfl hok.1 zd_Program_takePlaces_57 ?_
        have hok := hok.2
        refine lv_topi (fun z10 ez10 => ?_)
        have hok := hok z10 ez10
        refine lv_iadd hx hb zd_Program_takePlaces_58 ?_
        refine lv_topi (fun z11 ez11 => ?_)
        have hok := hok z11 ez11
        refine lv_dup2_11 hx hb zd_Program_takePlaces_59 rfl rfl ?_
        refine va_lald (f := (D 1)) hx hb hK hw.1 28 1 wX_a28 rfl hok.1 zd_Program_takePlaces_60 ?_
        have hok := hok.2
        refine lv_topl (fun z12 ez12 => ?_)
        have hok := hok z12 ez12
        refine lv_lload_n hx hb zd_Program_takePlaces_61 rfl (lv_at hl 2 rfl) ?_
        refine lv_lor hx hb zd_Program_takePlaces_62 ?_
        refine lv_topl (fun z13 ez13 => ?_)
        have hok := hok z13 ez13
        refine va_last (f := (D 1)) hx hb hK hw.1 hw.2.1 hw.2.2 28 1 wX_a28 rfl hok.1 zd_Program_takePlaces_63 (fun H locs w91 w92 w93 => ?_)
        have hok := hok.2
        have hw := wX_t28 ⟨w91, w92, w93⟩
        exact wJ_Program_takePlaces_ad6_64 G K ad sv a1 Post C K15 kh15 x3 x5 x6 I J B (va_up D 1 (vp_updL (D 1) z11.toNatClampNeg z13)) ls H locs hok (lv_sub hl [0, 1, 2, 3, 4] rfl) hw
theorem wL_Program_takePlaces_ad6_15 {p : Program} {l : Launch} {e : Env} {s : State} {m : MethodId} {below : List Frame} {meth : Method} {c : Code} {A : Nat → Prop} (G : va_G) (K : Nat → ClassId) (ad : Nat → Nat) (sv : Value) (a1 : Int32) (Post : (Nat → Int32) → (Nat → Int64) → (Nat → Nat → Int32) → (Nat → Nat → Int64) → Prop) (C : zCx p s m ([.ref (ad 3), .ref (ad 6), .int a1] : List Value).toArray meth c A G K prog_7_method_7_code none 7 "LassoFinder$Program") : ∀ (n : Nat) (x3 : Int64) (x5 : Int32) (x6 : Int32) (I : Nat → Int32) (J : Nat → Int64) (B : Nat → Nat → Int32) (D : Nat → Nat → Int64) (ls : Array Slot) (H : Heap) (locs : List Loc), wl_Program_takePlaces_ad6_15 a1 Post n x3 x5 x6 I J B D → lv_has ls 7 [(0, .ref (ad 3)), (1, .ref (ad 6)), (3, .long x3), (5, .int x5), (6, .int x6)] → zW G A s.heap (wX ad K sv I J B D) H locs → W p l e { frames := 0, cells := 0, slots := 0, locals := 0 } s m ([.ref (ad 3), .ref (ad 6), .int a1] : List Value).toArray below meth c H locs 0 0 (MQ below (va_Qv (fun u : zS => Post u.1 u.2.1 u.2.2.1 u.2.2.2) (fun u t => zPost G K A (wX ad K sv u.1 u.2.1 u.2.2.1 u.2.2.2) t) A) ([.ref (ad 3), .ref (ad 6), .int a1] : List Value).toArray s 0 0 A) (F0 m 15 ls []) := by
  intro n
  induction n with
  | zero => intro x3 x5 x6 I J B D ls H locs hok; exact hok.elim
  | succ n ih => exact wB_Program_takePlaces_ad6_15 G K ad sv a1 Post C (wl_Program_takePlaces_ad6_15 a1 Post n) ih
set_option maxHeartbeats 8000000 in
set_option maxRecDepth 100000 in
theorem w_Program_takePlaces_ad6 (l : Launch) (G : va_G) (K : Nat → ClassId) (ad : Nat → Nat) (sv : Value) (I : Nat → Int32) (J : Nat → Int64) (B : Nat → Nat → Int32) (D : Nat → Nat → Int64) (a1 : Int32) (Post : (Nat → Int32) → (Nat → Int64) → (Nat → Nat → Int32) → (Nat → Nat → Int64) → Prop) (sz : Nat) (hok : wp_Program_takePlaces_ad6 I J B D a1 Post) : Met l zy_Program_takePlaces (Cond.code zy_Program_takePlaces prog_7_method_7_code 7 none :: zTB) { frames := 0, cells := 0, slots := 0, locals := 0 } (va_Pc [.ref (ad 3), .ref (ad 6), .int a1] (zPre G K (wX ad K sv I J B D) sz)) (va_Qv (fun u : zS => Post u.1 u.2.1 u.2.2.1 u.2.2.2) (fun u t => zPost G K (va_A (wX ad K sv I J B D) sz) (wX ad K sv u.1 u.2.1 u.2.2.1 u.2.2.2) t) (va_A (wX ad K sv I J B D) sz)) 0 0 (va_A (wX ad K sv I J B D) sz) := by
  refine zMet (y := zy_Program_takePlaces) (av := [.ref (ad 3), .ref (ad 6), .int a1]) (maxL := 7) (cc := prog_7_method_7_code) (ret := none) (W0 := (wX ad K sv I J B D)) (sz := sz) (G := G) (K := K) (wt := zTB) (mc := 0) (ms := 0) (Qf := fun A => va_Qv (fun u : zS => Post u.1 u.2.1 u.2.2.1 u.2.2.2) (fun u t => zPost G K A (wX ad K sv u.1 u.2.1 u.2.2.1 u.2.2.2) t) A) (by decide) (Nat.le_of_ble_eq_true rfl) ?_
  intro p e s m below meth c ls A hx hb hr hml hts hown hlocks hin hA hK H locs hw hsz hl
  clear hsz
  have hown : s.vm.findClass "LassoFinder$Program" = some m.cls := hown
  have C : zCx p s m ([.ref (ad 3), .ref (ad 6), .int a1] : List Value).toArray meth c A G K prog_7_method_7_code none 7 "LassoFinder$Program" := ⟨hx, hb, hr, hml, hts, hown, hlocks, hA, hK⟩
  have hl : lv_has ls 7 [(0, .ref (ad 3)), (1, .ref (ad 6)), (2, .int a1)] := hl
  have hw : zW G A s.heap (wX ad K sv I J B D) H locs := hw
  unfold wp_Program_takePlaces_ad6 at hok
  refine lv_lconst (v := 1) hx hb zd_Program_takePlaces_0 (by decide) ?_
  refine lv_aload_n hx hb zd_Program_takePlaces_1 rfl (lv_at hl 1 rfl) ?_
  refine z_get (v := .ref (ad 40)) hx hb hts hown hK hw zZ10 6 wX_g6 8 (by decide) zn_398 rfl zd_Program_takePlaces_2 ?_
  refine lv_iload_n hx hb zd_Program_takePlaces_5 rfl (lv_at hl 2 rfl) ?_
  refine va_iald (f := (B 26)) hx hb hK hw.1 40 0 wX_a40 rfl hok.1 zd_Program_takePlaces_6 ?_
  have hok := hok.2
  refine lv_topi (fun z14 ez14 => ?_)
  have hok := hok z14 ez14
  refine lv_lshl hx hb zd_Program_takePlaces_7 rfl ?_
  refine lv_topl (fun z15 ez15 => ?_)
  have hok := hok z15 ez15
  refine lv_lstore_n hx hb zd_Program_takePlaces_8 rfl hl (by decide) rfl (fun ls hl => ?_)
  have hl : lv_has ls 7 [(3, .long z15), (0, .ref (ad 3)), (1, .ref (ad 6)), (2, .int a1)] := hl
  refine lv_iload_n hx hb zd_Program_takePlaces_9 rfl (lv_at hl 3 rfl) ?_
  refine lv_istore hx hb zd_Program_takePlaces_10 hl (by decide) rfl (fun ls hl => ?_)
  have hl : lv_has ls 7 [(5, .int a1), (3, .long z15), (0, .ref (ad 3)), (1, .ref (ad 6)), (2, .int a1)] := hl
  refine lv_iconst (v := 0) hx hb zd_Program_takePlaces_12 (by decide) ?_
  refine lv_istore hx hb zd_Program_takePlaces_13 hl (by decide) rfl (fun ls hl => ?_)
  have hl : lv_has ls 7 [(6, .int 0), (5, .int a1), (3, .long z15), (0, .ref (ad 3)), (1, .ref (ad 6)), (2, .int a1)] := hl
  obtain ⟨n9, hok⟩ := hok
  exact wL_Program_takePlaces_ad6_15 G K ad sv a1 Post C n9 z15 a1 0 I J B D ls H locs hok (lv_sub hl [3, 4, 2, 1, 0] rfl) hw
def wc_Program_takeProcess_ad6_81 (K39 : Int32 → (Nat → Int32) → (Nat → Int64) → (Nat → Nat → Int32) → (Nat → Nat → Int64) → Prop) (Post : (Nat → Int32) → (Nat → Int64) → (Nat → Nat → Int32) → (Nat → Nat → Int64) → Prop) (x2 : Int32) (I : Nat → Int32) (J : Nat → Int64) (B : Nat → Nat → Int32) (D : Nat → Nat → Int64) : Prop :=
  ∀ z1 : Int32, z1 = (x2 + 1) → K39 z1 I J B D
def wb_Program_takeProcess_ad6_39 (K39 : Int32 → (Nat → Int32) → (Nat → Int64) → (Nat → Nat → Int32) → (Nat → Nat → Int64) → Prop) (Post : (Nat → Int32) → (Nat → Int64) → (Nat → Nat → Int32) → (Nat → Nat → Int64) → Prop) (x2 : Int32) (I : Nat → Int32) (J : Nat → Int64) (B : Nat → Nat → Int32) (D : Nat → Nat → Int64) : Prop :=
  (((8 : Int32) ≤ x2 → wp_Tree_settled I J B D 0 (fun r3 I3 J3 B3 D3 => wp_Tree_pointAt I3 J3 B3 D3 r3 (fun r4 I4 J4 B4 D4 => vp_in (I 10) 4 ∧ ∀ z5 : Int32, z5 = ((I4 10) + 1) → Post (upd I4 10 z5) J4 (va_up B4 13 (upd (B4 13) (I 10).toNatClampNeg r4)) D4))) ∧ (¬ (8 : Int32) ≤ x2 → vp_in x2 8 ∧ ∀ z6 : Int32, z6 = ((B 28) x2.toNatClampNeg) → ((z6 = (-3) → wc_Program_takeProcess_ad6_81  K39 Post x2 I J B D) ∧ (¬ z6 = (-3) → ∀ z8 : Int32, z8 = ((I 10) * 8) → ∀ z9 : Int32, z9 = (z8 + x2) → wp_Tree_settled I J B D z6 (fun r10 I10 J10 B10 D10 => wp_Tree_pointAt I10 J10 B10 D10 r10 (fun r11 I11 J11 B11 D11 => vp_in z9 32 ∧ wc_Program_takeProcess_ad6_81  K39 Post x2 I11 J11 (va_up B11 14 (upd (B11 14) z9.toNatClampNeg r11)) D11))))))
def wl_Program_takeProcess_ad6_39 (Post : (Nat → Int32) → (Nat → Int64) → (Nat → Nat → Int32) → (Nat → Nat → Int64) → Prop) (n : Nat) : Int32 → (Nat → Int32) → (Nat → Int64) → (Nat → Nat → Int32) → (Nat → Nat → Int64) → Prop := Nat.rec (fun _ _ _ _ _ => False) (fun _ r => wb_Program_takeProcess_ad6_39  r Post) n
def wc_Program_takeProcess_ad6_31 (K2 : Int32 → (Nat → Int32) → (Nat → Int64) → (Nat → Nat → Int32) → (Nat → Nat → Int64) → Prop) (Post : (Nat → Int32) → (Nat → Int64) → (Nat → Nat → Int32) → (Nat → Nat → Int64) → Prop) (x2 : Int32) (I : Nat → Int32) (J : Nat → Int64) (B : Nat → Nat → Int32) (D : Nat → Nat → Int64) : Prop :=
  ∀ z12 : Int32, z12 = (x2 + 1) → K2 z12 I J B D
def wb_Program_takeProcess_ad6_2 (K2 : Int32 → (Nat → Int32) → (Nat → Int64) → (Nat → Nat → Int32) → (Nat → Nat → Int64) → Prop) (Post : (Nat → Int32) → (Nat → Int64) → (Nat → Nat → Int32) → (Nat → Nat → Int64) → Prop) (x2 : Int32) (I : Nat → Int32) (J : Nat → Int64) (B : Nat → Nat → Int32) (D : Nat → Nat → Int64) : Prop :=
  (((I 16) ≤ x2 → ∃ n : Nat, wl_Program_takeProcess_ad6_39  Post n 0 I J B D) ∧ (¬ (I 16) ≤ x2 → vp_in x2 240 ∧ ∀ z14 : Int32, z14 = ((B 18) x2.toNatClampNeg) → ((¬ z14 = 0 → wc_Program_takeProcess_ad6_31  K2 Post x2 I J B D) ∧ (z14 = 0 → wp_Program_takeWay_ad6 I J B D x2 (fun I16 J16 B16 D16 => wp_Program_takePlaces_ad6 I16 J16 B16 D16 x2 (fun I17 J17 B17 D17 => wc_Program_takeProcess_ad6_31  K2 Post x2 I17 J17 B17 D17))))))
def wl_Program_takeProcess_ad6_2 (Post : (Nat → Int32) → (Nat → Int64) → (Nat → Nat → Int32) → (Nat → Nat → Int64) → Prop) (n : Nat) : Int32 → (Nat → Int32) → (Nat → Int64) → (Nat → Nat → Int32) → (Nat → Nat → Int64) → Prop := Nat.rec (fun _ _ _ _ _ => False) (fun _ r => wb_Program_takeProcess_ad6_2  r Post) n
def wp_Program_takeProcess_ad6 (I : Nat → Int32) (J : Nat → Int64) (B : Nat → Nat → Int32) (D : Nat → Nat → Int64) (Post : (Nat → Int32) → (Nat → Int64) → (Nat → Nat → Int32) → (Nat → Nat → Int64) → Prop) : Prop :=
  ∃ n : Nat, wl_Program_takeProcess_ad6_2  Post n 0 I J B D
set_option maxHeartbeats 8000000 in
set_option maxRecDepth 100000 in
theorem wJ_Program_takeProcess_ad6_81 {p : Program} {l : Launch} {e : Env} {s : State} {m : MethodId} {below : List Frame} {meth : Method} {c : Code} {A : Nat → Prop} (G : va_G) (K : Nat → ClassId) (ad : Nat → Nat) (sv : Value) (Post : (Nat → Int32) → (Nat → Int64) → (Nat → Nat → Int32) → (Nat → Nat → Int64) → Prop) (C : zCx p s m ([.ref (ad 3), .ref (ad 6)] : List Value).toArray meth c A G K prog_7_method_5_code none 4 "LassoFinder$Program") (K39 : Int32 → (Nat → Int32) → (Nat → Int64) → (Nat → Nat → Int32) → (Nat → Nat → Int64) → Prop) (kh39 : ∀ (x2 : Int32) (I : Nat → Int32) (J : Nat → Int64) (B : Nat → Nat → Int32) (D : Nat → Nat → Int64) (ls : Array Slot) (H : Heap) (locs : List Loc), K39 x2 I J B D → lv_has ls 4 [(0, .ref (ad 3)), (1, .ref (ad 6)), (2, .int x2)] → zW G A s.heap (wX ad K sv I J B D) H locs → W p l e { frames := 3, cells := 0, slots := 0, locals := 71 } s m ([.ref (ad 3), .ref (ad 6)] : List Value).toArray below meth c H locs 0 0 (MQ below (va_Qv (fun u : zS => Post u.1 u.2.1 u.2.2.1 u.2.2.2) (fun u t => zPost G K A (wX ad K sv u.1 u.2.1 u.2.2.1 u.2.2.2) t) A) ([.ref (ad 3), .ref (ad 6)] : List Value).toArray s 0 0 A) (F0 m 39 ls [])) : ∀ (x2 : Int32) (I : Nat → Int32) (J : Nat → Int64) (B : Nat → Nat → Int32) (D : Nat → Nat → Int64) (ls : Array Slot) (H : Heap) (locs : List Loc), wc_Program_takeProcess_ad6_81  K39 Post x2 I J B D → lv_has ls 4 [(0, .ref (ad 3)), (1, .ref (ad 6)), (2, .int x2)] → zW G A s.heap (wX ad K sv I J B D) H locs → W p l e { frames := 3, cells := 0, slots := 0, locals := 71 } s m ([.ref (ad 3), .ref (ad 6)] : List Value).toArray below meth c H locs 0 0 (MQ below (va_Qv (fun u : zS => Post u.1 u.2.1 u.2.2.1 u.2.2.2) (fun u t => zPost G K A (wX ad K sv u.1 u.2.1 u.2.2.1 u.2.2.2) t) A) ([.ref (ad 3), .ref (ad 6)] : List Value).toArray s 0 0 A) (F0 m 81 ls []) := by
  obtain ⟨hx, hb, hr, hml, hts, hown, hlocks, hA, hK⟩ := id C
  intro x2 I J B D ls H locs hok hl hw
  unfold wc_Program_takeProcess_ad6_81 at hok
  obtain ⟨z1, ez1⟩ : ∃ z : Int32, z = (x2 + 1) := ⟨_, rfl⟩
  have hok := hok z1 ez1
  refine lv_iinc (v := z1) hx hb zd_Program_takeProcess_81 hl (k := 2) rfl ez1.symm (by decide) rfl (fun ls hl => ?_)
  have hl : lv_has ls 4 [(2, .int z1), (0, .ref (ad 3)), (1, .ref (ad 6))] := hl
  refine lv_goto (tgt := 39) hx hb zd_Program_takeProcess_84 (by decide) ?_
  exact kh39 z1 I J B D ls H locs hok (lv_sub hl [1, 2, 0] rfl) hw
set_option maxHeartbeats 8000000 in
set_option maxRecDepth 100000 in
theorem wB_Program_takeProcess_ad6_39 {p : Program} {l : Launch} {e : Env} {s : State} {m : MethodId} {below : List Frame} {meth : Method} {c : Code} {A : Nat → Prop} (G : va_G) (K : Nat → ClassId) (ad : Nat → Nat) (sv : Value) (Post : (Nat → Int32) → (Nat → Int64) → (Nat → Nat → Int32) → (Nat → Nat → Int64) → Prop) (C : zCx p s m ([.ref (ad 3), .ref (ad 6)] : List Value).toArray meth c A G K prog_7_method_5_code none 4 "LassoFinder$Program") (K39 : Int32 → (Nat → Int32) → (Nat → Int64) → (Nat → Nat → Int32) → (Nat → Nat → Int64) → Prop) (kh39 : ∀ (x2 : Int32) (I : Nat → Int32) (J : Nat → Int64) (B : Nat → Nat → Int32) (D : Nat → Nat → Int64) (ls : Array Slot) (H : Heap) (locs : List Loc), K39 x2 I J B D → lv_has ls 4 [(0, .ref (ad 3)), (1, .ref (ad 6)), (2, .int x2)] → zW G A s.heap (wX ad K sv I J B D) H locs → W p l e { frames := 3, cells := 0, slots := 0, locals := 71 } s m ([.ref (ad 3), .ref (ad 6)] : List Value).toArray below meth c H locs 0 0 (MQ below (va_Qv (fun u : zS => Post u.1 u.2.1 u.2.2.1 u.2.2.2) (fun u t => zPost G K A (wX ad K sv u.1 u.2.1 u.2.2.1 u.2.2.2) t) A) ([.ref (ad 3), .ref (ad 6)] : List Value).toArray s 0 0 A) (F0 m 39 ls [])) : ∀ (x2 : Int32) (I : Nat → Int32) (J : Nat → Int64) (B : Nat → Nat → Int32) (D : Nat → Nat → Int64) (ls : Array Slot) (H : Heap) (locs : List Loc), wb_Program_takeProcess_ad6_39  K39 Post x2 I J B D → lv_has ls 4 [(0, .ref (ad 3)), (1, .ref (ad 6)), (2, .int x2)] → zW G A s.heap (wX ad K sv I J B D) H locs → W p l e { frames := 3, cells := 0, slots := 0, locals := 71 } s m ([.ref (ad 3), .ref (ad 6)] : List Value).toArray below meth c H locs 0 0 (MQ below (va_Qv (fun u : zS => Post u.1 u.2.1 u.2.2.1 u.2.2.2) (fun u t => zPost G K A (wX ad K sv u.1 u.2.1 u.2.2.1 u.2.2.2) t) A) ([.ref (ad 3), .ref (ad 6)] : List Value).toArray s 0 0 A) (F0 m 39 ls []) := by
  obtain ⟨hx, hb, hr, hml, hts, hown, hlocks, hA, hK⟩ := id C
  intro x2 I J B D ls H locs hok hl hw
  unfold wb_Program_takeProcess_ad6_39 at hok
  refine lv_iload_n hx hb zd_Program_takeProcess_39 rfl (lv_at hl 2 rfl) ?_
  refine lv_bipush (v := 8) hx hb zd_Program_takeProcess_40 (by decide) ?_
  refine lv_icmp_ge (tgt := 87) hx hb zd_Program_takeProcess_42 (by decide) (fun hc2 => ?_) (fun hc2 => ?_)
  · have hok := hok.1 hc2
    refine lv_aload_n hx hb zd_Program_takeProcess_87 rfl (lv_at hl 0 rfl) ?_
    refine z_get (v := .ref (ad 26)) hx hb hts hown hK hw zZ6 3 wX_g3 8 (by decide) zn_249 rfl zd_Program_takeProcess_88 ?_
    refine lv_aload_n hx hb zd_Program_takeProcess_91 rfl (lv_at hl 0 rfl) ?_
    refine z_get (v := .int (I 10)) hx hb hts hown hK hw zZ6 3 wX_g3 13 (by decide) zn_387 rfl zd_Program_takeProcess_92 ?_
    refine lv_aload_n hx hb zd_Program_takeProcess_95 rfl (lv_at hl 1 rfl) ?_
    refine lv_aload_n hx hb zd_Program_takeProcess_96 rfl (lv_at hl 1 rfl) ?_
    refine lv_iconst (v := 0) hx hb zd_Program_takeProcess_97 (by decide) ?_
    refine z_calli (w1 := fun (u : zS) => wX ad K sv u.1 u.2.1 u.2.2.1 u.2.2.2) (wr := []) (z_runV (q0 := 6) (wc := (wX ad K sv I J B D)) (As := [.int 0]) (rest := [.ref (ad 6), .int (I 10), .ref (ad 26)]) ⟨hx, hb, hml, hown, hts⟩ (w_Tree_settled l G K ad sv I J B D 0 _ H.size hok) zf_Tree_settled zn_360 ⟨Nat.le_of_ble_eq_true rfl, Nat.le_of_ble_eq_true rfl⟩ hK hw (List.range 65) wX_all wX_nd wX_g6 rfl rfl hl.1 rfl (Nat.le_of_ble_eq_true rfl) zd_Program_takeProcess_98 ⟨Nat.le_of_ble_eq_true rfl, Nat.le_of_ble_eq_true rfl⟩) hw hA (List.range 65) [] wX_all rfl (by decide) (fun i hi => by cases hi) (fun r3 u H locs hok hw => ?_)
    obtain ⟨I3, J3, B3, D3⟩ := u
    dsimp only at hok
    have hw : zW G A s.heap (wX ad K sv I3 J3 B3 D3) H locs := hw
    refine z_calli (w1 := fun (u : zS) => wX ad K sv u.1 u.2.1 u.2.2.1 u.2.2.2) (wr := []) (z_runV (q0 := 6) (wc := (wX ad K sv I3 J3 B3 D3)) (As := [.int r3]) (rest := [.int (I 10), .ref (ad 26)]) ⟨hx, hb, hml, hown, hts⟩ (w_Tree_pointAt l G K ad sv I3 J3 B3 D3 r3 _ H.size hok) zf_Tree_pointAt zn_361 ⟨Nat.le_of_ble_eq_true rfl, Nat.le_of_ble_eq_true rfl⟩ hK hw (List.range 65) wX_all wX_nd wX_g6 rfl rfl hl.1 rfl (Nat.le_of_ble_eq_true rfl) zd_Program_takeProcess_101 ⟨Nat.le_of_ble_eq_true rfl, Nat.le_of_ble_eq_true rfl⟩) hw hA (List.range 65) [] wX_all rfl (by decide) (fun i hi => by cases hi) (fun r4 u H locs hok hw => ?_)
    obtain ⟨I4, J4, B4, D4⟩ := u
    dsimp only at hok
    have hw : zW G A s.heap (wX ad K sv I4 J4 B4 D4) H locs := hw
    refine va_iast (f := (B4 13)) hx hb hK hw.1 hw.2.1 hw.2.2 26 0 wX_a26 rfl hok.1 zd_Program_takeProcess_104 (fun H locs w91 w92 w93 => ?_)
    have hok := hok.2
    have hw := wX_t26 ⟨w91, w92, w93⟩
    refine lv_aload_n hx hb zd_Program_takeProcess_105 rfl (lv_at hl 0 rfl) ?_
    refine lv_dup hx hb zd_Program_takeProcess_106 rfl ?_
    refine z_get (v := .int (I4 10)) hx hb hts hown hK hw zZ6 3 wX_g3 13 (by decide) zn_387 rfl zd_Program_takeProcess_107 ?_
    refine lv_iconst (v := 1) hx hb zd_Program_takeProcess_110 (by decide) ?_
    refine lv_iadd hx hb zd_Program_takeProcess_111 ?_
    refine lv_topi (fun z5 ez5 => ?_)
    have hok := hok z5 ez5
    refine z_put (v := .int z5) hx hb hts hown hK hw zZ6 3 wX_g3 13 (by decide) zn_387 rfl rfl rfl (Nat.le_of_ble_eq_true rfl) zd_Program_takeProcess_112 (fun H locs hw => ?_)
    have hw := wX_sI10 hw
    exact (z_vret (u := ((upd I4 10 z5), J4, (va_up B4 13 (upd (B4 13) (I 10).toNatClampNeg r4)), D4)) hx hb hr hlocks hw (List.range 65) wX_all wX_nd hok (Nat.le_of_ble_eq_true rfl) (Nat.le_of_ble_eq_true rfl) zd_Program_takeProcess_115)
  · have hok := hok.2 hc2
    refine lv_aload_n hx hb zd_Program_takeProcess_45 rfl (lv_at hl 1 rfl) ?_
    refine z_get (v := .ref (ad 42)) hx hb hts hown hK hw zZ10 6 wX_g6 10 (by decide) zn_397 rfl zd_Program_takeProcess_46 ?_
    refine lv_iload_n hx hb zd_Program_takeProcess_49 rfl (lv_at hl 2 rfl) ?_
    refine va_iald (f := (B 28)) hx hb hK hw.1 42 0 wX_a42 rfl hok.1 zd_Program_takeProcess_50 ?_
    have hok := hok.2
    refine lv_topi (fun z6 ez6 => ?_)
    have hok := hok z6 ez6
    refine lv_istore_n hx hb zd_Program_takeProcess_51 rfl hl (by decide) rfl (fun ls hl => ?_)
    have hl : lv_has ls 4 [(3, .int z6), (0, .ref (ad 3)), (1, .ref (ad 6)), (2, .int x2)] := hl
    refine lv_iload_n hx hb zd_Program_takeProcess_52 rfl (lv_at hl 0 rfl) ?_
    refine lv_bipush (v := (-3)) hx hb zd_Program_takeProcess_53 (by decide) ?_
    refine lv_icmp_eq (tgt := 81) hx hb zd_Program_takeProcess_55 (by decide) (fun hc7 => ?_) (fun hc7 => ?_)
    · have hok := hok.1 hc7
      exact wJ_Program_takeProcess_ad6_81 G K ad sv  Post C K39 kh39 x2 I J B D ls H locs hok (lv_sub hl [1, 2, 3] rfl) hw
    · have hok := hok.2 hc7
      refine lv_aload_n hx hb zd_Program_takeProcess_58 rfl (lv_at hl 1 rfl) ?_
      refine z_get (v := .ref (ad 27)) hx hb hts hown hK hw zZ6 3 wX_g3 9 (by decide) zn_250 rfl zd_Program_takeProcess_59 ?_
      refine lv_aload_n hx hb zd_Program_takeProcess_62 rfl (lv_at hl 1 rfl) ?_
      refine z_get (v := .int (I 10)) hx hb hts hown hK hw zZ6 3 wX_g3 13 (by decide) zn_387 rfl zd_Program_takeProcess_63 ?_
      refine lv_bipush (v := 8) hx hb zd_Program_takeProcess_66 (by decide) ?_
      refine lv_imul hx hb zd_Program_takeProcess_68 ?_
      refine lv_topi (fun z8 ez8 => ?_)
      have hok := hok z8 ez8
      refine lv_iload_n hx hb zd_Program_takeProcess_69 rfl (lv_at hl 3 rfl) ?_
      refine lv_iadd hx hb zd_Program_takeProcess_70 ?_
      refine lv_topi (fun z9 ez9 => ?_)
      have hok := hok z9 ez9
      refine lv_aload_n hx hb zd_Program_takeProcess_71 rfl (lv_at hl 2 rfl) ?_
      refine lv_aload_n hx hb zd_Program_takeProcess_72 rfl (lv_at hl 2 rfl) ?_
      refine lv_iload_n hx hb zd_Program_takeProcess_73 rfl (lv_at hl 0 rfl) ?_
      refine z_calli (w1 := fun (u : zS) => wX ad K sv u.1 u.2.1 u.2.2.1 u.2.2.2) (wr := []) (z_runV (q0 := 6) (wc := (wX ad K sv I J B D)) (As := [.int z6]) (rest := [.ref (ad 6), .int z9, .ref (ad 27)]) ⟨hx, hb, hml, hown, hts⟩ (w_Tree_settled l G K ad sv I J B D z6 _ H.size hok) zf_Tree_settled zn_360 ⟨Nat.le_of_ble_eq_true rfl, Nat.le_of_ble_eq_true rfl⟩ hK hw (List.range 65) wX_all wX_nd wX_g6 rfl rfl hl.1 rfl (Nat.le_of_ble_eq_true rfl) zd_Program_takeProcess_74 ⟨Nat.le_of_ble_eq_true rfl, Nat.le_of_ble_eq_true rfl⟩) hw hA (List.range 65) [] wX_all rfl (by decide) (fun i hi => by cases hi) (fun r10 u H locs hok hw => ?_)
      obtain ⟨I10, J10, B10, D10⟩ := u
      dsimp only at hok
      have hw : zW G A s.heap (wX ad K sv I10 J10 B10 D10) H locs := hw
      refine z_calli (w1 := fun (u : zS) => wX ad K sv u.1 u.2.1 u.2.2.1 u.2.2.2) (wr := []) (z_runV (q0 := 6) (wc := (wX ad K sv I10 J10 B10 D10)) (As := [.int r10]) (rest := [.int z9, .ref (ad 27)]) ⟨hx, hb, hml, hown, hts⟩ (w_Tree_pointAt l G K ad sv I10 J10 B10 D10 r10 _ H.size hok) zf_Tree_pointAt zn_361 ⟨Nat.le_of_ble_eq_true rfl, Nat.le_of_ble_eq_true rfl⟩ hK hw (List.range 65) wX_all wX_nd wX_g6 rfl rfl hl.1 rfl (Nat.le_of_ble_eq_true rfl) zd_Program_takeProcess_77 ⟨Nat.le_of_ble_eq_true rfl, Nat.le_of_ble_eq_true rfl⟩) hw hA (List.range 65) [] wX_all rfl (by decide) (fun i hi => by cases hi) (fun r11 u H locs hok hw => ?_)
      obtain ⟨I11, J11, B11, D11⟩ := u
      dsimp only at hok
      have hw : zW G A s.heap (wX ad K sv I11 J11 B11 D11) H locs := hw
      refine va_iast (f := (B11 14)) hx hb hK hw.1 hw.2.1 hw.2.2 27 0 wX_a27 rfl hok.1 zd_Program_takeProcess_80 (fun H locs w91 w92 w93 => ?_)
      have hok := hok.2
      have hw := wX_t27 ⟨w91, w92, w93⟩
      exact wJ_Program_takeProcess_ad6_81 G K ad sv  Post C K39 kh39 x2 I11 J11 (va_up B11 14 (upd (B11 14) z9.toNatClampNeg r11)) D11 ls H locs hok (lv_sub hl [1, 2, 3] rfl) hw
theorem wL_Program_takeProcess_ad6_39 {p : Program} {l : Launch} {e : Env} {s : State} {m : MethodId} {below : List Frame} {meth : Method} {c : Code} {A : Nat → Prop} (G : va_G) (K : Nat → ClassId) (ad : Nat → Nat) (sv : Value) (Post : (Nat → Int32) → (Nat → Int64) → (Nat → Nat → Int32) → (Nat → Nat → Int64) → Prop) (C : zCx p s m ([.ref (ad 3), .ref (ad 6)] : List Value).toArray meth c A G K prog_7_method_5_code none 4 "LassoFinder$Program") : ∀ (n : Nat) (x2 : Int32) (I : Nat → Int32) (J : Nat → Int64) (B : Nat → Nat → Int32) (D : Nat → Nat → Int64) (ls : Array Slot) (H : Heap) (locs : List Loc), wl_Program_takeProcess_ad6_39  Post n x2 I J B D → lv_has ls 4 [(0, .ref (ad 3)), (1, .ref (ad 6)), (2, .int x2)] → zW G A s.heap (wX ad K sv I J B D) H locs → W p l e { frames := 3, cells := 0, slots := 0, locals := 71 } s m ([.ref (ad 3), .ref (ad 6)] : List Value).toArray below meth c H locs 0 0 (MQ below (va_Qv (fun u : zS => Post u.1 u.2.1 u.2.2.1 u.2.2.2) (fun u t => zPost G K A (wX ad K sv u.1 u.2.1 u.2.2.1 u.2.2.2) t) A) ([.ref (ad 3), .ref (ad 6)] : List Value).toArray s 0 0 A) (F0 m 39 ls []) := by
  intro n
  induction n with
  | zero => intro x2 I J B D ls H locs hok; exact hok.elim
  | succ n ih => exact wB_Program_takeProcess_ad6_39 G K ad sv  Post C (wl_Program_takeProcess_ad6_39  Post n) ih
set_option maxHeartbeats 8000000 in
set_option maxRecDepth 100000 in
theorem wJ_Program_takeProcess_ad6_31 {p : Program} {l : Launch} {e : Env} {s : State} {m : MethodId} {below : List Frame} {meth : Method} {c : Code} {A : Nat → Prop} (G : va_G) (K : Nat → ClassId) (ad : Nat → Nat) (sv : Value) (Post : (Nat → Int32) → (Nat → Int64) → (Nat → Nat → Int32) → (Nat → Nat → Int64) → Prop) (C : zCx p s m ([.ref (ad 3), .ref (ad 6)] : List Value).toArray meth c A G K prog_7_method_5_code none 4 "LassoFinder$Program") (K2 : Int32 → (Nat → Int32) → (Nat → Int64) → (Nat → Nat → Int32) → (Nat → Nat → Int64) → Prop) (kh2 : ∀ (x2 : Int32) (I : Nat → Int32) (J : Nat → Int64) (B : Nat → Nat → Int32) (D : Nat → Nat → Int64) (ls : Array Slot) (H : Heap) (locs : List Loc), K2 x2 I J B D → lv_has ls 4 [(0, .ref (ad 3)), (1, .ref (ad 6)), (2, .int x2)] → zW G A s.heap (wX ad K sv I J B D) H locs → W p l e { frames := 3, cells := 0, slots := 0, locals := 71 } s m ([.ref (ad 3), .ref (ad 6)] : List Value).toArray below meth c H locs 0 0 (MQ below (va_Qv (fun u : zS => Post u.1 u.2.1 u.2.2.1 u.2.2.2) (fun u t => zPost G K A (wX ad K sv u.1 u.2.1 u.2.2.1 u.2.2.2) t) A) ([.ref (ad 3), .ref (ad 6)] : List Value).toArray s 0 0 A) (F0 m 2 ls [])) : ∀ (x2 : Int32) (I : Nat → Int32) (J : Nat → Int64) (B : Nat → Nat → Int32) (D : Nat → Nat → Int64) (ls : Array Slot) (H : Heap) (locs : List Loc), wc_Program_takeProcess_ad6_31  K2 Post x2 I J B D → lv_has ls 4 [(0, .ref (ad 3)), (1, .ref (ad 6)), (2, .int x2)] → zW G A s.heap (wX ad K sv I J B D) H locs → W p l e { frames := 3, cells := 0, slots := 0, locals := 71 } s m ([.ref (ad 3), .ref (ad 6)] : List Value).toArray below meth c H locs 0 0 (MQ below (va_Qv (fun u : zS => Post u.1 u.2.1 u.2.2.1 u.2.2.2) (fun u t => zPost G K A (wX ad K sv u.1 u.2.1 u.2.2.1 u.2.2.2) t) A) ([.ref (ad 3), .ref (ad 6)] : List Value).toArray s 0 0 A) (F0 m 31 ls []) := by
  obtain ⟨hx, hb, hr, hml, hts, hown, hlocks, hA, hK⟩ := id C
  intro x2 I J B D ls H locs hok hl hw
  unfold wc_Program_takeProcess_ad6_31 at hok
  obtain ⟨z12, ez12⟩ : ∃ z : Int32, z = (x2 + 1) := ⟨_, rfl⟩
  have hok := hok z12 ez12
  refine lv_iinc (v := z12) hx hb zd_Program_takeProcess_31 hl (k := 2) rfl ez12.symm (by decide) rfl (fun ls hl => ?_)
  have hl : lv_has ls 4 [(2, .int z12), (0, .ref (ad 3)), (1, .ref (ad 6))] := hl
  refine lv_goto (tgt := 2) hx hb zd_Program_takeProcess_34 (by decide) ?_
  exact kh2 z12 I J B D ls H locs hok (lv_sub hl [1, 2, 0] rfl) hw
set_option maxHeartbeats 8000000 in
set_option maxRecDepth 100000 in
theorem wB_Program_takeProcess_ad6_2 {p : Program} {l : Launch} {e : Env} {s : State} {m : MethodId} {below : List Frame} {meth : Method} {c : Code} {A : Nat → Prop} (G : va_G) (K : Nat → ClassId) (ad : Nat → Nat) (sv : Value) (Post : (Nat → Int32) → (Nat → Int64) → (Nat → Nat → Int32) → (Nat → Nat → Int64) → Prop) (C : zCx p s m ([.ref (ad 3), .ref (ad 6)] : List Value).toArray meth c A G K prog_7_method_5_code none 4 "LassoFinder$Program") (K2 : Int32 → (Nat → Int32) → (Nat → Int64) → (Nat → Nat → Int32) → (Nat → Nat → Int64) → Prop) (kh2 : ∀ (x2 : Int32) (I : Nat → Int32) (J : Nat → Int64) (B : Nat → Nat → Int32) (D : Nat → Nat → Int64) (ls : Array Slot) (H : Heap) (locs : List Loc), K2 x2 I J B D → lv_has ls 4 [(0, .ref (ad 3)), (1, .ref (ad 6)), (2, .int x2)] → zW G A s.heap (wX ad K sv I J B D) H locs → W p l e { frames := 3, cells := 0, slots := 0, locals := 71 } s m ([.ref (ad 3), .ref (ad 6)] : List Value).toArray below meth c H locs 0 0 (MQ below (va_Qv (fun u : zS => Post u.1 u.2.1 u.2.2.1 u.2.2.2) (fun u t => zPost G K A (wX ad K sv u.1 u.2.1 u.2.2.1 u.2.2.2) t) A) ([.ref (ad 3), .ref (ad 6)] : List Value).toArray s 0 0 A) (F0 m 2 ls [])) : ∀ (x2 : Int32) (I : Nat → Int32) (J : Nat → Int64) (B : Nat → Nat → Int32) (D : Nat → Nat → Int64) (ls : Array Slot) (H : Heap) (locs : List Loc), wb_Program_takeProcess_ad6_2  K2 Post x2 I J B D → lv_has ls 4 [(0, .ref (ad 3)), (1, .ref (ad 6)), (2, .int x2)] → zW G A s.heap (wX ad K sv I J B D) H locs → W p l e { frames := 3, cells := 0, slots := 0, locals := 71 } s m ([.ref (ad 3), .ref (ad 6)] : List Value).toArray below meth c H locs 0 0 (MQ below (va_Qv (fun u : zS => Post u.1 u.2.1 u.2.2.1 u.2.2.2) (fun u t => zPost G K A (wX ad K sv u.1 u.2.1 u.2.2.1 u.2.2.2) t) A) ([.ref (ad 3), .ref (ad 6)] : List Value).toArray s 0 0 A) (F0 m 2 ls []) := by
  obtain ⟨hx, hb, hr, hml, hts, hown, hlocks, hA, hK⟩ := id C
  intro x2 I J B D ls H locs hok hl hw
  unfold wb_Program_takeProcess_ad6_2 at hok
  refine lv_iload_n hx hb zd_Program_takeProcess_2 rfl (lv_at hl 2 rfl) ?_
  refine lv_aload_n hx hb zd_Program_takeProcess_3 rfl (lv_at hl 1 rfl) ?_
  refine z_get (v := .int (I 16)) hx hb hts hown hK hw zZ10 6 wX_g6 11 (by decide) zn_395 rfl zd_Program_takeProcess_4 ?_
  refine lv_icmp_ge (tgt := 37) hx hb zd_Program_takeProcess_7 (by decide) (fun hc13 => ?_) (fun hc13 => ?_)
  · have hok := hok.1 hc13
    refine lv_iconst (v := 0) hx hb zd_Program_takeProcess_37 (by decide) ?_
    refine lv_istore_n hx hb zd_Program_takeProcess_38 rfl hl (by decide) rfl (fun ls hl => ?_)
    have hl : lv_has ls 4 [(2, .int 0), (0, .ref (ad 3)), (1, .ref (ad 6))] := hl
    obtain ⟨n9, hok⟩ := hok
    exact wL_Program_takeProcess_ad6_39 G K ad sv  Post C n9 0 I J B D ls H locs hok (lv_sub hl [1, 2, 0] rfl) hw
  · have hok := hok.2 hc13
    refine lv_aload_n hx hb zd_Program_takeProcess_10 rfl (lv_at hl 1 rfl) ?_
    refine z_get (v := .ref (ad 32)) hx hb hts hown hK hw zZ10 6 wX_g6 0 (by decide) zn_396 rfl zd_Program_takeProcess_11 ?_
    refine lv_iload_n hx hb zd_Program_takeProcess_14 rfl (lv_at hl 2 rfl) ?_
    refine va_iald (f := (B 18)) hx hb hK hw.1 32 0 wX_a32 rfl hok.1 zd_Program_takeProcess_15 ?_
    have hok := hok.2
    refine lv_topi (fun z14 ez14 => ?_)
    have hok := hok z14 ez14
    refine lv_if_ne (tgt := 31) hx hb zd_Program_takeProcess_16 (by decide) (fun hc15 => ?_) (fun hc15 => ?_)
    · have hok := hok.1 hc15
      exact wJ_Program_takeProcess_ad6_31 G K ad sv  Post C K2 kh2 x2 I J B D ls H locs hok (lv_sub hl [0, 1, 2] rfl) hw
    · have hok := hok.2 hc15
      refine lv_aload_n hx hb zd_Program_takeProcess_19 rfl (lv_at hl 0 rfl) ?_
      refine lv_aload_n hx hb zd_Program_takeProcess_20 rfl (lv_at hl 1 rfl) ?_
      refine lv_iload_n hx hb zd_Program_takeProcess_21 rfl (lv_at hl 2 rfl) ?_
      refine z_callv (w1 := fun (u : zS) => wX ad K sv u.1 u.2.1 u.2.2.1 u.2.2.2) (wr := []) (z_runV (q0 := 3) (wc := (wX ad K sv I J B D)) (As := [.ref (ad 6), .int x2]) (rest := []) ⟨hx, hb, hml, hown, hts⟩ (w_Program_takeWay_ad6 l G K ad sv I J B D x2 _ H.size hok) zf_Program_takeWay zn_358 ⟨Nat.le_of_ble_eq_true rfl, Nat.le_of_ble_eq_true rfl⟩ hK hw (List.range 65) wX_all wX_nd wX_g3 rfl rfl hl.1 rfl (Nat.le_of_ble_eq_true rfl) zd_Program_takeProcess_22 ⟨Nat.le_of_ble_eq_true rfl, Nat.le_of_ble_eq_true rfl⟩) hw hA (List.range 65) [] wX_all rfl (by decide) (fun i hi => by cases hi) (fun u H locs hok hw => ?_)
      obtain ⟨I16, J16, B16, D16⟩ := u
      dsimp only at hok
      have hw : zW G A s.heap (wX ad K sv I16 J16 B16 D16) H locs := hw
      refine lv_aload_n hx hb zd_Program_takeProcess_25 rfl (lv_at hl 0 rfl) ?_
      refine lv_aload_n hx hb zd_Program_takeProcess_26 rfl (lv_at hl 1 rfl) ?_
      refine lv_iload_n hx hb zd_Program_takeProcess_27 rfl (lv_at hl 2 rfl) ?_
      refine z_callv (w1 := fun (u : zS) => wX ad K sv u.1 u.2.1 u.2.2.1 u.2.2.2) (wr := []) (z_runV (q0 := 3) (wc := (wX ad K sv I16 J16 B16 D16)) (As := [.ref (ad 6), .int x2]) (rest := []) ⟨hx, hb, hml, hown, hts⟩ (w_Program_takePlaces_ad6 l G K ad sv I16 J16 B16 D16 x2 _ H.size hok) zf_Program_takePlaces zn_362 ⟨Nat.le_of_ble_eq_true rfl, Nat.le_of_ble_eq_true rfl⟩ hK hw (List.range 65) wX_all wX_nd wX_g3 rfl rfl hl.1 rfl (Nat.le_of_ble_eq_true rfl) zd_Program_takeProcess_28 ⟨Nat.le_of_ble_eq_true rfl, Nat.le_of_ble_eq_true rfl⟩) hw hA (List.range 65) [] wX_all rfl (by decide) (fun i hi => by cases hi) (fun u H locs hok hw => ?_)
      obtain ⟨I17, J17, B17, D17⟩ := u
      dsimp only at hok
      have hw : zW G A s.heap (wX ad K sv I17 J17 B17 D17) H locs := hw
      exact wJ_Program_takeProcess_ad6_31 G K ad sv  Post C K2 kh2 x2 I17 J17 B17 D17 ls H locs hok (lv_sub hl [0, 1, 2] rfl) hw
theorem wL_Program_takeProcess_ad6_2 {p : Program} {l : Launch} {e : Env} {s : State} {m : MethodId} {below : List Frame} {meth : Method} {c : Code} {A : Nat → Prop} (G : va_G) (K : Nat → ClassId) (ad : Nat → Nat) (sv : Value) (Post : (Nat → Int32) → (Nat → Int64) → (Nat → Nat → Int32) → (Nat → Nat → Int64) → Prop) (C : zCx p s m ([.ref (ad 3), .ref (ad 6)] : List Value).toArray meth c A G K prog_7_method_5_code none 4 "LassoFinder$Program") : ∀ (n : Nat) (x2 : Int32) (I : Nat → Int32) (J : Nat → Int64) (B : Nat → Nat → Int32) (D : Nat → Nat → Int64) (ls : Array Slot) (H : Heap) (locs : List Loc), wl_Program_takeProcess_ad6_2  Post n x2 I J B D → lv_has ls 4 [(0, .ref (ad 3)), (1, .ref (ad 6)), (2, .int x2)] → zW G A s.heap (wX ad K sv I J B D) H locs → W p l e { frames := 3, cells := 0, slots := 0, locals := 71 } s m ([.ref (ad 3), .ref (ad 6)] : List Value).toArray below meth c H locs 0 0 (MQ below (va_Qv (fun u : zS => Post u.1 u.2.1 u.2.2.1 u.2.2.2) (fun u t => zPost G K A (wX ad K sv u.1 u.2.1 u.2.2.1 u.2.2.2) t) A) ([.ref (ad 3), .ref (ad 6)] : List Value).toArray s 0 0 A) (F0 m 2 ls []) := by
  intro n
  induction n with
  | zero => intro x2 I J B D ls H locs hok; exact hok.elim
  | succ n ih => exact wB_Program_takeProcess_ad6_2 G K ad sv  Post C (wl_Program_takeProcess_ad6_2  Post n) ih
set_option maxHeartbeats 8000000 in
set_option maxRecDepth 100000 in
theorem w_Program_takeProcess_ad6 (l : Launch) (G : va_G) (K : Nat → ClassId) (ad : Nat → Nat) (sv : Value) (I : Nat → Int32) (J : Nat → Int64) (B : Nat → Nat → Int32) (D : Nat → Nat → Int64) (Post : (Nat → Int32) → (Nat → Int64) → (Nat → Nat → Int32) → (Nat → Nat → Int64) → Prop) (sz : Nat) (hok : wp_Program_takeProcess_ad6 I J B D  Post) : Met l zy_Program_takeProcess (Cond.code zy_Program_takeProcess prog_7_method_5_code 4 none :: zTB) { frames := 3, cells := 0, slots := 0, locals := 71 } (va_Pc [.ref (ad 3), .ref (ad 6)] (zPre G K (wX ad K sv I J B D) sz)) (va_Qv (fun u : zS => Post u.1 u.2.1 u.2.2.1 u.2.2.2) (fun u t => zPost G K (va_A (wX ad K sv I J B D) sz) (wX ad K sv u.1 u.2.1 u.2.2.1 u.2.2.2) t) (va_A (wX ad K sv I J B D) sz)) 0 0 (va_A (wX ad K sv I J B D) sz) := by
  refine zMet (y := zy_Program_takeProcess) (av := [.ref (ad 3), .ref (ad 6)]) (maxL := 4) (cc := prog_7_method_5_code) (ret := none) (W0 := (wX ad K sv I J B D)) (sz := sz) (G := G) (K := K) (wt := zTB) (mc := 0) (ms := 0) (Qf := fun A => va_Qv (fun u : zS => Post u.1 u.2.1 u.2.2.1 u.2.2.2) (fun u t => zPost G K A (wX ad K sv u.1 u.2.1 u.2.2.1 u.2.2.2) t) A) (by decide) (Nat.le_of_ble_eq_true rfl) ?_
  intro p e s m below meth c ls A hx hb hr hml hts hown hlocks hin hA hK H locs hw hsz hl
  clear hsz
  have hown : s.vm.findClass "LassoFinder$Program" = some m.cls := hown
  have C : zCx p s m ([.ref (ad 3), .ref (ad 6)] : List Value).toArray meth c A G K prog_7_method_5_code none 4 "LassoFinder$Program" := ⟨hx, hb, hr, hml, hts, hown, hlocks, hA, hK⟩
  have hl : lv_has ls 4 [(0, .ref (ad 3)), (1, .ref (ad 6))] := hl
  have hw : zW G A s.heap (wX ad K sv I J B D) H locs := hw
  unfold wp_Program_takeProcess_ad6 at hok
  refine lv_iconst (v := 0) hx hb zd_Program_takeProcess_0 (by decide) ?_
  refine lv_istore_n hx hb zd_Program_takeProcess_1 rfl hl (by decide) rfl (fun ls hl => ?_)
  have hl : lv_has ls 4 [(2, .int 0), (0, .ref (ad 3)), (1, .ref (ad 6))] := hl
  obtain ⟨n9, hok⟩ := hok
  exact wL_Program_takeProcess_ad6_2 G K ad sv  Post C n9 0 I J B D ls H locs hok (lv_sub hl [1, 2, 0] rfl) hw
def wc_ModelReader_endProcess_19 (Post : (Nat → Int32) → (Nat → Int64) → (Nat → Nat → Int32) → (Nat → Nat → Int64) → Prop) (PX : String → (Nat → Int32) → (Nat → Int64) → (Nat → Nat → Int32) → (Nat → Nat → Int64) → Prop)  (I : Nat → Int32) (J : Nat → Int64) (B : Nat → Nat → Int32) (D : Nat → Nat → Int64) : Prop :=
  wp_ModelReader_checkJumps I J B D  (fun I1 J1 B1 D1 => wp_Text_skip I1 J1 B1 D1  (fun I2 J2 B2 D2 => wp_Program_takeProcess_ad6 I2 J2 B2 D2  (fun I3 J3 B3 D3 => Post I3 J3 B3 D3))) PX
def wp_ModelReader_endProcess (I : Nat → Int32) (J : Nat → Int64) (B : Nat → Nat → Int32) (D : Nat → Nat → Int64) (Post : (Nat → Int32) → (Nat → Int64) → (Nat → Nat → Int32) → (Nat → Nat → Int64) → Prop) (PX : String → (Nat → Int32) → (Nat → Int64) → (Nat → Nat → Int32) → (Nat → Nat → Int64) → Prop) : Prop :=
  wp_Text_ahead I J B D  (fun r4 I4 J4 B4 D4 => ((r4 = 125 → wc_ModelReader_endProcess_19  Post PX I4 J4 B4 D4) ∧ (¬ r4 = 125 → wp_Text_refuse I4 J4 B4 D4  (fun I6 J6 B6 D6 => wc_ModelReader_endProcess_19  Post PX I6 J6 B6 D6) PX)))
set_option maxHeartbeats 8000000 in
set_option maxRecDepth 100000 in
theorem wJ_ModelReader_endProcess_19 {p : Program} {l : Launch} {e : Env} {s : State} {m : MethodId} {below : List Frame} {meth : Method} {c : Code} {A : Nat → Prop} (G : va_G) (K : Nat → ClassId) (ad : Nat → Nat) (sv : Value) (Post : (Nat → Int32) → (Nat → Int64) → (Nat → Nat → Int32) → (Nat → Nat → Int64) → Prop) (PX : String → (Nat → Int32) → (Nat → Int64) → (Nat → Nat → Int32) → (Nat → Nat → Int64) → Prop) (C : zCy p l s m ([.ref (ad 5)] : List Value).toArray meth c A G K prog_5_method_4_code none 1 "LassoFinder$ModelReader") : ∀  (I : Nat → Int32) (J : Nat → Int64) (B : Nat → Nat → Int32) (D : Nat → Nat → Int64) (ls : Array Slot) (H : Heap) (locs : List Loc), wc_ModelReader_endProcess_19  Post PX  I J B D → lv_has ls 1 [(0, .ref (ad 5))] → zW G A s.heap (wX ad K sv I J B D) H locs → W p l e { frames := 8, cells := 1, slots := 6, locals := 124 } s m ([.ref (ad 5)] : List Value).toArray below meth c H locs 0 0 (zyMQ below (va_Qv (fun u : zS => Post u.1 u.2.1 u.2.2.1 u.2.2.2) (fun u t => zPost G K A (wX ad K sv u.1 u.2.1 u.2.2.1 u.2.2.2) t) A) (zYC (fun E (u : zS) => PX E u.1 u.2.1 u.2.2.1 u.2.2.2) (fun u => wX ad K sv u.1 u.2.1 u.2.2.1 u.2.2.2) G K A) ([.ref (ad 5)] : List Value).toArray s 1 6 A) (F0 m 19 ls []) := by
  obtain ⟨hx, hb, hr, hml, hts, hown, hlocks, hA, hK, hT, hnt, hlt⟩ := id C
  intro  I J B D ls H locs hok hl hw
  unfold wc_ModelReader_endProcess_19 at hok
  refine lv_aload_n hx hb zd_ModelReader_endProcess_19 rfl (lv_at hl 0 rfl) ?_
  refine z_yV (q0 := 5) (wc := (wX ad K sv I J B D)) (wr := []) (w1 := fun (u : zS) => wX ad K sv u.1 u.2.1 u.2.2.1 u.2.2.2) (As := []) (rest := []) ⟨hx, hb, hml, hown, hts⟩ (w_ModelReader_checkJumps l hlt G K ad sv I J B D  _ _ H.size hok) zf_ModelReader_checkJumps zn_353 ⟨Nat.le_of_ble_eq_true rfl, Nat.le_of_ble_eq_true rfl⟩ hK hT hw hA (List.range 65) [] wX_all rfl wX_nd (by decide) (fun i hi => by cases hi) wX_g5 rfl rfl hl.1 rfl (Nat.le_of_ble_eq_true rfl) zd_ModelReader_endProcess_20 ⟨Nat.le_of_ble_eq_true rfl, Nat.le_of_ble_eq_true rfl⟩ (fun v st9 t9 L9 h0 hq hL => ?_) (fun E ce q9 u H locs hu hw hce hcv hcl => z_yout (u := u) hnt hlocks hce hcv hcl hw (List.range 65) wX_all wX_nd hu (Nat.le_of_ble_eq_true rfl) (Nat.le_of_ble_eq_true rfl))
  obtain ⟨⟨u, hv9, hok, hB9⟩, hF9⟩ := hq
  cases hv9
  have hw := z_back (wr := []) hw hA (List.range 65) [] wX_all rfl (by decide) (fun i hi => by cases hi) h0 hL hB9 hF9
  obtain ⟨I1, J1, B1, D1⟩ := u
  dsimp only at hok
  generalize t9.heap = H at hw ⊢
  generalize locs ++ L9 = locs at hw ⊢
  have hw : zW G A s.heap (wX ad K sv I1 J1 B1 D1) H locs := hw
  refine W.eq (g2 := F0 m 23 ls []) rfl ?_
  refine lv_aload_n hx hb zd_ModelReader_endProcess_23 rfl (lv_at hl 0 rfl) ?_
  refine z_get (v := .ref (ad 1)) hx hb hts hown hK hw zZ4 5 wX_g5 0 (by decide) zn_366 rfl zd_ModelReader_endProcess_24 ?_
  refine z_callv (w1 := fun (u : zS) => wX ad K sv u.1 u.2.1 u.2.2.1 u.2.2.2) (wr := []) (z_runV (q0 := 1) (wc := (wX ad K sv I1 J1 B1 D1)) (As := []) (rest := []) ⟨hx, hb, hml, hown, hts⟩ (w_Text_skip l G K ad sv I1 J1 B1 D1  _ H.size hok) zf_Text_skip zn_314 ⟨Nat.le_of_ble_eq_true rfl, Nat.le_of_ble_eq_true rfl⟩ hK hw (List.range 65) wX_all wX_nd wX_g1 rfl rfl hl.1 rfl (Nat.le_of_ble_eq_true rfl) zd_ModelReader_endProcess_27 ⟨Nat.le_of_ble_eq_true rfl, Nat.le_of_ble_eq_true rfl⟩) hw hA (List.range 65) [] wX_all rfl (by decide) (fun i hi => by cases hi) (fun u H locs hok hw => ?_)
  obtain ⟨I2, J2, B2, D2⟩ := u
  dsimp only at hok
  have hw : zW G A s.heap (wX ad K sv I2 J2 B2 D2) H locs := hw
  refine lv_aload_n hx hb zd_ModelReader_endProcess_30 rfl (lv_at hl 0 rfl) ?_
  refine z_get (v := .ref (ad 3)) hx hb hts hown hK hw zZ4 5 wX_g5 3 (by decide) zn_365 rfl zd_ModelReader_endProcess_31 ?_
  refine lv_aload_n hx hb zd_ModelReader_endProcess_34 rfl (lv_at hl 0 rfl) ?_
  refine z_get (v := .ref (ad 6)) hx hb hts hown hK hw zZ4 5 wX_g5 4 (by decide) zn_368 rfl zd_ModelReader_endProcess_35 ?_
  refine z_callv (w1 := fun (u : zS) => wX ad K sv u.1 u.2.1 u.2.2.1 u.2.2.2) (wr := []) (z_runV (q0 := 3) (wc := (wX ad K sv I2 J2 B2 D2)) (As := [.ref (ad 6)]) (rest := []) ⟨hx, hb, hml, hown, hts⟩ (w_Program_takeProcess_ad6 l G K ad sv I2 J2 B2 D2  _ H.size hok) zf_Program_takeProcess zn_357 ⟨Nat.le_of_ble_eq_true rfl, Nat.le_of_ble_eq_true rfl⟩ hK hw (List.range 65) wX_all wX_nd wX_g3 rfl rfl hl.1 rfl (Nat.le_of_ble_eq_true rfl) zd_ModelReader_endProcess_38 ⟨Nat.le_of_ble_eq_true rfl, Nat.le_of_ble_eq_true rfl⟩) hw hA (List.range 65) [] wX_all rfl (by decide) (fun i hi => by cases hi) (fun u H locs hok hw => ?_)
  obtain ⟨I3, J3, B3, D3⟩ := u
  dsimp only at hok
  have hw : zW G A s.heap (wX ad K sv I3 J3 B3 D3) H locs := hw
  exact zy_ret (z_vret (u := (I3, J3, B3, D3)) hx hb hr hlocks hw (List.range 65) wX_all wX_nd hok (Nat.le_of_ble_eq_true rfl) (Nat.le_of_ble_eq_true rfl) zd_ModelReader_endProcess_41)
set_option maxHeartbeats 8000000 in
set_option maxRecDepth 100000 in
theorem w_ModelReader_endProcess (l : Launch) (hlt : l.stackTraces = false) (G : va_G) (K : Nat → ClassId) (ad : Nat → Nat) (sv : Value) (I : Nat → Int32) (J : Nat → Int64) (B : Nat → Nat → Int32) (D : Nat → Nat → Int64) (Post : (Nat → Int32) → (Nat → Int64) → (Nat → Nat → Int32) → (Nat → Nat → Int64) → Prop) (PX : String → (Nat → Int32) → (Nat → Int64) → (Nat → Nat → Int32) → (Nat → Nat → Int64) → Prop) (sz : Nat) (hok : wp_ModelReader_endProcess I J B D  Post PX) : zyMet l zy_ModelReader_endProcess (Cond.code zy_ModelReader_endProcess prog_5_method_4_code 1 none :: zTB) { frames := 8, cells := 1, slots := 6, locals := 124 } (va_Pc [.ref (ad 5)] (zPreX G K (wX ad K sv I J B D) sz)) (va_Qv (fun u : zS => Post u.1 u.2.1 u.2.2.1 u.2.2.2) (fun u t => zPost G K (va_A (wX ad K sv I J B D) sz) (wX ad K sv u.1 u.2.1 u.2.2.1 u.2.2.2) t) (va_A (wX ad K sv I J B D) sz)) (zYC (fun E (u : zS) => PX E u.1 u.2.1 u.2.2.1 u.2.2.2) (fun u => wX ad K sv u.1 u.2.1 u.2.2.1 u.2.2.2) G K (va_A (wX ad K sv I J B D) sz)) 1 6 (va_A (wX ad K sv I J B D) sz) := by
  refine zMetY (y := zy_ModelReader_endProcess) (av := [.ref (ad 5)]) (maxL := 1) (cc := prog_5_method_4_code) (ret := none) (W0 := (wX ad K sv I J B D)) (sz := sz) (G := G) (K := K) (wt := zTB) (mc := 1) (ms := 6) (Qf := fun A => va_Qv (fun u : zS => Post u.1 u.2.1 u.2.2.1 u.2.2.2) (fun u t => zPost G K A (wX ad K sv u.1 u.2.1 u.2.2.1 u.2.2.2) t) A) (Xf := fun A => (zYC (fun E (u : zS) => PX E u.1 u.2.1 u.2.2.1 u.2.2.2) (fun u => wX ad K sv u.1 u.2.1 u.2.2.1 u.2.2.2) G K A)) (by decide) (Nat.le_of_ble_eq_true rfl) ?_
  intro p e s m below meth c ls A hx hb hr hml hts hown hlocks hin hA hK H locs hw hsz hl hT hnt
  clear hsz
  have hown : s.vm.findClass "LassoFinder$ModelReader" = some m.cls := hown
  have C : zCy p l s m ([.ref (ad 5)] : List Value).toArray meth c A G K prog_5_method_4_code none 1 "LassoFinder$ModelReader" := ⟨hx, hb, hr, hml, hts, hown, hlocks, hA, hK, hT, hnt, hlt⟩
  have hl : lv_has ls 1 [(0, .ref (ad 5))] := hl
  have hw : zW G A s.heap (wX ad K sv I J B D) H locs := hw
  unfold wp_ModelReader_endProcess at hok
  refine lv_aload_n hx hb zd_ModelReader_endProcess_0 rfl (lv_at hl 0 rfl) ?_
  refine z_get (v := .ref (ad 1)) hx hb hts hown hK hw zZ4 5 wX_g5 0 (by decide) zn_366 rfl zd_ModelReader_endProcess_1 ?_
  refine z_calli (w1 := fun (u : zS) => wX ad K sv u.1 u.2.1 u.2.2.1 u.2.2.2) (wr := []) (z_runV (q0 := 1) (wc := (wX ad K sv I J B D)) (As := []) (rest := []) ⟨hx, hb, hml, hown, hts⟩ (w_Text_ahead l G K ad sv I J B D  _ H.size hok) zf_Text_ahead zn_306 ⟨Nat.le_of_ble_eq_true rfl, Nat.le_of_ble_eq_true rfl⟩ hK hw (List.range 65) wX_all wX_nd wX_g1 rfl rfl hl.1 rfl (Nat.le_of_ble_eq_true rfl) zd_ModelReader_endProcess_4 ⟨Nat.le_of_ble_eq_true rfl, Nat.le_of_ble_eq_true rfl⟩) hw hA (List.range 65) [] wX_all rfl (by decide) (fun i hi => by cases hi) (fun r4 u H locs hok hw => ?_)
  obtain ⟨I4, J4, B4, D4⟩ := u
  dsimp only at hok
  have hw : zW G A s.heap (wX ad K sv I4 J4 B4 D4) H locs := hw
  refine lv_bipush (v := 125) hx hb zd_ModelReader_endProcess_7 (by decide) ?_
  refine lv_icmp_eq (tgt := 19) hx hb zd_ModelReader_endProcess_9 (by decide) (fun hc5 => ?_) (fun hc5 => ?_)
  · have hok := hok.1 hc5
    exact wJ_ModelReader_endProcess_19 G K ad sv  Post PX C I4 J4 B4 D4 ls H locs hok (lv_sub hl [0] rfl) hw
  · have hok := hok.2 hc5
    refine lv_aload_n hx hb zd_ModelReader_endProcess_12 rfl (lv_at hl 0 rfl) ?_
    refine z_get (v := .ref (ad 1)) hx hb hts hown hK hw zZ4 5 wX_g5 0 (by decide) zn_366 rfl zd_ModelReader_endProcess_13 ?_
    refine z_yV (q0 := 1) (wc := (wX ad K sv I4 J4 B4 D4)) (wr := []) (w1 := fun (u : zS) => wX ad K sv u.1 u.2.1 u.2.2.1 u.2.2.2) (As := []) (rest := []) ⟨hx, hb, hml, hown, hts⟩ (w_Text_refuse l hlt G K ad sv I4 J4 B4 D4  _ _ H.size hok) zf_Text_refuse zn_312 ⟨Nat.le_of_ble_eq_true rfl, Nat.le_of_ble_eq_true rfl⟩ hK hT hw hA (List.range 65) [] wX_all rfl wX_nd (by decide) (fun i hi => by cases hi) wX_g1 rfl rfl hl.1 rfl (Nat.le_of_ble_eq_true rfl) zd_ModelReader_endProcess_16 ⟨Nat.le_of_ble_eq_true rfl, Nat.le_of_ble_eq_true rfl⟩ (fun v st9 t9 L9 h0 hq hL => ?_) (fun E ce q9 u H locs hu hw hce hcv hcl => z_yout (u := u) hnt hlocks hce hcv hcl hw (List.range 65) wX_all wX_nd hu (Nat.le_of_ble_eq_true rfl) (Nat.le_of_ble_eq_true rfl))
    obtain ⟨⟨u, hv9, hok, hB9⟩, hF9⟩ := hq
    cases hv9
    have hw := z_back (wr := []) hw hA (List.range 65) [] wX_all rfl (by decide) (fun i hi => by cases hi) h0 hL hB9 hF9
    obtain ⟨I6, J6, B6, D6⟩ := u
    dsimp only at hok
    generalize t9.heap = H at hw ⊢
    generalize locs ++ L9 = locs at hw ⊢
    have hw : zW G A s.heap (wX ad K sv I6 J6 B6 D6) H locs := hw
    refine W.eq (g2 := F0 m 19 ls []) rfl ?_
    exact wJ_ModelReader_endProcess_19 G K ad sv  Post PX C I6 J6 B6 D6 ls H locs hok (lv_sub hl [0] rfl) hw
def wb_Graph_turnRound_79 (K79 : Int32 → (Nat → Int32) → (Nat → Int64) → (Nat → Nat → Int32) → (Nat → Nat → Int64) → Prop) (Post : (Nat → Int32) → (Nat → Int64) → (Nat → Nat → Int32) → (Nat → Nat → Int64) → Prop) (x1 : Int32) (I : Nat → Int32) (J : Nat → Int64) (B : Nat → Nat → Int32) (D : Nat → Nat → Int64) : Prop :=
  ((x1 < 0 → Post I J B D) ∧ (¬ x1 < 0 → vp_in x1 400 ∧ ∀ z2 : Int32, z2 = ((B 34) x1.toNatClampNeg) → vp_in z2 97 ∧ ∀ z3 : Int32, z3 = ((B 37) z2.toNatClampNeg) → ∀ z4 : Int32, z4 = (z3 - 1) → vp_in z2 97 ∧ vp_in z2 97 ∧ ∀ z5 : Int32, z5 = ((upd (B 37) z2.toNatClampNeg z4) z2.toNatClampNeg) → vp_in x1 400 ∧ ∀ z6 : Int32, z6 = ((B 33) x1.toNatClampNeg) → vp_in z5 400 ∧ ∀ z7 : Int32, z7 = (x1 + (-1)) → K79 z7 I J (va_up (va_up B 37 (upd (B 37) z2.toNatClampNeg z4)) 38 (upd (B 38) z5.toNatClampNeg z6)) D))
def wl_Graph_turnRound_79 (Post : (Nat → Int32) → (Nat → Int64) → (Nat → Nat → Int32) → (Nat → Nat → Int64) → Prop) (n : Nat) : Int32 → (Nat → Int32) → (Nat → Int64) → (Nat → Nat → Int32) → (Nat → Nat → Int64) → Prop := Nat.rec (fun _ _ _ _ _ => False) (fun _ r => wb_Graph_turnRound_79  r Post) n
def wb_Graph_turnRound_41 (K41 : Int32 → (Nat → Int32) → (Nat → Int64) → (Nat → Nat → Int32) → (Nat → Nat → Int64) → Prop) (Post : (Nat → Int32) → (Nat → Int64) → (Nat → Nat → Int32) → (Nat → Nat → Int64) → Prop) (x1 : Int32) (I : Nat → Int32) (J : Nat → Int64) (B : Nat → Nat → Int32) (D : Nat → Nat → Int64) : Prop :=
  (((I 19) < x1 → ∀ z9 : Int32, z9 = ((I 20) - 1) → ∃ n : Nat, wl_Graph_turnRound_79  Post n z9 I J B D) ∧ (¬ (I 19) < x1 → vp_in x1 97 ∧ ∀ z10 : Int32, z10 = ((B 37) x1.toNatClampNeg) → ∀ z11 : Int32, z11 = (x1 - 1) → vp_in z11 97 ∧ ∀ z12 : Int32, z12 = ((B 37) z11.toNatClampNeg) → ∀ z13 : Int32, z13 = (z10 + z12) → vp_in x1 97 ∧ ∀ z14 : Int32, z14 = (x1 + 1) → K41 z14 I J (va_up B 37 (upd (B 37) x1.toNatClampNeg z13)) D))
def wl_Graph_turnRound_41 (Post : (Nat → Int32) → (Nat → Int64) → (Nat → Nat → Int32) → (Nat → Nat → Int64) → Prop) (n : Nat) : Int32 → (Nat → Int32) → (Nat → Int64) → (Nat → Nat → Int32) → (Nat → Nat → Int64) → Prop := Nat.rec (fun _ _ _ _ _ => False) (fun _ r => wb_Graph_turnRound_41  r Post) n
def wb_Graph_turnRound_10 (K10 : Int32 → (Nat → Int32) → (Nat → Int64) → (Nat → Nat → Int32) → (Nat → Nat → Int64) → Prop) (Post : (Nat → Int32) → (Nat → Int64) → (Nat → Nat → Int32) → (Nat → Nat → Int64) → Prop) (x1 : Int32) (I : Nat → Int32) (J : Nat → Int64) (B : Nat → Nat → Int32) (D : Nat → Nat → Int64) : Prop :=
  (((I 20) ≤ x1 → ∃ n : Nat, wl_Graph_turnRound_41  Post n 1 I J B D) ∧ (¬ (I 20) ≤ x1 → vp_in x1 400 ∧ ∀ z16 : Int32, z16 = ((B 34) x1.toNatClampNeg) → vp_in z16 97 ∧ ∀ z17 : Int32, z17 = ((B 37) z16.toNatClampNeg) → ∀ z18 : Int32, z18 = (z17 + 1) → vp_in z16 97 ∧ ∀ z19 : Int32, z19 = (x1 + 1) → K10 z19 I J (va_up B 37 (upd (B 37) z16.toNatClampNeg z18)) D))
def wl_Graph_turnRound_10 (Post : (Nat → Int32) → (Nat → Int64) → (Nat → Nat → Int32) → (Nat → Nat → Int64) → Prop) (n : Nat) : Int32 → (Nat → Int32) → (Nat → Int64) → (Nat → Nat → Int32) → (Nat → Nat → Int64) → Prop := Nat.rec (fun _ _ _ _ _ => False) (fun _ r => wb_Graph_turnRound_10  r Post) n
def wp_Graph_turnRound (I : Nat → Int32) (J : Nat → Int64) (B : Nat → Nat → Int32) (D : Nat → Nat → Int64) (Post : (Nat → Int32) → (Nat → Int64) → (Nat → Nat → Int32) → (Nat → Nat → Int64) → Prop) : Prop :=
  ∃ n : Nat, wl_Graph_turnRound_10  Post n 0 I J (va_up B 37 (zFill (B 37) 0 97)) D
set_option maxHeartbeats 8000000 in
set_option maxRecDepth 100000 in
theorem wB_Graph_turnRound_79 {p : Program} {l : Launch} {e : Env} {s : State} {m : MethodId} {below : List Frame} {meth : Method} {c : Code} {A : Nat → Prop} (G : va_G) (K : Nat → ClassId) (ad : Nat → Nat) (sv : Value) (Post : (Nat → Int32) → (Nat → Int64) → (Nat → Nat → Int32) → (Nat → Nat → Int64) → Prop) (C : zCx p s m ([.ref (ad 8)] : List Value).toArray meth c A G K prog_3_method_9_code none 3 "LassoFinder$Graph") (K79 : Int32 → (Nat → Int32) → (Nat → Int64) → (Nat → Nat → Int32) → (Nat → Nat → Int64) → Prop) (kh79 : ∀ (x1 : Int32) (I : Nat → Int32) (J : Nat → Int64) (B : Nat → Nat → Int32) (D : Nat → Nat → Int64) (ls : Array Slot) (H : Heap) (locs : List Loc), K79 x1 I J B D → lv_has ls 3 [(0, .ref (ad 8)), (1, .int x1)] → zW G A s.heap (wX ad K sv I J B D) H locs → W p l e { frames := 1, cells := 0, slots := 0, locals := 23 } s m ([.ref (ad 8)] : List Value).toArray below meth c H locs 0 0 (MQ below (va_Qv (fun u : zS => Post u.1 u.2.1 u.2.2.1 u.2.2.2) (fun u t => zPost G K A (wX ad K sv u.1 u.2.1 u.2.2.1 u.2.2.2) t) A) ([.ref (ad 8)] : List Value).toArray s 0 0 A) (F0 m 79 ls [])) : ∀ (x1 : Int32) (I : Nat → Int32) (J : Nat → Int64) (B : Nat → Nat → Int32) (D : Nat → Nat → Int64) (ls : Array Slot) (H : Heap) (locs : List Loc), wb_Graph_turnRound_79  K79 Post x1 I J B D → lv_has ls 3 [(0, .ref (ad 8)), (1, .int x1)] → zW G A s.heap (wX ad K sv I J B D) H locs → W p l e { frames := 1, cells := 0, slots := 0, locals := 23 } s m ([.ref (ad 8)] : List Value).toArray below meth c H locs 0 0 (MQ below (va_Qv (fun u : zS => Post u.1 u.2.1 u.2.2.1 u.2.2.2) (fun u t => zPost G K A (wX ad K sv u.1 u.2.1 u.2.2.1 u.2.2.2) t) A) ([.ref (ad 8)] : List Value).toArray s 0 0 A) (F0 m 79 ls []) := by
  obtain ⟨hx, hb, hr, hml, hts, hown, hlocks, hA, hK⟩ := id C
  intro x1 I J B D ls H locs hok hl hw
  unfold wb_Graph_turnRound_79 at hok
  refine lv_iload_n hx hb zd_Graph_turnRound_79 rfl (lv_at hl 1 rfl) ?_
  refine lv_if_lt (tgt := 123) hx hb zd_Graph_turnRound_80 (by decide) (fun hc1 => ?_) (fun hc1 => ?_)
  · have hok := hok.1 hc1
    exact (z_vret (u := (I, J, B, D)) hx hb hr hlocks hw (List.range 65) wX_all wX_nd hok (Nat.le_of_ble_eq_true rfl) (Nat.le_of_ble_eq_true rfl) zd_Graph_turnRound_123)
  · have hok := hok.2 hc1
    refine lv_aload_n hx hb zd_Graph_turnRound_83 rfl (lv_at hl 0 rfl) ?_
    refine z_get (v := .ref (ad 49)) hx hb hts hown hK hw zZ2 8 wX_g8 4 (by decide) zn_272 rfl zd_Graph_turnRound_84 ?_
    refine lv_iload_n hx hb zd_Graph_turnRound_87 rfl (lv_at hl 1 rfl) ?_
    refine va_iald (f := (B 34)) hx hb hK hw.1 49 0 wX_a49 rfl hok.1 zd_Graph_turnRound_88 ?_
    have hok := hok.2
    refine lv_topi (fun z2 ez2 => ?_)
    have hok := hok z2 ez2
    refine lv_istore_n hx hb zd_Graph_turnRound_89 rfl hl (by decide) rfl (fun ls hl => ?_)
    have hl : lv_has ls 3 [(2, .int z2), (0, .ref (ad 8)), (1, .int x1)] := hl
    refine lv_aload_n hx hb zd_Graph_turnRound_90 rfl (lv_at hl 1 rfl) ?_
    refine z_get (v := .ref (ad 52)) hx hb hts hown hK hw zZ2 8 wX_g8 7 (by decide) zn_275 rfl zd_Graph_turnRound_91 ?_
    refine lv_iload_n hx hb zd_Graph_turnRound_94 rfl (lv_at hl 0 rfl) ?_
    refine lv_dup2_11 hx hb zd_Graph_turnRound_95 rfl rfl ?_
    refine va_iald (f := (B 37)) hx hb hK hw.1 52 0 wX_a52 rfl hok.1 zd_Graph_turnRound_96 ?_
    have hok := hok.2
    refine lv_topi (fun z3 ez3 => ?_)
    have hok := hok z3 ez3
    refine lv_iconst (v := 1) hx hb zd_Graph_turnRound_97 (by decide) ?_
    refine lv_isub hx hb zd_Graph_turnRound_98 ?_
    refine lv_topi (fun z4 ez4 => ?_)
    have hok := hok z4 ez4
    refine va_iast (f := (B 37)) hx hb hK hw.1 hw.2.1 hw.2.2 52 0 wX_a52 rfl hok.1 zd_Graph_turnRound_99 (fun H locs w91 w92 w93 => ?_)
    have hok := hok.2
    have hw := wX_t52 ⟨w91, w92, w93⟩
    refine lv_aload_n hx hb zd_Graph_turnRound_100 rfl (lv_at hl 1 rfl) ?_
    refine z_get (v := .ref (ad 53)) hx hb hts hown hK hw zZ2 8 wX_g8 8 (by decide) zn_276 rfl zd_Graph_turnRound_101 ?_
    refine lv_aload_n hx hb zd_Graph_turnRound_104 rfl (lv_at hl 1 rfl) ?_
    refine z_get (v := .ref (ad 52)) hx hb hts hown hK hw zZ2 8 wX_g8 7 (by decide) zn_275 rfl zd_Graph_turnRound_105 ?_
    refine lv_iload_n hx hb zd_Graph_turnRound_108 rfl (lv_at hl 0 rfl) ?_
    refine va_iald (f := (upd (B 37) z2.toNatClampNeg z4)) hx hb hK hw.1 52 0 wX_a52 rfl hok.1 zd_Graph_turnRound_109 ?_
    have hok := hok.2
    refine lv_topi (fun z5 ez5 => ?_)
    have hok := hok z5 ez5
    refine lv_aload_n hx hb zd_Graph_turnRound_110 rfl (lv_at hl 1 rfl) ?_
    refine z_get (v := .ref (ad 48)) hx hb hts hown hK hw zZ2 8 wX_g8 3 (by decide) zn_271 rfl zd_Graph_turnRound_111 ?_
    refine lv_iload_n hx hb zd_Graph_turnRound_114 rfl (lv_at hl 2 rfl) ?_
    refine va_iald (f := (B 33)) hx hb hK hw.1 48 0 wX_a48 rfl hok.1 zd_Graph_turnRound_115 ?_
    have hok := hok.2
    refine lv_topi (fun z6 ez6 => ?_)
    have hok := hok z6 ez6
    refine va_iast (f := (B 38)) hx hb hK hw.1 hw.2.1 hw.2.2 53 0 wX_a53 rfl hok.1 zd_Graph_turnRound_116 (fun H locs w91 w92 w93 => ?_)
    have hok := hok.2
    have hw := wX_t53 ⟨w91, w92, w93⟩
    obtain ⟨z7, ez7⟩ : ∃ z : Int32, z = (x1 + (-1)) := ⟨_, rfl⟩
    have hok := hok z7 ez7
    refine lv_iinc (v := z7) hx hb zd_Graph_turnRound_117 hl (k := 2) rfl ez7.symm (by decide) rfl (fun ls hl => ?_)
    have hl : lv_has ls 3 [(1, .int z7), (2, .int z2), (0, .ref (ad 8))] := hl
    refine lv_goto (tgt := 79) hx hb zd_Graph_turnRound_120 (by decide) ?_
    exact kh79 z7 I J (va_up (va_up B 37 (upd (B 37) z2.toNatClampNeg z4)) 38 (upd (B 38) z5.toNatClampNeg z6)) D ls H locs hok (lv_sub hl [2, 0] rfl) hw
theorem wL_Graph_turnRound_79 {p : Program} {l : Launch} {e : Env} {s : State} {m : MethodId} {below : List Frame} {meth : Method} {c : Code} {A : Nat → Prop} (G : va_G) (K : Nat → ClassId) (ad : Nat → Nat) (sv : Value) (Post : (Nat → Int32) → (Nat → Int64) → (Nat → Nat → Int32) → (Nat → Nat → Int64) → Prop) (C : zCx p s m ([.ref (ad 8)] : List Value).toArray meth c A G K prog_3_method_9_code none 3 "LassoFinder$Graph") : ∀ (n : Nat) (x1 : Int32) (I : Nat → Int32) (J : Nat → Int64) (B : Nat → Nat → Int32) (D : Nat → Nat → Int64) (ls : Array Slot) (H : Heap) (locs : List Loc), wl_Graph_turnRound_79  Post n x1 I J B D → lv_has ls 3 [(0, .ref (ad 8)), (1, .int x1)] → zW G A s.heap (wX ad K sv I J B D) H locs → W p l e { frames := 1, cells := 0, slots := 0, locals := 23 } s m ([.ref (ad 8)] : List Value).toArray below meth c H locs 0 0 (MQ below (va_Qv (fun u : zS => Post u.1 u.2.1 u.2.2.1 u.2.2.2) (fun u t => zPost G K A (wX ad K sv u.1 u.2.1 u.2.2.1 u.2.2.2) t) A) ([.ref (ad 8)] : List Value).toArray s 0 0 A) (F0 m 79 ls []) := by
  intro n
  induction n with
  | zero => intro x1 I J B D ls H locs hok; exact hok.elim
  | succ n ih => exact wB_Graph_turnRound_79 G K ad sv  Post C (wl_Graph_turnRound_79  Post n) ih
set_option maxHeartbeats 8000000 in
set_option maxRecDepth 100000 in
theorem wB_Graph_turnRound_41 {p : Program} {l : Launch} {e : Env} {s : State} {m : MethodId} {below : List Frame} {meth : Method} {c : Code} {A : Nat → Prop} (G : va_G) (K : Nat → ClassId) (ad : Nat → Nat) (sv : Value) (Post : (Nat → Int32) → (Nat → Int64) → (Nat → Nat → Int32) → (Nat → Nat → Int64) → Prop) (C : zCx p s m ([.ref (ad 8)] : List Value).toArray meth c A G K prog_3_method_9_code none 3 "LassoFinder$Graph") (K41 : Int32 → (Nat → Int32) → (Nat → Int64) → (Nat → Nat → Int32) → (Nat → Nat → Int64) → Prop) (kh41 : ∀ (x1 : Int32) (I : Nat → Int32) (J : Nat → Int64) (B : Nat → Nat → Int32) (D : Nat → Nat → Int64) (ls : Array Slot) (H : Heap) (locs : List Loc), K41 x1 I J B D → lv_has ls 3 [(0, .ref (ad 8)), (1, .int x1)] → zW G A s.heap (wX ad K sv I J B D) H locs → W p l e { frames := 1, cells := 0, slots := 0, locals := 23 } s m ([.ref (ad 8)] : List Value).toArray below meth c H locs 0 0 (MQ below (va_Qv (fun u : zS => Post u.1 u.2.1 u.2.2.1 u.2.2.2) (fun u t => zPost G K A (wX ad K sv u.1 u.2.1 u.2.2.1 u.2.2.2) t) A) ([.ref (ad 8)] : List Value).toArray s 0 0 A) (F0 m 41 ls [])) : ∀ (x1 : Int32) (I : Nat → Int32) (J : Nat → Int64) (B : Nat → Nat → Int32) (D : Nat → Nat → Int64) (ls : Array Slot) (H : Heap) (locs : List Loc), wb_Graph_turnRound_41  K41 Post x1 I J B D → lv_has ls 3 [(0, .ref (ad 8)), (1, .int x1)] → zW G A s.heap (wX ad K sv I J B D) H locs → W p l e { frames := 1, cells := 0, slots := 0, locals := 23 } s m ([.ref (ad 8)] : List Value).toArray below meth c H locs 0 0 (MQ below (va_Qv (fun u : zS => Post u.1 u.2.1 u.2.2.1 u.2.2.2) (fun u t => zPost G K A (wX ad K sv u.1 u.2.1 u.2.2.1 u.2.2.2) t) A) ([.ref (ad 8)] : List Value).toArray s 0 0 A) (F0 m 41 ls []) := by
  obtain ⟨hx, hb, hr, hml, hts, hown, hlocks, hA, hK⟩ := id C
  intro x1 I J B D ls H locs hok hl hw
  unfold wb_Graph_turnRound_41 at hok
  refine lv_iload_n hx hb zd_Graph_turnRound_41 rfl (lv_at hl 1 rfl) ?_
  refine lv_aload_n hx hb zd_Graph_turnRound_42 rfl (lv_at hl 0 rfl) ?_
  refine z_get (v := .int (I 19)) hx hb hts hown hK hw zZ2 8 wX_g8 9 (by decide) zn_429 rfl zd_Graph_turnRound_43 ?_
  refine lv_icmp_gt (tgt := 72) hx hb zd_Graph_turnRound_46 (by decide) (fun hc8 => ?_) (fun hc8 => ?_)
  · have hok := hok.1 hc8
    refine lv_aload_n hx hb zd_Graph_turnRound_72 rfl (lv_at hl 0 rfl) ?_
    refine z_get (v := .int (I 20)) hx hb hts hown hK hw zZ2 8 wX_g8 10 (by decide) zn_430 rfl zd_Graph_turnRound_73 ?_
    refine lv_iconst (v := 1) hx hb zd_Graph_turnRound_76 (by decide) ?_
    refine lv_isub hx hb zd_Graph_turnRound_77 ?_
    refine lv_topi (fun z9 ez9 => ?_)
    have hok := hok z9 ez9
    refine lv_istore_n hx hb zd_Graph_turnRound_78 rfl hl (by decide) rfl (fun ls hl => ?_)
    have hl : lv_has ls 3 [(1, .int z9), (0, .ref (ad 8))] := hl
    obtain ⟨n9, hok⟩ := hok
    exact wL_Graph_turnRound_79 G K ad sv  Post C n9 z9 I J B D ls H locs hok (lv_sub hl [1, 0] rfl) hw
  · have hok := hok.2 hc8
    refine lv_aload_n hx hb zd_Graph_turnRound_49 rfl (lv_at hl 0 rfl) ?_
    refine z_get (v := .ref (ad 52)) hx hb hts hown hK hw zZ2 8 wX_g8 7 (by decide) zn_275 rfl zd_Graph_turnRound_50 ?_
    refine lv_iload_n hx hb zd_Graph_turnRound_53 rfl (lv_at hl 1 rfl) ?_
    refine lv_dup2_11 hx hb zd_Graph_turnRound_54 rfl rfl ?_
    refine va_iald (f := (B 37)) hx hb hK hw.1 52 0 wX_a52 rfl hok.1 zd_Graph_turnRound_55 ?_
    have hok := hok.2
    refine lv_topi (fun z10 ez10 => ?_)
    have hok := hok z10 ez10
    refine lv_aload_n hx hb zd_Graph_turnRound_56 rfl (lv_at hl 0 rfl) ?_
    refine z_get (v := .ref (ad 52)) hx hb hts hown hK hw zZ2 8 wX_g8 7 (by decide) zn_275 rfl zd_Graph_turnRound_57 ?_
    refine lv_iload_n hx hb zd_Graph_turnRound_60 rfl (lv_at hl 1 rfl) ?_
    refine lv_iconst (v := 1) hx hb zd_Graph_turnRound_61 (by decide) ?_
    refine lv_isub hx hb zd_Graph_turnRound_62 ?_
    refine lv_topi (fun z11 ez11 => ?_)
    have hok := hok z11 ez11
    refine va_iald (f := (B 37)) hx hb hK hw.1 52 0 wX_a52 rfl hok.1 zd_Graph_turnRound_63 ?_
    have hok := hok.2
    refine lv_topi (fun z12 ez12 => ?_)
    have hok := hok z12 ez12
    refine lv_iadd hx hb zd_Graph_turnRound_64 ?_
    refine lv_topi (fun z13 ez13 => ?_)
    have hok := hok z13 ez13
    refine va_iast (f := (B 37)) hx hb hK hw.1 hw.2.1 hw.2.2 52 0 wX_a52 rfl hok.1 zd_Graph_turnRound_65 (fun H locs w91 w92 w93 => ?_)
    have hok := hok.2
    have hw := wX_t52 ⟨w91, w92, w93⟩
    obtain ⟨z14, ez14⟩ : ∃ z : Int32, z = (x1 + 1) := ⟨_, rfl⟩
    have hok := hok z14 ez14
    refine lv_iinc (v := z14) hx hb zd_Graph_turnRound_66 hl (k := 1) rfl ez14.symm (by decide) rfl (fun ls hl => ?_)
    have hl : lv_has ls 3 [(1, .int z14), (0, .ref (ad 8))] := hl
    refine lv_goto (tgt := 41) hx hb zd_Graph_turnRound_69 (by decide) ?_
    exact kh41 z14 I J (va_up B 37 (upd (B 37) x1.toNatClampNeg z13)) D ls H locs hok (lv_sub hl [1, 0] rfl) hw
theorem wL_Graph_turnRound_41 {p : Program} {l : Launch} {e : Env} {s : State} {m : MethodId} {below : List Frame} {meth : Method} {c : Code} {A : Nat → Prop} (G : va_G) (K : Nat → ClassId) (ad : Nat → Nat) (sv : Value) (Post : (Nat → Int32) → (Nat → Int64) → (Nat → Nat → Int32) → (Nat → Nat → Int64) → Prop) (C : zCx p s m ([.ref (ad 8)] : List Value).toArray meth c A G K prog_3_method_9_code none 3 "LassoFinder$Graph") : ∀ (n : Nat) (x1 : Int32) (I : Nat → Int32) (J : Nat → Int64) (B : Nat → Nat → Int32) (D : Nat → Nat → Int64) (ls : Array Slot) (H : Heap) (locs : List Loc), wl_Graph_turnRound_41  Post n x1 I J B D → lv_has ls 3 [(0, .ref (ad 8)), (1, .int x1)] → zW G A s.heap (wX ad K sv I J B D) H locs → W p l e { frames := 1, cells := 0, slots := 0, locals := 23 } s m ([.ref (ad 8)] : List Value).toArray below meth c H locs 0 0 (MQ below (va_Qv (fun u : zS => Post u.1 u.2.1 u.2.2.1 u.2.2.2) (fun u t => zPost G K A (wX ad K sv u.1 u.2.1 u.2.2.1 u.2.2.2) t) A) ([.ref (ad 8)] : List Value).toArray s 0 0 A) (F0 m 41 ls []) := by
  intro n
  induction n with
  | zero => intro x1 I J B D ls H locs hok; exact hok.elim
  | succ n ih => exact wB_Graph_turnRound_41 G K ad sv  Post C (wl_Graph_turnRound_41  Post n) ih
set_option maxHeartbeats 8000000 in
set_option maxRecDepth 100000 in
theorem wB_Graph_turnRound_10 {p : Program} {l : Launch} {e : Env} {s : State} {m : MethodId} {below : List Frame} {meth : Method} {c : Code} {A : Nat → Prop} (G : va_G) (K : Nat → ClassId) (ad : Nat → Nat) (sv : Value) (Post : (Nat → Int32) → (Nat → Int64) → (Nat → Nat → Int32) → (Nat → Nat → Int64) → Prop) (C : zCx p s m ([.ref (ad 8)] : List Value).toArray meth c A G K prog_3_method_9_code none 3 "LassoFinder$Graph") (K10 : Int32 → (Nat → Int32) → (Nat → Int64) → (Nat → Nat → Int32) → (Nat → Nat → Int64) → Prop) (kh10 : ∀ (x1 : Int32) (I : Nat → Int32) (J : Nat → Int64) (B : Nat → Nat → Int32) (D : Nat → Nat → Int64) (ls : Array Slot) (H : Heap) (locs : List Loc), K10 x1 I J B D → lv_has ls 3 [(0, .ref (ad 8)), (1, .int x1)] → zW G A s.heap (wX ad K sv I J B D) H locs → W p l e { frames := 1, cells := 0, slots := 0, locals := 23 } s m ([.ref (ad 8)] : List Value).toArray below meth c H locs 0 0 (MQ below (va_Qv (fun u : zS => Post u.1 u.2.1 u.2.2.1 u.2.2.2) (fun u t => zPost G K A (wX ad K sv u.1 u.2.1 u.2.2.1 u.2.2.2) t) A) ([.ref (ad 8)] : List Value).toArray s 0 0 A) (F0 m 10 ls [])) : ∀ (x1 : Int32) (I : Nat → Int32) (J : Nat → Int64) (B : Nat → Nat → Int32) (D : Nat → Nat → Int64) (ls : Array Slot) (H : Heap) (locs : List Loc), wb_Graph_turnRound_10  K10 Post x1 I J B D → lv_has ls 3 [(0, .ref (ad 8)), (1, .int x1)] → zW G A s.heap (wX ad K sv I J B D) H locs → W p l e { frames := 1, cells := 0, slots := 0, locals := 23 } s m ([.ref (ad 8)] : List Value).toArray below meth c H locs 0 0 (MQ below (va_Qv (fun u : zS => Post u.1 u.2.1 u.2.2.1 u.2.2.2) (fun u t => zPost G K A (wX ad K sv u.1 u.2.1 u.2.2.1 u.2.2.2) t) A) ([.ref (ad 8)] : List Value).toArray s 0 0 A) (F0 m 10 ls []) := by
  obtain ⟨hx, hb, hr, hml, hts, hown, hlocks, hA, hK⟩ := id C
  intro x1 I J B D ls H locs hok hl hw
  unfold wb_Graph_turnRound_10 at hok
  refine lv_iload_n hx hb zd_Graph_turnRound_10 rfl (lv_at hl 1 rfl) ?_
  refine lv_aload_n hx hb zd_Graph_turnRound_11 rfl (lv_at hl 0 rfl) ?_
  refine z_get (v := .int (I 20)) hx hb hts hown hK hw zZ2 8 wX_g8 10 (by decide) zn_430 rfl zd_Graph_turnRound_12 ?_
  refine lv_icmp_ge (tgt := 39) hx hb zd_Graph_turnRound_15 (by decide) (fun hc15 => ?_) (fun hc15 => ?_)
  · have hok := hok.1 hc15
    refine lv_iconst (v := 1) hx hb zd_Graph_turnRound_39 (by decide) ?_
    refine lv_istore_n hx hb zd_Graph_turnRound_40 rfl hl (by decide) rfl (fun ls hl => ?_)
    have hl : lv_has ls 3 [(1, .int 1), (0, .ref (ad 8))] := hl
    obtain ⟨n9, hok⟩ := hok
    exact wL_Graph_turnRound_41 G K ad sv  Post C n9 1 I J B D ls H locs hok (lv_sub hl [1, 0] rfl) hw
  · have hok := hok.2 hc15
    refine lv_aload_n hx hb zd_Graph_turnRound_18 rfl (lv_at hl 0 rfl) ?_
    refine z_get (v := .ref (ad 52)) hx hb hts hown hK hw zZ2 8 wX_g8 7 (by decide) zn_275 rfl zd_Graph_turnRound_19 ?_
    refine lv_aload_n hx hb zd_Graph_turnRound_22 rfl (lv_at hl 0 rfl) ?_
    refine z_get (v := .ref (ad 49)) hx hb hts hown hK hw zZ2 8 wX_g8 4 (by decide) zn_272 rfl zd_Graph_turnRound_23 ?_
    refine lv_iload_n hx hb zd_Graph_turnRound_26 rfl (lv_at hl 1 rfl) ?_
    refine va_iald (f := (B 34)) hx hb hK hw.1 49 0 wX_a49 rfl hok.1 zd_Graph_turnRound_27 ?_
    have hok := hok.2
    refine lv_topi (fun z16 ez16 => ?_)
    have hok := hok z16 ez16
    refine lv_dup2_11 hx hb zd_Graph_turnRound_28 rfl rfl ?_
    refine va_iald (f := (B 37)) hx hb hK hw.1 52 0 wX_a52 rfl hok.1 zd_Graph_turnRound_29 ?_
    have hok := hok.2
    refine lv_topi (fun z17 ez17 => ?_)
    have hok := hok z17 ez17
    refine lv_iconst (v := 1) hx hb zd_Graph_turnRound_30 (by decide) ?_
    refine lv_iadd hx hb zd_Graph_turnRound_31 ?_
    refine lv_topi (fun z18 ez18 => ?_)
    have hok := hok z18 ez18
    refine va_iast (f := (B 37)) hx hb hK hw.1 hw.2.1 hw.2.2 52 0 wX_a52 rfl hok.1 zd_Graph_turnRound_32 (fun H locs w91 w92 w93 => ?_)
    have hok := hok.2
    have hw := wX_t52 ⟨w91, w92, w93⟩
    obtain ⟨z19, ez19⟩ : ∃ z : Int32, z = (x1 + 1) := ⟨_, rfl⟩
    have hok := hok z19 ez19
    refine lv_iinc (v := z19) hx hb zd_Graph_turnRound_33 hl (k := 1) rfl ez19.symm (by decide) rfl (fun ls hl => ?_)
    have hl : lv_has ls 3 [(1, .int z19), (0, .ref (ad 8))] := hl
    refine lv_goto (tgt := 10) hx hb zd_Graph_turnRound_36 (by decide) ?_
    exact kh10 z19 I J (va_up B 37 (upd (B 37) z16.toNatClampNeg z18)) D ls H locs hok (lv_sub hl [1, 0] rfl) hw
theorem wL_Graph_turnRound_10 {p : Program} {l : Launch} {e : Env} {s : State} {m : MethodId} {below : List Frame} {meth : Method} {c : Code} {A : Nat → Prop} (G : va_G) (K : Nat → ClassId) (ad : Nat → Nat) (sv : Value) (Post : (Nat → Int32) → (Nat → Int64) → (Nat → Nat → Int32) → (Nat → Nat → Int64) → Prop) (C : zCx p s m ([.ref (ad 8)] : List Value).toArray meth c A G K prog_3_method_9_code none 3 "LassoFinder$Graph") : ∀ (n : Nat) (x1 : Int32) (I : Nat → Int32) (J : Nat → Int64) (B : Nat → Nat → Int32) (D : Nat → Nat → Int64) (ls : Array Slot) (H : Heap) (locs : List Loc), wl_Graph_turnRound_10  Post n x1 I J B D → lv_has ls 3 [(0, .ref (ad 8)), (1, .int x1)] → zW G A s.heap (wX ad K sv I J B D) H locs → W p l e { frames := 1, cells := 0, slots := 0, locals := 23 } s m ([.ref (ad 8)] : List Value).toArray below meth c H locs 0 0 (MQ below (va_Qv (fun u : zS => Post u.1 u.2.1 u.2.2.1 u.2.2.2) (fun u t => zPost G K A (wX ad K sv u.1 u.2.1 u.2.2.1 u.2.2.2) t) A) ([.ref (ad 8)] : List Value).toArray s 0 0 A) (F0 m 10 ls []) := by
  intro n
  induction n with
  | zero => intro x1 I J B D ls H locs hok; exact hok.elim
  | succ n ih => exact wB_Graph_turnRound_10 G K ad sv  Post C (wl_Graph_turnRound_10  Post n) ih
set_option maxHeartbeats 8000000 in
set_option maxRecDepth 100000 in
theorem w_Graph_turnRound (l : Launch) (G : va_G) (K : Nat → ClassId) (ad : Nat → Nat) (sv : Value) (I : Nat → Int32) (J : Nat → Int64) (B : Nat → Nat → Int32) (D : Nat → Nat → Int64) (Post : (Nat → Int32) → (Nat → Int64) → (Nat → Nat → Int32) → (Nat → Nat → Int64) → Prop) (sz : Nat) (hok : wp_Graph_turnRound I J B D  Post) : Met l zy_Graph_turnRound (Cond.code zy_Graph_turnRound prog_3_method_9_code 3 none :: zTB) { frames := 1, cells := 0, slots := 0, locals := 23 } (va_Pc [.ref (ad 8)] (zPre G K (wX ad K sv I J B D) sz)) (va_Qv (fun u : zS => Post u.1 u.2.1 u.2.2.1 u.2.2.2) (fun u t => zPost G K (va_A (wX ad K sv I J B D) sz) (wX ad K sv u.1 u.2.1 u.2.2.1 u.2.2.2) t) (va_A (wX ad K sv I J B D) sz)) 0 0 (va_A (wX ad K sv I J B D) sz) := by
  refine zMet (y := zy_Graph_turnRound) (av := [.ref (ad 8)]) (maxL := 3) (cc := prog_3_method_9_code) (ret := none) (W0 := (wX ad K sv I J B D)) (sz := sz) (G := G) (K := K) (wt := zTB) (mc := 0) (ms := 0) (Qf := fun A => va_Qv (fun u : zS => Post u.1 u.2.1 u.2.2.1 u.2.2.2) (fun u t => zPost G K A (wX ad K sv u.1 u.2.1 u.2.2.1 u.2.2.2) t) A) (by decide) (Nat.le_of_ble_eq_true rfl) ?_
  intro p e s m below meth c ls A hx hb hr hml hts hown hlocks hin hA hK H locs hw hsz hl
  clear hsz
  have hown : s.vm.findClass "LassoFinder$Graph" = some m.cls := hown
  have C : zCx p s m ([.ref (ad 8)] : List Value).toArray meth c A G K prog_3_method_9_code none 3 "LassoFinder$Graph" := ⟨hx, hb, hr, hml, hts, hown, hlocks, hA, hK⟩
  have hl : lv_has ls 3 [(0, .ref (ad 8))] := hl
  have hw : zW G A s.heap (wX ad K sv I J B D) H locs := hw
  unfold wp_Graph_turnRound at hok
  refine lv_aload_n hx hb zd_Graph_turnRound_0 rfl (lv_at hl 0 rfl) ?_
  refine z_get (v := .ref (ad 52)) hx hb hts hown hK hw zZ2 8 wX_g8 7 (by decide) zn_275 rfl zd_Graph_turnRound_1 ?_
  refine lv_iconst (v := 0) hx hb zd_Graph_turnRound_4 (by decide) ?_
  refine z_fillI (f := (B 37)) (v := 0) (n := 97) (rest := []) ⟨hx, hb, hml, hown, hts⟩ hK hw hA 52 wX_a52 (by decide) zn_427 ⟨(Nat.le_of_ble_eq_true rfl), (Nat.le_of_ble_eq_true rfl)⟩ hl.1 rfl (Nat.le_of_ble_eq_true rfl) zd_Graph_turnRound_5 ⟨(Nat.le_of_ble_eq_true rfl), (Nat.le_of_ble_eq_true rfl)⟩ (fun H locs hw => ?_)
  have hw := wX_t52 hw
  refine lv_iconst (v := 0) hx hb zd_Graph_turnRound_8 (by decide) ?_
  refine lv_istore_n hx hb zd_Graph_turnRound_9 rfl hl (by decide) rfl (fun ls hl => ?_)
  have hl : lv_has ls 3 [(1, .int 0), (0, .ref (ad 8))] := hl
  obtain ⟨n9, hok⟩ := hok
  exact wL_Graph_turnRound_10 G K ad sv  Post C n9 0 I J (va_up B 37 (zFill (B 37) 0 97)) D ls H locs hok (lv_sub hl [1, 0] rfl) hw
