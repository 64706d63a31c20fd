abbrev zy_Names_clear : MethodName := ⟨"LassoFinder$Names", "clear", "()V"⟩
abbrev zy_Terms_clear : MethodName := ⟨"LassoFinder$Terms", "clear", "()V"⟩
abbrev zy_Program_clear : MethodName := ⟨"LassoFinder$Program", "clear", "()V"⟩
abbrev zy_ModelReader_readDeclaration : MethodName := ⟨"LassoFinder$ModelReader", "readDeclaration", "()V"⟩
abbrev zy_Names_hasRoom : MethodName := ⟨"LassoFinder$Names", "hasRoom", "(I)Z"⟩
abbrev zy_Names_declare : MethodName := ⟨"LassoFinder$Names", "declare", "(III)V"⟩
abbrev zy_ModelReader_readElse : MethodName := ⟨"LassoFinder$ModelReader", "readElse", "(II)V"⟩
abbrev zy_ModelReader_readNamed : MethodName := ⟨"LassoFinder$ModelReader", "readNamed", "()V"⟩
theorem zn_325 : Cond.methodLink "LassoFinder$Names" 22 ⟨"java/util/Arrays", "fill", "([II)V"⟩ ∈ zTB := z_in (zt_3 _ (List.mem_of_getElem? (i := 107) rfl)) rfl
theorem zn_328 : Cond.methodLink "LassoFinder$Program" 49 ⟨"java/util/Arrays", "fill", "([JJ)V"⟩ ∈ zTB := z_in (zt_3 _ (List.mem_of_getElem? (i := 118) rfl)) rfl
theorem zn_329 : Cond.methodLink "LassoFinder$Program" 55 ⟨"java/util/Arrays", "fill", "([II)V"⟩ ∈ zTB := z_in (zt_3 _ (List.mem_of_getElem? (i := 121) rfl)) rfl
theorem zn_335 : Cond.methodLink "LassoFinder$ModelReader" 88 ⟨"LassoFinder$Names", "hasRoom", "(I)Z"⟩ ∈ zTB := z_in (zt_3 _ (List.mem_of_getElem? (i := 139) rfl)) rfl
theorem zn_339 : Cond.methodLink "LassoFinder$ModelReader" 92 ⟨"LassoFinder$Names", "declare", "(III)V"⟩ ∈ zTB := z_in (zt_3 _ (List.mem_of_getElem? (i := 215) rfl)) rfl
theorem zn_340 : Cond.methodLink "LassoFinder$ModelReader" 96 ⟨"LassoFinder$Text", "expect", "(C)V"⟩ ∈ zTB := z_in (zt_3 _ (List.mem_of_getElem? (i := 219) rfl)) rfl
theorem zn_356 : Cond.methodLink "LassoFinder$ModelReader" 172 ⟨"LassoFinder$ModelReader", "leadsInside", "(II)Z"⟩ ∈ zTB := z_in (zt_4 _ (List.mem_of_getElem? (i := 31) rfl)) rfl
theorem zn_360 : Cond.methodLink "LassoFinder$ModelReader" 157 ⟨"LassoFinder$Program", "add", "(IIII)V"⟩ ∈ zTB := z_in (zt_4 _ (List.mem_of_getElem? (i := 43) rfl)) rfl
theorem zn_362 : Cond.methodLink "LassoFinder$ModelReader" 163 ⟨"LassoFinder$Terms", "read", "(I)I"⟩ ∈ zTB := z_in (zt_4 _ (List.mem_of_getElem? (i := 51) rfl)) rfl
theorem zn_419 : Cond.fieldLink "LassoFinder$ModelReader" 15 "LassoFinder$ModelReader" "names" "LLassoFinder$Names;" ∈ zTB := z_in (zt_2 _ (List.mem_of_getElem? (i := 23) rfl)) rfl
theorem zn_420 : Cond.fieldLink "LassoFinder$ModelReader" 19 "LassoFinder$ModelReader" "terms" "LLassoFinder$Terms;" ∈ zTB := z_in (zt_2 _ (List.mem_of_getElem? (i := 24) rfl)) rfl
theorem zn_421 : Cond.fieldLink "LassoFinder$ModelReader" 23 "LassoFinder$ModelReader" "program" "LLassoFinder$Program;" ∈ zTB := z_in (zt_2 _ (List.mem_of_getElem? (i := 25) rfl)) rfl
theorem zn_447 : Cond.fieldLink "LassoFinder$ModelReader" 110 "LassoFinder$Tree" "kinds" "[I" ∈ zTB := z_in (zt_1 _ (List.mem_of_getElem? (i := 210) rfl)) rfl
theorem zn_448 : Cond.fieldLink "LassoFinder$ModelReader" 84 "LassoFinder$Names" "kinds" "[I" ∈ zTB := z_in (zt_1 _ (List.mem_of_getElem? (i := 63) rfl)) rfl
theorem zn_449 : Cond.fieldLink "LassoFinder$Names" 28 "LassoFinder$Names" "variables" "I" ∈ zTB := z_in (zt_1 _ (List.mem_of_getElem? (i := 72) rfl)) rfl
theorem zn_450 : Cond.fieldLink "LassoFinder$Names" 32 "LassoFinder$Names" "channels" "I" ∈ zTB := z_in (zt_1 _ (List.mem_of_getElem? (i := 74) rfl)) rfl
theorem zn_634 : Cond.code ⟨"LassoFinder$Terms", "read", "(I)I"⟩ prog_9_method_3_code 5 (some .int) ∈ zTB := z_in (zt_4 _ (List.mem_of_getElem? (i := 54) rfl)) rfl
theorem zn_635 : Cond.selects "LassoFinder$Terms" ⟨"LassoFinder$Terms", "read", "(I)I"⟩ ⟨"LassoFinder$Terms", "read", "(I)I"⟩ ∈ zTB := z_in (zt_4 _ (List.mem_of_getElem? (i := 53) rfl)) rfl
theorem zn_636 : Cond.instanceMethod ⟨"LassoFinder$Terms", "read", "(I)I"⟩ ∈ zTB := z_in (zt_4 _ (List.mem_of_getElem? (i := 52) rfl)) rfl
theorem zn_637 : Cond.code ⟨"LassoFinder$Program", "add", "(IIII)V"⟩ prog_7_method_4_code 7 none ∈ zTB := z_in (zt_4 _ (List.mem_of_getElem? (i := 46) rfl)) rfl
theorem zn_638 : Cond.selects "LassoFinder$Program" ⟨"LassoFinder$Program", "add", "(IIII)V"⟩ ⟨"LassoFinder$Program", "add", "(IIII)V"⟩ ∈ zTB := z_in (zt_4 _ (List.mem_of_getElem? (i := 45) rfl)) rfl
theorem zn_639 : Cond.instanceMethod ⟨"LassoFinder$Program", "add", "(IIII)V"⟩ ∈ zTB := z_in (zt_4 _ (List.mem_of_getElem? (i := 44) rfl)) rfl
theorem zn_640 : Cond.code ⟨"LassoFinder$Text", "expect", "(C)V"⟩ prog_10_method_9_code 2 none ∈ zTB := z_in (zt_3 _ (List.mem_of_getElem? (i := 222) rfl)) rfl
theorem zn_641 : Cond.selects "LassoFinder$Text" ⟨"LassoFinder$Text", "expect", "(C)V"⟩ ⟨"LassoFinder$Text", "expect", "(C)V"⟩ ∈ zTB := z_in (zt_3 _ (List.mem_of_getElem? (i := 221) rfl)) rfl
theorem zn_642 : Cond.instanceMethod ⟨"LassoFinder$Text", "expect", "(C)V"⟩ ∈ zTB := z_in (zt_3 _ (List.mem_of_getElem? (i := 220) rfl)) rfl
theorem zn_643 : Cond.code ⟨"LassoFinder$ModelReader", "leadsInside", "(II)Z"⟩ prog_5_method_13_code 2 (some .boolean) ∈ zTB := z_in (zt_4 _ (List.mem_of_getElem? (i := 33) rfl)) rfl
theorem zn_644 : Cond.static ⟨"LassoFinder$ModelReader", "leadsInside", "(II)Z"⟩ ∈ zTB := z_in (zt_4 _ (List.mem_of_getElem? (i := 32) rfl)) rfl
theorem zn_645 : Cond.code ⟨"LassoFinder$Names", "declare", "(III)V"⟩ prog_6_method_4_code 4 none ∈ zTB := z_in (zt_3 _ (List.mem_of_getElem? (i := 218) rfl)) rfl
theorem zn_646 : Cond.selects "LassoFinder$Names" ⟨"LassoFinder$Names", "declare", "(III)V"⟩ ⟨"LassoFinder$Names", "declare", "(III)V"⟩ ∈ zTB := z_in (zt_3 _ (List.mem_of_getElem? (i := 217) rfl)) rfl
theorem zn_647 : Cond.instanceMethod ⟨"LassoFinder$Names", "declare", "(III)V"⟩ ∈ zTB := z_in (zt_3 _ (List.mem_of_getElem? (i := 216) rfl)) rfl
theorem zn_648 : Cond.code ⟨"LassoFinder$Names", "hasRoom", "(I)Z"⟩ prog_6_method_3_code 2 (some .boolean) ∈ zTB := z_in (zt_3 _ (List.mem_of_getElem? (i := 142) rfl)) rfl
theorem zn_649 : Cond.selects "LassoFinder$Names" ⟨"LassoFinder$Names", "hasRoom", "(I)Z"⟩ ⟨"LassoFinder$Names", "hasRoom", "(I)Z"⟩ ∈ zTB := z_in (zt_3 _ (List.mem_of_getElem? (i := 141) rfl)) rfl
theorem zn_650 : Cond.instanceMethod ⟨"LassoFinder$Names", "hasRoom", "(I)Z"⟩ ∈ zTB := z_in (zt_3 _ (List.mem_of_getElem? (i := 140) rfl)) rfl
theorem zf_Terms_read : zFaceV zy_Terms_read prog_9_method_3_code 5 (some .int) 1 := ⟨zn_636, zn_635, zm_17, zn_634, by decide +kernel, by decide +kernel, by decide +kernel⟩
theorem zf_Program_add : zFaceV zy_Program_add prog_7_method_4_code 7 none 4 := ⟨zn_639, zn_638, zm_13, zn_637, by decide +kernel, by decide +kernel, by decide +kernel⟩
theorem zf_Text_expect : zFaceV zy_Text_expect prog_10_method_9_code 2 none 1 := ⟨zn_642, zn_641, zm_19, zn_640, by decide +kernel, by decide +kernel, by decide +kernel⟩
theorem zf_ModelReader_leadsInside : zFaceS zy_ModelReader_leadsInside prog_5_method_13_code 2 (some .boolean) 2 := ⟨zn_644, zm_9, zn_643, by decide +kernel, by decide +kernel, by decide +kernel⟩
theorem zf_Names_declare : zFaceV zy_Names_declare prog_6_method_4_code 4 none 3 := ⟨zn_647, zn_646, zm_11, zn_645, by decide +kernel, by decide +kernel, by decide +kernel⟩
theorem zf_Names_hasRoom : zFaceV zy_Names_hasRoom prog_6_method_3_code 2 (some .boolean) 1 := ⟨zn_650, zn_649, zm_11, zn_648, by decide +kernel, by decide +kernel, by decide +kernel⟩
theorem zd_ModelReader_readDeclaration_0 : decode prog_5_method_3_code 0 = .ok (.aload_n 0, 1) := by decide +kernel
theorem zd_ModelReader_readDeclaration_1 : decode prog_5_method_3_code 1 = .ok (.getfield 9, 3) := by decide +kernel
theorem zd_ModelReader_readDeclaration_4 : decode prog_5_method_3_code 4 = .ok (.bipush 35, 2) := by decide +kernel
theorem zd_ModelReader_readDeclaration_6 : decode prog_5_method_3_code 6 = .ok (.invokevirtual 76, 3) := by decide +kernel
theorem zd_ModelReader_readDeclaration_9 : decode prog_5_method_3_code 9 = .ok (.ifCond .eq 7, 3) := by decide +kernel
theorem zd_ModelReader_readDeclaration_12 : decode prog_5_method_3_code 12 = .ok (.iconst 2, 1) := by decide +kernel
theorem zd_ModelReader_readDeclaration_13 : decode prog_5_method_3_code 13 = .ok (.goto 4, 3) := by decide +kernel
theorem zd_ModelReader_readDeclaration_16 : decode prog_5_method_3_code 16 = .ok (.iconst 1, 1) := by decide +kernel
theorem zd_ModelReader_readDeclaration_17 : decode prog_5_method_3_code 17 = .ok (.istore_n 1, 1) := by decide +kernel
theorem zd_ModelReader_readDeclaration_18 : decode prog_5_method_3_code 18 = .ok (.aload_n 0, 1) := by decide +kernel
theorem zd_ModelReader_readDeclaration_19 : decode prog_5_method_3_code 19 = .ok (.getfield 9, 3) := by decide +kernel
theorem zd_ModelReader_readDeclaration_22 : decode prog_5_method_3_code 22 = .ok (.bipush 97, 2) := by decide +kernel
theorem zd_ModelReader_readDeclaration_24 : decode prog_5_method_3_code 24 = .ok (.invokevirtual 80, 3) := by decide +kernel
theorem zd_ModelReader_readDeclaration_27 : decode prog_5_method_3_code 27 = .ok (.istore_n 2, 1) := by decide +kernel
theorem zd_ModelReader_readDeclaration_28 : decode prog_5_method_3_code 28 = .ok (.iload_n 2, 1) := by decide +kernel
theorem zd_ModelReader_readDeclaration_29 : decode prog_5_method_3_code 29 = .ok (.iconst (-1), 1) := by decide +kernel
theorem zd_ModelReader_readDeclaration_30 : decode prog_5_method_3_code 30 = .ok (.if_icmp .eq 26, 3) := by decide +kernel
theorem zd_ModelReader_readDeclaration_33 : decode prog_5_method_3_code 33 = .ok (.aload_n 0, 1) := by decide +kernel
theorem zd_ModelReader_readDeclaration_34 : decode prog_5_method_3_code 34 = .ok (.getfield 15, 3) := by decide +kernel
theorem zd_ModelReader_readDeclaration_37 : decode prog_5_method_3_code 37 = .ok (.getfield 84, 3) := by decide +kernel
theorem zd_ModelReader_readDeclaration_40 : decode prog_5_method_3_code 40 = .ok (.iload_n 2, 1) := by decide +kernel
theorem zd_ModelReader_readDeclaration_41 : decode prog_5_method_3_code 41 = .ok (.iaload, 1) := by decide +kernel
theorem zd_ModelReader_readDeclaration_42 : decode prog_5_method_3_code 42 = .ok (.ifCond .ne 14, 3) := by decide +kernel
theorem zd_ModelReader_readDeclaration_45 : decode prog_5_method_3_code 45 = .ok (.aload_n 0, 1) := by decide +kernel
theorem zd_ModelReader_readDeclaration_46 : decode prog_5_method_3_code 46 = .ok (.getfield 15, 3) := by decide +kernel
theorem zd_ModelReader_readDeclaration_49 : decode prog_5_method_3_code 49 = .ok (.iload_n 1, 1) := by decide +kernel
theorem zd_ModelReader_readDeclaration_50 : decode prog_5_method_3_code 50 = .ok (.invokevirtual 88, 3) := by decide +kernel
theorem zd_ModelReader_readDeclaration_53 : decode prog_5_method_3_code 53 = .ok (.ifCond .ne 10, 3) := by decide +kernel
theorem zd_ModelReader_readDeclaration_56 : decode prog_5_method_3_code 56 = .ok (.aload_n 0, 1) := by decide +kernel
theorem zd_ModelReader_readDeclaration_57 : decode prog_5_method_3_code 57 = .ok (.getfield 9, 3) := by decide +kernel
theorem zd_ModelReader_readDeclaration_60 : decode prog_5_method_3_code 60 = .ok (.invokevirtual 62, 3) := by decide +kernel
theorem zd_ModelReader_readDeclaration_63 : decode prog_5_method_3_code 63 = .ok (.aload_n 0, 1) := by decide +kernel
theorem zd_ModelReader_readDeclaration_64 : decode prog_5_method_3_code 64 = .ok (.getfield 9, 3) := by decide +kernel
theorem zd_ModelReader_readDeclaration_67 : decode prog_5_method_3_code 67 = .ok (.invokevirtual 65, 3) := by decide +kernel
theorem zd_ModelReader_readDeclaration_70 : decode prog_5_method_3_code 70 = .ok (.iload_n 1, 1) := by decide +kernel
theorem zd_ModelReader_readDeclaration_71 : decode prog_5_method_3_code 71 = .ok (.iconst 2, 1) := by decide +kernel
theorem zd_ModelReader_readDeclaration_72 : decode prog_5_method_3_code 72 = .ok (.if_icmp .eq 15, 3) := by decide +kernel
theorem zd_ModelReader_readDeclaration_75 : decode prog_5_method_3_code 75 = .ok (.aload_n 0, 1) := by decide +kernel
theorem zd_ModelReader_readDeclaration_76 : decode prog_5_method_3_code 76 = .ok (.getfield 9, 3) := by decide +kernel
theorem zd_ModelReader_readDeclaration_79 : decode prog_5_method_3_code 79 = .ok (.bipush 61, 2) := by decide +kernel
theorem zd_ModelReader_readDeclaration_81 : decode prog_5_method_3_code 81 = .ok (.invokevirtual 76, 3) := by decide +kernel
theorem zd_ModelReader_readDeclaration_84 : decode prog_5_method_3_code 84 = .ok (.ifCond .eq 7, 3) := by decide +kernel
theorem zd_ModelReader_readDeclaration_87 : decode prog_5_method_3_code 87 = .ok (.iconst 1, 1) := by decide +kernel
theorem zd_ModelReader_readDeclaration_88 : decode prog_5_method_3_code 88 = .ok (.goto 4, 3) := by decide +kernel
theorem zd_ModelReader_readDeclaration_91 : decode prog_5_method_3_code 91 = .ok (.iconst 0, 1) := by decide +kernel
theorem zd_ModelReader_readDeclaration_92 : decode prog_5_method_3_code 92 = .ok (.istore_n 3, 1) := by decide +kernel
theorem zd_ModelReader_readDeclaration_93 : decode prog_5_method_3_code 93 = .ok (.iconst 0, 1) := by decide +kernel
theorem zd_ModelReader_readDeclaration_94 : decode prog_5_method_3_code 94 = .ok (.istore 4, 2) := by decide +kernel
theorem zd_ModelReader_readDeclaration_96 : decode prog_5_method_3_code 96 = .ok (.iload_n 3, 1) := by decide +kernel
theorem zd_ModelReader_readDeclaration_97 : decode prog_5_method_3_code 97 = .ok (.ifCond .eq 45, 3) := by decide +kernel
theorem zd_ModelReader_readDeclaration_100 : decode prog_5_method_3_code 100 = .ok (.aload_n 0, 1) := by decide +kernel
theorem zd_ModelReader_readDeclaration_101 : decode prog_5_method_3_code 101 = .ok (.getfield 9, 3) := by decide +kernel
theorem zd_ModelReader_readDeclaration_104 : decode prog_5_method_3_code 104 = .ok (.bipush 48, 2) := by decide +kernel
theorem zd_ModelReader_readDeclaration_106 : decode prog_5_method_3_code 106 = .ok (.invokevirtual 80, 3) := by decide +kernel
theorem zd_ModelReader_readDeclaration_109 : decode prog_5_method_3_code 109 = .ok (.istore 4, 2) := by decide +kernel
theorem zd_ModelReader_readDeclaration_111 : decode prog_5_method_3_code 111 = .ok (.iload 4, 2) := by decide +kernel
theorem zd_ModelReader_readDeclaration_113 : decode prog_5_method_3_code 113 = .ok (.iconst (-1), 1) := by decide +kernel
theorem zd_ModelReader_readDeclaration_114 : decode prog_5_method_3_code 114 = .ok (.if_icmp .eq 14, 3) := by decide +kernel
theorem zd_ModelReader_readDeclaration_117 : decode prog_5_method_3_code 117 = .ok (.iload_n 1, 1) := by decide +kernel
theorem zd_ModelReader_readDeclaration_118 : decode prog_5_method_3_code 118 = .ok (.iconst 2, 1) := by decide +kernel
theorem zd_ModelReader_readDeclaration_119 : decode prog_5_method_3_code 119 = .ok (.if_icmp .ne 16, 3) := by decide +kernel
theorem zd_ModelReader_readDeclaration_122 : decode prog_5_method_3_code 122 = .ok (.iload 4, 2) := by decide +kernel
theorem zd_ModelReader_readDeclaration_124 : decode prog_5_method_3_code 124 = .ok (.iconst 3, 1) := by decide +kernel
theorem zd_ModelReader_readDeclaration_125 : decode prog_5_method_3_code 125 = .ok (.if_icmp .le 10, 3) := by decide +kernel
theorem zd_ModelReader_readDeclaration_128 : decode prog_5_method_3_code 128 = .ok (.aload_n 0, 1) := by decide +kernel
theorem zd_ModelReader_readDeclaration_129 : decode prog_5_method_3_code 129 = .ok (.getfield 9, 3) := by decide +kernel
theorem zd_ModelReader_readDeclaration_132 : decode prog_5_method_3_code 132 = .ok (.invokevirtual 62, 3) := by decide +kernel
theorem zd_ModelReader_readDeclaration_135 : decode prog_5_method_3_code 135 = .ok (.aload_n 0, 1) := by decide +kernel
theorem zd_ModelReader_readDeclaration_136 : decode prog_5_method_3_code 136 = .ok (.getfield 9, 3) := by decide +kernel
theorem zd_ModelReader_readDeclaration_139 : decode prog_5_method_3_code 139 = .ok (.invokevirtual 65, 3) := by decide +kernel
theorem zd_ModelReader_readDeclaration_142 : decode prog_5_method_3_code 142 = .ok (.aload_n 0, 1) := by decide +kernel
theorem zd_ModelReader_readDeclaration_143 : decode prog_5_method_3_code 143 = .ok (.getfield 15, 3) := by decide +kernel
theorem zd_ModelReader_readDeclaration_146 : decode prog_5_method_3_code 146 = .ok (.iload_n 2, 1) := by decide +kernel
theorem zd_ModelReader_readDeclaration_147 : decode prog_5_method_3_code 147 = .ok (.iload_n 1, 1) := by decide +kernel
theorem zd_ModelReader_readDeclaration_148 : decode prog_5_method_3_code 148 = .ok (.iload 4, 2) := by decide +kernel
theorem zd_ModelReader_readDeclaration_150 : decode prog_5_method_3_code 150 = .ok (.invokevirtual 92, 3) := by decide +kernel
theorem zd_ModelReader_readDeclaration_153 : decode prog_5_method_3_code 153 = .ok (.aload_n 0, 1) := by decide +kernel
theorem zd_ModelReader_readDeclaration_154 : decode prog_5_method_3_code 154 = .ok (.getfield 9, 3) := by decide +kernel
theorem zd_ModelReader_readDeclaration_157 : decode prog_5_method_3_code 157 = .ok (.bipush 59, 2) := by decide +kernel
theorem zd_ModelReader_readDeclaration_159 : decode prog_5_method_3_code 159 = .ok (.invokevirtual 96, 3) := by decide +kernel
theorem zd_ModelReader_readDeclaration_162 : decode prog_5_method_3_code 162 = .ok (.return_, 1) := by decide +kernel
theorem zd_ModelReader_readElse_0 : decode prog_5_method_14_code 0 = .ok (.iload_n 1, 1) := by decide +kernel
theorem zd_ModelReader_readElse_1 : decode prog_5_method_14_code 1 = .ok (.iload_n 2, 1) := by decide +kernel
theorem zd_ModelReader_readElse_2 : decode prog_5_method_14_code 2 = .ok (.invokestatic 172, 3) := by decide +kernel
theorem zd_ModelReader_readElse_5 : decode prog_5_method_14_code 5 = .ok (.ifCond .eq 16, 3) := by decide +kernel
theorem zd_ModelReader_readElse_8 : decode prog_5_method_14_code 8 = .ok (.aload_n 0, 1) := by decide +kernel
theorem zd_ModelReader_readElse_9 : decode prog_5_method_14_code 9 = .ok (.getfield 30, 3) := by decide +kernel
theorem zd_ModelReader_readElse_12 : decode prog_5_method_14_code 12 = .ok (.getfield 110, 3) := by decide +kernel
theorem zd_ModelReader_readElse_15 : decode prog_5_method_14_code 15 = .ok (.iload_n 1, 1) := by decide +kernel
theorem zd_ModelReader_readElse_16 : decode prog_5_method_14_code 16 = .ok (.iaload, 1) := by decide +kernel
theorem zd_ModelReader_readElse_17 : decode prog_5_method_14_code 17 = .ok (.iconst 3, 1) := by decide +kernel
theorem zd_ModelReader_readElse_18 : decode prog_5_method_14_code 18 = .ok (.if_icmp .ne 10, 3) := by decide +kernel
theorem zd_ModelReader_readElse_21 : decode prog_5_method_14_code 21 = .ok (.aload_n 0, 1) := by decide +kernel
theorem zd_ModelReader_readElse_22 : decode prog_5_method_14_code 22 = .ok (.getfield 9, 3) := by decide +kernel
theorem zd_ModelReader_readElse_25 : decode prog_5_method_14_code 25 = .ok (.invokevirtual 62, 3) := by decide +kernel
theorem zd_ModelReader_readElse_28 : decode prog_5_method_14_code 28 = .ok (.aload_n 0, 1) := by decide +kernel
theorem zd_ModelReader_readElse_29 : decode prog_5_method_14_code 29 = .ok (.getfield 9, 3) := by decide +kernel
theorem zd_ModelReader_readElse_32 : decode prog_5_method_14_code 32 = .ok (.invokevirtual 65, 3) := by decide +kernel
theorem zd_ModelReader_readElse_35 : decode prog_5_method_14_code 35 = .ok (.aload_n 0, 1) := by decide +kernel
theorem zd_ModelReader_readElse_36 : decode prog_5_method_14_code 36 = .ok (.getfield 23, 3) := by decide +kernel
theorem zd_ModelReader_readElse_39 : decode prog_5_method_14_code 39 = .ok (.iconst 5, 1) := by decide +kernel
theorem zd_ModelReader_readElse_40 : decode prog_5_method_14_code 40 = .ok (.iconst (-1), 1) := by decide +kernel
theorem zd_ModelReader_readElse_41 : decode prog_5_method_14_code 41 = .ok (.iconst (-1), 1) := by decide +kernel
theorem zd_ModelReader_readElse_42 : decode prog_5_method_14_code 42 = .ok (.iconst (-1), 1) := by decide +kernel
theorem zd_ModelReader_readElse_43 : decode prog_5_method_14_code 43 = .ok (.invokevirtual 157, 3) := by decide +kernel
theorem zd_ModelReader_readElse_46 : decode prog_5_method_14_code 46 = .ok (.return_, 1) := by decide +kernel
theorem zd_ModelReader_readNamed_0 : decode prog_5_method_15_code 0 = .ok (.aload_n 0, 1) := by decide +kernel
theorem zd_ModelReader_readNamed_1 : decode prog_5_method_15_code 1 = .ok (.getfield 9, 3) := by decide +kernel
theorem zd_ModelReader_readNamed_4 : decode prog_5_method_15_code 4 = .ok (.bipush 97, 2) := by decide +kernel
theorem zd_ModelReader_readNamed_6 : decode prog_5_method_15_code 6 = .ok (.invokevirtual 80, 3) := by decide +kernel
theorem zd_ModelReader_readNamed_9 : decode prog_5_method_15_code 9 = .ok (.istore_n 1, 1) := by decide +kernel
theorem zd_ModelReader_readNamed_10 : decode prog_5_method_15_code 10 = .ok (.iload_n 1, 1) := by decide +kernel
theorem zd_ModelReader_readNamed_11 : decode prog_5_method_15_code 11 = .ok (.iconst (-1), 1) := by decide +kernel
theorem zd_ModelReader_readNamed_12 : decode prog_5_method_15_code 12 = .ok (.if_icmp .eq 15, 3) := by decide +kernel
theorem zd_ModelReader_readNamed_15 : decode prog_5_method_15_code 15 = .ok (.aload_n 0, 1) := by decide +kernel
theorem zd_ModelReader_readNamed_16 : decode prog_5_method_15_code 16 = .ok (.getfield 15, 3) := by decide +kernel
theorem zd_ModelReader_readNamed_19 : decode prog_5_method_15_code 19 = .ok (.getfield 84, 3) := by decide +kernel
theorem zd_ModelReader_readNamed_22 : decode prog_5_method_15_code 22 = .ok (.iload_n 1, 1) := by decide +kernel
theorem zd_ModelReader_readNamed_23 : decode prog_5_method_15_code 23 = .ok (.iaload, 1) := by decide +kernel
theorem zd_ModelReader_readNamed_24 : decode prog_5_method_15_code 24 = .ok (.ifCond .ne 10, 3) := by decide +kernel
theorem zd_ModelReader_readNamed_27 : decode prog_5_method_15_code 27 = .ok (.aload_n 0, 1) := by decide +kernel
theorem zd_ModelReader_readNamed_28 : decode prog_5_method_15_code 28 = .ok (.getfield 9, 3) := by decide +kernel
theorem zd_ModelReader_readNamed_31 : decode prog_5_method_15_code 31 = .ok (.invokevirtual 62, 3) := by decide +kernel
theorem zd_ModelReader_readNamed_34 : decode prog_5_method_15_code 34 = .ok (.aload_n 0, 1) := by decide +kernel
theorem zd_ModelReader_readNamed_35 : decode prog_5_method_15_code 35 = .ok (.getfield 9, 3) := by decide +kernel
theorem zd_ModelReader_readNamed_38 : decode prog_5_method_15_code 38 = .ok (.invokevirtual 65, 3) := by decide +kernel
theorem zd_ModelReader_readNamed_41 : decode prog_5_method_15_code 41 = .ok (.aload_n 0, 1) := by decide +kernel
theorem zd_ModelReader_readNamed_42 : decode prog_5_method_15_code 42 = .ok (.getfield 15, 3) := by decide +kernel
theorem zd_ModelReader_readNamed_45 : decode prog_5_method_15_code 45 = .ok (.getfield 84, 3) := by decide +kernel
theorem zd_ModelReader_readNamed_48 : decode prog_5_method_15_code 48 = .ok (.iload_n 1, 1) := by decide +kernel
theorem zd_ModelReader_readNamed_49 : decode prog_5_method_15_code 49 = .ok (.iaload, 1) := by decide +kernel
theorem zd_ModelReader_readNamed_50 : decode prog_5_method_15_code 50 = .ok (.iconst 1, 1) := by decide +kernel
theorem zd_ModelReader_readNamed_51 : decode prog_5_method_15_code 51 = .ok (.if_icmp .ne 33, 3) := by decide +kernel
theorem zd_ModelReader_readNamed_54 : decode prog_5_method_15_code 54 = .ok (.aload_n 0, 1) := by decide +kernel
theorem zd_ModelReader_readNamed_55 : decode prog_5_method_15_code 55 = .ok (.getfield 9, 3) := by decide +kernel
theorem zd_ModelReader_readNamed_58 : decode prog_5_method_15_code 58 = .ok (.bipush 61, 2) := by decide +kernel
theorem zd_ModelReader_readNamed_60 : decode prog_5_method_15_code 60 = .ok (.invokevirtual 96, 3) := by decide +kernel
theorem zd_ModelReader_readNamed_63 : decode prog_5_method_15_code 63 = .ok (.aload_n 0, 1) := by decide +kernel
theorem zd_ModelReader_readNamed_64 : decode prog_5_method_15_code 64 = .ok (.getfield 23, 3) := by decide +kernel
theorem zd_ModelReader_readNamed_67 : decode prog_5_method_15_code 67 = .ok (.iconst 0, 1) := by decide +kernel
theorem zd_ModelReader_readNamed_68 : decode prog_5_method_15_code 68 = .ok (.iconst (-1), 1) := by decide +kernel
theorem zd_ModelReader_readNamed_69 : decode prog_5_method_15_code 69 = .ok (.iload_n 1, 1) := by decide +kernel
theorem zd_ModelReader_readNamed_70 : decode prog_5_method_15_code 70 = .ok (.aload_n 0, 1) := by decide +kernel
theorem zd_ModelReader_readNamed_71 : decode prog_5_method_15_code 71 = .ok (.getfield 19, 3) := by decide +kernel
theorem zd_ModelReader_readNamed_74 : decode prog_5_method_15_code 74 = .ok (.iconst 0, 1) := by decide +kernel
theorem zd_ModelReader_readNamed_75 : decode prog_5_method_15_code 75 = .ok (.invokevirtual 163, 3) := by decide +kernel
theorem zd_ModelReader_readNamed_78 : decode prog_5_method_15_code 78 = .ok (.invokevirtual 157, 3) := by decide +kernel
theorem zd_ModelReader_readNamed_81 : decode prog_5_method_15_code 81 = .ok (.goto 98, 3) := by decide +kernel
theorem zd_ModelReader_readNamed_84 : decode prog_5_method_15_code 84 = .ok (.aload_n 0, 1) := by decide +kernel
theorem zd_ModelReader_readNamed_85 : decode prog_5_method_15_code 85 = .ok (.getfield 9, 3) := by decide +kernel
theorem zd_ModelReader_readNamed_88 : decode prog_5_method_15_code 88 = .ok (.bipush 33, 2) := by decide +kernel
theorem zd_ModelReader_readNamed_90 : decode prog_5_method_15_code 90 = .ok (.invokevirtual 76, 3) := by decide +kernel
theorem zd_ModelReader_readNamed_93 : decode prog_5_method_15_code 93 = .ok (.ifCond .eq 24, 3) := by decide +kernel
theorem zd_ModelReader_readNamed_96 : decode prog_5_method_15_code 96 = .ok (.aload_n 0, 1) := by decide +kernel
theorem zd_ModelReader_readNamed_97 : decode prog_5_method_15_code 97 = .ok (.getfield 23, 3) := by decide +kernel
theorem zd_ModelReader_readNamed_100 : decode prog_5_method_15_code 100 = .ok (.iconst 2, 1) := by decide +kernel
theorem zd_ModelReader_readNamed_101 : decode prog_5_method_15_code 101 = .ok (.iload_n 1, 1) := by decide +kernel
theorem zd_ModelReader_readNamed_102 : decode prog_5_method_15_code 102 = .ok (.iconst (-1), 1) := by decide +kernel
theorem zd_ModelReader_readNamed_103 : decode prog_5_method_15_code 103 = .ok (.aload_n 0, 1) := by decide +kernel
theorem zd_ModelReader_readNamed_104 : decode prog_5_method_15_code 104 = .ok (.getfield 19, 3) := by decide +kernel
theorem zd_ModelReader_readNamed_107 : decode prog_5_method_15_code 107 = .ok (.iconst 0, 1) := by decide +kernel
theorem zd_ModelReader_readNamed_108 : decode prog_5_method_15_code 108 = .ok (.invokevirtual 163, 3) := by decide +kernel
theorem zd_ModelReader_readNamed_111 : decode prog_5_method_15_code 111 = .ok (.invokevirtual 157, 3) := by decide +kernel
theorem zd_ModelReader_readNamed_114 : decode prog_5_method_15_code 114 = .ok (.goto 65, 3) := by decide +kernel
theorem zd_ModelReader_readNamed_117 : decode prog_5_method_15_code 117 = .ok (.aload_n 0, 1) := by decide +kernel
theorem zd_ModelReader_readNamed_118 : decode prog_5_method_15_code 118 = .ok (.getfield 9, 3) := by decide +kernel
theorem zd_ModelReader_readNamed_121 : decode prog_5_method_15_code 121 = .ok (.bipush 63, 2) := by decide +kernel
theorem zd_ModelReader_readNamed_123 : decode prog_5_method_15_code 123 = .ok (.invokevirtual 96, 3) := by decide +kernel
theorem zd_ModelReader_readNamed_126 : decode prog_5_method_15_code 126 = .ok (.aload_n 0, 1) := by decide +kernel
theorem zd_ModelReader_readNamed_127 : decode prog_5_method_15_code 127 = .ok (.getfield 9, 3) := by decide +kernel
theorem zd_ModelReader_readNamed_130 : decode prog_5_method_15_code 130 = .ok (.bipush 97, 2) := by decide +kernel
theorem zd_ModelReader_readNamed_132 : decode prog_5_method_15_code 132 = .ok (.invokevirtual 80, 3) := by decide +kernel
theorem zd_ModelReader_readNamed_135 : decode prog_5_method_15_code 135 = .ok (.istore_n 2, 1) := by decide +kernel
theorem zd_ModelReader_readNamed_136 : decode prog_5_method_15_code 136 = .ok (.iload_n 2, 1) := by decide +kernel
theorem zd_ModelReader_readNamed_137 : decode prog_5_method_15_code 137 = .ok (.iconst (-1), 1) := by decide +kernel
theorem zd_ModelReader_readNamed_138 : decode prog_5_method_15_code 138 = .ok (.if_icmp .eq 16, 3) := by decide +kernel
theorem zd_ModelReader_readNamed_141 : decode prog_5_method_15_code 141 = .ok (.aload_n 0, 1) := by decide +kernel
theorem zd_ModelReader_readNamed_142 : decode prog_5_method_15_code 142 = .ok (.getfield 15, 3) := by decide +kernel
theorem zd_ModelReader_readNamed_145 : decode prog_5_method_15_code 145 = .ok (.getfield 84, 3) := by decide +kernel
theorem zd_ModelReader_readNamed_148 : decode prog_5_method_15_code 148 = .ok (.iload_n 2, 1) := by decide +kernel
theorem zd_ModelReader_readNamed_149 : decode prog_5_method_15_code 149 = .ok (.iaload, 1) := by decide +kernel
theorem zd_ModelReader_readNamed_150 : decode prog_5_method_15_code 150 = .ok (.iconst 1, 1) := by decide +kernel
theorem zd_ModelReader_readNamed_151 : decode prog_5_method_15_code 151 = .ok (.if_icmp .eq 10, 3) := by decide +kernel
theorem zd_ModelReader_readNamed_154 : decode prog_5_method_15_code 154 = .ok (.aload_n 0, 1) := by decide +kernel
theorem zd_ModelReader_readNamed_155 : decode prog_5_method_15_code 155 = .ok (.getfield 9, 3) := by decide +kernel
theorem zd_ModelReader_readNamed_158 : decode prog_5_method_15_code 158 = .ok (.invokevirtual 62, 3) := by decide +kernel
theorem zd_ModelReader_readNamed_161 : decode prog_5_method_15_code 161 = .ok (.aload_n 0, 1) := by decide +kernel
theorem zd_ModelReader_readNamed_162 : decode prog_5_method_15_code 162 = .ok (.getfield 9, 3) := by decide +kernel
theorem zd_ModelReader_readNamed_165 : decode prog_5_method_15_code 165 = .ok (.invokevirtual 65, 3) := by decide +kernel
theorem zd_ModelReader_readNamed_168 : decode prog_5_method_15_code 168 = .ok (.aload_n 0, 1) := by decide +kernel
theorem zd_ModelReader_readNamed_169 : decode prog_5_method_15_code 169 = .ok (.getfield 23, 3) := by decide +kernel
theorem zd_ModelReader_readNamed_172 : decode prog_5_method_15_code 172 = .ok (.iconst 3, 1) := by decide +kernel
theorem zd_ModelReader_readNamed_173 : decode prog_5_method_15_code 173 = .ok (.iload_n 1, 1) := by decide +kernel
theorem zd_ModelReader_readNamed_174 : decode prog_5_method_15_code 174 = .ok (.iload_n 2, 1) := by decide +kernel
theorem zd_ModelReader_readNamed_175 : decode prog_5_method_15_code 175 = .ok (.iconst (-1), 1) := by decide +kernel
theorem zd_ModelReader_readNamed_176 : decode prog_5_method_15_code 176 = .ok (.invokevirtual 157, 3) := by decide +kernel
theorem zd_ModelReader_readNamed_179 : decode prog_5_method_15_code 179 = .ok (.return_, 1) := by decide +kernel
theorem zd_Names_clear_0 : decode prog_6_method_2_code 0 = .ok (.aload_n 0, 1) := by decide +kernel
theorem zd_Names_clear_1 : decode prog_6_method_2_code 1 = .ok (.getfield 9, 3) := by decide +kernel
theorem zd_Names_clear_4 : decode prog_6_method_2_code 4 = .ok (.iconst 0, 1) := by decide +kernel
theorem zd_Names_clear_5 : decode prog_6_method_2_code 5 = .ok (.invokestatic 22, 3) := by decide +kernel
theorem zd_Names_clear_8 : decode prog_6_method_2_code 8 = .ok (.aload_n 0, 1) := by decide +kernel
theorem zd_Names_clear_9 : decode prog_6_method_2_code 9 = .ok (.iconst 0, 1) := by decide +kernel
theorem zd_Names_clear_10 : decode prog_6_method_2_code 10 = .ok (.putfield 28, 3) := by decide +kernel
theorem zd_Names_clear_13 : decode prog_6_method_2_code 13 = .ok (.aload_n 0, 1) := by decide +kernel
theorem zd_Names_clear_14 : decode prog_6_method_2_code 14 = .ok (.iconst 0, 1) := by decide +kernel
theorem zd_Names_clear_15 : decode prog_6_method_2_code 15 = .ok (.putfield 32, 3) := by decide +kernel
theorem zd_Names_clear_18 : decode prog_6_method_2_code 18 = .ok (.return_, 1) := by decide +kernel
theorem zd_Names_declare_0 : decode prog_6_method_4_code 0 = .ok (.aload_n 0, 1) := by decide +kernel
theorem zd_Names_declare_1 : decode prog_6_method_4_code 1 = .ok (.getfield 9, 3) := by decide +kernel
theorem zd_Names_declare_4 : decode prog_6_method_4_code 4 = .ok (.iload_n 1, 1) := by decide +kernel
theorem zd_Names_declare_5 : decode prog_6_method_4_code 5 = .ok (.iload_n 2, 1) := by decide +kernel
theorem zd_Names_declare_6 : decode prog_6_method_4_code 6 = .ok (.iastore, 1) := by decide +kernel
theorem zd_Names_declare_7 : decode prog_6_method_4_code 7 = .ok (.aload_n 0, 1) := by decide +kernel
theorem zd_Names_declare_8 : decode prog_6_method_4_code 8 = .ok (.getfield 13, 3) := by decide +kernel
theorem zd_Names_declare_11 : decode prog_6_method_4_code 11 = .ok (.iload_n 1, 1) := by decide +kernel
theorem zd_Names_declare_12 : decode prog_6_method_4_code 12 = .ok (.iload_n 3, 1) := by decide +kernel
theorem zd_Names_declare_13 : decode prog_6_method_4_code 13 = .ok (.iastore, 1) := by decide +kernel
theorem zd_Names_declare_14 : decode prog_6_method_4_code 14 = .ok (.iload_n 2, 1) := by decide +kernel
theorem zd_Names_declare_15 : decode prog_6_method_4_code 15 = .ok (.iconst 1, 1) := by decide +kernel
theorem zd_Names_declare_16 : decode prog_6_method_4_code 16 = .ok (.if_icmp .ne 26, 3) := by decide +kernel
theorem zd_Names_declare_19 : decode prog_6_method_4_code 19 = .ok (.aload_n 0, 1) := by decide +kernel
theorem zd_Names_declare_20 : decode prog_6_method_4_code 20 = .ok (.getfield 16, 3) := by decide +kernel
theorem zd_Names_declare_23 : decode prog_6_method_4_code 23 = .ok (.aload_n 0, 1) := by decide +kernel
theorem zd_Names_declare_24 : decode prog_6_method_4_code 24 = .ok (.getfield 28, 3) := by decide +kernel
theorem zd_Names_declare_27 : decode prog_6_method_4_code 27 = .ok (.iload_n 1, 1) := by decide +kernel
theorem zd_Names_declare_28 : decode prog_6_method_4_code 28 = .ok (.iastore, 1) := by decide +kernel
theorem zd_Names_declare_29 : decode prog_6_method_4_code 29 = .ok (.aload_n 0, 1) := by decide +kernel
theorem zd_Names_declare_30 : decode prog_6_method_4_code 30 = .ok (.dup, 1) := by decide +kernel
theorem zd_Names_declare_31 : decode prog_6_method_4_code 31 = .ok (.getfield 28, 3) := by decide +kernel
theorem zd_Names_declare_34 : decode prog_6_method_4_code 34 = .ok (.iconst 1, 1) := by decide +kernel
theorem zd_Names_declare_35 : decode prog_6_method_4_code 35 = .ok (.iadd, 1) := by decide +kernel
theorem zd_Names_declare_36 : decode prog_6_method_4_code 36 = .ok (.putfield 28, 3) := by decide +kernel
theorem zd_Names_declare_39 : decode prog_6_method_4_code 39 = .ok (.goto 23, 3) := by decide +kernel
theorem zd_Names_declare_42 : decode prog_6_method_4_code 42 = .ok (.aload_n 0, 1) := by decide +kernel
theorem zd_Names_declare_43 : decode prog_6_method_4_code 43 = .ok (.getfield 19, 3) := by decide +kernel
theorem zd_Names_declare_46 : decode prog_6_method_4_code 46 = .ok (.aload_n 0, 1) := by decide +kernel
theorem zd_Names_declare_47 : decode prog_6_method_4_code 47 = .ok (.getfield 32, 3) := by decide +kernel
theorem zd_Names_declare_50 : decode prog_6_method_4_code 50 = .ok (.iload_n 1, 1) := by decide +kernel
theorem zd_Names_declare_51 : decode prog_6_method_4_code 51 = .ok (.iastore, 1) := by decide +kernel
theorem zd_Names_declare_52 : decode prog_6_method_4_code 52 = .ok (.aload_n 0, 1) := by decide +kernel
theorem zd_Names_declare_53 : decode prog_6_method_4_code 53 = .ok (.dup, 1) := by decide +kernel
theorem zd_Names_declare_54 : decode prog_6_method_4_code 54 = .ok (.getfield 32, 3) := by decide +kernel
theorem zd_Names_declare_57 : decode prog_6_method_4_code 57 = .ok (.iconst 1, 1) := by decide +kernel
theorem zd_Names_declare_58 : decode prog_6_method_4_code 58 = .ok (.iadd, 1) := by decide +kernel
theorem zd_Names_declare_59 : decode prog_6_method_4_code 59 = .ok (.putfield 32, 3) := by decide +kernel
theorem zd_Names_declare_62 : decode prog_6_method_4_code 62 = .ok (.return_, 1) := by decide +kernel
theorem zd_Names_hasRoom_0 : decode prog_6_method_3_code 0 = .ok (.iload_n 1, 1) := by decide +kernel
theorem zd_Names_hasRoom_1 : decode prog_6_method_3_code 1 = .ok (.iconst 1, 1) := by decide +kernel
theorem zd_Names_hasRoom_2 : decode prog_6_method_3_code 2 = .ok (.if_icmp .ne 20, 3) := by decide +kernel
theorem zd_Names_hasRoom_5 : decode prog_6_method_3_code 5 = .ok (.aload_n 0, 1) := by decide +kernel
theorem zd_Names_hasRoom_6 : decode prog_6_method_3_code 6 = .ok (.getfield 28, 3) := by decide +kernel
theorem zd_Names_hasRoom_9 : decode prog_6_method_3_code 9 = .ok (.bipush 6, 2) := by decide +kernel
theorem zd_Names_hasRoom_11 : decode prog_6_method_3_code 11 = .ok (.if_icmp .ge 7, 3) := by decide +kernel
theorem zd_Names_hasRoom_14 : decode prog_6_method_3_code 14 = .ok (.iconst 1, 1) := by decide +kernel
theorem zd_Names_hasRoom_15 : decode prog_6_method_3_code 15 = .ok (.goto 20, 3) := by decide +kernel
theorem zd_Names_hasRoom_18 : decode prog_6_method_3_code 18 = .ok (.iconst 0, 1) := by decide +kernel
theorem zd_Names_hasRoom_19 : decode prog_6_method_3_code 19 = .ok (.goto 16, 3) := by decide +kernel
theorem zd_Names_hasRoom_22 : decode prog_6_method_3_code 22 = .ok (.aload_n 0, 1) := by decide +kernel
theorem zd_Names_hasRoom_23 : decode prog_6_method_3_code 23 = .ok (.getfield 32, 3) := by decide +kernel
theorem zd_Names_hasRoom_26 : decode prog_6_method_3_code 26 = .ok (.iconst 2, 1) := by decide +kernel
theorem zd_Names_hasRoom_27 : decode prog_6_method_3_code 27 = .ok (.if_icmp .ge 7, 3) := by decide +kernel
theorem zd_Names_hasRoom_30 : decode prog_6_method_3_code 30 = .ok (.iconst 1, 1) := by decide +kernel
theorem zd_Names_hasRoom_31 : decode prog_6_method_3_code 31 = .ok (.goto 4, 3) := by decide +kernel
theorem zd_Names_hasRoom_34 : decode prog_6_method_3_code 34 = .ok (.iconst 0, 1) := by decide +kernel
theorem zd_Names_hasRoom_35 : decode prog_6_method_3_code 35 = .ok (.ireturn, 1) := by decide +kernel
theorem zd_Program_clear_0 : decode prog_7_method_2_code 0 = .ok (.aload_n 0, 1) := by decide +kernel
theorem zd_Program_clear_1 : decode prog_7_method_2_code 1 = .ok (.getfield 36, 3) := by decide +kernel
theorem zd_Program_clear_4 : decode prog_7_method_2_code 4 = .ok (.lconst 0, 1) := by decide +kernel
theorem zd_Program_clear_5 : decode prog_7_method_2_code 5 = .ok (.invokestatic 49, 3) := by decide +kernel
theorem zd_Program_clear_8 : decode prog_7_method_2_code 8 = .ok (.aload_n 0, 1) := by decide +kernel
theorem zd_Program_clear_9 : decode prog_7_method_2_code 9 = .ok (.getfield 40, 3) := by decide +kernel
theorem zd_Program_clear_12 : decode prog_7_method_2_code 12 = .ok (.iconst 0, 1) := by decide +kernel
theorem zd_Program_clear_13 : decode prog_7_method_2_code 13 = .ok (.invokestatic 55, 3) := by decide +kernel
theorem zd_Program_clear_16 : decode prog_7_method_2_code 16 = .ok (.aload_n 0, 1) := by decide +kernel
theorem zd_Program_clear_17 : decode prog_7_method_2_code 17 = .ok (.getfield 43, 3) := by decide +kernel
theorem zd_Program_clear_20 : decode prog_7_method_2_code 20 = .ok (.iconst (-1), 1) := by decide +kernel
theorem zd_Program_clear_21 : decode prog_7_method_2_code 21 = .ok (.invokestatic 55, 3) := by decide +kernel
theorem zd_Program_clear_24 : decode prog_7_method_2_code 24 = .ok (.aload_n 0, 1) := by decide +kernel
theorem zd_Program_clear_25 : decode prog_7_method_2_code 25 = .ok (.getfield 46, 3) := by decide +kernel
theorem zd_Program_clear_28 : decode prog_7_method_2_code 28 = .ok (.lconst 0, 1) := by decide +kernel
theorem zd_Program_clear_29 : decode prog_7_method_2_code 29 = .ok (.invokestatic 49, 3) := by decide +kernel
theorem zd_Program_clear_32 : decode prog_7_method_2_code 32 = .ok (.aload_n 0, 1) := by decide +kernel
theorem zd_Program_clear_33 : decode prog_7_method_2_code 33 = .ok (.lconst 0, 1) := by decide +kernel
theorem zd_Program_clear_34 : decode prog_7_method_2_code 34 = .ok (.putfield 58, 3) := by decide +kernel
theorem zd_Program_clear_37 : decode prog_7_method_2_code 37 = .ok (.aload_n 0, 1) := by decide +kernel
theorem zd_Program_clear_38 : decode prog_7_method_2_code 38 = .ok (.iconst 0, 1) := by decide +kernel
theorem zd_Program_clear_39 : decode prog_7_method_2_code 39 = .ok (.putfield 62, 3) := by decide +kernel
theorem zd_Program_clear_42 : decode prog_7_method_2_code 42 = .ok (.aload_n 0, 1) := by decide +kernel
theorem zd_Program_clear_43 : decode prog_7_method_2_code 43 = .ok (.iconst 0, 1) := by decide +kernel
theorem zd_Program_clear_44 : decode prog_7_method_2_code 44 = .ok (.putfield 66, 3) := by decide +kernel
theorem zd_Program_clear_47 : decode prog_7_method_2_code 47 = .ok (.return_, 1) := by decide +kernel
theorem zd_Terms_clear_0 : decode prog_9_method_2_code 0 = .ok (.aload_n 0, 1) := by decide +kernel
theorem zd_Terms_clear_1 : decode prog_9_method_2_code 1 = .ok (.iconst 0, 1) := by decide +kernel
theorem zd_Terms_clear_2 : decode prog_9_method_2_code 2 = .ok (.putfield 31, 3) := by decide +kernel
theorem zd_Terms_clear_5 : decode prog_9_method_2_code 5 = .ok (.return_, 1) := by decide +kernel
def wc_ModelReader_readElse_28 (a0 : Int32) (a1 : Int32) (Post : (Nat → Int32) → (Nat → Int64) → (Nat → Nat → Int32) → (Nat → Nat → Int64) → Prop) (PX : String → (Nat → Int32) → (Nat → Int64) → (Nat → Nat → Int32) → (Nat → Nat → Int64) → Prop)  (I : Nat → Int32) (J : Nat → Int64) (B : Nat → Nat → Int32) (D : Nat → Nat → Int64) : Prop :=
  wp_Text_skip I J B D  (fun I1 J1 B1 D1 => wp_Program_add I1 J1 B1 D1 5 (-1) (-1) (-1) (fun I2 J2 B2 D2 => Post I2 J2 B2 D2))
def wc_ModelReader_readElse_21 (a0 : Int32) (a1 : Int32) (Post : (Nat → Int32) → (Nat → Int64) → (Nat → Nat → Int32) → (Nat → Nat → Int64) → Prop) (PX : String → (Nat → Int32) → (Nat → Int64) → (Nat → Nat → Int32) → (Nat → Nat → Int64) → Prop)  (I : Nat → Int32) (J : Nat → Int64) (B : Nat → Nat → Int32) (D : Nat → Nat → Int64) : Prop :=
  wp_Text_refuse I J B D  (fun I3 J3 B3 D3 => wc_ModelReader_readElse_28 a0 a1 Post PX I3 J3 B3 D3) PX
def wp_ModelReader_readElse (I : Nat → Int32) (J : Nat → Int64) (B : Nat → Nat → Int32) (D : Nat → Nat → Int64) (a0 : Int32) (a1 : Int32) (Post : (Nat → Int32) → (Nat → Int64) → (Nat → Nat → Int32) → (Nat → Nat → Int64) → Prop) (PX : String → (Nat → Int32) → (Nat → Int64) → (Nat → Nat → Int32) → (Nat → Nat → Int64) → Prop) : Prop :=
  wp_ModelReader_leadsInside I J B D a0 a1 (fun r4 I4 J4 B4 D4 => ((r4 = 0 → wc_ModelReader_readElse_21 a0 a1 Post PX I4 J4 B4 D4) ∧ (¬ r4 = 0 → vp_in a0 240 ∧ ∀ z6 : Int32, z6 = ((B4 18) a0.toNatClampNeg) → ((¬ z6 = 3 → wc_ModelReader_readElse_28 a0 a1 Post PX I4 J4 B4 D4) ∧ (z6 = 3 → wc_ModelReader_readElse_21 a0 a1 Post PX I4 J4 B4 D4)))))
set_option maxHeartbeats 8000000 in
set_option maxRecDepth 100000 in
theorem wJ_ModelReader_readElse_28 {p : Program} {l : Launch} {e : Env} {s : State} {m : MethodId} {below : List Frame} {meth : Method} {c : Code} {A : Nat → Prop} (G : va_G) (K : Nat → ClassId) (ad : Nat → Nat) (sv : Value) (a0 : Int32) (a1 : Int32) (Post : (Nat → Int32) → (Nat → Int64) → (Nat → Nat → Int32) → (Nat → Nat → Int64) → Prop) (PX : String → (Nat → Int32) → (Nat → Int64) → (Nat → Nat → Int32) → (Nat → Nat → Int64) → Prop) (C : zCy p l s m ([.ref (ad 5), .int a0, .int a1] : List Value).toArray meth c A G K prog_5_method_14_code none 3 "LassoFinder$ModelReader") : ∀  (I : Nat → Int32) (J : Nat → Int64) (B : Nat → Nat → Int32) (D : Nat → Nat → Int64) (ls : Array Slot) (H : Heap) (locs : List Loc), wc_ModelReader_readElse_28 a0 a1 Post PX  I J B D → lv_has ls 3 [(0, .ref (ad 5))] → zW G A s.heap (wX ad K sv I J B D) H locs → W p l e { frames := 7, cells := 1, slots := 6, locals := 101 } s m ([.ref (ad 5), .int a0, .int a1] : List Value).toArray below meth c H locs 0 0 (zyMQ below (va_Qv (fun u : zS => Post u.1 u.2.1 u.2.2.1 u.2.2.2) (fun u t => zPost G K A (wX ad K sv u.1 u.2.1 u.2.2.1 u.2.2.2) t) A) (zYC (fun E (u : zS) => PX E u.1 u.2.1 u.2.2.1 u.2.2.2) (fun u => wX ad K sv u.1 u.2.1 u.2.2.1 u.2.2.2) G K A) ([.ref (ad 5), .int a0, .int a1] : List Value).toArray s 1 6 A) (F0 m 28 ls []) := by
  obtain ⟨hx, hb, hr, hml, hts, hown, hlocks, hA, hK, hT, hnt, hlt⟩ := id C
  intro  I J B D ls H locs hok hl hw
  unfold wc_ModelReader_readElse_28 at hok
  refine lv_aload_n hx hb zd_ModelReader_readElse_28 rfl (lv_at hl 0 rfl) ?_
  refine z_get (v := .ref (ad 1)) hx hb hts hown hK hw zZ4 5 wX_g5 0 (by decide) zn_422 rfl zd_ModelReader_readElse_29 ?_
  refine z_callv (w1 := fun (u : zS) => wX ad K sv u.1 u.2.1 u.2.2.1 u.2.2.2) (wr := []) (z_runV (q0 := 1) (wc := (wX ad K sv I J B D)) (As := []) (rest := []) ⟨hx, hb, hml, hown, hts⟩ (w_Text_skip l G K ad sv I J B D  _ H.size hok) zf_Text_skip zn_338 ⟨Nat.le_of_ble_eq_true rfl, Nat.le_of_ble_eq_true rfl⟩ hK hw (List.range 65) wX_all wX_nd wX_g1 rfl rfl hl.1 rfl (Nat.le_of_ble_eq_true rfl) zd_ModelReader_readElse_32 ⟨Nat.le_of_ble_eq_true rfl, Nat.le_of_ble_eq_true rfl⟩) hw hA (List.range 65) [] wX_all rfl (by decide) (fun i hi => by cases hi) (fun u H locs hok hw => ?_)
  obtain ⟨I1, J1, B1, D1⟩ := u
  dsimp only at hok
  have hw : zW G A s.heap (wX ad K sv I1 J1 B1 D1) H locs := hw
  refine lv_aload_n hx hb zd_ModelReader_readElse_35 rfl (lv_at hl 0 rfl) ?_
  refine z_get (v := .ref (ad 3)) hx hb hts hown hK hw zZ4 5 wX_g5 3 (by decide) zn_421 rfl zd_ModelReader_readElse_36 ?_
  refine lv_iconst (v := 5) hx hb zd_ModelReader_readElse_39 (by decide) ?_
  refine lv_iconst (v := (-1)) hx hb zd_ModelReader_readElse_40 (by decide) ?_
  refine lv_iconst (v := (-1)) hx hb zd_ModelReader_readElse_41 (by decide) ?_
  refine lv_iconst (v := (-1)) hx hb zd_ModelReader_readElse_42 (by decide) ?_
  refine z_callv (w1 := fun (u : zS) => wX ad K sv u.1 u.2.1 u.2.2.1 u.2.2.2) (wr := []) (z_runV (q0 := 3) (wc := (wX ad K sv I1 J1 B1 D1)) (As := [.int 5, .int (-1), .int (-1), .int (-1)]) (rest := []) ⟨hx, hb, hml, hown, hts⟩ (w_Program_add l G K ad sv I1 J1 B1 D1 5 (-1) (-1) (-1) _ H.size hok) zf_Program_add zn_360 ⟨Nat.le_of_ble_eq_true rfl, Nat.le_of_ble_eq_true rfl⟩ hK hw (List.range 65) wX_all wX_nd wX_g3 rfl rfl hl.1 rfl (Nat.le_of_ble_eq_true rfl) zd_ModelReader_readElse_43 ⟨Nat.le_of_ble_eq_true rfl, Nat.le_of_ble_eq_true rfl⟩) hw hA (List.range 65) [] wX_all rfl (by decide) (fun i hi => by cases hi) (fun u H locs hok hw => ?_)
  obtain ⟨I2, J2, B2, D2⟩ := u
  dsimp only at hok
  have hw : zW G A s.heap (wX ad K sv I2 J2 B2 D2) H locs := hw
  exact zy_ret (z_vret (u := (I2, J2, B2, D2)) hx hb hr hlocks hw (List.range 65) wX_all wX_nd hok (Nat.le_of_ble_eq_true rfl) (Nat.le_of_ble_eq_true rfl) zd_ModelReader_readElse_46)
set_option maxHeartbeats 8000000 in
set_option maxRecDepth 100000 in
theorem wJ_ModelReader_readElse_21 {p : Program} {l : Launch} {e : Env} {s : State} {m : MethodId} {below : List Frame} {meth : Method} {c : Code} {A : Nat → Prop} (G : va_G) (K : Nat → ClassId) (ad : Nat → Nat) (sv : Value) (a0 : Int32) (a1 : Int32) (Post : (Nat → Int32) → (Nat → Int64) → (Nat → Nat → Int32) → (Nat → Nat → Int64) → Prop) (PX : String → (Nat → Int32) → (Nat → Int64) → (Nat → Nat → Int32) → (Nat → Nat → Int64) → Prop) (C : zCy p l s m ([.ref (ad 5), .int a0, .int a1] : List Value).toArray meth c A G K prog_5_method_14_code none 3 "LassoFinder$ModelReader") : ∀  (I : Nat → Int32) (J : Nat → Int64) (B : Nat → Nat → Int32) (D : Nat → Nat → Int64) (ls : Array Slot) (H : Heap) (locs : List Loc), wc_ModelReader_readElse_21 a0 a1 Post PX  I J B D → lv_has ls 3 [(0, .ref (ad 5))] → zW G A s.heap (wX ad K sv I J B D) H locs → W p l e { frames := 7, cells := 1, slots := 6, locals := 101 } s m ([.ref (ad 5), .int a0, .int a1] : List Value).toArray below meth c H locs 0 0 (zyMQ below (va_Qv (fun u : zS => Post u.1 u.2.1 u.2.2.1 u.2.2.2) (fun u t => zPost G K A (wX ad K sv u.1 u.2.1 u.2.2.1 u.2.2.2) t) A) (zYC (fun E (u : zS) => PX E u.1 u.2.1 u.2.2.1 u.2.2.2) (fun u => wX ad K sv u.1 u.2.1 u.2.2.1 u.2.2.2) G K A) ([.ref (ad 5), .int a0, .int a1] : List Value).toArray s 1 6 A) (F0 m 21 ls []) := by
  obtain ⟨hx, hb, hr, hml, hts, hown, hlocks, hA, hK, hT, hnt, hlt⟩ := id C
  intro  I J B D ls H locs hok hl hw
  unfold wc_ModelReader_readElse_21 at hok
  refine lv_aload_n hx hb zd_ModelReader_readElse_21 rfl (lv_at hl 0 rfl) ?_
  refine z_get (v := .ref (ad 1)) hx hb hts hown hK hw zZ4 5 wX_g5 0 (by decide) zn_422 rfl zd_ModelReader_readElse_22 ?_
  refine z_yV (q0 := 1) (wc := (wX ad K sv I J B D)) (wr := []) (w1 := fun (u : zS) => wX ad K sv u.1 u.2.1 u.2.2.1 u.2.2.2) (As := []) (rest := []) ⟨hx, hb, hml, hown, hts⟩ (w_Text_refuse l hlt G K ad sv I J B D  _ _ H.size hok) zf_Text_refuse zn_336 ⟨Nat.le_of_ble_eq_true rfl, Nat.le_of_ble_eq_true rfl⟩ hK hT hw hA (List.range 65) [] wX_all rfl wX_nd (by decide) (fun i hi => by cases hi) wX_g1 rfl rfl hl.1 rfl (Nat.le_of_ble_eq_true rfl) zd_ModelReader_readElse_25 ⟨Nat.le_of_ble_eq_true rfl, Nat.le_of_ble_eq_true rfl⟩ (fun v st9 t9 L9 h0 hq hL => ?_) (fun E ce q9 u H locs hu hw hce hcv hcl => z_yout (u := u) hnt hlocks hce hcv hcl hw (List.range 65) wX_all wX_nd hu (Nat.le_of_ble_eq_true rfl) (Nat.le_of_ble_eq_true rfl))
  obtain ⟨⟨u, hv9, hok, hB9⟩, hF9⟩ := hq
  cases hv9
  have hw := z_back (wr := []) hw hA (List.range 65) [] wX_all rfl (by decide) (fun i hi => by cases hi) h0 hL hB9 hF9
  obtain ⟨I3, J3, B3, D3⟩ := u
  dsimp only at hok
  generalize t9.heap = H at hw ⊢
  generalize locs ++ L9 = locs at hw ⊢
  have hw : zW G A s.heap (wX ad K sv I3 J3 B3 D3) H locs := hw
  refine W.eq (g2 := F0 m 28 ls []) rfl ?_
  exact wJ_ModelReader_readElse_28 G K ad sv a0 a1 Post PX C I3 J3 B3 D3 ls H locs hok (lv_sub hl [0] rfl) hw
set_option maxHeartbeats 8000000 in
set_option maxRecDepth 100000 in
theorem w_ModelReader_readElse (l : Launch) (hlt : l.stackTraces = false) (G : va_G) (K : Nat → ClassId) (ad : Nat → Nat) (sv : Value) (I : Nat → Int32) (J : Nat → Int64) (B : Nat → Nat → Int32) (D : Nat → Nat → Int64) (a0 : Int32) (a1 : Int32) (Post : (Nat → Int32) → (Nat → Int64) → (Nat → Nat → Int32) → (Nat → Nat → Int64) → Prop) (PX : String → (Nat → Int32) → (Nat → Int64) → (Nat → Nat → Int32) → (Nat → Nat → Int64) → Prop) (sz : Nat) (hok : wp_ModelReader_readElse I J B D a0 a1 Post PX) : zyMet l zy_ModelReader_readElse (Cond.code zy_ModelReader_readElse prog_5_method_14_code 3 none :: zTB) { frames := 7, cells := 1, slots := 6, locals := 101 } (va_Pc [.ref (ad 5), .int a0, .int a1] (zPreY G K (wX ad K sv I J B D) sz)) (va_Qv (fun u : zS => Post u.1 u.2.1 u.2.2.1 u.2.2.2) (fun u t => zPost G K (va_A (wX ad K sv I J B D) sz) (wX ad K sv u.1 u.2.1 u.2.2.1 u.2.2.2) t) (va_A (wX ad K sv I J B D) sz)) (zYC (fun E (u : zS) => PX E u.1 u.2.1 u.2.2.1 u.2.2.2) (fun u => wX ad K sv u.1 u.2.1 u.2.2.1 u.2.2.2) G K (va_A (wX ad K sv I J B D) sz)) 1 6 (va_A (wX ad K sv I J B D) sz) := by
  refine zMetY (y := zy_ModelReader_readElse) (av := [.ref (ad 5), .int a0, .int a1]) (maxL := 3) (cc := prog_5_method_14_code) (ret := none) (W0 := (wX ad K sv I J B D)) (sz := sz) (G := G) (K := K) (wt := zTB) (mc := 1) (ms := 6) (Qf := fun A => va_Qv (fun u : zS => Post u.1 u.2.1 u.2.2.1 u.2.2.2) (fun u t => zPost G K A (wX ad K sv u.1 u.2.1 u.2.2.1 u.2.2.2) t) A) (Xf := fun A => (zYC (fun E (u : zS) => PX E u.1 u.2.1 u.2.2.1 u.2.2.2) (fun u => wX ad K sv u.1 u.2.1 u.2.2.1 u.2.2.2) G K A)) (by decide) (Nat.le_of_ble_eq_true rfl) ?_
  intro p e s m below meth c ls A hx hb hr hml hts hown hlocks hin hA hK H locs hw hsz hl hT hnt
  clear hsz
  have hown : s.vm.findClass "LassoFinder$ModelReader" = some m.cls := hown
  have C : zCy p l s m ([.ref (ad 5), .int a0, .int a1] : List Value).toArray meth c A G K prog_5_method_14_code none 3 "LassoFinder$ModelReader" := ⟨hx, hb, hr, hml, hts, hown, hlocks, hA, hK, hT, hnt, hlt⟩
  have hl : lv_has ls 3 [(0, .ref (ad 5)), (1, .int a0), (2, .int a1)] := hl
  have hw : zW G A s.heap (wX ad K sv I J B D) H locs := hw
  unfold wp_ModelReader_readElse at hok
  refine lv_iload_n hx hb zd_ModelReader_readElse_0 rfl (lv_at hl 1 rfl) ?_
  refine lv_iload_n hx hb zd_ModelReader_readElse_1 rfl (lv_at hl 2 rfl) ?_
  refine z_calli (w1 := fun (u : zS) => wX ad K sv u.1 u.2.1 u.2.2.1 u.2.2.2) (wr := []) (z_runS (wc := (wX ad K sv I J B D)) (As := [.int a0, .int a1]) (rest := []) ⟨hx, hb, hml, hown, hts⟩ (w_ModelReader_leadsInside l G K ad sv I J B D a0 a1 _ H.size hok) zf_ModelReader_leadsInside zn_356 ⟨Nat.le_of_ble_eq_true rfl, Nat.le_of_ble_eq_true rfl⟩ hK hw (List.range 65) wX_all wX_nd rfl hl.1 rfl (Nat.le_of_ble_eq_true rfl) zd_ModelReader_readElse_2 ⟨Nat.le_of_ble_eq_true rfl, Nat.le_of_ble_eq_true rfl⟩) hw hA (List.range 65) [] wX_all rfl (by decide) (fun i hi => by cases hi) (fun r4 u H locs hok hw => ?_)
  obtain ⟨I4, J4, B4, D4⟩ := u
  dsimp only at hok
  have hw : zW G A s.heap (wX ad K sv I4 J4 B4 D4) H locs := hw
  refine lv_if_eq (tgt := 21) hx hb zd_ModelReader_readElse_5 (by decide) (fun hc5 => ?_) (fun hc5 => ?_)
  · have hok := hok.1 hc5
    exact wJ_ModelReader_readElse_21 G K ad sv a0 a1 Post PX C I4 J4 B4 D4 ls H locs hok (lv_sub hl [0] rfl) hw
  · have hok := hok.2 hc5
    refine lv_aload_n hx hb zd_ModelReader_readElse_8 rfl (lv_at hl 0 rfl) ?_
    refine z_get (v := .ref (ad 6)) hx hb hts hown hK hw zZ4 5 wX_g5 4 (by decide) zn_424 rfl zd_ModelReader_readElse_9 ?_
    refine z_get (v := .ref (ad 32)) hx hb hts hown hK hw zZ10 6 wX_g6 0 (by decide) zn_447 rfl zd_ModelReader_readElse_12 ?_
    refine lv_iload_n hx hb zd_ModelReader_readElse_15 rfl (lv_at hl 1 rfl) ?_
    refine va_iald (f := (B4 18)) hx hb hK hw.1 32 0 wX_a32 rfl hok.1 zd_ModelReader_readElse_16 ?_
    have hok := hok.2
    refine lv_topi (fun z6 ez6 => ?_)
    have hok := hok z6 ez6
    refine lv_iconst (v := 3) hx hb zd_ModelReader_readElse_17 (by decide) ?_
    refine lv_icmp_ne (tgt := 28) hx hb zd_ModelReader_readElse_18 (by decide) (fun hc7 => ?_) (fun hc7 => ?_)
    · have hok := hok.1 hc7
      exact wJ_ModelReader_readElse_28 G K ad sv a0 a1 Post PX C I4 J4 B4 D4 ls H locs hok (lv_sub hl [0] rfl) hw
    · have hok := hok.2 hc7
      exact wJ_ModelReader_readElse_21 G K ad sv a0 a1 Post PX C I4 J4 B4 D4 ls H locs hok (lv_sub hl [0] rfl) hw
def wc_ModelReader_readNamed_179 (Post : (Nat → Int32) → (Nat → Int64) → (Nat → Nat → Int32) → (Nat → Nat → Int64) → Prop) (PX : String → (Nat → Int32) → (Nat → Int64) → (Nat → Nat → Int32) → (Nat → Nat → Int64) → Prop)  (I : Nat → Int32) (J : Nat → Int64) (B : Nat → Nat → Int32) (D : Nat → Nat → Int64) : Prop :=
  Post I J B D
def wc_ModelReader_readNamed_161 (Post : (Nat → Int32) → (Nat → Int64) → (Nat → Nat → Int32) → (Nat → Nat → Int64) → Prop) (PX : String → (Nat → Int32) → (Nat → Int64) → (Nat → Nat → Int32) → (Nat → Nat → Int64) → Prop) (x1 : Int32) (x2 : Int32) (I : Nat → Int32) (J : Nat → Int64) (B : Nat → Nat → Int32) (D : Nat → Nat → Int64) : Prop :=
  wp_Text_skip I J B D  (fun I1 J1 B1 D1 => wp_Program_add I1 J1 B1 D1 3 x1 x2 (-1) (fun I2 J2 B2 D2 => wc_ModelReader_readNamed_179  Post PX I2 J2 B2 D2))
def wc_ModelReader_readNamed_154 (Post : (Nat → Int32) → (Nat → Int64) → (Nat → Nat → Int32) → (Nat → Nat → Int64) → Prop) (PX : String → (Nat → Int32) → (Nat → Int64) → (Nat → Nat → Int32) → (Nat → Nat → Int64) → Prop) (x1 : Int32) (x2 : Int32) (I : Nat → Int32) (J : Nat → Int64) (B : Nat → Nat → Int32) (D : Nat → Nat → Int64) : Prop :=
  wp_Text_refuse I J B D  (fun I3 J3 B3 D3 => wc_ModelReader_readNamed_161  Post PX x1 x2 I3 J3 B3 D3) PX
def wc_ModelReader_readNamed_34 (Post : (Nat → Int32) → (Nat → Int64) → (Nat → Nat → Int32) → (Nat → Nat → Int64) → Prop) (PX : String → (Nat → Int32) → (Nat → Int64) → (Nat → Nat → Int32) → (Nat → Nat → Int64) → Prop) (x1 : Int32) (I : Nat → Int32) (J : Nat → Int64) (B : Nat → Nat → Int32) (D : Nat → Nat → Int64) : Prop :=
  wp_Text_skip I J B D  (fun I4 J4 B4 D4 => vp_in x1 8 ∧ ∀ z5 : Int32, z5 = ((B4 2) x1.toNatClampNeg) → ((¬ z5 = 1 → wp_Text_accept I4 J4 B4 D4 33 (fun r7 I7 J7 B7 D7 => ((r7 = 0 → wp_Text_expect I7 J7 B7 D7 63 (fun I9 J9 B9 D9 => wp_Text_oneOf I9 J9 B9 D9 97 (fun r10 I10 J10 B10 D10 => ((r10 = (-1) → wc_ModelReader_readNamed_154  Post PX x1 r10 I10 J10 B10 D10) ∧ (¬ r10 = (-1) → vp_in r10 8 ∧ ∀ z12 : Int32, z12 = ((B10 2) r10.toNatClampNeg) → ((z12 = 1 → wc_ModelReader_readNamed_161  Post PX x1 r10 I10 J10 B10 D10) ∧ (¬ z12 = 1 → wc_ModelReader_readNamed_154  Post PX x1 r10 I10 J10 B10 D10)))))) PX) ∧ (¬ r7 = 0 → wp_Terms_read_A I7 J7 B7 D7 0 (fun r14 I14 J14 B14 D14 => wp_Program_add I14 J14 B14 D14 2 x1 (-1) r14 (fun I15 J15 B15 D15 => wc_ModelReader_readNamed_179  Post PX I15 J15 B15 D15)) PX)))) ∧ (z5 = 1 → wp_Text_expect I4 J4 B4 D4 61 (fun I16 J16 B16 D16 => wp_Terms_read_A I16 J16 B16 D16 0 (fun r17 I17 J17 B17 D17 => wp_Program_add I17 J17 B17 D17 0 (-1) x1 r17 (fun I18 J18 B18 D18 => wc_ModelReader_readNamed_179  Post PX I18 J18 B18 D18)) PX) PX)))
def wc_ModelReader_readNamed_27 (Post : (Nat → Int32) → (Nat → Int64) → (Nat → Nat → Int32) → (Nat → Nat → Int64) → Prop) (PX : String → (Nat → Int32) → (Nat → Int64) → (Nat → Nat → Int32) → (Nat → Nat → Int64) → Prop) (x1 : Int32) (I : Nat → Int32) (J : Nat → Int64) (B : Nat → Nat → Int32) (D : Nat → Nat → Int64) : Prop :=
  wp_Text_refuse I J B D  (fun I19 J19 B19 D19 => wc_ModelReader_readNamed_34  Post PX x1 I19 J19 B19 D19) PX
def wp_ModelReader_readNamed (I : Nat → Int32) (J : Nat → Int64) (B : Nat → Nat → Int32) (D : Nat → Nat → Int64) (Post : (Nat → Int32) → (Nat → Int64) → (Nat → Nat → Int32) → (Nat → Nat → Int64) → Prop) (PX : String → (Nat → Int32) → (Nat → Int64) → (Nat → Nat → Int32) → (Nat → Nat → Int64) → Prop) : Prop :=
  wp_Text_oneOf I J B D 97 (fun r20 I20 J20 B20 D20 => ((r20 = (-1) → wc_ModelReader_readNamed_27  Post PX r20 I20 J20 B20 D20) ∧ (¬ r20 = (-1) → vp_in r20 8 ∧ ∀ z22 : Int32, z22 = ((B20 2) r20.toNatClampNeg) → ((¬ z22 = 0 → wc_ModelReader_readNamed_34  Post PX r20 I20 J20 B20 D20) ∧ (z22 = 0 → wc_ModelReader_readNamed_27  Post PX r20 I20 J20 B20 D20)))))
set_option maxHeartbeats 8000000 in
set_option maxRecDepth 100000 in
theorem wJ_ModelReader_readNamed_179 {p : Program} {l : Launch} {e : Env} {s : State} {m : MethodId} {below : List Frame} {meth : Method} {c : Code} {A : Nat → Prop} (G : va_G) (K : Nat → ClassId) (ad : Nat → Nat) (sv : Value) (Post : (Nat → Int32) → (Nat → Int64) → (Nat → Nat → Int32) → (Nat → Nat → Int64) → Prop) (PX : String → (Nat → Int32) → (Nat → Int64) → (Nat → Nat → Int32) → (Nat → Nat → Int64) → Prop) (C : zCy p l s m ([.ref (ad 5)] : List Value).toArray meth c A G K prog_5_method_15_code none 3 "LassoFinder$ModelReader") : ∀  (I : Nat → Int32) (J : Nat → Int64) (B : Nat → Nat → Int32) (D : Nat → Nat → Int64) (ls : Array Slot) (H : Heap) (locs : List Loc), wc_ModelReader_readNamed_179  Post PX  I J B D → lv_has ls 3 [] → zW G A s.heap (wX ad K sv I J B D) H locs → W p l e { frames := 9, cells := 1, slots := 6, locals := 147 } s m ([.ref (ad 5)] : List Value).toArray below meth c H locs 0 0 (zyMQ below (va_Qv (fun u : zS => Post u.1 u.2.1 u.2.2.1 u.2.2.2) (fun u t => zPost G K A (wX ad K sv u.1 u.2.1 u.2.2.1 u.2.2.2) t) A) (zYC (fun E (u : zS) => PX E u.1 u.2.1 u.2.2.1 u.2.2.2) (fun u => wX ad K sv u.1 u.2.1 u.2.2.1 u.2.2.2) G K A) ([.ref (ad 5)] : List Value).toArray s 1 6 A) (F0 m 179 ls []) := by
  obtain ⟨hx, hb, hr, hml, hts, hown, hlocks, hA, hK, hT, hnt, hlt⟩ := id C
  intro  I J B D ls H locs hok hl hw
  unfold wc_ModelReader_readNamed_179 at hok
  exact zy_ret (z_vret (u := (I, J, B, D)) hx hb hr hlocks hw (List.range 65) wX_all wX_nd hok (Nat.le_of_ble_eq_true rfl) (Nat.le_of_ble_eq_true rfl) zd_ModelReader_readNamed_179)
set_option maxHeartbeats 8000000 in
set_option maxRecDepth 100000 in
theorem wJ_ModelReader_readNamed_161 {p : Program} {l : Launch} {e : Env} {s : State} {m : MethodId} {below : List Frame} {meth : Method} {c : Code} {A : Nat → Prop} (G : va_G) (K : Nat → ClassId) (ad : Nat → Nat) (sv : Value) (Post : (Nat → Int32) → (Nat → Int64) → (Nat → Nat → Int32) → (Nat → Nat → Int64) → Prop) (PX : String → (Nat → Int32) → (Nat → Int64) → (Nat → Nat → Int32) → (Nat → Nat → Int64) → Prop) (C : zCy p l s m ([.ref (ad 5)] : List Value).toArray meth c A G K prog_5_method_15_code none 3 "LassoFinder$ModelReader") : ∀ (x1 : Int32) (x2 : Int32) (I : Nat → Int32) (J : Nat → Int64) (B : Nat → Nat → Int32) (D : Nat → Nat → Int64) (ls : Array Slot) (H : Heap) (locs : List Loc), wc_ModelReader_readNamed_161  Post PX x1 x2 I J B D → lv_has ls 3 [(0, .ref (ad 5)), (1, .int x1), (2, .int x2)] → zW G A s.heap (wX ad K sv I J B D) H locs → W p l e { frames := 9, cells := 1, slots := 6, locals := 147 } s m ([.ref (ad 5)] : List Value).toArray below meth c H locs 0 0 (zyMQ below (va_Qv (fun u : zS => Post u.1 u.2.1 u.2.2.1 u.2.2.2) (fun u t => zPost G K A (wX ad K sv u.1 u.2.1 u.2.2.1 u.2.2.2) t) A) (zYC (fun E (u : zS) => PX E u.1 u.2.1 u.2.2.1 u.2.2.2) (fun u => wX ad K sv u.1 u.2.1 u.2.2.1 u.2.2.2) G K A) ([.ref (ad 5)] : List Value).toArray s 1 6 A) (F0 m 161 ls []) := by
  obtain ⟨hx, hb, hr, hml, hts, hown, hlocks, hA, hK, hT, hnt, hlt⟩ := id C
  intro x1 x2 I J B D ls H locs hok hl hw
  unfold wc_ModelReader_readNamed_161 at hok
  refine lv_aload_n hx hb zd_ModelReader_readNamed_161 rfl (lv_at hl 0 rfl) ?_
  refine z_get (v := .ref (ad 1)) hx hb hts hown hK hw zZ4 5 wX_g5 0 (by decide) zn_422 rfl zd_ModelReader_readNamed_162 ?_
  refine z_callv (w1 := fun (u : zS) => wX ad K sv u.1 u.2.1 u.2.2.1 u.2.2.2) (wr := []) (z_runV (q0 := 1) (wc := (wX ad K sv I J B D)) (As := []) (rest := []) ⟨hx, hb, hml, hown, hts⟩ (w_Text_skip l G K ad sv I J B D  _ H.size hok) zf_Text_skip zn_338 ⟨Nat.le_of_ble_eq_true rfl, Nat.le_of_ble_eq_true rfl⟩ hK hw (List.range 65) wX_all wX_nd wX_g1 rfl rfl hl.1 rfl (Nat.le_of_ble_eq_true rfl) zd_ModelReader_readNamed_165 ⟨Nat.le_of_ble_eq_true rfl, Nat.le_of_ble_eq_true rfl⟩) hw hA (List.range 65) [] wX_all rfl (by decide) (fun i hi => by cases hi) (fun u H locs hok hw => ?_)
  obtain ⟨I1, J1, B1, D1⟩ := u
  dsimp only at hok
  have hw : zW G A s.heap (wX ad K sv I1 J1 B1 D1) H locs := hw
  refine lv_aload_n hx hb zd_ModelReader_readNamed_168 rfl (lv_at hl 0 rfl) ?_
  refine z_get (v := .ref (ad 3)) hx hb hts hown hK hw zZ4 5 wX_g5 3 (by decide) zn_421 rfl zd_ModelReader_readNamed_169 ?_
  refine lv_iconst (v := 3) hx hb zd_ModelReader_readNamed_172 (by decide) ?_
  refine lv_iload_n hx hb zd_ModelReader_readNamed_173 rfl (lv_at hl 1 rfl) ?_
  refine lv_iload_n hx hb zd_ModelReader_readNamed_174 rfl (lv_at hl 2 rfl) ?_
  refine lv_iconst (v := (-1)) hx hb zd_ModelReader_readNamed_175 (by decide) ?_
  refine z_callv (w1 := fun (u : zS) => wX ad K sv u.1 u.2.1 u.2.2.1 u.2.2.2) (wr := []) (z_runV (q0 := 3) (wc := (wX ad K sv I1 J1 B1 D1)) (As := [.int 3, .int x1, .int x2, .int (-1)]) (rest := []) ⟨hx, hb, hml, hown, hts⟩ (w_Program_add l G K ad sv I1 J1 B1 D1 3 x1 x2 (-1) _ H.size hok) zf_Program_add zn_360 ⟨Nat.le_of_ble_eq_true rfl, Nat.le_of_ble_eq_true rfl⟩ hK hw (List.range 65) wX_all wX_nd wX_g3 rfl rfl hl.1 rfl (Nat.le_of_ble_eq_true rfl) zd_ModelReader_readNamed_176 ⟨Nat.le_of_ble_eq_true rfl, Nat.le_of_ble_eq_true rfl⟩) hw hA (List.range 65) [] wX_all rfl (by decide) (fun i hi => by cases hi) (fun u H locs hok hw => ?_)
  obtain ⟨I2, J2, B2, D2⟩ := u
  dsimp only at hok
  have hw : zW G A s.heap (wX ad K sv I2 J2 B2 D2) H locs := hw
  exact wJ_ModelReader_readNamed_179 G K ad sv  Post PX C I2 J2 B2 D2 ls H locs hok (lv_sub hl [] rfl) hw
set_option maxHeartbeats 8000000 in
set_option maxRecDepth 100000 in
theorem wJ_ModelReader_readNamed_154 {p : Program} {l : Launch} {e : Env} {s : State} {m : MethodId} {below : List Frame} {meth : Method} {c : Code} {A : Nat → Prop} (G : va_G) (K : Nat → ClassId) (ad : Nat → Nat) (sv : Value) (Post : (Nat → Int32) → (Nat → Int64) → (Nat → Nat → Int32) → (Nat → Nat → Int64) → Prop) (PX : String → (Nat → Int32) → (Nat → Int64) → (Nat → Nat → Int32) → (Nat → Nat → Int64) → Prop) (C : zCy p l s m ([.ref (ad 5)] : List Value).toArray meth c A G K prog_5_method_15_code none 3 "LassoFinder$ModelReader") : ∀ (x1 : Int32) (x2 : Int32) (I : Nat → Int32) (J : Nat → Int64) (B : Nat → Nat → Int32) (D : Nat → Nat → Int64) (ls : Array Slot) (H : Heap) (locs : List Loc), wc_ModelReader_readNamed_154  Post PX x1 x2 I J B D → lv_has ls 3 [(0, .ref (ad 5)), (1, .int x1), (2, .int x2)] → zW G A s.heap (wX ad K sv I J B D) H locs → W p l e { frames := 9, cells := 1, slots := 6, locals := 147 } s m ([.ref (ad 5)] : List Value).toArray below meth c H locs 0 0 (zyMQ below (va_Qv (fun u : zS => Post u.1 u.2.1 u.2.2.1 u.2.2.2) (fun u t => zPost G K A (wX ad K sv u.1 u.2.1 u.2.2.1 u.2.2.2) t) A) (zYC (fun E (u : zS) => PX E u.1 u.2.1 u.2.2.1 u.2.2.2) (fun u => wX ad K sv u.1 u.2.1 u.2.2.1 u.2.2.2) G K A) ([.ref (ad 5)] : List Value).toArray s 1 6 A) (F0 m 154 ls []) := by
  obtain ⟨hx, hb, hr, hml, hts, hown, hlocks, hA, hK, hT, hnt, hlt⟩ := id C
  intro x1 x2 I J B D ls H locs hok hl hw
  unfold wc_ModelReader_readNamed_154 at hok
  refine lv_aload_n hx hb zd_ModelReader_readNamed_154 rfl (lv_at hl 0 rfl) ?_
  refine z_get (v := .ref (ad 1)) hx hb hts hown hK hw zZ4 5 wX_g5 0 (by decide) zn_422 rfl zd_ModelReader_readNamed_155 ?_
  refine z_yV (q0 := 1) (wc := (wX ad K sv I J B D)) (wr := []) (w1 := fun (u : zS) => wX ad K sv u.1 u.2.1 u.2.2.1 u.2.2.2) (As := []) (rest := []) ⟨hx, hb, hml, hown, hts⟩ (w_Text_refuse l hlt G K ad sv I J B D  _ _ H.size hok) zf_Text_refuse zn_336 ⟨Nat.le_of_ble_eq_true rfl, Nat.le_of_ble_eq_true rfl⟩ hK hT hw hA (List.range 65) [] wX_all rfl wX_nd (by decide) (fun i hi => by cases hi) wX_g1 rfl rfl hl.1 rfl (Nat.le_of_ble_eq_true rfl) zd_ModelReader_readNamed_158 ⟨Nat.le_of_ble_eq_true rfl, Nat.le_of_ble_eq_true rfl⟩ (fun v st9 t9 L9 h0 hq hL => ?_) (fun E ce q9 u H locs hu hw hce hcv hcl => z_yout (u := u) hnt hlocks hce hcv hcl hw (List.range 65) wX_all wX_nd hu (Nat.le_of_ble_eq_true rfl) (Nat.le_of_ble_eq_true rfl))
  obtain ⟨⟨u, hv9, hok, hB9⟩, hF9⟩ := hq
  cases hv9
  have hw := z_back (wr := []) hw hA (List.range 65) [] wX_all rfl (by decide) (fun i hi => by cases hi) h0 hL hB9 hF9
  obtain ⟨I3, J3, B3, D3⟩ := u
  dsimp only at hok
  generalize t9.heap = H at hw ⊢
  generalize locs ++ L9 = locs at hw ⊢
  have hw : zW G A s.heap (wX ad K sv I3 J3 B3 D3) H locs := hw
  refine W.eq (g2 := F0 m 161 ls []) rfl ?_
  exact wJ_ModelReader_readNamed_161 G K ad sv  Post PX C x1 x2 I3 J3 B3 D3 ls H locs hok (lv_sub hl [0, 1, 2] rfl) hw
set_option maxHeartbeats 8000000 in
set_option maxRecDepth 100000 in
theorem wJ_ModelReader_readNamed_34 {p : Program} {l : Launch} {e : Env} {s : State} {m : MethodId} {below : List Frame} {meth : Method} {c : Code} {A : Nat → Prop} (G : va_G) (K : Nat → ClassId) (ad : Nat → Nat) (sv : Value) (Post : (Nat → Int32) → (Nat → Int64) → (Nat → Nat → Int32) → (Nat → Nat → Int64) → Prop) (PX : String → (Nat → Int32) → (Nat → Int64) → (Nat → Nat → Int32) → (Nat → Nat → Int64) → Prop) (C : zCy p l s m ([.ref (ad 5)] : List Value).toArray meth c A G K prog_5_method_15_code none 3 "LassoFinder$ModelReader") : ∀ (x1 : Int32) (I : Nat → Int32) (J : Nat → Int64) (B : Nat → Nat → Int32) (D : Nat → Nat → Int64) (ls : Array Slot) (H : Heap) (locs : List Loc), wc_ModelReader_readNamed_34  Post PX x1 I J B D → lv_has ls 3 [(0, .ref (ad 5)), (1, .int x1)] → zW G A s.heap (wX ad K sv I J B D) H locs → W p l e { frames := 9, cells := 1, slots := 6, locals := 147 } s m ([.ref (ad 5)] : List Value).toArray below meth c H locs 0 0 (zyMQ below (va_Qv (fun u : zS => Post u.1 u.2.1 u.2.2.1 u.2.2.2) (fun u t => zPost G K A (wX ad K sv u.1 u.2.1 u.2.2.1 u.2.2.2) t) A) (zYC (fun E (u : zS) => PX E u.1 u.2.1 u.2.2.1 u.2.2.2) (fun u => wX ad K sv u.1 u.2.1 u.2.2.1 u.2.2.2) G K A) ([.ref (ad 5)] : List Value).toArray s 1 6 A) (F0 m 34 ls []) := by
  obtain ⟨hx, hb, hr, hml, hts, hown, hlocks, hA, hK, hT, hnt, hlt⟩ := id C
  intro x1 I J B D ls H locs hok hl hw
  unfold wc_ModelReader_readNamed_34 at hok
  refine lv_aload_n hx hb zd_ModelReader_readNamed_34 rfl (lv_at hl 0 rfl) ?_
  refine z_get (v := .ref (ad 1)) hx hb hts hown hK hw zZ4 5 wX_g5 0 (by decide) zn_422 rfl zd_ModelReader_readNamed_35 ?_
  refine z_callv (w1 := fun (u : zS) => wX ad K sv u.1 u.2.1 u.2.2.1 u.2.2.2) (wr := []) (z_runV (q0 := 1) (wc := (wX ad K sv I J B D)) (As := []) (rest := []) ⟨hx, hb, hml, hown, hts⟩ (w_Text_skip l G K ad sv I J B D  _ H.size hok) zf_Text_skip zn_338 ⟨Nat.le_of_ble_eq_true rfl, Nat.le_of_ble_eq_true rfl⟩ hK hw (List.range 65) wX_all wX_nd wX_g1 rfl rfl hl.1 rfl (Nat.le_of_ble_eq_true rfl) zd_ModelReader_readNamed_38 ⟨Nat.le_of_ble_eq_true rfl, Nat.le_of_ble_eq_true rfl⟩) hw hA (List.range 65) [] wX_all rfl (by decide) (fun i hi => by cases hi) (fun u H locs hok hw => ?_)
  obtain ⟨I4, J4, B4, D4⟩ := u
  dsimp only at hok
  have hw : zW G A s.heap (wX ad K sv I4 J4 B4 D4) H locs := hw
  refine lv_aload_n hx hb zd_ModelReader_readNamed_41 rfl (lv_at hl 0 rfl) ?_
  refine z_get (v := .ref (ad 2)) hx hb hts hown hK hw zZ4 5 wX_g5 1 (by decide) zn_419 rfl zd_ModelReader_readNamed_42 ?_
  refine z_get (v := .ref (ad 14)) hx hb hts hown hK hw zZ5 2 wX_g2 0 (by decide) zn_448 rfl zd_ModelReader_readNamed_45 ?_
  refine lv_iload_n hx hb zd_ModelReader_readNamed_48 rfl (lv_at hl 1 rfl) ?_
  refine va_iald (f := (B4 2)) hx hb hK hw.1 14 0 wX_a14 rfl hok.1 zd_ModelReader_readNamed_49 ?_
  have hok := hok.2
  refine lv_topi (fun z5 ez5 => ?_)
  have hok := hok z5 ez5
  refine lv_iconst (v := 1) hx hb zd_ModelReader_readNamed_50 (by decide) ?_
  refine lv_icmp_ne (tgt := 84) hx hb zd_ModelReader_readNamed_51 (by decide) (fun hc6 => ?_) (fun hc6 => ?_)
  · have hok := hok.1 hc6
    refine lv_aload_n hx hb zd_ModelReader_readNamed_84 rfl (lv_at hl 0 rfl) ?_
    refine z_get (v := .ref (ad 1)) hx hb hts hown hK hw zZ4 5 wX_g5 0 (by decide) zn_422 rfl zd_ModelReader_readNamed_85 ?_
    refine lv_bipush (v := 33) hx hb zd_ModelReader_readNamed_88 (by decide) ?_
    refine z_calli (w1 := fun (u : zS) => wX ad K sv u.1 u.2.1 u.2.2.1 u.2.2.2) (wr := []) (z_runV (q0 := 1) (wc := (wX ad K sv I4 J4 B4 D4)) (As := [.int 33]) (rest := []) ⟨hx, hb, hml, hown, hts⟩ (w_Text_accept l G K ad sv I4 J4 B4 D4 33 _ H.size hok) zf_Text_accept zn_332 ⟨Nat.le_of_ble_eq_true rfl, Nat.le_of_ble_eq_true rfl⟩ hK hw (List.range 65) wX_all wX_nd wX_g1 rfl rfl hl.1 rfl (Nat.le_of_ble_eq_true rfl) zd_ModelReader_readNamed_90 ⟨Nat.le_of_ble_eq_true rfl, Nat.le_of_ble_eq_true rfl⟩) hw hA (List.range 65) [] wX_all rfl (by decide) (fun i hi => by cases hi) (fun r7 u H locs hok hw => ?_)
    obtain ⟨I7, J7, B7, D7⟩ := u
    dsimp only at hok
    have hw : zW G A s.heap (wX ad K sv I7 J7 B7 D7) H locs := hw
    refine lv_if_eq (tgt := 117) hx hb zd_ModelReader_readNamed_93 (by decide) (fun hc8 => ?_) (fun hc8 => ?_)
    · have hok := hok.1 hc8
      refine lv_aload_n hx hb zd_ModelReader_readNamed_117 rfl (lv_at hl 0 rfl) ?_
      refine z_get (v := .ref (ad 1)) hx hb hts hown hK hw zZ4 5 wX_g5 0 (by decide) zn_422 rfl zd_ModelReader_readNamed_118 ?_
      refine lv_bipush (v := 63) hx hb zd_ModelReader_readNamed_121 (by decide) ?_
      refine z_yV (q0 := 1) (wc := (wX ad K sv I7 J7 B7 D7)) (wr := []) (w1 := fun (u : zS) => wX ad K sv u.1 u.2.1 u.2.2.1 u.2.2.2) (As := [.int 63]) (rest := []) ⟨hx, hb, hml, hown, hts⟩ (w_Text_expect l hlt G K ad sv I7 J7 B7 D7 63 _ _ H.size hok) zf_Text_expect zn_340 ⟨Nat.le_of_ble_eq_true rfl, Nat.le_of_ble_eq_true rfl⟩ hK hT hw hA (List.range 65) [] wX_all rfl wX_nd (by decide) (fun i hi => by cases hi) wX_g1 rfl rfl hl.1 rfl (Nat.le_of_ble_eq_true rfl) zd_ModelReader_readNamed_123 ⟨Nat.le_of_ble_eq_true rfl, Nat.le_of_ble_eq_true rfl⟩ (fun v st9 t9 L9 h0 hq hL => ?_) (fun E ce q9 u H locs hu hw hce hcv hcl => z_yout (u := u) hnt hlocks hce hcv hcl hw (List.range 65) wX_all wX_nd hu (Nat.le_of_ble_eq_true rfl) (Nat.le_of_ble_eq_true rfl))
      obtain ⟨⟨u, hv9, hok, hB9⟩, hF9⟩ := hq
      cases hv9
      have hw := z_back (wr := []) hw hA (List.range 65) [] wX_all rfl (by decide) (fun i hi => by cases hi) h0 hL hB9 hF9
      obtain ⟨I9, J9, B9, D9⟩ := u
      dsimp only at hok
      generalize t9.heap = H at hw ⊢
      generalize locs ++ L9 = locs at hw ⊢
      have hw : zW G A s.heap (wX ad K sv I9 J9 B9 D9) H locs := hw
      refine W.eq (g2 := F0 m 126 ls []) rfl ?_
      refine lv_aload_n hx hb zd_ModelReader_readNamed_126 rfl (lv_at hl 0 rfl) ?_
      refine z_get (v := .ref (ad 1)) hx hb hts hown hK hw zZ4 5 wX_g5 0 (by decide) zn_422 rfl zd_ModelReader_readNamed_127 ?_
      refine lv_bipush (v := 97) hx hb zd_ModelReader_readNamed_130 (by decide) ?_
      refine z_calli (w1 := fun (u : zS) => wX ad K sv u.1 u.2.1 u.2.2.1 u.2.2.2) (wr := []) (z_runV (q0 := 1) (wc := (wX ad K sv I9 J9 B9 D9)) (As := [.int 97]) (rest := []) ⟨hx, hb, hml, hown, hts⟩ (w_Text_oneOf l G K ad sv I9 J9 B9 D9 97 _ H.size hok) zf_Text_oneOf zn_334 ⟨Nat.le_of_ble_eq_true rfl, Nat.le_of_ble_eq_true rfl⟩ hK hw (List.range 65) wX_all wX_nd wX_g1 rfl rfl hl.1 rfl (Nat.le_of_ble_eq_true rfl) zd_ModelReader_readNamed_132 ⟨Nat.le_of_ble_eq_true rfl, Nat.le_of_ble_eq_true rfl⟩) hw hA (List.range 65) [] wX_all rfl (by decide) (fun i hi => by cases hi) (fun r10 u H locs hok hw => ?_)
      obtain ⟨I10, J10, B10, D10⟩ := u
      dsimp only at hok
      have hw : zW G A s.heap (wX ad K sv I10 J10 B10 D10) H locs := hw
      refine lv_istore_n hx hb zd_ModelReader_readNamed_135 rfl hl (by decide) rfl (fun ls hl => ?_)
      have hl : lv_has ls 3 [(2, .int r10), (0, .ref (ad 5)), (1, .int x1)] := hl
      refine lv_iload_n hx hb zd_ModelReader_readNamed_136 rfl (lv_at hl 0 rfl) ?_
      refine lv_iconst (v := (-1)) hx hb zd_ModelReader_readNamed_137 (by decide) ?_
      refine lv_icmp_eq (tgt := 154) hx hb zd_ModelReader_readNamed_138 (by decide) (fun hc11 => ?_) (fun hc11 => ?_)
      · have hok := hok.1 hc11
        exact wJ_ModelReader_readNamed_154 G K ad sv  Post PX C x1 r10 I10 J10 B10 D10 ls H locs hok (lv_sub hl [1, 2, 0] rfl) hw
      · have hok := hok.2 hc11
        refine lv_aload_n hx hb zd_ModelReader_readNamed_141 rfl (lv_at hl 1 rfl) ?_
        refine z_get (v := .ref (ad 2)) hx hb hts hown hK hw zZ4 5 wX_g5 1 (by decide) zn_419 rfl zd_ModelReader_readNamed_142 ?_
        refine z_get (v := .ref (ad 14)) hx hb hts hown hK hw zZ5 2 wX_g2 0 (by decide) zn_448 rfl zd_ModelReader_readNamed_145 ?_
        refine lv_iload_n hx hb zd_ModelReader_readNamed_148 rfl (lv_at hl 0 rfl) ?_
        refine va_iald (f := (B10 2)) hx hb hK hw.1 14 0 wX_a14 rfl hok.1 zd_ModelReader_readNamed_149 ?_
        have hok := hok.2
        refine lv_topi (fun z12 ez12 => ?_)
        have hok := hok z12 ez12
        refine lv_iconst (v := 1) hx hb zd_ModelReader_readNamed_150 (by decide) ?_
        refine lv_icmp_eq (tgt := 161) hx hb zd_ModelReader_readNamed_151 (by decide) (fun hc13 => ?_) (fun hc13 => ?_)
        · have hok := hok.1 hc13
          exact wJ_ModelReader_readNamed_161 G K ad sv  Post PX C x1 r10 I10 J10 B10 D10 ls H locs hok (lv_sub hl [1, 2, 0] rfl) hw
        · have hok := hok.2 hc13
          exact wJ_ModelReader_readNamed_154 G K ad sv  Post PX C x1 r10 I10 J10 B10 D10 ls H locs hok (lv_sub hl [1, 2, 0] rfl) hw
    · have hok := hok.2 hc8
      refine lv_aload_n hx hb zd_ModelReader_readNamed_96 rfl (lv_at hl 0 rfl) ?_
      refine z_get (v := .ref (ad 3)) hx hb hts hown hK hw zZ4 5 wX_g5 3 (by decide) zn_421 rfl zd_ModelReader_readNamed_97 ?_
      refine lv_iconst (v := 2) hx hb zd_ModelReader_readNamed_100 (by decide) ?_
      refine lv_iload_n hx hb zd_ModelReader_readNamed_101 rfl (lv_at hl 1 rfl) ?_
      refine lv_iconst (v := (-1)) hx hb zd_ModelReader_readNamed_102 (by decide) ?_
      refine lv_aload_n hx hb zd_ModelReader_readNamed_103 rfl (lv_at hl 0 rfl) ?_
      refine z_get (v := .ref (ad 4)) hx hb hts hown hK hw zZ4 5 wX_g5 2 (by decide) zn_420 rfl zd_ModelReader_readNamed_104 ?_
      refine lv_iconst (v := 0) hx hb zd_ModelReader_readNamed_107 (by decide) ?_
      refine z_yV (q0 := 4) (wc := (wX ad K sv I7 J7 B7 D7)) (wr := []) (w1 := fun (u : zS) => wX ad K sv u.1 u.2.1 u.2.2.1 u.2.2.2) (As := [.int 0]) (rest := [.int (-1), .int x1, .int 2, .ref (ad 3)]) ⟨hx, hb, hml, hown, hts⟩ (w_Terms_read_A l hlt G K ad sv I7 J7 B7 D7 0 _ _ H.size hok) zf_Terms_read zn_362 ⟨Nat.le_of_ble_eq_true rfl, Nat.le_of_ble_eq_true rfl⟩ hK hT hw hA (List.range 65) [] wX_all rfl wX_nd (by decide) (fun i hi => by cases hi) wX_g4 rfl rfl hl.1 rfl (Nat.le_of_ble_eq_true rfl) zd_ModelReader_readNamed_108 ⟨Nat.le_of_ble_eq_true rfl, Nat.le_of_ble_eq_true rfl⟩ (fun v st9 t9 L9 h0 hq hL => ?_) (fun E ce q9 u H locs hu hw hce hcv hcl => z_yout (u := u) hnt hlocks hce hcv hcl hw (List.range 65) wX_all wX_nd hu (Nat.le_of_ble_eq_true rfl) (Nat.le_of_ble_eq_true rfl))
      obtain ⟨⟨r14, u, hv9, hok, hB9⟩, hF9⟩ := hq
      cases hv9
      have hw := z_back (wr := []) hw hA (List.range 65) [] wX_all rfl (by decide) (fun i hi => by cases hi) h0 hL hB9 hF9
      obtain ⟨I14, J14, B14, D14⟩ := u
      dsimp only at hok
      generalize t9.heap = H at hw ⊢
      generalize locs ++ L9 = locs at hw ⊢
      have hw : zW G A s.heap (wX ad K sv I14 J14 B14 D14) H locs := hw
      refine W.eq (g2 := F0 m 111 ls [.int r14, .int (-1), .int x1, .int 2, .ref (ad 3)]) rfl ?_
      refine z_callv (w1 := fun (u : zS) => wX ad K sv u.1 u.2.1 u.2.2.1 u.2.2.2) (wr := []) (z_runV (q0 := 3) (wc := (wX ad K sv I14 J14 B14 D14)) (As := [.int 2, .int x1, .int (-1), .int r14]) (rest := []) ⟨hx, hb, hml, hown, hts⟩ (w_Program_add l G K ad sv I14 J14 B14 D14 2 x1 (-1) r14 _ H.size hok) zf_Program_add zn_360 ⟨Nat.le_of_ble_eq_true rfl, Nat.le_of_ble_eq_true rfl⟩ hK hw (List.range 65) wX_all wX_nd wX_g3 rfl rfl hl.1 rfl (Nat.le_of_ble_eq_true rfl) zd_ModelReader_readNamed_111 ⟨Nat.le_of_ble_eq_true rfl, Nat.le_of_ble_eq_true rfl⟩) hw hA (List.range 65) [] wX_all rfl (by decide) (fun i hi => by cases hi) (fun u H locs hok hw => ?_)
      obtain ⟨I15, J15, B15, D15⟩ := u
      dsimp only at hok
      have hw : zW G A s.heap (wX ad K sv I15 J15 B15 D15) H locs := hw
      refine lv_goto (tgt := 179) hx hb zd_ModelReader_readNamed_114 (by decide) ?_
      exact wJ_ModelReader_readNamed_179 G K ad sv  Post PX C I15 J15 B15 D15 ls H locs hok (lv_sub hl [] rfl) hw
  · have hok := hok.2 hc6
    refine lv_aload_n hx hb zd_ModelReader_readNamed_54 rfl (lv_at hl 0 rfl) ?_
    refine z_get (v := .ref (ad 1)) hx hb hts hown hK hw zZ4 5 wX_g5 0 (by decide) zn_422 rfl zd_ModelReader_readNamed_55 ?_
    refine lv_bipush (v := 61) hx hb zd_ModelReader_readNamed_58 (by decide) ?_
    refine z_yV (q0 := 1) (wc := (wX ad K sv I4 J4 B4 D4)) (wr := []) (w1 := fun (u : zS) => wX ad K sv u.1 u.2.1 u.2.2.1 u.2.2.2) (As := [.int 61]) (rest := []) ⟨hx, hb, hml, hown, hts⟩ (w_Text_expect l hlt G K ad sv I4 J4 B4 D4 61 _ _ H.size hok) zf_Text_expect zn_340 ⟨Nat.le_of_ble_eq_true rfl, Nat.le_of_ble_eq_true rfl⟩ hK hT hw hA (List.range 65) [] wX_all rfl wX_nd (by decide) (fun i hi => by cases hi) wX_g1 rfl rfl hl.1 rfl (Nat.le_of_ble_eq_true rfl) zd_ModelReader_readNamed_60 ⟨Nat.le_of_ble_eq_true rfl, Nat.le_of_ble_eq_true rfl⟩ (fun v st9 t9 L9 h0 hq hL => ?_) (fun E ce q9 u H locs hu hw hce hcv hcl => z_yout (u := u) hnt hlocks hce hcv hcl hw (List.range 65) wX_all wX_nd hu (Nat.le_of_ble_eq_true rfl) (Nat.le_of_ble_eq_true rfl))
    obtain ⟨⟨u, hv9, hok, hB9⟩, hF9⟩ := hq
    cases hv9
    have hw := z_back (wr := []) hw hA (List.range 65) [] wX_all rfl (by decide) (fun i hi => by cases hi) h0 hL hB9 hF9
    obtain ⟨I16, J16, B16, D16⟩ := u
    dsimp only at hok
    generalize t9.heap = H at hw ⊢
    generalize locs ++ L9 = locs at hw ⊢
    have hw : zW G A s.heap (wX ad K sv I16 J16 B16 D16) H locs := hw
    refine W.eq (g2 := F0 m 63 ls []) rfl ?_
    refine lv_aload_n hx hb zd_ModelReader_readNamed_63 rfl (lv_at hl 0 rfl) ?_
    refine z_get (v := .ref (ad 3)) hx hb hts hown hK hw zZ4 5 wX_g5 3 (by decide) zn_421 rfl zd_ModelReader_readNamed_64 ?_
    refine lv_iconst (v := 0) hx hb zd_ModelReader_readNamed_67 (by decide) ?_
    refine lv_iconst (v := (-1)) hx hb zd_ModelReader_readNamed_68 (by decide) ?_
    refine lv_iload_n hx hb zd_ModelReader_readNamed_69 rfl (lv_at hl 1 rfl) ?_
    refine lv_aload_n hx hb zd_ModelReader_readNamed_70 rfl (lv_at hl 0 rfl) ?_
    refine z_get (v := .ref (ad 4)) hx hb hts hown hK hw zZ4 5 wX_g5 2 (by decide) zn_420 rfl zd_ModelReader_readNamed_71 ?_
    refine lv_iconst (v := 0) hx hb zd_ModelReader_readNamed_74 (by decide) ?_
    refine z_yV (q0 := 4) (wc := (wX ad K sv I16 J16 B16 D16)) (wr := []) (w1 := fun (u : zS) => wX ad K sv u.1 u.2.1 u.2.2.1 u.2.2.2) (As := [.int 0]) (rest := [.int x1, .int (-1), .int 0, .ref (ad 3)]) ⟨hx, hb, hml, hown, hts⟩ (w_Terms_read_A l hlt G K ad sv I16 J16 B16 D16 0 _ _ H.size hok) zf_Terms_read zn_362 ⟨Nat.le_of_ble_eq_true rfl, Nat.le_of_ble_eq_true rfl⟩ hK hT hw hA (List.range 65) [] wX_all rfl wX_nd (by decide) (fun i hi => by cases hi) wX_g4 rfl rfl hl.1 rfl (Nat.le_of_ble_eq_true rfl) zd_ModelReader_readNamed_75 ⟨Nat.le_of_ble_eq_true rfl, Nat.le_of_ble_eq_true rfl⟩ (fun v st9 t9 L9 h0 hq hL => ?_) (fun E ce q9 u H locs hu hw hce hcv hcl => z_yout (u := u) hnt hlocks hce hcv hcl hw (List.range 65) wX_all wX_nd hu (Nat.le_of_ble_eq_true rfl) (Nat.le_of_ble_eq_true rfl))
    obtain ⟨⟨r17, u, hv9, hok, hB9⟩, hF9⟩ := hq
    cases hv9
    have hw := z_back (wr := []) hw hA (List.range 65) [] wX_all rfl (by decide) (fun i hi => by cases hi) h0 hL hB9 hF9
    obtain ⟨I17, J17, B17, D17⟩ := u
    dsimp only at hok
    generalize t9.heap = H at hw ⊢
    generalize locs ++ L9 = locs at hw ⊢
    have hw : zW G A s.heap (wX ad K sv I17 J17 B17 D17) H locs := hw
    refine W.eq (g2 := F0 m 78 ls [.int r17, .int x1, .int (-1), .int 0, .ref (ad 3)]) rfl ?_
    refine z_callv (w1 := fun (u : zS) => wX ad K sv u.1 u.2.1 u.2.2.1 u.2.2.2) (wr := []) (z_runV (q0 := 3) (wc := (wX ad K sv I17 J17 B17 D17)) (As := [.int 0, .int (-1), .int x1, .int r17]) (rest := []) ⟨hx, hb, hml, hown, hts⟩ (w_Program_add l G K ad sv I17 J17 B17 D17 0 (-1) x1 r17 _ H.size hok) zf_Program_add zn_360 ⟨Nat.le_of_ble_eq_true rfl, Nat.le_of_ble_eq_true rfl⟩ hK hw (List.range 65) wX_all wX_nd wX_g3 rfl rfl hl.1 rfl (Nat.le_of_ble_eq_true rfl) zd_ModelReader_readNamed_78 ⟨Nat.le_of_ble_eq_true rfl, Nat.le_of_ble_eq_true rfl⟩) hw hA (List.range 65) [] wX_all rfl (by decide) (fun i hi => by cases hi) (fun u H locs hok hw => ?_)
    obtain ⟨I18, J18, B18, D18⟩ := u
    dsimp only at hok
    have hw : zW G A s.heap (wX ad K sv I18 J18 B18 D18) H locs := hw
    refine lv_goto (tgt := 179) hx hb zd_ModelReader_readNamed_81 (by decide) ?_
    exact wJ_ModelReader_readNamed_179 G K ad sv  Post PX C I18 J18 B18 D18 ls H locs hok (lv_sub hl [] rfl) hw
set_option maxHeartbeats 8000000 in
set_option maxRecDepth 100000 in
theorem wJ_ModelReader_readNamed_27 {p : Program} {l : Launch} {e : Env} {s : State} {m : MethodId} {below : List Frame} {meth : Method} {c : Code} {A : Nat → Prop} (G : va_G) (K : Nat → ClassId) (ad : Nat → Nat) (sv : Value) (Post : (Nat → Int32) → (Nat → Int64) → (Nat → Nat → Int32) → (Nat → Nat → Int64) → Prop) (PX : String → (Nat → Int32) → (Nat → Int64) → (Nat → Nat → Int32) → (Nat → Nat → Int64) → Prop) (C : zCy p l s m ([.ref (ad 5)] : List Value).toArray meth c A G K prog_5_method_15_code none 3 "LassoFinder$ModelReader") : ∀ (x1 : Int32) (I : Nat → Int32) (J : Nat → Int64) (B : Nat → Nat → Int32) (D : Nat → Nat → Int64) (ls : Array Slot) (H : Heap) (locs : List Loc), wc_ModelReader_readNamed_27  Post PX x1 I J B D → lv_has ls 3 [(0, .ref (ad 5)), (1, .int x1)] → zW G A s.heap (wX ad K sv I J B D) H locs → W p l e { frames := 9, cells := 1, slots := 6, locals := 147 } s m ([.ref (ad 5)] : List Value).toArray below meth c H locs 0 0 (zyMQ below (va_Qv (fun u : zS => Post u.1 u.2.1 u.2.2.1 u.2.2.2) (fun u t => zPost G K A (wX ad K sv u.1 u.2.1 u.2.2.1 u.2.2.2) t) A) (zYC (fun E (u : zS) => PX E u.1 u.2.1 u.2.2.1 u.2.2.2) (fun u => wX ad K sv u.1 u.2.1 u.2.2.1 u.2.2.2) G K A) ([.ref (ad 5)] : List Value).toArray s 1 6 A) (F0 m 27 ls []) := by
  obtain ⟨hx, hb, hr, hml, hts, hown, hlocks, hA, hK, hT, hnt, hlt⟩ := id C
  intro x1 I J B D ls H locs hok hl hw
  unfold wc_ModelReader_readNamed_27 at hok
  refine lv_aload_n hx hb zd_ModelReader_readNamed_27 rfl (lv_at hl 0 rfl) ?_
  refine z_get (v := .ref (ad 1)) hx hb hts hown hK hw zZ4 5 wX_g5 0 (by decide) zn_422 rfl zd_ModelReader_readNamed_28 ?_
  refine z_yV (q0 := 1) (wc := (wX ad K sv I J B D)) (wr := []) (w1 := fun (u : zS) => wX ad K sv u.1 u.2.1 u.2.2.1 u.2.2.2) (As := []) (rest := []) ⟨hx, hb, hml, hown, hts⟩ (w_Text_refuse l hlt G K ad sv I J B D  _ _ H.size hok) zf_Text_refuse zn_336 ⟨Nat.le_of_ble_eq_true rfl, Nat.le_of_ble_eq_true rfl⟩ hK hT hw hA (List.range 65) [] wX_all rfl wX_nd (by decide) (fun i hi => by cases hi) wX_g1 rfl rfl hl.1 rfl (Nat.le_of_ble_eq_true rfl) zd_ModelReader_readNamed_31 ⟨Nat.le_of_ble_eq_true rfl, Nat.le_of_ble_eq_true rfl⟩ (fun v st9 t9 L9 h0 hq hL => ?_) (fun E ce q9 u H locs hu hw hce hcv hcl => z_yout (u := u) hnt hlocks hce hcv hcl hw (List.range 65) wX_all wX_nd hu (Nat.le_of_ble_eq_true rfl) (Nat.le_of_ble_eq_true rfl))
  obtain ⟨⟨u, hv9, hok, hB9⟩, hF9⟩ := hq
  cases hv9
  have hw := z_back (wr := []) hw hA (List.range 65) [] wX_all rfl (by decide) (fun i hi => by cases hi) h0 hL hB9 hF9
  obtain ⟨I19, J19, B19, D19⟩ := u
  dsimp only at hok
  generalize t9.heap = H at hw ⊢
  generalize locs ++ L9 = locs at hw ⊢
  have hw : zW G A s.heap (wX ad K sv I19 J19 B19 D19) H locs := hw
  refine W.eq (g2 := F0 m 34 ls []) rfl ?_
  exact wJ_ModelReader_readNamed_34 G K ad sv  Post PX C x1 I19 J19 B19 D19 ls H locs hok (lv_sub hl [0, 1] rfl) hw
set_option maxHeartbeats 8000000 in
set_option maxRecDepth 100000 in
theorem w_ModelReader_readNamed (l : Launch) (hlt : l.stackTraces = false) (G : va_G) (K : Nat → ClassId) (ad : Nat → Nat) (sv : Value) (I : Nat → Int32) (J : Nat → Int64) (B : Nat → Nat → Int32) (D : Nat → Nat → Int64) (Post : (Nat → Int32) → (Nat → Int64) → (Nat → Nat → Int32) → (Nat → Nat → Int64) → Prop) (PX : String → (Nat → Int32) → (Nat → Int64) → (Nat → Nat → Int32) → (Nat → Nat → Int64) → Prop) (sz : Nat) (hok : wp_ModelReader_readNamed I J B D  Post PX) : zyMet l zy_ModelReader_readNamed (Cond.code zy_ModelReader_readNamed prog_5_method_15_code 3 none :: zTB) { frames := 9, cells := 1, slots := 6, locals := 147 } (va_Pc [.ref (ad 5)] (zPreY G K (wX ad K sv I J B D) sz)) (va_Qv (fun u : zS => Post u.1 u.2.1 u.2.2.1 u.2.2.2) (fun u t => zPost G K (va_A (wX ad K sv I J B D) sz) (wX ad K sv u.1 u.2.1 u.2.2.1 u.2.2.2) t) (va_A (wX ad K sv I J B D) sz)) (zYC (fun E (u : zS) => PX E u.1 u.2.1 u.2.2.1 u.2.2.2) (fun u => wX ad K sv u.1 u.2.1 u.2.2.1 u.2.2.2) G K (va_A (wX ad K sv I J B D) sz)) 1 6 (va_A (wX ad K sv I J B D) sz) := by
  refine zMetY (y := zy_ModelReader_readNamed) (av := [.ref (ad 5)]) (maxL := 3) (cc := prog_5_method_15_code) (ret := none) (W0 := (wX ad K sv I J B D)) (sz := sz) (G := G) (K := K) (wt := zTB) (mc := 1) (ms := 6) (Qf := fun A => va_Qv (fun u : zS => Post u.1 u.2.1 u.2.2.1 u.2.2.2) (fun u t => zPost G K A (wX ad K sv u.1 u.2.1 u.2.2.1 u.2.2.2) t) A) (Xf := fun A => (zYC (fun E (u : zS) => PX E u.1 u.2.1 u.2.2.1 u.2.2.2) (fun u => wX ad K sv u.1 u.2.1 u.2.2.1 u.2.2.2) G K A)) (by decide) (Nat.le_of_ble_eq_true rfl) ?_
  intro p e s m below meth c ls A hx hb hr hml hts hown hlocks hin hA hK H locs hw hsz hl hT hnt
  clear hsz
  have hown : s.vm.findClass "LassoFinder$ModelReader" = some m.cls := hown
  have C : zCy p l s m ([.ref (ad 5)] : List Value).toArray meth c A G K prog_5_method_15_code none 3 "LassoFinder$ModelReader" := ⟨hx, hb, hr, hml, hts, hown, hlocks, hA, hK, hT, hnt, hlt⟩
  have hl : lv_has ls 3 [(0, .ref (ad 5))] := hl
  have hw : zW G A s.heap (wX ad K sv I J B D) H locs := hw
  unfold wp_ModelReader_readNamed at hok
  refine lv_aload_n hx hb zd_ModelReader_readNamed_0 rfl (lv_at hl 0 rfl) ?_
  refine z_get (v := .ref (ad 1)) hx hb hts hown hK hw zZ4 5 wX_g5 0 (by decide) zn_422 rfl zd_ModelReader_readNamed_1 ?_
  refine lv_bipush (v := 97) hx hb zd_ModelReader_readNamed_4 (by decide) ?_
  refine z_calli (w1 := fun (u : zS) => wX ad K sv u.1 u.2.1 u.2.2.1 u.2.2.2) (wr := []) (z_runV (q0 := 1) (wc := (wX ad K sv I J B D)) (As := [.int 97]) (rest := []) ⟨hx, hb, hml, hown, hts⟩ (w_Text_oneOf l G K ad sv I J B D 97 _ H.size hok) zf_Text_oneOf zn_334 ⟨Nat.le_of_ble_eq_true rfl, Nat.le_of_ble_eq_true rfl⟩ hK hw (List.range 65) wX_all wX_nd wX_g1 rfl rfl hl.1 rfl (Nat.le_of_ble_eq_true rfl) zd_ModelReader_readNamed_6 ⟨Nat.le_of_ble_eq_true rfl, Nat.le_of_ble_eq_true rfl⟩) hw hA (List.range 65) [] wX_all rfl (by decide) (fun i hi => by cases hi) (fun r20 u H locs hok hw => ?_)
  obtain ⟨I20, J20, B20, D20⟩ := u
  dsimp only at hok
  have hw : zW G A s.heap (wX ad K sv I20 J20 B20 D20) H locs := hw
  refine lv_istore_n hx hb zd_ModelReader_readNamed_9 rfl hl (by decide) rfl (fun ls hl => ?_)
  have hl : lv_has ls 3 [(1, .int r20), (0, .ref (ad 5))] := hl
  refine lv_iload_n hx hb zd_ModelReader_readNamed_10 rfl (lv_at hl 0 rfl) ?_
  refine lv_iconst (v := (-1)) hx hb zd_ModelReader_readNamed_11 (by decide) ?_
  refine lv_icmp_eq (tgt := 27) hx hb zd_ModelReader_readNamed_12 (by decide) (fun hc21 => ?_) (fun hc21 => ?_)
  · have hok := hok.1 hc21
    exact wJ_ModelReader_readNamed_27 G K ad sv  Post PX C r20 I20 J20 B20 D20 ls H locs hok (lv_sub hl [1, 0] rfl) hw
  · have hok := hok.2 hc21
    refine lv_aload_n hx hb zd_ModelReader_readNamed_15 rfl (lv_at hl 1 rfl) ?_
    refine z_get (v := .ref (ad 2)) hx hb hts hown hK hw zZ4 5 wX_g5 1 (by decide) zn_419 rfl zd_ModelReader_readNamed_16 ?_
    refine z_get (v := .ref (ad 14)) hx hb hts hown hK hw zZ5 2 wX_g2 0 (by decide) zn_448 rfl zd_ModelReader_readNamed_19 ?_
    refine lv_iload_n hx hb zd_ModelReader_readNamed_22 rfl (lv_at hl 0 rfl) ?_
    refine va_iald (f := (B20 2)) hx hb hK hw.1 14 0 wX_a14 rfl hok.1 zd_ModelReader_readNamed_23 ?_
    have hok := hok.2
    refine lv_topi (fun z22 ez22 => ?_)
    have hok := hok z22 ez22
    refine lv_if_ne (tgt := 34) hx hb zd_ModelReader_readNamed_24 (by decide) (fun hc23 => ?_) (fun hc23 => ?_)
    · have hok := hok.1 hc23
      exact wJ_ModelReader_readNamed_34 G K ad sv  Post PX C r20 I20 J20 B20 D20 ls H locs hok (lv_sub hl [1, 0] rfl) hw
    · have hok := hok.2 hc23
      exact wJ_ModelReader_readNamed_27 G K ad sv  Post PX C r20 I20 J20 B20 D20 ls H locs hok (lv_sub hl [1, 0] rfl) hw
def wp_Names_clear (I : Nat → Int32) (J : Nat → Int64) (B : Nat → Nat → Int32) (D : Nat → Nat → Int64) (Post : (Nat → Int32) → (Nat → Int64) → (Nat → Nat → Int32) → (Nat → Nat → Int64) → Prop) : Prop :=
  Post (upd (upd I 7 0) 8 0) J (va_up B 2 (zFill (B 2) 0 8)) D
set_option maxHeartbeats 8000000 in
set_option maxRecDepth 100000 in
theorem w_Names_clear (l : Launch) (G : va_G) (K : Nat → ClassId) (ad : Nat → Nat) (sv : Value) (I : Nat → Int32) (J : Nat → Int64) (B : Nat → Nat → Int32) (D : Nat → Nat → Int64) (Post : (Nat → Int32) → (Nat → Int64) → (Nat → Nat → Int32) → (Nat → Nat → Int64) → Prop) (sz : Nat) (hok : wp_Names_clear I J B D  Post) : Met l zy_Names_clear (Cond.code zy_Names_clear prog_6_method_2_code 1 none :: zTB) { frames := 1, cells := 0, slots := 0, locals := 23 } (va_Pc [.ref (ad 2)] (zPre G K (wX ad K sv I J B D) sz)) (va_Qv (fun u : zS => Post u.1 u.2.1 u.2.2.1 u.2.2.2) (fun u t => zPost G K (va_A (wX ad K sv I J B D) sz) (wX ad K sv u.1 u.2.1 u.2.2.1 u.2.2.2) t) (va_A (wX ad K sv I J B D) sz)) 0 0 (va_A (wX ad K sv I J B D) sz) := by
  refine zMet (y := zy_Names_clear) (av := [.ref (ad 2)]) (maxL := 1) (cc := prog_6_method_2_code) (ret := none) (W0 := (wX ad K sv I J B D)) (sz := sz) (G := G) (K := K) (wt := zTB) (mc := 0) (ms := 0) (Qf := fun A => va_Qv (fun u : zS => Post u.1 u.2.1 u.2.2.1 u.2.2.2) (fun u t => zPost G K A (wX ad K sv u.1 u.2.1 u.2.2.1 u.2.2.2) t) A) (by decide) (Nat.le_of_ble_eq_true rfl) ?_
  intro p e s m below meth c ls A hx hb hr hml hts hown hlocks hin hA hK H locs hw hsz hl
  clear hsz
  have hown : s.vm.findClass "LassoFinder$Names" = some m.cls := hown
  have C : zCx p s m ([.ref (ad 2)] : List Value).toArray meth c A G K prog_6_method_2_code none 1 "LassoFinder$Names" := ⟨hx, hb, hr, hml, hts, hown, hlocks, hA, hK⟩
  have hl : lv_has ls 1 [(0, .ref (ad 2))] := hl
  have hw : zW G A s.heap (wX ad K sv I J B D) H locs := hw
  unfold wp_Names_clear at hok
  refine lv_aload_n hx hb zd_Names_clear_0 rfl (lv_at hl 0 rfl) ?_
  refine z_get (v := .ref (ad 14)) hx hb hts hown hK hw zZ5 2 wX_g2 0 (by decide) zn_237 rfl zd_Names_clear_1 ?_
  refine lv_iconst (v := 0) hx hb zd_Names_clear_4 (by decide) ?_
  refine z_fillI (f := (B 2)) (v := 0) (n := 8) (rest := []) ⟨hx, hb, hml, hown, hts⟩ hK hw hA 14 wX_a14 (by decide) zn_325 ⟨(Nat.le_of_ble_eq_true rfl), (Nat.le_of_ble_eq_true rfl)⟩ hl.1 rfl (Nat.le_of_ble_eq_true rfl) zd_Names_clear_5 ⟨(Nat.le_of_ble_eq_true rfl), (Nat.le_of_ble_eq_true rfl)⟩ (fun H locs hw => ?_)
  have hw := wX_t14 hw
  refine lv_aload_n hx hb zd_Names_clear_8 rfl (lv_at hl 0 rfl) ?_
  refine lv_iconst (v := 0) hx hb zd_Names_clear_9 (by decide) ?_
  refine z_put (v := .int 0) hx hb hts hown hK hw zZ5 2 wX_g2 4 (by decide) zn_449 rfl rfl rfl (Nat.le_of_ble_eq_true rfl) zd_Names_clear_10 (fun H locs hw => ?_)
  have hw := wX_sI7 hw
  refine lv_aload_n hx hb zd_Names_clear_13 rfl (lv_at hl 0 rfl) ?_
  refine lv_iconst (v := 0) hx hb zd_Names_clear_14 (by decide) ?_
  refine z_put (v := .int 0) hx hb hts hown hK hw zZ5 2 wX_g2 5 (by decide) zn_450 rfl rfl rfl (Nat.le_of_ble_eq_true rfl) zd_Names_clear_15 (fun H locs hw => ?_)
  have hw := wX_sI8 hw
  exact (z_vret (u := ((upd (upd I 7 0) 8 0), J, (va_up B 2 (zFill (B 2) 0 8)), D)) hx hb hr hlocks hw (List.range 65) wX_all wX_nd hok (Nat.le_of_ble_eq_true rfl) (Nat.le_of_ble_eq_true rfl) zd_Names_clear_18)
def wp_Terms_clear_A (I : Nat → Int32) (J : Nat → Int64) (B : Nat → Nat → Int32) (D : Nat → Nat → Int64) (Post : (Nat → Int32) → (Nat → Int64) → (Nat → Nat → Int32) → (Nat → Nat → Int64) → Prop) : Prop :=
  Post (upd I 11 0) J B D
set_option maxHeartbeats 8000000 in
set_option maxRecDepth 100000 in
theorem w_Terms_clear_A (l : Launch) (G : va_G) (K : Nat → ClassId) (ad : Nat → Nat) (sv : Value) (I : Nat → Int32) (J : Nat → Int64) (B : Nat → Nat → Int32) (D : Nat → Nat → Int64) (Post : (Nat → Int32) → (Nat → Int64) → (Nat → Nat → Int32) → (Nat → Nat → Int64) → Prop) (sz : Nat) (hok : wp_Terms_clear_A I J B D  Post) : Met l zy_Terms_clear (Cond.code zy_Terms_clear prog_9_method_2_code 1 none :: zTB) { frames := 0, cells := 0, slots := 0, locals := 0 } (va_Pc [.ref (ad 4)] (zPre G K (wX ad K sv I J B D) sz)) (va_Qv (fun u : zS => Post u.1 u.2.1 u.2.2.1 u.2.2.2) (fun u t => zPost G K (va_A (wX ad K sv I J B D) sz) (wX ad K sv u.1 u.2.1 u.2.2.1 u.2.2.2) t) (va_A (wX ad K sv I J B D) sz)) 0 0 (va_A (wX ad K sv I J B D) sz) := by
  refine zMet (y := zy_Terms_clear) (av := [.ref (ad 4)]) (maxL := 1) (cc := prog_9_method_2_code) (ret := none) (W0 := (wX ad K sv I J B D)) (sz := sz) (G := G) (K := K) (wt := zTB) (mc := 0) (ms := 0) (Qf := fun A => va_Qv (fun u : zS => Post u.1 u.2.1 u.2.2.1 u.2.2.2) (fun u t => zPost G K A (wX ad K sv u.1 u.2.1 u.2.2.1 u.2.2.2) t) A) (by decide) (Nat.le_of_ble_eq_true rfl) ?_
  intro p e s m below meth c ls A hx hb hr hml hts hown hlocks hin hA hK H locs hw hsz hl
  clear hsz
  have hown : s.vm.findClass "LassoFinder$Terms" = some m.cls := hown
  have C : zCx p s m ([.ref (ad 4)] : List Value).toArray meth c A G K prog_9_method_2_code none 1 "LassoFinder$Terms" := ⟨hx, hb, hr, hml, hts, hown, hlocks, hA, hK⟩
  have hl : lv_has ls 1 [(0, .ref (ad 4))] := hl
  have hw : zW G A s.heap (wX ad K sv I J B D) H locs := hw
  unfold wp_Terms_clear_A at hok
  refine lv_aload_n hx hb zd_Terms_clear_0 rfl (lv_at hl 0 rfl) ?_
  refine lv_iconst (v := 0) hx hb zd_Terms_clear_1 (by decide) ?_
  refine z_put (v := .int 0) hx hb hts hown hK hw zZ8 4 wX_g4 3 (by decide) zn_435 rfl rfl rfl (Nat.le_of_ble_eq_true rfl) zd_Terms_clear_2 (fun H locs hw => ?_)
  have hw := wX_sI11 hw
  exact (z_vret (u := ((upd I 11 0), J, B, D)) hx hb hr hlocks hw (List.range 65) wX_all wX_nd hok (Nat.le_of_ble_eq_true rfl) (Nat.le_of_ble_eq_true rfl) zd_Terms_clear_5)
def wp_Terms_clear_B (I : Nat → Int32) (J : Nat → Int64) (B : Nat → Nat → Int32) (D : Nat → Nat → Int64) (Post : (Nat → Int32) → (Nat → Int64) → (Nat → Nat → Int32) → (Nat → Nat → Int64) → Prop) : Prop :=
  Post (upd I 25 0) J B D
set_option maxHeartbeats 8000000 in
set_option maxRecDepth 100000 in
theorem w_Terms_clear_B (l : Launch) (G : va_G) (K : Nat → ClassId) (ad : Nat → Nat) (sv : Value) (I : Nat → Int32) (J : Nat → Int64) (B : Nat → Nat → Int32) (D : Nat → Nat → Int64) (Post : (Nat → Int32) → (Nat → Int64) → (Nat → Nat → Int32) → (Nat → Nat → Int64) → Prop) (sz : Nat) (hok : wp_Terms_clear_B I J B D  Post) : Met l zy_Terms_clear (Cond.code zy_Terms_clear prog_9_method_2_code 1 none :: zTB) { frames := 0, cells := 0, slots := 0, locals := 0 } (va_Pc [.ref (ad 10)] (zPre G K (wX ad K sv I J B D) sz)) (va_Qv (fun u : zS => Post u.1 u.2.1 u.2.2.1 u.2.2.2) (fun u t => zPost G K (va_A (wX ad K sv I J B D) sz) (wX ad K sv u.1 u.2.1 u.2.2.1 u.2.2.2) t) (va_A (wX ad K sv I J B D) sz)) 0 0 (va_A (wX ad K sv I J B D) sz) := by
  refine zMet (y := zy_Terms_clear) (av := [.ref (ad 10)]) (maxL := 1) (cc := prog_9_method_2_code) (ret := none) (W0 := (wX ad K sv I J B D)) (sz := sz) (G := G) (K := K) (wt := zTB) (mc := 0) (ms := 0) (Qf := fun A => va_Qv (fun u : zS => Post u.1 u.2.1 u.2.2.1 u.2.2.2) (fun u t => zPost G K A (wX ad K sv u.1 u.2.1 u.2.2.1 u.2.2.2) t) A) (by decide) (Nat.le_of_ble_eq_true rfl) ?_
  intro p e s m below meth c ls A hx hb hr hml hts hown hlocks hin hA hK H locs hw hsz hl
  clear hsz
  have hown : s.vm.findClass "LassoFinder$Terms" = some m.cls := hown
  have C : zCx p s m ([.ref (ad 10)] : List Value).toArray meth c A G K prog_9_method_2_code none 1 "LassoFinder$Terms" := ⟨hx, hb, hr, hml, hts, hown, hlocks, hA, hK⟩
  have hl : lv_has ls 1 [(0, .ref (ad 10))] := hl
  have hw : zW G A s.heap (wX ad K sv I J B D) H locs := hw
  unfold wp_Terms_clear_B at hok
  refine lv_aload_n hx hb zd_Terms_clear_0 rfl (lv_at hl 0 rfl) ?_
  refine lv_iconst (v := 0) hx hb zd_Terms_clear_1 (by decide) ?_
  refine z_put (v := .int 0) hx hb hts hown hK hw zZ8 10 wX_g10 3 (by decide) zn_435 rfl rfl rfl (Nat.le_of_ble_eq_true rfl) zd_Terms_clear_2 (fun H locs hw => ?_)
  have hw := wX_sI25 hw
  exact (z_vret (u := ((upd I 25 0), J, B, D)) hx hb hr hlocks hw (List.range 65) wX_all wX_nd hok (Nat.le_of_ble_eq_true rfl) (Nat.le_of_ble_eq_true rfl) zd_Terms_clear_5)
def wp_Program_clear (I : Nat → Int32) (J : Nat → Int64) (B : Nat → Nat → Int32) (D : Nat → Nat → Int64) (Post : (Nat → Int32) → (Nat → Int64) → (Nat → Nat → Int32) → (Nat → Nat → Int64) → Prop) : Prop :=
  Post (upd (upd I 9 0) 10 0) (vp_updL J 0 0) (va_up (va_up B 13 (zFill (B 13) 0 4)) 14 (zFill (B 14) (-1) 32)) (va_up (va_up D 0 (zFill (D 0) 0 8)) 1 (zFill (D 1) 0 124))
set_option maxHeartbeats 8000000 in
set_option maxRecDepth 100000 in
theorem w_Program_clear (l : Launch) (G : va_G) (K : Nat → ClassId) (ad : Nat → Nat) (sv : Value) (I : Nat → Int32) (J : Nat → Int64) (B : Nat → Nat → Int32) (D : Nat → Nat → Int64) (Post : (Nat → Int32) → (Nat → Int64) → (Nat → Nat → Int32) → (Nat → Nat → Int64) → Prop) (sz : Nat) (hok : wp_Program_clear I J B D  Post) : Met l zy_Program_clear (Cond.code zy_Program_clear prog_7_method_2_code 1 none :: zTB) { frames := 1, cells := 0, slots := 0, locals := 24 } (va_Pc [.ref (ad 3)] (zPre G K (wX ad K sv I J B D) sz)) (va_Qv (fun u : zS => Post u.1 u.2.1 u.2.2.1 u.2.2.2) (fun u t => zPost G K (va_A (wX ad K sv I J B D) sz) (wX ad K sv u.1 u.2.1 u.2.2.1 u.2.2.2) t) (va_A (wX ad K sv I J B D) sz)) 0 0 (va_A (wX ad K sv I J B D) sz) := by
  refine zMet (y := zy_Program_clear) (av := [.ref (ad 3)]) (maxL := 1) (cc := prog_7_method_2_code) (ret := none) (W0 := (wX ad K sv I J B D)) (sz := sz) (G := G) (K := K) (wt := zTB) (mc := 0) (ms := 0) (Qf := fun A => va_Qv (fun u : zS => Post u.1 u.2.1 u.2.2.1 u.2.2.2) (fun u t => zPost G K A (wX ad K sv u.1 u.2.1 u.2.2.1 u.2.2.2) t) A) (by decide) (Nat.le_of_ble_eq_true rfl) ?_
  intro p e s m below meth c ls A hx hb hr hml hts hown hlocks hin hA hK H locs hw hsz hl
  clear hsz
  have hown : s.vm.findClass "LassoFinder$Program" = some m.cls := hown
  have C : zCx p s m ([.ref (ad 3)] : List Value).toArray meth c A G K prog_7_method_2_code none 1 "LassoFinder$Program" := ⟨hx, hb, hr, hml, hts, hown, hlocks, hA, hK⟩
  have hl : lv_has ls 1 [(0, .ref (ad 3))] := hl
  have hw : zW G A s.heap (wX ad K sv I J B D) H locs := hw
  unfold wp_Program_clear at hok
  refine lv_aload_n hx hb zd_Program_clear_0 rfl (lv_at hl 0 rfl) ?_
  refine z_get (v := .ref (ad 25)) hx hb hts hown hK hw zZ6 3 wX_g3 7 (by decide) zn_248 rfl zd_Program_clear_1 ?_
  refine lv_lconst (v := 0) hx hb zd_Program_clear_4 (by decide) ?_
  refine z_fillJ (f := (D 0)) (v := 0) (n := 8) (rest := []) ⟨hx, hb, hml, hown, hts⟩ hK hw hA 25 wX_a25 (by decide) zn_328 ⟨(Nat.le_of_ble_eq_true rfl), (Nat.le_of_ble_eq_true rfl)⟩ hl.1 rfl (Nat.le_of_ble_eq_true rfl) zd_Program_clear_5 ⟨(Nat.le_of_ble_eq_true rfl), (Nat.le_of_ble_eq_true rfl)⟩ (fun H locs hw => ?_)
  have hw := wX_t25 hw
  refine lv_aload_n hx hb zd_Program_clear_8 rfl (lv_at hl 0 rfl) ?_
  refine z_get (v := .ref (ad 26)) hx hb hts hown hK hw zZ6 3 wX_g3 8 (by decide) zn_249 rfl zd_Program_clear_9 ?_
  refine lv_iconst (v := 0) hx hb zd_Program_clear_12 (by decide) ?_
  refine z_fillI (f := (B 13)) (v := 0) (n := 4) (rest := []) ⟨hx, hb, hml, hown, hts⟩ hK hw hA 26 wX_a26 (by decide) zn_329 ⟨(Nat.le_of_ble_eq_true rfl), (Nat.le_of_ble_eq_true rfl)⟩ hl.1 rfl (Nat.le_of_ble_eq_true rfl) zd_Program_clear_13 ⟨(Nat.le_of_ble_eq_true rfl), (Nat.le_of_ble_eq_true rfl)⟩ (fun H locs hw => ?_)
  have hw := wX_t26 hw
  refine lv_aload_n hx hb zd_Program_clear_16 rfl (lv_at hl 0 rfl) ?_
  refine z_get (v := .ref (ad 27)) hx hb hts hown hK hw zZ6 3 wX_g3 9 (by decide) zn_250 rfl zd_Program_clear_17 ?_
  refine lv_iconst (v := (-1)) hx hb zd_Program_clear_20 (by decide) ?_
  refine z_fillI (f := (B 14)) (v := (-1)) (n := 32) (rest := []) ⟨hx, hb, hml, hown, hts⟩ hK hw hA 27 wX_a27 (by decide) zn_329 ⟨(Nat.le_of_ble_eq_true rfl), (Nat.le_of_ble_eq_true rfl)⟩ hl.1 rfl (Nat.le_of_ble_eq_true rfl) zd_Program_clear_21 ⟨(Nat.le_of_ble_eq_true rfl), (Nat.le_of_ble_eq_true rfl)⟩ (fun H locs hw => ?_)
  have hw := wX_t27 hw
  refine lv_aload_n hx hb zd_Program_clear_24 rfl (lv_at hl 0 rfl) ?_
  refine z_get (v := .ref (ad 28)) hx hb hts hown hK hw zZ6 3 wX_g3 10 (by decide) zn_251 rfl zd_Program_clear_25 ?_
  refine lv_lconst (v := 0) hx hb zd_Program_clear_28 (by decide) ?_
  refine z_fillJ (f := (D 1)) (v := 0) (n := 124) (rest := []) ⟨hx, hb, hml, hown, hts⟩ hK hw hA 28 wX_a28 (by decide) zn_328 ⟨(Nat.le_of_ble_eq_true rfl), (Nat.le_of_ble_eq_true rfl)⟩ hl.1 rfl (Nat.le_of_ble_eq_true rfl) zd_Program_clear_29 ⟨(Nat.le_of_ble_eq_true rfl), (Nat.le_of_ble_eq_true rfl)⟩ (fun H locs hw => ?_)
  have hw := wX_t28 hw
  refine lv_aload_n hx hb zd_Program_clear_32 rfl (lv_at hl 0 rfl) ?_
  refine lv_lconst (v := 0) hx hb zd_Program_clear_33 (by decide) ?_
  refine z_put (v := .long 0) hx hb hts hown hK hw zZ6 3 wX_g3 11 (by decide) zn_446 rfl rfl rfl (Nat.le_of_ble_eq_true rfl) zd_Program_clear_34 (fun H locs hw => ?_)
  have hw := wX_sJ0 hw
  refine lv_aload_n hx hb zd_Program_clear_37 rfl (lv_at hl 0 rfl) ?_
  refine lv_iconst (v := 0) hx hb zd_Program_clear_38 (by decide) ?_
  refine z_put (v := .int 0) hx hb hts hown hK hw zZ6 3 wX_g3 12 (by decide) zn_444 rfl rfl rfl (Nat.le_of_ble_eq_true rfl) zd_Program_clear_39 (fun H locs hw => ?_)
  have hw := wX_sI9 hw
  refine lv_aload_n hx hb zd_Program_clear_42 rfl (lv_at hl 0 rfl) ?_
  refine lv_iconst (v := 0) hx hb zd_Program_clear_43 (by decide) ?_
  refine z_put (v := .int 0) hx hb hts hown hK hw zZ6 3 wX_g3 13 (by decide) zn_445 rfl rfl rfl (Nat.le_of_ble_eq_true rfl) zd_Program_clear_44 (fun H locs hw => ?_)
  have hw := wX_sI10 hw
  exact (z_vret (u := ((upd (upd I 9 0) 10 0), (vp_updL J 0 0), (va_up (va_up B 13 (zFill (B 13) 0 4)) 14 (zFill (B 14) (-1) 32)), (va_up (va_up D 0 (zFill (D 0) 0 8)) 1 (zFill (D 1) 0 124)))) hx hb hr hlocks hw (List.range 65) wX_all wX_nd hok (Nat.le_of_ble_eq_true rfl) (Nat.le_of_ble_eq_true rfl) zd_Program_clear_47)
def wc_Names_declare_62 (a0 : Int32) (a1 : Int32) (a2 : Int32) (Post : (Nat → Int32) → (Nat → Int64) → (Nat → Nat → Int32) → (Nat → Nat → Int64) → Prop)  (I : Nat → Int32) (J : Nat → Int64) (B : Nat → Nat → Int32) (D : Nat → Nat → Int64) : Prop :=
  Post I J B D
def wp_Names_declare (I : Nat → Int32) (J : Nat → Int64) (B : Nat → Nat → Int32) (D : Nat → Nat → Int64) (a0 : Int32) (a1 : Int32) (a2 : Int32) (Post : (Nat → Int32) → (Nat → Int64) → (Nat → Nat → Int32) → (Nat → Nat → Int64) → Prop) : Prop :=
  vp_in a0 8 ∧ vp_in a0 8 ∧ ((¬ a1 = 1 → vp_in (I 8) 2 ∧ ∀ z2 : Int32, z2 = ((I 8) + 1) → wc_Names_declare_62 a0 a1 a2 Post (upd I 8 z2) J (va_up (va_up (va_up B 2 (upd (B 2) a0.toNatClampNeg a1)) 3 (upd (B 3) a0.toNatClampNeg a2)) 5 (upd (B 5) (I 8).toNatClampNeg a0)) D) ∧ (a1 = 1 → vp_in (I 7) 6 ∧ ∀ z3 : Int32, z3 = ((I 7) + 1) → wc_Names_declare_62 a0 a1 a2 Post (upd I 7 z3) J (va_up (va_up (va_up B 2 (upd (B 2) a0.toNatClampNeg a1)) 3 (upd (B 3) a0.toNatClampNeg a2)) 4 (upd (B 4) (I 7).toNatClampNeg a0)) D))
set_option maxHeartbeats 8000000 in
set_option maxRecDepth 100000 in
theorem wJ_Names_declare_62 {p : Program} {l : Launch} {e : Env} {s : State} {m : MethodId} {below : List Frame} {meth : Method} {c : Code} {A : Nat → Prop} (G : va_G) (K : Nat → ClassId) (ad : Nat → Nat) (sv : Value) (a0 : Int32) (a1 : Int32) (a2 : Int32) (Post : (Nat → Int32) → (Nat → Int64) → (Nat → Nat → Int32) → (Nat → Nat → Int64) → Prop) (C : zCx p s m ([.ref (ad 2), .int a0, .int a1, .int a2] : List Value).toArray meth c A G K prog_6_method_4_code none 4 "LassoFinder$Names") : ∀  (I : Nat → Int32) (J : Nat → Int64) (B : Nat → Nat → Int32) (D : Nat → Nat → Int64) (ls : Array Slot) (H : Heap) (locs : List Loc), wc_Names_declare_62 a0 a1 a2 Post  I J B D → lv_has ls 4 [] → zW G A s.heap (wX ad K sv I J B D) H locs → W p l e { frames := 0, cells := 0, slots := 0, locals := 0 } s m ([.ref (ad 2), .int a0, .int a1, .int a2] : List Value).toArray below meth c H locs 0 0 (MQ below (va_Qv (fun u : zS => Post u.1 u.2.1 u.2.2.1 u.2.2.2) (fun u t => zPost G K A (wX ad K sv u.1 u.2.1 u.2.2.1 u.2.2.2) t) A) ([.ref (ad 2), .int a0, .int a1, .int a2] : List Value).toArray s 0 0 A) (F0 m 62 ls []) := by
  obtain ⟨hx, hb, hr, hml, hts, hown, hlocks, hA, hK⟩ := id C
  intro  I J B D ls H locs hok hl hw
  unfold wc_Names_declare_62 at hok
  exact (z_vret (u := (I, J, B, D)) hx hb hr hlocks hw (List.range 65) wX_all wX_nd hok (Nat.le_of_ble_eq_true rfl) (Nat.le_of_ble_eq_true rfl) zd_Names_declare_62)
set_option maxHeartbeats 8000000 in
set_option maxRecDepth 100000 in
theorem w_Names_declare (l : Launch) (G : va_G) (K : Nat → ClassId) (ad : Nat → Nat) (sv : Value) (I : Nat → Int32) (J : Nat → Int64) (B : Nat → Nat → Int32) (D : Nat → Nat → Int64) (a0 : Int32) (a1 : Int32) (a2 : Int32) (Post : (Nat → Int32) → (Nat → Int64) → (Nat → Nat → Int32) → (Nat → Nat → Int64) → Prop) (sz : Nat) (hok : wp_Names_declare I J B D a0 a1 a2 Post) : Met l zy_Names_declare (Cond.code zy_Names_declare prog_6_method_4_code 4 none :: zTB) { frames := 0, cells := 0, slots := 0, locals := 0 } (va_Pc [.ref (ad 2), .int a0, .int a1, .int a2] (zPre G K (wX ad K sv I J B D) sz)) (va_Qv (fun u : zS => Post u.1 u.2.1 u.2.2.1 u.2.2.2) (fun u t => zPost G K (va_A (wX ad K sv I J B D) sz) (wX ad K sv u.1 u.2.1 u.2.2.1 u.2.2.2) t) (va_A (wX ad K sv I J B D) sz)) 0 0 (va_A (wX ad K sv I J B D) sz) := by
  refine zMet (y := zy_Names_declare) (av := [.ref (ad 2), .int a0, .int a1, .int a2]) (maxL := 4) (cc := prog_6_method_4_code) (ret := none) (W0 := (wX ad K sv I J B D)) (sz := sz) (G := G) (K := K) (wt := zTB) (mc := 0) (ms := 0) (Qf := fun A => va_Qv (fun u : zS => Post u.1 u.2.1 u.2.2.1 u.2.2.2) (fun u t => zPost G K A (wX ad K sv u.1 u.2.1 u.2.2.1 u.2.2.2) t) A) (by decide) (Nat.le_of_ble_eq_true rfl) ?_
  intro p e s m below meth c ls A hx hb hr hml hts hown hlocks hin hA hK H locs hw hsz hl
  clear hsz
  have hown : s.vm.findClass "LassoFinder$Names" = some m.cls := hown
  have C : zCx p s m ([.ref (ad 2), .int a0, .int a1, .int a2] : List Value).toArray meth c A G K prog_6_method_4_code none 4 "LassoFinder$Names" := ⟨hx, hb, hr, hml, hts, hown, hlocks, hA, hK⟩
  have hl : lv_has ls 4 [(0, .ref (ad 2)), (1, .int a0), (2, .int a1), (3, .int a2)] := hl
  have hw : zW G A s.heap (wX ad K sv I J B D) H locs := hw
  unfold wp_Names_declare at hok
  refine lv_aload_n hx hb zd_Names_declare_0 rfl (lv_at hl 0 rfl) ?_
  refine z_get (v := .ref (ad 14)) hx hb hts hown hK hw zZ5 2 wX_g2 0 (by decide) zn_237 rfl zd_Names_declare_1 ?_
  refine lv_iload_n hx hb zd_Names_declare_4 rfl (lv_at hl 1 rfl) ?_
  refine lv_iload_n hx hb zd_Names_declare_5 rfl (lv_at hl 2 rfl) ?_
  refine va_iast (f := (B 2)) hx hb hK hw.1 hw.2.1 hw.2.2 14 0 wX_a14 rfl hok.1 zd_Names_declare_6 (fun H locs w91 w92 w93 => ?_)
  have hok := hok.2
  have hw := wX_t14 ⟨w91, w92, w93⟩
  refine lv_aload_n hx hb zd_Names_declare_7 rfl (lv_at hl 0 rfl) ?_
  refine z_get (v := .ref (ad 15)) hx hb hts hown hK hw zZ5 2 wX_g2 1 (by decide) zn_238 rfl zd_Names_declare_8 ?_
  refine lv_iload_n hx hb zd_Names_declare_11 rfl (lv_at hl 1 rfl) ?_
  refine lv_iload_n hx hb zd_Names_declare_12 rfl (lv_at hl 3 rfl) ?_
  refine va_iast (f := (B 3)) hx hb hK hw.1 hw.2.1 hw.2.2 15 0 wX_a15 rfl hok.1 zd_Names_declare_13 (fun H locs w91 w92 w93 => ?_)
  have hok := hok.2
  have hw := wX_t15 ⟨w91, w92, w93⟩
  refine lv_iload_n hx hb zd_Names_declare_14 rfl (lv_at hl 2 rfl) ?_
  refine lv_iconst (v := 1) hx hb zd_Names_declare_15 (by decide) ?_
  refine lv_icmp_ne (tgt := 42) hx hb zd_Names_declare_16 (by decide) (fun hc1 => ?_) (fun hc1 => ?_)
  · have hok := hok.1 hc1
    refine lv_aload_n hx hb zd_Names_declare_42 rfl (lv_at hl 0 rfl) ?_
    refine z_get (v := .ref (ad 17)) hx hb hts hown hK hw zZ5 2 wX_g2 3 (by decide) zn_240 rfl zd_Names_declare_43 ?_
    refine lv_aload_n hx hb zd_Names_declare_46 rfl (lv_at hl 0 rfl) ?_
    refine z_get (v := .int (I 8)) hx hb hts hown hK hw zZ5 2 wX_g2 5 (by decide) zn_450 rfl zd_Names_declare_47 ?_
    refine lv_iload_n hx hb zd_Names_declare_50 rfl (lv_at hl 1 rfl) ?_
    refine va_iast (f := (B 5)) hx hb hK hw.1 hw.2.1 hw.2.2 17 0 wX_a17 rfl hok.1 zd_Names_declare_51 (fun H locs w91 w92 w93 => ?_)
    have hok := hok.2
    have hw := wX_t17 ⟨w91, w92, w93⟩
    refine lv_aload_n hx hb zd_Names_declare_52 rfl (lv_at hl 0 rfl) ?_
    refine lv_dup hx hb zd_Names_declare_53 rfl ?_
    refine z_get (v := .int (I 8)) hx hb hts hown hK hw zZ5 2 wX_g2 5 (by decide) zn_450 rfl zd_Names_declare_54 ?_
    refine lv_iconst (v := 1) hx hb zd_Names_declare_57 (by decide) ?_
    refine lv_iadd hx hb zd_Names_declare_58 ?_
    refine lv_topi (fun z2 ez2 => ?_)
    have hok := hok z2 ez2
    refine z_put (v := .int z2) hx hb hts hown hK hw zZ5 2 wX_g2 5 (by decide) zn_450 rfl rfl rfl (Nat.le_of_ble_eq_true rfl) zd_Names_declare_59 (fun H locs hw => ?_)
    have hw := wX_sI8 hw
    exact wJ_Names_declare_62 G K ad sv a0 a1 a2 Post C (upd I 8 z2) J (va_up (va_up (va_up B 2 (upd (B 2) a0.toNatClampNeg a1)) 3 (upd (B 3) a0.toNatClampNeg a2)) 5 (upd (B 5) (I 8).toNatClampNeg a0)) D ls H locs hok (lv_sub hl [] rfl) hw
  · have hok := hok.2 hc1
    refine lv_aload_n hx hb zd_Names_declare_19 rfl (lv_at hl 0 rfl) ?_
    refine z_get (v := .ref (ad 16)) hx hb hts hown hK hw zZ5 2 wX_g2 2 (by decide) zn_239 rfl zd_Names_declare_20 ?_
    refine lv_aload_n hx hb zd_Names_declare_23 rfl (lv_at hl 0 rfl) ?_
    refine z_get (v := .int (I 7)) hx hb hts hown hK hw zZ5 2 wX_g2 4 (by decide) zn_449 rfl zd_Names_declare_24 ?_
    refine lv_iload_n hx hb zd_Names_declare_27 rfl (lv_at hl 1 rfl) ?_
    refine va_iast (f := (B 4)) hx hb hK hw.1 hw.2.1 hw.2.2 16 0 wX_a16 rfl hok.1 zd_Names_declare_28 (fun H locs w91 w92 w93 => ?_)
    have hok := hok.2
    have hw := wX_t16 ⟨w91, w92, w93⟩
    refine lv_aload_n hx hb zd_Names_declare_29 rfl (lv_at hl 0 rfl) ?_
    refine lv_dup hx hb zd_Names_declare_30 rfl ?_
    refine z_get (v := .int (I 7)) hx hb hts hown hK hw zZ5 2 wX_g2 4 (by decide) zn_449 rfl zd_Names_declare_31 ?_
    refine lv_iconst (v := 1) hx hb zd_Names_declare_34 (by decide) ?_
    refine lv_iadd hx hb zd_Names_declare_35 ?_
    refine lv_topi (fun z3 ez3 => ?_)
    have hok := hok z3 ez3
    refine z_put (v := .int z3) hx hb hts hown hK hw zZ5 2 wX_g2 4 (by decide) zn_449 rfl rfl rfl (Nat.le_of_ble_eq_true rfl) zd_Names_declare_36 (fun H locs hw => ?_)
    have hw := wX_sI7 hw
    refine lv_goto (tgt := 62) hx hb zd_Names_declare_39 (by decide) ?_
    exact wJ_Names_declare_62 G K ad sv a0 a1 a2 Post C (upd I 7 z3) J (va_up (va_up (va_up B 2 (upd (B 2) a0.toNatClampNeg a1)) 3 (upd (B 3) a0.toNatClampNeg a2)) 4 (upd (B 4) (I 7).toNatClampNeg a0)) D ls H locs hok (lv_sub hl [] rfl) hw
def wc_Names_hasRoom_35 (a0 : Int32) (Post : Int32 → (Nat → Int32) → (Nat → Int64) → (Nat → Nat → Int32) → (Nat → Nat → Int64) → Prop) (y0 : Int32) (I : Nat → Int32) (J : Nat → Int64) (B : Nat → Nat → Int32) (D : Nat → Nat → Int64) : Prop :=
  (y0 = 0 ∨ y0 = 1) ∧ Post y0 I J B D
def wp_Names_hasRoom (I : Nat → Int32) (J : Nat → Int64) (B : Nat → Nat → Int32) (D : Nat → Nat → Int64) (a0 : Int32) (Post : Int32 → (Nat → Int32) → (Nat → Int64) → (Nat → Nat → Int32) → (Nat → Nat → Int64) → Prop) : Prop :=
  ((¬ a0 = 1 → (((2 : Int32) ≤ (I 8) → wc_Names_hasRoom_35 a0 Post 0 I J B D) ∧ (¬ (2 : Int32) ≤ (I 8) → wc_Names_hasRoom_35 a0 Post 1 I J B D))) ∧ (a0 = 1 → (((6 : Int32) ≤ (I 7) → wc_Names_hasRoom_35 a0 Post 0 I J B D) ∧ (¬ (6 : Int32) ≤ (I 7) → wc_Names_hasRoom_35 a0 Post 1 I J B D))))
set_option maxHeartbeats 8000000 in
set_option maxRecDepth 100000 in
theorem wJ_Names_hasRoom_35 {p : Program} {l : Launch} {e : Env} {s : State} {m : MethodId} {below : List Frame} {meth : Method} {c : Code} {A : Nat → Prop} (G : va_G) (K : Nat → ClassId) (ad : Nat → Nat) (sv : Value) (a0 : Int32) (Post : Int32 → (Nat → Int32) → (Nat → Int64) → (Nat → Nat → Int32) → (Nat → Nat → Int64) → Prop) (C : zCx p s m ([.ref (ad 2), .int a0] : List Value).toArray meth c A G K prog_6_method_3_code (some .boolean) 2 "LassoFinder$Names") : ∀ (y0 : Int32) (I : Nat → Int32) (J : Nat → Int64) (B : Nat → Nat → Int32) (D : Nat → Nat → Int64) (ls : Array Slot) (H : Heap) (locs : List Loc), wc_Names_hasRoom_35 a0 Post y0 I J B D → lv_has ls 2 [] → zW G A s.heap (wX ad K sv I J B D) H locs → W p l e { frames := 0, cells := 0, slots := 0, locals := 0 } s m ([.ref (ad 2), .int a0] : List Value).toArray below meth c H locs 0 0 (MQ below (va_Qi (fun (r : Int32) (u : zS) => Post r u.1 u.2.1 u.2.2.1 u.2.2.2) (fun u t => zPost G K A (wX ad K sv u.1 u.2.1 u.2.2.1 u.2.2.2) t) A) ([.ref (ad 2), .int a0] : List Value).toArray s 0 0 A) (F0 m 35 ls [.int y0]) := by
  obtain ⟨hx, hb, hr, hml, hts, hown, hlocks, hA, hK⟩ := id C
  intro y0 I J B D ls H locs hok hl hw
  unfold wc_Names_hasRoom_35 at hok
  have hbo := hok.1
  have hok := hok.2
  exact (z_iret (u := (I, J, B, D)) hx hb hr hlocks (z_nar hbo) hw (List.range 65) wX_all wX_nd hok (Nat.le_of_ble_eq_true rfl) (Nat.le_of_ble_eq_true rfl) zd_Names_hasRoom_35)
set_option maxHeartbeats 8000000 in
set_option maxRecDepth 100000 in
theorem w_Names_hasRoom (l : Launch) (G : va_G) (K : Nat → ClassId) (ad : Nat → Nat) (sv : Value) (I : Nat → Int32) (J : Nat → Int64) (B : Nat → Nat → Int32) (D : Nat → Nat → Int64) (a0 : Int32) (Post : Int32 → (Nat → Int32) → (Nat → Int64) → (Nat → Nat → Int32) → (Nat → Nat → Int64) → Prop) (sz : Nat) (hok : wp_Names_hasRoom I J B D a0 Post) : Met l zy_Names_hasRoom (Cond.code zy_Names_hasRoom prog_6_method_3_code 2 (some .boolean) :: zTB) { frames := 0, cells := 0, slots := 0, locals := 0 } (va_Pc [.ref (ad 2), .int a0] (zPre G K (wX ad K sv I J B D) sz)) (va_Qi (fun (r : Int32) (u : zS) => Post r u.1 u.2.1 u.2.2.1 u.2.2.2) (fun u t => zPost G K (va_A (wX ad K sv I J B D) sz) (wX ad K sv u.1 u.2.1 u.2.2.1 u.2.2.2) t) (va_A (wX ad K sv I J B D) sz)) 0 0 (va_A (wX ad K sv I J B D) sz) := by
  refine zMet (y := zy_Names_hasRoom) (av := [.ref (ad 2), .int a0]) (maxL := 2) (cc := prog_6_method_3_code) (ret := (some .boolean)) (W0 := (wX ad K sv I J B D)) (sz := sz) (G := G) (K := K) (wt := zTB) (mc := 0) (ms := 0) (Qf := fun A => va_Qi (fun (r : Int32) (u : zS) => Post r u.1 u.2.1 u.2.2.1 u.2.2.2) (fun u t => zPost G K A (wX ad K sv u.1 u.2.1 u.2.2.1 u.2.2.2) t) A) (by decide) (Nat.le_of_ble_eq_true rfl) ?_
  intro p e s m below meth c ls A hx hb hr hml hts hown hlocks hin hA hK H locs hw hsz hl
  clear hsz
  have hown : s.vm.findClass "LassoFinder$Names" = some m.cls := hown
  have C : zCx p s m ([.ref (ad 2), .int a0] : List Value).toArray meth c A G K prog_6_method_3_code (some .boolean) 2 "LassoFinder$Names" := ⟨hx, hb, hr, hml, hts, hown, hlocks, hA, hK⟩
  have hl : lv_has ls 2 [(0, .ref (ad 2)), (1, .int a0)] := hl
  have hw : zW G A s.heap (wX ad K sv I J B D) H locs := hw
  unfold wp_Names_hasRoom at hok
  refine lv_iload_n hx hb zd_Names_hasRoom_0 rfl (lv_at hl 1 rfl) ?_
  refine lv_iconst (v := 1) hx hb zd_Names_hasRoom_1 (by decide) ?_
  refine lv_icmp_ne (tgt := 22) hx hb zd_Names_hasRoom_2 (by decide) (fun hc1 => ?_) (fun hc1 => ?_)
  · have hok := hok.1 hc1
    refine lv_aload_n hx hb zd_Names_hasRoom_22 rfl (lv_at hl 0 rfl) ?_
    refine z_get (v := .int (I 8)) hx hb hts hown hK hw zZ5 2 wX_g2 5 (by decide) zn_450 rfl zd_Names_hasRoom_23 ?_
    refine lv_iconst (v := 2) hx hb zd_Names_hasRoom_26 (by decide) ?_
    refine lv_icmp_ge (tgt := 34) hx hb zd_Names_hasRoom_27 (by decide) (fun hc2 => ?_) (fun hc2 => ?_)
    · have hok := hok.1 hc2
      refine lv_iconst (v := 0) hx hb zd_Names_hasRoom_34 (by decide) ?_
      exact wJ_Names_hasRoom_35 G K ad sv a0 Post C 0 I J B D ls H locs hok (lv_sub hl [] rfl) hw
    · have hok := hok.2 hc2
      refine lv_iconst (v := 1) hx hb zd_Names_hasRoom_30 (by decide) ?_
      refine lv_goto (tgt := 35) hx hb zd_Names_hasRoom_31 (by decide) ?_
      exact wJ_Names_hasRoom_35 G K ad sv a0 Post C 1 I J B D ls H locs hok (lv_sub hl [] rfl) hw
  · have hok := hok.2 hc1
    refine lv_aload_n hx hb zd_Names_hasRoom_5 rfl (lv_at hl 0 rfl) ?_
    refine z_get (v := .int (I 7)) hx hb hts hown hK hw zZ5 2 wX_g2 4 (by decide) zn_449 rfl zd_Names_hasRoom_6 ?_
    refine lv_bipush (v := 6) hx hb zd_Names_hasRoom_9 (by decide) ?_
    refine lv_icmp_ge (tgt := 18) hx hb zd_Names_hasRoom_11 (by decide) (fun hc3 => ?_) (fun hc3 => ?_)
    · have hok := hok.1 hc3
      refine lv_iconst (v := 0) hx hb zd_Names_hasRoom_18 (by decide) ?_
      refine lv_goto (tgt := 35) hx hb zd_Names_hasRoom_19 (by decide) ?_
      exact wJ_Names_hasRoom_35 G K ad sv a0 Post C 0 I J B D ls H locs hok (lv_sub hl [] rfl) hw
    · have hok := hok.2 hc3
      refine lv_iconst (v := 1) hx hb zd_Names_hasRoom_14 (by decide) ?_
      refine lv_goto (tgt := 35) hx hb zd_Names_hasRoom_15 (by decide) ?_
      exact wJ_Names_hasRoom_35 G K ad sv a0 Post C 1 I J B D ls H locs hok (lv_sub hl [] rfl) hw
def wc_ModelReader_readDeclaration_142 (Post : (Nat → Int32) → (Nat → Int64) → (Nat → Nat → Int32) → (Nat → Nat → Int64) → Prop) (PX : String → (Nat → Int32) → (Nat → Int64) → (Nat → Nat → Int32) → (Nat → Nat → Int64) → Prop) (x1 : Int32) (x2 : Int32) (x4 : Int32) (I : Nat → Int32) (J : Nat → Int64) (B : Nat → Nat → Int32) (D : Nat → Nat → Int64) : Prop :=
  wp_Names_declare I J B D x2 x1 x4 (fun I1 J1 B1 D1 => wp_Text_expect I1 J1 B1 D1 59 (fun I2 J2 B2 D2 => Post I2 J2 B2 D2) PX)
def wc_ModelReader_readDeclaration_135 (Post : (Nat → Int32) → (Nat → Int64) → (Nat → Nat → Int32) → (Nat → Nat → Int64) → Prop) (PX : String → (Nat → Int32) → (Nat → Int64) → (Nat → Nat → Int32) → (Nat → Nat → Int64) → Prop) (x1 : Int32) (x2 : Int32) (x4 : Int32) (I : Nat → Int32) (J : Nat → Int64) (B : Nat → Nat → Int32) (D : Nat → Nat → Int64) : Prop :=
  wp_Text_skip I J B D  (fun I3 J3 B3 D3 => wc_ModelReader_readDeclaration_142  Post PX x1 x2 x4 I3 J3 B3 D3)
def wc_ModelReader_readDeclaration_128 (Post : (Nat → Int32) → (Nat → Int64) → (Nat → Nat → Int32) → (Nat → Nat → Int64) → Prop) (PX : String → (Nat → Int32) → (Nat → Int64) → (Nat → Nat → Int32) → (Nat → Nat → Int64) → Prop) (x1 : Int32) (x2 : Int32) (x4 : Int32) (I : Nat → Int32) (J : Nat → Int64) (B : Nat → Nat → Int32) (D : Nat → Nat → Int64) : Prop :=
  wp_Text_refuse I J B D  (fun I4 J4 B4 D4 => wc_ModelReader_readDeclaration_135  Post PX x1 x2 x4 I4 J4 B4 D4) PX
def wc_ModelReader_readDeclaration_92 (Post : (Nat → Int32) → (Nat → Int64) → (Nat → Nat → Int32) → (Nat → Nat → Int64) → Prop) (PX : String → (Nat → Int32) → (Nat → Int64) → (Nat → Nat → Int32) → (Nat → Nat → Int64) → Prop) (x1 : Int32) (x2 : Int32) (y0 : Int32) (I : Nat → Int32) (J : Nat → Int64) (B : Nat → Nat → Int32) (D : Nat → Nat → Int64) : Prop :=
  ((y0 = 0 → wc_ModelReader_readDeclaration_142  Post PX x1 x2 0 I J B D) ∧ (¬ y0 = 0 → wp_Text_oneOf I J B D 48 (fun r6 I6 J6 B6 D6 => ((r6 = (-1) → wc_ModelReader_readDeclaration_128  Post PX x1 x2 r6 I6 J6 B6 D6) ∧ (¬ r6 = (-1) → ((¬ x1 = 2 → wc_ModelReader_readDeclaration_135  Post PX x1 x2 r6 I6 J6 B6 D6) ∧ (x1 = 2 → ((r6 ≤ 3 → wc_ModelReader_readDeclaration_135  Post PX x1 x2 r6 I6 J6 B6 D6) ∧ (¬ r6 ≤ 3 → wc_ModelReader_readDeclaration_128  Post PX x1 x2 r6 I6 J6 B6 D6)))))))))
def wc_ModelReader_readDeclaration_87 (Post : (Nat → Int32) → (Nat → Int64) → (Nat → Nat → Int32) → (Nat → Nat → Int64) → Prop) (PX : String → (Nat → Int32) → (Nat → Int64) → (Nat → Nat → Int32) → (Nat → Nat → Int64) → Prop) (x1 : Int32) (x2 : Int32) (I : Nat → Int32) (J : Nat → Int64) (B : Nat → Nat → Int32) (D : Nat → Nat → Int64) : Prop :=
  wc_ModelReader_readDeclaration_92  Post PX x1 x2 1 I J B D
def wc_ModelReader_readDeclaration_63 (Post : (Nat → Int32) → (Nat → Int64) → (Nat → Nat → Int32) → (Nat → Nat → Int64) → Prop) (PX : String → (Nat → Int32) → (Nat → Int64) → (Nat → Nat → Int32) → (Nat → Nat → Int64) → Prop) (x1 : Int32) (x2 : Int32) (I : Nat → Int32) (J : Nat → Int64) (B : Nat → Nat → Int32) (D : Nat → Nat → Int64) : Prop :=
  wp_Text_skip I J B D  (fun I10 J10 B10 D10 => ((x1 = 2 → wc_ModelReader_readDeclaration_87  Post PX x1 x2 I10 J10 B10 D10) ∧ (¬ x1 = 2 → wp_Text_accept I10 J10 B10 D10 61 (fun r12 I12 J12 B12 D12 => ((r12 = 0 → wc_ModelReader_readDeclaration_92  Post PX x1 x2 0 I12 J12 B12 D12) ∧ (¬ r12 = 0 → wc_ModelReader_readDeclaration_87  Post PX x1 x2 I12 J12 B12 D12))))))
def wc_ModelReader_readDeclaration_56 (Post : (Nat → Int32) → (Nat → Int64) → (Nat → Nat → Int32) → (Nat → Nat → Int64) → Prop) (PX : String → (Nat → Int32) → (Nat → Int64) → (Nat → Nat → Int32) → (Nat → Nat → Int64) → Prop) (x1 : Int32) (x2 : Int32) (I : Nat → Int32) (J : Nat → Int64) (B : Nat → Nat → Int32) (D : Nat → Nat → Int64) : Prop :=
  wp_Text_refuse I J B D  (fun I14 J14 B14 D14 => wc_ModelReader_readDeclaration_63  Post PX x1 x2 I14 J14 B14 D14) PX
def wc_ModelReader_readDeclaration_17 (Post : (Nat → Int32) → (Nat → Int64) → (Nat → Nat → Int32) → (Nat → Nat → Int64) → Prop) (PX : String → (Nat → Int32) → (Nat → Int64) → (Nat → Nat → Int32) → (Nat → Nat → Int64) → Prop) (y0 : Int32) (I : Nat → Int32) (J : Nat → Int64) (B : Nat → Nat → Int32) (D : Nat → Nat → Int64) : Prop :=
  wp_Text_oneOf I J B D 97 (fun r15 I15 J15 B15 D15 => ((r15 = (-1) → wc_ModelReader_readDeclaration_56  Post PX y0 r15 I15 J15 B15 D15) ∧ (¬ r15 = (-1) → vp_in r15 8 ∧ ∀ z17 : Int32, z17 = ((B15 2) r15.toNatClampNeg) → ((¬ z17 = 0 → wc_ModelReader_readDeclaration_56  Post PX y0 r15 I15 J15 B15 D15) ∧ (z17 = 0 → wp_Names_hasRoom I15 J15 B15 D15 y0 (fun r19 I19 J19 B19 D19 => ((¬ r19 = 0 → wc_ModelReader_readDeclaration_63  Post PX y0 r15 I19 J19 B19 D19) ∧ (r19 = 0 → wc_ModelReader_readDeclaration_56  Post PX y0 r15 I19 J19 B19 D19))))))))
def wp_ModelReader_readDeclaration (I : Nat → Int32) (J : Nat → Int64) (B : Nat → Nat → Int32) (D : Nat → Nat → Int64) (Post : (Nat → Int32) → (Nat → Int64) → (Nat → Nat → Int32) → (Nat → Nat → Int64) → Prop) (PX : String → (Nat → Int32) → (Nat → Int64) → (Nat → Nat → Int32) → (Nat → Nat → Int64) → Prop) : Prop :=
  wp_Text_accept I J B D 35 (fun r21 I21 J21 B21 D21 => ((r21 = 0 → wc_ModelReader_readDeclaration_17  Post PX 1 I21 J21 B21 D21) ∧ (¬ r21 = 0 → wc_ModelReader_readDeclaration_17  Post PX 2 I21 J21 B21 D21)))
set_option maxHeartbeats 8000000 in
set_option maxRecDepth 100000 in
theorem wJ_ModelReader_readDeclaration_142 {p : Program} {l : Launch} {e : Env} {s : State} {m : MethodId} {below : List Frame} {meth : Method} {c : Code} {A : Nat → Prop} (G : va_G) (K : Nat → ClassId) (ad : Nat → Nat) (sv : Value) (Post : (Nat → Int32) → (Nat → Int64) → (Nat → Nat → Int32) → (Nat → Nat → Int64) → Prop) (PX : String → (Nat → Int32) → (Nat → Int64) → (Nat → Nat → Int32) → (Nat → Nat → Int64) → Prop) (C : zCy p l s m ([.ref (ad 5)] : List Value).toArray meth c A G K prog_5_method_3_code none 5 "LassoFinder$ModelReader") : ∀ (x1 : Int32) (x2 : Int32) (x4 : Int32) (I : Nat → Int32) (J : Nat → Int64) (B : Nat → Nat → Int32) (D : Nat → Nat → Int64) (ls : Array Slot) (H : Heap) (locs : List Loc), wc_ModelReader_readDeclaration_142  Post PX x1 x2 x4 I J B D → lv_has ls 5 [(0, .ref (ad 5)), (1, .int x1), (2, .int x2), (4, .int x4)] → zW G A s.heap (wX ad K sv I J B D) H locs → W p l e { frames := 8, cells := 1, slots := 6, locals := 122 } s m ([.ref (ad 5)] : List Value).toArray below meth c H locs 0 0 (zyMQ below (va_Qv (fun u : zS => Post u.1 u.2.1 u.2.2.1 u.2.2.2) (fun u t => zPost G K A (wX ad K sv u.1 u.2.1 u.2.2.1 u.2.2.2) t) A) (zYC (fun E (u : zS) => PX E u.1 u.2.1 u.2.2.1 u.2.2.2) (fun u => wX ad K sv u.1 u.2.1 u.2.2.1 u.2.2.2) G K A) ([.ref (ad 5)] : List Value).toArray s 1 6 A) (F0 m 142 ls []) := by
  obtain ⟨hx, hb, hr, hml, hts, hown, hlocks, hA, hK, hT, hnt, hlt⟩ := id C
  intro x1 x2 x4 I J B D ls H locs hok hl hw
  unfold wc_ModelReader_readDeclaration_142 at hok
  refine lv_aload_n hx hb zd_ModelReader_readDeclaration_142 rfl (lv_at hl 0 rfl) ?_
  refine z_get (v := .ref (ad 2)) hx hb hts hown hK hw zZ4 5 wX_g5 1 (by decide) zn_419 rfl zd_ModelReader_readDeclaration_143 ?_
  refine lv_iload_n hx hb zd_ModelReader_readDeclaration_146 rfl (lv_at hl 2 rfl) ?_
  refine lv_iload_n hx hb zd_ModelReader_readDeclaration_147 rfl (lv_at hl 1 rfl) ?_
  refine lv_iload hx hb zd_ModelReader_readDeclaration_148 (lv_at hl 3 rfl) ?_
  refine z_callv (w1 := fun (u : zS) => wX ad K sv u.1 u.2.1 u.2.2.1 u.2.2.2) (wr := []) (z_runV (q0 := 2) (wc := (wX ad K sv I J B D)) (As := [.int x2, .int x1, .int x4]) (rest := []) ⟨hx, hb, hml, hown, hts⟩ (w_Names_declare l G K ad sv I J B D x2 x1 x4 _ H.size hok) zf_Names_declare zn_339 ⟨Nat.le_of_ble_eq_true rfl, Nat.le_of_ble_eq_true rfl⟩ hK hw (List.range 65) wX_all wX_nd wX_g2 rfl rfl hl.1 rfl (Nat.le_of_ble_eq_true rfl) zd_ModelReader_readDeclaration_150 ⟨Nat.le_of_ble_eq_true rfl, Nat.le_of_ble_eq_true rfl⟩) hw hA (List.range 65) [] wX_all rfl (by decide) (fun i hi => by cases hi) (fun u H locs hok hw => ?_)
  obtain ⟨I1, J1, B1, D1⟩ := u
  dsimp only at hok
  have hw : zW G A s.heap (wX ad K sv I1 J1 B1 D1) H locs := hw
  refine lv_aload_n hx hb zd_ModelReader_readDeclaration_153 rfl (lv_at hl 0 rfl) ?_
  refine z_get (v := .ref (ad 1)) hx hb hts hown hK hw zZ4 5 wX_g5 0 (by decide) zn_422 rfl zd_ModelReader_readDeclaration_154 ?_
  refine lv_bipush (v := 59) hx hb zd_ModelReader_readDeclaration_157 (by decide) ?_
  refine z_yV (q0 := 1) (wc := (wX ad K sv I1 J1 B1 D1)) (wr := []) (w1 := fun (u : zS) => wX ad K sv u.1 u.2.1 u.2.2.1 u.2.2.2) (As := [.int 59]) (rest := []) ⟨hx, hb, hml, hown, hts⟩ (w_Text_expect l hlt G K ad sv I1 J1 B1 D1 59 _ _ H.size hok) zf_Text_expect zn_340 ⟨Nat.le_of_ble_eq_true rfl, Nat.le_of_ble_eq_true rfl⟩ hK hT hw hA (List.range 65) [] wX_all rfl wX_nd (by decide) (fun i hi => by cases hi) wX_g1 rfl rfl hl.1 rfl (Nat.le_of_ble_eq_true rfl) zd_ModelReader_readDeclaration_159 ⟨Nat.le_of_ble_eq_true rfl, Nat.le_of_ble_eq_true rfl⟩ (fun v st9 t9 L9 h0 hq hL => ?_) (fun E ce q9 u H locs hu hw hce hcv hcl => z_yout (u := u) hnt hlocks hce hcv hcl hw (List.range 65) wX_all wX_nd hu (Nat.le_of_ble_eq_true rfl) (Nat.le_of_ble_eq_true rfl))
  obtain ⟨⟨u, hv9, hok, hB9⟩, hF9⟩ := hq
  cases hv9
  have hw := z_back (wr := []) hw hA (List.range 65) [] wX_all rfl (by decide) (fun i hi => by cases hi) h0 hL hB9 hF9
  obtain ⟨I2, J2, B2, D2⟩ := u
  dsimp only at hok
  generalize t9.heap = H at hw ⊢
  generalize locs ++ L9 = locs at hw ⊢
  have hw : zW G A s.heap (wX ad K sv I2 J2 B2 D2) H locs := hw
  refine W.eq (g2 := F0 m 162 ls []) rfl ?_
  exact zy_ret (z_vret (u := (I2, J2, B2, D2)) hx hb hr hlocks hw (List.range 65) wX_all wX_nd hok (Nat.le_of_ble_eq_true rfl) (Nat.le_of_ble_eq_true rfl) zd_ModelReader_readDeclaration_162)
set_option maxHeartbeats 8000000 in
set_option maxRecDepth 100000 in
theorem wJ_ModelReader_readDeclaration_135 {p : Program} {l : Launch} {e : Env} {s : State} {m : MethodId} {below : List Frame} {meth : Method} {c : Code} {A : Nat → Prop} (G : va_G) (K : Nat → ClassId) (ad : Nat → Nat) (sv : Value) (Post : (Nat → Int32) → (Nat → Int64) → (Nat → Nat → Int32) → (Nat → Nat → Int64) → Prop) (PX : String → (Nat → Int32) → (Nat → Int64) → (Nat → Nat → Int32) → (Nat → Nat → Int64) → Prop) (C : zCy p l s m ([.ref (ad 5)] : List Value).toArray meth c A G K prog_5_method_3_code none 5 "LassoFinder$ModelReader") : ∀ (x1 : Int32) (x2 : Int32) (x4 : Int32) (I : Nat → Int32) (J : Nat → Int64) (B : Nat → Nat → Int32) (D : Nat → Nat → Int64) (ls : Array Slot) (H : Heap) (locs : List Loc), wc_ModelReader_readDeclaration_135  Post PX x1 x2 x4 I J B D → lv_has ls 5 [(0, .ref (ad 5)), (1, .int x1), (2, .int x2), (4, .int x4)] → zW G A s.heap (wX ad K sv I J B D) H locs → W p l e { frames := 8, cells := 1, slots := 6, locals := 122 } s m ([.ref (ad 5)] : List Value).toArray below meth c H locs 0 0 (zyMQ below (va_Qv (fun u : zS => Post u.1 u.2.1 u.2.2.1 u.2.2.2) (fun u t => zPost G K A (wX ad K sv u.1 u.2.1 u.2.2.1 u.2.2.2) t) A) (zYC (fun E (u : zS) => PX E u.1 u.2.1 u.2.2.1 u.2.2.2) (fun u => wX ad K sv u.1 u.2.1 u.2.2.1 u.2.2.2) G K A) ([.ref (ad 5)] : List Value).toArray s 1 6 A) (F0 m 135 ls []) := by
  obtain ⟨hx, hb, hr, hml, hts, hown, hlocks, hA, hK, hT, hnt, hlt⟩ := id C
  intro x1 x2 x4 I J B D ls H locs hok hl hw
  unfold wc_ModelReader_readDeclaration_135 at hok
  refine lv_aload_n hx hb zd_ModelReader_readDeclaration_135 rfl (lv_at hl 0 rfl) ?_
  refine z_get (v := .ref (ad 1)) hx hb hts hown hK hw zZ4 5 wX_g5 0 (by decide) zn_422 rfl zd_ModelReader_readDeclaration_136 ?_
  refine z_callv (w1 := fun (u : zS) => wX ad K sv u.1 u.2.1 u.2.2.1 u.2.2.2) (wr := []) (z_runV (q0 := 1) (wc := (wX ad K sv I J B D)) (As := []) (rest := []) ⟨hx, hb, hml, hown, hts⟩ (w_Text_skip l G K ad sv I J B D  _ H.size hok) zf_Text_skip zn_338 ⟨Nat.le_of_ble_eq_true rfl, Nat.le_of_ble_eq_true rfl⟩ hK hw (List.range 65) wX_all wX_nd wX_g1 rfl rfl hl.1 rfl (Nat.le_of_ble_eq_true rfl) zd_ModelReader_readDeclaration_139 ⟨Nat.le_of_ble_eq_true rfl, Nat.le_of_ble_eq_true rfl⟩) hw hA (List.range 65) [] wX_all rfl (by decide) (fun i hi => by cases hi) (fun u H locs hok hw => ?_)
  obtain ⟨I3, J3, B3, D3⟩ := u
  dsimp only at hok
  have hw : zW G A s.heap (wX ad K sv I3 J3 B3 D3) H locs := hw
  exact wJ_ModelReader_readDeclaration_142 G K ad sv  Post PX C x1 x2 x4 I3 J3 B3 D3 ls H locs hok (lv_sub hl [0, 1, 2, 3] rfl) hw
set_option maxHeartbeats 8000000 in
set_option maxRecDepth 100000 in
theorem wJ_ModelReader_readDeclaration_128 {p : Program} {l : Launch} {e : Env} {s : State} {m : MethodId} {below : List Frame} {meth : Method} {c : Code} {A : Nat → Prop} (G : va_G) (K : Nat → ClassId) (ad : Nat → Nat) (sv : Value) (Post : (Nat → Int32) → (Nat → Int64) → (Nat → Nat → Int32) → (Nat → Nat → Int64) → Prop) (PX : String → (Nat → Int32) → (Nat → Int64) → (Nat → Nat → Int32) → (Nat → Nat → Int64) → Prop) (C : zCy p l s m ([.ref (ad 5)] : List Value).toArray meth c A G K prog_5_method_3_code none 5 "LassoFinder$ModelReader") : ∀ (x1 : Int32) (x2 : Int32) (x4 : Int32) (I : Nat → Int32) (J : Nat → Int64) (B : Nat → Nat → Int32) (D : Nat → Nat → Int64) (ls : Array Slot) (H : Heap) (locs : List Loc), wc_ModelReader_readDeclaration_128  Post PX x1 x2 x4 I J B D → lv_has ls 5 [(0, .ref (ad 5)), (1, .int x1), (2, .int x2), (4, .int x4)] → zW G A s.heap (wX ad K sv I J B D) H locs → W p l e { frames := 8, cells := 1, slots := 6, locals := 122 } s m ([.ref (ad 5)] : List Value).toArray below meth c H locs 0 0 (zyMQ below (va_Qv (fun u : zS => Post u.1 u.2.1 u.2.2.1 u.2.2.2) (fun u t => zPost G K A (wX ad K sv u.1 u.2.1 u.2.2.1 u.2.2.2) t) A) (zYC (fun E (u : zS) => PX E u.1 u.2.1 u.2.2.1 u.2.2.2) (fun u => wX ad K sv u.1 u.2.1 u.2.2.1 u.2.2.2) G K A) ([.ref (ad 5)] : List Value).toArray s 1 6 A) (F0 m 128 ls []) := by
  obtain ⟨hx, hb, hr, hml, hts, hown, hlocks, hA, hK, hT, hnt, hlt⟩ := id C
  intro x1 x2 x4 I J B D ls H locs hok hl hw
  unfold wc_ModelReader_readDeclaration_128 at hok
  refine lv_aload_n hx hb zd_ModelReader_readDeclaration_128 rfl (lv_at hl 0 rfl) ?_
  refine z_get (v := .ref (ad 1)) hx hb hts hown hK hw zZ4 5 wX_g5 0 (by decide) zn_422 rfl zd_ModelReader_readDeclaration_129 ?_
  refine z_yV (q0 := 1) (wc := (wX ad K sv I J B D)) (wr := []) (w1 := fun (u : zS) => wX ad K sv u.1 u.2.1 u.2.2.1 u.2.2.2) (As := []) (rest := []) ⟨hx, hb, hml, hown, hts⟩ (w_Text_refuse l hlt G K ad sv I J B D  _ _ H.size hok) zf_Text_refuse zn_336 ⟨Nat.le_of_ble_eq_true rfl, Nat.le_of_ble_eq_true rfl⟩ hK hT hw hA (List.range 65) [] wX_all rfl wX_nd (by decide) (fun i hi => by cases hi) wX_g1 rfl rfl hl.1 rfl (Nat.le_of_ble_eq_true rfl) zd_ModelReader_readDeclaration_132 ⟨Nat.le_of_ble_eq_true rfl, Nat.le_of_ble_eq_true rfl⟩ (fun v st9 t9 L9 h0 hq hL => ?_) (fun E ce q9 u H locs hu hw hce hcv hcl => z_yout (u := u) hnt hlocks hce hcv hcl hw (List.range 65) wX_all wX_nd hu (Nat.le_of_ble_eq_true rfl) (Nat.le_of_ble_eq_true rfl))
  obtain ⟨⟨u, hv9, hok, hB9⟩, hF9⟩ := hq
  cases hv9
  have hw := z_back (wr := []) hw hA (List.range 65) [] wX_all rfl (by decide) (fun i hi => by cases hi) h0 hL hB9 hF9
  obtain ⟨I4, J4, B4, D4⟩ := u
  dsimp only at hok
  generalize t9.heap = H at hw ⊢
  generalize locs ++ L9 = locs at hw ⊢
  have hw : zW G A s.heap (wX ad K sv I4 J4 B4 D4) H locs := hw
  refine W.eq (g2 := F0 m 135 ls []) rfl ?_
  exact wJ_ModelReader_readDeclaration_135 G K ad sv  Post PX C x1 x2 x4 I4 J4 B4 D4 ls H locs hok (lv_sub hl [0, 1, 2, 3] rfl) hw
set_option maxHeartbeats 8000000 in
set_option maxRecDepth 100000 in
theorem wJ_ModelReader_readDeclaration_92 {p : Program} {l : Launch} {e : Env} {s : State} {m : MethodId} {below : List Frame} {meth : Method} {c : Code} {A : Nat → Prop} (G : va_G) (K : Nat → ClassId) (ad : Nat → Nat) (sv : Value) (Post : (Nat → Int32) → (Nat → Int64) → (Nat → Nat → Int32) → (Nat → Nat → Int64) → Prop) (PX : String → (Nat → Int32) → (Nat → Int64) → (Nat → Nat → Int32) → (Nat → Nat → Int64) → Prop) (C : zCy p l s m ([.ref (ad 5)] : List Value).toArray meth c A G K prog_5_method_3_code none 5 "LassoFinder$ModelReader") : ∀ (x1 : Int32) (x2 : Int32) (y0 : Int32) (I : Nat → Int32) (J : Nat → Int64) (B : Nat → Nat → Int32) (D : Nat → Nat → Int64) (ls : Array Slot) (H : Heap) (locs : List Loc), wc_ModelReader_readDeclaration_92  Post PX x1 x2 y0 I J B D → lv_has ls 5 [(0, .ref (ad 5)), (1, .int x1), (2, .int x2)] → zW G A s.heap (wX ad K sv I J B D) H locs → W p l e { frames := 8, cells := 1, slots := 6, locals := 122 } s m ([.ref (ad 5)] : List Value).toArray below meth c H locs 0 0 (zyMQ below (va_Qv (fun u : zS => Post u.1 u.2.1 u.2.2.1 u.2.2.2) (fun u t => zPost G K A (wX ad K sv u.1 u.2.1 u.2.2.1 u.2.2.2) t) A) (zYC (fun E (u : zS) => PX E u.1 u.2.1 u.2.2.1 u.2.2.2) (fun u => wX ad K sv u.1 u.2.1 u.2.2.1 u.2.2.2) G K A) ([.ref (ad 5)] : List Value).toArray s 1 6 A) (F0 m 92 ls [.int y0]) := by
  obtain ⟨hx, hb, hr, hml, hts, hown, hlocks, hA, hK, hT, hnt, hlt⟩ := id C
  intro x1 x2 y0 I J B D ls H locs hok hl hw
  unfold wc_ModelReader_readDeclaration_92 at hok
  refine lv_istore_n hx hb zd_ModelReader_readDeclaration_92 rfl hl (by decide) rfl (fun ls hl => ?_)
  have hl : lv_has ls 5 [(3, .int y0), (0, .ref (ad 5)), (1, .int x1), (2, .int x2)] := hl
  refine lv_iconst (v := 0) hx hb zd_ModelReader_readDeclaration_93 (by decide) ?_
  refine lv_istore hx hb zd_ModelReader_readDeclaration_94 hl (by decide) rfl (fun ls hl => ?_)
  have hl : lv_has ls 5 [(4, .int 0), (3, .int y0), (0, .ref (ad 5)), (1, .int x1), (2, .int x2)] := hl
  refine lv_iload_n hx hb zd_ModelReader_readDeclaration_96 rfl (lv_at hl 1 rfl) ?_
  refine lv_if_eq (tgt := 142) hx hb zd_ModelReader_readDeclaration_97 (by decide) (fun hc5 => ?_) (fun hc5 => ?_)
  · have hok := hok.1 hc5
    exact wJ_ModelReader_readDeclaration_142 G K ad sv  Post PX C x1 x2 0 I J B D ls H locs hok (lv_sub hl [2, 3, 4, 0] rfl) hw
  · have hok := hok.2 hc5
    refine lv_aload_n hx hb zd_ModelReader_readDeclaration_100 rfl (lv_at hl 2 rfl) ?_
    refine z_get (v := .ref (ad 1)) hx hb hts hown hK hw zZ4 5 wX_g5 0 (by decide) zn_422 rfl zd_ModelReader_readDeclaration_101 ?_
    refine lv_bipush (v := 48) hx hb zd_ModelReader_readDeclaration_104 (by decide) ?_
    refine z_calli (w1 := fun (u : zS) => wX ad K sv u.1 u.2.1 u.2.2.1 u.2.2.2) (wr := []) (z_runV (q0 := 1) (wc := (wX ad K sv I J B D)) (As := [.int 48]) (rest := []) ⟨hx, hb, hml, hown, hts⟩ (w_Text_oneOf l G K ad sv I J B D 48 _ H.size hok) zf_Text_oneOf zn_334 ⟨Nat.le_of_ble_eq_true rfl, Nat.le_of_ble_eq_true rfl⟩ hK hw (List.range 65) wX_all wX_nd wX_g1 rfl rfl hl.1 rfl (Nat.le_of_ble_eq_true rfl) zd_ModelReader_readDeclaration_106 ⟨Nat.le_of_ble_eq_true rfl, Nat.le_of_ble_eq_true rfl⟩) hw hA (List.range 65) [] wX_all rfl (by decide) (fun i hi => by cases hi) (fun r6 u H locs hok hw => ?_)
    obtain ⟨I6, J6, B6, D6⟩ := u
    dsimp only at hok
    have hw : zW G A s.heap (wX ad K sv I6 J6 B6 D6) H locs := hw
    refine lv_istore hx hb zd_ModelReader_readDeclaration_109 hl (by decide) rfl (fun ls hl => ?_)
    have hl : lv_has ls 5 [(4, .int r6), (3, .int y0), (0, .ref (ad 5)), (1, .int x1), (2, .int x2)] := hl
    refine lv_iload hx hb zd_ModelReader_readDeclaration_111 (lv_at hl 0 rfl) ?_
    refine lv_iconst (v := (-1)) hx hb zd_ModelReader_readDeclaration_113 (by decide) ?_
    refine lv_icmp_eq (tgt := 128) hx hb zd_ModelReader_readDeclaration_114 (by decide) (fun hc7 => ?_) (fun hc7 => ?_)
    · have hok := hok.1 hc7
      exact wJ_ModelReader_readDeclaration_128 G K ad sv  Post PX C x1 x2 r6 I6 J6 B6 D6 ls H locs hok (lv_sub hl [2, 3, 4, 0] rfl) hw
    · have hok := hok.2 hc7
      refine lv_iload_n hx hb zd_ModelReader_readDeclaration_117 rfl (lv_at hl 3 rfl) ?_
      refine lv_iconst (v := 2) hx hb zd_ModelReader_readDeclaration_118 (by decide) ?_
      refine lv_icmp_ne (tgt := 135) hx hb zd_ModelReader_readDeclaration_119 (by decide) (fun hc8 => ?_) (fun hc8 => ?_)
      · have hok := hok.1 hc8
        exact wJ_ModelReader_readDeclaration_135 G K ad sv  Post PX C x1 x2 r6 I6 J6 B6 D6 ls H locs hok (lv_sub hl [2, 3, 4, 0] rfl) hw
      · have hok := hok.2 hc8
        refine lv_iload hx hb zd_ModelReader_readDeclaration_122 (lv_at hl 0 rfl) ?_
        refine lv_iconst (v := 3) hx hb zd_ModelReader_readDeclaration_124 (by decide) ?_
        refine lv_icmp_le (tgt := 135) hx hb zd_ModelReader_readDeclaration_125 (by decide) (fun hc9 => ?_) (fun hc9 => ?_)
        · have hok := hok.1 hc9
          exact wJ_ModelReader_readDeclaration_135 G K ad sv  Post PX C x1 x2 r6 I6 J6 B6 D6 ls H locs hok (lv_sub hl [2, 3, 4, 0] rfl) hw
        · have hok := hok.2 hc9
          exact wJ_ModelReader_readDeclaration_128 G K ad sv  Post PX C x1 x2 r6 I6 J6 B6 D6 ls H locs hok (lv_sub hl [2, 3, 4, 0] rfl) hw
set_option maxHeartbeats 8000000 in
set_option maxRecDepth 100000 in
theorem wJ_ModelReader_readDeclaration_87 {p : Program} {l : Launch} {e : Env} {s : State} {m : MethodId} {below : List Frame} {meth : Method} {c : Code} {A : Nat → Prop} (G : va_G) (K : Nat → ClassId) (ad : Nat → Nat) (sv : Value) (Post : (Nat → Int32) → (Nat → Int64) → (Nat → Nat → Int32) → (Nat → Nat → Int64) → Prop) (PX : String → (Nat → Int32) → (Nat → Int64) → (Nat → Nat → Int32) → (Nat → Nat → Int64) → Prop) (C : zCy p l s m ([.ref (ad 5)] : List Value).toArray meth c A G K prog_5_method_3_code none 5 "LassoFinder$ModelReader") : ∀ (x1 : Int32) (x2 : Int32) (I : Nat → Int32) (J : Nat → Int64) (B : Nat → Nat → Int32) (D : Nat → Nat → Int64) (ls : Array Slot) (H : Heap) (locs : List Loc), wc_ModelReader_readDeclaration_87  Post PX x1 x2 I J B D → lv_has ls 5 [(0, .ref (ad 5)), (1, .int x1), (2, .int x2)] → zW G A s.heap (wX ad K sv I J B D) H locs → W p l e { frames := 8, cells := 1, slots := 6, locals := 122 } s m ([.ref (ad 5)] : List Value).toArray below meth c H locs 0 0 (zyMQ below (va_Qv (fun u : zS => Post u.1 u.2.1 u.2.2.1 u.2.2.2) (fun u t => zPost G K A (wX ad K sv u.1 u.2.1 u.2.2.1 u.2.2.2) t) A) (zYC (fun E (u : zS) => PX E u.1 u.2.1 u.2.2.1 u.2.2.2) (fun u => wX ad K sv u.1 u.2.1 u.2.2.1 u.2.2.2) G K A) ([.ref (ad 5)] : List Value).toArray s 1 6 A) (F0 m 87 ls []) := by
  obtain ⟨hx, hb, hr, hml, hts, hown, hlocks, hA, hK, hT, hnt, hlt⟩ := id C
  intro x1 x2 I J B D ls H locs hok hl hw
  unfold wc_ModelReader_readDeclaration_87 at hok
  refine lv_iconst (v := 1) hx hb zd_ModelReader_readDeclaration_87 (by decide) ?_
  refine lv_goto (tgt := 92) hx hb zd_ModelReader_readDeclaration_88 (by decide) ?_
  exact wJ_ModelReader_readDeclaration_92 G K ad sv  Post PX C x1 x2 1 I J B D ls H locs hok (lv_sub hl [0, 1, 2] rfl) hw
set_option maxHeartbeats 8000000 in
set_option maxRecDepth 100000 in
theorem wJ_ModelReader_readDeclaration_63 {p : Program} {l : Launch} {e : Env} {s : State} {m : MethodId} {below : List Frame} {meth : Method} {c : Code} {A : Nat → Prop} (G : va_G) (K : Nat → ClassId) (ad : Nat → Nat) (sv : Value) (Post : (Nat → Int32) → (Nat → Int64) → (Nat → Nat → Int32) → (Nat → Nat → Int64) → Prop) (PX : String → (Nat → Int32) → (Nat → Int64) → (Nat → Nat → Int32) → (Nat → Nat → Int64) → Prop) (C : zCy p l s m ([.ref (ad 5)] : List Value).toArray meth c A G K prog_5_method_3_code none 5 "LassoFinder$ModelReader") : ∀ (x1 : Int32) (x2 : Int32) (I : Nat → Int32) (J : Nat → Int64) (B : Nat → Nat → Int32) (D : Nat → Nat → Int64) (ls : Array Slot) (H : Heap) (locs : List Loc), wc_ModelReader_readDeclaration_63  Post PX x1 x2 I J B D → lv_has ls 5 [(0, .ref (ad 5)), (1, .int x1), (2, .int x2)] → zW G A s.heap (wX ad K sv I J B D) H locs → W p l e { frames := 8, cells := 1, slots := 6, locals := 122 } s m ([.ref (ad 5)] : List Value).toArray below meth c H locs 0 0 (zyMQ below (va_Qv (fun u : zS => Post u.1 u.2.1 u.2.2.1 u.2.2.2) (fun u t => zPost G K A (wX ad K sv u.1 u.2.1 u.2.2.1 u.2.2.2) t) A) (zYC (fun E (u : zS) => PX E u.1 u.2.1 u.2.2.1 u.2.2.2) (fun u => wX ad K sv u.1 u.2.1 u.2.2.1 u.2.2.2) G K A) ([.ref (ad 5)] : List Value).toArray s 1 6 A) (F0 m 63 ls []) := by
  obtain ⟨hx, hb, hr, hml, hts, hown, hlocks, hA, hK, hT, hnt, hlt⟩ := id C
  intro x1 x2 I J B D ls H locs hok hl hw
  unfold wc_ModelReader_readDeclaration_63 at hok
  refine lv_aload_n hx hb zd_ModelReader_readDeclaration_63 rfl (lv_at hl 0 rfl) ?_
  refine z_get (v := .ref (ad 1)) hx hb hts hown hK hw zZ4 5 wX_g5 0 (by decide) zn_422 rfl zd_ModelReader_readDeclaration_64 ?_
  refine z_callv (w1 := fun (u : zS) => wX ad K sv u.1 u.2.1 u.2.2.1 u.2.2.2) (wr := []) (z_runV (q0 := 1) (wc := (wX ad K sv I J B D)) (As := []) (rest := []) ⟨hx, hb, hml, hown, hts⟩ (w_Text_skip l G K ad sv I J B D  _ H.size hok) zf_Text_skip zn_338 ⟨Nat.le_of_ble_eq_true rfl, Nat.le_of_ble_eq_true rfl⟩ hK hw (List.range 65) wX_all wX_nd wX_g1 rfl rfl hl.1 rfl (Nat.le_of_ble_eq_true rfl) zd_ModelReader_readDeclaration_67 ⟨Nat.le_of_ble_eq_true rfl, Nat.le_of_ble_eq_true rfl⟩) hw hA (List.range 65) [] wX_all rfl (by decide) (fun i hi => by cases hi) (fun u H locs hok hw => ?_)
  obtain ⟨I10, J10, B10, D10⟩ := u
  dsimp only at hok
  have hw : zW G A s.heap (wX ad K sv I10 J10 B10 D10) H locs := hw
  refine lv_iload_n hx hb zd_ModelReader_readDeclaration_70 rfl (lv_at hl 1 rfl) ?_
  refine lv_iconst (v := 2) hx hb zd_ModelReader_readDeclaration_71 (by decide) ?_
  refine lv_icmp_eq (tgt := 87) hx hb zd_ModelReader_readDeclaration_72 (by decide) (fun hc11 => ?_) (fun hc11 => ?_)
  · have hok := hok.1 hc11
    exact wJ_ModelReader_readDeclaration_87 G K ad sv  Post PX C x1 x2 I10 J10 B10 D10 ls H locs hok (lv_sub hl [0, 1, 2] rfl) hw
  · have hok := hok.2 hc11
    refine lv_aload_n hx hb zd_ModelReader_readDeclaration_75 rfl (lv_at hl 0 rfl) ?_
    refine z_get (v := .ref (ad 1)) hx hb hts hown hK hw zZ4 5 wX_g5 0 (by decide) zn_422 rfl zd_ModelReader_readDeclaration_76 ?_
    refine lv_bipush (v := 61) hx hb zd_ModelReader_readDeclaration_79 (by decide) ?_
    refine z_calli (w1 := fun (u : zS) => wX ad K sv u.1 u.2.1 u.2.2.1 u.2.2.2) (wr := []) (z_runV (q0 := 1) (wc := (wX ad K sv I10 J10 B10 D10)) (As := [.int 61]) (rest := []) ⟨hx, hb, hml, hown, hts⟩ (w_Text_accept l G K ad sv I10 J10 B10 D10 61 _ H.size hok) zf_Text_accept zn_332 ⟨Nat.le_of_ble_eq_true rfl, Nat.le_of_ble_eq_true rfl⟩ hK hw (List.range 65) wX_all wX_nd wX_g1 rfl rfl hl.1 rfl (Nat.le_of_ble_eq_true rfl) zd_ModelReader_readDeclaration_81 ⟨Nat.le_of_ble_eq_true rfl, Nat.le_of_ble_eq_true rfl⟩) hw hA (List.range 65) [] wX_all rfl (by decide) (fun i hi => by cases hi) (fun r12 u H locs hok hw => ?_)
    obtain ⟨I12, J12, B12, D12⟩ := u
    dsimp only at hok
    have hw : zW G A s.heap (wX ad K sv I12 J12 B12 D12) H locs := hw
    refine lv_if_eq (tgt := 91) hx hb zd_ModelReader_readDeclaration_84 (by decide) (fun hc13 => ?_) (fun hc13 => ?_)
    · have hok := hok.1 hc13
      refine lv_iconst (v := 0) hx hb zd_ModelReader_readDeclaration_91 (by decide) ?_
      exact wJ_ModelReader_readDeclaration_92 G K ad sv  Post PX C x1 x2 0 I12 J12 B12 D12 ls H locs hok (lv_sub hl [0, 1, 2] rfl) hw
    · have hok := hok.2 hc13
      exact wJ_ModelReader_readDeclaration_87 G K ad sv  Post PX C x1 x2 I12 J12 B12 D12 ls H locs hok (lv_sub hl [0, 1, 2] rfl) hw
set_option maxHeartbeats 8000000 in
set_option maxRecDepth 100000 in
theorem wJ_ModelReader_readDeclaration_56 {p : Program} {l : Launch} {e : Env} {s : State} {m : MethodId} {below : List Frame} {meth : Method} {c : Code} {A : Nat → Prop} (G : va_G) (K : Nat → ClassId) (ad : Nat → Nat) (sv : Value) (Post : (Nat → Int32) → (Nat → Int64) → (Nat → Nat → Int32) → (Nat → Nat → Int64) → Prop) (PX : String → (Nat → Int32) → (Nat → Int64) → (Nat → Nat → Int32) → (Nat → Nat → Int64) → Prop) (C : zCy p l s m ([.ref (ad 5)] : List Value).toArray meth c A G K prog_5_method_3_code none 5 "LassoFinder$ModelReader") : ∀ (x1 : Int32) (x2 : Int32) (I : Nat → Int32) (J : Nat → Int64) (B : Nat → Nat → Int32) (D : Nat → Nat → Int64) (ls : Array Slot) (H : Heap) (locs : List Loc), wc_ModelReader_readDeclaration_56  Post PX x1 x2 I J B D → lv_has ls 5 [(0, .ref (ad 5)), (1, .int x1), (2, .int x2)] → zW G A s.heap (wX ad K sv I J B D) H locs → W p l e { frames := 8, cells := 1, slots := 6, locals := 122 } s m ([.ref (ad 5)] : List Value).toArray below meth c H locs 0 0 (zyMQ below (va_Qv (fun u : zS => Post u.1 u.2.1 u.2.2.1 u.2.2.2) (fun u t => zPost G K A (wX ad K sv u.1 u.2.1 u.2.2.1 u.2.2.2) t) A) (zYC (fun E (u : zS) => PX E u.1 u.2.1 u.2.2.1 u.2.2.2) (fun u => wX ad K sv u.1 u.2.1 u.2.2.1 u.2.2.2) G K A) ([.ref (ad 5)] : List Value).toArray s 1 6 A) (F0 m 56 ls []) := by
  obtain ⟨hx, hb, hr, hml, hts, hown, hlocks, hA, hK, hT, hnt, hlt⟩ := id C
  intro x1 x2 I J B D ls H locs hok hl hw
  unfold wc_ModelReader_readDeclaration_56 at hok
  refine lv_aload_n hx hb zd_ModelReader_readDeclaration_56 rfl (lv_at hl 0 rfl) ?_
  refine z_get (v := .ref (ad 1)) hx hb hts hown hK hw zZ4 5 wX_g5 0 (by decide) zn_422 rfl zd_ModelReader_readDeclaration_57 ?_
  refine z_yV (q0 := 1) (wc := (wX ad K sv I J B D)) (wr := []) (w1 := fun (u : zS) => wX ad K sv u.1 u.2.1 u.2.2.1 u.2.2.2) (As := []) (rest := []) ⟨hx, hb, hml, hown, hts⟩ (w_Text_refuse l hlt G K ad sv I J B D  _ _ H.size hok) zf_Text_refuse zn_336 ⟨Nat.le_of_ble_eq_true rfl, Nat.le_of_ble_eq_true rfl⟩ hK hT hw hA (List.range 65) [] wX_all rfl wX_nd (by decide) (fun i hi => by cases hi) wX_g1 rfl rfl hl.1 rfl (Nat.le_of_ble_eq_true rfl) zd_ModelReader_readDeclaration_60 ⟨Nat.le_of_ble_eq_true rfl, Nat.le_of_ble_eq_true rfl⟩ (fun v st9 t9 L9 h0 hq hL => ?_) (fun E ce q9 u H locs hu hw hce hcv hcl => z_yout (u := u) hnt hlocks hce hcv hcl hw (List.range 65) wX_all wX_nd hu (Nat.le_of_ble_eq_true rfl) (Nat.le_of_ble_eq_true rfl))
  obtain ⟨⟨u, hv9, hok, hB9⟩, hF9⟩ := hq
  cases hv9
  have hw := z_back (wr := []) hw hA (List.range 65) [] wX_all rfl (by decide) (fun i hi => by cases hi) h0 hL hB9 hF9
  obtain ⟨I14, J14, B14, D14⟩ := u
  dsimp only at hok
  generalize t9.heap = H at hw ⊢
  generalize locs ++ L9 = locs at hw ⊢
  have hw : zW G A s.heap (wX ad K sv I14 J14 B14 D14) H locs := hw
  refine W.eq (g2 := F0 m 63 ls []) rfl ?_
  exact wJ_ModelReader_readDeclaration_63 G K ad sv  Post PX C x1 x2 I14 J14 B14 D14 ls H locs hok (lv_sub hl [0, 1, 2] rfl) hw
set_option maxHeartbeats 8000000 in
set_option maxRecDepth 100000 in
theorem wJ_ModelReader_readDeclaration_17 {p : Program} {l : Launch} {e : Env} {s : State} {m : MethodId} {below : List Frame} {meth : Method} {c : Code} {A : Nat → Prop} (G : va_G) (K : Nat → ClassId) (ad : Nat → Nat) (sv : Value) (Post : (Nat → Int32) → (Nat → Int64) → (Nat → Nat → Int32) → (Nat → Nat → Int64) → Prop) (PX : String → (Nat → Int32) → (Nat → Int64) → (Nat → Nat → Int32) → (Nat → Nat → Int64) → Prop) (C : zCy p l s m ([.ref (ad 5)] : List Value).toArray meth c A G K prog_5_method_3_code none 5 "LassoFinder$ModelReader") : ∀ (y0 : Int32) (I : Nat → Int32) (J : Nat → Int64) (B : Nat → Nat → Int32) (D : Nat → Nat → Int64) (ls : Array Slot) (H : Heap) (locs : List Loc), wc_ModelReader_readDeclaration_17  Post PX y0 I J B D → lv_has ls 5 [(0, .ref (ad 5))] → zW G A s.heap (wX ad K sv I J B D) H locs → W p l e { frames := 8, cells := 1, slots := 6, locals := 122 } s m ([.ref (ad 5)] : List Value).toArray below meth c H locs 0 0 (zyMQ below (va_Qv (fun u : zS => Post u.1 u.2.1 u.2.2.1 u.2.2.2) (fun u t => zPost G K A (wX ad K sv u.1 u.2.1 u.2.2.1 u.2.2.2) t) A) (zYC (fun E (u : zS) => PX E u.1 u.2.1 u.2.2.1 u.2.2.2) (fun u => wX ad K sv u.1 u.2.1 u.2.2.1 u.2.2.2) G K A) ([.ref (ad 5)] : List Value).toArray s 1 6 A) (F0 m 17 ls [.int y0]) := by
  obtain ⟨hx, hb, hr, hml, hts, hown, hlocks, hA, hK, hT, hnt, hlt⟩ := id C
  intro y0 I J B D ls H locs hok hl hw
  unfold wc_ModelReader_readDeclaration_17 at hok
  refine lv_istore_n hx hb zd_ModelReader_readDeclaration_17 rfl hl (by decide) rfl (fun ls hl => ?_)
  have hl : lv_has ls 5 [(1, .int y0), (0, .ref (ad 5))] := hl
  refine lv_aload_n hx hb zd_ModelReader_readDeclaration_18 rfl (lv_at hl 1 rfl) ?_
  refine z_get (v := .ref (ad 1)) hx hb hts hown hK hw zZ4 5 wX_g5 0 (by decide) zn_422 rfl zd_ModelReader_readDeclaration_19 ?_
  refine lv_bipush (v := 97) hx hb zd_ModelReader_readDeclaration_22 (by decide) ?_
  refine z_calli (w1 := fun (u : zS) => wX ad K sv u.1 u.2.1 u.2.2.1 u.2.2.2) (wr := []) (z_runV (q0 := 1) (wc := (wX ad K sv I J B D)) (As := [.int 97]) (rest := []) ⟨hx, hb, hml, hown, hts⟩ (w_Text_oneOf l G K ad sv I J B D 97 _ H.size hok) zf_Text_oneOf zn_334 ⟨Nat.le_of_ble_eq_true rfl, Nat.le_of_ble_eq_true rfl⟩ hK hw (List.range 65) wX_all wX_nd wX_g1 rfl rfl hl.1 rfl (Nat.le_of_ble_eq_true rfl) zd_ModelReader_readDeclaration_24 ⟨Nat.le_of_ble_eq_true rfl, Nat.le_of_ble_eq_true rfl⟩) hw hA (List.range 65) [] wX_all rfl (by decide) (fun i hi => by cases hi) (fun r15 u H locs hok hw => ?_)
  obtain ⟨I15, J15, B15, D15⟩ := u
  dsimp only at hok
  have hw : zW G A s.heap (wX ad K sv I15 J15 B15 D15) H locs := hw
  refine lv_istore_n hx hb zd_ModelReader_readDeclaration_27 rfl hl (by decide) rfl (fun ls hl => ?_)
  have hl : lv_has ls 5 [(2, .int r15), (1, .int y0), (0, .ref (ad 5))] := hl
  refine lv_iload_n hx hb zd_ModelReader_readDeclaration_28 rfl (lv_at hl 0 rfl) ?_
  refine lv_iconst (v := (-1)) hx hb zd_ModelReader_readDeclaration_29 (by decide) ?_
  refine lv_icmp_eq (tgt := 56) hx hb zd_ModelReader_readDeclaration_30 (by decide) (fun hc16 => ?_) (fun hc16 => ?_)
  · have hok := hok.1 hc16
    exact wJ_ModelReader_readDeclaration_56 G K ad sv  Post PX C y0 r15 I15 J15 B15 D15 ls H locs hok (lv_sub hl [2, 1, 0] rfl) hw
  · have hok := hok.2 hc16
    refine lv_aload_n hx hb zd_ModelReader_readDeclaration_33 rfl (lv_at hl 2 rfl) ?_
    refine z_get (v := .ref (ad 2)) hx hb hts hown hK hw zZ4 5 wX_g5 1 (by decide) zn_419 rfl zd_ModelReader_readDeclaration_34 ?_
    refine z_get (v := .ref (ad 14)) hx hb hts hown hK hw zZ5 2 wX_g2 0 (by decide) zn_448 rfl zd_ModelReader_readDeclaration_37 ?_
    refine lv_iload_n hx hb zd_ModelReader_readDeclaration_40 rfl (lv_at hl 0 rfl) ?_
    refine va_iald (f := (B15 2)) hx hb hK hw.1 14 0 wX_a14 rfl hok.1 zd_ModelReader_readDeclaration_41 ?_
    have hok := hok.2
    refine lv_topi (fun z17 ez17 => ?_)
    have hok := hok z17 ez17
    refine lv_if_ne (tgt := 56) hx hb zd_ModelReader_readDeclaration_42 (by decide) (fun hc18 => ?_) (fun hc18 => ?_)
    · have hok := hok.1 hc18
      exact wJ_ModelReader_readDeclaration_56 G K ad sv  Post PX C y0 r15 I15 J15 B15 D15 ls H locs hok (lv_sub hl [2, 1, 0] rfl) hw
    · have hok := hok.2 hc18
      refine lv_aload_n hx hb zd_ModelReader_readDeclaration_45 rfl (lv_at hl 2 rfl) ?_
      refine z_get (v := .ref (ad 2)) hx hb hts hown hK hw zZ4 5 wX_g5 1 (by decide) zn_419 rfl zd_ModelReader_readDeclaration_46 ?_
      refine lv_iload_n hx hb zd_ModelReader_readDeclaration_49 rfl (lv_at hl 1 rfl) ?_
      refine z_calli (w1 := fun (u : zS) => wX ad K sv u.1 u.2.1 u.2.2.1 u.2.2.2) (wr := []) (z_runV (q0 := 2) (wc := (wX ad K sv I15 J15 B15 D15)) (As := [.int y0]) (rest := []) ⟨hx, hb, hml, hown, hts⟩ (w_Names_hasRoom l G K ad sv I15 J15 B15 D15 y0 _ H.size hok) zf_Names_hasRoom zn_335 ⟨Nat.le_of_ble_eq_true rfl, Nat.le_of_ble_eq_true rfl⟩ hK hw (List.range 65) wX_all wX_nd wX_g2 rfl rfl hl.1 rfl (Nat.le_of_ble_eq_true rfl) zd_ModelReader_readDeclaration_50 ⟨Nat.le_of_ble_eq_true rfl, Nat.le_of_ble_eq_true rfl⟩) hw hA (List.range 65) [] wX_all rfl (by decide) (fun i hi => by cases hi) (fun r19 u H locs hok hw => ?_)
      obtain ⟨I19, J19, B19, D19⟩ := u
      dsimp only at hok
      have hw : zW G A s.heap (wX ad K sv I19 J19 B19 D19) H locs := hw
      refine lv_if_ne (tgt := 63) hx hb zd_ModelReader_readDeclaration_53 (by decide) (fun hc20 => ?_) (fun hc20 => ?_)
      · have hok := hok.1 hc20
        exact wJ_ModelReader_readDeclaration_63 G K ad sv  Post PX C y0 r15 I19 J19 B19 D19 ls H locs hok (lv_sub hl [2, 1, 0] rfl) hw
      · have hok := hok.2 hc20
        exact wJ_ModelReader_readDeclaration_56 G K ad sv  Post PX C y0 r15 I19 J19 B19 D19 ls H locs hok (lv_sub hl [2, 1, 0] rfl) hw
set_option maxHeartbeats 8000000 in
set_option maxRecDepth 100000 in
theorem w_ModelReader_readDeclaration (l : Launch) (hlt : l.stackTraces = false) (G : va_G) (K : Nat → ClassId) (ad : Nat → Nat) (sv : Value) (I : Nat → Int32) (J : Nat → Int64) (B : Nat → Nat → Int32) (D : Nat → Nat → Int64) (Post : (Nat → Int32) → (Nat → Int64) → (Nat → Nat → Int32) → (Nat → Nat → Int64) → Prop) (PX : String → (Nat → Int32) → (Nat → Int64) → (Nat → Nat → Int32) → (Nat → Nat → Int64) → Prop) (sz : Nat) (hok : wp_ModelReader_readDeclaration I J B D  Post PX) : zyMet l zy_ModelReader_readDeclaration (Cond.code zy_ModelReader_readDeclaration prog_5_method_3_code 5 none :: zTB) { frames := 8, cells := 1, slots := 6, locals := 122 } (va_Pc [.ref (ad 5)] (zPreY G K (wX ad K sv I J B D) sz)) (va_Qv (fun u : zS => Post u.1 u.2.1 u.2.2.1 u.2.2.2) (fun u t => zPost G K (va_A (wX ad K sv I J B D) sz) (wX ad K sv u.1 u.2.1 u.2.2.1 u.2.2.2) t) (va_A (wX ad K sv I J B D) sz)) (zYC (fun E (u : zS) => PX E u.1 u.2.1 u.2.2.1 u.2.2.2) (fun u => wX ad K sv u.1 u.2.1 u.2.2.1 u.2.2.2) G K (va_A (wX ad K sv I J B D) sz)) 1 6 (va_A (wX ad K sv I J B D) sz) := by
  refine zMetY (y := zy_ModelReader_readDeclaration) (av := [.ref (ad 5)]) (maxL := 5) (cc := prog_5_method_3_code) (ret := none) (W0 := (wX ad K sv I J B D)) (sz := sz) (G := G) (K := K) (wt := zTB) (mc := 1) (ms := 6) (Qf := fun A => va_Qv (fun u : zS => Post u.1 u.2.1 u.2.2.1 u.2.2.2) (fun u t => zPost G K A (wX ad K sv u.1 u.2.1 u.2.2.1 u.2.2.2) t) A) (Xf := fun A => (zYC (fun E (u : zS) => PX E u.1 u.2.1 u.2.2.1 u.2.2.2) (fun u => wX ad K sv u.1 u.2.1 u.2.2.1 u.2.2.2) G K A)) (by decide) (Nat.le_of_ble_eq_true rfl) ?_
  intro p e s m below meth c ls A hx hb hr hml hts hown hlocks hin hA hK H locs hw hsz hl hT hnt
  clear hsz
  have hown : s.vm.findClass "LassoFinder$ModelReader" = some m.cls := hown
  have C : zCy p l s m ([.ref (ad 5)] : List Value).toArray meth c A G K prog_5_method_3_code none 5 "LassoFinder$ModelReader" := ⟨hx, hb, hr, hml, hts, hown, hlocks, hA, hK, hT, hnt, hlt⟩
  have hl : lv_has ls 5 [(0, .ref (ad 5))] := hl
  have hw : zW G A s.heap (wX ad K sv I J B D) H locs := hw
  unfold wp_ModelReader_readDeclaration at hok
  refine lv_aload_n hx hb zd_ModelReader_readDeclaration_0 rfl (lv_at hl 0 rfl) ?_
  refine z_get (v := .ref (ad 1)) hx hb hts hown hK hw zZ4 5 wX_g5 0 (by decide) zn_422 rfl zd_ModelReader_readDeclaration_1 ?_
  refine lv_bipush (v := 35) hx hb zd_ModelReader_readDeclaration_4 (by decide) ?_
  refine z_calli (w1 := fun (u : zS) => wX ad K sv u.1 u.2.1 u.2.2.1 u.2.2.2) (wr := []) (z_runV (q0 := 1) (wc := (wX ad K sv I J B D)) (As := [.int 35]) (rest := []) ⟨hx, hb, hml, hown, hts⟩ (w_Text_accept l G K ad sv I J B D 35 _ H.size hok) zf_Text_accept zn_332 ⟨Nat.le_of_ble_eq_true rfl, Nat.le_of_ble_eq_true rfl⟩ hK hw (List.range 65) wX_all wX_nd wX_g1 rfl rfl hl.1 rfl (Nat.le_of_ble_eq_true rfl) zd_ModelReader_readDeclaration_6 ⟨Nat.le_of_ble_eq_true rfl, Nat.le_of_ble_eq_true rfl⟩) hw hA (List.range 65) [] wX_all rfl (by decide) (fun i hi => by cases hi) (fun r21 u H locs hok hw => ?_)
  obtain ⟨I21, J21, B21, D21⟩ := u
  dsimp only at hok
  have hw : zW G A s.heap (wX ad K sv I21 J21 B21 D21) H locs := hw
  refine lv_if_eq (tgt := 16) hx hb zd_ModelReader_readDeclaration_9 (by decide) (fun hc22 => ?_) (fun hc22 => ?_)
  · have hok := hok.1 hc22
    refine lv_iconst (v := 1) hx hb zd_ModelReader_readDeclaration_16 (by decide) ?_
    exact wJ_ModelReader_readDeclaration_17 G K ad sv  Post PX C 1 I21 J21 B21 D21 ls H locs hok (lv_sub hl [0] rfl) hw
  · have hok := hok.2 hc22
    refine lv_iconst (v := 2) hx hb zd_ModelReader_readDeclaration_12 (by decide) ?_
    refine lv_goto (tgt := 17) hx hb zd_ModelReader_readDeclaration_13 (by decide) ?_
    exact wJ_ModelReader_readDeclaration_17 G K ad sv  Post PX C 2 I21 J21 B21 D21 ls H locs hok (lv_sub hl [0] rfl) hw
