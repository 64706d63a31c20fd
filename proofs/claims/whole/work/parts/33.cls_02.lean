abbrev zy_ModelReader_readDeclaration : MethodName := ⟨"LassoFinder$ModelReader", "readDeclaration", "()V"⟩
abbrev zy_Names_hasRoom : MethodName := ⟨"LassoFinder$Names", "hasRoom", "(I)Z"⟩
abbrev zy_Text_expect : MethodName := ⟨"LassoFinder$Text", "expect", "(C)V"⟩
abbrev zy_Text_ended : MethodName := ⟨"LassoFinder$Text", "ended", "()Z"⟩
abbrev zy_ModelReader_readBreak : MethodName := ⟨"LassoFinder$ModelReader", "readBreak", "(II)I"⟩
abbrev zy_ModelReader_leadsInside : MethodName := ⟨"LassoFinder$ModelReader", "leadsInside", "(II)Z"⟩
abbrev zy_ModelReader_readJump : MethodName := ⟨"LassoFinder$ModelReader", "readJump", "(II)I"⟩
abbrev zy_Text_position : MethodName := ⟨"LassoFinder$Text", "position", "()I"⟩
theorem zn_311 : Cond.methodLink "LassoFinder$ModelReader" 88 ⟨"LassoFinder$Names", "hasRoom", "(I)Z"⟩ ∈ zTB := z_in (zt_3 _ (List.mem_of_getElem? (i := 139) rfl)) rfl
theorem zn_315 : Cond.methodLink "LassoFinder$ModelReader" 92 ⟨"LassoFinder$Names", "declare", "(III)V"⟩ ∈ zTB := z_in (zt_3 _ (List.mem_of_getElem? (i := 215) rfl)) rfl
theorem zn_316 : Cond.methodLink "LassoFinder$ModelReader" 96 ⟨"LassoFinder$Text", "expect", "(C)V"⟩ ∈ zTB := z_in (zt_3 _ (List.mem_of_getElem? (i := 219) rfl)) rfl
theorem zn_317 : Cond.methodLink "LassoFinder$Text" 32 ⟨"LassoFinder$Text", "accept", "(C)Z"⟩ ∈ zTB := z_in (zt_3 _ (List.mem_of_getElem? (i := 223) rfl)) rfl
theorem zn_318 : Cond.methodLink "LassoFinder$Text" 36 ⟨"LassoFinder$Text", "refuse", "()V"⟩ ∈ zTB := z_in (zt_3 _ (List.mem_of_getElem? (i := 224) rfl)) rfl
theorem zn_326 : Cond.methodLink "LassoFinder$ModelReader" 154 ⟨"LassoFinder$Tree", "add", "(III)I"⟩ ∈ zTB := z_in (zt_4 _ (List.mem_of_getElem? (i := 10) rfl)) rfl
theorem zn_332 : Cond.methodLink "LassoFinder$ModelReader" 172 ⟨"LassoFinder$ModelReader", "leadsInside", "(II)Z"⟩ ∈ zTB := z_in (zt_4 _ (List.mem_of_getElem? (i := 31) rfl)) rfl
theorem zn_333 : Cond.methodLink "LassoFinder$ModelReader" 176 ⟨"LassoFinder$Tree", "loopInside", "(I)I"⟩ ∈ zTB := z_in (zt_4 _ (List.mem_of_getElem? (i := 34) rfl)) rfl
theorem zn_335 : Cond.methodLink "LassoFinder$ModelReader" 179 ⟨"LassoFinder$Text", "position", "()I"⟩ ∈ zTB := z_in (zt_4 _ (List.mem_of_getElem? (i := 39) rfl)) rfl
theorem zn_363 : Cond.fieldLink "LassoFinder$ModelReader" 15 "LassoFinder$ModelReader" "names" "LLassoFinder$Names;" ∈ zTB := z_in (zt_2 _ (List.mem_of_getElem? (i := 23) rfl)) rfl
theorem zn_378 : Cond.fieldLink "LassoFinder$ModelReader" 114 "LassoFinder$Tree" "number" "[I" ∈ zTB := z_in (zt_1 _ (List.mem_of_getElem? (i := 223) rfl)) rfl
theorem zn_388 : Cond.fieldLink "LassoFinder$ModelReader" 84 "LassoFinder$Names" "kinds" "[I" ∈ zTB := z_in (zt_1 _ (List.mem_of_getElem? (i := 63) rfl)) rfl
theorem zn_389 : Cond.fieldLink "LassoFinder$ModelReader" 121 "LassoFinder$Tree" "labelAt" "[I" ∈ zTB := z_in (zt_1 _ (List.mem_of_getElem? (i := 226) rfl)) rfl
theorem zn_521 : Cond.code ⟨"LassoFinder$Tree", "add", "(III)I"⟩ prog_11_method_3_code 5 (some .int) ∈ zTB := z_in (zt_4 _ (List.mem_of_getElem? (i := 13) rfl)) rfl
theorem zn_522 : Cond.selects "LassoFinder$Tree" ⟨"LassoFinder$Tree", "add", "(III)I"⟩ ⟨"LassoFinder$Tree", "add", "(III)I"⟩ ∈ zTB := z_in (zt_4 _ (List.mem_of_getElem? (i := 12) rfl)) rfl
theorem zn_523 : Cond.instanceMethod ⟨"LassoFinder$Tree", "add", "(III)I"⟩ ∈ zTB := z_in (zt_4 _ (List.mem_of_getElem? (i := 11) rfl)) rfl
theorem zn_524 : Cond.code ⟨"LassoFinder$Names", "declare", "(III)V"⟩ prog_6_method_4_code 4 none ∈ zTB := z_in (zt_3 _ (List.mem_of_getElem? (i := 218) rfl)) rfl
theorem zn_525 : Cond.selects "LassoFinder$Names" ⟨"LassoFinder$Names", "declare", "(III)V"⟩ ⟨"LassoFinder$Names", "declare", "(III)V"⟩ ∈ zTB := z_in (zt_3 _ (List.mem_of_getElem? (i := 217) rfl)) rfl
theorem zn_526 : Cond.instanceMethod ⟨"LassoFinder$Names", "declare", "(III)V"⟩ ∈ zTB := z_in (zt_3 _ (List.mem_of_getElem? (i := 216) rfl)) rfl
theorem zn_527 : Cond.code ⟨"LassoFinder$Text", "expect", "(C)V"⟩ prog_10_method_9_code 2 none ∈ zTB := z_in (zt_3 _ (List.mem_of_getElem? (i := 222) rfl)) rfl
theorem zn_528 : Cond.selects "LassoFinder$Text" ⟨"LassoFinder$Text", "expect", "(C)V"⟩ ⟨"LassoFinder$Text", "expect", "(C)V"⟩ ∈ zTB := z_in (zt_3 _ (List.mem_of_getElem? (i := 221) rfl)) rfl
theorem zn_529 : Cond.instanceMethod ⟨"LassoFinder$Text", "expect", "(C)V"⟩ ∈ zTB := z_in (zt_3 _ (List.mem_of_getElem? (i := 220) rfl)) rfl
theorem zn_530 : Cond.code ⟨"LassoFinder$Names", "hasRoom", "(I)Z"⟩ prog_6_method_3_code 2 (some .boolean) ∈ zTB := z_in (zt_3 _ (List.mem_of_getElem? (i := 142) rfl)) rfl
theorem zn_531 : Cond.selects "LassoFinder$Names" ⟨"LassoFinder$Names", "hasRoom", "(I)Z"⟩ ⟨"LassoFinder$Names", "hasRoom", "(I)Z"⟩ ∈ zTB := z_in (zt_3 _ (List.mem_of_getElem? (i := 141) rfl)) rfl
theorem zn_532 : Cond.instanceMethod ⟨"LassoFinder$Names", "hasRoom", "(I)Z"⟩ ∈ zTB := z_in (zt_3 _ (List.mem_of_getElem? (i := 140) rfl)) rfl
theorem zn_533 : Cond.code ⟨"LassoFinder$ModelReader", "leadsInside", "(II)Z"⟩ prog_5_method_13_code 2 (some .boolean) ∈ zTB := z_in (zt_4 _ (List.mem_of_getElem? (i := 33) rfl)) rfl
theorem zn_534 : Cond.static ⟨"LassoFinder$ModelReader", "leadsInside", "(II)Z"⟩ ∈ zTB := z_in (zt_4 _ (List.mem_of_getElem? (i := 32) rfl)) rfl
theorem zn_535 : Cond.code ⟨"LassoFinder$Text", "position", "()I"⟩ prog_10_method_10_code 1 (some .int) ∈ zTB := z_in (zt_4 _ (List.mem_of_getElem? (i := 42) rfl)) rfl
theorem zn_536 : Cond.selects "LassoFinder$Text" ⟨"LassoFinder$Text", "position", "()I"⟩ ⟨"LassoFinder$Text", "position", "()I"⟩ ∈ zTB := z_in (zt_4 _ (List.mem_of_getElem? (i := 41) rfl)) rfl
theorem zn_537 : Cond.instanceMethod ⟨"LassoFinder$Text", "position", "()I"⟩ ∈ zTB := z_in (zt_4 _ (List.mem_of_getElem? (i := 40) rfl)) rfl
theorem zf_Tree_add : zFaceV zy_Tree_add prog_11_method_3_code 5 (some .int) 3 := ⟨zn_523, zn_522, zm_21, zn_521, by decide +kernel, by decide +kernel, by decide +kernel⟩
theorem zf_Names_declare : zFaceV zy_Names_declare prog_6_method_4_code 4 none 3 := ⟨zn_526, zn_525, zm_11, zn_524, by decide +kernel, by decide +kernel, by decide +kernel⟩
theorem zf_Text_expect : zFaceV zy_Text_expect prog_10_method_9_code 2 none 1 := ⟨zn_529, zn_528, zm_19, zn_527, by decide +kernel, by decide +kernel, by decide +kernel⟩
theorem zf_Names_hasRoom : zFaceV zy_Names_hasRoom prog_6_method_3_code 2 (some .boolean) 1 := ⟨zn_532, zn_531, zm_11, zn_530, by decide +kernel, by decide +kernel, by decide +kernel⟩
theorem zf_ModelReader_leadsInside : zFaceS zy_ModelReader_leadsInside prog_5_method_13_code 2 (some .boolean) 2 := ⟨zn_534, zm_9, zn_533, by decide +kernel, by decide +kernel, by decide +kernel⟩
theorem zf_Text_position : zFaceV zy_Text_position prog_10_method_10_code 1 (some .int) 0 := ⟨zn_537, zn_536, zm_19, zn_535, by decide +kernel, by decide +kernel, by decide +kernel⟩
theorem zd_ModelReader_leadsInside_0 : decode prog_5_method_13_code 0 = .ok (.iload_n 0, 1) := by decide +kernel
theorem zd_ModelReader_leadsInside_1 : decode prog_5_method_13_code 1 = .ok (.iconst (-1), 1) := by decide +kernel
theorem zd_ModelReader_leadsInside_2 : decode prog_5_method_13_code 2 = .ok (.if_icmp .eq 12, 3) := by decide +kernel
theorem zd_ModelReader_leadsInside_5 : decode prog_5_method_13_code 5 = .ok (.iload_n 1, 1) := by decide +kernel
theorem zd_ModelReader_leadsInside_6 : decode prog_5_method_13_code 6 = .ok (.iconst (-1), 1) := by decide +kernel
theorem zd_ModelReader_leadsInside_7 : decode prog_5_method_13_code 7 = .ok (.if_icmp .ne 7, 3) := by decide +kernel
theorem zd_ModelReader_leadsInside_10 : decode prog_5_method_13_code 10 = .ok (.iconst 1, 1) := by decide +kernel
theorem zd_ModelReader_leadsInside_11 : decode prog_5_method_13_code 11 = .ok (.goto 4, 3) := by decide +kernel
theorem zd_ModelReader_leadsInside_14 : decode prog_5_method_13_code 14 = .ok (.iconst 0, 1) := by decide +kernel
theorem zd_ModelReader_leadsInside_15 : decode prog_5_method_13_code 15 = .ok (.ireturn, 1) := by decide +kernel
theorem zd_ModelReader_readBreak_0 : decode prog_5_method_11_code 0 = .ok (.iload_n 1, 1) := by decide +kernel
theorem zd_ModelReader_readBreak_1 : decode prog_5_method_11_code 1 = .ok (.iload_n 2, 1) := by decide +kernel
theorem zd_ModelReader_readBreak_2 : decode prog_5_method_11_code 2 = .ok (.invokestatic 172, 3) := by decide +kernel
theorem zd_ModelReader_readBreak_5 : decode prog_5_method_11_code 5 = .ok (.ifCond .ne 15, 3) := by decide +kernel
theorem zd_ModelReader_readBreak_8 : decode prog_5_method_11_code 8 = .ok (.aload_n 0, 1) := by decide +kernel
theorem zd_ModelReader_readBreak_9 : decode prog_5_method_11_code 9 = .ok (.getfield 30, 3) := by decide +kernel
theorem zd_ModelReader_readBreak_12 : decode prog_5_method_11_code 12 = .ok (.iload_n 1, 1) := by decide +kernel
theorem zd_ModelReader_readBreak_13 : decode prog_5_method_11_code 13 = .ok (.invokevirtual 176, 3) := by decide +kernel
theorem zd_ModelReader_readBreak_16 : decode prog_5_method_11_code 16 = .ok (.iconst (-1), 1) := by decide +kernel
theorem zd_ModelReader_readBreak_17 : decode prog_5_method_11_code 17 = .ok (.if_icmp .ne 10, 3) := by decide +kernel
theorem zd_ModelReader_readBreak_20 : decode prog_5_method_11_code 20 = .ok (.aload_n 0, 1) := by decide +kernel
theorem zd_ModelReader_readBreak_21 : decode prog_5_method_11_code 21 = .ok (.getfield 9, 3) := by decide +kernel
theorem zd_ModelReader_readBreak_24 : decode prog_5_method_11_code 24 = .ok (.invokevirtual 62, 3) := by decide +kernel
theorem zd_ModelReader_readBreak_27 : decode prog_5_method_11_code 27 = .ok (.aload_n 0, 1) := by decide +kernel
theorem zd_ModelReader_readBreak_28 : decode prog_5_method_11_code 28 = .ok (.getfield 9, 3) := by decide +kernel
theorem zd_ModelReader_readBreak_31 : decode prog_5_method_11_code 31 = .ok (.invokevirtual 65, 3) := by decide +kernel
theorem zd_ModelReader_readBreak_34 : decode prog_5_method_11_code 34 = .ok (.aload_n 0, 1) := by decide +kernel
theorem zd_ModelReader_readBreak_35 : decode prog_5_method_11_code 35 = .ok (.getfield 30, 3) := by decide +kernel
theorem zd_ModelReader_readBreak_38 : decode prog_5_method_11_code 38 = .ok (.iconst 4, 1) := by decide +kernel
theorem zd_ModelReader_readBreak_39 : decode prog_5_method_11_code 39 = .ok (.iload_n 1, 1) := by decide +kernel
theorem zd_ModelReader_readBreak_40 : decode prog_5_method_11_code 40 = .ok (.iload_n 2, 1) := by decide +kernel
theorem zd_ModelReader_readBreak_41 : decode prog_5_method_11_code 41 = .ok (.invokevirtual 154, 3) := by decide +kernel
theorem zd_ModelReader_readBreak_44 : decode prog_5_method_11_code 44 = .ok (.ireturn, 1) := by decide +kernel
theorem zd_ModelReader_readDeclaration_0 : decode prog_5_method_3_code 0 = .ok (.aload_n 0, 1) := by decide +kernel
theorem zd_ModelReader_readDeclaration_1 : decode prog_5_method_3_code 1 = .ok (.getfield 9, 3) := by decide +kernel
theorem zd_ModelReader_readDeclaration_4 : decode prog_5_method_3_code 4 = .ok (.bipush 35, 2) := by decide +kernel
theorem zd_ModelReader_readDeclaration_6 : decode prog_5_method_3_code 6 = .ok (.invokevirtual 76, 3) := by decide +kernel
theorem zd_ModelReader_readDeclaration_9 : decode prog_5_method_3_code 9 = .ok (.ifCond .eq 7, 3) := by decide +kernel
theorem zd_ModelReader_readDeclaration_12 : decode prog_5_method_3_code 12 = .ok (.iconst 2, 1) := by decide +kernel
theorem zd_ModelReader_readDeclaration_13 : decode prog_5_method_3_code 13 = .ok (.goto 4, 3) := by decide +kernel
theorem zd_ModelReader_readDeclaration_16 : decode prog_5_method_3_code 16 = .ok (.iconst 1, 1) := by decide +kernel
theorem zd_ModelReader_readDeclaration_17 : decode prog_5_method_3_code 17 = .ok (.istore_n 1, 1) := by decide +kernel
theorem zd_ModelReader_readDeclaration_18 : decode prog_5_method_3_code 18 = .ok (.aload_n 0, 1) := by decide +kernel
theorem zd_ModelReader_readDeclaration_19 : decode prog_5_method_3_code 19 = .ok (.getfield 9, 3) := by decide +kernel
theorem zd_ModelReader_readDeclaration_22 : decode prog_5_method_3_code 22 = .ok (.bipush 97, 2) := by decide +kernel
theorem zd_ModelReader_readDeclaration_24 : decode prog_5_method_3_code 24 = .ok (.invokevirtual 80, 3) := by decide +kernel
theorem zd_ModelReader_readDeclaration_27 : decode prog_5_method_3_code 27 = .ok (.istore_n 2, 1) := by decide +kernel
theorem zd_ModelReader_readDeclaration_28 : decode prog_5_method_3_code 28 = .ok (.iload_n 2, 1) := by decide +kernel
theorem zd_ModelReader_readDeclaration_29 : decode prog_5_method_3_code 29 = .ok (.iconst (-1), 1) := by decide +kernel
theorem zd_ModelReader_readDeclaration_30 : decode prog_5_method_3_code 30 = .ok (.if_icmp .eq 26, 3) := by decide +kernel
theorem zd_ModelReader_readDeclaration_33 : decode prog_5_method_3_code 33 = .ok (.aload_n 0, 1) := by decide +kernel
theorem zd_ModelReader_readDeclaration_34 : decode prog_5_method_3_code 34 = .ok (.getfield 15, 3) := by decide +kernel
theorem zd_ModelReader_readDeclaration_37 : decode prog_5_method_3_code 37 = .ok (.getfield 84, 3) := by decide +kernel
theorem zd_ModelReader_readDeclaration_40 : decode prog_5_method_3_code 40 = .ok (.iload_n 2, 1) := by decide +kernel
theorem zd_ModelReader_readDeclaration_41 : decode prog_5_method_3_code 41 = .ok (.iaload, 1) := by decide +kernel
theorem zd_ModelReader_readDeclaration_42 : decode prog_5_method_3_code 42 = .ok (.ifCond .ne 14, 3) := by decide +kernel
theorem zd_ModelReader_readDeclaration_45 : decode prog_5_method_3_code 45 = .ok (.aload_n 0, 1) := by decide +kernel
theorem zd_ModelReader_readDeclaration_46 : decode prog_5_method_3_code 46 = .ok (.getfield 15, 3) := by decide +kernel
theorem zd_ModelReader_readDeclaration_49 : decode prog_5_method_3_code 49 = .ok (.iload_n 1, 1) := by decide +kernel
theorem zd_ModelReader_readDeclaration_50 : decode prog_5_method_3_code 50 = .ok (.invokevirtual 88, 3) := by decide +kernel
theorem zd_ModelReader_readDeclaration_53 : decode prog_5_method_3_code 53 = .ok (.ifCond .ne 10, 3) := by decide +kernel
theorem zd_ModelReader_readDeclaration_56 : decode prog_5_method_3_code 56 = .ok (.aload_n 0, 1) := by decide +kernel
theorem zd_ModelReader_readDeclaration_57 : decode prog_5_method_3_code 57 = .ok (.getfield 9, 3) := by decide +kernel
theorem zd_ModelReader_readDeclaration_60 : decode prog_5_method_3_code 60 = .ok (.invokevirtual 62, 3) := by decide +kernel
theorem zd_ModelReader_readDeclaration_63 : decode prog_5_method_3_code 63 = .ok (.aload_n 0, 1) := by decide +kernel
theorem zd_ModelReader_readDeclaration_64 : decode prog_5_method_3_code 64 = .ok (.getfield 9, 3) := by decide +kernel
theorem zd_ModelReader_readDeclaration_67 : decode prog_5_method_3_code 67 = .ok (.invokevirtual 65, 3) := by decide +kernel
theorem zd_ModelReader_readDeclaration_70 : decode prog_5_method_3_code 70 = .ok (.iload_n 1, 1) := by decide +kernel
theorem zd_ModelReader_readDeclaration_71 : decode prog_5_method_3_code 71 = .ok (.iconst 2, 1) := by decide +kernel
theorem zd_ModelReader_readDeclaration_72 : decode prog_5_method_3_code 72 = .ok (.if_icmp .eq 15, 3) := by decide +kernel
theorem zd_ModelReader_readDeclaration_75 : decode prog_5_method_3_code 75 = .ok (.aload_n 0, 1) := by decide +kernel
theorem zd_ModelReader_readDeclaration_76 : decode prog_5_method_3_code 76 = .ok (.getfield 9, 3) := by decide +kernel
theorem zd_ModelReader_readDeclaration_79 : decode prog_5_method_3_code 79 = .ok (.bipush 61, 2) := by decide +kernel
theorem zd_ModelReader_readDeclaration_81 : decode prog_5_method_3_code 81 = .ok (.invokevirtual 76, 3) := by decide +kernel
theorem zd_ModelReader_readDeclaration_84 : decode prog_5_method_3_code 84 = .ok (.ifCond .eq 7, 3) := by decide +kernel
theorem zd_ModelReader_readDeclaration_87 : decode prog_5_method_3_code 87 = .ok (.iconst 1, 1) := by decide +kernel
theorem zd_ModelReader_readDeclaration_88 : decode prog_5_method_3_code 88 = .ok (.goto 4, 3) := by decide +kernel
theorem zd_ModelReader_readDeclaration_91 : decode prog_5_method_3_code 91 = .ok (.iconst 0, 1) := by decide +kernel
theorem zd_ModelReader_readDeclaration_92 : decode prog_5_method_3_code 92 = .ok (.istore_n 3, 1) := by decide +kernel
theorem zd_ModelReader_readDeclaration_93 : decode prog_5_method_3_code 93 = .ok (.iconst 0, 1) := by decide +kernel
theorem zd_ModelReader_readDeclaration_94 : decode prog_5_method_3_code 94 = .ok (.istore 4, 2) := by decide +kernel
theorem zd_ModelReader_readDeclaration_96 : decode prog_5_method_3_code 96 = .ok (.iload_n 3, 1) := by decide +kernel
theorem zd_ModelReader_readDeclaration_97 : decode prog_5_method_3_code 97 = .ok (.ifCond .eq 45, 3) := by decide +kernel
theorem zd_ModelReader_readDeclaration_100 : decode prog_5_method_3_code 100 = .ok (.aload_n 0, 1) := by decide +kernel
theorem zd_ModelReader_readDeclaration_101 : decode prog_5_method_3_code 101 = .ok (.getfield 9, 3) := by decide +kernel
theorem zd_ModelReader_readDeclaration_104 : decode prog_5_method_3_code 104 = .ok (.bipush 48, 2) := by decide +kernel
theorem zd_ModelReader_readDeclaration_106 : decode prog_5_method_3_code 106 = .ok (.invokevirtual 80, 3) := by decide +kernel
theorem zd_ModelReader_readDeclaration_109 : decode prog_5_method_3_code 109 = .ok (.istore 4, 2) := by decide +kernel
theorem zd_ModelReader_readDeclaration_111 : decode prog_5_method_3_code 111 = .ok (.iload 4, 2) := by decide +kernel
theorem zd_ModelReader_readDeclaration_113 : decode prog_5_method_3_code 113 = .ok (.iconst (-1), 1) := by decide +kernel
theorem zd_ModelReader_readDeclaration_114 : decode prog_5_method_3_code 114 = .ok (.if_icmp .eq 14, 3) := by decide +kernel
theorem zd_ModelReader_readDeclaration_117 : decode prog_5_method_3_code 117 = .ok (.iload_n 1, 1) := by decide +kernel
theorem zd_ModelReader_readDeclaration_118 : decode prog_5_method_3_code 118 = .ok (.iconst 2, 1) := by decide +kernel
theorem zd_ModelReader_readDeclaration_119 : decode prog_5_method_3_code 119 = .ok (.if_icmp .ne 16, 3) := by decide +kernel
theorem zd_ModelReader_readDeclaration_122 : decode prog_5_method_3_code 122 = .ok (.iload 4, 2) := by decide +kernel
theorem zd_ModelReader_readDeclaration_124 : decode prog_5_method_3_code 124 = .ok (.iconst 3, 1) := by decide +kernel
theorem zd_ModelReader_readDeclaration_125 : decode prog_5_method_3_code 125 = .ok (.if_icmp .le 10, 3) := by decide +kernel
theorem zd_ModelReader_readDeclaration_128 : decode prog_5_method_3_code 128 = .ok (.aload_n 0, 1) := by decide +kernel
theorem zd_ModelReader_readDeclaration_129 : decode prog_5_method_3_code 129 = .ok (.getfield 9, 3) := by decide +kernel
theorem zd_ModelReader_readDeclaration_132 : decode prog_5_method_3_code 132 = .ok (.invokevirtual 62, 3) := by decide +kernel
theorem zd_ModelReader_readDeclaration_135 : decode prog_5_method_3_code 135 = .ok (.aload_n 0, 1) := by decide +kernel
theorem zd_ModelReader_readDeclaration_136 : decode prog_5_method_3_code 136 = .ok (.getfield 9, 3) := by decide +kernel
theorem zd_ModelReader_readDeclaration_139 : decode prog_5_method_3_code 139 = .ok (.invokevirtual 65, 3) := by decide +kernel
theorem zd_ModelReader_readDeclaration_142 : decode prog_5_method_3_code 142 = .ok (.aload_n 0, 1) := by decide +kernel
theorem zd_ModelReader_readDeclaration_143 : decode prog_5_method_3_code 143 = .ok (.getfield 15, 3) := by decide +kernel
theorem zd_ModelReader_readDeclaration_146 : decode prog_5_method_3_code 146 = .ok (.iload_n 2, 1) := by decide +kernel
theorem zd_ModelReader_readDeclaration_147 : decode prog_5_method_3_code 147 = .ok (.iload_n 1, 1) := by decide +kernel
theorem zd_ModelReader_readDeclaration_148 : decode prog_5_method_3_code 148 = .ok (.iload 4, 2) := by decide +kernel
theorem zd_ModelReader_readDeclaration_150 : decode prog_5_method_3_code 150 = .ok (.invokevirtual 92, 3) := by decide +kernel
theorem zd_ModelReader_readDeclaration_153 : decode prog_5_method_3_code 153 = .ok (.aload_n 0, 1) := by decide +kernel
theorem zd_ModelReader_readDeclaration_154 : decode prog_5_method_3_code 154 = .ok (.getfield 9, 3) := by decide +kernel
theorem zd_ModelReader_readDeclaration_157 : decode prog_5_method_3_code 157 = .ok (.bipush 59, 2) := by decide +kernel
theorem zd_ModelReader_readDeclaration_159 : decode prog_5_method_3_code 159 = .ok (.invokevirtual 96, 3) := by decide +kernel
theorem zd_ModelReader_readDeclaration_162 : decode prog_5_method_3_code 162 = .ok (.return_, 1) := by decide +kernel
theorem zd_ModelReader_readJump_0 : decode prog_5_method_12_code 0 = .ok (.iload_n 1, 1) := by decide +kernel
theorem zd_ModelReader_readJump_1 : decode prog_5_method_12_code 1 = .ok (.iload_n 2, 1) := by decide +kernel
theorem zd_ModelReader_readJump_2 : decode prog_5_method_12_code 2 = .ok (.invokestatic 172, 3) := by decide +kernel
theorem zd_ModelReader_readJump_5 : decode prog_5_method_12_code 5 = .ok (.ifCond .eq 10, 3) := by decide +kernel
theorem zd_ModelReader_readJump_8 : decode prog_5_method_12_code 8 = .ok (.aload_n 0, 1) := by decide +kernel
theorem zd_ModelReader_readJump_9 : decode prog_5_method_12_code 9 = .ok (.getfield 9, 3) := by decide +kernel
theorem zd_ModelReader_readJump_12 : decode prog_5_method_12_code 12 = .ok (.invokevirtual 62, 3) := by decide +kernel
theorem zd_ModelReader_readJump_15 : decode prog_5_method_12_code 15 = .ok (.aload_n 0, 1) := by decide +kernel
theorem zd_ModelReader_readJump_16 : decode prog_5_method_12_code 16 = .ok (.getfield 9, 3) := by decide +kernel
theorem zd_ModelReader_readJump_19 : decode prog_5_method_12_code 19 = .ok (.invokevirtual 65, 3) := by decide +kernel
theorem zd_ModelReader_readJump_22 : decode prog_5_method_12_code 22 = .ok (.aload_n 0, 1) := by decide +kernel
theorem zd_ModelReader_readJump_23 : decode prog_5_method_12_code 23 = .ok (.getfield 9, 3) := by decide +kernel
theorem zd_ModelReader_readJump_26 : decode prog_5_method_12_code 26 = .ok (.bipush 65, 2) := by decide +kernel
theorem zd_ModelReader_readJump_28 : decode prog_5_method_12_code 28 = .ok (.invokevirtual 80, 3) := by decide +kernel
theorem zd_ModelReader_readJump_31 : decode prog_5_method_12_code 31 = .ok (.istore_n 3, 1) := by decide +kernel
theorem zd_ModelReader_readJump_32 : decode prog_5_method_12_code 32 = .ok (.iload_n 3, 1) := by decide +kernel
theorem zd_ModelReader_readJump_33 : decode prog_5_method_12_code 33 = .ok (.iconst (-1), 1) := by decide +kernel
theorem zd_ModelReader_readJump_34 : decode prog_5_method_12_code 34 = .ok (.if_icmp .ne 10, 3) := by decide +kernel
theorem zd_ModelReader_readJump_37 : decode prog_5_method_12_code 37 = .ok (.aload_n 0, 1) := by decide +kernel
theorem zd_ModelReader_readJump_38 : decode prog_5_method_12_code 38 = .ok (.getfield 9, 3) := by decide +kernel
theorem zd_ModelReader_readJump_41 : decode prog_5_method_12_code 41 = .ok (.invokevirtual 62, 3) := by decide +kernel
theorem zd_ModelReader_readJump_44 : decode prog_5_method_12_code 44 = .ok (.aload_n 0, 1) := by decide +kernel
theorem zd_ModelReader_readJump_45 : decode prog_5_method_12_code 45 = .ok (.getfield 30, 3) := by decide +kernel
theorem zd_ModelReader_readJump_48 : decode prog_5_method_12_code 48 = .ok (.iconst 5, 1) := by decide +kernel
theorem zd_ModelReader_readJump_49 : decode prog_5_method_12_code 49 = .ok (.iload_n 1, 1) := by decide +kernel
theorem zd_ModelReader_readJump_50 : decode prog_5_method_12_code 50 = .ok (.iload_n 2, 1) := by decide +kernel
theorem zd_ModelReader_readJump_51 : decode prog_5_method_12_code 51 = .ok (.invokevirtual 154, 3) := by decide +kernel
theorem zd_ModelReader_readJump_54 : decode prog_5_method_12_code 54 = .ok (.istore 4, 2) := by decide +kernel
theorem zd_ModelReader_readJump_56 : decode prog_5_method_12_code 56 = .ok (.aload_n 0, 1) := by decide +kernel
theorem zd_ModelReader_readJump_57 : decode prog_5_method_12_code 57 = .ok (.getfield 30, 3) := by decide +kernel
theorem zd_ModelReader_readJump_60 : decode prog_5_method_12_code 60 = .ok (.getfield 114, 3) := by decide +kernel
theorem zd_ModelReader_readJump_63 : decode prog_5_method_12_code 63 = .ok (.iload 4, 2) := by decide +kernel
theorem zd_ModelReader_readJump_65 : decode prog_5_method_12_code 65 = .ok (.iload_n 3, 1) := by decide +kernel
theorem zd_ModelReader_readJump_66 : decode prog_5_method_12_code 66 = .ok (.iastore, 1) := by decide +kernel
theorem zd_ModelReader_readJump_67 : decode prog_5_method_12_code 67 = .ok (.aload_n 0, 1) := by decide +kernel
theorem zd_ModelReader_readJump_68 : decode prog_5_method_12_code 68 = .ok (.getfield 30, 3) := by decide +kernel
theorem zd_ModelReader_readJump_71 : decode prog_5_method_12_code 71 = .ok (.getfield 121, 3) := by decide +kernel
theorem zd_ModelReader_readJump_74 : decode prog_5_method_12_code 74 = .ok (.iload 4, 2) := by decide +kernel
theorem zd_ModelReader_readJump_76 : decode prog_5_method_12_code 76 = .ok (.aload_n 0, 1) := by decide +kernel
theorem zd_ModelReader_readJump_77 : decode prog_5_method_12_code 77 = .ok (.getfield 9, 3) := by decide +kernel
theorem zd_ModelReader_readJump_80 : decode prog_5_method_12_code 80 = .ok (.invokevirtual 179, 3) := by decide +kernel
theorem zd_ModelReader_readJump_83 : decode prog_5_method_12_code 83 = .ok (.iastore, 1) := by decide +kernel
theorem zd_ModelReader_readJump_84 : decode prog_5_method_12_code 84 = .ok (.aload_n 0, 1) := by decide +kernel
theorem zd_ModelReader_readJump_85 : decode prog_5_method_12_code 85 = .ok (.getfield 9, 3) := by decide +kernel
theorem zd_ModelReader_readJump_88 : decode prog_5_method_12_code 88 = .ok (.invokevirtual 65, 3) := by decide +kernel
theorem zd_ModelReader_readJump_91 : decode prog_5_method_12_code 91 = .ok (.iload 4, 2) := by decide +kernel
theorem zd_ModelReader_readJump_93 : decode prog_5_method_12_code 93 = .ok (.ireturn, 1) := by decide +kernel
theorem zd_Names_hasRoom_0 : decode prog_6_method_3_code 0 = .ok (.iload_n 1, 1) := by decide +kernel
theorem zd_Names_hasRoom_1 : decode prog_6_method_3_code 1 = .ok (.iconst 1, 1) := by decide +kernel
theorem zd_Names_hasRoom_2 : decode prog_6_method_3_code 2 = .ok (.if_icmp .ne 20, 3) := by decide +kernel
theorem zd_Names_hasRoom_5 : decode prog_6_method_3_code 5 = .ok (.aload_n 0, 1) := by decide +kernel
theorem zd_Names_hasRoom_6 : decode prog_6_method_3_code 6 = .ok (.getfield 28, 3) := by decide +kernel
theorem zd_Names_hasRoom_9 : decode prog_6_method_3_code 9 = .ok (.bipush 6, 2) := by decide +kernel
theorem zd_Names_hasRoom_11 : decode prog_6_method_3_code 11 = .ok (.if_icmp .ge 7, 3) := by decide +kernel
theorem zd_Names_hasRoom_14 : decode prog_6_method_3_code 14 = .ok (.iconst 1, 1) := by decide +kernel
theorem zd_Names_hasRoom_15 : decode prog_6_method_3_code 15 = .ok (.goto 20, 3) := by decide +kernel
theorem zd_Names_hasRoom_18 : decode prog_6_method_3_code 18 = .ok (.iconst 0, 1) := by decide +kernel
theorem zd_Names_hasRoom_19 : decode prog_6_method_3_code 19 = .ok (.goto 16, 3) := by decide +kernel
theorem zd_Names_hasRoom_22 : decode prog_6_method_3_code 22 = .ok (.aload_n 0, 1) := by decide +kernel
theorem zd_Names_hasRoom_23 : decode prog_6_method_3_code 23 = .ok (.getfield 32, 3) := by decide +kernel
theorem zd_Names_hasRoom_26 : decode prog_6_method_3_code 26 = .ok (.iconst 2, 1) := by decide +kernel
theorem zd_Names_hasRoom_27 : decode prog_6_method_3_code 27 = .ok (.if_icmp .ge 7, 3) := by decide +kernel
theorem zd_Names_hasRoom_30 : decode prog_6_method_3_code 30 = .ok (.iconst 1, 1) := by decide +kernel
theorem zd_Names_hasRoom_31 : decode prog_6_method_3_code 31 = .ok (.goto 4, 3) := by decide +kernel
theorem zd_Names_hasRoom_34 : decode prog_6_method_3_code 34 = .ok (.iconst 0, 1) := by decide +kernel
theorem zd_Names_hasRoom_35 : decode prog_6_method_3_code 35 = .ok (.ireturn, 1) := by decide +kernel
theorem zd_Text_ended_0 : decode prog_10_method_4_code 0 = .ok (.aload_n 0, 1) := by decide +kernel
theorem zd_Text_ended_1 : decode prog_10_method_4_code 1 = .ok (.getfield 25, 3) := by decide +kernel
theorem zd_Text_ended_4 : decode prog_10_method_4_code 4 = .ok (.aload_n 0, 1) := by decide +kernel
theorem zd_Text_ended_5 : decode prog_10_method_4_code 5 = .ok (.getfield 22, 3) := by decide +kernel
theorem zd_Text_ended_8 : decode prog_10_method_4_code 8 = .ok (.if_icmp .lt 7, 3) := by decide +kernel
theorem zd_Text_ended_11 : decode prog_10_method_4_code 11 = .ok (.iconst 1, 1) := by decide +kernel
theorem zd_Text_ended_12 : decode prog_10_method_4_code 12 = .ok (.goto 4, 3) := by decide +kernel
theorem zd_Text_ended_15 : decode prog_10_method_4_code 15 = .ok (.iconst 0, 1) := by decide +kernel
theorem zd_Text_ended_16 : decode prog_10_method_4_code 16 = .ok (.ireturn, 1) := by decide +kernel
theorem zd_Text_expect_0 : decode prog_10_method_9_code 0 = .ok (.aload_n 0, 1) := by decide +kernel
theorem zd_Text_expect_1 : decode prog_10_method_9_code 1 = .ok (.iload_n 1, 1) := by decide +kernel
theorem zd_Text_expect_2 : decode prog_10_method_9_code 2 = .ok (.invokevirtual 32, 3) := by decide +kernel
theorem zd_Text_expect_5 : decode prog_10_method_9_code 5 = .ok (.ifCond .ne 7, 3) := by decide +kernel
theorem zd_Text_expect_8 : decode prog_10_method_9_code 8 = .ok (.aload_n 0, 1) := by decide +kernel
theorem zd_Text_expect_9 : decode prog_10_method_9_code 9 = .ok (.invokevirtual 36, 3) := by decide +kernel
theorem zd_Text_expect_12 : decode prog_10_method_9_code 12 = .ok (.return_, 1) := by decide +kernel
theorem zd_Text_position_0 : decode prog_10_method_10_code 0 = .ok (.aload_n 0, 1) := by decide +kernel
theorem zd_Text_position_1 : decode prog_10_method_10_code 1 = .ok (.getfield 25, 3) := by decide +kernel
theorem zd_Text_position_4 : decode prog_10_method_10_code 4 = .ok (.ireturn, 1) := by decide +kernel
def wc_Text_expect_12 (a0 : Int32) (Post : (Nat → Int32) → (Nat → Int64) → (Nat → Nat → Int32) → (Nat → Nat → Int64) → Prop) (PX : String → (Nat → Int32) → (Nat → Int64) → (Nat → Nat → Int32) → (Nat → Nat → Int64) → Prop)  (I : Nat → Int32) (J : Nat → Int64) (B : Nat → Nat → Int32) (D : Nat → Nat → Int64) : Prop :=
  Post I J B D
def wp_Text_expect (I : Nat → Int32) (J : Nat → Int64) (B : Nat → Nat → Int32) (D : Nat → Nat → Int64) (a0 : Int32) (Post : (Nat → Int32) → (Nat → Int64) → (Nat → Nat → Int32) → (Nat → Nat → Int64) → Prop) (PX : String → (Nat → Int32) → (Nat → Int64) → (Nat → Nat → Int32) → (Nat → Nat → Int64) → Prop) : Prop :=
  wp_Text_accept I J B D a0 (fun r1 I1 J1 B1 D1 => ((¬ r1 = 0 → wc_Text_expect_12 a0 Post PX I1 J1 B1 D1) ∧ (r1 = 0 → wp_Text_refuse I1 J1 B1 D1  (fun I3 J3 B3 D3 => wc_Text_expect_12 a0 Post PX I3 J3 B3 D3) PX)))
set_option maxHeartbeats 8000000 in
set_option maxRecDepth 100000 in
theorem wJ_Text_expect_12 {p : Program} {l : Launch} {e : Env} {s : State} {m : MethodId} {below : List Frame} {meth : Method} {c : Code} {A : Nat → Prop} (G : va_G) (K : Nat → ClassId) (ad : Nat → Nat) (sv : Value) (a0 : Int32) (Post : (Nat → Int32) → (Nat → Int64) → (Nat → Nat → Int32) → (Nat → Nat → Int64) → Prop) (PX : String → (Nat → Int32) → (Nat → Int64) → (Nat → Nat → Int32) → (Nat → Nat → Int64) → Prop) (C : zCy p l s m ([.ref (ad 1), .int a0] : List Value).toArray meth c A G K prog_10_method_9_code none 2 "LassoFinder$Text") : ∀  (I : Nat → Int32) (J : Nat → Int64) (B : Nat → Nat → Int32) (D : Nat → Nat → Int64) (ls : Array Slot) (H : Heap) (locs : List Loc), wc_Text_expect_12 a0 Post PX  I J B D → lv_has ls 2 [] → zW G A s.heap (wX ad K sv I J B D) H locs → W p l e { frames := 7, cells := 1, slots := 6, locals := 101 } s m ([.ref (ad 1), .int a0] : List Value).toArray below meth c H locs 0 0 (zyMQ below (va_Qv (fun u : zS => Post u.1 u.2.1 u.2.2.1 u.2.2.2) (fun u t => zPost G K A (wX ad K sv u.1 u.2.1 u.2.2.1 u.2.2.2) t) A) (zYC (fun E (u : zS) => PX E u.1 u.2.1 u.2.2.1 u.2.2.2) (fun u => wX ad K sv u.1 u.2.1 u.2.2.1 u.2.2.2) G K A) ([.ref (ad 1), .int a0] : List Value).toArray s 1 6 A) (F0 m 12 ls []) := by
  obtain ⟨hx, hb, hr, hml, hts, hown, hlocks, hA, hK, hT, hnt, hlt⟩ := id C
  intro  I J B D ls H locs hok hl hw
  unfold wc_Text_expect_12 at hok
  exact zy_ret (z_vret (u := (I, J, B, D)) hx hb hr hlocks hw (List.range 65) wX_all wX_nd hok (Nat.le_of_ble_eq_true rfl) (Nat.le_of_ble_eq_true rfl) zd_Text_expect_12)
set_option maxHeartbeats 8000000 in
set_option maxRecDepth 100000 in
theorem w_Text_expect (l : Launch) (hlt : l.stackTraces = false) (G : va_G) (K : Nat → ClassId) (ad : Nat → Nat) (sv : Value) (I : Nat → Int32) (J : Nat → Int64) (B : Nat → Nat → Int32) (D : Nat → Nat → Int64) (a0 : Int32) (Post : (Nat → Int32) → (Nat → Int64) → (Nat → Nat → Int32) → (Nat → Nat → Int64) → Prop) (PX : String → (Nat → Int32) → (Nat → Int64) → (Nat → Nat → Int32) → (Nat → Nat → Int64) → Prop) (sz : Nat) (hok : wp_Text_expect I J B D a0 Post PX) : zyMet l zy_Text_expect (Cond.code zy_Text_expect prog_10_method_9_code 2 none :: zTB) { frames := 7, cells := 1, slots := 6, locals := 101 } (va_Pc [.ref (ad 1), .int a0] (zPreX G K (wX ad K sv I J B D) sz)) (va_Qv (fun u : zS => Post u.1 u.2.1 u.2.2.1 u.2.2.2) (fun u t => zPost G K (va_A (wX ad K sv I J B D) sz) (wX ad K sv u.1 u.2.1 u.2.2.1 u.2.2.2) t) (va_A (wX ad K sv I J B D) sz)) (zYC (fun E (u : zS) => PX E u.1 u.2.1 u.2.2.1 u.2.2.2) (fun u => wX ad K sv u.1 u.2.1 u.2.2.1 u.2.2.2) G K (va_A (wX ad K sv I J B D) sz)) 1 6 (va_A (wX ad K sv I J B D) sz) := by
  refine zMetY (y := zy_Text_expect) (av := [.ref (ad 1), .int a0]) (maxL := 2) (cc := prog_10_method_9_code) (ret := none) (W0 := (wX ad K sv I J B D)) (sz := sz) (G := G) (K := K) (wt := zTB) (mc := 1) (ms := 6) (Qf := fun A => va_Qv (fun u : zS => Post u.1 u.2.1 u.2.2.1 u.2.2.2) (fun u t => zPost G K A (wX ad K sv u.1 u.2.1 u.2.2.1 u.2.2.2) t) A) (Xf := fun A => (zYC (fun E (u : zS) => PX E u.1 u.2.1 u.2.2.1 u.2.2.2) (fun u => wX ad K sv u.1 u.2.1 u.2.2.1 u.2.2.2) G K A)) (by decide) (Nat.le_of_ble_eq_true rfl) ?_
  intro p e s m below meth c ls A hx hb hr hml hts hown hlocks hin hA hK H locs hw hsz hl hT hnt
  clear hsz
  have hown : s.vm.findClass "LassoFinder$Text" = some m.cls := hown
  have C : zCy p l s m ([.ref (ad 1), .int a0] : List Value).toArray meth c A G K prog_10_method_9_code none 2 "LassoFinder$Text" := ⟨hx, hb, hr, hml, hts, hown, hlocks, hA, hK, hT, hnt, hlt⟩
  have hl : lv_has ls 2 [(0, .ref (ad 1)), (1, .int a0)] := hl
  have hw : zW G A s.heap (wX ad K sv I J B D) H locs := hw
  unfold wp_Text_expect at hok
  refine lv_aload_n hx hb zd_Text_expect_0 rfl (lv_at hl 0 rfl) ?_
  refine lv_iload_n hx hb zd_Text_expect_1 rfl (lv_at hl 1 rfl) ?_
  refine z_calli (w1 := fun (u : zS) => wX ad K sv u.1 u.2.1 u.2.2.1 u.2.2.2) (wr := []) (z_runV (q0 := 1) (wc := (wX ad K sv I J B D)) (As := [.int a0]) (rest := []) ⟨hx, hb, hml, hown, hts⟩ (w_Text_accept l G K ad sv I J B D a0 _ H.size hok) zf_Text_accept zn_317 ⟨Nat.le_of_ble_eq_true rfl, Nat.le_of_ble_eq_true rfl⟩ hK hw (List.range 65) wX_all wX_nd wX_g1 rfl rfl hl.1 rfl (Nat.le_of_ble_eq_true rfl) zd_Text_expect_2 ⟨Nat.le_of_ble_eq_true rfl, Nat.le_of_ble_eq_true rfl⟩) hw hA (List.range 65) [] wX_all rfl (by decide) (fun i hi => by cases hi) (fun r1 u H locs hok hw => ?_)
  obtain ⟨I1, J1, B1, D1⟩ := u
  dsimp only at hok
  have hw : zW G A s.heap (wX ad K sv I1 J1 B1 D1) H locs := hw
  refine lv_if_ne (tgt := 12) hx hb zd_Text_expect_5 (by decide) (fun hc2 => ?_) (fun hc2 => ?_)
  · have hok := hok.1 hc2
    exact wJ_Text_expect_12 G K ad sv a0 Post PX C I1 J1 B1 D1 ls H locs hok (lv_sub hl [] rfl) hw
  · have hok := hok.2 hc2
    refine lv_aload_n hx hb zd_Text_expect_8 rfl (lv_at hl 0 rfl) ?_
    refine z_yV (q0 := 1) (wc := (wX ad K sv I1 J1 B1 D1)) (wr := []) (w1 := fun (u : zS) => wX ad K sv u.1 u.2.1 u.2.2.1 u.2.2.2) (As := []) (rest := []) ⟨hx, hb, hml, hown, hts⟩ (w_Text_refuse l hlt G K ad sv I1 J1 B1 D1  _ _ H.size hok) zf_Text_refuse zn_318 ⟨Nat.le_of_ble_eq_true rfl, Nat.le_of_ble_eq_true rfl⟩ hK hT hw hA (List.range 65) [] wX_all rfl wX_nd (by decide) (fun i hi => by cases hi) wX_g1 rfl rfl hl.1 rfl (Nat.le_of_ble_eq_true rfl) zd_Text_expect_9 ⟨Nat.le_of_ble_eq_true rfl, Nat.le_of_ble_eq_true rfl⟩ (fun v st9 t9 L9 h0 hq hL => ?_) (fun E ce q9 u H locs hu hw hce hcv hcl => z_yout (u := u) hnt hlocks hce hcv hcl hw (List.range 65) wX_all wX_nd hu (Nat.le_of_ble_eq_true rfl) (Nat.le_of_ble_eq_true rfl))
    obtain ⟨⟨u, hv9, hok, hB9⟩, hF9⟩ := hq
    cases hv9
    have hw := z_back (wr := []) hw hA (List.range 65) [] wX_all rfl (by decide) (fun i hi => by cases hi) h0 hL hB9 hF9
    obtain ⟨I3, J3, B3, D3⟩ := u
    dsimp only at hok
    generalize t9.heap = H at hw ⊢
    generalize locs ++ L9 = locs at hw ⊢
    have hw : zW G A s.heap (wX ad K sv I3 J3 B3 D3) H locs := hw
    refine W.eq (g2 := F0 m 12 ls []) rfl ?_
    exact wJ_Text_expect_12 G K ad sv a0 Post PX C I3 J3 B3 D3 ls H locs hok (lv_sub hl [] rfl) hw
def wc_Names_hasRoom_35 (a0 : Int32) (Post : Int32 → (Nat → Int32) → (Nat → Int64) → (Nat → Nat → Int32) → (Nat → Nat → Int64) → Prop) (y0 : Int32) (I : Nat → Int32) (J : Nat → Int64) (B : Nat → Nat → Int32) (D : Nat → Nat → Int64) : Prop :=
  (y0 = 0 ∨ y0 = 1) ∧ Post y0 I J B D
def wp_Names_hasRoom (I : Nat → Int32) (J : Nat → Int64) (B : Nat → Nat → Int32) (D : Nat → Nat → Int64) (a0 : Int32) (Post : Int32 → (Nat → Int32) → (Nat → Int64) → (Nat → Nat → Int32) → (Nat → Nat → Int64) → Prop) : Prop :=
  ((¬ a0 = 1 → (((2 : Int32) ≤ (I 8) → wc_Names_hasRoom_35 a0 Post 0 I J B D) ∧ (¬ (2 : Int32) ≤ (I 8) → wc_Names_hasRoom_35 a0 Post 1 I J B D))) ∧ (a0 = 1 → (((6 : Int32) ≤ (I 7) → wc_Names_hasRoom_35 a0 Post 0 I J B D) ∧ (¬ (6 : Int32) ≤ (I 7) → wc_Names_hasRoom_35 a0 Post 1 I J B D))))
set_option maxHeartbeats 8000000 in
set_option maxRecDepth 100000 in
theorem wJ_Names_hasRoom_35 {p : Program} {l : Launch} {e : Env} {s : State} {m : MethodId} {below : List Frame} {meth : Method} {c : Code} {A : Nat → Prop} (G : va_G) (K : Nat → ClassId) (ad : Nat → Nat) (sv : Value) (a0 : Int32) (Post : Int32 → (Nat → Int32) → (Nat → Int64) → (Nat → Nat → Int32) → (Nat → Nat → Int64) → Prop) (C : zCx p s m ([.ref (ad 2), .int a0] : List Value).toArray meth c A G K prog_6_method_3_code (some .boolean) 2 "LassoFinder$Names") : ∀ (y0 : Int32) (I : Nat → Int32) (J : Nat → Int64) (B : Nat → Nat → Int32) (D : Nat → Nat → Int64) (ls : Array Slot) (H : Heap) (locs : List Loc), wc_Names_hasRoom_35 a0 Post y0 I J B D → lv_has ls 2 [] → zW G A s.heap (wX ad K sv I J B D) H locs → W p l e { frames := 0, cells := 0, slots := 0, locals := 0 } s m ([.ref (ad 2), .int a0] : List Value).toArray below meth c H locs 0 0 (MQ below (va_Qi (fun (r : Int32) (u : zS) => Post r u.1 u.2.1 u.2.2.1 u.2.2.2) (fun u t => zPost G K A (wX ad K sv u.1 u.2.1 u.2.2.1 u.2.2.2) t) A) ([.ref (ad 2), .int a0] : List Value).toArray s 0 0 A) (F0 m 35 ls [.int y0]) := by
  obtain ⟨hx, hb, hr, hml, hts, hown, hlocks, hA, hK⟩ := id C
  intro y0 I J B D ls H locs hok hl hw
  unfold wc_Names_hasRoom_35 at hok
  have hbo := hok.1
  have hok := hok.2
  exact (z_iret (u := (I, J, B, D)) hx hb hr hlocks (z_nar hbo) hw (List.range 65) wX_all wX_nd hok (Nat.le_of_ble_eq_true rfl) (Nat.le_of_ble_eq_true rfl) zd_Names_hasRoom_35)
set_option maxHeartbeats 8000000 in
set_option maxRecDepth 100000 in
theorem w_Names_hasRoom (l : Launch) (G : va_G) (K : Nat → ClassId) (ad : Nat → Nat) (sv : Value) (I : Nat → Int32) (J : Nat → Int64) (B : Nat → Nat → Int32) (D : Nat → Nat → Int64) (a0 : Int32) (Post : Int32 → (Nat → Int32) → (Nat → Int64) → (Nat → Nat → Int32) → (Nat → Nat → Int64) → Prop) (sz : Nat) (hok : wp_Names_hasRoom I J B D a0 Post) : Met l zy_Names_hasRoom (Cond.code zy_Names_hasRoom prog_6_method_3_code 2 (some .boolean) :: zTB) { frames := 0, cells := 0, slots := 0, locals := 0 } (va_Pc [.ref (ad 2), .int a0] (zPre G K (wX ad K sv I J B D) sz)) (va_Qi (fun (r : Int32) (u : zS) => Post r u.1 u.2.1 u.2.2.1 u.2.2.2) (fun u t => zPost G K (va_A (wX ad K sv I J B D) sz) (wX ad K sv u.1 u.2.1 u.2.2.1 u.2.2.2) t) (va_A (wX ad K sv I J B D) sz)) 0 0 (va_A (wX ad K sv I J B D) sz) := by
  refine zMet (y := zy_Names_hasRoom) (av := [.ref (ad 2), .int a0]) (maxL := 2) (cc := prog_6_method_3_code) (ret := (some .boolean)) (W0 := (wX ad K sv I J B D)) (sz := sz) (G := G) (K := K) (wt := zTB) (mc := 0) (ms := 0) (Qf := fun A => va_Qi (fun (r : Int32) (u : zS) => Post r u.1 u.2.1 u.2.2.1 u.2.2.2) (fun u t => zPost G K A (wX ad K sv u.1 u.2.1 u.2.2.1 u.2.2.2) t) A) (by decide) (Nat.le_of_ble_eq_true rfl) ?_
  intro p e s m below meth c ls A hx hb hr hml hts hown hlocks hin hA hK H locs hw hsz hl
  clear hsz
  have hown : s.vm.findClass "LassoFinder$Names" = some m.cls := hown
  have C : zCx p s m ([.ref (ad 2), .int a0] : List Value).toArray meth c A G K prog_6_method_3_code (some .boolean) 2 "LassoFinder$Names" := ⟨hx, hb, hr, hml, hts, hown, hlocks, hA, hK⟩
  have hl : lv_has ls 2 [(0, .ref (ad 2)), (1, .int a0)] := hl
  have hw : zW G A s.heap (wX ad K sv I J B D) H locs := hw
  unfold wp_Names_hasRoom at hok
  refine lv_iload_n hx hb zd_Names_hasRoom_0 rfl (lv_at hl 1 rfl) ?_
  refine lv_iconst (v := 1) hx hb zd_Names_hasRoom_1 (by decide) ?_
  refine lv_icmp_ne (tgt := 22) hx hb zd_Names_hasRoom_2 (by decide) (fun hc1 => ?_) (fun hc1 => ?_)
  · have hok := hok.1 hc1
    refine lv_aload_n hx hb zd_Names_hasRoom_22 rfl (lv_at hl 0 rfl) ?_
    refine z_get (v := .int (I 8)) hx hb hts hown hK hw zZ5 2 wX_g2 5 (by decide) zn_384 rfl zd_Names_hasRoom_23 ?_
    refine lv_iconst (v := 2) hx hb zd_Names_hasRoom_26 (by decide) ?_
    refine lv_icmp_ge (tgt := 34) hx hb zd_Names_hasRoom_27 (by decide) (fun hc2 => ?_) (fun hc2 => ?_)
    · have hok := hok.1 hc2
      refine lv_iconst (v := 0) hx hb zd_Names_hasRoom_34 (by decide) ?_
      exact wJ_Names_hasRoom_35 G K ad sv a0 Post C 0 I J B D ls H locs hok (lv_sub hl [] rfl) hw
    · have hok := hok.2 hc2
      refine lv_iconst (v := 1) hx hb zd_Names_hasRoom_30 (by decide) ?_
      refine lv_goto (tgt := 35) hx hb zd_Names_hasRoom_31 (by decide) ?_
      exact wJ_Names_hasRoom_35 G K ad sv a0 Post C 1 I J B D ls H locs hok (lv_sub hl [] rfl) hw
  · have hok := hok.2 hc1
    refine lv_aload_n hx hb zd_Names_hasRoom_5 rfl (lv_at hl 0 rfl) ?_
    refine z_get (v := .int (I 7)) hx hb hts hown hK hw zZ5 2 wX_g2 4 (by decide) zn_383 rfl zd_Names_hasRoom_6 ?_
    refine lv_bipush (v := 6) hx hb zd_Names_hasRoom_9 (by decide) ?_
    refine lv_icmp_ge (tgt := 18) hx hb zd_Names_hasRoom_11 (by decide) (fun hc3 => ?_) (fun hc3 => ?_)
    · have hok := hok.1 hc3
      refine lv_iconst (v := 0) hx hb zd_Names_hasRoom_18 (by decide) ?_
      refine lv_goto (tgt := 35) hx hb zd_Names_hasRoom_19 (by decide) ?_
      exact wJ_Names_hasRoom_35 G K ad sv a0 Post C 0 I J B D ls H locs hok (lv_sub hl [] rfl) hw
    · have hok := hok.2 hc3
      refine lv_iconst (v := 1) hx hb zd_Names_hasRoom_14 (by decide) ?_
      refine lv_goto (tgt := 35) hx hb zd_Names_hasRoom_15 (by decide) ?_
      exact wJ_Names_hasRoom_35 G K ad sv a0 Post C 1 I J B D ls H locs hok (lv_sub hl [] rfl) hw
def wc_ModelReader_readDeclaration_142 (Post : (Nat → Int32) → (Nat → Int64) → (Nat → Nat → Int32) → (Nat → Nat → Int64) → Prop) (PX : String → (Nat → Int32) → (Nat → Int64) → (Nat → Nat → Int32) → (Nat → Nat → Int64) → Prop) (x1 : Int32) (x2 : Int32) (x4 : Int32) (I : Nat → Int32) (J : Nat → Int64) (B : Nat → Nat → Int32) (D : Nat → Nat → Int64) : Prop :=
  wp_Names_declare I J B D x2 x1 x4 (fun I1 J1 B1 D1 => wp_Text_expect I1 J1 B1 D1 59 (fun I2 J2 B2 D2 => Post I2 J2 B2 D2) PX)
def wc_ModelReader_readDeclaration_135 (Post : (Nat → Int32) → (Nat → Int64) → (Nat → Nat → Int32) → (Nat → Nat → Int64) → Prop) (PX : String → (Nat → Int32) → (Nat → Int64) → (Nat → Nat → Int32) → (Nat → Nat → Int64) → Prop) (x1 : Int32) (x2 : Int32) (x4 : Int32) (I : Nat → Int32) (J : Nat → Int64) (B : Nat → Nat → Int32) (D : Nat → Nat → Int64) : Prop :=
  wp_Text_skip I J B D  (fun I3 J3 B3 D3 => wc_ModelReader_readDeclaration_142  Post PX x1 x2 x4 I3 J3 B3 D3)
def wc_ModelReader_readDeclaration_128 (Post : (Nat → Int32) → (Nat → Int64) → (Nat → Nat → Int32) → (Nat → Nat → Int64) → Prop) (PX : String → (Nat → Int32) → (Nat → Int64) → (Nat → Nat → Int32) → (Nat → Nat → Int64) → Prop) (x1 : Int32) (x2 : Int32) (x4 : Int32) (I : Nat → Int32) (J : Nat → Int64) (B : Nat → Nat → Int32) (D : Nat → Nat → Int64) : Prop :=
  wp_Text_refuse I J B D  (fun I4 J4 B4 D4 => wc_ModelReader_readDeclaration_135  Post PX x1 x2 x4 I4 J4 B4 D4) PX
def wc_ModelReader_readDeclaration_92 (Post : (Nat → Int32) → (Nat → Int64) → (Nat → Nat → Int32) → (Nat → Nat → Int64) → Prop) (PX : String → (Nat → Int32) → (Nat → Int64) → (Nat → Nat → Int32) → (Nat → Nat → Int64) → Prop) (x1 : Int32) (x2 : Int32) (y0 : Int32) (I : Nat → Int32) (J : Nat → Int64) (B : Nat → Nat → Int32) (D : Nat → Nat → Int64) : Prop :=
  ((y0 = 0 → wc_ModelReader_readDeclaration_142  Post PX x1 x2 0 I J B D) ∧ (¬ y0 = 0 → wp_Text_oneOf I J B D 48 (fun r6 I6 J6 B6 D6 => ((r6 = (-1) → wc_ModelReader_readDeclaration_128  Post PX x1 x2 r6 I6 J6 B6 D6) ∧ (¬ r6 = (-1) → ((¬ x1 = 2 → wc_ModelReader_readDeclaration_135  Post PX x1 x2 r6 I6 J6 B6 D6) ∧ (x1 = 2 → ((r6 ≤ 3 → wc_ModelReader_readDeclaration_135  Post PX x1 x2 r6 I6 J6 B6 D6) ∧ (¬ r6 ≤ 3 → wc_ModelReader_readDeclaration_128  Post PX x1 x2 r6 I6 J6 B6 D6)))))))))
def wc_ModelReader_readDeclaration_87 (Post : (Nat → Int32) → (Nat → Int64) → (Nat → Nat → Int32) → (Nat → Nat → Int64) → Prop) (PX : String → (Nat → Int32) → (Nat → Int64) → (Nat → Nat → Int32) → (Nat → Nat → Int64) → Prop) (x1 : Int32) (x2 : Int32) (I : Nat → Int32) (J : Nat → Int64) (B : Nat → Nat → Int32) (D : Nat → Nat → Int64) : Prop :=
  wc_ModelReader_readDeclaration_92  Post PX x1 x2 1 I J B D
def wc_ModelReader_readDeclaration_63 (Post : (Nat → Int32) → (Nat → Int64) → (Nat → Nat → Int32) → (Nat → Nat → Int64) → Prop) (PX : String → (Nat → Int32) → (Nat → Int64) → (Nat → Nat → Int32) → (Nat → Nat → Int64) → Prop) (x1 : Int32) (x2 : Int32) (I : Nat → Int32) (J : Nat → Int64) (B : Nat → Nat → Int32) (D : Nat → Nat → Int64) : Prop :=
  wp_Text_skip I J B D  (fun I10 J10 B10 D10 => ((x1 = 2 → wc_ModelReader_readDeclaration_87  Post PX x1 x2 I10 J10 B10 D10) ∧ (¬ x1 = 2 → wp_Text_accept I10 J10 B10 D10 61 (fun r12 I12 J12 B12 D12 => ((r12 = 0 → wc_ModelReader_readDeclaration_92  Post PX x1 x2 0 I12 J12 B12 D12) ∧ (¬ r12 = 0 → wc_ModelReader_readDeclaration_87  Post PX x1 x2 I12 J12 B12 D12))))))
def wc_ModelReader_readDeclaration_56 (Post : (Nat → Int32) → (Nat → Int64) → (Nat → Nat → Int32) → (Nat → Nat → Int64) → Prop) (PX : String → (Nat → Int32) → (Nat → Int64) → (Nat → Nat → Int32) → (Nat → Nat → Int64) → Prop) (x1 : Int32) (x2 : Int32) (I : Nat → Int32) (J : Nat → Int64) (B : Nat → Nat → Int32) (D : Nat → Nat → Int64) : Prop :=
  wp_Text_refuse I J B D  (fun I14 J14 B14 D14 => wc_ModelReader_readDeclaration_63  Post PX x1 x2 I14 J14 B14 D14) PX
def wc_ModelReader_readDeclaration_17 (Post : (Nat → Int32) → (Nat → Int64) → (Nat → Nat → Int32) → (Nat → Nat → Int64) → Prop) (PX : String → (Nat → Int32) → (Nat → Int64) → (Nat → Nat → Int32) → (Nat → Nat → Int64) → Prop) (y0 : Int32) (I : Nat → Int32) (J : Nat → Int64) (B : Nat → Nat → Int32) (D : Nat → Nat → Int64) : Prop :=
  wp_Text_oneOf I J B D 97 (fun r15 I15 J15 B15 D15 => ((r15 = (-1) → wc_ModelReader_readDeclaration_56  Post PX y0 r15 I15 J15 B15 D15) ∧ (¬ r15 = (-1) → vp_in r15 8 ∧ ∀ z17 : Int32, z17 = ((B15 2) r15.toNatClampNeg) → ((¬ z17 = 0 → wc_ModelReader_readDeclaration_56  Post PX y0 r15 I15 J15 B15 D15) ∧ (z17 = 0 → wp_Names_hasRoom I15 J15 B15 D15 y0 (fun r19 I19 J19 B19 D19 => ((¬ r19 = 0 → wc_ModelReader_readDeclaration_63  Post PX y0 r15 I19 J19 B19 D19) ∧ (r19 = 0 → wc_ModelReader_readDeclaration_56  Post PX y0 r15 I19 J19 B19 D19))))))))
def wp_ModelReader_readDeclaration (I : Nat → Int32) (J : Nat → Int64) (B : Nat → Nat → Int32) (D : Nat → Nat → Int64) (Post : (Nat → Int32) → (Nat → Int64) → (Nat → Nat → Int32) → (Nat → Nat → Int64) → Prop) (PX : String → (Nat → Int32) → (Nat → Int64) → (Nat → Nat → Int32) → (Nat → Nat → Int64) → Prop) : Prop :=
  wp_Text_accept I J B D 35 (fun r21 I21 J21 B21 D21 => ((r21 = 0 → wc_ModelReader_readDeclaration_17  Post PX 1 I21 J21 B21 D21) ∧ (¬ r21 = 0 → wc_ModelReader_readDeclaration_17  Post PX 2 I21 J21 B21 D21)))
set_option maxHeartbeats 8000000 in
set_option maxRecDepth 100000 in
theorem wJ_ModelReader_readDeclaration_142 {p : Program} {l : Launch} {e : Env} {s : State} {m : MethodId} {below : List Frame} {meth : Method} {c : Code} {A : Nat → Prop} (G : va_G) (K : Nat → ClassId) (ad : Nat → Nat) (sv : Value) (Post : (Nat → Int32) → (Nat → Int64) → (Nat → Nat → Int32) → (Nat → Nat → Int64) → Prop) (PX : String → (Nat → Int32) → (Nat → Int64) → (Nat → Nat → Int32) → (Nat → Nat → Int64) → Prop) (C : zCy p l s m ([.ref (ad 5)] : List Value).toArray meth c A G K prog_5_method_3_code none 5 "LassoFinder$ModelReader") : ∀ (x1 : Int32) (x2 : Int32) (x4 : Int32) (I : Nat → Int32) (J : Nat → Int64) (B : Nat → Nat → Int32) (D : Nat → Nat → Int64) (ls : Array Slot) (H : Heap) (locs : List Loc), wc_ModelReader_readDeclaration_142  Post PX x1 x2 x4 I J B D → lv_has ls 5 [(0, .ref (ad 5)), (1, .int x1), (2, .int x2), (4, .int x4)] → zW G A s.heap (wX ad K sv I J B D) H locs → W p l e { frames := 8, cells := 1, slots := 6, locals := 122 } s m ([.ref (ad 5)] : List Value).toArray below meth c H locs 0 0 (zyMQ below (va_Qv (fun u : zS => Post u.1 u.2.1 u.2.2.1 u.2.2.2) (fun u t => zPost G K A (wX ad K sv u.1 u.2.1 u.2.2.1 u.2.2.2) t) A) (zYC (fun E (u : zS) => PX E u.1 u.2.1 u.2.2.1 u.2.2.2) (fun u => wX ad K sv u.1 u.2.1 u.2.2.1 u.2.2.2) G K A) ([.ref (ad 5)] : List Value).toArray s 1 6 A) (F0 m 142 ls []) := by
  obtain ⟨hx, hb, hr, hml, hts, hown, hlocks, hA, hK, hT, hnt, hlt⟩ := id C
  intro x1 x2 x4 I J B D ls H locs hok hl hw
  unfold wc_ModelReader_readDeclaration_142 at hok
  refine lv_aload_n hx hb zd_ModelReader_readDeclaration_142 rfl (lv_at hl 0 rfl) ?_
  refine z_get (v := .ref (ad 2)) hx hb hts hown hK hw zZ4 5 wX_g5 1 (by decide) zn_363 rfl zd_ModelReader_readDeclaration_143 ?_
  refine lv_iload_n hx hb zd_ModelReader_readDeclaration_146 rfl (lv_at hl 2 rfl) ?_
  refine lv_iload_n hx hb zd_ModelReader_readDeclaration_147 rfl (lv_at hl 1 rfl) ?_
  refine lv_iload hx hb zd_ModelReader_readDeclaration_148 (lv_at hl 3 rfl) ?_
  refine z_callv (w1 := fun (u : zS) => wX ad K sv u.1 u.2.1 u.2.2.1 u.2.2.2) (wr := []) (z_runV (q0 := 2) (wc := (wX ad K sv I J B D)) (As := [.int x2, .int x1, .int x4]) (rest := []) ⟨hx, hb, hml, hown, hts⟩ (w_Names_declare l G K ad sv I J B D x2 x1 x4 _ H.size hok) zf_Names_declare zn_315 ⟨Nat.le_of_ble_eq_true rfl, Nat.le_of_ble_eq_true rfl⟩ hK hw (List.range 65) wX_all wX_nd wX_g2 rfl rfl hl.1 rfl (Nat.le_of_ble_eq_true rfl) zd_ModelReader_readDeclaration_150 ⟨Nat.le_of_ble_eq_true rfl, Nat.le_of_ble_eq_true rfl⟩) hw hA (List.range 65) [] wX_all rfl (by decide) (fun i hi => by cases hi) (fun u H locs hok hw => ?_)
  obtain ⟨I1, J1, B1, D1⟩ := u
  dsimp only at hok
  have hw : zW G A s.heap (wX ad K sv I1 J1 B1 D1) H locs := hw
  refine lv_aload_n hx hb zd_ModelReader_readDeclaration_153 rfl (lv_at hl 0 rfl) ?_
  refine z_get (v := .ref (ad 1)) hx hb hts hown hK hw zZ4 5 wX_g5 0 (by decide) zn_366 rfl zd_ModelReader_readDeclaration_154 ?_
  refine lv_bipush (v := 59) hx hb zd_ModelReader_readDeclaration_157 (by decide) ?_
  refine z_yV (q0 := 1) (wc := (wX ad K sv I1 J1 B1 D1)) (wr := []) (w1 := fun (u : zS) => wX ad K sv u.1 u.2.1 u.2.2.1 u.2.2.2) (As := [.int 59]) (rest := []) ⟨hx, hb, hml, hown, hts⟩ (w_Text_expect l hlt G K ad sv I1 J1 B1 D1 59 _ _ H.size hok) zf_Text_expect zn_316 ⟨Nat.le_of_ble_eq_true rfl, Nat.le_of_ble_eq_true rfl⟩ hK hT hw hA (List.range 65) [] wX_all rfl wX_nd (by decide) (fun i hi => by cases hi) wX_g1 rfl rfl hl.1 rfl (Nat.le_of_ble_eq_true rfl) zd_ModelReader_readDeclaration_159 ⟨Nat.le_of_ble_eq_true rfl, Nat.le_of_ble_eq_true rfl⟩ (fun v st9 t9 L9 h0 hq hL => ?_) (fun E ce q9 u H locs hu hw hce hcv hcl => z_yout (u := u) hnt hlocks hce hcv hcl hw (List.range 65) wX_all wX_nd hu (Nat.le_of_ble_eq_true rfl) (Nat.le_of_ble_eq_true rfl))
  obtain ⟨⟨u, hv9, hok, hB9⟩, hF9⟩ := hq
  cases hv9
  have hw := z_back (wr := []) hw hA (List.range 65) [] wX_all rfl (by decide) (fun i hi => by cases hi) h0 hL hB9 hF9
  obtain ⟨I2, J2, B2, D2⟩ := u
  dsimp only at hok
  generalize t9.heap = H at hw ⊢
  generalize locs ++ L9 = locs at hw ⊢
  have hw : zW G A s.heap (wX ad K sv I2 J2 B2 D2) H locs := hw
  refine W.eq (g2 := F0 m 162 ls []) rfl ?_
  exact zy_ret (z_vret (u := (I2, J2, B2, D2)) hx hb hr hlocks hw (List.range 65) wX_all wX_nd hok (Nat.le_of_ble_eq_true rfl) (Nat.le_of_ble_eq_true rfl) zd_ModelReader_readDeclaration_162)
set_option maxHeartbeats 8000000 in
set_option maxRecDepth 100000 in
theorem wJ_ModelReader_readDeclaration_135 {p : Program} {l : Launch} {e : Env} {s : State} {m : MethodId} {below : List Frame} {meth : Method} {c : Code} {A : Nat → Prop} (G : va_G) (K : Nat → ClassId) (ad : Nat → Nat) (sv : Value) (Post : (Nat → Int32) → (Nat → Int64) → (Nat → Nat → Int32) → (Nat → Nat → Int64) → Prop) (PX : String → (Nat → Int32) → (Nat → Int64) → (Nat → Nat → Int32) → (Nat → Nat → Int64) → Prop) (C : zCy p l s m ([.ref (ad 5)] : List Value).toArray meth c A G K prog_5_method_3_code none 5 "LassoFinder$ModelReader") : ∀ (x1 : Int32) (x2 : Int32) (x4 : Int32) (I : Nat → Int32) (J : Nat → Int64) (B : Nat → Nat → Int32) (D : Nat → Nat → Int64) (ls : Array Slot) (H : Heap) (locs : List Loc), wc_ModelReader_readDeclaration_135  Post PX x1 x2 x4 I J B D → lv_has ls 5 [(0, .ref (ad 5)), (1, .int x1), (2, .int x2), (4, .int x4)] → zW G A s.heap (wX ad K sv I J B D) H locs → W p l e { frames := 8, cells := 1, slots := 6, locals := 122 } s m ([.ref (ad 5)] : List Value).toArray below meth c H locs 0 0 (zyMQ below (va_Qv (fun u : zS => Post u.1 u.2.1 u.2.2.1 u.2.2.2) (fun u t => zPost G K A (wX ad K sv u.1 u.2.1 u.2.2.1 u.2.2.2) t) A) (zYC (fun E (u : zS) => PX E u.1 u.2.1 u.2.2.1 u.2.2.2) (fun u => wX ad K sv u.1 u.2.1 u.2.2.1 u.2.2.2) G K A) ([.ref (ad 5)] : List Value).toArray s 1 6 A) (F0 m 135 ls []) := by
  obtain ⟨hx, hb, hr, hml, hts, hown, hlocks, hA, hK, hT, hnt, hlt⟩ := id C
  intro x1 x2 x4 I J B D ls H locs hok hl hw
  unfold wc_ModelReader_readDeclaration_135 at hok
  refine lv_aload_n hx hb zd_ModelReader_readDeclaration_135 rfl (lv_at hl 0 rfl) ?_
  refine z_get (v := .ref (ad 1)) hx hb hts hown hK hw zZ4 5 wX_g5 0 (by decide) zn_366 rfl zd_ModelReader_readDeclaration_136 ?_
  refine z_callv (w1 := fun (u : zS) => wX ad K sv u.1 u.2.1 u.2.2.1 u.2.2.2) (wr := []) (z_runV (q0 := 1) (wc := (wX ad K sv I J B D)) (As := []) (rest := []) ⟨hx, hb, hml, hown, hts⟩ (w_Text_skip l G K ad sv I J B D  _ H.size hok) zf_Text_skip zn_314 ⟨Nat.le_of_ble_eq_true rfl, Nat.le_of_ble_eq_true rfl⟩ hK hw (List.range 65) wX_all wX_nd wX_g1 rfl rfl hl.1 rfl (Nat.le_of_ble_eq_true rfl) zd_ModelReader_readDeclaration_139 ⟨Nat.le_of_ble_eq_true rfl, Nat.le_of_ble_eq_true rfl⟩) hw hA (List.range 65) [] wX_all rfl (by decide) (fun i hi => by cases hi) (fun u H locs hok hw => ?_)
  obtain ⟨I3, J3, B3, D3⟩ := u
  dsimp only at hok
  have hw : zW G A s.heap (wX ad K sv I3 J3 B3 D3) H locs := hw
  exact wJ_ModelReader_readDeclaration_142 G K ad sv  Post PX C x1 x2 x4 I3 J3 B3 D3 ls H locs hok (lv_sub hl [0, 1, 2, 3] rfl) hw
set_option maxHeartbeats 8000000 in
set_option maxRecDepth 100000 in
theorem wJ_ModelReader_readDeclaration_128 {p : Program} {l : Launch} {e : Env} {s : State} {m : MethodId} {below : List Frame} {meth : Method} {c : Code} {A : Nat → Prop} (G : va_G) (K : Nat → ClassId) (ad : Nat → Nat) (sv : Value) (Post : (Nat → Int32) → (Nat → Int64) → (Nat → Nat → Int32) → (Nat → Nat → Int64) → Prop) (PX : String → (Nat → Int32) → (Nat → Int64) → (Nat → Nat → Int32) → (Nat → Nat → Int64) → Prop) (C : zCy p l s m ([.ref (ad 5)] : List Value).toArray meth c A G K prog_5_method_3_code none 5 "LassoFinder$ModelReader") : ∀ (x1 : Int32) (x2 : Int32) (x4 : Int32) (I : Nat → Int32) (J : Nat → Int64) (B : Nat → Nat → Int32) (D : Nat → Nat → Int64) (ls : Array Slot) (H : Heap) (locs : List Loc), wc_ModelReader_readDeclaration_128  Post PX x1 x2 x4 I J B D → lv_has ls 5 [(0, .ref (ad 5)), (1, .int x1), (2, .int x2), (4, .int x4)] → zW G A s.heap (wX ad K sv I J B D) H locs → W p l e { frames := 8, cells := 1, slots := 6, locals := 122 } s m ([.ref (ad 5)] : List Value).toArray below meth c H locs 0 0 (zyMQ below (va_Qv (fun u : zS => Post u.1 u.2.1 u.2.2.1 u.2.2.2) (fun u t => zPost G K A (wX ad K sv u.1 u.2.1 u.2.2.1 u.2.2.2) t) A) (zYC (fun E (u : zS) => PX E u.1 u.2.1 u.2.2.1 u.2.2.2) (fun u => wX ad K sv u.1 u.2.1 u.2.2.1 u.2.2.2) G K A) ([.ref (ad 5)] : List Value).toArray s 1 6 A) (F0 m 128 ls []) := by
  obtain ⟨hx, hb, hr, hml, hts, hown, hlocks, hA, hK, hT, hnt, hlt⟩ := id C
  intro x1 x2 x4 I J B D ls H locs hok hl hw
  unfold wc_ModelReader_readDeclaration_128 at hok
  refine lv_aload_n hx hb zd_ModelReader_readDeclaration_128 rfl (lv_at hl 0 rfl) ?_
  refine z_get (v := .ref (ad 1)) hx hb hts hown hK hw zZ4 5 wX_g5 0 (by decide) zn_366 rfl zd_ModelReader_readDeclaration_129 ?_
  refine z_yV (q0 := 1) (wc := (wX ad K sv I J B D)) (wr := []) (w1 := fun (u : zS) => wX ad K sv u.1 u.2.1 u.2.2.1 u.2.2.2) (As := []) (rest := []) ⟨hx, hb, hml, hown, hts⟩ (w_Text_refuse l hlt G K ad sv I J B D  _ _ H.size hok) zf_Text_refuse zn_312 ⟨Nat.le_of_ble_eq_true rfl, Nat.le_of_ble_eq_true rfl⟩ hK hT hw hA (List.range 65) [] wX_all rfl wX_nd (by decide) (fun i hi => by cases hi) wX_g1 rfl rfl hl.1 rfl (Nat.le_of_ble_eq_true rfl) zd_ModelReader_readDeclaration_132 ⟨Nat.le_of_ble_eq_true rfl, Nat.le_of_ble_eq_true rfl⟩ (fun v st9 t9 L9 h0 hq hL => ?_) (fun E ce q9 u H locs hu hw hce hcv hcl => z_yout (u := u) hnt hlocks hce hcv hcl hw (List.range 65) wX_all wX_nd hu (Nat.le_of_ble_eq_true rfl) (Nat.le_of_ble_eq_true rfl))
  obtain ⟨⟨u, hv9, hok, hB9⟩, hF9⟩ := hq
  cases hv9
  have hw := z_back (wr := []) hw hA (List.range 65) [] wX_all rfl (by decide) (fun i hi => by cases hi) h0 hL hB9 hF9
  obtain ⟨I4, J4, B4, D4⟩ := u
  dsimp only at hok
  generalize t9.heap = H at hw ⊢
  generalize locs ++ L9 = locs at hw ⊢
  have hw : zW G A s.heap (wX ad K sv I4 J4 B4 D4) H locs := hw
  refine W.eq (g2 := F0 m 135 ls []) rfl ?_
  exact wJ_ModelReader_readDeclaration_135 G K ad sv  Post PX C x1 x2 x4 I4 J4 B4 D4 ls H locs hok (lv_sub hl [0, 1, 2, 3] rfl) hw
set_option maxHeartbeats 8000000 in
set_option maxRecDepth 100000 in
theorem wJ_ModelReader_readDeclaration_92 {p : Program} {l : Launch} {e : Env} {s : State} {m : MethodId} {below : List Frame} {meth : Method} {c : Code} {A : Nat → Prop} (G : va_G) (K : Nat → ClassId) (ad : Nat → Nat) (sv : Value) (Post : (Nat → Int32) → (Nat → Int64) → (Nat → Nat → Int32) → (Nat → Nat → Int64) → Prop) (PX : String → (Nat → Int32) → (Nat → Int64) → (Nat → Nat → Int32) → (Nat → Nat → Int64) → Prop) (C : zCy p l s m ([.ref (ad 5)] : List Value).toArray meth c A G K prog_5_method_3_code none 5 "LassoFinder$ModelReader") : ∀ (x1 : Int32) (x2 : Int32) (y0 : Int32) (I : Nat → Int32) (J : Nat → Int64) (B : Nat → Nat → Int32) (D : Nat → Nat → Int64) (ls : Array Slot) (H : Heap) (locs : List Loc), wc_ModelReader_readDeclaration_92  Post PX x1 x2 y0 I J B D → lv_has ls 5 [(0, .ref (ad 5)), (1, .int x1), (2, .int x2)] → zW G A s.heap (wX ad K sv I J B D) H locs → W p l e { frames := 8, cells := 1, slots := 6, locals := 122 } s m ([.ref (ad 5)] : List Value).toArray below meth c H locs 0 0 (zyMQ below (va_Qv (fun u : zS => Post u.1 u.2.1 u.2.2.1 u.2.2.2) (fun u t => zPost G K A (wX ad K sv u.1 u.2.1 u.2.2.1 u.2.2.2) t) A) (zYC (fun E (u : zS) => PX E u.1 u.2.1 u.2.2.1 u.2.2.2) (fun u => wX ad K sv u.1 u.2.1 u.2.2.1 u.2.2.2) G K A) ([.ref (ad 5)] : List Value).toArray s 1 6 A) (F0 m 92 ls [.int y0]) := by
  obtain ⟨hx, hb, hr, hml, hts, hown, hlocks, hA, hK, hT, hnt, hlt⟩ := id C
  intro x1 x2 y0 I J B D ls H locs hok hl hw
  unfold wc_ModelReader_readDeclaration_92 at hok
  refine lv_istore_n hx hb zd_ModelReader_readDeclaration_92 rfl hl (by decide) rfl (fun ls hl => ?_)
  have hl : lv_has ls 5 [(3, .int y0), (0, .ref (ad 5)), (1, .int x1), (2, .int x2)] := hl
  refine lv_iconst (v := 0) hx hb zd_ModelReader_readDeclaration_93 (by decide) ?_
  refine lv_istore hx hb zd_ModelReader_readDeclaration_94 hl (by decide) rfl (fun ls hl => ?_)
  have hl : lv_has ls 5 [(4, .int 0), (3, .int y0), (0, .ref (ad 5)), (1, .int x1), (2, .int x2)] := hl
  refine lv_iload_n hx hb zd_ModelReader_readDeclaration_96 rfl (lv_at hl 1 rfl) ?_
  refine lv_if_eq (tgt := 142) hx hb zd_ModelReader_readDeclaration_97 (by decide) (fun hc5 => ?_) (fun hc5 => ?_)
  · have hok := hok.1 hc5
    exact wJ_ModelReader_readDeclaration_142 G K ad sv  Post PX C x1 x2 0 I J B D ls H locs hok (lv_sub hl [2, 3, 4, 0] rfl) hw
  · have hok := hok.2 hc5
    refine lv_aload_n hx hb zd_ModelReader_readDeclaration_100 rfl (lv_at hl 2 rfl) ?_
    refine z_get (v := .ref (ad 1)) hx hb hts hown hK hw zZ4 5 wX_g5 0 (by decide) zn_366 rfl zd_ModelReader_readDeclaration_101 ?_
    refine lv_bipush (v := 48) hx hb zd_ModelReader_readDeclaration_104 (by decide) ?_
    refine z_calli (w1 := fun (u : zS) => wX ad K sv u.1 u.2.1 u.2.2.1 u.2.2.2) (wr := []) (z_runV (q0 := 1) (wc := (wX ad K sv I J B D)) (As := [.int 48]) (rest := []) ⟨hx, hb, hml, hown, hts⟩ (w_Text_oneOf l G K ad sv I J B D 48 _ H.size hok) zf_Text_oneOf zn_310 ⟨Nat.le_of_ble_eq_true rfl, Nat.le_of_ble_eq_true rfl⟩ hK hw (List.range 65) wX_all wX_nd wX_g1 rfl rfl hl.1 rfl (Nat.le_of_ble_eq_true rfl) zd_ModelReader_readDeclaration_106 ⟨Nat.le_of_ble_eq_true rfl, Nat.le_of_ble_eq_true rfl⟩) hw hA (List.range 65) [] wX_all rfl (by decide) (fun i hi => by cases hi) (fun r6 u H locs hok hw => ?_)
    obtain ⟨I6, J6, B6, D6⟩ := u
    dsimp only at hok
    have hw : zW G A s.heap (wX ad K sv I6 J6 B6 D6) H locs := hw
    refine lv_istore hx hb zd_ModelReader_readDeclaration_109 hl (by decide) rfl (fun ls hl => ?_)
    have hl : lv_has ls 5 [(4, .int r6), (3, .int y0), (0, .ref (ad 5)), (1, .int x1), (2, .int x2)] := hl
    refine lv_iload hx hb zd_ModelReader_readDeclaration_111 (lv_at hl 0 rfl) ?_
    refine lv_iconst (v := (-1)) hx hb zd_ModelReader_readDeclaration_113 (by decide) ?_
    refine lv_icmp_eq (tgt := 128) hx hb zd_ModelReader_readDeclaration_114 (by decide) (fun hc7 => ?_) (fun hc7 => ?_)
    · have hok := hok.1 hc7
      exact wJ_ModelReader_readDeclaration_128 G K ad sv  Post PX C x1 x2 r6 I6 J6 B6 D6 ls H locs hok (lv_sub hl [2, 3, 4, 0] rfl) hw
    · have hok := hok.2 hc7
      refine lv_iload_n hx hb zd_ModelReader_readDeclaration_117 rfl (lv_at hl 3 rfl) ?_
      refine lv_iconst (v := 2) hx hb zd_ModelReader_readDeclaration_118 (by decide) ?_
      refine lv_icmp_ne (tgt := 135) hx hb zd_ModelReader_readDeclaration_119 (by decide) (fun hc8 => ?_) (fun hc8 => ?_)
      · have hok := hok.1 hc8
        exact wJ_ModelReader_readDeclaration_135 G K ad sv  Post PX C x1 x2 r6 I6 J6 B6 D6 ls H locs hok (lv_sub hl [2, 3, 4, 0] rfl) hw
      · have hok := hok.2 hc8
        refine lv_iload hx hb zd_ModelReader_readDeclaration_122 (lv_at hl 0 rfl) ?_
        refine lv_iconst (v := 3) hx hb zd_ModelReader_readDeclaration_124 (by decide) ?_
        refine lv_icmp_le (tgt := 135) hx hb zd_ModelReader_readDeclaration_125 (by decide) (fun hc9 => ?_) (fun hc9 => ?_)
        · have hok := hok.1 hc9
          exact wJ_ModelReader_readDeclaration_135 G K ad sv  Post PX C x1 x2 r6 I6 J6 B6 D6 ls H locs hok (lv_sub hl [2, 3, 4, 0] rfl) hw
        · have hok := hok.2 hc9
          exact wJ_ModelReader_readDeclaration_128 G K ad sv  Post PX C x1 x2 r6 I6 J6 B6 D6 ls H locs hok (lv_sub hl [2, 3, 4, 0] rfl) hw
set_option maxHeartbeats 8000000 in
set_option maxRecDepth 100000 in
theorem wJ_ModelReader_readDeclaration_87 {p : Program} {l : Launch} {e : Env} {s : State} {m : MethodId} {below : List Frame} {meth : Method} {c : Code} {A : Nat → Prop} (G : va_G) (K : Nat → ClassId) (ad : Nat → Nat) (sv : Value) (Post : (Nat → Int32) → (Nat → Int64) → (Nat → Nat → Int32) → (Nat → Nat → Int64) → Prop) (PX : String → (Nat → Int32) → (Nat → Int64) → (Nat → Nat → Int32) → (Nat → Nat → Int64) → Prop) (C : zCy p l s m ([.ref (ad 5)] : List Value).toArray meth c A G K prog_5_method_3_code none 5 "LassoFinder$ModelReader") : ∀ (x1 : Int32) (x2 : Int32) (I : Nat → Int32) (J : Nat → Int64) (B : Nat → Nat → Int32) (D : Nat → Nat → Int64) (ls : Array Slot) (H : Heap) (locs : List Loc), wc_ModelReader_readDeclaration_87  Post PX x1 x2 I J B D → lv_has ls 5 [(0, .ref (ad 5)), (1, .int x1), (2, .int x2)] → zW G A s.heap (wX ad K sv I J B D) H locs → W p l e { frames := 8, cells := 1, slots := 6, locals := 122 } s m ([.ref (ad 5)] : List Value).toArray below meth c H locs 0 0 (zyMQ below (va_Qv (fun u : zS => Post u.1 u.2.1 u.2.2.1 u.2.2.2) (fun u t => zPost G K A (wX ad K sv u.1 u.2.1 u.2.2.1 u.2.2.2) t) A) (zYC (fun E (u : zS) => PX E u.1 u.2.1 u.2.2.1 u.2.2.2) (fun u => wX ad K sv u.1 u.2.1 u.2.2.1 u.2.2.2) G K A) ([.ref (ad 5)] : List Value).toArray s 1 6 A) (F0 m 87 ls []) := by
  obtain ⟨hx, hb, hr, hml, hts, hown, hlocks, hA, hK, hT, hnt, hlt⟩ := id C
  intro x1 x2 I J B D ls H locs hok hl hw
  unfold wc_ModelReader_readDeclaration_87 at hok
  refine lv_iconst (v := 1) hx hb zd_ModelReader_readDeclaration_87 (by decide) ?_
  refine lv_goto (tgt := 92) hx hb zd_ModelReader_readDeclaration_88 (by decide) ?_
  exact wJ_ModelReader_readDeclaration_92 G K ad sv  Post PX C x1 x2 1 I J B D ls H locs hok (lv_sub hl [0, 1, 2] rfl) hw
set_option maxHeartbeats 8000000 in
set_option maxRecDepth 100000 in
theorem wJ_ModelReader_readDeclaration_63 {p : Program} {l : Launch} {e : Env} {s : State} {m : MethodId} {below : List Frame} {meth : Method} {c : Code} {A : Nat → Prop} (G : va_G) (K : Nat → ClassId) (ad : Nat → Nat) (sv : Value) (Post : (Nat → Int32) → (Nat → Int64) → (Nat → Nat → Int32) → (Nat → Nat → Int64) → Prop) (PX : String → (Nat → Int32) → (Nat → Int64) → (Nat → Nat → Int32) → (Nat → Nat → Int64) → Prop) (C : zCy p l s m ([.ref (ad 5)] : List Value).toArray meth c A G K prog_5_method_3_code none 5 "LassoFinder$ModelReader") : ∀ (x1 : Int32) (x2 : Int32) (I : Nat → Int32) (J : Nat → Int64) (B : Nat → Nat → Int32) (D : Nat → Nat → Int64) (ls : Array Slot) (H : Heap) (locs : List Loc), wc_ModelReader_readDeclaration_63  Post PX x1 x2 I J B D → lv_has ls 5 [(0, .ref (ad 5)), (1, .int x1), (2, .int x2)] → zW G A s.heap (wX ad K sv I J B D) H locs → W p l e { frames := 8, cells := 1, slots := 6, locals := 122 } s m ([.ref (ad 5)] : List Value).toArray below meth c H locs 0 0 (zyMQ below (va_Qv (fun u : zS => Post u.1 u.2.1 u.2.2.1 u.2.2.2) (fun u t => zPost G K A (wX ad K sv u.1 u.2.1 u.2.2.1 u.2.2.2) t) A) (zYC (fun E (u : zS) => PX E u.1 u.2.1 u.2.2.1 u.2.2.2) (fun u => wX ad K sv u.1 u.2.1 u.2.2.1 u.2.2.2) G K A) ([.ref (ad 5)] : List Value).toArray s 1 6 A) (F0 m 63 ls []) := by
  obtain ⟨hx, hb, hr, hml, hts, hown, hlocks, hA, hK, hT, hnt, hlt⟩ := id C
  intro x1 x2 I J B D ls H locs hok hl hw
  unfold wc_ModelReader_readDeclaration_63 at hok
  refine lv_aload_n hx hb zd_ModelReader_readDeclaration_63 rfl (lv_at hl 0 rfl) ?_
  refine z_get (v := .ref (ad 1)) hx hb hts hown hK hw zZ4 5 wX_g5 0 (by decide) zn_366 rfl zd_ModelReader_readDeclaration_64 ?_
  refine z_callv (w1 := fun (u : zS) => wX ad K sv u.1 u.2.1 u.2.2.1 u.2.2.2) (wr := []) (z_runV (q0 := 1) (wc := (wX ad K sv I J B D)) (As := []) (rest := []) ⟨hx, hb, hml, hown, hts⟩ (w_Text_skip l G K ad sv I J B D  _ H.size hok) zf_Text_skip zn_314 ⟨Nat.le_of_ble_eq_true rfl, Nat.le_of_ble_eq_true rfl⟩ hK hw (List.range 65) wX_all wX_nd wX_g1 rfl rfl hl.1 rfl (Nat.le_of_ble_eq_true rfl) zd_ModelReader_readDeclaration_67 ⟨Nat.le_of_ble_eq_true rfl, Nat.le_of_ble_eq_true rfl⟩) hw hA (List.range 65) [] wX_all rfl (by decide) (fun i hi => by cases hi) (fun u H locs hok hw => ?_)
  obtain ⟨I10, J10, B10, D10⟩ := u
  dsimp only at hok
  have hw : zW G A s.heap (wX ad K sv I10 J10 B10 D10) H locs := hw
  refine lv_iload_n hx hb zd_ModelReader_readDeclaration_70 rfl (lv_at hl 1 rfl) ?_
  refine lv_iconst (v := 2) hx hb zd_ModelReader_readDeclaration_71 (by decide) ?_
  refine lv_icmp_eq (tgt := 87) hx hb zd_ModelReader_readDeclaration_72 (by decide) (fun hc11 => ?_) (fun hc11 => ?_)
  · have hok := hok.1 hc11
    exact wJ_ModelReader_readDeclaration_87 G K ad sv  Post PX C x1 x2 I10 J10 B10 D10 ls H locs hok (lv_sub hl [0, 1, 2] rfl) hw
  · have hok := hok.2 hc11
    refine lv_aload_n hx hb zd_ModelReader_readDeclaration_75 rfl (lv_at hl 0 rfl) ?_
    refine z_get (v := .ref (ad 1)) hx hb hts hown hK hw zZ4 5 wX_g5 0 (by decide) zn_366 rfl zd_ModelReader_readDeclaration_76 ?_
    refine lv_bipush (v := 61) hx hb zd_ModelReader_readDeclaration_79 (by decide) ?_
    refine z_calli (w1 := fun (u : zS) => wX ad K sv u.1 u.2.1 u.2.2.1 u.2.2.2) (wr := []) (z_runV (q0 := 1) (wc := (wX ad K sv I10 J10 B10 D10)) (As := [.int 61]) (rest := []) ⟨hx, hb, hml, hown, hts⟩ (w_Text_accept l G K ad sv I10 J10 B10 D10 61 _ H.size hok) zf_Text_accept zn_308 ⟨Nat.le_of_ble_eq_true rfl, Nat.le_of_ble_eq_true rfl⟩ hK hw (List.range 65) wX_all wX_nd wX_g1 rfl rfl hl.1 rfl (Nat.le_of_ble_eq_true rfl) zd_ModelReader_readDeclaration_81 ⟨Nat.le_of_ble_eq_true rfl, Nat.le_of_ble_eq_true rfl⟩) hw hA (List.range 65) [] wX_all rfl (by decide) (fun i hi => by cases hi) (fun r12 u H locs hok hw => ?_)
    obtain ⟨I12, J12, B12, D12⟩ := u
    dsimp only at hok
    have hw : zW G A s.heap (wX ad K sv I12 J12 B12 D12) H locs := hw
    refine lv_if_eq (tgt := 91) hx hb zd_ModelReader_readDeclaration_84 (by decide) (fun hc13 => ?_) (fun hc13 => ?_)
    · have hok := hok.1 hc13
      refine lv_iconst (v := 0) hx hb zd_ModelReader_readDeclaration_91 (by decide) ?_
      exact wJ_ModelReader_readDeclaration_92 G K ad sv  Post PX C x1 x2 0 I12 J12 B12 D12 ls H locs hok (lv_sub hl [0, 1, 2] rfl) hw
    · have hok := hok.2 hc13
      exact wJ_ModelReader_readDeclaration_87 G K ad sv  Post PX C x1 x2 I12 J12 B12 D12 ls H locs hok (lv_sub hl [0, 1, 2] rfl) hw
set_option maxHeartbeats 8000000 in
set_option maxRecDepth 100000 in
theorem wJ_ModelReader_readDeclaration_56 {p : Program} {l : Launch} {e : Env} {s : State} {m : MethodId} {below : List Frame} {meth : Method} {c : Code} {A : Nat → Prop} (G : va_G) (K : Nat → ClassId) (ad : Nat → Nat) (sv : Value) (Post : (Nat → Int32) → (Nat → Int64) → (Nat → Nat → Int32) → (Nat → Nat → Int64) → Prop) (PX : String → (Nat → Int32) → (Nat → Int64) → (Nat → Nat → Int32) → (Nat → Nat → Int64) → Prop) (C : zCy p l s m ([.ref (ad 5)] : List Value).toArray meth c A G K prog_5_method_3_code none 5 "LassoFinder$ModelReader") : ∀ (x1 : Int32) (x2 : Int32) (I : Nat → Int32) (J : Nat → Int64) (B : Nat → Nat → Int32) (D : Nat → Nat → Int64) (ls : Array Slot) (H : Heap) (locs : List Loc), wc_ModelReader_readDeclaration_56  Post PX x1 x2 I J B D → lv_has ls 5 [(0, .ref (ad 5)), (1, .int x1), (2, .int x2)] → zW G A s.heap (wX ad K sv I J B D) H locs → W p l e { frames := 8, cells := 1, slots := 6, locals := 122 } s m ([.ref (ad 5)] : List Value).toArray below meth c H locs 0 0 (zyMQ below (va_Qv (fun u : zS => Post u.1 u.2.1 u.2.2.1 u.2.2.2) (fun u t => zPost G K A (wX ad K sv u.1 u.2.1 u.2.2.1 u.2.2.2) t) A) (zYC (fun E (u : zS) => PX E u.1 u.2.1 u.2.2.1 u.2.2.2) (fun u => wX ad K sv u.1 u.2.1 u.2.2.1 u.2.2.2) G K A) ([.ref (ad 5)] : List Value).toArray s 1 6 A) (F0 m 56 ls []) := by
  obtain ⟨hx, hb, hr, hml, hts, hown, hlocks, hA, hK, hT, hnt, hlt⟩ := id C
  intro x1 x2 I J B D ls H locs hok hl hw
  unfold wc_ModelReader_readDeclaration_56 at hok
  refine lv_aload_n hx hb zd_ModelReader_readDeclaration_56 rfl (lv_at hl 0 rfl) ?_
  refine z_get (v := .ref (ad 1)) hx hb hts hown hK hw zZ4 5 wX_g5 0 (by decide) zn_366 rfl zd_ModelReader_readDeclaration_57 ?_
  refine z_yV (q0 := 1) (wc := (wX ad K sv I J B D)) (wr := []) (w1 := fun (u : zS) => wX ad K sv u.1 u.2.1 u.2.2.1 u.2.2.2) (As := []) (rest := []) ⟨hx, hb, hml, hown, hts⟩ (w_Text_refuse l hlt G K ad sv I J B D  _ _ H.size hok) zf_Text_refuse zn_312 ⟨Nat.le_of_ble_eq_true rfl, Nat.le_of_ble_eq_true rfl⟩ hK hT hw hA (List.range 65) [] wX_all rfl wX_nd (by decide) (fun i hi => by cases hi) wX_g1 rfl rfl hl.1 rfl (Nat.le_of_ble_eq_true rfl) zd_ModelReader_readDeclaration_60 ⟨Nat.le_of_ble_eq_true rfl, Nat.le_of_ble_eq_true rfl⟩ (fun v st9 t9 L9 h0 hq hL => ?_) (fun E ce q9 u H locs hu hw hce hcv hcl => z_yout (u := u) hnt hlocks hce hcv hcl hw (List.range 65) wX_all wX_nd hu (Nat.le_of_ble_eq_true rfl) (Nat.le_of_ble_eq_true rfl))
  obtain ⟨⟨u, hv9, hok, hB9⟩, hF9⟩ := hq
  cases hv9
  have hw := z_back (wr := []) hw hA (List.range 65) [] wX_all rfl (by decide) (fun i hi => by cases hi) h0 hL hB9 hF9
  obtain ⟨I14, J14, B14, D14⟩ := u
  dsimp only at hok
  generalize t9.heap = H at hw ⊢
  generalize locs ++ L9 = locs at hw ⊢
  have hw : zW G A s.heap (wX ad K sv I14 J14 B14 D14) H locs := hw
  refine W.eq (g2 := F0 m 63 ls []) rfl ?_
  exact wJ_ModelReader_readDeclaration_63 G K ad sv  Post PX C x1 x2 I14 J14 B14 D14 ls H locs hok (lv_sub hl [0, 1, 2] rfl) hw
set_option maxHeartbeats 8000000 in
set_option maxRecDepth 100000 in
theorem wJ_ModelReader_readDeclaration_17 {p : Program} {l : Launch} {e : Env} {s : State} {m : MethodId} {below : List Frame} {meth : Method} {c : Code} {A : Nat → Prop} (G : va_G) (K : Nat → ClassId) (ad : Nat → Nat) (sv : Value) (Post : (Nat → Int32) → (Nat → Int64) → (Nat → Nat → Int32) → (Nat → Nat → Int64) → Prop) (PX : String → (Nat → Int32) → (Nat → Int64) → (Nat → Nat → Int32) → (Nat → Nat → Int64) → Prop) (C : zCy p l s m ([.ref (ad 5)] : List Value).toArray meth c A G K prog_5_method_3_code none 5 "LassoFinder$ModelReader") : ∀ (y0 : Int32) (I : Nat → Int32) (J : Nat → Int64) (B : Nat → Nat → Int32) (D : Nat → Nat → Int64) (ls : Array Slot) (H : Heap) (locs : List Loc), wc_ModelReader_readDeclaration_17  Post PX y0 I J B D → lv_has ls 5 [(0, .ref (ad 5))] → zW G A s.heap (wX ad K sv I J B D) H locs → W p l e { frames := 8, cells := 1, slots := 6, locals := 122 } s m ([.ref (ad 5)] : List Value).toArray below meth c H locs 0 0 (zyMQ below (va_Qv (fun u : zS => Post u.1 u.2.1 u.2.2.1 u.2.2.2) (fun u t => zPost G K A (wX ad K sv u.1 u.2.1 u.2.2.1 u.2.2.2) t) A) (zYC (fun E (u : zS) => PX E u.1 u.2.1 u.2.2.1 u.2.2.2) (fun u => wX ad K sv u.1 u.2.1 u.2.2.1 u.2.2.2) G K A) ([.ref (ad 5)] : List Value).toArray s 1 6 A) (F0 m 17 ls [.int y0]) := by
  obtain ⟨hx, hb, hr, hml, hts, hown, hlocks, hA, hK, hT, hnt, hlt⟩ := id C
  intro y0 I J B D ls H locs hok hl hw
  unfold wc_ModelReader_readDeclaration_17 at hok
  refine lv_istore_n hx hb zd_ModelReader_readDeclaration_17 rfl hl (by decide) rfl (fun ls hl => ?_)
  have hl : lv_has ls 5 [(1, .int y0), (0, .ref (ad 5))] := hl
  refine lv_aload_n hx hb zd_ModelReader_readDeclaration_18 rfl (lv_at hl 1 rfl) ?_
  refine z_get (v := .ref (ad 1)) hx hb hts hown hK hw zZ4 5 wX_g5 0 (by decide) zn_366 rfl zd_ModelReader_readDeclaration_19 ?_
  refine lv_bipush (v := 97) hx hb zd_ModelReader_readDeclaration_22 (by decide) ?_
  refine z_calli (w1 := fun (u : zS) => wX ad K sv u.1 u.2.1 u.2.2.1 u.2.2.2) (wr := []) (z_runV (q0 := 1) (wc := (wX ad K sv I J B D)) (As := [.int 97]) (rest := []) ⟨hx, hb, hml, hown, hts⟩ (w_Text_oneOf l G K ad sv I J B D 97 _ H.size hok) zf_Text_oneOf zn_310 ⟨Nat.le_of_ble_eq_true rfl, Nat.le_of_ble_eq_true rfl⟩ hK hw (List.range 65) wX_all wX_nd wX_g1 rfl rfl hl.1 rfl (Nat.le_of_ble_eq_true rfl) zd_ModelReader_readDeclaration_24 ⟨Nat.le_of_ble_eq_true rfl, Nat.le_of_ble_eq_true rfl⟩) hw hA (List.range 65) [] wX_all rfl (by decide) (fun i hi => by cases hi) (fun r15 u H locs hok hw => ?_)
  obtain ⟨I15, J15, B15, D15⟩ := u
  dsimp only at hok
  have hw : zW G A s.heap (wX ad K sv I15 J15 B15 D15) H locs := hw
  refine lv_istore_n hx hb zd_ModelReader_readDeclaration_27 rfl hl (by decide) rfl (fun ls hl => ?_)
  have hl : lv_has ls 5 [(2, .int r15), (1, .int y0), (0, .ref (ad 5))] := hl
  refine lv_iload_n hx hb zd_ModelReader_readDeclaration_28 rfl (lv_at hl 0 rfl) ?_
  refine lv_iconst (v := (-1)) hx hb zd_ModelReader_readDeclaration_29 (by decide) ?_
  refine lv_icmp_eq (tgt := 56) hx hb zd_ModelReader_readDeclaration_30 (by decide) (fun hc16 => ?_) (fun hc16 => ?_)
  · have hok := hok.1 hc16
    exact wJ_ModelReader_readDeclaration_56 G K ad sv  Post PX C y0 r15 I15 J15 B15 D15 ls H locs hok (lv_sub hl [2, 1, 0] rfl) hw
  · have hok := hok.2 hc16
    refine lv_aload_n hx hb zd_ModelReader_readDeclaration_33 rfl (lv_at hl 2 rfl) ?_
    refine z_get (v := .ref (ad 2)) hx hb hts hown hK hw zZ4 5 wX_g5 1 (by decide) zn_363 rfl zd_ModelReader_readDeclaration_34 ?_
    refine z_get (v := .ref (ad 14)) hx hb hts hown hK hw zZ5 2 wX_g2 0 (by decide) zn_388 rfl zd_ModelReader_readDeclaration_37 ?_
    refine lv_iload_n hx hb zd_ModelReader_readDeclaration_40 rfl (lv_at hl 0 rfl) ?_
    refine va_iald (f := (B15 2)) hx hb hK hw.1 14 0 wX_a14 rfl hok.1 zd_ModelReader_readDeclaration_41 ?_
    have hok := hok.2
    refine lv_topi (fun z17 ez17 => ?_)
    have hok := hok z17 ez17
    refine lv_if_ne (tgt := 56) hx hb zd_ModelReader_readDeclaration_42 (by decide) (fun hc18 => ?_) (fun hc18 => ?_)
    · have hok := hok.1 hc18
      exact wJ_ModelReader_readDeclaration_56 G K ad sv  Post PX C y0 r15 I15 J15 B15 D15 ls H locs hok (lv_sub hl [2, 1, 0] rfl) hw
    · have hok := hok.2 hc18
      refine lv_aload_n hx hb zd_ModelReader_readDeclaration_45 rfl (lv_at hl 2 rfl) ?_
      refine z_get (v := .ref (ad 2)) hx hb hts hown hK hw zZ4 5 wX_g5 1 (by decide) zn_363 rfl zd_ModelReader_readDeclaration_46 ?_
      refine lv_iload_n hx hb zd_ModelReader_readDeclaration_49 rfl (lv_at hl 1 rfl) ?_
      refine z_calli (w1 := fun (u : zS) => wX ad K sv u.1 u.2.1 u.2.2.1 u.2.2.2) (wr := []) (z_runV (q0 := 2) (wc := (wX ad K sv I15 J15 B15 D15)) (As := [.int y0]) (rest := []) ⟨hx, hb, hml, hown, hts⟩ (w_Names_hasRoom l G K ad sv I15 J15 B15 D15 y0 _ H.size hok) zf_Names_hasRoom zn_311 ⟨Nat.le_of_ble_eq_true rfl, Nat.le_of_ble_eq_true rfl⟩ hK hw (List.range 65) wX_all wX_nd wX_g2 rfl rfl hl.1 rfl (Nat.le_of_ble_eq_true rfl) zd_ModelReader_readDeclaration_50 ⟨Nat.le_of_ble_eq_true rfl, Nat.le_of_ble_eq_true rfl⟩) hw hA (List.range 65) [] wX_all rfl (by decide) (fun i hi => by cases hi) (fun r19 u H locs hok hw => ?_)
      obtain ⟨I19, J19, B19, D19⟩ := u
      dsimp only at hok
      have hw : zW G A s.heap (wX ad K sv I19 J19 B19 D19) H locs := hw
      refine lv_if_ne (tgt := 63) hx hb zd_ModelReader_readDeclaration_53 (by decide) (fun hc20 => ?_) (fun hc20 => ?_)
      · have hok := hok.1 hc20
        exact wJ_ModelReader_readDeclaration_63 G K ad sv  Post PX C y0 r15 I19 J19 B19 D19 ls H locs hok (lv_sub hl [2, 1, 0] rfl) hw
      · have hok := hok.2 hc20
        exact wJ_ModelReader_readDeclaration_56 G K ad sv  Post PX C y0 r15 I19 J19 B19 D19 ls H locs hok (lv_sub hl [2, 1, 0] rfl) hw
set_option maxHeartbeats 8000000 in
set_option maxRecDepth 100000 in
theorem w_ModelReader_readDeclaration (l : Launch) (hlt : l.stackTraces = false) (G : va_G) (K : Nat → ClassId) (ad : Nat → Nat) (sv : Value) (I : Nat → Int32) (J : Nat → Int64) (B : Nat → Nat → Int32) (D : Nat → Nat → Int64) (Post : (Nat → Int32) → (Nat → Int64) → (Nat → Nat → Int32) → (Nat → Nat → Int64) → Prop) (PX : String → (Nat → Int32) → (Nat → Int64) → (Nat → Nat → Int32) → (Nat → Nat → Int64) → Prop) (sz : Nat) (hok : wp_ModelReader_readDeclaration I J B D  Post PX) : zyMet l zy_ModelReader_readDeclaration (Cond.code zy_ModelReader_readDeclaration prog_5_method_3_code 5 none :: zTB) { frames := 8, cells := 1, slots := 6, locals := 122 } (va_Pc [.ref (ad 5)] (zPreX G K (wX ad K sv I J B D) sz)) (va_Qv (fun u : zS => Post u.1 u.2.1 u.2.2.1 u.2.2.2) (fun u t => zPost G K (va_A (wX ad K sv I J B D) sz) (wX ad K sv u.1 u.2.1 u.2.2.1 u.2.2.2) t) (va_A (wX ad K sv I J B D) sz)) (zYC (fun E (u : zS) => PX E u.1 u.2.1 u.2.2.1 u.2.2.2) (fun u => wX ad K sv u.1 u.2.1 u.2.2.1 u.2.2.2) G K (va_A (wX ad K sv I J B D) sz)) 1 6 (va_A (wX ad K sv I J B D) sz) := by
  refine zMetY (y := zy_ModelReader_readDeclaration) (av := [.ref (ad 5)]) (maxL := 5) (cc := prog_5_method_3_code) (ret := none) (W0 := (wX ad K sv I J B D)) (sz := sz) (G := G) (K := K) (wt := zTB) (mc := 1) (ms := 6) (Qf := fun A => va_Qv (fun u : zS => Post u.1 u.2.1 u.2.2.1 u.2.2.2) (fun u t => zPost G K A (wX ad K sv u.1 u.2.1 u.2.2.1 u.2.2.2) t) A) (Xf := fun A => (zYC (fun E (u : zS) => PX E u.1 u.2.1 u.2.2.1 u.2.2.2) (fun u => wX ad K sv u.1 u.2.1 u.2.2.1 u.2.2.2) G K A)) (by decide) (Nat.le_of_ble_eq_true rfl) ?_
  intro p e s m below meth c ls A hx hb hr hml hts hown hlocks hin hA hK H locs hw hsz hl hT hnt
  clear hsz
  have hown : s.vm.findClass "LassoFinder$ModelReader" = some m.cls := hown
  have C : zCy p l s m ([.ref (ad 5)] : List Value).toArray meth c A G K prog_5_method_3_code none 5 "LassoFinder$ModelReader" := ⟨hx, hb, hr, hml, hts, hown, hlocks, hA, hK, hT, hnt, hlt⟩
  have hl : lv_has ls 5 [(0, .ref (ad 5))] := hl
  have hw : zW G A s.heap (wX ad K sv I J B D) H locs := hw
  unfold wp_ModelReader_readDeclaration at hok
  refine lv_aload_n hx hb zd_ModelReader_readDeclaration_0 rfl (lv_at hl 0 rfl) ?_
  refine z_get (v := .ref (ad 1)) hx hb hts hown hK hw zZ4 5 wX_g5 0 (by decide) zn_366 rfl zd_ModelReader_readDeclaration_1 ?_
  refine lv_bipush (v := 35) hx hb zd_ModelReader_readDeclaration_4 (by decide) ?_
  refine z_calli (w1 := fun (u : zS) => wX ad K sv u.1 u.2.1 u.2.2.1 u.2.2.2) (wr := []) (z_runV (q0 := 1) (wc := (wX ad K sv I J B D)) (As := [.int 35]) (rest := []) ⟨hx, hb, hml, hown, hts⟩ (w_Text_accept l G K ad sv I J B D 35 _ H.size hok) zf_Text_accept zn_308 ⟨Nat.le_of_ble_eq_true rfl, Nat.le_of_ble_eq_true rfl⟩ hK hw (List.range 65) wX_all wX_nd wX_g1 rfl rfl hl.1 rfl (Nat.le_of_ble_eq_true rfl) zd_ModelReader_readDeclaration_6 ⟨Nat.le_of_ble_eq_true rfl, Nat.le_of_ble_eq_true rfl⟩) hw hA (List.range 65) [] wX_all rfl (by decide) (fun i hi => by cases hi) (fun r21 u H locs hok hw => ?_)
  obtain ⟨I21, J21, B21, D21⟩ := u
  dsimp only at hok
  have hw : zW G A s.heap (wX ad K sv I21 J21 B21 D21) H locs := hw
  refine lv_if_eq (tgt := 16) hx hb zd_ModelReader_readDeclaration_9 (by decide) (fun hc22 => ?_) (fun hc22 => ?_)
  · have hok := hok.1 hc22
    refine lv_iconst (v := 1) hx hb zd_ModelReader_readDeclaration_16 (by decide) ?_
    exact wJ_ModelReader_readDeclaration_17 G K ad sv  Post PX C 1 I21 J21 B21 D21 ls H locs hok (lv_sub hl [0] rfl) hw
  · have hok := hok.2 hc22
    refine lv_iconst (v := 2) hx hb zd_ModelReader_readDeclaration_12 (by decide) ?_
    refine lv_goto (tgt := 17) hx hb zd_ModelReader_readDeclaration_13 (by decide) ?_
    exact wJ_ModelReader_readDeclaration_17 G K ad sv  Post PX C 2 I21 J21 B21 D21 ls H locs hok (lv_sub hl [0] rfl) hw
def wc_Text_ended_16 (Post : Int32 → (Nat → Int32) → (Nat → Int64) → (Nat → Nat → Int32) → (Nat → Nat → Int64) → Prop) (y0 : Int32) (I : Nat → Int32) (J : Nat → Int64) (B : Nat → Nat → Int32) (D : Nat → Nat → Int64) : Prop :=
  (y0 = 0 ∨ y0 = 1) ∧ Post y0 I J B D
def wp_Text_ended (I : Nat → Int32) (J : Nat → Int64) (B : Nat → Nat → Int32) (D : Nat → Nat → Int64) (Post : Int32 → (Nat → Int32) → (Nat → Int64) → (Nat → Nat → Int32) → (Nat → Nat → Int64) → Prop) : Prop :=
  (((I 5) < (I 4) → wc_Text_ended_16  Post 0 I J B D) ∧ (¬ (I 5) < (I 4) → wc_Text_ended_16  Post 1 I J B D))
set_option maxHeartbeats 8000000 in
set_option maxRecDepth 100000 in
theorem wJ_Text_ended_16 {p : Program} {l : Launch} {e : Env} {s : State} {m : MethodId} {below : List Frame} {meth : Method} {c : Code} {A : Nat → Prop} (G : va_G) (K : Nat → ClassId) (ad : Nat → Nat) (sv : Value) (Post : Int32 → (Nat → Int32) → (Nat → Int64) → (Nat → Nat → Int32) → (Nat → Nat → Int64) → Prop) (C : zCx p s m ([.ref (ad 1)] : List Value).toArray meth c A G K prog_10_method_4_code (some .boolean) 1 "LassoFinder$Text") : ∀ (y0 : Int32) (I : Nat → Int32) (J : Nat → Int64) (B : Nat → Nat → Int32) (D : Nat → Nat → Int64) (ls : Array Slot) (H : Heap) (locs : List Loc), wc_Text_ended_16  Post y0 I J B D → lv_has ls 1 [] → zW G A s.heap (wX ad K sv I J B D) H locs → W p l e { frames := 0, cells := 0, slots := 0, locals := 0 } s m ([.ref (ad 1)] : List Value).toArray below meth c H locs 0 0 (MQ below (va_Qi (fun (r : Int32) (u : zS) => Post r u.1 u.2.1 u.2.2.1 u.2.2.2) (fun u t => zPost G K A (wX ad K sv u.1 u.2.1 u.2.2.1 u.2.2.2) t) A) ([.ref (ad 1)] : List Value).toArray s 0 0 A) (F0 m 16 ls [.int y0]) := by
  obtain ⟨hx, hb, hr, hml, hts, hown, hlocks, hA, hK⟩ := id C
  intro y0 I J B D ls H locs hok hl hw
  unfold wc_Text_ended_16 at hok
  have hbo := hok.1
  have hok := hok.2
  exact (z_iret (u := (I, J, B, D)) hx hb hr hlocks (z_nar hbo) hw (List.range 65) wX_all wX_nd hok (Nat.le_of_ble_eq_true rfl) (Nat.le_of_ble_eq_true rfl) zd_Text_ended_16)
set_option maxHeartbeats 8000000 in
set_option maxRecDepth 100000 in
theorem w_Text_ended (l : Launch) (G : va_G) (K : Nat → ClassId) (ad : Nat → Nat) (sv : Value) (I : Nat → Int32) (J : Nat → Int64) (B : Nat → Nat → Int32) (D : Nat → Nat → Int64) (Post : Int32 → (Nat → Int32) → (Nat → Int64) → (Nat → Nat → Int32) → (Nat → Nat → Int64) → Prop) (sz : Nat) (hok : wp_Text_ended I J B D  Post) : Met l zy_Text_ended (Cond.code zy_Text_ended prog_10_method_4_code 1 (some .boolean) :: zTB) { frames := 0, cells := 0, slots := 0, locals := 0 } (va_Pc [.ref (ad 1)] (zPre G K (wX ad K sv I J B D) sz)) (va_Qi (fun (r : Int32) (u : zS) => Post r u.1 u.2.1 u.2.2.1 u.2.2.2) (fun u t => zPost G K (va_A (wX ad K sv I J B D) sz) (wX ad K sv u.1 u.2.1 u.2.2.1 u.2.2.2) t) (va_A (wX ad K sv I J B D) sz)) 0 0 (va_A (wX ad K sv I J B D) sz) := by
  refine zMet (y := zy_Text_ended) (av := [.ref (ad 1)]) (maxL := 1) (cc := prog_10_method_4_code) (ret := (some .boolean)) (W0 := (wX ad K sv I J B D)) (sz := sz) (G := G) (K := K) (wt := zTB) (mc := 0) (ms := 0) (Qf := fun A => va_Qi (fun (r : Int32) (u : zS) => Post r u.1 u.2.1 u.2.2.1 u.2.2.2) (fun u t => zPost G K A (wX ad K sv u.1 u.2.1 u.2.2.1 u.2.2.2) t) A) (by decide) (Nat.le_of_ble_eq_true rfl) ?_
  intro p e s m below meth c ls A hx hb hr hml hts hown hlocks hin hA hK H locs hw hsz hl
  clear hsz
  have hown : s.vm.findClass "LassoFinder$Text" = some m.cls := hown
  have C : zCx p s m ([.ref (ad 1)] : List Value).toArray meth c A G K prog_10_method_4_code (some .boolean) 1 "LassoFinder$Text" := ⟨hx, hb, hr, hml, hts, hown, hlocks, hA, hK⟩
  have hl : lv_has ls 1 [(0, .ref (ad 1))] := hl
  have hw : zW G A s.heap (wX ad K sv I J B D) H locs := hw
  unfold wp_Text_ended at hok
  refine lv_aload_n hx hb zd_Text_ended_0 rfl (lv_at hl 0 rfl) ?_
  refine z_get (v := .int (I 5)) hx hb hts hown hK hw zZ9 1 wX_g1 3 (by decide) zn_298 rfl zd_Text_ended_1 ?_
  refine lv_aload_n hx hb zd_Text_ended_4 rfl (lv_at hl 0 rfl) ?_
  refine z_get (v := .int (I 4)) hx hb hts hown hK hw zZ9 1 wX_g1 2 (by decide) zn_297 rfl zd_Text_ended_5 ?_
  refine lv_icmp_lt (tgt := 15) hx hb zd_Text_ended_8 (by decide) (fun hc1 => ?_) (fun hc1 => ?_)
  · have hok := hok.1 hc1
    refine lv_iconst (v := 0) hx hb zd_Text_ended_15 (by decide) ?_
    exact wJ_Text_ended_16 G K ad sv  Post C 0 I J B D ls H locs hok (lv_sub hl [] rfl) hw
  · have hok := hok.2 hc1
    refine lv_iconst (v := 1) hx hb zd_Text_ended_11 (by decide) ?_
    refine lv_goto (tgt := 16) hx hb zd_Text_ended_12 (by decide) ?_
    exact wJ_Text_ended_16 G K ad sv  Post C 1 I J B D ls H locs hok (lv_sub hl [] rfl) hw
def wc_ModelReader_leadsInside_15 (a0 : Int32) (a1 : Int32) (Post : Int32 → (Nat → Int32) → (Nat → Int64) → (Nat → Nat → Int32) → (Nat → Nat → Int64) → Prop) (y0 : Int32) (I : Nat → Int32) (J : Nat → Int64) (B : Nat → Nat → Int32) (D : Nat → Nat → Int64) : Prop :=
  (y0 = 0 ∨ y0 = 1) ∧ Post y0 I J B D
def wc_ModelReader_leadsInside_14 (a0 : Int32) (a1 : Int32) (Post : Int32 → (Nat → Int32) → (Nat → Int64) → (Nat → Nat → Int32) → (Nat → Nat → Int64) → Prop)  (I : Nat → Int32) (J : Nat → Int64) (B : Nat → Nat → Int32) (D : Nat → Nat → Int64) : Prop :=
  wc_ModelReader_leadsInside_15 a0 a1 Post 0 I J B D
def wp_ModelReader_leadsInside (I : Nat → Int32) (J : Nat → Int64) (B : Nat → Nat → Int32) (D : Nat → Nat → Int64) (a0 : Int32) (a1 : Int32) (Post : Int32 → (Nat → Int32) → (Nat → Int64) → (Nat → Nat → Int32) → (Nat → Nat → Int64) → Prop) : Prop :=
  ((a0 = (-1) → wc_ModelReader_leadsInside_14 a0 a1 Post I J B D) ∧ (¬ a0 = (-1) → ((¬ a1 = (-1) → wc_ModelReader_leadsInside_14 a0 a1 Post I J B D) ∧ (a1 = (-1) → wc_ModelReader_leadsInside_15 a0 a1 Post 1 I J B D))))
set_option maxHeartbeats 8000000 in
set_option maxRecDepth 100000 in
theorem wJ_ModelReader_leadsInside_15 {p : Program} {l : Launch} {e : Env} {s : State} {m : MethodId} {below : List Frame} {meth : Method} {c : Code} {A : Nat → Prop} (G : va_G) (K : Nat → ClassId) (ad : Nat → Nat) (sv : Value) (a0 : Int32) (a1 : Int32) (Post : Int32 → (Nat → Int32) → (Nat → Int64) → (Nat → Nat → Int32) → (Nat → Nat → Int64) → Prop) (C : zCx p s m ([.int a0, .int a1] : List Value).toArray meth c A G K prog_5_method_13_code (some .boolean) 2 "LassoFinder$ModelReader") : ∀ (y0 : Int32) (I : Nat → Int32) (J : Nat → Int64) (B : Nat → Nat → Int32) (D : Nat → Nat → Int64) (ls : Array Slot) (H : Heap) (locs : List Loc), wc_ModelReader_leadsInside_15 a0 a1 Post y0 I J B D → lv_has ls 2 [] → zW G A s.heap (wX ad K sv I J B D) H locs → W p l e { frames := 0, cells := 0, slots := 0, locals := 0 } s m ([.int a0, .int a1] : List Value).toArray below meth c H locs 0 0 (MQ below (va_Qi (fun (r : Int32) (u : zS) => Post r u.1 u.2.1 u.2.2.1 u.2.2.2) (fun u t => zPost G K A (wX ad K sv u.1 u.2.1 u.2.2.1 u.2.2.2) t) A) ([.int a0, .int a1] : List Value).toArray s 0 0 A) (F0 m 15 ls [.int y0]) := by
  obtain ⟨hx, hb, hr, hml, hts, hown, hlocks, hA, hK⟩ := id C
  intro y0 I J B D ls H locs hok hl hw
  unfold wc_ModelReader_leadsInside_15 at hok
  have hbo := hok.1
  have hok := hok.2
  exact (z_iret (u := (I, J, B, D)) hx hb hr hlocks (z_nar hbo) hw (List.range 65) wX_all wX_nd hok (Nat.le_of_ble_eq_true rfl) (Nat.le_of_ble_eq_true rfl) zd_ModelReader_leadsInside_15)
set_option maxHeartbeats 8000000 in
set_option maxRecDepth 100000 in
theorem wJ_ModelReader_leadsInside_14 {p : Program} {l : Launch} {e : Env} {s : State} {m : MethodId} {below : List Frame} {meth : Method} {c : Code} {A : Nat → Prop} (G : va_G) (K : Nat → ClassId) (ad : Nat → Nat) (sv : Value) (a0 : Int32) (a1 : Int32) (Post : Int32 → (Nat → Int32) → (Nat → Int64) → (Nat → Nat → Int32) → (Nat → Nat → Int64) → Prop) (C : zCx p s m ([.int a0, .int a1] : List Value).toArray meth c A G K prog_5_method_13_code (some .boolean) 2 "LassoFinder$ModelReader") : ∀  (I : Nat → Int32) (J : Nat → Int64) (B : Nat → Nat → Int32) (D : Nat → Nat → Int64) (ls : Array Slot) (H : Heap) (locs : List Loc), wc_ModelReader_leadsInside_14 a0 a1 Post  I J B D → lv_has ls 2 [] → zW G A s.heap (wX ad K sv I J B D) H locs → W p l e { frames := 0, cells := 0, slots := 0, locals := 0 } s m ([.int a0, .int a1] : List Value).toArray below meth c H locs 0 0 (MQ below (va_Qi (fun (r : Int32) (u : zS) => Post r u.1 u.2.1 u.2.2.1 u.2.2.2) (fun u t => zPost G K A (wX ad K sv u.1 u.2.1 u.2.2.1 u.2.2.2) t) A) ([.int a0, .int a1] : List Value).toArray s 0 0 A) (F0 m 14 ls []) := by
  obtain ⟨hx, hb, hr, hml, hts, hown, hlocks, hA, hK⟩ := id C
  intro  I J B D ls H locs hok hl hw
  unfold wc_ModelReader_leadsInside_14 at hok
  refine lv_iconst (v := 0) hx hb zd_ModelReader_leadsInside_14 (by decide) ?_
  exact wJ_ModelReader_leadsInside_15 G K ad sv a0 a1 Post C 0 I J B D ls H locs hok (lv_sub hl [] rfl) hw
set_option maxHeartbeats 8000000 in
set_option maxRecDepth 100000 in
theorem w_ModelReader_leadsInside (l : Launch) (G : va_G) (K : Nat → ClassId) (ad : Nat → Nat) (sv : Value) (I : Nat → Int32) (J : Nat → Int64) (B : Nat → Nat → Int32) (D : Nat → Nat → Int64) (a0 : Int32) (a1 : Int32) (Post : Int32 → (Nat → Int32) → (Nat → Int64) → (Nat → Nat → Int32) → (Nat → Nat → Int64) → Prop) (sz : Nat) (hok : wp_ModelReader_leadsInside I J B D a0 a1 Post) : Met l zy_ModelReader_leadsInside (Cond.code zy_ModelReader_leadsInside prog_5_method_13_code 2 (some .boolean) :: zTB) { frames := 0, cells := 0, slots := 0, locals := 0 } (va_Pc [.int a0, .int a1] (zPre G K (wX ad K sv I J B D) sz)) (va_Qi (fun (r : Int32) (u : zS) => Post r u.1 u.2.1 u.2.2.1 u.2.2.2) (fun u t => zPost G K (va_A (wX ad K sv I J B D) sz) (wX ad K sv u.1 u.2.1 u.2.2.1 u.2.2.2) t) (va_A (wX ad K sv I J B D) sz)) 0 0 (va_A (wX ad K sv I J B D) sz) := by
  refine zMet (y := zy_ModelReader_leadsInside) (av := [.int a0, .int a1]) (maxL := 2) (cc := prog_5_method_13_code) (ret := (some .boolean)) (W0 := (wX ad K sv I J B D)) (sz := sz) (G := G) (K := K) (wt := zTB) (mc := 0) (ms := 0) (Qf := fun A => va_Qi (fun (r : Int32) (u : zS) => Post r u.1 u.2.1 u.2.2.1 u.2.2.2) (fun u t => zPost G K A (wX ad K sv u.1 u.2.1 u.2.2.1 u.2.2.2) t) A) (by decide) (Nat.le_of_ble_eq_true rfl) ?_
  intro p e s m below meth c ls A hx hb hr hml hts hown hlocks hin hA hK H locs hw hsz hl
  clear hsz
  have hown : s.vm.findClass "LassoFinder$ModelReader" = some m.cls := hown
  have C : zCx p s m ([.int a0, .int a1] : List Value).toArray meth c A G K prog_5_method_13_code (some .boolean) 2 "LassoFinder$ModelReader" := ⟨hx, hb, hr, hml, hts, hown, hlocks, hA, hK⟩
  have hl : lv_has ls 2 [(0, .int a0), (1, .int a1)] := hl
  have hw : zW G A s.heap (wX ad K sv I J B D) H locs := hw
  unfold wp_ModelReader_leadsInside at hok
  refine lv_iload_n hx hb zd_ModelReader_leadsInside_0 rfl (lv_at hl 0 rfl) ?_
  refine lv_iconst (v := (-1)) hx hb zd_ModelReader_leadsInside_1 (by decide) ?_
  refine lv_icmp_eq (tgt := 14) hx hb zd_ModelReader_leadsInside_2 (by decide) (fun hc1 => ?_) (fun hc1 => ?_)
  · have hok := hok.1 hc1
    exact wJ_ModelReader_leadsInside_14 G K ad sv a0 a1 Post C I J B D ls H locs hok (lv_sub hl [] rfl) hw
  · have hok := hok.2 hc1
    refine lv_iload_n hx hb zd_ModelReader_leadsInside_5 rfl (lv_at hl 1 rfl) ?_
    refine lv_iconst (v := (-1)) hx hb zd_ModelReader_leadsInside_6 (by decide) ?_
    refine lv_icmp_ne (tgt := 14) hx hb zd_ModelReader_leadsInside_7 (by decide) (fun hc2 => ?_) (fun hc2 => ?_)
    · have hok := hok.1 hc2
      exact wJ_ModelReader_leadsInside_14 G K ad sv a0 a1 Post C I J B D ls H locs hok (lv_sub hl [] rfl) hw
    · have hok := hok.2 hc2
      refine lv_iconst (v := 1) hx hb zd_ModelReader_leadsInside_10 (by decide) ?_
      refine lv_goto (tgt := 15) hx hb zd_ModelReader_leadsInside_11 (by decide) ?_
      exact wJ_ModelReader_leadsInside_15 G K ad sv a0 a1 Post C 1 I J B D ls H locs hok (lv_sub hl [] rfl) hw
def wc_ModelReader_readBreak_27 (a0 : Int32) (a1 : Int32) (Post : Int32 → (Nat → Int32) → (Nat → Int64) → (Nat → Nat → Int32) → (Nat → Nat → Int64) → Prop) (PX : String → (Nat → Int32) → (Nat → Int64) → (Nat → Nat → Int32) → (Nat → Nat → Int64) → Prop) (x1 : Int32) (x2 : Int32) (I : Nat → Int32) (J : Nat → Int64) (B : Nat → Nat → Int32) (D : Nat → Nat → Int64) : Prop :=
  wp_Text_skip I J B D  (fun I1 J1 B1 D1 => wp_Tree_add I1 J1 B1 D1 4 x1 x2 (fun r2 I2 J2 B2 D2 => Post r2 I2 J2 B2 D2))
def wc_ModelReader_readBreak_20 (a0 : Int32) (a1 : Int32) (Post : Int32 → (Nat → Int32) → (Nat → Int64) → (Nat → Nat → Int32) → (Nat → Nat → Int64) → Prop) (PX : String → (Nat → Int32) → (Nat → Int64) → (Nat → Nat → Int32) → (Nat → Nat → Int64) → Prop) (x1 : Int32) (x2 : Int32) (I : Nat → Int32) (J : Nat → Int64) (B : Nat → Nat → Int32) (D : Nat → Nat → Int64) : Prop :=
  wp_Text_refuse I J B D  (fun I3 J3 B3 D3 => wc_ModelReader_readBreak_27 a0 a1 Post PX x1 x2 I3 J3 B3 D3) PX
def wp_ModelReader_readBreak (I : Nat → Int32) (J : Nat → Int64) (B : Nat → Nat → Int32) (D : Nat → Nat → Int64) (a0 : Int32) (a1 : Int32) (Post : Int32 → (Nat → Int32) → (Nat → Int64) → (Nat → Nat → Int32) → (Nat → Nat → Int64) → Prop) (PX : String → (Nat → Int32) → (Nat → Int64) → (Nat → Nat → Int32) → (Nat → Nat → Int64) → Prop) : Prop :=
  wp_ModelReader_leadsInside I J B D a0 a1 (fun r4 I4 J4 B4 D4 => ((¬ r4 = 0 → wc_ModelReader_readBreak_20 a0 a1 Post PX a0 a1 I4 J4 B4 D4) ∧ (r4 = 0 → wp_Tree_loopInside I4 J4 B4 D4 a0 (fun r6 I6 J6 B6 D6 => ((¬ r6 = (-1) → wc_ModelReader_readBreak_27 a0 a1 Post PX a0 a1 I6 J6 B6 D6) ∧ (r6 = (-1) → wc_ModelReader_readBreak_20 a0 a1 Post PX a0 a1 I6 J6 B6 D6))))))
set_option maxHeartbeats 8000000 in
set_option maxRecDepth 100000 in
theorem wJ_ModelReader_readBreak_27 {p : Program} {l : Launch} {e : Env} {s : State} {m : MethodId} {below : List Frame} {meth : Method} {c : Code} {A : Nat → Prop} (G : va_G) (K : Nat → ClassId) (ad : Nat → Nat) (sv : Value) (a0 : Int32) (a1 : Int32) (Post : Int32 → (Nat → Int32) → (Nat → Int64) → (Nat → Nat → Int32) → (Nat → Nat → Int64) → Prop) (PX : String → (Nat → Int32) → (Nat → Int64) → (Nat → Nat → Int32) → (Nat → Nat → Int64) → Prop) (C : zCy p l s m ([.ref (ad 5), .int a0, .int a1] : List Value).toArray meth c A G K prog_5_method_11_code (some .int) 3 "LassoFinder$ModelReader") : ∀ (x1 : Int32) (x2 : Int32) (I : Nat → Int32) (J : Nat → Int64) (B : Nat → Nat → Int32) (D : Nat → Nat → Int64) (ls : Array Slot) (H : Heap) (locs : List Loc), wc_ModelReader_readBreak_27 a0 a1 Post PX x1 x2 I J B D → lv_has ls 3 [(0, .ref (ad 5)), (1, .int x1), (2, .int x2)] → zW G A s.heap (wX ad K sv I J B D) H locs → W p l e { frames := 7, cells := 1, slots := 6, locals := 101 } s m ([.ref (ad 5), .int a0, .int a1] : List Value).toArray below meth c H locs 0 0 (zyMQ below (va_Qi (fun (r : Int32) (u : zS) => Post r u.1 u.2.1 u.2.2.1 u.2.2.2) (fun u t => zPost G K A (wX ad K sv u.1 u.2.1 u.2.2.1 u.2.2.2) t) A) (zYC (fun E (u : zS) => PX E u.1 u.2.1 u.2.2.1 u.2.2.2) (fun u => wX ad K sv u.1 u.2.1 u.2.2.1 u.2.2.2) G K A) ([.ref (ad 5), .int a0, .int a1] : List Value).toArray s 1 6 A) (F0 m 27 ls []) := by
  obtain ⟨hx, hb, hr, hml, hts, hown, hlocks, hA, hK, hT, hnt, hlt⟩ := id C
  intro x1 x2 I J B D ls H locs hok hl hw
  unfold wc_ModelReader_readBreak_27 at hok
  refine lv_aload_n hx hb zd_ModelReader_readBreak_27 rfl (lv_at hl 0 rfl) ?_
  refine z_get (v := .ref (ad 1)) hx hb hts hown hK hw zZ4 5 wX_g5 0 (by decide) zn_366 rfl zd_ModelReader_readBreak_28 ?_
  refine z_callv (w1 := fun (u : zS) => wX ad K sv u.1 u.2.1 u.2.2.1 u.2.2.2) (wr := []) (z_runV (q0 := 1) (wc := (wX ad K sv I J B D)) (As := []) (rest := []) ⟨hx, hb, hml, hown, hts⟩ (w_Text_skip l G K ad sv I J B D  _ H.size hok) zf_Text_skip zn_314 ⟨Nat.le_of_ble_eq_true rfl, Nat.le_of_ble_eq_true rfl⟩ hK hw (List.range 65) wX_all wX_nd wX_g1 rfl rfl hl.1 rfl (Nat.le_of_ble_eq_true rfl) zd_ModelReader_readBreak_31 ⟨Nat.le_of_ble_eq_true rfl, Nat.le_of_ble_eq_true rfl⟩) hw hA (List.range 65) [] wX_all rfl (by decide) (fun i hi => by cases hi) (fun u H locs hok hw => ?_)
  obtain ⟨I1, J1, B1, D1⟩ := u
  dsimp only at hok
  have hw : zW G A s.heap (wX ad K sv I1 J1 B1 D1) H locs := hw
  refine lv_aload_n hx hb zd_ModelReader_readBreak_34 rfl (lv_at hl 0 rfl) ?_
  refine z_get (v := .ref (ad 6)) hx hb hts hown hK hw zZ4 5 wX_g5 4 (by decide) zn_368 rfl zd_ModelReader_readBreak_35 ?_
  refine lv_iconst (v := 4) hx hb zd_ModelReader_readBreak_38 (by decide) ?_
  refine lv_iload_n hx hb zd_ModelReader_readBreak_39 rfl (lv_at hl 1 rfl) ?_
  refine lv_iload_n hx hb zd_ModelReader_readBreak_40 rfl (lv_at hl 2 rfl) ?_
  refine z_calli (w1 := fun (u : zS) => wX ad K sv u.1 u.2.1 u.2.2.1 u.2.2.2) (wr := []) (z_runV (q0 := 6) (wc := (wX ad K sv I1 J1 B1 D1)) (As := [.int 4, .int x1, .int x2]) (rest := []) ⟨hx, hb, hml, hown, hts⟩ (w_Tree_add l G K ad sv I1 J1 B1 D1 4 x1 x2 _ H.size hok) zf_Tree_add zn_326 ⟨Nat.le_of_ble_eq_true rfl, Nat.le_of_ble_eq_true rfl⟩ hK hw (List.range 65) wX_all wX_nd wX_g6 rfl rfl hl.1 rfl (Nat.le_of_ble_eq_true rfl) zd_ModelReader_readBreak_41 ⟨Nat.le_of_ble_eq_true rfl, Nat.le_of_ble_eq_true rfl⟩) hw hA (List.range 65) [] wX_all rfl (by decide) (fun i hi => by cases hi) (fun r2 u H locs hok hw => ?_)
  obtain ⟨I2, J2, B2, D2⟩ := u
  dsimp only at hok
  have hw : zW G A s.heap (wX ad K sv I2 J2 B2 D2) H locs := hw
  exact zy_ret (z_iret (u := (I2, J2, B2, D2)) hx hb hr hlocks rfl hw (List.range 65) wX_all wX_nd hok (Nat.le_of_ble_eq_true rfl) (Nat.le_of_ble_eq_true rfl) zd_ModelReader_readBreak_44)
set_option maxHeartbeats 8000000 in
set_option maxRecDepth 100000 in
theorem wJ_ModelReader_readBreak_20 {p : Program} {l : Launch} {e : Env} {s : State} {m : MethodId} {below : List Frame} {meth : Method} {c : Code} {A : Nat → Prop} (G : va_G) (K : Nat → ClassId) (ad : Nat → Nat) (sv : Value) (a0 : Int32) (a1 : Int32) (Post : Int32 → (Nat → Int32) → (Nat → Int64) → (Nat → Nat → Int32) → (Nat → Nat → Int64) → Prop) (PX : String → (Nat → Int32) → (Nat → Int64) → (Nat → Nat → Int32) → (Nat → Nat → Int64) → Prop) (C : zCy p l s m ([.ref (ad 5), .int a0, .int a1] : List Value).toArray meth c A G K prog_5_method_11_code (some .int) 3 "LassoFinder$ModelReader") : ∀ (x1 : Int32) (x2 : Int32) (I : Nat → Int32) (J : Nat → Int64) (B : Nat → Nat → Int32) (D : Nat → Nat → Int64) (ls : Array Slot) (H : Heap) (locs : List Loc), wc_ModelReader_readBreak_20 a0 a1 Post PX x1 x2 I J B D → lv_has ls 3 [(0, .ref (ad 5)), (1, .int x1), (2, .int x2)] → zW G A s.heap (wX ad K sv I J B D) H locs → W p l e { frames := 7, cells := 1, slots := 6, locals := 101 } s m ([.ref (ad 5), .int a0, .int a1] : List Value).toArray below meth c H locs 0 0 (zyMQ below (va_Qi (fun (r : Int32) (u : zS) => Post r u.1 u.2.1 u.2.2.1 u.2.2.2) (fun u t => zPost G K A (wX ad K sv u.1 u.2.1 u.2.2.1 u.2.2.2) t) A) (zYC (fun E (u : zS) => PX E u.1 u.2.1 u.2.2.1 u.2.2.2) (fun u => wX ad K sv u.1 u.2.1 u.2.2.1 u.2.2.2) G K A) ([.ref (ad 5), .int a0, .int a1] : List Value).toArray s 1 6 A) (F0 m 20 ls []) := by
  obtain ⟨hx, hb, hr, hml, hts, hown, hlocks, hA, hK, hT, hnt, hlt⟩ := id C
  intro x1 x2 I J B D ls H locs hok hl hw
  unfold wc_ModelReader_readBreak_20 at hok
  refine lv_aload_n hx hb zd_ModelReader_readBreak_20 rfl (lv_at hl 0 rfl) ?_
  refine z_get (v := .ref (ad 1)) hx hb hts hown hK hw zZ4 5 wX_g5 0 (by decide) zn_366 rfl zd_ModelReader_readBreak_21 ?_
  refine z_yV (q0 := 1) (wc := (wX ad K sv I J B D)) (wr := []) (w1 := fun (u : zS) => wX ad K sv u.1 u.2.1 u.2.2.1 u.2.2.2) (As := []) (rest := []) ⟨hx, hb, hml, hown, hts⟩ (w_Text_refuse l hlt G K ad sv I J B D  _ _ H.size hok) zf_Text_refuse zn_312 ⟨Nat.le_of_ble_eq_true rfl, Nat.le_of_ble_eq_true rfl⟩ hK hT hw hA (List.range 65) [] wX_all rfl wX_nd (by decide) (fun i hi => by cases hi) wX_g1 rfl rfl hl.1 rfl (Nat.le_of_ble_eq_true rfl) zd_ModelReader_readBreak_24 ⟨Nat.le_of_ble_eq_true rfl, Nat.le_of_ble_eq_true rfl⟩ (fun v st9 t9 L9 h0 hq hL => ?_) (fun E ce q9 u H locs hu hw hce hcv hcl => z_yout (u := u) hnt hlocks hce hcv hcl hw (List.range 65) wX_all wX_nd hu (Nat.le_of_ble_eq_true rfl) (Nat.le_of_ble_eq_true rfl))
  obtain ⟨⟨u, hv9, hok, hB9⟩, hF9⟩ := hq
  cases hv9
  have hw := z_back (wr := []) hw hA (List.range 65) [] wX_all rfl (by decide) (fun i hi => by cases hi) h0 hL hB9 hF9
  obtain ⟨I3, J3, B3, D3⟩ := u
  dsimp only at hok
  generalize t9.heap = H at hw ⊢
  generalize locs ++ L9 = locs at hw ⊢
  have hw : zW G A s.heap (wX ad K sv I3 J3 B3 D3) H locs := hw
  refine W.eq (g2 := F0 m 27 ls []) rfl ?_
  exact wJ_ModelReader_readBreak_27 G K ad sv a0 a1 Post PX C x1 x2 I3 J3 B3 D3 ls H locs hok (lv_sub hl [0, 1, 2] rfl) hw
set_option maxHeartbeats 8000000 in
set_option maxRecDepth 100000 in
theorem w_ModelReader_readBreak (l : Launch) (hlt : l.stackTraces = false) (G : va_G) (K : Nat → ClassId) (ad : Nat → Nat) (sv : Value) (I : Nat → Int32) (J : Nat → Int64) (B : Nat → Nat → Int32) (D : Nat → Nat → Int64) (a0 : Int32) (a1 : Int32) (Post : Int32 → (Nat → Int32) → (Nat → Int64) → (Nat → Nat → Int32) → (Nat → Nat → Int64) → Prop) (PX : String → (Nat → Int32) → (Nat → Int64) → (Nat → Nat → Int32) → (Nat → Nat → Int64) → Prop) (sz : Nat) (hok : wp_ModelReader_readBreak I J B D a0 a1 Post PX) : zyMet l zy_ModelReader_readBreak (Cond.code zy_ModelReader_readBreak prog_5_method_11_code 3 (some .int) :: zTB) { frames := 7, cells := 1, slots := 6, locals := 101 } (va_Pc [.ref (ad 5), .int a0, .int a1] (zPreX G K (wX ad K sv I J B D) sz)) (va_Qi (fun (r : Int32) (u : zS) => Post r u.1 u.2.1 u.2.2.1 u.2.2.2) (fun u t => zPost G K (va_A (wX ad K sv I J B D) sz) (wX ad K sv u.1 u.2.1 u.2.2.1 u.2.2.2) t) (va_A (wX ad K sv I J B D) sz)) (zYC (fun E (u : zS) => PX E u.1 u.2.1 u.2.2.1 u.2.2.2) (fun u => wX ad K sv u.1 u.2.1 u.2.2.1 u.2.2.2) G K (va_A (wX ad K sv I J B D) sz)) 1 6 (va_A (wX ad K sv I J B D) sz) := by
  refine zMetY (y := zy_ModelReader_readBreak) (av := [.ref (ad 5), .int a0, .int a1]) (maxL := 3) (cc := prog_5_method_11_code) (ret := (some .int)) (W0 := (wX ad K sv I J B D)) (sz := sz) (G := G) (K := K) (wt := zTB) (mc := 1) (ms := 6) (Qf := fun A => va_Qi (fun (r : Int32) (u : zS) => Post r u.1 u.2.1 u.2.2.1 u.2.2.2) (fun u t => zPost G K A (wX ad K sv u.1 u.2.1 u.2.2.1 u.2.2.2) t) A) (Xf := fun A => (zYC (fun E (u : zS) => PX E u.1 u.2.1 u.2.2.1 u.2.2.2) (fun u => wX ad K sv u.1 u.2.1 u.2.2.1 u.2.2.2) G K A)) (by decide) (Nat.le_of_ble_eq_true rfl) ?_
  intro p e s m below meth c ls A hx hb hr hml hts hown hlocks hin hA hK H locs hw hsz hl hT hnt
  clear hsz
  have hown : s.vm.findClass "LassoFinder$ModelReader" = some m.cls := hown
  have C : zCy p l s m ([.ref (ad 5), .int a0, .int a1] : List Value).toArray meth c A G K prog_5_method_11_code (some .int) 3 "LassoFinder$ModelReader" := ⟨hx, hb, hr, hml, hts, hown, hlocks, hA, hK, hT, hnt, hlt⟩
  have hl : lv_has ls 3 [(0, .ref (ad 5)), (1, .int a0), (2, .int a1)] := hl
  have hw : zW G A s.heap (wX ad K sv I J B D) H locs := hw
  unfold wp_ModelReader_readBreak at hok
  refine lv_iload_n hx hb zd_ModelReader_readBreak_0 rfl (lv_at hl 1 rfl) ?_
  refine lv_iload_n hx hb zd_ModelReader_readBreak_1 rfl (lv_at hl 2 rfl) ?_
  refine z_calli (w1 := fun (u : zS) => wX ad K sv u.1 u.2.1 u.2.2.1 u.2.2.2) (wr := []) (z_runS (wc := (wX ad K sv I J B D)) (As := [.int a0, .int a1]) (rest := []) ⟨hx, hb, hml, hown, hts⟩ (w_ModelReader_leadsInside l G K ad sv I J B D a0 a1 _ H.size hok) zf_ModelReader_leadsInside zn_332 ⟨Nat.le_of_ble_eq_true rfl, Nat.le_of_ble_eq_true rfl⟩ hK hw (List.range 65) wX_all wX_nd rfl hl.1 rfl (Nat.le_of_ble_eq_true rfl) zd_ModelReader_readBreak_2 ⟨Nat.le_of_ble_eq_true rfl, Nat.le_of_ble_eq_true rfl⟩) hw hA (List.range 65) [] wX_all rfl (by decide) (fun i hi => by cases hi) (fun r4 u H locs hok hw => ?_)
  obtain ⟨I4, J4, B4, D4⟩ := u
  dsimp only at hok
  have hw : zW G A s.heap (wX ad K sv I4 J4 B4 D4) H locs := hw
  refine lv_if_ne (tgt := 20) hx hb zd_ModelReader_readBreak_5 (by decide) (fun hc5 => ?_) (fun hc5 => ?_)
  · have hok := hok.1 hc5
    exact wJ_ModelReader_readBreak_20 G K ad sv a0 a1 Post PX C a0 a1 I4 J4 B4 D4 ls H locs hok (lv_sub hl [0, 1, 2] rfl) hw
  · have hok := hok.2 hc5
    refine lv_aload_n hx hb zd_ModelReader_readBreak_8 rfl (lv_at hl 0 rfl) ?_
    refine z_get (v := .ref (ad 6)) hx hb hts hown hK hw zZ4 5 wX_g5 4 (by decide) zn_368 rfl zd_ModelReader_readBreak_9 ?_
    refine lv_iload_n hx hb zd_ModelReader_readBreak_12 rfl (lv_at hl 1 rfl) ?_
    refine z_calli (w1 := fun (u : zS) => wX ad K sv u.1 u.2.1 u.2.2.1 u.2.2.2) (wr := []) (z_runV (q0 := 6) (wc := (wX ad K sv I4 J4 B4 D4)) (As := [.int a0]) (rest := []) ⟨hx, hb, hml, hown, hts⟩ (w_Tree_loopInside l G K ad sv I4 J4 B4 D4 a0 _ H.size hok) zf_Tree_loopInside zn_333 ⟨Nat.le_of_ble_eq_true rfl, Nat.le_of_ble_eq_true rfl⟩ hK hw (List.range 65) wX_all wX_nd wX_g6 rfl rfl hl.1 rfl (Nat.le_of_ble_eq_true rfl) zd_ModelReader_readBreak_13 ⟨Nat.le_of_ble_eq_true rfl, Nat.le_of_ble_eq_true rfl⟩) hw hA (List.range 65) [] wX_all rfl (by decide) (fun i hi => by cases hi) (fun r6 u H locs hok hw => ?_)
    obtain ⟨I6, J6, B6, D6⟩ := u
    dsimp only at hok
    have hw : zW G A s.heap (wX ad K sv I6 J6 B6 D6) H locs := hw
    refine lv_iconst (v := (-1)) hx hb zd_ModelReader_readBreak_16 (by decide) ?_
    refine lv_icmp_ne (tgt := 27) hx hb zd_ModelReader_readBreak_17 (by decide) (fun hc7 => ?_) (fun hc7 => ?_)
    · have hok := hok.1 hc7
      exact wJ_ModelReader_readBreak_27 G K ad sv a0 a1 Post PX C a0 a1 I6 J6 B6 D6 ls H locs hok (lv_sub hl [0, 1, 2] rfl) hw
    · have hok := hok.2 hc7
      exact wJ_ModelReader_readBreak_20 G K ad sv a0 a1 Post PX C a0 a1 I6 J6 B6 D6 ls H locs hok (lv_sub hl [0, 1, 2] rfl) hw
def wp_Text_position (I : Nat → Int32) (J : Nat → Int64) (B : Nat → Nat → Int32) (D : Nat → Nat → Int64) (Post : Int32 → (Nat → Int32) → (Nat → Int64) → (Nat → Nat → Int32) → (Nat → Nat → Int64) → Prop) : Prop :=
  Post (I 5) I J B D
set_option maxHeartbeats 8000000 in
set_option maxRecDepth 100000 in
theorem w_Text_position (l : Launch) (G : va_G) (K : Nat → ClassId) (ad : Nat → Nat) (sv : Value) (I : Nat → Int32) (J : Nat → Int64) (B : Nat → Nat → Int32) (D : Nat → Nat → Int64) (Post : Int32 → (Nat → Int32) → (Nat → Int64) → (Nat → Nat → Int32) → (Nat → Nat → Int64) → Prop) (sz : Nat) (hok : wp_Text_position I J B D  Post) : Met l zy_Text_position (Cond.code zy_Text_position prog_10_method_10_code 1 (some .int) :: zTB) { frames := 0, cells := 0, slots := 0, locals := 0 } (va_Pc [.ref (ad 1)] (zPre G K (wX ad K sv I J B D) sz)) (va_Qi (fun (r : Int32) (u : zS) => Post r u.1 u.2.1 u.2.2.1 u.2.2.2) (fun u t => zPost G K (va_A (wX ad K sv I J B D) sz) (wX ad K sv u.1 u.2.1 u.2.2.1 u.2.2.2) t) (va_A (wX ad K sv I J B D) sz)) 0 0 (va_A (wX ad K sv I J B D) sz) := by
  refine zMet (y := zy_Text_position) (av := [.ref (ad 1)]) (maxL := 1) (cc := prog_10_method_10_code) (ret := (some .int)) (W0 := (wX ad K sv I J B D)) (sz := sz) (G := G) (K := K) (wt := zTB) (mc := 0) (ms := 0) (Qf := fun A => va_Qi (fun (r : Int32) (u : zS) => Post r u.1 u.2.1 u.2.2.1 u.2.2.2) (fun u t => zPost G K A (wX ad K sv u.1 u.2.1 u.2.2.1 u.2.2.2) t) A) (by decide) (Nat.le_of_ble_eq_true rfl) ?_
  intro p e s m below meth c ls A hx hb hr hml hts hown hlocks hin hA hK H locs hw hsz hl
  clear hsz
  have hown : s.vm.findClass "LassoFinder$Text" = some m.cls := hown
  have C : zCx p s m ([.ref (ad 1)] : List Value).toArray meth c A G K prog_10_method_10_code (some .int) 1 "LassoFinder$Text" := ⟨hx, hb, hr, hml, hts, hown, hlocks, hA, hK⟩
  have hl : lv_has ls 1 [(0, .ref (ad 1))] := hl
  have hw : zW G A s.heap (wX ad K sv I J B D) H locs := hw
  unfold wp_Text_position at hok
  refine lv_aload_n hx hb zd_Text_position_0 rfl (lv_at hl 0 rfl) ?_
  refine z_get (v := .int (I 5)) hx hb hts hown hK hw zZ9 1 wX_g1 3 (by decide) zn_298 rfl zd_Text_position_1 ?_
  exact (z_iret (u := (I, J, B, D)) hx hb hr hlocks rfl hw (List.range 65) wX_all wX_nd hok (Nat.le_of_ble_eq_true rfl) (Nat.le_of_ble_eq_true rfl) zd_Text_position_4)
def wc_ModelReader_readJump_44 (a0 : Int32) (a1 : Int32) (Post : Int32 → (Nat → Int32) → (Nat → Int64) → (Nat → Nat → Int32) → (Nat → Nat → Int64) → Prop) (PX : String → (Nat → Int32) → (Nat → Int64) → (Nat → Nat → Int32) → (Nat → Nat → Int64) → Prop) (x1 : Int32) (x2 : Int32) (x3 : Int32) (I : Nat → Int32) (J : Nat → Int64) (B : Nat → Nat → Int32) (D : Nat → Nat → Int64) : Prop :=
  wp_Tree_add I J B D 5 x1 x2 (fun r1 I1 J1 B1 D1 => vp_in r1 240 ∧ wp_Text_position I1 J1 (va_up B1 26 (upd (B1 26) r1.toNatClampNeg x3)) D1  (fun r2 I2 J2 B2 D2 => vp_in r1 240 ∧ wp_Text_skip I2 J2 (va_up B2 27 (upd (B2 27) r1.toNatClampNeg r2)) D2  (fun I3 J3 B3 D3 => Post r1 I3 J3 B3 D3)))
def wc_ModelReader_readJump_15 (a0 : Int32) (a1 : Int32) (Post : Int32 → (Nat → Int32) → (Nat → Int64) → (Nat → Nat → Int32) → (Nat → Nat → Int64) → Prop) (PX : String → (Nat → Int32) → (Nat → Int64) → (Nat → Nat → Int32) → (Nat → Nat → Int64) → Prop) (x1 : Int32) (x2 : Int32) (I : Nat → Int32) (J : Nat → Int64) (B : Nat → Nat → Int32) (D : Nat → Nat → Int64) : Prop :=
  wp_Text_skip I J B D  (fun I4 J4 B4 D4 => wp_Text_oneOf I4 J4 B4 D4 65 (fun r5 I5 J5 B5 D5 => ((¬ r5 = (-1) → wc_ModelReader_readJump_44 a0 a1 Post PX x1 x2 r5 I5 J5 B5 D5) ∧ (r5 = (-1) → wp_Text_refuse I5 J5 B5 D5  (fun I7 J7 B7 D7 => wc_ModelReader_readJump_44 a0 a1 Post PX x1 x2 r5 I7 J7 B7 D7) PX))))
def wp_ModelReader_readJump (I : Nat → Int32) (J : Nat → Int64) (B : Nat → Nat → Int32) (D : Nat → Nat → Int64) (a0 : Int32) (a1 : Int32) (Post : Int32 → (Nat → Int32) → (Nat → Int64) → (Nat → Nat → Int32) → (Nat → Nat → Int64) → Prop) (PX : String → (Nat → Int32) → (Nat → Int64) → (Nat → Nat → Int32) → (Nat → Nat → Int64) → Prop) : Prop :=
  wp_ModelReader_leadsInside I J B D a0 a1 (fun r8 I8 J8 B8 D8 => ((r8 = 0 → wc_ModelReader_readJump_15 a0 a1 Post PX a0 a1 I8 J8 B8 D8) ∧ (¬ r8 = 0 → wp_Text_refuse I8 J8 B8 D8  (fun I10 J10 B10 D10 => wc_ModelReader_readJump_15 a0 a1 Post PX a0 a1 I10 J10 B10 D10) PX)))
set_option maxHeartbeats 8000000 in
set_option maxRecDepth 100000 in
theorem wJ_ModelReader_readJump_44 {p : Program} {l : Launch} {e : Env} {s : State} {m : MethodId} {below : List Frame} {meth : Method} {c : Code} {A : Nat → Prop} (G : va_G) (K : Nat → ClassId) (ad : Nat → Nat) (sv : Value) (a0 : Int32) (a1 : Int32) (Post : Int32 → (Nat → Int32) → (Nat → Int64) → (Nat → Nat → Int32) → (Nat → Nat → Int64) → Prop) (PX : String → (Nat → Int32) → (Nat → Int64) → (Nat → Nat → Int32) → (Nat → Nat → Int64) → Prop) (C : zCy p l s m ([.ref (ad 5), .int a0, .int a1] : List Value).toArray meth c A G K prog_5_method_12_code (some .int) 5 "LassoFinder$ModelReader") : ∀ (x1 : Int32) (x2 : Int32) (x3 : Int32) (I : Nat → Int32) (J : Nat → Int64) (B : Nat → Nat → Int32) (D : Nat → Nat → Int64) (ls : Array Slot) (H : Heap) (locs : List Loc), wc_ModelReader_readJump_44 a0 a1 Post PX x1 x2 x3 I J B D → lv_has ls 5 [(0, .ref (ad 5)), (1, .int x1), (2, .int x2), (3, .int x3)] → zW G A s.heap (wX ad K sv I J B D) H locs → W p l e { frames := 7, cells := 1, slots := 6, locals := 101 } s m ([.ref (ad 5), .int a0, .int a1] : List Value).toArray below meth c H locs 0 0 (zyMQ below (va_Qi (fun (r : Int32) (u : zS) => Post r u.1 u.2.1 u.2.2.1 u.2.2.2) (fun u t => zPost G K A (wX ad K sv u.1 u.2.1 u.2.2.1 u.2.2.2) t) A) (zYC (fun E (u : zS) => PX E u.1 u.2.1 u.2.2.1 u.2.2.2) (fun u => wX ad K sv u.1 u.2.1 u.2.2.1 u.2.2.2) G K A) ([.ref (ad 5), .int a0, .int a1] : List Value).toArray s 1 6 A) (F0 m 44 ls []) := by
  obtain ⟨hx, hb, hr, hml, hts, hown, hlocks, hA, hK, hT, hnt, hlt⟩ := id C
  intro x1 x2 x3 I J B D ls H locs hok hl hw
  unfold wc_ModelReader_readJump_44 at hok
  refine lv_aload_n hx hb zd_ModelReader_readJump_44 rfl (lv_at hl 0 rfl) ?_
  refine z_get (v := .ref (ad 6)) hx hb hts hown hK hw zZ4 5 wX_g5 4 (by decide) zn_368 rfl zd_ModelReader_readJump_45 ?_
  refine lv_iconst (v := 5) hx hb zd_ModelReader_readJump_48 (by decide) ?_
  refine lv_iload_n hx hb zd_ModelReader_readJump_49 rfl (lv_at hl 1 rfl) ?_
  refine lv_iload_n hx hb zd_ModelReader_readJump_50 rfl (lv_at hl 2 rfl) ?_
  refine z_calli (w1 := fun (u : zS) => wX ad K sv u.1 u.2.1 u.2.2.1 u.2.2.2) (wr := []) (z_runV (q0 := 6) (wc := (wX ad K sv I J B D)) (As := [.int 5, .int x1, .int x2]) (rest := []) ⟨hx, hb, hml, hown, hts⟩ (w_Tree_add l G K ad sv I J B D 5 x1 x2 _ H.size hok) zf_Tree_add zn_326 ⟨Nat.le_of_ble_eq_true rfl, Nat.le_of_ble_eq_true rfl⟩ hK hw (List.range 65) wX_all wX_nd wX_g6 rfl rfl hl.1 rfl (Nat.le_of_ble_eq_true rfl) zd_ModelReader_readJump_51 ⟨Nat.le_of_ble_eq_true rfl, Nat.le_of_ble_eq_true rfl⟩) hw hA (List.range 65) [] wX_all rfl (by decide) (fun i hi => by cases hi) (fun r1 u H locs hok hw => ?_)
  obtain ⟨I1, J1, B1, D1⟩ := u
  dsimp only at hok
  have hw : zW G A s.heap (wX ad K sv I1 J1 B1 D1) H locs := hw
  refine lv_istore hx hb zd_ModelReader_readJump_54 hl (by decide) rfl (fun ls hl => ?_)
  have hl : lv_has ls 5 [(4, .int r1), (0, .ref (ad 5)), (1, .int x1), (2, .int x2), (3, .int x3)] := hl
  refine lv_aload_n hx hb zd_ModelReader_readJump_56 rfl (lv_at hl 1 rfl) ?_
  refine z_get (v := .ref (ad 6)) hx hb hts hown hK hw zZ4 5 wX_g5 4 (by decide) zn_368 rfl zd_ModelReader_readJump_57 ?_
  refine z_get (v := .ref (ad 40)) hx hb hts hown hK hw zZ10 6 wX_g6 8 (by decide) zn_378 rfl zd_ModelReader_readJump_60 ?_
  refine lv_iload hx hb zd_ModelReader_readJump_63 (lv_at hl 0 rfl) ?_
  refine lv_iload_n hx hb zd_ModelReader_readJump_65 rfl (lv_at hl 4 rfl) ?_
  refine va_iast (f := (B1 26)) hx hb hK hw.1 hw.2.1 hw.2.2 40 0 wX_a40 rfl hok.1 zd_ModelReader_readJump_66 (fun H locs w91 w92 w93 => ?_)
  have hok := hok.2
  have hw := wX_t40 ⟨w91, w92, w93⟩
  refine lv_aload_n hx hb zd_ModelReader_readJump_67 rfl (lv_at hl 1 rfl) ?_
  refine z_get (v := .ref (ad 6)) hx hb hts hown hK hw zZ4 5 wX_g5 4 (by decide) zn_368 rfl zd_ModelReader_readJump_68 ?_
  refine z_get (v := .ref (ad 41)) hx hb hts hown hK hw zZ10 6 wX_g6 9 (by decide) zn_389 rfl zd_ModelReader_readJump_71 ?_
  refine lv_iload hx hb zd_ModelReader_readJump_74 (lv_at hl 0 rfl) ?_
  refine lv_aload_n hx hb zd_ModelReader_readJump_76 rfl (lv_at hl 1 rfl) ?_
  refine z_get (v := .ref (ad 1)) hx hb hts hown hK hw zZ4 5 wX_g5 0 (by decide) zn_366 rfl zd_ModelReader_readJump_77 ?_
  refine z_calli (w1 := fun (u : zS) => wX ad K sv u.1 u.2.1 u.2.2.1 u.2.2.2) (wr := []) (z_runV (q0 := 1) (wc := (wX ad K sv I1 J1 (va_up B1 26 (upd (B1 26) r1.toNatClampNeg x3)) D1)) (As := []) (rest := [.int r1, .ref (ad 41)]) ⟨hx, hb, hml, hown, hts⟩ (w_Text_position l G K ad sv I1 J1 (va_up B1 26 (upd (B1 26) r1.toNatClampNeg x3)) D1  _ H.size hok) zf_Text_position zn_335 ⟨Nat.le_of_ble_eq_true rfl, Nat.le_of_ble_eq_true rfl⟩ hK hw (List.range 65) wX_all wX_nd wX_g1 rfl rfl hl.1 rfl (Nat.le_of_ble_eq_true rfl) zd_ModelReader_readJump_80 ⟨Nat.le_of_ble_eq_true rfl, Nat.le_of_ble_eq_true rfl⟩) hw hA (List.range 65) [] wX_all rfl (by decide) (fun i hi => by cases hi) (fun r2 u H locs hok hw => ?_)
  obtain ⟨I2, J2, B2, D2⟩ := u
  dsimp only at hok
  have hw : zW G A s.heap (wX ad K sv I2 J2 B2 D2) H locs := hw
  refine va_iast (f := (B2 27)) hx hb hK hw.1 hw.2.1 hw.2.2 41 0 wX_a41 rfl hok.1 zd_ModelReader_readJump_83 (fun H locs w91 w92 w93 => ?_)
  have hok := hok.2
  have hw := wX_t41 ⟨w91, w92, w93⟩
  refine lv_aload_n hx hb zd_ModelReader_readJump_84 rfl (lv_at hl 1 rfl) ?_
  refine z_get (v := .ref (ad 1)) hx hb hts hown hK hw zZ4 5 wX_g5 0 (by decide) zn_366 rfl zd_ModelReader_readJump_85 ?_
  refine z_callv (w1 := fun (u : zS) => wX ad K sv u.1 u.2.1 u.2.2.1 u.2.2.2) (wr := []) (z_runV (q0 := 1) (wc := (wX ad K sv I2 J2 (va_up B2 27 (upd (B2 27) r1.toNatClampNeg r2)) D2)) (As := []) (rest := []) ⟨hx, hb, hml, hown, hts⟩ (w_Text_skip l G K ad sv I2 J2 (va_up B2 27 (upd (B2 27) r1.toNatClampNeg r2)) D2  _ H.size hok) zf_Text_skip zn_314 ⟨Nat.le_of_ble_eq_true rfl, Nat.le_of_ble_eq_true rfl⟩ hK hw (List.range 65) wX_all wX_nd wX_g1 rfl rfl hl.1 rfl (Nat.le_of_ble_eq_true rfl) zd_ModelReader_readJump_88 ⟨Nat.le_of_ble_eq_true rfl, Nat.le_of_ble_eq_true rfl⟩) hw hA (List.range 65) [] wX_all rfl (by decide) (fun i hi => by cases hi) (fun u H locs hok hw => ?_)
  obtain ⟨I3, J3, B3, D3⟩ := u
  dsimp only at hok
  have hw : zW G A s.heap (wX ad K sv I3 J3 B3 D3) H locs := hw
  refine lv_iload hx hb zd_ModelReader_readJump_91 (lv_at hl 0 rfl) ?_
  exact zy_ret (z_iret (u := (I3, J3, B3, D3)) hx hb hr hlocks rfl hw (List.range 65) wX_all wX_nd hok (Nat.le_of_ble_eq_true rfl) (Nat.le_of_ble_eq_true rfl) zd_ModelReader_readJump_93)
set_option maxHeartbeats 8000000 in
set_option maxRecDepth 100000 in
theorem wJ_ModelReader_readJump_15 {p : Program} {l : Launch} {e : Env} {s : State} {m : MethodId} {below : List Frame} {meth : Method} {c : Code} {A : Nat → Prop} (G : va_G) (K : Nat → ClassId) (ad : Nat → Nat) (sv : Value) (a0 : Int32) (a1 : Int32) (Post : Int32 → (Nat → Int32) → (Nat → Int64) → (Nat → Nat → Int32) → (Nat → Nat → Int64) → Prop) (PX : String → (Nat → Int32) → (Nat → Int64) → (Nat → Nat → Int32) → (Nat → Nat → Int64) → Prop) (C : zCy p l s m ([.ref (ad 5), .int a0, .int a1] : List Value).toArray meth c A G K prog_5_method_12_code (some .int) 5 "LassoFinder$ModelReader") : ∀ (x1 : Int32) (x2 : Int32) (I : Nat → Int32) (J : Nat → Int64) (B : Nat → Nat → Int32) (D : Nat → Nat → Int64) (ls : Array Slot) (H : Heap) (locs : List Loc), wc_ModelReader_readJump_15 a0 a1 Post PX x1 x2 I J B D → lv_has ls 5 [(0, .ref (ad 5)), (1, .int x1), (2, .int x2)] → zW G A s.heap (wX ad K sv I J B D) H locs → W p l e { frames := 7, cells := 1, slots := 6, locals := 101 } s m ([.ref (ad 5), .int a0, .int a1] : List Value).toArray below meth c H locs 0 0 (zyMQ below (va_Qi (fun (r : Int32) (u : zS) => Post r u.1 u.2.1 u.2.2.1 u.2.2.2) (fun u t => zPost G K A (wX ad K sv u.1 u.2.1 u.2.2.1 u.2.2.2) t) A) (zYC (fun E (u : zS) => PX E u.1 u.2.1 u.2.2.1 u.2.2.2) (fun u => wX ad K sv u.1 u.2.1 u.2.2.1 u.2.2.2) G K A) ([.ref (ad 5), .int a0, .int a1] : List Value).toArray s 1 6 A) (F0 m 15 ls []) := by
  obtain ⟨hx, hb, hr, hml, hts, hown, hlocks, hA, hK, hT, hnt, hlt⟩ := id C
  intro x1 x2 I J B D ls H locs hok hl hw
  unfold wc_ModelReader_readJump_15 at hok
  refine lv_aload_n hx hb zd_ModelReader_readJump_15 rfl (lv_at hl 0 rfl) ?_
  refine z_get (v := .ref (ad 1)) hx hb hts hown hK hw zZ4 5 wX_g5 0 (by decide) zn_366 rfl zd_ModelReader_readJump_16 ?_
  refine z_callv (w1 := fun (u : zS) => wX ad K sv u.1 u.2.1 u.2.2.1 u.2.2.2) (wr := []) (z_runV (q0 := 1) (wc := (wX ad K sv I J B D)) (As := []) (rest := []) ⟨hx, hb, hml, hown, hts⟩ (w_Text_skip l G K ad sv I J B D  _ H.size hok) zf_Text_skip zn_314 ⟨Nat.le_of_ble_eq_true rfl, Nat.le_of_ble_eq_true rfl⟩ hK hw (List.range 65) wX_all wX_nd wX_g1 rfl rfl hl.1 rfl (Nat.le_of_ble_eq_true rfl) zd_ModelReader_readJump_19 ⟨Nat.le_of_ble_eq_true rfl, Nat.le_of_ble_eq_true rfl⟩) hw hA (List.range 65) [] wX_all rfl (by decide) (fun i hi => by cases hi) (fun u H locs hok hw => ?_)
  obtain ⟨I4, J4, B4, D4⟩ := u
  dsimp only at hok
  have hw : zW G A s.heap (wX ad K sv I4 J4 B4 D4) H locs := hw
  refine lv_aload_n hx hb zd_ModelReader_readJump_22 rfl (lv_at hl 0 rfl) ?_
  refine z_get (v := .ref (ad 1)) hx hb hts hown hK hw zZ4 5 wX_g5 0 (by decide) zn_366 rfl zd_ModelReader_readJump_23 ?_
  refine lv_bipush (v := 65) hx hb zd_ModelReader_readJump_26 (by decide) ?_
  refine z_calli (w1 := fun (u : zS) => wX ad K sv u.1 u.2.1 u.2.2.1 u.2.2.2) (wr := []) (z_runV (q0 := 1) (wc := (wX ad K sv I4 J4 B4 D4)) (As := [.int 65]) (rest := []) ⟨hx, hb, hml, hown, hts⟩ (w_Text_oneOf l G K ad sv I4 J4 B4 D4 65 _ H.size hok) zf_Text_oneOf zn_310 ⟨Nat.le_of_ble_eq_true rfl, Nat.le_of_ble_eq_true rfl⟩ hK hw (List.range 65) wX_all wX_nd wX_g1 rfl rfl hl.1 rfl (Nat.le_of_ble_eq_true rfl) zd_ModelReader_readJump_28 ⟨Nat.le_of_ble_eq_true rfl, Nat.le_of_ble_eq_true rfl⟩) hw hA (List.range 65) [] wX_all rfl (by decide) (fun i hi => by cases hi) (fun r5 u H locs hok hw => ?_)
  obtain ⟨I5, J5, B5, D5⟩ := u
  dsimp only at hok
  have hw : zW G A s.heap (wX ad K sv I5 J5 B5 D5) H locs := hw
  refine lv_istore_n hx hb zd_ModelReader_readJump_31 rfl hl (by decide) rfl (fun ls hl => ?_)
  have hl : lv_has ls 5 [(3, .int r5), (0, .ref (ad 5)), (1, .int x1), (2, .int x2)] := hl
  refine lv_iload_n hx hb zd_ModelReader_readJump_32 rfl (lv_at hl 0 rfl) ?_
  refine lv_iconst (v := (-1)) hx hb zd_ModelReader_readJump_33 (by decide) ?_
  refine lv_icmp_ne (tgt := 44) hx hb zd_ModelReader_readJump_34 (by decide) (fun hc6 => ?_) (fun hc6 => ?_)
  · have hok := hok.1 hc6
    exact wJ_ModelReader_readJump_44 G K ad sv a0 a1 Post PX C x1 x2 r5 I5 J5 B5 D5 ls H locs hok (lv_sub hl [1, 2, 3, 0] rfl) hw
  · have hok := hok.2 hc6
    refine lv_aload_n hx hb zd_ModelReader_readJump_37 rfl (lv_at hl 1 rfl) ?_
    refine z_get (v := .ref (ad 1)) hx hb hts hown hK hw zZ4 5 wX_g5 0 (by decide) zn_366 rfl zd_ModelReader_readJump_38 ?_
    refine z_yV (q0 := 1) (wc := (wX ad K sv I5 J5 B5 D5)) (wr := []) (w1 := fun (u : zS) => wX ad K sv u.1 u.2.1 u.2.2.1 u.2.2.2) (As := []) (rest := []) ⟨hx, hb, hml, hown, hts⟩ (w_Text_refuse l hlt G K ad sv I5 J5 B5 D5  _ _ H.size hok) zf_Text_refuse zn_312 ⟨Nat.le_of_ble_eq_true rfl, Nat.le_of_ble_eq_true rfl⟩ hK hT hw hA (List.range 65) [] wX_all rfl wX_nd (by decide) (fun i hi => by cases hi) wX_g1 rfl rfl hl.1 rfl (Nat.le_of_ble_eq_true rfl) zd_ModelReader_readJump_41 ⟨Nat.le_of_ble_eq_true rfl, Nat.le_of_ble_eq_true rfl⟩ (fun v st9 t9 L9 h0 hq hL => ?_) (fun E ce q9 u H locs hu hw hce hcv hcl => z_yout (u := u) hnt hlocks hce hcv hcl hw (List.range 65) wX_all wX_nd hu (Nat.le_of_ble_eq_true rfl) (Nat.le_of_ble_eq_true rfl))
    obtain ⟨⟨u, hv9, hok, hB9⟩, hF9⟩ := hq
    cases hv9
    have hw := z_back (wr := []) hw hA (List.range 65) [] wX_all rfl (by decide) (fun i hi => by cases hi) h0 hL hB9 hF9
    obtain ⟨I7, J7, B7, D7⟩ := u
    dsimp only at hok
    generalize t9.heap = H at hw ⊢
    generalize locs ++ L9 = locs at hw ⊢
    have hw : zW G A s.heap (wX ad K sv I7 J7 B7 D7) H locs := hw
    refine W.eq (g2 := F0 m 44 ls []) rfl ?_
    exact wJ_ModelReader_readJump_44 G K ad sv a0 a1 Post PX C x1 x2 r5 I7 J7 B7 D7 ls H locs hok (lv_sub hl [1, 2, 3, 0] rfl) hw
set_option maxHeartbeats 8000000 in
set_option maxRecDepth 100000 in
theorem w_ModelReader_readJump (l : Launch) (hlt : l.stackTraces = false) (G : va_G) (K : Nat → ClassId) (ad : Nat → Nat) (sv : Value) (I : Nat → Int32) (J : Nat → Int64) (B : Nat → Nat → Int32) (D : Nat → Nat → Int64) (a0 : Int32) (a1 : Int32) (Post : Int32 → (Nat → Int32) → (Nat → Int64) → (Nat → Nat → Int32) → (Nat → Nat → Int64) → Prop) (PX : String → (Nat → Int32) → (Nat → Int64) → (Nat → Nat → Int32) → (Nat → Nat → Int64) → Prop) (sz : Nat) (hok : wp_ModelReader_readJump I J B D a0 a1 Post PX) : zyMet l zy_ModelReader_readJump (Cond.code zy_ModelReader_readJump prog_5_method_12_code 5 (some .int) :: zTB) { frames := 7, cells := 1, slots := 6, locals := 101 } (va_Pc [.ref (ad 5), .int a0, .int a1] (zPreX G K (wX ad K sv I J B D) sz)) (va_Qi (fun (r : Int32) (u : zS) => Post r u.1 u.2.1 u.2.2.1 u.2.2.2) (fun u t => zPost G K (va_A (wX ad K sv I J B D) sz) (wX ad K sv u.1 u.2.1 u.2.2.1 u.2.2.2) t) (va_A (wX ad K sv I J B D) sz)) (zYC (fun E (u : zS) => PX E u.1 u.2.1 u.2.2.1 u.2.2.2) (fun u => wX ad K sv u.1 u.2.1 u.2.2.1 u.2.2.2) G K (va_A (wX ad K sv I J B D) sz)) 1 6 (va_A (wX ad K sv I J B D) sz) := by
  refine zMetY (y := zy_ModelReader_readJump) (av := [.ref (ad 5), .int a0, .int a1]) (maxL := 5) (cc := prog_5_method_12_code) (ret := (some .int)) (W0 := (wX ad K sv I J B D)) (sz := sz) (G := G) (K := K) (wt := zTB) (mc := 1) (ms := 6) (Qf := fun A => va_Qi (fun (r : Int32) (u : zS) => Post r u.1 u.2.1 u.2.2.1 u.2.2.2) (fun u t => zPost G K A (wX ad K sv u.1 u.2.1 u.2.2.1 u.2.2.2) t) A) (Xf := fun A => (zYC (fun E (u : zS) => PX E u.1 u.2.1 u.2.2.1 u.2.2.2) (fun u => wX ad K sv u.1 u.2.1 u.2.2.1 u.2.2.2) G K A)) (by decide) (Nat.le_of_ble_eq_true rfl) ?_
  intro p e s m below meth c ls A hx hb hr hml hts hown hlocks hin hA hK H locs hw hsz hl hT hnt
  clear hsz
  have hown : s.vm.findClass "LassoFinder$ModelReader" = some m.cls := hown
  have C : zCy p l s m ([.ref (ad 5), .int a0, .int a1] : List Value).toArray meth c A G K prog_5_method_12_code (some .int) 5 "LassoFinder$ModelReader" := ⟨hx, hb, hr, hml, hts, hown, hlocks, hA, hK, hT, hnt, hlt⟩
  have hl : lv_has ls 5 [(0, .ref (ad 5)), (1, .int a0), (2, .int a1)] := hl
  have hw : zW G A s.heap (wX ad K sv I J B D) H locs := hw
  unfold wp_ModelReader_readJump at hok
  refine lv_iload_n hx hb zd_ModelReader_readJump_0 rfl (lv_at hl 1 rfl) ?_
  refine lv_iload_n hx hb zd_ModelReader_readJump_1 rfl (lv_at hl 2 rfl) ?_
  refine z_calli (w1 := fun (u : zS) => wX ad K sv u.1 u.2.1 u.2.2.1 u.2.2.2) (wr := []) (z_runS (wc := (wX ad K sv I J B D)) (As := [.int a0, .int a1]) (rest := []) ⟨hx, hb, hml, hown, hts⟩ (w_ModelReader_leadsInside l G K ad sv I J B D a0 a1 _ H.size hok) zf_ModelReader_leadsInside zn_332 ⟨Nat.le_of_ble_eq_true rfl, Nat.le_of_ble_eq_true rfl⟩ hK hw (List.range 65) wX_all wX_nd rfl hl.1 rfl (Nat.le_of_ble_eq_true rfl) zd_ModelReader_readJump_2 ⟨Nat.le_of_ble_eq_true rfl, Nat.le_of_ble_eq_true rfl⟩) hw hA (List.range 65) [] wX_all rfl (by decide) (fun i hi => by cases hi) (fun r8 u H locs hok hw => ?_)
  obtain ⟨I8, J8, B8, D8⟩ := u
  dsimp only at hok
  have hw : zW G A s.heap (wX ad K sv I8 J8 B8 D8) H locs := hw
  refine lv_if_eq (tgt := 15) hx hb zd_ModelReader_readJump_5 (by decide) (fun hc9 => ?_) (fun hc9 => ?_)
  · have hok := hok.1 hc9
    exact wJ_ModelReader_readJump_15 G K ad sv a0 a1 Post PX C a0 a1 I8 J8 B8 D8 ls H locs hok (lv_sub hl [0, 1, 2] rfl) hw
  · have hok := hok.2 hc9
    refine lv_aload_n hx hb zd_ModelReader_readJump_8 rfl (lv_at hl 0 rfl) ?_
    refine z_get (v := .ref (ad 1)) hx hb hts hown hK hw zZ4 5 wX_g5 0 (by decide) zn_366 rfl zd_ModelReader_readJump_9 ?_
    refine z_yV (q0 := 1) (wc := (wX ad K sv I8 J8 B8 D8)) (wr := []) (w1 := fun (u : zS) => wX ad K sv u.1 u.2.1 u.2.2.1 u.2.2.2) (As := []) (rest := []) ⟨hx, hb, hml, hown, hts⟩ (w_Text_refuse l hlt G K ad sv I8 J8 B8 D8  _ _ H.size hok) zf_Text_refuse zn_312 ⟨Nat.le_of_ble_eq_true rfl, Nat.le_of_ble_eq_true rfl⟩ hK hT hw hA (List.range 65) [] wX_all rfl wX_nd (by decide) (fun i hi => by cases hi) wX_g1 rfl rfl hl.1 rfl (Nat.le_of_ble_eq_true rfl) zd_ModelReader_readJump_12 ⟨Nat.le_of_ble_eq_true rfl, Nat.le_of_ble_eq_true rfl⟩ (fun v st9 t9 L9 h0 hq hL => ?_) (fun E ce q9 u H locs hu hw hce hcv hcl => z_yout (u := u) hnt hlocks hce hcv hcl hw (List.range 65) wX_all wX_nd hu (Nat.le_of_ble_eq_true rfl) (Nat.le_of_ble_eq_true rfl))
    obtain ⟨⟨u, hv9, hok, hB9⟩, hF9⟩ := hq
    cases hv9
    have hw := z_back (wr := []) hw hA (List.range 65) [] wX_all rfl (by decide) (fun i hi => by cases hi) h0 hL hB9 hF9
    obtain ⟨I10, J10, B10, D10⟩ := u
    dsimp only at hok
    generalize t9.heap = H at hw ⊢
    generalize locs ++ L9 = locs at hw ⊢
    have hw : zW G A s.heap (wX ad K sv I10 J10 B10 D10) H locs := hw
    refine W.eq (g2 := F0 m 15 ls []) rfl ?_
    exact wJ_ModelReader_readJump_15 G K ad sv a0 a1 Post PX C a0 a1 I10 J10 B10 D10 ls H locs hok (lv_sub hl [0, 1, 2] rfl) hw
