abbrev zy_Names_clear : MethodName := ⟨"LassoFinder$Names", "clear", "()V"⟩
abbrev zy_Terms_clear : MethodName := ⟨"LassoFinder$Terms", "clear", "()V"⟩
abbrev zy_Program_clear : MethodName := ⟨"LassoFinder$Program", "clear", "()V"⟩
abbrev zy_Text_accept : MethodName := ⟨"LassoFinder$Text", "accept", "(C)Z"⟩
abbrev zy_Text_oneOf : MethodName := ⟨"LassoFinder$Text", "oneOf", "(C)I"⟩
abbrev zy_Names_declare : MethodName := ⟨"LassoFinder$Names", "declare", "(III)V"⟩
abbrev zy_ModelReader_readLabels : MethodName := ⟨"LassoFinder$ModelReader", "readLabels", "()V"⟩
abbrev zy_Tree_add : MethodName := ⟨"LassoFinder$Tree", "add", "(III)I"⟩
abbrev zy_Tree_loopInside : MethodName := ⟨"LassoFinder$Tree", "loopInside", "(I)I"⟩
abbrev zy_Tree_atomicInside : MethodName := ⟨"LassoFinder$Tree", "atomicInside", "(I)I"⟩
theorem zn_301 : Cond.methodLink "LassoFinder$Names" 22 ⟨"java/util/Arrays", "fill", "([II)V"⟩ ∈ zTB := z_in (zt_3 _ (List.mem_of_getElem? (i := 107) rfl)) rfl
theorem zn_304 : Cond.methodLink "LassoFinder$Program" 49 ⟨"java/util/Arrays", "fill", "([JJ)V"⟩ ∈ zTB := z_in (zt_3 _ (List.mem_of_getElem? (i := 118) rfl)) rfl
theorem zn_305 : Cond.methodLink "LassoFinder$Program" 55 ⟨"java/util/Arrays", "fill", "([II)V"⟩ ∈ zTB := z_in (zt_3 _ (List.mem_of_getElem? (i := 121) rfl)) rfl
theorem zn_308 : Cond.methodLink "LassoFinder$ModelReader" 76 ⟨"LassoFinder$Text", "accept", "(C)Z"⟩ ∈ zTB := z_in (zt_3 _ (List.mem_of_getElem? (i := 130) rfl)) rfl
theorem zn_309 : Cond.methodLink "LassoFinder$Text" 28 ⟨"LassoFinder$Text", "ahead", "()C"⟩ ∈ zTB := z_in (zt_3 _ (List.mem_of_getElem? (i := 134) rfl)) rfl
theorem zn_310 : Cond.methodLink "LassoFinder$ModelReader" 80 ⟨"LassoFinder$Text", "oneOf", "(C)I"⟩ ∈ zTB := z_in (zt_3 _ (List.mem_of_getElem? (i := 135) rfl)) rfl
theorem zn_312 : Cond.methodLink "LassoFinder$ModelReader" 62 ⟨"LassoFinder$Text", "refuse", "()V"⟩ ∈ zTB := z_in (zt_3 _ (List.mem_of_getElem? (i := 143) rfl)) rfl
theorem zn_314 : Cond.methodLink "LassoFinder$ModelReader" 65 ⟨"LassoFinder$Text", "skip", "()V"⟩ ∈ zTB := z_in (zt_3 _ (List.mem_of_getElem? (i := 211) rfl)) rfl
theorem zn_327 : Cond.methodLink "LassoFinder$Tree" 63 ⟨"LassoFinder$Tree", "loopInside", "(I)I"⟩ ∈ zTB := z_in (zt_4 _ (List.mem_of_getElem? (i := 14) rfl)) rfl
theorem zn_328 : Cond.methodLink "LassoFinder$Tree" 67 ⟨"LassoFinder$Tree", "atomicInside", "(I)I"⟩ ∈ zTB := z_in (zt_4 _ (List.mem_of_getElem? (i := 18) rfl)) rfl
theorem zn_366 : Cond.fieldLink "LassoFinder$ModelReader" 9 "LassoFinder$ModelReader" "text" "LLassoFinder$Text;" ∈ zTB := z_in (zt_2 _ (List.mem_of_getElem? (i := 22) rfl)) rfl
theorem zn_368 : Cond.fieldLink "LassoFinder$ModelReader" 30 "LassoFinder$ModelReader" "tree" "LLassoFinder$Tree;" ∈ zTB := z_in (zt_2 _ (List.mem_of_getElem? (i := 26) rfl)) rfl
theorem zn_371 : Cond.fieldLink "LassoFinder$ModelReader" 111 "LassoFinder$Tree" "labelled" "[I" ∈ zTB := z_in (zt_1 _ (List.mem_of_getElem? (i := 228) rfl)) rfl
theorem zn_372 : Cond.fieldLink "LassoFinder$ModelReader" 107 "LassoFinder$Tree" "size" "I" ∈ zTB := z_in (zt_1 _ (List.mem_of_getElem? (i := 232) rfl)) rfl
theorem zn_379 : Cond.fieldLink "LassoFinder$Terms" 31 "LassoFinder$Terms" "length" "I" ∈ zTB := z_in (zt_1 _ (List.mem_of_getElem? (i := 168) rfl)) rfl
theorem zn_383 : Cond.fieldLink "LassoFinder$Names" 28 "LassoFinder$Names" "variables" "I" ∈ zTB := z_in (zt_1 _ (List.mem_of_getElem? (i := 72) rfl)) rfl
theorem zn_384 : Cond.fieldLink "LassoFinder$Names" 32 "LassoFinder$Names" "channels" "I" ∈ zTB := z_in (zt_1 _ (List.mem_of_getElem? (i := 74) rfl)) rfl
theorem zn_385 : Cond.fieldLink "LassoFinder$Program" 58 "LassoFinder$Program" "elses" "J" ∈ zTB := z_in (zt_1 _ (List.mem_of_getElem? (i := 117) rfl)) rfl
theorem zn_386 : Cond.fieldLink "LassoFinder$Program" 62 "LassoFinder$Program" "basics" "I" ∈ zTB := z_in (zt_1 _ (List.mem_of_getElem? (i := 119) rfl)) rfl
theorem zn_387 : Cond.fieldLink "LassoFinder$Program" 66 "LassoFinder$Program" "processes" "I" ∈ zTB := z_in (zt_1 _ (List.mem_of_getElem? (i := 123) rfl)) rfl
theorem zn_500 : Cond.code ⟨"LassoFinder$Text", "skip", "()V"⟩ prog_10_method_7_code 1 none ∈ zTB := z_in (zt_3 _ (List.mem_of_getElem? (i := 214) rfl)) rfl
theorem zn_501 : Cond.selects "LassoFinder$Text" ⟨"LassoFinder$Text", "skip", "()V"⟩ ⟨"LassoFinder$Text", "skip", "()V"⟩ ∈ zTB := z_in (zt_3 _ (List.mem_of_getElem? (i := 213) rfl)) rfl
theorem zn_502 : Cond.instanceMethod ⟨"LassoFinder$Text", "skip", "()V"⟩ ∈ zTB := z_in (zt_3 _ (List.mem_of_getElem? (i := 212) rfl)) rfl
theorem zn_503 : Cond.code ⟨"LassoFinder$Text", "refuse", "()V"⟩ prog_10_method_11_code 1 none ∈ zTB := z_in (zt_3 _ (List.mem_of_getElem? (i := 146) rfl)) rfl
theorem zn_504 : Cond.selects "LassoFinder$Text" ⟨"LassoFinder$Text", "refuse", "()V"⟩ ⟨"LassoFinder$Text", "refuse", "()V"⟩ ∈ zTB := z_in (zt_3 _ (List.mem_of_getElem? (i := 145) rfl)) rfl
theorem zn_505 : Cond.instanceMethod ⟨"LassoFinder$Text", "refuse", "()V"⟩ ∈ zTB := z_in (zt_3 _ (List.mem_of_getElem? (i := 144) rfl)) rfl
theorem zn_506 : Cond.code ⟨"LassoFinder$Text", "ahead", "()C"⟩ prog_10_method_5_code 1 (some .char) ∈ zTB := z_in (zt_3 _ (List.mem_of_getElem? (i := 125) rfl)) rfl
theorem zn_507 : Cond.selects "LassoFinder$Text" ⟨"LassoFinder$Text", "ahead", "()C"⟩ ⟨"LassoFinder$Text", "ahead", "()C"⟩ ∈ zTB := z_in (zt_3 _ (List.mem_of_getElem? (i := 124) rfl)) rfl
theorem zn_508 : Cond.instanceMethod ⟨"LassoFinder$Text", "ahead", "()C"⟩ ∈ zTB := z_in (zt_3 _ (List.mem_of_getElem? (i := 123) rfl)) rfl
theorem zn_509 : Cond.code ⟨"LassoFinder$Text", "accept", "(C)Z"⟩ prog_10_method_8_code 2 (some .boolean) ∈ zTB := z_in (zt_3 _ (List.mem_of_getElem? (i := 133) rfl)) rfl
theorem zn_510 : Cond.selects "LassoFinder$Text" ⟨"LassoFinder$Text", "accept", "(C)Z"⟩ ⟨"LassoFinder$Text", "accept", "(C)Z"⟩ ∈ zTB := z_in (zt_3 _ (List.mem_of_getElem? (i := 132) rfl)) rfl
theorem zn_511 : Cond.instanceMethod ⟨"LassoFinder$Text", "accept", "(C)Z"⟩ ∈ zTB := z_in (zt_3 _ (List.mem_of_getElem? (i := 131) rfl)) rfl
theorem zn_512 : Cond.code ⟨"LassoFinder$Text", "oneOf", "(C)I"⟩ prog_10_method_6_code 3 (some .int) ∈ zTB := z_in (zt_3 _ (List.mem_of_getElem? (i := 138) rfl)) rfl
theorem zn_513 : Cond.selects "LassoFinder$Text" ⟨"LassoFinder$Text", "oneOf", "(C)I"⟩ ⟨"LassoFinder$Text", "oneOf", "(C)I"⟩ ∈ zTB := z_in (zt_3 _ (List.mem_of_getElem? (i := 137) rfl)) rfl
theorem zn_514 : Cond.instanceMethod ⟨"LassoFinder$Text", "oneOf", "(C)I"⟩ ∈ zTB := z_in (zt_3 _ (List.mem_of_getElem? (i := 136) rfl)) rfl
theorem zn_515 : Cond.code ⟨"LassoFinder$Tree", "loopInside", "(I)I"⟩ prog_11_method_4_code 2 (some .int) ∈ zTB := z_in (zt_4 _ (List.mem_of_getElem? (i := 17) rfl)) rfl
theorem zn_516 : Cond.selects "LassoFinder$Tree" ⟨"LassoFinder$Tree", "loopInside", "(I)I"⟩ ⟨"LassoFinder$Tree", "loopInside", "(I)I"⟩ ∈ zTB := z_in (zt_4 _ (List.mem_of_getElem? (i := 16) rfl)) rfl
theorem zn_517 : Cond.instanceMethod ⟨"LassoFinder$Tree", "loopInside", "(I)I"⟩ ∈ zTB := z_in (zt_4 _ (List.mem_of_getElem? (i := 15) rfl)) rfl
theorem zn_518 : Cond.code ⟨"LassoFinder$Tree", "atomicInside", "(I)I"⟩ prog_11_method_5_code 2 (some .int) ∈ zTB := z_in (zt_4 _ (List.mem_of_getElem? (i := 21) rfl)) rfl
theorem zn_519 : Cond.selects "LassoFinder$Tree" ⟨"LassoFinder$Tree", "atomicInside", "(I)I"⟩ ⟨"LassoFinder$Tree", "atomicInside", "(I)I"⟩ ∈ zTB := z_in (zt_4 _ (List.mem_of_getElem? (i := 20) rfl)) rfl
theorem zn_520 : Cond.instanceMethod ⟨"LassoFinder$Tree", "atomicInside", "(I)I"⟩ ∈ zTB := z_in (zt_4 _ (List.mem_of_getElem? (i := 19) rfl)) rfl
theorem zf_Text_skip : zFaceV zy_Text_skip prog_10_method_7_code 1 none 0 := ⟨zn_502, zn_501, zm_19, zn_500, by decide +kernel, by decide +kernel, by decide +kernel⟩
theorem zf_Text_refuse : zFaceV zy_Text_refuse prog_10_method_11_code 1 none 0 := ⟨zn_505, zn_504, zm_19, zn_503, by decide +kernel, by decide +kernel, by decide +kernel⟩
theorem zf_Text_ahead : zFaceV zy_Text_ahead prog_10_method_5_code 1 (some .char) 0 := ⟨zn_508, zn_507, zm_19, zn_506, by decide +kernel, by decide +kernel, by decide +kernel⟩
theorem zf_Text_accept : zFaceV zy_Text_accept prog_10_method_8_code 2 (some .boolean) 1 := ⟨zn_511, zn_510, zm_19, zn_509, by decide +kernel, by decide +kernel, by decide +kernel⟩
theorem zf_Text_oneOf : zFaceV zy_Text_oneOf prog_10_method_6_code 3 (some .int) 1 := ⟨zn_514, zn_513, zm_19, zn_512, by decide +kernel, by decide +kernel, by decide +kernel⟩
theorem zf_Tree_loopInside : zFaceV zy_Tree_loopInside prog_11_method_4_code 2 (some .int) 1 := ⟨zn_517, zn_516, zm_21, zn_515, by decide +kernel, by decide +kernel, by decide +kernel⟩
theorem zf_Tree_atomicInside : zFaceV zy_Tree_atomicInside prog_11_method_5_code 2 (some .int) 1 := ⟨zn_520, zn_519, zm_21, zn_518, by decide +kernel, by decide +kernel, by decide +kernel⟩
theorem zd_ModelReader_readLabels_0 : decode prog_5_method_7_code 0 = .ok (.iconst 0, 1) := by decide +kernel
theorem zd_ModelReader_readLabels_1 : decode prog_5_method_7_code 1 = .ok (.istore_n 1, 1) := by decide +kernel
theorem zd_ModelReader_readLabels_2 : decode prog_5_method_7_code 2 = .ok (.iload_n 1, 1) := by decide +kernel
theorem zd_ModelReader_readLabels_3 : decode prog_5_method_7_code 3 = .ok (.sipush 240, 3) := by decide +kernel
theorem zd_ModelReader_readLabels_6 : decode prog_5_method_7_code 6 = .ok (.if_icmp .ge 80, 3) := by decide +kernel
theorem zd_ModelReader_readLabels_9 : decode prog_5_method_7_code 9 = .ok (.aload_n 0, 1) := by decide +kernel
theorem zd_ModelReader_readLabels_10 : decode prog_5_method_7_code 10 = .ok (.getfield 9, 3) := by decide +kernel
theorem zd_ModelReader_readLabels_13 : decode prog_5_method_7_code 13 = .ok (.bipush 58, 2) := by decide +kernel
theorem zd_ModelReader_readLabels_15 : decode prog_5_method_7_code 15 = .ok (.invokevirtual 76, 3) := by decide +kernel
theorem zd_ModelReader_readLabels_18 : decode prog_5_method_7_code 18 = .ok (.ifCond .eq 68, 3) := by decide +kernel
theorem zd_ModelReader_readLabels_21 : decode prog_5_method_7_code 21 = .ok (.aload_n 0, 1) := by decide +kernel
theorem zd_ModelReader_readLabels_22 : decode prog_5_method_7_code 22 = .ok (.getfield 9, 3) := by decide +kernel
theorem zd_ModelReader_readLabels_25 : decode prog_5_method_7_code 25 = .ok (.bipush 65, 2) := by decide +kernel
theorem zd_ModelReader_readLabels_27 : decode prog_5_method_7_code 27 = .ok (.invokevirtual 80, 3) := by decide +kernel
theorem zd_ModelReader_readLabels_30 : decode prog_5_method_7_code 30 = .ok (.istore_n 2, 1) := by decide +kernel
theorem zd_ModelReader_readLabels_31 : decode prog_5_method_7_code 31 = .ok (.iload_n 2, 1) := by decide +kernel
theorem zd_ModelReader_readLabels_32 : decode prog_5_method_7_code 32 = .ok (.iconst (-1), 1) := by decide +kernel
theorem zd_ModelReader_readLabels_33 : decode prog_5_method_7_code 33 = .ok (.if_icmp .eq 17, 3) := by decide +kernel
theorem zd_ModelReader_readLabels_36 : decode prog_5_method_7_code 36 = .ok (.aload_n 0, 1) := by decide +kernel
theorem zd_ModelReader_readLabels_37 : decode prog_5_method_7_code 37 = .ok (.getfield 30, 3) := by decide +kernel
theorem zd_ModelReader_readLabels_40 : decode prog_5_method_7_code 40 = .ok (.getfield 111, 3) := by decide +kernel
theorem zd_ModelReader_readLabels_43 : decode prog_5_method_7_code 43 = .ok (.iload_n 2, 1) := by decide +kernel
theorem zd_ModelReader_readLabels_44 : decode prog_5_method_7_code 44 = .ok (.iaload, 1) := by decide +kernel
theorem zd_ModelReader_readLabels_45 : decode prog_5_method_7_code 45 = .ok (.bipush (-3), 2) := by decide +kernel
theorem zd_ModelReader_readLabels_47 : decode prog_5_method_7_code 47 = .ok (.if_icmp .eq 10, 3) := by decide +kernel
theorem zd_ModelReader_readLabels_50 : decode prog_5_method_7_code 50 = .ok (.aload_n 0, 1) := by decide +kernel
theorem zd_ModelReader_readLabels_51 : decode prog_5_method_7_code 51 = .ok (.getfield 9, 3) := by decide +kernel
theorem zd_ModelReader_readLabels_54 : decode prog_5_method_7_code 54 = .ok (.invokevirtual 62, 3) := by decide +kernel
theorem zd_ModelReader_readLabels_57 : decode prog_5_method_7_code 57 = .ok (.aload_n 0, 1) := by decide +kernel
theorem zd_ModelReader_readLabels_58 : decode prog_5_method_7_code 58 = .ok (.getfield 9, 3) := by decide +kernel
theorem zd_ModelReader_readLabels_61 : decode prog_5_method_7_code 61 = .ok (.invokevirtual 65, 3) := by decide +kernel
theorem zd_ModelReader_readLabels_64 : decode prog_5_method_7_code 64 = .ok (.aload_n 0, 1) := by decide +kernel
theorem zd_ModelReader_readLabels_65 : decode prog_5_method_7_code 65 = .ok (.getfield 30, 3) := by decide +kernel
theorem zd_ModelReader_readLabels_68 : decode prog_5_method_7_code 68 = .ok (.getfield 111, 3) := by decide +kernel
theorem zd_ModelReader_readLabels_71 : decode prog_5_method_7_code 71 = .ok (.iload_n 2, 1) := by decide +kernel
theorem zd_ModelReader_readLabels_72 : decode prog_5_method_7_code 72 = .ok (.aload_n 0, 1) := by decide +kernel
theorem zd_ModelReader_readLabels_73 : decode prog_5_method_7_code 73 = .ok (.getfield 30, 3) := by decide +kernel
theorem zd_ModelReader_readLabels_76 : decode prog_5_method_7_code 76 = .ok (.getfield 107, 3) := by decide +kernel
theorem zd_ModelReader_readLabels_79 : decode prog_5_method_7_code 79 = .ok (.iastore, 1) := by decide +kernel
theorem zd_ModelReader_readLabels_80 : decode prog_5_method_7_code 80 = .ok (.iinc 1 1, 3) := by decide +kernel
theorem zd_ModelReader_readLabels_83 : decode prog_5_method_7_code 83 = .ok (.goto (-81), 3) := by decide +kernel
theorem zd_ModelReader_readLabels_86 : decode prog_5_method_7_code 86 = .ok (.return_, 1) := by decide +kernel
theorem zd_Names_clear_0 : decode prog_6_method_2_code 0 = .ok (.aload_n 0, 1) := by decide +kernel
theorem zd_Names_clear_1 : decode prog_6_method_2_code 1 = .ok (.getfield 9, 3) := by decide +kernel
theorem zd_Names_clear_4 : decode prog_6_method_2_code 4 = .ok (.iconst 0, 1) := by decide +kernel
theorem zd_Names_clear_5 : decode prog_6_method_2_code 5 = .ok (.invokestatic 22, 3) := by decide +kernel
theorem zd_Names_clear_8 : decode prog_6_method_2_code 8 = .ok (.aload_n 0, 1) := by decide +kernel
theorem zd_Names_clear_9 : decode prog_6_method_2_code 9 = .ok (.iconst 0, 1) := by decide +kernel
theorem zd_Names_clear_10 : decode prog_6_method_2_code 10 = .ok (.putfield 28, 3) := by decide +kernel
theorem zd_Names_clear_13 : decode prog_6_method_2_code 13 = .ok (.aload_n 0, 1) := by decide +kernel
theorem zd_Names_clear_14 : decode prog_6_method_2_code 14 = .ok (.iconst 0, 1) := by decide +kernel
theorem zd_Names_clear_15 : decode prog_6_method_2_code 15 = .ok (.putfield 32, 3) := by decide +kernel
theorem zd_Names_clear_18 : decode prog_6_method_2_code 18 = .ok (.return_, 1) := by decide +kernel
theorem zd_Names_declare_0 : decode prog_6_method_4_code 0 = .ok (.aload_n 0, 1) := by decide +kernel
theorem zd_Names_declare_1 : decode prog_6_method_4_code 1 = .ok (.getfield 9, 3) := by decide +kernel
theorem zd_Names_declare_4 : decode prog_6_method_4_code 4 = .ok (.iload_n 1, 1) := by decide +kernel
theorem zd_Names_declare_5 : decode prog_6_method_4_code 5 = .ok (.iload_n 2, 1) := by decide +kernel
theorem zd_Names_declare_6 : decode prog_6_method_4_code 6 = .ok (.iastore, 1) := by decide +kernel
theorem zd_Names_declare_7 : decode prog_6_method_4_code 7 = .ok (.aload_n 0, 1) := by decide +kernel
theorem zd_Names_declare_8 : decode prog_6_method_4_code 8 = .ok (.getfield 13, 3) := by decide +kernel
theorem zd_Names_declare_11 : decode prog_6_method_4_code 11 = .ok (.iload_n 1, 1) := by decide +kernel
theorem zd_Names_declare_12 : decode prog_6_method_4_code 12 = .ok (.iload_n 3, 1) := by decide +kernel
theorem zd_Names_declare_13 : decode prog_6_method_4_code 13 = .ok (.iastore, 1) := by decide +kernel
theorem zd_Names_declare_14 : decode prog_6_method_4_code 14 = .ok (.iload_n 2, 1) := by decide +kernel
theorem zd_Names_declare_15 : decode prog_6_method_4_code 15 = .ok (.iconst 1, 1) := by decide +kernel
theorem zd_Names_declare_16 : decode prog_6_method_4_code 16 = .ok (.if_icmp .ne 26, 3) := by decide +kernel
theorem zd_Names_declare_19 : decode prog_6_method_4_code 19 = .ok (.aload_n 0, 1) := by decide +kernel
theorem zd_Names_declare_20 : decode prog_6_method_4_code 20 = .ok (.getfield 16, 3) := by decide +kernel
theorem zd_Names_declare_23 : decode prog_6_method_4_code 23 = .ok (.aload_n 0, 1) := by decide +kernel
theorem zd_Names_declare_24 : decode prog_6_method_4_code 24 = .ok (.getfield 28, 3) := by decide +kernel
theorem zd_Names_declare_27 : decode prog_6_method_4_code 27 = .ok (.iload_n 1, 1) := by decide +kernel
theorem zd_Names_declare_28 : decode prog_6_method_4_code 28 = .ok (.iastore, 1) := by decide +kernel
theorem zd_Names_declare_29 : decode prog_6_method_4_code 29 = .ok (.aload_n 0, 1) := by decide +kernel
theorem zd_Names_declare_30 : decode prog_6_method_4_code 30 = .ok (.dup, 1) := by decide +kernel
theorem zd_Names_declare_31 : decode prog_6_method_4_code 31 = .ok (.getfield 28, 3) := by decide +kernel
theorem zd_Names_declare_34 : decode prog_6_method_4_code 34 = .ok (.iconst 1, 1) := by decide +kernel
theorem zd_Names_declare_35 : decode prog_6_method_4_code 35 = .ok (.iadd, 1) := by decide +kernel
theorem zd_Names_declare_36 : decode prog_6_method_4_code 36 = .ok (.putfield 28, 3) := by decide +kernel
theorem zd_Names_declare_39 : decode prog_6_method_4_code 39 = .ok (.goto 23, 3) := by decide +kernel
theorem zd_Names_declare_42 : decode prog_6_method_4_code 42 = .ok (.aload_n 0, 1) := by decide +kernel
theorem zd_Names_declare_43 : decode prog_6_method_4_code 43 = .ok (.getfield 19, 3) := by decide +kernel
theorem zd_Names_declare_46 : decode prog_6_method_4_code 46 = .ok (.aload_n 0, 1) := by decide +kernel
theorem zd_Names_declare_47 : decode prog_6_method_4_code 47 = .ok (.getfield 32, 3) := by decide +kernel
theorem zd_Names_declare_50 : decode prog_6_method_4_code 50 = .ok (.iload_n 1, 1) := by decide +kernel
theorem zd_Names_declare_51 : decode prog_6_method_4_code 51 = .ok (.iastore, 1) := by decide +kernel
theorem zd_Names_declare_52 : decode prog_6_method_4_code 52 = .ok (.aload_n 0, 1) := by decide +kernel
theorem zd_Names_declare_53 : decode prog_6_method_4_code 53 = .ok (.dup, 1) := by decide +kernel
theorem zd_Names_declare_54 : decode prog_6_method_4_code 54 = .ok (.getfield 32, 3) := by decide +kernel
theorem zd_Names_declare_57 : decode prog_6_method_4_code 57 = .ok (.iconst 1, 1) := by decide +kernel
theorem zd_Names_declare_58 : decode prog_6_method_4_code 58 = .ok (.iadd, 1) := by decide +kernel
theorem zd_Names_declare_59 : decode prog_6_method_4_code 59 = .ok (.putfield 32, 3) := by decide +kernel
theorem zd_Names_declare_62 : decode prog_6_method_4_code 62 = .ok (.return_, 1) := by decide +kernel
theorem zd_Program_clear_0 : decode prog_7_method_2_code 0 = .ok (.aload_n 0, 1) := by decide +kernel
theorem zd_Program_clear_1 : decode prog_7_method_2_code 1 = .ok (.getfield 36, 3) := by decide +kernel
theorem zd_Program_clear_4 : decode prog_7_method_2_code 4 = .ok (.lconst 0, 1) := by decide +kernel
theorem zd_Program_clear_5 : decode prog_7_method_2_code 5 = .ok (.invokestatic 49, 3) := by decide +kernel
theorem zd_Program_clear_8 : decode prog_7_method_2_code 8 = .ok (.aload_n 0, 1) := by decide +kernel
theorem zd_Program_clear_9 : decode prog_7_method_2_code 9 = .ok (.getfield 40, 3) := by decide +kernel
theorem zd_Program_clear_12 : decode prog_7_method_2_code 12 = .ok (.iconst 0, 1) := by decide +kernel
theorem zd_Program_clear_13 : decode prog_7_method_2_code 13 = .ok (.invokestatic 55, 3) := by decide +kernel
theorem zd_Program_clear_16 : decode prog_7_method_2_code 16 = .ok (.aload_n 0, 1) := by decide +kernel
theorem zd_Program_clear_17 : decode prog_7_method_2_code 17 = .ok (.getfield 43, 3) := by decide +kernel
theorem zd_Program_clear_20 : decode prog_7_method_2_code 20 = .ok (.iconst (-1), 1) := by decide +kernel
theorem zd_Program_clear_21 : decode prog_7_method_2_code 21 = .ok (.invokestatic 55, 3) := by decide +kernel
theorem zd_Program_clear_24 : decode prog_7_method_2_code 24 = .ok (.aload_n 0, 1) := by decide +kernel
theorem zd_Program_clear_25 : decode prog_7_method_2_code 25 = .ok (.getfield 46, 3) := by decide +kernel
theorem zd_Program_clear_28 : decode prog_7_method_2_code 28 = .ok (.lconst 0, 1) := by decide +kernel
theorem zd_Program_clear_29 : decode prog_7_method_2_code 29 = .ok (.invokestatic 49, 3) := by decide +kernel
theorem zd_Program_clear_32 : decode prog_7_method_2_code 32 = .ok (.aload_n 0, 1) := by decide +kernel
theorem zd_Program_clear_33 : decode prog_7_method_2_code 33 = .ok (.lconst 0, 1) := by decide +kernel
theorem zd_Program_clear_34 : decode prog_7_method_2_code 34 = .ok (.putfield 58, 3) := by decide +kernel
theorem zd_Program_clear_37 : decode prog_7_method_2_code 37 = .ok (.aload_n 0, 1) := by decide +kernel
theorem zd_Program_clear_38 : decode prog_7_method_2_code 38 = .ok (.iconst 0, 1) := by decide +kernel
theorem zd_Program_clear_39 : decode prog_7_method_2_code 39 = .ok (.putfield 62, 3) := by decide +kernel
theorem zd_Program_clear_42 : decode prog_7_method_2_code 42 = .ok (.aload_n 0, 1) := by decide +kernel
theorem zd_Program_clear_43 : decode prog_7_method_2_code 43 = .ok (.iconst 0, 1) := by decide +kernel
theorem zd_Program_clear_44 : decode prog_7_method_2_code 44 = .ok (.putfield 66, 3) := by decide +kernel
theorem zd_Program_clear_47 : decode prog_7_method_2_code 47 = .ok (.return_, 1) := by decide +kernel
theorem zd_Terms_clear_0 : decode prog_9_method_2_code 0 = .ok (.aload_n 0, 1) := by decide +kernel
theorem zd_Terms_clear_1 : decode prog_9_method_2_code 1 = .ok (.iconst 0, 1) := by decide +kernel
theorem zd_Terms_clear_2 : decode prog_9_method_2_code 2 = .ok (.putfield 31, 3) := by decide +kernel
theorem zd_Terms_clear_5 : decode prog_9_method_2_code 5 = .ok (.return_, 1) := by decide +kernel
theorem zd_Text_accept_0 : decode prog_10_method_8_code 0 = .ok (.aload_n 0, 1) := by decide +kernel
theorem zd_Text_accept_1 : decode prog_10_method_8_code 1 = .ok (.invokevirtual 28, 3) := by decide +kernel
theorem zd_Text_accept_4 : decode prog_10_method_8_code 4 = .ok (.iload_n 1, 1) := by decide +kernel
theorem zd_Text_accept_5 : decode prog_10_method_8_code 5 = .ok (.if_icmp .eq 5, 3) := by decide +kernel
theorem zd_Text_accept_8 : decode prog_10_method_8_code 8 = .ok (.iconst 0, 1) := by decide +kernel
theorem zd_Text_accept_9 : decode prog_10_method_8_code 9 = .ok (.ireturn, 1) := by decide +kernel
theorem zd_Text_accept_10 : decode prog_10_method_8_code 10 = .ok (.aload_n 0, 1) := by decide +kernel
theorem zd_Text_accept_11 : decode prog_10_method_8_code 11 = .ok (.dup, 1) := by decide +kernel
theorem zd_Text_accept_12 : decode prog_10_method_8_code 12 = .ok (.getfield 25, 3) := by decide +kernel
theorem zd_Text_accept_15 : decode prog_10_method_8_code 15 = .ok (.iconst 1, 1) := by decide +kernel
theorem zd_Text_accept_16 : decode prog_10_method_8_code 16 = .ok (.iadd, 1) := by decide +kernel
theorem zd_Text_accept_17 : decode prog_10_method_8_code 17 = .ok (.putfield 25, 3) := by decide +kernel
theorem zd_Text_accept_20 : decode prog_10_method_8_code 20 = .ok (.iconst 1, 1) := by decide +kernel
theorem zd_Text_accept_21 : decode prog_10_method_8_code 21 = .ok (.ireturn, 1) := by decide +kernel
theorem zd_Text_oneOf_0 : decode prog_10_method_6_code 0 = .ok (.aload_n 0, 1) := by decide +kernel
theorem zd_Text_oneOf_1 : decode prog_10_method_6_code 1 = .ok (.getfield 25, 3) := by decide +kernel
theorem zd_Text_oneOf_4 : decode prog_10_method_6_code 4 = .ok (.aload_n 0, 1) := by decide +kernel
theorem zd_Text_oneOf_5 : decode prog_10_method_6_code 5 = .ok (.getfield 22, 3) := by decide +kernel
theorem zd_Text_oneOf_8 : decode prog_10_method_6_code 8 = .ok (.if_icmp .ge 17, 3) := by decide +kernel
theorem zd_Text_oneOf_11 : decode prog_10_method_6_code 11 = .ok (.aload_n 0, 1) := by decide +kernel
theorem zd_Text_oneOf_12 : decode prog_10_method_6_code 12 = .ok (.getfield 11, 3) := by decide +kernel
theorem zd_Text_oneOf_15 : decode prog_10_method_6_code 15 = .ok (.aload_n 0, 1) := by decide +kernel
theorem zd_Text_oneOf_16 : decode prog_10_method_6_code 16 = .ok (.getfield 25, 3) := by decide +kernel
theorem zd_Text_oneOf_19 : decode prog_10_method_6_code 19 = .ok (.caload, 1) := by decide +kernel
theorem zd_Text_oneOf_20 : decode prog_10_method_6_code 20 = .ok (.iload_n 1, 1) := by decide +kernel
theorem zd_Text_oneOf_21 : decode prog_10_method_6_code 21 = .ok (.isub, 1) := by decide +kernel
theorem zd_Text_oneOf_22 : decode prog_10_method_6_code 22 = .ok (.goto 4, 3) := by decide +kernel
theorem zd_Text_oneOf_25 : decode prog_10_method_6_code 25 = .ok (.iconst (-1), 1) := by decide +kernel
theorem zd_Text_oneOf_26 : decode prog_10_method_6_code 26 = .ok (.istore_n 2, 1) := by decide +kernel
theorem zd_Text_oneOf_27 : decode prog_10_method_6_code 27 = .ok (.iload_n 2, 1) := by decide +kernel
theorem zd_Text_oneOf_28 : decode prog_10_method_6_code 28 = .ok (.ifCond .lt 13, 3) := by decide +kernel
theorem zd_Text_oneOf_31 : decode prog_10_method_6_code 31 = .ok (.iload_n 2, 1) := by decide +kernel
theorem zd_Text_oneOf_32 : decode prog_10_method_6_code 32 = .ok (.bipush 8, 2) := by decide +kernel
theorem zd_Text_oneOf_34 : decode prog_10_method_6_code 34 = .ok (.if_icmp .ge 7, 3) := by decide +kernel
theorem zd_Text_oneOf_37 : decode prog_10_method_6_code 37 = .ok (.iload_n 2, 1) := by decide +kernel
theorem zd_Text_oneOf_38 : decode prog_10_method_6_code 38 = .ok (.goto 4, 3) := by decide +kernel
theorem zd_Text_oneOf_41 : decode prog_10_method_6_code 41 = .ok (.iconst (-1), 1) := by decide +kernel
theorem zd_Text_oneOf_42 : decode prog_10_method_6_code 42 = .ok (.ireturn, 1) := by decide +kernel
theorem zd_Tree_add_0 : decode prog_11_method_3_code 0 = .ok (.aload_n 0, 1) := by decide +kernel
theorem zd_Tree_add_1 : decode prog_11_method_3_code 1 = .ok (.getfield 50, 3) := by decide +kernel
theorem zd_Tree_add_4 : decode prog_11_method_3_code 4 = .ok (.istore 4, 2) := by decide +kernel
theorem zd_Tree_add_6 : decode prog_11_method_3_code 6 = .ok (.aload_n 0, 1) := by decide +kernel
theorem zd_Tree_add_7 : decode prog_11_method_3_code 7 = .ok (.dup, 1) := by decide +kernel
theorem zd_Tree_add_8 : decode prog_11_method_3_code 8 = .ok (.getfield 50, 3) := by decide +kernel
theorem zd_Tree_add_11 : decode prog_11_method_3_code 11 = .ok (.iconst 1, 1) := by decide +kernel
theorem zd_Tree_add_12 : decode prog_11_method_3_code 12 = .ok (.iadd, 1) := by decide +kernel
theorem zd_Tree_add_13 : decode prog_11_method_3_code 13 = .ok (.putfield 50, 3) := by decide +kernel
theorem zd_Tree_add_16 : decode prog_11_method_3_code 16 = .ok (.aload_n 0, 1) := by decide +kernel
theorem zd_Tree_add_17 : decode prog_11_method_3_code 17 = .ok (.getfield 11, 3) := by decide +kernel
theorem zd_Tree_add_20 : decode prog_11_method_3_code 20 = .ok (.iload 4, 2) := by decide +kernel
theorem zd_Tree_add_22 : decode prog_11_method_3_code 22 = .ok (.iload_n 1, 1) := by decide +kernel
theorem zd_Tree_add_23 : decode prog_11_method_3_code 23 = .ok (.iastore, 1) := by decide +kernel
theorem zd_Tree_add_24 : decode prog_11_method_3_code 24 = .ok (.aload_n 0, 1) := by decide +kernel
theorem zd_Tree_add_25 : decode prog_11_method_3_code 25 = .ok (.getfield 17, 3) := by decide +kernel
theorem zd_Tree_add_28 : decode prog_11_method_3_code 28 = .ok (.iload 4, 2) := by decide +kernel
theorem zd_Tree_add_30 : decode prog_11_method_3_code 30 = .ok (.iload_n 2, 1) := by decide +kernel
theorem zd_Tree_add_31 : decode prog_11_method_3_code 31 = .ok (.iastore, 1) := by decide +kernel
theorem zd_Tree_add_32 : decode prog_11_method_3_code 32 = .ok (.aload_n 0, 1) := by decide +kernel
theorem zd_Tree_add_33 : decode prog_11_method_3_code 33 = .ok (.getfield 20, 3) := by decide +kernel
theorem zd_Tree_add_36 : decode prog_11_method_3_code 36 = .ok (.iload 4, 2) := by decide +kernel
theorem zd_Tree_add_38 : decode prog_11_method_3_code 38 = .ok (.aload_n 0, 1) := by decide +kernel
theorem zd_Tree_add_39 : decode prog_11_method_3_code 39 = .ok (.iload_n 2, 1) := by decide +kernel
theorem zd_Tree_add_40 : decode prog_11_method_3_code 40 = .ok (.invokevirtual 63, 3) := by decide +kernel
theorem zd_Tree_add_43 : decode prog_11_method_3_code 43 = .ok (.iastore, 1) := by decide +kernel
theorem zd_Tree_add_44 : decode prog_11_method_3_code 44 = .ok (.aload_n 0, 1) := by decide +kernel
theorem zd_Tree_add_45 : decode prog_11_method_3_code 45 = .ok (.getfield 23, 3) := by decide +kernel
theorem zd_Tree_add_48 : decode prog_11_method_3_code 48 = .ok (.iload 4, 2) := by decide +kernel
theorem zd_Tree_add_50 : decode prog_11_method_3_code 50 = .ok (.aload_n 0, 1) := by decide +kernel
theorem zd_Tree_add_51 : decode prog_11_method_3_code 51 = .ok (.iload_n 2, 1) := by decide +kernel
theorem zd_Tree_add_52 : decode prog_11_method_3_code 52 = .ok (.invokevirtual 67, 3) := by decide +kernel
theorem zd_Tree_add_55 : decode prog_11_method_3_code 55 = .ok (.iastore, 1) := by decide +kernel
theorem zd_Tree_add_56 : decode prog_11_method_3_code 56 = .ok (.aload_n 0, 1) := by decide +kernel
theorem zd_Tree_add_57 : decode prog_11_method_3_code 57 = .ok (.getfield 26, 3) := by decide +kernel
theorem zd_Tree_add_60 : decode prog_11_method_3_code 60 = .ok (.iload 4, 2) := by decide +kernel
theorem zd_Tree_add_62 : decode prog_11_method_3_code 62 = .ok (.iload_n 3, 1) := by decide +kernel
theorem zd_Tree_add_63 : decode prog_11_method_3_code 63 = .ok (.iconst (-1), 1) := by decide +kernel
theorem zd_Tree_add_64 : decode prog_11_method_3_code 64 = .ok (.if_icmp .ne 7, 3) := by decide +kernel
theorem zd_Tree_add_67 : decode prog_11_method_3_code 67 = .ok (.iconst 1, 1) := by decide +kernel
theorem zd_Tree_add_68 : decode prog_11_method_3_code 68 = .ok (.goto 4, 3) := by decide +kernel
theorem zd_Tree_add_71 : decode prog_11_method_3_code 71 = .ok (.iconst 0, 1) := by decide +kernel
theorem zd_Tree_add_72 : decode prog_11_method_3_code 72 = .ok (.bastore, 1) := by decide +kernel
theorem zd_Tree_add_73 : decode prog_11_method_3_code 73 = .ok (.aload_n 0, 1) := by decide +kernel
theorem zd_Tree_add_74 : decode prog_11_method_3_code 74 = .ok (.getfield 30, 3) := by decide +kernel
theorem zd_Tree_add_77 : decode prog_11_method_3_code 77 = .ok (.iload 4, 2) := by decide +kernel
theorem zd_Tree_add_79 : decode prog_11_method_3_code 79 = .ok (.iconst (-1), 1) := by decide +kernel
theorem zd_Tree_add_80 : decode prog_11_method_3_code 80 = .ok (.iastore, 1) := by decide +kernel
theorem zd_Tree_add_81 : decode prog_11_method_3_code 81 = .ok (.aload_n 0, 1) := by decide +kernel
theorem zd_Tree_add_82 : decode prog_11_method_3_code 82 = .ok (.getfield 36, 3) := by decide +kernel
theorem zd_Tree_add_85 : decode prog_11_method_3_code 85 = .ok (.iload 4, 2) := by decide +kernel
theorem zd_Tree_add_87 : decode prog_11_method_3_code 87 = .ok (.iconst (-1), 1) := by decide +kernel
theorem zd_Tree_add_88 : decode prog_11_method_3_code 88 = .ok (.iastore, 1) := by decide +kernel
theorem zd_Tree_add_89 : decode prog_11_method_3_code 89 = .ok (.iload_n 3, 1) := by decide +kernel
theorem zd_Tree_add_90 : decode prog_11_method_3_code 90 = .ok (.iconst (-1), 1) := by decide +kernel
theorem zd_Tree_add_91 : decode prog_11_method_3_code 91 = .ok (.if_icmp .eq 14, 3) := by decide +kernel
theorem zd_Tree_add_94 : decode prog_11_method_3_code 94 = .ok (.aload_n 0, 1) := by decide +kernel
theorem zd_Tree_add_95 : decode prog_11_method_3_code 95 = .ok (.getfield 30, 3) := by decide +kernel
theorem zd_Tree_add_98 : decode prog_11_method_3_code 98 = .ok (.iload_n 3, 1) := by decide +kernel
theorem zd_Tree_add_99 : decode prog_11_method_3_code 99 = .ok (.iload 4, 2) := by decide +kernel
theorem zd_Tree_add_101 : decode prog_11_method_3_code 101 = .ok (.iastore, 1) := by decide +kernel
theorem zd_Tree_add_102 : decode prog_11_method_3_code 102 = .ok (.goto 16, 3) := by decide +kernel
theorem zd_Tree_add_105 : decode prog_11_method_3_code 105 = .ok (.iload_n 2, 1) := by decide +kernel
theorem zd_Tree_add_106 : decode prog_11_method_3_code 106 = .ok (.iconst (-1), 1) := by decide +kernel
theorem zd_Tree_add_107 : decode prog_11_method_3_code 107 = .ok (.if_icmp .eq 11, 3) := by decide +kernel
theorem zd_Tree_add_110 : decode prog_11_method_3_code 110 = .ok (.aload_n 0, 1) := by decide +kernel
theorem zd_Tree_add_111 : decode prog_11_method_3_code 111 = .ok (.getfield 33, 3) := by decide +kernel
theorem zd_Tree_add_114 : decode prog_11_method_3_code 114 = .ok (.iload_n 2, 1) := by decide +kernel
theorem zd_Tree_add_115 : decode prog_11_method_3_code 115 = .ok (.iload 4, 2) := by decide +kernel
theorem zd_Tree_add_117 : decode prog_11_method_3_code 117 = .ok (.iastore, 1) := by decide +kernel
theorem zd_Tree_add_118 : decode prog_11_method_3_code 118 = .ok (.iload_n 1, 1) := by decide +kernel
theorem zd_Tree_add_119 : decode prog_11_method_3_code 119 = .ok (.iconst 2, 1) := by decide +kernel
theorem zd_Tree_add_120 : decode prog_11_method_3_code 120 = .ok (.if_icmp .gt 24, 3) := by decide +kernel
theorem zd_Tree_add_123 : decode prog_11_method_3_code 123 = .ok (.aload_n 0, 1) := by decide +kernel
theorem zd_Tree_add_124 : decode prog_11_method_3_code 124 = .ok (.getfield 36, 3) := by decide +kernel
theorem zd_Tree_add_127 : decode prog_11_method_3_code 127 = .ok (.iload 4, 2) := by decide +kernel
theorem zd_Tree_add_129 : decode prog_11_method_3_code 129 = .ok (.aload_n 0, 1) := by decide +kernel
theorem zd_Tree_add_130 : decode prog_11_method_3_code 130 = .ok (.getfield 54, 3) := by decide +kernel
theorem zd_Tree_add_133 : decode prog_11_method_3_code 133 = .ok (.iastore, 1) := by decide +kernel
theorem zd_Tree_add_134 : decode prog_11_method_3_code 134 = .ok (.aload_n 0, 1) := by decide +kernel
theorem zd_Tree_add_135 : decode prog_11_method_3_code 135 = .ok (.dup, 1) := by decide +kernel
theorem zd_Tree_add_136 : decode prog_11_method_3_code 136 = .ok (.getfield 54, 3) := by decide +kernel
theorem zd_Tree_add_139 : decode prog_11_method_3_code 139 = .ok (.iconst 1, 1) := by decide +kernel
theorem zd_Tree_add_140 : decode prog_11_method_3_code 140 = .ok (.iadd, 1) := by decide +kernel
theorem zd_Tree_add_141 : decode prog_11_method_3_code 141 = .ok (.putfield 54, 3) := by decide +kernel
theorem zd_Tree_add_144 : decode prog_11_method_3_code 144 = .ok (.iload 4, 2) := by decide +kernel
theorem zd_Tree_add_146 : decode prog_11_method_3_code 146 = .ok (.ireturn, 1) := by decide +kernel
theorem zd_Tree_atomicInside_0 : decode prog_11_method_5_code 0 = .ok (.iload_n 1, 1) := by decide +kernel
theorem zd_Tree_atomicInside_1 : decode prog_11_method_5_code 1 = .ok (.iconst (-1), 1) := by decide +kernel
theorem zd_Tree_atomicInside_2 : decode prog_11_method_5_code 2 = .ok (.if_icmp .ne 5, 3) := by decide +kernel
theorem zd_Tree_atomicInside_5 : decode prog_11_method_5_code 5 = .ok (.iconst (-1), 1) := by decide +kernel
theorem zd_Tree_atomicInside_6 : decode prog_11_method_5_code 6 = .ok (.ireturn, 1) := by decide +kernel
theorem zd_Tree_atomicInside_7 : decode prog_11_method_5_code 7 = .ok (.aload_n 0, 1) := by decide +kernel
theorem zd_Tree_atomicInside_8 : decode prog_11_method_5_code 8 = .ok (.getfield 11, 3) := by decide +kernel
theorem zd_Tree_atomicInside_11 : decode prog_11_method_5_code 11 = .ok (.iload_n 1, 1) := by decide +kernel
theorem zd_Tree_atomicInside_12 : decode prog_11_method_5_code 12 = .ok (.iaload, 1) := by decide +kernel
theorem zd_Tree_atomicInside_13 : decode prog_11_method_5_code 13 = .ok (.iconst 3, 1) := by decide +kernel
theorem zd_Tree_atomicInside_14 : decode prog_11_method_5_code 14 = .ok (.if_icmp .ne 7, 3) := by decide +kernel
theorem zd_Tree_atomicInside_17 : decode prog_11_method_5_code 17 = .ok (.iload_n 1, 1) := by decide +kernel
theorem zd_Tree_atomicInside_18 : decode prog_11_method_5_code 18 = .ok (.goto 9, 3) := by decide +kernel
theorem zd_Tree_atomicInside_21 : decode prog_11_method_5_code 21 = .ok (.aload_n 0, 1) := by decide +kernel
theorem zd_Tree_atomicInside_22 : decode prog_11_method_5_code 22 = .ok (.getfield 23, 3) := by decide +kernel
theorem zd_Tree_atomicInside_25 : decode prog_11_method_5_code 25 = .ok (.iload_n 1, 1) := by decide +kernel
theorem zd_Tree_atomicInside_26 : decode prog_11_method_5_code 26 = .ok (.iaload, 1) := by decide +kernel
theorem zd_Tree_atomicInside_27 : decode prog_11_method_5_code 27 = .ok (.ireturn, 1) := by decide +kernel
theorem zd_Tree_loopInside_0 : decode prog_11_method_4_code 0 = .ok (.iload_n 1, 1) := by decide +kernel
theorem zd_Tree_loopInside_1 : decode prog_11_method_4_code 1 = .ok (.iconst (-1), 1) := by decide +kernel
theorem zd_Tree_loopInside_2 : decode prog_11_method_4_code 2 = .ok (.if_icmp .ne 5, 3) := by decide +kernel
theorem zd_Tree_loopInside_5 : decode prog_11_method_4_code 5 = .ok (.iconst (-1), 1) := by decide +kernel
theorem zd_Tree_loopInside_6 : decode prog_11_method_4_code 6 = .ok (.ireturn, 1) := by decide +kernel
theorem zd_Tree_loopInside_7 : decode prog_11_method_4_code 7 = .ok (.aload_n 0, 1) := by decide +kernel
theorem zd_Tree_loopInside_8 : decode prog_11_method_4_code 8 = .ok (.getfield 11, 3) := by decide +kernel
theorem zd_Tree_loopInside_11 : decode prog_11_method_4_code 11 = .ok (.iload_n 1, 1) := by decide +kernel
theorem zd_Tree_loopInside_12 : decode prog_11_method_4_code 12 = .ok (.iaload, 1) := by decide +kernel
theorem zd_Tree_loopInside_13 : decode prog_11_method_4_code 13 = .ok (.iconst 2, 1) := by decide +kernel
theorem zd_Tree_loopInside_14 : decode prog_11_method_4_code 14 = .ok (.if_icmp .ne 7, 3) := by decide +kernel
theorem zd_Tree_loopInside_17 : decode prog_11_method_4_code 17 = .ok (.iload_n 1, 1) := by decide +kernel
theorem zd_Tree_loopInside_18 : decode prog_11_method_4_code 18 = .ok (.goto 9, 3) := by decide +kernel
theorem zd_Tree_loopInside_21 : decode prog_11_method_4_code 21 = .ok (.aload_n 0, 1) := by decide +kernel
theorem zd_Tree_loopInside_22 : decode prog_11_method_4_code 22 = .ok (.getfield 20, 3) := by decide +kernel
theorem zd_Tree_loopInside_25 : decode prog_11_method_4_code 25 = .ok (.iload_n 1, 1) := by decide +kernel
theorem zd_Tree_loopInside_26 : decode prog_11_method_4_code 26 = .ok (.iaload, 1) := by decide +kernel
theorem zd_Tree_loopInside_27 : decode prog_11_method_4_code 27 = .ok (.ireturn, 1) := by decide +kernel
def wp_Text_accept (I : Nat → Int32) (J : Nat → Int64) (B : Nat → Nat → Int32) (D : Nat → Nat → Int64) (a0 : Int32) (Post : Int32 → (Nat → Int32) → (Nat → Int64) → (Nat → Nat → Int32) → (Nat → Nat → Int64) → Prop) : Prop :=
  wp_Text_ahead I J B D  (fun r1 I1 J1 B1 D1 => ((r1 = a0 → ∀ z3 : Int32, z3 = ((I1 5) + 1) → Post 1 (upd I1 5 z3) J1 B1 D1) ∧ (¬ r1 = a0 → Post 0 I1 J1 B1 D1)))
set_option maxHeartbeats 8000000 in
set_option maxRecDepth 100000 in
theorem w_Text_accept (l : Launch) (G : va_G) (K : Nat → ClassId) (ad : Nat → Nat) (sv : Value) (I : Nat → Int32) (J : Nat → Int64) (B : Nat → Nat → Int32) (D : Nat → Nat → Int64) (a0 : Int32) (Post : Int32 → (Nat → Int32) → (Nat → Int64) → (Nat → Nat → Int32) → (Nat → Nat → Int64) → Prop) (sz : Nat) (hok : wp_Text_accept I J B D a0 Post) : Met l zy_Text_accept (Cond.code zy_Text_accept prog_10_method_8_code 2 (some .boolean) :: zTB) { frames := 1, cells := 0, slots := 0, locals := 20 } (va_Pc [.ref (ad 1), .int a0] (zPre G K (wX ad K sv I J B D) sz)) (va_Qi (fun (r : Int32) (u : zS) => Post r u.1 u.2.1 u.2.2.1 u.2.2.2) (fun u t => zPost G K (va_A (wX ad K sv I J B D) sz) (wX ad K sv u.1 u.2.1 u.2.2.1 u.2.2.2) t) (va_A (wX ad K sv I J B D) sz)) 0 0 (va_A (wX ad K sv I J B D) sz) := by
  refine zMet (y := zy_Text_accept) (av := [.ref (ad 1), .int a0]) (maxL := 2) (cc := prog_10_method_8_code) (ret := (some .boolean)) (W0 := (wX ad K sv I J B D)) (sz := sz) (G := G) (K := K) (wt := zTB) (mc := 0) (ms := 0) (Qf := fun A => va_Qi (fun (r : Int32) (u : zS) => Post r u.1 u.2.1 u.2.2.1 u.2.2.2) (fun u t => zPost G K A (wX ad K sv u.1 u.2.1 u.2.2.1 u.2.2.2) t) A) (by decide) (Nat.le_of_ble_eq_true rfl) ?_
  intro p e s m below meth c ls A hx hb hr hml hts hown hlocks hin hA hK H locs hw hsz hl
  clear hsz
  have hown : s.vm.findClass "LassoFinder$Text" = some m.cls := hown
  have C : zCx p s m ([.ref (ad 1), .int a0] : List Value).toArray meth c A G K prog_10_method_8_code (some .boolean) 2 "LassoFinder$Text" := ⟨hx, hb, hr, hml, hts, hown, hlocks, hA, hK⟩
  have hl : lv_has ls 2 [(0, .ref (ad 1)), (1, .int a0)] := hl
  have hw : zW G A s.heap (wX ad K sv I J B D) H locs := hw
  unfold wp_Text_accept at hok
  refine lv_aload_n hx hb zd_Text_accept_0 rfl (lv_at hl 0 rfl) ?_
  refine z_calli (w1 := fun (u : zS) => wX ad K sv u.1 u.2.1 u.2.2.1 u.2.2.2) (wr := []) (z_runV (q0 := 1) (wc := (wX ad K sv I J B D)) (As := []) (rest := []) ⟨hx, hb, hml, hown, hts⟩ (w_Text_ahead l G K ad sv I J B D  _ H.size hok) zf_Text_ahead zn_309 ⟨Nat.le_of_ble_eq_true rfl, Nat.le_of_ble_eq_true rfl⟩ hK hw (List.range 65) wX_all wX_nd wX_g1 rfl rfl hl.1 rfl (Nat.le_of_ble_eq_true rfl) zd_Text_accept_1 ⟨Nat.le_of_ble_eq_true rfl, Nat.le_of_ble_eq_true rfl⟩) hw hA (List.range 65) [] wX_all rfl (by decide) (fun i hi => by cases hi) (fun r1 u H locs hok hw => ?_)
  obtain ⟨I1, J1, B1, D1⟩ := u
  dsimp only at hok
  have hw : zW G A s.heap (wX ad K sv I1 J1 B1 D1) H locs := hw
  refine lv_iload_n hx hb zd_Text_accept_4 rfl (lv_at hl 1 rfl) ?_
  refine lv_icmp_eq (tgt := 10) hx hb zd_Text_accept_5 (by decide) (fun hc2 => ?_) (fun hc2 => ?_)
  · have hok := hok.1 hc2
    refine lv_aload_n hx hb zd_Text_accept_10 rfl (lv_at hl 0 rfl) ?_
    refine lv_dup hx hb zd_Text_accept_11 rfl ?_
    refine z_get (v := .int (I1 5)) hx hb hts hown hK hw zZ9 1 wX_g1 3 (by decide) zn_298 rfl zd_Text_accept_12 ?_
    refine lv_iconst (v := 1) hx hb zd_Text_accept_15 (by decide) ?_
    refine lv_iadd hx hb zd_Text_accept_16 ?_
    refine lv_topi (fun z3 ez3 => ?_)
    have hok := hok z3 ez3
    refine z_put (v := .int z3) hx hb hts hown hK hw zZ9 1 wX_g1 3 (by decide) zn_298 rfl rfl rfl (Nat.le_of_ble_eq_true rfl) zd_Text_accept_17 (fun H locs hw => ?_)
    have hw := wX_sI5 hw
    refine lv_iconst (v := 1) hx hb zd_Text_accept_20 (by decide) ?_
    exact (z_iret (u := ((upd I1 5 z3), J1, B1, D1)) hx hb hr hlocks rfl hw (List.range 65) wX_all wX_nd hok (Nat.le_of_ble_eq_true rfl) (Nat.le_of_ble_eq_true rfl) zd_Text_accept_21)
  · have hok := hok.2 hc2
    refine lv_iconst (v := 0) hx hb zd_Text_accept_8 (by decide) ?_
    exact (z_iret (u := (I1, J1, B1, D1)) hx hb hr hlocks rfl hw (List.range 65) wX_all wX_nd hok (Nat.le_of_ble_eq_true rfl) (Nat.le_of_ble_eq_true rfl) zd_Text_accept_9)
def wc_Text_oneOf_42 (a0 : Int32) (Post : Int32 → (Nat → Int32) → (Nat → Int64) → (Nat → Nat → Int32) → (Nat → Nat → Int64) → Prop) (y0 : Int32) (I : Nat → Int32) (J : Nat → Int64) (B : Nat → Nat → Int32) (D : Nat → Nat → Int64) : Prop :=
  Post y0 I J B D
def wc_Text_oneOf_41 (a0 : Int32) (Post : Int32 → (Nat → Int32) → (Nat → Int64) → (Nat → Nat → Int32) → (Nat → Nat → Int64) → Prop)  (I : Nat → Int32) (J : Nat → Int64) (B : Nat → Nat → Int32) (D : Nat → Nat → Int64) : Prop :=
  wc_Text_oneOf_42 a0 Post (-1) I J B D
def wc_Text_oneOf_26 (a0 : Int32) (Post : Int32 → (Nat → Int32) → (Nat → Int64) → (Nat → Nat → Int32) → (Nat → Nat → Int64) → Prop) (y0 : Int32) (I : Nat → Int32) (J : Nat → Int64) (B : Nat → Nat → Int32) (D : Nat → Nat → Int64) : Prop :=
  ((y0 < 0 → wc_Text_oneOf_41 a0 Post I J B D) ∧ (¬ y0 < 0 → (((8 : Int32) ≤ y0 → wc_Text_oneOf_41 a0 Post I J B D) ∧ (¬ (8 : Int32) ≤ y0 → wc_Text_oneOf_42 a0 Post y0 I J B D))))
def wp_Text_oneOf (I : Nat → Int32) (J : Nat → Int64) (B : Nat → Nat → Int32) (D : Nat → Nat → Int64) (a0 : Int32) (Post : Int32 → (Nat → Int32) → (Nat → Int64) → (Nat → Nat → Int32) → (Nat → Nat → Int64) → Prop) : Prop :=
  (((I 4) ≤ (I 5) → wc_Text_oneOf_26 a0 Post (-1) I J B D) ∧ (¬ (I 4) ≤ (I 5) → vp_in (I 5) 240 ∧ ∀ z4 : Int32, z4 = ((B 1) (I 5).toNatClampNeg) → ∀ z5 : Int32, z5 = (z4 - a0) → wc_Text_oneOf_26 a0 Post z5 I J B D))
set_option maxHeartbeats 8000000 in
set_option maxRecDepth 100000 in
theorem wJ_Text_oneOf_42 {p : Program} {l : Launch} {e : Env} {s : State} {m : MethodId} {below : List Frame} {meth : Method} {c : Code} {A : Nat → Prop} (G : va_G) (K : Nat → ClassId) (ad : Nat → Nat) (sv : Value) (a0 : Int32) (Post : Int32 → (Nat → Int32) → (Nat → Int64) → (Nat → Nat → Int32) → (Nat → Nat → Int64) → Prop) (C : zCx p s m ([.ref (ad 1), .int a0] : List Value).toArray meth c A G K prog_10_method_6_code (some .int) 3 "LassoFinder$Text") : ∀ (y0 : Int32) (I : Nat → Int32) (J : Nat → Int64) (B : Nat → Nat → Int32) (D : Nat → Nat → Int64) (ls : Array Slot) (H : Heap) (locs : List Loc), wc_Text_oneOf_42 a0 Post y0 I J B D → lv_has ls 3 [] → zW G A s.heap (wX ad K sv I J B D) H locs → W p l e { frames := 0, cells := 0, slots := 0, locals := 0 } s m ([.ref (ad 1), .int a0] : List Value).toArray below meth c H locs 0 0 (MQ below (va_Qi (fun (r : Int32) (u : zS) => Post r u.1 u.2.1 u.2.2.1 u.2.2.2) (fun u t => zPost G K A (wX ad K sv u.1 u.2.1 u.2.2.1 u.2.2.2) t) A) ([.ref (ad 1), .int a0] : List Value).toArray s 0 0 A) (F0 m 42 ls [.int y0]) := by
  obtain ⟨hx, hb, hr, hml, hts, hown, hlocks, hA, hK⟩ := id C
  intro y0 I J B D ls H locs hok hl hw
  unfold wc_Text_oneOf_42 at hok
  exact (z_iret (u := (I, J, B, D)) hx hb hr hlocks rfl hw (List.range 65) wX_all wX_nd hok (Nat.le_of_ble_eq_true rfl) (Nat.le_of_ble_eq_true rfl) zd_Text_oneOf_42)
set_option maxHeartbeats 8000000 in
set_option maxRecDepth 100000 in
theorem wJ_Text_oneOf_41 {p : Program} {l : Launch} {e : Env} {s : State} {m : MethodId} {below : List Frame} {meth : Method} {c : Code} {A : Nat → Prop} (G : va_G) (K : Nat → ClassId) (ad : Nat → Nat) (sv : Value) (a0 : Int32) (Post : Int32 → (Nat → Int32) → (Nat → Int64) → (Nat → Nat → Int32) → (Nat → Nat → Int64) → Prop) (C : zCx p s m ([.ref (ad 1), .int a0] : List Value).toArray meth c A G K prog_10_method_6_code (some .int) 3 "LassoFinder$Text") : ∀  (I : Nat → Int32) (J : Nat → Int64) (B : Nat → Nat → Int32) (D : Nat → Nat → Int64) (ls : Array Slot) (H : Heap) (locs : List Loc), wc_Text_oneOf_41 a0 Post  I J B D → lv_has ls 3 [] → zW G A s.heap (wX ad K sv I J B D) H locs → W p l e { frames := 0, cells := 0, slots := 0, locals := 0 } s m ([.ref (ad 1), .int a0] : List Value).toArray below meth c H locs 0 0 (MQ below (va_Qi (fun (r : Int32) (u : zS) => Post r u.1 u.2.1 u.2.2.1 u.2.2.2) (fun u t => zPost G K A (wX ad K sv u.1 u.2.1 u.2.2.1 u.2.2.2) t) A) ([.ref (ad 1), .int a0] : List Value).toArray s 0 0 A) (F0 m 41 ls []) := by
  obtain ⟨hx, hb, hr, hml, hts, hown, hlocks, hA, hK⟩ := id C
  intro  I J B D ls H locs hok hl hw
  unfold wc_Text_oneOf_41 at hok
  refine lv_iconst (v := (-1)) hx hb zd_Text_oneOf_41 (by decide) ?_
  exact wJ_Text_oneOf_42 G K ad sv a0 Post C (-1) I J B D ls H locs hok (lv_sub hl [] rfl) hw
set_option maxHeartbeats 8000000 in
set_option maxRecDepth 100000 in
theorem wJ_Text_oneOf_26 {p : Program} {l : Launch} {e : Env} {s : State} {m : MethodId} {below : List Frame} {meth : Method} {c : Code} {A : Nat → Prop} (G : va_G) (K : Nat → ClassId) (ad : Nat → Nat) (sv : Value) (a0 : Int32) (Post : Int32 → (Nat → Int32) → (Nat → Int64) → (Nat → Nat → Int32) → (Nat → Nat → Int64) → Prop) (C : zCx p s m ([.ref (ad 1), .int a0] : List Value).toArray meth c A G K prog_10_method_6_code (some .int) 3 "LassoFinder$Text") : ∀ (y0 : Int32) (I : Nat → Int32) (J : Nat → Int64) (B : Nat → Nat → Int32) (D : Nat → Nat → Int64) (ls : Array Slot) (H : Heap) (locs : List Loc), wc_Text_oneOf_26 a0 Post y0 I J B D → lv_has ls 3 [] → zW G A s.heap (wX ad K sv I J B D) H locs → W p l e { frames := 0, cells := 0, slots := 0, locals := 0 } s m ([.ref (ad 1), .int a0] : List Value).toArray below meth c H locs 0 0 (MQ below (va_Qi (fun (r : Int32) (u : zS) => Post r u.1 u.2.1 u.2.2.1 u.2.2.2) (fun u t => zPost G K A (wX ad K sv u.1 u.2.1 u.2.2.1 u.2.2.2) t) A) ([.ref (ad 1), .int a0] : List Value).toArray s 0 0 A) (F0 m 26 ls [.int y0]) := by
  obtain ⟨hx, hb, hr, hml, hts, hown, hlocks, hA, hK⟩ := id C
  intro y0 I J B D ls H locs hok hl hw
  unfold wc_Text_oneOf_26 at hok
  refine lv_istore_n hx hb zd_Text_oneOf_26 rfl hl (by decide) rfl (fun ls hl => ?_)
  have hl : lv_has ls 3 [(2, .int y0)] := hl
  refine lv_iload_n hx hb zd_Text_oneOf_27 rfl (lv_at hl 0 rfl) ?_
  refine lv_if_lt (tgt := 41) hx hb zd_Text_oneOf_28 (by decide) (fun hc1 => ?_) (fun hc1 => ?_)
  · have hok := hok.1 hc1
    exact wJ_Text_oneOf_41 G K ad sv a0 Post C I J B D ls H locs hok (lv_sub hl [] rfl) hw
  · have hok := hok.2 hc1
    refine lv_iload_n hx hb zd_Text_oneOf_31 rfl (lv_at hl 0 rfl) ?_
    refine lv_bipush (v := 8) hx hb zd_Text_oneOf_32 (by decide) ?_
    refine lv_icmp_ge (tgt := 41) hx hb zd_Text_oneOf_34 (by decide) (fun hc2 => ?_) (fun hc2 => ?_)
    · have hok := hok.1 hc2
      exact wJ_Text_oneOf_41 G K ad sv a0 Post C I J B D ls H locs hok (lv_sub hl [] rfl) hw
    · have hok := hok.2 hc2
      refine lv_iload_n hx hb zd_Text_oneOf_37 rfl (lv_at hl 0 rfl) ?_
      refine lv_goto (tgt := 42) hx hb zd_Text_oneOf_38 (by decide) ?_
      exact wJ_Text_oneOf_42 G K ad sv a0 Post C y0 I J B D ls H locs hok (lv_sub hl [] rfl) hw
set_option maxHeartbeats 8000000 in
set_option maxRecDepth 100000 in
theorem w_Text_oneOf (l : Launch) (G : va_G) (K : Nat → ClassId) (ad : Nat → Nat) (sv : Value) (I : Nat → Int32) (J : Nat → Int64) (B : Nat → Nat → Int32) (D : Nat → Nat → Int64) (a0 : Int32) (Post : Int32 → (Nat → Int32) → (Nat → Int64) → (Nat → Nat → Int32) → (Nat → Nat → Int64) → Prop) (sz : Nat) (hok : wp_Text_oneOf I J B D a0 Post) : Met l zy_Text_oneOf (Cond.code zy_Text_oneOf prog_10_method_6_code 3 (some .int) :: zTB) { frames := 0, cells := 0, slots := 0, locals := 0 } (va_Pc [.ref (ad 1), .int a0] (zPre G K (wX ad K sv I J B D) sz)) (va_Qi (fun (r : Int32) (u : zS) => Post r u.1 u.2.1 u.2.2.1 u.2.2.2) (fun u t => zPost G K (va_A (wX ad K sv I J B D) sz) (wX ad K sv u.1 u.2.1 u.2.2.1 u.2.2.2) t) (va_A (wX ad K sv I J B D) sz)) 0 0 (va_A (wX ad K sv I J B D) sz) := by
  refine zMet (y := zy_Text_oneOf) (av := [.ref (ad 1), .int a0]) (maxL := 3) (cc := prog_10_method_6_code) (ret := (some .int)) (W0 := (wX ad K sv I J B D)) (sz := sz) (G := G) (K := K) (wt := zTB) (mc := 0) (ms := 0) (Qf := fun A => va_Qi (fun (r : Int32) (u : zS) => Post r u.1 u.2.1 u.2.2.1 u.2.2.2) (fun u t => zPost G K A (wX ad K sv u.1 u.2.1 u.2.2.1 u.2.2.2) t) A) (by decide) (Nat.le_of_ble_eq_true rfl) ?_
  intro p e s m below meth c ls A hx hb hr hml hts hown hlocks hin hA hK H locs hw hsz hl
  clear hsz
  have hown : s.vm.findClass "LassoFinder$Text" = some m.cls := hown
  have C : zCx p s m ([.ref (ad 1), .int a0] : List Value).toArray meth c A G K prog_10_method_6_code (some .int) 3 "LassoFinder$Text" := ⟨hx, hb, hr, hml, hts, hown, hlocks, hA, hK⟩
  have hl : lv_has ls 3 [(0, .ref (ad 1)), (1, .int a0)] := hl
  have hw : zW G A s.heap (wX ad K sv I J B D) H locs := hw
  unfold wp_Text_oneOf at hok
  refine lv_aload_n hx hb zd_Text_oneOf_0 rfl (lv_at hl 0 rfl) ?_
  refine z_get (v := .int (I 5)) hx hb hts hown hK hw zZ9 1 wX_g1 3 (by decide) zn_298 rfl zd_Text_oneOf_1 ?_
  refine lv_aload_n hx hb zd_Text_oneOf_4 rfl (lv_at hl 0 rfl) ?_
  refine z_get (v := .int (I 4)) hx hb hts hown hK hw zZ9 1 wX_g1 2 (by decide) zn_297 rfl zd_Text_oneOf_5 ?_
  refine lv_icmp_ge (tgt := 25) hx hb zd_Text_oneOf_8 (by decide) (fun hc3 => ?_) (fun hc3 => ?_)
  · have hok := hok.1 hc3
    refine lv_iconst (v := (-1)) hx hb zd_Text_oneOf_25 (by decide) ?_
    exact wJ_Text_oneOf_26 G K ad sv a0 Post C (-1) I J B D ls H locs hok (lv_sub hl [] rfl) hw
  · have hok := hok.2 hc3
    refine lv_aload_n hx hb zd_Text_oneOf_11 rfl (lv_at hl 0 rfl) ?_
    refine z_get (v := .ref (ad 13)) hx hb hts hown hK hw zZ9 1 wX_g1 0 (by decide) zn_236 rfl zd_Text_oneOf_12 ?_
    refine lv_aload_n hx hb zd_Text_oneOf_15 rfl (lv_at hl 0 rfl) ?_
    refine z_get (v := .int (I 5)) hx hb hts hown hK hw zZ9 1 wX_g1 3 (by decide) zn_298 rfl zd_Text_oneOf_16 ?_
    refine va_cald (f := (B 1)) hx hb hK hw.1 13 3 wX_a13 rfl hok.1 zd_Text_oneOf_19 ?_
    have hok := hok.2
    refine lv_topi (fun z4 ez4 => ?_)
    have hok := hok z4 ez4
    refine lv_iload_n hx hb zd_Text_oneOf_20 rfl (lv_at hl 1 rfl) ?_
    refine lv_isub hx hb zd_Text_oneOf_21 ?_
    refine lv_topi (fun z5 ez5 => ?_)
    have hok := hok z5 ez5
    refine lv_goto (tgt := 26) hx hb zd_Text_oneOf_22 (by decide) ?_
    exact wJ_Text_oneOf_26 G K ad sv a0 Post C z5 I J B D ls H locs hok (lv_sub hl [] rfl) hw
def wc_ModelReader_readLabels_86 (Post : (Nat → Int32) → (Nat → Int64) → (Nat → Nat → Int32) → (Nat → Nat → Int64) → Prop) (PX : String → (Nat → Int32) → (Nat → Int64) → (Nat → Nat → Int32) → (Nat → Nat → Int64) → Prop)  (I : Nat → Int32) (J : Nat → Int64) (B : Nat → Nat → Int32) (D : Nat → Nat → Int64) : Prop :=
  Post I J B D
def wc_ModelReader_readLabels_57 (K2 : Int32 → (Nat → Int32) → (Nat → Int64) → (Nat → Nat → Int32) → (Nat → Nat → Int64) → Prop) (Post : (Nat → Int32) → (Nat → Int64) → (Nat → Nat → Int32) → (Nat → Nat → Int64) → Prop) (PX : String → (Nat → Int32) → (Nat → Int64) → (Nat → Nat → Int32) → (Nat → Nat → Int64) → Prop) (x1 : Int32) (x2 : Int32) (I : Nat → Int32) (J : Nat → Int64) (B : Nat → Nat → Int32) (D : Nat → Nat → Int64) : Prop :=
  wp_Text_skip I J B D  (fun I1 J1 B1 D1 => vp_in x2 8 ∧ ∀ z2 : Int32, z2 = (x1 + 1) → K2 z2 I1 J1 (va_up B1 28 (upd (B1 28) x2.toNatClampNeg (I1 16))) D1)
def wc_ModelReader_readLabels_50 (K2 : Int32 → (Nat → Int32) → (Nat → Int64) → (Nat → Nat → Int32) → (Nat → Nat → Int64) → Prop) (Post : (Nat → Int32) → (Nat → Int64) → (Nat → Nat → Int32) → (Nat → Nat → Int64) → Prop) (PX : String → (Nat → Int32) → (Nat → Int64) → (Nat → Nat → Int32) → (Nat → Nat → Int64) → Prop) (x1 : Int32) (x2 : Int32) (I : Nat → Int32) (J : Nat → Int64) (B : Nat → Nat → Int32) (D : Nat → Nat → Int64) : Prop :=
  wp_Text_refuse I J B D  (fun I3 J3 B3 D3 => wc_ModelReader_readLabels_57  K2 Post PX x1 x2 I3 J3 B3 D3) PX
def wb_ModelReader_readLabels_2 (K2 : Int32 → (Nat → Int32) → (Nat → Int64) → (Nat → Nat → Int32) → (Nat → Nat → Int64) → Prop) (Post : (Nat → Int32) → (Nat → Int64) → (Nat → Nat → Int32) → (Nat → Nat → Int64) → Prop) (PX : String → (Nat → Int32) → (Nat → Int64) → (Nat → Nat → Int32) → (Nat → Nat → Int64) → Prop) (x1 : Int32) (I : Nat → Int32) (J : Nat → Int64) (B : Nat → Nat → Int32) (D : Nat → Nat → Int64) : Prop :=
  (((240 : Int32) ≤ x1 → wc_ModelReader_readLabels_86  Post PX I J B D) ∧ (¬ (240 : Int32) ≤ x1 → wp_Text_accept I J B D 58 (fun r5 I5 J5 B5 D5 => ((r5 = 0 → wc_ModelReader_readLabels_86  Post PX I5 J5 B5 D5) ∧ (¬ r5 = 0 → wp_Text_oneOf I5 J5 B5 D5 65 (fun r7 I7 J7 B7 D7 => ((r7 = (-1) → wc_ModelReader_readLabels_50  K2 Post PX x1 r7 I7 J7 B7 D7) ∧ (¬ r7 = (-1) → vp_in r7 8 ∧ ∀ z9 : Int32, z9 = ((B7 28) r7.toNatClampNeg) → ((z9 = (-3) → wc_ModelReader_readLabels_57  K2 Post PX x1 r7 I7 J7 B7 D7) ∧ (¬ z9 = (-3) → wc_ModelReader_readLabels_50  K2 Post PX x1 r7 I7 J7 B7 D7))))))))))
def wl_ModelReader_readLabels_2 (Post : (Nat → Int32) → (Nat → Int64) → (Nat → Nat → Int32) → (Nat → Nat → Int64) → Prop) (PX : String → (Nat → Int32) → (Nat → Int64) → (Nat → Nat → Int32) → (Nat → Nat → Int64) → Prop) (n : Nat) : Int32 → (Nat → Int32) → (Nat → Int64) → (Nat → Nat → Int32) → (Nat → Nat → Int64) → Prop := Nat.rec (fun _ _ _ _ _ => False) (fun _ r => wb_ModelReader_readLabels_2  r Post PX) n
def wp_ModelReader_readLabels (I : Nat → Int32) (J : Nat → Int64) (B : Nat → Nat → Int32) (D : Nat → Nat → Int64) (Post : (Nat → Int32) → (Nat → Int64) → (Nat → Nat → Int32) → (Nat → Nat → Int64) → Prop) (PX : String → (Nat → Int32) → (Nat → Int64) → (Nat → Nat → Int32) → (Nat → Nat → Int64) → Prop) : Prop :=
  ∃ n : Nat, wl_ModelReader_readLabels_2  Post PX n 0 I J B D
set_option maxHeartbeats 8000000 in
set_option maxRecDepth 100000 in
theorem wJ_ModelReader_readLabels_86 {p : Program} {l : Launch} {e : Env} {s : State} {m : MethodId} {below : List Frame} {meth : Method} {c : Code} {A : Nat → Prop} (G : va_G) (K : Nat → ClassId) (ad : Nat → Nat) (sv : Value) (Post : (Nat → Int32) → (Nat → Int64) → (Nat → Nat → Int32) → (Nat → Nat → Int64) → Prop) (PX : String → (Nat → Int32) → (Nat → Int64) → (Nat → Nat → Int32) → (Nat → Nat → Int64) → Prop) (C : zCy p l s m ([.ref (ad 5)] : List Value).toArray meth c A G K prog_5_method_7_code none 3 "LassoFinder$ModelReader") : ∀  (I : Nat → Int32) (J : Nat → Int64) (B : Nat → Nat → Int32) (D : Nat → Nat → Int64) (ls : Array Slot) (H : Heap) (locs : List Loc), wc_ModelReader_readLabels_86  Post PX  I J B D → lv_has ls 3 [] → zW G A s.heap (wX ad K sv I J B D) H locs → W p l e { frames := 7, cells := 1, slots := 6, locals := 101 } s m ([.ref (ad 5)] : List Value).toArray below meth c H locs 0 0 (zyMQ below (va_Qv (fun u : zS => Post u.1 u.2.1 u.2.2.1 u.2.2.2) (fun u t => zPost G K A (wX ad K sv u.1 u.2.1 u.2.2.1 u.2.2.2) t) A) (zYC (fun E (u : zS) => PX E u.1 u.2.1 u.2.2.1 u.2.2.2) (fun u => wX ad K sv u.1 u.2.1 u.2.2.1 u.2.2.2) G K A) ([.ref (ad 5)] : List Value).toArray s 1 6 A) (F0 m 86 ls []) := by
  obtain ⟨hx, hb, hr, hml, hts, hown, hlocks, hA, hK, hT, hnt, hlt⟩ := id C
  intro  I J B D ls H locs hok hl hw
  unfold wc_ModelReader_readLabels_86 at hok
  exact zy_ret (z_vret (u := (I, J, B, D)) hx hb hr hlocks hw (List.range 65) wX_all wX_nd hok (Nat.le_of_ble_eq_true rfl) (Nat.le_of_ble_eq_true rfl) zd_ModelReader_readLabels_86)
set_option maxHeartbeats 8000000 in
set_option maxRecDepth 100000 in
theorem wJ_ModelReader_readLabels_57 {p : Program} {l : Launch} {e : Env} {s : State} {m : MethodId} {below : List Frame} {meth : Method} {c : Code} {A : Nat → Prop} (G : va_G) (K : Nat → ClassId) (ad : Nat → Nat) (sv : Value) (Post : (Nat → Int32) → (Nat → Int64) → (Nat → Nat → Int32) → (Nat → Nat → Int64) → Prop) (PX : String → (Nat → Int32) → (Nat → Int64) → (Nat → Nat → Int32) → (Nat → Nat → Int64) → Prop) (C : zCy p l s m ([.ref (ad 5)] : List Value).toArray meth c A G K prog_5_method_7_code none 3 "LassoFinder$ModelReader") (K2 : Int32 → (Nat → Int32) → (Nat → Int64) → (Nat → Nat → Int32) → (Nat → Nat → Int64) → Prop) (kh2 : ∀ (x1 : Int32) (I : Nat → Int32) (J : Nat → Int64) (B : Nat → Nat → Int32) (D : Nat → Nat → Int64) (ls : Array Slot) (H : Heap) (locs : List Loc), K2 x1 I J B D → lv_has ls 3 [(0, .ref (ad 5)), (1, .int x1)] → zW G A s.heap (wX ad K sv I J B D) H locs → W p l e { frames := 7, cells := 1, slots := 6, locals := 101 } s m ([.ref (ad 5)] : List Value).toArray below meth c H locs 0 0 (zyMQ below (va_Qv (fun u : zS => Post u.1 u.2.1 u.2.2.1 u.2.2.2) (fun u t => zPost G K A (wX ad K sv u.1 u.2.1 u.2.2.1 u.2.2.2) t) A) (zYC (fun E (u : zS) => PX E u.1 u.2.1 u.2.2.1 u.2.2.2) (fun u => wX ad K sv u.1 u.2.1 u.2.2.1 u.2.2.2) G K A) ([.ref (ad 5)] : List Value).toArray s 1 6 A) (F0 m 2 ls [])) : ∀ (x1 : Int32) (x2 : Int32) (I : Nat → Int32) (J : Nat → Int64) (B : Nat → Nat → Int32) (D : Nat → Nat → Int64) (ls : Array Slot) (H : Heap) (locs : List Loc), wc_ModelReader_readLabels_57  K2 Post PX x1 x2 I J B D → lv_has ls 3 [(0, .ref (ad 5)), (1, .int x1), (2, .int x2)] → zW G A s.heap (wX ad K sv I J B D) H locs → W p l e { frames := 7, cells := 1, slots := 6, locals := 101 } s m ([.ref (ad 5)] : List Value).toArray below meth c H locs 0 0 (zyMQ below (va_Qv (fun u : zS => Post u.1 u.2.1 u.2.2.1 u.2.2.2) (fun u t => zPost G K A (wX ad K sv u.1 u.2.1 u.2.2.1 u.2.2.2) t) A) (zYC (fun E (u : zS) => PX E u.1 u.2.1 u.2.2.1 u.2.2.2) (fun u => wX ad K sv u.1 u.2.1 u.2.2.1 u.2.2.2) G K A) ([.ref (ad 5)] : List Value).toArray s 1 6 A) (F0 m 57 ls []) := by
  obtain ⟨hx, hb, hr, hml, hts, hown, hlocks, hA, hK, hT, hnt, hlt⟩ := id C
  intro x1 x2 I J B D ls H locs hok hl hw
  unfold wc_ModelReader_readLabels_57 at hok
  refine lv_aload_n hx hb zd_ModelReader_readLabels_57 rfl (lv_at hl 0 rfl) ?_
  refine z_get (v := .ref (ad 1)) hx hb hts hown hK hw zZ4 5 wX_g5 0 (by decide) zn_366 rfl zd_ModelReader_readLabels_58 ?_
  refine z_callv (w1 := fun (u : zS) => wX ad K sv u.1 u.2.1 u.2.2.1 u.2.2.2) (wr := []) (z_runV (q0 := 1) (wc := (wX ad K sv I J B D)) (As := []) (rest := []) ⟨hx, hb, hml, hown, hts⟩ (w_Text_skip l G K ad sv I J B D  _ H.size hok) zf_Text_skip zn_314 ⟨Nat.le_of_ble_eq_true rfl, Nat.le_of_ble_eq_true rfl⟩ hK hw (List.range 65) wX_all wX_nd wX_g1 rfl rfl hl.1 rfl (Nat.le_of_ble_eq_true rfl) zd_ModelReader_readLabels_61 ⟨Nat.le_of_ble_eq_true rfl, Nat.le_of_ble_eq_true rfl⟩) hw hA (List.range 65) [] wX_all rfl (by decide) (fun i hi => by cases hi) (fun u H locs hok hw => ?_)
  obtain ⟨I1, J1, B1, D1⟩ := u
  dsimp only at hok
  have hw : zW G A s.heap (wX ad K sv I1 J1 B1 D1) H locs := hw
  refine lv_aload_n hx hb zd_ModelReader_readLabels_64 rfl (lv_at hl 0 rfl) ?_
  refine z_get (v := .ref (ad 6)) hx hb hts hown hK hw zZ4 5 wX_g5 4 (by decide) zn_368 rfl zd_ModelReader_readLabels_65 ?_
  refine z_get (v := .ref (ad 42)) hx hb hts hown hK hw zZ10 6 wX_g6 10 (by decide) zn_371 rfl zd_ModelReader_readLabels_68 ?_
  refine lv_iload_n hx hb zd_ModelReader_readLabels_71 rfl (lv_at hl 2 rfl) ?_
  refine lv_aload_n hx hb zd_ModelReader_readLabels_72 rfl (lv_at hl 0 rfl) ?_
  refine z_get (v := .ref (ad 6)) hx hb hts hown hK hw zZ4 5 wX_g5 4 (by decide) zn_368 rfl zd_ModelReader_readLabels_73 ?_
  refine z_get (v := .int (I1 16)) hx hb hts hown hK hw zZ10 6 wX_g6 11 (by decide) zn_372 rfl zd_ModelReader_readLabels_76 ?_
  refine va_iast (f := (B1 28)) hx hb hK hw.1 hw.2.1 hw.2.2 42 0 wX_a42 rfl hok.1 zd_ModelReader_readLabels_79 (fun H locs w91 w92 w93 => ?_)
  have hok := hok.2
  have hw := wX_t42 ⟨w91, w92, w93⟩
  obtain ⟨z2, ez2⟩ : ∃ z : Int32, z = (x1 + 1) := ⟨_, rfl⟩
  have hok := hok z2 ez2
  refine lv_iinc (v := z2) hx hb zd_ModelReader_readLabels_80 hl (k := 1) rfl ez2.symm (by decide) rfl (fun ls hl => ?_)
  have hl : lv_has ls 3 [(1, .int z2), (0, .ref (ad 5)), (2, .int x2)] := hl
  refine lv_goto (tgt := 2) hx hb zd_ModelReader_readLabels_83 (by decide) ?_
  exact kh2 z2 I1 J1 (va_up B1 28 (upd (B1 28) x2.toNatClampNeg (I1 16))) D1 ls H locs hok (lv_sub hl [1, 0] rfl) hw
set_option maxHeartbeats 8000000 in
set_option maxRecDepth 100000 in
theorem wJ_ModelReader_readLabels_50 {p : Program} {l : Launch} {e : Env} {s : State} {m : MethodId} {below : List Frame} {meth : Method} {c : Code} {A : Nat → Prop} (G : va_G) (K : Nat → ClassId) (ad : Nat → Nat) (sv : Value) (Post : (Nat → Int32) → (Nat → Int64) → (Nat → Nat → Int32) → (Nat → Nat → Int64) → Prop) (PX : String → (Nat → Int32) → (Nat → Int64) → (Nat → Nat → Int32) → (Nat → Nat → Int64) → Prop) (C : zCy p l s m ([.ref (ad 5)] : List Value).toArray meth c A G K prog_5_method_7_code none 3 "LassoFinder$ModelReader") (K2 : Int32 → (Nat → Int32) → (Nat → Int64) → (Nat → Nat → Int32) → (Nat → Nat → Int64) → Prop) (kh2 : ∀ (x1 : Int32) (I : Nat → Int32) (J : Nat → Int64) (B : Nat → Nat → Int32) (D : Nat → Nat → Int64) (ls : Array Slot) (H : Heap) (locs : List Loc), K2 x1 I J B D → lv_has ls 3 [(0, .ref (ad 5)), (1, .int x1)] → zW G A s.heap (wX ad K sv I J B D) H locs → W p l e { frames := 7, cells := 1, slots := 6, locals := 101 } s m ([.ref (ad 5)] : List Value).toArray below meth c H locs 0 0 (zyMQ below (va_Qv (fun u : zS => Post u.1 u.2.1 u.2.2.1 u.2.2.2) (fun u t => zPost G K A (wX ad K sv u.1 u.2.1 u.2.2.1 u.2.2.2) t) A) (zYC (fun E (u : zS) => PX E u.1 u.2.1 u.2.2.1 u.2.2.2) (fun u => wX ad K sv u.1 u.2.1 u.2.2.1 u.2.2.2) G K A) ([.ref (ad 5)] : List Value).toArray s 1 6 A) (F0 m 2 ls [])) : ∀ (x1 : Int32) (x2 : Int32) (I : Nat → Int32) (J : Nat → Int64) (B : Nat → Nat → Int32) (D : Nat → Nat → Int64) (ls : Array Slot) (H : Heap) (locs : List Loc), wc_ModelReader_readLabels_50  K2 Post PX x1 x2 I J B D → lv_has ls 3 [(0, .ref (ad 5)), (1, .int x1), (2, .int x2)] → zW G A s.heap (wX ad K sv I J B D) H locs → W p l e { frames := 7, cells := 1, slots := 6, locals := 101 } s m ([.ref (ad 5)] : List Value).toArray below meth c H locs 0 0 (zyMQ below (va_Qv (fun u : zS => Post u.1 u.2.1 u.2.2.1 u.2.2.2) (fun u t => zPost G K A (wX ad K sv u.1 u.2.1 u.2.2.1 u.2.2.2) t) A) (zYC (fun E (u : zS) => PX E u.1 u.2.1 u.2.2.1 u.2.2.2) (fun u => wX ad K sv u.1 u.2.1 u.2.2.1 u.2.2.2) G K A) ([.ref (ad 5)] : List Value).toArray s 1 6 A) (F0 m 50 ls []) := by
  obtain ⟨hx, hb, hr, hml, hts, hown, hlocks, hA, hK, hT, hnt, hlt⟩ := id C
  intro x1 x2 I J B D ls H locs hok hl hw
  unfold wc_ModelReader_readLabels_50 at hok
  refine lv_aload_n hx hb zd_ModelReader_readLabels_50 rfl (lv_at hl 0 rfl) ?_
  refine z_get (v := .ref (ad 1)) hx hb hts hown hK hw zZ4 5 wX_g5 0 (by decide) zn_366 rfl zd_ModelReader_readLabels_51 ?_
  refine z_yV (q0 := 1) (wc := (wX ad K sv I J B D)) (wr := []) (w1 := fun (u : zS) => wX ad K sv u.1 u.2.1 u.2.2.1 u.2.2.2) (As := []) (rest := []) ⟨hx, hb, hml, hown, hts⟩ (w_Text_refuse l hlt G K ad sv I J B D  _ _ H.size hok) zf_Text_refuse zn_312 ⟨Nat.le_of_ble_eq_true rfl, Nat.le_of_ble_eq_true rfl⟩ hK hT hw hA (List.range 65) [] wX_all rfl wX_nd (by decide) (fun i hi => by cases hi) wX_g1 rfl rfl hl.1 rfl (Nat.le_of_ble_eq_true rfl) zd_ModelReader_readLabels_54 ⟨Nat.le_of_ble_eq_true rfl, Nat.le_of_ble_eq_true rfl⟩ (fun v st9 t9 L9 h0 hq hL => ?_) (fun E ce q9 u H locs hu hw hce hcv hcl => z_yout (u := u) hnt hlocks hce hcv hcl hw (List.range 65) wX_all wX_nd hu (Nat.le_of_ble_eq_true rfl) (Nat.le_of_ble_eq_true rfl))
  obtain ⟨⟨u, hv9, hok, hB9⟩, hF9⟩ := hq
  cases hv9
  have hw := z_back (wr := []) hw hA (List.range 65) [] wX_all rfl (by decide) (fun i hi => by cases hi) h0 hL hB9 hF9
  obtain ⟨I3, J3, B3, D3⟩ := u
  dsimp only at hok
  generalize t9.heap = H at hw ⊢
  generalize locs ++ L9 = locs at hw ⊢
  have hw : zW G A s.heap (wX ad K sv I3 J3 B3 D3) H locs := hw
  refine W.eq (g2 := F0 m 57 ls []) rfl ?_
  exact wJ_ModelReader_readLabels_57 G K ad sv  Post PX C K2 kh2 x1 x2 I3 J3 B3 D3 ls H locs hok (lv_sub hl [0, 1, 2] rfl) hw
set_option maxHeartbeats 8000000 in
set_option maxRecDepth 100000 in
theorem wB_ModelReader_readLabels_2 {p : Program} {l : Launch} {e : Env} {s : State} {m : MethodId} {below : List Frame} {meth : Method} {c : Code} {A : Nat → Prop} (G : va_G) (K : Nat → ClassId) (ad : Nat → Nat) (sv : Value) (Post : (Nat → Int32) → (Nat → Int64) → (Nat → Nat → Int32) → (Nat → Nat → Int64) → Prop) (PX : String → (Nat → Int32) → (Nat → Int64) → (Nat → Nat → Int32) → (Nat → Nat → Int64) → Prop) (C : zCy p l s m ([.ref (ad 5)] : List Value).toArray meth c A G K prog_5_method_7_code none 3 "LassoFinder$ModelReader") (K2 : Int32 → (Nat → Int32) → (Nat → Int64) → (Nat → Nat → Int32) → (Nat → Nat → Int64) → Prop) (kh2 : ∀ (x1 : Int32) (I : Nat → Int32) (J : Nat → Int64) (B : Nat → Nat → Int32) (D : Nat → Nat → Int64) (ls : Array Slot) (H : Heap) (locs : List Loc), K2 x1 I J B D → lv_has ls 3 [(0, .ref (ad 5)), (1, .int x1)] → zW G A s.heap (wX ad K sv I J B D) H locs → W p l e { frames := 7, cells := 1, slots := 6, locals := 101 } s m ([.ref (ad 5)] : List Value).toArray below meth c H locs 0 0 (zyMQ below (va_Qv (fun u : zS => Post u.1 u.2.1 u.2.2.1 u.2.2.2) (fun u t => zPost G K A (wX ad K sv u.1 u.2.1 u.2.2.1 u.2.2.2) t) A) (zYC (fun E (u : zS) => PX E u.1 u.2.1 u.2.2.1 u.2.2.2) (fun u => wX ad K sv u.1 u.2.1 u.2.2.1 u.2.2.2) G K A) ([.ref (ad 5)] : List Value).toArray s 1 6 A) (F0 m 2 ls [])) : ∀ (x1 : Int32) (I : Nat → Int32) (J : Nat → Int64) (B : Nat → Nat → Int32) (D : Nat → Nat → Int64) (ls : Array Slot) (H : Heap) (locs : List Loc), wb_ModelReader_readLabels_2  K2 Post PX x1 I J B D → lv_has ls 3 [(0, .ref (ad 5)), (1, .int x1)] → zW G A s.heap (wX ad K sv I J B D) H locs → W p l e { frames := 7, cells := 1, slots := 6, locals := 101 } s m ([.ref (ad 5)] : List Value).toArray below meth c H locs 0 0 (zyMQ below (va_Qv (fun u : zS => Post u.1 u.2.1 u.2.2.1 u.2.2.2) (fun u t => zPost G K A (wX ad K sv u.1 u.2.1 u.2.2.1 u.2.2.2) t) A) (zYC (fun E (u : zS) => PX E u.1 u.2.1 u.2.2.1 u.2.2.2) (fun u => wX ad K sv u.1 u.2.1 u.2.2.1 u.2.2.2) G K A) ([.ref (ad 5)] : List Value).toArray s 1 6 A) (F0 m 2 ls []) := by
  obtain ⟨hx, hb, hr, hml, hts, hown, hlocks, hA, hK, hT, hnt, hlt⟩ := id C
  intro x1 I J B D ls H locs hok hl hw
  unfold wb_ModelReader_readLabels_2 at hok
  refine lv_iload_n hx hb zd_ModelReader_readLabels_2 rfl (lv_at hl 1 rfl) ?_
  refine lv_sipush (v := 240) hx hb zd_ModelReader_readLabels_3 (by decide) ?_
  refine lv_icmp_ge (tgt := 86) hx hb zd_ModelReader_readLabels_6 (by decide) (fun hc4 => ?_) (fun hc4 => ?_)
  · have hok := hok.1 hc4
    exact wJ_ModelReader_readLabels_86 G K ad sv  Post PX C I J B D ls H locs hok (lv_sub hl [] rfl) hw
  · have hok := hok.2 hc4
    refine lv_aload_n hx hb zd_ModelReader_readLabels_9 rfl (lv_at hl 0 rfl) ?_
    refine z_get (v := .ref (ad 1)) hx hb hts hown hK hw zZ4 5 wX_g5 0 (by decide) zn_366 rfl zd_ModelReader_readLabels_10 ?_
    refine lv_bipush (v := 58) hx hb zd_ModelReader_readLabels_13 (by decide) ?_
    refine z_calli (w1 := fun (u : zS) => wX ad K sv u.1 u.2.1 u.2.2.1 u.2.2.2) (wr := []) (z_runV (q0 := 1) (wc := (wX ad K sv I J B D)) (As := [.int 58]) (rest := []) ⟨hx, hb, hml, hown, hts⟩ (w_Text_accept l G K ad sv I J B D 58 _ H.size hok) zf_Text_accept zn_308 ⟨Nat.le_of_ble_eq_true rfl, Nat.le_of_ble_eq_true rfl⟩ hK hw (List.range 65) wX_all wX_nd wX_g1 rfl rfl hl.1 rfl (Nat.le_of_ble_eq_true rfl) zd_ModelReader_readLabels_15 ⟨Nat.le_of_ble_eq_true rfl, Nat.le_of_ble_eq_true rfl⟩) hw hA (List.range 65) [] wX_all rfl (by decide) (fun i hi => by cases hi) (fun r5 u H locs hok hw => ?_)
    obtain ⟨I5, J5, B5, D5⟩ := u
    dsimp only at hok
    have hw : zW G A s.heap (wX ad K sv I5 J5 B5 D5) H locs := hw
    refine lv_if_eq (tgt := 86) hx hb zd_ModelReader_readLabels_18 (by decide) (fun hc6 => ?_) (fun hc6 => ?_)
    · have hok := hok.1 hc6
      exact wJ_ModelReader_readLabels_86 G K ad sv  Post PX C I5 J5 B5 D5 ls H locs hok (lv_sub hl [] rfl) hw
    · have hok := hok.2 hc6
      refine lv_aload_n hx hb zd_ModelReader_readLabels_21 rfl (lv_at hl 0 rfl) ?_
      refine z_get (v := .ref (ad 1)) hx hb hts hown hK hw zZ4 5 wX_g5 0 (by decide) zn_366 rfl zd_ModelReader_readLabels_22 ?_
      refine lv_bipush (v := 65) hx hb zd_ModelReader_readLabels_25 (by decide) ?_
      refine z_calli (w1 := fun (u : zS) => wX ad K sv u.1 u.2.1 u.2.2.1 u.2.2.2) (wr := []) (z_runV (q0 := 1) (wc := (wX ad K sv I5 J5 B5 D5)) (As := [.int 65]) (rest := []) ⟨hx, hb, hml, hown, hts⟩ (w_Text_oneOf l G K ad sv I5 J5 B5 D5 65 _ H.size hok) zf_Text_oneOf zn_310 ⟨Nat.le_of_ble_eq_true rfl, Nat.le_of_ble_eq_true rfl⟩ hK hw (List.range 65) wX_all wX_nd wX_g1 rfl rfl hl.1 rfl (Nat.le_of_ble_eq_true rfl) zd_ModelReader_readLabels_27 ⟨Nat.le_of_ble_eq_true rfl, Nat.le_of_ble_eq_true rfl⟩) hw hA (List.range 65) [] wX_all rfl (by decide) (fun i hi => by cases hi) (fun r7 u H locs hok hw => ?_)
      obtain ⟨I7, J7, B7, D7⟩ := u
      dsimp only at hok
      have hw : zW G A s.heap (wX ad K sv I7 J7 B7 D7) H locs := hw
      refine lv_istore_n hx hb zd_ModelReader_readLabels_30 rfl hl (by decide) rfl (fun ls hl => ?_)
      have hl : lv_has ls 3 [(2, .int r7), (0, .ref (ad 5)), (1, .int x1)] := hl
      refine lv_iload_n hx hb zd_ModelReader_readLabels_31 rfl (lv_at hl 0 rfl) ?_
      refine lv_iconst (v := (-1)) hx hb zd_ModelReader_readLabels_32 (by decide) ?_
      refine lv_icmp_eq (tgt := 50) hx hb zd_ModelReader_readLabels_33 (by decide) (fun hc8 => ?_) (fun hc8 => ?_)
      · have hok := hok.1 hc8
        exact wJ_ModelReader_readLabels_50 G K ad sv  Post PX C K2 kh2 x1 r7 I7 J7 B7 D7 ls H locs hok (lv_sub hl [1, 2, 0] rfl) hw
      · have hok := hok.2 hc8
        refine lv_aload_n hx hb zd_ModelReader_readLabels_36 rfl (lv_at hl 1 rfl) ?_
        refine z_get (v := .ref (ad 6)) hx hb hts hown hK hw zZ4 5 wX_g5 4 (by decide) zn_368 rfl zd_ModelReader_readLabels_37 ?_
        refine z_get (v := .ref (ad 42)) hx hb hts hown hK hw zZ10 6 wX_g6 10 (by decide) zn_371 rfl zd_ModelReader_readLabels_40 ?_
        refine lv_iload_n hx hb zd_ModelReader_readLabels_43 rfl (lv_at hl 0 rfl) ?_
        refine va_iald (f := (B7 28)) hx hb hK hw.1 42 0 wX_a42 rfl hok.1 zd_ModelReader_readLabels_44 ?_
        have hok := hok.2
        refine lv_topi (fun z9 ez9 => ?_)
        have hok := hok z9 ez9
        refine lv_bipush (v := (-3)) hx hb zd_ModelReader_readLabels_45 (by decide) ?_
        refine lv_icmp_eq (tgt := 57) hx hb zd_ModelReader_readLabels_47 (by decide) (fun hc10 => ?_) (fun hc10 => ?_)
        · have hok := hok.1 hc10
          exact wJ_ModelReader_readLabels_57 G K ad sv  Post PX C K2 kh2 x1 r7 I7 J7 B7 D7 ls H locs hok (lv_sub hl [1, 2, 0] rfl) hw
        · have hok := hok.2 hc10
          exact wJ_ModelReader_readLabels_50 G K ad sv  Post PX C K2 kh2 x1 r7 I7 J7 B7 D7 ls H locs hok (lv_sub hl [1, 2, 0] rfl) hw
theorem wL_ModelReader_readLabels_2 {p : Program} {l : Launch} {e : Env} {s : State} {m : MethodId} {below : List Frame} {meth : Method} {c : Code} {A : Nat → Prop} (G : va_G) (K : Nat → ClassId) (ad : Nat → Nat) (sv : Value) (Post : (Nat → Int32) → (Nat → Int64) → (Nat → Nat → Int32) → (Nat → Nat → Int64) → Prop) (PX : String → (Nat → Int32) → (Nat → Int64) → (Nat → Nat → Int32) → (Nat → Nat → Int64) → Prop) (C : zCy p l s m ([.ref (ad 5)] : List Value).toArray meth c A G K prog_5_method_7_code none 3 "LassoFinder$ModelReader") : ∀ (n : Nat) (x1 : Int32) (I : Nat → Int32) (J : Nat → Int64) (B : Nat → Nat → Int32) (D : Nat → Nat → Int64) (ls : Array Slot) (H : Heap) (locs : List Loc), wl_ModelReader_readLabels_2  Post PX n x1 I J B D → lv_has ls 3 [(0, .ref (ad 5)), (1, .int x1)] → zW G A s.heap (wX ad K sv I J B D) H locs → W p l e { frames := 7, cells := 1, slots := 6, locals := 101 } s m ([.ref (ad 5)] : List Value).toArray below meth c H locs 0 0 (zyMQ below (va_Qv (fun u : zS => Post u.1 u.2.1 u.2.2.1 u.2.2.2) (fun u t => zPost G K A (wX ad K sv u.1 u.2.1 u.2.2.1 u.2.2.2) t) A) (zYC (fun E (u : zS) => PX E u.1 u.2.1 u.2.2.1 u.2.2.2) (fun u => wX ad K sv u.1 u.2.1 u.2.2.1 u.2.2.2) G K A) ([.ref (ad 5)] : List Value).toArray s 1 6 A) (F0 m 2 ls []) := by
  intro n
  induction n with
  | zero => intro x1 I J B D ls H locs hok; exact hok.elim
  | succ n ih => exact wB_ModelReader_readLabels_2 G K ad sv  Post PX C (wl_ModelReader_readLabels_2  Post PX n) ih
set_option maxHeartbeats 8000000 in
set_option maxRecDepth 100000 in
theorem w_ModelReader_readLabels (l : Launch) (hlt : l.stackTraces = false) (G : va_G) (K : Nat → ClassId) (ad : Nat → Nat) (sv : Value) (I : Nat → Int32) (J : Nat → Int64) (B : Nat → Nat → Int32) (D : Nat → Nat → Int64) (Post : (Nat → Int32) → (Nat → Int64) → (Nat → Nat → Int32) → (Nat → Nat → Int64) → Prop) (PX : String → (Nat → Int32) → (Nat → Int64) → (Nat → Nat → Int32) → (Nat → Nat → Int64) → Prop) (sz : Nat) (hok : wp_ModelReader_readLabels I J B D  Post PX) : zyMet l zy_ModelReader_readLabels (Cond.code zy_ModelReader_readLabels prog_5_method_7_code 3 none :: zTB) { frames := 7, cells := 1, slots := 6, locals := 101 } (va_Pc [.ref (ad 5)] (zPreX G K (wX ad K sv I J B D) sz)) (va_Qv (fun u : zS => Post u.1 u.2.1 u.2.2.1 u.2.2.2) (fun u t => zPost G K (va_A (wX ad K sv I J B D) sz) (wX ad K sv u.1 u.2.1 u.2.2.1 u.2.2.2) t) (va_A (wX ad K sv I J B D) sz)) (zYC (fun E (u : zS) => PX E u.1 u.2.1 u.2.2.1 u.2.2.2) (fun u => wX ad K sv u.1 u.2.1 u.2.2.1 u.2.2.2) G K (va_A (wX ad K sv I J B D) sz)) 1 6 (va_A (wX ad K sv I J B D) sz) := by
  refine zMetY (y := zy_ModelReader_readLabels) (av := [.ref (ad 5)]) (maxL := 3) (cc := prog_5_method_7_code) (ret := none) (W0 := (wX ad K sv I J B D)) (sz := sz) (G := G) (K := K) (wt := zTB) (mc := 1) (ms := 6) (Qf := fun A => va_Qv (fun u : zS => Post u.1 u.2.1 u.2.2.1 u.2.2.2) (fun u t => zPost G K A (wX ad K sv u.1 u.2.1 u.2.2.1 u.2.2.2) t) A) (Xf := fun A => (zYC (fun E (u : zS) => PX E u.1 u.2.1 u.2.2.1 u.2.2.2) (fun u => wX ad K sv u.1 u.2.1 u.2.2.1 u.2.2.2) G K A)) (by decide) (Nat.le_of_ble_eq_true rfl) ?_
  intro p e s m below meth c ls A hx hb hr hml hts hown hlocks hin hA hK H locs hw hsz hl hT hnt
  clear hsz
  have hown : s.vm.findClass "LassoFinder$ModelReader" = some m.cls := hown
  have C : zCy p l s m ([.ref (ad 5)] : List Value).toArray meth c A G K prog_5_method_7_code none 3 "LassoFinder$ModelReader" := ⟨hx, hb, hr, hml, hts, hown, hlocks, hA, hK, hT, hnt, hlt⟩
  have hl : lv_has ls 3 [(0, .ref (ad 5))] := hl
  have hw : zW G A s.heap (wX ad K sv I J B D) H locs := hw
  unfold wp_ModelReader_readLabels at hok
  refine lv_iconst (v := 0) hx hb zd_ModelReader_readLabels_0 (by decide) ?_
  refine lv_istore_n hx hb zd_ModelReader_readLabels_1 rfl hl (by decide) rfl (fun ls hl => ?_)
  have hl : lv_has ls 3 [(1, .int 0), (0, .ref (ad 5))] := hl
  obtain ⟨n9, hok⟩ := hok
  exact wL_ModelReader_readLabels_2 G K ad sv  Post PX C n9 0 I J B D ls H locs hok (lv_sub hl [1, 0] rfl) hw
def wc_Tree_loopInside_27 (a0 : Int32) (Post : Int32 → (Nat → Int32) → (Nat → Int64) → (Nat → Nat → Int32) → (Nat → Nat → Int64) → Prop) (y0 : Int32) (I : Nat → Int32) (J : Nat → Int64) (B : Nat → Nat → Int32) (D : Nat → Nat → Int64) : Prop :=
  Post y0 I J B D
def wp_Tree_loopInside (I : Nat → Int32) (J : Nat → Int64) (B : Nat → Nat → Int32) (D : Nat → Nat → Int64) (a0 : Int32) (Post : Int32 → (Nat → Int32) → (Nat → Int64) → (Nat → Nat → Int32) → (Nat → Nat → Int64) → Prop) : Prop :=
  ((¬ a0 = (-1) → vp_in a0 240 ∧ ∀ z2 : Int32, z2 = ((B 18) a0.toNatClampNeg) → ((¬ z2 = 2 → vp_in a0 240 ∧ ∀ z4 : Int32, z4 = ((B 20) a0.toNatClampNeg) → wc_Tree_loopInside_27 a0 Post z4 I J B D) ∧ (z2 = 2 → wc_Tree_loopInside_27 a0 Post a0 I J B D))) ∧ (a0 = (-1) → Post (-1) I J B D))
set_option maxHeartbeats 8000000 in
set_option maxRecDepth 100000 in
theorem wJ_Tree_loopInside_27 {p : Program} {l : Launch} {e : Env} {s : State} {m : MethodId} {below : List Frame} {meth : Method} {c : Code} {A : Nat → Prop} (G : va_G) (K : Nat → ClassId) (ad : Nat → Nat) (sv : Value) (a0 : Int32) (Post : Int32 → (Nat → Int32) → (Nat → Int64) → (Nat → Nat → Int32) → (Nat → Nat → Int64) → Prop) (C : zCx p s m ([.ref (ad 6), .int a0] : List Value).toArray meth c A G K prog_11_method_4_code (some .int) 2 "LassoFinder$Tree") : ∀ (y0 : Int32) (I : Nat → Int32) (J : Nat → Int64) (B : Nat → Nat → Int32) (D : Nat → Nat → Int64) (ls : Array Slot) (H : Heap) (locs : List Loc), wc_Tree_loopInside_27 a0 Post y0 I J B D → lv_has ls 2 [] → zW G A s.heap (wX ad K sv I J B D) H locs → W p l e { frames := 0, cells := 0, slots := 0, locals := 0 } s m ([.ref (ad 6), .int a0] : List Value).toArray below meth c H locs 0 0 (MQ below (va_Qi (fun (r : Int32) (u : zS) => Post r u.1 u.2.1 u.2.2.1 u.2.2.2) (fun u t => zPost G K A (wX ad K sv u.1 u.2.1 u.2.2.1 u.2.2.2) t) A) ([.ref (ad 6), .int a0] : List Value).toArray s 0 0 A) (F0 m 27 ls [.int y0]) := by
  obtain ⟨hx, hb, hr, hml, hts, hown, hlocks, hA, hK⟩ := id C
  intro y0 I J B D ls H locs hok hl hw
  unfold wc_Tree_loopInside_27 at hok
  exact (z_iret (u := (I, J, B, D)) hx hb hr hlocks rfl hw (List.range 65) wX_all wX_nd hok (Nat.le_of_ble_eq_true rfl) (Nat.le_of_ble_eq_true rfl) zd_Tree_loopInside_27)
set_option maxHeartbeats 8000000 in
set_option maxRecDepth 100000 in
theorem w_Tree_loopInside (l : Launch) (G : va_G) (K : Nat → ClassId) (ad : Nat → Nat) (sv : Value) (I : Nat → Int32) (J : Nat → Int64) (B : Nat → Nat → Int32) (D : Nat → Nat → Int64) (a0 : Int32) (Post : Int32 → (Nat → Int32) → (Nat → Int64) → (Nat → Nat → Int32) → (Nat → Nat → Int64) → Prop) (sz : Nat) (hok : wp_Tree_loopInside I J B D a0 Post) : Met l zy_Tree_loopInside (Cond.code zy_Tree_loopInside prog_11_method_4_code 2 (some .int) :: zTB) { frames := 0, cells := 0, slots := 0, locals := 0 } (va_Pc [.ref (ad 6), .int a0] (zPre G K (wX ad K sv I J B D) sz)) (va_Qi (fun (r : Int32) (u : zS) => Post r u.1 u.2.1 u.2.2.1 u.2.2.2) (fun u t => zPost G K (va_A (wX ad K sv I J B D) sz) (wX ad K sv u.1 u.2.1 u.2.2.1 u.2.2.2) t) (va_A (wX ad K sv I J B D) sz)) 0 0 (va_A (wX ad K sv I J B D) sz) := by
  refine zMet (y := zy_Tree_loopInside) (av := [.ref (ad 6), .int a0]) (maxL := 2) (cc := prog_11_method_4_code) (ret := (some .int)) (W0 := (wX ad K sv I J B D)) (sz := sz) (G := G) (K := K) (wt := zTB) (mc := 0) (ms := 0) (Qf := fun A => va_Qi (fun (r : Int32) (u : zS) => Post r u.1 u.2.1 u.2.2.1 u.2.2.2) (fun u t => zPost G K A (wX ad K sv u.1 u.2.1 u.2.2.1 u.2.2.2) t) A) (by decide) (Nat.le_of_ble_eq_true rfl) ?_
  intro p e s m below meth c ls A hx hb hr hml hts hown hlocks hin hA hK H locs hw hsz hl
  clear hsz
  have hown : s.vm.findClass "LassoFinder$Tree" = some m.cls := hown
  have C : zCx p s m ([.ref (ad 6), .int a0] : List Value).toArray meth c A G K prog_11_method_4_code (some .int) 2 "LassoFinder$Tree" := ⟨hx, hb, hr, hml, hts, hown, hlocks, hA, hK⟩
  have hl : lv_has ls 2 [(0, .ref (ad 6)), (1, .int a0)] := hl
  have hw : zW G A s.heap (wX ad K sv I J B D) H locs := hw
  unfold wp_Tree_loopInside at hok
  refine lv_iload_n hx hb zd_Tree_loopInside_0 rfl (lv_at hl 1 rfl) ?_
  refine lv_iconst (v := (-1)) hx hb zd_Tree_loopInside_1 (by decide) ?_
  refine lv_icmp_ne (tgt := 7) hx hb zd_Tree_loopInside_2 (by decide) (fun hc1 => ?_) (fun hc1 => ?_)
  · have hok := hok.1 hc1
    refine lv_aload_n hx hb zd_Tree_loopInside_7 rfl (lv_at hl 0 rfl) ?_
    refine z_get (v := .ref (ad 32)) hx hb hts hown hK hw zZ10 6 wX_g6 0 (by decide) zn_255 rfl zd_Tree_loopInside_8 ?_
    refine lv_iload_n hx hb zd_Tree_loopInside_11 rfl (lv_at hl 1 rfl) ?_
    refine va_iald (f := (B 18)) hx hb hK hw.1 32 0 wX_a32 rfl hok.1 zd_Tree_loopInside_12 ?_
    have hok := hok.2
    refine lv_topi (fun z2 ez2 => ?_)
    have hok := hok z2 ez2
    refine lv_iconst (v := 2) hx hb zd_Tree_loopInside_13 (by decide) ?_
    refine lv_icmp_ne (tgt := 21) hx hb zd_Tree_loopInside_14 (by decide) (fun hc3 => ?_) (fun hc3 => ?_)
    · have hok := hok.1 hc3
      refine lv_aload_n hx hb zd_Tree_loopInside_21 rfl (lv_at hl 0 rfl) ?_
      refine z_get (v := .ref (ad 34)) hx hb hts hown hK hw zZ10 6 wX_g6 2 (by decide) zn_257 rfl zd_Tree_loopInside_22 ?_
      refine lv_iload_n hx hb zd_Tree_loopInside_25 rfl (lv_at hl 1 rfl) ?_
      refine va_iald (f := (B 20)) hx hb hK hw.1 34 0 wX_a34 rfl hok.1 zd_Tree_loopInside_26 ?_
      have hok := hok.2
      refine lv_topi (fun z4 ez4 => ?_)
      have hok := hok z4 ez4
      exact wJ_Tree_loopInside_27 G K ad sv a0 Post C z4 I J B D ls H locs hok (lv_sub hl [] rfl) hw
    · have hok := hok.2 hc3
      refine lv_iload_n hx hb zd_Tree_loopInside_17 rfl (lv_at hl 1 rfl) ?_
      refine lv_goto (tgt := 27) hx hb zd_Tree_loopInside_18 (by decide) ?_
      exact wJ_Tree_loopInside_27 G K ad sv a0 Post C a0 I J B D ls H locs hok (lv_sub hl [] rfl) hw
  · have hok := hok.2 hc1
    refine lv_iconst (v := (-1)) hx hb zd_Tree_loopInside_5 (by decide) ?_
    exact (z_iret (u := (I, J, B, D)) hx hb hr hlocks rfl hw (List.range 65) wX_all wX_nd hok (Nat.le_of_ble_eq_true rfl) (Nat.le_of_ble_eq_true rfl) zd_Tree_loopInside_6)
def wc_Tree_atomicInside_27 (a0 : Int32) (Post : Int32 → (Nat → Int32) → (Nat → Int64) → (Nat → Nat → Int32) → (Nat → Nat → Int64) → Prop) (y0 : Int32) (I : Nat → Int32) (J : Nat → Int64) (B : Nat → Nat → Int32) (D : Nat → Nat → Int64) : Prop :=
  Post y0 I J B D
def wp_Tree_atomicInside (I : Nat → Int32) (J : Nat → Int64) (B : Nat → Nat → Int32) (D : Nat → Nat → Int64) (a0 : Int32) (Post : Int32 → (Nat → Int32) → (Nat → Int64) → (Nat → Nat → Int32) → (Nat → Nat → Int64) → Prop) : Prop :=
  ((¬ a0 = (-1) → vp_in a0 240 ∧ ∀ z2 : Int32, z2 = ((B 18) a0.toNatClampNeg) → ((¬ z2 = 3 → vp_in a0 240 ∧ ∀ z4 : Int32, z4 = ((B 21) a0.toNatClampNeg) → wc_Tree_atomicInside_27 a0 Post z4 I J B D) ∧ (z2 = 3 → wc_Tree_atomicInside_27 a0 Post a0 I J B D))) ∧ (a0 = (-1) → Post (-1) I J B D))
set_option maxHeartbeats 8000000 in
set_option maxRecDepth 100000 in
theorem wJ_Tree_atomicInside_27 {p : Program} {l : Launch} {e : Env} {s : State} {m : MethodId} {below : List Frame} {meth : Method} {c : Code} {A : Nat → Prop} (G : va_G) (K : Nat → ClassId) (ad : Nat → Nat) (sv : Value) (a0 : Int32) (Post : Int32 → (Nat → Int32) → (Nat → Int64) → (Nat → Nat → Int32) → (Nat → Nat → Int64) → Prop) (C : zCx p s m ([.ref (ad 6), .int a0] : List Value).toArray meth c A G K prog_11_method_5_code (some .int) 2 "LassoFinder$Tree") : ∀ (y0 : Int32) (I : Nat → Int32) (J : Nat → Int64) (B : Nat → Nat → Int32) (D : Nat → Nat → Int64) (ls : Array Slot) (H : Heap) (locs : List Loc), wc_Tree_atomicInside_27 a0 Post y0 I J B D → lv_has ls 2 [] → zW G A s.heap (wX ad K sv I J B D) H locs → W p l e { frames := 0, cells := 0, slots := 0, locals := 0 } s m ([.ref (ad 6), .int a0] : List Value).toArray below meth c H locs 0 0 (MQ below (va_Qi (fun (r : Int32) (u : zS) => Post r u.1 u.2.1 u.2.2.1 u.2.2.2) (fun u t => zPost G K A (wX ad K sv u.1 u.2.1 u.2.2.1 u.2.2.2) t) A) ([.ref (ad 6), .int a0] : List Value).toArray s 0 0 A) (F0 m 27 ls [.int y0]) := by
  obtain ⟨hx, hb, hr, hml, hts, hown, hlocks, hA, hK⟩ := id C
  intro y0 I J B D ls H locs hok hl hw
  unfold wc_Tree_atomicInside_27 at hok
  exact (z_iret (u := (I, J, B, D)) hx hb hr hlocks rfl hw (List.range 65) wX_all wX_nd hok (Nat.le_of_ble_eq_true rfl) (Nat.le_of_ble_eq_true rfl) zd_Tree_atomicInside_27)
set_option maxHeartbeats 8000000 in
set_option maxRecDepth 100000 in
theorem w_Tree_atomicInside (l : Launch) (G : va_G) (K : Nat → ClassId) (ad : Nat → Nat) (sv : Value) (I : Nat → Int32) (J : Nat → Int64) (B : Nat → Nat → Int32) (D : Nat → Nat → Int64) (a0 : Int32) (Post : Int32 → (Nat → Int32) → (Nat → Int64) → (Nat → Nat → Int32) → (Nat → Nat → Int64) → Prop) (sz : Nat) (hok : wp_Tree_atomicInside I J B D a0 Post) : Met l zy_Tree_atomicInside (Cond.code zy_Tree_atomicInside prog_11_method_5_code 2 (some .int) :: zTB) { frames := 0, cells := 0, slots := 0, locals := 0 } (va_Pc [.ref (ad 6), .int a0] (zPre G K (wX ad K sv I J B D) sz)) (va_Qi (fun (r : Int32) (u : zS) => Post r u.1 u.2.1 u.2.2.1 u.2.2.2) (fun u t => zPost G K (va_A (wX ad K sv I J B D) sz) (wX ad K sv u.1 u.2.1 u.2.2.1 u.2.2.2) t) (va_A (wX ad K sv I J B D) sz)) 0 0 (va_A (wX ad K sv I J B D) sz) := by
  refine zMet (y := zy_Tree_atomicInside) (av := [.ref (ad 6), .int a0]) (maxL := 2) (cc := prog_11_method_5_code) (ret := (some .int)) (W0 := (wX ad K sv I J B D)) (sz := sz) (G := G) (K := K) (wt := zTB) (mc := 0) (ms := 0) (Qf := fun A => va_Qi (fun (r : Int32) (u : zS) => Post r u.1 u.2.1 u.2.2.1 u.2.2.2) (fun u t => zPost G K A (wX ad K sv u.1 u.2.1 u.2.2.1 u.2.2.2) t) A) (by decide) (Nat.le_of_ble_eq_true rfl) ?_
  intro p e s m below meth c ls A hx hb hr hml hts hown hlocks hin hA hK H locs hw hsz hl
  clear hsz
  have hown : s.vm.findClass "LassoFinder$Tree" = some m.cls := hown
  have C : zCx p s m ([.ref (ad 6), .int a0] : List Value).toArray meth c A G K prog_11_method_5_code (some .int) 2 "LassoFinder$Tree" := ⟨hx, hb, hr, hml, hts, hown, hlocks, hA, hK⟩
  have hl : lv_has ls 2 [(0, .ref (ad 6)), (1, .int a0)] := hl
  have hw : zW G A s.heap (wX ad K sv I J B D) H locs := hw
  unfold wp_Tree_atomicInside at hok
  refine lv_iload_n hx hb zd_Tree_atomicInside_0 rfl (lv_at hl 1 rfl) ?_
  refine lv_iconst (v := (-1)) hx hb zd_Tree_atomicInside_1 (by decide) ?_
  refine lv_icmp_ne (tgt := 7) hx hb zd_Tree_atomicInside_2 (by decide) (fun hc1 => ?_) (fun hc1 => ?_)
  · have hok := hok.1 hc1
    refine lv_aload_n hx hb zd_Tree_atomicInside_7 rfl (lv_at hl 0 rfl) ?_
    refine z_get (v := .ref (ad 32)) hx hb hts hown hK hw zZ10 6 wX_g6 0 (by decide) zn_255 rfl zd_Tree_atomicInside_8 ?_
    refine lv_iload_n hx hb zd_Tree_atomicInside_11 rfl (lv_at hl 1 rfl) ?_
    refine va_iald (f := (B 18)) hx hb hK hw.1 32 0 wX_a32 rfl hok.1 zd_Tree_atomicInside_12 ?_
    have hok := hok.2
    refine lv_topi (fun z2 ez2 => ?_)
    have hok := hok z2 ez2
    refine lv_iconst (v := 3) hx hb zd_Tree_atomicInside_13 (by decide) ?_
    refine lv_icmp_ne (tgt := 21) hx hb zd_Tree_atomicInside_14 (by decide) (fun hc3 => ?_) (fun hc3 => ?_)
    · have hok := hok.1 hc3
      refine lv_aload_n hx hb zd_Tree_atomicInside_21 rfl (lv_at hl 0 rfl) ?_
      refine z_get (v := .ref (ad 35)) hx hb hts hown hK hw zZ10 6 wX_g6 3 (by decide) zn_258 rfl zd_Tree_atomicInside_22 ?_
      refine lv_iload_n hx hb zd_Tree_atomicInside_25 rfl (lv_at hl 1 rfl) ?_
      refine va_iald (f := (B 21)) hx hb hK hw.1 35 0 wX_a35 rfl hok.1 zd_Tree_atomicInside_26 ?_
      have hok := hok.2
      refine lv_topi (fun z4 ez4 => ?_)
      have hok := hok z4 ez4
      exact wJ_Tree_atomicInside_27 G K ad sv a0 Post C z4 I J B D ls H locs hok (lv_sub hl [] rfl) hw
    · have hok := hok.2 hc3
      refine lv_iload_n hx hb zd_Tree_atomicInside_17 rfl (lv_at hl 1 rfl) ?_
      refine lv_goto (tgt := 27) hx hb zd_Tree_atomicInside_18 (by decide) ?_
      exact wJ_Tree_atomicInside_27 G K ad sv a0 Post C a0 I J B D ls H locs hok (lv_sub hl [] rfl) hw
  · have hok := hok.2 hc1
    refine lv_iconst (v := (-1)) hx hb zd_Tree_atomicInside_5 (by decide) ?_
    exact (z_iret (u := (I, J, B, D)) hx hb hr hlocks rfl hw (List.range 65) wX_all wX_nd hok (Nat.le_of_ble_eq_true rfl) (Nat.le_of_ble_eq_true rfl) zd_Tree_atomicInside_6)
def wc_Tree_add_144 (a0 : Int32) (a1 : Int32) (a2 : Int32) (Post : Int32 → (Nat → Int32) → (Nat → Int64) → (Nat → Nat → Int32) → (Nat → Nat → Int64) → Prop) (x4 : Int32) (I : Nat → Int32) (J : Nat → Int64) (B : Nat → Nat → Int32) (D : Nat → Nat → Int64) : Prop :=
  Post x4 I J B D
def wc_Tree_add_118 (a0 : Int32) (a1 : Int32) (a2 : Int32) (Post : Int32 → (Nat → Int32) → (Nat → Int64) → (Nat → Nat → Int32) → (Nat → Nat → Int64) → Prop) (x1 : Int32) (x4 : Int32) (I : Nat → Int32) (J : Nat → Int64) (B : Nat → Nat → Int32) (D : Nat → Nat → Int64) : Prop :=
  (((2 : Int32) < x1 → wc_Tree_add_144 a0 a1 a2 Post x4 I J B D) ∧ (¬ (2 : Int32) < x1 → vp_in x4 240 ∧ ∀ z2 : Int32, z2 = ((I 17) + 1) → wc_Tree_add_144 a0 a1 a2 Post x4 (upd I 17 z2) J (va_up B 25 (upd (B 25) x4.toNatClampNeg (I 17))) D))
def wc_Tree_add_72 (a0 : Int32) (a1 : Int32) (a2 : Int32) (Post : Int32 → (Nat → Int32) → (Nat → Int64) → (Nat → Nat → Int32) → (Nat → Nat → Int64) → Prop) (x1 : Int32) (x2 : Int32) (x3 : Int32) (x4 : Int32) (y0 : Int32) (y1 : Int32) (I : Nat → Int32) (J : Nat → Int64) (B : Nat → Nat → Int32) (D : Nat → Nat → Int64) : Prop :=
  vp_in y1 240 ∧ vp_in x4 240 ∧ vp_in x4 240 ∧ ((x3 = (-1) → ((x2 = (-1) → wc_Tree_add_118 a0 a1 a2 Post x1 x4 I J (va_up (va_up (va_up B 22 (upd (B 22) y1.toNatClampNeg (vp_nar .boolean y0))) 23 (upd (B 23) x4.toNatClampNeg (-1))) 25 (upd (B 25) x4.toNatClampNeg (-1))) D) ∧ (¬ x2 = (-1) → vp_in x2 240 ∧ wc_Tree_add_118 a0 a1 a2 Post x1 x4 I J (va_up (va_up (va_up (va_up B 22 (upd (B 22) y1.toNatClampNeg (vp_nar .boolean y0))) 23 (upd (B 23) x4.toNatClampNeg (-1))) 25 (upd (B 25) x4.toNatClampNeg (-1))) 24 (upd (B 24) x2.toNatClampNeg x4)) D))) ∧ (¬ x3 = (-1) → vp_in x3 240 ∧ wc_Tree_add_118 a0 a1 a2 Post x1 x4 I J (va_up (va_up (va_up (va_up B 22 (upd (B 22) y1.toNatClampNeg (vp_nar .boolean y0))) 23 (upd (B 23) x4.toNatClampNeg (-1))) 25 (upd (B 25) x4.toNatClampNeg (-1))) 23 (upd (upd (B 23) x4.toNatClampNeg (-1)) x3.toNatClampNeg x4)) D))
def wp_Tree_add (I : Nat → Int32) (J : Nat → Int64) (B : Nat → Nat → Int32) (D : Nat → Nat → Int64) (a0 : Int32) (a1 : Int32) (a2 : Int32) (Post : Int32 → (Nat → Int32) → (Nat → Int64) → (Nat → Nat → Int32) → (Nat → Nat → Int64) → Prop) : Prop :=
  ∀ z5 : Int32, z5 = ((I 16) + 1) → vp_in (I 16) 240 ∧ vp_in (I 16) 240 ∧ wp_Tree_loopInside (upd I 16 z5) J (va_up (va_up B 18 (upd (B 18) (I 16).toNatClampNeg a0)) 19 (upd (B 19) (I 16).toNatClampNeg a1)) D a1 (fun r6 I6 J6 B6 D6 => vp_in (I 16) 240 ∧ wp_Tree_atomicInside I6 J6 (va_up B6 20 (upd (B6 20) (I 16).toNatClampNeg r6)) D6 a1 (fun r7 I7 J7 B7 D7 => vp_in (I 16) 240 ∧ ((¬ a2 = (-1) → wc_Tree_add_72 a0 a1 a2 Post a0 a1 a2 (I 16) 0 (I 16) I7 J7 (va_up B7 21 (upd (B7 21) (I 16).toNatClampNeg r7)) D7) ∧ (a2 = (-1) → wc_Tree_add_72 a0 a1 a2 Post a0 a1 a2 (I 16) 1 (I 16) I7 J7 (va_up B7 21 (upd (B7 21) (I 16).toNatClampNeg r7)) D7))))
set_option maxHeartbeats 8000000 in
set_option maxRecDepth 100000 in
theorem wJ_Tree_add_144 {p : Program} {l : Launch} {e : Env} {s : State} {m : MethodId} {below : List Frame} {meth : Method} {c : Code} {A : Nat → Prop} (G : va_G) (K : Nat → ClassId) (ad : Nat → Nat) (sv : Value) (a0 : Int32) (a1 : Int32) (a2 : Int32) (Post : Int32 → (Nat → Int32) → (Nat → Int64) → (Nat → Nat → Int32) → (Nat → Nat → Int64) → Prop) (C : zCx p s m ([.ref (ad 6), .int a0, .int a1, .int a2] : List Value).toArray meth c A G K prog_11_method_3_code (some .int) 5 "LassoFinder$Tree") : ∀ (x4 : Int32) (I : Nat → Int32) (J : Nat → Int64) (B : Nat → Nat → Int32) (D : Nat → Nat → Int64) (ls : Array Slot) (H : Heap) (locs : List Loc), wc_Tree_add_144 a0 a1 a2 Post x4 I J B D → lv_has ls 5 [(4, .int x4)] → zW G A s.heap (wX ad K sv I J B D) H locs → W p l e { frames := 1, cells := 0, slots := 0, locals := 21 } s m ([.ref (ad 6), .int a0, .int a1, .int a2] : List Value).toArray below meth c H locs 0 0 (MQ below (va_Qi (fun (r : Int32) (u : zS) => Post r u.1 u.2.1 u.2.2.1 u.2.2.2) (fun u t => zPost G K A (wX ad K sv u.1 u.2.1 u.2.2.1 u.2.2.2) t) A) ([.ref (ad 6), .int a0, .int a1, .int a2] : List Value).toArray s 0 0 A) (F0 m 144 ls []) := by
  obtain ⟨hx, hb, hr, hml, hts, hown, hlocks, hA, hK⟩ := id C
  intro x4 I J B D ls H locs hok hl hw
  unfold wc_Tree_add_144 at hok
  refine lv_iload hx hb zd_Tree_add_144 (lv_at hl 0 rfl) ?_
  exact (z_iret (u := (I, J, B, D)) hx hb hr hlocks rfl hw (List.range 65) wX_all wX_nd hok (Nat.le_of_ble_eq_true rfl) (Nat.le_of_ble_eq_true rfl) zd_Tree_add_146)
set_option maxHeartbeats 8000000 in
set_option maxRecDepth 100000 in
theorem wJ_Tree_add_118 {p : Program} {l : Launch} {e : Env} {s : State} {m : MethodId} {below : List Frame} {meth : Method} {c : Code} {A : Nat → Prop} (G : va_G) (K : Nat → ClassId) (ad : Nat → Nat) (sv : Value) (a0 : Int32) (a1 : Int32) (a2 : Int32) (Post : Int32 → (Nat → Int32) → (Nat → Int64) → (Nat → Nat → Int32) → (Nat → Nat → Int64) → Prop) (C : zCx p s m ([.ref (ad 6), .int a0, .int a1, .int a2] : List Value).toArray meth c A G K prog_11_method_3_code (some .int) 5 "LassoFinder$Tree") : ∀ (x1 : Int32) (x4 : Int32) (I : Nat → Int32) (J : Nat → Int64) (B : Nat → Nat → Int32) (D : Nat → Nat → Int64) (ls : Array Slot) (H : Heap) (locs : List Loc), wc_Tree_add_118 a0 a1 a2 Post x1 x4 I J B D → lv_has ls 5 [(0, .ref (ad 6)), (1, .int x1), (4, .int x4)] → zW G A s.heap (wX ad K sv I J B D) H locs → W p l e { frames := 1, cells := 0, slots := 0, locals := 21 } s m ([.ref (ad 6), .int a0, .int a1, .int a2] : List Value).toArray below meth c H locs 0 0 (MQ below (va_Qi (fun (r : Int32) (u : zS) => Post r u.1 u.2.1 u.2.2.1 u.2.2.2) (fun u t => zPost G K A (wX ad K sv u.1 u.2.1 u.2.2.1 u.2.2.2) t) A) ([.ref (ad 6), .int a0, .int a1, .int a2] : List Value).toArray s 0 0 A) (F0 m 118 ls []) := by
  obtain ⟨hx, hb, hr, hml, hts, hown, hlocks, hA, hK⟩ := id C
  intro x1 x4 I J B D ls H locs hok hl hw
  unfold wc_Tree_add_118 at hok
  refine lv_iload_n hx hb zd_Tree_add_118 rfl (lv_at hl 1 rfl) ?_
  refine lv_iconst (v := 2) hx hb zd_Tree_add_119 (by decide) ?_
  refine lv_icmp_gt (tgt := 144) hx hb zd_Tree_add_120 (by decide) (fun hc1 => ?_) (fun hc1 => ?_)
  · have hok := hok.1 hc1
    exact wJ_Tree_add_144 G K ad sv a0 a1 a2 Post C x4 I J B D ls H locs hok (lv_sub hl [2] rfl) hw
  · have hok := hok.2 hc1
    refine lv_aload_n hx hb zd_Tree_add_123 rfl (lv_at hl 0 rfl) ?_
    refine z_get (v := .ref (ad 39)) hx hb hts hown hK hw zZ10 6 wX_g6 7 (by decide) zn_262 rfl zd_Tree_add_124 ?_
    refine lv_iload hx hb zd_Tree_add_127 (lv_at hl 2 rfl) ?_
    refine lv_aload_n hx hb zd_Tree_add_129 rfl (lv_at hl 0 rfl) ?_
    refine z_get (v := .int (I 17)) hx hb hts hown hK hw zZ10 6 wX_g6 12 (by decide) zn_370 rfl zd_Tree_add_130 ?_
    refine va_iast (f := (B 25)) hx hb hK hw.1 hw.2.1 hw.2.2 39 0 wX_a39 rfl hok.1 zd_Tree_add_133 (fun H locs w91 w92 w93 => ?_)
    have hok := hok.2
    have hw := wX_t39 ⟨w91, w92, w93⟩
    refine lv_aload_n hx hb zd_Tree_add_134 rfl (lv_at hl 0 rfl) ?_
    refine lv_dup hx hb zd_Tree_add_135 rfl ?_
    refine z_get (v := .int (I 17)) hx hb hts hown hK hw zZ10 6 wX_g6 12 (by decide) zn_370 rfl zd_Tree_add_136 ?_
    refine lv_iconst (v := 1) hx hb zd_Tree_add_139 (by decide) ?_
    refine lv_iadd hx hb zd_Tree_add_140 ?_
    refine lv_topi (fun z2 ez2 => ?_)
    have hok := hok z2 ez2
    refine z_put (v := .int z2) hx hb hts hown hK hw zZ10 6 wX_g6 12 (by decide) zn_370 rfl rfl rfl (Nat.le_of_ble_eq_true rfl) zd_Tree_add_141 (fun H locs hw => ?_)
    have hw := wX_sI17 hw
    exact wJ_Tree_add_144 G K ad sv a0 a1 a2 Post C x4 (upd I 17 z2) J (va_up B 25 (upd (B 25) x4.toNatClampNeg (I 17))) D ls H locs hok (lv_sub hl [2] rfl) hw
set_option maxHeartbeats 8000000 in
set_option maxRecDepth 100000 in
theorem wJ_Tree_add_72 {p : Program} {l : Launch} {e : Env} {s : State} {m : MethodId} {below : List Frame} {meth : Method} {c : Code} {A : Nat → Prop} (G : va_G) (K : Nat → ClassId) (ad : Nat → Nat) (sv : Value) (a0 : Int32) (a1 : Int32) (a2 : Int32) (Post : Int32 → (Nat → Int32) → (Nat → Int64) → (Nat → Nat → Int32) → (Nat → Nat → Int64) → Prop) (C : zCx p s m ([.ref (ad 6), .int a0, .int a1, .int a2] : List Value).toArray meth c A G K prog_11_method_3_code (some .int) 5 "LassoFinder$Tree") : ∀ (x1 : Int32) (x2 : Int32) (x3 : Int32) (x4 : Int32) (y0 : Int32) (y1 : Int32) (I : Nat → Int32) (J : Nat → Int64) (B : Nat → Nat → Int32) (D : Nat → Nat → Int64) (ls : Array Slot) (H : Heap) (locs : List Loc), wc_Tree_add_72 a0 a1 a2 Post x1 x2 x3 x4 y0 y1 I J B D → lv_has ls 5 [(0, .ref (ad 6)), (1, .int x1), (2, .int x2), (3, .int x3), (4, .int x4)] → zW G A s.heap (wX ad K sv I J B D) H locs → W p l e { frames := 1, cells := 0, slots := 0, locals := 21 } s m ([.ref (ad 6), .int a0, .int a1, .int a2] : List Value).toArray below meth c H locs 0 0 (MQ below (va_Qi (fun (r : Int32) (u : zS) => Post r u.1 u.2.1 u.2.2.1 u.2.2.2) (fun u t => zPost G K A (wX ad K sv u.1 u.2.1 u.2.2.1 u.2.2.2) t) A) ([.ref (ad 6), .int a0, .int a1, .int a2] : List Value).toArray s 0 0 A) (F0 m 72 ls [.int y0, .int y1, .ref (ad 36)]) := by
  obtain ⟨hx, hb, hr, hml, hts, hown, hlocks, hA, hK⟩ := id C
  intro x1 x2 x3 x4 y0 y1 I J B D ls H locs hok hl hw
  unfold wc_Tree_add_72 at hok
  refine va_zast (f := (B 22)) hx hb hK hw.1 hw.2.1 hw.2.2 36 2 wX_a36 rfl hok.1 zd_Tree_add_72 (fun H locs w91 w92 w93 => ?_)
  have hok := hok.2
  have hw := wX_t36 ⟨w91, w92, w93⟩
  refine lv_aload_n hx hb zd_Tree_add_73 rfl (lv_at hl 0 rfl) ?_
  refine z_get (v := .ref (ad 37)) hx hb hts hown hK hw zZ10 6 wX_g6 5 (by decide) zn_260 rfl zd_Tree_add_74 ?_
  refine lv_iload hx hb zd_Tree_add_77 (lv_at hl 4 rfl) ?_
  refine lv_iconst (v := (-1)) hx hb zd_Tree_add_79 (by decide) ?_
  refine va_iast (f := (B 23)) hx hb hK hw.1 hw.2.1 hw.2.2 37 0 wX_a37 rfl hok.1 zd_Tree_add_80 (fun H locs w91 w92 w93 => ?_)
  have hok := hok.2
  have hw := wX_t37 ⟨w91, w92, w93⟩
  refine lv_aload_n hx hb zd_Tree_add_81 rfl (lv_at hl 0 rfl) ?_
  refine z_get (v := .ref (ad 39)) hx hb hts hown hK hw zZ10 6 wX_g6 7 (by decide) zn_262 rfl zd_Tree_add_82 ?_
  refine lv_iload hx hb zd_Tree_add_85 (lv_at hl 4 rfl) ?_
  refine lv_iconst (v := (-1)) hx hb zd_Tree_add_87 (by decide) ?_
  refine va_iast (f := (B 25)) hx hb hK hw.1 hw.2.1 hw.2.2 39 0 wX_a39 rfl hok.1 zd_Tree_add_88 (fun H locs w91 w92 w93 => ?_)
  have hok := hok.2
  have hw := wX_t39 ⟨w91, w92, w93⟩
  refine lv_iload_n hx hb zd_Tree_add_89 rfl (lv_at hl 3 rfl) ?_
  refine lv_iconst (v := (-1)) hx hb zd_Tree_add_90 (by decide) ?_
  refine lv_icmp_eq (tgt := 105) hx hb zd_Tree_add_91 (by decide) (fun hc3 => ?_) (fun hc3 => ?_)
  · have hok := hok.1 hc3
    refine lv_iload_n hx hb zd_Tree_add_105 rfl (lv_at hl 2 rfl) ?_
    refine lv_iconst (v := (-1)) hx hb zd_Tree_add_106 (by decide) ?_
    refine lv_icmp_eq (tgt := 118) hx hb zd_Tree_add_107 (by decide) (fun hc4 => ?_) (fun hc4 => ?_)
    · have hok := hok.1 hc4
      exact wJ_Tree_add_118 G K ad sv a0 a1 a2 Post C x1 x4 I J (va_up (va_up (va_up B 22 (upd (B 22) y1.toNatClampNeg (vp_nar .boolean y0))) 23 (upd (B 23) x4.toNatClampNeg (-1))) 25 (upd (B 25) x4.toNatClampNeg (-1))) D ls H locs hok (lv_sub hl [0, 1, 4] rfl) hw
    · have hok := hok.2 hc4
      refine lv_aload_n hx hb zd_Tree_add_110 rfl (lv_at hl 0 rfl) ?_
      refine z_get (v := .ref (ad 38)) hx hb hts hown hK hw zZ10 6 wX_g6 6 (by decide) zn_261 rfl zd_Tree_add_111 ?_
      refine lv_iload_n hx hb zd_Tree_add_114 rfl (lv_at hl 2 rfl) ?_
      refine lv_iload hx hb zd_Tree_add_115 (lv_at hl 4 rfl) ?_
      refine va_iast (f := (B 24)) hx hb hK hw.1 hw.2.1 hw.2.2 38 0 wX_a38 rfl hok.1 zd_Tree_add_117 (fun H locs w91 w92 w93 => ?_)
      have hok := hok.2
      have hw := wX_t38 ⟨w91, w92, w93⟩
      exact wJ_Tree_add_118 G K ad sv a0 a1 a2 Post C x1 x4 I J (va_up (va_up (va_up (va_up B 22 (upd (B 22) y1.toNatClampNeg (vp_nar .boolean y0))) 23 (upd (B 23) x4.toNatClampNeg (-1))) 25 (upd (B 25) x4.toNatClampNeg (-1))) 24 (upd (B 24) x2.toNatClampNeg x4)) D ls H locs hok (lv_sub hl [0, 1, 4] rfl) hw
  · have hok := hok.2 hc3
    refine lv_aload_n hx hb zd_Tree_add_94 rfl (lv_at hl 0 rfl) ?_
    refine z_get (v := .ref (ad 37)) hx hb hts hown hK hw zZ10 6 wX_g6 5 (by decide) zn_260 rfl zd_Tree_add_95 ?_
    refine lv_iload_n hx hb zd_Tree_add_98 rfl (lv_at hl 3 rfl) ?_
    refine lv_iload hx hb zd_Tree_add_99 (lv_at hl 4 rfl) ?_
    refine va_iast (f := (upd (B 23) x4.toNatClampNeg (-1))) hx hb hK hw.1 hw.2.1 hw.2.2 37 0 wX_a37 rfl hok.1 zd_Tree_add_101 (fun H locs w91 w92 w93 => ?_)
    have hok := hok.2
    have hw := wX_t37 ⟨w91, w92, w93⟩
    refine lv_goto (tgt := 118) hx hb zd_Tree_add_102 (by decide) ?_
    exact wJ_Tree_add_118 G K ad sv a0 a1 a2 Post C x1 x4 I J (va_up (va_up (va_up (va_up B 22 (upd (B 22) y1.toNatClampNeg (vp_nar .boolean y0))) 23 (upd (B 23) x4.toNatClampNeg (-1))) 25 (upd (B 25) x4.toNatClampNeg (-1))) 23 (upd (upd (B 23) x4.toNatClampNeg (-1)) x3.toNatClampNeg x4)) D ls H locs hok (lv_sub hl [0, 1, 4] rfl) hw
set_option maxHeartbeats 8000000 in
set_option maxRecDepth 100000 in
theorem w_Tree_add (l : Launch) (G : va_G) (K : Nat → ClassId) (ad : Nat → Nat) (sv : Value) (I : Nat → Int32) (J : Nat → Int64) (B : Nat → Nat → Int32) (D : Nat → Nat → Int64) (a0 : Int32) (a1 : Int32) (a2 : Int32) (Post : Int32 → (Nat → Int32) → (Nat → Int64) → (Nat → Nat → Int32) → (Nat → Nat → Int64) → Prop) (sz : Nat) (hok : wp_Tree_add I J B D a0 a1 a2 Post) : Met l zy_Tree_add (Cond.code zy_Tree_add prog_11_method_3_code 5 (some .int) :: zTB) { frames := 1, cells := 0, slots := 0, locals := 21 } (va_Pc [.ref (ad 6), .int a0, .int a1, .int a2] (zPre G K (wX ad K sv I J B D) sz)) (va_Qi (fun (r : Int32) (u : zS) => Post r u.1 u.2.1 u.2.2.1 u.2.2.2) (fun u t => zPost G K (va_A (wX ad K sv I J B D) sz) (wX ad K sv u.1 u.2.1 u.2.2.1 u.2.2.2) t) (va_A (wX ad K sv I J B D) sz)) 0 0 (va_A (wX ad K sv I J B D) sz) := by
  refine zMet (y := zy_Tree_add) (av := [.ref (ad 6), .int a0, .int a1, .int a2]) (maxL := 5) (cc := prog_11_method_3_code) (ret := (some .int)) (W0 := (wX ad K sv I J B D)) (sz := sz) (G := G) (K := K) (wt := zTB) (mc := 0) (ms := 0) (Qf := fun A => va_Qi (fun (r : Int32) (u : zS) => Post r u.1 u.2.1 u.2.2.1 u.2.2.2) (fun u t => zPost G K A (wX ad K sv u.1 u.2.1 u.2.2.1 u.2.2.2) t) A) (by decide) (Nat.le_of_ble_eq_true rfl) ?_
  intro p e s m below meth c ls A hx hb hr hml hts hown hlocks hin hA hK H locs hw hsz hl
  clear hsz
  have hown : s.vm.findClass "LassoFinder$Tree" = some m.cls := hown
  have C : zCx p s m ([.ref (ad 6), .int a0, .int a1, .int a2] : List Value).toArray meth c A G K prog_11_method_3_code (some .int) 5 "LassoFinder$Tree" := ⟨hx, hb, hr, hml, hts, hown, hlocks, hA, hK⟩
  have hl : lv_has ls 5 [(0, .ref (ad 6)), (1, .int a0), (2, .int a1), (3, .int a2)] := hl
  have hw : zW G A s.heap (wX ad K sv I J B D) H locs := hw
  unfold wp_Tree_add at hok
  refine lv_aload_n hx hb zd_Tree_add_0 rfl (lv_at hl 0 rfl) ?_
  refine z_get (v := .int (I 16)) hx hb hts hown hK hw zZ10 6 wX_g6 11 (by decide) zn_369 rfl zd_Tree_add_1 ?_
  refine lv_istore hx hb zd_Tree_add_4 hl (by decide) rfl (fun ls hl => ?_)
  have hl : lv_has ls 5 [(4, .int (I 16)), (0, .ref (ad 6)), (1, .int a0), (2, .int a1), (3, .int a2)] := hl
  refine lv_aload_n hx hb zd_Tree_add_6 rfl (lv_at hl 1 rfl) ?_
  refine lv_dup hx hb zd_Tree_add_7 rfl ?_
  refine z_get (v := .int (I 16)) hx hb hts hown hK hw zZ10 6 wX_g6 11 (by decide) zn_369 rfl zd_Tree_add_8 ?_
  refine lv_iconst (v := 1) hx hb zd_Tree_add_11 (by decide) ?_
  refine lv_iadd hx hb zd_Tree_add_12 ?_
  refine lv_topi (fun z5 ez5 => ?_)
  have hok := hok z5 ez5
  refine z_put (v := .int z5) hx hb hts hown hK hw zZ10 6 wX_g6 11 (by decide) zn_369 rfl rfl rfl (Nat.le_of_ble_eq_true rfl) zd_Tree_add_13 (fun H locs hw => ?_)
  have hw := wX_sI16 hw
  refine lv_aload_n hx hb zd_Tree_add_16 rfl (lv_at hl 1 rfl) ?_
  refine z_get (v := .ref (ad 32)) hx hb hts hown hK hw zZ10 6 wX_g6 0 (by decide) zn_255 rfl zd_Tree_add_17 ?_
  refine lv_iload hx hb zd_Tree_add_20 (lv_at hl 0 rfl) ?_
  refine lv_iload_n hx hb zd_Tree_add_22 rfl (lv_at hl 2 rfl) ?_
  refine va_iast (f := (B 18)) hx hb hK hw.1 hw.2.1 hw.2.2 32 0 wX_a32 rfl hok.1 zd_Tree_add_23 (fun H locs w91 w92 w93 => ?_)
  have hok := hok.2
  have hw := wX_t32 ⟨w91, w92, w93⟩
  refine lv_aload_n hx hb zd_Tree_add_24 rfl (lv_at hl 1 rfl) ?_
  refine z_get (v := .ref (ad 33)) hx hb hts hown hK hw zZ10 6 wX_g6 1 (by decide) zn_256 rfl zd_Tree_add_25 ?_
  refine lv_iload hx hb zd_Tree_add_28 (lv_at hl 0 rfl) ?_
  refine lv_iload_n hx hb zd_Tree_add_30 rfl (lv_at hl 3 rfl) ?_
  refine va_iast (f := (B 19)) hx hb hK hw.1 hw.2.1 hw.2.2 33 0 wX_a33 rfl hok.1 zd_Tree_add_31 (fun H locs w91 w92 w93 => ?_)
  have hok := hok.2
  have hw := wX_t33 ⟨w91, w92, w93⟩
  refine lv_aload_n hx hb zd_Tree_add_32 rfl (lv_at hl 1 rfl) ?_
  refine z_get (v := .ref (ad 34)) hx hb hts hown hK hw zZ10 6 wX_g6 2 (by decide) zn_257 rfl zd_Tree_add_33 ?_
  refine lv_iload hx hb zd_Tree_add_36 (lv_at hl 0 rfl) ?_
  refine lv_aload_n hx hb zd_Tree_add_38 rfl (lv_at hl 1 rfl) ?_
  refine lv_iload_n hx hb zd_Tree_add_39 rfl (lv_at hl 3 rfl) ?_
  refine z_calli (w1 := fun (u : zS) => wX ad K sv u.1 u.2.1 u.2.2.1 u.2.2.2) (wr := []) (z_runV (q0 := 6) (wc := (wX ad K sv (upd I 16 z5) J (va_up (va_up B 18 (upd (B 18) (I 16).toNatClampNeg a0)) 19 (upd (B 19) (I 16).toNatClampNeg a1)) D)) (As := [.int a1]) (rest := [.int (I 16), .ref (ad 34)]) ⟨hx, hb, hml, hown, hts⟩ (w_Tree_loopInside l G K ad sv (upd I 16 z5) J (va_up (va_up B 18 (upd (B 18) (I 16).toNatClampNeg a0)) 19 (upd (B 19) (I 16).toNatClampNeg a1)) D a1 _ H.size hok) zf_Tree_loopInside zn_327 ⟨Nat.le_of_ble_eq_true rfl, Nat.le_of_ble_eq_true rfl⟩ hK hw (List.range 65) wX_all wX_nd wX_g6 rfl rfl hl.1 rfl (Nat.le_of_ble_eq_true rfl) zd_Tree_add_40 ⟨Nat.le_of_ble_eq_true rfl, Nat.le_of_ble_eq_true rfl⟩) hw hA (List.range 65) [] wX_all rfl (by decide) (fun i hi => by cases hi) (fun r6 u H locs hok hw => ?_)
  obtain ⟨I6, J6, B6, D6⟩ := u
  dsimp only at hok
  have hw : zW G A s.heap (wX ad K sv I6 J6 B6 D6) H locs := hw
  refine va_iast (f := (B6 20)) hx hb hK hw.1 hw.2.1 hw.2.2 34 0 wX_a34 rfl hok.1 zd_Tree_add_43 (fun H locs w91 w92 w93 => ?_)
  have hok := hok.2
  have hw := wX_t34 ⟨w91, w92, w93⟩
  refine lv_aload_n hx hb zd_Tree_add_44 rfl (lv_at hl 1 rfl) ?_
  refine z_get (v := .ref (ad 35)) hx hb hts hown hK hw zZ10 6 wX_g6 3 (by decide) zn_258 rfl zd_Tree_add_45 ?_
  refine lv_iload hx hb zd_Tree_add_48 (lv_at hl 0 rfl) ?_
  refine lv_aload_n hx hb zd_Tree_add_50 rfl (lv_at hl 1 rfl) ?_
  refine lv_iload_n hx hb zd_Tree_add_51 rfl (lv_at hl 3 rfl) ?_
  refine z_calli (w1 := fun (u : zS) => wX ad K sv u.1 u.2.1 u.2.2.1 u.2.2.2) (wr := []) (z_runV (q0 := 6) (wc := (wX ad K sv I6 J6 (va_up B6 20 (upd (B6 20) (I 16).toNatClampNeg r6)) D6)) (As := [.int a1]) (rest := [.int (I 16), .ref (ad 35)]) ⟨hx, hb, hml, hown, hts⟩ (w_Tree_atomicInside l G K ad sv I6 J6 (va_up B6 20 (upd (B6 20) (I 16).toNatClampNeg r6)) D6 a1 _ H.size hok) zf_Tree_atomicInside zn_328 ⟨Nat.le_of_ble_eq_true rfl, Nat.le_of_ble_eq_true rfl⟩ hK hw (List.range 65) wX_all wX_nd wX_g6 rfl rfl hl.1 rfl (Nat.le_of_ble_eq_true rfl) zd_Tree_add_52 ⟨Nat.le_of_ble_eq_true rfl, Nat.le_of_ble_eq_true rfl⟩) hw hA (List.range 65) [] wX_all rfl (by decide) (fun i hi => by cases hi) (fun r7 u H locs hok hw => ?_)
  obtain ⟨I7, J7, B7, D7⟩ := u
  dsimp only at hok
  have hw : zW G A s.heap (wX ad K sv I7 J7 B7 D7) H locs := hw
  refine va_iast (f := (B7 21)) hx hb hK hw.1 hw.2.1 hw.2.2 35 0 wX_a35 rfl hok.1 zd_Tree_add_55 (fun H locs w91 w92 w93 => ?_)
  have hok := hok.2
  have hw := wX_t35 ⟨w91, w92, w93⟩
  refine lv_aload_n hx hb zd_Tree_add_56 rfl (lv_at hl 1 rfl) ?_
  refine z_get (v := .ref (ad 36)) hx hb hts hown hK hw zZ10 6 wX_g6 4 (by decide) zn_259 rfl zd_Tree_add_57 ?_
  refine lv_iload hx hb zd_Tree_add_60 (lv_at hl 0 rfl) ?_
  refine lv_iload_n hx hb zd_Tree_add_62 rfl (lv_at hl 4 rfl) ?_
  refine lv_iconst (v := (-1)) hx hb zd_Tree_add_63 (by decide) ?_
  refine lv_icmp_ne (tgt := 71) hx hb zd_Tree_add_64 (by decide) (fun hc8 => ?_) (fun hc8 => ?_)
  · have hok := hok.1 hc8
    refine lv_iconst (v := 0) hx hb zd_Tree_add_71 (by decide) ?_
    exact wJ_Tree_add_72 G K ad sv a0 a1 a2 Post C a0 a1 a2 (I 16) 0 (I 16) I7 J7 (va_up B7 21 (upd (B7 21) (I 16).toNatClampNeg r7)) D7 ls H locs hok (lv_sub hl [1, 2, 3, 4, 0] rfl) hw
  · have hok := hok.2 hc8
    refine lv_iconst (v := 1) hx hb zd_Tree_add_67 (by decide) ?_
    refine lv_goto (tgt := 72) hx hb zd_Tree_add_68 (by decide) ?_
    exact wJ_Tree_add_72 G K ad sv a0 a1 a2 Post C a0 a1 a2 (I 16) 1 (I 16) I7 J7 (va_up B7 21 (upd (B7 21) (I 16).toNatClampNeg r7)) D7 ls H locs hok (lv_sub hl [1, 2, 3, 4, 0] rfl) hw
def wp_Names_clear (I : Nat → Int32) (J : Nat → Int64) (B : Nat → Nat → Int32) (D : Nat → Nat → Int64) (Post : (Nat → Int32) → (Nat → Int64) → (Nat → Nat → Int32) → (Nat → Nat → Int64) → Prop) : Prop :=
  Post (upd (upd I 7 0) 8 0) J (va_up B 2 (zFill (B 2) 0 8)) D
set_option maxHeartbeats 8000000 in
set_option maxRecDepth 100000 in
theorem w_Names_clear (l : Launch) (G : va_G) (K : Nat → ClassId) (ad : Nat → Nat) (sv : Value) (I : Nat → Int32) (J : Nat → Int64) (B : Nat → Nat → Int32) (D : Nat → Nat → Int64) (Post : (Nat → Int32) → (Nat → Int64) → (Nat → Nat → Int32) → (Nat → Nat → Int64) → Prop) (sz : Nat) (hok : wp_Names_clear I J B D  Post) : Met l zy_Names_clear (Cond.code zy_Names_clear prog_6_method_2_code 1 none :: zTB) { frames := 1, cells := 0, slots := 0, locals := 23 } (va_Pc [.ref (ad 2)] (zPre G K (wX ad K sv I J B D) sz)) (va_Qv (fun u : zS => Post u.1 u.2.1 u.2.2.1 u.2.2.2) (fun u t => zPost G K (va_A (wX ad K sv I J B D) sz) (wX ad K sv u.1 u.2.1 u.2.2.1 u.2.2.2) t) (va_A (wX ad K sv I J B D) sz)) 0 0 (va_A (wX ad K sv I J B D) sz) := by
  refine zMet (y := zy_Names_clear) (av := [.ref (ad 2)]) (maxL := 1) (cc := prog_6_method_2_code) (ret := none) (W0 := (wX ad K sv I J B D)) (sz := sz) (G := G) (K := K) (wt := zTB) (mc := 0) (ms := 0) (Qf := fun A => va_Qv (fun u : zS => Post u.1 u.2.1 u.2.2.1 u.2.2.2) (fun u t => zPost G K A (wX ad K sv u.1 u.2.1 u.2.2.1 u.2.2.2) t) A) (by decide) (Nat.le_of_ble_eq_true rfl) ?_
  intro p e s m below meth c ls A hx hb hr hml hts hown hlocks hin hA hK H locs hw hsz hl
  clear hsz
  have hown : s.vm.findClass "LassoFinder$Names" = some m.cls := hown
  have C : zCx p s m ([.ref (ad 2)] : List Value).toArray meth c A G K prog_6_method_2_code none 1 "LassoFinder$Names" := ⟨hx, hb, hr, hml, hts, hown, hlocks, hA, hK⟩
  have hl : lv_has ls 1 [(0, .ref (ad 2))] := hl
  have hw : zW G A s.heap (wX ad K sv I J B D) H locs := hw
  unfold wp_Names_clear at hok
  refine lv_aload_n hx hb zd_Names_clear_0 rfl (lv_at hl 0 rfl) ?_
  refine z_get (v := .ref (ad 14)) hx hb hts hown hK hw zZ5 2 wX_g2 0 (by decide) zn_237 rfl zd_Names_clear_1 ?_
  refine lv_iconst (v := 0) hx hb zd_Names_clear_4 (by decide) ?_
  refine z_fillI (f := (B 2)) (v := 0) (n := 8) (rest := []) ⟨hx, hb, hml, hown, hts⟩ hK hw hA 14 wX_a14 (by decide) zn_301 ⟨(Nat.le_of_ble_eq_true rfl), (Nat.le_of_ble_eq_true rfl)⟩ hl.1 rfl (Nat.le_of_ble_eq_true rfl) zd_Names_clear_5 ⟨(Nat.le_of_ble_eq_true rfl), (Nat.le_of_ble_eq_true rfl)⟩ (fun H locs hw => ?_)
  have hw := wX_t14 hw
  refine lv_aload_n hx hb zd_Names_clear_8 rfl (lv_at hl 0 rfl) ?_
  refine lv_iconst (v := 0) hx hb zd_Names_clear_9 (by decide) ?_
  refine z_put (v := .int 0) hx hb hts hown hK hw zZ5 2 wX_g2 4 (by decide) zn_383 rfl rfl rfl (Nat.le_of_ble_eq_true rfl) zd_Names_clear_10 (fun H locs hw => ?_)
  have hw := wX_sI7 hw
  refine lv_aload_n hx hb zd_Names_clear_13 rfl (lv_at hl 0 rfl) ?_
  refine lv_iconst (v := 0) hx hb zd_Names_clear_14 (by decide) ?_
  refine z_put (v := .int 0) hx hb hts hown hK hw zZ5 2 wX_g2 5 (by decide) zn_384 rfl rfl rfl (Nat.le_of_ble_eq_true rfl) zd_Names_clear_15 (fun H locs hw => ?_)
  have hw := wX_sI8 hw
  exact (z_vret (u := ((upd (upd I 7 0) 8 0), J, (va_up B 2 (zFill (B 2) 0 8)), D)) hx hb hr hlocks hw (List.range 65) wX_all wX_nd hok (Nat.le_of_ble_eq_true rfl) (Nat.le_of_ble_eq_true rfl) zd_Names_clear_18)
def wp_Terms_clear_A (I : Nat → Int32) (J : Nat → Int64) (B : Nat → Nat → Int32) (D : Nat → Nat → Int64) (Post : (Nat → Int32) → (Nat → Int64) → (Nat → Nat → Int32) → (Nat → Nat → Int64) → Prop) : Prop :=
  Post (upd I 11 0) J B D
set_option maxHeartbeats 8000000 in
set_option maxRecDepth 100000 in
theorem w_Terms_clear_A (l : Launch) (G : va_G) (K : Nat → ClassId) (ad : Nat → Nat) (sv : Value) (I : Nat → Int32) (J : Nat → Int64) (B : Nat → Nat → Int32) (D : Nat → Nat → Int64) (Post : (Nat → Int32) → (Nat → Int64) → (Nat → Nat → Int32) → (Nat → Nat → Int64) → Prop) (sz : Nat) (hok : wp_Terms_clear_A I J B D  Post) : Met l zy_Terms_clear (Cond.code zy_Terms_clear prog_9_method_2_code 1 none :: zTB) { frames := 0, cells := 0, slots := 0, locals := 0 } (va_Pc [.ref (ad 4)] (zPre G K (wX ad K sv I J B D) sz)) (va_Qv (fun u : zS => Post u.1 u.2.1 u.2.2.1 u.2.2.2) (fun u t => zPost G K (va_A (wX ad K sv I J B D) sz) (wX ad K sv u.1 u.2.1 u.2.2.1 u.2.2.2) t) (va_A (wX ad K sv I J B D) sz)) 0 0 (va_A (wX ad K sv I J B D) sz) := by
  refine zMet (y := zy_Terms_clear) (av := [.ref (ad 4)]) (maxL := 1) (cc := prog_9_method_2_code) (ret := none) (W0 := (wX ad K sv I J B D)) (sz := sz) (G := G) (K := K) (wt := zTB) (mc := 0) (ms := 0) (Qf := fun A => va_Qv (fun u : zS => Post u.1 u.2.1 u.2.2.1 u.2.2.2) (fun u t => zPost G K A (wX ad K sv u.1 u.2.1 u.2.2.1 u.2.2.2) t) A) (by decide) (Nat.le_of_ble_eq_true rfl) ?_
  intro p e s m below meth c ls A hx hb hr hml hts hown hlocks hin hA hK H locs hw hsz hl
  clear hsz
  have hown : s.vm.findClass "LassoFinder$Terms" = some m.cls := hown
  have C : zCx p s m ([.ref (ad 4)] : List Value).toArray meth c A G K prog_9_method_2_code none 1 "LassoFinder$Terms" := ⟨hx, hb, hr, hml, hts, hown, hlocks, hA, hK⟩
  have hl : lv_has ls 1 [(0, .ref (ad 4))] := hl
  have hw : zW G A s.heap (wX ad K sv I J B D) H locs := hw
  unfold wp_Terms_clear_A at hok
  refine lv_aload_n hx hb zd_Terms_clear_0 rfl (lv_at hl 0 rfl) ?_
  refine lv_iconst (v := 0) hx hb zd_Terms_clear_1 (by decide) ?_
  refine z_put (v := .int 0) hx hb hts hown hK hw zZ8 4 wX_g4 3 (by decide) zn_379 rfl rfl rfl (Nat.le_of_ble_eq_true rfl) zd_Terms_clear_2 (fun H locs hw => ?_)
  have hw := wX_sI11 hw
  exact (z_vret (u := ((upd I 11 0), J, B, D)) hx hb hr hlocks hw (List.range 65) wX_all wX_nd hok (Nat.le_of_ble_eq_true rfl) (Nat.le_of_ble_eq_true rfl) zd_Terms_clear_5)
def wp_Terms_clear_B (I : Nat → Int32) (J : Nat → Int64) (B : Nat → Nat → Int32) (D : Nat → Nat → Int64) (Post : (Nat → Int32) → (Nat → Int64) → (Nat → Nat → Int32) → (Nat → Nat → Int64) → Prop) : Prop :=
  Post (upd I 25 0) J B D
set_option maxHeartbeats 8000000 in
set_option maxRecDepth 100000 in
theorem w_Terms_clear_B (l : Launch) (G : va_G) (K : Nat → ClassId) (ad : Nat → Nat) (sv : Value) (I : Nat → Int32) (J : Nat → Int64) (B : Nat → Nat → Int32) (D : Nat → Nat → Int64) (Post : (Nat → Int32) → (Nat → Int64) → (Nat → Nat → Int32) → (Nat → Nat → Int64) → Prop) (sz : Nat) (hok : wp_Terms_clear_B I J B D  Post) : Met l zy_Terms_clear (Cond.code zy_Terms_clear prog_9_method_2_code 1 none :: zTB) { frames := 0, cells := 0, slots := 0, locals := 0 } (va_Pc [.ref (ad 10)] (zPre G K (wX ad K sv I J B D) sz)) (va_Qv (fun u : zS => Post u.1 u.2.1 u.2.2.1 u.2.2.2) (fun u t => zPost G K (va_A (wX ad K sv I J B D) sz) (wX ad K sv u.1 u.2.1 u.2.2.1 u.2.2.2) t) (va_A (wX ad K sv I J B D) sz)) 0 0 (va_A (wX ad K sv I J B D) sz) := by
  refine zMet (y := zy_Terms_clear) (av := [.ref (ad 10)]) (maxL := 1) (cc := prog_9_method_2_code) (ret := none) (W0 := (wX ad K sv I J B D)) (sz := sz) (G := G) (K := K) (wt := zTB) (mc := 0) (ms := 0) (Qf := fun A => va_Qv (fun u : zS => Post u.1 u.2.1 u.2.2.1 u.2.2.2) (fun u t => zPost G K A (wX ad K sv u.1 u.2.1 u.2.2.1 u.2.2.2) t) A) (by decide) (Nat.le_of_ble_eq_true rfl) ?_
  intro p e s m below meth c ls A hx hb hr hml hts hown hlocks hin hA hK H locs hw hsz hl
  clear hsz
  have hown : s.vm.findClass "LassoFinder$Terms" = some m.cls := hown
  have C : zCx p s m ([.ref (ad 10)] : List Value).toArray meth c A G K prog_9_method_2_code none 1 "LassoFinder$Terms" := ⟨hx, hb, hr, hml, hts, hown, hlocks, hA, hK⟩
  have hl : lv_has ls 1 [(0, .ref (ad 10))] := hl
  have hw : zW G A s.heap (wX ad K sv I J B D) H locs := hw
  unfold wp_Terms_clear_B at hok
  refine lv_aload_n hx hb zd_Terms_clear_0 rfl (lv_at hl 0 rfl) ?_
  refine lv_iconst (v := 0) hx hb zd_Terms_clear_1 (by decide) ?_
  refine z_put (v := .int 0) hx hb hts hown hK hw zZ8 10 wX_g10 3 (by decide) zn_379 rfl rfl rfl (Nat.le_of_ble_eq_true rfl) zd_Terms_clear_2 (fun H locs hw => ?_)
  have hw := wX_sI25 hw
  exact (z_vret (u := ((upd I 25 0), J, B, D)) hx hb hr hlocks hw (List.range 65) wX_all wX_nd hok (Nat.le_of_ble_eq_true rfl) (Nat.le_of_ble_eq_true rfl) zd_Terms_clear_5)
def wp_Program_clear (I : Nat → Int32) (J : Nat → Int64) (B : Nat → Nat → Int32) (D : Nat → Nat → Int64) (Post : (Nat → Int32) → (Nat → Int64) → (Nat → Nat → Int32) → (Nat → Nat → Int64) → Prop) : Prop :=
  Post (upd (upd I 9 0) 10 0) (vp_updL J 0 0) (va_up (va_up B 13 (zFill (B 13) 0 4)) 14 (zFill (B 14) (-1) 32)) (va_up (va_up D 0 (zFill (D 0) 0 8)) 1 (zFill (D 1) 0 124))
set_option maxHeartbeats 8000000 in
set_option maxRecDepth 100000 in
theorem w_Program_clear (l : Launch) (G : va_G) (K : Nat → ClassId) (ad : Nat → Nat) (sv : Value) (I : Nat → Int32) (J : Nat → Int64) (B : Nat → Nat → Int32) (D : Nat → Nat → Int64) (Post : (Nat → Int32) → (Nat → Int64) → (Nat → Nat → Int32) → (Nat → Nat → Int64) → Prop) (sz : Nat) (hok : wp_Program_clear I J B D  Post) : Met l zy_Program_clear (Cond.code zy_Program_clear prog_7_method_2_code 1 none :: zTB) { frames := 1, cells := 0, slots := 0, locals := 24 } (va_Pc [.ref (ad 3)] (zPre G K (wX ad K sv I J B D) sz)) (va_Qv (fun u : zS => Post u.1 u.2.1 u.2.2.1 u.2.2.2) (fun u t => zPost G K (va_A (wX ad K sv I J B D) sz) (wX ad K sv u.1 u.2.1 u.2.2.1 u.2.2.2) t) (va_A (wX ad K sv I J B D) sz)) 0 0 (va_A (wX ad K sv I J B D) sz) := by
  refine zMet (y := zy_Program_clear) (av := [.ref (ad 3)]) (maxL := 1) (cc := prog_7_method_2_code) (ret := none) (W0 := (wX ad K sv I J B D)) (sz := sz) (G := G) (K := K) (wt := zTB) (mc := 0) (ms := 0) (Qf := fun A => va_Qv (fun u : zS => Post u.1 u.2.1 u.2.2.1 u.2.2.2) (fun u t => zPost G K A (wX ad K sv u.1 u.2.1 u.2.2.1 u.2.2.2) t) A) (by decide) (Nat.le_of_ble_eq_true rfl) ?_
  intro p e s m below meth c ls A hx hb hr hml hts hown hlocks hin hA hK H locs hw hsz hl
  clear hsz
  have hown : s.vm.findClass "LassoFinder$Program" = some m.cls := hown
  have C : zCx p s m ([.ref (ad 3)] : List Value).toArray meth c A G K prog_7_method_2_code none 1 "LassoFinder$Program" := ⟨hx, hb, hr, hml, hts, hown, hlocks, hA, hK⟩
  have hl : lv_has ls 1 [(0, .ref (ad 3))] := hl
  have hw : zW G A s.heap (wX ad K sv I J B D) H locs := hw
  unfold wp_Program_clear at hok
  refine lv_aload_n hx hb zd_Program_clear_0 rfl (lv_at hl 0 rfl) ?_
  refine z_get (v := .ref (ad 25)) hx hb hts hown hK hw zZ6 3 wX_g3 7 (by decide) zn_248 rfl zd_Program_clear_1 ?_
  refine lv_lconst (v := 0) hx hb zd_Program_clear_4 (by decide) ?_
  refine z_fillJ (f := (D 0)) (v := 0) (n := 8) (rest := []) ⟨hx, hb, hml, hown, hts⟩ hK hw hA 25 wX_a25 (by decide) zn_304 ⟨(Nat.le_of_ble_eq_true rfl), (Nat.le_of_ble_eq_true rfl)⟩ hl.1 rfl (Nat.le_of_ble_eq_true rfl) zd_Program_clear_5 ⟨(Nat.le_of_ble_eq_true rfl), (Nat.le_of_ble_eq_true rfl)⟩ (fun H locs hw => ?_)
  have hw := wX_t25 hw
  refine lv_aload_n hx hb zd_Program_clear_8 rfl (lv_at hl 0 rfl) ?_
  refine z_get (v := .ref (ad 26)) hx hb hts hown hK hw zZ6 3 wX_g3 8 (by decide) zn_249 rfl zd_Program_clear_9 ?_
  refine lv_iconst (v := 0) hx hb zd_Program_clear_12 (by decide) ?_
  refine z_fillI (f := (B 13)) (v := 0) (n := 4) (rest := []) ⟨hx, hb, hml, hown, hts⟩ hK hw hA 26 wX_a26 (by decide) zn_305 ⟨(Nat.le_of_ble_eq_true rfl), (Nat.le_of_ble_eq_true rfl)⟩ hl.1 rfl (Nat.le_of_ble_eq_true rfl) zd_Program_clear_13 ⟨(Nat.le_of_ble_eq_true rfl), (Nat.le_of_ble_eq_true rfl)⟩ (fun H locs hw => ?_)
  have hw := wX_t26 hw
  refine lv_aload_n hx hb zd_Program_clear_16 rfl (lv_at hl 0 rfl) ?_
  refine z_get (v := .ref (ad 27)) hx hb hts hown hK hw zZ6 3 wX_g3 9 (by decide) zn_250 rfl zd_Program_clear_17 ?_
  refine lv_iconst (v := (-1)) hx hb zd_Program_clear_20 (by decide) ?_
  refine z_fillI (f := (B 14)) (v := (-1)) (n := 32) (rest := []) ⟨hx, hb, hml, hown, hts⟩ hK hw hA 27 wX_a27 (by decide) zn_305 ⟨(Nat.le_of_ble_eq_true rfl), (Nat.le_of_ble_eq_true rfl)⟩ hl.1 rfl (Nat.le_of_ble_eq_true rfl) zd_Program_clear_21 ⟨(Nat.le_of_ble_eq_true rfl), (Nat.le_of_ble_eq_true rfl)⟩ (fun H locs hw => ?_)
  have hw := wX_t27 hw
  refine lv_aload_n hx hb zd_Program_clear_24 rfl (lv_at hl 0 rfl) ?_
  refine z_get (v := .ref (ad 28)) hx hb hts hown hK hw zZ6 3 wX_g3 10 (by decide) zn_251 rfl zd_Program_clear_25 ?_
  refine lv_lconst (v := 0) hx hb zd_Program_clear_28 (by decide) ?_
  refine z_fillJ (f := (D 1)) (v := 0) (n := 124) (rest := []) ⟨hx, hb, hml, hown, hts⟩ hK hw hA 28 wX_a28 (by decide) zn_304 ⟨(Nat.le_of_ble_eq_true rfl), (Nat.le_of_ble_eq_true rfl)⟩ hl.1 rfl (Nat.le_of_ble_eq_true rfl) zd_Program_clear_29 ⟨(Nat.le_of_ble_eq_true rfl), (Nat.le_of_ble_eq_true rfl)⟩ (fun H locs hw => ?_)
  have hw := wX_t28 hw
  refine lv_aload_n hx hb zd_Program_clear_32 rfl (lv_at hl 0 rfl) ?_
  refine lv_lconst (v := 0) hx hb zd_Program_clear_33 (by decide) ?_
  refine z_put (v := .long 0) hx hb hts hown hK hw zZ6 3 wX_g3 11 (by decide) zn_385 rfl rfl rfl (Nat.le_of_ble_eq_true rfl) zd_Program_clear_34 (fun H locs hw => ?_)
  have hw := wX_sJ0 hw
  refine lv_aload_n hx hb zd_Program_clear_37 rfl (lv_at hl 0 rfl) ?_
  refine lv_iconst (v := 0) hx hb zd_Program_clear_38 (by decide) ?_
  refine z_put (v := .int 0) hx hb hts hown hK hw zZ6 3 wX_g3 12 (by decide) zn_386 rfl rfl rfl (Nat.le_of_ble_eq_true rfl) zd_Program_clear_39 (fun H locs hw => ?_)
  have hw := wX_sI9 hw
  refine lv_aload_n hx hb zd_Program_clear_42 rfl (lv_at hl 0 rfl) ?_
  refine lv_iconst (v := 0) hx hb zd_Program_clear_43 (by decide) ?_
  refine z_put (v := .int 0) hx hb hts hown hK hw zZ6 3 wX_g3 13 (by decide) zn_387 rfl rfl rfl (Nat.le_of_ble_eq_true rfl) zd_Program_clear_44 (fun H locs hw => ?_)
  have hw := wX_sI10 hw
  exact (z_vret (u := ((upd (upd I 9 0) 10 0), (vp_updL J 0 0), (va_up (va_up B 13 (zFill (B 13) 0 4)) 14 (zFill (B 14) (-1) 32)), (va_up (va_up D 0 (zFill (D 0) 0 8)) 1 (zFill (D 1) 0 124)))) hx hb hr hlocks hw (List.range 65) wX_all wX_nd hok (Nat.le_of_ble_eq_true rfl) (Nat.le_of_ble_eq_true rfl) zd_Program_clear_47)
def wc_Names_declare_62 (a0 : Int32) (a1 : Int32) (a2 : Int32) (Post : (Nat → Int32) → (Nat → Int64) → (Nat → Nat → Int32) → (Nat → Nat → Int64) → Prop)  (I : Nat → Int32) (J : Nat → Int64) (B : Nat → Nat → Int32) (D : Nat → Nat → Int64) : Prop :=
  Post I J B D
def wp_Names_declare (I : Nat → Int32) (J : Nat → Int64) (B : Nat → Nat → Int32) (D : Nat → Nat → Int64) (a0 : Int32) (a1 : Int32) (a2 : Int32) (Post : (Nat → Int32) → (Nat → Int64) → (Nat → Nat → Int32) → (Nat → Nat → Int64) → Prop) : Prop :=
  vp_in a0 8 ∧ vp_in a0 8 ∧ ((¬ a1 = 1 → vp_in (I 8) 2 ∧ ∀ z2 : Int32, z2 = ((I 8) + 1) → wc_Names_declare_62 a0 a1 a2 Post (upd I 8 z2) J (va_up (va_up (va_up B 2 (upd (B 2) a0.toNatClampNeg a1)) 3 (upd (B 3) a0.toNatClampNeg a2)) 5 (upd (B 5) (I 8).toNatClampNeg a0)) D) ∧ (a1 = 1 → vp_in (I 7) 6 ∧ ∀ z3 : Int32, z3 = ((I 7) + 1) → wc_Names_declare_62 a0 a1 a2 Post (upd I 7 z3) J (va_up (va_up (va_up B 2 (upd (B 2) a0.toNatClampNeg a1)) 3 (upd (B 3) a0.toNatClampNeg a2)) 4 (upd (B 4) (I 7).toNatClampNeg a0)) D))
set_option maxHeartbeats 8000000 in
set_option maxRecDepth 100000 in
theorem wJ_Names_declare_62 {p : Program} {l : Launch} {e : Env} {s : State} {m : MethodId} {below : List Frame} {meth : Method} {c : Code} {A : Nat → Prop} (G : va_G) (K : Nat → ClassId) (ad : Nat → Nat) (sv : Value) (a0 : Int32) (a1 : Int32) (a2 : Int32) (Post : (Nat → Int32) → (Nat → Int64) → (Nat → Nat → Int32) → (Nat → Nat → Int64) → Prop) (C : zCx p s m ([.ref (ad 2), .int a0, .int a1, .int a2] : List Value).toArray meth c A G K prog_6_method_4_code none 4 "LassoFinder$Names") : ∀  (I : Nat → Int32) (J : Nat → Int64) (B : Nat → Nat → Int32) (D : Nat → Nat → Int64) (ls : Array Slot) (H : Heap) (locs : List Loc), wc_Names_declare_62 a0 a1 a2 Post  I J B D → lv_has ls 4 [] → zW G A s.heap (wX ad K sv I J B D) H locs → W p l e { frames := 0, cells := 0, slots := 0, locals := 0 } s m ([.ref (ad 2), .int a0, .int a1, .int a2] : List Value).toArray below meth c H locs 0 0 (MQ below (va_Qv (fun u : zS => Post u.1 u.2.1 u.2.2.1 u.2.2.2) (fun u t => zPost G K A (wX ad K sv u.1 u.2.1 u.2.2.1 u.2.2.2) t) A) ([.ref (ad 2), .int a0, .int a1, .int a2] : List Value).toArray s 0 0 A) (F0 m 62 ls []) := by
  obtain ⟨hx, hb, hr, hml, hts, hown, hlocks, hA, hK⟩ := id C
  intro  I J B D ls H locs hok hl hw
  unfold wc_Names_declare_62 at hok
  exact (z_vret (u := (I, J, B, D)) hx hb hr hlocks hw (List.range 65) wX_all wX_nd hok (Nat.le_of_ble_eq_true rfl) (Nat.le_of_ble_eq_true rfl) zd_Names_declare_62)
set_option maxHeartbeats 8000000 in
set_option maxRecDepth 100000 in
theorem w_Names_declare (l : Launch) (G : va_G) (K : Nat → ClassId) (ad : Nat → Nat) (sv : Value) (I : Nat → Int32) (J : Nat → Int64) (B : Nat → Nat → Int32) (D : Nat → Nat → Int64) (a0 : Int32) (a1 : Int32) (a2 : Int32) (Post : (Nat → Int32) → (Nat → Int64) → (Nat → Nat → Int32) → (Nat → Nat → Int64) → Prop) (sz : Nat) (hok : wp_Names_declare I J B D a0 a1 a2 Post) : Met l zy_Names_declare (Cond.code zy_Names_declare prog_6_method_4_code 4 none :: zTB) { frames := 0, cells := 0, slots := 0, locals := 0 } (va_Pc [.ref (ad 2), .int a0, .int a1, .int a2] (zPre G K (wX ad K sv I J B D) sz)) (va_Qv (fun u : zS => Post u.1 u.2.1 u.2.2.1 u.2.2.2) (fun u t => zPost G K (va_A (wX ad K sv I J B D) sz) (wX ad K sv u.1 u.2.1 u.2.2.1 u.2.2.2) t) (va_A (wX ad K sv I J B D) sz)) 0 0 (va_A (wX ad K sv I J B D) sz) := by
  refine zMet (y := zy_Names_declare) (av := [.ref (ad 2), .int a0, .int a1, .int a2]) (maxL := 4) (cc := prog_6_method_4_code) (ret := none) (W0 := (wX ad K sv I J B D)) (sz := sz) (G := G) (K := K) (wt := zTB) (mc := 0) (ms := 0) (Qf := fun A => va_Qv (fun u : zS => Post u.1 u.2.1 u.2.2.1 u.2.2.2) (fun u t => zPost G K A (wX ad K sv u.1 u.2.1 u.2.2.1 u.2.2.2) t) A) (by decide) (Nat.le_of_ble_eq_true rfl) ?_
  intro p e s m below meth c ls A hx hb hr hml hts hown hlocks hin hA hK H locs hw hsz hl
  clear hsz
  have hown : s.vm.findClass "LassoFinder$Names" = some m.cls := hown
  have C : zCx p s m ([.ref (ad 2), .int a0, .int a1, .int a2] : List Value).toArray meth c A G K prog_6_method_4_code none 4 "LassoFinder$Names" := ⟨hx, hb, hr, hml, hts, hown, hlocks, hA, hK⟩
  have hl : lv_has ls 4 [(0, .ref (ad 2)), (1, .int a0), (2, .int a1), (3, .int a2)] := hl
  have hw : zW G A s.heap (wX ad K sv I J B D) H locs := hw
  unfold wp_Names_declare at hok
  refine lv_aload_n hx hb zd_Names_declare_0 rfl (lv_at hl 0 rfl) ?_
  refine z_get (v := .ref (ad 14)) hx hb hts hown hK hw zZ5 2 wX_g2 0 (by decide) zn_237 rfl zd_Names_declare_1 ?_
  refine lv_iload_n hx hb zd_Names_declare_4 rfl (lv_at hl 1 rfl) ?_
  refine lv_iload_n hx hb zd_Names_declare_5 rfl (lv_at hl 2 rfl) ?_
  refine va_iast (f := (B 2)) hx hb hK hw.1 hw.2.1 hw.2.2 14 0 wX_a14 rfl hok.1 zd_Names_declare_6 (fun H locs w91 w92 w93 => ?_)
  have hok := hok.2
  have hw := wX_t14 ⟨w91, w92, w93⟩
  refine lv_aload_n hx hb zd_Names_declare_7 rfl (lv_at hl 0 rfl) ?_
  refine z_get (v := .ref (ad 15)) hx hb hts hown hK hw zZ5 2 wX_g2 1 (by decide) zn_238 rfl zd_Names_declare_8 ?_
  refine lv_iload_n hx hb zd_Names_declare_11 rfl (lv_at hl 1 rfl) ?_
  refine lv_iload_n hx hb zd_Names_declare_12 rfl (lv_at hl 3 rfl) ?_
  refine va_iast (f := (B 3)) hx hb hK hw.1 hw.2.1 hw.2.2 15 0 wX_a15 rfl hok.1 zd_Names_declare_13 (fun H locs w91 w92 w93 => ?_)
  have hok := hok.2
  have hw := wX_t15 ⟨w91, w92, w93⟩
  refine lv_iload_n hx hb zd_Names_declare_14 rfl (lv_at hl 2 rfl) ?_
  refine lv_iconst (v := 1) hx hb zd_Names_declare_15 (by decide) ?_
  refine lv_icmp_ne (tgt := 42) hx hb zd_Names_declare_16 (by decide) (fun hc1 => ?_) (fun hc1 => ?_)
  · have hok := hok.1 hc1
    refine lv_aload_n hx hb zd_Names_declare_42 rfl (lv_at hl 0 rfl) ?_
    refine z_get (v := .ref (ad 17)) hx hb hts hown hK hw zZ5 2 wX_g2 3 (by decide) zn_240 rfl zd_Names_declare_43 ?_
    refine lv_aload_n hx hb zd_Names_declare_46 rfl (lv_at hl 0 rfl) ?_
    refine z_get (v := .int (I 8)) hx hb hts hown hK hw zZ5 2 wX_g2 5 (by decide) zn_384 rfl zd_Names_declare_47 ?_
    refine lv_iload_n hx hb zd_Names_declare_50 rfl (lv_at hl 1 rfl) ?_
    refine va_iast (f := (B 5)) hx hb hK hw.1 hw.2.1 hw.2.2 17 0 wX_a17 rfl hok.1 zd_Names_declare_51 (fun H locs w91 w92 w93 => ?_)
    have hok := hok.2
    have hw := wX_t17 ⟨w91, w92, w93⟩
    refine lv_aload_n hx hb zd_Names_declare_52 rfl (lv_at hl 0 rfl) ?_
    refine lv_dup hx hb zd_Names_declare_53 rfl ?_
    refine z_get (v := .int (I 8)) hx hb hts hown hK hw zZ5 2 wX_g2 5 (by decide) zn_384 rfl zd_Names_declare_54 ?_
    refine lv_iconst (v := 1) hx hb zd_Names_declare_57 (by decide) ?_
    refine lv_iadd hx hb zd_Names_declare_58 ?_
    refine lv_topi (fun z2 ez2 => ?_)
    have hok := hok z2 ez2
    refine z_put (v := .int z2) hx hb hts hown hK hw zZ5 2 wX_g2 5 (by decide) zn_384 rfl rfl rfl (Nat.le_of_ble_eq_true rfl) zd_Names_declare_59 (fun H locs hw => ?_)
    have hw := wX_sI8 hw
    exact wJ_Names_declare_62 G K ad sv a0 a1 a2 Post C (upd I 8 z2) J (va_up (va_up (va_up B 2 (upd (B 2) a0.toNatClampNeg a1)) 3 (upd (B 3) a0.toNatClampNeg a2)) 5 (upd (B 5) (I 8).toNatClampNeg a0)) D ls H locs hok (lv_sub hl [] rfl) hw
  · have hok := hok.2 hc1
    refine lv_aload_n hx hb zd_Names_declare_19 rfl (lv_at hl 0 rfl) ?_
    refine z_get (v := .ref (ad 16)) hx hb hts hown hK hw zZ5 2 wX_g2 2 (by decide) zn_239 rfl zd_Names_declare_20 ?_
    refine lv_aload_n hx hb zd_Names_declare_23 rfl (lv_at hl 0 rfl) ?_
    refine z_get (v := .int (I 7)) hx hb hts hown hK hw zZ5 2 wX_g2 4 (by decide) zn_383 rfl zd_Names_declare_24 ?_
    refine lv_iload_n hx hb zd_Names_declare_27 rfl (lv_at hl 1 rfl) ?_
    refine va_iast (f := (B 4)) hx hb hK hw.1 hw.2.1 hw.2.2 16 0 wX_a16 rfl hok.1 zd_Names_declare_28 (fun H locs w91 w92 w93 => ?_)
    have hok := hok.2
    have hw := wX_t16 ⟨w91, w92, w93⟩
    refine lv_aload_n hx hb zd_Names_declare_29 rfl (lv_at hl 0 rfl) ?_
    refine lv_dup hx hb zd_Names_declare_30 rfl ?_
    refine z_get (v := .int (I 7)) hx hb hts hown hK hw zZ5 2 wX_g2 4 (by decide) zn_383 rfl zd_Names_declare_31 ?_
    refine lv_iconst (v := 1) hx hb zd_Names_declare_34 (by decide) ?_
    refine lv_iadd hx hb zd_Names_declare_35 ?_
    refine lv_topi (fun z3 ez3 => ?_)
    have hok := hok z3 ez3
    refine z_put (v := .int z3) hx hb hts hown hK hw zZ5 2 wX_g2 4 (by decide) zn_383 rfl rfl rfl (Nat.le_of_ble_eq_true rfl) zd_Names_declare_36 (fun H locs hw => ?_)
    have hw := wX_sI7 hw
    refine lv_goto (tgt := 62) hx hb zd_Names_declare_39 (by decide) ?_
    exact wJ_Names_declare_62 G K ad sv a0 a1 a2 Post C (upd I 7 z3) J (va_up (va_up (va_up B 2 (upd (B 2) a0.toNatClampNeg a1)) 3 (upd (B 3) a0.toNatClampNeg a2)) 4 (upd (B 4) (I 7).toNatClampNeg a0)) D ls H locs hok (lv_sub hl [] rfl) hw
