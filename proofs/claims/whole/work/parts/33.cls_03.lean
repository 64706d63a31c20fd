abbrev zy_Program_add : MethodName := ⟨"LassoFinder$Program", "add", "(IIII)V"⟩
abbrev zy_ModelReader_readElse : MethodName := ⟨"LassoFinder$ModelReader", "readElse", "(II)V"⟩
abbrev zy_Terms_readOpenings : MethodName := ⟨"LassoFinder$Terms", "readOpenings", "()V"⟩
abbrev zy_Terms_putOff : MethodName := ⟨"LassoFinder$Terms", "putOff", "(I)V"⟩
abbrev zy_Terms_readPart : MethodName := ⟨"LassoFinder$Terms", "readPart", "()V"⟩
abbrev zy_Terms_add : MethodName := ⟨"LassoFinder$Terms", "add", "(I)V"⟩
theorem zn_336 : Cond.methodLink "LassoFinder$ModelReader" 157 ⟨"LassoFinder$Program", "add", "(IIII)V"⟩ ∈ zTB := z_in (zt_4 _ (List.mem_of_getElem? (i := 43) rfl)) rfl
theorem zn_340 : Cond.methodLink "LassoFinder$Terms" 70 ⟨"LassoFinder$Text", "ahead", "()C"⟩ ∈ zTB := z_in (zt_4 _ (List.mem_of_getElem? (i := 59) rfl)) rfl
theorem zn_341 : Cond.methodLink "LassoFinder$Terms" 61 ⟨"LassoFinder$Text", "refuse", "()V"⟩ ∈ zTB := z_in (zt_4 _ (List.mem_of_getElem? (i := 60) rfl)) rfl
theorem zn_342 : Cond.methodLink "LassoFinder$Terms" 74 ⟨"LassoFinder$Text", "skip", "()V"⟩ ∈ zTB := z_in (zt_4 _ (List.mem_of_getElem? (i := 61) rfl)) rfl
theorem zn_343 : Cond.methodLink "LassoFinder$Terms" 77 ⟨"LassoFinder$Terms", "putOff", "(I)V"⟩ ∈ zTB := z_in (zt_4 _ (List.mem_of_getElem? (i := 62) rfl)) rfl
theorem zn_345 : Cond.methodLink "LassoFinder$Terms" 80 ⟨"LassoFinder$Text", "oneOf", "(C)I"⟩ ∈ zTB := z_in (zt_4 _ (List.mem_of_getElem? (i := 70) rfl)) rfl
theorem zn_346 : Cond.methodLink "LassoFinder$Terms" 67 ⟨"LassoFinder$Terms", "add", "(I)V"⟩ ∈ zTB := z_in (zt_4 _ (List.mem_of_getElem? (i := 71) rfl)) rfl
theorem zn_365 : Cond.fieldLink "LassoFinder$ModelReader" 23 "LassoFinder$ModelReader" "program" "LLassoFinder$Program;" ∈ zTB := z_in (zt_2 _ (List.mem_of_getElem? (i := 25) rfl)) rfl
theorem zn_380 : Cond.fieldLink "LassoFinder$Terms" 41 "LassoFinder$Terms" "open" "I" ∈ zTB := z_in (zt_1 _ (List.mem_of_getElem? (i := 173) rfl)) rfl
theorem zn_381 : Cond.fieldLink "LassoFinder$Terms" 13 "LassoFinder$Terms" "text" "LLassoFinder$Text;" ∈ zTB := z_in (zt_1 _ (List.mem_of_getElem? (i := 165) rfl)) rfl
theorem zn_382 : Cond.fieldLink "LassoFinder$Terms" 35 "LassoFinder$Terms" "waitingSigns" "I" ∈ zTB := z_in (zt_1 _ (List.mem_of_getElem? (i := 170) rfl)) rfl
theorem zn_390 : Cond.fieldLink "LassoFinder$ModelReader" 110 "LassoFinder$Tree" "kinds" "[I" ∈ zTB := z_in (zt_1 _ (List.mem_of_getElem? (i := 210) rfl)) rfl
theorem zn_391 : Cond.fieldLink "LassoFinder$Terms" 44 "LassoFinder$Terms" "compared" "I" ∈ zTB := z_in (zt_1 _ (List.mem_of_getElem? (i := 174) rfl)) rfl
theorem zn_392 : Cond.fieldLink "LassoFinder$Terms" 38 "LassoFinder$Terms" "parts" "I" ∈ zTB := z_in (zt_1 _ (List.mem_of_getElem? (i := 172) rfl)) rfl
theorem zn_393 : Cond.fieldLink "LassoFinder$Terms" 17 "LassoFinder$Terms" "names" "LLassoFinder$Names;" ∈ zTB := z_in (zt_1 _ (List.mem_of_getElem? (i := 166) rfl)) rfl
theorem zn_394 : Cond.fieldLink "LassoFinder$Terms" 84 "LassoFinder$Names" "kinds" "[I" ∈ zTB := z_in (zt_1 _ (List.mem_of_getElem? (i := 64) rfl)) rfl
theorem zn_538 : Cond.code ⟨"LassoFinder$Program", "add", "(IIII)V"⟩ prog_7_method_4_code 7 none ∈ zTB := z_in (zt_4 _ (List.mem_of_getElem? (i := 46) rfl)) rfl
theorem zn_539 : Cond.selects "LassoFinder$Program" ⟨"LassoFinder$Program", "add", "(IIII)V"⟩ ⟨"LassoFinder$Program", "add", "(IIII)V"⟩ ∈ zTB := z_in (zt_4 _ (List.mem_of_getElem? (i := 45) rfl)) rfl
theorem zn_540 : Cond.instanceMethod ⟨"LassoFinder$Program", "add", "(IIII)V"⟩ ∈ zTB := z_in (zt_4 _ (List.mem_of_getElem? (i := 44) rfl)) rfl
theorem zn_541 : Cond.code ⟨"LassoFinder$Terms", "putOff", "(I)V"⟩ prog_9_method_9_code 2 none ∈ zTB := z_in (zt_4 _ (List.mem_of_getElem? (i := 65) rfl)) rfl
theorem zn_542 : Cond.instanceMethod ⟨"LassoFinder$Terms", "putOff", "(I)V"⟩ ∈ zTB := z_in (zt_4 _ (List.mem_of_getElem? (i := 64) rfl)) rfl
theorem zn_543 : Cond.code ⟨"LassoFinder$Terms", "add", "(I)V"⟩ prog_9_method_11_code 2 none ∈ zTB := z_in (zt_4 _ (List.mem_of_getElem? (i := 74) rfl)) rfl
theorem zn_544 : Cond.instanceMethod ⟨"LassoFinder$Terms", "add", "(I)V"⟩ ∈ zTB := z_in (zt_4 _ (List.mem_of_getElem? (i := 73) rfl)) rfl
theorem zf_Program_add : zFaceV zy_Program_add prog_7_method_4_code 7 none 4 := ⟨zn_540, zn_539, zm_13, zn_538, by decide +kernel, by decide +kernel, by decide +kernel⟩
theorem zf_Terms_putOff : zFaceV zy_Terms_putOff prog_9_method_9_code 2 none 1 := ⟨zn_542, (z_in (zp_1 _ (List.mem_of_getElem? (i := 14) rfl)) rfl), zm_17, zn_541, by decide +kernel, by decide +kernel, by decide +kernel⟩
theorem zf_Terms_add : zFaceV zy_Terms_add prog_9_method_11_code 2 none 1 := ⟨zn_544, (z_in (zp_2 _ (List.mem_of_getElem? (i := 0) rfl)) rfl), zm_17, zn_543, by decide +kernel, by decide +kernel, by decide +kernel⟩
theorem zd_ModelReader_readElse_0 : decode prog_5_method_14_code 0 = .ok (.iload_n 1, 1) := by decide +kernel
theorem zd_ModelReader_readElse_1 : decode prog_5_method_14_code 1 = .ok (.iload_n 2, 1) := by decide +kernel
theorem zd_ModelReader_readElse_2 : decode prog_5_method_14_code 2 = .ok (.invokestatic 172, 3) := by decide +kernel
theorem zd_ModelReader_readElse_5 : decode prog_5_method_14_code 5 = .ok (.ifCond .eq 16, 3) := by decide +kernel
theorem zd_ModelReader_readElse_8 : decode prog_5_method_14_code 8 = .ok (.aload_n 0, 1) := by decide +kernel
theorem zd_ModelReader_readElse_9 : decode prog_5_method_14_code 9 = .ok (.getfield 30, 3) := by decide +kernel
theorem zd_ModelReader_readElse_12 : decode prog_5_method_14_code 12 = .ok (.getfield 110, 3) := by decide +kernel
theorem zd_ModelReader_readElse_15 : decode prog_5_method_14_code 15 = .ok (.iload_n 1, 1) := by decide +kernel
theorem zd_ModelReader_readElse_16 : decode prog_5_method_14_code 16 = .ok (.iaload, 1) := by decide +kernel
theorem zd_ModelReader_readElse_17 : decode prog_5_method_14_code 17 = .ok (.iconst 3, 1) := by decide +kernel
theorem zd_ModelReader_readElse_18 : decode prog_5_method_14_code 18 = .ok (.if_icmp .ne 10, 3) := by decide +kernel
theorem zd_ModelReader_readElse_21 : decode prog_5_method_14_code 21 = .ok (.aload_n 0, 1) := by decide +kernel
theorem zd_ModelReader_readElse_22 : decode prog_5_method_14_code 22 = .ok (.getfield 9, 3) := by decide +kernel
theorem zd_ModelReader_readElse_25 : decode prog_5_method_14_code 25 = .ok (.invokevirtual 62, 3) := by decide +kernel
theorem zd_ModelReader_readElse_28 : decode prog_5_method_14_code 28 = .ok (.aload_n 0, 1) := by decide +kernel
theorem zd_ModelReader_readElse_29 : decode prog_5_method_14_code 29 = .ok (.getfield 9, 3) := by decide +kernel
theorem zd_ModelReader_readElse_32 : decode prog_5_method_14_code 32 = .ok (.invokevirtual 65, 3) := by decide +kernel
theorem zd_ModelReader_readElse_35 : decode prog_5_method_14_code 35 = .ok (.aload_n 0, 1) := by decide +kernel
theorem zd_ModelReader_readElse_36 : decode prog_5_method_14_code 36 = .ok (.getfield 23, 3) := by decide +kernel
theorem zd_ModelReader_readElse_39 : decode prog_5_method_14_code 39 = .ok (.iconst 5, 1) := by decide +kernel
theorem zd_ModelReader_readElse_40 : decode prog_5_method_14_code 40 = .ok (.iconst (-1), 1) := by decide +kernel
theorem zd_ModelReader_readElse_41 : decode prog_5_method_14_code 41 = .ok (.iconst (-1), 1) := by decide +kernel
theorem zd_ModelReader_readElse_42 : decode prog_5_method_14_code 42 = .ok (.iconst (-1), 1) := by decide +kernel
theorem zd_ModelReader_readElse_43 : decode prog_5_method_14_code 43 = .ok (.invokevirtual 157, 3) := by decide +kernel
theorem zd_ModelReader_readElse_46 : decode prog_5_method_14_code 46 = .ok (.return_, 1) := by decide +kernel
theorem zd_Program_add_0 : decode prog_7_method_4_code 0 = .ok (.lconst 1, 1) := by decide +kernel
theorem zd_Program_add_1 : decode prog_7_method_4_code 1 = .ok (.aload_n 0, 1) := by decide +kernel
theorem zd_Program_add_2 : decode prog_7_method_4_code 2 = .ok (.getfield 62, 3) := by decide +kernel
theorem zd_Program_add_5 : decode prog_7_method_4_code 5 = .ok (.lshl, 1) := by decide +kernel
theorem zd_Program_add_6 : decode prog_7_method_4_code 6 = .ok (.lstore 5, 2) := by decide +kernel
theorem zd_Program_add_8 : decode prog_7_method_4_code 8 = .ok (.aload_n 0, 1) := by decide +kernel
theorem zd_Program_add_9 : decode prog_7_method_4_code 9 = .ok (.getfield 11, 3) := by decide +kernel
theorem zd_Program_add_12 : decode prog_7_method_4_code 12 = .ok (.aload_n 0, 1) := by decide +kernel
theorem zd_Program_add_13 : decode prog_7_method_4_code 13 = .ok (.getfield 62, 3) := by decide +kernel
theorem zd_Program_add_16 : decode prog_7_method_4_code 16 = .ok (.iload_n 1, 1) := by decide +kernel
theorem zd_Program_add_17 : decode prog_7_method_4_code 17 = .ok (.iastore, 1) := by decide +kernel
theorem zd_Program_add_18 : decode prog_7_method_4_code 18 = .ok (.aload_n 0, 1) := by decide +kernel
theorem zd_Program_add_19 : decode prog_7_method_4_code 19 = .ok (.getfield 15, 3) := by decide +kernel
theorem zd_Program_add_22 : decode prog_7_method_4_code 22 = .ok (.aload_n 0, 1) := by decide +kernel
theorem zd_Program_add_23 : decode prog_7_method_4_code 23 = .ok (.getfield 62, 3) := by decide +kernel
theorem zd_Program_add_26 : decode prog_7_method_4_code 26 = .ok (.iload_n 2, 1) := by decide +kernel
theorem zd_Program_add_27 : decode prog_7_method_4_code 27 = .ok (.iastore, 1) := by decide +kernel
theorem zd_Program_add_28 : decode prog_7_method_4_code 28 = .ok (.aload_n 0, 1) := by decide +kernel
theorem zd_Program_add_29 : decode prog_7_method_4_code 29 = .ok (.getfield 18, 3) := by decide +kernel
theorem zd_Program_add_32 : decode prog_7_method_4_code 32 = .ok (.aload_n 0, 1) := by decide +kernel
theorem zd_Program_add_33 : decode prog_7_method_4_code 33 = .ok (.getfield 62, 3) := by decide +kernel
theorem zd_Program_add_36 : decode prog_7_method_4_code 36 = .ok (.iload_n 3, 1) := by decide +kernel
theorem zd_Program_add_37 : decode prog_7_method_4_code 37 = .ok (.iastore, 1) := by decide +kernel
theorem zd_Program_add_38 : decode prog_7_method_4_code 38 = .ok (.aload_n 0, 1) := by decide +kernel
theorem zd_Program_add_39 : decode prog_7_method_4_code 39 = .ok (.getfield 21, 3) := by decide +kernel
theorem zd_Program_add_42 : decode prog_7_method_4_code 42 = .ok (.aload_n 0, 1) := by decide +kernel
theorem zd_Program_add_43 : decode prog_7_method_4_code 43 = .ok (.getfield 62, 3) := by decide +kernel
theorem zd_Program_add_46 : decode prog_7_method_4_code 46 = .ok (.iload 4, 2) := by decide +kernel
theorem zd_Program_add_48 : decode prog_7_method_4_code 48 = .ok (.iastore, 1) := by decide +kernel
theorem zd_Program_add_49 : decode prog_7_method_4_code 49 = .ok (.aload_n 0, 1) := by decide +kernel
theorem zd_Program_add_50 : decode prog_7_method_4_code 50 = .ok (.getfield 24, 3) := by decide +kernel
theorem zd_Program_add_53 : decode prog_7_method_4_code 53 = .ok (.aload_n 0, 1) := by decide +kernel
theorem zd_Program_add_54 : decode prog_7_method_4_code 54 = .ok (.getfield 62, 3) := by decide +kernel
theorem zd_Program_add_57 : decode prog_7_method_4_code 57 = .ok (.aload_n 0, 1) := by decide +kernel
theorem zd_Program_add_58 : decode prog_7_method_4_code 58 = .ok (.getfield 66, 3) := by decide +kernel
theorem zd_Program_add_61 : decode prog_7_method_4_code 61 = .ok (.iastore, 1) := by decide +kernel
theorem zd_Program_add_62 : decode prog_7_method_4_code 62 = .ok (.iload_n 1, 1) := by decide +kernel
theorem zd_Program_add_63 : decode prog_7_method_4_code 63 = .ok (.iconst 3, 1) := by decide +kernel
theorem zd_Program_add_64 : decode prog_7_method_4_code 64 = .ok (.if_icmp .ne 17, 3) := by decide +kernel
theorem zd_Program_add_67 : decode prog_7_method_4_code 67 = .ok (.aload_n 0, 1) := by decide +kernel
theorem zd_Program_add_68 : decode prog_7_method_4_code 68 = .ok (.getfield 36, 3) := by decide +kernel
theorem zd_Program_add_71 : decode prog_7_method_4_code 71 = .ok (.iload_n 2, 1) := by decide +kernel
theorem zd_Program_add_72 : decode prog_7_method_4_code 72 = .ok (.dup2, 1) := by decide +kernel
theorem zd_Program_add_73 : decode prog_7_method_4_code 73 = .ok (.laload, 1) := by decide +kernel
theorem zd_Program_add_74 : decode prog_7_method_4_code 74 = .ok (.lload 5, 2) := by decide +kernel
theorem zd_Program_add_76 : decode prog_7_method_4_code 76 = .ok (.lor, 1) := by decide +kernel
theorem zd_Program_add_77 : decode prog_7_method_4_code 77 = .ok (.lastore, 1) := by decide +kernel
theorem zd_Program_add_78 : decode prog_7_method_4_code 78 = .ok (.goto 19, 3) := by decide +kernel
theorem zd_Program_add_81 : decode prog_7_method_4_code 81 = .ok (.iload_n 1, 1) := by decide +kernel
theorem zd_Program_add_82 : decode prog_7_method_4_code 82 = .ok (.iconst 5, 1) := by decide +kernel
theorem zd_Program_add_83 : decode prog_7_method_4_code 83 = .ok (.if_icmp .ne 14, 3) := by decide +kernel
theorem zd_Program_add_86 : decode prog_7_method_4_code 86 = .ok (.aload_n 0, 1) := by decide +kernel
theorem zd_Program_add_87 : decode prog_7_method_4_code 87 = .ok (.dup, 1) := by decide +kernel
theorem zd_Program_add_88 : decode prog_7_method_4_code 88 = .ok (.getfield 58, 3) := by decide +kernel
theorem zd_Program_add_91 : decode prog_7_method_4_code 91 = .ok (.lload 5, 2) := by decide +kernel
theorem zd_Program_add_93 : decode prog_7_method_4_code 93 = .ok (.lor, 1) := by decide +kernel
theorem zd_Program_add_94 : decode prog_7_method_4_code 94 = .ok (.putfield 58, 3) := by decide +kernel
theorem zd_Program_add_97 : decode prog_7_method_4_code 97 = .ok (.aload_n 0, 1) := by decide +kernel
theorem zd_Program_add_98 : decode prog_7_method_4_code 98 = .ok (.dup, 1) := by decide +kernel
theorem zd_Program_add_99 : decode prog_7_method_4_code 99 = .ok (.getfield 62, 3) := by decide +kernel
theorem zd_Program_add_102 : decode prog_7_method_4_code 102 = .ok (.iconst 1, 1) := by decide +kernel
theorem zd_Program_add_103 : decode prog_7_method_4_code 103 = .ok (.iadd, 1) := by decide +kernel
theorem zd_Program_add_104 : decode prog_7_method_4_code 104 = .ok (.putfield 62, 3) := by decide +kernel
theorem zd_Program_add_107 : decode prog_7_method_4_code 107 = .ok (.return_, 1) := by decide +kernel
theorem zd_Terms_add_0 : decode prog_9_method_11_code 0 = .ok (.aload_n 0, 1) := by decide +kernel
theorem zd_Terms_add_1 : decode prog_9_method_11_code 1 = .ok (.getfield 21, 3) := by decide +kernel
theorem zd_Terms_add_4 : decode prog_9_method_11_code 4 = .ok (.aload_n 0, 1) := by decide +kernel
theorem zd_Terms_add_5 : decode prog_9_method_11_code 5 = .ok (.getfield 31, 3) := by decide +kernel
theorem zd_Terms_add_8 : decode prog_9_method_11_code 8 = .ok (.iload_n 1, 1) := by decide +kernel
theorem zd_Terms_add_9 : decode prog_9_method_11_code 9 = .ok (.iastore, 1) := by decide +kernel
theorem zd_Terms_add_10 : decode prog_9_method_11_code 10 = .ok (.aload_n 0, 1) := by decide +kernel
theorem zd_Terms_add_11 : decode prog_9_method_11_code 11 = .ok (.dup, 1) := by decide +kernel
theorem zd_Terms_add_12 : decode prog_9_method_11_code 12 = .ok (.getfield 31, 3) := by decide +kernel
theorem zd_Terms_add_15 : decode prog_9_method_11_code 15 = .ok (.iconst 1, 1) := by decide +kernel
theorem zd_Terms_add_16 : decode prog_9_method_11_code 16 = .ok (.iadd, 1) := by decide +kernel
theorem zd_Terms_add_17 : decode prog_9_method_11_code 17 = .ok (.putfield 31, 3) := by decide +kernel
theorem zd_Terms_add_20 : decode prog_9_method_11_code 20 = .ok (.return_, 1) := by decide +kernel
theorem zd_Terms_putOff_0 : decode prog_9_method_9_code 0 = .ok (.aload_n 0, 1) := by decide +kernel
theorem zd_Terms_putOff_1 : decode prog_9_method_9_code 1 = .ok (.getfield 25, 3) := by decide +kernel
theorem zd_Terms_putOff_4 : decode prog_9_method_9_code 4 = .ok (.aload_n 0, 1) := by decide +kernel
theorem zd_Terms_putOff_5 : decode prog_9_method_9_code 5 = .ok (.getfield 35, 3) := by decide +kernel
theorem zd_Terms_putOff_8 : decode prog_9_method_9_code 8 = .ok (.iload_n 1, 1) := by decide +kernel
theorem zd_Terms_putOff_9 : decode prog_9_method_9_code 9 = .ok (.iastore, 1) := by decide +kernel
theorem zd_Terms_putOff_10 : decode prog_9_method_9_code 10 = .ok (.aload_n 0, 1) := by decide +kernel
theorem zd_Terms_putOff_11 : decode prog_9_method_9_code 11 = .ok (.dup, 1) := by decide +kernel
theorem zd_Terms_putOff_12 : decode prog_9_method_9_code 12 = .ok (.getfield 35, 3) := by decide +kernel
theorem zd_Terms_putOff_15 : decode prog_9_method_9_code 15 = .ok (.iconst 1, 1) := by decide +kernel
theorem zd_Terms_putOff_16 : decode prog_9_method_9_code 16 = .ok (.iadd, 1) := by decide +kernel
theorem zd_Terms_putOff_17 : decode prog_9_method_9_code 17 = .ok (.putfield 35, 3) := by decide +kernel
theorem zd_Terms_putOff_20 : decode prog_9_method_9_code 20 = .ok (.return_, 1) := by decide +kernel
theorem zd_Terms_readOpenings_0 : decode prog_9_method_4_code 0 = .ok (.iconst 0, 1) := by decide +kernel
theorem zd_Terms_readOpenings_1 : decode prog_9_method_4_code 1 = .ok (.istore_n 1, 1) := by decide +kernel
theorem zd_Terms_readOpenings_2 : decode prog_9_method_4_code 2 = .ok (.iload_n 1, 1) := by decide +kernel
theorem zd_Terms_readOpenings_3 : decode prog_9_method_4_code 3 = .ok (.sipush 240, 3) := by decide +kernel
theorem zd_Terms_readOpenings_6 : decode prog_9_method_4_code 6 = .ok (.if_icmp .ge 69, 3) := by decide +kernel
theorem zd_Terms_readOpenings_9 : decode prog_9_method_4_code 9 = .ok (.aload_n 0, 1) := by decide +kernel
theorem zd_Terms_readOpenings_10 : decode prog_9_method_4_code 10 = .ok (.getfield 13, 3) := by decide +kernel
theorem zd_Terms_readOpenings_13 : decode prog_9_method_4_code 13 = .ok (.invokevirtual 70, 3) := by decide +kernel
theorem zd_Terms_readOpenings_16 : decode prog_9_method_4_code 16 = .ok (.bipush 40, 2) := by decide +kernel
theorem zd_Terms_readOpenings_18 : decode prog_9_method_4_code 18 = .ok (.if_icmp .ne 57, 3) := by decide +kernel
theorem zd_Terms_readOpenings_21 : decode prog_9_method_4_code 21 = .ok (.aload_n 0, 1) := by decide +kernel
theorem zd_Terms_readOpenings_22 : decode prog_9_method_4_code 22 = .ok (.getfield 41, 3) := by decide +kernel
theorem zd_Terms_readOpenings_25 : decode prog_9_method_4_code 25 = .ok (.iconst 4, 1) := by decide +kernel
theorem zd_Terms_readOpenings_26 : decode prog_9_method_4_code 26 = .ok (.if_icmp .ne 10, 3) := by decide +kernel
theorem zd_Terms_readOpenings_29 : decode prog_9_method_4_code 29 = .ok (.aload_n 0, 1) := by decide +kernel
theorem zd_Terms_readOpenings_30 : decode prog_9_method_4_code 30 = .ok (.getfield 13, 3) := by decide +kernel
theorem zd_Terms_readOpenings_33 : decode prog_9_method_4_code 33 = .ok (.invokevirtual 61, 3) := by decide +kernel
theorem zd_Terms_readOpenings_36 : decode prog_9_method_4_code 36 = .ok (.aload_n 0, 1) := by decide +kernel
theorem zd_Terms_readOpenings_37 : decode prog_9_method_4_code 37 = .ok (.getfield 13, 3) := by decide +kernel
theorem zd_Terms_readOpenings_40 : decode prog_9_method_4_code 40 = .ok (.invokevirtual 74, 3) := by decide +kernel
theorem zd_Terms_readOpenings_43 : decode prog_9_method_4_code 43 = .ok (.aload_n 0, 1) := by decide +kernel
theorem zd_Terms_readOpenings_44 : decode prog_9_method_4_code 44 = .ok (.dup, 1) := by decide +kernel
theorem zd_Terms_readOpenings_45 : decode prog_9_method_4_code 45 = .ok (.getfield 41, 3) := by decide +kernel
theorem zd_Terms_readOpenings_48 : decode prog_9_method_4_code 48 = .ok (.iconst 1, 1) := by decide +kernel
theorem zd_Terms_readOpenings_49 : decode prog_9_method_4_code 49 = .ok (.iadd, 1) := by decide +kernel
theorem zd_Terms_readOpenings_50 : decode prog_9_method_4_code 50 = .ok (.putfield 41, 3) := by decide +kernel
theorem zd_Terms_readOpenings_53 : decode prog_9_method_4_code 53 = .ok (.aload_n 0, 1) := by decide +kernel
theorem zd_Terms_readOpenings_54 : decode prog_9_method_4_code 54 = .ok (.dup, 1) := by decide +kernel
theorem zd_Terms_readOpenings_55 : decode prog_9_method_4_code 55 = .ok (.getfield 44, 3) := by decide +kernel
theorem zd_Terms_readOpenings_58 : decode prog_9_method_4_code 58 = .ok (.iconst 1, 1) := by decide +kernel
theorem zd_Terms_readOpenings_59 : decode prog_9_method_4_code 59 = .ok (.ishl, 1) := by decide +kernel
theorem zd_Terms_readOpenings_60 : decode prog_9_method_4_code 60 = .ok (.putfield 44, 3) := by decide +kernel
theorem zd_Terms_readOpenings_63 : decode prog_9_method_4_code 63 = .ok (.aload_n 0, 1) := by decide +kernel
theorem zd_Terms_readOpenings_64 : decode prog_9_method_4_code 64 = .ok (.bipush 21, 2) := by decide +kernel
theorem zd_Terms_readOpenings_66 : decode prog_9_method_4_code 66 = .ok (.invokevirtual 77, 3) := by decide +kernel
theorem zd_Terms_readOpenings_69 : decode prog_9_method_4_code 69 = .ok (.iinc 1 1, 3) := by decide +kernel
theorem zd_Terms_readOpenings_72 : decode prog_9_method_4_code 72 = .ok (.goto (-70), 3) := by decide +kernel
theorem zd_Terms_readOpenings_75 : decode prog_9_method_4_code 75 = .ok (.return_, 1) := by decide +kernel
theorem zd_Terms_readPart_0 : decode prog_9_method_5_code 0 = .ok (.aload_n 0, 1) := by decide +kernel
theorem zd_Terms_readPart_1 : decode prog_9_method_5_code 1 = .ok (.getfield 13, 3) := by decide +kernel
theorem zd_Terms_readPart_4 : decode prog_9_method_5_code 4 = .ok (.bipush 48, 2) := by decide +kernel
theorem zd_Terms_readPart_6 : decode prog_9_method_5_code 6 = .ok (.invokevirtual 80, 3) := by decide +kernel
theorem zd_Terms_readPart_9 : decode prog_9_method_5_code 9 = .ok (.istore_n 1, 1) := by decide +kernel
theorem zd_Terms_readPart_10 : decode prog_9_method_5_code 10 = .ok (.aload_n 0, 1) := by decide +kernel
theorem zd_Terms_readPart_11 : decode prog_9_method_5_code 11 = .ok (.getfield 13, 3) := by decide +kernel
theorem zd_Terms_readPart_14 : decode prog_9_method_5_code 14 = .ok (.bipush 97, 2) := by decide +kernel
theorem zd_Terms_readPart_16 : decode prog_9_method_5_code 16 = .ok (.invokevirtual 80, 3) := by decide +kernel
theorem zd_Terms_readPart_19 : decode prog_9_method_5_code 19 = .ok (.istore_n 2, 1) := by decide +kernel
theorem zd_Terms_readPart_20 : decode prog_9_method_5_code 20 = .ok (.aload_n 0, 1) := by decide +kernel
theorem zd_Terms_readPart_21 : decode prog_9_method_5_code 21 = .ok (.getfield 38, 3) := by decide +kernel
theorem zd_Terms_readPart_24 : decode prog_9_method_5_code 24 = .ok (.bipush 12, 2) := by decide +kernel
theorem zd_Terms_readPart_26 : decode prog_9_method_5_code 26 = .ok (.if_icmp .eq 25, 3) := by decide +kernel
theorem zd_Terms_readPart_29 : decode prog_9_method_5_code 29 = .ok (.iload_n 1, 1) := by decide +kernel
theorem zd_Terms_readPart_30 : decode prog_9_method_5_code 30 = .ok (.iconst (-1), 1) := by decide +kernel
theorem zd_Terms_readPart_31 : decode prog_9_method_5_code 31 = .ok (.if_icmp .ne 27, 3) := by decide +kernel
theorem zd_Terms_readPart_34 : decode prog_9_method_5_code 34 = .ok (.iload_n 2, 1) := by decide +kernel
theorem zd_Terms_readPart_35 : decode prog_9_method_5_code 35 = .ok (.iconst (-1), 1) := by decide +kernel
theorem zd_Terms_readPart_36 : decode prog_9_method_5_code 36 = .ok (.if_icmp .eq 15, 3) := by decide +kernel
theorem zd_Terms_readPart_39 : decode prog_9_method_5_code 39 = .ok (.aload_n 0, 1) := by decide +kernel
theorem zd_Terms_readPart_40 : decode prog_9_method_5_code 40 = .ok (.getfield 17, 3) := by decide +kernel
theorem zd_Terms_readPart_43 : decode prog_9_method_5_code 43 = .ok (.getfield 84, 3) := by decide +kernel
theorem zd_Terms_readPart_46 : decode prog_9_method_5_code 46 = .ok (.iload_n 2, 1) := by decide +kernel
theorem zd_Terms_readPart_47 : decode prog_9_method_5_code 47 = .ok (.iaload, 1) := by decide +kernel
theorem zd_Terms_readPart_48 : decode prog_9_method_5_code 48 = .ok (.ifCond .ne 10, 3) := by decide +kernel
theorem zd_Terms_readPart_51 : decode prog_9_method_5_code 51 = .ok (.aload_n 0, 1) := by decide +kernel
theorem zd_Terms_readPart_52 : decode prog_9_method_5_code 52 = .ok (.getfield 13, 3) := by decide +kernel
theorem zd_Terms_readPart_55 : decode prog_9_method_5_code 55 = .ok (.invokevirtual 61, 3) := by decide +kernel
theorem zd_Terms_readPart_58 : decode prog_9_method_5_code 58 = .ok (.aload_n 0, 1) := by decide +kernel
theorem zd_Terms_readPart_59 : decode prog_9_method_5_code 59 = .ok (.getfield 13, 3) := by decide +kernel
theorem zd_Terms_readPart_62 : decode prog_9_method_5_code 62 = .ok (.invokevirtual 74, 3) := by decide +kernel
theorem zd_Terms_readPart_65 : decode prog_9_method_5_code 65 = .ok (.aload_n 0, 1) := by decide +kernel
theorem zd_Terms_readPart_66 : decode prog_9_method_5_code 66 = .ok (.dup, 1) := by decide +kernel
theorem zd_Terms_readPart_67 : decode prog_9_method_5_code 67 = .ok (.getfield 38, 3) := by decide +kernel
theorem zd_Terms_readPart_70 : decode prog_9_method_5_code 70 = .ok (.iconst 1, 1) := by decide +kernel
theorem zd_Terms_readPart_71 : decode prog_9_method_5_code 71 = .ok (.iadd, 1) := by decide +kernel
theorem zd_Terms_readPart_72 : decode prog_9_method_5_code 72 = .ok (.putfield 38, 3) := by decide +kernel
theorem zd_Terms_readPart_75 : decode prog_9_method_5_code 75 = .ok (.aload_n 0, 1) := by decide +kernel
theorem zd_Terms_readPart_76 : decode prog_9_method_5_code 76 = .ok (.iload_n 1, 1) := by decide +kernel
theorem zd_Terms_readPart_77 : decode prog_9_method_5_code 77 = .ok (.iconst (-1), 1) := by decide +kernel
theorem zd_Terms_readPart_78 : decode prog_9_method_5_code 78 = .ok (.if_icmp .ne 10, 3) := by decide +kernel
theorem zd_Terms_readPart_81 : decode prog_9_method_5_code 81 = .ok (.bipush 8, 2) := by decide +kernel
theorem zd_Terms_readPart_83 : decode prog_9_method_5_code 83 = .ok (.iload_n 2, 1) := by decide +kernel
theorem zd_Terms_readPart_84 : decode prog_9_method_5_code 84 = .ok (.iadd, 1) := by decide +kernel
theorem zd_Terms_readPart_85 : decode prog_9_method_5_code 85 = .ok (.goto 4, 3) := by decide +kernel
theorem zd_Terms_readPart_88 : decode prog_9_method_5_code 88 = .ok (.iload_n 1, 1) := by decide +kernel
theorem zd_Terms_readPart_89 : decode prog_9_method_5_code 89 = .ok (.invokevirtual 67, 3) := by decide +kernel
theorem zd_Terms_readPart_92 : decode prog_9_method_5_code 92 = .ok (.return_, 1) := by decide +kernel
def wc_Program_add_97 (a0 : Int32) (a1 : Int32) (a2 : Int32) (a3 : Int32) (Post : (Nat → Int32) → (Nat → Int64) → (Nat → Nat → Int32) → (Nat → Nat → Int64) → Prop)  (I : Nat → Int32) (J : Nat → Int64) (B : Nat → Nat → Int32) (D : Nat → Nat → Int64) : Prop :=
  ∀ z1 : Int32, z1 = ((I 9) + 1) → Post (upd I 9 z1) J B D
def wp_Program_add (I : Nat → Int32) (J : Nat → Int64) (B : Nat → Nat → Int32) (D : Nat → Nat → Int64) (a0 : Int32) (a1 : Int32) (a2 : Int32) (a3 : Int32) (Post : (Nat → Int32) → (Nat → Int64) → (Nat → Nat → Int32) → (Nat → Nat → Int64) → Prop) : Prop :=
  ∀ z2 : Int64, z2 = ((1 : Int64) <<< ((I 9).toInt64 &&& 63)) → vp_in (I 9) 48 ∧ vp_in (I 9) 48 ∧ vp_in (I 9) 48 ∧ vp_in (I 9) 48 ∧ vp_in (I 9) 48 ∧ ((¬ a0 = 3 → ((¬ a0 = 5 → wc_Program_add_97 a0 a1 a2 a3 Post I J (va_up (va_up (va_up (va_up (va_up B 6 (upd (B 6) (I 9).toNatClampNeg a0)) 7 (upd (B 7) (I 9).toNatClampNeg a1)) 8 (upd (B 8) (I 9).toNatClampNeg a2)) 9 (upd (B 9) (I 9).toNatClampNeg a3)) 10 (upd (B 10) (I 9).toNatClampNeg (I 10))) D) ∧ (a0 = 5 → ∀ z5 : Int64, z5 = ((J 0) ||| z2) → wc_Program_add_97 a0 a1 a2 a3 Post I (vp_updL J 0 z5) (va_up (va_up (va_up (va_up (va_up B 6 (upd (B 6) (I 9).toNatClampNeg a0)) 7 (upd (B 7) (I 9).toNatClampNeg a1)) 8 (upd (B 8) (I 9).toNatClampNeg a2)) 9 (upd (B 9) (I 9).toNatClampNeg a3)) 10 (upd (B 10) (I 9).toNatClampNeg (I 10))) D))) ∧ (a0 = 3 → vp_in a1 8 ∧ ∀ z6 : Int64, z6 = ((D 0) a1.toNatClampNeg) → ∀ z7 : Int64, z7 = (z6 ||| z2) → vp_in a1 8 ∧ wc_Program_add_97 a0 a1 a2 a3 Post I J (va_up (va_up (va_up (va_up (va_up B 6 (upd (B 6) (I 9).toNatClampNeg a0)) 7 (upd (B 7) (I 9).toNatClampNeg a1)) 8 (upd (B 8) (I 9).toNatClampNeg a2)) 9 (upd (B 9) (I 9).toNatClampNeg a3)) 10 (upd (B 10) (I 9).toNatClampNeg (I 10))) (va_up D 0 (vp_updL (D 0) a1.toNatClampNeg z7))))
set_option maxHeartbeats 8000000 in
set_option maxRecDepth 100000 in
theorem wJ_Program_add_97 {p : Program} {l : Launch} {e : Env} {s : State} {m : MethodId} {below : List Frame} {meth : Method} {c : Code} {A : Nat → Prop} (G : va_G) (K : Nat → ClassId) (ad : Nat → Nat) (sv : Value) (a0 : Int32) (a1 : Int32) (a2 : Int32) (a3 : Int32) (Post : (Nat → Int32) → (Nat → Int64) → (Nat → Nat → Int32) → (Nat → Nat → Int64) → Prop) (C : zCx p s m ([.ref (ad 3), .int a0, .int a1, .int a2, .int a3] : List Value).toArray meth c A G K prog_7_method_4_code none 7 "LassoFinder$Program") : ∀  (I : Nat → Int32) (J : Nat → Int64) (B : Nat → Nat → Int32) (D : Nat → Nat → Int64) (ls : Array Slot) (H : Heap) (locs : List Loc), wc_Program_add_97 a0 a1 a2 a3 Post  I J B D → lv_has ls 7 [(0, .ref (ad 3))] → zW G A s.heap (wX ad K sv I J B D) H locs → W p l e { frames := 0, cells := 0, slots := 0, locals := 0 } s m ([.ref (ad 3), .int a0, .int a1, .int a2, .int a3] : List Value).toArray below meth c H locs 0 0 (MQ below (va_Qv (fun u : zS => Post u.1 u.2.1 u.2.2.1 u.2.2.2) (fun u t => zPost G K A (wX ad K sv u.1 u.2.1 u.2.2.1 u.2.2.2) t) A) ([.ref (ad 3), .int a0, .int a1, .int a2, .int a3] : List Value).toArray s 0 0 A) (F0 m 97 ls []) := by
  obtain ⟨hx, hb, hr, hml, hts, hown, hlocks, hA, hK⟩ := id C
  intro  I J B D ls H locs hok hl hw
  unfold wc_Program_add_97 at hok
  refine lv_aload_n hx hb zd_Program_add_97 rfl (lv_at hl 0 rfl) ?_
  refine lv_dup hx hb zd_Program_add_98 rfl ?_
  refine z_get (v := .int (I 9)) hx hb hts hown hK hw zZ6 3 wX_g3 12 (by decide) zn_386 rfl zd_Program_add_99 ?_
  refine lv_iconst (v := 1) hx hb zd_Program_add_102 (by decide) ?_
  refine lv_iadd hx hb zd_Program_add_103 ?_
  refine lv_topi (fun z1 ez1 => ?_)
  have hok := hok z1 ez1
  refine z_put (v := .int z1) hx hb hts hown hK hw zZ6 3 wX_g3 12 (by decide) zn_386 rfl rfl rfl (Nat.le_of_ble_eq_true rfl) zd_Program_add_104 (fun H locs hw => ?_)
  have hw := wX_sI9 hw
  exact (z_vret (u := ((upd I 9 z1), J, B, D)) hx hb hr hlocks hw (List.range 65) wX_all wX_nd hok (Nat.le_of_ble_eq_true rfl) (Nat.le_of_ble_eq_true rfl) zd_Program_add_107)
set_option maxHeartbeats 8000000 in
set_option maxRecDepth 100000 in
theorem w_Program_add (l : Launch) (G : va_G) (K : Nat → ClassId) (ad : Nat → Nat) (sv : Value) (I : Nat → Int32) (J : Nat → Int64) (B : Nat → Nat → Int32) (D : Nat → Nat → Int64) (a0 : Int32) (a1 : Int32) (a2 : Int32) (a3 : Int32) (Post : (Nat → Int32) → (Nat → Int64) → (Nat → Nat → Int32) → (Nat → Nat → Int64) → Prop) (sz : Nat) (hok : wp_Program_add I J B D a0 a1 a2 a3 Post) : Met l zy_Program_add (Cond.code zy_Program_add prog_7_method_4_code 7 none :: zTB) { frames := 0, cells := 0, slots := 0, locals := 0 } (va_Pc [.ref (ad 3), .int a0, .int a1, .int a2, .int a3] (zPre G K (wX ad K sv I J B D) sz)) (va_Qv (fun u : zS => Post u.1 u.2.1 u.2.2.1 u.2.2.2) (fun u t => zPost G K (va_A (wX ad K sv I J B D) sz) (wX ad K sv u.1 u.2.1 u.2.2.1 u.2.2.2) t) (va_A (wX ad K sv I J B D) sz)) 0 0 (va_A (wX ad K sv I J B D) sz) := by
  refine zMet (y := zy_Program_add) (av := [.ref (ad 3), .int a0, .int a1, .int a2, .int a3]) (maxL := 7) (cc := prog_7_method_4_code) (ret := none) (W0 := (wX ad K sv I J B D)) (sz := sz) (G := G) (K := K) (wt := zTB) (mc := 0) (ms := 0) (Qf := fun A => va_Qv (fun u : zS => Post u.1 u.2.1 u.2.2.1 u.2.2.2) (fun u t => zPost G K A (wX ad K sv u.1 u.2.1 u.2.2.1 u.2.2.2) t) A) (by decide) (Nat.le_of_ble_eq_true rfl) ?_
  intro p e s m below meth c ls A hx hb hr hml hts hown hlocks hin hA hK H locs hw hsz hl
  clear hsz
  have hown : s.vm.findClass "LassoFinder$Program" = some m.cls := hown
  have C : zCx p s m ([.ref (ad 3), .int a0, .int a1, .int a2, .int a3] : List Value).toArray meth c A G K prog_7_method_4_code none 7 "LassoFinder$Program" := ⟨hx, hb, hr, hml, hts, hown, hlocks, hA, hK⟩
  have hl : lv_has ls 7 [(0, .ref (ad 3)), (1, .int a0), (2, .int a1), (3, .int a2), (4, .int a3)] := hl
  have hw : zW G A s.heap (wX ad K sv I J B D) H locs := hw
  unfold wp_Program_add at hok
  refine lv_lconst (v := 1) hx hb zd_Program_add_0 (by decide) ?_
  refine lv_aload_n hx hb zd_Program_add_1 rfl (lv_at hl 0 rfl) ?_
  refine z_get (v := .int (I 9)) hx hb hts hown hK hw zZ6 3 wX_g3 12 (by decide) zn_386 rfl zd_Program_add_2 ?_
  refine lv_lshl hx hb zd_Program_add_5 rfl ?_
  refine lv_topl (fun z2 ez2 => ?_)
  have hok := hok z2 ez2
  refine lv_lstore hx hb zd_Program_add_6 hl (by decide) rfl (fun ls hl => ?_)
  have hl : lv_has ls 7 [(5, .long z2), (0, .ref (ad 3)), (1, .int a0), (2, .int a1), (3, .int a2), (4, .int a3)] := hl
  refine lv_aload_n hx hb zd_Program_add_8 rfl (lv_at hl 1 rfl) ?_
  refine z_get (v := .ref (ad 18)) hx hb hts hown hK hw zZ6 3 wX_g3 0 (by decide) zn_241 rfl zd_Program_add_9 ?_
  refine lv_aload_n hx hb zd_Program_add_12 rfl (lv_at hl 1 rfl) ?_
  refine z_get (v := .int (I 9)) hx hb hts hown hK hw zZ6 3 wX_g3 12 (by decide) zn_386 rfl zd_Program_add_13 ?_
  refine lv_iload_n hx hb zd_Program_add_16 rfl (lv_at hl 2 rfl) ?_
  refine va_iast (f := (B 6)) hx hb hK hw.1 hw.2.1 hw.2.2 18 0 wX_a18 rfl hok.1 zd_Program_add_17 (fun H locs w91 w92 w93 => ?_)
  have hok := hok.2
  have hw := wX_t18 ⟨w91, w92, w93⟩
  refine lv_aload_n hx hb zd_Program_add_18 rfl (lv_at hl 1 rfl) ?_
  refine z_get (v := .ref (ad 19)) hx hb hts hown hK hw zZ6 3 wX_g3 1 (by decide) zn_242 rfl zd_Program_add_19 ?_
  refine lv_aload_n hx hb zd_Program_add_22 rfl (lv_at hl 1 rfl) ?_
  refine z_get (v := .int (I 9)) hx hb hts hown hK hw zZ6 3 wX_g3 12 (by decide) zn_386 rfl zd_Program_add_23 ?_
  refine lv_iload_n hx hb zd_Program_add_26 rfl (lv_at hl 3 rfl) ?_
  refine va_iast (f := (B 7)) hx hb hK hw.1 hw.2.1 hw.2.2 19 0 wX_a19 rfl hok.1 zd_Program_add_27 (fun H locs w91 w92 w93 => ?_)
  have hok := hok.2
  have hw := wX_t19 ⟨w91, w92, w93⟩
  refine lv_aload_n hx hb zd_Program_add_28 rfl (lv_at hl 1 rfl) ?_
  refine z_get (v := .ref (ad 20)) hx hb hts hown hK hw zZ6 3 wX_g3 2 (by decide) zn_243 rfl zd_Program_add_29 ?_
  refine lv_aload_n hx hb zd_Program_add_32 rfl (lv_at hl 1 rfl) ?_
  refine z_get (v := .int (I 9)) hx hb hts hown hK hw zZ6 3 wX_g3 12 (by decide) zn_386 rfl zd_Program_add_33 ?_
  refine lv_iload_n hx hb zd_Program_add_36 rfl (lv_at hl 4 rfl) ?_
  refine va_iast (f := (B 8)) hx hb hK hw.1 hw.2.1 hw.2.2 20 0 wX_a20 rfl hok.1 zd_Program_add_37 (fun H locs w91 w92 w93 => ?_)
  have hok := hok.2
  have hw := wX_t20 ⟨w91, w92, w93⟩
  refine lv_aload_n hx hb zd_Program_add_38 rfl (lv_at hl 1 rfl) ?_
  refine z_get (v := .ref (ad 21)) hx hb hts hown hK hw zZ6 3 wX_g3 3 (by decide) zn_244 rfl zd_Program_add_39 ?_
  refine lv_aload_n hx hb zd_Program_add_42 rfl (lv_at hl 1 rfl) ?_
  refine z_get (v := .int (I 9)) hx hb hts hown hK hw zZ6 3 wX_g3 12 (by decide) zn_386 rfl zd_Program_add_43 ?_
  refine lv_iload hx hb zd_Program_add_46 (lv_at hl 5 rfl) ?_
  refine va_iast (f := (B 9)) hx hb hK hw.1 hw.2.1 hw.2.2 21 0 wX_a21 rfl hok.1 zd_Program_add_48 (fun H locs w91 w92 w93 => ?_)
  have hok := hok.2
  have hw := wX_t21 ⟨w91, w92, w93⟩
  refine lv_aload_n hx hb zd_Program_add_49 rfl (lv_at hl 1 rfl) ?_
  refine z_get (v := .ref (ad 22)) hx hb hts hown hK hw zZ6 3 wX_g3 4 (by decide) zn_245 rfl zd_Program_add_50 ?_
  refine lv_aload_n hx hb zd_Program_add_53 rfl (lv_at hl 1 rfl) ?_
  refine z_get (v := .int (I 9)) hx hb hts hown hK hw zZ6 3 wX_g3 12 (by decide) zn_386 rfl zd_Program_add_54 ?_
  refine lv_aload_n hx hb zd_Program_add_57 rfl (lv_at hl 1 rfl) ?_
  refine z_get (v := .int (I 10)) hx hb hts hown hK hw zZ6 3 wX_g3 13 (by decide) zn_387 rfl zd_Program_add_58 ?_
  refine va_iast (f := (B 10)) hx hb hK hw.1 hw.2.1 hw.2.2 22 0 wX_a22 rfl hok.1 zd_Program_add_61 (fun H locs w91 w92 w93 => ?_)
  have hok := hok.2
  have hw := wX_t22 ⟨w91, w92, w93⟩
  refine lv_iload_n hx hb zd_Program_add_62 rfl (lv_at hl 2 rfl) ?_
  refine lv_iconst (v := 3) hx hb zd_Program_add_63 (by decide) ?_
  refine lv_icmp_ne (tgt := 81) hx hb zd_Program_add_64 (by decide) (fun hc3 => ?_) (fun hc3 => ?_)
  · have hok := hok.1 hc3
    refine lv_iload_n hx hb zd_Program_add_81 rfl (lv_at hl 2 rfl) ?_
    refine lv_iconst (v := 5) hx hb zd_Program_add_82 (by decide) ?_
    refine lv_icmp_ne (tgt := 97) hx hb zd_Program_add_83 (by decide) (fun hc4 => ?_) (fun hc4 => ?_)
    · have hok := hok.1 hc4
      exact wJ_Program_add_97 G K ad sv a0 a1 a2 a3 Post C I J (va_up (va_up (va_up (va_up (va_up B 6 (upd (B 6) (I 9).toNatClampNeg a0)) 7 (upd (B 7) (I 9).toNatClampNeg a1)) 8 (upd (B 8) (I 9).toNatClampNeg a2)) 9 (upd (B 9) (I 9).toNatClampNeg a3)) 10 (upd (B 10) (I 9).toNatClampNeg (I 10))) D ls H locs hok (lv_sub hl [1] rfl) hw
    · have hok := hok.2 hc4
      refine lv_aload_n hx hb zd_Program_add_86 rfl (lv_at hl 1 rfl) ?_
      refine lv_dup hx hb zd_Program_add_87 rfl ?_
      refine z_get (v := .long (J 0)) hx hb hts hown hK hw zZ6 3 wX_g3 11 (by decide) zn_385 rfl zd_Program_add_88 ?_
      refine lv_lload hx hb zd_Program_add_91 (lv_at hl 0 rfl) ?_
      refine lv_lor hx hb zd_Program_add_93 ?_
      refine lv_topl (fun z5 ez5 => ?_)
      have hok := hok z5 ez5
      refine z_put (v := .long z5) hx hb hts hown hK hw zZ6 3 wX_g3 11 (by decide) zn_385 rfl rfl rfl (Nat.le_of_ble_eq_true rfl) zd_Program_add_94 (fun H locs hw => ?_)
      have hw := wX_sJ0 hw
      exact wJ_Program_add_97 G K ad sv a0 a1 a2 a3 Post C I (vp_updL J 0 z5) (va_up (va_up (va_up (va_up (va_up B 6 (upd (B 6) (I 9).toNatClampNeg a0)) 7 (upd (B 7) (I 9).toNatClampNeg a1)) 8 (upd (B 8) (I 9).toNatClampNeg a2)) 9 (upd (B 9) (I 9).toNatClampNeg a3)) 10 (upd (B 10) (I 9).toNatClampNeg (I 10))) D ls H locs hok (lv_sub hl [1] rfl) hw
  · have hok := hok.2 hc3
    refine lv_aload_n hx hb zd_Program_add_67 rfl (lv_at hl 1 rfl) ?_
    refine z_get (v := .ref (ad 25)) hx hb hts hown hK hw zZ6 3 wX_g3 7 (by decide) zn_248 rfl zd_Program_add_68 ?_
    refine lv_iload_n hx hb zd_Program_add_71 rfl (lv_at hl 3 rfl) ?_
    refine lv_dup2_11 hx hb zd_Program_add_72 rfl rfl ?_
    refine va_lald (f := (D 0)) hx hb hK hw.1 25 1 wX_a25 rfl hok.1 zd_Program_add_73 ?_
    have hok := hok.2
    refine lv_topl (fun z6 ez6 => ?_)
    have hok := hok z6 ez6
    refine lv_lload hx hb zd_Program_add_74 (lv_at hl 0 rfl) ?_
    refine lv_lor hx hb zd_Program_add_76 ?_
    refine lv_topl (fun z7 ez7 => ?_)
    have hok := hok z7 ez7
    refine va_last (f := (D 0)) hx hb hK hw.1 hw.2.1 hw.2.2 25 1 wX_a25 rfl hok.1 zd_Program_add_77 (fun H locs w91 w92 w93 => ?_)
    have hok := hok.2
    have hw := wX_t25 ⟨w91, w92, w93⟩
    refine lv_goto (tgt := 97) hx hb zd_Program_add_78 (by decide) ?_
    exact wJ_Program_add_97 G K ad sv a0 a1 a2 a3 Post C I J (va_up (va_up (va_up (va_up (va_up B 6 (upd (B 6) (I 9).toNatClampNeg a0)) 7 (upd (B 7) (I 9).toNatClampNeg a1)) 8 (upd (B 8) (I 9).toNatClampNeg a2)) 9 (upd (B 9) (I 9).toNatClampNeg a3)) 10 (upd (B 10) (I 9).toNatClampNeg (I 10))) (va_up D 0 (vp_updL (D 0) a1.toNatClampNeg z7)) ls H locs hok (lv_sub hl [1] rfl) hw
def wc_ModelReader_readElse_28 (a0 : Int32) (a1 : Int32) (Post : (Nat → Int32) → (Nat → Int64) → (Nat → Nat → Int32) → (Nat → Nat → Int64) → Prop) (PX : String → (Nat → Int32) → (Nat → Int64) → (Nat → Nat → Int32) → (Nat → Nat → Int64) → Prop)  (I : Nat → Int32) (J : Nat → Int64) (B : Nat → Nat → Int32) (D : Nat → Nat → Int64) : Prop :=
  wp_Text_skip I J B D  (fun I1 J1 B1 D1 => wp_Program_add I1 J1 B1 D1 5 (-1) (-1) (-1) (fun I2 J2 B2 D2 => Post I2 J2 B2 D2))
def wc_ModelReader_readElse_21 (a0 : Int32) (a1 : Int32) (Post : (Nat → Int32) → (Nat → Int64) → (Nat → Nat → Int32) → (Nat → Nat → Int64) → Prop) (PX : String → (Nat → Int32) → (Nat → Int64) → (Nat → Nat → Int32) → (Nat → Nat → Int64) → Prop)  (I : Nat → Int32) (J : Nat → Int64) (B : Nat → Nat → Int32) (D : Nat → Nat → Int64) : Prop :=
  wp_Text_refuse I J B D  (fun I3 J3 B3 D3 => wc_ModelReader_readElse_28 a0 a1 Post PX I3 J3 B3 D3) PX
def wp_ModelReader_readElse (I : Nat → Int32) (J : Nat → Int64) (B : Nat → Nat → Int32) (D : Nat → Nat → Int64) (a0 : Int32) (a1 : Int32) (Post : (Nat → Int32) → (Nat → Int64) → (Nat → Nat → Int32) → (Nat → Nat → Int64) → Prop) (PX : String → (Nat → Int32) → (Nat → Int64) → (Nat → Nat → Int32) → (Nat → Nat → Int64) → Prop) : Prop :=
  wp_ModelReader_leadsInside I J B D a0 a1 (fun r4 I4 J4 B4 D4 => ((r4 = 0 → wc_ModelReader_readElse_21 a0 a1 Post PX I4 J4 B4 D4) ∧ (¬ r4 = 0 → vp_in a0 240 ∧ ∀ z6 : Int32, z6 = ((B4 18) a0.toNatClampNeg) → ((¬ z6 = 3 → wc_ModelReader_readElse_28 a0 a1 Post PX I4 J4 B4 D4) ∧ (z6 = 3 → wc_ModelReader_readElse_21 a0 a1 Post PX I4 J4 B4 D4)))))
set_option maxHeartbeats 8000000 in
set_option maxRecDepth 100000 in
theorem wJ_ModelReader_readElse_28 {p : Program} {l : Launch} {e : Env} {s : State} {m : MethodId} {below : List Frame} {meth : Method} {c : Code} {A : Nat → Prop} (G : va_G) (K : Nat → ClassId) (ad : Nat → Nat) (sv : Value) (a0 : Int32) (a1 : Int32) (Post : (Nat → Int32) → (Nat → Int64) → (Nat → Nat → Int32) → (Nat → Nat → Int64) → Prop) (PX : String → (Nat → Int32) → (Nat → Int64) → (Nat → Nat → Int32) → (Nat → Nat → Int64) → Prop) (C : zCy p l s m ([.ref (ad 5), .int a0, .int a1] : List Value).toArray meth c A G K prog_5_method_14_code none 3 "LassoFinder$ModelReader") : ∀  (I : Nat → Int32) (J : Nat → Int64) (B : Nat → Nat → Int32) (D : Nat → Nat → Int64) (ls : Array Slot) (H : Heap) (locs : List Loc), wc_ModelReader_readElse_28 a0 a1 Post PX  I J B D → lv_has ls 3 [(0, .ref (ad 5))] → zW G A s.heap (wX ad K sv I J B D) H locs → W p l e { frames := 7, cells := 1, slots := 6, locals := 101 } s m ([.ref (ad 5), .int a0, .int a1] : List Value).toArray below meth c H locs 0 0 (zyMQ below (va_Qv (fun u : zS => Post u.1 u.2.1 u.2.2.1 u.2.2.2) (fun u t => zPost G K A (wX ad K sv u.1 u.2.1 u.2.2.1 u.2.2.2) t) A) (zYC (fun E (u : zS) => PX E u.1 u.2.1 u.2.2.1 u.2.2.2) (fun u => wX ad K sv u.1 u.2.1 u.2.2.1 u.2.2.2) G K A) ([.ref (ad 5), .int a0, .int a1] : List Value).toArray s 1 6 A) (F0 m 28 ls []) := by
  obtain ⟨hx, hb, hr, hml, hts, hown, hlocks, hA, hK, hT, hnt, hlt⟩ := id C
  intro  I J B D ls H locs hok hl hw
  unfold wc_ModelReader_readElse_28 at hok
  refine lv_aload_n hx hb zd_ModelReader_readElse_28 rfl (lv_at hl 0 rfl) ?_
  refine z_get (v := .ref (ad 1)) hx hb hts hown hK hw zZ4 5 wX_g5 0 (by decide) zn_366 rfl zd_ModelReader_readElse_29 ?_
  refine z_callv (w1 := fun (u : zS) => wX ad K sv u.1 u.2.1 u.2.2.1 u.2.2.2) (wr := []) (z_runV (q0 := 1) (wc := (wX ad K sv I J B D)) (As := []) (rest := []) ⟨hx, hb, hml, hown, hts⟩ (w_Text_skip l G K ad sv I J B D  _ H.size hok) zf_Text_skip zn_314 ⟨Nat.le_of_ble_eq_true rfl, Nat.le_of_ble_eq_true rfl⟩ hK hw (List.range 65) wX_all wX_nd wX_g1 rfl rfl hl.1 rfl (Nat.le_of_ble_eq_true rfl) zd_ModelReader_readElse_32 ⟨Nat.le_of_ble_eq_true rfl, Nat.le_of_ble_eq_true rfl⟩) hw hA (List.range 65) [] wX_all rfl (by decide) (fun i hi => by cases hi) (fun u H locs hok hw => ?_)
  obtain ⟨I1, J1, B1, D1⟩ := u
  dsimp only at hok
  have hw : zW G A s.heap (wX ad K sv I1 J1 B1 D1) H locs := hw
  refine lv_aload_n hx hb zd_ModelReader_readElse_35 rfl (lv_at hl 0 rfl) ?_
  refine z_get (v := .ref (ad 3)) hx hb hts hown hK hw zZ4 5 wX_g5 3 (by decide) zn_365 rfl zd_ModelReader_readElse_36 ?_
  refine lv_iconst (v := 5) hx hb zd_ModelReader_readElse_39 (by decide) ?_
  refine lv_iconst (v := (-1)) hx hb zd_ModelReader_readElse_40 (by decide) ?_
  refine lv_iconst (v := (-1)) hx hb zd_ModelReader_readElse_41 (by decide) ?_
  refine lv_iconst (v := (-1)) hx hb zd_ModelReader_readElse_42 (by decide) ?_
  refine z_callv (w1 := fun (u : zS) => wX ad K sv u.1 u.2.1 u.2.2.1 u.2.2.2) (wr := []) (z_runV (q0 := 3) (wc := (wX ad K sv I1 J1 B1 D1)) (As := [.int 5, .int (-1), .int (-1), .int (-1)]) (rest := []) ⟨hx, hb, hml, hown, hts⟩ (w_Program_add l G K ad sv I1 J1 B1 D1 5 (-1) (-1) (-1) _ H.size hok) zf_Program_add zn_336 ⟨Nat.le_of_ble_eq_true rfl, Nat.le_of_ble_eq_true rfl⟩ hK hw (List.range 65) wX_all wX_nd wX_g3 rfl rfl hl.1 rfl (Nat.le_of_ble_eq_true rfl) zd_ModelReader_readElse_43 ⟨Nat.le_of_ble_eq_true rfl, Nat.le_of_ble_eq_true rfl⟩) hw hA (List.range 65) [] wX_all rfl (by decide) (fun i hi => by cases hi) (fun u H locs hok hw => ?_)
  obtain ⟨I2, J2, B2, D2⟩ := u
  dsimp only at hok
  have hw : zW G A s.heap (wX ad K sv I2 J2 B2 D2) H locs := hw
  exact zy_ret (z_vret (u := (I2, J2, B2, D2)) hx hb hr hlocks hw (List.range 65) wX_all wX_nd hok (Nat.le_of_ble_eq_true rfl) (Nat.le_of_ble_eq_true rfl) zd_ModelReader_readElse_46)
set_option maxHeartbeats 8000000 in
set_option maxRecDepth 100000 in
theorem wJ_ModelReader_readElse_21 {p : Program} {l : Launch} {e : Env} {s : State} {m : MethodId} {below : List Frame} {meth : Method} {c : Code} {A : Nat → Prop} (G : va_G) (K : Nat → ClassId) (ad : Nat → Nat) (sv : Value) (a0 : Int32) (a1 : Int32) (Post : (Nat → Int32) → (Nat → Int64) → (Nat → Nat → Int32) → (Nat → Nat → Int64) → Prop) (PX : String → (Nat → Int32) → (Nat → Int64) → (Nat → Nat → Int32) → (Nat → Nat → Int64) → Prop) (C : zCy p l s m ([.ref (ad 5), .int a0, .int a1] : List Value).toArray meth c A G K prog_5_method_14_code none 3 "LassoFinder$ModelReader") : ∀  (I : Nat → Int32) (J : Nat → Int64) (B : Nat → Nat → Int32) (D : Nat → Nat → Int64) (ls : Array Slot) (H : Heap) (locs : List Loc), wc_ModelReader_readElse_21 a0 a1 Post PX  I J B D → lv_has ls 3 [(0, .ref (ad 5))] → zW G A s.heap (wX ad K sv I J B D) H locs → W p l e { frames := 7, cells := 1, slots := 6, locals := 101 } s m ([.ref (ad 5), .int a0, .int a1] : List Value).toArray below meth c H locs 0 0 (zyMQ below (va_Qv (fun u : zS => Post u.1 u.2.1 u.2.2.1 u.2.2.2) (fun u t => zPost G K A (wX ad K sv u.1 u.2.1 u.2.2.1 u.2.2.2) t) A) (zYC (fun E (u : zS) => PX E u.1 u.2.1 u.2.2.1 u.2.2.2) (fun u => wX ad K sv u.1 u.2.1 u.2.2.1 u.2.2.2) G K A) ([.ref (ad 5), .int a0, .int a1] : List Value).toArray s 1 6 A) (F0 m 21 ls []) := by
  obtain ⟨hx, hb, hr, hml, hts, hown, hlocks, hA, hK, hT, hnt, hlt⟩ := id C
  intro  I J B D ls H locs hok hl hw
  unfold wc_ModelReader_readElse_21 at hok
  refine lv_aload_n hx hb zd_ModelReader_readElse_21 rfl (lv_at hl 0 rfl) ?_
  refine z_get (v := .ref (ad 1)) hx hb hts hown hK hw zZ4 5 wX_g5 0 (by decide) zn_366 rfl zd_ModelReader_readElse_22 ?_
  refine z_yV (q0 := 1) (wc := (wX ad K sv I J B D)) (wr := []) (w1 := fun (u : zS) => wX ad K sv u.1 u.2.1 u.2.2.1 u.2.2.2) (As := []) (rest := []) ⟨hx, hb, hml, hown, hts⟩ (w_Text_refuse l hlt G K ad sv I J B D  _ _ H.size hok) zf_Text_refuse zn_312 ⟨Nat.le_of_ble_eq_true rfl, Nat.le_of_ble_eq_true rfl⟩ hK hT hw hA (List.range 65) [] wX_all rfl wX_nd (by decide) (fun i hi => by cases hi) wX_g1 rfl rfl hl.1 rfl (Nat.le_of_ble_eq_true rfl) zd_ModelReader_readElse_25 ⟨Nat.le_of_ble_eq_true rfl, Nat.le_of_ble_eq_true rfl⟩ (fun v st9 t9 L9 h0 hq hL => ?_) (fun E ce q9 u H locs hu hw hce hcv hcl => z_yout (u := u) hnt hlocks hce hcv hcl hw (List.range 65) wX_all wX_nd hu (Nat.le_of_ble_eq_true rfl) (Nat.le_of_ble_eq_true rfl))
  obtain ⟨⟨u, hv9, hok, hB9⟩, hF9⟩ := hq
  cases hv9
  have hw := z_back (wr := []) hw hA (List.range 65) [] wX_all rfl (by decide) (fun i hi => by cases hi) h0 hL hB9 hF9
  obtain ⟨I3, J3, B3, D3⟩ := u
  dsimp only at hok
  generalize t9.heap = H at hw ⊢
  generalize locs ++ L9 = locs at hw ⊢
  have hw : zW G A s.heap (wX ad K sv I3 J3 B3 D3) H locs := hw
  refine W.eq (g2 := F0 m 28 ls []) rfl ?_
  exact wJ_ModelReader_readElse_28 G K ad sv a0 a1 Post PX C I3 J3 B3 D3 ls H locs hok (lv_sub hl [0] rfl) hw
set_option maxHeartbeats 8000000 in
set_option maxRecDepth 100000 in
theorem w_ModelReader_readElse (l : Launch) (hlt : l.stackTraces = false) (G : va_G) (K : Nat → ClassId) (ad : Nat → Nat) (sv : Value) (I : Nat → Int32) (J : Nat → Int64) (B : Nat → Nat → Int32) (D : Nat → Nat → Int64) (a0 : Int32) (a1 : Int32) (Post : (Nat → Int32) → (Nat → Int64) → (Nat → Nat → Int32) → (Nat → Nat → Int64) → Prop) (PX : String → (Nat → Int32) → (Nat → Int64) → (Nat → Nat → Int32) → (Nat → Nat → Int64) → Prop) (sz : Nat) (hok : wp_ModelReader_readElse I J B D a0 a1 Post PX) : zyMet l zy_ModelReader_readElse (Cond.code zy_ModelReader_readElse prog_5_method_14_code 3 none :: zTB) { frames := 7, cells := 1, slots := 6, locals := 101 } (va_Pc [.ref (ad 5), .int a0, .int a1] (zPreX G K (wX ad K sv I J B D) sz)) (va_Qv (fun u : zS => Post u.1 u.2.1 u.2.2.1 u.2.2.2) (fun u t => zPost G K (va_A (wX ad K sv I J B D) sz) (wX ad K sv u.1 u.2.1 u.2.2.1 u.2.2.2) t) (va_A (wX ad K sv I J B D) sz)) (zYC (fun E (u : zS) => PX E u.1 u.2.1 u.2.2.1 u.2.2.2) (fun u => wX ad K sv u.1 u.2.1 u.2.2.1 u.2.2.2) G K (va_A (wX ad K sv I J B D) sz)) 1 6 (va_A (wX ad K sv I J B D) sz) := by
  refine zMetY (y := zy_ModelReader_readElse) (av := [.ref (ad 5), .int a0, .int a1]) (maxL := 3) (cc := prog_5_method_14_code) (ret := none) (W0 := (wX ad K sv I J B D)) (sz := sz) (G := G) (K := K) (wt := zTB) (mc := 1) (ms := 6) (Qf := fun A => va_Qv (fun u : zS => Post u.1 u.2.1 u.2.2.1 u.2.2.2) (fun u t => zPost G K A (wX ad K sv u.1 u.2.1 u.2.2.1 u.2.2.2) t) A) (Xf := fun A => (zYC (fun E (u : zS) => PX E u.1 u.2.1 u.2.2.1 u.2.2.2) (fun u => wX ad K sv u.1 u.2.1 u.2.2.1 u.2.2.2) G K A)) (by decide) (Nat.le_of_ble_eq_true rfl) ?_
  intro p e s m below meth c ls A hx hb hr hml hts hown hlocks hin hA hK H locs hw hsz hl hT hnt
  clear hsz
  have hown : s.vm.findClass "LassoFinder$ModelReader" = some m.cls := hown
  have C : zCy p l s m ([.ref (ad 5), .int a0, .int a1] : List Value).toArray meth c A G K prog_5_method_14_code none 3 "LassoFinder$ModelReader" := ⟨hx, hb, hr, hml, hts, hown, hlocks, hA, hK, hT, hnt, hlt⟩
  have hl : lv_has ls 3 [(0, .ref (ad 5)), (1, .int a0), (2, .int a1)] := hl
  have hw : zW G A s.heap (wX ad K sv I J B D) H locs := hw
  unfold wp_ModelReader_readElse at hok
  refine lv_iload_n hx hb zd_ModelReader_readElse_0 rfl (lv_at hl 1 rfl) ?_
  refine lv_iload_n hx hb zd_ModelReader_readElse_1 rfl (lv_at hl 2 rfl) ?_
  refine z_calli (w1 := fun (u : zS) => wX ad K sv u.1 u.2.1 u.2.2.1 u.2.2.2) (wr := []) (z_runS (wc := (wX ad K sv I J B D)) (As := [.int a0, .int a1]) (rest := []) ⟨hx, hb, hml, hown, hts⟩ (w_ModelReader_leadsInside l G K ad sv I J B D a0 a1 _ H.size hok) zf_ModelReader_leadsInside zn_332 ⟨Nat.le_of_ble_eq_true rfl, Nat.le_of_ble_eq_true rfl⟩ hK hw (List.range 65) wX_all wX_nd rfl hl.1 rfl (Nat.le_of_ble_eq_true rfl) zd_ModelReader_readElse_2 ⟨Nat.le_of_ble_eq_true rfl, Nat.le_of_ble_eq_true rfl⟩) hw hA (List.range 65) [] wX_all rfl (by decide) (fun i hi => by cases hi) (fun r4 u H locs hok hw => ?_)
  obtain ⟨I4, J4, B4, D4⟩ := u
  dsimp only at hok
  have hw : zW G A s.heap (wX ad K sv I4 J4 B4 D4) H locs := hw
  refine lv_if_eq (tgt := 21) hx hb zd_ModelReader_readElse_5 (by decide) (fun hc5 => ?_) (fun hc5 => ?_)
  · have hok := hok.1 hc5
    exact wJ_ModelReader_readElse_21 G K ad sv a0 a1 Post PX C I4 J4 B4 D4 ls H locs hok (lv_sub hl [0] rfl) hw
  · have hok := hok.2 hc5
    refine lv_aload_n hx hb zd_ModelReader_readElse_8 rfl (lv_at hl 0 rfl) ?_
    refine z_get (v := .ref (ad 6)) hx hb hts hown hK hw zZ4 5 wX_g5 4 (by decide) zn_368 rfl zd_ModelReader_readElse_9 ?_
    refine z_get (v := .ref (ad 32)) hx hb hts hown hK hw zZ10 6 wX_g6 0 (by decide) zn_390 rfl zd_ModelReader_readElse_12 ?_
    refine lv_iload_n hx hb zd_ModelReader_readElse_15 rfl (lv_at hl 1 rfl) ?_
    refine va_iald (f := (B4 18)) hx hb hK hw.1 32 0 wX_a32 rfl hok.1 zd_ModelReader_readElse_16 ?_
    have hok := hok.2
    refine lv_topi (fun z6 ez6 => ?_)
    have hok := hok z6 ez6
    refine lv_iconst (v := 3) hx hb zd_ModelReader_readElse_17 (by decide) ?_
    refine lv_icmp_ne (tgt := 28) hx hb zd_ModelReader_readElse_18 (by decide) (fun hc7 => ?_) (fun hc7 => ?_)
    · have hok := hok.1 hc7
      exact wJ_ModelReader_readElse_28 G K ad sv a0 a1 Post PX C I4 J4 B4 D4 ls H locs hok (lv_sub hl [0] rfl) hw
    · have hok := hok.2 hc7
      exact wJ_ModelReader_readElse_21 G K ad sv a0 a1 Post PX C I4 J4 B4 D4 ls H locs hok (lv_sub hl [0] rfl) hw
def wp_Terms_putOff_A (I : Nat → Int32) (J : Nat → Int64) (B : Nat → Nat → Int32) (D : Nat → Nat → Int64) (a0 : Int32) (Post : (Nat → Int32) → (Nat → Int64) → (Nat → Nat → Int32) → (Nat → Nat → Int64) → Prop) : Prop :=
  vp_in (I 12) 20 ∧ ∀ z1 : Int32, z1 = ((I 12) + 1) → Post (upd I 12 z1) J (va_up B 16 (upd (B 16) (I 12).toNatClampNeg a0)) D
set_option maxHeartbeats 8000000 in
set_option maxRecDepth 100000 in
theorem w_Terms_putOff_A (l : Launch) (G : va_G) (K : Nat → ClassId) (ad : Nat → Nat) (sv : Value) (I : Nat → Int32) (J : Nat → Int64) (B : Nat → Nat → Int32) (D : Nat → Nat → Int64) (a0 : Int32) (Post : (Nat → Int32) → (Nat → Int64) → (Nat → Nat → Int32) → (Nat → Nat → Int64) → Prop) (sz : Nat) (hok : wp_Terms_putOff_A I J B D a0 Post) : Met l zy_Terms_putOff (Cond.code zy_Terms_putOff prog_9_method_9_code 2 none :: zTB) { frames := 0, cells := 0, slots := 0, locals := 0 } (va_Pc [.ref (ad 4), .int a0] (zPre G K (wX ad K sv I J B D) sz)) (va_Qv (fun u : zS => Post u.1 u.2.1 u.2.2.1 u.2.2.2) (fun u t => zPost G K (va_A (wX ad K sv I J B D) sz) (wX ad K sv u.1 u.2.1 u.2.2.1 u.2.2.2) t) (va_A (wX ad K sv I J B D) sz)) 0 0 (va_A (wX ad K sv I J B D) sz) := by
  refine zMet (y := zy_Terms_putOff) (av := [.ref (ad 4), .int a0]) (maxL := 2) (cc := prog_9_method_9_code) (ret := none) (W0 := (wX ad K sv I J B D)) (sz := sz) (G := G) (K := K) (wt := zTB) (mc := 0) (ms := 0) (Qf := fun A => va_Qv (fun u : zS => Post u.1 u.2.1 u.2.2.1 u.2.2.2) (fun u t => zPost G K A (wX ad K sv u.1 u.2.1 u.2.2.1 u.2.2.2) t) A) (by decide) (Nat.le_of_ble_eq_true rfl) ?_
  intro p e s m below meth c ls A hx hb hr hml hts hown hlocks hin hA hK H locs hw hsz hl
  clear hsz
  have hown : s.vm.findClass "LassoFinder$Terms" = some m.cls := hown
  have C : zCx p s m ([.ref (ad 4), .int a0] : List Value).toArray meth c A G K prog_9_method_9_code none 2 "LassoFinder$Terms" := ⟨hx, hb, hr, hml, hts, hown, hlocks, hA, hK⟩
  have hl : lv_has ls 2 [(0, .ref (ad 4)), (1, .int a0)] := hl
  have hw : zW G A s.heap (wX ad K sv I J B D) H locs := hw
  unfold wp_Terms_putOff_A at hok
  refine lv_aload_n hx hb zd_Terms_putOff_0 rfl (lv_at hl 0 rfl) ?_
  refine z_get (v := .ref (ad 30)) hx hb hts hown hK hw zZ8 4 wX_g4 4 (by decide) zn_253 rfl zd_Terms_putOff_1 ?_
  refine lv_aload_n hx hb zd_Terms_putOff_4 rfl (lv_at hl 0 rfl) ?_
  refine z_get (v := .int (I 12)) hx hb hts hown hK hw zZ8 4 wX_g4 5 (by decide) zn_382 rfl zd_Terms_putOff_5 ?_
  refine lv_iload_n hx hb zd_Terms_putOff_8 rfl (lv_at hl 1 rfl) ?_
  refine va_iast (f := (B 16)) hx hb hK hw.1 hw.2.1 hw.2.2 30 0 wX_a30 rfl hok.1 zd_Terms_putOff_9 (fun H locs w91 w92 w93 => ?_)
  have hok := hok.2
  have hw := wX_t30 ⟨w91, w92, w93⟩
  refine lv_aload_n hx hb zd_Terms_putOff_10 rfl (lv_at hl 0 rfl) ?_
  refine lv_dup hx hb zd_Terms_putOff_11 rfl ?_
  refine z_get (v := .int (I 12)) hx hb hts hown hK hw zZ8 4 wX_g4 5 (by decide) zn_382 rfl zd_Terms_putOff_12 ?_
  refine lv_iconst (v := 1) hx hb zd_Terms_putOff_15 (by decide) ?_
  refine lv_iadd hx hb zd_Terms_putOff_16 ?_
  refine lv_topi (fun z1 ez1 => ?_)
  have hok := hok z1 ez1
  refine z_put (v := .int z1) hx hb hts hown hK hw zZ8 4 wX_g4 5 (by decide) zn_382 rfl rfl rfl (Nat.le_of_ble_eq_true rfl) zd_Terms_putOff_17 (fun H locs hw => ?_)
  have hw := wX_sI12 hw
  exact (z_vret (u := ((upd I 12 z1), J, (va_up B 16 (upd (B 16) (I 12).toNatClampNeg a0)), D)) hx hb hr hlocks hw (List.range 65) wX_all wX_nd hok (Nat.le_of_ble_eq_true rfl) (Nat.le_of_ble_eq_true rfl) zd_Terms_putOff_20)
def wc_Terms_readOpenings_A_75 (Post : (Nat → Int32) → (Nat → Int64) → (Nat → Nat → Int32) → (Nat → Nat → Int64) → Prop) (PX : String → (Nat → Int32) → (Nat → Int64) → (Nat → Nat → Int32) → (Nat → Nat → Int64) → Prop)  (I : Nat → Int32) (J : Nat → Int64) (B : Nat → Nat → Int32) (D : Nat → Nat → Int64) : Prop :=
  Post I J B D
def wc_Terms_readOpenings_A_36 (K2 : Int32 → (Nat → Int32) → (Nat → Int64) → (Nat → Nat → Int32) → (Nat → Nat → Int64) → Prop) (Post : (Nat → Int32) → (Nat → Int64) → (Nat → Nat → Int32) → (Nat → Nat → Int64) → Prop) (PX : String → (Nat → Int32) → (Nat → Int64) → (Nat → Nat → Int32) → (Nat → Nat → Int64) → Prop) (x1 : Int32) (I : Nat → Int32) (J : Nat → Int64) (B : Nat → Nat → Int32) (D : Nat → Nat → Int64) : Prop :=
  wp_Text_skip I J B D  (fun I1 J1 B1 D1 => ∀ z2 : Int32, z2 = ((I1 14) + 1) → ∀ z3 : Int32, z3 = ((I1 15) <<< (1 &&& 31)) → wp_Terms_putOff_A (upd (upd I1 14 z2) 15 z3) J1 B1 D1 21 (fun I4 J4 B4 D4 => ∀ z5 : Int32, z5 = (x1 + 1) → K2 z5 I4 J4 B4 D4))
def wb_Terms_readOpenings_A_2 (K2 : Int32 → (Nat → Int32) → (Nat → Int64) → (Nat → Nat → Int32) → (Nat → Nat → Int64) → Prop) (Post : (Nat → Int32) → (Nat → Int64) → (Nat → Nat → Int32) → (Nat → Nat → Int64) → Prop) (PX : String → (Nat → Int32) → (Nat → Int64) → (Nat → Nat → Int32) → (Nat → Nat → Int64) → Prop) (x1 : Int32) (I : Nat → Int32) (J : Nat → Int64) (B : Nat → Nat → Int32) (D : Nat → Nat → Int64) : Prop :=
  (((240 : Int32) ≤ x1 → wc_Terms_readOpenings_A_75  Post PX I J B D) ∧ (¬ (240 : Int32) ≤ x1 → wp_Text_ahead I J B D  (fun r7 I7 J7 B7 D7 => ((¬ r7 = 40 → wc_Terms_readOpenings_A_75  Post PX I7 J7 B7 D7) ∧ (r7 = 40 → ((¬ (I7 14) = 4 → wc_Terms_readOpenings_A_36  K2 Post PX x1 I7 J7 B7 D7) ∧ ((I7 14) = 4 → wp_Text_refuse I7 J7 B7 D7  (fun I10 J10 B10 D10 => wc_Terms_readOpenings_A_36  K2 Post PX x1 I10 J10 B10 D10) PX)))))))
def wl_Terms_readOpenings_A_2 (Post : (Nat → Int32) → (Nat → Int64) → (Nat → Nat → Int32) → (Nat → Nat → Int64) → Prop) (PX : String → (Nat → Int32) → (Nat → Int64) → (Nat → Nat → Int32) → (Nat → Nat → Int64) → Prop) (n : Nat) : Int32 → (Nat → Int32) → (Nat → Int64) → (Nat → Nat → Int32) → (Nat → Nat → Int64) → Prop := Nat.rec (fun _ _ _ _ _ => False) (fun _ r => wb_Terms_readOpenings_A_2  r Post PX) n
def wp_Terms_readOpenings_A (I : Nat → Int32) (J : Nat → Int64) (B : Nat → Nat → Int32) (D : Nat → Nat → Int64) (Post : (Nat → Int32) → (Nat → Int64) → (Nat → Nat → Int32) → (Nat → Nat → Int64) → Prop) (PX : String → (Nat → Int32) → (Nat → Int64) → (Nat → Nat → Int32) → (Nat → Nat → Int64) → Prop) : Prop :=
  ∃ n : Nat, wl_Terms_readOpenings_A_2  Post PX n 0 I J B D
set_option maxHeartbeats 8000000 in
set_option maxRecDepth 100000 in
theorem wJ_Terms_readOpenings_A_75 {p : Program} {l : Launch} {e : Env} {s : State} {m : MethodId} {below : List Frame} {meth : Method} {c : Code} {A : Nat → Prop} (G : va_G) (K : Nat → ClassId) (ad : Nat → Nat) (sv : Value) (Post : (Nat → Int32) → (Nat → Int64) → (Nat → Nat → Int32) → (Nat → Nat → Int64) → Prop) (PX : String → (Nat → Int32) → (Nat → Int64) → (Nat → Nat → Int32) → (Nat → Nat → Int64) → Prop) (C : zCy p l s m ([.ref (ad 4)] : List Value).toArray meth c A G K prog_9_method_4_code none 2 "LassoFinder$Terms") : ∀  (I : Nat → Int32) (J : Nat → Int64) (B : Nat → Nat → Int32) (D : Nat → Nat → Int64) (ls : Array Slot) (H : Heap) (locs : List Loc), wc_Terms_readOpenings_A_75  Post PX  I J B D → lv_has ls 2 [] → zW G A s.heap (wX ad K sv I J B D) H locs → W p l e { frames := 7, cells := 1, slots := 6, locals := 101 } s m ([.ref (ad 4)] : List Value).toArray below meth c H locs 0 0 (zyMQ below (va_Qv (fun u : zS => Post u.1 u.2.1 u.2.2.1 u.2.2.2) (fun u t => zPost G K A (wX ad K sv u.1 u.2.1 u.2.2.1 u.2.2.2) t) A) (zYC (fun E (u : zS) => PX E u.1 u.2.1 u.2.2.1 u.2.2.2) (fun u => wX ad K sv u.1 u.2.1 u.2.2.1 u.2.2.2) G K A) ([.ref (ad 4)] : List Value).toArray s 1 6 A) (F0 m 75 ls []) := by
  obtain ⟨hx, hb, hr, hml, hts, hown, hlocks, hA, hK, hT, hnt, hlt⟩ := id C
  intro  I J B D ls H locs hok hl hw
  unfold wc_Terms_readOpenings_A_75 at hok
  exact zy_ret (z_vret (u := (I, J, B, D)) hx hb hr hlocks hw (List.range 65) wX_all wX_nd hok (Nat.le_of_ble_eq_true rfl) (Nat.le_of_ble_eq_true rfl) zd_Terms_readOpenings_75)
set_option maxHeartbeats 8000000 in
set_option maxRecDepth 100000 in
theorem wJ_Terms_readOpenings_A_36 {p : Program} {l : Launch} {e : Env} {s : State} {m : MethodId} {below : List Frame} {meth : Method} {c : Code} {A : Nat → Prop} (G : va_G) (K : Nat → ClassId) (ad : Nat → Nat) (sv : Value) (Post : (Nat → Int32) → (Nat → Int64) → (Nat → Nat → Int32) → (Nat → Nat → Int64) → Prop) (PX : String → (Nat → Int32) → (Nat → Int64) → (Nat → Nat → Int32) → (Nat → Nat → Int64) → Prop) (C : zCy p l s m ([.ref (ad 4)] : List Value).toArray meth c A G K prog_9_method_4_code none 2 "LassoFinder$Terms") (K2 : Int32 → (Nat → Int32) → (Nat → Int64) → (Nat → Nat → Int32) → (Nat → Nat → Int64) → Prop) (kh2 : ∀ (x1 : Int32) (I : Nat → Int32) (J : Nat → Int64) (B : Nat → Nat → Int32) (D : Nat → Nat → Int64) (ls : Array Slot) (H : Heap) (locs : List Loc), K2 x1 I J B D → lv_has ls 2 [(0, .ref (ad 4)), (1, .int x1)] → zW G A s.heap (wX ad K sv I J B D) H locs → W p l e { frames := 7, cells := 1, slots := 6, locals := 101 } s m ([.ref (ad 4)] : List Value).toArray below meth c H locs 0 0 (zyMQ below (va_Qv (fun u : zS => Post u.1 u.2.1 u.2.2.1 u.2.2.2) (fun u t => zPost G K A (wX ad K sv u.1 u.2.1 u.2.2.1 u.2.2.2) t) A) (zYC (fun E (u : zS) => PX E u.1 u.2.1 u.2.2.1 u.2.2.2) (fun u => wX ad K sv u.1 u.2.1 u.2.2.1 u.2.2.2) G K A) ([.ref (ad 4)] : List Value).toArray s 1 6 A) (F0 m 2 ls [])) : ∀ (x1 : Int32) (I : Nat → Int32) (J : Nat → Int64) (B : Nat → Nat → Int32) (D : Nat → Nat → Int64) (ls : Array Slot) (H : Heap) (locs : List Loc), wc_Terms_readOpenings_A_36  K2 Post PX x1 I J B D → lv_has ls 2 [(0, .ref (ad 4)), (1, .int x1)] → zW G A s.heap (wX ad K sv I J B D) H locs → W p l e { frames := 7, cells := 1, slots := 6, locals := 101 } s m ([.ref (ad 4)] : List Value).toArray below meth c H locs 0 0 (zyMQ below (va_Qv (fun u : zS => Post u.1 u.2.1 u.2.2.1 u.2.2.2) (fun u t => zPost G K A (wX ad K sv u.1 u.2.1 u.2.2.1 u.2.2.2) t) A) (zYC (fun E (u : zS) => PX E u.1 u.2.1 u.2.2.1 u.2.2.2) (fun u => wX ad K sv u.1 u.2.1 u.2.2.1 u.2.2.2) G K A) ([.ref (ad 4)] : List Value).toArray s 1 6 A) (F0 m 36 ls []) := by
  obtain ⟨hx, hb, hr, hml, hts, hown, hlocks, hA, hK, hT, hnt, hlt⟩ := id C
  intro x1 I J B D ls H locs hok hl hw
  unfold wc_Terms_readOpenings_A_36 at hok
  refine lv_aload_n hx hb zd_Terms_readOpenings_36 rfl (lv_at hl 0 rfl) ?_
  refine z_get (v := .ref (ad 1)) hx hb hts hown hK hw zZ8 4 wX_g4 0 (by decide) zn_381 rfl zd_Terms_readOpenings_37 ?_
  refine z_callv (w1 := fun (u : zS) => wX ad K sv u.1 u.2.1 u.2.2.1 u.2.2.2) (wr := []) (z_runV (q0 := 1) (wc := (wX ad K sv I J B D)) (As := []) (rest := []) ⟨hx, hb, hml, hown, hts⟩ (w_Text_skip l G K ad sv I J B D  _ H.size hok) zf_Text_skip zn_342 ⟨Nat.le_of_ble_eq_true rfl, Nat.le_of_ble_eq_true rfl⟩ hK hw (List.range 65) wX_all wX_nd wX_g1 rfl rfl hl.1 rfl (Nat.le_of_ble_eq_true rfl) zd_Terms_readOpenings_40 ⟨Nat.le_of_ble_eq_true rfl, Nat.le_of_ble_eq_true rfl⟩) hw hA (List.range 65) [] wX_all rfl (by decide) (fun i hi => by cases hi) (fun u H locs hok hw => ?_)
  obtain ⟨I1, J1, B1, D1⟩ := u
  dsimp only at hok
  have hw : zW G A s.heap (wX ad K sv I1 J1 B1 D1) H locs := hw
  refine lv_aload_n hx hb zd_Terms_readOpenings_43 rfl (lv_at hl 0 rfl) ?_
  refine lv_dup hx hb zd_Terms_readOpenings_44 rfl ?_
  refine z_get (v := .int (I1 14)) hx hb hts hown hK hw zZ8 4 wX_g4 8 (by decide) zn_380 rfl zd_Terms_readOpenings_45 ?_
  refine lv_iconst (v := 1) hx hb zd_Terms_readOpenings_48 (by decide) ?_
  refine lv_iadd hx hb zd_Terms_readOpenings_49 ?_
  refine lv_topi (fun z2 ez2 => ?_)
  have hok := hok z2 ez2
  refine z_put (v := .int z2) hx hb hts hown hK hw zZ8 4 wX_g4 8 (by decide) zn_380 rfl rfl rfl (Nat.le_of_ble_eq_true rfl) zd_Terms_readOpenings_50 (fun H locs hw => ?_)
  have hw := wX_sI14 hw
  refine lv_aload_n hx hb zd_Terms_readOpenings_53 rfl (lv_at hl 0 rfl) ?_
  refine lv_dup hx hb zd_Terms_readOpenings_54 rfl ?_
  refine z_get (v := .int (I1 15)) hx hb hts hown hK hw zZ8 4 wX_g4 9 (by decide) zn_391 rfl zd_Terms_readOpenings_55 ?_
  refine lv_iconst (v := 1) hx hb zd_Terms_readOpenings_58 (by decide) ?_
  refine lv_ishl hx hb zd_Terms_readOpenings_59 ?_
  refine lv_topi (fun z3 ez3 => ?_)
  have hok := hok z3 ez3
  refine z_put (v := .int z3) hx hb hts hown hK hw zZ8 4 wX_g4 9 (by decide) zn_391 rfl rfl rfl (Nat.le_of_ble_eq_true rfl) zd_Terms_readOpenings_60 (fun H locs hw => ?_)
  have hw := wX_sI15 hw
  refine lv_aload_n hx hb zd_Terms_readOpenings_63 rfl (lv_at hl 0 rfl) ?_
  refine lv_bipush (v := 21) hx hb zd_Terms_readOpenings_64 (by decide) ?_
  refine z_callv (w1 := fun (u : zS) => wX ad K sv u.1 u.2.1 u.2.2.1 u.2.2.2) (wr := []) (z_runV (q0 := 4) (wc := (wX ad K sv (upd (upd I1 14 z2) 15 z3) J1 B1 D1)) (As := [.int 21]) (rest := []) ⟨hx, hb, hml, hown, hts⟩ (w_Terms_putOff_A l G K ad sv (upd (upd I1 14 z2) 15 z3) J1 B1 D1 21 _ H.size hok) zf_Terms_putOff zn_343 ⟨Nat.le_of_ble_eq_true rfl, Nat.le_of_ble_eq_true rfl⟩ hK hw (List.range 65) wX_all wX_nd wX_g4 rfl rfl hl.1 rfl (Nat.le_of_ble_eq_true rfl) zd_Terms_readOpenings_66 ⟨Nat.le_of_ble_eq_true rfl, Nat.le_of_ble_eq_true rfl⟩) hw hA (List.range 65) [] wX_all rfl (by decide) (fun i hi => by cases hi) (fun u H locs hok hw => ?_)
  obtain ⟨I4, J4, B4, D4⟩ := u
  dsimp only at hok
  have hw : zW G A s.heap (wX ad K sv I4 J4 B4 D4) H locs := hw
  obtain ⟨z5, ez5⟩ : ∃ z : Int32, z = (x1 + 1) := ⟨_, rfl⟩
  have hok := hok z5 ez5
  refine lv_iinc (v := z5) hx hb zd_Terms_readOpenings_69 hl (k := 1) rfl ez5.symm (by decide) rfl (fun ls hl => ?_)
  have hl : lv_has ls 2 [(1, .int z5), (0, .ref (ad 4))] := hl
  refine lv_goto (tgt := 2) hx hb zd_Terms_readOpenings_72 (by decide) ?_
  exact kh2 z5 I4 J4 B4 D4 ls H locs hok (lv_sub hl [1, 0] rfl) hw
set_option maxHeartbeats 8000000 in
set_option maxRecDepth 100000 in
theorem wB_Terms_readOpenings_A_2 {p : Program} {l : Launch} {e : Env} {s : State} {m : MethodId} {below : List Frame} {meth : Method} {c : Code} {A : Nat → Prop} (G : va_G) (K : Nat → ClassId) (ad : Nat → Nat) (sv : Value) (Post : (Nat → Int32) → (Nat → Int64) → (Nat → Nat → Int32) → (Nat → Nat → Int64) → Prop) (PX : String → (Nat → Int32) → (Nat → Int64) → (Nat → Nat → Int32) → (Nat → Nat → Int64) → Prop) (C : zCy p l s m ([.ref (ad 4)] : List Value).toArray meth c A G K prog_9_method_4_code none 2 "LassoFinder$Terms") (K2 : Int32 → (Nat → Int32) → (Nat → Int64) → (Nat → Nat → Int32) → (Nat → Nat → Int64) → Prop) (kh2 : ∀ (x1 : Int32) (I : Nat → Int32) (J : Nat → Int64) (B : Nat → Nat → Int32) (D : Nat → Nat → Int64) (ls : Array Slot) (H : Heap) (locs : List Loc), K2 x1 I J B D → lv_has ls 2 [(0, .ref (ad 4)), (1, .int x1)] → zW G A s.heap (wX ad K sv I J B D) H locs → W p l e { frames := 7, cells := 1, slots := 6, locals := 101 } s m ([.ref (ad 4)] : List Value).toArray below meth c H locs 0 0 (zyMQ below (va_Qv (fun u : zS => Post u.1 u.2.1 u.2.2.1 u.2.2.2) (fun u t => zPost G K A (wX ad K sv u.1 u.2.1 u.2.2.1 u.2.2.2) t) A) (zYC (fun E (u : zS) => PX E u.1 u.2.1 u.2.2.1 u.2.2.2) (fun u => wX ad K sv u.1 u.2.1 u.2.2.1 u.2.2.2) G K A) ([.ref (ad 4)] : List Value).toArray s 1 6 A) (F0 m 2 ls [])) : ∀ (x1 : Int32) (I : Nat → Int32) (J : Nat → Int64) (B : Nat → Nat → Int32) (D : Nat → Nat → Int64) (ls : Array Slot) (H : Heap) (locs : List Loc), wb_Terms_readOpenings_A_2  K2 Post PX x1 I J B D → lv_has ls 2 [(0, .ref (ad 4)), (1, .int x1)] → zW G A s.heap (wX ad K sv I J B D) H locs → W p l e { frames := 7, cells := 1, slots := 6, locals := 101 } s m ([.ref (ad 4)] : List Value).toArray below meth c H locs 0 0 (zyMQ below (va_Qv (fun u : zS => Post u.1 u.2.1 u.2.2.1 u.2.2.2) (fun u t => zPost G K A (wX ad K sv u.1 u.2.1 u.2.2.1 u.2.2.2) t) A) (zYC (fun E (u : zS) => PX E u.1 u.2.1 u.2.2.1 u.2.2.2) (fun u => wX ad K sv u.1 u.2.1 u.2.2.1 u.2.2.2) G K A) ([.ref (ad 4)] : List Value).toArray s 1 6 A) (F0 m 2 ls []) := by
  obtain ⟨hx, hb, hr, hml, hts, hown, hlocks, hA, hK, hT, hnt, hlt⟩ := id C
  intro x1 I J B D ls H locs hok hl hw
  unfold wb_Terms_readOpenings_A_2 at hok
  refine lv_iload_n hx hb zd_Terms_readOpenings_2 rfl (lv_at hl 1 rfl) ?_
  refine lv_sipush (v := 240) hx hb zd_Terms_readOpenings_3 (by decide) ?_
  refine lv_icmp_ge (tgt := 75) hx hb zd_Terms_readOpenings_6 (by decide) (fun hc6 => ?_) (fun hc6 => ?_)
  · have hok := hok.1 hc6
    exact wJ_Terms_readOpenings_A_75 G K ad sv  Post PX C I J B D ls H locs hok (lv_sub hl [] rfl) hw
  · have hok := hok.2 hc6
    refine lv_aload_n hx hb zd_Terms_readOpenings_9 rfl (lv_at hl 0 rfl) ?_
    refine z_get (v := .ref (ad 1)) hx hb hts hown hK hw zZ8 4 wX_g4 0 (by decide) zn_381 rfl zd_Terms_readOpenings_10 ?_
    refine z_calli (w1 := fun (u : zS) => wX ad K sv u.1 u.2.1 u.2.2.1 u.2.2.2) (wr := []) (z_runV (q0 := 1) (wc := (wX ad K sv I J B D)) (As := []) (rest := []) ⟨hx, hb, hml, hown, hts⟩ (w_Text_ahead l G K ad sv I J B D  _ H.size hok) zf_Text_ahead zn_340 ⟨Nat.le_of_ble_eq_true rfl, Nat.le_of_ble_eq_true rfl⟩ hK hw (List.range 65) wX_all wX_nd wX_g1 rfl rfl hl.1 rfl (Nat.le_of_ble_eq_true rfl) zd_Terms_readOpenings_13 ⟨Nat.le_of_ble_eq_true rfl, Nat.le_of_ble_eq_true rfl⟩) hw hA (List.range 65) [] wX_all rfl (by decide) (fun i hi => by cases hi) (fun r7 u H locs hok hw => ?_)
    obtain ⟨I7, J7, B7, D7⟩ := u
    dsimp only at hok
    have hw : zW G A s.heap (wX ad K sv I7 J7 B7 D7) H locs := hw
    refine lv_bipush (v := 40) hx hb zd_Terms_readOpenings_16 (by decide) ?_
    refine lv_icmp_ne (tgt := 75) hx hb zd_Terms_readOpenings_18 (by decide) (fun hc8 => ?_) (fun hc8 => ?_)
    · have hok := hok.1 hc8
      exact wJ_Terms_readOpenings_A_75 G K ad sv  Post PX C I7 J7 B7 D7 ls H locs hok (lv_sub hl [] rfl) hw
    · have hok := hok.2 hc8
      refine lv_aload_n hx hb zd_Terms_readOpenings_21 rfl (lv_at hl 0 rfl) ?_
      refine z_get (v := .int (I7 14)) hx hb hts hown hK hw zZ8 4 wX_g4 8 (by decide) zn_380 rfl zd_Terms_readOpenings_22 ?_
      refine lv_iconst (v := 4) hx hb zd_Terms_readOpenings_25 (by decide) ?_
      refine lv_icmp_ne (tgt := 36) hx hb zd_Terms_readOpenings_26 (by decide) (fun hc9 => ?_) (fun hc9 => ?_)
      · have hok := hok.1 hc9
        exact wJ_Terms_readOpenings_A_36 G K ad sv  Post PX C K2 kh2 x1 I7 J7 B7 D7 ls H locs hok (lv_sub hl [0, 1] rfl) hw
      · have hok := hok.2 hc9
        refine lv_aload_n hx hb zd_Terms_readOpenings_29 rfl (lv_at hl 0 rfl) ?_
        refine z_get (v := .ref (ad 1)) hx hb hts hown hK hw zZ8 4 wX_g4 0 (by decide) zn_381 rfl zd_Terms_readOpenings_30 ?_
        refine z_yV (q0 := 1) (wc := (wX ad K sv I7 J7 B7 D7)) (wr := []) (w1 := fun (u : zS) => wX ad K sv u.1 u.2.1 u.2.2.1 u.2.2.2) (As := []) (rest := []) ⟨hx, hb, hml, hown, hts⟩ (w_Text_refuse l hlt G K ad sv I7 J7 B7 D7  _ _ H.size hok) zf_Text_refuse zn_341 ⟨Nat.le_of_ble_eq_true rfl, Nat.le_of_ble_eq_true rfl⟩ hK hT hw hA (List.range 65) [] wX_all rfl wX_nd (by decide) (fun i hi => by cases hi) wX_g1 rfl rfl hl.1 rfl (Nat.le_of_ble_eq_true rfl) zd_Terms_readOpenings_33 ⟨Nat.le_of_ble_eq_true rfl, Nat.le_of_ble_eq_true rfl⟩ (fun v st9 t9 L9 h0 hq hL => ?_) (fun E ce q9 u H locs hu hw hce hcv hcl => z_yout (u := u) hnt hlocks hce hcv hcl hw (List.range 65) wX_all wX_nd hu (Nat.le_of_ble_eq_true rfl) (Nat.le_of_ble_eq_true rfl))
        obtain ⟨⟨u, hv9, hok, hB9⟩, hF9⟩ := hq
        cases hv9
        have hw := z_back (wr := []) hw hA (List.range 65) [] wX_all rfl (by decide) (fun i hi => by cases hi) h0 hL hB9 hF9
        obtain ⟨I10, J10, B10, D10⟩ := u
        dsimp only at hok
        generalize t9.heap = H at hw ⊢
        generalize locs ++ L9 = locs at hw ⊢
        have hw : zW G A s.heap (wX ad K sv I10 J10 B10 D10) H locs := hw
        refine W.eq (g2 := F0 m 36 ls []) rfl ?_
        exact wJ_Terms_readOpenings_A_36 G K ad sv  Post PX C K2 kh2 x1 I10 J10 B10 D10 ls H locs hok (lv_sub hl [0, 1] rfl) hw
theorem wL_Terms_readOpenings_A_2 {p : Program} {l : Launch} {e : Env} {s : State} {m : MethodId} {below : List Frame} {meth : Method} {c : Code} {A : Nat → Prop} (G : va_G) (K : Nat → ClassId) (ad : Nat → Nat) (sv : Value) (Post : (Nat → Int32) → (Nat → Int64) → (Nat → Nat → Int32) → (Nat → Nat → Int64) → Prop) (PX : String → (Nat → Int32) → (Nat → Int64) → (Nat → Nat → Int32) → (Nat → Nat → Int64) → Prop) (C : zCy p l s m ([.ref (ad 4)] : List Value).toArray meth c A G K prog_9_method_4_code none 2 "LassoFinder$Terms") : ∀ (n : Nat) (x1 : Int32) (I : Nat → Int32) (J : Nat → Int64) (B : Nat → Nat → Int32) (D : Nat → Nat → Int64) (ls : Array Slot) (H : Heap) (locs : List Loc), wl_Terms_readOpenings_A_2  Post PX n x1 I J B D → lv_has ls 2 [(0, .ref (ad 4)), (1, .int x1)] → zW G A s.heap (wX ad K sv I J B D) H locs → W p l e { frames := 7, cells := 1, slots := 6, locals := 101 } s m ([.ref (ad 4)] : List Value).toArray below meth c H locs 0 0 (zyMQ below (va_Qv (fun u : zS => Post u.1 u.2.1 u.2.2.1 u.2.2.2) (fun u t => zPost G K A (wX ad K sv u.1 u.2.1 u.2.2.1 u.2.2.2) t) A) (zYC (fun E (u : zS) => PX E u.1 u.2.1 u.2.2.1 u.2.2.2) (fun u => wX ad K sv u.1 u.2.1 u.2.2.1 u.2.2.2) G K A) ([.ref (ad 4)] : List Value).toArray s 1 6 A) (F0 m 2 ls []) := by
  intro n
  induction n with
  | zero => intro x1 I J B D ls H locs hok; exact hok.elim
  | succ n ih => exact wB_Terms_readOpenings_A_2 G K ad sv  Post PX C (wl_Terms_readOpenings_A_2  Post PX n) ih
set_option maxHeartbeats 8000000 in
set_option maxRecDepth 100000 in
theorem w_Terms_readOpenings_A (l : Launch) (hlt : l.stackTraces = false) (G : va_G) (K : Nat → ClassId) (ad : Nat → Nat) (sv : Value) (I : Nat → Int32) (J : Nat → Int64) (B : Nat → Nat → Int32) (D : Nat → Nat → Int64) (Post : (Nat → Int32) → (Nat → Int64) → (Nat → Nat → Int32) → (Nat → Nat → Int64) → Prop) (PX : String → (Nat → Int32) → (Nat → Int64) → (Nat → Nat → Int32) → (Nat → Nat → Int64) → Prop) (sz : Nat) (hok : wp_Terms_readOpenings_A I J B D  Post PX) : zyMet l zy_Terms_readOpenings (Cond.code zy_Terms_readOpenings prog_9_method_4_code 2 none :: zTB) { frames := 7, cells := 1, slots := 6, locals := 101 } (va_Pc [.ref (ad 4)] (zPreX G K (wX ad K sv I J B D) sz)) (va_Qv (fun u : zS => Post u.1 u.2.1 u.2.2.1 u.2.2.2) (fun u t => zPost G K (va_A (wX ad K sv I J B D) sz) (wX ad K sv u.1 u.2.1 u.2.2.1 u.2.2.2) t) (va_A (wX ad K sv I J B D) sz)) (zYC (fun E (u : zS) => PX E u.1 u.2.1 u.2.2.1 u.2.2.2) (fun u => wX ad K sv u.1 u.2.1 u.2.2.1 u.2.2.2) G K (va_A (wX ad K sv I J B D) sz)) 1 6 (va_A (wX ad K sv I J B D) sz) := by
  refine zMetY (y := zy_Terms_readOpenings) (av := [.ref (ad 4)]) (maxL := 2) (cc := prog_9_method_4_code) (ret := none) (W0 := (wX ad K sv I J B D)) (sz := sz) (G := G) (K := K) (wt := zTB) (mc := 1) (ms := 6) (Qf := fun A => va_Qv (fun u : zS => Post u.1 u.2.1 u.2.2.1 u.2.2.2) (fun u t => zPost G K A (wX ad K sv u.1 u.2.1 u.2.2.1 u.2.2.2) t) A) (Xf := fun A => (zYC (fun E (u : zS) => PX E u.1 u.2.1 u.2.2.1 u.2.2.2) (fun u => wX ad K sv u.1 u.2.1 u.2.2.1 u.2.2.2) G K A)) (by decide) (Nat.le_of_ble_eq_true rfl) ?_
  intro p e s m below meth c ls A hx hb hr hml hts hown hlocks hin hA hK H locs hw hsz hl hT hnt
  clear hsz
  have hown : s.vm.findClass "LassoFinder$Terms" = some m.cls := hown
  have C : zCy p l s m ([.ref (ad 4)] : List Value).toArray meth c A G K prog_9_method_4_code none 2 "LassoFinder$Terms" := ⟨hx, hb, hr, hml, hts, hown, hlocks, hA, hK, hT, hnt, hlt⟩
  have hl : lv_has ls 2 [(0, .ref (ad 4))] := hl
  have hw : zW G A s.heap (wX ad K sv I J B D) H locs := hw
  unfold wp_Terms_readOpenings_A at hok
  refine lv_iconst (v := 0) hx hb zd_Terms_readOpenings_0 (by decide) ?_
  refine lv_istore_n hx hb zd_Terms_readOpenings_1 rfl hl (by decide) rfl (fun ls hl => ?_)
  have hl : lv_has ls 2 [(1, .int 0), (0, .ref (ad 4))] := hl
  obtain ⟨n9, hok⟩ := hok
  exact wL_Terms_readOpenings_A_2 G K ad sv  Post PX C n9 0 I J B D ls H locs hok (lv_sub hl [1, 0] rfl) hw
def wp_Terms_putOff_B (I : Nat → Int32) (J : Nat → Int64) (B : Nat → Nat → Int32) (D : Nat → Nat → Int64) (a0 : Int32) (Post : (Nat → Int32) → (Nat → Int64) → (Nat → Nat → Int32) → (Nat → Nat → Int64) → Prop) : Prop :=
  vp_in (I 26) 20 ∧ ∀ z1 : Int32, z1 = ((I 26) + 1) → Post (upd I 26 z1) J (va_up B 44 (upd (B 44) (I 26).toNatClampNeg a0)) D
set_option maxHeartbeats 8000000 in
set_option maxRecDepth 100000 in
theorem w_Terms_putOff_B (l : Launch) (G : va_G) (K : Nat → ClassId) (ad : Nat → Nat) (sv : Value) (I : Nat → Int32) (J : Nat → Int64) (B : Nat → Nat → Int32) (D : Nat → Nat → Int64) (a0 : Int32) (Post : (Nat → Int32) → (Nat → Int64) → (Nat → Nat → Int32) → (Nat → Nat → Int64) → Prop) (sz : Nat) (hok : wp_Terms_putOff_B I J B D a0 Post) : Met l zy_Terms_putOff (Cond.code zy_Terms_putOff prog_9_method_9_code 2 none :: zTB) { frames := 0, cells := 0, slots := 0, locals := 0 } (va_Pc [.ref (ad 10), .int a0] (zPre G K (wX ad K sv I J B D) sz)) (va_Qv (fun u : zS => Post u.1 u.2.1 u.2.2.1 u.2.2.2) (fun u t => zPost G K (va_A (wX ad K sv I J B D) sz) (wX ad K sv u.1 u.2.1 u.2.2.1 u.2.2.2) t) (va_A (wX ad K sv I J B D) sz)) 0 0 (va_A (wX ad K sv I J B D) sz) := by
  refine zMet (y := zy_Terms_putOff) (av := [.ref (ad 10), .int a0]) (maxL := 2) (cc := prog_9_method_9_code) (ret := none) (W0 := (wX ad K sv I J B D)) (sz := sz) (G := G) (K := K) (wt := zTB) (mc := 0) (ms := 0) (Qf := fun A => va_Qv (fun u : zS => Post u.1 u.2.1 u.2.2.1 u.2.2.2) (fun u t => zPost G K A (wX ad K sv u.1 u.2.1 u.2.2.1 u.2.2.2) t) A) (by decide) (Nat.le_of_ble_eq_true rfl) ?_
  intro p e s m below meth c ls A hx hb hr hml hts hown hlocks hin hA hK H locs hw hsz hl
  clear hsz
  have hown : s.vm.findClass "LassoFinder$Terms" = some m.cls := hown
  have C : zCx p s m ([.ref (ad 10), .int a0] : List Value).toArray meth c A G K prog_9_method_9_code none 2 "LassoFinder$Terms" := ⟨hx, hb, hr, hml, hts, hown, hlocks, hA, hK⟩
  have hl : lv_has ls 2 [(0, .ref (ad 10)), (1, .int a0)] := hl
  have hw : zW G A s.heap (wX ad K sv I J B D) H locs := hw
  unfold wp_Terms_putOff_B at hok
  refine lv_aload_n hx hb zd_Terms_putOff_0 rfl (lv_at hl 0 rfl) ?_
  refine z_get (v := .ref (ad 59)) hx hb hts hown hK hw zZ8 10 wX_g10 4 (by decide) zn_253 rfl zd_Terms_putOff_1 ?_
  refine lv_aload_n hx hb zd_Terms_putOff_4 rfl (lv_at hl 0 rfl) ?_
  refine z_get (v := .int (I 26)) hx hb hts hown hK hw zZ8 10 wX_g10 5 (by decide) zn_382 rfl zd_Terms_putOff_5 ?_
  refine lv_iload_n hx hb zd_Terms_putOff_8 rfl (lv_at hl 1 rfl) ?_
  refine va_iast (f := (B 44)) hx hb hK hw.1 hw.2.1 hw.2.2 59 0 wX_a59 rfl hok.1 zd_Terms_putOff_9 (fun H locs w91 w92 w93 => ?_)
  have hok := hok.2
  have hw := wX_t59 ⟨w91, w92, w93⟩
  refine lv_aload_n hx hb zd_Terms_putOff_10 rfl (lv_at hl 0 rfl) ?_
  refine lv_dup hx hb zd_Terms_putOff_11 rfl ?_
  refine z_get (v := .int (I 26)) hx hb hts hown hK hw zZ8 10 wX_g10 5 (by decide) zn_382 rfl zd_Terms_putOff_12 ?_
  refine lv_iconst (v := 1) hx hb zd_Terms_putOff_15 (by decide) ?_
  refine lv_iadd hx hb zd_Terms_putOff_16 ?_
  refine lv_topi (fun z1 ez1 => ?_)
  have hok := hok z1 ez1
  refine z_put (v := .int z1) hx hb hts hown hK hw zZ8 10 wX_g10 5 (by decide) zn_382 rfl rfl rfl (Nat.le_of_ble_eq_true rfl) zd_Terms_putOff_17 (fun H locs hw => ?_)
  have hw := wX_sI26 hw
  exact (z_vret (u := ((upd I 26 z1), J, (va_up B 44 (upd (B 44) (I 26).toNatClampNeg a0)), D)) hx hb hr hlocks hw (List.range 65) wX_all wX_nd hok (Nat.le_of_ble_eq_true rfl) (Nat.le_of_ble_eq_true rfl) zd_Terms_putOff_20)
def wc_Terms_readOpenings_B_75 (Post : (Nat → Int32) → (Nat → Int64) → (Nat → Nat → Int32) → (Nat → Nat → Int64) → Prop) (PX : String → (Nat → Int32) → (Nat → Int64) → (Nat → Nat → Int32) → (Nat → Nat → Int64) → Prop)  (I : Nat → Int32) (J : Nat → Int64) (B : Nat → Nat → Int32) (D : Nat → Nat → Int64) : Prop :=
  Post I J B D
def wc_Terms_readOpenings_B_36 (K2 : Int32 → (Nat → Int32) → (Nat → Int64) → (Nat → Nat → Int32) → (Nat → Nat → Int64) → Prop) (Post : (Nat → Int32) → (Nat → Int64) → (Nat → Nat → Int32) → (Nat → Nat → Int64) → Prop) (PX : String → (Nat → Int32) → (Nat → Int64) → (Nat → Nat → Int32) → (Nat → Nat → Int64) → Prop) (x1 : Int32) (I : Nat → Int32) (J : Nat → Int64) (B : Nat → Nat → Int32) (D : Nat → Nat → Int64) : Prop :=
  wp_Text_skip I J B D  (fun I1 J1 B1 D1 => ∀ z2 : Int32, z2 = ((I1 28) + 1) → ∀ z3 : Int32, z3 = ((I1 29) <<< (1 &&& 31)) → wp_Terms_putOff_B (upd (upd I1 28 z2) 29 z3) J1 B1 D1 21 (fun I4 J4 B4 D4 => ∀ z5 : Int32, z5 = (x1 + 1) → K2 z5 I4 J4 B4 D4))
def wb_Terms_readOpenings_B_2 (K2 : Int32 → (Nat → Int32) → (Nat → Int64) → (Nat → Nat → Int32) → (Nat → Nat → Int64) → Prop) (Post : (Nat → Int32) → (Nat → Int64) → (Nat → Nat → Int32) → (Nat → Nat → Int64) → Prop) (PX : String → (Nat → Int32) → (Nat → Int64) → (Nat → Nat → Int32) → (Nat → Nat → Int64) → Prop) (x1 : Int32) (I : Nat → Int32) (J : Nat → Int64) (B : Nat → Nat → Int32) (D : Nat → Nat → Int64) : Prop :=
  (((240 : Int32) ≤ x1 → wc_Terms_readOpenings_B_75  Post PX I J B D) ∧ (¬ (240 : Int32) ≤ x1 → wp_Text_ahead I J B D  (fun r7 I7 J7 B7 D7 => ((¬ r7 = 40 → wc_Terms_readOpenings_B_75  Post PX I7 J7 B7 D7) ∧ (r7 = 40 → ((¬ (I7 28) = 4 → wc_Terms_readOpenings_B_36  K2 Post PX x1 I7 J7 B7 D7) ∧ ((I7 28) = 4 → wp_Text_refuse I7 J7 B7 D7  (fun I10 J10 B10 D10 => wc_Terms_readOpenings_B_36  K2 Post PX x1 I10 J10 B10 D10) PX)))))))
def wl_Terms_readOpenings_B_2 (Post : (Nat → Int32) → (Nat → Int64) → (Nat → Nat → Int32) → (Nat → Nat → Int64) → Prop) (PX : String → (Nat → Int32) → (Nat → Int64) → (Nat → Nat → Int32) → (Nat → Nat → Int64) → Prop) (n : Nat) : Int32 → (Nat → Int32) → (Nat → Int64) → (Nat → Nat → Int32) → (Nat → Nat → Int64) → Prop := Nat.rec (fun _ _ _ _ _ => False) (fun _ r => wb_Terms_readOpenings_B_2  r Post PX) n
def wp_Terms_readOpenings_B (I : Nat → Int32) (J : Nat → Int64) (B : Nat → Nat → Int32) (D : Nat → Nat → Int64) (Post : (Nat → Int32) → (Nat → Int64) → (Nat → Nat → Int32) → (Nat → Nat → Int64) → Prop) (PX : String → (Nat → Int32) → (Nat → Int64) → (Nat → Nat → Int32) → (Nat → Nat → Int64) → Prop) : Prop :=
  ∃ n : Nat, wl_Terms_readOpenings_B_2  Post PX n 0 I J B D
set_option maxHeartbeats 8000000 in
set_option maxRecDepth 100000 in
theorem wJ_Terms_readOpenings_B_75 {p : Program} {l : Launch} {e : Env} {s : State} {m : MethodId} {below : List Frame} {meth : Method} {c : Code} {A : Nat → Prop} (G : va_G) (K : Nat → ClassId) (ad : Nat → Nat) (sv : Value) (Post : (Nat → Int32) → (Nat → Int64) → (Nat → Nat → Int32) → (Nat → Nat → Int64) → Prop) (PX : String → (Nat → Int32) → (Nat → Int64) → (Nat → Nat → Int32) → (Nat → Nat → Int64) → Prop) (C : zCy p l s m ([.ref (ad 10)] : List Value).toArray meth c A G K prog_9_method_4_code none 2 "LassoFinder$Terms") : ∀  (I : Nat → Int32) (J : Nat → Int64) (B : Nat → Nat → Int32) (D : Nat → Nat → Int64) (ls : Array Slot) (H : Heap) (locs : List Loc), wc_Terms_readOpenings_B_75  Post PX  I J B D → lv_has ls 2 [] → zW G A s.heap (wX ad K sv I J B D) H locs → W p l e { frames := 7, cells := 1, slots := 6, locals := 101 } s m ([.ref (ad 10)] : List Value).toArray below meth c H locs 0 0 (zyMQ below (va_Qv (fun u : zS => Post u.1 u.2.1 u.2.2.1 u.2.2.2) (fun u t => zPost G K A (wX ad K sv u.1 u.2.1 u.2.2.1 u.2.2.2) t) A) (zYC (fun E (u : zS) => PX E u.1 u.2.1 u.2.2.1 u.2.2.2) (fun u => wX ad K sv u.1 u.2.1 u.2.2.1 u.2.2.2) G K A) ([.ref (ad 10)] : List Value).toArray s 1 6 A) (F0 m 75 ls []) := by
  obtain ⟨hx, hb, hr, hml, hts, hown, hlocks, hA, hK, hT, hnt, hlt⟩ := id C
  intro  I J B D ls H locs hok hl hw
  unfold wc_Terms_readOpenings_B_75 at hok
  exact zy_ret (z_vret (u := (I, J, B, D)) hx hb hr hlocks hw (List.range 65) wX_all wX_nd hok (Nat.le_of_ble_eq_true rfl) (Nat.le_of_ble_eq_true rfl) zd_Terms_readOpenings_75)
set_option maxHeartbeats 8000000 in
set_option maxRecDepth 100000 in
theorem wJ_Terms_readOpenings_B_36 {p : Program} {l : Launch} {e : Env} {s : State} {m : MethodId} {below : List Frame} {meth : Method} {c : Code} {A : Nat → Prop} (G : va_G) (K : Nat → ClassId) (ad : Nat → Nat) (sv : Value) (Post : (Nat → Int32) → (Nat → Int64) → (Nat → Nat → Int32) → (Nat → Nat → Int64) → Prop) (PX : String → (Nat → Int32) → (Nat → Int64) → (Nat → Nat → Int32) → (Nat → Nat → Int64) → Prop) (C : zCy p l s m ([.ref (ad 10)] : List Value).toArray meth c A G K prog_9_method_4_code none 2 "LassoFinder$Terms") (K2 : Int32 → (Nat → Int32) → (Nat → Int64) → (Nat → Nat → Int32) → (Nat → Nat → Int64) → Prop) (kh2 : ∀ (x1 : Int32) (I : Nat → Int32) (J : Nat → Int64) (B : Nat → Nat → Int32) (D : Nat → Nat → Int64) (ls : Array Slot) (H : Heap) (locs : List Loc), K2 x1 I J B D → lv_has ls 2 [(0, .ref (ad 10)), (1, .int x1)] → zW G A s.heap (wX ad K sv I J B D) H locs → W p l e { frames := 7, cells := 1, slots := 6, locals := 101 } s m ([.ref (ad 10)] : List Value).toArray below meth c H locs 0 0 (zyMQ below (va_Qv (fun u : zS => Post u.1 u.2.1 u.2.2.1 u.2.2.2) (fun u t => zPost G K A (wX ad K sv u.1 u.2.1 u.2.2.1 u.2.2.2) t) A) (zYC (fun E (u : zS) => PX E u.1 u.2.1 u.2.2.1 u.2.2.2) (fun u => wX ad K sv u.1 u.2.1 u.2.2.1 u.2.2.2) G K A) ([.ref (ad 10)] : List Value).toArray s 1 6 A) (F0 m 2 ls [])) : ∀ (x1 : Int32) (I : Nat → Int32) (J : Nat → Int64) (B : Nat → Nat → Int32) (D : Nat → Nat → Int64) (ls : Array Slot) (H : Heap) (locs : List Loc), wc_Terms_readOpenings_B_36  K2 Post PX x1 I J B D → lv_has ls 2 [(0, .ref (ad 10)), (1, .int x1)] → zW G A s.heap (wX ad K sv I J B D) H locs → W p l e { frames := 7, cells := 1, slots := 6, locals := 101 } s m ([.ref (ad 10)] : List Value).toArray below meth c H locs 0 0 (zyMQ below (va_Qv (fun u : zS => Post u.1 u.2.1 u.2.2.1 u.2.2.2) (fun u t => zPost G K A (wX ad K sv u.1 u.2.1 u.2.2.1 u.2.2.2) t) A) (zYC (fun E (u : zS) => PX E u.1 u.2.1 u.2.2.1 u.2.2.2) (fun u => wX ad K sv u.1 u.2.1 u.2.2.1 u.2.2.2) G K A) ([.ref (ad 10)] : List Value).toArray s 1 6 A) (F0 m 36 ls []) := by
  obtain ⟨hx, hb, hr, hml, hts, hown, hlocks, hA, hK, hT, hnt, hlt⟩ := id C
  intro x1 I J B D ls H locs hok hl hw
  unfold wc_Terms_readOpenings_B_36 at hok
  refine lv_aload_n hx hb zd_Terms_readOpenings_36 rfl (lv_at hl 0 rfl) ?_
  refine z_get (v := .ref (ad 1)) hx hb hts hown hK hw zZ8 10 wX_g10 0 (by decide) zn_381 rfl zd_Terms_readOpenings_37 ?_
  refine z_callv (w1 := fun (u : zS) => wX ad K sv u.1 u.2.1 u.2.2.1 u.2.2.2) (wr := []) (z_runV (q0 := 1) (wc := (wX ad K sv I J B D)) (As := []) (rest := []) ⟨hx, hb, hml, hown, hts⟩ (w_Text_skip l G K ad sv I J B D  _ H.size hok) zf_Text_skip zn_342 ⟨Nat.le_of_ble_eq_true rfl, Nat.le_of_ble_eq_true rfl⟩ hK hw (List.range 65) wX_all wX_nd wX_g1 rfl rfl hl.1 rfl (Nat.le_of_ble_eq_true rfl) zd_Terms_readOpenings_40 ⟨Nat.le_of_ble_eq_true rfl, Nat.le_of_ble_eq_true rfl⟩) hw hA (List.range 65) [] wX_all rfl (by decide) (fun i hi => by cases hi) (fun u H locs hok hw => ?_)
  obtain ⟨I1, J1, B1, D1⟩ := u
  dsimp only at hok
  have hw : zW G A s.heap (wX ad K sv I1 J1 B1 D1) H locs := hw
  refine lv_aload_n hx hb zd_Terms_readOpenings_43 rfl (lv_at hl 0 rfl) ?_
  refine lv_dup hx hb zd_Terms_readOpenings_44 rfl ?_
  refine z_get (v := .int (I1 28)) hx hb hts hown hK hw zZ8 10 wX_g10 8 (by decide) zn_380 rfl zd_Terms_readOpenings_45 ?_
  refine lv_iconst (v := 1) hx hb zd_Terms_readOpenings_48 (by decide) ?_
  refine lv_iadd hx hb zd_Terms_readOpenings_49 ?_
  refine lv_topi (fun z2 ez2 => ?_)
  have hok := hok z2 ez2
  refine z_put (v := .int z2) hx hb hts hown hK hw zZ8 10 wX_g10 8 (by decide) zn_380 rfl rfl rfl (Nat.le_of_ble_eq_true rfl) zd_Terms_readOpenings_50 (fun H locs hw => ?_)
  have hw := wX_sI28 hw
  refine lv_aload_n hx hb zd_Terms_readOpenings_53 rfl (lv_at hl 0 rfl) ?_
  refine lv_dup hx hb zd_Terms_readOpenings_54 rfl ?_
  refine z_get (v := .int (I1 29)) hx hb hts hown hK hw zZ8 10 wX_g10 9 (by decide) zn_391 rfl zd_Terms_readOpenings_55 ?_
  refine lv_iconst (v := 1) hx hb zd_Terms_readOpenings_58 (by decide) ?_
  refine lv_ishl hx hb zd_Terms_readOpenings_59 ?_
  refine lv_topi (fun z3 ez3 => ?_)
  have hok := hok z3 ez3
  refine z_put (v := .int z3) hx hb hts hown hK hw zZ8 10 wX_g10 9 (by decide) zn_391 rfl rfl rfl (Nat.le_of_ble_eq_true rfl) zd_Terms_readOpenings_60 (fun H locs hw => ?_)
  have hw := wX_sI29 hw
  refine lv_aload_n hx hb zd_Terms_readOpenings_63 rfl (lv_at hl 0 rfl) ?_
  refine lv_bipush (v := 21) hx hb zd_Terms_readOpenings_64 (by decide) ?_
  refine z_callv (w1 := fun (u : zS) => wX ad K sv u.1 u.2.1 u.2.2.1 u.2.2.2) (wr := []) (z_runV (q0 := 10) (wc := (wX ad K sv (upd (upd I1 28 z2) 29 z3) J1 B1 D1)) (As := [.int 21]) (rest := []) ⟨hx, hb, hml, hown, hts⟩ (w_Terms_putOff_B l G K ad sv (upd (upd I1 28 z2) 29 z3) J1 B1 D1 21 _ H.size hok) zf_Terms_putOff zn_343 ⟨Nat.le_of_ble_eq_true rfl, Nat.le_of_ble_eq_true rfl⟩ hK hw (List.range 65) wX_all wX_nd wX_g10 rfl rfl hl.1 rfl (Nat.le_of_ble_eq_true rfl) zd_Terms_readOpenings_66 ⟨Nat.le_of_ble_eq_true rfl, Nat.le_of_ble_eq_true rfl⟩) hw hA (List.range 65) [] wX_all rfl (by decide) (fun i hi => by cases hi) (fun u H locs hok hw => ?_)
  obtain ⟨I4, J4, B4, D4⟩ := u
  dsimp only at hok
  have hw : zW G A s.heap (wX ad K sv I4 J4 B4 D4) H locs := hw
  obtain ⟨z5, ez5⟩ : ∃ z : Int32, z = (x1 + 1) := ⟨_, rfl⟩
  have hok := hok z5 ez5
  refine lv_iinc (v := z5) hx hb zd_Terms_readOpenings_69 hl (k := 1) rfl ez5.symm (by decide) rfl (fun ls hl => ?_)
  have hl : lv_has ls 2 [(1, .int z5), (0, .ref (ad 10))] := hl
  refine lv_goto (tgt := 2) hx hb zd_Terms_readOpenings_72 (by decide) ?_
  exact kh2 z5 I4 J4 B4 D4 ls H locs hok (lv_sub hl [1, 0] rfl) hw
set_option maxHeartbeats 8000000 in
set_option maxRecDepth 100000 in
theorem wB_Terms_readOpenings_B_2 {p : Program} {l : Launch} {e : Env} {s : State} {m : MethodId} {below : List Frame} {meth : Method} {c : Code} {A : Nat → Prop} (G : va_G) (K : Nat → ClassId) (ad : Nat → Nat) (sv : Value) (Post : (Nat → Int32) → (Nat → Int64) → (Nat → Nat → Int32) → (Nat → Nat → Int64) → Prop) (PX : String → (Nat → Int32) → (Nat → Int64) → (Nat → Nat → Int32) → (Nat → Nat → Int64) → Prop) (C : zCy p l s m ([.ref (ad 10)] : List Value).toArray meth c A G K prog_9_method_4_code none 2 "LassoFinder$Terms") (K2 : Int32 → (Nat → Int32) → (Nat → Int64) → (Nat → Nat → Int32) → (Nat → Nat → Int64) → Prop) (kh2 : ∀ (x1 : Int32) (I : Nat → Int32) (J : Nat → Int64) (B : Nat → Nat → Int32) (D : Nat → Nat → Int64) (ls : Array Slot) (H : Heap) (locs : List Loc), K2 x1 I J B D → lv_has ls 2 [(0, .ref (ad 10)), (1, .int x1)] → zW G A s.heap (wX ad K sv I J B D) H locs → W p l e { frames := 7, cells := 1, slots := 6, locals := 101 } s m ([.ref (ad 10)] : List Value).toArray below meth c H locs 0 0 (zyMQ below (va_Qv (fun u : zS => Post u.1 u.2.1 u.2.2.1 u.2.2.2) (fun u t => zPost G K A (wX ad K sv u.1 u.2.1 u.2.2.1 u.2.2.2) t) A) (zYC (fun E (u : zS) => PX E u.1 u.2.1 u.2.2.1 u.2.2.2) (fun u => wX ad K sv u.1 u.2.1 u.2.2.1 u.2.2.2) G K A) ([.ref (ad 10)] : List Value).toArray s 1 6 A) (F0 m 2 ls [])) : ∀ (x1 : Int32) (I : Nat → Int32) (J : Nat → Int64) (B : Nat → Nat → Int32) (D : Nat → Nat → Int64) (ls : Array Slot) (H : Heap) (locs : List Loc), wb_Terms_readOpenings_B_2  K2 Post PX x1 I J B D → lv_has ls 2 [(0, .ref (ad 10)), (1, .int x1)] → zW G A s.heap (wX ad K sv I J B D) H locs → W p l e { frames := 7, cells := 1, slots := 6, locals := 101 } s m ([.ref (ad 10)] : List Value).toArray below meth c H locs 0 0 (zyMQ below (va_Qv (fun u : zS => Post u.1 u.2.1 u.2.2.1 u.2.2.2) (fun u t => zPost G K A (wX ad K sv u.1 u.2.1 u.2.2.1 u.2.2.2) t) A) (zYC (fun E (u : zS) => PX E u.1 u.2.1 u.2.2.1 u.2.2.2) (fun u => wX ad K sv u.1 u.2.1 u.2.2.1 u.2.2.2) G K A) ([.ref (ad 10)] : List Value).toArray s 1 6 A) (F0 m 2 ls []) := by
  obtain ⟨hx, hb, hr, hml, hts, hown, hlocks, hA, hK, hT, hnt, hlt⟩ := id C
  intro x1 I J B D ls H locs hok hl hw
  unfold wb_Terms_readOpenings_B_2 at hok
  refine lv_iload_n hx hb zd_Terms_readOpenings_2 rfl (lv_at hl 1 rfl) ?_
  refine lv_sipush (v := 240) hx hb zd_Terms_readOpenings_3 (by decide) ?_
  refine lv_icmp_ge (tgt := 75) hx hb zd_Terms_readOpenings_6 (by decide) (fun hc6 => ?_) (fun hc6 => ?_)
  · have hok := hok.1 hc6
    exact wJ_Terms_readOpenings_B_75 G K ad sv  Post PX C I J B D ls H locs hok (lv_sub hl [] rfl) hw
  · have hok := hok.2 hc6
    refine lv_aload_n hx hb zd_Terms_readOpenings_9 rfl (lv_at hl 0 rfl) ?_
    refine z_get (v := .ref (ad 1)) hx hb hts hown hK hw zZ8 10 wX_g10 0 (by decide) zn_381 rfl zd_Terms_readOpenings_10 ?_
    refine z_calli (w1 := fun (u : zS) => wX ad K sv u.1 u.2.1 u.2.2.1 u.2.2.2) (wr := []) (z_runV (q0 := 1) (wc := (wX ad K sv I J B D)) (As := []) (rest := []) ⟨hx, hb, hml, hown, hts⟩ (w_Text_ahead l G K ad sv I J B D  _ H.size hok) zf_Text_ahead zn_340 ⟨Nat.le_of_ble_eq_true rfl, Nat.le_of_ble_eq_true rfl⟩ hK hw (List.range 65) wX_all wX_nd wX_g1 rfl rfl hl.1 rfl (Nat.le_of_ble_eq_true rfl) zd_Terms_readOpenings_13 ⟨Nat.le_of_ble_eq_true rfl, Nat.le_of_ble_eq_true rfl⟩) hw hA (List.range 65) [] wX_all rfl (by decide) (fun i hi => by cases hi) (fun r7 u H locs hok hw => ?_)
    obtain ⟨I7, J7, B7, D7⟩ := u
    dsimp only at hok
    have hw : zW G A s.heap (wX ad K sv I7 J7 B7 D7) H locs := hw
    refine lv_bipush (v := 40) hx hb zd_Terms_readOpenings_16 (by decide) ?_
    refine lv_icmp_ne (tgt := 75) hx hb zd_Terms_readOpenings_18 (by decide) (fun hc8 => ?_) (fun hc8 => ?_)
    · have hok := hok.1 hc8
      exact wJ_Terms_readOpenings_B_75 G K ad sv  Post PX C I7 J7 B7 D7 ls H locs hok (lv_sub hl [] rfl) hw
    · have hok := hok.2 hc8
      refine lv_aload_n hx hb zd_Terms_readOpenings_21 rfl (lv_at hl 0 rfl) ?_
      refine z_get (v := .int (I7 28)) hx hb hts hown hK hw zZ8 10 wX_g10 8 (by decide) zn_380 rfl zd_Terms_readOpenings_22 ?_
      refine lv_iconst (v := 4) hx hb zd_Terms_readOpenings_25 (by decide) ?_
      refine lv_icmp_ne (tgt := 36) hx hb zd_Terms_readOpenings_26 (by decide) (fun hc9 => ?_) (fun hc9 => ?_)
      · have hok := hok.1 hc9
        exact wJ_Terms_readOpenings_B_36 G K ad sv  Post PX C K2 kh2 x1 I7 J7 B7 D7 ls H locs hok (lv_sub hl [0, 1] rfl) hw
      · have hok := hok.2 hc9
        refine lv_aload_n hx hb zd_Terms_readOpenings_29 rfl (lv_at hl 0 rfl) ?_
        refine z_get (v := .ref (ad 1)) hx hb hts hown hK hw zZ8 10 wX_g10 0 (by decide) zn_381 rfl zd_Terms_readOpenings_30 ?_
        refine z_yV (q0 := 1) (wc := (wX ad K sv I7 J7 B7 D7)) (wr := []) (w1 := fun (u : zS) => wX ad K sv u.1 u.2.1 u.2.2.1 u.2.2.2) (As := []) (rest := []) ⟨hx, hb, hml, hown, hts⟩ (w_Text_refuse l hlt G K ad sv I7 J7 B7 D7  _ _ H.size hok) zf_Text_refuse zn_341 ⟨Nat.le_of_ble_eq_true rfl, Nat.le_of_ble_eq_true rfl⟩ hK hT hw hA (List.range 65) [] wX_all rfl wX_nd (by decide) (fun i hi => by cases hi) wX_g1 rfl rfl hl.1 rfl (Nat.le_of_ble_eq_true rfl) zd_Terms_readOpenings_33 ⟨Nat.le_of_ble_eq_true rfl, Nat.le_of_ble_eq_true rfl⟩ (fun v st9 t9 L9 h0 hq hL => ?_) (fun E ce q9 u H locs hu hw hce hcv hcl => z_yout (u := u) hnt hlocks hce hcv hcl hw (List.range 65) wX_all wX_nd hu (Nat.le_of_ble_eq_true rfl) (Nat.le_of_ble_eq_true rfl))
        obtain ⟨⟨u, hv9, hok, hB9⟩, hF9⟩ := hq
        cases hv9
        have hw := z_back (wr := []) hw hA (List.range 65) [] wX_all rfl (by decide) (fun i hi => by cases hi) h0 hL hB9 hF9
        obtain ⟨I10, J10, B10, D10⟩ := u
        dsimp only at hok
        generalize t9.heap = H at hw ⊢
        generalize locs ++ L9 = locs at hw ⊢
        have hw : zW G A s.heap (wX ad K sv I10 J10 B10 D10) H locs := hw
        refine W.eq (g2 := F0 m 36 ls []) rfl ?_
        exact wJ_Terms_readOpenings_B_36 G K ad sv  Post PX C K2 kh2 x1 I10 J10 B10 D10 ls H locs hok (lv_sub hl [0, 1] rfl) hw
theorem wL_Terms_readOpenings_B_2 {p : Program} {l : Launch} {e : Env} {s : State} {m : MethodId} {below : List Frame} {meth : Method} {c : Code} {A : Nat → Prop} (G : va_G) (K : Nat → ClassId) (ad : Nat → Nat) (sv : Value) (Post : (Nat → Int32) → (Nat → Int64) → (Nat → Nat → Int32) → (Nat → Nat → Int64) → Prop) (PX : String → (Nat → Int32) → (Nat → Int64) → (Nat → Nat → Int32) → (Nat → Nat → Int64) → Prop) (C : zCy p l s m ([.ref (ad 10)] : List Value).toArray meth c A G K prog_9_method_4_code none 2 "LassoFinder$Terms") : ∀ (n : Nat) (x1 : Int32) (I : Nat → Int32) (J : Nat → Int64) (B : Nat → Nat → Int32) (D : Nat → Nat → Int64) (ls : Array Slot) (H : Heap) (locs : List Loc), wl_Terms_readOpenings_B_2  Post PX n x1 I J B D → lv_has ls 2 [(0, .ref (ad 10)), (1, .int x1)] → zW G A s.heap (wX ad K sv I J B D) H locs → W p l e { frames := 7, cells := 1, slots := 6, locals := 101 } s m ([.ref (ad 10)] : List Value).toArray below meth c H locs 0 0 (zyMQ below (va_Qv (fun u : zS => Post u.1 u.2.1 u.2.2.1 u.2.2.2) (fun u t => zPost G K A (wX ad K sv u.1 u.2.1 u.2.2.1 u.2.2.2) t) A) (zYC (fun E (u : zS) => PX E u.1 u.2.1 u.2.2.1 u.2.2.2) (fun u => wX ad K sv u.1 u.2.1 u.2.2.1 u.2.2.2) G K A) ([.ref (ad 10)] : List Value).toArray s 1 6 A) (F0 m 2 ls []) := by
  intro n
  induction n with
  | zero => intro x1 I J B D ls H locs hok; exact hok.elim
  | succ n ih => exact wB_Terms_readOpenings_B_2 G K ad sv  Post PX C (wl_Terms_readOpenings_B_2  Post PX n) ih
set_option maxHeartbeats 8000000 in
set_option maxRecDepth 100000 in
theorem w_Terms_readOpenings_B (l : Launch) (hlt : l.stackTraces = false) (G : va_G) (K : Nat → ClassId) (ad : Nat → Nat) (sv : Value) (I : Nat → Int32) (J : Nat → Int64) (B : Nat → Nat → Int32) (D : Nat → Nat → Int64) (Post : (Nat → Int32) → (Nat → Int64) → (Nat → Nat → Int32) → (Nat → Nat → Int64) → Prop) (PX : String → (Nat → Int32) → (Nat → Int64) → (Nat → Nat → Int32) → (Nat → Nat → Int64) → Prop) (sz : Nat) (hok : wp_Terms_readOpenings_B I J B D  Post PX) : zyMet l zy_Terms_readOpenings (Cond.code zy_Terms_readOpenings prog_9_method_4_code 2 none :: zTB) { frames := 7, cells := 1, slots := 6, locals := 101 } (va_Pc [.ref (ad 10)] (zPreX G K (wX ad K sv I J B D) sz)) (va_Qv (fun u : zS => Post u.1 u.2.1 u.2.2.1 u.2.2.2) (fun u t => zPost G K (va_A (wX ad K sv I J B D) sz) (wX ad K sv u.1 u.2.1 u.2.2.1 u.2.2.2) t) (va_A (wX ad K sv I J B D) sz)) (zYC (fun E (u : zS) => PX E u.1 u.2.1 u.2.2.1 u.2.2.2) (fun u => wX ad K sv u.1 u.2.1 u.2.2.1 u.2.2.2) G K (va_A (wX ad K sv I J B D) sz)) 1 6 (va_A (wX ad K sv I J B D) sz) := by
  refine zMetY (y := zy_Terms_readOpenings) (av := [.ref (ad 10)]) (maxL := 2) (cc := prog_9_method_4_code) (ret := none) (W0 := (wX ad K sv I J B D)) (sz := sz) (G := G) (K := K) (wt := zTB) (mc := 1) (ms := 6) (Qf := fun A => va_Qv (fun u : zS => Post u.1 u.2.1 u.2.2.1 u.2.2.2) (fun u t => zPost G K A (wX ad K sv u.1 u.2.1 u.2.2.1 u.2.2.2) t) A) (Xf := fun A => (zYC (fun E (u : zS) => PX E u.1 u.2.1 u.2.2.1 u.2.2.2) (fun u => wX ad K sv u.1 u.2.1 u.2.2.1 u.2.2.2) G K A)) (by decide) (Nat.le_of_ble_eq_true rfl) ?_
  intro p e s m below meth c ls A hx hb hr hml hts hown hlocks hin hA hK H locs hw hsz hl hT hnt
  clear hsz
  have hown : s.vm.findClass "LassoFinder$Terms" = some m.cls := hown
  have C : zCy p l s m ([.ref (ad 10)] : List Value).toArray meth c A G K prog_9_method_4_code none 2 "LassoFinder$Terms" := ⟨hx, hb, hr, hml, hts, hown, hlocks, hA, hK, hT, hnt, hlt⟩
  have hl : lv_has ls 2 [(0, .ref (ad 10))] := hl
  have hw : zW G A s.heap (wX ad K sv I J B D) H locs := hw
  unfold wp_Terms_readOpenings_B at hok
  refine lv_iconst (v := 0) hx hb zd_Terms_readOpenings_0 (by decide) ?_
  refine lv_istore_n hx hb zd_Terms_readOpenings_1 rfl hl (by decide) rfl (fun ls hl => ?_)
  have hl : lv_has ls 2 [(1, .int 0), (0, .ref (ad 10))] := hl
  obtain ⟨n9, hok⟩ := hok
  exact wL_Terms_readOpenings_B_2 G K ad sv  Post PX C n9 0 I J B D ls H locs hok (lv_sub hl [1, 0] rfl) hw
def wp_Terms_add_A (I : Nat → Int32) (J : Nat → Int64) (B : Nat → Nat → Int32) (D : Nat → Nat → Int64) (a0 : Int32) (Post : (Nat → Int32) → (Nat → Int64) → (Nat → Nat → Int32) → (Nat → Nat → Int64) → Prop) : Prop :=
  vp_in (I 11) 480 ∧ ∀ z1 : Int32, z1 = ((I 11) + 1) → Post (upd I 11 z1) J (va_up B 15 (upd (B 15) (I 11).toNatClampNeg a0)) D
set_option maxHeartbeats 8000000 in
set_option maxRecDepth 100000 in
theorem w_Terms_add_A (l : Launch) (G : va_G) (K : Nat → ClassId) (ad : Nat → Nat) (sv : Value) (I : Nat → Int32) (J : Nat → Int64) (B : Nat → Nat → Int32) (D : Nat → Nat → Int64) (a0 : Int32) (Post : (Nat → Int32) → (Nat → Int64) → (Nat → Nat → Int32) → (Nat → Nat → Int64) → Prop) (sz : Nat) (hok : wp_Terms_add_A I J B D a0 Post) : Met l zy_Terms_add (Cond.code zy_Terms_add prog_9_method_11_code 2 none :: zTB) { frames := 0, cells := 0, slots := 0, locals := 0 } (va_Pc [.ref (ad 4), .int a0] (zPre G K (wX ad K sv I J B D) sz)) (va_Qv (fun u : zS => Post u.1 u.2.1 u.2.2.1 u.2.2.2) (fun u t => zPost G K (va_A (wX ad K sv I J B D) sz) (wX ad K sv u.1 u.2.1 u.2.2.1 u.2.2.2) t) (va_A (wX ad K sv I J B D) sz)) 0 0 (va_A (wX ad K sv I J B D) sz) := by
  refine zMet (y := zy_Terms_add) (av := [.ref (ad 4), .int a0]) (maxL := 2) (cc := prog_9_method_11_code) (ret := none) (W0 := (wX ad K sv I J B D)) (sz := sz) (G := G) (K := K) (wt := zTB) (mc := 0) (ms := 0) (Qf := fun A => va_Qv (fun u : zS => Post u.1 u.2.1 u.2.2.1 u.2.2.2) (fun u t => zPost G K A (wX ad K sv u.1 u.2.1 u.2.2.1 u.2.2.2) t) A) (by decide) (Nat.le_of_ble_eq_true rfl) ?_
  intro p e s m below meth c ls A hx hb hr hml hts hown hlocks hin hA hK H locs hw hsz hl
  clear hsz
  have hown : s.vm.findClass "LassoFinder$Terms" = some m.cls := hown
  have C : zCx p s m ([.ref (ad 4), .int a0] : List Value).toArray meth c A G K prog_9_method_11_code none 2 "LassoFinder$Terms" := ⟨hx, hb, hr, hml, hts, hown, hlocks, hA, hK⟩
  have hl : lv_has ls 2 [(0, .ref (ad 4)), (1, .int a0)] := hl
  have hw : zW G A s.heap (wX ad K sv I J B D) H locs := hw
  unfold wp_Terms_add_A at hok
  refine lv_aload_n hx hb zd_Terms_add_0 rfl (lv_at hl 0 rfl) ?_
  refine z_get (v := .ref (ad 29)) hx hb hts hown hK hw zZ8 4 wX_g4 2 (by decide) zn_252 rfl zd_Terms_add_1 ?_
  refine lv_aload_n hx hb zd_Terms_add_4 rfl (lv_at hl 0 rfl) ?_
  refine z_get (v := .int (I 11)) hx hb hts hown hK hw zZ8 4 wX_g4 3 (by decide) zn_379 rfl zd_Terms_add_5 ?_
  refine lv_iload_n hx hb zd_Terms_add_8 rfl (lv_at hl 1 rfl) ?_
  refine va_iast (f := (B 15)) hx hb hK hw.1 hw.2.1 hw.2.2 29 0 wX_a29 rfl hok.1 zd_Terms_add_9 (fun H locs w91 w92 w93 => ?_)
  have hok := hok.2
  have hw := wX_t29 ⟨w91, w92, w93⟩
  refine lv_aload_n hx hb zd_Terms_add_10 rfl (lv_at hl 0 rfl) ?_
  refine lv_dup hx hb zd_Terms_add_11 rfl ?_
  refine z_get (v := .int (I 11)) hx hb hts hown hK hw zZ8 4 wX_g4 3 (by decide) zn_379 rfl zd_Terms_add_12 ?_
  refine lv_iconst (v := 1) hx hb zd_Terms_add_15 (by decide) ?_
  refine lv_iadd hx hb zd_Terms_add_16 ?_
  refine lv_topi (fun z1 ez1 => ?_)
  have hok := hok z1 ez1
  refine z_put (v := .int z1) hx hb hts hown hK hw zZ8 4 wX_g4 3 (by decide) zn_379 rfl rfl rfl (Nat.le_of_ble_eq_true rfl) zd_Terms_add_17 (fun H locs hw => ?_)
  have hw := wX_sI11 hw
  exact (z_vret (u := ((upd I 11 z1), J, (va_up B 15 (upd (B 15) (I 11).toNatClampNeg a0)), D)) hx hb hr hlocks hw (List.range 65) wX_all wX_nd hok (Nat.le_of_ble_eq_true rfl) (Nat.le_of_ble_eq_true rfl) zd_Terms_add_20)
def wc_Terms_readPart_A_89 (Post : (Nat → Int32) → (Nat → Int64) → (Nat → Nat → Int32) → (Nat → Nat → Int64) → Prop) (PX : String → (Nat → Int32) → (Nat → Int64) → (Nat → Nat → Int32) → (Nat → Nat → Int64) → Prop) (y0 : Int32) (I : Nat → Int32) (J : Nat → Int64) (B : Nat → Nat → Int32) (D : Nat → Nat → Int64) : Prop :=
  wp_Terms_add_A I J B D y0 (fun I1 J1 B1 D1 => Post I1 J1 B1 D1)
def wc_Terms_readPart_A_58 (Post : (Nat → Int32) → (Nat → Int64) → (Nat → Nat → Int32) → (Nat → Nat → Int64) → Prop) (PX : String → (Nat → Int32) → (Nat → Int64) → (Nat → Nat → Int32) → (Nat → Nat → Int64) → Prop) (x1 : Int32) (x2 : Int32) (I : Nat → Int32) (J : Nat → Int64) (B : Nat → Nat → Int32) (D : Nat → Nat → Int64) : Prop :=
  wp_Text_skip I J B D  (fun I2 J2 B2 D2 => ∀ z3 : Int32, z3 = ((I2 13) + 1) → ((¬ x1 = (-1) → wc_Terms_readPart_A_89  Post PX x1 (upd I2 13 z3) J2 B2 D2) ∧ (x1 = (-1) → ∀ z5 : Int32, z5 = (8 + x2) → wc_Terms_readPart_A_89  Post PX z5 (upd I2 13 z3) J2 B2 D2)))
def wc_Terms_readPart_A_51 (Post : (Nat → Int32) → (Nat → Int64) → (Nat → Nat → Int32) → (Nat → Nat → Int64) → Prop) (PX : String → (Nat → Int32) → (Nat → Int64) → (Nat → Nat → Int32) → (Nat → Nat → Int64) → Prop) (x1 : Int32) (x2 : Int32) (I : Nat → Int32) (J : Nat → Int64) (B : Nat → Nat → Int32) (D : Nat → Nat → Int64) : Prop :=
  wp_Text_refuse I J B D  (fun I6 J6 B6 D6 => wc_Terms_readPart_A_58  Post PX x1 x2 I6 J6 B6 D6) PX
def wp_Terms_readPart_A (I : Nat → Int32) (J : Nat → Int64) (B : Nat → Nat → Int32) (D : Nat → Nat → Int64) (Post : (Nat → Int32) → (Nat → Int64) → (Nat → Nat → Int32) → (Nat → Nat → Int64) → Prop) (PX : String → (Nat → Int32) → (Nat → Int64) → (Nat → Nat → Int32) → (Nat → Nat → Int64) → Prop) : Prop :=
  wp_Text_oneOf I J B D 48 (fun r7 I7 J7 B7 D7 => wp_Text_oneOf I7 J7 B7 D7 97 (fun r8 I8 J8 B8 D8 => (((I8 13) = 12 → wc_Terms_readPart_A_51  Post PX r7 r8 I8 J8 B8 D8) ∧ (¬ (I8 13) = 12 → ((¬ r7 = (-1) → wc_Terms_readPart_A_58  Post PX r7 r8 I8 J8 B8 D8) ∧ (r7 = (-1) → ((r8 = (-1) → wc_Terms_readPart_A_51  Post PX r7 r8 I8 J8 B8 D8) ∧ (¬ r8 = (-1) → vp_in r8 8 ∧ ∀ z12 : Int32, z12 = ((B8 2) r8.toNatClampNeg) → ((¬ z12 = 0 → wc_Terms_readPart_A_58  Post PX r7 r8 I8 J8 B8 D8) ∧ (z12 = 0 → wc_Terms_readPart_A_51  Post PX r7 r8 I8 J8 B8 D8))))))))))
set_option maxHeartbeats 8000000 in
set_option maxRecDepth 100000 in
theorem wJ_Terms_readPart_A_89 {p : Program} {l : Launch} {e : Env} {s : State} {m : MethodId} {below : List Frame} {meth : Method} {c : Code} {A : Nat → Prop} (G : va_G) (K : Nat → ClassId) (ad : Nat → Nat) (sv : Value) (Post : (Nat → Int32) → (Nat → Int64) → (Nat → Nat → Int32) → (Nat → Nat → Int64) → Prop) (PX : String → (Nat → Int32) → (Nat → Int64) → (Nat → Nat → Int32) → (Nat → Nat → Int64) → Prop) (C : zCy p l s m ([.ref (ad 4)] : List Value).toArray meth c A G K prog_9_method_5_code none 3 "LassoFinder$Terms") : ∀ (y0 : Int32) (I : Nat → Int32) (J : Nat → Int64) (B : Nat → Nat → Int32) (D : Nat → Nat → Int64) (ls : Array Slot) (H : Heap) (locs : List Loc), wc_Terms_readPart_A_89  Post PX y0 I J B D → lv_has ls 3 [] → zW G A s.heap (wX ad K sv I J B D) H locs → W p l e { frames := 7, cells := 1, slots := 6, locals := 101 } s m ([.ref (ad 4)] : List Value).toArray below meth c H locs 0 0 (zyMQ below (va_Qv (fun u : zS => Post u.1 u.2.1 u.2.2.1 u.2.2.2) (fun u t => zPost G K A (wX ad K sv u.1 u.2.1 u.2.2.1 u.2.2.2) t) A) (zYC (fun E (u : zS) => PX E u.1 u.2.1 u.2.2.1 u.2.2.2) (fun u => wX ad K sv u.1 u.2.1 u.2.2.1 u.2.2.2) G K A) ([.ref (ad 4)] : List Value).toArray s 1 6 A) (F0 m 89 ls [.int y0, .ref (ad 4)]) := by
  obtain ⟨hx, hb, hr, hml, hts, hown, hlocks, hA, hK, hT, hnt, hlt⟩ := id C
  intro y0 I J B D ls H locs hok hl hw
  unfold wc_Terms_readPart_A_89 at hok
  refine z_callv (w1 := fun (u : zS) => wX ad K sv u.1 u.2.1 u.2.2.1 u.2.2.2) (wr := []) (z_runV (q0 := 4) (wc := (wX ad K sv I J B D)) (As := [.int y0]) (rest := []) ⟨hx, hb, hml, hown, hts⟩ (w_Terms_add_A l G K ad sv I J B D y0 _ H.size hok) zf_Terms_add zn_346 ⟨Nat.le_of_ble_eq_true rfl, Nat.le_of_ble_eq_true rfl⟩ hK hw (List.range 65) wX_all wX_nd wX_g4 rfl rfl hl.1 rfl (Nat.le_of_ble_eq_true rfl) zd_Terms_readPart_89 ⟨Nat.le_of_ble_eq_true rfl, Nat.le_of_ble_eq_true rfl⟩) hw hA (List.range 65) [] wX_all rfl (by decide) (fun i hi => by cases hi) (fun u H locs hok hw => ?_)
  obtain ⟨I1, J1, B1, D1⟩ := u
  dsimp only at hok
  have hw : zW G A s.heap (wX ad K sv I1 J1 B1 D1) H locs := hw
  exact zy_ret (z_vret (u := (I1, J1, B1, D1)) hx hb hr hlocks hw (List.range 65) wX_all wX_nd hok (Nat.le_of_ble_eq_true rfl) (Nat.le_of_ble_eq_true rfl) zd_Terms_readPart_92)
set_option maxHeartbeats 8000000 in
set_option maxRecDepth 100000 in
theorem wJ_Terms_readPart_A_58 {p : Program} {l : Launch} {e : Env} {s : State} {m : MethodId} {below : List Frame} {meth : Method} {c : Code} {A : Nat → Prop} (G : va_G) (K : Nat → ClassId) (ad : Nat → Nat) (sv : Value) (Post : (Nat → Int32) → (Nat → Int64) → (Nat → Nat → Int32) → (Nat → Nat → Int64) → Prop) (PX : String → (Nat → Int32) → (Nat → Int64) → (Nat → Nat → Int32) → (Nat → Nat → Int64) → Prop) (C : zCy p l s m ([.ref (ad 4)] : List Value).toArray meth c A G K prog_9_method_5_code none 3 "LassoFinder$Terms") : ∀ (x1 : Int32) (x2 : Int32) (I : Nat → Int32) (J : Nat → Int64) (B : Nat → Nat → Int32) (D : Nat → Nat → Int64) (ls : Array Slot) (H : Heap) (locs : List Loc), wc_Terms_readPart_A_58  Post PX x1 x2 I J B D → lv_has ls 3 [(0, .ref (ad 4)), (1, .int x1), (2, .int x2)] → zW G A s.heap (wX ad K sv I J B D) H locs → W p l e { frames := 7, cells := 1, slots := 6, locals := 101 } s m ([.ref (ad 4)] : List Value).toArray below meth c H locs 0 0 (zyMQ below (va_Qv (fun u : zS => Post u.1 u.2.1 u.2.2.1 u.2.2.2) (fun u t => zPost G K A (wX ad K sv u.1 u.2.1 u.2.2.1 u.2.2.2) t) A) (zYC (fun E (u : zS) => PX E u.1 u.2.1 u.2.2.1 u.2.2.2) (fun u => wX ad K sv u.1 u.2.1 u.2.2.1 u.2.2.2) G K A) ([.ref (ad 4)] : List Value).toArray s 1 6 A) (F0 m 58 ls []) := by
  obtain ⟨hx, hb, hr, hml, hts, hown, hlocks, hA, hK, hT, hnt, hlt⟩ := id C
  intro x1 x2 I J B D ls H locs hok hl hw
  unfold wc_Terms_readPart_A_58 at hok
  refine lv_aload_n hx hb zd_Terms_readPart_58 rfl (lv_at hl 0 rfl) ?_
  refine z_get (v := .ref (ad 1)) hx hb hts hown hK hw zZ8 4 wX_g4 0 (by decide) zn_381 rfl zd_Terms_readPart_59 ?_
  refine z_callv (w1 := fun (u : zS) => wX ad K sv u.1 u.2.1 u.2.2.1 u.2.2.2) (wr := []) (z_runV (q0 := 1) (wc := (wX ad K sv I J B D)) (As := []) (rest := []) ⟨hx, hb, hml, hown, hts⟩ (w_Text_skip l G K ad sv I J B D  _ H.size hok) zf_Text_skip zn_342 ⟨Nat.le_of_ble_eq_true rfl, Nat.le_of_ble_eq_true rfl⟩ hK hw (List.range 65) wX_all wX_nd wX_g1 rfl rfl hl.1 rfl (Nat.le_of_ble_eq_true rfl) zd_Terms_readPart_62 ⟨Nat.le_of_ble_eq_true rfl, Nat.le_of_ble_eq_true rfl⟩) hw hA (List.range 65) [] wX_all rfl (by decide) (fun i hi => by cases hi) (fun u H locs hok hw => ?_)
  obtain ⟨I2, J2, B2, D2⟩ := u
  dsimp only at hok
  have hw : zW G A s.heap (wX ad K sv I2 J2 B2 D2) H locs := hw
  refine lv_aload_n hx hb zd_Terms_readPart_65 rfl (lv_at hl 0 rfl) ?_
  refine lv_dup hx hb zd_Terms_readPart_66 rfl ?_
  refine z_get (v := .int (I2 13)) hx hb hts hown hK hw zZ8 4 wX_g4 7 (by decide) zn_392 rfl zd_Terms_readPart_67 ?_
  refine lv_iconst (v := 1) hx hb zd_Terms_readPart_70 (by decide) ?_
  refine lv_iadd hx hb zd_Terms_readPart_71 ?_
  refine lv_topi (fun z3 ez3 => ?_)
  have hok := hok z3 ez3
  refine z_put (v := .int z3) hx hb hts hown hK hw zZ8 4 wX_g4 7 (by decide) zn_392 rfl rfl rfl (Nat.le_of_ble_eq_true rfl) zd_Terms_readPart_72 (fun H locs hw => ?_)
  have hw := wX_sI13 hw
  refine lv_aload_n hx hb zd_Terms_readPart_75 rfl (lv_at hl 0 rfl) ?_
  refine lv_iload_n hx hb zd_Terms_readPart_76 rfl (lv_at hl 1 rfl) ?_
  refine lv_iconst (v := (-1)) hx hb zd_Terms_readPart_77 (by decide) ?_
  refine lv_icmp_ne (tgt := 88) hx hb zd_Terms_readPart_78 (by decide) (fun hc4 => ?_) (fun hc4 => ?_)
  · have hok := hok.1 hc4
    refine lv_iload_n hx hb zd_Terms_readPart_88 rfl (lv_at hl 1 rfl) ?_
    exact wJ_Terms_readPart_A_89 G K ad sv  Post PX C x1 (upd I2 13 z3) J2 B2 D2 ls H locs hok (lv_sub hl [] rfl) hw
  · have hok := hok.2 hc4
    refine lv_bipush (v := 8) hx hb zd_Terms_readPart_81 (by decide) ?_
    refine lv_iload_n hx hb zd_Terms_readPart_83 rfl (lv_at hl 2 rfl) ?_
    refine lv_iadd hx hb zd_Terms_readPart_84 ?_
    refine lv_topi (fun z5 ez5 => ?_)
    have hok := hok z5 ez5
    refine lv_goto (tgt := 89) hx hb zd_Terms_readPart_85 (by decide) ?_
    exact wJ_Terms_readPart_A_89 G K ad sv  Post PX C z5 (upd I2 13 z3) J2 B2 D2 ls H locs hok (lv_sub hl [] rfl) hw
set_option maxHeartbeats 8000000 in
set_option maxRecDepth 100000 in
theorem wJ_Terms_readPart_A_51 {p : Program} {l : Launch} {e : Env} {s : State} {m : MethodId} {below : List Frame} {meth : Method} {c : Code} {A : Nat → Prop} (G : va_G) (K : Nat → ClassId) (ad : Nat → Nat) (sv : Value) (Post : (Nat → Int32) → (Nat → Int64) → (Nat → Nat → Int32) → (Nat → Nat → Int64) → Prop) (PX : String → (Nat → Int32) → (Nat → Int64) → (Nat → Nat → Int32) → (Nat → Nat → Int64) → Prop) (C : zCy p l s m ([.ref (ad 4)] : List Value).toArray meth c A G K prog_9_method_5_code none 3 "LassoFinder$Terms") : ∀ (x1 : Int32) (x2 : Int32) (I : Nat → Int32) (J : Nat → Int64) (B : Nat → Nat → Int32) (D : Nat → Nat → Int64) (ls : Array Slot) (H : Heap) (locs : List Loc), wc_Terms_readPart_A_51  Post PX x1 x2 I J B D → lv_has ls 3 [(0, .ref (ad 4)), (1, .int x1), (2, .int x2)] → zW G A s.heap (wX ad K sv I J B D) H locs → W p l e { frames := 7, cells := 1, slots := 6, locals := 101 } s m ([.ref (ad 4)] : List Value).toArray below meth c H locs 0 0 (zyMQ below (va_Qv (fun u : zS => Post u.1 u.2.1 u.2.2.1 u.2.2.2) (fun u t => zPost G K A (wX ad K sv u.1 u.2.1 u.2.2.1 u.2.2.2) t) A) (zYC (fun E (u : zS) => PX E u.1 u.2.1 u.2.2.1 u.2.2.2) (fun u => wX ad K sv u.1 u.2.1 u.2.2.1 u.2.2.2) G K A) ([.ref (ad 4)] : List Value).toArray s 1 6 A) (F0 m 51 ls []) := by
  obtain ⟨hx, hb, hr, hml, hts, hown, hlocks, hA, hK, hT, hnt, hlt⟩ := id C
  intro x1 x2 I J B D ls H locs hok hl hw
  unfold wc_Terms_readPart_A_51 at hok
  refine lv_aload_n hx hb zd_Terms_readPart_51 rfl (lv_at hl 0 rfl) ?_
  refine z_get (v := .ref (ad 1)) hx hb hts hown hK hw zZ8 4 wX_g4 0 (by decide) zn_381 rfl zd_Terms_readPart_52 ?_
  refine z_yV (q0 := 1) (wc := (wX ad K sv I J B D)) (wr := []) (w1 := fun (u : zS) => wX ad K sv u.1 u.2.1 u.2.2.1 u.2.2.2) (As := []) (rest := []) ⟨hx, hb, hml, hown, hts⟩ (w_Text_refuse l hlt G K ad sv I J B D  _ _ H.size hok) zf_Text_refuse zn_341 ⟨Nat.le_of_ble_eq_true rfl, Nat.le_of_ble_eq_true rfl⟩ hK hT hw hA (List.range 65) [] wX_all rfl wX_nd (by decide) (fun i hi => by cases hi) wX_g1 rfl rfl hl.1 rfl (Nat.le_of_ble_eq_true rfl) zd_Terms_readPart_55 ⟨Nat.le_of_ble_eq_true rfl, Nat.le_of_ble_eq_true rfl⟩ (fun v st9 t9 L9 h0 hq hL => ?_) (fun E ce q9 u H locs hu hw hce hcv hcl => z_yout (u := u) hnt hlocks hce hcv hcl hw (List.range 65) wX_all wX_nd hu (Nat.le_of_ble_eq_true rfl) (Nat.le_of_ble_eq_true rfl))
  obtain ⟨⟨u, hv9, hok, hB9⟩, hF9⟩ := hq
  cases hv9
  have hw := z_back (wr := []) hw hA (List.range 65) [] wX_all rfl (by decide) (fun i hi => by cases hi) h0 hL hB9 hF9
  obtain ⟨I6, J6, B6, D6⟩ := u
  dsimp only at hok
  generalize t9.heap = H at hw ⊢
  generalize locs ++ L9 = locs at hw ⊢
  have hw : zW G A s.heap (wX ad K sv I6 J6 B6 D6) H locs := hw
  refine W.eq (g2 := F0 m 58 ls []) rfl ?_
  exact wJ_Terms_readPart_A_58 G K ad sv  Post PX C x1 x2 I6 J6 B6 D6 ls H locs hok (lv_sub hl [0, 1, 2] rfl) hw
set_option maxHeartbeats 8000000 in
set_option maxRecDepth 100000 in
theorem w_Terms_readPart_A (l : Launch) (hlt : l.stackTraces = false) (G : va_G) (K : Nat → ClassId) (ad : Nat → Nat) (sv : Value) (I : Nat → Int32) (J : Nat → Int64) (B : Nat → Nat → Int32) (D : Nat → Nat → Int64) (Post : (Nat → Int32) → (Nat → Int64) → (Nat → Nat → Int32) → (Nat → Nat → Int64) → Prop) (PX : String → (Nat → Int32) → (Nat → Int64) → (Nat → Nat → Int32) → (Nat → Nat → Int64) → Prop) (sz : Nat) (hok : wp_Terms_readPart_A I J B D  Post PX) : zyMet l zy_Terms_readPart (Cond.code zy_Terms_readPart prog_9_method_5_code 3 none :: zTB) { frames := 7, cells := 1, slots := 6, locals := 101 } (va_Pc [.ref (ad 4)] (zPreX G K (wX ad K sv I J B D) sz)) (va_Qv (fun u : zS => Post u.1 u.2.1 u.2.2.1 u.2.2.2) (fun u t => zPost G K (va_A (wX ad K sv I J B D) sz) (wX ad K sv u.1 u.2.1 u.2.2.1 u.2.2.2) t) (va_A (wX ad K sv I J B D) sz)) (zYC (fun E (u : zS) => PX E u.1 u.2.1 u.2.2.1 u.2.2.2) (fun u => wX ad K sv u.1 u.2.1 u.2.2.1 u.2.2.2) G K (va_A (wX ad K sv I J B D) sz)) 1 6 (va_A (wX ad K sv I J B D) sz) := by
  refine zMetY (y := zy_Terms_readPart) (av := [.ref (ad 4)]) (maxL := 3) (cc := prog_9_method_5_code) (ret := none) (W0 := (wX ad K sv I J B D)) (sz := sz) (G := G) (K := K) (wt := zTB) (mc := 1) (ms := 6) (Qf := fun A => va_Qv (fun u : zS => Post u.1 u.2.1 u.2.2.1 u.2.2.2) (fun u t => zPost G K A (wX ad K sv u.1 u.2.1 u.2.2.1 u.2.2.2) t) A) (Xf := fun A => (zYC (fun E (u : zS) => PX E u.1 u.2.1 u.2.2.1 u.2.2.2) (fun u => wX ad K sv u.1 u.2.1 u.2.2.1 u.2.2.2) G K A)) (by decide) (Nat.le_of_ble_eq_true rfl) ?_
  intro p e s m below meth c ls A hx hb hr hml hts hown hlocks hin hA hK H locs hw hsz hl hT hnt
  clear hsz
  have hown : s.vm.findClass "LassoFinder$Terms" = some m.cls := hown
  have C : zCy p l s m ([.ref (ad 4)] : List Value).toArray meth c A G K prog_9_method_5_code none 3 "LassoFinder$Terms" := ⟨hx, hb, hr, hml, hts, hown, hlocks, hA, hK, hT, hnt, hlt⟩
  have hl : lv_has ls 3 [(0, .ref (ad 4))] := hl
  have hw : zW G A s.heap (wX ad K sv I J B D) H locs := hw
  unfold wp_Terms_readPart_A at hok
  refine lv_aload_n hx hb zd_Terms_readPart_0 rfl (lv_at hl 0 rfl) ?_
  refine z_get (v := .ref (ad 1)) hx hb hts hown hK hw zZ8 4 wX_g4 0 (by decide) zn_381 rfl zd_Terms_readPart_1 ?_
  refine lv_bipush (v := 48) hx hb zd_Terms_readPart_4 (by decide) ?_
  refine z_calli (w1 := fun (u : zS) => wX ad K sv u.1 u.2.1 u.2.2.1 u.2.2.2) (wr := []) (z_runV (q0 := 1) (wc := (wX ad K sv I J B D)) (As := [.int 48]) (rest := []) ⟨hx, hb, hml, hown, hts⟩ (w_Text_oneOf l G K ad sv I J B D 48 _ H.size hok) zf_Text_oneOf zn_345 ⟨Nat.le_of_ble_eq_true rfl, Nat.le_of_ble_eq_true rfl⟩ hK hw (List.range 65) wX_all wX_nd wX_g1 rfl rfl hl.1 rfl (Nat.le_of_ble_eq_true rfl) zd_Terms_readPart_6 ⟨Nat.le_of_ble_eq_true rfl, Nat.le_of_ble_eq_true rfl⟩) hw hA (List.range 65) [] wX_all rfl (by decide) (fun i hi => by cases hi) (fun r7 u H locs hok hw => ?_)
  obtain ⟨I7, J7, B7, D7⟩ := u
  dsimp only at hok
  have hw : zW G A s.heap (wX ad K sv I7 J7 B7 D7) H locs := hw
  refine lv_istore_n hx hb zd_Terms_readPart_9 rfl hl (by decide) rfl (fun ls hl => ?_)
  have hl : lv_has ls 3 [(1, .int r7), (0, .ref (ad 4))] := hl
  refine lv_aload_n hx hb zd_Terms_readPart_10 rfl (lv_at hl 1 rfl) ?_
  refine z_get (v := .ref (ad 1)) hx hb hts hown hK hw zZ8 4 wX_g4 0 (by decide) zn_381 rfl zd_Terms_readPart_11 ?_
  refine lv_bipush (v := 97) hx hb zd_Terms_readPart_14 (by decide) ?_
  refine z_calli (w1 := fun (u : zS) => wX ad K sv u.1 u.2.1 u.2.2.1 u.2.2.2) (wr := []) (z_runV (q0 := 1) (wc := (wX ad K sv I7 J7 B7 D7)) (As := [.int 97]) (rest := []) ⟨hx, hb, hml, hown, hts⟩ (w_Text_oneOf l G K ad sv I7 J7 B7 D7 97 _ H.size hok) zf_Text_oneOf zn_345 ⟨Nat.le_of_ble_eq_true rfl, Nat.le_of_ble_eq_true rfl⟩ hK hw (List.range 65) wX_all wX_nd wX_g1 rfl rfl hl.1 rfl (Nat.le_of_ble_eq_true rfl) zd_Terms_readPart_16 ⟨Nat.le_of_ble_eq_true rfl, Nat.le_of_ble_eq_true rfl⟩) hw hA (List.range 65) [] wX_all rfl (by decide) (fun i hi => by cases hi) (fun r8 u H locs hok hw => ?_)
  obtain ⟨I8, J8, B8, D8⟩ := u
  dsimp only at hok
  have hw : zW G A s.heap (wX ad K sv I8 J8 B8 D8) H locs := hw
  refine lv_istore_n hx hb zd_Terms_readPart_19 rfl hl (by decide) rfl (fun ls hl => ?_)
  have hl : lv_has ls 3 [(2, .int r8), (1, .int r7), (0, .ref (ad 4))] := hl
  refine lv_aload_n hx hb zd_Terms_readPart_20 rfl (lv_at hl 2 rfl) ?_
  refine z_get (v := .int (I8 13)) hx hb hts hown hK hw zZ8 4 wX_g4 7 (by decide) zn_392 rfl zd_Terms_readPart_21 ?_
  refine lv_bipush (v := 12) hx hb zd_Terms_readPart_24 (by decide) ?_
  refine lv_icmp_eq (tgt := 51) hx hb zd_Terms_readPart_26 (by decide) (fun hc9 => ?_) (fun hc9 => ?_)
  · have hok := hok.1 hc9
    exact wJ_Terms_readPart_A_51 G K ad sv  Post PX C r7 r8 I8 J8 B8 D8 ls H locs hok (lv_sub hl [2, 1, 0] rfl) hw
  · have hok := hok.2 hc9
    refine lv_iload_n hx hb zd_Terms_readPart_29 rfl (lv_at hl 1 rfl) ?_
    refine lv_iconst (v := (-1)) hx hb zd_Terms_readPart_30 (by decide) ?_
    refine lv_icmp_ne (tgt := 58) hx hb zd_Terms_readPart_31 (by decide) (fun hc10 => ?_) (fun hc10 => ?_)
    · have hok := hok.1 hc10
      exact wJ_Terms_readPart_A_58 G K ad sv  Post PX C r7 r8 I8 J8 B8 D8 ls H locs hok (lv_sub hl [2, 1, 0] rfl) hw
    · have hok := hok.2 hc10
      refine lv_iload_n hx hb zd_Terms_readPart_34 rfl (lv_at hl 0 rfl) ?_
      refine lv_iconst (v := (-1)) hx hb zd_Terms_readPart_35 (by decide) ?_
      refine lv_icmp_eq (tgt := 51) hx hb zd_Terms_readPart_36 (by decide) (fun hc11 => ?_) (fun hc11 => ?_)
      · have hok := hok.1 hc11
        exact wJ_Terms_readPart_A_51 G K ad sv  Post PX C r7 r8 I8 J8 B8 D8 ls H locs hok (lv_sub hl [2, 1, 0] rfl) hw
      · have hok := hok.2 hc11
        refine lv_aload_n hx hb zd_Terms_readPart_39 rfl (lv_at hl 2 rfl) ?_
        refine z_get (v := .ref (ad 2)) hx hb hts hown hK hw zZ8 4 wX_g4 1 (by decide) zn_393 rfl zd_Terms_readPart_40 ?_
        refine z_get (v := .ref (ad 14)) hx hb hts hown hK hw zZ5 2 wX_g2 0 (by decide) zn_394 rfl zd_Terms_readPart_43 ?_
        refine lv_iload_n hx hb zd_Terms_readPart_46 rfl (lv_at hl 0 rfl) ?_
        refine va_iald (f := (B8 2)) hx hb hK hw.1 14 0 wX_a14 rfl hok.1 zd_Terms_readPart_47 ?_
        have hok := hok.2
        refine lv_topi (fun z12 ez12 => ?_)
        have hok := hok z12 ez12
        refine lv_if_ne (tgt := 58) hx hb zd_Terms_readPart_48 (by decide) (fun hc13 => ?_) (fun hc13 => ?_)
        · have hok := hok.1 hc13
          exact wJ_Terms_readPart_A_58 G K ad sv  Post PX C r7 r8 I8 J8 B8 D8 ls H locs hok (lv_sub hl [2, 1, 0] rfl) hw
        · have hok := hok.2 hc13
          exact wJ_Terms_readPart_A_51 G K ad sv  Post PX C r7 r8 I8 J8 B8 D8 ls H locs hok (lv_sub hl [2, 1, 0] rfl) hw
