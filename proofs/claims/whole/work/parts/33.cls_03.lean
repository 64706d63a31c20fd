abbrev zy_Text_expect : MethodName := ⟨"LassoFinder$Text", "expect", "(C)V"⟩
abbrev zy_ModelReader_leadsInside : MethodName := ⟨"LassoFinder$ModelReader", "leadsInside", "(II)Z"⟩
abbrev zy_Program_add : MethodName := ⟨"LassoFinder$Program", "add", "(IIII)V"⟩
abbrev zy_Terms_read : MethodName := ⟨"LassoFinder$Terms", "read", "(I)I"⟩
abbrev zy_Terms_readClosings : MethodName := ⟨"LassoFinder$Terms", "readClosings", "(I)V"⟩
abbrev zy_Terms_readSign : MethodName := ⟨"LassoFinder$Terms", "readSign", "()Z"⟩
abbrev zy_Terms_signOf : MethodName := ⟨"LassoFinder$Terms", "signOf", "(C)I"⟩
theorem zn_341 : Cond.methodLink "LassoFinder$Text" 32 ⟨"LassoFinder$Text", "accept", "(C)Z"⟩ ∈ zTB := z_in (zt_3 _ (List.mem_of_getElem? (i := 223) rfl)) rfl
theorem zn_342 : Cond.methodLink "LassoFinder$Text" 36 ⟨"LassoFinder$Text", "refuse", "()V"⟩ ∈ zTB := z_in (zt_3 _ (List.mem_of_getElem? (i := 224) rfl)) rfl
theorem zn_363 : Cond.methodLink "LassoFinder$Terms" 47 ⟨"LassoFinder$Terms", "readOpenings", "()V"⟩ ∈ zTB := z_in (zt_4 _ (List.mem_of_getElem? (i := 55) rfl)) rfl
theorem zn_368 : Cond.methodLink "LassoFinder$Terms" 50 ⟨"LassoFinder$Terms", "readPart", "()V"⟩ ∈ zTB := z_in (zt_4 _ (List.mem_of_getElem? (i := 66) rfl)) rfl
theorem zn_371 : Cond.methodLink "LassoFinder$Terms" 53 ⟨"LassoFinder$Terms", "readClosings", "(I)V"⟩ ∈ zTB := z_in (zt_4 _ (List.mem_of_getElem? (i := 75) rfl)) rfl
theorem zn_372 : Cond.methodLink "LassoFinder$Terms" 64 ⟨"LassoFinder$Terms", "release", "(I)V"⟩ ∈ zTB := z_in (zt_4 _ (List.mem_of_getElem? (i := 79) rfl)) rfl
theorem zn_373 : Cond.methodLink "LassoFinder$Terms" 57 ⟨"LassoFinder$Terms", "readSign", "()Z"⟩ ∈ zTB := z_in (zt_4 _ (List.mem_of_getElem? (i := 85) rfl)) rfl
theorem zn_374 : Cond.methodLink "LassoFinder$Terms" 89 ⟨"LassoFinder$Terms", "signOf", "(C)I"⟩ ∈ zTB := z_in (zt_4 _ (List.mem_of_getElem? (i := 89) rfl)) rfl
theorem zn_444 : Cond.fieldLink "LassoFinder$Program" 62 "LassoFinder$Program" "basics" "I" ∈ zTB := z_in (zt_1 _ (List.mem_of_getElem? (i := 119) rfl)) rfl
theorem zn_445 : Cond.fieldLink "LassoFinder$Program" 66 "LassoFinder$Program" "processes" "I" ∈ zTB := z_in (zt_1 _ (List.mem_of_getElem? (i := 123) rfl)) rfl
theorem zn_446 : Cond.fieldLink "LassoFinder$Program" 58 "LassoFinder$Program" "elses" "J" ∈ zTB := z_in (zt_1 _ (List.mem_of_getElem? (i := 117) rfl)) rfl
theorem zn_622 : Cond.code ⟨"LassoFinder$Terms", "release", "(I)V"⟩ prog_9_method_10_code 4 none ∈ zTB := z_in (zt_4 _ (List.mem_of_getElem? (i := 82) rfl)) rfl
theorem zn_623 : Cond.instanceMethod ⟨"LassoFinder$Terms", "release", "(I)V"⟩ ∈ zTB := z_in (zt_4 _ (List.mem_of_getElem? (i := 81) rfl)) rfl
theorem zn_624 : Cond.code ⟨"LassoFinder$Terms", "readOpenings", "()V"⟩ prog_9_method_4_code 2 none ∈ zTB := z_in (zt_4 _ (List.mem_of_getElem? (i := 58) rfl)) rfl
theorem zn_625 : Cond.instanceMethod ⟨"LassoFinder$Terms", "readOpenings", "()V"⟩ ∈ zTB := z_in (zt_4 _ (List.mem_of_getElem? (i := 57) rfl)) rfl
theorem zn_626 : Cond.code ⟨"LassoFinder$Terms", "readPart", "()V"⟩ prog_9_method_5_code 3 none ∈ zTB := z_in (zt_4 _ (List.mem_of_getElem? (i := 69) rfl)) rfl
theorem zn_627 : Cond.instanceMethod ⟨"LassoFinder$Terms", "readPart", "()V"⟩ ∈ zTB := z_in (zt_4 _ (List.mem_of_getElem? (i := 68) rfl)) rfl
theorem zn_628 : Cond.code ⟨"LassoFinder$Terms", "readClosings", "(I)V"⟩ prog_9_method_6_code 3 none ∈ zTB := z_in (zt_4 _ (List.mem_of_getElem? (i := 78) rfl)) rfl
theorem zn_629 : Cond.instanceMethod ⟨"LassoFinder$Terms", "readClosings", "(I)V"⟩ ∈ zTB := z_in (zt_4 _ (List.mem_of_getElem? (i := 77) rfl)) rfl
theorem zn_630 : Cond.code ⟨"LassoFinder$Terms", "signOf", "(C)I"⟩ prog_9_method_8_code 1 (some .int) ∈ zTB := z_in (zt_4 _ (List.mem_of_getElem? (i := 91) rfl)) rfl
theorem zn_631 : Cond.static ⟨"LassoFinder$Terms", "signOf", "(C)I"⟩ ∈ zTB := z_in (zt_4 _ (List.mem_of_getElem? (i := 90) rfl)) rfl
theorem zn_632 : Cond.code ⟨"LassoFinder$Terms", "readSign", "()Z"⟩ prog_9_method_7_code 3 (some .boolean) ∈ zTB := z_in (zt_4 _ (List.mem_of_getElem? (i := 88) rfl)) rfl
theorem zn_633 : Cond.instanceMethod ⟨"LassoFinder$Terms", "readSign", "()Z"⟩ ∈ zTB := z_in (zt_4 _ (List.mem_of_getElem? (i := 87) rfl)) rfl
theorem zf_Terms_release : zFaceV zy_Terms_release prog_9_method_10_code 4 none 1 := ⟨zn_623, (z_in (zp_2 _ (List.mem_of_getElem? (i := 2) rfl)) rfl), zm_17, zn_622, by decide +kernel, by decide +kernel, by decide +kernel⟩
theorem zf_Terms_readOpenings : zFaceV zy_Terms_readOpenings prog_9_method_4_code 2 none 0 := ⟨zn_625, (z_in (zp_1 _ (List.mem_of_getElem? (i := 13) rfl)) rfl), zm_17, zn_624, by decide +kernel, by decide +kernel, by decide +kernel⟩
theorem zf_Terms_readPart : zFaceV zy_Terms_readPart prog_9_method_5_code 3 none 0 := ⟨zn_627, (z_in (zp_1 _ (List.mem_of_getElem? (i := 15) rfl)) rfl), zm_17, zn_626, by decide +kernel, by decide +kernel, by decide +kernel⟩
theorem zf_Terms_readClosings : zFaceV zy_Terms_readClosings prog_9_method_6_code 3 none 1 := ⟨zn_629, (z_in (zp_2 _ (List.mem_of_getElem? (i := 1) rfl)) rfl), zm_17, zn_628, by decide +kernel, by decide +kernel, by decide +kernel⟩
theorem zf_Terms_signOf : zFaceS zy_Terms_signOf prog_9_method_8_code 1 (some .int) 1 := ⟨zn_631, zm_17, zn_630, by decide +kernel, by decide +kernel, by decide +kernel⟩
theorem zf_Terms_readSign : zFaceV zy_Terms_readSign prog_9_method_7_code 3 (some .boolean) 0 := ⟨zn_633, (z_in (zp_2 _ (List.mem_of_getElem? (i := 3) rfl)) rfl), zm_17, zn_632, by decide +kernel, by decide +kernel, by decide +kernel⟩
theorem zd_ModelReader_leadsInside_0 : decode prog_5_method_13_code 0 = .ok (.iload_n 0, 1) := by decide +kernel
theorem zd_ModelReader_leadsInside_1 : decode prog_5_method_13_code 1 = .ok (.iconst (-1), 1) := by decide +kernel
theorem zd_ModelReader_leadsInside_2 : decode prog_5_method_13_code 2 = .ok (.if_icmp .eq 12, 3) := by decide +kernel
theorem zd_ModelReader_leadsInside_5 : decode prog_5_method_13_code 5 = .ok (.iload_n 1, 1) := by decide +kernel
theorem zd_ModelReader_leadsInside_6 : decode prog_5_method_13_code 6 = .ok (.iconst (-1), 1) := by decide +kernel
theorem zd_ModelReader_leadsInside_7 : decode prog_5_method_13_code 7 = .ok (.if_icmp .ne 7, 3) := by decide +kernel
theorem zd_ModelReader_leadsInside_10 : decode prog_5_method_13_code 10 = .ok (.iconst 1, 1) := by decide +kernel
theorem zd_ModelReader_leadsInside_11 : decode prog_5_method_13_code 11 = .ok (.goto 4, 3) := by decide +kernel
theorem zd_ModelReader_leadsInside_14 : decode prog_5_method_13_code 14 = .ok (.iconst 0, 1) := by decide +kernel
theorem zd_ModelReader_leadsInside_15 : decode prog_5_method_13_code 15 = .ok (.ireturn, 1) := by decide +kernel
theorem zd_Program_add_0 : decode prog_7_method_4_code 0 = .ok (.lconst 1, 1) := by decide +kernel
theorem zd_Program_add_1 : decode prog_7_method_4_code 1 = .ok (.aload_n 0, 1) := by decide +kernel
theorem zd_Program_add_2 : decode prog_7_method_4_code 2 = .ok (.getfield 62, 3) := by decide +kernel
theorem zd_Program_add_5 : decode prog_7_method_4_code 5 = .ok (.lshl, 1) := by decide +kernel
theorem zd_Program_add_6 : decode prog_7_method_4_code 6 = .ok (.lstore 5, 2) := by decide +kernel
theorem zd_Program_add_8 : decode prog_7_method_4_code 8 = .ok (.aload_n 0, 1) := by decide +kernel
theorem zd_Program_add_9 : decode prog_7_method_4_code 9 = .ok (.getfield 11, 3) := by decide +kernel
theorem zd_Program_add_12 : decode prog_7_method_4_code 12 = .ok (.aload_n 0, 1) := by decide +kernel
theorem zd_Program_add_13 : decode prog_7_method_4_code 13 = .ok (.getfield 62, 3) := by decide +kernel
theorem zd_Program_add_16 : decode prog_7_method_4_code 16 = .ok (.iload_n 1, 1) := by decide +kernel
theorem zd_Program_add_17 : decode prog_7_method_4_code 17 = .ok (.iastore, 1) := by decide +kernel
theorem zd_Program_add_18 : decode prog_7_method_4_code 18 = .ok (.aload_n 0, 1) := by decide +kernel
theorem zd_Program_add_19 : decode prog_7_method_4_code 19 = .ok (.getfield 15, 3) := by decide +kernel
theorem zd_Program_add_22 : decode prog_7_method_4_code 22 = .ok (.aload_n 0, 1) := by decide +kernel
theorem zd_Program_add_23 : decode prog_7_method_4_code 23 = .ok (.getfield 62, 3) := by decide +kernel
theorem zd_Program_add_26 : decode prog_7_method_4_code 26 = .ok (.iload_n 2, 1) := by decide +kernel
theorem zd_Program_add_27 : decode prog_7_method_4_code 27 = .ok (.iastore, 1) := by decide +kernel
theorem zd_Program_add_28 : decode prog_7_method_4_code 28 = .ok (.aload_n 0, 1) := by decide +kernel
theorem zd_Program_add_29 : decode prog_7_method_4_code 29 = .ok (.getfield 18, 3) := by decide +kernel
theorem zd_Program_add_32 : decode prog_7_method_4_code 32 = .ok (.aload_n 0, 1) := by decide +kernel
theorem zd_Program_add_33 : decode prog_7_method_4_code 33 = .ok (.getfield 62, 3) := by decide +kernel
theorem zd_Program_add_36 : decode prog_7_method_4_code 36 = .ok (.iload_n 3, 1) := by decide +kernel
theorem zd_Program_add_37 : decode prog_7_method_4_code 37 = .ok (.iastore, 1) := by decide +kernel
theorem zd_Program_add_38 : decode prog_7_method_4_code 38 = .ok (.aload_n 0, 1) := by decide +kernel
theorem zd_Program_add_39 : decode prog_7_method_4_code 39 = .ok (.getfield 21, 3) := by decide +kernel
theorem zd_Program_add_42 : decode prog_7_method_4_code 42 = .ok (.aload_n 0, 1) := by decide +kernel
theorem zd_Program_add_43 : decode prog_7_method_4_code 43 = .ok (.getfield 62, 3) := by decide +kernel
theorem zd_Program_add_46 : decode prog_7_method_4_code 46 = .ok (.iload 4, 2) := by decide +kernel
theorem zd_Program_add_48 : decode prog_7_method_4_code 48 = .ok (.iastore, 1) := by decide +kernel
theorem zd_Program_add_49 : decode prog_7_method_4_code 49 = .ok (.aload_n 0, 1) := by decide +kernel
theorem zd_Program_add_50 : decode prog_7_method_4_code 50 = .ok (.getfield 24, 3) := by decide +kernel
theorem zd_Program_add_53 : decode prog_7_method_4_code 53 = .ok (.aload_n 0, 1) := by decide +kernel
theorem zd_Program_add_54 : decode prog_7_method_4_code 54 = .ok (.getfield 62, 3) := by decide +kernel
theorem zd_Program_add_57 : decode prog_7_method_4_code 57 = .ok (.aload_n 0, 1) := by decide +kernel
theorem zd_Program_add_58 : decode prog_7_method_4_code 58 = .ok (.getfield 66, 3) := by decide +kernel
theorem zd_Program_add_61 : decode prog_7_method_4_code 61 = .ok (.iastore, 1) := by decide +kernel
theorem zd_Program_add_62 : decode prog_7_method_4_code 62 = .ok (.iload_n 1, 1) := by decide +kernel
theorem zd_Program_add_63 : decode prog_7_method_4_code 63 = .ok (.iconst 3, 1) := by decide +kernel
theorem zd_Program_add_64 : decode prog_7_method_4_code 64 = .ok (.if_icmp .ne 17, 3) := by decide +kernel
theorem zd_Program_add_67 : decode prog_7_method_4_code 67 = .ok (.aload_n 0, 1) := by decide +kernel
theorem zd_Program_add_68 : decode prog_7_method_4_code 68 = .ok (.getfield 36, 3) := by decide +kernel
theorem zd_Program_add_71 : decode prog_7_method_4_code 71 = .ok (.iload_n 2, 1) := by decide +kernel
theorem zd_Program_add_72 : decode prog_7_method_4_code 72 = .ok (.dup2, 1) := by decide +kernel
theorem zd_Program_add_73 : decode prog_7_method_4_code 73 = .ok (.laload, 1) := by decide +kernel
theorem zd_Program_add_74 : decode prog_7_method_4_code 74 = .ok (.lload 5, 2) := by decide +kernel
theorem zd_Program_add_76 : decode prog_7_method_4_code 76 = .ok (.lor, 1) := by decide +kernel
theorem zd_Program_add_77 : decode prog_7_method_4_code 77 = .ok (.lastore, 1) := by decide +kernel
theorem zd_Program_add_78 : decode prog_7_method_4_code 78 = .ok (.goto 19, 3) := by decide +kernel
theorem zd_Program_add_81 : decode prog_7_method_4_code 81 = .ok (.iload_n 1, 1) := by decide +kernel
theorem zd_Program_add_82 : decode prog_7_method_4_code 82 = .ok (.iconst 5, 1) := by decide +kernel
theorem zd_Program_add_83 : decode prog_7_method_4_code 83 = .ok (.if_icmp .ne 14, 3) := by decide +kernel
theorem zd_Program_add_86 : decode prog_7_method_4_code 86 = .ok (.aload_n 0, 1) := by decide +kernel
theorem zd_Program_add_87 : decode prog_7_method_4_code 87 = .ok (.dup, 1) := by decide +kernel
theorem zd_Program_add_88 : decode prog_7_method_4_code 88 = .ok (.getfield 58, 3) := by decide +kernel
theorem zd_Program_add_91 : decode prog_7_method_4_code 91 = .ok (.lload 5, 2) := by decide +kernel
theorem zd_Program_add_93 : decode prog_7_method_4_code 93 = .ok (.lor, 1) := by decide +kernel
theorem zd_Program_add_94 : decode prog_7_method_4_code 94 = .ok (.putfield 58, 3) := by decide +kernel
theorem zd_Program_add_97 : decode prog_7_method_4_code 97 = .ok (.aload_n 0, 1) := by decide +kernel
theorem zd_Program_add_98 : decode prog_7_method_4_code 98 = .ok (.dup, 1) := by decide +kernel
theorem zd_Program_add_99 : decode prog_7_method_4_code 99 = .ok (.getfield 62, 3) := by decide +kernel
theorem zd_Program_add_102 : decode prog_7_method_4_code 102 = .ok (.iconst 1, 1) := by decide +kernel
theorem zd_Program_add_103 : decode prog_7_method_4_code 103 = .ok (.iadd, 1) := by decide +kernel
theorem zd_Program_add_104 : decode prog_7_method_4_code 104 = .ok (.putfield 62, 3) := by decide +kernel
theorem zd_Program_add_107 : decode prog_7_method_4_code 107 = .ok (.return_, 1) := by decide +kernel
theorem zd_Terms_read_0 : decode prog_9_method_3_code 0 = .ok (.aload_n 0, 1) := by decide +kernel
theorem zd_Terms_read_1 : decode prog_9_method_3_code 1 = .ok (.getfield 31, 3) := by decide +kernel
theorem zd_Terms_read_4 : decode prog_9_method_3_code 4 = .ok (.istore_n 2, 1) := by decide +kernel
theorem zd_Terms_read_5 : decode prog_9_method_3_code 5 = .ok (.aload_n 0, 1) := by decide +kernel
theorem zd_Terms_read_6 : decode prog_9_method_3_code 6 = .ok (.iconst 0, 1) := by decide +kernel
theorem zd_Terms_read_7 : decode prog_9_method_3_code 7 = .ok (.putfield 35, 3) := by decide +kernel
theorem zd_Terms_read_10 : decode prog_9_method_3_code 10 = .ok (.aload_n 0, 1) := by decide +kernel
theorem zd_Terms_read_11 : decode prog_9_method_3_code 11 = .ok (.iconst 0, 1) := by decide +kernel
theorem zd_Terms_read_12 : decode prog_9_method_3_code 12 = .ok (.putfield 38, 3) := by decide +kernel
theorem zd_Terms_read_15 : decode prog_9_method_3_code 15 = .ok (.aload_n 0, 1) := by decide +kernel
theorem zd_Terms_read_16 : decode prog_9_method_3_code 16 = .ok (.iload_n 1, 1) := by decide +kernel
theorem zd_Terms_read_17 : decode prog_9_method_3_code 17 = .ok (.putfield 41, 3) := by decide +kernel
theorem zd_Terms_read_20 : decode prog_9_method_3_code 20 = .ok (.aload_n 0, 1) := by decide +kernel
theorem zd_Terms_read_21 : decode prog_9_method_3_code 21 = .ok (.iconst 0, 1) := by decide +kernel
theorem zd_Terms_read_22 : decode prog_9_method_3_code 22 = .ok (.putfield 44, 3) := by decide +kernel
theorem zd_Terms_read_25 : decode prog_9_method_3_code 25 = .ok (.iconst 1, 1) := by decide +kernel
theorem zd_Terms_read_26 : decode prog_9_method_3_code 26 = .ok (.istore_n 3, 1) := by decide +kernel
theorem zd_Terms_read_27 : decode prog_9_method_3_code 27 = .ok (.iconst 0, 1) := by decide +kernel
theorem zd_Terms_read_28 : decode prog_9_method_3_code 28 = .ok (.istore 4, 2) := by decide +kernel
theorem zd_Terms_read_30 : decode prog_9_method_3_code 30 = .ok (.iload 4, 2) := by decide +kernel
theorem zd_Terms_read_32 : decode prog_9_method_3_code 32 = .ok (.sipush 240, 3) := by decide +kernel
theorem zd_Terms_read_35 : decode prog_9_method_3_code 35 = .ok (.if_icmp .ge 31, 3) := by decide +kernel
theorem zd_Terms_read_38 : decode prog_9_method_3_code 38 = .ok (.iload_n 3, 1) := by decide +kernel
theorem zd_Terms_read_39 : decode prog_9_method_3_code 39 = .ok (.ifCond .eq 27, 3) := by decide +kernel
theorem zd_Terms_read_42 : decode prog_9_method_3_code 42 = .ok (.aload_n 0, 1) := by decide +kernel
theorem zd_Terms_read_43 : decode prog_9_method_3_code 43 = .ok (.invokevirtual 47, 3) := by decide +kernel
theorem zd_Terms_read_46 : decode prog_9_method_3_code 46 = .ok (.aload_n 0, 1) := by decide +kernel
theorem zd_Terms_read_47 : decode prog_9_method_3_code 47 = .ok (.invokevirtual 50, 3) := by decide +kernel
theorem zd_Terms_read_50 : decode prog_9_method_3_code 50 = .ok (.aload_n 0, 1) := by decide +kernel
theorem zd_Terms_read_51 : decode prog_9_method_3_code 51 = .ok (.iload_n 1, 1) := by decide +kernel
theorem zd_Terms_read_52 : decode prog_9_method_3_code 52 = .ok (.invokevirtual 53, 3) := by decide +kernel
theorem zd_Terms_read_55 : decode prog_9_method_3_code 55 = .ok (.aload_n 0, 1) := by decide +kernel
theorem zd_Terms_read_56 : decode prog_9_method_3_code 56 = .ok (.invokevirtual 57, 3) := by decide +kernel
theorem zd_Terms_read_59 : decode prog_9_method_3_code 59 = .ok (.istore_n 3, 1) := by decide +kernel
theorem zd_Terms_read_60 : decode prog_9_method_3_code 60 = .ok (.iinc 4 1, 3) := by decide +kernel
theorem zd_Terms_read_63 : decode prog_9_method_3_code 63 = .ok (.goto (-33), 3) := by decide +kernel
theorem zd_Terms_read_66 : decode prog_9_method_3_code 66 = .ok (.aload_n 0, 1) := by decide +kernel
theorem zd_Terms_read_67 : decode prog_9_method_3_code 67 = .ok (.getfield 41, 3) := by decide +kernel
theorem zd_Terms_read_70 : decode prog_9_method_3_code 70 = .ok (.iload_n 1, 1) := by decide +kernel
theorem zd_Terms_read_71 : decode prog_9_method_3_code 71 = .ok (.if_icmp .le 10, 3) := by decide +kernel
theorem zd_Terms_read_74 : decode prog_9_method_3_code 74 = .ok (.aload_n 0, 1) := by decide +kernel
theorem zd_Terms_read_75 : decode prog_9_method_3_code 75 = .ok (.getfield 13, 3) := by decide +kernel
theorem zd_Terms_read_78 : decode prog_9_method_3_code 78 = .ok (.invokevirtual 61, 3) := by decide +kernel
theorem zd_Terms_read_81 : decode prog_9_method_3_code 81 = .ok (.aload_n 0, 1) := by decide +kernel
theorem zd_Terms_read_82 : decode prog_9_method_3_code 82 = .ok (.bipush 16, 2) := by decide +kernel
theorem zd_Terms_read_84 : decode prog_9_method_3_code 84 = .ok (.invokevirtual 64, 3) := by decide +kernel
theorem zd_Terms_read_87 : decode prog_9_method_3_code 87 = .ok (.aload_n 0, 1) := by decide +kernel
theorem zd_Terms_read_88 : decode prog_9_method_3_code 88 = .ok (.bipush 22, 2) := by decide +kernel
theorem zd_Terms_read_90 : decode prog_9_method_3_code 90 = .ok (.invokevirtual 67, 3) := by decide +kernel
theorem zd_Terms_read_93 : decode prog_9_method_3_code 93 = .ok (.iload_n 2, 1) := by decide +kernel
theorem zd_Terms_read_94 : decode prog_9_method_3_code 94 = .ok (.ireturn, 1) := by decide +kernel
theorem zd_Terms_readClosings_0 : decode prog_9_method_6_code 0 = .ok (.iconst 0, 1) := by decide +kernel
theorem zd_Terms_readClosings_1 : decode prog_9_method_6_code 1 = .ok (.istore_n 2, 1) := by decide +kernel
theorem zd_Terms_readClosings_2 : decode prog_9_method_6_code 2 = .ok (.iload_n 2, 1) := by decide +kernel
theorem zd_Terms_readClosings_3 : decode prog_9_method_6_code 3 = .ok (.sipush 240, 3) := by decide +kernel
theorem zd_Terms_readClosings_6 : decode prog_9_method_6_code 6 = .ok (.if_icmp .ge 72, 3) := by decide +kernel
theorem zd_Terms_readClosings_9 : decode prog_9_method_6_code 9 = .ok (.aload_n 0, 1) := by decide +kernel
theorem zd_Terms_readClosings_10 : decode prog_9_method_6_code 10 = .ok (.getfield 41, 3) := by decide +kernel
theorem zd_Terms_readClosings_13 : decode prog_9_method_6_code 13 = .ok (.iload_n 1, 1) := by decide +kernel
theorem zd_Terms_readClosings_14 : decode prog_9_method_6_code 14 = .ok (.if_icmp .le 64, 3) := by decide +kernel
theorem zd_Terms_readClosings_17 : decode prog_9_method_6_code 17 = .ok (.aload_n 0, 1) := by decide +kernel
theorem zd_Terms_readClosings_18 : decode prog_9_method_6_code 18 = .ok (.getfield 13, 3) := by decide +kernel
theorem zd_Terms_readClosings_21 : decode prog_9_method_6_code 21 = .ok (.invokevirtual 70, 3) := by decide +kernel
theorem zd_Terms_readClosings_24 : decode prog_9_method_6_code 24 = .ok (.bipush 41, 2) := by decide +kernel
theorem zd_Terms_readClosings_26 : decode prog_9_method_6_code 26 = .ok (.if_icmp .ne 52, 3) := by decide +kernel
theorem zd_Terms_readClosings_29 : decode prog_9_method_6_code 29 = .ok (.aload_n 0, 1) := by decide +kernel
theorem zd_Terms_readClosings_30 : decode prog_9_method_6_code 30 = .ok (.getfield 13, 3) := by decide +kernel
theorem zd_Terms_readClosings_33 : decode prog_9_method_6_code 33 = .ok (.invokevirtual 74, 3) := by decide +kernel
theorem zd_Terms_readClosings_36 : decode prog_9_method_6_code 36 = .ok (.aload_n 0, 1) := by decide +kernel
theorem zd_Terms_readClosings_37 : decode prog_9_method_6_code 37 = .ok (.bipush 16, 2) := by decide +kernel
theorem zd_Terms_readClosings_39 : decode prog_9_method_6_code 39 = .ok (.invokevirtual 64, 3) := by decide +kernel
theorem zd_Terms_readClosings_42 : decode prog_9_method_6_code 42 = .ok (.aload_n 0, 1) := by decide +kernel
theorem zd_Terms_readClosings_43 : decode prog_9_method_6_code 43 = .ok (.dup, 1) := by decide +kernel
theorem zd_Terms_readClosings_44 : decode prog_9_method_6_code 44 = .ok (.getfield 35, 3) := by decide +kernel
theorem zd_Terms_readClosings_47 : decode prog_9_method_6_code 47 = .ok (.iconst 1, 1) := by decide +kernel
theorem zd_Terms_readClosings_48 : decode prog_9_method_6_code 48 = .ok (.isub, 1) := by decide +kernel
theorem zd_Terms_readClosings_49 : decode prog_9_method_6_code 49 = .ok (.putfield 35, 3) := by decide +kernel
theorem zd_Terms_readClosings_52 : decode prog_9_method_6_code 52 = .ok (.aload_n 0, 1) := by decide +kernel
theorem zd_Terms_readClosings_53 : decode prog_9_method_6_code 53 = .ok (.dup, 1) := by decide +kernel
theorem zd_Terms_readClosings_54 : decode prog_9_method_6_code 54 = .ok (.getfield 41, 3) := by decide +kernel
theorem zd_Terms_readClosings_57 : decode prog_9_method_6_code 57 = .ok (.iconst 1, 1) := by decide +kernel
theorem zd_Terms_readClosings_58 : decode prog_9_method_6_code 58 = .ok (.isub, 1) := by decide +kernel
theorem zd_Terms_readClosings_59 : decode prog_9_method_6_code 59 = .ok (.putfield 41, 3) := by decide +kernel
theorem zd_Terms_readClosings_62 : decode prog_9_method_6_code 62 = .ok (.aload_n 0, 1) := by decide +kernel
theorem zd_Terms_readClosings_63 : decode prog_9_method_6_code 63 = .ok (.dup, 1) := by decide +kernel
theorem zd_Terms_readClosings_64 : decode prog_9_method_6_code 64 = .ok (.getfield 44, 3) := by decide +kernel
theorem zd_Terms_readClosings_67 : decode prog_9_method_6_code 67 = .ok (.iconst 1, 1) := by decide +kernel
theorem zd_Terms_readClosings_68 : decode prog_9_method_6_code 68 = .ok (.ishr, 1) := by decide +kernel
theorem zd_Terms_readClosings_69 : decode prog_9_method_6_code 69 = .ok (.putfield 44, 3) := by decide +kernel
theorem zd_Terms_readClosings_72 : decode prog_9_method_6_code 72 = .ok (.iinc 2 1, 3) := by decide +kernel
theorem zd_Terms_readClosings_75 : decode prog_9_method_6_code 75 = .ok (.goto (-73), 3) := by decide +kernel
theorem zd_Terms_readClosings_78 : decode prog_9_method_6_code 78 = .ok (.return_, 1) := by decide +kernel
theorem zd_Terms_readSign_0 : decode prog_9_method_7_code 0 = .ok (.aload_n 0, 1) := by decide +kernel
theorem zd_Terms_readSign_1 : decode prog_9_method_7_code 1 = .ok (.getfield 13, 3) := by decide +kernel
theorem zd_Terms_readSign_4 : decode prog_9_method_7_code 4 = .ok (.invokevirtual 70, 3) := by decide +kernel
theorem zd_Terms_readSign_7 : decode prog_9_method_7_code 7 = .ok (.invokestatic 89, 3) := by decide +kernel
theorem zd_Terms_readSign_10 : decode prog_9_method_7_code 10 = .ok (.istore_n 1, 1) := by decide +kernel
theorem zd_Terms_readSign_11 : decode prog_9_method_7_code 11 = .ok (.iload_n 1, 1) := by decide +kernel
theorem zd_Terms_readSign_12 : decode prog_9_method_7_code 12 = .ok (.bipush 16, 2) := by decide +kernel
theorem zd_Terms_readSign_14 : decode prog_9_method_7_code 14 = .ok (.if_icmp .eq 9, 3) := by decide +kernel
theorem zd_Terms_readSign_17 : decode prog_9_method_7_code 17 = .ok (.iload_n 1, 1) := by decide +kernel
theorem zd_Terms_readSign_18 : decode prog_9_method_7_code 18 = .ok (.bipush 17, 2) := by decide +kernel
theorem zd_Terms_readSign_20 : decode prog_9_method_7_code 20 = .ok (.if_icmp .ne 7, 3) := by decide +kernel
theorem zd_Terms_readSign_23 : decode prog_9_method_7_code 23 = .ok (.iconst 1, 1) := by decide +kernel
theorem zd_Terms_readSign_24 : decode prog_9_method_7_code 24 = .ok (.goto 4, 3) := by decide +kernel
theorem zd_Terms_readSign_27 : decode prog_9_method_7_code 27 = .ok (.iconst 0, 1) := by decide +kernel
theorem zd_Terms_readSign_28 : decode prog_9_method_7_code 28 = .ok (.istore_n 2, 1) := by decide +kernel
theorem zd_Terms_readSign_29 : decode prog_9_method_7_code 29 = .ok (.iload_n 1, 1) := by decide +kernel
theorem zd_Terms_readSign_30 : decode prog_9_method_7_code 30 = .ok (.iconst (-1), 1) := by decide +kernel
theorem zd_Terms_readSign_31 : decode prog_9_method_7_code 31 = .ok (.if_icmp .eq 16, 3) := by decide +kernel
theorem zd_Terms_readSign_34 : decode prog_9_method_7_code 34 = .ok (.iload_n 2, 1) := by decide +kernel
theorem zd_Terms_readSign_35 : decode prog_9_method_7_code 35 = .ok (.ifCond .eq 14, 3) := by decide +kernel
theorem zd_Terms_readSign_38 : decode prog_9_method_7_code 38 = .ok (.aload_n 0, 1) := by decide +kernel
theorem zd_Terms_readSign_39 : decode prog_9_method_7_code 39 = .ok (.getfield 44, 3) := by decide +kernel
theorem zd_Terms_readSign_42 : decode prog_9_method_7_code 42 = .ok (.iconst 1, 1) := by decide +kernel
theorem zd_Terms_readSign_43 : decode prog_9_method_7_code 43 = .ok (.iand, 1) := by decide +kernel
theorem zd_Terms_readSign_44 : decode prog_9_method_7_code 44 = .ok (.ifCond .eq 5, 3) := by decide +kernel
theorem zd_Terms_readSign_47 : decode prog_9_method_7_code 47 = .ok (.iconst 0, 1) := by decide +kernel
theorem zd_Terms_readSign_48 : decode prog_9_method_7_code 48 = .ok (.ireturn, 1) := by decide +kernel
theorem zd_Terms_readSign_49 : decode prog_9_method_7_code 49 = .ok (.aload_n 0, 1) := by decide +kernel
theorem zd_Terms_readSign_50 : decode prog_9_method_7_code 50 = .ok (.getfield 13, 3) := by decide +kernel
theorem zd_Terms_readSign_53 : decode prog_9_method_7_code 53 = .ok (.invokevirtual 74, 3) := by decide +kernel
theorem zd_Terms_readSign_56 : decode prog_9_method_7_code 56 = .ok (.aload_n 0, 1) := by decide +kernel
theorem zd_Terms_readSign_57 : decode prog_9_method_7_code 57 = .ok (.iload_n 1, 1) := by decide +kernel
theorem zd_Terms_readSign_58 : decode prog_9_method_7_code 58 = .ok (.invokevirtual 64, 3) := by decide +kernel
theorem zd_Terms_readSign_61 : decode prog_9_method_7_code 61 = .ok (.aload_n 0, 1) := by decide +kernel
theorem zd_Terms_readSign_62 : decode prog_9_method_7_code 62 = .ok (.iload_n 1, 1) := by decide +kernel
theorem zd_Terms_readSign_63 : decode prog_9_method_7_code 63 = .ok (.invokevirtual 77, 3) := by decide +kernel
theorem zd_Terms_readSign_66 : decode prog_9_method_7_code 66 = .ok (.iload_n 2, 1) := by decide +kernel
theorem zd_Terms_readSign_67 : decode prog_9_method_7_code 67 = .ok (.ifCond .eq 13, 3) := by decide +kernel
theorem zd_Terms_readSign_70 : decode prog_9_method_7_code 70 = .ok (.aload_n 0, 1) := by decide +kernel
theorem zd_Terms_readSign_71 : decode prog_9_method_7_code 71 = .ok (.dup, 1) := by decide +kernel
theorem zd_Terms_readSign_72 : decode prog_9_method_7_code 72 = .ok (.getfield 44, 3) := by decide +kernel
theorem zd_Terms_readSign_75 : decode prog_9_method_7_code 75 = .ok (.iconst 1, 1) := by decide +kernel
theorem zd_Terms_readSign_76 : decode prog_9_method_7_code 76 = .ok (.ior, 1) := by decide +kernel
theorem zd_Terms_readSign_77 : decode prog_9_method_7_code 77 = .ok (.putfield 44, 3) := by decide +kernel
theorem zd_Terms_readSign_80 : decode prog_9_method_7_code 80 = .ok (.iconst 1, 1) := by decide +kernel
theorem zd_Terms_readSign_81 : decode prog_9_method_7_code 81 = .ok (.ireturn, 1) := by decide +kernel
theorem zd_Terms_signOf_0 : decode prog_9_method_8_code 0 = .ok (.iload_n 0, 1) := by decide +kernel
theorem zd_Terms_signOf_1 : decode prog_9_method_8_code 1 = .ok (.lookupswitch 66 #[(42, 63), (43, 57), (45, 60), (60, 54), (61, 51)], 51) := by decide +kernel
theorem zd_Terms_signOf_52 : decode prog_9_method_8_code 52 = .ok (.bipush 16, 2) := by decide +kernel
theorem zd_Terms_signOf_54 : decode prog_9_method_8_code 54 = .ok (.ireturn, 1) := by decide +kernel
theorem zd_Terms_signOf_55 : decode prog_9_method_8_code 55 = .ok (.bipush 17, 2) := by decide +kernel
theorem zd_Terms_signOf_57 : decode prog_9_method_8_code 57 = .ok (.ireturn, 1) := by decide +kernel
theorem zd_Terms_signOf_58 : decode prog_9_method_8_code 58 = .ok (.bipush 18, 2) := by decide +kernel
theorem zd_Terms_signOf_60 : decode prog_9_method_8_code 60 = .ok (.ireturn, 1) := by decide +kernel
theorem zd_Terms_signOf_61 : decode prog_9_method_8_code 61 = .ok (.bipush 19, 2) := by decide +kernel
theorem zd_Terms_signOf_63 : decode prog_9_method_8_code 63 = .ok (.ireturn, 1) := by decide +kernel
theorem zd_Terms_signOf_64 : decode prog_9_method_8_code 64 = .ok (.bipush 20, 2) := by decide +kernel
theorem zd_Terms_signOf_66 : decode prog_9_method_8_code 66 = .ok (.ireturn, 1) := by decide +kernel
theorem zd_Terms_signOf_67 : decode prog_9_method_8_code 67 = .ok (.iconst (-1), 1) := by decide +kernel
theorem zd_Terms_signOf_68 : decode prog_9_method_8_code 68 = .ok (.ireturn, 1) := by decide +kernel
theorem zd_Text_expect_0 : decode prog_10_method_9_code 0 = .ok (.aload_n 0, 1) := by decide +kernel
theorem zd_Text_expect_1 : decode prog_10_method_9_code 1 = .ok (.iload_n 1, 1) := by decide +kernel
theorem zd_Text_expect_2 : decode prog_10_method_9_code 2 = .ok (.invokevirtual 32, 3) := by decide +kernel
theorem zd_Text_expect_5 : decode prog_10_method_9_code 5 = .ok (.ifCond .ne 7, 3) := by decide +kernel
theorem zd_Text_expect_8 : decode prog_10_method_9_code 8 = .ok (.aload_n 0, 1) := by decide +kernel
theorem zd_Text_expect_9 : decode prog_10_method_9_code 9 = .ok (.invokevirtual 36, 3) := by decide +kernel
theorem zd_Text_expect_12 : decode prog_10_method_9_code 12 = .ok (.return_, 1) := by decide +kernel
def wc_Terms_readClosings_A_78 (a0 : Int32) (Post : (Nat → Int32) → (Nat → Int64) → (Nat → Nat → Int32) → (Nat → Nat → Int64) → Prop) (PX : String → (Nat → Int32) → (Nat → Int64) → (Nat → Nat → Int32) → (Nat → Nat → Int64) → Prop)  (I : Nat → Int32) (J : Nat → Int64) (B : Nat → Nat → Int32) (D : Nat → Nat → Int64) : Prop :=
  Post I J B D
def wb_Terms_readClosings_A_2 (a0 : Int32) (K2 : Int32 → Int32 → (Nat → Int32) → (Nat → Int64) → (Nat → Nat → Int32) → (Nat → Nat → Int64) → Prop) (Post : (Nat → Int32) → (Nat → Int64) → (Nat → Nat → Int32) → (Nat → Nat → Int64) → Prop) (PX : String → (Nat → Int32) → (Nat → Int64) → (Nat → Nat → Int32) → (Nat → Nat → Int64) → Prop) (x1 : Int32) (x2 : Int32) (I : Nat → Int32) (J : Nat → Int64) (B : Nat → Nat → Int32) (D : Nat → Nat → Int64) : Prop :=
  (((240 : Int32) ≤ x2 → wc_Terms_readClosings_A_78 a0 Post PX I J B D) ∧ (¬ (240 : Int32) ≤ x2 → (((I 14) ≤ x1 → wc_Terms_readClosings_A_78 a0 Post PX I J B D) ∧ (¬ (I 14) ≤ x1 → wp_Text_ahead I J B D  (fun r3 I3 J3 B3 D3 => ((¬ r3 = 41 → wc_Terms_readClosings_A_78 a0 Post PX I3 J3 B3 D3) ∧ (r3 = 41 → wp_Text_skip I3 J3 B3 D3  (fun I5 J5 B5 D5 => wp_Terms_release_A I5 J5 B5 D5 16 (fun I6 J6 B6 D6 => ∀ z7 : Int32, z7 = ((I6 12) - 1) → ∀ z8 : Int32, z8 = ((I6 14) - 1) → ∀ z9 : Int32, z9 = ((I6 15) >>> (1 &&& 31)) → ∀ z10 : Int32, z10 = (x2 + 1) → K2 x1 z10 (upd (upd (upd I6 12 z7) 14 z8) 15 z9) J6 B6 D6) PX))))))))
def wl_Terms_readClosings_A_2 (a0 : Int32) (Post : (Nat → Int32) → (Nat → Int64) → (Nat → Nat → Int32) → (Nat → Nat → Int64) → Prop) (PX : String → (Nat → Int32) → (Nat → Int64) → (Nat → Nat → Int32) → (Nat → Nat → Int64) → Prop) (n : Nat) : Int32 → Int32 → (Nat → Int32) → (Nat → Int64) → (Nat → Nat → Int32) → (Nat → Nat → Int64) → Prop := Nat.rec (fun _ _ _ _ _ _ => False) (fun _ r => wb_Terms_readClosings_A_2 a0 r Post PX) n
def wp_Terms_readClosings_A (I : Nat → Int32) (J : Nat → Int64) (B : Nat → Nat → Int32) (D : Nat → Nat → Int64) (a0 : Int32) (Post : (Nat → Int32) → (Nat → Int64) → (Nat → Nat → Int32) → (Nat → Nat → Int64) → Prop) (PX : String → (Nat → Int32) → (Nat → Int64) → (Nat → Nat → Int32) → (Nat → Nat → Int64) → Prop) : Prop :=
  ∃ n : Nat, wl_Terms_readClosings_A_2 a0 Post PX n a0 0 I J B D
set_option maxHeartbeats 8000000 in
set_option maxRecDepth 100000 in
theorem wJ_Terms_readClosings_A_78 {p : Program} {l : Launch} {e : Env} {s : State} {m : MethodId} {below : List Frame} {meth : Method} {c : Code} {A : Nat → Prop} (G : va_G) (K : Nat → ClassId) (ad : Nat → Nat) (sv : Value) (a0 : Int32) (Post : (Nat → Int32) → (Nat → Int64) → (Nat → Nat → Int32) → (Nat → Nat → Int64) → Prop) (PX : String → (Nat → Int32) → (Nat → Int64) → (Nat → Nat → Int32) → (Nat → Nat → Int64) → Prop) (C : zCy p l s m ([.ref (ad 4), .int a0] : List Value).toArray meth c A G K prog_9_method_6_code none 3 "LassoFinder$Terms") : ∀  (I : Nat → Int32) (J : Nat → Int64) (B : Nat → Nat → Int32) (D : Nat → Nat → Int64) (ls : Array Slot) (H : Heap) (locs : List Loc), wc_Terms_readClosings_A_78 a0 Post PX  I J B D → lv_has ls 3 [] → zW G A s.heap (wX ad K sv I J B D) H locs → W p l e { frames := 1, cells := 1, slots := 6, locals := 23 } s m ([.ref (ad 4), .int a0] : List Value).toArray below meth c H locs 0 0 (zyMQ below (va_Qv (fun u : zS => Post u.1 u.2.1 u.2.2.1 u.2.2.2) (fun u t => zPost G K A (wX ad K sv u.1 u.2.1 u.2.2.1 u.2.2.2) t) A) (zYC (fun E (u : zS) => PX E u.1 u.2.1 u.2.2.1 u.2.2.2) (fun u => wX ad K sv u.1 u.2.1 u.2.2.1 u.2.2.2) G K A) ([.ref (ad 4), .int a0] : List Value).toArray s 1 6 A) (F0 m 78 ls []) := by
  obtain ⟨hx, hb, hr, hml, hts, hown, hlocks, hA, hK, hT, hnt, hlt⟩ := id C
  intro  I J B D ls H locs hok hl hw
  unfold wc_Terms_readClosings_A_78 at hok
  exact zy_ret (z_vret (u := (I, J, B, D)) hx hb hr hlocks hw (List.range 65) wX_all wX_nd hok (Nat.le_of_ble_eq_true rfl) (Nat.le_of_ble_eq_true rfl) zd_Terms_readClosings_78)
set_option maxHeartbeats 8000000 in
set_option maxRecDepth 100000 in
theorem wB_Terms_readClosings_A_2 {p : Program} {l : Launch} {e : Env} {s : State} {m : MethodId} {below : List Frame} {meth : Method} {c : Code} {A : Nat → Prop} (G : va_G) (K : Nat → ClassId) (ad : Nat → Nat) (sv : Value) (a0 : Int32) (Post : (Nat → Int32) → (Nat → Int64) → (Nat → Nat → Int32) → (Nat → Nat → Int64) → Prop) (PX : String → (Nat → Int32) → (Nat → Int64) → (Nat → Nat → Int32) → (Nat → Nat → Int64) → Prop) (C : zCy p l s m ([.ref (ad 4), .int a0] : List Value).toArray meth c A G K prog_9_method_6_code none 3 "LassoFinder$Terms") (K2 : Int32 → Int32 → (Nat → Int32) → (Nat → Int64) → (Nat → Nat → Int32) → (Nat → Nat → Int64) → Prop) (kh2 : ∀ (x1 : Int32) (x2 : Int32) (I : Nat → Int32) (J : Nat → Int64) (B : Nat → Nat → Int32) (D : Nat → Nat → Int64) (ls : Array Slot) (H : Heap) (locs : List Loc), K2 x1 x2 I J B D → lv_has ls 3 [(0, .ref (ad 4)), (1, .int x1), (2, .int x2)] → zW G A s.heap (wX ad K sv I J B D) H locs → W p l e { frames := 1, cells := 1, slots := 6, locals := 23 } s m ([.ref (ad 4), .int a0] : List Value).toArray below meth c H locs 0 0 (zyMQ below (va_Qv (fun u : zS => Post u.1 u.2.1 u.2.2.1 u.2.2.2) (fun u t => zPost G K A (wX ad K sv u.1 u.2.1 u.2.2.1 u.2.2.2) t) A) (zYC (fun E (u : zS) => PX E u.1 u.2.1 u.2.2.1 u.2.2.2) (fun u => wX ad K sv u.1 u.2.1 u.2.2.1 u.2.2.2) G K A) ([.ref (ad 4), .int a0] : List Value).toArray s 1 6 A) (F0 m 2 ls [])) : ∀ (x1 : Int32) (x2 : Int32) (I : Nat → Int32) (J : Nat → Int64) (B : Nat → Nat → Int32) (D : Nat → Nat → Int64) (ls : Array Slot) (H : Heap) (locs : List Loc), wb_Terms_readClosings_A_2 a0 K2 Post PX x1 x2 I J B D → lv_has ls 3 [(0, .ref (ad 4)), (1, .int x1), (2, .int x2)] → zW G A s.heap (wX ad K sv I J B D) H locs → W p l e { frames := 1, cells := 1, slots := 6, locals := 23 } s m ([.ref (ad 4), .int a0] : List Value).toArray below meth c H locs 0 0 (zyMQ below (va_Qv (fun u : zS => Post u.1 u.2.1 u.2.2.1 u.2.2.2) (fun u t => zPost G K A (wX ad K sv u.1 u.2.1 u.2.2.1 u.2.2.2) t) A) (zYC (fun E (u : zS) => PX E u.1 u.2.1 u.2.2.1 u.2.2.2) (fun u => wX ad K sv u.1 u.2.1 u.2.2.1 u.2.2.2) G K A) ([.ref (ad 4), .int a0] : List Value).toArray s 1 6 A) (F0 m 2 ls []) := by
  obtain ⟨hx, hb, hr, hml, hts, hown, hlocks, hA, hK, hT, hnt, hlt⟩ := id C
  intro x1 x2 I J B D ls H locs hok hl hw
  unfold wb_Terms_readClosings_A_2 at hok
  refine lv_iload_n hx hb zd_Terms_readClosings_2 rfl (lv_at hl 2 rfl) ?_
  refine lv_sipush (v := 240) hx hb zd_Terms_readClosings_3 (by decide) ?_
  refine lv_icmp_ge (tgt := 78) hx hb zd_Terms_readClosings_6 (by decide) (fun hc1 => ?_) (fun hc1 => ?_)
  · have hok := hok.1 hc1
    exact wJ_Terms_readClosings_A_78 G K ad sv a0 Post PX C I J B D ls H locs hok (lv_sub hl [] rfl) hw
  · have hok := hok.2 hc1
    refine lv_aload_n hx hb zd_Terms_readClosings_9 rfl (lv_at hl 0 rfl) ?_
    refine z_get (v := .int (I 14)) hx hb hts hown hK hw zZ8 4 wX_g4 8 (by decide) zn_436 rfl zd_Terms_readClosings_10 ?_
    refine lv_iload_n hx hb zd_Terms_readClosings_13 rfl (lv_at hl 1 rfl) ?_
    refine lv_icmp_le (tgt := 78) hx hb zd_Terms_readClosings_14 (by decide) (fun hc2 => ?_) (fun hc2 => ?_)
    · have hok := hok.1 hc2
      exact wJ_Terms_readClosings_A_78 G K ad sv a0 Post PX C I J B D ls H locs hok (lv_sub hl [] rfl) hw
    · have hok := hok.2 hc2
      refine lv_aload_n hx hb zd_Terms_readClosings_17 rfl (lv_at hl 0 rfl) ?_
      refine z_get (v := .ref (ad 1)) hx hb hts hown hK hw zZ8 4 wX_g4 0 (by decide) zn_437 rfl zd_Terms_readClosings_18 ?_
      refine z_calli (w1 := fun (u : zS) => wX ad K sv u.1 u.2.1 u.2.2.1 u.2.2.2) (wr := []) (z_runV (q0 := 1) (wc := (wX ad K sv I J B D)) (As := []) (rest := []) ⟨hx, hb, hml, hown, hts⟩ (w_Text_ahead l G K ad sv I J B D  _ H.size hok) zf_Text_ahead zn_364 ⟨Nat.le_of_ble_eq_true rfl, Nat.le_of_ble_eq_true rfl⟩ hK hw (List.range 65) wX_all wX_nd wX_g1 rfl rfl hl.1 rfl (Nat.le_of_ble_eq_true rfl) zd_Terms_readClosings_21 ⟨Nat.le_of_ble_eq_true rfl, Nat.le_of_ble_eq_true rfl⟩) hw hA (List.range 65) [] wX_all rfl (by decide) (fun i hi => by cases hi) (fun r3 u H locs hok hw => ?_)
      obtain ⟨I3, J3, B3, D3⟩ := u
      dsimp only at hok
      have hw : zW G A s.heap (wX ad K sv I3 J3 B3 D3) H locs := hw
      refine lv_bipush (v := 41) hx hb zd_Terms_readClosings_24 (by decide) ?_
      refine lv_icmp_ne (tgt := 78) hx hb zd_Terms_readClosings_26 (by decide) (fun hc4 => ?_) (fun hc4 => ?_)
      · have hok := hok.1 hc4
        exact wJ_Terms_readClosings_A_78 G K ad sv a0 Post PX C I3 J3 B3 D3 ls H locs hok (lv_sub hl [] rfl) hw
      · have hok := hok.2 hc4
        refine lv_aload_n hx hb zd_Terms_readClosings_29 rfl (lv_at hl 0 rfl) ?_
        refine z_get (v := .ref (ad 1)) hx hb hts hown hK hw zZ8 4 wX_g4 0 (by decide) zn_437 rfl zd_Terms_readClosings_30 ?_
        refine z_callv (w1 := fun (u : zS) => wX ad K sv u.1 u.2.1 u.2.2.1 u.2.2.2) (wr := []) (z_runV (q0 := 1) (wc := (wX ad K sv I3 J3 B3 D3)) (As := []) (rest := []) ⟨hx, hb, hml, hown, hts⟩ (w_Text_skip l G K ad sv I3 J3 B3 D3  _ H.size hok) zf_Text_skip zn_366 ⟨Nat.le_of_ble_eq_true rfl, Nat.le_of_ble_eq_true rfl⟩ hK hw (List.range 65) wX_all wX_nd wX_g1 rfl rfl hl.1 rfl (Nat.le_of_ble_eq_true rfl) zd_Terms_readClosings_33 ⟨Nat.le_of_ble_eq_true rfl, Nat.le_of_ble_eq_true rfl⟩) hw hA (List.range 65) [] wX_all rfl (by decide) (fun i hi => by cases hi) (fun u H locs hok hw => ?_)
        obtain ⟨I5, J5, B5, D5⟩ := u
        dsimp only at hok
        have hw : zW G A s.heap (wX ad K sv I5 J5 B5 D5) H locs := hw
        refine lv_aload_n hx hb zd_Terms_readClosings_36 rfl (lv_at hl 0 rfl) ?_
        refine lv_bipush (v := 16) hx hb zd_Terms_readClosings_37 (by decide) ?_
        refine z_yV (q0 := 4) (wc := (wX ad K sv I5 J5 B5 D5)) (wr := []) (w1 := fun (u : zS) => wX ad K sv u.1 u.2.1 u.2.2.1 u.2.2.2) (As := [.int 16]) (rest := []) ⟨hx, hb, hml, hown, hts⟩ (w_Terms_release_A l hlt G K ad sv I5 J5 B5 D5 16 _ _ H.size hok) zf_Terms_release zn_372 ⟨Nat.le_of_ble_eq_true rfl, Nat.le_of_ble_eq_true rfl⟩ hK hT hw hA (List.range 65) [] wX_all rfl wX_nd (by decide) (fun i hi => by cases hi) wX_g4 rfl rfl hl.1 rfl (Nat.le_of_ble_eq_true rfl) zd_Terms_readClosings_39 ⟨Nat.le_of_ble_eq_true rfl, Nat.le_of_ble_eq_true rfl⟩ (fun v st9 t9 L9 h0 hq hL => ?_) (fun E ce q9 u H locs hu hw hce hcv hcl => z_yout (u := u) hnt hlocks hce hcv hcl hw (List.range 65) wX_all wX_nd hu (Nat.le_of_ble_eq_true rfl) (Nat.le_of_ble_eq_true rfl))
        obtain ⟨⟨u, hv9, hok, hB9⟩, hF9⟩ := hq
        cases hv9
        have hw := z_back (wr := []) hw hA (List.range 65) [] wX_all rfl (by decide) (fun i hi => by cases hi) h0 hL hB9 hF9
        obtain ⟨I6, J6, B6, D6⟩ := u
        dsimp only at hok
        generalize t9.heap = H at hw ⊢
        generalize locs ++ L9 = locs at hw ⊢
        have hw : zW G A s.heap (wX ad K sv I6 J6 B6 D6) H locs := hw
        refine W.eq (g2 := F0 m 42 ls []) rfl ?_
        refine lv_aload_n hx hb zd_Terms_readClosings_42 rfl (lv_at hl 0 rfl) ?_
        refine lv_dup hx hb zd_Terms_readClosings_43 rfl ?_
        refine z_get (v := .int (I6 12)) hx hb hts hown hK hw zZ8 4 wX_g4 5 (by decide) zn_438 rfl zd_Terms_readClosings_44 ?_
        refine lv_iconst (v := 1) hx hb zd_Terms_readClosings_47 (by decide) ?_
        refine lv_isub hx hb zd_Terms_readClosings_48 ?_
        refine lv_topi (fun z7 ez7 => ?_)
        have hok := hok z7 ez7
        refine z_put (v := .int z7) hx hb hts hown hK hw zZ8 4 wX_g4 5 (by decide) zn_438 rfl rfl rfl (Nat.le_of_ble_eq_true rfl) zd_Terms_readClosings_49 (fun H locs hw => ?_)
        have hw := wX_sI12 hw
        refine lv_aload_n hx hb zd_Terms_readClosings_52 rfl (lv_at hl 0 rfl) ?_
        refine lv_dup hx hb zd_Terms_readClosings_53 rfl ?_
        refine z_get (v := .int (I6 14)) hx hb hts hown hK hw zZ8 4 wX_g4 8 (by decide) zn_436 rfl zd_Terms_readClosings_54 ?_
        refine lv_iconst (v := 1) hx hb zd_Terms_readClosings_57 (by decide) ?_
        refine lv_isub hx hb zd_Terms_readClosings_58 ?_
        refine lv_topi (fun z8 ez8 => ?_)
        have hok := hok z8 ez8
        refine z_put (v := .int z8) hx hb hts hown hK hw zZ8 4 wX_g4 8 (by decide) zn_436 rfl rfl rfl (Nat.le_of_ble_eq_true rfl) zd_Terms_readClosings_59 (fun H locs hw => ?_)
        have hw := wX_sI14 hw
        refine lv_aload_n hx hb zd_Terms_readClosings_62 rfl (lv_at hl 0 rfl) ?_
        refine lv_dup hx hb zd_Terms_readClosings_63 rfl ?_
        refine z_get (v := .int (I6 15)) hx hb hts hown hK hw zZ8 4 wX_g4 9 (by decide) zn_440 rfl zd_Terms_readClosings_64 ?_
        refine lv_iconst (v := 1) hx hb zd_Terms_readClosings_67 (by decide) ?_
        refine lv_ishr hx hb zd_Terms_readClosings_68 ?_
        refine lv_topi (fun z9 ez9 => ?_)
        have hok := hok z9 ez9
        refine z_put (v := .int z9) hx hb hts hown hK hw zZ8 4 wX_g4 9 (by decide) zn_440 rfl rfl rfl (Nat.le_of_ble_eq_true rfl) zd_Terms_readClosings_69 (fun H locs hw => ?_)
        have hw := wX_sI15 hw
        obtain ⟨z10, ez10⟩ : ∃ z : Int32, z = (x2 + 1) := ⟨_, rfl⟩
        have hok := hok z10 ez10
        refine lv_iinc (v := z10) hx hb zd_Terms_readClosings_72 hl (k := 2) rfl ez10.symm (by decide) rfl (fun ls hl => ?_)
        have hl : lv_has ls 3 [(2, .int z10), (0, .ref (ad 4)), (1, .int x1)] := hl
        refine lv_goto (tgt := 2) hx hb zd_Terms_readClosings_75 (by decide) ?_
        exact kh2 x1 z10 (upd (upd (upd I6 12 z7) 14 z8) 15 z9) J6 B6 D6 ls H locs hok (lv_sub hl [1, 2, 0] rfl) hw
theorem wL_Terms_readClosings_A_2 {p : Program} {l : Launch} {e : Env} {s : State} {m : MethodId} {below : List Frame} {meth : Method} {c : Code} {A : Nat → Prop} (G : va_G) (K : Nat → ClassId) (ad : Nat → Nat) (sv : Value) (a0 : Int32) (Post : (Nat → Int32) → (Nat → Int64) → (Nat → Nat → Int32) → (Nat → Nat → Int64) → Prop) (PX : String → (Nat → Int32) → (Nat → Int64) → (Nat → Nat → Int32) → (Nat → Nat → Int64) → Prop) (C : zCy p l s m ([.ref (ad 4), .int a0] : List Value).toArray meth c A G K prog_9_method_6_code none 3 "LassoFinder$Terms") : ∀ (n : Nat) (x1 : Int32) (x2 : Int32) (I : Nat → Int32) (J : Nat → Int64) (B : Nat → Nat → Int32) (D : Nat → Nat → Int64) (ls : Array Slot) (H : Heap) (locs : List Loc), wl_Terms_readClosings_A_2 a0 Post PX n x1 x2 I J B D → lv_has ls 3 [(0, .ref (ad 4)), (1, .int x1), (2, .int x2)] → zW G A s.heap (wX ad K sv I J B D) H locs → W p l e { frames := 1, cells := 1, slots := 6, locals := 23 } s m ([.ref (ad 4), .int a0] : List Value).toArray below meth c H locs 0 0 (zyMQ below (va_Qv (fun u : zS => Post u.1 u.2.1 u.2.2.1 u.2.2.2) (fun u t => zPost G K A (wX ad K sv u.1 u.2.1 u.2.2.1 u.2.2.2) t) A) (zYC (fun E (u : zS) => PX E u.1 u.2.1 u.2.2.1 u.2.2.2) (fun u => wX ad K sv u.1 u.2.1 u.2.2.1 u.2.2.2) G K A) ([.ref (ad 4), .int a0] : List Value).toArray s 1 6 A) (F0 m 2 ls []) := by
  intro n
  induction n with
  | zero => intro x1 x2 I J B D ls H locs hok; exact hok.elim
  | succ n ih => exact wB_Terms_readClosings_A_2 G K ad sv a0 Post PX C (wl_Terms_readClosings_A_2 a0 Post PX n) ih
set_option maxHeartbeats 8000000 in
set_option maxRecDepth 100000 in
theorem w_Terms_readClosings_A (l : Launch) (hlt : l.stackTraces = false) (G : va_G) (K : Nat → ClassId) (ad : Nat → Nat) (sv : Value) (I : Nat → Int32) (J : Nat → Int64) (B : Nat → Nat → Int32) (D : Nat → Nat → Int64) (a0 : Int32) (Post : (Nat → Int32) → (Nat → Int64) → (Nat → Nat → Int32) → (Nat → Nat → Int64) → Prop) (PX : String → (Nat → Int32) → (Nat → Int64) → (Nat → Nat → Int32) → (Nat → Nat → Int64) → Prop) (sz : Nat) (hok : wp_Terms_readClosings_A I J B D a0 Post PX) : zyMet l zy_Terms_readClosings (Cond.code zy_Terms_readClosings prog_9_method_6_code 3 none :: zTB) { frames := 1, cells := 1, slots := 6, locals := 23 } (va_Pc [.ref (ad 4), .int a0] (zPreY G K (wX ad K sv I J B D) sz)) (va_Qv (fun u : zS => Post u.1 u.2.1 u.2.2.1 u.2.2.2) (fun u t => zPost G K (va_A (wX ad K sv I J B D) sz) (wX ad K sv u.1 u.2.1 u.2.2.1 u.2.2.2) t) (va_A (wX ad K sv I J B D) sz)) (zYC (fun E (u : zS) => PX E u.1 u.2.1 u.2.2.1 u.2.2.2) (fun u => wX ad K sv u.1 u.2.1 u.2.2.1 u.2.2.2) G K (va_A (wX ad K sv I J B D) sz)) 1 6 (va_A (wX ad K sv I J B D) sz) := by
  refine zMetY (y := zy_Terms_readClosings) (av := [.ref (ad 4), .int a0]) (maxL := 3) (cc := prog_9_method_6_code) (ret := none) (W0 := (wX ad K sv I J B D)) (sz := sz) (G := G) (K := K) (wt := zTB) (mc := 1) (ms := 6) (Qf := fun A => va_Qv (fun u : zS => Post u.1 u.2.1 u.2.2.1 u.2.2.2) (fun u t => zPost G K A (wX ad K sv u.1 u.2.1 u.2.2.1 u.2.2.2) t) A) (Xf := fun A => (zYC (fun E (u : zS) => PX E u.1 u.2.1 u.2.2.1 u.2.2.2) (fun u => wX ad K sv u.1 u.2.1 u.2.2.1 u.2.2.2) G K A)) (by decide) (Nat.le_of_ble_eq_true rfl) ?_
  intro p e s m below meth c ls A hx hb hr hml hts hown hlocks hin hA hK H locs hw hsz hl hT hnt
  clear hsz
  have hown : s.vm.findClass "LassoFinder$Terms" = some m.cls := hown
  have C : zCy p l s m ([.ref (ad 4), .int a0] : List Value).toArray meth c A G K prog_9_method_6_code none 3 "LassoFinder$Terms" := ⟨hx, hb, hr, hml, hts, hown, hlocks, hA, hK, hT, hnt, hlt⟩
  have hl : lv_has ls 3 [(0, .ref (ad 4)), (1, .int a0)] := hl
  have hw : zW G A s.heap (wX ad K sv I J B D) H locs := hw
  unfold wp_Terms_readClosings_A at hok
  refine lv_iconst (v := 0) hx hb zd_Terms_readClosings_0 (by decide) ?_
  refine lv_istore_n hx hb zd_Terms_readClosings_1 rfl hl (by decide) rfl (fun ls hl => ?_)
  have hl : lv_has ls 3 [(2, .int 0), (0, .ref (ad 4)), (1, .int a0)] := hl
  obtain ⟨n9, hok⟩ := hok
  exact wL_Terms_readClosings_A_2 G K ad sv a0 Post PX C n9 a0 0 I J B D ls H locs hok (lv_sub hl [1, 2, 0] rfl) hw
def wp_Terms_signOf (I : Nat → Int32) (J : Nat → Int64) (B : Nat → Nat → Int32) (D : Nat → Nat → Int64) (a0 : Int32) (Post : Int32 → (Nat → Int32) → (Nat → Int64) → (Nat → Nat → Int32) → (Nat → Nat → Int64) → Prop) : Prop :=
  ((a0 = 42 → Post 20 I J B D) ∧ (a0 = 43 → Post 18 I J B D) ∧ (a0 = 45 → Post 19 I J B D) ∧ (a0 = 60 → Post 17 I J B D) ∧ (a0 = 61 → Post 16 I J B D) ∧ (¬ a0 = 42 → ¬ a0 = 43 → ¬ a0 = 45 → ¬ a0 = 60 → ¬ a0 = 61 → Post (-1) I J B D))
set_option maxHeartbeats 8000000 in
set_option maxRecDepth 100000 in
theorem w_Terms_signOf (l : Launch) (G : va_G) (K : Nat → ClassId) (ad : Nat → Nat) (sv : Value) (I : Nat → Int32) (J : Nat → Int64) (B : Nat → Nat → Int32) (D : Nat → Nat → Int64) (a0 : Int32) (Post : Int32 → (Nat → Int32) → (Nat → Int64) → (Nat → Nat → Int32) → (Nat → Nat → Int64) → Prop) (sz : Nat) (hok : wp_Terms_signOf I J B D a0 Post) : Met l zy_Terms_signOf (Cond.code zy_Terms_signOf prog_9_method_8_code 1 (some .int) :: zTB) { frames := 0, cells := 0, slots := 0, locals := 0 } (va_Pc [.int a0] (zPre G K (wX ad K sv I J B D) sz)) (va_Qi (fun (r : Int32) (u : zS) => Post r u.1 u.2.1 u.2.2.1 u.2.2.2) (fun u t => zPost G K (va_A (wX ad K sv I J B D) sz) (wX ad K sv u.1 u.2.1 u.2.2.1 u.2.2.2) t) (va_A (wX ad K sv I J B D) sz)) 0 0 (va_A (wX ad K sv I J B D) sz) := by
  refine zMet (y := zy_Terms_signOf) (av := [.int a0]) (maxL := 1) (cc := prog_9_method_8_code) (ret := (some .int)) (W0 := (wX ad K sv I J B D)) (sz := sz) (G := G) (K := K) (wt := zTB) (mc := 0) (ms := 0) (Qf := fun A => va_Qi (fun (r : Int32) (u : zS) => Post r u.1 u.2.1 u.2.2.1 u.2.2.2) (fun u t => zPost G K A (wX ad K sv u.1 u.2.1 u.2.2.1 u.2.2.2) t) A) (by decide) (Nat.le_of_ble_eq_true rfl) ?_
  intro p e s m below meth c ls A hx hb hr hml hts hown hlocks hin hA hK H locs hw hsz hl
  clear hsz
  have hown : s.vm.findClass "LassoFinder$Terms" = some m.cls := hown
  have C : zCx p s m ([.int a0] : List Value).toArray meth c A G K prog_9_method_8_code (some .int) 1 "LassoFinder$Terms" := ⟨hx, hb, hr, hml, hts, hown, hlocks, hA, hK⟩
  have hl : lv_has ls 1 [(0, .int a0)] := hl
  have hw : zW G A s.heap (wX ad K sv I J B D) H locs := hw
  unfold wp_Terms_signOf at hok
  refine lv_iload_n hx hb zd_Terms_signOf_0 rfl (lv_at hl 0 rfl) ?_
  by_cases hs1 : a0 = 42
  · have hok := hok.1 hs1
    refine lv_lookup (off := 63) (tgt := 64) hx hb zd_Terms_signOf_1 (by decide) (by rw [hs1]; decide) (by decide) ?_
    refine lv_bipush (v := 20) hx hb zd_Terms_signOf_64 (by decide) ?_
    exact (z_iret (u := (I, J, B, D)) hx hb hr hlocks rfl hw (List.range 65) wX_all wX_nd hok (Nat.le_of_ble_eq_true rfl) (Nat.le_of_ble_eq_true rfl) zd_Terms_signOf_66)
  by_cases hs2 : a0 = 43
  · have hok := hok.2.1 hs2
    refine lv_lookup (off := 57) (tgt := 58) hx hb zd_Terms_signOf_1 (by decide) (by rw [hs2]; decide) (by decide) ?_
    refine lv_bipush (v := 18) hx hb zd_Terms_signOf_58 (by decide) ?_
    exact (z_iret (u := (I, J, B, D)) hx hb hr hlocks rfl hw (List.range 65) wX_all wX_nd hok (Nat.le_of_ble_eq_true rfl) (Nat.le_of_ble_eq_true rfl) zd_Terms_signOf_60)
  by_cases hs3 : a0 = 45
  · have hok := hok.2.2.1 hs3
    refine lv_lookup (off := 60) (tgt := 61) hx hb zd_Terms_signOf_1 (by decide) (by rw [hs3]; decide) (by decide) ?_
    refine lv_bipush (v := 19) hx hb zd_Terms_signOf_61 (by decide) ?_
    exact (z_iret (u := (I, J, B, D)) hx hb hr hlocks rfl hw (List.range 65) wX_all wX_nd hok (Nat.le_of_ble_eq_true rfl) (Nat.le_of_ble_eq_true rfl) zd_Terms_signOf_63)
  by_cases hs4 : a0 = 60
  · have hok := hok.2.2.2.1 hs4
    refine lv_lookup (off := 54) (tgt := 55) hx hb zd_Terms_signOf_1 (by decide) (by rw [hs4]; decide) (by decide) ?_
    refine lv_bipush (v := 17) hx hb zd_Terms_signOf_55 (by decide) ?_
    exact (z_iret (u := (I, J, B, D)) hx hb hr hlocks rfl hw (List.range 65) wX_all wX_nd hok (Nat.le_of_ble_eq_true rfl) (Nat.le_of_ble_eq_true rfl) zd_Terms_signOf_57)
  by_cases hs5 : a0 = 61
  · have hok := hok.2.2.2.2.1 hs5
    refine lv_lookup (off := 51) (tgt := 52) hx hb zd_Terms_signOf_1 (by decide) (by rw [hs5]; decide) (by decide) ?_
    refine lv_bipush (v := 16) hx hb zd_Terms_signOf_52 (by decide) ?_
    exact (z_iret (u := (I, J, B, D)) hx hb hr hlocks rfl hw (List.range 65) wX_all wX_nd hok (Nat.le_of_ble_eq_true rfl) (Nat.le_of_ble_eq_true rfl) zd_Terms_signOf_54)
  have hok := hok.2.2.2.2.2 hs1 hs2 hs3 hs4 hs5
  refine lv_lookup (off := 66) (tgt := 67) hx hb zd_Terms_signOf_1 (by decide) (by simp only [lv_osw hs1 (a := 42) (by decide), lv_osw hs2 (a := 43) (by decide), lv_osw hs3 (a := 45) (by decide), lv_osw hs4 (a := 60) (by decide), lv_osw hs5 (a := 61) (by decide)]; rfl) (by decide) ?_
  refine lv_iconst (v := (-1)) hx hb zd_Terms_signOf_67 (by decide) ?_
  exact (z_iret (u := (I, J, B, D)) hx hb hr hlocks rfl hw (List.range 65) wX_all wX_nd hok (Nat.le_of_ble_eq_true rfl) (Nat.le_of_ble_eq_true rfl) zd_Terms_signOf_68)
def wc_Terms_readSign_A_47 (Post : Int32 → (Nat → Int32) → (Nat → Int64) → (Nat → Nat → Int32) → (Nat → Nat → Int64) → Prop) (PX : String → (Nat → Int32) → (Nat → Int64) → (Nat → Nat → Int32) → (Nat → Nat → Int64) → Prop)  (I : Nat → Int32) (J : Nat → Int64) (B : Nat → Nat → Int32) (D : Nat → Nat → Int64) : Prop :=
  Post 0 I J B D
def wc_Terms_readSign_A_80 (Post : Int32 → (Nat → Int32) → (Nat → Int64) → (Nat → Nat → Int32) → (Nat → Nat → Int64) → Prop) (PX : String → (Nat → Int32) → (Nat → Int64) → (Nat → Nat → Int32) → (Nat → Nat → Int64) → Prop)  (I : Nat → Int32) (J : Nat → Int64) (B : Nat → Nat → Int32) (D : Nat → Nat → Int64) : Prop :=
  Post 1 I J B D
def wc_Terms_readSign_A_49 (Post : Int32 → (Nat → Int32) → (Nat → Int64) → (Nat → Nat → Int32) → (Nat → Nat → Int64) → Prop) (PX : String → (Nat → Int32) → (Nat → Int64) → (Nat → Nat → Int32) → (Nat → Nat → Int64) → Prop) (x1 : Int32) (x2 : Int32) (I : Nat → Int32) (J : Nat → Int64) (B : Nat → Nat → Int32) (D : Nat → Nat → Int64) : Prop :=
  wp_Text_skip I J B D  (fun I1 J1 B1 D1 => wp_Terms_release_A I1 J1 B1 D1 x1 (fun I2 J2 B2 D2 => wp_Terms_putOff_A I2 J2 B2 D2 x1 (fun I3 J3 B3 D3 => ((x2 = 0 → wc_Terms_readSign_A_80  Post PX I3 J3 B3 D3) ∧ (¬ x2 = 0 → ∀ z5 : Int32, z5 = ((I3 15) ||| 1) → wc_Terms_readSign_A_80  Post PX (upd I3 15 z5) J3 B3 D3)))) PX)
def wc_Terms_readSign_A_28 (Post : Int32 → (Nat → Int32) → (Nat → Int64) → (Nat → Nat → Int32) → (Nat → Nat → Int64) → Prop) (PX : String → (Nat → Int32) → (Nat → Int64) → (Nat → Nat → Int32) → (Nat → Nat → Int64) → Prop) (x1 : Int32) (y0 : Int32) (I : Nat → Int32) (J : Nat → Int64) (B : Nat → Nat → Int32) (D : Nat → Nat → Int64) : Prop :=
  ((x1 = (-1) → wc_Terms_readSign_A_47  Post PX I J B D) ∧ (¬ x1 = (-1) → ((y0 = 0 → wc_Terms_readSign_A_49  Post PX x1 y0 I J B D) ∧ (¬ y0 = 0 → ∀ z8 : Int32, z8 = ((I 15) &&& 1) → ((z8 = 0 → wc_Terms_readSign_A_49  Post PX x1 y0 I J B D) ∧ (¬ z8 = 0 → wc_Terms_readSign_A_47  Post PX I J B D))))))
def wc_Terms_readSign_A_23 (Post : Int32 → (Nat → Int32) → (Nat → Int64) → (Nat → Nat → Int32) → (Nat → Nat → Int64) → Prop) (PX : String → (Nat → Int32) → (Nat → Int64) → (Nat → Nat → Int32) → (Nat → Nat → Int64) → Prop) (x1 : Int32) (I : Nat → Int32) (J : Nat → Int64) (B : Nat → Nat → Int32) (D : Nat → Nat → Int64) : Prop :=
  wc_Terms_readSign_A_28  Post PX x1 1 I J B D
def wp_Terms_readSign_A (I : Nat → Int32) (J : Nat → Int64) (B : Nat → Nat → Int32) (D : Nat → Nat → Int64) (Post : Int32 → (Nat → Int32) → (Nat → Int64) → (Nat → Nat → Int32) → (Nat → Nat → Int64) → Prop) (PX : String → (Nat → Int32) → (Nat → Int64) → (Nat → Nat → Int32) → (Nat → Nat → Int64) → Prop) : Prop :=
  wp_Text_ahead I J B D  (fun r10 I10 J10 B10 D10 => wp_Terms_signOf I10 J10 B10 D10 r10 (fun r11 I11 J11 B11 D11 => ((r11 = 16 → wc_Terms_readSign_A_23  Post PX r11 I11 J11 B11 D11) ∧ (¬ r11 = 16 → ((¬ r11 = 17 → wc_Terms_readSign_A_28  Post PX r11 0 I11 J11 B11 D11) ∧ (r11 = 17 → wc_Terms_readSign_A_23  Post PX r11 I11 J11 B11 D11))))))
set_option maxHeartbeats 8000000 in
set_option maxRecDepth 100000 in
theorem wJ_Terms_readSign_A_47 {p : Program} {l : Launch} {e : Env} {s : State} {m : MethodId} {below : List Frame} {meth : Method} {c : Code} {A : Nat → Prop} (G : va_G) (K : Nat → ClassId) (ad : Nat → Nat) (sv : Value) (Post : Int32 → (Nat → Int32) → (Nat → Int64) → (Nat → Nat → Int32) → (Nat → Nat → Int64) → Prop) (PX : String → (Nat → Int32) → (Nat → Int64) → (Nat → Nat → Int32) → (Nat → Nat → Int64) → Prop) (C : zCy p l s m ([.ref (ad 4)] : List Value).toArray meth c A G K prog_9_method_7_code (some .boolean) 3 "LassoFinder$Terms") : ∀  (I : Nat → Int32) (J : Nat → Int64) (B : Nat → Nat → Int32) (D : Nat → Nat → Int64) (ls : Array Slot) (H : Heap) (locs : List Loc), wc_Terms_readSign_A_47  Post PX  I J B D → lv_has ls 3 [] → zW G A s.heap (wX ad K sv I J B D) H locs → W p l e { frames := 1, cells := 1, slots := 6, locals := 23 } s m ([.ref (ad 4)] : List Value).toArray below meth c H locs 0 0 (zyMQ below (va_Qi (fun (r : Int32) (u : zS) => Post r u.1 u.2.1 u.2.2.1 u.2.2.2) (fun u t => zPost G K A (wX ad K sv u.1 u.2.1 u.2.2.1 u.2.2.2) t) A) (zYC (fun E (u : zS) => PX E u.1 u.2.1 u.2.2.1 u.2.2.2) (fun u => wX ad K sv u.1 u.2.1 u.2.2.1 u.2.2.2) G K A) ([.ref (ad 4)] : List Value).toArray s 1 6 A) (F0 m 47 ls []) := by
  obtain ⟨hx, hb, hr, hml, hts, hown, hlocks, hA, hK, hT, hnt, hlt⟩ := id C
  intro  I J B D ls H locs hok hl hw
  unfold wc_Terms_readSign_A_47 at hok
  refine lv_iconst (v := 0) hx hb zd_Terms_readSign_47 (by decide) ?_
  exact zy_ret (z_iret (u := (I, J, B, D)) hx hb hr hlocks rfl hw (List.range 65) wX_all wX_nd hok (Nat.le_of_ble_eq_true rfl) (Nat.le_of_ble_eq_true rfl) zd_Terms_readSign_48)
set_option maxHeartbeats 8000000 in
set_option maxRecDepth 100000 in
theorem wJ_Terms_readSign_A_80 {p : Program} {l : Launch} {e : Env} {s : State} {m : MethodId} {below : List Frame} {meth : Method} {c : Code} {A : Nat → Prop} (G : va_G) (K : Nat → ClassId) (ad : Nat → Nat) (sv : Value) (Post : Int32 → (Nat → Int32) → (Nat → Int64) → (Nat → Nat → Int32) → (Nat → Nat → Int64) → Prop) (PX : String → (Nat → Int32) → (Nat → Int64) → (Nat → Nat → Int32) → (Nat → Nat → Int64) → Prop) (C : zCy p l s m ([.ref (ad 4)] : List Value).toArray meth c A G K prog_9_method_7_code (some .boolean) 3 "LassoFinder$Terms") : ∀  (I : Nat → Int32) (J : Nat → Int64) (B : Nat → Nat → Int32) (D : Nat → Nat → Int64) (ls : Array Slot) (H : Heap) (locs : List Loc), wc_Terms_readSign_A_80  Post PX  I J B D → lv_has ls 3 [] → zW G A s.heap (wX ad K sv I J B D) H locs → W p l e { frames := 1, cells := 1, slots := 6, locals := 23 } s m ([.ref (ad 4)] : List Value).toArray below meth c H locs 0 0 (zyMQ below (va_Qi (fun (r : Int32) (u : zS) => Post r u.1 u.2.1 u.2.2.1 u.2.2.2) (fun u t => zPost G K A (wX ad K sv u.1 u.2.1 u.2.2.1 u.2.2.2) t) A) (zYC (fun E (u : zS) => PX E u.1 u.2.1 u.2.2.1 u.2.2.2) (fun u => wX ad K sv u.1 u.2.1 u.2.2.1 u.2.2.2) G K A) ([.ref (ad 4)] : List Value).toArray s 1 6 A) (F0 m 80 ls []) := by
  obtain ⟨hx, hb, hr, hml, hts, hown, hlocks, hA, hK, hT, hnt, hlt⟩ := id C
  intro  I J B D ls H locs hok hl hw
  unfold wc_Terms_readSign_A_80 at hok
  refine lv_iconst (v := 1) hx hb zd_Terms_readSign_80 (by decide) ?_
  exact zy_ret (z_iret (u := (I, J, B, D)) hx hb hr hlocks rfl hw (List.range 65) wX_all wX_nd hok (Nat.le_of_ble_eq_true rfl) (Nat.le_of_ble_eq_true rfl) zd_Terms_readSign_81)
set_option maxHeartbeats 8000000 in
set_option maxRecDepth 100000 in
theorem wJ_Terms_readSign_A_49 {p : Program} {l : Launch} {e : Env} {s : State} {m : MethodId} {below : List Frame} {meth : Method} {c : Code} {A : Nat → Prop} (G : va_G) (K : Nat → ClassId) (ad : Nat → Nat) (sv : Value) (Post : Int32 → (Nat → Int32) → (Nat → Int64) → (Nat → Nat → Int32) → (Nat → Nat → Int64) → Prop) (PX : String → (Nat → Int32) → (Nat → Int64) → (Nat → Nat → Int32) → (Nat → Nat → Int64) → Prop) (C : zCy p l s m ([.ref (ad 4)] : List Value).toArray meth c A G K prog_9_method_7_code (some .boolean) 3 "LassoFinder$Terms") : ∀ (x1 : Int32) (x2 : Int32) (I : Nat → Int32) (J : Nat → Int64) (B : Nat → Nat → Int32) (D : Nat → Nat → Int64) (ls : Array Slot) (H : Heap) (locs : List Loc), wc_Terms_readSign_A_49  Post PX x1 x2 I J B D → lv_has ls 3 [(0, .ref (ad 4)), (1, .int x1), (2, .int x2)] → zW G A s.heap (wX ad K sv I J B D) H locs → W p l e { frames := 1, cells := 1, slots := 6, locals := 23 } s m ([.ref (ad 4)] : List Value).toArray below meth c H locs 0 0 (zyMQ below (va_Qi (fun (r : Int32) (u : zS) => Post r u.1 u.2.1 u.2.2.1 u.2.2.2) (fun u t => zPost G K A (wX ad K sv u.1 u.2.1 u.2.2.1 u.2.2.2) t) A) (zYC (fun E (u : zS) => PX E u.1 u.2.1 u.2.2.1 u.2.2.2) (fun u => wX ad K sv u.1 u.2.1 u.2.2.1 u.2.2.2) G K A) ([.ref (ad 4)] : List Value).toArray s 1 6 A) (F0 m 49 ls []) := by
  obtain ⟨hx, hb, hr, hml, hts, hown, hlocks, hA, hK, hT, hnt, hlt⟩ := id C
  intro x1 x2 I J B D ls H locs hok hl hw
  unfold wc_Terms_readSign_A_49 at hok
  refine lv_aload_n hx hb zd_Terms_readSign_49 rfl (lv_at hl 0 rfl) ?_
  refine z_get (v := .ref (ad 1)) hx hb hts hown hK hw zZ8 4 wX_g4 0 (by decide) zn_437 rfl zd_Terms_readSign_50 ?_
  refine z_callv (w1 := fun (u : zS) => wX ad K sv u.1 u.2.1 u.2.2.1 u.2.2.2) (wr := []) (z_runV (q0 := 1) (wc := (wX ad K sv I J B D)) (As := []) (rest := []) ⟨hx, hb, hml, hown, hts⟩ (w_Text_skip l G K ad sv I J B D  _ H.size hok) zf_Text_skip zn_366 ⟨Nat.le_of_ble_eq_true rfl, Nat.le_of_ble_eq_true rfl⟩ hK hw (List.range 65) wX_all wX_nd wX_g1 rfl rfl hl.1 rfl (Nat.le_of_ble_eq_true rfl) zd_Terms_readSign_53 ⟨Nat.le_of_ble_eq_true rfl, Nat.le_of_ble_eq_true rfl⟩) hw hA (List.range 65) [] wX_all rfl (by decide) (fun i hi => by cases hi) (fun u H locs hok hw => ?_)
  obtain ⟨I1, J1, B1, D1⟩ := u
  dsimp only at hok
  have hw : zW G A s.heap (wX ad K sv I1 J1 B1 D1) H locs := hw
  refine lv_aload_n hx hb zd_Terms_readSign_56 rfl (lv_at hl 0 rfl) ?_
  refine lv_iload_n hx hb zd_Terms_readSign_57 rfl (lv_at hl 1 rfl) ?_
  refine z_yV (q0 := 4) (wc := (wX ad K sv I1 J1 B1 D1)) (wr := []) (w1 := fun (u : zS) => wX ad K sv u.1 u.2.1 u.2.2.1 u.2.2.2) (As := [.int x1]) (rest := []) ⟨hx, hb, hml, hown, hts⟩ (w_Terms_release_A l hlt G K ad sv I1 J1 B1 D1 x1 _ _ H.size hok) zf_Terms_release zn_372 ⟨Nat.le_of_ble_eq_true rfl, Nat.le_of_ble_eq_true rfl⟩ hK hT hw hA (List.range 65) [] wX_all rfl wX_nd (by decide) (fun i hi => by cases hi) wX_g4 rfl rfl hl.1 rfl (Nat.le_of_ble_eq_true rfl) zd_Terms_readSign_58 ⟨Nat.le_of_ble_eq_true rfl, Nat.le_of_ble_eq_true rfl⟩ (fun v st9 t9 L9 h0 hq hL => ?_) (fun E ce q9 u H locs hu hw hce hcv hcl => z_yout (u := u) hnt hlocks hce hcv hcl hw (List.range 65) wX_all wX_nd hu (Nat.le_of_ble_eq_true rfl) (Nat.le_of_ble_eq_true rfl))
  obtain ⟨⟨u, hv9, hok, hB9⟩, hF9⟩ := hq
  cases hv9
  have hw := z_back (wr := []) hw hA (List.range 65) [] wX_all rfl (by decide) (fun i hi => by cases hi) h0 hL hB9 hF9
  obtain ⟨I2, J2, B2, D2⟩ := u
  dsimp only at hok
  generalize t9.heap = H at hw ⊢
  generalize locs ++ L9 = locs at hw ⊢
  have hw : zW G A s.heap (wX ad K sv I2 J2 B2 D2) H locs := hw
  refine W.eq (g2 := F0 m 61 ls []) rfl ?_
  refine lv_aload_n hx hb zd_Terms_readSign_61 rfl (lv_at hl 0 rfl) ?_
  refine lv_iload_n hx hb zd_Terms_readSign_62 rfl (lv_at hl 1 rfl) ?_
  refine z_callv (w1 := fun (u : zS) => wX ad K sv u.1 u.2.1 u.2.2.1 u.2.2.2) (wr := []) (z_runV (q0 := 4) (wc := (wX ad K sv I2 J2 B2 D2)) (As := [.int x1]) (rest := []) ⟨hx, hb, hml, hown, hts⟩ (w_Terms_putOff_A l G K ad sv I2 J2 B2 D2 x1 _ H.size hok) zf_Terms_putOff zn_367 ⟨Nat.le_of_ble_eq_true rfl, Nat.le_of_ble_eq_true rfl⟩ hK hw (List.range 65) wX_all wX_nd wX_g4 rfl rfl hl.1 rfl (Nat.le_of_ble_eq_true rfl) zd_Terms_readSign_63 ⟨Nat.le_of_ble_eq_true rfl, Nat.le_of_ble_eq_true rfl⟩) hw hA (List.range 65) [] wX_all rfl (by decide) (fun i hi => by cases hi) (fun u H locs hok hw => ?_)
  obtain ⟨I3, J3, B3, D3⟩ := u
  dsimp only at hok
  have hw : zW G A s.heap (wX ad K sv I3 J3 B3 D3) H locs := hw
  refine lv_iload_n hx hb zd_Terms_readSign_66 rfl (lv_at hl 2 rfl) ?_
  refine lv_if_eq (tgt := 80) hx hb zd_Terms_readSign_67 (by decide) (fun hc4 => ?_) (fun hc4 => ?_)
  · have hok := hok.1 hc4
    exact wJ_Terms_readSign_A_80 G K ad sv  Post PX C I3 J3 B3 D3 ls H locs hok (lv_sub hl [] rfl) hw
  · have hok := hok.2 hc4
    refine lv_aload_n hx hb zd_Terms_readSign_70 rfl (lv_at hl 0 rfl) ?_
    refine lv_dup hx hb zd_Terms_readSign_71 rfl ?_
    refine z_get (v := .int (I3 15)) hx hb hts hown hK hw zZ8 4 wX_g4 9 (by decide) zn_440 rfl zd_Terms_readSign_72 ?_
    refine lv_iconst (v := 1) hx hb zd_Terms_readSign_75 (by decide) ?_
    refine lv_ior hx hb zd_Terms_readSign_76 ?_
    refine lv_topi (fun z5 ez5 => ?_)
    have hok := hok z5 ez5
    refine z_put (v := .int z5) hx hb hts hown hK hw zZ8 4 wX_g4 9 (by decide) zn_440 rfl rfl rfl (Nat.le_of_ble_eq_true rfl) zd_Terms_readSign_77 (fun H locs hw => ?_)
    have hw := wX_sI15 hw
    exact wJ_Terms_readSign_A_80 G K ad sv  Post PX C (upd I3 15 z5) J3 B3 D3 ls H locs hok (lv_sub hl [] rfl) hw
set_option maxHeartbeats 8000000 in
set_option maxRecDepth 100000 in
theorem wJ_Terms_readSign_A_28 {p : Program} {l : Launch} {e : Env} {s : State} {m : MethodId} {below : List Frame} {meth : Method} {c : Code} {A : Nat → Prop} (G : va_G) (K : Nat → ClassId) (ad : Nat → Nat) (sv : Value) (Post : Int32 → (Nat → Int32) → (Nat → Int64) → (Nat → Nat → Int32) → (Nat → Nat → Int64) → Prop) (PX : String → (Nat → Int32) → (Nat → Int64) → (Nat → Nat → Int32) → (Nat → Nat → Int64) → Prop) (C : zCy p l s m ([.ref (ad 4)] : List Value).toArray meth c A G K prog_9_method_7_code (some .boolean) 3 "LassoFinder$Terms") : ∀ (x1 : Int32) (y0 : Int32) (I : Nat → Int32) (J : Nat → Int64) (B : Nat → Nat → Int32) (D : Nat → Nat → Int64) (ls : Array Slot) (H : Heap) (locs : List Loc), wc_Terms_readSign_A_28  Post PX x1 y0 I J B D → lv_has ls 3 [(0, .ref (ad 4)), (1, .int x1)] → zW G A s.heap (wX ad K sv I J B D) H locs → W p l e { frames := 1, cells := 1, slots := 6, locals := 23 } s m ([.ref (ad 4)] : List Value).toArray below meth c H locs 0 0 (zyMQ below (va_Qi (fun (r : Int32) (u : zS) => Post r u.1 u.2.1 u.2.2.1 u.2.2.2) (fun u t => zPost G K A (wX ad K sv u.1 u.2.1 u.2.2.1 u.2.2.2) t) A) (zYC (fun E (u : zS) => PX E u.1 u.2.1 u.2.2.1 u.2.2.2) (fun u => wX ad K sv u.1 u.2.1 u.2.2.1 u.2.2.2) G K A) ([.ref (ad 4)] : List Value).toArray s 1 6 A) (F0 m 28 ls [.int y0]) := by
  obtain ⟨hx, hb, hr, hml, hts, hown, hlocks, hA, hK, hT, hnt, hlt⟩ := id C
  intro x1 y0 I J B D ls H locs hok hl hw
  unfold wc_Terms_readSign_A_28 at hok
  refine lv_istore_n hx hb zd_Terms_readSign_28 rfl hl (by decide) rfl (fun ls hl => ?_)
  have hl : lv_has ls 3 [(2, .int y0), (0, .ref (ad 4)), (1, .int x1)] := hl
  refine lv_iload_n hx hb zd_Terms_readSign_29 rfl (lv_at hl 2 rfl) ?_
  refine lv_iconst (v := (-1)) hx hb zd_Terms_readSign_30 (by decide) ?_
  refine lv_icmp_eq (tgt := 47) hx hb zd_Terms_readSign_31 (by decide) (fun hc6 => ?_) (fun hc6 => ?_)
  · have hok := hok.1 hc6
    exact wJ_Terms_readSign_A_47 G K ad sv  Post PX C I J B D ls H locs hok (lv_sub hl [] rfl) hw
  · have hok := hok.2 hc6
    refine lv_iload_n hx hb zd_Terms_readSign_34 rfl (lv_at hl 0 rfl) ?_
    refine lv_if_eq (tgt := 49) hx hb zd_Terms_readSign_35 (by decide) (fun hc7 => ?_) (fun hc7 => ?_)
    · have hok := hok.1 hc7
      exact wJ_Terms_readSign_A_49 G K ad sv  Post PX C x1 y0 I J B D ls H locs hok (lv_sub hl [1, 2, 0] rfl) hw
    · have hok := hok.2 hc7
      refine lv_aload_n hx hb zd_Terms_readSign_38 rfl (lv_at hl 1 rfl) ?_
      refine z_get (v := .int (I 15)) hx hb hts hown hK hw zZ8 4 wX_g4 9 (by decide) zn_440 rfl zd_Terms_readSign_39 ?_
      refine lv_iconst (v := 1) hx hb zd_Terms_readSign_42 (by decide) ?_
      refine lv_iand hx hb zd_Terms_readSign_43 ?_
      refine lv_topi (fun z8 ez8 => ?_)
      have hok := hok z8 ez8
      refine lv_if_eq (tgt := 49) hx hb zd_Terms_readSign_44 (by decide) (fun hc9 => ?_) (fun hc9 => ?_)
      · have hok := hok.1 hc9
        exact wJ_Terms_readSign_A_49 G K ad sv  Post PX C x1 y0 I J B D ls H locs hok (lv_sub hl [1, 2, 0] rfl) hw
      · have hok := hok.2 hc9
        exact wJ_Terms_readSign_A_47 G K ad sv  Post PX C I J B D ls H locs hok (lv_sub hl [] rfl) hw
set_option maxHeartbeats 8000000 in
set_option maxRecDepth 100000 in
theorem wJ_Terms_readSign_A_23 {p : Program} {l : Launch} {e : Env} {s : State} {m : MethodId} {below : List Frame} {meth : Method} {c : Code} {A : Nat → Prop} (G : va_G) (K : Nat → ClassId) (ad : Nat → Nat) (sv : Value) (Post : Int32 → (Nat → Int32) → (Nat → Int64) → (Nat → Nat → Int32) → (Nat → Nat → Int64) → Prop) (PX : String → (Nat → Int32) → (Nat → Int64) → (Nat → Nat → Int32) → (Nat → Nat → Int64) → Prop) (C : zCy p l s m ([.ref (ad 4)] : List Value).toArray meth c A G K prog_9_method_7_code (some .boolean) 3 "LassoFinder$Terms") : ∀ (x1 : Int32) (I : Nat → Int32) (J : Nat → Int64) (B : Nat → Nat → Int32) (D : Nat → Nat → Int64) (ls : Array Slot) (H : Heap) (locs : List Loc), wc_Terms_readSign_A_23  Post PX x1 I J B D → lv_has ls 3 [(0, .ref (ad 4)), (1, .int x1)] → zW G A s.heap (wX ad K sv I J B D) H locs → W p l e { frames := 1, cells := 1, slots := 6, locals := 23 } s m ([.ref (ad 4)] : List Value).toArray below meth c H locs 0 0 (zyMQ below (va_Qi (fun (r : Int32) (u : zS) => Post r u.1 u.2.1 u.2.2.1 u.2.2.2) (fun u t => zPost G K A (wX ad K sv u.1 u.2.1 u.2.2.1 u.2.2.2) t) A) (zYC (fun E (u : zS) => PX E u.1 u.2.1 u.2.2.1 u.2.2.2) (fun u => wX ad K sv u.1 u.2.1 u.2.2.1 u.2.2.2) G K A) ([.ref (ad 4)] : List Value).toArray s 1 6 A) (F0 m 23 ls []) := by
  obtain ⟨hx, hb, hr, hml, hts, hown, hlocks, hA, hK, hT, hnt, hlt⟩ := id C
  intro x1 I J B D ls H locs hok hl hw
  unfold wc_Terms_readSign_A_23 at hok
  refine lv_iconst (v := 1) hx hb zd_Terms_readSign_23 (by decide) ?_
  refine lv_goto (tgt := 28) hx hb zd_Terms_readSign_24 (by decide) ?_
  exact wJ_Terms_readSign_A_28 G K ad sv  Post PX C x1 1 I J B D ls H locs hok (lv_sub hl [0, 1] rfl) hw
set_option maxHeartbeats 8000000 in
set_option maxRecDepth 100000 in
theorem w_Terms_readSign_A (l : Launch) (hlt : l.stackTraces = false) (G : va_G) (K : Nat → ClassId) (ad : Nat → Nat) (sv : Value) (I : Nat → Int32) (J : Nat → Int64) (B : Nat → Nat → Int32) (D : Nat → Nat → Int64) (Post : Int32 → (Nat → Int32) → (Nat → Int64) → (Nat → Nat → Int32) → (Nat → Nat → Int64) → Prop) (PX : String → (Nat → Int32) → (Nat → Int64) → (Nat → Nat → Int32) → (Nat → Nat → Int64) → Prop) (sz : Nat) (hok : wp_Terms_readSign_A I J B D  Post PX) : zyMet l zy_Terms_readSign (Cond.code zy_Terms_readSign prog_9_method_7_code 3 (some .boolean) :: zTB) { frames := 1, cells := 1, slots := 6, locals := 23 } (va_Pc [.ref (ad 4)] (zPreY G K (wX ad K sv I J B D) sz)) (va_Qi (fun (r : Int32) (u : zS) => Post r u.1 u.2.1 u.2.2.1 u.2.2.2) (fun u t => zPost G K (va_A (wX ad K sv I J B D) sz) (wX ad K sv u.1 u.2.1 u.2.2.1 u.2.2.2) t) (va_A (wX ad K sv I J B D) sz)) (zYC (fun E (u : zS) => PX E u.1 u.2.1 u.2.2.1 u.2.2.2) (fun u => wX ad K sv u.1 u.2.1 u.2.2.1 u.2.2.2) G K (va_A (wX ad K sv I J B D) sz)) 1 6 (va_A (wX ad K sv I J B D) sz) := by
  refine zMetY (y := zy_Terms_readSign) (av := [.ref (ad 4)]) (maxL := 3) (cc := prog_9_method_7_code) (ret := (some .boolean)) (W0 := (wX ad K sv I J B D)) (sz := sz) (G := G) (K := K) (wt := zTB) (mc := 1) (ms := 6) (Qf := fun A => va_Qi (fun (r : Int32) (u : zS) => Post r u.1 u.2.1 u.2.2.1 u.2.2.2) (fun u t => zPost G K A (wX ad K sv u.1 u.2.1 u.2.2.1 u.2.2.2) t) A) (Xf := fun A => (zYC (fun E (u : zS) => PX E u.1 u.2.1 u.2.2.1 u.2.2.2) (fun u => wX ad K sv u.1 u.2.1 u.2.2.1 u.2.2.2) G K A)) (by decide) (Nat.le_of_ble_eq_true rfl) ?_
  intro p e s m below meth c ls A hx hb hr hml hts hown hlocks hin hA hK H locs hw hsz hl hT hnt
  clear hsz
  have hown : s.vm.findClass "LassoFinder$Terms" = some m.cls := hown
  have C : zCy p l s m ([.ref (ad 4)] : List Value).toArray meth c A G K prog_9_method_7_code (some .boolean) 3 "LassoFinder$Terms" := ⟨hx, hb, hr, hml, hts, hown, hlocks, hA, hK, hT, hnt, hlt⟩
  have hl : lv_has ls 3 [(0, .ref (ad 4))] := hl
  have hw : zW G A s.heap (wX ad K sv I J B D) H locs := hw
  unfold wp_Terms_readSign_A at hok
  refine lv_aload_n hx hb zd_Terms_readSign_0 rfl (lv_at hl 0 rfl) ?_
  refine z_get (v := .ref (ad 1)) hx hb hts hown hK hw zZ8 4 wX_g4 0 (by decide) zn_437 rfl zd_Terms_readSign_1 ?_
  refine z_calli (w1 := fun (u : zS) => wX ad K sv u.1 u.2.1 u.2.2.1 u.2.2.2) (wr := []) (z_runV (q0 := 1) (wc := (wX ad K sv I J B D)) (As := []) (rest := []) ⟨hx, hb, hml, hown, hts⟩ (w_Text_ahead l G K ad sv I J B D  _ H.size hok) zf_Text_ahead zn_364 ⟨Nat.le_of_ble_eq_true rfl, Nat.le_of_ble_eq_true rfl⟩ hK hw (List.range 65) wX_all wX_nd wX_g1 rfl rfl hl.1 rfl (Nat.le_of_ble_eq_true rfl) zd_Terms_readSign_4 ⟨Nat.le_of_ble_eq_true rfl, Nat.le_of_ble_eq_true rfl⟩) hw hA (List.range 65) [] wX_all rfl (by decide) (fun i hi => by cases hi) (fun r10 u H locs hok hw => ?_)
  obtain ⟨I10, J10, B10, D10⟩ := u
  dsimp only at hok
  have hw : zW G A s.heap (wX ad K sv I10 J10 B10 D10) H locs := hw
  refine z_calli (w1 := fun (u : zS) => wX ad K sv u.1 u.2.1 u.2.2.1 u.2.2.2) (wr := []) (z_runS (wc := (wX ad K sv I10 J10 B10 D10)) (As := [.int r10]) (rest := []) ⟨hx, hb, hml, hown, hts⟩ (w_Terms_signOf l G K ad sv I10 J10 B10 D10 r10 _ H.size hok) zf_Terms_signOf zn_374 ⟨Nat.le_of_ble_eq_true rfl, Nat.le_of_ble_eq_true rfl⟩ hK hw (List.range 65) wX_all wX_nd rfl hl.1 rfl (Nat.le_of_ble_eq_true rfl) zd_Terms_readSign_7 ⟨Nat.le_of_ble_eq_true rfl, Nat.le_of_ble_eq_true rfl⟩) hw hA (List.range 65) [] wX_all rfl (by decide) (fun i hi => by cases hi) (fun r11 u H locs hok hw => ?_)
  obtain ⟨I11, J11, B11, D11⟩ := u
  dsimp only at hok
  have hw : zW G A s.heap (wX ad K sv I11 J11 B11 D11) H locs := hw
  refine lv_istore_n hx hb zd_Terms_readSign_10 rfl hl (by decide) rfl (fun ls hl => ?_)
  have hl : lv_has ls 3 [(1, .int r11), (0, .ref (ad 4))] := hl
  refine lv_iload_n hx hb zd_Terms_readSign_11 rfl (lv_at hl 0 rfl) ?_
  refine lv_bipush (v := 16) hx hb zd_Terms_readSign_12 (by decide) ?_
  refine lv_icmp_eq (tgt := 23) hx hb zd_Terms_readSign_14 (by decide) (fun hc12 => ?_) (fun hc12 => ?_)
  · have hok := hok.1 hc12
    exact wJ_Terms_readSign_A_23 G K ad sv  Post PX C r11 I11 J11 B11 D11 ls H locs hok (lv_sub hl [1, 0] rfl) hw
  · have hok := hok.2 hc12
    refine lv_iload_n hx hb zd_Terms_readSign_17 rfl (lv_at hl 0 rfl) ?_
    refine lv_bipush (v := 17) hx hb zd_Terms_readSign_18 (by decide) ?_
    refine lv_icmp_ne (tgt := 27) hx hb zd_Terms_readSign_20 (by decide) (fun hc13 => ?_) (fun hc13 => ?_)
    · have hok := hok.1 hc13
      refine lv_iconst (v := 0) hx hb zd_Terms_readSign_27 (by decide) ?_
      exact wJ_Terms_readSign_A_28 G K ad sv  Post PX C r11 0 I11 J11 B11 D11 ls H locs hok (lv_sub hl [1, 0] rfl) hw
    · have hok := hok.2 hc13
      exact wJ_Terms_readSign_A_23 G K ad sv  Post PX C r11 I11 J11 B11 D11 ls H locs hok (lv_sub hl [1, 0] rfl) hw
def wc_Terms_read_A_81 (a0 : Int32) (Post : Int32 → (Nat → Int32) → (Nat → Int64) → (Nat → Nat → Int32) → (Nat → Nat → Int64) → Prop) (PX : String → (Nat → Int32) → (Nat → Int64) → (Nat → Nat → Int32) → (Nat → Nat → Int64) → Prop) (x2 : Int32) (I : Nat → Int32) (J : Nat → Int64) (B : Nat → Nat → Int32) (D : Nat → Nat → Int64) : Prop :=
  wp_Terms_release_A I J B D 16 (fun I1 J1 B1 D1 => wp_Terms_add_A I1 J1 B1 D1 22 (fun I2 J2 B2 D2 => Post x2 I2 J2 B2 D2)) PX
def wc_Terms_read_A_66 (a0 : Int32) (Post : Int32 → (Nat → Int32) → (Nat → Int64) → (Nat → Nat → Int32) → (Nat → Nat → Int64) → Prop) (PX : String → (Nat → Int32) → (Nat → Int64) → (Nat → Nat → Int32) → (Nat → Nat → Int64) → Prop) (x1 : Int32) (x2 : Int32) (I : Nat → Int32) (J : Nat → Int64) (B : Nat → Nat → Int32) (D : Nat → Nat → Int64) : Prop :=
  (((I 14) ≤ x1 → wc_Terms_read_A_81 a0 Post PX x2 I J B D) ∧ (¬ (I 14) ≤ x1 → wp_Text_refuse I J B D  (fun I4 J4 B4 D4 => wc_Terms_read_A_81 a0 Post PX x2 I4 J4 B4 D4) PX))
def wb_Terms_read_A_30 (a0 : Int32) (K30 : Int32 → Int32 → Int32 → Int32 → (Nat → Int32) → (Nat → Int64) → (Nat → Nat → Int32) → (Nat → Nat → Int64) → Prop) (Post : Int32 → (Nat → Int32) → (Nat → Int64) → (Nat → Nat → Int32) → (Nat → Nat → Int64) → Prop) (PX : String → (Nat → Int32) → (Nat → Int64) → (Nat → Nat → Int32) → (Nat → Nat → Int64) → Prop) (x1 : Int32) (x2 : Int32) (x3 : Int32) (x4 : Int32) (I : Nat → Int32) (J : Nat → Int64) (B : Nat → Nat → Int32) (D : Nat → Nat → Int64) : Prop :=
  (((240 : Int32) ≤ x4 → wc_Terms_read_A_66 a0 Post PX x1 x2 I J B D) ∧ (¬ (240 : Int32) ≤ x4 → ((x3 = 0 → wc_Terms_read_A_66 a0 Post PX x1 x2 I J B D) ∧ (¬ x3 = 0 → wp_Terms_readOpenings_A I J B D  (fun I7 J7 B7 D7 => wp_Terms_readPart_A I7 J7 B7 D7  (fun I8 J8 B8 D8 => wp_Terms_readClosings_A I8 J8 B8 D8 x1 (fun I9 J9 B9 D9 => wp_Terms_readSign_A I9 J9 B9 D9  (fun r10 I10 J10 B10 D10 => ∀ z11 : Int32, z11 = (x4 + 1) → K30 x1 x2 r10 z11 I10 J10 B10 D10) PX) PX) PX) PX))))
def wl_Terms_read_A_30 (a0 : Int32) (Post : Int32 → (Nat → Int32) → (Nat → Int64) → (Nat → Nat → Int32) → (Nat → Nat → Int64) → Prop) (PX : String → (Nat → Int32) → (Nat → Int64) → (Nat → Nat → Int32) → (Nat → Nat → Int64) → Prop) (n : Nat) : Int32 → Int32 → Int32 → Int32 → (Nat → Int32) → (Nat → Int64) → (Nat → Nat → Int32) → (Nat → Nat → Int64) → Prop := Nat.rec (fun _ _ _ _ _ _ _ _ => False) (fun _ r => wb_Terms_read_A_30 a0 r Post PX) n
def wp_Terms_read_A (I : Nat → Int32) (J : Nat → Int64) (B : Nat → Nat → Int32) (D : Nat → Nat → Int64) (a0 : Int32) (Post : Int32 → (Nat → Int32) → (Nat → Int64) → (Nat → Nat → Int32) → (Nat → Nat → Int64) → Prop) (PX : String → (Nat → Int32) → (Nat → Int64) → (Nat → Nat → Int32) → (Nat → Nat → Int64) → Prop) : Prop :=
  ∃ n : Nat, wl_Terms_read_A_30 a0 Post PX n a0 (I 11) 1 0 (upd (upd (upd (upd I 12 0) 13 0) 14 a0) 15 0) J B D
set_option maxHeartbeats 8000000 in
set_option maxRecDepth 100000 in
theorem wJ_Terms_read_A_81 {p : Program} {l : Launch} {e : Env} {s : State} {m : MethodId} {below : List Frame} {meth : Method} {c : Code} {A : Nat → Prop} (G : va_G) (K : Nat → ClassId) (ad : Nat → Nat) (sv : Value) (a0 : Int32) (Post : Int32 → (Nat → Int32) → (Nat → Int64) → (Nat → Nat → Int32) → (Nat → Nat → Int64) → Prop) (PX : String → (Nat → Int32) → (Nat → Int64) → (Nat → Nat → Int32) → (Nat → Nat → Int64) → Prop) (C : zCy p l s m ([.ref (ad 4), .int a0] : List Value).toArray meth c A G K prog_9_method_3_code (some .int) 5 "LassoFinder$Terms") : ∀ (x2 : Int32) (I : Nat → Int32) (J : Nat → Int64) (B : Nat → Nat → Int32) (D : Nat → Nat → Int64) (ls : Array Slot) (H : Heap) (locs : List Loc), wc_Terms_read_A_81 a0 Post PX x2 I J B D → lv_has ls 5 [(0, .ref (ad 4)), (2, .int x2)] → zW G A s.heap (wX ad K sv I J B D) H locs → W p l e { frames := 8, cells := 1, slots := 6, locals := 123 } s m ([.ref (ad 4), .int a0] : List Value).toArray below meth c H locs 0 0 (zyMQ below (va_Qi (fun (r : Int32) (u : zS) => Post r u.1 u.2.1 u.2.2.1 u.2.2.2) (fun u t => zPost G K A (wX ad K sv u.1 u.2.1 u.2.2.1 u.2.2.2) t) A) (zYC (fun E (u : zS) => PX E u.1 u.2.1 u.2.2.1 u.2.2.2) (fun u => wX ad K sv u.1 u.2.1 u.2.2.1 u.2.2.2) G K A) ([.ref (ad 4), .int a0] : List Value).toArray s 1 6 A) (F0 m 81 ls []) := by
  obtain ⟨hx, hb, hr, hml, hts, hown, hlocks, hA, hK, hT, hnt, hlt⟩ := id C
  intro x2 I J B D ls H locs hok hl hw
  unfold wc_Terms_read_A_81 at hok
  refine lv_aload_n hx hb zd_Terms_read_81 rfl (lv_at hl 0 rfl) ?_
  refine lv_bipush (v := 16) hx hb zd_Terms_read_82 (by decide) ?_
  refine z_yV (q0 := 4) (wc := (wX ad K sv I J B D)) (wr := []) (w1 := fun (u : zS) => wX ad K sv u.1 u.2.1 u.2.2.1 u.2.2.2) (As := [.int 16]) (rest := []) ⟨hx, hb, hml, hown, hts⟩ (w_Terms_release_A l hlt G K ad sv I J B D 16 _ _ H.size hok) zf_Terms_release zn_372 ⟨Nat.le_of_ble_eq_true rfl, Nat.le_of_ble_eq_true rfl⟩ hK hT hw hA (List.range 65) [] wX_all rfl wX_nd (by decide) (fun i hi => by cases hi) wX_g4 rfl rfl hl.1 rfl (Nat.le_of_ble_eq_true rfl) zd_Terms_read_84 ⟨Nat.le_of_ble_eq_true rfl, Nat.le_of_ble_eq_true rfl⟩ (fun v st9 t9 L9 h0 hq hL => ?_) (fun E ce q9 u H locs hu hw hce hcv hcl => z_yout (u := u) hnt hlocks hce hcv hcl hw (List.range 65) wX_all wX_nd hu (Nat.le_of_ble_eq_true rfl) (Nat.le_of_ble_eq_true rfl))
  obtain ⟨⟨u, hv9, hok, hB9⟩, hF9⟩ := hq
  cases hv9
  have hw := z_back (wr := []) hw hA (List.range 65) [] wX_all rfl (by decide) (fun i hi => by cases hi) h0 hL hB9 hF9
  obtain ⟨I1, J1, B1, D1⟩ := u
  dsimp only at hok
  generalize t9.heap = H at hw ⊢
  generalize locs ++ L9 = locs at hw ⊢
  have hw : zW G A s.heap (wX ad K sv I1 J1 B1 D1) H locs := hw
  refine W.eq (g2 := F0 m 87 ls []) rfl ?_
  refine lv_aload_n hx hb zd_Terms_read_87 rfl (lv_at hl 0 rfl) ?_
  refine lv_bipush (v := 22) hx hb zd_Terms_read_88 (by decide) ?_
  refine z_callv (w1 := fun (u : zS) => wX ad K sv u.1 u.2.1 u.2.2.1 u.2.2.2) (wr := []) (z_runV (q0 := 4) (wc := (wX ad K sv I1 J1 B1 D1)) (As := [.int 22]) (rest := []) ⟨hx, hb, hml, hown, hts⟩ (w_Terms_add_A l G K ad sv I1 J1 B1 D1 22 _ H.size hok) zf_Terms_add zn_370 ⟨Nat.le_of_ble_eq_true rfl, Nat.le_of_ble_eq_true rfl⟩ hK hw (List.range 65) wX_all wX_nd wX_g4 rfl rfl hl.1 rfl (Nat.le_of_ble_eq_true rfl) zd_Terms_read_90 ⟨Nat.le_of_ble_eq_true rfl, Nat.le_of_ble_eq_true rfl⟩) hw hA (List.range 65) [] wX_all rfl (by decide) (fun i hi => by cases hi) (fun u H locs hok hw => ?_)
  obtain ⟨I2, J2, B2, D2⟩ := u
  dsimp only at hok
  have hw : zW G A s.heap (wX ad K sv I2 J2 B2 D2) H locs := hw
  refine lv_iload_n hx hb zd_Terms_read_93 rfl (lv_at hl 1 rfl) ?_
  exact zy_ret (z_iret (u := (I2, J2, B2, D2)) hx hb hr hlocks rfl hw (List.range 65) wX_all wX_nd hok (Nat.le_of_ble_eq_true rfl) (Nat.le_of_ble_eq_true rfl) zd_Terms_read_94)
set_option maxHeartbeats 8000000 in
set_option maxRecDepth 100000 in
theorem wJ_Terms_read_A_66 {p : Program} {l : Launch} {e : Env} {s : State} {m : MethodId} {below : List Frame} {meth : Method} {c : Code} {A : Nat → Prop} (G : va_G) (K : Nat → ClassId) (ad : Nat → Nat) (sv : Value) (a0 : Int32) (Post : Int32 → (Nat → Int32) → (Nat → Int64) → (Nat → Nat → Int32) → (Nat → Nat → Int64) → Prop) (PX : String → (Nat → Int32) → (Nat → Int64) → (Nat → Nat → Int32) → (Nat → Nat → Int64) → Prop) (C : zCy p l s m ([.ref (ad 4), .int a0] : List Value).toArray meth c A G K prog_9_method_3_code (some .int) 5 "LassoFinder$Terms") : ∀ (x1 : Int32) (x2 : Int32) (I : Nat → Int32) (J : Nat → Int64) (B : Nat → Nat → Int32) (D : Nat → Nat → Int64) (ls : Array Slot) (H : Heap) (locs : List Loc), wc_Terms_read_A_66 a0 Post PX x1 x2 I J B D → lv_has ls 5 [(0, .ref (ad 4)), (1, .int x1), (2, .int x2)] → zW G A s.heap (wX ad K sv I J B D) H locs → W p l e { frames := 8, cells := 1, slots := 6, locals := 123 } s m ([.ref (ad 4), .int a0] : List Value).toArray below meth c H locs 0 0 (zyMQ below (va_Qi (fun (r : Int32) (u : zS) => Post r u.1 u.2.1 u.2.2.1 u.2.2.2) (fun u t => zPost G K A (wX ad K sv u.1 u.2.1 u.2.2.1 u.2.2.2) t) A) (zYC (fun E (u : zS) => PX E u.1 u.2.1 u.2.2.1 u.2.2.2) (fun u => wX ad K sv u.1 u.2.1 u.2.2.1 u.2.2.2) G K A) ([.ref (ad 4), .int a0] : List Value).toArray s 1 6 A) (F0 m 66 ls []) := by
  obtain ⟨hx, hb, hr, hml, hts, hown, hlocks, hA, hK, hT, hnt, hlt⟩ := id C
  intro x1 x2 I J B D ls H locs hok hl hw
  unfold wc_Terms_read_A_66 at hok
  refine lv_aload_n hx hb zd_Terms_read_66 rfl (lv_at hl 0 rfl) ?_
  refine z_get (v := .int (I 14)) hx hb hts hown hK hw zZ8 4 wX_g4 8 (by decide) zn_436 rfl zd_Terms_read_67 ?_
  refine lv_iload_n hx hb zd_Terms_read_70 rfl (lv_at hl 1 rfl) ?_
  refine lv_icmp_le (tgt := 81) hx hb zd_Terms_read_71 (by decide) (fun hc3 => ?_) (fun hc3 => ?_)
  · have hok := hok.1 hc3
    exact wJ_Terms_read_A_81 G K ad sv a0 Post PX C x2 I J B D ls H locs hok (lv_sub hl [0, 2] rfl) hw
  · have hok := hok.2 hc3
    refine lv_aload_n hx hb zd_Terms_read_74 rfl (lv_at hl 0 rfl) ?_
    refine z_get (v := .ref (ad 1)) hx hb hts hown hK hw zZ8 4 wX_g4 0 (by decide) zn_437 rfl zd_Terms_read_75 ?_
    refine z_yV (q0 := 1) (wc := (wX ad K sv I J B D)) (wr := []) (w1 := fun (u : zS) => wX ad K sv u.1 u.2.1 u.2.2.1 u.2.2.2) (As := []) (rest := []) ⟨hx, hb, hml, hown, hts⟩ (w_Text_refuse l hlt G K ad sv I J B D  _ _ H.size hok) zf_Text_refuse zn_365 ⟨Nat.le_of_ble_eq_true rfl, Nat.le_of_ble_eq_true rfl⟩ hK hT hw hA (List.range 65) [] wX_all rfl wX_nd (by decide) (fun i hi => by cases hi) wX_g1 rfl rfl hl.1 rfl (Nat.le_of_ble_eq_true rfl) zd_Terms_read_78 ⟨Nat.le_of_ble_eq_true rfl, Nat.le_of_ble_eq_true rfl⟩ (fun v st9 t9 L9 h0 hq hL => ?_) (fun E ce q9 u H locs hu hw hce hcv hcl => z_yout (u := u) hnt hlocks hce hcv hcl hw (List.range 65) wX_all wX_nd hu (Nat.le_of_ble_eq_true rfl) (Nat.le_of_ble_eq_true rfl))
    obtain ⟨⟨u, hv9, hok, hB9⟩, hF9⟩ := hq
    cases hv9
    have hw := z_back (wr := []) hw hA (List.range 65) [] wX_all rfl (by decide) (fun i hi => by cases hi) h0 hL hB9 hF9
    obtain ⟨I4, J4, B4, D4⟩ := u
    dsimp only at hok
    generalize t9.heap = H at hw ⊢
    generalize locs ++ L9 = locs at hw ⊢
    have hw : zW G A s.heap (wX ad K sv I4 J4 B4 D4) H locs := hw
    refine W.eq (g2 := F0 m 81 ls []) rfl ?_
    exact wJ_Terms_read_A_81 G K ad sv a0 Post PX C x2 I4 J4 B4 D4 ls H locs hok (lv_sub hl [0, 2] rfl) hw
set_option maxHeartbeats 8000000 in
set_option maxRecDepth 100000 in
theorem wB_Terms_read_A_30 {p : Program} {l : Launch} {e : Env} {s : State} {m : MethodId} {below : List Frame} {meth : Method} {c : Code} {A : Nat → Prop} (G : va_G) (K : Nat → ClassId) (ad : Nat → Nat) (sv : Value) (a0 : Int32) (Post : Int32 → (Nat → Int32) → (Nat → Int64) → (Nat → Nat → Int32) → (Nat → Nat → Int64) → Prop) (PX : String → (Nat → Int32) → (Nat → Int64) → (Nat → Nat → Int32) → (Nat → Nat → Int64) → Prop) (C : zCy p l s m ([.ref (ad 4), .int a0] : List Value).toArray meth c A G K prog_9_method_3_code (some .int) 5 "LassoFinder$Terms") (K30 : Int32 → Int32 → Int32 → Int32 → (Nat → Int32) → (Nat → Int64) → (Nat → Nat → Int32) → (Nat → Nat → Int64) → Prop) (kh30 : ∀ (x1 : Int32) (x2 : Int32) (x3 : Int32) (x4 : Int32) (I : Nat → Int32) (J : Nat → Int64) (B : Nat → Nat → Int32) (D : Nat → Nat → Int64) (ls : Array Slot) (H : Heap) (locs : List Loc), K30 x1 x2 x3 x4 I J B D → lv_has ls 5 [(0, .ref (ad 4)), (1, .int x1), (2, .int x2), (3, .int x3), (4, .int x4)] → zW G A s.heap (wX ad K sv I J B D) H locs → W p l e { frames := 8, cells := 1, slots := 6, locals := 123 } s m ([.ref (ad 4), .int a0] : List Value).toArray below meth c H locs 0 0 (zyMQ below (va_Qi (fun (r : Int32) (u : zS) => Post r u.1 u.2.1 u.2.2.1 u.2.2.2) (fun u t => zPost G K A (wX ad K sv u.1 u.2.1 u.2.2.1 u.2.2.2) t) A) (zYC (fun E (u : zS) => PX E u.1 u.2.1 u.2.2.1 u.2.2.2) (fun u => wX ad K sv u.1 u.2.1 u.2.2.1 u.2.2.2) G K A) ([.ref (ad 4), .int a0] : List Value).toArray s 1 6 A) (F0 m 30 ls [])) : ∀ (x1 : Int32) (x2 : Int32) (x3 : Int32) (x4 : Int32) (I : Nat → Int32) (J : Nat → Int64) (B : Nat → Nat → Int32) (D : Nat → Nat → Int64) (ls : Array Slot) (H : Heap) (locs : List Loc), wb_Terms_read_A_30 a0 K30 Post PX x1 x2 x3 x4 I J B D → lv_has ls 5 [(0, .ref (ad 4)), (1, .int x1), (2, .int x2), (3, .int x3), (4, .int x4)] → zW G A s.heap (wX ad K sv I J B D) H locs → W p l e { frames := 8, cells := 1, slots := 6, locals := 123 } s m ([.ref (ad 4), .int a0] : List Value).toArray below meth c H locs 0 0 (zyMQ below (va_Qi (fun (r : Int32) (u : zS) => Post r u.1 u.2.1 u.2.2.1 u.2.2.2) (fun u t => zPost G K A (wX ad K sv u.1 u.2.1 u.2.2.1 u.2.2.2) t) A) (zYC (fun E (u : zS) => PX E u.1 u.2.1 u.2.2.1 u.2.2.2) (fun u => wX ad K sv u.1 u.2.1 u.2.2.1 u.2.2.2) G K A) ([.ref (ad 4), .int a0] : List Value).toArray s 1 6 A) (F0 m 30 ls []) := by
  obtain ⟨hx, hb, hr, hml, hts, hown, hlocks, hA, hK, hT, hnt, hlt⟩ := id C
  intro x1 x2 x3 x4 I J B D ls H locs hok hl hw
  unfold wb_Terms_read_A_30 at hok
  refine lv_iload hx hb zd_Terms_read_30 (lv_at hl 4 rfl) ?_
  refine lv_sipush (v := 240) hx hb zd_Terms_read_32 (by decide) ?_
  refine lv_icmp_ge (tgt := 66) hx hb zd_Terms_read_35 (by decide) (fun hc5 => ?_) (fun hc5 => ?_)
  · have hok := hok.1 hc5
    exact wJ_Terms_read_A_66 G K ad sv a0 Post PX C x1 x2 I J B D ls H locs hok (lv_sub hl [0, 1, 2] rfl) hw
  · have hok := hok.2 hc5
    refine lv_iload_n hx hb zd_Terms_read_38 rfl (lv_at hl 3 rfl) ?_
    refine lv_if_eq (tgt := 66) hx hb zd_Terms_read_39 (by decide) (fun hc6 => ?_) (fun hc6 => ?_)
    · have hok := hok.1 hc6
      exact wJ_Terms_read_A_66 G K ad sv a0 Post PX C x1 x2 I J B D ls H locs hok (lv_sub hl [0, 1, 2] rfl) hw
    · have hok := hok.2 hc6
      refine lv_aload_n hx hb zd_Terms_read_42 rfl (lv_at hl 0 rfl) ?_
      refine z_yV (q0 := 4) (wc := (wX ad K sv I J B D)) (wr := []) (w1 := fun (u : zS) => wX ad K sv u.1 u.2.1 u.2.2.1 u.2.2.2) (As := []) (rest := []) ⟨hx, hb, hml, hown, hts⟩ (w_Terms_readOpenings_A l hlt G K ad sv I J B D  _ _ H.size hok) zf_Terms_readOpenings zn_363 ⟨Nat.le_of_ble_eq_true rfl, Nat.le_of_ble_eq_true rfl⟩ hK hT hw hA (List.range 65) [] wX_all rfl wX_nd (by decide) (fun i hi => by cases hi) wX_g4 rfl rfl hl.1 rfl (Nat.le_of_ble_eq_true rfl) zd_Terms_read_43 ⟨Nat.le_of_ble_eq_true rfl, Nat.le_of_ble_eq_true rfl⟩ (fun v st9 t9 L9 h0 hq hL => ?_) (fun E ce q9 u H locs hu hw hce hcv hcl => z_yout (u := u) hnt hlocks hce hcv hcl hw (List.range 65) wX_all wX_nd hu (Nat.le_of_ble_eq_true rfl) (Nat.le_of_ble_eq_true rfl))
      obtain ⟨⟨u, hv9, hok, hB9⟩, hF9⟩ := hq
      cases hv9
      have hw := z_back (wr := []) hw hA (List.range 65) [] wX_all rfl (by decide) (fun i hi => by cases hi) h0 hL hB9 hF9
      obtain ⟨I7, J7, B7, D7⟩ := u
      dsimp only at hok
      generalize t9.heap = H at hw ⊢
      generalize locs ++ L9 = locs at hw ⊢
      have hw : zW G A s.heap (wX ad K sv I7 J7 B7 D7) H locs := hw
      refine W.eq (g2 := F0 m 46 ls []) rfl ?_
      refine lv_aload_n hx hb zd_Terms_read_46 rfl (lv_at hl 0 rfl) ?_
      refine z_yV (q0 := 4) (wc := (wX ad K sv I7 J7 B7 D7)) (wr := []) (w1 := fun (u : zS) => wX ad K sv u.1 u.2.1 u.2.2.1 u.2.2.2) (As := []) (rest := []) ⟨hx, hb, hml, hown, hts⟩ (w_Terms_readPart_A l hlt G K ad sv I7 J7 B7 D7  _ _ H.size hok) zf_Terms_readPart zn_368 ⟨Nat.le_of_ble_eq_true rfl, Nat.le_of_ble_eq_true rfl⟩ hK hT hw hA (List.range 65) [] wX_all rfl wX_nd (by decide) (fun i hi => by cases hi) wX_g4 rfl rfl hl.1 rfl (Nat.le_of_ble_eq_true rfl) zd_Terms_read_47 ⟨Nat.le_of_ble_eq_true rfl, Nat.le_of_ble_eq_true rfl⟩ (fun v st9 t9 L9 h0 hq hL => ?_) (fun E ce q9 u H locs hu hw hce hcv hcl => z_yout (u := u) hnt hlocks hce hcv hcl hw (List.range 65) wX_all wX_nd hu (Nat.le_of_ble_eq_true rfl) (Nat.le_of_ble_eq_true rfl))
      obtain ⟨⟨u, hv9, hok, hB9⟩, hF9⟩ := hq
      cases hv9
      have hw := z_back (wr := []) hw hA (List.range 65) [] wX_all rfl (by decide) (fun i hi => by cases hi) h0 hL hB9 hF9
      obtain ⟨I8, J8, B8, D8⟩ := u
      dsimp only at hok
      generalize t9.heap = H at hw ⊢
      generalize locs ++ L9 = locs at hw ⊢
      have hw : zW G A s.heap (wX ad K sv I8 J8 B8 D8) H locs := hw
      refine W.eq (g2 := F0 m 50 ls []) rfl ?_
      refine lv_aload_n hx hb zd_Terms_read_50 rfl (lv_at hl 0 rfl) ?_
      refine lv_iload_n hx hb zd_Terms_read_51 rfl (lv_at hl 1 rfl) ?_
      refine z_yV (q0 := 4) (wc := (wX ad K sv I8 J8 B8 D8)) (wr := []) (w1 := fun (u : zS) => wX ad K sv u.1 u.2.1 u.2.2.1 u.2.2.2) (As := [.int x1]) (rest := []) ⟨hx, hb, hml, hown, hts⟩ (w_Terms_readClosings_A l hlt G K ad sv I8 J8 B8 D8 x1 _ _ H.size hok) zf_Terms_readClosings zn_371 ⟨Nat.le_of_ble_eq_true rfl, Nat.le_of_ble_eq_true rfl⟩ hK hT hw hA (List.range 65) [] wX_all rfl wX_nd (by decide) (fun i hi => by cases hi) wX_g4 rfl rfl hl.1 rfl (Nat.le_of_ble_eq_true rfl) zd_Terms_read_52 ⟨Nat.le_of_ble_eq_true rfl, Nat.le_of_ble_eq_true rfl⟩ (fun v st9 t9 L9 h0 hq hL => ?_) (fun E ce q9 u H locs hu hw hce hcv hcl => z_yout (u := u) hnt hlocks hce hcv hcl hw (List.range 65) wX_all wX_nd hu (Nat.le_of_ble_eq_true rfl) (Nat.le_of_ble_eq_true rfl))
      obtain ⟨⟨u, hv9, hok, hB9⟩, hF9⟩ := hq
      cases hv9
      have hw := z_back (wr := []) hw hA (List.range 65) [] wX_all rfl (by decide) (fun i hi => by cases hi) h0 hL hB9 hF9
      obtain ⟨I9, J9, B9, D9⟩ := u
      dsimp only at hok
      generalize t9.heap = H at hw ⊢
      generalize locs ++ L9 = locs at hw ⊢
      have hw : zW G A s.heap (wX ad K sv I9 J9 B9 D9) H locs := hw
      refine W.eq (g2 := F0 m 55 ls []) rfl ?_
      refine lv_aload_n hx hb zd_Terms_read_55 rfl (lv_at hl 0 rfl) ?_
      refine z_yV (q0 := 4) (wc := (wX ad K sv I9 J9 B9 D9)) (wr := []) (w1 := fun (u : zS) => wX ad K sv u.1 u.2.1 u.2.2.1 u.2.2.2) (As := []) (rest := []) ⟨hx, hb, hml, hown, hts⟩ (w_Terms_readSign_A l hlt G K ad sv I9 J9 B9 D9  _ _ H.size hok) zf_Terms_readSign zn_373 ⟨Nat.le_of_ble_eq_true rfl, Nat.le_of_ble_eq_true rfl⟩ hK hT hw hA (List.range 65) [] wX_all rfl wX_nd (by decide) (fun i hi => by cases hi) wX_g4 rfl rfl hl.1 rfl (Nat.le_of_ble_eq_true rfl) zd_Terms_read_56 ⟨Nat.le_of_ble_eq_true rfl, Nat.le_of_ble_eq_true rfl⟩ (fun v st9 t9 L9 h0 hq hL => ?_) (fun E ce q9 u H locs hu hw hce hcv hcl => z_yout (u := u) hnt hlocks hce hcv hcl hw (List.range 65) wX_all wX_nd hu (Nat.le_of_ble_eq_true rfl) (Nat.le_of_ble_eq_true rfl))
      obtain ⟨⟨r10, u, hv9, hok, hB9⟩, hF9⟩ := hq
      cases hv9
      have hw := z_back (wr := []) hw hA (List.range 65) [] wX_all rfl (by decide) (fun i hi => by cases hi) h0 hL hB9 hF9
      obtain ⟨I10, J10, B10, D10⟩ := u
      dsimp only at hok
      generalize t9.heap = H at hw ⊢
      generalize locs ++ L9 = locs at hw ⊢
      have hw : zW G A s.heap (wX ad K sv I10 J10 B10 D10) H locs := hw
      refine W.eq (g2 := F0 m 59 ls [.int r10]) rfl ?_
      refine lv_istore_n hx hb zd_Terms_read_59 rfl hl (by decide) rfl (fun ls hl => ?_)
      have hl : lv_has ls 5 [(3, .int r10), (0, .ref (ad 4)), (1, .int x1), (2, .int x2), (4, .int x4)] := hl
      obtain ⟨z11, ez11⟩ : ∃ z : Int32, z = (x4 + 1) := ⟨_, rfl⟩
      have hok := hok z11 ez11
      refine lv_iinc (v := z11) hx hb zd_Terms_read_60 hl (k := 4) rfl ez11.symm (by decide) rfl (fun ls hl => ?_)
      have hl : lv_has ls 5 [(4, .int z11), (3, .int r10), (0, .ref (ad 4)), (1, .int x1), (2, .int x2)] := hl
      refine lv_goto (tgt := 30) hx hb zd_Terms_read_63 (by decide) ?_
      exact kh30 x1 x2 r10 z11 I10 J10 B10 D10 ls H locs hok (lv_sub hl [2, 3, 4, 1, 0] rfl) hw
theorem wL_Terms_read_A_30 {p : Program} {l : Launch} {e : Env} {s : State} {m : MethodId} {below : List Frame} {meth : Method} {c : Code} {A : Nat → Prop} (G : va_G) (K : Nat → ClassId) (ad : Nat → Nat) (sv : Value) (a0 : Int32) (Post : Int32 → (Nat → Int32) → (Nat → Int64) → (Nat → Nat → Int32) → (Nat → Nat → Int64) → Prop) (PX : String → (Nat → Int32) → (Nat → Int64) → (Nat → Nat → Int32) → (Nat → Nat → Int64) → Prop) (C : zCy p l s m ([.ref (ad 4), .int a0] : List Value).toArray meth c A G K prog_9_method_3_code (some .int) 5 "LassoFinder$Terms") : ∀ (n : Nat) (x1 : Int32) (x2 : Int32) (x3 : Int32) (x4 : Int32) (I : Nat → Int32) (J : Nat → Int64) (B : Nat → Nat → Int32) (D : Nat → Nat → Int64) (ls : Array Slot) (H : Heap) (locs : List Loc), wl_Terms_read_A_30 a0 Post PX n x1 x2 x3 x4 I J B D → lv_has ls 5 [(0, .ref (ad 4)), (1, .int x1), (2, .int x2), (3, .int x3), (4, .int x4)] → zW G A s.heap (wX ad K sv I J B D) H locs → W p l e { frames := 8, cells := 1, slots := 6, locals := 123 } s m ([.ref (ad 4), .int a0] : List Value).toArray below meth c H locs 0 0 (zyMQ below (va_Qi (fun (r : Int32) (u : zS) => Post r u.1 u.2.1 u.2.2.1 u.2.2.2) (fun u t => zPost G K A (wX ad K sv u.1 u.2.1 u.2.2.1 u.2.2.2) t) A) (zYC (fun E (u : zS) => PX E u.1 u.2.1 u.2.2.1 u.2.2.2) (fun u => wX ad K sv u.1 u.2.1 u.2.2.1 u.2.2.2) G K A) ([.ref (ad 4), .int a0] : List Value).toArray s 1 6 A) (F0 m 30 ls []) := by
  intro n
  induction n with
  | zero => intro x1 x2 x3 x4 I J B D ls H locs hok; exact hok.elim
  | succ n ih => exact wB_Terms_read_A_30 G K ad sv a0 Post PX C (wl_Terms_read_A_30 a0 Post PX n) ih
set_option maxHeartbeats 8000000 in
set_option maxRecDepth 100000 in
theorem w_Terms_read_A (l : Launch) (hlt : l.stackTraces = false) (G : va_G) (K : Nat → ClassId) (ad : Nat → Nat) (sv : Value) (I : Nat → Int32) (J : Nat → Int64) (B : Nat → Nat → Int32) (D : Nat → Nat → Int64) (a0 : Int32) (Post : Int32 → (Nat → Int32) → (Nat → Int64) → (Nat → Nat → Int32) → (Nat → Nat → Int64) → Prop) (PX : String → (Nat → Int32) → (Nat → Int64) → (Nat → Nat → Int32) → (Nat → Nat → Int64) → Prop) (sz : Nat) (hok : wp_Terms_read_A I J B D a0 Post PX) : zyMet l zy_Terms_read (Cond.code zy_Terms_read prog_9_method_3_code 5 (some .int) :: zTB) { frames := 8, cells := 1, slots := 6, locals := 123 } (va_Pc [.ref (ad 4), .int a0] (zPreY G K (wX ad K sv I J B D) sz)) (va_Qi (fun (r : Int32) (u : zS) => Post r u.1 u.2.1 u.2.2.1 u.2.2.2) (fun u t => zPost G K (va_A (wX ad K sv I J B D) sz) (wX ad K sv u.1 u.2.1 u.2.2.1 u.2.2.2) t) (va_A (wX ad K sv I J B D) sz)) (zYC (fun E (u : zS) => PX E u.1 u.2.1 u.2.2.1 u.2.2.2) (fun u => wX ad K sv u.1 u.2.1 u.2.2.1 u.2.2.2) G K (va_A (wX ad K sv I J B D) sz)) 1 6 (va_A (wX ad K sv I J B D) sz) := by
  refine zMetY (y := zy_Terms_read) (av := [.ref (ad 4), .int a0]) (maxL := 5) (cc := prog_9_method_3_code) (ret := (some .int)) (W0 := (wX ad K sv I J B D)) (sz := sz) (G := G) (K := K) (wt := zTB) (mc := 1) (ms := 6) (Qf := fun A => va_Qi (fun (r : Int32) (u : zS) => Post r u.1 u.2.1 u.2.2.1 u.2.2.2) (fun u t => zPost G K A (wX ad K sv u.1 u.2.1 u.2.2.1 u.2.2.2) t) A) (Xf := fun A => (zYC (fun E (u : zS) => PX E u.1 u.2.1 u.2.2.1 u.2.2.2) (fun u => wX ad K sv u.1 u.2.1 u.2.2.1 u.2.2.2) G K A)) (by decide) (Nat.le_of_ble_eq_true rfl) ?_
  intro p e s m below meth c ls A hx hb hr hml hts hown hlocks hin hA hK H locs hw hsz hl hT hnt
  clear hsz
  have hown : s.vm.findClass "LassoFinder$Terms" = some m.cls := hown
  have C : zCy p l s m ([.ref (ad 4), .int a0] : List Value).toArray meth c A G K prog_9_method_3_code (some .int) 5 "LassoFinder$Terms" := ⟨hx, hb, hr, hml, hts, hown, hlocks, hA, hK, hT, hnt, hlt⟩
  have hl : lv_has ls 5 [(0, .ref (ad 4)), (1, .int a0)] := hl
  have hw : zW G A s.heap (wX ad K sv I J B D) H locs := hw
  unfold wp_Terms_read_A at hok
  refine lv_aload_n hx hb zd_Terms_read_0 rfl (lv_at hl 0 rfl) ?_
  refine z_get (v := .int (I 11)) hx hb hts hown hK hw zZ8 4 wX_g4 3 (by decide) zn_435 rfl zd_Terms_read_1 ?_
  refine lv_istore_n hx hb zd_Terms_read_4 rfl hl (by decide) rfl (fun ls hl => ?_)
  have hl : lv_has ls 5 [(2, .int (I 11)), (0, .ref (ad 4)), (1, .int a0)] := hl
  refine lv_aload_n hx hb zd_Terms_read_5 rfl (lv_at hl 1 rfl) ?_
  refine lv_iconst (v := 0) hx hb zd_Terms_read_6 (by decide) ?_
  refine z_put (v := .int 0) hx hb hts hown hK hw zZ8 4 wX_g4 5 (by decide) zn_438 rfl rfl rfl (Nat.le_of_ble_eq_true rfl) zd_Terms_read_7 (fun H locs hw => ?_)
  have hw := wX_sI12 hw
  refine lv_aload_n hx hb zd_Terms_read_10 rfl (lv_at hl 1 rfl) ?_
  refine lv_iconst (v := 0) hx hb zd_Terms_read_11 (by decide) ?_
  refine z_put (v := .int 0) hx hb hts hown hK hw zZ8 4 wX_g4 7 (by decide) zn_441 rfl rfl rfl (Nat.le_of_ble_eq_true rfl) zd_Terms_read_12 (fun H locs hw => ?_)
  have hw := wX_sI13 hw
  refine lv_aload_n hx hb zd_Terms_read_15 rfl (lv_at hl 1 rfl) ?_
  refine lv_iload_n hx hb zd_Terms_read_16 rfl (lv_at hl 2 rfl) ?_
  refine z_put (v := .int a0) hx hb hts hown hK hw zZ8 4 wX_g4 8 (by decide) zn_436 rfl rfl rfl (Nat.le_of_ble_eq_true rfl) zd_Terms_read_17 (fun H locs hw => ?_)
  have hw := wX_sI14 hw
  refine lv_aload_n hx hb zd_Terms_read_20 rfl (lv_at hl 1 rfl) ?_
  refine lv_iconst (v := 0) hx hb zd_Terms_read_21 (by decide) ?_
  refine z_put (v := .int 0) hx hb hts hown hK hw zZ8 4 wX_g4 9 (by decide) zn_440 rfl rfl rfl (Nat.le_of_ble_eq_true rfl) zd_Terms_read_22 (fun H locs hw => ?_)
  have hw := wX_sI15 hw
  refine lv_iconst (v := 1) hx hb zd_Terms_read_25 (by decide) ?_
  refine lv_istore_n hx hb zd_Terms_read_26 rfl hl (by decide) rfl (fun ls hl => ?_)
  have hl : lv_has ls 5 [(3, .int 1), (2, .int (I 11)), (0, .ref (ad 4)), (1, .int a0)] := hl
  refine lv_iconst (v := 0) hx hb zd_Terms_read_27 (by decide) ?_
  refine lv_istore hx hb zd_Terms_read_28 hl (by decide) rfl (fun ls hl => ?_)
  have hl : lv_has ls 5 [(4, .int 0), (3, .int 1), (2, .int (I 11)), (0, .ref (ad 4)), (1, .int a0)] := hl
  obtain ⟨n9, hok⟩ := hok
  exact wL_Terms_read_A_30 G K ad sv a0 Post PX C n9 a0 (I 11) 1 0 (upd (upd (upd (upd I 12 0) 13 0) 14 a0) 15 0) J B D ls H locs hok (lv_sub hl [3, 4, 2, 1, 0] rfl) hw
def wc_Program_add_97 (a0 : Int32) (a1 : Int32) (a2 : Int32) (a3 : Int32) (Post : (Nat → Int32) → (Nat → Int64) → (Nat → Nat → Int32) → (Nat → Nat → Int64) → Prop)  (I : Nat → Int32) (J : Nat → Int64) (B : Nat → Nat → Int32) (D : Nat → Nat → Int64) : Prop :=
  ∀ z1 : Int32, z1 = ((I 9) + 1) → Post (upd I 9 z1) J B D
def wp_Program_add (I : Nat → Int32) (J : Nat → Int64) (B : Nat → Nat → Int32) (D : Nat → Nat → Int64) (a0 : Int32) (a1 : Int32) (a2 : Int32) (a3 : Int32) (Post : (Nat → Int32) → (Nat → Int64) → (Nat → Nat → Int32) → (Nat → Nat → Int64) → Prop) : Prop :=
  ∀ z2 : Int64, z2 = ((1 : Int64) <<< ((I 9).toInt64 &&& 63)) → vp_in (I 9) 48 ∧ vp_in (I 9) 48 ∧ vp_in (I 9) 48 ∧ vp_in (I 9) 48 ∧ vp_in (I 9) 48 ∧ ((¬ a0 = 3 → ((¬ a0 = 5 → wc_Program_add_97 a0 a1 a2 a3 Post I J (va_up (va_up (va_up (va_up (va_up B 6 (upd (B 6) (I 9).toNatClampNeg a0)) 7 (upd (B 7) (I 9).toNatClampNeg a1)) 8 (upd (B 8) (I 9).toNatClampNeg a2)) 9 (upd (B 9) (I 9).toNatClampNeg a3)) 10 (upd (B 10) (I 9).toNatClampNeg (I 10))) D) ∧ (a0 = 5 → ∀ z5 : Int64, z5 = ((J 0) ||| z2) → wc_Program_add_97 a0 a1 a2 a3 Post I (vp_updL J 0 z5) (va_up (va_up (va_up (va_up (va_up B 6 (upd (B 6) (I 9).toNatClampNeg a0)) 7 (upd (B 7) (I 9).toNatClampNeg a1)) 8 (upd (B 8) (I 9).toNatClampNeg a2)) 9 (upd (B 9) (I 9).toNatClampNeg a3)) 10 (upd (B 10) (I 9).toNatClampNeg (I 10))) D))) ∧ (a0 = 3 → vp_in a1 8 ∧ ∀ z6 : Int64, z6 = ((D 0) a1.toNatClampNeg) → ∀ z7 : Int64, z7 = (z6 ||| z2) → vp_in a1 8 ∧ wc_Program_add_97 a0 a1 a2 a3 Post I J (va_up (va_up (va_up (va_up (va_up B 6 (upd (B 6) (I 9).toNatClampNeg a0)) 7 (upd (B 7) (I 9).toNatClampNeg a1)) 8 (upd (B 8) (I 9).toNatClampNeg a2)) 9 (upd (B 9) (I 9).toNatClampNeg a3)) 10 (upd (B 10) (I 9).toNatClampNeg (I 10))) (va_up D 0 (vp_updL (D 0) a1.toNatClampNeg z7))))
set_option maxHeartbeats 8000000 in
set_option maxRecDepth 100000 in
theorem wJ_Program_add_97 {p : Program} {l : Launch} {e : Env} {s : State} {m : MethodId} {below : List Frame} {meth : Method} {c : Code} {A : Nat → Prop} (G : va_G) (K : Nat → ClassId) (ad : Nat → Nat) (sv : Value) (a0 : Int32) (a1 : Int32) (a2 : Int32) (a3 : Int32) (Post : (Nat → Int32) → (Nat → Int64) → (Nat → Nat → Int32) → (Nat → Nat → Int64) → Prop) (C : zCx p s m ([.ref (ad 3), .int a0, .int a1, .int a2, .int a3] : List Value).toArray meth c A G K prog_7_method_4_code none 7 "LassoFinder$Program") : ∀  (I : Nat → Int32) (J : Nat → Int64) (B : Nat → Nat → Int32) (D : Nat → Nat → Int64) (ls : Array Slot) (H : Heap) (locs : List Loc), wc_Program_add_97 a0 a1 a2 a3 Post  I J B D → lv_has ls 7 [(0, .ref (ad 3))] → zW G A s.heap (wX ad K sv I J B D) H locs → W p l e { frames := 0, cells := 0, slots := 0, locals := 0 } s m ([.ref (ad 3), .int a0, .int a1, .int a2, .int a3] : List Value).toArray below meth c H locs 0 0 (MQ below (va_Qv (fun u : zS => Post u.1 u.2.1 u.2.2.1 u.2.2.2) (fun u t => zPost G K A (wX ad K sv u.1 u.2.1 u.2.2.1 u.2.2.2) t) A) ([.ref (ad 3), .int a0, .int a1, .int a2, .int a3] : List Value).toArray s 0 0 A) (F0 m 97 ls []) := by
  obtain ⟨hx, hb, hr, hml, hts, hown, hlocks, hA, hK⟩ := id C
  intro  I J B D ls H locs hok hl hw
  unfold wc_Program_add_97 at hok
  refine lv_aload_n hx hb zd_Program_add_97 rfl (lv_at hl 0 rfl) ?_
  refine lv_dup hx hb zd_Program_add_98 rfl ?_
  refine z_get (v := .int (I 9)) hx hb hts hown hK hw zZ6 3 wX_g3 12 (by decide) zn_444 rfl zd_Program_add_99 ?_
  refine lv_iconst (v := 1) hx hb zd_Program_add_102 (by decide) ?_
  refine lv_iadd hx hb zd_Program_add_103 ?_
  refine lv_topi (fun z1 ez1 => ?_)
  have hok := hok z1 ez1
  refine z_put (v := .int z1) hx hb hts hown hK hw zZ6 3 wX_g3 12 (by decide) zn_444 rfl rfl rfl (Nat.le_of_ble_eq_true rfl) zd_Program_add_104 (fun H locs hw => ?_)
  have hw := wX_sI9 hw
  exact (z_vret (u := ((upd I 9 z1), J, B, D)) hx hb hr hlocks hw (List.range 65) wX_all wX_nd hok (Nat.le_of_ble_eq_true rfl) (Nat.le_of_ble_eq_true rfl) zd_Program_add_107)
set_option maxHeartbeats 8000000 in
set_option maxRecDepth 100000 in
theorem w_Program_add (l : Launch) (G : va_G) (K : Nat → ClassId) (ad : Nat → Nat) (sv : Value) (I : Nat → Int32) (J : Nat → Int64) (B : Nat → Nat → Int32) (D : Nat → Nat → Int64) (a0 : Int32) (a1 : Int32) (a2 : Int32) (a3 : Int32) (Post : (Nat → Int32) → (Nat → Int64) → (Nat → Nat → Int32) → (Nat → Nat → Int64) → Prop) (sz : Nat) (hok : wp_Program_add I J B D a0 a1 a2 a3 Post) : Met l zy_Program_add (Cond.code zy_Program_add prog_7_method_4_code 7 none :: zTB) { frames := 0, cells := 0, slots := 0, locals := 0 } (va_Pc [.ref (ad 3), .int a0, .int a1, .int a2, .int a3] (zPre G K (wX ad K sv I J B D) sz)) (va_Qv (fun u : zS => Post u.1 u.2.1 u.2.2.1 u.2.2.2) (fun u t => zPost G K (va_A (wX ad K sv I J B D) sz) (wX ad K sv u.1 u.2.1 u.2.2.1 u.2.2.2) t) (va_A (wX ad K sv I J B D) sz)) 0 0 (va_A (wX ad K sv I J B D) sz) := by
  refine zMet (y := zy_Program_add) (av := [.ref (ad 3), .int a0, .int a1, .int a2, .int a3]) (maxL := 7) (cc := prog_7_method_4_code) (ret := none) (W0 := (wX ad K sv I J B D)) (sz := sz) (G := G) (K := K) (wt := zTB) (mc := 0) (ms := 0) (Qf := fun A => va_Qv (fun u : zS => Post u.1 u.2.1 u.2.2.1 u.2.2.2) (fun u t => zPost G K A (wX ad K sv u.1 u.2.1 u.2.2.1 u.2.2.2) t) A) (by decide) (Nat.le_of_ble_eq_true rfl) ?_
  intro p e s m below meth c ls A hx hb hr hml hts hown hlocks hin hA hK H locs hw hsz hl
  clear hsz
  have hown : s.vm.findClass "LassoFinder$Program" = some m.cls := hown
  have C : zCx p s m ([.ref (ad 3), .int a0, .int a1, .int a2, .int a3] : List Value).toArray meth c A G K prog_7_method_4_code none 7 "LassoFinder$Program" := ⟨hx, hb, hr, hml, hts, hown, hlocks, hA, hK⟩
  have hl : lv_has ls 7 [(0, .ref (ad 3)), (1, .int a0), (2, .int a1), (3, .int a2), (4, .int a3)] := hl
  have hw : zW G A s.heap (wX ad K sv I J B D) H locs := hw
  unfold wp_Program_add at hok
  refine lv_lconst (v := 1) hx hb zd_Program_add_0 (by decide) ?_
  refine lv_aload_n hx hb zd_Program_add_1 rfl (lv_at hl 0 rfl) ?_
  refine z_get (v := .int (I 9)) hx hb hts hown hK hw zZ6 3 wX_g3 12 (by decide) zn_444 rfl zd_Program_add_2 ?_
  refine lv_lshl hx hb zd_Program_add_5 rfl ?_
  refine lv_topl (fun z2 ez2 => ?_)
  have hok := hok z2 ez2
  refine lv_lstore hx hb zd_Program_add_6 hl (by decide) rfl (fun ls hl => ?_)
  have hl : lv_has ls 7 [(5, .long z2), (0, .ref (ad 3)), (1, .int a0), (2, .int a1), (3, .int a2), (4, .int a3)] := hl
  refine lv_aload_n hx hb zd_Program_add_8 rfl (lv_at hl 1 rfl) ?_
  refine z_get (v := .ref (ad 18)) hx hb hts hown hK hw zZ6 3 wX_g3 0 (by decide) zn_241 rfl zd_Program_add_9 ?_
  refine lv_aload_n hx hb zd_Program_add_12 rfl (lv_at hl 1 rfl) ?_
  refine z_get (v := .int (I 9)) hx hb hts hown hK hw zZ6 3 wX_g3 12 (by decide) zn_444 rfl zd_Program_add_13 ?_
  refine lv_iload_n hx hb zd_Program_add_16 rfl (lv_at hl 2 rfl) ?_
  refine va_iast (f := (B 6)) hx hb hK hw.1 hw.2.1 hw.2.2 18 0 wX_a18 rfl hok.1 zd_Program_add_17 (fun H locs w91 w92 w93 => ?_)
  have hok := hok.2
  have hw := wX_t18 ⟨w91, w92, w93⟩
  refine lv_aload_n hx hb zd_Program_add_18 rfl (lv_at hl 1 rfl) ?_
  refine z_get (v := .ref (ad 19)) hx hb hts hown hK hw zZ6 3 wX_g3 1 (by decide) zn_242 rfl zd_Program_add_19 ?_
  refine lv_aload_n hx hb zd_Program_add_22 rfl (lv_at hl 1 rfl) ?_
  refine z_get (v := .int (I 9)) hx hb hts hown hK hw zZ6 3 wX_g3 12 (by decide) zn_444 rfl zd_Program_add_23 ?_
  refine lv_iload_n hx hb zd_Program_add_26 rfl (lv_at hl 3 rfl) ?_
  refine va_iast (f := (B 7)) hx hb hK hw.1 hw.2.1 hw.2.2 19 0 wX_a19 rfl hok.1 zd_Program_add_27 (fun H locs w91 w92 w93 => ?_)
  have hok := hok.2
  have hw := wX_t19 ⟨w91, w92, w93⟩
  refine lv_aload_n hx hb zd_Program_add_28 rfl (lv_at hl 1 rfl) ?_
  refine z_get (v := .ref (ad 20)) hx hb hts hown hK hw zZ6 3 wX_g3 2 (by decide) zn_243 rfl zd_Program_add_29 ?_
  refine lv_aload_n hx hb zd_Program_add_32 rfl (lv_at hl 1 rfl) ?_
  refine z_get (v := .int (I 9)) hx hb hts hown hK hw zZ6 3 wX_g3 12 (by decide) zn_444 rfl zd_Program_add_33 ?_
  refine lv_iload_n hx hb zd_Program_add_36 rfl (lv_at hl 4 rfl) ?_
  refine va_iast (f := (B 8)) hx hb hK hw.1 hw.2.1 hw.2.2 20 0 wX_a20 rfl hok.1 zd_Program_add_37 (fun H locs w91 w92 w93 => ?_)
  have hok := hok.2
  have hw := wX_t20 ⟨w91, w92, w93⟩
  refine lv_aload_n hx hb zd_Program_add_38 rfl (lv_at hl 1 rfl) ?_
  refine z_get (v := .ref (ad 21)) hx hb hts hown hK hw zZ6 3 wX_g3 3 (by decide) zn_244 rfl zd_Program_add_39 ?_
  refine lv_aload_n hx hb zd_Program_add_42 rfl (lv_at hl 1 rfl) ?_
  refine z_get (v := .int (I 9)) hx hb hts hown hK hw zZ6 3 wX_g3 12 (by decide) zn_444 rfl zd_Program_add_43 ?_
  refine lv_iload hx hb zd_Program_add_46 (lv_at hl 5 rfl) ?_
  refine va_iast (f := (B 9)) hx hb hK hw.1 hw.2.1 hw.2.2 21 0 wX_a21 rfl hok.1 zd_Program_add_48 (fun H locs w91 w92 w93 => ?_)
  have hok := hok.2
  have hw := wX_t21 ⟨w91, w92, w93⟩
  refine lv_aload_n hx hb zd_Program_add_49 rfl (lv_at hl 1 rfl) ?_
  refine z_get (v := .ref (ad 22)) hx hb hts hown hK hw zZ6 3 wX_g3 4 (by decide) zn_245 rfl zd_Program_add_50 ?_
  refine lv_aload_n hx hb zd_Program_add_53 rfl (lv_at hl 1 rfl) ?_
  refine z_get (v := .int (I 9)) hx hb hts hown hK hw zZ6 3 wX_g3 12 (by decide) zn_444 rfl zd_Program_add_54 ?_
  refine lv_aload_n hx hb zd_Program_add_57 rfl (lv_at hl 1 rfl) ?_
  refine z_get (v := .int (I 10)) hx hb hts hown hK hw zZ6 3 wX_g3 13 (by decide) zn_445 rfl zd_Program_add_58 ?_
  refine va_iast (f := (B 10)) hx hb hK hw.1 hw.2.1 hw.2.2 22 0 wX_a22 rfl hok.1 zd_Program_add_61 (fun H locs w91 w92 w93 => ?_)
  have hok := hok.2
  have hw := wX_t22 ⟨w91, w92, w93⟩
  refine lv_iload_n hx hb zd_Program_add_62 rfl (lv_at hl 2 rfl) ?_
  refine lv_iconst (v := 3) hx hb zd_Program_add_63 (by decide) ?_
  refine lv_icmp_ne (tgt := 81) hx hb zd_Program_add_64 (by decide) (fun hc3 => ?_) (fun hc3 => ?_)
  · have hok := hok.1 hc3
    refine lv_iload_n hx hb zd_Program_add_81 rfl (lv_at hl 2 rfl) ?_
    refine lv_iconst (v := 5) hx hb zd_Program_add_82 (by decide) ?_
    refine lv_icmp_ne (tgt := 97) hx hb zd_Program_add_83 (by decide) (fun hc4 => ?_) (fun hc4 => ?_)
    · have hok := hok.1 hc4
      exact wJ_Program_add_97 G K ad sv a0 a1 a2 a3 Post C I J (va_up (va_up (va_up (va_up (va_up B 6 (upd (B 6) (I 9).toNatClampNeg a0)) 7 (upd (B 7) (I 9).toNatClampNeg a1)) 8 (upd (B 8) (I 9).toNatClampNeg a2)) 9 (upd (B 9) (I 9).toNatClampNeg a3)) 10 (upd (B 10) (I 9).toNatClampNeg (I 10))) D ls H locs hok (lv_sub hl [1] rfl) hw
    · have hok := hok.2 hc4
      refine lv_aload_n hx hb zd_Program_add_86 rfl (lv_at hl 1 rfl) ?_
      refine lv_dup hx hb zd_Program_add_87 rfl ?_
      refine z_get (v := .long (J 0)) hx hb hts hown hK hw zZ6 3 wX_g3 11 (by decide) zn_446 rfl zd_Program_add_88 ?_
      refine lv_lload hx hb zd_Program_add_91 (lv_at hl 0 rfl) ?_
      refine lv_lor hx hb zd_Program_add_93 ?_
      refine lv_topl (fun z5 ez5 => ?_)
      have hok := hok z5 ez5
      refine z_put (v := .long z5) hx hb hts hown hK hw zZ6 3 wX_g3 11 (by decide) zn_446 rfl rfl rfl (Nat.le_of_ble_eq_true rfl) zd_Program_add_94 (fun H locs hw => ?_)
      have hw := wX_sJ0 hw
      exact wJ_Program_add_97 G K ad sv a0 a1 a2 a3 Post C I (vp_updL J 0 z5) (va_up (va_up (va_up (va_up (va_up B 6 (upd (B 6) (I 9).toNatClampNeg a0)) 7 (upd (B 7) (I 9).toNatClampNeg a1)) 8 (upd (B 8) (I 9).toNatClampNeg a2)) 9 (upd (B 9) (I 9).toNatClampNeg a3)) 10 (upd (B 10) (I 9).toNatClampNeg (I 10))) D ls H locs hok (lv_sub hl [1] rfl) hw
  · have hok := hok.2 hc3
    refine lv_aload_n hx hb zd_Program_add_67 rfl (lv_at hl 1 rfl) ?_
    refine z_get (v := .ref (ad 25)) hx hb hts hown hK hw zZ6 3 wX_g3 7 (by decide) zn_248 rfl zd_Program_add_68 ?_
    refine lv_iload_n hx hb zd_Program_add_71 rfl (lv_at hl 3 rfl) ?_
    refine lv_dup2_11 hx hb zd_Program_add_72 rfl rfl ?_
    refine va_lald (f := (D 0)) hx hb hK hw.1 25 1 wX_a25 rfl hok.1 zd_Program_add_73 ?_
    have hok := hok.2
    refine lv_topl (fun z6 ez6 => ?_)
    have hok := hok z6 ez6
    refine lv_lload hx hb zd_Program_add_74 (lv_at hl 0 rfl) ?_
    refine lv_lor hx hb zd_Program_add_76 ?_
    refine lv_topl (fun z7 ez7 => ?_)
    have hok := hok z7 ez7
    refine va_last (f := (D 0)) hx hb hK hw.1 hw.2.1 hw.2.2 25 1 wX_a25 rfl hok.1 zd_Program_add_77 (fun H locs w91 w92 w93 => ?_)
    have hok := hok.2
    have hw := wX_t25 ⟨w91, w92, w93⟩
    refine lv_goto (tgt := 97) hx hb zd_Program_add_78 (by decide) ?_
    exact wJ_Program_add_97 G K ad sv a0 a1 a2 a3 Post C I J (va_up (va_up (va_up (va_up (va_up B 6 (upd (B 6) (I 9).toNatClampNeg a0)) 7 (upd (B 7) (I 9).toNatClampNeg a1)) 8 (upd (B 8) (I 9).toNatClampNeg a2)) 9 (upd (B 9) (I 9).toNatClampNeg a3)) 10 (upd (B 10) (I 9).toNatClampNeg (I 10))) (va_up D 0 (vp_updL (D 0) a1.toNatClampNeg z7)) ls H locs hok (lv_sub hl [1] rfl) hw
def wc_Text_expect_12 (a0 : Int32) (Post : (Nat → Int32) → (Nat → Int64) → (Nat → Nat → Int32) → (Nat → Nat → Int64) → Prop) (PX : String → (Nat → Int32) → (Nat → Int64) → (Nat → Nat → Int32) → (Nat → Nat → Int64) → Prop)  (I : Nat → Int32) (J : Nat → Int64) (B : Nat → Nat → Int32) (D : Nat → Nat → Int64) : Prop :=
  Post I J B D
def wp_Text_expect (I : Nat → Int32) (J : Nat → Int64) (B : Nat → Nat → Int32) (D : Nat → Nat → Int64) (a0 : Int32) (Post : (Nat → Int32) → (Nat → Int64) → (Nat → Nat → Int32) → (Nat → Nat → Int64) → Prop) (PX : String → (Nat → Int32) → (Nat → Int64) → (Nat → Nat → Int32) → (Nat → Nat → Int64) → Prop) : Prop :=
  wp_Text_accept I J B D a0 (fun r1 I1 J1 B1 D1 => ((¬ r1 = 0 → wc_Text_expect_12 a0 Post PX I1 J1 B1 D1) ∧ (r1 = 0 → wp_Text_refuse I1 J1 B1 D1  (fun I3 J3 B3 D3 => wc_Text_expect_12 a0 Post PX I3 J3 B3 D3) PX)))
set_option maxHeartbeats 8000000 in
set_option maxRecDepth 100000 in
theorem wJ_Text_expect_12 {p : Program} {l : Launch} {e : Env} {s : State} {m : MethodId} {below : List Frame} {meth : Method} {c : Code} {A : Nat → Prop} (G : va_G) (K : Nat → ClassId) (ad : Nat → Nat) (sv : Value) (a0 : Int32) (Post : (Nat → Int32) → (Nat → Int64) → (Nat → Nat → Int32) → (Nat → Nat → Int64) → Prop) (PX : String → (Nat → Int32) → (Nat → Int64) → (Nat → Nat → Int32) → (Nat → Nat → Int64) → Prop) (C : zCy p l s m ([.ref (ad 1), .int a0] : List Value).toArray meth c A G K prog_10_method_9_code none 2 "LassoFinder$Text") : ∀  (I : Nat → Int32) (J : Nat → Int64) (B : Nat → Nat → Int32) (D : Nat → Nat → Int64) (ls : Array Slot) (H : Heap) (locs : List Loc), wc_Text_expect_12 a0 Post PX  I J B D → lv_has ls 2 [] → zW G A s.heap (wX ad K sv I J B D) H locs → W p l e { frames := 7, cells := 1, slots := 6, locals := 101 } s m ([.ref (ad 1), .int a0] : List Value).toArray below meth c H locs 0 0 (zyMQ below (va_Qv (fun u : zS => Post u.1 u.2.1 u.2.2.1 u.2.2.2) (fun u t => zPost G K A (wX ad K sv u.1 u.2.1 u.2.2.1 u.2.2.2) t) A) (zYC (fun E (u : zS) => PX E u.1 u.2.1 u.2.2.1 u.2.2.2) (fun u => wX ad K sv u.1 u.2.1 u.2.2.1 u.2.2.2) G K A) ([.ref (ad 1), .int a0] : List Value).toArray s 1 6 A) (F0 m 12 ls []) := by
  obtain ⟨hx, hb, hr, hml, hts, hown, hlocks, hA, hK, hT, hnt, hlt⟩ := id C
  intro  I J B D ls H locs hok hl hw
  unfold wc_Text_expect_12 at hok
  exact zy_ret (z_vret (u := (I, J, B, D)) hx hb hr hlocks hw (List.range 65) wX_all wX_nd hok (Nat.le_of_ble_eq_true rfl) (Nat.le_of_ble_eq_true rfl) zd_Text_expect_12)
set_option maxHeartbeats 8000000 in
set_option maxRecDepth 100000 in
theorem w_Text_expect (l : Launch) (hlt : l.stackTraces = false) (G : va_G) (K : Nat → ClassId) (ad : Nat → Nat) (sv : Value) (I : Nat → Int32) (J : Nat → Int64) (B : Nat → Nat → Int32) (D : Nat → Nat → Int64) (a0 : Int32) (Post : (Nat → Int32) → (Nat → Int64) → (Nat → Nat → Int32) → (Nat → Nat → Int64) → Prop) (PX : String → (Nat → Int32) → (Nat → Int64) → (Nat → Nat → Int32) → (Nat → Nat → Int64) → Prop) (sz : Nat) (hok : wp_Text_expect I J B D a0 Post PX) : zyMet l zy_Text_expect (Cond.code zy_Text_expect prog_10_method_9_code 2 none :: zTB) { frames := 7, cells := 1, slots := 6, locals := 101 } (va_Pc [.ref (ad 1), .int a0] (zPreY G K (wX ad K sv I J B D) sz)) (va_Qv (fun u : zS => Post u.1 u.2.1 u.2.2.1 u.2.2.2) (fun u t => zPost G K (va_A (wX ad K sv I J B D) sz) (wX ad K sv u.1 u.2.1 u.2.2.1 u.2.2.2) t) (va_A (wX ad K sv I J B D) sz)) (zYC (fun E (u : zS) => PX E u.1 u.2.1 u.2.2.1 u.2.2.2) (fun u => wX ad K sv u.1 u.2.1 u.2.2.1 u.2.2.2) G K (va_A (wX ad K sv I J B D) sz)) 1 6 (va_A (wX ad K sv I J B D) sz) := by
  refine zMetY (y := zy_Text_expect) (av := [.ref (ad 1), .int a0]) (maxL := 2) (cc := prog_10_method_9_code) (ret := none) (W0 := (wX ad K sv I J B D)) (sz := sz) (G := G) (K := K) (wt := zTB) (mc := 1) (ms := 6) (Qf := fun A => va_Qv (fun u : zS => Post u.1 u.2.1 u.2.2.1 u.2.2.2) (fun u t => zPost G K A (wX ad K sv u.1 u.2.1 u.2.2.1 u.2.2.2) t) A) (Xf := fun A => (zYC (fun E (u : zS) => PX E u.1 u.2.1 u.2.2.1 u.2.2.2) (fun u => wX ad K sv u.1 u.2.1 u.2.2.1 u.2.2.2) G K A)) (by decide) (Nat.le_of_ble_eq_true rfl) ?_
  intro p e s m below meth c ls A hx hb hr hml hts hown hlocks hin hA hK H locs hw hsz hl hT hnt
  clear hsz
  have hown : s.vm.findClass "LassoFinder$Text" = some m.cls := hown
  have C : zCy p l s m ([.ref (ad 1), .int a0] : List Value).toArray meth c A G K prog_10_method_9_code none 2 "LassoFinder$Text" := ⟨hx, hb, hr, hml, hts, hown, hlocks, hA, hK, hT, hnt, hlt⟩
  have hl : lv_has ls 2 [(0, .ref (ad 1)), (1, .int a0)] := hl
  have hw : zW G A s.heap (wX ad K sv I J B D) H locs := hw
  unfold wp_Text_expect at hok
  refine lv_aload_n hx hb zd_Text_expect_0 rfl (lv_at hl 0 rfl) ?_
  refine lv_iload_n hx hb zd_Text_expect_1 rfl (lv_at hl 1 rfl) ?_
  refine z_calli (w1 := fun (u : zS) => wX ad K sv u.1 u.2.1 u.2.2.1 u.2.2.2) (wr := []) (z_runV (q0 := 1) (wc := (wX ad K sv I J B D)) (As := [.int a0]) (rest := []) ⟨hx, hb, hml, hown, hts⟩ (w_Text_accept l G K ad sv I J B D a0 _ H.size hok) zf_Text_accept zn_341 ⟨Nat.le_of_ble_eq_true rfl, Nat.le_of_ble_eq_true rfl⟩ hK hw (List.range 65) wX_all wX_nd wX_g1 rfl rfl hl.1 rfl (Nat.le_of_ble_eq_true rfl) zd_Text_expect_2 ⟨Nat.le_of_ble_eq_true rfl, Nat.le_of_ble_eq_true rfl⟩) hw hA (List.range 65) [] wX_all rfl (by decide) (fun i hi => by cases hi) (fun r1 u H locs hok hw => ?_)
  obtain ⟨I1, J1, B1, D1⟩ := u
  dsimp only at hok
  have hw : zW G A s.heap (wX ad K sv I1 J1 B1 D1) H locs := hw
  refine lv_if_ne (tgt := 12) hx hb zd_Text_expect_5 (by decide) (fun hc2 => ?_) (fun hc2 => ?_)
  · have hok := hok.1 hc2
    exact wJ_Text_expect_12 G K ad sv a0 Post PX C I1 J1 B1 D1 ls H locs hok (lv_sub hl [] rfl) hw
  · have hok := hok.2 hc2
    refine lv_aload_n hx hb zd_Text_expect_8 rfl (lv_at hl 0 rfl) ?_
    refine z_yV (q0 := 1) (wc := (wX ad K sv I1 J1 B1 D1)) (wr := []) (w1 := fun (u : zS) => wX ad K sv u.1 u.2.1 u.2.2.1 u.2.2.2) (As := []) (rest := []) ⟨hx, hb, hml, hown, hts⟩ (w_Text_refuse l hlt G K ad sv I1 J1 B1 D1  _ _ H.size hok) zf_Text_refuse zn_342 ⟨Nat.le_of_ble_eq_true rfl, Nat.le_of_ble_eq_true rfl⟩ hK hT hw hA (List.range 65) [] wX_all rfl wX_nd (by decide) (fun i hi => by cases hi) wX_g1 rfl rfl hl.1 rfl (Nat.le_of_ble_eq_true rfl) zd_Text_expect_9 ⟨Nat.le_of_ble_eq_true rfl, Nat.le_of_ble_eq_true rfl⟩ (fun v st9 t9 L9 h0 hq hL => ?_) (fun E ce q9 u H locs hu hw hce hcv hcl => z_yout (u := u) hnt hlocks hce hcv hcl hw (List.range 65) wX_all wX_nd hu (Nat.le_of_ble_eq_true rfl) (Nat.le_of_ble_eq_true rfl))
    obtain ⟨⟨u, hv9, hok, hB9⟩, hF9⟩ := hq
    cases hv9
    have hw := z_back (wr := []) hw hA (List.range 65) [] wX_all rfl (by decide) (fun i hi => by cases hi) h0 hL hB9 hF9
    obtain ⟨I3, J3, B3, D3⟩ := u
    dsimp only at hok
    generalize t9.heap = H at hw ⊢
    generalize locs ++ L9 = locs at hw ⊢
    have hw : zW G A s.heap (wX ad K sv I3 J3 B3 D3) H locs := hw
    refine W.eq (g2 := F0 m 12 ls []) rfl ?_
    exact wJ_Text_expect_12 G K ad sv a0 Post PX C I3 J3 B3 D3 ls H locs hok (lv_sub hl [] rfl) hw
def wc_ModelReader_leadsInside_15 (a0 : Int32) (a1 : Int32) (Post : Int32 → (Nat → Int32) → (Nat → Int64) → (Nat → Nat → Int32) → (Nat → Nat → Int64) → Prop) (y0 : Int32) (I : Nat → Int32) (J : Nat → Int64) (B : Nat → Nat → Int32) (D : Nat → Nat → Int64) : Prop :=
  (y0 = 0 ∨ y0 = 1) ∧ Post y0 I J B D
def wc_ModelReader_leadsInside_14 (a0 : Int32) (a1 : Int32) (Post : Int32 → (Nat → Int32) → (Nat → Int64) → (Nat → Nat → Int32) → (Nat → Nat → Int64) → Prop)  (I : Nat → Int32) (J : Nat → Int64) (B : Nat → Nat → Int32) (D : Nat → Nat → Int64) : Prop :=
  wc_ModelReader_leadsInside_15 a0 a1 Post 0 I J B D
def wp_ModelReader_leadsInside (I : Nat → Int32) (J : Nat → Int64) (B : Nat → Nat → Int32) (D : Nat → Nat → Int64) (a0 : Int32) (a1 : Int32) (Post : Int32 → (Nat → Int32) → (Nat → Int64) → (Nat → Nat → Int32) → (Nat → Nat → Int64) → Prop) : Prop :=
  ((a0 = (-1) → wc_ModelReader_leadsInside_14 a0 a1 Post I J B D) ∧ (¬ a0 = (-1) → ((¬ a1 = (-1) → wc_ModelReader_leadsInside_14 a0 a1 Post I J B D) ∧ (a1 = (-1) → wc_ModelReader_leadsInside_15 a0 a1 Post 1 I J B D))))
set_option maxHeartbeats 8000000 in
set_option maxRecDepth 100000 in
theorem wJ_ModelReader_leadsInside_15 {p : Program} {l : Launch} {e : Env} {s : State} {m : MethodId} {below : List Frame} {meth : Method} {c : Code} {A : Nat → Prop} (G : va_G) (K : Nat → ClassId) (ad : Nat → Nat) (sv : Value) (a0 : Int32) (a1 : Int32) (Post : Int32 → (Nat → Int32) → (Nat → Int64) → (Nat → Nat → Int32) → (Nat → Nat → Int64) → Prop) (C : zCx p s m ([.int a0, .int a1] : List Value).toArray meth c A G K prog_5_method_13_code (some .boolean) 2 "LassoFinder$ModelReader") : ∀ (y0 : Int32) (I : Nat → Int32) (J : Nat → Int64) (B : Nat → Nat → Int32) (D : Nat → Nat → Int64) (ls : Array Slot) (H : Heap) (locs : List Loc), wc_ModelReader_leadsInside_15 a0 a1 Post y0 I J B D → lv_has ls 2 [] → zW G A s.heap (wX ad K sv I J B D) H locs → W p l e { frames := 0, cells := 0, slots := 0, locals := 0 } s m ([.int a0, .int a1] : List Value).toArray below meth c H locs 0 0 (MQ below (va_Qi (fun (r : Int32) (u : zS) => Post r u.1 u.2.1 u.2.2.1 u.2.2.2) (fun u t => zPost G K A (wX ad K sv u.1 u.2.1 u.2.2.1 u.2.2.2) t) A) ([.int a0, .int a1] : List Value).toArray s 0 0 A) (F0 m 15 ls [.int y0]) := by
  obtain ⟨hx, hb, hr, hml, hts, hown, hlocks, hA, hK⟩ := id C
  intro y0 I J B D ls H locs hok hl hw
  unfold wc_ModelReader_leadsInside_15 at hok
  have hbo := hok.1
  have hok := hok.2
  exact (z_iret (u := (I, J, B, D)) hx hb hr hlocks (z_nar hbo) hw (List.range 65) wX_all wX_nd hok (Nat.le_of_ble_eq_true rfl) (Nat.le_of_ble_eq_true rfl) zd_ModelReader_leadsInside_15)
set_option maxHeartbeats 8000000 in
set_option maxRecDepth 100000 in
theorem wJ_ModelReader_leadsInside_14 {p : Program} {l : Launch} {e : Env} {s : State} {m : MethodId} {below : List Frame} {meth : Method} {c : Code} {A : Nat → Prop} (G : va_G) (K : Nat → ClassId) (ad : Nat → Nat) (sv : Value) (a0 : Int32) (a1 : Int32) (Post : Int32 → (Nat → Int32) → (Nat → Int64) → (Nat → Nat → Int32) → (Nat → Nat → Int64) → Prop) (C : zCx p s m ([.int a0, .int a1] : List Value).toArray meth c A G K prog_5_method_13_code (some .boolean) 2 "LassoFinder$ModelReader") : ∀  (I : Nat → Int32) (J : Nat → Int64) (B : Nat → Nat → Int32) (D : Nat → Nat → Int64) (ls : Array Slot) (H : Heap) (locs : List Loc), wc_ModelReader_leadsInside_14 a0 a1 Post  I J B D → lv_has ls 2 [] → zW G A s.heap (wX ad K sv I J B D) H locs → W p l e { frames := 0, cells := 0, slots := 0, locals := 0 } s m ([.int a0, .int a1] : List Value).toArray below meth c H locs 0 0 (MQ below (va_Qi (fun (r : Int32) (u : zS) => Post r u.1 u.2.1 u.2.2.1 u.2.2.2) (fun u t => zPost G K A (wX ad K sv u.1 u.2.1 u.2.2.1 u.2.2.2) t) A) ([.int a0, .int a1] : List Value).toArray s 0 0 A) (F0 m 14 ls []) := by
  obtain ⟨hx, hb, hr, hml, hts, hown, hlocks, hA, hK⟩ := id C
  intro  I J B D ls H locs hok hl hw
  unfold wc_ModelReader_leadsInside_14 at hok
  refine lv_iconst (v := 0) hx hb zd_ModelReader_leadsInside_14 (by decide) ?_
  exact wJ_ModelReader_leadsInside_15 G K ad sv a0 a1 Post C 0 I J B D ls H locs hok (lv_sub hl [] rfl) hw
set_option maxHeartbeats 8000000 in
set_option maxRecDepth 100000 in
theorem w_ModelReader_leadsInside (l : Launch) (G : va_G) (K : Nat → ClassId) (ad : Nat → Nat) (sv : Value) (I : Nat → Int32) (J : Nat → Int64) (B : Nat → Nat → Int32) (D : Nat → Nat → Int64) (a0 : Int32) (a1 : Int32) (Post : Int32 → (Nat → Int32) → (Nat → Int64) → (Nat → Nat → Int32) → (Nat → Nat → Int64) → Prop) (sz : Nat) (hok : wp_ModelReader_leadsInside I J B D a0 a1 Post) : Met l zy_ModelReader_leadsInside (Cond.code zy_ModelReader_leadsInside prog_5_method_13_code 2 (some .boolean) :: zTB) { frames := 0, cells := 0, slots := 0, locals := 0 } (va_Pc [.int a0, .int a1] (zPre G K (wX ad K sv I J B D) sz)) (va_Qi (fun (r : Int32) (u : zS) => Post r u.1 u.2.1 u.2.2.1 u.2.2.2) (fun u t => zPost G K (va_A (wX ad K sv I J B D) sz) (wX ad K sv u.1 u.2.1 u.2.2.1 u.2.2.2) t) (va_A (wX ad K sv I J B D) sz)) 0 0 (va_A (wX ad K sv I J B D) sz) := by
  refine zMet (y := zy_ModelReader_leadsInside) (av := [.int a0, .int a1]) (maxL := 2) (cc := prog_5_method_13_code) (ret := (some .boolean)) (W0 := (wX ad K sv I J B D)) (sz := sz) (G := G) (K := K) (wt := zTB) (mc := 0) (ms := 0) (Qf := fun A => va_Qi (fun (r : Int32) (u : zS) => Post r u.1 u.2.1 u.2.2.1 u.2.2.2) (fun u t => zPost G K A (wX ad K sv u.1 u.2.1 u.2.2.1 u.2.2.2) t) A) (by decide) (Nat.le_of_ble_eq_true rfl) ?_
  intro p e s m below meth c ls A hx hb hr hml hts hown hlocks hin hA hK H locs hw hsz hl
  clear hsz
  have hown : s.vm.findClass "LassoFinder$ModelReader" = some m.cls := hown
  have C : zCx p s m ([.int a0, .int a1] : List Value).toArray meth c A G K prog_5_method_13_code (some .boolean) 2 "LassoFinder$ModelReader" := ⟨hx, hb, hr, hml, hts, hown, hlocks, hA, hK⟩
  have hl : lv_has ls 2 [(0, .int a0), (1, .int a1)] := hl
  have hw : zW G A s.heap (wX ad K sv I J B D) H locs := hw
  unfold wp_ModelReader_leadsInside at hok
  refine lv_iload_n hx hb zd_ModelReader_leadsInside_0 rfl (lv_at hl 0 rfl) ?_
  refine lv_iconst (v := (-1)) hx hb zd_ModelReader_leadsInside_1 (by decide) ?_
  refine lv_icmp_eq (tgt := 14) hx hb zd_ModelReader_leadsInside_2 (by decide) (fun hc1 => ?_) (fun hc1 => ?_)
  · have hok := hok.1 hc1
    exact wJ_ModelReader_leadsInside_14 G K ad sv a0 a1 Post C I J B D ls H locs hok (lv_sub hl [] rfl) hw
  · have hok := hok.2 hc1
    refine lv_iload_n hx hb zd_ModelReader_leadsInside_5 rfl (lv_at hl 1 rfl) ?_
    refine lv_iconst (v := (-1)) hx hb zd_ModelReader_leadsInside_6 (by decide) ?_
    refine lv_icmp_ne (tgt := 14) hx hb zd_ModelReader_leadsInside_7 (by decide) (fun hc2 => ?_) (fun hc2 => ?_)
    · have hok := hok.1 hc2
      exact wJ_ModelReader_leadsInside_14 G K ad sv a0 a1 Post C I J B D ls H locs hok (lv_sub hl [] rfl) hw
    · have hok := hok.2 hc2
      refine lv_iconst (v := 1) hx hb zd_ModelReader_leadsInside_10 (by decide) ?_
      refine lv_goto (tgt := 15) hx hb zd_ModelReader_leadsInside_11 (by decide) ?_
      exact wJ_ModelReader_leadsInside_15 G K ad sv a0 a1 Post C 1 I J B D ls H locs hok (lv_sub hl [] rfl) hw
