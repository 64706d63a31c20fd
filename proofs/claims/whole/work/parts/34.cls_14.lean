abbrev zy_ModelReader_readBody : MethodName := ⟨"LassoFinder$ModelReader", "readBody", "(II)V"⟩
abbrev zy_ModelReader_readStatement : MethodName := ⟨"LassoFinder$ModelReader", "readStatement", "(III)I"⟩
abbrev zy_ModelReader_readChoice : MethodName := ⟨"LassoFinder$ModelReader", "readChoice", "(III)I"⟩
abbrev zy_ModelReader_readAtomic : MethodName := ⟨"LassoFinder$ModelReader", "readAtomic", "(III)I"⟩
abbrev zy_Truths_fill : MethodName := ⟨"LassoFinder$Truths", "fill", "()V"⟩
abbrev zy_LassoFinder_walk : MethodName := ⟨"LassoFinder", "walk", "()V"⟩
abbrev zy_LassoFinder_go : MethodName := ⟨"LassoFinder", "go", "(I)I"⟩
abbrev zy_LassoFinder_truth : MethodName := ⟨"LassoFinder", "truth", "(I)Z"⟩
abbrev zy_Truths_ofRound : MethodName := ⟨"LassoFinder$Truths", "ofRound", "([III)Z"⟩
abbrev zy_Truths_backTo : MethodName := ⟨"LassoFinder$Truths", "backTo", "([IIII)I"⟩
theorem zn_415 : Cond.fieldLink "LassoFinder" 122 "LassoFinder" "hasFormula" "Z" ∈ zTB := z_in (zt_2 _ (List.mem_of_getElem? (i := 230) rfl)) rfl
theorem zn_505 : Cond.methodLink "LassoFinder$Truths" 64 ⟨"LassoFinder$Situation", "unpack", "(J)V"⟩ ∈ zTB := z_in (zt_5 _ (List.mem_of_getElem? (i := 81) rfl)) rfl
theorem zn_506 : Cond.methodLink "LassoFinder$Truths" 70 ⟨"LassoFinder$Truths", "fillBefore", "(I)V"⟩ ∈ zTB := z_in (zt_5 _ (List.mem_of_getElem? (i := 82) rfl)) rfl
theorem zn_512 : Cond.methodLink "LassoFinder$Truths" 74 ⟨"LassoFinder$Truths", "fillSettled", "(I)V"⟩ ∈ zTB := z_in (zt_5 _ (List.mem_of_getElem? (i := 105) rfl)) rfl
theorem zn_515 : Cond.fieldLink "LassoFinder" 76 "LassoFinder" "truths" "LLassoFinder$Truths;" ∈ zTB := z_in (zt_2 _ (List.mem_of_getElem? (i := 225) rfl)) rfl
theorem zn_530 : Cond.fieldLink "LassoFinder$Truths" 48 "LassoFinder$Truths" "unending" "I" ∈ zTB := z_in (zt_2 _ (List.mem_of_getElem? (i := 198) rfl)) rfl
theorem zn_531 : Cond.fieldLink "LassoFinder$Truths" 7 "LassoFinder$Truths" "graph" "LLassoFinder$Graph;" ∈ zTB := z_in (zt_2 _ (List.mem_of_getElem? (i := 186) rfl)) rfl
theorem zn_532 : Cond.fieldLink "LassoFinder$Truths" 57 "LassoFinder$Graph" "states" "I" ∈ zTB := z_in (zt_2 _ (List.mem_of_getElem? (i := 101) rfl)) rfl
theorem zn_534 : Cond.fieldLink "LassoFinder$Truths" 60 "LassoFinder$Graph" "packedStates" "[J" ∈ zTB := z_in (zt_2 _ (List.mem_of_getElem? (i := 82) rfl)) rfl
theorem zn_542 : Cond.fieldLink "LassoFinder$Truths" 45 "LassoFinder$Truths" "guesses" "I" ∈ zTB := z_in (zt_2 _ (List.mem_of_getElem? (i := 196) rfl)) rfl
theorem zn_567 : Cond.classLink "LassoFinder" 115 "java/lang/IllegalStateException" ∈ zTB := z_in (zt_5 _ (List.mem_of_getElem? (i := 8) rfl)) rfl
theorem zn_568 : Cond.initialized "java/lang/IllegalStateException" ∈ zTB := z_in (zt_1 _ (List.mem_of_getElem? (i := 20) rfl)) rfl
theorem zn_569 : Cond.instantiable "java/lang/IllegalStateException" 6 ∈ zTB := z_in (zt_5 _ (List.mem_of_getElem? (i := 9) rfl)) rfl
theorem zn_570 : Cond.fieldLink "LassoFinder" 159 "LassoFinder$Graph" "firstStep" "[I" ∈ zTB := z_in (zt_2 _ (List.mem_of_getElem? (i := 85) rfl)) rfl
theorem zn_571 : Cond.fieldLink "LassoFinder" 174 "LassoFinder$Graph" "stepTo" "[I" ∈ zTB := z_in (zt_2 _ (List.mem_of_getElem? (i := 92) rfl)) rfl
theorem zn_572 : Cond.fieldLink "LassoFinder" 165 "LassoFinder$Graph" "stepBasic" "[I" ∈ zTB := z_in (zt_2 _ (List.mem_of_getElem? (i := 94) rfl)) rfl
theorem zn_573 : Cond.classLink "LassoFinder" 152 "java/lang/IndexOutOfBoundsException" ∈ zTB := z_in (zt_6 _ (List.mem_of_getElem? (i := 38) rfl)) rfl
theorem zn_574 : Cond.initialized "java/lang/IndexOutOfBoundsException" ∈ zTB := z_in (zt_1 _ (List.mem_of_getElem? (i := 23) rfl)) rfl
theorem zn_575 : Cond.instantiable "java/lang/IndexOutOfBoundsException" 6 ∈ zTB := z_in (zt_6 _ (List.mem_of_getElem? (i := 39) rfl)) rfl
theorem zn_576 : Cond.classLink "LassoFinder" 109 "java/lang/UnsupportedOperationException" ∈ zTB := z_in (zt_4 _ (List.mem_of_getElem? (i := 225) rfl)) rfl
theorem zn_577 : Cond.initialized "java/lang/UnsupportedOperationException" ∈ zTB := z_in (zt_1 _ (List.mem_of_getElem? (i := 19) rfl)) rfl
theorem zn_578 : Cond.instantiable "java/lang/UnsupportedOperationException" 6 ∈ zTB := z_in (zt_4 _ (List.mem_of_getElem? (i := 226) rfl)) rfl
theorem zn_580 : Cond.methodLink "LassoFinder" 202 ⟨"LassoFinder$Truths", "ofRound", "([III)Z"⟩ ∈ zTB := z_in (zt_6 _ (List.mem_of_getElem? (i := 80) rfl)) rfl
theorem zn_581 : Cond.methodLink "LassoFinder$Truths" 124 ⟨"LassoFinder$Truths", "backTo", "([IIII)I"⟩ ∈ zTB := z_in (zt_6 _ (List.mem_of_getElem? (i := 84) rfl)) rfl
theorem zn_582 : Cond.classLink "LassoFinder" 199 "java/lang/IllegalArgumentException" ∈ zTB := z_in (zt_6 _ (List.mem_of_getElem? (i := 78) rfl)) rfl
theorem zn_739 : Cond.code ⟨"LassoFinder$Truths", "fillBefore", "(I)V"⟩ prog_12_method_3_code 5 none ∈ zTB := z_in (zt_5 _ (List.mem_of_getElem? (i := 85) rfl)) rfl
theorem zn_740 : Cond.instanceMethod ⟨"LassoFinder$Truths", "fillBefore", "(I)V"⟩ ∈ zTB := z_in (zt_5 _ (List.mem_of_getElem? (i := 84) rfl)) rfl
theorem zn_741 : Cond.code ⟨"LassoFinder$Truths", "fillSettled", "(I)V"⟩ prog_12_method_4_code 6 none ∈ zTB := z_in (zt_5 _ (List.mem_of_getElem? (i := 108) rfl)) rfl
theorem zn_742 : Cond.instanceMethod ⟨"LassoFinder$Truths", "fillSettled", "(I)V"⟩ ∈ zTB := z_in (zt_5 _ (List.mem_of_getElem? (i := 107) rfl)) rfl
theorem zn_743 : Cond.code ⟨"LassoFinder$Truths", "backTo", "([IIII)I"⟩ prog_12_method_11_code 7 (some .int) ∈ zTB := z_in (zt_6 _ (List.mem_of_getElem? (i := 87) rfl)) rfl
theorem zn_744 : Cond.instanceMethod ⟨"LassoFinder$Truths", "backTo", "([IIII)I"⟩ ∈ zTB := z_in (zt_6 _ (List.mem_of_getElem? (i := 86) rfl)) rfl
theorem zn_745 : Cond.code ⟨"LassoFinder$Truths", "ofRound", "([III)Z"⟩ prog_12_method_10_code 7 (some .boolean) ∈ zTB := z_in (zt_6 _ (List.mem_of_getElem? (i := 83) rfl)) rfl
theorem zn_746 : Cond.selects "LassoFinder$Truths" ⟨"LassoFinder$Truths", "ofRound", "([III)Z"⟩ ⟨"LassoFinder$Truths", "ofRound", "([III)Z"⟩ ∈ zTB := z_in (zt_6 _ (List.mem_of_getElem? (i := 82) rfl)) rfl
theorem zn_747 : Cond.instanceMethod ⟨"LassoFinder$Truths", "ofRound", "([III)Z"⟩ ∈ zTB := z_in (zt_6 _ (List.mem_of_getElem? (i := 81) rfl)) rfl
theorem zf_Truths_fillBefore : zFaceV zy_Truths_fillBefore prog_12_method_3_code 5 none 1 := ⟨zn_740, (z_in (zp_3 _ (List.mem_of_getElem? (i := 14) rfl)) rfl), zm_23, zn_739, by decide +kernel, by decide +kernel, by decide +kernel⟩
theorem zf_Truths_fillSettled : zFaceV zy_Truths_fillSettled prog_12_method_4_code 6 none 1 := ⟨zn_742, (z_in (zp_4 _ (List.mem_of_getElem? (i := 3) rfl)) rfl), zm_23, zn_741, by decide +kernel, by decide +kernel, by decide +kernel⟩
theorem zf_Truths_backTo : zFaceV zy_Truths_backTo prog_12_method_11_code 7 (some .int) 4 := ⟨zn_744, (z_in (zp_5 _ (List.mem_of_getElem? (i := 7) rfl)) rfl), zm_23, zn_743, by decide +kernel, by decide +kernel, by decide +kernel⟩
theorem zf_Truths_ofRound : zFaceV zy_Truths_ofRound prog_12_method_10_code 7 (some .boolean) 3 := ⟨zn_747, zn_746, zm_23, zn_745, by decide +kernel, by decide +kernel, by decide +kernel⟩
theorem zx_1 : ∀ w ∈ Bundle.ownAtoms0 "LassoFinder" 117 "java/lang/IllegalStateException" ["java/lang/RuntimeException", "java/lang/Exception"], w ∈ zTB ∨ w = .isRef (.static Bundle.tN "UNASSIGNED_STACK" Bundle.steD) ∨ w = .isRef (.static Bundle.tN "SUPPRESSED_SENTINEL" Bundle.listD) ∨ w = .laysStatic Bundle.tN "UNASSIGNED_STACK" Bundle.steD ∨ w = .laysStatic Bundle.tN "SUPPRESSED_SENTINEL" Bundle.listD ∨ w ∈ zDC := zx_of (by decide +kernel)
theorem zx_2 : ∀ w ∈ Bundle.ownAtoms0 "LassoFinder" 154 "java/lang/IndexOutOfBoundsException" ["java/lang/RuntimeException", "java/lang/Exception"], w ∈ zTB ∨ w = .isRef (.static Bundle.tN "UNASSIGNED_STACK" Bundle.steD) ∨ w = .isRef (.static Bundle.tN "SUPPRESSED_SENTINEL" Bundle.listD) ∨ w = .laysStatic Bundle.tN "UNASSIGNED_STACK" Bundle.steD ∨ w = .laysStatic Bundle.tN "SUPPRESSED_SENTINEL" Bundle.listD ∨ w ∈ zDC := zx_of (by decide +kernel)
theorem zx_3 : ∀ w ∈ Bundle.ownAtoms0 "LassoFinder" 111 "java/lang/UnsupportedOperationException" ["java/lang/RuntimeException", "java/lang/Exception"], w ∈ zTB ∨ w = .isRef (.static Bundle.tN "UNASSIGNED_STACK" Bundle.steD) ∨ w = .isRef (.static Bundle.tN "SUPPRESSED_SENTINEL" Bundle.listD) ∨ w = .laysStatic Bundle.tN "UNASSIGNED_STACK" Bundle.steD ∨ w = .laysStatic Bundle.tN "SUPPRESSED_SENTINEL" Bundle.listD ∨ w ∈ zDC := zx_of (by decide +kernel)
theorem zx_4 : ∀ w ∈ Bundle.ownAtoms0 "LassoFinder" 201 "java/lang/IllegalArgumentException" ["java/lang/RuntimeException", "java/lang/Exception"], w ∈ zTB ∨ w = .isRef (.static Bundle.tN "UNASSIGNED_STACK" Bundle.steD) ∨ w = .isRef (.static Bundle.tN "SUPPRESSED_SENTINEL" Bundle.listD) ∨ w = .laysStatic Bundle.tN "UNASSIGNED_STACK" Bundle.steD ∨ w = .laysStatic Bundle.tN "SUPPRESSED_SENTINEL" Bundle.listD ∨ w ∈ zDC := zx_of (by decide +kernel)
theorem zd_LassoFinder_go_0 : decode prog_1_method_12_code 0 = .ok (.aload_n 0, 1) := by decide +kernel
theorem zd_LassoFinder_go_1 : decode prog_1_method_12_code 1 = .ok (.getfield 84, 3) := by decide +kernel
theorem zd_LassoFinder_go_4 : decode prog_1_method_12_code 4 = .ok (.iconst (-1), 1) := by decide +kernel
theorem zd_LassoFinder_go_5 : decode prog_1_method_12_code 5 = .ok (.if_icmp .ne 11, 3) := by decide +kernel
theorem zd_LassoFinder_go_8 : decode prog_1_method_12_code 8 = .ok (.new 115, 3) := by decide +kernel
theorem zd_LassoFinder_go_11 : decode prog_1_method_12_code 11 = .ok (.dup, 1) := by decide +kernel
theorem zd_LassoFinder_go_12 : decode prog_1_method_12_code 12 = .ok (.invokespecial 117, 3) := by decide +kernel
theorem zd_LassoFinder_go_15 : decode prog_1_method_12_code 15 = .ok (.athrow, 1) := by decide +kernel
theorem zd_LassoFinder_go_16 : decode prog_1_method_12_code 16 = .ok (.aload_n 0, 1) := by decide +kernel
theorem zd_LassoFinder_go_17 : decode prog_1_method_12_code 17 = .ok (.getfield 80, 3) := by decide +kernel
theorem zd_LassoFinder_go_20 : decode prog_1_method_12_code 20 = .ok (.aload_n 0, 1) := by decide +kernel
theorem zd_LassoFinder_go_21 : decode prog_1_method_12_code 21 = .ok (.getfield 84, 3) := by decide +kernel
theorem zd_LassoFinder_go_24 : decode prog_1_method_12_code 24 = .ok (.iaload, 1) := by decide +kernel
theorem zd_LassoFinder_go_25 : decode prog_1_method_12_code 25 = .ok (.istore_n 2, 1) := by decide +kernel
theorem zd_LassoFinder_go_26 : decode prog_1_method_12_code 26 = .ok (.iload_n 1, 1) := by decide +kernel
theorem zd_LassoFinder_go_27 : decode prog_1_method_12_code 27 = .ok (.ifCond .lt 15, 3) := by decide +kernel
theorem zd_LassoFinder_go_30 : decode prog_1_method_12_code 30 = .ok (.iload_n 1, 1) := by decide +kernel
theorem zd_LassoFinder_go_31 : decode prog_1_method_12_code 31 = .ok (.aload_n 0, 1) := by decide +kernel
theorem zd_LassoFinder_go_32 : decode prog_1_method_12_code 32 = .ok (.getfield 58, 3) := by decide +kernel
theorem zd_LassoFinder_go_35 : decode prog_1_method_12_code 35 = .ok (.iload_n 2, 1) := by decide +kernel
theorem zd_LassoFinder_go_36 : decode prog_1_method_12_code 36 = .ok (.invokevirtual 171, 3) := by decide +kernel
theorem zd_LassoFinder_go_39 : decode prog_1_method_12_code 39 = .ok (.if_icmp .lt 11, 3) := by decide +kernel
theorem zd_LassoFinder_go_42 : decode prog_1_method_12_code 42 = .ok (.new 152, 3) := by decide +kernel
theorem zd_LassoFinder_go_45 : decode prog_1_method_12_code 45 = .ok (.dup, 1) := by decide +kernel
theorem zd_LassoFinder_go_46 : decode prog_1_method_12_code 46 = .ok (.invokespecial 154, 3) := by decide +kernel
theorem zd_LassoFinder_go_49 : decode prog_1_method_12_code 49 = .ok (.athrow, 1) := by decide +kernel
theorem zd_LassoFinder_go_50 : decode prog_1_method_12_code 50 = .ok (.aload_n 0, 1) := by decide +kernel
theorem zd_LassoFinder_go_51 : decode prog_1_method_12_code 51 = .ok (.getfield 84, 3) := by decide +kernel
theorem zd_LassoFinder_go_54 : decode prog_1_method_12_code 54 = .ok (.bipush 60, 2) := by decide +kernel
theorem zd_LassoFinder_go_56 : decode prog_1_method_12_code 56 = .ok (.if_icmp .ne 11, 3) := by decide +kernel
theorem zd_LassoFinder_go_59 : decode prog_1_method_12_code 59 = .ok (.new 109, 3) := by decide +kernel
theorem zd_LassoFinder_go_62 : decode prog_1_method_12_code 62 = .ok (.dup, 1) := by decide +kernel
theorem zd_LassoFinder_go_63 : decode prog_1_method_12_code 63 = .ok (.invokespecial 111, 3) := by decide +kernel
theorem zd_LassoFinder_go_66 : decode prog_1_method_12_code 66 = .ok (.athrow, 1) := by decide +kernel
theorem zd_LassoFinder_go_67 : decode prog_1_method_12_code 67 = .ok (.aload_n 0, 1) := by decide +kernel
theorem zd_LassoFinder_go_68 : decode prog_1_method_12_code 68 = .ok (.getfield 58, 3) := by decide +kernel
theorem zd_LassoFinder_go_71 : decode prog_1_method_12_code 71 = .ok (.getfield 159, 3) := by decide +kernel
theorem zd_LassoFinder_go_74 : decode prog_1_method_12_code 74 = .ok (.iload_n 2, 1) := by decide +kernel
theorem zd_LassoFinder_go_75 : decode prog_1_method_12_code 75 = .ok (.iaload, 1) := by decide +kernel
theorem zd_LassoFinder_go_76 : decode prog_1_method_12_code 76 = .ok (.iload_n 1, 1) := by decide +kernel
theorem zd_LassoFinder_go_77 : decode prog_1_method_12_code 77 = .ok (.iadd, 1) := by decide +kernel
theorem zd_LassoFinder_go_78 : decode prog_1_method_12_code 78 = .ok (.istore_n 3, 1) := by decide +kernel
theorem zd_LassoFinder_go_79 : decode prog_1_method_12_code 79 = .ok (.aload_n 0, 1) := by decide +kernel
theorem zd_LassoFinder_go_80 : decode prog_1_method_12_code 80 = .ok (.dup, 1) := by decide +kernel
theorem zd_LassoFinder_go_81 : decode prog_1_method_12_code 81 = .ok (.getfield 84, 3) := by decide +kernel
theorem zd_LassoFinder_go_84 : decode prog_1_method_12_code 84 = .ok (.iconst 1, 1) := by decide +kernel
theorem zd_LassoFinder_go_85 : decode prog_1_method_12_code 85 = .ok (.iadd, 1) := by decide +kernel
theorem zd_LassoFinder_go_86 : decode prog_1_method_12_code 86 = .ok (.putfield 84, 3) := by decide +kernel
theorem zd_LassoFinder_go_89 : decode prog_1_method_12_code 89 = .ok (.aload_n 0, 1) := by decide +kernel
theorem zd_LassoFinder_go_90 : decode prog_1_method_12_code 90 = .ok (.getfield 80, 3) := by decide +kernel
theorem zd_LassoFinder_go_93 : decode prog_1_method_12_code 93 = .ok (.aload_n 0, 1) := by decide +kernel
theorem zd_LassoFinder_go_94 : decode prog_1_method_12_code 94 = .ok (.getfield 84, 3) := by decide +kernel
theorem zd_LassoFinder_go_97 : decode prog_1_method_12_code 97 = .ok (.aload_n 0, 1) := by decide +kernel
theorem zd_LassoFinder_go_98 : decode prog_1_method_12_code 98 = .ok (.getfield 58, 3) := by decide +kernel
theorem zd_LassoFinder_go_101 : decode prog_1_method_12_code 101 = .ok (.getfield 174, 3) := by decide +kernel
theorem zd_LassoFinder_go_104 : decode prog_1_method_12_code 104 = .ok (.iload_n 3, 1) := by decide +kernel
theorem zd_LassoFinder_go_105 : decode prog_1_method_12_code 105 = .ok (.iaload, 1) := by decide +kernel
theorem zd_LassoFinder_go_106 : decode prog_1_method_12_code 106 = .ok (.iastore, 1) := by decide +kernel
theorem zd_LassoFinder_go_107 : decode prog_1_method_12_code 107 = .ok (.aload_n 0, 1) := by decide +kernel
theorem zd_LassoFinder_go_108 : decode prog_1_method_12_code 108 = .ok (.getfield 58, 3) := by decide +kernel
theorem zd_LassoFinder_go_111 : decode prog_1_method_12_code 111 = .ok (.getfield 165, 3) := by decide +kernel
theorem zd_LassoFinder_go_114 : decode prog_1_method_12_code 114 = .ok (.iload_n 3, 1) := by decide +kernel
theorem zd_LassoFinder_go_115 : decode prog_1_method_12_code 115 = .ok (.iaload, 1) := by decide +kernel
theorem zd_LassoFinder_go_116 : decode prog_1_method_12_code 116 = .ok (.ireturn, 1) := by decide +kernel
theorem zd_LassoFinder_truth_0 : decode prog_1_method_17_code 0 = .ok (.aload_n 0, 1) := by decide +kernel
theorem zd_LassoFinder_truth_1 : decode prog_1_method_17_code 1 = .ok (.getfield 84, 3) := by decide +kernel
theorem zd_LassoFinder_truth_4 : decode prog_1_method_17_code 4 = .ok (.iconst (-1), 1) := by decide +kernel
theorem zd_LassoFinder_truth_5 : decode prog_1_method_17_code 5 = .ok (.if_icmp .eq 10, 3) := by decide +kernel
theorem zd_LassoFinder_truth_8 : decode prog_1_method_17_code 8 = .ok (.aload_n 0, 1) := by decide +kernel
theorem zd_LassoFinder_truth_9 : decode prog_1_method_17_code 9 = .ok (.getfield 122, 3) := by decide +kernel
theorem zd_LassoFinder_truth_12 : decode prog_1_method_17_code 12 = .ok (.ifCond .ne 11, 3) := by decide +kernel
theorem zd_LassoFinder_truth_15 : decode prog_1_method_17_code 15 = .ok (.new 115, 3) := by decide +kernel
theorem zd_LassoFinder_truth_18 : decode prog_1_method_17_code 18 = .ok (.dup, 1) := by decide +kernel
theorem zd_LassoFinder_truth_19 : decode prog_1_method_17_code 19 = .ok (.invokespecial 117, 3) := by decide +kernel
theorem zd_LassoFinder_truth_22 : decode prog_1_method_17_code 22 = .ok (.athrow, 1) := by decide +kernel
theorem zd_LassoFinder_truth_23 : decode prog_1_method_17_code 23 = .ok (.iload_n 1, 1) := by decide +kernel
theorem zd_LassoFinder_truth_24 : decode prog_1_method_17_code 24 = .ok (.ifCond .lt 29, 3) := by decide +kernel
theorem zd_LassoFinder_truth_27 : decode prog_1_method_17_code 27 = .ok (.iload_n 1, 1) := by decide +kernel
theorem zd_LassoFinder_truth_28 : decode prog_1_method_17_code 28 = .ok (.aload_n 0, 1) := by decide +kernel
theorem zd_LassoFinder_truth_29 : decode prog_1_method_17_code 29 = .ok (.getfield 84, 3) := by decide +kernel
theorem zd_LassoFinder_truth_32 : decode prog_1_method_17_code 32 = .ok (.if_icmp .ge 21, 3) := by decide +kernel
theorem zd_LassoFinder_truth_35 : decode prog_1_method_17_code 35 = .ok (.aload_n 0, 1) := by decide +kernel
theorem zd_LassoFinder_truth_36 : decode prog_1_method_17_code 36 = .ok (.getfield 80, 3) := by decide +kernel
theorem zd_LassoFinder_truth_39 : decode prog_1_method_17_code 39 = .ok (.iload_n 1, 1) := by decide +kernel
theorem zd_LassoFinder_truth_40 : decode prog_1_method_17_code 40 = .ok (.iaload, 1) := by decide +kernel
theorem zd_LassoFinder_truth_41 : decode prog_1_method_17_code 41 = .ok (.aload_n 0, 1) := by decide +kernel
theorem zd_LassoFinder_truth_42 : decode prog_1_method_17_code 42 = .ok (.getfield 80, 3) := by decide +kernel
theorem zd_LassoFinder_truth_45 : decode prog_1_method_17_code 45 = .ok (.aload_n 0, 1) := by decide +kernel
theorem zd_LassoFinder_truth_46 : decode prog_1_method_17_code 46 = .ok (.getfield 84, 3) := by decide +kernel
theorem zd_LassoFinder_truth_49 : decode prog_1_method_17_code 49 = .ok (.iaload, 1) := by decide +kernel
theorem zd_LassoFinder_truth_50 : decode prog_1_method_17_code 50 = .ok (.if_icmp .eq 11, 3) := by decide +kernel
theorem zd_LassoFinder_truth_53 : decode prog_1_method_17_code 53 = .ok (.new 199, 3) := by decide +kernel
theorem zd_LassoFinder_truth_56 : decode prog_1_method_17_code 56 = .ok (.dup, 1) := by decide +kernel
theorem zd_LassoFinder_truth_57 : decode prog_1_method_17_code 57 = .ok (.invokespecial 201, 3) := by decide +kernel
theorem zd_LassoFinder_truth_60 : decode prog_1_method_17_code 60 = .ok (.athrow, 1) := by decide +kernel
theorem zd_LassoFinder_truth_61 : decode prog_1_method_17_code 61 = .ok (.aload_n 0, 1) := by decide +kernel
theorem zd_LassoFinder_truth_62 : decode prog_1_method_17_code 62 = .ok (.getfield 76, 3) := by decide +kernel
theorem zd_LassoFinder_truth_65 : decode prog_1_method_17_code 65 = .ok (.aload_n 0, 1) := by decide +kernel
theorem zd_LassoFinder_truth_66 : decode prog_1_method_17_code 66 = .ok (.getfield 80, 3) := by decide +kernel
theorem zd_LassoFinder_truth_69 : decode prog_1_method_17_code 69 = .ok (.aload_n 0, 1) := by decide +kernel
theorem zd_LassoFinder_truth_70 : decode prog_1_method_17_code 70 = .ok (.getfield 84, 3) := by decide +kernel
theorem zd_LassoFinder_truth_73 : decode prog_1_method_17_code 73 = .ok (.iload_n 1, 1) := by decide +kernel
theorem zd_LassoFinder_truth_74 : decode prog_1_method_17_code 74 = .ok (.invokevirtual 202, 3) := by decide +kernel
theorem zd_LassoFinder_truth_77 : decode prog_1_method_17_code 77 = .ok (.ireturn, 1) := by decide +kernel
theorem zd_LassoFinder_walk_0 : decode prog_1_method_10_code 0 = .ok (.aload_n 0, 1) := by decide +kernel
theorem zd_LassoFinder_walk_1 : decode prog_1_method_10_code 1 = .ok (.getfield 92, 3) := by decide +kernel
theorem zd_LassoFinder_walk_4 : decode prog_1_method_10_code 4 = .ok (.ifCond .ne 11, 3) := by decide +kernel
theorem zd_LassoFinder_walk_7 : decode prog_1_method_10_code 7 = .ok (.new 115, 3) := by decide +kernel
theorem zd_LassoFinder_walk_10 : decode prog_1_method_10_code 10 = .ok (.dup, 1) := by decide +kernel
theorem zd_LassoFinder_walk_11 : decode prog_1_method_10_code 11 = .ok (.invokespecial 117, 3) := by decide +kernel
theorem zd_LassoFinder_walk_14 : decode prog_1_method_10_code 14 = .ok (.athrow, 1) := by decide +kernel
theorem zd_LassoFinder_walk_15 : decode prog_1_method_10_code 15 = .ok (.aload_n 0, 1) := by decide +kernel
theorem zd_LassoFinder_walk_16 : decode prog_1_method_10_code 16 = .ok (.iconst 0, 1) := by decide +kernel
theorem zd_LassoFinder_walk_17 : decode prog_1_method_10_code 17 = .ok (.putfield 84, 3) := by decide +kernel
theorem zd_LassoFinder_walk_20 : decode prog_1_method_10_code 20 = .ok (.aload_n 0, 1) := by decide +kernel
theorem zd_LassoFinder_walk_21 : decode prog_1_method_10_code 21 = .ok (.getfield 80, 3) := by decide +kernel
theorem zd_LassoFinder_walk_24 : decode prog_1_method_10_code 24 = .ok (.iconst 0, 1) := by decide +kernel
theorem zd_LassoFinder_walk_25 : decode prog_1_method_10_code 25 = .ok (.iconst 0, 1) := by decide +kernel
theorem zd_LassoFinder_walk_26 : decode prog_1_method_10_code 26 = .ok (.iastore, 1) := by decide +kernel
theorem zd_LassoFinder_walk_27 : decode prog_1_method_10_code 27 = .ok (.return_, 1) := by decide +kernel
theorem zd_ModelReader_readBody_0 : decode prog_5_method_6_code 0 = .ok (.iconst (-1), 1) := by decide +kernel
theorem zd_ModelReader_readBody_1 : decode prog_5_method_6_code 1 = .ok (.istore_n 3, 1) := by decide +kernel
theorem zd_ModelReader_readBody_2 : decode prog_5_method_6_code 2 = .ok (.iconst 0, 1) := by decide +kernel
theorem zd_ModelReader_readBody_3 : decode prog_5_method_6_code 3 = .ok (.istore 4, 2) := by decide +kernel
theorem zd_ModelReader_readBody_5 : decode prog_5_method_6_code 5 = .ok (.iload 4, 2) := by decide +kernel
theorem zd_ModelReader_readBody_7 : decode prog_5_method_6_code 7 = .ok (.sipush 240, 3) := by decide +kernel
theorem zd_ModelReader_readBody_10 : decode prog_5_method_6_code 10 = .ok (.if_icmp .ge 38, 3) := by decide +kernel
theorem zd_ModelReader_readBody_13 : decode prog_5_method_6_code 13 = .ok (.iload 4, 2) := by decide +kernel
theorem zd_ModelReader_readBody_15 : decode prog_5_method_6_code 15 = .ok (.ifCond .eq 15, 3) := by decide +kernel
theorem zd_ModelReader_readBody_18 : decode prog_5_method_6_code 18 = .ok (.aload_n 0, 1) := by decide +kernel
theorem zd_ModelReader_readBody_19 : decode prog_5_method_6_code 19 = .ok (.getfield 9, 3) := by decide +kernel
theorem zd_ModelReader_readBody_22 : decode prog_5_method_6_code 22 = .ok (.bipush 59, 2) := by decide +kernel
theorem zd_ModelReader_readBody_24 : decode prog_5_method_6_code 24 = .ok (.invokevirtual 76, 3) := by decide +kernel
theorem zd_ModelReader_readBody_27 : decode prog_5_method_6_code 27 = .ok (.ifCond .eq 21, 3) := by decide +kernel
theorem zd_ModelReader_readBody_30 : decode prog_5_method_6_code 30 = .ok (.aload_n 0, 1) := by decide +kernel
theorem zd_ModelReader_readBody_31 : decode prog_5_method_6_code 31 = .ok (.invokevirtual 128, 3) := by decide +kernel
theorem zd_ModelReader_readBody_34 : decode prog_5_method_6_code 34 = .ok (.aload_n 0, 1) := by decide +kernel
theorem zd_ModelReader_readBody_35 : decode prog_5_method_6_code 35 = .ok (.iload_n 1, 1) := by decide +kernel
theorem zd_ModelReader_readBody_36 : decode prog_5_method_6_code 36 = .ok (.iload_n 3, 1) := by decide +kernel
theorem zd_ModelReader_readBody_37 : decode prog_5_method_6_code 37 = .ok (.iload_n 2, 1) := by decide +kernel
theorem zd_ModelReader_readBody_38 : decode prog_5_method_6_code 38 = .ok (.invokevirtual 131, 3) := by decide +kernel
theorem zd_ModelReader_readBody_41 : decode prog_5_method_6_code 41 = .ok (.istore_n 3, 1) := by decide +kernel
theorem zd_ModelReader_readBody_42 : decode prog_5_method_6_code 42 = .ok (.iinc 4 1, 3) := by decide +kernel
theorem zd_ModelReader_readBody_45 : decode prog_5_method_6_code 45 = .ok (.goto (-40), 3) := by decide +kernel
theorem zd_ModelReader_readBody_48 : decode prog_5_method_6_code 48 = .ok (.return_, 1) := by decide +kernel
theorem zd_Truths_backTo_0 : decode prog_12_method_11_code 0 = .ok (.iload 4, 2) := by decide +kernel
theorem zd_Truths_backTo_2 : decode prog_12_method_11_code 2 = .ok (.istore 5, 2) := by decide +kernel
theorem zd_Truths_backTo_4 : decode prog_12_method_11_code 4 = .ok (.iload_n 2, 1) := by decide +kernel
theorem zd_Truths_backTo_5 : decode prog_12_method_11_code 5 = .ok (.iconst 1, 1) := by decide +kernel
theorem zd_Truths_backTo_6 : decode prog_12_method_11_code 6 = .ok (.isub, 1) := by decide +kernel
theorem zd_Truths_backTo_7 : decode prog_12_method_11_code 7 = .ok (.istore 6, 2) := by decide +kernel
theorem zd_Truths_backTo_9 : decode prog_12_method_11_code 9 = .ok (.iload 6, 2) := by decide +kernel
theorem zd_Truths_backTo_11 : decode prog_12_method_11_code 11 = .ok (.iload_n 3, 1) := by decide +kernel
theorem zd_Truths_backTo_12 : decode prog_12_method_11_code 12 = .ok (.if_icmp .lt 26, 3) := by decide +kernel
theorem zd_Truths_backTo_15 : decode prog_12_method_11_code 15 = .ok (.aload_n 0, 1) := by decide +kernel
theorem zd_Truths_backTo_16 : decode prog_12_method_11_code 16 = .ok (.getfield 29, 3) := by decide +kernel
theorem zd_Truths_backTo_19 : decode prog_12_method_11_code 19 = .ok (.aload_n 1, 1) := by decide +kernel
theorem zd_Truths_backTo_20 : decode prog_12_method_11_code 20 = .ok (.iload 6, 2) := by decide +kernel
theorem zd_Truths_backTo_22 : decode prog_12_method_11_code 22 = .ok (.iaload, 1) := by decide +kernel
theorem zd_Truths_backTo_23 : decode prog_12_method_11_code 23 = .ok (.bipush 8, 2) := by decide +kernel
theorem zd_Truths_backTo_25 : decode prog_12_method_11_code 25 = .ok (.imul, 1) := by decide +kernel
theorem zd_Truths_backTo_26 : decode prog_12_method_11_code 26 = .ok (.iload 5, 2) := by decide +kernel
theorem zd_Truths_backTo_28 : decode prog_12_method_11_code 28 = .ok (.iadd, 1) := by decide +kernel
theorem zd_Truths_backTo_29 : decode prog_12_method_11_code 29 = .ok (.iaload, 1) := by decide +kernel
theorem zd_Truths_backTo_30 : decode prog_12_method_11_code 30 = .ok (.istore 5, 2) := by decide +kernel
theorem zd_Truths_backTo_32 : decode prog_12_method_11_code 32 = .ok (.iinc 6 (-1), 3) := by decide +kernel
theorem zd_Truths_backTo_35 : decode prog_12_method_11_code 35 = .ok (.goto (-26), 3) := by decide +kernel
theorem zd_Truths_backTo_38 : decode prog_12_method_11_code 38 = .ok (.iload 5, 2) := by decide +kernel
theorem zd_Truths_backTo_40 : decode prog_12_method_11_code 40 = .ok (.ireturn, 1) := by decide +kernel
theorem zd_Truths_fill_0 : decode prog_12_method_2_code 0 = .ok (.aload_n 0, 1) := by decide +kernel
theorem zd_Truths_fill_1 : decode prog_12_method_2_code 1 = .ok (.iconst 1, 1) := by decide +kernel
theorem zd_Truths_fill_2 : decode prog_12_method_2_code 2 = .ok (.aload_n 0, 1) := by decide +kernel
theorem zd_Truths_fill_3 : decode prog_12_method_2_code 3 = .ok (.getfield 17, 3) := by decide +kernel
theorem zd_Truths_fill_6 : decode prog_12_method_2_code 6 = .ok (.getfield 39, 3) := by decide +kernel
theorem zd_Truths_fill_9 : decode prog_12_method_2_code 9 = .ok (.ishl, 1) := by decide +kernel
theorem zd_Truths_fill_10 : decode prog_12_method_2_code 10 = .ok (.putfield 45, 3) := by decide +kernel
theorem zd_Truths_fill_13 : decode prog_12_method_2_code 13 = .ok (.aload_n 0, 1) := by decide +kernel
theorem zd_Truths_fill_14 : decode prog_12_method_2_code 14 = .ok (.iconst 0, 1) := by decide +kernel
theorem zd_Truths_fill_15 : decode prog_12_method_2_code 15 = .ok (.putfield 48, 3) := by decide +kernel
theorem zd_Truths_fill_18 : decode prog_12_method_2_code 18 = .ok (.iconst 0, 1) := by decide +kernel
theorem zd_Truths_fill_19 : decode prog_12_method_2_code 19 = .ok (.istore_n 1, 1) := by decide +kernel
theorem zd_Truths_fill_20 : decode prog_12_method_2_code 20 = .ok (.iload_n 1, 1) := by decide +kernel
theorem zd_Truths_fill_21 : decode prog_12_method_2_code 21 = .ok (.aload_n 0, 1) := by decide +kernel
theorem zd_Truths_fill_22 : decode prog_12_method_2_code 22 = .ok (.getfield 17, 3) := by decide +kernel
theorem zd_Truths_fill_25 : decode prog_12_method_2_code 25 = .ok (.getfield 39, 3) := by decide +kernel
theorem zd_Truths_fill_28 : decode prog_12_method_2_code 28 = .ok (.if_icmp .ge 50, 3) := by decide +kernel
theorem zd_Truths_fill_31 : decode prog_12_method_2_code 31 = .ok (.aload_n 0, 1) := by decide +kernel
theorem zd_Truths_fill_32 : decode prog_12_method_2_code 32 = .ok (.getfield 17, 3) := by decide +kernel
theorem zd_Truths_fill_35 : decode prog_12_method_2_code 35 = .ok (.getfield 51, 3) := by decide +kernel
theorem zd_Truths_fill_38 : decode prog_12_method_2_code 38 = .ok (.aload_n 0, 1) := by decide +kernel
theorem zd_Truths_fill_39 : decode prog_12_method_2_code 39 = .ok (.getfield 17, 3) := by decide +kernel
theorem zd_Truths_fill_42 : decode prog_12_method_2_code 42 = .ok (.getfield 54, 3) := by decide +kernel
theorem zd_Truths_fill_45 : decode prog_12_method_2_code 45 = .ok (.iload_n 1, 1) := by decide +kernel
theorem zd_Truths_fill_46 : decode prog_12_method_2_code 46 = .ok (.iaload, 1) := by decide +kernel
theorem zd_Truths_fill_47 : decode prog_12_method_2_code 47 = .ok (.iaload, 1) := by decide +kernel
theorem zd_Truths_fill_48 : decode prog_12_method_2_code 48 = .ok (.istore_n 2, 1) := by decide +kernel
theorem zd_Truths_fill_49 : decode prog_12_method_2_code 49 = .ok (.iload_n 2, 1) := by decide +kernel
theorem zd_Truths_fill_50 : decode prog_12_method_2_code 50 = .ok (.iconst 4, 1) := by decide +kernel
theorem zd_Truths_fill_51 : decode prog_12_method_2_code 51 = .ok (.if_icmp .eq 9, 3) := by decide +kernel
theorem zd_Truths_fill_54 : decode prog_12_method_2_code 54 = .ok (.iload_n 2, 1) := by decide +kernel
theorem zd_Truths_fill_55 : decode prog_12_method_2_code 55 = .ok (.bipush 7, 2) := by decide +kernel
theorem zd_Truths_fill_57 : decode prog_12_method_2_code 57 = .ok (.if_icmp .ne 15, 3) := by decide +kernel
theorem zd_Truths_fill_60 : decode prog_12_method_2_code 60 = .ok (.aload_n 0, 1) := by decide +kernel
theorem zd_Truths_fill_61 : decode prog_12_method_2_code 61 = .ok (.dup, 1) := by decide +kernel
theorem zd_Truths_fill_62 : decode prog_12_method_2_code 62 = .ok (.getfield 48, 3) := by decide +kernel
theorem zd_Truths_fill_65 : decode prog_12_method_2_code 65 = .ok (.iconst 1, 1) := by decide +kernel
theorem zd_Truths_fill_66 : decode prog_12_method_2_code 66 = .ok (.iload_n 1, 1) := by decide +kernel
theorem zd_Truths_fill_67 : decode prog_12_method_2_code 67 = .ok (.ishl, 1) := by decide +kernel
theorem zd_Truths_fill_68 : decode prog_12_method_2_code 68 = .ok (.ior, 1) := by decide +kernel
theorem zd_Truths_fill_69 : decode prog_12_method_2_code 69 = .ok (.putfield 48, 3) := by decide +kernel
theorem zd_Truths_fill_72 : decode prog_12_method_2_code 72 = .ok (.iinc 1 1, 3) := by decide +kernel
theorem zd_Truths_fill_75 : decode prog_12_method_2_code 75 = .ok (.goto (-55), 3) := by decide +kernel
theorem zd_Truths_fill_78 : decode prog_12_method_2_code 78 = .ok (.iconst 0, 1) := by decide +kernel
theorem zd_Truths_fill_79 : decode prog_12_method_2_code 79 = .ok (.istore_n 1, 1) := by decide +kernel
theorem zd_Truths_fill_80 : decode prog_12_method_2_code 80 = .ok (.iload_n 1, 1) := by decide +kernel
theorem zd_Truths_fill_81 : decode prog_12_method_2_code 81 = .ok (.aload_n 0, 1) := by decide +kernel
theorem zd_Truths_fill_82 : decode prog_12_method_2_code 82 = .ok (.getfield 7, 3) := by decide +kernel
theorem zd_Truths_fill_85 : decode prog_12_method_2_code 85 = .ok (.getfield 57, 3) := by decide +kernel
theorem zd_Truths_fill_88 : decode prog_12_method_2_code 88 = .ok (.if_icmp .ge 35, 3) := by decide +kernel
theorem zd_Truths_fill_91 : decode prog_12_method_2_code 91 = .ok (.aload_n 0, 1) := by decide +kernel
theorem zd_Truths_fill_92 : decode prog_12_method_2_code 92 = .ok (.getfield 13, 3) := by decide +kernel
theorem zd_Truths_fill_95 : decode prog_12_method_2_code 95 = .ok (.aload_n 0, 1) := by decide +kernel
theorem zd_Truths_fill_96 : decode prog_12_method_2_code 96 = .ok (.getfield 7, 3) := by decide +kernel
theorem zd_Truths_fill_99 : decode prog_12_method_2_code 99 = .ok (.getfield 60, 3) := by decide +kernel
theorem zd_Truths_fill_102 : decode prog_12_method_2_code 102 = .ok (.iload_n 1, 1) := by decide +kernel
theorem zd_Truths_fill_103 : decode prog_12_method_2_code 103 = .ok (.laload, 1) := by decide +kernel
theorem zd_Truths_fill_104 : decode prog_12_method_2_code 104 = .ok (.invokevirtual 64, 3) := by decide +kernel
theorem zd_Truths_fill_107 : decode prog_12_method_2_code 107 = .ok (.aload_n 0, 1) := by decide +kernel
theorem zd_Truths_fill_108 : decode prog_12_method_2_code 108 = .ok (.iload_n 1, 1) := by decide +kernel
theorem zd_Truths_fill_109 : decode prog_12_method_2_code 109 = .ok (.invokevirtual 70, 3) := by decide +kernel
theorem zd_Truths_fill_112 : decode prog_12_method_2_code 112 = .ok (.aload_n 0, 1) := by decide +kernel
theorem zd_Truths_fill_113 : decode prog_12_method_2_code 113 = .ok (.iload_n 1, 1) := by decide +kernel
theorem zd_Truths_fill_114 : decode prog_12_method_2_code 114 = .ok (.invokevirtual 74, 3) := by decide +kernel
theorem zd_Truths_fill_117 : decode prog_12_method_2_code 117 = .ok (.iinc 1 1, 3) := by decide +kernel
theorem zd_Truths_fill_120 : decode prog_12_method_2_code 120 = .ok (.goto (-40), 3) := by decide +kernel
theorem zd_Truths_fill_123 : decode prog_12_method_2_code 123 = .ok (.return_, 1) := by decide +kernel
theorem zd_Truths_ofRound_0 : decode prog_12_method_10_code 0 = .ok (.aload_n 0, 1) := by decide +kernel
theorem zd_Truths_ofRound_1 : decode prog_12_method_10_code 1 = .ok (.getfield 48, 3) := by decide +kernel
theorem zd_Truths_ofRound_4 : decode prog_12_method_10_code 4 = .ok (.istore 4, 2) := by decide +kernel
theorem zd_Truths_ofRound_6 : decode prog_12_method_10_code 6 = .ok (.iconst 0, 1) := by decide +kernel
theorem zd_Truths_ofRound_7 : decode prog_12_method_10_code 7 = .ok (.istore 5, 2) := by decide +kernel
theorem zd_Truths_ofRound_9 : decode prog_12_method_10_code 9 = .ok (.iload 5, 2) := by decide +kernel
theorem zd_Truths_ofRound_11 : decode prog_12_method_10_code 11 = .ok (.aload_n 0, 1) := by decide +kernel
theorem zd_Truths_ofRound_12 : decode prog_12_method_10_code 12 = .ok (.getfield 17, 3) := by decide +kernel
theorem zd_Truths_ofRound_15 : decode prog_12_method_10_code 15 = .ok (.getfield 39, 3) := by decide +kernel
theorem zd_Truths_ofRound_18 : decode prog_12_method_10_code 18 = .ok (.if_icmp .ge 39, 3) := by decide +kernel
theorem zd_Truths_ofRound_21 : decode prog_12_method_10_code 21 = .ok (.iconst (-1), 1) := by decide +kernel
theorem zd_Truths_ofRound_22 : decode prog_12_method_10_code 22 = .ok (.iload 5, 2) := by decide +kernel
theorem zd_Truths_ofRound_24 : decode prog_12_method_10_code 24 = .ok (.ishl, 1) := by decide +kernel
theorem zd_Truths_ofRound_25 : decode prog_12_method_10_code 25 = .ok (.istore 6, 2) := by decide +kernel
theorem zd_Truths_ofRound_27 : decode prog_12_method_10_code 27 = .ok (.aload_n 0, 1) := by decide +kernel
theorem zd_Truths_ofRound_28 : decode prog_12_method_10_code 28 = .ok (.aload_n 1, 1) := by decide +kernel
theorem zd_Truths_ofRound_29 : decode prog_12_method_10_code 29 = .ok (.iload_n 2, 1) := by decide +kernel
theorem zd_Truths_ofRound_30 : decode prog_12_method_10_code 30 = .ok (.iload_n 3, 1) := by decide +kernel
theorem zd_Truths_ofRound_31 : decode prog_12_method_10_code 31 = .ok (.iload 4, 2) := by decide +kernel
theorem zd_Truths_ofRound_33 : decode prog_12_method_10_code 33 = .ok (.iload 6, 2) := by decide +kernel
theorem zd_Truths_ofRound_35 : decode prog_12_method_10_code 35 = .ok (.iconst (-1), 1) := by decide +kernel
theorem zd_Truths_ofRound_36 : decode prog_12_method_10_code 36 = .ok (.ixor, 1) := by decide +kernel
theorem zd_Truths_ofRound_37 : decode prog_12_method_10_code 37 = .ok (.iand, 1) := by decide +kernel
theorem zd_Truths_ofRound_38 : decode prog_12_method_10_code 38 = .ok (.aload_n 0, 1) := by decide +kernel
theorem zd_Truths_ofRound_39 : decode prog_12_method_10_code 39 = .ok (.getfield 48, 3) := by decide +kernel
theorem zd_Truths_ofRound_42 : decode prog_12_method_10_code 42 = .ok (.iload 6, 2) := by decide +kernel
theorem zd_Truths_ofRound_44 : decode prog_12_method_10_code 44 = .ok (.iand, 1) := by decide +kernel
theorem zd_Truths_ofRound_45 : decode prog_12_method_10_code 45 = .ok (.ior, 1) := by decide +kernel
theorem zd_Truths_ofRound_46 : decode prog_12_method_10_code 46 = .ok (.invokevirtual 124, 3) := by decide +kernel
theorem zd_Truths_ofRound_49 : decode prog_12_method_10_code 49 = .ok (.istore 4, 2) := by decide +kernel
theorem zd_Truths_ofRound_51 : decode prog_12_method_10_code 51 = .ok (.iinc 5 1, 3) := by decide +kernel
theorem zd_Truths_ofRound_54 : decode prog_12_method_10_code 54 = .ok (.goto (-45), 3) := by decide +kernel
theorem zd_Truths_ofRound_57 : decode prog_12_method_10_code 57 = .ok (.aload_n 0, 1) := by decide +kernel
theorem zd_Truths_ofRound_58 : decode prog_12_method_10_code 58 = .ok (.aload_n 1, 1) := by decide +kernel
theorem zd_Truths_ofRound_59 : decode prog_12_method_10_code 59 = .ok (.iload_n 3, 1) := by decide +kernel
theorem zd_Truths_ofRound_60 : decode prog_12_method_10_code 60 = .ok (.iconst 0, 1) := by decide +kernel
theorem zd_Truths_ofRound_61 : decode prog_12_method_10_code 61 = .ok (.iload 4, 2) := by decide +kernel
theorem zd_Truths_ofRound_63 : decode prog_12_method_10_code 63 = .ok (.invokevirtual 124, 3) := by decide +kernel
theorem zd_Truths_ofRound_66 : decode prog_12_method_10_code 66 = .ok (.istore 4, 2) := by decide +kernel
theorem zd_Truths_ofRound_68 : decode prog_12_method_10_code 68 = .ok (.aload_n 0, 1) := by decide +kernel
theorem zd_Truths_ofRound_69 : decode prog_12_method_10_code 69 = .ok (.getfield 35, 3) := by decide +kernel
theorem zd_Truths_ofRound_72 : decode prog_12_method_10_code 72 = .ok (.aload_n 1, 1) := by decide +kernel
theorem zd_Truths_ofRound_73 : decode prog_12_method_10_code 73 = .ok (.iconst 0, 1) := by decide +kernel
theorem zd_Truths_ofRound_74 : decode prog_12_method_10_code 74 = .ok (.iaload, 1) := by decide +kernel
theorem zd_Truths_ofRound_75 : decode prog_12_method_10_code 75 = .ok (.bipush 8, 2) := by decide +kernel
theorem zd_Truths_ofRound_77 : decode prog_12_method_10_code 77 = .ok (.imul, 1) := by decide +kernel
theorem zd_Truths_ofRound_78 : decode prog_12_method_10_code 78 = .ok (.iload 4, 2) := by decide +kernel
theorem zd_Truths_ofRound_80 : decode prog_12_method_10_code 80 = .ok (.iadd, 1) := by decide +kernel
theorem zd_Truths_ofRound_81 : decode prog_12_method_10_code 81 = .ok (.baload, 1) := by decide +kernel
theorem zd_Truths_ofRound_82 : decode prog_12_method_10_code 82 = .ok (.ireturn, 1) := by decide +kernel
def wb_Truths_fill_80 (K80 : Int32 → (Nat → Int32) → (Nat → Int64) → (Nat → Nat → Int32) → (Nat → Nat → Int64) → Prop) (Post : (Nat → Int32) → (Nat → Int64) → (Nat → Nat → Int32) → (Nat → Nat → Int64) → Prop) (PX : String → (Nat → Int32) → (Nat → Int64) → (Nat → Nat → Int32) → (Nat → Nat → Int64) → Prop) (x1 : Int32) (I : Nat → Int32) (J : Nat → Int64) (B : Nat → Nat → Int32) (D : Nat → Nat → Int64) : Prop :=
  (((I 19) ≤ x1 → Post I J B D) ∧ (¬ (I 19) ≤ x1 → vp_in x1 96 ∧ ∀ z2 : Int64, z2 = ((D 2) x1.toNatClampNeg) → wp_Situation_unpack I J B D z2 (fun I3 J3 B3 D3 => wp_Truths_fillBefore I3 J3 B3 D3 x1 (fun I4 J4 B4 D4 => wp_Truths_fillSettled I4 J4 B4 D4 x1 (fun I5 J5 B5 D5 => ∀ z6 : Int32, z6 = (x1 + 1) → K80 z6 I5 J5 B5 D5) PX) PX)))
def wl_Truths_fill_80 (Post : (Nat → Int32) → (Nat → Int64) → (Nat → Nat → Int32) → (Nat → Nat → Int64) → Prop) (PX : String → (Nat → Int32) → (Nat → Int64) → (Nat → Nat → Int32) → (Nat → Nat → Int64) → Prop) (n : Nat) : Int32 → (Nat → Int32) → (Nat → Int64) → (Nat → Nat → Int32) → (Nat → Nat → Int64) → Prop := Nat.rec (fun _ _ _ _ _ => False) (fun _ r => wb_Truths_fill_80  r Post PX) n
def wc_Truths_fill_72 (K20 : Int32 → (Nat → Int32) → (Nat → Int64) → (Nat → Nat → Int32) → (Nat → Nat → Int64) → Prop) (Post : (Nat → Int32) → (Nat → Int64) → (Nat → Nat → Int32) → (Nat → Nat → Int64) → Prop) (PX : String → (Nat → Int32) → (Nat → Int64) → (Nat → Nat → Int32) → (Nat → Nat → Int64) → Prop) (x1 : Int32) (I : Nat → Int32) (J : Nat → Int64) (B : Nat → Nat → Int32) (D : Nat → Nat → Int64) : Prop :=
  ∀ z7 : Int32, z7 = (x1 + 1) → K20 z7 I J B D
def wc_Truths_fill_60 (K20 : Int32 → (Nat → Int32) → (Nat → Int64) → (Nat → Nat → Int32) → (Nat → Nat → Int64) → Prop) (Post : (Nat → Int32) → (Nat → Int64) → (Nat → Nat → Int32) → (Nat → Nat → Int64) → Prop) (PX : String → (Nat → Int32) → (Nat → Int64) → (Nat → Nat → Int32) → (Nat → Nat → Int64) → Prop) (x1 : Int32) (I : Nat → Int32) (J : Nat → Int64) (B : Nat → Nat → Int32) (D : Nat → Nat → Int64) : Prop :=
  ∀ z8 : Int32, z8 = (1 <<< (x1 &&& 31)) → ∀ z9 : Int32, z9 = ((I 31) ||| z8) → wc_Truths_fill_72  K20 Post PX x1 (upd I 31 z9) J B D
def wb_Truths_fill_20 (K20 : Int32 → (Nat → Int32) → (Nat → Int64) → (Nat → Nat → Int32) → (Nat → Nat → Int64) → Prop) (Post : (Nat → Int32) → (Nat → Int64) → (Nat → Nat → Int32) → (Nat → Nat → Int64) → Prop) (PX : String → (Nat → Int32) → (Nat → Int64) → (Nat → Nat → Int32) → (Nat → Nat → Int64) → Prop) (x1 : Int32) (I : Nat → Int32) (J : Nat → Int64) (B : Nat → Nat → Int32) (D : Nat → Nat → Int64) : Prop :=
  (((I 21) ≤ x1 → ∃ n : Nat, wl_Truths_fill_80  Post PX n 0 I J B D) ∧ (¬ (I 21) ≤ x1 → vp_in x1 3 ∧ ∀ z11 : Int32, z11 = ((B 42) x1.toNatClampNeg) → vp_in z11 240 ∧ ∀ z12 : Int32, z12 = ((B 39) z11.toNatClampNeg) → ((z12 = 4 → wc_Truths_fill_60  K20 Post PX x1 I J B D) ∧ (¬ z12 = 4 → ((¬ z12 = 7 → wc_Truths_fill_72  K20 Post PX x1 I J B D) ∧ (z12 = 7 → wc_Truths_fill_60  K20 Post PX x1 I J B D))))))
def wl_Truths_fill_20 (Post : (Nat → Int32) → (Nat → Int64) → (Nat → Nat → Int32) → (Nat → Nat → Int64) → Prop) (PX : String → (Nat → Int32) → (Nat → Int64) → (Nat → Nat → Int32) → (Nat → Nat → Int64) → Prop) (n : Nat) : Int32 → (Nat → Int32) → (Nat → Int64) → (Nat → Nat → Int32) → (Nat → Nat → Int64) → Prop := Nat.rec (fun _ _ _ _ _ => False) (fun _ r => wb_Truths_fill_20  r Post PX) n
def wp_Truths_fill (I : Nat → Int32) (J : Nat → Int64) (B : Nat → Nat → Int32) (D : Nat → Nat → Int64) (Post : (Nat → Int32) → (Nat → Int64) → (Nat → Nat → Int32) → (Nat → Nat → Int64) → Prop) (PX : String → (Nat → Int32) → (Nat → Int64) → (Nat → Nat → Int32) → (Nat → Nat → Int64) → Prop) : Prop :=
  ∀ z15 : Int32, z15 = (1 <<< ((I 21) &&& 31)) → ∃ n : Nat, wl_Truths_fill_20  Post PX n 0 (upd (upd I 30 z15) 31 0) J B D
set_option maxHeartbeats 8000000 in
set_option maxRecDepth 100000 in
theorem wB_Truths_fill_80 {p : Program} {l : Launch} {e : Env} {s : State} {m : MethodId} {below : List Frame} {meth : Method} {c : Code} {A : Nat → Prop} (G : va_G) (K : Nat → ClassId) (ad : Nat → Nat) (sv : Value) (Post : (Nat → Int32) → (Nat → Int64) → (Nat → Nat → Int32) → (Nat → Nat → Int64) → Prop) (PX : String → (Nat → Int32) → (Nat → Int64) → (Nat → Nat → Int32) → (Nat → Nat → Int64) → Prop) (C : zCy p l s m ([.ref (ad 11)] : List Value).toArray meth c A G K prog_12_method_2_code none 3 "LassoFinder$Truths") (K80 : Int32 → (Nat → Int32) → (Nat → Int64) → (Nat → Nat → Int32) → (Nat → Nat → Int64) → Prop) (kh80 : ∀ (x1 : Int32) (I : Nat → Int32) (J : Nat → Int64) (B : Nat → Nat → Int32) (D : Nat → Nat → Int64) (ls : Array Slot) (H : Heap) (locs : List Loc), K80 x1 I J B D → lv_has ls 3 [(0, .ref (ad 11)), (1, .int x1)] → zW G A s.heap (wX ad K sv I J B D) H locs → W p l e { frames := 5, cells := 1, slots := 6, locals := 118 } s m ([.ref (ad 11)] : List Value).toArray below meth c H locs 0 0 (zyMQ below (va_Qv (fun u : zS => Post u.1 u.2.1 u.2.2.1 u.2.2.2) (fun u t => zPost G K A (wX ad K sv u.1 u.2.1 u.2.2.1 u.2.2.2) t) A) (zYC (fun E (u : zS) => PX E u.1 u.2.1 u.2.2.1 u.2.2.2) (fun u => wX ad K sv u.1 u.2.1 u.2.2.1 u.2.2.2) G K A) ([.ref (ad 11)] : List Value).toArray s 1 6 A) (F0 m 80 ls [])) : ∀ (x1 : Int32) (I : Nat → Int32) (J : Nat → Int64) (B : Nat → Nat → Int32) (D : Nat → Nat → Int64) (ls : Array Slot) (H : Heap) (locs : List Loc), wb_Truths_fill_80  K80 Post PX x1 I J B D → lv_has ls 3 [(0, .ref (ad 11)), (1, .int x1)] → zW G A s.heap (wX ad K sv I J B D) H locs → W p l e { frames := 5, cells := 1, slots := 6, locals := 118 } s m ([.ref (ad 11)] : List Value).toArray below meth c H locs 0 0 (zyMQ below (va_Qv (fun u : zS => Post u.1 u.2.1 u.2.2.1 u.2.2.2) (fun u t => zPost G K A (wX ad K sv u.1 u.2.1 u.2.2.1 u.2.2.2) t) A) (zYC (fun E (u : zS) => PX E u.1 u.2.1 u.2.2.1 u.2.2.2) (fun u => wX ad K sv u.1 u.2.1 u.2.2.1 u.2.2.2) G K A) ([.ref (ad 11)] : List Value).toArray s 1 6 A) (F0 m 80 ls []) := by
  obtain ⟨hx, hb, hr, hml, hts, hown, hlocks, hA, hK, hT, hnt, hlt⟩ := id C
  intro x1 I J B D ls H locs hok hl hw
  unfold wb_Truths_fill_80 at hok
  refine lv_iload_n hx hb zd_Truths_fill_80 rfl (lv_at hl 1 rfl) ?_
  refine lv_aload_n hx hb zd_Truths_fill_81 rfl (lv_at hl 0 rfl) ?_
  refine z_get (v := .ref (ad 8)) hx hb hts hown hK hw zZ11 11 wX_g11 0 (by decide) zn_531 rfl zd_Truths_fill_82 ?_
  refine z_get (v := .int (I 19)) hx hb hts hown hK hw zZ2 8 wX_g8 9 (by decide) zn_532 rfl zd_Truths_fill_85 ?_
  refine lv_icmp_ge (tgt := 123) hx hb zd_Truths_fill_88 (by decide) (fun hc1 => ?_) (fun hc1 => ?_)
  · have hok := hok.1 hc1
    exact zy_ret (z_vret (u := (I, J, B, D)) hx hb hr hlocks hw (List.range 65) wX_all wX_nd hok (Nat.le_of_ble_eq_true rfl) (Nat.le_of_ble_eq_true rfl) zd_Truths_fill_123)
  · have hok := hok.2 hc1
    refine lv_aload_n hx hb zd_Truths_fill_91 rfl (lv_at hl 0 rfl) ?_
    refine z_get (v := .ref (ad 7)) hx hb hts hown hK hw zZ11 11 wX_g11 1 (by decide) zn_533 rfl zd_Truths_fill_92 ?_
    refine lv_aload_n hx hb zd_Truths_fill_95 rfl (lv_at hl 0 rfl) ?_
    refine z_get (v := .ref (ad 8)) hx hb hts hown hK hw zZ11 11 wX_g11 0 (by decide) zn_531 rfl zd_Truths_fill_96 ?_
    refine z_get (v := .ref (ad 46)) hx hb hts hown hK hw zZ2 8 wX_g8 1 (by decide) zn_534 rfl zd_Truths_fill_99 ?_
    refine lv_iload_n hx hb zd_Truths_fill_102 rfl (lv_at hl 1 rfl) ?_
    refine va_lald (f := (D 2)) hx hb hK hw.1 46 1 wX_a46 rfl hok.1 zd_Truths_fill_103 ?_
    have hok := hok.2
    refine lv_topl (fun z2 ez2 => ?_)
    have hok := hok z2 ez2
    refine z_callv (w1 := fun (u : zS) => wX ad K sv u.1 u.2.1 u.2.2.1 u.2.2.2) (wr := []) (z_runV (q0 := 7) (wc := (wX ad K sv I J B D)) (As := [.long z2]) (rest := []) ⟨hx, hb, hml, hown, hts⟩ (w_Situation_unpack l G K ad sv I J B D z2 _ H.size hok) zf_Situation_unpack zn_505 ⟨Nat.le_of_ble_eq_true rfl, Nat.le_of_ble_eq_true rfl⟩ hK hw (List.range 65) wX_all wX_nd wX_g7 rfl rfl hl.1 rfl (Nat.le_of_ble_eq_true rfl) zd_Truths_fill_104 ⟨Nat.le_of_ble_eq_true rfl, Nat.le_of_ble_eq_true rfl⟩) hw hA (List.range 65) [] wX_all rfl (by decide) (fun i hi => by cases hi) (fun u H locs hok hw => ?_)
    obtain ⟨I3, J3, B3, D3⟩ := u
    dsimp only at hok
    have hw : zW G A s.heap (wX ad K sv I3 J3 B3 D3) H locs := hw
    refine lv_aload_n hx hb zd_Truths_fill_107 rfl (lv_at hl 0 rfl) ?_
    refine lv_iload_n hx hb zd_Truths_fill_108 rfl (lv_at hl 1 rfl) ?_
    refine z_yV (q0 := 11) (wc := (wX ad K sv I3 J3 B3 D3)) (wr := []) (w1 := fun (u : zS) => wX ad K sv u.1 u.2.1 u.2.2.1 u.2.2.2) (As := [.int x1]) (rest := []) ⟨hx, hb, hml, hown, hts⟩ (w_Truths_fillBefore l hlt G K ad sv I3 J3 B3 D3 x1 _ _ H.size hok) zf_Truths_fillBefore zn_506 ⟨Nat.le_of_ble_eq_true rfl, Nat.le_of_ble_eq_true rfl⟩ hK hT hw hA (List.range 65) [] wX_all rfl wX_nd (by decide) (fun i hi => by cases hi) wX_g11 rfl rfl hl.1 rfl (Nat.le_of_ble_eq_true rfl) zd_Truths_fill_109 ⟨Nat.le_of_ble_eq_true rfl, Nat.le_of_ble_eq_true rfl⟩ (fun v st9 t9 L9 h0 hq hL => ?_) (fun E ce q9 u H locs hu hw hce hcv hcl => z_yout (u := u) hnt hlocks hce hcv hcl hw (List.range 65) wX_all wX_nd hu (Nat.le_of_ble_eq_true rfl) (Nat.le_of_ble_eq_true rfl))
    obtain ⟨⟨u, hv9, hok, hB9⟩, hF9⟩ := hq
    cases hv9
    have hw := z_back (wr := []) hw hA (List.range 65) [] wX_all rfl (by decide) (fun i hi => by cases hi) h0 hL hB9 hF9
    obtain ⟨I4, J4, B4, D4⟩ := u
    dsimp only at hok
    generalize t9.heap = H at hw ⊢
    generalize locs ++ L9 = locs at hw ⊢
    have hw : zW G A s.heap (wX ad K sv I4 J4 B4 D4) H locs := hw
    refine W.eq (g2 := F0 m 112 ls []) rfl ?_
    refine lv_aload_n hx hb zd_Truths_fill_112 rfl (lv_at hl 0 rfl) ?_
    refine lv_iload_n hx hb zd_Truths_fill_113 rfl (lv_at hl 1 rfl) ?_
    refine z_yV (q0 := 11) (wc := (wX ad K sv I4 J4 B4 D4)) (wr := []) (w1 := fun (u : zS) => wX ad K sv u.1 u.2.1 u.2.2.1 u.2.2.2) (As := [.int x1]) (rest := []) ⟨hx, hb, hml, hown, hts⟩ (w_Truths_fillSettled l hlt G K ad sv I4 J4 B4 D4 x1 _ _ H.size hok) zf_Truths_fillSettled zn_512 ⟨Nat.le_of_ble_eq_true rfl, Nat.le_of_ble_eq_true rfl⟩ hK hT hw hA (List.range 65) [] wX_all rfl wX_nd (by decide) (fun i hi => by cases hi) wX_g11 rfl rfl hl.1 rfl (Nat.le_of_ble_eq_true rfl) zd_Truths_fill_114 ⟨Nat.le_of_ble_eq_true rfl, Nat.le_of_ble_eq_true rfl⟩ (fun v st9 t9 L9 h0 hq hL => ?_) (fun E ce q9 u H locs hu hw hce hcv hcl => z_yout (u := u) hnt hlocks hce hcv hcl hw (List.range 65) wX_all wX_nd hu (Nat.le_of_ble_eq_true rfl) (Nat.le_of_ble_eq_true rfl))
    obtain ⟨⟨u, hv9, hok, hB9⟩, hF9⟩ := hq
    cases hv9
    have hw := z_back (wr := []) hw hA (List.range 65) [] wX_all rfl (by decide) (fun i hi => by cases hi) h0 hL hB9 hF9
    obtain ⟨I5, J5, B5, D5⟩ := u
    dsimp only at hok
    generalize t9.heap = H at hw ⊢
    generalize locs ++ L9 = locs at hw ⊢
    have hw : zW G A s.heap (wX ad K sv I5 J5 B5 D5) H locs := hw
    refine W.eq (g2 := F0 m 117 ls []) rfl ?_
    obtain ⟨z6, ez6⟩ : ∃ z : Int32, z = (x1 + 1) := ⟨_, rfl⟩
    have hok := hok z6 ez6
    refine lv_iinc (v := z6) hx hb zd_Truths_fill_117 hl (k := 1) rfl ez6.symm (by decide) rfl (fun ls hl => ?_)
    have hl : lv_has ls 3 [(1, .int z6), (0, .ref (ad 11))] := hl
    refine lv_goto (tgt := 80) hx hb zd_Truths_fill_120 (by decide) ?_
    exact kh80 z6 I5 J5 B5 D5 ls H locs hok (lv_sub hl [1, 0] rfl) hw
theorem wL_Truths_fill_80 {p : Program} {l : Launch} {e : Env} {s : State} {m : MethodId} {below : List Frame} {meth : Method} {c : Code} {A : Nat → Prop} (G : va_G) (K : Nat → ClassId) (ad : Nat → Nat) (sv : Value) (Post : (Nat → Int32) → (Nat → Int64) → (Nat → Nat → Int32) → (Nat → Nat → Int64) → Prop) (PX : String → (Nat → Int32) → (Nat → Int64) → (Nat → Nat → Int32) → (Nat → Nat → Int64) → Prop) (C : zCy p l s m ([.ref (ad 11)] : List Value).toArray meth c A G K prog_12_method_2_code none 3 "LassoFinder$Truths") : ∀ (n : Nat) (x1 : Int32) (I : Nat → Int32) (J : Nat → Int64) (B : Nat → Nat → Int32) (D : Nat → Nat → Int64) (ls : Array Slot) (H : Heap) (locs : List Loc), wl_Truths_fill_80  Post PX n x1 I J B D → lv_has ls 3 [(0, .ref (ad 11)), (1, .int x1)] → zW G A s.heap (wX ad K sv I J B D) H locs → W p l e { frames := 5, cells := 1, slots := 6, locals := 118 } s m ([.ref (ad 11)] : List Value).toArray below meth c H locs 0 0 (zyMQ below (va_Qv (fun u : zS => Post u.1 u.2.1 u.2.2.1 u.2.2.2) (fun u t => zPost G K A (wX ad K sv u.1 u.2.1 u.2.2.1 u.2.2.2) t) A) (zYC (fun E (u : zS) => PX E u.1 u.2.1 u.2.2.1 u.2.2.2) (fun u => wX ad K sv u.1 u.2.1 u.2.2.1 u.2.2.2) G K A) ([.ref (ad 11)] : List Value).toArray s 1 6 A) (F0 m 80 ls []) := by
  intro n
  induction n with
  | zero => intro x1 I J B D ls H locs hok; exact hok.elim
  | succ n ih => exact wB_Truths_fill_80 G K ad sv  Post PX C (wl_Truths_fill_80  Post PX n) ih
set_option maxHeartbeats 8000000 in
set_option maxRecDepth 100000 in
theorem wJ_Truths_fill_72 {p : Program} {l : Launch} {e : Env} {s : State} {m : MethodId} {below : List Frame} {meth : Method} {c : Code} {A : Nat → Prop} (G : va_G) (K : Nat → ClassId) (ad : Nat → Nat) (sv : Value) (Post : (Nat → Int32) → (Nat → Int64) → (Nat → Nat → Int32) → (Nat → Nat → Int64) → Prop) (PX : String → (Nat → Int32) → (Nat → Int64) → (Nat → Nat → Int32) → (Nat → Nat → Int64) → Prop) (C : zCy p l s m ([.ref (ad 11)] : List Value).toArray meth c A G K prog_12_method_2_code none 3 "LassoFinder$Truths") (K20 : Int32 → (Nat → Int32) → (Nat → Int64) → (Nat → Nat → Int32) → (Nat → Nat → Int64) → Prop) (kh20 : ∀ (x1 : Int32) (I : Nat → Int32) (J : Nat → Int64) (B : Nat → Nat → Int32) (D : Nat → Nat → Int64) (ls : Array Slot) (H : Heap) (locs : List Loc), K20 x1 I J B D → lv_has ls 3 [(0, .ref (ad 11)), (1, .int x1)] → zW G A s.heap (wX ad K sv I J B D) H locs → W p l e { frames := 5, cells := 1, slots := 6, locals := 118 } s m ([.ref (ad 11)] : List Value).toArray below meth c H locs 0 0 (zyMQ below (va_Qv (fun u : zS => Post u.1 u.2.1 u.2.2.1 u.2.2.2) (fun u t => zPost G K A (wX ad K sv u.1 u.2.1 u.2.2.1 u.2.2.2) t) A) (zYC (fun E (u : zS) => PX E u.1 u.2.1 u.2.2.1 u.2.2.2) (fun u => wX ad K sv u.1 u.2.1 u.2.2.1 u.2.2.2) G K A) ([.ref (ad 11)] : List Value).toArray s 1 6 A) (F0 m 20 ls [])) : ∀ (x1 : Int32) (I : Nat → Int32) (J : Nat → Int64) (B : Nat → Nat → Int32) (D : Nat → Nat → Int64) (ls : Array Slot) (H : Heap) (locs : List Loc), wc_Truths_fill_72  K20 Post PX x1 I J B D → lv_has ls 3 [(0, .ref (ad 11)), (1, .int x1)] → zW G A s.heap (wX ad K sv I J B D) H locs → W p l e { frames := 5, cells := 1, slots := 6, locals := 118 } s m ([.ref (ad 11)] : List Value).toArray below meth c H locs 0 0 (zyMQ below (va_Qv (fun u : zS => Post u.1 u.2.1 u.2.2.1 u.2.2.2) (fun u t => zPost G K A (wX ad K sv u.1 u.2.1 u.2.2.1 u.2.2.2) t) A) (zYC (fun E (u : zS) => PX E u.1 u.2.1 u.2.2.1 u.2.2.2) (fun u => wX ad K sv u.1 u.2.1 u.2.2.1 u.2.2.2) G K A) ([.ref (ad 11)] : List Value).toArray s 1 6 A) (F0 m 72 ls []) := by
  obtain ⟨hx, hb, hr, hml, hts, hown, hlocks, hA, hK, hT, hnt, hlt⟩ := id C
  intro x1 I J B D ls H locs hok hl hw
  unfold wc_Truths_fill_72 at hok
  obtain ⟨z7, ez7⟩ : ∃ z : Int32, z = (x1 + 1) := ⟨_, rfl⟩
  have hok := hok z7 ez7
  refine lv_iinc (v := z7) hx hb zd_Truths_fill_72 hl (k := 1) rfl ez7.symm (by decide) rfl (fun ls hl => ?_)
  have hl : lv_has ls 3 [(1, .int z7), (0, .ref (ad 11))] := hl
  refine lv_goto (tgt := 20) hx hb zd_Truths_fill_75 (by decide) ?_
  exact kh20 z7 I J B D ls H locs hok (lv_sub hl [1, 0] rfl) hw
set_option maxHeartbeats 8000000 in
set_option maxRecDepth 100000 in
theorem wJ_Truths_fill_60 {p : Program} {l : Launch} {e : Env} {s : State} {m : MethodId} {below : List Frame} {meth : Method} {c : Code} {A : Nat → Prop} (G : va_G) (K : Nat → ClassId) (ad : Nat → Nat) (sv : Value) (Post : (Nat → Int32) → (Nat → Int64) → (Nat → Nat → Int32) → (Nat → Nat → Int64) → Prop) (PX : String → (Nat → Int32) → (Nat → Int64) → (Nat → Nat → Int32) → (Nat → Nat → Int64) → Prop) (C : zCy p l s m ([.ref (ad 11)] : List Value).toArray meth c A G K prog_12_method_2_code none 3 "LassoFinder$Truths") (K20 : Int32 → (Nat → Int32) → (Nat → Int64) → (Nat → Nat → Int32) → (Nat → Nat → Int64) → Prop) (kh20 : ∀ (x1 : Int32) (I : Nat → Int32) (J : Nat → Int64) (B : Nat → Nat → Int32) (D : Nat → Nat → Int64) (ls : Array Slot) (H : Heap) (locs : List Loc), K20 x1 I J B D → lv_has ls 3 [(0, .ref (ad 11)), (1, .int x1)] → zW G A s.heap (wX ad K sv I J B D) H locs → W p l e { frames := 5, cells := 1, slots := 6, locals := 118 } s m ([.ref (ad 11)] : List Value).toArray below meth c H locs 0 0 (zyMQ below (va_Qv (fun u : zS => Post u.1 u.2.1 u.2.2.1 u.2.2.2) (fun u t => zPost G K A (wX ad K sv u.1 u.2.1 u.2.2.1 u.2.2.2) t) A) (zYC (fun E (u : zS) => PX E u.1 u.2.1 u.2.2.1 u.2.2.2) (fun u => wX ad K sv u.1 u.2.1 u.2.2.1 u.2.2.2) G K A) ([.ref (ad 11)] : List Value).toArray s 1 6 A) (F0 m 20 ls [])) : ∀ (x1 : Int32) (I : Nat → Int32) (J : Nat → Int64) (B : Nat → Nat → Int32) (D : Nat → Nat → Int64) (ls : Array Slot) (H : Heap) (locs : List Loc), wc_Truths_fill_60  K20 Post PX x1 I J B D → lv_has ls 3 [(0, .ref (ad 11)), (1, .int x1)] → zW G A s.heap (wX ad K sv I J B D) H locs → W p l e { frames := 5, cells := 1, slots := 6, locals := 118 } s m ([.ref (ad 11)] : List Value).toArray below meth c H locs 0 0 (zyMQ below (va_Qv (fun u : zS => Post u.1 u.2.1 u.2.2.1 u.2.2.2) (fun u t => zPost G K A (wX ad K sv u.1 u.2.1 u.2.2.1 u.2.2.2) t) A) (zYC (fun E (u : zS) => PX E u.1 u.2.1 u.2.2.1 u.2.2.2) (fun u => wX ad K sv u.1 u.2.1 u.2.2.1 u.2.2.2) G K A) ([.ref (ad 11)] : List Value).toArray s 1 6 A) (F0 m 60 ls []) := by
  obtain ⟨hx, hb, hr, hml, hts, hown, hlocks, hA, hK, hT, hnt, hlt⟩ := id C
  intro x1 I J B D ls H locs hok hl hw
  unfold wc_Truths_fill_60 at hok
  refine lv_aload_n hx hb zd_Truths_fill_60 rfl (lv_at hl 0 rfl) ?_
  refine lv_dup hx hb zd_Truths_fill_61 rfl ?_
  refine z_get (v := .int (I 31)) hx hb hts hown hK hw zZ11 11 wX_g11 8 (by decide) zn_530 rfl zd_Truths_fill_62 ?_
  refine lv_iconst (v := 1) hx hb zd_Truths_fill_65 (by decide) ?_
  refine lv_iload_n hx hb zd_Truths_fill_66 rfl (lv_at hl 1 rfl) ?_
  refine lv_ishl hx hb zd_Truths_fill_67 ?_
  refine lv_topi (fun z8 ez8 => ?_)
  have hok := hok z8 ez8
  refine lv_ior hx hb zd_Truths_fill_68 ?_
  refine lv_topi (fun z9 ez9 => ?_)
  have hok := hok z9 ez9
  refine z_put (v := .int z9) hx hb hts hown hK hw zZ11 11 wX_g11 8 (by decide) zn_530 rfl rfl rfl (Nat.le_of_ble_eq_true rfl) zd_Truths_fill_69 (fun H locs hw => ?_)
  have hw := wX_sI31 hw
  exact wJ_Truths_fill_72 G K ad sv  Post PX C K20 kh20 x1 (upd I 31 z9) J B D ls H locs hok (lv_sub hl [0, 1] rfl) hw
set_option maxHeartbeats 8000000 in
set_option maxRecDepth 100000 in
theorem wB_Truths_fill_20 {p : Program} {l : Launch} {e : Env} {s : State} {m : MethodId} {below : List Frame} {meth : Method} {c : Code} {A : Nat → Prop} (G : va_G) (K : Nat → ClassId) (ad : Nat → Nat) (sv : Value) (Post : (Nat → Int32) → (Nat → Int64) → (Nat → Nat → Int32) → (Nat → Nat → Int64) → Prop) (PX : String → (Nat → Int32) → (Nat → Int64) → (Nat → Nat → Int32) → (Nat → Nat → Int64) → Prop) (C : zCy p l s m ([.ref (ad 11)] : List Value).toArray meth c A G K prog_12_method_2_code none 3 "LassoFinder$Truths") (K20 : Int32 → (Nat → Int32) → (Nat → Int64) → (Nat → Nat → Int32) → (Nat → Nat → Int64) → Prop) (kh20 : ∀ (x1 : Int32) (I : Nat → Int32) (J : Nat → Int64) (B : Nat → Nat → Int32) (D : Nat → Nat → Int64) (ls : Array Slot) (H : Heap) (locs : List Loc), K20 x1 I J B D → lv_has ls 3 [(0, .ref (ad 11)), (1, .int x1)] → zW G A s.heap (wX ad K sv I J B D) H locs → W p l e { frames := 5, cells := 1, slots := 6, locals := 118 } s m ([.ref (ad 11)] : List Value).toArray below meth c H locs 0 0 (zyMQ below (va_Qv (fun u : zS => Post u.1 u.2.1 u.2.2.1 u.2.2.2) (fun u t => zPost G K A (wX ad K sv u.1 u.2.1 u.2.2.1 u.2.2.2) t) A) (zYC (fun E (u : zS) => PX E u.1 u.2.1 u.2.2.1 u.2.2.2) (fun u => wX ad K sv u.1 u.2.1 u.2.2.1 u.2.2.2) G K A) ([.ref (ad 11)] : List Value).toArray s 1 6 A) (F0 m 20 ls [])) : ∀ (x1 : Int32) (I : Nat → Int32) (J : Nat → Int64) (B : Nat → Nat → Int32) (D : Nat → Nat → Int64) (ls : Array Slot) (H : Heap) (locs : List Loc), wb_Truths_fill_20  K20 Post PX x1 I J B D → lv_has ls 3 [(0, .ref (ad 11)), (1, .int x1)] → zW G A s.heap (wX ad K sv I J B D) H locs → W p l e { frames := 5, cells := 1, slots := 6, locals := 118 } s m ([.ref (ad 11)] : List Value).toArray below meth c H locs 0 0 (zyMQ below (va_Qv (fun u : zS => Post u.1 u.2.1 u.2.2.1 u.2.2.2) (fun u t => zPost G K A (wX ad K sv u.1 u.2.1 u.2.2.1 u.2.2.2) t) A) (zYC (fun E (u : zS) => PX E u.1 u.2.1 u.2.2.1 u.2.2.2) (fun u => wX ad K sv u.1 u.2.1 u.2.2.1 u.2.2.2) G K A) ([.ref (ad 11)] : List Value).toArray s 1 6 A) (F0 m 20 ls []) := by
  obtain ⟨hx, hb, hr, hml, hts, hown, hlocks, hA, hK, hT, hnt, hlt⟩ := id C
  intro x1 I J B D ls H locs hok hl hw
  unfold wb_Truths_fill_20 at hok
  refine lv_iload_n hx hb zd_Truths_fill_20 rfl (lv_at hl 1 rfl) ?_
  refine lv_aload_n hx hb zd_Truths_fill_21 rfl (lv_at hl 0 rfl) ?_
  refine z_get (v := .ref (ad 9)) hx hb hts hown hK hw zZ11 11 wX_g11 2 (by decide) zn_526 rfl zd_Truths_fill_22 ?_
  refine z_get (v := .int (I 21)) hx hb hts hown hK hw zZ1 9 wX_g9 7 (by decide) zn_527 rfl zd_Truths_fill_25 ?_
  refine lv_icmp_ge (tgt := 78) hx hb zd_Truths_fill_28 (by decide) (fun hc10 => ?_) (fun hc10 => ?_)
  · have hok := hok.1 hc10
    refine lv_iconst (v := 0) hx hb zd_Truths_fill_78 (by decide) ?_
    refine lv_istore_n hx hb zd_Truths_fill_79 rfl hl (by decide) rfl (fun ls hl => ?_)
    have hl : lv_has ls 3 [(1, .int 0), (0, .ref (ad 11))] := hl
    obtain ⟨n9, hok⟩ := hok
    exact wL_Truths_fill_80 G K ad sv  Post PX C n9 0 I J B D ls H locs hok (lv_sub hl [1, 0] rfl) hw
  · have hok := hok.2 hc10
    refine lv_aload_n hx hb zd_Truths_fill_31 rfl (lv_at hl 0 rfl) ?_
    refine z_get (v := .ref (ad 9)) hx hb hts hown hK hw zZ11 11 wX_g11 2 (by decide) zn_526 rfl zd_Truths_fill_32 ?_
    refine z_get (v := .ref (ad 54)) hx hb hts hown hK hw zZ1 9 wX_g9 3 (by decide) zn_528 rfl zd_Truths_fill_35 ?_
    refine lv_aload_n hx hb zd_Truths_fill_38 rfl (lv_at hl 0 rfl) ?_
    refine z_get (v := .ref (ad 9)) hx hb hts hown hK hw zZ11 11 wX_g11 2 (by decide) zn_526 rfl zd_Truths_fill_39 ?_
    refine z_get (v := .ref (ad 57)) hx hb hts hown hK hw zZ1 9 wX_g9 6 (by decide) zn_529 rfl zd_Truths_fill_42 ?_
    refine lv_iload_n hx hb zd_Truths_fill_45 rfl (lv_at hl 1 rfl) ?_
    refine va_iald (f := (B 42)) hx hb hK hw.1 57 0 wX_a57 rfl hok.1 zd_Truths_fill_46 ?_
    have hok := hok.2
    refine lv_topi (fun z11 ez11 => ?_)
    have hok := hok z11 ez11
    refine va_iald (f := (B 39)) hx hb hK hw.1 54 0 wX_a54 rfl hok.1 zd_Truths_fill_47 ?_
    have hok := hok.2
    refine lv_topi (fun z12 ez12 => ?_)
    have hok := hok z12 ez12
    refine lv_istore_n hx hb zd_Truths_fill_48 rfl hl (by decide) rfl (fun ls hl => ?_)
    have hl : lv_has ls 3 [(2, .int z12), (0, .ref (ad 11)), (1, .int x1)] := hl
    refine lv_iload_n hx hb zd_Truths_fill_49 rfl (lv_at hl 0 rfl) ?_
    refine lv_iconst (v := 4) hx hb zd_Truths_fill_50 (by decide) ?_
    refine lv_icmp_eq (tgt := 60) hx hb zd_Truths_fill_51 (by decide) (fun hc13 => ?_) (fun hc13 => ?_)
    · have hok := hok.1 hc13
      exact wJ_Truths_fill_60 G K ad sv  Post PX C K20 kh20 x1 I J B D ls H locs hok (lv_sub hl [1, 2] rfl) hw
    · have hok := hok.2 hc13
      refine lv_iload_n hx hb zd_Truths_fill_54 rfl (lv_at hl 0 rfl) ?_
      refine lv_bipush (v := 7) hx hb zd_Truths_fill_55 (by decide) ?_
      refine lv_icmp_ne (tgt := 72) hx hb zd_Truths_fill_57 (by decide) (fun hc14 => ?_) (fun hc14 => ?_)
      · have hok := hok.1 hc14
        exact wJ_Truths_fill_72 G K ad sv  Post PX C K20 kh20 x1 I J B D ls H locs hok (lv_sub hl [1, 2] rfl) hw
      · have hok := hok.2 hc14
        exact wJ_Truths_fill_60 G K ad sv  Post PX C K20 kh20 x1 I J B D ls H locs hok (lv_sub hl [1, 2] rfl) hw
theorem wL_Truths_fill_20 {p : Program} {l : Launch} {e : Env} {s : State} {m : MethodId} {below : List Frame} {meth : Method} {c : Code} {A : Nat → Prop} (G : va_G) (K : Nat → ClassId) (ad : Nat → Nat) (sv : Value) (Post : (Nat → Int32) → (Nat → Int64) → (Nat → Nat → Int32) → (Nat → Nat → Int64) → Prop) (PX : String → (Nat → Int32) → (Nat → Int64) → (Nat → Nat → Int32) → (Nat → Nat → Int64) → Prop) (C : zCy p l s m ([.ref (ad 11)] : List Value).toArray meth c A G K prog_12_method_2_code none 3 "LassoFinder$Truths") : ∀ (n : Nat) (x1 : Int32) (I : Nat → Int32) (J : Nat → Int64) (B : Nat → Nat → Int32) (D : Nat → Nat → Int64) (ls : Array Slot) (H : Heap) (locs : List Loc), wl_Truths_fill_20  Post PX n x1 I J B D → lv_has ls 3 [(0, .ref (ad 11)), (1, .int x1)] → zW G A s.heap (wX ad K sv I J B D) H locs → W p l e { frames := 5, cells := 1, slots := 6, locals := 118 } s m ([.ref (ad 11)] : List Value).toArray below meth c H locs 0 0 (zyMQ below (va_Qv (fun u : zS => Post u.1 u.2.1 u.2.2.1 u.2.2.2) (fun u t => zPost G K A (wX ad K sv u.1 u.2.1 u.2.2.1 u.2.2.2) t) A) (zYC (fun E (u : zS) => PX E u.1 u.2.1 u.2.2.1 u.2.2.2) (fun u => wX ad K sv u.1 u.2.1 u.2.2.1 u.2.2.2) G K A) ([.ref (ad 11)] : List Value).toArray s 1 6 A) (F0 m 20 ls []) := by
  intro n
  induction n with
  | zero => intro x1 I J B D ls H locs hok; exact hok.elim
  | succ n ih => exact wB_Truths_fill_20 G K ad sv  Post PX C (wl_Truths_fill_20  Post PX n) ih
set_option maxHeartbeats 8000000 in
set_option maxRecDepth 100000 in
theorem w_Truths_fill (l : Launch) (hlt : l.stackTraces = false) (G : va_G) (K : Nat → ClassId) (ad : Nat → Nat) (sv : Value) (I : Nat → Int32) (J : Nat → Int64) (B : Nat → Nat → Int32) (D : Nat → Nat → Int64) (Post : (Nat → Int32) → (Nat → Int64) → (Nat → Nat → Int32) → (Nat → Nat → Int64) → Prop) (PX : String → (Nat → Int32) → (Nat → Int64) → (Nat → Nat → Int32) → (Nat → Nat → Int64) → Prop) (sz : Nat) (hok : wp_Truths_fill I J B D  Post PX) : zyMet l zy_Truths_fill (Cond.code zy_Truths_fill prog_12_method_2_code 3 none :: zTB) { frames := 5, cells := 1, slots := 6, locals := 118 } (va_Pc [.ref (ad 11)] (zPreY G K (wX ad K sv I J B D) sz)) (va_Qv (fun u : zS => Post u.1 u.2.1 u.2.2.1 u.2.2.2) (fun u t => zPost G K (va_A (wX ad K sv I J B D) sz) (wX ad K sv u.1 u.2.1 u.2.2.1 u.2.2.2) t) (va_A (wX ad K sv I J B D) sz)) (zYC (fun E (u : zS) => PX E u.1 u.2.1 u.2.2.1 u.2.2.2) (fun u => wX ad K sv u.1 u.2.1 u.2.2.1 u.2.2.2) G K (va_A (wX ad K sv I J B D) sz)) 1 6 (va_A (wX ad K sv I J B D) sz) := by
  refine zMetY (y := zy_Truths_fill) (av := [.ref (ad 11)]) (maxL := 3) (cc := prog_12_method_2_code) (ret := none) (W0 := (wX ad K sv I J B D)) (sz := sz) (G := G) (K := K) (wt := zTB) (mc := 1) (ms := 6) (Qf := fun A => va_Qv (fun u : zS => Post u.1 u.2.1 u.2.2.1 u.2.2.2) (fun u t => zPost G K A (wX ad K sv u.1 u.2.1 u.2.2.1 u.2.2.2) t) A) (Xf := fun A => (zYC (fun E (u : zS) => PX E u.1 u.2.1 u.2.2.1 u.2.2.2) (fun u => wX ad K sv u.1 u.2.1 u.2.2.1 u.2.2.2) G K A)) (by decide) (Nat.le_of_ble_eq_true rfl) ?_
  intro p e s m below meth c ls A hx hb hr hml hts hown hlocks hin hA hK H locs hw hsz hl hT hnt
  clear hsz
  have hown : s.vm.findClass "LassoFinder$Truths" = some m.cls := hown
  have C : zCy p l s m ([.ref (ad 11)] : List Value).toArray meth c A G K prog_12_method_2_code none 3 "LassoFinder$Truths" := ⟨hx, hb, hr, hml, hts, hown, hlocks, hA, hK, hT, hnt, hlt⟩
  have hl : lv_has ls 3 [(0, .ref (ad 11))] := hl
  have hw : zW G A s.heap (wX ad K sv I J B D) H locs := hw
  unfold wp_Truths_fill at hok
  refine lv_aload_n hx hb zd_Truths_fill_0 rfl (lv_at hl 0 rfl) ?_
  refine lv_iconst (v := 1) hx hb zd_Truths_fill_1 (by decide) ?_
  refine lv_aload_n hx hb zd_Truths_fill_2 rfl (lv_at hl 0 rfl) ?_
  refine z_get (v := .ref (ad 9)) hx hb hts hown hK hw zZ11 11 wX_g11 2 (by decide) zn_526 rfl zd_Truths_fill_3 ?_
  refine z_get (v := .int (I 21)) hx hb hts hown hK hw zZ1 9 wX_g9 7 (by decide) zn_527 rfl zd_Truths_fill_6 ?_
  refine lv_ishl hx hb zd_Truths_fill_9 ?_
  refine lv_topi (fun z15 ez15 => ?_)
  have hok := hok z15 ez15
  refine z_put (v := .int z15) hx hb hts hown hK hw zZ11 11 wX_g11 7 (by decide) zn_542 rfl rfl rfl (Nat.le_of_ble_eq_true rfl) zd_Truths_fill_10 (fun H locs hw => ?_)
  have hw := wX_sI30 hw
  refine lv_aload_n hx hb zd_Truths_fill_13 rfl (lv_at hl 0 rfl) ?_
  refine lv_iconst (v := 0) hx hb zd_Truths_fill_14 (by decide) ?_
  refine z_put (v := .int 0) hx hb hts hown hK hw zZ11 11 wX_g11 8 (by decide) zn_530 rfl rfl rfl (Nat.le_of_ble_eq_true rfl) zd_Truths_fill_15 (fun H locs hw => ?_)
  have hw := wX_sI31 hw
  refine lv_iconst (v := 0) hx hb zd_Truths_fill_18 (by decide) ?_
  refine lv_istore_n hx hb zd_Truths_fill_19 rfl hl (by decide) rfl (fun ls hl => ?_)
  have hl : lv_has ls 3 [(1, .int 0), (0, .ref (ad 11))] := hl
  obtain ⟨n9, hok⟩ := hok
  exact wL_Truths_fill_20 G K ad sv  Post PX C n9 0 (upd (upd I 30 z15) 31 0) J B D ls H locs hok (lv_sub hl [1, 0] rfl) hw
def wp_LassoFinder_walk (I : Nat → Int32) (J : Nat → Int64) (B : Nat → Nat → Int32) (D : Nat → Nat → Int64) (Post : (Nat → Int32) → (Nat → Int64) → (Nat → Nat → Int32) → (Nat → Nat → Int64) → Prop) (PX : String → (Nat → Int32) → (Nat → Int64) → (Nat → Nat → Int32) → (Nat → Nat → Int64) → Prop) : Prop :=
  ((¬ (I 1) = 0 → vp_in 0 61 ∧ Post (upd I 0 0) J (va_up B 0 (upd (B 0) (0 : Int32).toNatClampNeg 0)) D) ∧ ((I 1) = 0 → PX "java/lang/IllegalStateException" I J B D))
set_option maxHeartbeats 8000000 in
set_option maxRecDepth 100000 in
theorem w_LassoFinder_walk (l : Launch) (hlt : l.stackTraces = false) (G : va_G) (K : Nat → ClassId) (ad : Nat → Nat) (sv : Value) (I : Nat → Int32) (J : Nat → Int64) (B : Nat → Nat → Int32) (D : Nat → Nat → Int64) (Post : (Nat → Int32) → (Nat → Int64) → (Nat → Nat → Int32) → (Nat → Nat → Int64) → Prop) (PX : String → (Nat → Int32) → (Nat → Int64) → (Nat → Nat → Int32) → (Nat → Nat → Int64) → Prop) (sz : Nat) (hok : wp_LassoFinder_walk I J B D  Post PX) : zyMet l zy_LassoFinder_walk (Cond.code zy_LassoFinder_walk prog_1_method_10_code 1 none :: zTB) { frames := 6, cells := 1, slots := 6, locals := 81 } (va_Pc [.ref (ad 0)] (zPreY G K (wX ad K sv I J B D) sz)) (va_Qv (fun u : zS => Post u.1 u.2.1 u.2.2.1 u.2.2.2) (fun u t => zPost G K (va_A (wX ad K sv I J B D) sz) (wX ad K sv u.1 u.2.1 u.2.2.1 u.2.2.2) t) (va_A (wX ad K sv I J B D) sz)) (zYC (fun E (u : zS) => PX E u.1 u.2.1 u.2.2.1 u.2.2.2) (fun u => wX ad K sv u.1 u.2.1 u.2.2.1 u.2.2.2) G K (va_A (wX ad K sv I J B D) sz)) 1 6 (va_A (wX ad K sv I J B D) sz) := by
  refine zMetY (y := zy_LassoFinder_walk) (av := [.ref (ad 0)]) (maxL := 1) (cc := prog_1_method_10_code) (ret := none) (W0 := (wX ad K sv I J B D)) (sz := sz) (G := G) (K := K) (wt := zTB) (mc := 1) (ms := 6) (Qf := fun A => va_Qv (fun u : zS => Post u.1 u.2.1 u.2.2.1 u.2.2.2) (fun u t => zPost G K A (wX ad K sv u.1 u.2.1 u.2.2.1 u.2.2.2) t) A) (Xf := fun A => (zYC (fun E (u : zS) => PX E u.1 u.2.1 u.2.2.1 u.2.2.2) (fun u => wX ad K sv u.1 u.2.1 u.2.2.1 u.2.2.2) G K A)) (by decide) (Nat.le_of_ble_eq_true rfl) ?_
  intro p e s m below meth c ls A hx hb hr hml hts hown hlocks hin hA hK H locs hw hsz hl hT hnt
  clear hsz
  have hown : s.vm.findClass "LassoFinder" = some m.cls := hown
  have C : zCy p l s m ([.ref (ad 0)] : List Value).toArray meth c A G K prog_1_method_10_code none 1 "LassoFinder" := ⟨hx, hb, hr, hml, hts, hown, hlocks, hA, hK, hT, hnt, hlt⟩
  have hl : lv_has ls 1 [(0, .ref (ad 0))] := hl
  have hw : zW G A s.heap (wX ad K sv I J B D) H locs := hw
  unfold wp_LassoFinder_walk at hok
  refine lv_aload_n hx hb zd_LassoFinder_walk_0 rfl (lv_at hl 0 rfl) ?_
  refine z_get (v := .int (I 1)) hx hb hts hown hK hw zZ0 0 wX_g0 11 (by decide) zn_317 rfl zd_LassoFinder_walk_1 ?_
  refine lv_if_ne (tgt := 15) hx hb zd_LassoFinder_walk_4 (by decide) (fun hc1 => ?_) (fun hc1 => ?_)
  · have hok := hok.1 hc1
    refine lv_aload_n hx hb zd_LassoFinder_walk_15 rfl (lv_at hl 0 rfl) ?_
    refine lv_iconst (v := 0) hx hb zd_LassoFinder_walk_16 (by decide) ?_
    refine z_put (v := .int 0) hx hb hts hown hK hw zZ0 0 wX_g0 10 (by decide) zn_297 rfl rfl rfl (Nat.le_of_ble_eq_true rfl) zd_LassoFinder_walk_17 (fun H locs hw => ?_)
    have hw := wX_sI0 hw
    refine lv_aload_n hx hb zd_LassoFinder_walk_20 rfl (lv_at hl 0 rfl) ?_
    refine z_get (v := .ref (ad 12)) hx hb hts hown hK hw zZ0 0 wX_g0 9 (by decide) zn_235 rfl zd_LassoFinder_walk_21 ?_
    refine lv_iconst (v := 0) hx hb zd_LassoFinder_walk_24 (by decide) ?_
    refine lv_iconst (v := 0) hx hb zd_LassoFinder_walk_25 (by decide) ?_
    refine va_iast (f := (B 0)) hx hb hK hw.1 hw.2.1 hw.2.2 12 0 wX_a12 rfl hok.1 zd_LassoFinder_walk_26 (fun H locs w91 w92 w93 => ?_)
    have hok := hok.2
    have hw := wX_t12 ⟨w91, w92, w93⟩
    exact zy_ret (z_vret (u := ((upd I 0 0), J, (va_up B 0 (upd (B 0) (0 : Int32).toNatClampNeg 0)), D)) hx hb hr hlocks hw (List.range 65) wX_all wX_nd hok (Nat.le_of_ble_eq_true rfl) (Nat.le_of_ble_eq_true rfl) zd_LassoFinder_walk_27)
  · have hok := hok.2 hc1
    exact z_ythrow (u := (I, J, B, D)) (names := ["java/lang/RuntimeException", "java/lang/Exception"]) hx hb hlt hts hown hnt hlocks hT (by rw [hml]; exact hl.1) (by decide +kernel) (by decide +kernel) zn_567 zn_568 zn_569 zx_1 hw (List.range 65) wX_all wX_nd hok zd_LassoFinder_walk_7 zd_LassoFinder_walk_10 zd_LassoFinder_walk_11 zd_LassoFinder_walk_14 (Nat.le_of_ble_eq_true rfl) (Nat.le_of_ble_eq_true rfl) (Nat.le_of_ble_eq_true rfl) (Nat.le_of_ble_eq_true rfl) (Nat.le_of_ble_eq_true rfl) (Nat.le_of_ble_eq_true rfl)
def wc_LassoFinder_go_42 (a0 : Int32) (Post : Int32 → (Nat → Int32) → (Nat → Int64) → (Nat → Nat → Int32) → (Nat → Nat → Int64) → Prop) (PX : String → (Nat → Int32) → (Nat → Int64) → (Nat → Nat → Int32) → (Nat → Nat → Int64) → Prop)  (I : Nat → Int32) (J : Nat → Int64) (B : Nat → Nat → Int32) (D : Nat → Nat → Int64) : Prop :=
  PX "java/lang/IndexOutOfBoundsException" I J B D
def wp_LassoFinder_go (I : Nat → Int32) (J : Nat → Int64) (B : Nat → Nat → Int32) (D : Nat → Nat → Int64) (a0 : Int32) (Post : Int32 → (Nat → Int32) → (Nat → Int64) → (Nat → Nat → Int32) → (Nat → Nat → Int64) → Prop) (PX : String → (Nat → Int32) → (Nat → Int64) → (Nat → Nat → Int32) → (Nat → Nat → Int64) → Prop) : Prop :=
  ((¬ (I 0) = (-1) → vp_in (I 0) 61 ∧ ∀ z2 : Int32, z2 = ((B 0) (I 0).toNatClampNeg) → ((a0 < 0 → wc_LassoFinder_go_42 a0 Post PX I J B D) ∧ (¬ a0 < 0 → wp_Graph_stepsFrom I J B D z2 (fun r4 I4 J4 B4 D4 => ((a0 < r4 → ((¬ (I4 0) = 60 → vp_in z2 97 ∧ ∀ z7 : Int32, z7 = ((B4 32) z2.toNatClampNeg) → ∀ z8 : Int32, z8 = (z7 + a0) → ∀ z9 : Int32, z9 = ((I4 0) + 1) → vp_in z8 400 ∧ ∀ z10 : Int32, z10 = ((B4 34) z8.toNatClampNeg) → vp_in z9 61 ∧ vp_in z8 400 ∧ ∀ z11 : Int32, z11 = ((B4 35) z8.toNatClampNeg) → Post z11 (upd I4 0 z9) J4 (va_up B4 0 (upd (B4 0) z9.toNatClampNeg z10)) D4) ∧ ((I4 0) = 60 → PX "java/lang/UnsupportedOperationException" I4 J4 B4 D4))) ∧ (¬ a0 < r4 → wc_LassoFinder_go_42 a0 Post PX I4 J4 B4 D4)))))) ∧ ((I 0) = (-1) → PX "java/lang/IllegalStateException" I J B D))
set_option maxHeartbeats 8000000 in
set_option maxRecDepth 100000 in
theorem wJ_LassoFinder_go_42 {p : Program} {l : Launch} {e : Env} {s : State} {m : MethodId} {below : List Frame} {meth : Method} {c : Code} {A : Nat → Prop} (G : va_G) (K : Nat → ClassId) (ad : Nat → Nat) (sv : Value) (a0 : Int32) (Post : Int32 → (Nat → Int32) → (Nat → Int64) → (Nat → Nat → Int32) → (Nat → Nat → Int64) → Prop) (PX : String → (Nat → Int32) → (Nat → Int64) → (Nat → Nat → Int32) → (Nat → Nat → Int64) → Prop) (C : zCy p l s m ([.ref (ad 0), .int a0] : List Value).toArray meth c A G K prog_1_method_12_code (some .int) 4 "LassoFinder") : ∀  (I : Nat → Int32) (J : Nat → Int64) (B : Nat → Nat → Int32) (D : Nat → Nat → Int64) (ls : Array Slot) (H : Heap) (locs : List Loc), wc_LassoFinder_go_42 a0 Post PX  I J B D → lv_has ls 4 [] → zW G A s.heap (wX ad K sv I J B D) H locs → W p l e { frames := 6, cells := 1, slots := 6, locals := 81 } s m ([.ref (ad 0), .int a0] : List Value).toArray below meth c H locs 0 0 (zyMQ below (va_Qi (fun (r : Int32) (u : zS) => Post r u.1 u.2.1 u.2.2.1 u.2.2.2) (fun u t => zPost G K A (wX ad K sv u.1 u.2.1 u.2.2.1 u.2.2.2) t) A) (zYC (fun E (u : zS) => PX E u.1 u.2.1 u.2.2.1 u.2.2.2) (fun u => wX ad K sv u.1 u.2.1 u.2.2.1 u.2.2.2) G K A) ([.ref (ad 0), .int a0] : List Value).toArray s 1 6 A) (F0 m 42 ls []) := by
  obtain ⟨hx, hb, hr, hml, hts, hown, hlocks, hA, hK, hT, hnt, hlt⟩ := id C
  intro  I J B D ls H locs hok hl hw
  unfold wc_LassoFinder_go_42 at hok
  exact z_ythrow (u := (I, J, B, D)) (names := ["java/lang/RuntimeException", "java/lang/Exception"]) hx hb hlt hts hown hnt hlocks hT (by rw [hml]; exact hl.1) (by decide +kernel) (by decide +kernel) zn_573 zn_574 zn_575 zx_2 hw (List.range 65) wX_all wX_nd hok zd_LassoFinder_go_42 zd_LassoFinder_go_45 zd_LassoFinder_go_46 zd_LassoFinder_go_49 (Nat.le_of_ble_eq_true rfl) (Nat.le_of_ble_eq_true rfl) (Nat.le_of_ble_eq_true rfl) (Nat.le_of_ble_eq_true rfl) (Nat.le_of_ble_eq_true rfl) (Nat.le_of_ble_eq_true rfl)
set_option maxHeartbeats 8000000 in
set_option maxRecDepth 100000 in
theorem w_LassoFinder_go (l : Launch) (hlt : l.stackTraces = false) (G : va_G) (K : Nat → ClassId) (ad : Nat → Nat) (sv : Value) (I : Nat → Int32) (J : Nat → Int64) (B : Nat → Nat → Int32) (D : Nat → Nat → Int64) (a0 : Int32) (Post : Int32 → (Nat → Int32) → (Nat → Int64) → (Nat → Nat → Int32) → (Nat → Nat → Int64) → Prop) (PX : String → (Nat → Int32) → (Nat → Int64) → (Nat → Nat → Int32) → (Nat → Nat → Int64) → Prop) (sz : Nat) (hok : wp_LassoFinder_go I J B D a0 Post PX) : zyMet l zy_LassoFinder_go (Cond.code zy_LassoFinder_go prog_1_method_12_code 4 (some .int) :: zTB) { frames := 6, cells := 1, slots := 6, locals := 81 } (va_Pc [.ref (ad 0), .int a0] (zPreY G K (wX ad K sv I J B D) sz)) (va_Qi (fun (r : Int32) (u : zS) => Post r u.1 u.2.1 u.2.2.1 u.2.2.2) (fun u t => zPost G K (va_A (wX ad K sv I J B D) sz) (wX ad K sv u.1 u.2.1 u.2.2.1 u.2.2.2) t) (va_A (wX ad K sv I J B D) sz)) (zYC (fun E (u : zS) => PX E u.1 u.2.1 u.2.2.1 u.2.2.2) (fun u => wX ad K sv u.1 u.2.1 u.2.2.1 u.2.2.2) G K (va_A (wX ad K sv I J B D) sz)) 1 6 (va_A (wX ad K sv I J B D) sz) := by
  refine zMetY (y := zy_LassoFinder_go) (av := [.ref (ad 0), .int a0]) (maxL := 4) (cc := prog_1_method_12_code) (ret := (some .int)) (W0 := (wX ad K sv I J B D)) (sz := sz) (G := G) (K := K) (wt := zTB) (mc := 1) (ms := 6) (Qf := fun A => va_Qi (fun (r : Int32) (u : zS) => Post r u.1 u.2.1 u.2.2.1 u.2.2.2) (fun u t => zPost G K A (wX ad K sv u.1 u.2.1 u.2.2.1 u.2.2.2) t) A) (Xf := fun A => (zYC (fun E (u : zS) => PX E u.1 u.2.1 u.2.2.1 u.2.2.2) (fun u => wX ad K sv u.1 u.2.1 u.2.2.1 u.2.2.2) G K A)) (by decide) (Nat.le_of_ble_eq_true rfl) ?_
  intro p e s m below meth c ls A hx hb hr hml hts hown hlocks hin hA hK H locs hw hsz hl hT hnt
  clear hsz
  have hown : s.vm.findClass "LassoFinder" = some m.cls := hown
  have C : zCy p l s m ([.ref (ad 0), .int a0] : List Value).toArray meth c A G K prog_1_method_12_code (some .int) 4 "LassoFinder" := ⟨hx, hb, hr, hml, hts, hown, hlocks, hA, hK, hT, hnt, hlt⟩
  have hl : lv_has ls 4 [(0, .ref (ad 0)), (1, .int a0)] := hl
  have hw : zW G A s.heap (wX ad K sv I J B D) H locs := hw
  unfold wp_LassoFinder_go at hok
  refine lv_aload_n hx hb zd_LassoFinder_go_0 rfl (lv_at hl 0 rfl) ?_
  refine z_get (v := .int (I 0)) hx hb hts hown hK hw zZ0 0 wX_g0 10 (by decide) zn_297 rfl zd_LassoFinder_go_1 ?_
  refine lv_iconst (v := (-1)) hx hb zd_LassoFinder_go_4 (by decide) ?_
  refine lv_icmp_ne (tgt := 16) hx hb zd_LassoFinder_go_5 (by decide) (fun hc1 => ?_) (fun hc1 => ?_)
  · have hok := hok.1 hc1
    refine lv_aload_n hx hb zd_LassoFinder_go_16 rfl (lv_at hl 0 rfl) ?_
    refine z_get (v := .ref (ad 12)) hx hb hts hown hK hw zZ0 0 wX_g0 9 (by decide) zn_235 rfl zd_LassoFinder_go_17 ?_
    refine lv_aload_n hx hb zd_LassoFinder_go_20 rfl (lv_at hl 0 rfl) ?_
    refine z_get (v := .int (I 0)) hx hb hts hown hK hw zZ0 0 wX_g0 10 (by decide) zn_297 rfl zd_LassoFinder_go_21 ?_
    refine va_iald (f := (B 0)) hx hb hK hw.1 12 0 wX_a12 rfl hok.1 zd_LassoFinder_go_24 ?_
    have hok := hok.2
    refine lv_topi (fun z2 ez2 => ?_)
    have hok := hok z2 ez2
    refine lv_istore_n hx hb zd_LassoFinder_go_25 rfl hl (by decide) rfl (fun ls hl => ?_)
    have hl : lv_has ls 4 [(2, .int z2), (0, .ref (ad 0)), (1, .int a0)] := hl
    refine lv_iload_n hx hb zd_LassoFinder_go_26 rfl (lv_at hl 2 rfl) ?_
    refine lv_if_lt (tgt := 42) hx hb zd_LassoFinder_go_27 (by decide) (fun hc3 => ?_) (fun hc3 => ?_)
    · have hok := hok.1 hc3
      exact wJ_LassoFinder_go_42 G K ad sv a0 Post PX C I J B D ls H locs hok (lv_sub hl [] rfl) hw
    · have hok := hok.2 hc3
      refine lv_iload_n hx hb zd_LassoFinder_go_30 rfl (lv_at hl 2 rfl) ?_
      refine lv_aload_n hx hb zd_LassoFinder_go_31 rfl (lv_at hl 1 rfl) ?_
      refine z_get (v := .ref (ad 8)) hx hb hts hown hK hw zZ0 0 wX_g0 5 (by decide) zn_298 rfl zd_LassoFinder_go_32 ?_
      refine lv_iload_n hx hb zd_LassoFinder_go_35 rfl (lv_at hl 0 rfl) ?_
      refine z_calli (w1 := fun (u : zS) => wX ad K sv u.1 u.2.1 u.2.2.1 u.2.2.2) (wr := []) (z_runV (q0 := 8) (wc := (wX ad K sv I J B D)) (As := [.int z2]) (rest := [.int a0]) ⟨hx, hb, hml, hown, hts⟩ (w_Graph_stepsFrom l G K ad sv I J B D z2 _ H.size hok) zf_Graph_stepsFrom zn_296 ⟨Nat.le_of_ble_eq_true rfl, Nat.le_of_ble_eq_true rfl⟩ hK hw (List.range 65) wX_all wX_nd wX_g8 rfl rfl hl.1 rfl (Nat.le_of_ble_eq_true rfl) zd_LassoFinder_go_36 ⟨Nat.le_of_ble_eq_true rfl, Nat.le_of_ble_eq_true rfl⟩) hw hA (List.range 65) [] wX_all rfl (by decide) (fun i hi => by cases hi) (fun r4 u H locs hok hw => ?_)
      obtain ⟨I4, J4, B4, D4⟩ := u
      dsimp only at hok
      have hw : zW G A s.heap (wX ad K sv I4 J4 B4 D4) H locs := hw
      refine lv_icmp_lt (tgt := 50) hx hb zd_LassoFinder_go_39 (by decide) (fun hc5 => ?_) (fun hc5 => ?_)
      · have hok := hok.1 hc5
        refine lv_aload_n hx hb zd_LassoFinder_go_50 rfl (lv_at hl 1 rfl) ?_
        refine z_get (v := .int (I4 0)) hx hb hts hown hK hw zZ0 0 wX_g0 10 (by decide) zn_297 rfl zd_LassoFinder_go_51 ?_
        refine lv_bipush (v := 60) hx hb zd_LassoFinder_go_54 (by decide) ?_
        refine lv_icmp_ne (tgt := 67) hx hb zd_LassoFinder_go_56 (by decide) (fun hc6 => ?_) (fun hc6 => ?_)
        · have hok := hok.1 hc6
          refine lv_aload_n hx hb zd_LassoFinder_go_67 rfl (lv_at hl 1 rfl) ?_
          refine z_get (v := .ref (ad 8)) hx hb hts hown hK hw zZ0 0 wX_g0 5 (by decide) zn_298 rfl zd_LassoFinder_go_68 ?_
          refine z_get (v := .ref (ad 47)) hx hb hts hown hK hw zZ2 8 wX_g8 2 (by decide) zn_570 rfl zd_LassoFinder_go_71 ?_
          refine lv_iload_n hx hb zd_LassoFinder_go_74 rfl (lv_at hl 0 rfl) ?_
          refine va_iald (f := (B4 32)) hx hb hK hw.1 47 0 wX_a47 rfl hok.1 zd_LassoFinder_go_75 ?_
          have hok := hok.2
          refine lv_topi (fun z7 ez7 => ?_)
          have hok := hok z7 ez7
          refine lv_iload_n hx hb zd_LassoFinder_go_76 rfl (lv_at hl 2 rfl) ?_
          refine lv_iadd hx hb zd_LassoFinder_go_77 ?_
          refine lv_topi (fun z8 ez8 => ?_)
          have hok := hok z8 ez8
          refine lv_istore_n hx hb zd_LassoFinder_go_78 rfl hl (by decide) rfl (fun ls hl => ?_)
          have hl : lv_has ls 4 [(3, .int z8), (2, .int z2), (0, .ref (ad 0)), (1, .int a0)] := hl
          refine lv_aload_n hx hb zd_LassoFinder_go_79 rfl (lv_at hl 2 rfl) ?_
          refine lv_dup hx hb zd_LassoFinder_go_80 rfl ?_
          refine z_get (v := .int (I4 0)) hx hb hts hown hK hw zZ0 0 wX_g0 10 (by decide) zn_297 rfl zd_LassoFinder_go_81 ?_
          refine lv_iconst (v := 1) hx hb zd_LassoFinder_go_84 (by decide) ?_
          refine lv_iadd hx hb zd_LassoFinder_go_85 ?_
          refine lv_topi (fun z9 ez9 => ?_)
          have hok := hok z9 ez9
          refine z_put (v := .int z9) hx hb hts hown hK hw zZ0 0 wX_g0 10 (by decide) zn_297 rfl rfl rfl (Nat.le_of_ble_eq_true rfl) zd_LassoFinder_go_86 (fun H locs hw => ?_)
          have hw := wX_sI0 hw
          refine lv_aload_n hx hb zd_LassoFinder_go_89 rfl (lv_at hl 2 rfl) ?_
          refine z_get (v := .ref (ad 12)) hx hb hts hown hK hw zZ0 0 wX_g0 9 (by decide) zn_235 rfl zd_LassoFinder_go_90 ?_
          refine lv_aload_n hx hb zd_LassoFinder_go_93 rfl (lv_at hl 2 rfl) ?_
          refine z_get (v := .int z9) hx hb hts hown hK hw zZ0 0 wX_g0 10 (by decide) zn_297 rfl zd_LassoFinder_go_94 ?_
          refine lv_aload_n hx hb zd_LassoFinder_go_97 rfl (lv_at hl 2 rfl) ?_
          refine z_get (v := .ref (ad 8)) hx hb hts hown hK hw zZ0 0 wX_g0 5 (by decide) zn_298 rfl zd_LassoFinder_go_98 ?_
          refine z_get (v := .ref (ad 49)) hx hb hts hown hK hw zZ2 8 wX_g8 4 (by decide) zn_571 rfl zd_LassoFinder_go_101 ?_
          refine lv_iload_n hx hb zd_LassoFinder_go_104 rfl (lv_at hl 0 rfl) ?_
          refine va_iald (f := (B4 34)) hx hb hK hw.1 49 0 wX_a49 rfl hok.1 zd_LassoFinder_go_105 ?_
          have hok := hok.2
          refine lv_topi (fun z10 ez10 => ?_)
          have hok := hok z10 ez10
          refine va_iast (f := (B4 0)) hx hb hK hw.1 hw.2.1 hw.2.2 12 0 wX_a12 rfl hok.1 zd_LassoFinder_go_106 (fun H locs w91 w92 w93 => ?_)
          have hok := hok.2
          have hw := wX_t12 ⟨w91, w92, w93⟩
          refine lv_aload_n hx hb zd_LassoFinder_go_107 rfl (lv_at hl 2 rfl) ?_
          refine z_get (v := .ref (ad 8)) hx hb hts hown hK hw zZ0 0 wX_g0 5 (by decide) zn_298 rfl zd_LassoFinder_go_108 ?_
          refine z_get (v := .ref (ad 50)) hx hb hts hown hK hw zZ2 8 wX_g8 5 (by decide) zn_572 rfl zd_LassoFinder_go_111 ?_
          refine lv_iload_n hx hb zd_LassoFinder_go_114 rfl (lv_at hl 0 rfl) ?_
          refine va_iald (f := (B4 35)) hx hb hK hw.1 50 0 wX_a50 rfl hok.1 zd_LassoFinder_go_115 ?_
          have hok := hok.2
          refine lv_topi (fun z11 ez11 => ?_)
          have hok := hok z11 ez11
          exact zy_ret (z_iret (u := ((upd I4 0 z9), J4, (va_up B4 0 (upd (B4 0) z9.toNatClampNeg z10)), D4)) hx hb hr hlocks rfl hw (List.range 65) wX_all wX_nd hok (Nat.le_of_ble_eq_true rfl) (Nat.le_of_ble_eq_true rfl) zd_LassoFinder_go_116)
        · have hok := hok.2 hc6
          exact z_ythrow (u := (I4, J4, B4, D4)) (names := ["java/lang/RuntimeException", "java/lang/Exception"]) hx hb hlt hts hown hnt hlocks hT (by rw [hml]; exact hl.1) (by decide +kernel) (by decide +kernel) zn_576 zn_577 zn_578 zx_3 hw (List.range 65) wX_all wX_nd hok zd_LassoFinder_go_59 zd_LassoFinder_go_62 zd_LassoFinder_go_63 zd_LassoFinder_go_66 (Nat.le_of_ble_eq_true rfl) (Nat.le_of_ble_eq_true rfl) (Nat.le_of_ble_eq_true rfl) (Nat.le_of_ble_eq_true rfl) (Nat.le_of_ble_eq_true rfl) (Nat.le_of_ble_eq_true rfl)
      · have hok := hok.2 hc5
        exact wJ_LassoFinder_go_42 G K ad sv a0 Post PX C I4 J4 B4 D4 ls H locs hok (lv_sub hl [] rfl) hw
  · have hok := hok.2 hc1
    exact z_ythrow (u := (I, J, B, D)) (names := ["java/lang/RuntimeException", "java/lang/Exception"]) hx hb hlt hts hown hnt hlocks hT (by rw [hml]; exact hl.1) (by decide +kernel) (by decide +kernel) zn_567 zn_568 zn_569 zx_1 hw (List.range 65) wX_all wX_nd hok zd_LassoFinder_go_8 zd_LassoFinder_go_11 zd_LassoFinder_go_12 zd_LassoFinder_go_15 (Nat.le_of_ble_eq_true rfl) (Nat.le_of_ble_eq_true rfl) (Nat.le_of_ble_eq_true rfl) (Nat.le_of_ble_eq_true rfl) (Nat.le_of_ble_eq_true rfl) (Nat.le_of_ble_eq_true rfl)
def wb_Truths_backTo_ad12_9 (a1 : Int32) (a2 : Int32) (a3 : Int32) (K9 : Int32 → Int32 → Int32 → (Nat → Int32) → (Nat → Int64) → (Nat → Nat → Int32) → (Nat → Nat → Int64) → Prop) (Post : Int32 → (Nat → Int32) → (Nat → Int64) → (Nat → Nat → Int32) → (Nat → Nat → Int64) → Prop) (x3 : Int32) (x5 : Int32) (x6 : Int32) (I : Nat → Int32) (J : Nat → Int64) (B : Nat → Nat → Int32) (D : Nat → Nat → Int64) : Prop :=
  ((x6 < x3 → Post x5 I J B D) ∧ (¬ x6 < x3 → vp_in x6 61 ∧ ∀ z2 : Int32, z2 = ((B 0) x6.toNatClampNeg) → ∀ z3 : Int32, z3 = (z2 * 8) → ∀ z4 : Int32, z4 = (z3 + x5) → vp_in z4 768 ∧ ∀ z5 : Int32, z5 = ((B 47) z4.toNatClampNeg) → ∀ z6 : Int32, z6 = (x6 + (-1)) → K9 x3 z5 z6 I J B D))
def wl_Truths_backTo_ad12_9 (a1 : Int32) (a2 : Int32) (a3 : Int32) (Post : Int32 → (Nat → Int32) → (Nat → Int64) → (Nat → Nat → Int32) → (Nat → Nat → Int64) → Prop) (n : Nat) : Int32 → Int32 → Int32 → (Nat → Int32) → (Nat → Int64) → (Nat → Nat → Int32) → (Nat → Nat → Int64) → Prop := Nat.rec (fun _ _ _ _ _ _ _ => False) (fun _ r => wb_Truths_backTo_ad12_9 a1 a2 a3 r Post) n
def wp_Truths_backTo_ad12 (I : Nat → Int32) (J : Nat → Int64) (B : Nat → Nat → Int32) (D : Nat → Nat → Int64) (a1 : Int32) (a2 : Int32) (a3 : Int32) (Post : Int32 → (Nat → Int32) → (Nat → Int64) → (Nat → Nat → Int32) → (Nat → Nat → Int64) → Prop) : Prop :=
  ∀ z7 : Int32, z7 = (a1 - 1) → ∃ n : Nat, wl_Truths_backTo_ad12_9 a1 a2 a3 Post n a2 a3 z7 I J B D
set_option maxHeartbeats 8000000 in
set_option maxRecDepth 100000 in
theorem wB_Truths_backTo_ad12_9 {p : Program} {l : Launch} {e : Env} {s : State} {m : MethodId} {below : List Frame} {meth : Method} {c : Code} {A : Nat → Prop} (G : va_G) (K : Nat → ClassId) (ad : Nat → Nat) (sv : Value) (a1 : Int32) (a2 : Int32) (a3 : Int32) (Post : Int32 → (Nat → Int32) → (Nat → Int64) → (Nat → Nat → Int32) → (Nat → Nat → Int64) → Prop) (C : zCx p s m ([.ref (ad 11), .ref (ad 12), .int a1, .int a2, .int a3] : List Value).toArray meth c A G K prog_12_method_11_code (some .int) 7 "LassoFinder$Truths") (K9 : Int32 → Int32 → Int32 → (Nat → Int32) → (Nat → Int64) → (Nat → Nat → Int32) → (Nat → Nat → Int64) → Prop) (kh9 : ∀ (x3 : Int32) (x5 : Int32) (x6 : Int32) (I : Nat → Int32) (J : Nat → Int64) (B : Nat → Nat → Int32) (D : Nat → Nat → Int64) (ls : Array Slot) (H : Heap) (locs : List Loc), K9 x3 x5 x6 I J B D → lv_has ls 7 [(0, .ref (ad 11)), (1, .ref (ad 12)), (3, .int x3), (5, .int x5), (6, .int x6)] → zW G A s.heap (wX ad K sv I J B D) H locs → W p l e { frames := 0, cells := 0, slots := 0, locals := 0 } s m ([.ref (ad 11), .ref (ad 12), .int a1, .int a2, .int a3] : List Value).toArray below meth c H locs 0 0 (MQ below (va_Qi (fun (r : Int32) (u : zS) => Post r u.1 u.2.1 u.2.2.1 u.2.2.2) (fun u t => zPost G K A (wX ad K sv u.1 u.2.1 u.2.2.1 u.2.2.2) t) A) ([.ref (ad 11), .ref (ad 12), .int a1, .int a2, .int a3] : List Value).toArray s 0 0 A) (F0 m 9 ls [])) : ∀ (x3 : Int32) (x5 : Int32) (x6 : Int32) (I : Nat → Int32) (J : Nat → Int64) (B : Nat → Nat → Int32) (D : Nat → Nat → Int64) (ls : Array Slot) (H : Heap) (locs : List Loc), wb_Truths_backTo_ad12_9 a1 a2 a3 K9 Post x3 x5 x6 I J B D → lv_has ls 7 [(0, .ref (ad 11)), (1, .ref (ad 12)), (3, .int x3), (5, .int x5), (6, .int x6)] → zW G A s.heap (wX ad K sv I J B D) H locs → W p l e { frames := 0, cells := 0, slots := 0, locals := 0 } s m ([.ref (ad 11), .ref (ad 12), .int a1, .int a2, .int a3] : List Value).toArray below meth c H locs 0 0 (MQ below (va_Qi (fun (r : Int32) (u : zS) => Post r u.1 u.2.1 u.2.2.1 u.2.2.2) (fun u t => zPost G K A (wX ad K sv u.1 u.2.1 u.2.2.1 u.2.2.2) t) A) ([.ref (ad 11), .ref (ad 12), .int a1, .int a2, .int a3] : List Value).toArray s 0 0 A) (F0 m 9 ls []) := by
  obtain ⟨hx, hb, hr, hml, hts, hown, hlocks, hA, hK⟩ := id C
  intro x3 x5 x6 I J B D ls H locs hok hl hw
  unfold wb_Truths_backTo_ad12_9 at hok
  refine lv_iload hx hb zd_Truths_backTo_9 (lv_at hl 4 rfl) ?_
  refine lv_iload_n hx hb zd_Truths_backTo_11 rfl (lv_at hl 2 rfl) ?_
  refine lv_icmp_lt (tgt := 38) hx hb zd_Truths_backTo_12 (by decide) (fun hc1 => ?_) (fun hc1 => ?_)
  · have hok := hok.1 hc1
    refine lv_iload hx hb zd_Truths_backTo_38 (lv_at hl 3 rfl) ?_
    exact (z_iret (u := (I, J, B, D)) hx hb hr hlocks rfl hw (List.range 65) wX_all wX_nd hok (Nat.le_of_ble_eq_true rfl) (Nat.le_of_ble_eq_true rfl) zd_Truths_backTo_40)
  · have hok := hok.2 hc1
    refine lv_aload_n hx hb zd_Truths_backTo_15 rfl (lv_at hl 0 rfl) ?_
    refine z_get (v := .ref (ad 62)) hx hb hts hown hK hw zZ11 11 wX_g11 4 (by decide) zn_282 rfl zd_Truths_backTo_16 ?_
    refine lv_aload_n hx hb zd_Truths_backTo_19 rfl (lv_at hl 1 rfl) ?_
    refine lv_iload hx hb zd_Truths_backTo_20 (lv_at hl 4 rfl) ?_
    refine va_iald (f := (B 0)) hx hb hK hw.1 12 0 wX_a12 rfl hok.1 zd_Truths_backTo_22 ?_
    have hok := hok.2
    refine lv_topi (fun z2 ez2 => ?_)
    have hok := hok z2 ez2
    refine lv_bipush (v := 8) hx hb zd_Truths_backTo_23 (by decide) ?_
    refine lv_imul hx hb zd_Truths_backTo_25 ?_
    refine lv_topi (fun z3 ez3 => ?_)
    have hok := hok z3 ez3
    refine lv_iload hx hb zd_Truths_backTo_26 (lv_at hl 3 rfl) ?_
    refine lv_iadd hx hb zd_Truths_backTo_28 ?_
    refine lv_topi (fun z4 ez4 => ?_)
    have hok := hok z4 ez4
    refine va_iald (f := (B 47)) hx hb hK hw.1 62 0 wX_a62 rfl hok.1 zd_Truths_backTo_29 ?_
    have hok := hok.2
    refine lv_topi (fun z5 ez5 => ?_)
    have hok := hok z5 ez5
    refine lv_istore hx hb zd_Truths_backTo_30 hl (by decide) rfl (fun ls hl => ?_)
    have hl : lv_has ls 7 [(5, .int z5), (0, .ref (ad 11)), (1, .ref (ad 12)), (3, .int x3), (6, .int x6)] := hl
    obtain ⟨z6, ez6⟩ : ∃ z : Int32, z = (x6 + (-1)) := ⟨_, rfl⟩
    have hok := hok z6 ez6
    refine lv_iinc (v := z6) hx hb zd_Truths_backTo_32 hl (k := 4) rfl ez6.symm (by decide) rfl (fun ls hl => ?_)
    have hl : lv_has ls 7 [(6, .int z6), (5, .int z5), (0, .ref (ad 11)), (1, .ref (ad 12)), (3, .int x3)] := hl
    refine lv_goto (tgt := 9) hx hb zd_Truths_backTo_35 (by decide) ?_
    exact kh9 x3 z5 z6 I J B D ls H locs hok (lv_sub hl [2, 3, 4, 1, 0] rfl) hw
theorem wL_Truths_backTo_ad12_9 {p : Program} {l : Launch} {e : Env} {s : State} {m : MethodId} {below : List Frame} {meth : Method} {c : Code} {A : Nat → Prop} (G : va_G) (K : Nat → ClassId) (ad : Nat → Nat) (sv : Value) (a1 : Int32) (a2 : Int32) (a3 : Int32) (Post : Int32 → (Nat → Int32) → (Nat → Int64) → (Nat → Nat → Int32) → (Nat → Nat → Int64) → Prop) (C : zCx p s m ([.ref (ad 11), .ref (ad 12), .int a1, .int a2, .int a3] : List Value).toArray meth c A G K prog_12_method_11_code (some .int) 7 "LassoFinder$Truths") : ∀ (n : Nat) (x3 : Int32) (x5 : Int32) (x6 : Int32) (I : Nat → Int32) (J : Nat → Int64) (B : Nat → Nat → Int32) (D : Nat → Nat → Int64) (ls : Array Slot) (H : Heap) (locs : List Loc), wl_Truths_backTo_ad12_9 a1 a2 a3 Post n x3 x5 x6 I J B D → lv_has ls 7 [(0, .ref (ad 11)), (1, .ref (ad 12)), (3, .int x3), (5, .int x5), (6, .int x6)] → zW G A s.heap (wX ad K sv I J B D) H locs → W p l e { frames := 0, cells := 0, slots := 0, locals := 0 } s m ([.ref (ad 11), .ref (ad 12), .int a1, .int a2, .int a3] : List Value).toArray below meth c H locs 0 0 (MQ below (va_Qi (fun (r : Int32) (u : zS) => Post r u.1 u.2.1 u.2.2.1 u.2.2.2) (fun u t => zPost G K A (wX ad K sv u.1 u.2.1 u.2.2.1 u.2.2.2) t) A) ([.ref (ad 11), .ref (ad 12), .int a1, .int a2, .int a3] : List Value).toArray s 0 0 A) (F0 m 9 ls []) := by
  intro n
  induction n with
  | zero => intro x3 x5 x6 I J B D ls H locs hok; exact hok.elim
  | succ n ih => exact wB_Truths_backTo_ad12_9 G K ad sv a1 a2 a3 Post C (wl_Truths_backTo_ad12_9 a1 a2 a3 Post n) ih
set_option maxHeartbeats 8000000 in
set_option maxRecDepth 100000 in
theorem w_Truths_backTo_ad12 (l : Launch) (G : va_G) (K : Nat → ClassId) (ad : Nat → Nat) (sv : Value) (I : Nat → Int32) (J : Nat → Int64) (B : Nat → Nat → Int32) (D : Nat → Nat → Int64) (a1 : Int32) (a2 : Int32) (a3 : Int32) (Post : Int32 → (Nat → Int32) → (Nat → Int64) → (Nat → Nat → Int32) → (Nat → Nat → Int64) → Prop) (sz : Nat) (hok : wp_Truths_backTo_ad12 I J B D a1 a2 a3 Post) : Met l zy_Truths_backTo (Cond.code zy_Truths_backTo prog_12_method_11_code 7 (some .int) :: zTB) { frames := 0, cells := 0, slots := 0, locals := 0 } (va_Pc [.ref (ad 11), .ref (ad 12), .int a1, .int a2, .int a3] (zPre G K (wX ad K sv I J B D) sz)) (va_Qi (fun (r : Int32) (u : zS) => Post r u.1 u.2.1 u.2.2.1 u.2.2.2) (fun u t => zPost G K (va_A (wX ad K sv I J B D) sz) (wX ad K sv u.1 u.2.1 u.2.2.1 u.2.2.2) t) (va_A (wX ad K sv I J B D) sz)) 0 0 (va_A (wX ad K sv I J B D) sz) := by
  refine zMet (y := zy_Truths_backTo) (av := [.ref (ad 11), .ref (ad 12), .int a1, .int a2, .int a3]) (maxL := 7) (cc := prog_12_method_11_code) (ret := (some .int)) (W0 := (wX ad K sv I J B D)) (sz := sz) (G := G) (K := K) (wt := zTB) (mc := 0) (ms := 0) (Qf := fun A => va_Qi (fun (r : Int32) (u : zS) => Post r u.1 u.2.1 u.2.2.1 u.2.2.2) (fun u t => zPost G K A (wX ad K sv u.1 u.2.1 u.2.2.1 u.2.2.2) t) A) (by decide) (Nat.le_of_ble_eq_true rfl) ?_
  intro p e s m below meth c ls A hx hb hr hml hts hown hlocks hin hA hK H locs hw hsz hl
  clear hsz
  have hown : s.vm.findClass "LassoFinder$Truths" = some m.cls := hown
  have C : zCx p s m ([.ref (ad 11), .ref (ad 12), .int a1, .int a2, .int a3] : List Value).toArray meth c A G K prog_12_method_11_code (some .int) 7 "LassoFinder$Truths" := ⟨hx, hb, hr, hml, hts, hown, hlocks, hA, hK⟩
  have hl : lv_has ls 7 [(0, .ref (ad 11)), (1, .ref (ad 12)), (2, .int a1), (3, .int a2), (4, .int a3)] := hl
  have hw : zW G A s.heap (wX ad K sv I J B D) H locs := hw
  unfold wp_Truths_backTo_ad12 at hok
  refine lv_iload hx hb zd_Truths_backTo_0 (lv_at hl 4 rfl) ?_
  refine lv_istore hx hb zd_Truths_backTo_2 hl (by decide) rfl (fun ls hl => ?_)
  have hl : lv_has ls 7 [(5, .int a3), (0, .ref (ad 11)), (1, .ref (ad 12)), (2, .int a1), (3, .int a2), (4, .int a3)] := hl
  refine lv_iload_n hx hb zd_Truths_backTo_4 rfl (lv_at hl 3 rfl) ?_
  refine lv_iconst (v := 1) hx hb zd_Truths_backTo_5 (by decide) ?_
  refine lv_isub hx hb zd_Truths_backTo_6 ?_
  refine lv_topi (fun z7 ez7 => ?_)
  have hok := hok z7 ez7
  refine lv_istore hx hb zd_Truths_backTo_7 hl (by decide) rfl (fun ls hl => ?_)
  have hl : lv_has ls 7 [(6, .int z7), (5, .int a3), (0, .ref (ad 11)), (1, .ref (ad 12)), (2, .int a1), (3, .int a2), (4, .int a3)] := hl
  obtain ⟨n9, hok⟩ := hok
  exact wL_Truths_backTo_ad12_9 G K ad sv a1 a2 a3 Post C n9 a2 a3 z7 I J B D ls H locs hok (lv_sub hl [2, 3, 5, 1, 0] rfl) hw
def wb_Truths_ofRound_ad12_9 (a1 : Int32) (a2 : Int32) (K9 : Int32 → Int32 → Int32 → Int32 → (Nat → Int32) → (Nat → Int64) → (Nat → Nat → Int32) → (Nat → Nat → Int64) → Prop) (Post : Int32 → (Nat → Int32) → (Nat → Int64) → (Nat → Nat → Int32) → (Nat → Nat → Int64) → Prop) (x2 : Int32) (x3 : Int32) (x4 : Int32) (x5 : Int32) (I : Nat → Int32) (J : Nat → Int64) (B : Nat → Nat → Int32) (D : Nat → Nat → Int64) : Prop :=
  (((I 21) ≤ x5 → wp_Truths_backTo_ad12 I J B D x3 0 x4 (fun r2 I2 J2 B2 D2 => vp_in 0 61 ∧ ∀ z3 : Int32, z3 = ((B2 0) (0 : Int32).toNatClampNeg) → ∀ z4 : Int32, z4 = (z3 * 8) → ∀ z5 : Int32, z5 = (z4 + r2) → vp_in z5 768 ∧ ∀ z6 : Int32, z6 = ((B2 49) z5.toNatClampNeg) → (z6 = 0 ∨ z6 = 1) ∧ Post z6 I2 J2 B2 D2)) ∧ (¬ (I 21) ≤ x5 → ∀ z7 : Int32, z7 = ((-1) <<< (x5 &&& 31)) → ∀ z8 : Int32, z8 = (z7 ^^^ (-1)) → ∀ z9 : Int32, z9 = (x4 &&& z8) → ∀ z10 : Int32, z10 = ((I 31) &&& z7) → ∀ z11 : Int32, z11 = (z9 ||| z10) → wp_Truths_backTo_ad12 I J B D x2 x3 z11 (fun r12 I12 J12 B12 D12 => ∀ z13 : Int32, z13 = (x5 + 1) → K9 x2 x3 r12 z13 I12 J12 B12 D12)))
def wl_Truths_ofRound_ad12_9 (a1 : Int32) (a2 : Int32) (Post : Int32 → (Nat → Int32) → (Nat → Int64) → (Nat → Nat → Int32) → (Nat → Nat → Int64) → Prop) (n : Nat) : Int32 → Int32 → Int32 → Int32 → (Nat → Int32) → (Nat → Int64) → (Nat → Nat → Int32) → (Nat → Nat → Int64) → Prop := Nat.rec (fun _ _ _ _ _ _ _ _ => False) (fun _ r => wb_Truths_ofRound_ad12_9 a1 a2 r Post) n
def wp_Truths_ofRound_ad12 (I : Nat → Int32) (J : Nat → Int64) (B : Nat → Nat → Int32) (D : Nat → Nat → Int64) (a1 : Int32) (a2 : Int32) (Post : Int32 → (Nat → Int32) → (Nat → Int64) → (Nat → Nat → Int32) → (Nat → Nat → Int64) → Prop) : Prop :=
  ∃ n : Nat, wl_Truths_ofRound_ad12_9 a1 a2 Post n a1 a2 (I 31) 0 I J B D
set_option maxHeartbeats 8000000 in
set_option maxRecDepth 100000 in
theorem wB_Truths_ofRound_ad12_9 {p : Program} {l : Launch} {e : Env} {s : State} {m : MethodId} {below : List Frame} {meth : Method} {c : Code} {A : Nat → Prop} (G : va_G) (K : Nat → ClassId) (ad : Nat → Nat) (sv : Value) (a1 : Int32) (a2 : Int32) (Post : Int32 → (Nat → Int32) → (Nat → Int64) → (Nat → Nat → Int32) → (Nat → Nat → Int64) → Prop) (C : zCx p s m ([.ref (ad 11), .ref (ad 12), .int a1, .int a2] : List Value).toArray meth c A G K prog_12_method_10_code (some .boolean) 7 "LassoFinder$Truths") (K9 : Int32 → Int32 → Int32 → Int32 → (Nat → Int32) → (Nat → Int64) → (Nat → Nat → Int32) → (Nat → Nat → Int64) → Prop) (kh9 : ∀ (x2 : Int32) (x3 : Int32) (x4 : Int32) (x5 : Int32) (I : Nat → Int32) (J : Nat → Int64) (B : Nat → Nat → Int32) (D : Nat → Nat → Int64) (ls : Array Slot) (H : Heap) (locs : List Loc), K9 x2 x3 x4 x5 I J B D → lv_has ls 7 [(0, .ref (ad 11)), (1, .ref (ad 12)), (2, .int x2), (3, .int x3), (4, .int x4), (5, .int x5)] → zW G A s.heap (wX ad K sv I J B D) H locs → W p l e { frames := 1, cells := 0, slots := 0, locals := 26 } s m ([.ref (ad 11), .ref (ad 12), .int a1, .int a2] : List Value).toArray below meth c H locs 0 0 (MQ below (va_Qi (fun (r : Int32) (u : zS) => Post r u.1 u.2.1 u.2.2.1 u.2.2.2) (fun u t => zPost G K A (wX ad K sv u.1 u.2.1 u.2.2.1 u.2.2.2) t) A) ([.ref (ad 11), .ref (ad 12), .int a1, .int a2] : List Value).toArray s 0 0 A) (F0 m 9 ls [])) : ∀ (x2 : Int32) (x3 : Int32) (x4 : Int32) (x5 : Int32) (I : Nat → Int32) (J : Nat → Int64) (B : Nat → Nat → Int32) (D : Nat → Nat → Int64) (ls : Array Slot) (H : Heap) (locs : List Loc), wb_Truths_ofRound_ad12_9 a1 a2 K9 Post x2 x3 x4 x5 I J B D → lv_has ls 7 [(0, .ref (ad 11)), (1, .ref (ad 12)), (2, .int x2), (3, .int x3), (4, .int x4), (5, .int x5)] → zW G A s.heap (wX ad K sv I J B D) H locs → W p l e { frames := 1, cells := 0, slots := 0, locals := 26 } s m ([.ref (ad 11), .ref (ad 12), .int a1, .int a2] : List Value).toArray below meth c H locs 0 0 (MQ below (va_Qi (fun (r : Int32) (u : zS) => Post r u.1 u.2.1 u.2.2.1 u.2.2.2) (fun u t => zPost G K A (wX ad K sv u.1 u.2.1 u.2.2.1 u.2.2.2) t) A) ([.ref (ad 11), .ref (ad 12), .int a1, .int a2] : List Value).toArray s 0 0 A) (F0 m 9 ls []) := by
  obtain ⟨hx, hb, hr, hml, hts, hown, hlocks, hA, hK⟩ := id C
  intro x2 x3 x4 x5 I J B D ls H locs hok hl hw
  unfold wb_Truths_ofRound_ad12_9 at hok
  refine lv_iload hx hb zd_Truths_ofRound_9 (lv_at hl 5 rfl) ?_
  refine lv_aload_n hx hb zd_Truths_ofRound_11 rfl (lv_at hl 0 rfl) ?_
  refine z_get (v := .ref (ad 9)) hx hb hts hown hK hw zZ11 11 wX_g11 2 (by decide) zn_526 rfl zd_Truths_ofRound_12 ?_
  refine z_get (v := .int (I 21)) hx hb hts hown hK hw zZ1 9 wX_g9 7 (by decide) zn_527 rfl zd_Truths_ofRound_15 ?_
  refine lv_icmp_ge (tgt := 57) hx hb zd_Truths_ofRound_18 (by decide) (fun hc1 => ?_) (fun hc1 => ?_)
  · have hok := hok.1 hc1
    refine lv_aload_n hx hb zd_Truths_ofRound_57 rfl (lv_at hl 0 rfl) ?_
    refine lv_aload_n hx hb zd_Truths_ofRound_58 rfl (lv_at hl 1 rfl) ?_
    refine lv_iload_n hx hb zd_Truths_ofRound_59 rfl (lv_at hl 3 rfl) ?_
    refine lv_iconst (v := 0) hx hb zd_Truths_ofRound_60 (by decide) ?_
    refine lv_iload hx hb zd_Truths_ofRound_61 (lv_at hl 4 rfl) ?_
    refine z_calli (w1 := fun (u : zS) => wX ad K sv u.1 u.2.1 u.2.2.1 u.2.2.2) (wr := []) (z_runV (q0 := 11) (wc := (wX ad K sv I J B D)) (As := [.ref (ad 12), .int x3, .int 0, .int x4]) (rest := []) ⟨hx, hb, hml, hown, hts⟩ (w_Truths_backTo_ad12 l G K ad sv I J B D x3 0 x4 _ H.size hok) zf_Truths_backTo zn_581 ⟨Nat.le_of_ble_eq_true rfl, Nat.le_of_ble_eq_true rfl⟩ hK hw (List.range 65) wX_all wX_nd wX_g11 rfl rfl hl.1 rfl (Nat.le_of_ble_eq_true rfl) zd_Truths_ofRound_63 ⟨Nat.le_of_ble_eq_true rfl, Nat.le_of_ble_eq_true rfl⟩) hw hA (List.range 65) [] wX_all rfl (by decide) (fun i hi => by cases hi) (fun r2 u H locs hok hw => ?_)
    obtain ⟨I2, J2, B2, D2⟩ := u
    dsimp only at hok
    have hw : zW G A s.heap (wX ad K sv I2 J2 B2 D2) H locs := hw
    refine lv_istore hx hb zd_Truths_ofRound_66 hl (by decide) rfl (fun ls hl => ?_)
    have hl : lv_has ls 7 [(4, .int r2), (0, .ref (ad 11)), (1, .ref (ad 12)), (2, .int x2), (3, .int x3), (5, .int x5)] := hl
    refine lv_aload_n hx hb zd_Truths_ofRound_68 rfl (lv_at hl 1 rfl) ?_
    refine z_get (v := .ref (ad 64)) hx hb hts hown hK hw zZ11 11 wX_g11 6 (by decide) zn_284 rfl zd_Truths_ofRound_69 ?_
    refine lv_aload_n hx hb zd_Truths_ofRound_72 rfl (lv_at hl 2 rfl) ?_
    refine lv_iconst (v := 0) hx hb zd_Truths_ofRound_73 (by decide) ?_
    refine va_iald (f := (B2 0)) hx hb hK hw.1 12 0 wX_a12 rfl hok.1 zd_Truths_ofRound_74 ?_
    have hok := hok.2
    refine lv_topi (fun z3 ez3 => ?_)
    have hok := hok z3 ez3
    refine lv_bipush (v := 8) hx hb zd_Truths_ofRound_75 (by decide) ?_
    refine lv_imul hx hb zd_Truths_ofRound_77 ?_
    refine lv_topi (fun z4 ez4 => ?_)
    have hok := hok z4 ez4
    refine lv_iload hx hb zd_Truths_ofRound_78 (lv_at hl 0 rfl) ?_
    refine lv_iadd hx hb zd_Truths_ofRound_80 ?_
    refine lv_topi (fun z5 ez5 => ?_)
    have hok := hok z5 ez5
    refine va_zald (f := (B2 49)) hx hb hK hw.1 64 2 wX_a64 rfl hok.1 zd_Truths_ofRound_81 ?_
    have hok := hok.2
    refine lv_topi (fun z6 ez6 => ?_)
    have hok := hok z6 ez6
    have hbo := hok.1
    have hok := hok.2
    exact (z_iret (u := (I2, J2, B2, D2)) hx hb hr hlocks (z_nar hbo) hw (List.range 65) wX_all wX_nd hok (Nat.le_of_ble_eq_true rfl) (Nat.le_of_ble_eq_true rfl) zd_Truths_ofRound_82)
  · have hok := hok.2 hc1
    refine lv_iconst (v := (-1)) hx hb zd_Truths_ofRound_21 (by decide) ?_
    refine lv_iload hx hb zd_Truths_ofRound_22 (lv_at hl 5 rfl) ?_
    refine lv_ishl hx hb zd_Truths_ofRound_24 ?_
    refine lv_topi (fun z7 ez7 => ?_)
    have hok := hok z7 ez7
    refine lv_istore hx hb zd_Truths_ofRound_25 hl (by decide) rfl (fun ls hl => ?_)
    have hl : lv_has ls 7 [(6, .int z7), (0, .ref (ad 11)), (1, .ref (ad 12)), (2, .int x2), (3, .int x3), (4, .int x4), (5, .int x5)] := hl
    refine lv_aload_n hx hb zd_Truths_ofRound_27 rfl (lv_at hl 1 rfl) ?_
    refine lv_aload_n hx hb zd_Truths_ofRound_28 rfl (lv_at hl 2 rfl) ?_
    refine lv_iload_n hx hb zd_Truths_ofRound_29 rfl (lv_at hl 3 rfl) ?_
    refine lv_iload_n hx hb zd_Truths_ofRound_30 rfl (lv_at hl 4 rfl) ?_
    refine lv_iload hx hb zd_Truths_ofRound_31 (lv_at hl 5 rfl) ?_
    refine lv_iload hx hb zd_Truths_ofRound_33 (lv_at hl 0 rfl) ?_
    refine lv_iconst (v := (-1)) hx hb zd_Truths_ofRound_35 (by decide) ?_
    refine lv_ixor hx hb zd_Truths_ofRound_36 ?_
    refine lv_topi (fun z8 ez8 => ?_)
    have hok := hok z8 ez8
    refine lv_iand hx hb zd_Truths_ofRound_37 ?_
    refine lv_topi (fun z9 ez9 => ?_)
    have hok := hok z9 ez9
    refine lv_aload_n hx hb zd_Truths_ofRound_38 rfl (lv_at hl 1 rfl) ?_
    refine z_get (v := .int (I 31)) hx hb hts hown hK hw zZ11 11 wX_g11 8 (by decide) zn_530 rfl zd_Truths_ofRound_39 ?_
    refine lv_iload hx hb zd_Truths_ofRound_42 (lv_at hl 0 rfl) ?_
    refine lv_iand hx hb zd_Truths_ofRound_44 ?_
    refine lv_topi (fun z10 ez10 => ?_)
    have hok := hok z10 ez10
    refine lv_ior hx hb zd_Truths_ofRound_45 ?_
    refine lv_topi (fun z11 ez11 => ?_)
    have hok := hok z11 ez11
    refine z_calli (w1 := fun (u : zS) => wX ad K sv u.1 u.2.1 u.2.2.1 u.2.2.2) (wr := []) (z_runV (q0 := 11) (wc := (wX ad K sv I J B D)) (As := [.ref (ad 12), .int x2, .int x3, .int z11]) (rest := []) ⟨hx, hb, hml, hown, hts⟩ (w_Truths_backTo_ad12 l G K ad sv I J B D x2 x3 z11 _ H.size hok) zf_Truths_backTo zn_581 ⟨Nat.le_of_ble_eq_true rfl, Nat.le_of_ble_eq_true rfl⟩ hK hw (List.range 65) wX_all wX_nd wX_g11 rfl rfl hl.1 rfl (Nat.le_of_ble_eq_true rfl) zd_Truths_ofRound_46 ⟨Nat.le_of_ble_eq_true rfl, Nat.le_of_ble_eq_true rfl⟩) hw hA (List.range 65) [] wX_all rfl (by decide) (fun i hi => by cases hi) (fun r12 u H locs hok hw => ?_)
    obtain ⟨I12, J12, B12, D12⟩ := u
    dsimp only at hok
    have hw : zW G A s.heap (wX ad K sv I12 J12 B12 D12) H locs := hw
    refine lv_istore hx hb zd_Truths_ofRound_49 hl (by decide) rfl (fun ls hl => ?_)
    have hl : lv_has ls 7 [(4, .int r12), (6, .int z7), (0, .ref (ad 11)), (1, .ref (ad 12)), (2, .int x2), (3, .int x3), (5, .int x5)] := hl
    obtain ⟨z13, ez13⟩ : ∃ z : Int32, z = (x5 + 1) := ⟨_, rfl⟩
    have hok := hok z13 ez13
    refine lv_iinc (v := z13) hx hb zd_Truths_ofRound_51 hl (k := 6) rfl ez13.symm (by decide) rfl (fun ls hl => ?_)
    have hl : lv_has ls 7 [(5, .int z13), (4, .int r12), (6, .int z7), (0, .ref (ad 11)), (1, .ref (ad 12)), (2, .int x2), (3, .int x3)] := hl
    refine lv_goto (tgt := 9) hx hb zd_Truths_ofRound_54 (by decide) ?_
    exact kh9 x2 x3 r12 z13 I12 J12 B12 D12 ls H locs hok (lv_sub hl [3, 4, 5, 6, 1, 0] rfl) hw
theorem wL_Truths_ofRound_ad12_9 {p : Program} {l : Launch} {e : Env} {s : State} {m : MethodId} {below : List Frame} {meth : Method} {c : Code} {A : Nat → Prop} (G : va_G) (K : Nat → ClassId) (ad : Nat → Nat) (sv : Value) (a1 : Int32) (a2 : Int32) (Post : Int32 → (Nat → Int32) → (Nat → Int64) → (Nat → Nat → Int32) → (Nat → Nat → Int64) → Prop) (C : zCx p s m ([.ref (ad 11), .ref (ad 12), .int a1, .int a2] : List Value).toArray meth c A G K prog_12_method_10_code (some .boolean) 7 "LassoFinder$Truths") : ∀ (n : Nat) (x2 : Int32) (x3 : Int32) (x4 : Int32) (x5 : Int32) (I : Nat → Int32) (J : Nat → Int64) (B : Nat → Nat → Int32) (D : Nat → Nat → Int64) (ls : Array Slot) (H : Heap) (locs : List Loc), wl_Truths_ofRound_ad12_9 a1 a2 Post n x2 x3 x4 x5 I J B D → lv_has ls 7 [(0, .ref (ad 11)), (1, .ref (ad 12)), (2, .int x2), (3, .int x3), (4, .int x4), (5, .int x5)] → zW G A s.heap (wX ad K sv I J B D) H locs → W p l e { frames := 1, cells := 0, slots := 0, locals := 26 } s m ([.ref (ad 11), .ref (ad 12), .int a1, .int a2] : List Value).toArray below meth c H locs 0 0 (MQ below (va_Qi (fun (r : Int32) (u : zS) => Post r u.1 u.2.1 u.2.2.1 u.2.2.2) (fun u t => zPost G K A (wX ad K sv u.1 u.2.1 u.2.2.1 u.2.2.2) t) A) ([.ref (ad 11), .ref (ad 12), .int a1, .int a2] : List Value).toArray s 0 0 A) (F0 m 9 ls []) := by
  intro n
  induction n with
  | zero => intro x2 x3 x4 x5 I J B D ls H locs hok; exact hok.elim
  | succ n ih => exact wB_Truths_ofRound_ad12_9 G K ad sv a1 a2 Post C (wl_Truths_ofRound_ad12_9 a1 a2 Post n) ih
set_option maxHeartbeats 8000000 in
set_option maxRecDepth 100000 in
theorem w_Truths_ofRound_ad12 (l : Launch) (G : va_G) (K : Nat → ClassId) (ad : Nat → Nat) (sv : Value) (I : Nat → Int32) (J : Nat → Int64) (B : Nat → Nat → Int32) (D : Nat → Nat → Int64) (a1 : Int32) (a2 : Int32) (Post : Int32 → (Nat → Int32) → (Nat → Int64) → (Nat → Nat → Int32) → (Nat → Nat → Int64) → Prop) (sz : Nat) (hok : wp_Truths_ofRound_ad12 I J B D a1 a2 Post) : Met l zy_Truths_ofRound (Cond.code zy_Truths_ofRound prog_12_method_10_code 7 (some .boolean) :: zTB) { frames := 1, cells := 0, slots := 0, locals := 26 } (va_Pc [.ref (ad 11), .ref (ad 12), .int a1, .int a2] (zPre G K (wX ad K sv I J B D) sz)) (va_Qi (fun (r : Int32) (u : zS) => Post r u.1 u.2.1 u.2.2.1 u.2.2.2) (fun u t => zPost G K (va_A (wX ad K sv I J B D) sz) (wX ad K sv u.1 u.2.1 u.2.2.1 u.2.2.2) t) (va_A (wX ad K sv I J B D) sz)) 0 0 (va_A (wX ad K sv I J B D) sz) := by
  refine zMet (y := zy_Truths_ofRound) (av := [.ref (ad 11), .ref (ad 12), .int a1, .int a2]) (maxL := 7) (cc := prog_12_method_10_code) (ret := (some .boolean)) (W0 := (wX ad K sv I J B D)) (sz := sz) (G := G) (K := K) (wt := zTB) (mc := 0) (ms := 0) (Qf := fun A => va_Qi (fun (r : Int32) (u : zS) => Post r u.1 u.2.1 u.2.2.1 u.2.2.2) (fun u t => zPost G K A (wX ad K sv u.1 u.2.1 u.2.2.1 u.2.2.2) t) A) (by decide) (Nat.le_of_ble_eq_true rfl) ?_
  intro p e s m below meth c ls A hx hb hr hml hts hown hlocks hin hA hK H locs hw hsz hl
  clear hsz
  have hown : s.vm.findClass "LassoFinder$Truths" = some m.cls := hown
  have C : zCx p s m ([.ref (ad 11), .ref (ad 12), .int a1, .int a2] : List Value).toArray meth c A G K prog_12_method_10_code (some .boolean) 7 "LassoFinder$Truths" := ⟨hx, hb, hr, hml, hts, hown, hlocks, hA, hK⟩
  have hl : lv_has ls 7 [(0, .ref (ad 11)), (1, .ref (ad 12)), (2, .int a1), (3, .int a2)] := hl
  have hw : zW G A s.heap (wX ad K sv I J B D) H locs := hw
  unfold wp_Truths_ofRound_ad12 at hok
  refine lv_aload_n hx hb zd_Truths_ofRound_0 rfl (lv_at hl 0 rfl) ?_
  refine z_get (v := .int (I 31)) hx hb hts hown hK hw zZ11 11 wX_g11 8 (by decide) zn_530 rfl zd_Truths_ofRound_1 ?_
  refine lv_istore hx hb zd_Truths_ofRound_4 hl (by decide) rfl (fun ls hl => ?_)
  have hl : lv_has ls 7 [(4, .int (I 31)), (0, .ref (ad 11)), (1, .ref (ad 12)), (2, .int a1), (3, .int a2)] := hl
  refine lv_iconst (v := 0) hx hb zd_Truths_ofRound_6 (by decide) ?_
  refine lv_istore hx hb zd_Truths_ofRound_7 hl (by decide) rfl (fun ls hl => ?_)
  have hl : lv_has ls 7 [(5, .int 0), (4, .int (I 31)), (0, .ref (ad 11)), (1, .ref (ad 12)), (2, .int a1), (3, .int a2)] := hl
  obtain ⟨n9, hok⟩ := hok
  exact wL_Truths_ofRound_ad12_9 G K ad sv a1 a2 Post C n9 a1 a2 (I 31) 0 I J B D ls H locs hok (lv_sub hl [2, 3, 4, 5, 1, 0] rfl) hw
def wc_LassoFinder_truth_15 (a0 : Int32) (Post : Int32 → (Nat → Int32) → (Nat → Int64) → (Nat → Nat → Int32) → (Nat → Nat → Int64) → Prop) (PX : String → (Nat → Int32) → (Nat → Int64) → (Nat → Nat → Int32) → (Nat → Nat → Int64) → Prop)  (I : Nat → Int32) (J : Nat → Int64) (B : Nat → Nat → Int32) (D : Nat → Nat → Int64) : Prop :=
  PX "java/lang/IllegalStateException" I J B D
def wc_LassoFinder_truth_53 (a0 : Int32) (Post : Int32 → (Nat → Int32) → (Nat → Int64) → (Nat → Nat → Int32) → (Nat → Nat → Int64) → Prop) (PX : String → (Nat → Int32) → (Nat → Int64) → (Nat → Nat → Int32) → (Nat → Nat → Int64) → Prop)  (I : Nat → Int32) (J : Nat → Int64) (B : Nat → Nat → Int32) (D : Nat → Nat → Int64) : Prop :=
  PX "java/lang/IllegalArgumentException" I J B D
def wp_LassoFinder_truth (I : Nat → Int32) (J : Nat → Int64) (B : Nat → Nat → Int32) (D : Nat → Nat → Int64) (a0 : Int32) (Post : Int32 → (Nat → Int32) → (Nat → Int64) → (Nat → Nat → Int32) → (Nat → Nat → Int64) → Prop) (PX : String → (Nat → Int32) → (Nat → Int64) → (Nat → Nat → Int32) → (Nat → Nat → Int64) → Prop) : Prop :=
  (((I 0) = (-1) → wc_LassoFinder_truth_15 a0 Post PX I J B D) ∧ (¬ (I 0) = (-1) → ((¬ (I 2) = 0 → ((a0 < 0 → wc_LassoFinder_truth_53 a0 Post PX I J B D) ∧ (¬ a0 < 0 → (((I 0) ≤ a0 → wc_LassoFinder_truth_53 a0 Post PX I J B D) ∧ (¬ (I 0) ≤ a0 → vp_in a0 61 ∧ ∀ z5 : Int32, z5 = ((B 0) a0.toNatClampNeg) → vp_in (I 0) 61 ∧ ∀ z6 : Int32, z6 = ((B 0) (I 0).toNatClampNeg) → ((z5 = z6 → wp_Truths_ofRound_ad12 I J B D (I 0) a0 (fun r8 I8 J8 B8 D8 => (r8 = 0 ∨ r8 = 1) ∧ Post r8 I8 J8 B8 D8)) ∧ (¬ z5 = z6 → wc_LassoFinder_truth_53 a0 Post PX I J B D))))))) ∧ ((I 2) = 0 → wc_LassoFinder_truth_15 a0 Post PX I J B D))))
set_option maxHeartbeats 8000000 in
set_option maxRecDepth 100000 in
theorem wJ_LassoFinder_truth_15 {p : Program} {l : Launch} {e : Env} {s : State} {m : MethodId} {below : List Frame} {meth : Method} {c : Code} {A : Nat → Prop} (G : va_G) (K : Nat → ClassId) (ad : Nat → Nat) (sv : Value) (a0 : Int32) (Post : Int32 → (Nat → Int32) → (Nat → Int64) → (Nat → Nat → Int32) → (Nat → Nat → Int64) → Prop) (PX : String → (Nat → Int32) → (Nat → Int64) → (Nat → Nat → Int32) → (Nat → Nat → Int64) → Prop) (C : zCy p l s m ([.ref (ad 0), .int a0] : List Value).toArray meth c A G K prog_1_method_17_code (some .boolean) 2 "LassoFinder") : ∀  (I : Nat → Int32) (J : Nat → Int64) (B : Nat → Nat → Int32) (D : Nat → Nat → Int64) (ls : Array Slot) (H : Heap) (locs : List Loc), wc_LassoFinder_truth_15 a0 Post PX  I J B D → lv_has ls 2 [] → zW G A s.heap (wX ad K sv I J B D) H locs → W p l e { frames := 6, cells := 1, slots := 6, locals := 81 } s m ([.ref (ad 0), .int a0] : List Value).toArray below meth c H locs 0 0 (zyMQ below (va_Qi (fun (r : Int32) (u : zS) => Post r u.1 u.2.1 u.2.2.1 u.2.2.2) (fun u t => zPost G K A (wX ad K sv u.1 u.2.1 u.2.2.1 u.2.2.2) t) A) (zYC (fun E (u : zS) => PX E u.1 u.2.1 u.2.2.1 u.2.2.2) (fun u => wX ad K sv u.1 u.2.1 u.2.2.1 u.2.2.2) G K A) ([.ref (ad 0), .int a0] : List Value).toArray s 1 6 A) (F0 m 15 ls []) := by
  obtain ⟨hx, hb, hr, hml, hts, hown, hlocks, hA, hK, hT, hnt, hlt⟩ := id C
  intro  I J B D ls H locs hok hl hw
  unfold wc_LassoFinder_truth_15 at hok
  exact z_ythrow (u := (I, J, B, D)) (names := ["java/lang/RuntimeException", "java/lang/Exception"]) hx hb hlt hts hown hnt hlocks hT (by rw [hml]; exact hl.1) (by decide +kernel) (by decide +kernel) zn_567 zn_568 zn_569 zx_1 hw (List.range 65) wX_all wX_nd hok zd_LassoFinder_truth_15 zd_LassoFinder_truth_18 zd_LassoFinder_truth_19 zd_LassoFinder_truth_22 (Nat.le_of_ble_eq_true rfl) (Nat.le_of_ble_eq_true rfl) (Nat.le_of_ble_eq_true rfl) (Nat.le_of_ble_eq_true rfl) (Nat.le_of_ble_eq_true rfl) (Nat.le_of_ble_eq_true rfl)
set_option maxHeartbeats 8000000 in
set_option maxRecDepth 100000 in
theorem wJ_LassoFinder_truth_53 {p : Program} {l : Launch} {e : Env} {s : State} {m : MethodId} {below : List Frame} {meth : Method} {c : Code} {A : Nat → Prop} (G : va_G) (K : Nat → ClassId) (ad : Nat → Nat) (sv : Value) (a0 : Int32) (Post : Int32 → (Nat → Int32) → (Nat → Int64) → (Nat → Nat → Int32) → (Nat → Nat → Int64) → Prop) (PX : String → (Nat → Int32) → (Nat → Int64) → (Nat → Nat → Int32) → (Nat → Nat → Int64) → Prop) (C : zCy p l s m ([.ref (ad 0), .int a0] : List Value).toArray meth c A G K prog_1_method_17_code (some .boolean) 2 "LassoFinder") : ∀  (I : Nat → Int32) (J : Nat → Int64) (B : Nat → Nat → Int32) (D : Nat → Nat → Int64) (ls : Array Slot) (H : Heap) (locs : List Loc), wc_LassoFinder_truth_53 a0 Post PX  I J B D → lv_has ls 2 [] → zW G A s.heap (wX ad K sv I J B D) H locs → W p l e { frames := 6, cells := 1, slots := 6, locals := 81 } s m ([.ref (ad 0), .int a0] : List Value).toArray below meth c H locs 0 0 (zyMQ below (va_Qi (fun (r : Int32) (u : zS) => Post r u.1 u.2.1 u.2.2.1 u.2.2.2) (fun u t => zPost G K A (wX ad K sv u.1 u.2.1 u.2.2.1 u.2.2.2) t) A) (zYC (fun E (u : zS) => PX E u.1 u.2.1 u.2.2.1 u.2.2.2) (fun u => wX ad K sv u.1 u.2.1 u.2.2.1 u.2.2.2) G K A) ([.ref (ad 0), .int a0] : List Value).toArray s 1 6 A) (F0 m 53 ls []) := by
  obtain ⟨hx, hb, hr, hml, hts, hown, hlocks, hA, hK, hT, hnt, hlt⟩ := id C
  intro  I J B D ls H locs hok hl hw
  unfold wc_LassoFinder_truth_53 at hok
  exact z_ythrow (u := (I, J, B, D)) (names := ["java/lang/RuntimeException", "java/lang/Exception"]) hx hb hlt hts hown hnt hlocks hT (by rw [hml]; exact hl.1) (by decide +kernel) (by decide +kernel) zn_582 zn_430 zn_431 zx_4 hw (List.range 65) wX_all wX_nd hok zd_LassoFinder_truth_53 zd_LassoFinder_truth_56 zd_LassoFinder_truth_57 zd_LassoFinder_truth_60 (Nat.le_of_ble_eq_true rfl) (Nat.le_of_ble_eq_true rfl) (Nat.le_of_ble_eq_true rfl) (Nat.le_of_ble_eq_true rfl) (Nat.le_of_ble_eq_true rfl) (Nat.le_of_ble_eq_true rfl)
set_option maxHeartbeats 8000000 in
set_option maxRecDepth 100000 in
theorem w_LassoFinder_truth (l : Launch) (hlt : l.stackTraces = false) (G : va_G) (K : Nat → ClassId) (ad : Nat → Nat) (sv : Value) (I : Nat → Int32) (J : Nat → Int64) (B : Nat → Nat → Int32) (D : Nat → Nat → Int64) (a0 : Int32) (Post : Int32 → (Nat → Int32) → (Nat → Int64) → (Nat → Nat → Int32) → (Nat → Nat → Int64) → Prop) (PX : String → (Nat → Int32) → (Nat → Int64) → (Nat → Nat → Int32) → (Nat → Nat → Int64) → Prop) (sz : Nat) (hok : wp_LassoFinder_truth I J B D a0 Post PX) : zyMet l zy_LassoFinder_truth (Cond.code zy_LassoFinder_truth prog_1_method_17_code 2 (some .boolean) :: zTB) { frames := 6, cells := 1, slots := 6, locals := 81 } (va_Pc [.ref (ad 0), .int a0] (zPreY G K (wX ad K sv I J B D) sz)) (va_Qi (fun (r : Int32) (u : zS) => Post r u.1 u.2.1 u.2.2.1 u.2.2.2) (fun u t => zPost G K (va_A (wX ad K sv I J B D) sz) (wX ad K sv u.1 u.2.1 u.2.2.1 u.2.2.2) t) (va_A (wX ad K sv I J B D) sz)) (zYC (fun E (u : zS) => PX E u.1 u.2.1 u.2.2.1 u.2.2.2) (fun u => wX ad K sv u.1 u.2.1 u.2.2.1 u.2.2.2) G K (va_A (wX ad K sv I J B D) sz)) 1 6 (va_A (wX ad K sv I J B D) sz) := by
  refine zMetY (y := zy_LassoFinder_truth) (av := [.ref (ad 0), .int a0]) (maxL := 2) (cc := prog_1_method_17_code) (ret := (some .boolean)) (W0 := (wX ad K sv I J B D)) (sz := sz) (G := G) (K := K) (wt := zTB) (mc := 1) (ms := 6) (Qf := fun A => va_Qi (fun (r : Int32) (u : zS) => Post r u.1 u.2.1 u.2.2.1 u.2.2.2) (fun u t => zPost G K A (wX ad K sv u.1 u.2.1 u.2.2.1 u.2.2.2) t) A) (Xf := fun A => (zYC (fun E (u : zS) => PX E u.1 u.2.1 u.2.2.1 u.2.2.2) (fun u => wX ad K sv u.1 u.2.1 u.2.2.1 u.2.2.2) G K A)) (by decide) (Nat.le_of_ble_eq_true rfl) ?_
  intro p e s m below meth c ls A hx hb hr hml hts hown hlocks hin hA hK H locs hw hsz hl hT hnt
  clear hsz
  have hown : s.vm.findClass "LassoFinder" = some m.cls := hown
  have C : zCy p l s m ([.ref (ad 0), .int a0] : List Value).toArray meth c A G K prog_1_method_17_code (some .boolean) 2 "LassoFinder" := ⟨hx, hb, hr, hml, hts, hown, hlocks, hA, hK, hT, hnt, hlt⟩
  have hl : lv_has ls 2 [(0, .ref (ad 0)), (1, .int a0)] := hl
  have hw : zW G A s.heap (wX ad K sv I J B D) H locs := hw
  unfold wp_LassoFinder_truth at hok
  refine lv_aload_n hx hb zd_LassoFinder_truth_0 rfl (lv_at hl 0 rfl) ?_
  refine z_get (v := .int (I 0)) hx hb hts hown hK hw zZ0 0 wX_g0 10 (by decide) zn_297 rfl zd_LassoFinder_truth_1 ?_
  refine lv_iconst (v := (-1)) hx hb zd_LassoFinder_truth_4 (by decide) ?_
  refine lv_icmp_eq (tgt := 15) hx hb zd_LassoFinder_truth_5 (by decide) (fun hc1 => ?_) (fun hc1 => ?_)
  · have hok := hok.1 hc1
    exact wJ_LassoFinder_truth_15 G K ad sv a0 Post PX C I J B D ls H locs hok (lv_sub hl [] rfl) hw
  · have hok := hok.2 hc1
    refine lv_aload_n hx hb zd_LassoFinder_truth_8 rfl (lv_at hl 0 rfl) ?_
    refine z_get (v := .int (I 2)) hx hb hts hown hK hw zZ0 0 wX_g0 12 (by decide) zn_415 rfl zd_LassoFinder_truth_9 ?_
    refine lv_if_ne (tgt := 23) hx hb zd_LassoFinder_truth_12 (by decide) (fun hc2 => ?_) (fun hc2 => ?_)
    · have hok := hok.1 hc2
      refine lv_iload_n hx hb zd_LassoFinder_truth_23 rfl (lv_at hl 1 rfl) ?_
      refine lv_if_lt (tgt := 53) hx hb zd_LassoFinder_truth_24 (by decide) (fun hc3 => ?_) (fun hc3 => ?_)
      · have hok := hok.1 hc3
        exact wJ_LassoFinder_truth_53 G K ad sv a0 Post PX C I J B D ls H locs hok (lv_sub hl [] rfl) hw
      · have hok := hok.2 hc3
        refine lv_iload_n hx hb zd_LassoFinder_truth_27 rfl (lv_at hl 1 rfl) ?_
        refine lv_aload_n hx hb zd_LassoFinder_truth_28 rfl (lv_at hl 0 rfl) ?_
        refine z_get (v := .int (I 0)) hx hb hts hown hK hw zZ0 0 wX_g0 10 (by decide) zn_297 rfl zd_LassoFinder_truth_29 ?_
        refine lv_icmp_ge (tgt := 53) hx hb zd_LassoFinder_truth_32 (by decide) (fun hc4 => ?_) (fun hc4 => ?_)
        · have hok := hok.1 hc4
          exact wJ_LassoFinder_truth_53 G K ad sv a0 Post PX C I J B D ls H locs hok (lv_sub hl [] rfl) hw
        · have hok := hok.2 hc4
          refine lv_aload_n hx hb zd_LassoFinder_truth_35 rfl (lv_at hl 0 rfl) ?_
          refine z_get (v := .ref (ad 12)) hx hb hts hown hK hw zZ0 0 wX_g0 9 (by decide) zn_235 rfl zd_LassoFinder_truth_36 ?_
          refine lv_iload_n hx hb zd_LassoFinder_truth_39 rfl (lv_at hl 1 rfl) ?_
          refine va_iald (f := (B 0)) hx hb hK hw.1 12 0 wX_a12 rfl hok.1 zd_LassoFinder_truth_40 ?_
          have hok := hok.2
          refine lv_topi (fun z5 ez5 => ?_)
          have hok := hok z5 ez5
          refine lv_aload_n hx hb zd_LassoFinder_truth_41 rfl (lv_at hl 0 rfl) ?_
          refine z_get (v := .ref (ad 12)) hx hb hts hown hK hw zZ0 0 wX_g0 9 (by decide) zn_235 rfl zd_LassoFinder_truth_42 ?_
          refine lv_aload_n hx hb zd_LassoFinder_truth_45 rfl (lv_at hl 0 rfl) ?_
          refine z_get (v := .int (I 0)) hx hb hts hown hK hw zZ0 0 wX_g0 10 (by decide) zn_297 rfl zd_LassoFinder_truth_46 ?_
          refine va_iald (f := (B 0)) hx hb hK hw.1 12 0 wX_a12 rfl hok.1 zd_LassoFinder_truth_49 ?_
          have hok := hok.2
          refine lv_topi (fun z6 ez6 => ?_)
          have hok := hok z6 ez6
          refine lv_icmp_eq (tgt := 61) hx hb zd_LassoFinder_truth_50 (by decide) (fun hc7 => ?_) (fun hc7 => ?_)
          · have hok := hok.1 hc7
            refine lv_aload_n hx hb zd_LassoFinder_truth_61 rfl (lv_at hl 0 rfl) ?_
            refine z_get (v := .ref (ad 11)) hx hb hts hown hK hw zZ0 0 wX_g0 7 (by decide) zn_515 rfl zd_LassoFinder_truth_62 ?_
            refine lv_aload_n hx hb zd_LassoFinder_truth_65 rfl (lv_at hl 0 rfl) ?_
            refine z_get (v := .ref (ad 12)) hx hb hts hown hK hw zZ0 0 wX_g0 9 (by decide) zn_235 rfl zd_LassoFinder_truth_66 ?_
            refine lv_aload_n hx hb zd_LassoFinder_truth_69 rfl (lv_at hl 0 rfl) ?_
            refine z_get (v := .int (I 0)) hx hb hts hown hK hw zZ0 0 wX_g0 10 (by decide) zn_297 rfl zd_LassoFinder_truth_70 ?_
            refine lv_iload_n hx hb zd_LassoFinder_truth_73 rfl (lv_at hl 1 rfl) ?_
            refine z_calli (w1 := fun (u : zS) => wX ad K sv u.1 u.2.1 u.2.2.1 u.2.2.2) (wr := []) (z_runV (q0 := 11) (wc := (wX ad K sv I J B D)) (As := [.ref (ad 12), .int (I 0), .int a0]) (rest := []) ⟨hx, hb, hml, hown, hts⟩ (w_Truths_ofRound_ad12 l G K ad sv I J B D (I 0) a0 _ H.size hok) zf_Truths_ofRound zn_580 ⟨Nat.le_of_ble_eq_true rfl, Nat.le_of_ble_eq_true rfl⟩ hK hw (List.range 65) wX_all wX_nd wX_g11 rfl rfl hl.1 rfl (Nat.le_of_ble_eq_true rfl) zd_LassoFinder_truth_74 ⟨Nat.le_of_ble_eq_true rfl, Nat.le_of_ble_eq_true rfl⟩) hw hA (List.range 65) [] wX_all rfl (by decide) (fun i hi => by cases hi) (fun r8 u H locs hok hw => ?_)
            obtain ⟨I8, J8, B8, D8⟩ := u
            dsimp only at hok
            have hw : zW G A s.heap (wX ad K sv I8 J8 B8 D8) H locs := hw
            have hbo := hok.1
            have hok := hok.2
            exact zy_ret (z_iret (u := (I8, J8, B8, D8)) hx hb hr hlocks (z_nar hbo) hw (List.range 65) wX_all wX_nd hok (Nat.le_of_ble_eq_true rfl) (Nat.le_of_ble_eq_true rfl) zd_LassoFinder_truth_77)
          · have hok := hok.2 hc7
            exact wJ_LassoFinder_truth_53 G K ad sv a0 Post PX C I J B D ls H locs hok (lv_sub hl [] rfl) hw
    · have hok := hok.2 hc2
      exact wJ_LassoFinder_truth_15 G K ad sv a0 Post PX C I J B D ls H locs hok (lv_sub hl [] rfl) hw
abbrev zTgm0 : Type := (Nat → Int32) → (Nat → Int64) → (Nat → Nat → Int32) → (Nat → Nat → Int64) → Int32 → Int32 → ((Nat → Int32) → (Nat → Int64) → (Nat → Nat → Int32) → (Nat → Nat → Int64) → Prop) → (String → (Nat → Int32) → (Nat → Int64) → (Nat → Nat → Int32) → (Nat → Nat → Int64) → Prop) → Prop
abbrev zTgm1 : Type := (Nat → Int32) → (Nat → Int64) → (Nat → Nat → Int32) → (Nat → Nat → Int64) → Int32 → Int32 → Int32 → (Int32 → (Nat → Int32) → (Nat → Int64) → (Nat → Nat → Int32) → (Nat → Nat → Int64) → Prop) → (String → (Nat → Int32) → (Nat → Int64) → (Nat → Nat → Int32) → (Nat → Nat → Int64) → Prop) → Prop
abbrev zTgm2 : Type := (Nat → Int32) → (Nat → Int64) → (Nat → Nat → Int32) → (Nat → Nat → Int64) → Int32 → Int32 → Int32 → (Int32 → (Nat → Int32) → (Nat → Int64) → (Nat → Nat → Int32) → (Nat → Nat → Int64) → Prop) → (String → (Nat → Int32) → (Nat → Int64) → (Nat → Nat → Int32) → (Nat → Nat → Int64) → Prop) → Prop
abbrev zTgm3 : Type := (Nat → Int32) → (Nat → Int64) → (Nat → Nat → Int32) → (Nat → Nat → Int64) → Int32 → Int32 → Int32 → (Int32 → (Nat → Int32) → (Nat → Int64) → (Nat → Nat → Int32) → (Nat → Nat → Int64) → Prop) → (String → (Nat → Int32) → (Nat → Int64) → (Nat → Nat → Int32) → (Nat → Nat → Int64) → Prop) → Prop
def zIH_gm (l : Launch) (G : va_G) (K : Nat → ClassId) (ad : Nat → Nat) (sv : Value) (n8 : Nat) (P0 : zTgm0) (P1 : zTgm1) (P2 : zTgm2) (P3 : zTgm3) : Prop := (∀ (I : Nat → Int32) (J : Nat → Int64) (B : Nat → Nat → Int32) (D : Nat → Nat → Int64) (a0 : Int32) (a1 : Int32) (Post : (Nat → Int32) → (Nat → Int64) → (Nat → Nat → Int32) → (Nat → Nat → Int64) → Prop) (PX : String → (Nat → Int32) → (Nat → Int64) → (Nat → Nat → Int32) → (Nat → Nat → Int64) → Prop) (sz : Nat), P0 I J B D a0 a1 Post PX → zyMet l zy_ModelReader_readBody (Cond.code zy_ModelReader_readBody prog_5_method_6_code 5 none :: zTB) { frames := n8 + 10, cells := 1, slots := 6, locals := (n8) * 26 + 169 } (va_Pc [.ref (ad 5), .int a0, .int a1] (zPreY G K (wX ad K sv I J B D) sz)) (va_Qv (fun u : zS => Post u.1 u.2.1 u.2.2.1 u.2.2.2) (fun u t => zPost G K (va_A (wX ad K sv I J B D) sz) (wX ad K sv u.1 u.2.1 u.2.2.1 u.2.2.2) t) (va_A (wX ad K sv I J B D) sz)) (zYC (fun E (u : zS) => PX E u.1 u.2.1 u.2.2.1 u.2.2.2) (fun u => wX ad K sv u.1 u.2.1 u.2.2.1 u.2.2.2) G K (va_A (wX ad K sv I J B D) sz)) 1 6 (va_A (wX ad K sv I J B D) sz)) ∧ (∀ (I : Nat → Int32) (J : Nat → Int64) (B : Nat → Nat → Int32) (D : Nat → Nat → Int64) (a0 : Int32) (a1 : Int32) (a2 : Int32) (Post : Int32 → (Nat → Int32) → (Nat → Int64) → (Nat → Nat → Int32) → (Nat → Nat → Int64) → Prop) (PX : String → (Nat → Int32) → (Nat → Int64) → (Nat → Nat → Int32) → (Nat → Nat → Int64) → Prop) (sz : Nat), P1 I J B D a0 a1 a2 Post PX → zyMet l zy_ModelReader_readStatement (Cond.code zy_ModelReader_readStatement prog_5_method_8_code 5 (some .int) :: zTB) { frames := n8 + 10, cells := 1, slots := 6, locals := (n8) * 26 + 169 } (va_Pc [.ref (ad 5), .int a0, .int a1, .int a2] (zPreY G K (wX ad K sv I J B D) sz)) (va_Qi (fun (r : Int32) (u : zS) => Post r u.1 u.2.1 u.2.2.1 u.2.2.2) (fun u t => zPost G K (va_A (wX ad K sv I J B D) sz) (wX ad K sv u.1 u.2.1 u.2.2.1 u.2.2.2) t) (va_A (wX ad K sv I J B D) sz)) (zYC (fun E (u : zS) => PX E u.1 u.2.1 u.2.2.1 u.2.2.2) (fun u => wX ad K sv u.1 u.2.1 u.2.2.1 u.2.2.2) G K (va_A (wX ad K sv I J B D) sz)) 1 6 (va_A (wX ad K sv I J B D) sz)) ∧ (∀ (I : Nat → Int32) (J : Nat → Int64) (B : Nat → Nat → Int32) (D : Nat → Nat → Int64) (a0 : Int32) (a1 : Int32) (a2 : Int32) (Post : Int32 → (Nat → Int32) → (Nat → Int64) → (Nat → Nat → Int32) → (Nat → Nat → Int64) → Prop) (PX : String → (Nat → Int32) → (Nat → Int64) → (Nat → Nat → Int32) → (Nat → Nat → Int64) → Prop) (sz : Nat), P2 I J B D a0 a1 a2 Post PX → zyMet l zy_ModelReader_readChoice (Cond.code zy_ModelReader_readChoice prog_5_method_9_code 7 (some .int) :: zTB) { frames := n8 + 10, cells := 1, slots := 6, locals := (n8) * 26 + 169 } (va_Pc [.ref (ad 5), .int a0, .int a1, .int a2] (zPreY G K (wX ad K sv I J B D) sz)) (va_Qi (fun (r : Int32) (u : zS) => Post r u.1 u.2.1 u.2.2.1 u.2.2.2) (fun u t => zPost G K (va_A (wX ad K sv I J B D) sz) (wX ad K sv u.1 u.2.1 u.2.2.1 u.2.2.2) t) (va_A (wX ad K sv I J B D) sz)) (zYC (fun E (u : zS) => PX E u.1 u.2.1 u.2.2.1 u.2.2.2) (fun u => wX ad K sv u.1 u.2.1 u.2.2.1 u.2.2.2) G K (va_A (wX ad K sv I J B D) sz)) 1 6 (va_A (wX ad K sv I J B D) sz)) ∧ (∀ (I : Nat → Int32) (J : Nat → Int64) (B : Nat → Nat → Int32) (D : Nat → Nat → Int64) (a0 : Int32) (a1 : Int32) (a2 : Int32) (Post : Int32 → (Nat → Int32) → (Nat → Int64) → (Nat → Nat → Int32) → (Nat → Nat → Int64) → Prop) (PX : String → (Nat → Int32) → (Nat → Int64) → (Nat → Nat → Int32) → (Nat → Nat → Int64) → Prop) (sz : Nat), P3 I J B D a0 a1 a2 Post PX → zyMet l zy_ModelReader_readAtomic (Cond.code zy_ModelReader_readAtomic prog_5_method_10_code 5 (some .int) :: zTB) { frames := n8 + 10, cells := 1, slots := 6, locals := (n8) * 26 + 169 } (va_Pc [.ref (ad 5), .int a0, .int a1, .int a2] (zPreY G K (wX ad K sv I J B D) sz)) (va_Qi (fun (r : Int32) (u : zS) => Post r u.1 u.2.1 u.2.2.1 u.2.2.2) (fun u t => zPost G K (va_A (wX ad K sv I J B D) sz) (wX ad K sv u.1 u.2.1 u.2.2.1 u.2.2.2) t) (va_A (wX ad K sv I J B D) sz)) (zYC (fun E (u : zS) => PX E u.1 u.2.1 u.2.2.1 u.2.2.2) (fun u => wX ad K sv u.1 u.2.1 u.2.2.1 u.2.2.2) G K (va_A (wX ad K sv I J B D) sz)) 1 6 (va_A (wX ad K sv I J B D) sz))
