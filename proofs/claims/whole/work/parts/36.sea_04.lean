abbrev zy_LassoFinder_verify : MethodName := ⟨"LassoFinder", "verify", "()Z"⟩
abbrev zy_LassoSearch_find : MethodName := ⟨"LassoFinder$LassoSearch", "find", "()Z"⟩
abbrev zy_LassoSearch_shortestStem : MethodName := ⟨"LassoFinder$LassoSearch", "shortestStem", "()I"⟩
abbrev zy_LassoFinder_lasso : MethodName := ⟨"LassoFinder", "lasso", "(II)I"⟩
abbrev zy_LassoSearch_stepOf : MethodName := ⟨"LassoFinder$LassoSearch", "stepOf", "(I)I"⟩
theorem zn_544 : Cond.methodLink "LassoFinder" 140 ⟨"LassoFinder$LassoSearch", "find", "()Z"⟩ ∈ zTB := z_in (zt_5 _ (List.mem_of_getElem? (i := 190) rfl)) rfl
theorem zn_546 : Cond.methodLink "LassoFinder$LassoSearch" 71 ⟨"LassoFinder$LassoSearch", "markCycles", "()V"⟩ ∈ zTB := z_in (zt_5 _ (List.mem_of_getElem? (i := 195) rfl)) rfl
theorem zn_555 : Cond.methodLink "LassoFinder$LassoSearch" 74 ⟨"LassoFinder$LassoSearch", "measureStems", "()V"⟩ ∈ zTB := z_in (zt_5 _ (List.mem_of_getElem? (i := 230) rfl)) rfl
theorem zn_556 : Cond.methodLink "LassoFinder$LassoSearch" 77 ⟨"LassoFinder$LassoSearch", "shortestStem", "()I"⟩ ∈ zTB := z_in (zt_5 _ (List.mem_of_getElem? (i := 234) rfl)) rfl
theorem zn_557 : Cond.methodLink "LassoFinder$LassoSearch" 85 ⟨"LassoFinder$LassoSearch", "followStem", "()I"⟩ ∈ zTB := z_in (zt_5 _ (List.mem_of_getElem? (i := 238) rfl)) rfl
theorem zn_559 : Cond.methodLink "LassoFinder$LassoSearch" 88 ⟨"LassoFinder$LassoSearch", "findCycle", "(I)V"⟩ ∈ zTB := z_in (zt_6 _ (List.mem_of_getElem? (i := 6) rfl)) rfl
theorem zn_566 : Cond.methodLink "LassoFinder" 155 ⟨"LassoFinder$LassoSearch", "stepOf", "(I)I"⟩ ∈ zTB := z_in (zt_6 _ (List.mem_of_getElem? (i := 53) rfl)) rfl
theorem zn_818 : Cond.fieldLink "LassoFinder$LassoSearch" 81 "LassoFinder$LassoSearch" "found" "Z" ∈ zTB := z_in (zt_5 _ (List.mem_of_getElem? (i := 147) rfl)) rfl
theorem zn_839 : Cond.fieldLink "LassoFinder" 168 "LassoFinder$Graph" "stepPartner" "[I" ∈ zTB := z_in (zt_2 _ (List.mem_of_getElem? (i := 96) rfl)) rfl
theorem zn_840 : Cond.fieldLink "LassoFinder" 162 "LassoFinder$Graph" "stepFrom" "[I" ∈ zTB := z_in (zt_2 _ (List.mem_of_getElem? (i := 88) rfl)) rfl
theorem zn_887 : Cond.code ⟨"LassoFinder$LassoSearch", "followStem", "()I"⟩ prog_4_method_14_code 6 (some .int) ∈ zTB := z_in (zt_6 _ (List.mem_of_getElem? (i := 1) rfl)) rfl
theorem zn_888 : Cond.instanceMethod ⟨"LassoFinder$LassoSearch", "followStem", "()I"⟩ ∈ zTB := z_in (zt_6 _ (List.mem_of_getElem? (i := 0) rfl)) rfl
theorem zn_889 : Cond.code ⟨"LassoFinder$LassoSearch", "findCycle", "(I)V"⟩ prog_4_method_16_code 6 none ∈ zTB := z_in (zt_6 _ (List.mem_of_getElem? (i := 9) rfl)) rfl
theorem zn_890 : Cond.instanceMethod ⟨"LassoFinder$LassoSearch", "findCycle", "(I)V"⟩ ∈ zTB := z_in (zt_6 _ (List.mem_of_getElem? (i := 8) rfl)) rfl
theorem zn_891 : Cond.code ⟨"LassoFinder$LassoSearch", "markCycles", "()V"⟩ prog_4_method_5_code 2 none ∈ zTB := z_in (zt_5 _ (List.mem_of_getElem? (i := 198) rfl)) rfl
theorem zn_892 : Cond.instanceMethod ⟨"LassoFinder$LassoSearch", "markCycles", "()V"⟩ ∈ zTB := z_in (zt_5 _ (List.mem_of_getElem? (i := 197) rfl)) rfl
theorem zn_893 : Cond.code ⟨"LassoFinder$LassoSearch", "measureStems", "()V"⟩ prog_4_method_12_code 5 none ∈ zTB := z_in (zt_5 _ (List.mem_of_getElem? (i := 233) rfl)) rfl
theorem zn_894 : Cond.instanceMethod ⟨"LassoFinder$LassoSearch", "measureStems", "()V"⟩ ∈ zTB := z_in (zt_5 _ (List.mem_of_getElem? (i := 232) rfl)) rfl
theorem zn_895 : Cond.code ⟨"LassoFinder$LassoSearch", "shortestStem", "()I"⟩ prog_4_method_13_code 4 (some .int) ∈ zTB := z_in (zt_5 _ (List.mem_of_getElem? (i := 237) rfl)) rfl
theorem zn_896 : Cond.instanceMethod ⟨"LassoFinder$LassoSearch", "shortestStem", "()I"⟩ ∈ zTB := z_in (zt_5 _ (List.mem_of_getElem? (i := 236) rfl)) rfl
theorem zn_897 : Cond.code ⟨"LassoFinder$LassoSearch", "find", "()Z"⟩ prog_4_method_3_code 1 (some .boolean) ∈ zTB := z_in (zt_5 _ (List.mem_of_getElem? (i := 193) rfl)) rfl
theorem zn_898 : Cond.selects "LassoFinder$LassoSearch" ⟨"LassoFinder$LassoSearch", "find", "()Z"⟩ ⟨"LassoFinder$LassoSearch", "find", "()Z"⟩ ∈ zTB := z_in (zt_5 _ (List.mem_of_getElem? (i := 192) rfl)) rfl
theorem zn_899 : Cond.instanceMethod ⟨"LassoFinder$LassoSearch", "find", "()Z"⟩ ∈ zTB := z_in (zt_5 _ (List.mem_of_getElem? (i := 191) rfl)) rfl
theorem zn_900 : Cond.code ⟨"LassoFinder$LassoSearch", "stepOf", "(I)I"⟩ prog_4_method_2_code 2 (some .int) ∈ zTB := z_in (zt_6 _ (List.mem_of_getElem? (i := 56) rfl)) rfl
theorem zn_901 : Cond.selects "LassoFinder$LassoSearch" ⟨"LassoFinder$LassoSearch", "stepOf", "(I)I"⟩ ⟨"LassoFinder$LassoSearch", "stepOf", "(I)I"⟩ ∈ zTB := z_in (zt_6 _ (List.mem_of_getElem? (i := 55) rfl)) rfl
theorem zn_902 : Cond.instanceMethod ⟨"LassoFinder$LassoSearch", "stepOf", "(I)I"⟩ ∈ zTB := z_in (zt_6 _ (List.mem_of_getElem? (i := 54) rfl)) rfl
theorem zf_LassoSearch_followStem : zFaceV zy_LassoSearch_followStem prog_4_method_14_code 6 (some .int) 0 := ⟨zn_888, (z_in (zp_4 _ (List.mem_of_getElem? (i := 15) rfl)) rfl), zm_7, zn_887, by decide +kernel, by decide +kernel, by decide +kernel⟩
theorem zf_LassoSearch_findCycle : zFaceV zy_LassoSearch_findCycle prog_4_method_16_code 6 none 1 := ⟨zn_890, (z_in (zp_5 _ (List.mem_of_getElem? (i := 1) rfl)) rfl), zm_7, zn_889, by decide +kernel, by decide +kernel, by decide +kernel⟩
theorem zf_LassoSearch_markCycles : zFaceV zy_LassoSearch_markCycles prog_4_method_5_code 2 none 0 := ⟨zn_892, (z_in (zp_4 _ (List.mem_of_getElem? (i := 5) rfl)) rfl), zm_7, zn_891, by decide +kernel, by decide +kernel, by decide +kernel⟩
theorem zf_LassoSearch_measureStems : zFaceV zy_LassoSearch_measureStems prog_4_method_12_code 5 none 0 := ⟨zn_894, (z_in (zp_4 _ (List.mem_of_getElem? (i := 13) rfl)) rfl), zm_7, zn_893, by decide +kernel, by decide +kernel, by decide +kernel⟩
theorem zf_LassoSearch_shortestStem : zFaceV zy_LassoSearch_shortestStem prog_4_method_13_code 4 (some .int) 0 := ⟨zn_896, (z_in (zp_4 _ (List.mem_of_getElem? (i := 14) rfl)) rfl), zm_7, zn_895, by decide +kernel, by decide +kernel, by decide +kernel⟩
theorem zf_LassoSearch_find : zFaceV zy_LassoSearch_find prog_4_method_3_code 1 (some .boolean) 0 := ⟨zn_899, zn_898, zm_7, zn_897, by decide +kernel, by decide +kernel, by decide +kernel⟩
theorem zf_LassoSearch_stepOf : zFaceV zy_LassoSearch_stepOf prog_4_method_2_code 2 (some .int) 1 := ⟨zn_902, zn_901, zm_7, zn_900, by decide +kernel, by decide +kernel, by decide +kernel⟩
theorem zd_LassoFinder_lasso_0 : decode prog_1_method_9_code 0 = .ok (.aload_n 0, 1) := by decide +kernel
theorem zd_LassoFinder_lasso_1 : decode prog_1_method_9_code 1 = .ok (.invokevirtual 143, 3) := by decide +kernel
theorem zd_LassoFinder_lasso_4 : decode prog_1_method_9_code 4 = .ok (.ifCond .eq 26, 3) := by decide +kernel
theorem zd_LassoFinder_lasso_7 : decode prog_1_method_9_code 7 = .ok (.iload_n 1, 1) := by decide +kernel
theorem zd_LassoFinder_lasso_8 : decode prog_1_method_9_code 8 = .ok (.ifCond .lt 22, 3) := by decide +kernel
theorem zd_LassoFinder_lasso_11 : decode prog_1_method_9_code 11 = .ok (.iload_n 1, 1) := by decide +kernel
theorem zd_LassoFinder_lasso_12 : decode prog_1_method_9_code 12 = .ok (.aload_n 0, 1) := by decide +kernel
theorem zd_LassoFinder_lasso_13 : decode prog_1_method_9_code 13 = .ok (.getfield 131, 3) := by decide +kernel
theorem zd_LassoFinder_lasso_16 : decode prog_1_method_9_code 16 = .ok (.getfield 146, 3) := by decide +kernel
theorem zd_LassoFinder_lasso_19 : decode prog_1_method_9_code 19 = .ok (.aload_n 0, 1) := by decide +kernel
theorem zd_LassoFinder_lasso_20 : decode prog_1_method_9_code 20 = .ok (.getfield 131, 3) := by decide +kernel
theorem zd_LassoFinder_lasso_23 : decode prog_1_method_9_code 23 = .ok (.getfield 149, 3) := by decide +kernel
theorem zd_LassoFinder_lasso_26 : decode prog_1_method_9_code 26 = .ok (.iadd, 1) := by decide +kernel
theorem zd_LassoFinder_lasso_27 : decode prog_1_method_9_code 27 = .ok (.if_icmp .lt 11, 3) := by decide +kernel
theorem zd_LassoFinder_lasso_30 : decode prog_1_method_9_code 30 = .ok (.new 152, 3) := by decide +kernel
theorem zd_LassoFinder_lasso_33 : decode prog_1_method_9_code 33 = .ok (.dup, 1) := by decide +kernel
theorem zd_LassoFinder_lasso_34 : decode prog_1_method_9_code 34 = .ok (.invokespecial 154, 3) := by decide +kernel
theorem zd_LassoFinder_lasso_37 : decode prog_1_method_9_code 37 = .ok (.athrow, 1) := by decide +kernel
theorem zd_LassoFinder_lasso_38 : decode prog_1_method_9_code 38 = .ok (.aload_n 0, 1) := by decide +kernel
theorem zd_LassoFinder_lasso_39 : decode prog_1_method_9_code 39 = .ok (.getfield 131, 3) := by decide +kernel
theorem zd_LassoFinder_lasso_42 : decode prog_1_method_9_code 42 = .ok (.iload_n 1, 1) := by decide +kernel
theorem zd_LassoFinder_lasso_43 : decode prog_1_method_9_code 43 = .ok (.invokevirtual 155, 3) := by decide +kernel
theorem zd_LassoFinder_lasso_46 : decode prog_1_method_9_code 46 = .ok (.istore_n 3, 1) := by decide +kernel
theorem zd_LassoFinder_lasso_47 : decode prog_1_method_9_code 47 = .ok (.iload_n 2, 1) := by decide +kernel
theorem zd_LassoFinder_lasso_48 : decode prog_1_method_9_code 48 = .ok (.tableswitch 68 0 2 #[28, 48, 58], 28) := by decide +kernel
theorem zd_LassoFinder_lasso_76 : decode prog_1_method_9_code 76 = .ok (.iload_n 3, 1) := by decide +kernel
theorem zd_LassoFinder_lasso_77 : decode prog_1_method_9_code 77 = .ok (.aload_n 0, 1) := by decide +kernel
theorem zd_LassoFinder_lasso_78 : decode prog_1_method_9_code 78 = .ok (.getfield 58, 3) := by decide +kernel
theorem zd_LassoFinder_lasso_81 : decode prog_1_method_9_code 81 = .ok (.getfield 159, 3) := by decide +kernel
theorem zd_LassoFinder_lasso_84 : decode prog_1_method_9_code 84 = .ok (.aload_n 0, 1) := by decide +kernel
theorem zd_LassoFinder_lasso_85 : decode prog_1_method_9_code 85 = .ok (.getfield 58, 3) := by decide +kernel
theorem zd_LassoFinder_lasso_88 : decode prog_1_method_9_code 88 = .ok (.getfield 162, 3) := by decide +kernel
theorem zd_LassoFinder_lasso_91 : decode prog_1_method_9_code 91 = .ok (.iload_n 3, 1) := by decide +kernel
theorem zd_LassoFinder_lasso_92 : decode prog_1_method_9_code 92 = .ok (.iaload, 1) := by decide +kernel
theorem zd_LassoFinder_lasso_93 : decode prog_1_method_9_code 93 = .ok (.iaload, 1) := by decide +kernel
theorem zd_LassoFinder_lasso_94 : decode prog_1_method_9_code 94 = .ok (.isub, 1) := by decide +kernel
theorem zd_LassoFinder_lasso_95 : decode prog_1_method_9_code 95 = .ok (.ireturn, 1) := by decide +kernel
theorem zd_LassoFinder_lasso_96 : decode prog_1_method_9_code 96 = .ok (.aload_n 0, 1) := by decide +kernel
theorem zd_LassoFinder_lasso_97 : decode prog_1_method_9_code 97 = .ok (.getfield 58, 3) := by decide +kernel
theorem zd_LassoFinder_lasso_100 : decode prog_1_method_9_code 100 = .ok (.getfield 165, 3) := by decide +kernel
theorem zd_LassoFinder_lasso_103 : decode prog_1_method_9_code 103 = .ok (.iload_n 3, 1) := by decide +kernel
theorem zd_LassoFinder_lasso_104 : decode prog_1_method_9_code 104 = .ok (.iaload, 1) := by decide +kernel
theorem zd_LassoFinder_lasso_105 : decode prog_1_method_9_code 105 = .ok (.ireturn, 1) := by decide +kernel
theorem zd_LassoFinder_lasso_106 : decode prog_1_method_9_code 106 = .ok (.aload_n 0, 1) := by decide +kernel
theorem zd_LassoFinder_lasso_107 : decode prog_1_method_9_code 107 = .ok (.getfield 58, 3) := by decide +kernel
theorem zd_LassoFinder_lasso_110 : decode prog_1_method_9_code 110 = .ok (.getfield 168, 3) := by decide +kernel
theorem zd_LassoFinder_lasso_113 : decode prog_1_method_9_code 113 = .ok (.iload_n 3, 1) := by decide +kernel
theorem zd_LassoFinder_lasso_114 : decode prog_1_method_9_code 114 = .ok (.iaload, 1) := by decide +kernel
theorem zd_LassoFinder_lasso_115 : decode prog_1_method_9_code 115 = .ok (.ireturn, 1) := by decide +kernel
theorem zd_LassoFinder_lasso_116 : decode prog_1_method_9_code 116 = .ok (.new 152, 3) := by decide +kernel
theorem zd_LassoFinder_lasso_119 : decode prog_1_method_9_code 119 = .ok (.dup, 1) := by decide +kernel
theorem zd_LassoFinder_lasso_120 : decode prog_1_method_9_code 120 = .ok (.invokespecial 154, 3) := by decide +kernel
theorem zd_LassoFinder_lasso_123 : decode prog_1_method_9_code 123 = .ok (.athrow, 1) := by decide +kernel
theorem zd_LassoFinder_verify_0 : decode prog_1_method_6_code 0 = .ok (.aload_n 0, 1) := by decide +kernel
theorem zd_LassoFinder_verify_1 : decode prog_1_method_6_code 1 = .ok (.getfield 122, 3) := by decide +kernel
theorem zd_LassoFinder_verify_4 : decode prog_1_method_6_code 4 = .ok (.ifCond .ne 11, 3) := by decide +kernel
theorem zd_LassoFinder_verify_7 : decode prog_1_method_6_code 7 = .ok (.new 115, 3) := by decide +kernel
theorem zd_LassoFinder_verify_10 : decode prog_1_method_6_code 10 = .ok (.dup, 1) := by decide +kernel
theorem zd_LassoFinder_verify_11 : decode prog_1_method_6_code 11 = .ok (.invokespecial 117, 3) := by decide +kernel
theorem zd_LassoFinder_verify_14 : decode prog_1_method_6_code 14 = .ok (.athrow, 1) := by decide +kernel
theorem zd_LassoFinder_verify_15 : decode prog_1_method_6_code 15 = .ok (.aload_n 0, 1) := by decide +kernel
theorem zd_LassoFinder_verify_16 : decode prog_1_method_6_code 16 = .ok (.getfield 131, 3) := by decide +kernel
theorem zd_LassoFinder_verify_19 : decode prog_1_method_6_code 19 = .ok (.ifnonnull 22, 3) := by decide +kernel
theorem zd_LassoFinder_verify_22 : decode prog_1_method_6_code 22 = .ok (.aload_n 0, 1) := by decide +kernel
theorem zd_LassoFinder_verify_23 : decode prog_1_method_6_code 23 = .ok (.new 135, 3) := by decide +kernel
theorem zd_LassoFinder_verify_41 : decode prog_1_method_6_code 41 = .ok (.aload_n 0, 1) := by decide +kernel
theorem zd_LassoFinder_verify_42 : decode prog_1_method_6_code 42 = .ok (.getfield 131, 3) := by decide +kernel
theorem zd_LassoFinder_verify_45 : decode prog_1_method_6_code 45 = .ok (.invokevirtual 140, 3) := by decide +kernel
theorem zd_LassoFinder_verify_48 : decode prog_1_method_6_code 48 = .ok (.ifCond .ne 7, 3) := by decide +kernel
theorem zd_LassoFinder_verify_51 : decode prog_1_method_6_code 51 = .ok (.iconst 1, 1) := by decide +kernel
theorem zd_LassoFinder_verify_52 : decode prog_1_method_6_code 52 = .ok (.goto 4, 3) := by decide +kernel
theorem zd_LassoFinder_verify_55 : decode prog_1_method_6_code 55 = .ok (.iconst 0, 1) := by decide +kernel
theorem zd_LassoFinder_verify_56 : decode prog_1_method_6_code 56 = .ok (.ireturn, 1) := by decide +kernel
theorem zd_LassoSearch_find_0 : decode prog_4_method_3_code 0 = .ok (.aload_n 0, 1) := by decide +kernel
theorem zd_LassoSearch_find_1 : decode prog_4_method_3_code 1 = .ok (.iconst 0, 1) := by decide +kernel
theorem zd_LassoSearch_find_2 : decode prog_4_method_3_code 2 = .ok (.putfield 62, 3) := by decide +kernel
theorem zd_LassoSearch_find_5 : decode prog_4_method_3_code 5 = .ok (.aload_n 0, 1) := by decide +kernel
theorem zd_LassoSearch_find_6 : decode prog_4_method_3_code 6 = .ok (.getfield 43, 3) := by decide +kernel
theorem zd_LassoSearch_find_9 : decode prog_4_method_3_code 9 = .ok (.iconst (-1), 1) := by decide +kernel
theorem zd_LassoSearch_find_10 : decode prog_4_method_3_code 10 = .ok (.invokestatic 65, 3) := by decide +kernel
theorem zd_LassoSearch_find_13 : decode prog_4_method_3_code 13 = .ok (.aload_n 0, 1) := by decide +kernel
theorem zd_LassoSearch_find_14 : decode prog_4_method_3_code 14 = .ok (.invokevirtual 71, 3) := by decide +kernel
theorem zd_LassoSearch_find_17 : decode prog_4_method_3_code 17 = .ok (.aload_n 0, 1) := by decide +kernel
theorem zd_LassoSearch_find_18 : decode prog_4_method_3_code 18 = .ok (.invokevirtual 74, 3) := by decide +kernel
theorem zd_LassoSearch_find_21 : decode prog_4_method_3_code 21 = .ok (.aload_n 0, 1) := by decide +kernel
theorem zd_LassoSearch_find_22 : decode prog_4_method_3_code 22 = .ok (.aload_n 0, 1) := by decide +kernel
theorem zd_LassoSearch_find_23 : decode prog_4_method_3_code 23 = .ok (.invokevirtual 77, 3) := by decide +kernel
theorem zd_LassoSearch_find_26 : decode prog_4_method_3_code 26 = .ok (.putfield 58, 3) := by decide +kernel
theorem zd_LassoSearch_find_29 : decode prog_4_method_3_code 29 = .ok (.aload_n 0, 1) := by decide +kernel
theorem zd_LassoSearch_find_30 : decode prog_4_method_3_code 30 = .ok (.aload_n 0, 1) := by decide +kernel
theorem zd_LassoSearch_find_31 : decode prog_4_method_3_code 31 = .ok (.getfield 58, 3) := by decide +kernel
theorem zd_LassoSearch_find_34 : decode prog_4_method_3_code 34 = .ok (.iconst (-1), 1) := by decide +kernel
theorem zd_LassoSearch_find_35 : decode prog_4_method_3_code 35 = .ok (.if_icmp .eq 7, 3) := by decide +kernel
theorem zd_LassoSearch_find_38 : decode prog_4_method_3_code 38 = .ok (.iconst 1, 1) := by decide +kernel
theorem zd_LassoSearch_find_39 : decode prog_4_method_3_code 39 = .ok (.goto 4, 3) := by decide +kernel
theorem zd_LassoSearch_find_42 : decode prog_4_method_3_code 42 = .ok (.iconst 0, 1) := by decide +kernel
theorem zd_LassoSearch_find_43 : decode prog_4_method_3_code 43 = .ok (.putfield 81, 3) := by decide +kernel
theorem zd_LassoSearch_find_46 : decode prog_4_method_3_code 46 = .ok (.aload_n 0, 1) := by decide +kernel
theorem zd_LassoSearch_find_47 : decode prog_4_method_3_code 47 = .ok (.getfield 81, 3) := by decide +kernel
theorem zd_LassoSearch_find_50 : decode prog_4_method_3_code 50 = .ok (.ifCond .eq 11, 3) := by decide +kernel
theorem zd_LassoSearch_find_53 : decode prog_4_method_3_code 53 = .ok (.aload_n 0, 1) := by decide +kernel
theorem zd_LassoSearch_find_54 : decode prog_4_method_3_code 54 = .ok (.aload_n 0, 1) := by decide +kernel
theorem zd_LassoSearch_find_55 : decode prog_4_method_3_code 55 = .ok (.invokevirtual 85, 3) := by decide +kernel
theorem zd_LassoSearch_find_58 : decode prog_4_method_3_code 58 = .ok (.invokevirtual 88, 3) := by decide +kernel
theorem zd_LassoSearch_find_61 : decode prog_4_method_3_code 61 = .ok (.aload_n 0, 1) := by decide +kernel
theorem zd_LassoSearch_find_62 : decode prog_4_method_3_code 62 = .ok (.getfield 81, 3) := by decide +kernel
theorem zd_LassoSearch_find_65 : decode prog_4_method_3_code 65 = .ok (.ireturn, 1) := by decide +kernel
theorem zd_LassoSearch_shortestStem_0 : decode prog_4_method_13_code 0 = .ok (.iconst (-1), 1) := by decide +kernel
theorem zd_LassoSearch_shortestStem_1 : decode prog_4_method_13_code 1 = .ok (.istore_n 1, 1) := by decide +kernel
theorem zd_LassoSearch_shortestStem_2 : decode prog_4_method_13_code 2 = .ok (.iconst 0, 1) := by decide +kernel
theorem zd_LassoSearch_shortestStem_3 : decode prog_4_method_13_code 3 = .ok (.istore_n 2, 1) := by decide +kernel
theorem zd_LassoSearch_shortestStem_4 : decode prog_4_method_13_code 4 = .ok (.iload_n 2, 1) := by decide +kernel
theorem zd_LassoSearch_shortestStem_5 : decode prog_4_method_13_code 5 = .ok (.aload_n 0, 1) := by decide +kernel
theorem zd_LassoSearch_shortestStem_6 : decode prog_4_method_13_code 6 = .ok (.getfield 19, 3) := by decide +kernel
theorem zd_LassoSearch_shortestStem_9 : decode prog_4_method_13_code 9 = .ok (.getfield 104, 3) := by decide +kernel
theorem zd_LassoSearch_shortestStem_12 : decode prog_4_method_13_code 12 = .ok (.if_icmp .ge 49, 3) := by decide +kernel
theorem zd_LassoSearch_shortestStem_15 : decode prog_4_method_13_code 15 = .ok (.aload_n 0, 1) := by decide +kernel
theorem zd_LassoSearch_shortestStem_16 : decode prog_4_method_13_code 16 = .ok (.getfield 19, 3) := by decide +kernel
theorem zd_LassoSearch_shortestStem_19 : decode prog_4_method_13_code 19 = .ok (.getfield 154, 3) := by decide +kernel
theorem zd_LassoSearch_shortestStem_22 : decode prog_4_method_13_code 22 = .ok (.iload_n 2, 1) := by decide +kernel
theorem zd_LassoSearch_shortestStem_23 : decode prog_4_method_13_code 23 = .ok (.baload, 1) := by decide +kernel
theorem zd_LassoSearch_shortestStem_24 : decode prog_4_method_13_code 24 = .ok (.ifCond .eq 7, 3) := by decide +kernel
theorem zd_LassoSearch_shortestStem_27 : decode prog_4_method_13_code 27 = .ok (.iconst (-1), 1) := by decide +kernel
theorem zd_LassoSearch_shortestStem_28 : decode prog_4_method_13_code 28 = .ok (.goto 9, 3) := by decide +kernel
theorem zd_LassoSearch_shortestStem_31 : decode prog_4_method_13_code 31 = .ok (.aload_n 0, 1) := by decide +kernel
theorem zd_LassoSearch_shortestStem_32 : decode prog_4_method_13_code 32 = .ok (.getfield 43, 3) := by decide +kernel
theorem zd_LassoSearch_shortestStem_35 : decode prog_4_method_13_code 35 = .ok (.iload_n 2, 1) := by decide +kernel
theorem zd_LassoSearch_shortestStem_36 : decode prog_4_method_13_code 36 = .ok (.iaload, 1) := by decide +kernel
theorem zd_LassoSearch_shortestStem_37 : decode prog_4_method_13_code 37 = .ok (.istore_n 3, 1) := by decide +kernel
theorem zd_LassoSearch_shortestStem_38 : decode prog_4_method_13_code 38 = .ok (.iload_n 3, 1) := by decide +kernel
theorem zd_LassoSearch_shortestStem_39 : decode prog_4_method_13_code 39 = .ok (.iconst (-1), 1) := by decide +kernel
theorem zd_LassoSearch_shortestStem_40 : decode prog_4_method_13_code 40 = .ok (.if_icmp .eq 15, 3) := by decide +kernel
theorem zd_LassoSearch_shortestStem_43 : decode prog_4_method_13_code 43 = .ok (.iload_n 1, 1) := by decide +kernel
theorem zd_LassoSearch_shortestStem_44 : decode prog_4_method_13_code 44 = .ok (.iconst (-1), 1) := by decide +kernel
theorem zd_LassoSearch_shortestStem_45 : decode prog_4_method_13_code 45 = .ok (.if_icmp .eq 8, 3) := by decide +kernel
theorem zd_LassoSearch_shortestStem_48 : decode prog_4_method_13_code 48 = .ok (.iload_n 3, 1) := by decide +kernel
theorem zd_LassoSearch_shortestStem_49 : decode prog_4_method_13_code 49 = .ok (.iload_n 1, 1) := by decide +kernel
theorem zd_LassoSearch_shortestStem_50 : decode prog_4_method_13_code 50 = .ok (.if_icmp .ge 5, 3) := by decide +kernel
theorem zd_LassoSearch_shortestStem_53 : decode prog_4_method_13_code 53 = .ok (.iload_n 3, 1) := by decide +kernel
theorem zd_LassoSearch_shortestStem_54 : decode prog_4_method_13_code 54 = .ok (.istore_n 1, 1) := by decide +kernel
theorem zd_LassoSearch_shortestStem_55 : decode prog_4_method_13_code 55 = .ok (.iinc 2 1, 3) := by decide +kernel
theorem zd_LassoSearch_shortestStem_58 : decode prog_4_method_13_code 58 = .ok (.goto (-54), 3) := by decide +kernel
theorem zd_LassoSearch_shortestStem_61 : decode prog_4_method_13_code 61 = .ok (.iload_n 1, 1) := by decide +kernel
theorem zd_LassoSearch_shortestStem_62 : decode prog_4_method_13_code 62 = .ok (.ireturn, 1) := by decide +kernel
theorem zd_LassoSearch_stepOf_0 : decode prog_4_method_2_code 0 = .ok (.iload_n 1, 1) := by decide +kernel
theorem zd_LassoSearch_stepOf_1 : decode prog_4_method_2_code 1 = .ok (.aload_n 0, 1) := by decide +kernel
theorem zd_LassoSearch_stepOf_2 : decode prog_4_method_2_code 2 = .ok (.getfield 58, 3) := by decide +kernel
theorem zd_LassoSearch_stepOf_5 : decode prog_4_method_2_code 5 = .ok (.if_icmp .ge 12, 3) := by decide +kernel
theorem zd_LassoSearch_stepOf_8 : decode prog_4_method_2_code 8 = .ok (.aload_n 0, 1) := by decide +kernel
theorem zd_LassoSearch_stepOf_9 : decode prog_4_method_2_code 9 = .ok (.getfield 49, 3) := by decide +kernel
theorem zd_LassoSearch_stepOf_12 : decode prog_4_method_2_code 12 = .ok (.iload_n 1, 1) := by decide +kernel
theorem zd_LassoSearch_stepOf_13 : decode prog_4_method_2_code 13 = .ok (.iaload, 1) := by decide +kernel
theorem zd_LassoSearch_stepOf_14 : decode prog_4_method_2_code 14 = .ok (.goto 14, 3) := by decide +kernel
theorem zd_LassoSearch_stepOf_17 : decode prog_4_method_2_code 17 = .ok (.aload_n 0, 1) := by decide +kernel
theorem zd_LassoSearch_stepOf_18 : decode prog_4_method_2_code 18 = .ok (.getfield 52, 3) := by decide +kernel
theorem zd_LassoSearch_stepOf_21 : decode prog_4_method_2_code 21 = .ok (.iload_n 1, 1) := by decide +kernel
theorem zd_LassoSearch_stepOf_22 : decode prog_4_method_2_code 22 = .ok (.aload_n 0, 1) := by decide +kernel
theorem zd_LassoSearch_stepOf_23 : decode prog_4_method_2_code 23 = .ok (.getfield 58, 3) := by decide +kernel
theorem zd_LassoSearch_stepOf_26 : decode prog_4_method_2_code 26 = .ok (.isub, 1) := by decide +kernel
theorem zd_LassoSearch_stepOf_27 : decode prog_4_method_2_code 27 = .ok (.iaload, 1) := by decide +kernel
theorem zd_LassoSearch_stepOf_28 : decode prog_4_method_2_code 28 = .ok (.ireturn, 1) := by decide +kernel
def wc_LassoSearch_shortestStem_55 (K4 : Int32 → Int32 → (Nat → Int32) → (Nat → Int64) → (Nat → Nat → Int32) → (Nat → Nat → Int64) → Prop) (Post : Int32 → (Nat → Int32) → (Nat → Int64) → (Nat → Nat → Int32) → (Nat → Nat → Int64) → Prop) (x1 : Int32) (x2 : Int32) (I : Nat → Int32) (J : Nat → Int64) (B : Nat → Nat → Int32) (D : Nat → Nat → Int64) : Prop :=
  ∀ z1 : Int32, z1 = (x2 + 1) → K4 x1 z1 I J B D
def wc_LassoSearch_shortestStem_53 (K4 : Int32 → Int32 → (Nat → Int32) → (Nat → Int64) → (Nat → Nat → Int32) → (Nat → Nat → Int64) → Prop) (Post : Int32 → (Nat → Int32) → (Nat → Int64) → (Nat → Nat → Int32) → (Nat → Nat → Int64) → Prop) (x2 : Int32) (x3 : Int32) (I : Nat → Int32) (J : Nat → Int64) (B : Nat → Nat → Int32) (D : Nat → Nat → Int64) : Prop :=
  wc_LassoSearch_shortestStem_55  K4 Post x3 x2 I J B D
def wc_LassoSearch_shortestStem_37 (K4 : Int32 → Int32 → (Nat → Int32) → (Nat → Int64) → (Nat → Nat → Int32) → (Nat → Nat → Int64) → Prop) (Post : Int32 → (Nat → Int32) → (Nat → Int64) → (Nat → Nat → Int32) → (Nat → Nat → Int64) → Prop) (x1 : Int32) (x2 : Int32) (y0 : Int32) (I : Nat → Int32) (J : Nat → Int64) (B : Nat → Nat → Int32) (D : Nat → Nat → Int64) : Prop :=
  ((y0 = (-1) → wc_LassoSearch_shortestStem_55  K4 Post x1 x2 I J B D) ∧ (¬ y0 = (-1) → ((x1 = (-1) → wc_LassoSearch_shortestStem_53  K4 Post x2 y0 I J B D) ∧ (¬ x1 = (-1) → ((x1 ≤ y0 → wc_LassoSearch_shortestStem_55  K4 Post x1 x2 I J B D) ∧ (¬ x1 ≤ y0 → wc_LassoSearch_shortestStem_53  K4 Post x2 y0 I J B D))))))
def wb_LassoSearch_shortestStem_4 (K4 : Int32 → Int32 → (Nat → Int32) → (Nat → Int64) → (Nat → Nat → Int32) → (Nat → Nat → Int64) → Prop) (Post : Int32 → (Nat → Int32) → (Nat → Int64) → (Nat → Nat → Int32) → (Nat → Nat → Int64) → Prop) (x1 : Int32) (x2 : Int32) (I : Nat → Int32) (J : Nat → Int64) (B : Nat → Nat → Int32) (D : Nat → Nat → Int64) : Prop :=
  (((I 30) ≤ x2 → Post x1 I J B D) ∧ (¬ (I 30) ≤ x2 → vp_in x2 768 ∧ ∀ z6 : Int32, z6 = ((B 49) x2.toNatClampNeg) → ((z6 = 0 → vp_in x2 6144 ∧ ∀ z8 : Int32, z8 = ((B 56) x2.toNatClampNeg) → wc_LassoSearch_shortestStem_37  K4 Post x1 x2 z8 I J B D) ∧ (¬ z6 = 0 → wc_LassoSearch_shortestStem_37  K4 Post x1 x2 (-1) I J B D))))
def wl_LassoSearch_shortestStem_4 (Post : Int32 → (Nat → Int32) → (Nat → Int64) → (Nat → Nat → Int32) → (Nat → Nat → Int64) → Prop) (n : Nat) : Int32 → Int32 → (Nat → Int32) → (Nat → Int64) → (Nat → Nat → Int32) → (Nat → Nat → Int64) → Prop := Nat.rec (fun _ _ _ _ _ _ => False) (fun _ r => wb_LassoSearch_shortestStem_4  r Post) n
def wp_LassoSearch_shortestStem (I : Nat → Int32) (J : Nat → Int64) (B : Nat → Nat → Int32) (D : Nat → Nat → Int64) (Post : Int32 → (Nat → Int32) → (Nat → Int64) → (Nat → Nat → Int32) → (Nat → Nat → Int64) → Prop) : Prop :=
  ∃ n : Nat, wl_LassoSearch_shortestStem_4  Post n (-1) 0 I J B D
set_option maxHeartbeats 8000000 in
set_option maxRecDepth 100000 in
theorem wJ_LassoSearch_shortestStem_55 {p : Program} {l : Launch} {e : Env} {s : State} {m : MethodId} {below : List Frame} {meth : Method} {c : Code} {A : Nat → Prop} (G : va_G) (K : Nat → ClassId) (ad : Nat → Nat) (Post : Int32 → (Nat → Int32) → (Nat → Int64) → (Nat → Nat → Int32) → (Nat → Nat → Int64) → Prop) (C : zCx p s m ([.ref (ad 65)] : List Value).toArray meth c A G K prog_4_method_13_code (some .int) 4 "LassoFinder$LassoSearch") (K4 : Int32 → Int32 → (Nat → Int32) → (Nat → Int64) → (Nat → Nat → Int32) → (Nat → Nat → Int64) → Prop) (kh4 : ∀ (x1 : Int32) (x2 : Int32) (I : Nat → Int32) (J : Nat → Int64) (B : Nat → Nat → Int32) (D : Nat → Nat → Int64) (ls : Array Slot) (H : Heap) (locs : List Loc), K4 x1 x2 I J B D → lv_has ls 4 [(0, .ref (ad 65)), (1, .int x1), (2, .int x2)] → zW G A s.heap (wS ad K I J B D) H locs → W p l e { frames := 0, cells := 0, slots := 0, locals := 0 } s m ([.ref (ad 65)] : List Value).toArray below meth c H locs 0 0 (MQ below (va_Qi (fun (r : Int32) (u : zS) => Post r u.1 u.2.1 u.2.2.1 u.2.2.2) (fun u t => zPost G K A (wS ad K u.1 u.2.1 u.2.2.1 u.2.2.2) t) A) ([.ref (ad 65)] : List Value).toArray s 0 0 A) (F0 m 4 ls [])) : ∀ (x1 : Int32) (x2 : Int32) (I : Nat → Int32) (J : Nat → Int64) (B : Nat → Nat → Int32) (D : Nat → Nat → Int64) (ls : Array Slot) (H : Heap) (locs : List Loc), wc_LassoSearch_shortestStem_55  K4 Post x1 x2 I J B D → lv_has ls 4 [(0, .ref (ad 65)), (1, .int x1), (2, .int x2)] → zW G A s.heap (wS ad K I J B D) H locs → W p l e { frames := 0, cells := 0, slots := 0, locals := 0 } s m ([.ref (ad 65)] : List Value).toArray below meth c H locs 0 0 (MQ below (va_Qi (fun (r : Int32) (u : zS) => Post r u.1 u.2.1 u.2.2.1 u.2.2.2) (fun u t => zPost G K A (wS ad K u.1 u.2.1 u.2.2.1 u.2.2.2) t) A) ([.ref (ad 65)] : List Value).toArray s 0 0 A) (F0 m 55 ls []) := by
  obtain ⟨hx, hb, hr, hml, hts, hown, hlocks, hA, hK⟩ := id C
  intro x1 x2 I J B D ls H locs hok hl hw
  unfold wc_LassoSearch_shortestStem_55 at hok
  obtain ⟨z1, ez1⟩ : ∃ z : Int32, z = (x2 + 1) := ⟨_, rfl⟩
  have hok := hok z1 ez1
  refine lv_iinc (v := z1) hx hb zd_LassoSearch_shortestStem_55 hl (k := 2) rfl ez1.symm (by decide) rfl (fun ls hl => ?_)
  have hl : lv_has ls 4 [(2, .int z1), (0, .ref (ad 65)), (1, .int x1)] := hl
  refine lv_goto (tgt := 4) hx hb zd_LassoSearch_shortestStem_58 (by decide) ?_
  exact kh4 x1 z1 I J B D ls H locs hok (lv_sub hl [1, 2, 0] rfl) hw
set_option maxHeartbeats 8000000 in
set_option maxRecDepth 100000 in
theorem wJ_LassoSearch_shortestStem_53 {p : Program} {l : Launch} {e : Env} {s : State} {m : MethodId} {below : List Frame} {meth : Method} {c : Code} {A : Nat → Prop} (G : va_G) (K : Nat → ClassId) (ad : Nat → Nat) (Post : Int32 → (Nat → Int32) → (Nat → Int64) → (Nat → Nat → Int32) → (Nat → Nat → Int64) → Prop) (C : zCx p s m ([.ref (ad 65)] : List Value).toArray meth c A G K prog_4_method_13_code (some .int) 4 "LassoFinder$LassoSearch") (K4 : Int32 → Int32 → (Nat → Int32) → (Nat → Int64) → (Nat → Nat → Int32) → (Nat → Nat → Int64) → Prop) (kh4 : ∀ (x1 : Int32) (x2 : Int32) (I : Nat → Int32) (J : Nat → Int64) (B : Nat → Nat → Int32) (D : Nat → Nat → Int64) (ls : Array Slot) (H : Heap) (locs : List Loc), K4 x1 x2 I J B D → lv_has ls 4 [(0, .ref (ad 65)), (1, .int x1), (2, .int x2)] → zW G A s.heap (wS ad K I J B D) H locs → W p l e { frames := 0, cells := 0, slots := 0, locals := 0 } s m ([.ref (ad 65)] : List Value).toArray below meth c H locs 0 0 (MQ below (va_Qi (fun (r : Int32) (u : zS) => Post r u.1 u.2.1 u.2.2.1 u.2.2.2) (fun u t => zPost G K A (wS ad K u.1 u.2.1 u.2.2.1 u.2.2.2) t) A) ([.ref (ad 65)] : List Value).toArray s 0 0 A) (F0 m 4 ls [])) : ∀ (x2 : Int32) (x3 : Int32) (I : Nat → Int32) (J : Nat → Int64) (B : Nat → Nat → Int32) (D : Nat → Nat → Int64) (ls : Array Slot) (H : Heap) (locs : List Loc), wc_LassoSearch_shortestStem_53  K4 Post x2 x3 I J B D → lv_has ls 4 [(0, .ref (ad 65)), (2, .int x2), (3, .int x3)] → zW G A s.heap (wS ad K I J B D) H locs → W p l e { frames := 0, cells := 0, slots := 0, locals := 0 } s m ([.ref (ad 65)] : List Value).toArray below meth c H locs 0 0 (MQ below (va_Qi (fun (r : Int32) (u : zS) => Post r u.1 u.2.1 u.2.2.1 u.2.2.2) (fun u t => zPost G K A (wS ad K u.1 u.2.1 u.2.2.1 u.2.2.2) t) A) ([.ref (ad 65)] : List Value).toArray s 0 0 A) (F0 m 53 ls []) := by
  obtain ⟨hx, hb, hr, hml, hts, hown, hlocks, hA, hK⟩ := id C
  intro x2 x3 I J B D ls H locs hok hl hw
  unfold wc_LassoSearch_shortestStem_53 at hok
  refine lv_iload_n hx hb zd_LassoSearch_shortestStem_53 rfl (lv_at hl 2 rfl) ?_
  refine lv_istore_n hx hb zd_LassoSearch_shortestStem_54 rfl hl (by decide) rfl (fun ls hl => ?_)
  have hl : lv_has ls 4 [(1, .int x3), (0, .ref (ad 65)), (2, .int x2), (3, .int x3)] := hl
  exact wJ_LassoSearch_shortestStem_55 G K ad  Post C K4 kh4 x3 x2 I J B D ls H locs hok (lv_sub hl [1, 0, 2] rfl) hw
set_option maxHeartbeats 8000000 in
set_option maxRecDepth 100000 in
theorem wJ_LassoSearch_shortestStem_37 {p : Program} {l : Launch} {e : Env} {s : State} {m : MethodId} {below : List Frame} {meth : Method} {c : Code} {A : Nat → Prop} (G : va_G) (K : Nat → ClassId) (ad : Nat → Nat) (Post : Int32 → (Nat → Int32) → (Nat → Int64) → (Nat → Nat → Int32) → (Nat → Nat → Int64) → Prop) (C : zCx p s m ([.ref (ad 65)] : List Value).toArray meth c A G K prog_4_method_13_code (some .int) 4 "LassoFinder$LassoSearch") (K4 : Int32 → Int32 → (Nat → Int32) → (Nat → Int64) → (Nat → Nat → Int32) → (Nat → Nat → Int64) → Prop) (kh4 : ∀ (x1 : Int32) (x2 : Int32) (I : Nat → Int32) (J : Nat → Int64) (B : Nat → Nat → Int32) (D : Nat → Nat → Int64) (ls : Array Slot) (H : Heap) (locs : List Loc), K4 x1 x2 I J B D → lv_has ls 4 [(0, .ref (ad 65)), (1, .int x1), (2, .int x2)] → zW G A s.heap (wS ad K I J B D) H locs → W p l e { frames := 0, cells := 0, slots := 0, locals := 0 } s m ([.ref (ad 65)] : List Value).toArray below meth c H locs 0 0 (MQ below (va_Qi (fun (r : Int32) (u : zS) => Post r u.1 u.2.1 u.2.2.1 u.2.2.2) (fun u t => zPost G K A (wS ad K u.1 u.2.1 u.2.2.1 u.2.2.2) t) A) ([.ref (ad 65)] : List Value).toArray s 0 0 A) (F0 m 4 ls [])) : ∀ (x1 : Int32) (x2 : Int32) (y0 : Int32) (I : Nat → Int32) (J : Nat → Int64) (B : Nat → Nat → Int32) (D : Nat → Nat → Int64) (ls : Array Slot) (H : Heap) (locs : List Loc), wc_LassoSearch_shortestStem_37  K4 Post x1 x2 y0 I J B D → lv_has ls 4 [(0, .ref (ad 65)), (1, .int x1), (2, .int x2)] → zW G A s.heap (wS ad K I J B D) H locs → W p l e { frames := 0, cells := 0, slots := 0, locals := 0 } s m ([.ref (ad 65)] : List Value).toArray below meth c H locs 0 0 (MQ below (va_Qi (fun (r : Int32) (u : zS) => Post r u.1 u.2.1 u.2.2.1 u.2.2.2) (fun u t => zPost G K A (wS ad K u.1 u.2.1 u.2.2.1 u.2.2.2) t) A) ([.ref (ad 65)] : List Value).toArray s 0 0 A) (F0 m 37 ls [.int y0]) := by
  obtain ⟨hx, hb, hr, hml, hts, hown, hlocks, hA, hK⟩ := id C
  intro x1 x2 y0 I J B D ls H locs hok hl hw
  unfold wc_LassoSearch_shortestStem_37 at hok
  refine lv_istore_n hx hb zd_LassoSearch_shortestStem_37 rfl hl (by decide) rfl (fun ls hl => ?_)
  have hl : lv_has ls 4 [(3, .int y0), (0, .ref (ad 65)), (1, .int x1), (2, .int x2)] := hl
  refine lv_iload_n hx hb zd_LassoSearch_shortestStem_38 rfl (lv_at hl 0 rfl) ?_
  refine lv_iconst (v := (-1)) hx hb zd_LassoSearch_shortestStem_39 (by decide) ?_
  refine lv_icmp_eq (tgt := 55) hx hb zd_LassoSearch_shortestStem_40 (by decide) (fun hc2 => ?_) (fun hc2 => ?_)
  · have hok := hok.1 hc2
    exact wJ_LassoSearch_shortestStem_55 G K ad  Post C K4 kh4 x1 x2 I J B D ls H locs hok (lv_sub hl [1, 2, 3] rfl) hw
  · have hok := hok.2 hc2
    refine lv_iload_n hx hb zd_LassoSearch_shortestStem_43 rfl (lv_at hl 2 rfl) ?_
    refine lv_iconst (v := (-1)) hx hb zd_LassoSearch_shortestStem_44 (by decide) ?_
    refine lv_icmp_eq (tgt := 53) hx hb zd_LassoSearch_shortestStem_45 (by decide) (fun hc3 => ?_) (fun hc3 => ?_)
    · have hok := hok.1 hc3
      exact wJ_LassoSearch_shortestStem_53 G K ad  Post C K4 kh4 x2 y0 I J B D ls H locs hok (lv_sub hl [1, 3, 0] rfl) hw
    · have hok := hok.2 hc3
      refine lv_iload_n hx hb zd_LassoSearch_shortestStem_48 rfl (lv_at hl 0 rfl) ?_
      refine lv_iload_n hx hb zd_LassoSearch_shortestStem_49 rfl (lv_at hl 2 rfl) ?_
      refine lv_icmp_ge (tgt := 55) hx hb zd_LassoSearch_shortestStem_50 (by decide) (fun hc4 => ?_) (fun hc4 => ?_)
      · have hok := hok.1 hc4
        exact wJ_LassoSearch_shortestStem_55 G K ad  Post C K4 kh4 x1 x2 I J B D ls H locs hok (lv_sub hl [1, 2, 3] rfl) hw
      · have hok := hok.2 hc4
        exact wJ_LassoSearch_shortestStem_53 G K ad  Post C K4 kh4 x2 y0 I J B D ls H locs hok (lv_sub hl [1, 3, 0] rfl) hw
set_option maxHeartbeats 8000000 in
set_option maxRecDepth 100000 in
theorem wB_LassoSearch_shortestStem_4 {p : Program} {l : Launch} {e : Env} {s : State} {m : MethodId} {below : List Frame} {meth : Method} {c : Code} {A : Nat → Prop} (G : va_G) (K : Nat → ClassId) (ad : Nat → Nat) (Post : Int32 → (Nat → Int32) → (Nat → Int64) → (Nat → Nat → Int32) → (Nat → Nat → Int64) → Prop) (C : zCx p s m ([.ref (ad 65)] : List Value).toArray meth c A G K prog_4_method_13_code (some .int) 4 "LassoFinder$LassoSearch") (K4 : Int32 → Int32 → (Nat → Int32) → (Nat → Int64) → (Nat → Nat → Int32) → (Nat → Nat → Int64) → Prop) (kh4 : ∀ (x1 : Int32) (x2 : Int32) (I : Nat → Int32) (J : Nat → Int64) (B : Nat → Nat → Int32) (D : Nat → Nat → Int64) (ls : Array Slot) (H : Heap) (locs : List Loc), K4 x1 x2 I J B D → lv_has ls 4 [(0, .ref (ad 65)), (1, .int x1), (2, .int x2)] → zW G A s.heap (wS ad K I J B D) H locs → W p l e { frames := 0, cells := 0, slots := 0, locals := 0 } s m ([.ref (ad 65)] : List Value).toArray below meth c H locs 0 0 (MQ below (va_Qi (fun (r : Int32) (u : zS) => Post r u.1 u.2.1 u.2.2.1 u.2.2.2) (fun u t => zPost G K A (wS ad K u.1 u.2.1 u.2.2.1 u.2.2.2) t) A) ([.ref (ad 65)] : List Value).toArray s 0 0 A) (F0 m 4 ls [])) : ∀ (x1 : Int32) (x2 : Int32) (I : Nat → Int32) (J : Nat → Int64) (B : Nat → Nat → Int32) (D : Nat → Nat → Int64) (ls : Array Slot) (H : Heap) (locs : List Loc), wb_LassoSearch_shortestStem_4  K4 Post x1 x2 I J B D → lv_has ls 4 [(0, .ref (ad 65)), (1, .int x1), (2, .int x2)] → zW G A s.heap (wS ad K I J B D) H locs → W p l e { frames := 0, cells := 0, slots := 0, locals := 0 } s m ([.ref (ad 65)] : List Value).toArray below meth c H locs 0 0 (MQ below (va_Qi (fun (r : Int32) (u : zS) => Post r u.1 u.2.1 u.2.2.1 u.2.2.2) (fun u t => zPost G K A (wS ad K u.1 u.2.1 u.2.2.1 u.2.2.2) t) A) ([.ref (ad 65)] : List Value).toArray s 0 0 A) (F0 m 4 ls []) := by
  obtain ⟨hx, hb, hr, hml, hts, hown, hlocks, hA, hK⟩ := id C
  intro x1 x2 I J B D ls H locs hok hl hw
  unfold wb_LassoSearch_shortestStem_4 at hok
  refine lv_iload_n hx hb zd_LassoSearch_shortestStem_4 rfl (lv_at hl 2 rfl) ?_
  refine lv_aload_n hx hb zd_LassoSearch_shortestStem_5 rfl (lv_at hl 0 rfl) ?_
  refine z_get (v := .ref (ad 11)) hx hb hts hown hK hw zZ3 0 wS_g0 1 (by decide) zn_819 rfl zd_LassoSearch_shortestStem_6 ?_
  refine z_get (v := .int (I 30)) hx hb hts hown hK hw zZ11 23 wS_g23 7 (by decide) zn_820 rfl zd_LassoSearch_shortestStem_9 ?_
  refine lv_icmp_ge (tgt := 61) hx hb zd_LassoSearch_shortestStem_12 (by decide) (fun hc5 => ?_) (fun hc5 => ?_)
  · have hok := hok.1 hc5
    refine lv_iload_n hx hb zd_LassoSearch_shortestStem_61 rfl (lv_at hl 1 rfl) ?_
    exact (z_iret (u := (I, J, B, D)) hx hb hr hlocks rfl hw (List.range 77) wS_all wS_nd hok (Nat.le_of_ble_eq_true rfl) (Nat.le_of_ble_eq_true rfl) zd_LassoSearch_shortestStem_62)
  · have hok := hok.2 hc5
    refine lv_aload_n hx hb zd_LassoSearch_shortestStem_15 rfl (lv_at hl 0 rfl) ?_
    refine z_get (v := .ref (ad 11)) hx hb hts hown hK hw zZ3 0 wS_g0 1 (by decide) zn_819 rfl zd_LassoSearch_shortestStem_16 ?_
    refine z_get (v := .ref (ad 64)) hx hb hts hown hK hw zZ11 23 wS_g23 6 (by decide) zn_821 rfl zd_LassoSearch_shortestStem_19 ?_
    refine lv_iload_n hx hb zd_LassoSearch_shortestStem_22 rfl (lv_at hl 2 rfl) ?_
    refine va_zald (f := (B 49)) hx hb hK hw.1 76 2 wS_a76 rfl hok.1 zd_LassoSearch_shortestStem_23 ?_
    have hok := hok.2
    refine lv_topi (fun z6 ez6 => ?_)
    have hok := hok z6 ez6
    refine lv_if_eq (tgt := 31) hx hb zd_LassoSearch_shortestStem_24 (by decide) (fun hc7 => ?_) (fun hc7 => ?_)
    · have hok := hok.1 hc7
      refine lv_aload_n hx hb zd_LassoSearch_shortestStem_31 rfl (lv_at hl 0 rfl) ?_
      refine z_get (v := .ref (ad 72)) hx hb hts hown hK hw zZ3 0 wS_g0 11 (by decide) zn_809 rfl zd_LassoSearch_shortestStem_32 ?_
      refine lv_iload_n hx hb zd_LassoSearch_shortestStem_35 rfl (lv_at hl 2 rfl) ?_
      refine va_iald (f := (B 56)) hx hb hK hw.1 7 0 wS_a7 rfl hok.1 zd_LassoSearch_shortestStem_36 ?_
      have hok := hok.2
      refine lv_topi (fun z8 ez8 => ?_)
      have hok := hok z8 ez8
      exact wJ_LassoSearch_shortestStem_37 G K ad  Post C K4 kh4 x1 x2 z8 I J B D ls H locs hok (lv_sub hl [0, 1, 2] rfl) hw
    · have hok := hok.2 hc7
      refine lv_iconst (v := (-1)) hx hb zd_LassoSearch_shortestStem_27 (by decide) ?_
      refine lv_goto (tgt := 37) hx hb zd_LassoSearch_shortestStem_28 (by decide) ?_
      exact wJ_LassoSearch_shortestStem_37 G K ad  Post C K4 kh4 x1 x2 (-1) I J B D ls H locs hok (lv_sub hl [0, 1, 2] rfl) hw
theorem wL_LassoSearch_shortestStem_4 {p : Program} {l : Launch} {e : Env} {s : State} {m : MethodId} {below : List Frame} {meth : Method} {c : Code} {A : Nat → Prop} (G : va_G) (K : Nat → ClassId) (ad : Nat → Nat) (Post : Int32 → (Nat → Int32) → (Nat → Int64) → (Nat → Nat → Int32) → (Nat → Nat → Int64) → Prop) (C : zCx p s m ([.ref (ad 65)] : List Value).toArray meth c A G K prog_4_method_13_code (some .int) 4 "LassoFinder$LassoSearch") : ∀ (n : Nat) (x1 : Int32) (x2 : Int32) (I : Nat → Int32) (J : Nat → Int64) (B : Nat → Nat → Int32) (D : Nat → Nat → Int64) (ls : Array Slot) (H : Heap) (locs : List Loc), wl_LassoSearch_shortestStem_4  Post n x1 x2 I J B D → lv_has ls 4 [(0, .ref (ad 65)), (1, .int x1), (2, .int x2)] → zW G A s.heap (wS ad K I J B D) H locs → W p l e { frames := 0, cells := 0, slots := 0, locals := 0 } s m ([.ref (ad 65)] : List Value).toArray below meth c H locs 0 0 (MQ below (va_Qi (fun (r : Int32) (u : zS) => Post r u.1 u.2.1 u.2.2.1 u.2.2.2) (fun u t => zPost G K A (wS ad K u.1 u.2.1 u.2.2.1 u.2.2.2) t) A) ([.ref (ad 65)] : List Value).toArray s 0 0 A) (F0 m 4 ls []) := by
  intro n
  induction n with
  | zero => intro x1 x2 I J B D ls H locs hok; exact hok.elim
  | succ n ih => exact wB_LassoSearch_shortestStem_4 G K ad  Post C (wl_LassoSearch_shortestStem_4  Post n) ih
set_option maxHeartbeats 8000000 in
set_option maxRecDepth 100000 in
theorem w_LassoSearch_shortestStem (l : Launch) (G : va_G) (K : Nat → ClassId) (ad : Nat → Nat) (I : Nat → Int32) (J : Nat → Int64) (B : Nat → Nat → Int32) (D : Nat → Nat → Int64) (Post : Int32 → (Nat → Int32) → (Nat → Int64) → (Nat → Nat → Int32) → (Nat → Nat → Int64) → Prop) (sz : Nat) (hok : wp_LassoSearch_shortestStem I J B D  Post) : Met l zy_LassoSearch_shortestStem (Cond.code zy_LassoSearch_shortestStem prog_4_method_13_code 4 (some .int) :: zTB) { frames := 0, cells := 0, slots := 0, locals := 0 } (va_Pc [.ref (ad 65)] (zPre G K (wS ad K I J B D) sz)) (va_Qi (fun (r : Int32) (u : zS) => Post r u.1 u.2.1 u.2.2.1 u.2.2.2) (fun u t => zPost G K (va_A (wS ad K I J B D) sz) (wS ad K u.1 u.2.1 u.2.2.1 u.2.2.2) t) (va_A (wS ad K I J B D) sz)) 0 0 (va_A (wS ad K I J B D) sz) := by
  refine zMet (y := zy_LassoSearch_shortestStem) (av := [.ref (ad 65)]) (maxL := 4) (cc := prog_4_method_13_code) (ret := (some .int)) (W0 := (wS ad K I J B D)) (sz := sz) (G := G) (K := K) (wt := zTB) (mc := 0) (ms := 0) (Qf := fun A => va_Qi (fun (r : Int32) (u : zS) => Post r u.1 u.2.1 u.2.2.1 u.2.2.2) (fun u t => zPost G K A (wS ad K u.1 u.2.1 u.2.2.1 u.2.2.2) t) A) (by decide) (Nat.le_of_ble_eq_true rfl) ?_
  intro p e s m below meth c ls A hx hb hr hml hts hown hlocks hin hA hK H locs hw hsz hl
  clear hsz
  have hown : s.vm.findClass "LassoFinder$LassoSearch" = some m.cls := hown
  have C : zCx p s m ([.ref (ad 65)] : List Value).toArray meth c A G K prog_4_method_13_code (some .int) 4 "LassoFinder$LassoSearch" := ⟨hx, hb, hr, hml, hts, hown, hlocks, hA, hK⟩
  have hl : lv_has ls 4 [(0, .ref (ad 65))] := hl
  have hw : zW G A s.heap (wS ad K I J B D) H locs := hw
  unfold wp_LassoSearch_shortestStem at hok
  refine lv_iconst (v := (-1)) hx hb zd_LassoSearch_shortestStem_0 (by decide) ?_
  refine lv_istore_n hx hb zd_LassoSearch_shortestStem_1 rfl hl (by decide) rfl (fun ls hl => ?_)
  have hl : lv_has ls 4 [(1, .int (-1)), (0, .ref (ad 65))] := hl
  refine lv_iconst (v := 0) hx hb zd_LassoSearch_shortestStem_2 (by decide) ?_
  refine lv_istore_n hx hb zd_LassoSearch_shortestStem_3 rfl hl (by decide) rfl (fun ls hl => ?_)
  have hl : lv_has ls 4 [(2, .int 0), (1, .int (-1)), (0, .ref (ad 65))] := hl
  obtain ⟨n9, hok⟩ := hok
  exact wL_LassoSearch_shortestStem_4 G K ad  Post C n9 (-1) 0 I J B D ls H locs hok (lv_sub hl [2, 1, 0] rfl) hw
def wc_LassoSearch_find_61 (Post : Int32 → (Nat → Int32) → (Nat → Int64) → (Nat → Nat → Int32) → (Nat → Nat → Int64) → Prop)  (I : Nat → Int32) (J : Nat → Int64) (B : Nat → Nat → Int32) (D : Nat → Nat → Int64) : Prop :=
  ((I 38) = 0 ∨ (I 38) = 1) ∧ Post (I 38) I J B D
def wc_LassoSearch_find_43 (Post : Int32 → (Nat → Int32) → (Nat → Int64) → (Nat → Nat → Int32) → (Nat → Nat → Int64) → Prop) (y0 : Int32) (I : Nat → Int32) (J : Nat → Int64) (B : Nat → Nat → Int32) (D : Nat → Nat → Int64) : Prop :=
  (y0 = 0 ∨ y0 = 1) ∧ ((y0 = 0 → wc_LassoSearch_find_61  Post (upd I 38 y0) J B D) ∧ (¬ y0 = 0 → wp_LassoSearch_followStem (upd I 38 y0) J B D  (fun r2 I2 J2 B2 D2 => wp_LassoSearch_findCycle I2 J2 B2 D2 r2 (fun I3 J3 B3 D3 => wc_LassoSearch_find_61  Post I3 J3 B3 D3))))
def wp_LassoSearch_find (I : Nat → Int32) (J : Nat → Int64) (B : Nat → Nat → Int32) (D : Nat → Nat → Int64) (Post : Int32 → (Nat → Int32) → (Nat → Int64) → (Nat → Nat → Int32) → (Nat → Nat → Int64) → Prop) : Prop :=
  wp_LassoSearch_markCycles (upd I 35 0) J (va_up B 56 (zFill (B 56) (-1) 6144)) D  (fun I4 J4 B4 D4 => wp_LassoSearch_measureStems I4 J4 B4 D4  (fun I5 J5 B5 D5 => wp_LassoSearch_shortestStem I5 J5 B5 D5  (fun r6 I6 J6 B6 D6 => ((r6 = (-1) → wc_LassoSearch_find_43  Post 0 (upd I6 36 r6) J6 B6 D6) ∧ (¬ r6 = (-1) → wc_LassoSearch_find_43  Post 1 (upd I6 36 r6) J6 B6 D6)))))
set_option maxHeartbeats 8000000 in
set_option maxRecDepth 100000 in
theorem wJ_LassoSearch_find_61 {p : Program} {l : Launch} {e : Env} {s : State} {m : MethodId} {below : List Frame} {meth : Method} {c : Code} {A : Nat → Prop} (G : va_G) (K : Nat → ClassId) (ad : Nat → Nat) (Post : Int32 → (Nat → Int32) → (Nat → Int64) → (Nat → Nat → Int32) → (Nat → Nat → Int64) → Prop) (C : zCx p s m ([.ref (ad 65)] : List Value).toArray meth c A G K prog_4_method_3_code (some .boolean) 1 "LassoFinder$LassoSearch") : ∀  (I : Nat → Int32) (J : Nat → Int64) (B : Nat → Nat → Int32) (D : Nat → Nat → Int64) (ls : Array Slot) (H : Heap) (locs : List Loc), wc_LassoSearch_find_61  Post  I J B D → lv_has ls 1 [(0, .ref (ad 65))] → zW G A s.heap (wS ad K I J B D) H locs → W p l e { frames := 6, cells := 0, slots := 0, locals := 138 } s m ([.ref (ad 65)] : List Value).toArray below meth c H locs 0 0 (MQ below (va_Qi (fun (r : Int32) (u : zS) => Post r u.1 u.2.1 u.2.2.1 u.2.2.2) (fun u t => zPost G K A (wS ad K u.1 u.2.1 u.2.2.1 u.2.2.2) t) A) ([.ref (ad 65)] : List Value).toArray s 0 0 A) (F0 m 61 ls []) := by
  obtain ⟨hx, hb, hr, hml, hts, hown, hlocks, hA, hK⟩ := id C
  intro  I J B D ls H locs hok hl hw
  unfold wc_LassoSearch_find_61 at hok
  refine lv_aload_n hx hb zd_LassoSearch_find_61 rfl (lv_at hl 0 rfl) ?_
  refine z_get (v := .int (I 38)) hx hb hts hown hK hw zZ3 0 wS_g0 19 (by decide) zn_818 rfl zd_LassoSearch_find_62 ?_
  have hbo := hok.1
  have hok := hok.2
  exact (z_iret (u := (I, J, B, D)) hx hb hr hlocks (z_nar hbo) hw (List.range 77) wS_all wS_nd hok (Nat.le_of_ble_eq_true rfl) (Nat.le_of_ble_eq_true rfl) zd_LassoSearch_find_65)
set_option maxHeartbeats 8000000 in
set_option maxRecDepth 100000 in
theorem wJ_LassoSearch_find_43 {p : Program} {l : Launch} {e : Env} {s : State} {m : MethodId} {below : List Frame} {meth : Method} {c : Code} {A : Nat → Prop} (G : va_G) (K : Nat → ClassId) (ad : Nat → Nat) (Post : Int32 → (Nat → Int32) → (Nat → Int64) → (Nat → Nat → Int32) → (Nat → Nat → Int64) → Prop) (C : zCx p s m ([.ref (ad 65)] : List Value).toArray meth c A G K prog_4_method_3_code (some .boolean) 1 "LassoFinder$LassoSearch") : ∀ (y0 : Int32) (I : Nat → Int32) (J : Nat → Int64) (B : Nat → Nat → Int32) (D : Nat → Nat → Int64) (ls : Array Slot) (H : Heap) (locs : List Loc), wc_LassoSearch_find_43  Post y0 I J B D → lv_has ls 1 [(0, .ref (ad 65))] → zW G A s.heap (wS ad K I J B D) H locs → W p l e { frames := 6, cells := 0, slots := 0, locals := 138 } s m ([.ref (ad 65)] : List Value).toArray below meth c H locs 0 0 (MQ below (va_Qi (fun (r : Int32) (u : zS) => Post r u.1 u.2.1 u.2.2.1 u.2.2.2) (fun u t => zPost G K A (wS ad K u.1 u.2.1 u.2.2.1 u.2.2.2) t) A) ([.ref (ad 65)] : List Value).toArray s 0 0 A) (F0 m 43 ls [.int y0, .ref (ad 65)]) := by
  obtain ⟨hx, hb, hr, hml, hts, hown, hlocks, hA, hK⟩ := id C
  intro y0 I J B D ls H locs hok hl hw
  unfold wc_LassoSearch_find_43 at hok
  have hbo := hok.1
  have hok := hok.2
  refine z_put (v := .int y0) hx hb hts hown hK hw zZ3 0 wS_g0 19 (by decide) zn_818 rfl (z_nar hbo) (by rcases hbo with h9 | h9 <;> rw [h9] <;> rfl) (Nat.le_of_ble_eq_true rfl) zd_LassoSearch_find_43 (fun H locs hw => ?_)
  have hw := wS_sI38 hw
  refine lv_aload_n hx hb zd_LassoSearch_find_46 rfl (lv_at hl 0 rfl) ?_
  refine z_get (v := .int y0) hx hb hts hown hK hw zZ3 0 wS_g0 19 (by decide) zn_818 rfl zd_LassoSearch_find_47 ?_
  refine lv_if_eq (tgt := 61) hx hb zd_LassoSearch_find_50 (by decide) (fun hc1 => ?_) (fun hc1 => ?_)
  · have hok := hok.1 hc1
    exact wJ_LassoSearch_find_61 G K ad  Post C (upd I 38 y0) J B D ls H locs hok (lv_sub hl [0] rfl) hw
  · have hok := hok.2 hc1
    refine lv_aload_n hx hb zd_LassoSearch_find_53 rfl (lv_at hl 0 rfl) ?_
    refine lv_aload_n hx hb zd_LassoSearch_find_54 rfl (lv_at hl 0 rfl) ?_
    refine z_calli (w1 := fun (u : zS) => wS ad K u.1 u.2.1 u.2.2.1 u.2.2.2) (wr := []) (z_runV (q0 := 0) (wc := (wS ad K (upd I 38 y0) J B D)) (As := []) (rest := [.ref (ad 65)]) ⟨hx, hb, hml, hown, hts⟩ (w_LassoSearch_followStem l G K ad (upd I 38 y0) J B D  _ H.size hok) zf_LassoSearch_followStem zn_557 ⟨Nat.le_of_ble_eq_true rfl, Nat.le_of_ble_eq_true rfl⟩ hK hw (List.range 77) wS_all wS_nd wS_g0 rfl rfl hl.1 rfl (Nat.le_of_ble_eq_true rfl) zd_LassoSearch_find_55 ⟨Nat.le_of_ble_eq_true rfl, Nat.le_of_ble_eq_true rfl⟩) hw hA (List.range 77) [] wS_all rfl (by decide) (fun i hi => by cases hi) (fun r2 u H locs hok hw => ?_)
    obtain ⟨I2, J2, B2, D2⟩ := u
    dsimp only at hok
    have hw : zW G A s.heap (wS ad K I2 J2 B2 D2) H locs := hw
    refine z_callv (w1 := fun (u : zS) => wS ad K u.1 u.2.1 u.2.2.1 u.2.2.2) (wr := []) (z_runV (q0 := 0) (wc := (wS ad K I2 J2 B2 D2)) (As := [.int r2]) (rest := []) ⟨hx, hb, hml, hown, hts⟩ (w_LassoSearch_findCycle l G K ad I2 J2 B2 D2 r2 _ H.size hok) zf_LassoSearch_findCycle zn_559 ⟨Nat.le_of_ble_eq_true rfl, Nat.le_of_ble_eq_true rfl⟩ hK hw (List.range 77) wS_all wS_nd wS_g0 rfl rfl hl.1 rfl (Nat.le_of_ble_eq_true rfl) zd_LassoSearch_find_58 ⟨Nat.le_of_ble_eq_true rfl, Nat.le_of_ble_eq_true rfl⟩) hw hA (List.range 77) [] wS_all rfl (by decide) (fun i hi => by cases hi) (fun u H locs hok hw => ?_)
    obtain ⟨I3, J3, B3, D3⟩ := u
    dsimp only at hok
    have hw : zW G A s.heap (wS ad K I3 J3 B3 D3) H locs := hw
    exact wJ_LassoSearch_find_61 G K ad  Post C I3 J3 B3 D3 ls H locs hok (lv_sub hl [0] rfl) hw
set_option maxHeartbeats 8000000 in
set_option maxRecDepth 100000 in
theorem w_LassoSearch_find (l : Launch) (G : va_G) (K : Nat → ClassId) (ad : Nat → Nat) (I : Nat → Int32) (J : Nat → Int64) (B : Nat → Nat → Int32) (D : Nat → Nat → Int64) (Post : Int32 → (Nat → Int32) → (Nat → Int64) → (Nat → Nat → Int32) → (Nat → Nat → Int64) → Prop) (sz : Nat) (hok : wp_LassoSearch_find I J B D  Post) : Met l zy_LassoSearch_find (Cond.code zy_LassoSearch_find prog_4_method_3_code 1 (some .boolean) :: zTB) { frames := 6, cells := 0, slots := 0, locals := 138 } (va_Pc [.ref (ad 65)] (zPre G K (wS ad K I J B D) sz)) (va_Qi (fun (r : Int32) (u : zS) => Post r u.1 u.2.1 u.2.2.1 u.2.2.2) (fun u t => zPost G K (va_A (wS ad K I J B D) sz) (wS ad K u.1 u.2.1 u.2.2.1 u.2.2.2) t) (va_A (wS ad K I J B D) sz)) 0 0 (va_A (wS ad K I J B D) sz) := by
  refine zMet (y := zy_LassoSearch_find) (av := [.ref (ad 65)]) (maxL := 1) (cc := prog_4_method_3_code) (ret := (some .boolean)) (W0 := (wS ad K I J B D)) (sz := sz) (G := G) (K := K) (wt := zTB) (mc := 0) (ms := 0) (Qf := fun A => va_Qi (fun (r : Int32) (u : zS) => Post r u.1 u.2.1 u.2.2.1 u.2.2.2) (fun u t => zPost G K A (wS ad K u.1 u.2.1 u.2.2.1 u.2.2.2) t) A) (by decide) (Nat.le_of_ble_eq_true rfl) ?_
  intro p e s m below meth c ls A hx hb hr hml hts hown hlocks hin hA hK H locs hw hsz hl
  clear hsz
  have hown : s.vm.findClass "LassoFinder$LassoSearch" = some m.cls := hown
  have C : zCx p s m ([.ref (ad 65)] : List Value).toArray meth c A G K prog_4_method_3_code (some .boolean) 1 "LassoFinder$LassoSearch" := ⟨hx, hb, hr, hml, hts, hown, hlocks, hA, hK⟩
  have hl : lv_has ls 1 [(0, .ref (ad 65))] := hl
  have hw : zW G A s.heap (wS ad K I J B D) H locs := hw
  unfold wp_LassoSearch_find at hok
  refine lv_aload_n hx hb zd_LassoSearch_find_0 rfl (lv_at hl 0 rfl) ?_
  refine lv_iconst (v := 0) hx hb zd_LassoSearch_find_1 (by decide) ?_
  refine z_put (v := .int 0) hx hb hts hown hK hw zZ3 0 wS_g0 13 (by decide) zn_829 rfl rfl rfl (Nat.le_of_ble_eq_true rfl) zd_LassoSearch_find_2 (fun H locs hw => ?_)
  have hw := wS_sI35 hw
  refine lv_aload_n hx hb zd_LassoSearch_find_5 rfl (lv_at hl 0 rfl) ?_
  refine z_get (v := .ref (ad 72)) hx hb hts hown hK hw zZ3 0 wS_g0 11 (by decide) zn_809 rfl zd_LassoSearch_find_6 ?_
  refine lv_iconst (v := (-1)) hx hb zd_LassoSearch_find_9 (by decide) ?_
  refine z_fillI (f := (B 56)) (v := (-1)) (n := 6144) (rest := []) ⟨hx, hb, hml, hown, hts⟩ hK hw hA 7 wS_a7 (by decide) zn_545 ⟨(Nat.le_of_ble_eq_true rfl), (Nat.le_of_ble_eq_true rfl)⟩ hl.1 rfl (Nat.le_of_ble_eq_true rfl) zd_LassoSearch_find_10 ⟨(Nat.le_of_ble_eq_true rfl), (Nat.le_of_ble_eq_true rfl)⟩ (fun H locs hw => ?_)
  have hw := wS_t7 hw
  refine lv_aload_n hx hb zd_LassoSearch_find_13 rfl (lv_at hl 0 rfl) ?_
  refine z_callv (w1 := fun (u : zS) => wS ad K u.1 u.2.1 u.2.2.1 u.2.2.2) (wr := []) (z_runV (q0 := 0) (wc := (wS ad K (upd I 35 0) J (va_up B 56 (zFill (B 56) (-1) 6144)) D)) (As := []) (rest := []) ⟨hx, hb, hml, hown, hts⟩ (w_LassoSearch_markCycles l G K ad (upd I 35 0) J (va_up B 56 (zFill (B 56) (-1) 6144)) D  _ H.size hok) zf_LassoSearch_markCycles zn_546 ⟨Nat.le_of_ble_eq_true rfl, Nat.le_of_ble_eq_true rfl⟩ hK hw (List.range 77) wS_all wS_nd wS_g0 rfl rfl hl.1 rfl (Nat.le_of_ble_eq_true rfl) zd_LassoSearch_find_14 ⟨Nat.le_of_ble_eq_true rfl, Nat.le_of_ble_eq_true rfl⟩) hw hA (List.range 77) [] wS_all rfl (by decide) (fun i hi => by cases hi) (fun u H locs hok hw => ?_)
  obtain ⟨I4, J4, B4, D4⟩ := u
  dsimp only at hok
  have hw : zW G A s.heap (wS ad K I4 J4 B4 D4) H locs := hw
  refine lv_aload_n hx hb zd_LassoSearch_find_17 rfl (lv_at hl 0 rfl) ?_
  refine z_callv (w1 := fun (u : zS) => wS ad K u.1 u.2.1 u.2.2.1 u.2.2.2) (wr := []) (z_runV (q0 := 0) (wc := (wS ad K I4 J4 B4 D4)) (As := []) (rest := []) ⟨hx, hb, hml, hown, hts⟩ (w_LassoSearch_measureStems l G K ad I4 J4 B4 D4  _ H.size hok) zf_LassoSearch_measureStems zn_555 ⟨Nat.le_of_ble_eq_true rfl, Nat.le_of_ble_eq_true rfl⟩ hK hw (List.range 77) wS_all wS_nd wS_g0 rfl rfl hl.1 rfl (Nat.le_of_ble_eq_true rfl) zd_LassoSearch_find_18 ⟨Nat.le_of_ble_eq_true rfl, Nat.le_of_ble_eq_true rfl⟩) hw hA (List.range 77) [] wS_all rfl (by decide) (fun i hi => by cases hi) (fun u H locs hok hw => ?_)
  obtain ⟨I5, J5, B5, D5⟩ := u
  dsimp only at hok
  have hw : zW G A s.heap (wS ad K I5 J5 B5 D5) H locs := hw
  refine lv_aload_n hx hb zd_LassoSearch_find_21 rfl (lv_at hl 0 rfl) ?_
  refine lv_aload_n hx hb zd_LassoSearch_find_22 rfl (lv_at hl 0 rfl) ?_
  refine z_calli (w1 := fun (u : zS) => wS ad K u.1 u.2.1 u.2.2.1 u.2.2.2) (wr := []) (z_runV (q0 := 0) (wc := (wS ad K I5 J5 B5 D5)) (As := []) (rest := [.ref (ad 65)]) ⟨hx, hb, hml, hown, hts⟩ (w_LassoSearch_shortestStem l G K ad I5 J5 B5 D5  _ H.size hok) zf_LassoSearch_shortestStem zn_556 ⟨Nat.le_of_ble_eq_true rfl, Nat.le_of_ble_eq_true rfl⟩ hK hw (List.range 77) wS_all wS_nd wS_g0 rfl rfl hl.1 rfl (Nat.le_of_ble_eq_true rfl) zd_LassoSearch_find_23 ⟨Nat.le_of_ble_eq_true rfl, Nat.le_of_ble_eq_true rfl⟩) hw hA (List.range 77) [] wS_all rfl (by decide) (fun i hi => by cases hi) (fun r6 u H locs hok hw => ?_)
  obtain ⟨I6, J6, B6, D6⟩ := u
  dsimp only at hok
  have hw : zW G A s.heap (wS ad K I6 J6 B6 D6) H locs := hw
  refine z_put (v := .int r6) hx hb hts hown hK hw zZ3 0 wS_g0 17 (by decide) zn_817 rfl rfl rfl (Nat.le_of_ble_eq_true rfl) zd_LassoSearch_find_26 (fun H locs hw => ?_)
  have hw := wS_sI36 hw
  refine lv_aload_n hx hb zd_LassoSearch_find_29 rfl (lv_at hl 0 rfl) ?_
  refine lv_aload_n hx hb zd_LassoSearch_find_30 rfl (lv_at hl 0 rfl) ?_
  refine z_get (v := .int r6) hx hb hts hown hK hw zZ3 0 wS_g0 17 (by decide) zn_817 rfl zd_LassoSearch_find_31 ?_
  refine lv_iconst (v := (-1)) hx hb zd_LassoSearch_find_34 (by decide) ?_
  refine lv_icmp_eq (tgt := 42) hx hb zd_LassoSearch_find_35 (by decide) (fun hc7 => ?_) (fun hc7 => ?_)
  · have hok := hok.1 hc7
    refine lv_iconst (v := 0) hx hb zd_LassoSearch_find_42 (by decide) ?_
    exact wJ_LassoSearch_find_43 G K ad  Post C 0 (upd I6 36 r6) J6 B6 D6 ls H locs hok (lv_sub hl [0] rfl) hw
  · have hok := hok.2 hc7
    refine lv_iconst (v := 1) hx hb zd_LassoSearch_find_38 (by decide) ?_
    refine lv_goto (tgt := 43) hx hb zd_LassoSearch_find_39 (by decide) ?_
    exact wJ_LassoSearch_find_43 G K ad  Post C 1 (upd I6 36 r6) J6 B6 D6 ls H locs hok (lv_sub hl [0] rfl) hw
def wc_LassoFinder_verify_S_56 (Post : Int32 → (Nat → Int32) → (Nat → Int64) → (Nat → Nat → Int32) → (Nat → Nat → Int64) → Prop) (PX : String → (Nat → Int32) → (Nat → Int64) → (Nat → Nat → Int32) → (Nat → Nat → Int64) → Prop) (y0 : Int32) (I : Nat → Int32) (J : Nat → Int64) (B : Nat → Nat → Int32) (D : Nat → Nat → Int64) : Prop :=
  (y0 = 0 ∨ y0 = 1) ∧ Post y0 I J B D
def wp_LassoFinder_verify_S (I : Nat → Int32) (J : Nat → Int64) (B : Nat → Nat → Int32) (D : Nat → Nat → Int64) (Post : Int32 → (Nat → Int32) → (Nat → Int64) → (Nat → Nat → Int32) → (Nat → Nat → Int64) → Prop) (PX : String → (Nat → Int32) → (Nat → Int64) → (Nat → Nat → Int32) → (Nat → Nat → Int64) → Prop) : Prop :=
  ((¬ (I 2) = 0 → wp_LassoSearch_find I J B D  (fun r2 I2 J2 B2 D2 => ((¬ r2 = 0 → wc_LassoFinder_verify_S_56  Post PX 0 I2 J2 B2 D2) ∧ (r2 = 0 → wc_LassoFinder_verify_S_56  Post PX 1 I2 J2 B2 D2)))) ∧ ((I 2) = 0 → PX "java/lang/IllegalStateException" I J B D))
set_option maxHeartbeats 8000000 in
set_option maxRecDepth 100000 in
theorem wJ_LassoFinder_verify_S_56 {p : Program} {l : Launch} {e : Env} {s : State} {m : MethodId} {below : List Frame} {meth : Method} {c : Code} {A : Nat → Prop} (G : va_G) (K : Nat → ClassId) (ad : Nat → Nat) (Post : Int32 → (Nat → Int32) → (Nat → Int64) → (Nat → Nat → Int32) → (Nat → Nat → Int64) → Prop) (PX : String → (Nat → Int32) → (Nat → Int64) → (Nat → Nat → Int32) → (Nat → Nat → Int64) → Prop) (C : zCy p l s m ([.ref (ad 0)] : List Value).toArray meth c A G K prog_1_method_6_code (some .boolean) 1 "LassoFinder") : ∀ (y0 : Int32) (I : Nat → Int32) (J : Nat → Int64) (B : Nat → Nat → Int32) (D : Nat → Nat → Int64) (ls : Array Slot) (H : Heap) (locs : List Loc), wc_LassoFinder_verify_S_56  Post PX y0 I J B D → lv_has ls 1 [] → zW G A s.heap (wS ad K I J B D) H locs → W p l e { frames := 7, cells := 1, slots := 6, locals := 158 } s m ([.ref (ad 0)] : List Value).toArray below meth c H locs 0 0 (zyMQ below (va_Qi (fun (r : Int32) (u : zS) => Post r u.1 u.2.1 u.2.2.1 u.2.2.2) (fun u t => zPost G K A (wS ad K u.1 u.2.1 u.2.2.1 u.2.2.2) t) A) (zYC (fun E (u : zS) => PX E u.1 u.2.1 u.2.2.1 u.2.2.2) (fun u => wS ad K u.1 u.2.1 u.2.2.1 u.2.2.2) G K A) ([.ref (ad 0)] : List Value).toArray s 1 6 A) (F0 m 56 ls [.int y0]) := by
  obtain ⟨hx, hb, hr, hml, hts, hown, hlocks, hA, hK, hT, hnt, hlt⟩ := id C
  intro y0 I J B D ls H locs hok hl hw
  unfold wc_LassoFinder_verify_S_56 at hok
  have hbo := hok.1
  have hok := hok.2
  exact zy_ret (z_iret (u := (I, J, B, D)) hx hb hr hlocks (z_nar hbo) hw (List.range 77) wS_all wS_nd hok (Nat.le_of_ble_eq_true rfl) (Nat.le_of_ble_eq_true rfl) zd_LassoFinder_verify_56)
set_option maxHeartbeats 8000000 in
set_option maxRecDepth 100000 in
theorem w_LassoFinder_verify_S (l : Launch) (hlt : l.stackTraces = false) (G : va_G) (K : Nat → ClassId) (ad : Nat → Nat) (I : Nat → Int32) (J : Nat → Int64) (B : Nat → Nat → Int32) (D : Nat → Nat → Int64) (Post : Int32 → (Nat → Int32) → (Nat → Int64) → (Nat → Nat → Int32) → (Nat → Nat → Int64) → Prop) (PX : String → (Nat → Int32) → (Nat → Int64) → (Nat → Nat → Int32) → (Nat → Nat → Int64) → Prop) (sz : Nat) (hok : wp_LassoFinder_verify_S I J B D  Post PX) : zyMet l zy_LassoFinder_verify (Cond.code zy_LassoFinder_verify prog_1_method_6_code 1 (some .boolean) :: zTB) { frames := 7, cells := 1, slots := 6, locals := 158 } (va_Pc [.ref (ad 0)] (zPreY G K (wS ad K I J B D) sz)) (va_Qi (fun (r : Int32) (u : zS) => Post r u.1 u.2.1 u.2.2.1 u.2.2.2) (fun u t => zPost G K (va_A (wS ad K I J B D) sz) (wS ad K u.1 u.2.1 u.2.2.1 u.2.2.2) t) (va_A (wS ad K I J B D) sz)) (zYC (fun E (u : zS) => PX E u.1 u.2.1 u.2.2.1 u.2.2.2) (fun u => wS ad K u.1 u.2.1 u.2.2.1 u.2.2.2) G K (va_A (wS ad K I J B D) sz)) 1 6 (va_A (wS ad K I J B D) sz) := by
  refine zMetY (y := zy_LassoFinder_verify) (av := [.ref (ad 0)]) (maxL := 1) (cc := prog_1_method_6_code) (ret := (some .boolean)) (W0 := (wS ad K I J B D)) (sz := sz) (G := G) (K := K) (wt := zTB) (mc := 1) (ms := 6) (Qf := fun A => va_Qi (fun (r : Int32) (u : zS) => Post r u.1 u.2.1 u.2.2.1 u.2.2.2) (fun u t => zPost G K A (wS ad K u.1 u.2.1 u.2.2.1 u.2.2.2) t) A) (Xf := fun A => (zYC (fun E (u : zS) => PX E u.1 u.2.1 u.2.2.1 u.2.2.2) (fun u => wS ad K u.1 u.2.1 u.2.2.1 u.2.2.2) G K A)) (by decide) (Nat.le_of_ble_eq_true rfl) ?_
  intro p e s m below meth c ls A hx hb hr hml hts hown hlocks hin hA hK H locs hw hsz hl hT hnt
  clear hsz
  have hown : s.vm.findClass "LassoFinder" = some m.cls := hown
  have C : zCy p l s m ([.ref (ad 0)] : List Value).toArray meth c A G K prog_1_method_6_code (some .boolean) 1 "LassoFinder" := ⟨hx, hb, hr, hml, hts, hown, hlocks, hA, hK, hT, hnt, hlt⟩
  have hl : lv_has ls 1 [(0, .ref (ad 0))] := hl
  have hw : zW G A s.heap (wS ad K I J B D) H locs := hw
  unfold wp_LassoFinder_verify_S at hok
  refine lv_aload_n hx hb zd_LassoFinder_verify_0 rfl (lv_at hl 0 rfl) ?_
  refine z_get (v := .int (I 2)) hx hb hts hown hK hw zZ0 12 wS_g12 12 (by decide) zn_415 rfl zd_LassoFinder_verify_1 ?_
  refine lv_if_ne (tgt := 15) hx hb zd_LassoFinder_verify_4 (by decide) (fun hc1 => ?_) (fun hc1 => ?_)
  · have hok := hok.1 hc1
    refine lv_aload_n hx hb zd_LassoFinder_verify_15 rfl (lv_at hl 0 rfl) ?_
    refine z_get (v := .ref (ad 65)) hx hb hts hown hK hw zZ0 12 wS_g12 8 (by decide) zn_295 rfl zd_LassoFinder_verify_16 ?_
    refine lv_ifnonnull (tgt := 41) hx hb zd_LassoFinder_verify_19 (by decide) ?_
    refine lv_aload_n hx hb zd_LassoFinder_verify_41 rfl (lv_at hl 0 rfl) ?_
    refine z_get (v := .ref (ad 65)) hx hb hts hown hK hw zZ0 12 wS_g12 8 (by decide) zn_295 rfl zd_LassoFinder_verify_42 ?_
    refine z_calli (w1 := fun (u : zS) => wS ad K u.1 u.2.1 u.2.2.1 u.2.2.2) (wr := []) (z_runV (q0 := 0) (wc := (wS ad K I J B D)) (As := []) (rest := []) ⟨hx, hb, hml, hown, hts⟩ (w_LassoSearch_find l G K ad I J B D  _ H.size hok) zf_LassoSearch_find zn_544 ⟨Nat.le_of_ble_eq_true rfl, Nat.le_of_ble_eq_true rfl⟩ hK hw (List.range 77) wS_all wS_nd wS_g0 rfl rfl hl.1 rfl (Nat.le_of_ble_eq_true rfl) zd_LassoFinder_verify_45 ⟨Nat.le_of_ble_eq_true rfl, Nat.le_of_ble_eq_true rfl⟩) hw hA (List.range 77) [] wS_all rfl (by decide) (fun i hi => by cases hi) (fun r2 u H locs hok hw => ?_)
    obtain ⟨I2, J2, B2, D2⟩ := u
    dsimp only at hok
    have hw : zW G A s.heap (wS ad K I2 J2 B2 D2) H locs := hw
    refine lv_if_ne (tgt := 55) hx hb zd_LassoFinder_verify_48 (by decide) (fun hc3 => ?_) (fun hc3 => ?_)
    · have hok := hok.1 hc3
      refine lv_iconst (v := 0) hx hb zd_LassoFinder_verify_55 (by decide) ?_
      exact wJ_LassoFinder_verify_S_56 G K ad  Post PX C 0 I2 J2 B2 D2 ls H locs hok (lv_sub hl [] rfl) hw
    · have hok := hok.2 hc3
      refine lv_iconst (v := 1) hx hb zd_LassoFinder_verify_51 (by decide) ?_
      refine lv_goto (tgt := 56) hx hb zd_LassoFinder_verify_52 (by decide) ?_
      exact wJ_LassoFinder_verify_S_56 G K ad  Post PX C 1 I2 J2 B2 D2 ls H locs hok (lv_sub hl [] rfl) hw
  · have hok := hok.2 hc1
    exact z_ythrow (u := (I, J, B, D)) (names := ["java/lang/RuntimeException", "java/lang/Exception"]) hx hb hlt hts hown hnt hlocks hT (by rw [hml]; exact hl.1) (by decide +kernel) (by decide +kernel) zn_567 zn_568 zn_569 zx_1 hw (List.range 77) wS_all wS_nd hok zd_LassoFinder_verify_7 zd_LassoFinder_verify_10 zd_LassoFinder_verify_11 zd_LassoFinder_verify_14 (Nat.le_of_ble_eq_true rfl) (Nat.le_of_ble_eq_true rfl) (Nat.le_of_ble_eq_true rfl) (Nat.le_of_ble_eq_true rfl) (Nat.le_of_ble_eq_true rfl) (Nat.le_of_ble_eq_true rfl)
def wc_LassoSearch_stepOf_28 (a0 : Int32) (Post : Int32 → (Nat → Int32) → (Nat → Int64) → (Nat → Nat → Int32) → (Nat → Nat → Int64) → Prop) (y0 : Int32) (I : Nat → Int32) (J : Nat → Int64) (B : Nat → Nat → Int32) (D : Nat → Nat → Int64) : Prop :=
  Post y0 I J B D
def wp_LassoSearch_stepOf (I : Nat → Int32) (J : Nat → Int64) (B : Nat → Nat → Int32) (D : Nat → Nat → Int64) (a0 : Int32) (Post : Int32 → (Nat → Int32) → (Nat → Int64) → (Nat → Nat → Int32) → (Nat → Nat → Int64) → Prop) : Prop :=
  (((I 36) ≤ a0 → ∀ z2 : Int32, z2 = (a0 - (I 36)) → vp_in z2 3072 ∧ ∀ z3 : Int32, z3 = ((B 59) z2.toNatClampNeg) → wc_LassoSearch_stepOf_28 a0 Post z3 I J B D) ∧ (¬ (I 36) ≤ a0 → vp_in a0 768 ∧ ∀ z4 : Int32, z4 = ((B 58) a0.toNatClampNeg) → wc_LassoSearch_stepOf_28 a0 Post z4 I J B D))
set_option maxHeartbeats 8000000 in
set_option maxRecDepth 100000 in
theorem wJ_LassoSearch_stepOf_28 {p : Program} {l : Launch} {e : Env} {s : State} {m : MethodId} {below : List Frame} {meth : Method} {c : Code} {A : Nat → Prop} (G : va_G) (K : Nat → ClassId) (ad : Nat → Nat) (a0 : Int32) (Post : Int32 → (Nat → Int32) → (Nat → Int64) → (Nat → Nat → Int32) → (Nat → Nat → Int64) → Prop) (C : zCx p s m ([.ref (ad 65), .int a0] : List Value).toArray meth c A G K prog_4_method_2_code (some .int) 2 "LassoFinder$LassoSearch") : ∀ (y0 : Int32) (I : Nat → Int32) (J : Nat → Int64) (B : Nat → Nat → Int32) (D : Nat → Nat → Int64) (ls : Array Slot) (H : Heap) (locs : List Loc), wc_LassoSearch_stepOf_28 a0 Post y0 I J B D → lv_has ls 2 [] → zW G A s.heap (wS ad K I J B D) H locs → W p l e { frames := 0, cells := 0, slots := 0, locals := 0 } s m ([.ref (ad 65), .int a0] : List Value).toArray below meth c H locs 0 0 (MQ below (va_Qi (fun (r : Int32) (u : zS) => Post r u.1 u.2.1 u.2.2.1 u.2.2.2) (fun u t => zPost G K A (wS ad K u.1 u.2.1 u.2.2.1 u.2.2.2) t) A) ([.ref (ad 65), .int a0] : List Value).toArray s 0 0 A) (F0 m 28 ls [.int y0]) := by
  obtain ⟨hx, hb, hr, hml, hts, hown, hlocks, hA, hK⟩ := id C
  intro y0 I J B D ls H locs hok hl hw
  unfold wc_LassoSearch_stepOf_28 at hok
  exact (z_iret (u := (I, J, B, D)) hx hb hr hlocks rfl hw (List.range 77) wS_all wS_nd hok (Nat.le_of_ble_eq_true rfl) (Nat.le_of_ble_eq_true rfl) zd_LassoSearch_stepOf_28)
set_option maxHeartbeats 8000000 in
set_option maxRecDepth 100000 in
theorem w_LassoSearch_stepOf (l : Launch) (G : va_G) (K : Nat → ClassId) (ad : Nat → Nat) (I : Nat → Int32) (J : Nat → Int64) (B : Nat → Nat → Int32) (D : Nat → Nat → Int64) (a0 : Int32) (Post : Int32 → (Nat → Int32) → (Nat → Int64) → (Nat → Nat → Int32) → (Nat → Nat → Int64) → Prop) (sz : Nat) (hok : wp_LassoSearch_stepOf I J B D a0 Post) : Met l zy_LassoSearch_stepOf (Cond.code zy_LassoSearch_stepOf prog_4_method_2_code 2 (some .int) :: zTB) { frames := 0, cells := 0, slots := 0, locals := 0 } (va_Pc [.ref (ad 65), .int a0] (zPre G K (wS ad K I J B D) sz)) (va_Qi (fun (r : Int32) (u : zS) => Post r u.1 u.2.1 u.2.2.1 u.2.2.2) (fun u t => zPost G K (va_A (wS ad K I J B D) sz) (wS ad K u.1 u.2.1 u.2.2.1 u.2.2.2) t) (va_A (wS ad K I J B D) sz)) 0 0 (va_A (wS ad K I J B D) sz) := by
  refine zMet (y := zy_LassoSearch_stepOf) (av := [.ref (ad 65), .int a0]) (maxL := 2) (cc := prog_4_method_2_code) (ret := (some .int)) (W0 := (wS ad K I J B D)) (sz := sz) (G := G) (K := K) (wt := zTB) (mc := 0) (ms := 0) (Qf := fun A => va_Qi (fun (r : Int32) (u : zS) => Post r u.1 u.2.1 u.2.2.1 u.2.2.2) (fun u t => zPost G K A (wS ad K u.1 u.2.1 u.2.2.1 u.2.2.2) t) A) (by decide) (Nat.le_of_ble_eq_true rfl) ?_
  intro p e s m below meth c ls A hx hb hr hml hts hown hlocks hin hA hK H locs hw hsz hl
  clear hsz
  have hown : s.vm.findClass "LassoFinder$LassoSearch" = some m.cls := hown
  have C : zCx p s m ([.ref (ad 65), .int a0] : List Value).toArray meth c A G K prog_4_method_2_code (some .int) 2 "LassoFinder$LassoSearch" := ⟨hx, hb, hr, hml, hts, hown, hlocks, hA, hK⟩
  have hl : lv_has ls 2 [(0, .ref (ad 65)), (1, .int a0)] := hl
  have hw : zW G A s.heap (wS ad K I J B D) H locs := hw
  unfold wp_LassoSearch_stepOf at hok
  refine lv_iload_n hx hb zd_LassoSearch_stepOf_0 rfl (lv_at hl 1 rfl) ?_
  refine lv_aload_n hx hb zd_LassoSearch_stepOf_1 rfl (lv_at hl 0 rfl) ?_
  refine z_get (v := .int (I 36)) hx hb hts hown hK hw zZ3 0 wS_g0 17 (by decide) zn_817 rfl zd_LassoSearch_stepOf_2 ?_
  refine lv_icmp_ge (tgt := 17) hx hb zd_LassoSearch_stepOf_5 (by decide) (fun hc1 => ?_) (fun hc1 => ?_)
  · have hok := hok.1 hc1
    refine lv_aload_n hx hb zd_LassoSearch_stepOf_17 rfl (lv_at hl 0 rfl) ?_
    refine z_get (v := .ref (zfl ad (I 39) 75 76)) hx hb hts hown hK hw zZ3 0 wS_g0 15 (by decide) zn_812 rfl zd_LassoSearch_stepOf_18 ?_
    refine lv_iload_n hx hb zd_LassoSearch_stepOf_21 rfl (lv_at hl 1 rfl) ?_
    refine lv_aload_n hx hb zd_LassoSearch_stepOf_22 rfl (lv_at hl 0 rfl) ?_
    refine z_get (v := .int (I 36)) hx hb hts hown hK hw zZ3 0 wS_g0 17 (by decide) zn_817 rfl zd_LassoSearch_stepOf_23 ?_
    refine lv_isub hx hb zd_LassoSearch_stepOf_26 ?_
    refine lv_topi (fun z2 ez2 => ?_)
    have hok := hok z2 ez2
    refine va_iald (f := (B 59)) hx hb hK hw.1 10 0 wS_a10 rfl hok.1 zd_LassoSearch_stepOf_27 ?_
    have hok := hok.2
    refine lv_topi (fun z3 ez3 => ?_)
    have hok := hok z3 ez3
    exact wJ_LassoSearch_stepOf_28 G K ad a0 Post C z3 I J B D ls H locs hok (lv_sub hl [] rfl) hw
  · have hok := hok.2 hc1
    refine lv_aload_n hx hb zd_LassoSearch_stepOf_8 rfl (lv_at hl 0 rfl) ?_
    refine z_get (v := .ref (ad 74)) hx hb hts hown hK hw zZ3 0 wS_g0 14 (by decide) zn_811 rfl zd_LassoSearch_stepOf_9 ?_
    refine lv_iload_n hx hb zd_LassoSearch_stepOf_12 rfl (lv_at hl 1 rfl) ?_
    refine va_iald (f := (B 58)) hx hb hK hw.1 9 0 wS_a9 rfl hok.1 zd_LassoSearch_stepOf_13 ?_
    have hok := hok.2
    refine lv_topi (fun z4 ez4 => ?_)
    have hok := hok z4 ez4
    refine lv_goto (tgt := 28) hx hb zd_LassoSearch_stepOf_14 (by decide) ?_
    exact wJ_LassoSearch_stepOf_28 G K ad a0 Post C z4 I J B D ls H locs hok (lv_sub hl [] rfl) hw
def wc_LassoFinder_lasso_S_30 (a0 : Int32) (a1 : Int32) (Post : Int32 → (Nat → Int32) → (Nat → Int64) → (Nat → Nat → Int32) → (Nat → Nat → Int64) → Prop) (PX : String → (Nat → Int32) → (Nat → Int64) → (Nat → Nat → Int32) → (Nat → Nat → Int64) → Prop)  (I : Nat → Int32) (J : Nat → Int64) (B : Nat → Nat → Int32) (D : Nat → Nat → Int64) : Prop :=
  PX "java/lang/IndexOutOfBoundsException" I J B D
def wp_LassoFinder_lasso_S (I : Nat → Int32) (J : Nat → Int64) (B : Nat → Nat → Int32) (D : Nat → Nat → Int64) (a0 : Int32) (a1 : Int32) (Post : Int32 → (Nat → Int32) → (Nat → Int64) → (Nat → Nat → Int32) → (Nat → Nat → Int64) → Prop) (PX : String → (Nat → Int32) → (Nat → Int64) → (Nat → Nat → Int32) → (Nat → Nat → Int64) → Prop) : Prop :=
  wp_LassoFinder_hasLasso_S I J B D  (fun r1 I1 J1 B1 D1 => ((r1 = 0 → wc_LassoFinder_lasso_S_30 a0 a1 Post PX I1 J1 B1 D1) ∧ (¬ r1 = 0 → ((a0 < 0 → wc_LassoFinder_lasso_S_30 a0 a1 Post PX I1 J1 B1 D1) ∧ (¬ a0 < 0 → ∀ z4 : Int32, z4 = ((I1 36) + (I1 37)) → ((a0 < z4 → wp_LassoSearch_stepOf I1 J1 B1 D1 a0 (fun r6 I6 J6 B6 D6 => ((a1 = 0 → vp_in r6 400 ∧ ∀ z8 : Int32, z8 = ((B6 33) r6.toNatClampNeg) → vp_in z8 97 ∧ ∀ z9 : Int32, z9 = ((B6 32) z8.toNatClampNeg) → ∀ z10 : Int32, z10 = (r6 - z9) → Post z10 I6 J6 B6 D6) ∧ (a1 = 1 → vp_in r6 400 ∧ ∀ z12 : Int32, z12 = ((B6 35) r6.toNatClampNeg) → Post z12 I6 J6 B6 D6) ∧ (a1 = 2 → vp_in r6 400 ∧ ∀ z14 : Int32, z14 = ((B6 36) r6.toNatClampNeg) → Post z14 I6 J6 B6 D6) ∧ (¬ a1 = 0 → ¬ a1 = 1 → ¬ a1 = 2 → PX "java/lang/IndexOutOfBoundsException" I6 J6 B6 D6)))) ∧ (¬ a0 < z4 → wc_LassoFinder_lasso_S_30 a0 a1 Post PX I1 J1 B1 D1)))))))
set_option maxHeartbeats 8000000 in
set_option maxRecDepth 100000 in
theorem wJ_LassoFinder_lasso_S_30 {p : Program} {l : Launch} {e : Env} {s : State} {m : MethodId} {below : List Frame} {meth : Method} {c : Code} {A : Nat → Prop} (G : va_G) (K : Nat → ClassId) (ad : Nat → Nat) (a0 : Int32) (a1 : Int32) (Post : Int32 → (Nat → Int32) → (Nat → Int64) → (Nat → Nat → Int32) → (Nat → Nat → Int64) → Prop) (PX : String → (Nat → Int32) → (Nat → Int64) → (Nat → Nat → Int32) → (Nat → Nat → Int64) → Prop) (C : zCy p l s m ([.ref (ad 0), .int a0, .int a1] : List Value).toArray meth c A G K prog_1_method_9_code (some .int) 4 "LassoFinder") : ∀  (I : Nat → Int32) (J : Nat → Int64) (B : Nat → Nat → Int32) (D : Nat → Nat → Int64) (ls : Array Slot) (H : Heap) (locs : List Loc), wc_LassoFinder_lasso_S_30 a0 a1 Post PX  I J B D → lv_has ls 4 [] → zW G A s.heap (wS ad K I J B D) H locs → W p l e { frames := 6, cells := 1, slots := 6, locals := 81 } s m ([.ref (ad 0), .int a0, .int a1] : List Value).toArray below meth c H locs 0 0 (zyMQ below (va_Qi (fun (r : Int32) (u : zS) => Post r u.1 u.2.1 u.2.2.1 u.2.2.2) (fun u t => zPost G K A (wS ad K u.1 u.2.1 u.2.2.1 u.2.2.2) t) A) (zYC (fun E (u : zS) => PX E u.1 u.2.1 u.2.2.1 u.2.2.2) (fun u => wS ad K u.1 u.2.1 u.2.2.1 u.2.2.2) G K A) ([.ref (ad 0), .int a0, .int a1] : List Value).toArray s 1 6 A) (F0 m 30 ls []) := by
  obtain ⟨hx, hb, hr, hml, hts, hown, hlocks, hA, hK, hT, hnt, hlt⟩ := id C
  intro  I J B D ls H locs hok hl hw
  unfold wc_LassoFinder_lasso_S_30 at hok
  exact z_ythrow (u := (I, J, B, D)) (names := ["java/lang/RuntimeException", "java/lang/Exception"]) hx hb hlt hts hown hnt hlocks hT (by rw [hml]; exact hl.1) (by decide +kernel) (by decide +kernel) zn_573 zn_574 zn_575 zx_2 hw (List.range 77) wS_all wS_nd hok zd_LassoFinder_lasso_30 zd_LassoFinder_lasso_33 zd_LassoFinder_lasso_34 zd_LassoFinder_lasso_37 (Nat.le_of_ble_eq_true rfl) (Nat.le_of_ble_eq_true rfl) (Nat.le_of_ble_eq_true rfl) (Nat.le_of_ble_eq_true rfl) (Nat.le_of_ble_eq_true rfl) (Nat.le_of_ble_eq_true rfl)
set_option maxHeartbeats 8000000 in
set_option maxRecDepth 100000 in
theorem w_LassoFinder_lasso_S (l : Launch) (hlt : l.stackTraces = false) (G : va_G) (K : Nat → ClassId) (ad : Nat → Nat) (I : Nat → Int32) (J : Nat → Int64) (B : Nat → Nat → Int32) (D : Nat → Nat → Int64) (a0 : Int32) (a1 : Int32) (Post : Int32 → (Nat → Int32) → (Nat → Int64) → (Nat → Nat → Int32) → (Nat → Nat → Int64) → Prop) (PX : String → (Nat → Int32) → (Nat → Int64) → (Nat → Nat → Int32) → (Nat → Nat → Int64) → Prop) (sz : Nat) (hok : wp_LassoFinder_lasso_S I J B D a0 a1 Post PX) : zyMet l zy_LassoFinder_lasso (Cond.code zy_LassoFinder_lasso prog_1_method_9_code 4 (some .int) :: zTB) { frames := 6, cells := 1, slots := 6, locals := 81 } (va_Pc [.ref (ad 0), .int a0, .int a1] (zPreY G K (wS ad K I J B D) sz)) (va_Qi (fun (r : Int32) (u : zS) => Post r u.1 u.2.1 u.2.2.1 u.2.2.2) (fun u t => zPost G K (va_A (wS ad K I J B D) sz) (wS ad K u.1 u.2.1 u.2.2.1 u.2.2.2) t) (va_A (wS ad K I J B D) sz)) (zYC (fun E (u : zS) => PX E u.1 u.2.1 u.2.2.1 u.2.2.2) (fun u => wS ad K u.1 u.2.1 u.2.2.1 u.2.2.2) G K (va_A (wS ad K I J B D) sz)) 1 6 (va_A (wS ad K I J B D) sz) := by
  refine zMetY (y := zy_LassoFinder_lasso) (av := [.ref (ad 0), .int a0, .int a1]) (maxL := 4) (cc := prog_1_method_9_code) (ret := (some .int)) (W0 := (wS ad K I J B D)) (sz := sz) (G := G) (K := K) (wt := zTB) (mc := 1) (ms := 6) (Qf := fun A => va_Qi (fun (r : Int32) (u : zS) => Post r u.1 u.2.1 u.2.2.1 u.2.2.2) (fun u t => zPost G K A (wS ad K u.1 u.2.1 u.2.2.1 u.2.2.2) t) A) (Xf := fun A => (zYC (fun E (u : zS) => PX E u.1 u.2.1 u.2.2.1 u.2.2.2) (fun u => wS ad K u.1 u.2.1 u.2.2.1 u.2.2.2) G K A)) (by decide) (Nat.le_of_ble_eq_true rfl) ?_
  intro p e s m below meth c ls A hx hb hr hml hts hown hlocks hin hA hK H locs hw hsz hl hT hnt
  clear hsz
  have hown : s.vm.findClass "LassoFinder" = some m.cls := hown
  have C : zCy p l s m ([.ref (ad 0), .int a0, .int a1] : List Value).toArray meth c A G K prog_1_method_9_code (some .int) 4 "LassoFinder" := ⟨hx, hb, hr, hml, hts, hown, hlocks, hA, hK, hT, hnt, hlt⟩
  have hl : lv_has ls 4 [(0, .ref (ad 0)), (1, .int a0), (2, .int a1)] := hl
  have hw : zW G A s.heap (wS ad K I J B D) H locs := hw
  unfold wp_LassoFinder_lasso_S at hok
  refine lv_aload_n hx hb zd_LassoFinder_lasso_0 rfl (lv_at hl 0 rfl) ?_
  refine z_calli (w1 := fun (u : zS) => wS ad K u.1 u.2.1 u.2.2.1 u.2.2.2) (wr := []) (z_runV (q0 := 12) (wc := (wS ad K I J B D)) (As := []) (rest := []) ⟨hx, hb, hml, hown, hts⟩ (w_LassoFinder_hasLasso_S l G K ad I J B D  _ H.size hok) zf_LassoFinder_hasLasso zn_294 ⟨Nat.le_of_ble_eq_true rfl, Nat.le_of_ble_eq_true rfl⟩ hK hw (List.range 77) wS_all wS_nd wS_g12 rfl rfl hl.1 rfl (Nat.le_of_ble_eq_true rfl) zd_LassoFinder_lasso_1 ⟨Nat.le_of_ble_eq_true rfl, Nat.le_of_ble_eq_true rfl⟩) hw hA (List.range 77) [] wS_all rfl (by decide) (fun i hi => by cases hi) (fun r1 u H locs hok hw => ?_)
  obtain ⟨I1, J1, B1, D1⟩ := u
  dsimp only at hok
  have hw : zW G A s.heap (wS ad K I1 J1 B1 D1) H locs := hw
  refine lv_if_eq (tgt := 30) hx hb zd_LassoFinder_lasso_4 (by decide) (fun hc2 => ?_) (fun hc2 => ?_)
  · have hok := hok.1 hc2
    exact wJ_LassoFinder_lasso_S_30 G K ad a0 a1 Post PX C I1 J1 B1 D1 ls H locs hok (lv_sub hl [] rfl) hw
  · have hok := hok.2 hc2
    refine lv_iload_n hx hb zd_LassoFinder_lasso_7 rfl (lv_at hl 1 rfl) ?_
    refine lv_if_lt (tgt := 30) hx hb zd_LassoFinder_lasso_8 (by decide) (fun hc3 => ?_) (fun hc3 => ?_)
    · have hok := hok.1 hc3
      exact wJ_LassoFinder_lasso_S_30 G K ad a0 a1 Post PX C I1 J1 B1 D1 ls H locs hok (lv_sub hl [] rfl) hw
    · have hok := hok.2 hc3
      refine lv_iload_n hx hb zd_LassoFinder_lasso_11 rfl (lv_at hl 1 rfl) ?_
      refine lv_aload_n hx hb zd_LassoFinder_lasso_12 rfl (lv_at hl 0 rfl) ?_
      refine z_get (v := .ref (ad 65)) hx hb hts hown hK hw zZ0 12 wS_g12 8 (by decide) zn_295 rfl zd_LassoFinder_lasso_13 ?_
      refine z_get (v := .int (I1 36)) hx hb hts hown hK hw zZ3 0 wS_g0 17 (by decide) zn_814 rfl zd_LassoFinder_lasso_16 ?_
      refine lv_aload_n hx hb zd_LassoFinder_lasso_19 rfl (lv_at hl 0 rfl) ?_
      refine z_get (v := .ref (ad 65)) hx hb hts hown hK hw zZ0 12 wS_g12 8 (by decide) zn_295 rfl zd_LassoFinder_lasso_20 ?_
      refine z_get (v := .int (I1 37)) hx hb hts hown hK hw zZ3 0 wS_g0 18 (by decide) zn_816 rfl zd_LassoFinder_lasso_23 ?_
      refine lv_iadd hx hb zd_LassoFinder_lasso_26 ?_
      refine lv_topi (fun z4 ez4 => ?_)
      have hok := hok z4 ez4
      refine lv_icmp_lt (tgt := 38) hx hb zd_LassoFinder_lasso_27 (by decide) (fun hc5 => ?_) (fun hc5 => ?_)
      · have hok := hok.1 hc5
        refine lv_aload_n hx hb zd_LassoFinder_lasso_38 rfl (lv_at hl 0 rfl) ?_
        refine z_get (v := .ref (ad 65)) hx hb hts hown hK hw zZ0 12 wS_g12 8 (by decide) zn_295 rfl zd_LassoFinder_lasso_39 ?_
        refine lv_iload_n hx hb zd_LassoFinder_lasso_42 rfl (lv_at hl 1 rfl) ?_
        refine z_calli (w1 := fun (u : zS) => wS ad K u.1 u.2.1 u.2.2.1 u.2.2.2) (wr := []) (z_runV (q0 := 0) (wc := (wS ad K I1 J1 B1 D1)) (As := [.int a0]) (rest := []) ⟨hx, hb, hml, hown, hts⟩ (w_LassoSearch_stepOf l G K ad I1 J1 B1 D1 a0 _ H.size hok) zf_LassoSearch_stepOf zn_566 ⟨Nat.le_of_ble_eq_true rfl, Nat.le_of_ble_eq_true rfl⟩ hK hw (List.range 77) wS_all wS_nd wS_g0 rfl rfl hl.1 rfl (Nat.le_of_ble_eq_true rfl) zd_LassoFinder_lasso_43 ⟨Nat.le_of_ble_eq_true rfl, Nat.le_of_ble_eq_true rfl⟩) hw hA (List.range 77) [] wS_all rfl (by decide) (fun i hi => by cases hi) (fun r6 u H locs hok hw => ?_)
        obtain ⟨I6, J6, B6, D6⟩ := u
        dsimp only at hok
        have hw : zW G A s.heap (wS ad K I6 J6 B6 D6) H locs := hw
        refine lv_istore_n hx hb zd_LassoFinder_lasso_46 rfl hl (by decide) rfl (fun ls hl => ?_)
        have hl : lv_has ls 4 [(3, .int r6), (0, .ref (ad 0)), (1, .int a0), (2, .int a1)] := hl
        refine lv_iload_n hx hb zd_LassoFinder_lasso_47 rfl (lv_at hl 3 rfl) ?_
        by_cases hs7 : a1 = 0
        · have hok := hok.1 hs7
          refine lv_tableIn (off := 28) (tgt := 76) hx hb zd_LassoFinder_lasso_48 (by rw [hs7]; decide) (by rw [hs7]; decide) (by rw [hs7]; decide) (by decide) ?_
          refine lv_iload_n hx hb zd_LassoFinder_lasso_76 rfl (lv_at hl 0 rfl) ?_
          refine lv_aload_n hx hb zd_LassoFinder_lasso_77 rfl (lv_at hl 1 rfl) ?_
          refine z_get (v := .ref (ad 8)) hx hb hts hown hK hw zZ0 12 wS_g12 5 (by decide) zn_298 rfl zd_LassoFinder_lasso_78 ?_
          refine z_get (v := .ref (ad 47)) hx hb hts hown hK hw zZ2 20 wS_g20 2 (by decide) zn_570 rfl zd_LassoFinder_lasso_81 ?_
          refine lv_aload_n hx hb zd_LassoFinder_lasso_84 rfl (lv_at hl 1 rfl) ?_
          refine z_get (v := .ref (ad 8)) hx hb hts hown hK hw zZ0 12 wS_g12 5 (by decide) zn_298 rfl zd_LassoFinder_lasso_85 ?_
          refine z_get (v := .ref (ad 48)) hx hb hts hown hK hw zZ2 20 wS_g20 3 (by decide) zn_840 rfl zd_LassoFinder_lasso_88 ?_
          refine lv_iload_n hx hb zd_LassoFinder_lasso_91 rfl (lv_at hl 0 rfl) ?_
          refine va_iald (f := (B6 33)) hx hb hK hw.1 60 0 wS_a60 rfl hok.1 zd_LassoFinder_lasso_92 ?_
          have hok := hok.2
          refine lv_topi (fun z8 ez8 => ?_)
          have hok := hok z8 ez8
          refine va_iald (f := (B6 32)) hx hb hK hw.1 59 0 wS_a59 rfl hok.1 zd_LassoFinder_lasso_93 ?_
          have hok := hok.2
          refine lv_topi (fun z9 ez9 => ?_)
          have hok := hok z9 ez9
          refine lv_isub hx hb zd_LassoFinder_lasso_94 ?_
          refine lv_topi (fun z10 ez10 => ?_)
          have hok := hok z10 ez10
          exact zy_ret (z_iret (u := (I6, J6, B6, D6)) hx hb hr hlocks rfl hw (List.range 77) wS_all wS_nd hok (Nat.le_of_ble_eq_true rfl) (Nat.le_of_ble_eq_true rfl) zd_LassoFinder_lasso_95)
        by_cases hs11 : a1 = 1
        · have hok := hok.2.1 hs11
          refine lv_tableIn (off := 48) (tgt := 96) hx hb zd_LassoFinder_lasso_48 (by rw [hs11]; decide) (by rw [hs11]; decide) (by rw [hs11]; decide) (by decide) ?_
          refine lv_aload_n hx hb zd_LassoFinder_lasso_96 rfl (lv_at hl 1 rfl) ?_
          refine z_get (v := .ref (ad 8)) hx hb hts hown hK hw zZ0 12 wS_g12 5 (by decide) zn_298 rfl zd_LassoFinder_lasso_97 ?_
          refine z_get (v := .ref (ad 50)) hx hb hts hown hK hw zZ2 20 wS_g20 5 (by decide) zn_572 rfl zd_LassoFinder_lasso_100 ?_
          refine lv_iload_n hx hb zd_LassoFinder_lasso_103 rfl (lv_at hl 0 rfl) ?_
          refine va_iald (f := (B6 35)) hx hb hK hw.1 62 0 wS_a62 rfl hok.1 zd_LassoFinder_lasso_104 ?_
          have hok := hok.2
          refine lv_topi (fun z12 ez12 => ?_)
          have hok := hok z12 ez12
          exact zy_ret (z_iret (u := (I6, J6, B6, D6)) hx hb hr hlocks rfl hw (List.range 77) wS_all wS_nd hok (Nat.le_of_ble_eq_true rfl) (Nat.le_of_ble_eq_true rfl) zd_LassoFinder_lasso_105)
        by_cases hs13 : a1 = 2
        · have hok := hok.2.2.1 hs13
          refine lv_tableIn (off := 58) (tgt := 106) hx hb zd_LassoFinder_lasso_48 (by rw [hs13]; decide) (by rw [hs13]; decide) (by rw [hs13]; decide) (by decide) ?_
          refine lv_aload_n hx hb zd_LassoFinder_lasso_106 rfl (lv_at hl 1 rfl) ?_
          refine z_get (v := .ref (ad 8)) hx hb hts hown hK hw zZ0 12 wS_g12 5 (by decide) zn_298 rfl zd_LassoFinder_lasso_107 ?_
          refine z_get (v := .ref (ad 51)) hx hb hts hown hK hw zZ2 20 wS_g20 6 (by decide) zn_839 rfl zd_LassoFinder_lasso_110 ?_
          refine lv_iload_n hx hb zd_LassoFinder_lasso_113 rfl (lv_at hl 0 rfl) ?_
          refine va_iald (f := (B6 36)) hx hb hK hw.1 63 0 wS_a63 rfl hok.1 zd_LassoFinder_lasso_114 ?_
          have hok := hok.2
          refine lv_topi (fun z14 ez14 => ?_)
          have hok := hok z14 ez14
          exact zy_ret (z_iret (u := (I6, J6, B6, D6)) hx hb hr hlocks rfl hw (List.range 77) wS_all wS_nd hok (Nat.le_of_ble_eq_true rfl) (Nat.le_of_ble_eq_true rfl) zd_LassoFinder_lasso_115)
        have hok := hok.2.2.2 hs7 hs11 hs13
        refine lv_tableOut (tgt := 116) hx hb zd_LassoFinder_lasso_48 (by have h0 := lv_neT hs7 (a := 0) (by decide); have h1 := lv_neT hs11 (a := 1) (by decide); have h2 := lv_neT hs13 (a := 2) (by decide); omega) (by decide) ?_
        exact z_ythrow (u := (I6, J6, B6, D6)) (names := ["java/lang/RuntimeException", "java/lang/Exception"]) hx hb hlt hts hown hnt hlocks hT (by rw [hml]; exact hl.1) (by decide +kernel) (by decide +kernel) zn_573 zn_574 zn_575 zx_2 hw (List.range 77) wS_all wS_nd hok zd_LassoFinder_lasso_116 zd_LassoFinder_lasso_119 zd_LassoFinder_lasso_120 zd_LassoFinder_lasso_123 (Nat.le_of_ble_eq_true rfl) (Nat.le_of_ble_eq_true rfl) (Nat.le_of_ble_eq_true rfl) (Nat.le_of_ble_eq_true rfl) (Nat.le_of_ble_eq_true rfl) (Nat.le_of_ble_eq_true rfl)
      · have hok := hok.2 hc5
        exact wJ_LassoFinder_lasso_S_30 G K ad a0 a1 Post PX C I1 J1 B1 D1 ls H locs hok (lv_sub hl [] rfl) hw
def wp_LassoFinder_hasLasso_N (I : Nat → Int32) (J : Nat → Int64) (B : Nat → Nat → Int32) (D : Nat → Nat → Int64) (Post : Int32 → (Nat → Int32) → (Nat → Int64) → (Nat → Nat → Int32) → (Nat → Nat → Int64) → Prop) : Prop :=
  Post 0 I J B D
set_option maxHeartbeats 8000000 in
set_option maxRecDepth 100000 in
theorem w_LassoFinder_hasLasso_N (l : Launch) (G : va_G) (K : Nat → ClassId) (ad : Nat → Nat) (I : Nat → Int32) (J : Nat → Int64) (B : Nat → Nat → Int32) (D : Nat → Nat → Int64) (Post : Int32 → (Nat → Int32) → (Nat → Int64) → (Nat → Nat → Int32) → (Nat → Nat → Int64) → Prop) (sz : Nat) (hok : wp_LassoFinder_hasLasso_N I J B D  Post) : Met l zy_LassoFinder_hasLasso (Cond.code zy_LassoFinder_hasLasso prog_1_method_20_code 1 (some .boolean) :: zTB) { frames := 0, cells := 0, slots := 0, locals := 0 } (va_Pc [.ref (ad 0)] (zPre G K (wX ad K Value.null I J B D) sz)) (va_Qi (fun (r : Int32) (u : zS) => Post r u.1 u.2.1 u.2.2.1 u.2.2.2) (fun u t => zPost G K (va_A (wX ad K Value.null I J B D) sz) (wX ad K Value.null u.1 u.2.1 u.2.2.1 u.2.2.2) t) (va_A (wX ad K Value.null I J B D) sz)) 0 0 (va_A (wX ad K Value.null I J B D) sz) := by
  refine zMet (y := zy_LassoFinder_hasLasso) (av := [.ref (ad 0)]) (maxL := 1) (cc := prog_1_method_20_code) (ret := (some .boolean)) (W0 := (wX ad K Value.null I J B D)) (sz := sz) (G := G) (K := K) (wt := zTB) (mc := 0) (ms := 0) (Qf := fun A => va_Qi (fun (r : Int32) (u : zS) => Post r u.1 u.2.1 u.2.2.1 u.2.2.2) (fun u t => zPost G K A (wX ad K Value.null u.1 u.2.1 u.2.2.1 u.2.2.2) t) A) (by decide) (Nat.le_of_ble_eq_true rfl) ?_
  intro p e s m below meth c ls A hx hb hr hml hts hown hlocks hin hA hK H locs hw hsz hl
  clear hsz
  have hown : s.vm.findClass "LassoFinder" = some m.cls := hown
  have C : zCx p s m ([.ref (ad 0)] : List Value).toArray meth c A G K prog_1_method_20_code (some .boolean) 1 "LassoFinder" := ⟨hx, hb, hr, hml, hts, hown, hlocks, hA, hK⟩
  have hl : lv_has ls 1 [(0, .ref (ad 0))] := hl
  have hw : zW G A s.heap (wX ad K Value.null I J B D) H locs := hw
  unfold wp_LassoFinder_hasLasso_N at hok
  refine lv_aload_n hx hb zd_LassoFinder_hasLasso_0 rfl (lv_at hl 0 rfl) ?_
  refine z_get (v := .null) hx hb hts hown hK hw zZ0 0 wX_g0 8 (by decide) zn_295 rfl zd_LassoFinder_hasLasso_1 ?_
  refine lv_ifnullN (tgt := 21) hx hb zd_LassoFinder_hasLasso_4 (by decide) ?_
  refine lv_iconst (v := 0) hx hb zd_LassoFinder_hasLasso_21 (by decide) ?_
  exact (z_iret (u := (I, J, B, D)) hx hb hr hlocks rfl hw (List.range 65) wX_all wX_nd hok (Nat.le_of_ble_eq_true rfl) (Nat.le_of_ble_eq_true rfl) zd_LassoFinder_hasLasso_22)
def wc_LassoFinder_stem_N_18 (Post : Int32 → (Nat → Int32) → (Nat → Int64) → (Nat → Nat → Int32) → (Nat → Nat → Int64) → Prop) (y0 : Int32) (I : Nat → Int32) (J : Nat → Int64) (B : Nat → Nat → Int32) (D : Nat → Nat → Int64) : Prop :=
  Post y0 I J B D
def wp_LassoFinder_stem_N (I : Nat → Int32) (J : Nat → Int64) (B : Nat → Nat → Int32) (D : Nat → Nat → Int64) (Post : Int32 → (Nat → Int32) → (Nat → Int64) → (Nat → Nat → Int32) → (Nat → Nat → Int64) → Prop) : Prop :=
  wp_LassoFinder_hasLasso_N I J B D  (fun r1 I1 J1 B1 D1 => ((r1 = 0 → wc_LassoFinder_stem_N_18  Post (-1) I1 J1 B1 D1) ∧ (¬ r1 = 0 → False)))
set_option maxHeartbeats 8000000 in
set_option maxRecDepth 100000 in
theorem wJ_LassoFinder_stem_N_18 {p : Program} {l : Launch} {e : Env} {s : State} {m : MethodId} {below : List Frame} {meth : Method} {c : Code} {A : Nat → Prop} (G : va_G) (K : Nat → ClassId) (ad : Nat → Nat) (Post : Int32 → (Nat → Int32) → (Nat → Int64) → (Nat → Nat → Int32) → (Nat → Nat → Int64) → Prop) (C : zCx p s m ([.ref (ad 0)] : List Value).toArray meth c A G K prog_1_method_7_code (some .int) 1 "LassoFinder") : ∀ (y0 : Int32) (I : Nat → Int32) (J : Nat → Int64) (B : Nat → Nat → Int32) (D : Nat → Nat → Int64) (ls : Array Slot) (H : Heap) (locs : List Loc), wc_LassoFinder_stem_N_18  Post y0 I J B D → lv_has ls 1 [] → zW G A s.heap (wX ad K Value.null I J B D) H locs → W p l e { frames := 1, cells := 0, slots := 0, locals := 20 } s m ([.ref (ad 0)] : List Value).toArray below meth c H locs 0 0 (MQ below (va_Qi (fun (r : Int32) (u : zS) => Post r u.1 u.2.1 u.2.2.1 u.2.2.2) (fun u t => zPost G K A (wX ad K Value.null u.1 u.2.1 u.2.2.1 u.2.2.2) t) A) ([.ref (ad 0)] : List Value).toArray s 0 0 A) (F0 m 18 ls [.int y0]) := by
  obtain ⟨hx, hb, hr, hml, hts, hown, hlocks, hA, hK⟩ := id C
  intro y0 I J B D ls H locs hok hl hw
  unfold wc_LassoFinder_stem_N_18 at hok
  exact (z_iret (u := (I, J, B, D)) hx hb hr hlocks rfl hw (List.range 65) wX_all wX_nd hok (Nat.le_of_ble_eq_true rfl) (Nat.le_of_ble_eq_true rfl) zd_LassoFinder_stem_18)
set_option maxHeartbeats 8000000 in
set_option maxRecDepth 100000 in
theorem w_LassoFinder_stem_N (l : Launch) (G : va_G) (K : Nat → ClassId) (ad : Nat → Nat) (I : Nat → Int32) (J : Nat → Int64) (B : Nat → Nat → Int32) (D : Nat → Nat → Int64) (Post : Int32 → (Nat → Int32) → (Nat → Int64) → (Nat → Nat → Int32) → (Nat → Nat → Int64) → Prop) (sz : Nat) (hok : wp_LassoFinder_stem_N I J B D  Post) : Met l zy_LassoFinder_stem (Cond.code zy_LassoFinder_stem prog_1_method_7_code 1 (some .int) :: zTB) { frames := 1, cells := 0, slots := 0, locals := 20 } (va_Pc [.ref (ad 0)] (zPre G K (wX ad K Value.null I J B D) sz)) (va_Qi (fun (r : Int32) (u : zS) => Post r u.1 u.2.1 u.2.2.1 u.2.2.2) (fun u t => zPost G K (va_A (wX ad K Value.null I J B D) sz) (wX ad K Value.null u.1 u.2.1 u.2.2.1 u.2.2.2) t) (va_A (wX ad K Value.null I J B D) sz)) 0 0 (va_A (wX ad K Value.null I J B D) sz) := by
  refine zMet (y := zy_LassoFinder_stem) (av := [.ref (ad 0)]) (maxL := 1) (cc := prog_1_method_7_code) (ret := (some .int)) (W0 := (wX ad K Value.null I J B D)) (sz := sz) (G := G) (K := K) (wt := zTB) (mc := 0) (ms := 0) (Qf := fun A => va_Qi (fun (r : Int32) (u : zS) => Post r u.1 u.2.1 u.2.2.1 u.2.2.2) (fun u t => zPost G K A (wX ad K Value.null u.1 u.2.1 u.2.2.1 u.2.2.2) t) A) (by decide) (Nat.le_of_ble_eq_true rfl) ?_
  intro p e s m below meth c ls A hx hb hr hml hts hown hlocks hin hA hK H locs hw hsz hl
  clear hsz
  have hown : s.vm.findClass "LassoFinder" = some m.cls := hown
  have C : zCx p s m ([.ref (ad 0)] : List Value).toArray meth c A G K prog_1_method_7_code (some .int) 1 "LassoFinder" := ⟨hx, hb, hr, hml, hts, hown, hlocks, hA, hK⟩
  have hl : lv_has ls 1 [(0, .ref (ad 0))] := hl
  have hw : zW G A s.heap (wX ad K Value.null I J B D) H locs := hw
  unfold wp_LassoFinder_stem_N at hok
  refine lv_aload_n hx hb zd_LassoFinder_stem_0 rfl (lv_at hl 0 rfl) ?_
  refine z_calli (w1 := fun (u : zS) => wX ad K Value.null u.1 u.2.1 u.2.2.1 u.2.2.2) (wr := []) (z_runV (q0 := 0) (wc := (wX ad K Value.null I J B D)) (As := []) (rest := []) ⟨hx, hb, hml, hown, hts⟩ (w_LassoFinder_hasLasso_N l G K ad I J B D  _ H.size hok) zf_LassoFinder_hasLasso zn_294 ⟨Nat.le_of_ble_eq_true rfl, Nat.le_of_ble_eq_true rfl⟩ hK hw (List.range 65) wX_all wX_nd wX_g0 rfl rfl hl.1 rfl (Nat.le_of_ble_eq_true rfl) zd_LassoFinder_stem_1 ⟨Nat.le_of_ble_eq_true rfl, Nat.le_of_ble_eq_true rfl⟩) hw hA (List.range 65) [] wX_all rfl (by decide) (fun i hi => by cases hi) (fun r1 u H locs hok hw => ?_)
  obtain ⟨I1, J1, B1, D1⟩ := u
  dsimp only at hok
  have hw : zW G A s.heap (wX ad K Value.null I1 J1 B1 D1) H locs := hw
  refine lv_if_eq (tgt := 17) hx hb zd_LassoFinder_stem_4 (by decide) (fun hc2 => ?_) (fun hc2 => ?_)
  · have hok := hok.1 hc2
    refine lv_iconst (v := (-1)) hx hb zd_LassoFinder_stem_17 (by decide) ?_
    exact wJ_LassoFinder_stem_N_18 G K ad  Post C (-1) I1 J1 B1 D1 ls H locs hok (lv_sub hl [] rfl) hw
  · have hok := hok.2 hc2
    refine lv_aload_n hx hb zd_LassoFinder_stem_7 rfl (lv_at hl 0 rfl) ?_
    refine z_get (v := .null) hx hb hts hown hK hw zZ0 0 wX_g0 8 (by decide) zn_295 rfl zd_LassoFinder_stem_8 ?_
    exact hok.elim
def wc_LassoFinder_cycle_N_18 (Post : Int32 → (Nat → Int32) → (Nat → Int64) → (Nat → Nat → Int32) → (Nat → Nat → Int64) → Prop) (y0 : Int32) (I : Nat → Int32) (J : Nat → Int64) (B : Nat → Nat → Int32) (D : Nat → Nat → Int64) : Prop :=
  Post y0 I J B D
def wp_LassoFinder_cycle_N (I : Nat → Int32) (J : Nat → Int64) (B : Nat → Nat → Int32) (D : Nat → Nat → Int64) (Post : Int32 → (Nat → Int32) → (Nat → Int64) → (Nat → Nat → Int32) → (Nat → Nat → Int64) → Prop) : Prop :=
  wp_LassoFinder_hasLasso_N I J B D  (fun r1 I1 J1 B1 D1 => ((r1 = 0 → wc_LassoFinder_cycle_N_18  Post 0 I1 J1 B1 D1) ∧ (¬ r1 = 0 → False)))
set_option maxHeartbeats 8000000 in
set_option maxRecDepth 100000 in
theorem wJ_LassoFinder_cycle_N_18 {p : Program} {l : Launch} {e : Env} {s : State} {m : MethodId} {below : List Frame} {meth : Method} {c : Code} {A : Nat → Prop} (G : va_G) (K : Nat → ClassId) (ad : Nat → Nat) (Post : Int32 → (Nat → Int32) → (Nat → Int64) → (Nat → Nat → Int32) → (Nat → Nat → Int64) → Prop) (C : zCx p s m ([.ref (ad 0)] : List Value).toArray meth c A G K prog_1_method_8_code (some .int) 1 "LassoFinder") : ∀ (y0 : Int32) (I : Nat → Int32) (J : Nat → Int64) (B : Nat → Nat → Int32) (D : Nat → Nat → Int64) (ls : Array Slot) (H : Heap) (locs : List Loc), wc_LassoFinder_cycle_N_18  Post y0 I J B D → lv_has ls 1 [] → zW G A s.heap (wX ad K Value.null I J B D) H locs → W p l e { frames := 1, cells := 0, slots := 0, locals := 20 } s m ([.ref (ad 0)] : List Value).toArray below meth c H locs 0 0 (MQ below (va_Qi (fun (r : Int32) (u : zS) => Post r u.1 u.2.1 u.2.2.1 u.2.2.2) (fun u t => zPost G K A (wX ad K Value.null u.1 u.2.1 u.2.2.1 u.2.2.2) t) A) ([.ref (ad 0)] : List Value).toArray s 0 0 A) (F0 m 18 ls [.int y0]) := by
  obtain ⟨hx, hb, hr, hml, hts, hown, hlocks, hA, hK⟩ := id C
  intro y0 I J B D ls H locs hok hl hw
  unfold wc_LassoFinder_cycle_N_18 at hok
  exact (z_iret (u := (I, J, B, D)) hx hb hr hlocks rfl hw (List.range 65) wX_all wX_nd hok (Nat.le_of_ble_eq_true rfl) (Nat.le_of_ble_eq_true rfl) zd_LassoFinder_cycle_18)
set_option maxHeartbeats 8000000 in
set_option maxRecDepth 100000 in
theorem w_LassoFinder_cycle_N (l : Launch) (G : va_G) (K : Nat → ClassId) (ad : Nat → Nat) (I : Nat → Int32) (J : Nat → Int64) (B : Nat → Nat → Int32) (D : Nat → Nat → Int64) (Post : Int32 → (Nat → Int32) → (Nat → Int64) → (Nat → Nat → Int32) → (Nat → Nat → Int64) → Prop) (sz : Nat) (hok : wp_LassoFinder_cycle_N I J B D  Post) : Met l zy_LassoFinder_cycle (Cond.code zy_LassoFinder_cycle prog_1_method_8_code 1 (some .int) :: zTB) { frames := 1, cells := 0, slots := 0, locals := 20 } (va_Pc [.ref (ad 0)] (zPre G K (wX ad K Value.null I J B D) sz)) (va_Qi (fun (r : Int32) (u : zS) => Post r u.1 u.2.1 u.2.2.1 u.2.2.2) (fun u t => zPost G K (va_A (wX ad K Value.null I J B D) sz) (wX ad K Value.null u.1 u.2.1 u.2.2.1 u.2.2.2) t) (va_A (wX ad K Value.null I J B D) sz)) 0 0 (va_A (wX ad K Value.null I J B D) sz) := by
  refine zMet (y := zy_LassoFinder_cycle) (av := [.ref (ad 0)]) (maxL := 1) (cc := prog_1_method_8_code) (ret := (some .int)) (W0 := (wX ad K Value.null I J B D)) (sz := sz) (G := G) (K := K) (wt := zTB) (mc := 0) (ms := 0) (Qf := fun A => va_Qi (fun (r : Int32) (u : zS) => Post r u.1 u.2.1 u.2.2.1 u.2.2.2) (fun u t => zPost G K A (wX ad K Value.null u.1 u.2.1 u.2.2.1 u.2.2.2) t) A) (by decide) (Nat.le_of_ble_eq_true rfl) ?_
  intro p e s m below meth c ls A hx hb hr hml hts hown hlocks hin hA hK H locs hw hsz hl
  clear hsz
  have hown : s.vm.findClass "LassoFinder" = some m.cls := hown
  have C : zCx p s m ([.ref (ad 0)] : List Value).toArray meth c A G K prog_1_method_8_code (some .int) 1 "LassoFinder" := ⟨hx, hb, hr, hml, hts, hown, hlocks, hA, hK⟩
  have hl : lv_has ls 1 [(0, .ref (ad 0))] := hl
  have hw : zW G A s.heap (wX ad K Value.null I J B D) H locs := hw
  unfold wp_LassoFinder_cycle_N at hok
  refine lv_aload_n hx hb zd_LassoFinder_cycle_0 rfl (lv_at hl 0 rfl) ?_
  refine z_calli (w1 := fun (u : zS) => wX ad K Value.null u.1 u.2.1 u.2.2.1 u.2.2.2) (wr := []) (z_runV (q0 := 0) (wc := (wX ad K Value.null I J B D)) (As := []) (rest := []) ⟨hx, hb, hml, hown, hts⟩ (w_LassoFinder_hasLasso_N l G K ad I J B D  _ H.size hok) zf_LassoFinder_hasLasso zn_294 ⟨Nat.le_of_ble_eq_true rfl, Nat.le_of_ble_eq_true rfl⟩ hK hw (List.range 65) wX_all wX_nd wX_g0 rfl rfl hl.1 rfl (Nat.le_of_ble_eq_true rfl) zd_LassoFinder_cycle_1 ⟨Nat.le_of_ble_eq_true rfl, Nat.le_of_ble_eq_true rfl⟩) hw hA (List.range 65) [] wX_all rfl (by decide) (fun i hi => by cases hi) (fun r1 u H locs hok hw => ?_)
  obtain ⟨I1, J1, B1, D1⟩ := u
  dsimp only at hok
  have hw : zW G A s.heap (wX ad K Value.null I1 J1 B1 D1) H locs := hw
  refine lv_if_eq (tgt := 17) hx hb zd_LassoFinder_cycle_4 (by decide) (fun hc2 => ?_) (fun hc2 => ?_)
  · have hok := hok.1 hc2
    refine lv_iconst (v := 0) hx hb zd_LassoFinder_cycle_17 (by decide) ?_
    exact wJ_LassoFinder_cycle_N_18 G K ad  Post C 0 I1 J1 B1 D1 ls H locs hok (lv_sub hl [] rfl) hw
  · have hok := hok.2 hc2
    refine lv_aload_n hx hb zd_LassoFinder_cycle_7 rfl (lv_at hl 0 rfl) ?_
    refine z_get (v := .null) hx hb hts hown hK hw zZ0 0 wX_g0 8 (by decide) zn_295 rfl zd_LassoFinder_cycle_8 ?_
    exact hok.elim
def wp_LassoFinder_dropFormula_N (I : Nat → Int32) (J : Nat → Int64) (B : Nat → Nat → Int32) (D : Nat → Nat → Int64) (Post : (Nat → Int32) → (Nat → Int64) → (Nat → Nat → Int32) → (Nat → Nat → Int64) → Prop) : Prop :=
  Post (upd I 2 0) J B D
set_option maxHeartbeats 8000000 in
set_option maxRecDepth 100000 in
theorem w_LassoFinder_dropFormula_N (l : Launch) (G : va_G) (K : Nat → ClassId) (ad : Nat → Nat) (I : Nat → Int32) (J : Nat → Int64) (B : Nat → Nat → Int32) (D : Nat → Nat → Int64) (Post : (Nat → Int32) → (Nat → Int64) → (Nat → Nat → Int32) → (Nat → Nat → Int64) → Prop) (sz : Nat) (hok : wp_LassoFinder_dropFormula_N I J B D  Post) : Met l zy_LassoFinder_dropFormula (Cond.code zy_LassoFinder_dropFormula prog_1_method_19_code 1 none :: zTB) { frames := 0, cells := 0, slots := 0, locals := 0 } (va_Pc [.ref (ad 0)] (zPre G K (wX ad K Value.null I J B D) sz)) (va_Qv (fun u : zS => Post u.1 u.2.1 u.2.2.1 u.2.2.2) (fun u t => zPost G K (va_A (wX ad K Value.null I J B D) sz) (wX ad K Value.null u.1 u.2.1 u.2.2.1 u.2.2.2) t) (va_A (wX ad K Value.null I J B D) sz)) 0 0 (va_A (wX ad K Value.null I J B D) sz) := by
  refine zMet (y := zy_LassoFinder_dropFormula) (av := [.ref (ad 0)]) (maxL := 1) (cc := prog_1_method_19_code) (ret := none) (W0 := (wX ad K Value.null I J B D)) (sz := sz) (G := G) (K := K) (wt := zTB) (mc := 0) (ms := 0) (Qf := fun A => va_Qv (fun u : zS => Post u.1 u.2.1 u.2.2.1 u.2.2.2) (fun u t => zPost G K A (wX ad K Value.null u.1 u.2.1 u.2.2.1 u.2.2.2) t) A) (by decide) (Nat.le_of_ble_eq_true rfl) ?_
  intro p e s m below meth c ls A hx hb hr hml hts hown hlocks hin hA hK H locs hw hsz hl
  clear hsz
  have hown : s.vm.findClass "LassoFinder" = some m.cls := hown
  have C : zCx p s m ([.ref (ad 0)] : List Value).toArray meth c A G K prog_1_method_19_code none 1 "LassoFinder" := ⟨hx, hb, hr, hml, hts, hown, hlocks, hA, hK⟩
  have hl : lv_has ls 1 [(0, .ref (ad 0))] := hl
  have hw : zW G A s.heap (wX ad K Value.null I J B D) H locs := hw
  unfold wp_LassoFinder_dropFormula_N at hok
  refine lv_aload_n hx hb zd_LassoFinder_dropFormula_0 rfl (lv_at hl 0 rfl) ?_
  refine lv_iconst (v := 0) hx hb zd_LassoFinder_dropFormula_1 (by decide) ?_
  refine z_put (v := .int 0) hx hb hts hown hK hw zZ0 0 wX_g0 12 (by decide) zn_415 rfl rfl rfl (Nat.le_of_ble_eq_true rfl) zd_LassoFinder_dropFormula_2 (fun H locs hw => ?_)
  have hw := wX_sI2 hw
  refine lv_aload_n hx hb zd_LassoFinder_dropFormula_5 rfl (lv_at hl 0 rfl) ?_
  refine z_get (v := .null) hx hb hts hown hK hw zZ0 0 wX_g0 8 (by decide) zn_295 rfl zd_LassoFinder_dropFormula_6 ?_
  refine lv_ifnullN (tgt := 20) hx hb zd_LassoFinder_dropFormula_9 (by decide) ?_
  exact (z_vret (u := ((upd I 2 0), J, B, D)) hx hb hr hlocks hw (List.range 65) wX_all wX_nd hok (Nat.le_of_ble_eq_true rfl) (Nat.le_of_ble_eq_true rfl) zd_LassoFinder_dropFormula_20)
def wp_LassoFinder_model_N (I : Nat → Int32) (J : Nat → Int64) (B : Nat → Nat → Int32) (D : Nat → Nat → Int64) (Post : Int32 → (Nat → Int32) → (Nat → Int64) → (Nat → Nat → Int32) → (Nat → Nat → Int64) → Prop) (PX : String → (Nat → Int32) → (Nat → Int64) → (Nat → Nat → Int32) → (Nat → Nat → Int64) → Prop) : Prop :=
  wp_LassoFinder_dropFormula_N (upd (upd I 1 0) 0 (-1)) J B D  (fun I1 J1 B1 D1 => wp_Text_open I1 J1 B1 D1  (fun I2 J2 B2 D2 => wp_ModelReader_readAll I2 J2 B2 D2  (fun I3 J3 B3 D3 => wp_Graph_explore I3 J3 B3 D3  (fun r4 I4 J4 B4 D4 => ((¬ r4 = 0 → Post (I4 19) (upd I4 1 1) J4 B4 D4) ∧ (r4 = 0 → PX "java/lang/UnsupportedOperationException" I4 J4 B4 D4)))) PX))
set_option maxHeartbeats 8000000 in
set_option maxRecDepth 100000 in
theorem w_LassoFinder_model_N (l : Launch) (hlt : l.stackTraces = false) (G : va_G) (K : Nat → ClassId) (ad : Nat → Nat) (I : Nat → Int32) (J : Nat → Int64) (B : Nat → Nat → Int32) (D : Nat → Nat → Int64) (Post : Int32 → (Nat → Int32) → (Nat → Int64) → (Nat → Nat → Int32) → (Nat → Nat → Int64) → Prop) (PX : String → (Nat → Int32) → (Nat → Int64) → (Nat → Nat → Int32) → (Nat → Nat → Int64) → Prop) (sz : Nat) (hok : wp_LassoFinder_model_N I J B D  Post PX) : zyMet l zy_LassoFinder_model (Cond.code zy_LassoFinder_model prog_1_method_3_code 1 (some .int) :: zTB) { frames := 36, cells := 1, slots := 6, locals := 838 } (va_Pc [.ref (ad 0)] (zPreY G K (wX ad K Value.null I J B D) sz)) (va_Qi (fun (r : Int32) (u : zS) => Post r u.1 u.2.1 u.2.2.1 u.2.2.2) (fun u t => zPost G K (va_A (wX ad K Value.null I J B D) sz) (wX ad K Value.null u.1 u.2.1 u.2.2.1 u.2.2.2) t) (va_A (wX ad K Value.null I J B D) sz)) (zYC (fun E (u : zS) => PX E u.1 u.2.1 u.2.2.1 u.2.2.2) (fun u => wX ad K Value.null u.1 u.2.1 u.2.2.1 u.2.2.2) G K (va_A (wX ad K Value.null I J B D) sz)) 1 6 (va_A (wX ad K Value.null I J B D) sz) := by
  refine zMetY (y := zy_LassoFinder_model) (av := [.ref (ad 0)]) (maxL := 1) (cc := prog_1_method_3_code) (ret := (some .int)) (W0 := (wX ad K Value.null I J B D)) (sz := sz) (G := G) (K := K) (wt := zTB) (mc := 1) (ms := 6) (Qf := fun A => va_Qi (fun (r : Int32) (u : zS) => Post r u.1 u.2.1 u.2.2.1 u.2.2.2) (fun u t => zPost G K A (wX ad K Value.null u.1 u.2.1 u.2.2.1 u.2.2.2) t) A) (Xf := fun A => (zYC (fun E (u : zS) => PX E u.1 u.2.1 u.2.2.1 u.2.2.2) (fun u => wX ad K Value.null u.1 u.2.1 u.2.2.1 u.2.2.2) G K A)) (by decide) (Nat.le_of_ble_eq_true rfl) ?_
  intro p e s m below meth c ls A hx hb hr hml hts hown hlocks hin hA hK H locs hw hsz hl hT hnt
  clear hsz
  have hown : s.vm.findClass "LassoFinder" = some m.cls := hown
  have C : zCy p l s m ([.ref (ad 0)] : List Value).toArray meth c A G K prog_1_method_3_code (some .int) 1 "LassoFinder" := ⟨hx, hb, hr, hml, hts, hown, hlocks, hA, hK, hT, hnt, hlt⟩
  have hl : lv_has ls 1 [(0, .ref (ad 0))] := hl
  have hw : zW G A s.heap (wX ad K Value.null I J B D) H locs := hw
  unfold wp_LassoFinder_model_N at hok
  refine lv_aload_n hx hb zd_LassoFinder_model_0 rfl (lv_at hl 0 rfl) ?_
  refine lv_iconst (v := 0) hx hb zd_LassoFinder_model_1 (by decide) ?_
  refine z_put (v := .int 0) hx hb hts hown hK hw zZ0 0 wX_g0 11 (by decide) zn_317 rfl rfl rfl (Nat.le_of_ble_eq_true rfl) zd_LassoFinder_model_2 (fun H locs hw => ?_)
  have hw := wX_sI1 hw
  refine lv_aload_n hx hb zd_LassoFinder_model_5 rfl (lv_at hl 0 rfl) ?_
  refine lv_iconst (v := (-1)) hx hb zd_LassoFinder_model_6 (by decide) ?_
  refine z_put (v := .int (-1)) hx hb hts hown hK hw zZ0 0 wX_g0 10 (by decide) zn_297 rfl rfl rfl (Nat.le_of_ble_eq_true rfl) zd_LassoFinder_model_7 (fun H locs hw => ?_)
  have hw := wX_sI0 hw
  refine lv_aload_n hx hb zd_LassoFinder_model_10 rfl (lv_at hl 0 rfl) ?_
  refine z_callv (w1 := fun (u : zS) => wX ad K Value.null u.1 u.2.1 u.2.2.1 u.2.2.2) (wr := []) (z_runV (q0 := 0) (wc := (wX ad K Value.null (upd (upd I 1 0) 0 (-1)) J B D)) (As := []) (rest := []) ⟨hx, hb, hml, hown, hts⟩ (w_LassoFinder_dropFormula_N l G K ad (upd (upd I 1 0) 0 (-1)) J B D  _ H.size hok) zf_LassoFinder_dropFormula zn_321 ⟨Nat.le_of_ble_eq_true rfl, Nat.le_of_ble_eq_true rfl⟩ hK hw (List.range 65) wX_all wX_nd wX_g0 rfl rfl hl.1 rfl (Nat.le_of_ble_eq_true rfl) zd_LassoFinder_model_11 ⟨Nat.le_of_ble_eq_true rfl, Nat.le_of_ble_eq_true rfl⟩) hw hA (List.range 65) [] wX_all rfl (by decide) (fun i hi => by cases hi) (fun u H locs hok hw => ?_)
  obtain ⟨I1, J1, B1, D1⟩ := u
  dsimp only at hok
  have hw : zW G A s.heap (wX ad K Value.null I1 J1 B1 D1) H locs := hw
  refine lv_aload_n hx hb zd_LassoFinder_model_14 rfl (lv_at hl 0 rfl) ?_
  refine z_get (v := .ref (ad 1)) hx hb hts hown hK hw zZ0 0 wX_g0 0 (by decide) zn_291 rfl zd_LassoFinder_model_15 ?_
  refine z_callv (w1 := fun (u : zS) => wX ad K Value.null u.1 u.2.1 u.2.2.1 u.2.2.2) (wr := []) (z_runV (q0 := 1) (wc := (wX ad K Value.null I1 J1 B1 D1)) (As := []) (rest := []) ⟨hx, hb, hml, hown, hts⟩ (w_Text_open l G K ad Value.null I1 J1 B1 D1  _ H.size hok) zf_Text_open zn_322 ⟨Nat.le_of_ble_eq_true rfl, Nat.le_of_ble_eq_true rfl⟩ hK hw (List.range 65) wX_all wX_nd wX_g1 rfl rfl hl.1 rfl (Nat.le_of_ble_eq_true rfl) zd_LassoFinder_model_18 ⟨Nat.le_of_ble_eq_true rfl, Nat.le_of_ble_eq_true rfl⟩) hw hA (List.range 65) [] wX_all rfl (by decide) (fun i hi => by cases hi) (fun u H locs hok hw => ?_)
  obtain ⟨I2, J2, B2, D2⟩ := u
  dsimp only at hok
  have hw : zW G A s.heap (wX ad K Value.null I2 J2 B2 D2) H locs := hw
  refine lv_aload_n hx hb zd_LassoFinder_model_21 rfl (lv_at hl 0 rfl) ?_
  refine z_get (v := .ref (ad 5)) hx hb hts hown hK hw zZ0 0 wX_g0 3 (by decide) zn_414 rfl zd_LassoFinder_model_22 ?_
  refine z_yV (q0 := 5) (wc := (wX ad K Value.null I2 J2 B2 D2)) (wr := []) (w1 := fun (u : zS) => wX ad K Value.null u.1 u.2.1 u.2.2.1 u.2.2.2) (As := []) (rest := []) ⟨hx, hb, hml, hown, hts⟩ (w_ModelReader_readAll l hlt G K ad Value.null I2 J2 B2 D2  _ _ H.size hok) zf_ModelReader_readAll zn_323 ⟨Nat.le_of_ble_eq_true rfl, Nat.le_of_ble_eq_true rfl⟩ hK hT hw hA (List.range 65) [] wX_all rfl wX_nd (by decide) (fun i hi => by cases hi) wX_g5 rfl rfl hl.1 rfl (Nat.le_of_ble_eq_true rfl) zd_LassoFinder_model_25 ⟨Nat.le_of_ble_eq_true rfl, Nat.le_of_ble_eq_true rfl⟩ (fun v st9 t9 L9 h0 hq hL => ?_) (fun E ce q9 u H locs hu hw hce hcv hcl => z_yout (u := u) hnt hlocks hce hcv hcl hw (List.range 65) wX_all wX_nd hu (Nat.le_of_ble_eq_true rfl) (Nat.le_of_ble_eq_true rfl))
  obtain ⟨⟨u, hv9, hok, hB9⟩, hF9⟩ := hq
  cases hv9
  have hw := z_back (wr := []) hw hA (List.range 65) [] wX_all rfl (by decide) (fun i hi => by cases hi) h0 hL hB9 hF9
  obtain ⟨I3, J3, B3, D3⟩ := u
  dsimp only at hok
  generalize t9.heap = H at hw ⊢
  generalize locs ++ L9 = locs at hw ⊢
  have hw : zW G A s.heap (wX ad K Value.null I3 J3 B3 D3) H locs := hw
  refine W.eq (g2 := F0 m 28 ls []) rfl ?_
  refine lv_aload_n hx hb zd_LassoFinder_model_28 rfl (lv_at hl 0 rfl) ?_
  refine z_get (v := .ref (ad 8)) hx hb hts hown hK hw zZ0 0 wX_g0 5 (by decide) zn_298 rfl zd_LassoFinder_model_29 ?_
  refine z_calli (w1 := fun (u : zS) => wX ad K Value.null u.1 u.2.1 u.2.2.1 u.2.2.2) (wr := []) (z_runV (q0 := 8) (wc := (wX ad K Value.null I3 J3 B3 D3)) (As := []) (rest := []) ⟨hx, hb, hml, hown, hts⟩ (w_Graph_explore l G K ad Value.null I3 J3 B3 D3  _ H.size hok) zf_Graph_explore zn_387 ⟨Nat.le_of_ble_eq_true rfl, Nat.le_of_ble_eq_true rfl⟩ hK hw (List.range 65) wX_all wX_nd wX_g8 rfl rfl hl.1 rfl (Nat.le_of_ble_eq_true rfl) zd_LassoFinder_model_32 ⟨Nat.le_of_ble_eq_true rfl, Nat.le_of_ble_eq_true rfl⟩) hw hA (List.range 65) [] wX_all rfl (by decide) (fun i hi => by cases hi) (fun r4 u H locs hok hw => ?_)
  obtain ⟨I4, J4, B4, D4⟩ := u
  dsimp only at hok
  have hw : zW G A s.heap (wX ad K Value.null I4 J4 B4 D4) H locs := hw
  refine lv_if_ne (tgt := 46) hx hb zd_LassoFinder_model_35 (by decide) (fun hc5 => ?_) (fun hc5 => ?_)
  · have hok := hok.1 hc5
    refine lv_aload_n hx hb zd_LassoFinder_model_46 rfl (lv_at hl 0 rfl) ?_
    refine lv_iconst (v := 1) hx hb zd_LassoFinder_model_47 (by decide) ?_
    refine z_put (v := .int 1) hx hb hts hown hK hw zZ0 0 wX_g0 11 (by decide) zn_317 rfl rfl rfl (Nat.le_of_ble_eq_true rfl) zd_LassoFinder_model_48 (fun H locs hw => ?_)
    have hw := wX_sI1 hw
    refine lv_aload_n hx hb zd_LassoFinder_model_51 rfl (lv_at hl 0 rfl) ?_
    refine z_get (v := .ref (ad 8)) hx hb hts hown hK hw zZ0 0 wX_g0 5 (by decide) zn_298 rfl zd_LassoFinder_model_52 ?_
    refine z_get (v := .int (I4 19)) hx hb hts hown hK hw zZ2 8 wX_g8 9 (by decide) zn_320 rfl zd_LassoFinder_model_55 ?_
    exact zy_ret (z_iret (u := ((upd I4 1 1), J4, B4, D4)) hx hb hr hlocks rfl hw (List.range 65) wX_all wX_nd hok (Nat.le_of_ble_eq_true rfl) (Nat.le_of_ble_eq_true rfl) zd_LassoFinder_model_58)
  · have hok := hok.2 hc5
    exact z_ythrow (u := (I4, J4, B4, D4)) (names := ["java/lang/RuntimeException", "java/lang/Exception"]) hx hb hlt hts hown hnt hlocks hT (by rw [hml]; exact hl.1) (by decide +kernel) (by decide +kernel) zn_576 zn_577 zn_578 zx_3 hw (List.range 65) wX_all wX_nd hok zd_LassoFinder_model_38 zd_LassoFinder_model_41 zd_LassoFinder_model_42 zd_LassoFinder_model_45 (Nat.le_of_ble_eq_true rfl) (Nat.le_of_ble_eq_true rfl) (Nat.le_of_ble_eq_true rfl) (Nat.le_of_ble_eq_true rfl) (Nat.le_of_ble_eq_true rfl) (Nat.le_of_ble_eq_true rfl)
def wp_LassoFinder_formula_N (I : Nat → Int32) (J : Nat → Int64) (B : Nat → Nat → Int32) (D : Nat → Nat → Int64) (Post : Int32 → (Nat → Int32) → (Nat → Int64) → (Nat → Nat → Int32) → (Nat → Nat → Int64) → Prop) (PX : String → (Nat → Int32) → (Nat → Int64) → (Nat → Nat → Int32) → (Nat → Nat → Int64) → Prop) : Prop :=
  wp_LassoFinder_dropFormula_N I J B D  (fun I1 J1 B1 D1 => wp_Text_open I1 J1 B1 D1  (fun I2 J2 B2 D2 => ((¬ (I2 1) = 0 → wp_Formula_readAll I2 J2 B2 D2  (fun I4 J4 B4 D4 => wp_Truths_fill I4 J4 B4 D4  (fun I5 J5 B5 D5 => Post (I5 21) (upd I5 2 1) J5 B5 D5) PX) PX) ∧ ((I2 1) = 0 → PX "java/lang/IllegalStateException" I2 J2 B2 D2))))
set_option maxHeartbeats 8000000 in
set_option maxRecDepth 100000 in
theorem w_LassoFinder_formula_N (l : Launch) (hlt : l.stackTraces = false) (G : va_G) (K : Nat → ClassId) (ad : Nat → Nat) (I : Nat → Int32) (J : Nat → Int64) (B : Nat → Nat → Int32) (D : Nat → Nat → Int64) (Post : Int32 → (Nat → Int32) → (Nat → Int64) → (Nat → Nat → Int32) → (Nat → Nat → Int64) → Prop) (PX : String → (Nat → Int32) → (Nat → Int64) → (Nat → Nat → Int32) → (Nat → Nat → Int64) → Prop) (sz : Nat) (hok : wp_LassoFinder_formula_N I J B D  Post PX) : zyMet l zy_LassoFinder_formula (Cond.code zy_LassoFinder_formula prog_1_method_4_code 1 (some .int) :: zTB) { frames := 112, cells := 1, slots := 6, locals := 2716 } (va_Pc [.ref (ad 0)] (zPreY G K (wX ad K Value.null I J B D) sz)) (va_Qi (fun (r : Int32) (u : zS) => Post r u.1 u.2.1 u.2.2.1 u.2.2.2) (fun u t => zPost G K (va_A (wX ad K Value.null I J B D) sz) (wX ad K Value.null u.1 u.2.1 u.2.2.1 u.2.2.2) t) (va_A (wX ad K Value.null I J B D) sz)) (zYC (fun E (u : zS) => PX E u.1 u.2.1 u.2.2.1 u.2.2.2) (fun u => wX ad K Value.null u.1 u.2.1 u.2.2.1 u.2.2.2) G K (va_A (wX ad K Value.null I J B D) sz)) 1 6 (va_A (wX ad K Value.null I J B D) sz) := by
  refine zMetY (y := zy_LassoFinder_formula) (av := [.ref (ad 0)]) (maxL := 1) (cc := prog_1_method_4_code) (ret := (some .int)) (W0 := (wX ad K Value.null I J B D)) (sz := sz) (G := G) (K := K) (wt := zTB) (mc := 1) (ms := 6) (Qf := fun A => va_Qi (fun (r : Int32) (u : zS) => Post r u.1 u.2.1 u.2.2.1 u.2.2.2) (fun u t => zPost G K A (wX ad K Value.null u.1 u.2.1 u.2.2.1 u.2.2.2) t) A) (Xf := fun A => (zYC (fun E (u : zS) => PX E u.1 u.2.1 u.2.2.1 u.2.2.2) (fun u => wX ad K Value.null u.1 u.2.1 u.2.2.1 u.2.2.2) G K A)) (by decide) (Nat.le_of_ble_eq_true rfl) ?_
  intro p e s m below meth c ls A hx hb hr hml hts hown hlocks hin hA hK H locs hw hsz hl hT hnt
  clear hsz
  have hown : s.vm.findClass "LassoFinder" = some m.cls := hown
  have C : zCy p l s m ([.ref (ad 0)] : List Value).toArray meth c A G K prog_1_method_4_code (some .int) 1 "LassoFinder" := ⟨hx, hb, hr, hml, hts, hown, hlocks, hA, hK, hT, hnt, hlt⟩
  have hl : lv_has ls 1 [(0, .ref (ad 0))] := hl
  have hw : zW G A s.heap (wX ad K Value.null I J B D) H locs := hw
  unfold wp_LassoFinder_formula_N at hok
  refine lv_aload_n hx hb zd_LassoFinder_formula_0 rfl (lv_at hl 0 rfl) ?_
  refine z_callv (w1 := fun (u : zS) => wX ad K Value.null u.1 u.2.1 u.2.2.1 u.2.2.2) (wr := []) (z_runV (q0 := 0) (wc := (wX ad K Value.null I J B D)) (As := []) (rest := []) ⟨hx, hb, hml, hown, hts⟩ (w_LassoFinder_dropFormula_N l G K ad I J B D  _ H.size hok) zf_LassoFinder_dropFormula zn_321 ⟨Nat.le_of_ble_eq_true rfl, Nat.le_of_ble_eq_true rfl⟩ hK hw (List.range 65) wX_all wX_nd wX_g0 rfl rfl hl.1 rfl (Nat.le_of_ble_eq_true rfl) zd_LassoFinder_formula_1 ⟨Nat.le_of_ble_eq_true rfl, Nat.le_of_ble_eq_true rfl⟩) hw hA (List.range 65) [] wX_all rfl (by decide) (fun i hi => by cases hi) (fun u H locs hok hw => ?_)
  obtain ⟨I1, J1, B1, D1⟩ := u
  dsimp only at hok
  have hw : zW G A s.heap (wX ad K Value.null I1 J1 B1 D1) H locs := hw
  refine lv_aload_n hx hb zd_LassoFinder_formula_4 rfl (lv_at hl 0 rfl) ?_
  refine z_get (v := .ref (ad 1)) hx hb hts hown hK hw zZ0 0 wX_g0 0 (by decide) zn_291 rfl zd_LassoFinder_formula_5 ?_
  refine z_callv (w1 := fun (u : zS) => wX ad K Value.null u.1 u.2.1 u.2.2.1 u.2.2.2) (wr := []) (z_runV (q0 := 1) (wc := (wX ad K Value.null I1 J1 B1 D1)) (As := []) (rest := []) ⟨hx, hb, hml, hown, hts⟩ (w_Text_open l G K ad Value.null I1 J1 B1 D1  _ H.size hok) zf_Text_open zn_322 ⟨Nat.le_of_ble_eq_true rfl, Nat.le_of_ble_eq_true rfl⟩ hK hw (List.range 65) wX_all wX_nd wX_g1 rfl rfl hl.1 rfl (Nat.le_of_ble_eq_true rfl) zd_LassoFinder_formula_8 ⟨Nat.le_of_ble_eq_true rfl, Nat.le_of_ble_eq_true rfl⟩) hw hA (List.range 65) [] wX_all rfl (by decide) (fun i hi => by cases hi) (fun u H locs hok hw => ?_)
  obtain ⟨I2, J2, B2, D2⟩ := u
  dsimp only at hok
  have hw : zW G A s.heap (wX ad K Value.null I2 J2 B2 D2) H locs := hw
  refine lv_aload_n hx hb zd_LassoFinder_formula_11 rfl (lv_at hl 0 rfl) ?_
  refine z_get (v := .int (I2 1)) hx hb hts hown hK hw zZ0 0 wX_g0 11 (by decide) zn_317 rfl zd_LassoFinder_formula_12 ?_
  refine lv_if_ne (tgt := 26) hx hb zd_LassoFinder_formula_15 (by decide) (fun hc3 => ?_) (fun hc3 => ?_)
  · have hok := hok.1 hc3
    refine lv_aload_n hx hb zd_LassoFinder_formula_26 rfl (lv_at hl 0 rfl) ?_
    refine z_get (v := .ref (ad 9)) hx hb hts hown hK hw zZ0 0 wX_g0 6 (by decide) zn_514 rfl zd_LassoFinder_formula_27 ?_
    refine z_yV (q0 := 9) (wc := (wX ad K Value.null I2 J2 B2 D2)) (wr := []) (w1 := fun (u : zS) => wX ad K Value.null u.1 u.2.1 u.2.2.1 u.2.2.2) (As := []) (rest := []) ⟨hx, hb, hml, hown, hts⟩ (w_Formula_readAll l hlt G K ad Value.null I2 J2 B2 D2  _ _ H.size hok) zf_Formula_readAll zn_484 ⟨Nat.le_of_ble_eq_true rfl, Nat.le_of_ble_eq_true rfl⟩ hK hT hw hA (List.range 65) [] wX_all rfl wX_nd (by decide) (fun i hi => by cases hi) wX_g9 rfl rfl hl.1 rfl (Nat.le_of_ble_eq_true rfl) zd_LassoFinder_formula_30 ⟨Nat.le_of_ble_eq_true rfl, Nat.le_of_ble_eq_true rfl⟩ (fun v st9 t9 L9 h0 hq hL => ?_) (fun E ce q9 u H locs hu hw hce hcv hcl => z_yout (u := u) hnt hlocks hce hcv hcl hw (List.range 65) wX_all wX_nd hu (Nat.le_of_ble_eq_true rfl) (Nat.le_of_ble_eq_true rfl))
    obtain ⟨⟨u, hv9, hok, hB9⟩, hF9⟩ := hq
    cases hv9
    have hw := z_back (wr := []) hw hA (List.range 65) [] wX_all rfl (by decide) (fun i hi => by cases hi) h0 hL hB9 hF9
    obtain ⟨I4, J4, B4, D4⟩ := u
    dsimp only at hok
    generalize t9.heap = H at hw ⊢
    generalize locs ++ L9 = locs at hw ⊢
    have hw : zW G A s.heap (wX ad K Value.null I4 J4 B4 D4) H locs := hw
    refine W.eq (g2 := F0 m 33 ls []) rfl ?_
    refine lv_aload_n hx hb zd_LassoFinder_formula_33 rfl (lv_at hl 0 rfl) ?_
    refine z_get (v := .ref (ad 11)) hx hb hts hown hK hw zZ0 0 wX_g0 7 (by decide) zn_515 rfl zd_LassoFinder_formula_34 ?_
    refine z_yV (q0 := 11) (wc := (wX ad K Value.null I4 J4 B4 D4)) (wr := []) (w1 := fun (u : zS) => wX ad K Value.null u.1 u.2.1 u.2.2.1 u.2.2.2) (As := []) (rest := []) ⟨hx, hb, hml, hown, hts⟩ (w_Truths_fill l hlt G K ad Value.null I4 J4 B4 D4  _ _ H.size hok) zf_Truths_fill zn_504 ⟨Nat.le_of_ble_eq_true rfl, Nat.le_of_ble_eq_true rfl⟩ hK hT hw hA (List.range 65) [] wX_all rfl wX_nd (by decide) (fun i hi => by cases hi) wX_g11 rfl rfl hl.1 rfl (Nat.le_of_ble_eq_true rfl) zd_LassoFinder_formula_37 ⟨Nat.le_of_ble_eq_true rfl, Nat.le_of_ble_eq_true rfl⟩ (fun v st9 t9 L9 h0 hq hL => ?_) (fun E ce q9 u H locs hu hw hce hcv hcl => z_yout (u := u) hnt hlocks hce hcv hcl hw (List.range 65) wX_all wX_nd hu (Nat.le_of_ble_eq_true rfl) (Nat.le_of_ble_eq_true rfl))
    obtain ⟨⟨u, hv9, hok, hB9⟩, hF9⟩ := hq
    cases hv9
    have hw := z_back (wr := []) hw hA (List.range 65) [] wX_all rfl (by decide) (fun i hi => by cases hi) h0 hL hB9 hF9
    obtain ⟨I5, J5, B5, D5⟩ := u
    dsimp only at hok
    generalize t9.heap = H at hw ⊢
    generalize locs ++ L9 = locs at hw ⊢
    have hw : zW G A s.heap (wX ad K Value.null I5 J5 B5 D5) H locs := hw
    refine W.eq (g2 := F0 m 40 ls []) rfl ?_
    refine lv_aload_n hx hb zd_LassoFinder_formula_40 rfl (lv_at hl 0 rfl) ?_
    refine lv_iconst (v := 1) hx hb zd_LassoFinder_formula_41 (by decide) ?_
    refine z_put (v := .int 1) hx hb hts hown hK hw zZ0 0 wX_g0 12 (by decide) zn_415 rfl rfl rfl (Nat.le_of_ble_eq_true rfl) zd_LassoFinder_formula_42 (fun H locs hw => ?_)
    have hw := wX_sI2 hw
    refine lv_aload_n hx hb zd_LassoFinder_formula_45 rfl (lv_at hl 0 rfl) ?_
    refine z_get (v := .ref (ad 9)) hx hb hts hown hK hw zZ0 0 wX_g0 6 (by decide) zn_514 rfl zd_LassoFinder_formula_46 ?_
    refine z_get (v := .int (I5 21)) hx hb hts hown hK hw zZ1 9 wX_g9 7 (by decide) zn_516 rfl zd_LassoFinder_formula_49 ?_
    exact zy_ret (z_iret (u := ((upd I5 2 1), J5, B5, D5)) hx hb hr hlocks rfl hw (List.range 65) wX_all wX_nd hok (Nat.le_of_ble_eq_true rfl) (Nat.le_of_ble_eq_true rfl) zd_LassoFinder_formula_52)
  · have hok := hok.2 hc3
    exact z_ythrow (u := (I2, J2, B2, D2)) (names := ["java/lang/RuntimeException", "java/lang/Exception"]) hx hb hlt hts hown hnt hlocks hT (by rw [hml]; exact hl.1) (by decide +kernel) (by decide +kernel) zn_567 zn_568 zn_569 zx_1 hw (List.range 65) wX_all wX_nd hok zd_LassoFinder_formula_18 zd_LassoFinder_formula_21 zd_LassoFinder_formula_22 zd_LassoFinder_formula_25 (Nat.le_of_ble_eq_true rfl) (Nat.le_of_ble_eq_true rfl) (Nat.le_of_ble_eq_true rfl) (Nat.le_of_ble_eq_true rfl) (Nat.le_of_ble_eq_true rfl) (Nat.le_of_ble_eq_true rfl)
