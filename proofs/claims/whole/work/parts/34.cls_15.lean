theorem zn_346 : Cond.methodLink "LassoFinder$ModelReader" 69 ⟨"LassoFinder$ModelReader", "readBody", "(II)V"⟩ ∈ zTB := z_in (zt_3 _ (List.mem_of_getElem? (i := 234) rfl)) rfl
theorem zn_347 : Cond.methodLink "LassoFinder$ModelReader" 128 ⟨"LassoFinder$ModelReader", "readLabels", "()V"⟩ ∈ zTB := z_in (zt_3 _ (List.mem_of_getElem? (i := 238) rfl)) rfl
theorem zn_348 : Cond.methodLink "LassoFinder$ModelReader" 131 ⟨"LassoFinder$ModelReader", "readStatement", "(III)I"⟩ ∈ zTB := z_in (zt_4 _ (List.mem_of_getElem? (i := 2) rfl)) rfl
theorem zn_349 : Cond.methodLink "LassoFinder$ModelReader" 135 ⟨"LassoFinder$ModelReader", "readChoice", "(III)I"⟩ ∈ zTB := z_in (zt_4 _ (List.mem_of_getElem? (i := 6) rfl)) rfl
theorem zn_353 : Cond.methodLink "LassoFinder$ModelReader" 138 ⟨"LassoFinder$ModelReader", "readAtomic", "(III)I"⟩ ∈ zTB := z_in (zt_4 _ (List.mem_of_getElem? (i := 22) rfl)) rfl
theorem zn_355 : Cond.methodLink "LassoFinder$ModelReader" 141 ⟨"LassoFinder$ModelReader", "readBreak", "(II)I"⟩ ∈ zTB := z_in (zt_4 _ (List.mem_of_getElem? (i := 27) rfl)) rfl
theorem zn_358 : Cond.methodLink "LassoFinder$ModelReader" 145 ⟨"LassoFinder$ModelReader", "readJump", "(II)I"⟩ ∈ zTB := z_in (zt_4 _ (List.mem_of_getElem? (i := 35) rfl)) rfl
theorem zn_361 : Cond.methodLink "LassoFinder$ModelReader" 160 ⟨"LassoFinder$ModelReader", "readElse", "(II)V"⟩ ∈ zTB := z_in (zt_4 _ (List.mem_of_getElem? (i := 47) rfl)) rfl
theorem zn_375 : Cond.methodLink "LassoFinder$ModelReader" 166 ⟨"LassoFinder$ModelReader", "readNamed", "()V"⟩ ∈ zTB := z_in (zt_4 _ (List.mem_of_getElem? (i := 92) rfl)) rfl
theorem zn_432 : Cond.fieldLink "LassoFinder$ModelReader" 148 "LassoFinder$Tree" "points" "I" ∈ zTB := z_in (zt_1 _ (List.mem_of_getElem? (i := 234) rfl)) rfl
theorem zn_433 : Cond.fieldLink "LassoFinder$ModelReader" 151 "LassoFinder$Program" "basics" "I" ∈ zTB := z_in (zt_1 _ (List.mem_of_getElem? (i := 121) rfl)) rfl
theorem zn_748 : Cond.code ⟨"LassoFinder$ModelReader", "readLabels", "()V"⟩ prog_5_method_7_code 3 none ∈ zTB := z_in (zt_4 _ (List.mem_of_getElem? (i := 1) rfl)) rfl
theorem zn_749 : Cond.instanceMethod ⟨"LassoFinder$ModelReader", "readLabels", "()V"⟩ ∈ zTB := z_in (zt_4 _ (List.mem_of_getElem? (i := 0) rfl)) rfl
theorem zn_750 : Cond.code ⟨"LassoFinder$ModelReader", "readElse", "(II)V"⟩ prog_5_method_14_code 3 none ∈ zTB := z_in (zt_4 _ (List.mem_of_getElem? (i := 50) rfl)) rfl
theorem zn_751 : Cond.instanceMethod ⟨"LassoFinder$ModelReader", "readElse", "(II)V"⟩ ∈ zTB := z_in (zt_4 _ (List.mem_of_getElem? (i := 49) rfl)) rfl
theorem zn_752 : Cond.code ⟨"LassoFinder$ModelReader", "readNamed", "()V"⟩ prog_5_method_15_code 3 none ∈ zTB := z_in (zt_4 _ (List.mem_of_getElem? (i := 95) rfl)) rfl
theorem zn_753 : Cond.instanceMethod ⟨"LassoFinder$ModelReader", "readNamed", "()V"⟩ ∈ zTB := z_in (zt_4 _ (List.mem_of_getElem? (i := 94) rfl)) rfl
theorem zn_754 : Cond.code ⟨"LassoFinder$ModelReader", "readStatement", "(III)I"⟩ prog_5_method_8_code 5 (some .int) ∈ zTB := z_in (zt_4 _ (List.mem_of_getElem? (i := 5) rfl)) rfl
theorem zn_755 : Cond.instanceMethod ⟨"LassoFinder$ModelReader", "readStatement", "(III)I"⟩ ∈ zTB := z_in (zt_4 _ (List.mem_of_getElem? (i := 4) rfl)) rfl
theorem zn_756 : Cond.code ⟨"LassoFinder$ModelReader", "readChoice", "(III)I"⟩ prog_5_method_9_code 7 (some .int) ∈ zTB := z_in (zt_4 _ (List.mem_of_getElem? (i := 9) rfl)) rfl
theorem zn_757 : Cond.instanceMethod ⟨"LassoFinder$ModelReader", "readChoice", "(III)I"⟩ ∈ zTB := z_in (zt_4 _ (List.mem_of_getElem? (i := 8) rfl)) rfl
theorem zn_758 : Cond.code ⟨"LassoFinder$ModelReader", "readBreak", "(II)I"⟩ prog_5_method_11_code 3 (some .int) ∈ zTB := z_in (zt_4 _ (List.mem_of_getElem? (i := 30) rfl)) rfl
theorem zn_759 : Cond.instanceMethod ⟨"LassoFinder$ModelReader", "readBreak", "(II)I"⟩ ∈ zTB := z_in (zt_4 _ (List.mem_of_getElem? (i := 29) rfl)) rfl
theorem zn_760 : Cond.code ⟨"LassoFinder$ModelReader", "readAtomic", "(III)I"⟩ prog_5_method_10_code 5 (some .int) ∈ zTB := z_in (zt_4 _ (List.mem_of_getElem? (i := 25) rfl)) rfl
theorem zn_761 : Cond.instanceMethod ⟨"LassoFinder$ModelReader", "readAtomic", "(III)I"⟩ ∈ zTB := z_in (zt_4 _ (List.mem_of_getElem? (i := 24) rfl)) rfl
theorem zn_762 : Cond.code ⟨"LassoFinder$ModelReader", "readJump", "(II)I"⟩ prog_5_method_12_code 5 (some .int) ∈ zTB := z_in (zt_4 _ (List.mem_of_getElem? (i := 38) rfl)) rfl
theorem zn_763 : Cond.instanceMethod ⟨"LassoFinder$ModelReader", "readJump", "(II)I"⟩ ∈ zTB := z_in (zt_4 _ (List.mem_of_getElem? (i := 37) rfl)) rfl
theorem zn_764 : Cond.code ⟨"LassoFinder$ModelReader", "readBody", "(II)V"⟩ prog_5_method_6_code 5 none ∈ zTB := z_in (zt_3 _ (List.mem_of_getElem? (i := 237) rfl)) rfl
theorem zn_765 : Cond.instanceMethod ⟨"LassoFinder$ModelReader", "readBody", "(II)V"⟩ ∈ zTB := z_in (zt_3 _ (List.mem_of_getElem? (i := 236) rfl)) rfl
theorem zf_ModelReader_readLabels : zFaceV zy_ModelReader_readLabels prog_5_method_7_code 3 none 0 := ⟨zn_749, (z_in (zp_1 _ (List.mem_of_getElem? (i := 6) rfl)) rfl), zm_9, zn_748, by decide +kernel, by decide +kernel, by decide +kernel⟩
theorem zf_ModelReader_readElse : zFaceV zy_ModelReader_readElse prog_5_method_14_code 3 none 2 := ⟨zn_751, (z_in (zp_1 _ (List.mem_of_getElem? (i := 12) rfl)) rfl), zm_9, zn_750, by decide +kernel, by decide +kernel, by decide +kernel⟩
theorem zf_ModelReader_readNamed : zFaceV zy_ModelReader_readNamed prog_5_method_15_code 3 none 0 := ⟨zn_753, (z_in (zp_2 _ (List.mem_of_getElem? (i := 4) rfl)) rfl), zm_9, zn_752, by decide +kernel, by decide +kernel, by decide +kernel⟩
theorem zf_ModelReader_readStatement : zFaceV zy_ModelReader_readStatement prog_5_method_8_code 5 (some .int) 3 := ⟨zn_755, (z_in (zp_1 _ (List.mem_of_getElem? (i := 7) rfl)) rfl), zm_9, zn_754, by decide +kernel, by decide +kernel, by decide +kernel⟩
theorem zf_ModelReader_readChoice : zFaceV zy_ModelReader_readChoice prog_5_method_9_code 7 (some .int) 3 := ⟨zn_757, (z_in (zp_1 _ (List.mem_of_getElem? (i := 8) rfl)) rfl), zm_9, zn_756, by decide +kernel, by decide +kernel, by decide +kernel⟩
theorem zf_ModelReader_readBreak : zFaceV zy_ModelReader_readBreak prog_5_method_11_code 3 (some .int) 2 := ⟨zn_759, (z_in (zp_1 _ (List.mem_of_getElem? (i := 10) rfl)) rfl), zm_9, zn_758, by decide +kernel, by decide +kernel, by decide +kernel⟩
theorem zf_ModelReader_readAtomic : zFaceV zy_ModelReader_readAtomic prog_5_method_10_code 5 (some .int) 3 := ⟨zn_761, (z_in (zp_1 _ (List.mem_of_getElem? (i := 9) rfl)) rfl), zm_9, zn_760, by decide +kernel, by decide +kernel, by decide +kernel⟩
theorem zf_ModelReader_readJump : zFaceV zy_ModelReader_readJump prog_5_method_12_code 5 (some .int) 2 := ⟨zn_763, (z_in (zp_1 _ (List.mem_of_getElem? (i := 11) rfl)) rfl), zm_9, zn_762, by decide +kernel, by decide +kernel, by decide +kernel⟩
theorem zf_ModelReader_readBody : zFaceV zy_ModelReader_readBody prog_5_method_6_code 5 none 2 := ⟨zn_765, (z_in (zp_1 _ (List.mem_of_getElem? (i := 5) rfl)) rfl), zm_9, zn_764, by decide +kernel, by decide +kernel, by decide +kernel⟩
theorem zd_ModelReader_readChoice_0 : decode prog_5_method_9_code 0 = .ok (.aload_n 0, 1) := by decide +kernel
theorem zd_ModelReader_readChoice_1 : decode prog_5_method_9_code 1 = .ok (.getfield 30, 3) := by decide +kernel
theorem zd_ModelReader_readChoice_4 : decode prog_5_method_9_code 4 = .ok (.getfield 148, 3) := by decide +kernel
theorem zd_ModelReader_readChoice_7 : decode prog_5_method_9_code 7 = .ok (.bipush 30, 2) := by decide +kernel
theorem zd_ModelReader_readChoice_9 : decode prog_5_method_9_code 9 = .ok (.if_icmp .ne 10, 3) := by decide +kernel
theorem zd_ModelReader_readChoice_12 : decode prog_5_method_9_code 12 = .ok (.aload_n 0, 1) := by decide +kernel
theorem zd_ModelReader_readChoice_13 : decode prog_5_method_9_code 13 = .ok (.getfield 9, 3) := by decide +kernel
theorem zd_ModelReader_readChoice_16 : decode prog_5_method_9_code 16 = .ok (.invokevirtual 62, 3) := by decide +kernel
theorem zd_ModelReader_readChoice_19 : decode prog_5_method_9_code 19 = .ok (.aload_n 0, 1) := by decide +kernel
theorem zd_ModelReader_readChoice_20 : decode prog_5_method_9_code 20 = .ok (.getfield 9, 3) := by decide +kernel
theorem zd_ModelReader_readChoice_23 : decode prog_5_method_9_code 23 = .ok (.bipush 42, 2) := by decide +kernel
theorem zd_ModelReader_readChoice_25 : decode prog_5_method_9_code 25 = .ok (.invokevirtual 76, 3) := by decide +kernel
theorem zd_ModelReader_readChoice_28 : decode prog_5_method_9_code 28 = .ok (.ifCond .eq 7, 3) := by decide +kernel
theorem zd_ModelReader_readChoice_31 : decode prog_5_method_9_code 31 = .ok (.iconst 2, 1) := by decide +kernel
theorem zd_ModelReader_readChoice_32 : decode prog_5_method_9_code 32 = .ok (.goto 4, 3) := by decide +kernel
theorem zd_ModelReader_readChoice_35 : decode prog_5_method_9_code 35 = .ok (.iconst 1, 1) := by decide +kernel
theorem zd_ModelReader_readChoice_36 : decode prog_5_method_9_code 36 = .ok (.istore 4, 2) := by decide +kernel
theorem zd_ModelReader_readChoice_38 : decode prog_5_method_9_code 38 = .ok (.aload_n 0, 1) := by decide +kernel
theorem zd_ModelReader_readChoice_39 : decode prog_5_method_9_code 39 = .ok (.getfield 9, 3) := by decide +kernel
theorem zd_ModelReader_readChoice_42 : decode prog_5_method_9_code 42 = .ok (.invokevirtual 47, 3) := by decide +kernel
theorem zd_ModelReader_readChoice_45 : decode prog_5_method_9_code 45 = .ok (.bipush 91, 2) := by decide +kernel
theorem zd_ModelReader_readChoice_47 : decode prog_5_method_9_code 47 = .ok (.if_icmp .ne 9, 3) := by decide +kernel
theorem zd_ModelReader_readChoice_50 : decode prog_5_method_9_code 50 = .ok (.iload_n 3, 1) := by decide +kernel
theorem zd_ModelReader_readChoice_51 : decode prog_5_method_9_code 51 = .ok (.bipush 6, 2) := by decide +kernel
theorem zd_ModelReader_readChoice_53 : decode prog_5_method_9_code 53 = .ok (.if_icmp .ne 10, 3) := by decide +kernel
theorem zd_ModelReader_readChoice_56 : decode prog_5_method_9_code 56 = .ok (.aload_n 0, 1) := by decide +kernel
theorem zd_ModelReader_readChoice_57 : decode prog_5_method_9_code 57 = .ok (.getfield 9, 3) := by decide +kernel
theorem zd_ModelReader_readChoice_60 : decode prog_5_method_9_code 60 = .ok (.invokevirtual 62, 3) := by decide +kernel
theorem zd_ModelReader_readChoice_63 : decode prog_5_method_9_code 63 = .ok (.aload_n 0, 1) := by decide +kernel
theorem zd_ModelReader_readChoice_64 : decode prog_5_method_9_code 64 = .ok (.getfield 9, 3) := by decide +kernel
theorem zd_ModelReader_readChoice_67 : decode prog_5_method_9_code 67 = .ok (.invokevirtual 65, 3) := by decide +kernel
theorem zd_ModelReader_readChoice_70 : decode prog_5_method_9_code 70 = .ok (.aload_n 0, 1) := by decide +kernel
theorem zd_ModelReader_readChoice_71 : decode prog_5_method_9_code 71 = .ok (.getfield 30, 3) := by decide +kernel
theorem zd_ModelReader_readChoice_74 : decode prog_5_method_9_code 74 = .ok (.iload 4, 2) := by decide +kernel
theorem zd_ModelReader_readChoice_76 : decode prog_5_method_9_code 76 = .ok (.iload_n 1, 1) := by decide +kernel
theorem zd_ModelReader_readChoice_77 : decode prog_5_method_9_code 77 = .ok (.iload_n 2, 1) := by decide +kernel
theorem zd_ModelReader_readChoice_78 : decode prog_5_method_9_code 78 = .ok (.invokevirtual 154, 3) := by decide +kernel
theorem zd_ModelReader_readChoice_81 : decode prog_5_method_9_code 81 = .ok (.istore 5, 2) := by decide +kernel
theorem zd_ModelReader_readChoice_83 : decode prog_5_method_9_code 83 = .ok (.iconst 0, 1) := by decide +kernel
theorem zd_ModelReader_readChoice_84 : decode prog_5_method_9_code 84 = .ok (.istore 6, 2) := by decide +kernel
theorem zd_ModelReader_readChoice_86 : decode prog_5_method_9_code 86 = .ok (.iload 6, 2) := by decide +kernel
theorem zd_ModelReader_readChoice_88 : decode prog_5_method_9_code 88 = .ok (.sipush 240, 3) := by decide +kernel
theorem zd_ModelReader_readChoice_91 : decode prog_5_method_9_code 91 = .ok (.if_icmp .ge 35, 3) := by decide +kernel
theorem zd_ModelReader_readChoice_94 : decode prog_5_method_9_code 94 = .ok (.iload 6, 2) := by decide +kernel
theorem zd_ModelReader_readChoice_96 : decode prog_5_method_9_code 96 = .ok (.ifCond .eq 15, 3) := by decide +kernel
theorem zd_ModelReader_readChoice_99 : decode prog_5_method_9_code 99 = .ok (.aload_n 0, 1) := by decide +kernel
theorem zd_ModelReader_readChoice_100 : decode prog_5_method_9_code 100 = .ok (.getfield 9, 3) := by decide +kernel
theorem zd_ModelReader_readChoice_103 : decode prog_5_method_9_code 103 = .ok (.bipush 124, 2) := by decide +kernel
theorem zd_ModelReader_readChoice_105 : decode prog_5_method_9_code 105 = .ok (.invokevirtual 76, 3) := by decide +kernel
theorem zd_ModelReader_readChoice_108 : decode prog_5_method_9_code 108 = .ok (.ifCond .eq 18, 3) := by decide +kernel
theorem zd_ModelReader_readChoice_111 : decode prog_5_method_9_code 111 = .ok (.aload_n 0, 1) := by decide +kernel
theorem zd_ModelReader_readChoice_112 : decode prog_5_method_9_code 112 = .ok (.iload 5, 2) := by decide +kernel
theorem zd_ModelReader_readChoice_114 : decode prog_5_method_9_code 114 = .ok (.iload_n 3, 1) := by decide +kernel
theorem zd_ModelReader_readChoice_115 : decode prog_5_method_9_code 115 = .ok (.iconst 1, 1) := by decide +kernel
theorem zd_ModelReader_readChoice_116 : decode prog_5_method_9_code 116 = .ok (.iadd, 1) := by decide +kernel
theorem zd_ModelReader_readChoice_117 : decode prog_5_method_9_code 117 = .ok (.invokevirtual 69, 3) := by decide +kernel
theorem zd_ModelReader_readChoice_120 : decode prog_5_method_9_code 120 = .ok (.iinc 6 1, 3) := by decide +kernel
theorem zd_ModelReader_readChoice_123 : decode prog_5_method_9_code 123 = .ok (.goto (-37), 3) := by decide +kernel
theorem zd_ModelReader_readChoice_126 : decode prog_5_method_9_code 126 = .ok (.aload_n 0, 1) := by decide +kernel
theorem zd_ModelReader_readChoice_127 : decode prog_5_method_9_code 127 = .ok (.getfield 9, 3) := by decide +kernel
theorem zd_ModelReader_readChoice_130 : decode prog_5_method_9_code 130 = .ok (.bipush 93, 2) := by decide +kernel
theorem zd_ModelReader_readChoice_132 : decode prog_5_method_9_code 132 = .ok (.invokevirtual 96, 3) := by decide +kernel
theorem zd_ModelReader_readChoice_135 : decode prog_5_method_9_code 135 = .ok (.iload 5, 2) := by decide +kernel
theorem zd_ModelReader_readChoice_137 : decode prog_5_method_9_code 137 = .ok (.ireturn, 1) := by decide +kernel
theorem zd_ModelReader_readStatement_0 : decode prog_5_method_8_code 0 = .ok (.aload_n 0, 1) := by decide +kernel
theorem zd_ModelReader_readStatement_1 : decode prog_5_method_8_code 1 = .ok (.getfield 9, 3) := by decide +kernel
theorem zd_ModelReader_readStatement_4 : decode prog_5_method_8_code 4 = .ok (.invokevirtual 47, 3) := by decide +kernel
theorem zd_ModelReader_readStatement_7 : decode prog_5_method_8_code 7 = .ok (.lookupswitch 79 #[(42, 49), (46, 65), (60, 57), (91, 49), (94, 72)], 49) := by decide +kernel
theorem zd_ModelReader_readStatement_56 : decode prog_5_method_8_code 56 = .ok (.aload_n 0, 1) := by decide +kernel
theorem zd_ModelReader_readStatement_57 : decode prog_5_method_8_code 57 = .ok (.iload_n 1, 1) := by decide +kernel
theorem zd_ModelReader_readStatement_58 : decode prog_5_method_8_code 58 = .ok (.iload_n 2, 1) := by decide +kernel
theorem zd_ModelReader_readStatement_59 : decode prog_5_method_8_code 59 = .ok (.iload_n 3, 1) := by decide +kernel
theorem zd_ModelReader_readStatement_60 : decode prog_5_method_8_code 60 = .ok (.invokevirtual 135, 3) := by decide +kernel
theorem zd_ModelReader_readStatement_63 : decode prog_5_method_8_code 63 = .ok (.ireturn, 1) := by decide +kernel
theorem zd_ModelReader_readStatement_64 : decode prog_5_method_8_code 64 = .ok (.aload_n 0, 1) := by decide +kernel
theorem zd_ModelReader_readStatement_65 : decode prog_5_method_8_code 65 = .ok (.iload_n 1, 1) := by decide +kernel
theorem zd_ModelReader_readStatement_66 : decode prog_5_method_8_code 66 = .ok (.iload_n 2, 1) := by decide +kernel
theorem zd_ModelReader_readStatement_67 : decode prog_5_method_8_code 67 = .ok (.iload_n 3, 1) := by decide +kernel
theorem zd_ModelReader_readStatement_68 : decode prog_5_method_8_code 68 = .ok (.invokevirtual 138, 3) := by decide +kernel
theorem zd_ModelReader_readStatement_71 : decode prog_5_method_8_code 71 = .ok (.ireturn, 1) := by decide +kernel
theorem zd_ModelReader_readStatement_72 : decode prog_5_method_8_code 72 = .ok (.aload_n 0, 1) := by decide +kernel
theorem zd_ModelReader_readStatement_73 : decode prog_5_method_8_code 73 = .ok (.iload_n 1, 1) := by decide +kernel
theorem zd_ModelReader_readStatement_74 : decode prog_5_method_8_code 74 = .ok (.iload_n 2, 1) := by decide +kernel
theorem zd_ModelReader_readStatement_75 : decode prog_5_method_8_code 75 = .ok (.invokevirtual 141, 3) := by decide +kernel
theorem zd_ModelReader_readStatement_78 : decode prog_5_method_8_code 78 = .ok (.ireturn, 1) := by decide +kernel
theorem zd_ModelReader_readStatement_79 : decode prog_5_method_8_code 79 = .ok (.aload_n 0, 1) := by decide +kernel
theorem zd_ModelReader_readStatement_80 : decode prog_5_method_8_code 80 = .ok (.iload_n 1, 1) := by decide +kernel
theorem zd_ModelReader_readStatement_81 : decode prog_5_method_8_code 81 = .ok (.iload_n 2, 1) := by decide +kernel
theorem zd_ModelReader_readStatement_82 : decode prog_5_method_8_code 82 = .ok (.invokevirtual 145, 3) := by decide +kernel
theorem zd_ModelReader_readStatement_85 : decode prog_5_method_8_code 85 = .ok (.ireturn, 1) := by decide +kernel
theorem zd_ModelReader_readStatement_86 : decode prog_5_method_8_code 86 = .ok (.aload_n 0, 1) := by decide +kernel
theorem zd_ModelReader_readStatement_87 : decode prog_5_method_8_code 87 = .ok (.getfield 30, 3) := by decide +kernel
theorem zd_ModelReader_readStatement_90 : decode prog_5_method_8_code 90 = .ok (.getfield 148, 3) := by decide +kernel
theorem zd_ModelReader_readStatement_93 : decode prog_5_method_8_code 93 = .ok (.bipush 30, 2) := by decide +kernel
theorem zd_ModelReader_readStatement_95 : decode prog_5_method_8_code 95 = .ok (.if_icmp .eq 15, 3) := by decide +kernel
theorem zd_ModelReader_readStatement_98 : decode prog_5_method_8_code 98 = .ok (.aload_n 0, 1) := by decide +kernel
theorem zd_ModelReader_readStatement_99 : decode prog_5_method_8_code 99 = .ok (.getfield 23, 3) := by decide +kernel
theorem zd_ModelReader_readStatement_102 : decode prog_5_method_8_code 102 = .ok (.getfield 151, 3) := by decide +kernel
theorem zd_ModelReader_readStatement_105 : decode prog_5_method_8_code 105 = .ok (.bipush 48, 2) := by decide +kernel
theorem zd_ModelReader_readStatement_107 : decode prog_5_method_8_code 107 = .ok (.if_icmp .ne 10, 3) := by decide +kernel
theorem zd_ModelReader_readStatement_110 : decode prog_5_method_8_code 110 = .ok (.aload_n 0, 1) := by decide +kernel
theorem zd_ModelReader_readStatement_111 : decode prog_5_method_8_code 111 = .ok (.getfield 9, 3) := by decide +kernel
theorem zd_ModelReader_readStatement_114 : decode prog_5_method_8_code 114 = .ok (.invokevirtual 62, 3) := by decide +kernel
theorem zd_ModelReader_readStatement_117 : decode prog_5_method_8_code 117 = .ok (.aload_n 0, 1) := by decide +kernel
theorem zd_ModelReader_readStatement_118 : decode prog_5_method_8_code 118 = .ok (.getfield 30, 3) := by decide +kernel
theorem zd_ModelReader_readStatement_121 : decode prog_5_method_8_code 121 = .ok (.iconst 0, 1) := by decide +kernel
theorem zd_ModelReader_readStatement_122 : decode prog_5_method_8_code 122 = .ok (.iload_n 1, 1) := by decide +kernel
theorem zd_ModelReader_readStatement_123 : decode prog_5_method_8_code 123 = .ok (.iload_n 2, 1) := by decide +kernel
theorem zd_ModelReader_readStatement_124 : decode prog_5_method_8_code 124 = .ok (.invokevirtual 154, 3) := by decide +kernel
theorem zd_ModelReader_readStatement_127 : decode prog_5_method_8_code 127 = .ok (.istore 4, 2) := by decide +kernel
theorem zd_ModelReader_readStatement_129 : decode prog_5_method_8_code 129 = .ok (.aload_n 0, 1) := by decide +kernel
theorem zd_ModelReader_readStatement_130 : decode prog_5_method_8_code 130 = .ok (.getfield 30, 3) := by decide +kernel
theorem zd_ModelReader_readStatement_133 : decode prog_5_method_8_code 133 = .ok (.getfield 114, 3) := by decide +kernel
theorem zd_ModelReader_readStatement_136 : decode prog_5_method_8_code 136 = .ok (.iload 4, 2) := by decide +kernel
theorem zd_ModelReader_readStatement_138 : decode prog_5_method_8_code 138 = .ok (.aload_n 0, 1) := by decide +kernel
theorem zd_ModelReader_readStatement_139 : decode prog_5_method_8_code 139 = .ok (.getfield 23, 3) := by decide +kernel
theorem zd_ModelReader_readStatement_142 : decode prog_5_method_8_code 142 = .ok (.getfield 151, 3) := by decide +kernel
theorem zd_ModelReader_readStatement_145 : decode prog_5_method_8_code 145 = .ok (.iastore, 1) := by decide +kernel
theorem zd_ModelReader_readStatement_146 : decode prog_5_method_8_code 146 = .ok (.aload_n 0, 1) := by decide +kernel
theorem zd_ModelReader_readStatement_147 : decode prog_5_method_8_code 147 = .ok (.getfield 9, 3) := by decide +kernel
theorem zd_ModelReader_readStatement_150 : decode prog_5_method_8_code 150 = .ok (.invokevirtual 47, 3) := by decide +kernel
theorem zd_ModelReader_readStatement_153 : decode prog_5_method_8_code 153 = .ok (.lookupswitch 102 #[(40, 65), (45, 35), (126, 56)], 35) := by decide +kernel
theorem zd_ModelReader_readStatement_188 : decode prog_5_method_8_code 188 = .ok (.aload_n 0, 1) := by decide +kernel
theorem zd_ModelReader_readStatement_189 : decode prog_5_method_8_code 189 = .ok (.getfield 9, 3) := by decide +kernel
theorem zd_ModelReader_readStatement_192 : decode prog_5_method_8_code 192 = .ok (.invokevirtual 65, 3) := by decide +kernel
theorem zd_ModelReader_readStatement_195 : decode prog_5_method_8_code 195 = .ok (.aload_n 0, 1) := by decide +kernel
theorem zd_ModelReader_readStatement_196 : decode prog_5_method_8_code 196 = .ok (.getfield 23, 3) := by decide +kernel
theorem zd_ModelReader_readStatement_199 : decode prog_5_method_8_code 199 = .ok (.iconst 4, 1) := by decide +kernel
theorem zd_ModelReader_readStatement_200 : decode prog_5_method_8_code 200 = .ok (.iconst (-1), 1) := by decide +kernel
theorem zd_ModelReader_readStatement_201 : decode prog_5_method_8_code 201 = .ok (.iconst (-1), 1) := by decide +kernel
theorem zd_ModelReader_readStatement_202 : decode prog_5_method_8_code 202 = .ok (.iconst (-1), 1) := by decide +kernel
theorem zd_ModelReader_readStatement_203 : decode prog_5_method_8_code 203 = .ok (.invokevirtual 157, 3) := by decide +kernel
theorem zd_ModelReader_readStatement_206 : decode prog_5_method_8_code 206 = .ok (.goto 53, 3) := by decide +kernel
theorem zd_ModelReader_readStatement_209 : decode prog_5_method_8_code 209 = .ok (.aload_n 0, 1) := by decide +kernel
theorem zd_ModelReader_readStatement_210 : decode prog_5_method_8_code 210 = .ok (.iload_n 1, 1) := by decide +kernel
theorem zd_ModelReader_readStatement_211 : decode prog_5_method_8_code 211 = .ok (.iload_n 2, 1) := by decide +kernel
theorem zd_ModelReader_readStatement_212 : decode prog_5_method_8_code 212 = .ok (.invokevirtual 160, 3) := by decide +kernel
theorem zd_ModelReader_readStatement_215 : decode prog_5_method_8_code 215 = .ok (.goto 44, 3) := by decide +kernel
theorem zd_ModelReader_readStatement_218 : decode prog_5_method_8_code 218 = .ok (.aload_n 0, 1) := by decide +kernel
theorem zd_ModelReader_readStatement_219 : decode prog_5_method_8_code 219 = .ok (.getfield 9, 3) := by decide +kernel
theorem zd_ModelReader_readStatement_222 : decode prog_5_method_8_code 222 = .ok (.invokevirtual 65, 3) := by decide +kernel
theorem zd_ModelReader_readStatement_225 : decode prog_5_method_8_code 225 = .ok (.aload_n 0, 1) := by decide +kernel
theorem zd_ModelReader_readStatement_226 : decode prog_5_method_8_code 226 = .ok (.getfield 23, 3) := by decide +kernel
theorem zd_ModelReader_readStatement_229 : decode prog_5_method_8_code 229 = .ok (.iconst 1, 1) := by decide +kernel
theorem zd_ModelReader_readStatement_230 : decode prog_5_method_8_code 230 = .ok (.iconst (-1), 1) := by decide +kernel
theorem zd_ModelReader_readStatement_231 : decode prog_5_method_8_code 231 = .ok (.iconst (-1), 1) := by decide +kernel
theorem zd_ModelReader_readStatement_232 : decode prog_5_method_8_code 232 = .ok (.aload_n 0, 1) := by decide +kernel
theorem zd_ModelReader_readStatement_233 : decode prog_5_method_8_code 233 = .ok (.getfield 19, 3) := by decide +kernel
theorem zd_ModelReader_readStatement_236 : decode prog_5_method_8_code 236 = .ok (.iconst 1, 1) := by decide +kernel
theorem zd_ModelReader_readStatement_237 : decode prog_5_method_8_code 237 = .ok (.invokevirtual 163, 3) := by decide +kernel
theorem zd_ModelReader_readStatement_240 : decode prog_5_method_8_code 240 = .ok (.invokevirtual 157, 3) := by decide +kernel
theorem zd_ModelReader_readStatement_243 : decode prog_5_method_8_code 243 = .ok (.aload_n 0, 1) := by decide +kernel
theorem zd_ModelReader_readStatement_244 : decode prog_5_method_8_code 244 = .ok (.getfield 9, 3) := by decide +kernel
theorem zd_ModelReader_readStatement_247 : decode prog_5_method_8_code 247 = .ok (.bipush 41, 2) := by decide +kernel
theorem zd_ModelReader_readStatement_249 : decode prog_5_method_8_code 249 = .ok (.invokevirtual 96, 3) := by decide +kernel
theorem zd_ModelReader_readStatement_252 : decode prog_5_method_8_code 252 = .ok (.goto 7, 3) := by decide +kernel
theorem zd_ModelReader_readStatement_255 : decode prog_5_method_8_code 255 = .ok (.aload_n 0, 1) := by decide +kernel
theorem zd_ModelReader_readStatement_256 : decode prog_5_method_8_code 256 = .ok (.invokevirtual 166, 3) := by decide +kernel
theorem zd_ModelReader_readStatement_259 : decode prog_5_method_8_code 259 = .ok (.iload 4, 2) := by decide +kernel
theorem zd_ModelReader_readStatement_261 : decode prog_5_method_8_code 261 = .ok (.ireturn, 1) := by decide +kernel
def wc_ModelReader_readBody_R_48 (P0 : zTgm0) (P1 : zTgm1) (P2 : zTgm2) (P3 : zTgm3) (a0 : Int32) (a1 : Int32) (Post : (Nat → Int32) → (Nat → Int64) → (Nat → Nat → Int32) → (Nat → Nat → Int64) → Prop) (PX : String → (Nat → Int32) → (Nat → Int64) → (Nat → Nat → Int32) → (Nat → Nat → Int64) → Prop)  (I : Nat → Int32) (J : Nat → Int64) (B : Nat → Nat → Int32) (D : Nat → Nat → Int64) : Prop :=
  Post I J B D
def wc_ModelReader_readBody_R_30 (P0 : zTgm0) (P1 : zTgm1) (P2 : zTgm2) (P3 : zTgm3) (a0 : Int32) (a1 : Int32) (K5 : Int32 → Int32 → Int32 → Int32 → (Nat → Int32) → (Nat → Int64) → (Nat → Nat → Int32) → (Nat → Nat → Int64) → Prop) (Post : (Nat → Int32) → (Nat → Int64) → (Nat → Nat → Int32) → (Nat → Nat → Int64) → Prop) (PX : String → (Nat → Int32) → (Nat → Int64) → (Nat → Nat → Int32) → (Nat → Nat → Int64) → Prop) (x1 : Int32) (x2 : Int32) (x3 : Int32) (x4 : Int32) (I : Nat → Int32) (J : Nat → Int64) (B : Nat → Nat → Int32) (D : Nat → Nat → Int64) : Prop :=
  wp_ModelReader_readLabels I J B D  (fun I1 J1 B1 D1 => P1 I1 J1 B1 D1 x1 x3 x2 (fun r2 I2 J2 B2 D2 => ∀ z3 : Int32, z3 = (x4 + 1) → K5 x1 x2 r2 z3 I2 J2 B2 D2) PX) PX
def wb_ModelReader_readBody_R_5 (P0 : zTgm0) (P1 : zTgm1) (P2 : zTgm2) (P3 : zTgm3) (a0 : Int32) (a1 : Int32) (K5 : Int32 → Int32 → Int32 → Int32 → (Nat → Int32) → (Nat → Int64) → (Nat → Nat → Int32) → (Nat → Nat → Int64) → Prop) (Post : (Nat → Int32) → (Nat → Int64) → (Nat → Nat → Int32) → (Nat → Nat → Int64) → Prop) (PX : String → (Nat → Int32) → (Nat → Int64) → (Nat → Nat → Int32) → (Nat → Nat → Int64) → Prop) (x1 : Int32) (x2 : Int32) (x3 : Int32) (x4 : Int32) (I : Nat → Int32) (J : Nat → Int64) (B : Nat → Nat → Int32) (D : Nat → Nat → Int64) : Prop :=
  (((240 : Int32) ≤ x4 → wc_ModelReader_readBody_R_48 P0 P1 P2 P3 a0 a1 Post PX I J B D) ∧ (¬ (240 : Int32) ≤ x4 → ((x4 = 0 → wc_ModelReader_readBody_R_30 P0 P1 P2 P3 a0 a1 K5 Post PX x1 x2 x3 x4 I J B D) ∧ (¬ x4 = 0 → wp_Text_accept I J B D 59 (fun r6 I6 J6 B6 D6 => ((r6 = 0 → wc_ModelReader_readBody_R_48 P0 P1 P2 P3 a0 a1 Post PX I6 J6 B6 D6) ∧ (¬ r6 = 0 → wc_ModelReader_readBody_R_30 P0 P1 P2 P3 a0 a1 K5 Post PX x1 x2 x3 x4 I6 J6 B6 D6)))))))
def wl_ModelReader_readBody_R_5 (P0 : zTgm0) (P1 : zTgm1) (P2 : zTgm2) (P3 : zTgm3) (a0 : Int32) (a1 : Int32) (Post : (Nat → Int32) → (Nat → Int64) → (Nat → Nat → Int32) → (Nat → Nat → Int64) → Prop) (PX : String → (Nat → Int32) → (Nat → Int64) → (Nat → Nat → Int32) → (Nat → Nat → Int64) → Prop) (n : Nat) : Int32 → Int32 → Int32 → Int32 → (Nat → Int32) → (Nat → Int64) → (Nat → Nat → Int32) → (Nat → Nat → Int64) → Prop := Nat.rec (fun _ _ _ _ _ _ _ _ => False) (fun _ r => wb_ModelReader_readBody_R_5 P0 P1 P2 P3 a0 a1 r Post PX) n
def wp_ModelReader_readBody_R (I : Nat → Int32) (J : Nat → Int64) (B : Nat → Nat → Int32) (D : Nat → Nat → Int64) (P0 : zTgm0) (P1 : zTgm1) (P2 : zTgm2) (P3 : zTgm3) (a0 : Int32) (a1 : Int32) (Post : (Nat → Int32) → (Nat → Int64) → (Nat → Nat → Int32) → (Nat → Nat → Int64) → Prop) (PX : String → (Nat → Int32) → (Nat → Int64) → (Nat → Nat → Int32) → (Nat → Nat → Int64) → Prop) : Prop :=
  ∃ n : Nat, wl_ModelReader_readBody_R_5 P0 P1 P2 P3 a0 a1 Post PX n a0 a1 (-1) 0 I J B D
set_option maxHeartbeats 8000000 in
set_option maxRecDepth 100000 in
theorem wJ_ModelReader_readBody_R_48 {p : Program} {l : Launch} {e : Env} {s : State} {m : MethodId} {below : List Frame} {meth : Method} {c : Code} {A : Nat → Prop} (G : va_G) (K : Nat → ClassId) (ad : Nat → Nat) (sv : Value) (P0 : zTgm0) (P1 : zTgm1) (P2 : zTgm2) (P3 : zTgm3) (a0 : Int32) (a1 : Int32) (Post : (Nat → Int32) → (Nat → Int64) → (Nat → Nat → Int32) → (Nat → Nat → Int64) → Prop) (PX : String → (Nat → Int32) → (Nat → Int64) → (Nat → Nat → Int32) → (Nat → Nat → Int64) → Prop) (C : zCy p l s m ([.ref (ad 5), .int a0, .int a1] : List Value).toArray meth c A G K prog_5_method_6_code none 5 "LassoFinder$ModelReader") (n8 : Nat) (ihP : zIH_gm l G K ad sv n8 P0 P1 P2 P3) : ∀  (I : Nat → Int32) (J : Nat → Int64) (B : Nat → Nat → Int32) (D : Nat → Nat → Int64) (ls : Array Slot) (H : Heap) (locs : List Loc), wc_ModelReader_readBody_R_48 P0 P1 P2 P3 a0 a1 Post PX  I J B D → lv_has ls 5 [] → zW G A s.heap (wX ad K sv I J B D) H locs → W p l e { frames := n8 + 1 + 10, cells := 1, slots := 6, locals := (n8 + 1) * 26 + 169 } s m ([.ref (ad 5), .int a0, .int a1] : List Value).toArray below meth c H locs 0 0 (zyMQ below (va_Qv (fun u : zS => Post u.1 u.2.1 u.2.2.1 u.2.2.2) (fun u t => zPost G K A (wX ad K sv u.1 u.2.1 u.2.2.1 u.2.2.2) t) A) (zYC (fun E (u : zS) => PX E u.1 u.2.1 u.2.2.1 u.2.2.2) (fun u => wX ad K sv u.1 u.2.1 u.2.2.1 u.2.2.2) G K A) ([.ref (ad 5), .int a0, .int a1] : List Value).toArray s 1 6 A) (F0 m 48 ls []) := by
  obtain ⟨hx, hb, hr, hml, hts, hown, hlocks, hA, hK, hT, hnt, hlt⟩ := id C
  intro  I J B D ls H locs hok hl hw
  unfold wc_ModelReader_readBody_R_48 at hok
  exact zy_ret (z_vret (u := (I, J, B, D)) hx hb hr hlocks hw (List.range 65) wX_all wX_nd hok (by first | omega | (dsimp only; omega) | exact Nat.le_of_ble_eq_true rfl) (by first | omega | (dsimp only; omega) | exact Nat.le_of_ble_eq_true rfl) zd_ModelReader_readBody_48)
set_option maxHeartbeats 8000000 in
set_option maxRecDepth 100000 in
theorem wJ_ModelReader_readBody_R_30 {p : Program} {l : Launch} {e : Env} {s : State} {m : MethodId} {below : List Frame} {meth : Method} {c : Code} {A : Nat → Prop} (G : va_G) (K : Nat → ClassId) (ad : Nat → Nat) (sv : Value) (P0 : zTgm0) (P1 : zTgm1) (P2 : zTgm2) (P3 : zTgm3) (a0 : Int32) (a1 : Int32) (Post : (Nat → Int32) → (Nat → Int64) → (Nat → Nat → Int32) → (Nat → Nat → Int64) → Prop) (PX : String → (Nat → Int32) → (Nat → Int64) → (Nat → Nat → Int32) → (Nat → Nat → Int64) → Prop) (C : zCy p l s m ([.ref (ad 5), .int a0, .int a1] : List Value).toArray meth c A G K prog_5_method_6_code none 5 "LassoFinder$ModelReader") (n8 : Nat) (ihP : zIH_gm l G K ad sv n8 P0 P1 P2 P3) (K5 : Int32 → Int32 → Int32 → Int32 → (Nat → Int32) → (Nat → Int64) → (Nat → Nat → Int32) → (Nat → Nat → Int64) → Prop) (kh5 : ∀ (x1 : Int32) (x2 : Int32) (x3 : Int32) (x4 : Int32) (I : Nat → Int32) (J : Nat → Int64) (B : Nat → Nat → Int32) (D : Nat → Nat → Int64) (ls : Array Slot) (H : Heap) (locs : List Loc), K5 x1 x2 x3 x4 I J B D → lv_has ls 5 [(0, .ref (ad 5)), (1, .int x1), (2, .int x2), (3, .int x3), (4, .int x4)] → zW G A s.heap (wX ad K sv I J B D) H locs → W p l e { frames := n8 + 1 + 10, cells := 1, slots := 6, locals := (n8 + 1) * 26 + 169 } s m ([.ref (ad 5), .int a0, .int a1] : List Value).toArray below meth c H locs 0 0 (zyMQ below (va_Qv (fun u : zS => Post u.1 u.2.1 u.2.2.1 u.2.2.2) (fun u t => zPost G K A (wX ad K sv u.1 u.2.1 u.2.2.1 u.2.2.2) t) A) (zYC (fun E (u : zS) => PX E u.1 u.2.1 u.2.2.1 u.2.2.2) (fun u => wX ad K sv u.1 u.2.1 u.2.2.1 u.2.2.2) G K A) ([.ref (ad 5), .int a0, .int a1] : List Value).toArray s 1 6 A) (F0 m 5 ls [])) : ∀ (x1 : Int32) (x2 : Int32) (x3 : Int32) (x4 : Int32) (I : Nat → Int32) (J : Nat → Int64) (B : Nat → Nat → Int32) (D : Nat → Nat → Int64) (ls : Array Slot) (H : Heap) (locs : List Loc), wc_ModelReader_readBody_R_30 P0 P1 P2 P3 a0 a1 K5 Post PX x1 x2 x3 x4 I J B D → lv_has ls 5 [(0, .ref (ad 5)), (1, .int x1), (2, .int x2), (3, .int x3), (4, .int x4)] → zW G A s.heap (wX ad K sv I J B D) H locs → W p l e { frames := n8 + 1 + 10, cells := 1, slots := 6, locals := (n8 + 1) * 26 + 169 } s m ([.ref (ad 5), .int a0, .int a1] : List Value).toArray below meth c H locs 0 0 (zyMQ below (va_Qv (fun u : zS => Post u.1 u.2.1 u.2.2.1 u.2.2.2) (fun u t => zPost G K A (wX ad K sv u.1 u.2.1 u.2.2.1 u.2.2.2) t) A) (zYC (fun E (u : zS) => PX E u.1 u.2.1 u.2.2.1 u.2.2.2) (fun u => wX ad K sv u.1 u.2.1 u.2.2.1 u.2.2.2) G K A) ([.ref (ad 5), .int a0, .int a1] : List Value).toArray s 1 6 A) (F0 m 30 ls []) := by
  obtain ⟨hx, hb, hr, hml, hts, hown, hlocks, hA, hK, hT, hnt, hlt⟩ := id C
  intro x1 x2 x3 x4 I J B D ls H locs hok hl hw
  unfold wc_ModelReader_readBody_R_30 at hok
  refine lv_aload_n hx hb zd_ModelReader_readBody_30 rfl (lv_at hl 0 rfl) ?_
  refine z_yV (q0 := 5) (wc := (wX ad K sv I J B D)) (wr := []) (w1 := fun (u : zS) => wX ad K sv u.1 u.2.1 u.2.2.1 u.2.2.2) (As := []) (rest := []) ⟨hx, hb, hml, hown, hts⟩ (w_ModelReader_readLabels l hlt G K ad sv I J B D  _ _ H.size hok) zf_ModelReader_readLabels zn_347 ⟨(by first | omega | (dsimp only; omega) | exact Nat.le_of_ble_eq_true rfl), (by first | omega | (dsimp only; omega) | exact Nat.le_of_ble_eq_true rfl)⟩ hK hT hw hA (List.range 65) [] wX_all rfl wX_nd (by decide) (fun i hi => by cases hi) wX_g5 rfl rfl hl.1 rfl (by first | omega | (dsimp only; omega) | exact Nat.le_of_ble_eq_true rfl) zd_ModelReader_readBody_31 ⟨(by first | omega | (dsimp only; omega) | exact Nat.le_of_ble_eq_true rfl), (by first | omega | (dsimp only; omega) | exact Nat.le_of_ble_eq_true rfl)⟩ (fun v st9 t9 L9 h0 hq hL => ?_) (fun E ce q9 u H locs hu hw hce hcv hcl => z_yout (u := u) hnt hlocks hce hcv hcl hw (List.range 65) wX_all wX_nd hu (by first | omega | (dsimp only; omega) | exact Nat.le_of_ble_eq_true rfl) (by first | omega | (dsimp only; omega) | exact Nat.le_of_ble_eq_true rfl))
  obtain ⟨⟨u, hv9, hok, hB9⟩, hF9⟩ := hq
  cases hv9
  have hw := z_back (wr := []) hw hA (List.range 65) [] wX_all rfl (by decide) (fun i hi => by cases hi) h0 hL hB9 hF9
  obtain ⟨I1, J1, B1, D1⟩ := u
  dsimp only at hok
  generalize t9.heap = H at hw ⊢
  generalize locs ++ L9 = locs at hw ⊢
  have hw : zW G A s.heap (wX ad K sv I1 J1 B1 D1) H locs := hw
  refine W.eq (g2 := F0 m 34 ls []) rfl ?_
  refine lv_aload_n hx hb zd_ModelReader_readBody_34 rfl (lv_at hl 0 rfl) ?_
  refine lv_iload_n hx hb zd_ModelReader_readBody_35 rfl (lv_at hl 1 rfl) ?_
  refine lv_iload_n hx hb zd_ModelReader_readBody_36 rfl (lv_at hl 3 rfl) ?_
  refine lv_iload_n hx hb zd_ModelReader_readBody_37 rfl (lv_at hl 2 rfl) ?_
  refine z_yV (q0 := 5) (wc := (wX ad K sv I1 J1 B1 D1)) (wr := []) (w1 := fun (u : zS) => wX ad K sv u.1 u.2.1 u.2.2.1 u.2.2.2) (As := [.int x1, .int x3, .int x2]) (rest := []) ⟨hx, hb, hml, hown, hts⟩ (ihP.2.1 I1 J1 B1 D1 x1 x3 x2 _ _ H.size hok) zf_ModelReader_readStatement zn_348 ⟨(by first | omega | (dsimp only; omega) | exact Nat.le_of_ble_eq_true rfl), (by first | omega | (dsimp only; omega) | exact Nat.le_of_ble_eq_true rfl)⟩ hK hT hw hA (List.range 65) [] wX_all rfl wX_nd (by decide) (fun i hi => by cases hi) wX_g5 rfl rfl hl.1 rfl (by first | omega | (dsimp only; omega) | exact Nat.le_of_ble_eq_true rfl) zd_ModelReader_readBody_38 ⟨(by first | omega | (dsimp only; omega) | exact Nat.le_of_ble_eq_true rfl), (by first | omega | (dsimp only; omega) | exact Nat.le_of_ble_eq_true rfl)⟩ (fun v st9 t9 L9 h0 hq hL => ?_) (fun E ce q9 u H locs hu hw hce hcv hcl => z_yout (u := u) hnt hlocks hce hcv hcl hw (List.range 65) wX_all wX_nd hu (by first | omega | (dsimp only; omega) | exact Nat.le_of_ble_eq_true rfl) (by first | omega | (dsimp only; omega) | exact Nat.le_of_ble_eq_true rfl))
  obtain ⟨⟨r2, u, hv9, hok, hB9⟩, hF9⟩ := hq
  cases hv9
  have hw := z_back (wr := []) hw hA (List.range 65) [] wX_all rfl (by decide) (fun i hi => by cases hi) h0 hL hB9 hF9
  obtain ⟨I2, J2, B2, D2⟩ := u
  dsimp only at hok
  generalize t9.heap = H at hw ⊢
  generalize locs ++ L9 = locs at hw ⊢
  have hw : zW G A s.heap (wX ad K sv I2 J2 B2 D2) H locs := hw
  refine W.eq (g2 := F0 m 41 ls [.int r2]) rfl ?_
  refine lv_istore_n hx hb zd_ModelReader_readBody_41 rfl hl (by decide) rfl (fun ls hl => ?_)
  have hl : lv_has ls 5 [(3, .int r2), (0, .ref (ad 5)), (1, .int x1), (2, .int x2), (4, .int x4)] := hl
  obtain ⟨z3, ez3⟩ : ∃ z : Int32, z = (x4 + 1) := ⟨_, rfl⟩
  have hok := hok z3 ez3
  refine lv_iinc (v := z3) hx hb zd_ModelReader_readBody_42 hl (k := 4) rfl ez3.symm (by decide) rfl (fun ls hl => ?_)
  have hl : lv_has ls 5 [(4, .int z3), (3, .int r2), (0, .ref (ad 5)), (1, .int x1), (2, .int x2)] := hl
  refine lv_goto (tgt := 5) hx hb zd_ModelReader_readBody_45 (by decide) ?_
  exact kh5 x1 x2 r2 z3 I2 J2 B2 D2 ls H locs hok (lv_sub hl [2, 3, 4, 1, 0] rfl) hw
set_option maxHeartbeats 8000000 in
set_option maxRecDepth 100000 in
theorem wB_ModelReader_readBody_R_5 {p : Program} {l : Launch} {e : Env} {s : State} {m : MethodId} {below : List Frame} {meth : Method} {c : Code} {A : Nat → Prop} (G : va_G) (K : Nat → ClassId) (ad : Nat → Nat) (sv : Value) (P0 : zTgm0) (P1 : zTgm1) (P2 : zTgm2) (P3 : zTgm3) (a0 : Int32) (a1 : Int32) (Post : (Nat → Int32) → (Nat → Int64) → (Nat → Nat → Int32) → (Nat → Nat → Int64) → Prop) (PX : String → (Nat → Int32) → (Nat → Int64) → (Nat → Nat → Int32) → (Nat → Nat → Int64) → Prop) (C : zCy p l s m ([.ref (ad 5), .int a0, .int a1] : List Value).toArray meth c A G K prog_5_method_6_code none 5 "LassoFinder$ModelReader") (n8 : Nat) (ihP : zIH_gm l G K ad sv n8 P0 P1 P2 P3) (K5 : Int32 → Int32 → Int32 → Int32 → (Nat → Int32) → (Nat → Int64) → (Nat → Nat → Int32) → (Nat → Nat → Int64) → Prop) (kh5 : ∀ (x1 : Int32) (x2 : Int32) (x3 : Int32) (x4 : Int32) (I : Nat → Int32) (J : Nat → Int64) (B : Nat → Nat → Int32) (D : Nat → Nat → Int64) (ls : Array Slot) (H : Heap) (locs : List Loc), K5 x1 x2 x3 x4 I J B D → lv_has ls 5 [(0, .ref (ad 5)), (1, .int x1), (2, .int x2), (3, .int x3), (4, .int x4)] → zW G A s.heap (wX ad K sv I J B D) H locs → W p l e { frames := n8 + 1 + 10, cells := 1, slots := 6, locals := (n8 + 1) * 26 + 169 } s m ([.ref (ad 5), .int a0, .int a1] : List Value).toArray below meth c H locs 0 0 (zyMQ below (va_Qv (fun u : zS => Post u.1 u.2.1 u.2.2.1 u.2.2.2) (fun u t => zPost G K A (wX ad K sv u.1 u.2.1 u.2.2.1 u.2.2.2) t) A) (zYC (fun E (u : zS) => PX E u.1 u.2.1 u.2.2.1 u.2.2.2) (fun u => wX ad K sv u.1 u.2.1 u.2.2.1 u.2.2.2) G K A) ([.ref (ad 5), .int a0, .int a1] : List Value).toArray s 1 6 A) (F0 m 5 ls [])) : ∀ (x1 : Int32) (x2 : Int32) (x3 : Int32) (x4 : Int32) (I : Nat → Int32) (J : Nat → Int64) (B : Nat → Nat → Int32) (D : Nat → Nat → Int64) (ls : Array Slot) (H : Heap) (locs : List Loc), wb_ModelReader_readBody_R_5 P0 P1 P2 P3 a0 a1 K5 Post PX x1 x2 x3 x4 I J B D → lv_has ls 5 [(0, .ref (ad 5)), (1, .int x1), (2, .int x2), (3, .int x3), (4, .int x4)] → zW G A s.heap (wX ad K sv I J B D) H locs → W p l e { frames := n8 + 1 + 10, cells := 1, slots := 6, locals := (n8 + 1) * 26 + 169 } s m ([.ref (ad 5), .int a0, .int a1] : List Value).toArray below meth c H locs 0 0 (zyMQ below (va_Qv (fun u : zS => Post u.1 u.2.1 u.2.2.1 u.2.2.2) (fun u t => zPost G K A (wX ad K sv u.1 u.2.1 u.2.2.1 u.2.2.2) t) A) (zYC (fun E (u : zS) => PX E u.1 u.2.1 u.2.2.1 u.2.2.2) (fun u => wX ad K sv u.1 u.2.1 u.2.2.1 u.2.2.2) G K A) ([.ref (ad 5), .int a0, .int a1] : List Value).toArray s 1 6 A) (F0 m 5 ls []) := by
  obtain ⟨hx, hb, hr, hml, hts, hown, hlocks, hA, hK, hT, hnt, hlt⟩ := id C
  intro x1 x2 x3 x4 I J B D ls H locs hok hl hw
  unfold wb_ModelReader_readBody_R_5 at hok
  refine lv_iload hx hb zd_ModelReader_readBody_5 (lv_at hl 4 rfl) ?_
  refine lv_sipush (v := 240) hx hb zd_ModelReader_readBody_7 (by decide) ?_
  refine lv_icmp_ge (tgt := 48) hx hb zd_ModelReader_readBody_10 (by decide) (fun hc4 => ?_) (fun hc4 => ?_)
  · have hok := hok.1 hc4
    exact wJ_ModelReader_readBody_R_48 G K ad sv P0 P1 P2 P3 a0 a1 Post PX C n8 ihP I J B D ls H locs hok (lv_sub hl [] rfl) hw
  · have hok := hok.2 hc4
    refine lv_iload hx hb zd_ModelReader_readBody_13 (lv_at hl 4 rfl) ?_
    refine lv_if_eq (tgt := 30) hx hb zd_ModelReader_readBody_15 (by decide) (fun hc5 => ?_) (fun hc5 => ?_)
    · have hok := hok.1 hc5
      exact wJ_ModelReader_readBody_R_30 G K ad sv P0 P1 P2 P3 a0 a1 Post PX C n8 ihP K5 kh5 x1 x2 x3 x4 I J B D ls H locs hok (lv_sub hl [0, 1, 2, 3, 4] rfl) hw
    · have hok := hok.2 hc5
      refine lv_aload_n hx hb zd_ModelReader_readBody_18 rfl (lv_at hl 0 rfl) ?_
      refine z_get (v := .ref (ad 1)) hx hb hts hown hK hw zZ4 5 wX_g5 0 (by decide) zn_422 rfl zd_ModelReader_readBody_19 ?_
      refine lv_bipush (v := 59) hx hb zd_ModelReader_readBody_22 (by decide) ?_
      refine z_calli (w1 := fun (u : zS) => wX ad K sv u.1 u.2.1 u.2.2.1 u.2.2.2) (wr := []) (z_runV (q0 := 1) (wc := (wX ad K sv I J B D)) (As := [.int 59]) (rest := []) ⟨hx, hb, hml, hown, hts⟩ (w_Text_accept l G K ad sv I J B D 59 _ H.size hok) zf_Text_accept zn_332 ⟨(by first | omega | (dsimp only; omega) | exact Nat.le_of_ble_eq_true rfl), (by first | omega | (dsimp only; omega) | exact Nat.le_of_ble_eq_true rfl)⟩ hK hw (List.range 65) wX_all wX_nd wX_g1 rfl rfl hl.1 rfl (by first | omega | (dsimp only; omega) | exact Nat.le_of_ble_eq_true rfl) zd_ModelReader_readBody_24 ⟨(by first | omega | (dsimp only; omega) | exact Nat.le_of_ble_eq_true rfl), (by first | omega | (dsimp only; omega) | exact Nat.le_of_ble_eq_true rfl)⟩) hw hA (List.range 65) [] wX_all rfl (by decide) (fun i hi => by cases hi) (fun r6 u H locs hok hw => ?_)
      obtain ⟨I6, J6, B6, D6⟩ := u
      dsimp only at hok
      have hw : zW G A s.heap (wX ad K sv I6 J6 B6 D6) H locs := hw
      refine lv_if_eq (tgt := 48) hx hb zd_ModelReader_readBody_27 (by decide) (fun hc7 => ?_) (fun hc7 => ?_)
      · have hok := hok.1 hc7
        exact wJ_ModelReader_readBody_R_48 G K ad sv P0 P1 P2 P3 a0 a1 Post PX C n8 ihP I6 J6 B6 D6 ls H locs hok (lv_sub hl [] rfl) hw
      · have hok := hok.2 hc7
        exact wJ_ModelReader_readBody_R_30 G K ad sv P0 P1 P2 P3 a0 a1 Post PX C n8 ihP K5 kh5 x1 x2 x3 x4 I6 J6 B6 D6 ls H locs hok (lv_sub hl [0, 1, 2, 3, 4] rfl) hw
theorem wL_ModelReader_readBody_R_5 {p : Program} {l : Launch} {e : Env} {s : State} {m : MethodId} {below : List Frame} {meth : Method} {c : Code} {A : Nat → Prop} (G : va_G) (K : Nat → ClassId) (ad : Nat → Nat) (sv : Value) (P0 : zTgm0) (P1 : zTgm1) (P2 : zTgm2) (P3 : zTgm3) (a0 : Int32) (a1 : Int32) (Post : (Nat → Int32) → (Nat → Int64) → (Nat → Nat → Int32) → (Nat → Nat → Int64) → Prop) (PX : String → (Nat → Int32) → (Nat → Int64) → (Nat → Nat → Int32) → (Nat → Nat → Int64) → Prop) (C : zCy p l s m ([.ref (ad 5), .int a0, .int a1] : List Value).toArray meth c A G K prog_5_method_6_code none 5 "LassoFinder$ModelReader") (n8 : Nat) (ihP : zIH_gm l G K ad sv n8 P0 P1 P2 P3) : ∀ (n : Nat) (x1 : Int32) (x2 : Int32) (x3 : Int32) (x4 : Int32) (I : Nat → Int32) (J : Nat → Int64) (B : Nat → Nat → Int32) (D : Nat → Nat → Int64) (ls : Array Slot) (H : Heap) (locs : List Loc), wl_ModelReader_readBody_R_5 P0 P1 P2 P3 a0 a1 Post PX n x1 x2 x3 x4 I J B D → lv_has ls 5 [(0, .ref (ad 5)), (1, .int x1), (2, .int x2), (3, .int x3), (4, .int x4)] → zW G A s.heap (wX ad K sv I J B D) H locs → W p l e { frames := n8 + 1 + 10, cells := 1, slots := 6, locals := (n8 + 1) * 26 + 169 } s m ([.ref (ad 5), .int a0, .int a1] : List Value).toArray below meth c H locs 0 0 (zyMQ below (va_Qv (fun u : zS => Post u.1 u.2.1 u.2.2.1 u.2.2.2) (fun u t => zPost G K A (wX ad K sv u.1 u.2.1 u.2.2.1 u.2.2.2) t) A) (zYC (fun E (u : zS) => PX E u.1 u.2.1 u.2.2.1 u.2.2.2) (fun u => wX ad K sv u.1 u.2.1 u.2.2.1 u.2.2.2) G K A) ([.ref (ad 5), .int a0, .int a1] : List Value).toArray s 1 6 A) (F0 m 5 ls []) := by
  intro n
  induction n with
  | zero => intro x1 x2 x3 x4 I J B D ls H locs hok; exact hok.elim
  | succ n ih => exact wB_ModelReader_readBody_R_5 G K ad sv P0 P1 P2 P3 a0 a1 Post PX C n8 ihP (wl_ModelReader_readBody_R_5 P0 P1 P2 P3 a0 a1 Post PX n) ih
set_option maxHeartbeats 8000000 in
set_option maxRecDepth 100000 in
theorem w_ModelReader_readBody_R (l : Launch) (hlt : l.stackTraces = false) (G : va_G) (K : Nat → ClassId) (ad : Nat → Nat) (sv : Value) (I : Nat → Int32) (J : Nat → Int64) (B : Nat → Nat → Int32) (D : Nat → Nat → Int64) (P0 : zTgm0) (P1 : zTgm1) (P2 : zTgm2) (P3 : zTgm3) (a0 : Int32) (a1 : Int32) (Post : (Nat → Int32) → (Nat → Int64) → (Nat → Nat → Int32) → (Nat → Nat → Int64) → Prop) (PX : String → (Nat → Int32) → (Nat → Int64) → (Nat → Nat → Int32) → (Nat → Nat → Int64) → Prop) (sz : Nat) (hok : wp_ModelReader_readBody_R I J B D P0 P1 P2 P3 a0 a1 Post PX) (n8 : Nat) (ihP : zIH_gm l G K ad sv n8 P0 P1 P2 P3) : zyMet l zy_ModelReader_readBody (Cond.code zy_ModelReader_readBody prog_5_method_6_code 5 none :: zTB) { frames := n8 + 1 + 10, cells := 1, slots := 6, locals := (n8 + 1) * 26 + 169 } (va_Pc [.ref (ad 5), .int a0, .int a1] (zPreY G K (wX ad K sv I J B D) sz)) (va_Qv (fun u : zS => Post u.1 u.2.1 u.2.2.1 u.2.2.2) (fun u t => zPost G K (va_A (wX ad K sv I J B D) sz) (wX ad K sv u.1 u.2.1 u.2.2.1 u.2.2.2) t) (va_A (wX ad K sv I J B D) sz)) (zYC (fun E (u : zS) => PX E u.1 u.2.1 u.2.2.1 u.2.2.2) (fun u => wX ad K sv u.1 u.2.1 u.2.2.1 u.2.2.2) G K (va_A (wX ad K sv I J B D) sz)) 1 6 (va_A (wX ad K sv I J B D) sz) := by
  refine zMetY (y := zy_ModelReader_readBody) (av := [.ref (ad 5), .int a0, .int a1]) (maxL := 5) (cc := prog_5_method_6_code) (ret := none) (W0 := (wX ad K sv I J B D)) (sz := sz) (G := G) (K := K) (wt := zTB) (mc := 1) (ms := 6) (Qf := fun A => va_Qv (fun u : zS => Post u.1 u.2.1 u.2.2.1 u.2.2.2) (fun u t => zPost G K A (wX ad K sv u.1 u.2.1 u.2.2.1 u.2.2.2) t) A) (Xf := fun A => (zYC (fun E (u : zS) => PX E u.1 u.2.1 u.2.2.1 u.2.2.2) (fun u => wX ad K sv u.1 u.2.1 u.2.2.1 u.2.2.2) G K A)) (by decide) (by first | omega | (dsimp only; omega) | exact Nat.le_of_ble_eq_true rfl) ?_
  intro p e s m below meth c ls A hx hb hr hml hts hown hlocks hin hA hK H locs hw hsz hl hT hnt
  clear hsz
  have hown : s.vm.findClass "LassoFinder$ModelReader" = some m.cls := hown
  have C : zCy p l s m ([.ref (ad 5), .int a0, .int a1] : List Value).toArray meth c A G K prog_5_method_6_code none 5 "LassoFinder$ModelReader" := ⟨hx, hb, hr, hml, hts, hown, hlocks, hA, hK, hT, hnt, hlt⟩
  have hl : lv_has ls 5 [(0, .ref (ad 5)), (1, .int a0), (2, .int a1)] := hl
  have hw : zW G A s.heap (wX ad K sv I J B D) H locs := hw
  unfold wp_ModelReader_readBody_R at hok
  refine lv_iconst (v := (-1)) hx hb zd_ModelReader_readBody_0 (by decide) ?_
  refine lv_istore_n hx hb zd_ModelReader_readBody_1 rfl hl (by decide) rfl (fun ls hl => ?_)
  have hl : lv_has ls 5 [(3, .int (-1)), (0, .ref (ad 5)), (1, .int a0), (2, .int a1)] := hl
  refine lv_iconst (v := 0) hx hb zd_ModelReader_readBody_2 (by decide) ?_
  refine lv_istore hx hb zd_ModelReader_readBody_3 hl (by decide) rfl (fun ls hl => ?_)
  have hl : lv_has ls 5 [(4, .int 0), (3, .int (-1)), (0, .ref (ad 5)), (1, .int a0), (2, .int a1)] := hl
  obtain ⟨n9, hok⟩ := hok
  exact wL_ModelReader_readBody_R_5 G K ad sv P0 P1 P2 P3 a0 a1 Post PX C n8 ihP n9 a0 a1 (-1) 0 I J B D ls H locs hok (lv_sub hl [2, 3, 4, 1, 0] rfl) hw
def wc_ModelReader_readStatement_R_259 (P0 : zTgm0) (P1 : zTgm1) (P2 : zTgm2) (P3 : zTgm3) (a0 : Int32) (a1 : Int32) (a2 : Int32) (Post : Int32 → (Nat → Int32) → (Nat → Int64) → (Nat → Nat → Int32) → (Nat → Nat → Int64) → Prop) (PX : String → (Nat → Int32) → (Nat → Int64) → (Nat → Nat → Int32) → (Nat → Nat → Int64) → Prop) (x4 : Int32) (I : Nat → Int32) (J : Nat → Int64) (B : Nat → Nat → Int32) (D : Nat → Nat → Int64) : Prop :=
  Post x4 I J B D
def wc_ModelReader_readStatement_R_117 (P0 : zTgm0) (P1 : zTgm1) (P2 : zTgm2) (P3 : zTgm3) (a0 : Int32) (a1 : Int32) (a2 : Int32) (Post : Int32 → (Nat → Int32) → (Nat → Int64) → (Nat → Nat → Int32) → (Nat → Nat → Int64) → Prop) (PX : String → (Nat → Int32) → (Nat → Int64) → (Nat → Nat → Int32) → (Nat → Nat → Int64) → Prop) (x1 : Int32) (x2 : Int32) (I : Nat → Int32) (J : Nat → Int64) (B : Nat → Nat → Int32) (D : Nat → Nat → Int64) : Prop :=
  wp_Tree_add I J B D 0 x1 x2 (fun r1 I1 J1 B1 D1 => vp_in r1 240 ∧ wp_Text_ahead I1 J1 (va_up B1 26 (upd (B1 26) r1.toNatClampNeg (I1 9))) D1  (fun r2 I2 J2 B2 D2 => ((r2 = 40 → wp_Text_skip I2 J2 B2 D2  (fun I4 J4 B4 D4 => wp_Terms_read_A I4 J4 B4 D4 1 (fun r5 I5 J5 B5 D5 => wp_Program_add I5 J5 B5 D5 1 (-1) (-1) r5 (fun I6 J6 B6 D6 => wp_Text_expect I6 J6 B6 D6 41 (fun I7 J7 B7 D7 => wc_ModelReader_readStatement_R_259 P0 P1 P2 P3 a0 a1 a2 Post PX r1 I7 J7 B7 D7) PX)) PX)) ∧ (r2 = 45 → wp_Text_skip I2 J2 B2 D2  (fun I9 J9 B9 D9 => wp_Program_add I9 J9 B9 D9 4 (-1) (-1) (-1) (fun I10 J10 B10 D10 => wc_ModelReader_readStatement_R_259 P0 P1 P2 P3 a0 a1 a2 Post PX r1 I10 J10 B10 D10))) ∧ (r2 = 126 → wp_ModelReader_readElse I2 J2 B2 D2 x1 x2 (fun I12 J12 B12 D12 => wc_ModelReader_readStatement_R_259 P0 P1 P2 P3 a0 a1 a2 Post PX r1 I12 J12 B12 D12) PX) ∧ (¬ r2 = 40 → ¬ r2 = 45 → ¬ r2 = 126 → wp_ModelReader_readNamed I2 J2 B2 D2  (fun I13 J13 B13 D13 => wc_ModelReader_readStatement_R_259 P0 P1 P2 P3 a0 a1 a2 Post PX r1 I13 J13 B13 D13) PX))))
def wc_ModelReader_readStatement_R_110 (P0 : zTgm0) (P1 : zTgm1) (P2 : zTgm2) (P3 : zTgm3) (a0 : Int32) (a1 : Int32) (a2 : Int32) (Post : Int32 → (Nat → Int32) → (Nat → Int64) → (Nat → Nat → Int32) → (Nat → Nat → Int64) → Prop) (PX : String → (Nat → Int32) → (Nat → Int64) → (Nat → Nat → Int32) → (Nat → Nat → Int64) → Prop) (x1 : Int32) (x2 : Int32) (I : Nat → Int32) (J : Nat → Int64) (B : Nat → Nat → Int32) (D : Nat → Nat → Int64) : Prop :=
  wp_Text_refuse I J B D  (fun I14 J14 B14 D14 => wc_ModelReader_readStatement_R_117 P0 P1 P2 P3 a0 a1 a2 Post PX x1 x2 I14 J14 B14 D14) PX
def wc_ModelReader_readStatement_R_56 (P0 : zTgm0) (P1 : zTgm1) (P2 : zTgm2) (P3 : zTgm3) (a0 : Int32) (a1 : Int32) (a2 : Int32) (Post : Int32 → (Nat → Int32) → (Nat → Int64) → (Nat → Nat → Int32) → (Nat → Nat → Int64) → Prop) (PX : String → (Nat → Int32) → (Nat → Int64) → (Nat → Nat → Int32) → (Nat → Nat → Int64) → Prop) (x1 : Int32) (x2 : Int32) (x3 : Int32) (I : Nat → Int32) (J : Nat → Int64) (B : Nat → Nat → Int32) (D : Nat → Nat → Int64) : Prop :=
  P2 I J B D x1 x2 x3 (fun r15 I15 J15 B15 D15 => Post r15 I15 J15 B15 D15) PX
def wp_ModelReader_readStatement_R (I : Nat → Int32) (J : Nat → Int64) (B : Nat → Nat → Int32) (D : Nat → Nat → Int64) (P0 : zTgm0) (P1 : zTgm1) (P2 : zTgm2) (P3 : zTgm3) (a0 : Int32) (a1 : Int32) (a2 : Int32) (Post : Int32 → (Nat → Int32) → (Nat → Int64) → (Nat → Nat → Int32) → (Nat → Nat → Int64) → Prop) (PX : String → (Nat → Int32) → (Nat → Int64) → (Nat → Nat → Int32) → (Nat → Nat → Int64) → Prop) : Prop :=
  wp_Text_ahead I J B D  (fun r16 I16 J16 B16 D16 => ((r16 = 42 → wc_ModelReader_readStatement_R_56 P0 P1 P2 P3 a0 a1 a2 Post PX a0 a1 a2 I16 J16 B16 D16) ∧ (r16 = 46 → wp_ModelReader_readBreak I16 J16 B16 D16 a0 a1 (fun r19 I19 J19 B19 D19 => Post r19 I19 J19 B19 D19) PX) ∧ (r16 = 60 → P3 I16 J16 B16 D16 a0 a1 a2 (fun r21 I21 J21 B21 D21 => Post r21 I21 J21 B21 D21) PX) ∧ (r16 = 91 → wc_ModelReader_readStatement_R_56 P0 P1 P2 P3 a0 a1 a2 Post PX a0 a1 a2 I16 J16 B16 D16) ∧ (r16 = 94 → wp_ModelReader_readJump I16 J16 B16 D16 a0 a1 (fun r24 I24 J24 B24 D24 => Post r24 I24 J24 B24 D24) PX) ∧ (¬ r16 = 42 → ¬ r16 = 46 → ¬ r16 = 60 → ¬ r16 = 91 → ¬ r16 = 94 → (((I16 17) = 30 → wc_ModelReader_readStatement_R_110 P0 P1 P2 P3 a0 a1 a2 Post PX a0 a1 I16 J16 B16 D16) ∧ (¬ (I16 17) = 30 → ((¬ (I16 9) = 48 → wc_ModelReader_readStatement_R_117 P0 P1 P2 P3 a0 a1 a2 Post PX a0 a1 I16 J16 B16 D16) ∧ ((I16 9) = 48 → wc_ModelReader_readStatement_R_110 P0 P1 P2 P3 a0 a1 a2 Post PX a0 a1 I16 J16 B16 D16)))))))
set_option maxHeartbeats 8000000 in
set_option maxRecDepth 100000 in
theorem wJ_ModelReader_readStatement_R_259 {p : Program} {l : Launch} {e : Env} {s : State} {m : MethodId} {below : List Frame} {meth : Method} {c : Code} {A : Nat → Prop} (G : va_G) (K : Nat → ClassId) (ad : Nat → Nat) (sv : Value) (P0 : zTgm0) (P1 : zTgm1) (P2 : zTgm2) (P3 : zTgm3) (a0 : Int32) (a1 : Int32) (a2 : Int32) (Post : Int32 → (Nat → Int32) → (Nat → Int64) → (Nat → Nat → Int32) → (Nat → Nat → Int64) → Prop) (PX : String → (Nat → Int32) → (Nat → Int64) → (Nat → Nat → Int32) → (Nat → Nat → Int64) → Prop) (C : zCy p l s m ([.ref (ad 5), .int a0, .int a1, .int a2] : List Value).toArray meth c A G K prog_5_method_8_code (some .int) 5 "LassoFinder$ModelReader") (n8 : Nat) (ihP : zIH_gm l G K ad sv n8 P0 P1 P2 P3) : ∀ (x4 : Int32) (I : Nat → Int32) (J : Nat → Int64) (B : Nat → Nat → Int32) (D : Nat → Nat → Int64) (ls : Array Slot) (H : Heap) (locs : List Loc), wc_ModelReader_readStatement_R_259 P0 P1 P2 P3 a0 a1 a2 Post PX x4 I J B D → lv_has ls 5 [(4, .int x4)] → zW G A s.heap (wX ad K sv I J B D) H locs → W p l e { frames := n8 + 1 + 10, cells := 1, slots := 6, locals := (n8 + 1) * 26 + 169 } s m ([.ref (ad 5), .int a0, .int a1, .int a2] : List Value).toArray below meth c H locs 0 0 (zyMQ below (va_Qi (fun (r : Int32) (u : zS) => Post r u.1 u.2.1 u.2.2.1 u.2.2.2) (fun u t => zPost G K A (wX ad K sv u.1 u.2.1 u.2.2.1 u.2.2.2) t) A) (zYC (fun E (u : zS) => PX E u.1 u.2.1 u.2.2.1 u.2.2.2) (fun u => wX ad K sv u.1 u.2.1 u.2.2.1 u.2.2.2) G K A) ([.ref (ad 5), .int a0, .int a1, .int a2] : List Value).toArray s 1 6 A) (F0 m 259 ls []) := by
  obtain ⟨hx, hb, hr, hml, hts, hown, hlocks, hA, hK, hT, hnt, hlt⟩ := id C
  intro x4 I J B D ls H locs hok hl hw
  unfold wc_ModelReader_readStatement_R_259 at hok
  refine lv_iload hx hb zd_ModelReader_readStatement_259 (lv_at hl 0 rfl) ?_
  exact zy_ret (z_iret (u := (I, J, B, D)) hx hb hr hlocks rfl hw (List.range 65) wX_all wX_nd hok (by first | omega | (dsimp only; omega) | exact Nat.le_of_ble_eq_true rfl) (by first | omega | (dsimp only; omega) | exact Nat.le_of_ble_eq_true rfl) zd_ModelReader_readStatement_261)
set_option maxHeartbeats 8000000 in
set_option maxRecDepth 100000 in
theorem wJ_ModelReader_readStatement_R_117 {p : Program} {l : Launch} {e : Env} {s : State} {m : MethodId} {below : List Frame} {meth : Method} {c : Code} {A : Nat → Prop} (G : va_G) (K : Nat → ClassId) (ad : Nat → Nat) (sv : Value) (P0 : zTgm0) (P1 : zTgm1) (P2 : zTgm2) (P3 : zTgm3) (a0 : Int32) (a1 : Int32) (a2 : Int32) (Post : Int32 → (Nat → Int32) → (Nat → Int64) → (Nat → Nat → Int32) → (Nat → Nat → Int64) → Prop) (PX : String → (Nat → Int32) → (Nat → Int64) → (Nat → Nat → Int32) → (Nat → Nat → Int64) → Prop) (C : zCy p l s m ([.ref (ad 5), .int a0, .int a1, .int a2] : List Value).toArray meth c A G K prog_5_method_8_code (some .int) 5 "LassoFinder$ModelReader") (n8 : Nat) (ihP : zIH_gm l G K ad sv n8 P0 P1 P2 P3) : ∀ (x1 : Int32) (x2 : Int32) (I : Nat → Int32) (J : Nat → Int64) (B : Nat → Nat → Int32) (D : Nat → Nat → Int64) (ls : Array Slot) (H : Heap) (locs : List Loc), wc_ModelReader_readStatement_R_117 P0 P1 P2 P3 a0 a1 a2 Post PX x1 x2 I J B D → lv_has ls 5 [(0, .ref (ad 5)), (1, .int x1), (2, .int x2)] → zW G A s.heap (wX ad K sv I J B D) H locs → W p l e { frames := n8 + 1 + 10, cells := 1, slots := 6, locals := (n8 + 1) * 26 + 169 } s m ([.ref (ad 5), .int a0, .int a1, .int a2] : List Value).toArray below meth c H locs 0 0 (zyMQ below (va_Qi (fun (r : Int32) (u : zS) => Post r u.1 u.2.1 u.2.2.1 u.2.2.2) (fun u t => zPost G K A (wX ad K sv u.1 u.2.1 u.2.2.1 u.2.2.2) t) A) (zYC (fun E (u : zS) => PX E u.1 u.2.1 u.2.2.1 u.2.2.2) (fun u => wX ad K sv u.1 u.2.1 u.2.2.1 u.2.2.2) G K A) ([.ref (ad 5), .int a0, .int a1, .int a2] : List Value).toArray s 1 6 A) (F0 m 117 ls []) := by
  obtain ⟨hx, hb, hr, hml, hts, hown, hlocks, hA, hK, hT, hnt, hlt⟩ := id C
  intro x1 x2 I J B D ls H locs hok hl hw
  unfold wc_ModelReader_readStatement_R_117 at hok
  refine lv_aload_n hx hb zd_ModelReader_readStatement_117 rfl (lv_at hl 0 rfl) ?_
  refine z_get (v := .ref (ad 6)) hx hb hts hown hK hw zZ4 5 wX_g5 4 (by decide) zn_424 rfl zd_ModelReader_readStatement_118 ?_
  refine lv_iconst (v := 0) hx hb zd_ModelReader_readStatement_121 (by decide) ?_
  refine lv_iload_n hx hb zd_ModelReader_readStatement_122 rfl (lv_at hl 1 rfl) ?_
  refine lv_iload_n hx hb zd_ModelReader_readStatement_123 rfl (lv_at hl 2 rfl) ?_
  refine z_calli (w1 := fun (u : zS) => wX ad K sv u.1 u.2.1 u.2.2.1 u.2.2.2) (wr := []) (z_runV (q0 := 6) (wc := (wX ad K sv I J B D)) (As := [.int 0, .int x1, .int x2]) (rest := []) ⟨hx, hb, hml, hown, hts⟩ (w_Tree_add l G K ad sv I J B D 0 x1 x2 _ H.size hok) zf_Tree_add zn_350 ⟨(by first | omega | (dsimp only; omega) | exact Nat.le_of_ble_eq_true rfl), (by first | omega | (dsimp only; omega) | exact Nat.le_of_ble_eq_true rfl)⟩ hK hw (List.range 65) wX_all wX_nd wX_g6 rfl rfl hl.1 rfl (by first | omega | (dsimp only; omega) | exact Nat.le_of_ble_eq_true rfl) zd_ModelReader_readStatement_124 ⟨(by first | omega | (dsimp only; omega) | exact Nat.le_of_ble_eq_true rfl), (by first | omega | (dsimp only; omega) | exact Nat.le_of_ble_eq_true rfl)⟩) hw hA (List.range 65) [] wX_all rfl (by decide) (fun i hi => by cases hi) (fun r1 u H locs hok hw => ?_)
  obtain ⟨I1, J1, B1, D1⟩ := u
  dsimp only at hok
  have hw : zW G A s.heap (wX ad K sv I1 J1 B1 D1) H locs := hw
  refine lv_istore hx hb zd_ModelReader_readStatement_127 hl (by decide) rfl (fun ls hl => ?_)
  have hl : lv_has ls 5 [(4, .int r1), (0, .ref (ad 5)), (1, .int x1), (2, .int x2)] := hl
  refine lv_aload_n hx hb zd_ModelReader_readStatement_129 rfl (lv_at hl 1 rfl) ?_
  refine z_get (v := .ref (ad 6)) hx hb hts hown hK hw zZ4 5 wX_g5 4 (by decide) zn_424 rfl zd_ModelReader_readStatement_130 ?_
  refine z_get (v := .ref (ad 40)) hx hb hts hown hK hw zZ10 6 wX_g6 8 (by decide) zn_434 rfl zd_ModelReader_readStatement_133 ?_
  refine lv_iload hx hb zd_ModelReader_readStatement_136 (lv_at hl 0 rfl) ?_
  refine lv_aload_n hx hb zd_ModelReader_readStatement_138 rfl (lv_at hl 1 rfl) ?_
  refine z_get (v := .ref (ad 3)) hx hb hts hown hK hw zZ4 5 wX_g5 3 (by decide) zn_421 rfl zd_ModelReader_readStatement_139 ?_
  refine z_get (v := .int (I1 9)) hx hb hts hown hK hw zZ6 3 wX_g3 12 (by decide) zn_433 rfl zd_ModelReader_readStatement_142 ?_
  refine va_iast (f := (B1 26)) hx hb hK hw.1 hw.2.1 hw.2.2 40 0 wX_a40 rfl hok.1 zd_ModelReader_readStatement_145 (fun H locs w91 w92 w93 => ?_)
  have hok := hok.2
  have hw := wX_t40 ⟨w91, w92, w93⟩
  refine lv_aload_n hx hb zd_ModelReader_readStatement_146 rfl (lv_at hl 1 rfl) ?_
  refine z_get (v := .ref (ad 1)) hx hb hts hown hK hw zZ4 5 wX_g5 0 (by decide) zn_422 rfl zd_ModelReader_readStatement_147 ?_
  refine z_calli (w1 := fun (u : zS) => wX ad K sv u.1 u.2.1 u.2.2.1 u.2.2.2) (wr := []) (z_runV (q0 := 1) (wc := (wX ad K sv I1 J1 (va_up B1 26 (upd (B1 26) r1.toNatClampNeg (I1 9))) D1)) (As := []) (rest := []) ⟨hx, hb, hml, hown, hts⟩ (w_Text_ahead l G K ad sv I1 J1 (va_up B1 26 (upd (B1 26) r1.toNatClampNeg (I1 9))) D1  _ H.size hok) zf_Text_ahead zn_330 ⟨(by first | omega | (dsimp only; omega) | exact Nat.le_of_ble_eq_true rfl), (by first | omega | (dsimp only; omega) | exact Nat.le_of_ble_eq_true rfl)⟩ hK hw (List.range 65) wX_all wX_nd wX_g1 rfl rfl hl.1 rfl (by first | omega | (dsimp only; omega) | exact Nat.le_of_ble_eq_true rfl) zd_ModelReader_readStatement_150 ⟨(by first | omega | (dsimp only; omega) | exact Nat.le_of_ble_eq_true rfl), (by first | omega | (dsimp only; omega) | exact Nat.le_of_ble_eq_true rfl)⟩) hw hA (List.range 65) [] wX_all rfl (by decide) (fun i hi => by cases hi) (fun r2 u H locs hok hw => ?_)
  obtain ⟨I2, J2, B2, D2⟩ := u
  dsimp only at hok
  have hw : zW G A s.heap (wX ad K sv I2 J2 B2 D2) H locs := hw
  by_cases hs3 : r2 = 40
  · have hok := hok.1 hs3
    refine lv_lookup (off := 65) (tgt := 218) hx hb zd_ModelReader_readStatement_153 (by decide) (by rw [hs3]; decide) (by decide) ?_
    refine lv_aload_n hx hb zd_ModelReader_readStatement_218 rfl (lv_at hl 1 rfl) ?_
    refine z_get (v := .ref (ad 1)) hx hb hts hown hK hw zZ4 5 wX_g5 0 (by decide) zn_422 rfl zd_ModelReader_readStatement_219 ?_
    refine z_callv (w1 := fun (u : zS) => wX ad K sv u.1 u.2.1 u.2.2.1 u.2.2.2) (wr := []) (z_runV (q0 := 1) (wc := (wX ad K sv I2 J2 B2 D2)) (As := []) (rest := []) ⟨hx, hb, hml, hown, hts⟩ (w_Text_skip l G K ad sv I2 J2 B2 D2  _ H.size hok) zf_Text_skip zn_338 ⟨(by first | omega | (dsimp only; omega) | exact Nat.le_of_ble_eq_true rfl), (by first | omega | (dsimp only; omega) | exact Nat.le_of_ble_eq_true rfl)⟩ hK hw (List.range 65) wX_all wX_nd wX_g1 rfl rfl hl.1 rfl (by first | omega | (dsimp only; omega) | exact Nat.le_of_ble_eq_true rfl) zd_ModelReader_readStatement_222 ⟨(by first | omega | (dsimp only; omega) | exact Nat.le_of_ble_eq_true rfl), (by first | omega | (dsimp only; omega) | exact Nat.le_of_ble_eq_true rfl)⟩) hw hA (List.range 65) [] wX_all rfl (by decide) (fun i hi => by cases hi) (fun u H locs hok hw => ?_)
    obtain ⟨I4, J4, B4, D4⟩ := u
    dsimp only at hok
    have hw : zW G A s.heap (wX ad K sv I4 J4 B4 D4) H locs := hw
    refine lv_aload_n hx hb zd_ModelReader_readStatement_225 rfl (lv_at hl 1 rfl) ?_
    refine z_get (v := .ref (ad 3)) hx hb hts hown hK hw zZ4 5 wX_g5 3 (by decide) zn_421 rfl zd_ModelReader_readStatement_226 ?_
    refine lv_iconst (v := 1) hx hb zd_ModelReader_readStatement_229 (by decide) ?_
    refine lv_iconst (v := (-1)) hx hb zd_ModelReader_readStatement_230 (by decide) ?_
    refine lv_iconst (v := (-1)) hx hb zd_ModelReader_readStatement_231 (by decide) ?_
    refine lv_aload_n hx hb zd_ModelReader_readStatement_232 rfl (lv_at hl 1 rfl) ?_
    refine z_get (v := .ref (ad 4)) hx hb hts hown hK hw zZ4 5 wX_g5 2 (by decide) zn_420 rfl zd_ModelReader_readStatement_233 ?_
    refine lv_iconst (v := 1) hx hb zd_ModelReader_readStatement_236 (by decide) ?_
    refine z_yV (q0 := 4) (wc := (wX ad K sv I4 J4 B4 D4)) (wr := []) (w1 := fun (u : zS) => wX ad K sv u.1 u.2.1 u.2.2.1 u.2.2.2) (As := [.int 1]) (rest := [.int (-1), .int (-1), .int 1, .ref (ad 3)]) ⟨hx, hb, hml, hown, hts⟩ (w_Terms_read_A l hlt G K ad sv I4 J4 B4 D4 1 _ _ H.size hok) zf_Terms_read zn_362 ⟨(by first | omega | (dsimp only; omega) | exact Nat.le_of_ble_eq_true rfl), (by first | omega | (dsimp only; omega) | exact Nat.le_of_ble_eq_true rfl)⟩ hK hT hw hA (List.range 65) [] wX_all rfl wX_nd (by decide) (fun i hi => by cases hi) wX_g4 rfl rfl hl.1 rfl (by first | omega | (dsimp only; omega) | exact Nat.le_of_ble_eq_true rfl) zd_ModelReader_readStatement_237 ⟨(by first | omega | (dsimp only; omega) | exact Nat.le_of_ble_eq_true rfl), (by first | omega | (dsimp only; omega) | exact Nat.le_of_ble_eq_true rfl)⟩ (fun v st9 t9 L9 h0 hq hL => ?_) (fun E ce q9 u H locs hu hw hce hcv hcl => z_yout (u := u) hnt hlocks hce hcv hcl hw (List.range 65) wX_all wX_nd hu (by first | omega | (dsimp only; omega) | exact Nat.le_of_ble_eq_true rfl) (by first | omega | (dsimp only; omega) | exact Nat.le_of_ble_eq_true rfl))
    obtain ⟨⟨r5, u, hv9, hok, hB9⟩, hF9⟩ := hq
    cases hv9
    have hw := z_back (wr := []) hw hA (List.range 65) [] wX_all rfl (by decide) (fun i hi => by cases hi) h0 hL hB9 hF9
    obtain ⟨I5, J5, B5, D5⟩ := u
    dsimp only at hok
    generalize t9.heap = H at hw ⊢
    generalize locs ++ L9 = locs at hw ⊢
    have hw : zW G A s.heap (wX ad K sv I5 J5 B5 D5) H locs := hw
    refine W.eq (g2 := F0 m 240 ls [.int r5, .int (-1), .int (-1), .int 1, .ref (ad 3)]) rfl ?_
    refine z_callv (w1 := fun (u : zS) => wX ad K sv u.1 u.2.1 u.2.2.1 u.2.2.2) (wr := []) (z_runV (q0 := 3) (wc := (wX ad K sv I5 J5 B5 D5)) (As := [.int 1, .int (-1), .int (-1), .int r5]) (rest := []) ⟨hx, hb, hml, hown, hts⟩ (w_Program_add l G K ad sv I5 J5 B5 D5 1 (-1) (-1) r5 _ H.size hok) zf_Program_add zn_360 ⟨(by first | omega | (dsimp only; omega) | exact Nat.le_of_ble_eq_true rfl), (by first | omega | (dsimp only; omega) | exact Nat.le_of_ble_eq_true rfl)⟩ hK hw (List.range 65) wX_all wX_nd wX_g3 rfl rfl hl.1 rfl (by first | omega | (dsimp only; omega) | exact Nat.le_of_ble_eq_true rfl) zd_ModelReader_readStatement_240 ⟨(by first | omega | (dsimp only; omega) | exact Nat.le_of_ble_eq_true rfl), (by first | omega | (dsimp only; omega) | exact Nat.le_of_ble_eq_true rfl)⟩) hw hA (List.range 65) [] wX_all rfl (by decide) (fun i hi => by cases hi) (fun u H locs hok hw => ?_)
    obtain ⟨I6, J6, B6, D6⟩ := u
    dsimp only at hok
    have hw : zW G A s.heap (wX ad K sv I6 J6 B6 D6) H locs := hw
    refine lv_aload_n hx hb zd_ModelReader_readStatement_243 rfl (lv_at hl 1 rfl) ?_
    refine z_get (v := .ref (ad 1)) hx hb hts hown hK hw zZ4 5 wX_g5 0 (by decide) zn_422 rfl zd_ModelReader_readStatement_244 ?_
    refine lv_bipush (v := 41) hx hb zd_ModelReader_readStatement_247 (by decide) ?_
    refine z_yV (q0 := 1) (wc := (wX ad K sv I6 J6 B6 D6)) (wr := []) (w1 := fun (u : zS) => wX ad K sv u.1 u.2.1 u.2.2.1 u.2.2.2) (As := [.int 41]) (rest := []) ⟨hx, hb, hml, hown, hts⟩ (w_Text_expect l hlt G K ad sv I6 J6 B6 D6 41 _ _ H.size hok) zf_Text_expect zn_340 ⟨(by first | omega | (dsimp only; omega) | exact Nat.le_of_ble_eq_true rfl), (by first | omega | (dsimp only; omega) | exact Nat.le_of_ble_eq_true rfl)⟩ hK hT hw hA (List.range 65) [] wX_all rfl wX_nd (by decide) (fun i hi => by cases hi) wX_g1 rfl rfl hl.1 rfl (by first | omega | (dsimp only; omega) | exact Nat.le_of_ble_eq_true rfl) zd_ModelReader_readStatement_249 ⟨(by first | omega | (dsimp only; omega) | exact Nat.le_of_ble_eq_true rfl), (by first | omega | (dsimp only; omega) | exact Nat.le_of_ble_eq_true rfl)⟩ (fun v st9 t9 L9 h0 hq hL => ?_) (fun E ce q9 u H locs hu hw hce hcv hcl => z_yout (u := u) hnt hlocks hce hcv hcl hw (List.range 65) wX_all wX_nd hu (by first | omega | (dsimp only; omega) | exact Nat.le_of_ble_eq_true rfl) (by first | omega | (dsimp only; omega) | exact Nat.le_of_ble_eq_true rfl))
    obtain ⟨⟨u, hv9, hok, hB9⟩, hF9⟩ := hq
    cases hv9
    have hw := z_back (wr := []) hw hA (List.range 65) [] wX_all rfl (by decide) (fun i hi => by cases hi) h0 hL hB9 hF9
    obtain ⟨I7, J7, B7, D7⟩ := u
    dsimp only at hok
    generalize t9.heap = H at hw ⊢
    generalize locs ++ L9 = locs at hw ⊢
    have hw : zW G A s.heap (wX ad K sv I7 J7 B7 D7) H locs := hw
    refine W.eq (g2 := F0 m 252 ls []) rfl ?_
    refine lv_goto (tgt := 259) hx hb zd_ModelReader_readStatement_252 (by decide) ?_
    exact wJ_ModelReader_readStatement_R_259 G K ad sv P0 P1 P2 P3 a0 a1 a2 Post PX C n8 ihP r1 I7 J7 B7 D7 ls H locs hok (lv_sub hl [0] rfl) hw
  by_cases hs8 : r2 = 45
  · have hok := hok.2.1 hs8
    refine lv_lookup (off := 35) (tgt := 188) hx hb zd_ModelReader_readStatement_153 (by decide) (by rw [hs8]; decide) (by decide) ?_
    refine lv_aload_n hx hb zd_ModelReader_readStatement_188 rfl (lv_at hl 1 rfl) ?_
    refine z_get (v := .ref (ad 1)) hx hb hts hown hK hw zZ4 5 wX_g5 0 (by decide) zn_422 rfl zd_ModelReader_readStatement_189 ?_
    refine z_callv (w1 := fun (u : zS) => wX ad K sv u.1 u.2.1 u.2.2.1 u.2.2.2) (wr := []) (z_runV (q0 := 1) (wc := (wX ad K sv I2 J2 B2 D2)) (As := []) (rest := []) ⟨hx, hb, hml, hown, hts⟩ (w_Text_skip l G K ad sv I2 J2 B2 D2  _ H.size hok) zf_Text_skip zn_338 ⟨(by first | omega | (dsimp only; omega) | exact Nat.le_of_ble_eq_true rfl), (by first | omega | (dsimp only; omega) | exact Nat.le_of_ble_eq_true rfl)⟩ hK hw (List.range 65) wX_all wX_nd wX_g1 rfl rfl hl.1 rfl (by first | omega | (dsimp only; omega) | exact Nat.le_of_ble_eq_true rfl) zd_ModelReader_readStatement_192 ⟨(by first | omega | (dsimp only; omega) | exact Nat.le_of_ble_eq_true rfl), (by first | omega | (dsimp only; omega) | exact Nat.le_of_ble_eq_true rfl)⟩) hw hA (List.range 65) [] wX_all rfl (by decide) (fun i hi => by cases hi) (fun u H locs hok hw => ?_)
    obtain ⟨I9, J9, B9, D9⟩ := u
    dsimp only at hok
    have hw : zW G A s.heap (wX ad K sv I9 J9 B9 D9) H locs := hw
    refine lv_aload_n hx hb zd_ModelReader_readStatement_195 rfl (lv_at hl 1 rfl) ?_
    refine z_get (v := .ref (ad 3)) hx hb hts hown hK hw zZ4 5 wX_g5 3 (by decide) zn_421 rfl zd_ModelReader_readStatement_196 ?_
    refine lv_iconst (v := 4) hx hb zd_ModelReader_readStatement_199 (by decide) ?_
    refine lv_iconst (v := (-1)) hx hb zd_ModelReader_readStatement_200 (by decide) ?_
    refine lv_iconst (v := (-1)) hx hb zd_ModelReader_readStatement_201 (by decide) ?_
    refine lv_iconst (v := (-1)) hx hb zd_ModelReader_readStatement_202 (by decide) ?_
    refine z_callv (w1 := fun (u : zS) => wX ad K sv u.1 u.2.1 u.2.2.1 u.2.2.2) (wr := []) (z_runV (q0 := 3) (wc := (wX ad K sv I9 J9 B9 D9)) (As := [.int 4, .int (-1), .int (-1), .int (-1)]) (rest := []) ⟨hx, hb, hml, hown, hts⟩ (w_Program_add l G K ad sv I9 J9 B9 D9 4 (-1) (-1) (-1) _ H.size hok) zf_Program_add zn_360 ⟨(by first | omega | (dsimp only; omega) | exact Nat.le_of_ble_eq_true rfl), (by first | omega | (dsimp only; omega) | exact Nat.le_of_ble_eq_true rfl)⟩ hK hw (List.range 65) wX_all wX_nd wX_g3 rfl rfl hl.1 rfl (by first | omega | (dsimp only; omega) | exact Nat.le_of_ble_eq_true rfl) zd_ModelReader_readStatement_203 ⟨(by first | omega | (dsimp only; omega) | exact Nat.le_of_ble_eq_true rfl), (by first | omega | (dsimp only; omega) | exact Nat.le_of_ble_eq_true rfl)⟩) hw hA (List.range 65) [] wX_all rfl (by decide) (fun i hi => by cases hi) (fun u H locs hok hw => ?_)
    obtain ⟨I10, J10, B10, D10⟩ := u
    dsimp only at hok
    have hw : zW G A s.heap (wX ad K sv I10 J10 B10 D10) H locs := hw
    refine lv_goto (tgt := 259) hx hb zd_ModelReader_readStatement_206 (by decide) ?_
    exact wJ_ModelReader_readStatement_R_259 G K ad sv P0 P1 P2 P3 a0 a1 a2 Post PX C n8 ihP r1 I10 J10 B10 D10 ls H locs hok (lv_sub hl [0] rfl) hw
  by_cases hs11 : r2 = 126
  · have hok := hok.2.2.1 hs11
    refine lv_lookup (off := 56) (tgt := 209) hx hb zd_ModelReader_readStatement_153 (by decide) (by rw [hs11]; decide) (by decide) ?_
    refine lv_aload_n hx hb zd_ModelReader_readStatement_209 rfl (lv_at hl 1 rfl) ?_
    refine lv_iload_n hx hb zd_ModelReader_readStatement_210 rfl (lv_at hl 2 rfl) ?_
    refine lv_iload_n hx hb zd_ModelReader_readStatement_211 rfl (lv_at hl 3 rfl) ?_
    refine z_yV (q0 := 5) (wc := (wX ad K sv I2 J2 B2 D2)) (wr := []) (w1 := fun (u : zS) => wX ad K sv u.1 u.2.1 u.2.2.1 u.2.2.2) (As := [.int x1, .int x2]) (rest := []) ⟨hx, hb, hml, hown, hts⟩ (w_ModelReader_readElse l hlt G K ad sv I2 J2 B2 D2 x1 x2 _ _ H.size hok) zf_ModelReader_readElse zn_361 ⟨(by first | omega | (dsimp only; omega) | exact Nat.le_of_ble_eq_true rfl), (by first | omega | (dsimp only; omega) | exact Nat.le_of_ble_eq_true rfl)⟩ hK hT hw hA (List.range 65) [] wX_all rfl wX_nd (by decide) (fun i hi => by cases hi) wX_g5 rfl rfl hl.1 rfl (by first | omega | (dsimp only; omega) | exact Nat.le_of_ble_eq_true rfl) zd_ModelReader_readStatement_212 ⟨(by first | omega | (dsimp only; omega) | exact Nat.le_of_ble_eq_true rfl), (by first | omega | (dsimp only; omega) | exact Nat.le_of_ble_eq_true rfl)⟩ (fun v st9 t9 L9 h0 hq hL => ?_) (fun E ce q9 u H locs hu hw hce hcv hcl => z_yout (u := u) hnt hlocks hce hcv hcl hw (List.range 65) wX_all wX_nd hu (by first | omega | (dsimp only; omega) | exact Nat.le_of_ble_eq_true rfl) (by first | omega | (dsimp only; omega) | exact Nat.le_of_ble_eq_true rfl))
    obtain ⟨⟨u, hv9, hok, hB9⟩, hF9⟩ := hq
    cases hv9
    have hw := z_back (wr := []) hw hA (List.range 65) [] wX_all rfl (by decide) (fun i hi => by cases hi) h0 hL hB9 hF9
    obtain ⟨I12, J12, B12, D12⟩ := u
    dsimp only at hok
    generalize t9.heap = H at hw ⊢
    generalize locs ++ L9 = locs at hw ⊢
    have hw : zW G A s.heap (wX ad K sv I12 J12 B12 D12) H locs := hw
    refine W.eq (g2 := F0 m 215 ls []) rfl ?_
    refine lv_goto (tgt := 259) hx hb zd_ModelReader_readStatement_215 (by decide) ?_
    exact wJ_ModelReader_readStatement_R_259 G K ad sv P0 P1 P2 P3 a0 a1 a2 Post PX C n8 ihP r1 I12 J12 B12 D12 ls H locs hok (lv_sub hl [0] rfl) hw
  have hok := hok.2.2.2 hs3 hs8 hs11
  refine lv_lookup (off := 102) (tgt := 255) hx hb zd_ModelReader_readStatement_153 (by decide) (by simp only [lv_osw hs3 (a := 40) (by decide), lv_osw hs8 (a := 45) (by decide), lv_osw hs11 (a := 126) (by decide)]; rfl) (by decide) ?_
  refine lv_aload_n hx hb zd_ModelReader_readStatement_255 rfl (lv_at hl 1 rfl) ?_
  refine z_yV (q0 := 5) (wc := (wX ad K sv I2 J2 B2 D2)) (wr := []) (w1 := fun (u : zS) => wX ad K sv u.1 u.2.1 u.2.2.1 u.2.2.2) (As := []) (rest := []) ⟨hx, hb, hml, hown, hts⟩ (w_ModelReader_readNamed l hlt G K ad sv I2 J2 B2 D2  _ _ H.size hok) zf_ModelReader_readNamed zn_375 ⟨(by first | omega | (dsimp only; omega) | exact Nat.le_of_ble_eq_true rfl), (by first | omega | (dsimp only; omega) | exact Nat.le_of_ble_eq_true rfl)⟩ hK hT hw hA (List.range 65) [] wX_all rfl wX_nd (by decide) (fun i hi => by cases hi) wX_g5 rfl rfl hl.1 rfl (by first | omega | (dsimp only; omega) | exact Nat.le_of_ble_eq_true rfl) zd_ModelReader_readStatement_256 ⟨(by first | omega | (dsimp only; omega) | exact Nat.le_of_ble_eq_true rfl), (by first | omega | (dsimp only; omega) | exact Nat.le_of_ble_eq_true rfl)⟩ (fun v st9 t9 L9 h0 hq hL => ?_) (fun E ce q9 u H locs hu hw hce hcv hcl => z_yout (u := u) hnt hlocks hce hcv hcl hw (List.range 65) wX_all wX_nd hu (by first | omega | (dsimp only; omega) | exact Nat.le_of_ble_eq_true rfl) (by first | omega | (dsimp only; omega) | exact Nat.le_of_ble_eq_true rfl))
  obtain ⟨⟨u, hv9, hok, hB9⟩, hF9⟩ := hq
  cases hv9
  have hw := z_back (wr := []) hw hA (List.range 65) [] wX_all rfl (by decide) (fun i hi => by cases hi) h0 hL hB9 hF9
  obtain ⟨I13, J13, B13, D13⟩ := u
  dsimp only at hok
  generalize t9.heap = H at hw ⊢
  generalize locs ++ L9 = locs at hw ⊢
  have hw : zW G A s.heap (wX ad K sv I13 J13 B13 D13) H locs := hw
  refine W.eq (g2 := F0 m 259 ls []) rfl ?_
  exact wJ_ModelReader_readStatement_R_259 G K ad sv P0 P1 P2 P3 a0 a1 a2 Post PX C n8 ihP r1 I13 J13 B13 D13 ls H locs hok (lv_sub hl [0] rfl) hw
set_option maxHeartbeats 8000000 in
set_option maxRecDepth 100000 in
theorem wJ_ModelReader_readStatement_R_110 {p : Program} {l : Launch} {e : Env} {s : State} {m : MethodId} {below : List Frame} {meth : Method} {c : Code} {A : Nat → Prop} (G : va_G) (K : Nat → ClassId) (ad : Nat → Nat) (sv : Value) (P0 : zTgm0) (P1 : zTgm1) (P2 : zTgm2) (P3 : zTgm3) (a0 : Int32) (a1 : Int32) (a2 : Int32) (Post : Int32 → (Nat → Int32) → (Nat → Int64) → (Nat → Nat → Int32) → (Nat → Nat → Int64) → Prop) (PX : String → (Nat → Int32) → (Nat → Int64) → (Nat → Nat → Int32) → (Nat → Nat → Int64) → Prop) (C : zCy p l s m ([.ref (ad 5), .int a0, .int a1, .int a2] : List Value).toArray meth c A G K prog_5_method_8_code (some .int) 5 "LassoFinder$ModelReader") (n8 : Nat) (ihP : zIH_gm l G K ad sv n8 P0 P1 P2 P3) : ∀ (x1 : Int32) (x2 : Int32) (I : Nat → Int32) (J : Nat → Int64) (B : Nat → Nat → Int32) (D : Nat → Nat → Int64) (ls : Array Slot) (H : Heap) (locs : List Loc), wc_ModelReader_readStatement_R_110 P0 P1 P2 P3 a0 a1 a2 Post PX x1 x2 I J B D → lv_has ls 5 [(0, .ref (ad 5)), (1, .int x1), (2, .int x2)] → zW G A s.heap (wX ad K sv I J B D) H locs → W p l e { frames := n8 + 1 + 10, cells := 1, slots := 6, locals := (n8 + 1) * 26 + 169 } s m ([.ref (ad 5), .int a0, .int a1, .int a2] : List Value).toArray below meth c H locs 0 0 (zyMQ below (va_Qi (fun (r : Int32) (u : zS) => Post r u.1 u.2.1 u.2.2.1 u.2.2.2) (fun u t => zPost G K A (wX ad K sv u.1 u.2.1 u.2.2.1 u.2.2.2) t) A) (zYC (fun E (u : zS) => PX E u.1 u.2.1 u.2.2.1 u.2.2.2) (fun u => wX ad K sv u.1 u.2.1 u.2.2.1 u.2.2.2) G K A) ([.ref (ad 5), .int a0, .int a1, .int a2] : List Value).toArray s 1 6 A) (F0 m 110 ls []) := by
  obtain ⟨hx, hb, hr, hml, hts, hown, hlocks, hA, hK, hT, hnt, hlt⟩ := id C
  intro x1 x2 I J B D ls H locs hok hl hw
  unfold wc_ModelReader_readStatement_R_110 at hok
  refine lv_aload_n hx hb zd_ModelReader_readStatement_110 rfl (lv_at hl 0 rfl) ?_
  refine z_get (v := .ref (ad 1)) hx hb hts hown hK hw zZ4 5 wX_g5 0 (by decide) zn_422 rfl zd_ModelReader_readStatement_111 ?_
  refine z_yV (q0 := 1) (wc := (wX ad K sv I J B D)) (wr := []) (w1 := fun (u : zS) => wX ad K sv u.1 u.2.1 u.2.2.1 u.2.2.2) (As := []) (rest := []) ⟨hx, hb, hml, hown, hts⟩ (w_Text_refuse l hlt G K ad sv I J B D  _ _ H.size hok) zf_Text_refuse zn_336 ⟨(by first | omega | (dsimp only; omega) | exact Nat.le_of_ble_eq_true rfl), (by first | omega | (dsimp only; omega) | exact Nat.le_of_ble_eq_true rfl)⟩ hK hT hw hA (List.range 65) [] wX_all rfl wX_nd (by decide) (fun i hi => by cases hi) wX_g1 rfl rfl hl.1 rfl (by first | omega | (dsimp only; omega) | exact Nat.le_of_ble_eq_true rfl) zd_ModelReader_readStatement_114 ⟨(by first | omega | (dsimp only; omega) | exact Nat.le_of_ble_eq_true rfl), (by first | omega | (dsimp only; omega) | exact Nat.le_of_ble_eq_true rfl)⟩ (fun v st9 t9 L9 h0 hq hL => ?_) (fun E ce q9 u H locs hu hw hce hcv hcl => z_yout (u := u) hnt hlocks hce hcv hcl hw (List.range 65) wX_all wX_nd hu (by first | omega | (dsimp only; omega) | exact Nat.le_of_ble_eq_true rfl) (by first | omega | (dsimp only; omega) | exact Nat.le_of_ble_eq_true rfl))
  obtain ⟨⟨u, hv9, hok, hB9⟩, hF9⟩ := hq
  cases hv9
  have hw := z_back (wr := []) hw hA (List.range 65) [] wX_all rfl (by decide) (fun i hi => by cases hi) h0 hL hB9 hF9
  obtain ⟨I14, J14, B14, D14⟩ := u
  dsimp only at hok
  generalize t9.heap = H at hw ⊢
  generalize locs ++ L9 = locs at hw ⊢
  have hw : zW G A s.heap (wX ad K sv I14 J14 B14 D14) H locs := hw
  refine W.eq (g2 := F0 m 117 ls []) rfl ?_
  exact wJ_ModelReader_readStatement_R_117 G K ad sv P0 P1 P2 P3 a0 a1 a2 Post PX C n8 ihP x1 x2 I14 J14 B14 D14 ls H locs hok (lv_sub hl [0, 1, 2] rfl) hw
set_option maxHeartbeats 8000000 in
set_option maxRecDepth 100000 in
theorem wJ_ModelReader_readStatement_R_56 {p : Program} {l : Launch} {e : Env} {s : State} {m : MethodId} {below : List Frame} {meth : Method} {c : Code} {A : Nat → Prop} (G : va_G) (K : Nat → ClassId) (ad : Nat → Nat) (sv : Value) (P0 : zTgm0) (P1 : zTgm1) (P2 : zTgm2) (P3 : zTgm3) (a0 : Int32) (a1 : Int32) (a2 : Int32) (Post : Int32 → (Nat → Int32) → (Nat → Int64) → (Nat → Nat → Int32) → (Nat → Nat → Int64) → Prop) (PX : String → (Nat → Int32) → (Nat → Int64) → (Nat → Nat → Int32) → (Nat → Nat → Int64) → Prop) (C : zCy p l s m ([.ref (ad 5), .int a0, .int a1, .int a2] : List Value).toArray meth c A G K prog_5_method_8_code (some .int) 5 "LassoFinder$ModelReader") (n8 : Nat) (ihP : zIH_gm l G K ad sv n8 P0 P1 P2 P3) : ∀ (x1 : Int32) (x2 : Int32) (x3 : Int32) (I : Nat → Int32) (J : Nat → Int64) (B : Nat → Nat → Int32) (D : Nat → Nat → Int64) (ls : Array Slot) (H : Heap) (locs : List Loc), wc_ModelReader_readStatement_R_56 P0 P1 P2 P3 a0 a1 a2 Post PX x1 x2 x3 I J B D → lv_has ls 5 [(0, .ref (ad 5)), (1, .int x1), (2, .int x2), (3, .int x3)] → zW G A s.heap (wX ad K sv I J B D) H locs → W p l e { frames := n8 + 1 + 10, cells := 1, slots := 6, locals := (n8 + 1) * 26 + 169 } s m ([.ref (ad 5), .int a0, .int a1, .int a2] : List Value).toArray below meth c H locs 0 0 (zyMQ below (va_Qi (fun (r : Int32) (u : zS) => Post r u.1 u.2.1 u.2.2.1 u.2.2.2) (fun u t => zPost G K A (wX ad K sv u.1 u.2.1 u.2.2.1 u.2.2.2) t) A) (zYC (fun E (u : zS) => PX E u.1 u.2.1 u.2.2.1 u.2.2.2) (fun u => wX ad K sv u.1 u.2.1 u.2.2.1 u.2.2.2) G K A) ([.ref (ad 5), .int a0, .int a1, .int a2] : List Value).toArray s 1 6 A) (F0 m 56 ls []) := by
  obtain ⟨hx, hb, hr, hml, hts, hown, hlocks, hA, hK, hT, hnt, hlt⟩ := id C
  intro x1 x2 x3 I J B D ls H locs hok hl hw
  unfold wc_ModelReader_readStatement_R_56 at hok
  refine lv_aload_n hx hb zd_ModelReader_readStatement_56 rfl (lv_at hl 0 rfl) ?_
  refine lv_iload_n hx hb zd_ModelReader_readStatement_57 rfl (lv_at hl 1 rfl) ?_
  refine lv_iload_n hx hb zd_ModelReader_readStatement_58 rfl (lv_at hl 2 rfl) ?_
  refine lv_iload_n hx hb zd_ModelReader_readStatement_59 rfl (lv_at hl 3 rfl) ?_
  refine z_yV (q0 := 5) (wc := (wX ad K sv I J B D)) (wr := []) (w1 := fun (u : zS) => wX ad K sv u.1 u.2.1 u.2.2.1 u.2.2.2) (As := [.int x1, .int x2, .int x3]) (rest := []) ⟨hx, hb, hml, hown, hts⟩ (ihP.2.2.1 I J B D x1 x2 x3 _ _ H.size hok) zf_ModelReader_readChoice zn_349 ⟨(by first | omega | (dsimp only; omega) | exact Nat.le_of_ble_eq_true rfl), (by first | omega | (dsimp only; omega) | exact Nat.le_of_ble_eq_true rfl)⟩ hK hT hw hA (List.range 65) [] wX_all rfl wX_nd (by decide) (fun i hi => by cases hi) wX_g5 rfl rfl hl.1 rfl (by first | omega | (dsimp only; omega) | exact Nat.le_of_ble_eq_true rfl) zd_ModelReader_readStatement_60 ⟨(by first | omega | (dsimp only; omega) | exact Nat.le_of_ble_eq_true rfl), (by first | omega | (dsimp only; omega) | exact Nat.le_of_ble_eq_true rfl)⟩ (fun v st9 t9 L9 h0 hq hL => ?_) (fun E ce q9 u H locs hu hw hce hcv hcl => z_yout (u := u) hnt hlocks hce hcv hcl hw (List.range 65) wX_all wX_nd hu (by first | omega | (dsimp only; omega) | exact Nat.le_of_ble_eq_true rfl) (by first | omega | (dsimp only; omega) | exact Nat.le_of_ble_eq_true rfl))
  obtain ⟨⟨r15, u, hv9, hok, hB9⟩, hF9⟩ := hq
  cases hv9
  have hw := z_back (wr := []) hw hA (List.range 65) [] wX_all rfl (by decide) (fun i hi => by cases hi) h0 hL hB9 hF9
  obtain ⟨I15, J15, B15, D15⟩ := u
  dsimp only at hok
  generalize t9.heap = H at hw ⊢
  generalize locs ++ L9 = locs at hw ⊢
  have hw : zW G A s.heap (wX ad K sv I15 J15 B15 D15) H locs := hw
  refine W.eq (g2 := F0 m 63 ls [.int r15]) rfl ?_
  exact zy_ret (z_iret (u := (I15, J15, B15, D15)) hx hb hr hlocks rfl hw (List.range 65) wX_all wX_nd hok (by first | omega | (dsimp only; omega) | exact Nat.le_of_ble_eq_true rfl) (by first | omega | (dsimp only; omega) | exact Nat.le_of_ble_eq_true rfl) zd_ModelReader_readStatement_63)
set_option maxHeartbeats 8000000 in
set_option maxRecDepth 100000 in
theorem w_ModelReader_readStatement_R (l : Launch) (hlt : l.stackTraces = false) (G : va_G) (K : Nat → ClassId) (ad : Nat → Nat) (sv : Value) (I : Nat → Int32) (J : Nat → Int64) (B : Nat → Nat → Int32) (D : Nat → Nat → Int64) (P0 : zTgm0) (P1 : zTgm1) (P2 : zTgm2) (P3 : zTgm3) (a0 : Int32) (a1 : Int32) (a2 : Int32) (Post : Int32 → (Nat → Int32) → (Nat → Int64) → (Nat → Nat → Int32) → (Nat → Nat → Int64) → Prop) (PX : String → (Nat → Int32) → (Nat → Int64) → (Nat → Nat → Int32) → (Nat → Nat → Int64) → Prop) (sz : Nat) (hok : wp_ModelReader_readStatement_R I J B D P0 P1 P2 P3 a0 a1 a2 Post PX) (n8 : Nat) (ihP : zIH_gm l G K ad sv n8 P0 P1 P2 P3) : zyMet l zy_ModelReader_readStatement (Cond.code zy_ModelReader_readStatement prog_5_method_8_code 5 (some .int) :: zTB) { frames := n8 + 1 + 10, cells := 1, slots := 6, locals := (n8 + 1) * 26 + 169 } (va_Pc [.ref (ad 5), .int a0, .int a1, .int a2] (zPreY G K (wX ad K sv I J B D) sz)) (va_Qi (fun (r : Int32) (u : zS) => Post r u.1 u.2.1 u.2.2.1 u.2.2.2) (fun u t => zPost G K (va_A (wX ad K sv I J B D) sz) (wX ad K sv u.1 u.2.1 u.2.2.1 u.2.2.2) t) (va_A (wX ad K sv I J B D) sz)) (zYC (fun E (u : zS) => PX E u.1 u.2.1 u.2.2.1 u.2.2.2) (fun u => wX ad K sv u.1 u.2.1 u.2.2.1 u.2.2.2) G K (va_A (wX ad K sv I J B D) sz)) 1 6 (va_A (wX ad K sv I J B D) sz) := by
  refine zMetY (y := zy_ModelReader_readStatement) (av := [.ref (ad 5), .int a0, .int a1, .int a2]) (maxL := 5) (cc := prog_5_method_8_code) (ret := (some .int)) (W0 := (wX ad K sv I J B D)) (sz := sz) (G := G) (K := K) (wt := zTB) (mc := 1) (ms := 6) (Qf := fun A => va_Qi (fun (r : Int32) (u : zS) => Post r u.1 u.2.1 u.2.2.1 u.2.2.2) (fun u t => zPost G K A (wX ad K sv u.1 u.2.1 u.2.2.1 u.2.2.2) t) A) (Xf := fun A => (zYC (fun E (u : zS) => PX E u.1 u.2.1 u.2.2.1 u.2.2.2) (fun u => wX ad K sv u.1 u.2.1 u.2.2.1 u.2.2.2) G K A)) (by decide) (by first | omega | (dsimp only; omega) | exact Nat.le_of_ble_eq_true rfl) ?_
  intro p e s m below meth c ls A hx hb hr hml hts hown hlocks hin hA hK H locs hw hsz hl hT hnt
  clear hsz
  have hown : s.vm.findClass "LassoFinder$ModelReader" = some m.cls := hown
  have C : zCy p l s m ([.ref (ad 5), .int a0, .int a1, .int a2] : List Value).toArray meth c A G K prog_5_method_8_code (some .int) 5 "LassoFinder$ModelReader" := ⟨hx, hb, hr, hml, hts, hown, hlocks, hA, hK, hT, hnt, hlt⟩
  have hl : lv_has ls 5 [(0, .ref (ad 5)), (1, .int a0), (2, .int a1), (3, .int a2)] := hl
  have hw : zW G A s.heap (wX ad K sv I J B D) H locs := hw
  unfold wp_ModelReader_readStatement_R at hok
  refine lv_aload_n hx hb zd_ModelReader_readStatement_0 rfl (lv_at hl 0 rfl) ?_
  refine z_get (v := .ref (ad 1)) hx hb hts hown hK hw zZ4 5 wX_g5 0 (by decide) zn_422 rfl zd_ModelReader_readStatement_1 ?_
  refine z_calli (w1 := fun (u : zS) => wX ad K sv u.1 u.2.1 u.2.2.1 u.2.2.2) (wr := []) (z_runV (q0 := 1) (wc := (wX ad K sv I J B D)) (As := []) (rest := []) ⟨hx, hb, hml, hown, hts⟩ (w_Text_ahead l G K ad sv I J B D  _ H.size hok) zf_Text_ahead zn_330 ⟨(by first | omega | (dsimp only; omega) | exact Nat.le_of_ble_eq_true rfl), (by first | omega | (dsimp only; omega) | exact Nat.le_of_ble_eq_true rfl)⟩ hK hw (List.range 65) wX_all wX_nd wX_g1 rfl rfl hl.1 rfl (by first | omega | (dsimp only; omega) | exact Nat.le_of_ble_eq_true rfl) zd_ModelReader_readStatement_4 ⟨(by first | omega | (dsimp only; omega) | exact Nat.le_of_ble_eq_true rfl), (by first | omega | (dsimp only; omega) | exact Nat.le_of_ble_eq_true rfl)⟩) hw hA (List.range 65) [] wX_all rfl (by decide) (fun i hi => by cases hi) (fun r16 u H locs hok hw => ?_)
  obtain ⟨I16, J16, B16, D16⟩ := u
  dsimp only at hok
  have hw : zW G A s.heap (wX ad K sv I16 J16 B16 D16) H locs := hw
  by_cases hs17 : r16 = 42
  · have hok := hok.1 hs17
    refine lv_lookup (off := 49) (tgt := 56) hx hb zd_ModelReader_readStatement_7 (by decide) (by rw [hs17]; decide) (by decide) ?_
    exact wJ_ModelReader_readStatement_R_56 G K ad sv P0 P1 P2 P3 a0 a1 a2 Post PX C n8 ihP a0 a1 a2 I16 J16 B16 D16 ls H locs hok (lv_sub hl [0, 1, 2, 3] rfl) hw
  by_cases hs18 : r16 = 46
  · have hok := hok.2.1 hs18
    refine lv_lookup (off := 65) (tgt := 72) hx hb zd_ModelReader_readStatement_7 (by decide) (by rw [hs18]; decide) (by decide) ?_
    refine lv_aload_n hx hb zd_ModelReader_readStatement_72 rfl (lv_at hl 0 rfl) ?_
    refine lv_iload_n hx hb zd_ModelReader_readStatement_73 rfl (lv_at hl 1 rfl) ?_
    refine lv_iload_n hx hb zd_ModelReader_readStatement_74 rfl (lv_at hl 2 rfl) ?_
    refine z_yV (q0 := 5) (wc := (wX ad K sv I16 J16 B16 D16)) (wr := []) (w1 := fun (u : zS) => wX ad K sv u.1 u.2.1 u.2.2.1 u.2.2.2) (As := [.int a0, .int a1]) (rest := []) ⟨hx, hb, hml, hown, hts⟩ (w_ModelReader_readBreak l hlt G K ad sv I16 J16 B16 D16 a0 a1 _ _ H.size hok) zf_ModelReader_readBreak zn_355 ⟨(by first | omega | (dsimp only; omega) | exact Nat.le_of_ble_eq_true rfl), (by first | omega | (dsimp only; omega) | exact Nat.le_of_ble_eq_true rfl)⟩ hK hT hw hA (List.range 65) [] wX_all rfl wX_nd (by decide) (fun i hi => by cases hi) wX_g5 rfl rfl hl.1 rfl (by first | omega | (dsimp only; omega) | exact Nat.le_of_ble_eq_true rfl) zd_ModelReader_readStatement_75 ⟨(by first | omega | (dsimp only; omega) | exact Nat.le_of_ble_eq_true rfl), (by first | omega | (dsimp only; omega) | exact Nat.le_of_ble_eq_true rfl)⟩ (fun v st9 t9 L9 h0 hq hL => ?_) (fun E ce q9 u H locs hu hw hce hcv hcl => z_yout (u := u) hnt hlocks hce hcv hcl hw (List.range 65) wX_all wX_nd hu (by first | omega | (dsimp only; omega) | exact Nat.le_of_ble_eq_true rfl) (by first | omega | (dsimp only; omega) | exact Nat.le_of_ble_eq_true rfl))
    obtain ⟨⟨r19, u, hv9, hok, hB9⟩, hF9⟩ := hq
    cases hv9
    have hw := z_back (wr := []) hw hA (List.range 65) [] wX_all rfl (by decide) (fun i hi => by cases hi) h0 hL hB9 hF9
    obtain ⟨I19, J19, B19, D19⟩ := u
    dsimp only at hok
    generalize t9.heap = H at hw ⊢
    generalize locs ++ L9 = locs at hw ⊢
    have hw : zW G A s.heap (wX ad K sv I19 J19 B19 D19) H locs := hw
    refine W.eq (g2 := F0 m 78 ls [.int r19]) rfl ?_
    exact zy_ret (z_iret (u := (I19, J19, B19, D19)) hx hb hr hlocks rfl hw (List.range 65) wX_all wX_nd hok (by first | omega | (dsimp only; omega) | exact Nat.le_of_ble_eq_true rfl) (by first | omega | (dsimp only; omega) | exact Nat.le_of_ble_eq_true rfl) zd_ModelReader_readStatement_78)
  by_cases hs20 : r16 = 60
  · have hok := hok.2.2.1 hs20
    refine lv_lookup (off := 57) (tgt := 64) hx hb zd_ModelReader_readStatement_7 (by decide) (by rw [hs20]; decide) (by decide) ?_
    refine lv_aload_n hx hb zd_ModelReader_readStatement_64 rfl (lv_at hl 0 rfl) ?_
    refine lv_iload_n hx hb zd_ModelReader_readStatement_65 rfl (lv_at hl 1 rfl) ?_
    refine lv_iload_n hx hb zd_ModelReader_readStatement_66 rfl (lv_at hl 2 rfl) ?_
    refine lv_iload_n hx hb zd_ModelReader_readStatement_67 rfl (lv_at hl 3 rfl) ?_
    refine z_yV (q0 := 5) (wc := (wX ad K sv I16 J16 B16 D16)) (wr := []) (w1 := fun (u : zS) => wX ad K sv u.1 u.2.1 u.2.2.1 u.2.2.2) (As := [.int a0, .int a1, .int a2]) (rest := []) ⟨hx, hb, hml, hown, hts⟩ (ihP.2.2.2 I16 J16 B16 D16 a0 a1 a2 _ _ H.size hok) zf_ModelReader_readAtomic zn_353 ⟨(by first | omega | (dsimp only; omega) | exact Nat.le_of_ble_eq_true rfl), (by first | omega | (dsimp only; omega) | exact Nat.le_of_ble_eq_true rfl)⟩ hK hT hw hA (List.range 65) [] wX_all rfl wX_nd (by decide) (fun i hi => by cases hi) wX_g5 rfl rfl hl.1 rfl (by first | omega | (dsimp only; omega) | exact Nat.le_of_ble_eq_true rfl) zd_ModelReader_readStatement_68 ⟨(by first | omega | (dsimp only; omega) | exact Nat.le_of_ble_eq_true rfl), (by first | omega | (dsimp only; omega) | exact Nat.le_of_ble_eq_true rfl)⟩ (fun v st9 t9 L9 h0 hq hL => ?_) (fun E ce q9 u H locs hu hw hce hcv hcl => z_yout (u := u) hnt hlocks hce hcv hcl hw (List.range 65) wX_all wX_nd hu (by first | omega | (dsimp only; omega) | exact Nat.le_of_ble_eq_true rfl) (by first | omega | (dsimp only; omega) | exact Nat.le_of_ble_eq_true rfl))
    obtain ⟨⟨r21, u, hv9, hok, hB9⟩, hF9⟩ := hq
    cases hv9
    have hw := z_back (wr := []) hw hA (List.range 65) [] wX_all rfl (by decide) (fun i hi => by cases hi) h0 hL hB9 hF9
    obtain ⟨I21, J21, B21, D21⟩ := u
    dsimp only at hok
    generalize t9.heap = H at hw ⊢
    generalize locs ++ L9 = locs at hw ⊢
    have hw : zW G A s.heap (wX ad K sv I21 J21 B21 D21) H locs := hw
    refine W.eq (g2 := F0 m 71 ls [.int r21]) rfl ?_
    exact zy_ret (z_iret (u := (I21, J21, B21, D21)) hx hb hr hlocks rfl hw (List.range 65) wX_all wX_nd hok (by first | omega | (dsimp only; omega) | exact Nat.le_of_ble_eq_true rfl) (by first | omega | (dsimp only; omega) | exact Nat.le_of_ble_eq_true rfl) zd_ModelReader_readStatement_71)
  by_cases hs22 : r16 = 91
  · have hok := hok.2.2.2.1 hs22
    refine lv_lookup (off := 49) (tgt := 56) hx hb zd_ModelReader_readStatement_7 (by decide) (by rw [hs22]; decide) (by decide) ?_
    exact wJ_ModelReader_readStatement_R_56 G K ad sv P0 P1 P2 P3 a0 a1 a2 Post PX C n8 ihP a0 a1 a2 I16 J16 B16 D16 ls H locs hok (lv_sub hl [0, 1, 2, 3] rfl) hw
  by_cases hs23 : r16 = 94
  · have hok := hok.2.2.2.2.1 hs23
    refine lv_lookup (off := 72) (tgt := 79) hx hb zd_ModelReader_readStatement_7 (by decide) (by rw [hs23]; decide) (by decide) ?_
    refine lv_aload_n hx hb zd_ModelReader_readStatement_79 rfl (lv_at hl 0 rfl) ?_
    refine lv_iload_n hx hb zd_ModelReader_readStatement_80 rfl (lv_at hl 1 rfl) ?_
    refine lv_iload_n hx hb zd_ModelReader_readStatement_81 rfl (lv_at hl 2 rfl) ?_
    refine z_yV (q0 := 5) (wc := (wX ad K sv I16 J16 B16 D16)) (wr := []) (w1 := fun (u : zS) => wX ad K sv u.1 u.2.1 u.2.2.1 u.2.2.2) (As := [.int a0, .int a1]) (rest := []) ⟨hx, hb, hml, hown, hts⟩ (w_ModelReader_readJump l hlt G K ad sv I16 J16 B16 D16 a0 a1 _ _ H.size hok) zf_ModelReader_readJump zn_358 ⟨(by first | omega | (dsimp only; omega) | exact Nat.le_of_ble_eq_true rfl), (by first | omega | (dsimp only; omega) | exact Nat.le_of_ble_eq_true rfl)⟩ hK hT hw hA (List.range 65) [] wX_all rfl wX_nd (by decide) (fun i hi => by cases hi) wX_g5 rfl rfl hl.1 rfl (by first | omega | (dsimp only; omega) | exact Nat.le_of_ble_eq_true rfl) zd_ModelReader_readStatement_82 ⟨(by first | omega | (dsimp only; omega) | exact Nat.le_of_ble_eq_true rfl), (by first | omega | (dsimp only; omega) | exact Nat.le_of_ble_eq_true rfl)⟩ (fun v st9 t9 L9 h0 hq hL => ?_) (fun E ce q9 u H locs hu hw hce hcv hcl => z_yout (u := u) hnt hlocks hce hcv hcl hw (List.range 65) wX_all wX_nd hu (by first | omega | (dsimp only; omega) | exact Nat.le_of_ble_eq_true rfl) (by first | omega | (dsimp only; omega) | exact Nat.le_of_ble_eq_true rfl))
    obtain ⟨⟨r24, u, hv9, hok, hB9⟩, hF9⟩ := hq
    cases hv9
    have hw := z_back (wr := []) hw hA (List.range 65) [] wX_all rfl (by decide) (fun i hi => by cases hi) h0 hL hB9 hF9
    obtain ⟨I24, J24, B24, D24⟩ := u
    dsimp only at hok
    generalize t9.heap = H at hw ⊢
    generalize locs ++ L9 = locs at hw ⊢
    have hw : zW G A s.heap (wX ad K sv I24 J24 B24 D24) H locs := hw
    refine W.eq (g2 := F0 m 85 ls [.int r24]) rfl ?_
    exact zy_ret (z_iret (u := (I24, J24, B24, D24)) hx hb hr hlocks rfl hw (List.range 65) wX_all wX_nd hok (by first | omega | (dsimp only; omega) | exact Nat.le_of_ble_eq_true rfl) (by first | omega | (dsimp only; omega) | exact Nat.le_of_ble_eq_true rfl) zd_ModelReader_readStatement_85)
  have hok := hok.2.2.2.2.2 hs17 hs18 hs20 hs22 hs23
  refine lv_lookup (off := 79) (tgt := 86) hx hb zd_ModelReader_readStatement_7 (by decide) (by simp only [lv_osw hs17 (a := 42) (by decide), lv_osw hs18 (a := 46) (by decide), lv_osw hs20 (a := 60) (by decide), lv_osw hs22 (a := 91) (by decide), lv_osw hs23 (a := 94) (by decide)]; rfl) (by decide) ?_
  refine lv_aload_n hx hb zd_ModelReader_readStatement_86 rfl (lv_at hl 0 rfl) ?_
  refine z_get (v := .ref (ad 6)) hx hb hts hown hK hw zZ4 5 wX_g5 4 (by decide) zn_424 rfl zd_ModelReader_readStatement_87 ?_
  refine z_get (v := .int (I16 17)) hx hb hts hown hK hw zZ10 6 wX_g6 12 (by decide) zn_432 rfl zd_ModelReader_readStatement_90 ?_
  refine lv_bipush (v := 30) hx hb zd_ModelReader_readStatement_93 (by decide) ?_
  refine lv_icmp_eq (tgt := 110) hx hb zd_ModelReader_readStatement_95 (by decide) (fun hc25 => ?_) (fun hc25 => ?_)
  · have hok := hok.1 hc25
    exact wJ_ModelReader_readStatement_R_110 G K ad sv P0 P1 P2 P3 a0 a1 a2 Post PX C n8 ihP a0 a1 I16 J16 B16 D16 ls H locs hok (lv_sub hl [0, 1, 2] rfl) hw
  · have hok := hok.2 hc25
    refine lv_aload_n hx hb zd_ModelReader_readStatement_98 rfl (lv_at hl 0 rfl) ?_
    refine z_get (v := .ref (ad 3)) hx hb hts hown hK hw zZ4 5 wX_g5 3 (by decide) zn_421 rfl zd_ModelReader_readStatement_99 ?_
    refine z_get (v := .int (I16 9)) hx hb hts hown hK hw zZ6 3 wX_g3 12 (by decide) zn_433 rfl zd_ModelReader_readStatement_102 ?_
    refine lv_bipush (v := 48) hx hb zd_ModelReader_readStatement_105 (by decide) ?_
    refine lv_icmp_ne (tgt := 117) hx hb zd_ModelReader_readStatement_107 (by decide) (fun hc26 => ?_) (fun hc26 => ?_)
    · have hok := hok.1 hc26
      exact wJ_ModelReader_readStatement_R_117 G K ad sv P0 P1 P2 P3 a0 a1 a2 Post PX C n8 ihP a0 a1 I16 J16 B16 D16 ls H locs hok (lv_sub hl [0, 1, 2] rfl) hw
    · have hok := hok.2 hc26
      exact wJ_ModelReader_readStatement_R_110 G K ad sv P0 P1 P2 P3 a0 a1 a2 Post PX C n8 ihP a0 a1 I16 J16 B16 D16 ls H locs hok (lv_sub hl [0, 1, 2] rfl) hw
def wc_ModelReader_readChoice_R_126 (P0 : zTgm0) (P1 : zTgm1) (P2 : zTgm2) (P3 : zTgm3) (a0 : Int32) (a1 : Int32) (a2 : Int32) (Post : Int32 → (Nat → Int32) → (Nat → Int64) → (Nat → Nat → Int32) → (Nat → Nat → Int64) → Prop) (PX : String → (Nat → Int32) → (Nat → Int64) → (Nat → Nat → Int32) → (Nat → Nat → Int64) → Prop) (x5 : Int32) (I : Nat → Int32) (J : Nat → Int64) (B : Nat → Nat → Int32) (D : Nat → Nat → Int64) : Prop :=
  wp_Text_expect I J B D 93 (fun I1 J1 B1 D1 => Post x5 I1 J1 B1 D1) PX
def wc_ModelReader_readChoice_R_111 (P0 : zTgm0) (P1 : zTgm1) (P2 : zTgm2) (P3 : zTgm3) (a0 : Int32) (a1 : Int32) (a2 : Int32) (K86 : Int32 → Int32 → Int32 → (Nat → Int32) → (Nat → Int64) → (Nat → Nat → Int32) → (Nat → Nat → Int64) → Prop) (Post : Int32 → (Nat → Int32) → (Nat → Int64) → (Nat → Nat → Int32) → (Nat → Nat → Int64) → Prop) (PX : String → (Nat → Int32) → (Nat → Int64) → (Nat → Nat → Int32) → (Nat → Nat → Int64) → Prop) (x3 : Int32) (x5 : Int32) (x6 : Int32) (I : Nat → Int32) (J : Nat → Int64) (B : Nat → Nat → Int32) (D : Nat → Nat → Int64) : Prop :=
  ∀ z2 : Int32, z2 = (x3 + 1) → P0 I J B D x5 z2 (fun I3 J3 B3 D3 => ∀ z4 : Int32, z4 = (x6 + 1) → K86 x3 x5 z4 I3 J3 B3 D3) PX
def wb_ModelReader_readChoice_R_86 (P0 : zTgm0) (P1 : zTgm1) (P2 : zTgm2) (P3 : zTgm3) (a0 : Int32) (a1 : Int32) (a2 : Int32) (K86 : Int32 → Int32 → Int32 → (Nat → Int32) → (Nat → Int64) → (Nat → Nat → Int32) → (Nat → Nat → Int64) → Prop) (Post : Int32 → (Nat → Int32) → (Nat → Int64) → (Nat → Nat → Int32) → (Nat → Nat → Int64) → Prop) (PX : String → (Nat → Int32) → (Nat → Int64) → (Nat → Nat → Int32) → (Nat → Nat → Int64) → Prop) (x3 : Int32) (x5 : Int32) (x6 : Int32) (I : Nat → Int32) (J : Nat → Int64) (B : Nat → Nat → Int32) (D : Nat → Nat → Int64) : Prop :=
  (((240 : Int32) ≤ x6 → wc_ModelReader_readChoice_R_126 P0 P1 P2 P3 a0 a1 a2 Post PX x5 I J B D) ∧ (¬ (240 : Int32) ≤ x6 → ((x6 = 0 → wc_ModelReader_readChoice_R_111 P0 P1 P2 P3 a0 a1 a2 K86 Post PX x3 x5 x6 I J B D) ∧ (¬ x6 = 0 → wp_Text_accept I J B D 124 (fun r7 I7 J7 B7 D7 => ((r7 = 0 → wc_ModelReader_readChoice_R_126 P0 P1 P2 P3 a0 a1 a2 Post PX x5 I7 J7 B7 D7) ∧ (¬ r7 = 0 → wc_ModelReader_readChoice_R_111 P0 P1 P2 P3 a0 a1 a2 K86 Post PX x3 x5 x6 I7 J7 B7 D7)))))))
def wl_ModelReader_readChoice_R_86 (P0 : zTgm0) (P1 : zTgm1) (P2 : zTgm2) (P3 : zTgm3) (a0 : Int32) (a1 : Int32) (a2 : Int32) (Post : Int32 → (Nat → Int32) → (Nat → Int64) → (Nat → Nat → Int32) → (Nat → Nat → Int64) → Prop) (PX : String → (Nat → Int32) → (Nat → Int64) → (Nat → Nat → Int32) → (Nat → Nat → Int64) → Prop) (n : Nat) : Int32 → Int32 → Int32 → (Nat → Int32) → (Nat → Int64) → (Nat → Nat → Int32) → (Nat → Nat → Int64) → Prop := Nat.rec (fun _ _ _ _ _ _ _ => False) (fun _ r => wb_ModelReader_readChoice_R_86 P0 P1 P2 P3 a0 a1 a2 r Post PX) n
def wc_ModelReader_readChoice_R_63 (P0 : zTgm0) (P1 : zTgm1) (P2 : zTgm2) (P3 : zTgm3) (a0 : Int32) (a1 : Int32) (a2 : Int32) (Post : Int32 → (Nat → Int32) → (Nat → Int64) → (Nat → Nat → Int32) → (Nat → Nat → Int64) → Prop) (PX : String → (Nat → Int32) → (Nat → Int64) → (Nat → Nat → Int32) → (Nat → Nat → Int64) → Prop) (x1 : Int32) (x2 : Int32) (x3 : Int32) (x4 : Int32) (I : Nat → Int32) (J : Nat → Int64) (B : Nat → Nat → Int32) (D : Nat → Nat → Int64) : Prop :=
  wp_Text_skip I J B D  (fun I9 J9 B9 D9 => wp_Tree_add I9 J9 B9 D9 x4 x1 x2 (fun r10 I10 J10 B10 D10 => ∃ n : Nat, wl_ModelReader_readChoice_R_86 P0 P1 P2 P3 a0 a1 a2 Post PX n x3 r10 0 I10 J10 B10 D10))
def wc_ModelReader_readChoice_R_56 (P0 : zTgm0) (P1 : zTgm1) (P2 : zTgm2) (P3 : zTgm3) (a0 : Int32) (a1 : Int32) (a2 : Int32) (Post : Int32 → (Nat → Int32) → (Nat → Int64) → (Nat → Nat → Int32) → (Nat → Nat → Int64) → Prop) (PX : String → (Nat → Int32) → (Nat → Int64) → (Nat → Nat → Int32) → (Nat → Nat → Int64) → Prop) (x1 : Int32) (x2 : Int32) (x3 : Int32) (x4 : Int32) (I : Nat → Int32) (J : Nat → Int64) (B : Nat → Nat → Int32) (D : Nat → Nat → Int64) : Prop :=
  wp_Text_refuse I J B D  (fun I11 J11 B11 D11 => wc_ModelReader_readChoice_R_63 P0 P1 P2 P3 a0 a1 a2 Post PX x1 x2 x3 x4 I11 J11 B11 D11) PX
def wc_ModelReader_readChoice_R_36 (P0 : zTgm0) (P1 : zTgm1) (P2 : zTgm2) (P3 : zTgm3) (a0 : Int32) (a1 : Int32) (a2 : Int32) (Post : Int32 → (Nat → Int32) → (Nat → Int64) → (Nat → Nat → Int32) → (Nat → Nat → Int64) → Prop) (PX : String → (Nat → Int32) → (Nat → Int64) → (Nat → Nat → Int32) → (Nat → Nat → Int64) → Prop) (x1 : Int32) (x2 : Int32) (x3 : Int32) (y0 : Int32) (I : Nat → Int32) (J : Nat → Int64) (B : Nat → Nat → Int32) (D : Nat → Nat → Int64) : Prop :=
  wp_Text_ahead I J B D  (fun r12 I12 J12 B12 D12 => ((¬ r12 = 91 → wc_ModelReader_readChoice_R_56 P0 P1 P2 P3 a0 a1 a2 Post PX x1 x2 x3 y0 I12 J12 B12 D12) ∧ (r12 = 91 → ((¬ x3 = 6 → wc_ModelReader_readChoice_R_63 P0 P1 P2 P3 a0 a1 a2 Post PX x1 x2 x3 y0 I12 J12 B12 D12) ∧ (x3 = 6 → wc_ModelReader_readChoice_R_56 P0 P1 P2 P3 a0 a1 a2 Post PX x1 x2 x3 y0 I12 J12 B12 D12)))))
def wc_ModelReader_readChoice_R_19 (P0 : zTgm0) (P1 : zTgm1) (P2 : zTgm2) (P3 : zTgm3) (a0 : Int32) (a1 : Int32) (a2 : Int32) (Post : Int32 → (Nat → Int32) → (Nat → Int64) → (Nat → Nat → Int32) → (Nat → Nat → Int64) → Prop) (PX : String → (Nat → Int32) → (Nat → Int64) → (Nat → Nat → Int32) → (Nat → Nat → Int64) → Prop) (x1 : Int32) (x2 : Int32) (x3 : Int32) (I : Nat → Int32) (J : Nat → Int64) (B : Nat → Nat → Int32) (D : Nat → Nat → Int64) : Prop :=
  wp_Text_accept I J B D 42 (fun r15 I15 J15 B15 D15 => ((r15 = 0 → wc_ModelReader_readChoice_R_36 P0 P1 P2 P3 a0 a1 a2 Post PX x1 x2 x3 1 I15 J15 B15 D15) ∧ (¬ r15 = 0 → wc_ModelReader_readChoice_R_36 P0 P1 P2 P3 a0 a1 a2 Post PX x1 x2 x3 2 I15 J15 B15 D15)))
def wp_ModelReader_readChoice_R (I : Nat → Int32) (J : Nat → Int64) (B : Nat → Nat → Int32) (D : Nat → Nat → Int64) (P0 : zTgm0) (P1 : zTgm1) (P2 : zTgm2) (P3 : zTgm3) (a0 : Int32) (a1 : Int32) (a2 : Int32) (Post : Int32 → (Nat → Int32) → (Nat → Int64) → (Nat → Nat → Int32) → (Nat → Nat → Int64) → Prop) (PX : String → (Nat → Int32) → (Nat → Int64) → (Nat → Nat → Int32) → (Nat → Nat → Int64) → Prop) : Prop :=
  ((¬ (I 17) = 30 → wc_ModelReader_readChoice_R_19 P0 P1 P2 P3 a0 a1 a2 Post PX a0 a1 a2 I J B D) ∧ ((I 17) = 30 → wp_Text_refuse I J B D  (fun I18 J18 B18 D18 => wc_ModelReader_readChoice_R_19 P0 P1 P2 P3 a0 a1 a2 Post PX a0 a1 a2 I18 J18 B18 D18) PX))
set_option maxHeartbeats 8000000 in
set_option maxRecDepth 100000 in
theorem wJ_ModelReader_readChoice_R_126 {p : Program} {l : Launch} {e : Env} {s : State} {m : MethodId} {below : List Frame} {meth : Method} {c : Code} {A : Nat → Prop} (G : va_G) (K : Nat → ClassId) (ad : Nat → Nat) (sv : Value) (P0 : zTgm0) (P1 : zTgm1) (P2 : zTgm2) (P3 : zTgm3) (a0 : Int32) (a1 : Int32) (a2 : Int32) (Post : Int32 → (Nat → Int32) → (Nat → Int64) → (Nat → Nat → Int32) → (Nat → Nat → Int64) → Prop) (PX : String → (Nat → Int32) → (Nat → Int64) → (Nat → Nat → Int32) → (Nat → Nat → Int64) → Prop) (C : zCy p l s m ([.ref (ad 5), .int a0, .int a1, .int a2] : List Value).toArray meth c A G K prog_5_method_9_code (some .int) 7 "LassoFinder$ModelReader") (n8 : Nat) (ihP : zIH_gm l G K ad sv n8 P0 P1 P2 P3) : ∀ (x5 : Int32) (I : Nat → Int32) (J : Nat → Int64) (B : Nat → Nat → Int32) (D : Nat → Nat → Int64) (ls : Array Slot) (H : Heap) (locs : List Loc), wc_ModelReader_readChoice_R_126 P0 P1 P2 P3 a0 a1 a2 Post PX x5 I J B D → lv_has ls 7 [(0, .ref (ad 5)), (5, .int x5)] → zW G A s.heap (wX ad K sv I J B D) H locs → W p l e { frames := n8 + 1 + 10, cells := 1, slots := 6, locals := (n8 + 1) * 26 + 169 } s m ([.ref (ad 5), .int a0, .int a1, .int a2] : List Value).toArray below meth c H locs 0 0 (zyMQ below (va_Qi (fun (r : Int32) (u : zS) => Post r u.1 u.2.1 u.2.2.1 u.2.2.2) (fun u t => zPost G K A (wX ad K sv u.1 u.2.1 u.2.2.1 u.2.2.2) t) A) (zYC (fun E (u : zS) => PX E u.1 u.2.1 u.2.2.1 u.2.2.2) (fun u => wX ad K sv u.1 u.2.1 u.2.2.1 u.2.2.2) G K A) ([.ref (ad 5), .int a0, .int a1, .int a2] : List Value).toArray s 1 6 A) (F0 m 126 ls []) := by
  obtain ⟨hx, hb, hr, hml, hts, hown, hlocks, hA, hK, hT, hnt, hlt⟩ := id C
  intro x5 I J B D ls H locs hok hl hw
  unfold wc_ModelReader_readChoice_R_126 at hok
  refine lv_aload_n hx hb zd_ModelReader_readChoice_126 rfl (lv_at hl 0 rfl) ?_
  refine z_get (v := .ref (ad 1)) hx hb hts hown hK hw zZ4 5 wX_g5 0 (by decide) zn_422 rfl zd_ModelReader_readChoice_127 ?_
  refine lv_bipush (v := 93) hx hb zd_ModelReader_readChoice_130 (by decide) ?_
  refine z_yV (q0 := 1) (wc := (wX ad K sv I J B D)) (wr := []) (w1 := fun (u : zS) => wX ad K sv u.1 u.2.1 u.2.2.1 u.2.2.2) (As := [.int 93]) (rest := []) ⟨hx, hb, hml, hown, hts⟩ (w_Text_expect l hlt G K ad sv I J B D 93 _ _ H.size hok) zf_Text_expect zn_340 ⟨(by first | omega | (dsimp only; omega) | exact Nat.le_of_ble_eq_true rfl), (by first | omega | (dsimp only; omega) | exact Nat.le_of_ble_eq_true rfl)⟩ hK hT hw hA (List.range 65) [] wX_all rfl wX_nd (by decide) (fun i hi => by cases hi) wX_g1 rfl rfl hl.1 rfl (by first | omega | (dsimp only; omega) | exact Nat.le_of_ble_eq_true rfl) zd_ModelReader_readChoice_132 ⟨(by first | omega | (dsimp only; omega) | exact Nat.le_of_ble_eq_true rfl), (by first | omega | (dsimp only; omega) | exact Nat.le_of_ble_eq_true rfl)⟩ (fun v st9 t9 L9 h0 hq hL => ?_) (fun E ce q9 u H locs hu hw hce hcv hcl => z_yout (u := u) hnt hlocks hce hcv hcl hw (List.range 65) wX_all wX_nd hu (by first | omega | (dsimp only; omega) | exact Nat.le_of_ble_eq_true rfl) (by first | omega | (dsimp only; omega) | exact Nat.le_of_ble_eq_true rfl))
  obtain ⟨⟨u, hv9, hok, hB9⟩, hF9⟩ := hq
  cases hv9
  have hw := z_back (wr := []) hw hA (List.range 65) [] wX_all rfl (by decide) (fun i hi => by cases hi) h0 hL hB9 hF9
  obtain ⟨I1, J1, B1, D1⟩ := u
  dsimp only at hok
  generalize t9.heap = H at hw ⊢
  generalize locs ++ L9 = locs at hw ⊢
  have hw : zW G A s.heap (wX ad K sv I1 J1 B1 D1) H locs := hw
  refine W.eq (g2 := F0 m 135 ls []) rfl ?_
  refine lv_iload hx hb zd_ModelReader_readChoice_135 (lv_at hl 1 rfl) ?_
  exact zy_ret (z_iret (u := (I1, J1, B1, D1)) hx hb hr hlocks rfl hw (List.range 65) wX_all wX_nd hok (by first | omega | (dsimp only; omega) | exact Nat.le_of_ble_eq_true rfl) (by first | omega | (dsimp only; omega) | exact Nat.le_of_ble_eq_true rfl) zd_ModelReader_readChoice_137)
set_option maxHeartbeats 8000000 in
set_option maxRecDepth 100000 in
theorem wJ_ModelReader_readChoice_R_111 {p : Program} {l : Launch} {e : Env} {s : State} {m : MethodId} {below : List Frame} {meth : Method} {c : Code} {A : Nat → Prop} (G : va_G) (K : Nat → ClassId) (ad : Nat → Nat) (sv : Value) (P0 : zTgm0) (P1 : zTgm1) (P2 : zTgm2) (P3 : zTgm3) (a0 : Int32) (a1 : Int32) (a2 : Int32) (Post : Int32 → (Nat → Int32) → (Nat → Int64) → (Nat → Nat → Int32) → (Nat → Nat → Int64) → Prop) (PX : String → (Nat → Int32) → (Nat → Int64) → (Nat → Nat → Int32) → (Nat → Nat → Int64) → Prop) (C : zCy p l s m ([.ref (ad 5), .int a0, .int a1, .int a2] : List Value).toArray meth c A G K prog_5_method_9_code (some .int) 7 "LassoFinder$ModelReader") (n8 : Nat) (ihP : zIH_gm l G K ad sv n8 P0 P1 P2 P3) (K86 : Int32 → Int32 → Int32 → (Nat → Int32) → (Nat → Int64) → (Nat → Nat → Int32) → (Nat → Nat → Int64) → Prop) (kh86 : ∀ (x3 : Int32) (x5 : Int32) (x6 : Int32) (I : Nat → Int32) (J : Nat → Int64) (B : Nat → Nat → Int32) (D : Nat → Nat → Int64) (ls : Array Slot) (H : Heap) (locs : List Loc), K86 x3 x5 x6 I J B D → lv_has ls 7 [(0, .ref (ad 5)), (3, .int x3), (5, .int x5), (6, .int x6)] → zW G A s.heap (wX ad K sv I J B D) H locs → W p l e { frames := n8 + 1 + 10, cells := 1, slots := 6, locals := (n8 + 1) * 26 + 169 } s m ([.ref (ad 5), .int a0, .int a1, .int a2] : List Value).toArray below meth c H locs 0 0 (zyMQ below (va_Qi (fun (r : Int32) (u : zS) => Post r u.1 u.2.1 u.2.2.1 u.2.2.2) (fun u t => zPost G K A (wX ad K sv u.1 u.2.1 u.2.2.1 u.2.2.2) t) A) (zYC (fun E (u : zS) => PX E u.1 u.2.1 u.2.2.1 u.2.2.2) (fun u => wX ad K sv u.1 u.2.1 u.2.2.1 u.2.2.2) G K A) ([.ref (ad 5), .int a0, .int a1, .int a2] : List Value).toArray s 1 6 A) (F0 m 86 ls [])) : ∀ (x3 : Int32) (x5 : Int32) (x6 : Int32) (I : Nat → Int32) (J : Nat → Int64) (B : Nat → Nat → Int32) (D : Nat → Nat → Int64) (ls : Array Slot) (H : Heap) (locs : List Loc), wc_ModelReader_readChoice_R_111 P0 P1 P2 P3 a0 a1 a2 K86 Post PX x3 x5 x6 I J B D → lv_has ls 7 [(0, .ref (ad 5)), (3, .int x3), (5, .int x5), (6, .int x6)] → zW G A s.heap (wX ad K sv I J B D) H locs → W p l e { frames := n8 + 1 + 10, cells := 1, slots := 6, locals := (n8 + 1) * 26 + 169 } s m ([.ref (ad 5), .int a0, .int a1, .int a2] : List Value).toArray below meth c H locs 0 0 (zyMQ below (va_Qi (fun (r : Int32) (u : zS) => Post r u.1 u.2.1 u.2.2.1 u.2.2.2) (fun u t => zPost G K A (wX ad K sv u.1 u.2.1 u.2.2.1 u.2.2.2) t) A) (zYC (fun E (u : zS) => PX E u.1 u.2.1 u.2.2.1 u.2.2.2) (fun u => wX ad K sv u.1 u.2.1 u.2.2.1 u.2.2.2) G K A) ([.ref (ad 5), .int a0, .int a1, .int a2] : List Value).toArray s 1 6 A) (F0 m 111 ls []) := by
  obtain ⟨hx, hb, hr, hml, hts, hown, hlocks, hA, hK, hT, hnt, hlt⟩ := id C
  intro x3 x5 x6 I J B D ls H locs hok hl hw
  unfold wc_ModelReader_readChoice_R_111 at hok
  refine lv_aload_n hx hb zd_ModelReader_readChoice_111 rfl (lv_at hl 0 rfl) ?_
  refine lv_iload hx hb zd_ModelReader_readChoice_112 (lv_at hl 2 rfl) ?_
  refine lv_iload_n hx hb zd_ModelReader_readChoice_114 rfl (lv_at hl 1 rfl) ?_
  refine lv_iconst (v := 1) hx hb zd_ModelReader_readChoice_115 (by decide) ?_
  refine lv_iadd hx hb zd_ModelReader_readChoice_116 ?_
  refine lv_topi (fun z2 ez2 => ?_)
  have hok := hok z2 ez2
  refine z_yV (q0 := 5) (wc := (wX ad K sv I J B D)) (wr := []) (w1 := fun (u : zS) => wX ad K sv u.1 u.2.1 u.2.2.1 u.2.2.2) (As := [.int x5, .int z2]) (rest := []) ⟨hx, hb, hml, hown, hts⟩ (ihP.1 I J B D x5 z2 _ _ H.size hok) zf_ModelReader_readBody zn_346 ⟨(by first | omega | (dsimp only; omega) | exact Nat.le_of_ble_eq_true rfl), (by first | omega | (dsimp only; omega) | exact Nat.le_of_ble_eq_true rfl)⟩ hK hT hw hA (List.range 65) [] wX_all rfl wX_nd (by decide) (fun i hi => by cases hi) wX_g5 rfl rfl hl.1 rfl (by first | omega | (dsimp only; omega) | exact Nat.le_of_ble_eq_true rfl) zd_ModelReader_readChoice_117 ⟨(by first | omega | (dsimp only; omega) | exact Nat.le_of_ble_eq_true rfl), (by first | omega | (dsimp only; omega) | exact Nat.le_of_ble_eq_true rfl)⟩ (fun v st9 t9 L9 h0 hq hL => ?_) (fun E ce q9 u H locs hu hw hce hcv hcl => z_yout (u := u) hnt hlocks hce hcv hcl hw (List.range 65) wX_all wX_nd hu (by first | omega | (dsimp only; omega) | exact Nat.le_of_ble_eq_true rfl) (by first | omega | (dsimp only; omega) | exact Nat.le_of_ble_eq_true rfl))
  obtain ⟨⟨u, hv9, hok, hB9⟩, hF9⟩ := hq
  cases hv9
  have hw := z_back (wr := []) hw hA (List.range 65) [] wX_all rfl (by decide) (fun i hi => by cases hi) h0 hL hB9 hF9
  obtain ⟨I3, J3, B3, D3⟩ := u
  dsimp only at hok
  generalize t9.heap = H at hw ⊢
  generalize locs ++ L9 = locs at hw ⊢
  have hw : zW G A s.heap (wX ad K sv I3 J3 B3 D3) H locs := hw
  refine W.eq (g2 := F0 m 120 ls []) rfl ?_
  obtain ⟨z4, ez4⟩ : ∃ z : Int32, z = (x6 + 1) := ⟨_, rfl⟩
  have hok := hok z4 ez4
  refine lv_iinc (v := z4) hx hb zd_ModelReader_readChoice_120 hl (k := 3) rfl ez4.symm (by decide) rfl (fun ls hl => ?_)
  have hl : lv_has ls 7 [(6, .int z4), (0, .ref (ad 5)), (3, .int x3), (5, .int x5)] := hl
  refine lv_goto (tgt := 86) hx hb zd_ModelReader_readChoice_123 (by decide) ?_
  exact kh86 x3 x5 z4 I3 J3 B3 D3 ls H locs hok (lv_sub hl [1, 2, 3, 0] rfl) hw
set_option maxHeartbeats 8000000 in
set_option maxRecDepth 100000 in
theorem wB_ModelReader_readChoice_R_86 {p : Program} {l : Launch} {e : Env} {s : State} {m : MethodId} {below : List Frame} {meth : Method} {c : Code} {A : Nat → Prop} (G : va_G) (K : Nat → ClassId) (ad : Nat → Nat) (sv : Value) (P0 : zTgm0) (P1 : zTgm1) (P2 : zTgm2) (P3 : zTgm3) (a0 : Int32) (a1 : Int32) (a2 : Int32) (Post : Int32 → (Nat → Int32) → (Nat → Int64) → (Nat → Nat → Int32) → (Nat → Nat → Int64) → Prop) (PX : String → (Nat → Int32) → (Nat → Int64) → (Nat → Nat → Int32) → (Nat → Nat → Int64) → Prop) (C : zCy p l s m ([.ref (ad 5), .int a0, .int a1, .int a2] : List Value).toArray meth c A G K prog_5_method_9_code (some .int) 7 "LassoFinder$ModelReader") (n8 : Nat) (ihP : zIH_gm l G K ad sv n8 P0 P1 P2 P3) (K86 : Int32 → Int32 → Int32 → (Nat → Int32) → (Nat → Int64) → (Nat → Nat → Int32) → (Nat → Nat → Int64) → Prop) (kh86 : ∀ (x3 : Int32) (x5 : Int32) (x6 : Int32) (I : Nat → Int32) (J : Nat → Int64) (B : Nat → Nat → Int32) (D : Nat → Nat → Int64) (ls : Array Slot) (H : Heap) (locs : List Loc), K86 x3 x5 x6 I J B D → lv_has ls 7 [(0, .ref (ad 5)), (3, .int x3), (5, .int x5), (6, .int x6)] → zW G A s.heap (wX ad K sv I J B D) H locs → W p l e { frames := n8 + 1 + 10, cells := 1, slots := 6, locals := (n8 + 1) * 26 + 169 } s m ([.ref (ad 5), .int a0, .int a1, .int a2] : List Value).toArray below meth c H locs 0 0 (zyMQ below (va_Qi (fun (r : Int32) (u : zS) => Post r u.1 u.2.1 u.2.2.1 u.2.2.2) (fun u t => zPost G K A (wX ad K sv u.1 u.2.1 u.2.2.1 u.2.2.2) t) A) (zYC (fun E (u : zS) => PX E u.1 u.2.1 u.2.2.1 u.2.2.2) (fun u => wX ad K sv u.1 u.2.1 u.2.2.1 u.2.2.2) G K A) ([.ref (ad 5), .int a0, .int a1, .int a2] : List Value).toArray s 1 6 A) (F0 m 86 ls [])) : ∀ (x3 : Int32) (x5 : Int32) (x6 : Int32) (I : Nat → Int32) (J : Nat → Int64) (B : Nat → Nat → Int32) (D : Nat → Nat → Int64) (ls : Array Slot) (H : Heap) (locs : List Loc), wb_ModelReader_readChoice_R_86 P0 P1 P2 P3 a0 a1 a2 K86 Post PX x3 x5 x6 I J B D → lv_has ls 7 [(0, .ref (ad 5)), (3, .int x3), (5, .int x5), (6, .int x6)] → zW G A s.heap (wX ad K sv I J B D) H locs → W p l e { frames := n8 + 1 + 10, cells := 1, slots := 6, locals := (n8 + 1) * 26 + 169 } s m ([.ref (ad 5), .int a0, .int a1, .int a2] : List Value).toArray below meth c H locs 0 0 (zyMQ below (va_Qi (fun (r : Int32) (u : zS) => Post r u.1 u.2.1 u.2.2.1 u.2.2.2) (fun u t => zPost G K A (wX ad K sv u.1 u.2.1 u.2.2.1 u.2.2.2) t) A) (zYC (fun E (u : zS) => PX E u.1 u.2.1 u.2.2.1 u.2.2.2) (fun u => wX ad K sv u.1 u.2.1 u.2.2.1 u.2.2.2) G K A) ([.ref (ad 5), .int a0, .int a1, .int a2] : List Value).toArray s 1 6 A) (F0 m 86 ls []) := by
  obtain ⟨hx, hb, hr, hml, hts, hown, hlocks, hA, hK, hT, hnt, hlt⟩ := id C
  intro x3 x5 x6 I J B D ls H locs hok hl hw
  unfold wb_ModelReader_readChoice_R_86 at hok
  refine lv_iload hx hb zd_ModelReader_readChoice_86 (lv_at hl 3 rfl) ?_
  refine lv_sipush (v := 240) hx hb zd_ModelReader_readChoice_88 (by decide) ?_
  refine lv_icmp_ge (tgt := 126) hx hb zd_ModelReader_readChoice_91 (by decide) (fun hc5 => ?_) (fun hc5 => ?_)
  · have hok := hok.1 hc5
    exact wJ_ModelReader_readChoice_R_126 G K ad sv P0 P1 P2 P3 a0 a1 a2 Post PX C n8 ihP x5 I J B D ls H locs hok (lv_sub hl [0, 2] rfl) hw
  · have hok := hok.2 hc5
    refine lv_iload hx hb zd_ModelReader_readChoice_94 (lv_at hl 3 rfl) ?_
    refine lv_if_eq (tgt := 111) hx hb zd_ModelReader_readChoice_96 (by decide) (fun hc6 => ?_) (fun hc6 => ?_)
    · have hok := hok.1 hc6
      exact wJ_ModelReader_readChoice_R_111 G K ad sv P0 P1 P2 P3 a0 a1 a2 Post PX C n8 ihP K86 kh86 x3 x5 x6 I J B D ls H locs hok (lv_sub hl [0, 1, 2, 3] rfl) hw
    · have hok := hok.2 hc6
      refine lv_aload_n hx hb zd_ModelReader_readChoice_99 rfl (lv_at hl 0 rfl) ?_
      refine z_get (v := .ref (ad 1)) hx hb hts hown hK hw zZ4 5 wX_g5 0 (by decide) zn_422 rfl zd_ModelReader_readChoice_100 ?_
      refine lv_bipush (v := 124) hx hb zd_ModelReader_readChoice_103 (by decide) ?_
      refine z_calli (w1 := fun (u : zS) => wX ad K sv u.1 u.2.1 u.2.2.1 u.2.2.2) (wr := []) (z_runV (q0 := 1) (wc := (wX ad K sv I J B D)) (As := [.int 124]) (rest := []) ⟨hx, hb, hml, hown, hts⟩ (w_Text_accept l G K ad sv I J B D 124 _ H.size hok) zf_Text_accept zn_332 ⟨(by first | omega | (dsimp only; omega) | exact Nat.le_of_ble_eq_true rfl), (by first | omega | (dsimp only; omega) | exact Nat.le_of_ble_eq_true rfl)⟩ hK hw (List.range 65) wX_all wX_nd wX_g1 rfl rfl hl.1 rfl (by first | omega | (dsimp only; omega) | exact Nat.le_of_ble_eq_true rfl) zd_ModelReader_readChoice_105 ⟨(by first | omega | (dsimp only; omega) | exact Nat.le_of_ble_eq_true rfl), (by first | omega | (dsimp only; omega) | exact Nat.le_of_ble_eq_true rfl)⟩) hw hA (List.range 65) [] wX_all rfl (by decide) (fun i hi => by cases hi) (fun r7 u H locs hok hw => ?_)
      obtain ⟨I7, J7, B7, D7⟩ := u
      dsimp only at hok
      have hw : zW G A s.heap (wX ad K sv I7 J7 B7 D7) H locs := hw
      refine lv_if_eq (tgt := 126) hx hb zd_ModelReader_readChoice_108 (by decide) (fun hc8 => ?_) (fun hc8 => ?_)
      · have hok := hok.1 hc8
        exact wJ_ModelReader_readChoice_R_126 G K ad sv P0 P1 P2 P3 a0 a1 a2 Post PX C n8 ihP x5 I7 J7 B7 D7 ls H locs hok (lv_sub hl [0, 2] rfl) hw
      · have hok := hok.2 hc8
        exact wJ_ModelReader_readChoice_R_111 G K ad sv P0 P1 P2 P3 a0 a1 a2 Post PX C n8 ihP K86 kh86 x3 x5 x6 I7 J7 B7 D7 ls H locs hok (lv_sub hl [0, 1, 2, 3] rfl) hw
theorem wL_ModelReader_readChoice_R_86 {p : Program} {l : Launch} {e : Env} {s : State} {m : MethodId} {below : List Frame} {meth : Method} {c : Code} {A : Nat → Prop} (G : va_G) (K : Nat → ClassId) (ad : Nat → Nat) (sv : Value) (P0 : zTgm0) (P1 : zTgm1) (P2 : zTgm2) (P3 : zTgm3) (a0 : Int32) (a1 : Int32) (a2 : Int32) (Post : Int32 → (Nat → Int32) → (Nat → Int64) → (Nat → Nat → Int32) → (Nat → Nat → Int64) → Prop) (PX : String → (Nat → Int32) → (Nat → Int64) → (Nat → Nat → Int32) → (Nat → Nat → Int64) → Prop) (C : zCy p l s m ([.ref (ad 5), .int a0, .int a1, .int a2] : List Value).toArray meth c A G K prog_5_method_9_code (some .int) 7 "LassoFinder$ModelReader") (n8 : Nat) (ihP : zIH_gm l G K ad sv n8 P0 P1 P2 P3) : ∀ (n : Nat) (x3 : Int32) (x5 : Int32) (x6 : Int32) (I : Nat → Int32) (J : Nat → Int64) (B : Nat → Nat → Int32) (D : Nat → Nat → Int64) (ls : Array Slot) (H : Heap) (locs : List Loc), wl_ModelReader_readChoice_R_86 P0 P1 P2 P3 a0 a1 a2 Post PX n x3 x5 x6 I J B D → lv_has ls 7 [(0, .ref (ad 5)), (3, .int x3), (5, .int x5), (6, .int x6)] → zW G A s.heap (wX ad K sv I J B D) H locs → W p l e { frames := n8 + 1 + 10, cells := 1, slots := 6, locals := (n8 + 1) * 26 + 169 } s m ([.ref (ad 5), .int a0, .int a1, .int a2] : List Value).toArray below meth c H locs 0 0 (zyMQ below (va_Qi (fun (r : Int32) (u : zS) => Post r u.1 u.2.1 u.2.2.1 u.2.2.2) (fun u t => zPost G K A (wX ad K sv u.1 u.2.1 u.2.2.1 u.2.2.2) t) A) (zYC (fun E (u : zS) => PX E u.1 u.2.1 u.2.2.1 u.2.2.2) (fun u => wX ad K sv u.1 u.2.1 u.2.2.1 u.2.2.2) G K A) ([.ref (ad 5), .int a0, .int a1, .int a2] : List Value).toArray s 1 6 A) (F0 m 86 ls []) := by
  intro n
  induction n with
  | zero => intro x3 x5 x6 I J B D ls H locs hok; exact hok.elim
  | succ n ih => exact wB_ModelReader_readChoice_R_86 G K ad sv P0 P1 P2 P3 a0 a1 a2 Post PX C n8 ihP (wl_ModelReader_readChoice_R_86 P0 P1 P2 P3 a0 a1 a2 Post PX n) ih
set_option maxHeartbeats 8000000 in
set_option maxRecDepth 100000 in
theorem wJ_ModelReader_readChoice_R_63 {p : Program} {l : Launch} {e : Env} {s : State} {m : MethodId} {below : List Frame} {meth : Method} {c : Code} {A : Nat → Prop} (G : va_G) (K : Nat → ClassId) (ad : Nat → Nat) (sv : Value) (P0 : zTgm0) (P1 : zTgm1) (P2 : zTgm2) (P3 : zTgm3) (a0 : Int32) (a1 : Int32) (a2 : Int32) (Post : Int32 → (Nat → Int32) → (Nat → Int64) → (Nat → Nat → Int32) → (Nat → Nat → Int64) → Prop) (PX : String → (Nat → Int32) → (Nat → Int64) → (Nat → Nat → Int32) → (Nat → Nat → Int64) → Prop) (C : zCy p l s m ([.ref (ad 5), .int a0, .int a1, .int a2] : List Value).toArray meth c A G K prog_5_method_9_code (some .int) 7 "LassoFinder$ModelReader") (n8 : Nat) (ihP : zIH_gm l G K ad sv n8 P0 P1 P2 P3) : ∀ (x1 : Int32) (x2 : Int32) (x3 : Int32) (x4 : Int32) (I : Nat → Int32) (J : Nat → Int64) (B : Nat → Nat → Int32) (D : Nat → Nat → Int64) (ls : Array Slot) (H : Heap) (locs : List Loc), wc_ModelReader_readChoice_R_63 P0 P1 P2 P3 a0 a1 a2 Post PX x1 x2 x3 x4 I J B D → lv_has ls 7 [(0, .ref (ad 5)), (1, .int x1), (2, .int x2), (3, .int x3), (4, .int x4)] → zW G A s.heap (wX ad K sv I J B D) H locs → W p l e { frames := n8 + 1 + 10, cells := 1, slots := 6, locals := (n8 + 1) * 26 + 169 } s m ([.ref (ad 5), .int a0, .int a1, .int a2] : List Value).toArray below meth c H locs 0 0 (zyMQ below (va_Qi (fun (r : Int32) (u : zS) => Post r u.1 u.2.1 u.2.2.1 u.2.2.2) (fun u t => zPost G K A (wX ad K sv u.1 u.2.1 u.2.2.1 u.2.2.2) t) A) (zYC (fun E (u : zS) => PX E u.1 u.2.1 u.2.2.1 u.2.2.2) (fun u => wX ad K sv u.1 u.2.1 u.2.2.1 u.2.2.2) G K A) ([.ref (ad 5), .int a0, .int a1, .int a2] : List Value).toArray s 1 6 A) (F0 m 63 ls []) := by
  obtain ⟨hx, hb, hr, hml, hts, hown, hlocks, hA, hK, hT, hnt, hlt⟩ := id C
  intro x1 x2 x3 x4 I J B D ls H locs hok hl hw
  unfold wc_ModelReader_readChoice_R_63 at hok
  refine lv_aload_n hx hb zd_ModelReader_readChoice_63 rfl (lv_at hl 0 rfl) ?_
  refine z_get (v := .ref (ad 1)) hx hb hts hown hK hw zZ4 5 wX_g5 0 (by decide) zn_422 rfl zd_ModelReader_readChoice_64 ?_
  refine z_callv (w1 := fun (u : zS) => wX ad K sv u.1 u.2.1 u.2.2.1 u.2.2.2) (wr := []) (z_runV (q0 := 1) (wc := (wX ad K sv I J B D)) (As := []) (rest := []) ⟨hx, hb, hml, hown, hts⟩ (w_Text_skip l G K ad sv I J B D  _ H.size hok) zf_Text_skip zn_338 ⟨(by first | omega | (dsimp only; omega) | exact Nat.le_of_ble_eq_true rfl), (by first | omega | (dsimp only; omega) | exact Nat.le_of_ble_eq_true rfl)⟩ hK hw (List.range 65) wX_all wX_nd wX_g1 rfl rfl hl.1 rfl (by first | omega | (dsimp only; omega) | exact Nat.le_of_ble_eq_true rfl) zd_ModelReader_readChoice_67 ⟨(by first | omega | (dsimp only; omega) | exact Nat.le_of_ble_eq_true rfl), (by first | omega | (dsimp only; omega) | exact Nat.le_of_ble_eq_true rfl)⟩) hw hA (List.range 65) [] wX_all rfl (by decide) (fun i hi => by cases hi) (fun u H locs hok hw => ?_)
  obtain ⟨I9, J9, B9, D9⟩ := u
  dsimp only at hok
  have hw : zW G A s.heap (wX ad K sv I9 J9 B9 D9) H locs := hw
  refine lv_aload_n hx hb zd_ModelReader_readChoice_70 rfl (lv_at hl 0 rfl) ?_
  refine z_get (v := .ref (ad 6)) hx hb hts hown hK hw zZ4 5 wX_g5 4 (by decide) zn_424 rfl zd_ModelReader_readChoice_71 ?_
  refine lv_iload hx hb zd_ModelReader_readChoice_74 (lv_at hl 4 rfl) ?_
  refine lv_iload_n hx hb zd_ModelReader_readChoice_76 rfl (lv_at hl 1 rfl) ?_
  refine lv_iload_n hx hb zd_ModelReader_readChoice_77 rfl (lv_at hl 2 rfl) ?_
  refine z_calli (w1 := fun (u : zS) => wX ad K sv u.1 u.2.1 u.2.2.1 u.2.2.2) (wr := []) (z_runV (q0 := 6) (wc := (wX ad K sv I9 J9 B9 D9)) (As := [.int x4, .int x1, .int x2]) (rest := []) ⟨hx, hb, hml, hown, hts⟩ (w_Tree_add l G K ad sv I9 J9 B9 D9 x4 x1 x2 _ H.size hok) zf_Tree_add zn_350 ⟨(by first | omega | (dsimp only; omega) | exact Nat.le_of_ble_eq_true rfl), (by first | omega | (dsimp only; omega) | exact Nat.le_of_ble_eq_true rfl)⟩ hK hw (List.range 65) wX_all wX_nd wX_g6 rfl rfl hl.1 rfl (by first | omega | (dsimp only; omega) | exact Nat.le_of_ble_eq_true rfl) zd_ModelReader_readChoice_78 ⟨(by first | omega | (dsimp only; omega) | exact Nat.le_of_ble_eq_true rfl), (by first | omega | (dsimp only; omega) | exact Nat.le_of_ble_eq_true rfl)⟩) hw hA (List.range 65) [] wX_all rfl (by decide) (fun i hi => by cases hi) (fun r10 u H locs hok hw => ?_)
  obtain ⟨I10, J10, B10, D10⟩ := u
  dsimp only at hok
  have hw : zW G A s.heap (wX ad K sv I10 J10 B10 D10) H locs := hw
  refine lv_istore hx hb zd_ModelReader_readChoice_81 hl (by decide) rfl (fun ls hl => ?_)
  have hl : lv_has ls 7 [(5, .int r10), (0, .ref (ad 5)), (1, .int x1), (2, .int x2), (3, .int x3), (4, .int x4)] := hl
  refine lv_iconst (v := 0) hx hb zd_ModelReader_readChoice_83 (by decide) ?_
  refine lv_istore hx hb zd_ModelReader_readChoice_84 hl (by decide) rfl (fun ls hl => ?_)
  have hl : lv_has ls 7 [(6, .int 0), (5, .int r10), (0, .ref (ad 5)), (1, .int x1), (2, .int x2), (3, .int x3), (4, .int x4)] := hl
  obtain ⟨n9, hok⟩ := hok
  exact wL_ModelReader_readChoice_R_86 G K ad sv P0 P1 P2 P3 a0 a1 a2 Post PX C n8 ihP n9 x3 r10 0 I10 J10 B10 D10 ls H locs hok (lv_sub hl [2, 5, 1, 0] rfl) hw
set_option maxHeartbeats 8000000 in
set_option maxRecDepth 100000 in
theorem wJ_ModelReader_readChoice_R_56 {p : Program} {l : Launch} {e : Env} {s : State} {m : MethodId} {below : List Frame} {meth : Method} {c : Code} {A : Nat → Prop} (G : va_G) (K : Nat → ClassId) (ad : Nat → Nat) (sv : Value) (P0 : zTgm0) (P1 : zTgm1) (P2 : zTgm2) (P3 : zTgm3) (a0 : Int32) (a1 : Int32) (a2 : Int32) (Post : Int32 → (Nat → Int32) → (Nat → Int64) → (Nat → Nat → Int32) → (Nat → Nat → Int64) → Prop) (PX : String → (Nat → Int32) → (Nat → Int64) → (Nat → Nat → Int32) → (Nat → Nat → Int64) → Prop) (C : zCy p l s m ([.ref (ad 5), .int a0, .int a1, .int a2] : List Value).toArray meth c A G K prog_5_method_9_code (some .int) 7 "LassoFinder$ModelReader") (n8 : Nat) (ihP : zIH_gm l G K ad sv n8 P0 P1 P2 P3) : ∀ (x1 : Int32) (x2 : Int32) (x3 : Int32) (x4 : Int32) (I : Nat → Int32) (J : Nat → Int64) (B : Nat → Nat → Int32) (D : Nat → Nat → Int64) (ls : Array Slot) (H : Heap) (locs : List Loc), wc_ModelReader_readChoice_R_56 P0 P1 P2 P3 a0 a1 a2 Post PX x1 x2 x3 x4 I J B D → lv_has ls 7 [(0, .ref (ad 5)), (1, .int x1), (2, .int x2), (3, .int x3), (4, .int x4)] → zW G A s.heap (wX ad K sv I J B D) H locs → W p l e { frames := n8 + 1 + 10, cells := 1, slots := 6, locals := (n8 + 1) * 26 + 169 } s m ([.ref (ad 5), .int a0, .int a1, .int a2] : List Value).toArray below meth c H locs 0 0 (zyMQ below (va_Qi (fun (r : Int32) (u : zS) => Post r u.1 u.2.1 u.2.2.1 u.2.2.2) (fun u t => zPost G K A (wX ad K sv u.1 u.2.1 u.2.2.1 u.2.2.2) t) A) (zYC (fun E (u : zS) => PX E u.1 u.2.1 u.2.2.1 u.2.2.2) (fun u => wX ad K sv u.1 u.2.1 u.2.2.1 u.2.2.2) G K A) ([.ref (ad 5), .int a0, .int a1, .int a2] : List Value).toArray s 1 6 A) (F0 m 56 ls []) := by
  obtain ⟨hx, hb, hr, hml, hts, hown, hlocks, hA, hK, hT, hnt, hlt⟩ := id C
  intro x1 x2 x3 x4 I J B D ls H locs hok hl hw
  unfold wc_ModelReader_readChoice_R_56 at hok
  refine lv_aload_n hx hb zd_ModelReader_readChoice_56 rfl (lv_at hl 0 rfl) ?_
  refine z_get (v := .ref (ad 1)) hx hb hts hown hK hw zZ4 5 wX_g5 0 (by decide) zn_422 rfl zd_ModelReader_readChoice_57 ?_
  refine z_yV (q0 := 1) (wc := (wX ad K sv I J B D)) (wr := []) (w1 := fun (u : zS) => wX ad K sv u.1 u.2.1 u.2.2.1 u.2.2.2) (As := []) (rest := []) ⟨hx, hb, hml, hown, hts⟩ (w_Text_refuse l hlt G K ad sv I J B D  _ _ H.size hok) zf_Text_refuse zn_336 ⟨(by first | omega | (dsimp only; omega) | exact Nat.le_of_ble_eq_true rfl), (by first | omega | (dsimp only; omega) | exact Nat.le_of_ble_eq_true rfl)⟩ hK hT hw hA (List.range 65) [] wX_all rfl wX_nd (by decide) (fun i hi => by cases hi) wX_g1 rfl rfl hl.1 rfl (by first | omega | (dsimp only; omega) | exact Nat.le_of_ble_eq_true rfl) zd_ModelReader_readChoice_60 ⟨(by first | omega | (dsimp only; omega) | exact Nat.le_of_ble_eq_true rfl), (by first | omega | (dsimp only; omega) | exact Nat.le_of_ble_eq_true rfl)⟩ (fun v st9 t9 L9 h0 hq hL => ?_) (fun E ce q9 u H locs hu hw hce hcv hcl => z_yout (u := u) hnt hlocks hce hcv hcl hw (List.range 65) wX_all wX_nd hu (by first | omega | (dsimp only; omega) | exact Nat.le_of_ble_eq_true rfl) (by first | omega | (dsimp only; omega) | exact Nat.le_of_ble_eq_true rfl))
  obtain ⟨⟨u, hv9, hok, hB9⟩, hF9⟩ := hq
  cases hv9
  have hw := z_back (wr := []) hw hA (List.range 65) [] wX_all rfl (by decide) (fun i hi => by cases hi) h0 hL hB9 hF9
  obtain ⟨I11, J11, B11, D11⟩ := u
  dsimp only at hok
  generalize t9.heap = H at hw ⊢
  generalize locs ++ L9 = locs at hw ⊢
  have hw : zW G A s.heap (wX ad K sv I11 J11 B11 D11) H locs := hw
  refine W.eq (g2 := F0 m 63 ls []) rfl ?_
  exact wJ_ModelReader_readChoice_R_63 G K ad sv P0 P1 P2 P3 a0 a1 a2 Post PX C n8 ihP x1 x2 x3 x4 I11 J11 B11 D11 ls H locs hok (lv_sub hl [0, 1, 2, 3, 4] rfl) hw
set_option maxHeartbeats 8000000 in
set_option maxRecDepth 100000 in
theorem wJ_ModelReader_readChoice_R_36 {p : Program} {l : Launch} {e : Env} {s : State} {m : MethodId} {below : List Frame} {meth : Method} {c : Code} {A : Nat → Prop} (G : va_G) (K : Nat → ClassId) (ad : Nat → Nat) (sv : Value) (P0 : zTgm0) (P1 : zTgm1) (P2 : zTgm2) (P3 : zTgm3) (a0 : Int32) (a1 : Int32) (a2 : Int32) (Post : Int32 → (Nat → Int32) → (Nat → Int64) → (Nat → Nat → Int32) → (Nat → Nat → Int64) → Prop) (PX : String → (Nat → Int32) → (Nat → Int64) → (Nat → Nat → Int32) → (Nat → Nat → Int64) → Prop) (C : zCy p l s m ([.ref (ad 5), .int a0, .int a1, .int a2] : List Value).toArray meth c A G K prog_5_method_9_code (some .int) 7 "LassoFinder$ModelReader") (n8 : Nat) (ihP : zIH_gm l G K ad sv n8 P0 P1 P2 P3) : ∀ (x1 : Int32) (x2 : Int32) (x3 : Int32) (y0 : Int32) (I : Nat → Int32) (J : Nat → Int64) (B : Nat → Nat → Int32) (D : Nat → Nat → Int64) (ls : Array Slot) (H : Heap) (locs : List Loc), wc_ModelReader_readChoice_R_36 P0 P1 P2 P3 a0 a1 a2 Post PX x1 x2 x3 y0 I J B D → lv_has ls 7 [(0, .ref (ad 5)), (1, .int x1), (2, .int x2), (3, .int x3)] → zW G A s.heap (wX ad K sv I J B D) H locs → W p l e { frames := n8 + 1 + 10, cells := 1, slots := 6, locals := (n8 + 1) * 26 + 169 } s m ([.ref (ad 5), .int a0, .int a1, .int a2] : List Value).toArray below meth c H locs 0 0 (zyMQ below (va_Qi (fun (r : Int32) (u : zS) => Post r u.1 u.2.1 u.2.2.1 u.2.2.2) (fun u t => zPost G K A (wX ad K sv u.1 u.2.1 u.2.2.1 u.2.2.2) t) A) (zYC (fun E (u : zS) => PX E u.1 u.2.1 u.2.2.1 u.2.2.2) (fun u => wX ad K sv u.1 u.2.1 u.2.2.1 u.2.2.2) G K A) ([.ref (ad 5), .int a0, .int a1, .int a2] : List Value).toArray s 1 6 A) (F0 m 36 ls [.int y0]) := by
  obtain ⟨hx, hb, hr, hml, hts, hown, hlocks, hA, hK, hT, hnt, hlt⟩ := id C
  intro x1 x2 x3 y0 I J B D ls H locs hok hl hw
  unfold wc_ModelReader_readChoice_R_36 at hok
  refine lv_istore hx hb zd_ModelReader_readChoice_36 hl (by decide) rfl (fun ls hl => ?_)
  have hl : lv_has ls 7 [(4, .int y0), (0, .ref (ad 5)), (1, .int x1), (2, .int x2), (3, .int x3)] := hl
  refine lv_aload_n hx hb zd_ModelReader_readChoice_38 rfl (lv_at hl 1 rfl) ?_
  refine z_get (v := .ref (ad 1)) hx hb hts hown hK hw zZ4 5 wX_g5 0 (by decide) zn_422 rfl zd_ModelReader_readChoice_39 ?_
  refine z_calli (w1 := fun (u : zS) => wX ad K sv u.1 u.2.1 u.2.2.1 u.2.2.2) (wr := []) (z_runV (q0 := 1) (wc := (wX ad K sv I J B D)) (As := []) (rest := []) ⟨hx, hb, hml, hown, hts⟩ (w_Text_ahead l G K ad sv I J B D  _ H.size hok) zf_Text_ahead zn_330 ⟨(by first | omega | (dsimp only; omega) | exact Nat.le_of_ble_eq_true rfl), (by first | omega | (dsimp only; omega) | exact Nat.le_of_ble_eq_true rfl)⟩ hK hw (List.range 65) wX_all wX_nd wX_g1 rfl rfl hl.1 rfl (by first | omega | (dsimp only; omega) | exact Nat.le_of_ble_eq_true rfl) zd_ModelReader_readChoice_42 ⟨(by first | omega | (dsimp only; omega) | exact Nat.le_of_ble_eq_true rfl), (by first | omega | (dsimp only; omega) | exact Nat.le_of_ble_eq_true rfl)⟩) hw hA (List.range 65) [] wX_all rfl (by decide) (fun i hi => by cases hi) (fun r12 u H locs hok hw => ?_)
  obtain ⟨I12, J12, B12, D12⟩ := u
  dsimp only at hok
  have hw : zW G A s.heap (wX ad K sv I12 J12 B12 D12) H locs := hw
  refine lv_bipush (v := 91) hx hb zd_ModelReader_readChoice_45 (by decide) ?_
  refine lv_icmp_ne (tgt := 56) hx hb zd_ModelReader_readChoice_47 (by decide) (fun hc13 => ?_) (fun hc13 => ?_)
  · have hok := hok.1 hc13
    exact wJ_ModelReader_readChoice_R_56 G K ad sv P0 P1 P2 P3 a0 a1 a2 Post PX C n8 ihP x1 x2 x3 y0 I12 J12 B12 D12 ls H locs hok (lv_sub hl [1, 2, 3, 4, 0] rfl) hw
  · have hok := hok.2 hc13
    refine lv_iload_n hx hb zd_ModelReader_readChoice_50 rfl (lv_at hl 4 rfl) ?_
    refine lv_bipush (v := 6) hx hb zd_ModelReader_readChoice_51 (by decide) ?_
    refine lv_icmp_ne (tgt := 63) hx hb zd_ModelReader_readChoice_53 (by decide) (fun hc14 => ?_) (fun hc14 => ?_)
    · have hok := hok.1 hc14
      exact wJ_ModelReader_readChoice_R_63 G K ad sv P0 P1 P2 P3 a0 a1 a2 Post PX C n8 ihP x1 x2 x3 y0 I12 J12 B12 D12 ls H locs hok (lv_sub hl [1, 2, 3, 4, 0] rfl) hw
    · have hok := hok.2 hc14
      exact wJ_ModelReader_readChoice_R_56 G K ad sv P0 P1 P2 P3 a0 a1 a2 Post PX C n8 ihP x1 x2 x3 y0 I12 J12 B12 D12 ls H locs hok (lv_sub hl [1, 2, 3, 4, 0] rfl) hw
set_option maxHeartbeats 8000000 in
set_option maxRecDepth 100000 in
theorem wJ_ModelReader_readChoice_R_19 {p : Program} {l : Launch} {e : Env} {s : State} {m : MethodId} {below : List Frame} {meth : Method} {c : Code} {A : Nat → Prop} (G : va_G) (K : Nat → ClassId) (ad : Nat → Nat) (sv : Value) (P0 : zTgm0) (P1 : zTgm1) (P2 : zTgm2) (P3 : zTgm3) (a0 : Int32) (a1 : Int32) (a2 : Int32) (Post : Int32 → (Nat → Int32) → (Nat → Int64) → (Nat → Nat → Int32) → (Nat → Nat → Int64) → Prop) (PX : String → (Nat → Int32) → (Nat → Int64) → (Nat → Nat → Int32) → (Nat → Nat → Int64) → Prop) (C : zCy p l s m ([.ref (ad 5), .int a0, .int a1, .int a2] : List Value).toArray meth c A G K prog_5_method_9_code (some .int) 7 "LassoFinder$ModelReader") (n8 : Nat) (ihP : zIH_gm l G K ad sv n8 P0 P1 P2 P3) : ∀ (x1 : Int32) (x2 : Int32) (x3 : Int32) (I : Nat → Int32) (J : Nat → Int64) (B : Nat → Nat → Int32) (D : Nat → Nat → Int64) (ls : Array Slot) (H : Heap) (locs : List Loc), wc_ModelReader_readChoice_R_19 P0 P1 P2 P3 a0 a1 a2 Post PX x1 x2 x3 I J B D → lv_has ls 7 [(0, .ref (ad 5)), (1, .int x1), (2, .int x2), (3, .int x3)] → zW G A s.heap (wX ad K sv I J B D) H locs → W p l e { frames := n8 + 1 + 10, cells := 1, slots := 6, locals := (n8 + 1) * 26 + 169 } s m ([.ref (ad 5), .int a0, .int a1, .int a2] : List Value).toArray below meth c H locs 0 0 (zyMQ below (va_Qi (fun (r : Int32) (u : zS) => Post r u.1 u.2.1 u.2.2.1 u.2.2.2) (fun u t => zPost G K A (wX ad K sv u.1 u.2.1 u.2.2.1 u.2.2.2) t) A) (zYC (fun E (u : zS) => PX E u.1 u.2.1 u.2.2.1 u.2.2.2) (fun u => wX ad K sv u.1 u.2.1 u.2.2.1 u.2.2.2) G K A) ([.ref (ad 5), .int a0, .int a1, .int a2] : List Value).toArray s 1 6 A) (F0 m 19 ls []) := by
  obtain ⟨hx, hb, hr, hml, hts, hown, hlocks, hA, hK, hT, hnt, hlt⟩ := id C
  intro x1 x2 x3 I J B D ls H locs hok hl hw
  unfold wc_ModelReader_readChoice_R_19 at hok
  refine lv_aload_n hx hb zd_ModelReader_readChoice_19 rfl (lv_at hl 0 rfl) ?_
  refine z_get (v := .ref (ad 1)) hx hb hts hown hK hw zZ4 5 wX_g5 0 (by decide) zn_422 rfl zd_ModelReader_readChoice_20 ?_
  refine lv_bipush (v := 42) hx hb zd_ModelReader_readChoice_23 (by decide) ?_
  refine z_calli (w1 := fun (u : zS) => wX ad K sv u.1 u.2.1 u.2.2.1 u.2.2.2) (wr := []) (z_runV (q0 := 1) (wc := (wX ad K sv I J B D)) (As := [.int 42]) (rest := []) ⟨hx, hb, hml, hown, hts⟩ (w_Text_accept l G K ad sv I J B D 42 _ H.size hok) zf_Text_accept zn_332 ⟨(by first | omega | (dsimp only; omega) | exact Nat.le_of_ble_eq_true rfl), (by first | omega | (dsimp only; omega) | exact Nat.le_of_ble_eq_true rfl)⟩ hK hw (List.range 65) wX_all wX_nd wX_g1 rfl rfl hl.1 rfl (by first | omega | (dsimp only; omega) | exact Nat.le_of_ble_eq_true rfl) zd_ModelReader_readChoice_25 ⟨(by first | omega | (dsimp only; omega) | exact Nat.le_of_ble_eq_true rfl), (by first | omega | (dsimp only; omega) | exact Nat.le_of_ble_eq_true rfl)⟩) hw hA (List.range 65) [] wX_all rfl (by decide) (fun i hi => by cases hi) (fun r15 u H locs hok hw => ?_)
  obtain ⟨I15, J15, B15, D15⟩ := u
  dsimp only at hok
  have hw : zW G A s.heap (wX ad K sv I15 J15 B15 D15) H locs := hw
  refine lv_if_eq (tgt := 35) hx hb zd_ModelReader_readChoice_28 (by decide) (fun hc16 => ?_) (fun hc16 => ?_)
  · have hok := hok.1 hc16
    refine lv_iconst (v := 1) hx hb zd_ModelReader_readChoice_35 (by decide) ?_
    exact wJ_ModelReader_readChoice_R_36 G K ad sv P0 P1 P2 P3 a0 a1 a2 Post PX C n8 ihP x1 x2 x3 1 I15 J15 B15 D15 ls H locs hok (lv_sub hl [0, 1, 2, 3] rfl) hw
  · have hok := hok.2 hc16
    refine lv_iconst (v := 2) hx hb zd_ModelReader_readChoice_31 (by decide) ?_
    refine lv_goto (tgt := 36) hx hb zd_ModelReader_readChoice_32 (by decide) ?_
    exact wJ_ModelReader_readChoice_R_36 G K ad sv P0 P1 P2 P3 a0 a1 a2 Post PX C n8 ihP x1 x2 x3 2 I15 J15 B15 D15 ls H locs hok (lv_sub hl [0, 1, 2, 3] rfl) hw
set_option maxHeartbeats 8000000 in
set_option maxRecDepth 100000 in
theorem w_ModelReader_readChoice_R (l : Launch) (hlt : l.stackTraces = false) (G : va_G) (K : Nat → ClassId) (ad : Nat → Nat) (sv : Value) (I : Nat → Int32) (J : Nat → Int64) (B : Nat → Nat → Int32) (D : Nat → Nat → Int64) (P0 : zTgm0) (P1 : zTgm1) (P2 : zTgm2) (P3 : zTgm3) (a0 : Int32) (a1 : Int32) (a2 : Int32) (Post : Int32 → (Nat → Int32) → (Nat → Int64) → (Nat → Nat → Int32) → (Nat → Nat → Int64) → Prop) (PX : String → (Nat → Int32) → (Nat → Int64) → (Nat → Nat → Int32) → (Nat → Nat → Int64) → Prop) (sz : Nat) (hok : wp_ModelReader_readChoice_R I J B D P0 P1 P2 P3 a0 a1 a2 Post PX) (n8 : Nat) (ihP : zIH_gm l G K ad sv n8 P0 P1 P2 P3) : zyMet l zy_ModelReader_readChoice (Cond.code zy_ModelReader_readChoice prog_5_method_9_code 7 (some .int) :: zTB) { frames := n8 + 1 + 10, cells := 1, slots := 6, locals := (n8 + 1) * 26 + 169 } (va_Pc [.ref (ad 5), .int a0, .int a1, .int a2] (zPreY G K (wX ad K sv I J B D) sz)) (va_Qi (fun (r : Int32) (u : zS) => Post r u.1 u.2.1 u.2.2.1 u.2.2.2) (fun u t => zPost G K (va_A (wX ad K sv I J B D) sz) (wX ad K sv u.1 u.2.1 u.2.2.1 u.2.2.2) t) (va_A (wX ad K sv I J B D) sz)) (zYC (fun E (u : zS) => PX E u.1 u.2.1 u.2.2.1 u.2.2.2) (fun u => wX ad K sv u.1 u.2.1 u.2.2.1 u.2.2.2) G K (va_A (wX ad K sv I J B D) sz)) 1 6 (va_A (wX ad K sv I J B D) sz) := by
  refine zMetY (y := zy_ModelReader_readChoice) (av := [.ref (ad 5), .int a0, .int a1, .int a2]) (maxL := 7) (cc := prog_5_method_9_code) (ret := (some .int)) (W0 := (wX ad K sv I J B D)) (sz := sz) (G := G) (K := K) (wt := zTB) (mc := 1) (ms := 6) (Qf := fun A => va_Qi (fun (r : Int32) (u : zS) => Post r u.1 u.2.1 u.2.2.1 u.2.2.2) (fun u t => zPost G K A (wX ad K sv u.1 u.2.1 u.2.2.1 u.2.2.2) t) A) (Xf := fun A => (zYC (fun E (u : zS) => PX E u.1 u.2.1 u.2.2.1 u.2.2.2) (fun u => wX ad K sv u.1 u.2.1 u.2.2.1 u.2.2.2) G K A)) (by decide) (by first | omega | (dsimp only; omega) | exact Nat.le_of_ble_eq_true rfl) ?_
  intro p e s m below meth c ls A hx hb hr hml hts hown hlocks hin hA hK H locs hw hsz hl hT hnt
  clear hsz
  have hown : s.vm.findClass "LassoFinder$ModelReader" = some m.cls := hown
  have C : zCy p l s m ([.ref (ad 5), .int a0, .int a1, .int a2] : List Value).toArray meth c A G K prog_5_method_9_code (some .int) 7 "LassoFinder$ModelReader" := ⟨hx, hb, hr, hml, hts, hown, hlocks, hA, hK, hT, hnt, hlt⟩
  have hl : lv_has ls 7 [(0, .ref (ad 5)), (1, .int a0), (2, .int a1), (3, .int a2)] := hl
  have hw : zW G A s.heap (wX ad K sv I J B D) H locs := hw
  unfold wp_ModelReader_readChoice_R at hok
  refine lv_aload_n hx hb zd_ModelReader_readChoice_0 rfl (lv_at hl 0 rfl) ?_
  refine z_get (v := .ref (ad 6)) hx hb hts hown hK hw zZ4 5 wX_g5 4 (by decide) zn_424 rfl zd_ModelReader_readChoice_1 ?_
  refine z_get (v := .int (I 17)) hx hb hts hown hK hw zZ10 6 wX_g6 12 (by decide) zn_432 rfl zd_ModelReader_readChoice_4 ?_
  refine lv_bipush (v := 30) hx hb zd_ModelReader_readChoice_7 (by decide) ?_
  refine lv_icmp_ne (tgt := 19) hx hb zd_ModelReader_readChoice_9 (by decide) (fun hc17 => ?_) (fun hc17 => ?_)
  · have hok := hok.1 hc17
    exact wJ_ModelReader_readChoice_R_19 G K ad sv P0 P1 P2 P3 a0 a1 a2 Post PX C n8 ihP a0 a1 a2 I J B D ls H locs hok (lv_sub hl [0, 1, 2, 3] rfl) hw
  · have hok := hok.2 hc17
    refine lv_aload_n hx hb zd_ModelReader_readChoice_12 rfl (lv_at hl 0 rfl) ?_
    refine z_get (v := .ref (ad 1)) hx hb hts hown hK hw zZ4 5 wX_g5 0 (by decide) zn_422 rfl zd_ModelReader_readChoice_13 ?_
    refine z_yV (q0 := 1) (wc := (wX ad K sv I J B D)) (wr := []) (w1 := fun (u : zS) => wX ad K sv u.1 u.2.1 u.2.2.1 u.2.2.2) (As := []) (rest := []) ⟨hx, hb, hml, hown, hts⟩ (w_Text_refuse l hlt G K ad sv I J B D  _ _ H.size hok) zf_Text_refuse zn_336 ⟨(by first | omega | (dsimp only; omega) | exact Nat.le_of_ble_eq_true rfl), (by first | omega | (dsimp only; omega) | exact Nat.le_of_ble_eq_true rfl)⟩ hK hT hw hA (List.range 65) [] wX_all rfl wX_nd (by decide) (fun i hi => by cases hi) wX_g1 rfl rfl hl.1 rfl (by first | omega | (dsimp only; omega) | exact Nat.le_of_ble_eq_true rfl) zd_ModelReader_readChoice_16 ⟨(by first | omega | (dsimp only; omega) | exact Nat.le_of_ble_eq_true rfl), (by first | omega | (dsimp only; omega) | exact Nat.le_of_ble_eq_true rfl)⟩ (fun v st9 t9 L9 h0 hq hL => ?_) (fun E ce q9 u H locs hu hw hce hcv hcl => z_yout (u := u) hnt hlocks hce hcv hcl hw (List.range 65) wX_all wX_nd hu (by first | omega | (dsimp only; omega) | exact Nat.le_of_ble_eq_true rfl) (by first | omega | (dsimp only; omega) | exact Nat.le_of_ble_eq_true rfl))
    obtain ⟨⟨u, hv9, hok, hB9⟩, hF9⟩ := hq
    cases hv9
    have hw := z_back (wr := []) hw hA (List.range 65) [] wX_all rfl (by decide) (fun i hi => by cases hi) h0 hL hB9 hF9
    obtain ⟨I18, J18, B18, D18⟩ := u
    dsimp only at hok
    generalize t9.heap = H at hw ⊢
    generalize locs ++ L9 = locs at hw ⊢
    have hw : zW G A s.heap (wX ad K sv I18 J18 B18 D18) H locs := hw
    refine W.eq (g2 := F0 m 19 ls []) rfl ?_
    exact wJ_ModelReader_readChoice_R_19 G K ad sv P0 P1 P2 P3 a0 a1 a2 Post PX C n8 ihP a0 a1 a2 I18 J18 B18 D18 ls H locs hok (lv_sub hl [0, 1, 2, 3] rfl) hw
