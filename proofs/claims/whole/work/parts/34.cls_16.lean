abbrev zy_ModelReader_readAll : MethodName := ⟨"LassoFinder$ModelReader", "readAll", "()V"⟩
abbrev zy_Formula_readFrom : MethodName := ⟨"LassoFinder$Formula", "readFrom", "(II)I"⟩
abbrev zy_Formula_readUnit : MethodName := ⟨"LassoFinder$Formula", "readUnit", "(I)I"⟩
abbrev zy_Formula_readBracketed : MethodName := ⟨"LassoFinder$Formula", "readBracketed", "(I)I"⟩
abbrev zy_Formula_readSecond : MethodName := ⟨"LassoFinder$Formula", "readSecond", "(III)I"⟩
theorem zn_324 : Cond.methodLink "LassoFinder$ModelReader" 34 ⟨"LassoFinder$Names", "clear", "()V"⟩ ∈ zTB := z_in (zt_3 _ (List.mem_of_getElem? (i := 103) rfl)) rfl
theorem zn_326 : Cond.methodLink "LassoFinder$ModelReader" 39 ⟨"LassoFinder$Terms", "clear", "()V"⟩ ∈ zTB := z_in (zt_3 _ (List.mem_of_getElem? (i := 110) rfl)) rfl
theorem zn_327 : Cond.methodLink "LassoFinder$ModelReader" 42 ⟨"LassoFinder$Program", "clear", "()V"⟩ ∈ zTB := z_in (zt_3 _ (List.mem_of_getElem? (i := 114) rfl)) rfl
theorem zn_331 : Cond.methodLink "LassoFinder$ModelReader" 51 ⟨"LassoFinder$ModelReader", "readDeclaration", "()V"⟩ ∈ zTB := z_in (zt_3 _ (List.mem_of_getElem? (i := 126) rfl)) rfl
theorem zn_343 : Cond.methodLink "LassoFinder$ModelReader" 54 ⟨"LassoFinder$Text", "ended", "()Z"⟩ ∈ zTB := z_in (zt_3 _ (List.mem_of_getElem? (i := 225) rfl)) rfl
theorem zn_344 : Cond.methodLink "LassoFinder$ModelReader" 68 ⟨"LassoFinder$Tree", "clear", "()V"⟩ ∈ zTB := z_in (zt_3 _ (List.mem_of_getElem? (i := 229) rfl)) rfl
theorem zn_354 : Cond.methodLink "LassoFinder$ModelReader" 169 ⟨"LassoFinder$Tree", "atomicInside", "(I)I"⟩ ∈ zTB := z_in (zt_4 _ (List.mem_of_getElem? (i := 26) rfl)) rfl
theorem zn_376 : Cond.methodLink "LassoFinder$ModelReader" 73 ⟨"LassoFinder$ModelReader", "endProcess", "()V"⟩ ∈ zTB := z_in (zt_4 _ (List.mem_of_getElem? (i := 96) rfl)) rfl
theorem zn_423 : Cond.fieldLink "LassoFinder$ModelReader" 58 "LassoFinder$Program" "processes" "I" ∈ zTB := z_in (zt_1 _ (List.mem_of_getElem? (i := 124) rfl)) rfl
theorem zn_487 : Cond.methodLink "LassoFinder$Formula" 70 ⟨"LassoFinder$Formula", "readUnit", "(I)I"⟩ ∈ zTB := z_in (zt_5 _ (List.mem_of_getElem? (i := 32) rfl)) rfl
theorem zn_500 : Cond.methodLink "LassoFinder$Formula" 78 ⟨"LassoFinder$Formula", "joining", "(C)I"⟩ ∈ zTB := z_in (zt_5 _ (List.mem_of_getElem? (i := 66) rfl)) rfl
theorem zn_501 : Cond.methodLink "LassoFinder$Formula" 82 ⟨"LassoFinder$Formula", "strengthOf", "(I)I"⟩ ∈ zTB := z_in (zt_5 _ (List.mem_of_getElem? (i := 69) rfl)) rfl
theorem zn_502 : Cond.methodLink "LassoFinder$Formula" 85 ⟨"LassoFinder$Formula", "readSecond", "(III)I"⟩ ∈ zTB := z_in (zt_5 _ (List.mem_of_getElem? (i := 72) rfl)) rfl
theorem zn_766 : Cond.code ⟨"LassoFinder$Tree", "clear", "()V"⟩ prog_11_method_2_code 1 none ∈ zTB := z_in (zt_3 _ (List.mem_of_getElem? (i := 232) rfl)) rfl
theorem zn_767 : Cond.selects "LassoFinder$Tree" ⟨"LassoFinder$Tree", "clear", "()V"⟩ ⟨"LassoFinder$Tree", "clear", "()V"⟩ ∈ zTB := z_in (zt_3 _ (List.mem_of_getElem? (i := 231) rfl)) rfl
theorem zn_768 : Cond.instanceMethod ⟨"LassoFinder$Tree", "clear", "()V"⟩ ∈ zTB := z_in (zt_3 _ (List.mem_of_getElem? (i := 230) rfl)) rfl
theorem zn_769 : Cond.code ⟨"LassoFinder$Terms", "clear", "()V"⟩ prog_9_method_2_code 1 none ∈ zTB := z_in (zt_3 _ (List.mem_of_getElem? (i := 113) rfl)) rfl
theorem zn_770 : Cond.selects "LassoFinder$Terms" ⟨"LassoFinder$Terms", "clear", "()V"⟩ ⟨"LassoFinder$Terms", "clear", "()V"⟩ ∈ zTB := z_in (zt_3 _ (List.mem_of_getElem? (i := 112) rfl)) rfl
theorem zn_771 : Cond.instanceMethod ⟨"LassoFinder$Terms", "clear", "()V"⟩ ∈ zTB := z_in (zt_3 _ (List.mem_of_getElem? (i := 111) rfl)) rfl
theorem zn_772 : Cond.code ⟨"LassoFinder$Formula", "joining", "(C)I"⟩ prog_2_method_5_code 1 (some .int) ∈ zTB := z_in (zt_5 _ (List.mem_of_getElem? (i := 68) rfl)) rfl
theorem zn_773 : Cond.static ⟨"LassoFinder$Formula", "joining", "(C)I"⟩ ∈ zTB := z_in (zt_5 _ (List.mem_of_getElem? (i := 67) rfl)) rfl
theorem zn_774 : Cond.code ⟨"LassoFinder$Formula", "strengthOf", "(I)I"⟩ prog_2_method_6_code 1 (some .int) ∈ zTB := z_in (zt_5 _ (List.mem_of_getElem? (i := 71) rfl)) rfl
theorem zn_775 : Cond.static ⟨"LassoFinder$Formula", "strengthOf", "(I)I"⟩ ∈ zTB := z_in (zt_5 _ (List.mem_of_getElem? (i := 70) rfl)) rfl
theorem zn_776 : Cond.code ⟨"LassoFinder$ModelReader", "endProcess", "()V"⟩ prog_5_method_4_code 1 none ∈ zTB := z_in (zt_4 _ (List.mem_of_getElem? (i := 99) rfl)) rfl
theorem zn_777 : Cond.instanceMethod ⟨"LassoFinder$ModelReader", "endProcess", "()V"⟩ ∈ zTB := z_in (zt_4 _ (List.mem_of_getElem? (i := 98) rfl)) rfl
theorem zn_778 : Cond.code ⟨"LassoFinder$Text", "ended", "()Z"⟩ prog_10_method_4_code 1 (some .boolean) ∈ zTB := z_in (zt_3 _ (List.mem_of_getElem? (i := 228) rfl)) rfl
theorem zn_779 : Cond.selects "LassoFinder$Text" ⟨"LassoFinder$Text", "ended", "()Z"⟩ ⟨"LassoFinder$Text", "ended", "()Z"⟩ ∈ zTB := z_in (zt_3 _ (List.mem_of_getElem? (i := 227) rfl)) rfl
theorem zn_780 : Cond.instanceMethod ⟨"LassoFinder$Text", "ended", "()Z"⟩ ∈ zTB := z_in (zt_3 _ (List.mem_of_getElem? (i := 226) rfl)) rfl
theorem zn_781 : Cond.code ⟨"LassoFinder$ModelReader", "readDeclaration", "()V"⟩ prog_5_method_3_code 5 none ∈ zTB := z_in (zt_3 _ (List.mem_of_getElem? (i := 129) rfl)) rfl
theorem zn_782 : Cond.instanceMethod ⟨"LassoFinder$ModelReader", "readDeclaration", "()V"⟩ ∈ zTB := z_in (zt_3 _ (List.mem_of_getElem? (i := 128) rfl)) rfl
theorem zn_783 : Cond.code ⟨"LassoFinder$Names", "clear", "()V"⟩ prog_6_method_2_code 1 none ∈ zTB := z_in (zt_3 _ (List.mem_of_getElem? (i := 106) rfl)) rfl
theorem zn_784 : Cond.selects "LassoFinder$Names" ⟨"LassoFinder$Names", "clear", "()V"⟩ ⟨"LassoFinder$Names", "clear", "()V"⟩ ∈ zTB := z_in (zt_3 _ (List.mem_of_getElem? (i := 105) rfl)) rfl
theorem zn_785 : Cond.instanceMethod ⟨"LassoFinder$Names", "clear", "()V"⟩ ∈ zTB := z_in (zt_3 _ (List.mem_of_getElem? (i := 104) rfl)) rfl
theorem zn_786 : Cond.code ⟨"LassoFinder$Program", "clear", "()V"⟩ prog_7_method_2_code 1 none ∈ zTB := z_in (zt_3 _ (List.mem_of_getElem? (i := 117) rfl)) rfl
theorem zn_787 : Cond.selects "LassoFinder$Program" ⟨"LassoFinder$Program", "clear", "()V"⟩ ⟨"LassoFinder$Program", "clear", "()V"⟩ ∈ zTB := z_in (zt_3 _ (List.mem_of_getElem? (i := 116) rfl)) rfl
theorem zn_788 : Cond.instanceMethod ⟨"LassoFinder$Program", "clear", "()V"⟩ ∈ zTB := z_in (zt_3 _ (List.mem_of_getElem? (i := 115) rfl)) rfl
theorem zn_789 : Cond.code ⟨"LassoFinder$Formula", "readSecond", "(III)I"⟩ prog_2_method_4_code 4 (some .int) ∈ zTB := z_in (zt_5 _ (List.mem_of_getElem? (i := 75) rfl)) rfl
theorem zn_790 : Cond.instanceMethod ⟨"LassoFinder$Formula", "readSecond", "(III)I"⟩ ∈ zTB := z_in (zt_5 _ (List.mem_of_getElem? (i := 74) rfl)) rfl
theorem zn_791 : Cond.code ⟨"LassoFinder$Formula", "readUnit", "(I)I"⟩ prog_2_method_7_code 2 (some .int) ∈ zTB := z_in (zt_5 _ (List.mem_of_getElem? (i := 35) rfl)) rfl
theorem zn_792 : Cond.instanceMethod ⟨"LassoFinder$Formula", "readUnit", "(I)I"⟩ ∈ zTB := z_in (zt_5 _ (List.mem_of_getElem? (i := 34) rfl)) rfl
theorem zf_Tree_clear : zFaceV zy_Tree_clear prog_11_method_2_code 1 none 0 := ⟨zn_768, zn_767, zm_21, zn_766, by decide +kernel, by decide +kernel, by decide +kernel⟩
theorem zf_Terms_clear : zFaceV zy_Terms_clear prog_9_method_2_code 1 none 0 := ⟨zn_771, zn_770, zm_17, zn_769, by decide +kernel, by decide +kernel, by decide +kernel⟩
theorem zf_Formula_joining : zFaceS zy_Formula_joining prog_2_method_5_code 1 (some .int) 1 := ⟨zn_773, zm_3, zn_772, by decide +kernel, by decide +kernel, by decide +kernel⟩
theorem zf_Formula_strengthOf : zFaceS zy_Formula_strengthOf prog_2_method_6_code 1 (some .int) 1 := ⟨zn_775, zm_3, zn_774, by decide +kernel, by decide +kernel, by decide +kernel⟩
theorem zf_ModelReader_endProcess : zFaceV zy_ModelReader_endProcess prog_5_method_4_code 1 none 0 := ⟨zn_777, (z_in (zp_2 _ (List.mem_of_getElem? (i := 5) rfl)) rfl), zm_9, zn_776, by decide +kernel, by decide +kernel, by decide +kernel⟩
theorem zf_Text_ended : zFaceV zy_Text_ended prog_10_method_4_code 1 (some .boolean) 0 := ⟨zn_780, zn_779, zm_19, zn_778, by decide +kernel, by decide +kernel, by decide +kernel⟩
theorem zf_ModelReader_readDeclaration : zFaceV zy_ModelReader_readDeclaration prog_5_method_3_code 5 none 0 := ⟨zn_782, (z_in (zp_1 _ (List.mem_of_getElem? (i := 3) rfl)) rfl), zm_9, zn_781, by decide +kernel, by decide +kernel, by decide +kernel⟩
theorem zf_Names_clear : zFaceV zy_Names_clear prog_6_method_2_code 1 none 0 := ⟨zn_785, zn_784, zm_11, zn_783, by decide +kernel, by decide +kernel, by decide +kernel⟩
theorem zf_Program_clear : zFaceV zy_Program_clear prog_7_method_2_code 1 none 0 := ⟨zn_788, zn_787, zm_13, zn_786, by decide +kernel, by decide +kernel, by decide +kernel⟩
theorem zf_Formula_readSecond : zFaceV zy_Formula_readSecond prog_2_method_4_code 4 (some .int) 3 := ⟨zn_790, (z_in (zp_3 _ (List.mem_of_getElem? (i := 13) rfl)) rfl), zm_3, zn_789, by decide +kernel, by decide +kernel, by decide +kernel⟩
theorem zf_Formula_readUnit : zFaceV zy_Formula_readUnit prog_2_method_7_code 2 (some .int) 1 := ⟨zn_792, (z_in (zp_3 _ (List.mem_of_getElem? (i := 6) rfl)) rfl), zm_3, zn_791, by decide +kernel, by decide +kernel, by decide +kernel⟩
theorem zd_Formula_readFrom_0 : decode prog_2_method_3_code 0 = .ok (.aload_n 0, 1) := by decide +kernel
theorem zd_Formula_readFrom_1 : decode prog_2_method_3_code 1 = .ok (.iload_n 2, 1) := by decide +kernel
theorem zd_Formula_readFrom_2 : decode prog_2_method_3_code 2 = .ok (.invokevirtual 70, 3) := by decide +kernel
theorem zd_Formula_readFrom_5 : decode prog_2_method_3_code 5 = .ok (.istore_n 3, 1) := by decide +kernel
theorem zd_Formula_readFrom_6 : decode prog_2_method_3_code 6 = .ok (.iconst 0, 1) := by decide +kernel
theorem zd_Formula_readFrom_7 : decode prog_2_method_3_code 7 = .ok (.istore 4, 2) := by decide +kernel
theorem zd_Formula_readFrom_9 : decode prog_2_method_3_code 9 = .ok (.iload 4, 2) := by decide +kernel
theorem zd_Formula_readFrom_11 : decode prog_2_method_3_code 11 = .ok (.sipush 240, 3) := by decide +kernel
theorem zd_Formula_readFrom_14 : decode prog_2_method_3_code 14 = .ok (.if_icmp .ge 47, 3) := by decide +kernel
theorem zd_Formula_readFrom_17 : decode prog_2_method_3_code 17 = .ok (.aload_n 0, 1) := by decide +kernel
theorem zd_Formula_readFrom_18 : decode prog_2_method_3_code 18 = .ok (.getfield 9, 3) := by decide +kernel
theorem zd_Formula_readFrom_21 : decode prog_2_method_3_code 21 = .ok (.invokevirtual 74, 3) := by decide +kernel
theorem zd_Formula_readFrom_24 : decode prog_2_method_3_code 24 = .ok (.invokestatic 78, 3) := by decide +kernel
theorem zd_Formula_readFrom_27 : decode prog_2_method_3_code 27 = .ok (.istore 5, 2) := by decide +kernel
theorem zd_Formula_readFrom_29 : decode prog_2_method_3_code 29 = .ok (.iload 5, 2) := by decide +kernel
theorem zd_Formula_readFrom_31 : decode prog_2_method_3_code 31 = .ok (.iconst (-1), 1) := by decide +kernel
theorem zd_Formula_readFrom_32 : decode prog_2_method_3_code 32 = .ok (.if_icmp .eq 12, 3) := by decide +kernel
theorem zd_Formula_readFrom_35 : decode prog_2_method_3_code 35 = .ok (.iload 5, 2) := by decide +kernel
theorem zd_Formula_readFrom_37 : decode prog_2_method_3_code 37 = .ok (.invokestatic 82, 3) := by decide +kernel
theorem zd_Formula_readFrom_40 : decode prog_2_method_3_code 40 = .ok (.iload_n 1, 1) := by decide +kernel
theorem zd_Formula_readFrom_41 : decode prog_2_method_3_code 41 = .ok (.if_icmp .ge 5, 3) := by decide +kernel
theorem zd_Formula_readFrom_44 : decode prog_2_method_3_code 44 = .ok (.iload_n 3, 1) := by decide +kernel
theorem zd_Formula_readFrom_45 : decode prog_2_method_3_code 45 = .ok (.ireturn, 1) := by decide +kernel
theorem zd_Formula_readFrom_46 : decode prog_2_method_3_code 46 = .ok (.aload_n 0, 1) := by decide +kernel
theorem zd_Formula_readFrom_47 : decode prog_2_method_3_code 47 = .ok (.iload 5, 2) := by decide +kernel
theorem zd_Formula_readFrom_49 : decode prog_2_method_3_code 49 = .ok (.iload_n 3, 1) := by decide +kernel
theorem zd_Formula_readFrom_50 : decode prog_2_method_3_code 50 = .ok (.iload_n 2, 1) := by decide +kernel
theorem zd_Formula_readFrom_51 : decode prog_2_method_3_code 51 = .ok (.invokevirtual 85, 3) := by decide +kernel
theorem zd_Formula_readFrom_54 : decode prog_2_method_3_code 54 = .ok (.istore_n 3, 1) := by decide +kernel
theorem zd_Formula_readFrom_55 : decode prog_2_method_3_code 55 = .ok (.iinc 4 1, 3) := by decide +kernel
theorem zd_Formula_readFrom_58 : decode prog_2_method_3_code 58 = .ok (.goto (-49), 3) := by decide +kernel
theorem zd_Formula_readFrom_61 : decode prog_2_method_3_code 61 = .ok (.iload_n 3, 1) := by decide +kernel
theorem zd_Formula_readFrom_62 : decode prog_2_method_3_code 62 = .ok (.ireturn, 1) := by decide +kernel
theorem zd_ModelReader_readAll_0 : decode prog_5_method_2_code 0 = .ok (.aload_n 0, 1) := by decide +kernel
theorem zd_ModelReader_readAll_1 : decode prog_5_method_2_code 1 = .ok (.getfield 15, 3) := by decide +kernel
theorem zd_ModelReader_readAll_4 : decode prog_5_method_2_code 4 = .ok (.invokevirtual 34, 3) := by decide +kernel
theorem zd_ModelReader_readAll_7 : decode prog_5_method_2_code 7 = .ok (.aload_n 0, 1) := by decide +kernel
theorem zd_ModelReader_readAll_8 : decode prog_5_method_2_code 8 = .ok (.getfield 19, 3) := by decide +kernel
theorem zd_ModelReader_readAll_11 : decode prog_5_method_2_code 11 = .ok (.invokevirtual 39, 3) := by decide +kernel
theorem zd_ModelReader_readAll_14 : decode prog_5_method_2_code 14 = .ok (.aload_n 0, 1) := by decide +kernel
theorem zd_ModelReader_readAll_15 : decode prog_5_method_2_code 15 = .ok (.getfield 23, 3) := by decide +kernel
theorem zd_ModelReader_readAll_18 : decode prog_5_method_2_code 18 = .ok (.invokevirtual 42, 3) := by decide +kernel
theorem zd_ModelReader_readAll_21 : decode prog_5_method_2_code 21 = .ok (.iconst 0, 1) := by decide +kernel
theorem zd_ModelReader_readAll_22 : decode prog_5_method_2_code 22 = .ok (.istore_n 1, 1) := by decide +kernel
theorem zd_ModelReader_readAll_23 : decode prog_5_method_2_code 23 = .ok (.iload_n 1, 1) := by decide +kernel
theorem zd_ModelReader_readAll_24 : decode prog_5_method_2_code 24 = .ok (.sipush 240, 3) := by decide +kernel
theorem zd_ModelReader_readAll_27 : decode prog_5_method_2_code 27 = .ok (.if_icmp .ge 25, 3) := by decide +kernel
theorem zd_ModelReader_readAll_30 : decode prog_5_method_2_code 30 = .ok (.aload_n 0, 1) := by decide +kernel
theorem zd_ModelReader_readAll_31 : decode prog_5_method_2_code 31 = .ok (.getfield 9, 3) := by decide +kernel
theorem zd_ModelReader_readAll_34 : decode prog_5_method_2_code 34 = .ok (.invokevirtual 47, 3) := by decide +kernel
theorem zd_ModelReader_readAll_37 : decode prog_5_method_2_code 37 = .ok (.bipush 123, 2) := by decide +kernel
theorem zd_ModelReader_readAll_39 : decode prog_5_method_2_code 39 = .ok (.if_icmp .eq 13, 3) := by decide +kernel
theorem zd_ModelReader_readAll_42 : decode prog_5_method_2_code 42 = .ok (.aload_n 0, 1) := by decide +kernel
theorem zd_ModelReader_readAll_43 : decode prog_5_method_2_code 43 = .ok (.invokevirtual 51, 3) := by decide +kernel
theorem zd_ModelReader_readAll_46 : decode prog_5_method_2_code 46 = .ok (.iinc 1 1, 3) := by decide +kernel
theorem zd_ModelReader_readAll_49 : decode prog_5_method_2_code 49 = .ok (.goto (-26), 3) := by decide +kernel
theorem zd_ModelReader_readAll_52 : decode prog_5_method_2_code 52 = .ok (.iconst 0, 1) := by decide +kernel
theorem zd_ModelReader_readAll_53 : decode prog_5_method_2_code 53 = .ok (.istore_n 1, 1) := by decide +kernel
theorem zd_ModelReader_readAll_54 : decode prog_5_method_2_code 54 = .ok (.iload_n 1, 1) := by decide +kernel
theorem zd_ModelReader_readAll_55 : decode prog_5_method_2_code 55 = .ok (.sipush 240, 3) := by decide +kernel
theorem zd_ModelReader_readAll_58 : decode prog_5_method_2_code 58 = .ok (.if_icmp .ge 77, 3) := by decide +kernel
theorem zd_ModelReader_readAll_61 : decode prog_5_method_2_code 61 = .ok (.iload_n 1, 1) := by decide +kernel
theorem zd_ModelReader_readAll_62 : decode prog_5_method_2_code 62 = .ok (.ifCond .eq 13, 3) := by decide +kernel
theorem zd_ModelReader_readAll_65 : decode prog_5_method_2_code 65 = .ok (.aload_n 0, 1) := by decide +kernel
theorem zd_ModelReader_readAll_66 : decode prog_5_method_2_code 66 = .ok (.getfield 9, 3) := by decide +kernel
theorem zd_ModelReader_readAll_69 : decode prog_5_method_2_code 69 = .ok (.invokevirtual 54, 3) := by decide +kernel
theorem zd_ModelReader_readAll_72 : decode prog_5_method_2_code 72 = .ok (.ifCond .ne 63, 3) := by decide +kernel
theorem zd_ModelReader_readAll_75 : decode prog_5_method_2_code 75 = .ok (.aload_n 0, 1) := by decide +kernel
theorem zd_ModelReader_readAll_76 : decode prog_5_method_2_code 76 = .ok (.getfield 9, 3) := by decide +kernel
theorem zd_ModelReader_readAll_79 : decode prog_5_method_2_code 79 = .ok (.invokevirtual 47, 3) := by decide +kernel
theorem zd_ModelReader_readAll_82 : decode prog_5_method_2_code 82 = .ok (.bipush 123, 2) := by decide +kernel
theorem zd_ModelReader_readAll_84 : decode prog_5_method_2_code 84 = .ok (.if_icmp .ne 14, 3) := by decide +kernel
theorem zd_ModelReader_readAll_87 : decode prog_5_method_2_code 87 = .ok (.aload_n 0, 1) := by decide +kernel
theorem zd_ModelReader_readAll_88 : decode prog_5_method_2_code 88 = .ok (.getfield 23, 3) := by decide +kernel
theorem zd_ModelReader_readAll_91 : decode prog_5_method_2_code 91 = .ok (.getfield 58, 3) := by decide +kernel
theorem zd_ModelReader_readAll_94 : decode prog_5_method_2_code 94 = .ok (.iconst 4, 1) := by decide +kernel
theorem zd_ModelReader_readAll_95 : decode prog_5_method_2_code 95 = .ok (.if_icmp .ne 10, 3) := by decide +kernel
theorem zd_ModelReader_readAll_98 : decode prog_5_method_2_code 98 = .ok (.aload_n 0, 1) := by decide +kernel
theorem zd_ModelReader_readAll_99 : decode prog_5_method_2_code 99 = .ok (.getfield 9, 3) := by decide +kernel
theorem zd_ModelReader_readAll_102 : decode prog_5_method_2_code 102 = .ok (.invokevirtual 62, 3) := by decide +kernel
theorem zd_ModelReader_readAll_105 : decode prog_5_method_2_code 105 = .ok (.aload_n 0, 1) := by decide +kernel
theorem zd_ModelReader_readAll_106 : decode prog_5_method_2_code 106 = .ok (.getfield 9, 3) := by decide +kernel
theorem zd_ModelReader_readAll_109 : decode prog_5_method_2_code 109 = .ok (.invokevirtual 65, 3) := by decide +kernel
theorem zd_ModelReader_readAll_112 : decode prog_5_method_2_code 112 = .ok (.aload_n 0, 1) := by decide +kernel
theorem zd_ModelReader_readAll_113 : decode prog_5_method_2_code 113 = .ok (.getfield 30, 3) := by decide +kernel
theorem zd_ModelReader_readAll_116 : decode prog_5_method_2_code 116 = .ok (.invokevirtual 68, 3) := by decide +kernel
theorem zd_ModelReader_readAll_119 : decode prog_5_method_2_code 119 = .ok (.aload_n 0, 1) := by decide +kernel
theorem zd_ModelReader_readAll_120 : decode prog_5_method_2_code 120 = .ok (.iconst (-1), 1) := by decide +kernel
theorem zd_ModelReader_readAll_121 : decode prog_5_method_2_code 121 = .ok (.iconst 0, 1) := by decide +kernel
theorem zd_ModelReader_readAll_122 : decode prog_5_method_2_code 122 = .ok (.invokevirtual 69, 3) := by decide +kernel
theorem zd_ModelReader_readAll_125 : decode prog_5_method_2_code 125 = .ok (.aload_n 0, 1) := by decide +kernel
theorem zd_ModelReader_readAll_126 : decode prog_5_method_2_code 126 = .ok (.invokevirtual 73, 3) := by decide +kernel
theorem zd_ModelReader_readAll_129 : decode prog_5_method_2_code 129 = .ok (.iinc 1 1, 3) := by decide +kernel
theorem zd_ModelReader_readAll_132 : decode prog_5_method_2_code 132 = .ok (.goto (-78), 3) := by decide +kernel
theorem zd_ModelReader_readAll_135 : decode prog_5_method_2_code 135 = .ok (.return_, 1) := by decide +kernel
theorem zd_ModelReader_readAtomic_0 : decode prog_5_method_10_code 0 = .ok (.iload_n 3, 1) := by decide +kernel
theorem zd_ModelReader_readAtomic_1 : decode prog_5_method_10_code 1 = .ok (.bipush 6, 2) := by decide +kernel
theorem zd_ModelReader_readAtomic_3 : decode prog_5_method_10_code 3 = .ok (.if_icmp .eq 15, 3) := by decide +kernel
theorem zd_ModelReader_readAtomic_6 : decode prog_5_method_10_code 6 = .ok (.aload_n 0, 1) := by decide +kernel
theorem zd_ModelReader_readAtomic_7 : decode prog_5_method_10_code 7 = .ok (.getfield 30, 3) := by decide +kernel
theorem zd_ModelReader_readAtomic_10 : decode prog_5_method_10_code 10 = .ok (.iload_n 1, 1) := by decide +kernel
theorem zd_ModelReader_readAtomic_11 : decode prog_5_method_10_code 11 = .ok (.invokevirtual 169, 3) := by decide +kernel
theorem zd_ModelReader_readAtomic_14 : decode prog_5_method_10_code 14 = .ok (.iconst (-1), 1) := by decide +kernel
theorem zd_ModelReader_readAtomic_15 : decode prog_5_method_10_code 15 = .ok (.if_icmp .eq 10, 3) := by decide +kernel
theorem zd_ModelReader_readAtomic_18 : decode prog_5_method_10_code 18 = .ok (.aload_n 0, 1) := by decide +kernel
theorem zd_ModelReader_readAtomic_19 : decode prog_5_method_10_code 19 = .ok (.getfield 9, 3) := by decide +kernel
theorem zd_ModelReader_readAtomic_22 : decode prog_5_method_10_code 22 = .ok (.invokevirtual 62, 3) := by decide +kernel
theorem zd_ModelReader_readAtomic_25 : decode prog_5_method_10_code 25 = .ok (.aload_n 0, 1) := by decide +kernel
theorem zd_ModelReader_readAtomic_26 : decode prog_5_method_10_code 26 = .ok (.getfield 9, 3) := by decide +kernel
theorem zd_ModelReader_readAtomic_29 : decode prog_5_method_10_code 29 = .ok (.invokevirtual 65, 3) := by decide +kernel
theorem zd_ModelReader_readAtomic_32 : decode prog_5_method_10_code 32 = .ok (.aload_n 0, 1) := by decide +kernel
theorem zd_ModelReader_readAtomic_33 : decode prog_5_method_10_code 33 = .ok (.getfield 30, 3) := by decide +kernel
theorem zd_ModelReader_readAtomic_36 : decode prog_5_method_10_code 36 = .ok (.iconst 3, 1) := by decide +kernel
theorem zd_ModelReader_readAtomic_37 : decode prog_5_method_10_code 37 = .ok (.iload_n 1, 1) := by decide +kernel
theorem zd_ModelReader_readAtomic_38 : decode prog_5_method_10_code 38 = .ok (.iload_n 2, 1) := by decide +kernel
theorem zd_ModelReader_readAtomic_39 : decode prog_5_method_10_code 39 = .ok (.invokevirtual 154, 3) := by decide +kernel
theorem zd_ModelReader_readAtomic_42 : decode prog_5_method_10_code 42 = .ok (.istore 4, 2) := by decide +kernel
theorem zd_ModelReader_readAtomic_44 : decode prog_5_method_10_code 44 = .ok (.aload_n 0, 1) := by decide +kernel
theorem zd_ModelReader_readAtomic_45 : decode prog_5_method_10_code 45 = .ok (.iload 4, 2) := by decide +kernel
theorem zd_ModelReader_readAtomic_47 : decode prog_5_method_10_code 47 = .ok (.iload_n 3, 1) := by decide +kernel
theorem zd_ModelReader_readAtomic_48 : decode prog_5_method_10_code 48 = .ok (.iconst 1, 1) := by decide +kernel
theorem zd_ModelReader_readAtomic_49 : decode prog_5_method_10_code 49 = .ok (.iadd, 1) := by decide +kernel
theorem zd_ModelReader_readAtomic_50 : decode prog_5_method_10_code 50 = .ok (.invokevirtual 69, 3) := by decide +kernel
theorem zd_ModelReader_readAtomic_53 : decode prog_5_method_10_code 53 = .ok (.aload_n 0, 1) := by decide +kernel
theorem zd_ModelReader_readAtomic_54 : decode prog_5_method_10_code 54 = .ok (.getfield 9, 3) := by decide +kernel
theorem zd_ModelReader_readAtomic_57 : decode prog_5_method_10_code 57 = .ok (.bipush 62, 2) := by decide +kernel
theorem zd_ModelReader_readAtomic_59 : decode prog_5_method_10_code 59 = .ok (.invokevirtual 96, 3) := by decide +kernel
theorem zd_ModelReader_readAtomic_62 : decode prog_5_method_10_code 62 = .ok (.iload 4, 2) := by decide +kernel
theorem zd_ModelReader_readAtomic_64 : decode prog_5_method_10_code 64 = .ok (.ireturn, 1) := by decide +kernel
def wc_ModelReader_readAtomic_R_25 (P0 : zTgm0) (P1 : zTgm1) (P2 : zTgm2) (P3 : zTgm3) (a0 : Int32) (a1 : Int32) (a2 : Int32) (Post : Int32 → (Nat → Int32) → (Nat → Int64) → (Nat → Nat → Int32) → (Nat → Nat → Int64) → Prop) (PX : String → (Nat → Int32) → (Nat → Int64) → (Nat → Nat → Int32) → (Nat → Nat → Int64) → Prop) (x1 : Int32) (x2 : Int32) (x3 : Int32) (I : Nat → Int32) (J : Nat → Int64) (B : Nat → Nat → Int32) (D : Nat → Nat → Int64) : Prop :=
  wp_Text_skip I J B D  (fun I1 J1 B1 D1 => wp_Tree_add I1 J1 B1 D1 3 x1 x2 (fun r2 I2 J2 B2 D2 => ∀ z3 : Int32, z3 = (x3 + 1) → P0 I2 J2 B2 D2 r2 z3 (fun I4 J4 B4 D4 => wp_Text_expect I4 J4 B4 D4 62 (fun I5 J5 B5 D5 => Post r2 I5 J5 B5 D5) PX) PX))
def wc_ModelReader_readAtomic_R_18 (P0 : zTgm0) (P1 : zTgm1) (P2 : zTgm2) (P3 : zTgm3) (a0 : Int32) (a1 : Int32) (a2 : Int32) (Post : Int32 → (Nat → Int32) → (Nat → Int64) → (Nat → Nat → Int32) → (Nat → Nat → Int64) → Prop) (PX : String → (Nat → Int32) → (Nat → Int64) → (Nat → Nat → Int32) → (Nat → Nat → Int64) → Prop) (x1 : Int32) (x2 : Int32) (x3 : Int32) (I : Nat → Int32) (J : Nat → Int64) (B : Nat → Nat → Int32) (D : Nat → Nat → Int64) : Prop :=
  wp_Text_refuse I J B D  (fun I6 J6 B6 D6 => wc_ModelReader_readAtomic_R_25 P0 P1 P2 P3 a0 a1 a2 Post PX x1 x2 x3 I6 J6 B6 D6) PX
def wp_ModelReader_readAtomic_R (I : Nat → Int32) (J : Nat → Int64) (B : Nat → Nat → Int32) (D : Nat → Nat → Int64) (P0 : zTgm0) (P1 : zTgm1) (P2 : zTgm2) (P3 : zTgm3) (a0 : Int32) (a1 : Int32) (a2 : Int32) (Post : Int32 → (Nat → Int32) → (Nat → Int64) → (Nat → Nat → Int32) → (Nat → Nat → Int64) → Prop) (PX : String → (Nat → Int32) → (Nat → Int64) → (Nat → Nat → Int32) → (Nat → Nat → Int64) → Prop) : Prop :=
  ((a2 = 6 → wc_ModelReader_readAtomic_R_18 P0 P1 P2 P3 a0 a1 a2 Post PX a0 a1 a2 I J B D) ∧ (¬ a2 = 6 → wp_Tree_atomicInside I J B D a0 (fun r8 I8 J8 B8 D8 => ((r8 = (-1) → wc_ModelReader_readAtomic_R_25 P0 P1 P2 P3 a0 a1 a2 Post PX a0 a1 a2 I8 J8 B8 D8) ∧ (¬ r8 = (-1) → wc_ModelReader_readAtomic_R_18 P0 P1 P2 P3 a0 a1 a2 Post PX a0 a1 a2 I8 J8 B8 D8)))))
set_option maxHeartbeats 8000000 in
set_option maxRecDepth 100000 in
theorem wJ_ModelReader_readAtomic_R_25 {p : Program} {l : Launch} {e : Env} {s : State} {m : MethodId} {below : List Frame} {meth : Method} {c : Code} {A : Nat → Prop} (G : va_G) (K : Nat → ClassId) (ad : Nat → Nat) (sv : Value) (P0 : zTgm0) (P1 : zTgm1) (P2 : zTgm2) (P3 : zTgm3) (a0 : Int32) (a1 : Int32) (a2 : Int32) (Post : Int32 → (Nat → Int32) → (Nat → Int64) → (Nat → Nat → Int32) → (Nat → Nat → Int64) → Prop) (PX : String → (Nat → Int32) → (Nat → Int64) → (Nat → Nat → Int32) → (Nat → Nat → Int64) → Prop) (C : zCy p l s m ([.ref (ad 5), .int a0, .int a1, .int a2] : List Value).toArray meth c A G K prog_5_method_10_code (some .int) 5 "LassoFinder$ModelReader") (n8 : Nat) (ihP : zIH_gm l G K ad sv n8 P0 P1 P2 P3) : ∀ (x1 : Int32) (x2 : Int32) (x3 : Int32) (I : Nat → Int32) (J : Nat → Int64) (B : Nat → Nat → Int32) (D : Nat → Nat → Int64) (ls : Array Slot) (H : Heap) (locs : List Loc), wc_ModelReader_readAtomic_R_25 P0 P1 P2 P3 a0 a1 a2 Post PX x1 x2 x3 I J B D → lv_has ls 5 [(0, .ref (ad 5)), (1, .int x1), (2, .int x2), (3, .int x3)] → zW G A s.heap (wX ad K sv I J B D) H locs → W p l e { frames := n8 + 1 + 10, cells := 1, slots := 6, locals := (n8 + 1) * 26 + 169 } s m ([.ref (ad 5), .int a0, .int a1, .int a2] : List Value).toArray below meth c H locs 0 0 (zyMQ below (va_Qi (fun (r : Int32) (u : zS) => Post r u.1 u.2.1 u.2.2.1 u.2.2.2) (fun u t => zPost G K A (wX ad K sv u.1 u.2.1 u.2.2.1 u.2.2.2) t) A) (zYC (fun E (u : zS) => PX E u.1 u.2.1 u.2.2.1 u.2.2.2) (fun u => wX ad K sv u.1 u.2.1 u.2.2.1 u.2.2.2) G K A) ([.ref (ad 5), .int a0, .int a1, .int a2] : List Value).toArray s 1 6 A) (F0 m 25 ls []) := by
  obtain ⟨hx, hb, hr, hml, hts, hown, hlocks, hA, hK, hT, hnt, hlt⟩ := id C
  intro x1 x2 x3 I J B D ls H locs hok hl hw
  unfold wc_ModelReader_readAtomic_R_25 at hok
  refine lv_aload_n hx hb zd_ModelReader_readAtomic_25 rfl (lv_at hl 0 rfl) ?_
  refine z_get (v := .ref (ad 1)) hx hb hts hown hK hw zZ4 5 wX_g5 0 (by decide) zn_422 rfl zd_ModelReader_readAtomic_26 ?_
  refine z_callv (w1 := fun (u : zS) => wX ad K sv u.1 u.2.1 u.2.2.1 u.2.2.2) (wr := []) (z_runV (q0 := 1) (wc := (wX ad K sv I J B D)) (As := []) (rest := []) ⟨hx, hb, hml, hown, hts⟩ (w_Text_skip l G K ad sv I J B D  _ H.size hok) zf_Text_skip zn_338 ⟨(by first | omega | (dsimp only; omega) | exact Nat.le_of_ble_eq_true rfl), (by first | omega | (dsimp only; omega) | exact Nat.le_of_ble_eq_true rfl)⟩ hK hw (List.range 65) wX_all wX_nd wX_g1 rfl rfl hl.1 rfl (by first | omega | (dsimp only; omega) | exact Nat.le_of_ble_eq_true rfl) zd_ModelReader_readAtomic_29 ⟨(by first | omega | (dsimp only; omega) | exact Nat.le_of_ble_eq_true rfl), (by first | omega | (dsimp only; omega) | exact Nat.le_of_ble_eq_true rfl)⟩) hw hA (List.range 65) [] wX_all rfl (by decide) (fun i hi => by cases hi) (fun u H locs hok hw => ?_)
  obtain ⟨I1, J1, B1, D1⟩ := u
  dsimp only at hok
  have hw : zW G A s.heap (wX ad K sv I1 J1 B1 D1) H locs := hw
  refine lv_aload_n hx hb zd_ModelReader_readAtomic_32 rfl (lv_at hl 0 rfl) ?_
  refine z_get (v := .ref (ad 6)) hx hb hts hown hK hw zZ4 5 wX_g5 4 (by decide) zn_424 rfl zd_ModelReader_readAtomic_33 ?_
  refine lv_iconst (v := 3) hx hb zd_ModelReader_readAtomic_36 (by decide) ?_
  refine lv_iload_n hx hb zd_ModelReader_readAtomic_37 rfl (lv_at hl 1 rfl) ?_
  refine lv_iload_n hx hb zd_ModelReader_readAtomic_38 rfl (lv_at hl 2 rfl) ?_
  refine z_calli (w1 := fun (u : zS) => wX ad K sv u.1 u.2.1 u.2.2.1 u.2.2.2) (wr := []) (z_runV (q0 := 6) (wc := (wX ad K sv I1 J1 B1 D1)) (As := [.int 3, .int x1, .int x2]) (rest := []) ⟨hx, hb, hml, hown, hts⟩ (w_Tree_add l G K ad sv I1 J1 B1 D1 3 x1 x2 _ H.size hok) zf_Tree_add zn_350 ⟨(by first | omega | (dsimp only; omega) | exact Nat.le_of_ble_eq_true rfl), (by first | omega | (dsimp only; omega) | exact Nat.le_of_ble_eq_true rfl)⟩ hK hw (List.range 65) wX_all wX_nd wX_g6 rfl rfl hl.1 rfl (by first | omega | (dsimp only; omega) | exact Nat.le_of_ble_eq_true rfl) zd_ModelReader_readAtomic_39 ⟨(by first | omega | (dsimp only; omega) | exact Nat.le_of_ble_eq_true rfl), (by first | omega | (dsimp only; omega) | exact Nat.le_of_ble_eq_true rfl)⟩) hw hA (List.range 65) [] wX_all rfl (by decide) (fun i hi => by cases hi) (fun r2 u H locs hok hw => ?_)
  obtain ⟨I2, J2, B2, D2⟩ := u
  dsimp only at hok
  have hw : zW G A s.heap (wX ad K sv I2 J2 B2 D2) H locs := hw
  refine lv_istore hx hb zd_ModelReader_readAtomic_42 hl (by decide) rfl (fun ls hl => ?_)
  have hl : lv_has ls 5 [(4, .int r2), (0, .ref (ad 5)), (1, .int x1), (2, .int x2), (3, .int x3)] := hl
  refine lv_aload_n hx hb zd_ModelReader_readAtomic_44 rfl (lv_at hl 1 rfl) ?_
  refine lv_iload hx hb zd_ModelReader_readAtomic_45 (lv_at hl 0 rfl) ?_
  refine lv_iload_n hx hb zd_ModelReader_readAtomic_47 rfl (lv_at hl 4 rfl) ?_
  refine lv_iconst (v := 1) hx hb zd_ModelReader_readAtomic_48 (by decide) ?_
  refine lv_iadd hx hb zd_ModelReader_readAtomic_49 ?_
  refine lv_topi (fun z3 ez3 => ?_)
  have hok := hok z3 ez3
  refine z_yV (q0 := 5) (wc := (wX ad K sv I2 J2 B2 D2)) (wr := []) (w1 := fun (u : zS) => wX ad K sv u.1 u.2.1 u.2.2.1 u.2.2.2) (As := [.int r2, .int z3]) (rest := []) ⟨hx, hb, hml, hown, hts⟩ (ihP.1 I2 J2 B2 D2 r2 z3 _ _ H.size hok) zf_ModelReader_readBody zn_346 ⟨(by first | omega | (dsimp only; omega) | exact Nat.le_of_ble_eq_true rfl), (by first | omega | (dsimp only; omega) | exact Nat.le_of_ble_eq_true rfl)⟩ hK hT hw hA (List.range 65) [] wX_all rfl wX_nd (by decide) (fun i hi => by cases hi) wX_g5 rfl rfl hl.1 rfl (by first | omega | (dsimp only; omega) | exact Nat.le_of_ble_eq_true rfl) zd_ModelReader_readAtomic_50 ⟨(by first | omega | (dsimp only; omega) | exact Nat.le_of_ble_eq_true rfl), (by first | omega | (dsimp only; omega) | exact Nat.le_of_ble_eq_true rfl)⟩ (fun v st9 t9 L9 h0 hq hL => ?_) (fun E ce q9 u H locs hu hw hce hcv hcl => z_yout (u := u) hnt hlocks hce hcv hcl hw (List.range 65) wX_all wX_nd hu (by first | omega | (dsimp only; omega) | exact Nat.le_of_ble_eq_true rfl) (by first | omega | (dsimp only; omega) | exact Nat.le_of_ble_eq_true rfl))
  obtain ⟨⟨u, hv9, hok, hB9⟩, hF9⟩ := hq
  cases hv9
  have hw := z_back (wr := []) hw hA (List.range 65) [] wX_all rfl (by decide) (fun i hi => by cases hi) h0 hL hB9 hF9
  obtain ⟨I4, J4, B4, D4⟩ := u
  dsimp only at hok
  generalize t9.heap = H at hw ⊢
  generalize locs ++ L9 = locs at hw ⊢
  have hw : zW G A s.heap (wX ad K sv I4 J4 B4 D4) H locs := hw
  refine W.eq (g2 := F0 m 53 ls []) rfl ?_
  refine lv_aload_n hx hb zd_ModelReader_readAtomic_53 rfl (lv_at hl 1 rfl) ?_
  refine z_get (v := .ref (ad 1)) hx hb hts hown hK hw zZ4 5 wX_g5 0 (by decide) zn_422 rfl zd_ModelReader_readAtomic_54 ?_
  refine lv_bipush (v := 62) hx hb zd_ModelReader_readAtomic_57 (by decide) ?_
  refine z_yV (q0 := 1) (wc := (wX ad K sv I4 J4 B4 D4)) (wr := []) (w1 := fun (u : zS) => wX ad K sv u.1 u.2.1 u.2.2.1 u.2.2.2) (As := [.int 62]) (rest := []) ⟨hx, hb, hml, hown, hts⟩ (w_Text_expect l hlt G K ad sv I4 J4 B4 D4 62 _ _ H.size hok) zf_Text_expect zn_340 ⟨(by first | omega | (dsimp only; omega) | exact Nat.le_of_ble_eq_true rfl), (by first | omega | (dsimp only; omega) | exact Nat.le_of_ble_eq_true rfl)⟩ hK hT hw hA (List.range 65) [] wX_all rfl wX_nd (by decide) (fun i hi => by cases hi) wX_g1 rfl rfl hl.1 rfl (by first | omega | (dsimp only; omega) | exact Nat.le_of_ble_eq_true rfl) zd_ModelReader_readAtomic_59 ⟨(by first | omega | (dsimp only; omega) | exact Nat.le_of_ble_eq_true rfl), (by first | omega | (dsimp only; omega) | exact Nat.le_of_ble_eq_true rfl)⟩ (fun v st9 t9 L9 h0 hq hL => ?_) (fun E ce q9 u H locs hu hw hce hcv hcl => z_yout (u := u) hnt hlocks hce hcv hcl hw (List.range 65) wX_all wX_nd hu (by first | omega | (dsimp only; omega) | exact Nat.le_of_ble_eq_true rfl) (by first | omega | (dsimp only; omega) | exact Nat.le_of_ble_eq_true rfl))
  obtain ⟨⟨u, hv9, hok, hB9⟩, hF9⟩ := hq
  cases hv9
  have hw := z_back (wr := []) hw hA (List.range 65) [] wX_all rfl (by decide) (fun i hi => by cases hi) h0 hL hB9 hF9
  obtain ⟨I5, J5, B5, D5⟩ := u
  dsimp only at hok
  generalize t9.heap = H at hw ⊢
  generalize locs ++ L9 = locs at hw ⊢
  have hw : zW G A s.heap (wX ad K sv I5 J5 B5 D5) H locs := hw
  refine W.eq (g2 := F0 m 62 ls []) rfl ?_
  refine lv_iload hx hb zd_ModelReader_readAtomic_62 (lv_at hl 0 rfl) ?_
  exact zy_ret (z_iret (u := (I5, J5, B5, D5)) hx hb hr hlocks rfl hw (List.range 65) wX_all wX_nd hok (by first | omega | (dsimp only; omega) | exact Nat.le_of_ble_eq_true rfl) (by first | omega | (dsimp only; omega) | exact Nat.le_of_ble_eq_true rfl) zd_ModelReader_readAtomic_64)
set_option maxHeartbeats 8000000 in
set_option maxRecDepth 100000 in
theorem wJ_ModelReader_readAtomic_R_18 {p : Program} {l : Launch} {e : Env} {s : State} {m : MethodId} {below : List Frame} {meth : Method} {c : Code} {A : Nat → Prop} (G : va_G) (K : Nat → ClassId) (ad : Nat → Nat) (sv : Value) (P0 : zTgm0) (P1 : zTgm1) (P2 : zTgm2) (P3 : zTgm3) (a0 : Int32) (a1 : Int32) (a2 : Int32) (Post : Int32 → (Nat → Int32) → (Nat → Int64) → (Nat → Nat → Int32) → (Nat → Nat → Int64) → Prop) (PX : String → (Nat → Int32) → (Nat → Int64) → (Nat → Nat → Int32) → (Nat → Nat → Int64) → Prop) (C : zCy p l s m ([.ref (ad 5), .int a0, .int a1, .int a2] : List Value).toArray meth c A G K prog_5_method_10_code (some .int) 5 "LassoFinder$ModelReader") (n8 : Nat) (ihP : zIH_gm l G K ad sv n8 P0 P1 P2 P3) : ∀ (x1 : Int32) (x2 : Int32) (x3 : Int32) (I : Nat → Int32) (J : Nat → Int64) (B : Nat → Nat → Int32) (D : Nat → Nat → Int64) (ls : Array Slot) (H : Heap) (locs : List Loc), wc_ModelReader_readAtomic_R_18 P0 P1 P2 P3 a0 a1 a2 Post PX x1 x2 x3 I J B D → lv_has ls 5 [(0, .ref (ad 5)), (1, .int x1), (2, .int x2), (3, .int x3)] → zW G A s.heap (wX ad K sv I J B D) H locs → W p l e { frames := n8 + 1 + 10, cells := 1, slots := 6, locals := (n8 + 1) * 26 + 169 } s m ([.ref (ad 5), .int a0, .int a1, .int a2] : List Value).toArray below meth c H locs 0 0 (zyMQ below (va_Qi (fun (r : Int32) (u : zS) => Post r u.1 u.2.1 u.2.2.1 u.2.2.2) (fun u t => zPost G K A (wX ad K sv u.1 u.2.1 u.2.2.1 u.2.2.2) t) A) (zYC (fun E (u : zS) => PX E u.1 u.2.1 u.2.2.1 u.2.2.2) (fun u => wX ad K sv u.1 u.2.1 u.2.2.1 u.2.2.2) G K A) ([.ref (ad 5), .int a0, .int a1, .int a2] : List Value).toArray s 1 6 A) (F0 m 18 ls []) := by
  obtain ⟨hx, hb, hr, hml, hts, hown, hlocks, hA, hK, hT, hnt, hlt⟩ := id C
  intro x1 x2 x3 I J B D ls H locs hok hl hw
  unfold wc_ModelReader_readAtomic_R_18 at hok
  refine lv_aload_n hx hb zd_ModelReader_readAtomic_18 rfl (lv_at hl 0 rfl) ?_
  refine z_get (v := .ref (ad 1)) hx hb hts hown hK hw zZ4 5 wX_g5 0 (by decide) zn_422 rfl zd_ModelReader_readAtomic_19 ?_
  refine z_yV (q0 := 1) (wc := (wX ad K sv I J B D)) (wr := []) (w1 := fun (u : zS) => wX ad K sv u.1 u.2.1 u.2.2.1 u.2.2.2) (As := []) (rest := []) ⟨hx, hb, hml, hown, hts⟩ (w_Text_refuse l hlt G K ad sv I J B D  _ _ H.size hok) zf_Text_refuse zn_336 ⟨(by first | omega | (dsimp only; omega) | exact Nat.le_of_ble_eq_true rfl), (by first | omega | (dsimp only; omega) | exact Nat.le_of_ble_eq_true rfl)⟩ hK hT hw hA (List.range 65) [] wX_all rfl wX_nd (by decide) (fun i hi => by cases hi) wX_g1 rfl rfl hl.1 rfl (by first | omega | (dsimp only; omega) | exact Nat.le_of_ble_eq_true rfl) zd_ModelReader_readAtomic_22 ⟨(by first | omega | (dsimp only; omega) | exact Nat.le_of_ble_eq_true rfl), (by first | omega | (dsimp only; omega) | exact Nat.le_of_ble_eq_true rfl)⟩ (fun v st9 t9 L9 h0 hq hL => ?_) (fun E ce q9 u H locs hu hw hce hcv hcl => z_yout (u := u) hnt hlocks hce hcv hcl hw (List.range 65) wX_all wX_nd hu (by first | omega | (dsimp only; omega) | exact Nat.le_of_ble_eq_true rfl) (by first | omega | (dsimp only; omega) | exact Nat.le_of_ble_eq_true rfl))
  obtain ⟨⟨u, hv9, hok, hB9⟩, hF9⟩ := hq
  cases hv9
  have hw := z_back (wr := []) hw hA (List.range 65) [] wX_all rfl (by decide) (fun i hi => by cases hi) h0 hL hB9 hF9
  obtain ⟨I6, J6, B6, D6⟩ := u
  dsimp only at hok
  generalize t9.heap = H at hw ⊢
  generalize locs ++ L9 = locs at hw ⊢
  have hw : zW G A s.heap (wX ad K sv I6 J6 B6 D6) H locs := hw
  refine W.eq (g2 := F0 m 25 ls []) rfl ?_
  exact wJ_ModelReader_readAtomic_R_25 G K ad sv P0 P1 P2 P3 a0 a1 a2 Post PX C n8 ihP x1 x2 x3 I6 J6 B6 D6 ls H locs hok (lv_sub hl [0, 1, 2, 3] rfl) hw
set_option maxHeartbeats 8000000 in
set_option maxRecDepth 100000 in
theorem w_ModelReader_readAtomic_R (l : Launch) (hlt : l.stackTraces = false) (G : va_G) (K : Nat → ClassId) (ad : Nat → Nat) (sv : Value) (I : Nat → Int32) (J : Nat → Int64) (B : Nat → Nat → Int32) (D : Nat → Nat → Int64) (P0 : zTgm0) (P1 : zTgm1) (P2 : zTgm2) (P3 : zTgm3) (a0 : Int32) (a1 : Int32) (a2 : Int32) (Post : Int32 → (Nat → Int32) → (Nat → Int64) → (Nat → Nat → Int32) → (Nat → Nat → Int64) → Prop) (PX : String → (Nat → Int32) → (Nat → Int64) → (Nat → Nat → Int32) → (Nat → Nat → Int64) → Prop) (sz : Nat) (hok : wp_ModelReader_readAtomic_R I J B D P0 P1 P2 P3 a0 a1 a2 Post PX) (n8 : Nat) (ihP : zIH_gm l G K ad sv n8 P0 P1 P2 P3) : zyMet l zy_ModelReader_readAtomic (Cond.code zy_ModelReader_readAtomic prog_5_method_10_code 5 (some .int) :: zTB) { frames := n8 + 1 + 10, cells := 1, slots := 6, locals := (n8 + 1) * 26 + 169 } (va_Pc [.ref (ad 5), .int a0, .int a1, .int a2] (zPreY G K (wX ad K sv I J B D) sz)) (va_Qi (fun (r : Int32) (u : zS) => Post r u.1 u.2.1 u.2.2.1 u.2.2.2) (fun u t => zPost G K (va_A (wX ad K sv I J B D) sz) (wX ad K sv u.1 u.2.1 u.2.2.1 u.2.2.2) t) (va_A (wX ad K sv I J B D) sz)) (zYC (fun E (u : zS) => PX E u.1 u.2.1 u.2.2.1 u.2.2.2) (fun u => wX ad K sv u.1 u.2.1 u.2.2.1 u.2.2.2) G K (va_A (wX ad K sv I J B D) sz)) 1 6 (va_A (wX ad K sv I J B D) sz) := by
  refine zMetY (y := zy_ModelReader_readAtomic) (av := [.ref (ad 5), .int a0, .int a1, .int a2]) (maxL := 5) (cc := prog_5_method_10_code) (ret := (some .int)) (W0 := (wX ad K sv I J B D)) (sz := sz) (G := G) (K := K) (wt := zTB) (mc := 1) (ms := 6) (Qf := fun A => va_Qi (fun (r : Int32) (u : zS) => Post r u.1 u.2.1 u.2.2.1 u.2.2.2) (fun u t => zPost G K A (wX ad K sv u.1 u.2.1 u.2.2.1 u.2.2.2) t) A) (Xf := fun A => (zYC (fun E (u : zS) => PX E u.1 u.2.1 u.2.2.1 u.2.2.2) (fun u => wX ad K sv u.1 u.2.1 u.2.2.1 u.2.2.2) G K A)) (by decide) (by first | omega | (dsimp only; omega) | exact Nat.le_of_ble_eq_true rfl) ?_
  intro p e s m below meth c ls A hx hb hr hml hts hown hlocks hin hA hK H locs hw hsz hl hT hnt
  clear hsz
  have hown : s.vm.findClass "LassoFinder$ModelReader" = some m.cls := hown
  have C : zCy p l s m ([.ref (ad 5), .int a0, .int a1, .int a2] : List Value).toArray meth c A G K prog_5_method_10_code (some .int) 5 "LassoFinder$ModelReader" := ⟨hx, hb, hr, hml, hts, hown, hlocks, hA, hK, hT, hnt, hlt⟩
  have hl : lv_has ls 5 [(0, .ref (ad 5)), (1, .int a0), (2, .int a1), (3, .int a2)] := hl
  have hw : zW G A s.heap (wX ad K sv I J B D) H locs := hw
  unfold wp_ModelReader_readAtomic_R at hok
  refine lv_iload_n hx hb zd_ModelReader_readAtomic_0 rfl (lv_at hl 3 rfl) ?_
  refine lv_bipush (v := 6) hx hb zd_ModelReader_readAtomic_1 (by decide) ?_
  refine lv_icmp_eq (tgt := 18) hx hb zd_ModelReader_readAtomic_3 (by decide) (fun hc7 => ?_) (fun hc7 => ?_)
  · have hok := hok.1 hc7
    exact wJ_ModelReader_readAtomic_R_18 G K ad sv P0 P1 P2 P3 a0 a1 a2 Post PX C n8 ihP a0 a1 a2 I J B D ls H locs hok (lv_sub hl [0, 1, 2, 3] rfl) hw
  · have hok := hok.2 hc7
    refine lv_aload_n hx hb zd_ModelReader_readAtomic_6 rfl (lv_at hl 0 rfl) ?_
    refine z_get (v := .ref (ad 6)) hx hb hts hown hK hw zZ4 5 wX_g5 4 (by decide) zn_424 rfl zd_ModelReader_readAtomic_7 ?_
    refine lv_iload_n hx hb zd_ModelReader_readAtomic_10 rfl (lv_at hl 1 rfl) ?_
    refine z_calli (w1 := fun (u : zS) => wX ad K sv u.1 u.2.1 u.2.2.1 u.2.2.2) (wr := []) (z_runV (q0 := 6) (wc := (wX ad K sv I J B D)) (As := [.int a0]) (rest := []) ⟨hx, hb, hml, hown, hts⟩ (w_Tree_atomicInside l G K ad sv I J B D a0 _ H.size hok) zf_Tree_atomicInside zn_354 ⟨(by first | omega | (dsimp only; omega) | exact Nat.le_of_ble_eq_true rfl), (by first | omega | (dsimp only; omega) | exact Nat.le_of_ble_eq_true rfl)⟩ hK hw (List.range 65) wX_all wX_nd wX_g6 rfl rfl hl.1 rfl (by first | omega | (dsimp only; omega) | exact Nat.le_of_ble_eq_true rfl) zd_ModelReader_readAtomic_11 ⟨(by first | omega | (dsimp only; omega) | exact Nat.le_of_ble_eq_true rfl), (by first | omega | (dsimp only; omega) | exact Nat.le_of_ble_eq_true rfl)⟩) hw hA (List.range 65) [] wX_all rfl (by decide) (fun i hi => by cases hi) (fun r8 u H locs hok hw => ?_)
    obtain ⟨I8, J8, B8, D8⟩ := u
    dsimp only at hok
    have hw : zW G A s.heap (wX ad K sv I8 J8 B8 D8) H locs := hw
    refine lv_iconst (v := (-1)) hx hb zd_ModelReader_readAtomic_14 (by decide) ?_
    refine lv_icmp_eq (tgt := 25) hx hb zd_ModelReader_readAtomic_15 (by decide) (fun hc9 => ?_) (fun hc9 => ?_)
    · have hok := hok.1 hc9
      exact wJ_ModelReader_readAtomic_R_25 G K ad sv P0 P1 P2 P3 a0 a1 a2 Post PX C n8 ihP a0 a1 a2 I8 J8 B8 D8 ls H locs hok (lv_sub hl [0, 1, 2, 3] rfl) hw
    · have hok := hok.2 hc9
      exact wJ_ModelReader_readAtomic_R_18 G K ad sv P0 P1 P2 P3 a0 a1 a2 Post PX C n8 ihP a0 a1 a2 I8 J8 B8 D8 ls H locs hok (lv_sub hl [0, 1, 2, 3] rfl) hw
def wG_gm (n : Nat) : zTgm0 × zTgm1 × zTgm2 × zTgm3 := Nat.rec (motive := fun _ => zTgm0 × zTgm1 × zTgm2 × zTgm3) ((fun _ _ _ _ _ _ _ _ => False), (fun _ _ _ _ _ _ _ _ _ => False), (fun _ _ _ _ _ _ _ _ _ => False), (fun _ _ _ _ _ _ _ _ _ => False)) (fun _ r => ((fun I J B D a0 a1 Post PX => wp_ModelReader_readBody_R I J B D r.1 r.2.1 r.2.2.1 r.2.2.2 a0 a1 Post PX), (fun I J B D a0 a1 a2 Post PX => wp_ModelReader_readStatement_R I J B D r.1 r.2.1 r.2.2.1 r.2.2.2 a0 a1 a2 Post PX), (fun I J B D a0 a1 a2 Post PX => wp_ModelReader_readChoice_R I J B D r.1 r.2.1 r.2.2.1 r.2.2.2 a0 a1 a2 Post PX), (fun I J B D a0 a1 a2 Post PX => wp_ModelReader_readAtomic_R I J B D r.1 r.2.1 r.2.2.1 r.2.2.2 a0 a1 a2 Post PX))) n
theorem wG_gm_ih (l : Launch) (hlt : l.stackTraces = false) (G : va_G) (K : Nat → ClassId) (ad : Nat → Nat) (sv : Value) (n : Nat) : zIH_gm l G K ad sv n (wG_gm n).1 (wG_gm n).2.1 (wG_gm n).2.2.1 (wG_gm n).2.2.2 := by
  induction n with
  | zero => exact ⟨fun _ _ _ _ _ _ _ _ _ h => False.elim h, fun _ _ _ _ _ _ _ _ _ _ h => False.elim h, fun _ _ _ _ _ _ _ _ _ _ h => False.elim h, fun _ _ _ _ _ _ _ _ _ _ h => False.elim h⟩
  | succ n ih => exact ⟨fun I J B D a0 a1 Post PX sz h => w_ModelReader_readBody_R l hlt G K ad sv I J B D _ _ _ _ a0 a1 Post PX sz h n ih, fun I J B D a0 a1 a2 Post PX sz h => w_ModelReader_readStatement_R l hlt G K ad sv I J B D _ _ _ _ a0 a1 a2 Post PX sz h n ih, fun I J B D a0 a1 a2 Post PX sz h => w_ModelReader_readChoice_R l hlt G K ad sv I J B D _ _ _ _ a0 a1 a2 Post PX sz h n ih, fun I J B D a0 a1 a2 Post PX sz h => w_ModelReader_readAtomic_R l hlt G K ad sv I J B D _ _ _ _ a0 a1 a2 Post PX sz h n ih⟩
def wp_ModelReader_readBody (I : Nat → Int32) (J : Nat → Int64) (B : Nat → Nat → Int32) (D : Nat → Nat → Int64) (a0 : Int32) (a1 : Int32) (Post : (Nat → Int32) → (Nat → Int64) → (Nat → Nat → Int32) → (Nat → Nat → Int64) → Prop) (PX : String → (Nat → Int32) → (Nat → Int64) → (Nat → Nat → Int32) → (Nat → Nat → Int64) → Prop) : Prop := (wG_gm 24).1 I J B D a0 a1 Post PX
theorem w_ModelReader_readBody (l : Launch) (hlt : l.stackTraces = false) (G : va_G) (K : Nat → ClassId) (ad : Nat → Nat) (sv : Value) (I : Nat → Int32) (J : Nat → Int64) (B : Nat → Nat → Int32) (D : Nat → Nat → Int64) (a0 : Int32) (a1 : Int32) (Post : (Nat → Int32) → (Nat → Int64) → (Nat → Nat → Int32) → (Nat → Nat → Int64) → Prop) (PX : String → (Nat → Int32) → (Nat → Int64) → (Nat → Nat → Int32) → (Nat → Nat → Int64) → Prop) (sz : Nat) (hok : wp_ModelReader_readBody I J B D a0 a1 Post PX) : zyMet l zy_ModelReader_readBody (Cond.code zy_ModelReader_readBody prog_5_method_6_code 5 none :: zTB) { frames := 34, cells := 1, slots := 6, locals := 793 } (va_Pc [.ref (ad 5), .int a0, .int a1] (zPreY G K (wX ad K sv I J B D) sz)) (va_Qv (fun u : zS => Post u.1 u.2.1 u.2.2.1 u.2.2.2) (fun u t => zPost G K (va_A (wX ad K sv I J B D) sz) (wX ad K sv u.1 u.2.1 u.2.2.1 u.2.2.2) t) (va_A (wX ad K sv I J B D) sz)) (zYC (fun E (u : zS) => PX E u.1 u.2.1 u.2.2.1 u.2.2.2) (fun u => wX ad K sv u.1 u.2.1 u.2.2.1 u.2.2.2) G K (va_A (wX ad K sv I J B D) sz)) 1 6 (va_A (wX ad K sv I J B D) sz) :=
  (wG_gm_ih l hlt G K ad sv 24).1 I J B D a0 a1 Post PX sz hok
def wc_ModelReader_readAll_135 (Post : (Nat → Int32) → (Nat → Int64) → (Nat → Nat → Int32) → (Nat → Nat → Int64) → Prop) (PX : String → (Nat → Int32) → (Nat → Int64) → (Nat → Nat → Int32) → (Nat → Nat → Int64) → Prop)  (I : Nat → Int32) (J : Nat → Int64) (B : Nat → Nat → Int32) (D : Nat → Nat → Int64) : Prop :=
  Post I J B D
def wc_ModelReader_readAll_105 (K54 : Int32 → (Nat → Int32) → (Nat → Int64) → (Nat → Nat → Int32) → (Nat → Nat → Int64) → Prop) (Post : (Nat → Int32) → (Nat → Int64) → (Nat → Nat → Int32) → (Nat → Nat → Int64) → Prop) (PX : String → (Nat → Int32) → (Nat → Int64) → (Nat → Nat → Int32) → (Nat → Nat → Int64) → Prop) (x1 : Int32) (I : Nat → Int32) (J : Nat → Int64) (B : Nat → Nat → Int32) (D : Nat → Nat → Int64) : Prop :=
  wp_Text_skip I J B D  (fun I1 J1 B1 D1 => wp_Tree_clear I1 J1 B1 D1  (fun I2 J2 B2 D2 => wp_ModelReader_readBody I2 J2 B2 D2 (-1) 0 (fun I3 J3 B3 D3 => wp_ModelReader_endProcess I3 J3 B3 D3  (fun I4 J4 B4 D4 => ∀ z5 : Int32, z5 = (x1 + 1) → K54 z5 I4 J4 B4 D4) PX) PX))
def wc_ModelReader_readAll_98 (K54 : Int32 → (Nat → Int32) → (Nat → Int64) → (Nat → Nat → Int32) → (Nat → Nat → Int64) → Prop) (Post : (Nat → Int32) → (Nat → Int64) → (Nat → Nat → Int32) → (Nat → Nat → Int64) → Prop) (PX : String → (Nat → Int32) → (Nat → Int64) → (Nat → Nat → Int32) → (Nat → Nat → Int64) → Prop) (x1 : Int32) (I : Nat → Int32) (J : Nat → Int64) (B : Nat → Nat → Int32) (D : Nat → Nat → Int64) : Prop :=
  wp_Text_refuse I J B D  (fun I6 J6 B6 D6 => wc_ModelReader_readAll_105  K54 Post PX x1 I6 J6 B6 D6) PX
def wc_ModelReader_readAll_75 (K54 : Int32 → (Nat → Int32) → (Nat → Int64) → (Nat → Nat → Int32) → (Nat → Nat → Int64) → Prop) (Post : (Nat → Int32) → (Nat → Int64) → (Nat → Nat → Int32) → (Nat → Nat → Int64) → Prop) (PX : String → (Nat → Int32) → (Nat → Int64) → (Nat → Nat → Int32) → (Nat → Nat → Int64) → Prop) (x1 : Int32) (I : Nat → Int32) (J : Nat → Int64) (B : Nat → Nat → Int32) (D : Nat → Nat → Int64) : Prop :=
  wp_Text_ahead I J B D  (fun r7 I7 J7 B7 D7 => ((¬ r7 = 123 → wc_ModelReader_readAll_98  K54 Post PX x1 I7 J7 B7 D7) ∧ (r7 = 123 → ((¬ (I7 10) = 4 → wc_ModelReader_readAll_105  K54 Post PX x1 I7 J7 B7 D7) ∧ ((I7 10) = 4 → wc_ModelReader_readAll_98  K54 Post PX x1 I7 J7 B7 D7)))))
def wb_ModelReader_readAll_54 (K54 : Int32 → (Nat → Int32) → (Nat → Int64) → (Nat → Nat → Int32) → (Nat → Nat → Int64) → Prop) (Post : (Nat → Int32) → (Nat → Int64) → (Nat → Nat → Int32) → (Nat → Nat → Int64) → Prop) (PX : String → (Nat → Int32) → (Nat → Int64) → (Nat → Nat → Int32) → (Nat → Nat → Int64) → Prop) (x1 : Int32) (I : Nat → Int32) (J : Nat → Int64) (B : Nat → Nat → Int32) (D : Nat → Nat → Int64) : Prop :=
  (((240 : Int32) ≤ x1 → wc_ModelReader_readAll_135  Post PX I J B D) ∧ (¬ (240 : Int32) ≤ x1 → ((x1 = 0 → wc_ModelReader_readAll_75  K54 Post PX x1 I J B D) ∧ (¬ x1 = 0 → wp_Text_ended I J B D  (fun r12 I12 J12 B12 D12 => ((¬ r12 = 0 → wc_ModelReader_readAll_135  Post PX I12 J12 B12 D12) ∧ (r12 = 0 → wc_ModelReader_readAll_75  K54 Post PX x1 I12 J12 B12 D12)))))))
def wl_ModelReader_readAll_54 (Post : (Nat → Int32) → (Nat → Int64) → (Nat → Nat → Int32) → (Nat → Nat → Int64) → Prop) (PX : String → (Nat → Int32) → (Nat → Int64) → (Nat → Nat → Int32) → (Nat → Nat → Int64) → Prop) (n : Nat) : Int32 → (Nat → Int32) → (Nat → Int64) → (Nat → Nat → Int32) → (Nat → Nat → Int64) → Prop := Nat.rec (fun _ _ _ _ _ => False) (fun _ r => wb_ModelReader_readAll_54  r Post PX) n
def wc_ModelReader_readAll_52 (Post : (Nat → Int32) → (Nat → Int64) → (Nat → Nat → Int32) → (Nat → Nat → Int64) → Prop) (PX : String → (Nat → Int32) → (Nat → Int64) → (Nat → Nat → Int32) → (Nat → Nat → Int64) → Prop)  (I : Nat → Int32) (J : Nat → Int64) (B : Nat → Nat → Int32) (D : Nat → Nat → Int64) : Prop :=
  ∃ n : Nat, wl_ModelReader_readAll_54  Post PX n 0 I J B D
def wb_ModelReader_readAll_23 (K23 : Int32 → (Nat → Int32) → (Nat → Int64) → (Nat → Nat → Int32) → (Nat → Nat → Int64) → Prop) (Post : (Nat → Int32) → (Nat → Int64) → (Nat → Nat → Int32) → (Nat → Nat → Int64) → Prop) (PX : String → (Nat → Int32) → (Nat → Int64) → (Nat → Nat → Int32) → (Nat → Nat → Int64) → Prop) (x1 : Int32) (I : Nat → Int32) (J : Nat → Int64) (B : Nat → Nat → Int32) (D : Nat → Nat → Int64) : Prop :=
  (((240 : Int32) ≤ x1 → wc_ModelReader_readAll_52  Post PX I J B D) ∧ (¬ (240 : Int32) ≤ x1 → wp_Text_ahead I J B D  (fun r15 I15 J15 B15 D15 => ((r15 = 123 → wc_ModelReader_readAll_52  Post PX I15 J15 B15 D15) ∧ (¬ r15 = 123 → wp_ModelReader_readDeclaration I15 J15 B15 D15  (fun I17 J17 B17 D17 => ∀ z18 : Int32, z18 = (x1 + 1) → K23 z18 I17 J17 B17 D17) PX)))))
def wl_ModelReader_readAll_23 (Post : (Nat → Int32) → (Nat → Int64) → (Nat → Nat → Int32) → (Nat → Nat → Int64) → Prop) (PX : String → (Nat → Int32) → (Nat → Int64) → (Nat → Nat → Int32) → (Nat → Nat → Int64) → Prop) (n : Nat) : Int32 → (Nat → Int32) → (Nat → Int64) → (Nat → Nat → Int32) → (Nat → Nat → Int64) → Prop := Nat.rec (fun _ _ _ _ _ => False) (fun _ r => wb_ModelReader_readAll_23  r Post PX) n
def wp_ModelReader_readAll (I : Nat → Int32) (J : Nat → Int64) (B : Nat → Nat → Int32) (D : Nat → Nat → Int64) (Post : (Nat → Int32) → (Nat → Int64) → (Nat → Nat → Int32) → (Nat → Nat → Int64) → Prop) (PX : String → (Nat → Int32) → (Nat → Int64) → (Nat → Nat → Int32) → (Nat → Nat → Int64) → Prop) : Prop :=
  wp_Names_clear I J B D  (fun I19 J19 B19 D19 => wp_Terms_clear_A I19 J19 B19 D19  (fun I20 J20 B20 D20 => wp_Program_clear I20 J20 B20 D20  (fun I21 J21 B21 D21 => ∃ n : Nat, wl_ModelReader_readAll_23  Post PX n 0 I21 J21 B21 D21)))
set_option maxHeartbeats 8000000 in
set_option maxRecDepth 100000 in
theorem wJ_ModelReader_readAll_135 {p : Program} {l : Launch} {e : Env} {s : State} {m : MethodId} {below : List Frame} {meth : Method} {c : Code} {A : Nat → Prop} (G : va_G) (K : Nat → ClassId) (ad : Nat → Nat) (sv : Value) (Post : (Nat → Int32) → (Nat → Int64) → (Nat → Nat → Int32) → (Nat → Nat → Int64) → Prop) (PX : String → (Nat → Int32) → (Nat → Int64) → (Nat → Nat → Int32) → (Nat → Nat → Int64) → Prop) (C : zCy p l s m ([.ref (ad 5)] : List Value).toArray meth c A G K prog_5_method_2_code none 2 "LassoFinder$ModelReader") : ∀  (I : Nat → Int32) (J : Nat → Int64) (B : Nat → Nat → Int32) (D : Nat → Nat → Int64) (ls : Array Slot) (H : Heap) (locs : List Loc), wc_ModelReader_readAll_135  Post PX  I J B D → lv_has ls 2 [] → zW G A s.heap (wX ad K sv I J B D) H locs → W p l e { frames := 35, cells := 1, slots := 6, locals := 817 } s m ([.ref (ad 5)] : List Value).toArray below meth c H locs 0 0 (zyMQ below (va_Qv (fun u : zS => Post u.1 u.2.1 u.2.2.1 u.2.2.2) (fun u t => zPost G K A (wX ad K sv u.1 u.2.1 u.2.2.1 u.2.2.2) t) A) (zYC (fun E (u : zS) => PX E u.1 u.2.1 u.2.2.1 u.2.2.2) (fun u => wX ad K sv u.1 u.2.1 u.2.2.1 u.2.2.2) G K A) ([.ref (ad 5)] : List Value).toArray s 1 6 A) (F0 m 135 ls []) := by
  obtain ⟨hx, hb, hr, hml, hts, hown, hlocks, hA, hK, hT, hnt, hlt⟩ := id C
  intro  I J B D ls H locs hok hl hw
  unfold wc_ModelReader_readAll_135 at hok
  exact zy_ret (z_vret (u := (I, J, B, D)) hx hb hr hlocks hw (List.range 65) wX_all wX_nd hok (Nat.le_of_ble_eq_true rfl) (Nat.le_of_ble_eq_true rfl) zd_ModelReader_readAll_135)
set_option maxHeartbeats 8000000 in
set_option maxRecDepth 100000 in
theorem wJ_ModelReader_readAll_105 {p : Program} {l : Launch} {e : Env} {s : State} {m : MethodId} {below : List Frame} {meth : Method} {c : Code} {A : Nat → Prop} (G : va_G) (K : Nat → ClassId) (ad : Nat → Nat) (sv : Value) (Post : (Nat → Int32) → (Nat → Int64) → (Nat → Nat → Int32) → (Nat → Nat → Int64) → Prop) (PX : String → (Nat → Int32) → (Nat → Int64) → (Nat → Nat → Int32) → (Nat → Nat → Int64) → Prop) (C : zCy p l s m ([.ref (ad 5)] : List Value).toArray meth c A G K prog_5_method_2_code none 2 "LassoFinder$ModelReader") (K54 : Int32 → (Nat → Int32) → (Nat → Int64) → (Nat → Nat → Int32) → (Nat → Nat → Int64) → Prop) (kh54 : ∀ (x1 : Int32) (I : Nat → Int32) (J : Nat → Int64) (B : Nat → Nat → Int32) (D : Nat → Nat → Int64) (ls : Array Slot) (H : Heap) (locs : List Loc), K54 x1 I J B D → lv_has ls 2 [(0, .ref (ad 5)), (1, .int x1)] → zW G A s.heap (wX ad K sv I J B D) H locs → W p l e { frames := 35, cells := 1, slots := 6, locals := 817 } s m ([.ref (ad 5)] : List Value).toArray below meth c H locs 0 0 (zyMQ below (va_Qv (fun u : zS => Post u.1 u.2.1 u.2.2.1 u.2.2.2) (fun u t => zPost G K A (wX ad K sv u.1 u.2.1 u.2.2.1 u.2.2.2) t) A) (zYC (fun E (u : zS) => PX E u.1 u.2.1 u.2.2.1 u.2.2.2) (fun u => wX ad K sv u.1 u.2.1 u.2.2.1 u.2.2.2) G K A) ([.ref (ad 5)] : List Value).toArray s 1 6 A) (F0 m 54 ls [])) : ∀ (x1 : Int32) (I : Nat → Int32) (J : Nat → Int64) (B : Nat → Nat → Int32) (D : Nat → Nat → Int64) (ls : Array Slot) (H : Heap) (locs : List Loc), wc_ModelReader_readAll_105  K54 Post PX x1 I J B D → lv_has ls 2 [(0, .ref (ad 5)), (1, .int x1)] → zW G A s.heap (wX ad K sv I J B D) H locs → W p l e { frames := 35, cells := 1, slots := 6, locals := 817 } s m ([.ref (ad 5)] : List Value).toArray below meth c H locs 0 0 (zyMQ below (va_Qv (fun u : zS => Post u.1 u.2.1 u.2.2.1 u.2.2.2) (fun u t => zPost G K A (wX ad K sv u.1 u.2.1 u.2.2.1 u.2.2.2) t) A) (zYC (fun E (u : zS) => PX E u.1 u.2.1 u.2.2.1 u.2.2.2) (fun u => wX ad K sv u.1 u.2.1 u.2.2.1 u.2.2.2) G K A) ([.ref (ad 5)] : List Value).toArray s 1 6 A) (F0 m 105 ls []) := by
  obtain ⟨hx, hb, hr, hml, hts, hown, hlocks, hA, hK, hT, hnt, hlt⟩ := id C
  intro x1 I J B D ls H locs hok hl hw
  unfold wc_ModelReader_readAll_105 at hok
  refine lv_aload_n hx hb zd_ModelReader_readAll_105 rfl (lv_at hl 0 rfl) ?_
  refine z_get (v := .ref (ad 1)) hx hb hts hown hK hw zZ4 5 wX_g5 0 (by decide) zn_422 rfl zd_ModelReader_readAll_106 ?_
  refine z_callv (w1 := fun (u : zS) => wX ad K sv u.1 u.2.1 u.2.2.1 u.2.2.2) (wr := []) (z_runV (q0 := 1) (wc := (wX ad K sv I J B D)) (As := []) (rest := []) ⟨hx, hb, hml, hown, hts⟩ (w_Text_skip l G K ad sv I J B D  _ H.size hok) zf_Text_skip zn_338 ⟨Nat.le_of_ble_eq_true rfl, Nat.le_of_ble_eq_true rfl⟩ hK hw (List.range 65) wX_all wX_nd wX_g1 rfl rfl hl.1 rfl (Nat.le_of_ble_eq_true rfl) zd_ModelReader_readAll_109 ⟨Nat.le_of_ble_eq_true rfl, Nat.le_of_ble_eq_true rfl⟩) hw hA (List.range 65) [] wX_all rfl (by decide) (fun i hi => by cases hi) (fun u H locs hok hw => ?_)
  obtain ⟨I1, J1, B1, D1⟩ := u
  dsimp only at hok
  have hw : zW G A s.heap (wX ad K sv I1 J1 B1 D1) H locs := hw
  refine lv_aload_n hx hb zd_ModelReader_readAll_112 rfl (lv_at hl 0 rfl) ?_
  refine z_get (v := .ref (ad 6)) hx hb hts hown hK hw zZ4 5 wX_g5 4 (by decide) zn_424 rfl zd_ModelReader_readAll_113 ?_
  refine z_callv (w1 := fun (u : zS) => wX ad K sv u.1 u.2.1 u.2.2.1 u.2.2.2) (wr := []) (z_runV (q0 := 6) (wc := (wX ad K sv I1 J1 B1 D1)) (As := []) (rest := []) ⟨hx, hb, hml, hown, hts⟩ (w_Tree_clear l G K ad sv I1 J1 B1 D1  _ H.size hok) zf_Tree_clear zn_344 ⟨Nat.le_of_ble_eq_true rfl, Nat.le_of_ble_eq_true rfl⟩ hK hw (List.range 65) wX_all wX_nd wX_g6 rfl rfl hl.1 rfl (Nat.le_of_ble_eq_true rfl) zd_ModelReader_readAll_116 ⟨Nat.le_of_ble_eq_true rfl, Nat.le_of_ble_eq_true rfl⟩) hw hA (List.range 65) [] wX_all rfl (by decide) (fun i hi => by cases hi) (fun u H locs hok hw => ?_)
  obtain ⟨I2, J2, B2, D2⟩ := u
  dsimp only at hok
  have hw : zW G A s.heap (wX ad K sv I2 J2 B2 D2) H locs := hw
  refine lv_aload_n hx hb zd_ModelReader_readAll_119 rfl (lv_at hl 0 rfl) ?_
  refine lv_iconst (v := (-1)) hx hb zd_ModelReader_readAll_120 (by decide) ?_
  refine lv_iconst (v := 0) hx hb zd_ModelReader_readAll_121 (by decide) ?_
  refine z_yV (q0 := 5) (wc := (wX ad K sv I2 J2 B2 D2)) (wr := []) (w1 := fun (u : zS) => wX ad K sv u.1 u.2.1 u.2.2.1 u.2.2.2) (As := [.int (-1), .int 0]) (rest := []) ⟨hx, hb, hml, hown, hts⟩ (w_ModelReader_readBody l hlt G K ad sv I2 J2 B2 D2 (-1) 0 _ _ H.size hok) zf_ModelReader_readBody zn_346 ⟨Nat.le_of_ble_eq_true rfl, Nat.le_of_ble_eq_true rfl⟩ hK hT hw hA (List.range 65) [] wX_all rfl wX_nd (by decide) (fun i hi => by cases hi) wX_g5 rfl rfl hl.1 rfl (Nat.le_of_ble_eq_true rfl) zd_ModelReader_readAll_122 ⟨Nat.le_of_ble_eq_true rfl, Nat.le_of_ble_eq_true rfl⟩ (fun v st9 t9 L9 h0 hq hL => ?_) (fun E ce q9 u H locs hu hw hce hcv hcl => z_yout (u := u) hnt hlocks hce hcv hcl hw (List.range 65) wX_all wX_nd hu (Nat.le_of_ble_eq_true rfl) (Nat.le_of_ble_eq_true rfl))
  obtain ⟨⟨u, hv9, hok, hB9⟩, hF9⟩ := hq
  cases hv9
  have hw := z_back (wr := []) hw hA (List.range 65) [] wX_all rfl (by decide) (fun i hi => by cases hi) h0 hL hB9 hF9
  obtain ⟨I3, J3, B3, D3⟩ := u
  dsimp only at hok
  generalize t9.heap = H at hw ⊢
  generalize locs ++ L9 = locs at hw ⊢
  have hw : zW G A s.heap (wX ad K sv I3 J3 B3 D3) H locs := hw
  refine W.eq (g2 := F0 m 125 ls []) rfl ?_
  refine lv_aload_n hx hb zd_ModelReader_readAll_125 rfl (lv_at hl 0 rfl) ?_
  refine z_yV (q0 := 5) (wc := (wX ad K sv I3 J3 B3 D3)) (wr := []) (w1 := fun (u : zS) => wX ad K sv u.1 u.2.1 u.2.2.1 u.2.2.2) (As := []) (rest := []) ⟨hx, hb, hml, hown, hts⟩ (w_ModelReader_endProcess l hlt G K ad sv I3 J3 B3 D3  _ _ H.size hok) zf_ModelReader_endProcess zn_376 ⟨Nat.le_of_ble_eq_true rfl, Nat.le_of_ble_eq_true rfl⟩ hK hT hw hA (List.range 65) [] wX_all rfl wX_nd (by decide) (fun i hi => by cases hi) wX_g5 rfl rfl hl.1 rfl (Nat.le_of_ble_eq_true rfl) zd_ModelReader_readAll_126 ⟨Nat.le_of_ble_eq_true rfl, Nat.le_of_ble_eq_true rfl⟩ (fun v st9 t9 L9 h0 hq hL => ?_) (fun E ce q9 u H locs hu hw hce hcv hcl => z_yout (u := u) hnt hlocks hce hcv hcl hw (List.range 65) wX_all wX_nd hu (Nat.le_of_ble_eq_true rfl) (Nat.le_of_ble_eq_true rfl))
  obtain ⟨⟨u, hv9, hok, hB9⟩, hF9⟩ := hq
  cases hv9
  have hw := z_back (wr := []) hw hA (List.range 65) [] wX_all rfl (by decide) (fun i hi => by cases hi) h0 hL hB9 hF9
  obtain ⟨I4, J4, B4, D4⟩ := u
  dsimp only at hok
  generalize t9.heap = H at hw ⊢
  generalize locs ++ L9 = locs at hw ⊢
  have hw : zW G A s.heap (wX ad K sv I4 J4 B4 D4) H locs := hw
  refine W.eq (g2 := F0 m 129 ls []) rfl ?_
  obtain ⟨z5, ez5⟩ : ∃ z : Int32, z = (x1 + 1) := ⟨_, rfl⟩
  have hok := hok z5 ez5
  refine lv_iinc (v := z5) hx hb zd_ModelReader_readAll_129 hl (k := 1) rfl ez5.symm (by decide) rfl (fun ls hl => ?_)
  have hl : lv_has ls 2 [(1, .int z5), (0, .ref (ad 5))] := hl
  refine lv_goto (tgt := 54) hx hb zd_ModelReader_readAll_132 (by decide) ?_
  exact kh54 z5 I4 J4 B4 D4 ls H locs hok (lv_sub hl [1, 0] rfl) hw
set_option maxHeartbeats 8000000 in
set_option maxRecDepth 100000 in
theorem wJ_ModelReader_readAll_98 {p : Program} {l : Launch} {e : Env} {s : State} {m : MethodId} {below : List Frame} {meth : Method} {c : Code} {A : Nat → Prop} (G : va_G) (K : Nat → ClassId) (ad : Nat → Nat) (sv : Value) (Post : (Nat → Int32) → (Nat → Int64) → (Nat → Nat → Int32) → (Nat → Nat → Int64) → Prop) (PX : String → (Nat → Int32) → (Nat → Int64) → (Nat → Nat → Int32) → (Nat → Nat → Int64) → Prop) (C : zCy p l s m ([.ref (ad 5)] : List Value).toArray meth c A G K prog_5_method_2_code none 2 "LassoFinder$ModelReader") (K54 : Int32 → (Nat → Int32) → (Nat → Int64) → (Nat → Nat → Int32) → (Nat → Nat → Int64) → Prop) (kh54 : ∀ (x1 : Int32) (I : Nat → Int32) (J : Nat → Int64) (B : Nat → Nat → Int32) (D : Nat → Nat → Int64) (ls : Array Slot) (H : Heap) (locs : List Loc), K54 x1 I J B D → lv_has ls 2 [(0, .ref (ad 5)), (1, .int x1)] → zW G A s.heap (wX ad K sv I J B D) H locs → W p l e { frames := 35, cells := 1, slots := 6, locals := 817 } s m ([.ref (ad 5)] : List Value).toArray below meth c H locs 0 0 (zyMQ below (va_Qv (fun u : zS => Post u.1 u.2.1 u.2.2.1 u.2.2.2) (fun u t => zPost G K A (wX ad K sv u.1 u.2.1 u.2.2.1 u.2.2.2) t) A) (zYC (fun E (u : zS) => PX E u.1 u.2.1 u.2.2.1 u.2.2.2) (fun u => wX ad K sv u.1 u.2.1 u.2.2.1 u.2.2.2) G K A) ([.ref (ad 5)] : List Value).toArray s 1 6 A) (F0 m 54 ls [])) : ∀ (x1 : Int32) (I : Nat → Int32) (J : Nat → Int64) (B : Nat → Nat → Int32) (D : Nat → Nat → Int64) (ls : Array Slot) (H : Heap) (locs : List Loc), wc_ModelReader_readAll_98  K54 Post PX x1 I J B D → lv_has ls 2 [(0, .ref (ad 5)), (1, .int x1)] → zW G A s.heap (wX ad K sv I J B D) H locs → W p l e { frames := 35, cells := 1, slots := 6, locals := 817 } s m ([.ref (ad 5)] : List Value).toArray below meth c H locs 0 0 (zyMQ below (va_Qv (fun u : zS => Post u.1 u.2.1 u.2.2.1 u.2.2.2) (fun u t => zPost G K A (wX ad K sv u.1 u.2.1 u.2.2.1 u.2.2.2) t) A) (zYC (fun E (u : zS) => PX E u.1 u.2.1 u.2.2.1 u.2.2.2) (fun u => wX ad K sv u.1 u.2.1 u.2.2.1 u.2.2.2) G K A) ([.ref (ad 5)] : List Value).toArray s 1 6 A) (F0 m 98 ls []) := by
  obtain ⟨hx, hb, hr, hml, hts, hown, hlocks, hA, hK, hT, hnt, hlt⟩ := id C
  intro x1 I J B D ls H locs hok hl hw
  unfold wc_ModelReader_readAll_98 at hok
  refine lv_aload_n hx hb zd_ModelReader_readAll_98 rfl (lv_at hl 0 rfl) ?_
  refine z_get (v := .ref (ad 1)) hx hb hts hown hK hw zZ4 5 wX_g5 0 (by decide) zn_422 rfl zd_ModelReader_readAll_99 ?_
  refine z_yV (q0 := 1) (wc := (wX ad K sv I J B D)) (wr := []) (w1 := fun (u : zS) => wX ad K sv u.1 u.2.1 u.2.2.1 u.2.2.2) (As := []) (rest := []) ⟨hx, hb, hml, hown, hts⟩ (w_Text_refuse l hlt G K ad sv I J B D  _ _ H.size hok) zf_Text_refuse zn_336 ⟨Nat.le_of_ble_eq_true rfl, Nat.le_of_ble_eq_true rfl⟩ hK hT hw hA (List.range 65) [] wX_all rfl wX_nd (by decide) (fun i hi => by cases hi) wX_g1 rfl rfl hl.1 rfl (Nat.le_of_ble_eq_true rfl) zd_ModelReader_readAll_102 ⟨Nat.le_of_ble_eq_true rfl, Nat.le_of_ble_eq_true rfl⟩ (fun v st9 t9 L9 h0 hq hL => ?_) (fun E ce q9 u H locs hu hw hce hcv hcl => z_yout (u := u) hnt hlocks hce hcv hcl hw (List.range 65) wX_all wX_nd hu (Nat.le_of_ble_eq_true rfl) (Nat.le_of_ble_eq_true rfl))
  obtain ⟨⟨u, hv9, hok, hB9⟩, hF9⟩ := hq
  cases hv9
  have hw := z_back (wr := []) hw hA (List.range 65) [] wX_all rfl (by decide) (fun i hi => by cases hi) h0 hL hB9 hF9
  obtain ⟨I6, J6, B6, D6⟩ := u
  dsimp only at hok
  generalize t9.heap = H at hw ⊢
  generalize locs ++ L9 = locs at hw ⊢
  have hw : zW G A s.heap (wX ad K sv I6 J6 B6 D6) H locs := hw
  refine W.eq (g2 := F0 m 105 ls []) rfl ?_
  exact wJ_ModelReader_readAll_105 G K ad sv  Post PX C K54 kh54 x1 I6 J6 B6 D6 ls H locs hok (lv_sub hl [0, 1] rfl) hw
set_option maxHeartbeats 8000000 in
set_option maxRecDepth 100000 in
theorem wJ_ModelReader_readAll_75 {p : Program} {l : Launch} {e : Env} {s : State} {m : MethodId} {below : List Frame} {meth : Method} {c : Code} {A : Nat → Prop} (G : va_G) (K : Nat → ClassId) (ad : Nat → Nat) (sv : Value) (Post : (Nat → Int32) → (Nat → Int64) → (Nat → Nat → Int32) → (Nat → Nat → Int64) → Prop) (PX : String → (Nat → Int32) → (Nat → Int64) → (Nat → Nat → Int32) → (Nat → Nat → Int64) → Prop) (C : zCy p l s m ([.ref (ad 5)] : List Value).toArray meth c A G K prog_5_method_2_code none 2 "LassoFinder$ModelReader") (K54 : Int32 → (Nat → Int32) → (Nat → Int64) → (Nat → Nat → Int32) → (Nat → Nat → Int64) → Prop) (kh54 : ∀ (x1 : Int32) (I : Nat → Int32) (J : Nat → Int64) (B : Nat → Nat → Int32) (D : Nat → Nat → Int64) (ls : Array Slot) (H : Heap) (locs : List Loc), K54 x1 I J B D → lv_has ls 2 [(0, .ref (ad 5)), (1, .int x1)] → zW G A s.heap (wX ad K sv I J B D) H locs → W p l e { frames := 35, cells := 1, slots := 6, locals := 817 } s m ([.ref (ad 5)] : List Value).toArray below meth c H locs 0 0 (zyMQ below (va_Qv (fun u : zS => Post u.1 u.2.1 u.2.2.1 u.2.2.2) (fun u t => zPost G K A (wX ad K sv u.1 u.2.1 u.2.2.1 u.2.2.2) t) A) (zYC (fun E (u : zS) => PX E u.1 u.2.1 u.2.2.1 u.2.2.2) (fun u => wX ad K sv u.1 u.2.1 u.2.2.1 u.2.2.2) G K A) ([.ref (ad 5)] : List Value).toArray s 1 6 A) (F0 m 54 ls [])) : ∀ (x1 : Int32) (I : Nat → Int32) (J : Nat → Int64) (B : Nat → Nat → Int32) (D : Nat → Nat → Int64) (ls : Array Slot) (H : Heap) (locs : List Loc), wc_ModelReader_readAll_75  K54 Post PX x1 I J B D → lv_has ls 2 [(0, .ref (ad 5)), (1, .int x1)] → zW G A s.heap (wX ad K sv I J B D) H locs → W p l e { frames := 35, cells := 1, slots := 6, locals := 817 } s m ([.ref (ad 5)] : List Value).toArray below meth c H locs 0 0 (zyMQ below (va_Qv (fun u : zS => Post u.1 u.2.1 u.2.2.1 u.2.2.2) (fun u t => zPost G K A (wX ad K sv u.1 u.2.1 u.2.2.1 u.2.2.2) t) A) (zYC (fun E (u : zS) => PX E u.1 u.2.1 u.2.2.1 u.2.2.2) (fun u => wX ad K sv u.1 u.2.1 u.2.2.1 u.2.2.2) G K A) ([.ref (ad 5)] : List Value).toArray s 1 6 A) (F0 m 75 ls []) := by
  obtain ⟨hx, hb, hr, hml, hts, hown, hlocks, hA, hK, hT, hnt, hlt⟩ := id C
  intro x1 I J B D ls H locs hok hl hw
  unfold wc_ModelReader_readAll_75 at hok
  refine lv_aload_n hx hb zd_ModelReader_readAll_75 rfl (lv_at hl 0 rfl) ?_
  refine z_get (v := .ref (ad 1)) hx hb hts hown hK hw zZ4 5 wX_g5 0 (by decide) zn_422 rfl zd_ModelReader_readAll_76 ?_
  refine z_calli (w1 := fun (u : zS) => wX ad K sv u.1 u.2.1 u.2.2.1 u.2.2.2) (wr := []) (z_runV (q0 := 1) (wc := (wX ad K sv I J B D)) (As := []) (rest := []) ⟨hx, hb, hml, hown, hts⟩ (w_Text_ahead l G K ad sv I J B D  _ H.size hok) zf_Text_ahead zn_330 ⟨Nat.le_of_ble_eq_true rfl, Nat.le_of_ble_eq_true rfl⟩ hK hw (List.range 65) wX_all wX_nd wX_g1 rfl rfl hl.1 rfl (Nat.le_of_ble_eq_true rfl) zd_ModelReader_readAll_79 ⟨Nat.le_of_ble_eq_true rfl, Nat.le_of_ble_eq_true rfl⟩) hw hA (List.range 65) [] wX_all rfl (by decide) (fun i hi => by cases hi) (fun r7 u H locs hok hw => ?_)
  obtain ⟨I7, J7, B7, D7⟩ := u
  dsimp only at hok
  have hw : zW G A s.heap (wX ad K sv I7 J7 B7 D7) H locs := hw
  refine lv_bipush (v := 123) hx hb zd_ModelReader_readAll_82 (by decide) ?_
  refine lv_icmp_ne (tgt := 98) hx hb zd_ModelReader_readAll_84 (by decide) (fun hc8 => ?_) (fun hc8 => ?_)
  · have hok := hok.1 hc8
    exact wJ_ModelReader_readAll_98 G K ad sv  Post PX C K54 kh54 x1 I7 J7 B7 D7 ls H locs hok (lv_sub hl [0, 1] rfl) hw
  · have hok := hok.2 hc8
    refine lv_aload_n hx hb zd_ModelReader_readAll_87 rfl (lv_at hl 0 rfl) ?_
    refine z_get (v := .ref (ad 3)) hx hb hts hown hK hw zZ4 5 wX_g5 3 (by decide) zn_421 rfl zd_ModelReader_readAll_88 ?_
    refine z_get (v := .int (I7 10)) hx hb hts hown hK hw zZ6 3 wX_g3 13 (by decide) zn_423 rfl zd_ModelReader_readAll_91 ?_
    refine lv_iconst (v := 4) hx hb zd_ModelReader_readAll_94 (by decide) ?_
    refine lv_icmp_ne (tgt := 105) hx hb zd_ModelReader_readAll_95 (by decide) (fun hc9 => ?_) (fun hc9 => ?_)
    · have hok := hok.1 hc9
      exact wJ_ModelReader_readAll_105 G K ad sv  Post PX C K54 kh54 x1 I7 J7 B7 D7 ls H locs hok (lv_sub hl [0, 1] rfl) hw
    · have hok := hok.2 hc9
      exact wJ_ModelReader_readAll_98 G K ad sv  Post PX C K54 kh54 x1 I7 J7 B7 D7 ls H locs hok (lv_sub hl [0, 1] rfl) hw
set_option maxHeartbeats 8000000 in
set_option maxRecDepth 100000 in
theorem wB_ModelReader_readAll_54 {p : Program} {l : Launch} {e : Env} {s : State} {m : MethodId} {below : List Frame} {meth : Method} {c : Code} {A : Nat → Prop} (G : va_G) (K : Nat → ClassId) (ad : Nat → Nat) (sv : Value) (Post : (Nat → Int32) → (Nat → Int64) → (Nat → Nat → Int32) → (Nat → Nat → Int64) → Prop) (PX : String → (Nat → Int32) → (Nat → Int64) → (Nat → Nat → Int32) → (Nat → Nat → Int64) → Prop) (C : zCy p l s m ([.ref (ad 5)] : List Value).toArray meth c A G K prog_5_method_2_code none 2 "LassoFinder$ModelReader") (K54 : Int32 → (Nat → Int32) → (Nat → Int64) → (Nat → Nat → Int32) → (Nat → Nat → Int64) → Prop) (kh54 : ∀ (x1 : Int32) (I : Nat → Int32) (J : Nat → Int64) (B : Nat → Nat → Int32) (D : Nat → Nat → Int64) (ls : Array Slot) (H : Heap) (locs : List Loc), K54 x1 I J B D → lv_has ls 2 [(0, .ref (ad 5)), (1, .int x1)] → zW G A s.heap (wX ad K sv I J B D) H locs → W p l e { frames := 35, cells := 1, slots := 6, locals := 817 } s m ([.ref (ad 5)] : List Value).toArray below meth c H locs 0 0 (zyMQ below (va_Qv (fun u : zS => Post u.1 u.2.1 u.2.2.1 u.2.2.2) (fun u t => zPost G K A (wX ad K sv u.1 u.2.1 u.2.2.1 u.2.2.2) t) A) (zYC (fun E (u : zS) => PX E u.1 u.2.1 u.2.2.1 u.2.2.2) (fun u => wX ad K sv u.1 u.2.1 u.2.2.1 u.2.2.2) G K A) ([.ref (ad 5)] : List Value).toArray s 1 6 A) (F0 m 54 ls [])) : ∀ (x1 : Int32) (I : Nat → Int32) (J : Nat → Int64) (B : Nat → Nat → Int32) (D : Nat → Nat → Int64) (ls : Array Slot) (H : Heap) (locs : List Loc), wb_ModelReader_readAll_54  K54 Post PX x1 I J B D → lv_has ls 2 [(0, .ref (ad 5)), (1, .int x1)] → zW G A s.heap (wX ad K sv I J B D) H locs → W p l e { frames := 35, cells := 1, slots := 6, locals := 817 } s m ([.ref (ad 5)] : List Value).toArray below meth c H locs 0 0 (zyMQ below (va_Qv (fun u : zS => Post u.1 u.2.1 u.2.2.1 u.2.2.2) (fun u t => zPost G K A (wX ad K sv u.1 u.2.1 u.2.2.1 u.2.2.2) t) A) (zYC (fun E (u : zS) => PX E u.1 u.2.1 u.2.2.1 u.2.2.2) (fun u => wX ad K sv u.1 u.2.1 u.2.2.1 u.2.2.2) G K A) ([.ref (ad 5)] : List Value).toArray s 1 6 A) (F0 m 54 ls []) := by
  obtain ⟨hx, hb, hr, hml, hts, hown, hlocks, hA, hK, hT, hnt, hlt⟩ := id C
  intro x1 I J B D ls H locs hok hl hw
  unfold wb_ModelReader_readAll_54 at hok
  refine lv_iload_n hx hb zd_ModelReader_readAll_54 rfl (lv_at hl 1 rfl) ?_
  refine lv_sipush (v := 240) hx hb zd_ModelReader_readAll_55 (by decide) ?_
  refine lv_icmp_ge (tgt := 135) hx hb zd_ModelReader_readAll_58 (by decide) (fun hc10 => ?_) (fun hc10 => ?_)
  · have hok := hok.1 hc10
    exact wJ_ModelReader_readAll_135 G K ad sv  Post PX C I J B D ls H locs hok (lv_sub hl [] rfl) hw
  · have hok := hok.2 hc10
    refine lv_iload_n hx hb zd_ModelReader_readAll_61 rfl (lv_at hl 1 rfl) ?_
    refine lv_if_eq (tgt := 75) hx hb zd_ModelReader_readAll_62 (by decide) (fun hc11 => ?_) (fun hc11 => ?_)
    · have hok := hok.1 hc11
      exact wJ_ModelReader_readAll_75 G K ad sv  Post PX C K54 kh54 x1 I J B D ls H locs hok (lv_sub hl [0, 1] rfl) hw
    · have hok := hok.2 hc11
      refine lv_aload_n hx hb zd_ModelReader_readAll_65 rfl (lv_at hl 0 rfl) ?_
      refine z_get (v := .ref (ad 1)) hx hb hts hown hK hw zZ4 5 wX_g5 0 (by decide) zn_422 rfl zd_ModelReader_readAll_66 ?_
      refine z_calli (w1 := fun (u : zS) => wX ad K sv u.1 u.2.1 u.2.2.1 u.2.2.2) (wr := []) (z_runV (q0 := 1) (wc := (wX ad K sv I J B D)) (As := []) (rest := []) ⟨hx, hb, hml, hown, hts⟩ (w_Text_ended l G K ad sv I J B D  _ H.size hok) zf_Text_ended zn_343 ⟨Nat.le_of_ble_eq_true rfl, Nat.le_of_ble_eq_true rfl⟩ hK hw (List.range 65) wX_all wX_nd wX_g1 rfl rfl hl.1 rfl (Nat.le_of_ble_eq_true rfl) zd_ModelReader_readAll_69 ⟨Nat.le_of_ble_eq_true rfl, Nat.le_of_ble_eq_true rfl⟩) hw hA (List.range 65) [] wX_all rfl (by decide) (fun i hi => by cases hi) (fun r12 u H locs hok hw => ?_)
      obtain ⟨I12, J12, B12, D12⟩ := u
      dsimp only at hok
      have hw : zW G A s.heap (wX ad K sv I12 J12 B12 D12) H locs := hw
      refine lv_if_ne (tgt := 135) hx hb zd_ModelReader_readAll_72 (by decide) (fun hc13 => ?_) (fun hc13 => ?_)
      · have hok := hok.1 hc13
        exact wJ_ModelReader_readAll_135 G K ad sv  Post PX C I12 J12 B12 D12 ls H locs hok (lv_sub hl [] rfl) hw
      · have hok := hok.2 hc13
        exact wJ_ModelReader_readAll_75 G K ad sv  Post PX C K54 kh54 x1 I12 J12 B12 D12 ls H locs hok (lv_sub hl [0, 1] rfl) hw
theorem wL_ModelReader_readAll_54 {p : Program} {l : Launch} {e : Env} {s : State} {m : MethodId} {below : List Frame} {meth : Method} {c : Code} {A : Nat → Prop} (G : va_G) (K : Nat → ClassId) (ad : Nat → Nat) (sv : Value) (Post : (Nat → Int32) → (Nat → Int64) → (Nat → Nat → Int32) → (Nat → Nat → Int64) → Prop) (PX : String → (Nat → Int32) → (Nat → Int64) → (Nat → Nat → Int32) → (Nat → Nat → Int64) → Prop) (C : zCy p l s m ([.ref (ad 5)] : List Value).toArray meth c A G K prog_5_method_2_code none 2 "LassoFinder$ModelReader") : ∀ (n : Nat) (x1 : Int32) (I : Nat → Int32) (J : Nat → Int64) (B : Nat → Nat → Int32) (D : Nat → Nat → Int64) (ls : Array Slot) (H : Heap) (locs : List Loc), wl_ModelReader_readAll_54  Post PX n x1 I J B D → lv_has ls 2 [(0, .ref (ad 5)), (1, .int x1)] → zW G A s.heap (wX ad K sv I J B D) H locs → W p l e { frames := 35, cells := 1, slots := 6, locals := 817 } s m ([.ref (ad 5)] : List Value).toArray below meth c H locs 0 0 (zyMQ below (va_Qv (fun u : zS => Post u.1 u.2.1 u.2.2.1 u.2.2.2) (fun u t => zPost G K A (wX ad K sv u.1 u.2.1 u.2.2.1 u.2.2.2) t) A) (zYC (fun E (u : zS) => PX E u.1 u.2.1 u.2.2.1 u.2.2.2) (fun u => wX ad K sv u.1 u.2.1 u.2.2.1 u.2.2.2) G K A) ([.ref (ad 5)] : List Value).toArray s 1 6 A) (F0 m 54 ls []) := by
  intro n
  induction n with
  | zero => intro x1 I J B D ls H locs hok; exact hok.elim
  | succ n ih => exact wB_ModelReader_readAll_54 G K ad sv  Post PX C (wl_ModelReader_readAll_54  Post PX n) ih
set_option maxHeartbeats 8000000 in
set_option maxRecDepth 100000 in
theorem wJ_ModelReader_readAll_52 {p : Program} {l : Launch} {e : Env} {s : State} {m : MethodId} {below : List Frame} {meth : Method} {c : Code} {A : Nat → Prop} (G : va_G) (K : Nat → ClassId) (ad : Nat → Nat) (sv : Value) (Post : (Nat → Int32) → (Nat → Int64) → (Nat → Nat → Int32) → (Nat → Nat → Int64) → Prop) (PX : String → (Nat → Int32) → (Nat → Int64) → (Nat → Nat → Int32) → (Nat → Nat → Int64) → Prop) (C : zCy p l s m ([.ref (ad 5)] : List Value).toArray meth c A G K prog_5_method_2_code none 2 "LassoFinder$ModelReader") : ∀  (I : Nat → Int32) (J : Nat → Int64) (B : Nat → Nat → Int32) (D : Nat → Nat → Int64) (ls : Array Slot) (H : Heap) (locs : List Loc), wc_ModelReader_readAll_52  Post PX  I J B D → lv_has ls 2 [(0, .ref (ad 5))] → zW G A s.heap (wX ad K sv I J B D) H locs → W p l e { frames := 35, cells := 1, slots := 6, locals := 817 } s m ([.ref (ad 5)] : List Value).toArray below meth c H locs 0 0 (zyMQ below (va_Qv (fun u : zS => Post u.1 u.2.1 u.2.2.1 u.2.2.2) (fun u t => zPost G K A (wX ad K sv u.1 u.2.1 u.2.2.1 u.2.2.2) t) A) (zYC (fun E (u : zS) => PX E u.1 u.2.1 u.2.2.1 u.2.2.2) (fun u => wX ad K sv u.1 u.2.1 u.2.2.1 u.2.2.2) G K A) ([.ref (ad 5)] : List Value).toArray s 1 6 A) (F0 m 52 ls []) := by
  obtain ⟨hx, hb, hr, hml, hts, hown, hlocks, hA, hK, hT, hnt, hlt⟩ := id C
  intro  I J B D ls H locs hok hl hw
  unfold wc_ModelReader_readAll_52 at hok
  refine lv_iconst (v := 0) hx hb zd_ModelReader_readAll_52 (by decide) ?_
  refine lv_istore_n hx hb zd_ModelReader_readAll_53 rfl hl (by decide) rfl (fun ls hl => ?_)
  have hl : lv_has ls 2 [(1, .int 0), (0, .ref (ad 5))] := hl
  obtain ⟨n9, hok⟩ := hok
  exact wL_ModelReader_readAll_54 G K ad sv  Post PX C n9 0 I J B D ls H locs hok (lv_sub hl [1, 0] rfl) hw
set_option maxHeartbeats 8000000 in
set_option maxRecDepth 100000 in
theorem wB_ModelReader_readAll_23 {p : Program} {l : Launch} {e : Env} {s : State} {m : MethodId} {below : List Frame} {meth : Method} {c : Code} {A : Nat → Prop} (G : va_G) (K : Nat → ClassId) (ad : Nat → Nat) (sv : Value) (Post : (Nat → Int32) → (Nat → Int64) → (Nat → Nat → Int32) → (Nat → Nat → Int64) → Prop) (PX : String → (Nat → Int32) → (Nat → Int64) → (Nat → Nat → Int32) → (Nat → Nat → Int64) → Prop) (C : zCy p l s m ([.ref (ad 5)] : List Value).toArray meth c A G K prog_5_method_2_code none 2 "LassoFinder$ModelReader") (K23 : Int32 → (Nat → Int32) → (Nat → Int64) → (Nat → Nat → Int32) → (Nat → Nat → Int64) → Prop) (kh23 : ∀ (x1 : Int32) (I : Nat → Int32) (J : Nat → Int64) (B : Nat → Nat → Int32) (D : Nat → Nat → Int64) (ls : Array Slot) (H : Heap) (locs : List Loc), K23 x1 I J B D → lv_has ls 2 [(0, .ref (ad 5)), (1, .int x1)] → zW G A s.heap (wX ad K sv I J B D) H locs → W p l e { frames := 35, cells := 1, slots := 6, locals := 817 } s m ([.ref (ad 5)] : List Value).toArray below meth c H locs 0 0 (zyMQ below (va_Qv (fun u : zS => Post u.1 u.2.1 u.2.2.1 u.2.2.2) (fun u t => zPost G K A (wX ad K sv u.1 u.2.1 u.2.2.1 u.2.2.2) t) A) (zYC (fun E (u : zS) => PX E u.1 u.2.1 u.2.2.1 u.2.2.2) (fun u => wX ad K sv u.1 u.2.1 u.2.2.1 u.2.2.2) G K A) ([.ref (ad 5)] : List Value).toArray s 1 6 A) (F0 m 23 ls [])) : ∀ (x1 : Int32) (I : Nat → Int32) (J : Nat → Int64) (B : Nat → Nat → Int32) (D : Nat → Nat → Int64) (ls : Array Slot) (H : Heap) (locs : List Loc), wb_ModelReader_readAll_23  K23 Post PX x1 I J B D → lv_has ls 2 [(0, .ref (ad 5)), (1, .int x1)] → zW G A s.heap (wX ad K sv I J B D) H locs → W p l e { frames := 35, cells := 1, slots := 6, locals := 817 } s m ([.ref (ad 5)] : List Value).toArray below meth c H locs 0 0 (zyMQ below (va_Qv (fun u : zS => Post u.1 u.2.1 u.2.2.1 u.2.2.2) (fun u t => zPost G K A (wX ad K sv u.1 u.2.1 u.2.2.1 u.2.2.2) t) A) (zYC (fun E (u : zS) => PX E u.1 u.2.1 u.2.2.1 u.2.2.2) (fun u => wX ad K sv u.1 u.2.1 u.2.2.1 u.2.2.2) G K A) ([.ref (ad 5)] : List Value).toArray s 1 6 A) (F0 m 23 ls []) := by
  obtain ⟨hx, hb, hr, hml, hts, hown, hlocks, hA, hK, hT, hnt, hlt⟩ := id C
  intro x1 I J B D ls H locs hok hl hw
  unfold wb_ModelReader_readAll_23 at hok
  refine lv_iload_n hx hb zd_ModelReader_readAll_23 rfl (lv_at hl 1 rfl) ?_
  refine lv_sipush (v := 240) hx hb zd_ModelReader_readAll_24 (by decide) ?_
  refine lv_icmp_ge (tgt := 52) hx hb zd_ModelReader_readAll_27 (by decide) (fun hc14 => ?_) (fun hc14 => ?_)
  · have hok := hok.1 hc14
    exact wJ_ModelReader_readAll_52 G K ad sv  Post PX C I J B D ls H locs hok (lv_sub hl [0] rfl) hw
  · have hok := hok.2 hc14
    refine lv_aload_n hx hb zd_ModelReader_readAll_30 rfl (lv_at hl 0 rfl) ?_
    refine z_get (v := .ref (ad 1)) hx hb hts hown hK hw zZ4 5 wX_g5 0 (by decide) zn_422 rfl zd_ModelReader_readAll_31 ?_
    refine z_calli (w1 := fun (u : zS) => wX ad K sv u.1 u.2.1 u.2.2.1 u.2.2.2) (wr := []) (z_runV (q0 := 1) (wc := (wX ad K sv I J B D)) (As := []) (rest := []) ⟨hx, hb, hml, hown, hts⟩ (w_Text_ahead l G K ad sv I J B D  _ H.size hok) zf_Text_ahead zn_330 ⟨Nat.le_of_ble_eq_true rfl, Nat.le_of_ble_eq_true rfl⟩ hK hw (List.range 65) wX_all wX_nd wX_g1 rfl rfl hl.1 rfl (Nat.le_of_ble_eq_true rfl) zd_ModelReader_readAll_34 ⟨Nat.le_of_ble_eq_true rfl, Nat.le_of_ble_eq_true rfl⟩) hw hA (List.range 65) [] wX_all rfl (by decide) (fun i hi => by cases hi) (fun r15 u H locs hok hw => ?_)
    obtain ⟨I15, J15, B15, D15⟩ := u
    dsimp only at hok
    have hw : zW G A s.heap (wX ad K sv I15 J15 B15 D15) H locs := hw
    refine lv_bipush (v := 123) hx hb zd_ModelReader_readAll_37 (by decide) ?_
    refine lv_icmp_eq (tgt := 52) hx hb zd_ModelReader_readAll_39 (by decide) (fun hc16 => ?_) (fun hc16 => ?_)
    · have hok := hok.1 hc16
      exact wJ_ModelReader_readAll_52 G K ad sv  Post PX C I15 J15 B15 D15 ls H locs hok (lv_sub hl [0] rfl) hw
    · have hok := hok.2 hc16
      refine lv_aload_n hx hb zd_ModelReader_readAll_42 rfl (lv_at hl 0 rfl) ?_
      refine z_yV (q0 := 5) (wc := (wX ad K sv I15 J15 B15 D15)) (wr := []) (w1 := fun (u : zS) => wX ad K sv u.1 u.2.1 u.2.2.1 u.2.2.2) (As := []) (rest := []) ⟨hx, hb, hml, hown, hts⟩ (w_ModelReader_readDeclaration l hlt G K ad sv I15 J15 B15 D15  _ _ H.size hok) zf_ModelReader_readDeclaration zn_331 ⟨Nat.le_of_ble_eq_true rfl, Nat.le_of_ble_eq_true rfl⟩ hK hT hw hA (List.range 65) [] wX_all rfl wX_nd (by decide) (fun i hi => by cases hi) wX_g5 rfl rfl hl.1 rfl (Nat.le_of_ble_eq_true rfl) zd_ModelReader_readAll_43 ⟨Nat.le_of_ble_eq_true rfl, Nat.le_of_ble_eq_true rfl⟩ (fun v st9 t9 L9 h0 hq hL => ?_) (fun E ce q9 u H locs hu hw hce hcv hcl => z_yout (u := u) hnt hlocks hce hcv hcl hw (List.range 65) wX_all wX_nd hu (Nat.le_of_ble_eq_true rfl) (Nat.le_of_ble_eq_true rfl))
      obtain ⟨⟨u, hv9, hok, hB9⟩, hF9⟩ := hq
      cases hv9
      have hw := z_back (wr := []) hw hA (List.range 65) [] wX_all rfl (by decide) (fun i hi => by cases hi) h0 hL hB9 hF9
      obtain ⟨I17, J17, B17, D17⟩ := u
      dsimp only at hok
      generalize t9.heap = H at hw ⊢
      generalize locs ++ L9 = locs at hw ⊢
      have hw : zW G A s.heap (wX ad K sv I17 J17 B17 D17) H locs := hw
      refine W.eq (g2 := F0 m 46 ls []) rfl ?_
      obtain ⟨z18, ez18⟩ : ∃ z : Int32, z = (x1 + 1) := ⟨_, rfl⟩
      have hok := hok z18 ez18
      refine lv_iinc (v := z18) hx hb zd_ModelReader_readAll_46 hl (k := 1) rfl ez18.symm (by decide) rfl (fun ls hl => ?_)
      have hl : lv_has ls 2 [(1, .int z18), (0, .ref (ad 5))] := hl
      refine lv_goto (tgt := 23) hx hb zd_ModelReader_readAll_49 (by decide) ?_
      exact kh23 z18 I17 J17 B17 D17 ls H locs hok (lv_sub hl [1, 0] rfl) hw
theorem wL_ModelReader_readAll_23 {p : Program} {l : Launch} {e : Env} {s : State} {m : MethodId} {below : List Frame} {meth : Method} {c : Code} {A : Nat → Prop} (G : va_G) (K : Nat → ClassId) (ad : Nat → Nat) (sv : Value) (Post : (Nat → Int32) → (Nat → Int64) → (Nat → Nat → Int32) → (Nat → Nat → Int64) → Prop) (PX : String → (Nat → Int32) → (Nat → Int64) → (Nat → Nat → Int32) → (Nat → Nat → Int64) → Prop) (C : zCy p l s m ([.ref (ad 5)] : List Value).toArray meth c A G K prog_5_method_2_code none 2 "LassoFinder$ModelReader") : ∀ (n : Nat) (x1 : Int32) (I : Nat → Int32) (J : Nat → Int64) (B : Nat → Nat → Int32) (D : Nat → Nat → Int64) (ls : Array Slot) (H : Heap) (locs : List Loc), wl_ModelReader_readAll_23  Post PX n x1 I J B D → lv_has ls 2 [(0, .ref (ad 5)), (1, .int x1)] → zW G A s.heap (wX ad K sv I J B D) H locs → W p l e { frames := 35, cells := 1, slots := 6, locals := 817 } s m ([.ref (ad 5)] : List Value).toArray below meth c H locs 0 0 (zyMQ below (va_Qv (fun u : zS => Post u.1 u.2.1 u.2.2.1 u.2.2.2) (fun u t => zPost G K A (wX ad K sv u.1 u.2.1 u.2.2.1 u.2.2.2) t) A) (zYC (fun E (u : zS) => PX E u.1 u.2.1 u.2.2.1 u.2.2.2) (fun u => wX ad K sv u.1 u.2.1 u.2.2.1 u.2.2.2) G K A) ([.ref (ad 5)] : List Value).toArray s 1 6 A) (F0 m 23 ls []) := by
  intro n
  induction n with
  | zero => intro x1 I J B D ls H locs hok; exact hok.elim
  | succ n ih => exact wB_ModelReader_readAll_23 G K ad sv  Post PX C (wl_ModelReader_readAll_23  Post PX n) ih
set_option maxHeartbeats 8000000 in
set_option maxRecDepth 100000 in
theorem w_ModelReader_readAll (l : Launch) (hlt : l.stackTraces = false) (G : va_G) (K : Nat → ClassId) (ad : Nat → Nat) (sv : Value) (I : Nat → Int32) (J : Nat → Int64) (B : Nat → Nat → Int32) (D : Nat → Nat → Int64) (Post : (Nat → Int32) → (Nat → Int64) → (Nat → Nat → Int32) → (Nat → Nat → Int64) → Prop) (PX : String → (Nat → Int32) → (Nat → Int64) → (Nat → Nat → Int32) → (Nat → Nat → Int64) → Prop) (sz : Nat) (hok : wp_ModelReader_readAll I J B D  Post PX) : zyMet l zy_ModelReader_readAll (Cond.code zy_ModelReader_readAll prog_5_method_2_code 2 none :: zTB) { frames := 35, cells := 1, slots := 6, locals := 817 } (va_Pc [.ref (ad 5)] (zPreY G K (wX ad K sv I J B D) sz)) (va_Qv (fun u : zS => Post u.1 u.2.1 u.2.2.1 u.2.2.2) (fun u t => zPost G K (va_A (wX ad K sv I J B D) sz) (wX ad K sv u.1 u.2.1 u.2.2.1 u.2.2.2) t) (va_A (wX ad K sv I J B D) sz)) (zYC (fun E (u : zS) => PX E u.1 u.2.1 u.2.2.1 u.2.2.2) (fun u => wX ad K sv u.1 u.2.1 u.2.2.1 u.2.2.2) G K (va_A (wX ad K sv I J B D) sz)) 1 6 (va_A (wX ad K sv I J B D) sz) := by
  refine zMetY (y := zy_ModelReader_readAll) (av := [.ref (ad 5)]) (maxL := 2) (cc := prog_5_method_2_code) (ret := none) (W0 := (wX ad K sv I J B D)) (sz := sz) (G := G) (K := K) (wt := zTB) (mc := 1) (ms := 6) (Qf := fun A => va_Qv (fun u : zS => Post u.1 u.2.1 u.2.2.1 u.2.2.2) (fun u t => zPost G K A (wX ad K sv u.1 u.2.1 u.2.2.1 u.2.2.2) t) A) (Xf := fun A => (zYC (fun E (u : zS) => PX E u.1 u.2.1 u.2.2.1 u.2.2.2) (fun u => wX ad K sv u.1 u.2.1 u.2.2.1 u.2.2.2) G K A)) (by decide) (Nat.le_of_ble_eq_true rfl) ?_
  intro p e s m below meth c ls A hx hb hr hml hts hown hlocks hin hA hK H locs hw hsz hl hT hnt
  clear hsz
  have hown : s.vm.findClass "LassoFinder$ModelReader" = some m.cls := hown
  have C : zCy p l s m ([.ref (ad 5)] : List Value).toArray meth c A G K prog_5_method_2_code none 2 "LassoFinder$ModelReader" := ⟨hx, hb, hr, hml, hts, hown, hlocks, hA, hK, hT, hnt, hlt⟩
  have hl : lv_has ls 2 [(0, .ref (ad 5))] := hl
  have hw : zW G A s.heap (wX ad K sv I J B D) H locs := hw
  unfold wp_ModelReader_readAll at hok
  refine lv_aload_n hx hb zd_ModelReader_readAll_0 rfl (lv_at hl 0 rfl) ?_
  refine z_get (v := .ref (ad 2)) hx hb hts hown hK hw zZ4 5 wX_g5 1 (by decide) zn_419 rfl zd_ModelReader_readAll_1 ?_
  refine z_callv (w1 := fun (u : zS) => wX ad K sv u.1 u.2.1 u.2.2.1 u.2.2.2) (wr := []) (z_runV (q0 := 2) (wc := (wX ad K sv I J B D)) (As := []) (rest := []) ⟨hx, hb, hml, hown, hts⟩ (w_Names_clear l G K ad sv I J B D  _ H.size hok) zf_Names_clear zn_324 ⟨Nat.le_of_ble_eq_true rfl, Nat.le_of_ble_eq_true rfl⟩ hK hw (List.range 65) wX_all wX_nd wX_g2 rfl rfl hl.1 rfl (Nat.le_of_ble_eq_true rfl) zd_ModelReader_readAll_4 ⟨Nat.le_of_ble_eq_true rfl, Nat.le_of_ble_eq_true rfl⟩) hw hA (List.range 65) [] wX_all rfl (by decide) (fun i hi => by cases hi) (fun u H locs hok hw => ?_)
  obtain ⟨I19, J19, B19, D19⟩ := u
  dsimp only at hok
  have hw : zW G A s.heap (wX ad K sv I19 J19 B19 D19) H locs := hw
  refine lv_aload_n hx hb zd_ModelReader_readAll_7 rfl (lv_at hl 0 rfl) ?_
  refine z_get (v := .ref (ad 4)) hx hb hts hown hK hw zZ4 5 wX_g5 2 (by decide) zn_420 rfl zd_ModelReader_readAll_8 ?_
  refine z_callv (w1 := fun (u : zS) => wX ad K sv u.1 u.2.1 u.2.2.1 u.2.2.2) (wr := []) (z_runV (q0 := 4) (wc := (wX ad K sv I19 J19 B19 D19)) (As := []) (rest := []) ⟨hx, hb, hml, hown, hts⟩ (w_Terms_clear_A l G K ad sv I19 J19 B19 D19  _ H.size hok) zf_Terms_clear zn_326 ⟨Nat.le_of_ble_eq_true rfl, Nat.le_of_ble_eq_true rfl⟩ hK hw (List.range 65) wX_all wX_nd wX_g4 rfl rfl hl.1 rfl (Nat.le_of_ble_eq_true rfl) zd_ModelReader_readAll_11 ⟨Nat.le_of_ble_eq_true rfl, Nat.le_of_ble_eq_true rfl⟩) hw hA (List.range 65) [] wX_all rfl (by decide) (fun i hi => by cases hi) (fun u H locs hok hw => ?_)
  obtain ⟨I20, J20, B20, D20⟩ := u
  dsimp only at hok
  have hw : zW G A s.heap (wX ad K sv I20 J20 B20 D20) H locs := hw
  refine lv_aload_n hx hb zd_ModelReader_readAll_14 rfl (lv_at hl 0 rfl) ?_
  refine z_get (v := .ref (ad 3)) hx hb hts hown hK hw zZ4 5 wX_g5 3 (by decide) zn_421 rfl zd_ModelReader_readAll_15 ?_
  refine z_callv (w1 := fun (u : zS) => wX ad K sv u.1 u.2.1 u.2.2.1 u.2.2.2) (wr := []) (z_runV (q0 := 3) (wc := (wX ad K sv I20 J20 B20 D20)) (As := []) (rest := []) ⟨hx, hb, hml, hown, hts⟩ (w_Program_clear l G K ad sv I20 J20 B20 D20  _ H.size hok) zf_Program_clear zn_327 ⟨Nat.le_of_ble_eq_true rfl, Nat.le_of_ble_eq_true rfl⟩ hK hw (List.range 65) wX_all wX_nd wX_g3 rfl rfl hl.1 rfl (Nat.le_of_ble_eq_true rfl) zd_ModelReader_readAll_18 ⟨Nat.le_of_ble_eq_true rfl, Nat.le_of_ble_eq_true rfl⟩) hw hA (List.range 65) [] wX_all rfl (by decide) (fun i hi => by cases hi) (fun u H locs hok hw => ?_)
  obtain ⟨I21, J21, B21, D21⟩ := u
  dsimp only at hok
  have hw : zW G A s.heap (wX ad K sv I21 J21 B21 D21) H locs := hw
  refine lv_iconst (v := 0) hx hb zd_ModelReader_readAll_21 (by decide) ?_
  refine lv_istore_n hx hb zd_ModelReader_readAll_22 rfl hl (by decide) rfl (fun ls hl => ?_)
  have hl : lv_has ls 2 [(1, .int 0), (0, .ref (ad 5))] := hl
  obtain ⟨n9, hok⟩ := hok
  exact wL_ModelReader_readAll_23 G K ad sv  Post PX C n9 0 I21 J21 B21 D21 ls H locs hok (lv_sub hl [1, 0] rfl) hw
abbrev zTgf0 : Type := (Nat → Int32) → (Nat → Int64) → (Nat → Nat → Int32) → (Nat → Nat → Int64) → Int32 → Int32 → (Int32 → (Nat → Int32) → (Nat → Int64) → (Nat → Nat → Int32) → (Nat → Nat → Int64) → Prop) → (String → (Nat → Int32) → (Nat → Int64) → (Nat → Nat → Int32) → (Nat → Nat → Int64) → Prop) → Prop
abbrev zTgf1 : Type := (Nat → Int32) → (Nat → Int64) → (Nat → Nat → Int32) → (Nat → Nat → Int64) → Int32 → (Int32 → (Nat → Int32) → (Nat → Int64) → (Nat → Nat → Int32) → (Nat → Nat → Int64) → Prop) → (String → (Nat → Int32) → (Nat → Int64) → (Nat → Nat → Int32) → (Nat → Nat → Int64) → Prop) → Prop
abbrev zTgf2 : Type := (Nat → Int32) → (Nat → Int64) → (Nat → Nat → Int32) → (Nat → Nat → Int64) → Int32 → (Int32 → (Nat → Int32) → (Nat → Int64) → (Nat → Nat → Int32) → (Nat → Nat → Int64) → Prop) → (String → (Nat → Int32) → (Nat → Int64) → (Nat → Nat → Int32) → (Nat → Nat → Int64) → Prop) → Prop
abbrev zTgf3 : Type := (Nat → Int32) → (Nat → Int64) → (Nat → Nat → Int32) → (Nat → Nat → Int64) → Int32 → Int32 → Int32 → (Int32 → (Nat → Int32) → (Nat → Int64) → (Nat → Nat → Int32) → (Nat → Nat → Int64) → Prop) → (String → (Nat → Int32) → (Nat → Int64) → (Nat → Nat → Int32) → (Nat → Nat → Int64) → Prop) → Prop
def zIH_gf (l : Launch) (G : va_G) (K : Nat → ClassId) (ad : Nat → Nat) (sv : Value) (n8 : Nat) (P0 : zTgf0) (P1 : zTgf1) (P2 : zTgf2) (P3 : zTgf3) : Prop := (∀ (I : Nat → Int32) (J : Nat → Int64) (B : Nat → Nat → Int32) (D : Nat → Nat → Int64) (a0 : Int32) (a1 : Int32) (Post : Int32 → (Nat → Int32) → (Nat → Int64) → (Nat → Nat → Int32) → (Nat → Nat → Int64) → Prop) (PX : String → (Nat → Int32) → (Nat → Int64) → (Nat → Nat → Int32) → (Nat → Nat → Int64) → Prop) (sz : Nat), P0 I J B D a0 a1 Post PX → zyMet l zy_Formula_readFrom (Cond.code zy_Formula_readFrom prog_2_method_3_code 6 (some .int) :: zTB) { frames := n8 + 10, cells := 1, slots := 6, locals := (n8) * 25 + 171 } (va_Pc [.ref (ad 9), .int a0, .int a1] (zPreY G K (wX ad K sv I J B D) sz)) (va_Qi (fun (r : Int32) (u : zS) => Post r u.1 u.2.1 u.2.2.1 u.2.2.2) (fun u t => zPost G K (va_A (wX ad K sv I J B D) sz) (wX ad K sv u.1 u.2.1 u.2.2.1 u.2.2.2) t) (va_A (wX ad K sv I J B D) sz)) (zYC (fun E (u : zS) => PX E u.1 u.2.1 u.2.2.1 u.2.2.2) (fun u => wX ad K sv u.1 u.2.1 u.2.2.1 u.2.2.2) G K (va_A (wX ad K sv I J B D) sz)) 1 6 (va_A (wX ad K sv I J B D) sz)) ∧ (∀ (I : Nat → Int32) (J : Nat → Int64) (B : Nat → Nat → Int32) (D : Nat → Nat → Int64) (a0 : Int32) (Post : Int32 → (Nat → Int32) → (Nat → Int64) → (Nat → Nat → Int32) → (Nat → Nat → Int64) → Prop) (PX : String → (Nat → Int32) → (Nat → Int64) → (Nat → Nat → Int32) → (Nat → Nat → Int64) → Prop) (sz : Nat), P1 I J B D a0 Post PX → zyMet l zy_Formula_readUnit (Cond.code zy_Formula_readUnit prog_2_method_7_code 2 (some .int) :: zTB) { frames := n8 + 10, cells := 1, slots := 6, locals := (n8) * 25 + 171 } (va_Pc [.ref (ad 9), .int a0] (zPreY G K (wX ad K sv I J B D) sz)) (va_Qi (fun (r : Int32) (u : zS) => Post r u.1 u.2.1 u.2.2.1 u.2.2.2) (fun u t => zPost G K (va_A (wX ad K sv I J B D) sz) (wX ad K sv u.1 u.2.1 u.2.2.1 u.2.2.2) t) (va_A (wX ad K sv I J B D) sz)) (zYC (fun E (u : zS) => PX E u.1 u.2.1 u.2.2.1 u.2.2.2) (fun u => wX ad K sv u.1 u.2.1 u.2.2.1 u.2.2.2) G K (va_A (wX ad K sv I J B D) sz)) 1 6 (va_A (wX ad K sv I J B D) sz)) ∧ (∀ (I : Nat → Int32) (J : Nat → Int64) (B : Nat → Nat → Int32) (D : Nat → Nat → Int64) (a0 : Int32) (Post : Int32 → (Nat → Int32) → (Nat → Int64) → (Nat → Nat → Int32) → (Nat → Nat → Int64) → Prop) (PX : String → (Nat → Int32) → (Nat → Int64) → (Nat → Nat → Int32) → (Nat → Nat → Int64) → Prop) (sz : Nat), P2 I J B D a0 Post PX → zyMet l zy_Formula_readBracketed (Cond.code zy_Formula_readBracketed prog_2_method_8_code 3 (some .int) :: zTB) { frames := n8 + 10, cells := 1, slots := 6, locals := (n8) * 25 + 171 } (va_Pc [.ref (ad 9), .int a0] (zPreY G K (wX ad K sv I J B D) sz)) (va_Qi (fun (r : Int32) (u : zS) => Post r u.1 u.2.1 u.2.2.1 u.2.2.2) (fun u t => zPost G K (va_A (wX ad K sv I J B D) sz) (wX ad K sv u.1 u.2.1 u.2.2.1 u.2.2.2) t) (va_A (wX ad K sv I J B D) sz)) (zYC (fun E (u : zS) => PX E u.1 u.2.1 u.2.2.1 u.2.2.2) (fun u => wX ad K sv u.1 u.2.1 u.2.2.1 u.2.2.2) G K (va_A (wX ad K sv I J B D) sz)) 1 6 (va_A (wX ad K sv I J B D) sz)) ∧ (∀ (I : Nat → Int32) (J : Nat → Int64) (B : Nat → Nat → Int32) (D : Nat → Nat → Int64) (a0 : Int32) (a1 : Int32) (a2 : Int32) (Post : Int32 → (Nat → Int32) → (Nat → Int64) → (Nat → Nat → Int32) → (Nat → Nat → Int64) → Prop) (PX : String → (Nat → Int32) → (Nat → Int64) → (Nat → Nat → Int32) → (Nat → Nat → Int64) → Prop) (sz : Nat), P3 I J B D a0 a1 a2 Post PX → zyMet l zy_Formula_readSecond (Cond.code zy_Formula_readSecond prog_2_method_4_code 4 (some .int) :: zTB) { frames := n8 + 10, cells := 1, slots := 6, locals := (n8) * 25 + 171 } (va_Pc [.ref (ad 9), .int a0, .int a1, .int a2] (zPreY G K (wX ad K sv I J B D) sz)) (va_Qi (fun (r : Int32) (u : zS) => Post r u.1 u.2.1 u.2.2.1 u.2.2.2) (fun u t => zPost G K (va_A (wX ad K sv I J B D) sz) (wX ad K sv u.1 u.2.1 u.2.2.1 u.2.2.2) t) (va_A (wX ad K sv I J B D) sz)) (zYC (fun E (u : zS) => PX E u.1 u.2.1 u.2.2.1 u.2.2.2) (fun u => wX ad K sv u.1 u.2.1 u.2.2.1 u.2.2.2) G K (va_A (wX ad K sv I J B D) sz)) 1 6 (va_A (wX ad K sv I J B D) sz))
def wc_Formula_readFrom_R_44 (P0 : zTgf0) (P1 : zTgf1) (P2 : zTgf2) (P3 : zTgf3) (a0 : Int32) (a1 : Int32) (Post : Int32 → (Nat → Int32) → (Nat → Int64) → (Nat → Nat → Int32) → (Nat → Nat → Int64) → Prop) (PX : String → (Nat → Int32) → (Nat → Int64) → (Nat → Nat → Int32) → (Nat → Nat → Int64) → Prop) (x3 : Int32) (I : Nat → Int32) (J : Nat → Int64) (B : Nat → Nat → Int32) (D : Nat → Nat → Int64) : Prop :=
  Post x3 I J B D
def wb_Formula_readFrom_R_9 (P0 : zTgf0) (P1 : zTgf1) (P2 : zTgf2) (P3 : zTgf3) (a0 : Int32) (a1 : Int32) (K9 : Int32 → Int32 → Int32 → Int32 → (Nat → Int32) → (Nat → Int64) → (Nat → Nat → Int32) → (Nat → Nat → Int64) → Prop) (Post : Int32 → (Nat → Int32) → (Nat → Int64) → (Nat → Nat → Int32) → (Nat → Nat → Int64) → Prop) (PX : String → (Nat → Int32) → (Nat → Int64) → (Nat → Nat → Int32) → (Nat → Nat → Int64) → Prop) (x1 : Int32) (x2 : Int32) (x3 : Int32) (x4 : Int32) (I : Nat → Int32) (J : Nat → Int64) (B : Nat → Nat → Int32) (D : Nat → Nat → Int64) : Prop :=
  (((240 : Int32) ≤ x4 → Post x3 I J B D) ∧ (¬ (240 : Int32) ≤ x4 → wp_Text_ahead I J B D  (fun r2 I2 J2 B2 D2 => wp_Formula_joining I2 J2 B2 D2 r2 (fun r3 I3 J3 B3 D3 => ((r3 = (-1) → wc_Formula_readFrom_R_44 P0 P1 P2 P3 a0 a1 Post PX x3 I3 J3 B3 D3) ∧ (¬ r3 = (-1) → wp_Formula_strengthOf I3 J3 B3 D3 r3 (fun r5 I5 J5 B5 D5 => ((x1 ≤ r5 → P3 I5 J5 B5 D5 r3 x3 x2 (fun r7 I7 J7 B7 D7 => ∀ z8 : Int32, z8 = (x4 + 1) → K9 x1 x2 r7 z8 I7 J7 B7 D7) PX) ∧ (¬ x1 ≤ r5 → wc_Formula_readFrom_R_44 P0 P1 P2 P3 a0 a1 Post PX x3 I5 J5 B5 D5)))))))))
def wl_Formula_readFrom_R_9 (P0 : zTgf0) (P1 : zTgf1) (P2 : zTgf2) (P3 : zTgf3) (a0 : Int32) (a1 : Int32) (Post : Int32 → (Nat → Int32) → (Nat → Int64) → (Nat → Nat → Int32) → (Nat → Nat → Int64) → Prop) (PX : String → (Nat → Int32) → (Nat → Int64) → (Nat → Nat → Int32) → (Nat → Nat → Int64) → Prop) (n : Nat) : Int32 → Int32 → Int32 → Int32 → (Nat → Int32) → (Nat → Int64) → (Nat → Nat → Int32) → (Nat → Nat → Int64) → Prop := Nat.rec (fun _ _ _ _ _ _ _ _ => False) (fun _ r => wb_Formula_readFrom_R_9 P0 P1 P2 P3 a0 a1 r Post PX) n
def wp_Formula_readFrom_R (I : Nat → Int32) (J : Nat → Int64) (B : Nat → Nat → Int32) (D : Nat → Nat → Int64) (P0 : zTgf0) (P1 : zTgf1) (P2 : zTgf2) (P3 : zTgf3) (a0 : Int32) (a1 : Int32) (Post : Int32 → (Nat → Int32) → (Nat → Int64) → (Nat → Nat → Int32) → (Nat → Nat → Int64) → Prop) (PX : String → (Nat → Int32) → (Nat → Int64) → (Nat → Nat → Int32) → (Nat → Nat → Int64) → Prop) : Prop :=
  P1 I J B D a1 (fun r9 I9 J9 B9 D9 => ∃ n : Nat, wl_Formula_readFrom_R_9 P0 P1 P2 P3 a0 a1 Post PX n a0 a1 r9 0 I9 J9 B9 D9) PX
set_option maxHeartbeats 8000000 in
set_option maxRecDepth 100000 in
theorem wJ_Formula_readFrom_R_44 {p : Program} {l : Launch} {e : Env} {s : State} {m : MethodId} {below : List Frame} {meth : Method} {c : Code} {A : Nat → Prop} (G : va_G) (K : Nat → ClassId) (ad : Nat → Nat) (sv : Value) (P0 : zTgf0) (P1 : zTgf1) (P2 : zTgf2) (P3 : zTgf3) (a0 : Int32) (a1 : Int32) (Post : Int32 → (Nat → Int32) → (Nat → Int64) → (Nat → Nat → Int32) → (Nat → Nat → Int64) → Prop) (PX : String → (Nat → Int32) → (Nat → Int64) → (Nat → Nat → Int32) → (Nat → Nat → Int64) → Prop) (C : zCy p l s m ([.ref (ad 9), .int a0, .int a1] : List Value).toArray meth c A G K prog_2_method_3_code (some .int) 6 "LassoFinder$Formula") (n8 : Nat) (ihP : zIH_gf l G K ad sv n8 P0 P1 P2 P3) : ∀ (x3 : Int32) (I : Nat → Int32) (J : Nat → Int64) (B : Nat → Nat → Int32) (D : Nat → Nat → Int64) (ls : Array Slot) (H : Heap) (locs : List Loc), wc_Formula_readFrom_R_44 P0 P1 P2 P3 a0 a1 Post PX x3 I J B D → lv_has ls 6 [(3, .int x3)] → zW G A s.heap (wX ad K sv I J B D) H locs → W p l e { frames := n8 + 1 + 10, cells := 1, slots := 6, locals := (n8 + 1) * 25 + 171 } s m ([.ref (ad 9), .int a0, .int a1] : List Value).toArray below meth c H locs 0 0 (zyMQ below (va_Qi (fun (r : Int32) (u : zS) => Post r u.1 u.2.1 u.2.2.1 u.2.2.2) (fun u t => zPost G K A (wX ad K sv u.1 u.2.1 u.2.2.1 u.2.2.2) t) A) (zYC (fun E (u : zS) => PX E u.1 u.2.1 u.2.2.1 u.2.2.2) (fun u => wX ad K sv u.1 u.2.1 u.2.2.1 u.2.2.2) G K A) ([.ref (ad 9), .int a0, .int a1] : List Value).toArray s 1 6 A) (F0 m 44 ls []) := by
  obtain ⟨hx, hb, hr, hml, hts, hown, hlocks, hA, hK, hT, hnt, hlt⟩ := id C
  intro x3 I J B D ls H locs hok hl hw
  unfold wc_Formula_readFrom_R_44 at hok
  refine lv_iload_n hx hb zd_Formula_readFrom_44 rfl (lv_at hl 0 rfl) ?_
  exact zy_ret (z_iret (u := (I, J, B, D)) hx hb hr hlocks rfl hw (List.range 65) wX_all wX_nd hok (by first | omega | (dsimp only; omega) | exact Nat.le_of_ble_eq_true rfl) (by first | omega | (dsimp only; omega) | exact Nat.le_of_ble_eq_true rfl) zd_Formula_readFrom_45)
set_option maxHeartbeats 8000000 in
set_option maxRecDepth 100000 in
theorem wB_Formula_readFrom_R_9 {p : Program} {l : Launch} {e : Env} {s : State} {m : MethodId} {below : List Frame} {meth : Method} {c : Code} {A : Nat → Prop} (G : va_G) (K : Nat → ClassId) (ad : Nat → Nat) (sv : Value) (P0 : zTgf0) (P1 : zTgf1) (P2 : zTgf2) (P3 : zTgf3) (a0 : Int32) (a1 : Int32) (Post : Int32 → (Nat → Int32) → (Nat → Int64) → (Nat → Nat → Int32) → (Nat → Nat → Int64) → Prop) (PX : String → (Nat → Int32) → (Nat → Int64) → (Nat → Nat → Int32) → (Nat → Nat → Int64) → Prop) (C : zCy p l s m ([.ref (ad 9), .int a0, .int a1] : List Value).toArray meth c A G K prog_2_method_3_code (some .int) 6 "LassoFinder$Formula") (n8 : Nat) (ihP : zIH_gf l G K ad sv n8 P0 P1 P2 P3) (K9 : Int32 → Int32 → Int32 → Int32 → (Nat → Int32) → (Nat → Int64) → (Nat → Nat → Int32) → (Nat → Nat → Int64) → Prop) (kh9 : ∀ (x1 : Int32) (x2 : Int32) (x3 : Int32) (x4 : Int32) (I : Nat → Int32) (J : Nat → Int64) (B : Nat → Nat → Int32) (D : Nat → Nat → Int64) (ls : Array Slot) (H : Heap) (locs : List Loc), K9 x1 x2 x3 x4 I J B D → lv_has ls 6 [(0, .ref (ad 9)), (1, .int x1), (2, .int x2), (3, .int x3), (4, .int x4)] → zW G A s.heap (wX ad K sv I J B D) H locs → W p l e { frames := n8 + 1 + 10, cells := 1, slots := 6, locals := (n8 + 1) * 25 + 171 } s m ([.ref (ad 9), .int a0, .int a1] : List Value).toArray below meth c H locs 0 0 (zyMQ below (va_Qi (fun (r : Int32) (u : zS) => Post r u.1 u.2.1 u.2.2.1 u.2.2.2) (fun u t => zPost G K A (wX ad K sv u.1 u.2.1 u.2.2.1 u.2.2.2) t) A) (zYC (fun E (u : zS) => PX E u.1 u.2.1 u.2.2.1 u.2.2.2) (fun u => wX ad K sv u.1 u.2.1 u.2.2.1 u.2.2.2) G K A) ([.ref (ad 9), .int a0, .int a1] : List Value).toArray s 1 6 A) (F0 m 9 ls [])) : ∀ (x1 : Int32) (x2 : Int32) (x3 : Int32) (x4 : Int32) (I : Nat → Int32) (J : Nat → Int64) (B : Nat → Nat → Int32) (D : Nat → Nat → Int64) (ls : Array Slot) (H : Heap) (locs : List Loc), wb_Formula_readFrom_R_9 P0 P1 P2 P3 a0 a1 K9 Post PX x1 x2 x3 x4 I J B D → lv_has ls 6 [(0, .ref (ad 9)), (1, .int x1), (2, .int x2), (3, .int x3), (4, .int x4)] → zW G A s.heap (wX ad K sv I J B D) H locs → W p l e { frames := n8 + 1 + 10, cells := 1, slots := 6, locals := (n8 + 1) * 25 + 171 } s m ([.ref (ad 9), .int a0, .int a1] : List Value).toArray below meth c H locs 0 0 (zyMQ below (va_Qi (fun (r : Int32) (u : zS) => Post r u.1 u.2.1 u.2.2.1 u.2.2.2) (fun u t => zPost G K A (wX ad K sv u.1 u.2.1 u.2.2.1 u.2.2.2) t) A) (zYC (fun E (u : zS) => PX E u.1 u.2.1 u.2.2.1 u.2.2.2) (fun u => wX ad K sv u.1 u.2.1 u.2.2.1 u.2.2.2) G K A) ([.ref (ad 9), .int a0, .int a1] : List Value).toArray s 1 6 A) (F0 m 9 ls []) := by
  obtain ⟨hx, hb, hr, hml, hts, hown, hlocks, hA, hK, hT, hnt, hlt⟩ := id C
  intro x1 x2 x3 x4 I J B D ls H locs hok hl hw
  unfold wb_Formula_readFrom_R_9 at hok
  refine lv_iload hx hb zd_Formula_readFrom_9 (lv_at hl 4 rfl) ?_
  refine lv_sipush (v := 240) hx hb zd_Formula_readFrom_11 (by decide) ?_
  refine lv_icmp_ge (tgt := 61) hx hb zd_Formula_readFrom_14 (by decide) (fun hc1 => ?_) (fun hc1 => ?_)
  · have hok := hok.1 hc1
    refine lv_iload_n hx hb zd_Formula_readFrom_61 rfl (lv_at hl 3 rfl) ?_
    exact zy_ret (z_iret (u := (I, J, B, D)) hx hb hr hlocks rfl hw (List.range 65) wX_all wX_nd hok (by first | omega | (dsimp only; omega) | exact Nat.le_of_ble_eq_true rfl) (by first | omega | (dsimp only; omega) | exact Nat.le_of_ble_eq_true rfl) zd_Formula_readFrom_62)
  · have hok := hok.2 hc1
    refine lv_aload_n hx hb zd_Formula_readFrom_17 rfl (lv_at hl 0 rfl) ?_
    refine z_get (v := .ref (ad 1)) hx hb hts hown hK hw zZ1 9 wX_g9 0 (by decide) zn_518 rfl zd_Formula_readFrom_18 ?_
    refine z_calli (w1 := fun (u : zS) => wX ad K sv u.1 u.2.1 u.2.2.1 u.2.2.2) (wr := []) (z_runV (q0 := 1) (wc := (wX ad K sv I J B D)) (As := []) (rest := []) ⟨hx, hb, hml, hown, hts⟩ (w_Text_ahead l G K ad sv I J B D  _ H.size hok) zf_Text_ahead zn_488 ⟨(by first | omega | (dsimp only; omega) | exact Nat.le_of_ble_eq_true rfl), (by first | omega | (dsimp only; omega) | exact Nat.le_of_ble_eq_true rfl)⟩ hK hw (List.range 65) wX_all wX_nd wX_g1 rfl rfl hl.1 rfl (by first | omega | (dsimp only; omega) | exact Nat.le_of_ble_eq_true rfl) zd_Formula_readFrom_21 ⟨(by first | omega | (dsimp only; omega) | exact Nat.le_of_ble_eq_true rfl), (by first | omega | (dsimp only; omega) | exact Nat.le_of_ble_eq_true rfl)⟩) hw hA (List.range 65) [] wX_all rfl (by decide) (fun i hi => by cases hi) (fun r2 u H locs hok hw => ?_)
    obtain ⟨I2, J2, B2, D2⟩ := u
    dsimp only at hok
    have hw : zW G A s.heap (wX ad K sv I2 J2 B2 D2) H locs := hw
    refine z_calli (w1 := fun (u : zS) => wX ad K sv u.1 u.2.1 u.2.2.1 u.2.2.2) (wr := []) (z_runS (wc := (wX ad K sv I2 J2 B2 D2)) (As := [.int r2]) (rest := []) ⟨hx, hb, hml, hown, hts⟩ (w_Formula_joining l G K ad sv I2 J2 B2 D2 r2 _ H.size hok) zf_Formula_joining zn_500 ⟨(by first | omega | (dsimp only; omega) | exact Nat.le_of_ble_eq_true rfl), (by first | omega | (dsimp only; omega) | exact Nat.le_of_ble_eq_true rfl)⟩ hK hw (List.range 65) wX_all wX_nd rfl hl.1 rfl (by first | omega | (dsimp only; omega) | exact Nat.le_of_ble_eq_true rfl) zd_Formula_readFrom_24 ⟨(by first | omega | (dsimp only; omega) | exact Nat.le_of_ble_eq_true rfl), (by first | omega | (dsimp only; omega) | exact Nat.le_of_ble_eq_true rfl)⟩) hw hA (List.range 65) [] wX_all rfl (by decide) (fun i hi => by cases hi) (fun r3 u H locs hok hw => ?_)
    obtain ⟨I3, J3, B3, D3⟩ := u
    dsimp only at hok
    have hw : zW G A s.heap (wX ad K sv I3 J3 B3 D3) H locs := hw
    refine lv_istore hx hb zd_Formula_readFrom_27 hl (by decide) rfl (fun ls hl => ?_)
    have hl : lv_has ls 6 [(5, .int r3), (0, .ref (ad 9)), (1, .int x1), (2, .int x2), (3, .int x3), (4, .int x4)] := hl
    refine lv_iload hx hb zd_Formula_readFrom_29 (lv_at hl 0 rfl) ?_
    refine lv_iconst (v := (-1)) hx hb zd_Formula_readFrom_31 (by decide) ?_
    refine lv_icmp_eq (tgt := 44) hx hb zd_Formula_readFrom_32 (by decide) (fun hc4 => ?_) (fun hc4 => ?_)
    · have hok := hok.1 hc4
      exact wJ_Formula_readFrom_R_44 G K ad sv P0 P1 P2 P3 a0 a1 Post PX C n8 ihP x3 I3 J3 B3 D3 ls H locs hok (lv_sub hl [4] rfl) hw
    · have hok := hok.2 hc4
      refine lv_iload hx hb zd_Formula_readFrom_35 (lv_at hl 0 rfl) ?_
      refine z_calli (w1 := fun (u : zS) => wX ad K sv u.1 u.2.1 u.2.2.1 u.2.2.2) (wr := []) (z_runS (wc := (wX ad K sv I3 J3 B3 D3)) (As := [.int r3]) (rest := []) ⟨hx, hb, hml, hown, hts⟩ (w_Formula_strengthOf l G K ad sv I3 J3 B3 D3 r3 _ H.size hok) zf_Formula_strengthOf zn_501 ⟨(by first | omega | (dsimp only; omega) | exact Nat.le_of_ble_eq_true rfl), (by first | omega | (dsimp only; omega) | exact Nat.le_of_ble_eq_true rfl)⟩ hK hw (List.range 65) wX_all wX_nd rfl hl.1 rfl (by first | omega | (dsimp only; omega) | exact Nat.le_of_ble_eq_true rfl) zd_Formula_readFrom_37 ⟨(by first | omega | (dsimp only; omega) | exact Nat.le_of_ble_eq_true rfl), (by first | omega | (dsimp only; omega) | exact Nat.le_of_ble_eq_true rfl)⟩) hw hA (List.range 65) [] wX_all rfl (by decide) (fun i hi => by cases hi) (fun r5 u H locs hok hw => ?_)
      obtain ⟨I5, J5, B5, D5⟩ := u
      dsimp only at hok
      have hw : zW G A s.heap (wX ad K sv I5 J5 B5 D5) H locs := hw
      refine lv_iload_n hx hb zd_Formula_readFrom_40 rfl (lv_at hl 2 rfl) ?_
      refine lv_icmp_ge (tgt := 46) hx hb zd_Formula_readFrom_41 (by decide) (fun hc6 => ?_) (fun hc6 => ?_)
      · have hok := hok.1 hc6
        refine lv_aload_n hx hb zd_Formula_readFrom_46 rfl (lv_at hl 1 rfl) ?_
        refine lv_iload hx hb zd_Formula_readFrom_47 (lv_at hl 0 rfl) ?_
        refine lv_iload_n hx hb zd_Formula_readFrom_49 rfl (lv_at hl 4 rfl) ?_
        refine lv_iload_n hx hb zd_Formula_readFrom_50 rfl (lv_at hl 3 rfl) ?_
        refine z_yV (q0 := 9) (wc := (wX ad K sv I5 J5 B5 D5)) (wr := []) (w1 := fun (u : zS) => wX ad K sv u.1 u.2.1 u.2.2.1 u.2.2.2) (As := [.int r3, .int x3, .int x2]) (rest := []) ⟨hx, hb, hml, hown, hts⟩ (ihP.2.2.2 I5 J5 B5 D5 r3 x3 x2 _ _ H.size hok) zf_Formula_readSecond zn_502 ⟨(by first | omega | (dsimp only; omega) | exact Nat.le_of_ble_eq_true rfl), (by first | omega | (dsimp only; omega) | exact Nat.le_of_ble_eq_true rfl)⟩ hK hT hw hA (List.range 65) [] wX_all rfl wX_nd (by decide) (fun i hi => by cases hi) wX_g9 rfl rfl hl.1 rfl (by first | omega | (dsimp only; omega) | exact Nat.le_of_ble_eq_true rfl) zd_Formula_readFrom_51 ⟨(by first | omega | (dsimp only; omega) | exact Nat.le_of_ble_eq_true rfl), (by first | omega | (dsimp only; omega) | exact Nat.le_of_ble_eq_true rfl)⟩ (fun v st9 t9 L9 h0 hq hL => ?_) (fun E ce q9 u H locs hu hw hce hcv hcl => z_yout (u := u) hnt hlocks hce hcv hcl hw (List.range 65) wX_all wX_nd hu (by first | omega | (dsimp only; omega) | exact Nat.le_of_ble_eq_true rfl) (by first | omega | (dsimp only; omega) | exact Nat.le_of_ble_eq_true rfl))
        obtain ⟨⟨r7, u, hv9, hok, hB9⟩, hF9⟩ := hq
        cases hv9
        have hw := z_back (wr := []) hw hA (List.range 65) [] wX_all rfl (by decide) (fun i hi => by cases hi) h0 hL hB9 hF9
        obtain ⟨I7, J7, B7, D7⟩ := u
        dsimp only at hok
        generalize t9.heap = H at hw ⊢
        generalize locs ++ L9 = locs at hw ⊢
        have hw : zW G A s.heap (wX ad K sv I7 J7 B7 D7) H locs := hw
        refine W.eq (g2 := F0 m 54 ls [.int r7]) rfl ?_
        refine lv_istore_n hx hb zd_Formula_readFrom_54 rfl hl (by decide) rfl (fun ls hl => ?_)
        have hl : lv_has ls 6 [(3, .int r7), (5, .int r3), (0, .ref (ad 9)), (1, .int x1), (2, .int x2), (4, .int x4)] := hl
        obtain ⟨z8, ez8⟩ : ∃ z : Int32, z = (x4 + 1) := ⟨_, rfl⟩
        have hok := hok z8 ez8
        refine lv_iinc (v := z8) hx hb zd_Formula_readFrom_55 hl (k := 5) rfl ez8.symm (by decide) rfl (fun ls hl => ?_)
        have hl : lv_has ls 6 [(4, .int z8), (3, .int r7), (5, .int r3), (0, .ref (ad 9)), (1, .int x1), (2, .int x2)] := hl
        refine lv_goto (tgt := 9) hx hb zd_Formula_readFrom_58 (by decide) ?_
        exact kh9 x1 x2 r7 z8 I7 J7 B7 D7 ls H locs hok (lv_sub hl [3, 4, 5, 1, 0] rfl) hw
      · have hok := hok.2 hc6
        exact wJ_Formula_readFrom_R_44 G K ad sv P0 P1 P2 P3 a0 a1 Post PX C n8 ihP x3 I5 J5 B5 D5 ls H locs hok (lv_sub hl [4] rfl) hw
theorem wL_Formula_readFrom_R_9 {p : Program} {l : Launch} {e : Env} {s : State} {m : MethodId} {below : List Frame} {meth : Method} {c : Code} {A : Nat → Prop} (G : va_G) (K : Nat → ClassId) (ad : Nat → Nat) (sv : Value) (P0 : zTgf0) (P1 : zTgf1) (P2 : zTgf2) (P3 : zTgf3) (a0 : Int32) (a1 : Int32) (Post : Int32 → (Nat → Int32) → (Nat → Int64) → (Nat → Nat → Int32) → (Nat → Nat → Int64) → Prop) (PX : String → (Nat → Int32) → (Nat → Int64) → (Nat → Nat → Int32) → (Nat → Nat → Int64) → Prop) (C : zCy p l s m ([.ref (ad 9), .int a0, .int a1] : List Value).toArray meth c A G K prog_2_method_3_code (some .int) 6 "LassoFinder$Formula") (n8 : Nat) (ihP : zIH_gf l G K ad sv n8 P0 P1 P2 P3) : ∀ (n : Nat) (x1 : Int32) (x2 : Int32) (x3 : Int32) (x4 : Int32) (I : Nat → Int32) (J : Nat → Int64) (B : Nat → Nat → Int32) (D : Nat → Nat → Int64) (ls : Array Slot) (H : Heap) (locs : List Loc), wl_Formula_readFrom_R_9 P0 P1 P2 P3 a0 a1 Post PX n x1 x2 x3 x4 I J B D → lv_has ls 6 [(0, .ref (ad 9)), (1, .int x1), (2, .int x2), (3, .int x3), (4, .int x4)] → zW G A s.heap (wX ad K sv I J B D) H locs → W p l e { frames := n8 + 1 + 10, cells := 1, slots := 6, locals := (n8 + 1) * 25 + 171 } s m ([.ref (ad 9), .int a0, .int a1] : List Value).toArray below meth c H locs 0 0 (zyMQ below (va_Qi (fun (r : Int32) (u : zS) => Post r u.1 u.2.1 u.2.2.1 u.2.2.2) (fun u t => zPost G K A (wX ad K sv u.1 u.2.1 u.2.2.1 u.2.2.2) t) A) (zYC (fun E (u : zS) => PX E u.1 u.2.1 u.2.2.1 u.2.2.2) (fun u => wX ad K sv u.1 u.2.1 u.2.2.1 u.2.2.2) G K A) ([.ref (ad 9), .int a0, .int a1] : List Value).toArray s 1 6 A) (F0 m 9 ls []) := by
  intro n
  induction n with
  | zero => intro x1 x2 x3 x4 I J B D ls H locs hok; exact hok.elim
  | succ n ih => exact wB_Formula_readFrom_R_9 G K ad sv P0 P1 P2 P3 a0 a1 Post PX C n8 ihP (wl_Formula_readFrom_R_9 P0 P1 P2 P3 a0 a1 Post PX n) ih
set_option maxHeartbeats 8000000 in
set_option maxRecDepth 100000 in
theorem w_Formula_readFrom_R (l : Launch) (hlt : l.stackTraces = false) (G : va_G) (K : Nat → ClassId) (ad : Nat → Nat) (sv : Value) (I : Nat → Int32) (J : Nat → Int64) (B : Nat → Nat → Int32) (D : Nat → Nat → Int64) (P0 : zTgf0) (P1 : zTgf1) (P2 : zTgf2) (P3 : zTgf3) (a0 : Int32) (a1 : Int32) (Post : Int32 → (Nat → Int32) → (Nat → Int64) → (Nat → Nat → Int32) → (Nat → Nat → Int64) → Prop) (PX : String → (Nat → Int32) → (Nat → Int64) → (Nat → Nat → Int32) → (Nat → Nat → Int64) → Prop) (sz : Nat) (hok : wp_Formula_readFrom_R I J B D P0 P1 P2 P3 a0 a1 Post PX) (n8 : Nat) (ihP : zIH_gf l G K ad sv n8 P0 P1 P2 P3) : zyMet l zy_Formula_readFrom (Cond.code zy_Formula_readFrom prog_2_method_3_code 6 (some .int) :: zTB) { frames := n8 + 1 + 10, cells := 1, slots := 6, locals := (n8 + 1) * 25 + 171 } (va_Pc [.ref (ad 9), .int a0, .int a1] (zPreY G K (wX ad K sv I J B D) sz)) (va_Qi (fun (r : Int32) (u : zS) => Post r u.1 u.2.1 u.2.2.1 u.2.2.2) (fun u t => zPost G K (va_A (wX ad K sv I J B D) sz) (wX ad K sv u.1 u.2.1 u.2.2.1 u.2.2.2) t) (va_A (wX ad K sv I J B D) sz)) (zYC (fun E (u : zS) => PX E u.1 u.2.1 u.2.2.1 u.2.2.2) (fun u => wX ad K sv u.1 u.2.1 u.2.2.1 u.2.2.2) G K (va_A (wX ad K sv I J B D) sz)) 1 6 (va_A (wX ad K sv I J B D) sz) := by
  refine zMetY (y := zy_Formula_readFrom) (av := [.ref (ad 9), .int a0, .int a1]) (maxL := 6) (cc := prog_2_method_3_code) (ret := (some .int)) (W0 := (wX ad K sv I J B D)) (sz := sz) (G := G) (K := K) (wt := zTB) (mc := 1) (ms := 6) (Qf := fun A => va_Qi (fun (r : Int32) (u : zS) => Post r u.1 u.2.1 u.2.2.1 u.2.2.2) (fun u t => zPost G K A (wX ad K sv u.1 u.2.1 u.2.2.1 u.2.2.2) t) A) (Xf := fun A => (zYC (fun E (u : zS) => PX E u.1 u.2.1 u.2.2.1 u.2.2.2) (fun u => wX ad K sv u.1 u.2.1 u.2.2.1 u.2.2.2) G K A)) (by decide) (by first | omega | (dsimp only; omega) | exact Nat.le_of_ble_eq_true rfl) ?_
  intro p e s m below meth c ls A hx hb hr hml hts hown hlocks hin hA hK H locs hw hsz hl hT hnt
  clear hsz
  have hown : s.vm.findClass "LassoFinder$Formula" = some m.cls := hown
  have C : zCy p l s m ([.ref (ad 9), .int a0, .int a1] : List Value).toArray meth c A G K prog_2_method_3_code (some .int) 6 "LassoFinder$Formula" := ⟨hx, hb, hr, hml, hts, hown, hlocks, hA, hK, hT, hnt, hlt⟩
  have hl : lv_has ls 6 [(0, .ref (ad 9)), (1, .int a0), (2, .int a1)] := hl
  have hw : zW G A s.heap (wX ad K sv I J B D) H locs := hw
  unfold wp_Formula_readFrom_R at hok
  refine lv_aload_n hx hb zd_Formula_readFrom_0 rfl (lv_at hl 0 rfl) ?_
  refine lv_iload_n hx hb zd_Formula_readFrom_1 rfl (lv_at hl 2 rfl) ?_
  refine z_yV (q0 := 9) (wc := (wX ad K sv I J B D)) (wr := []) (w1 := fun (u : zS) => wX ad K sv u.1 u.2.1 u.2.2.1 u.2.2.2) (As := [.int a1]) (rest := []) ⟨hx, hb, hml, hown, hts⟩ (ihP.2.1 I J B D a1 _ _ H.size hok) zf_Formula_readUnit zn_487 ⟨(by first | omega | (dsimp only; omega) | exact Nat.le_of_ble_eq_true rfl), (by first | omega | (dsimp only; omega) | exact Nat.le_of_ble_eq_true rfl)⟩ hK hT hw hA (List.range 65) [] wX_all rfl wX_nd (by decide) (fun i hi => by cases hi) wX_g9 rfl rfl hl.1 rfl (by first | omega | (dsimp only; omega) | exact Nat.le_of_ble_eq_true rfl) zd_Formula_readFrom_2 ⟨(by first | omega | (dsimp only; omega) | exact Nat.le_of_ble_eq_true rfl), (by first | omega | (dsimp only; omega) | exact Nat.le_of_ble_eq_true rfl)⟩ (fun v st9 t9 L9 h0 hq hL => ?_) (fun E ce q9 u H locs hu hw hce hcv hcl => z_yout (u := u) hnt hlocks hce hcv hcl hw (List.range 65) wX_all wX_nd hu (by first | omega | (dsimp only; omega) | exact Nat.le_of_ble_eq_true rfl) (by first | omega | (dsimp only; omega) | exact Nat.le_of_ble_eq_true rfl))
  obtain ⟨⟨r9, u, hv9, hok, hB9⟩, hF9⟩ := hq
  cases hv9
  have hw := z_back (wr := []) hw hA (List.range 65) [] wX_all rfl (by decide) (fun i hi => by cases hi) h0 hL hB9 hF9
  obtain ⟨I9, J9, B9, D9⟩ := u
  dsimp only at hok
  generalize t9.heap = H at hw ⊢
  generalize locs ++ L9 = locs at hw ⊢
  have hw : zW G A s.heap (wX ad K sv I9 J9 B9 D9) H locs := hw
  refine W.eq (g2 := F0 m 5 ls [.int r9]) rfl ?_
  refine lv_istore_n hx hb zd_Formula_readFrom_5 rfl hl (by decide) rfl (fun ls hl => ?_)
  have hl : lv_has ls 6 [(3, .int r9), (0, .ref (ad 9)), (1, .int a0), (2, .int a1)] := hl
  refine lv_iconst (v := 0) hx hb zd_Formula_readFrom_6 (by decide) ?_
  refine lv_istore hx hb zd_Formula_readFrom_7 hl (by decide) rfl (fun ls hl => ?_)
  have hl : lv_has ls 6 [(4, .int 0), (3, .int r9), (0, .ref (ad 9)), (1, .int a0), (2, .int a1)] := hl
  obtain ⟨n9, hok⟩ := hok
  exact wL_Formula_readFrom_R_9 G K ad sv P0 P1 P2 P3 a0 a1 Post PX C n8 ihP n9 a0 a1 r9 0 I9 J9 B9 D9 ls H locs hok (lv_sub hl [2, 3, 4, 1, 0] rfl) hw
