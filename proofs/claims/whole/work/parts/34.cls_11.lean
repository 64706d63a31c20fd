abbrev zy_Graph_explore : MethodName := ⟨"LassoFinder$Graph", "explore", "()Z"⟩
abbrev zy_Situation_begin : MethodName := ⟨"LassoFinder$Situation", "begin", "()V"⟩
abbrev zy_Graph_addStepsOf : MethodName := ⟨"LassoFinder$Graph", "addStepsOf", "(I)Z"⟩
abbrev zy_Formula_goDeeper : MethodName := ⟨"LassoFinder$Formula", "goDeeper", "(I)V"⟩
abbrev zy_Formula_add : MethodName := ⟨"LassoFinder$Formula", "add", "(III)I"⟩
abbrev zy_Formula_meetTemporal : MethodName := ⟨"LassoFinder$Formula", "meetTemporal", "(I)V"⟩
abbrev zy_Formula_addTemporal : MethodName := ⟨"LassoFinder$Formula", "addTemporal", "(III)I"⟩
abbrev zy_Formula_joining : MethodName := ⟨"LassoFinder$Formula", "joining", "(C)I"⟩
abbrev zy_Formula_strengthOf : MethodName := ⟨"LassoFinder$Formula", "strengthOf", "(I)I"⟩
theorem zn_388 : Cond.methodLink "LassoFinder$Graph" 48 ⟨"LassoFinder$Situation", "begin", "()V"⟩ ∈ zTB := z_in (zt_4 _ (List.mem_of_getElem? (i := 138) rfl)) rfl
theorem zn_389 : Cond.methodLink "LassoFinder$Situation" 41 ⟨"java/util/Arrays", "fill", "([II)V"⟩ ∈ zTB := z_in (zt_4 _ (List.mem_of_getElem? (i := 142) rfl)) rfl
theorem zn_390 : Cond.methodLink "LassoFinder$Situation" 59 ⟨"java/lang/System", "arraycopy", "(Ljava/lang/Object;ILjava/lang/Object;II)V"⟩ ∈ zTB := z_in (zt_4 _ (List.mem_of_getElem? (i := 143) rfl)) rfl
theorem zn_393 : Cond.methodLink "LassoFinder$Graph" 61 ⟨"LassoFinder$Graph", "addStepsOf", "(I)Z"⟩ ∈ zTB := z_in (zt_4 _ (List.mem_of_getElem? (i := 154) rfl)) rfl
theorem zn_395 : Cond.methodLink "LassoFinder$Graph" 72 ⟨"LassoFinder$Situation", "able", "()J"⟩ ∈ zTB := z_in (zt_4 _ (List.mem_of_getElem? (i := 159) rfl)) rfl
theorem zn_403 : Cond.methodLink "LassoFinder$Graph" 77 ⟨"LassoFinder$Graph", "addStepsBy", "(II)Z"⟩ ∈ zTB := z_in (zt_4 _ (List.mem_of_getElem? (i := 191) rfl)) rfl
theorem zn_411 : Cond.methodLink "LassoFinder$Graph" 65 ⟨"LassoFinder$Graph", "turnRound", "()V"⟩ ∈ zTB := z_in (zt_4 _ (List.mem_of_getElem? (i := 220) rfl)) rfl
theorem zn_479 : Cond.fieldLink "LassoFinder$Situation" 56 "LassoFinder$Program" "startPoint" "[I" ∈ zTB := z_in (zt_1 _ (List.mem_of_getElem? (i := 113) rfl)) rfl
theorem zn_480 : Cond.native ⟨"java/lang/System", "arraycopy", "(Ljava/lang/Object;ILjava/lang/Object;II)V"⟩ ∈ zTB := z_in (zt_4 _ (List.mem_of_getElem? (i := 145) rfl)) rfl
theorem zn_481 : Cond.static ⟨"java/lang/System", "arraycopy", "(Ljava/lang/Object;ILjava/lang/Object;II)V"⟩ ∈ zTB := z_in (zt_4 _ (List.mem_of_getElem? (i := 144) rfl)) rfl
theorem zn_482 : Cond.initialized "java/lang/System" ∈ zTB := z_in (zt_1 _ (List.mem_of_getElem? (i := 18) rfl)) rfl
theorem zn_489 : Cond.methodLink "LassoFinder$Formula" 89 ⟨"LassoFinder$Formula", "goDeeper", "(I)V"⟩ ∈ zTB := z_in (zt_5 _ (List.mem_of_getElem? (i := 37) rfl)) rfl
theorem zn_490 : Cond.methodLink "LassoFinder$Formula" 67 ⟨"LassoFinder$Text", "refuse", "()V"⟩ ∈ zTB := z_in (zt_5 _ (List.mem_of_getElem? (i := 41) rfl)) rfl
theorem zn_491 : Cond.methodLink "LassoFinder$Formula" 102 ⟨"LassoFinder$Text", "skip", "()V"⟩ ∈ zTB := z_in (zt_5 _ (List.mem_of_getElem? (i := 42) rfl)) rfl
theorem zn_492 : Cond.methodLink "LassoFinder$Formula" 93 ⟨"LassoFinder$Formula", "add", "(III)I"⟩ ∈ zTB := z_in (zt_5 _ (List.mem_of_getElem? (i := 43) rfl)) rfl
theorem zn_518 : Cond.fieldLink "LassoFinder$Formula" 9 "LassoFinder$Formula" "text" "LLassoFinder$Text;" ∈ zTB := z_in (zt_2 _ (List.mem_of_getElem? (i := 138) rfl)) rfl
theorem zn_519 : Cond.fieldLink "LassoFinder$Formula" 46 "LassoFinder$Formula" "size" "I" ∈ zTB := z_in (zt_2 _ (List.mem_of_getElem? (i := 153) rfl)) rfl
theorem zn_520 : Cond.fieldLink "LassoFinder$Formula" 50 "LassoFinder$Formula" "temporals" "I" ∈ zTB := z_in (zt_2 _ (List.mem_of_getElem? (i := 151) rfl)) rfl
theorem zn_521 : Cond.fieldLink "LassoFinder$Formula" 53 "LassoFinder$Formula" "temporalSigns" "I" ∈ zTB := z_in (zt_2 _ (List.mem_of_getElem? (i := 155) rfl)) rfl
theorem zn_713 : Cond.code ⟨"LassoFinder$Graph", "turnRound", "()V"⟩ prog_3_method_9_code 3 none ∈ zTB := z_in (zt_4 _ (List.mem_of_getElem? (i := 223) rfl)) rfl
theorem zn_714 : Cond.instanceMethod ⟨"LassoFinder$Graph", "turnRound", "()V"⟩ ∈ zTB := z_in (zt_4 _ (List.mem_of_getElem? (i := 222) rfl)) rfl
theorem zn_715 : Cond.code ⟨"LassoFinder$Graph", "addStepsBy", "(II)Z"⟩ prog_3_method_5_code 7 (some .boolean) ∈ zTB := z_in (zt_4 _ (List.mem_of_getElem? (i := 194) rfl)) rfl
theorem zn_716 : Cond.instanceMethod ⟨"LassoFinder$Graph", "addStepsBy", "(II)Z"⟩ ∈ zTB := z_in (zt_4 _ (List.mem_of_getElem? (i := 193) rfl)) rfl
theorem zn_717 : Cond.code ⟨"LassoFinder$Situation", "able", "()J"⟩ prog_8_method_6_code 5 (some .long) ∈ zTB := z_in (zt_4 _ (List.mem_of_getElem? (i := 162) rfl)) rfl
theorem zn_718 : Cond.selects "LassoFinder$Situation" ⟨"LassoFinder$Situation", "able", "()J"⟩ ⟨"LassoFinder$Situation", "able", "()J"⟩ ∈ zTB := z_in (zt_4 _ (List.mem_of_getElem? (i := 161) rfl)) rfl
theorem zn_719 : Cond.instanceMethod ⟨"LassoFinder$Situation", "able", "()J"⟩ ∈ zTB := z_in (zt_4 _ (List.mem_of_getElem? (i := 160) rfl)) rfl
theorem zn_720 : Cond.code ⟨"LassoFinder$Graph", "addStepsOf", "(I)Z"⟩ prog_3_method_4_code 6 (some .boolean) ∈ zTB := z_in (zt_4 _ (List.mem_of_getElem? (i := 157) rfl)) rfl
theorem zn_721 : Cond.instanceMethod ⟨"LassoFinder$Graph", "addStepsOf", "(I)Z"⟩ ∈ zTB := z_in (zt_4 _ (List.mem_of_getElem? (i := 156) rfl)) rfl
theorem zn_722 : Cond.code ⟨"LassoFinder$Situation", "begin", "()V"⟩ prog_8_method_2_code 3 none ∈ zTB := z_in (zt_4 _ (List.mem_of_getElem? (i := 141) rfl)) rfl
theorem zn_723 : Cond.selects "LassoFinder$Situation" ⟨"LassoFinder$Situation", "begin", "()V"⟩ ⟨"LassoFinder$Situation", "begin", "()V"⟩ ∈ zTB := z_in (zt_4 _ (List.mem_of_getElem? (i := 140) rfl)) rfl
theorem zn_724 : Cond.instanceMethod ⟨"LassoFinder$Situation", "begin", "()V"⟩ ∈ zTB := z_in (zt_4 _ (List.mem_of_getElem? (i := 139) rfl)) rfl
theorem zn_725 : Cond.code ⟨"LassoFinder$Formula", "goDeeper", "(I)V"⟩ prog_2_method_10_code 2 none ∈ zTB := z_in (zt_5 _ (List.mem_of_getElem? (i := 40) rfl)) rfl
theorem zn_726 : Cond.instanceMethod ⟨"LassoFinder$Formula", "goDeeper", "(I)V"⟩ ∈ zTB := z_in (zt_5 _ (List.mem_of_getElem? (i := 39) rfl)) rfl
theorem zn_727 : Cond.code ⟨"LassoFinder$Formula", "add", "(III)I"⟩ prog_2_method_13_code 4 (some .int) ∈ zTB := z_in (zt_5 _ (List.mem_of_getElem? (i := 46) rfl)) rfl
theorem zn_728 : Cond.instanceMethod ⟨"LassoFinder$Formula", "add", "(III)I"⟩ ∈ zTB := z_in (zt_5 _ (List.mem_of_getElem? (i := 45) rfl)) rfl
theorem zf_Graph_turnRound : zFaceV zy_Graph_turnRound prog_3_method_9_code 3 none 0 := ⟨zn_714, (z_in (zp_3 _ (List.mem_of_getElem? (i := 4) rfl)) rfl), zm_5, zn_713, by decide +kernel, by decide +kernel, by decide +kernel⟩
theorem zf_Graph_addStepsBy : zFaceV zy_Graph_addStepsBy prog_3_method_5_code 7 (some .boolean) 2 := ⟨zn_716, (z_in (zp_2 _ (List.mem_of_getElem? (i := 14) rfl)) rfl), zm_5, zn_715, by decide +kernel, by decide +kernel, by decide +kernel⟩
theorem zf_Situation_able : zFaceV zy_Situation_able prog_8_method_6_code 5 (some .long) 0 := ⟨zn_719, zn_718, zm_15, zn_717, by decide +kernel, by decide +kernel, by decide +kernel⟩
theorem zf_Graph_addStepsOf : zFaceV zy_Graph_addStepsOf prog_3_method_4_code 6 (some .boolean) 1 := ⟨zn_721, (z_in (zp_2 _ (List.mem_of_getElem? (i := 10) rfl)) rfl), zm_5, zn_720, by decide +kernel, by decide +kernel, by decide +kernel⟩
theorem zf_Situation_begin : zFaceV zy_Situation_begin prog_8_method_2_code 3 none 0 := ⟨zn_724, zn_723, zm_15, zn_722, by decide +kernel, by decide +kernel, by decide +kernel⟩
theorem zf_Formula_goDeeper : zFaceV zy_Formula_goDeeper prog_2_method_10_code 2 none 1 := ⟨zn_726, (z_in (zp_3 _ (List.mem_of_getElem? (i := 7) rfl)) rfl), zm_3, zn_725, by decide +kernel, by decide +kernel, by decide +kernel⟩
theorem zf_Formula_add : zFaceV zy_Formula_add prog_2_method_13_code 4 (some .int) 3 := ⟨zn_728, (z_in (zp_3 _ (List.mem_of_getElem? (i := 8) rfl)) rfl), zm_3, zn_727, by decide +kernel, by decide +kernel, by decide +kernel⟩
theorem zd_Formula_add_0 : decode prog_2_method_13_code 0 = .ok (.aload_n 0, 1) := by decide +kernel
theorem zd_Formula_add_1 : decode prog_2_method_13_code 1 = .ok (.getfield 30, 3) := by decide +kernel
theorem zd_Formula_add_4 : decode prog_2_method_13_code 4 = .ok (.aload_n 0, 1) := by decide +kernel
theorem zd_Formula_add_5 : decode prog_2_method_13_code 5 = .ok (.getfield 46, 3) := by decide +kernel
theorem zd_Formula_add_8 : decode prog_2_method_13_code 8 = .ok (.iload_n 1, 1) := by decide +kernel
theorem zd_Formula_add_9 : decode prog_2_method_13_code 9 = .ok (.iastore, 1) := by decide +kernel
theorem zd_Formula_add_10 : decode prog_2_method_13_code 10 = .ok (.aload_n 0, 1) := by decide +kernel
theorem zd_Formula_add_11 : decode prog_2_method_13_code 11 = .ok (.getfield 34, 3) := by decide +kernel
theorem zd_Formula_add_14 : decode prog_2_method_13_code 14 = .ok (.aload_n 0, 1) := by decide +kernel
theorem zd_Formula_add_15 : decode prog_2_method_13_code 15 = .ok (.getfield 46, 3) := by decide +kernel
theorem zd_Formula_add_18 : decode prog_2_method_13_code 18 = .ok (.iload_n 2, 1) := by decide +kernel
theorem zd_Formula_add_19 : decode prog_2_method_13_code 19 = .ok (.iastore, 1) := by decide +kernel
theorem zd_Formula_add_20 : decode prog_2_method_13_code 20 = .ok (.aload_n 0, 1) := by decide +kernel
theorem zd_Formula_add_21 : decode prog_2_method_13_code 21 = .ok (.getfield 37, 3) := by decide +kernel
theorem zd_Formula_add_24 : decode prog_2_method_13_code 24 = .ok (.aload_n 0, 1) := by decide +kernel
theorem zd_Formula_add_25 : decode prog_2_method_13_code 25 = .ok (.getfield 46, 3) := by decide +kernel
theorem zd_Formula_add_28 : decode prog_2_method_13_code 28 = .ok (.iload_n 3, 1) := by decide +kernel
theorem zd_Formula_add_29 : decode prog_2_method_13_code 29 = .ok (.iastore, 1) := by decide +kernel
theorem zd_Formula_add_30 : decode prog_2_method_13_code 30 = .ok (.aload_n 0, 1) := by decide +kernel
theorem zd_Formula_add_31 : decode prog_2_method_13_code 31 = .ok (.dup, 1) := by decide +kernel
theorem zd_Formula_add_32 : decode prog_2_method_13_code 32 = .ok (.getfield 46, 3) := by decide +kernel
theorem zd_Formula_add_35 : decode prog_2_method_13_code 35 = .ok (.iconst 1, 1) := by decide +kernel
theorem zd_Formula_add_36 : decode prog_2_method_13_code 36 = .ok (.iadd, 1) := by decide +kernel
theorem zd_Formula_add_37 : decode prog_2_method_13_code 37 = .ok (.putfield 46, 3) := by decide +kernel
theorem zd_Formula_add_40 : decode prog_2_method_13_code 40 = .ok (.aload_n 0, 1) := by decide +kernel
theorem zd_Formula_add_41 : decode prog_2_method_13_code 41 = .ok (.getfield 46, 3) := by decide +kernel
theorem zd_Formula_add_44 : decode prog_2_method_13_code 44 = .ok (.iconst 1, 1) := by decide +kernel
theorem zd_Formula_add_45 : decode prog_2_method_13_code 45 = .ok (.isub, 1) := by decide +kernel
theorem zd_Formula_add_46 : decode prog_2_method_13_code 46 = .ok (.ireturn, 1) := by decide +kernel
theorem zd_Formula_addTemporal_0 : decode prog_2_method_12_code 0 = .ok (.aload_n 0, 1) := by decide +kernel
theorem zd_Formula_addTemporal_1 : decode prog_2_method_12_code 1 = .ok (.iload_n 1, 1) := by decide +kernel
theorem zd_Formula_addTemporal_2 : decode prog_2_method_12_code 2 = .ok (.iload_n 2, 1) := by decide +kernel
theorem zd_Formula_addTemporal_3 : decode prog_2_method_12_code 3 = .ok (.iload_n 3, 1) := by decide +kernel
theorem zd_Formula_addTemporal_4 : decode prog_2_method_12_code 4 = .ok (.invokevirtual 93, 3) := by decide +kernel
theorem zd_Formula_addTemporal_7 : decode prog_2_method_12_code 7 = .ok (.istore 4, 2) := by decide +kernel
theorem zd_Formula_addTemporal_9 : decode prog_2_method_12_code 9 = .ok (.aload_n 0, 1) := by decide +kernel
theorem zd_Formula_addTemporal_10 : decode prog_2_method_12_code 10 = .ok (.getfield 40, 3) := by decide +kernel
theorem zd_Formula_addTemporal_13 : decode prog_2_method_12_code 13 = .ok (.aload_n 0, 1) := by decide +kernel
theorem zd_Formula_addTemporal_14 : decode prog_2_method_12_code 14 = .ok (.getfield 50, 3) := by decide +kernel
theorem zd_Formula_addTemporal_17 : decode prog_2_method_12_code 17 = .ok (.iload 4, 2) := by decide +kernel
theorem zd_Formula_addTemporal_19 : decode prog_2_method_12_code 19 = .ok (.iastore, 1) := by decide +kernel
theorem zd_Formula_addTemporal_20 : decode prog_2_method_12_code 20 = .ok (.aload_n 0, 1) := by decide +kernel
theorem zd_Formula_addTemporal_21 : decode prog_2_method_12_code 21 = .ok (.dup, 1) := by decide +kernel
theorem zd_Formula_addTemporal_22 : decode prog_2_method_12_code 22 = .ok (.getfield 50, 3) := by decide +kernel
theorem zd_Formula_addTemporal_25 : decode prog_2_method_12_code 25 = .ok (.iconst 1, 1) := by decide +kernel
theorem zd_Formula_addTemporal_26 : decode prog_2_method_12_code 26 = .ok (.iadd, 1) := by decide +kernel
theorem zd_Formula_addTemporal_27 : decode prog_2_method_12_code 27 = .ok (.putfield 50, 3) := by decide +kernel
theorem zd_Formula_addTemporal_30 : decode prog_2_method_12_code 30 = .ok (.iload 4, 2) := by decide +kernel
theorem zd_Formula_addTemporal_32 : decode prog_2_method_12_code 32 = .ok (.ireturn, 1) := by decide +kernel
theorem zd_Formula_goDeeper_0 : decode prog_2_method_10_code 0 = .ok (.iload_n 1, 1) := by decide +kernel
theorem zd_Formula_goDeeper_1 : decode prog_2_method_10_code 1 = .ok (.bipush 8, 2) := by decide +kernel
theorem zd_Formula_goDeeper_3 : decode prog_2_method_10_code 3 = .ok (.if_icmp .lt 10, 3) := by decide +kernel
theorem zd_Formula_goDeeper_6 : decode prog_2_method_10_code 6 = .ok (.aload_n 0, 1) := by decide +kernel
theorem zd_Formula_goDeeper_7 : decode prog_2_method_10_code 7 = .ok (.getfield 9, 3) := by decide +kernel
theorem zd_Formula_goDeeper_10 : decode prog_2_method_10_code 10 = .ok (.invokevirtual 67, 3) := by decide +kernel
theorem zd_Formula_goDeeper_13 : decode prog_2_method_10_code 13 = .ok (.aload_n 0, 1) := by decide +kernel
theorem zd_Formula_goDeeper_14 : decode prog_2_method_10_code 14 = .ok (.getfield 9, 3) := by decide +kernel
theorem zd_Formula_goDeeper_17 : decode prog_2_method_10_code 17 = .ok (.invokevirtual 102, 3) := by decide +kernel
theorem zd_Formula_goDeeper_20 : decode prog_2_method_10_code 20 = .ok (.return_, 1) := by decide +kernel
theorem zd_Formula_joining_0 : decode prog_2_method_5_code 0 = .ok (.iload_n 0, 1) := by decide +kernel
theorem zd_Formula_joining_1 : decode prog_2_method_5_code 1 = .ok (.lookupswitch 63 #[(38, 55), (62, 51), (82, 60), (85, 57), (124, 53)], 51) := by decide +kernel
theorem zd_Formula_joining_52 : decode prog_2_method_5_code 52 = .ok (.iconst 3, 1) := by decide +kernel
theorem zd_Formula_joining_53 : decode prog_2_method_5_code 53 = .ok (.ireturn, 1) := by decide +kernel
theorem zd_Formula_joining_54 : decode prog_2_method_5_code 54 = .ok (.iconst 2, 1) := by decide +kernel
theorem zd_Formula_joining_55 : decode prog_2_method_5_code 55 = .ok (.ireturn, 1) := by decide +kernel
theorem zd_Formula_joining_56 : decode prog_2_method_5_code 56 = .ok (.iconst 1, 1) := by decide +kernel
theorem zd_Formula_joining_57 : decode prog_2_method_5_code 57 = .ok (.ireturn, 1) := by decide +kernel
theorem zd_Formula_joining_58 : decode prog_2_method_5_code 58 = .ok (.bipush 6, 2) := by decide +kernel
theorem zd_Formula_joining_60 : decode prog_2_method_5_code 60 = .ok (.ireturn, 1) := by decide +kernel
theorem zd_Formula_joining_61 : decode prog_2_method_5_code 61 = .ok (.bipush 7, 2) := by decide +kernel
theorem zd_Formula_joining_63 : decode prog_2_method_5_code 63 = .ok (.ireturn, 1) := by decide +kernel
theorem zd_Formula_joining_64 : decode prog_2_method_5_code 64 = .ok (.iconst (-1), 1) := by decide +kernel
theorem zd_Formula_joining_65 : decode prog_2_method_5_code 65 = .ok (.ireturn, 1) := by decide +kernel
theorem zd_Formula_meetTemporal_0 : decode prog_2_method_11_code 0 = .ok (.aload_n 0, 1) := by decide +kernel
theorem zd_Formula_meetTemporal_1 : decode prog_2_method_11_code 1 = .ok (.getfield 53, 3) := by decide +kernel
theorem zd_Formula_meetTemporal_4 : decode prog_2_method_11_code 4 = .ok (.iconst 3, 1) := by decide +kernel
theorem zd_Formula_meetTemporal_5 : decode prog_2_method_11_code 5 = .ok (.if_icmp .ne 10, 3) := by decide +kernel
theorem zd_Formula_meetTemporal_8 : decode prog_2_method_11_code 8 = .ok (.aload_n 0, 1) := by decide +kernel
theorem zd_Formula_meetTemporal_9 : decode prog_2_method_11_code 9 = .ok (.getfield 9, 3) := by decide +kernel
theorem zd_Formula_meetTemporal_12 : decode prog_2_method_11_code 12 = .ok (.invokevirtual 67, 3) := by decide +kernel
theorem zd_Formula_meetTemporal_15 : decode prog_2_method_11_code 15 = .ok (.aload_n 0, 1) := by decide +kernel
theorem zd_Formula_meetTemporal_16 : decode prog_2_method_11_code 16 = .ok (.dup, 1) := by decide +kernel
theorem zd_Formula_meetTemporal_17 : decode prog_2_method_11_code 17 = .ok (.getfield 53, 3) := by decide +kernel
theorem zd_Formula_meetTemporal_20 : decode prog_2_method_11_code 20 = .ok (.iconst 1, 1) := by decide +kernel
theorem zd_Formula_meetTemporal_21 : decode prog_2_method_11_code 21 = .ok (.iadd, 1) := by decide +kernel
theorem zd_Formula_meetTemporal_22 : decode prog_2_method_11_code 22 = .ok (.putfield 53, 3) := by decide +kernel
theorem zd_Formula_meetTemporal_25 : decode prog_2_method_11_code 25 = .ok (.aload_n 0, 1) := by decide +kernel
theorem zd_Formula_meetTemporal_26 : decode prog_2_method_11_code 26 = .ok (.iload_n 1, 1) := by decide +kernel
theorem zd_Formula_meetTemporal_27 : decode prog_2_method_11_code 27 = .ok (.invokevirtual 89, 3) := by decide +kernel
theorem zd_Formula_meetTemporal_30 : decode prog_2_method_11_code 30 = .ok (.return_, 1) := by decide +kernel
theorem zd_Formula_strengthOf_0 : decode prog_2_method_6_code 0 = .ok (.iload_n 0, 1) := by decide +kernel
theorem zd_Formula_strengthOf_1 : decode prog_2_method_6_code 1 = .ok (.tableswitch 33 1 3 #[31, 29, 27], 27) := by decide +kernel
theorem zd_Formula_strengthOf_28 : decode prog_2_method_6_code 28 = .ok (.iconst 0, 1) := by decide +kernel
theorem zd_Formula_strengthOf_29 : decode prog_2_method_6_code 29 = .ok (.ireturn, 1) := by decide +kernel
theorem zd_Formula_strengthOf_30 : decode prog_2_method_6_code 30 = .ok (.iconst 1, 1) := by decide +kernel
theorem zd_Formula_strengthOf_31 : decode prog_2_method_6_code 31 = .ok (.ireturn, 1) := by decide +kernel
theorem zd_Formula_strengthOf_32 : decode prog_2_method_6_code 32 = .ok (.iconst 2, 1) := by decide +kernel
theorem zd_Formula_strengthOf_33 : decode prog_2_method_6_code 33 = .ok (.ireturn, 1) := by decide +kernel
theorem zd_Formula_strengthOf_34 : decode prog_2_method_6_code 34 = .ok (.iconst 3, 1) := by decide +kernel
theorem zd_Formula_strengthOf_35 : decode prog_2_method_6_code 35 = .ok (.ireturn, 1) := by decide +kernel
theorem zd_Graph_addStepsOf_0 : decode prog_3_method_4_code 0 = .ok (.aload_n 0, 1) := by decide +kernel
theorem zd_Graph_addStepsOf_1 : decode prog_3_method_4_code 1 = .ok (.getfield 19, 3) := by decide +kernel
theorem zd_Graph_addStepsOf_4 : decode prog_3_method_4_code 4 = .ok (.iload_n 1, 1) := by decide +kernel
theorem zd_Graph_addStepsOf_5 : decode prog_3_method_4_code 5 = .ok (.aload_n 0, 1) := by decide +kernel
theorem zd_Graph_addStepsOf_6 : decode prog_3_method_4_code 6 = .ok (.getfield 45, 3) := by decide +kernel
theorem zd_Graph_addStepsOf_9 : decode prog_3_method_4_code 9 = .ok (.iastore, 1) := by decide +kernel
theorem zd_Graph_addStepsOf_10 : decode prog_3_method_4_code 10 = .ok (.aload_n 0, 1) := by decide +kernel
theorem zd_Graph_addStepsOf_11 : decode prog_3_method_4_code 11 = .ok (.getfield 9, 3) := by decide +kernel
theorem zd_Graph_addStepsOf_14 : decode prog_3_method_4_code 14 = .ok (.aload_n 0, 1) := by decide +kernel
theorem zd_Graph_addStepsOf_15 : decode prog_3_method_4_code 15 = .ok (.getfield 15, 3) := by decide +kernel
theorem zd_Graph_addStepsOf_18 : decode prog_3_method_4_code 18 = .ok (.iload_n 1, 1) := by decide +kernel
theorem zd_Graph_addStepsOf_19 : decode prog_3_method_4_code 19 = .ok (.laload, 1) := by decide +kernel
theorem zd_Graph_addStepsOf_20 : decode prog_3_method_4_code 20 = .ok (.invokevirtual 68, 3) := by decide +kernel
theorem zd_Graph_addStepsOf_23 : decode prog_3_method_4_code 23 = .ok (.aload_n 0, 1) := by decide +kernel
theorem zd_Graph_addStepsOf_24 : decode prog_3_method_4_code 24 = .ok (.getfield 9, 3) := by decide +kernel
theorem zd_Graph_addStepsOf_27 : decode prog_3_method_4_code 27 = .ok (.invokevirtual 72, 3) := by decide +kernel
theorem zd_Graph_addStepsOf_30 : decode prog_3_method_4_code 30 = .ok (.lstore_n 2, 1) := by decide +kernel
theorem zd_Graph_addStepsOf_31 : decode prog_3_method_4_code 31 = .ok (.iconst 1, 1) := by decide +kernel
theorem zd_Graph_addStepsOf_32 : decode prog_3_method_4_code 32 = .ok (.istore 4, 2) := by decide +kernel
theorem zd_Graph_addStepsOf_34 : decode prog_3_method_4_code 34 = .ok (.iconst 0, 1) := by decide +kernel
theorem zd_Graph_addStepsOf_35 : decode prog_3_method_4_code 35 = .ok (.istore 5, 2) := by decide +kernel
theorem zd_Graph_addStepsOf_37 : decode prog_3_method_4_code 37 = .ok (.iload 5, 2) := by decide +kernel
theorem zd_Graph_addStepsOf_39 : decode prog_3_method_4_code 39 = .ok (.bipush 48, 2) := by decide +kernel
theorem zd_Graph_addStepsOf_41 : decode prog_3_method_4_code 41 = .ok (.if_icmp .ge 34, 3) := by decide +kernel
theorem zd_Graph_addStepsOf_44 : decode prog_3_method_4_code 44 = .ok (.iload 4, 2) := by decide +kernel
theorem zd_Graph_addStepsOf_46 : decode prog_3_method_4_code 46 = .ok (.ifCond .eq 29, 3) := by decide +kernel
theorem zd_Graph_addStepsOf_49 : decode prog_3_method_4_code 49 = .ok (.lload_n 2, 1) := by decide +kernel
theorem zd_Graph_addStepsOf_50 : decode prog_3_method_4_code 50 = .ok (.iload 5, 2) := by decide +kernel
theorem zd_Graph_addStepsOf_52 : decode prog_3_method_4_code 52 = .ok (.lushr, 1) := by decide +kernel
theorem zd_Graph_addStepsOf_53 : decode prog_3_method_4_code 53 = .ok (.lconst 1, 1) := by decide +kernel
theorem zd_Graph_addStepsOf_54 : decode prog_3_method_4_code 54 = .ok (.land, 1) := by decide +kernel
theorem zd_Graph_addStepsOf_55 : decode prog_3_method_4_code 55 = .ok (.lconst 0, 1) := by decide +kernel
theorem zd_Graph_addStepsOf_56 : decode prog_3_method_4_code 56 = .ok (.lcmp, 1) := by decide +kernel
theorem zd_Graph_addStepsOf_57 : decode prog_3_method_4_code 57 = .ok (.ifCond .eq 12, 3) := by decide +kernel
theorem zd_Graph_addStepsOf_60 : decode prog_3_method_4_code 60 = .ok (.aload_n 0, 1) := by decide +kernel
theorem zd_Graph_addStepsOf_61 : decode prog_3_method_4_code 61 = .ok (.iload_n 1, 1) := by decide +kernel
theorem zd_Graph_addStepsOf_62 : decode prog_3_method_4_code 62 = .ok (.iload 5, 2) := by decide +kernel
theorem zd_Graph_addStepsOf_64 : decode prog_3_method_4_code 64 = .ok (.invokevirtual 77, 3) := by decide +kernel
theorem zd_Graph_addStepsOf_67 : decode prog_3_method_4_code 67 = .ok (.istore 4, 2) := by decide +kernel
theorem zd_Graph_addStepsOf_69 : decode prog_3_method_4_code 69 = .ok (.iinc 5 1, 3) := by decide +kernel
theorem zd_Graph_addStepsOf_72 : decode prog_3_method_4_code 72 = .ok (.goto (-35), 3) := by decide +kernel
theorem zd_Graph_addStepsOf_75 : decode prog_3_method_4_code 75 = .ok (.iload 4, 2) := by decide +kernel
theorem zd_Graph_addStepsOf_77 : decode prog_3_method_4_code 77 = .ok (.ifCond .eq 26, 3) := by decide +kernel
theorem zd_Graph_addStepsOf_80 : decode prog_3_method_4_code 80 = .ok (.aload_n 0, 1) := by decide +kernel
theorem zd_Graph_addStepsOf_81 : decode prog_3_method_4_code 81 = .ok (.getfield 45, 3) := by decide +kernel
theorem zd_Graph_addStepsOf_84 : decode prog_3_method_4_code 84 = .ok (.aload_n 0, 1) := by decide +kernel
theorem zd_Graph_addStepsOf_85 : decode prog_3_method_4_code 85 = .ok (.getfield 19, 3) := by decide +kernel
theorem zd_Graph_addStepsOf_88 : decode prog_3_method_4_code 88 = .ok (.iload_n 1, 1) := by decide +kernel
theorem zd_Graph_addStepsOf_89 : decode prog_3_method_4_code 89 = .ok (.iaload, 1) := by decide +kernel
theorem zd_Graph_addStepsOf_90 : decode prog_3_method_4_code 90 = .ok (.if_icmp .ne 13, 3) := by decide +kernel
theorem zd_Graph_addStepsOf_93 : decode prog_3_method_4_code 93 = .ok (.aload_n 0, 1) := by decide +kernel
theorem zd_Graph_addStepsOf_94 : decode prog_3_method_4_code 94 = .ok (.iload_n 1, 1) := by decide +kernel
theorem zd_Graph_addStepsOf_95 : decode prog_3_method_4_code 95 = .ok (.iload_n 1, 1) := by decide +kernel
theorem zd_Graph_addStepsOf_96 : decode prog_3_method_4_code 96 = .ok (.iconst (-1), 1) := by decide +kernel
theorem zd_Graph_addStepsOf_97 : decode prog_3_method_4_code 97 = .ok (.iconst (-1), 1) := by decide +kernel
theorem zd_Graph_addStepsOf_98 : decode prog_3_method_4_code 98 = .ok (.invokevirtual 81, 3) := by decide +kernel
theorem zd_Graph_addStepsOf_101 : decode prog_3_method_4_code 101 = .ok (.istore 4, 2) := by decide +kernel
theorem zd_Graph_addStepsOf_103 : decode prog_3_method_4_code 103 = .ok (.aload_n 0, 1) := by decide +kernel
theorem zd_Graph_addStepsOf_104 : decode prog_3_method_4_code 104 = .ok (.getfield 19, 3) := by decide +kernel
theorem zd_Graph_addStepsOf_107 : decode prog_3_method_4_code 107 = .ok (.iload_n 1, 1) := by decide +kernel
theorem zd_Graph_addStepsOf_108 : decode prog_3_method_4_code 108 = .ok (.iconst 1, 1) := by decide +kernel
theorem zd_Graph_addStepsOf_109 : decode prog_3_method_4_code 109 = .ok (.iadd, 1) := by decide +kernel
theorem zd_Graph_addStepsOf_110 : decode prog_3_method_4_code 110 = .ok (.aload_n 0, 1) := by decide +kernel
theorem zd_Graph_addStepsOf_111 : decode prog_3_method_4_code 111 = .ok (.getfield 45, 3) := by decide +kernel
theorem zd_Graph_addStepsOf_114 : decode prog_3_method_4_code 114 = .ok (.iastore, 1) := by decide +kernel
theorem zd_Graph_addStepsOf_115 : decode prog_3_method_4_code 115 = .ok (.iload 4, 2) := by decide +kernel
theorem zd_Graph_addStepsOf_117 : decode prog_3_method_4_code 117 = .ok (.ireturn, 1) := by decide +kernel
theorem zd_Graph_explore_0 : decode prog_3_method_3_code 0 = .ok (.aload_n 0, 1) := by decide +kernel
theorem zd_Graph_explore_1 : decode prog_3_method_3_code 1 = .ok (.iconst 0, 1) := by decide +kernel
theorem zd_Graph_explore_2 : decode prog_3_method_3_code 2 = .ok (.putfield 41, 3) := by decide +kernel
theorem zd_Graph_explore_5 : decode prog_3_method_3_code 5 = .ok (.aload_n 0, 1) := by decide +kernel
theorem zd_Graph_explore_6 : decode prog_3_method_3_code 6 = .ok (.iconst 0, 1) := by decide +kernel
theorem zd_Graph_explore_7 : decode prog_3_method_3_code 7 = .ok (.putfield 45, 3) := by decide +kernel
theorem zd_Graph_explore_10 : decode prog_3_method_3_code 10 = .ok (.aload_n 0, 1) := by decide +kernel
theorem zd_Graph_explore_11 : decode prog_3_method_3_code 11 = .ok (.getfield 9, 3) := by decide +kernel
theorem zd_Graph_explore_14 : decode prog_3_method_3_code 14 = .ok (.invokevirtual 48, 3) := by decide +kernel
theorem zd_Graph_explore_17 : decode prog_3_method_3_code 17 = .ok (.aload_n 0, 1) := by decide +kernel
theorem zd_Graph_explore_18 : decode prog_3_method_3_code 18 = .ok (.aload_n 0, 1) := by decide +kernel
theorem zd_Graph_explore_19 : decode prog_3_method_3_code 19 = .ok (.getfield 9, 3) := by decide +kernel
theorem zd_Graph_explore_22 : decode prog_3_method_3_code 22 = .ok (.invokevirtual 53, 3) := by decide +kernel
theorem zd_Graph_explore_25 : decode prog_3_method_3_code 25 = .ok (.invokevirtual 57, 3) := by decide +kernel
theorem zd_Graph_explore_28 : decode prog_3_method_3_code 28 = .ok (.iconst (-1), 1) := by decide +kernel
theorem zd_Graph_explore_29 : decode prog_3_method_3_code 29 = .ok (.if_icmp .eq 7, 3) := by decide +kernel
theorem zd_Graph_explore_32 : decode prog_3_method_3_code 32 = .ok (.iconst 1, 1) := by decide +kernel
theorem zd_Graph_explore_33 : decode prog_3_method_3_code 33 = .ok (.goto 4, 3) := by decide +kernel
theorem zd_Graph_explore_36 : decode prog_3_method_3_code 36 = .ok (.iconst 0, 1) := by decide +kernel
theorem zd_Graph_explore_37 : decode prog_3_method_3_code 37 = .ok (.istore_n 1, 1) := by decide +kernel
theorem zd_Graph_explore_38 : decode prog_3_method_3_code 38 = .ok (.iconst 0, 1) := by decide +kernel
theorem zd_Graph_explore_39 : decode prog_3_method_3_code 39 = .ok (.istore_n 2, 1) := by decide +kernel
theorem zd_Graph_explore_40 : decode prog_3_method_3_code 40 = .ok (.iload_n 2, 1) := by decide +kernel
theorem zd_Graph_explore_41 : decode prog_3_method_3_code 41 = .ok (.bipush 96, 2) := by decide +kernel
theorem zd_Graph_explore_43 : decode prog_3_method_3_code 43 = .ok (.if_icmp .ge 27, 3) := by decide +kernel
theorem zd_Graph_explore_46 : decode prog_3_method_3_code 46 = .ok (.iload_n 2, 1) := by decide +kernel
theorem zd_Graph_explore_47 : decode prog_3_method_3_code 47 = .ok (.aload_n 0, 1) := by decide +kernel
theorem zd_Graph_explore_48 : decode prog_3_method_3_code 48 = .ok (.getfield 41, 3) := by decide +kernel
theorem zd_Graph_explore_51 : decode prog_3_method_3_code 51 = .ok (.if_icmp .ge 19, 3) := by decide +kernel
theorem zd_Graph_explore_54 : decode prog_3_method_3_code 54 = .ok (.iload_n 1, 1) := by decide +kernel
theorem zd_Graph_explore_55 : decode prog_3_method_3_code 55 = .ok (.ifCond .eq 15, 3) := by decide +kernel
theorem zd_Graph_explore_58 : decode prog_3_method_3_code 58 = .ok (.aload_n 0, 1) := by decide +kernel
theorem zd_Graph_explore_59 : decode prog_3_method_3_code 59 = .ok (.iload_n 2, 1) := by decide +kernel
theorem zd_Graph_explore_60 : decode prog_3_method_3_code 60 = .ok (.invokevirtual 61, 3) := by decide +kernel
theorem zd_Graph_explore_63 : decode prog_3_method_3_code 63 = .ok (.istore_n 1, 1) := by decide +kernel
theorem zd_Graph_explore_64 : decode prog_3_method_3_code 64 = .ok (.iinc 2 1, 3) := by decide +kernel
theorem zd_Graph_explore_67 : decode prog_3_method_3_code 67 = .ok (.goto (-27), 3) := by decide +kernel
theorem zd_Graph_explore_70 : decode prog_3_method_3_code 70 = .ok (.iload_n 1, 1) := by decide +kernel
theorem zd_Graph_explore_71 : decode prog_3_method_3_code 71 = .ok (.ifCond .eq 7, 3) := by decide +kernel
theorem zd_Graph_explore_74 : decode prog_3_method_3_code 74 = .ok (.aload_n 0, 1) := by decide +kernel
theorem zd_Graph_explore_75 : decode prog_3_method_3_code 75 = .ok (.invokevirtual 65, 3) := by decide +kernel
theorem zd_Graph_explore_78 : decode prog_3_method_3_code 78 = .ok (.iload_n 1, 1) := by decide +kernel
theorem zd_Graph_explore_79 : decode prog_3_method_3_code 79 = .ok (.ireturn, 1) := by decide +kernel
theorem zd_Situation_begin_0 : decode prog_8_method_2_code 0 = .ok (.aload_n 0, 1) := by decide +kernel
theorem zd_Situation_begin_1 : decode prog_8_method_2_code 1 = .ok (.getfield 25, 3) := by decide +kernel
theorem zd_Situation_begin_4 : decode prog_8_method_2_code 4 = .ok (.iconst 0, 1) := by decide +kernel
theorem zd_Situation_begin_5 : decode prog_8_method_2_code 5 = .ok (.invokestatic 41, 3) := by decide +kernel
theorem zd_Situation_begin_8 : decode prog_8_method_2_code 8 = .ok (.aload_n 0, 1) := by decide +kernel
theorem zd_Situation_begin_9 : decode prog_8_method_2_code 9 = .ok (.getfield 29, 3) := by decide +kernel
theorem zd_Situation_begin_12 : decode prog_8_method_2_code 12 = .ok (.iconst 0, 1) := by decide +kernel
theorem zd_Situation_begin_13 : decode prog_8_method_2_code 13 = .ok (.invokestatic 41, 3) := by decide +kernel
theorem zd_Situation_begin_16 : decode prog_8_method_2_code 16 = .ok (.iconst 0, 1) := by decide +kernel
theorem zd_Situation_begin_17 : decode prog_8_method_2_code 17 = .ok (.istore_n 1, 1) := by decide +kernel
theorem zd_Situation_begin_18 : decode prog_8_method_2_code 18 = .ok (.iload_n 1, 1) := by decide +kernel
theorem zd_Situation_begin_19 : decode prog_8_method_2_code 19 = .ok (.aload_n 0, 1) := by decide +kernel
theorem zd_Situation_begin_20 : decode prog_8_method_2_code 20 = .ok (.getfield 9, 3) := by decide +kernel
theorem zd_Situation_begin_23 : decode prog_8_method_2_code 23 = .ok (.getfield 47, 3) := by decide +kernel
theorem zd_Situation_begin_26 : decode prog_8_method_2_code 26 = .ok (.if_icmp .ge 34, 3) := by decide +kernel
theorem zd_Situation_begin_29 : decode prog_8_method_2_code 29 = .ok (.aload_n 0, 1) := by decide +kernel
theorem zd_Situation_begin_30 : decode prog_8_method_2_code 30 = .ok (.getfield 9, 3) := by decide +kernel
theorem zd_Situation_begin_33 : decode prog_8_method_2_code 33 = .ok (.getfield 50, 3) := by decide +kernel
theorem zd_Situation_begin_36 : decode prog_8_method_2_code 36 = .ok (.iload_n 1, 1) := by decide +kernel
theorem zd_Situation_begin_37 : decode prog_8_method_2_code 37 = .ok (.iaload, 1) := by decide +kernel
theorem zd_Situation_begin_38 : decode prog_8_method_2_code 38 = .ok (.istore_n 2, 1) := by decide +kernel
theorem zd_Situation_begin_39 : decode prog_8_method_2_code 39 = .ok (.aload_n 0, 1) := by decide +kernel
theorem zd_Situation_begin_40 : decode prog_8_method_2_code 40 = .ok (.getfield 25, 3) := by decide +kernel
theorem zd_Situation_begin_43 : decode prog_8_method_2_code 43 = .ok (.iload_n 2, 1) := by decide +kernel
theorem zd_Situation_begin_44 : decode prog_8_method_2_code 44 = .ok (.aload_n 0, 1) := by decide +kernel
theorem zd_Situation_begin_45 : decode prog_8_method_2_code 45 = .ok (.getfield 9, 3) := by decide +kernel
theorem zd_Situation_begin_48 : decode prog_8_method_2_code 48 = .ok (.getfield 53, 3) := by decide +kernel
theorem zd_Situation_begin_51 : decode prog_8_method_2_code 51 = .ok (.iload_n 2, 1) := by decide +kernel
theorem zd_Situation_begin_52 : decode prog_8_method_2_code 52 = .ok (.iaload, 1) := by decide +kernel
theorem zd_Situation_begin_53 : decode prog_8_method_2_code 53 = .ok (.iastore, 1) := by decide +kernel
theorem zd_Situation_begin_54 : decode prog_8_method_2_code 54 = .ok (.iinc 1 1, 3) := by decide +kernel
theorem zd_Situation_begin_57 : decode prog_8_method_2_code 57 = .ok (.goto (-39), 3) := by decide +kernel
theorem zd_Situation_begin_60 : decode prog_8_method_2_code 60 = .ok (.aload_n 0, 1) := by decide +kernel
theorem zd_Situation_begin_61 : decode prog_8_method_2_code 61 = .ok (.getfield 19, 3) := by decide +kernel
theorem zd_Situation_begin_64 : decode prog_8_method_2_code 64 = .ok (.getfield 56, 3) := by decide +kernel
theorem zd_Situation_begin_67 : decode prog_8_method_2_code 67 = .ok (.iconst 0, 1) := by decide +kernel
theorem zd_Situation_begin_68 : decode prog_8_method_2_code 68 = .ok (.aload_n 0, 1) := by decide +kernel
theorem zd_Situation_begin_69 : decode prog_8_method_2_code 69 = .ok (.getfield 34, 3) := by decide +kernel
theorem zd_Situation_begin_72 : decode prog_8_method_2_code 72 = .ok (.iconst 0, 1) := by decide +kernel
theorem zd_Situation_begin_73 : decode prog_8_method_2_code 73 = .ok (.iconst 4, 1) := by decide +kernel
theorem zd_Situation_begin_74 : decode prog_8_method_2_code 74 = .ok (.invokestatic 59, 3) := by decide +kernel
theorem zd_Situation_begin_77 : decode prog_8_method_2_code 77 = .ok (.aload_n 0, 1) := by decide +kernel
theorem zd_Situation_begin_78 : decode prog_8_method_2_code 78 = .ok (.iconst (-1), 1) := by decide +kernel
theorem zd_Situation_begin_79 : decode prog_8_method_2_code 79 = .ok (.putfield 37, 3) := by decide +kernel
theorem zd_Situation_begin_82 : decode prog_8_method_2_code 82 = .ok (.return_, 1) := by decide +kernel
def wc_Graph_addStepsOf_103 (a0 : Int32) (Post : Int32 → (Nat → Int32) → (Nat → Int64) → (Nat → Nat → Int32) → (Nat → Nat → Int64) → Prop) (x1 : Int32) (x4 : Int32) (I : Nat → Int32) (J : Nat → Int64) (B : Nat → Nat → Int32) (D : Nat → Nat → Int64) : Prop :=
  ∀ z1 : Int32, z1 = (x1 + 1) → vp_in z1 97 ∧ (x4 = 0 ∨ x4 = 1) ∧ Post x4 I J (va_up B 32 (upd (B 32) z1.toNatClampNeg (I 20))) D
def wc_Graph_addStepsOf_75 (a0 : Int32) (Post : Int32 → (Nat → Int32) → (Nat → Int64) → (Nat → Nat → Int32) → (Nat → Nat → Int64) → Prop) (x1 : Int32) (x4 : Int32) (I : Nat → Int32) (J : Nat → Int64) (B : Nat → Nat → Int32) (D : Nat → Nat → Int64) : Prop :=
  ((x4 = 0 → wc_Graph_addStepsOf_103 a0 Post x1 x4 I J B D) ∧ (¬ x4 = 0 → vp_in x1 97 ∧ ∀ z3 : Int32, z3 = ((B 32) x1.toNatClampNeg) → ((¬ (I 20) = z3 → wc_Graph_addStepsOf_103 a0 Post x1 x4 I J B D) ∧ ((I 20) = z3 → wp_Graph_add I J B D x1 x1 (-1) (-1) (fun r5 I5 J5 B5 D5 => wc_Graph_addStepsOf_103 a0 Post x1 r5 I5 J5 B5 D5)))))
def wc_Graph_addStepsOf_69 (a0 : Int32) (K37 : Int32 → Int64 → Int32 → Int32 → (Nat → Int32) → (Nat → Int64) → (Nat → Nat → Int32) → (Nat → Nat → Int64) → Prop) (Post : Int32 → (Nat → Int32) → (Nat → Int64) → (Nat → Nat → Int32) → (Nat → Nat → Int64) → Prop) (x1 : Int32) (x2 : Int64) (x4 : Int32) (x5 : Int32) (I : Nat → Int32) (J : Nat → Int64) (B : Nat → Nat → Int32) (D : Nat → Nat → Int64) : Prop :=
  ∀ z6 : Int32, z6 = (x5 + 1) → K37 x1 x2 x4 z6 I J B D
def wb_Graph_addStepsOf_37 (a0 : Int32) (K37 : Int32 → Int64 → Int32 → Int32 → (Nat → Int32) → (Nat → Int64) → (Nat → Nat → Int32) → (Nat → Nat → Int64) → Prop) (Post : Int32 → (Nat → Int32) → (Nat → Int64) → (Nat → Nat → Int32) → (Nat → Nat → Int64) → Prop) (x1 : Int32) (x2 : Int64) (x4 : Int32) (x5 : Int32) (I : Nat → Int32) (J : Nat → Int64) (B : Nat → Nat → Int32) (D : Nat → Nat → Int64) : Prop :=
  (((48 : Int32) ≤ x5 → wc_Graph_addStepsOf_75 a0 Post x1 x4 I J B D) ∧ (¬ (48 : Int32) ≤ x5 → ((x4 = 0 → wc_Graph_addStepsOf_75 a0 Post x1 x4 I J B D) ∧ (¬ x4 = 0 → ∀ z9 : Int64, z9 = (x2.toUInt64 >>> (x5.toInt64.toUInt64 &&& Int64.toUInt64 63)).toInt64 → ∀ z10 : Int64, z10 = (z9 &&& 1) → ∀ z11 : Int32, z11 = (lg_cmp z10 0) → ((z11 = 0 → wc_Graph_addStepsOf_69 a0 K37 Post x1 x2 x4 x5 I J B D) ∧ (¬ z11 = 0 → wp_Graph_addStepsBy I J B D x1 x5 (fun r13 I13 J13 B13 D13 => wc_Graph_addStepsOf_69 a0 K37 Post x1 x2 r13 x5 I13 J13 B13 D13)))))))
def wl_Graph_addStepsOf_37 (a0 : Int32) (Post : Int32 → (Nat → Int32) → (Nat → Int64) → (Nat → Nat → Int32) → (Nat → Nat → Int64) → Prop) (n : Nat) : Int32 → Int64 → Int32 → Int32 → (Nat → Int32) → (Nat → Int64) → (Nat → Nat → Int32) → (Nat → Nat → Int64) → Prop := Nat.rec (fun _ _ _ _ _ _ _ _ => False) (fun _ r => wb_Graph_addStepsOf_37 a0 r Post) n
def wp_Graph_addStepsOf (I : Nat → Int32) (J : Nat → Int64) (B : Nat → Nat → Int32) (D : Nat → Nat → Int64) (a0 : Int32) (Post : Int32 → (Nat → Int32) → (Nat → Int64) → (Nat → Nat → Int32) → (Nat → Nat → Int64) → Prop) : Prop :=
  vp_in a0 97 ∧ vp_in a0 96 ∧ ∀ z14 : Int64, z14 = ((D 2) a0.toNatClampNeg) → wp_Situation_unpack I J (va_up B 32 (upd (B 32) a0.toNatClampNeg (I 20))) D z14 (fun I15 J15 B15 D15 => wp_Situation_able I15 J15 B15 D15  (fun r16 I16 J16 B16 D16 => ∃ n : Nat, wl_Graph_addStepsOf_37 a0 Post n a0 r16 1 0 I16 J16 B16 D16))
set_option maxHeartbeats 8000000 in
set_option maxRecDepth 100000 in
theorem wJ_Graph_addStepsOf_103 {p : Program} {l : Launch} {e : Env} {s : State} {m : MethodId} {below : List Frame} {meth : Method} {c : Code} {A : Nat → Prop} (G : va_G) (K : Nat → ClassId) (ad : Nat → Nat) (sv : Value) (a0 : Int32) (Post : Int32 → (Nat → Int32) → (Nat → Int64) → (Nat → Nat → Int32) → (Nat → Nat → Int64) → Prop) (C : zCx p s m ([.ref (ad 8), .int a0] : List Value).toArray meth c A G K prog_3_method_4_code (some .boolean) 6 "LassoFinder$Graph") : ∀ (x1 : Int32) (x4 : Int32) (I : Nat → Int32) (J : Nat → Int64) (B : Nat → Nat → Int32) (D : Nat → Nat → Int64) (ls : Array Slot) (H : Heap) (locs : List Loc), wc_Graph_addStepsOf_103 a0 Post x1 x4 I J B D → lv_has ls 6 [(0, .ref (ad 8)), (1, .int x1), (4, .int x4)] → zW G A s.heap (wX ad K sv I J B D) H locs → W p l e { frames := 5, cells := 0, slots := 0, locals := 121 } s m ([.ref (ad 8), .int a0] : List Value).toArray below meth c H locs 0 0 (MQ below (va_Qi (fun (r : Int32) (u : zS) => Post r u.1 u.2.1 u.2.2.1 u.2.2.2) (fun u t => zPost G K A (wX ad K sv u.1 u.2.1 u.2.2.1 u.2.2.2) t) A) ([.ref (ad 8), .int a0] : List Value).toArray s 0 0 A) (F0 m 103 ls []) := by
  obtain ⟨hx, hb, hr, hml, hts, hown, hlocks, hA, hK⟩ := id C
  intro x1 x4 I J B D ls H locs hok hl hw
  unfold wc_Graph_addStepsOf_103 at hok
  refine lv_aload_n hx hb zd_Graph_addStepsOf_103 rfl (lv_at hl 0 rfl) ?_
  refine z_get (v := .ref (ad 47)) hx hb hts hown hK hw zZ2 8 wX_g8 2 (by decide) zn_270 rfl zd_Graph_addStepsOf_104 ?_
  refine lv_iload_n hx hb zd_Graph_addStepsOf_107 rfl (lv_at hl 1 rfl) ?_
  refine lv_iconst (v := 1) hx hb zd_Graph_addStepsOf_108 (by decide) ?_
  refine lv_iadd hx hb zd_Graph_addStepsOf_109 ?_
  refine lv_topi (fun z1 ez1 => ?_)
  have hok := hok z1 ez1
  refine lv_aload_n hx hb zd_Graph_addStepsOf_110 rfl (lv_at hl 0 rfl) ?_
  refine z_get (v := .int (I 20)) hx hb hts hown hK hw zZ2 8 wX_g8 10 (by decide) zn_462 rfl zd_Graph_addStepsOf_111 ?_
  refine va_iast (f := (B 32)) hx hb hK hw.1 hw.2.1 hw.2.2 47 0 wX_a47 rfl hok.1 zd_Graph_addStepsOf_114 (fun H locs w91 w92 w93 => ?_)
  have hok := hok.2
  have hw := wX_t47 ⟨w91, w92, w93⟩
  refine lv_iload hx hb zd_Graph_addStepsOf_115 (lv_at hl 2 rfl) ?_
  have hbo := hok.1
  have hok := hok.2
  exact (z_iret (u := (I, J, (va_up B 32 (upd (B 32) z1.toNatClampNeg (I 20))), D)) hx hb hr hlocks (z_nar hbo) hw (List.range 65) wX_all wX_nd hok (Nat.le_of_ble_eq_true rfl) (Nat.le_of_ble_eq_true rfl) zd_Graph_addStepsOf_117)
set_option maxHeartbeats 8000000 in
set_option maxRecDepth 100000 in
theorem wJ_Graph_addStepsOf_75 {p : Program} {l : Launch} {e : Env} {s : State} {m : MethodId} {below : List Frame} {meth : Method} {c : Code} {A : Nat → Prop} (G : va_G) (K : Nat → ClassId) (ad : Nat → Nat) (sv : Value) (a0 : Int32) (Post : Int32 → (Nat → Int32) → (Nat → Int64) → (Nat → Nat → Int32) → (Nat → Nat → Int64) → Prop) (C : zCx p s m ([.ref (ad 8), .int a0] : List Value).toArray meth c A G K prog_3_method_4_code (some .boolean) 6 "LassoFinder$Graph") : ∀ (x1 : Int32) (x4 : Int32) (I : Nat → Int32) (J : Nat → Int64) (B : Nat → Nat → Int32) (D : Nat → Nat → Int64) (ls : Array Slot) (H : Heap) (locs : List Loc), wc_Graph_addStepsOf_75 a0 Post x1 x4 I J B D → lv_has ls 6 [(0, .ref (ad 8)), (1, .int x1), (4, .int x4)] → zW G A s.heap (wX ad K sv I J B D) H locs → W p l e { frames := 5, cells := 0, slots := 0, locals := 121 } s m ([.ref (ad 8), .int a0] : List Value).toArray below meth c H locs 0 0 (MQ below (va_Qi (fun (r : Int32) (u : zS) => Post r u.1 u.2.1 u.2.2.1 u.2.2.2) (fun u t => zPost G K A (wX ad K sv u.1 u.2.1 u.2.2.1 u.2.2.2) t) A) ([.ref (ad 8), .int a0] : List Value).toArray s 0 0 A) (F0 m 75 ls []) := by
  obtain ⟨hx, hb, hr, hml, hts, hown, hlocks, hA, hK⟩ := id C
  intro x1 x4 I J B D ls H locs hok hl hw
  unfold wc_Graph_addStepsOf_75 at hok
  refine lv_iload hx hb zd_Graph_addStepsOf_75 (lv_at hl 2 rfl) ?_
  refine lv_if_eq (tgt := 103) hx hb zd_Graph_addStepsOf_77 (by decide) (fun hc2 => ?_) (fun hc2 => ?_)
  · have hok := hok.1 hc2
    exact wJ_Graph_addStepsOf_103 G K ad sv a0 Post C x1 x4 I J B D ls H locs hok (lv_sub hl [0, 1, 2] rfl) hw
  · have hok := hok.2 hc2
    refine lv_aload_n hx hb zd_Graph_addStepsOf_80 rfl (lv_at hl 0 rfl) ?_
    refine z_get (v := .int (I 20)) hx hb hts hown hK hw zZ2 8 wX_g8 10 (by decide) zn_462 rfl zd_Graph_addStepsOf_81 ?_
    refine lv_aload_n hx hb zd_Graph_addStepsOf_84 rfl (lv_at hl 0 rfl) ?_
    refine z_get (v := .ref (ad 47)) hx hb hts hown hK hw zZ2 8 wX_g8 2 (by decide) zn_270 rfl zd_Graph_addStepsOf_85 ?_
    refine lv_iload_n hx hb zd_Graph_addStepsOf_88 rfl (lv_at hl 1 rfl) ?_
    refine va_iald (f := (B 32)) hx hb hK hw.1 47 0 wX_a47 rfl hok.1 zd_Graph_addStepsOf_89 ?_
    have hok := hok.2
    refine lv_topi (fun z3 ez3 => ?_)
    have hok := hok z3 ez3
    refine lv_icmp_ne (tgt := 103) hx hb zd_Graph_addStepsOf_90 (by decide) (fun hc4 => ?_) (fun hc4 => ?_)
    · have hok := hok.1 hc4
      exact wJ_Graph_addStepsOf_103 G K ad sv a0 Post C x1 x4 I J B D ls H locs hok (lv_sub hl [0, 1, 2] rfl) hw
    · have hok := hok.2 hc4
      refine lv_aload_n hx hb zd_Graph_addStepsOf_93 rfl (lv_at hl 0 rfl) ?_
      refine lv_iload_n hx hb zd_Graph_addStepsOf_94 rfl (lv_at hl 1 rfl) ?_
      refine lv_iload_n hx hb zd_Graph_addStepsOf_95 rfl (lv_at hl 1 rfl) ?_
      refine lv_iconst (v := (-1)) hx hb zd_Graph_addStepsOf_96 (by decide) ?_
      refine lv_iconst (v := (-1)) hx hb zd_Graph_addStepsOf_97 (by decide) ?_
      refine z_calli (w1 := fun (u : zS) => wX ad K sv u.1 u.2.1 u.2.2.1 u.2.2.2) (wr := []) (z_runV (q0 := 8) (wc := (wX ad K sv I J B D)) (As := [.int x1, .int x1, .int (-1), .int (-1)]) (rest := []) ⟨hx, hb, hml, hown, hts⟩ (w_Graph_add l G K ad sv I J B D x1 x1 (-1) (-1) _ H.size hok) zf_Graph_add zn_410 ⟨Nat.le_of_ble_eq_true rfl, Nat.le_of_ble_eq_true rfl⟩ hK hw (List.range 65) wX_all wX_nd wX_g8 rfl rfl hl.1 rfl (Nat.le_of_ble_eq_true rfl) zd_Graph_addStepsOf_98 ⟨Nat.le_of_ble_eq_true rfl, Nat.le_of_ble_eq_true rfl⟩) hw hA (List.range 65) [] wX_all rfl (by decide) (fun i hi => by cases hi) (fun r5 u H locs hok hw => ?_)
      obtain ⟨I5, J5, B5, D5⟩ := u
      dsimp only at hok
      have hw : zW G A s.heap (wX ad K sv I5 J5 B5 D5) H locs := hw
      refine lv_istore hx hb zd_Graph_addStepsOf_101 hl (by decide) rfl (fun ls hl => ?_)
      have hl : lv_has ls 6 [(4, .int r5), (0, .ref (ad 8)), (1, .int x1)] := hl
      exact wJ_Graph_addStepsOf_103 G K ad sv a0 Post C x1 r5 I5 J5 B5 D5 ls H locs hok (lv_sub hl [1, 2, 0] rfl) hw
set_option maxHeartbeats 8000000 in
set_option maxRecDepth 100000 in
theorem wJ_Graph_addStepsOf_69 {p : Program} {l : Launch} {e : Env} {s : State} {m : MethodId} {below : List Frame} {meth : Method} {c : Code} {A : Nat → Prop} (G : va_G) (K : Nat → ClassId) (ad : Nat → Nat) (sv : Value) (a0 : Int32) (Post : Int32 → (Nat → Int32) → (Nat → Int64) → (Nat → Nat → Int32) → (Nat → Nat → Int64) → Prop) (C : zCx p s m ([.ref (ad 8), .int a0] : List Value).toArray meth c A G K prog_3_method_4_code (some .boolean) 6 "LassoFinder$Graph") (K37 : Int32 → Int64 → Int32 → Int32 → (Nat → Int32) → (Nat → Int64) → (Nat → Nat → Int32) → (Nat → Nat → Int64) → Prop) (kh37 : ∀ (x1 : Int32) (x2 : Int64) (x4 : Int32) (x5 : Int32) (I : Nat → Int32) (J : Nat → Int64) (B : Nat → Nat → Int32) (D : Nat → Nat → Int64) (ls : Array Slot) (H : Heap) (locs : List Loc), K37 x1 x2 x4 x5 I J B D → lv_has ls 6 [(0, .ref (ad 8)), (1, .int x1), (2, .long x2), (4, .int x4), (5, .int x5)] → zW G A s.heap (wX ad K sv I J B D) H locs → W p l e { frames := 5, cells := 0, slots := 0, locals := 121 } s m ([.ref (ad 8), .int a0] : List Value).toArray below meth c H locs 0 0 (MQ below (va_Qi (fun (r : Int32) (u : zS) => Post r u.1 u.2.1 u.2.2.1 u.2.2.2) (fun u t => zPost G K A (wX ad K sv u.1 u.2.1 u.2.2.1 u.2.2.2) t) A) ([.ref (ad 8), .int a0] : List Value).toArray s 0 0 A) (F0 m 37 ls [])) : ∀ (x1 : Int32) (x2 : Int64) (x4 : Int32) (x5 : Int32) (I : Nat → Int32) (J : Nat → Int64) (B : Nat → Nat → Int32) (D : Nat → Nat → Int64) (ls : Array Slot) (H : Heap) (locs : List Loc), wc_Graph_addStepsOf_69 a0 K37 Post x1 x2 x4 x5 I J B D → lv_has ls 6 [(0, .ref (ad 8)), (1, .int x1), (2, .long x2), (4, .int x4), (5, .int x5)] → zW G A s.heap (wX ad K sv I J B D) H locs → W p l e { frames := 5, cells := 0, slots := 0, locals := 121 } s m ([.ref (ad 8), .int a0] : List Value).toArray below meth c H locs 0 0 (MQ below (va_Qi (fun (r : Int32) (u : zS) => Post r u.1 u.2.1 u.2.2.1 u.2.2.2) (fun u t => zPost G K A (wX ad K sv u.1 u.2.1 u.2.2.1 u.2.2.2) t) A) ([.ref (ad 8), .int a0] : List Value).toArray s 0 0 A) (F0 m 69 ls []) := by
  obtain ⟨hx, hb, hr, hml, hts, hown, hlocks, hA, hK⟩ := id C
  intro x1 x2 x4 x5 I J B D ls H locs hok hl hw
  unfold wc_Graph_addStepsOf_69 at hok
  obtain ⟨z6, ez6⟩ : ∃ z : Int32, z = (x5 + 1) := ⟨_, rfl⟩
  have hok := hok z6 ez6
  refine lv_iinc (v := z6) hx hb zd_Graph_addStepsOf_69 hl (k := 4) rfl ez6.symm (by decide) rfl (fun ls hl => ?_)
  have hl : lv_has ls 6 [(5, .int z6), (0, .ref (ad 8)), (1, .int x1), (2, .long x2), (4, .int x4)] := hl
  refine lv_goto (tgt := 37) hx hb zd_Graph_addStepsOf_72 (by decide) ?_
  exact kh37 x1 x2 x4 z6 I J B D ls H locs hok (lv_sub hl [1, 2, 3, 4, 0] rfl) hw
set_option maxHeartbeats 8000000 in
set_option maxRecDepth 100000 in
theorem wB_Graph_addStepsOf_37 {p : Program} {l : Launch} {e : Env} {s : State} {m : MethodId} {below : List Frame} {meth : Method} {c : Code} {A : Nat → Prop} (G : va_G) (K : Nat → ClassId) (ad : Nat → Nat) (sv : Value) (a0 : Int32) (Post : Int32 → (Nat → Int32) → (Nat → Int64) → (Nat → Nat → Int32) → (Nat → Nat → Int64) → Prop) (C : zCx p s m ([.ref (ad 8), .int a0] : List Value).toArray meth c A G K prog_3_method_4_code (some .boolean) 6 "LassoFinder$Graph") (K37 : Int32 → Int64 → Int32 → Int32 → (Nat → Int32) → (Nat → Int64) → (Nat → Nat → Int32) → (Nat → Nat → Int64) → Prop) (kh37 : ∀ (x1 : Int32) (x2 : Int64) (x4 : Int32) (x5 : Int32) (I : Nat → Int32) (J : Nat → Int64) (B : Nat → Nat → Int32) (D : Nat → Nat → Int64) (ls : Array Slot) (H : Heap) (locs : List Loc), K37 x1 x2 x4 x5 I J B D → lv_has ls 6 [(0, .ref (ad 8)), (1, .int x1), (2, .long x2), (4, .int x4), (5, .int x5)] → zW G A s.heap (wX ad K sv I J B D) H locs → W p l e { frames := 5, cells := 0, slots := 0, locals := 121 } s m ([.ref (ad 8), .int a0] : List Value).toArray below meth c H locs 0 0 (MQ below (va_Qi (fun (r : Int32) (u : zS) => Post r u.1 u.2.1 u.2.2.1 u.2.2.2) (fun u t => zPost G K A (wX ad K sv u.1 u.2.1 u.2.2.1 u.2.2.2) t) A) ([.ref (ad 8), .int a0] : List Value).toArray s 0 0 A) (F0 m 37 ls [])) : ∀ (x1 : Int32) (x2 : Int64) (x4 : Int32) (x5 : Int32) (I : Nat → Int32) (J : Nat → Int64) (B : Nat → Nat → Int32) (D : Nat → Nat → Int64) (ls : Array Slot) (H : Heap) (locs : List Loc), wb_Graph_addStepsOf_37 a0 K37 Post x1 x2 x4 x5 I J B D → lv_has ls 6 [(0, .ref (ad 8)), (1, .int x1), (2, .long x2), (4, .int x4), (5, .int x5)] → zW G A s.heap (wX ad K sv I J B D) H locs → W p l e { frames := 5, cells := 0, slots := 0, locals := 121 } s m ([.ref (ad 8), .int a0] : List Value).toArray below meth c H locs 0 0 (MQ below (va_Qi (fun (r : Int32) (u : zS) => Post r u.1 u.2.1 u.2.2.1 u.2.2.2) (fun u t => zPost G K A (wX ad K sv u.1 u.2.1 u.2.2.1 u.2.2.2) t) A) ([.ref (ad 8), .int a0] : List Value).toArray s 0 0 A) (F0 m 37 ls []) := by
  obtain ⟨hx, hb, hr, hml, hts, hown, hlocks, hA, hK⟩ := id C
  intro x1 x2 x4 x5 I J B D ls H locs hok hl hw
  unfold wb_Graph_addStepsOf_37 at hok
  refine lv_iload hx hb zd_Graph_addStepsOf_37 (lv_at hl 4 rfl) ?_
  refine lv_bipush (v := 48) hx hb zd_Graph_addStepsOf_39 (by decide) ?_
  refine lv_icmp_ge (tgt := 75) hx hb zd_Graph_addStepsOf_41 (by decide) (fun hc7 => ?_) (fun hc7 => ?_)
  · have hok := hok.1 hc7
    exact wJ_Graph_addStepsOf_75 G K ad sv a0 Post C x1 x4 I J B D ls H locs hok (lv_sub hl [0, 1, 3] rfl) hw
  · have hok := hok.2 hc7
    refine lv_iload hx hb zd_Graph_addStepsOf_44 (lv_at hl 3 rfl) ?_
    refine lv_if_eq (tgt := 75) hx hb zd_Graph_addStepsOf_46 (by decide) (fun hc8 => ?_) (fun hc8 => ?_)
    · have hok := hok.1 hc8
      exact wJ_Graph_addStepsOf_75 G K ad sv a0 Post C x1 x4 I J B D ls H locs hok (lv_sub hl [0, 1, 3] rfl) hw
    · have hok := hok.2 hc8
      refine lv_lload_n hx hb zd_Graph_addStepsOf_49 rfl (lv_at hl 2 rfl) ?_
      refine lv_iload hx hb zd_Graph_addStepsOf_50 (lv_at hl 4 rfl) ?_
      refine lv_lushr hx hb zd_Graph_addStepsOf_52 rfl ?_
      refine lv_topl (fun z9 ez9 => ?_)
      have hok := hok z9 ez9
      refine lv_lconst (v := 1) hx hb zd_Graph_addStepsOf_53 (by decide) ?_
      refine lv_land hx hb zd_Graph_addStepsOf_54 ?_
      refine lv_topl (fun z10 ez10 => ?_)
      have hok := hok z10 ez10
      refine lv_lconst (v := 0) hx hb zd_Graph_addStepsOf_55 (by decide) ?_
      refine W.lcmp hx hb zd_Graph_addStepsOf_56 ?_
      refine lv_topi (fun z11 ez11 => ?_)
      have hok := hok z11 ez11
      refine lv_if_eq (tgt := 69) hx hb zd_Graph_addStepsOf_57 (by decide) (fun hc12 => ?_) (fun hc12 => ?_)
      · have hok := hok.1 hc12
        exact wJ_Graph_addStepsOf_69 G K ad sv a0 Post C K37 kh37 x1 x2 x4 x5 I J B D ls H locs hok (lv_sub hl [0, 1, 2, 3, 4] rfl) hw
      · have hok := hok.2 hc12
        refine lv_aload_n hx hb zd_Graph_addStepsOf_60 rfl (lv_at hl 0 rfl) ?_
        refine lv_iload_n hx hb zd_Graph_addStepsOf_61 rfl (lv_at hl 1 rfl) ?_
        refine lv_iload hx hb zd_Graph_addStepsOf_62 (lv_at hl 4 rfl) ?_
        refine z_calli (w1 := fun (u : zS) => wX ad K sv u.1 u.2.1 u.2.2.1 u.2.2.2) (wr := []) (z_runV (q0 := 8) (wc := (wX ad K sv I J B D)) (As := [.int x1, .int x5]) (rest := []) ⟨hx, hb, hml, hown, hts⟩ (w_Graph_addStepsBy l G K ad sv I J B D x1 x5 _ H.size hok) zf_Graph_addStepsBy zn_403 ⟨Nat.le_of_ble_eq_true rfl, Nat.le_of_ble_eq_true rfl⟩ hK hw (List.range 65) wX_all wX_nd wX_g8 rfl rfl hl.1 rfl (Nat.le_of_ble_eq_true rfl) zd_Graph_addStepsOf_64 ⟨Nat.le_of_ble_eq_true rfl, Nat.le_of_ble_eq_true rfl⟩) hw hA (List.range 65) [] wX_all rfl (by decide) (fun i hi => by cases hi) (fun r13 u H locs hok hw => ?_)
        obtain ⟨I13, J13, B13, D13⟩ := u
        dsimp only at hok
        have hw : zW G A s.heap (wX ad K sv I13 J13 B13 D13) H locs := hw
        refine lv_istore hx hb zd_Graph_addStepsOf_67 hl (by decide) rfl (fun ls hl => ?_)
        have hl : lv_has ls 6 [(4, .int r13), (0, .ref (ad 8)), (1, .int x1), (2, .long x2), (5, .int x5)] := hl
        exact wJ_Graph_addStepsOf_69 G K ad sv a0 Post C K37 kh37 x1 x2 r13 x5 I13 J13 B13 D13 ls H locs hok (lv_sub hl [1, 2, 3, 0, 4] rfl) hw
theorem wL_Graph_addStepsOf_37 {p : Program} {l : Launch} {e : Env} {s : State} {m : MethodId} {below : List Frame} {meth : Method} {c : Code} {A : Nat → Prop} (G : va_G) (K : Nat → ClassId) (ad : Nat → Nat) (sv : Value) (a0 : Int32) (Post : Int32 → (Nat → Int32) → (Nat → Int64) → (Nat → Nat → Int32) → (Nat → Nat → Int64) → Prop) (C : zCx p s m ([.ref (ad 8), .int a0] : List Value).toArray meth c A G K prog_3_method_4_code (some .boolean) 6 "LassoFinder$Graph") : ∀ (n : Nat) (x1 : Int32) (x2 : Int64) (x4 : Int32) (x5 : Int32) (I : Nat → Int32) (J : Nat → Int64) (B : Nat → Nat → Int32) (D : Nat → Nat → Int64) (ls : Array Slot) (H : Heap) (locs : List Loc), wl_Graph_addStepsOf_37 a0 Post n x1 x2 x4 x5 I J B D → lv_has ls 6 [(0, .ref (ad 8)), (1, .int x1), (2, .long x2), (4, .int x4), (5, .int x5)] → zW G A s.heap (wX ad K sv I J B D) H locs → W p l e { frames := 5, cells := 0, slots := 0, locals := 121 } s m ([.ref (ad 8), .int a0] : List Value).toArray below meth c H locs 0 0 (MQ below (va_Qi (fun (r : Int32) (u : zS) => Post r u.1 u.2.1 u.2.2.1 u.2.2.2) (fun u t => zPost G K A (wX ad K sv u.1 u.2.1 u.2.2.1 u.2.2.2) t) A) ([.ref (ad 8), .int a0] : List Value).toArray s 0 0 A) (F0 m 37 ls []) := by
  intro n
  induction n with
  | zero => intro x1 x2 x4 x5 I J B D ls H locs hok; exact hok.elim
  | succ n ih => exact wB_Graph_addStepsOf_37 G K ad sv a0 Post C (wl_Graph_addStepsOf_37 a0 Post n) ih
set_option maxHeartbeats 8000000 in
set_option maxRecDepth 100000 in
theorem w_Graph_addStepsOf (l : Launch) (G : va_G) (K : Nat → ClassId) (ad : Nat → Nat) (sv : Value) (I : Nat → Int32) (J : Nat → Int64) (B : Nat → Nat → Int32) (D : Nat → Nat → Int64) (a0 : Int32) (Post : Int32 → (Nat → Int32) → (Nat → Int64) → (Nat → Nat → Int32) → (Nat → Nat → Int64) → Prop) (sz : Nat) (hok : wp_Graph_addStepsOf I J B D a0 Post) : Met l zy_Graph_addStepsOf (Cond.code zy_Graph_addStepsOf prog_3_method_4_code 6 (some .boolean) :: zTB) { frames := 5, cells := 0, slots := 0, locals := 121 } (va_Pc [.ref (ad 8), .int a0] (zPre G K (wX ad K sv I J B D) sz)) (va_Qi (fun (r : Int32) (u : zS) => Post r u.1 u.2.1 u.2.2.1 u.2.2.2) (fun u t => zPost G K (va_A (wX ad K sv I J B D) sz) (wX ad K sv u.1 u.2.1 u.2.2.1 u.2.2.2) t) (va_A (wX ad K sv I J B D) sz)) 0 0 (va_A (wX ad K sv I J B D) sz) := by
  refine zMet (y := zy_Graph_addStepsOf) (av := [.ref (ad 8), .int a0]) (maxL := 6) (cc := prog_3_method_4_code) (ret := (some .boolean)) (W0 := (wX ad K sv I J B D)) (sz := sz) (G := G) (K := K) (wt := zTB) (mc := 0) (ms := 0) (Qf := fun A => va_Qi (fun (r : Int32) (u : zS) => Post r u.1 u.2.1 u.2.2.1 u.2.2.2) (fun u t => zPost G K A (wX ad K sv u.1 u.2.1 u.2.2.1 u.2.2.2) t) A) (by decide) (Nat.le_of_ble_eq_true rfl) ?_
  intro p e s m below meth c ls A hx hb hr hml hts hown hlocks hin hA hK H locs hw hsz hl
  clear hsz
  have hown : s.vm.findClass "LassoFinder$Graph" = some m.cls := hown
  have C : zCx p s m ([.ref (ad 8), .int a0] : List Value).toArray meth c A G K prog_3_method_4_code (some .boolean) 6 "LassoFinder$Graph" := ⟨hx, hb, hr, hml, hts, hown, hlocks, hA, hK⟩
  have hl : lv_has ls 6 [(0, .ref (ad 8)), (1, .int a0)] := hl
  have hw : zW G A s.heap (wX ad K sv I J B D) H locs := hw
  unfold wp_Graph_addStepsOf at hok
  refine lv_aload_n hx hb zd_Graph_addStepsOf_0 rfl (lv_at hl 0 rfl) ?_
  refine z_get (v := .ref (ad 47)) hx hb hts hown hK hw zZ2 8 wX_g8 2 (by decide) zn_270 rfl zd_Graph_addStepsOf_1 ?_
  refine lv_iload_n hx hb zd_Graph_addStepsOf_4 rfl (lv_at hl 1 rfl) ?_
  refine lv_aload_n hx hb zd_Graph_addStepsOf_5 rfl (lv_at hl 0 rfl) ?_
  refine z_get (v := .int (I 20)) hx hb hts hown hK hw zZ2 8 wX_g8 10 (by decide) zn_462 rfl zd_Graph_addStepsOf_6 ?_
  refine va_iast (f := (B 32)) hx hb hK hw.1 hw.2.1 hw.2.2 47 0 wX_a47 rfl hok.1 zd_Graph_addStepsOf_9 (fun H locs w91 w92 w93 => ?_)
  have hok := hok.2
  have hw := wX_t47 ⟨w91, w92, w93⟩
  refine lv_aload_n hx hb zd_Graph_addStepsOf_10 rfl (lv_at hl 0 rfl) ?_
  refine z_get (v := .ref (ad 7)) hx hb hts hown hK hw zZ2 8 wX_g8 0 (by decide) zn_460 rfl zd_Graph_addStepsOf_11 ?_
  refine lv_aload_n hx hb zd_Graph_addStepsOf_14 rfl (lv_at hl 0 rfl) ?_
  refine z_get (v := .ref (ad 46)) hx hb hts hown hK hw zZ2 8 wX_g8 1 (by decide) zn_269 rfl zd_Graph_addStepsOf_15 ?_
  refine lv_iload_n hx hb zd_Graph_addStepsOf_18 rfl (lv_at hl 1 rfl) ?_
  refine va_lald (f := (D 2)) hx hb hK hw.1 46 1 wX_a46 rfl hok.1 zd_Graph_addStepsOf_19 ?_
  have hok := hok.2
  refine lv_topl (fun z14 ez14 => ?_)
  have hok := hok z14 ez14
  refine z_callv (w1 := fun (u : zS) => wX ad K sv u.1 u.2.1 u.2.2.1 u.2.2.2) (wr := []) (z_runV (q0 := 7) (wc := (wX ad K sv I J (va_up B 32 (upd (B 32) a0.toNatClampNeg (I 20))) D)) (As := [.long z14]) (rest := []) ⟨hx, hb, hml, hown, hts⟩ (w_Situation_unpack l G K ad sv I J (va_up B 32 (upd (B 32) a0.toNatClampNeg (I 20))) D z14 _ H.size hok) zf_Situation_unpack zn_394 ⟨Nat.le_of_ble_eq_true rfl, Nat.le_of_ble_eq_true rfl⟩ hK hw (List.range 65) wX_all wX_nd wX_g7 rfl rfl hl.1 rfl (Nat.le_of_ble_eq_true rfl) zd_Graph_addStepsOf_20 ⟨Nat.le_of_ble_eq_true rfl, Nat.le_of_ble_eq_true rfl⟩) hw hA (List.range 65) [] wX_all rfl (by decide) (fun i hi => by cases hi) (fun u H locs hok hw => ?_)
  obtain ⟨I15, J15, B15, D15⟩ := u
  dsimp only at hok
  have hw : zW G A s.heap (wX ad K sv I15 J15 B15 D15) H locs := hw
  refine lv_aload_n hx hb zd_Graph_addStepsOf_23 rfl (lv_at hl 0 rfl) ?_
  refine z_get (v := .ref (ad 7)) hx hb hts hown hK hw zZ2 8 wX_g8 0 (by decide) zn_460 rfl zd_Graph_addStepsOf_24 ?_
  refine z_calll (w1 := fun (u : zS) => wX ad K sv u.1 u.2.1 u.2.2.1 u.2.2.2) (wr := []) (z_runV (q0 := 7) (wc := (wX ad K sv I15 J15 B15 D15)) (As := []) (rest := []) ⟨hx, hb, hml, hown, hts⟩ (w_Situation_able l G K ad sv I15 J15 B15 D15  _ H.size hok) zf_Situation_able zn_395 ⟨Nat.le_of_ble_eq_true rfl, Nat.le_of_ble_eq_true rfl⟩ hK hw (List.range 65) wX_all wX_nd wX_g7 rfl rfl hl.1 rfl (Nat.le_of_ble_eq_true rfl) zd_Graph_addStepsOf_27 ⟨Nat.le_of_ble_eq_true rfl, Nat.le_of_ble_eq_true rfl⟩) hw hA (List.range 65) [] wX_all rfl (by decide) (fun i hi => by cases hi) (fun r16 u H locs hok hw => ?_)
  obtain ⟨I16, J16, B16, D16⟩ := u
  dsimp only at hok
  have hw : zW G A s.heap (wX ad K sv I16 J16 B16 D16) H locs := hw
  refine lv_lstore_n hx hb zd_Graph_addStepsOf_30 rfl hl (by decide) rfl (fun ls hl => ?_)
  have hl : lv_has ls 6 [(2, .long r16), (0, .ref (ad 8)), (1, .int a0)] := hl
  refine lv_iconst (v := 1) hx hb zd_Graph_addStepsOf_31 (by decide) ?_
  refine lv_istore hx hb zd_Graph_addStepsOf_32 hl (by decide) rfl (fun ls hl => ?_)
  have hl : lv_has ls 6 [(4, .int 1), (2, .long r16), (0, .ref (ad 8)), (1, .int a0)] := hl
  refine lv_iconst (v := 0) hx hb zd_Graph_addStepsOf_34 (by decide) ?_
  refine lv_istore hx hb zd_Graph_addStepsOf_35 hl (by decide) rfl (fun ls hl => ?_)
  have hl : lv_has ls 6 [(5, .int 0), (4, .int 1), (2, .long r16), (0, .ref (ad 8)), (1, .int a0)] := hl
  obtain ⟨n9, hok⟩ := hok
  exact wL_Graph_addStepsOf_37 G K ad sv a0 Post C n9 a0 r16 1 0 I16 J16 B16 D16 ls H locs hok (lv_sub hl [3, 4, 2, 1, 0] rfl) hw
def wb_Situation_begin_18 (K18 : Int32 → (Nat → Int32) → (Nat → Int64) → (Nat → Nat → Int32) → (Nat → Nat → Int64) → Prop) (Post : (Nat → Int32) → (Nat → Int64) → (Nat → Nat → Int32) → (Nat → Nat → Int64) → Prop) (x1 : Int32) (I : Nat → Int32) (J : Nat → Int64) (B : Nat → Nat → Int32) (D : Nat → Nat → Int64) : Prop :=
  (((I 7) ≤ x1 → Post (upd I 18 (-1)) J (va_up B 31 (va_cpy (B 13) (B 31) (0 : Int32).toNatClampNeg (0 : Int32).toNatClampNeg (4 : Int32).toNatClampNeg)) D) ∧ (¬ (I 7) ≤ x1 → vp_in x1 6 ∧ ∀ z2 : Int32, z2 = ((B 4) x1.toNatClampNeg) → vp_in z2 8 ∧ ∀ z3 : Int32, z3 = ((B 3) z2.toNatClampNeg) → vp_in z2 8 ∧ ∀ z4 : Int32, z4 = (x1 + 1) → K18 z4 I J (va_up B 29 (upd (B 29) z2.toNatClampNeg z3)) D))
def wl_Situation_begin_18 (Post : (Nat → Int32) → (Nat → Int64) → (Nat → Nat → Int32) → (Nat → Nat → Int64) → Prop) (n : Nat) : Int32 → (Nat → Int32) → (Nat → Int64) → (Nat → Nat → Int32) → (Nat → Nat → Int64) → Prop := Nat.rec (fun _ _ _ _ _ => False) (fun _ r => wb_Situation_begin_18  r Post) n
def wp_Situation_begin (I : Nat → Int32) (J : Nat → Int64) (B : Nat → Nat → Int32) (D : Nat → Nat → Int64) (Post : (Nat → Int32) → (Nat → Int64) → (Nat → Nat → Int32) → (Nat → Nat → Int64) → Prop) : Prop :=
  ∃ n : Nat, wl_Situation_begin_18  Post n 0 I J (va_up (va_up B 29 (zFill (B 29) 0 8)) 30 (zFill (B 30) 0 24)) D
set_option maxHeartbeats 8000000 in
set_option maxRecDepth 100000 in
theorem wB_Situation_begin_18 {p : Program} {l : Launch} {e : Env} {s : State} {m : MethodId} {below : List Frame} {meth : Method} {c : Code} {A : Nat → Prop} (G : va_G) (K : Nat → ClassId) (ad : Nat → Nat) (sv : Value) (Post : (Nat → Int32) → (Nat → Int64) → (Nat → Nat → Int32) → (Nat → Nat → Int64) → Prop) (C : zCx p s m ([.ref (ad 7)] : List Value).toArray meth c A G K prog_8_method_2_code none 3 "LassoFinder$Situation") (K18 : Int32 → (Nat → Int32) → (Nat → Int64) → (Nat → Nat → Int32) → (Nat → Nat → Int64) → Prop) (kh18 : ∀ (x1 : Int32) (I : Nat → Int32) (J : Nat → Int64) (B : Nat → Nat → Int32) (D : Nat → Nat → Int64) (ls : Array Slot) (H : Heap) (locs : List Loc), K18 x1 I J B D → lv_has ls 3 [(0, .ref (ad 7)), (1, .int x1)] → zW G A s.heap (wX ad K sv I J B D) H locs → W p l e { frames := 1, cells := 0, slots := 0, locals := 60 } s m ([.ref (ad 7)] : List Value).toArray below meth c H locs 0 0 (MQ below (va_Qv (fun u : zS => Post u.1 u.2.1 u.2.2.1 u.2.2.2) (fun u t => zPost G K A (wX ad K sv u.1 u.2.1 u.2.2.1 u.2.2.2) t) A) ([.ref (ad 7)] : List Value).toArray s 0 0 A) (F0 m 18 ls [])) : ∀ (x1 : Int32) (I : Nat → Int32) (J : Nat → Int64) (B : Nat → Nat → Int32) (D : Nat → Nat → Int64) (ls : Array Slot) (H : Heap) (locs : List Loc), wb_Situation_begin_18  K18 Post x1 I J B D → lv_has ls 3 [(0, .ref (ad 7)), (1, .int x1)] → zW G A s.heap (wX ad K sv I J B D) H locs → W p l e { frames := 1, cells := 0, slots := 0, locals := 60 } s m ([.ref (ad 7)] : List Value).toArray below meth c H locs 0 0 (MQ below (va_Qv (fun u : zS => Post u.1 u.2.1 u.2.2.1 u.2.2.2) (fun u t => zPost G K A (wX ad K sv u.1 u.2.1 u.2.2.1 u.2.2.2) t) A) ([.ref (ad 7)] : List Value).toArray s 0 0 A) (F0 m 18 ls []) := by
  obtain ⟨hx, hb, hr, hml, hts, hown, hlocks, hA, hK⟩ := id C
  intro x1 I J B D ls H locs hok hl hw
  unfold wb_Situation_begin_18 at hok
  refine lv_iload_n hx hb zd_Situation_begin_18 rfl (lv_at hl 1 rfl) ?_
  refine lv_aload_n hx hb zd_Situation_begin_19 rfl (lv_at hl 0 rfl) ?_
  refine z_get (v := .ref (ad 2)) hx hb hts hown hK hw zZ7 7 wX_g7 0 (by decide) zn_306 rfl zd_Situation_begin_20 ?_
  refine z_get (v := .int (I 7)) hx hb hts hown hK hw zZ5 2 wX_g2 4 (by decide) zn_309 rfl zd_Situation_begin_23 ?_
  refine lv_icmp_ge (tgt := 60) hx hb zd_Situation_begin_26 (by decide) (fun hc1 => ?_) (fun hc1 => ?_)
  · have hok := hok.1 hc1
    refine lv_aload_n hx hb zd_Situation_begin_60 rfl (lv_at hl 0 rfl) ?_
    refine z_get (v := .ref (ad 3)) hx hb hts hown hK hw zZ7 7 wX_g7 2 (by decide) zn_463 rfl zd_Situation_begin_61 ?_
    refine z_get (v := .ref (ad 26)) hx hb hts hown hK hw zZ6 3 wX_g3 8 (by decide) zn_479 rfl zd_Situation_begin_64 ?_
    refine lv_iconst (v := 0) hx hb zd_Situation_begin_67 (by decide) ?_
    refine lv_aload_n hx hb zd_Situation_begin_68 rfl (lv_at hl 0 rfl) ?_
    refine z_get (v := .ref (ad 45)) hx hb hts hown hK hw zZ7 7 wX_g7 5 (by decide) zn_268 rfl zd_Situation_begin_69 ?_
    refine lv_iconst (v := 0) hx hb zd_Situation_begin_72 (by decide) ?_
    refine lv_iconst (v := 4) hx hb zd_Situation_begin_73 (by decide) ?_
    refine va_copyi (f := (B 13)) (g := (B 31)) hx hb (by rw [hml]; exact hl.1.symm) hown (hts _ zn_390) (hts _ zn_480) (hts _ zn_481) (hts _ zn_482) hK hw.1 hw.2.1 hw.2.2 26 45 0 0 wX_a26 wX_a45 rfl rfl rfl (by decide) (by decide) (by decide) (Nat.le_of_ble_eq_true rfl) (Nat.le_of_ble_eq_true rfl) (fun i hi => rfl) (Nat.le_of_ble_eq_true rfl) (Nat.le_of_ble_eq_true rfl) zd_Situation_begin_74 (fun H locs w91 w92 w93 => ?_)
    have hw := wX_t45 ⟨w91, w92, w93⟩
    refine lv_aload_n hx hb zd_Situation_begin_77 rfl (lv_at hl 0 rfl) ?_
    refine lv_iconst (v := (-1)) hx hb zd_Situation_begin_78 (by decide) ?_
    refine z_put (v := .int (-1)) hx hb hts hown hK hw zZ7 7 wX_g7 6 (by decide) zn_311 rfl rfl rfl (Nat.le_of_ble_eq_true rfl) zd_Situation_begin_79 (fun H locs hw => ?_)
    have hw := wX_sI18 hw
    exact (z_vret (u := ((upd I 18 (-1)), J, (va_up B 31 (va_cpy (B 13) (B 31) (0 : Int32).toNatClampNeg (0 : Int32).toNatClampNeg (4 : Int32).toNatClampNeg)), D)) hx hb hr hlocks hw (List.range 65) wX_all wX_nd hok (Nat.le_of_ble_eq_true rfl) (Nat.le_of_ble_eq_true rfl) zd_Situation_begin_82)
  · have hok := hok.2 hc1
    refine lv_aload_n hx hb zd_Situation_begin_29 rfl (lv_at hl 0 rfl) ?_
    refine z_get (v := .ref (ad 2)) hx hb hts hown hK hw zZ7 7 wX_g7 0 (by decide) zn_306 rfl zd_Situation_begin_30 ?_
    refine z_get (v := .ref (ad 16)) hx hb hts hown hK hw zZ5 2 wX_g2 2 (by decide) zn_310 rfl zd_Situation_begin_33 ?_
    refine lv_iload_n hx hb zd_Situation_begin_36 rfl (lv_at hl 1 rfl) ?_
    refine va_iald (f := (B 4)) hx hb hK hw.1 16 0 wX_a16 rfl hok.1 zd_Situation_begin_37 ?_
    have hok := hok.2
    refine lv_topi (fun z2 ez2 => ?_)
    have hok := hok z2 ez2
    refine lv_istore_n hx hb zd_Situation_begin_38 rfl hl (by decide) rfl (fun ls hl => ?_)
    have hl : lv_has ls 3 [(2, .int z2), (0, .ref (ad 7)), (1, .int x1)] := hl
    refine lv_aload_n hx hb zd_Situation_begin_39 rfl (lv_at hl 1 rfl) ?_
    refine z_get (v := .ref (ad 43)) hx hb hts hown hK hw zZ7 7 wX_g7 3 (by decide) zn_266 rfl zd_Situation_begin_40 ?_
    refine lv_iload_n hx hb zd_Situation_begin_43 rfl (lv_at hl 0 rfl) ?_
    refine lv_aload_n hx hb zd_Situation_begin_44 rfl (lv_at hl 1 rfl) ?_
    refine z_get (v := .ref (ad 2)) hx hb hts hown hK hw zZ7 7 wX_g7 0 (by decide) zn_306 rfl zd_Situation_begin_45 ?_
    refine z_get (v := .ref (ad 15)) hx hb hts hown hK hw zZ5 2 wX_g2 1 (by decide) zn_472 rfl zd_Situation_begin_48 ?_
    refine lv_iload_n hx hb zd_Situation_begin_51 rfl (lv_at hl 0 rfl) ?_
    refine va_iald (f := (B 3)) hx hb hK hw.1 15 0 wX_a15 rfl hok.1 zd_Situation_begin_52 ?_
    have hok := hok.2
    refine lv_topi (fun z3 ez3 => ?_)
    have hok := hok z3 ez3
    refine va_iast (f := (B 29)) hx hb hK hw.1 hw.2.1 hw.2.2 43 0 wX_a43 rfl hok.1 zd_Situation_begin_53 (fun H locs w91 w92 w93 => ?_)
    have hok := hok.2
    have hw := wX_t43 ⟨w91, w92, w93⟩
    obtain ⟨z4, ez4⟩ : ∃ z : Int32, z = (x1 + 1) := ⟨_, rfl⟩
    have hok := hok z4 ez4
    refine lv_iinc (v := z4) hx hb zd_Situation_begin_54 hl (k := 2) rfl ez4.symm (by decide) rfl (fun ls hl => ?_)
    have hl : lv_has ls 3 [(1, .int z4), (2, .int z2), (0, .ref (ad 7))] := hl
    refine lv_goto (tgt := 18) hx hb zd_Situation_begin_57 (by decide) ?_
    exact kh18 z4 I J (va_up B 29 (upd (B 29) z2.toNatClampNeg z3)) D ls H locs hok (lv_sub hl [2, 0] rfl) hw
theorem wL_Situation_begin_18 {p : Program} {l : Launch} {e : Env} {s : State} {m : MethodId} {below : List Frame} {meth : Method} {c : Code} {A : Nat → Prop} (G : va_G) (K : Nat → ClassId) (ad : Nat → Nat) (sv : Value) (Post : (Nat → Int32) → (Nat → Int64) → (Nat → Nat → Int32) → (Nat → Nat → Int64) → Prop) (C : zCx p s m ([.ref (ad 7)] : List Value).toArray meth c A G K prog_8_method_2_code none 3 "LassoFinder$Situation") : ∀ (n : Nat) (x1 : Int32) (I : Nat → Int32) (J : Nat → Int64) (B : Nat → Nat → Int32) (D : Nat → Nat → Int64) (ls : Array Slot) (H : Heap) (locs : List Loc), wl_Situation_begin_18  Post n x1 I J B D → lv_has ls 3 [(0, .ref (ad 7)), (1, .int x1)] → zW G A s.heap (wX ad K sv I J B D) H locs → W p l e { frames := 1, cells := 0, slots := 0, locals := 60 } s m ([.ref (ad 7)] : List Value).toArray below meth c H locs 0 0 (MQ below (va_Qv (fun u : zS => Post u.1 u.2.1 u.2.2.1 u.2.2.2) (fun u t => zPost G K A (wX ad K sv u.1 u.2.1 u.2.2.1 u.2.2.2) t) A) ([.ref (ad 7)] : List Value).toArray s 0 0 A) (F0 m 18 ls []) := by
  intro n
  induction n with
  | zero => intro x1 I J B D ls H locs hok; exact hok.elim
  | succ n ih => exact wB_Situation_begin_18 G K ad sv  Post C (wl_Situation_begin_18  Post n) ih
set_option maxHeartbeats 8000000 in
set_option maxRecDepth 100000 in
theorem w_Situation_begin (l : Launch) (G : va_G) (K : Nat → ClassId) (ad : Nat → Nat) (sv : Value) (I : Nat → Int32) (J : Nat → Int64) (B : Nat → Nat → Int32) (D : Nat → Nat → Int64) (Post : (Nat → Int32) → (Nat → Int64) → (Nat → Nat → Int32) → (Nat → Nat → Int64) → Prop) (sz : Nat) (hok : wp_Situation_begin I J B D  Post) : Met l zy_Situation_begin (Cond.code zy_Situation_begin prog_8_method_2_code 3 none :: zTB) { frames := 1, cells := 0, slots := 0, locals := 60 } (va_Pc [.ref (ad 7)] (zPre G K (wX ad K sv I J B D) sz)) (va_Qv (fun u : zS => Post u.1 u.2.1 u.2.2.1 u.2.2.2) (fun u t => zPost G K (va_A (wX ad K sv I J B D) sz) (wX ad K sv u.1 u.2.1 u.2.2.1 u.2.2.2) t) (va_A (wX ad K sv I J B D) sz)) 0 0 (va_A (wX ad K sv I J B D) sz) := by
  refine zMet (y := zy_Situation_begin) (av := [.ref (ad 7)]) (maxL := 3) (cc := prog_8_method_2_code) (ret := none) (W0 := (wX ad K sv I J B D)) (sz := sz) (G := G) (K := K) (wt := zTB) (mc := 0) (ms := 0) (Qf := fun A => va_Qv (fun u : zS => Post u.1 u.2.1 u.2.2.1 u.2.2.2) (fun u t => zPost G K A (wX ad K sv u.1 u.2.1 u.2.2.1 u.2.2.2) t) A) (by decide) (Nat.le_of_ble_eq_true rfl) ?_
  intro p e s m below meth c ls A hx hb hr hml hts hown hlocks hin hA hK H locs hw hsz hl
  clear hsz
  have hown : s.vm.findClass "LassoFinder$Situation" = some m.cls := hown
  have C : zCx p s m ([.ref (ad 7)] : List Value).toArray meth c A G K prog_8_method_2_code none 3 "LassoFinder$Situation" := ⟨hx, hb, hr, hml, hts, hown, hlocks, hA, hK⟩
  have hl : lv_has ls 3 [(0, .ref (ad 7))] := hl
  have hw : zW G A s.heap (wX ad K sv I J B D) H locs := hw
  unfold wp_Situation_begin at hok
  refine lv_aload_n hx hb zd_Situation_begin_0 rfl (lv_at hl 0 rfl) ?_
  refine z_get (v := .ref (ad 43)) hx hb hts hown hK hw zZ7 7 wX_g7 3 (by decide) zn_266 rfl zd_Situation_begin_1 ?_
  refine lv_iconst (v := 0) hx hb zd_Situation_begin_4 (by decide) ?_
  refine z_fillI (f := (B 29)) (v := 0) (n := 8) (rest := []) ⟨hx, hb, hml, hown, hts⟩ hK hw hA 43 wX_a43 (by decide) zn_389 ⟨(Nat.le_of_ble_eq_true rfl), (Nat.le_of_ble_eq_true rfl)⟩ hl.1 rfl (Nat.le_of_ble_eq_true rfl) zd_Situation_begin_5 ⟨(Nat.le_of_ble_eq_true rfl), (Nat.le_of_ble_eq_true rfl)⟩ (fun H locs hw => ?_)
  have hw := wX_t43 hw
  refine lv_aload_n hx hb zd_Situation_begin_8 rfl (lv_at hl 0 rfl) ?_
  refine z_get (v := .ref (ad 44)) hx hb hts hown hK hw zZ7 7 wX_g7 4 (by decide) zn_267 rfl zd_Situation_begin_9 ?_
  refine lv_iconst (v := 0) hx hb zd_Situation_begin_12 (by decide) ?_
  refine z_fillI (f := (B 30)) (v := 0) (n := 24) (rest := []) ⟨hx, hb, hml, hown, hts⟩ hK hw hA 44 wX_a44 (by decide) zn_389 ⟨(Nat.le_of_ble_eq_true rfl), (Nat.le_of_ble_eq_true rfl)⟩ hl.1 rfl (Nat.le_of_ble_eq_true rfl) zd_Situation_begin_13 ⟨(Nat.le_of_ble_eq_true rfl), (Nat.le_of_ble_eq_true rfl)⟩ (fun H locs hw => ?_)
  have hw := wX_t44 hw
  refine lv_iconst (v := 0) hx hb zd_Situation_begin_16 (by decide) ?_
  refine lv_istore_n hx hb zd_Situation_begin_17 rfl hl (by decide) rfl (fun ls hl => ?_)
  have hl : lv_has ls 3 [(1, .int 0), (0, .ref (ad 7))] := hl
  obtain ⟨n9, hok⟩ := hok
  exact wL_Situation_begin_18 G K ad sv  Post C n9 0 I J (va_up (va_up B 29 (zFill (B 29) 0 8)) 30 (zFill (B 30) 0 24)) D ls H locs hok (lv_sub hl [1, 0] rfl) hw
def wc_Graph_explore_78 (Post : Int32 → (Nat → Int32) → (Nat → Int64) → (Nat → Nat → Int32) → (Nat → Nat → Int64) → Prop) (x1 : Int32) (I : Nat → Int32) (J : Nat → Int64) (B : Nat → Nat → Int32) (D : Nat → Nat → Int64) : Prop :=
  (x1 = 0 ∨ x1 = 1) ∧ Post x1 I J B D
def wc_Graph_explore_70 (Post : Int32 → (Nat → Int32) → (Nat → Int64) → (Nat → Nat → Int32) → (Nat → Nat → Int64) → Prop) (x1 : Int32) (I : Nat → Int32) (J : Nat → Int64) (B : Nat → Nat → Int32) (D : Nat → Nat → Int64) : Prop :=
  ((x1 = 0 → wc_Graph_explore_78  Post x1 I J B D) ∧ (¬ x1 = 0 → wp_Graph_turnRound I J B D  (fun I2 J2 B2 D2 => wc_Graph_explore_78  Post x1 I2 J2 B2 D2)))
def wb_Graph_explore_40 (K40 : Int32 → Int32 → (Nat → Int32) → (Nat → Int64) → (Nat → Nat → Int32) → (Nat → Nat → Int64) → Prop) (Post : Int32 → (Nat → Int32) → (Nat → Int64) → (Nat → Nat → Int32) → (Nat → Nat → Int64) → Prop) (x1 : Int32) (x2 : Int32) (I : Nat → Int32) (J : Nat → Int64) (B : Nat → Nat → Int32) (D : Nat → Nat → Int64) : Prop :=
  (((96 : Int32) ≤ x2 → wc_Graph_explore_70  Post x1 I J B D) ∧ (¬ (96 : Int32) ≤ x2 → (((I 19) ≤ x2 → wc_Graph_explore_70  Post x1 I J B D) ∧ (¬ (I 19) ≤ x2 → ((x1 = 0 → wc_Graph_explore_70  Post x1 I J B D) ∧ (¬ x1 = 0 → wp_Graph_addStepsOf I J B D x2 (fun r6 I6 J6 B6 D6 => ∀ z7 : Int32, z7 = (x2 + 1) → K40 r6 z7 I6 J6 B6 D6)))))))
def wl_Graph_explore_40 (Post : Int32 → (Nat → Int32) → (Nat → Int64) → (Nat → Nat → Int32) → (Nat → Nat → Int64) → Prop) (n : Nat) : Int32 → Int32 → (Nat → Int32) → (Nat → Int64) → (Nat → Nat → Int32) → (Nat → Nat → Int64) → Prop := Nat.rec (fun _ _ _ _ _ _ => False) (fun _ r => wb_Graph_explore_40  r Post) n
def wc_Graph_explore_37 (Post : Int32 → (Nat → Int32) → (Nat → Int64) → (Nat → Nat → Int32) → (Nat → Nat → Int64) → Prop) (y0 : Int32) (I : Nat → Int32) (J : Nat → Int64) (B : Nat → Nat → Int32) (D : Nat → Nat → Int64) : Prop :=
  ∃ n : Nat, wl_Graph_explore_40  Post n y0 0 I J B D
def wp_Graph_explore (I : Nat → Int32) (J : Nat → Int64) (B : Nat → Nat → Int32) (D : Nat → Nat → Int64) (Post : Int32 → (Nat → Int32) → (Nat → Int64) → (Nat → Nat → Int32) → (Nat → Nat → Int64) → Prop) : Prop :=
  wp_Situation_begin (upd (upd I 19 0) 20 0) J B D  (fun I8 J8 B8 D8 => wp_Situation_packed I8 J8 B8 D8  (fun r9 I9 J9 B9 D9 => wp_Graph_enter I9 J9 B9 D9 r9 (fun r10 I10 J10 B10 D10 => ((r10 = (-1) → wc_Graph_explore_37  Post 0 I10 J10 B10 D10) ∧ (¬ r10 = (-1) → wc_Graph_explore_37  Post 1 I10 J10 B10 D10)))))
set_option maxHeartbeats 8000000 in
set_option maxRecDepth 100000 in
theorem wJ_Graph_explore_78 {p : Program} {l : Launch} {e : Env} {s : State} {m : MethodId} {below : List Frame} {meth : Method} {c : Code} {A : Nat → Prop} (G : va_G) (K : Nat → ClassId) (ad : Nat → Nat) (sv : Value) (Post : Int32 → (Nat → Int32) → (Nat → Int64) → (Nat → Nat → Int32) → (Nat → Nat → Int64) → Prop) (C : zCx p s m ([.ref (ad 8)] : List Value).toArray meth c A G K prog_3_method_3_code (some .boolean) 3 "LassoFinder$Graph") : ∀ (x1 : Int32) (I : Nat → Int32) (J : Nat → Int64) (B : Nat → Nat → Int32) (D : Nat → Nat → Int64) (ls : Array Slot) (H : Heap) (locs : List Loc), wc_Graph_explore_78  Post x1 I J B D → lv_has ls 3 [(1, .int x1)] → zW G A s.heap (wX ad K sv I J B D) H locs → W p l e { frames := 6, cells := 0, slots := 0, locals := 146 } s m ([.ref (ad 8)] : List Value).toArray below meth c H locs 0 0 (MQ below (va_Qi (fun (r : Int32) (u : zS) => Post r u.1 u.2.1 u.2.2.1 u.2.2.2) (fun u t => zPost G K A (wX ad K sv u.1 u.2.1 u.2.2.1 u.2.2.2) t) A) ([.ref (ad 8)] : List Value).toArray s 0 0 A) (F0 m 78 ls []) := by
  obtain ⟨hx, hb, hr, hml, hts, hown, hlocks, hA, hK⟩ := id C
  intro x1 I J B D ls H locs hok hl hw
  unfold wc_Graph_explore_78 at hok
  refine lv_iload_n hx hb zd_Graph_explore_78 rfl (lv_at hl 0 rfl) ?_
  have hbo := hok.1
  have hok := hok.2
  exact (z_iret (u := (I, J, B, D)) hx hb hr hlocks (z_nar hbo) hw (List.range 65) wX_all wX_nd hok (Nat.le_of_ble_eq_true rfl) (Nat.le_of_ble_eq_true rfl) zd_Graph_explore_79)
set_option maxHeartbeats 8000000 in
set_option maxRecDepth 100000 in
theorem wJ_Graph_explore_70 {p : Program} {l : Launch} {e : Env} {s : State} {m : MethodId} {below : List Frame} {meth : Method} {c : Code} {A : Nat → Prop} (G : va_G) (K : Nat → ClassId) (ad : Nat → Nat) (sv : Value) (Post : Int32 → (Nat → Int32) → (Nat → Int64) → (Nat → Nat → Int32) → (Nat → Nat → Int64) → Prop) (C : zCx p s m ([.ref (ad 8)] : List Value).toArray meth c A G K prog_3_method_3_code (some .boolean) 3 "LassoFinder$Graph") : ∀ (x1 : Int32) (I : Nat → Int32) (J : Nat → Int64) (B : Nat → Nat → Int32) (D : Nat → Nat → Int64) (ls : Array Slot) (H : Heap) (locs : List Loc), wc_Graph_explore_70  Post x1 I J B D → lv_has ls 3 [(0, .ref (ad 8)), (1, .int x1)] → zW G A s.heap (wX ad K sv I J B D) H locs → W p l e { frames := 6, cells := 0, slots := 0, locals := 146 } s m ([.ref (ad 8)] : List Value).toArray below meth c H locs 0 0 (MQ below (va_Qi (fun (r : Int32) (u : zS) => Post r u.1 u.2.1 u.2.2.1 u.2.2.2) (fun u t => zPost G K A (wX ad K sv u.1 u.2.1 u.2.2.1 u.2.2.2) t) A) ([.ref (ad 8)] : List Value).toArray s 0 0 A) (F0 m 70 ls []) := by
  obtain ⟨hx, hb, hr, hml, hts, hown, hlocks, hA, hK⟩ := id C
  intro x1 I J B D ls H locs hok hl hw
  unfold wc_Graph_explore_70 at hok
  refine lv_iload_n hx hb zd_Graph_explore_70 rfl (lv_at hl 1 rfl) ?_
  refine lv_if_eq (tgt := 78) hx hb zd_Graph_explore_71 (by decide) (fun hc1 => ?_) (fun hc1 => ?_)
  · have hok := hok.1 hc1
    exact wJ_Graph_explore_78 G K ad sv  Post C x1 I J B D ls H locs hok (lv_sub hl [1] rfl) hw
  · have hok := hok.2 hc1
    refine lv_aload_n hx hb zd_Graph_explore_74 rfl (lv_at hl 0 rfl) ?_
    refine z_callv (w1 := fun (u : zS) => wX ad K sv u.1 u.2.1 u.2.2.1 u.2.2.2) (wr := []) (z_runV (q0 := 8) (wc := (wX ad K sv I J B D)) (As := []) (rest := []) ⟨hx, hb, hml, hown, hts⟩ (w_Graph_turnRound l G K ad sv I J B D  _ H.size hok) zf_Graph_turnRound zn_411 ⟨Nat.le_of_ble_eq_true rfl, Nat.le_of_ble_eq_true rfl⟩ hK hw (List.range 65) wX_all wX_nd wX_g8 rfl rfl hl.1 rfl (Nat.le_of_ble_eq_true rfl) zd_Graph_explore_75 ⟨Nat.le_of_ble_eq_true rfl, Nat.le_of_ble_eq_true rfl⟩) hw hA (List.range 65) [] wX_all rfl (by decide) (fun i hi => by cases hi) (fun u H locs hok hw => ?_)
    obtain ⟨I2, J2, B2, D2⟩ := u
    dsimp only at hok
    have hw : zW G A s.heap (wX ad K sv I2 J2 B2 D2) H locs := hw
    exact wJ_Graph_explore_78 G K ad sv  Post C x1 I2 J2 B2 D2 ls H locs hok (lv_sub hl [1] rfl) hw
set_option maxHeartbeats 8000000 in
set_option maxRecDepth 100000 in
theorem wB_Graph_explore_40 {p : Program} {l : Launch} {e : Env} {s : State} {m : MethodId} {below : List Frame} {meth : Method} {c : Code} {A : Nat → Prop} (G : va_G) (K : Nat → ClassId) (ad : Nat → Nat) (sv : Value) (Post : Int32 → (Nat → Int32) → (Nat → Int64) → (Nat → Nat → Int32) → (Nat → Nat → Int64) → Prop) (C : zCx p s m ([.ref (ad 8)] : List Value).toArray meth c A G K prog_3_method_3_code (some .boolean) 3 "LassoFinder$Graph") (K40 : Int32 → Int32 → (Nat → Int32) → (Nat → Int64) → (Nat → Nat → Int32) → (Nat → Nat → Int64) → Prop) (kh40 : ∀ (x1 : Int32) (x2 : Int32) (I : Nat → Int32) (J : Nat → Int64) (B : Nat → Nat → Int32) (D : Nat → Nat → Int64) (ls : Array Slot) (H : Heap) (locs : List Loc), K40 x1 x2 I J B D → lv_has ls 3 [(0, .ref (ad 8)), (1, .int x1), (2, .int x2)] → zW G A s.heap (wX ad K sv I J B D) H locs → W p l e { frames := 6, cells := 0, slots := 0, locals := 146 } s m ([.ref (ad 8)] : List Value).toArray below meth c H locs 0 0 (MQ below (va_Qi (fun (r : Int32) (u : zS) => Post r u.1 u.2.1 u.2.2.1 u.2.2.2) (fun u t => zPost G K A (wX ad K sv u.1 u.2.1 u.2.2.1 u.2.2.2) t) A) ([.ref (ad 8)] : List Value).toArray s 0 0 A) (F0 m 40 ls [])) : ∀ (x1 : Int32) (x2 : Int32) (I : Nat → Int32) (J : Nat → Int64) (B : Nat → Nat → Int32) (D : Nat → Nat → Int64) (ls : Array Slot) (H : Heap) (locs : List Loc), wb_Graph_explore_40  K40 Post x1 x2 I J B D → lv_has ls 3 [(0, .ref (ad 8)), (1, .int x1), (2, .int x2)] → zW G A s.heap (wX ad K sv I J B D) H locs → W p l e { frames := 6, cells := 0, slots := 0, locals := 146 } s m ([.ref (ad 8)] : List Value).toArray below meth c H locs 0 0 (MQ below (va_Qi (fun (r : Int32) (u : zS) => Post r u.1 u.2.1 u.2.2.1 u.2.2.2) (fun u t => zPost G K A (wX ad K sv u.1 u.2.1 u.2.2.1 u.2.2.2) t) A) ([.ref (ad 8)] : List Value).toArray s 0 0 A) (F0 m 40 ls []) := by
  obtain ⟨hx, hb, hr, hml, hts, hown, hlocks, hA, hK⟩ := id C
  intro x1 x2 I J B D ls H locs hok hl hw
  unfold wb_Graph_explore_40 at hok
  refine lv_iload_n hx hb zd_Graph_explore_40 rfl (lv_at hl 2 rfl) ?_
  refine lv_bipush (v := 96) hx hb zd_Graph_explore_41 (by decide) ?_
  refine lv_icmp_ge (tgt := 70) hx hb zd_Graph_explore_43 (by decide) (fun hc3 => ?_) (fun hc3 => ?_)
  · have hok := hok.1 hc3
    exact wJ_Graph_explore_70 G K ad sv  Post C x1 I J B D ls H locs hok (lv_sub hl [0, 1] rfl) hw
  · have hok := hok.2 hc3
    refine lv_iload_n hx hb zd_Graph_explore_46 rfl (lv_at hl 2 rfl) ?_
    refine lv_aload_n hx hb zd_Graph_explore_47 rfl (lv_at hl 0 rfl) ?_
    refine z_get (v := .int (I 19)) hx hb hts hown hK hw zZ2 8 wX_g8 9 (by decide) zn_461 rfl zd_Graph_explore_48 ?_
    refine lv_icmp_ge (tgt := 70) hx hb zd_Graph_explore_51 (by decide) (fun hc4 => ?_) (fun hc4 => ?_)
    · have hok := hok.1 hc4
      exact wJ_Graph_explore_70 G K ad sv  Post C x1 I J B D ls H locs hok (lv_sub hl [0, 1] rfl) hw
    · have hok := hok.2 hc4
      refine lv_iload_n hx hb zd_Graph_explore_54 rfl (lv_at hl 1 rfl) ?_
      refine lv_if_eq (tgt := 70) hx hb zd_Graph_explore_55 (by decide) (fun hc5 => ?_) (fun hc5 => ?_)
      · have hok := hok.1 hc5
        exact wJ_Graph_explore_70 G K ad sv  Post C x1 I J B D ls H locs hok (lv_sub hl [0, 1] rfl) hw
      · have hok := hok.2 hc5
        refine lv_aload_n hx hb zd_Graph_explore_58 rfl (lv_at hl 0 rfl) ?_
        refine lv_iload_n hx hb zd_Graph_explore_59 rfl (lv_at hl 2 rfl) ?_
        refine z_calli (w1 := fun (u : zS) => wX ad K sv u.1 u.2.1 u.2.2.1 u.2.2.2) (wr := []) (z_runV (q0 := 8) (wc := (wX ad K sv I J B D)) (As := [.int x2]) (rest := []) ⟨hx, hb, hml, hown, hts⟩ (w_Graph_addStepsOf l G K ad sv I J B D x2 _ H.size hok) zf_Graph_addStepsOf zn_393 ⟨Nat.le_of_ble_eq_true rfl, Nat.le_of_ble_eq_true rfl⟩ hK hw (List.range 65) wX_all wX_nd wX_g8 rfl rfl hl.1 rfl (Nat.le_of_ble_eq_true rfl) zd_Graph_explore_60 ⟨Nat.le_of_ble_eq_true rfl, Nat.le_of_ble_eq_true rfl⟩) hw hA (List.range 65) [] wX_all rfl (by decide) (fun i hi => by cases hi) (fun r6 u H locs hok hw => ?_)
        obtain ⟨I6, J6, B6, D6⟩ := u
        dsimp only at hok
        have hw : zW G A s.heap (wX ad K sv I6 J6 B6 D6) H locs := hw
        refine lv_istore_n hx hb zd_Graph_explore_63 rfl hl (by decide) rfl (fun ls hl => ?_)
        have hl : lv_has ls 3 [(1, .int r6), (0, .ref (ad 8)), (2, .int x2)] := hl
        obtain ⟨z7, ez7⟩ : ∃ z : Int32, z = (x2 + 1) := ⟨_, rfl⟩
        have hok := hok z7 ez7
        refine lv_iinc (v := z7) hx hb zd_Graph_explore_64 hl (k := 2) rfl ez7.symm (by decide) rfl (fun ls hl => ?_)
        have hl : lv_has ls 3 [(2, .int z7), (1, .int r6), (0, .ref (ad 8))] := hl
        refine lv_goto (tgt := 40) hx hb zd_Graph_explore_67 (by decide) ?_
        exact kh40 r6 z7 I6 J6 B6 D6 ls H locs hok (lv_sub hl [2, 1, 0] rfl) hw
theorem wL_Graph_explore_40 {p : Program} {l : Launch} {e : Env} {s : State} {m : MethodId} {below : List Frame} {meth : Method} {c : Code} {A : Nat → Prop} (G : va_G) (K : Nat → ClassId) (ad : Nat → Nat) (sv : Value) (Post : Int32 → (Nat → Int32) → (Nat → Int64) → (Nat → Nat → Int32) → (Nat → Nat → Int64) → Prop) (C : zCx p s m ([.ref (ad 8)] : List Value).toArray meth c A G K prog_3_method_3_code (some .boolean) 3 "LassoFinder$Graph") : ∀ (n : Nat) (x1 : Int32) (x2 : Int32) (I : Nat → Int32) (J : Nat → Int64) (B : Nat → Nat → Int32) (D : Nat → Nat → Int64) (ls : Array Slot) (H : Heap) (locs : List Loc), wl_Graph_explore_40  Post n x1 x2 I J B D → lv_has ls 3 [(0, .ref (ad 8)), (1, .int x1), (2, .int x2)] → zW G A s.heap (wX ad K sv I J B D) H locs → W p l e { frames := 6, cells := 0, slots := 0, locals := 146 } s m ([.ref (ad 8)] : List Value).toArray below meth c H locs 0 0 (MQ below (va_Qi (fun (r : Int32) (u : zS) => Post r u.1 u.2.1 u.2.2.1 u.2.2.2) (fun u t => zPost G K A (wX ad K sv u.1 u.2.1 u.2.2.1 u.2.2.2) t) A) ([.ref (ad 8)] : List Value).toArray s 0 0 A) (F0 m 40 ls []) := by
  intro n
  induction n with
  | zero => intro x1 x2 I J B D ls H locs hok; exact hok.elim
  | succ n ih => exact wB_Graph_explore_40 G K ad sv  Post C (wl_Graph_explore_40  Post n) ih
set_option maxHeartbeats 8000000 in
set_option maxRecDepth 100000 in
theorem wJ_Graph_explore_37 {p : Program} {l : Launch} {e : Env} {s : State} {m : MethodId} {below : List Frame} {meth : Method} {c : Code} {A : Nat → Prop} (G : va_G) (K : Nat → ClassId) (ad : Nat → Nat) (sv : Value) (Post : Int32 → (Nat → Int32) → (Nat → Int64) → (Nat → Nat → Int32) → (Nat → Nat → Int64) → Prop) (C : zCx p s m ([.ref (ad 8)] : List Value).toArray meth c A G K prog_3_method_3_code (some .boolean) 3 "LassoFinder$Graph") : ∀ (y0 : Int32) (I : Nat → Int32) (J : Nat → Int64) (B : Nat → Nat → Int32) (D : Nat → Nat → Int64) (ls : Array Slot) (H : Heap) (locs : List Loc), wc_Graph_explore_37  Post y0 I J B D → lv_has ls 3 [(0, .ref (ad 8))] → zW G A s.heap (wX ad K sv I J B D) H locs → W p l e { frames := 6, cells := 0, slots := 0, locals := 146 } s m ([.ref (ad 8)] : List Value).toArray below meth c H locs 0 0 (MQ below (va_Qi (fun (r : Int32) (u : zS) => Post r u.1 u.2.1 u.2.2.1 u.2.2.2) (fun u t => zPost G K A (wX ad K sv u.1 u.2.1 u.2.2.1 u.2.2.2) t) A) ([.ref (ad 8)] : List Value).toArray s 0 0 A) (F0 m 37 ls [.int y0]) := by
  obtain ⟨hx, hb, hr, hml, hts, hown, hlocks, hA, hK⟩ := id C
  intro y0 I J B D ls H locs hok hl hw
  unfold wc_Graph_explore_37 at hok
  refine lv_istore_n hx hb zd_Graph_explore_37 rfl hl (by decide) rfl (fun ls hl => ?_)
  have hl : lv_has ls 3 [(1, .int y0), (0, .ref (ad 8))] := hl
  refine lv_iconst (v := 0) hx hb zd_Graph_explore_38 (by decide) ?_
  refine lv_istore_n hx hb zd_Graph_explore_39 rfl hl (by decide) rfl (fun ls hl => ?_)
  have hl : lv_has ls 3 [(2, .int 0), (1, .int y0), (0, .ref (ad 8))] := hl
  obtain ⟨n9, hok⟩ := hok
  exact wL_Graph_explore_40 G K ad sv  Post C n9 y0 0 I J B D ls H locs hok (lv_sub hl [2, 1, 0] rfl) hw
set_option maxHeartbeats 8000000 in
set_option maxRecDepth 100000 in
theorem w_Graph_explore (l : Launch) (G : va_G) (K : Nat → ClassId) (ad : Nat → Nat) (sv : Value) (I : Nat → Int32) (J : Nat → Int64) (B : Nat → Nat → Int32) (D : Nat → Nat → Int64) (Post : Int32 → (Nat → Int32) → (Nat → Int64) → (Nat → Nat → Int32) → (Nat → Nat → Int64) → Prop) (sz : Nat) (hok : wp_Graph_explore I J B D  Post) : Met l zy_Graph_explore (Cond.code zy_Graph_explore prog_3_method_3_code 3 (some .boolean) :: zTB) { frames := 6, cells := 0, slots := 0, locals := 146 } (va_Pc [.ref (ad 8)] (zPre G K (wX ad K sv I J B D) sz)) (va_Qi (fun (r : Int32) (u : zS) => Post r u.1 u.2.1 u.2.2.1 u.2.2.2) (fun u t => zPost G K (va_A (wX ad K sv I J B D) sz) (wX ad K sv u.1 u.2.1 u.2.2.1 u.2.2.2) t) (va_A (wX ad K sv I J B D) sz)) 0 0 (va_A (wX ad K sv I J B D) sz) := by
  refine zMet (y := zy_Graph_explore) (av := [.ref (ad 8)]) (maxL := 3) (cc := prog_3_method_3_code) (ret := (some .boolean)) (W0 := (wX ad K sv I J B D)) (sz := sz) (G := G) (K := K) (wt := zTB) (mc := 0) (ms := 0) (Qf := fun A => va_Qi (fun (r : Int32) (u : zS) => Post r u.1 u.2.1 u.2.2.1 u.2.2.2) (fun u t => zPost G K A (wX ad K sv u.1 u.2.1 u.2.2.1 u.2.2.2) t) A) (by decide) (Nat.le_of_ble_eq_true rfl) ?_
  intro p e s m below meth c ls A hx hb hr hml hts hown hlocks hin hA hK H locs hw hsz hl
  clear hsz
  have hown : s.vm.findClass "LassoFinder$Graph" = some m.cls := hown
  have C : zCx p s m ([.ref (ad 8)] : List Value).toArray meth c A G K prog_3_method_3_code (some .boolean) 3 "LassoFinder$Graph" := ⟨hx, hb, hr, hml, hts, hown, hlocks, hA, hK⟩
  have hl : lv_has ls 3 [(0, .ref (ad 8))] := hl
  have hw : zW G A s.heap (wX ad K sv I J B D) H locs := hw
  unfold wp_Graph_explore at hok
  refine lv_aload_n hx hb zd_Graph_explore_0 rfl (lv_at hl 0 rfl) ?_
  refine lv_iconst (v := 0) hx hb zd_Graph_explore_1 (by decide) ?_
  refine z_put (v := .int 0) hx hb hts hown hK hw zZ2 8 wX_g8 9 (by decide) zn_461 rfl rfl rfl (Nat.le_of_ble_eq_true rfl) zd_Graph_explore_2 (fun H locs hw => ?_)
  have hw := wX_sI19 hw
  refine lv_aload_n hx hb zd_Graph_explore_5 rfl (lv_at hl 0 rfl) ?_
  refine lv_iconst (v := 0) hx hb zd_Graph_explore_6 (by decide) ?_
  refine z_put (v := .int 0) hx hb hts hown hK hw zZ2 8 wX_g8 10 (by decide) zn_462 rfl rfl rfl (Nat.le_of_ble_eq_true rfl) zd_Graph_explore_7 (fun H locs hw => ?_)
  have hw := wX_sI20 hw
  refine lv_aload_n hx hb zd_Graph_explore_10 rfl (lv_at hl 0 rfl) ?_
  refine z_get (v := .ref (ad 7)) hx hb hts hown hK hw zZ2 8 wX_g8 0 (by decide) zn_460 rfl zd_Graph_explore_11 ?_
  refine z_callv (w1 := fun (u : zS) => wX ad K sv u.1 u.2.1 u.2.2.1 u.2.2.2) (wr := []) (z_runV (q0 := 7) (wc := (wX ad K sv (upd (upd I 19 0) 20 0) J B D)) (As := []) (rest := []) ⟨hx, hb, hml, hown, hts⟩ (w_Situation_begin l G K ad sv (upd (upd I 19 0) 20 0) J B D  _ H.size hok) zf_Situation_begin zn_388 ⟨Nat.le_of_ble_eq_true rfl, Nat.le_of_ble_eq_true rfl⟩ hK hw (List.range 65) wX_all wX_nd wX_g7 rfl rfl hl.1 rfl (Nat.le_of_ble_eq_true rfl) zd_Graph_explore_14 ⟨Nat.le_of_ble_eq_true rfl, Nat.le_of_ble_eq_true rfl⟩) hw hA (List.range 65) [] wX_all rfl (by decide) (fun i hi => by cases hi) (fun u H locs hok hw => ?_)
  obtain ⟨I8, J8, B8, D8⟩ := u
  dsimp only at hok
  have hw : zW G A s.heap (wX ad K sv I8 J8 B8 D8) H locs := hw
  refine lv_aload_n hx hb zd_Graph_explore_17 rfl (lv_at hl 0 rfl) ?_
  refine lv_aload_n hx hb zd_Graph_explore_18 rfl (lv_at hl 0 rfl) ?_
  refine z_get (v := .ref (ad 7)) hx hb hts hown hK hw zZ2 8 wX_g8 0 (by decide) zn_460 rfl zd_Graph_explore_19 ?_
  refine z_calll (w1 := fun (u : zS) => wX ad K sv u.1 u.2.1 u.2.2.1 u.2.2.2) (wr := []) (z_runV (q0 := 7) (wc := (wX ad K sv I8 J8 B8 D8)) (As := []) (rest := [.ref (ad 8)]) ⟨hx, hb, hml, hown, hts⟩ (w_Situation_packed l G K ad sv I8 J8 B8 D8  _ H.size hok) zf_Situation_packed zn_391 ⟨Nat.le_of_ble_eq_true rfl, Nat.le_of_ble_eq_true rfl⟩ hK hw (List.range 65) wX_all wX_nd wX_g7 rfl rfl hl.1 rfl (Nat.le_of_ble_eq_true rfl) zd_Graph_explore_22 ⟨Nat.le_of_ble_eq_true rfl, Nat.le_of_ble_eq_true rfl⟩) hw hA (List.range 65) [] wX_all rfl (by decide) (fun i hi => by cases hi) (fun r9 u H locs hok hw => ?_)
  obtain ⟨I9, J9, B9, D9⟩ := u
  dsimp only at hok
  have hw : zW G A s.heap (wX ad K sv I9 J9 B9 D9) H locs := hw
  refine z_calli (w1 := fun (u : zS) => wX ad K sv u.1 u.2.1 u.2.2.1 u.2.2.2) (wr := []) (z_runV (q0 := 8) (wc := (wX ad K sv I9 J9 B9 D9)) (As := [.long r9]) (rest := []) ⟨hx, hb, hml, hown, hts⟩ (w_Graph_enter l G K ad sv I9 J9 B9 D9 r9 _ H.size hok) zf_Graph_enter zn_392 ⟨Nat.le_of_ble_eq_true rfl, Nat.le_of_ble_eq_true rfl⟩ hK hw (List.range 65) wX_all wX_nd wX_g8 rfl rfl hl.1 rfl (Nat.le_of_ble_eq_true rfl) zd_Graph_explore_25 ⟨Nat.le_of_ble_eq_true rfl, Nat.le_of_ble_eq_true rfl⟩) hw hA (List.range 65) [] wX_all rfl (by decide) (fun i hi => by cases hi) (fun r10 u H locs hok hw => ?_)
  obtain ⟨I10, J10, B10, D10⟩ := u
  dsimp only at hok
  have hw : zW G A s.heap (wX ad K sv I10 J10 B10 D10) H locs := hw
  refine lv_iconst (v := (-1)) hx hb zd_Graph_explore_28 (by decide) ?_
  refine lv_icmp_eq (tgt := 36) hx hb zd_Graph_explore_29 (by decide) (fun hc11 => ?_) (fun hc11 => ?_)
  · have hok := hok.1 hc11
    refine lv_iconst (v := 0) hx hb zd_Graph_explore_36 (by decide) ?_
    exact wJ_Graph_explore_37 G K ad sv  Post C 0 I10 J10 B10 D10 ls H locs hok (lv_sub hl [0] rfl) hw
  · have hok := hok.2 hc11
    refine lv_iconst (v := 1) hx hb zd_Graph_explore_32 (by decide) ?_
    refine lv_goto (tgt := 37) hx hb zd_Graph_explore_33 (by decide) ?_
    exact wJ_Graph_explore_37 G K ad sv  Post C 1 I10 J10 B10 D10 ls H locs hok (lv_sub hl [0] rfl) hw
def wp_Formula_joining (I : Nat → Int32) (J : Nat → Int64) (B : Nat → Nat → Int32) (D : Nat → Nat → Int64) (a0 : Int32) (Post : Int32 → (Nat → Int32) → (Nat → Int64) → (Nat → Nat → Int32) → (Nat → Nat → Int64) → Prop) : Prop :=
  ((a0 = 38 → Post 1 I J B D) ∧ (a0 = 62 → Post 3 I J B D) ∧ (a0 = 82 → Post 7 I J B D) ∧ (a0 = 85 → Post 6 I J B D) ∧ (a0 = 124 → Post 2 I J B D) ∧ (¬ a0 = 38 → ¬ a0 = 62 → ¬ a0 = 82 → ¬ a0 = 85 → ¬ a0 = 124 → Post (-1) I J B D))
set_option maxHeartbeats 8000000 in
set_option maxRecDepth 100000 in
theorem w_Formula_joining (l : Launch) (G : va_G) (K : Nat → ClassId) (ad : Nat → Nat) (sv : Value) (I : Nat → Int32) (J : Nat → Int64) (B : Nat → Nat → Int32) (D : Nat → Nat → Int64) (a0 : Int32) (Post : Int32 → (Nat → Int32) → (Nat → Int64) → (Nat → Nat → Int32) → (Nat → Nat → Int64) → Prop) (sz : Nat) (hok : wp_Formula_joining I J B D a0 Post) : Met l zy_Formula_joining (Cond.code zy_Formula_joining prog_2_method_5_code 1 (some .int) :: zTB) { frames := 0, cells := 0, slots := 0, locals := 0 } (va_Pc [.int a0] (zPre G K (wX ad K sv I J B D) sz)) (va_Qi (fun (r : Int32) (u : zS) => Post r u.1 u.2.1 u.2.2.1 u.2.2.2) (fun u t => zPost G K (va_A (wX ad K sv I J B D) sz) (wX ad K sv u.1 u.2.1 u.2.2.1 u.2.2.2) t) (va_A (wX ad K sv I J B D) sz)) 0 0 (va_A (wX ad K sv I J B D) sz) := by
  refine zMet (y := zy_Formula_joining) (av := [.int a0]) (maxL := 1) (cc := prog_2_method_5_code) (ret := (some .int)) (W0 := (wX ad K sv I J B D)) (sz := sz) (G := G) (K := K) (wt := zTB) (mc := 0) (ms := 0) (Qf := fun A => va_Qi (fun (r : Int32) (u : zS) => Post r u.1 u.2.1 u.2.2.1 u.2.2.2) (fun u t => zPost G K A (wX ad K sv u.1 u.2.1 u.2.2.1 u.2.2.2) t) A) (by decide) (Nat.le_of_ble_eq_true rfl) ?_
  intro p e s m below meth c ls A hx hb hr hml hts hown hlocks hin hA hK H locs hw hsz hl
  clear hsz
  have hown : s.vm.findClass "LassoFinder$Formula" = some m.cls := hown
  have C : zCx p s m ([.int a0] : List Value).toArray meth c A G K prog_2_method_5_code (some .int) 1 "LassoFinder$Formula" := ⟨hx, hb, hr, hml, hts, hown, hlocks, hA, hK⟩
  have hl : lv_has ls 1 [(0, .int a0)] := hl
  have hw : zW G A s.heap (wX ad K sv I J B D) H locs := hw
  unfold wp_Formula_joining at hok
  refine lv_iload_n hx hb zd_Formula_joining_0 rfl (lv_at hl 0 rfl) ?_
  by_cases hs1 : a0 = 38
  · have hok := hok.1 hs1
    refine lv_lookup (off := 55) (tgt := 56) hx hb zd_Formula_joining_1 (by decide) (by rw [hs1]; decide) (by decide) ?_
    refine lv_iconst (v := 1) hx hb zd_Formula_joining_56 (by decide) ?_
    exact (z_iret (u := (I, J, B, D)) hx hb hr hlocks rfl hw (List.range 65) wX_all wX_nd hok (Nat.le_of_ble_eq_true rfl) (Nat.le_of_ble_eq_true rfl) zd_Formula_joining_57)
  by_cases hs2 : a0 = 62
  · have hok := hok.2.1 hs2
    refine lv_lookup (off := 51) (tgt := 52) hx hb zd_Formula_joining_1 (by decide) (by rw [hs2]; decide) (by decide) ?_
    refine lv_iconst (v := 3) hx hb zd_Formula_joining_52 (by decide) ?_
    exact (z_iret (u := (I, J, B, D)) hx hb hr hlocks rfl hw (List.range 65) wX_all wX_nd hok (Nat.le_of_ble_eq_true rfl) (Nat.le_of_ble_eq_true rfl) zd_Formula_joining_53)
  by_cases hs3 : a0 = 82
  · have hok := hok.2.2.1 hs3
    refine lv_lookup (off := 60) (tgt := 61) hx hb zd_Formula_joining_1 (by decide) (by rw [hs3]; decide) (by decide) ?_
    refine lv_bipush (v := 7) hx hb zd_Formula_joining_61 (by decide) ?_
    exact (z_iret (u := (I, J, B, D)) hx hb hr hlocks rfl hw (List.range 65) wX_all wX_nd hok (Nat.le_of_ble_eq_true rfl) (Nat.le_of_ble_eq_true rfl) zd_Formula_joining_63)
  by_cases hs4 : a0 = 85
  · have hok := hok.2.2.2.1 hs4
    refine lv_lookup (off := 57) (tgt := 58) hx hb zd_Formula_joining_1 (by decide) (by rw [hs4]; decide) (by decide) ?_
    refine lv_bipush (v := 6) hx hb zd_Formula_joining_58 (by decide) ?_
    exact (z_iret (u := (I, J, B, D)) hx hb hr hlocks rfl hw (List.range 65) wX_all wX_nd hok (Nat.le_of_ble_eq_true rfl) (Nat.le_of_ble_eq_true rfl) zd_Formula_joining_60)
  by_cases hs5 : a0 = 124
  · have hok := hok.2.2.2.2.1 hs5
    refine lv_lookup (off := 53) (tgt := 54) hx hb zd_Formula_joining_1 (by decide) (by rw [hs5]; decide) (by decide) ?_
    refine lv_iconst (v := 2) hx hb zd_Formula_joining_54 (by decide) ?_
    exact (z_iret (u := (I, J, B, D)) hx hb hr hlocks rfl hw (List.range 65) wX_all wX_nd hok (Nat.le_of_ble_eq_true rfl) (Nat.le_of_ble_eq_true rfl) zd_Formula_joining_55)
  have hok := hok.2.2.2.2.2 hs1 hs2 hs3 hs4 hs5
  refine lv_lookup (off := 63) (tgt := 64) hx hb zd_Formula_joining_1 (by decide) (by simp only [lv_osw hs1 (a := 38) (by decide), lv_osw hs2 (a := 62) (by decide), lv_osw hs3 (a := 82) (by decide), lv_osw hs4 (a := 85) (by decide), lv_osw hs5 (a := 124) (by decide)]; rfl) (by decide) ?_
  refine lv_iconst (v := (-1)) hx hb zd_Formula_joining_64 (by decide) ?_
  exact (z_iret (u := (I, J, B, D)) hx hb hr hlocks rfl hw (List.range 65) wX_all wX_nd hok (Nat.le_of_ble_eq_true rfl) (Nat.le_of_ble_eq_true rfl) zd_Formula_joining_65)
def wp_Formula_strengthOf (I : Nat → Int32) (J : Nat → Int64) (B : Nat → Nat → Int32) (D : Nat → Nat → Int64) (a0 : Int32) (Post : Int32 → (Nat → Int32) → (Nat → Int64) → (Nat → Nat → Int32) → (Nat → Nat → Int64) → Prop) : Prop :=
  ((a0 = 1 → Post 2 I J B D) ∧ (a0 = 2 → Post 1 I J B D) ∧ (a0 = 3 → Post 0 I J B D) ∧ (¬ a0 = 1 → ¬ a0 = 2 → ¬ a0 = 3 → Post 3 I J B D))
set_option maxHeartbeats 8000000 in
set_option maxRecDepth 100000 in
theorem w_Formula_strengthOf (l : Launch) (G : va_G) (K : Nat → ClassId) (ad : Nat → Nat) (sv : Value) (I : Nat → Int32) (J : Nat → Int64) (B : Nat → Nat → Int32) (D : Nat → Nat → Int64) (a0 : Int32) (Post : Int32 → (Nat → Int32) → (Nat → Int64) → (Nat → Nat → Int32) → (Nat → Nat → Int64) → Prop) (sz : Nat) (hok : wp_Formula_strengthOf I J B D a0 Post) : Met l zy_Formula_strengthOf (Cond.code zy_Formula_strengthOf prog_2_method_6_code 1 (some .int) :: zTB) { frames := 0, cells := 0, slots := 0, locals := 0 } (va_Pc [.int a0] (zPre G K (wX ad K sv I J B D) sz)) (va_Qi (fun (r : Int32) (u : zS) => Post r u.1 u.2.1 u.2.2.1 u.2.2.2) (fun u t => zPost G K (va_A (wX ad K sv I J B D) sz) (wX ad K sv u.1 u.2.1 u.2.2.1 u.2.2.2) t) (va_A (wX ad K sv I J B D) sz)) 0 0 (va_A (wX ad K sv I J B D) sz) := by
  refine zMet (y := zy_Formula_strengthOf) (av := [.int a0]) (maxL := 1) (cc := prog_2_method_6_code) (ret := (some .int)) (W0 := (wX ad K sv I J B D)) (sz := sz) (G := G) (K := K) (wt := zTB) (mc := 0) (ms := 0) (Qf := fun A => va_Qi (fun (r : Int32) (u : zS) => Post r u.1 u.2.1 u.2.2.1 u.2.2.2) (fun u t => zPost G K A (wX ad K sv u.1 u.2.1 u.2.2.1 u.2.2.2) t) A) (by decide) (Nat.le_of_ble_eq_true rfl) ?_
  intro p e s m below meth c ls A hx hb hr hml hts hown hlocks hin hA hK H locs hw hsz hl
  clear hsz
  have hown : s.vm.findClass "LassoFinder$Formula" = some m.cls := hown
  have C : zCx p s m ([.int a0] : List Value).toArray meth c A G K prog_2_method_6_code (some .int) 1 "LassoFinder$Formula" := ⟨hx, hb, hr, hml, hts, hown, hlocks, hA, hK⟩
  have hl : lv_has ls 1 [(0, .int a0)] := hl
  have hw : zW G A s.heap (wX ad K sv I J B D) H locs := hw
  unfold wp_Formula_strengthOf at hok
  refine lv_iload_n hx hb zd_Formula_strengthOf_0 rfl (lv_at hl 0 rfl) ?_
  by_cases hs1 : a0 = 1
  · have hok := hok.1 hs1
    refine lv_tableIn (off := 31) (tgt := 32) hx hb zd_Formula_strengthOf_1 (by rw [hs1]; decide) (by rw [hs1]; decide) (by rw [hs1]; decide) (by decide) ?_
    refine lv_iconst (v := 2) hx hb zd_Formula_strengthOf_32 (by decide) ?_
    exact (z_iret (u := (I, J, B, D)) hx hb hr hlocks rfl hw (List.range 65) wX_all wX_nd hok (Nat.le_of_ble_eq_true rfl) (Nat.le_of_ble_eq_true rfl) zd_Formula_strengthOf_33)
  by_cases hs2 : a0 = 2
  · have hok := hok.2.1 hs2
    refine lv_tableIn (off := 29) (tgt := 30) hx hb zd_Formula_strengthOf_1 (by rw [hs2]; decide) (by rw [hs2]; decide) (by rw [hs2]; decide) (by decide) ?_
    refine lv_iconst (v := 1) hx hb zd_Formula_strengthOf_30 (by decide) ?_
    exact (z_iret (u := (I, J, B, D)) hx hb hr hlocks rfl hw (List.range 65) wX_all wX_nd hok (Nat.le_of_ble_eq_true rfl) (Nat.le_of_ble_eq_true rfl) zd_Formula_strengthOf_31)
  by_cases hs3 : a0 = 3
  · have hok := hok.2.2.1 hs3
    refine lv_tableIn (off := 27) (tgt := 28) hx hb zd_Formula_strengthOf_1 (by rw [hs3]; decide) (by rw [hs3]; decide) (by rw [hs3]; decide) (by decide) ?_
    refine lv_iconst (v := 0) hx hb zd_Formula_strengthOf_28 (by decide) ?_
    exact (z_iret (u := (I, J, B, D)) hx hb hr hlocks rfl hw (List.range 65) wX_all wX_nd hok (Nat.le_of_ble_eq_true rfl) (Nat.le_of_ble_eq_true rfl) zd_Formula_strengthOf_29)
  have hok := hok.2.2.2 hs1 hs2 hs3
  refine lv_tableOut (tgt := 34) hx hb zd_Formula_strengthOf_1 (by have h0 := lv_neT hs1 (a := 1) (by decide); have h1 := lv_neT hs2 (a := 2) (by decide); have h2 := lv_neT hs3 (a := 3) (by decide); omega) (by decide) ?_
  refine lv_iconst (v := 3) hx hb zd_Formula_strengthOf_34 (by decide) ?_
  exact (z_iret (u := (I, J, B, D)) hx hb hr hlocks rfl hw (List.range 65) wX_all wX_nd hok (Nat.le_of_ble_eq_true rfl) (Nat.le_of_ble_eq_true rfl) zd_Formula_strengthOf_35)
def wc_Formula_goDeeper_13 (a0 : Int32) (Post : (Nat → Int32) → (Nat → Int64) → (Nat → Nat → Int32) → (Nat → Nat → Int64) → Prop) (PX : String → (Nat → Int32) → (Nat → Int64) → (Nat → Nat → Int32) → (Nat → Nat → Int64) → Prop)  (I : Nat → Int32) (J : Nat → Int64) (B : Nat → Nat → Int32) (D : Nat → Nat → Int64) : Prop :=
  wp_Text_skip I J B D  (fun I1 J1 B1 D1 => Post I1 J1 B1 D1)
def wp_Formula_goDeeper (I : Nat → Int32) (J : Nat → Int64) (B : Nat → Nat → Int32) (D : Nat → Nat → Int64) (a0 : Int32) (Post : (Nat → Int32) → (Nat → Int64) → (Nat → Nat → Int32) → (Nat → Nat → Int64) → Prop) (PX : String → (Nat → Int32) → (Nat → Int64) → (Nat → Nat → Int32) → (Nat → Nat → Int64) → Prop) : Prop :=
  ((a0 < 8 → wc_Formula_goDeeper_13 a0 Post PX I J B D) ∧ (¬ a0 < 8 → wp_Text_refuse I J B D  (fun I3 J3 B3 D3 => wc_Formula_goDeeper_13 a0 Post PX I3 J3 B3 D3) PX))
set_option maxHeartbeats 8000000 in
set_option maxRecDepth 100000 in
theorem wJ_Formula_goDeeper_13 {p : Program} {l : Launch} {e : Env} {s : State} {m : MethodId} {below : List Frame} {meth : Method} {c : Code} {A : Nat → Prop} (G : va_G) (K : Nat → ClassId) (ad : Nat → Nat) (sv : Value) (a0 : Int32) (Post : (Nat → Int32) → (Nat → Int64) → (Nat → Nat → Int32) → (Nat → Nat → Int64) → Prop) (PX : String → (Nat → Int32) → (Nat → Int64) → (Nat → Nat → Int32) → (Nat → Nat → Int64) → Prop) (C : zCy p l s m ([.ref (ad 9), .int a0] : List Value).toArray meth c A G K prog_2_method_10_code none 2 "LassoFinder$Formula") : ∀  (I : Nat → Int32) (J : Nat → Int64) (B : Nat → Nat → Int32) (D : Nat → Nat → Int64) (ls : Array Slot) (H : Heap) (locs : List Loc), wc_Formula_goDeeper_13 a0 Post PX  I J B D → lv_has ls 2 [(0, .ref (ad 9))] → zW G A s.heap (wX ad K sv I J B D) H locs → W p l e { frames := 7, cells := 1, slots := 6, locals := 101 } s m ([.ref (ad 9), .int a0] : List Value).toArray below meth c H locs 0 0 (zyMQ below (va_Qv (fun u : zS => Post u.1 u.2.1 u.2.2.1 u.2.2.2) (fun u t => zPost G K A (wX ad K sv u.1 u.2.1 u.2.2.1 u.2.2.2) t) A) (zYC (fun E (u : zS) => PX E u.1 u.2.1 u.2.2.1 u.2.2.2) (fun u => wX ad K sv u.1 u.2.1 u.2.2.1 u.2.2.2) G K A) ([.ref (ad 9), .int a0] : List Value).toArray s 1 6 A) (F0 m 13 ls []) := by
  obtain ⟨hx, hb, hr, hml, hts, hown, hlocks, hA, hK, hT, hnt, hlt⟩ := id C
  intro  I J B D ls H locs hok hl hw
  unfold wc_Formula_goDeeper_13 at hok
  refine lv_aload_n hx hb zd_Formula_goDeeper_13 rfl (lv_at hl 0 rfl) ?_
  refine z_get (v := .ref (ad 1)) hx hb hts hown hK hw zZ1 9 wX_g9 0 (by decide) zn_518 rfl zd_Formula_goDeeper_14 ?_
  refine z_callv (w1 := fun (u : zS) => wX ad K sv u.1 u.2.1 u.2.2.1 u.2.2.2) (wr := []) (z_runV (q0 := 1) (wc := (wX ad K sv I J B D)) (As := []) (rest := []) ⟨hx, hb, hml, hown, hts⟩ (w_Text_skip l G K ad sv I J B D  _ H.size hok) zf_Text_skip zn_491 ⟨Nat.le_of_ble_eq_true rfl, Nat.le_of_ble_eq_true rfl⟩ hK hw (List.range 65) wX_all wX_nd wX_g1 rfl rfl hl.1 rfl (Nat.le_of_ble_eq_true rfl) zd_Formula_goDeeper_17 ⟨Nat.le_of_ble_eq_true rfl, Nat.le_of_ble_eq_true rfl⟩) hw hA (List.range 65) [] wX_all rfl (by decide) (fun i hi => by cases hi) (fun u H locs hok hw => ?_)
  obtain ⟨I1, J1, B1, D1⟩ := u
  dsimp only at hok
  have hw : zW G A s.heap (wX ad K sv I1 J1 B1 D1) H locs := hw
  exact zy_ret (z_vret (u := (I1, J1, B1, D1)) hx hb hr hlocks hw (List.range 65) wX_all wX_nd hok (Nat.le_of_ble_eq_true rfl) (Nat.le_of_ble_eq_true rfl) zd_Formula_goDeeper_20)
set_option maxHeartbeats 8000000 in
set_option maxRecDepth 100000 in
theorem w_Formula_goDeeper (l : Launch) (hlt : l.stackTraces = false) (G : va_G) (K : Nat → ClassId) (ad : Nat → Nat) (sv : Value) (I : Nat → Int32) (J : Nat → Int64) (B : Nat → Nat → Int32) (D : Nat → Nat → Int64) (a0 : Int32) (Post : (Nat → Int32) → (Nat → Int64) → (Nat → Nat → Int32) → (Nat → Nat → Int64) → Prop) (PX : String → (Nat → Int32) → (Nat → Int64) → (Nat → Nat → Int32) → (Nat → Nat → Int64) → Prop) (sz : Nat) (hok : wp_Formula_goDeeper I J B D a0 Post PX) : zyMet l zy_Formula_goDeeper (Cond.code zy_Formula_goDeeper prog_2_method_10_code 2 none :: zTB) { frames := 7, cells := 1, slots := 6, locals := 101 } (va_Pc [.ref (ad 9), .int a0] (zPreY G K (wX ad K sv I J B D) sz)) (va_Qv (fun u : zS => Post u.1 u.2.1 u.2.2.1 u.2.2.2) (fun u t => zPost G K (va_A (wX ad K sv I J B D) sz) (wX ad K sv u.1 u.2.1 u.2.2.1 u.2.2.2) t) (va_A (wX ad K sv I J B D) sz)) (zYC (fun E (u : zS) => PX E u.1 u.2.1 u.2.2.1 u.2.2.2) (fun u => wX ad K sv u.1 u.2.1 u.2.2.1 u.2.2.2) G K (va_A (wX ad K sv I J B D) sz)) 1 6 (va_A (wX ad K sv I J B D) sz) := by
  refine zMetY (y := zy_Formula_goDeeper) (av := [.ref (ad 9), .int a0]) (maxL := 2) (cc := prog_2_method_10_code) (ret := none) (W0 := (wX ad K sv I J B D)) (sz := sz) (G := G) (K := K) (wt := zTB) (mc := 1) (ms := 6) (Qf := fun A => va_Qv (fun u : zS => Post u.1 u.2.1 u.2.2.1 u.2.2.2) (fun u t => zPost G K A (wX ad K sv u.1 u.2.1 u.2.2.1 u.2.2.2) t) A) (Xf := fun A => (zYC (fun E (u : zS) => PX E u.1 u.2.1 u.2.2.1 u.2.2.2) (fun u => wX ad K sv u.1 u.2.1 u.2.2.1 u.2.2.2) G K A)) (by decide) (Nat.le_of_ble_eq_true rfl) ?_
  intro p e s m below meth c ls A hx hb hr hml hts hown hlocks hin hA hK H locs hw hsz hl hT hnt
  clear hsz
  have hown : s.vm.findClass "LassoFinder$Formula" = some m.cls := hown
  have C : zCy p l s m ([.ref (ad 9), .int a0] : List Value).toArray meth c A G K prog_2_method_10_code none 2 "LassoFinder$Formula" := ⟨hx, hb, hr, hml, hts, hown, hlocks, hA, hK, hT, hnt, hlt⟩
  have hl : lv_has ls 2 [(0, .ref (ad 9)), (1, .int a0)] := hl
  have hw : zW G A s.heap (wX ad K sv I J B D) H locs := hw
  unfold wp_Formula_goDeeper at hok
  refine lv_iload_n hx hb zd_Formula_goDeeper_0 rfl (lv_at hl 1 rfl) ?_
  refine lv_bipush (v := 8) hx hb zd_Formula_goDeeper_1 (by decide) ?_
  refine lv_icmp_lt (tgt := 13) hx hb zd_Formula_goDeeper_3 (by decide) (fun hc2 => ?_) (fun hc2 => ?_)
  · have hok := hok.1 hc2
    exact wJ_Formula_goDeeper_13 G K ad sv a0 Post PX C I J B D ls H locs hok (lv_sub hl [0] rfl) hw
  · have hok := hok.2 hc2
    refine lv_aload_n hx hb zd_Formula_goDeeper_6 rfl (lv_at hl 0 rfl) ?_
    refine z_get (v := .ref (ad 1)) hx hb hts hown hK hw zZ1 9 wX_g9 0 (by decide) zn_518 rfl zd_Formula_goDeeper_7 ?_
    refine z_yV (q0 := 1) (wc := (wX ad K sv I J B D)) (wr := []) (w1 := fun (u : zS) => wX ad K sv u.1 u.2.1 u.2.2.1 u.2.2.2) (As := []) (rest := []) ⟨hx, hb, hml, hown, hts⟩ (w_Text_refuse l hlt G K ad sv I J B D  _ _ H.size hok) zf_Text_refuse zn_490 ⟨Nat.le_of_ble_eq_true rfl, Nat.le_of_ble_eq_true rfl⟩ hK hT hw hA (List.range 65) [] wX_all rfl wX_nd (by decide) (fun i hi => by cases hi) wX_g1 rfl rfl hl.1 rfl (Nat.le_of_ble_eq_true rfl) zd_Formula_goDeeper_10 ⟨Nat.le_of_ble_eq_true rfl, Nat.le_of_ble_eq_true rfl⟩ (fun v st9 t9 L9 h0 hq hL => ?_) (fun E ce q9 u H locs hu hw hce hcv hcl => z_yout (u := u) hnt hlocks hce hcv hcl hw (List.range 65) wX_all wX_nd hu (Nat.le_of_ble_eq_true rfl) (Nat.le_of_ble_eq_true rfl))
    obtain ⟨⟨u, hv9, hok, hB9⟩, hF9⟩ := hq
    cases hv9
    have hw := z_back (wr := []) hw hA (List.range 65) [] wX_all rfl (by decide) (fun i hi => by cases hi) h0 hL hB9 hF9
    obtain ⟨I3, J3, B3, D3⟩ := u
    dsimp only at hok
    generalize t9.heap = H at hw ⊢
    generalize locs ++ L9 = locs at hw ⊢
    have hw : zW G A s.heap (wX ad K sv I3 J3 B3 D3) H locs := hw
    refine W.eq (g2 := F0 m 13 ls []) rfl ?_
    exact wJ_Formula_goDeeper_13 G K ad sv a0 Post PX C I3 J3 B3 D3 ls H locs hok (lv_sub hl [0] rfl) hw
def wp_Formula_add (I : Nat → Int32) (J : Nat → Int64) (B : Nat → Nat → Int32) (D : Nat → Nat → Int64) (a0 : Int32) (a1 : Int32) (a2 : Int32) (Post : Int32 → (Nat → Int32) → (Nat → Int64) → (Nat → Nat → Int32) → (Nat → Nat → Int64) → Prop) : Prop :=
  vp_in (I 22) 240 ∧ vp_in (I 22) 240 ∧ vp_in (I 22) 240 ∧ ∀ z1 : Int32, z1 = ((I 22) + 1) → ∀ z2 : Int32, z2 = (z1 - 1) → Post z2 (upd I 22 z1) J (va_up (va_up (va_up B 39 (upd (B 39) (I 22).toNatClampNeg a0)) 40 (upd (B 40) (I 22).toNatClampNeg a1)) 41 (upd (B 41) (I 22).toNatClampNeg a2)) D
set_option maxHeartbeats 8000000 in
set_option maxRecDepth 100000 in
theorem w_Formula_add (l : Launch) (G : va_G) (K : Nat → ClassId) (ad : Nat → Nat) (sv : Value) (I : Nat → Int32) (J : Nat → Int64) (B : Nat → Nat → Int32) (D : Nat → Nat → Int64) (a0 : Int32) (a1 : Int32) (a2 : Int32) (Post : Int32 → (Nat → Int32) → (Nat → Int64) → (Nat → Nat → Int32) → (Nat → Nat → Int64) → Prop) (sz : Nat) (hok : wp_Formula_add I J B D a0 a1 a2 Post) : Met l zy_Formula_add (Cond.code zy_Formula_add prog_2_method_13_code 4 (some .int) :: zTB) { frames := 0, cells := 0, slots := 0, locals := 0 } (va_Pc [.ref (ad 9), .int a0, .int a1, .int a2] (zPre G K (wX ad K sv I J B D) sz)) (va_Qi (fun (r : Int32) (u : zS) => Post r u.1 u.2.1 u.2.2.1 u.2.2.2) (fun u t => zPost G K (va_A (wX ad K sv I J B D) sz) (wX ad K sv u.1 u.2.1 u.2.2.1 u.2.2.2) t) (va_A (wX ad K sv I J B D) sz)) 0 0 (va_A (wX ad K sv I J B D) sz) := by
  refine zMet (y := zy_Formula_add) (av := [.ref (ad 9), .int a0, .int a1, .int a2]) (maxL := 4) (cc := prog_2_method_13_code) (ret := (some .int)) (W0 := (wX ad K sv I J B D)) (sz := sz) (G := G) (K := K) (wt := zTB) (mc := 0) (ms := 0) (Qf := fun A => va_Qi (fun (r : Int32) (u : zS) => Post r u.1 u.2.1 u.2.2.1 u.2.2.2) (fun u t => zPost G K A (wX ad K sv u.1 u.2.1 u.2.2.1 u.2.2.2) t) A) (by decide) (Nat.le_of_ble_eq_true rfl) ?_
  intro p e s m below meth c ls A hx hb hr hml hts hown hlocks hin hA hK H locs hw hsz hl
  clear hsz
  have hown : s.vm.findClass "LassoFinder$Formula" = some m.cls := hown
  have C : zCx p s m ([.ref (ad 9), .int a0, .int a1, .int a2] : List Value).toArray meth c A G K prog_2_method_13_code (some .int) 4 "LassoFinder$Formula" := ⟨hx, hb, hr, hml, hts, hown, hlocks, hA, hK⟩
  have hl : lv_has ls 4 [(0, .ref (ad 9)), (1, .int a0), (2, .int a1), (3, .int a2)] := hl
  have hw : zW G A s.heap (wX ad K sv I J B D) H locs := hw
  unfold wp_Formula_add at hok
  refine lv_aload_n hx hb zd_Formula_add_0 rfl (lv_at hl 0 rfl) ?_
  refine z_get (v := .ref (ad 54)) hx hb hts hown hK hw zZ1 9 wX_g9 3 (by decide) zn_277 rfl zd_Formula_add_1 ?_
  refine lv_aload_n hx hb zd_Formula_add_4 rfl (lv_at hl 0 rfl) ?_
  refine z_get (v := .int (I 22)) hx hb hts hown hK hw zZ1 9 wX_g9 8 (by decide) zn_519 rfl zd_Formula_add_5 ?_
  refine lv_iload_n hx hb zd_Formula_add_8 rfl (lv_at hl 1 rfl) ?_
  refine va_iast (f := (B 39)) hx hb hK hw.1 hw.2.1 hw.2.2 54 0 wX_a54 rfl hok.1 zd_Formula_add_9 (fun H locs w91 w92 w93 => ?_)
  have hok := hok.2
  have hw := wX_t54 ⟨w91, w92, w93⟩
  refine lv_aload_n hx hb zd_Formula_add_10 rfl (lv_at hl 0 rfl) ?_
  refine z_get (v := .ref (ad 55)) hx hb hts hown hK hw zZ1 9 wX_g9 4 (by decide) zn_278 rfl zd_Formula_add_11 ?_
  refine lv_aload_n hx hb zd_Formula_add_14 rfl (lv_at hl 0 rfl) ?_
  refine z_get (v := .int (I 22)) hx hb hts hown hK hw zZ1 9 wX_g9 8 (by decide) zn_519 rfl zd_Formula_add_15 ?_
  refine lv_iload_n hx hb zd_Formula_add_18 rfl (lv_at hl 2 rfl) ?_
  refine va_iast (f := (B 40)) hx hb hK hw.1 hw.2.1 hw.2.2 55 0 wX_a55 rfl hok.1 zd_Formula_add_19 (fun H locs w91 w92 w93 => ?_)
  have hok := hok.2
  have hw := wX_t55 ⟨w91, w92, w93⟩
  refine lv_aload_n hx hb zd_Formula_add_20 rfl (lv_at hl 0 rfl) ?_
  refine z_get (v := .ref (ad 56)) hx hb hts hown hK hw zZ1 9 wX_g9 5 (by decide) zn_279 rfl zd_Formula_add_21 ?_
  refine lv_aload_n hx hb zd_Formula_add_24 rfl (lv_at hl 0 rfl) ?_
  refine z_get (v := .int (I 22)) hx hb hts hown hK hw zZ1 9 wX_g9 8 (by decide) zn_519 rfl zd_Formula_add_25 ?_
  refine lv_iload_n hx hb zd_Formula_add_28 rfl (lv_at hl 3 rfl) ?_
  refine va_iast (f := (B 41)) hx hb hK hw.1 hw.2.1 hw.2.2 56 0 wX_a56 rfl hok.1 zd_Formula_add_29 (fun H locs w91 w92 w93 => ?_)
  have hok := hok.2
  have hw := wX_t56 ⟨w91, w92, w93⟩
  refine lv_aload_n hx hb zd_Formula_add_30 rfl (lv_at hl 0 rfl) ?_
  refine lv_dup hx hb zd_Formula_add_31 rfl ?_
  refine z_get (v := .int (I 22)) hx hb hts hown hK hw zZ1 9 wX_g9 8 (by decide) zn_519 rfl zd_Formula_add_32 ?_
  refine lv_iconst (v := 1) hx hb zd_Formula_add_35 (by decide) ?_
  refine lv_iadd hx hb zd_Formula_add_36 ?_
  refine lv_topi (fun z1 ez1 => ?_)
  have hok := hok z1 ez1
  refine z_put (v := .int z1) hx hb hts hown hK hw zZ1 9 wX_g9 8 (by decide) zn_519 rfl rfl rfl (Nat.le_of_ble_eq_true rfl) zd_Formula_add_37 (fun H locs hw => ?_)
  have hw := wX_sI22 hw
  refine lv_aload_n hx hb zd_Formula_add_40 rfl (lv_at hl 0 rfl) ?_
  refine z_get (v := .int z1) hx hb hts hown hK hw zZ1 9 wX_g9 8 (by decide) zn_519 rfl zd_Formula_add_41 ?_
  refine lv_iconst (v := 1) hx hb zd_Formula_add_44 (by decide) ?_
  refine lv_isub hx hb zd_Formula_add_45 ?_
  refine lv_topi (fun z2 ez2 => ?_)
  have hok := hok z2 ez2
  exact (z_iret (u := ((upd I 22 z1), J, (va_up (va_up (va_up B 39 (upd (B 39) (I 22).toNatClampNeg a0)) 40 (upd (B 40) (I 22).toNatClampNeg a1)) 41 (upd (B 41) (I 22).toNatClampNeg a2)), D)) hx hb hr hlocks rfl hw (List.range 65) wX_all wX_nd hok (Nat.le_of_ble_eq_true rfl) (Nat.le_of_ble_eq_true rfl) zd_Formula_add_46)
def wc_Formula_meetTemporal_15 (a0 : Int32) (Post : (Nat → Int32) → (Nat → Int64) → (Nat → Nat → Int32) → (Nat → Nat → Int64) → Prop) (PX : String → (Nat → Int32) → (Nat → Int64) → (Nat → Nat → Int32) → (Nat → Nat → Int64) → Prop) (x1 : Int32) (I : Nat → Int32) (J : Nat → Int64) (B : Nat → Nat → Int32) (D : Nat → Nat → Int64) : Prop :=
  ∀ z1 : Int32, z1 = ((I 23) + 1) → wp_Formula_goDeeper (upd I 23 z1) J B D x1 (fun I2 J2 B2 D2 => Post I2 J2 B2 D2) PX
def wp_Formula_meetTemporal (I : Nat → Int32) (J : Nat → Int64) (B : Nat → Nat → Int32) (D : Nat → Nat → Int64) (a0 : Int32) (Post : (Nat → Int32) → (Nat → Int64) → (Nat → Nat → Int32) → (Nat → Nat → Int64) → Prop) (PX : String → (Nat → Int32) → (Nat → Int64) → (Nat → Nat → Int32) → (Nat → Nat → Int64) → Prop) : Prop :=
  ((¬ (I 23) = 3 → wc_Formula_meetTemporal_15 a0 Post PX a0 I J B D) ∧ ((I 23) = 3 → wp_Text_refuse I J B D  (fun I4 J4 B4 D4 => wc_Formula_meetTemporal_15 a0 Post PX a0 I4 J4 B4 D4) PX))
set_option maxHeartbeats 8000000 in
set_option maxRecDepth 100000 in
theorem wJ_Formula_meetTemporal_15 {p : Program} {l : Launch} {e : Env} {s : State} {m : MethodId} {below : List Frame} {meth : Method} {c : Code} {A : Nat → Prop} (G : va_G) (K : Nat → ClassId) (ad : Nat → Nat) (sv : Value) (a0 : Int32) (Post : (Nat → Int32) → (Nat → Int64) → (Nat → Nat → Int32) → (Nat → Nat → Int64) → Prop) (PX : String → (Nat → Int32) → (Nat → Int64) → (Nat → Nat → Int32) → (Nat → Nat → Int64) → Prop) (C : zCy p l s m ([.ref (ad 9), .int a0] : List Value).toArray meth c A G K prog_2_method_11_code none 2 "LassoFinder$Formula") : ∀ (x1 : Int32) (I : Nat → Int32) (J : Nat → Int64) (B : Nat → Nat → Int32) (D : Nat → Nat → Int64) (ls : Array Slot) (H : Heap) (locs : List Loc), wc_Formula_meetTemporal_15 a0 Post PX x1 I J B D → lv_has ls 2 [(0, .ref (ad 9)), (1, .int x1)] → zW G A s.heap (wX ad K sv I J B D) H locs → W p l e { frames := 8, cells := 1, slots := 6, locals := 122 } s m ([.ref (ad 9), .int a0] : List Value).toArray below meth c H locs 0 0 (zyMQ below (va_Qv (fun u : zS => Post u.1 u.2.1 u.2.2.1 u.2.2.2) (fun u t => zPost G K A (wX ad K sv u.1 u.2.1 u.2.2.1 u.2.2.2) t) A) (zYC (fun E (u : zS) => PX E u.1 u.2.1 u.2.2.1 u.2.2.2) (fun u => wX ad K sv u.1 u.2.1 u.2.2.1 u.2.2.2) G K A) ([.ref (ad 9), .int a0] : List Value).toArray s 1 6 A) (F0 m 15 ls []) := by
  obtain ⟨hx, hb, hr, hml, hts, hown, hlocks, hA, hK, hT, hnt, hlt⟩ := id C
  intro x1 I J B D ls H locs hok hl hw
  unfold wc_Formula_meetTemporal_15 at hok
  refine lv_aload_n hx hb zd_Formula_meetTemporal_15 rfl (lv_at hl 0 rfl) ?_
  refine lv_dup hx hb zd_Formula_meetTemporal_16 rfl ?_
  refine z_get (v := .int (I 23)) hx hb hts hown hK hw zZ1 9 wX_g9 9 (by decide) zn_521 rfl zd_Formula_meetTemporal_17 ?_
  refine lv_iconst (v := 1) hx hb zd_Formula_meetTemporal_20 (by decide) ?_
  refine lv_iadd hx hb zd_Formula_meetTemporal_21 ?_
  refine lv_topi (fun z1 ez1 => ?_)
  have hok := hok z1 ez1
  refine z_put (v := .int z1) hx hb hts hown hK hw zZ1 9 wX_g9 9 (by decide) zn_521 rfl rfl rfl (Nat.le_of_ble_eq_true rfl) zd_Formula_meetTemporal_22 (fun H locs hw => ?_)
  have hw := wX_sI23 hw
  refine lv_aload_n hx hb zd_Formula_meetTemporal_25 rfl (lv_at hl 0 rfl) ?_
  refine lv_iload_n hx hb zd_Formula_meetTemporal_26 rfl (lv_at hl 1 rfl) ?_
  refine z_yV (q0 := 9) (wc := (wX ad K sv (upd I 23 z1) J B D)) (wr := []) (w1 := fun (u : zS) => wX ad K sv u.1 u.2.1 u.2.2.1 u.2.2.2) (As := [.int x1]) (rest := []) ⟨hx, hb, hml, hown, hts⟩ (w_Formula_goDeeper l hlt G K ad sv (upd I 23 z1) J B D x1 _ _ H.size hok) zf_Formula_goDeeper zn_489 ⟨Nat.le_of_ble_eq_true rfl, Nat.le_of_ble_eq_true rfl⟩ hK hT hw hA (List.range 65) [] wX_all rfl wX_nd (by decide) (fun i hi => by cases hi) wX_g9 rfl rfl hl.1 rfl (Nat.le_of_ble_eq_true rfl) zd_Formula_meetTemporal_27 ⟨Nat.le_of_ble_eq_true rfl, Nat.le_of_ble_eq_true rfl⟩ (fun v st9 t9 L9 h0 hq hL => ?_) (fun E ce q9 u H locs hu hw hce hcv hcl => z_yout (u := u) hnt hlocks hce hcv hcl hw (List.range 65) wX_all wX_nd hu (Nat.le_of_ble_eq_true rfl) (Nat.le_of_ble_eq_true rfl))
  obtain ⟨⟨u, hv9, hok, hB9⟩, hF9⟩ := hq
  cases hv9
  have hw := z_back (wr := []) hw hA (List.range 65) [] wX_all rfl (by decide) (fun i hi => by cases hi) h0 hL hB9 hF9
  obtain ⟨I2, J2, B2, D2⟩ := u
  dsimp only at hok
  generalize t9.heap = H at hw ⊢
  generalize locs ++ L9 = locs at hw ⊢
  have hw : zW G A s.heap (wX ad K sv I2 J2 B2 D2) H locs := hw
  refine W.eq (g2 := F0 m 30 ls []) rfl ?_
  exact zy_ret (z_vret (u := (I2, J2, B2, D2)) hx hb hr hlocks hw (List.range 65) wX_all wX_nd hok (Nat.le_of_ble_eq_true rfl) (Nat.le_of_ble_eq_true rfl) zd_Formula_meetTemporal_30)
set_option maxHeartbeats 8000000 in
set_option maxRecDepth 100000 in
theorem w_Formula_meetTemporal (l : Launch) (hlt : l.stackTraces = false) (G : va_G) (K : Nat → ClassId) (ad : Nat → Nat) (sv : Value) (I : Nat → Int32) (J : Nat → Int64) (B : Nat → Nat → Int32) (D : Nat → Nat → Int64) (a0 : Int32) (Post : (Nat → Int32) → (Nat → Int64) → (Nat → Nat → Int32) → (Nat → Nat → Int64) → Prop) (PX : String → (Nat → Int32) → (Nat → Int64) → (Nat → Nat → Int32) → (Nat → Nat → Int64) → Prop) (sz : Nat) (hok : wp_Formula_meetTemporal I J B D a0 Post PX) : zyMet l zy_Formula_meetTemporal (Cond.code zy_Formula_meetTemporal prog_2_method_11_code 2 none :: zTB) { frames := 8, cells := 1, slots := 6, locals := 122 } (va_Pc [.ref (ad 9), .int a0] (zPreY G K (wX ad K sv I J B D) sz)) (va_Qv (fun u : zS => Post u.1 u.2.1 u.2.2.1 u.2.2.2) (fun u t => zPost G K (va_A (wX ad K sv I J B D) sz) (wX ad K sv u.1 u.2.1 u.2.2.1 u.2.2.2) t) (va_A (wX ad K sv I J B D) sz)) (zYC (fun E (u : zS) => PX E u.1 u.2.1 u.2.2.1 u.2.2.2) (fun u => wX ad K sv u.1 u.2.1 u.2.2.1 u.2.2.2) G K (va_A (wX ad K sv I J B D) sz)) 1 6 (va_A (wX ad K sv I J B D) sz) := by
  refine zMetY (y := zy_Formula_meetTemporal) (av := [.ref (ad 9), .int a0]) (maxL := 2) (cc := prog_2_method_11_code) (ret := none) (W0 := (wX ad K sv I J B D)) (sz := sz) (G := G) (K := K) (wt := zTB) (mc := 1) (ms := 6) (Qf := fun A => va_Qv (fun u : zS => Post u.1 u.2.1 u.2.2.1 u.2.2.2) (fun u t => zPost G K A (wX ad K sv u.1 u.2.1 u.2.2.1 u.2.2.2) t) A) (Xf := fun A => (zYC (fun E (u : zS) => PX E u.1 u.2.1 u.2.2.1 u.2.2.2) (fun u => wX ad K sv u.1 u.2.1 u.2.2.1 u.2.2.2) G K A)) (by decide) (Nat.le_of_ble_eq_true rfl) ?_
  intro p e s m below meth c ls A hx hb hr hml hts hown hlocks hin hA hK H locs hw hsz hl hT hnt
  clear hsz
  have hown : s.vm.findClass "LassoFinder$Formula" = some m.cls := hown
  have C : zCy p l s m ([.ref (ad 9), .int a0] : List Value).toArray meth c A G K prog_2_method_11_code none 2 "LassoFinder$Formula" := ⟨hx, hb, hr, hml, hts, hown, hlocks, hA, hK, hT, hnt, hlt⟩
  have hl : lv_has ls 2 [(0, .ref (ad 9)), (1, .int a0)] := hl
  have hw : zW G A s.heap (wX ad K sv I J B D) H locs := hw
  unfold wp_Formula_meetTemporal at hok
  refine lv_aload_n hx hb zd_Formula_meetTemporal_0 rfl (lv_at hl 0 rfl) ?_
  refine z_get (v := .int (I 23)) hx hb hts hown hK hw zZ1 9 wX_g9 9 (by decide) zn_521 rfl zd_Formula_meetTemporal_1 ?_
  refine lv_iconst (v := 3) hx hb zd_Formula_meetTemporal_4 (by decide) ?_
  refine lv_icmp_ne (tgt := 15) hx hb zd_Formula_meetTemporal_5 (by decide) (fun hc3 => ?_) (fun hc3 => ?_)
  · have hok := hok.1 hc3
    exact wJ_Formula_meetTemporal_15 G K ad sv a0 Post PX C a0 I J B D ls H locs hok (lv_sub hl [0, 1] rfl) hw
  · have hok := hok.2 hc3
    refine lv_aload_n hx hb zd_Formula_meetTemporal_8 rfl (lv_at hl 0 rfl) ?_
    refine z_get (v := .ref (ad 1)) hx hb hts hown hK hw zZ1 9 wX_g9 0 (by decide) zn_518 rfl zd_Formula_meetTemporal_9 ?_
    refine z_yV (q0 := 1) (wc := (wX ad K sv I J B D)) (wr := []) (w1 := fun (u : zS) => wX ad K sv u.1 u.2.1 u.2.2.1 u.2.2.2) (As := []) (rest := []) ⟨hx, hb, hml, hown, hts⟩ (w_Text_refuse l hlt G K ad sv I J B D  _ _ H.size hok) zf_Text_refuse zn_490 ⟨Nat.le_of_ble_eq_true rfl, Nat.le_of_ble_eq_true rfl⟩ hK hT hw hA (List.range 65) [] wX_all rfl wX_nd (by decide) (fun i hi => by cases hi) wX_g1 rfl rfl hl.1 rfl (Nat.le_of_ble_eq_true rfl) zd_Formula_meetTemporal_12 ⟨Nat.le_of_ble_eq_true rfl, Nat.le_of_ble_eq_true rfl⟩ (fun v st9 t9 L9 h0 hq hL => ?_) (fun E ce q9 u H locs hu hw hce hcv hcl => z_yout (u := u) hnt hlocks hce hcv hcl hw (List.range 65) wX_all wX_nd hu (Nat.le_of_ble_eq_true rfl) (Nat.le_of_ble_eq_true rfl))
    obtain ⟨⟨u, hv9, hok, hB9⟩, hF9⟩ := hq
    cases hv9
    have hw := z_back (wr := []) hw hA (List.range 65) [] wX_all rfl (by decide) (fun i hi => by cases hi) h0 hL hB9 hF9
    obtain ⟨I4, J4, B4, D4⟩ := u
    dsimp only at hok
    generalize t9.heap = H at hw ⊢
    generalize locs ++ L9 = locs at hw ⊢
    have hw : zW G A s.heap (wX ad K sv I4 J4 B4 D4) H locs := hw
    refine W.eq (g2 := F0 m 15 ls []) rfl ?_
    exact wJ_Formula_meetTemporal_15 G K ad sv a0 Post PX C a0 I4 J4 B4 D4 ls H locs hok (lv_sub hl [0, 1] rfl) hw
def wp_Formula_addTemporal (I : Nat → Int32) (J : Nat → Int64) (B : Nat → Nat → Int32) (D : Nat → Nat → Int64) (a0 : Int32) (a1 : Int32) (a2 : Int32) (Post : Int32 → (Nat → Int32) → (Nat → Int64) → (Nat → Nat → Int32) → (Nat → Nat → Int64) → Prop) : Prop :=
  wp_Formula_add I J B D a0 a1 a2 (fun r1 I1 J1 B1 D1 => vp_in (I1 21) 3 ∧ ∀ z2 : Int32, z2 = ((I1 21) + 1) → Post r1 (upd I1 21 z2) J1 (va_up B1 42 (upd (B1 42) (I1 21).toNatClampNeg r1)) D1)
set_option maxHeartbeats 8000000 in
set_option maxRecDepth 100000 in
theorem w_Formula_addTemporal (l : Launch) (G : va_G) (K : Nat → ClassId) (ad : Nat → Nat) (sv : Value) (I : Nat → Int32) (J : Nat → Int64) (B : Nat → Nat → Int32) (D : Nat → Nat → Int64) (a0 : Int32) (a1 : Int32) (a2 : Int32) (Post : Int32 → (Nat → Int32) → (Nat → Int64) → (Nat → Nat → Int32) → (Nat → Nat → Int64) → Prop) (sz : Nat) (hok : wp_Formula_addTemporal I J B D a0 a1 a2 Post) : Met l zy_Formula_addTemporal (Cond.code zy_Formula_addTemporal prog_2_method_12_code 5 (some .int) :: zTB) { frames := 1, cells := 0, slots := 0, locals := 23 } (va_Pc [.ref (ad 9), .int a0, .int a1, .int a2] (zPre G K (wX ad K sv I J B D) sz)) (va_Qi (fun (r : Int32) (u : zS) => Post r u.1 u.2.1 u.2.2.1 u.2.2.2) (fun u t => zPost G K (va_A (wX ad K sv I J B D) sz) (wX ad K sv u.1 u.2.1 u.2.2.1 u.2.2.2) t) (va_A (wX ad K sv I J B D) sz)) 0 0 (va_A (wX ad K sv I J B D) sz) := by
  refine zMet (y := zy_Formula_addTemporal) (av := [.ref (ad 9), .int a0, .int a1, .int a2]) (maxL := 5) (cc := prog_2_method_12_code) (ret := (some .int)) (W0 := (wX ad K sv I J B D)) (sz := sz) (G := G) (K := K) (wt := zTB) (mc := 0) (ms := 0) (Qf := fun A => va_Qi (fun (r : Int32) (u : zS) => Post r u.1 u.2.1 u.2.2.1 u.2.2.2) (fun u t => zPost G K A (wX ad K sv u.1 u.2.1 u.2.2.1 u.2.2.2) t) A) (by decide) (Nat.le_of_ble_eq_true rfl) ?_
  intro p e s m below meth c ls A hx hb hr hml hts hown hlocks hin hA hK H locs hw hsz hl
  clear hsz
  have hown : s.vm.findClass "LassoFinder$Formula" = some m.cls := hown
  have C : zCx p s m ([.ref (ad 9), .int a0, .int a1, .int a2] : List Value).toArray meth c A G K prog_2_method_12_code (some .int) 5 "LassoFinder$Formula" := ⟨hx, hb, hr, hml, hts, hown, hlocks, hA, hK⟩
  have hl : lv_has ls 5 [(0, .ref (ad 9)), (1, .int a0), (2, .int a1), (3, .int a2)] := hl
  have hw : zW G A s.heap (wX ad K sv I J B D) H locs := hw
  unfold wp_Formula_addTemporal at hok
  refine lv_aload_n hx hb zd_Formula_addTemporal_0 rfl (lv_at hl 0 rfl) ?_
  refine lv_iload_n hx hb zd_Formula_addTemporal_1 rfl (lv_at hl 1 rfl) ?_
  refine lv_iload_n hx hb zd_Formula_addTemporal_2 rfl (lv_at hl 2 rfl) ?_
  refine lv_iload_n hx hb zd_Formula_addTemporal_3 rfl (lv_at hl 3 rfl) ?_
  refine z_calli (w1 := fun (u : zS) => wX ad K sv u.1 u.2.1 u.2.2.1 u.2.2.2) (wr := []) (z_runV (q0 := 9) (wc := (wX ad K sv I J B D)) (As := [.int a0, .int a1, .int a2]) (rest := []) ⟨hx, hb, hml, hown, hts⟩ (w_Formula_add l G K ad sv I J B D a0 a1 a2 _ H.size hok) zf_Formula_add zn_492 ⟨Nat.le_of_ble_eq_true rfl, Nat.le_of_ble_eq_true rfl⟩ hK hw (List.range 65) wX_all wX_nd wX_g9 rfl rfl hl.1 rfl (Nat.le_of_ble_eq_true rfl) zd_Formula_addTemporal_4 ⟨Nat.le_of_ble_eq_true rfl, Nat.le_of_ble_eq_true rfl⟩) hw hA (List.range 65) [] wX_all rfl (by decide) (fun i hi => by cases hi) (fun r1 u H locs hok hw => ?_)
  obtain ⟨I1, J1, B1, D1⟩ := u
  dsimp only at hok
  have hw : zW G A s.heap (wX ad K sv I1 J1 B1 D1) H locs := hw
  refine lv_istore hx hb zd_Formula_addTemporal_7 hl (by decide) rfl (fun ls hl => ?_)
  have hl : lv_has ls 5 [(4, .int r1), (0, .ref (ad 9)), (1, .int a0), (2, .int a1), (3, .int a2)] := hl
  refine lv_aload_n hx hb zd_Formula_addTemporal_9 rfl (lv_at hl 1 rfl) ?_
  refine z_get (v := .ref (ad 57)) hx hb hts hown hK hw zZ1 9 wX_g9 6 (by decide) zn_280 rfl zd_Formula_addTemporal_10 ?_
  refine lv_aload_n hx hb zd_Formula_addTemporal_13 rfl (lv_at hl 1 rfl) ?_
  refine z_get (v := .int (I1 21)) hx hb hts hown hK hw zZ1 9 wX_g9 7 (by decide) zn_520 rfl zd_Formula_addTemporal_14 ?_
  refine lv_iload hx hb zd_Formula_addTemporal_17 (lv_at hl 0 rfl) ?_
  refine va_iast (f := (B1 42)) hx hb hK hw.1 hw.2.1 hw.2.2 57 0 wX_a57 rfl hok.1 zd_Formula_addTemporal_19 (fun H locs w91 w92 w93 => ?_)
  have hok := hok.2
  have hw := wX_t57 ⟨w91, w92, w93⟩
  refine lv_aload_n hx hb zd_Formula_addTemporal_20 rfl (lv_at hl 1 rfl) ?_
  refine lv_dup hx hb zd_Formula_addTemporal_21 rfl ?_
  refine z_get (v := .int (I1 21)) hx hb hts hown hK hw zZ1 9 wX_g9 7 (by decide) zn_520 rfl zd_Formula_addTemporal_22 ?_
  refine lv_iconst (v := 1) hx hb zd_Formula_addTemporal_25 (by decide) ?_
  refine lv_iadd hx hb zd_Formula_addTemporal_26 ?_
  refine lv_topi (fun z2 ez2 => ?_)
  have hok := hok z2 ez2
  refine z_put (v := .int z2) hx hb hts hown hK hw zZ1 9 wX_g9 7 (by decide) zn_520 rfl rfl rfl (Nat.le_of_ble_eq_true rfl) zd_Formula_addTemporal_27 (fun H locs hw => ?_)
  have hw := wX_sI21 hw
  refine lv_iload hx hb zd_Formula_addTemporal_30 (lv_at hl 0 rfl) ?_
  exact (z_iret (u := ((upd I1 21 z2), J1, (va_up B1 42 (upd (B1 42) (I1 21).toNatClampNeg r1)), D1)) hx hb hr hlocks rfl hw (List.range 65) wX_all wX_nd hok (Nat.le_of_ble_eq_true rfl) (Nat.le_of_ble_eq_true rfl) zd_Formula_addTemporal_32)
