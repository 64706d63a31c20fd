abbrev zy_Graph_addStepsOf : MethodName := ⟨"LassoFinder$Graph", "addStepsOf", "(I)Z"⟩
abbrev zy_Situation_able : MethodName := ⟨"LassoFinder$Situation", "able", "()J"⟩
abbrev zy_Formula_goDeeper : MethodName := ⟨"LassoFinder$Formula", "goDeeper", "(I)V"⟩
abbrev zy_Formula_add : MethodName := ⟨"LassoFinder$Formula", "add", "(III)I"⟩
abbrev zy_Formula_meetTemporal : MethodName := ⟨"LassoFinder$Formula", "meetTemporal", "(I)V"⟩
abbrev zy_Formula_addTemporal : MethodName := ⟨"LassoFinder$Formula", "addTemporal", "(III)I"⟩
abbrev zy_Formula_joining : MethodName := ⟨"LassoFinder$Formula", "joining", "(C)I"⟩
abbrev zy_Formula_strengthOf : MethodName := ⟨"LassoFinder$Formula", "strengthOf", "(I)I"⟩
theorem zn_410 : Cond.methodLink "LassoFinder$Graph" 72 ⟨"LassoFinder$Situation", "able", "()J"⟩ ∈ zTB := z_in (zt_4 _ (List.mem_of_getElem? (i := 159) rfl)) rfl
theorem zn_412 : Cond.methodLink "LassoFinder$Situation" 82 ⟨"LassoFinder$Situation", "ableOf", "(J)J"⟩ ∈ zTB := z_in (zt_4 _ (List.mem_of_getElem? (i := 167) rfl)) rfl
theorem zn_418 : Cond.methodLink "LassoFinder$Graph" 77 ⟨"LassoFinder$Graph", "addStepsBy", "(II)Z"⟩ ∈ zTB := z_in (zt_4 _ (List.mem_of_getElem? (i := 191) rfl)) rfl
theorem zn_444 : Cond.fieldLink "LassoFinder$Situation" 75 "LassoFinder$Program" "processes" "I" ∈ zTB := z_in (zt_1 _ (List.mem_of_getElem? (i := 125) rfl)) rfl
theorem zn_452 : Cond.methodLink "LassoFinder$Formula" 89 ⟨"LassoFinder$Formula", "goDeeper", "(I)V"⟩ ∈ zTB := z_in (zt_5 _ (List.mem_of_getElem? (i := 37) rfl)) rfl
theorem zn_453 : Cond.methodLink "LassoFinder$Formula" 67 ⟨"LassoFinder$Text", "refuse", "()V"⟩ ∈ zTB := z_in (zt_5 _ (List.mem_of_getElem? (i := 41) rfl)) rfl
theorem zn_454 : Cond.methodLink "LassoFinder$Formula" 102 ⟨"LassoFinder$Text", "skip", "()V"⟩ ∈ zTB := z_in (zt_5 _ (List.mem_of_getElem? (i := 42) rfl)) rfl
theorem zn_455 : Cond.methodLink "LassoFinder$Formula" 93 ⟨"LassoFinder$Formula", "add", "(III)I"⟩ ∈ zTB := z_in (zt_5 _ (List.mem_of_getElem? (i := 43) rfl)) rfl
theorem zn_468 : Cond.fieldLink "LassoFinder$Formula" 9 "LassoFinder$Formula" "text" "LLassoFinder$Text;" ∈ zTB := z_in (zt_2 _ (List.mem_of_getElem? (i := 138) rfl)) rfl
theorem zn_469 : Cond.fieldLink "LassoFinder$Formula" 46 "LassoFinder$Formula" "size" "I" ∈ zTB := z_in (zt_2 _ (List.mem_of_getElem? (i := 153) rfl)) rfl
theorem zn_470 : Cond.fieldLink "LassoFinder$Formula" 50 "LassoFinder$Formula" "temporals" "I" ∈ zTB := z_in (zt_2 _ (List.mem_of_getElem? (i := 151) rfl)) rfl
theorem zn_471 : Cond.fieldLink "LassoFinder$Formula" 53 "LassoFinder$Formula" "temporalSigns" "I" ∈ zTB := z_in (zt_2 _ (List.mem_of_getElem? (i := 155) rfl)) rfl
theorem zn_602 : Cond.code ⟨"LassoFinder$Graph", "addStepsBy", "(II)Z"⟩ prog_3_method_5_code 7 (some .boolean) ∈ zTB := z_in (zt_4 _ (List.mem_of_getElem? (i := 194) rfl)) rfl
theorem zn_603 : Cond.instanceMethod ⟨"LassoFinder$Graph", "addStepsBy", "(II)Z"⟩ ∈ zTB := z_in (zt_4 _ (List.mem_of_getElem? (i := 193) rfl)) rfl
theorem zn_604 : Cond.code ⟨"LassoFinder$Situation", "ableOf", "(J)J"⟩ prog_8_method_7_code 6 (some .long) ∈ zTB := z_in (zt_4 _ (List.mem_of_getElem? (i := 170) rfl)) rfl
theorem zn_605 : Cond.instanceMethod ⟨"LassoFinder$Situation", "ableOf", "(J)J"⟩ ∈ zTB := z_in (zt_4 _ (List.mem_of_getElem? (i := 169) rfl)) rfl
theorem zn_606 : Cond.code ⟨"LassoFinder$Situation", "able", "()J"⟩ prog_8_method_6_code 5 (some .long) ∈ zTB := z_in (zt_4 _ (List.mem_of_getElem? (i := 162) rfl)) rfl
theorem zn_607 : Cond.selects "LassoFinder$Situation" ⟨"LassoFinder$Situation", "able", "()J"⟩ ⟨"LassoFinder$Situation", "able", "()J"⟩ ∈ zTB := z_in (zt_4 _ (List.mem_of_getElem? (i := 161) rfl)) rfl
theorem zn_608 : Cond.instanceMethod ⟨"LassoFinder$Situation", "able", "()J"⟩ ∈ zTB := z_in (zt_4 _ (List.mem_of_getElem? (i := 160) rfl)) rfl
theorem zn_609 : Cond.code ⟨"LassoFinder$Formula", "goDeeper", "(I)V"⟩ prog_2_method_10_code 2 none ∈ zTB := z_in (zt_5 _ (List.mem_of_getElem? (i := 40) rfl)) rfl
theorem zn_610 : Cond.instanceMethod ⟨"LassoFinder$Formula", "goDeeper", "(I)V"⟩ ∈ zTB := z_in (zt_5 _ (List.mem_of_getElem? (i := 39) rfl)) rfl
theorem zn_611 : Cond.code ⟨"LassoFinder$Formula", "add", "(III)I"⟩ prog_2_method_13_code 4 (some .int) ∈ zTB := z_in (zt_5 _ (List.mem_of_getElem? (i := 46) rfl)) rfl
theorem zn_612 : Cond.instanceMethod ⟨"LassoFinder$Formula", "add", "(III)I"⟩ ∈ zTB := z_in (zt_5 _ (List.mem_of_getElem? (i := 45) rfl)) rfl
theorem zf_Graph_addStepsBy : zFaceV zy_Graph_addStepsBy prog_3_method_5_code 7 (some .boolean) 2 := ⟨zn_603, (z_in (zp_2 _ (List.mem_of_getElem? (i := 14) rfl)) rfl), zm_5, zn_602, by decide +kernel, by decide +kernel, by decide +kernel⟩
theorem zf_Situation_ableOf : zFaceV zy_Situation_ableOf prog_8_method_7_code 6 (some .long) 1 := ⟨zn_605, (z_in (zp_2 _ (List.mem_of_getElem? (i := 11) rfl)) rfl), zm_15, zn_604, by decide +kernel, by decide +kernel, by decide +kernel⟩
theorem zf_Situation_able : zFaceV zy_Situation_able prog_8_method_6_code 5 (some .long) 0 := ⟨zn_608, zn_607, zm_15, zn_606, by decide +kernel, by decide +kernel, by decide +kernel⟩
theorem zf_Formula_goDeeper : zFaceV zy_Formula_goDeeper prog_2_method_10_code 2 none 1 := ⟨zn_610, (z_in (zp_3 _ (List.mem_of_getElem? (i := 7) rfl)) rfl), zm_3, zn_609, by decide +kernel, by decide +kernel, by decide +kernel⟩
theorem zf_Formula_add : zFaceV zy_Formula_add prog_2_method_13_code 4 (some .int) 3 := ⟨zn_612, (z_in (zp_3 _ (List.mem_of_getElem? (i := 8) rfl)) rfl), zm_3, zn_611, by decide +kernel, by decide +kernel, by decide +kernel⟩
theorem zd_Formula_add_0 : decode prog_2_method_13_code 0 = .ok (.aload_n 0, 1) := by decide +kernel
theorem zd_Formula_add_1 : decode prog_2_method_13_code 1 = .ok (.getfield 30, 3) := by decide +kernel
theorem zd_Formula_add_4 : decode prog_2_method_13_code 4 = .ok (.aload_n 0, 1) := by decide +kernel
theorem zd_Formula_add_5 : decode prog_2_method_13_code 5 = .ok (.getfield 46, 3) := by decide +kernel
theorem zd_Formula_add_8 : decode prog_2_method_13_code 8 = .ok (.iload_n 1, 1) := by decide +kernel
theorem zd_Formula_add_9 : decode prog_2_method_13_code 9 = .ok (.iastore, 1) := by decide +kernel
theorem zd_Formula_add_10 : decode prog_2_method_13_code 10 = .ok (.aload_n 0, 1) := by decide +kernel
theorem zd_Formula_add_11 : decode prog_2_method_13_code 11 = .ok (.getfield 34, 3) := by decide +kernel
theorem zd_Formula_add_14 : decode prog_2_method_13_code 14 = .ok (.aload_n 0, 1) := by decide +kernel
theorem zd_Formula_add_15 : decode prog_2_method_13_code 15 = .ok (.getfield 46, 3) := by decide +kernel
theorem zd_Formula_add_18 : decode prog_2_method_13_code 18 = .ok (.iload_n 2, 1) := by decide +kernel
theorem zd_Formula_add_19 : decode prog_2_method_13_code 19 = .ok (.iastore, 1) := by decide +kernel
theorem zd_Formula_add_20 : decode prog_2_method_13_code 20 = .ok (.aload_n 0, 1) := by decide +kernel
theorem zd_Formula_add_21 : decode prog_2_method_13_code 21 = .ok (.getfield 37, 3) := by decide +kernel
theorem zd_Formula_add_24 : decode prog_2_method_13_code 24 = .ok (.aload_n 0, 1) := by decide +kernel
theorem zd_Formula_add_25 : decode prog_2_method_13_code 25 = .ok (.getfield 46, 3) := by decide +kernel
theorem zd_Formula_add_28 : decode prog_2_method_13_code 28 = .ok (.iload_n 3, 1) := by decide +kernel
theorem zd_Formula_add_29 : decode prog_2_method_13_code 29 = .ok (.iastore, 1) := by decide +kernel
theorem zd_Formula_add_30 : decode prog_2_method_13_code 30 = .ok (.aload_n 0, 1) := by decide +kernel
theorem zd_Formula_add_31 : decode prog_2_method_13_code 31 = .ok (.dup, 1) := by decide +kernel
theorem zd_Formula_add_32 : decode prog_2_method_13_code 32 = .ok (.getfield 46, 3) := by decide +kernel
theorem zd_Formula_add_35 : decode prog_2_method_13_code 35 = .ok (.iconst 1, 1) := by decide +kernel
theorem zd_Formula_add_36 : decode prog_2_method_13_code 36 = .ok (.iadd, 1) := by decide +kernel
theorem zd_Formula_add_37 : decode prog_2_method_13_code 37 = .ok (.putfield 46, 3) := by decide +kernel
theorem zd_Formula_add_40 : decode prog_2_method_13_code 40 = .ok (.aload_n 0, 1) := by decide +kernel
theorem zd_Formula_add_41 : decode prog_2_method_13_code 41 = .ok (.getfield 46, 3) := by decide +kernel
theorem zd_Formula_add_44 : decode prog_2_method_13_code 44 = .ok (.iconst 1, 1) := by decide +kernel
theorem zd_Formula_add_45 : decode prog_2_method_13_code 45 = .ok (.isub, 1) := by decide +kernel
theorem zd_Formula_add_46 : decode prog_2_method_13_code 46 = .ok (.ireturn, 1) := by decide +kernel
theorem zd_Formula_addTemporal_0 : decode prog_2_method_12_code 0 = .ok (.aload_n 0, 1) := by decide +kernel
theorem zd_Formula_addTemporal_1 : decode prog_2_method_12_code 1 = .ok (.iload_n 1, 1) := by decide +kernel
theorem zd_Formula_addTemporal_2 : decode prog_2_method_12_code 2 = .ok (.iload_n 2, 1) := by decide +kernel
theorem zd_Formula_addTemporal_3 : decode prog_2_method_12_code 3 = .ok (.iload_n 3, 1) := by decide +kernel
theorem zd_Formula_addTemporal_4 : decode prog_2_method_12_code 4 = .ok (.invokevirtual 93, 3) := by decide +kernel
theorem zd_Formula_addTemporal_7 : decode prog_2_method_12_code 7 = .ok (.istore 4, 2) := by decide +kernel
theorem zd_Formula_addTemporal_9 : decode prog_2_method_12_code 9 = .ok (.aload_n 0, 1) := by decide +kernel
theorem zd_Formula_addTemporal_10 : decode prog_2_method_12_code 10 = .ok (.getfield 40, 3) := by decide +kernel
theorem zd_Formula_addTemporal_13 : decode prog_2_method_12_code 13 = .ok (.aload_n 0, 1) := by decide +kernel
theorem zd_Formula_addTemporal_14 : decode prog_2_method_12_code 14 = .ok (.getfield 50, 3) := by decide +kernel
theorem zd_Formula_addTemporal_17 : decode prog_2_method_12_code 17 = .ok (.iload 4, 2) := by decide +kernel
theorem zd_Formula_addTemporal_19 : decode prog_2_method_12_code 19 = .ok (.iastore, 1) := by decide +kernel
theorem zd_Formula_addTemporal_20 : decode prog_2_method_12_code 20 = .ok (.aload_n 0, 1) := by decide +kernel
theorem zd_Formula_addTemporal_21 : decode prog_2_method_12_code 21 = .ok (.dup, 1) := by decide +kernel
theorem zd_Formula_addTemporal_22 : decode prog_2_method_12_code 22 = .ok (.getfield 50, 3) := by decide +kernel
theorem zd_Formula_addTemporal_25 : decode prog_2_method_12_code 25 = .ok (.iconst 1, 1) := by decide +kernel
theorem zd_Formula_addTemporal_26 : decode prog_2_method_12_code 26 = .ok (.iadd, 1) := by decide +kernel
theorem zd_Formula_addTemporal_27 : decode prog_2_method_12_code 27 = .ok (.putfield 50, 3) := by decide +kernel
theorem zd_Formula_addTemporal_30 : decode prog_2_method_12_code 30 = .ok (.iload 4, 2) := by decide +kernel
theorem zd_Formula_addTemporal_32 : decode prog_2_method_12_code 32 = .ok (.ireturn, 1) := by decide +kernel
theorem zd_Formula_goDeeper_0 : decode prog_2_method_10_code 0 = .ok (.iload_n 1, 1) := by decide +kernel
theorem zd_Formula_goDeeper_1 : decode prog_2_method_10_code 1 = .ok (.bipush 8, 2) := by decide +kernel
theorem zd_Formula_goDeeper_3 : decode prog_2_method_10_code 3 = .ok (.if_icmp .lt 10, 3) := by decide +kernel
theorem zd_Formula_goDeeper_6 : decode prog_2_method_10_code 6 = .ok (.aload_n 0, 1) := by decide +kernel
theorem zd_Formula_goDeeper_7 : decode prog_2_method_10_code 7 = .ok (.getfield 9, 3) := by decide +kernel
theorem zd_Formula_goDeeper_10 : decode prog_2_method_10_code 10 = .ok (.invokevirtual 67, 3) := by decide +kernel
theorem zd_Formula_goDeeper_13 : decode prog_2_method_10_code 13 = .ok (.aload_n 0, 1) := by decide +kernel
theorem zd_Formula_goDeeper_14 : decode prog_2_method_10_code 14 = .ok (.getfield 9, 3) := by decide +kernel
theorem zd_Formula_goDeeper_17 : decode prog_2_method_10_code 17 = .ok (.invokevirtual 102, 3) := by decide +kernel
theorem zd_Formula_goDeeper_20 : decode prog_2_method_10_code 20 = .ok (.return_, 1) := by decide +kernel
theorem zd_Formula_joining_0 : decode prog_2_method_5_code 0 = .ok (.iload_n 0, 1) := by decide +kernel
theorem zd_Formula_joining_1 : decode prog_2_method_5_code 1 = .ok (.lookupswitch 63 #[(38, 55), (62, 51), (82, 60), (85, 57), (124, 53)], 51) := by decide +kernel
theorem zd_Formula_joining_52 : decode prog_2_method_5_code 52 = .ok (.iconst 3, 1) := by decide +kernel
theorem zd_Formula_joining_53 : decode prog_2_method_5_code 53 = .ok (.ireturn, 1) := by decide +kernel
theorem zd_Formula_joining_54 : decode prog_2_method_5_code 54 = .ok (.iconst 2, 1) := by decide +kernel
theorem zd_Formula_joining_55 : decode prog_2_method_5_code 55 = .ok (.ireturn, 1) := by decide +kernel
theorem zd_Formula_joining_56 : decode prog_2_method_5_code 56 = .ok (.iconst 1, 1) := by decide +kernel
theorem zd_Formula_joining_57 : decode prog_2_method_5_code 57 = .ok (.ireturn, 1) := by decide +kernel
theorem zd_Formula_joining_58 : decode prog_2_method_5_code 58 = .ok (.bipush 6, 2) := by decide +kernel
theorem zd_Formula_joining_60 : decode prog_2_method_5_code 60 = .ok (.ireturn, 1) := by decide +kernel
theorem zd_Formula_joining_61 : decode prog_2_method_5_code 61 = .ok (.bipush 7, 2) := by decide +kernel
theorem zd_Formula_joining_63 : decode prog_2_method_5_code 63 = .ok (.ireturn, 1) := by decide +kernel
theorem zd_Formula_joining_64 : decode prog_2_method_5_code 64 = .ok (.iconst (-1), 1) := by decide +kernel
theorem zd_Formula_joining_65 : decode prog_2_method_5_code 65 = .ok (.ireturn, 1) := by decide +kernel
theorem zd_Formula_meetTemporal_0 : decode prog_2_method_11_code 0 = .ok (.aload_n 0, 1) := by decide +kernel
theorem zd_Formula_meetTemporal_1 : decode prog_2_method_11_code 1 = .ok (.getfield 53, 3) := by decide +kernel
theorem zd_Formula_meetTemporal_4 : decode prog_2_method_11_code 4 = .ok (.iconst 3, 1) := by decide +kernel
theorem zd_Formula_meetTemporal_5 : decode prog_2_method_11_code 5 = .ok (.if_icmp .ne 10, 3) := by decide +kernel
theorem zd_Formula_meetTemporal_8 : decode prog_2_method_11_code 8 = .ok (.aload_n 0, 1) := by decide +kernel
theorem zd_Formula_meetTemporal_9 : decode prog_2_method_11_code 9 = .ok (.getfield 9, 3) := by decide +kernel
theorem zd_Formula_meetTemporal_12 : decode prog_2_method_11_code 12 = .ok (.invokevirtual 67, 3) := by decide +kernel
theorem zd_Formula_meetTemporal_15 : decode prog_2_method_11_code 15 = .ok (.aload_n 0, 1) := by decide +kernel
theorem zd_Formula_meetTemporal_16 : decode prog_2_method_11_code 16 = .ok (.dup, 1) := by decide +kernel
theorem zd_Formula_meetTemporal_17 : decode prog_2_method_11_code 17 = .ok (.getfield 53, 3) := by decide +kernel
theorem zd_Formula_meetTemporal_20 : decode prog_2_method_11_code 20 = .ok (.iconst 1, 1) := by decide +kernel
theorem zd_Formula_meetTemporal_21 : decode prog_2_method_11_code 21 = .ok (.iadd, 1) := by decide +kernel
theorem zd_Formula_meetTemporal_22 : decode prog_2_method_11_code 22 = .ok (.putfield 53, 3) := by decide +kernel
theorem zd_Formula_meetTemporal_25 : decode prog_2_method_11_code 25 = .ok (.aload_n 0, 1) := by decide +kernel
theorem zd_Formula_meetTemporal_26 : decode prog_2_method_11_code 26 = .ok (.iload_n 1, 1) := by decide +kernel
theorem zd_Formula_meetTemporal_27 : decode prog_2_method_11_code 27 = .ok (.invokevirtual 89, 3) := by decide +kernel
theorem zd_Formula_meetTemporal_30 : decode prog_2_method_11_code 30 = .ok (.return_, 1) := by decide +kernel
theorem zd_Formula_strengthOf_0 : decode prog_2_method_6_code 0 = .ok (.iload_n 0, 1) := by decide +kernel
theorem zd_Formula_strengthOf_1 : decode prog_2_method_6_code 1 = .ok (.tableswitch 33 1 3 #[31, 29, 27], 27) := by decide +kernel
theorem zd_Formula_strengthOf_28 : decode prog_2_method_6_code 28 = .ok (.iconst 0, 1) := by decide +kernel
theorem zd_Formula_strengthOf_29 : decode prog_2_method_6_code 29 = .ok (.ireturn, 1) := by decide +kernel
theorem zd_Formula_strengthOf_30 : decode prog_2_method_6_code 30 = .ok (.iconst 1, 1) := by decide +kernel
theorem zd_Formula_strengthOf_31 : decode prog_2_method_6_code 31 = .ok (.ireturn, 1) := by decide +kernel
theorem zd_Formula_strengthOf_32 : decode prog_2_method_6_code 32 = .ok (.iconst 2, 1) := by decide +kernel
theorem zd_Formula_strengthOf_33 : decode prog_2_method_6_code 33 = .ok (.ireturn, 1) := by decide +kernel
theorem zd_Formula_strengthOf_34 : decode prog_2_method_6_code 34 = .ok (.iconst 3, 1) := by decide +kernel
theorem zd_Formula_strengthOf_35 : decode prog_2_method_6_code 35 = .ok (.ireturn, 1) := by decide +kernel
theorem zd_Graph_addStepsOf_0 : decode prog_3_method_4_code 0 = .ok (.aload_n 0, 1) := by decide +kernel
theorem zd_Graph_addStepsOf_1 : decode prog_3_method_4_code 1 = .ok (.getfield 19, 3) := by decide +kernel
theorem zd_Graph_addStepsOf_4 : decode prog_3_method_4_code 4 = .ok (.iload_n 1, 1) := by decide +kernel
theorem zd_Graph_addStepsOf_5 : decode prog_3_method_4_code 5 = .ok (.aload_n 0, 1) := by decide +kernel
theorem zd_Graph_addStepsOf_6 : decode prog_3_method_4_code 6 = .ok (.getfield 45, 3) := by decide +kernel
theorem zd_Graph_addStepsOf_9 : decode prog_3_method_4_code 9 = .ok (.iastore, 1) := by decide +kernel
theorem zd_Graph_addStepsOf_10 : decode prog_3_method_4_code 10 = .ok (.aload_n 0, 1) := by decide +kernel
theorem zd_Graph_addStepsOf_11 : decode prog_3_method_4_code 11 = .ok (.getfield 9, 3) := by decide +kernel
theorem zd_Graph_addStepsOf_14 : decode prog_3_method_4_code 14 = .ok (.aload_n 0, 1) := by decide +kernel
theorem zd_Graph_addStepsOf_15 : decode prog_3_method_4_code 15 = .ok (.getfield 15, 3) := by decide +kernel
theorem zd_Graph_addStepsOf_18 : decode prog_3_method_4_code 18 = .ok (.iload_n 1, 1) := by decide +kernel
theorem zd_Graph_addStepsOf_19 : decode prog_3_method_4_code 19 = .ok (.laload, 1) := by decide +kernel
theorem zd_Graph_addStepsOf_20 : decode prog_3_method_4_code 20 = .ok (.invokevirtual 68, 3) := by decide +kernel
theorem zd_Graph_addStepsOf_23 : decode prog_3_method_4_code 23 = .ok (.aload_n 0, 1) := by decide +kernel
theorem zd_Graph_addStepsOf_24 : decode prog_3_method_4_code 24 = .ok (.getfield 9, 3) := by decide +kernel
theorem zd_Graph_addStepsOf_27 : decode prog_3_method_4_code 27 = .ok (.invokevirtual 72, 3) := by decide +kernel
theorem zd_Graph_addStepsOf_30 : decode prog_3_method_4_code 30 = .ok (.lstore_n 2, 1) := by decide +kernel
theorem zd_Graph_addStepsOf_31 : decode prog_3_method_4_code 31 = .ok (.iconst 1, 1) := by decide +kernel
theorem zd_Graph_addStepsOf_32 : decode prog_3_method_4_code 32 = .ok (.istore 4, 2) := by decide +kernel
theorem zd_Graph_addStepsOf_34 : decode prog_3_method_4_code 34 = .ok (.iconst 0, 1) := by decide +kernel
theorem zd_Graph_addStepsOf_35 : decode prog_3_method_4_code 35 = .ok (.istore 5, 2) := by decide +kernel
theorem zd_Graph_addStepsOf_37 : decode prog_3_method_4_code 37 = .ok (.iload 5, 2) := by decide +kernel
theorem zd_Graph_addStepsOf_39 : decode prog_3_method_4_code 39 = .ok (.bipush 48, 2) := by decide +kernel
theorem zd_Graph_addStepsOf_41 : decode prog_3_method_4_code 41 = .ok (.if_icmp .ge 34, 3) := by decide +kernel
theorem zd_Graph_addStepsOf_44 : decode prog_3_method_4_code 44 = .ok (.iload 4, 2) := by decide +kernel
theorem zd_Graph_addStepsOf_46 : decode prog_3_method_4_code 46 = .ok (.ifCond .eq 29, 3) := by decide +kernel
theorem zd_Graph_addStepsOf_49 : decode prog_3_method_4_code 49 = .ok (.lload_n 2, 1) := by decide +kernel
theorem zd_Graph_addStepsOf_50 : decode prog_3_method_4_code 50 = .ok (.iload 5, 2) := by decide +kernel
theorem zd_Graph_addStepsOf_52 : decode prog_3_method_4_code 52 = .ok (.lushr, 1) := by decide +kernel
theorem zd_Graph_addStepsOf_53 : decode prog_3_method_4_code 53 = .ok (.lconst 1, 1) := by decide +kernel
theorem zd_Graph_addStepsOf_54 : decode prog_3_method_4_code 54 = .ok (.land, 1) := by decide +kernel
theorem zd_Graph_addStepsOf_55 : decode prog_3_method_4_code 55 = .ok (.lconst 0, 1) := by decide +kernel
theorem zd_Graph_addStepsOf_56 : decode prog_3_method_4_code 56 = .ok (.lcmp, 1) := by decide +kernel
theorem zd_Graph_addStepsOf_57 : decode prog_3_method_4_code 57 = .ok (.ifCond .eq 12, 3) := by decide +kernel
theorem zd_Graph_addStepsOf_60 : decode prog_3_method_4_code 60 = .ok (.aload_n 0, 1) := by decide +kernel
theorem zd_Graph_addStepsOf_61 : decode prog_3_method_4_code 61 = .ok (.iload_n 1, 1) := by decide +kernel
theorem zd_Graph_addStepsOf_62 : decode prog_3_method_4_code 62 = .ok (.iload 5, 2) := by decide +kernel
theorem zd_Graph_addStepsOf_64 : decode prog_3_method_4_code 64 = .ok (.invokevirtual 77, 3) := by decide +kernel
theorem zd_Graph_addStepsOf_67 : decode prog_3_method_4_code 67 = .ok (.istore 4, 2) := by decide +kernel
theorem zd_Graph_addStepsOf_69 : decode prog_3_method_4_code 69 = .ok (.iinc 5 1, 3) := by decide +kernel
theorem zd_Graph_addStepsOf_72 : decode prog_3_method_4_code 72 = .ok (.goto (-35), 3) := by decide +kernel
theorem zd_Graph_addStepsOf_75 : decode prog_3_method_4_code 75 = .ok (.iload 4, 2) := by decide +kernel
theorem zd_Graph_addStepsOf_77 : decode prog_3_method_4_code 77 = .ok (.ifCond .eq 26, 3) := by decide +kernel
theorem zd_Graph_addStepsOf_80 : decode prog_3_method_4_code 80 = .ok (.aload_n 0, 1) := by decide +kernel
theorem zd_Graph_addStepsOf_81 : decode prog_3_method_4_code 81 = .ok (.getfield 45, 3) := by decide +kernel
theorem zd_Graph_addStepsOf_84 : decode prog_3_method_4_code 84 = .ok (.aload_n 0, 1) := by decide +kernel
theorem zd_Graph_addStepsOf_85 : decode prog_3_method_4_code 85 = .ok (.getfield 19, 3) := by decide +kernel
theorem zd_Graph_addStepsOf_88 : decode prog_3_method_4_code 88 = .ok (.iload_n 1, 1) := by decide +kernel
theorem zd_Graph_addStepsOf_89 : decode prog_3_method_4_code 89 = .ok (.iaload, 1) := by decide +kernel
theorem zd_Graph_addStepsOf_90 : decode prog_3_method_4_code 90 = .ok (.if_icmp .ne 13, 3) := by decide +kernel
theorem zd_Graph_addStepsOf_93 : decode prog_3_method_4_code 93 = .ok (.aload_n 0, 1) := by decide +kernel
theorem zd_Graph_addStepsOf_94 : decode prog_3_method_4_code 94 = .ok (.iload_n 1, 1) := by decide +kernel
theorem zd_Graph_addStepsOf_95 : decode prog_3_method_4_code 95 = .ok (.iload_n 1, 1) := by decide +kernel
theorem zd_Graph_addStepsOf_96 : decode prog_3_method_4_code 96 = .ok (.iconst (-1), 1) := by decide +kernel
theorem zd_Graph_addStepsOf_97 : decode prog_3_method_4_code 97 = .ok (.iconst (-1), 1) := by decide +kernel
theorem zd_Graph_addStepsOf_98 : decode prog_3_method_4_code 98 = .ok (.invokevirtual 81, 3) := by decide +kernel
theorem zd_Graph_addStepsOf_101 : decode prog_3_method_4_code 101 = .ok (.istore 4, 2) := by decide +kernel
theorem zd_Graph_addStepsOf_103 : decode prog_3_method_4_code 103 = .ok (.aload_n 0, 1) := by decide +kernel
theorem zd_Graph_addStepsOf_104 : decode prog_3_method_4_code 104 = .ok (.getfield 19, 3) := by decide +kernel
theorem zd_Graph_addStepsOf_107 : decode prog_3_method_4_code 107 = .ok (.iload_n 1, 1) := by decide +kernel
theorem zd_Graph_addStepsOf_108 : decode prog_3_method_4_code 108 = .ok (.iconst 1, 1) := by decide +kernel
theorem zd_Graph_addStepsOf_109 : decode prog_3_method_4_code 109 = .ok (.iadd, 1) := by decide +kernel
theorem zd_Graph_addStepsOf_110 : decode prog_3_method_4_code 110 = .ok (.aload_n 0, 1) := by decide +kernel
theorem zd_Graph_addStepsOf_111 : decode prog_3_method_4_code 111 = .ok (.getfield 45, 3) := by decide +kernel
theorem zd_Graph_addStepsOf_114 : decode prog_3_method_4_code 114 = .ok (.iastore, 1) := by decide +kernel
theorem zd_Graph_addStepsOf_115 : decode prog_3_method_4_code 115 = .ok (.iload 4, 2) := by decide +kernel
theorem zd_Graph_addStepsOf_117 : decode prog_3_method_4_code 117 = .ok (.ireturn, 1) := by decide +kernel
theorem zd_Situation_able_0 : decode prog_8_method_6_code 0 = .ok (.aload_n 0, 1) := by decide +kernel
theorem zd_Situation_able_1 : decode prog_8_method_6_code 1 = .ok (.lconst 0, 1) := by decide +kernel
theorem zd_Situation_able_2 : decode prog_8_method_6_code 2 = .ok (.putfield 71, 3) := by decide +kernel
theorem zd_Situation_able_5 : decode prog_8_method_6_code 5 = .ok (.iconst 0, 1) := by decide +kernel
theorem zd_Situation_able_6 : decode prog_8_method_6_code 6 = .ok (.istore_n 1, 1) := by decide +kernel
theorem zd_Situation_able_7 : decode prog_8_method_6_code 7 = .ok (.iload_n 1, 1) := by decide +kernel
theorem zd_Situation_able_8 : decode prog_8_method_6_code 8 = .ok (.aload_n 0, 1) := by decide +kernel
theorem zd_Situation_able_9 : decode prog_8_method_6_code 9 = .ok (.getfield 19, 3) := by decide +kernel
theorem zd_Situation_able_12 : decode prog_8_method_6_code 12 = .ok (.getfield 75, 3) := by decide +kernel
theorem zd_Situation_able_15 : decode prog_8_method_6_code 15 = .ok (.if_icmp .ge 32, 3) := by decide +kernel
theorem zd_Situation_able_18 : decode prog_8_method_6_code 18 = .ok (.aload_n 0, 1) := by decide +kernel
theorem zd_Situation_able_19 : decode prog_8_method_6_code 19 = .ok (.dup, 1) := by decide +kernel
theorem zd_Situation_able_20 : decode prog_8_method_6_code 20 = .ok (.getfield 71, 3) := by decide +kernel
theorem zd_Situation_able_23 : decode prog_8_method_6_code 23 = .ok (.aload_n 0, 1) := by decide +kernel
theorem zd_Situation_able_24 : decode prog_8_method_6_code 24 = .ok (.getfield 19, 3) := by decide +kernel
theorem zd_Situation_able_27 : decode prog_8_method_6_code 27 = .ok (.iload_n 1, 1) := by decide +kernel
theorem zd_Situation_able_28 : decode prog_8_method_6_code 28 = .ok (.aload_n 0, 1) := by decide +kernel
theorem zd_Situation_able_29 : decode prog_8_method_6_code 29 = .ok (.getfield 34, 3) := by decide +kernel
theorem zd_Situation_able_32 : decode prog_8_method_6_code 32 = .ok (.iload_n 1, 1) := by decide +kernel
theorem zd_Situation_able_33 : decode prog_8_method_6_code 33 = .ok (.iaload, 1) := by decide +kernel
theorem zd_Situation_able_34 : decode prog_8_method_6_code 34 = .ok (.invokevirtual 78, 3) := by decide +kernel
theorem zd_Situation_able_37 : decode prog_8_method_6_code 37 = .ok (.lor, 1) := by decide +kernel
theorem zd_Situation_able_38 : decode prog_8_method_6_code 38 = .ok (.putfield 71, 3) := by decide +kernel
theorem zd_Situation_able_41 : decode prog_8_method_6_code 41 = .ok (.iinc 1 1, 3) := by decide +kernel
theorem zd_Situation_able_44 : decode prog_8_method_6_code 44 = .ok (.goto (-37), 3) := by decide +kernel
theorem zd_Situation_able_47 : decode prog_8_method_6_code 47 = .ok (.lconst 0, 1) := by decide +kernel
theorem zd_Situation_able_48 : decode prog_8_method_6_code 48 = .ok (.lstore_n 1, 1) := by decide +kernel
theorem zd_Situation_able_49 : decode prog_8_method_6_code 49 = .ok (.iconst 0, 1) := by decide +kernel
theorem zd_Situation_able_50 : decode prog_8_method_6_code 50 = .ok (.istore_n 3, 1) := by decide +kernel
theorem zd_Situation_able_51 : decode prog_8_method_6_code 51 = .ok (.iload_n 3, 1) := by decide +kernel
theorem zd_Situation_able_52 : decode prog_8_method_6_code 52 = .ok (.aload_n 0, 1) := by decide +kernel
theorem zd_Situation_able_53 : decode prog_8_method_6_code 53 = .ok (.getfield 19, 3) := by decide +kernel
theorem zd_Situation_able_56 : decode prog_8_method_6_code 56 = .ok (.getfield 75, 3) := by decide +kernel
theorem zd_Situation_able_59 : decode prog_8_method_6_code 59 = .ok (.if_icmp .ge 30, 3) := by decide +kernel
theorem zd_Situation_able_62 : decode prog_8_method_6_code 62 = .ok (.lload_n 1, 1) := by decide +kernel
theorem zd_Situation_able_63 : decode prog_8_method_6_code 63 = .ok (.aload_n 0, 1) := by decide +kernel
theorem zd_Situation_able_64 : decode prog_8_method_6_code 64 = .ok (.aload_n 0, 1) := by decide +kernel
theorem zd_Situation_able_65 : decode prog_8_method_6_code 65 = .ok (.getfield 19, 3) := by decide +kernel
theorem zd_Situation_able_68 : decode prog_8_method_6_code 68 = .ok (.iload_n 3, 1) := by decide +kernel
theorem zd_Situation_able_69 : decode prog_8_method_6_code 69 = .ok (.aload_n 0, 1) := by decide +kernel
theorem zd_Situation_able_70 : decode prog_8_method_6_code 70 = .ok (.getfield 34, 3) := by decide +kernel
theorem zd_Situation_able_73 : decode prog_8_method_6_code 73 = .ok (.iload_n 3, 1) := by decide +kernel
theorem zd_Situation_able_74 : decode prog_8_method_6_code 74 = .ok (.iaload, 1) := by decide +kernel
theorem zd_Situation_able_75 : decode prog_8_method_6_code 75 = .ok (.invokevirtual 78, 3) := by decide +kernel
theorem zd_Situation_able_78 : decode prog_8_method_6_code 78 = .ok (.invokevirtual 82, 3) := by decide +kernel
theorem zd_Situation_able_81 : decode prog_8_method_6_code 81 = .ok (.lor, 1) := by decide +kernel
theorem zd_Situation_able_82 : decode prog_8_method_6_code 82 = .ok (.lstore_n 1, 1) := by decide +kernel
theorem zd_Situation_able_83 : decode prog_8_method_6_code 83 = .ok (.iinc 3 1, 3) := by decide +kernel
theorem zd_Situation_able_86 : decode prog_8_method_6_code 86 = .ok (.goto (-35), 3) := by decide +kernel
theorem zd_Situation_able_89 : decode prog_8_method_6_code 89 = .ok (.aload_n 0, 1) := by decide +kernel
theorem zd_Situation_able_90 : decode prog_8_method_6_code 90 = .ok (.getfield 37, 3) := by decide +kernel
theorem zd_Situation_able_93 : decode prog_8_method_6_code 93 = .ok (.iconst (-1), 1) := by decide +kernel
theorem zd_Situation_able_94 : decode prog_8_method_6_code 94 = .ok (.if_icmp .ne 7, 3) := by decide +kernel
theorem zd_Situation_able_97 : decode prog_8_method_6_code 97 = .ok (.lconst 0, 1) := by decide +kernel
theorem zd_Situation_able_98 : decode prog_8_method_6_code 98 = .ok (.goto 25, 3) := by decide +kernel
theorem zd_Situation_able_101 : decode prog_8_method_6_code 101 = .ok (.lload_n 1, 1) := by decide +kernel
theorem zd_Situation_able_102 : decode prog_8_method_6_code 102 = .ok (.aload_n 0, 1) := by decide +kernel
theorem zd_Situation_able_103 : decode prog_8_method_6_code 103 = .ok (.getfield 19, 3) := by decide +kernel
theorem zd_Situation_able_106 : decode prog_8_method_6_code 106 = .ok (.aload_n 0, 1) := by decide +kernel
theorem zd_Situation_able_107 : decode prog_8_method_6_code 107 = .ok (.getfield 37, 3) := by decide +kernel
theorem zd_Situation_able_110 : decode prog_8_method_6_code 110 = .ok (.aload_n 0, 1) := by decide +kernel
theorem zd_Situation_able_111 : decode prog_8_method_6_code 111 = .ok (.getfield 34, 3) := by decide +kernel
theorem zd_Situation_able_114 : decode prog_8_method_6_code 114 = .ok (.aload_n 0, 1) := by decide +kernel
theorem zd_Situation_able_115 : decode prog_8_method_6_code 115 = .ok (.getfield 37, 3) := by decide +kernel
theorem zd_Situation_able_118 : decode prog_8_method_6_code 118 = .ok (.iaload, 1) := by decide +kernel
theorem zd_Situation_able_119 : decode prog_8_method_6_code 119 = .ok (.invokevirtual 78, 3) := by decide +kernel
theorem zd_Situation_able_122 : decode prog_8_method_6_code 122 = .ok (.land, 1) := by decide +kernel
theorem zd_Situation_able_123 : decode prog_8_method_6_code 123 = .ok (.lstore_n 3, 1) := by decide +kernel
theorem zd_Situation_able_124 : decode prog_8_method_6_code 124 = .ok (.lload_n 3, 1) := by decide +kernel
theorem zd_Situation_able_125 : decode prog_8_method_6_code 125 = .ok (.lconst 0, 1) := by decide +kernel
theorem zd_Situation_able_126 : decode prog_8_method_6_code 126 = .ok (.lcmp, 1) := by decide +kernel
theorem zd_Situation_able_127 : decode prog_8_method_6_code 127 = .ok (.ifCond .ne 7, 3) := by decide +kernel
theorem zd_Situation_able_130 : decode prog_8_method_6_code 130 = .ok (.lload_n 1, 1) := by decide +kernel
theorem zd_Situation_able_131 : decode prog_8_method_6_code 131 = .ok (.goto 4, 3) := by decide +kernel
theorem zd_Situation_able_134 : decode prog_8_method_6_code 134 = .ok (.lload_n 3, 1) := by decide +kernel
theorem zd_Situation_able_135 : decode prog_8_method_6_code 135 = .ok (.lreturn, 1) := by decide +kernel
def wc_Situation_able_135 (Post : Int64 → (Nat → Int32) → (Nat → Int64) → (Nat → Nat → Int32) → (Nat → Nat → Int64) → Prop) (y0 : Int64) (I : Nat → Int32) (J : Nat → Int64) (B : Nat → Nat → Int32) (D : Nat → Nat → Int64) : Prop :=
  Post y0 I J B D
def wc_Situation_able_123 (Post : Int64 → (Nat → Int32) → (Nat → Int64) → (Nat → Nat → Int32) → (Nat → Nat → Int64) → Prop) (x1 : Int64) (y0 : Int64) (I : Nat → Int32) (J : Nat → Int64) (B : Nat → Nat → Int32) (D : Nat → Nat → Int64) : Prop :=
  ∀ z1 : Int32, z1 = (lg_cmp y0 0) → ((¬ z1 = 0 → wc_Situation_able_135  Post y0 I J B D) ∧ (z1 = 0 → wc_Situation_able_135  Post x1 I J B D))
def wb_Situation_able_51 (K51 : Int64 → Int32 → (Nat → Int32) → (Nat → Int64) → (Nat → Nat → Int32) → (Nat → Nat → Int64) → Prop) (Post : Int64 → (Nat → Int32) → (Nat → Int64) → (Nat → Nat → Int32) → (Nat → Nat → Int64) → Prop) (x1 : Int64) (x3 : Int32) (I : Nat → Int32) (J : Nat → Int64) (B : Nat → Nat → Int32) (D : Nat → Nat → Int64) : Prop :=
  (((I 10) ≤ x3 → ((¬ (I 18) = (-1) → vp_in (I 18) 4 ∧ ∀ z5 : Int32, z5 = ((B 31) (I 18).toNatClampNeg) → wp_Program_at I J B D (I 18) z5 (fun r6 I6 J6 B6 D6 => ∀ z7 : Int64, z7 = (x1 &&& r6) → wc_Situation_able_123  Post x1 z7 I6 J6 B6 D6)) ∧ ((I 18) = (-1) → wc_Situation_able_123  Post x1 0 I J B D))) ∧ (¬ (I 10) ≤ x3 → vp_in x3 4 ∧ ∀ z8 : Int32, z8 = ((B 31) x3.toNatClampNeg) → wp_Program_at I J B D x3 z8 (fun r9 I9 J9 B9 D9 => wp_Situation_ableOf I9 J9 B9 D9 r9 (fun r10 I10 J10 B10 D10 => ∀ z11 : Int64, z11 = (x1 ||| r10) → ∀ z12 : Int32, z12 = (x3 + 1) → K51 z11 z12 I10 J10 B10 D10))))
def wl_Situation_able_51 (Post : Int64 → (Nat → Int32) → (Nat → Int64) → (Nat → Nat → Int32) → (Nat → Nat → Int64) → Prop) (n : Nat) : Int64 → Int32 → (Nat → Int32) → (Nat → Int64) → (Nat → Nat → Int32) → (Nat → Nat → Int64) → Prop := Nat.rec (fun _ _ _ _ _ _ => False) (fun _ r => wb_Situation_able_51  r Post) n
def wb_Situation_able_7 (K7 : Int32 → (Nat → Int32) → (Nat → Int64) → (Nat → Nat → Int32) → (Nat → Nat → Int64) → Prop) (Post : Int64 → (Nat → Int32) → (Nat → Int64) → (Nat → Nat → Int32) → (Nat → Nat → Int64) → Prop) (x1 : Int32) (I : Nat → Int32) (J : Nat → Int64) (B : Nat → Nat → Int32) (D : Nat → Nat → Int64) : Prop :=
  (((I 10) ≤ x1 → ∃ n : Nat, wl_Situation_able_51  Post n 0 0 I J B D) ∧ (¬ (I 10) ≤ x1 → vp_in x1 4 ∧ ∀ z14 : Int32, z14 = ((B 31) x1.toNatClampNeg) → wp_Program_at I J B D x1 z14 (fun r15 I15 J15 B15 D15 => ∀ z16 : Int64, z16 = ((J 1) ||| r15) → ∀ z17 : Int32, z17 = (x1 + 1) → K7 z17 I15 (vp_updL J15 1 z16) B15 D15)))
def wl_Situation_able_7 (Post : Int64 → (Nat → Int32) → (Nat → Int64) → (Nat → Nat → Int32) → (Nat → Nat → Int64) → Prop) (n : Nat) : Int32 → (Nat → Int32) → (Nat → Int64) → (Nat → Nat → Int32) → (Nat → Nat → Int64) → Prop := Nat.rec (fun _ _ _ _ _ => False) (fun _ r => wb_Situation_able_7  r Post) n
def wp_Situation_able (I : Nat → Int32) (J : Nat → Int64) (B : Nat → Nat → Int32) (D : Nat → Nat → Int64) (Post : Int64 → (Nat → Int32) → (Nat → Int64) → (Nat → Nat → Int32) → (Nat → Nat → Int64) → Prop) : Prop :=
  ∃ n : Nat, wl_Situation_able_7  Post n 0 I (vp_updL J 1 0) B D
set_option maxHeartbeats 8000000 in
set_option maxRecDepth 100000 in
theorem wJ_Situation_able_135 {p : Program} {l : Launch} {e : Env} {s : State} {m : MethodId} {below : List Frame} {meth : Method} {c : Code} {A : Nat → Prop} (G : va_G) (K : Nat → ClassId) (ad : Nat → Nat) (sv : Value) (Post : Int64 → (Nat → Int32) → (Nat → Int64) → (Nat → Nat → Int32) → (Nat → Nat → Int64) → Prop) (C : zCx p s m ([.ref (ad 7)] : List Value).toArray meth c A G K prog_8_method_6_code (some .long) 5 "LassoFinder$Situation") : ∀ (y0 : Int64) (I : Nat → Int32) (J : Nat → Int64) (B : Nat → Nat → Int32) (D : Nat → Nat → Int64) (ls : Array Slot) (H : Heap) (locs : List Loc), wc_Situation_able_135  Post y0 I J B D → lv_has ls 5 [] → zW G A s.heap (wX ad K sv I J B D) H locs → W p l e { frames := 4, cells := 0, slots := 0, locals := 93 } s m ([.ref (ad 7)] : List Value).toArray below meth c H locs 0 0 (MQ below (va_Ql (fun (r : Int64) (u : zS) => Post r u.1 u.2.1 u.2.2.1 u.2.2.2) (fun u t => zPost G K A (wX ad K sv u.1 u.2.1 u.2.2.1 u.2.2.2) t) A) ([.ref (ad 7)] : List Value).toArray s 0 0 A) (F0 m 135 ls [.long y0]) := by
  obtain ⟨hx, hb, hr, hml, hts, hown, hlocks, hA, hK⟩ := id C
  intro y0 I J B D ls H locs hok hl hw
  unfold wc_Situation_able_135 at hok
  exact (z_lret (u := (I, J, B, D)) hx hb hr hlocks hw (List.range 65) wX_all wX_nd hok (Nat.le_of_ble_eq_true rfl) (Nat.le_of_ble_eq_true rfl) zd_Situation_able_135)
set_option maxHeartbeats 8000000 in
set_option maxRecDepth 100000 in
theorem wJ_Situation_able_123 {p : Program} {l : Launch} {e : Env} {s : State} {m : MethodId} {below : List Frame} {meth : Method} {c : Code} {A : Nat → Prop} (G : va_G) (K : Nat → ClassId) (ad : Nat → Nat) (sv : Value) (Post : Int64 → (Nat → Int32) → (Nat → Int64) → (Nat → Nat → Int32) → (Nat → Nat → Int64) → Prop) (C : zCx p s m ([.ref (ad 7)] : List Value).toArray meth c A G K prog_8_method_6_code (some .long) 5 "LassoFinder$Situation") : ∀ (x1 : Int64) (y0 : Int64) (I : Nat → Int32) (J : Nat → Int64) (B : Nat → Nat → Int32) (D : Nat → Nat → Int64) (ls : Array Slot) (H : Heap) (locs : List Loc), wc_Situation_able_123  Post x1 y0 I J B D → lv_has ls 5 [(1, .long x1)] → zW G A s.heap (wX ad K sv I J B D) H locs → W p l e { frames := 4, cells := 0, slots := 0, locals := 93 } s m ([.ref (ad 7)] : List Value).toArray below meth c H locs 0 0 (MQ below (va_Ql (fun (r : Int64) (u : zS) => Post r u.1 u.2.1 u.2.2.1 u.2.2.2) (fun u t => zPost G K A (wX ad K sv u.1 u.2.1 u.2.2.1 u.2.2.2) t) A) ([.ref (ad 7)] : List Value).toArray s 0 0 A) (F0 m 123 ls [.long y0]) := by
  obtain ⟨hx, hb, hr, hml, hts, hown, hlocks, hA, hK⟩ := id C
  intro x1 y0 I J B D ls H locs hok hl hw
  unfold wc_Situation_able_123 at hok
  refine lv_lstore_n hx hb zd_Situation_able_123 rfl hl (by decide) rfl (fun ls hl => ?_)
  have hl : lv_has ls 5 [(3, .long y0), (1, .long x1)] := hl
  refine lv_lload_n hx hb zd_Situation_able_124 rfl (lv_at hl 0 rfl) ?_
  refine lv_lconst (v := 0) hx hb zd_Situation_able_125 (by decide) ?_
  refine W.lcmp hx hb zd_Situation_able_126 ?_
  refine lv_topi (fun z1 ez1 => ?_)
  have hok := hok z1 ez1
  refine lv_if_ne (tgt := 134) hx hb zd_Situation_able_127 (by decide) (fun hc2 => ?_) (fun hc2 => ?_)
  · have hok := hok.1 hc2
    refine lv_lload_n hx hb zd_Situation_able_134 rfl (lv_at hl 0 rfl) ?_
    exact wJ_Situation_able_135 G K ad sv  Post C y0 I J B D ls H locs hok (lv_sub hl [] rfl) hw
  · have hok := hok.2 hc2
    refine lv_lload_n hx hb zd_Situation_able_130 rfl (lv_at hl 1 rfl) ?_
    refine lv_goto (tgt := 135) hx hb zd_Situation_able_131 (by decide) ?_
    exact wJ_Situation_able_135 G K ad sv  Post C x1 I J B D ls H locs hok (lv_sub hl [] rfl) hw
set_option maxHeartbeats 8000000 in
set_option maxRecDepth 100000 in
theorem wB_Situation_able_51 {p : Program} {l : Launch} {e : Env} {s : State} {m : MethodId} {below : List Frame} {meth : Method} {c : Code} {A : Nat → Prop} (G : va_G) (K : Nat → ClassId) (ad : Nat → Nat) (sv : Value) (Post : Int64 → (Nat → Int32) → (Nat → Int64) → (Nat → Nat → Int32) → (Nat → Nat → Int64) → Prop) (C : zCx p s m ([.ref (ad 7)] : List Value).toArray meth c A G K prog_8_method_6_code (some .long) 5 "LassoFinder$Situation") (K51 : Int64 → Int32 → (Nat → Int32) → (Nat → Int64) → (Nat → Nat → Int32) → (Nat → Nat → Int64) → Prop) (kh51 : ∀ (x1 : Int64) (x3 : Int32) (I : Nat → Int32) (J : Nat → Int64) (B : Nat → Nat → Int32) (D : Nat → Nat → Int64) (ls : Array Slot) (H : Heap) (locs : List Loc), K51 x1 x3 I J B D → lv_has ls 5 [(0, .ref (ad 7)), (1, .long x1), (3, .int x3)] → zW G A s.heap (wX ad K sv I J B D) H locs → W p l e { frames := 4, cells := 0, slots := 0, locals := 93 } s m ([.ref (ad 7)] : List Value).toArray below meth c H locs 0 0 (MQ below (va_Ql (fun (r : Int64) (u : zS) => Post r u.1 u.2.1 u.2.2.1 u.2.2.2) (fun u t => zPost G K A (wX ad K sv u.1 u.2.1 u.2.2.1 u.2.2.2) t) A) ([.ref (ad 7)] : List Value).toArray s 0 0 A) (F0 m 51 ls [])) : ∀ (x1 : Int64) (x3 : Int32) (I : Nat → Int32) (J : Nat → Int64) (B : Nat → Nat → Int32) (D : Nat → Nat → Int64) (ls : Array Slot) (H : Heap) (locs : List Loc), wb_Situation_able_51  K51 Post x1 x3 I J B D → lv_has ls 5 [(0, .ref (ad 7)), (1, .long x1), (3, .int x3)] → zW G A s.heap (wX ad K sv I J B D) H locs → W p l e { frames := 4, cells := 0, slots := 0, locals := 93 } s m ([.ref (ad 7)] : List Value).toArray below meth c H locs 0 0 (MQ below (va_Ql (fun (r : Int64) (u : zS) => Post r u.1 u.2.1 u.2.2.1 u.2.2.2) (fun u t => zPost G K A (wX ad K sv u.1 u.2.1 u.2.2.1 u.2.2.2) t) A) ([.ref (ad 7)] : List Value).toArray s 0 0 A) (F0 m 51 ls []) := by
  obtain ⟨hx, hb, hr, hml, hts, hown, hlocks, hA, hK⟩ := id C
  intro x1 x3 I J B D ls H locs hok hl hw
  unfold wb_Situation_able_51 at hok
  refine lv_iload_n hx hb zd_Situation_able_51 rfl (lv_at hl 2 rfl) ?_
  refine lv_aload_n hx hb zd_Situation_able_52 rfl (lv_at hl 0 rfl) ?_
  refine z_get (v := .ref (ad 3)) hx hb hts hown hK hw zZ7 7 wX_g7 2 (by decide) zn_431 rfl zd_Situation_able_53 ?_
  refine z_get (v := .int (I 10)) hx hb hts hown hK hw zZ6 3 wX_g3 13 (by decide) zn_444 rfl zd_Situation_able_56 ?_
  refine lv_icmp_ge (tgt := 89) hx hb zd_Situation_able_59 (by decide) (fun hc3 => ?_) (fun hc3 => ?_)
  · have hok := hok.1 hc3
    refine lv_aload_n hx hb zd_Situation_able_89 rfl (lv_at hl 0 rfl) ?_
    refine z_get (v := .int (I 18)) hx hb hts hown hK hw zZ7 7 wX_g7 6 (by decide) zn_296 rfl zd_Situation_able_90 ?_
    refine lv_iconst (v := (-1)) hx hb zd_Situation_able_93 (by decide) ?_
    refine lv_icmp_ne (tgt := 101) hx hb zd_Situation_able_94 (by decide) (fun hc4 => ?_) (fun hc4 => ?_)
    · have hok := hok.1 hc4
      refine lv_lload_n hx hb zd_Situation_able_101 rfl (lv_at hl 1 rfl) ?_
      refine lv_aload_n hx hb zd_Situation_able_102 rfl (lv_at hl 0 rfl) ?_
      refine z_get (v := .ref (ad 3)) hx hb hts hown hK hw zZ7 7 wX_g7 2 (by decide) zn_431 rfl zd_Situation_able_103 ?_
      refine lv_aload_n hx hb zd_Situation_able_106 rfl (lv_at hl 0 rfl) ?_
      refine z_get (v := .int (I 18)) hx hb hts hown hK hw zZ7 7 wX_g7 6 (by decide) zn_296 rfl zd_Situation_able_107 ?_
      refine lv_aload_n hx hb zd_Situation_able_110 rfl (lv_at hl 0 rfl) ?_
      refine z_get (v := .ref (ad 45)) hx hb hts hown hK hw zZ7 7 wX_g7 5 (by decide) zn_268 rfl zd_Situation_able_111 ?_
      refine lv_aload_n hx hb zd_Situation_able_114 rfl (lv_at hl 0 rfl) ?_
      refine z_get (v := .int (I 18)) hx hb hts hown hK hw zZ7 7 wX_g7 6 (by decide) zn_296 rfl zd_Situation_able_115 ?_
      refine va_iald (f := (B 31)) hx hb hK hw.1 45 0 wX_a45 rfl hok.1 zd_Situation_able_118 ?_
      have hok := hok.2
      refine lv_topi (fun z5 ez5 => ?_)
      have hok := hok z5 ez5
      refine z_calll (w1 := fun (u : zS) => wX ad K sv u.1 u.2.1 u.2.2.1 u.2.2.2) (wr := []) (z_runV (q0 := 3) (wc := (wX ad K sv I J B D)) (As := [.int (I 18), .int z5]) (rest := [.long x1]) ⟨hx, hb, hml, hown, hts⟩ (w_Program_at l G K ad sv I J B D (I 18) z5 _ H.size hok) zf_Program_at zn_411 ⟨Nat.le_of_ble_eq_true rfl, Nat.le_of_ble_eq_true rfl⟩ hK hw (List.range 65) wX_all wX_nd wX_g3 rfl rfl hl.1 rfl (Nat.le_of_ble_eq_true rfl) zd_Situation_able_119 ⟨Nat.le_of_ble_eq_true rfl, Nat.le_of_ble_eq_true rfl⟩) hw hA (List.range 65) [] wX_all rfl (by decide) (fun i hi => by cases hi) (fun r6 u H locs hok hw => ?_)
      obtain ⟨I6, J6, B6, D6⟩ := u
      dsimp only at hok
      have hw : zW G A s.heap (wX ad K sv I6 J6 B6 D6) H locs := hw
      refine lv_land hx hb zd_Situation_able_122 ?_
      refine lv_topl (fun z7 ez7 => ?_)
      have hok := hok z7 ez7
      exact wJ_Situation_able_123 G K ad sv  Post C x1 z7 I6 J6 B6 D6 ls H locs hok (lv_sub hl [1] rfl) hw
    · have hok := hok.2 hc4
      refine lv_lconst (v := 0) hx hb zd_Situation_able_97 (by decide) ?_
      refine lv_goto (tgt := 123) hx hb zd_Situation_able_98 (by decide) ?_
      exact wJ_Situation_able_123 G K ad sv  Post C x1 0 I J B D ls H locs hok (lv_sub hl [1] rfl) hw
  · have hok := hok.2 hc3
    refine lv_lload_n hx hb zd_Situation_able_62 rfl (lv_at hl 1 rfl) ?_
    refine lv_aload_n hx hb zd_Situation_able_63 rfl (lv_at hl 0 rfl) ?_
    refine lv_aload_n hx hb zd_Situation_able_64 rfl (lv_at hl 0 rfl) ?_
    refine z_get (v := .ref (ad 3)) hx hb hts hown hK hw zZ7 7 wX_g7 2 (by decide) zn_431 rfl zd_Situation_able_65 ?_
    refine lv_iload_n hx hb zd_Situation_able_68 rfl (lv_at hl 2 rfl) ?_
    refine lv_aload_n hx hb zd_Situation_able_69 rfl (lv_at hl 0 rfl) ?_
    refine z_get (v := .ref (ad 45)) hx hb hts hown hK hw zZ7 7 wX_g7 5 (by decide) zn_268 rfl zd_Situation_able_70 ?_
    refine lv_iload_n hx hb zd_Situation_able_73 rfl (lv_at hl 2 rfl) ?_
    refine va_iald (f := (B 31)) hx hb hK hw.1 45 0 wX_a45 rfl hok.1 zd_Situation_able_74 ?_
    have hok := hok.2
    refine lv_topi (fun z8 ez8 => ?_)
    have hok := hok z8 ez8
    refine z_calll (w1 := fun (u : zS) => wX ad K sv u.1 u.2.1 u.2.2.1 u.2.2.2) (wr := []) (z_runV (q0 := 3) (wc := (wX ad K sv I J B D)) (As := [.int x3, .int z8]) (rest := [.ref (ad 7), .long x1]) ⟨hx, hb, hml, hown, hts⟩ (w_Program_at l G K ad sv I J B D x3 z8 _ H.size hok) zf_Program_at zn_411 ⟨Nat.le_of_ble_eq_true rfl, Nat.le_of_ble_eq_true rfl⟩ hK hw (List.range 65) wX_all wX_nd wX_g3 rfl rfl hl.1 rfl (Nat.le_of_ble_eq_true rfl) zd_Situation_able_75 ⟨Nat.le_of_ble_eq_true rfl, Nat.le_of_ble_eq_true rfl⟩) hw hA (List.range 65) [] wX_all rfl (by decide) (fun i hi => by cases hi) (fun r9 u H locs hok hw => ?_)
    obtain ⟨I9, J9, B9, D9⟩ := u
    dsimp only at hok
    have hw : zW G A s.heap (wX ad K sv I9 J9 B9 D9) H locs := hw
    refine z_calll (w1 := fun (u : zS) => wX ad K sv u.1 u.2.1 u.2.2.1 u.2.2.2) (wr := []) (z_runV (q0 := 7) (wc := (wX ad K sv I9 J9 B9 D9)) (As := [.long r9]) (rest := [.long x1]) ⟨hx, hb, hml, hown, hts⟩ (w_Situation_ableOf l G K ad sv I9 J9 B9 D9 r9 _ H.size hok) zf_Situation_ableOf zn_412 ⟨Nat.le_of_ble_eq_true rfl, Nat.le_of_ble_eq_true rfl⟩ hK hw (List.range 65) wX_all wX_nd wX_g7 rfl rfl hl.1 rfl (Nat.le_of_ble_eq_true rfl) zd_Situation_able_78 ⟨Nat.le_of_ble_eq_true rfl, Nat.le_of_ble_eq_true rfl⟩) hw hA (List.range 65) [] wX_all rfl (by decide) (fun i hi => by cases hi) (fun r10 u H locs hok hw => ?_)
    obtain ⟨I10, J10, B10, D10⟩ := u
    dsimp only at hok
    have hw : zW G A s.heap (wX ad K sv I10 J10 B10 D10) H locs := hw
    refine lv_lor hx hb zd_Situation_able_81 ?_
    refine lv_topl (fun z11 ez11 => ?_)
    have hok := hok z11 ez11
    refine lv_lstore_n hx hb zd_Situation_able_82 rfl hl (by decide) rfl (fun ls hl => ?_)
    have hl : lv_has ls 5 [(1, .long z11), (0, .ref (ad 7)), (3, .int x3)] := hl
    obtain ⟨z12, ez12⟩ : ∃ z : Int32, z = (x3 + 1) := ⟨_, rfl⟩
    have hok := hok z12 ez12
    refine lv_iinc (v := z12) hx hb zd_Situation_able_83 hl (k := 2) rfl ez12.symm (by decide) rfl (fun ls hl => ?_)
    have hl : lv_has ls 5 [(3, .int z12), (1, .long z11), (0, .ref (ad 7))] := hl
    refine lv_goto (tgt := 51) hx hb zd_Situation_able_86 (by decide) ?_
    exact kh51 z11 z12 I10 J10 B10 D10 ls H locs hok (lv_sub hl [2, 1, 0] rfl) hw
theorem wL_Situation_able_51 {p : Program} {l : Launch} {e : Env} {s : State} {m : MethodId} {below : List Frame} {meth : Method} {c : Code} {A : Nat → Prop} (G : va_G) (K : Nat → ClassId) (ad : Nat → Nat) (sv : Value) (Post : Int64 → (Nat → Int32) → (Nat → Int64) → (Nat → Nat → Int32) → (Nat → Nat → Int64) → Prop) (C : zCx p s m ([.ref (ad 7)] : List Value).toArray meth c A G K prog_8_method_6_code (some .long) 5 "LassoFinder$Situation") : ∀ (n : Nat) (x1 : Int64) (x3 : Int32) (I : Nat → Int32) (J : Nat → Int64) (B : Nat → Nat → Int32) (D : Nat → Nat → Int64) (ls : Array Slot) (H : Heap) (locs : List Loc), wl_Situation_able_51  Post n x1 x3 I J B D → lv_has ls 5 [(0, .ref (ad 7)), (1, .long x1), (3, .int x3)] → zW G A s.heap (wX ad K sv I J B D) H locs → W p l e { frames := 4, cells := 0, slots := 0, locals := 93 } s m ([.ref (ad 7)] : List Value).toArray below meth c H locs 0 0 (MQ below (va_Ql (fun (r : Int64) (u : zS) => Post r u.1 u.2.1 u.2.2.1 u.2.2.2) (fun u t => zPost G K A (wX ad K sv u.1 u.2.1 u.2.2.1 u.2.2.2) t) A) ([.ref (ad 7)] : List Value).toArray s 0 0 A) (F0 m 51 ls []) := by
  intro n
  induction n with
  | zero => intro x1 x3 I J B D ls H locs hok; exact hok.elim
  | succ n ih => exact wB_Situation_able_51 G K ad sv  Post C (wl_Situation_able_51  Post n) ih
set_option maxHeartbeats 8000000 in
set_option maxRecDepth 100000 in
theorem wB_Situation_able_7 {p : Program} {l : Launch} {e : Env} {s : State} {m : MethodId} {below : List Frame} {meth : Method} {c : Code} {A : Nat → Prop} (G : va_G) (K : Nat → ClassId) (ad : Nat → Nat) (sv : Value) (Post : Int64 → (Nat → Int32) → (Nat → Int64) → (Nat → Nat → Int32) → (Nat → Nat → Int64) → Prop) (C : zCx p s m ([.ref (ad 7)] : List Value).toArray meth c A G K prog_8_method_6_code (some .long) 5 "LassoFinder$Situation") (K7 : Int32 → (Nat → Int32) → (Nat → Int64) → (Nat → Nat → Int32) → (Nat → Nat → Int64) → Prop) (kh7 : ∀ (x1 : Int32) (I : Nat → Int32) (J : Nat → Int64) (B : Nat → Nat → Int32) (D : Nat → Nat → Int64) (ls : Array Slot) (H : Heap) (locs : List Loc), K7 x1 I J B D → lv_has ls 5 [(0, .ref (ad 7)), (1, .int x1)] → zW G A s.heap (wX ad K sv I J B D) H locs → W p l e { frames := 4, cells := 0, slots := 0, locals := 93 } s m ([.ref (ad 7)] : List Value).toArray below meth c H locs 0 0 (MQ below (va_Ql (fun (r : Int64) (u : zS) => Post r u.1 u.2.1 u.2.2.1 u.2.2.2) (fun u t => zPost G K A (wX ad K sv u.1 u.2.1 u.2.2.1 u.2.2.2) t) A) ([.ref (ad 7)] : List Value).toArray s 0 0 A) (F0 m 7 ls [])) : ∀ (x1 : Int32) (I : Nat → Int32) (J : Nat → Int64) (B : Nat → Nat → Int32) (D : Nat → Nat → Int64) (ls : Array Slot) (H : Heap) (locs : List Loc), wb_Situation_able_7  K7 Post x1 I J B D → lv_has ls 5 [(0, .ref (ad 7)), (1, .int x1)] → zW G A s.heap (wX ad K sv I J B D) H locs → W p l e { frames := 4, cells := 0, slots := 0, locals := 93 } s m ([.ref (ad 7)] : List Value).toArray below meth c H locs 0 0 (MQ below (va_Ql (fun (r : Int64) (u : zS) => Post r u.1 u.2.1 u.2.2.1 u.2.2.2) (fun u t => zPost G K A (wX ad K sv u.1 u.2.1 u.2.2.1 u.2.2.2) t) A) ([.ref (ad 7)] : List Value).toArray s 0 0 A) (F0 m 7 ls []) := by
  obtain ⟨hx, hb, hr, hml, hts, hown, hlocks, hA, hK⟩ := id C
  intro x1 I J B D ls H locs hok hl hw
  unfold wb_Situation_able_7 at hok
  refine lv_iload_n hx hb zd_Situation_able_7 rfl (lv_at hl 1 rfl) ?_
  refine lv_aload_n hx hb zd_Situation_able_8 rfl (lv_at hl 0 rfl) ?_
  refine z_get (v := .ref (ad 3)) hx hb hts hown hK hw zZ7 7 wX_g7 2 (by decide) zn_431 rfl zd_Situation_able_9 ?_
  refine z_get (v := .int (I 10)) hx hb hts hown hK hw zZ6 3 wX_g3 13 (by decide) zn_444 rfl zd_Situation_able_12 ?_
  refine lv_icmp_ge (tgt := 47) hx hb zd_Situation_able_15 (by decide) (fun hc13 => ?_) (fun hc13 => ?_)
  · have hok := hok.1 hc13
    refine lv_lconst (v := 0) hx hb zd_Situation_able_47 (by decide) ?_
    refine lv_lstore_n hx hb zd_Situation_able_48 rfl hl (by decide) rfl (fun ls hl => ?_)
    have hl : lv_has ls 5 [(1, .long 0), (0, .ref (ad 7))] := hl
    refine lv_iconst (v := 0) hx hb zd_Situation_able_49 (by decide) ?_
    refine lv_istore_n hx hb zd_Situation_able_50 rfl hl (by decide) rfl (fun ls hl => ?_)
    have hl : lv_has ls 5 [(3, .int 0), (1, .long 0), (0, .ref (ad 7))] := hl
    obtain ⟨n9, hok⟩ := hok
    exact wL_Situation_able_51 G K ad sv  Post C n9 0 0 I J B D ls H locs hok (lv_sub hl [2, 1, 0] rfl) hw
  · have hok := hok.2 hc13
    refine lv_aload_n hx hb zd_Situation_able_18 rfl (lv_at hl 0 rfl) ?_
    refine lv_dup hx hb zd_Situation_able_19 rfl ?_
    refine z_get (v := .long (J 1)) hx hb hts hown hK hw zZ7 7 wX_g7 7 (by decide) zn_442 rfl zd_Situation_able_20 ?_
    refine lv_aload_n hx hb zd_Situation_able_23 rfl (lv_at hl 0 rfl) ?_
    refine z_get (v := .ref (ad 3)) hx hb hts hown hK hw zZ7 7 wX_g7 2 (by decide) zn_431 rfl zd_Situation_able_24 ?_
    refine lv_iload_n hx hb zd_Situation_able_27 rfl (lv_at hl 1 rfl) ?_
    refine lv_aload_n hx hb zd_Situation_able_28 rfl (lv_at hl 0 rfl) ?_
    refine z_get (v := .ref (ad 45)) hx hb hts hown hK hw zZ7 7 wX_g7 5 (by decide) zn_268 rfl zd_Situation_able_29 ?_
    refine lv_iload_n hx hb zd_Situation_able_32 rfl (lv_at hl 1 rfl) ?_
    refine va_iald (f := (B 31)) hx hb hK hw.1 45 0 wX_a45 rfl hok.1 zd_Situation_able_33 ?_
    have hok := hok.2
    refine lv_topi (fun z14 ez14 => ?_)
    have hok := hok z14 ez14
    refine z_calll (w1 := fun (u : zS) => wX ad K sv u.1 u.2.1 u.2.2.1 u.2.2.2) (wr := []) (z_runV (q0 := 3) (wc := (wX ad K sv I J B D)) (As := [.int x1, .int z14]) (rest := [.long (J 1), .ref (ad 7)]) ⟨hx, hb, hml, hown, hts⟩ (w_Program_at l G K ad sv I J B D x1 z14 _ H.size hok) zf_Program_at zn_411 ⟨Nat.le_of_ble_eq_true rfl, Nat.le_of_ble_eq_true rfl⟩ hK hw (List.range 65) wX_all wX_nd wX_g3 rfl rfl hl.1 rfl (Nat.le_of_ble_eq_true rfl) zd_Situation_able_34 ⟨Nat.le_of_ble_eq_true rfl, Nat.le_of_ble_eq_true rfl⟩) hw hA (List.range 65) [] wX_all rfl (by decide) (fun i hi => by cases hi) (fun r15 u H locs hok hw => ?_)
    obtain ⟨I15, J15, B15, D15⟩ := u
    dsimp only at hok
    have hw : zW G A s.heap (wX ad K sv I15 J15 B15 D15) H locs := hw
    refine lv_lor hx hb zd_Situation_able_37 ?_
    refine lv_topl (fun z16 ez16 => ?_)
    have hok := hok z16 ez16
    refine z_put (v := .long z16) hx hb hts hown hK hw zZ7 7 wX_g7 7 (by decide) zn_442 rfl rfl rfl (Nat.le_of_ble_eq_true rfl) zd_Situation_able_38 (fun H locs hw => ?_)
    have hw := wX_sJ1 hw
    obtain ⟨z17, ez17⟩ : ∃ z : Int32, z = (x1 + 1) := ⟨_, rfl⟩
    have hok := hok z17 ez17
    refine lv_iinc (v := z17) hx hb zd_Situation_able_41 hl (k := 1) rfl ez17.symm (by decide) rfl (fun ls hl => ?_)
    have hl : lv_has ls 5 [(1, .int z17), (0, .ref (ad 7))] := hl
    refine lv_goto (tgt := 7) hx hb zd_Situation_able_44 (by decide) ?_
    exact kh7 z17 I15 (vp_updL J15 1 z16) B15 D15 ls H locs hok (lv_sub hl [1, 0] rfl) hw
theorem wL_Situation_able_7 {p : Program} {l : Launch} {e : Env} {s : State} {m : MethodId} {below : List Frame} {meth : Method} {c : Code} {A : Nat → Prop} (G : va_G) (K : Nat → ClassId) (ad : Nat → Nat) (sv : Value) (Post : Int64 → (Nat → Int32) → (Nat → Int64) → (Nat → Nat → Int32) → (Nat → Nat → Int64) → Prop) (C : zCx p s m ([.ref (ad 7)] : List Value).toArray meth c A G K prog_8_method_6_code (some .long) 5 "LassoFinder$Situation") : ∀ (n : Nat) (x1 : Int32) (I : Nat → Int32) (J : Nat → Int64) (B : Nat → Nat → Int32) (D : Nat → Nat → Int64) (ls : Array Slot) (H : Heap) (locs : List Loc), wl_Situation_able_7  Post n x1 I J B D → lv_has ls 5 [(0, .ref (ad 7)), (1, .int x1)] → zW G A s.heap (wX ad K sv I J B D) H locs → W p l e { frames := 4, cells := 0, slots := 0, locals := 93 } s m ([.ref (ad 7)] : List Value).toArray below meth c H locs 0 0 (MQ below (va_Ql (fun (r : Int64) (u : zS) => Post r u.1 u.2.1 u.2.2.1 u.2.2.2) (fun u t => zPost G K A (wX ad K sv u.1 u.2.1 u.2.2.1 u.2.2.2) t) A) ([.ref (ad 7)] : List Value).toArray s 0 0 A) (F0 m 7 ls []) := by
  intro n
  induction n with
  | zero => intro x1 I J B D ls H locs hok; exact hok.elim
  | succ n ih => exact wB_Situation_able_7 G K ad sv  Post C (wl_Situation_able_7  Post n) ih
set_option maxHeartbeats 8000000 in
set_option maxRecDepth 100000 in
theorem w_Situation_able (l : Launch) (G : va_G) (K : Nat → ClassId) (ad : Nat → Nat) (sv : Value) (I : Nat → Int32) (J : Nat → Int64) (B : Nat → Nat → Int32) (D : Nat → Nat → Int64) (Post : Int64 → (Nat → Int32) → (Nat → Int64) → (Nat → Nat → Int32) → (Nat → Nat → Int64) → Prop) (sz : Nat) (hok : wp_Situation_able I J B D  Post) : Met l zy_Situation_able (Cond.code zy_Situation_able prog_8_method_6_code 5 (some .long) :: zTB) { frames := 4, cells := 0, slots := 0, locals := 93 } (va_Pc [.ref (ad 7)] (zPre G K (wX ad K sv I J B D) sz)) (va_Ql (fun (r : Int64) (u : zS) => Post r u.1 u.2.1 u.2.2.1 u.2.2.2) (fun u t => zPost G K (va_A (wX ad K sv I J B D) sz) (wX ad K sv u.1 u.2.1 u.2.2.1 u.2.2.2) t) (va_A (wX ad K sv I J B D) sz)) 0 0 (va_A (wX ad K sv I J B D) sz) := by
  refine zMet (y := zy_Situation_able) (av := [.ref (ad 7)]) (maxL := 5) (cc := prog_8_method_6_code) (ret := (some .long)) (W0 := (wX ad K sv I J B D)) (sz := sz) (G := G) (K := K) (wt := zTB) (mc := 0) (ms := 0) (Qf := fun A => va_Ql (fun (r : Int64) (u : zS) => Post r u.1 u.2.1 u.2.2.1 u.2.2.2) (fun u t => zPost G K A (wX ad K sv u.1 u.2.1 u.2.2.1 u.2.2.2) t) A) (by decide) (Nat.le_of_ble_eq_true rfl) ?_
  intro p e s m below meth c ls A hx hb hr hml hts hown hlocks hin hA hK H locs hw hsz hl
  clear hsz
  have hown : s.vm.findClass "LassoFinder$Situation" = some m.cls := hown
  have C : zCx p s m ([.ref (ad 7)] : List Value).toArray meth c A G K prog_8_method_6_code (some .long) 5 "LassoFinder$Situation" := ⟨hx, hb, hr, hml, hts, hown, hlocks, hA, hK⟩
  have hl : lv_has ls 5 [(0, .ref (ad 7))] := hl
  have hw : zW G A s.heap (wX ad K sv I J B D) H locs := hw
  unfold wp_Situation_able at hok
  refine lv_aload_n hx hb zd_Situation_able_0 rfl (lv_at hl 0 rfl) ?_
  refine lv_lconst (v := 0) hx hb zd_Situation_able_1 (by decide) ?_
  refine z_put (v := .long 0) hx hb hts hown hK hw zZ7 7 wX_g7 7 (by decide) zn_442 rfl rfl rfl (Nat.le_of_ble_eq_true rfl) zd_Situation_able_2 (fun H locs hw => ?_)
  have hw := wX_sJ1 hw
  refine lv_iconst (v := 0) hx hb zd_Situation_able_5 (by decide) ?_
  refine lv_istore_n hx hb zd_Situation_able_6 rfl hl (by decide) rfl (fun ls hl => ?_)
  have hl : lv_has ls 5 [(1, .int 0), (0, .ref (ad 7))] := hl
  obtain ⟨n9, hok⟩ := hok
  exact wL_Situation_able_7 G K ad sv  Post C n9 0 I (vp_updL J 1 0) B D ls H locs hok (lv_sub hl [1, 0] rfl) hw
def wc_Graph_addStepsOf_103 (a0 : Int32) (Post : Int32 → (Nat → Int32) → (Nat → Int64) → (Nat → Nat → Int32) → (Nat → Nat → Int64) → Prop) (x1 : Int32) (x4 : Int32) (I : Nat → Int32) (J : Nat → Int64) (B : Nat → Nat → Int32) (D : Nat → Nat → Int64) : Prop :=
  ∀ z1 : Int32, z1 = (x1 + 1) → vp_in z1 97 ∧ (x4 = 0 ∨ x4 = 1) ∧ Post x4 I J (va_up B 32 (upd (B 32) z1.toNatClampNeg (I 20))) D
def wc_Graph_addStepsOf_75 (a0 : Int32) (Post : Int32 → (Nat → Int32) → (Nat → Int64) → (Nat → Nat → Int32) → (Nat → Nat → Int64) → Prop) (x1 : Int32) (x4 : Int32) (I : Nat → Int32) (J : Nat → Int64) (B : Nat → Nat → Int32) (D : Nat → Nat → Int64) : Prop :=
  ((x4 = 0 → wc_Graph_addStepsOf_103 a0 Post x1 x4 I J B D) ∧ (¬ x4 = 0 → vp_in x1 97 ∧ ∀ z3 : Int32, z3 = ((B 32) x1.toNatClampNeg) → ((¬ (I 20) = z3 → wc_Graph_addStepsOf_103 a0 Post x1 x4 I J B D) ∧ ((I 20) = z3 → wp_Graph_add I J B D x1 x1 (-1) (-1) (fun r5 I5 J5 B5 D5 => wc_Graph_addStepsOf_103 a0 Post x1 r5 I5 J5 B5 D5)))))
def wc_Graph_addStepsOf_69 (a0 : Int32) (K37 : Int32 → Int64 → Int32 → Int32 → (Nat → Int32) → (Nat → Int64) → (Nat → Nat → Int32) → (Nat → Nat → Int64) → Prop) (Post : Int32 → (Nat → Int32) → (Nat → Int64) → (Nat → Nat → Int32) → (Nat → Nat → Int64) → Prop) (x1 : Int32) (x2 : Int64) (x4 : Int32) (x5 : Int32) (I : Nat → Int32) (J : Nat → Int64) (B : Nat → Nat → Int32) (D : Nat → Nat → Int64) : Prop :=
  ∀ z6 : Int32, z6 = (x5 + 1) → K37 x1 x2 x4 z6 I J B D
def wb_Graph_addStepsOf_37 (a0 : Int32) (K37 : Int32 → Int64 → Int32 → Int32 → (Nat → Int32) → (Nat → Int64) → (Nat → Nat → Int32) → (Nat → Nat → Int64) → Prop) (Post : Int32 → (Nat → Int32) → (Nat → Int64) → (Nat → Nat → Int32) → (Nat → Nat → Int64) → Prop) (x1 : Int32) (x2 : Int64) (x4 : Int32) (x5 : Int32) (I : Nat → Int32) (J : Nat → Int64) (B : Nat → Nat → Int32) (D : Nat → Nat → Int64) : Prop :=
  (((48 : Int32) ≤ x5 → wc_Graph_addStepsOf_75 a0 Post x1 x4 I J B D) ∧ (¬ (48 : Int32) ≤ x5 → ((x4 = 0 → wc_Graph_addStepsOf_75 a0 Post x1 x4 I J B D) ∧ (¬ x4 = 0 → ∀ z9 : Int64, z9 = (x2.toUInt64 >>> (x5.toInt64.toUInt64 &&& Int64.toUInt64 63)).toInt64 → ∀ z10 : Int64, z10 = (z9 &&& 1) → ∀ z11 : Int32, z11 = (lg_cmp z10 0) → ((z11 = 0 → wc_Graph_addStepsOf_69 a0 K37 Post x1 x2 x4 x5 I J B D) ∧ (¬ z11 = 0 → wp_Graph_addStepsBy I J B D x1 x5 (fun r13 I13 J13 B13 D13 => wc_Graph_addStepsOf_69 a0 K37 Post x1 x2 r13 x5 I13 J13 B13 D13)))))))
def wl_Graph_addStepsOf_37 (a0 : Int32) (Post : Int32 → (Nat → Int32) → (Nat → Int64) → (Nat → Nat → Int32) → (Nat → Nat → Int64) → Prop) (n : Nat) : Int32 → Int64 → Int32 → Int32 → (Nat → Int32) → (Nat → Int64) → (Nat → Nat → Int32) → (Nat → Nat → Int64) → Prop := Nat.rec (fun _ _ _ _ _ _ _ _ => False) (fun _ r => wb_Graph_addStepsOf_37 a0 r Post) n
def wp_Graph_addStepsOf (I : Nat → Int32) (J : Nat → Int64) (B : Nat → Nat → Int32) (D : Nat → Nat → Int64) (a0 : Int32) (Post : Int32 → (Nat → Int32) → (Nat → Int64) → (Nat → Nat → Int32) → (Nat → Nat → Int64) → Prop) : Prop :=
  vp_in a0 97 ∧ vp_in a0 96 ∧ ∀ z14 : Int64, z14 = ((D 2) a0.toNatClampNeg) → wp_Situation_unpack I J (va_up B 32 (upd (B 32) a0.toNatClampNeg (I 20))) D z14 (fun I15 J15 B15 D15 => wp_Situation_able I15 J15 B15 D15  (fun r16 I16 J16 B16 D16 => ∃ n : Nat, wl_Graph_addStepsOf_37 a0 Post n a0 r16 1 0 I16 J16 B16 D16))
set_option maxHeartbeats 8000000 in
set_option maxRecDepth 100000 in
theorem wJ_Graph_addStepsOf_103 {p : Program} {l : Launch} {e : Env} {s : State} {m : MethodId} {below : List Frame} {meth : Method} {c : Code} {A : Nat → Prop} (G : va_G) (K : Nat → ClassId) (ad : Nat → Nat) (sv : Value) (a0 : Int32) (Post : Int32 → (Nat → Int32) → (Nat → Int64) → (Nat → Nat → Int32) → (Nat → Nat → Int64) → Prop) (C : zCx p s m ([.ref (ad 8), .int a0] : List Value).toArray meth c A G K prog_3_method_4_code (some .boolean) 6 "LassoFinder$Graph") : ∀ (x1 : Int32) (x4 : Int32) (I : Nat → Int32) (J : Nat → Int64) (B : Nat → Nat → Int32) (D : Nat → Nat → Int64) (ls : Array Slot) (H : Heap) (locs : List Loc), wc_Graph_addStepsOf_103 a0 Post x1 x4 I J B D → lv_has ls 6 [(0, .ref (ad 8)), (1, .int x1), (4, .int x4)] → zW G A s.heap (wX ad K sv I J B D) H locs → W p l e { frames := 5, cells := 0, slots := 0, locals := 121 } s m ([.ref (ad 8), .int a0] : List Value).toArray below meth c H locs 0 0 (MQ below (va_Qi (fun (r : Int32) (u : zS) => Post r u.1 u.2.1 u.2.2.1 u.2.2.2) (fun u t => zPost G K A (wX ad K sv u.1 u.2.1 u.2.2.1 u.2.2.2) t) A) ([.ref (ad 8), .int a0] : List Value).toArray s 0 0 A) (F0 m 103 ls []) := by
  obtain ⟨hx, hb, hr, hml, hts, hown, hlocks, hA, hK⟩ := id C
  intro x1 x4 I J B D ls H locs hok hl hw
  unfold wc_Graph_addStepsOf_103 at hok
  refine lv_aload_n hx hb zd_Graph_addStepsOf_103 rfl (lv_at hl 0 rfl) ?_
  refine z_get (v := .ref (ad 47)) hx hb hts hown hK hw zZ2 8 wX_g8 2 (by decide) zn_270 rfl zd_Graph_addStepsOf_104 ?_
  refine lv_iload_n hx hb zd_Graph_addStepsOf_107 rfl (lv_at hl 1 rfl) ?_
  refine lv_iconst (v := 1) hx hb zd_Graph_addStepsOf_108 (by decide) ?_
  refine lv_iadd hx hb zd_Graph_addStepsOf_109 ?_
  refine lv_topi (fun z1 ez1 => ?_)
  have hok := hok z1 ez1
  refine lv_aload_n hx hb zd_Graph_addStepsOf_110 rfl (lv_at hl 0 rfl) ?_
  refine z_get (v := .int (I 20)) hx hb hts hown hK hw zZ2 8 wX_g8 10 (by decide) zn_430 rfl zd_Graph_addStepsOf_111 ?_
  refine va_iast (f := (B 32)) hx hb hK hw.1 hw.2.1 hw.2.2 47 0 wX_a47 rfl hok.1 zd_Graph_addStepsOf_114 (fun H locs w91 w92 w93 => ?_)
  have hok := hok.2
  have hw := wX_t47 ⟨w91, w92, w93⟩
  refine lv_iload hx hb zd_Graph_addStepsOf_115 (lv_at hl 2 rfl) ?_
  have hbo := hok.1
  have hok := hok.2
  exact (z_iret (u := (I, J, (va_up B 32 (upd (B 32) z1.toNatClampNeg (I 20))), D)) hx hb hr hlocks (z_nar hbo) hw (List.range 65) wX_all wX_nd hok (Nat.le_of_ble_eq_true rfl) (Nat.le_of_ble_eq_true rfl) zd_Graph_addStepsOf_117)
set_option maxHeartbeats 8000000 in
set_option maxRecDepth 100000 in
theorem wJ_Graph_addStepsOf_75 {p : Program} {l : Launch} {e : Env} {s : State} {m : MethodId} {below : List Frame} {meth : Method} {c : Code} {A : Nat → Prop} (G : va_G) (K : Nat → ClassId) (ad : Nat → Nat) (sv : Value) (a0 : Int32) (Post : Int32 → (Nat → Int32) → (Nat → Int64) → (Nat → Nat → Int32) → (Nat → Nat → Int64) → Prop) (C : zCx p s m ([.ref (ad 8), .int a0] : List Value).toArray meth c A G K prog_3_method_4_code (some .boolean) 6 "LassoFinder$Graph") : ∀ (x1 : Int32) (x4 : Int32) (I : Nat → Int32) (J : Nat → Int64) (B : Nat → Nat → Int32) (D : Nat → Nat → Int64) (ls : Array Slot) (H : Heap) (locs : List Loc), wc_Graph_addStepsOf_75 a0 Post x1 x4 I J B D → lv_has ls 6 [(0, .ref (ad 8)), (1, .int x1), (4, .int x4)] → zW G A s.heap (wX ad K sv I J B D) H locs → W p l e { frames := 5, cells := 0, slots := 0, locals := 121 } s m ([.ref (ad 8), .int a0] : List Value).toArray below meth c H locs 0 0 (MQ below (va_Qi (fun (r : Int32) (u : zS) => Post r u.1 u.2.1 u.2.2.1 u.2.2.2) (fun u t => zPost G K A (wX ad K sv u.1 u.2.1 u.2.2.1 u.2.2.2) t) A) ([.ref (ad 8), .int a0] : List Value).toArray s 0 0 A) (F0 m 75 ls []) := by
  obtain ⟨hx, hb, hr, hml, hts, hown, hlocks, hA, hK⟩ := id C
  intro x1 x4 I J B D ls H locs hok hl hw
  unfold wc_Graph_addStepsOf_75 at hok
  refine lv_iload hx hb zd_Graph_addStepsOf_75 (lv_at hl 2 rfl) ?_
  refine lv_if_eq (tgt := 103) hx hb zd_Graph_addStepsOf_77 (by decide) (fun hc2 => ?_) (fun hc2 => ?_)
  · have hok := hok.1 hc2
    exact wJ_Graph_addStepsOf_103 G K ad sv a0 Post C x1 x4 I J B D ls H locs hok (lv_sub hl [0, 1, 2] rfl) hw
  · have hok := hok.2 hc2
    refine lv_aload_n hx hb zd_Graph_addStepsOf_80 rfl (lv_at hl 0 rfl) ?_
    refine z_get (v := .int (I 20)) hx hb hts hown hK hw zZ2 8 wX_g8 10 (by decide) zn_430 rfl zd_Graph_addStepsOf_81 ?_
    refine lv_aload_n hx hb zd_Graph_addStepsOf_84 rfl (lv_at hl 0 rfl) ?_
    refine z_get (v := .ref (ad 47)) hx hb hts hown hK hw zZ2 8 wX_g8 2 (by decide) zn_270 rfl zd_Graph_addStepsOf_85 ?_
    refine lv_iload_n hx hb zd_Graph_addStepsOf_88 rfl (lv_at hl 1 rfl) ?_
    refine va_iald (f := (B 32)) hx hb hK hw.1 47 0 wX_a47 rfl hok.1 zd_Graph_addStepsOf_89 ?_
    have hok := hok.2
    refine lv_topi (fun z3 ez3 => ?_)
    have hok := hok z3 ez3
    refine lv_icmp_ne (tgt := 103) hx hb zd_Graph_addStepsOf_90 (by decide) (fun hc4 => ?_) (fun hc4 => ?_)
    · have hok := hok.1 hc4
      exact wJ_Graph_addStepsOf_103 G K ad sv a0 Post C x1 x4 I J B D ls H locs hok (lv_sub hl [0, 1, 2] rfl) hw
    · have hok := hok.2 hc4
      refine lv_aload_n hx hb zd_Graph_addStepsOf_93 rfl (lv_at hl 0 rfl) ?_
      refine lv_iload_n hx hb zd_Graph_addStepsOf_94 rfl (lv_at hl 1 rfl) ?_
      refine lv_iload_n hx hb zd_Graph_addStepsOf_95 rfl (lv_at hl 1 rfl) ?_
      refine lv_iconst (v := (-1)) hx hb zd_Graph_addStepsOf_96 (by decide) ?_
      refine lv_iconst (v := (-1)) hx hb zd_Graph_addStepsOf_97 (by decide) ?_
      refine z_calli (w1 := fun (u : zS) => wX ad K sv u.1 u.2.1 u.2.2.1 u.2.2.2) (wr := []) (z_runV (q0 := 8) (wc := (wX ad K sv I J B D)) (As := [.int x1, .int x1, .int (-1), .int (-1)]) (rest := []) ⟨hx, hb, hml, hown, hts⟩ (w_Graph_add l G K ad sv I J B D x1 x1 (-1) (-1) _ H.size hok) zf_Graph_add zn_425 ⟨Nat.le_of_ble_eq_true rfl, Nat.le_of_ble_eq_true rfl⟩ hK hw (List.range 65) wX_all wX_nd wX_g8 rfl rfl hl.1 rfl (Nat.le_of_ble_eq_true rfl) zd_Graph_addStepsOf_98 ⟨Nat.le_of_ble_eq_true rfl, Nat.le_of_ble_eq_true rfl⟩) hw hA (List.range 65) [] wX_all rfl (by decide) (fun i hi => by cases hi) (fun r5 u H locs hok hw => ?_)
      obtain ⟨I5, J5, B5, D5⟩ := u
      dsimp only at hok
      have hw : zW G A s.heap (wX ad K sv I5 J5 B5 D5) H locs := hw
      refine lv_istore hx hb zd_Graph_addStepsOf_101 hl (by decide) rfl (fun ls hl => ?_)
      have hl : lv_has ls 6 [(4, .int r5), (0, .ref (ad 8)), (1, .int x1)] := hl
      exact wJ_Graph_addStepsOf_103 G K ad sv a0 Post C x1 r5 I5 J5 B5 D5 ls H locs hok (lv_sub hl [1, 2, 0] rfl) hw
set_option maxHeartbeats 8000000 in
set_option maxRecDepth 100000 in
theorem wJ_Graph_addStepsOf_69 {p : Program} {l : Launch} {e : Env} {s : State} {m : MethodId} {below : List Frame} {meth : Method} {c : Code} {A : Nat → Prop} (G : va_G) (K : Nat → ClassId) (ad : Nat → Nat) (sv : Value) (a0 : Int32) (Post : Int32 → (Nat → Int32) → (Nat → Int64) → (Nat → Nat → Int32) → (Nat → Nat → Int64) → Prop) (C : zCx p s m ([.ref (ad 8), .int a0] : List Value).toArray meth c A G K prog_3_method_4_code (some .boolean) 6 "LassoFinder$Graph") (K37 : Int32 → Int64 → Int32 → Int32 → (Nat → Int32) → (Nat → Int64) → (Nat → Nat → Int32) → (Nat → Nat → Int64) → Prop) (kh37 : ∀ (x1 : Int32) (x2 : Int64) (x4 : Int32) (x5 : Int32) (I : Nat → Int32) (J : Nat → Int64) (B : Nat → Nat → Int32) (D : Nat → Nat → Int64) (ls : Array Slot) (H : Heap) (locs : List Loc), K37 x1 x2 x4 x5 I J B D → lv_has ls 6 [(0, .ref (ad 8)), (1, .int x1), (2, .long x2), (4, .int x4), (5, .int x5)] → zW G A s.heap (wX ad K sv I J B D) H locs → W p l e { frames := 5, cells := 0, slots := 0, locals := 121 } s m ([.ref (ad 8), .int a0] : List Value).toArray below meth c H locs 0 0 (MQ below (va_Qi (fun (r : Int32) (u : zS) => Post r u.1 u.2.1 u.2.2.1 u.2.2.2) (fun u t => zPost G K A (wX ad K sv u.1 u.2.1 u.2.2.1 u.2.2.2) t) A) ([.ref (ad 8), .int a0] : List Value).toArray s 0 0 A) (F0 m 37 ls [])) : ∀ (x1 : Int32) (x2 : Int64) (x4 : Int32) (x5 : Int32) (I : Nat → Int32) (J : Nat → Int64) (B : Nat → Nat → Int32) (D : Nat → Nat → Int64) (ls : Array Slot) (H : Heap) (locs : List Loc), wc_Graph_addStepsOf_69 a0 K37 Post x1 x2 x4 x5 I J B D → lv_has ls 6 [(0, .ref (ad 8)), (1, .int x1), (2, .long x2), (4, .int x4), (5, .int x5)] → zW G A s.heap (wX ad K sv I J B D) H locs → W p l e { frames := 5, cells := 0, slots := 0, locals := 121 } s m ([.ref (ad 8), .int a0] : List Value).toArray below meth c H locs 0 0 (MQ below (va_Qi (fun (r : Int32) (u : zS) => Post r u.1 u.2.1 u.2.2.1 u.2.2.2) (fun u t => zPost G K A (wX ad K sv u.1 u.2.1 u.2.2.1 u.2.2.2) t) A) ([.ref (ad 8), .int a0] : List Value).toArray s 0 0 A) (F0 m 69 ls []) := by
  obtain ⟨hx, hb, hr, hml, hts, hown, hlocks, hA, hK⟩ := id C
  intro x1 x2 x4 x5 I J B D ls H locs hok hl hw
  unfold wc_Graph_addStepsOf_69 at hok
  obtain ⟨z6, ez6⟩ : ∃ z : Int32, z = (x5 + 1) := ⟨_, rfl⟩
  have hok := hok z6 ez6
  refine lv_iinc (v := z6) hx hb zd_Graph_addStepsOf_69 hl (k := 4) rfl ez6.symm (by decide) rfl (fun ls hl => ?_)
  have hl : lv_has ls 6 [(5, .int z6), (0, .ref (ad 8)), (1, .int x1), (2, .long x2), (4, .int x4)] := hl
  refine lv_goto (tgt := 37) hx hb zd_Graph_addStepsOf_72 (by decide) ?_
  exact kh37 x1 x2 x4 z6 I J B D ls H locs hok (lv_sub hl [1, 2, 3, 4, 0] rfl) hw
set_option maxHeartbeats 8000000 in
set_option maxRecDepth 100000 in
theorem wB_Graph_addStepsOf_37 {p : Program} {l : Launch} {e : Env} {s : State} {m : MethodId} {below : List Frame} {meth : Method} {c : Code} {A : Nat → Prop} (G : va_G) (K : Nat → ClassId) (ad : Nat → Nat) (sv : Value) (a0 : Int32) (Post : Int32 → (Nat → Int32) → (Nat → Int64) → (Nat → Nat → Int32) → (Nat → Nat → Int64) → Prop) (C : zCx p s m ([.ref (ad 8), .int a0] : List Value).toArray meth c A G K prog_3_method_4_code (some .boolean) 6 "LassoFinder$Graph") (K37 : Int32 → Int64 → Int32 → Int32 → (Nat → Int32) → (Nat → Int64) → (Nat → Nat → Int32) → (Nat → Nat → Int64) → Prop) (kh37 : ∀ (x1 : Int32) (x2 : Int64) (x4 : Int32) (x5 : Int32) (I : Nat → Int32) (J : Nat → Int64) (B : Nat → Nat → Int32) (D : Nat → Nat → Int64) (ls : Array Slot) (H : Heap) (locs : List Loc), K37 x1 x2 x4 x5 I J B D → lv_has ls 6 [(0, .ref (ad 8)), (1, .int x1), (2, .long x2), (4, .int x4), (5, .int x5)] → zW G A s.heap (wX ad K sv I J B D) H locs → W p l e { frames := 5, cells := 0, slots := 0, locals := 121 } s m ([.ref (ad 8), .int a0] : List Value).toArray below meth c H locs 0 0 (MQ below (va_Qi (fun (r : Int32) (u : zS) => Post r u.1 u.2.1 u.2.2.1 u.2.2.2) (fun u t => zPost G K A (wX ad K sv u.1 u.2.1 u.2.2.1 u.2.2.2) t) A) ([.ref (ad 8), .int a0] : List Value).toArray s 0 0 A) (F0 m 37 ls [])) : ∀ (x1 : Int32) (x2 : Int64) (x4 : Int32) (x5 : Int32) (I : Nat → Int32) (J : Nat → Int64) (B : Nat → Nat → Int32) (D : Nat → Nat → Int64) (ls : Array Slot) (H : Heap) (locs : List Loc), wb_Graph_addStepsOf_37 a0 K37 Post x1 x2 x4 x5 I J B D → lv_has ls 6 [(0, .ref (ad 8)), (1, .int x1), (2, .long x2), (4, .int x4), (5, .int x5)] → zW G A s.heap (wX ad K sv I J B D) H locs → W p l e { frames := 5, cells := 0, slots := 0, locals := 121 } s m ([.ref (ad 8), .int a0] : List Value).toArray below meth c H locs 0 0 (MQ below (va_Qi (fun (r : Int32) (u : zS) => Post r u.1 u.2.1 u.2.2.1 u.2.2.2) (fun u t => zPost G K A (wX ad K sv u.1 u.2.1 u.2.2.1 u.2.2.2) t) A) ([.ref (ad 8), .int a0] : List Value).toArray s 0 0 A) (F0 m 37 ls []) := by
  obtain ⟨hx, hb, hr, hml, hts, hown, hlocks, hA, hK⟩ := id C
  intro x1 x2 x4 x5 I J B D ls H locs hok hl hw
  unfold wb_Graph_addStepsOf_37 at hok
  refine lv_iload hx hb zd_Graph_addStepsOf_37 (lv_at hl 4 rfl) ?_
  refine lv_bipush (v := 48) hx hb zd_Graph_addStepsOf_39 (by decide) ?_
  refine lv_icmp_ge (tgt := 75) hx hb zd_Graph_addStepsOf_41 (by decide) (fun hc7 => ?_) (fun hc7 => ?_)
  · have hok := hok.1 hc7
    exact wJ_Graph_addStepsOf_75 G K ad sv a0 Post C x1 x4 I J B D ls H locs hok (lv_sub hl [0, 1, 3] rfl) hw
  · have hok := hok.2 hc7
    refine lv_iload hx hb zd_Graph_addStepsOf_44 (lv_at hl 3 rfl) ?_
    refine lv_if_eq (tgt := 75) hx hb zd_Graph_addStepsOf_46 (by decide) (fun hc8 => ?_) (fun hc8 => ?_)
    · have hok := hok.1 hc8
      exact wJ_Graph_addStepsOf_75 G K ad sv a0 Post C x1 x4 I J B D ls H locs hok (lv_sub hl [0, 1, 3] rfl) hw
    · have hok := hok.2 hc8
      refine lv_lload_n hx hb zd_Graph_addStepsOf_49 rfl (lv_at hl 2 rfl) ?_
      refine lv_iload hx hb zd_Graph_addStepsOf_50 (lv_at hl 4 rfl) ?_
      refine lv_lushr hx hb zd_Graph_addStepsOf_52 rfl ?_
      refine lv_topl (fun z9 ez9 => ?_)
      have hok := hok z9 ez9
      refine lv_lconst (v := 1) hx hb zd_Graph_addStepsOf_53 (by decide) ?_
      refine lv_land hx hb zd_Graph_addStepsOf_54 ?_
      refine lv_topl (fun z10 ez10 => ?_)
      have hok := hok z10 ez10
      refine lv_lconst (v := 0) hx hb zd_Graph_addStepsOf_55 (by decide) ?_
      refine W.lcmp hx hb zd_Graph_addStepsOf_56 ?_
      refine lv_topi (fun z11 ez11 => ?_)
      have hok := hok z11 ez11
      refine lv_if_eq (tgt := 69) hx hb zd_Graph_addStepsOf_57 (by decide) (fun hc12 => ?_) (fun hc12 => ?_)
      · have hok := hok.1 hc12
        exact wJ_Graph_addStepsOf_69 G K ad sv a0 Post C K37 kh37 x1 x2 x4 x5 I J B D ls H locs hok (lv_sub hl [0, 1, 2, 3, 4] rfl) hw
      · have hok := hok.2 hc12
        refine lv_aload_n hx hb zd_Graph_addStepsOf_60 rfl (lv_at hl 0 rfl) ?_
        refine lv_iload_n hx hb zd_Graph_addStepsOf_61 rfl (lv_at hl 1 rfl) ?_
        refine lv_iload hx hb zd_Graph_addStepsOf_62 (lv_at hl 4 rfl) ?_
        refine z_calli (w1 := fun (u : zS) => wX ad K sv u.1 u.2.1 u.2.2.1 u.2.2.2) (wr := []) (z_runV (q0 := 8) (wc := (wX ad K sv I J B D)) (As := [.int x1, .int x5]) (rest := []) ⟨hx, hb, hml, hown, hts⟩ (w_Graph_addStepsBy l G K ad sv I J B D x1 x5 _ H.size hok) zf_Graph_addStepsBy zn_418 ⟨Nat.le_of_ble_eq_true rfl, Nat.le_of_ble_eq_true rfl⟩ hK hw (List.range 65) wX_all wX_nd wX_g8 rfl rfl hl.1 rfl (Nat.le_of_ble_eq_true rfl) zd_Graph_addStepsOf_64 ⟨Nat.le_of_ble_eq_true rfl, Nat.le_of_ble_eq_true rfl⟩) hw hA (List.range 65) [] wX_all rfl (by decide) (fun i hi => by cases hi) (fun r13 u H locs hok hw => ?_)
        obtain ⟨I13, J13, B13, D13⟩ := u
        dsimp only at hok
        have hw : zW G A s.heap (wX ad K sv I13 J13 B13 D13) H locs := hw
        refine lv_istore hx hb zd_Graph_addStepsOf_67 hl (by decide) rfl (fun ls hl => ?_)
        have hl : lv_has ls 6 [(4, .int r13), (0, .ref (ad 8)), (1, .int x1), (2, .long x2), (5, .int x5)] := hl
        exact wJ_Graph_addStepsOf_69 G K ad sv a0 Post C K37 kh37 x1 x2 r13 x5 I13 J13 B13 D13 ls H locs hok (lv_sub hl [1, 2, 3, 0, 4] rfl) hw
theorem wL_Graph_addStepsOf_37 {p : Program} {l : Launch} {e : Env} {s : State} {m : MethodId} {below : List Frame} {meth : Method} {c : Code} {A : Nat → Prop} (G : va_G) (K : Nat → ClassId) (ad : Nat → Nat) (sv : Value) (a0 : Int32) (Post : Int32 → (Nat → Int32) → (Nat → Int64) → (Nat → Nat → Int32) → (Nat → Nat → Int64) → Prop) (C : zCx p s m ([.ref (ad 8), .int a0] : List Value).toArray meth c A G K prog_3_method_4_code (some .boolean) 6 "LassoFinder$Graph") : ∀ (n : Nat) (x1 : Int32) (x2 : Int64) (x4 : Int32) (x5 : Int32) (I : Nat → Int32) (J : Nat → Int64) (B : Nat → Nat → Int32) (D : Nat → Nat → Int64) (ls : Array Slot) (H : Heap) (locs : List Loc), wl_Graph_addStepsOf_37 a0 Post n x1 x2 x4 x5 I J B D → lv_has ls 6 [(0, .ref (ad 8)), (1, .int x1), (2, .long x2), (4, .int x4), (5, .int x5)] → zW G A s.heap (wX ad K sv I J B D) H locs → W p l e { frames := 5, cells := 0, slots := 0, locals := 121 } s m ([.ref (ad 8), .int a0] : List Value).toArray below meth c H locs 0 0 (MQ below (va_Qi (fun (r : Int32) (u : zS) => Post r u.1 u.2.1 u.2.2.1 u.2.2.2) (fun u t => zPost G K A (wX ad K sv u.1 u.2.1 u.2.2.1 u.2.2.2) t) A) ([.ref (ad 8), .int a0] : List Value).toArray s 0 0 A) (F0 m 37 ls []) := by
  intro n
  induction n with
  | zero => intro x1 x2 x4 x5 I J B D ls H locs hok; exact hok.elim
  | succ n ih => exact wB_Graph_addStepsOf_37 G K ad sv a0 Post C (wl_Graph_addStepsOf_37 a0 Post n) ih
set_option maxHeartbeats 8000000 in
set_option maxRecDepth 100000 in
theorem w_Graph_addStepsOf (l : Launch) (G : va_G) (K : Nat → ClassId) (ad : Nat → Nat) (sv : Value) (I : Nat → Int32) (J : Nat → Int64) (B : Nat → Nat → Int32) (D : Nat → Nat → Int64) (a0 : Int32) (Post : Int32 → (Nat → Int32) → (Nat → Int64) → (Nat → Nat → Int32) → (Nat → Nat → Int64) → Prop) (sz : Nat) (hok : wp_Graph_addStepsOf I J B D a0 Post) : Met l zy_Graph_addStepsOf (Cond.code zy_Graph_addStepsOf prog_3_method_4_code 6 (some .boolean) :: zTB) { frames := 5, cells := 0, slots := 0, locals := 121 } (va_Pc [.ref (ad 8), .int a0] (zPre G K (wX ad K sv I J B D) sz)) (va_Qi (fun (r : Int32) (u : zS) => Post r u.1 u.2.1 u.2.2.1 u.2.2.2) (fun u t => zPost G K (va_A (wX ad K sv I J B D) sz) (wX ad K sv u.1 u.2.1 u.2.2.1 u.2.2.2) t) (va_A (wX ad K sv I J B D) sz)) 0 0 (va_A (wX ad K sv I J B D) sz) := by
  refine zMet (y := zy_Graph_addStepsOf) (av := [.ref (ad 8), .int a0]) (maxL := 6) (cc := prog_3_method_4_code) (ret := (some .boolean)) (W0 := (wX ad K sv I J B D)) (sz := sz) (G := G) (K := K) (wt := zTB) (mc := 0) (ms := 0) (Qf := fun A => va_Qi (fun (r : Int32) (u : zS) => Post r u.1 u.2.1 u.2.2.1 u.2.2.2) (fun u t => zPost G K A (wX ad K sv u.1 u.2.1 u.2.2.1 u.2.2.2) t) A) (by decide) (Nat.le_of_ble_eq_true rfl) ?_
  intro p e s m below meth c ls A hx hb hr hml hts hown hlocks hin hA hK H locs hw hsz hl
  clear hsz
  have hown : s.vm.findClass "LassoFinder$Graph" = some m.cls := hown
  have C : zCx p s m ([.ref (ad 8), .int a0] : List Value).toArray meth c A G K prog_3_method_4_code (some .boolean) 6 "LassoFinder$Graph" := ⟨hx, hb, hr, hml, hts, hown, hlocks, hA, hK⟩
  have hl : lv_has ls 6 [(0, .ref (ad 8)), (1, .int a0)] := hl
  have hw : zW G A s.heap (wX ad K sv I J B D) H locs := hw
  unfold wp_Graph_addStepsOf at hok
  refine lv_aload_n hx hb zd_Graph_addStepsOf_0 rfl (lv_at hl 0 rfl) ?_
  refine z_get (v := .ref (ad 47)) hx hb hts hown hK hw zZ2 8 wX_g8 2 (by decide) zn_270 rfl zd_Graph_addStepsOf_1 ?_
  refine lv_iload_n hx hb zd_Graph_addStepsOf_4 rfl (lv_at hl 1 rfl) ?_
  refine lv_aload_n hx hb zd_Graph_addStepsOf_5 rfl (lv_at hl 0 rfl) ?_
  refine z_get (v := .int (I 20)) hx hb hts hown hK hw zZ2 8 wX_g8 10 (by decide) zn_430 rfl zd_Graph_addStepsOf_6 ?_
  refine va_iast (f := (B 32)) hx hb hK hw.1 hw.2.1 hw.2.2 47 0 wX_a47 rfl hok.1 zd_Graph_addStepsOf_9 (fun H locs w91 w92 w93 => ?_)
  have hok := hok.2
  have hw := wX_t47 ⟨w91, w92, w93⟩
  refine lv_aload_n hx hb zd_Graph_addStepsOf_10 rfl (lv_at hl 0 rfl) ?_
  refine z_get (v := .ref (ad 7)) hx hb hts hown hK hw zZ2 8 wX_g8 0 (by decide) zn_428 rfl zd_Graph_addStepsOf_11 ?_
  refine lv_aload_n hx hb zd_Graph_addStepsOf_14 rfl (lv_at hl 0 rfl) ?_
  refine z_get (v := .ref (ad 46)) hx hb hts hown hK hw zZ2 8 wX_g8 1 (by decide) zn_269 rfl zd_Graph_addStepsOf_15 ?_
  refine lv_iload_n hx hb zd_Graph_addStepsOf_18 rfl (lv_at hl 1 rfl) ?_
  refine va_lald (f := (D 2)) hx hb hK hw.1 46 1 wX_a46 rfl hok.1 zd_Graph_addStepsOf_19 ?_
  have hok := hok.2
  refine lv_topl (fun z14 ez14 => ?_)
  have hok := hok z14 ez14
  refine z_callv (w1 := fun (u : zS) => wX ad K sv u.1 u.2.1 u.2.2.1 u.2.2.2) (wr := []) (z_runV (q0 := 7) (wc := (wX ad K sv I J (va_up B 32 (upd (B 32) a0.toNatClampNeg (I 20))) D)) (As := [.long z14]) (rest := []) ⟨hx, hb, hml, hown, hts⟩ (w_Situation_unpack l G K ad sv I J (va_up B 32 (upd (B 32) a0.toNatClampNeg (I 20))) D z14 _ H.size hok) zf_Situation_unpack zn_409 ⟨Nat.le_of_ble_eq_true rfl, Nat.le_of_ble_eq_true rfl⟩ hK hw (List.range 65) wX_all wX_nd wX_g7 rfl rfl hl.1 rfl (Nat.le_of_ble_eq_true rfl) zd_Graph_addStepsOf_20 ⟨Nat.le_of_ble_eq_true rfl, Nat.le_of_ble_eq_true rfl⟩) hw hA (List.range 65) [] wX_all rfl (by decide) (fun i hi => by cases hi) (fun u H locs hok hw => ?_)
  obtain ⟨I15, J15, B15, D15⟩ := u
  dsimp only at hok
  have hw : zW G A s.heap (wX ad K sv I15 J15 B15 D15) H locs := hw
  refine lv_aload_n hx hb zd_Graph_addStepsOf_23 rfl (lv_at hl 0 rfl) ?_
  refine z_get (v := .ref (ad 7)) hx hb hts hown hK hw zZ2 8 wX_g8 0 (by decide) zn_428 rfl zd_Graph_addStepsOf_24 ?_
  refine z_calll (w1 := fun (u : zS) => wX ad K sv u.1 u.2.1 u.2.2.1 u.2.2.2) (wr := []) (z_runV (q0 := 7) (wc := (wX ad K sv I15 J15 B15 D15)) (As := []) (rest := []) ⟨hx, hb, hml, hown, hts⟩ (w_Situation_able l G K ad sv I15 J15 B15 D15  _ H.size hok) zf_Situation_able zn_410 ⟨Nat.le_of_ble_eq_true rfl, Nat.le_of_ble_eq_true rfl⟩ hK hw (List.range 65) wX_all wX_nd wX_g7 rfl rfl hl.1 rfl (Nat.le_of_ble_eq_true rfl) zd_Graph_addStepsOf_27 ⟨Nat.le_of_ble_eq_true rfl, Nat.le_of_ble_eq_true rfl⟩) hw hA (List.range 65) [] wX_all rfl (by decide) (fun i hi => by cases hi) (fun r16 u H locs hok hw => ?_)
  obtain ⟨I16, J16, B16, D16⟩ := u
  dsimp only at hok
  have hw : zW G A s.heap (wX ad K sv I16 J16 B16 D16) H locs := hw
  refine lv_lstore_n hx hb zd_Graph_addStepsOf_30 rfl hl (by decide) rfl (fun ls hl => ?_)
  have hl : lv_has ls 6 [(2, .long r16), (0, .ref (ad 8)), (1, .int a0)] := hl
  refine lv_iconst (v := 1) hx hb zd_Graph_addStepsOf_31 (by decide) ?_
  refine lv_istore hx hb zd_Graph_addStepsOf_32 hl (by decide) rfl (fun ls hl => ?_)
  have hl : lv_has ls 6 [(4, .int 1), (2, .long r16), (0, .ref (ad 8)), (1, .int a0)] := hl
  refine lv_iconst (v := 0) hx hb zd_Graph_addStepsOf_34 (by decide) ?_
  refine lv_istore hx hb zd_Graph_addStepsOf_35 hl (by decide) rfl (fun ls hl => ?_)
  have hl : lv_has ls 6 [(5, .int 0), (4, .int 1), (2, .long r16), (0, .ref (ad 8)), (1, .int a0)] := hl
  obtain ⟨n9, hok⟩ := hok
  exact wL_Graph_addStepsOf_37 G K ad sv a0 Post C n9 a0 r16 1 0 I16 J16 B16 D16 ls H locs hok (lv_sub hl [3, 4, 2, 1, 0] rfl) hw
def wp_Formula_joining (I : Nat → Int32) (J : Nat → Int64) (B : Nat → Nat → Int32) (D : Nat → Nat → Int64) (a0 : Int32) (Post : Int32 → (Nat → Int32) → (Nat → Int64) → (Nat → Nat → Int32) → (Nat → Nat → Int64) → Prop) : Prop :=
  ((a0 = 38 → Post 1 I J B D) ∧ (a0 = 62 → Post 3 I J B D) ∧ (a0 = 82 → Post 7 I J B D) ∧ (a0 = 85 → Post 6 I J B D) ∧ (a0 = 124 → Post 2 I J B D) ∧ (¬ a0 = 38 → ¬ a0 = 62 → ¬ a0 = 82 → ¬ a0 = 85 → ¬ a0 = 124 → Post (-1) I J B D))
set_option maxHeartbeats 8000000 in
set_option maxRecDepth 100000 in
theorem w_Formula_joining (l : Launch) (G : va_G) (K : Nat → ClassId) (ad : Nat → Nat) (sv : Value) (I : Nat → Int32) (J : Nat → Int64) (B : Nat → Nat → Int32) (D : Nat → Nat → Int64) (a0 : Int32) (Post : Int32 → (Nat → Int32) → (Nat → Int64) → (Nat → Nat → Int32) → (Nat → Nat → Int64) → Prop) (sz : Nat) (hok : wp_Formula_joining I J B D a0 Post) : Met l zy_Formula_joining (Cond.code zy_Formula_joining prog_2_method_5_code 1 (some .int) :: zTB) { frames := 0, cells := 0, slots := 0, locals := 0 } (va_Pc [.int a0] (zPre G K (wX ad K sv I J B D) sz)) (va_Qi (fun (r : Int32) (u : zS) => Post r u.1 u.2.1 u.2.2.1 u.2.2.2) (fun u t => zPost G K (va_A (wX ad K sv I J B D) sz) (wX ad K sv u.1 u.2.1 u.2.2.1 u.2.2.2) t) (va_A (wX ad K sv I J B D) sz)) 0 0 (va_A (wX ad K sv I J B D) sz) := by
  refine zMet (y := zy_Formula_joining) (av := [.int a0]) (maxL := 1) (cc := prog_2_method_5_code) (ret := (some .int)) (W0 := (wX ad K sv I J B D)) (sz := sz) (G := G) (K := K) (wt := zTB) (mc := 0) (ms := 0) (Qf := fun A => va_Qi (fun (r : Int32) (u : zS) => Post r u.1 u.2.1 u.2.2.1 u.2.2.2) (fun u t => zPost G K A (wX ad K sv u.1 u.2.1 u.2.2.1 u.2.2.2) t) A) (by decide) (Nat.le_of_ble_eq_true rfl) ?_
  intro p e s m below meth c ls A hx hb hr hml hts hown hlocks hin hA hK H locs hw hsz hl
  clear hsz
  have hown : s.vm.findClass "LassoFinder$Formula" = some m.cls := hown
  have C : zCx p s m ([.int a0] : List Value).toArray meth c A G K prog_2_method_5_code (some .int) 1 "LassoFinder$Formula" := ⟨hx, hb, hr, hml, hts, hown, hlocks, hA, hK⟩
  have hl : lv_has ls 1 [(0, .int a0)] := hl
  have hw : zW G A s.heap (wX ad K sv I J B D) H locs := hw
  unfold wp_Formula_joining at hok
  refine lv_iload_n hx hb zd_Formula_joining_0 rfl (lv_at hl 0 rfl) ?_
  by_cases hs1 : a0 = 38
  · have hok := hok.1 hs1
    refine lv_lookup (off := 55) (tgt := 56) hx hb zd_Formula_joining_1 (by decide) (by rw [hs1]; decide) (by decide) ?_
    refine lv_iconst (v := 1) hx hb zd_Formula_joining_56 (by decide) ?_
    exact (z_iret (u := (I, J, B, D)) hx hb hr hlocks rfl hw (List.range 65) wX_all wX_nd hok (Nat.le_of_ble_eq_true rfl) (Nat.le_of_ble_eq_true rfl) zd_Formula_joining_57)
  by_cases hs2 : a0 = 62
  · have hok := hok.2.1 hs2
    refine lv_lookup (off := 51) (tgt := 52) hx hb zd_Formula_joining_1 (by decide) (by rw [hs2]; decide) (by decide) ?_
    refine lv_iconst (v := 3) hx hb zd_Formula_joining_52 (by decide) ?_
    exact (z_iret (u := (I, J, B, D)) hx hb hr hlocks rfl hw (List.range 65) wX_all wX_nd hok (Nat.le_of_ble_eq_true rfl) (Nat.le_of_ble_eq_true rfl) zd_Formula_joining_53)
  by_cases hs3 : a0 = 82
  · have hok := hok.2.2.1 hs3
    refine lv_lookup (off := 60) (tgt := 61) hx hb zd_Formula_joining_1 (by decide) (by rw [hs3]; decide) (by decide) ?_
    refine lv_bipush (v := 7) hx hb zd_Formula_joining_61 (by decide) ?_
    exact (z_iret (u := (I, J, B, D)) hx hb hr hlocks rfl hw (List.range 65) wX_all wX_nd hok (Nat.le_of_ble_eq_true rfl) (Nat.le_of_ble_eq_true rfl) zd_Formula_joining_63)
  by_cases hs4 : a0 = 85
  · have hok := hok.2.2.2.1 hs4
    refine lv_lookup (off := 57) (tgt := 58) hx hb zd_Formula_joining_1 (by decide) (by rw [hs4]; decide) (by decide) ?_
    refine lv_bipush (v := 6) hx hb zd_Formula_joining_58 (by decide) ?_
    exact (z_iret (u := (I, J, B, D)) hx hb hr hlocks rfl hw (List.range 65) wX_all wX_nd hok (Nat.le_of_ble_eq_true rfl) (Nat.le_of_ble_eq_true rfl) zd_Formula_joining_60)
  by_cases hs5 : a0 = 124
  · have hok := hok.2.2.2.2.1 hs5
    refine lv_lookup (off := 53) (tgt := 54) hx hb zd_Formula_joining_1 (by decide) (by rw [hs5]; decide) (by decide) ?_
    refine lv_iconst (v := 2) hx hb zd_Formula_joining_54 (by decide) ?_
    exact (z_iret (u := (I, J, B, D)) hx hb hr hlocks rfl hw (List.range 65) wX_all wX_nd hok (Nat.le_of_ble_eq_true rfl) (Nat.le_of_ble_eq_true rfl) zd_Formula_joining_55)
  have hok := hok.2.2.2.2.2 hs1 hs2 hs3 hs4 hs5
  refine lv_lookup (off := 63) (tgt := 64) hx hb zd_Formula_joining_1 (by decide) (by simp only [lv_osw hs1 (a := 38) (by decide), lv_osw hs2 (a := 62) (by decide), lv_osw hs3 (a := 82) (by decide), lv_osw hs4 (a := 85) (by decide), lv_osw hs5 (a := 124) (by decide)]; rfl) (by decide) ?_
  refine lv_iconst (v := (-1)) hx hb zd_Formula_joining_64 (by decide) ?_
  exact (z_iret (u := (I, J, B, D)) hx hb hr hlocks rfl hw (List.range 65) wX_all wX_nd hok (Nat.le_of_ble_eq_true rfl) (Nat.le_of_ble_eq_true rfl) zd_Formula_joining_65)
def wp_Formula_strengthOf (I : Nat → Int32) (J : Nat → Int64) (B : Nat → Nat → Int32) (D : Nat → Nat → Int64) (a0 : Int32) (Post : Int32 → (Nat → Int32) → (Nat → Int64) → (Nat → Nat → Int32) → (Nat → Nat → Int64) → Prop) : Prop :=
  ((a0 = 1 → Post 2 I J B D) ∧ (a0 = 2 → Post 1 I J B D) ∧ (a0 = 3 → Post 0 I J B D) ∧ (¬ a0 = 1 → ¬ a0 = 2 → ¬ a0 = 3 → Post 3 I J B D))
set_option maxHeartbeats 8000000 in
set_option maxRecDepth 100000 in
theorem w_Formula_strengthOf (l : Launch) (G : va_G) (K : Nat → ClassId) (ad : Nat → Nat) (sv : Value) (I : Nat → Int32) (J : Nat → Int64) (B : Nat → Nat → Int32) (D : Nat → Nat → Int64) (a0 : Int32) (Post : Int32 → (Nat → Int32) → (Nat → Int64) → (Nat → Nat → Int32) → (Nat → Nat → Int64) → Prop) (sz : Nat) (hok : wp_Formula_strengthOf I J B D a0 Post) : Met l zy_Formula_strengthOf (Cond.code zy_Formula_strengthOf prog_2_method_6_code 1 (some .int) :: zTB) { frames := 0, cells := 0, slots := 0, locals := 0 } (va_Pc [.int a0] (zPre G K (wX ad K sv I J B D) sz)) (va_Qi (fun (r : Int32) (u : zS) => Post r u.1 u.2.1 u.2.2.1 u.2.2.2) (fun u t => zPost G K (va_A (wX ad K sv I J B D) sz) (wX ad K sv u.1 u.2.1 u.2.2.1 u.2.2.2) t) (va_A (wX ad K sv I J B D) sz)) 0 0 (va_A (wX ad K sv I J B D) sz) := by
  refine zMet (y := zy_Formula_strengthOf) (av := [.int a0]) (maxL := 1) (cc := prog_2_method_6_code) (ret := (some .int)) (W0 := (wX ad K sv I J B D)) (sz := sz) (G := G) (K := K) (wt := zTB) (mc := 0) (ms := 0) (Qf := fun A => va_Qi (fun (r : Int32) (u : zS) => Post r u.1 u.2.1 u.2.2.1 u.2.2.2) (fun u t => zPost G K A (wX ad K sv u.1 u.2.1 u.2.2.1 u.2.2.2) t) A) (by decide) (Nat.le_of_ble_eq_true rfl) ?_
  intro p e s m below meth c ls A hx hb hr hml hts hown hlocks hin hA hK H locs hw hsz hl
  clear hsz
  have hown : s.vm.findClass "LassoFinder$Formula" = some m.cls := hown
  have C : zCx p s m ([.int a0] : List Value).toArray meth c A G K prog_2_method_6_code (some .int) 1 "LassoFinder$Formula" := ⟨hx, hb, hr, hml, hts, hown, hlocks, hA, hK⟩
  have hl : lv_has ls 1 [(0, .int a0)] := hl
  have hw : zW G A s.heap (wX ad K sv I J B D) H locs := hw
  unfold wp_Formula_strengthOf at hok
  refine lv_iload_n hx hb zd_Formula_strengthOf_0 rfl (lv_at hl 0 rfl) ?_
  by_cases hs1 : a0 = 1
  · have hok := hok.1 hs1
    refine lv_tableIn (off := 31) (tgt := 32) hx hb zd_Formula_strengthOf_1 (by rw [hs1]; decide) (by rw [hs1]; decide) (by rw [hs1]; decide) (by decide) ?_
    refine lv_iconst (v := 2) hx hb zd_Formula_strengthOf_32 (by decide) ?_
    exact (z_iret (u := (I, J, B, D)) hx hb hr hlocks rfl hw (List.range 65) wX_all wX_nd hok (Nat.le_of_ble_eq_true rfl) (Nat.le_of_ble_eq_true rfl) zd_Formula_strengthOf_33)
  by_cases hs2 : a0 = 2
  · have hok := hok.2.1 hs2
    refine lv_tableIn (off := 29) (tgt := 30) hx hb zd_Formula_strengthOf_1 (by rw [hs2]; decide) (by rw [hs2]; decide) (by rw [hs2]; decide) (by decide) ?_
    refine lv_iconst (v := 1) hx hb zd_Formula_strengthOf_30 (by decide) ?_
    exact (z_iret (u := (I, J, B, D)) hx hb hr hlocks rfl hw (List.range 65) wX_all wX_nd hok (Nat.le_of_ble_eq_true rfl) (Nat.le_of_ble_eq_true rfl) zd_Formula_strengthOf_31)
  by_cases hs3 : a0 = 3
  · have hok := hok.2.2.1 hs3
    refine lv_tableIn (off := 27) (tgt := 28) hx hb zd_Formula_strengthOf_1 (by rw [hs3]; decide) (by rw [hs3]; decide) (by rw [hs3]; decide) (by decide) ?_
    refine lv_iconst (v := 0) hx hb zd_Formula_strengthOf_28 (by decide) ?_
    exact (z_iret (u := (I, J, B, D)) hx hb hr hlocks rfl hw (List.range 65) wX_all wX_nd hok (Nat.le_of_ble_eq_true rfl) (Nat.le_of_ble_eq_true rfl) zd_Formula_strengthOf_29)
  have hok := hok.2.2.2 hs1 hs2 hs3
  refine lv_tableOut (tgt := 34) hx hb zd_Formula_strengthOf_1 (by have h0 := lv_neT hs1 (a := 1) (by decide); have h1 := lv_neT hs2 (a := 2) (by decide); have h2 := lv_neT hs3 (a := 3) (by decide); omega) (by decide) ?_
  refine lv_iconst (v := 3) hx hb zd_Formula_strengthOf_34 (by decide) ?_
  exact (z_iret (u := (I, J, B, D)) hx hb hr hlocks rfl hw (List.range 65) wX_all wX_nd hok (Nat.le_of_ble_eq_true rfl) (Nat.le_of_ble_eq_true rfl) zd_Formula_strengthOf_35)
def wc_Formula_goDeeper_13 (a0 : Int32) (Post : (Nat → Int32) → (Nat → Int64) → (Nat → Nat → Int32) → (Nat → Nat → Int64) → Prop) (PX : String → (Nat → Int32) → (Nat → Int64) → (Nat → Nat → Int32) → (Nat → Nat → Int64) → Prop)  (I : Nat → Int32) (J : Nat → Int64) (B : Nat → Nat → Int32) (D : Nat → Nat → Int64) : Prop :=
  wp_Text_skip I J B D  (fun I1 J1 B1 D1 => Post I1 J1 B1 D1)
def wp_Formula_goDeeper (I : Nat → Int32) (J : Nat → Int64) (B : Nat → Nat → Int32) (D : Nat → Nat → Int64) (a0 : Int32) (Post : (Nat → Int32) → (Nat → Int64) → (Nat → Nat → Int32) → (Nat → Nat → Int64) → Prop) (PX : String → (Nat → Int32) → (Nat → Int64) → (Nat → Nat → Int32) → (Nat → Nat → Int64) → Prop) : Prop :=
  ((a0 < 8 → wc_Formula_goDeeper_13 a0 Post PX I J B D) ∧ (¬ a0 < 8 → wp_Text_refuse I J B D  (fun I3 J3 B3 D3 => wc_Formula_goDeeper_13 a0 Post PX I3 J3 B3 D3) PX))
set_option maxHeartbeats 8000000 in
set_option maxRecDepth 100000 in
theorem wJ_Formula_goDeeper_13 {p : Program} {l : Launch} {e : Env} {s : State} {m : MethodId} {below : List Frame} {meth : Method} {c : Code} {A : Nat → Prop} (G : va_G) (K : Nat → ClassId) (ad : Nat → Nat) (sv : Value) (a0 : Int32) (Post : (Nat → Int32) → (Nat → Int64) → (Nat → Nat → Int32) → (Nat → Nat → Int64) → Prop) (PX : String → (Nat → Int32) → (Nat → Int64) → (Nat → Nat → Int32) → (Nat → Nat → Int64) → Prop) (C : zCy p l s m ([.ref (ad 9), .int a0] : List Value).toArray meth c A G K prog_2_method_10_code none 2 "LassoFinder$Formula") : ∀  (I : Nat → Int32) (J : Nat → Int64) (B : Nat → Nat → Int32) (D : Nat → Nat → Int64) (ls : Array Slot) (H : Heap) (locs : List Loc), wc_Formula_goDeeper_13 a0 Post PX  I J B D → lv_has ls 2 [(0, .ref (ad 9))] → zW G A s.heap (wX ad K sv I J B D) H locs → W p l e { frames := 7, cells := 1, slots := 6, locals := 101 } s m ([.ref (ad 9), .int a0] : List Value).toArray below meth c H locs 0 0 (zyMQ below (va_Qv (fun u : zS => Post u.1 u.2.1 u.2.2.1 u.2.2.2) (fun u t => zPost G K A (wX ad K sv u.1 u.2.1 u.2.2.1 u.2.2.2) t) A) (zYC (fun E (u : zS) => PX E u.1 u.2.1 u.2.2.1 u.2.2.2) (fun u => wX ad K sv u.1 u.2.1 u.2.2.1 u.2.2.2) G K A) ([.ref (ad 9), .int a0] : List Value).toArray s 1 6 A) (F0 m 13 ls []) := by
  obtain ⟨hx, hb, hr, hml, hts, hown, hlocks, hA, hK, hT, hnt, hlt⟩ := id C
  intro  I J B D ls H locs hok hl hw
  unfold wc_Formula_goDeeper_13 at hok
  refine lv_aload_n hx hb zd_Formula_goDeeper_13 rfl (lv_at hl 0 rfl) ?_
  refine z_get (v := .ref (ad 1)) hx hb hts hown hK hw zZ1 9 wX_g9 0 (by decide) zn_468 rfl zd_Formula_goDeeper_14 ?_
  refine z_callv (w1 := fun (u : zS) => wX ad K sv u.1 u.2.1 u.2.2.1 u.2.2.2) (wr := []) (z_runV (q0 := 1) (wc := (wX ad K sv I J B D)) (As := []) (rest := []) ⟨hx, hb, hml, hown, hts⟩ (w_Text_skip l G K ad sv I J B D  _ H.size hok) zf_Text_skip zn_454 ⟨Nat.le_of_ble_eq_true rfl, Nat.le_of_ble_eq_true rfl⟩ hK hw (List.range 65) wX_all wX_nd wX_g1 rfl rfl hl.1 rfl (Nat.le_of_ble_eq_true rfl) zd_Formula_goDeeper_17 ⟨Nat.le_of_ble_eq_true rfl, Nat.le_of_ble_eq_true rfl⟩) hw hA (List.range 65) [] wX_all rfl (by decide) (fun i hi => by cases hi) (fun u H locs hok hw => ?_)
  obtain ⟨I1, J1, B1, D1⟩ := u
  dsimp only at hok
  have hw : zW G A s.heap (wX ad K sv I1 J1 B1 D1) H locs := hw
  exact zy_ret (z_vret (u := (I1, J1, B1, D1)) hx hb hr hlocks hw (List.range 65) wX_all wX_nd hok (Nat.le_of_ble_eq_true rfl) (Nat.le_of_ble_eq_true rfl) zd_Formula_goDeeper_20)
set_option maxHeartbeats 8000000 in
set_option maxRecDepth 100000 in
theorem w_Formula_goDeeper (l : Launch) (hlt : l.stackTraces = false) (G : va_G) (K : Nat → ClassId) (ad : Nat → Nat) (sv : Value) (I : Nat → Int32) (J : Nat → Int64) (B : Nat → Nat → Int32) (D : Nat → Nat → Int64) (a0 : Int32) (Post : (Nat → Int32) → (Nat → Int64) → (Nat → Nat → Int32) → (Nat → Nat → Int64) → Prop) (PX : String → (Nat → Int32) → (Nat → Int64) → (Nat → Nat → Int32) → (Nat → Nat → Int64) → Prop) (sz : Nat) (hok : wp_Formula_goDeeper I J B D a0 Post PX) : zyMet l zy_Formula_goDeeper (Cond.code zy_Formula_goDeeper prog_2_method_10_code 2 none :: zTB) { frames := 7, cells := 1, slots := 6, locals := 101 } (va_Pc [.ref (ad 9), .int a0] (zPreX G K (wX ad K sv I J B D) sz)) (va_Qv (fun u : zS => Post u.1 u.2.1 u.2.2.1 u.2.2.2) (fun u t => zPost G K (va_A (wX ad K sv I J B D) sz) (wX ad K sv u.1 u.2.1 u.2.2.1 u.2.2.2) t) (va_A (wX ad K sv I J B D) sz)) (zYC (fun E (u : zS) => PX E u.1 u.2.1 u.2.2.1 u.2.2.2) (fun u => wX ad K sv u.1 u.2.1 u.2.2.1 u.2.2.2) G K (va_A (wX ad K sv I J B D) sz)) 1 6 (va_A (wX ad K sv I J B D) sz) := by
  refine zMetY (y := zy_Formula_goDeeper) (av := [.ref (ad 9), .int a0]) (maxL := 2) (cc := prog_2_method_10_code) (ret := none) (W0 := (wX ad K sv I J B D)) (sz := sz) (G := G) (K := K) (wt := zTB) (mc := 1) (ms := 6) (Qf := fun A => va_Qv (fun u : zS => Post u.1 u.2.1 u.2.2.1 u.2.2.2) (fun u t => zPost G K A (wX ad K sv u.1 u.2.1 u.2.2.1 u.2.2.2) t) A) (Xf := fun A => (zYC (fun E (u : zS) => PX E u.1 u.2.1 u.2.2.1 u.2.2.2) (fun u => wX ad K sv u.1 u.2.1 u.2.2.1 u.2.2.2) G K A)) (by decide) (Nat.le_of_ble_eq_true rfl) ?_
  intro p e s m below meth c ls A hx hb hr hml hts hown hlocks hin hA hK H locs hw hsz hl hT hnt
  clear hsz
  have hown : s.vm.findClass "LassoFinder$Formula" = some m.cls := hown
  have C : zCy p l s m ([.ref (ad 9), .int a0] : List Value).toArray meth c A G K prog_2_method_10_code none 2 "LassoFinder$Formula" := ⟨hx, hb, hr, hml, hts, hown, hlocks, hA, hK, hT, hnt, hlt⟩
  have hl : lv_has ls 2 [(0, .ref (ad 9)), (1, .int a0)] := hl
  have hw : zW G A s.heap (wX ad K sv I J B D) H locs := hw
  unfold wp_Formula_goDeeper at hok
  refine lv_iload_n hx hb zd_Formula_goDeeper_0 rfl (lv_at hl 1 rfl) ?_
  refine lv_bipush (v := 8) hx hb zd_Formula_goDeeper_1 (by decide) ?_
  refine lv_icmp_lt (tgt := 13) hx hb zd_Formula_goDeeper_3 (by decide) (fun hc2 => ?_) (fun hc2 => ?_)
  · have hok := hok.1 hc2
    exact wJ_Formula_goDeeper_13 G K ad sv a0 Post PX C I J B D ls H locs hok (lv_sub hl [0] rfl) hw
  · have hok := hok.2 hc2
    refine lv_aload_n hx hb zd_Formula_goDeeper_6 rfl (lv_at hl 0 rfl) ?_
    refine z_get (v := .ref (ad 1)) hx hb hts hown hK hw zZ1 9 wX_g9 0 (by decide) zn_468 rfl zd_Formula_goDeeper_7 ?_
    refine z_yV (q0 := 1) (wc := (wX ad K sv I J B D)) (wr := []) (w1 := fun (u : zS) => wX ad K sv u.1 u.2.1 u.2.2.1 u.2.2.2) (As := []) (rest := []) ⟨hx, hb, hml, hown, hts⟩ (w_Text_refuse l hlt G K ad sv I J B D  _ _ H.size hok) zf_Text_refuse zn_453 ⟨Nat.le_of_ble_eq_true rfl, Nat.le_of_ble_eq_true rfl⟩ hK hT hw hA (List.range 65) [] wX_all rfl wX_nd (by decide) (fun i hi => by cases hi) wX_g1 rfl rfl hl.1 rfl (Nat.le_of_ble_eq_true rfl) zd_Formula_goDeeper_10 ⟨Nat.le_of_ble_eq_true rfl, Nat.le_of_ble_eq_true rfl⟩ (fun v st9 t9 L9 h0 hq hL => ?_) (fun E ce q9 u H locs hu hw hce hcv hcl => z_yout (u := u) hnt hlocks hce hcv hcl hw (List.range 65) wX_all wX_nd hu (Nat.le_of_ble_eq_true rfl) (Nat.le_of_ble_eq_true rfl))
    obtain ⟨⟨u, hv9, hok, hB9⟩, hF9⟩ := hq
    cases hv9
    have hw := z_back (wr := []) hw hA (List.range 65) [] wX_all rfl (by decide) (fun i hi => by cases hi) h0 hL hB9 hF9
    obtain ⟨I3, J3, B3, D3⟩ := u
    dsimp only at hok
    generalize t9.heap = H at hw ⊢
    generalize locs ++ L9 = locs at hw ⊢
    have hw : zW G A s.heap (wX ad K sv I3 J3 B3 D3) H locs := hw
    refine W.eq (g2 := F0 m 13 ls []) rfl ?_
    exact wJ_Formula_goDeeper_13 G K ad sv a0 Post PX C I3 J3 B3 D3 ls H locs hok (lv_sub hl [0] rfl) hw
def wp_Formula_add (I : Nat → Int32) (J : Nat → Int64) (B : Nat → Nat → Int32) (D : Nat → Nat → Int64) (a0 : Int32) (a1 : Int32) (a2 : Int32) (Post : Int32 → (Nat → Int32) → (Nat → Int64) → (Nat → Nat → Int32) → (Nat → Nat → Int64) → Prop) : Prop :=
  vp_in (I 22) 240 ∧ vp_in (I 22) 240 ∧ vp_in (I 22) 240 ∧ ∀ z1 : Int32, z1 = ((I 22) + 1) → ∀ z2 : Int32, z2 = (z1 - 1) → Post z2 (upd I 22 z1) J (va_up (va_up (va_up B 39 (upd (B 39) (I 22).toNatClampNeg a0)) 40 (upd (B 40) (I 22).toNatClampNeg a1)) 41 (upd (B 41) (I 22).toNatClampNeg a2)) D
set_option maxHeartbeats 8000000 in
set_option maxRecDepth 100000 in
theorem w_Formula_add (l : Launch) (G : va_G) (K : Nat → ClassId) (ad : Nat → Nat) (sv : Value) (I : Nat → Int32) (J : Nat → Int64) (B : Nat → Nat → Int32) (D : Nat → Nat → Int64) (a0 : Int32) (a1 : Int32) (a2 : Int32) (Post : Int32 → (Nat → Int32) → (Nat → Int64) → (Nat → Nat → Int32) → (Nat → Nat → Int64) → Prop) (sz : Nat) (hok : wp_Formula_add I J B D a0 a1 a2 Post) : Met l zy_Formula_add (Cond.code zy_Formula_add prog_2_method_13_code 4 (some .int) :: zTB) { frames := 0, cells := 0, slots := 0, locals := 0 } (va_Pc [.ref (ad 9), .int a0, .int a1, .int a2] (zPre G K (wX ad K sv I J B D) sz)) (va_Qi (fun (r : Int32) (u : zS) => Post r u.1 u.2.1 u.2.2.1 u.2.2.2) (fun u t => zPost G K (va_A (wX ad K sv I J B D) sz) (wX ad K sv u.1 u.2.1 u.2.2.1 u.2.2.2) t) (va_A (wX ad K sv I J B D) sz)) 0 0 (va_A (wX ad K sv I J B D) sz) := by
  refine zMet (y := zy_Formula_add) (av := [.ref (ad 9), .int a0, .int a1, .int a2]) (maxL := 4) (cc := prog_2_method_13_code) (ret := (some .int)) (W0 := (wX ad K sv I J B D)) (sz := sz) (G := G) (K := K) (wt := zTB) (mc := 0) (ms := 0) (Qf := fun A => va_Qi (fun (r : Int32) (u : zS) => Post r u.1 u.2.1 u.2.2.1 u.2.2.2) (fun u t => zPost G K A (wX ad K sv u.1 u.2.1 u.2.2.1 u.2.2.2) t) A) (by decide) (Nat.le_of_ble_eq_true rfl) ?_
  intro p e s m below meth c ls A hx hb hr hml hts hown hlocks hin hA hK H locs hw hsz hl
  clear hsz
  have hown : s.vm.findClass "LassoFinder$Formula" = some m.cls := hown
  have C : zCx p s m ([.ref (ad 9), .int a0, .int a1, .int a2] : List Value).toArray meth c A G K prog_2_method_13_code (some .int) 4 "LassoFinder$Formula" := ⟨hx, hb, hr, hml, hts, hown, hlocks, hA, hK⟩
  have hl : lv_has ls 4 [(0, .ref (ad 9)), (1, .int a0), (2, .int a1), (3, .int a2)] := hl
  have hw : zW G A s.heap (wX ad K sv I J B D) H locs := hw
  unfold wp_Formula_add at hok
  refine lv_aload_n hx hb zd_Formula_add_0 rfl (lv_at hl 0 rfl) ?_
  refine z_get (v := .ref (ad 54)) hx hb hts hown hK hw zZ1 9 wX_g9 3 (by decide) zn_277 rfl zd_Formula_add_1 ?_
  refine lv_aload_n hx hb zd_Formula_add_4 rfl (lv_at hl 0 rfl) ?_
  refine z_get (v := .int (I 22)) hx hb hts hown hK hw zZ1 9 wX_g9 8 (by decide) zn_469 rfl zd_Formula_add_5 ?_
  refine lv_iload_n hx hb zd_Formula_add_8 rfl (lv_at hl 1 rfl) ?_
  refine va_iast (f := (B 39)) hx hb hK hw.1 hw.2.1 hw.2.2 54 0 wX_a54 rfl hok.1 zd_Formula_add_9 (fun H locs w91 w92 w93 => ?_)
  have hok := hok.2
  have hw := wX_t54 ⟨w91, w92, w93⟩
  refine lv_aload_n hx hb zd_Formula_add_10 rfl (lv_at hl 0 rfl) ?_
  refine z_get (v := .ref (ad 55)) hx hb hts hown hK hw zZ1 9 wX_g9 4 (by decide) zn_278 rfl zd_Formula_add_11 ?_
  refine lv_aload_n hx hb zd_Formula_add_14 rfl (lv_at hl 0 rfl) ?_
  refine z_get (v := .int (I 22)) hx hb hts hown hK hw zZ1 9 wX_g9 8 (by decide) zn_469 rfl zd_Formula_add_15 ?_
  refine lv_iload_n hx hb zd_Formula_add_18 rfl (lv_at hl 2 rfl) ?_
  refine va_iast (f := (B 40)) hx hb hK hw.1 hw.2.1 hw.2.2 55 0 wX_a55 rfl hok.1 zd_Formula_add_19 (fun H locs w91 w92 w93 => ?_)
  have hok := hok.2
  have hw := wX_t55 ⟨w91, w92, w93⟩
  refine lv_aload_n hx hb zd_Formula_add_20 rfl (lv_at hl 0 rfl) ?_
  refine z_get (v := .ref (ad 56)) hx hb hts hown hK hw zZ1 9 wX_g9 5 (by decide) zn_279 rfl zd_Formula_add_21 ?_
  refine lv_aload_n hx hb zd_Formula_add_24 rfl (lv_at hl 0 rfl) ?_
  refine z_get (v := .int (I 22)) hx hb hts hown hK hw zZ1 9 wX_g9 8 (by decide) zn_469 rfl zd_Formula_add_25 ?_
  refine lv_iload_n hx hb zd_Formula_add_28 rfl (lv_at hl 3 rfl) ?_
  refine va_iast (f := (B 41)) hx hb hK hw.1 hw.2.1 hw.2.2 56 0 wX_a56 rfl hok.1 zd_Formula_add_29 (fun H locs w91 w92 w93 => ?_)
  have hok := hok.2
  have hw := wX_t56 ⟨w91, w92, w93⟩
  refine lv_aload_n hx hb zd_Formula_add_30 rfl (lv_at hl 0 rfl) ?_
  refine lv_dup hx hb zd_Formula_add_31 rfl ?_
  refine z_get (v := .int (I 22)) hx hb hts hown hK hw zZ1 9 wX_g9 8 (by decide) zn_469 rfl zd_Formula_add_32 ?_
  refine lv_iconst (v := 1) hx hb zd_Formula_add_35 (by decide) ?_
  refine lv_iadd hx hb zd_Formula_add_36 ?_
  refine lv_topi (fun z1 ez1 => ?_)
  have hok := hok z1 ez1
  refine z_put (v := .int z1) hx hb hts hown hK hw zZ1 9 wX_g9 8 (by decide) zn_469 rfl rfl rfl (Nat.le_of_ble_eq_true rfl) zd_Formula_add_37 (fun H locs hw => ?_)
  have hw := wX_sI22 hw
  refine lv_aload_n hx hb zd_Formula_add_40 rfl (lv_at hl 0 rfl) ?_
  refine z_get (v := .int z1) hx hb hts hown hK hw zZ1 9 wX_g9 8 (by decide) zn_469 rfl zd_Formula_add_41 ?_
  refine lv_iconst (v := 1) hx hb zd_Formula_add_44 (by decide) ?_
  refine lv_isub hx hb zd_Formula_add_45 ?_
  refine lv_topi (fun z2 ez2 => ?_)
  have hok := hok z2 ez2
  exact (z_iret (u := ((upd I 22 z1), J, (va_up (va_up (va_up B 39 (upd (B 39) (I 22).toNatClampNeg a0)) 40 (upd (B 40) (I 22).toNatClampNeg a1)) 41 (upd (B 41) (I 22).toNatClampNeg a2)), D)) hx hb hr hlocks rfl hw (List.range 65) wX_all wX_nd hok (Nat.le_of_ble_eq_true rfl) (Nat.le_of_ble_eq_true rfl) zd_Formula_add_46)
def wc_Formula_meetTemporal_15 (a0 : Int32) (Post : (Nat → Int32) → (Nat → Int64) → (Nat → Nat → Int32) → (Nat → Nat → Int64) → Prop) (PX : String → (Nat → Int32) → (Nat → Int64) → (Nat → Nat → Int32) → (Nat → Nat → Int64) → Prop) (x1 : Int32) (I : Nat → Int32) (J : Nat → Int64) (B : Nat → Nat → Int32) (D : Nat → Nat → Int64) : Prop :=
  ∀ z1 : Int32, z1 = ((I 23) + 1) → wp_Formula_goDeeper (upd I 23 z1) J B D x1 (fun I2 J2 B2 D2 => Post I2 J2 B2 D2) PX
def wp_Formula_meetTemporal (I : Nat → Int32) (J : Nat → Int64) (B : Nat → Nat → Int32) (D : Nat → Nat → Int64) (a0 : Int32) (Post : (Nat → Int32) → (Nat → Int64) → (Nat → Nat → Int32) → (Nat → Nat → Int64) → Prop) (PX : String → (Nat → Int32) → (Nat → Int64) → (Nat → Nat → Int32) → (Nat → Nat → Int64) → Prop) : Prop :=
  ((¬ (I 23) = 3 → wc_Formula_meetTemporal_15 a0 Post PX a0 I J B D) ∧ ((I 23) = 3 → wp_Text_refuse I J B D  (fun I4 J4 B4 D4 => wc_Formula_meetTemporal_15 a0 Post PX a0 I4 J4 B4 D4) PX))
set_option maxHeartbeats 8000000 in
set_option maxRecDepth 100000 in
theorem wJ_Formula_meetTemporal_15 {p : Program} {l : Launch} {e : Env} {s : State} {m : MethodId} {below : List Frame} {meth : Method} {c : Code} {A : Nat → Prop} (G : va_G) (K : Nat → ClassId) (ad : Nat → Nat) (sv : Value) (a0 : Int32) (Post : (Nat → Int32) → (Nat → Int64) → (Nat → Nat → Int32) → (Nat → Nat → Int64) → Prop) (PX : String → (Nat → Int32) → (Nat → Int64) → (Nat → Nat → Int32) → (Nat → Nat → Int64) → Prop) (C : zCy p l s m ([.ref (ad 9), .int a0] : List Value).toArray meth c A G K prog_2_method_11_code none 2 "LassoFinder$Formula") : ∀ (x1 : Int32) (I : Nat → Int32) (J : Nat → Int64) (B : Nat → Nat → Int32) (D : Nat → Nat → Int64) (ls : Array Slot) (H : Heap) (locs : List Loc), wc_Formula_meetTemporal_15 a0 Post PX x1 I J B D → lv_has ls 2 [(0, .ref (ad 9)), (1, .int x1)] → zW G A s.heap (wX ad K sv I J B D) H locs → W p l e { frames := 8, cells := 1, slots := 6, locals := 122 } s m ([.ref (ad 9), .int a0] : List Value).toArray below meth c H locs 0 0 (zyMQ below (va_Qv (fun u : zS => Post u.1 u.2.1 u.2.2.1 u.2.2.2) (fun u t => zPost G K A (wX ad K sv u.1 u.2.1 u.2.2.1 u.2.2.2) t) A) (zYC (fun E (u : zS) => PX E u.1 u.2.1 u.2.2.1 u.2.2.2) (fun u => wX ad K sv u.1 u.2.1 u.2.2.1 u.2.2.2) G K A) ([.ref (ad 9), .int a0] : List Value).toArray s 1 6 A) (F0 m 15 ls []) := by
  obtain ⟨hx, hb, hr, hml, hts, hown, hlocks, hA, hK, hT, hnt, hlt⟩ := id C
  intro x1 I J B D ls H locs hok hl hw
  unfold wc_Formula_meetTemporal_15 at hok
  refine lv_aload_n hx hb zd_Formula_meetTemporal_15 rfl (lv_at hl 0 rfl) ?_
  refine lv_dup hx hb zd_Formula_meetTemporal_16 rfl ?_
  refine z_get (v := .int (I 23)) hx hb hts hown hK hw zZ1 9 wX_g9 9 (by decide) zn_471 rfl zd_Formula_meetTemporal_17 ?_
  refine lv_iconst (v := 1) hx hb zd_Formula_meetTemporal_20 (by decide) ?_
  refine lv_iadd hx hb zd_Formula_meetTemporal_21 ?_
  refine lv_topi (fun z1 ez1 => ?_)
  have hok := hok z1 ez1
  refine z_put (v := .int z1) hx hb hts hown hK hw zZ1 9 wX_g9 9 (by decide) zn_471 rfl rfl rfl (Nat.le_of_ble_eq_true rfl) zd_Formula_meetTemporal_22 (fun H locs hw => ?_)
  have hw := wX_sI23 hw
  refine lv_aload_n hx hb zd_Formula_meetTemporal_25 rfl (lv_at hl 0 rfl) ?_
  refine lv_iload_n hx hb zd_Formula_meetTemporal_26 rfl (lv_at hl 1 rfl) ?_
  refine z_yV (q0 := 9) (wc := (wX ad K sv (upd I 23 z1) J B D)) (wr := []) (w1 := fun (u : zS) => wX ad K sv u.1 u.2.1 u.2.2.1 u.2.2.2) (As := [.int x1]) (rest := []) ⟨hx, hb, hml, hown, hts⟩ (w_Formula_goDeeper l hlt G K ad sv (upd I 23 z1) J B D x1 _ _ H.size hok) zf_Formula_goDeeper zn_452 ⟨Nat.le_of_ble_eq_true rfl, Nat.le_of_ble_eq_true rfl⟩ hK hT hw hA (List.range 65) [] wX_all rfl wX_nd (by decide) (fun i hi => by cases hi) wX_g9 rfl rfl hl.1 rfl (Nat.le_of_ble_eq_true rfl) zd_Formula_meetTemporal_27 ⟨Nat.le_of_ble_eq_true rfl, Nat.le_of_ble_eq_true rfl⟩ (fun v st9 t9 L9 h0 hq hL => ?_) (fun E ce q9 u H locs hu hw hce hcv hcl => z_yout (u := u) hnt hlocks hce hcv hcl hw (List.range 65) wX_all wX_nd hu (Nat.le_of_ble_eq_true rfl) (Nat.le_of_ble_eq_true rfl))
  obtain ⟨⟨u, hv9, hok, hB9⟩, hF9⟩ := hq
  cases hv9
  have hw := z_back (wr := []) hw hA (List.range 65) [] wX_all rfl (by decide) (fun i hi => by cases hi) h0 hL hB9 hF9
  obtain ⟨I2, J2, B2, D2⟩ := u
  dsimp only at hok
  generalize t9.heap = H at hw ⊢
  generalize locs ++ L9 = locs at hw ⊢
  have hw : zW G A s.heap (wX ad K sv I2 J2 B2 D2) H locs := hw
  refine W.eq (g2 := F0 m 30 ls []) rfl ?_
  exact zy_ret (z_vret (u := (I2, J2, B2, D2)) hx hb hr hlocks hw (List.range 65) wX_all wX_nd hok (Nat.le_of_ble_eq_true rfl) (Nat.le_of_ble_eq_true rfl) zd_Formula_meetTemporal_30)
set_option maxHeartbeats 8000000 in
set_option maxRecDepth 100000 in
theorem w_Formula_meetTemporal (l : Launch) (hlt : l.stackTraces = false) (G : va_G) (K : Nat → ClassId) (ad : Nat → Nat) (sv : Value) (I : Nat → Int32) (J : Nat → Int64) (B : Nat → Nat → Int32) (D : Nat → Nat → Int64) (a0 : Int32) (Post : (Nat → Int32) → (Nat → Int64) → (Nat → Nat → Int32) → (Nat → Nat → Int64) → Prop) (PX : String → (Nat → Int32) → (Nat → Int64) → (Nat → Nat → Int32) → (Nat → Nat → Int64) → Prop) (sz : Nat) (hok : wp_Formula_meetTemporal I J B D a0 Post PX) : zyMet l zy_Formula_meetTemporal (Cond.code zy_Formula_meetTemporal prog_2_method_11_code 2 none :: zTB) { frames := 8, cells := 1, slots := 6, locals := 122 } (va_Pc [.ref (ad 9), .int a0] (zPreX G K (wX ad K sv I J B D) sz)) (va_Qv (fun u : zS => Post u.1 u.2.1 u.2.2.1 u.2.2.2) (fun u t => zPost G K (va_A (wX ad K sv I J B D) sz) (wX ad K sv u.1 u.2.1 u.2.2.1 u.2.2.2) t) (va_A (wX ad K sv I J B D) sz)) (zYC (fun E (u : zS) => PX E u.1 u.2.1 u.2.2.1 u.2.2.2) (fun u => wX ad K sv u.1 u.2.1 u.2.2.1 u.2.2.2) G K (va_A (wX ad K sv I J B D) sz)) 1 6 (va_A (wX ad K sv I J B D) sz) := by
  refine zMetY (y := zy_Formula_meetTemporal) (av := [.ref (ad 9), .int a0]) (maxL := 2) (cc := prog_2_method_11_code) (ret := none) (W0 := (wX ad K sv I J B D)) (sz := sz) (G := G) (K := K) (wt := zTB) (mc := 1) (ms := 6) (Qf := fun A => va_Qv (fun u : zS => Post u.1 u.2.1 u.2.2.1 u.2.2.2) (fun u t => zPost G K A (wX ad K sv u.1 u.2.1 u.2.2.1 u.2.2.2) t) A) (Xf := fun A => (zYC (fun E (u : zS) => PX E u.1 u.2.1 u.2.2.1 u.2.2.2) (fun u => wX ad K sv u.1 u.2.1 u.2.2.1 u.2.2.2) G K A)) (by decide) (Nat.le_of_ble_eq_true rfl) ?_
  intro p e s m below meth c ls A hx hb hr hml hts hown hlocks hin hA hK H locs hw hsz hl hT hnt
  clear hsz
  have hown : s.vm.findClass "LassoFinder$Formula" = some m.cls := hown
  have C : zCy p l s m ([.ref (ad 9), .int a0] : List Value).toArray meth c A G K prog_2_method_11_code none 2 "LassoFinder$Formula" := ⟨hx, hb, hr, hml, hts, hown, hlocks, hA, hK, hT, hnt, hlt⟩
  have hl : lv_has ls 2 [(0, .ref (ad 9)), (1, .int a0)] := hl
  have hw : zW G A s.heap (wX ad K sv I J B D) H locs := hw
  unfold wp_Formula_meetTemporal at hok
  refine lv_aload_n hx hb zd_Formula_meetTemporal_0 rfl (lv_at hl 0 rfl) ?_
  refine z_get (v := .int (I 23)) hx hb hts hown hK hw zZ1 9 wX_g9 9 (by decide) zn_471 rfl zd_Formula_meetTemporal_1 ?_
  refine lv_iconst (v := 3) hx hb zd_Formula_meetTemporal_4 (by decide) ?_
  refine lv_icmp_ne (tgt := 15) hx hb zd_Formula_meetTemporal_5 (by decide) (fun hc3 => ?_) (fun hc3 => ?_)
  · have hok := hok.1 hc3
    exact wJ_Formula_meetTemporal_15 G K ad sv a0 Post PX C a0 I J B D ls H locs hok (lv_sub hl [0, 1] rfl) hw
  · have hok := hok.2 hc3
    refine lv_aload_n hx hb zd_Formula_meetTemporal_8 rfl (lv_at hl 0 rfl) ?_
    refine z_get (v := .ref (ad 1)) hx hb hts hown hK hw zZ1 9 wX_g9 0 (by decide) zn_468 rfl zd_Formula_meetTemporal_9 ?_
    refine z_yV (q0 := 1) (wc := (wX ad K sv I J B D)) (wr := []) (w1 := fun (u : zS) => wX ad K sv u.1 u.2.1 u.2.2.1 u.2.2.2) (As := []) (rest := []) ⟨hx, hb, hml, hown, hts⟩ (w_Text_refuse l hlt G K ad sv I J B D  _ _ H.size hok) zf_Text_refuse zn_453 ⟨Nat.le_of_ble_eq_true rfl, Nat.le_of_ble_eq_true rfl⟩ hK hT hw hA (List.range 65) [] wX_all rfl wX_nd (by decide) (fun i hi => by cases hi) wX_g1 rfl rfl hl.1 rfl (Nat.le_of_ble_eq_true rfl) zd_Formula_meetTemporal_12 ⟨Nat.le_of_ble_eq_true rfl, Nat.le_of_ble_eq_true rfl⟩ (fun v st9 t9 L9 h0 hq hL => ?_) (fun E ce q9 u H locs hu hw hce hcv hcl => z_yout (u := u) hnt hlocks hce hcv hcl hw (List.range 65) wX_all wX_nd hu (Nat.le_of_ble_eq_true rfl) (Nat.le_of_ble_eq_true rfl))
    obtain ⟨⟨u, hv9, hok, hB9⟩, hF9⟩ := hq
    cases hv9
    have hw := z_back (wr := []) hw hA (List.range 65) [] wX_all rfl (by decide) (fun i hi => by cases hi) h0 hL hB9 hF9
    obtain ⟨I4, J4, B4, D4⟩ := u
    dsimp only at hok
    generalize t9.heap = H at hw ⊢
    generalize locs ++ L9 = locs at hw ⊢
    have hw : zW G A s.heap (wX ad K sv I4 J4 B4 D4) H locs := hw
    refine W.eq (g2 := F0 m 15 ls []) rfl ?_
    exact wJ_Formula_meetTemporal_15 G K ad sv a0 Post PX C a0 I4 J4 B4 D4 ls H locs hok (lv_sub hl [0, 1] rfl) hw
def wp_Formula_addTemporal (I : Nat → Int32) (J : Nat → Int64) (B : Nat → Nat → Int32) (D : Nat → Nat → Int64) (a0 : Int32) (a1 : Int32) (a2 : Int32) (Post : Int32 → (Nat → Int32) → (Nat → Int64) → (Nat → Nat → Int32) → (Nat → Nat → Int64) → Prop) : Prop :=
  wp_Formula_add I J B D a0 a1 a2 (fun r1 I1 J1 B1 D1 => vp_in (I1 21) 3 ∧ ∀ z2 : Int32, z2 = ((I1 21) + 1) → Post r1 (upd I1 21 z2) J1 (va_up B1 42 (upd (B1 42) (I1 21).toNatClampNeg r1)) D1)
set_option maxHeartbeats 8000000 in
set_option maxRecDepth 100000 in
theorem w_Formula_addTemporal (l : Launch) (G : va_G) (K : Nat → ClassId) (ad : Nat → Nat) (sv : Value) (I : Nat → Int32) (J : Nat → Int64) (B : Nat → Nat → Int32) (D : Nat → Nat → Int64) (a0 : Int32) (a1 : Int32) (a2 : Int32) (Post : Int32 → (Nat → Int32) → (Nat → Int64) → (Nat → Nat → Int32) → (Nat → Nat → Int64) → Prop) (sz : Nat) (hok : wp_Formula_addTemporal I J B D a0 a1 a2 Post) : Met l zy_Formula_addTemporal (Cond.code zy_Formula_addTemporal prog_2_method_12_code 5 (some .int) :: zTB) { frames := 1, cells := 0, slots := 0, locals := 23 } (va_Pc [.ref (ad 9), .int a0, .int a1, .int a2] (zPre G K (wX ad K sv I J B D) sz)) (va_Qi (fun (r : Int32) (u : zS) => Post r u.1 u.2.1 u.2.2.1 u.2.2.2) (fun u t => zPost G K (va_A (wX ad K sv I J B D) sz) (wX ad K sv u.1 u.2.1 u.2.2.1 u.2.2.2) t) (va_A (wX ad K sv I J B D) sz)) 0 0 (va_A (wX ad K sv I J B D) sz) := by
  refine zMet (y := zy_Formula_addTemporal) (av := [.ref (ad 9), .int a0, .int a1, .int a2]) (maxL := 5) (cc := prog_2_method_12_code) (ret := (some .int)) (W0 := (wX ad K sv I J B D)) (sz := sz) (G := G) (K := K) (wt := zTB) (mc := 0) (ms := 0) (Qf := fun A => va_Qi (fun (r : Int32) (u : zS) => Post r u.1 u.2.1 u.2.2.1 u.2.2.2) (fun u t => zPost G K A (wX ad K sv u.1 u.2.1 u.2.2.1 u.2.2.2) t) A) (by decide) (Nat.le_of_ble_eq_true rfl) ?_
  intro p e s m below meth c ls A hx hb hr hml hts hown hlocks hin hA hK H locs hw hsz hl
  clear hsz
  have hown : s.vm.findClass "LassoFinder$Formula" = some m.cls := hown
  have C : zCx p s m ([.ref (ad 9), .int a0, .int a1, .int a2] : List Value).toArray meth c A G K prog_2_method_12_code (some .int) 5 "LassoFinder$Formula" := ⟨hx, hb, hr, hml, hts, hown, hlocks, hA, hK⟩
  have hl : lv_has ls 5 [(0, .ref (ad 9)), (1, .int a0), (2, .int a1), (3, .int a2)] := hl
  have hw : zW G A s.heap (wX ad K sv I J B D) H locs := hw
  unfold wp_Formula_addTemporal at hok
  refine lv_aload_n hx hb zd_Formula_addTemporal_0 rfl (lv_at hl 0 rfl) ?_
  refine lv_iload_n hx hb zd_Formula_addTemporal_1 rfl (lv_at hl 1 rfl) ?_
  refine lv_iload_n hx hb zd_Formula_addTemporal_2 rfl (lv_at hl 2 rfl) ?_
  refine lv_iload_n hx hb zd_Formula_addTemporal_3 rfl (lv_at hl 3 rfl) ?_
  refine z_calli (w1 := fun (u : zS) => wX ad K sv u.1 u.2.1 u.2.2.1 u.2.2.2) (wr := []) (z_runV (q0 := 9) (wc := (wX ad K sv I J B D)) (As := [.int a0, .int a1, .int a2]) (rest := []) ⟨hx, hb, hml, hown, hts⟩ (w_Formula_add l G K ad sv I J B D a0 a1 a2 _ H.size hok) zf_Formula_add zn_455 ⟨Nat.le_of_ble_eq_true rfl, Nat.le_of_ble_eq_true rfl⟩ hK hw (List.range 65) wX_all wX_nd wX_g9 rfl rfl hl.1 rfl (Nat.le_of_ble_eq_true rfl) zd_Formula_addTemporal_4 ⟨Nat.le_of_ble_eq_true rfl, Nat.le_of_ble_eq_true rfl⟩) hw hA (List.range 65) [] wX_all rfl (by decide) (fun i hi => by cases hi) (fun r1 u H locs hok hw => ?_)
  obtain ⟨I1, J1, B1, D1⟩ := u
  dsimp only at hok
  have hw : zW G A s.heap (wX ad K sv I1 J1 B1 D1) H locs := hw
  refine lv_istore hx hb zd_Formula_addTemporal_7 hl (by decide) rfl (fun ls hl => ?_)
  have hl : lv_has ls 5 [(4, .int r1), (0, .ref (ad 9)), (1, .int a0), (2, .int a1), (3, .int a2)] := hl
  refine lv_aload_n hx hb zd_Formula_addTemporal_9 rfl (lv_at hl 1 rfl) ?_
  refine z_get (v := .ref (ad 57)) hx hb hts hown hK hw zZ1 9 wX_g9 6 (by decide) zn_280 rfl zd_Formula_addTemporal_10 ?_
  refine lv_aload_n hx hb zd_Formula_addTemporal_13 rfl (lv_at hl 1 rfl) ?_
  refine z_get (v := .int (I1 21)) hx hb hts hown hK hw zZ1 9 wX_g9 7 (by decide) zn_470 rfl zd_Formula_addTemporal_14 ?_
  refine lv_iload hx hb zd_Formula_addTemporal_17 (lv_at hl 0 rfl) ?_
  refine va_iast (f := (B1 42)) hx hb hK hw.1 hw.2.1 hw.2.2 57 0 wX_a57 rfl hok.1 zd_Formula_addTemporal_19 (fun H locs w91 w92 w93 => ?_)
  have hok := hok.2
  have hw := wX_t57 ⟨w91, w92, w93⟩
  refine lv_aload_n hx hb zd_Formula_addTemporal_20 rfl (lv_at hl 1 rfl) ?_
  refine lv_dup hx hb zd_Formula_addTemporal_21 rfl ?_
  refine z_get (v := .int (I1 21)) hx hb hts hown hK hw zZ1 9 wX_g9 7 (by decide) zn_470 rfl zd_Formula_addTemporal_22 ?_
  refine lv_iconst (v := 1) hx hb zd_Formula_addTemporal_25 (by decide) ?_
  refine lv_iadd hx hb zd_Formula_addTemporal_26 ?_
  refine lv_topi (fun z2 ez2 => ?_)
  have hok := hok z2 ez2
  refine z_put (v := .int z2) hx hb hts hown hK hw zZ1 9 wX_g9 7 (by decide) zn_470 rfl rfl rfl (Nat.le_of_ble_eq_true rfl) zd_Formula_addTemporal_27 (fun H locs hw => ?_)
  have hw := wX_sI21 hw
  refine lv_iload hx hb zd_Formula_addTemporal_30 (lv_at hl 0 rfl) ?_
  exact (z_iret (u := ((upd I1 21 z2), J1, (va_up B1 42 (upd (B1 42) (I1 21).toNatClampNeg r1)), D1)) hx hb hr hlocks rfl hw (List.range 65) wX_all wX_nd hok (Nat.le_of_ble_eq_true rfl) (Nat.le_of_ble_eq_true rfl) zd_Formula_addTemporal_32)
def wc_Terms_reckon_ad43_B_109 (a0 : Int32) (Post : Int32 → (Nat → Int32) → (Nat → Int64) → (Nat → Nat → Int32) → (Nat → Nat → Int64) → Prop)  (I : Nat → Int32) (J : Nat → Int64) (B : Nat → Nat → Int32) (D : Nat → Nat → Int64) : Prop :=
  vp_in 0 13 ∧ ∀ z1 : Int32, z1 = ((B 45) (0 : Int32).toNatClampNeg) → Post z1 I J B D
def wc_Terms_reckon_ad43_B_103 (a0 : Int32) (K5 : Int32 → Int32 → (Nat → Int32) → (Nat → Int64) → (Nat → Nat → Int32) → (Nat → Nat → Int64) → Prop) (Post : Int32 → (Nat → Int32) → (Nat → Int64) → (Nat → Nat → Int32) → (Nat → Nat → Int64) → Prop) (x3 : Int32) (x4 : Int32) (I : Nat → Int32) (J : Nat → Int64) (B : Nat → Nat → Int32) (D : Nat → Nat → Int64) : Prop :=
  ∀ z2 : Int32, z2 = (x4 + 1) → K5 x3 z2 I J B D
def wc_Terms_reckon_ad43_B_99 (a0 : Int32) (K5 : Int32 → Int32 → (Nat → Int32) → (Nat → Int64) → (Nat → Nat → Int32) → (Nat → Nat → Int64) → Prop) (Post : Int32 → (Nat → Int32) → (Nat → Int64) → (Nat → Nat → Int32) → (Nat → Nat → Int64) → Prop) (x3 : Int32) (x4 : Int32) (y0 : Int32) (y1 : Int32) (I : Nat → Int32) (J : Nat → Int64) (B : Nat → Nat → Int32) (D : Nat → Nat → Int64) : Prop :=
  vp_in y1 13 ∧ ∀ z3 : Int32, z3 = (x3 + 1) → wc_Terms_reckon_ad43_B_103 a0 K5 Post z3 x4 I J (va_up B 45 (upd (B 45) y1.toNatClampNeg y0)) D
def wb_Terms_reckon_ad43_B_5 (a0 : Int32) (K5 : Int32 → Int32 → (Nat → Int32) → (Nat → Int64) → (Nat → Nat → Int32) → (Nat → Nat → Int64) → Prop) (Post : Int32 → (Nat → Int32) → (Nat → Int64) → (Nat → Nat → Int32) → (Nat → Nat → Int64) → Prop) (x3 : Int32) (x4 : Int32) (I : Nat → Int32) (J : Nat → Int64) (B : Nat → Nat → Int32) (D : Nat → Nat → Int64) : Prop :=
  (((I 25) ≤ x4 → wc_Terms_reckon_ad43_B_109 a0 Post I J B D) ∧ (¬ (I 25) ≤ x4 → vp_in x4 480 ∧ ∀ z5 : Int32, z5 = ((B 43) x4.toNatClampNeg) → ((z5 = 22 → wc_Terms_reckon_ad43_B_109 a0 Post I J B D) ∧ (¬ z5 = 22 → vp_in x4 480 ∧ ∀ z7 : Int32, z7 = ((B 43) x4.toNatClampNeg) → ((z7 < 16 → ((z7 < 8 → wc_Terms_reckon_ad43_B_99 a0 K5 Post x3 x4 z7 x3 I J B D) ∧ (¬ z7 < 8 → ∀ z10 : Int32, z10 = (z7 - 8) → vp_in z10 8 ∧ ∀ z11 : Int32, z11 = ((B 29) z10.toNatClampNeg) → wc_Terms_reckon_ad43_B_99 a0 K5 Post x3 x4 z11 x3 I J B D))) ∧ (¬ z7 < 16 → ∀ z12 : Int32, z12 = (x3 + (-1)) → ∀ z13 : Int32, z13 = (z12 - 1) → ∀ z14 : Int32, z14 = (z12 - 1) → vp_in z14 13 ∧ ∀ z15 : Int32, z15 = ((B 45) z14.toNatClampNeg) → vp_in z12 13 ∧ ∀ z16 : Int32, z16 = ((B 45) z12.toNatClampNeg) → wp_Terms_joined I J B D z7 z15 z16 (fun r17 I17 J17 B17 D17 => vp_in z13 13 ∧ wc_Terms_reckon_ad43_B_103 a0 K5 Post z12 x4 I17 J17 (va_up B17 45 (upd (B17 45) z13.toNatClampNeg r17)) D17)))))))
def wl_Terms_reckon_ad43_B_5 (a0 : Int32) (Post : Int32 → (Nat → Int32) → (Nat → Int64) → (Nat → Nat → Int32) → (Nat → Nat → Int64) → Prop) (n : Nat) : Int32 → Int32 → (Nat → Int32) → (Nat → Int64) → (Nat → Nat → Int32) → (Nat → Nat → Int64) → Prop := Nat.rec (fun _ _ _ _ _ _ => False) (fun _ r => wb_Terms_reckon_ad43_B_5 a0 r Post) n
def wp_Terms_reckon_ad43_B (I : Nat → Int32) (J : Nat → Int64) (B : Nat → Nat → Int32) (D : Nat → Nat → Int64) (a0 : Int32) (Post : Int32 → (Nat → Int32) → (Nat → Int64) → (Nat → Nat → Int32) → (Nat → Nat → Int64) → Prop) : Prop :=
  ∃ n : Nat, wl_Terms_reckon_ad43_B_5 a0 Post n 0 a0 I J B D
set_option maxHeartbeats 8000000 in
set_option maxRecDepth 100000 in
theorem wJ_Terms_reckon_ad43_B_109 {p : Program} {l : Launch} {e : Env} {s : State} {m : MethodId} {below : List Frame} {meth : Method} {c : Code} {A : Nat → Prop} (G : va_G) (K : Nat → ClassId) (ad : Nat → Nat) (sv : Value) (a0 : Int32) (Post : Int32 → (Nat → Int32) → (Nat → Int64) → (Nat → Nat → Int32) → (Nat → Nat → Int64) → Prop) (C : zCx p s m ([.ref (ad 10), .int a0, .ref (ad 43)] : List Value).toArray meth c A G K prog_9_method_12_code (some .int) 6 "LassoFinder$Terms") : ∀  (I : Nat → Int32) (J : Nat → Int64) (B : Nat → Nat → Int32) (D : Nat → Nat → Int64) (ls : Array Slot) (H : Heap) (locs : List Loc), wc_Terms_reckon_ad43_B_109 a0 Post  I J B D → lv_has ls 6 [(0, .ref (ad 10))] → zW G A s.heap (wX ad K sv I J B D) H locs → W p l e { frames := 1, cells := 0, slots := 0, locals := 22 } s m ([.ref (ad 10), .int a0, .ref (ad 43)] : List Value).toArray below meth c H locs 0 0 (MQ below (va_Qi (fun (r : Int32) (u : zS) => Post r u.1 u.2.1 u.2.2.1 u.2.2.2) (fun u t => zPost G K A (wX ad K sv u.1 u.2.1 u.2.2.1 u.2.2.2) t) A) ([.ref (ad 10), .int a0, .ref (ad 43)] : List Value).toArray s 0 0 A) (F0 m 109 ls []) := by
  obtain ⟨hx, hb, hr, hml, hts, hown, hlocks, hA, hK⟩ := id C
  intro  I J B D ls H locs hok hl hw
  unfold wc_Terms_reckon_ad43_B_109 at hok
  refine lv_aload_n hx hb zd_Terms_reckon_109 rfl (lv_at hl 0 rfl) ?_
  refine z_get (v := .ref (ad 60)) hx hb hts hown hK hw zZ8 10 wX_g10 6 (by decide) zn_254 rfl zd_Terms_reckon_110 ?_
  refine lv_iconst (v := 0) hx hb zd_Terms_reckon_113 (by decide) ?_
  refine va_iald (f := (B 45)) hx hb hK hw.1 60 0 wX_a60 rfl hok.1 zd_Terms_reckon_114 ?_
  have hok := hok.2
  refine lv_topi (fun z1 ez1 => ?_)
  have hok := hok z1 ez1
  exact (z_iret (u := (I, J, B, D)) hx hb hr hlocks rfl hw (List.range 65) wX_all wX_nd hok (Nat.le_of_ble_eq_true rfl) (Nat.le_of_ble_eq_true rfl) zd_Terms_reckon_115)
set_option maxHeartbeats 8000000 in
set_option maxRecDepth 100000 in
theorem wJ_Terms_reckon_ad43_B_103 {p : Program} {l : Launch} {e : Env} {s : State} {m : MethodId} {below : List Frame} {meth : Method} {c : Code} {A : Nat → Prop} (G : va_G) (K : Nat → ClassId) (ad : Nat → Nat) (sv : Value) (a0 : Int32) (Post : Int32 → (Nat → Int32) → (Nat → Int64) → (Nat → Nat → Int32) → (Nat → Nat → Int64) → Prop) (C : zCx p s m ([.ref (ad 10), .int a0, .ref (ad 43)] : List Value).toArray meth c A G K prog_9_method_12_code (some .int) 6 "LassoFinder$Terms") (K5 : Int32 → Int32 → (Nat → Int32) → (Nat → Int64) → (Nat → Nat → Int32) → (Nat → Nat → Int64) → Prop) (kh5 : ∀ (x3 : Int32) (x4 : Int32) (I : Nat → Int32) (J : Nat → Int64) (B : Nat → Nat → Int32) (D : Nat → Nat → Int64) (ls : Array Slot) (H : Heap) (locs : List Loc), K5 x3 x4 I J B D → lv_has ls 6 [(0, .ref (ad 10)), (2, .ref (ad 43)), (3, .int x3), (4, .int x4)] → zW G A s.heap (wX ad K sv I J B D) H locs → W p l e { frames := 1, cells := 0, slots := 0, locals := 22 } s m ([.ref (ad 10), .int a0, .ref (ad 43)] : List Value).toArray below meth c H locs 0 0 (MQ below (va_Qi (fun (r : Int32) (u : zS) => Post r u.1 u.2.1 u.2.2.1 u.2.2.2) (fun u t => zPost G K A (wX ad K sv u.1 u.2.1 u.2.2.1 u.2.2.2) t) A) ([.ref (ad 10), .int a0, .ref (ad 43)] : List Value).toArray s 0 0 A) (F0 m 5 ls [])) : ∀ (x3 : Int32) (x4 : Int32) (I : Nat → Int32) (J : Nat → Int64) (B : Nat → Nat → Int32) (D : Nat → Nat → Int64) (ls : Array Slot) (H : Heap) (locs : List Loc), wc_Terms_reckon_ad43_B_103 a0 K5 Post x3 x4 I J B D → lv_has ls 6 [(0, .ref (ad 10)), (2, .ref (ad 43)), (3, .int x3), (4, .int x4)] → zW G A s.heap (wX ad K sv I J B D) H locs → W p l e { frames := 1, cells := 0, slots := 0, locals := 22 } s m ([.ref (ad 10), .int a0, .ref (ad 43)] : List Value).toArray below meth c H locs 0 0 (MQ below (va_Qi (fun (r : Int32) (u : zS) => Post r u.1 u.2.1 u.2.2.1 u.2.2.2) (fun u t => zPost G K A (wX ad K sv u.1 u.2.1 u.2.2.1 u.2.2.2) t) A) ([.ref (ad 10), .int a0, .ref (ad 43)] : List Value).toArray s 0 0 A) (F0 m 103 ls []) := by
  obtain ⟨hx, hb, hr, hml, hts, hown, hlocks, hA, hK⟩ := id C
  intro x3 x4 I J B D ls H locs hok hl hw
  unfold wc_Terms_reckon_ad43_B_103 at hok
  obtain ⟨z2, ez2⟩ : ∃ z : Int32, z = (x4 + 1) := ⟨_, rfl⟩
  have hok := hok z2 ez2
  refine lv_iinc (v := z2) hx hb zd_Terms_reckon_103 hl (k := 3) rfl ez2.symm (by decide) rfl (fun ls hl => ?_)
  have hl : lv_has ls 6 [(4, .int z2), (0, .ref (ad 10)), (2, .ref (ad 43)), (3, .int x3)] := hl
  refine lv_goto (tgt := 5) hx hb zd_Terms_reckon_106 (by decide) ?_
  exact kh5 x3 z2 I J B D ls H locs hok (lv_sub hl [1, 2, 3, 0] rfl) hw
set_option maxHeartbeats 8000000 in
set_option maxRecDepth 100000 in
theorem wJ_Terms_reckon_ad43_B_99 {p : Program} {l : Launch} {e : Env} {s : State} {m : MethodId} {below : List Frame} {meth : Method} {c : Code} {A : Nat → Prop} (G : va_G) (K : Nat → ClassId) (ad : Nat → Nat) (sv : Value) (a0 : Int32) (Post : Int32 → (Nat → Int32) → (Nat → Int64) → (Nat → Nat → Int32) → (Nat → Nat → Int64) → Prop) (C : zCx p s m ([.ref (ad 10), .int a0, .ref (ad 43)] : List Value).toArray meth c A G K prog_9_method_12_code (some .int) 6 "LassoFinder$Terms") (K5 : Int32 → Int32 → (Nat → Int32) → (Nat → Int64) → (Nat → Nat → Int32) → (Nat → Nat → Int64) → Prop) (kh5 : ∀ (x3 : Int32) (x4 : Int32) (I : Nat → Int32) (J : Nat → Int64) (B : Nat → Nat → Int32) (D : Nat → Nat → Int64) (ls : Array Slot) (H : Heap) (locs : List Loc), K5 x3 x4 I J B D → lv_has ls 6 [(0, .ref (ad 10)), (2, .ref (ad 43)), (3, .int x3), (4, .int x4)] → zW G A s.heap (wX ad K sv I J B D) H locs → W p l e { frames := 1, cells := 0, slots := 0, locals := 22 } s m ([.ref (ad 10), .int a0, .ref (ad 43)] : List Value).toArray below meth c H locs 0 0 (MQ below (va_Qi (fun (r : Int32) (u : zS) => Post r u.1 u.2.1 u.2.2.1 u.2.2.2) (fun u t => zPost G K A (wX ad K sv u.1 u.2.1 u.2.2.1 u.2.2.2) t) A) ([.ref (ad 10), .int a0, .ref (ad 43)] : List Value).toArray s 0 0 A) (F0 m 5 ls [])) : ∀ (x3 : Int32) (x4 : Int32) (y0 : Int32) (y1 : Int32) (I : Nat → Int32) (J : Nat → Int64) (B : Nat → Nat → Int32) (D : Nat → Nat → Int64) (ls : Array Slot) (H : Heap) (locs : List Loc), wc_Terms_reckon_ad43_B_99 a0 K5 Post x3 x4 y0 y1 I J B D → lv_has ls 6 [(0, .ref (ad 10)), (2, .ref (ad 43)), (3, .int x3), (4, .int x4)] → zW G A s.heap (wX ad K sv I J B D) H locs → W p l e { frames := 1, cells := 0, slots := 0, locals := 22 } s m ([.ref (ad 10), .int a0, .ref (ad 43)] : List Value).toArray below meth c H locs 0 0 (MQ below (va_Qi (fun (r : Int32) (u : zS) => Post r u.1 u.2.1 u.2.2.1 u.2.2.2) (fun u t => zPost G K A (wX ad K sv u.1 u.2.1 u.2.2.1 u.2.2.2) t) A) ([.ref (ad 10), .int a0, .ref (ad 43)] : List Value).toArray s 0 0 A) (F0 m 99 ls [.int y0, .int y1, .ref (ad 60)]) := by
  obtain ⟨hx, hb, hr, hml, hts, hown, hlocks, hA, hK⟩ := id C
  intro x3 x4 y0 y1 I J B D ls H locs hok hl hw
  unfold wc_Terms_reckon_ad43_B_99 at hok
  refine va_iast (f := (B 45)) hx hb hK hw.1 hw.2.1 hw.2.2 60 0 wX_a60 rfl hok.1 zd_Terms_reckon_99 (fun H locs w91 w92 w93 => ?_)
  have hok := hok.2
  have hw := wX_t60 ⟨w91, w92, w93⟩
  obtain ⟨z3, ez3⟩ : ∃ z : Int32, z = (x3 + 1) := ⟨_, rfl⟩
  have hok := hok z3 ez3
  refine lv_iinc (v := z3) hx hb zd_Terms_reckon_100 hl (k := 2) rfl ez3.symm (by decide) rfl (fun ls hl => ?_)
  have hl : lv_has ls 6 [(3, .int z3), (0, .ref (ad 10)), (2, .ref (ad 43)), (4, .int x4)] := hl
  exact wJ_Terms_reckon_ad43_B_103 G K ad sv a0 Post C K5 kh5 z3 x4 I J (va_up B 45 (upd (B 45) y1.toNatClampNeg y0)) D ls H locs hok (lv_sub hl [1, 2, 0, 3] rfl) hw
set_option maxHeartbeats 8000000 in
set_option maxRecDepth 100000 in
theorem wB_Terms_reckon_ad43_B_5 {p : Program} {l : Launch} {e : Env} {s : State} {m : MethodId} {below : List Frame} {meth : Method} {c : Code} {A : Nat → Prop} (G : va_G) (K : Nat → ClassId) (ad : Nat → Nat) (sv : Value) (a0 : Int32) (Post : Int32 → (Nat → Int32) → (Nat → Int64) → (Nat → Nat → Int32) → (Nat → Nat → Int64) → Prop) (C : zCx p s m ([.ref (ad 10), .int a0, .ref (ad 43)] : List Value).toArray meth c A G K prog_9_method_12_code (some .int) 6 "LassoFinder$Terms") (K5 : Int32 → Int32 → (Nat → Int32) → (Nat → Int64) → (Nat → Nat → Int32) → (Nat → Nat → Int64) → Prop) (kh5 : ∀ (x3 : Int32) (x4 : Int32) (I : Nat → Int32) (J : Nat → Int64) (B : Nat → Nat → Int32) (D : Nat → Nat → Int64) (ls : Array Slot) (H : Heap) (locs : List Loc), K5 x3 x4 I J B D → lv_has ls 6 [(0, .ref (ad 10)), (2, .ref (ad 43)), (3, .int x3), (4, .int x4)] → zW G A s.heap (wX ad K sv I J B D) H locs → W p l e { frames := 1, cells := 0, slots := 0, locals := 22 } s m ([.ref (ad 10), .int a0, .ref (ad 43)] : List Value).toArray below meth c H locs 0 0 (MQ below (va_Qi (fun (r : Int32) (u : zS) => Post r u.1 u.2.1 u.2.2.1 u.2.2.2) (fun u t => zPost G K A (wX ad K sv u.1 u.2.1 u.2.2.1 u.2.2.2) t) A) ([.ref (ad 10), .int a0, .ref (ad 43)] : List Value).toArray s 0 0 A) (F0 m 5 ls [])) : ∀ (x3 : Int32) (x4 : Int32) (I : Nat → Int32) (J : Nat → Int64) (B : Nat → Nat → Int32) (D : Nat → Nat → Int64) (ls : Array Slot) (H : Heap) (locs : List Loc), wb_Terms_reckon_ad43_B_5 a0 K5 Post x3 x4 I J B D → lv_has ls 6 [(0, .ref (ad 10)), (2, .ref (ad 43)), (3, .int x3), (4, .int x4)] → zW G A s.heap (wX ad K sv I J B D) H locs → W p l e { frames := 1, cells := 0, slots := 0, locals := 22 } s m ([.ref (ad 10), .int a0, .ref (ad 43)] : List Value).toArray below meth c H locs 0 0 (MQ below (va_Qi (fun (r : Int32) (u : zS) => Post r u.1 u.2.1 u.2.2.1 u.2.2.2) (fun u t => zPost G K A (wX ad K sv u.1 u.2.1 u.2.2.1 u.2.2.2) t) A) ([.ref (ad 10), .int a0, .ref (ad 43)] : List Value).toArray s 0 0 A) (F0 m 5 ls []) := by
  obtain ⟨hx, hb, hr, hml, hts, hown, hlocks, hA, hK⟩ := id C
  intro x3 x4 I J B D ls H locs hok hl hw
  unfold wb_Terms_reckon_ad43_B_5 at hok
  refine lv_iload hx hb zd_Terms_reckon_5 (lv_at hl 3 rfl) ?_
  refine lv_aload_n hx hb zd_Terms_reckon_7 rfl (lv_at hl 0 rfl) ?_
  refine z_get (v := .int (I 25)) hx hb hts hown hK hw zZ8 10 wX_g10 3 (by decide) zn_379 rfl zd_Terms_reckon_8 ?_
  refine lv_icmp_ge (tgt := 109) hx hb zd_Terms_reckon_11 (by decide) (fun hc4 => ?_) (fun hc4 => ?_)
  · have hok := hok.1 hc4
    exact wJ_Terms_reckon_ad43_B_109 G K ad sv a0 Post C I J B D ls H locs hok (lv_sub hl [0] rfl) hw
  · have hok := hok.2 hc4
    refine lv_aload_n hx hb zd_Terms_reckon_14 rfl (lv_at hl 0 rfl) ?_
    refine z_get (v := .ref (ad 58)) hx hb hts hown hK hw zZ8 10 wX_g10 2 (by decide) zn_252 rfl zd_Terms_reckon_15 ?_
    refine lv_iload hx hb zd_Terms_reckon_18 (lv_at hl 3 rfl) ?_
    refine va_iald (f := (B 43)) hx hb hK hw.1 58 0 wX_a58 rfl hok.1 zd_Terms_reckon_20 ?_
    have hok := hok.2
    refine lv_topi (fun z5 ez5 => ?_)
    have hok := hok z5 ez5
    refine lv_bipush (v := 22) hx hb zd_Terms_reckon_21 (by decide) ?_
    refine lv_icmp_eq (tgt := 109) hx hb zd_Terms_reckon_23 (by decide) (fun hc6 => ?_) (fun hc6 => ?_)
    · have hok := hok.1 hc6
      exact wJ_Terms_reckon_ad43_B_109 G K ad sv a0 Post C I J B D ls H locs hok (lv_sub hl [0] rfl) hw
    · have hok := hok.2 hc6
      refine lv_aload_n hx hb zd_Terms_reckon_26 rfl (lv_at hl 0 rfl) ?_
      refine z_get (v := .ref (ad 58)) hx hb hts hown hK hw zZ8 10 wX_g10 2 (by decide) zn_252 rfl zd_Terms_reckon_27 ?_
      refine lv_iload hx hb zd_Terms_reckon_30 (lv_at hl 3 rfl) ?_
      refine va_iald (f := (B 43)) hx hb hK hw.1 58 0 wX_a58 rfl hok.1 zd_Terms_reckon_32 ?_
      have hok := hok.2
      refine lv_topi (fun z7 ez7 => ?_)
      have hok := hok z7 ez7
      refine lv_istore hx hb zd_Terms_reckon_33 hl (by decide) rfl (fun ls hl => ?_)
      have hl : lv_has ls 6 [(5, .int z7), (0, .ref (ad 10)), (2, .ref (ad 43)), (3, .int x3), (4, .int x4)] := hl
      refine lv_iload hx hb zd_Terms_reckon_35 (lv_at hl 0 rfl) ?_
      refine lv_bipush (v := 16) hx hb zd_Terms_reckon_37 (by decide) ?_
      refine lv_icmp_lt (tgt := 75) hx hb zd_Terms_reckon_39 (by decide) (fun hc8 => ?_) (fun hc8 => ?_)
      · have hok := hok.1 hc8
        refine lv_aload_n hx hb zd_Terms_reckon_75 rfl (lv_at hl 1 rfl) ?_
        refine z_get (v := .ref (ad 60)) hx hb hts hown hK hw zZ8 10 wX_g10 6 (by decide) zn_254 rfl zd_Terms_reckon_76 ?_
        refine lv_iload_n hx hb zd_Terms_reckon_79 rfl (lv_at hl 3 rfl) ?_
        refine lv_iload hx hb zd_Terms_reckon_80 (lv_at hl 0 rfl) ?_
        refine lv_bipush (v := 8) hx hb zd_Terms_reckon_82 (by decide) ?_
        refine lv_icmp_lt (tgt := 97) hx hb zd_Terms_reckon_84 (by decide) (fun hc9 => ?_) (fun hc9 => ?_)
        · have hok := hok.1 hc9
          refine lv_iload hx hb zd_Terms_reckon_97 (lv_at hl 0 rfl) ?_
          exact wJ_Terms_reckon_ad43_B_99 G K ad sv a0 Post C K5 kh5 x3 x4 z7 x3 I J B D ls H locs hok (lv_sub hl [1, 2, 3, 4] rfl) hw
        · have hok := hok.2 hc9
          refine lv_aload_n hx hb zd_Terms_reckon_87 rfl (lv_at hl 2 rfl) ?_
          refine lv_iload hx hb zd_Terms_reckon_88 (lv_at hl 0 rfl) ?_
          refine lv_bipush (v := 8) hx hb zd_Terms_reckon_90 (by decide) ?_
          refine lv_isub hx hb zd_Terms_reckon_92 ?_
          refine lv_topi (fun z10 ez10 => ?_)
          have hok := hok z10 ez10
          refine va_iald (f := (B 29)) hx hb hK hw.1 43 0 wX_a43 rfl hok.1 zd_Terms_reckon_93 ?_
          have hok := hok.2
          refine lv_topi (fun z11 ez11 => ?_)
          have hok := hok z11 ez11
          refine lv_goto (tgt := 99) hx hb zd_Terms_reckon_94 (by decide) ?_
          exact wJ_Terms_reckon_ad43_B_99 G K ad sv a0 Post C K5 kh5 x3 x4 z11 x3 I J B D ls H locs hok (lv_sub hl [1, 2, 3, 4] rfl) hw
      · have hok := hok.2 hc8
        obtain ⟨z12, ez12⟩ : ∃ z : Int32, z = (x3 + (-1)) := ⟨_, rfl⟩
        have hok := hok z12 ez12
        refine lv_iinc (v := z12) hx hb zd_Terms_reckon_42 hl (k := 3) rfl ez12.symm (by decide) rfl (fun ls hl => ?_)
        have hl : lv_has ls 6 [(3, .int z12), (5, .int z7), (0, .ref (ad 10)), (2, .ref (ad 43)), (4, .int x4)] := hl
        refine lv_aload_n hx hb zd_Terms_reckon_45 rfl (lv_at hl 2 rfl) ?_
        refine z_get (v := .ref (ad 60)) hx hb hts hown hK hw zZ8 10 wX_g10 6 (by decide) zn_254 rfl zd_Terms_reckon_46 ?_
        refine lv_iload_n hx hb zd_Terms_reckon_49 rfl (lv_at hl 0 rfl) ?_
        refine lv_iconst (v := 1) hx hb zd_Terms_reckon_50 (by decide) ?_
        refine lv_isub hx hb zd_Terms_reckon_51 ?_
        refine lv_topi (fun z13 ez13 => ?_)
        have hok := hok z13 ez13
        refine lv_iload hx hb zd_Terms_reckon_52 (lv_at hl 1 rfl) ?_
        refine lv_aload_n hx hb zd_Terms_reckon_54 rfl (lv_at hl 2 rfl) ?_
        refine z_get (v := .ref (ad 60)) hx hb hts hown hK hw zZ8 10 wX_g10 6 (by decide) zn_254 rfl zd_Terms_reckon_55 ?_
        refine lv_iload_n hx hb zd_Terms_reckon_58 rfl (lv_at hl 0 rfl) ?_
        refine lv_iconst (v := 1) hx hb zd_Terms_reckon_59 (by decide) ?_
        refine lv_isub hx hb zd_Terms_reckon_60 ?_
        refine lv_topi (fun z14 ez14 => ?_)
        have hok := hok z14 ez14
        refine va_iald (f := (B 45)) hx hb hK hw.1 60 0 wX_a60 rfl hok.1 zd_Terms_reckon_61 ?_
        have hok := hok.2
        refine lv_topi (fun z15 ez15 => ?_)
        have hok := hok z15 ez15
        refine lv_aload_n hx hb zd_Terms_reckon_62 rfl (lv_at hl 2 rfl) ?_
        refine z_get (v := .ref (ad 60)) hx hb hts hown hK hw zZ8 10 wX_g10 6 (by decide) zn_254 rfl zd_Terms_reckon_63 ?_
        refine lv_iload_n hx hb zd_Terms_reckon_66 rfl (lv_at hl 0 rfl) ?_
        refine va_iald (f := (B 45)) hx hb hK hw.1 60 0 wX_a60 rfl hok.1 zd_Terms_reckon_67 ?_
        have hok := hok.2
        refine lv_topi (fun z16 ez16 => ?_)
        have hok := hok z16 ez16
        refine z_calli (w1 := fun (u : zS) => wX ad K sv u.1 u.2.1 u.2.2.1 u.2.2.2) (wr := []) (z_runS (wc := (wX ad K sv I J B D)) (As := [.int z7, .int z15, .int z16]) (rest := [.int z13, .ref (ad 60)]) ⟨hx, hb, hml, hown, hts⟩ (w_Terms_joined l G K ad sv I J B D z7 z15 z16 _ H.size hok) zf_Terms_joined zn_415 ⟨Nat.le_of_ble_eq_true rfl, Nat.le_of_ble_eq_true rfl⟩ hK hw (List.range 65) wX_all wX_nd rfl hl.1 rfl (Nat.le_of_ble_eq_true rfl) zd_Terms_reckon_68 ⟨Nat.le_of_ble_eq_true rfl, Nat.le_of_ble_eq_true rfl⟩) hw hA (List.range 65) [] wX_all rfl (by decide) (fun i hi => by cases hi) (fun r17 u H locs hok hw => ?_)
        obtain ⟨I17, J17, B17, D17⟩ := u
        dsimp only at hok
        have hw : zW G A s.heap (wX ad K sv I17 J17 B17 D17) H locs := hw
        refine va_iast (f := (B17 45)) hx hb hK hw.1 hw.2.1 hw.2.2 60 0 wX_a60 rfl hok.1 zd_Terms_reckon_71 (fun H locs w91 w92 w93 => ?_)
        have hok := hok.2
        have hw := wX_t60 ⟨w91, w92, w93⟩
        refine lv_goto (tgt := 103) hx hb zd_Terms_reckon_72 (by decide) ?_
        exact wJ_Terms_reckon_ad43_B_103 G K ad sv a0 Post C K5 kh5 z12 x4 I17 J17 (va_up B17 45 (upd (B17 45) z13.toNatClampNeg r17)) D17 ls H locs hok (lv_sub hl [2, 3, 0, 4] rfl) hw
theorem wL_Terms_reckon_ad43_B_5 {p : Program} {l : Launch} {e : Env} {s : State} {m : MethodId} {below : List Frame} {meth : Method} {c : Code} {A : Nat → Prop} (G : va_G) (K : Nat → ClassId) (ad : Nat → Nat) (sv : Value) (a0 : Int32) (Post : Int32 → (Nat → Int32) → (Nat → Int64) → (Nat → Nat → Int32) → (Nat → Nat → Int64) → Prop) (C : zCx p s m ([.ref (ad 10), .int a0, .ref (ad 43)] : List Value).toArray meth c A G K prog_9_method_12_code (some .int) 6 "LassoFinder$Terms") : ∀ (n : Nat) (x3 : Int32) (x4 : Int32) (I : Nat → Int32) (J : Nat → Int64) (B : Nat → Nat → Int32) (D : Nat → Nat → Int64) (ls : Array Slot) (H : Heap) (locs : List Loc), wl_Terms_reckon_ad43_B_5 a0 Post n x3 x4 I J B D → lv_has ls 6 [(0, .ref (ad 10)), (2, .ref (ad 43)), (3, .int x3), (4, .int x4)] → zW G A s.heap (wX ad K sv I J B D) H locs → W p l e { frames := 1, cells := 0, slots := 0, locals := 22 } s m ([.ref (ad 10), .int a0, .ref (ad 43)] : List Value).toArray below meth c H locs 0 0 (MQ below (va_Qi (fun (r : Int32) (u : zS) => Post r u.1 u.2.1 u.2.2.1 u.2.2.2) (fun u t => zPost G K A (wX ad K sv u.1 u.2.1 u.2.2.1 u.2.2.2) t) A) ([.ref (ad 10), .int a0, .ref (ad 43)] : List Value).toArray s 0 0 A) (F0 m 5 ls []) := by
  intro n
  induction n with
  | zero => intro x3 x4 I J B D ls H locs hok; exact hok.elim
  | succ n ih => exact wB_Terms_reckon_ad43_B_5 G K ad sv a0 Post C (wl_Terms_reckon_ad43_B_5 a0 Post n) ih
set_option maxHeartbeats 8000000 in
set_option maxRecDepth 100000 in
theorem w_Terms_reckon_ad43_B (l : Launch) (G : va_G) (K : Nat → ClassId) (ad : Nat → Nat) (sv : Value) (I : Nat → Int32) (J : Nat → Int64) (B : Nat → Nat → Int32) (D : Nat → Nat → Int64) (a0 : Int32) (Post : Int32 → (Nat → Int32) → (Nat → Int64) → (Nat → Nat → Int32) → (Nat → Nat → Int64) → Prop) (sz : Nat) (hok : wp_Terms_reckon_ad43_B I J B D a0 Post) : Met l zy_Terms_reckon (Cond.code zy_Terms_reckon prog_9_method_12_code 6 (some .int) :: zTB) { frames := 1, cells := 0, slots := 0, locals := 22 } (va_Pc [.ref (ad 10), .int a0, .ref (ad 43)] (zPre G K (wX ad K sv I J B D) sz)) (va_Qi (fun (r : Int32) (u : zS) => Post r u.1 u.2.1 u.2.2.1 u.2.2.2) (fun u t => zPost G K (va_A (wX ad K sv I J B D) sz) (wX ad K sv u.1 u.2.1 u.2.2.1 u.2.2.2) t) (va_A (wX ad K sv I J B D) sz)) 0 0 (va_A (wX ad K sv I J B D) sz) := by
  refine zMet (y := zy_Terms_reckon) (av := [.ref (ad 10), .int a0, .ref (ad 43)]) (maxL := 6) (cc := prog_9_method_12_code) (ret := (some .int)) (W0 := (wX ad K sv I J B D)) (sz := sz) (G := G) (K := K) (wt := zTB) (mc := 0) (ms := 0) (Qf := fun A => va_Qi (fun (r : Int32) (u : zS) => Post r u.1 u.2.1 u.2.2.1 u.2.2.2) (fun u t => zPost G K A (wX ad K sv u.1 u.2.1 u.2.2.1 u.2.2.2) t) A) (by decide) (Nat.le_of_ble_eq_true rfl) ?_
  intro p e s m below meth c ls A hx hb hr hml hts hown hlocks hin hA hK H locs hw hsz hl
  clear hsz
  have hown : s.vm.findClass "LassoFinder$Terms" = some m.cls := hown
  have C : zCx p s m ([.ref (ad 10), .int a0, .ref (ad 43)] : List Value).toArray meth c A G K prog_9_method_12_code (some .int) 6 "LassoFinder$Terms" := ⟨hx, hb, hr, hml, hts, hown, hlocks, hA, hK⟩
  have hl : lv_has ls 6 [(0, .ref (ad 10)), (1, .int a0), (2, .ref (ad 43))] := hl
  have hw : zW G A s.heap (wX ad K sv I J B D) H locs := hw
  unfold wp_Terms_reckon_ad43_B at hok
  refine lv_iconst (v := 0) hx hb zd_Terms_reckon_0 (by decide) ?_
  refine lv_istore_n hx hb zd_Terms_reckon_1 rfl hl (by decide) rfl (fun ls hl => ?_)
  have hl : lv_has ls 6 [(3, .int 0), (0, .ref (ad 10)), (1, .int a0), (2, .ref (ad 43))] := hl
  refine lv_iload_n hx hb zd_Terms_reckon_2 rfl (lv_at hl 2 rfl) ?_
  refine lv_istore hx hb zd_Terms_reckon_3 hl (by decide) rfl (fun ls hl => ?_)
  have hl : lv_has ls 6 [(4, .int a0), (3, .int 0), (0, .ref (ad 10)), (1, .int a0), (2, .ref (ad 43))] := hl
  obtain ⟨n9, hok⟩ := hok
  exact wL_Terms_reckon_ad43_B_5 G K ad sv a0 Post C n9 0 a0 I J B D ls H locs hok (lv_sub hl [2, 4, 1, 0] rfl) hw
