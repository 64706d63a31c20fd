abbrev zy_Situation_able : MethodName := ⟨"LassoFinder$Situation", "able", "()J"⟩
abbrev zy_Situation_ableOf : MethodName := ⟨"LassoFinder$Situation", "ableOf", "(J)J"⟩
abbrev zy_Situation_canBeDone : MethodName := ⟨"LassoFinder$Situation", "canBeDone", "(I)Z"⟩
abbrev zy_Situation_hasFreeSlot : MethodName := ⟨"LassoFinder$Situation", "hasFreeSlot", "(I)Z"⟩
abbrev zy_Graph_addStepsBy : MethodName := ⟨"LassoFinder$Graph", "addStepsBy", "(II)Z"⟩
theorem zn_397 : Cond.methodLink "LassoFinder$Situation" 82 ⟨"LassoFinder$Situation", "ableOf", "(J)J"⟩ ∈ zTB := z_in (zt_4 _ (List.mem_of_getElem? (i := 167) rfl)) rfl
theorem zn_398 : Cond.methodLink "LassoFinder$Situation" 89 ⟨"LassoFinder$Situation", "canBeDone", "(I)Z"⟩ ∈ zTB := z_in (zt_4 _ (List.mem_of_getElem? (i := 171) rfl)) rfl
theorem zn_401 : Cond.methodLink "LassoFinder$Situation" 111 ⟨"LassoFinder$Situation", "hasFreeSlot", "(I)Z"⟩ ∈ zTB := z_in (zt_4 _ (List.mem_of_getElem? (i := 182) rfl)) rfl
theorem zn_402 : Cond.methodLink "LassoFinder$Situation" 114 ⟨"LassoFinder$Situation", "partners", "(I)J"⟩ ∈ zTB := z_in (zt_4 _ (List.mem_of_getElem? (i := 186) rfl)) rfl
theorem zn_404 : Cond.methodLink "LassoFinder$Graph" 85 ⟨"LassoFinder$Situation", "partners", "(I)J"⟩ ∈ zTB := z_in (zt_4 _ (List.mem_of_getElem? (i := 195) rfl)) rfl
theorem zn_405 : Cond.methodLink "LassoFinder$Graph" 89 ⟨"LassoFinder$Graph", "addDone", "(III)Z"⟩ ∈ zTB := z_in (zt_4 _ (List.mem_of_getElem? (i := 196) rfl)) rfl
theorem zn_476 : Cond.fieldLink "LassoFinder$Situation" 75 "LassoFinder$Program" "processes" "I" ∈ zTB := z_in (zt_1 _ (List.mem_of_getElem? (i := 125) rfl)) rfl
theorem zn_477 : Cond.fieldLink "LassoFinder$Situation" 86 "LassoFinder$Program" "basics" "I" ∈ zTB := z_in (zt_1 _ (List.mem_of_getElem? (i := 120) rfl)) rfl
theorem zn_478 : Cond.fieldLink "LassoFinder$Situation" 93 "LassoFinder$Program" "elses" "J" ∈ zTB := z_in (zt_1 _ (List.mem_of_getElem? (i := 118) rfl)) rfl
theorem zn_702 : Cond.code ⟨"LassoFinder$Graph", "addDone", "(III)Z"⟩ prog_3_method_6_code 5 (some .boolean) ∈ zTB := z_in (zt_4 _ (List.mem_of_getElem? (i := 199) rfl)) rfl
theorem zn_703 : Cond.instanceMethod ⟨"LassoFinder$Graph", "addDone", "(III)Z"⟩ ∈ zTB := z_in (zt_4 _ (List.mem_of_getElem? (i := 198) rfl)) rfl
theorem zn_704 : Cond.code ⟨"LassoFinder$Situation", "partners", "(I)J"⟩ prog_8_method_10_code 3 (some .long) ∈ zTB := z_in (zt_4 _ (List.mem_of_getElem? (i := 189) rfl)) rfl
theorem zn_705 : Cond.selects "LassoFinder$Situation" ⟨"LassoFinder$Situation", "partners", "(I)J"⟩ ⟨"LassoFinder$Situation", "partners", "(I)J"⟩ ∈ zTB := z_in (zt_4 _ (List.mem_of_getElem? (i := 188) rfl)) rfl
theorem zn_706 : Cond.instanceMethod ⟨"LassoFinder$Situation", "partners", "(I)J"⟩ ∈ zTB := z_in (zt_4 _ (List.mem_of_getElem? (i := 187) rfl)) rfl
theorem zn_707 : Cond.code ⟨"LassoFinder$Situation", "hasFreeSlot", "(I)Z"⟩ prog_8_method_9_code 2 (some .boolean) ∈ zTB := z_in (zt_4 _ (List.mem_of_getElem? (i := 185) rfl)) rfl
theorem zn_708 : Cond.instanceMethod ⟨"LassoFinder$Situation", "hasFreeSlot", "(I)Z"⟩ ∈ zTB := z_in (zt_4 _ (List.mem_of_getElem? (i := 184) rfl)) rfl
theorem zn_709 : Cond.code ⟨"LassoFinder$Situation", "canBeDone", "(I)Z"⟩ prog_8_method_8_code 2 (some .boolean) ∈ zTB := z_in (zt_4 _ (List.mem_of_getElem? (i := 174) rfl)) rfl
theorem zn_710 : Cond.instanceMethod ⟨"LassoFinder$Situation", "canBeDone", "(I)Z"⟩ ∈ zTB := z_in (zt_4 _ (List.mem_of_getElem? (i := 173) rfl)) rfl
theorem zn_711 : Cond.code ⟨"LassoFinder$Situation", "ableOf", "(J)J"⟩ prog_8_method_7_code 6 (some .long) ∈ zTB := z_in (zt_4 _ (List.mem_of_getElem? (i := 170) rfl)) rfl
theorem zn_712 : Cond.instanceMethod ⟨"LassoFinder$Situation", "ableOf", "(J)J"⟩ ∈ zTB := z_in (zt_4 _ (List.mem_of_getElem? (i := 169) rfl)) rfl
theorem zf_Graph_addDone : zFaceV zy_Graph_addDone prog_3_method_6_code 5 (some .boolean) 3 := ⟨zn_703, (z_in (zp_2 _ (List.mem_of_getElem? (i := 15) rfl)) rfl), zm_5, zn_702, by decide +kernel, by decide +kernel, by decide +kernel⟩
theorem zf_Situation_partners : zFaceV zy_Situation_partners prog_8_method_10_code 3 (some .long) 1 := ⟨zn_706, zn_705, zm_15, zn_704, by decide +kernel, by decide +kernel, by decide +kernel⟩
theorem zf_Situation_hasFreeSlot : zFaceV zy_Situation_hasFreeSlot prog_8_method_9_code 2 (some .boolean) 1 := ⟨zn_708, (z_in (zp_2 _ (List.mem_of_getElem? (i := 13) rfl)) rfl), zm_15, zn_707, by decide +kernel, by decide +kernel, by decide +kernel⟩
theorem zf_Situation_canBeDone : zFaceV zy_Situation_canBeDone prog_8_method_8_code 2 (some .boolean) 1 := ⟨zn_710, (z_in (zp_2 _ (List.mem_of_getElem? (i := 12) rfl)) rfl), zm_15, zn_709, by decide +kernel, by decide +kernel, by decide +kernel⟩
theorem zf_Situation_ableOf : zFaceV zy_Situation_ableOf prog_8_method_7_code 6 (some .long) 1 := ⟨zn_712, (z_in (zp_2 _ (List.mem_of_getElem? (i := 11) rfl)) rfl), zm_15, zn_711, by decide +kernel, by decide +kernel, by decide +kernel⟩
theorem zd_Graph_addStepsBy_0 : decode prog_3_method_5_code 0 = .ok (.aload_n 0, 1) := by decide +kernel
theorem zd_Graph_addStepsBy_1 : decode prog_3_method_5_code 1 = .ok (.getfield 9, 3) := by decide +kernel
theorem zd_Graph_addStepsBy_4 : decode prog_3_method_5_code 4 = .ok (.aload_n 0, 1) := by decide +kernel
theorem zd_Graph_addStepsBy_5 : decode prog_3_method_5_code 5 = .ok (.getfield 15, 3) := by decide +kernel
theorem zd_Graph_addStepsBy_8 : decode prog_3_method_5_code 8 = .ok (.iload_n 1, 1) := by decide +kernel
theorem zd_Graph_addStepsBy_9 : decode prog_3_method_5_code 9 = .ok (.laload, 1) := by decide +kernel
theorem zd_Graph_addStepsBy_10 : decode prog_3_method_5_code 10 = .ok (.invokevirtual 68, 3) := by decide +kernel
theorem zd_Graph_addStepsBy_13 : decode prog_3_method_5_code 13 = .ok (.aload_n 0, 1) := by decide +kernel
theorem zd_Graph_addStepsBy_14 : decode prog_3_method_5_code 14 = .ok (.getfield 9, 3) := by decide +kernel
theorem zd_Graph_addStepsBy_17 : decode prog_3_method_5_code 17 = .ok (.iload_n 2, 1) := by decide +kernel
theorem zd_Graph_addStepsBy_18 : decode prog_3_method_5_code 18 = .ok (.invokevirtual 85, 3) := by decide +kernel
theorem zd_Graph_addStepsBy_21 : decode prog_3_method_5_code 21 = .ok (.lstore_n 3, 1) := by decide +kernel
theorem zd_Graph_addStepsBy_22 : decode prog_3_method_5_code 22 = .ok (.lload_n 3, 1) := by decide +kernel
theorem zd_Graph_addStepsBy_23 : decode prog_3_method_5_code 23 = .ok (.lconst 0, 1) := by decide +kernel
theorem zd_Graph_addStepsBy_24 : decode prog_3_method_5_code 24 = .ok (.lcmp, 1) := by decide +kernel
theorem zd_Graph_addStepsBy_25 : decode prog_3_method_5_code 25 = .ok (.ifCond .ne 11, 3) := by decide +kernel
theorem zd_Graph_addStepsBy_28 : decode prog_3_method_5_code 28 = .ok (.aload_n 0, 1) := by decide +kernel
theorem zd_Graph_addStepsBy_29 : decode prog_3_method_5_code 29 = .ok (.iload_n 1, 1) := by decide +kernel
theorem zd_Graph_addStepsBy_30 : decode prog_3_method_5_code 30 = .ok (.iload_n 2, 1) := by decide +kernel
theorem zd_Graph_addStepsBy_31 : decode prog_3_method_5_code 31 = .ok (.iconst (-1), 1) := by decide +kernel
theorem zd_Graph_addStepsBy_32 : decode prog_3_method_5_code 32 = .ok (.invokevirtual 89, 3) := by decide +kernel
theorem zd_Graph_addStepsBy_35 : decode prog_3_method_5_code 35 = .ok (.ireturn, 1) := by decide +kernel
theorem zd_Graph_addStepsBy_36 : decode prog_3_method_5_code 36 = .ok (.iconst 1, 1) := by decide +kernel
theorem zd_Graph_addStepsBy_37 : decode prog_3_method_5_code 37 = .ok (.istore 5, 2) := by decide +kernel
theorem zd_Graph_addStepsBy_39 : decode prog_3_method_5_code 39 = .ok (.iconst 0, 1) := by decide +kernel
theorem zd_Graph_addStepsBy_40 : decode prog_3_method_5_code 40 = .ok (.istore 6, 2) := by decide +kernel
theorem zd_Graph_addStepsBy_42 : decode prog_3_method_5_code 42 = .ok (.iload 6, 2) := by decide +kernel
theorem zd_Graph_addStepsBy_44 : decode prog_3_method_5_code 44 = .ok (.bipush 48, 2) := by decide +kernel
theorem zd_Graph_addStepsBy_46 : decode prog_3_method_5_code 46 = .ok (.if_icmp .ge 35, 3) := by decide +kernel
theorem zd_Graph_addStepsBy_49 : decode prog_3_method_5_code 49 = .ok (.iload 5, 2) := by decide +kernel
theorem zd_Graph_addStepsBy_51 : decode prog_3_method_5_code 51 = .ok (.ifCond .eq 30, 3) := by decide +kernel
theorem zd_Graph_addStepsBy_54 : decode prog_3_method_5_code 54 = .ok (.lload_n 3, 1) := by decide +kernel
theorem zd_Graph_addStepsBy_55 : decode prog_3_method_5_code 55 = .ok (.iload 6, 2) := by decide +kernel
theorem zd_Graph_addStepsBy_57 : decode prog_3_method_5_code 57 = .ok (.lushr, 1) := by decide +kernel
theorem zd_Graph_addStepsBy_58 : decode prog_3_method_5_code 58 = .ok (.lconst 1, 1) := by decide +kernel
theorem zd_Graph_addStepsBy_59 : decode prog_3_method_5_code 59 = .ok (.land, 1) := by decide +kernel
theorem zd_Graph_addStepsBy_60 : decode prog_3_method_5_code 60 = .ok (.lconst 0, 1) := by decide +kernel
theorem zd_Graph_addStepsBy_61 : decode prog_3_method_5_code 61 = .ok (.lcmp, 1) := by decide +kernel
theorem zd_Graph_addStepsBy_62 : decode prog_3_method_5_code 62 = .ok (.ifCond .eq 13, 3) := by decide +kernel
theorem zd_Graph_addStepsBy_65 : decode prog_3_method_5_code 65 = .ok (.aload_n 0, 1) := by decide +kernel
theorem zd_Graph_addStepsBy_66 : decode prog_3_method_5_code 66 = .ok (.iload_n 1, 1) := by decide +kernel
theorem zd_Graph_addStepsBy_67 : decode prog_3_method_5_code 67 = .ok (.iload_n 2, 1) := by decide +kernel
theorem zd_Graph_addStepsBy_68 : decode prog_3_method_5_code 68 = .ok (.iload 6, 2) := by decide +kernel
theorem zd_Graph_addStepsBy_70 : decode prog_3_method_5_code 70 = .ok (.invokevirtual 89, 3) := by decide +kernel
theorem zd_Graph_addStepsBy_73 : decode prog_3_method_5_code 73 = .ok (.istore 5, 2) := by decide +kernel
theorem zd_Graph_addStepsBy_75 : decode prog_3_method_5_code 75 = .ok (.iinc 6 1, 3) := by decide +kernel
theorem zd_Graph_addStepsBy_78 : decode prog_3_method_5_code 78 = .ok (.goto (-36), 3) := by decide +kernel
theorem zd_Graph_addStepsBy_81 : decode prog_3_method_5_code 81 = .ok (.iload 5, 2) := by decide +kernel
theorem zd_Graph_addStepsBy_83 : decode prog_3_method_5_code 83 = .ok (.ireturn, 1) := by decide +kernel
theorem zd_Situation_able_0 : decode prog_8_method_6_code 0 = .ok (.aload_n 0, 1) := by decide +kernel
theorem zd_Situation_able_1 : decode prog_8_method_6_code 1 = .ok (.lconst 0, 1) := by decide +kernel
theorem zd_Situation_able_2 : decode prog_8_method_6_code 2 = .ok (.putfield 71, 3) := by decide +kernel
theorem zd_Situation_able_5 : decode prog_8_method_6_code 5 = .ok (.iconst 0, 1) := by decide +kernel
theorem zd_Situation_able_6 : decode prog_8_method_6_code 6 = .ok (.istore_n 1, 1) := by decide +kernel
theorem zd_Situation_able_7 : decode prog_8_method_6_code 7 = .ok (.iload_n 1, 1) := by decide +kernel
theorem zd_Situation_able_8 : decode prog_8_method_6_code 8 = .ok (.aload_n 0, 1) := by decide +kernel
theorem zd_Situation_able_9 : decode prog_8_method_6_code 9 = .ok (.getfield 19, 3) := by decide +kernel
theorem zd_Situation_able_12 : decode prog_8_method_6_code 12 = .ok (.getfield 75, 3) := by decide +kernel
theorem zd_Situation_able_15 : decode prog_8_method_6_code 15 = .ok (.if_icmp .ge 32, 3) := by decide +kernel
theorem zd_Situation_able_18 : decode prog_8_method_6_code 18 = .ok (.aload_n 0, 1) := by decide +kernel
theorem zd_Situation_able_19 : decode prog_8_method_6_code 19 = .ok (.dup, 1) := by decide +kernel
theorem zd_Situation_able_20 : decode prog_8_method_6_code 20 = .ok (.getfield 71, 3) := by decide +kernel
theorem zd_Situation_able_23 : decode prog_8_method_6_code 23 = .ok (.aload_n 0, 1) := by decide +kernel
theorem zd_Situation_able_24 : decode prog_8_method_6_code 24 = .ok (.getfield 19, 3) := by decide +kernel
theorem zd_Situation_able_27 : decode prog_8_method_6_code 27 = .ok (.iload_n 1, 1) := by decide +kernel
theorem zd_Situation_able_28 : decode prog_8_method_6_code 28 = .ok (.aload_n 0, 1) := by decide +kernel
theorem zd_Situation_able_29 : decode prog_8_method_6_code 29 = .ok (.getfield 34, 3) := by decide +kernel
theorem zd_Situation_able_32 : decode prog_8_method_6_code 32 = .ok (.iload_n 1, 1) := by decide +kernel
theorem zd_Situation_able_33 : decode prog_8_method_6_code 33 = .ok (.iaload, 1) := by decide +kernel
theorem zd_Situation_able_34 : decode prog_8_method_6_code 34 = .ok (.invokevirtual 78, 3) := by decide +kernel
theorem zd_Situation_able_37 : decode prog_8_method_6_code 37 = .ok (.lor, 1) := by decide +kernel
theorem zd_Situation_able_38 : decode prog_8_method_6_code 38 = .ok (.putfield 71, 3) := by decide +kernel
theorem zd_Situation_able_41 : decode prog_8_method_6_code 41 = .ok (.iinc 1 1, 3) := by decide +kernel
theorem zd_Situation_able_44 : decode prog_8_method_6_code 44 = .ok (.goto (-37), 3) := by decide +kernel
theorem zd_Situation_able_47 : decode prog_8_method_6_code 47 = .ok (.lconst 0, 1) := by decide +kernel
theorem zd_Situation_able_48 : decode prog_8_method_6_code 48 = .ok (.lstore_n 1, 1) := by decide +kernel
theorem zd_Situation_able_49 : decode prog_8_method_6_code 49 = .ok (.iconst 0, 1) := by decide +kernel
theorem zd_Situation_able_50 : decode prog_8_method_6_code 50 = .ok (.istore_n 3, 1) := by decide +kernel
theorem zd_Situation_able_51 : decode prog_8_method_6_code 51 = .ok (.iload_n 3, 1) := by decide +kernel
theorem zd_Situation_able_52 : decode prog_8_method_6_code 52 = .ok (.aload_n 0, 1) := by decide +kernel
theorem zd_Situation_able_53 : decode prog_8_method_6_code 53 = .ok (.getfield 19, 3) := by decide +kernel
theorem zd_Situation_able_56 : decode prog_8_method_6_code 56 = .ok (.getfield 75, 3) := by decide +kernel
theorem zd_Situation_able_59 : decode prog_8_method_6_code 59 = .ok (.if_icmp .ge 30, 3) := by decide +kernel
theorem zd_Situation_able_62 : decode prog_8_method_6_code 62 = .ok (.lload_n 1, 1) := by decide +kernel
theorem zd_Situation_able_63 : decode prog_8_method_6_code 63 = .ok (.aload_n 0, 1) := by decide +kernel
theorem zd_Situation_able_64 : decode prog_8_method_6_code 64 = .ok (.aload_n 0, 1) := by decide +kernel
theorem zd_Situation_able_65 : decode prog_8_method_6_code 65 = .ok (.getfield 19, 3) := by decide +kernel
theorem zd_Situation_able_68 : decode prog_8_method_6_code 68 = .ok (.iload_n 3, 1) := by decide +kernel
theorem zd_Situation_able_69 : decode prog_8_method_6_code 69 = .ok (.aload_n 0, 1) := by decide +kernel
theorem zd_Situation_able_70 : decode prog_8_method_6_code 70 = .ok (.getfield 34, 3) := by decide +kernel
theorem zd_Situation_able_73 : decode prog_8_method_6_code 73 = .ok (.iload_n 3, 1) := by decide +kernel
theorem zd_Situation_able_74 : decode prog_8_method_6_code 74 = .ok (.iaload, 1) := by decide +kernel
theorem zd_Situation_able_75 : decode prog_8_method_6_code 75 = .ok (.invokevirtual 78, 3) := by decide +kernel
theorem zd_Situation_able_78 : decode prog_8_method_6_code 78 = .ok (.invokevirtual 82, 3) := by decide +kernel
theorem zd_Situation_able_81 : decode prog_8_method_6_code 81 = .ok (.lor, 1) := by decide +kernel
theorem zd_Situation_able_82 : decode prog_8_method_6_code 82 = .ok (.lstore_n 1, 1) := by decide +kernel
theorem zd_Situation_able_83 : decode prog_8_method_6_code 83 = .ok (.iinc 3 1, 3) := by decide +kernel
theorem zd_Situation_able_86 : decode prog_8_method_6_code 86 = .ok (.goto (-35), 3) := by decide +kernel
theorem zd_Situation_able_89 : decode prog_8_method_6_code 89 = .ok (.aload_n 0, 1) := by decide +kernel
theorem zd_Situation_able_90 : decode prog_8_method_6_code 90 = .ok (.getfield 37, 3) := by decide +kernel
theorem zd_Situation_able_93 : decode prog_8_method_6_code 93 = .ok (.iconst (-1), 1) := by decide +kernel
theorem zd_Situation_able_94 : decode prog_8_method_6_code 94 = .ok (.if_icmp .ne 7, 3) := by decide +kernel
theorem zd_Situation_able_97 : decode prog_8_method_6_code 97 = .ok (.lconst 0, 1) := by decide +kernel
theorem zd_Situation_able_98 : decode prog_8_method_6_code 98 = .ok (.goto 25, 3) := by decide +kernel
theorem zd_Situation_able_101 : decode prog_8_method_6_code 101 = .ok (.lload_n 1, 1) := by decide +kernel
theorem zd_Situation_able_102 : decode prog_8_method_6_code 102 = .ok (.aload_n 0, 1) := by decide +kernel
theorem zd_Situation_able_103 : decode prog_8_method_6_code 103 = .ok (.getfield 19, 3) := by decide +kernel
theorem zd_Situation_able_106 : decode prog_8_method_6_code 106 = .ok (.aload_n 0, 1) := by decide +kernel
theorem zd_Situation_able_107 : decode prog_8_method_6_code 107 = .ok (.getfield 37, 3) := by decide +kernel
theorem zd_Situation_able_110 : decode prog_8_method_6_code 110 = .ok (.aload_n 0, 1) := by decide +kernel
theorem zd_Situation_able_111 : decode prog_8_method_6_code 111 = .ok (.getfield 34, 3) := by decide +kernel
theorem zd_Situation_able_114 : decode prog_8_method_6_code 114 = .ok (.aload_n 0, 1) := by decide +kernel
theorem zd_Situation_able_115 : decode prog_8_method_6_code 115 = .ok (.getfield 37, 3) := by decide +kernel
theorem zd_Situation_able_118 : decode prog_8_method_6_code 118 = .ok (.iaload, 1) := by decide +kernel
theorem zd_Situation_able_119 : decode prog_8_method_6_code 119 = .ok (.invokevirtual 78, 3) := by decide +kernel
theorem zd_Situation_able_122 : decode prog_8_method_6_code 122 = .ok (.land, 1) := by decide +kernel
theorem zd_Situation_able_123 : decode prog_8_method_6_code 123 = .ok (.lstore_n 3, 1) := by decide +kernel
theorem zd_Situation_able_124 : decode prog_8_method_6_code 124 = .ok (.lload_n 3, 1) := by decide +kernel
theorem zd_Situation_able_125 : decode prog_8_method_6_code 125 = .ok (.lconst 0, 1) := by decide +kernel
theorem zd_Situation_able_126 : decode prog_8_method_6_code 126 = .ok (.lcmp, 1) := by decide +kernel
theorem zd_Situation_able_127 : decode prog_8_method_6_code 127 = .ok (.ifCond .ne 7, 3) := by decide +kernel
theorem zd_Situation_able_130 : decode prog_8_method_6_code 130 = .ok (.lload_n 1, 1) := by decide +kernel
theorem zd_Situation_able_131 : decode prog_8_method_6_code 131 = .ok (.goto 4, 3) := by decide +kernel
theorem zd_Situation_able_134 : decode prog_8_method_6_code 134 = .ok (.lload_n 3, 1) := by decide +kernel
theorem zd_Situation_able_135 : decode prog_8_method_6_code 135 = .ok (.lreturn, 1) := by decide +kernel
theorem zd_Situation_ableOf_0 : decode prog_8_method_7_code 0 = .ok (.lconst 0, 1) := by decide +kernel
theorem zd_Situation_ableOf_1 : decode prog_8_method_7_code 1 = .ok (.lstore_n 3, 1) := by decide +kernel
theorem zd_Situation_ableOf_2 : decode prog_8_method_7_code 2 = .ok (.iconst 0, 1) := by decide +kernel
theorem zd_Situation_ableOf_3 : decode prog_8_method_7_code 3 = .ok (.istore 5, 2) := by decide +kernel
theorem zd_Situation_ableOf_5 : decode prog_8_method_7_code 5 = .ok (.iload 5, 2) := by decide +kernel
theorem zd_Situation_ableOf_7 : decode prog_8_method_7_code 7 = .ok (.aload_n 0, 1) := by decide +kernel
theorem zd_Situation_ableOf_8 : decode prog_8_method_7_code 8 = .ok (.getfield 19, 3) := by decide +kernel
theorem zd_Situation_ableOf_11 : decode prog_8_method_7_code 11 = .ok (.getfield 86, 3) := by decide +kernel
theorem zd_Situation_ableOf_14 : decode prog_8_method_7_code 14 = .ok (.if_icmp .ge 36, 3) := by decide +kernel
theorem zd_Situation_ableOf_17 : decode prog_8_method_7_code 17 = .ok (.lload_n 1, 1) := by decide +kernel
theorem zd_Situation_ableOf_18 : decode prog_8_method_7_code 18 = .ok (.iload 5, 2) := by decide +kernel
theorem zd_Situation_ableOf_20 : decode prog_8_method_7_code 20 = .ok (.lushr, 1) := by decide +kernel
theorem zd_Situation_ableOf_21 : decode prog_8_method_7_code 21 = .ok (.lconst 1, 1) := by decide +kernel
theorem zd_Situation_ableOf_22 : decode prog_8_method_7_code 22 = .ok (.land, 1) := by decide +kernel
theorem zd_Situation_ableOf_23 : decode prog_8_method_7_code 23 = .ok (.lconst 0, 1) := by decide +kernel
theorem zd_Situation_ableOf_24 : decode prog_8_method_7_code 24 = .ok (.lcmp, 1) := by decide +kernel
theorem zd_Situation_ableOf_25 : decode prog_8_method_7_code 25 = .ok (.ifCond .eq 19, 3) := by decide +kernel
theorem zd_Situation_ableOf_28 : decode prog_8_method_7_code 28 = .ok (.aload_n 0, 1) := by decide +kernel
theorem zd_Situation_ableOf_29 : decode prog_8_method_7_code 29 = .ok (.iload 5, 2) := by decide +kernel
theorem zd_Situation_ableOf_31 : decode prog_8_method_7_code 31 = .ok (.invokevirtual 89, 3) := by decide +kernel
theorem zd_Situation_ableOf_34 : decode prog_8_method_7_code 34 = .ok (.ifCond .eq 10, 3) := by decide +kernel
theorem zd_Situation_ableOf_37 : decode prog_8_method_7_code 37 = .ok (.lload_n 3, 1) := by decide +kernel
theorem zd_Situation_ableOf_38 : decode prog_8_method_7_code 38 = .ok (.lconst 1, 1) := by decide +kernel
theorem zd_Situation_ableOf_39 : decode prog_8_method_7_code 39 = .ok (.iload 5, 2) := by decide +kernel
theorem zd_Situation_ableOf_41 : decode prog_8_method_7_code 41 = .ok (.lshl, 1) := by decide +kernel
theorem zd_Situation_ableOf_42 : decode prog_8_method_7_code 42 = .ok (.lor, 1) := by decide +kernel
theorem zd_Situation_ableOf_43 : decode prog_8_method_7_code 43 = .ok (.lstore_n 3, 1) := by decide +kernel
theorem zd_Situation_ableOf_44 : decode prog_8_method_7_code 44 = .ok (.iinc 5 1, 3) := by decide +kernel
theorem zd_Situation_ableOf_47 : decode prog_8_method_7_code 47 = .ok (.goto (-42), 3) := by decide +kernel
theorem zd_Situation_ableOf_50 : decode prog_8_method_7_code 50 = .ok (.lload_n 3, 1) := by decide +kernel
theorem zd_Situation_ableOf_51 : decode prog_8_method_7_code 51 = .ok (.lconst 0, 1) := by decide +kernel
theorem zd_Situation_ableOf_52 : decode prog_8_method_7_code 52 = .ok (.lcmp, 1) := by decide +kernel
theorem zd_Situation_ableOf_53 : decode prog_8_method_7_code 53 = .ok (.ifCond .ne 15, 3) := by decide +kernel
theorem zd_Situation_ableOf_56 : decode prog_8_method_7_code 56 = .ok (.lload_n 1, 1) := by decide +kernel
theorem zd_Situation_ableOf_57 : decode prog_8_method_7_code 57 = .ok (.aload_n 0, 1) := by decide +kernel
theorem zd_Situation_ableOf_58 : decode prog_8_method_7_code 58 = .ok (.getfield 19, 3) := by decide +kernel
theorem zd_Situation_ableOf_61 : decode prog_8_method_7_code 61 = .ok (.getfield 93, 3) := by decide +kernel
theorem zd_Situation_ableOf_64 : decode prog_8_method_7_code 64 = .ok (.land, 1) := by decide +kernel
theorem zd_Situation_ableOf_65 : decode prog_8_method_7_code 65 = .ok (.goto 4, 3) := by decide +kernel
theorem zd_Situation_ableOf_68 : decode prog_8_method_7_code 68 = .ok (.lload_n 3, 1) := by decide +kernel
theorem zd_Situation_ableOf_69 : decode prog_8_method_7_code 69 = .ok (.lreturn, 1) := by decide +kernel
theorem zd_Situation_canBeDone_0 : decode prog_8_method_8_code 0 = .ok (.aload_n 0, 1) := by decide +kernel
theorem zd_Situation_canBeDone_1 : decode prog_8_method_8_code 1 = .ok (.getfield 19, 3) := by decide +kernel
theorem zd_Situation_canBeDone_4 : decode prog_8_method_8_code 4 = .ok (.getfield 96, 3) := by decide +kernel
theorem zd_Situation_canBeDone_7 : decode prog_8_method_8_code 7 = .ok (.iload_n 1, 1) := by decide +kernel
theorem zd_Situation_canBeDone_8 : decode prog_8_method_8_code 8 = .ok (.iaload, 1) := by decide +kernel
theorem zd_Situation_canBeDone_9 : decode prog_8_method_8_code 9 = .ok (.tableswitch 121 0 4 #[35, 37, 66, 98, 35], 35) := by decide +kernel
theorem zd_Situation_canBeDone_44 : decode prog_8_method_8_code 44 = .ok (.iconst 1, 1) := by decide +kernel
theorem zd_Situation_canBeDone_45 : decode prog_8_method_8_code 45 = .ok (.ireturn, 1) := by decide +kernel
theorem zd_Situation_canBeDone_46 : decode prog_8_method_8_code 46 = .ok (.aload_n 0, 1) := by decide +kernel
theorem zd_Situation_canBeDone_47 : decode prog_8_method_8_code 47 = .ok (.getfield 15, 3) := by decide +kernel
theorem zd_Situation_canBeDone_50 : decode prog_8_method_8_code 50 = .ok (.aload_n 0, 1) := by decide +kernel
theorem zd_Situation_canBeDone_51 : decode prog_8_method_8_code 51 = .ok (.getfield 19, 3) := by decide +kernel
theorem zd_Situation_canBeDone_54 : decode prog_8_method_8_code 54 = .ok (.getfield 99, 3) := by decide +kernel
theorem zd_Situation_canBeDone_57 : decode prog_8_method_8_code 57 = .ok (.iload_n 1, 1) := by decide +kernel
theorem zd_Situation_canBeDone_58 : decode prog_8_method_8_code 58 = .ok (.iaload, 1) := by decide +kernel
theorem zd_Situation_canBeDone_59 : decode prog_8_method_8_code 59 = .ok (.aload_n 0, 1) := by decide +kernel
theorem zd_Situation_canBeDone_60 : decode prog_8_method_8_code 60 = .ok (.getfield 25, 3) := by decide +kernel
theorem zd_Situation_canBeDone_63 : decode prog_8_method_8_code 63 = .ok (.invokevirtual 102, 3) := by decide +kernel
theorem zd_Situation_canBeDone_66 : decode prog_8_method_8_code 66 = .ok (.ifCond .eq 7, 3) := by decide +kernel
theorem zd_Situation_canBeDone_69 : decode prog_8_method_8_code 69 = .ok (.iconst 1, 1) := by decide +kernel
theorem zd_Situation_canBeDone_70 : decode prog_8_method_8_code 70 = .ok (.goto 4, 3) := by decide +kernel
theorem zd_Situation_canBeDone_73 : decode prog_8_method_8_code 73 = .ok (.iconst 0, 1) := by decide +kernel
theorem zd_Situation_canBeDone_74 : decode prog_8_method_8_code 74 = .ok (.ireturn, 1) := by decide +kernel
theorem zd_Situation_canBeDone_75 : decode prog_8_method_8_code 75 = .ok (.aload_n 0, 1) := by decide +kernel
theorem zd_Situation_canBeDone_76 : decode prog_8_method_8_code 76 = .ok (.aload_n 0, 1) := by decide +kernel
theorem zd_Situation_canBeDone_77 : decode prog_8_method_8_code 77 = .ok (.getfield 19, 3) := by decide +kernel
theorem zd_Situation_canBeDone_80 : decode prog_8_method_8_code 80 = .ok (.getfield 108, 3) := by decide +kernel
theorem zd_Situation_canBeDone_83 : decode prog_8_method_8_code 83 = .ok (.iload_n 1, 1) := by decide +kernel
theorem zd_Situation_canBeDone_84 : decode prog_8_method_8_code 84 = .ok (.iaload, 1) := by decide +kernel
theorem zd_Situation_canBeDone_85 : decode prog_8_method_8_code 85 = .ok (.invokevirtual 111, 3) := by decide +kernel
theorem zd_Situation_canBeDone_88 : decode prog_8_method_8_code 88 = .ok (.ifCond .ne 13, 3) := by decide +kernel
theorem zd_Situation_canBeDone_91 : decode prog_8_method_8_code 91 = .ok (.aload_n 0, 1) := by decide +kernel
theorem zd_Situation_canBeDone_92 : decode prog_8_method_8_code 92 = .ok (.iload_n 1, 1) := by decide +kernel
theorem zd_Situation_canBeDone_93 : decode prog_8_method_8_code 93 = .ok (.invokevirtual 114, 3) := by decide +kernel
theorem zd_Situation_canBeDone_96 : decode prog_8_method_8_code 96 = .ok (.lconst 0, 1) := by decide +kernel
theorem zd_Situation_canBeDone_97 : decode prog_8_method_8_code 97 = .ok (.lcmp, 1) := by decide +kernel
theorem zd_Situation_canBeDone_98 : decode prog_8_method_8_code 98 = .ok (.ifCond .eq 7, 3) := by decide +kernel
theorem zd_Situation_canBeDone_101 : decode prog_8_method_8_code 101 = .ok (.iconst 1, 1) := by decide +kernel
theorem zd_Situation_canBeDone_102 : decode prog_8_method_8_code 102 = .ok (.goto 4, 3) := by decide +kernel
theorem zd_Situation_canBeDone_105 : decode prog_8_method_8_code 105 = .ok (.iconst 0, 1) := by decide +kernel
theorem zd_Situation_canBeDone_106 : decode prog_8_method_8_code 106 = .ok (.ireturn, 1) := by decide +kernel
theorem zd_Situation_canBeDone_107 : decode prog_8_method_8_code 107 = .ok (.aload_n 0, 1) := by decide +kernel
theorem zd_Situation_canBeDone_108 : decode prog_8_method_8_code 108 = .ok (.getfield 25, 3) := by decide +kernel
theorem zd_Situation_canBeDone_111 : decode prog_8_method_8_code 111 = .ok (.aload_n 0, 1) := by decide +kernel
theorem zd_Situation_canBeDone_112 : decode prog_8_method_8_code 112 = .ok (.getfield 19, 3) := by decide +kernel
theorem zd_Situation_canBeDone_115 : decode prog_8_method_8_code 115 = .ok (.getfield 108, 3) := by decide +kernel
theorem zd_Situation_canBeDone_118 : decode prog_8_method_8_code 118 = .ok (.iload_n 1, 1) := by decide +kernel
theorem zd_Situation_canBeDone_119 : decode prog_8_method_8_code 119 = .ok (.iaload, 1) := by decide +kernel
theorem zd_Situation_canBeDone_120 : decode prog_8_method_8_code 120 = .ok (.iaload, 1) := by decide +kernel
theorem zd_Situation_canBeDone_121 : decode prog_8_method_8_code 121 = .ok (.ifCond .le 7, 3) := by decide +kernel
theorem zd_Situation_canBeDone_124 : decode prog_8_method_8_code 124 = .ok (.iconst 1, 1) := by decide +kernel
theorem zd_Situation_canBeDone_125 : decode prog_8_method_8_code 125 = .ok (.goto 4, 3) := by decide +kernel
theorem zd_Situation_canBeDone_128 : decode prog_8_method_8_code 128 = .ok (.iconst 0, 1) := by decide +kernel
theorem zd_Situation_canBeDone_129 : decode prog_8_method_8_code 129 = .ok (.ireturn, 1) := by decide +kernel
theorem zd_Situation_canBeDone_130 : decode prog_8_method_8_code 130 = .ok (.iconst 0, 1) := by decide +kernel
theorem zd_Situation_canBeDone_131 : decode prog_8_method_8_code 131 = .ok (.ireturn, 1) := by decide +kernel
theorem zd_Situation_hasFreeSlot_0 : decode prog_8_method_9_code 0 = .ok (.aload_n 0, 1) := by decide +kernel
theorem zd_Situation_hasFreeSlot_1 : decode prog_8_method_9_code 1 = .ok (.getfield 25, 3) := by decide +kernel
theorem zd_Situation_hasFreeSlot_4 : decode prog_8_method_9_code 4 = .ok (.iload_n 1, 1) := by decide +kernel
theorem zd_Situation_hasFreeSlot_5 : decode prog_8_method_9_code 5 = .ok (.iaload, 1) := by decide +kernel
theorem zd_Situation_hasFreeSlot_6 : decode prog_8_method_9_code 6 = .ok (.aload_n 0, 1) := by decide +kernel
theorem zd_Situation_hasFreeSlot_7 : decode prog_8_method_9_code 7 = .ok (.getfield 9, 3) := by decide +kernel
theorem zd_Situation_hasFreeSlot_10 : decode prog_8_method_9_code 10 = .ok (.getfield 53, 3) := by decide +kernel
theorem zd_Situation_hasFreeSlot_13 : decode prog_8_method_9_code 13 = .ok (.iload_n 1, 1) := by decide +kernel
theorem zd_Situation_hasFreeSlot_14 : decode prog_8_method_9_code 14 = .ok (.iaload, 1) := by decide +kernel
theorem zd_Situation_hasFreeSlot_15 : decode prog_8_method_9_code 15 = .ok (.if_icmp .ge 7, 3) := by decide +kernel
theorem zd_Situation_hasFreeSlot_18 : decode prog_8_method_9_code 18 = .ok (.iconst 1, 1) := by decide +kernel
theorem zd_Situation_hasFreeSlot_19 : decode prog_8_method_9_code 19 = .ok (.goto 4, 3) := by decide +kernel
theorem zd_Situation_hasFreeSlot_22 : decode prog_8_method_9_code 22 = .ok (.iconst 0, 1) := by decide +kernel
theorem zd_Situation_hasFreeSlot_23 : decode prog_8_method_9_code 23 = .ok (.ireturn, 1) := by decide +kernel
def wc_Graph_addStepsBy_81 (a0 : Int32) (a1 : Int32) (Post : Int32 → (Nat → Int32) → (Nat → Int64) → (Nat → Nat → Int32) → (Nat → Nat → Int64) → Prop) (x5 : Int32) (I : Nat → Int32) (J : Nat → Int64) (B : Nat → Nat → Int32) (D : Nat → Nat → Int64) : Prop :=
  (x5 = 0 ∨ x5 = 1) ∧ Post x5 I J B D
def wc_Graph_addStepsBy_75 (a0 : Int32) (a1 : Int32) (K42 : Int32 → Int32 → Int64 → Int32 → Int32 → (Nat → Int32) → (Nat → Int64) → (Nat → Nat → Int32) → (Nat → Nat → Int64) → Prop) (Post : Int32 → (Nat → Int32) → (Nat → Int64) → (Nat → Nat → Int32) → (Nat → Nat → Int64) → Prop) (x1 : Int32) (x2 : Int32) (x3 : Int64) (x5 : Int32) (x6 : Int32) (I : Nat → Int32) (J : Nat → Int64) (B : Nat → Nat → Int32) (D : Nat → Nat → Int64) : Prop :=
  ∀ z1 : Int32, z1 = (x6 + 1) → K42 x1 x2 x3 x5 z1 I J B D
def wb_Graph_addStepsBy_42 (a0 : Int32) (a1 : Int32) (K42 : Int32 → Int32 → Int64 → Int32 → Int32 → (Nat → Int32) → (Nat → Int64) → (Nat → Nat → Int32) → (Nat → Nat → Int64) → Prop) (Post : Int32 → (Nat → Int32) → (Nat → Int64) → (Nat → Nat → Int32) → (Nat → Nat → Int64) → Prop) (x1 : Int32) (x2 : Int32) (x3 : Int64) (x5 : Int32) (x6 : Int32) (I : Nat → Int32) (J : Nat → Int64) (B : Nat → Nat → Int32) (D : Nat → Nat → Int64) : Prop :=
  (((48 : Int32) ≤ x6 → wc_Graph_addStepsBy_81 a0 a1 Post x5 I J B D) ∧ (¬ (48 : Int32) ≤ x6 → ((x5 = 0 → wc_Graph_addStepsBy_81 a0 a1 Post x5 I J B D) ∧ (¬ x5 = 0 → ∀ z4 : Int64, z4 = (x3.toUInt64 >>> (x6.toInt64.toUInt64 &&& Int64.toUInt64 63)).toInt64 → ∀ z5 : Int64, z5 = (z4 &&& 1) → ∀ z6 : Int32, z6 = (lg_cmp z5 0) → ((z6 = 0 → wc_Graph_addStepsBy_75 a0 a1 K42 Post x1 x2 x3 x5 x6 I J B D) ∧ (¬ z6 = 0 → wp_Graph_addDone I J B D x1 x2 x6 (fun r8 I8 J8 B8 D8 => wc_Graph_addStepsBy_75 a0 a1 K42 Post x1 x2 x3 r8 x6 I8 J8 B8 D8)))))))
def wl_Graph_addStepsBy_42 (a0 : Int32) (a1 : Int32) (Post : Int32 → (Nat → Int32) → (Nat → Int64) → (Nat → Nat → Int32) → (Nat → Nat → Int64) → Prop) (n : Nat) : Int32 → Int32 → Int64 → Int32 → Int32 → (Nat → Int32) → (Nat → Int64) → (Nat → Nat → Int32) → (Nat → Nat → Int64) → Prop := Nat.rec (fun _ _ _ _ _ _ _ _ _ => False) (fun _ r => wb_Graph_addStepsBy_42 a0 a1 r Post) n
def wp_Graph_addStepsBy (I : Nat → Int32) (J : Nat → Int64) (B : Nat → Nat → Int32) (D : Nat → Nat → Int64) (a0 : Int32) (a1 : Int32) (Post : Int32 → (Nat → Int32) → (Nat → Int64) → (Nat → Nat → Int32) → (Nat → Nat → Int64) → Prop) : Prop :=
  vp_in a0 96 ∧ ∀ z9 : Int64, z9 = ((D 2) a0.toNatClampNeg) → wp_Situation_unpack I J B D z9 (fun I10 J10 B10 D10 => wp_Situation_partners I10 J10 B10 D10 a1 (fun r11 I11 J11 B11 D11 => ∀ z12 : Int32, z12 = (lg_cmp r11 0) → ((¬ z12 = 0 → ∃ n : Nat, wl_Graph_addStepsBy_42 a0 a1 Post n a0 a1 r11 1 0 I11 J11 B11 D11) ∧ (z12 = 0 → wp_Graph_addDone I11 J11 B11 D11 a0 a1 (-1) (fun r14 I14 J14 B14 D14 => (r14 = 0 ∨ r14 = 1) ∧ Post r14 I14 J14 B14 D14)))))
set_option maxHeartbeats 8000000 in
set_option maxRecDepth 100000 in
theorem wJ_Graph_addStepsBy_81 {p : Program} {l : Launch} {e : Env} {s : State} {m : MethodId} {below : List Frame} {meth : Method} {c : Code} {A : Nat → Prop} (G : va_G) (K : Nat → ClassId) (ad : Nat → Nat) (sv : Value) (a0 : Int32) (a1 : Int32) (Post : Int32 → (Nat → Int32) → (Nat → Int64) → (Nat → Nat → Int32) → (Nat → Nat → Int64) → Prop) (C : zCx p s m ([.ref (ad 8), .int a0, .int a1] : List Value).toArray meth c A G K prog_3_method_5_code (some .boolean) 7 "LassoFinder$Graph") : ∀ (x5 : Int32) (I : Nat → Int32) (J : Nat → Int64) (B : Nat → Nat → Int32) (D : Nat → Nat → Int64) (ls : Array Slot) (H : Heap) (locs : List Loc), wc_Graph_addStepsBy_81 a0 a1 Post x5 I J B D → lv_has ls 7 [(5, .int x5)] → zW G A s.heap (wX ad K sv I J B D) H locs → W p l e { frames := 4, cells := 0, slots := 0, locals := 95 } s m ([.ref (ad 8), .int a0, .int a1] : List Value).toArray below meth c H locs 0 0 (MQ below (va_Qi (fun (r : Int32) (u : zS) => Post r u.1 u.2.1 u.2.2.1 u.2.2.2) (fun u t => zPost G K A (wX ad K sv u.1 u.2.1 u.2.2.1 u.2.2.2) t) A) ([.ref (ad 8), .int a0, .int a1] : List Value).toArray s 0 0 A) (F0 m 81 ls []) := by
  obtain ⟨hx, hb, hr, hml, hts, hown, hlocks, hA, hK⟩ := id C
  intro x5 I J B D ls H locs hok hl hw
  unfold wc_Graph_addStepsBy_81 at hok
  refine lv_iload hx hb zd_Graph_addStepsBy_81 (lv_at hl 0 rfl) ?_
  have hbo := hok.1
  have hok := hok.2
  exact (z_iret (u := (I, J, B, D)) hx hb hr hlocks (z_nar hbo) hw (List.range 65) wX_all wX_nd hok (Nat.le_of_ble_eq_true rfl) (Nat.le_of_ble_eq_true rfl) zd_Graph_addStepsBy_83)
set_option maxHeartbeats 8000000 in
set_option maxRecDepth 100000 in
theorem wJ_Graph_addStepsBy_75 {p : Program} {l : Launch} {e : Env} {s : State} {m : MethodId} {below : List Frame} {meth : Method} {c : Code} {A : Nat → Prop} (G : va_G) (K : Nat → ClassId) (ad : Nat → Nat) (sv : Value) (a0 : Int32) (a1 : Int32) (Post : Int32 → (Nat → Int32) → (Nat → Int64) → (Nat → Nat → Int32) → (Nat → Nat → Int64) → Prop) (C : zCx p s m ([.ref (ad 8), .int a0, .int a1] : List Value).toArray meth c A G K prog_3_method_5_code (some .boolean) 7 "LassoFinder$Graph") (K42 : Int32 → Int32 → Int64 → Int32 → Int32 → (Nat → Int32) → (Nat → Int64) → (Nat → Nat → Int32) → (Nat → Nat → Int64) → Prop) (kh42 : ∀ (x1 : Int32) (x2 : Int32) (x3 : Int64) (x5 : Int32) (x6 : Int32) (I : Nat → Int32) (J : Nat → Int64) (B : Nat → Nat → Int32) (D : Nat → Nat → Int64) (ls : Array Slot) (H : Heap) (locs : List Loc), K42 x1 x2 x3 x5 x6 I J B D → lv_has ls 7 [(0, .ref (ad 8)), (1, .int x1), (2, .int x2), (3, .long x3), (5, .int x5), (6, .int x6)] → zW G A s.heap (wX ad K sv I J B D) H locs → W p l e { frames := 4, cells := 0, slots := 0, locals := 95 } s m ([.ref (ad 8), .int a0, .int a1] : List Value).toArray below meth c H locs 0 0 (MQ below (va_Qi (fun (r : Int32) (u : zS) => Post r u.1 u.2.1 u.2.2.1 u.2.2.2) (fun u t => zPost G K A (wX ad K sv u.1 u.2.1 u.2.2.1 u.2.2.2) t) A) ([.ref (ad 8), .int a0, .int a1] : List Value).toArray s 0 0 A) (F0 m 42 ls [])) : ∀ (x1 : Int32) (x2 : Int32) (x3 : Int64) (x5 : Int32) (x6 : Int32) (I : Nat → Int32) (J : Nat → Int64) (B : Nat → Nat → Int32) (D : Nat → Nat → Int64) (ls : Array Slot) (H : Heap) (locs : List Loc), wc_Graph_addStepsBy_75 a0 a1 K42 Post x1 x2 x3 x5 x6 I J B D → lv_has ls 7 [(0, .ref (ad 8)), (1, .int x1), (2, .int x2), (3, .long x3), (5, .int x5), (6, .int x6)] → zW G A s.heap (wX ad K sv I J B D) H locs → W p l e { frames := 4, cells := 0, slots := 0, locals := 95 } s m ([.ref (ad 8), .int a0, .int a1] : List Value).toArray below meth c H locs 0 0 (MQ below (va_Qi (fun (r : Int32) (u : zS) => Post r u.1 u.2.1 u.2.2.1 u.2.2.2) (fun u t => zPost G K A (wX ad K sv u.1 u.2.1 u.2.2.1 u.2.2.2) t) A) ([.ref (ad 8), .int a0, .int a1] : List Value).toArray s 0 0 A) (F0 m 75 ls []) := by
  obtain ⟨hx, hb, hr, hml, hts, hown, hlocks, hA, hK⟩ := id C
  intro x1 x2 x3 x5 x6 I J B D ls H locs hok hl hw
  unfold wc_Graph_addStepsBy_75 at hok
  obtain ⟨z1, ez1⟩ : ∃ z : Int32, z = (x6 + 1) := ⟨_, rfl⟩
  have hok := hok z1 ez1
  refine lv_iinc (v := z1) hx hb zd_Graph_addStepsBy_75 hl (k := 5) rfl ez1.symm (by decide) rfl (fun ls hl => ?_)
  have hl : lv_has ls 7 [(6, .int z1), (0, .ref (ad 8)), (1, .int x1), (2, .int x2), (3, .long x3), (5, .int x5)] := hl
  refine lv_goto (tgt := 42) hx hb zd_Graph_addStepsBy_78 (by decide) ?_
  exact kh42 x1 x2 x3 x5 z1 I J B D ls H locs hok (lv_sub hl [1, 2, 3, 4, 5, 0] rfl) hw
set_option maxHeartbeats 8000000 in
set_option maxRecDepth 100000 in
theorem wB_Graph_addStepsBy_42 {p : Program} {l : Launch} {e : Env} {s : State} {m : MethodId} {below : List Frame} {meth : Method} {c : Code} {A : Nat → Prop} (G : va_G) (K : Nat → ClassId) (ad : Nat → Nat) (sv : Value) (a0 : Int32) (a1 : Int32) (Post : Int32 → (Nat → Int32) → (Nat → Int64) → (Nat → Nat → Int32) → (Nat → Nat → Int64) → Prop) (C : zCx p s m ([.ref (ad 8), .int a0, .int a1] : List Value).toArray meth c A G K prog_3_method_5_code (some .boolean) 7 "LassoFinder$Graph") (K42 : Int32 → Int32 → Int64 → Int32 → Int32 → (Nat → Int32) → (Nat → Int64) → (Nat → Nat → Int32) → (Nat → Nat → Int64) → Prop) (kh42 : ∀ (x1 : Int32) (x2 : Int32) (x3 : Int64) (x5 : Int32) (x6 : Int32) (I : Nat → Int32) (J : Nat → Int64) (B : Nat → Nat → Int32) (D : Nat → Nat → Int64) (ls : Array Slot) (H : Heap) (locs : List Loc), K42 x1 x2 x3 x5 x6 I J B D → lv_has ls 7 [(0, .ref (ad 8)), (1, .int x1), (2, .int x2), (3, .long x3), (5, .int x5), (6, .int x6)] → zW G A s.heap (wX ad K sv I J B D) H locs → W p l e { frames := 4, cells := 0, slots := 0, locals := 95 } s m ([.ref (ad 8), .int a0, .int a1] : List Value).toArray below meth c H locs 0 0 (MQ below (va_Qi (fun (r : Int32) (u : zS) => Post r u.1 u.2.1 u.2.2.1 u.2.2.2) (fun u t => zPost G K A (wX ad K sv u.1 u.2.1 u.2.2.1 u.2.2.2) t) A) ([.ref (ad 8), .int a0, .int a1] : List Value).toArray s 0 0 A) (F0 m 42 ls [])) : ∀ (x1 : Int32) (x2 : Int32) (x3 : Int64) (x5 : Int32) (x6 : Int32) (I : Nat → Int32) (J : Nat → Int64) (B : Nat → Nat → Int32) (D : Nat → Nat → Int64) (ls : Array Slot) (H : Heap) (locs : List Loc), wb_Graph_addStepsBy_42 a0 a1 K42 Post x1 x2 x3 x5 x6 I J B D → lv_has ls 7 [(0, .ref (ad 8)), (1, .int x1), (2, .int x2), (3, .long x3), (5, .int x5), (6, .int x6)] → zW G A s.heap (wX ad K sv I J B D) H locs → W p l e { frames := 4, cells := 0, slots := 0, locals := 95 } s m ([.ref (ad 8), .int a0, .int a1] : List Value).toArray below meth c H locs 0 0 (MQ below (va_Qi (fun (r : Int32) (u : zS) => Post r u.1 u.2.1 u.2.2.1 u.2.2.2) (fun u t => zPost G K A (wX ad K sv u.1 u.2.1 u.2.2.1 u.2.2.2) t) A) ([.ref (ad 8), .int a0, .int a1] : List Value).toArray s 0 0 A) (F0 m 42 ls []) := by
  obtain ⟨hx, hb, hr, hml, hts, hown, hlocks, hA, hK⟩ := id C
  intro x1 x2 x3 x5 x6 I J B D ls H locs hok hl hw
  unfold wb_Graph_addStepsBy_42 at hok
  refine lv_iload hx hb zd_Graph_addStepsBy_42 (lv_at hl 5 rfl) ?_
  refine lv_bipush (v := 48) hx hb zd_Graph_addStepsBy_44 (by decide) ?_
  refine lv_icmp_ge (tgt := 81) hx hb zd_Graph_addStepsBy_46 (by decide) (fun hc2 => ?_) (fun hc2 => ?_)
  · have hok := hok.1 hc2
    exact wJ_Graph_addStepsBy_81 G K ad sv a0 a1 Post C x5 I J B D ls H locs hok (lv_sub hl [4] rfl) hw
  · have hok := hok.2 hc2
    refine lv_iload hx hb zd_Graph_addStepsBy_49 (lv_at hl 4 rfl) ?_
    refine lv_if_eq (tgt := 81) hx hb zd_Graph_addStepsBy_51 (by decide) (fun hc3 => ?_) (fun hc3 => ?_)
    · have hok := hok.1 hc3
      exact wJ_Graph_addStepsBy_81 G K ad sv a0 a1 Post C x5 I J B D ls H locs hok (lv_sub hl [4] rfl) hw
    · have hok := hok.2 hc3
      refine lv_lload_n hx hb zd_Graph_addStepsBy_54 rfl (lv_at hl 3 rfl) ?_
      refine lv_iload hx hb zd_Graph_addStepsBy_55 (lv_at hl 5 rfl) ?_
      refine lv_lushr hx hb zd_Graph_addStepsBy_57 rfl ?_
      refine lv_topl (fun z4 ez4 => ?_)
      have hok := hok z4 ez4
      refine lv_lconst (v := 1) hx hb zd_Graph_addStepsBy_58 (by decide) ?_
      refine lv_land hx hb zd_Graph_addStepsBy_59 ?_
      refine lv_topl (fun z5 ez5 => ?_)
      have hok := hok z5 ez5
      refine lv_lconst (v := 0) hx hb zd_Graph_addStepsBy_60 (by decide) ?_
      refine W.lcmp hx hb zd_Graph_addStepsBy_61 ?_
      refine lv_topi (fun z6 ez6 => ?_)
      have hok := hok z6 ez6
      refine lv_if_eq (tgt := 75) hx hb zd_Graph_addStepsBy_62 (by decide) (fun hc7 => ?_) (fun hc7 => ?_)
      · have hok := hok.1 hc7
        exact wJ_Graph_addStepsBy_75 G K ad sv a0 a1 Post C K42 kh42 x1 x2 x3 x5 x6 I J B D ls H locs hok (lv_sub hl [0, 1, 2, 3, 4, 5] rfl) hw
      · have hok := hok.2 hc7
        refine lv_aload_n hx hb zd_Graph_addStepsBy_65 rfl (lv_at hl 0 rfl) ?_
        refine lv_iload_n hx hb zd_Graph_addStepsBy_66 rfl (lv_at hl 1 rfl) ?_
        refine lv_iload_n hx hb zd_Graph_addStepsBy_67 rfl (lv_at hl 2 rfl) ?_
        refine lv_iload hx hb zd_Graph_addStepsBy_68 (lv_at hl 5 rfl) ?_
        refine z_calli (w1 := fun (u : zS) => wX ad K sv u.1 u.2.1 u.2.2.1 u.2.2.2) (wr := []) (z_runV (q0 := 8) (wc := (wX ad K sv I J B D)) (As := [.int x1, .int x2, .int x6]) (rest := []) ⟨hx, hb, hml, hown, hts⟩ (w_Graph_addDone l G K ad sv I J B D x1 x2 x6 _ H.size hok) zf_Graph_addDone zn_405 ⟨Nat.le_of_ble_eq_true rfl, Nat.le_of_ble_eq_true rfl⟩ hK hw (List.range 65) wX_all wX_nd wX_g8 rfl rfl hl.1 rfl (Nat.le_of_ble_eq_true rfl) zd_Graph_addStepsBy_70 ⟨Nat.le_of_ble_eq_true rfl, Nat.le_of_ble_eq_true rfl⟩) hw hA (List.range 65) [] wX_all rfl (by decide) (fun i hi => by cases hi) (fun r8 u H locs hok hw => ?_)
        obtain ⟨I8, J8, B8, D8⟩ := u
        dsimp only at hok
        have hw : zW G A s.heap (wX ad K sv I8 J8 B8 D8) H locs := hw
        refine lv_istore hx hb zd_Graph_addStepsBy_73 hl (by decide) rfl (fun ls hl => ?_)
        have hl : lv_has ls 7 [(5, .int r8), (0, .ref (ad 8)), (1, .int x1), (2, .int x2), (3, .long x3), (6, .int x6)] := hl
        exact wJ_Graph_addStepsBy_75 G K ad sv a0 a1 Post C K42 kh42 x1 x2 x3 r8 x6 I8 J8 B8 D8 ls H locs hok (lv_sub hl [1, 2, 3, 4, 0, 5] rfl) hw
theorem wL_Graph_addStepsBy_42 {p : Program} {l : Launch} {e : Env} {s : State} {m : MethodId} {below : List Frame} {meth : Method} {c : Code} {A : Nat → Prop} (G : va_G) (K : Nat → ClassId) (ad : Nat → Nat) (sv : Value) (a0 : Int32) (a1 : Int32) (Post : Int32 → (Nat → Int32) → (Nat → Int64) → (Nat → Nat → Int32) → (Nat → Nat → Int64) → Prop) (C : zCx p s m ([.ref (ad 8), .int a0, .int a1] : List Value).toArray meth c A G K prog_3_method_5_code (some .boolean) 7 "LassoFinder$Graph") : ∀ (n : Nat) (x1 : Int32) (x2 : Int32) (x3 : Int64) (x5 : Int32) (x6 : Int32) (I : Nat → Int32) (J : Nat → Int64) (B : Nat → Nat → Int32) (D : Nat → Nat → Int64) (ls : Array Slot) (H : Heap) (locs : List Loc), wl_Graph_addStepsBy_42 a0 a1 Post n x1 x2 x3 x5 x6 I J B D → lv_has ls 7 [(0, .ref (ad 8)), (1, .int x1), (2, .int x2), (3, .long x3), (5, .int x5), (6, .int x6)] → zW G A s.heap (wX ad K sv I J B D) H locs → W p l e { frames := 4, cells := 0, slots := 0, locals := 95 } s m ([.ref (ad 8), .int a0, .int a1] : List Value).toArray below meth c H locs 0 0 (MQ below (va_Qi (fun (r : Int32) (u : zS) => Post r u.1 u.2.1 u.2.2.1 u.2.2.2) (fun u t => zPost G K A (wX ad K sv u.1 u.2.1 u.2.2.1 u.2.2.2) t) A) ([.ref (ad 8), .int a0, .int a1] : List Value).toArray s 0 0 A) (F0 m 42 ls []) := by
  intro n
  induction n with
  | zero => intro x1 x2 x3 x5 x6 I J B D ls H locs hok; exact hok.elim
  | succ n ih => exact wB_Graph_addStepsBy_42 G K ad sv a0 a1 Post C (wl_Graph_addStepsBy_42 a0 a1 Post n) ih
set_option maxHeartbeats 8000000 in
set_option maxRecDepth 100000 in
theorem w_Graph_addStepsBy (l : Launch) (G : va_G) (K : Nat → ClassId) (ad : Nat → Nat) (sv : Value) (I : Nat → Int32) (J : Nat → Int64) (B : Nat → Nat → Int32) (D : Nat → Nat → Int64) (a0 : Int32) (a1 : Int32) (Post : Int32 → (Nat → Int32) → (Nat → Int64) → (Nat → Nat → Int32) → (Nat → Nat → Int64) → Prop) (sz : Nat) (hok : wp_Graph_addStepsBy I J B D a0 a1 Post) : Met l zy_Graph_addStepsBy (Cond.code zy_Graph_addStepsBy prog_3_method_5_code 7 (some .boolean) :: zTB) { frames := 4, cells := 0, slots := 0, locals := 95 } (va_Pc [.ref (ad 8), .int a0, .int a1] (zPre G K (wX ad K sv I J B D) sz)) (va_Qi (fun (r : Int32) (u : zS) => Post r u.1 u.2.1 u.2.2.1 u.2.2.2) (fun u t => zPost G K (va_A (wX ad K sv I J B D) sz) (wX ad K sv u.1 u.2.1 u.2.2.1 u.2.2.2) t) (va_A (wX ad K sv I J B D) sz)) 0 0 (va_A (wX ad K sv I J B D) sz) := by
  refine zMet (y := zy_Graph_addStepsBy) (av := [.ref (ad 8), .int a0, .int a1]) (maxL := 7) (cc := prog_3_method_5_code) (ret := (some .boolean)) (W0 := (wX ad K sv I J B D)) (sz := sz) (G := G) (K := K) (wt := zTB) (mc := 0) (ms := 0) (Qf := fun A => va_Qi (fun (r : Int32) (u : zS) => Post r u.1 u.2.1 u.2.2.1 u.2.2.2) (fun u t => zPost G K A (wX ad K sv u.1 u.2.1 u.2.2.1 u.2.2.2) t) A) (by decide) (Nat.le_of_ble_eq_true rfl) ?_
  intro p e s m below meth c ls A hx hb hr hml hts hown hlocks hin hA hK H locs hw hsz hl
  clear hsz
  have hown : s.vm.findClass "LassoFinder$Graph" = some m.cls := hown
  have C : zCx p s m ([.ref (ad 8), .int a0, .int a1] : List Value).toArray meth c A G K prog_3_method_5_code (some .boolean) 7 "LassoFinder$Graph" := ⟨hx, hb, hr, hml, hts, hown, hlocks, hA, hK⟩
  have hl : lv_has ls 7 [(0, .ref (ad 8)), (1, .int a0), (2, .int a1)] := hl
  have hw : zW G A s.heap (wX ad K sv I J B D) H locs := hw
  unfold wp_Graph_addStepsBy at hok
  refine lv_aload_n hx hb zd_Graph_addStepsBy_0 rfl (lv_at hl 0 rfl) ?_
  refine z_get (v := .ref (ad 7)) hx hb hts hown hK hw zZ2 8 wX_g8 0 (by decide) zn_460 rfl zd_Graph_addStepsBy_1 ?_
  refine lv_aload_n hx hb zd_Graph_addStepsBy_4 rfl (lv_at hl 0 rfl) ?_
  refine z_get (v := .ref (ad 46)) hx hb hts hown hK hw zZ2 8 wX_g8 1 (by decide) zn_269 rfl zd_Graph_addStepsBy_5 ?_
  refine lv_iload_n hx hb zd_Graph_addStepsBy_8 rfl (lv_at hl 1 rfl) ?_
  refine va_lald (f := (D 2)) hx hb hK hw.1 46 1 wX_a46 rfl hok.1 zd_Graph_addStepsBy_9 ?_
  have hok := hok.2
  refine lv_topl (fun z9 ez9 => ?_)
  have hok := hok z9 ez9
  refine z_callv (w1 := fun (u : zS) => wX ad K sv u.1 u.2.1 u.2.2.1 u.2.2.2) (wr := []) (z_runV (q0 := 7) (wc := (wX ad K sv I J B D)) (As := [.long z9]) (rest := []) ⟨hx, hb, hml, hown, hts⟩ (w_Situation_unpack l G K ad sv I J B D z9 _ H.size hok) zf_Situation_unpack zn_394 ⟨Nat.le_of_ble_eq_true rfl, Nat.le_of_ble_eq_true rfl⟩ hK hw (List.range 65) wX_all wX_nd wX_g7 rfl rfl hl.1 rfl (Nat.le_of_ble_eq_true rfl) zd_Graph_addStepsBy_10 ⟨Nat.le_of_ble_eq_true rfl, Nat.le_of_ble_eq_true rfl⟩) hw hA (List.range 65) [] wX_all rfl (by decide) (fun i hi => by cases hi) (fun u H locs hok hw => ?_)
  obtain ⟨I10, J10, B10, D10⟩ := u
  dsimp only at hok
  have hw : zW G A s.heap (wX ad K sv I10 J10 B10 D10) H locs := hw
  refine lv_aload_n hx hb zd_Graph_addStepsBy_13 rfl (lv_at hl 0 rfl) ?_
  refine z_get (v := .ref (ad 7)) hx hb hts hown hK hw zZ2 8 wX_g8 0 (by decide) zn_460 rfl zd_Graph_addStepsBy_14 ?_
  refine lv_iload_n hx hb zd_Graph_addStepsBy_17 rfl (lv_at hl 2 rfl) ?_
  refine z_calll (w1 := fun (u : zS) => wX ad K sv u.1 u.2.1 u.2.2.1 u.2.2.2) (wr := []) (z_runV (q0 := 7) (wc := (wX ad K sv I10 J10 B10 D10)) (As := [.int a1]) (rest := []) ⟨hx, hb, hml, hown, hts⟩ (w_Situation_partners l G K ad sv I10 J10 B10 D10 a1 _ H.size hok) zf_Situation_partners zn_404 ⟨Nat.le_of_ble_eq_true rfl, Nat.le_of_ble_eq_true rfl⟩ hK hw (List.range 65) wX_all wX_nd wX_g7 rfl rfl hl.1 rfl (Nat.le_of_ble_eq_true rfl) zd_Graph_addStepsBy_18 ⟨Nat.le_of_ble_eq_true rfl, Nat.le_of_ble_eq_true rfl⟩) hw hA (List.range 65) [] wX_all rfl (by decide) (fun i hi => by cases hi) (fun r11 u H locs hok hw => ?_)
  obtain ⟨I11, J11, B11, D11⟩ := u
  dsimp only at hok
  have hw : zW G A s.heap (wX ad K sv I11 J11 B11 D11) H locs := hw
  refine lv_lstore_n hx hb zd_Graph_addStepsBy_21 rfl hl (by decide) rfl (fun ls hl => ?_)
  have hl : lv_has ls 7 [(3, .long r11), (0, .ref (ad 8)), (1, .int a0), (2, .int a1)] := hl
  refine lv_lload_n hx hb zd_Graph_addStepsBy_22 rfl (lv_at hl 0 rfl) ?_
  refine lv_lconst (v := 0) hx hb zd_Graph_addStepsBy_23 (by decide) ?_
  refine W.lcmp hx hb zd_Graph_addStepsBy_24 ?_
  refine lv_topi (fun z12 ez12 => ?_)
  have hok := hok z12 ez12
  refine lv_if_ne (tgt := 36) hx hb zd_Graph_addStepsBy_25 (by decide) (fun hc13 => ?_) (fun hc13 => ?_)
  · have hok := hok.1 hc13
    refine lv_iconst (v := 1) hx hb zd_Graph_addStepsBy_36 (by decide) ?_
    refine lv_istore hx hb zd_Graph_addStepsBy_37 hl (by decide) rfl (fun ls hl => ?_)
    have hl : lv_has ls 7 [(5, .int 1), (3, .long r11), (0, .ref (ad 8)), (1, .int a0), (2, .int a1)] := hl
    refine lv_iconst (v := 0) hx hb zd_Graph_addStepsBy_39 (by decide) ?_
    refine lv_istore hx hb zd_Graph_addStepsBy_40 hl (by decide) rfl (fun ls hl => ?_)
    have hl : lv_has ls 7 [(6, .int 0), (5, .int 1), (3, .long r11), (0, .ref (ad 8)), (1, .int a0), (2, .int a1)] := hl
    obtain ⟨n9, hok⟩ := hok
    exact wL_Graph_addStepsBy_42 G K ad sv a0 a1 Post C n9 a0 a1 r11 1 0 I11 J11 B11 D11 ls H locs hok (lv_sub hl [3, 4, 5, 2, 1, 0] rfl) hw
  · have hok := hok.2 hc13
    refine lv_aload_n hx hb zd_Graph_addStepsBy_28 rfl (lv_at hl 1 rfl) ?_
    refine lv_iload_n hx hb zd_Graph_addStepsBy_29 rfl (lv_at hl 2 rfl) ?_
    refine lv_iload_n hx hb zd_Graph_addStepsBy_30 rfl (lv_at hl 3 rfl) ?_
    refine lv_iconst (v := (-1)) hx hb zd_Graph_addStepsBy_31 (by decide) ?_
    refine z_calli (w1 := fun (u : zS) => wX ad K sv u.1 u.2.1 u.2.2.1 u.2.2.2) (wr := []) (z_runV (q0 := 8) (wc := (wX ad K sv I11 J11 B11 D11)) (As := [.int a0, .int a1, .int (-1)]) (rest := []) ⟨hx, hb, hml, hown, hts⟩ (w_Graph_addDone l G K ad sv I11 J11 B11 D11 a0 a1 (-1) _ H.size hok) zf_Graph_addDone zn_405 ⟨Nat.le_of_ble_eq_true rfl, Nat.le_of_ble_eq_true rfl⟩ hK hw (List.range 65) wX_all wX_nd wX_g8 rfl rfl hl.1 rfl (Nat.le_of_ble_eq_true rfl) zd_Graph_addStepsBy_32 ⟨Nat.le_of_ble_eq_true rfl, Nat.le_of_ble_eq_true rfl⟩) hw hA (List.range 65) [] wX_all rfl (by decide) (fun i hi => by cases hi) (fun r14 u H locs hok hw => ?_)
    obtain ⟨I14, J14, B14, D14⟩ := u
    dsimp only at hok
    have hw : zW G A s.heap (wX ad K sv I14 J14 B14 D14) H locs := hw
    have hbo := hok.1
    have hok := hok.2
    exact (z_iret (u := (I14, J14, B14, D14)) hx hb hr hlocks (z_nar hbo) hw (List.range 65) wX_all wX_nd hok (Nat.le_of_ble_eq_true rfl) (Nat.le_of_ble_eq_true rfl) zd_Graph_addStepsBy_35)
def wc_Situation_hasFreeSlot_23 (a0 : Int32) (Post : Int32 → (Nat → Int32) → (Nat → Int64) → (Nat → Nat → Int32) → (Nat → Nat → Int64) → Prop) (y0 : Int32) (I : Nat → Int32) (J : Nat → Int64) (B : Nat → Nat → Int32) (D : Nat → Nat → Int64) : Prop :=
  (y0 = 0 ∨ y0 = 1) ∧ Post y0 I J B D
def wp_Situation_hasFreeSlot (I : Nat → Int32) (J : Nat → Int64) (B : Nat → Nat → Int32) (D : Nat → Nat → Int64) (a0 : Int32) (Post : Int32 → (Nat → Int32) → (Nat → Int64) → (Nat → Nat → Int32) → (Nat → Nat → Int64) → Prop) : Prop :=
  vp_in a0 8 ∧ ∀ z1 : Int32, z1 = ((B 29) a0.toNatClampNeg) → vp_in a0 8 ∧ ∀ z2 : Int32, z2 = ((B 3) a0.toNatClampNeg) → ((z2 ≤ z1 → wc_Situation_hasFreeSlot_23 a0 Post 0 I J B D) ∧ (¬ z2 ≤ z1 → wc_Situation_hasFreeSlot_23 a0 Post 1 I J B D))
set_option maxHeartbeats 8000000 in
set_option maxRecDepth 100000 in
theorem wJ_Situation_hasFreeSlot_23 {p : Program} {l : Launch} {e : Env} {s : State} {m : MethodId} {below : List Frame} {meth : Method} {c : Code} {A : Nat → Prop} (G : va_G) (K : Nat → ClassId) (ad : Nat → Nat) (sv : Value) (a0 : Int32) (Post : Int32 → (Nat → Int32) → (Nat → Int64) → (Nat → Nat → Int32) → (Nat → Nat → Int64) → Prop) (C : zCx p s m ([.ref (ad 7), .int a0] : List Value).toArray meth c A G K prog_8_method_9_code (some .boolean) 2 "LassoFinder$Situation") : ∀ (y0 : Int32) (I : Nat → Int32) (J : Nat → Int64) (B : Nat → Nat → Int32) (D : Nat → Nat → Int64) (ls : Array Slot) (H : Heap) (locs : List Loc), wc_Situation_hasFreeSlot_23 a0 Post y0 I J B D → lv_has ls 2 [] → zW G A s.heap (wX ad K sv I J B D) H locs → W p l e { frames := 0, cells := 0, slots := 0, locals := 0 } s m ([.ref (ad 7), .int a0] : List Value).toArray below meth c H locs 0 0 (MQ below (va_Qi (fun (r : Int32) (u : zS) => Post r u.1 u.2.1 u.2.2.1 u.2.2.2) (fun u t => zPost G K A (wX ad K sv u.1 u.2.1 u.2.2.1 u.2.2.2) t) A) ([.ref (ad 7), .int a0] : List Value).toArray s 0 0 A) (F0 m 23 ls [.int y0]) := by
  obtain ⟨hx, hb, hr, hml, hts, hown, hlocks, hA, hK⟩ := id C
  intro y0 I J B D ls H locs hok hl hw
  unfold wc_Situation_hasFreeSlot_23 at hok
  have hbo := hok.1
  have hok := hok.2
  exact (z_iret (u := (I, J, B, D)) hx hb hr hlocks (z_nar hbo) hw (List.range 65) wX_all wX_nd hok (Nat.le_of_ble_eq_true rfl) (Nat.le_of_ble_eq_true rfl) zd_Situation_hasFreeSlot_23)
set_option maxHeartbeats 8000000 in
set_option maxRecDepth 100000 in
theorem w_Situation_hasFreeSlot (l : Launch) (G : va_G) (K : Nat → ClassId) (ad : Nat → Nat) (sv : Value) (I : Nat → Int32) (J : Nat → Int64) (B : Nat → Nat → Int32) (D : Nat → Nat → Int64) (a0 : Int32) (Post : Int32 → (Nat → Int32) → (Nat → Int64) → (Nat → Nat → Int32) → (Nat → Nat → Int64) → Prop) (sz : Nat) (hok : wp_Situation_hasFreeSlot I J B D a0 Post) : Met l zy_Situation_hasFreeSlot (Cond.code zy_Situation_hasFreeSlot prog_8_method_9_code 2 (some .boolean) :: zTB) { frames := 0, cells := 0, slots := 0, locals := 0 } (va_Pc [.ref (ad 7), .int a0] (zPre G K (wX ad K sv I J B D) sz)) (va_Qi (fun (r : Int32) (u : zS) => Post r u.1 u.2.1 u.2.2.1 u.2.2.2) (fun u t => zPost G K (va_A (wX ad K sv I J B D) sz) (wX ad K sv u.1 u.2.1 u.2.2.1 u.2.2.2) t) (va_A (wX ad K sv I J B D) sz)) 0 0 (va_A (wX ad K sv I J B D) sz) := by
  refine zMet (y := zy_Situation_hasFreeSlot) (av := [.ref (ad 7), .int a0]) (maxL := 2) (cc := prog_8_method_9_code) (ret := (some .boolean)) (W0 := (wX ad K sv I J B D)) (sz := sz) (G := G) (K := K) (wt := zTB) (mc := 0) (ms := 0) (Qf := fun A => va_Qi (fun (r : Int32) (u : zS) => Post r u.1 u.2.1 u.2.2.1 u.2.2.2) (fun u t => zPost G K A (wX ad K sv u.1 u.2.1 u.2.2.1 u.2.2.2) t) A) (by decide) (Nat.le_of_ble_eq_true rfl) ?_
  intro p e s m below meth c ls A hx hb hr hml hts hown hlocks hin hA hK H locs hw hsz hl
  clear hsz
  have hown : s.vm.findClass "LassoFinder$Situation" = some m.cls := hown
  have C : zCx p s m ([.ref (ad 7), .int a0] : List Value).toArray meth c A G K prog_8_method_9_code (some .boolean) 2 "LassoFinder$Situation" := ⟨hx, hb, hr, hml, hts, hown, hlocks, hA, hK⟩
  have hl : lv_has ls 2 [(0, .ref (ad 7)), (1, .int a0)] := hl
  have hw : zW G A s.heap (wX ad K sv I J B D) H locs := hw
  unfold wp_Situation_hasFreeSlot at hok
  refine lv_aload_n hx hb zd_Situation_hasFreeSlot_0 rfl (lv_at hl 0 rfl) ?_
  refine z_get (v := .ref (ad 43)) hx hb hts hown hK hw zZ7 7 wX_g7 3 (by decide) zn_266 rfl zd_Situation_hasFreeSlot_1 ?_
  refine lv_iload_n hx hb zd_Situation_hasFreeSlot_4 rfl (lv_at hl 1 rfl) ?_
  refine va_iald (f := (B 29)) hx hb hK hw.1 43 0 wX_a43 rfl hok.1 zd_Situation_hasFreeSlot_5 ?_
  have hok := hok.2
  refine lv_topi (fun z1 ez1 => ?_)
  have hok := hok z1 ez1
  refine lv_aload_n hx hb zd_Situation_hasFreeSlot_6 rfl (lv_at hl 0 rfl) ?_
  refine z_get (v := .ref (ad 2)) hx hb hts hown hK hw zZ7 7 wX_g7 0 (by decide) zn_306 rfl zd_Situation_hasFreeSlot_7 ?_
  refine z_get (v := .ref (ad 15)) hx hb hts hown hK hw zZ5 2 wX_g2 1 (by decide) zn_472 rfl zd_Situation_hasFreeSlot_10 ?_
  refine lv_iload_n hx hb zd_Situation_hasFreeSlot_13 rfl (lv_at hl 1 rfl) ?_
  refine va_iald (f := (B 3)) hx hb hK hw.1 15 0 wX_a15 rfl hok.1 zd_Situation_hasFreeSlot_14 ?_
  have hok := hok.2
  refine lv_topi (fun z2 ez2 => ?_)
  have hok := hok z2 ez2
  refine lv_icmp_ge (tgt := 22) hx hb zd_Situation_hasFreeSlot_15 (by decide) (fun hc3 => ?_) (fun hc3 => ?_)
  · have hok := hok.1 hc3
    refine lv_iconst (v := 0) hx hb zd_Situation_hasFreeSlot_22 (by decide) ?_
    exact wJ_Situation_hasFreeSlot_23 G K ad sv a0 Post C 0 I J B D ls H locs hok (lv_sub hl [] rfl) hw
  · have hok := hok.2 hc3
    refine lv_iconst (v := 1) hx hb zd_Situation_hasFreeSlot_18 (by decide) ?_
    refine lv_goto (tgt := 23) hx hb zd_Situation_hasFreeSlot_19 (by decide) ?_
    exact wJ_Situation_hasFreeSlot_23 G K ad sv a0 Post C 1 I J B D ls H locs hok (lv_sub hl [] rfl) hw
def wc_Situation_canBeDone_44 (a0 : Int32) (Post : Int32 → (Nat → Int32) → (Nat → Int64) → (Nat → Nat → Int32) → (Nat → Nat → Int64) → Prop)  (I : Nat → Int32) (J : Nat → Int64) (B : Nat → Nat → Int32) (D : Nat → Nat → Int64) : Prop :=
  Post 1 I J B D
def wc_Situation_canBeDone_74 (a0 : Int32) (Post : Int32 → (Nat → Int32) → (Nat → Int64) → (Nat → Nat → Int32) → (Nat → Nat → Int64) → Prop) (y0 : Int32) (I : Nat → Int32) (J : Nat → Int64) (B : Nat → Nat → Int32) (D : Nat → Nat → Int64) : Prop :=
  (y0 = 0 ∨ y0 = 1) ∧ Post y0 I J B D
def wc_Situation_canBeDone_106 (a0 : Int32) (Post : Int32 → (Nat → Int32) → (Nat → Int64) → (Nat → Nat → Int32) → (Nat → Nat → Int64) → Prop) (y0 : Int32) (I : Nat → Int32) (J : Nat → Int64) (B : Nat → Nat → Int32) (D : Nat → Nat → Int64) : Prop :=
  (y0 = 0 ∨ y0 = 1) ∧ Post y0 I J B D
def wc_Situation_canBeDone_101 (a0 : Int32) (Post : Int32 → (Nat → Int32) → (Nat → Int64) → (Nat → Nat → Int32) → (Nat → Nat → Int64) → Prop)  (I : Nat → Int32) (J : Nat → Int64) (B : Nat → Nat → Int32) (D : Nat → Nat → Int64) : Prop :=
  wc_Situation_canBeDone_106 a0 Post 1 I J B D
def wc_Situation_canBeDone_129 (a0 : Int32) (Post : Int32 → (Nat → Int32) → (Nat → Int64) → (Nat → Nat → Int32) → (Nat → Nat → Int64) → Prop) (y0 : Int32) (I : Nat → Int32) (J : Nat → Int64) (B : Nat → Nat → Int32) (D : Nat → Nat → Int64) : Prop :=
  (y0 = 0 ∨ y0 = 1) ∧ Post y0 I J B D
def wp_Situation_canBeDone (I : Nat → Int32) (J : Nat → Int64) (B : Nat → Nat → Int32) (D : Nat → Nat → Int64) (a0 : Int32) (Post : Int32 → (Nat → Int32) → (Nat → Int64) → (Nat → Nat → Int32) → (Nat → Nat → Int64) → Prop) : Prop :=
  vp_in a0 48 ∧ ∀ z1 : Int32, z1 = ((B 6) a0.toNatClampNeg) → ((z1 = 0 → wc_Situation_canBeDone_44 a0 Post I J B D) ∧ (z1 = 1 → vp_in a0 48 ∧ ∀ z4 : Int32, z4 = ((B 9) a0.toNatClampNeg) → wp_Terms_reckon_ad43_A I J B D z4 (fun r5 I5 J5 B5 D5 => ((r5 = 0 → wc_Situation_canBeDone_74 a0 Post 0 I5 J5 B5 D5) ∧ (¬ r5 = 0 → wc_Situation_canBeDone_74 a0 Post 1 I5 J5 B5 D5)))) ∧ (z1 = 2 → vp_in a0 48 ∧ ∀ z8 : Int32, z8 = ((B 7) a0.toNatClampNeg) → wp_Situation_hasFreeSlot I J B D z8 (fun r9 I9 J9 B9 D9 => ((¬ r9 = 0 → wc_Situation_canBeDone_101 a0 Post I9 J9 B9 D9) ∧ (r9 = 0 → wp_Situation_partners I9 J9 B9 D9 a0 (fun r11 I11 J11 B11 D11 => ∀ z12 : Int32, z12 = (lg_cmp r11 0) → ((z12 = 0 → wc_Situation_canBeDone_106 a0 Post 0 I11 J11 B11 D11) ∧ (¬ z12 = 0 → wc_Situation_canBeDone_101 a0 Post I11 J11 B11 D11))))))) ∧ (z1 = 3 → vp_in a0 48 ∧ ∀ z15 : Int32, z15 = ((B 7) a0.toNatClampNeg) → vp_in z15 8 ∧ ∀ z16 : Int32, z16 = ((B 29) z15.toNatClampNeg) → ((z16 ≤ 0 → wc_Situation_canBeDone_129 a0 Post 0 I J B D) ∧ (¬ z16 ≤ 0 → wc_Situation_canBeDone_129 a0 Post 1 I J B D))) ∧ (z1 = 4 → wc_Situation_canBeDone_44 a0 Post I J B D) ∧ (¬ z1 = 0 → ¬ z1 = 1 → ¬ z1 = 2 → ¬ z1 = 3 → ¬ z1 = 4 → Post 0 I J B D))
set_option maxHeartbeats 8000000 in
set_option maxRecDepth 100000 in
theorem wJ_Situation_canBeDone_44 {p : Program} {l : Launch} {e : Env} {s : State} {m : MethodId} {below : List Frame} {meth : Method} {c : Code} {A : Nat → Prop} (G : va_G) (K : Nat → ClassId) (ad : Nat → Nat) (sv : Value) (a0 : Int32) (Post : Int32 → (Nat → Int32) → (Nat → Int64) → (Nat → Nat → Int32) → (Nat → Nat → Int64) → Prop) (C : zCx p s m ([.ref (ad 7), .int a0] : List Value).toArray meth c A G K prog_8_method_8_code (some .boolean) 2 "LassoFinder$Situation") : ∀  (I : Nat → Int32) (J : Nat → Int64) (B : Nat → Nat → Int32) (D : Nat → Nat → Int64) (ls : Array Slot) (H : Heap) (locs : List Loc), wc_Situation_canBeDone_44 a0 Post  I J B D → lv_has ls 2 [] → zW G A s.heap (wX ad K sv I J B D) H locs → W p l e { frames := 2, cells := 0, slots := 0, locals := 47 } s m ([.ref (ad 7), .int a0] : List Value).toArray below meth c H locs 0 0 (MQ below (va_Qi (fun (r : Int32) (u : zS) => Post r u.1 u.2.1 u.2.2.1 u.2.2.2) (fun u t => zPost G K A (wX ad K sv u.1 u.2.1 u.2.2.1 u.2.2.2) t) A) ([.ref (ad 7), .int a0] : List Value).toArray s 0 0 A) (F0 m 44 ls []) := by
  obtain ⟨hx, hb, hr, hml, hts, hown, hlocks, hA, hK⟩ := id C
  intro  I J B D ls H locs hok hl hw
  unfold wc_Situation_canBeDone_44 at hok
  refine lv_iconst (v := 1) hx hb zd_Situation_canBeDone_44 (by decide) ?_
  exact (z_iret (u := (I, J, B, D)) hx hb hr hlocks rfl hw (List.range 65) wX_all wX_nd hok (Nat.le_of_ble_eq_true rfl) (Nat.le_of_ble_eq_true rfl) zd_Situation_canBeDone_45)
set_option maxHeartbeats 8000000 in
set_option maxRecDepth 100000 in
theorem wJ_Situation_canBeDone_74 {p : Program} {l : Launch} {e : Env} {s : State} {m : MethodId} {below : List Frame} {meth : Method} {c : Code} {A : Nat → Prop} (G : va_G) (K : Nat → ClassId) (ad : Nat → Nat) (sv : Value) (a0 : Int32) (Post : Int32 → (Nat → Int32) → (Nat → Int64) → (Nat → Nat → Int32) → (Nat → Nat → Int64) → Prop) (C : zCx p s m ([.ref (ad 7), .int a0] : List Value).toArray meth c A G K prog_8_method_8_code (some .boolean) 2 "LassoFinder$Situation") : ∀ (y0 : Int32) (I : Nat → Int32) (J : Nat → Int64) (B : Nat → Nat → Int32) (D : Nat → Nat → Int64) (ls : Array Slot) (H : Heap) (locs : List Loc), wc_Situation_canBeDone_74 a0 Post y0 I J B D → lv_has ls 2 [] → zW G A s.heap (wX ad K sv I J B D) H locs → W p l e { frames := 2, cells := 0, slots := 0, locals := 47 } s m ([.ref (ad 7), .int a0] : List Value).toArray below meth c H locs 0 0 (MQ below (va_Qi (fun (r : Int32) (u : zS) => Post r u.1 u.2.1 u.2.2.1 u.2.2.2) (fun u t => zPost G K A (wX ad K sv u.1 u.2.1 u.2.2.1 u.2.2.2) t) A) ([.ref (ad 7), .int a0] : List Value).toArray s 0 0 A) (F0 m 74 ls [.int y0]) := by
  obtain ⟨hx, hb, hr, hml, hts, hown, hlocks, hA, hK⟩ := id C
  intro y0 I J B D ls H locs hok hl hw
  unfold wc_Situation_canBeDone_74 at hok
  have hbo := hok.1
  have hok := hok.2
  exact (z_iret (u := (I, J, B, D)) hx hb hr hlocks (z_nar hbo) hw (List.range 65) wX_all wX_nd hok (Nat.le_of_ble_eq_true rfl) (Nat.le_of_ble_eq_true rfl) zd_Situation_canBeDone_74)
set_option maxHeartbeats 8000000 in
set_option maxRecDepth 100000 in
theorem wJ_Situation_canBeDone_106 {p : Program} {l : Launch} {e : Env} {s : State} {m : MethodId} {below : List Frame} {meth : Method} {c : Code} {A : Nat → Prop} (G : va_G) (K : Nat → ClassId) (ad : Nat → Nat) (sv : Value) (a0 : Int32) (Post : Int32 → (Nat → Int32) → (Nat → Int64) → (Nat → Nat → Int32) → (Nat → Nat → Int64) → Prop) (C : zCx p s m ([.ref (ad 7), .int a0] : List Value).toArray meth c A G K prog_8_method_8_code (some .boolean) 2 "LassoFinder$Situation") : ∀ (y0 : Int32) (I : Nat → Int32) (J : Nat → Int64) (B : Nat → Nat → Int32) (D : Nat → Nat → Int64) (ls : Array Slot) (H : Heap) (locs : List Loc), wc_Situation_canBeDone_106 a0 Post y0 I J B D → lv_has ls 2 [] → zW G A s.heap (wX ad K sv I J B D) H locs → W p l e { frames := 2, cells := 0, slots := 0, locals := 47 } s m ([.ref (ad 7), .int a0] : List Value).toArray below meth c H locs 0 0 (MQ below (va_Qi (fun (r : Int32) (u : zS) => Post r u.1 u.2.1 u.2.2.1 u.2.2.2) (fun u t => zPost G K A (wX ad K sv u.1 u.2.1 u.2.2.1 u.2.2.2) t) A) ([.ref (ad 7), .int a0] : List Value).toArray s 0 0 A) (F0 m 106 ls [.int y0]) := by
  obtain ⟨hx, hb, hr, hml, hts, hown, hlocks, hA, hK⟩ := id C
  intro y0 I J B D ls H locs hok hl hw
  unfold wc_Situation_canBeDone_106 at hok
  have hbo := hok.1
  have hok := hok.2
  exact (z_iret (u := (I, J, B, D)) hx hb hr hlocks (z_nar hbo) hw (List.range 65) wX_all wX_nd hok (Nat.le_of_ble_eq_true rfl) (Nat.le_of_ble_eq_true rfl) zd_Situation_canBeDone_106)
set_option maxHeartbeats 8000000 in
set_option maxRecDepth 100000 in
theorem wJ_Situation_canBeDone_101 {p : Program} {l : Launch} {e : Env} {s : State} {m : MethodId} {below : List Frame} {meth : Method} {c : Code} {A : Nat → Prop} (G : va_G) (K : Nat → ClassId) (ad : Nat → Nat) (sv : Value) (a0 : Int32) (Post : Int32 → (Nat → Int32) → (Nat → Int64) → (Nat → Nat → Int32) → (Nat → Nat → Int64) → Prop) (C : zCx p s m ([.ref (ad 7), .int a0] : List Value).toArray meth c A G K prog_8_method_8_code (some .boolean) 2 "LassoFinder$Situation") : ∀  (I : Nat → Int32) (J : Nat → Int64) (B : Nat → Nat → Int32) (D : Nat → Nat → Int64) (ls : Array Slot) (H : Heap) (locs : List Loc), wc_Situation_canBeDone_101 a0 Post  I J B D → lv_has ls 2 [] → zW G A s.heap (wX ad K sv I J B D) H locs → W p l e { frames := 2, cells := 0, slots := 0, locals := 47 } s m ([.ref (ad 7), .int a0] : List Value).toArray below meth c H locs 0 0 (MQ below (va_Qi (fun (r : Int32) (u : zS) => Post r u.1 u.2.1 u.2.2.1 u.2.2.2) (fun u t => zPost G K A (wX ad K sv u.1 u.2.1 u.2.2.1 u.2.2.2) t) A) ([.ref (ad 7), .int a0] : List Value).toArray s 0 0 A) (F0 m 101 ls []) := by
  obtain ⟨hx, hb, hr, hml, hts, hown, hlocks, hA, hK⟩ := id C
  intro  I J B D ls H locs hok hl hw
  unfold wc_Situation_canBeDone_101 at hok
  refine lv_iconst (v := 1) hx hb zd_Situation_canBeDone_101 (by decide) ?_
  refine lv_goto (tgt := 106) hx hb zd_Situation_canBeDone_102 (by decide) ?_
  exact wJ_Situation_canBeDone_106 G K ad sv a0 Post C 1 I J B D ls H locs hok (lv_sub hl [] rfl) hw
set_option maxHeartbeats 8000000 in
set_option maxRecDepth 100000 in
theorem wJ_Situation_canBeDone_129 {p : Program} {l : Launch} {e : Env} {s : State} {m : MethodId} {below : List Frame} {meth : Method} {c : Code} {A : Nat → Prop} (G : va_G) (K : Nat → ClassId) (ad : Nat → Nat) (sv : Value) (a0 : Int32) (Post : Int32 → (Nat → Int32) → (Nat → Int64) → (Nat → Nat → Int32) → (Nat → Nat → Int64) → Prop) (C : zCx p s m ([.ref (ad 7), .int a0] : List Value).toArray meth c A G K prog_8_method_8_code (some .boolean) 2 "LassoFinder$Situation") : ∀ (y0 : Int32) (I : Nat → Int32) (J : Nat → Int64) (B : Nat → Nat → Int32) (D : Nat → Nat → Int64) (ls : Array Slot) (H : Heap) (locs : List Loc), wc_Situation_canBeDone_129 a0 Post y0 I J B D → lv_has ls 2 [] → zW G A s.heap (wX ad K sv I J B D) H locs → W p l e { frames := 2, cells := 0, slots := 0, locals := 47 } s m ([.ref (ad 7), .int a0] : List Value).toArray below meth c H locs 0 0 (MQ below (va_Qi (fun (r : Int32) (u : zS) => Post r u.1 u.2.1 u.2.2.1 u.2.2.2) (fun u t => zPost G K A (wX ad K sv u.1 u.2.1 u.2.2.1 u.2.2.2) t) A) ([.ref (ad 7), .int a0] : List Value).toArray s 0 0 A) (F0 m 129 ls [.int y0]) := by
  obtain ⟨hx, hb, hr, hml, hts, hown, hlocks, hA, hK⟩ := id C
  intro y0 I J B D ls H locs hok hl hw
  unfold wc_Situation_canBeDone_129 at hok
  have hbo := hok.1
  have hok := hok.2
  exact (z_iret (u := (I, J, B, D)) hx hb hr hlocks (z_nar hbo) hw (List.range 65) wX_all wX_nd hok (Nat.le_of_ble_eq_true rfl) (Nat.le_of_ble_eq_true rfl) zd_Situation_canBeDone_129)
set_option maxHeartbeats 8000000 in
set_option maxRecDepth 100000 in
theorem w_Situation_canBeDone (l : Launch) (G : va_G) (K : Nat → ClassId) (ad : Nat → Nat) (sv : Value) (I : Nat → Int32) (J : Nat → Int64) (B : Nat → Nat → Int32) (D : Nat → Nat → Int64) (a0 : Int32) (Post : Int32 → (Nat → Int32) → (Nat → Int64) → (Nat → Nat → Int32) → (Nat → Nat → Int64) → Prop) (sz : Nat) (hok : wp_Situation_canBeDone I J B D a0 Post) : Met l zy_Situation_canBeDone (Cond.code zy_Situation_canBeDone prog_8_method_8_code 2 (some .boolean) :: zTB) { frames := 2, cells := 0, slots := 0, locals := 47 } (va_Pc [.ref (ad 7), .int a0] (zPre G K (wX ad K sv I J B D) sz)) (va_Qi (fun (r : Int32) (u : zS) => Post r u.1 u.2.1 u.2.2.1 u.2.2.2) (fun u t => zPost G K (va_A (wX ad K sv I J B D) sz) (wX ad K sv u.1 u.2.1 u.2.2.1 u.2.2.2) t) (va_A (wX ad K sv I J B D) sz)) 0 0 (va_A (wX ad K sv I J B D) sz) := by
  refine zMet (y := zy_Situation_canBeDone) (av := [.ref (ad 7), .int a0]) (maxL := 2) (cc := prog_8_method_8_code) (ret := (some .boolean)) (W0 := (wX ad K sv I J B D)) (sz := sz) (G := G) (K := K) (wt := zTB) (mc := 0) (ms := 0) (Qf := fun A => va_Qi (fun (r : Int32) (u : zS) => Post r u.1 u.2.1 u.2.2.1 u.2.2.2) (fun u t => zPost G K A (wX ad K sv u.1 u.2.1 u.2.2.1 u.2.2.2) t) A) (by decide) (Nat.le_of_ble_eq_true rfl) ?_
  intro p e s m below meth c ls A hx hb hr hml hts hown hlocks hin hA hK H locs hw hsz hl
  clear hsz
  have hown : s.vm.findClass "LassoFinder$Situation" = some m.cls := hown
  have C : zCx p s m ([.ref (ad 7), .int a0] : List Value).toArray meth c A G K prog_8_method_8_code (some .boolean) 2 "LassoFinder$Situation" := ⟨hx, hb, hr, hml, hts, hown, hlocks, hA, hK⟩
  have hl : lv_has ls 2 [(0, .ref (ad 7)), (1, .int a0)] := hl
  have hw : zW G A s.heap (wX ad K sv I J B D) H locs := hw
  unfold wp_Situation_canBeDone at hok
  refine lv_aload_n hx hb zd_Situation_canBeDone_0 rfl (lv_at hl 0 rfl) ?_
  refine z_get (v := .ref (ad 3)) hx hb hts hown hK hw zZ7 7 wX_g7 2 (by decide) zn_463 rfl zd_Situation_canBeDone_1 ?_
  refine z_get (v := .ref (ad 18)) hx hb hts hown hK hw zZ6 3 wX_g3 0 (by decide) zn_465 rfl zd_Situation_canBeDone_4 ?_
  refine lv_iload_n hx hb zd_Situation_canBeDone_7 rfl (lv_at hl 1 rfl) ?_
  refine va_iald (f := (B 6)) hx hb hK hw.1 18 0 wX_a18 rfl hok.1 zd_Situation_canBeDone_8 ?_
  have hok := hok.2
  refine lv_topi (fun z1 ez1 => ?_)
  have hok := hok z1 ez1
  by_cases hs2 : z1 = 0
  · have hok := hok.1 hs2
    refine lv_tableIn (off := 35) (tgt := 44) hx hb zd_Situation_canBeDone_9 (by rw [hs2]; decide) (by rw [hs2]; decide) (by rw [hs2]; decide) (by decide) ?_
    exact wJ_Situation_canBeDone_44 G K ad sv a0 Post C I J B D ls H locs hok (lv_sub hl [] rfl) hw
  by_cases hs3 : z1 = 1
  · have hok := hok.2.1 hs3
    refine lv_tableIn (off := 37) (tgt := 46) hx hb zd_Situation_canBeDone_9 (by rw [hs3]; decide) (by rw [hs3]; decide) (by rw [hs3]; decide) (by decide) ?_
    refine lv_aload_n hx hb zd_Situation_canBeDone_46 rfl (lv_at hl 0 rfl) ?_
    refine z_get (v := .ref (ad 4)) hx hb hts hown hK hw zZ7 7 wX_g7 1 (by decide) zn_468 rfl zd_Situation_canBeDone_47 ?_
    refine lv_aload_n hx hb zd_Situation_canBeDone_50 rfl (lv_at hl 0 rfl) ?_
    refine z_get (v := .ref (ad 3)) hx hb hts hown hK hw zZ7 7 wX_g7 2 (by decide) zn_463 rfl zd_Situation_canBeDone_51 ?_
    refine z_get (v := .ref (ad 21)) hx hb hts hown hK hw zZ6 3 wX_g3 3 (by decide) zn_464 rfl zd_Situation_canBeDone_54 ?_
    refine lv_iload_n hx hb zd_Situation_canBeDone_57 rfl (lv_at hl 1 rfl) ?_
    refine va_iald (f := (B 9)) hx hb hK hw.1 21 0 wX_a21 rfl hok.1 zd_Situation_canBeDone_58 ?_
    have hok := hok.2
    refine lv_topi (fun z4 ez4 => ?_)
    have hok := hok z4 ez4
    refine lv_aload_n hx hb zd_Situation_canBeDone_59 rfl (lv_at hl 0 rfl) ?_
    refine z_get (v := .ref (ad 43)) hx hb hts hown hK hw zZ7 7 wX_g7 3 (by decide) zn_266 rfl zd_Situation_canBeDone_60 ?_
    refine z_calli (w1 := fun (u : zS) => wX ad K sv u.1 u.2.1 u.2.2.1 u.2.2.2) (wr := []) (z_runV (q0 := 4) (wc := (wX ad K sv I J B D)) (As := [.int z4, .ref (ad 43)]) (rest := []) ⟨hx, hb, hml, hown, hts⟩ (w_Terms_reckon_ad43_A l G K ad sv I J B D z4 _ H.size hok) zf_Terms_reckon zn_399 ⟨Nat.le_of_ble_eq_true rfl, Nat.le_of_ble_eq_true rfl⟩ hK hw (List.range 65) wX_all wX_nd wX_g4 rfl rfl hl.1 rfl (Nat.le_of_ble_eq_true rfl) zd_Situation_canBeDone_63 ⟨Nat.le_of_ble_eq_true rfl, Nat.le_of_ble_eq_true rfl⟩) hw hA (List.range 65) [] wX_all rfl (by decide) (fun i hi => by cases hi) (fun r5 u H locs hok hw => ?_)
    obtain ⟨I5, J5, B5, D5⟩ := u
    dsimp only at hok
    have hw : zW G A s.heap (wX ad K sv I5 J5 B5 D5) H locs := hw
    refine lv_if_eq (tgt := 73) hx hb zd_Situation_canBeDone_66 (by decide) (fun hc6 => ?_) (fun hc6 => ?_)
    · have hok := hok.1 hc6
      refine lv_iconst (v := 0) hx hb zd_Situation_canBeDone_73 (by decide) ?_
      exact wJ_Situation_canBeDone_74 G K ad sv a0 Post C 0 I5 J5 B5 D5 ls H locs hok (lv_sub hl [] rfl) hw
    · have hok := hok.2 hc6
      refine lv_iconst (v := 1) hx hb zd_Situation_canBeDone_69 (by decide) ?_
      refine lv_goto (tgt := 74) hx hb zd_Situation_canBeDone_70 (by decide) ?_
      exact wJ_Situation_canBeDone_74 G K ad sv a0 Post C 1 I5 J5 B5 D5 ls H locs hok (lv_sub hl [] rfl) hw
  by_cases hs7 : z1 = 2
  · have hok := hok.2.2.1 hs7
    refine lv_tableIn (off := 66) (tgt := 75) hx hb zd_Situation_canBeDone_9 (by rw [hs7]; decide) (by rw [hs7]; decide) (by rw [hs7]; decide) (by decide) ?_
    refine lv_aload_n hx hb zd_Situation_canBeDone_75 rfl (lv_at hl 0 rfl) ?_
    refine lv_aload_n hx hb zd_Situation_canBeDone_76 rfl (lv_at hl 0 rfl) ?_
    refine z_get (v := .ref (ad 3)) hx hb hts hown hK hw zZ7 7 wX_g7 2 (by decide) zn_463 rfl zd_Situation_canBeDone_77 ?_
    refine z_get (v := .ref (ad 19)) hx hb hts hown hK hw zZ6 3 wX_g3 1 (by decide) zn_467 rfl zd_Situation_canBeDone_80 ?_
    refine lv_iload_n hx hb zd_Situation_canBeDone_83 rfl (lv_at hl 1 rfl) ?_
    refine va_iald (f := (B 7)) hx hb hK hw.1 19 0 wX_a19 rfl hok.1 zd_Situation_canBeDone_84 ?_
    have hok := hok.2
    refine lv_topi (fun z8 ez8 => ?_)
    have hok := hok z8 ez8
    refine z_calli (w1 := fun (u : zS) => wX ad K sv u.1 u.2.1 u.2.2.1 u.2.2.2) (wr := []) (z_runV (q0 := 7) (wc := (wX ad K sv I J B D)) (As := [.int z8]) (rest := []) ⟨hx, hb, hml, hown, hts⟩ (w_Situation_hasFreeSlot l G K ad sv I J B D z8 _ H.size hok) zf_Situation_hasFreeSlot zn_401 ⟨Nat.le_of_ble_eq_true rfl, Nat.le_of_ble_eq_true rfl⟩ hK hw (List.range 65) wX_all wX_nd wX_g7 rfl rfl hl.1 rfl (Nat.le_of_ble_eq_true rfl) zd_Situation_canBeDone_85 ⟨Nat.le_of_ble_eq_true rfl, Nat.le_of_ble_eq_true rfl⟩) hw hA (List.range 65) [] wX_all rfl (by decide) (fun i hi => by cases hi) (fun r9 u H locs hok hw => ?_)
    obtain ⟨I9, J9, B9, D9⟩ := u
    dsimp only at hok
    have hw : zW G A s.heap (wX ad K sv I9 J9 B9 D9) H locs := hw
    refine lv_if_ne (tgt := 101) hx hb zd_Situation_canBeDone_88 (by decide) (fun hc10 => ?_) (fun hc10 => ?_)
    · have hok := hok.1 hc10
      exact wJ_Situation_canBeDone_101 G K ad sv a0 Post C I9 J9 B9 D9 ls H locs hok (lv_sub hl [] rfl) hw
    · have hok := hok.2 hc10
      refine lv_aload_n hx hb zd_Situation_canBeDone_91 rfl (lv_at hl 0 rfl) ?_
      refine lv_iload_n hx hb zd_Situation_canBeDone_92 rfl (lv_at hl 1 rfl) ?_
      refine z_calll (w1 := fun (u : zS) => wX ad K sv u.1 u.2.1 u.2.2.1 u.2.2.2) (wr := []) (z_runV (q0 := 7) (wc := (wX ad K sv I9 J9 B9 D9)) (As := [.int a0]) (rest := []) ⟨hx, hb, hml, hown, hts⟩ (w_Situation_partners l G K ad sv I9 J9 B9 D9 a0 _ H.size hok) zf_Situation_partners zn_402 ⟨Nat.le_of_ble_eq_true rfl, Nat.le_of_ble_eq_true rfl⟩ hK hw (List.range 65) wX_all wX_nd wX_g7 rfl rfl hl.1 rfl (Nat.le_of_ble_eq_true rfl) zd_Situation_canBeDone_93 ⟨Nat.le_of_ble_eq_true rfl, Nat.le_of_ble_eq_true rfl⟩) hw hA (List.range 65) [] wX_all rfl (by decide) (fun i hi => by cases hi) (fun r11 u H locs hok hw => ?_)
      obtain ⟨I11, J11, B11, D11⟩ := u
      dsimp only at hok
      have hw : zW G A s.heap (wX ad K sv I11 J11 B11 D11) H locs := hw
      refine lv_lconst (v := 0) hx hb zd_Situation_canBeDone_96 (by decide) ?_
      refine W.lcmp hx hb zd_Situation_canBeDone_97 ?_
      refine lv_topi (fun z12 ez12 => ?_)
      have hok := hok z12 ez12
      refine lv_if_eq (tgt := 105) hx hb zd_Situation_canBeDone_98 (by decide) (fun hc13 => ?_) (fun hc13 => ?_)
      · have hok := hok.1 hc13
        refine lv_iconst (v := 0) hx hb zd_Situation_canBeDone_105 (by decide) ?_
        exact wJ_Situation_canBeDone_106 G K ad sv a0 Post C 0 I11 J11 B11 D11 ls H locs hok (lv_sub hl [] rfl) hw
      · have hok := hok.2 hc13
        exact wJ_Situation_canBeDone_101 G K ad sv a0 Post C I11 J11 B11 D11 ls H locs hok (lv_sub hl [] rfl) hw
  by_cases hs14 : z1 = 3
  · have hok := hok.2.2.2.1 hs14
    refine lv_tableIn (off := 98) (tgt := 107) hx hb zd_Situation_canBeDone_9 (by rw [hs14]; decide) (by rw [hs14]; decide) (by rw [hs14]; decide) (by decide) ?_
    refine lv_aload_n hx hb zd_Situation_canBeDone_107 rfl (lv_at hl 0 rfl) ?_
    refine z_get (v := .ref (ad 43)) hx hb hts hown hK hw zZ7 7 wX_g7 3 (by decide) zn_266 rfl zd_Situation_canBeDone_108 ?_
    refine lv_aload_n hx hb zd_Situation_canBeDone_111 rfl (lv_at hl 0 rfl) ?_
    refine z_get (v := .ref (ad 3)) hx hb hts hown hK hw zZ7 7 wX_g7 2 (by decide) zn_463 rfl zd_Situation_canBeDone_112 ?_
    refine z_get (v := .ref (ad 19)) hx hb hts hown hK hw zZ6 3 wX_g3 1 (by decide) zn_467 rfl zd_Situation_canBeDone_115 ?_
    refine lv_iload_n hx hb zd_Situation_canBeDone_118 rfl (lv_at hl 1 rfl) ?_
    refine va_iald (f := (B 7)) hx hb hK hw.1 19 0 wX_a19 rfl hok.1 zd_Situation_canBeDone_119 ?_
    have hok := hok.2
    refine lv_topi (fun z15 ez15 => ?_)
    have hok := hok z15 ez15
    refine va_iald (f := (B 29)) hx hb hK hw.1 43 0 wX_a43 rfl hok.1 zd_Situation_canBeDone_120 ?_
    have hok := hok.2
    refine lv_topi (fun z16 ez16 => ?_)
    have hok := hok z16 ez16
    refine lv_if_le (tgt := 128) hx hb zd_Situation_canBeDone_121 (by decide) (fun hc17 => ?_) (fun hc17 => ?_)
    · have hok := hok.1 hc17
      refine lv_iconst (v := 0) hx hb zd_Situation_canBeDone_128 (by decide) ?_
      exact wJ_Situation_canBeDone_129 G K ad sv a0 Post C 0 I J B D ls H locs hok (lv_sub hl [] rfl) hw
    · have hok := hok.2 hc17
      refine lv_iconst (v := 1) hx hb zd_Situation_canBeDone_124 (by decide) ?_
      refine lv_goto (tgt := 129) hx hb zd_Situation_canBeDone_125 (by decide) ?_
      exact wJ_Situation_canBeDone_129 G K ad sv a0 Post C 1 I J B D ls H locs hok (lv_sub hl [] rfl) hw
  by_cases hs18 : z1 = 4
  · have hok := hok.2.2.2.2.1 hs18
    refine lv_tableIn (off := 35) (tgt := 44) hx hb zd_Situation_canBeDone_9 (by rw [hs18]; decide) (by rw [hs18]; decide) (by rw [hs18]; decide) (by decide) ?_
    exact wJ_Situation_canBeDone_44 G K ad sv a0 Post C I J B D ls H locs hok (lv_sub hl [] rfl) hw
  have hok := hok.2.2.2.2.2 hs2 hs3 hs7 hs14 hs18
  refine lv_tableOut (tgt := 130) hx hb zd_Situation_canBeDone_9 (by have h0 := lv_neT hs2 (a := 0) (by decide); have h1 := lv_neT hs3 (a := 1) (by decide); have h2 := lv_neT hs7 (a := 2) (by decide); have h3 := lv_neT hs14 (a := 3) (by decide); have h4 := lv_neT hs18 (a := 4) (by decide); omega) (by decide) ?_
  refine lv_iconst (v := 0) hx hb zd_Situation_canBeDone_130 (by decide) ?_
  exact (z_iret (u := (I, J, B, D)) hx hb hr hlocks rfl hw (List.range 65) wX_all wX_nd hok (Nat.le_of_ble_eq_true rfl) (Nat.le_of_ble_eq_true rfl) zd_Situation_canBeDone_131)
def wc_Situation_ableOf_69 (a0 : Int64) (Post : Int64 → (Nat → Int32) → (Nat → Int64) → (Nat → Nat → Int32) → (Nat → Nat → Int64) → Prop) (y0 : Int64) (I : Nat → Int32) (J : Nat → Int64) (B : Nat → Nat → Int32) (D : Nat → Nat → Int64) : Prop :=
  Post y0 I J B D
def wc_Situation_ableOf_44 (a0 : Int64) (K5 : Int64 → Int64 → Int32 → (Nat → Int32) → (Nat → Int64) → (Nat → Nat → Int32) → (Nat → Nat → Int64) → Prop) (Post : Int64 → (Nat → Int32) → (Nat → Int64) → (Nat → Nat → Int32) → (Nat → Nat → Int64) → Prop) (x1 : Int64) (x3 : Int64) (x5 : Int32) (I : Nat → Int32) (J : Nat → Int64) (B : Nat → Nat → Int32) (D : Nat → Nat → Int64) : Prop :=
  ∀ z1 : Int32, z1 = (x5 + 1) → K5 x1 x3 z1 I J B D
def wb_Situation_ableOf_5 (a0 : Int64) (K5 : Int64 → Int64 → Int32 → (Nat → Int32) → (Nat → Int64) → (Nat → Nat → Int32) → (Nat → Nat → Int64) → Prop) (Post : Int64 → (Nat → Int32) → (Nat → Int64) → (Nat → Nat → Int32) → (Nat → Nat → Int64) → Prop) (x1 : Int64) (x3 : Int64) (x5 : Int32) (I : Nat → Int32) (J : Nat → Int64) (B : Nat → Nat → Int32) (D : Nat → Nat → Int64) : Prop :=
  (((I 9) ≤ x5 → ∀ z3 : Int32, z3 = (lg_cmp x3 0) → ((¬ z3 = 0 → wc_Situation_ableOf_69 a0 Post x3 I J B D) ∧ (z3 = 0 → ∀ z5 : Int64, z5 = (x1 &&& (J 0)) → wc_Situation_ableOf_69 a0 Post z5 I J B D))) ∧ (¬ (I 9) ≤ x5 → ∀ z6 : Int64, z6 = (x1.toUInt64 >>> (x5.toInt64.toUInt64 &&& Int64.toUInt64 63)).toInt64 → ∀ z7 : Int64, z7 = (z6 &&& 1) → ∀ z8 : Int32, z8 = (lg_cmp z7 0) → ((z8 = 0 → wc_Situation_ableOf_44 a0 K5 Post x1 x3 x5 I J B D) ∧ (¬ z8 = 0 → wp_Situation_canBeDone I J B D x5 (fun r10 I10 J10 B10 D10 => ((r10 = 0 → wc_Situation_ableOf_44 a0 K5 Post x1 x3 x5 I10 J10 B10 D10) ∧ (¬ r10 = 0 → ∀ z12 : Int64, z12 = ((1 : Int64) <<< (x5.toInt64 &&& 63)) → ∀ z13 : Int64, z13 = (x3 ||| z12) → wc_Situation_ableOf_44 a0 K5 Post x1 z13 x5 I10 J10 B10 D10)))))))
def wl_Situation_ableOf_5 (a0 : Int64) (Post : Int64 → (Nat → Int32) → (Nat → Int64) → (Nat → Nat → Int32) → (Nat → Nat → Int64) → Prop) (n : Nat) : Int64 → Int64 → Int32 → (Nat → Int32) → (Nat → Int64) → (Nat → Nat → Int32) → (Nat → Nat → Int64) → Prop := Nat.rec (fun _ _ _ _ _ _ _ => False) (fun _ r => wb_Situation_ableOf_5 a0 r Post) n
def wp_Situation_ableOf (I : Nat → Int32) (J : Nat → Int64) (B : Nat → Nat → Int32) (D : Nat → Nat → Int64) (a0 : Int64) (Post : Int64 → (Nat → Int32) → (Nat → Int64) → (Nat → Nat → Int32) → (Nat → Nat → Int64) → Prop) : Prop :=
  ∃ n : Nat, wl_Situation_ableOf_5 a0 Post n a0 0 0 I J B D
set_option maxHeartbeats 8000000 in
set_option maxRecDepth 100000 in
theorem wJ_Situation_ableOf_69 {p : Program} {l : Launch} {e : Env} {s : State} {m : MethodId} {below : List Frame} {meth : Method} {c : Code} {A : Nat → Prop} (G : va_G) (K : Nat → ClassId) (ad : Nat → Nat) (sv : Value) (a0 : Int64) (Post : Int64 → (Nat → Int32) → (Nat → Int64) → (Nat → Nat → Int32) → (Nat → Nat → Int64) → Prop) (C : zCx p s m ([.ref (ad 7), .long a0] : List Value).toArray meth c A G K prog_8_method_7_code (some .long) 6 "LassoFinder$Situation") : ∀ (y0 : Int64) (I : Nat → Int32) (J : Nat → Int64) (B : Nat → Nat → Int32) (D : Nat → Nat → Int64) (ls : Array Slot) (H : Heap) (locs : List Loc), wc_Situation_ableOf_69 a0 Post y0 I J B D → lv_has ls 6 [] → zW G A s.heap (wX ad K sv I J B D) H locs → W p l e { frames := 3, cells := 0, slots := 0, locals := 68 } s m ([.ref (ad 7), .long a0] : List Value).toArray below meth c H locs 0 0 (MQ below (va_Ql (fun (r : Int64) (u : zS) => Post r u.1 u.2.1 u.2.2.1 u.2.2.2) (fun u t => zPost G K A (wX ad K sv u.1 u.2.1 u.2.2.1 u.2.2.2) t) A) ([.ref (ad 7), .long a0] : List Value).toArray s 0 0 A) (F0 m 69 ls [.long y0]) := by
  obtain ⟨hx, hb, hr, hml, hts, hown, hlocks, hA, hK⟩ := id C
  intro y0 I J B D ls H locs hok hl hw
  unfold wc_Situation_ableOf_69 at hok
  exact (z_lret (u := (I, J, B, D)) hx hb hr hlocks hw (List.range 65) wX_all wX_nd hok (Nat.le_of_ble_eq_true rfl) (Nat.le_of_ble_eq_true rfl) zd_Situation_ableOf_69)
set_option maxHeartbeats 8000000 in
set_option maxRecDepth 100000 in
theorem wJ_Situation_ableOf_44 {p : Program} {l : Launch} {e : Env} {s : State} {m : MethodId} {below : List Frame} {meth : Method} {c : Code} {A : Nat → Prop} (G : va_G) (K : Nat → ClassId) (ad : Nat → Nat) (sv : Value) (a0 : Int64) (Post : Int64 → (Nat → Int32) → (Nat → Int64) → (Nat → Nat → Int32) → (Nat → Nat → Int64) → Prop) (C : zCx p s m ([.ref (ad 7), .long a0] : List Value).toArray meth c A G K prog_8_method_7_code (some .long) 6 "LassoFinder$Situation") (K5 : Int64 → Int64 → Int32 → (Nat → Int32) → (Nat → Int64) → (Nat → Nat → Int32) → (Nat → Nat → Int64) → Prop) (kh5 : ∀ (x1 : Int64) (x3 : Int64) (x5 : Int32) (I : Nat → Int32) (J : Nat → Int64) (B : Nat → Nat → Int32) (D : Nat → Nat → Int64) (ls : Array Slot) (H : Heap) (locs : List Loc), K5 x1 x3 x5 I J B D → lv_has ls 6 [(0, .ref (ad 7)), (1, .long x1), (3, .long x3), (5, .int x5)] → zW G A s.heap (wX ad K sv I J B D) H locs → W p l e { frames := 3, cells := 0, slots := 0, locals := 68 } s m ([.ref (ad 7), .long a0] : List Value).toArray below meth c H locs 0 0 (MQ below (va_Ql (fun (r : Int64) (u : zS) => Post r u.1 u.2.1 u.2.2.1 u.2.2.2) (fun u t => zPost G K A (wX ad K sv u.1 u.2.1 u.2.2.1 u.2.2.2) t) A) ([.ref (ad 7), .long a0] : List Value).toArray s 0 0 A) (F0 m 5 ls [])) : ∀ (x1 : Int64) (x3 : Int64) (x5 : Int32) (I : Nat → Int32) (J : Nat → Int64) (B : Nat → Nat → Int32) (D : Nat → Nat → Int64) (ls : Array Slot) (H : Heap) (locs : List Loc), wc_Situation_ableOf_44 a0 K5 Post x1 x3 x5 I J B D → lv_has ls 6 [(0, .ref (ad 7)), (1, .long x1), (3, .long x3), (5, .int x5)] → zW G A s.heap (wX ad K sv I J B D) H locs → W p l e { frames := 3, cells := 0, slots := 0, locals := 68 } s m ([.ref (ad 7), .long a0] : List Value).toArray below meth c H locs 0 0 (MQ below (va_Ql (fun (r : Int64) (u : zS) => Post r u.1 u.2.1 u.2.2.1 u.2.2.2) (fun u t => zPost G K A (wX ad K sv u.1 u.2.1 u.2.2.1 u.2.2.2) t) A) ([.ref (ad 7), .long a0] : List Value).toArray s 0 0 A) (F0 m 44 ls []) := by
  obtain ⟨hx, hb, hr, hml, hts, hown, hlocks, hA, hK⟩ := id C
  intro x1 x3 x5 I J B D ls H locs hok hl hw
  unfold wc_Situation_ableOf_44 at hok
  obtain ⟨z1, ez1⟩ : ∃ z : Int32, z = (x5 + 1) := ⟨_, rfl⟩
  have hok := hok z1 ez1
  refine lv_iinc (v := z1) hx hb zd_Situation_ableOf_44 hl (k := 3) rfl ez1.symm (by decide) rfl (fun ls hl => ?_)
  have hl : lv_has ls 6 [(5, .int z1), (0, .ref (ad 7)), (1, .long x1), (3, .long x3)] := hl
  refine lv_goto (tgt := 5) hx hb zd_Situation_ableOf_47 (by decide) ?_
  exact kh5 x1 x3 z1 I J B D ls H locs hok (lv_sub hl [1, 2, 3, 0] rfl) hw
set_option maxHeartbeats 8000000 in
set_option maxRecDepth 100000 in
theorem wB_Situation_ableOf_5 {p : Program} {l : Launch} {e : Env} {s : State} {m : MethodId} {below : List Frame} {meth : Method} {c : Code} {A : Nat → Prop} (G : va_G) (K : Nat → ClassId) (ad : Nat → Nat) (sv : Value) (a0 : Int64) (Post : Int64 → (Nat → Int32) → (Nat → Int64) → (Nat → Nat → Int32) → (Nat → Nat → Int64) → Prop) (C : zCx p s m ([.ref (ad 7), .long a0] : List Value).toArray meth c A G K prog_8_method_7_code (some .long) 6 "LassoFinder$Situation") (K5 : Int64 → Int64 → Int32 → (Nat → Int32) → (Nat → Int64) → (Nat → Nat → Int32) → (Nat → Nat → Int64) → Prop) (kh5 : ∀ (x1 : Int64) (x3 : Int64) (x5 : Int32) (I : Nat → Int32) (J : Nat → Int64) (B : Nat → Nat → Int32) (D : Nat → Nat → Int64) (ls : Array Slot) (H : Heap) (locs : List Loc), K5 x1 x3 x5 I J B D → lv_has ls 6 [(0, .ref (ad 7)), (1, .long x1), (3, .long x3), (5, .int x5)] → zW G A s.heap (wX ad K sv I J B D) H locs → W p l e { frames := 3, cells := 0, slots := 0, locals := 68 } s m ([.ref (ad 7), .long a0] : List Value).toArray below meth c H locs 0 0 (MQ below (va_Ql (fun (r : Int64) (u : zS) => Post r u.1 u.2.1 u.2.2.1 u.2.2.2) (fun u t => zPost G K A (wX ad K sv u.1 u.2.1 u.2.2.1 u.2.2.2) t) A) ([.ref (ad 7), .long a0] : List Value).toArray s 0 0 A) (F0 m 5 ls [])) : ∀ (x1 : Int64) (x3 : Int64) (x5 : Int32) (I : Nat → Int32) (J : Nat → Int64) (B : Nat → Nat → Int32) (D : Nat → Nat → Int64) (ls : Array Slot) (H : Heap) (locs : List Loc), wb_Situation_ableOf_5 a0 K5 Post x1 x3 x5 I J B D → lv_has ls 6 [(0, .ref (ad 7)), (1, .long x1), (3, .long x3), (5, .int x5)] → zW G A s.heap (wX ad K sv I J B D) H locs → W p l e { frames := 3, cells := 0, slots := 0, locals := 68 } s m ([.ref (ad 7), .long a0] : List Value).toArray below meth c H locs 0 0 (MQ below (va_Ql (fun (r : Int64) (u : zS) => Post r u.1 u.2.1 u.2.2.1 u.2.2.2) (fun u t => zPost G K A (wX ad K sv u.1 u.2.1 u.2.2.1 u.2.2.2) t) A) ([.ref (ad 7), .long a0] : List Value).toArray s 0 0 A) (F0 m 5 ls []) := by
  obtain ⟨hx, hb, hr, hml, hts, hown, hlocks, hA, hK⟩ := id C
  intro x1 x3 x5 I J B D ls H locs hok hl hw
  unfold wb_Situation_ableOf_5 at hok
  refine lv_iload hx hb zd_Situation_ableOf_5 (lv_at hl 3 rfl) ?_
  refine lv_aload_n hx hb zd_Situation_ableOf_7 rfl (lv_at hl 0 rfl) ?_
  refine z_get (v := .ref (ad 3)) hx hb hts hown hK hw zZ7 7 wX_g7 2 (by decide) zn_463 rfl zd_Situation_ableOf_8 ?_
  refine z_get (v := .int (I 9)) hx hb hts hown hK hw zZ6 3 wX_g3 12 (by decide) zn_477 rfl zd_Situation_ableOf_11 ?_
  refine lv_icmp_ge (tgt := 50) hx hb zd_Situation_ableOf_14 (by decide) (fun hc2 => ?_) (fun hc2 => ?_)
  · have hok := hok.1 hc2
    refine lv_lload_n hx hb zd_Situation_ableOf_50 rfl (lv_at hl 2 rfl) ?_
    refine lv_lconst (v := 0) hx hb zd_Situation_ableOf_51 (by decide) ?_
    refine W.lcmp hx hb zd_Situation_ableOf_52 ?_
    refine lv_topi (fun z3 ez3 => ?_)
    have hok := hok z3 ez3
    refine lv_if_ne (tgt := 68) hx hb zd_Situation_ableOf_53 (by decide) (fun hc4 => ?_) (fun hc4 => ?_)
    · have hok := hok.1 hc4
      refine lv_lload_n hx hb zd_Situation_ableOf_68 rfl (lv_at hl 2 rfl) ?_
      exact wJ_Situation_ableOf_69 G K ad sv a0 Post C x3 I J B D ls H locs hok (lv_sub hl [] rfl) hw
    · have hok := hok.2 hc4
      refine lv_lload_n hx hb zd_Situation_ableOf_56 rfl (lv_at hl 1 rfl) ?_
      refine lv_aload_n hx hb zd_Situation_ableOf_57 rfl (lv_at hl 0 rfl) ?_
      refine z_get (v := .ref (ad 3)) hx hb hts hown hK hw zZ7 7 wX_g7 2 (by decide) zn_463 rfl zd_Situation_ableOf_58 ?_
      refine z_get (v := .long (J 0)) hx hb hts hown hK hw zZ6 3 wX_g3 11 (by decide) zn_478 rfl zd_Situation_ableOf_61 ?_
      refine lv_land hx hb zd_Situation_ableOf_64 ?_
      refine lv_topl (fun z5 ez5 => ?_)
      have hok := hok z5 ez5
      refine lv_goto (tgt := 69) hx hb zd_Situation_ableOf_65 (by decide) ?_
      exact wJ_Situation_ableOf_69 G K ad sv a0 Post C z5 I J B D ls H locs hok (lv_sub hl [] rfl) hw
  · have hok := hok.2 hc2
    refine lv_lload_n hx hb zd_Situation_ableOf_17 rfl (lv_at hl 1 rfl) ?_
    refine lv_iload hx hb zd_Situation_ableOf_18 (lv_at hl 3 rfl) ?_
    refine lv_lushr hx hb zd_Situation_ableOf_20 rfl ?_
    refine lv_topl (fun z6 ez6 => ?_)
    have hok := hok z6 ez6
    refine lv_lconst (v := 1) hx hb zd_Situation_ableOf_21 (by decide) ?_
    refine lv_land hx hb zd_Situation_ableOf_22 ?_
    refine lv_topl (fun z7 ez7 => ?_)
    have hok := hok z7 ez7
    refine lv_lconst (v := 0) hx hb zd_Situation_ableOf_23 (by decide) ?_
    refine W.lcmp hx hb zd_Situation_ableOf_24 ?_
    refine lv_topi (fun z8 ez8 => ?_)
    have hok := hok z8 ez8
    refine lv_if_eq (tgt := 44) hx hb zd_Situation_ableOf_25 (by decide) (fun hc9 => ?_) (fun hc9 => ?_)
    · have hok := hok.1 hc9
      exact wJ_Situation_ableOf_44 G K ad sv a0 Post C K5 kh5 x1 x3 x5 I J B D ls H locs hok (lv_sub hl [0, 1, 2, 3] rfl) hw
    · have hok := hok.2 hc9
      refine lv_aload_n hx hb zd_Situation_ableOf_28 rfl (lv_at hl 0 rfl) ?_
      refine lv_iload hx hb zd_Situation_ableOf_29 (lv_at hl 3 rfl) ?_
      refine z_calli (w1 := fun (u : zS) => wX ad K sv u.1 u.2.1 u.2.2.1 u.2.2.2) (wr := []) (z_runV (q0 := 7) (wc := (wX ad K sv I J B D)) (As := [.int x5]) (rest := []) ⟨hx, hb, hml, hown, hts⟩ (w_Situation_canBeDone l G K ad sv I J B D x5 _ H.size hok) zf_Situation_canBeDone zn_398 ⟨Nat.le_of_ble_eq_true rfl, Nat.le_of_ble_eq_true rfl⟩ hK hw (List.range 65) wX_all wX_nd wX_g7 rfl rfl hl.1 rfl (Nat.le_of_ble_eq_true rfl) zd_Situation_ableOf_31 ⟨Nat.le_of_ble_eq_true rfl, Nat.le_of_ble_eq_true rfl⟩) hw hA (List.range 65) [] wX_all rfl (by decide) (fun i hi => by cases hi) (fun r10 u H locs hok hw => ?_)
      obtain ⟨I10, J10, B10, D10⟩ := u
      dsimp only at hok
      have hw : zW G A s.heap (wX ad K sv I10 J10 B10 D10) H locs := hw
      refine lv_if_eq (tgt := 44) hx hb zd_Situation_ableOf_34 (by decide) (fun hc11 => ?_) (fun hc11 => ?_)
      · have hok := hok.1 hc11
        exact wJ_Situation_ableOf_44 G K ad sv a0 Post C K5 kh5 x1 x3 x5 I10 J10 B10 D10 ls H locs hok (lv_sub hl [0, 1, 2, 3] rfl) hw
      · have hok := hok.2 hc11
        refine lv_lload_n hx hb zd_Situation_ableOf_37 rfl (lv_at hl 2 rfl) ?_
        refine lv_lconst (v := 1) hx hb zd_Situation_ableOf_38 (by decide) ?_
        refine lv_iload hx hb zd_Situation_ableOf_39 (lv_at hl 3 rfl) ?_
        refine lv_lshl hx hb zd_Situation_ableOf_41 rfl ?_
        refine lv_topl (fun z12 ez12 => ?_)
        have hok := hok z12 ez12
        refine lv_lor hx hb zd_Situation_ableOf_42 ?_
        refine lv_topl (fun z13 ez13 => ?_)
        have hok := hok z13 ez13
        refine lv_lstore_n hx hb zd_Situation_ableOf_43 rfl hl (by decide) rfl (fun ls hl => ?_)
        have hl : lv_has ls 6 [(3, .long z13), (0, .ref (ad 7)), (1, .long x1), (5, .int x5)] := hl
        exact wJ_Situation_ableOf_44 G K ad sv a0 Post C K5 kh5 x1 z13 x5 I10 J10 B10 D10 ls H locs hok (lv_sub hl [1, 2, 0, 3] rfl) hw
theorem wL_Situation_ableOf_5 {p : Program} {l : Launch} {e : Env} {s : State} {m : MethodId} {below : List Frame} {meth : Method} {c : Code} {A : Nat → Prop} (G : va_G) (K : Nat → ClassId) (ad : Nat → Nat) (sv : Value) (a0 : Int64) (Post : Int64 → (Nat → Int32) → (Nat → Int64) → (Nat → Nat → Int32) → (Nat → Nat → Int64) → Prop) (C : zCx p s m ([.ref (ad 7), .long a0] : List Value).toArray meth c A G K prog_8_method_7_code (some .long) 6 "LassoFinder$Situation") : ∀ (n : Nat) (x1 : Int64) (x3 : Int64) (x5 : Int32) (I : Nat → Int32) (J : Nat → Int64) (B : Nat → Nat → Int32) (D : Nat → Nat → Int64) (ls : Array Slot) (H : Heap) (locs : List Loc), wl_Situation_ableOf_5 a0 Post n x1 x3 x5 I J B D → lv_has ls 6 [(0, .ref (ad 7)), (1, .long x1), (3, .long x3), (5, .int x5)] → zW G A s.heap (wX ad K sv I J B D) H locs → W p l e { frames := 3, cells := 0, slots := 0, locals := 68 } s m ([.ref (ad 7), .long a0] : List Value).toArray below meth c H locs 0 0 (MQ below (va_Ql (fun (r : Int64) (u : zS) => Post r u.1 u.2.1 u.2.2.1 u.2.2.2) (fun u t => zPost G K A (wX ad K sv u.1 u.2.1 u.2.2.1 u.2.2.2) t) A) ([.ref (ad 7), .long a0] : List Value).toArray s 0 0 A) (F0 m 5 ls []) := by
  intro n
  induction n with
  | zero => intro x1 x3 x5 I J B D ls H locs hok; exact hok.elim
  | succ n ih => exact wB_Situation_ableOf_5 G K ad sv a0 Post C (wl_Situation_ableOf_5 a0 Post n) ih
set_option maxHeartbeats 8000000 in
set_option maxRecDepth 100000 in
theorem w_Situation_ableOf (l : Launch) (G : va_G) (K : Nat → ClassId) (ad : Nat → Nat) (sv : Value) (I : Nat → Int32) (J : Nat → Int64) (B : Nat → Nat → Int32) (D : Nat → Nat → Int64) (a0 : Int64) (Post : Int64 → (Nat → Int32) → (Nat → Int64) → (Nat → Nat → Int32) → (Nat → Nat → Int64) → Prop) (sz : Nat) (hok : wp_Situation_ableOf I J B D a0 Post) : Met l zy_Situation_ableOf (Cond.code zy_Situation_ableOf prog_8_method_7_code 6 (some .long) :: zTB) { frames := 3, cells := 0, slots := 0, locals := 68 } (va_Pc [.ref (ad 7), .long a0] (zPre G K (wX ad K sv I J B D) sz)) (va_Ql (fun (r : Int64) (u : zS) => Post r u.1 u.2.1 u.2.2.1 u.2.2.2) (fun u t => zPost G K (va_A (wX ad K sv I J B D) sz) (wX ad K sv u.1 u.2.1 u.2.2.1 u.2.2.2) t) (va_A (wX ad K sv I J B D) sz)) 0 0 (va_A (wX ad K sv I J B D) sz) := by
  refine zMet (y := zy_Situation_ableOf) (av := [.ref (ad 7), .long a0]) (maxL := 6) (cc := prog_8_method_7_code) (ret := (some .long)) (W0 := (wX ad K sv I J B D)) (sz := sz) (G := G) (K := K) (wt := zTB) (mc := 0) (ms := 0) (Qf := fun A => va_Ql (fun (r : Int64) (u : zS) => Post r u.1 u.2.1 u.2.2.1 u.2.2.2) (fun u t => zPost G K A (wX ad K sv u.1 u.2.1 u.2.2.1 u.2.2.2) t) A) (by decide) (Nat.le_of_ble_eq_true rfl) ?_
  intro p e s m below meth c ls A hx hb hr hml hts hown hlocks hin hA hK H locs hw hsz hl
  clear hsz
  have hown : s.vm.findClass "LassoFinder$Situation" = some m.cls := hown
  have C : zCx p s m ([.ref (ad 7), .long a0] : List Value).toArray meth c A G K prog_8_method_7_code (some .long) 6 "LassoFinder$Situation" := ⟨hx, hb, hr, hml, hts, hown, hlocks, hA, hK⟩
  have hl : lv_has ls 6 [(0, .ref (ad 7)), (1, .long a0)] := hl
  have hw : zW G A s.heap (wX ad K sv I J B D) H locs := hw
  unfold wp_Situation_ableOf at hok
  refine lv_lconst (v := 0) hx hb zd_Situation_ableOf_0 (by decide) ?_
  refine lv_lstore_n hx hb zd_Situation_ableOf_1 rfl hl (by decide) rfl (fun ls hl => ?_)
  have hl : lv_has ls 6 [(3, .long 0), (0, .ref (ad 7)), (1, .long a0)] := hl
  refine lv_iconst (v := 0) hx hb zd_Situation_ableOf_2 (by decide) ?_
  refine lv_istore hx hb zd_Situation_ableOf_3 hl (by decide) rfl (fun ls hl => ?_)
  have hl : lv_has ls 6 [(5, .int 0), (3, .long 0), (0, .ref (ad 7)), (1, .long a0)] := hl
  obtain ⟨n9, hok⟩ := hok
  exact wL_Situation_ableOf_5 G K ad sv a0 Post C n9 a0 0 0 I J B D ls H locs hok (lv_sub hl [2, 3, 1, 0] rfl) hw
def wc_Situation_able_135 (Post : Int64 → (Nat → Int32) → (Nat → Int64) → (Nat → Nat → Int32) → (Nat → Nat → Int64) → Prop) (y0 : Int64) (I : Nat → Int32) (J : Nat → Int64) (B : Nat → Nat → Int32) (D : Nat → Nat → Int64) : Prop :=
  Post y0 I J B D
def wc_Situation_able_123 (Post : Int64 → (Nat → Int32) → (Nat → Int64) → (Nat → Nat → Int32) → (Nat → Nat → Int64) → Prop) (x1 : Int64) (y0 : Int64) (I : Nat → Int32) (J : Nat → Int64) (B : Nat → Nat → Int32) (D : Nat → Nat → Int64) : Prop :=
  ∀ z1 : Int32, z1 = (lg_cmp y0 0) → ((¬ z1 = 0 → wc_Situation_able_135  Post y0 I J B D) ∧ (z1 = 0 → wc_Situation_able_135  Post x1 I J B D))
def wb_Situation_able_51 (K51 : Int64 → Int32 → (Nat → Int32) → (Nat → Int64) → (Nat → Nat → Int32) → (Nat → Nat → Int64) → Prop) (Post : Int64 → (Nat → Int32) → (Nat → Int64) → (Nat → Nat → Int32) → (Nat → Nat → Int64) → Prop) (x1 : Int64) (x3 : Int32) (I : Nat → Int32) (J : Nat → Int64) (B : Nat → Nat → Int32) (D : Nat → Nat → Int64) : Prop :=
  (((I 10) ≤ x3 → ((¬ (I 18) = (-1) → vp_in (I 18) 4 ∧ ∀ z5 : Int32, z5 = ((B 31) (I 18).toNatClampNeg) → wp_Program_at I J B D (I 18) z5 (fun r6 I6 J6 B6 D6 => ∀ z7 : Int64, z7 = (x1 &&& r6) → wc_Situation_able_123  Post x1 z7 I6 J6 B6 D6)) ∧ ((I 18) = (-1) → wc_Situation_able_123  Post x1 0 I J B D))) ∧ (¬ (I 10) ≤ x3 → vp_in x3 4 ∧ ∀ z8 : Int32, z8 = ((B 31) x3.toNatClampNeg) → wp_Program_at I J B D x3 z8 (fun r9 I9 J9 B9 D9 => wp_Situation_ableOf I9 J9 B9 D9 r9 (fun r10 I10 J10 B10 D10 => ∀ z11 : Int64, z11 = (x1 ||| r10) → ∀ z12 : Int32, z12 = (x3 + 1) → K51 z11 z12 I10 J10 B10 D10))))
def wl_Situation_able_51 (Post : Int64 → (Nat → Int32) → (Nat → Int64) → (Nat → Nat → Int32) → (Nat → Nat → Int64) → Prop) (n : Nat) : Int64 → Int32 → (Nat → Int32) → (Nat → Int64) → (Nat → Nat → Int32) → (Nat → Nat → Int64) → Prop := Nat.rec (fun _ _ _ _ _ _ => False) (fun _ r => wb_Situation_able_51  r Post) n
def wb_Situation_able_7 (K7 : Int32 → (Nat → Int32) → (Nat → Int64) → (Nat → Nat → Int32) → (Nat → Nat → Int64) → Prop) (Post : Int64 → (Nat → Int32) → (Nat → Int64) → (Nat → Nat → Int32) → (Nat → Nat → Int64) → Prop) (x1 : Int32) (I : Nat → Int32) (J : Nat → Int64) (B : Nat → Nat → Int32) (D : Nat → Nat → Int64) : Prop :=
  (((I 10) ≤ x1 → ∃ n : Nat, wl_Situation_able_51  Post n 0 0 I J B D) ∧ (¬ (I 10) ≤ x1 → vp_in x1 4 ∧ ∀ z14 : Int32, z14 = ((B 31) x1.toNatClampNeg) → wp_Program_at I J B D x1 z14 (fun r15 I15 J15 B15 D15 => ∀ z16 : Int64, z16 = ((J 1) ||| r15) → ∀ z17 : Int32, z17 = (x1 + 1) → K7 z17 I15 (vp_updL J15 1 z16) B15 D15)))
def wl_Situation_able_7 (Post : Int64 → (Nat → Int32) → (Nat → Int64) → (Nat → Nat → Int32) → (Nat → Nat → Int64) → Prop) (n : Nat) : Int32 → (Nat → Int32) → (Nat → Int64) → (Nat → Nat → Int32) → (Nat → Nat → Int64) → Prop := Nat.rec (fun _ _ _ _ _ => False) (fun _ r => wb_Situation_able_7  r Post) n
def wp_Situation_able (I : Nat → Int32) (J : Nat → Int64) (B : Nat → Nat → Int32) (D : Nat → Nat → Int64) (Post : Int64 → (Nat → Int32) → (Nat → Int64) → (Nat → Nat → Int32) → (Nat → Nat → Int64) → Prop) : Prop :=
  ∃ n : Nat, wl_Situation_able_7  Post n 0 I (vp_updL J 1 0) B D
set_option maxHeartbeats 8000000 in
set_option maxRecDepth 100000 in
theorem wJ_Situation_able_135 {p : Program} {l : Launch} {e : Env} {s : State} {m : MethodId} {below : List Frame} {meth : Method} {c : Code} {A : Nat → Prop} (G : va_G) (K : Nat → ClassId) (ad : Nat → Nat) (sv : Value) (Post : Int64 → (Nat → Int32) → (Nat → Int64) → (Nat → Nat → Int32) → (Nat → Nat → Int64) → Prop) (C : zCx p s m ([.ref (ad 7)] : List Value).toArray meth c A G K prog_8_method_6_code (some .long) 5 "LassoFinder$Situation") : ∀ (y0 : Int64) (I : Nat → Int32) (J : Nat → Int64) (B : Nat → Nat → Int32) (D : Nat → Nat → Int64) (ls : Array Slot) (H : Heap) (locs : List Loc), wc_Situation_able_135  Post y0 I J B D → lv_has ls 5 [] → zW G A s.heap (wX ad K sv I J B D) H locs → W p l e { frames := 4, cells := 0, slots := 0, locals := 93 } s m ([.ref (ad 7)] : List Value).toArray below meth c H locs 0 0 (MQ below (va_Ql (fun (r : Int64) (u : zS) => Post r u.1 u.2.1 u.2.2.1 u.2.2.2) (fun u t => zPost G K A (wX ad K sv u.1 u.2.1 u.2.2.1 u.2.2.2) t) A) ([.ref (ad 7)] : List Value).toArray s 0 0 A) (F0 m 135 ls [.long y0]) := by
  obtain ⟨hx, hb, hr, hml, hts, hown, hlocks, hA, hK⟩ := id C
  intro y0 I J B D ls H locs hok hl hw
  unfold wc_Situation_able_135 at hok
  exact (z_lret (u := (I, J, B, D)) hx hb hr hlocks hw (List.range 65) wX_all wX_nd hok (Nat.le_of_ble_eq_true rfl) (Nat.le_of_ble_eq_true rfl) zd_Situation_able_135)
set_option maxHeartbeats 8000000 in
set_option maxRecDepth 100000 in
theorem wJ_Situation_able_123 {p : Program} {l : Launch} {e : Env} {s : State} {m : MethodId} {below : List Frame} {meth : Method} {c : Code} {A : Nat → Prop} (G : va_G) (K : Nat → ClassId) (ad : Nat → Nat) (sv : Value) (Post : Int64 → (Nat → Int32) → (Nat → Int64) → (Nat → Nat → Int32) → (Nat → Nat → Int64) → Prop) (C : zCx p s m ([.ref (ad 7)] : List Value).toArray meth c A G K prog_8_method_6_code (some .long) 5 "LassoFinder$Situation") : ∀ (x1 : Int64) (y0 : Int64) (I : Nat → Int32) (J : Nat → Int64) (B : Nat → Nat → Int32) (D : Nat → Nat → Int64) (ls : Array Slot) (H : Heap) (locs : List Loc), wc_Situation_able_123  Post x1 y0 I J B D → lv_has ls 5 [(1, .long x1)] → zW G A s.heap (wX ad K sv I J B D) H locs → W p l e { frames := 4, cells := 0, slots := 0, locals := 93 } s m ([.ref (ad 7)] : List Value).toArray below meth c H locs 0 0 (MQ below (va_Ql (fun (r : Int64) (u : zS) => Post r u.1 u.2.1 u.2.2.1 u.2.2.2) (fun u t => zPost G K A (wX ad K sv u.1 u.2.1 u.2.2.1 u.2.2.2) t) A) ([.ref (ad 7)] : List Value).toArray s 0 0 A) (F0 m 123 ls [.long y0]) := by
  obtain ⟨hx, hb, hr, hml, hts, hown, hlocks, hA, hK⟩ := id C
  intro x1 y0 I J B D ls H locs hok hl hw
  unfold wc_Situation_able_123 at hok
  refine lv_lstore_n hx hb zd_Situation_able_123 rfl hl (by decide) rfl (fun ls hl => ?_)
  have hl : lv_has ls 5 [(3, .long y0), (1, .long x1)] := hl
  refine lv_lload_n hx hb zd_Situation_able_124 rfl (lv_at hl 0 rfl) ?_
  refine lv_lconst (v := 0) hx hb zd_Situation_able_125 (by decide) ?_
  refine W.lcmp hx hb zd_Situation_able_126 ?_
  refine lv_topi (fun z1 ez1 => ?_)
  have hok := hok z1 ez1
  refine lv_if_ne (tgt := 134) hx hb zd_Situation_able_127 (by decide) (fun hc2 => ?_) (fun hc2 => ?_)
  · have hok := hok.1 hc2
    refine lv_lload_n hx hb zd_Situation_able_134 rfl (lv_at hl 0 rfl) ?_
    exact wJ_Situation_able_135 G K ad sv  Post C y0 I J B D ls H locs hok (lv_sub hl [] rfl) hw
  · have hok := hok.2 hc2
    refine lv_lload_n hx hb zd_Situation_able_130 rfl (lv_at hl 1 rfl) ?_
    refine lv_goto (tgt := 135) hx hb zd_Situation_able_131 (by decide) ?_
    exact wJ_Situation_able_135 G K ad sv  Post C x1 I J B D ls H locs hok (lv_sub hl [] rfl) hw
set_option maxHeartbeats 8000000 in
set_option maxRecDepth 100000 in
theorem wB_Situation_able_51 {p : Program} {l : Launch} {e : Env} {s : State} {m : MethodId} {below : List Frame} {meth : Method} {c : Code} {A : Nat → Prop} (G : va_G) (K : Nat → ClassId) (ad : Nat → Nat) (sv : Value) (Post : Int64 → (Nat → Int32) → (Nat → Int64) → (Nat → Nat → Int32) → (Nat → Nat → Int64) → Prop) (C : zCx p s m ([.ref (ad 7)] : List Value).toArray meth c A G K prog_8_method_6_code (some .long) 5 "LassoFinder$Situation") (K51 : Int64 → Int32 → (Nat → Int32) → (Nat → Int64) → (Nat → Nat → Int32) → (Nat → Nat → Int64) → Prop) (kh51 : ∀ (x1 : Int64) (x3 : Int32) (I : Nat → Int32) (J : Nat → Int64) (B : Nat → Nat → Int32) (D : Nat → Nat → Int64) (ls : Array Slot) (H : Heap) (locs : List Loc), K51 x1 x3 I J B D → lv_has ls 5 [(0, .ref (ad 7)), (1, .long x1), (3, .int x3)] → zW G A s.heap (wX ad K sv I J B D) H locs → W p l e { frames := 4, cells := 0, slots := 0, locals := 93 } s m ([.ref (ad 7)] : List Value).toArray below meth c H locs 0 0 (MQ below (va_Ql (fun (r : Int64) (u : zS) => Post r u.1 u.2.1 u.2.2.1 u.2.2.2) (fun u t => zPost G K A (wX ad K sv u.1 u.2.1 u.2.2.1 u.2.2.2) t) A) ([.ref (ad 7)] : List Value).toArray s 0 0 A) (F0 m 51 ls [])) : ∀ (x1 : Int64) (x3 : Int32) (I : Nat → Int32) (J : Nat → Int64) (B : Nat → Nat → Int32) (D : Nat → Nat → Int64) (ls : Array Slot) (H : Heap) (locs : List Loc), wb_Situation_able_51  K51 Post x1 x3 I J B D → lv_has ls 5 [(0, .ref (ad 7)), (1, .long x1), (3, .int x3)] → zW G A s.heap (wX ad K sv I J B D) H locs → W p l e { frames := 4, cells := 0, slots := 0, locals := 93 } s m ([.ref (ad 7)] : List Value).toArray below meth c H locs 0 0 (MQ below (va_Ql (fun (r : Int64) (u : zS) => Post r u.1 u.2.1 u.2.2.1 u.2.2.2) (fun u t => zPost G K A (wX ad K sv u.1 u.2.1 u.2.2.1 u.2.2.2) t) A) ([.ref (ad 7)] : List Value).toArray s 0 0 A) (F0 m 51 ls []) := by
  obtain ⟨hx, hb, hr, hml, hts, hown, hlocks, hA, hK⟩ := id C
  intro x1 x3 I J B D ls H locs hok hl hw
  unfold wb_Situation_able_51 at hok
  refine lv_iload_n hx hb zd_Situation_able_51 rfl (lv_at hl 2 rfl) ?_
  refine lv_aload_n hx hb zd_Situation_able_52 rfl (lv_at hl 0 rfl) ?_
  refine z_get (v := .ref (ad 3)) hx hb hts hown hK hw zZ7 7 wX_g7 2 (by decide) zn_463 rfl zd_Situation_able_53 ?_
  refine z_get (v := .int (I 10)) hx hb hts hown hK hw zZ6 3 wX_g3 13 (by decide) zn_476 rfl zd_Situation_able_56 ?_
  refine lv_icmp_ge (tgt := 89) hx hb zd_Situation_able_59 (by decide) (fun hc3 => ?_) (fun hc3 => ?_)
  · have hok := hok.1 hc3
    refine lv_aload_n hx hb zd_Situation_able_89 rfl (lv_at hl 0 rfl) ?_
    refine z_get (v := .int (I 18)) hx hb hts hown hK hw zZ7 7 wX_g7 6 (by decide) zn_311 rfl zd_Situation_able_90 ?_
    refine lv_iconst (v := (-1)) hx hb zd_Situation_able_93 (by decide) ?_
    refine lv_icmp_ne (tgt := 101) hx hb zd_Situation_able_94 (by decide) (fun hc4 => ?_) (fun hc4 => ?_)
    · have hok := hok.1 hc4
      refine lv_lload_n hx hb zd_Situation_able_101 rfl (lv_at hl 1 rfl) ?_
      refine lv_aload_n hx hb zd_Situation_able_102 rfl (lv_at hl 0 rfl) ?_
      refine z_get (v := .ref (ad 3)) hx hb hts hown hK hw zZ7 7 wX_g7 2 (by decide) zn_463 rfl zd_Situation_able_103 ?_
      refine lv_aload_n hx hb zd_Situation_able_106 rfl (lv_at hl 0 rfl) ?_
      refine z_get (v := .int (I 18)) hx hb hts hown hK hw zZ7 7 wX_g7 6 (by decide) zn_311 rfl zd_Situation_able_107 ?_
      refine lv_aload_n hx hb zd_Situation_able_110 rfl (lv_at hl 0 rfl) ?_
      refine z_get (v := .ref (ad 45)) hx hb hts hown hK hw zZ7 7 wX_g7 5 (by decide) zn_268 rfl zd_Situation_able_111 ?_
      refine lv_aload_n hx hb zd_Situation_able_114 rfl (lv_at hl 0 rfl) ?_
      refine z_get (v := .int (I 18)) hx hb hts hown hK hw zZ7 7 wX_g7 6 (by decide) zn_311 rfl zd_Situation_able_115 ?_
      refine va_iald (f := (B 31)) hx hb hK hw.1 45 0 wX_a45 rfl hok.1 zd_Situation_able_118 ?_
      have hok := hok.2
      refine lv_topi (fun z5 ez5 => ?_)
      have hok := hok z5 ez5
      refine z_calll (w1 := fun (u : zS) => wX ad K sv u.1 u.2.1 u.2.2.1 u.2.2.2) (wr := []) (z_runV (q0 := 3) (wc := (wX ad K sv I J B D)) (As := [.int (I 18), .int z5]) (rest := [.long x1]) ⟨hx, hb, hml, hown, hts⟩ (w_Program_at l G K ad sv I J B D (I 18) z5 _ H.size hok) zf_Program_at zn_396 ⟨Nat.le_of_ble_eq_true rfl, Nat.le_of_ble_eq_true rfl⟩ hK hw (List.range 65) wX_all wX_nd wX_g3 rfl rfl hl.1 rfl (Nat.le_of_ble_eq_true rfl) zd_Situation_able_119 ⟨Nat.le_of_ble_eq_true rfl, Nat.le_of_ble_eq_true rfl⟩) hw hA (List.range 65) [] wX_all rfl (by decide) (fun i hi => by cases hi) (fun r6 u H locs hok hw => ?_)
      obtain ⟨I6, J6, B6, D6⟩ := u
      dsimp only at hok
      have hw : zW G A s.heap (wX ad K sv I6 J6 B6 D6) H locs := hw
      refine lv_land hx hb zd_Situation_able_122 ?_
      refine lv_topl (fun z7 ez7 => ?_)
      have hok := hok z7 ez7
      exact wJ_Situation_able_123 G K ad sv  Post C x1 z7 I6 J6 B6 D6 ls H locs hok (lv_sub hl [1] rfl) hw
    · have hok := hok.2 hc4
      refine lv_lconst (v := 0) hx hb zd_Situation_able_97 (by decide) ?_
      refine lv_goto (tgt := 123) hx hb zd_Situation_able_98 (by decide) ?_
      exact wJ_Situation_able_123 G K ad sv  Post C x1 0 I J B D ls H locs hok (lv_sub hl [1] rfl) hw
  · have hok := hok.2 hc3
    refine lv_lload_n hx hb zd_Situation_able_62 rfl (lv_at hl 1 rfl) ?_
    refine lv_aload_n hx hb zd_Situation_able_63 rfl (lv_at hl 0 rfl) ?_
    refine lv_aload_n hx hb zd_Situation_able_64 rfl (lv_at hl 0 rfl) ?_
    refine z_get (v := .ref (ad 3)) hx hb hts hown hK hw zZ7 7 wX_g7 2 (by decide) zn_463 rfl zd_Situation_able_65 ?_
    refine lv_iload_n hx hb zd_Situation_able_68 rfl (lv_at hl 2 rfl) ?_
    refine lv_aload_n hx hb zd_Situation_able_69 rfl (lv_at hl 0 rfl) ?_
    refine z_get (v := .ref (ad 45)) hx hb hts hown hK hw zZ7 7 wX_g7 5 (by decide) zn_268 rfl zd_Situation_able_70 ?_
    refine lv_iload_n hx hb zd_Situation_able_73 rfl (lv_at hl 2 rfl) ?_
    refine va_iald (f := (B 31)) hx hb hK hw.1 45 0 wX_a45 rfl hok.1 zd_Situation_able_74 ?_
    have hok := hok.2
    refine lv_topi (fun z8 ez8 => ?_)
    have hok := hok z8 ez8
    refine z_calll (w1 := fun (u : zS) => wX ad K sv u.1 u.2.1 u.2.2.1 u.2.2.2) (wr := []) (z_runV (q0 := 3) (wc := (wX ad K sv I J B D)) (As := [.int x3, .int z8]) (rest := [.ref (ad 7), .long x1]) ⟨hx, hb, hml, hown, hts⟩ (w_Program_at l G K ad sv I J B D x3 z8 _ H.size hok) zf_Program_at zn_396 ⟨Nat.le_of_ble_eq_true rfl, Nat.le_of_ble_eq_true rfl⟩ hK hw (List.range 65) wX_all wX_nd wX_g3 rfl rfl hl.1 rfl (Nat.le_of_ble_eq_true rfl) zd_Situation_able_75 ⟨Nat.le_of_ble_eq_true rfl, Nat.le_of_ble_eq_true rfl⟩) hw hA (List.range 65) [] wX_all rfl (by decide) (fun i hi => by cases hi) (fun r9 u H locs hok hw => ?_)
    obtain ⟨I9, J9, B9, D9⟩ := u
    dsimp only at hok
    have hw : zW G A s.heap (wX ad K sv I9 J9 B9 D9) H locs := hw
    refine z_calll (w1 := fun (u : zS) => wX ad K sv u.1 u.2.1 u.2.2.1 u.2.2.2) (wr := []) (z_runV (q0 := 7) (wc := (wX ad K sv I9 J9 B9 D9)) (As := [.long r9]) (rest := [.long x1]) ⟨hx, hb, hml, hown, hts⟩ (w_Situation_ableOf l G K ad sv I9 J9 B9 D9 r9 _ H.size hok) zf_Situation_ableOf zn_397 ⟨Nat.le_of_ble_eq_true rfl, Nat.le_of_ble_eq_true rfl⟩ hK hw (List.range 65) wX_all wX_nd wX_g7 rfl rfl hl.1 rfl (Nat.le_of_ble_eq_true rfl) zd_Situation_able_78 ⟨Nat.le_of_ble_eq_true rfl, Nat.le_of_ble_eq_true rfl⟩) hw hA (List.range 65) [] wX_all rfl (by decide) (fun i hi => by cases hi) (fun r10 u H locs hok hw => ?_)
    obtain ⟨I10, J10, B10, D10⟩ := u
    dsimp only at hok
    have hw : zW G A s.heap (wX ad K sv I10 J10 B10 D10) H locs := hw
    refine lv_lor hx hb zd_Situation_able_81 ?_
    refine lv_topl (fun z11 ez11 => ?_)
    have hok := hok z11 ez11
    refine lv_lstore_n hx hb zd_Situation_able_82 rfl hl (by decide) rfl (fun ls hl => ?_)
    have hl : lv_has ls 5 [(1, .long z11), (0, .ref (ad 7)), (3, .int x3)] := hl
    obtain ⟨z12, ez12⟩ : ∃ z : Int32, z = (x3 + 1) := ⟨_, rfl⟩
    have hok := hok z12 ez12
    refine lv_iinc (v := z12) hx hb zd_Situation_able_83 hl (k := 2) rfl ez12.symm (by decide) rfl (fun ls hl => ?_)
    have hl : lv_has ls 5 [(3, .int z12), (1, .long z11), (0, .ref (ad 7))] := hl
    refine lv_goto (tgt := 51) hx hb zd_Situation_able_86 (by decide) ?_
    exact kh51 z11 z12 I10 J10 B10 D10 ls H locs hok (lv_sub hl [2, 1, 0] rfl) hw
theorem wL_Situation_able_51 {p : Program} {l : Launch} {e : Env} {s : State} {m : MethodId} {below : List Frame} {meth : Method} {c : Code} {A : Nat → Prop} (G : va_G) (K : Nat → ClassId) (ad : Nat → Nat) (sv : Value) (Post : Int64 → (Nat → Int32) → (Nat → Int64) → (Nat → Nat → Int32) → (Nat → Nat → Int64) → Prop) (C : zCx p s m ([.ref (ad 7)] : List Value).toArray meth c A G K prog_8_method_6_code (some .long) 5 "LassoFinder$Situation") : ∀ (n : Nat) (x1 : Int64) (x3 : Int32) (I : Nat → Int32) (J : Nat → Int64) (B : Nat → Nat → Int32) (D : Nat → Nat → Int64) (ls : Array Slot) (H : Heap) (locs : List Loc), wl_Situation_able_51  Post n x1 x3 I J B D → lv_has ls 5 [(0, .ref (ad 7)), (1, .long x1), (3, .int x3)] → zW G A s.heap (wX ad K sv I J B D) H locs → W p l e { frames := 4, cells := 0, slots := 0, locals := 93 } s m ([.ref (ad 7)] : List Value).toArray below meth c H locs 0 0 (MQ below (va_Ql (fun (r : Int64) (u : zS) => Post r u.1 u.2.1 u.2.2.1 u.2.2.2) (fun u t => zPost G K A (wX ad K sv u.1 u.2.1 u.2.2.1 u.2.2.2) t) A) ([.ref (ad 7)] : List Value).toArray s 0 0 A) (F0 m 51 ls []) := by
  intro n
  induction n with
  | zero => intro x1 x3 I J B D ls H locs hok; exact hok.elim
  | succ n ih => exact wB_Situation_able_51 G K ad sv  Post C (wl_Situation_able_51  Post n) ih
set_option maxHeartbeats 8000000 in
set_option maxRecDepth 100000 in
theorem wB_Situation_able_7 {p : Program} {l : Launch} {e : Env} {s : State} {m : MethodId} {below : List Frame} {meth : Method} {c : Code} {A : Nat → Prop} (G : va_G) (K : Nat → ClassId) (ad : Nat → Nat) (sv : Value) (Post : Int64 → (Nat → Int32) → (Nat → Int64) → (Nat → Nat → Int32) → (Nat → Nat → Int64) → Prop) (C : zCx p s m ([.ref (ad 7)] : List Value).toArray meth c A G K prog_8_method_6_code (some .long) 5 "LassoFinder$Situation") (K7 : Int32 → (Nat → Int32) → (Nat → Int64) → (Nat → Nat → Int32) → (Nat → Nat → Int64) → Prop) (kh7 : ∀ (x1 : Int32) (I : Nat → Int32) (J : Nat → Int64) (B : Nat → Nat → Int32) (D : Nat → Nat → Int64) (ls : Array Slot) (H : Heap) (locs : List Loc), K7 x1 I J B D → lv_has ls 5 [(0, .ref (ad 7)), (1, .int x1)] → zW G A s.heap (wX ad K sv I J B D) H locs → W p l e { frames := 4, cells := 0, slots := 0, locals := 93 } s m ([.ref (ad 7)] : List Value).toArray below meth c H locs 0 0 (MQ below (va_Ql (fun (r : Int64) (u : zS) => Post r u.1 u.2.1 u.2.2.1 u.2.2.2) (fun u t => zPost G K A (wX ad K sv u.1 u.2.1 u.2.2.1 u.2.2.2) t) A) ([.ref (ad 7)] : List Value).toArray s 0 0 A) (F0 m 7 ls [])) : ∀ (x1 : Int32) (I : Nat → Int32) (J : Nat → Int64) (B : Nat → Nat → Int32) (D : Nat → Nat → Int64) (ls : Array Slot) (H : Heap) (locs : List Loc), wb_Situation_able_7  K7 Post x1 I J B D → lv_has ls 5 [(0, .ref (ad 7)), (1, .int x1)] → zW G A s.heap (wX ad K sv I J B D) H locs → W p l e { frames := 4, cells := 0, slots := 0, locals := 93 } s m ([.ref (ad 7)] : List Value).toArray below meth c H locs 0 0 (MQ below (va_Ql (fun (r : Int64) (u : zS) => Post r u.1 u.2.1 u.2.2.1 u.2.2.2) (fun u t => zPost G K A (wX ad K sv u.1 u.2.1 u.2.2.1 u.2.2.2) t) A) ([.ref (ad 7)] : List Value).toArray s 0 0 A) (F0 m 7 ls []) := by
  obtain ⟨hx, hb, hr, hml, hts, hown, hlocks, hA, hK⟩ := id C
  intro x1 I J B D ls H locs hok hl hw
  unfold wb_Situation_able_7 at hok
  refine lv_iload_n hx hb zd_Situation_able_7 rfl (lv_at hl 1 rfl) ?_
  refine lv_aload_n hx hb zd_Situation_able_8 rfl (lv_at hl 0 rfl) ?_
  refine z_get (v := .ref (ad 3)) hx hb hts hown hK hw zZ7 7 wX_g7 2 (by decide) zn_463 rfl zd_Situation_able_9 ?_
  refine z_get (v := .int (I 10)) hx hb hts hown hK hw zZ6 3 wX_g3 13 (by decide) zn_476 rfl zd_Situation_able_12 ?_
  refine lv_icmp_ge (tgt := 47) hx hb zd_Situation_able_15 (by decide) (fun hc13 => ?_) (fun hc13 => ?_)
  · have hok := hok.1 hc13
    refine lv_lconst (v := 0) hx hb zd_Situation_able_47 (by decide) ?_
    refine lv_lstore_n hx hb zd_Situation_able_48 rfl hl (by decide) rfl (fun ls hl => ?_)
    have hl : lv_has ls 5 [(1, .long 0), (0, .ref (ad 7))] := hl
    refine lv_iconst (v := 0) hx hb zd_Situation_able_49 (by decide) ?_
    refine lv_istore_n hx hb zd_Situation_able_50 rfl hl (by decide) rfl (fun ls hl => ?_)
    have hl : lv_has ls 5 [(3, .int 0), (1, .long 0), (0, .ref (ad 7))] := hl
    obtain ⟨n9, hok⟩ := hok
    exact wL_Situation_able_51 G K ad sv  Post C n9 0 0 I J B D ls H locs hok (lv_sub hl [2, 1, 0] rfl) hw
  · have hok := hok.2 hc13
    refine lv_aload_n hx hb zd_Situation_able_18 rfl (lv_at hl 0 rfl) ?_
    refine lv_dup hx hb zd_Situation_able_19 rfl ?_
    refine z_get (v := .long (J 1)) hx hb hts hown hK hw zZ7 7 wX_g7 7 (by decide) zn_474 rfl zd_Situation_able_20 ?_
    refine lv_aload_n hx hb zd_Situation_able_23 rfl (lv_at hl 0 rfl) ?_
    refine z_get (v := .ref (ad 3)) hx hb hts hown hK hw zZ7 7 wX_g7 2 (by decide) zn_463 rfl zd_Situation_able_24 ?_
    refine lv_iload_n hx hb zd_Situation_able_27 rfl (lv_at hl 1 rfl) ?_
    refine lv_aload_n hx hb zd_Situation_able_28 rfl (lv_at hl 0 rfl) ?_
    refine z_get (v := .ref (ad 45)) hx hb hts hown hK hw zZ7 7 wX_g7 5 (by decide) zn_268 rfl zd_Situation_able_29 ?_
    refine lv_iload_n hx hb zd_Situation_able_32 rfl (lv_at hl 1 rfl) ?_
    refine va_iald (f := (B 31)) hx hb hK hw.1 45 0 wX_a45 rfl hok.1 zd_Situation_able_33 ?_
    have hok := hok.2
    refine lv_topi (fun z14 ez14 => ?_)
    have hok := hok z14 ez14
    refine z_calll (w1 := fun (u : zS) => wX ad K sv u.1 u.2.1 u.2.2.1 u.2.2.2) (wr := []) (z_runV (q0 := 3) (wc := (wX ad K sv I J B D)) (As := [.int x1, .int z14]) (rest := [.long (J 1), .ref (ad 7)]) ⟨hx, hb, hml, hown, hts⟩ (w_Program_at l G K ad sv I J B D x1 z14 _ H.size hok) zf_Program_at zn_396 ⟨Nat.le_of_ble_eq_true rfl, Nat.le_of_ble_eq_true rfl⟩ hK hw (List.range 65) wX_all wX_nd wX_g3 rfl rfl hl.1 rfl (Nat.le_of_ble_eq_true rfl) zd_Situation_able_34 ⟨Nat.le_of_ble_eq_true rfl, Nat.le_of_ble_eq_true rfl⟩) hw hA (List.range 65) [] wX_all rfl (by decide) (fun i hi => by cases hi) (fun r15 u H locs hok hw => ?_)
    obtain ⟨I15, J15, B15, D15⟩ := u
    dsimp only at hok
    have hw : zW G A s.heap (wX ad K sv I15 J15 B15 D15) H locs := hw
    refine lv_lor hx hb zd_Situation_able_37 ?_
    refine lv_topl (fun z16 ez16 => ?_)
    have hok := hok z16 ez16
    refine z_put (v := .long z16) hx hb hts hown hK hw zZ7 7 wX_g7 7 (by decide) zn_474 rfl rfl rfl (Nat.le_of_ble_eq_true rfl) zd_Situation_able_38 (fun H locs hw => ?_)
    have hw := wX_sJ1 hw
    obtain ⟨z17, ez17⟩ : ∃ z : Int32, z = (x1 + 1) := ⟨_, rfl⟩
    have hok := hok z17 ez17
    refine lv_iinc (v := z17) hx hb zd_Situation_able_41 hl (k := 1) rfl ez17.symm (by decide) rfl (fun ls hl => ?_)
    have hl : lv_has ls 5 [(1, .int z17), (0, .ref (ad 7))] := hl
    refine lv_goto (tgt := 7) hx hb zd_Situation_able_44 (by decide) ?_
    exact kh7 z17 I15 (vp_updL J15 1 z16) B15 D15 ls H locs hok (lv_sub hl [1, 0] rfl) hw
theorem wL_Situation_able_7 {p : Program} {l : Launch} {e : Env} {s : State} {m : MethodId} {below : List Frame} {meth : Method} {c : Code} {A : Nat → Prop} (G : va_G) (K : Nat → ClassId) (ad : Nat → Nat) (sv : Value) (Post : Int64 → (Nat → Int32) → (Nat → Int64) → (Nat → Nat → Int32) → (Nat → Nat → Int64) → Prop) (C : zCx p s m ([.ref (ad 7)] : List Value).toArray meth c A G K prog_8_method_6_code (some .long) 5 "LassoFinder$Situation") : ∀ (n : Nat) (x1 : Int32) (I : Nat → Int32) (J : Nat → Int64) (B : Nat → Nat → Int32) (D : Nat → Nat → Int64) (ls : Array Slot) (H : Heap) (locs : List Loc), wl_Situation_able_7  Post n x1 I J B D → lv_has ls 5 [(0, .ref (ad 7)), (1, .int x1)] → zW G A s.heap (wX ad K sv I J B D) H locs → W p l e { frames := 4, cells := 0, slots := 0, locals := 93 } s m ([.ref (ad 7)] : List Value).toArray below meth c H locs 0 0 (MQ below (va_Ql (fun (r : Int64) (u : zS) => Post r u.1 u.2.1 u.2.2.1 u.2.2.2) (fun u t => zPost G K A (wX ad K sv u.1 u.2.1 u.2.2.1 u.2.2.2) t) A) ([.ref (ad 7)] : List Value).toArray s 0 0 A) (F0 m 7 ls []) := by
  intro n
  induction n with
  | zero => intro x1 I J B D ls H locs hok; exact hok.elim
  | succ n ih => exact wB_Situation_able_7 G K ad sv  Post C (wl_Situation_able_7  Post n) ih
set_option maxHeartbeats 8000000 in
set_option maxRecDepth 100000 in
theorem w_Situation_able (l : Launch) (G : va_G) (K : Nat → ClassId) (ad : Nat → Nat) (sv : Value) (I : Nat → Int32) (J : Nat → Int64) (B : Nat → Nat → Int32) (D : Nat → Nat → Int64) (Post : Int64 → (Nat → Int32) → (Nat → Int64) → (Nat → Nat → Int32) → (Nat → Nat → Int64) → Prop) (sz : Nat) (hok : wp_Situation_able I J B D  Post) : Met l zy_Situation_able (Cond.code zy_Situation_able prog_8_method_6_code 5 (some .long) :: zTB) { frames := 4, cells := 0, slots := 0, locals := 93 } (va_Pc [.ref (ad 7)] (zPre G K (wX ad K sv I J B D) sz)) (va_Ql (fun (r : Int64) (u : zS) => Post r u.1 u.2.1 u.2.2.1 u.2.2.2) (fun u t => zPost G K (va_A (wX ad K sv I J B D) sz) (wX ad K sv u.1 u.2.1 u.2.2.1 u.2.2.2) t) (va_A (wX ad K sv I J B D) sz)) 0 0 (va_A (wX ad K sv I J B D) sz) := by
  refine zMet (y := zy_Situation_able) (av := [.ref (ad 7)]) (maxL := 5) (cc := prog_8_method_6_code) (ret := (some .long)) (W0 := (wX ad K sv I J B D)) (sz := sz) (G := G) (K := K) (wt := zTB) (mc := 0) (ms := 0) (Qf := fun A => va_Ql (fun (r : Int64) (u : zS) => Post r u.1 u.2.1 u.2.2.1 u.2.2.2) (fun u t => zPost G K A (wX ad K sv u.1 u.2.1 u.2.2.1 u.2.2.2) t) A) (by decide) (Nat.le_of_ble_eq_true rfl) ?_
  intro p e s m below meth c ls A hx hb hr hml hts hown hlocks hin hA hK H locs hw hsz hl
  clear hsz
  have hown : s.vm.findClass "LassoFinder$Situation" = some m.cls := hown
  have C : zCx p s m ([.ref (ad 7)] : List Value).toArray meth c A G K prog_8_method_6_code (some .long) 5 "LassoFinder$Situation" := ⟨hx, hb, hr, hml, hts, hown, hlocks, hA, hK⟩
  have hl : lv_has ls 5 [(0, .ref (ad 7))] := hl
  have hw : zW G A s.heap (wX ad K sv I J B D) H locs := hw
  unfold wp_Situation_able at hok
  refine lv_aload_n hx hb zd_Situation_able_0 rfl (lv_at hl 0 rfl) ?_
  refine lv_lconst (v := 0) hx hb zd_Situation_able_1 (by decide) ?_
  refine z_put (v := .long 0) hx hb hts hown hK hw zZ7 7 wX_g7 7 (by decide) zn_474 rfl rfl rfl (Nat.le_of_ble_eq_true rfl) zd_Situation_able_2 (fun H locs hw => ?_)
  have hw := wX_sJ1 hw
  refine lv_iconst (v := 0) hx hb zd_Situation_able_5 (by decide) ?_
  refine lv_istore_n hx hb zd_Situation_able_6 rfl hl (by decide) rfl (fun ls hl => ?_)
  have hl : lv_has ls 5 [(1, .int 0), (0, .ref (ad 7))] := hl
  obtain ⟨n9, hok⟩ := hok
  exact wL_Situation_able_7 G K ad sv  Post C n9 0 I (vp_updL J 1 0) B D ls H locs hok (lv_sub hl [1, 0] rfl) hw
