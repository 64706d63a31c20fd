abbrev zy_LassoFinder_message : MethodName := ⟨"LassoFinder", "message", "(II)I"⟩
abbrev zy_Situation_messageAt : MethodName := ⟨"LassoFinder$Situation", "messageAt", "(II)I"⟩
abbrev zy_LassoFinder_point : MethodName := ⟨"LassoFinder", "point", "(I)I"⟩
abbrev zy_LassoFinder_holder : MethodName := ⟨"LassoFinder", "holder", "()I"⟩
abbrev zy_LassoFinder_count : MethodName := ⟨"LassoFinder", "count", "(I)I"⟩
abbrev zy_Text_open : MethodName := ⟨"LassoFinder$Text", "open", "()V"⟩
abbrev zy_Text_ahead : MethodName := ⟨"LassoFinder$Text", "ahead", "()C"⟩
abbrev zy_Text_accept : MethodName := ⟨"LassoFinder$Text", "accept", "(C)Z"⟩
abbrev zy_Text_oneOf : MethodName := ⟨"LassoFinder$Text", "oneOf", "(C)I"⟩
abbrev zy_Text_refuse : MethodName := ⟨"LassoFinder$Text", "refuse", "()V"⟩
abbrev zy_Text_skip : MethodName := ⟨"LassoFinder$Text", "skip", "()V"⟩
abbrev zy_Tree_clear : MethodName := ⟨"LassoFinder$Tree", "clear", "()V"⟩
abbrev zy_ModelReader_readLabels : MethodName := ⟨"LassoFinder$ModelReader", "readLabels", "()V"⟩
theorem zn_312 : Cond.methodLink "LassoFinder" 186 ⟨"LassoFinder$Situation", "messageAt", "(II)I"⟩ ∈ zTB := z_in (zt_3 _ (List.mem_of_getElem? (i := 66) rfl)) rfl
theorem zn_313 : Cond.fieldLink "LassoFinder" 26 "LassoFinder" "program" "LLassoFinder$Program;" ∈ zTB := z_in (zt_2 _ (List.mem_of_getElem? (i := 220) rfl)) rfl
theorem zn_314 : Cond.fieldLink "LassoFinder" 190 "LassoFinder$Program" "processes" "I" ∈ zTB := z_in (zt_1 _ (List.mem_of_getElem? (i := 127) rfl)) rfl
theorem zn_315 : Cond.fieldLink "LassoFinder" 193 "LassoFinder$Situation" "points" "[I" ∈ zTB := z_in (zt_2 _ (List.mem_of_getElem? (i := 53) rfl)) rfl
theorem zn_316 : Cond.fieldLink "LassoFinder" 196 "LassoFinder$Situation" "holding" "I" ∈ zTB := z_in (zt_2 _ (List.mem_of_getElem? (i := 55) rfl)) rfl
theorem zn_317 : Cond.fieldLink "LassoFinder" 92 "LassoFinder" "hasModel" "Z" ∈ zTB := z_in (zt_2 _ (List.mem_of_getElem? (i := 229) rfl)) rfl
theorem zn_318 : Cond.fieldLink "LassoFinder" 209 "LassoFinder$Program" "basics" "I" ∈ zTB := z_in (zt_1 _ (List.mem_of_getElem? (i := 122) rfl)) rfl
theorem zn_319 : Cond.fieldLink "LassoFinder" 206 "LassoFinder$Graph" "steps" "I" ∈ zTB := z_in (zt_2 _ (List.mem_of_getElem? (i := 106) rfl)) rfl
theorem zn_320 : Cond.fieldLink "LassoFinder" 112 "LassoFinder$Graph" "states" "I" ∈ zTB := z_in (zt_2 _ (List.mem_of_getElem? (i := 103) rfl)) rfl
theorem zn_332 : Cond.methodLink "LassoFinder$ModelReader" 76 ⟨"LassoFinder$Text", "accept", "(C)Z"⟩ ∈ zTB := z_in (zt_3 _ (List.mem_of_getElem? (i := 130) rfl)) rfl
theorem zn_333 : Cond.methodLink "LassoFinder$Text" 28 ⟨"LassoFinder$Text", "ahead", "()C"⟩ ∈ zTB := z_in (zt_3 _ (List.mem_of_getElem? (i := 134) rfl)) rfl
theorem zn_334 : Cond.methodLink "LassoFinder$ModelReader" 80 ⟨"LassoFinder$Text", "oneOf", "(C)I"⟩ ∈ zTB := z_in (zt_3 _ (List.mem_of_getElem? (i := 135) rfl)) rfl
theorem zn_336 : Cond.methodLink "LassoFinder$ModelReader" 62 ⟨"LassoFinder$Text", "refuse", "()V"⟩ ∈ zTB := z_in (zt_3 _ (List.mem_of_getElem? (i := 143) rfl)) rfl
theorem zn_338 : Cond.methodLink "LassoFinder$ModelReader" 65 ⟨"LassoFinder$Text", "skip", "()V"⟩ ∈ zTB := z_in (zt_3 _ (List.mem_of_getElem? (i := 211) rfl)) rfl
theorem zn_345 : Cond.methodLink "LassoFinder$Tree" 57 ⟨"java/util/Arrays", "fill", "([II)V"⟩ ∈ zTB := z_in (zt_3 _ (List.mem_of_getElem? (i := 233) rfl)) rfl
theorem zn_416 : Cond.fieldLink "LassoFinder$Text" 22 "LassoFinder$Text" "end" "I" ∈ zTB := z_in (zt_1 _ (List.mem_of_getElem? (i := 40) rfl)) rfl
theorem zn_417 : Cond.fieldLink "LassoFinder$Text" 25 "LassoFinder$Text" "at" "I" ∈ zTB := z_in (zt_1 _ (List.mem_of_getElem? (i := 41) rfl)) rfl
theorem zn_418 : Cond.fieldLink "LassoFinder$Text" 15 "LassoFinder$Text" "wrongAt" "I" ∈ zTB := z_in (zt_1 _ (List.mem_of_getElem? (i := 42) rfl)) rfl
theorem zn_422 : Cond.fieldLink "LassoFinder$ModelReader" 9 "LassoFinder$ModelReader" "text" "LLassoFinder$Text;" ∈ zTB := z_in (zt_2 _ (List.mem_of_getElem? (i := 22) rfl)) rfl
theorem zn_424 : Cond.fieldLink "LassoFinder$ModelReader" 30 "LassoFinder$ModelReader" "tree" "LLassoFinder$Tree;" ∈ zTB := z_in (zt_2 _ (List.mem_of_getElem? (i := 26) rfl)) rfl
theorem zn_425 : Cond.fieldLink "LassoFinder$Tree" 50 "LassoFinder$Tree" "size" "I" ∈ zTB := z_in (zt_1 _ (List.mem_of_getElem? (i := 230) rfl)) rfl
theorem zn_426 : Cond.fieldLink "LassoFinder$Tree" 54 "LassoFinder$Tree" "points" "I" ∈ zTB := z_in (zt_1 _ (List.mem_of_getElem? (i := 233) rfl)) rfl
theorem zn_427 : Cond.fieldLink "LassoFinder$ModelReader" 111 "LassoFinder$Tree" "labelled" "[I" ∈ zTB := z_in (zt_1 _ (List.mem_of_getElem? (i := 228) rfl)) rfl
theorem zn_428 : Cond.fieldLink "LassoFinder$ModelReader" 107 "LassoFinder$Tree" "size" "I" ∈ zTB := z_in (zt_1 _ (List.mem_of_getElem? (i := 232) rfl)) rfl
theorem zn_429 : Cond.classLink "LassoFinder$Text" 39 "java/lang/IllegalArgumentException" ∈ zTB := z_in (zt_3 _ (List.mem_of_getElem? (i := 147) rfl)) rfl
theorem zn_430 : Cond.initialized "java/lang/IllegalArgumentException" ∈ zTB := z_in (zt_1 _ (List.mem_of_getElem? (i := 17) rfl)) rfl
theorem zn_431 : Cond.instantiable "java/lang/IllegalArgumentException" 6 ∈ zTB := z_in (zt_3 _ (List.mem_of_getElem? (i := 148) rfl)) rfl
theorem zn_594 : Cond.code ⟨"LassoFinder$Situation", "messageAt", "(II)I"⟩ prog_8_method_5_code 3 (some .int) ∈ zTB := z_in (zt_3 _ (List.mem_of_getElem? (i := 69) rfl)) rfl
theorem zn_595 : Cond.selects "LassoFinder$Situation" ⟨"LassoFinder$Situation", "messageAt", "(II)I"⟩ ⟨"LassoFinder$Situation", "messageAt", "(II)I"⟩ ∈ zTB := z_in (zt_3 _ (List.mem_of_getElem? (i := 68) rfl)) rfl
theorem zn_596 : Cond.instanceMethod ⟨"LassoFinder$Situation", "messageAt", "(II)I"⟩ ∈ zTB := z_in (zt_3 _ (List.mem_of_getElem? (i := 67) rfl)) rfl
theorem zn_597 : Cond.code ⟨"LassoFinder$Text", "skip", "()V"⟩ prog_10_method_7_code 1 none ∈ zTB := z_in (zt_3 _ (List.mem_of_getElem? (i := 214) rfl)) rfl
theorem zn_598 : Cond.selects "LassoFinder$Text" ⟨"LassoFinder$Text", "skip", "()V"⟩ ⟨"LassoFinder$Text", "skip", "()V"⟩ ∈ zTB := z_in (zt_3 _ (List.mem_of_getElem? (i := 213) rfl)) rfl
theorem zn_599 : Cond.instanceMethod ⟨"LassoFinder$Text", "skip", "()V"⟩ ∈ zTB := z_in (zt_3 _ (List.mem_of_getElem? (i := 212) rfl)) rfl
theorem zn_600 : Cond.code ⟨"LassoFinder$Text", "refuse", "()V"⟩ prog_10_method_11_code 1 none ∈ zTB := z_in (zt_3 _ (List.mem_of_getElem? (i := 146) rfl)) rfl
theorem zn_601 : Cond.selects "LassoFinder$Text" ⟨"LassoFinder$Text", "refuse", "()V"⟩ ⟨"LassoFinder$Text", "refuse", "()V"⟩ ∈ zTB := z_in (zt_3 _ (List.mem_of_getElem? (i := 145) rfl)) rfl
theorem zn_602 : Cond.instanceMethod ⟨"LassoFinder$Text", "refuse", "()V"⟩ ∈ zTB := z_in (zt_3 _ (List.mem_of_getElem? (i := 144) rfl)) rfl
theorem zn_603 : Cond.code ⟨"LassoFinder$Text", "ahead", "()C"⟩ prog_10_method_5_code 1 (some .char) ∈ zTB := z_in (zt_3 _ (List.mem_of_getElem? (i := 125) rfl)) rfl
theorem zn_604 : Cond.selects "LassoFinder$Text" ⟨"LassoFinder$Text", "ahead", "()C"⟩ ⟨"LassoFinder$Text", "ahead", "()C"⟩ ∈ zTB := z_in (zt_3 _ (List.mem_of_getElem? (i := 124) rfl)) rfl
theorem zn_605 : Cond.instanceMethod ⟨"LassoFinder$Text", "ahead", "()C"⟩ ∈ zTB := z_in (zt_3 _ (List.mem_of_getElem? (i := 123) rfl)) rfl
theorem zn_606 : Cond.code ⟨"LassoFinder$Text", "accept", "(C)Z"⟩ prog_10_method_8_code 2 (some .boolean) ∈ zTB := z_in (zt_3 _ (List.mem_of_getElem? (i := 133) rfl)) rfl
theorem zn_607 : Cond.selects "LassoFinder$Text" ⟨"LassoFinder$Text", "accept", "(C)Z"⟩ ⟨"LassoFinder$Text", "accept", "(C)Z"⟩ ∈ zTB := z_in (zt_3 _ (List.mem_of_getElem? (i := 132) rfl)) rfl
theorem zn_608 : Cond.instanceMethod ⟨"LassoFinder$Text", "accept", "(C)Z"⟩ ∈ zTB := z_in (zt_3 _ (List.mem_of_getElem? (i := 131) rfl)) rfl
theorem zn_609 : Cond.code ⟨"LassoFinder$Text", "oneOf", "(C)I"⟩ prog_10_method_6_code 3 (some .int) ∈ zTB := z_in (zt_3 _ (List.mem_of_getElem? (i := 138) rfl)) rfl
theorem zn_610 : Cond.selects "LassoFinder$Text" ⟨"LassoFinder$Text", "oneOf", "(C)I"⟩ ⟨"LassoFinder$Text", "oneOf", "(C)I"⟩ ∈ zTB := z_in (zt_3 _ (List.mem_of_getElem? (i := 137) rfl)) rfl
theorem zn_611 : Cond.instanceMethod ⟨"LassoFinder$Text", "oneOf", "(C)I"⟩ ∈ zTB := z_in (zt_3 _ (List.mem_of_getElem? (i := 136) rfl)) rfl
theorem zf_Situation_messageAt : zFaceV zy_Situation_messageAt prog_8_method_5_code 3 (some .int) 2 := ⟨zn_596, zn_595, zm_15, zn_594, by decide +kernel, by decide +kernel, by decide +kernel⟩
theorem zf_Text_skip : zFaceV zy_Text_skip prog_10_method_7_code 1 none 0 := ⟨zn_599, zn_598, zm_19, zn_597, by decide +kernel, by decide +kernel, by decide +kernel⟩
theorem zf_Text_refuse : zFaceV zy_Text_refuse prog_10_method_11_code 1 none 0 := ⟨zn_602, zn_601, zm_19, zn_600, by decide +kernel, by decide +kernel, by decide +kernel⟩
theorem zf_Text_ahead : zFaceV zy_Text_ahead prog_10_method_5_code 1 (some .char) 0 := ⟨zn_605, zn_604, zm_19, zn_603, by decide +kernel, by decide +kernel, by decide +kernel⟩
theorem zf_Text_accept : zFaceV zy_Text_accept prog_10_method_8_code 2 (some .boolean) 1 := ⟨zn_608, zn_607, zm_19, zn_606, by decide +kernel, by decide +kernel, by decide +kernel⟩
theorem zf_Text_oneOf : zFaceV zy_Text_oneOf prog_10_method_6_code 3 (some .int) 1 := ⟨zn_611, zn_610, zm_19, zn_609, by decide +kernel, by decide +kernel, by decide +kernel⟩
theorem zx_0 : ∀ w ∈ Bundle.ownAtoms0 "LassoFinder$Text" 41 "java/lang/IllegalArgumentException" ["java/lang/RuntimeException", "java/lang/Exception"], w ∈ zTB ∨ w = .isRef (.static Bundle.tN "UNASSIGNED_STACK" Bundle.steD) ∨ w = .isRef (.static Bundle.tN "SUPPRESSED_SENTINEL" Bundle.listD) ∨ w = .laysStatic Bundle.tN "UNASSIGNED_STACK" Bundle.steD ∨ w = .laysStatic Bundle.tN "SUPPRESSED_SENTINEL" Bundle.listD ∨ w ∈ zDC := zx_of (by decide +kernel)
theorem zd_LassoFinder_count_0 : decode prog_1_method_18_code 0 = .ok (.iload_n 1, 1) := by decide +kernel
theorem zd_LassoFinder_count_1 : decode prog_1_method_18_code 1 = .ok (.tableswitch 107 0 3 #[31, 50, 69, 88], 31) := by decide +kernel
theorem zd_LassoFinder_count_32 : decode prog_1_method_18_code 32 = .ok (.aload_n 0, 1) := by decide +kernel
theorem zd_LassoFinder_count_33 : decode prog_1_method_18_code 33 = .ok (.getfield 92, 3) := by decide +kernel
theorem zd_LassoFinder_count_36 : decode prog_1_method_18_code 36 = .ok (.ifCond .eq 13, 3) := by decide +kernel
theorem zd_LassoFinder_count_39 : decode prog_1_method_18_code 39 = .ok (.aload_n 0, 1) := by decide +kernel
theorem zd_LassoFinder_count_40 : decode prog_1_method_18_code 40 = .ok (.getfield 58, 3) := by decide +kernel
theorem zd_LassoFinder_count_43 : decode prog_1_method_18_code 43 = .ok (.getfield 112, 3) := by decide +kernel
theorem zd_LassoFinder_count_46 : decode prog_1_method_18_code 46 = .ok (.goto 4, 3) := by decide +kernel
theorem zd_LassoFinder_count_49 : decode prog_1_method_18_code 49 = .ok (.iconst 0, 1) := by decide +kernel
theorem zd_LassoFinder_count_50 : decode prog_1_method_18_code 50 = .ok (.ireturn, 1) := by decide +kernel
theorem zd_LassoFinder_count_51 : decode prog_1_method_18_code 51 = .ok (.aload_n 0, 1) := by decide +kernel
theorem zd_LassoFinder_count_52 : decode prog_1_method_18_code 52 = .ok (.getfield 92, 3) := by decide +kernel
theorem zd_LassoFinder_count_55 : decode prog_1_method_18_code 55 = .ok (.ifCond .eq 13, 3) := by decide +kernel
theorem zd_LassoFinder_count_58 : decode prog_1_method_18_code 58 = .ok (.aload_n 0, 1) := by decide +kernel
theorem zd_LassoFinder_count_59 : decode prog_1_method_18_code 59 = .ok (.getfield 58, 3) := by decide +kernel
theorem zd_LassoFinder_count_62 : decode prog_1_method_18_code 62 = .ok (.getfield 206, 3) := by decide +kernel
theorem zd_LassoFinder_count_65 : decode prog_1_method_18_code 65 = .ok (.goto 4, 3) := by decide +kernel
theorem zd_LassoFinder_count_68 : decode prog_1_method_18_code 68 = .ok (.iconst 0, 1) := by decide +kernel
theorem zd_LassoFinder_count_69 : decode prog_1_method_18_code 69 = .ok (.ireturn, 1) := by decide +kernel
theorem zd_LassoFinder_count_70 : decode prog_1_method_18_code 70 = .ok (.aload_n 0, 1) := by decide +kernel
theorem zd_LassoFinder_count_71 : decode prog_1_method_18_code 71 = .ok (.getfield 92, 3) := by decide +kernel
theorem zd_LassoFinder_count_74 : decode prog_1_method_18_code 74 = .ok (.ifCond .eq 13, 3) := by decide +kernel
theorem zd_LassoFinder_count_77 : decode prog_1_method_18_code 77 = .ok (.aload_n 0, 1) := by decide +kernel
theorem zd_LassoFinder_count_78 : decode prog_1_method_18_code 78 = .ok (.getfield 26, 3) := by decide +kernel
theorem zd_LassoFinder_count_81 : decode prog_1_method_18_code 81 = .ok (.getfield 209, 3) := by decide +kernel
theorem zd_LassoFinder_count_84 : decode prog_1_method_18_code 84 = .ok (.goto 4, 3) := by decide +kernel
theorem zd_LassoFinder_count_87 : decode prog_1_method_18_code 87 = .ok (.iconst 0, 1) := by decide +kernel
theorem zd_LassoFinder_count_88 : decode prog_1_method_18_code 88 = .ok (.ireturn, 1) := by decide +kernel
theorem zd_LassoFinder_count_89 : decode prog_1_method_18_code 89 = .ok (.aload_n 0, 1) := by decide +kernel
theorem zd_LassoFinder_count_90 : decode prog_1_method_18_code 90 = .ok (.getfield 92, 3) := by decide +kernel
theorem zd_LassoFinder_count_93 : decode prog_1_method_18_code 93 = .ok (.ifCond .eq 13, 3) := by decide +kernel
theorem zd_LassoFinder_count_96 : decode prog_1_method_18_code 96 = .ok (.aload_n 0, 1) := by decide +kernel
theorem zd_LassoFinder_count_97 : decode prog_1_method_18_code 97 = .ok (.getfield 26, 3) := by decide +kernel
theorem zd_LassoFinder_count_100 : decode prog_1_method_18_code 100 = .ok (.getfield 190, 3) := by decide +kernel
theorem zd_LassoFinder_count_103 : decode prog_1_method_18_code 103 = .ok (.goto 4, 3) := by decide +kernel
theorem zd_LassoFinder_count_106 : decode prog_1_method_18_code 106 = .ok (.iconst 0, 1) := by decide +kernel
theorem zd_LassoFinder_count_107 : decode prog_1_method_18_code 107 = .ok (.ireturn, 1) := by decide +kernel
theorem zd_LassoFinder_count_108 : decode prog_1_method_18_code 108 = .ok (.iconst (-1), 1) := by decide +kernel
theorem zd_LassoFinder_count_109 : decode prog_1_method_18_code 109 = .ok (.ireturn, 1) := by decide +kernel
theorem zd_LassoFinder_holder_0 : decode prog_1_method_16_code 0 = .ok (.aload_n 0, 1) := by decide +kernel
theorem zd_LassoFinder_holder_1 : decode prog_1_method_16_code 1 = .ok (.invokevirtual 177, 3) := by decide +kernel
theorem zd_LassoFinder_holder_4 : decode prog_1_method_16_code 4 = .ok (.ifCond .eq 13, 3) := by decide +kernel
theorem zd_LassoFinder_holder_7 : decode prog_1_method_16_code 7 = .ok (.aload_n 0, 1) := by decide +kernel
theorem zd_LassoFinder_holder_8 : decode prog_1_method_16_code 8 = .ok (.getfield 49, 3) := by decide +kernel
theorem zd_LassoFinder_holder_11 : decode prog_1_method_16_code 11 = .ok (.getfield 196, 3) := by decide +kernel
theorem zd_LassoFinder_holder_14 : decode prog_1_method_16_code 14 = .ok (.goto 4, 3) := by decide +kernel
theorem zd_LassoFinder_holder_17 : decode prog_1_method_16_code 17 = .ok (.iconst (-1), 1) := by decide +kernel
theorem zd_LassoFinder_holder_18 : decode prog_1_method_16_code 18 = .ok (.ireturn, 1) := by decide +kernel
theorem zd_LassoFinder_message_0 : decode prog_1_method_14_code 0 = .ok (.aload_n 0, 1) := by decide +kernel
theorem zd_LassoFinder_message_1 : decode prog_1_method_14_code 1 = .ok (.invokevirtual 177, 3) := by decide +kernel
theorem zd_LassoFinder_message_4 : decode prog_1_method_14_code 4 = .ok (.ifCond .eq 26, 3) := by decide +kernel
theorem zd_LassoFinder_message_7 : decode prog_1_method_14_code 7 = .ok (.iload_n 1, 1) := by decide +kernel
theorem zd_LassoFinder_message_8 : decode prog_1_method_14_code 8 = .ok (.ifCond .lt 22, 3) := by decide +kernel
theorem zd_LassoFinder_message_11 : decode prog_1_method_14_code 11 = .ok (.iload_n 1, 1) := by decide +kernel
theorem zd_LassoFinder_message_12 : decode prog_1_method_14_code 12 = .ok (.bipush 8, 2) := by decide +kernel
theorem zd_LassoFinder_message_14 : decode prog_1_method_14_code 14 = .ok (.if_icmp .ge 16, 3) := by decide +kernel
theorem zd_LassoFinder_message_17 : decode prog_1_method_14_code 17 = .ok (.aload_n 0, 1) := by decide +kernel
theorem zd_LassoFinder_message_18 : decode prog_1_method_14_code 18 = .ok (.getfield 19, 3) := by decide +kernel
theorem zd_LassoFinder_message_21 : decode prog_1_method_14_code 21 = .ok (.getfield 180, 3) := by decide +kernel
theorem zd_LassoFinder_message_24 : decode prog_1_method_14_code 24 = .ok (.iload_n 1, 1) := by decide +kernel
theorem zd_LassoFinder_message_25 : decode prog_1_method_14_code 25 = .ok (.iaload, 1) := by decide +kernel
theorem zd_LassoFinder_message_26 : decode prog_1_method_14_code 26 = .ok (.iconst 2, 1) := by decide +kernel
theorem zd_LassoFinder_message_27 : decode prog_1_method_14_code 27 = .ok (.if_icmp .eq 5, 3) := by decide +kernel
theorem zd_LassoFinder_message_30 : decode prog_1_method_14_code 30 = .ok (.iconst (-1), 1) := by decide +kernel
theorem zd_LassoFinder_message_31 : decode prog_1_method_14_code 31 = .ok (.ireturn, 1) := by decide +kernel
theorem zd_LassoFinder_message_32 : decode prog_1_method_14_code 32 = .ok (.iload_n 2, 1) := by decide +kernel
theorem zd_LassoFinder_message_33 : decode prog_1_method_14_code 33 = .ok (.ifCond .lt 16, 3) := by decide +kernel
theorem zd_LassoFinder_message_36 : decode prog_1_method_14_code 36 = .ok (.iload_n 2, 1) := by decide +kernel
theorem zd_LassoFinder_message_37 : decode prog_1_method_14_code 37 = .ok (.aload_n 0, 1) := by decide +kernel
theorem zd_LassoFinder_message_38 : decode prog_1_method_14_code 38 = .ok (.getfield 49, 3) := by decide +kernel
theorem zd_LassoFinder_message_41 : decode prog_1_method_14_code 41 = .ok (.getfield 183, 3) := by decide +kernel
theorem zd_LassoFinder_message_44 : decode prog_1_method_14_code 44 = .ok (.iload_n 1, 1) := by decide +kernel
theorem zd_LassoFinder_message_45 : decode prog_1_method_14_code 45 = .ok (.iaload, 1) := by decide +kernel
theorem zd_LassoFinder_message_46 : decode prog_1_method_14_code 46 = .ok (.if_icmp .lt 7, 3) := by decide +kernel
theorem zd_LassoFinder_message_49 : decode prog_1_method_14_code 49 = .ok (.iconst (-1), 1) := by decide +kernel
theorem zd_LassoFinder_message_50 : decode prog_1_method_14_code 50 = .ok (.goto 12, 3) := by decide +kernel
theorem zd_LassoFinder_message_53 : decode prog_1_method_14_code 53 = .ok (.aload_n 0, 1) := by decide +kernel
theorem zd_LassoFinder_message_54 : decode prog_1_method_14_code 54 = .ok (.getfield 49, 3) := by decide +kernel
theorem zd_LassoFinder_message_57 : decode prog_1_method_14_code 57 = .ok (.iload_n 1, 1) := by decide +kernel
theorem zd_LassoFinder_message_58 : decode prog_1_method_14_code 58 = .ok (.iload_n 2, 1) := by decide +kernel
theorem zd_LassoFinder_message_59 : decode prog_1_method_14_code 59 = .ok (.invokevirtual 186, 3) := by decide +kernel
theorem zd_LassoFinder_message_62 : decode prog_1_method_14_code 62 = .ok (.ireturn, 1) := by decide +kernel
theorem zd_LassoFinder_point_0 : decode prog_1_method_15_code 0 = .ok (.aload_n 0, 1) := by decide +kernel
theorem zd_LassoFinder_point_1 : decode prog_1_method_15_code 1 = .ok (.invokevirtual 177, 3) := by decide +kernel
theorem zd_LassoFinder_point_4 : decode prog_1_method_15_code 4 = .ok (.ifCond .eq 18, 3) := by decide +kernel
theorem zd_LassoFinder_point_7 : decode prog_1_method_15_code 7 = .ok (.iload_n 1, 1) := by decide +kernel
theorem zd_LassoFinder_point_8 : decode prog_1_method_15_code 8 = .ok (.ifCond .lt 14, 3) := by decide +kernel
theorem zd_LassoFinder_point_11 : decode prog_1_method_15_code 11 = .ok (.iload_n 1, 1) := by decide +kernel
theorem zd_LassoFinder_point_12 : decode prog_1_method_15_code 12 = .ok (.aload_n 0, 1) := by decide +kernel
theorem zd_LassoFinder_point_13 : decode prog_1_method_15_code 13 = .ok (.getfield 26, 3) := by decide +kernel
theorem zd_LassoFinder_point_16 : decode prog_1_method_15_code 16 = .ok (.getfield 190, 3) := by decide +kernel
theorem zd_LassoFinder_point_19 : decode prog_1_method_15_code 19 = .ok (.if_icmp .lt 5, 3) := by decide +kernel
theorem zd_LassoFinder_point_22 : decode prog_1_method_15_code 22 = .ok (.iconst (-1), 1) := by decide +kernel
theorem zd_LassoFinder_point_23 : decode prog_1_method_15_code 23 = .ok (.ireturn, 1) := by decide +kernel
theorem zd_LassoFinder_point_24 : decode prog_1_method_15_code 24 = .ok (.aload_n 0, 1) := by decide +kernel
theorem zd_LassoFinder_point_25 : decode prog_1_method_15_code 25 = .ok (.getfield 49, 3) := by decide +kernel
theorem zd_LassoFinder_point_28 : decode prog_1_method_15_code 28 = .ok (.getfield 193, 3) := by decide +kernel
theorem zd_LassoFinder_point_31 : decode prog_1_method_15_code 31 = .ok (.iload_n 1, 1) := by decide +kernel
theorem zd_LassoFinder_point_32 : decode prog_1_method_15_code 32 = .ok (.iaload, 1) := by decide +kernel
theorem zd_LassoFinder_point_33 : decode prog_1_method_15_code 33 = .ok (.ireturn, 1) := by decide +kernel
theorem zd_ModelReader_readLabels_0 : decode prog_5_method_7_code 0 = .ok (.iconst 0, 1) := by decide +kernel
theorem zd_ModelReader_readLabels_1 : decode prog_5_method_7_code 1 = .ok (.istore_n 1, 1) := by decide +kernel
theorem zd_ModelReader_readLabels_2 : decode prog_5_method_7_code 2 = .ok (.iload_n 1, 1) := by decide +kernel
theorem zd_ModelReader_readLabels_3 : decode prog_5_method_7_code 3 = .ok (.sipush 240, 3) := by decide +kernel
theorem zd_ModelReader_readLabels_6 : decode prog_5_method_7_code 6 = .ok (.if_icmp .ge 80, 3) := by decide +kernel
theorem zd_ModelReader_readLabels_9 : decode prog_5_method_7_code 9 = .ok (.aload_n 0, 1) := by decide +kernel
theorem zd_ModelReader_readLabels_10 : decode prog_5_method_7_code 10 = .ok (.getfield 9, 3) := by decide +kernel
theorem zd_ModelReader_readLabels_13 : decode prog_5_method_7_code 13 = .ok (.bipush 58, 2) := by decide +kernel
theorem zd_ModelReader_readLabels_15 : decode prog_5_method_7_code 15 = .ok (.invokevirtual 76, 3) := by decide +kernel
theorem zd_ModelReader_readLabels_18 : decode prog_5_method_7_code 18 = .ok (.ifCond .eq 68, 3) := by decide +kernel
theorem zd_ModelReader_readLabels_21 : decode prog_5_method_7_code 21 = .ok (.aload_n 0, 1) := by decide +kernel
theorem zd_ModelReader_readLabels_22 : decode prog_5_method_7_code 22 = .ok (.getfield 9, 3) := by decide +kernel
theorem zd_ModelReader_readLabels_25 : decode prog_5_method_7_code 25 = .ok (.bipush 65, 2) := by decide +kernel
theorem zd_ModelReader_readLabels_27 : decode prog_5_method_7_code 27 = .ok (.invokevirtual 80, 3) := by decide +kernel
theorem zd_ModelReader_readLabels_30 : decode prog_5_method_7_code 30 = .ok (.istore_n 2, 1) := by decide +kernel
theorem zd_ModelReader_readLabels_31 : decode prog_5_method_7_code 31 = .ok (.iload_n 2, 1) := by decide +kernel
theorem zd_ModelReader_readLabels_32 : decode prog_5_method_7_code 32 = .ok (.iconst (-1), 1) := by decide +kernel
theorem zd_ModelReader_readLabels_33 : decode prog_5_method_7_code 33 = .ok (.if_icmp .eq 17, 3) := by decide +kernel
theorem zd_ModelReader_readLabels_36 : decode prog_5_method_7_code 36 = .ok (.aload_n 0, 1) := by decide +kernel
theorem zd_ModelReader_readLabels_37 : decode prog_5_method_7_code 37 = .ok (.getfield 30, 3) := by decide +kernel
theorem zd_ModelReader_readLabels_40 : decode prog_5_method_7_code 40 = .ok (.getfield 111, 3) := by decide +kernel
theorem zd_ModelReader_readLabels_43 : decode prog_5_method_7_code 43 = .ok (.iload_n 2, 1) := by decide +kernel
theorem zd_ModelReader_readLabels_44 : decode prog_5_method_7_code 44 = .ok (.iaload, 1) := by decide +kernel
theorem zd_ModelReader_readLabels_45 : decode prog_5_method_7_code 45 = .ok (.bipush (-3), 2) := by decide +kernel
theorem zd_ModelReader_readLabels_47 : decode prog_5_method_7_code 47 = .ok (.if_icmp .eq 10, 3) := by decide +kernel
theorem zd_ModelReader_readLabels_50 : decode prog_5_method_7_code 50 = .ok (.aload_n 0, 1) := by decide +kernel
theorem zd_ModelReader_readLabels_51 : decode prog_5_method_7_code 51 = .ok (.getfield 9, 3) := by decide +kernel
theorem zd_ModelReader_readLabels_54 : decode prog_5_method_7_code 54 = .ok (.invokevirtual 62, 3) := by decide +kernel
theorem zd_ModelReader_readLabels_57 : decode prog_5_method_7_code 57 = .ok (.aload_n 0, 1) := by decide +kernel
theorem zd_ModelReader_readLabels_58 : decode prog_5_method_7_code 58 = .ok (.getfield 9, 3) := by decide +kernel
theorem zd_ModelReader_readLabels_61 : decode prog_5_method_7_code 61 = .ok (.invokevirtual 65, 3) := by decide +kernel
theorem zd_ModelReader_readLabels_64 : decode prog_5_method_7_code 64 = .ok (.aload_n 0, 1) := by decide +kernel
theorem zd_ModelReader_readLabels_65 : decode prog_5_method_7_code 65 = .ok (.getfield 30, 3) := by decide +kernel
theorem zd_ModelReader_readLabels_68 : decode prog_5_method_7_code 68 = .ok (.getfield 111, 3) := by decide +kernel
theorem zd_ModelReader_readLabels_71 : decode prog_5_method_7_code 71 = .ok (.iload_n 2, 1) := by decide +kernel
theorem zd_ModelReader_readLabels_72 : decode prog_5_method_7_code 72 = .ok (.aload_n 0, 1) := by decide +kernel
theorem zd_ModelReader_readLabels_73 : decode prog_5_method_7_code 73 = .ok (.getfield 30, 3) := by decide +kernel
theorem zd_ModelReader_readLabels_76 : decode prog_5_method_7_code 76 = .ok (.getfield 107, 3) := by decide +kernel
theorem zd_ModelReader_readLabels_79 : decode prog_5_method_7_code 79 = .ok (.iastore, 1) := by decide +kernel
theorem zd_ModelReader_readLabels_80 : decode prog_5_method_7_code 80 = .ok (.iinc 1 1, 3) := by decide +kernel
theorem zd_ModelReader_readLabels_83 : decode prog_5_method_7_code 83 = .ok (.goto (-81), 3) := by decide +kernel
theorem zd_ModelReader_readLabels_86 : decode prog_5_method_7_code 86 = .ok (.return_, 1) := by decide +kernel
theorem zd_Situation_messageAt_0 : decode prog_8_method_5_code 0 = .ok (.aload_n 0, 1) := by decide +kernel
theorem zd_Situation_messageAt_1 : decode prog_8_method_5_code 1 = .ok (.getfield 29, 3) := by decide +kernel
theorem zd_Situation_messageAt_4 : decode prog_8_method_5_code 4 = .ok (.iload_n 1, 1) := by decide +kernel
theorem zd_Situation_messageAt_5 : decode prog_8_method_5_code 5 = .ok (.iconst 3, 1) := by decide +kernel
theorem zd_Situation_messageAt_6 : decode prog_8_method_5_code 6 = .ok (.imul, 1) := by decide +kernel
theorem zd_Situation_messageAt_7 : decode prog_8_method_5_code 7 = .ok (.iload_n 2, 1) := by decide +kernel
theorem zd_Situation_messageAt_8 : decode prog_8_method_5_code 8 = .ok (.iadd, 1) := by decide +kernel
theorem zd_Situation_messageAt_9 : decode prog_8_method_5_code 9 = .ok (.iaload, 1) := by decide +kernel
theorem zd_Situation_messageAt_10 : decode prog_8_method_5_code 10 = .ok (.ireturn, 1) := by decide +kernel
theorem zd_Text_accept_0 : decode prog_10_method_8_code 0 = .ok (.aload_n 0, 1) := by decide +kernel
theorem zd_Text_accept_1 : decode prog_10_method_8_code 1 = .ok (.invokevirtual 28, 3) := by decide +kernel
theorem zd_Text_accept_4 : decode prog_10_method_8_code 4 = .ok (.iload_n 1, 1) := by decide +kernel
theorem zd_Text_accept_5 : decode prog_10_method_8_code 5 = .ok (.if_icmp .eq 5, 3) := by decide +kernel
theorem zd_Text_accept_8 : decode prog_10_method_8_code 8 = .ok (.iconst 0, 1) := by decide +kernel
theorem zd_Text_accept_9 : decode prog_10_method_8_code 9 = .ok (.ireturn, 1) := by decide +kernel
theorem zd_Text_accept_10 : decode prog_10_method_8_code 10 = .ok (.aload_n 0, 1) := by decide +kernel
theorem zd_Text_accept_11 : decode prog_10_method_8_code 11 = .ok (.dup, 1) := by decide +kernel
theorem zd_Text_accept_12 : decode prog_10_method_8_code 12 = .ok (.getfield 25, 3) := by decide +kernel
theorem zd_Text_accept_15 : decode prog_10_method_8_code 15 = .ok (.iconst 1, 1) := by decide +kernel
theorem zd_Text_accept_16 : decode prog_10_method_8_code 16 = .ok (.iadd, 1) := by decide +kernel
theorem zd_Text_accept_17 : decode prog_10_method_8_code 17 = .ok (.putfield 25, 3) := by decide +kernel
theorem zd_Text_accept_20 : decode prog_10_method_8_code 20 = .ok (.iconst 1, 1) := by decide +kernel
theorem zd_Text_accept_21 : decode prog_10_method_8_code 21 = .ok (.ireturn, 1) := by decide +kernel
theorem zd_Text_ahead_0 : decode prog_10_method_5_code 0 = .ok (.aload_n 0, 1) := by decide +kernel
theorem zd_Text_ahead_1 : decode prog_10_method_5_code 1 = .ok (.getfield 25, 3) := by decide +kernel
theorem zd_Text_ahead_4 : decode prog_10_method_5_code 4 = .ok (.aload_n 0, 1) := by decide +kernel
theorem zd_Text_ahead_5 : decode prog_10_method_5_code 5 = .ok (.getfield 22, 3) := by decide +kernel
theorem zd_Text_ahead_8 : decode prog_10_method_5_code 8 = .ok (.if_icmp .ge 15, 3) := by decide +kernel
theorem zd_Text_ahead_11 : decode prog_10_method_5_code 11 = .ok (.aload_n 0, 1) := by decide +kernel
theorem zd_Text_ahead_12 : decode prog_10_method_5_code 12 = .ok (.getfield 11, 3) := by decide +kernel
theorem zd_Text_ahead_15 : decode prog_10_method_5_code 15 = .ok (.aload_n 0, 1) := by decide +kernel
theorem zd_Text_ahead_16 : decode prog_10_method_5_code 16 = .ok (.getfield 25, 3) := by decide +kernel
theorem zd_Text_ahead_19 : decode prog_10_method_5_code 19 = .ok (.caload, 1) := by decide +kernel
theorem zd_Text_ahead_20 : decode prog_10_method_5_code 20 = .ok (.goto 4, 3) := by decide +kernel
theorem zd_Text_ahead_23 : decode prog_10_method_5_code 23 = .ok (.iconst 0, 1) := by decide +kernel
theorem zd_Text_ahead_24 : decode prog_10_method_5_code 24 = .ok (.ireturn, 1) := by decide +kernel
theorem zd_Text_oneOf_0 : decode prog_10_method_6_code 0 = .ok (.aload_n 0, 1) := by decide +kernel
theorem zd_Text_oneOf_1 : decode prog_10_method_6_code 1 = .ok (.getfield 25, 3) := by decide +kernel
theorem zd_Text_oneOf_4 : decode prog_10_method_6_code 4 = .ok (.aload_n 0, 1) := by decide +kernel
theorem zd_Text_oneOf_5 : decode prog_10_method_6_code 5 = .ok (.getfield 22, 3) := by decide +kernel
theorem zd_Text_oneOf_8 : decode prog_10_method_6_code 8 = .ok (.if_icmp .ge 17, 3) := by decide +kernel
theorem zd_Text_oneOf_11 : decode prog_10_method_6_code 11 = .ok (.aload_n 0, 1) := by decide +kernel
theorem zd_Text_oneOf_12 : decode prog_10_method_6_code 12 = .ok (.getfield 11, 3) := by decide +kernel
theorem zd_Text_oneOf_15 : decode prog_10_method_6_code 15 = .ok (.aload_n 0, 1) := by decide +kernel
theorem zd_Text_oneOf_16 : decode prog_10_method_6_code 16 = .ok (.getfield 25, 3) := by decide +kernel
theorem zd_Text_oneOf_19 : decode prog_10_method_6_code 19 = .ok (.caload, 1) := by decide +kernel
theorem zd_Text_oneOf_20 : decode prog_10_method_6_code 20 = .ok (.iload_n 1, 1) := by decide +kernel
theorem zd_Text_oneOf_21 : decode prog_10_method_6_code 21 = .ok (.isub, 1) := by decide +kernel
theorem zd_Text_oneOf_22 : decode prog_10_method_6_code 22 = .ok (.goto 4, 3) := by decide +kernel
theorem zd_Text_oneOf_25 : decode prog_10_method_6_code 25 = .ok (.iconst (-1), 1) := by decide +kernel
theorem zd_Text_oneOf_26 : decode prog_10_method_6_code 26 = .ok (.istore_n 2, 1) := by decide +kernel
theorem zd_Text_oneOf_27 : decode prog_10_method_6_code 27 = .ok (.iload_n 2, 1) := by decide +kernel
theorem zd_Text_oneOf_28 : decode prog_10_method_6_code 28 = .ok (.ifCond .lt 13, 3) := by decide +kernel
theorem zd_Text_oneOf_31 : decode prog_10_method_6_code 31 = .ok (.iload_n 2, 1) := by decide +kernel
theorem zd_Text_oneOf_32 : decode prog_10_method_6_code 32 = .ok (.bipush 8, 2) := by decide +kernel
theorem zd_Text_oneOf_34 : decode prog_10_method_6_code 34 = .ok (.if_icmp .ge 7, 3) := by decide +kernel
theorem zd_Text_oneOf_37 : decode prog_10_method_6_code 37 = .ok (.iload_n 2, 1) := by decide +kernel
theorem zd_Text_oneOf_38 : decode prog_10_method_6_code 38 = .ok (.goto 4, 3) := by decide +kernel
theorem zd_Text_oneOf_41 : decode prog_10_method_6_code 41 = .ok (.iconst (-1), 1) := by decide +kernel
theorem zd_Text_oneOf_42 : decode prog_10_method_6_code 42 = .ok (.ireturn, 1) := by decide +kernel
theorem zd_Text_open_0 : decode prog_10_method_3_code 0 = .ok (.aload_n 0, 1) := by decide +kernel
theorem zd_Text_open_1 : decode prog_10_method_3_code 1 = .ok (.aload_n 0, 1) := by decide +kernel
theorem zd_Text_open_2 : decode prog_10_method_3_code 2 = .ok (.getfield 19, 3) := by decide +kernel
theorem zd_Text_open_5 : decode prog_10_method_3_code 5 = .ok (.putfield 22, 3) := by decide +kernel
theorem zd_Text_open_8 : decode prog_10_method_3_code 8 = .ok (.aload_n 0, 1) := by decide +kernel
theorem zd_Text_open_9 : decode prog_10_method_3_code 9 = .ok (.iconst 0, 1) := by decide +kernel
theorem zd_Text_open_10 : decode prog_10_method_3_code 10 = .ok (.putfield 19, 3) := by decide +kernel
theorem zd_Text_open_13 : decode prog_10_method_3_code 13 = .ok (.aload_n 0, 1) := by decide +kernel
theorem zd_Text_open_14 : decode prog_10_method_3_code 14 = .ok (.iconst 0, 1) := by decide +kernel
theorem zd_Text_open_15 : decode prog_10_method_3_code 15 = .ok (.putfield 25, 3) := by decide +kernel
theorem zd_Text_open_18 : decode prog_10_method_3_code 18 = .ok (.aload_n 0, 1) := by decide +kernel
theorem zd_Text_open_19 : decode prog_10_method_3_code 19 = .ok (.iconst (-1), 1) := by decide +kernel
theorem zd_Text_open_20 : decode prog_10_method_3_code 20 = .ok (.putfield 15, 3) := by decide +kernel
theorem zd_Text_open_23 : decode prog_10_method_3_code 23 = .ok (.return_, 1) := by decide +kernel
theorem zd_Text_refuse_0 : decode prog_10_method_11_code 0 = .ok (.aload_n 0, 1) := by decide +kernel
theorem zd_Text_refuse_1 : decode prog_10_method_11_code 1 = .ok (.aload_n 0, 1) := by decide +kernel
theorem zd_Text_refuse_2 : decode prog_10_method_11_code 2 = .ok (.getfield 25, 3) := by decide +kernel
theorem zd_Text_refuse_5 : decode prog_10_method_11_code 5 = .ok (.putfield 15, 3) := by decide +kernel
theorem zd_Text_refuse_8 : decode prog_10_method_11_code 8 = .ok (.new 39, 3) := by decide +kernel
theorem zd_Text_refuse_11 : decode prog_10_method_11_code 11 = .ok (.dup, 1) := by decide +kernel
theorem zd_Text_refuse_12 : decode prog_10_method_11_code 12 = .ok (.invokespecial 41, 3) := by decide +kernel
theorem zd_Text_refuse_15 : decode prog_10_method_11_code 15 = .ok (.athrow, 1) := by decide +kernel
theorem zd_Text_skip_0 : decode prog_10_method_7_code 0 = .ok (.aload_n 0, 1) := by decide +kernel
theorem zd_Text_skip_1 : decode prog_10_method_7_code 1 = .ok (.dup, 1) := by decide +kernel
theorem zd_Text_skip_2 : decode prog_10_method_7_code 2 = .ok (.getfield 25, 3) := by decide +kernel
theorem zd_Text_skip_5 : decode prog_10_method_7_code 5 = .ok (.iconst 1, 1) := by decide +kernel
theorem zd_Text_skip_6 : decode prog_10_method_7_code 6 = .ok (.iadd, 1) := by decide +kernel
theorem zd_Text_skip_7 : decode prog_10_method_7_code 7 = .ok (.putfield 25, 3) := by decide +kernel
theorem zd_Text_skip_10 : decode prog_10_method_7_code 10 = .ok (.return_, 1) := by decide +kernel
theorem zd_Tree_clear_0 : decode prog_11_method_2_code 0 = .ok (.aload_n 0, 1) := by decide +kernel
theorem zd_Tree_clear_1 : decode prog_11_method_2_code 1 = .ok (.iconst 0, 1) := by decide +kernel
theorem zd_Tree_clear_2 : decode prog_11_method_2_code 2 = .ok (.putfield 50, 3) := by decide +kernel
theorem zd_Tree_clear_5 : decode prog_11_method_2_code 5 = .ok (.aload_n 0, 1) := by decide +kernel
theorem zd_Tree_clear_6 : decode prog_11_method_2_code 6 = .ok (.iconst 0, 1) := by decide +kernel
theorem zd_Tree_clear_7 : decode prog_11_method_2_code 7 = .ok (.putfield 54, 3) := by decide +kernel
theorem zd_Tree_clear_10 : decode prog_11_method_2_code 10 = .ok (.aload_n 0, 1) := by decide +kernel
theorem zd_Tree_clear_11 : decode prog_11_method_2_code 11 = .ok (.getfield 47, 3) := by decide +kernel
theorem zd_Tree_clear_14 : decode prog_11_method_2_code 14 = .ok (.bipush (-3), 2) := by decide +kernel
theorem zd_Tree_clear_16 : decode prog_11_method_2_code 16 = .ok (.invokestatic 57, 3) := by decide +kernel
theorem zd_Tree_clear_19 : decode prog_11_method_2_code 19 = .ok (.return_, 1) := by decide +kernel
def wp_Situation_messageAt (I : Nat → Int32) (J : Nat → Int64) (B : Nat → Nat → Int32) (D : Nat → Nat → Int64) (a0 : Int32) (a1 : Int32) (Post : Int32 → (Nat → Int32) → (Nat → Int64) → (Nat → Nat → Int32) → (Nat → Nat → Int64) → Prop) : Prop :=
  ∀ z1 : Int32, z1 = (a0 * 3) → ∀ z2 : Int32, z2 = (z1 + a1) → vp_in z2 24 ∧ ∀ z3 : Int32, z3 = ((B 30) z2.toNatClampNeg) → Post z3 I J B D
set_option maxHeartbeats 8000000 in
set_option maxRecDepth 100000 in
theorem w_Situation_messageAt (l : Launch) (G : va_G) (K : Nat → ClassId) (ad : Nat → Nat) (sv : Value) (I : Nat → Int32) (J : Nat → Int64) (B : Nat → Nat → Int32) (D : Nat → Nat → Int64) (a0 : Int32) (a1 : Int32) (Post : Int32 → (Nat → Int32) → (Nat → Int64) → (Nat → Nat → Int32) → (Nat → Nat → Int64) → Prop) (sz : Nat) (hok : wp_Situation_messageAt I J B D a0 a1 Post) : Met l zy_Situation_messageAt (Cond.code zy_Situation_messageAt prog_8_method_5_code 3 (some .int) :: zTB) { frames := 0, cells := 0, slots := 0, locals := 0 } (va_Pc [.ref (ad 7), .int a0, .int a1] (zPre G K (wX ad K sv I J B D) sz)) (va_Qi (fun (r : Int32) (u : zS) => Post r u.1 u.2.1 u.2.2.1 u.2.2.2) (fun u t => zPost G K (va_A (wX ad K sv I J B D) sz) (wX ad K sv u.1 u.2.1 u.2.2.1 u.2.2.2) t) (va_A (wX ad K sv I J B D) sz)) 0 0 (va_A (wX ad K sv I J B D) sz) := by
  refine zMet (y := zy_Situation_messageAt) (av := [.ref (ad 7), .int a0, .int a1]) (maxL := 3) (cc := prog_8_method_5_code) (ret := (some .int)) (W0 := (wX ad K sv I J B D)) (sz := sz) (G := G) (K := K) (wt := zTB) (mc := 0) (ms := 0) (Qf := fun A => va_Qi (fun (r : Int32) (u : zS) => Post r u.1 u.2.1 u.2.2.1 u.2.2.2) (fun u t => zPost G K A (wX ad K sv u.1 u.2.1 u.2.2.1 u.2.2.2) t) A) (by decide) (Nat.le_of_ble_eq_true rfl) ?_
  intro p e s m below meth c ls A hx hb hr hml hts hown hlocks hin hA hK H locs hw hsz hl
  clear hsz
  have hown : s.vm.findClass "LassoFinder$Situation" = some m.cls := hown
  have C : zCx p s m ([.ref (ad 7), .int a0, .int a1] : List Value).toArray meth c A G K prog_8_method_5_code (some .int) 3 "LassoFinder$Situation" := ⟨hx, hb, hr, hml, hts, hown, hlocks, hA, hK⟩
  have hl : lv_has ls 3 [(0, .ref (ad 7)), (1, .int a0), (2, .int a1)] := hl
  have hw : zW G A s.heap (wX ad K sv I J B D) H locs := hw
  unfold wp_Situation_messageAt at hok
  refine lv_aload_n hx hb zd_Situation_messageAt_0 rfl (lv_at hl 0 rfl) ?_
  refine z_get (v := .ref (ad 44)) hx hb hts hown hK hw zZ7 7 wX_g7 4 (by decide) zn_267 rfl zd_Situation_messageAt_1 ?_
  refine lv_iload_n hx hb zd_Situation_messageAt_4 rfl (lv_at hl 1 rfl) ?_
  refine lv_iconst (v := 3) hx hb zd_Situation_messageAt_5 (by decide) ?_
  refine lv_imul hx hb zd_Situation_messageAt_6 ?_
  refine lv_topi (fun z1 ez1 => ?_)
  have hok := hok z1 ez1
  refine lv_iload_n hx hb zd_Situation_messageAt_7 rfl (lv_at hl 2 rfl) ?_
  refine lv_iadd hx hb zd_Situation_messageAt_8 ?_
  refine lv_topi (fun z2 ez2 => ?_)
  have hok := hok z2 ez2
  refine va_iald (f := (B 30)) hx hb hK hw.1 44 0 wX_a44 rfl hok.1 zd_Situation_messageAt_9 ?_
  have hok := hok.2
  refine lv_topi (fun z3 ez3 => ?_)
  have hok := hok z3 ez3
  exact (z_iret (u := (I, J, B, D)) hx hb hr hlocks rfl hw (List.range 65) wX_all wX_nd hok (Nat.le_of_ble_eq_true rfl) (Nat.le_of_ble_eq_true rfl) zd_Situation_messageAt_10)
def wc_LassoFinder_message_30 (a0 : Int32) (a1 : Int32) (Post : Int32 → (Nat → Int32) → (Nat → Int64) → (Nat → Nat → Int32) → (Nat → Nat → Int64) → Prop)  (I : Nat → Int32) (J : Nat → Int64) (B : Nat → Nat → Int32) (D : Nat → Nat → Int64) : Prop :=
  Post (-1) I J B D
def wc_LassoFinder_message_62 (a0 : Int32) (a1 : Int32) (Post : Int32 → (Nat → Int32) → (Nat → Int64) → (Nat → Nat → Int32) → (Nat → Nat → Int64) → Prop) (y0 : Int32) (I : Nat → Int32) (J : Nat → Int64) (B : Nat → Nat → Int32) (D : Nat → Nat → Int64) : Prop :=
  Post y0 I J B D
def wc_LassoFinder_message_49 (a0 : Int32) (a1 : Int32) (Post : Int32 → (Nat → Int32) → (Nat → Int64) → (Nat → Nat → Int32) → (Nat → Nat → Int64) → Prop)  (I : Nat → Int32) (J : Nat → Int64) (B : Nat → Nat → Int32) (D : Nat → Nat → Int64) : Prop :=
  wc_LassoFinder_message_62 a0 a1 Post (-1) I J B D
def wp_LassoFinder_message (I : Nat → Int32) (J : Nat → Int64) (B : Nat → Nat → Int32) (D : Nat → Nat → Int64) (a0 : Int32) (a1 : Int32) (Post : Int32 → (Nat → Int32) → (Nat → Int64) → (Nat → Nat → Int32) → (Nat → Nat → Int64) → Prop) : Prop :=
  wp_LassoFinder_standsOnWalk I J B D  (fun r1 I1 J1 B1 D1 => ((r1 = 0 → wc_LassoFinder_message_30 a0 a1 Post I1 J1 B1 D1) ∧ (¬ r1 = 0 → ((a0 < 0 → wc_LassoFinder_message_30 a0 a1 Post I1 J1 B1 D1) ∧ (¬ a0 < 0 → (((8 : Int32) ≤ a0 → wc_LassoFinder_message_30 a0 a1 Post I1 J1 B1 D1) ∧ (¬ (8 : Int32) ≤ a0 → vp_in a0 8 ∧ ∀ z5 : Int32, z5 = ((B1 2) a0.toNatClampNeg) → ((z5 = 2 → ((a1 < 0 → wc_LassoFinder_message_49 a0 a1 Post I1 J1 B1 D1) ∧ (¬ a1 < 0 → vp_in a0 8 ∧ ∀ z8 : Int32, z8 = ((B1 29) a0.toNatClampNeg) → ((a1 < z8 → wp_Situation_messageAt I1 J1 B1 D1 a0 a1 (fun r10 I10 J10 B10 D10 => wc_LassoFinder_message_62 a0 a1 Post r10 I10 J10 B10 D10)) ∧ (¬ a1 < z8 → wc_LassoFinder_message_49 a0 a1 Post I1 J1 B1 D1))))) ∧ (¬ z5 = 2 → wc_LassoFinder_message_30 a0 a1 Post I1 J1 B1 D1)))))))))
set_option maxHeartbeats 8000000 in
set_option maxRecDepth 100000 in
theorem wJ_LassoFinder_message_30 {p : Program} {l : Launch} {e : Env} {s : State} {m : MethodId} {below : List Frame} {meth : Method} {c : Code} {A : Nat → Prop} (G : va_G) (K : Nat → ClassId) (ad : Nat → Nat) (sv : Value) (a0 : Int32) (a1 : Int32) (Post : Int32 → (Nat → Int32) → (Nat → Int64) → (Nat → Nat → Int32) → (Nat → Nat → Int64) → Prop) (C : zCx p s m ([.ref (ad 0), .int a0, .int a1] : List Value).toArray meth c A G K prog_1_method_14_code (some .int) 3 "LassoFinder") : ∀  (I : Nat → Int32) (J : Nat → Int64) (B : Nat → Nat → Int32) (D : Nat → Nat → Int64) (ls : Array Slot) (H : Heap) (locs : List Loc), wc_LassoFinder_message_30 a0 a1 Post  I J B D → lv_has ls 3 [] → zW G A s.heap (wX ad K sv I J B D) H locs → W p l e { frames := 2, cells := 0, slots := 0, locals := 47 } s m ([.ref (ad 0), .int a0, .int a1] : List Value).toArray below meth c H locs 0 0 (MQ below (va_Qi (fun (r : Int32) (u : zS) => Post r u.1 u.2.1 u.2.2.1 u.2.2.2) (fun u t => zPost G K A (wX ad K sv u.1 u.2.1 u.2.2.1 u.2.2.2) t) A) ([.ref (ad 0), .int a0, .int a1] : List Value).toArray s 0 0 A) (F0 m 30 ls []) := by
  obtain ⟨hx, hb, hr, hml, hts, hown, hlocks, hA, hK⟩ := id C
  intro  I J B D ls H locs hok hl hw
  unfold wc_LassoFinder_message_30 at hok
  refine lv_iconst (v := (-1)) hx hb zd_LassoFinder_message_30 (by decide) ?_
  exact (z_iret (u := (I, J, B, D)) hx hb hr hlocks rfl hw (List.range 65) wX_all wX_nd hok (Nat.le_of_ble_eq_true rfl) (Nat.le_of_ble_eq_true rfl) zd_LassoFinder_message_31)
set_option maxHeartbeats 8000000 in
set_option maxRecDepth 100000 in
theorem wJ_LassoFinder_message_62 {p : Program} {l : Launch} {e : Env} {s : State} {m : MethodId} {below : List Frame} {meth : Method} {c : Code} {A : Nat → Prop} (G : va_G) (K : Nat → ClassId) (ad : Nat → Nat) (sv : Value) (a0 : Int32) (a1 : Int32) (Post : Int32 → (Nat → Int32) → (Nat → Int64) → (Nat → Nat → Int32) → (Nat → Nat → Int64) → Prop) (C : zCx p s m ([.ref (ad 0), .int a0, .int a1] : List Value).toArray meth c A G K prog_1_method_14_code (some .int) 3 "LassoFinder") : ∀ (y0 : Int32) (I : Nat → Int32) (J : Nat → Int64) (B : Nat → Nat → Int32) (D : Nat → Nat → Int64) (ls : Array Slot) (H : Heap) (locs : List Loc), wc_LassoFinder_message_62 a0 a1 Post y0 I J B D → lv_has ls 3 [] → zW G A s.heap (wX ad K sv I J B D) H locs → W p l e { frames := 2, cells := 0, slots := 0, locals := 47 } s m ([.ref (ad 0), .int a0, .int a1] : List Value).toArray below meth c H locs 0 0 (MQ below (va_Qi (fun (r : Int32) (u : zS) => Post r u.1 u.2.1 u.2.2.1 u.2.2.2) (fun u t => zPost G K A (wX ad K sv u.1 u.2.1 u.2.2.1 u.2.2.2) t) A) ([.ref (ad 0), .int a0, .int a1] : List Value).toArray s 0 0 A) (F0 m 62 ls [.int y0]) := by
  obtain ⟨hx, hb, hr, hml, hts, hown, hlocks, hA, hK⟩ := id C
  intro y0 I J B D ls H locs hok hl hw
  unfold wc_LassoFinder_message_62 at hok
  exact (z_iret (u := (I, J, B, D)) hx hb hr hlocks rfl hw (List.range 65) wX_all wX_nd hok (Nat.le_of_ble_eq_true rfl) (Nat.le_of_ble_eq_true rfl) zd_LassoFinder_message_62)
set_option maxHeartbeats 8000000 in
set_option maxRecDepth 100000 in
theorem wJ_LassoFinder_message_49 {p : Program} {l : Launch} {e : Env} {s : State} {m : MethodId} {below : List Frame} {meth : Method} {c : Code} {A : Nat → Prop} (G : va_G) (K : Nat → ClassId) (ad : Nat → Nat) (sv : Value) (a0 : Int32) (a1 : Int32) (Post : Int32 → (Nat → Int32) → (Nat → Int64) → (Nat → Nat → Int32) → (Nat → Nat → Int64) → Prop) (C : zCx p s m ([.ref (ad 0), .int a0, .int a1] : List Value).toArray meth c A G K prog_1_method_14_code (some .int) 3 "LassoFinder") : ∀  (I : Nat → Int32) (J : Nat → Int64) (B : Nat → Nat → Int32) (D : Nat → Nat → Int64) (ls : Array Slot) (H : Heap) (locs : List Loc), wc_LassoFinder_message_49 a0 a1 Post  I J B D → lv_has ls 3 [] → zW G A s.heap (wX ad K sv I J B D) H locs → W p l e { frames := 2, cells := 0, slots := 0, locals := 47 } s m ([.ref (ad 0), .int a0, .int a1] : List Value).toArray below meth c H locs 0 0 (MQ below (va_Qi (fun (r : Int32) (u : zS) => Post r u.1 u.2.1 u.2.2.1 u.2.2.2) (fun u t => zPost G K A (wX ad K sv u.1 u.2.1 u.2.2.1 u.2.2.2) t) A) ([.ref (ad 0), .int a0, .int a1] : List Value).toArray s 0 0 A) (F0 m 49 ls []) := by
  obtain ⟨hx, hb, hr, hml, hts, hown, hlocks, hA, hK⟩ := id C
  intro  I J B D ls H locs hok hl hw
  unfold wc_LassoFinder_message_49 at hok
  refine lv_iconst (v := (-1)) hx hb zd_LassoFinder_message_49 (by decide) ?_
  refine lv_goto (tgt := 62) hx hb zd_LassoFinder_message_50 (by decide) ?_
  exact wJ_LassoFinder_message_62 G K ad sv a0 a1 Post C (-1) I J B D ls H locs hok (lv_sub hl [] rfl) hw
set_option maxHeartbeats 8000000 in
set_option maxRecDepth 100000 in
theorem w_LassoFinder_message (l : Launch) (G : va_G) (K : Nat → ClassId) (ad : Nat → Nat) (sv : Value) (I : Nat → Int32) (J : Nat → Int64) (B : Nat → Nat → Int32) (D : Nat → Nat → Int64) (a0 : Int32) (a1 : Int32) (Post : Int32 → (Nat → Int32) → (Nat → Int64) → (Nat → Nat → Int32) → (Nat → Nat → Int64) → Prop) (sz : Nat) (hok : wp_LassoFinder_message I J B D a0 a1 Post) : Met l zy_LassoFinder_message (Cond.code zy_LassoFinder_message prog_1_method_14_code 3 (some .int) :: zTB) { frames := 2, cells := 0, slots := 0, locals := 47 } (va_Pc [.ref (ad 0), .int a0, .int a1] (zPre G K (wX ad K sv I J B D) sz)) (va_Qi (fun (r : Int32) (u : zS) => Post r u.1 u.2.1 u.2.2.1 u.2.2.2) (fun u t => zPost G K (va_A (wX ad K sv I J B D) sz) (wX ad K sv u.1 u.2.1 u.2.2.1 u.2.2.2) t) (va_A (wX ad K sv I J B D) sz)) 0 0 (va_A (wX ad K sv I J B D) sz) := by
  refine zMet (y := zy_LassoFinder_message) (av := [.ref (ad 0), .int a0, .int a1]) (maxL := 3) (cc := prog_1_method_14_code) (ret := (some .int)) (W0 := (wX ad K sv I J B D)) (sz := sz) (G := G) (K := K) (wt := zTB) (mc := 0) (ms := 0) (Qf := fun A => va_Qi (fun (r : Int32) (u : zS) => Post r u.1 u.2.1 u.2.2.1 u.2.2.2) (fun u t => zPost G K A (wX ad K sv u.1 u.2.1 u.2.2.1 u.2.2.2) t) A) (by decide) (Nat.le_of_ble_eq_true rfl) ?_
  intro p e s m below meth c ls A hx hb hr hml hts hown hlocks hin hA hK H locs hw hsz hl
  clear hsz
  have hown : s.vm.findClass "LassoFinder" = some m.cls := hown
  have C : zCx p s m ([.ref (ad 0), .int a0, .int a1] : List Value).toArray meth c A G K prog_1_method_14_code (some .int) 3 "LassoFinder" := ⟨hx, hb, hr, hml, hts, hown, hlocks, hA, hK⟩
  have hl : lv_has ls 3 [(0, .ref (ad 0)), (1, .int a0), (2, .int a1)] := hl
  have hw : zW G A s.heap (wX ad K sv I J B D) H locs := hw
  unfold wp_LassoFinder_message at hok
  refine lv_aload_n hx hb zd_LassoFinder_message_0 rfl (lv_at hl 0 rfl) ?_
  refine z_calli (w1 := fun (u : zS) => wX ad K sv u.1 u.2.1 u.2.2.1 u.2.2.2) (wr := []) (z_runV (q0 := 0) (wc := (wX ad K sv I J B D)) (As := []) (rest := []) ⟨hx, hb, hml, hown, hts⟩ (w_LassoFinder_standsOnWalk l G K ad sv I J B D  _ H.size hok) zf_LassoFinder_standsOnWalk zn_299 ⟨Nat.le_of_ble_eq_true rfl, Nat.le_of_ble_eq_true rfl⟩ hK hw (List.range 65) wX_all wX_nd wX_g0 rfl rfl hl.1 rfl (Nat.le_of_ble_eq_true rfl) zd_LassoFinder_message_1 ⟨Nat.le_of_ble_eq_true rfl, Nat.le_of_ble_eq_true rfl⟩) hw hA (List.range 65) [] wX_all rfl (by decide) (fun i hi => by cases hi) (fun r1 u H locs hok hw => ?_)
  obtain ⟨I1, J1, B1, D1⟩ := u
  dsimp only at hok
  have hw : zW G A s.heap (wX ad K sv I1 J1 B1 D1) H locs := hw
  refine lv_if_eq (tgt := 30) hx hb zd_LassoFinder_message_4 (by decide) (fun hc2 => ?_) (fun hc2 => ?_)
  · have hok := hok.1 hc2
    exact wJ_LassoFinder_message_30 G K ad sv a0 a1 Post C I1 J1 B1 D1 ls H locs hok (lv_sub hl [] rfl) hw
  · have hok := hok.2 hc2
    refine lv_iload_n hx hb zd_LassoFinder_message_7 rfl (lv_at hl 1 rfl) ?_
    refine lv_if_lt (tgt := 30) hx hb zd_LassoFinder_message_8 (by decide) (fun hc3 => ?_) (fun hc3 => ?_)
    · have hok := hok.1 hc3
      exact wJ_LassoFinder_message_30 G K ad sv a0 a1 Post C I1 J1 B1 D1 ls H locs hok (lv_sub hl [] rfl) hw
    · have hok := hok.2 hc3
      refine lv_iload_n hx hb zd_LassoFinder_message_11 rfl (lv_at hl 1 rfl) ?_
      refine lv_bipush (v := 8) hx hb zd_LassoFinder_message_12 (by decide) ?_
      refine lv_icmp_ge (tgt := 30) hx hb zd_LassoFinder_message_14 (by decide) (fun hc4 => ?_) (fun hc4 => ?_)
      · have hok := hok.1 hc4
        exact wJ_LassoFinder_message_30 G K ad sv a0 a1 Post C I1 J1 B1 D1 ls H locs hok (lv_sub hl [] rfl) hw
      · have hok := hok.2 hc4
        refine lv_aload_n hx hb zd_LassoFinder_message_17 rfl (lv_at hl 0 rfl) ?_
        refine z_get (v := .ref (ad 2)) hx hb hts hown hK hw zZ0 0 wX_g0 1 (by decide) zn_301 rfl zd_LassoFinder_message_18 ?_
        refine z_get (v := .ref (ad 14)) hx hb hts hown hK hw zZ5 2 wX_g2 0 (by decide) zn_302 rfl zd_LassoFinder_message_21 ?_
        refine lv_iload_n hx hb zd_LassoFinder_message_24 rfl (lv_at hl 1 rfl) ?_
        refine va_iald (f := (B1 2)) hx hb hK hw.1 14 0 wX_a14 rfl hok.1 zd_LassoFinder_message_25 ?_
        have hok := hok.2
        refine lv_topi (fun z5 ez5 => ?_)
        have hok := hok z5 ez5
        refine lv_iconst (v := 2) hx hb zd_LassoFinder_message_26 (by decide) ?_
        refine lv_icmp_eq (tgt := 32) hx hb zd_LassoFinder_message_27 (by decide) (fun hc6 => ?_) (fun hc6 => ?_)
        · have hok := hok.1 hc6
          refine lv_iload_n hx hb zd_LassoFinder_message_32 rfl (lv_at hl 2 rfl) ?_
          refine lv_if_lt (tgt := 49) hx hb zd_LassoFinder_message_33 (by decide) (fun hc7 => ?_) (fun hc7 => ?_)
          · have hok := hok.1 hc7
            exact wJ_LassoFinder_message_49 G K ad sv a0 a1 Post C I1 J1 B1 D1 ls H locs hok (lv_sub hl [] rfl) hw
          · have hok := hok.2 hc7
            refine lv_iload_n hx hb zd_LassoFinder_message_36 rfl (lv_at hl 2 rfl) ?_
            refine lv_aload_n hx hb zd_LassoFinder_message_37 rfl (lv_at hl 0 rfl) ?_
            refine z_get (v := .ref (ad 7)) hx hb hts hown hK hw zZ0 0 wX_g0 4 (by decide) zn_303 rfl zd_LassoFinder_message_38 ?_
            refine z_get (v := .ref (ad 43)) hx hb hts hown hK hw zZ7 7 wX_g7 3 (by decide) zn_304 rfl zd_LassoFinder_message_41 ?_
            refine lv_iload_n hx hb zd_LassoFinder_message_44 rfl (lv_at hl 1 rfl) ?_
            refine va_iald (f := (B1 29)) hx hb hK hw.1 43 0 wX_a43 rfl hok.1 zd_LassoFinder_message_45 ?_
            have hok := hok.2
            refine lv_topi (fun z8 ez8 => ?_)
            have hok := hok z8 ez8
            refine lv_icmp_lt (tgt := 53) hx hb zd_LassoFinder_message_46 (by decide) (fun hc9 => ?_) (fun hc9 => ?_)
            · have hok := hok.1 hc9
              refine lv_aload_n hx hb zd_LassoFinder_message_53 rfl (lv_at hl 0 rfl) ?_
              refine z_get (v := .ref (ad 7)) hx hb hts hown hK hw zZ0 0 wX_g0 4 (by decide) zn_303 rfl zd_LassoFinder_message_54 ?_
              refine lv_iload_n hx hb zd_LassoFinder_message_57 rfl (lv_at hl 1 rfl) ?_
              refine lv_iload_n hx hb zd_LassoFinder_message_58 rfl (lv_at hl 2 rfl) ?_
              refine z_calli (w1 := fun (u : zS) => wX ad K sv u.1 u.2.1 u.2.2.1 u.2.2.2) (wr := []) (z_runV (q0 := 7) (wc := (wX ad K sv I1 J1 B1 D1)) (As := [.int a0, .int a1]) (rest := []) ⟨hx, hb, hml, hown, hts⟩ (w_Situation_messageAt l G K ad sv I1 J1 B1 D1 a0 a1 _ H.size hok) zf_Situation_messageAt zn_312 ⟨Nat.le_of_ble_eq_true rfl, Nat.le_of_ble_eq_true rfl⟩ hK hw (List.range 65) wX_all wX_nd wX_g7 rfl rfl hl.1 rfl (Nat.le_of_ble_eq_true rfl) zd_LassoFinder_message_59 ⟨Nat.le_of_ble_eq_true rfl, Nat.le_of_ble_eq_true rfl⟩) hw hA (List.range 65) [] wX_all rfl (by decide) (fun i hi => by cases hi) (fun r10 u H locs hok hw => ?_)
              obtain ⟨I10, J10, B10, D10⟩ := u
              dsimp only at hok
              have hw : zW G A s.heap (wX ad K sv I10 J10 B10 D10) H locs := hw
              exact wJ_LassoFinder_message_62 G K ad sv a0 a1 Post C r10 I10 J10 B10 D10 ls H locs hok (lv_sub hl [] rfl) hw
            · have hok := hok.2 hc9
              exact wJ_LassoFinder_message_49 G K ad sv a0 a1 Post C I1 J1 B1 D1 ls H locs hok (lv_sub hl [] rfl) hw
        · have hok := hok.2 hc6
          exact wJ_LassoFinder_message_30 G K ad sv a0 a1 Post C I1 J1 B1 D1 ls H locs hok (lv_sub hl [] rfl) hw
def wc_LassoFinder_point_22 (a0 : Int32) (Post : Int32 → (Nat → Int32) → (Nat → Int64) → (Nat → Nat → Int32) → (Nat → Nat → Int64) → Prop)  (I : Nat → Int32) (J : Nat → Int64) (B : Nat → Nat → Int32) (D : Nat → Nat → Int64) : Prop :=
  Post (-1) I J B D
def wp_LassoFinder_point (I : Nat → Int32) (J : Nat → Int64) (B : Nat → Nat → Int32) (D : Nat → Nat → Int64) (a0 : Int32) (Post : Int32 → (Nat → Int32) → (Nat → Int64) → (Nat → Nat → Int32) → (Nat → Nat → Int64) → Prop) : Prop :=
  wp_LassoFinder_standsOnWalk I J B D  (fun r1 I1 J1 B1 D1 => ((r1 = 0 → wc_LassoFinder_point_22 a0 Post I1 J1 B1 D1) ∧ (¬ r1 = 0 → ((a0 < 0 → wc_LassoFinder_point_22 a0 Post I1 J1 B1 D1) ∧ (¬ a0 < 0 → ((a0 < (I1 10) → vp_in a0 4 ∧ ∀ z5 : Int32, z5 = ((B1 31) a0.toNatClampNeg) → Post z5 I1 J1 B1 D1) ∧ (¬ a0 < (I1 10) → wc_LassoFinder_point_22 a0 Post I1 J1 B1 D1)))))))
set_option maxHeartbeats 8000000 in
set_option maxRecDepth 100000 in
theorem wJ_LassoFinder_point_22 {p : Program} {l : Launch} {e : Env} {s : State} {m : MethodId} {below : List Frame} {meth : Method} {c : Code} {A : Nat → Prop} (G : va_G) (K : Nat → ClassId) (ad : Nat → Nat) (sv : Value) (a0 : Int32) (Post : Int32 → (Nat → Int32) → (Nat → Int64) → (Nat → Nat → Int32) → (Nat → Nat → Int64) → Prop) (C : zCx p s m ([.ref (ad 0), .int a0] : List Value).toArray meth c A G K prog_1_method_15_code (some .int) 2 "LassoFinder") : ∀  (I : Nat → Int32) (J : Nat → Int64) (B : Nat → Nat → Int32) (D : Nat → Nat → Int64) (ls : Array Slot) (H : Heap) (locs : List Loc), wc_LassoFinder_point_22 a0 Post  I J B D → lv_has ls 2 [] → zW G A s.heap (wX ad K sv I J B D) H locs → W p l e { frames := 2, cells := 0, slots := 0, locals := 47 } s m ([.ref (ad 0), .int a0] : List Value).toArray below meth c H locs 0 0 (MQ below (va_Qi (fun (r : Int32) (u : zS) => Post r u.1 u.2.1 u.2.2.1 u.2.2.2) (fun u t => zPost G K A (wX ad K sv u.1 u.2.1 u.2.2.1 u.2.2.2) t) A) ([.ref (ad 0), .int a0] : List Value).toArray s 0 0 A) (F0 m 22 ls []) := by
  obtain ⟨hx, hb, hr, hml, hts, hown, hlocks, hA, hK⟩ := id C
  intro  I J B D ls H locs hok hl hw
  unfold wc_LassoFinder_point_22 at hok
  refine lv_iconst (v := (-1)) hx hb zd_LassoFinder_point_22 (by decide) ?_
  exact (z_iret (u := (I, J, B, D)) hx hb hr hlocks rfl hw (List.range 65) wX_all wX_nd hok (Nat.le_of_ble_eq_true rfl) (Nat.le_of_ble_eq_true rfl) zd_LassoFinder_point_23)
set_option maxHeartbeats 8000000 in
set_option maxRecDepth 100000 in
theorem w_LassoFinder_point (l : Launch) (G : va_G) (K : Nat → ClassId) (ad : Nat → Nat) (sv : Value) (I : Nat → Int32) (J : Nat → Int64) (B : Nat → Nat → Int32) (D : Nat → Nat → Int64) (a0 : Int32) (Post : Int32 → (Nat → Int32) → (Nat → Int64) → (Nat → Nat → Int32) → (Nat → Nat → Int64) → Prop) (sz : Nat) (hok : wp_LassoFinder_point I J B D a0 Post) : Met l zy_LassoFinder_point (Cond.code zy_LassoFinder_point prog_1_method_15_code 2 (some .int) :: zTB) { frames := 2, cells := 0, slots := 0, locals := 47 } (va_Pc [.ref (ad 0), .int a0] (zPre G K (wX ad K sv I J B D) sz)) (va_Qi (fun (r : Int32) (u : zS) => Post r u.1 u.2.1 u.2.2.1 u.2.2.2) (fun u t => zPost G K (va_A (wX ad K sv I J B D) sz) (wX ad K sv u.1 u.2.1 u.2.2.1 u.2.2.2) t) (va_A (wX ad K sv I J B D) sz)) 0 0 (va_A (wX ad K sv I J B D) sz) := by
  refine zMet (y := zy_LassoFinder_point) (av := [.ref (ad 0), .int a0]) (maxL := 2) (cc := prog_1_method_15_code) (ret := (some .int)) (W0 := (wX ad K sv I J B D)) (sz := sz) (G := G) (K := K) (wt := zTB) (mc := 0) (ms := 0) (Qf := fun A => va_Qi (fun (r : Int32) (u : zS) => Post r u.1 u.2.1 u.2.2.1 u.2.2.2) (fun u t => zPost G K A (wX ad K sv u.1 u.2.1 u.2.2.1 u.2.2.2) t) A) (by decide) (Nat.le_of_ble_eq_true rfl) ?_
  intro p e s m below meth c ls A hx hb hr hml hts hown hlocks hin hA hK H locs hw hsz hl
  clear hsz
  have hown : s.vm.findClass "LassoFinder" = some m.cls := hown
  have C : zCx p s m ([.ref (ad 0), .int a0] : List Value).toArray meth c A G K prog_1_method_15_code (some .int) 2 "LassoFinder" := ⟨hx, hb, hr, hml, hts, hown, hlocks, hA, hK⟩
  have hl : lv_has ls 2 [(0, .ref (ad 0)), (1, .int a0)] := hl
  have hw : zW G A s.heap (wX ad K sv I J B D) H locs := hw
  unfold wp_LassoFinder_point at hok
  refine lv_aload_n hx hb zd_LassoFinder_point_0 rfl (lv_at hl 0 rfl) ?_
  refine z_calli (w1 := fun (u : zS) => wX ad K sv u.1 u.2.1 u.2.2.1 u.2.2.2) (wr := []) (z_runV (q0 := 0) (wc := (wX ad K sv I J B D)) (As := []) (rest := []) ⟨hx, hb, hml, hown, hts⟩ (w_LassoFinder_standsOnWalk l G K ad sv I J B D  _ H.size hok) zf_LassoFinder_standsOnWalk zn_299 ⟨Nat.le_of_ble_eq_true rfl, Nat.le_of_ble_eq_true rfl⟩ hK hw (List.range 65) wX_all wX_nd wX_g0 rfl rfl hl.1 rfl (Nat.le_of_ble_eq_true rfl) zd_LassoFinder_point_1 ⟨Nat.le_of_ble_eq_true rfl, Nat.le_of_ble_eq_true rfl⟩) hw hA (List.range 65) [] wX_all rfl (by decide) (fun i hi => by cases hi) (fun r1 u H locs hok hw => ?_)
  obtain ⟨I1, J1, B1, D1⟩ := u
  dsimp only at hok
  have hw : zW G A s.heap (wX ad K sv I1 J1 B1 D1) H locs := hw
  refine lv_if_eq (tgt := 22) hx hb zd_LassoFinder_point_4 (by decide) (fun hc2 => ?_) (fun hc2 => ?_)
  · have hok := hok.1 hc2
    exact wJ_LassoFinder_point_22 G K ad sv a0 Post C I1 J1 B1 D1 ls H locs hok (lv_sub hl [] rfl) hw
  · have hok := hok.2 hc2
    refine lv_iload_n hx hb zd_LassoFinder_point_7 rfl (lv_at hl 1 rfl) ?_
    refine lv_if_lt (tgt := 22) hx hb zd_LassoFinder_point_8 (by decide) (fun hc3 => ?_) (fun hc3 => ?_)
    · have hok := hok.1 hc3
      exact wJ_LassoFinder_point_22 G K ad sv a0 Post C I1 J1 B1 D1 ls H locs hok (lv_sub hl [] rfl) hw
    · have hok := hok.2 hc3
      refine lv_iload_n hx hb zd_LassoFinder_point_11 rfl (lv_at hl 1 rfl) ?_
      refine lv_aload_n hx hb zd_LassoFinder_point_12 rfl (lv_at hl 0 rfl) ?_
      refine z_get (v := .ref (ad 3)) hx hb hts hown hK hw zZ0 0 wX_g0 2 (by decide) zn_313 rfl zd_LassoFinder_point_13 ?_
      refine z_get (v := .int (I1 10)) hx hb hts hown hK hw zZ6 3 wX_g3 13 (by decide) zn_314 rfl zd_LassoFinder_point_16 ?_
      refine lv_icmp_lt (tgt := 24) hx hb zd_LassoFinder_point_19 (by decide) (fun hc4 => ?_) (fun hc4 => ?_)
      · have hok := hok.1 hc4
        refine lv_aload_n hx hb zd_LassoFinder_point_24 rfl (lv_at hl 0 rfl) ?_
        refine z_get (v := .ref (ad 7)) hx hb hts hown hK hw zZ0 0 wX_g0 4 (by decide) zn_303 rfl zd_LassoFinder_point_25 ?_
        refine z_get (v := .ref (ad 45)) hx hb hts hown hK hw zZ7 7 wX_g7 5 (by decide) zn_315 rfl zd_LassoFinder_point_28 ?_
        refine lv_iload_n hx hb zd_LassoFinder_point_31 rfl (lv_at hl 1 rfl) ?_
        refine va_iald (f := (B1 31)) hx hb hK hw.1 45 0 wX_a45 rfl hok.1 zd_LassoFinder_point_32 ?_
        have hok := hok.2
        refine lv_topi (fun z5 ez5 => ?_)
        have hok := hok z5 ez5
        exact (z_iret (u := (I1, J1, B1, D1)) hx hb hr hlocks rfl hw (List.range 65) wX_all wX_nd hok (Nat.le_of_ble_eq_true rfl) (Nat.le_of_ble_eq_true rfl) zd_LassoFinder_point_33)
      · have hok := hok.2 hc4
        exact wJ_LassoFinder_point_22 G K ad sv a0 Post C I1 J1 B1 D1 ls H locs hok (lv_sub hl [] rfl) hw
def wc_LassoFinder_holder_18 (Post : Int32 → (Nat → Int32) → (Nat → Int64) → (Nat → Nat → Int32) → (Nat → Nat → Int64) → Prop) (y0 : Int32) (I : Nat → Int32) (J : Nat → Int64) (B : Nat → Nat → Int32) (D : Nat → Nat → Int64) : Prop :=
  Post y0 I J B D
def wp_LassoFinder_holder (I : Nat → Int32) (J : Nat → Int64) (B : Nat → Nat → Int32) (D : Nat → Nat → Int64) (Post : Int32 → (Nat → Int32) → (Nat → Int64) → (Nat → Nat → Int32) → (Nat → Nat → Int64) → Prop) : Prop :=
  wp_LassoFinder_standsOnWalk I J B D  (fun r1 I1 J1 B1 D1 => ((r1 = 0 → wc_LassoFinder_holder_18  Post (-1) I1 J1 B1 D1) ∧ (¬ r1 = 0 → wc_LassoFinder_holder_18  Post (I1 18) I1 J1 B1 D1)))
set_option maxHeartbeats 8000000 in
set_option maxRecDepth 100000 in
theorem wJ_LassoFinder_holder_18 {p : Program} {l : Launch} {e : Env} {s : State} {m : MethodId} {below : List Frame} {meth : Method} {c : Code} {A : Nat → Prop} (G : va_G) (K : Nat → ClassId) (ad : Nat → Nat) (sv : Value) (Post : Int32 → (Nat → Int32) → (Nat → Int64) → (Nat → Nat → Int32) → (Nat → Nat → Int64) → Prop) (C : zCx p s m ([.ref (ad 0)] : List Value).toArray meth c A G K prog_1_method_16_code (some .int) 1 "LassoFinder") : ∀ (y0 : Int32) (I : Nat → Int32) (J : Nat → Int64) (B : Nat → Nat → Int32) (D : Nat → Nat → Int64) (ls : Array Slot) (H : Heap) (locs : List Loc), wc_LassoFinder_holder_18  Post y0 I J B D → lv_has ls 1 [] → zW G A s.heap (wX ad K sv I J B D) H locs → W p l e { frames := 2, cells := 0, slots := 0, locals := 47 } s m ([.ref (ad 0)] : List Value).toArray below meth c H locs 0 0 (MQ below (va_Qi (fun (r : Int32) (u : zS) => Post r u.1 u.2.1 u.2.2.1 u.2.2.2) (fun u t => zPost G K A (wX ad K sv u.1 u.2.1 u.2.2.1 u.2.2.2) t) A) ([.ref (ad 0)] : List Value).toArray s 0 0 A) (F0 m 18 ls [.int y0]) := by
  obtain ⟨hx, hb, hr, hml, hts, hown, hlocks, hA, hK⟩ := id C
  intro y0 I J B D ls H locs hok hl hw
  unfold wc_LassoFinder_holder_18 at hok
  exact (z_iret (u := (I, J, B, D)) hx hb hr hlocks rfl hw (List.range 65) wX_all wX_nd hok (Nat.le_of_ble_eq_true rfl) (Nat.le_of_ble_eq_true rfl) zd_LassoFinder_holder_18)
set_option maxHeartbeats 8000000 in
set_option maxRecDepth 100000 in
theorem w_LassoFinder_holder (l : Launch) (G : va_G) (K : Nat → ClassId) (ad : Nat → Nat) (sv : Value) (I : Nat → Int32) (J : Nat → Int64) (B : Nat → Nat → Int32) (D : Nat → Nat → Int64) (Post : Int32 → (Nat → Int32) → (Nat → Int64) → (Nat → Nat → Int32) → (Nat → Nat → Int64) → Prop) (sz : Nat) (hok : wp_LassoFinder_holder I J B D  Post) : Met l zy_LassoFinder_holder (Cond.code zy_LassoFinder_holder prog_1_method_16_code 1 (some .int) :: zTB) { frames := 2, cells := 0, slots := 0, locals := 47 } (va_Pc [.ref (ad 0)] (zPre G K (wX ad K sv I J B D) sz)) (va_Qi (fun (r : Int32) (u : zS) => Post r u.1 u.2.1 u.2.2.1 u.2.2.2) (fun u t => zPost G K (va_A (wX ad K sv I J B D) sz) (wX ad K sv u.1 u.2.1 u.2.2.1 u.2.2.2) t) (va_A (wX ad K sv I J B D) sz)) 0 0 (va_A (wX ad K sv I J B D) sz) := by
  refine zMet (y := zy_LassoFinder_holder) (av := [.ref (ad 0)]) (maxL := 1) (cc := prog_1_method_16_code) (ret := (some .int)) (W0 := (wX ad K sv I J B D)) (sz := sz) (G := G) (K := K) (wt := zTB) (mc := 0) (ms := 0) (Qf := fun A => va_Qi (fun (r : Int32) (u : zS) => Post r u.1 u.2.1 u.2.2.1 u.2.2.2) (fun u t => zPost G K A (wX ad K sv u.1 u.2.1 u.2.2.1 u.2.2.2) t) A) (by decide) (Nat.le_of_ble_eq_true rfl) ?_
  intro p e s m below meth c ls A hx hb hr hml hts hown hlocks hin hA hK H locs hw hsz hl
  clear hsz
  have hown : s.vm.findClass "LassoFinder" = some m.cls := hown
  have C : zCx p s m ([.ref (ad 0)] : List Value).toArray meth c A G K prog_1_method_16_code (some .int) 1 "LassoFinder" := ⟨hx, hb, hr, hml, hts, hown, hlocks, hA, hK⟩
  have hl : lv_has ls 1 [(0, .ref (ad 0))] := hl
  have hw : zW G A s.heap (wX ad K sv I J B D) H locs := hw
  unfold wp_LassoFinder_holder at hok
  refine lv_aload_n hx hb zd_LassoFinder_holder_0 rfl (lv_at hl 0 rfl) ?_
  refine z_calli (w1 := fun (u : zS) => wX ad K sv u.1 u.2.1 u.2.2.1 u.2.2.2) (wr := []) (z_runV (q0 := 0) (wc := (wX ad K sv I J B D)) (As := []) (rest := []) ⟨hx, hb, hml, hown, hts⟩ (w_LassoFinder_standsOnWalk l G K ad sv I J B D  _ H.size hok) zf_LassoFinder_standsOnWalk zn_299 ⟨Nat.le_of_ble_eq_true rfl, Nat.le_of_ble_eq_true rfl⟩ hK hw (List.range 65) wX_all wX_nd wX_g0 rfl rfl hl.1 rfl (Nat.le_of_ble_eq_true rfl) zd_LassoFinder_holder_1 ⟨Nat.le_of_ble_eq_true rfl, Nat.le_of_ble_eq_true rfl⟩) hw hA (List.range 65) [] wX_all rfl (by decide) (fun i hi => by cases hi) (fun r1 u H locs hok hw => ?_)
  obtain ⟨I1, J1, B1, D1⟩ := u
  dsimp only at hok
  have hw : zW G A s.heap (wX ad K sv I1 J1 B1 D1) H locs := hw
  refine lv_if_eq (tgt := 17) hx hb zd_LassoFinder_holder_4 (by decide) (fun hc2 => ?_) (fun hc2 => ?_)
  · have hok := hok.1 hc2
    refine lv_iconst (v := (-1)) hx hb zd_LassoFinder_holder_17 (by decide) ?_
    exact wJ_LassoFinder_holder_18 G K ad sv  Post C (-1) I1 J1 B1 D1 ls H locs hok (lv_sub hl [] rfl) hw
  · have hok := hok.2 hc2
    refine lv_aload_n hx hb zd_LassoFinder_holder_7 rfl (lv_at hl 0 rfl) ?_
    refine z_get (v := .ref (ad 7)) hx hb hts hown hK hw zZ0 0 wX_g0 4 (by decide) zn_303 rfl zd_LassoFinder_holder_8 ?_
    refine z_get (v := .int (I1 18)) hx hb hts hown hK hw zZ7 7 wX_g7 6 (by decide) zn_316 rfl zd_LassoFinder_holder_11 ?_
    refine lv_goto (tgt := 18) hx hb zd_LassoFinder_holder_14 (by decide) ?_
    exact wJ_LassoFinder_holder_18 G K ad sv  Post C (I1 18) I1 J1 B1 D1 ls H locs hok (lv_sub hl [] rfl) hw
def wc_LassoFinder_count_50 (a0 : Int32) (Post : Int32 → (Nat → Int32) → (Nat → Int64) → (Nat → Nat → Int32) → (Nat → Nat → Int64) → Prop) (y0 : Int32) (I : Nat → Int32) (J : Nat → Int64) (B : Nat → Nat → Int32) (D : Nat → Nat → Int64) : Prop :=
  Post y0 I J B D
def wc_LassoFinder_count_69 (a0 : Int32) (Post : Int32 → (Nat → Int32) → (Nat → Int64) → (Nat → Nat → Int32) → (Nat → Nat → Int64) → Prop) (y0 : Int32) (I : Nat → Int32) (J : Nat → Int64) (B : Nat → Nat → Int32) (D : Nat → Nat → Int64) : Prop :=
  Post y0 I J B D
def wc_LassoFinder_count_88 (a0 : Int32) (Post : Int32 → (Nat → Int32) → (Nat → Int64) → (Nat → Nat → Int32) → (Nat → Nat → Int64) → Prop) (y0 : Int32) (I : Nat → Int32) (J : Nat → Int64) (B : Nat → Nat → Int32) (D : Nat → Nat → Int64) : Prop :=
  Post y0 I J B D
def wc_LassoFinder_count_107 (a0 : Int32) (Post : Int32 → (Nat → Int32) → (Nat → Int64) → (Nat → Nat → Int32) → (Nat → Nat → Int64) → Prop) (y0 : Int32) (I : Nat → Int32) (J : Nat → Int64) (B : Nat → Nat → Int32) (D : Nat → Nat → Int64) : Prop :=
  Post y0 I J B D
def wp_LassoFinder_count (I : Nat → Int32) (J : Nat → Int64) (B : Nat → Nat → Int32) (D : Nat → Nat → Int64) (a0 : Int32) (Post : Int32 → (Nat → Int32) → (Nat → Int64) → (Nat → Nat → Int32) → (Nat → Nat → Int64) → Prop) : Prop :=
  ((a0 = 0 → (((I 1) = 0 → wc_LassoFinder_count_50 a0 Post 0 I J B D) ∧ (¬ (I 1) = 0 → wc_LassoFinder_count_50 a0 Post (I 19) I J B D))) ∧ (a0 = 1 → (((I 1) = 0 → wc_LassoFinder_count_69 a0 Post 0 I J B D) ∧ (¬ (I 1) = 0 → wc_LassoFinder_count_69 a0 Post (I 20) I J B D))) ∧ (a0 = 2 → (((I 1) = 0 → wc_LassoFinder_count_88 a0 Post 0 I J B D) ∧ (¬ (I 1) = 0 → wc_LassoFinder_count_88 a0 Post (I 9) I J B D))) ∧ (a0 = 3 → (((I 1) = 0 → wc_LassoFinder_count_107 a0 Post 0 I J B D) ∧ (¬ (I 1) = 0 → wc_LassoFinder_count_107 a0 Post (I 10) I J B D))) ∧ (¬ a0 = 0 → ¬ a0 = 1 → ¬ a0 = 2 → ¬ a0 = 3 → Post (-1) I J B D))
set_option maxHeartbeats 8000000 in
set_option maxRecDepth 100000 in
theorem wJ_LassoFinder_count_50 {p : Program} {l : Launch} {e : Env} {s : State} {m : MethodId} {below : List Frame} {meth : Method} {c : Code} {A : Nat → Prop} (G : va_G) (K : Nat → ClassId) (ad : Nat → Nat) (sv : Value) (a0 : Int32) (Post : Int32 → (Nat → Int32) → (Nat → Int64) → (Nat → Nat → Int32) → (Nat → Nat → Int64) → Prop) (C : zCx p s m ([.ref (ad 0), .int a0] : List Value).toArray meth c A G K prog_1_method_18_code (some .int) 2 "LassoFinder") : ∀ (y0 : Int32) (I : Nat → Int32) (J : Nat → Int64) (B : Nat → Nat → Int32) (D : Nat → Nat → Int64) (ls : Array Slot) (H : Heap) (locs : List Loc), wc_LassoFinder_count_50 a0 Post y0 I J B D → lv_has ls 2 [] → zW G A s.heap (wX ad K sv I J B D) H locs → W p l e { frames := 0, cells := 0, slots := 0, locals := 0 } s m ([.ref (ad 0), .int a0] : List Value).toArray below meth c H locs 0 0 (MQ below (va_Qi (fun (r : Int32) (u : zS) => Post r u.1 u.2.1 u.2.2.1 u.2.2.2) (fun u t => zPost G K A (wX ad K sv u.1 u.2.1 u.2.2.1 u.2.2.2) t) A) ([.ref (ad 0), .int a0] : List Value).toArray s 0 0 A) (F0 m 50 ls [.int y0]) := by
  obtain ⟨hx, hb, hr, hml, hts, hown, hlocks, hA, hK⟩ := id C
  intro y0 I J B D ls H locs hok hl hw
  unfold wc_LassoFinder_count_50 at hok
  exact (z_iret (u := (I, J, B, D)) hx hb hr hlocks rfl hw (List.range 65) wX_all wX_nd hok (Nat.le_of_ble_eq_true rfl) (Nat.le_of_ble_eq_true rfl) zd_LassoFinder_count_50)
set_option maxHeartbeats 8000000 in
set_option maxRecDepth 100000 in
theorem wJ_LassoFinder_count_69 {p : Program} {l : Launch} {e : Env} {s : State} {m : MethodId} {below : List Frame} {meth : Method} {c : Code} {A : Nat → Prop} (G : va_G) (K : Nat → ClassId) (ad : Nat → Nat) (sv : Value) (a0 : Int32) (Post : Int32 → (Nat → Int32) → (Nat → Int64) → (Nat → Nat → Int32) → (Nat → Nat → Int64) → Prop) (C : zCx p s m ([.ref (ad 0), .int a0] : List Value).toArray meth c A G K prog_1_method_18_code (some .int) 2 "LassoFinder") : ∀ (y0 : Int32) (I : Nat → Int32) (J : Nat → Int64) (B : Nat → Nat → Int32) (D : Nat → Nat → Int64) (ls : Array Slot) (H : Heap) (locs : List Loc), wc_LassoFinder_count_69 a0 Post y0 I J B D → lv_has ls 2 [] → zW G A s.heap (wX ad K sv I J B D) H locs → W p l e { frames := 0, cells := 0, slots := 0, locals := 0 } s m ([.ref (ad 0), .int a0] : List Value).toArray below meth c H locs 0 0 (MQ below (va_Qi (fun (r : Int32) (u : zS) => Post r u.1 u.2.1 u.2.2.1 u.2.2.2) (fun u t => zPost G K A (wX ad K sv u.1 u.2.1 u.2.2.1 u.2.2.2) t) A) ([.ref (ad 0), .int a0] : List Value).toArray s 0 0 A) (F0 m 69 ls [.int y0]) := by
  obtain ⟨hx, hb, hr, hml, hts, hown, hlocks, hA, hK⟩ := id C
  intro y0 I J B D ls H locs hok hl hw
  unfold wc_LassoFinder_count_69 at hok
  exact (z_iret (u := (I, J, B, D)) hx hb hr hlocks rfl hw (List.range 65) wX_all wX_nd hok (Nat.le_of_ble_eq_true rfl) (Nat.le_of_ble_eq_true rfl) zd_LassoFinder_count_69)
set_option maxHeartbeats 8000000 in
set_option maxRecDepth 100000 in
theorem wJ_LassoFinder_count_88 {p : Program} {l : Launch} {e : Env} {s : State} {m : MethodId} {below : List Frame} {meth : Method} {c : Code} {A : Nat → Prop} (G : va_G) (K : Nat → ClassId) (ad : Nat → Nat) (sv : Value) (a0 : Int32) (Post : Int32 → (Nat → Int32) → (Nat → Int64) → (Nat → Nat → Int32) → (Nat → Nat → Int64) → Prop) (C : zCx p s m ([.ref (ad 0), .int a0] : List Value).toArray meth c A G K prog_1_method_18_code (some .int) 2 "LassoFinder") : ∀ (y0 : Int32) (I : Nat → Int32) (J : Nat → Int64) (B : Nat → Nat → Int32) (D : Nat → Nat → Int64) (ls : Array Slot) (H : Heap) (locs : List Loc), wc_LassoFinder_count_88 a0 Post y0 I J B D → lv_has ls 2 [] → zW G A s.heap (wX ad K sv I J B D) H locs → W p l e { frames := 0, cells := 0, slots := 0, locals := 0 } s m ([.ref (ad 0), .int a0] : List Value).toArray below meth c H locs 0 0 (MQ below (va_Qi (fun (r : Int32) (u : zS) => Post r u.1 u.2.1 u.2.2.1 u.2.2.2) (fun u t => zPost G K A (wX ad K sv u.1 u.2.1 u.2.2.1 u.2.2.2) t) A) ([.ref (ad 0), .int a0] : List Value).toArray s 0 0 A) (F0 m 88 ls [.int y0]) := by
  obtain ⟨hx, hb, hr, hml, hts, hown, hlocks, hA, hK⟩ := id C
  intro y0 I J B D ls H locs hok hl hw
  unfold wc_LassoFinder_count_88 at hok
  exact (z_iret (u := (I, J, B, D)) hx hb hr hlocks rfl hw (List.range 65) wX_all wX_nd hok (Nat.le_of_ble_eq_true rfl) (Nat.le_of_ble_eq_true rfl) zd_LassoFinder_count_88)
set_option maxHeartbeats 8000000 in
set_option maxRecDepth 100000 in
theorem wJ_LassoFinder_count_107 {p : Program} {l : Launch} {e : Env} {s : State} {m : MethodId} {below : List Frame} {meth : Method} {c : Code} {A : Nat → Prop} (G : va_G) (K : Nat → ClassId) (ad : Nat → Nat) (sv : Value) (a0 : Int32) (Post : Int32 → (Nat → Int32) → (Nat → Int64) → (Nat → Nat → Int32) → (Nat → Nat → Int64) → Prop) (C : zCx p s m ([.ref (ad 0), .int a0] : List Value).toArray meth c A G K prog_1_method_18_code (some .int) 2 "LassoFinder") : ∀ (y0 : Int32) (I : Nat → Int32) (J : Nat → Int64) (B : Nat → Nat → Int32) (D : Nat → Nat → Int64) (ls : Array Slot) (H : Heap) (locs : List Loc), wc_LassoFinder_count_107 a0 Post y0 I J B D → lv_has ls 2 [] → zW G A s.heap (wX ad K sv I J B D) H locs → W p l e { frames := 0, cells := 0, slots := 0, locals := 0 } s m ([.ref (ad 0), .int a0] : List Value).toArray below meth c H locs 0 0 (MQ below (va_Qi (fun (r : Int32) (u : zS) => Post r u.1 u.2.1 u.2.2.1 u.2.2.2) (fun u t => zPost G K A (wX ad K sv u.1 u.2.1 u.2.2.1 u.2.2.2) t) A) ([.ref (ad 0), .int a0] : List Value).toArray s 0 0 A) (F0 m 107 ls [.int y0]) := by
  obtain ⟨hx, hb, hr, hml, hts, hown, hlocks, hA, hK⟩ := id C
  intro y0 I J B D ls H locs hok hl hw
  unfold wc_LassoFinder_count_107 at hok
  exact (z_iret (u := (I, J, B, D)) hx hb hr hlocks rfl hw (List.range 65) wX_all wX_nd hok (Nat.le_of_ble_eq_true rfl) (Nat.le_of_ble_eq_true rfl) zd_LassoFinder_count_107)
set_option maxHeartbeats 8000000 in
set_option maxRecDepth 100000 in
theorem w_LassoFinder_count (l : Launch) (G : va_G) (K : Nat → ClassId) (ad : Nat → Nat) (sv : Value) (I : Nat → Int32) (J : Nat → Int64) (B : Nat → Nat → Int32) (D : Nat → Nat → Int64) (a0 : Int32) (Post : Int32 → (Nat → Int32) → (Nat → Int64) → (Nat → Nat → Int32) → (Nat → Nat → Int64) → Prop) (sz : Nat) (hok : wp_LassoFinder_count I J B D a0 Post) : Met l zy_LassoFinder_count (Cond.code zy_LassoFinder_count prog_1_method_18_code 2 (some .int) :: zTB) { frames := 0, cells := 0, slots := 0, locals := 0 } (va_Pc [.ref (ad 0), .int a0] (zPre G K (wX ad K sv I J B D) sz)) (va_Qi (fun (r : Int32) (u : zS) => Post r u.1 u.2.1 u.2.2.1 u.2.2.2) (fun u t => zPost G K (va_A (wX ad K sv I J B D) sz) (wX ad K sv u.1 u.2.1 u.2.2.1 u.2.2.2) t) (va_A (wX ad K sv I J B D) sz)) 0 0 (va_A (wX ad K sv I J B D) sz) := by
  refine zMet (y := zy_LassoFinder_count) (av := [.ref (ad 0), .int a0]) (maxL := 2) (cc := prog_1_method_18_code) (ret := (some .int)) (W0 := (wX ad K sv I J B D)) (sz := sz) (G := G) (K := K) (wt := zTB) (mc := 0) (ms := 0) (Qf := fun A => va_Qi (fun (r : Int32) (u : zS) => Post r u.1 u.2.1 u.2.2.1 u.2.2.2) (fun u t => zPost G K A (wX ad K sv u.1 u.2.1 u.2.2.1 u.2.2.2) t) A) (by decide) (Nat.le_of_ble_eq_true rfl) ?_
  intro p e s m below meth c ls A hx hb hr hml hts hown hlocks hin hA hK H locs hw hsz hl
  clear hsz
  have hown : s.vm.findClass "LassoFinder" = some m.cls := hown
  have C : zCx p s m ([.ref (ad 0), .int a0] : List Value).toArray meth c A G K prog_1_method_18_code (some .int) 2 "LassoFinder" := ⟨hx, hb, hr, hml, hts, hown, hlocks, hA, hK⟩
  have hl : lv_has ls 2 [(0, .ref (ad 0)), (1, .int a0)] := hl
  have hw : zW G A s.heap (wX ad K sv I J B D) H locs := hw
  unfold wp_LassoFinder_count at hok
  refine lv_iload_n hx hb zd_LassoFinder_count_0 rfl (lv_at hl 1 rfl) ?_
  by_cases hs1 : a0 = 0
  · have hok := hok.1 hs1
    refine lv_tableIn (off := 31) (tgt := 32) hx hb zd_LassoFinder_count_1 (by rw [hs1]; decide) (by rw [hs1]; decide) (by rw [hs1]; decide) (by decide) ?_
    refine lv_aload_n hx hb zd_LassoFinder_count_32 rfl (lv_at hl 0 rfl) ?_
    refine z_get (v := .int (I 1)) hx hb hts hown hK hw zZ0 0 wX_g0 11 (by decide) zn_317 rfl zd_LassoFinder_count_33 ?_
    refine lv_if_eq (tgt := 49) hx hb zd_LassoFinder_count_36 (by decide) (fun hc2 => ?_) (fun hc2 => ?_)
    · have hok := hok.1 hc2
      refine lv_iconst (v := 0) hx hb zd_LassoFinder_count_49 (by decide) ?_
      exact wJ_LassoFinder_count_50 G K ad sv a0 Post C 0 I J B D ls H locs hok (lv_sub hl [] rfl) hw
    · have hok := hok.2 hc2
      refine lv_aload_n hx hb zd_LassoFinder_count_39 rfl (lv_at hl 0 rfl) ?_
      refine z_get (v := .ref (ad 8)) hx hb hts hown hK hw zZ0 0 wX_g0 5 (by decide) zn_298 rfl zd_LassoFinder_count_40 ?_
      refine z_get (v := .int (I 19)) hx hb hts hown hK hw zZ2 8 wX_g8 9 (by decide) zn_320 rfl zd_LassoFinder_count_43 ?_
      refine lv_goto (tgt := 50) hx hb zd_LassoFinder_count_46 (by decide) ?_
      exact wJ_LassoFinder_count_50 G K ad sv a0 Post C (I 19) I J B D ls H locs hok (lv_sub hl [] rfl) hw
  by_cases hs3 : a0 = 1
  · have hok := hok.2.1 hs3
    refine lv_tableIn (off := 50) (tgt := 51) hx hb zd_LassoFinder_count_1 (by rw [hs3]; decide) (by rw [hs3]; decide) (by rw [hs3]; decide) (by decide) ?_
    refine lv_aload_n hx hb zd_LassoFinder_count_51 rfl (lv_at hl 0 rfl) ?_
    refine z_get (v := .int (I 1)) hx hb hts hown hK hw zZ0 0 wX_g0 11 (by decide) zn_317 rfl zd_LassoFinder_count_52 ?_
    refine lv_if_eq (tgt := 68) hx hb zd_LassoFinder_count_55 (by decide) (fun hc4 => ?_) (fun hc4 => ?_)
    · have hok := hok.1 hc4
      refine lv_iconst (v := 0) hx hb zd_LassoFinder_count_68 (by decide) ?_
      exact wJ_LassoFinder_count_69 G K ad sv a0 Post C 0 I J B D ls H locs hok (lv_sub hl [] rfl) hw
    · have hok := hok.2 hc4
      refine lv_aload_n hx hb zd_LassoFinder_count_58 rfl (lv_at hl 0 rfl) ?_
      refine z_get (v := .ref (ad 8)) hx hb hts hown hK hw zZ0 0 wX_g0 5 (by decide) zn_298 rfl zd_LassoFinder_count_59 ?_
      refine z_get (v := .int (I 20)) hx hb hts hown hK hw zZ2 8 wX_g8 10 (by decide) zn_319 rfl zd_LassoFinder_count_62 ?_
      refine lv_goto (tgt := 69) hx hb zd_LassoFinder_count_65 (by decide) ?_
      exact wJ_LassoFinder_count_69 G K ad sv a0 Post C (I 20) I J B D ls H locs hok (lv_sub hl [] rfl) hw
  by_cases hs5 : a0 = 2
  · have hok := hok.2.2.1 hs5
    refine lv_tableIn (off := 69) (tgt := 70) hx hb zd_LassoFinder_count_1 (by rw [hs5]; decide) (by rw [hs5]; decide) (by rw [hs5]; decide) (by decide) ?_
    refine lv_aload_n hx hb zd_LassoFinder_count_70 rfl (lv_at hl 0 rfl) ?_
    refine z_get (v := .int (I 1)) hx hb hts hown hK hw zZ0 0 wX_g0 11 (by decide) zn_317 rfl zd_LassoFinder_count_71 ?_
    refine lv_if_eq (tgt := 87) hx hb zd_LassoFinder_count_74 (by decide) (fun hc6 => ?_) (fun hc6 => ?_)
    · have hok := hok.1 hc6
      refine lv_iconst (v := 0) hx hb zd_LassoFinder_count_87 (by decide) ?_
      exact wJ_LassoFinder_count_88 G K ad sv a0 Post C 0 I J B D ls H locs hok (lv_sub hl [] rfl) hw
    · have hok := hok.2 hc6
      refine lv_aload_n hx hb zd_LassoFinder_count_77 rfl (lv_at hl 0 rfl) ?_
      refine z_get (v := .ref (ad 3)) hx hb hts hown hK hw zZ0 0 wX_g0 2 (by decide) zn_313 rfl zd_LassoFinder_count_78 ?_
      refine z_get (v := .int (I 9)) hx hb hts hown hK hw zZ6 3 wX_g3 12 (by decide) zn_318 rfl zd_LassoFinder_count_81 ?_
      refine lv_goto (tgt := 88) hx hb zd_LassoFinder_count_84 (by decide) ?_
      exact wJ_LassoFinder_count_88 G K ad sv a0 Post C (I 9) I J B D ls H locs hok (lv_sub hl [] rfl) hw
  by_cases hs7 : a0 = 3
  · have hok := hok.2.2.2.1 hs7
    refine lv_tableIn (off := 88) (tgt := 89) hx hb zd_LassoFinder_count_1 (by rw [hs7]; decide) (by rw [hs7]; decide) (by rw [hs7]; decide) (by decide) ?_
    refine lv_aload_n hx hb zd_LassoFinder_count_89 rfl (lv_at hl 0 rfl) ?_
    refine z_get (v := .int (I 1)) hx hb hts hown hK hw zZ0 0 wX_g0 11 (by decide) zn_317 rfl zd_LassoFinder_count_90 ?_
    refine lv_if_eq (tgt := 106) hx hb zd_LassoFinder_count_93 (by decide) (fun hc8 => ?_) (fun hc8 => ?_)
    · have hok := hok.1 hc8
      refine lv_iconst (v := 0) hx hb zd_LassoFinder_count_106 (by decide) ?_
      exact wJ_LassoFinder_count_107 G K ad sv a0 Post C 0 I J B D ls H locs hok (lv_sub hl [] rfl) hw
    · have hok := hok.2 hc8
      refine lv_aload_n hx hb zd_LassoFinder_count_96 rfl (lv_at hl 0 rfl) ?_
      refine z_get (v := .ref (ad 3)) hx hb hts hown hK hw zZ0 0 wX_g0 2 (by decide) zn_313 rfl zd_LassoFinder_count_97 ?_
      refine z_get (v := .int (I 10)) hx hb hts hown hK hw zZ6 3 wX_g3 13 (by decide) zn_314 rfl zd_LassoFinder_count_100 ?_
      refine lv_goto (tgt := 107) hx hb zd_LassoFinder_count_103 (by decide) ?_
      exact wJ_LassoFinder_count_107 G K ad sv a0 Post C (I 10) I J B D ls H locs hok (lv_sub hl [] rfl) hw
  have hok := hok.2.2.2.2 hs1 hs3 hs5 hs7
  refine lv_tableOut (tgt := 108) hx hb zd_LassoFinder_count_1 (by have h0 := lv_neT hs1 (a := 0) (by decide); have h1 := lv_neT hs3 (a := 1) (by decide); have h2 := lv_neT hs5 (a := 2) (by decide); have h3 := lv_neT hs7 (a := 3) (by decide); omega) (by decide) ?_
  refine lv_iconst (v := (-1)) hx hb zd_LassoFinder_count_108 (by decide) ?_
  exact (z_iret (u := (I, J, B, D)) hx hb hr hlocks rfl hw (List.range 65) wX_all wX_nd hok (Nat.le_of_ble_eq_true rfl) (Nat.le_of_ble_eq_true rfl) zd_LassoFinder_count_109)
def wp_Text_open (I : Nat → Int32) (J : Nat → Int64) (B : Nat → Nat → Int32) (D : Nat → Nat → Int64) (Post : (Nat → Int32) → (Nat → Int64) → (Nat → Nat → Int32) → (Nat → Nat → Int64) → Prop) : Prop :=
  Post (upd (upd (upd (upd I 4 (I 3)) 3 0) 5 0) 6 (-1)) J B D
set_option maxHeartbeats 8000000 in
set_option maxRecDepth 100000 in
theorem w_Text_open (l : Launch) (G : va_G) (K : Nat → ClassId) (ad : Nat → Nat) (sv : Value) (I : Nat → Int32) (J : Nat → Int64) (B : Nat → Nat → Int32) (D : Nat → Nat → Int64) (Post : (Nat → Int32) → (Nat → Int64) → (Nat → Nat → Int32) → (Nat → Nat → Int64) → Prop) (sz : Nat) (hok : wp_Text_open I J B D  Post) : Met l zy_Text_open (Cond.code zy_Text_open prog_10_method_3_code 1 none :: zTB) { frames := 0, cells := 0, slots := 0, locals := 0 } (va_Pc [.ref (ad 1)] (zPre G K (wX ad K sv I J B D) sz)) (va_Qv (fun u : zS => Post u.1 u.2.1 u.2.2.1 u.2.2.2) (fun u t => zPost G K (va_A (wX ad K sv I J B D) sz) (wX ad K sv u.1 u.2.1 u.2.2.1 u.2.2.2) t) (va_A (wX ad K sv I J B D) sz)) 0 0 (va_A (wX ad K sv I J B D) sz) := by
  refine zMet (y := zy_Text_open) (av := [.ref (ad 1)]) (maxL := 1) (cc := prog_10_method_3_code) (ret := none) (W0 := (wX ad K sv I J B D)) (sz := sz) (G := G) (K := K) (wt := zTB) (mc := 0) (ms := 0) (Qf := fun A => va_Qv (fun u : zS => Post u.1 u.2.1 u.2.2.1 u.2.2.2) (fun u t => zPost G K A (wX ad K sv u.1 u.2.1 u.2.2.1 u.2.2.2) t) A) (by decide) (Nat.le_of_ble_eq_true rfl) ?_
  intro p e s m below meth c ls A hx hb hr hml hts hown hlocks hin hA hK H locs hw hsz hl
  clear hsz
  have hown : s.vm.findClass "LassoFinder$Text" = some m.cls := hown
  have C : zCx p s m ([.ref (ad 1)] : List Value).toArray meth c A G K prog_10_method_3_code none 1 "LassoFinder$Text" := ⟨hx, hb, hr, hml, hts, hown, hlocks, hA, hK⟩
  have hl : lv_has ls 1 [(0, .ref (ad 1))] := hl
  have hw : zW G A s.heap (wX ad K sv I J B D) H locs := hw
  unfold wp_Text_open at hok
  refine lv_aload_n hx hb zd_Text_open_0 rfl (lv_at hl 0 rfl) ?_
  refine lv_aload_n hx hb zd_Text_open_1 rfl (lv_at hl 0 rfl) ?_
  refine z_get (v := .int (I 3)) hx hb hts hown hK hw zZ9 1 wX_g1 1 (by decide) zn_292 rfl zd_Text_open_2 ?_
  refine z_put (v := .int (I 3)) hx hb hts hown hK hw zZ9 1 wX_g1 2 (by decide) zn_416 rfl rfl rfl (Nat.le_of_ble_eq_true rfl) zd_Text_open_5 (fun H locs hw => ?_)
  have hw := wX_sI4 hw
  refine lv_aload_n hx hb zd_Text_open_8 rfl (lv_at hl 0 rfl) ?_
  refine lv_iconst (v := 0) hx hb zd_Text_open_9 (by decide) ?_
  refine z_put (v := .int 0) hx hb hts hown hK hw zZ9 1 wX_g1 1 (by decide) zn_292 rfl rfl rfl (Nat.le_of_ble_eq_true rfl) zd_Text_open_10 (fun H locs hw => ?_)
  have hw := wX_sI3 hw
  refine lv_aload_n hx hb zd_Text_open_13 rfl (lv_at hl 0 rfl) ?_
  refine lv_iconst (v := 0) hx hb zd_Text_open_14 (by decide) ?_
  refine z_put (v := .int 0) hx hb hts hown hK hw zZ9 1 wX_g1 3 (by decide) zn_417 rfl rfl rfl (Nat.le_of_ble_eq_true rfl) zd_Text_open_15 (fun H locs hw => ?_)
  have hw := wX_sI5 hw
  refine lv_aload_n hx hb zd_Text_open_18 rfl (lv_at hl 0 rfl) ?_
  refine lv_iconst (v := (-1)) hx hb zd_Text_open_19 (by decide) ?_
  refine z_put (v := .int (-1)) hx hb hts hown hK hw zZ9 1 wX_g1 4 (by decide) zn_418 rfl rfl rfl (Nat.le_of_ble_eq_true rfl) zd_Text_open_20 (fun H locs hw => ?_)
  have hw := wX_sI6 hw
  exact (z_vret (u := ((upd (upd (upd (upd I 4 (I 3)) 3 0) 5 0) 6 (-1)), J, B, D)) hx hb hr hlocks hw (List.range 65) wX_all wX_nd hok (Nat.le_of_ble_eq_true rfl) (Nat.le_of_ble_eq_true rfl) zd_Text_open_23)
def wp_Text_skip (I : Nat → Int32) (J : Nat → Int64) (B : Nat → Nat → Int32) (D : Nat → Nat → Int64) (Post : (Nat → Int32) → (Nat → Int64) → (Nat → Nat → Int32) → (Nat → Nat → Int64) → Prop) : Prop :=
  ∀ z1 : Int32, z1 = ((I 5) + 1) → Post (upd I 5 z1) J B D
set_option maxHeartbeats 8000000 in
set_option maxRecDepth 100000 in
theorem w_Text_skip (l : Launch) (G : va_G) (K : Nat → ClassId) (ad : Nat → Nat) (sv : Value) (I : Nat → Int32) (J : Nat → Int64) (B : Nat → Nat → Int32) (D : Nat → Nat → Int64) (Post : (Nat → Int32) → (Nat → Int64) → (Nat → Nat → Int32) → (Nat → Nat → Int64) → Prop) (sz : Nat) (hok : wp_Text_skip I J B D  Post) : Met l zy_Text_skip (Cond.code zy_Text_skip prog_10_method_7_code 1 none :: zTB) { frames := 0, cells := 0, slots := 0, locals := 0 } (va_Pc [.ref (ad 1)] (zPre G K (wX ad K sv I J B D) sz)) (va_Qv (fun u : zS => Post u.1 u.2.1 u.2.2.1 u.2.2.2) (fun u t => zPost G K (va_A (wX ad K sv I J B D) sz) (wX ad K sv u.1 u.2.1 u.2.2.1 u.2.2.2) t) (va_A (wX ad K sv I J B D) sz)) 0 0 (va_A (wX ad K sv I J B D) sz) := by
  refine zMet (y := zy_Text_skip) (av := [.ref (ad 1)]) (maxL := 1) (cc := prog_10_method_7_code) (ret := none) (W0 := (wX ad K sv I J B D)) (sz := sz) (G := G) (K := K) (wt := zTB) (mc := 0) (ms := 0) (Qf := fun A => va_Qv (fun u : zS => Post u.1 u.2.1 u.2.2.1 u.2.2.2) (fun u t => zPost G K A (wX ad K sv u.1 u.2.1 u.2.2.1 u.2.2.2) t) A) (by decide) (Nat.le_of_ble_eq_true rfl) ?_
  intro p e s m below meth c ls A hx hb hr hml hts hown hlocks hin hA hK H locs hw hsz hl
  clear hsz
  have hown : s.vm.findClass "LassoFinder$Text" = some m.cls := hown
  have C : zCx p s m ([.ref (ad 1)] : List Value).toArray meth c A G K prog_10_method_7_code none 1 "LassoFinder$Text" := ⟨hx, hb, hr, hml, hts, hown, hlocks, hA, hK⟩
  have hl : lv_has ls 1 [(0, .ref (ad 1))] := hl
  have hw : zW G A s.heap (wX ad K sv I J B D) H locs := hw
  unfold wp_Text_skip at hok
  refine lv_aload_n hx hb zd_Text_skip_0 rfl (lv_at hl 0 rfl) ?_
  refine lv_dup hx hb zd_Text_skip_1 rfl ?_
  refine z_get (v := .int (I 5)) hx hb hts hown hK hw zZ9 1 wX_g1 3 (by decide) zn_417 rfl zd_Text_skip_2 ?_
  refine lv_iconst (v := 1) hx hb zd_Text_skip_5 (by decide) ?_
  refine lv_iadd hx hb zd_Text_skip_6 ?_
  refine lv_topi (fun z1 ez1 => ?_)
  have hok := hok z1 ez1
  refine z_put (v := .int z1) hx hb hts hown hK hw zZ9 1 wX_g1 3 (by decide) zn_417 rfl rfl rfl (Nat.le_of_ble_eq_true rfl) zd_Text_skip_7 (fun H locs hw => ?_)
  have hw := wX_sI5 hw
  exact (z_vret (u := ((upd I 5 z1), J, B, D)) hx hb hr hlocks hw (List.range 65) wX_all wX_nd hok (Nat.le_of_ble_eq_true rfl) (Nat.le_of_ble_eq_true rfl) zd_Text_skip_10)
def wp_Tree_clear (I : Nat → Int32) (J : Nat → Int64) (B : Nat → Nat → Int32) (D : Nat → Nat → Int64) (Post : (Nat → Int32) → (Nat → Int64) → (Nat → Nat → Int32) → (Nat → Nat → Int64) → Prop) : Prop :=
  Post (upd (upd I 16 0) 17 0) J (va_up B 28 (zFill (B 28) (-3) 8)) D
set_option maxHeartbeats 8000000 in
set_option maxRecDepth 100000 in
theorem w_Tree_clear (l : Launch) (G : va_G) (K : Nat → ClassId) (ad : Nat → Nat) (sv : Value) (I : Nat → Int32) (J : Nat → Int64) (B : Nat → Nat → Int32) (D : Nat → Nat → Int64) (Post : (Nat → Int32) → (Nat → Int64) → (Nat → Nat → Int32) → (Nat → Nat → Int64) → Prop) (sz : Nat) (hok : wp_Tree_clear I J B D  Post) : Met l zy_Tree_clear (Cond.code zy_Tree_clear prog_11_method_2_code 1 none :: zTB) { frames := 1, cells := 0, slots := 0, locals := 23 } (va_Pc [.ref (ad 6)] (zPre G K (wX ad K sv I J B D) sz)) (va_Qv (fun u : zS => Post u.1 u.2.1 u.2.2.1 u.2.2.2) (fun u t => zPost G K (va_A (wX ad K sv I J B D) sz) (wX ad K sv u.1 u.2.1 u.2.2.1 u.2.2.2) t) (va_A (wX ad K sv I J B D) sz)) 0 0 (va_A (wX ad K sv I J B D) sz) := by
  refine zMet (y := zy_Tree_clear) (av := [.ref (ad 6)]) (maxL := 1) (cc := prog_11_method_2_code) (ret := none) (W0 := (wX ad K sv I J B D)) (sz := sz) (G := G) (K := K) (wt := zTB) (mc := 0) (ms := 0) (Qf := fun A => va_Qv (fun u : zS => Post u.1 u.2.1 u.2.2.1 u.2.2.2) (fun u t => zPost G K A (wX ad K sv u.1 u.2.1 u.2.2.1 u.2.2.2) t) A) (by decide) (Nat.le_of_ble_eq_true rfl) ?_
  intro p e s m below meth c ls A hx hb hr hml hts hown hlocks hin hA hK H locs hw hsz hl
  clear hsz
  have hown : s.vm.findClass "LassoFinder$Tree" = some m.cls := hown
  have C : zCx p s m ([.ref (ad 6)] : List Value).toArray meth c A G K prog_11_method_2_code none 1 "LassoFinder$Tree" := ⟨hx, hb, hr, hml, hts, hown, hlocks, hA, hK⟩
  have hl : lv_has ls 1 [(0, .ref (ad 6))] := hl
  have hw : zW G A s.heap (wX ad K sv I J B D) H locs := hw
  unfold wp_Tree_clear at hok
  refine lv_aload_n hx hb zd_Tree_clear_0 rfl (lv_at hl 0 rfl) ?_
  refine lv_iconst (v := 0) hx hb zd_Tree_clear_1 (by decide) ?_
  refine z_put (v := .int 0) hx hb hts hown hK hw zZ10 6 wX_g6 11 (by decide) zn_425 rfl rfl rfl (Nat.le_of_ble_eq_true rfl) zd_Tree_clear_2 (fun H locs hw => ?_)
  have hw := wX_sI16 hw
  refine lv_aload_n hx hb zd_Tree_clear_5 rfl (lv_at hl 0 rfl) ?_
  refine lv_iconst (v := 0) hx hb zd_Tree_clear_6 (by decide) ?_
  refine z_put (v := .int 0) hx hb hts hown hK hw zZ10 6 wX_g6 12 (by decide) zn_426 rfl rfl rfl (Nat.le_of_ble_eq_true rfl) zd_Tree_clear_7 (fun H locs hw => ?_)
  have hw := wX_sI17 hw
  refine lv_aload_n hx hb zd_Tree_clear_10 rfl (lv_at hl 0 rfl) ?_
  refine z_get (v := .ref (ad 42)) hx hb hts hown hK hw zZ10 6 wX_g6 10 (by decide) zn_265 rfl zd_Tree_clear_11 ?_
  refine lv_bipush (v := (-3)) hx hb zd_Tree_clear_14 (by decide) ?_
  refine z_fillI (f := (B 28)) (v := (-3)) (n := 8) (rest := []) ⟨hx, hb, hml, hown, hts⟩ hK hw hA 42 wX_a42 (by decide) zn_345 ⟨(Nat.le_of_ble_eq_true rfl), (Nat.le_of_ble_eq_true rfl)⟩ hl.1 rfl (Nat.le_of_ble_eq_true rfl) zd_Tree_clear_16 ⟨(Nat.le_of_ble_eq_true rfl), (Nat.le_of_ble_eq_true rfl)⟩ (fun H locs hw => ?_)
  have hw := wX_t42 hw
  exact (z_vret (u := ((upd (upd I 16 0) 17 0), J, (va_up B 28 (zFill (B 28) (-3) 8)), D)) hx hb hr hlocks hw (List.range 65) wX_all wX_nd hok (Nat.le_of_ble_eq_true rfl) (Nat.le_of_ble_eq_true rfl) zd_Tree_clear_19)
def wp_Text_refuse (I : Nat → Int32) (J : Nat → Int64) (B : Nat → Nat → Int32) (D : Nat → Nat → Int64) (Post : (Nat → Int32) → (Nat → Int64) → (Nat → Nat → Int32) → (Nat → Nat → Int64) → Prop) (PX : String → (Nat → Int32) → (Nat → Int64) → (Nat → Nat → Int32) → (Nat → Nat → Int64) → Prop) : Prop :=
  PX "java/lang/IllegalArgumentException" (upd I 6 (I 5)) J B D
set_option maxHeartbeats 8000000 in
set_option maxRecDepth 100000 in
theorem w_Text_refuse (l : Launch) (hlt : l.stackTraces = false) (G : va_G) (K : Nat → ClassId) (ad : Nat → Nat) (sv : Value) (I : Nat → Int32) (J : Nat → Int64) (B : Nat → Nat → Int32) (D : Nat → Nat → Int64) (Post : (Nat → Int32) → (Nat → Int64) → (Nat → Nat → Int32) → (Nat → Nat → Int64) → Prop) (PX : String → (Nat → Int32) → (Nat → Int64) → (Nat → Nat → Int32) → (Nat → Nat → Int64) → Prop) (sz : Nat) (hok : wp_Text_refuse I J B D  Post PX) : zyMet l zy_Text_refuse (Cond.code zy_Text_refuse prog_10_method_11_code 1 none :: zTB) { frames := 6, cells := 1, slots := 6, locals := 81 } (va_Pc [.ref (ad 1)] (zPreY G K (wX ad K sv I J B D) sz)) (va_Qv (fun u : zS => Post u.1 u.2.1 u.2.2.1 u.2.2.2) (fun u t => zPost G K (va_A (wX ad K sv I J B D) sz) (wX ad K sv u.1 u.2.1 u.2.2.1 u.2.2.2) t) (va_A (wX ad K sv I J B D) sz)) (zYC (fun E (u : zS) => PX E u.1 u.2.1 u.2.2.1 u.2.2.2) (fun u => wX ad K sv u.1 u.2.1 u.2.2.1 u.2.2.2) G K (va_A (wX ad K sv I J B D) sz)) 1 6 (va_A (wX ad K sv I J B D) sz) := by
  refine zMetY (y := zy_Text_refuse) (av := [.ref (ad 1)]) (maxL := 1) (cc := prog_10_method_11_code) (ret := none) (W0 := (wX ad K sv I J B D)) (sz := sz) (G := G) (K := K) (wt := zTB) (mc := 1) (ms := 6) (Qf := fun A => va_Qv (fun u : zS => Post u.1 u.2.1 u.2.2.1 u.2.2.2) (fun u t => zPost G K A (wX ad K sv u.1 u.2.1 u.2.2.1 u.2.2.2) t) A) (Xf := fun A => (zYC (fun E (u : zS) => PX E u.1 u.2.1 u.2.2.1 u.2.2.2) (fun u => wX ad K sv u.1 u.2.1 u.2.2.1 u.2.2.2) G K A)) (by decide) (Nat.le_of_ble_eq_true rfl) ?_
  intro p e s m below meth c ls A hx hb hr hml hts hown hlocks hin hA hK H locs hw hsz hl hT hnt
  clear hsz
  have hown : s.vm.findClass "LassoFinder$Text" = some m.cls := hown
  have C : zCy p l s m ([.ref (ad 1)] : List Value).toArray meth c A G K prog_10_method_11_code none 1 "LassoFinder$Text" := ⟨hx, hb, hr, hml, hts, hown, hlocks, hA, hK, hT, hnt, hlt⟩
  have hl : lv_has ls 1 [(0, .ref (ad 1))] := hl
  have hw : zW G A s.heap (wX ad K sv I J B D) H locs := hw
  unfold wp_Text_refuse at hok
  refine lv_aload_n hx hb zd_Text_refuse_0 rfl (lv_at hl 0 rfl) ?_
  refine lv_aload_n hx hb zd_Text_refuse_1 rfl (lv_at hl 0 rfl) ?_
  refine z_get (v := .int (I 5)) hx hb hts hown hK hw zZ9 1 wX_g1 3 (by decide) zn_417 rfl zd_Text_refuse_2 ?_
  refine z_put (v := .int (I 5)) hx hb hts hown hK hw zZ9 1 wX_g1 4 (by decide) zn_418 rfl rfl rfl (Nat.le_of_ble_eq_true rfl) zd_Text_refuse_5 (fun H locs hw => ?_)
  have hw := wX_sI6 hw
  exact z_ythrow (u := ((upd I 6 (I 5)), J, B, D)) (names := ["java/lang/RuntimeException", "java/lang/Exception"]) hx hb hlt hts hown hnt hlocks hT (by rw [hml]; exact hl.1) (by decide +kernel) (by decide +kernel) zn_429 zn_430 zn_431 zx_0 hw (List.range 65) wX_all wX_nd hok zd_Text_refuse_8 zd_Text_refuse_11 zd_Text_refuse_12 zd_Text_refuse_15 (Nat.le_of_ble_eq_true rfl) (Nat.le_of_ble_eq_true rfl) (Nat.le_of_ble_eq_true rfl) (Nat.le_of_ble_eq_true rfl) (Nat.le_of_ble_eq_true rfl) (Nat.le_of_ble_eq_true rfl)
def wc_Text_ahead_24 (Post : Int32 → (Nat → Int32) → (Nat → Int64) → (Nat → Nat → Int32) → (Nat → Nat → Int64) → Prop) (y0 : Int32) (I : Nat → Int32) (J : Nat → Int64) (B : Nat → Nat → Int32) (D : Nat → Nat → Int64) : Prop :=
  (narrow .char (.int y0) = .int y0) ∧ Post y0 I J B D
def wp_Text_ahead (I : Nat → Int32) (J : Nat → Int64) (B : Nat → Nat → Int32) (D : Nat → Nat → Int64) (Post : Int32 → (Nat → Int32) → (Nat → Int64) → (Nat → Nat → Int32) → (Nat → Nat → Int64) → Prop) : Prop :=
  (((I 4) ≤ (I 5) → wc_Text_ahead_24  Post 0 I J B D) ∧ (¬ (I 4) ≤ (I 5) → vp_in (I 5) 240 ∧ ∀ z2 : Int32, z2 = ((B 1) (I 5).toNatClampNeg) → wc_Text_ahead_24  Post z2 I J B D))
set_option maxHeartbeats 8000000 in
set_option maxRecDepth 100000 in
theorem wJ_Text_ahead_24 {p : Program} {l : Launch} {e : Env} {s : State} {m : MethodId} {below : List Frame} {meth : Method} {c : Code} {A : Nat → Prop} (G : va_G) (K : Nat → ClassId) (ad : Nat → Nat) (sv : Value) (Post : Int32 → (Nat → Int32) → (Nat → Int64) → (Nat → Nat → Int32) → (Nat → Nat → Int64) → Prop) (C : zCx p s m ([.ref (ad 1)] : List Value).toArray meth c A G K prog_10_method_5_code (some .char) 1 "LassoFinder$Text") : ∀ (y0 : Int32) (I : Nat → Int32) (J : Nat → Int64) (B : Nat → Nat → Int32) (D : Nat → Nat → Int64) (ls : Array Slot) (H : Heap) (locs : List Loc), wc_Text_ahead_24  Post y0 I J B D → lv_has ls 1 [] → zW G A s.heap (wX ad K sv I J B D) H locs → W p l e { frames := 0, cells := 0, slots := 0, locals := 0 } s m ([.ref (ad 1)] : List Value).toArray below meth c H locs 0 0 (MQ below (va_Qi (fun (r : Int32) (u : zS) => Post r u.1 u.2.1 u.2.2.1 u.2.2.2) (fun u t => zPost G K A (wX ad K sv u.1 u.2.1 u.2.2.1 u.2.2.2) t) A) ([.ref (ad 1)] : List Value).toArray s 0 0 A) (F0 m 24 ls [.int y0]) := by
  obtain ⟨hx, hb, hr, hml, hts, hown, hlocks, hA, hK⟩ := id C
  intro y0 I J B D ls H locs hok hl hw
  unfold wc_Text_ahead_24 at hok
  have hch := hok.1
  have hok := hok.2
  exact (z_iret (u := (I, J, B, D)) hx hb hr hlocks hch hw (List.range 65) wX_all wX_nd hok (Nat.le_of_ble_eq_true rfl) (Nat.le_of_ble_eq_true rfl) zd_Text_ahead_24)
set_option maxHeartbeats 8000000 in
set_option maxRecDepth 100000 in
theorem w_Text_ahead (l : Launch) (G : va_G) (K : Nat → ClassId) (ad : Nat → Nat) (sv : Value) (I : Nat → Int32) (J : Nat → Int64) (B : Nat → Nat → Int32) (D : Nat → Nat → Int64) (Post : Int32 → (Nat → Int32) → (Nat → Int64) → (Nat → Nat → Int32) → (Nat → Nat → Int64) → Prop) (sz : Nat) (hok : wp_Text_ahead I J B D  Post) : Met l zy_Text_ahead (Cond.code zy_Text_ahead prog_10_method_5_code 1 (some .char) :: zTB) { frames := 0, cells := 0, slots := 0, locals := 0 } (va_Pc [.ref (ad 1)] (zPre G K (wX ad K sv I J B D) sz)) (va_Qi (fun (r : Int32) (u : zS) => Post r u.1 u.2.1 u.2.2.1 u.2.2.2) (fun u t => zPost G K (va_A (wX ad K sv I J B D) sz) (wX ad K sv u.1 u.2.1 u.2.2.1 u.2.2.2) t) (va_A (wX ad K sv I J B D) sz)) 0 0 (va_A (wX ad K sv I J B D) sz) := by
  refine zMet (y := zy_Text_ahead) (av := [.ref (ad 1)]) (maxL := 1) (cc := prog_10_method_5_code) (ret := (some .char)) (W0 := (wX ad K sv I J B D)) (sz := sz) (G := G) (K := K) (wt := zTB) (mc := 0) (ms := 0) (Qf := fun A => va_Qi (fun (r : Int32) (u : zS) => Post r u.1 u.2.1 u.2.2.1 u.2.2.2) (fun u t => zPost G K A (wX ad K sv u.1 u.2.1 u.2.2.1 u.2.2.2) t) A) (by decide) (Nat.le_of_ble_eq_true rfl) ?_
  intro p e s m below meth c ls A hx hb hr hml hts hown hlocks hin hA hK H locs hw hsz hl
  clear hsz
  have hown : s.vm.findClass "LassoFinder$Text" = some m.cls := hown
  have C : zCx p s m ([.ref (ad 1)] : List Value).toArray meth c A G K prog_10_method_5_code (some .char) 1 "LassoFinder$Text" := ⟨hx, hb, hr, hml, hts, hown, hlocks, hA, hK⟩
  have hl : lv_has ls 1 [(0, .ref (ad 1))] := hl
  have hw : zW G A s.heap (wX ad K sv I J B D) H locs := hw
  unfold wp_Text_ahead at hok
  refine lv_aload_n hx hb zd_Text_ahead_0 rfl (lv_at hl 0 rfl) ?_
  refine z_get (v := .int (I 5)) hx hb hts hown hK hw zZ9 1 wX_g1 3 (by decide) zn_417 rfl zd_Text_ahead_1 ?_
  refine lv_aload_n hx hb zd_Text_ahead_4 rfl (lv_at hl 0 rfl) ?_
  refine z_get (v := .int (I 4)) hx hb hts hown hK hw zZ9 1 wX_g1 2 (by decide) zn_416 rfl zd_Text_ahead_5 ?_
  refine lv_icmp_ge (tgt := 23) hx hb zd_Text_ahead_8 (by decide) (fun hc1 => ?_) (fun hc1 => ?_)
  · have hok := hok.1 hc1
    refine lv_iconst (v := 0) hx hb zd_Text_ahead_23 (by decide) ?_
    exact wJ_Text_ahead_24 G K ad sv  Post C 0 I J B D ls H locs hok (lv_sub hl [] rfl) hw
  · have hok := hok.2 hc1
    refine lv_aload_n hx hb zd_Text_ahead_11 rfl (lv_at hl 0 rfl) ?_
    refine z_get (v := .ref (ad 13)) hx hb hts hown hK hw zZ9 1 wX_g1 0 (by decide) zn_236 rfl zd_Text_ahead_12 ?_
    refine lv_aload_n hx hb zd_Text_ahead_15 rfl (lv_at hl 0 rfl) ?_
    refine z_get (v := .int (I 5)) hx hb hts hown hK hw zZ9 1 wX_g1 3 (by decide) zn_417 rfl zd_Text_ahead_16 ?_
    refine va_cald (f := (B 1)) hx hb hK hw.1 13 3 wX_a13 rfl hok.1 zd_Text_ahead_19 ?_
    have hok := hok.2
    refine lv_topi (fun z2 ez2 => ?_)
    have hok := hok z2 ez2
    refine lv_goto (tgt := 24) hx hb zd_Text_ahead_20 (by decide) ?_
    exact wJ_Text_ahead_24 G K ad sv  Post C z2 I J B D ls H locs hok (lv_sub hl [] rfl) hw
def wp_Text_accept (I : Nat → Int32) (J : Nat → Int64) (B : Nat → Nat → Int32) (D : Nat → Nat → Int64) (a0 : Int32) (Post : Int32 → (Nat → Int32) → (Nat → Int64) → (Nat → Nat → Int32) → (Nat → Nat → Int64) → Prop) : Prop :=
  wp_Text_ahead I J B D  (fun r1 I1 J1 B1 D1 => ((r1 = a0 → ∀ z3 : Int32, z3 = ((I1 5) + 1) → Post 1 (upd I1 5 z3) J1 B1 D1) ∧ (¬ r1 = a0 → Post 0 I1 J1 B1 D1)))
set_option maxHeartbeats 8000000 in
set_option maxRecDepth 100000 in
theorem w_Text_accept (l : Launch) (G : va_G) (K : Nat → ClassId) (ad : Nat → Nat) (sv : Value) (I : Nat → Int32) (J : Nat → Int64) (B : Nat → Nat → Int32) (D : Nat → Nat → Int64) (a0 : Int32) (Post : Int32 → (Nat → Int32) → (Nat → Int64) → (Nat → Nat → Int32) → (Nat → Nat → Int64) → Prop) (sz : Nat) (hok : wp_Text_accept I J B D a0 Post) : Met l zy_Text_accept (Cond.code zy_Text_accept prog_10_method_8_code 2 (some .boolean) :: zTB) { frames := 1, cells := 0, slots := 0, locals := 20 } (va_Pc [.ref (ad 1), .int a0] (zPre G K (wX ad K sv I J B D) sz)) (va_Qi (fun (r : Int32) (u : zS) => Post r u.1 u.2.1 u.2.2.1 u.2.2.2) (fun u t => zPost G K (va_A (wX ad K sv I J B D) sz) (wX ad K sv u.1 u.2.1 u.2.2.1 u.2.2.2) t) (va_A (wX ad K sv I J B D) sz)) 0 0 (va_A (wX ad K sv I J B D) sz) := by
  refine zMet (y := zy_Text_accept) (av := [.ref (ad 1), .int a0]) (maxL := 2) (cc := prog_10_method_8_code) (ret := (some .boolean)) (W0 := (wX ad K sv I J B D)) (sz := sz) (G := G) (K := K) (wt := zTB) (mc := 0) (ms := 0) (Qf := fun A => va_Qi (fun (r : Int32) (u : zS) => Post r u.1 u.2.1 u.2.2.1 u.2.2.2) (fun u t => zPost G K A (wX ad K sv u.1 u.2.1 u.2.2.1 u.2.2.2) t) A) (by decide) (Nat.le_of_ble_eq_true rfl) ?_
  intro p e s m below meth c ls A hx hb hr hml hts hown hlocks hin hA hK H locs hw hsz hl
  clear hsz
  have hown : s.vm.findClass "LassoFinder$Text" = some m.cls := hown
  have C : zCx p s m ([.ref (ad 1), .int a0] : List Value).toArray meth c A G K prog_10_method_8_code (some .boolean) 2 "LassoFinder$Text" := ⟨hx, hb, hr, hml, hts, hown, hlocks, hA, hK⟩
  have hl : lv_has ls 2 [(0, .ref (ad 1)), (1, .int a0)] := hl
  have hw : zW G A s.heap (wX ad K sv I J B D) H locs := hw
  unfold wp_Text_accept at hok
  refine lv_aload_n hx hb zd_Text_accept_0 rfl (lv_at hl 0 rfl) ?_
  refine z_calli (w1 := fun (u : zS) => wX ad K sv u.1 u.2.1 u.2.2.1 u.2.2.2) (wr := []) (z_runV (q0 := 1) (wc := (wX ad K sv I J B D)) (As := []) (rest := []) ⟨hx, hb, hml, hown, hts⟩ (w_Text_ahead l G K ad sv I J B D  _ H.size hok) zf_Text_ahead zn_333 ⟨Nat.le_of_ble_eq_true rfl, Nat.le_of_ble_eq_true rfl⟩ hK hw (List.range 65) wX_all wX_nd wX_g1 rfl rfl hl.1 rfl (Nat.le_of_ble_eq_true rfl) zd_Text_accept_1 ⟨Nat.le_of_ble_eq_true rfl, Nat.le_of_ble_eq_true rfl⟩) hw hA (List.range 65) [] wX_all rfl (by decide) (fun i hi => by cases hi) (fun r1 u H locs hok hw => ?_)
  obtain ⟨I1, J1, B1, D1⟩ := u
  dsimp only at hok
  have hw : zW G A s.heap (wX ad K sv I1 J1 B1 D1) H locs := hw
  refine lv_iload_n hx hb zd_Text_accept_4 rfl (lv_at hl 1 rfl) ?_
  refine lv_icmp_eq (tgt := 10) hx hb zd_Text_accept_5 (by decide) (fun hc2 => ?_) (fun hc2 => ?_)
  · have hok := hok.1 hc2
    refine lv_aload_n hx hb zd_Text_accept_10 rfl (lv_at hl 0 rfl) ?_
    refine lv_dup hx hb zd_Text_accept_11 rfl ?_
    refine z_get (v := .int (I1 5)) hx hb hts hown hK hw zZ9 1 wX_g1 3 (by decide) zn_417 rfl zd_Text_accept_12 ?_
    refine lv_iconst (v := 1) hx hb zd_Text_accept_15 (by decide) ?_
    refine lv_iadd hx hb zd_Text_accept_16 ?_
    refine lv_topi (fun z3 ez3 => ?_)
    have hok := hok z3 ez3
    refine z_put (v := .int z3) hx hb hts hown hK hw zZ9 1 wX_g1 3 (by decide) zn_417 rfl rfl rfl (Nat.le_of_ble_eq_true rfl) zd_Text_accept_17 (fun H locs hw => ?_)
    have hw := wX_sI5 hw
    refine lv_iconst (v := 1) hx hb zd_Text_accept_20 (by decide) ?_
    exact (z_iret (u := ((upd I1 5 z3), J1, B1, D1)) hx hb hr hlocks rfl hw (List.range 65) wX_all wX_nd hok (Nat.le_of_ble_eq_true rfl) (Nat.le_of_ble_eq_true rfl) zd_Text_accept_21)
  · have hok := hok.2 hc2
    refine lv_iconst (v := 0) hx hb zd_Text_accept_8 (by decide) ?_
    exact (z_iret (u := (I1, J1, B1, D1)) hx hb hr hlocks rfl hw (List.range 65) wX_all wX_nd hok (Nat.le_of_ble_eq_true rfl) (Nat.le_of_ble_eq_true rfl) zd_Text_accept_9)
def wc_Text_oneOf_42 (a0 : Int32) (Post : Int32 → (Nat → Int32) → (Nat → Int64) → (Nat → Nat → Int32) → (Nat → Nat → Int64) → Prop) (y0 : Int32) (I : Nat → Int32) (J : Nat → Int64) (B : Nat → Nat → Int32) (D : Nat → Nat → Int64) : Prop :=
  Post y0 I J B D
def wc_Text_oneOf_41 (a0 : Int32) (Post : Int32 → (Nat → Int32) → (Nat → Int64) → (Nat → Nat → Int32) → (Nat → Nat → Int64) → Prop)  (I : Nat → Int32) (J : Nat → Int64) (B : Nat → Nat → Int32) (D : Nat → Nat → Int64) : Prop :=
  wc_Text_oneOf_42 a0 Post (-1) I J B D
def wc_Text_oneOf_26 (a0 : Int32) (Post : Int32 → (Nat → Int32) → (Nat → Int64) → (Nat → Nat → Int32) → (Nat → Nat → Int64) → Prop) (y0 : Int32) (I : Nat → Int32) (J : Nat → Int64) (B : Nat → Nat → Int32) (D : Nat → Nat → Int64) : Prop :=
  ((y0 < 0 → wc_Text_oneOf_41 a0 Post I J B D) ∧ (¬ y0 < 0 → (((8 : Int32) ≤ y0 → wc_Text_oneOf_41 a0 Post I J B D) ∧ (¬ (8 : Int32) ≤ y0 → wc_Text_oneOf_42 a0 Post y0 I J B D))))
def wp_Text_oneOf (I : Nat → Int32) (J : Nat → Int64) (B : Nat → Nat → Int32) (D : Nat → Nat → Int64) (a0 : Int32) (Post : Int32 → (Nat → Int32) → (Nat → Int64) → (Nat → Nat → Int32) → (Nat → Nat → Int64) → Prop) : Prop :=
  (((I 4) ≤ (I 5) → wc_Text_oneOf_26 a0 Post (-1) I J B D) ∧ (¬ (I 4) ≤ (I 5) → vp_in (I 5) 240 ∧ ∀ z4 : Int32, z4 = ((B 1) (I 5).toNatClampNeg) → ∀ z5 : Int32, z5 = (z4 - a0) → wc_Text_oneOf_26 a0 Post z5 I J B D))
set_option maxHeartbeats 8000000 in
set_option maxRecDepth 100000 in
theorem wJ_Text_oneOf_42 {p : Program} {l : Launch} {e : Env} {s : State} {m : MethodId} {below : List Frame} {meth : Method} {c : Code} {A : Nat → Prop} (G : va_G) (K : Nat → ClassId) (ad : Nat → Nat) (sv : Value) (a0 : Int32) (Post : Int32 → (Nat → Int32) → (Nat → Int64) → (Nat → Nat → Int32) → (Nat → Nat → Int64) → Prop) (C : zCx p s m ([.ref (ad 1), .int a0] : List Value).toArray meth c A G K prog_10_method_6_code (some .int) 3 "LassoFinder$Text") : ∀ (y0 : Int32) (I : Nat → Int32) (J : Nat → Int64) (B : Nat → Nat → Int32) (D : Nat → Nat → Int64) (ls : Array Slot) (H : Heap) (locs : List Loc), wc_Text_oneOf_42 a0 Post y0 I J B D → lv_has ls 3 [] → zW G A s.heap (wX ad K sv I J B D) H locs → W p l e { frames := 0, cells := 0, slots := 0, locals := 0 } s m ([.ref (ad 1), .int a0] : List Value).toArray below meth c H locs 0 0 (MQ below (va_Qi (fun (r : Int32) (u : zS) => Post r u.1 u.2.1 u.2.2.1 u.2.2.2) (fun u t => zPost G K A (wX ad K sv u.1 u.2.1 u.2.2.1 u.2.2.2) t) A) ([.ref (ad 1), .int a0] : List Value).toArray s 0 0 A) (F0 m 42 ls [.int y0]) := by
  obtain ⟨hx, hb, hr, hml, hts, hown, hlocks, hA, hK⟩ := id C
  intro y0 I J B D ls H locs hok hl hw
  unfold wc_Text_oneOf_42 at hok
  exact (z_iret (u := (I, J, B, D)) hx hb hr hlocks rfl hw (List.range 65) wX_all wX_nd hok (Nat.le_of_ble_eq_true rfl) (Nat.le_of_ble_eq_true rfl) zd_Text_oneOf_42)
set_option maxHeartbeats 8000000 in
set_option maxRecDepth 100000 in
theorem wJ_Text_oneOf_41 {p : Program} {l : Launch} {e : Env} {s : State} {m : MethodId} {below : List Frame} {meth : Method} {c : Code} {A : Nat → Prop} (G : va_G) (K : Nat → ClassId) (ad : Nat → Nat) (sv : Value) (a0 : Int32) (Post : Int32 → (Nat → Int32) → (Nat → Int64) → (Nat → Nat → Int32) → (Nat → Nat → Int64) → Prop) (C : zCx p s m ([.ref (ad 1), .int a0] : List Value).toArray meth c A G K prog_10_method_6_code (some .int) 3 "LassoFinder$Text") : ∀  (I : Nat → Int32) (J : Nat → Int64) (B : Nat → Nat → Int32) (D : Nat → Nat → Int64) (ls : Array Slot) (H : Heap) (locs : List Loc), wc_Text_oneOf_41 a0 Post  I J B D → lv_has ls 3 [] → zW G A s.heap (wX ad K sv I J B D) H locs → W p l e { frames := 0, cells := 0, slots := 0, locals := 0 } s m ([.ref (ad 1), .int a0] : List Value).toArray below meth c H locs 0 0 (MQ below (va_Qi (fun (r : Int32) (u : zS) => Post r u.1 u.2.1 u.2.2.1 u.2.2.2) (fun u t => zPost G K A (wX ad K sv u.1 u.2.1 u.2.2.1 u.2.2.2) t) A) ([.ref (ad 1), .int a0] : List Value).toArray s 0 0 A) (F0 m 41 ls []) := by
  obtain ⟨hx, hb, hr, hml, hts, hown, hlocks, hA, hK⟩ := id C
  intro  I J B D ls H locs hok hl hw
  unfold wc_Text_oneOf_41 at hok
  refine lv_iconst (v := (-1)) hx hb zd_Text_oneOf_41 (by decide) ?_
  exact wJ_Text_oneOf_42 G K ad sv a0 Post C (-1) I J B D ls H locs hok (lv_sub hl [] rfl) hw
set_option maxHeartbeats 8000000 in
set_option maxRecDepth 100000 in
theorem wJ_Text_oneOf_26 {p : Program} {l : Launch} {e : Env} {s : State} {m : MethodId} {below : List Frame} {meth : Method} {c : Code} {A : Nat → Prop} (G : va_G) (K : Nat → ClassId) (ad : Nat → Nat) (sv : Value) (a0 : Int32) (Post : Int32 → (Nat → Int32) → (Nat → Int64) → (Nat → Nat → Int32) → (Nat → Nat → Int64) → Prop) (C : zCx p s m ([.ref (ad 1), .int a0] : List Value).toArray meth c A G K prog_10_method_6_code (some .int) 3 "LassoFinder$Text") : ∀ (y0 : Int32) (I : Nat → Int32) (J : Nat → Int64) (B : Nat → Nat → Int32) (D : Nat → Nat → Int64) (ls : Array Slot) (H : Heap) (locs : List Loc), wc_Text_oneOf_26 a0 Post y0 I J B D → lv_has ls 3 [] → zW G A s.heap (wX ad K sv I J B D) H locs → W p l e { frames := 0, cells := 0, slots := 0, locals := 0 } s m ([.ref (ad 1), .int a0] : List Value).toArray below meth c H locs 0 0 (MQ below (va_Qi (fun (r : Int32) (u : zS) => Post r u.1 u.2.1 u.2.2.1 u.2.2.2) (fun u t => zPost G K A (wX ad K sv u.1 u.2.1 u.2.2.1 u.2.2.2) t) A) ([.ref (ad 1), .int a0] : List Value).toArray s 0 0 A) (F0 m 26 ls [.int y0]) := by
  obtain ⟨hx, hb, hr, hml, hts, hown, hlocks, hA, hK⟩ := id C
  intro y0 I J B D ls H locs hok hl hw
  unfold wc_Text_oneOf_26 at hok
  refine lv_istore_n hx hb zd_Text_oneOf_26 rfl hl (by decide) rfl (fun ls hl => ?_)
  have hl : lv_has ls 3 [(2, .int y0)] := hl
  refine lv_iload_n hx hb zd_Text_oneOf_27 rfl (lv_at hl 0 rfl) ?_
  refine lv_if_lt (tgt := 41) hx hb zd_Text_oneOf_28 (by decide) (fun hc1 => ?_) (fun hc1 => ?_)
  · have hok := hok.1 hc1
    exact wJ_Text_oneOf_41 G K ad sv a0 Post C I J B D ls H locs hok (lv_sub hl [] rfl) hw
  · have hok := hok.2 hc1
    refine lv_iload_n hx hb zd_Text_oneOf_31 rfl (lv_at hl 0 rfl) ?_
    refine lv_bipush (v := 8) hx hb zd_Text_oneOf_32 (by decide) ?_
    refine lv_icmp_ge (tgt := 41) hx hb zd_Text_oneOf_34 (by decide) (fun hc2 => ?_) (fun hc2 => ?_)
    · have hok := hok.1 hc2
      exact wJ_Text_oneOf_41 G K ad sv a0 Post C I J B D ls H locs hok (lv_sub hl [] rfl) hw
    · have hok := hok.2 hc2
      refine lv_iload_n hx hb zd_Text_oneOf_37 rfl (lv_at hl 0 rfl) ?_
      refine lv_goto (tgt := 42) hx hb zd_Text_oneOf_38 (by decide) ?_
      exact wJ_Text_oneOf_42 G K ad sv a0 Post C y0 I J B D ls H locs hok (lv_sub hl [] rfl) hw
set_option maxHeartbeats 8000000 in
set_option maxRecDepth 100000 in
theorem w_Text_oneOf (l : Launch) (G : va_G) (K : Nat → ClassId) (ad : Nat → Nat) (sv : Value) (I : Nat → Int32) (J : Nat → Int64) (B : Nat → Nat → Int32) (D : Nat → Nat → Int64) (a0 : Int32) (Post : Int32 → (Nat → Int32) → (Nat → Int64) → (Nat → Nat → Int32) → (Nat → Nat → Int64) → Prop) (sz : Nat) (hok : wp_Text_oneOf I J B D a0 Post) : Met l zy_Text_oneOf (Cond.code zy_Text_oneOf prog_10_method_6_code 3 (some .int) :: zTB) { frames := 0, cells := 0, slots := 0, locals := 0 } (va_Pc [.ref (ad 1), .int a0] (zPre G K (wX ad K sv I J B D) sz)) (va_Qi (fun (r : Int32) (u : zS) => Post r u.1 u.2.1 u.2.2.1 u.2.2.2) (fun u t => zPost G K (va_A (wX ad K sv I J B D) sz) (wX ad K sv u.1 u.2.1 u.2.2.1 u.2.2.2) t) (va_A (wX ad K sv I J B D) sz)) 0 0 (va_A (wX ad K sv I J B D) sz) := by
  refine zMet (y := zy_Text_oneOf) (av := [.ref (ad 1), .int a0]) (maxL := 3) (cc := prog_10_method_6_code) (ret := (some .int)) (W0 := (wX ad K sv I J B D)) (sz := sz) (G := G) (K := K) (wt := zTB) (mc := 0) (ms := 0) (Qf := fun A => va_Qi (fun (r : Int32) (u : zS) => Post r u.1 u.2.1 u.2.2.1 u.2.2.2) (fun u t => zPost G K A (wX ad K sv u.1 u.2.1 u.2.2.1 u.2.2.2) t) A) (by decide) (Nat.le_of_ble_eq_true rfl) ?_
  intro p e s m below meth c ls A hx hb hr hml hts hown hlocks hin hA hK H locs hw hsz hl
  clear hsz
  have hown : s.vm.findClass "LassoFinder$Text" = some m.cls := hown
  have C : zCx p s m ([.ref (ad 1), .int a0] : List Value).toArray meth c A G K prog_10_method_6_code (some .int) 3 "LassoFinder$Text" := ⟨hx, hb, hr, hml, hts, hown, hlocks, hA, hK⟩
  have hl : lv_has ls 3 [(0, .ref (ad 1)), (1, .int a0)] := hl
  have hw : zW G A s.heap (wX ad K sv I J B D) H locs := hw
  unfold wp_Text_oneOf at hok
  refine lv_aload_n hx hb zd_Text_oneOf_0 rfl (lv_at hl 0 rfl) ?_
  refine z_get (v := .int (I 5)) hx hb hts hown hK hw zZ9 1 wX_g1 3 (by decide) zn_417 rfl zd_Text_oneOf_1 ?_
  refine lv_aload_n hx hb zd_Text_oneOf_4 rfl (lv_at hl 0 rfl) ?_
  refine z_get (v := .int (I 4)) hx hb hts hown hK hw zZ9 1 wX_g1 2 (by decide) zn_416 rfl zd_Text_oneOf_5 ?_
  refine lv_icmp_ge (tgt := 25) hx hb zd_Text_oneOf_8 (by decide) (fun hc3 => ?_) (fun hc3 => ?_)
  · have hok := hok.1 hc3
    refine lv_iconst (v := (-1)) hx hb zd_Text_oneOf_25 (by decide) ?_
    exact wJ_Text_oneOf_26 G K ad sv a0 Post C (-1) I J B D ls H locs hok (lv_sub hl [] rfl) hw
  · have hok := hok.2 hc3
    refine lv_aload_n hx hb zd_Text_oneOf_11 rfl (lv_at hl 0 rfl) ?_
    refine z_get (v := .ref (ad 13)) hx hb hts hown hK hw zZ9 1 wX_g1 0 (by decide) zn_236 rfl zd_Text_oneOf_12 ?_
    refine lv_aload_n hx hb zd_Text_oneOf_15 rfl (lv_at hl 0 rfl) ?_
    refine z_get (v := .int (I 5)) hx hb hts hown hK hw zZ9 1 wX_g1 3 (by decide) zn_417 rfl zd_Text_oneOf_16 ?_
    refine va_cald (f := (B 1)) hx hb hK hw.1 13 3 wX_a13 rfl hok.1 zd_Text_oneOf_19 ?_
    have hok := hok.2
    refine lv_topi (fun z4 ez4 => ?_)
    have hok := hok z4 ez4
    refine lv_iload_n hx hb zd_Text_oneOf_20 rfl (lv_at hl 1 rfl) ?_
    refine lv_isub hx hb zd_Text_oneOf_21 ?_
    refine lv_topi (fun z5 ez5 => ?_)
    have hok := hok z5 ez5
    refine lv_goto (tgt := 26) hx hb zd_Text_oneOf_22 (by decide) ?_
    exact wJ_Text_oneOf_26 G K ad sv a0 Post C z5 I J B D ls H locs hok (lv_sub hl [] rfl) hw
def wc_ModelReader_readLabels_86 (Post : (Nat → Int32) → (Nat → Int64) → (Nat → Nat → Int32) → (Nat → Nat → Int64) → Prop) (PX : String → (Nat → Int32) → (Nat → Int64) → (Nat → Nat → Int32) → (Nat → Nat → Int64) → Prop)  (I : Nat → Int32) (J : Nat → Int64) (B : Nat → Nat → Int32) (D : Nat → Nat → Int64) : Prop :=
  Post I J B D
def wc_ModelReader_readLabels_57 (K2 : Int32 → (Nat → Int32) → (Nat → Int64) → (Nat → Nat → Int32) → (Nat → Nat → Int64) → Prop) (Post : (Nat → Int32) → (Nat → Int64) → (Nat → Nat → Int32) → (Nat → Nat → Int64) → Prop) (PX : String → (Nat → Int32) → (Nat → Int64) → (Nat → Nat → Int32) → (Nat → Nat → Int64) → Prop) (x1 : Int32) (x2 : Int32) (I : Nat → Int32) (J : Nat → Int64) (B : Nat → Nat → Int32) (D : Nat → Nat → Int64) : Prop :=
  wp_Text_skip I J B D  (fun I1 J1 B1 D1 => vp_in x2 8 ∧ ∀ z2 : Int32, z2 = (x1 + 1) → K2 z2 I1 J1 (va_up B1 28 (upd (B1 28) x2.toNatClampNeg (I1 16))) D1)
def wc_ModelReader_readLabels_50 (K2 : Int32 → (Nat → Int32) → (Nat → Int64) → (Nat → Nat → Int32) → (Nat → Nat → Int64) → Prop) (Post : (Nat → Int32) → (Nat → Int64) → (Nat → Nat → Int32) → (Nat → Nat → Int64) → Prop) (PX : String → (Nat → Int32) → (Nat → Int64) → (Nat → Nat → Int32) → (Nat → Nat → Int64) → Prop) (x1 : Int32) (x2 : Int32) (I : Nat → Int32) (J : Nat → Int64) (B : Nat → Nat → Int32) (D : Nat → Nat → Int64) : Prop :=
  wp_Text_refuse I J B D  (fun I3 J3 B3 D3 => wc_ModelReader_readLabels_57  K2 Post PX x1 x2 I3 J3 B3 D3) PX
def wb_ModelReader_readLabels_2 (K2 : Int32 → (Nat → Int32) → (Nat → Int64) → (Nat → Nat → Int32) → (Nat → Nat → Int64) → Prop) (Post : (Nat → Int32) → (Nat → Int64) → (Nat → Nat → Int32) → (Nat → Nat → Int64) → Prop) (PX : String → (Nat → Int32) → (Nat → Int64) → (Nat → Nat → Int32) → (Nat → Nat → Int64) → Prop) (x1 : Int32) (I : Nat → Int32) (J : Nat → Int64) (B : Nat → Nat → Int32) (D : Nat → Nat → Int64) : Prop :=
  (((240 : Int32) ≤ x1 → wc_ModelReader_readLabels_86  Post PX I J B D) ∧ (¬ (240 : Int32) ≤ x1 → wp_Text_accept I J B D 58 (fun r5 I5 J5 B5 D5 => ((r5 = 0 → wc_ModelReader_readLabels_86  Post PX I5 J5 B5 D5) ∧ (¬ r5 = 0 → wp_Text_oneOf I5 J5 B5 D5 65 (fun r7 I7 J7 B7 D7 => ((r7 = (-1) → wc_ModelReader_readLabels_50  K2 Post PX x1 r7 I7 J7 B7 D7) ∧ (¬ r7 = (-1) → vp_in r7 8 ∧ ∀ z9 : Int32, z9 = ((B7 28) r7.toNatClampNeg) → ((z9 = (-3) → wc_ModelReader_readLabels_57  K2 Post PX x1 r7 I7 J7 B7 D7) ∧ (¬ z9 = (-3) → wc_ModelReader_readLabels_50  K2 Post PX x1 r7 I7 J7 B7 D7))))))))))
def wl_ModelReader_readLabels_2 (Post : (Nat → Int32) → (Nat → Int64) → (Nat → Nat → Int32) → (Nat → Nat → Int64) → Prop) (PX : String → (Nat → Int32) → (Nat → Int64) → (Nat → Nat → Int32) → (Nat → Nat → Int64) → Prop) (n : Nat) : Int32 → (Nat → Int32) → (Nat → Int64) → (Nat → Nat → Int32) → (Nat → Nat → Int64) → Prop := Nat.rec (fun _ _ _ _ _ => False) (fun _ r => wb_ModelReader_readLabels_2  r Post PX) n
def wp_ModelReader_readLabels (I : Nat → Int32) (J : Nat → Int64) (B : Nat → Nat → Int32) (D : Nat → Nat → Int64) (Post : (Nat → Int32) → (Nat → Int64) → (Nat → Nat → Int32) → (Nat → Nat → Int64) → Prop) (PX : String → (Nat → Int32) → (Nat → Int64) → (Nat → Nat → Int32) → (Nat → Nat → Int64) → Prop) : Prop :=
  ∃ n : Nat, wl_ModelReader_readLabels_2  Post PX n 0 I J B D
set_option maxHeartbeats 8000000 in
set_option maxRecDepth 100000 in
theorem wJ_ModelReader_readLabels_86 {p : Program} {l : Launch} {e : Env} {s : State} {m : MethodId} {below : List Frame} {meth : Method} {c : Code} {A : Nat → Prop} (G : va_G) (K : Nat → ClassId) (ad : Nat → Nat) (sv : Value) (Post : (Nat → Int32) → (Nat → Int64) → (Nat → Nat → Int32) → (Nat → Nat → Int64) → Prop) (PX : String → (Nat → Int32) → (Nat → Int64) → (Nat → Nat → Int32) → (Nat → Nat → Int64) → Prop) (C : zCy p l s m ([.ref (ad 5)] : List Value).toArray meth c A G K prog_5_method_7_code none 3 "LassoFinder$ModelReader") : ∀  (I : Nat → Int32) (J : Nat → Int64) (B : Nat → Nat → Int32) (D : Nat → Nat → Int64) (ls : Array Slot) (H : Heap) (locs : List Loc), wc_ModelReader_readLabels_86  Post PX  I J B D → lv_has ls 3 [] → zW G A s.heap (wX ad K sv I J B D) H locs → W p l e { frames := 7, cells := 1, slots := 6, locals := 101 } s m ([.ref (ad 5)] : List Value).toArray below meth c H locs 0 0 (zyMQ below (va_Qv (fun u : zS => Post u.1 u.2.1 u.2.2.1 u.2.2.2) (fun u t => zPost G K A (wX ad K sv u.1 u.2.1 u.2.2.1 u.2.2.2) t) A) (zYC (fun E (u : zS) => PX E u.1 u.2.1 u.2.2.1 u.2.2.2) (fun u => wX ad K sv u.1 u.2.1 u.2.2.1 u.2.2.2) G K A) ([.ref (ad 5)] : List Value).toArray s 1 6 A) (F0 m 86 ls []) := by
  obtain ⟨hx, hb, hr, hml, hts, hown, hlocks, hA, hK, hT, hnt, hlt⟩ := id C
  intro  I J B D ls H locs hok hl hw
  unfold wc_ModelReader_readLabels_86 at hok
  exact zy_ret (z_vret (u := (I, J, B, D)) hx hb hr hlocks hw (List.range 65) wX_all wX_nd hok (Nat.le_of_ble_eq_true rfl) (Nat.le_of_ble_eq_true rfl) zd_ModelReader_readLabels_86)
set_option maxHeartbeats 8000000 in
set_option maxRecDepth 100000 in
theorem wJ_ModelReader_readLabels_57 {p : Program} {l : Launch} {e : Env} {s : State} {m : MethodId} {below : List Frame} {meth : Method} {c : Code} {A : Nat → Prop} (G : va_G) (K : Nat → ClassId) (ad : Nat → Nat) (sv : Value) (Post : (Nat → Int32) → (Nat → Int64) → (Nat → Nat → Int32) → (Nat → Nat → Int64) → Prop) (PX : String → (Nat → Int32) → (Nat → Int64) → (Nat → Nat → Int32) → (Nat → Nat → Int64) → Prop) (C : zCy p l s m ([.ref (ad 5)] : List Value).toArray meth c A G K prog_5_method_7_code none 3 "LassoFinder$ModelReader") (K2 : Int32 → (Nat → Int32) → (Nat → Int64) → (Nat → Nat → Int32) → (Nat → Nat → Int64) → Prop) (kh2 : ∀ (x1 : Int32) (I : Nat → Int32) (J : Nat → Int64) (B : Nat → Nat → Int32) (D : Nat → Nat → Int64) (ls : Array Slot) (H : Heap) (locs : List Loc), K2 x1 I J B D → lv_has ls 3 [(0, .ref (ad 5)), (1, .int x1)] → zW G A s.heap (wX ad K sv I J B D) H locs → W p l e { frames := 7, cells := 1, slots := 6, locals := 101 } s m ([.ref (ad 5)] : List Value).toArray below meth c H locs 0 0 (zyMQ below (va_Qv (fun u : zS => Post u.1 u.2.1 u.2.2.1 u.2.2.2) (fun u t => zPost G K A (wX ad K sv u.1 u.2.1 u.2.2.1 u.2.2.2) t) A) (zYC (fun E (u : zS) => PX E u.1 u.2.1 u.2.2.1 u.2.2.2) (fun u => wX ad K sv u.1 u.2.1 u.2.2.1 u.2.2.2) G K A) ([.ref (ad 5)] : List Value).toArray s 1 6 A) (F0 m 2 ls [])) : ∀ (x1 : Int32) (x2 : Int32) (I : Nat → Int32) (J : Nat → Int64) (B : Nat → Nat → Int32) (D : Nat → Nat → Int64) (ls : Array Slot) (H : Heap) (locs : List Loc), wc_ModelReader_readLabels_57  K2 Post PX x1 x2 I J B D → lv_has ls 3 [(0, .ref (ad 5)), (1, .int x1), (2, .int x2)] → zW G A s.heap (wX ad K sv I J B D) H locs → W p l e { frames := 7, cells := 1, slots := 6, locals := 101 } s m ([.ref (ad 5)] : List Value).toArray below meth c H locs 0 0 (zyMQ below (va_Qv (fun u : zS => Post u.1 u.2.1 u.2.2.1 u.2.2.2) (fun u t => zPost G K A (wX ad K sv u.1 u.2.1 u.2.2.1 u.2.2.2) t) A) (zYC (fun E (u : zS) => PX E u.1 u.2.1 u.2.2.1 u.2.2.2) (fun u => wX ad K sv u.1 u.2.1 u.2.2.1 u.2.2.2) G K A) ([.ref (ad 5)] : List Value).toArray s 1 6 A) (F0 m 57 ls []) := by
  obtain ⟨hx, hb, hr, hml, hts, hown, hlocks, hA, hK, hT, hnt, hlt⟩ := id C
  intro x1 x2 I J B D ls H locs hok hl hw
  unfold wc_ModelReader_readLabels_57 at hok
  refine lv_aload_n hx hb zd_ModelReader_readLabels_57 rfl (lv_at hl 0 rfl) ?_
  refine z_get (v := .ref (ad 1)) hx hb hts hown hK hw zZ4 5 wX_g5 0 (by decide) zn_422 rfl zd_ModelReader_readLabels_58 ?_
  refine z_callv (w1 := fun (u : zS) => wX ad K sv u.1 u.2.1 u.2.2.1 u.2.2.2) (wr := []) (z_runV (q0 := 1) (wc := (wX ad K sv I J B D)) (As := []) (rest := []) ⟨hx, hb, hml, hown, hts⟩ (w_Text_skip l G K ad sv I J B D  _ H.size hok) zf_Text_skip zn_338 ⟨Nat.le_of_ble_eq_true rfl, Nat.le_of_ble_eq_true rfl⟩ hK hw (List.range 65) wX_all wX_nd wX_g1 rfl rfl hl.1 rfl (Nat.le_of_ble_eq_true rfl) zd_ModelReader_readLabels_61 ⟨Nat.le_of_ble_eq_true rfl, Nat.le_of_ble_eq_true rfl⟩) hw hA (List.range 65) [] wX_all rfl (by decide) (fun i hi => by cases hi) (fun u H locs hok hw => ?_)
  obtain ⟨I1, J1, B1, D1⟩ := u
  dsimp only at hok
  have hw : zW G A s.heap (wX ad K sv I1 J1 B1 D1) H locs := hw
  refine lv_aload_n hx hb zd_ModelReader_readLabels_64 rfl (lv_at hl 0 rfl) ?_
  refine z_get (v := .ref (ad 6)) hx hb hts hown hK hw zZ4 5 wX_g5 4 (by decide) zn_424 rfl zd_ModelReader_readLabels_65 ?_
  refine z_get (v := .ref (ad 42)) hx hb hts hown hK hw zZ10 6 wX_g6 10 (by decide) zn_427 rfl zd_ModelReader_readLabels_68 ?_
  refine lv_iload_n hx hb zd_ModelReader_readLabels_71 rfl (lv_at hl 2 rfl) ?_
  refine lv_aload_n hx hb zd_ModelReader_readLabels_72 rfl (lv_at hl 0 rfl) ?_
  refine z_get (v := .ref (ad 6)) hx hb hts hown hK hw zZ4 5 wX_g5 4 (by decide) zn_424 rfl zd_ModelReader_readLabels_73 ?_
  refine z_get (v := .int (I1 16)) hx hb hts hown hK hw zZ10 6 wX_g6 11 (by decide) zn_428 rfl zd_ModelReader_readLabels_76 ?_
  refine va_iast (f := (B1 28)) hx hb hK hw.1 hw.2.1 hw.2.2 42 0 wX_a42 rfl hok.1 zd_ModelReader_readLabels_79 (fun H locs w91 w92 w93 => ?_)
  have hok := hok.2
  have hw := wX_t42 ⟨w91, w92, w93⟩
  obtain ⟨z2, ez2⟩ : ∃ z : Int32, z = (x1 + 1) := ⟨_, rfl⟩
  have hok := hok z2 ez2
  refine lv_iinc (v := z2) hx hb zd_ModelReader_readLabels_80 hl (k := 1) rfl ez2.symm (by decide) rfl (fun ls hl => ?_)
  have hl : lv_has ls 3 [(1, .int z2), (0, .ref (ad 5)), (2, .int x2)] := hl
  refine lv_goto (tgt := 2) hx hb zd_ModelReader_readLabels_83 (by decide) ?_
  exact kh2 z2 I1 J1 (va_up B1 28 (upd (B1 28) x2.toNatClampNeg (I1 16))) D1 ls H locs hok (lv_sub hl [1, 0] rfl) hw
set_option maxHeartbeats 8000000 in
set_option maxRecDepth 100000 in
theorem wJ_ModelReader_readLabels_50 {p : Program} {l : Launch} {e : Env} {s : State} {m : MethodId} {below : List Frame} {meth : Method} {c : Code} {A : Nat → Prop} (G : va_G) (K : Nat → ClassId) (ad : Nat → Nat) (sv : Value) (Post : (Nat → Int32) → (Nat → Int64) → (Nat → Nat → Int32) → (Nat → Nat → Int64) → Prop) (PX : String → (Nat → Int32) → (Nat → Int64) → (Nat → Nat → Int32) → (Nat → Nat → Int64) → Prop) (C : zCy p l s m ([.ref (ad 5)] : List Value).toArray meth c A G K prog_5_method_7_code none 3 "LassoFinder$ModelReader") (K2 : Int32 → (Nat → Int32) → (Nat → Int64) → (Nat → Nat → Int32) → (Nat → Nat → Int64) → Prop) (kh2 : ∀ (x1 : Int32) (I : Nat → Int32) (J : Nat → Int64) (B : Nat → Nat → Int32) (D : Nat → Nat → Int64) (ls : Array Slot) (H : Heap) (locs : List Loc), K2 x1 I J B D → lv_has ls 3 [(0, .ref (ad 5)), (1, .int x1)] → zW G A s.heap (wX ad K sv I J B D) H locs → W p l e { frames := 7, cells := 1, slots := 6, locals := 101 } s m ([.ref (ad 5)] : List Value).toArray below meth c H locs 0 0 (zyMQ below (va_Qv (fun u : zS => Post u.1 u.2.1 u.2.2.1 u.2.2.2) (fun u t => zPost G K A (wX ad K sv u.1 u.2.1 u.2.2.1 u.2.2.2) t) A) (zYC (fun E (u : zS) => PX E u.1 u.2.1 u.2.2.1 u.2.2.2) (fun u => wX ad K sv u.1 u.2.1 u.2.2.1 u.2.2.2) G K A) ([.ref (ad 5)] : List Value).toArray s 1 6 A) (F0 m 2 ls [])) : ∀ (x1 : Int32) (x2 : Int32) (I : Nat → Int32) (J : Nat → Int64) (B : Nat → Nat → Int32) (D : Nat → Nat → Int64) (ls : Array Slot) (H : Heap) (locs : List Loc), wc_ModelReader_readLabels_50  K2 Post PX x1 x2 I J B D → lv_has ls 3 [(0, .ref (ad 5)), (1, .int x1), (2, .int x2)] → zW G A s.heap (wX ad K sv I J B D) H locs → W p l e { frames := 7, cells := 1, slots := 6, locals := 101 } s m ([.ref (ad 5)] : List Value).toArray below meth c H locs 0 0 (zyMQ below (va_Qv (fun u : zS => Post u.1 u.2.1 u.2.2.1 u.2.2.2) (fun u t => zPost G K A (wX ad K sv u.1 u.2.1 u.2.2.1 u.2.2.2) t) A) (zYC (fun E (u : zS) => PX E u.1 u.2.1 u.2.2.1 u.2.2.2) (fun u => wX ad K sv u.1 u.2.1 u.2.2.1 u.2.2.2) G K A) ([.ref (ad 5)] : List Value).toArray s 1 6 A) (F0 m 50 ls []) := by
  obtain ⟨hx, hb, hr, hml, hts, hown, hlocks, hA, hK, hT, hnt, hlt⟩ := id C
  intro x1 x2 I J B D ls H locs hok hl hw
  unfold wc_ModelReader_readLabels_50 at hok
  refine lv_aload_n hx hb zd_ModelReader_readLabels_50 rfl (lv_at hl 0 rfl) ?_
  refine z_get (v := .ref (ad 1)) hx hb hts hown hK hw zZ4 5 wX_g5 0 (by decide) zn_422 rfl zd_ModelReader_readLabels_51 ?_
  refine z_yV (q0 := 1) (wc := (wX ad K sv I J B D)) (wr := []) (w1 := fun (u : zS) => wX ad K sv u.1 u.2.1 u.2.2.1 u.2.2.2) (As := []) (rest := []) ⟨hx, hb, hml, hown, hts⟩ (w_Text_refuse l hlt G K ad sv I J B D  _ _ H.size hok) zf_Text_refuse zn_336 ⟨Nat.le_of_ble_eq_true rfl, Nat.le_of_ble_eq_true rfl⟩ hK hT hw hA (List.range 65) [] wX_all rfl wX_nd (by decide) (fun i hi => by cases hi) wX_g1 rfl rfl hl.1 rfl (Nat.le_of_ble_eq_true rfl) zd_ModelReader_readLabels_54 ⟨Nat.le_of_ble_eq_true rfl, Nat.le_of_ble_eq_true rfl⟩ (fun v st9 t9 L9 h0 hq hL => ?_) (fun E ce q9 u H locs hu hw hce hcv hcl => z_yout (u := u) hnt hlocks hce hcv hcl hw (List.range 65) wX_all wX_nd hu (Nat.le_of_ble_eq_true rfl) (Nat.le_of_ble_eq_true rfl))
  obtain ⟨⟨u, hv9, hok, hB9⟩, hF9⟩ := hq
  cases hv9
  have hw := z_back (wr := []) hw hA (List.range 65) [] wX_all rfl (by decide) (fun i hi => by cases hi) h0 hL hB9 hF9
  obtain ⟨I3, J3, B3, D3⟩ := u
  dsimp only at hok
  generalize t9.heap = H at hw ⊢
  generalize locs ++ L9 = locs at hw ⊢
  have hw : zW G A s.heap (wX ad K sv I3 J3 B3 D3) H locs := hw
  refine W.eq (g2 := F0 m 57 ls []) rfl ?_
  exact wJ_ModelReader_readLabels_57 G K ad sv  Post PX C K2 kh2 x1 x2 I3 J3 B3 D3 ls H locs hok (lv_sub hl [0, 1, 2] rfl) hw
set_option maxHeartbeats 8000000 in
set_option maxRecDepth 100000 in
theorem wB_ModelReader_readLabels_2 {p : Program} {l : Launch} {e : Env} {s : State} {m : MethodId} {below : List Frame} {meth : Method} {c : Code} {A : Nat → Prop} (G : va_G) (K : Nat → ClassId) (ad : Nat → Nat) (sv : Value) (Post : (Nat → Int32) → (Nat → Int64) → (Nat → Nat → Int32) → (Nat → Nat → Int64) → Prop) (PX : String → (Nat → Int32) → (Nat → Int64) → (Nat → Nat → Int32) → (Nat → Nat → Int64) → Prop) (C : zCy p l s m ([.ref (ad 5)] : List Value).toArray meth c A G K prog_5_method_7_code none 3 "LassoFinder$ModelReader") (K2 : Int32 → (Nat → Int32) → (Nat → Int64) → (Nat → Nat → Int32) → (Nat → Nat → Int64) → Prop) (kh2 : ∀ (x1 : Int32) (I : Nat → Int32) (J : Nat → Int64) (B : Nat → Nat → Int32) (D : Nat → Nat → Int64) (ls : Array Slot) (H : Heap) (locs : List Loc), K2 x1 I J B D → lv_has ls 3 [(0, .ref (ad 5)), (1, .int x1)] → zW G A s.heap (wX ad K sv I J B D) H locs → W p l e { frames := 7, cells := 1, slots := 6, locals := 101 } s m ([.ref (ad 5)] : List Value).toArray below meth c H locs 0 0 (zyMQ below (va_Qv (fun u : zS => Post u.1 u.2.1 u.2.2.1 u.2.2.2) (fun u t => zPost G K A (wX ad K sv u.1 u.2.1 u.2.2.1 u.2.2.2) t) A) (zYC (fun E (u : zS) => PX E u.1 u.2.1 u.2.2.1 u.2.2.2) (fun u => wX ad K sv u.1 u.2.1 u.2.2.1 u.2.2.2) G K A) ([.ref (ad 5)] : List Value).toArray s 1 6 A) (F0 m 2 ls [])) : ∀ (x1 : Int32) (I : Nat → Int32) (J : Nat → Int64) (B : Nat → Nat → Int32) (D : Nat → Nat → Int64) (ls : Array Slot) (H : Heap) (locs : List Loc), wb_ModelReader_readLabels_2  K2 Post PX x1 I J B D → lv_has ls 3 [(0, .ref (ad 5)), (1, .int x1)] → zW G A s.heap (wX ad K sv I J B D) H locs → W p l e { frames := 7, cells := 1, slots := 6, locals := 101 } s m ([.ref (ad 5)] : List Value).toArray below meth c H locs 0 0 (zyMQ below (va_Qv (fun u : zS => Post u.1 u.2.1 u.2.2.1 u.2.2.2) (fun u t => zPost G K A (wX ad K sv u.1 u.2.1 u.2.2.1 u.2.2.2) t) A) (zYC (fun E (u : zS) => PX E u.1 u.2.1 u.2.2.1 u.2.2.2) (fun u => wX ad K sv u.1 u.2.1 u.2.2.1 u.2.2.2) G K A) ([.ref (ad 5)] : List Value).toArray s 1 6 A) (F0 m 2 ls []) := by
  obtain ⟨hx, hb, hr, hml, hts, hown, hlocks, hA, hK, hT, hnt, hlt⟩ := id C
  intro x1 I J B D ls H locs hok hl hw
  unfold wb_ModelReader_readLabels_2 at hok
  refine lv_iload_n hx hb zd_ModelReader_readLabels_2 rfl (lv_at hl 1 rfl) ?_
  refine lv_sipush (v := 240) hx hb zd_ModelReader_readLabels_3 (by decide) ?_
  refine lv_icmp_ge (tgt := 86) hx hb zd_ModelReader_readLabels_6 (by decide) (fun hc4 => ?_) (fun hc4 => ?_)
  · have hok := hok.1 hc4
    exact wJ_ModelReader_readLabels_86 G K ad sv  Post PX C I J B D ls H locs hok (lv_sub hl [] rfl) hw
  · have hok := hok.2 hc4
    refine lv_aload_n hx hb zd_ModelReader_readLabels_9 rfl (lv_at hl 0 rfl) ?_
    refine z_get (v := .ref (ad 1)) hx hb hts hown hK hw zZ4 5 wX_g5 0 (by decide) zn_422 rfl zd_ModelReader_readLabels_10 ?_
    refine lv_bipush (v := 58) hx hb zd_ModelReader_readLabels_13 (by decide) ?_
    refine z_calli (w1 := fun (u : zS) => wX ad K sv u.1 u.2.1 u.2.2.1 u.2.2.2) (wr := []) (z_runV (q0 := 1) (wc := (wX ad K sv I J B D)) (As := [.int 58]) (rest := []) ⟨hx, hb, hml, hown, hts⟩ (w_Text_accept l G K ad sv I J B D 58 _ H.size hok) zf_Text_accept zn_332 ⟨Nat.le_of_ble_eq_true rfl, Nat.le_of_ble_eq_true rfl⟩ hK hw (List.range 65) wX_all wX_nd wX_g1 rfl rfl hl.1 rfl (Nat.le_of_ble_eq_true rfl) zd_ModelReader_readLabels_15 ⟨Nat.le_of_ble_eq_true rfl, Nat.le_of_ble_eq_true rfl⟩) hw hA (List.range 65) [] wX_all rfl (by decide) (fun i hi => by cases hi) (fun r5 u H locs hok hw => ?_)
    obtain ⟨I5, J5, B5, D5⟩ := u
    dsimp only at hok
    have hw : zW G A s.heap (wX ad K sv I5 J5 B5 D5) H locs := hw
    refine lv_if_eq (tgt := 86) hx hb zd_ModelReader_readLabels_18 (by decide) (fun hc6 => ?_) (fun hc6 => ?_)
    · have hok := hok.1 hc6
      exact wJ_ModelReader_readLabels_86 G K ad sv  Post PX C I5 J5 B5 D5 ls H locs hok (lv_sub hl [] rfl) hw
    · have hok := hok.2 hc6
      refine lv_aload_n hx hb zd_ModelReader_readLabels_21 rfl (lv_at hl 0 rfl) ?_
      refine z_get (v := .ref (ad 1)) hx hb hts hown hK hw zZ4 5 wX_g5 0 (by decide) zn_422 rfl zd_ModelReader_readLabels_22 ?_
      refine lv_bipush (v := 65) hx hb zd_ModelReader_readLabels_25 (by decide) ?_
      refine z_calli (w1 := fun (u : zS) => wX ad K sv u.1 u.2.1 u.2.2.1 u.2.2.2) (wr := []) (z_runV (q0 := 1) (wc := (wX ad K sv I5 J5 B5 D5)) (As := [.int 65]) (rest := []) ⟨hx, hb, hml, hown, hts⟩ (w_Text_oneOf l G K ad sv I5 J5 B5 D5 65 _ H.size hok) zf_Text_oneOf zn_334 ⟨Nat.le_of_ble_eq_true rfl, Nat.le_of_ble_eq_true rfl⟩ hK hw (List.range 65) wX_all wX_nd wX_g1 rfl rfl hl.1 rfl (Nat.le_of_ble_eq_true rfl) zd_ModelReader_readLabels_27 ⟨Nat.le_of_ble_eq_true rfl, Nat.le_of_ble_eq_true rfl⟩) hw hA (List.range 65) [] wX_all rfl (by decide) (fun i hi => by cases hi) (fun r7 u H locs hok hw => ?_)
      obtain ⟨I7, J7, B7, D7⟩ := u
      dsimp only at hok
      have hw : zW G A s.heap (wX ad K sv I7 J7 B7 D7) H locs := hw
      refine lv_istore_n hx hb zd_ModelReader_readLabels_30 rfl hl (by decide) rfl (fun ls hl => ?_)
      have hl : lv_has ls 3 [(2, .int r7), (0, .ref (ad 5)), (1, .int x1)] := hl
      refine lv_iload_n hx hb zd_ModelReader_readLabels_31 rfl (lv_at hl 0 rfl) ?_
      refine lv_iconst (v := (-1)) hx hb zd_ModelReader_readLabels_32 (by decide) ?_
      refine lv_icmp_eq (tgt := 50) hx hb zd_ModelReader_readLabels_33 (by decide) (fun hc8 => ?_) (fun hc8 => ?_)
      · have hok := hok.1 hc8
        exact wJ_ModelReader_readLabels_50 G K ad sv  Post PX C K2 kh2 x1 r7 I7 J7 B7 D7 ls H locs hok (lv_sub hl [1, 2, 0] rfl) hw
      · have hok := hok.2 hc8
        refine lv_aload_n hx hb zd_ModelReader_readLabels_36 rfl (lv_at hl 1 rfl) ?_
        refine z_get (v := .ref (ad 6)) hx hb hts hown hK hw zZ4 5 wX_g5 4 (by decide) zn_424 rfl zd_ModelReader_readLabels_37 ?_
        refine z_get (v := .ref (ad 42)) hx hb hts hown hK hw zZ10 6 wX_g6 10 (by decide) zn_427 rfl zd_ModelReader_readLabels_40 ?_
        refine lv_iload_n hx hb zd_ModelReader_readLabels_43 rfl (lv_at hl 0 rfl) ?_
        refine va_iald (f := (B7 28)) hx hb hK hw.1 42 0 wX_a42 rfl hok.1 zd_ModelReader_readLabels_44 ?_
        have hok := hok.2
        refine lv_topi (fun z9 ez9 => ?_)
        have hok := hok z9 ez9
        refine lv_bipush (v := (-3)) hx hb zd_ModelReader_readLabels_45 (by decide) ?_
        refine lv_icmp_eq (tgt := 57) hx hb zd_ModelReader_readLabels_47 (by decide) (fun hc10 => ?_) (fun hc10 => ?_)
        · have hok := hok.1 hc10
          exact wJ_ModelReader_readLabels_57 G K ad sv  Post PX C K2 kh2 x1 r7 I7 J7 B7 D7 ls H locs hok (lv_sub hl [1, 2, 0] rfl) hw
        · have hok := hok.2 hc10
          exact wJ_ModelReader_readLabels_50 G K ad sv  Post PX C K2 kh2 x1 r7 I7 J7 B7 D7 ls H locs hok (lv_sub hl [1, 2, 0] rfl) hw
theorem wL_ModelReader_readLabels_2 {p : Program} {l : Launch} {e : Env} {s : State} {m : MethodId} {below : List Frame} {meth : Method} {c : Code} {A : Nat → Prop} (G : va_G) (K : Nat → ClassId) (ad : Nat → Nat) (sv : Value) (Post : (Nat → Int32) → (Nat → Int64) → (Nat → Nat → Int32) → (Nat → Nat → Int64) → Prop) (PX : String → (Nat → Int32) → (Nat → Int64) → (Nat → Nat → Int32) → (Nat → Nat → Int64) → Prop) (C : zCy p l s m ([.ref (ad 5)] : List Value).toArray meth c A G K prog_5_method_7_code none 3 "LassoFinder$ModelReader") : ∀ (n : Nat) (x1 : Int32) (I : Nat → Int32) (J : Nat → Int64) (B : Nat → Nat → Int32) (D : Nat → Nat → Int64) (ls : Array Slot) (H : Heap) (locs : List Loc), wl_ModelReader_readLabels_2  Post PX n x1 I J B D → lv_has ls 3 [(0, .ref (ad 5)), (1, .int x1)] → zW G A s.heap (wX ad K sv I J B D) H locs → W p l e { frames := 7, cells := 1, slots := 6, locals := 101 } s m ([.ref (ad 5)] : List Value).toArray below meth c H locs 0 0 (zyMQ below (va_Qv (fun u : zS => Post u.1 u.2.1 u.2.2.1 u.2.2.2) (fun u t => zPost G K A (wX ad K sv u.1 u.2.1 u.2.2.1 u.2.2.2) t) A) (zYC (fun E (u : zS) => PX E u.1 u.2.1 u.2.2.1 u.2.2.2) (fun u => wX ad K sv u.1 u.2.1 u.2.2.1 u.2.2.2) G K A) ([.ref (ad 5)] : List Value).toArray s 1 6 A) (F0 m 2 ls []) := by
  intro n
  induction n with
  | zero => intro x1 I J B D ls H locs hok; exact hok.elim
  | succ n ih => exact wB_ModelReader_readLabels_2 G K ad sv  Post PX C (wl_ModelReader_readLabels_2  Post PX n) ih
set_option maxHeartbeats 8000000 in
set_option maxRecDepth 100000 in
theorem w_ModelReader_readLabels (l : Launch) (hlt : l.stackTraces = false) (G : va_G) (K : Nat → ClassId) (ad : Nat → Nat) (sv : Value) (I : Nat → Int32) (J : Nat → Int64) (B : Nat → Nat → Int32) (D : Nat → Nat → Int64) (Post : (Nat → Int32) → (Nat → Int64) → (Nat → Nat → Int32) → (Nat → Nat → Int64) → Prop) (PX : String → (Nat → Int32) → (Nat → Int64) → (Nat → Nat → Int32) → (Nat → Nat → Int64) → Prop) (sz : Nat) (hok : wp_ModelReader_readLabels I J B D  Post PX) : zyMet l zy_ModelReader_readLabels (Cond.code zy_ModelReader_readLabels prog_5_method_7_code 3 none :: zTB) { frames := 7, cells := 1, slots := 6, locals := 101 } (va_Pc [.ref (ad 5)] (zPreY G K (wX ad K sv I J B D) sz)) (va_Qv (fun u : zS => Post u.1 u.2.1 u.2.2.1 u.2.2.2) (fun u t => zPost G K (va_A (wX ad K sv I J B D) sz) (wX ad K sv u.1 u.2.1 u.2.2.1 u.2.2.2) t) (va_A (wX ad K sv I J B D) sz)) (zYC (fun E (u : zS) => PX E u.1 u.2.1 u.2.2.1 u.2.2.2) (fun u => wX ad K sv u.1 u.2.1 u.2.2.1 u.2.2.2) G K (va_A (wX ad K sv I J B D) sz)) 1 6 (va_A (wX ad K sv I J B D) sz) := by
  refine zMetY (y := zy_ModelReader_readLabels) (av := [.ref (ad 5)]) (maxL := 3) (cc := prog_5_method_7_code) (ret := none) (W0 := (wX ad K sv I J B D)) (sz := sz) (G := G) (K := K) (wt := zTB) (mc := 1) (ms := 6) (Qf := fun A => va_Qv (fun u : zS => Post u.1 u.2.1 u.2.2.1 u.2.2.2) (fun u t => zPost G K A (wX ad K sv u.1 u.2.1 u.2.2.1 u.2.2.2) t) A) (Xf := fun A => (zYC (fun E (u : zS) => PX E u.1 u.2.1 u.2.2.1 u.2.2.2) (fun u => wX ad K sv u.1 u.2.1 u.2.2.1 u.2.2.2) G K A)) (by decide) (Nat.le_of_ble_eq_true rfl) ?_
  intro p e s m below meth c ls A hx hb hr hml hts hown hlocks hin hA hK H locs hw hsz hl hT hnt
  clear hsz
  have hown : s.vm.findClass "LassoFinder$ModelReader" = some m.cls := hown
  have C : zCy p l s m ([.ref (ad 5)] : List Value).toArray meth c A G K prog_5_method_7_code none 3 "LassoFinder$ModelReader" := ⟨hx, hb, hr, hml, hts, hown, hlocks, hA, hK, hT, hnt, hlt⟩
  have hl : lv_has ls 3 [(0, .ref (ad 5))] := hl
  have hw : zW G A s.heap (wX ad K sv I J B D) H locs := hw
  unfold wp_ModelReader_readLabels at hok
  refine lv_iconst (v := 0) hx hb zd_ModelReader_readLabels_0 (by decide) ?_
  refine lv_istore_n hx hb zd_ModelReader_readLabels_1 rfl hl (by decide) rfl (fun ls hl => ?_)
  have hl : lv_has ls 3 [(1, .int 0), (0, .ref (ad 5))] := hl
  obtain ⟨n9, hok⟩ := hok
  exact wL_ModelReader_readLabels_2 G K ad sv  Post PX C n9 0 I J B D ls H locs hok (lv_sub hl [1, 0] rfl) hw
