abbrev zy_Graph_enter : MethodName := ⟨"LassoFinder$Graph", "enter", "(J)I"⟩
abbrev zy_Program_at : MethodName := ⟨"LassoFinder$Program", "at", "(II)J"⟩
abbrev zy_Situation_ableOf : MethodName := ⟨"LassoFinder$Situation", "ableOf", "(J)J"⟩
abbrev zy_Situation_canBeDone : MethodName := ⟨"LassoFinder$Situation", "canBeDone", "(I)Z"⟩
abbrev zy_Situation_hasFreeSlot : MethodName := ⟨"LassoFinder$Situation", "hasFreeSlot", "(I)Z"⟩
abbrev zy_Situation_partners : MethodName := ⟨"LassoFinder$Situation", "partners", "(I)J"⟩
abbrev zy_Graph_addStepsBy : MethodName := ⟨"LassoFinder$Graph", "addStepsBy", "(II)Z"⟩
abbrev zy_Graph_addDone : MethodName := ⟨"LassoFinder$Graph", "addDone", "(III)Z"⟩
theorem zn_406 : Cond.methodLink "LassoFinder$Graph" 53 ⟨"LassoFinder$Situation", "packed", "()J"⟩ ∈ zTB := z_in (zt_4 _ (List.mem_of_getElem? (i := 146) rfl)) rfl
theorem zn_407 : Cond.methodLink "LassoFinder$Graph" 57 ⟨"LassoFinder$Graph", "enter", "(J)I"⟩ ∈ zTB := z_in (zt_4 _ (List.mem_of_getElem? (i := 150) rfl)) rfl
theorem zn_409 : Cond.methodLink "LassoFinder$Graph" 68 ⟨"LassoFinder$Situation", "unpack", "(J)V"⟩ ∈ zTB := z_in (zt_4 _ (List.mem_of_getElem? (i := 158) rfl)) rfl
theorem zn_411 : Cond.methodLink "LassoFinder$Situation" 78 ⟨"LassoFinder$Program", "at", "(II)J"⟩ ∈ zTB := z_in (zt_4 _ (List.mem_of_getElem? (i := 163) rfl)) rfl
theorem zn_413 : Cond.methodLink "LassoFinder$Situation" 89 ⟨"LassoFinder$Situation", "canBeDone", "(I)Z"⟩ ∈ zTB := z_in (zt_4 _ (List.mem_of_getElem? (i := 171) rfl)) rfl
theorem zn_416 : Cond.methodLink "LassoFinder$Situation" 111 ⟨"LassoFinder$Situation", "hasFreeSlot", "(I)Z"⟩ ∈ zTB := z_in (zt_4 _ (List.mem_of_getElem? (i := 182) rfl)) rfl
theorem zn_417 : Cond.methodLink "LassoFinder$Situation" 114 ⟨"LassoFinder$Situation", "partners", "(I)J"⟩ ∈ zTB := z_in (zt_4 _ (List.mem_of_getElem? (i := 186) rfl)) rfl
theorem zn_419 : Cond.methodLink "LassoFinder$Graph" 85 ⟨"LassoFinder$Situation", "partners", "(I)J"⟩ ∈ zTB := z_in (zt_4 _ (List.mem_of_getElem? (i := 195) rfl)) rfl
theorem zn_420 : Cond.methodLink "LassoFinder$Graph" 89 ⟨"LassoFinder$Graph", "addDone", "(III)Z"⟩ ∈ zTB := z_in (zt_4 _ (List.mem_of_getElem? (i := 196) rfl)) rfl
theorem zn_421 : Cond.methodLink "LassoFinder$Graph" 93 ⟨"LassoFinder$Situation", "perform", "(II)V"⟩ ∈ zTB := z_in (zt_4 _ (List.mem_of_getElem? (i := 200) rfl)) rfl
theorem zn_425 : Cond.methodLink "LassoFinder$Graph" 81 ⟨"LassoFinder$Graph", "add", "(IIII)Z"⟩ ∈ zTB := z_in (zt_4 _ (List.mem_of_getElem? (i := 216) rfl)) rfl
theorem zn_428 : Cond.fieldLink "LassoFinder$Graph" 9 "LassoFinder$Graph" "situation" "LLassoFinder$Situation;" ∈ zTB := z_in (zt_2 _ (List.mem_of_getElem? (i := 80) rfl)) rfl
theorem zn_440 : Cond.fieldLink "LassoFinder$Situation" 53 "LassoFinder$Names" "digits" "[I" ∈ zTB := z_in (zt_1 _ (List.mem_of_getElem? (i := 67) rfl)) rfl
theorem zn_441 : Cond.fieldLink "LassoFinder$Situation" 121 "LassoFinder$Program" "receives" "[J" ∈ zTB := z_in (zt_1 _ (List.mem_of_getElem? (i := 111) rfl)) rfl
theorem zn_442 : Cond.fieldLink "LassoFinder$Situation" 71 "LassoFinder$Situation" "present" "J" ∈ zTB := z_in (zt_2 _ (List.mem_of_getElem? (i := 56) rfl)) rfl
theorem zn_443 : Cond.constantLong "LassoFinder$Situation" 125 (-1 : Int64) ∈ zTB := z_in (zt_4 _ (List.mem_of_getElem? (i := 190) rfl)) rfl
theorem zn_445 : Cond.fieldLink "LassoFinder$Situation" 86 "LassoFinder$Program" "basics" "I" ∈ zTB := z_in (zt_1 _ (List.mem_of_getElem? (i := 120) rfl)) rfl
theorem zn_446 : Cond.fieldLink "LassoFinder$Situation" 93 "LassoFinder$Program" "elses" "J" ∈ zTB := z_in (zt_1 _ (List.mem_of_getElem? (i := 118) rfl)) rfl
theorem zn_577 : Cond.code ⟨"LassoFinder$Graph", "add", "(IIII)Z"⟩ prog_3_method_7_code 5 (some .boolean) ∈ zTB := z_in (zt_4 _ (List.mem_of_getElem? (i := 219) rfl)) rfl
theorem zn_578 : Cond.instanceMethod ⟨"LassoFinder$Graph", "add", "(IIII)Z"⟩ ∈ zTB := z_in (zt_4 _ (List.mem_of_getElem? (i := 218) rfl)) rfl
theorem zn_579 : Cond.code ⟨"LassoFinder$Situation", "unpack", "(J)V"⟩ prog_8_method_4_code 8 none ∈ zTB := z_in (zt_3 _ (List.mem_of_getElem? (i := 61) rfl)) rfl
theorem zn_580 : Cond.selects "LassoFinder$Situation" ⟨"LassoFinder$Situation", "unpack", "(J)V"⟩ ⟨"LassoFinder$Situation", "unpack", "(J)V"⟩ ∈ zTB := z_in (zt_3 _ (List.mem_of_getElem? (i := 60) rfl)) rfl
theorem zn_581 : Cond.instanceMethod ⟨"LassoFinder$Situation", "unpack", "(J)V"⟩ ∈ zTB := z_in (zt_3 _ (List.mem_of_getElem? (i := 59) rfl)) rfl
theorem zn_582 : Cond.code ⟨"LassoFinder$Situation", "perform", "(II)V"⟩ prog_8_method_11_code 5 none ∈ zTB := z_in (zt_4 _ (List.mem_of_getElem? (i := 203) rfl)) rfl
theorem zn_583 : Cond.selects "LassoFinder$Situation" ⟨"LassoFinder$Situation", "perform", "(II)V"⟩ ⟨"LassoFinder$Situation", "perform", "(II)V"⟩ ∈ zTB := z_in (zt_4 _ (List.mem_of_getElem? (i := 202) rfl)) rfl
theorem zn_584 : Cond.instanceMethod ⟨"LassoFinder$Situation", "perform", "(II)V"⟩ ∈ zTB := z_in (zt_4 _ (List.mem_of_getElem? (i := 201) rfl)) rfl
theorem zn_585 : Cond.code ⟨"LassoFinder$Situation", "packed", "()J"⟩ prog_8_method_3_code 6 (some .long) ∈ zTB := z_in (zt_4 _ (List.mem_of_getElem? (i := 149) rfl)) rfl
theorem zn_586 : Cond.selects "LassoFinder$Situation" ⟨"LassoFinder$Situation", "packed", "()J"⟩ ⟨"LassoFinder$Situation", "packed", "()J"⟩ ∈ zTB := z_in (zt_4 _ (List.mem_of_getElem? (i := 148) rfl)) rfl
theorem zn_587 : Cond.instanceMethod ⟨"LassoFinder$Situation", "packed", "()J"⟩ ∈ zTB := z_in (zt_4 _ (List.mem_of_getElem? (i := 147) rfl)) rfl
theorem zn_588 : Cond.code ⟨"LassoFinder$Graph", "enter", "(J)I"⟩ prog_3_method_8_code 4 (some .int) ∈ zTB := z_in (zt_4 _ (List.mem_of_getElem? (i := 153) rfl)) rfl
theorem zn_589 : Cond.instanceMethod ⟨"LassoFinder$Graph", "enter", "(J)I"⟩ ∈ zTB := z_in (zt_4 _ (List.mem_of_getElem? (i := 152) rfl)) rfl
theorem zn_590 : Cond.code ⟨"LassoFinder$Graph", "addDone", "(III)Z"⟩ prog_3_method_6_code 5 (some .boolean) ∈ zTB := z_in (zt_4 _ (List.mem_of_getElem? (i := 199) rfl)) rfl
theorem zn_591 : Cond.instanceMethod ⟨"LassoFinder$Graph", "addDone", "(III)Z"⟩ ∈ zTB := z_in (zt_4 _ (List.mem_of_getElem? (i := 198) rfl)) rfl
theorem zn_592 : Cond.code ⟨"LassoFinder$Program", "at", "(II)J"⟩ prog_7_method_3_code 3 (some .long) ∈ zTB := z_in (zt_4 _ (List.mem_of_getElem? (i := 166) rfl)) rfl
theorem zn_593 : Cond.selects "LassoFinder$Program" ⟨"LassoFinder$Program", "at", "(II)J"⟩ ⟨"LassoFinder$Program", "at", "(II)J"⟩ ∈ zTB := z_in (zt_4 _ (List.mem_of_getElem? (i := 165) rfl)) rfl
theorem zn_594 : Cond.instanceMethod ⟨"LassoFinder$Program", "at", "(II)J"⟩ ∈ zTB := z_in (zt_4 _ (List.mem_of_getElem? (i := 164) rfl)) rfl
theorem zn_595 : Cond.code ⟨"LassoFinder$Situation", "partners", "(I)J"⟩ prog_8_method_10_code 3 (some .long) ∈ zTB := z_in (zt_4 _ (List.mem_of_getElem? (i := 189) rfl)) rfl
theorem zn_596 : Cond.selects "LassoFinder$Situation" ⟨"LassoFinder$Situation", "partners", "(I)J"⟩ ⟨"LassoFinder$Situation", "partners", "(I)J"⟩ ∈ zTB := z_in (zt_4 _ (List.mem_of_getElem? (i := 188) rfl)) rfl
theorem zn_597 : Cond.instanceMethod ⟨"LassoFinder$Situation", "partners", "(I)J"⟩ ∈ zTB := z_in (zt_4 _ (List.mem_of_getElem? (i := 187) rfl)) rfl
theorem zn_598 : Cond.code ⟨"LassoFinder$Situation", "hasFreeSlot", "(I)Z"⟩ prog_8_method_9_code 2 (some .boolean) ∈ zTB := z_in (zt_4 _ (List.mem_of_getElem? (i := 185) rfl)) rfl
theorem zn_599 : Cond.instanceMethod ⟨"LassoFinder$Situation", "hasFreeSlot", "(I)Z"⟩ ∈ zTB := z_in (zt_4 _ (List.mem_of_getElem? (i := 184) rfl)) rfl
theorem zn_600 : Cond.code ⟨"LassoFinder$Situation", "canBeDone", "(I)Z"⟩ prog_8_method_8_code 2 (some .boolean) ∈ zTB := z_in (zt_4 _ (List.mem_of_getElem? (i := 174) rfl)) rfl
theorem zn_601 : Cond.instanceMethod ⟨"LassoFinder$Situation", "canBeDone", "(I)Z"⟩ ∈ zTB := z_in (zt_4 _ (List.mem_of_getElem? (i := 173) rfl)) rfl
theorem zf_Graph_add : zFaceV zy_Graph_add prog_3_method_7_code 5 (some .boolean) 4 := ⟨zn_578, (z_in (zp_3 _ (List.mem_of_getElem? (i := 3) rfl)) rfl), zm_5, zn_577, by decide +kernel, by decide +kernel, by decide +kernel⟩
theorem zf_Situation_unpack : zFaceV zy_Situation_unpack prog_8_method_4_code 8 none 1 := ⟨zn_581, zn_580, zm_15, zn_579, by decide +kernel, by decide +kernel, by decide +kernel⟩
theorem zf_Situation_perform : zFaceV zy_Situation_perform prog_8_method_11_code 5 none 2 := ⟨zn_584, zn_583, zm_15, zn_582, by decide +kernel, by decide +kernel, by decide +kernel⟩
theorem zf_Situation_packed : zFaceV zy_Situation_packed prog_8_method_3_code 6 (some .long) 0 := ⟨zn_587, zn_586, zm_15, zn_585, by decide +kernel, by decide +kernel, by decide +kernel⟩
theorem zf_Graph_enter : zFaceV zy_Graph_enter prog_3_method_8_code 4 (some .int) 1 := ⟨zn_589, (z_in (zp_2 _ (List.mem_of_getElem? (i := 9) rfl)) rfl), zm_5, zn_588, by decide +kernel, by decide +kernel, by decide +kernel⟩
theorem zf_Graph_addDone : zFaceV zy_Graph_addDone prog_3_method_6_code 5 (some .boolean) 3 := ⟨zn_591, (z_in (zp_2 _ (List.mem_of_getElem? (i := 15) rfl)) rfl), zm_5, zn_590, by decide +kernel, by decide +kernel, by decide +kernel⟩
theorem zf_Program_at : zFaceV zy_Program_at prog_7_method_3_code 3 (some .long) 2 := ⟨zn_594, zn_593, zm_13, zn_592, by decide +kernel, by decide +kernel, by decide +kernel⟩
theorem zf_Situation_partners : zFaceV zy_Situation_partners prog_8_method_10_code 3 (some .long) 1 := ⟨zn_597, zn_596, zm_15, zn_595, by decide +kernel, by decide +kernel, by decide +kernel⟩
theorem zf_Situation_hasFreeSlot : zFaceV zy_Situation_hasFreeSlot prog_8_method_9_code 2 (some .boolean) 1 := ⟨zn_599, (z_in (zp_2 _ (List.mem_of_getElem? (i := 13) rfl)) rfl), zm_15, zn_598, by decide +kernel, by decide +kernel, by decide +kernel⟩
theorem zf_Situation_canBeDone : zFaceV zy_Situation_canBeDone prog_8_method_8_code 2 (some .boolean) 1 := ⟨zn_601, (z_in (zp_2 _ (List.mem_of_getElem? (i := 12) rfl)) rfl), zm_15, zn_600, by decide +kernel, by decide +kernel, by decide +kernel⟩
theorem zd_Graph_addDone_0 : decode prog_3_method_6_code 0 = .ok (.aload_n 0, 1) := by decide +kernel
theorem zd_Graph_addDone_1 : decode prog_3_method_6_code 1 = .ok (.getfield 9, 3) := by decide +kernel
theorem zd_Graph_addDone_4 : decode prog_3_method_6_code 4 = .ok (.aload_n 0, 1) := by decide +kernel
theorem zd_Graph_addDone_5 : decode prog_3_method_6_code 5 = .ok (.getfield 15, 3) := by decide +kernel
theorem zd_Graph_addDone_8 : decode prog_3_method_6_code 8 = .ok (.iload_n 1, 1) := by decide +kernel
theorem zd_Graph_addDone_9 : decode prog_3_method_6_code 9 = .ok (.laload, 1) := by decide +kernel
theorem zd_Graph_addDone_10 : decode prog_3_method_6_code 10 = .ok (.invokevirtual 68, 3) := by decide +kernel
theorem zd_Graph_addDone_13 : decode prog_3_method_6_code 13 = .ok (.aload_n 0, 1) := by decide +kernel
theorem zd_Graph_addDone_14 : decode prog_3_method_6_code 14 = .ok (.getfield 9, 3) := by decide +kernel
theorem zd_Graph_addDone_17 : decode prog_3_method_6_code 17 = .ok (.iload_n 2, 1) := by decide +kernel
theorem zd_Graph_addDone_18 : decode prog_3_method_6_code 18 = .ok (.iload_n 3, 1) := by decide +kernel
theorem zd_Graph_addDone_19 : decode prog_3_method_6_code 19 = .ok (.invokevirtual 93, 3) := by decide +kernel
theorem zd_Graph_addDone_22 : decode prog_3_method_6_code 22 = .ok (.aload_n 0, 1) := by decide +kernel
theorem zd_Graph_addDone_23 : decode prog_3_method_6_code 23 = .ok (.aload_n 0, 1) := by decide +kernel
theorem zd_Graph_addDone_24 : decode prog_3_method_6_code 24 = .ok (.getfield 9, 3) := by decide +kernel
theorem zd_Graph_addDone_27 : decode prog_3_method_6_code 27 = .ok (.invokevirtual 53, 3) := by decide +kernel
theorem zd_Graph_addDone_30 : decode prog_3_method_6_code 30 = .ok (.invokevirtual 57, 3) := by decide +kernel
theorem zd_Graph_addDone_33 : decode prog_3_method_6_code 33 = .ok (.istore 4, 2) := by decide +kernel
theorem zd_Graph_addDone_35 : decode prog_3_method_6_code 35 = .ok (.iload 4, 2) := by decide +kernel
theorem zd_Graph_addDone_37 : decode prog_3_method_6_code 37 = .ok (.iconst (-1), 1) := by decide +kernel
theorem zd_Graph_addDone_38 : decode prog_3_method_6_code 38 = .ok (.if_icmp .eq 19, 3) := by decide +kernel
theorem zd_Graph_addDone_41 : decode prog_3_method_6_code 41 = .ok (.aload_n 0, 1) := by decide +kernel
theorem zd_Graph_addDone_42 : decode prog_3_method_6_code 42 = .ok (.iload_n 1, 1) := by decide +kernel
theorem zd_Graph_addDone_43 : decode prog_3_method_6_code 43 = .ok (.iload 4, 2) := by decide +kernel
theorem zd_Graph_addDone_45 : decode prog_3_method_6_code 45 = .ok (.iload_n 2, 1) := by decide +kernel
theorem zd_Graph_addDone_46 : decode prog_3_method_6_code 46 = .ok (.iload_n 3, 1) := by decide +kernel
theorem zd_Graph_addDone_47 : decode prog_3_method_6_code 47 = .ok (.invokevirtual 81, 3) := by decide +kernel
theorem zd_Graph_addDone_50 : decode prog_3_method_6_code 50 = .ok (.ifCond .eq 7, 3) := by decide +kernel
theorem zd_Graph_addDone_53 : decode prog_3_method_6_code 53 = .ok (.iconst 1, 1) := by decide +kernel
theorem zd_Graph_addDone_54 : decode prog_3_method_6_code 54 = .ok (.goto 4, 3) := by decide +kernel
theorem zd_Graph_addDone_57 : decode prog_3_method_6_code 57 = .ok (.iconst 0, 1) := by decide +kernel
theorem zd_Graph_addDone_58 : decode prog_3_method_6_code 58 = .ok (.ireturn, 1) := by decide +kernel
theorem zd_Graph_addStepsBy_0 : decode prog_3_method_5_code 0 = .ok (.aload_n 0, 1) := by decide +kernel
theorem zd_Graph_addStepsBy_1 : decode prog_3_method_5_code 1 = .ok (.getfield 9, 3) := by decide +kernel
theorem zd_Graph_addStepsBy_4 : decode prog_3_method_5_code 4 = .ok (.aload_n 0, 1) := by decide +kernel
theorem zd_Graph_addStepsBy_5 : decode prog_3_method_5_code 5 = .ok (.getfield 15, 3) := by decide +kernel
theorem zd_Graph_addStepsBy_8 : decode prog_3_method_5_code 8 = .ok (.iload_n 1, 1) := by decide +kernel
theorem zd_Graph_addStepsBy_9 : decode prog_3_method_5_code 9 = .ok (.laload, 1) := by decide +kernel
theorem zd_Graph_addStepsBy_10 : decode prog_3_method_5_code 10 = .ok (.invokevirtual 68, 3) := by decide +kernel
theorem zd_Graph_addStepsBy_13 : decode prog_3_method_5_code 13 = .ok (.aload_n 0, 1) := by decide +kernel
theorem zd_Graph_addStepsBy_14 : decode prog_3_method_5_code 14 = .ok (.getfield 9, 3) := by decide +kernel
theorem zd_Graph_addStepsBy_17 : decode prog_3_method_5_code 17 = .ok (.iload_n 2, 1) := by decide +kernel
theorem zd_Graph_addStepsBy_18 : decode prog_3_method_5_code 18 = .ok (.invokevirtual 85, 3) := by decide +kernel
theorem zd_Graph_addStepsBy_21 : decode prog_3_method_5_code 21 = .ok (.lstore_n 3, 1) := by decide +kernel
theorem zd_Graph_addStepsBy_22 : decode prog_3_method_5_code 22 = .ok (.lload_n 3, 1) := by decide +kernel
theorem zd_Graph_addStepsBy_23 : decode prog_3_method_5_code 23 = .ok (.lconst 0, 1) := by decide +kernel
theorem zd_Graph_addStepsBy_24 : decode prog_3_method_5_code 24 = .ok (.lcmp, 1) := by decide +kernel
theorem zd_Graph_addStepsBy_25 : decode prog_3_method_5_code 25 = .ok (.ifCond .ne 11, 3) := by decide +kernel
theorem zd_Graph_addStepsBy_28 : decode prog_3_method_5_code 28 = .ok (.aload_n 0, 1) := by decide +kernel
theorem zd_Graph_addStepsBy_29 : decode prog_3_method_5_code 29 = .ok (.iload_n 1, 1) := by decide +kernel
theorem zd_Graph_addStepsBy_30 : decode prog_3_method_5_code 30 = .ok (.iload_n 2, 1) := by decide +kernel
theorem zd_Graph_addStepsBy_31 : decode prog_3_method_5_code 31 = .ok (.iconst (-1), 1) := by decide +kernel
theorem zd_Graph_addStepsBy_32 : decode prog_3_method_5_code 32 = .ok (.invokevirtual 89, 3) := by decide +kernel
theorem zd_Graph_addStepsBy_35 : decode prog_3_method_5_code 35 = .ok (.ireturn, 1) := by decide +kernel
theorem zd_Graph_addStepsBy_36 : decode prog_3_method_5_code 36 = .ok (.iconst 1, 1) := by decide +kernel
theorem zd_Graph_addStepsBy_37 : decode prog_3_method_5_code 37 = .ok (.istore 5, 2) := by decide +kernel
theorem zd_Graph_addStepsBy_39 : decode prog_3_method_5_code 39 = .ok (.iconst 0, 1) := by decide +kernel
theorem zd_Graph_addStepsBy_40 : decode prog_3_method_5_code 40 = .ok (.istore 6, 2) := by decide +kernel
theorem zd_Graph_addStepsBy_42 : decode prog_3_method_5_code 42 = .ok (.iload 6, 2) := by decide +kernel
theorem zd_Graph_addStepsBy_44 : decode prog_3_method_5_code 44 = .ok (.bipush 48, 2) := by decide +kernel
theorem zd_Graph_addStepsBy_46 : decode prog_3_method_5_code 46 = .ok (.if_icmp .ge 35, 3) := by decide +kernel
theorem zd_Graph_addStepsBy_49 : decode prog_3_method_5_code 49 = .ok (.iload 5, 2) := by decide +kernel
theorem zd_Graph_addStepsBy_51 : decode prog_3_method_5_code 51 = .ok (.ifCond .eq 30, 3) := by decide +kernel
theorem zd_Graph_addStepsBy_54 : decode prog_3_method_5_code 54 = .ok (.lload_n 3, 1) := by decide +kernel
theorem zd_Graph_addStepsBy_55 : decode prog_3_method_5_code 55 = .ok (.iload 6, 2) := by decide +kernel
theorem zd_Graph_addStepsBy_57 : decode prog_3_method_5_code 57 = .ok (.lushr, 1) := by decide +kernel
theorem zd_Graph_addStepsBy_58 : decode prog_3_method_5_code 58 = .ok (.lconst 1, 1) := by decide +kernel
theorem zd_Graph_addStepsBy_59 : decode prog_3_method_5_code 59 = .ok (.land, 1) := by decide +kernel
theorem zd_Graph_addStepsBy_60 : decode prog_3_method_5_code 60 = .ok (.lconst 0, 1) := by decide +kernel
theorem zd_Graph_addStepsBy_61 : decode prog_3_method_5_code 61 = .ok (.lcmp, 1) := by decide +kernel
theorem zd_Graph_addStepsBy_62 : decode prog_3_method_5_code 62 = .ok (.ifCond .eq 13, 3) := by decide +kernel
theorem zd_Graph_addStepsBy_65 : decode prog_3_method_5_code 65 = .ok (.aload_n 0, 1) := by decide +kernel
theorem zd_Graph_addStepsBy_66 : decode prog_3_method_5_code 66 = .ok (.iload_n 1, 1) := by decide +kernel
theorem zd_Graph_addStepsBy_67 : decode prog_3_method_5_code 67 = .ok (.iload_n 2, 1) := by decide +kernel
theorem zd_Graph_addStepsBy_68 : decode prog_3_method_5_code 68 = .ok (.iload 6, 2) := by decide +kernel
theorem zd_Graph_addStepsBy_70 : decode prog_3_method_5_code 70 = .ok (.invokevirtual 89, 3) := by decide +kernel
theorem zd_Graph_addStepsBy_73 : decode prog_3_method_5_code 73 = .ok (.istore 5, 2) := by decide +kernel
theorem zd_Graph_addStepsBy_75 : decode prog_3_method_5_code 75 = .ok (.iinc 6 1, 3) := by decide +kernel
theorem zd_Graph_addStepsBy_78 : decode prog_3_method_5_code 78 = .ok (.goto (-36), 3) := by decide +kernel
theorem zd_Graph_addStepsBy_81 : decode prog_3_method_5_code 81 = .ok (.iload 5, 2) := by decide +kernel
theorem zd_Graph_addStepsBy_83 : decode prog_3_method_5_code 83 = .ok (.ireturn, 1) := by decide +kernel
theorem zd_Graph_enter_0 : decode prog_3_method_8_code 0 = .ok (.iconst 0, 1) := by decide +kernel
theorem zd_Graph_enter_1 : decode prog_3_method_8_code 1 = .ok (.istore_n 3, 1) := by decide +kernel
theorem zd_Graph_enter_2 : decode prog_3_method_8_code 2 = .ok (.iload_n 3, 1) := by decide +kernel
theorem zd_Graph_enter_3 : decode prog_3_method_8_code 3 = .ok (.aload_n 0, 1) := by decide +kernel
theorem zd_Graph_enter_4 : decode prog_3_method_8_code 4 = .ok (.getfield 41, 3) := by decide +kernel
theorem zd_Graph_enter_7 : decode prog_3_method_8_code 7 = .ok (.if_icmp .ge 22, 3) := by decide +kernel
theorem zd_Graph_enter_10 : decode prog_3_method_8_code 10 = .ok (.aload_n 0, 1) := by decide +kernel
theorem zd_Graph_enter_11 : decode prog_3_method_8_code 11 = .ok (.getfield 15, 3) := by decide +kernel
theorem zd_Graph_enter_14 : decode prog_3_method_8_code 14 = .ok (.iload_n 3, 1) := by decide +kernel
theorem zd_Graph_enter_15 : decode prog_3_method_8_code 15 = .ok (.laload, 1) := by decide +kernel
theorem zd_Graph_enter_16 : decode prog_3_method_8_code 16 = .ok (.lload_n 1, 1) := by decide +kernel
theorem zd_Graph_enter_17 : decode prog_3_method_8_code 17 = .ok (.lcmp, 1) := by decide +kernel
theorem zd_Graph_enter_18 : decode prog_3_method_8_code 18 = .ok (.ifCond .ne 5, 3) := by decide +kernel
theorem zd_Graph_enter_21 : decode prog_3_method_8_code 21 = .ok (.iload_n 3, 1) := by decide +kernel
theorem zd_Graph_enter_22 : decode prog_3_method_8_code 22 = .ok (.ireturn, 1) := by decide +kernel
theorem zd_Graph_enter_23 : decode prog_3_method_8_code 23 = .ok (.iinc 3 1, 3) := by decide +kernel
theorem zd_Graph_enter_26 : decode prog_3_method_8_code 26 = .ok (.goto (-24), 3) := by decide +kernel
theorem zd_Graph_enter_29 : decode prog_3_method_8_code 29 = .ok (.aload_n 0, 1) := by decide +kernel
theorem zd_Graph_enter_30 : decode prog_3_method_8_code 30 = .ok (.getfield 41, 3) := by decide +kernel
theorem zd_Graph_enter_33 : decode prog_3_method_8_code 33 = .ok (.bipush 96, 2) := by decide +kernel
theorem zd_Graph_enter_35 : decode prog_3_method_8_code 35 = .ok (.if_icmp .ne 5, 3) := by decide +kernel
theorem zd_Graph_enter_38 : decode prog_3_method_8_code 38 = .ok (.iconst (-1), 1) := by decide +kernel
theorem zd_Graph_enter_39 : decode prog_3_method_8_code 39 = .ok (.ireturn, 1) := by decide +kernel
theorem zd_Graph_enter_40 : decode prog_3_method_8_code 40 = .ok (.aload_n 0, 1) := by decide +kernel
theorem zd_Graph_enter_41 : decode prog_3_method_8_code 41 = .ok (.getfield 15, 3) := by decide +kernel
theorem zd_Graph_enter_44 : decode prog_3_method_8_code 44 = .ok (.aload_n 0, 1) := by decide +kernel
theorem zd_Graph_enter_45 : decode prog_3_method_8_code 45 = .ok (.getfield 41, 3) := by decide +kernel
theorem zd_Graph_enter_48 : decode prog_3_method_8_code 48 = .ok (.lload_n 1, 1) := by decide +kernel
theorem zd_Graph_enter_49 : decode prog_3_method_8_code 49 = .ok (.lastore, 1) := by decide +kernel
theorem zd_Graph_enter_50 : decode prog_3_method_8_code 50 = .ok (.aload_n 0, 1) := by decide +kernel
theorem zd_Graph_enter_51 : decode prog_3_method_8_code 51 = .ok (.dup, 1) := by decide +kernel
theorem zd_Graph_enter_52 : decode prog_3_method_8_code 52 = .ok (.getfield 41, 3) := by decide +kernel
theorem zd_Graph_enter_55 : decode prog_3_method_8_code 55 = .ok (.iconst 1, 1) := by decide +kernel
theorem zd_Graph_enter_56 : decode prog_3_method_8_code 56 = .ok (.iadd, 1) := by decide +kernel
theorem zd_Graph_enter_57 : decode prog_3_method_8_code 57 = .ok (.putfield 41, 3) := by decide +kernel
theorem zd_Graph_enter_60 : decode prog_3_method_8_code 60 = .ok (.aload_n 0, 1) := by decide +kernel
theorem zd_Graph_enter_61 : decode prog_3_method_8_code 61 = .ok (.getfield 41, 3) := by decide +kernel
theorem zd_Graph_enter_64 : decode prog_3_method_8_code 64 = .ok (.iconst 1, 1) := by decide +kernel
theorem zd_Graph_enter_65 : decode prog_3_method_8_code 65 = .ok (.isub, 1) := by decide +kernel
theorem zd_Graph_enter_66 : decode prog_3_method_8_code 66 = .ok (.ireturn, 1) := by decide +kernel
theorem zd_Program_at_0 : decode prog_7_method_3_code 0 = .ok (.aload_n 0, 1) := by decide +kernel
theorem zd_Program_at_1 : decode prog_7_method_3_code 1 = .ok (.getfield 46, 3) := by decide +kernel
theorem zd_Program_at_4 : decode prog_7_method_3_code 4 = .ok (.iload_n 1, 1) := by decide +kernel
theorem zd_Program_at_5 : decode prog_7_method_3_code 5 = .ok (.bipush 31, 2) := by decide +kernel
theorem zd_Program_at_7 : decode prog_7_method_3_code 7 = .ok (.imul, 1) := by decide +kernel
theorem zd_Program_at_8 : decode prog_7_method_3_code 8 = .ok (.iload_n 2, 1) := by decide +kernel
theorem zd_Program_at_9 : decode prog_7_method_3_code 9 = .ok (.iadd, 1) := by decide +kernel
theorem zd_Program_at_10 : decode prog_7_method_3_code 10 = .ok (.laload, 1) := by decide +kernel
theorem zd_Program_at_11 : decode prog_7_method_3_code 11 = .ok (.lreturn, 1) := by decide +kernel
theorem zd_Situation_ableOf_0 : decode prog_8_method_7_code 0 = .ok (.lconst 0, 1) := by decide +kernel
theorem zd_Situation_ableOf_1 : decode prog_8_method_7_code 1 = .ok (.lstore_n 3, 1) := by decide +kernel
theorem zd_Situation_ableOf_2 : decode prog_8_method_7_code 2 = .ok (.iconst 0, 1) := by decide +kernel
theorem zd_Situation_ableOf_3 : decode prog_8_method_7_code 3 = .ok (.istore 5, 2) := by decide +kernel
theorem zd_Situation_ableOf_5 : decode prog_8_method_7_code 5 = .ok (.iload 5, 2) := by decide +kernel
theorem zd_Situation_ableOf_7 : decode prog_8_method_7_code 7 = .ok (.aload_n 0, 1) := by decide +kernel
theorem zd_Situation_ableOf_8 : decode prog_8_method_7_code 8 = .ok (.getfield 19, 3) := by decide +kernel
theorem zd_Situation_ableOf_11 : decode prog_8_method_7_code 11 = .ok (.getfield 86, 3) := by decide +kernel
theorem zd_Situation_ableOf_14 : decode prog_8_method_7_code 14 = .ok (.if_icmp .ge 36, 3) := by decide +kernel
theorem zd_Situation_ableOf_17 : decode prog_8_method_7_code 17 = .ok (.lload_n 1, 1) := by decide +kernel
theorem zd_Situation_ableOf_18 : decode prog_8_method_7_code 18 = .ok (.iload 5, 2) := by decide +kernel
theorem zd_Situation_ableOf_20 : decode prog_8_method_7_code 20 = .ok (.lushr, 1) := by decide +kernel
theorem zd_Situation_ableOf_21 : decode prog_8_method_7_code 21 = .ok (.lconst 1, 1) := by decide +kernel
theorem zd_Situation_ableOf_22 : decode prog_8_method_7_code 22 = .ok (.land, 1) := by decide +kernel
theorem zd_Situation_ableOf_23 : decode prog_8_method_7_code 23 = .ok (.lconst 0, 1) := by decide +kernel
theorem zd_Situation_ableOf_24 : decode prog_8_method_7_code 24 = .ok (.lcmp, 1) := by decide +kernel
theorem zd_Situation_ableOf_25 : decode prog_8_method_7_code 25 = .ok (.ifCond .eq 19, 3) := by decide +kernel
theorem zd_Situation_ableOf_28 : decode prog_8_method_7_code 28 = .ok (.aload_n 0, 1) := by decide +kernel
theorem zd_Situation_ableOf_29 : decode prog_8_method_7_code 29 = .ok (.iload 5, 2) := by decide +kernel
theorem zd_Situation_ableOf_31 : decode prog_8_method_7_code 31 = .ok (.invokevirtual 89, 3) := by decide +kernel
theorem zd_Situation_ableOf_34 : decode prog_8_method_7_code 34 = .ok (.ifCond .eq 10, 3) := by decide +kernel
theorem zd_Situation_ableOf_37 : decode prog_8_method_7_code 37 = .ok (.lload_n 3, 1) := by decide +kernel
theorem zd_Situation_ableOf_38 : decode prog_8_method_7_code 38 = .ok (.lconst 1, 1) := by decide +kernel
theorem zd_Situation_ableOf_39 : decode prog_8_method_7_code 39 = .ok (.iload 5, 2) := by decide +kernel
theorem zd_Situation_ableOf_41 : decode prog_8_method_7_code 41 = .ok (.lshl, 1) := by decide +kernel
theorem zd_Situation_ableOf_42 : decode prog_8_method_7_code 42 = .ok (.lor, 1) := by decide +kernel
theorem zd_Situation_ableOf_43 : decode prog_8_method_7_code 43 = .ok (.lstore_n 3, 1) := by decide +kernel
theorem zd_Situation_ableOf_44 : decode prog_8_method_7_code 44 = .ok (.iinc 5 1, 3) := by decide +kernel
theorem zd_Situation_ableOf_47 : decode prog_8_method_7_code 47 = .ok (.goto (-42), 3) := by decide +kernel
theorem zd_Situation_ableOf_50 : decode prog_8_method_7_code 50 = .ok (.lload_n 3, 1) := by decide +kernel
theorem zd_Situation_ableOf_51 : decode prog_8_method_7_code 51 = .ok (.lconst 0, 1) := by decide +kernel
theorem zd_Situation_ableOf_52 : decode prog_8_method_7_code 52 = .ok (.lcmp, 1) := by decide +kernel
theorem zd_Situation_ableOf_53 : decode prog_8_method_7_code 53 = .ok (.ifCond .ne 15, 3) := by decide +kernel
theorem zd_Situation_ableOf_56 : decode prog_8_method_7_code 56 = .ok (.lload_n 1, 1) := by decide +kernel
theorem zd_Situation_ableOf_57 : decode prog_8_method_7_code 57 = .ok (.aload_n 0, 1) := by decide +kernel
theorem zd_Situation_ableOf_58 : decode prog_8_method_7_code 58 = .ok (.getfield 19, 3) := by decide +kernel
theorem zd_Situation_ableOf_61 : decode prog_8_method_7_code 61 = .ok (.getfield 93, 3) := by decide +kernel
theorem zd_Situation_ableOf_64 : decode prog_8_method_7_code 64 = .ok (.land, 1) := by decide +kernel
theorem zd_Situation_ableOf_65 : decode prog_8_method_7_code 65 = .ok (.goto 4, 3) := by decide +kernel
theorem zd_Situation_ableOf_68 : decode prog_8_method_7_code 68 = .ok (.lload_n 3, 1) := by decide +kernel
theorem zd_Situation_ableOf_69 : decode prog_8_method_7_code 69 = .ok (.lreturn, 1) := by decide +kernel
theorem zd_Situation_canBeDone_0 : decode prog_8_method_8_code 0 = .ok (.aload_n 0, 1) := by decide +kernel
theorem zd_Situation_canBeDone_1 : decode prog_8_method_8_code 1 = .ok (.getfield 19, 3) := by decide +kernel
theorem zd_Situation_canBeDone_4 : decode prog_8_method_8_code 4 = .ok (.getfield 96, 3) := by decide +kernel
theorem zd_Situation_canBeDone_7 : decode prog_8_method_8_code 7 = .ok (.iload_n 1, 1) := by decide +kernel
theorem zd_Situation_canBeDone_8 : decode prog_8_method_8_code 8 = .ok (.iaload, 1) := by decide +kernel
theorem zd_Situation_canBeDone_9 : decode prog_8_method_8_code 9 = .ok (.tableswitch 121 0 4 #[35, 37, 66, 98, 35], 35) := by decide +kernel
theorem zd_Situation_canBeDone_44 : decode prog_8_method_8_code 44 = .ok (.iconst 1, 1) := by decide +kernel
theorem zd_Situation_canBeDone_45 : decode prog_8_method_8_code 45 = .ok (.ireturn, 1) := by decide +kernel
theorem zd_Situation_canBeDone_46 : decode prog_8_method_8_code 46 = .ok (.aload_n 0, 1) := by decide +kernel
theorem zd_Situation_canBeDone_47 : decode prog_8_method_8_code 47 = .ok (.getfield 15, 3) := by decide +kernel
theorem zd_Situation_canBeDone_50 : decode prog_8_method_8_code 50 = .ok (.aload_n 0, 1) := by decide +kernel
theorem zd_Situation_canBeDone_51 : decode prog_8_method_8_code 51 = .ok (.getfield 19, 3) := by decide +kernel
theorem zd_Situation_canBeDone_54 : decode prog_8_method_8_code 54 = .ok (.getfield 99, 3) := by decide +kernel
theorem zd_Situation_canBeDone_57 : decode prog_8_method_8_code 57 = .ok (.iload_n 1, 1) := by decide +kernel
theorem zd_Situation_canBeDone_58 : decode prog_8_method_8_code 58 = .ok (.iaload, 1) := by decide +kernel
theorem zd_Situation_canBeDone_59 : decode prog_8_method_8_code 59 = .ok (.aload_n 0, 1) := by decide +kernel
theorem zd_Situation_canBeDone_60 : decode prog_8_method_8_code 60 = .ok (.getfield 25, 3) := by decide +kernel
theorem zd_Situation_canBeDone_63 : decode prog_8_method_8_code 63 = .ok (.invokevirtual 102, 3) := by decide +kernel
theorem zd_Situation_canBeDone_66 : decode prog_8_method_8_code 66 = .ok (.ifCond .eq 7, 3) := by decide +kernel
theorem zd_Situation_canBeDone_69 : decode prog_8_method_8_code 69 = .ok (.iconst 1, 1) := by decide +kernel
theorem zd_Situation_canBeDone_70 : decode prog_8_method_8_code 70 = .ok (.goto 4, 3) := by decide +kernel
theorem zd_Situation_canBeDone_73 : decode prog_8_method_8_code 73 = .ok (.iconst 0, 1) := by decide +kernel
theorem zd_Situation_canBeDone_74 : decode prog_8_method_8_code 74 = .ok (.ireturn, 1) := by decide +kernel
theorem zd_Situation_canBeDone_75 : decode prog_8_method_8_code 75 = .ok (.aload_n 0, 1) := by decide +kernel
theorem zd_Situation_canBeDone_76 : decode prog_8_method_8_code 76 = .ok (.aload_n 0, 1) := by decide +kernel
theorem zd_Situation_canBeDone_77 : decode prog_8_method_8_code 77 = .ok (.getfield 19, 3) := by decide +kernel
theorem zd_Situation_canBeDone_80 : decode prog_8_method_8_code 80 = .ok (.getfield 108, 3) := by decide +kernel
theorem zd_Situation_canBeDone_83 : decode prog_8_method_8_code 83 = .ok (.iload_n 1, 1) := by decide +kernel
theorem zd_Situation_canBeDone_84 : decode prog_8_method_8_code 84 = .ok (.iaload, 1) := by decide +kernel
theorem zd_Situation_canBeDone_85 : decode prog_8_method_8_code 85 = .ok (.invokevirtual 111, 3) := by decide +kernel
theorem zd_Situation_canBeDone_88 : decode prog_8_method_8_code 88 = .ok (.ifCond .ne 13, 3) := by decide +kernel
theorem zd_Situation_canBeDone_91 : decode prog_8_method_8_code 91 = .ok (.aload_n 0, 1) := by decide +kernel
theorem zd_Situation_canBeDone_92 : decode prog_8_method_8_code 92 = .ok (.iload_n 1, 1) := by decide +kernel
theorem zd_Situation_canBeDone_93 : decode prog_8_method_8_code 93 = .ok (.invokevirtual 114, 3) := by decide +kernel
theorem zd_Situation_canBeDone_96 : decode prog_8_method_8_code 96 = .ok (.lconst 0, 1) := by decide +kernel
theorem zd_Situation_canBeDone_97 : decode prog_8_method_8_code 97 = .ok (.lcmp, 1) := by decide +kernel
theorem zd_Situation_canBeDone_98 : decode prog_8_method_8_code 98 = .ok (.ifCond .eq 7, 3) := by decide +kernel
theorem zd_Situation_canBeDone_101 : decode prog_8_method_8_code 101 = .ok (.iconst 1, 1) := by decide +kernel
theorem zd_Situation_canBeDone_102 : decode prog_8_method_8_code 102 = .ok (.goto 4, 3) := by decide +kernel
theorem zd_Situation_canBeDone_105 : decode prog_8_method_8_code 105 = .ok (.iconst 0, 1) := by decide +kernel
theorem zd_Situation_canBeDone_106 : decode prog_8_method_8_code 106 = .ok (.ireturn, 1) := by decide +kernel
theorem zd_Situation_canBeDone_107 : decode prog_8_method_8_code 107 = .ok (.aload_n 0, 1) := by decide +kernel
theorem zd_Situation_canBeDone_108 : decode prog_8_method_8_code 108 = .ok (.getfield 25, 3) := by decide +kernel
theorem zd_Situation_canBeDone_111 : decode prog_8_method_8_code 111 = .ok (.aload_n 0, 1) := by decide +kernel
theorem zd_Situation_canBeDone_112 : decode prog_8_method_8_code 112 = .ok (.getfield 19, 3) := by decide +kernel
theorem zd_Situation_canBeDone_115 : decode prog_8_method_8_code 115 = .ok (.getfield 108, 3) := by decide +kernel
theorem zd_Situation_canBeDone_118 : decode prog_8_method_8_code 118 = .ok (.iload_n 1, 1) := by decide +kernel
theorem zd_Situation_canBeDone_119 : decode prog_8_method_8_code 119 = .ok (.iaload, 1) := by decide +kernel
theorem zd_Situation_canBeDone_120 : decode prog_8_method_8_code 120 = .ok (.iaload, 1) := by decide +kernel
theorem zd_Situation_canBeDone_121 : decode prog_8_method_8_code 121 = .ok (.ifCond .le 7, 3) := by decide +kernel
theorem zd_Situation_canBeDone_124 : decode prog_8_method_8_code 124 = .ok (.iconst 1, 1) := by decide +kernel
theorem zd_Situation_canBeDone_125 : decode prog_8_method_8_code 125 = .ok (.goto 4, 3) := by decide +kernel
theorem zd_Situation_canBeDone_128 : decode prog_8_method_8_code 128 = .ok (.iconst 0, 1) := by decide +kernel
theorem zd_Situation_canBeDone_129 : decode prog_8_method_8_code 129 = .ok (.ireturn, 1) := by decide +kernel
theorem zd_Situation_canBeDone_130 : decode prog_8_method_8_code 130 = .ok (.iconst 0, 1) := by decide +kernel
theorem zd_Situation_canBeDone_131 : decode prog_8_method_8_code 131 = .ok (.ireturn, 1) := by decide +kernel
theorem zd_Situation_hasFreeSlot_0 : decode prog_8_method_9_code 0 = .ok (.aload_n 0, 1) := by decide +kernel
theorem zd_Situation_hasFreeSlot_1 : decode prog_8_method_9_code 1 = .ok (.getfield 25, 3) := by decide +kernel
theorem zd_Situation_hasFreeSlot_4 : decode prog_8_method_9_code 4 = .ok (.iload_n 1, 1) := by decide +kernel
theorem zd_Situation_hasFreeSlot_5 : decode prog_8_method_9_code 5 = .ok (.iaload, 1) := by decide +kernel
theorem zd_Situation_hasFreeSlot_6 : decode prog_8_method_9_code 6 = .ok (.aload_n 0, 1) := by decide +kernel
theorem zd_Situation_hasFreeSlot_7 : decode prog_8_method_9_code 7 = .ok (.getfield 9, 3) := by decide +kernel
theorem zd_Situation_hasFreeSlot_10 : decode prog_8_method_9_code 10 = .ok (.getfield 53, 3) := by decide +kernel
theorem zd_Situation_hasFreeSlot_13 : decode prog_8_method_9_code 13 = .ok (.iload_n 1, 1) := by decide +kernel
theorem zd_Situation_hasFreeSlot_14 : decode prog_8_method_9_code 14 = .ok (.iaload, 1) := by decide +kernel
theorem zd_Situation_hasFreeSlot_15 : decode prog_8_method_9_code 15 = .ok (.if_icmp .ge 7, 3) := by decide +kernel
theorem zd_Situation_hasFreeSlot_18 : decode prog_8_method_9_code 18 = .ok (.iconst 1, 1) := by decide +kernel
theorem zd_Situation_hasFreeSlot_19 : decode prog_8_method_9_code 19 = .ok (.goto 4, 3) := by decide +kernel
theorem zd_Situation_hasFreeSlot_22 : decode prog_8_method_9_code 22 = .ok (.iconst 0, 1) := by decide +kernel
theorem zd_Situation_hasFreeSlot_23 : decode prog_8_method_9_code 23 = .ok (.ireturn, 1) := by decide +kernel
theorem zd_Situation_partners_0 : decode prog_8_method_10_code 0 = .ok (.aload_n 0, 1) := by decide +kernel
theorem zd_Situation_partners_1 : decode prog_8_method_10_code 1 = .ok (.getfield 19, 3) := by decide +kernel
theorem zd_Situation_partners_4 : decode prog_8_method_10_code 4 = .ok (.getfield 96, 3) := by decide +kernel
theorem zd_Situation_partners_7 : decode prog_8_method_10_code 7 = .ok (.iload_n 1, 1) := by decide +kernel
theorem zd_Situation_partners_8 : decode prog_8_method_10_code 8 = .ok (.iaload, 1) := by decide +kernel
theorem zd_Situation_partners_9 : decode prog_8_method_10_code 9 = .ok (.iconst 2, 1) := by decide +kernel
theorem zd_Situation_partners_10 : decode prog_8_method_10_code 10 = .ok (.if_icmp .ne 23, 3) := by decide +kernel
theorem zd_Situation_partners_13 : decode prog_8_method_10_code 13 = .ok (.aload_n 0, 1) := by decide +kernel
theorem zd_Situation_partners_14 : decode prog_8_method_10_code 14 = .ok (.getfield 9, 3) := by decide +kernel
theorem zd_Situation_partners_17 : decode prog_8_method_10_code 17 = .ok (.getfield 53, 3) := by decide +kernel
theorem zd_Situation_partners_20 : decode prog_8_method_10_code 20 = .ok (.aload_n 0, 1) := by decide +kernel
theorem zd_Situation_partners_21 : decode prog_8_method_10_code 21 = .ok (.getfield 19, 3) := by decide +kernel
theorem zd_Situation_partners_24 : decode prog_8_method_10_code 24 = .ok (.getfield 108, 3) := by decide +kernel
theorem zd_Situation_partners_27 : decode prog_8_method_10_code 27 = .ok (.iload_n 1, 1) := by decide +kernel
theorem zd_Situation_partners_28 : decode prog_8_method_10_code 28 = .ok (.iaload, 1) := by decide +kernel
theorem zd_Situation_partners_29 : decode prog_8_method_10_code 29 = .ok (.iaload, 1) := by decide +kernel
theorem zd_Situation_partners_30 : decode prog_8_method_10_code 30 = .ok (.ifCond .le 5, 3) := by decide +kernel
theorem zd_Situation_partners_33 : decode prog_8_method_10_code 33 = .ok (.lconst 0, 1) := by decide +kernel
theorem zd_Situation_partners_34 : decode prog_8_method_10_code 34 = .ok (.lreturn, 1) := by decide +kernel
theorem zd_Situation_partners_35 : decode prog_8_method_10_code 35 = .ok (.aload_n 0, 1) := by decide +kernel
theorem zd_Situation_partners_36 : decode prog_8_method_10_code 36 = .ok (.getfield 19, 3) := by decide +kernel
theorem zd_Situation_partners_39 : decode prog_8_method_10_code 39 = .ok (.getfield 118, 3) := by decide +kernel
theorem zd_Situation_partners_42 : decode prog_8_method_10_code 42 = .ok (.iload_n 1, 1) := by decide +kernel
theorem zd_Situation_partners_43 : decode prog_8_method_10_code 43 = .ok (.iaload, 1) := by decide +kernel
theorem zd_Situation_partners_44 : decode prog_8_method_10_code 44 = .ok (.istore_n 2, 1) := by decide +kernel
theorem zd_Situation_partners_45 : decode prog_8_method_10_code 45 = .ok (.aload_n 0, 1) := by decide +kernel
theorem zd_Situation_partners_46 : decode prog_8_method_10_code 46 = .ok (.getfield 19, 3) := by decide +kernel
theorem zd_Situation_partners_49 : decode prog_8_method_10_code 49 = .ok (.getfield 121, 3) := by decide +kernel
theorem zd_Situation_partners_52 : decode prog_8_method_10_code 52 = .ok (.aload_n 0, 1) := by decide +kernel
theorem zd_Situation_partners_53 : decode prog_8_method_10_code 53 = .ok (.getfield 19, 3) := by decide +kernel
theorem zd_Situation_partners_56 : decode prog_8_method_10_code 56 = .ok (.getfield 108, 3) := by decide +kernel
theorem zd_Situation_partners_59 : decode prog_8_method_10_code 59 = .ok (.iload_n 1, 1) := by decide +kernel
theorem zd_Situation_partners_60 : decode prog_8_method_10_code 60 = .ok (.iaload, 1) := by decide +kernel
theorem zd_Situation_partners_61 : decode prog_8_method_10_code 61 = .ok (.laload, 1) := by decide +kernel
theorem zd_Situation_partners_62 : decode prog_8_method_10_code 62 = .ok (.aload_n 0, 1) := by decide +kernel
theorem zd_Situation_partners_63 : decode prog_8_method_10_code 63 = .ok (.getfield 71, 3) := by decide +kernel
theorem zd_Situation_partners_66 : decode prog_8_method_10_code 66 = .ok (.land, 1) := by decide +kernel
theorem zd_Situation_partners_67 : decode prog_8_method_10_code 67 = .ok (.aload_n 0, 1) := by decide +kernel
theorem zd_Situation_partners_68 : decode prog_8_method_10_code 68 = .ok (.getfield 19, 3) := by decide +kernel
theorem zd_Situation_partners_71 : decode prog_8_method_10_code 71 = .ok (.iload_n 2, 1) := by decide +kernel
theorem zd_Situation_partners_72 : decode prog_8_method_10_code 72 = .ok (.aload_n 0, 1) := by decide +kernel
theorem zd_Situation_partners_73 : decode prog_8_method_10_code 73 = .ok (.getfield 34, 3) := by decide +kernel
theorem zd_Situation_partners_76 : decode prog_8_method_10_code 76 = .ok (.iload_n 2, 1) := by decide +kernel
theorem zd_Situation_partners_77 : decode prog_8_method_10_code 77 = .ok (.iaload, 1) := by decide +kernel
theorem zd_Situation_partners_78 : decode prog_8_method_10_code 78 = .ok (.invokevirtual 78, 3) := by decide +kernel
theorem zd_Situation_partners_81 : decode prog_8_method_10_code 81 = .ok (.ldc2_w 125, 3) := by decide +kernel
theorem zd_Situation_partners_84 : decode prog_8_method_10_code 84 = .ok (.lxor, 1) := by decide +kernel
theorem zd_Situation_partners_85 : decode prog_8_method_10_code 85 = .ok (.land, 1) := by decide +kernel
theorem zd_Situation_partners_86 : decode prog_8_method_10_code 86 = .ok (.lreturn, 1) := by decide +kernel
def wb_Graph_enter_2 (a0 : Int64) (K2 : Int64 → Int32 → (Nat → Int32) → (Nat → Int64) → (Nat → Nat → Int32) → (Nat → Nat → Int64) → Prop) (Post : Int32 → (Nat → Int32) → (Nat → Int64) → (Nat → Nat → Int32) → (Nat → Nat → Int64) → Prop) (x1 : Int64) (x3 : Int32) (I : Nat → Int32) (J : Nat → Int64) (B : Nat → Nat → Int32) (D : Nat → Nat → Int64) : Prop :=
  (((I 19) ≤ x3 → ((¬ (I 19) = 96 → vp_in (I 19) 96 ∧ ∀ z3 : Int32, z3 = ((I 19) + 1) → ∀ z4 : Int32, z4 = (z3 - 1) → Post z4 (upd I 19 z3) J B (va_up D 2 (vp_updL (D 2) (I 19).toNatClampNeg x1))) ∧ ((I 19) = 96 → Post (-1) I J B D))) ∧ (¬ (I 19) ≤ x3 → vp_in x3 96 ∧ ∀ z5 : Int64, z5 = ((D 2) x3.toNatClampNeg) → ∀ z6 : Int32, z6 = (lg_cmp z5 x1) → ((¬ z6 = 0 → ∀ z8 : Int32, z8 = (x3 + 1) → K2 x1 z8 I J B D) ∧ (z6 = 0 → Post x3 I J B D))))
def wl_Graph_enter_2 (a0 : Int64) (Post : Int32 → (Nat → Int32) → (Nat → Int64) → (Nat → Nat → Int32) → (Nat → Nat → Int64) → Prop) (n : Nat) : Int64 → Int32 → (Nat → Int32) → (Nat → Int64) → (Nat → Nat → Int32) → (Nat → Nat → Int64) → Prop := Nat.rec (fun _ _ _ _ _ _ => False) (fun _ r => wb_Graph_enter_2 a0 r Post) n
def wp_Graph_enter (I : Nat → Int32) (J : Nat → Int64) (B : Nat → Nat → Int32) (D : Nat → Nat → Int64) (a0 : Int64) (Post : Int32 → (Nat → Int32) → (Nat → Int64) → (Nat → Nat → Int32) → (Nat → Nat → Int64) → Prop) : Prop :=
  ∃ n : Nat, wl_Graph_enter_2 a0 Post n a0 0 I J B D
set_option maxHeartbeats 8000000 in
set_option maxRecDepth 100000 in
theorem wB_Graph_enter_2 {p : Program} {l : Launch} {e : Env} {s : State} {m : MethodId} {below : List Frame} {meth : Method} {c : Code} {A : Nat → Prop} (G : va_G) (K : Nat → ClassId) (ad : Nat → Nat) (sv : Value) (a0 : Int64) (Post : Int32 → (Nat → Int32) → (Nat → Int64) → (Nat → Nat → Int32) → (Nat → Nat → Int64) → Prop) (C : zCx p s m ([.ref (ad 8), .long a0] : List Value).toArray meth c A G K prog_3_method_8_code (some .int) 4 "LassoFinder$Graph") (K2 : Int64 → Int32 → (Nat → Int32) → (Nat → Int64) → (Nat → Nat → Int32) → (Nat → Nat → Int64) → Prop) (kh2 : ∀ (x1 : Int64) (x3 : Int32) (I : Nat → Int32) (J : Nat → Int64) (B : Nat → Nat → Int32) (D : Nat → Nat → Int64) (ls : Array Slot) (H : Heap) (locs : List Loc), K2 x1 x3 I J B D → lv_has ls 4 [(0, .ref (ad 8)), (1, .long x1), (3, .int x3)] → zW G A s.heap (wX ad K sv I J B D) H locs → W p l e { frames := 0, cells := 0, slots := 0, locals := 0 } s m ([.ref (ad 8), .long a0] : List Value).toArray below meth c H locs 0 0 (MQ below (va_Qi (fun (r : Int32) (u : zS) => Post r u.1 u.2.1 u.2.2.1 u.2.2.2) (fun u t => zPost G K A (wX ad K sv u.1 u.2.1 u.2.2.1 u.2.2.2) t) A) ([.ref (ad 8), .long a0] : List Value).toArray s 0 0 A) (F0 m 2 ls [])) : ∀ (x1 : Int64) (x3 : Int32) (I : Nat → Int32) (J : Nat → Int64) (B : Nat → Nat → Int32) (D : Nat → Nat → Int64) (ls : Array Slot) (H : Heap) (locs : List Loc), wb_Graph_enter_2 a0 K2 Post x1 x3 I J B D → lv_has ls 4 [(0, .ref (ad 8)), (1, .long x1), (3, .int x3)] → zW G A s.heap (wX ad K sv I J B D) H locs → W p l e { frames := 0, cells := 0, slots := 0, locals := 0 } s m ([.ref (ad 8), .long a0] : List Value).toArray below meth c H locs 0 0 (MQ below (va_Qi (fun (r : Int32) (u : zS) => Post r u.1 u.2.1 u.2.2.1 u.2.2.2) (fun u t => zPost G K A (wX ad K sv u.1 u.2.1 u.2.2.1 u.2.2.2) t) A) ([.ref (ad 8), .long a0] : List Value).toArray s 0 0 A) (F0 m 2 ls []) := by
  obtain ⟨hx, hb, hr, hml, hts, hown, hlocks, hA, hK⟩ := id C
  intro x1 x3 I J B D ls H locs hok hl hw
  unfold wb_Graph_enter_2 at hok
  refine lv_iload_n hx hb zd_Graph_enter_2 rfl (lv_at hl 2 rfl) ?_
  refine lv_aload_n hx hb zd_Graph_enter_3 rfl (lv_at hl 0 rfl) ?_
  refine z_get (v := .int (I 19)) hx hb hts hown hK hw zZ2 8 wX_g8 9 (by decide) zn_429 rfl zd_Graph_enter_4 ?_
  refine lv_icmp_ge (tgt := 29) hx hb zd_Graph_enter_7 (by decide) (fun hc1 => ?_) (fun hc1 => ?_)
  · have hok := hok.1 hc1
    refine lv_aload_n hx hb zd_Graph_enter_29 rfl (lv_at hl 0 rfl) ?_
    refine z_get (v := .int (I 19)) hx hb hts hown hK hw zZ2 8 wX_g8 9 (by decide) zn_429 rfl zd_Graph_enter_30 ?_
    refine lv_bipush (v := 96) hx hb zd_Graph_enter_33 (by decide) ?_
    refine lv_icmp_ne (tgt := 40) hx hb zd_Graph_enter_35 (by decide) (fun hc2 => ?_) (fun hc2 => ?_)
    · have hok := hok.1 hc2
      refine lv_aload_n hx hb zd_Graph_enter_40 rfl (lv_at hl 0 rfl) ?_
      refine z_get (v := .ref (ad 46)) hx hb hts hown hK hw zZ2 8 wX_g8 1 (by decide) zn_269 rfl zd_Graph_enter_41 ?_
      refine lv_aload_n hx hb zd_Graph_enter_44 rfl (lv_at hl 0 rfl) ?_
      refine z_get (v := .int (I 19)) hx hb hts hown hK hw zZ2 8 wX_g8 9 (by decide) zn_429 rfl zd_Graph_enter_45 ?_
      refine lv_lload_n hx hb zd_Graph_enter_48 rfl (lv_at hl 1 rfl) ?_
      refine va_last (f := (D 2)) hx hb hK hw.1 hw.2.1 hw.2.2 46 1 wX_a46 rfl hok.1 zd_Graph_enter_49 (fun H locs w91 w92 w93 => ?_)
      have hok := hok.2
      have hw := wX_t46 ⟨w91, w92, w93⟩
      refine lv_aload_n hx hb zd_Graph_enter_50 rfl (lv_at hl 0 rfl) ?_
      refine lv_dup hx hb zd_Graph_enter_51 rfl ?_
      refine z_get (v := .int (I 19)) hx hb hts hown hK hw zZ2 8 wX_g8 9 (by decide) zn_429 rfl zd_Graph_enter_52 ?_
      refine lv_iconst (v := 1) hx hb zd_Graph_enter_55 (by decide) ?_
      refine lv_iadd hx hb zd_Graph_enter_56 ?_
      refine lv_topi (fun z3 ez3 => ?_)
      have hok := hok z3 ez3
      refine z_put (v := .int z3) hx hb hts hown hK hw zZ2 8 wX_g8 9 (by decide) zn_429 rfl rfl rfl (Nat.le_of_ble_eq_true rfl) zd_Graph_enter_57 (fun H locs hw => ?_)
      have hw := wX_sI19 hw
      refine lv_aload_n hx hb zd_Graph_enter_60 rfl (lv_at hl 0 rfl) ?_
      refine z_get (v := .int z3) hx hb hts hown hK hw zZ2 8 wX_g8 9 (by decide) zn_429 rfl zd_Graph_enter_61 ?_
      refine lv_iconst (v := 1) hx hb zd_Graph_enter_64 (by decide) ?_
      refine lv_isub hx hb zd_Graph_enter_65 ?_
      refine lv_topi (fun z4 ez4 => ?_)
      have hok := hok z4 ez4
      exact (z_iret (u := ((upd I 19 z3), J, B, (va_up D 2 (vp_updL (D 2) (I 19).toNatClampNeg x1)))) hx hb hr hlocks rfl hw (List.range 65) wX_all wX_nd hok (Nat.le_of_ble_eq_true rfl) (Nat.le_of_ble_eq_true rfl) zd_Graph_enter_66)
    · have hok := hok.2 hc2
      refine lv_iconst (v := (-1)) hx hb zd_Graph_enter_38 (by decide) ?_
      exact (z_iret (u := (I, J, B, D)) hx hb hr hlocks rfl hw (List.range 65) wX_all wX_nd hok (Nat.le_of_ble_eq_true rfl) (Nat.le_of_ble_eq_true rfl) zd_Graph_enter_39)
  · have hok := hok.2 hc1
    refine lv_aload_n hx hb zd_Graph_enter_10 rfl (lv_at hl 0 rfl) ?_
    refine z_get (v := .ref (ad 46)) hx hb hts hown hK hw zZ2 8 wX_g8 1 (by decide) zn_269 rfl zd_Graph_enter_11 ?_
    refine lv_iload_n hx hb zd_Graph_enter_14 rfl (lv_at hl 2 rfl) ?_
    refine va_lald (f := (D 2)) hx hb hK hw.1 46 1 wX_a46 rfl hok.1 zd_Graph_enter_15 ?_
    have hok := hok.2
    refine lv_topl (fun z5 ez5 => ?_)
    have hok := hok z5 ez5
    refine lv_lload_n hx hb zd_Graph_enter_16 rfl (lv_at hl 1 rfl) ?_
    refine W.lcmp hx hb zd_Graph_enter_17 ?_
    refine lv_topi (fun z6 ez6 => ?_)
    have hok := hok z6 ez6
    refine lv_if_ne (tgt := 23) hx hb zd_Graph_enter_18 (by decide) (fun hc7 => ?_) (fun hc7 => ?_)
    · have hok := hok.1 hc7
      obtain ⟨z8, ez8⟩ : ∃ z : Int32, z = (x3 + 1) := ⟨_, rfl⟩
      have hok := hok z8 ez8
      refine lv_iinc (v := z8) hx hb zd_Graph_enter_23 hl (k := 2) rfl ez8.symm (by decide) rfl (fun ls hl => ?_)
      have hl : lv_has ls 4 [(3, .int z8), (0, .ref (ad 8)), (1, .long x1)] := hl
      refine lv_goto (tgt := 2) hx hb zd_Graph_enter_26 (by decide) ?_
      exact kh2 x1 z8 I J B D ls H locs hok (lv_sub hl [1, 2, 0] rfl) hw
    · have hok := hok.2 hc7
      refine lv_iload_n hx hb zd_Graph_enter_21 rfl (lv_at hl 2 rfl) ?_
      exact (z_iret (u := (I, J, B, D)) hx hb hr hlocks rfl hw (List.range 65) wX_all wX_nd hok (Nat.le_of_ble_eq_true rfl) (Nat.le_of_ble_eq_true rfl) zd_Graph_enter_22)
theorem wL_Graph_enter_2 {p : Program} {l : Launch} {e : Env} {s : State} {m : MethodId} {below : List Frame} {meth : Method} {c : Code} {A : Nat → Prop} (G : va_G) (K : Nat → ClassId) (ad : Nat → Nat) (sv : Value) (a0 : Int64) (Post : Int32 → (Nat → Int32) → (Nat → Int64) → (Nat → Nat → Int32) → (Nat → Nat → Int64) → Prop) (C : zCx p s m ([.ref (ad 8), .long a0] : List Value).toArray meth c A G K prog_3_method_8_code (some .int) 4 "LassoFinder$Graph") : ∀ (n : Nat) (x1 : Int64) (x3 : Int32) (I : Nat → Int32) (J : Nat → Int64) (B : Nat → Nat → Int32) (D : Nat → Nat → Int64) (ls : Array Slot) (H : Heap) (locs : List Loc), wl_Graph_enter_2 a0 Post n x1 x3 I J B D → lv_has ls 4 [(0, .ref (ad 8)), (1, .long x1), (3, .int x3)] → zW G A s.heap (wX ad K sv I J B D) H locs → W p l e { frames := 0, cells := 0, slots := 0, locals := 0 } s m ([.ref (ad 8), .long a0] : List Value).toArray below meth c H locs 0 0 (MQ below (va_Qi (fun (r : Int32) (u : zS) => Post r u.1 u.2.1 u.2.2.1 u.2.2.2) (fun u t => zPost G K A (wX ad K sv u.1 u.2.1 u.2.2.1 u.2.2.2) t) A) ([.ref (ad 8), .long a0] : List Value).toArray s 0 0 A) (F0 m 2 ls []) := by
  intro n
  induction n with
  | zero => intro x1 x3 I J B D ls H locs hok; exact hok.elim
  | succ n ih => exact wB_Graph_enter_2 G K ad sv a0 Post C (wl_Graph_enter_2 a0 Post n) ih
set_option maxHeartbeats 8000000 in
set_option maxRecDepth 100000 in
theorem w_Graph_enter (l : Launch) (G : va_G) (K : Nat → ClassId) (ad : Nat → Nat) (sv : Value) (I : Nat → Int32) (J : Nat → Int64) (B : Nat → Nat → Int32) (D : Nat → Nat → Int64) (a0 : Int64) (Post : Int32 → (Nat → Int32) → (Nat → Int64) → (Nat → Nat → Int32) → (Nat → Nat → Int64) → Prop) (sz : Nat) (hok : wp_Graph_enter I J B D a0 Post) : Met l zy_Graph_enter (Cond.code zy_Graph_enter prog_3_method_8_code 4 (some .int) :: zTB) { frames := 0, cells := 0, slots := 0, locals := 0 } (va_Pc [.ref (ad 8), .long a0] (zPre G K (wX ad K sv I J B D) sz)) (va_Qi (fun (r : Int32) (u : zS) => Post r u.1 u.2.1 u.2.2.1 u.2.2.2) (fun u t => zPost G K (va_A (wX ad K sv I J B D) sz) (wX ad K sv u.1 u.2.1 u.2.2.1 u.2.2.2) t) (va_A (wX ad K sv I J B D) sz)) 0 0 (va_A (wX ad K sv I J B D) sz) := by
  refine zMet (y := zy_Graph_enter) (av := [.ref (ad 8), .long a0]) (maxL := 4) (cc := prog_3_method_8_code) (ret := (some .int)) (W0 := (wX ad K sv I J B D)) (sz := sz) (G := G) (K := K) (wt := zTB) (mc := 0) (ms := 0) (Qf := fun A => va_Qi (fun (r : Int32) (u : zS) => Post r u.1 u.2.1 u.2.2.1 u.2.2.2) (fun u t => zPost G K A (wX ad K sv u.1 u.2.1 u.2.2.1 u.2.2.2) t) A) (by decide) (Nat.le_of_ble_eq_true rfl) ?_
  intro p e s m below meth c ls A hx hb hr hml hts hown hlocks hin hA hK H locs hw hsz hl
  clear hsz
  have hown : s.vm.findClass "LassoFinder$Graph" = some m.cls := hown
  have C : zCx p s m ([.ref (ad 8), .long a0] : List Value).toArray meth c A G K prog_3_method_8_code (some .int) 4 "LassoFinder$Graph" := ⟨hx, hb, hr, hml, hts, hown, hlocks, hA, hK⟩
  have hl : lv_has ls 4 [(0, .ref (ad 8)), (1, .long a0)] := hl
  have hw : zW G A s.heap (wX ad K sv I J B D) H locs := hw
  unfold wp_Graph_enter at hok
  refine lv_iconst (v := 0) hx hb zd_Graph_enter_0 (by decide) ?_
  refine lv_istore_n hx hb zd_Graph_enter_1 rfl hl (by decide) rfl (fun ls hl => ?_)
  have hl : lv_has ls 4 [(3, .int 0), (0, .ref (ad 8)), (1, .long a0)] := hl
  obtain ⟨n9, hok⟩ := hok
  exact wL_Graph_enter_2 G K ad sv a0 Post C n9 a0 0 I J B D ls H locs hok (lv_sub hl [1, 2, 0] rfl) hw
def wc_Graph_addDone_58 (a0 : Int32) (a1 : Int32) (a2 : Int32) (Post : Int32 → (Nat → Int32) → (Nat → Int64) → (Nat → Nat → Int32) → (Nat → Nat → Int64) → Prop) (y0 : Int32) (I : Nat → Int32) (J : Nat → Int64) (B : Nat → Nat → Int32) (D : Nat → Nat → Int64) : Prop :=
  (y0 = 0 ∨ y0 = 1) ∧ Post y0 I J B D
def wc_Graph_addDone_57 (a0 : Int32) (a1 : Int32) (a2 : Int32) (Post : Int32 → (Nat → Int32) → (Nat → Int64) → (Nat → Nat → Int32) → (Nat → Nat → Int64) → Prop)  (I : Nat → Int32) (J : Nat → Int64) (B : Nat → Nat → Int32) (D : Nat → Nat → Int64) : Prop :=
  wc_Graph_addDone_58 a0 a1 a2 Post 0 I J B D
def wp_Graph_addDone (I : Nat → Int32) (J : Nat → Int64) (B : Nat → Nat → Int32) (D : Nat → Nat → Int64) (a0 : Int32) (a1 : Int32) (a2 : Int32) (Post : Int32 → (Nat → Int32) → (Nat → Int64) → (Nat → Nat → Int32) → (Nat → Nat → Int64) → Prop) : Prop :=
  vp_in a0 96 ∧ ∀ z1 : Int64, z1 = ((D 2) a0.toNatClampNeg) → wp_Situation_unpack I J B D z1 (fun I2 J2 B2 D2 => wp_Situation_perform I2 J2 B2 D2 a1 a2 (fun I3 J3 B3 D3 => wp_Situation_packed I3 J3 B3 D3  (fun r4 I4 J4 B4 D4 => wp_Graph_enter I4 J4 B4 D4 r4 (fun r5 I5 J5 B5 D5 => ((r5 = (-1) → wc_Graph_addDone_57 a0 a1 a2 Post I5 J5 B5 D5) ∧ (¬ r5 = (-1) → wp_Graph_add I5 J5 B5 D5 a0 r5 a1 a2 (fun r7 I7 J7 B7 D7 => ((r7 = 0 → wc_Graph_addDone_57 a0 a1 a2 Post I7 J7 B7 D7) ∧ (¬ r7 = 0 → wc_Graph_addDone_58 a0 a1 a2 Post 1 I7 J7 B7 D7)))))))))
set_option maxHeartbeats 8000000 in
set_option maxRecDepth 100000 in
theorem wJ_Graph_addDone_58 {p : Program} {l : Launch} {e : Env} {s : State} {m : MethodId} {below : List Frame} {meth : Method} {c : Code} {A : Nat → Prop} (G : va_G) (K : Nat → ClassId) (ad : Nat → Nat) (sv : Value) (a0 : Int32) (a1 : Int32) (a2 : Int32) (Post : Int32 → (Nat → Int32) → (Nat → Int64) → (Nat → Nat → Int32) → (Nat → Nat → Int64) → Prop) (C : zCx p s m ([.ref (ad 8), .int a0, .int a1, .int a2] : List Value).toArray meth c A G K prog_3_method_6_code (some .boolean) 5 "LassoFinder$Graph") : ∀ (y0 : Int32) (I : Nat → Int32) (J : Nat → Int64) (B : Nat → Nat → Int32) (D : Nat → Nat → Int64) (ls : Array Slot) (H : Heap) (locs : List Loc), wc_Graph_addDone_58 a0 a1 a2 Post y0 I J B D → lv_has ls 5 [] → zW G A s.heap (wX ad K sv I J B D) H locs → W p l e { frames := 3, cells := 0, slots := 0, locals := 71 } s m ([.ref (ad 8), .int a0, .int a1, .int a2] : List Value).toArray below meth c H locs 0 0 (MQ below (va_Qi (fun (r : Int32) (u : zS) => Post r u.1 u.2.1 u.2.2.1 u.2.2.2) (fun u t => zPost G K A (wX ad K sv u.1 u.2.1 u.2.2.1 u.2.2.2) t) A) ([.ref (ad 8), .int a0, .int a1, .int a2] : List Value).toArray s 0 0 A) (F0 m 58 ls [.int y0]) := by
  obtain ⟨hx, hb, hr, hml, hts, hown, hlocks, hA, hK⟩ := id C
  intro y0 I J B D ls H locs hok hl hw
  unfold wc_Graph_addDone_58 at hok
  have hbo := hok.1
  have hok := hok.2
  exact (z_iret (u := (I, J, B, D)) hx hb hr hlocks (z_nar hbo) hw (List.range 65) wX_all wX_nd hok (Nat.le_of_ble_eq_true rfl) (Nat.le_of_ble_eq_true rfl) zd_Graph_addDone_58)
set_option maxHeartbeats 8000000 in
set_option maxRecDepth 100000 in
theorem wJ_Graph_addDone_57 {p : Program} {l : Launch} {e : Env} {s : State} {m : MethodId} {below : List Frame} {meth : Method} {c : Code} {A : Nat → Prop} (G : va_G) (K : Nat → ClassId) (ad : Nat → Nat) (sv : Value) (a0 : Int32) (a1 : Int32) (a2 : Int32) (Post : Int32 → (Nat → Int32) → (Nat → Int64) → (Nat → Nat → Int32) → (Nat → Nat → Int64) → Prop) (C : zCx p s m ([.ref (ad 8), .int a0, .int a1, .int a2] : List Value).toArray meth c A G K prog_3_method_6_code (some .boolean) 5 "LassoFinder$Graph") : ∀  (I : Nat → Int32) (J : Nat → Int64) (B : Nat → Nat → Int32) (D : Nat → Nat → Int64) (ls : Array Slot) (H : Heap) (locs : List Loc), wc_Graph_addDone_57 a0 a1 a2 Post  I J B D → lv_has ls 5 [] → zW G A s.heap (wX ad K sv I J B D) H locs → W p l e { frames := 3, cells := 0, slots := 0, locals := 71 } s m ([.ref (ad 8), .int a0, .int a1, .int a2] : List Value).toArray below meth c H locs 0 0 (MQ below (va_Qi (fun (r : Int32) (u : zS) => Post r u.1 u.2.1 u.2.2.1 u.2.2.2) (fun u t => zPost G K A (wX ad K sv u.1 u.2.1 u.2.2.1 u.2.2.2) t) A) ([.ref (ad 8), .int a0, .int a1, .int a2] : List Value).toArray s 0 0 A) (F0 m 57 ls []) := by
  obtain ⟨hx, hb, hr, hml, hts, hown, hlocks, hA, hK⟩ := id C
  intro  I J B D ls H locs hok hl hw
  unfold wc_Graph_addDone_57 at hok
  refine lv_iconst (v := 0) hx hb zd_Graph_addDone_57 (by decide) ?_
  exact wJ_Graph_addDone_58 G K ad sv a0 a1 a2 Post C 0 I J B D ls H locs hok (lv_sub hl [] rfl) hw
set_option maxHeartbeats 8000000 in
set_option maxRecDepth 100000 in
theorem w_Graph_addDone (l : Launch) (G : va_G) (K : Nat → ClassId) (ad : Nat → Nat) (sv : Value) (I : Nat → Int32) (J : Nat → Int64) (B : Nat → Nat → Int32) (D : Nat → Nat → Int64) (a0 : Int32) (a1 : Int32) (a2 : Int32) (Post : Int32 → (Nat → Int32) → (Nat → Int64) → (Nat → Nat → Int32) → (Nat → Nat → Int64) → Prop) (sz : Nat) (hok : wp_Graph_addDone I J B D a0 a1 a2 Post) : Met l zy_Graph_addDone (Cond.code zy_Graph_addDone prog_3_method_6_code 5 (some .boolean) :: zTB) { frames := 3, cells := 0, slots := 0, locals := 71 } (va_Pc [.ref (ad 8), .int a0, .int a1, .int a2] (zPre G K (wX ad K sv I J B D) sz)) (va_Qi (fun (r : Int32) (u : zS) => Post r u.1 u.2.1 u.2.2.1 u.2.2.2) (fun u t => zPost G K (va_A (wX ad K sv I J B D) sz) (wX ad K sv u.1 u.2.1 u.2.2.1 u.2.2.2) t) (va_A (wX ad K sv I J B D) sz)) 0 0 (va_A (wX ad K sv I J B D) sz) := by
  refine zMet (y := zy_Graph_addDone) (av := [.ref (ad 8), .int a0, .int a1, .int a2]) (maxL := 5) (cc := prog_3_method_6_code) (ret := (some .boolean)) (W0 := (wX ad K sv I J B D)) (sz := sz) (G := G) (K := K) (wt := zTB) (mc := 0) (ms := 0) (Qf := fun A => va_Qi (fun (r : Int32) (u : zS) => Post r u.1 u.2.1 u.2.2.1 u.2.2.2) (fun u t => zPost G K A (wX ad K sv u.1 u.2.1 u.2.2.1 u.2.2.2) t) A) (by decide) (Nat.le_of_ble_eq_true rfl) ?_
  intro p e s m below meth c ls A hx hb hr hml hts hown hlocks hin hA hK H locs hw hsz hl
  clear hsz
  have hown : s.vm.findClass "LassoFinder$Graph" = some m.cls := hown
  have C : zCx p s m ([.ref (ad 8), .int a0, .int a1, .int a2] : List Value).toArray meth c A G K prog_3_method_6_code (some .boolean) 5 "LassoFinder$Graph" := ⟨hx, hb, hr, hml, hts, hown, hlocks, hA, hK⟩
  have hl : lv_has ls 5 [(0, .ref (ad 8)), (1, .int a0), (2, .int a1), (3, .int a2)] := hl
  have hw : zW G A s.heap (wX ad K sv I J B D) H locs := hw
  unfold wp_Graph_addDone at hok
  refine lv_aload_n hx hb zd_Graph_addDone_0 rfl (lv_at hl 0 rfl) ?_
  refine z_get (v := .ref (ad 7)) hx hb hts hown hK hw zZ2 8 wX_g8 0 (by decide) zn_428 rfl zd_Graph_addDone_1 ?_
  refine lv_aload_n hx hb zd_Graph_addDone_4 rfl (lv_at hl 0 rfl) ?_
  refine z_get (v := .ref (ad 46)) hx hb hts hown hK hw zZ2 8 wX_g8 1 (by decide) zn_269 rfl zd_Graph_addDone_5 ?_
  refine lv_iload_n hx hb zd_Graph_addDone_8 rfl (lv_at hl 1 rfl) ?_
  refine va_lald (f := (D 2)) hx hb hK hw.1 46 1 wX_a46 rfl hok.1 zd_Graph_addDone_9 ?_
  have hok := hok.2
  refine lv_topl (fun z1 ez1 => ?_)
  have hok := hok z1 ez1
  refine z_callv (w1 := fun (u : zS) => wX ad K sv u.1 u.2.1 u.2.2.1 u.2.2.2) (wr := []) (z_runV (q0 := 7) (wc := (wX ad K sv I J B D)) (As := [.long z1]) (rest := []) ⟨hx, hb, hml, hown, hts⟩ (w_Situation_unpack l G K ad sv I J B D z1 _ H.size hok) zf_Situation_unpack zn_409 ⟨Nat.le_of_ble_eq_true rfl, Nat.le_of_ble_eq_true rfl⟩ hK hw (List.range 65) wX_all wX_nd wX_g7 rfl rfl hl.1 rfl (Nat.le_of_ble_eq_true rfl) zd_Graph_addDone_10 ⟨Nat.le_of_ble_eq_true rfl, Nat.le_of_ble_eq_true rfl⟩) hw hA (List.range 65) [] wX_all rfl (by decide) (fun i hi => by cases hi) (fun u H locs hok hw => ?_)
  obtain ⟨I2, J2, B2, D2⟩ := u
  dsimp only at hok
  have hw : zW G A s.heap (wX ad K sv I2 J2 B2 D2) H locs := hw
  refine lv_aload_n hx hb zd_Graph_addDone_13 rfl (lv_at hl 0 rfl) ?_
  refine z_get (v := .ref (ad 7)) hx hb hts hown hK hw zZ2 8 wX_g8 0 (by decide) zn_428 rfl zd_Graph_addDone_14 ?_
  refine lv_iload_n hx hb zd_Graph_addDone_17 rfl (lv_at hl 2 rfl) ?_
  refine lv_iload_n hx hb zd_Graph_addDone_18 rfl (lv_at hl 3 rfl) ?_
  refine z_callv (w1 := fun (u : zS) => wX ad K sv u.1 u.2.1 u.2.2.1 u.2.2.2) (wr := []) (z_runV (q0 := 7) (wc := (wX ad K sv I2 J2 B2 D2)) (As := [.int a1, .int a2]) (rest := []) ⟨hx, hb, hml, hown, hts⟩ (w_Situation_perform l G K ad sv I2 J2 B2 D2 a1 a2 _ H.size hok) zf_Situation_perform zn_421 ⟨Nat.le_of_ble_eq_true rfl, Nat.le_of_ble_eq_true rfl⟩ hK hw (List.range 65) wX_all wX_nd wX_g7 rfl rfl hl.1 rfl (Nat.le_of_ble_eq_true rfl) zd_Graph_addDone_19 ⟨Nat.le_of_ble_eq_true rfl, Nat.le_of_ble_eq_true rfl⟩) hw hA (List.range 65) [] wX_all rfl (by decide) (fun i hi => by cases hi) (fun u H locs hok hw => ?_)
  obtain ⟨I3, J3, B3, D3⟩ := u
  dsimp only at hok
  have hw : zW G A s.heap (wX ad K sv I3 J3 B3 D3) H locs := hw
  refine lv_aload_n hx hb zd_Graph_addDone_22 rfl (lv_at hl 0 rfl) ?_
  refine lv_aload_n hx hb zd_Graph_addDone_23 rfl (lv_at hl 0 rfl) ?_
  refine z_get (v := .ref (ad 7)) hx hb hts hown hK hw zZ2 8 wX_g8 0 (by decide) zn_428 rfl zd_Graph_addDone_24 ?_
  refine z_calll (w1 := fun (u : zS) => wX ad K sv u.1 u.2.1 u.2.2.1 u.2.2.2) (wr := []) (z_runV (q0 := 7) (wc := (wX ad K sv I3 J3 B3 D3)) (As := []) (rest := [.ref (ad 8)]) ⟨hx, hb, hml, hown, hts⟩ (w_Situation_packed l G K ad sv I3 J3 B3 D3  _ H.size hok) zf_Situation_packed zn_406 ⟨Nat.le_of_ble_eq_true rfl, Nat.le_of_ble_eq_true rfl⟩ hK hw (List.range 65) wX_all wX_nd wX_g7 rfl rfl hl.1 rfl (Nat.le_of_ble_eq_true rfl) zd_Graph_addDone_27 ⟨Nat.le_of_ble_eq_true rfl, Nat.le_of_ble_eq_true rfl⟩) hw hA (List.range 65) [] wX_all rfl (by decide) (fun i hi => by cases hi) (fun r4 u H locs hok hw => ?_)
  obtain ⟨I4, J4, B4, D4⟩ := u
  dsimp only at hok
  have hw : zW G A s.heap (wX ad K sv I4 J4 B4 D4) H locs := hw
  refine z_calli (w1 := fun (u : zS) => wX ad K sv u.1 u.2.1 u.2.2.1 u.2.2.2) (wr := []) (z_runV (q0 := 8) (wc := (wX ad K sv I4 J4 B4 D4)) (As := [.long r4]) (rest := []) ⟨hx, hb, hml, hown, hts⟩ (w_Graph_enter l G K ad sv I4 J4 B4 D4 r4 _ H.size hok) zf_Graph_enter zn_407 ⟨Nat.le_of_ble_eq_true rfl, Nat.le_of_ble_eq_true rfl⟩ hK hw (List.range 65) wX_all wX_nd wX_g8 rfl rfl hl.1 rfl (Nat.le_of_ble_eq_true rfl) zd_Graph_addDone_30 ⟨Nat.le_of_ble_eq_true rfl, Nat.le_of_ble_eq_true rfl⟩) hw hA (List.range 65) [] wX_all rfl (by decide) (fun i hi => by cases hi) (fun r5 u H locs hok hw => ?_)
  obtain ⟨I5, J5, B5, D5⟩ := u
  dsimp only at hok
  have hw : zW G A s.heap (wX ad K sv I5 J5 B5 D5) H locs := hw
  refine lv_istore hx hb zd_Graph_addDone_33 hl (by decide) rfl (fun ls hl => ?_)
  have hl : lv_has ls 5 [(4, .int r5), (0, .ref (ad 8)), (1, .int a0), (2, .int a1), (3, .int a2)] := hl
  refine lv_iload hx hb zd_Graph_addDone_35 (lv_at hl 0 rfl) ?_
  refine lv_iconst (v := (-1)) hx hb zd_Graph_addDone_37 (by decide) ?_
  refine lv_icmp_eq (tgt := 57) hx hb zd_Graph_addDone_38 (by decide) (fun hc6 => ?_) (fun hc6 => ?_)
  · have hok := hok.1 hc6
    exact wJ_Graph_addDone_57 G K ad sv a0 a1 a2 Post C I5 J5 B5 D5 ls H locs hok (lv_sub hl [] rfl) hw
  · have hok := hok.2 hc6
    refine lv_aload_n hx hb zd_Graph_addDone_41 rfl (lv_at hl 1 rfl) ?_
    refine lv_iload_n hx hb zd_Graph_addDone_42 rfl (lv_at hl 2 rfl) ?_
    refine lv_iload hx hb zd_Graph_addDone_43 (lv_at hl 0 rfl) ?_
    refine lv_iload_n hx hb zd_Graph_addDone_45 rfl (lv_at hl 3 rfl) ?_
    refine lv_iload_n hx hb zd_Graph_addDone_46 rfl (lv_at hl 4 rfl) ?_
    refine z_calli (w1 := fun (u : zS) => wX ad K sv u.1 u.2.1 u.2.2.1 u.2.2.2) (wr := []) (z_runV (q0 := 8) (wc := (wX ad K sv I5 J5 B5 D5)) (As := [.int a0, .int r5, .int a1, .int a2]) (rest := []) ⟨hx, hb, hml, hown, hts⟩ (w_Graph_add l G K ad sv I5 J5 B5 D5 a0 r5 a1 a2 _ H.size hok) zf_Graph_add zn_425 ⟨Nat.le_of_ble_eq_true rfl, Nat.le_of_ble_eq_true rfl⟩ hK hw (List.range 65) wX_all wX_nd wX_g8 rfl rfl hl.1 rfl (Nat.le_of_ble_eq_true rfl) zd_Graph_addDone_47 ⟨Nat.le_of_ble_eq_true rfl, Nat.le_of_ble_eq_true rfl⟩) hw hA (List.range 65) [] wX_all rfl (by decide) (fun i hi => by cases hi) (fun r7 u H locs hok hw => ?_)
    obtain ⟨I7, J7, B7, D7⟩ := u
    dsimp only at hok
    have hw : zW G A s.heap (wX ad K sv I7 J7 B7 D7) H locs := hw
    refine lv_if_eq (tgt := 57) hx hb zd_Graph_addDone_50 (by decide) (fun hc8 => ?_) (fun hc8 => ?_)
    · have hok := hok.1 hc8
      exact wJ_Graph_addDone_57 G K ad sv a0 a1 a2 Post C I7 J7 B7 D7 ls H locs hok (lv_sub hl [] rfl) hw
    · have hok := hok.2 hc8
      refine lv_iconst (v := 1) hx hb zd_Graph_addDone_53 (by decide) ?_
      refine lv_goto (tgt := 58) hx hb zd_Graph_addDone_54 (by decide) ?_
      exact wJ_Graph_addDone_58 G K ad sv a0 a1 a2 Post C 1 I7 J7 B7 D7 ls H locs hok (lv_sub hl [] rfl) hw
def wp_Program_at (I : Nat → Int32) (J : Nat → Int64) (B : Nat → Nat → Int32) (D : Nat → Nat → Int64) (a0 : Int32) (a1 : Int32) (Post : Int64 → (Nat → Int32) → (Nat → Int64) → (Nat → Nat → Int32) → (Nat → Nat → Int64) → Prop) : Prop :=
  ∀ z1 : Int32, z1 = (a0 * 31) → ∀ z2 : Int32, z2 = (z1 + a1) → vp_in z2 124 ∧ ∀ z3 : Int64, z3 = ((D 1) z2.toNatClampNeg) → Post z3 I J B D
set_option maxHeartbeats 8000000 in
set_option maxRecDepth 100000 in
theorem w_Program_at (l : Launch) (G : va_G) (K : Nat → ClassId) (ad : Nat → Nat) (sv : Value) (I : Nat → Int32) (J : Nat → Int64) (B : Nat → Nat → Int32) (D : Nat → Nat → Int64) (a0 : Int32) (a1 : Int32) (Post : Int64 → (Nat → Int32) → (Nat → Int64) → (Nat → Nat → Int32) → (Nat → Nat → Int64) → Prop) (sz : Nat) (hok : wp_Program_at I J B D a0 a1 Post) : Met l zy_Program_at (Cond.code zy_Program_at prog_7_method_3_code 3 (some .long) :: zTB) { frames := 0, cells := 0, slots := 0, locals := 0 } (va_Pc [.ref (ad 3), .int a0, .int a1] (zPre G K (wX ad K sv I J B D) sz)) (va_Ql (fun (r : Int64) (u : zS) => Post r u.1 u.2.1 u.2.2.1 u.2.2.2) (fun u t => zPost G K (va_A (wX ad K sv I J B D) sz) (wX ad K sv u.1 u.2.1 u.2.2.1 u.2.2.2) t) (va_A (wX ad K sv I J B D) sz)) 0 0 (va_A (wX ad K sv I J B D) sz) := by
  refine zMet (y := zy_Program_at) (av := [.ref (ad 3), .int a0, .int a1]) (maxL := 3) (cc := prog_7_method_3_code) (ret := (some .long)) (W0 := (wX ad K sv I J B D)) (sz := sz) (G := G) (K := K) (wt := zTB) (mc := 0) (ms := 0) (Qf := fun A => va_Ql (fun (r : Int64) (u : zS) => Post r u.1 u.2.1 u.2.2.1 u.2.2.2) (fun u t => zPost G K A (wX ad K sv u.1 u.2.1 u.2.2.1 u.2.2.2) t) A) (by decide) (Nat.le_of_ble_eq_true rfl) ?_
  intro p e s m below meth c ls A hx hb hr hml hts hown hlocks hin hA hK H locs hw hsz hl
  clear hsz
  have hown : s.vm.findClass "LassoFinder$Program" = some m.cls := hown
  have C : zCx p s m ([.ref (ad 3), .int a0, .int a1] : List Value).toArray meth c A G K prog_7_method_3_code (some .long) 3 "LassoFinder$Program" := ⟨hx, hb, hr, hml, hts, hown, hlocks, hA, hK⟩
  have hl : lv_has ls 3 [(0, .ref (ad 3)), (1, .int a0), (2, .int a1)] := hl
  have hw : zW G A s.heap (wX ad K sv I J B D) H locs := hw
  unfold wp_Program_at at hok
  refine lv_aload_n hx hb zd_Program_at_0 rfl (lv_at hl 0 rfl) ?_
  refine z_get (v := .ref (ad 28)) hx hb hts hown hK hw zZ6 3 wX_g3 10 (by decide) zn_251 rfl zd_Program_at_1 ?_
  refine lv_iload_n hx hb zd_Program_at_4 rfl (lv_at hl 1 rfl) ?_
  refine lv_bipush (v := 31) hx hb zd_Program_at_5 (by decide) ?_
  refine lv_imul hx hb zd_Program_at_7 ?_
  refine lv_topi (fun z1 ez1 => ?_)
  have hok := hok z1 ez1
  refine lv_iload_n hx hb zd_Program_at_8 rfl (lv_at hl 2 rfl) ?_
  refine lv_iadd hx hb zd_Program_at_9 ?_
  refine lv_topi (fun z2 ez2 => ?_)
  have hok := hok z2 ez2
  refine va_lald (f := (D 1)) hx hb hK hw.1 28 1 wX_a28 rfl hok.1 zd_Program_at_10 ?_
  have hok := hok.2
  refine lv_topl (fun z3 ez3 => ?_)
  have hok := hok z3 ez3
  exact (z_lret (u := (I, J, B, D)) hx hb hr hlocks hw (List.range 65) wX_all wX_nd hok (Nat.le_of_ble_eq_true rfl) (Nat.le_of_ble_eq_true rfl) zd_Program_at_11)
def wc_Situation_partners_33 (a0 : Int32) (Post : Int64 → (Nat → Int32) → (Nat → Int64) → (Nat → Nat → Int32) → (Nat → Nat → Int64) → Prop)  (I : Nat → Int32) (J : Nat → Int64) (B : Nat → Nat → Int32) (D : Nat → Nat → Int64) : Prop :=
  Post 0 I J B D
def wp_Situation_partners (I : Nat → Int32) (J : Nat → Int64) (B : Nat → Nat → Int32) (D : Nat → Nat → Int64) (a0 : Int32) (Post : Int64 → (Nat → Int32) → (Nat → Int64) → (Nat → Nat → Int32) → (Nat → Nat → Int64) → Prop) : Prop :=
  vp_in a0 48 ∧ ∀ z1 : Int32, z1 = ((B 6) a0.toNatClampNeg) → ((¬ z1 = 2 → wc_Situation_partners_33 a0 Post I J B D) ∧ (z1 = 2 → vp_in a0 48 ∧ ∀ z3 : Int32, z3 = ((B 7) a0.toNatClampNeg) → vp_in z3 8 ∧ ∀ z4 : Int32, z4 = ((B 3) z3.toNatClampNeg) → ((z4 ≤ 0 → vp_in a0 48 ∧ ∀ z6 : Int32, z6 = ((B 10) a0.toNatClampNeg) → vp_in a0 48 ∧ ∀ z7 : Int32, z7 = ((B 7) a0.toNatClampNeg) → vp_in z7 8 ∧ ∀ z8 : Int64, z8 = ((D 0) z7.toNatClampNeg) → ∀ z9 : Int64, z9 = (z8 &&& (J 1)) → vp_in z6 4 ∧ ∀ z10 : Int32, z10 = ((B 31) z6.toNatClampNeg) → wp_Program_at I J B D z6 z10 (fun r11 I11 J11 B11 D11 => ∀ z12 : Int64, z12 = (r11 ^^^ (-1)) → ∀ z13 : Int64, z13 = (z9 &&& z12) → Post z13 I11 J11 B11 D11)) ∧ (¬ z4 ≤ 0 → wc_Situation_partners_33 a0 Post I J B D))))
set_option maxHeartbeats 8000000 in
set_option maxRecDepth 100000 in
theorem wJ_Situation_partners_33 {p : Program} {l : Launch} {e : Env} {s : State} {m : MethodId} {below : List Frame} {meth : Method} {c : Code} {A : Nat → Prop} (G : va_G) (K : Nat → ClassId) (ad : Nat → Nat) (sv : Value) (a0 : Int32) (Post : Int64 → (Nat → Int32) → (Nat → Int64) → (Nat → Nat → Int32) → (Nat → Nat → Int64) → Prop) (C : zCx p s m ([.ref (ad 7), .int a0] : List Value).toArray meth c A G K prog_8_method_10_code (some .long) 3 "LassoFinder$Situation") : ∀  (I : Nat → Int32) (J : Nat → Int64) (B : Nat → Nat → Int32) (D : Nat → Nat → Int64) (ls : Array Slot) (H : Heap) (locs : List Loc), wc_Situation_partners_33 a0 Post  I J B D → lv_has ls 3 [] → zW G A s.heap (wX ad K sv I J B D) H locs → W p l e { frames := 1, cells := 0, slots := 0, locals := 22 } s m ([.ref (ad 7), .int a0] : List Value).toArray below meth c H locs 0 0 (MQ below (va_Ql (fun (r : Int64) (u : zS) => Post r u.1 u.2.1 u.2.2.1 u.2.2.2) (fun u t => zPost G K A (wX ad K sv u.1 u.2.1 u.2.2.1 u.2.2.2) t) A) ([.ref (ad 7), .int a0] : List Value).toArray s 0 0 A) (F0 m 33 ls []) := by
  obtain ⟨hx, hb, hr, hml, hts, hown, hlocks, hA, hK⟩ := id C
  intro  I J B D ls H locs hok hl hw
  unfold wc_Situation_partners_33 at hok
  refine lv_lconst (v := 0) hx hb zd_Situation_partners_33 (by decide) ?_
  exact (z_lret (u := (I, J, B, D)) hx hb hr hlocks hw (List.range 65) wX_all wX_nd hok (Nat.le_of_ble_eq_true rfl) (Nat.le_of_ble_eq_true rfl) zd_Situation_partners_34)
set_option maxHeartbeats 8000000 in
set_option maxRecDepth 100000 in
theorem w_Situation_partners (l : Launch) (G : va_G) (K : Nat → ClassId) (ad : Nat → Nat) (sv : Value) (I : Nat → Int32) (J : Nat → Int64) (B : Nat → Nat → Int32) (D : Nat → Nat → Int64) (a0 : Int32) (Post : Int64 → (Nat → Int32) → (Nat → Int64) → (Nat → Nat → Int32) → (Nat → Nat → Int64) → Prop) (sz : Nat) (hok : wp_Situation_partners I J B D a0 Post) : Met l zy_Situation_partners (Cond.code zy_Situation_partners prog_8_method_10_code 3 (some .long) :: zTB) { frames := 1, cells := 0, slots := 0, locals := 22 } (va_Pc [.ref (ad 7), .int a0] (zPre G K (wX ad K sv I J B D) sz)) (va_Ql (fun (r : Int64) (u : zS) => Post r u.1 u.2.1 u.2.2.1 u.2.2.2) (fun u t => zPost G K (va_A (wX ad K sv I J B D) sz) (wX ad K sv u.1 u.2.1 u.2.2.1 u.2.2.2) t) (va_A (wX ad K sv I J B D) sz)) 0 0 (va_A (wX ad K sv I J B D) sz) := by
  refine zMet (y := zy_Situation_partners) (av := [.ref (ad 7), .int a0]) (maxL := 3) (cc := prog_8_method_10_code) (ret := (some .long)) (W0 := (wX ad K sv I J B D)) (sz := sz) (G := G) (K := K) (wt := zTB) (mc := 0) (ms := 0) (Qf := fun A => va_Ql (fun (r : Int64) (u : zS) => Post r u.1 u.2.1 u.2.2.1 u.2.2.2) (fun u t => zPost G K A (wX ad K sv u.1 u.2.1 u.2.2.1 u.2.2.2) t) A) (by decide) (Nat.le_of_ble_eq_true rfl) ?_
  intro p e s m below meth c ls A hx hb hr hml hts hown hlocks hin hA hK H locs hw hsz hl
  clear hsz
  have hown : s.vm.findClass "LassoFinder$Situation" = some m.cls := hown
  have C : zCx p s m ([.ref (ad 7), .int a0] : List Value).toArray meth c A G K prog_8_method_10_code (some .long) 3 "LassoFinder$Situation" := ⟨hx, hb, hr, hml, hts, hown, hlocks, hA, hK⟩
  have hl : lv_has ls 3 [(0, .ref (ad 7)), (1, .int a0)] := hl
  have hw : zW G A s.heap (wX ad K sv I J B D) H locs := hw
  unfold wp_Situation_partners at hok
  refine lv_aload_n hx hb zd_Situation_partners_0 rfl (lv_at hl 0 rfl) ?_
  refine z_get (v := .ref (ad 3)) hx hb hts hown hK hw zZ7 7 wX_g7 2 (by decide) zn_431 rfl zd_Situation_partners_1 ?_
  refine z_get (v := .ref (ad 18)) hx hb hts hown hK hw zZ6 3 wX_g3 0 (by decide) zn_433 rfl zd_Situation_partners_4 ?_
  refine lv_iload_n hx hb zd_Situation_partners_7 rfl (lv_at hl 1 rfl) ?_
  refine va_iald (f := (B 6)) hx hb hK hw.1 18 0 wX_a18 rfl hok.1 zd_Situation_partners_8 ?_
  have hok := hok.2
  refine lv_topi (fun z1 ez1 => ?_)
  have hok := hok z1 ez1
  refine lv_iconst (v := 2) hx hb zd_Situation_partners_9 (by decide) ?_
  refine lv_icmp_ne (tgt := 33) hx hb zd_Situation_partners_10 (by decide) (fun hc2 => ?_) (fun hc2 => ?_)
  · have hok := hok.1 hc2
    exact wJ_Situation_partners_33 G K ad sv a0 Post C I J B D ls H locs hok (lv_sub hl [] rfl) hw
  · have hok := hok.2 hc2
    refine lv_aload_n hx hb zd_Situation_partners_13 rfl (lv_at hl 0 rfl) ?_
    refine z_get (v := .ref (ad 2)) hx hb hts hown hK hw zZ7 7 wX_g7 0 (by decide) zn_291 rfl zd_Situation_partners_14 ?_
    refine z_get (v := .ref (ad 15)) hx hb hts hown hK hw zZ5 2 wX_g2 1 (by decide) zn_440 rfl zd_Situation_partners_17 ?_
    refine lv_aload_n hx hb zd_Situation_partners_20 rfl (lv_at hl 0 rfl) ?_
    refine z_get (v := .ref (ad 3)) hx hb hts hown hK hw zZ7 7 wX_g7 2 (by decide) zn_431 rfl zd_Situation_partners_21 ?_
    refine z_get (v := .ref (ad 19)) hx hb hts hown hK hw zZ6 3 wX_g3 1 (by decide) zn_435 rfl zd_Situation_partners_24 ?_
    refine lv_iload_n hx hb zd_Situation_partners_27 rfl (lv_at hl 1 rfl) ?_
    refine va_iald (f := (B 7)) hx hb hK hw.1 19 0 wX_a19 rfl hok.1 zd_Situation_partners_28 ?_
    have hok := hok.2
    refine lv_topi (fun z3 ez3 => ?_)
    have hok := hok z3 ez3
    refine va_iald (f := (B 3)) hx hb hK hw.1 15 0 wX_a15 rfl hok.1 zd_Situation_partners_29 ?_
    have hok := hok.2
    refine lv_topi (fun z4 ez4 => ?_)
    have hok := hok z4 ez4
    refine lv_if_le (tgt := 35) hx hb zd_Situation_partners_30 (by decide) (fun hc5 => ?_) (fun hc5 => ?_)
    · have hok := hok.1 hc5
      refine lv_aload_n hx hb zd_Situation_partners_35 rfl (lv_at hl 0 rfl) ?_
      refine z_get (v := .ref (ad 3)) hx hb hts hown hK hw zZ7 7 wX_g7 2 (by decide) zn_431 rfl zd_Situation_partners_36 ?_
      refine z_get (v := .ref (ad 22)) hx hb hts hown hK hw zZ6 3 wX_g3 4 (by decide) zn_437 rfl zd_Situation_partners_39 ?_
      refine lv_iload_n hx hb zd_Situation_partners_42 rfl (lv_at hl 1 rfl) ?_
      refine va_iald (f := (B 10)) hx hb hK hw.1 22 0 wX_a22 rfl hok.1 zd_Situation_partners_43 ?_
      have hok := hok.2
      refine lv_topi (fun z6 ez6 => ?_)
      have hok := hok z6 ez6
      refine lv_istore_n hx hb zd_Situation_partners_44 rfl hl (by decide) rfl (fun ls hl => ?_)
      have hl : lv_has ls 3 [(2, .int z6), (0, .ref (ad 7)), (1, .int a0)] := hl
      refine lv_aload_n hx hb zd_Situation_partners_45 rfl (lv_at hl 1 rfl) ?_
      refine z_get (v := .ref (ad 3)) hx hb hts hown hK hw zZ7 7 wX_g7 2 (by decide) zn_431 rfl zd_Situation_partners_46 ?_
      refine z_get (v := .ref (ad 25)) hx hb hts hown hK hw zZ6 3 wX_g3 7 (by decide) zn_441 rfl zd_Situation_partners_49 ?_
      refine lv_aload_n hx hb zd_Situation_partners_52 rfl (lv_at hl 1 rfl) ?_
      refine z_get (v := .ref (ad 3)) hx hb hts hown hK hw zZ7 7 wX_g7 2 (by decide) zn_431 rfl zd_Situation_partners_53 ?_
      refine z_get (v := .ref (ad 19)) hx hb hts hown hK hw zZ6 3 wX_g3 1 (by decide) zn_435 rfl zd_Situation_partners_56 ?_
      refine lv_iload_n hx hb zd_Situation_partners_59 rfl (lv_at hl 2 rfl) ?_
      refine va_iald (f := (B 7)) hx hb hK hw.1 19 0 wX_a19 rfl hok.1 zd_Situation_partners_60 ?_
      have hok := hok.2
      refine lv_topi (fun z7 ez7 => ?_)
      have hok := hok z7 ez7
      refine va_lald (f := (D 0)) hx hb hK hw.1 25 1 wX_a25 rfl hok.1 zd_Situation_partners_61 ?_
      have hok := hok.2
      refine lv_topl (fun z8 ez8 => ?_)
      have hok := hok z8 ez8
      refine lv_aload_n hx hb zd_Situation_partners_62 rfl (lv_at hl 1 rfl) ?_
      refine z_get (v := .long (J 1)) hx hb hts hown hK hw zZ7 7 wX_g7 7 (by decide) zn_442 rfl zd_Situation_partners_63 ?_
      refine lv_land hx hb zd_Situation_partners_66 ?_
      refine lv_topl (fun z9 ez9 => ?_)
      have hok := hok z9 ez9
      refine lv_aload_n hx hb zd_Situation_partners_67 rfl (lv_at hl 1 rfl) ?_
      refine z_get (v := .ref (ad 3)) hx hb hts hown hK hw zZ7 7 wX_g7 2 (by decide) zn_431 rfl zd_Situation_partners_68 ?_
      refine lv_iload_n hx hb zd_Situation_partners_71 rfl (lv_at hl 0 rfl) ?_
      refine lv_aload_n hx hb zd_Situation_partners_72 rfl (lv_at hl 1 rfl) ?_
      refine z_get (v := .ref (ad 45)) hx hb hts hown hK hw zZ7 7 wX_g7 5 (by decide) zn_268 rfl zd_Situation_partners_73 ?_
      refine lv_iload_n hx hb zd_Situation_partners_76 rfl (lv_at hl 0 rfl) ?_
      refine va_iald (f := (B 31)) hx hb hK hw.1 45 0 wX_a45 rfl hok.1 zd_Situation_partners_77 ?_
      have hok := hok.2
      refine lv_topi (fun z10 ez10 => ?_)
      have hok := hok z10 ez10
      refine z_calll (w1 := fun (u : zS) => wX ad K sv u.1 u.2.1 u.2.2.1 u.2.2.2) (wr := []) (z_runV (q0 := 3) (wc := (wX ad K sv I J B D)) (As := [.int z6, .int z10]) (rest := [.long z9]) ⟨hx, hb, hml, hown, hts⟩ (w_Program_at l G K ad sv I J B D z6 z10 _ H.size hok) zf_Program_at zn_411 ⟨Nat.le_of_ble_eq_true rfl, Nat.le_of_ble_eq_true rfl⟩ hK hw (List.range 65) wX_all wX_nd wX_g3 rfl rfl hl.1 rfl (Nat.le_of_ble_eq_true rfl) zd_Situation_partners_78 ⟨Nat.le_of_ble_eq_true rfl, Nat.le_of_ble_eq_true rfl⟩) hw hA (List.range 65) [] wX_all rfl (by decide) (fun i hi => by cases hi) (fun r11 u H locs hok hw => ?_)
      obtain ⟨I11, J11, B11, D11⟩ := u
      dsimp only at hok
      have hw : zW G A s.heap (wX ad K sv I11 J11 B11 D11) H locs := hw
      refine lv_ldc2 (v := (-1)) hx hb hown (hts _ zn_443) zd_Situation_partners_81 ?_
      refine lv_lxor hx hb zd_Situation_partners_84 ?_
      refine lv_topl (fun z12 ez12 => ?_)
      have hok := hok z12 ez12
      refine lv_land hx hb zd_Situation_partners_85 ?_
      refine lv_topl (fun z13 ez13 => ?_)
      have hok := hok z13 ez13
      exact (z_lret (u := (I11, J11, B11, D11)) hx hb hr hlocks hw (List.range 65) wX_all wX_nd hok (Nat.le_of_ble_eq_true rfl) (Nat.le_of_ble_eq_true rfl) zd_Situation_partners_86)
    · have hok := hok.2 hc5
      exact wJ_Situation_partners_33 G K ad sv a0 Post C I J B D ls H locs hok (lv_sub hl [] rfl) hw
def wc_Graph_addStepsBy_81 (a0 : Int32) (a1 : Int32) (Post : Int32 → (Nat → Int32) → (Nat → Int64) → (Nat → Nat → Int32) → (Nat → Nat → Int64) → Prop) (x5 : Int32) (I : Nat → Int32) (J : Nat → Int64) (B : Nat → Nat → Int32) (D : Nat → Nat → Int64) : Prop :=
  (x5 = 0 ∨ x5 = 1) ∧ Post x5 I J B D
def wc_Graph_addStepsBy_75 (a0 : Int32) (a1 : Int32) (K42 : Int32 → Int32 → Int64 → Int32 → Int32 → (Nat → Int32) → (Nat → Int64) → (Nat → Nat → Int32) → (Nat → Nat → Int64) → Prop) (Post : Int32 → (Nat → Int32) → (Nat → Int64) → (Nat → Nat → Int32) → (Nat → Nat → Int64) → Prop) (x1 : Int32) (x2 : Int32) (x3 : Int64) (x5 : Int32) (x6 : Int32) (I : Nat → Int32) (J : Nat → Int64) (B : Nat → Nat → Int32) (D : Nat → Nat → Int64) : Prop :=
  ∀ z1 : Int32, z1 = (x6 + 1) → K42 x1 x2 x3 x5 z1 I J B D
def wb_Graph_addStepsBy_42 (a0 : Int32) (a1 : Int32) (K42 : Int32 → Int32 → Int64 → Int32 → Int32 → (Nat → Int32) → (Nat → Int64) → (Nat → Nat → Int32) → (Nat → Nat → Int64) → Prop) (Post : Int32 → (Nat → Int32) → (Nat → Int64) → (Nat → Nat → Int32) → (Nat → Nat → Int64) → Prop) (x1 : Int32) (x2 : Int32) (x3 : Int64) (x5 : Int32) (x6 : Int32) (I : Nat → Int32) (J : Nat → Int64) (B : Nat → Nat → Int32) (D : Nat → Nat → Int64) : Prop :=
  (((48 : Int32) ≤ x6 → wc_Graph_addStepsBy_81 a0 a1 Post x5 I J B D) ∧ (¬ (48 : Int32) ≤ x6 → ((x5 = 0 → wc_Graph_addStepsBy_81 a0 a1 Post x5 I J B D) ∧ (¬ x5 = 0 → ∀ z4 : Int64, z4 = (x3.toUInt64 >>> (x6.toInt64.toUInt64 &&& Int64.toUInt64 63)).toInt64 → ∀ z5 : Int64, z5 = (z4 &&& 1) → ∀ z6 : Int32, z6 = (lg_cmp z5 0) → ((z6 = 0 → wc_Graph_addStepsBy_75 a0 a1 K42 Post x1 x2 x3 x5 x6 I J B D) ∧ (¬ z6 = 0 → wp_Graph_addDone I J B D x1 x2 x6 (fun r8 I8 J8 B8 D8 => wc_Graph_addStepsBy_75 a0 a1 K42 Post x1 x2 x3 r8 x6 I8 J8 B8 D8)))))))
def wl_Graph_addStepsBy_42 (a0 : Int32) (a1 : Int32) (Post : Int32 → (Nat → Int32) → (Nat → Int64) → (Nat → Nat → Int32) → (Nat → Nat → Int64) → Prop) (n : Nat) : Int32 → Int32 → Int64 → Int32 → Int32 → (Nat → Int32) → (Nat → Int64) → (Nat → Nat → Int32) → (Nat → Nat → Int64) → Prop := Nat.rec (fun _ _ _ _ _ _ _ _ _ => False) (fun _ r => wb_Graph_addStepsBy_42 a0 a1 r Post) n
def wp_Graph_addStepsBy (I : Nat → Int32) (J : Nat → Int64) (B : Nat → Nat → Int32) (D : Nat → Nat → Int64) (a0 : Int32) (a1 : Int32) (Post : Int32 → (Nat → Int32) → (Nat → Int64) → (Nat → Nat → Int32) → (Nat → Nat → Int64) → Prop) : Prop :=
  vp_in a0 96 ∧ ∀ z9 : Int64, z9 = ((D 2) a0.toNatClampNeg) → wp_Situation_unpack I J B D z9 (fun I10 J10 B10 D10 => wp_Situation_partners I10 J10 B10 D10 a1 (fun r11 I11 J11 B11 D11 => ∀ z12 : Int32, z12 = (lg_cmp r11 0) → ((¬ z12 = 0 → ∃ n : Nat, wl_Graph_addStepsBy_42 a0 a1 Post n a0 a1 r11 1 0 I11 J11 B11 D11) ∧ (z12 = 0 → wp_Graph_addDone I11 J11 B11 D11 a0 a1 (-1) (fun r14 I14 J14 B14 D14 => (r14 = 0 ∨ r14 = 1) ∧ Post r14 I14 J14 B14 D14)))))
set_option maxHeartbeats 8000000 in
set_option maxRecDepth 100000 in
theorem wJ_Graph_addStepsBy_81 {p : Program} {l : Launch} {e : Env} {s : State} {m : MethodId} {below : List Frame} {meth : Method} {c : Code} {A : Nat → Prop} (G : va_G) (K : Nat → ClassId) (ad : Nat → Nat) (sv : Value) (a0 : Int32) (a1 : Int32) (Post : Int32 → (Nat → Int32) → (Nat → Int64) → (Nat → Nat → Int32) → (Nat → Nat → Int64) → Prop) (C : zCx p s m ([.ref (ad 8), .int a0, .int a1] : List Value).toArray meth c A G K prog_3_method_5_code (some .boolean) 7 "LassoFinder$Graph") : ∀ (x5 : Int32) (I : Nat → Int32) (J : Nat → Int64) (B : Nat → Nat → Int32) (D : Nat → Nat → Int64) (ls : Array Slot) (H : Heap) (locs : List Loc), wc_Graph_addStepsBy_81 a0 a1 Post x5 I J B D → lv_has ls 7 [(5, .int x5)] → zW G A s.heap (wX ad K sv I J B D) H locs → W p l e { frames := 4, cells := 0, slots := 0, locals := 95 } s m ([.ref (ad 8), .int a0, .int a1] : List Value).toArray below meth c H locs 0 0 (MQ below (va_Qi (fun (r : Int32) (u : zS) => Post r u.1 u.2.1 u.2.2.1 u.2.2.2) (fun u t => zPost G K A (wX ad K sv u.1 u.2.1 u.2.2.1 u.2.2.2) t) A) ([.ref (ad 8), .int a0, .int a1] : List Value).toArray s 0 0 A) (F0 m 81 ls []) := by
  obtain ⟨hx, hb, hr, hml, hts, hown, hlocks, hA, hK⟩ := id C
  intro x5 I J B D ls H locs hok hl hw
  unfold wc_Graph_addStepsBy_81 at hok
  refine lv_iload hx hb zd_Graph_addStepsBy_81 (lv_at hl 0 rfl) ?_
  have hbo := hok.1
  have hok := hok.2
  exact (z_iret (u := (I, J, B, D)) hx hb hr hlocks (z_nar hbo) hw (List.range 65) wX_all wX_nd hok (Nat.le_of_ble_eq_true rfl) (Nat.le_of_ble_eq_true rfl) zd_Graph_addStepsBy_83)
set_option maxHeartbeats 8000000 in
set_option maxRecDepth 100000 in
theorem wJ_Graph_addStepsBy_75 {p : Program} {l : Launch} {e : Env} {s : State} {m : MethodId} {below : List Frame} {meth : Method} {c : Code} {A : Nat → Prop} (G : va_G) (K : Nat → ClassId) (ad : Nat → Nat) (sv : Value) (a0 : Int32) (a1 : Int32) (Post : Int32 → (Nat → Int32) → (Nat → Int64) → (Nat → Nat → Int32) → (Nat → Nat → Int64) → Prop) (C : zCx p s m ([.ref (ad 8), .int a0, .int a1] : List Value).toArray meth c A G K prog_3_method_5_code (some .boolean) 7 "LassoFinder$Graph") (K42 : Int32 → Int32 → Int64 → Int32 → Int32 → (Nat → Int32) → (Nat → Int64) → (Nat → Nat → Int32) → (Nat → Nat → Int64) → Prop) (kh42 : ∀ (x1 : Int32) (x2 : Int32) (x3 : Int64) (x5 : Int32) (x6 : Int32) (I : Nat → Int32) (J : Nat → Int64) (B : Nat → Nat → Int32) (D : Nat → Nat → Int64) (ls : Array Slot) (H : Heap) (locs : List Loc), K42 x1 x2 x3 x5 x6 I J B D → lv_has ls 7 [(0, .ref (ad 8)), (1, .int x1), (2, .int x2), (3, .long x3), (5, .int x5), (6, .int x6)] → zW G A s.heap (wX ad K sv I J B D) H locs → W p l e { frames := 4, cells := 0, slots := 0, locals := 95 } s m ([.ref (ad 8), .int a0, .int a1] : List Value).toArray below meth c H locs 0 0 (MQ below (va_Qi (fun (r : Int32) (u : zS) => Post r u.1 u.2.1 u.2.2.1 u.2.2.2) (fun u t => zPost G K A (wX ad K sv u.1 u.2.1 u.2.2.1 u.2.2.2) t) A) ([.ref (ad 8), .int a0, .int a1] : List Value).toArray s 0 0 A) (F0 m 42 ls [])) : ∀ (x1 : Int32) (x2 : Int32) (x3 : Int64) (x5 : Int32) (x6 : Int32) (I : Nat → Int32) (J : Nat → Int64) (B : Nat → Nat → Int32) (D : Nat → Nat → Int64) (ls : Array Slot) (H : Heap) (locs : List Loc), wc_Graph_addStepsBy_75 a0 a1 K42 Post x1 x2 x3 x5 x6 I J B D → lv_has ls 7 [(0, .ref (ad 8)), (1, .int x1), (2, .int x2), (3, .long x3), (5, .int x5), (6, .int x6)] → zW G A s.heap (wX ad K sv I J B D) H locs → W p l e { frames := 4, cells := 0, slots := 0, locals := 95 } s m ([.ref (ad 8), .int a0, .int a1] : List Value).toArray below meth c H locs 0 0 (MQ below (va_Qi (fun (r : Int32) (u : zS) => Post r u.1 u.2.1 u.2.2.1 u.2.2.2) (fun u t => zPost G K A (wX ad K sv u.1 u.2.1 u.2.2.1 u.2.2.2) t) A) ([.ref (ad 8), .int a0, .int a1] : List Value).toArray s 0 0 A) (F0 m 75 ls []) := by
  obtain ⟨hx, hb, hr, hml, hts, hown, hlocks, hA, hK⟩ := id C
  intro x1 x2 x3 x5 x6 I J B D ls H locs hok hl hw
  unfold wc_Graph_addStepsBy_75 at hok
  obtain ⟨z1, ez1⟩ : ∃ z : Int32, z = (x6 + 1) := ⟨_, rfl⟩
  have hok := hok z1 ez1
  refine lv_iinc (v := z1) hx hb zd_Graph_addStepsBy_75 hl (k := 5) rfl ez1.symm (by decide) rfl (fun ls hl => ?_)
  have hl : lv_has ls 7 [(6, .int z1), (0, .ref (ad 8)), (1, .int x1), (2, .int x2), (3, .long x3), (5, .int x5)] := hl
  refine lv_goto (tgt := 42) hx hb zd_Graph_addStepsBy_78 (by decide) ?_
  exact kh42 x1 x2 x3 x5 z1 I J B D ls H locs hok (lv_sub hl [1, 2, 3, 4, 5, 0] rfl) hw
set_option maxHeartbeats 8000000 in
set_option maxRecDepth 100000 in
theorem wB_Graph_addStepsBy_42 {p : Program} {l : Launch} {e : Env} {s : State} {m : MethodId} {below : List Frame} {meth : Method} {c : Code} {A : Nat → Prop} (G : va_G) (K : Nat → ClassId) (ad : Nat → Nat) (sv : Value) (a0 : Int32) (a1 : Int32) (Post : Int32 → (Nat → Int32) → (Nat → Int64) → (Nat → Nat → Int32) → (Nat → Nat → Int64) → Prop) (C : zCx p s m ([.ref (ad 8), .int a0, .int a1] : List Value).toArray meth c A G K prog_3_method_5_code (some .boolean) 7 "LassoFinder$Graph") (K42 : Int32 → Int32 → Int64 → Int32 → Int32 → (Nat → Int32) → (Nat → Int64) → (Nat → Nat → Int32) → (Nat → Nat → Int64) → Prop) (kh42 : ∀ (x1 : Int32) (x2 : Int32) (x3 : Int64) (x5 : Int32) (x6 : Int32) (I : Nat → Int32) (J : Nat → Int64) (B : Nat → Nat → Int32) (D : Nat → Nat → Int64) (ls : Array Slot) (H : Heap) (locs : List Loc), K42 x1 x2 x3 x5 x6 I J B D → lv_has ls 7 [(0, .ref (ad 8)), (1, .int x1), (2, .int x2), (3, .long x3), (5, .int x5), (6, .int x6)] → zW G A s.heap (wX ad K sv I J B D) H locs → W p l e { frames := 4, cells := 0, slots := 0, locals := 95 } s m ([.ref (ad 8), .int a0, .int a1] : List Value).toArray below meth c H locs 0 0 (MQ below (va_Qi (fun (r : Int32) (u : zS) => Post r u.1 u.2.1 u.2.2.1 u.2.2.2) (fun u t => zPost G K A (wX ad K sv u.1 u.2.1 u.2.2.1 u.2.2.2) t) A) ([.ref (ad 8), .int a0, .int a1] : List Value).toArray s 0 0 A) (F0 m 42 ls [])) : ∀ (x1 : Int32) (x2 : Int32) (x3 : Int64) (x5 : Int32) (x6 : Int32) (I : Nat → Int32) (J : Nat → Int64) (B : Nat → Nat → Int32) (D : Nat → Nat → Int64) (ls : Array Slot) (H : Heap) (locs : List Loc), wb_Graph_addStepsBy_42 a0 a1 K42 Post x1 x2 x3 x5 x6 I J B D → lv_has ls 7 [(0, .ref (ad 8)), (1, .int x1), (2, .int x2), (3, .long x3), (5, .int x5), (6, .int x6)] → zW G A s.heap (wX ad K sv I J B D) H locs → W p l e { frames := 4, cells := 0, slots := 0, locals := 95 } s m ([.ref (ad 8), .int a0, .int a1] : List Value).toArray below meth c H locs 0 0 (MQ below (va_Qi (fun (r : Int32) (u : zS) => Post r u.1 u.2.1 u.2.2.1 u.2.2.2) (fun u t => zPost G K A (wX ad K sv u.1 u.2.1 u.2.2.1 u.2.2.2) t) A) ([.ref (ad 8), .int a0, .int a1] : List Value).toArray s 0 0 A) (F0 m 42 ls []) := by
  obtain ⟨hx, hb, hr, hml, hts, hown, hlocks, hA, hK⟩ := id C
  intro x1 x2 x3 x5 x6 I J B D ls H locs hok hl hw
  unfold wb_Graph_addStepsBy_42 at hok
  refine lv_iload hx hb zd_Graph_addStepsBy_42 (lv_at hl 5 rfl) ?_
  refine lv_bipush (v := 48) hx hb zd_Graph_addStepsBy_44 (by decide) ?_
  refine lv_icmp_ge (tgt := 81) hx hb zd_Graph_addStepsBy_46 (by decide) (fun hc2 => ?_) (fun hc2 => ?_)
  · have hok := hok.1 hc2
    exact wJ_Graph_addStepsBy_81 G K ad sv a0 a1 Post C x5 I J B D ls H locs hok (lv_sub hl [4] rfl) hw
  · have hok := hok.2 hc2
    refine lv_iload hx hb zd_Graph_addStepsBy_49 (lv_at hl 4 rfl) ?_
    refine lv_if_eq (tgt := 81) hx hb zd_Graph_addStepsBy_51 (by decide) (fun hc3 => ?_) (fun hc3 => ?_)
    · have hok := hok.1 hc3
      exact wJ_Graph_addStepsBy_81 G K ad sv a0 a1 Post C x5 I J B D ls H locs hok (lv_sub hl [4] rfl) hw
    · have hok := hok.2 hc3
      refine lv_lload_n hx hb zd_Graph_addStepsBy_54 rfl (lv_at hl 3 rfl) ?_
      refine lv_iload hx hb zd_Graph_addStepsBy_55 (lv_at hl 5 rfl) ?_
      refine lv_lushr hx hb zd_Graph_addStepsBy_57 rfl ?_
      refine lv_topl (fun z4 ez4 => ?_)
      have hok := hok z4 ez4
      refine lv_lconst (v := 1) hx hb zd_Graph_addStepsBy_58 (by decide) ?_
      refine lv_land hx hb zd_Graph_addStepsBy_59 ?_
      refine lv_topl (fun z5 ez5 => ?_)
      have hok := hok z5 ez5
      refine lv_lconst (v := 0) hx hb zd_Graph_addStepsBy_60 (by decide) ?_
      refine W.lcmp hx hb zd_Graph_addStepsBy_61 ?_
      refine lv_topi (fun z6 ez6 => ?_)
      have hok := hok z6 ez6
      refine lv_if_eq (tgt := 75) hx hb zd_Graph_addStepsBy_62 (by decide) (fun hc7 => ?_) (fun hc7 => ?_)
      · have hok := hok.1 hc7
        exact wJ_Graph_addStepsBy_75 G K ad sv a0 a1 Post C K42 kh42 x1 x2 x3 x5 x6 I J B D ls H locs hok (lv_sub hl [0, 1, 2, 3, 4, 5] rfl) hw
      · have hok := hok.2 hc7
        refine lv_aload_n hx hb zd_Graph_addStepsBy_65 rfl (lv_at hl 0 rfl) ?_
        refine lv_iload_n hx hb zd_Graph_addStepsBy_66 rfl (lv_at hl 1 rfl) ?_
        refine lv_iload_n hx hb zd_Graph_addStepsBy_67 rfl (lv_at hl 2 rfl) ?_
        refine lv_iload hx hb zd_Graph_addStepsBy_68 (lv_at hl 5 rfl) ?_
        refine z_calli (w1 := fun (u : zS) => wX ad K sv u.1 u.2.1 u.2.2.1 u.2.2.2) (wr := []) (z_runV (q0 := 8) (wc := (wX ad K sv I J B D)) (As := [.int x1, .int x2, .int x6]) (rest := []) ⟨hx, hb, hml, hown, hts⟩ (w_Graph_addDone l G K ad sv I J B D x1 x2 x6 _ H.size hok) zf_Graph_addDone zn_420 ⟨Nat.le_of_ble_eq_true rfl, Nat.le_of_ble_eq_true rfl⟩ hK hw (List.range 65) wX_all wX_nd wX_g8 rfl rfl hl.1 rfl (Nat.le_of_ble_eq_true rfl) zd_Graph_addStepsBy_70 ⟨Nat.le_of_ble_eq_true rfl, Nat.le_of_ble_eq_true rfl⟩) hw hA (List.range 65) [] wX_all rfl (by decide) (fun i hi => by cases hi) (fun r8 u H locs hok hw => ?_)
        obtain ⟨I8, J8, B8, D8⟩ := u
        dsimp only at hok
        have hw : zW G A s.heap (wX ad K sv I8 J8 B8 D8) H locs := hw
        refine lv_istore hx hb zd_Graph_addStepsBy_73 hl (by decide) rfl (fun ls hl => ?_)
        have hl : lv_has ls 7 [(5, .int r8), (0, .ref (ad 8)), (1, .int x1), (2, .int x2), (3, .long x3), (6, .int x6)] := hl
        exact wJ_Graph_addStepsBy_75 G K ad sv a0 a1 Post C K42 kh42 x1 x2 x3 r8 x6 I8 J8 B8 D8 ls H locs hok (lv_sub hl [1, 2, 3, 4, 0, 5] rfl) hw
theorem wL_Graph_addStepsBy_42 {p : Program} {l : Launch} {e : Env} {s : State} {m : MethodId} {below : List Frame} {meth : Method} {c : Code} {A : Nat → Prop} (G : va_G) (K : Nat → ClassId) (ad : Nat → Nat) (sv : Value) (a0 : Int32) (a1 : Int32) (Post : Int32 → (Nat → Int32) → (Nat → Int64) → (Nat → Nat → Int32) → (Nat → Nat → Int64) → Prop) (C : zCx p s m ([.ref (ad 8), .int a0, .int a1] : List Value).toArray meth c A G K prog_3_method_5_code (some .boolean) 7 "LassoFinder$Graph") : ∀ (n : Nat) (x1 : Int32) (x2 : Int32) (x3 : Int64) (x5 : Int32) (x6 : Int32) (I : Nat → Int32) (J : Nat → Int64) (B : Nat → Nat → Int32) (D : Nat → Nat → Int64) (ls : Array Slot) (H : Heap) (locs : List Loc), wl_Graph_addStepsBy_42 a0 a1 Post n x1 x2 x3 x5 x6 I J B D → lv_has ls 7 [(0, .ref (ad 8)), (1, .int x1), (2, .int x2), (3, .long x3), (5, .int x5), (6, .int x6)] → zW G A s.heap (wX ad K sv I J B D) H locs → W p l e { frames := 4, cells := 0, slots := 0, locals := 95 } s m ([.ref (ad 8), .int a0, .int a1] : List Value).toArray below meth c H locs 0 0 (MQ below (va_Qi (fun (r : Int32) (u : zS) => Post r u.1 u.2.1 u.2.2.1 u.2.2.2) (fun u t => zPost G K A (wX ad K sv u.1 u.2.1 u.2.2.1 u.2.2.2) t) A) ([.ref (ad 8), .int a0, .int a1] : List Value).toArray s 0 0 A) (F0 m 42 ls []) := by
  intro n
  induction n with
  | zero => intro x1 x2 x3 x5 x6 I J B D ls H locs hok; exact hok.elim
  | succ n ih => exact wB_Graph_addStepsBy_42 G K ad sv a0 a1 Post C (wl_Graph_addStepsBy_42 a0 a1 Post n) ih
set_option maxHeartbeats 8000000 in
set_option maxRecDepth 100000 in
theorem w_Graph_addStepsBy (l : Launch) (G : va_G) (K : Nat → ClassId) (ad : Nat → Nat) (sv : Value) (I : Nat → Int32) (J : Nat → Int64) (B : Nat → Nat → Int32) (D : Nat → Nat → Int64) (a0 : Int32) (a1 : Int32) (Post : Int32 → (Nat → Int32) → (Nat → Int64) → (Nat → Nat → Int32) → (Nat → Nat → Int64) → Prop) (sz : Nat) (hok : wp_Graph_addStepsBy I J B D a0 a1 Post) : Met l zy_Graph_addStepsBy (Cond.code zy_Graph_addStepsBy prog_3_method_5_code 7 (some .boolean) :: zTB) { frames := 4, cells := 0, slots := 0, locals := 95 } (va_Pc [.ref (ad 8), .int a0, .int a1] (zPre G K (wX ad K sv I J B D) sz)) (va_Qi (fun (r : Int32) (u : zS) => Post r u.1 u.2.1 u.2.2.1 u.2.2.2) (fun u t => zPost G K (va_A (wX ad K sv I J B D) sz) (wX ad K sv u.1 u.2.1 u.2.2.1 u.2.2.2) t) (va_A (wX ad K sv I J B D) sz)) 0 0 (va_A (wX ad K sv I J B D) sz) := by
  refine zMet (y := zy_Graph_addStepsBy) (av := [.ref (ad 8), .int a0, .int a1]) (maxL := 7) (cc := prog_3_method_5_code) (ret := (some .boolean)) (W0 := (wX ad K sv I J B D)) (sz := sz) (G := G) (K := K) (wt := zTB) (mc := 0) (ms := 0) (Qf := fun A => va_Qi (fun (r : Int32) (u : zS) => Post r u.1 u.2.1 u.2.2.1 u.2.2.2) (fun u t => zPost G K A (wX ad K sv u.1 u.2.1 u.2.2.1 u.2.2.2) t) A) (by decide) (Nat.le_of_ble_eq_true rfl) ?_
  intro p e s m below meth c ls A hx hb hr hml hts hown hlocks hin hA hK H locs hw hsz hl
  clear hsz
  have hown : s.vm.findClass "LassoFinder$Graph" = some m.cls := hown
  have C : zCx p s m ([.ref (ad 8), .int a0, .int a1] : List Value).toArray meth c A G K prog_3_method_5_code (some .boolean) 7 "LassoFinder$Graph" := ⟨hx, hb, hr, hml, hts, hown, hlocks, hA, hK⟩
  have hl : lv_has ls 7 [(0, .ref (ad 8)), (1, .int a0), (2, .int a1)] := hl
  have hw : zW G A s.heap (wX ad K sv I J B D) H locs := hw
  unfold wp_Graph_addStepsBy at hok
  refine lv_aload_n hx hb zd_Graph_addStepsBy_0 rfl (lv_at hl 0 rfl) ?_
  refine z_get (v := .ref (ad 7)) hx hb hts hown hK hw zZ2 8 wX_g8 0 (by decide) zn_428 rfl zd_Graph_addStepsBy_1 ?_
  refine lv_aload_n hx hb zd_Graph_addStepsBy_4 rfl (lv_at hl 0 rfl) ?_
  refine z_get (v := .ref (ad 46)) hx hb hts hown hK hw zZ2 8 wX_g8 1 (by decide) zn_269 rfl zd_Graph_addStepsBy_5 ?_
  refine lv_iload_n hx hb zd_Graph_addStepsBy_8 rfl (lv_at hl 1 rfl) ?_
  refine va_lald (f := (D 2)) hx hb hK hw.1 46 1 wX_a46 rfl hok.1 zd_Graph_addStepsBy_9 ?_
  have hok := hok.2
  refine lv_topl (fun z9 ez9 => ?_)
  have hok := hok z9 ez9
  refine z_callv (w1 := fun (u : zS) => wX ad K sv u.1 u.2.1 u.2.2.1 u.2.2.2) (wr := []) (z_runV (q0 := 7) (wc := (wX ad K sv I J B D)) (As := [.long z9]) (rest := []) ⟨hx, hb, hml, hown, hts⟩ (w_Situation_unpack l G K ad sv I J B D z9 _ H.size hok) zf_Situation_unpack zn_409 ⟨Nat.le_of_ble_eq_true rfl, Nat.le_of_ble_eq_true rfl⟩ hK hw (List.range 65) wX_all wX_nd wX_g7 rfl rfl hl.1 rfl (Nat.le_of_ble_eq_true rfl) zd_Graph_addStepsBy_10 ⟨Nat.le_of_ble_eq_true rfl, Nat.le_of_ble_eq_true rfl⟩) hw hA (List.range 65) [] wX_all rfl (by decide) (fun i hi => by cases hi) (fun u H locs hok hw => ?_)
  obtain ⟨I10, J10, B10, D10⟩ := u
  dsimp only at hok
  have hw : zW G A s.heap (wX ad K sv I10 J10 B10 D10) H locs := hw
  refine lv_aload_n hx hb zd_Graph_addStepsBy_13 rfl (lv_at hl 0 rfl) ?_
  refine z_get (v := .ref (ad 7)) hx hb hts hown hK hw zZ2 8 wX_g8 0 (by decide) zn_428 rfl zd_Graph_addStepsBy_14 ?_
  refine lv_iload_n hx hb zd_Graph_addStepsBy_17 rfl (lv_at hl 2 rfl) ?_
  refine z_calll (w1 := fun (u : zS) => wX ad K sv u.1 u.2.1 u.2.2.1 u.2.2.2) (wr := []) (z_runV (q0 := 7) (wc := (wX ad K sv I10 J10 B10 D10)) (As := [.int a1]) (rest := []) ⟨hx, hb, hml, hown, hts⟩ (w_Situation_partners l G K ad sv I10 J10 B10 D10 a1 _ H.size hok) zf_Situation_partners zn_419 ⟨Nat.le_of_ble_eq_true rfl, Nat.le_of_ble_eq_true rfl⟩ hK hw (List.range 65) wX_all wX_nd wX_g7 rfl rfl hl.1 rfl (Nat.le_of_ble_eq_true rfl) zd_Graph_addStepsBy_18 ⟨Nat.le_of_ble_eq_true rfl, Nat.le_of_ble_eq_true rfl⟩) hw hA (List.range 65) [] wX_all rfl (by decide) (fun i hi => by cases hi) (fun r11 u H locs hok hw => ?_)
  obtain ⟨I11, J11, B11, D11⟩ := u
  dsimp only at hok
  have hw : zW G A s.heap (wX ad K sv I11 J11 B11 D11) H locs := hw
  refine lv_lstore_n hx hb zd_Graph_addStepsBy_21 rfl hl (by decide) rfl (fun ls hl => ?_)
  have hl : lv_has ls 7 [(3, .long r11), (0, .ref (ad 8)), (1, .int a0), (2, .int a1)] := hl
  refine lv_lload_n hx hb zd_Graph_addStepsBy_22 rfl (lv_at hl 0 rfl) ?_
  refine lv_lconst (v := 0) hx hb zd_Graph_addStepsBy_23 (by decide) ?_
  refine W.lcmp hx hb zd_Graph_addStepsBy_24 ?_
  refine lv_topi (fun z12 ez12 => ?_)
  have hok := hok z12 ez12
  refine lv_if_ne (tgt := 36) hx hb zd_Graph_addStepsBy_25 (by decide) (fun hc13 => ?_) (fun hc13 => ?_)
  · have hok := hok.1 hc13
    refine lv_iconst (v := 1) hx hb zd_Graph_addStepsBy_36 (by decide) ?_
    refine lv_istore hx hb zd_Graph_addStepsBy_37 hl (by decide) rfl (fun ls hl => ?_)
    have hl : lv_has ls 7 [(5, .int 1), (3, .long r11), (0, .ref (ad 8)), (1, .int a0), (2, .int a1)] := hl
    refine lv_iconst (v := 0) hx hb zd_Graph_addStepsBy_39 (by decide) ?_
    refine lv_istore hx hb zd_Graph_addStepsBy_40 hl (by decide) rfl (fun ls hl => ?_)
    have hl : lv_has ls 7 [(6, .int 0), (5, .int 1), (3, .long r11), (0, .ref (ad 8)), (1, .int a0), (2, .int a1)] := hl
    obtain ⟨n9, hok⟩ := hok
    exact wL_Graph_addStepsBy_42 G K ad sv a0 a1 Post C n9 a0 a1 r11 1 0 I11 J11 B11 D11 ls H locs hok (lv_sub hl [3, 4, 5, 2, 1, 0] rfl) hw
  · have hok := hok.2 hc13
    refine lv_aload_n hx hb zd_Graph_addStepsBy_28 rfl (lv_at hl 1 rfl) ?_
    refine lv_iload_n hx hb zd_Graph_addStepsBy_29 rfl (lv_at hl 2 rfl) ?_
    refine lv_iload_n hx hb zd_Graph_addStepsBy_30 rfl (lv_at hl 3 rfl) ?_
    refine lv_iconst (v := (-1)) hx hb zd_Graph_addStepsBy_31 (by decide) ?_
    refine z_calli (w1 := fun (u : zS) => wX ad K sv u.1 u.2.1 u.2.2.1 u.2.2.2) (wr := []) (z_runV (q0 := 8) (wc := (wX ad K sv I11 J11 B11 D11)) (As := [.int a0, .int a1, .int (-1)]) (rest := []) ⟨hx, hb, hml, hown, hts⟩ (w_Graph_addDone l G K ad sv I11 J11 B11 D11 a0 a1 (-1) _ H.size hok) zf_Graph_addDone zn_420 ⟨Nat.le_of_ble_eq_true rfl, Nat.le_of_ble_eq_true rfl⟩ hK hw (List.range 65) wX_all wX_nd wX_g8 rfl rfl hl.1 rfl (Nat.le_of_ble_eq_true rfl) zd_Graph_addStepsBy_32 ⟨Nat.le_of_ble_eq_true rfl, Nat.le_of_ble_eq_true rfl⟩) hw hA (List.range 65) [] wX_all rfl (by decide) (fun i hi => by cases hi) (fun r14 u H locs hok hw => ?_)
    obtain ⟨I14, J14, B14, D14⟩ := u
    dsimp only at hok
    have hw : zW G A s.heap (wX ad K sv I14 J14 B14 D14) H locs := hw
    have hbo := hok.1
    have hok := hok.2
    exact (z_iret (u := (I14, J14, B14, D14)) hx hb hr hlocks (z_nar hbo) hw (List.range 65) wX_all wX_nd hok (Nat.le_of_ble_eq_true rfl) (Nat.le_of_ble_eq_true rfl) zd_Graph_addStepsBy_35)
def wc_Situation_hasFreeSlot_23 (a0 : Int32) (Post : Int32 → (Nat → Int32) → (Nat → Int64) → (Nat → Nat → Int32) → (Nat → Nat → Int64) → Prop) (y0 : Int32) (I : Nat → Int32) (J : Nat → Int64) (B : Nat → Nat → Int32) (D : Nat → Nat → Int64) : Prop :=
  (y0 = 0 ∨ y0 = 1) ∧ Post y0 I J B D
def wp_Situation_hasFreeSlot (I : Nat → Int32) (J : Nat → Int64) (B : Nat → Nat → Int32) (D : Nat → Nat → Int64) (a0 : Int32) (Post : Int32 → (Nat → Int32) → (Nat → Int64) → (Nat → Nat → Int32) → (Nat → Nat → Int64) → Prop) : Prop :=
  vp_in a0 8 ∧ ∀ z1 : Int32, z1 = ((B 29) a0.toNatClampNeg) → vp_in a0 8 ∧ ∀ z2 : Int32, z2 = ((B 3) a0.toNatClampNeg) → ((z2 ≤ z1 → wc_Situation_hasFreeSlot_23 a0 Post 0 I J B D) ∧ (¬ z2 ≤ z1 → wc_Situation_hasFreeSlot_23 a0 Post 1 I J B D))
set_option maxHeartbeats 8000000 in
set_option maxRecDepth 100000 in
theorem wJ_Situation_hasFreeSlot_23 {p : Program} {l : Launch} {e : Env} {s : State} {m : MethodId} {below : List Frame} {meth : Method} {c : Code} {A : Nat → Prop} (G : va_G) (K : Nat → ClassId) (ad : Nat → Nat) (sv : Value) (a0 : Int32) (Post : Int32 → (Nat → Int32) → (Nat → Int64) → (Nat → Nat → Int32) → (Nat → Nat → Int64) → Prop) (C : zCx p s m ([.ref (ad 7), .int a0] : List Value).toArray meth c A G K prog_8_method_9_code (some .boolean) 2 "LassoFinder$Situation") : ∀ (y0 : Int32) (I : Nat → Int32) (J : Nat → Int64) (B : Nat → Nat → Int32) (D : Nat → Nat → Int64) (ls : Array Slot) (H : Heap) (locs : List Loc), wc_Situation_hasFreeSlot_23 a0 Post y0 I J B D → lv_has ls 2 [] → zW G A s.heap (wX ad K sv I J B D) H locs → W p l e { frames := 0, cells := 0, slots := 0, locals := 0 } s m ([.ref (ad 7), .int a0] : List Value).toArray below meth c H locs 0 0 (MQ below (va_Qi (fun (r : Int32) (u : zS) => Post r u.1 u.2.1 u.2.2.1 u.2.2.2) (fun u t => zPost G K A (wX ad K sv u.1 u.2.1 u.2.2.1 u.2.2.2) t) A) ([.ref (ad 7), .int a0] : List Value).toArray s 0 0 A) (F0 m 23 ls [.int y0]) := by
  obtain ⟨hx, hb, hr, hml, hts, hown, hlocks, hA, hK⟩ := id C
  intro y0 I J B D ls H locs hok hl hw
  unfold wc_Situation_hasFreeSlot_23 at hok
  have hbo := hok.1
  have hok := hok.2
  exact (z_iret (u := (I, J, B, D)) hx hb hr hlocks (z_nar hbo) hw (List.range 65) wX_all wX_nd hok (Nat.le_of_ble_eq_true rfl) (Nat.le_of_ble_eq_true rfl) zd_Situation_hasFreeSlot_23)
set_option maxHeartbeats 8000000 in
set_option maxRecDepth 100000 in
theorem w_Situation_hasFreeSlot (l : Launch) (G : va_G) (K : Nat → ClassId) (ad : Nat → Nat) (sv : Value) (I : Nat → Int32) (J : Nat → Int64) (B : Nat → Nat → Int32) (D : Nat → Nat → Int64) (a0 : Int32) (Post : Int32 → (Nat → Int32) → (Nat → Int64) → (Nat → Nat → Int32) → (Nat → Nat → Int64) → Prop) (sz : Nat) (hok : wp_Situation_hasFreeSlot I J B D a0 Post) : Met l zy_Situation_hasFreeSlot (Cond.code zy_Situation_hasFreeSlot prog_8_method_9_code 2 (some .boolean) :: zTB) { frames := 0, cells := 0, slots := 0, locals := 0 } (va_Pc [.ref (ad 7), .int a0] (zPre G K (wX ad K sv I J B D) sz)) (va_Qi (fun (r : Int32) (u : zS) => Post r u.1 u.2.1 u.2.2.1 u.2.2.2) (fun u t => zPost G K (va_A (wX ad K sv I J B D) sz) (wX ad K sv u.1 u.2.1 u.2.2.1 u.2.2.2) t) (va_A (wX ad K sv I J B D) sz)) 0 0 (va_A (wX ad K sv I J B D) sz) := by
  refine zMet (y := zy_Situation_hasFreeSlot) (av := [.ref (ad 7), .int a0]) (maxL := 2) (cc := prog_8_method_9_code) (ret := (some .boolean)) (W0 := (wX ad K sv I J B D)) (sz := sz) (G := G) (K := K) (wt := zTB) (mc := 0) (ms := 0) (Qf := fun A => va_Qi (fun (r : Int32) (u : zS) => Post r u.1 u.2.1 u.2.2.1 u.2.2.2) (fun u t => zPost G K A (wX ad K sv u.1 u.2.1 u.2.2.1 u.2.2.2) t) A) (by decide) (Nat.le_of_ble_eq_true rfl) ?_
  intro p e s m below meth c ls A hx hb hr hml hts hown hlocks hin hA hK H locs hw hsz hl
  clear hsz
  have hown : s.vm.findClass "LassoFinder$Situation" = some m.cls := hown
  have C : zCx p s m ([.ref (ad 7), .int a0] : List Value).toArray meth c A G K prog_8_method_9_code (some .boolean) 2 "LassoFinder$Situation" := ⟨hx, hb, hr, hml, hts, hown, hlocks, hA, hK⟩
  have hl : lv_has ls 2 [(0, .ref (ad 7)), (1, .int a0)] := hl
  have hw : zW G A s.heap (wX ad K sv I J B D) H locs := hw
  unfold wp_Situation_hasFreeSlot at hok
  refine lv_aload_n hx hb zd_Situation_hasFreeSlot_0 rfl (lv_at hl 0 rfl) ?_
  refine z_get (v := .ref (ad 43)) hx hb hts hown hK hw zZ7 7 wX_g7 3 (by decide) zn_266 rfl zd_Situation_hasFreeSlot_1 ?_
  refine lv_iload_n hx hb zd_Situation_hasFreeSlot_4 rfl (lv_at hl 1 rfl) ?_
  refine va_iald (f := (B 29)) hx hb hK hw.1 43 0 wX_a43 rfl hok.1 zd_Situation_hasFreeSlot_5 ?_
  have hok := hok.2
  refine lv_topi (fun z1 ez1 => ?_)
  have hok := hok z1 ez1
  refine lv_aload_n hx hb zd_Situation_hasFreeSlot_6 rfl (lv_at hl 0 rfl) ?_
  refine z_get (v := .ref (ad 2)) hx hb hts hown hK hw zZ7 7 wX_g7 0 (by decide) zn_291 rfl zd_Situation_hasFreeSlot_7 ?_
  refine z_get (v := .ref (ad 15)) hx hb hts hown hK hw zZ5 2 wX_g2 1 (by decide) zn_440 rfl zd_Situation_hasFreeSlot_10 ?_
  refine lv_iload_n hx hb zd_Situation_hasFreeSlot_13 rfl (lv_at hl 1 rfl) ?_
  refine va_iald (f := (B 3)) hx hb hK hw.1 15 0 wX_a15 rfl hok.1 zd_Situation_hasFreeSlot_14 ?_
  have hok := hok.2
  refine lv_topi (fun z2 ez2 => ?_)
  have hok := hok z2 ez2
  refine lv_icmp_ge (tgt := 22) hx hb zd_Situation_hasFreeSlot_15 (by decide) (fun hc3 => ?_) (fun hc3 => ?_)
  · have hok := hok.1 hc3
    refine lv_iconst (v := 0) hx hb zd_Situation_hasFreeSlot_22 (by decide) ?_
    exact wJ_Situation_hasFreeSlot_23 G K ad sv a0 Post C 0 I J B D ls H locs hok (lv_sub hl [] rfl) hw
  · have hok := hok.2 hc3
    refine lv_iconst (v := 1) hx hb zd_Situation_hasFreeSlot_18 (by decide) ?_
    refine lv_goto (tgt := 23) hx hb zd_Situation_hasFreeSlot_19 (by decide) ?_
    exact wJ_Situation_hasFreeSlot_23 G K ad sv a0 Post C 1 I J B D ls H locs hok (lv_sub hl [] rfl) hw
def wc_Situation_canBeDone_44 (a0 : Int32) (Post : Int32 → (Nat → Int32) → (Nat → Int64) → (Nat → Nat → Int32) → (Nat → Nat → Int64) → Prop)  (I : Nat → Int32) (J : Nat → Int64) (B : Nat → Nat → Int32) (D : Nat → Nat → Int64) : Prop :=
  Post 1 I J B D
def wc_Situation_canBeDone_74 (a0 : Int32) (Post : Int32 → (Nat → Int32) → (Nat → Int64) → (Nat → Nat → Int32) → (Nat → Nat → Int64) → Prop) (y0 : Int32) (I : Nat → Int32) (J : Nat → Int64) (B : Nat → Nat → Int32) (D : Nat → Nat → Int64) : Prop :=
  (y0 = 0 ∨ y0 = 1) ∧ Post y0 I J B D
def wc_Situation_canBeDone_106 (a0 : Int32) (Post : Int32 → (Nat → Int32) → (Nat → Int64) → (Nat → Nat → Int32) → (Nat → Nat → Int64) → Prop) (y0 : Int32) (I : Nat → Int32) (J : Nat → Int64) (B : Nat → Nat → Int32) (D : Nat → Nat → Int64) : Prop :=
  (y0 = 0 ∨ y0 = 1) ∧ Post y0 I J B D
def wc_Situation_canBeDone_101 (a0 : Int32) (Post : Int32 → (Nat → Int32) → (Nat → Int64) → (Nat → Nat → Int32) → (Nat → Nat → Int64) → Prop)  (I : Nat → Int32) (J : Nat → Int64) (B : Nat → Nat → Int32) (D : Nat → Nat → Int64) : Prop :=
  wc_Situation_canBeDone_106 a0 Post 1 I J B D
def wc_Situation_canBeDone_129 (a0 : Int32) (Post : Int32 → (Nat → Int32) → (Nat → Int64) → (Nat → Nat → Int32) → (Nat → Nat → Int64) → Prop) (y0 : Int32) (I : Nat → Int32) (J : Nat → Int64) (B : Nat → Nat → Int32) (D : Nat → Nat → Int64) : Prop :=
  (y0 = 0 ∨ y0 = 1) ∧ Post y0 I J B D
def wp_Situation_canBeDone (I : Nat → Int32) (J : Nat → Int64) (B : Nat → Nat → Int32) (D : Nat → Nat → Int64) (a0 : Int32) (Post : Int32 → (Nat → Int32) → (Nat → Int64) → (Nat → Nat → Int32) → (Nat → Nat → Int64) → Prop) : Prop :=
  vp_in a0 48 ∧ ∀ z1 : Int32, z1 = ((B 6) a0.toNatClampNeg) → ((z1 = 0 → wc_Situation_canBeDone_44 a0 Post I J B D) ∧ (z1 = 1 → vp_in a0 48 ∧ ∀ z4 : Int32, z4 = ((B 9) a0.toNatClampNeg) → wp_Terms_reckon_ad43_A I J B D z4 (fun r5 I5 J5 B5 D5 => ((r5 = 0 → wc_Situation_canBeDone_74 a0 Post 0 I5 J5 B5 D5) ∧ (¬ r5 = 0 → wc_Situation_canBeDone_74 a0 Post 1 I5 J5 B5 D5)))) ∧ (z1 = 2 → vp_in a0 48 ∧ ∀ z8 : Int32, z8 = ((B 7) a0.toNatClampNeg) → wp_Situation_hasFreeSlot I J B D z8 (fun r9 I9 J9 B9 D9 => ((¬ r9 = 0 → wc_Situation_canBeDone_101 a0 Post I9 J9 B9 D9) ∧ (r9 = 0 → wp_Situation_partners I9 J9 B9 D9 a0 (fun r11 I11 J11 B11 D11 => ∀ z12 : Int32, z12 = (lg_cmp r11 0) → ((z12 = 0 → wc_Situation_canBeDone_106 a0 Post 0 I11 J11 B11 D11) ∧ (¬ z12 = 0 → wc_Situation_canBeDone_101 a0 Post I11 J11 B11 D11))))))) ∧ (z1 = 3 → vp_in a0 48 ∧ ∀ z15 : Int32, z15 = ((B 7) a0.toNatClampNeg) → vp_in z15 8 ∧ ∀ z16 : Int32, z16 = ((B 29) z15.toNatClampNeg) → ((z16 ≤ 0 → wc_Situation_canBeDone_129 a0 Post 0 I J B D) ∧ (¬ z16 ≤ 0 → wc_Situation_canBeDone_129 a0 Post 1 I J B D))) ∧ (z1 = 4 → wc_Situation_canBeDone_44 a0 Post I J B D) ∧ (¬ z1 = 0 → ¬ z1 = 1 → ¬ z1 = 2 → ¬ z1 = 3 → ¬ z1 = 4 → Post 0 I J B D))
set_option maxHeartbeats 8000000 in
set_option maxRecDepth 100000 in
theorem wJ_Situation_canBeDone_44 {p : Program} {l : Launch} {e : Env} {s : State} {m : MethodId} {below : List Frame} {meth : Method} {c : Code} {A : Nat → Prop} (G : va_G) (K : Nat → ClassId) (ad : Nat → Nat) (sv : Value) (a0 : Int32) (Post : Int32 → (Nat → Int32) → (Nat → Int64) → (Nat → Nat → Int32) → (Nat → Nat → Int64) → Prop) (C : zCx p s m ([.ref (ad 7), .int a0] : List Value).toArray meth c A G K prog_8_method_8_code (some .boolean) 2 "LassoFinder$Situation") : ∀  (I : Nat → Int32) (J : Nat → Int64) (B : Nat → Nat → Int32) (D : Nat → Nat → Int64) (ls : Array Slot) (H : Heap) (locs : List Loc), wc_Situation_canBeDone_44 a0 Post  I J B D → lv_has ls 2 [] → zW G A s.heap (wX ad K sv I J B D) H locs → W p l e { frames := 2, cells := 0, slots := 0, locals := 47 } s m ([.ref (ad 7), .int a0] : List Value).toArray below meth c H locs 0 0 (MQ below (va_Qi (fun (r : Int32) (u : zS) => Post r u.1 u.2.1 u.2.2.1 u.2.2.2) (fun u t => zPost G K A (wX ad K sv u.1 u.2.1 u.2.2.1 u.2.2.2) t) A) ([.ref (ad 7), .int a0] : List Value).toArray s 0 0 A) (F0 m 44 ls []) := by
  obtain ⟨hx, hb, hr, hml, hts, hown, hlocks, hA, hK⟩ := id C
  intro  I J B D ls H locs hok hl hw
  unfold wc_Situation_canBeDone_44 at hok
  refine lv_iconst (v := 1) hx hb zd_Situation_canBeDone_44 (by decide) ?_
  exact (z_iret (u := (I, J, B, D)) hx hb hr hlocks rfl hw (List.range 65) wX_all wX_nd hok (Nat.le_of_ble_eq_true rfl) (Nat.le_of_ble_eq_true rfl) zd_Situation_canBeDone_45)
set_option maxHeartbeats 8000000 in
set_option maxRecDepth 100000 in
theorem wJ_Situation_canBeDone_74 {p : Program} {l : Launch} {e : Env} {s : State} {m : MethodId} {below : List Frame} {meth : Method} {c : Code} {A : Nat → Prop} (G : va_G) (K : Nat → ClassId) (ad : Nat → Nat) (sv : Value) (a0 : Int32) (Post : Int32 → (Nat → Int32) → (Nat → Int64) → (Nat → Nat → Int32) → (Nat → Nat → Int64) → Prop) (C : zCx p s m ([.ref (ad 7), .int a0] : List Value).toArray meth c A G K prog_8_method_8_code (some .boolean) 2 "LassoFinder$Situation") : ∀ (y0 : Int32) (I : Nat → Int32) (J : Nat → Int64) (B : Nat → Nat → Int32) (D : Nat → Nat → Int64) (ls : Array Slot) (H : Heap) (locs : List Loc), wc_Situation_canBeDone_74 a0 Post y0 I J B D → lv_has ls 2 [] → zW G A s.heap (wX ad K sv I J B D) H locs → W p l e { frames := 2, cells := 0, slots := 0, locals := 47 } s m ([.ref (ad 7), .int a0] : List Value).toArray below meth c H locs 0 0 (MQ below (va_Qi (fun (r : Int32) (u : zS) => Post r u.1 u.2.1 u.2.2.1 u.2.2.2) (fun u t => zPost G K A (wX ad K sv u.1 u.2.1 u.2.2.1 u.2.2.2) t) A) ([.ref (ad 7), .int a0] : List Value).toArray s 0 0 A) (F0 m 74 ls [.int y0]) := by
  obtain ⟨hx, hb, hr, hml, hts, hown, hlocks, hA, hK⟩ := id C
  intro y0 I J B D ls H locs hok hl hw
  unfold wc_Situation_canBeDone_74 at hok
  have hbo := hok.1
  have hok := hok.2
  exact (z_iret (u := (I, J, B, D)) hx hb hr hlocks (z_nar hbo) hw (List.range 65) wX_all wX_nd hok (Nat.le_of_ble_eq_true rfl) (Nat.le_of_ble_eq_true rfl) zd_Situation_canBeDone_74)
set_option maxHeartbeats 8000000 in
set_option maxRecDepth 100000 in
theorem wJ_Situation_canBeDone_106 {p : Program} {l : Launch} {e : Env} {s : State} {m : MethodId} {below : List Frame} {meth : Method} {c : Code} {A : Nat → Prop} (G : va_G) (K : Nat → ClassId) (ad : Nat → Nat) (sv : Value) (a0 : Int32) (Post : Int32 → (Nat → Int32) → (Nat → Int64) → (Nat → Nat → Int32) → (Nat → Nat → Int64) → Prop) (C : zCx p s m ([.ref (ad 7), .int a0] : List Value).toArray meth c A G K prog_8_method_8_code (some .boolean) 2 "LassoFinder$Situation") : ∀ (y0 : Int32) (I : Nat → Int32) (J : Nat → Int64) (B : Nat → Nat → Int32) (D : Nat → Nat → Int64) (ls : Array Slot) (H : Heap) (locs : List Loc), wc_Situation_canBeDone_106 a0 Post y0 I J B D → lv_has ls 2 [] → zW G A s.heap (wX ad K sv I J B D) H locs → W p l e { frames := 2, cells := 0, slots := 0, locals := 47 } s m ([.ref (ad 7), .int a0] : List Value).toArray below meth c H locs 0 0 (MQ below (va_Qi (fun (r : Int32) (u : zS) => Post r u.1 u.2.1 u.2.2.1 u.2.2.2) (fun u t => zPost G K A (wX ad K sv u.1 u.2.1 u.2.2.1 u.2.2.2) t) A) ([.ref (ad 7), .int a0] : List Value).toArray s 0 0 A) (F0 m 106 ls [.int y0]) := by
  obtain ⟨hx, hb, hr, hml, hts, hown, hlocks, hA, hK⟩ := id C
  intro y0 I J B D ls H locs hok hl hw
  unfold wc_Situation_canBeDone_106 at hok
  have hbo := hok.1
  have hok := hok.2
  exact (z_iret (u := (I, J, B, D)) hx hb hr hlocks (z_nar hbo) hw (List.range 65) wX_all wX_nd hok (Nat.le_of_ble_eq_true rfl) (Nat.le_of_ble_eq_true rfl) zd_Situation_canBeDone_106)
set_option maxHeartbeats 8000000 in
set_option maxRecDepth 100000 in
theorem wJ_Situation_canBeDone_101 {p : Program} {l : Launch} {e : Env} {s : State} {m : MethodId} {below : List Frame} {meth : Method} {c : Code} {A : Nat → Prop} (G : va_G) (K : Nat → ClassId) (ad : Nat → Nat) (sv : Value) (a0 : Int32) (Post : Int32 → (Nat → Int32) → (Nat → Int64) → (Nat → Nat → Int32) → (Nat → Nat → Int64) → Prop) (C : zCx p s m ([.ref (ad 7), .int a0] : List Value).toArray meth c A G K prog_8_method_8_code (some .boolean) 2 "LassoFinder$Situation") : ∀  (I : Nat → Int32) (J : Nat → Int64) (B : Nat → Nat → Int32) (D : Nat → Nat → Int64) (ls : Array Slot) (H : Heap) (locs : List Loc), wc_Situation_canBeDone_101 a0 Post  I J B D → lv_has ls 2 [] → zW G A s.heap (wX ad K sv I J B D) H locs → W p l e { frames := 2, cells := 0, slots := 0, locals := 47 } s m ([.ref (ad 7), .int a0] : List Value).toArray below meth c H locs 0 0 (MQ below (va_Qi (fun (r : Int32) (u : zS) => Post r u.1 u.2.1 u.2.2.1 u.2.2.2) (fun u t => zPost G K A (wX ad K sv u.1 u.2.1 u.2.2.1 u.2.2.2) t) A) ([.ref (ad 7), .int a0] : List Value).toArray s 0 0 A) (F0 m 101 ls []) := by
  obtain ⟨hx, hb, hr, hml, hts, hown, hlocks, hA, hK⟩ := id C
  intro  I J B D ls H locs hok hl hw
  unfold wc_Situation_canBeDone_101 at hok
  refine lv_iconst (v := 1) hx hb zd_Situation_canBeDone_101 (by decide) ?_
  refine lv_goto (tgt := 106) hx hb zd_Situation_canBeDone_102 (by decide) ?_
  exact wJ_Situation_canBeDone_106 G K ad sv a0 Post C 1 I J B D ls H locs hok (lv_sub hl [] rfl) hw
set_option maxHeartbeats 8000000 in
set_option maxRecDepth 100000 in
theorem wJ_Situation_canBeDone_129 {p : Program} {l : Launch} {e : Env} {s : State} {m : MethodId} {below : List Frame} {meth : Method} {c : Code} {A : Nat → Prop} (G : va_G) (K : Nat → ClassId) (ad : Nat → Nat) (sv : Value) (a0 : Int32) (Post : Int32 → (Nat → Int32) → (Nat → Int64) → (Nat → Nat → Int32) → (Nat → Nat → Int64) → Prop) (C : zCx p s m ([.ref (ad 7), .int a0] : List Value).toArray meth c A G K prog_8_method_8_code (some .boolean) 2 "LassoFinder$Situation") : ∀ (y0 : Int32) (I : Nat → Int32) (J : Nat → Int64) (B : Nat → Nat → Int32) (D : Nat → Nat → Int64) (ls : Array Slot) (H : Heap) (locs : List Loc), wc_Situation_canBeDone_129 a0 Post y0 I J B D → lv_has ls 2 [] → zW G A s.heap (wX ad K sv I J B D) H locs → W p l e { frames := 2, cells := 0, slots := 0, locals := 47 } s m ([.ref (ad 7), .int a0] : List Value).toArray below meth c H locs 0 0 (MQ below (va_Qi (fun (r : Int32) (u : zS) => Post r u.1 u.2.1 u.2.2.1 u.2.2.2) (fun u t => zPost G K A (wX ad K sv u.1 u.2.1 u.2.2.1 u.2.2.2) t) A) ([.ref (ad 7), .int a0] : List Value).toArray s 0 0 A) (F0 m 129 ls [.int y0]) := by
  obtain ⟨hx, hb, hr, hml, hts, hown, hlocks, hA, hK⟩ := id C
  intro y0 I J B D ls H locs hok hl hw
  unfold wc_Situation_canBeDone_129 at hok
  have hbo := hok.1
  have hok := hok.2
  exact (z_iret (u := (I, J, B, D)) hx hb hr hlocks (z_nar hbo) hw (List.range 65) wX_all wX_nd hok (Nat.le_of_ble_eq_true rfl) (Nat.le_of_ble_eq_true rfl) zd_Situation_canBeDone_129)
set_option maxHeartbeats 8000000 in
set_option maxRecDepth 100000 in
theorem w_Situation_canBeDone (l : Launch) (G : va_G) (K : Nat → ClassId) (ad : Nat → Nat) (sv : Value) (I : Nat → Int32) (J : Nat → Int64) (B : Nat → Nat → Int32) (D : Nat → Nat → Int64) (a0 : Int32) (Post : Int32 → (Nat → Int32) → (Nat → Int64) → (Nat → Nat → Int32) → (Nat → Nat → Int64) → Prop) (sz : Nat) (hok : wp_Situation_canBeDone I J B D a0 Post) : Met l zy_Situation_canBeDone (Cond.code zy_Situation_canBeDone prog_8_method_8_code 2 (some .boolean) :: zTB) { frames := 2, cells := 0, slots := 0, locals := 47 } (va_Pc [.ref (ad 7), .int a0] (zPre G K (wX ad K sv I J B D) sz)) (va_Qi (fun (r : Int32) (u : zS) => Post r u.1 u.2.1 u.2.2.1 u.2.2.2) (fun u t => zPost G K (va_A (wX ad K sv I J B D) sz) (wX ad K sv u.1 u.2.1 u.2.2.1 u.2.2.2) t) (va_A (wX ad K sv I J B D) sz)) 0 0 (va_A (wX ad K sv I J B D) sz) := by
  refine zMet (y := zy_Situation_canBeDone) (av := [.ref (ad 7), .int a0]) (maxL := 2) (cc := prog_8_method_8_code) (ret := (some .boolean)) (W0 := (wX ad K sv I J B D)) (sz := sz) (G := G) (K := K) (wt := zTB) (mc := 0) (ms := 0) (Qf := fun A => va_Qi (fun (r : Int32) (u : zS) => Post r u.1 u.2.1 u.2.2.1 u.2.2.2) (fun u t => zPost G K A (wX ad K sv u.1 u.2.1 u.2.2.1 u.2.2.2) t) A) (by decide) (Nat.le_of_ble_eq_true rfl) ?_
  intro p e s m below meth c ls A hx hb hr hml hts hown hlocks hin hA hK H locs hw hsz hl
  clear hsz
  have hown : s.vm.findClass "LassoFinder$Situation" = some m.cls := hown
  have C : zCx p s m ([.ref (ad 7), .int a0] : List Value).toArray meth c A G K prog_8_method_8_code (some .boolean) 2 "LassoFinder$Situation" := ⟨hx, hb, hr, hml, hts, hown, hlocks, hA, hK⟩
  have hl : lv_has ls 2 [(0, .ref (ad 7)), (1, .int a0)] := hl
  have hw : zW G A s.heap (wX ad K sv I J B D) H locs := hw
  unfold wp_Situation_canBeDone at hok
  refine lv_aload_n hx hb zd_Situation_canBeDone_0 rfl (lv_at hl 0 rfl) ?_
  refine z_get (v := .ref (ad 3)) hx hb hts hown hK hw zZ7 7 wX_g7 2 (by decide) zn_431 rfl zd_Situation_canBeDone_1 ?_
  refine z_get (v := .ref (ad 18)) hx hb hts hown hK hw zZ6 3 wX_g3 0 (by decide) zn_433 rfl zd_Situation_canBeDone_4 ?_
  refine lv_iload_n hx hb zd_Situation_canBeDone_7 rfl (lv_at hl 1 rfl) ?_
  refine va_iald (f := (B 6)) hx hb hK hw.1 18 0 wX_a18 rfl hok.1 zd_Situation_canBeDone_8 ?_
  have hok := hok.2
  refine lv_topi (fun z1 ez1 => ?_)
  have hok := hok z1 ez1
  by_cases hs2 : z1 = 0
  · have hok := hok.1 hs2
    refine lv_tableIn (off := 35) (tgt := 44) hx hb zd_Situation_canBeDone_9 (by rw [hs2]; decide) (by rw [hs2]; decide) (by rw [hs2]; decide) (by decide) ?_
    exact wJ_Situation_canBeDone_44 G K ad sv a0 Post C I J B D ls H locs hok (lv_sub hl [] rfl) hw
  by_cases hs3 : z1 = 1
  · have hok := hok.2.1 hs3
    refine lv_tableIn (off := 37) (tgt := 46) hx hb zd_Situation_canBeDone_9 (by rw [hs3]; decide) (by rw [hs3]; decide) (by rw [hs3]; decide) (by decide) ?_
    refine lv_aload_n hx hb zd_Situation_canBeDone_46 rfl (lv_at hl 0 rfl) ?_
    refine z_get (v := .ref (ad 4)) hx hb hts hown hK hw zZ7 7 wX_g7 1 (by decide) zn_436 rfl zd_Situation_canBeDone_47 ?_
    refine lv_aload_n hx hb zd_Situation_canBeDone_50 rfl (lv_at hl 0 rfl) ?_
    refine z_get (v := .ref (ad 3)) hx hb hts hown hK hw zZ7 7 wX_g7 2 (by decide) zn_431 rfl zd_Situation_canBeDone_51 ?_
    refine z_get (v := .ref (ad 21)) hx hb hts hown hK hw zZ6 3 wX_g3 3 (by decide) zn_432 rfl zd_Situation_canBeDone_54 ?_
    refine lv_iload_n hx hb zd_Situation_canBeDone_57 rfl (lv_at hl 1 rfl) ?_
    refine va_iald (f := (B 9)) hx hb hK hw.1 21 0 wX_a21 rfl hok.1 zd_Situation_canBeDone_58 ?_
    have hok := hok.2
    refine lv_topi (fun z4 ez4 => ?_)
    have hok := hok z4 ez4
    refine lv_aload_n hx hb zd_Situation_canBeDone_59 rfl (lv_at hl 0 rfl) ?_
    refine z_get (v := .ref (ad 43)) hx hb hts hown hK hw zZ7 7 wX_g7 3 (by decide) zn_266 rfl zd_Situation_canBeDone_60 ?_
    refine z_calli (w1 := fun (u : zS) => wX ad K sv u.1 u.2.1 u.2.2.1 u.2.2.2) (wr := []) (z_runV (q0 := 4) (wc := (wX ad K sv I J B D)) (As := [.int z4, .ref (ad 43)]) (rest := []) ⟨hx, hb, hml, hown, hts⟩ (w_Terms_reckon_ad43_A l G K ad sv I J B D z4 _ H.size hok) zf_Terms_reckon zn_414 ⟨Nat.le_of_ble_eq_true rfl, Nat.le_of_ble_eq_true rfl⟩ hK hw (List.range 65) wX_all wX_nd wX_g4 rfl rfl hl.1 rfl (Nat.le_of_ble_eq_true rfl) zd_Situation_canBeDone_63 ⟨Nat.le_of_ble_eq_true rfl, Nat.le_of_ble_eq_true rfl⟩) hw hA (List.range 65) [] wX_all rfl (by decide) (fun i hi => by cases hi) (fun r5 u H locs hok hw => ?_)
    obtain ⟨I5, J5, B5, D5⟩ := u
    dsimp only at hok
    have hw : zW G A s.heap (wX ad K sv I5 J5 B5 D5) H locs := hw
    refine lv_if_eq (tgt := 73) hx hb zd_Situation_canBeDone_66 (by decide) (fun hc6 => ?_) (fun hc6 => ?_)
    · have hok := hok.1 hc6
      refine lv_iconst (v := 0) hx hb zd_Situation_canBeDone_73 (by decide) ?_
      exact wJ_Situation_canBeDone_74 G K ad sv a0 Post C 0 I5 J5 B5 D5 ls H locs hok (lv_sub hl [] rfl) hw
    · have hok := hok.2 hc6
      refine lv_iconst (v := 1) hx hb zd_Situation_canBeDone_69 (by decide) ?_
      refine lv_goto (tgt := 74) hx hb zd_Situation_canBeDone_70 (by decide) ?_
      exact wJ_Situation_canBeDone_74 G K ad sv a0 Post C 1 I5 J5 B5 D5 ls H locs hok (lv_sub hl [] rfl) hw
  by_cases hs7 : z1 = 2
  · have hok := hok.2.2.1 hs7
    refine lv_tableIn (off := 66) (tgt := 75) hx hb zd_Situation_canBeDone_9 (by rw [hs7]; decide) (by rw [hs7]; decide) (by rw [hs7]; decide) (by decide) ?_
    refine lv_aload_n hx hb zd_Situation_canBeDone_75 rfl (lv_at hl 0 rfl) ?_
    refine lv_aload_n hx hb zd_Situation_canBeDone_76 rfl (lv_at hl 0 rfl) ?_
    refine z_get (v := .ref (ad 3)) hx hb hts hown hK hw zZ7 7 wX_g7 2 (by decide) zn_431 rfl zd_Situation_canBeDone_77 ?_
    refine z_get (v := .ref (ad 19)) hx hb hts hown hK hw zZ6 3 wX_g3 1 (by decide) zn_435 rfl zd_Situation_canBeDone_80 ?_
    refine lv_iload_n hx hb zd_Situation_canBeDone_83 rfl (lv_at hl 1 rfl) ?_
    refine va_iald (f := (B 7)) hx hb hK hw.1 19 0 wX_a19 rfl hok.1 zd_Situation_canBeDone_84 ?_
    have hok := hok.2
    refine lv_topi (fun z8 ez8 => ?_)
    have hok := hok z8 ez8
    refine z_calli (w1 := fun (u : zS) => wX ad K sv u.1 u.2.1 u.2.2.1 u.2.2.2) (wr := []) (z_runV (q0 := 7) (wc := (wX ad K sv I J B D)) (As := [.int z8]) (rest := []) ⟨hx, hb, hml, hown, hts⟩ (w_Situation_hasFreeSlot l G K ad sv I J B D z8 _ H.size hok) zf_Situation_hasFreeSlot zn_416 ⟨Nat.le_of_ble_eq_true rfl, Nat.le_of_ble_eq_true rfl⟩ hK hw (List.range 65) wX_all wX_nd wX_g7 rfl rfl hl.1 rfl (Nat.le_of_ble_eq_true rfl) zd_Situation_canBeDone_85 ⟨Nat.le_of_ble_eq_true rfl, Nat.le_of_ble_eq_true rfl⟩) hw hA (List.range 65) [] wX_all rfl (by decide) (fun i hi => by cases hi) (fun r9 u H locs hok hw => ?_)
    obtain ⟨I9, J9, B9, D9⟩ := u
    dsimp only at hok
    have hw : zW G A s.heap (wX ad K sv I9 J9 B9 D9) H locs := hw
    refine lv_if_ne (tgt := 101) hx hb zd_Situation_canBeDone_88 (by decide) (fun hc10 => ?_) (fun hc10 => ?_)
    · have hok := hok.1 hc10
      exact wJ_Situation_canBeDone_101 G K ad sv a0 Post C I9 J9 B9 D9 ls H locs hok (lv_sub hl [] rfl) hw
    · have hok := hok.2 hc10
      refine lv_aload_n hx hb zd_Situation_canBeDone_91 rfl (lv_at hl 0 rfl) ?_
      refine lv_iload_n hx hb zd_Situation_canBeDone_92 rfl (lv_at hl 1 rfl) ?_
      refine z_calll (w1 := fun (u : zS) => wX ad K sv u.1 u.2.1 u.2.2.1 u.2.2.2) (wr := []) (z_runV (q0 := 7) (wc := (wX ad K sv I9 J9 B9 D9)) (As := [.int a0]) (rest := []) ⟨hx, hb, hml, hown, hts⟩ (w_Situation_partners l G K ad sv I9 J9 B9 D9 a0 _ H.size hok) zf_Situation_partners zn_417 ⟨Nat.le_of_ble_eq_true rfl, Nat.le_of_ble_eq_true rfl⟩ hK hw (List.range 65) wX_all wX_nd wX_g7 rfl rfl hl.1 rfl (Nat.le_of_ble_eq_true rfl) zd_Situation_canBeDone_93 ⟨Nat.le_of_ble_eq_true rfl, Nat.le_of_ble_eq_true rfl⟩) hw hA (List.range 65) [] wX_all rfl (by decide) (fun i hi => by cases hi) (fun r11 u H locs hok hw => ?_)
      obtain ⟨I11, J11, B11, D11⟩ := u
      dsimp only at hok
      have hw : zW G A s.heap (wX ad K sv I11 J11 B11 D11) H locs := hw
      refine lv_lconst (v := 0) hx hb zd_Situation_canBeDone_96 (by decide) ?_
      refine W.lcmp hx hb zd_Situation_canBeDone_97 ?_
      refine lv_topi (fun z12 ez12 => ?_)
      have hok := hok z12 ez12
      refine lv_if_eq (tgt := 105) hx hb zd_Situation_canBeDone_98 (by decide) (fun hc13 => ?_) (fun hc13 => ?_)
      · have hok := hok.1 hc13
        refine lv_iconst (v := 0) hx hb zd_Situation_canBeDone_105 (by decide) ?_
        exact wJ_Situation_canBeDone_106 G K ad sv a0 Post C 0 I11 J11 B11 D11 ls H locs hok (lv_sub hl [] rfl) hw
      · have hok := hok.2 hc13
        exact wJ_Situation_canBeDone_101 G K ad sv a0 Post C I11 J11 B11 D11 ls H locs hok (lv_sub hl [] rfl) hw
  by_cases hs14 : z1 = 3
  · have hok := hok.2.2.2.1 hs14
    refine lv_tableIn (off := 98) (tgt := 107) hx hb zd_Situation_canBeDone_9 (by rw [hs14]; decide) (by rw [hs14]; decide) (by rw [hs14]; decide) (by decide) ?_
    refine lv_aload_n hx hb zd_Situation_canBeDone_107 rfl (lv_at hl 0 rfl) ?_
    refine z_get (v := .ref (ad 43)) hx hb hts hown hK hw zZ7 7 wX_g7 3 (by decide) zn_266 rfl zd_Situation_canBeDone_108 ?_
    refine lv_aload_n hx hb zd_Situation_canBeDone_111 rfl (lv_at hl 0 rfl) ?_
    refine z_get (v := .ref (ad 3)) hx hb hts hown hK hw zZ7 7 wX_g7 2 (by decide) zn_431 rfl zd_Situation_canBeDone_112 ?_
    refine z_get (v := .ref (ad 19)) hx hb hts hown hK hw zZ6 3 wX_g3 1 (by decide) zn_435 rfl zd_Situation_canBeDone_115 ?_
    refine lv_iload_n hx hb zd_Situation_canBeDone_118 rfl (lv_at hl 1 rfl) ?_
    refine va_iald (f := (B 7)) hx hb hK hw.1 19 0 wX_a19 rfl hok.1 zd_Situation_canBeDone_119 ?_
    have hok := hok.2
    refine lv_topi (fun z15 ez15 => ?_)
    have hok := hok z15 ez15
    refine va_iald (f := (B 29)) hx hb hK hw.1 43 0 wX_a43 rfl hok.1 zd_Situation_canBeDone_120 ?_
    have hok := hok.2
    refine lv_topi (fun z16 ez16 => ?_)
    have hok := hok z16 ez16
    refine lv_if_le (tgt := 128) hx hb zd_Situation_canBeDone_121 (by decide) (fun hc17 => ?_) (fun hc17 => ?_)
    · have hok := hok.1 hc17
      refine lv_iconst (v := 0) hx hb zd_Situation_canBeDone_128 (by decide) ?_
      exact wJ_Situation_canBeDone_129 G K ad sv a0 Post C 0 I J B D ls H locs hok (lv_sub hl [] rfl) hw
    · have hok := hok.2 hc17
      refine lv_iconst (v := 1) hx hb zd_Situation_canBeDone_124 (by decide) ?_
      refine lv_goto (tgt := 129) hx hb zd_Situation_canBeDone_125 (by decide) ?_
      exact wJ_Situation_canBeDone_129 G K ad sv a0 Post C 1 I J B D ls H locs hok (lv_sub hl [] rfl) hw
  by_cases hs18 : z1 = 4
  · have hok := hok.2.2.2.2.1 hs18
    refine lv_tableIn (off := 35) (tgt := 44) hx hb zd_Situation_canBeDone_9 (by rw [hs18]; decide) (by rw [hs18]; decide) (by rw [hs18]; decide) (by decide) ?_
    exact wJ_Situation_canBeDone_44 G K ad sv a0 Post C I J B D ls H locs hok (lv_sub hl [] rfl) hw
  have hok := hok.2.2.2.2.2 hs2 hs3 hs7 hs14 hs18
  refine lv_tableOut (tgt := 130) hx hb zd_Situation_canBeDone_9 (by have h0 := lv_neT hs2 (a := 0) (by decide); have h1 := lv_neT hs3 (a := 1) (by decide); have h2 := lv_neT hs7 (a := 2) (by decide); have h3 := lv_neT hs14 (a := 3) (by decide); have h4 := lv_neT hs18 (a := 4) (by decide); omega) (by decide) ?_
  refine lv_iconst (v := 0) hx hb zd_Situation_canBeDone_130 (by decide) ?_
  exact (z_iret (u := (I, J, B, D)) hx hb hr hlocks rfl hw (List.range 65) wX_all wX_nd hok (Nat.le_of_ble_eq_true rfl) (Nat.le_of_ble_eq_true rfl) zd_Situation_canBeDone_131)
def wc_Situation_ableOf_69 (a0 : Int64) (Post : Int64 → (Nat → Int32) → (Nat → Int64) → (Nat → Nat → Int32) → (Nat → Nat → Int64) → Prop) (y0 : Int64) (I : Nat → Int32) (J : Nat → Int64) (B : Nat → Nat → Int32) (D : Nat → Nat → Int64) : Prop :=
  Post y0 I J B D
def wc_Situation_ableOf_44 (a0 : Int64) (K5 : Int64 → Int64 → Int32 → (Nat → Int32) → (Nat → Int64) → (Nat → Nat → Int32) → (Nat → Nat → Int64) → Prop) (Post : Int64 → (Nat → Int32) → (Nat → Int64) → (Nat → Nat → Int32) → (Nat → Nat → Int64) → Prop) (x1 : Int64) (x3 : Int64) (x5 : Int32) (I : Nat → Int32) (J : Nat → Int64) (B : Nat → Nat → Int32) (D : Nat → Nat → Int64) : Prop :=
  ∀ z1 : Int32, z1 = (x5 + 1) → K5 x1 x3 z1 I J B D
def wb_Situation_ableOf_5 (a0 : Int64) (K5 : Int64 → Int64 → Int32 → (Nat → Int32) → (Nat → Int64) → (Nat → Nat → Int32) → (Nat → Nat → Int64) → Prop) (Post : Int64 → (Nat → Int32) → (Nat → Int64) → (Nat → Nat → Int32) → (Nat → Nat → Int64) → Prop) (x1 : Int64) (x3 : Int64) (x5 : Int32) (I : Nat → Int32) (J : Nat → Int64) (B : Nat → Nat → Int32) (D : Nat → Nat → Int64) : Prop :=
  (((I 9) ≤ x5 → ∀ z3 : Int32, z3 = (lg_cmp x3 0) → ((¬ z3 = 0 → wc_Situation_ableOf_69 a0 Post x3 I J B D) ∧ (z3 = 0 → ∀ z5 : Int64, z5 = (x1 &&& (J 0)) → wc_Situation_ableOf_69 a0 Post z5 I J B D))) ∧ (¬ (I 9) ≤ x5 → ∀ z6 : Int64, z6 = (x1.toUInt64 >>> (x5.toInt64.toUInt64 &&& Int64.toUInt64 63)).toInt64 → ∀ z7 : Int64, z7 = (z6 &&& 1) → ∀ z8 : Int32, z8 = (lg_cmp z7 0) → ((z8 = 0 → wc_Situation_ableOf_44 a0 K5 Post x1 x3 x5 I J B D) ∧ (¬ z8 = 0 → wp_Situation_canBeDone I J B D x5 (fun r10 I10 J10 B10 D10 => ((r10 = 0 → wc_Situation_ableOf_44 a0 K5 Post x1 x3 x5 I10 J10 B10 D10) ∧ (¬ r10 = 0 → ∀ z12 : Int64, z12 = ((1 : Int64) <<< (x5.toInt64 &&& 63)) → ∀ z13 : Int64, z13 = (x3 ||| z12) → wc_Situation_ableOf_44 a0 K5 Post x1 z13 x5 I10 J10 B10 D10)))))))
def wl_Situation_ableOf_5 (a0 : Int64) (Post : Int64 → (Nat → Int32) → (Nat → Int64) → (Nat → Nat → Int32) → (Nat → Nat → Int64) → Prop) (n : Nat) : Int64 → Int64 → Int32 → (Nat → Int32) → (Nat → Int64) → (Nat → Nat → Int32) → (Nat → Nat → Int64) → Prop := Nat.rec (fun _ _ _ _ _ _ _ => False) (fun _ r => wb_Situation_ableOf_5 a0 r Post) n
def wp_Situation_ableOf (I : Nat → Int32) (J : Nat → Int64) (B : Nat → Nat → Int32) (D : Nat → Nat → Int64) (a0 : Int64) (Post : Int64 → (Nat → Int32) → (Nat → Int64) → (Nat → Nat → Int32) → (Nat → Nat → Int64) → Prop) : Prop :=
  ∃ n : Nat, wl_Situation_ableOf_5 a0 Post n a0 0 0 I J B D
set_option maxHeartbeats 8000000 in
set_option maxRecDepth 100000 in
theorem wJ_Situation_ableOf_69 {p : Program} {l : Launch} {e : Env} {s : State} {m : MethodId} {below : List Frame} {meth : Method} {c : Code} {A : Nat → Prop} (G : va_G) (K : Nat → ClassId) (ad : Nat → Nat) (sv : Value) (a0 : Int64) (Post : Int64 → (Nat → Int32) → (Nat → Int64) → (Nat → Nat → Int32) → (Nat → Nat → Int64) → Prop) (C : zCx p s m ([.ref (ad 7), .long a0] : List Value).toArray meth c A G K prog_8_method_7_code (some .long) 6 "LassoFinder$Situation") : ∀ (y0 : Int64) (I : Nat → Int32) (J : Nat → Int64) (B : Nat → Nat → Int32) (D : Nat → Nat → Int64) (ls : Array Slot) (H : Heap) (locs : List Loc), wc_Situation_ableOf_69 a0 Post y0 I J B D → lv_has ls 6 [] → zW G A s.heap (wX ad K sv I J B D) H locs → W p l e { frames := 3, cells := 0, slots := 0, locals := 68 } s m ([.ref (ad 7), .long a0] : List Value).toArray below meth c H locs 0 0 (MQ below (va_Ql (fun (r : Int64) (u : zS) => Post r u.1 u.2.1 u.2.2.1 u.2.2.2) (fun u t => zPost G K A (wX ad K sv u.1 u.2.1 u.2.2.1 u.2.2.2) t) A) ([.ref (ad 7), .long a0] : List Value).toArray s 0 0 A) (F0 m 69 ls [.long y0]) := by
  obtain ⟨hx, hb, hr, hml, hts, hown, hlocks, hA, hK⟩ := id C
  intro y0 I J B D ls H locs hok hl hw
  unfold wc_Situation_ableOf_69 at hok
  exact (z_lret (u := (I, J, B, D)) hx hb hr hlocks hw (List.range 65) wX_all wX_nd hok (Nat.le_of_ble_eq_true rfl) (Nat.le_of_ble_eq_true rfl) zd_Situation_ableOf_69)
set_option maxHeartbeats 8000000 in
set_option maxRecDepth 100000 in
theorem wJ_Situation_ableOf_44 {p : Program} {l : Launch} {e : Env} {s : State} {m : MethodId} {below : List Frame} {meth : Method} {c : Code} {A : Nat → Prop} (G : va_G) (K : Nat → ClassId) (ad : Nat → Nat) (sv : Value) (a0 : Int64) (Post : Int64 → (Nat → Int32) → (Nat → Int64) → (Nat → Nat → Int32) → (Nat → Nat → Int64) → Prop) (C : zCx p s m ([.ref (ad 7), .long a0] : List Value).toArray meth c A G K prog_8_method_7_code (some .long) 6 "LassoFinder$Situation") (K5 : Int64 → Int64 → Int32 → (Nat → Int32) → (Nat → Int64) → (Nat → Nat → Int32) → (Nat → Nat → Int64) → Prop) (kh5 : ∀ (x1 : Int64) (x3 : Int64) (x5 : Int32) (I : Nat → Int32) (J : Nat → Int64) (B : Nat → Nat → Int32) (D : Nat → Nat → Int64) (ls : Array Slot) (H : Heap) (locs : List Loc), K5 x1 x3 x5 I J B D → lv_has ls 6 [(0, .ref (ad 7)), (1, .long x1), (3, .long x3), (5, .int x5)] → zW G A s.heap (wX ad K sv I J B D) H locs → W p l e { frames := 3, cells := 0, slots := 0, locals := 68 } s m ([.ref (ad 7), .long a0] : List Value).toArray below meth c H locs 0 0 (MQ below (va_Ql (fun (r : Int64) (u : zS) => Post r u.1 u.2.1 u.2.2.1 u.2.2.2) (fun u t => zPost G K A (wX ad K sv u.1 u.2.1 u.2.2.1 u.2.2.2) t) A) ([.ref (ad 7), .long a0] : List Value).toArray s 0 0 A) (F0 m 5 ls [])) : ∀ (x1 : Int64) (x3 : Int64) (x5 : Int32) (I : Nat → Int32) (J : Nat → Int64) (B : Nat → Nat → Int32) (D : Nat → Nat → Int64) (ls : Array Slot) (H : Heap) (locs : List Loc), wc_Situation_ableOf_44 a0 K5 Post x1 x3 x5 I J B D → lv_has ls 6 [(0, .ref (ad 7)), (1, .long x1), (3, .long x3), (5, .int x5)] → zW G A s.heap (wX ad K sv I J B D) H locs → W p l e { frames := 3, cells := 0, slots := 0, locals := 68 } s m ([.ref (ad 7), .long a0] : List Value).toArray below meth c H locs 0 0 (MQ below (va_Ql (fun (r : Int64) (u : zS) => Post r u.1 u.2.1 u.2.2.1 u.2.2.2) (fun u t => zPost G K A (wX ad K sv u.1 u.2.1 u.2.2.1 u.2.2.2) t) A) ([.ref (ad 7), .long a0] : List Value).toArray s 0 0 A) (F0 m 44 ls []) := by
  obtain ⟨hx, hb, hr, hml, hts, hown, hlocks, hA, hK⟩ := id C
  intro x1 x3 x5 I J B D ls H locs hok hl hw
  unfold wc_Situation_ableOf_44 at hok
  obtain ⟨z1, ez1⟩ : ∃ z : Int32, z = (x5 + 1) := ⟨_, rfl⟩
  have hok := hok z1 ez1
  refine lv_iinc (v := z1) hx hb zd_Situation_ableOf_44 hl (k := 3) rfl ez1.symm (by decide) rfl (fun ls hl => ?_)
  have hl : lv_has ls 6 [(5, .int z1), (0, .ref (ad 7)), (1, .long x1), (3, .long x3)] := hl
  refine lv_goto (tgt := 5) hx hb zd_Situation_ableOf_47 (by decide) ?_
  exact kh5 x1 x3 z1 I J B D ls H locs hok (lv_sub hl [1, 2, 3, 0] rfl) hw
set_option maxHeartbeats 8000000 in
set_option maxRecDepth 100000 in
theorem wB_Situation_ableOf_5 {p : Program} {l : Launch} {e : Env} {s : State} {m : MethodId} {below : List Frame} {meth : Method} {c : Code} {A : Nat → Prop} (G : va_G) (K : Nat → ClassId) (ad : Nat → Nat) (sv : Value) (a0 : Int64) (Post : Int64 → (Nat → Int32) → (Nat → Int64) → (Nat → Nat → Int32) → (Nat → Nat → Int64) → Prop) (C : zCx p s m ([.ref (ad 7), .long a0] : List Value).toArray meth c A G K prog_8_method_7_code (some .long) 6 "LassoFinder$Situation") (K5 : Int64 → Int64 → Int32 → (Nat → Int32) → (Nat → Int64) → (Nat → Nat → Int32) → (Nat → Nat → Int64) → Prop) (kh5 : ∀ (x1 : Int64) (x3 : Int64) (x5 : Int32) (I : Nat → Int32) (J : Nat → Int64) (B : Nat → Nat → Int32) (D : Nat → Nat → Int64) (ls : Array Slot) (H : Heap) (locs : List Loc), K5 x1 x3 x5 I J B D → lv_has ls 6 [(0, .ref (ad 7)), (1, .long x1), (3, .long x3), (5, .int x5)] → zW G A s.heap (wX ad K sv I J B D) H locs → W p l e { frames := 3, cells := 0, slots := 0, locals := 68 } s m ([.ref (ad 7), .long a0] : List Value).toArray below meth c H locs 0 0 (MQ below (va_Ql (fun (r : Int64) (u : zS) => Post r u.1 u.2.1 u.2.2.1 u.2.2.2) (fun u t => zPost G K A (wX ad K sv u.1 u.2.1 u.2.2.1 u.2.2.2) t) A) ([.ref (ad 7), .long a0] : List Value).toArray s 0 0 A) (F0 m 5 ls [])) : ∀ (x1 : Int64) (x3 : Int64) (x5 : Int32) (I : Nat → Int32) (J : Nat → Int64) (B : Nat → Nat → Int32) (D : Nat → Nat → Int64) (ls : Array Slot) (H : Heap) (locs : List Loc), wb_Situation_ableOf_5 a0 K5 Post x1 x3 x5 I J B D → lv_has ls 6 [(0, .ref (ad 7)), (1, .long x1), (3, .long x3), (5, .int x5)] → zW G A s.heap (wX ad K sv I J B D) H locs → W p l e { frames := 3, cells := 0, slots := 0, locals := 68 } s m ([.ref (ad 7), .long a0] : List Value).toArray below meth c H locs 0 0 (MQ below (va_Ql (fun (r : Int64) (u : zS) => Post r u.1 u.2.1 u.2.2.1 u.2.2.2) (fun u t => zPost G K A (wX ad K sv u.1 u.2.1 u.2.2.1 u.2.2.2) t) A) ([.ref (ad 7), .long a0] : List Value).toArray s 0 0 A) (F0 m 5 ls []) := by
  obtain ⟨hx, hb, hr, hml, hts, hown, hlocks, hA, hK⟩ := id C
  intro x1 x3 x5 I J B D ls H locs hok hl hw
  unfold wb_Situation_ableOf_5 at hok
  refine lv_iload hx hb zd_Situation_ableOf_5 (lv_at hl 3 rfl) ?_
  refine lv_aload_n hx hb zd_Situation_ableOf_7 rfl (lv_at hl 0 rfl) ?_
  refine z_get (v := .ref (ad 3)) hx hb hts hown hK hw zZ7 7 wX_g7 2 (by decide) zn_431 rfl zd_Situation_ableOf_8 ?_
  refine z_get (v := .int (I 9)) hx hb hts hown hK hw zZ6 3 wX_g3 12 (by decide) zn_445 rfl zd_Situation_ableOf_11 ?_
  refine lv_icmp_ge (tgt := 50) hx hb zd_Situation_ableOf_14 (by decide) (fun hc2 => ?_) (fun hc2 => ?_)
  · have hok := hok.1 hc2
    refine lv_lload_n hx hb zd_Situation_ableOf_50 rfl (lv_at hl 2 rfl) ?_
    refine lv_lconst (v := 0) hx hb zd_Situation_ableOf_51 (by decide) ?_
    refine W.lcmp hx hb zd_Situation_ableOf_52 ?_
    refine lv_topi (fun z3 ez3 => ?_)
    have hok := hok z3 ez3
    refine lv_if_ne (tgt := 68) hx hb zd_Situation_ableOf_53 (by decide) (fun hc4 => ?_) (fun hc4 => ?_)
    · have hok := hok.1 hc4
      refine lv_lload_n hx hb zd_Situation_ableOf_68 rfl (lv_at hl 2 rfl) ?_
      exact wJ_Situation_ableOf_69 G K ad sv a0 Post C x3 I J B D ls H locs hok (lv_sub hl [] rfl) hw
    · have hok := hok.2 hc4
      refine lv_lload_n hx hb zd_Situation_ableOf_56 rfl (lv_at hl 1 rfl) ?_
      refine lv_aload_n hx hb zd_Situation_ableOf_57 rfl (lv_at hl 0 rfl) ?_
      refine z_get (v := .ref (ad 3)) hx hb hts hown hK hw zZ7 7 wX_g7 2 (by decide) zn_431 rfl zd_Situation_ableOf_58 ?_
      refine z_get (v := .long (J 0)) hx hb hts hown hK hw zZ6 3 wX_g3 11 (by decide) zn_446 rfl zd_Situation_ableOf_61 ?_
      refine lv_land hx hb zd_Situation_ableOf_64 ?_
      refine lv_topl (fun z5 ez5 => ?_)
      have hok := hok z5 ez5
      refine lv_goto (tgt := 69) hx hb zd_Situation_ableOf_65 (by decide) ?_
      exact wJ_Situation_ableOf_69 G K ad sv a0 Post C z5 I J B D ls H locs hok (lv_sub hl [] rfl) hw
  · have hok := hok.2 hc2
    refine lv_lload_n hx hb zd_Situation_ableOf_17 rfl (lv_at hl 1 rfl) ?_
    refine lv_iload hx hb zd_Situation_ableOf_18 (lv_at hl 3 rfl) ?_
    refine lv_lushr hx hb zd_Situation_ableOf_20 rfl ?_
    refine lv_topl (fun z6 ez6 => ?_)
    have hok := hok z6 ez6
    refine lv_lconst (v := 1) hx hb zd_Situation_ableOf_21 (by decide) ?_
    refine lv_land hx hb zd_Situation_ableOf_22 ?_
    refine lv_topl (fun z7 ez7 => ?_)
    have hok := hok z7 ez7
    refine lv_lconst (v := 0) hx hb zd_Situation_ableOf_23 (by decide) ?_
    refine W.lcmp hx hb zd_Situation_ableOf_24 ?_
    refine lv_topi (fun z8 ez8 => ?_)
    have hok := hok z8 ez8
    refine lv_if_eq (tgt := 44) hx hb zd_Situation_ableOf_25 (by decide) (fun hc9 => ?_) (fun hc9 => ?_)
    · have hok := hok.1 hc9
      exact wJ_Situation_ableOf_44 G K ad sv a0 Post C K5 kh5 x1 x3 x5 I J B D ls H locs hok (lv_sub hl [0, 1, 2, 3] rfl) hw
    · have hok := hok.2 hc9
      refine lv_aload_n hx hb zd_Situation_ableOf_28 rfl (lv_at hl 0 rfl) ?_
      refine lv_iload hx hb zd_Situation_ableOf_29 (lv_at hl 3 rfl) ?_
      refine z_calli (w1 := fun (u : zS) => wX ad K sv u.1 u.2.1 u.2.2.1 u.2.2.2) (wr := []) (z_runV (q0 := 7) (wc := (wX ad K sv I J B D)) (As := [.int x5]) (rest := []) ⟨hx, hb, hml, hown, hts⟩ (w_Situation_canBeDone l G K ad sv I J B D x5 _ H.size hok) zf_Situation_canBeDone zn_413 ⟨Nat.le_of_ble_eq_true rfl, Nat.le_of_ble_eq_true rfl⟩ hK hw (List.range 65) wX_all wX_nd wX_g7 rfl rfl hl.1 rfl (Nat.le_of_ble_eq_true rfl) zd_Situation_ableOf_31 ⟨Nat.le_of_ble_eq_true rfl, Nat.le_of_ble_eq_true rfl⟩) hw hA (List.range 65) [] wX_all rfl (by decide) (fun i hi => by cases hi) (fun r10 u H locs hok hw => ?_)
      obtain ⟨I10, J10, B10, D10⟩ := u
      dsimp only at hok
      have hw : zW G A s.heap (wX ad K sv I10 J10 B10 D10) H locs := hw
      refine lv_if_eq (tgt := 44) hx hb zd_Situation_ableOf_34 (by decide) (fun hc11 => ?_) (fun hc11 => ?_)
      · have hok := hok.1 hc11
        exact wJ_Situation_ableOf_44 G K ad sv a0 Post C K5 kh5 x1 x3 x5 I10 J10 B10 D10 ls H locs hok (lv_sub hl [0, 1, 2, 3] rfl) hw
      · have hok := hok.2 hc11
        refine lv_lload_n hx hb zd_Situation_ableOf_37 rfl (lv_at hl 2 rfl) ?_
        refine lv_lconst (v := 1) hx hb zd_Situation_ableOf_38 (by decide) ?_
        refine lv_iload hx hb zd_Situation_ableOf_39 (lv_at hl 3 rfl) ?_
        refine lv_lshl hx hb zd_Situation_ableOf_41 rfl ?_
        refine lv_topl (fun z12 ez12 => ?_)
        have hok := hok z12 ez12
        refine lv_lor hx hb zd_Situation_ableOf_42 ?_
        refine lv_topl (fun z13 ez13 => ?_)
        have hok := hok z13 ez13
        refine lv_lstore_n hx hb zd_Situation_ableOf_43 rfl hl (by decide) rfl (fun ls hl => ?_)
        have hl : lv_has ls 6 [(3, .long z13), (0, .ref (ad 7)), (1, .long x1), (5, .int x5)] := hl
        exact wJ_Situation_ableOf_44 G K ad sv a0 Post C K5 kh5 x1 z13 x5 I10 J10 B10 D10 ls H locs hok (lv_sub hl [1, 2, 0, 3] rfl) hw
theorem wL_Situation_ableOf_5 {p : Program} {l : Launch} {e : Env} {s : State} {m : MethodId} {below : List Frame} {meth : Method} {c : Code} {A : Nat → Prop} (G : va_G) (K : Nat → ClassId) (ad : Nat → Nat) (sv : Value) (a0 : Int64) (Post : Int64 → (Nat → Int32) → (Nat → Int64) → (Nat → Nat → Int32) → (Nat → Nat → Int64) → Prop) (C : zCx p s m ([.ref (ad 7), .long a0] : List Value).toArray meth c A G K prog_8_method_7_code (some .long) 6 "LassoFinder$Situation") : ∀ (n : Nat) (x1 : Int64) (x3 : Int64) (x5 : Int32) (I : Nat → Int32) (J : Nat → Int64) (B : Nat → Nat → Int32) (D : Nat → Nat → Int64) (ls : Array Slot) (H : Heap) (locs : List Loc), wl_Situation_ableOf_5 a0 Post n x1 x3 x5 I J B D → lv_has ls 6 [(0, .ref (ad 7)), (1, .long x1), (3, .long x3), (5, .int x5)] → zW G A s.heap (wX ad K sv I J B D) H locs → W p l e { frames := 3, cells := 0, slots := 0, locals := 68 } s m ([.ref (ad 7), .long a0] : List Value).toArray below meth c H locs 0 0 (MQ below (va_Ql (fun (r : Int64) (u : zS) => Post r u.1 u.2.1 u.2.2.1 u.2.2.2) (fun u t => zPost G K A (wX ad K sv u.1 u.2.1 u.2.2.1 u.2.2.2) t) A) ([.ref (ad 7), .long a0] : List Value).toArray s 0 0 A) (F0 m 5 ls []) := by
  intro n
  induction n with
  | zero => intro x1 x3 x5 I J B D ls H locs hok; exact hok.elim
  | succ n ih => exact wB_Situation_ableOf_5 G K ad sv a0 Post C (wl_Situation_ableOf_5 a0 Post n) ih
set_option maxHeartbeats 8000000 in
set_option maxRecDepth 100000 in
theorem w_Situation_ableOf (l : Launch) (G : va_G) (K : Nat → ClassId) (ad : Nat → Nat) (sv : Value) (I : Nat → Int32) (J : Nat → Int64) (B : Nat → Nat → Int32) (D : Nat → Nat → Int64) (a0 : Int64) (Post : Int64 → (Nat → Int32) → (Nat → Int64) → (Nat → Nat → Int32) → (Nat → Nat → Int64) → Prop) (sz : Nat) (hok : wp_Situation_ableOf I J B D a0 Post) : Met l zy_Situation_ableOf (Cond.code zy_Situation_ableOf prog_8_method_7_code 6 (some .long) :: zTB) { frames := 3, cells := 0, slots := 0, locals := 68 } (va_Pc [.ref (ad 7), .long a0] (zPre G K (wX ad K sv I J B D) sz)) (va_Ql (fun (r : Int64) (u : zS) => Post r u.1 u.2.1 u.2.2.1 u.2.2.2) (fun u t => zPost G K (va_A (wX ad K sv I J B D) sz) (wX ad K sv u.1 u.2.1 u.2.2.1 u.2.2.2) t) (va_A (wX ad K sv I J B D) sz)) 0 0 (va_A (wX ad K sv I J B D) sz) := by
  refine zMet (y := zy_Situation_ableOf) (av := [.ref (ad 7), .long a0]) (maxL := 6) (cc := prog_8_method_7_code) (ret := (some .long)) (W0 := (wX ad K sv I J B D)) (sz := sz) (G := G) (K := K) (wt := zTB) (mc := 0) (ms := 0) (Qf := fun A => va_Ql (fun (r : Int64) (u : zS) => Post r u.1 u.2.1 u.2.2.1 u.2.2.2) (fun u t => zPost G K A (wX ad K sv u.1 u.2.1 u.2.2.1 u.2.2.2) t) A) (by decide) (Nat.le_of_ble_eq_true rfl) ?_
  intro p e s m below meth c ls A hx hb hr hml hts hown hlocks hin hA hK H locs hw hsz hl
  clear hsz
  have hown : s.vm.findClass "LassoFinder$Situation" = some m.cls := hown
  have C : zCx p s m ([.ref (ad 7), .long a0] : List Value).toArray meth c A G K prog_8_method_7_code (some .long) 6 "LassoFinder$Situation" := ⟨hx, hb, hr, hml, hts, hown, hlocks, hA, hK⟩
  have hl : lv_has ls 6 [(0, .ref (ad 7)), (1, .long a0)] := hl
  have hw : zW G A s.heap (wX ad K sv I J B D) H locs := hw
  unfold wp_Situation_ableOf at hok
  refine lv_lconst (v := 0) hx hb zd_Situation_ableOf_0 (by decide) ?_
  refine lv_lstore_n hx hb zd_Situation_ableOf_1 rfl hl (by decide) rfl (fun ls hl => ?_)
  have hl : lv_has ls 6 [(3, .long 0), (0, .ref (ad 7)), (1, .long a0)] := hl
  refine lv_iconst (v := 0) hx hb zd_Situation_ableOf_2 (by decide) ?_
  refine lv_istore hx hb zd_Situation_ableOf_3 hl (by decide) rfl (fun ls hl => ?_)
  have hl : lv_has ls 6 [(5, .int 0), (3, .long 0), (0, .ref (ad 7)), (1, .long a0)] := hl
  obtain ⟨n9, hok⟩ := hok
  exact wL_Situation_ableOf_5 G K ad sv a0 Post C n9 a0 0 0 I J B D ls H locs hok (lv_sub hl [2, 3, 1, 0] rfl) hw
