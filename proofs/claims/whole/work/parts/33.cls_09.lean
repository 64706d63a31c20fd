abbrev zy_Situation_packed : MethodName := ⟨"LassoFinder$Situation", "packed", "()J"⟩
abbrev zy_Graph_enter : MethodName := ⟨"LassoFinder$Graph", "enter", "(J)I"⟩
abbrev zy_Program_at : MethodName := ⟨"LassoFinder$Program", "at", "(II)J"⟩
abbrev zy_Situation_partners : MethodName := ⟨"LassoFinder$Situation", "partners", "(I)J"⟩
abbrev zy_Graph_addDone : MethodName := ⟨"LassoFinder$Graph", "addDone", "(III)Z"⟩
abbrev zy_Situation_perform : MethodName := ⟨"LassoFinder$Situation", "perform", "(II)V"⟩
theorem zn_391 : Cond.methodLink "LassoFinder$Graph" 53 ⟨"LassoFinder$Situation", "packed", "()J"⟩ ∈ zTB := z_in (zt_4 _ (List.mem_of_getElem? (i := 146) rfl)) rfl
theorem zn_392 : Cond.methodLink "LassoFinder$Graph" 57 ⟨"LassoFinder$Graph", "enter", "(J)I"⟩ ∈ zTB := z_in (zt_4 _ (List.mem_of_getElem? (i := 150) rfl)) rfl
theorem zn_394 : Cond.methodLink "LassoFinder$Graph" 68 ⟨"LassoFinder$Situation", "unpack", "(J)V"⟩ ∈ zTB := z_in (zt_4 _ (List.mem_of_getElem? (i := 158) rfl)) rfl
theorem zn_396 : Cond.methodLink "LassoFinder$Situation" 78 ⟨"LassoFinder$Program", "at", "(II)J"⟩ ∈ zTB := z_in (zt_4 _ (List.mem_of_getElem? (i := 163) rfl)) rfl
theorem zn_399 : Cond.methodLink "LassoFinder$Situation" 102 ⟨"LassoFinder$Terms", "reckon", "(I[I)I"⟩ ∈ zTB := z_in (zt_4 _ (List.mem_of_getElem? (i := 175) rfl)) rfl
theorem zn_406 : Cond.methodLink "LassoFinder$Graph" 93 ⟨"LassoFinder$Situation", "perform", "(II)V"⟩ ∈ zTB := z_in (zt_4 _ (List.mem_of_getElem? (i := 200) rfl)) rfl
theorem zn_407 : Cond.methodLink "LassoFinder$Situation" 130 ⟨"LassoFinder$Situation", "put", "(II)V"⟩ ∈ zTB := z_in (zt_4 _ (List.mem_of_getElem? (i := 204) rfl)) rfl
theorem zn_408 : Cond.methodLink "LassoFinder$Situation" 134 ⟨"LassoFinder$Situation", "taken", "(I)I"⟩ ∈ zTB := z_in (zt_4 _ (List.mem_of_getElem? (i := 208) rfl)) rfl
theorem zn_409 : Cond.methodLink "LassoFinder$Situation" 138 ⟨"LassoFinder$Situation", "passOn", "(I)V"⟩ ∈ zTB := z_in (zt_4 _ (List.mem_of_getElem? (i := 212) rfl)) rfl
theorem zn_410 : Cond.methodLink "LassoFinder$Graph" 81 ⟨"LassoFinder$Graph", "add", "(IIII)Z"⟩ ∈ zTB := z_in (zt_4 _ (List.mem_of_getElem? (i := 216) rfl)) rfl
theorem zn_460 : Cond.fieldLink "LassoFinder$Graph" 9 "LassoFinder$Graph" "situation" "LLassoFinder$Situation;" ∈ zTB := z_in (zt_2 _ (List.mem_of_getElem? (i := 80) rfl)) rfl
theorem zn_464 : Cond.fieldLink "LassoFinder$Situation" 99 "LassoFinder$Program" "expression" "[I" ∈ zTB := z_in (zt_1 _ (List.mem_of_getElem? (i := 103) rfl)) rfl
theorem zn_465 : Cond.fieldLink "LassoFinder$Situation" 96 "LassoFinder$Program" "kinds" "[I" ∈ zTB := z_in (zt_1 _ (List.mem_of_getElem? (i := 97) rfl)) rfl
theorem zn_466 : Cond.fieldLink "LassoFinder$Situation" 127 "LassoFinder$Program" "variable" "[I" ∈ zTB := z_in (zt_1 _ (List.mem_of_getElem? (i := 101) rfl)) rfl
theorem zn_467 : Cond.fieldLink "LassoFinder$Situation" 108 "LassoFinder$Program" "channel" "[I" ∈ zTB := z_in (zt_1 _ (List.mem_of_getElem? (i := 99) rfl)) rfl
theorem zn_468 : Cond.fieldLink "LassoFinder$Situation" 15 "LassoFinder$Situation" "terms" "LLassoFinder$Terms;" ∈ zTB := z_in (zt_2 _ (List.mem_of_getElem? (i := 45) rfl)) rfl
theorem zn_472 : Cond.fieldLink "LassoFinder$Situation" 53 "LassoFinder$Names" "digits" "[I" ∈ zTB := z_in (zt_1 _ (List.mem_of_getElem? (i := 67) rfl)) rfl
theorem zn_473 : Cond.fieldLink "LassoFinder$Situation" 121 "LassoFinder$Program" "receives" "[J" ∈ zTB := z_in (zt_1 _ (List.mem_of_getElem? (i := 111) rfl)) rfl
theorem zn_474 : Cond.fieldLink "LassoFinder$Situation" 71 "LassoFinder$Situation" "present" "J" ∈ zTB := z_in (zt_2 _ (List.mem_of_getElem? (i := 56) rfl)) rfl
theorem zn_475 : Cond.constantLong "LassoFinder$Situation" 125 (-1 : Int64) ∈ zTB := z_in (zt_4 _ (List.mem_of_getElem? (i := 190) rfl)) rfl
theorem zn_680 : Cond.code ⟨"LassoFinder$Graph", "add", "(IIII)Z"⟩ prog_3_method_7_code 5 (some .boolean) ∈ zTB := z_in (zt_4 _ (List.mem_of_getElem? (i := 219) rfl)) rfl
theorem zn_681 : Cond.instanceMethod ⟨"LassoFinder$Graph", "add", "(IIII)Z"⟩ ∈ zTB := z_in (zt_4 _ (List.mem_of_getElem? (i := 218) rfl)) rfl
theorem zn_682 : Cond.code ⟨"LassoFinder$Situation", "passOn", "(I)V"⟩ prog_8_method_14_code 3 none ∈ zTB := z_in (zt_4 _ (List.mem_of_getElem? (i := 215) rfl)) rfl
theorem zn_683 : Cond.instanceMethod ⟨"LassoFinder$Situation", "passOn", "(I)V"⟩ ∈ zTB := z_in (zt_4 _ (List.mem_of_getElem? (i := 214) rfl)) rfl
theorem zn_684 : Cond.code ⟨"LassoFinder$Situation", "put", "(II)V"⟩ prog_8_method_12_code 3 none ∈ zTB := z_in (zt_4 _ (List.mem_of_getElem? (i := 207) rfl)) rfl
theorem zn_685 : Cond.instanceMethod ⟨"LassoFinder$Situation", "put", "(II)V"⟩ ∈ zTB := z_in (zt_4 _ (List.mem_of_getElem? (i := 206) rfl)) rfl
theorem zn_686 : Cond.code ⟨"LassoFinder$Situation", "taken", "(I)I"⟩ prog_8_method_13_code 6 (some .int) ∈ zTB := z_in (zt_4 _ (List.mem_of_getElem? (i := 211) rfl)) rfl
theorem zn_687 : Cond.instanceMethod ⟨"LassoFinder$Situation", "taken", "(I)I"⟩ ∈ zTB := z_in (zt_4 _ (List.mem_of_getElem? (i := 210) rfl)) rfl
theorem zn_688 : Cond.code ⟨"LassoFinder$Terms", "reckon", "(I[I)I"⟩ prog_9_method_12_code 6 (some .int) ∈ zTB := z_in (zt_4 _ (List.mem_of_getElem? (i := 178) rfl)) rfl
theorem zn_689 : Cond.selects "LassoFinder$Terms" ⟨"LassoFinder$Terms", "reckon", "(I[I)I"⟩ ⟨"LassoFinder$Terms", "reckon", "(I[I)I"⟩ ∈ zTB := z_in (zt_4 _ (List.mem_of_getElem? (i := 177) rfl)) rfl
theorem zn_690 : Cond.instanceMethod ⟨"LassoFinder$Terms", "reckon", "(I[I)I"⟩ ∈ zTB := z_in (zt_4 _ (List.mem_of_getElem? (i := 176) rfl)) rfl
theorem zn_691 : Cond.code ⟨"LassoFinder$Situation", "perform", "(II)V"⟩ prog_8_method_11_code 5 none ∈ zTB := z_in (zt_4 _ (List.mem_of_getElem? (i := 203) rfl)) rfl
theorem zn_692 : Cond.selects "LassoFinder$Situation" ⟨"LassoFinder$Situation", "perform", "(II)V"⟩ ⟨"LassoFinder$Situation", "perform", "(II)V"⟩ ∈ zTB := z_in (zt_4 _ (List.mem_of_getElem? (i := 202) rfl)) rfl
theorem zn_693 : Cond.instanceMethod ⟨"LassoFinder$Situation", "perform", "(II)V"⟩ ∈ zTB := z_in (zt_4 _ (List.mem_of_getElem? (i := 201) rfl)) rfl
theorem zn_694 : Cond.code ⟨"LassoFinder$Situation", "packed", "()J"⟩ prog_8_method_3_code 6 (some .long) ∈ zTB := z_in (zt_4 _ (List.mem_of_getElem? (i := 149) rfl)) rfl
theorem zn_695 : Cond.selects "LassoFinder$Situation" ⟨"LassoFinder$Situation", "packed", "()J"⟩ ⟨"LassoFinder$Situation", "packed", "()J"⟩ ∈ zTB := z_in (zt_4 _ (List.mem_of_getElem? (i := 148) rfl)) rfl
theorem zn_696 : Cond.instanceMethod ⟨"LassoFinder$Situation", "packed", "()J"⟩ ∈ zTB := z_in (zt_4 _ (List.mem_of_getElem? (i := 147) rfl)) rfl
theorem zn_697 : Cond.code ⟨"LassoFinder$Graph", "enter", "(J)I"⟩ prog_3_method_8_code 4 (some .int) ∈ zTB := z_in (zt_4 _ (List.mem_of_getElem? (i := 153) rfl)) rfl
theorem zn_698 : Cond.instanceMethod ⟨"LassoFinder$Graph", "enter", "(J)I"⟩ ∈ zTB := z_in (zt_4 _ (List.mem_of_getElem? (i := 152) rfl)) rfl
theorem zn_699 : Cond.code ⟨"LassoFinder$Program", "at", "(II)J"⟩ prog_7_method_3_code 3 (some .long) ∈ zTB := z_in (zt_4 _ (List.mem_of_getElem? (i := 166) rfl)) rfl
theorem zn_700 : Cond.selects "LassoFinder$Program" ⟨"LassoFinder$Program", "at", "(II)J"⟩ ⟨"LassoFinder$Program", "at", "(II)J"⟩ ∈ zTB := z_in (zt_4 _ (List.mem_of_getElem? (i := 165) rfl)) rfl
theorem zn_701 : Cond.instanceMethod ⟨"LassoFinder$Program", "at", "(II)J"⟩ ∈ zTB := z_in (zt_4 _ (List.mem_of_getElem? (i := 164) rfl)) rfl
theorem zf_Graph_add : zFaceV zy_Graph_add prog_3_method_7_code 5 (some .boolean) 4 := ⟨zn_681, (z_in (zp_3 _ (List.mem_of_getElem? (i := 3) rfl)) rfl), zm_5, zn_680, by decide +kernel, by decide +kernel, by decide +kernel⟩
theorem zf_Situation_passOn : zFaceV zy_Situation_passOn prog_8_method_14_code 3 none 1 := ⟨zn_683, (z_in (zp_3 _ (List.mem_of_getElem? (i := 2) rfl)) rfl), zm_15, zn_682, by decide +kernel, by decide +kernel, by decide +kernel⟩
theorem zf_Situation_put : zFaceV zy_Situation_put prog_8_method_12_code 3 none 2 := ⟨zn_685, (z_in (zp_3 _ (List.mem_of_getElem? (i := 0) rfl)) rfl), zm_15, zn_684, by decide +kernel, by decide +kernel, by decide +kernel⟩
theorem zf_Situation_taken : zFaceV zy_Situation_taken prog_8_method_13_code 6 (some .int) 1 := ⟨zn_687, (z_in (zp_3 _ (List.mem_of_getElem? (i := 1) rfl)) rfl), zm_15, zn_686, by decide +kernel, by decide +kernel, by decide +kernel⟩
theorem zf_Terms_reckon : zFaceV zy_Terms_reckon prog_9_method_12_code 6 (some .int) 2 := ⟨zn_690, zn_689, zm_17, zn_688, by decide +kernel, by decide +kernel, by decide +kernel⟩
theorem zf_Situation_perform : zFaceV zy_Situation_perform prog_8_method_11_code 5 none 2 := ⟨zn_693, zn_692, zm_15, zn_691, by decide +kernel, by decide +kernel, by decide +kernel⟩
theorem zf_Situation_packed : zFaceV zy_Situation_packed prog_8_method_3_code 6 (some .long) 0 := ⟨zn_696, zn_695, zm_15, zn_694, by decide +kernel, by decide +kernel, by decide +kernel⟩
theorem zf_Graph_enter : zFaceV zy_Graph_enter prog_3_method_8_code 4 (some .int) 1 := ⟨zn_698, (z_in (zp_2 _ (List.mem_of_getElem? (i := 9) rfl)) rfl), zm_5, zn_697, by decide +kernel, by decide +kernel, by decide +kernel⟩
theorem zf_Program_at : zFaceV zy_Program_at prog_7_method_3_code 3 (some .long) 2 := ⟨zn_701, zn_700, zm_13, zn_699, by decide +kernel, by decide +kernel, by decide +kernel⟩
theorem zd_Graph_addDone_0 : decode prog_3_method_6_code 0 = .ok (.aload_n 0, 1) := by decide +kernel
theorem zd_Graph_addDone_1 : decode prog_3_method_6_code 1 = .ok (.getfield 9, 3) := by decide +kernel
theorem zd_Graph_addDone_4 : decode prog_3_method_6_code 4 = .ok (.aload_n 0, 1) := by decide +kernel
theorem zd_Graph_addDone_5 : decode prog_3_method_6_code 5 = .ok (.getfield 15, 3) := by decide +kernel
theorem zd_Graph_addDone_8 : decode prog_3_method_6_code 8 = .ok (.iload_n 1, 1) := by decide +kernel
theorem zd_Graph_addDone_9 : decode prog_3_method_6_code 9 = .ok (.laload, 1) := by decide +kernel
theorem zd_Graph_addDone_10 : decode prog_3_method_6_code 10 = .ok (.invokevirtual 68, 3) := by decide +kernel
theorem zd_Graph_addDone_13 : decode prog_3_method_6_code 13 = .ok (.aload_n 0, 1) := by decide +kernel
theorem zd_Graph_addDone_14 : decode prog_3_method_6_code 14 = .ok (.getfield 9, 3) := by decide +kernel
theorem zd_Graph_addDone_17 : decode prog_3_method_6_code 17 = .ok (.iload_n 2, 1) := by decide +kernel
theorem zd_Graph_addDone_18 : decode prog_3_method_6_code 18 = .ok (.iload_n 3, 1) := by decide +kernel
theorem zd_Graph_addDone_19 : decode prog_3_method_6_code 19 = .ok (.invokevirtual 93, 3) := by decide +kernel
theorem zd_Graph_addDone_22 : decode prog_3_method_6_code 22 = .ok (.aload_n 0, 1) := by decide +kernel
theorem zd_Graph_addDone_23 : decode prog_3_method_6_code 23 = .ok (.aload_n 0, 1) := by decide +kernel
theorem zd_Graph_addDone_24 : decode prog_3_method_6_code 24 = .ok (.getfield 9, 3) := by decide +kernel
theorem zd_Graph_addDone_27 : decode prog_3_method_6_code 27 = .ok (.invokevirtual 53, 3) := by decide +kernel
theorem zd_Graph_addDone_30 : decode prog_3_method_6_code 30 = .ok (.invokevirtual 57, 3) := by decide +kernel
theorem zd_Graph_addDone_33 : decode prog_3_method_6_code 33 = .ok (.istore 4, 2) := by decide +kernel
theorem zd_Graph_addDone_35 : decode prog_3_method_6_code 35 = .ok (.iload 4, 2) := by decide +kernel
theorem zd_Graph_addDone_37 : decode prog_3_method_6_code 37 = .ok (.iconst (-1), 1) := by decide +kernel
theorem zd_Graph_addDone_38 : decode prog_3_method_6_code 38 = .ok (.if_icmp .eq 19, 3) := by decide +kernel
theorem zd_Graph_addDone_41 : decode prog_3_method_6_code 41 = .ok (.aload_n 0, 1) := by decide +kernel
theorem zd_Graph_addDone_42 : decode prog_3_method_6_code 42 = .ok (.iload_n 1, 1) := by decide +kernel
theorem zd_Graph_addDone_43 : decode prog_3_method_6_code 43 = .ok (.iload 4, 2) := by decide +kernel
theorem zd_Graph_addDone_45 : decode prog_3_method_6_code 45 = .ok (.iload_n 2, 1) := by decide +kernel
theorem zd_Graph_addDone_46 : decode prog_3_method_6_code 46 = .ok (.iload_n 3, 1) := by decide +kernel
theorem zd_Graph_addDone_47 : decode prog_3_method_6_code 47 = .ok (.invokevirtual 81, 3) := by decide +kernel
theorem zd_Graph_addDone_50 : decode prog_3_method_6_code 50 = .ok (.ifCond .eq 7, 3) := by decide +kernel
theorem zd_Graph_addDone_53 : decode prog_3_method_6_code 53 = .ok (.iconst 1, 1) := by decide +kernel
theorem zd_Graph_addDone_54 : decode prog_3_method_6_code 54 = .ok (.goto 4, 3) := by decide +kernel
theorem zd_Graph_addDone_57 : decode prog_3_method_6_code 57 = .ok (.iconst 0, 1) := by decide +kernel
theorem zd_Graph_addDone_58 : decode prog_3_method_6_code 58 = .ok (.ireturn, 1) := by decide +kernel
theorem zd_Graph_enter_0 : decode prog_3_method_8_code 0 = .ok (.iconst 0, 1) := by decide +kernel
theorem zd_Graph_enter_1 : decode prog_3_method_8_code 1 = .ok (.istore_n 3, 1) := by decide +kernel
theorem zd_Graph_enter_2 : decode prog_3_method_8_code 2 = .ok (.iload_n 3, 1) := by decide +kernel
theorem zd_Graph_enter_3 : decode prog_3_method_8_code 3 = .ok (.aload_n 0, 1) := by decide +kernel
theorem zd_Graph_enter_4 : decode prog_3_method_8_code 4 = .ok (.getfield 41, 3) := by decide +kernel
theorem zd_Graph_enter_7 : decode prog_3_method_8_code 7 = .ok (.if_icmp .ge 22, 3) := by decide +kernel
theorem zd_Graph_enter_10 : decode prog_3_method_8_code 10 = .ok (.aload_n 0, 1) := by decide +kernel
theorem zd_Graph_enter_11 : decode prog_3_method_8_code 11 = .ok (.getfield 15, 3) := by decide +kernel
theorem zd_Graph_enter_14 : decode prog_3_method_8_code 14 = .ok (.iload_n 3, 1) := by decide +kernel
theorem zd_Graph_enter_15 : decode prog_3_method_8_code 15 = .ok (.laload, 1) := by decide +kernel
theorem zd_Graph_enter_16 : decode prog_3_method_8_code 16 = .ok (.lload_n 1, 1) := by decide +kernel
theorem zd_Graph_enter_17 : decode prog_3_method_8_code 17 = .ok (.lcmp, 1) := by decide +kernel
theorem zd_Graph_enter_18 : decode prog_3_method_8_code 18 = .ok (.ifCond .ne 5, 3) := by decide +kernel
theorem zd_Graph_enter_21 : decode prog_3_method_8_code 21 = .ok (.iload_n 3, 1) := by decide +kernel
theorem zd_Graph_enter_22 : decode prog_3_method_8_code 22 = .ok (.ireturn, 1) := by decide +kernel
theorem zd_Graph_enter_23 : decode prog_3_method_8_code 23 = .ok (.iinc 3 1, 3) := by decide +kernel
theorem zd_Graph_enter_26 : decode prog_3_method_8_code 26 = .ok (.goto (-24), 3) := by decide +kernel
theorem zd_Graph_enter_29 : decode prog_3_method_8_code 29 = .ok (.aload_n 0, 1) := by decide +kernel
theorem zd_Graph_enter_30 : decode prog_3_method_8_code 30 = .ok (.getfield 41, 3) := by decide +kernel
theorem zd_Graph_enter_33 : decode prog_3_method_8_code 33 = .ok (.bipush 96, 2) := by decide +kernel
theorem zd_Graph_enter_35 : decode prog_3_method_8_code 35 = .ok (.if_icmp .ne 5, 3) := by decide +kernel
theorem zd_Graph_enter_38 : decode prog_3_method_8_code 38 = .ok (.iconst (-1), 1) := by decide +kernel
theorem zd_Graph_enter_39 : decode prog_3_method_8_code 39 = .ok (.ireturn, 1) := by decide +kernel
theorem zd_Graph_enter_40 : decode prog_3_method_8_code 40 = .ok (.aload_n 0, 1) := by decide +kernel
theorem zd_Graph_enter_41 : decode prog_3_method_8_code 41 = .ok (.getfield 15, 3) := by decide +kernel
theorem zd_Graph_enter_44 : decode prog_3_method_8_code 44 = .ok (.aload_n 0, 1) := by decide +kernel
theorem zd_Graph_enter_45 : decode prog_3_method_8_code 45 = .ok (.getfield 41, 3) := by decide +kernel
theorem zd_Graph_enter_48 : decode prog_3_method_8_code 48 = .ok (.lload_n 1, 1) := by decide +kernel
theorem zd_Graph_enter_49 : decode prog_3_method_8_code 49 = .ok (.lastore, 1) := by decide +kernel
theorem zd_Graph_enter_50 : decode prog_3_method_8_code 50 = .ok (.aload_n 0, 1) := by decide +kernel
theorem zd_Graph_enter_51 : decode prog_3_method_8_code 51 = .ok (.dup, 1) := by decide +kernel
theorem zd_Graph_enter_52 : decode prog_3_method_8_code 52 = .ok (.getfield 41, 3) := by decide +kernel
theorem zd_Graph_enter_55 : decode prog_3_method_8_code 55 = .ok (.iconst 1, 1) := by decide +kernel
theorem zd_Graph_enter_56 : decode prog_3_method_8_code 56 = .ok (.iadd, 1) := by decide +kernel
theorem zd_Graph_enter_57 : decode prog_3_method_8_code 57 = .ok (.putfield 41, 3) := by decide +kernel
theorem zd_Graph_enter_60 : decode prog_3_method_8_code 60 = .ok (.aload_n 0, 1) := by decide +kernel
theorem zd_Graph_enter_61 : decode prog_3_method_8_code 61 = .ok (.getfield 41, 3) := by decide +kernel
theorem zd_Graph_enter_64 : decode prog_3_method_8_code 64 = .ok (.iconst 1, 1) := by decide +kernel
theorem zd_Graph_enter_65 : decode prog_3_method_8_code 65 = .ok (.isub, 1) := by decide +kernel
theorem zd_Graph_enter_66 : decode prog_3_method_8_code 66 = .ok (.ireturn, 1) := by decide +kernel
theorem zd_Program_at_0 : decode prog_7_method_3_code 0 = .ok (.aload_n 0, 1) := by decide +kernel
theorem zd_Program_at_1 : decode prog_7_method_3_code 1 = .ok (.getfield 46, 3) := by decide +kernel
theorem zd_Program_at_4 : decode prog_7_method_3_code 4 = .ok (.iload_n 1, 1) := by decide +kernel
theorem zd_Program_at_5 : decode prog_7_method_3_code 5 = .ok (.bipush 31, 2) := by decide +kernel
theorem zd_Program_at_7 : decode prog_7_method_3_code 7 = .ok (.imul, 1) := by decide +kernel
theorem zd_Program_at_8 : decode prog_7_method_3_code 8 = .ok (.iload_n 2, 1) := by decide +kernel
theorem zd_Program_at_9 : decode prog_7_method_3_code 9 = .ok (.iadd, 1) := by decide +kernel
theorem zd_Program_at_10 : decode prog_7_method_3_code 10 = .ok (.laload, 1) := by decide +kernel
theorem zd_Program_at_11 : decode prog_7_method_3_code 11 = .ok (.lreturn, 1) := by decide +kernel
theorem zd_Situation_packed_0 : decode prog_8_method_3_code 0 = .ok (.aload_n 0, 1) := by decide +kernel
theorem zd_Situation_packed_1 : decode prog_8_method_3_code 1 = .ok (.getfield 37, 3) := by decide +kernel
theorem zd_Situation_packed_4 : decode prog_8_method_3_code 4 = .ok (.iconst 1, 1) := by decide +kernel
theorem zd_Situation_packed_5 : decode prog_8_method_3_code 5 = .ok (.iadd, 1) := by decide +kernel
theorem zd_Situation_packed_6 : decode prog_8_method_3_code 6 = .ok (.i2l, 1) := by decide +kernel
theorem zd_Situation_packed_7 : decode prog_8_method_3_code 7 = .ok (.lstore_n 1, 1) := by decide +kernel
theorem zd_Situation_packed_8 : decode prog_8_method_3_code 8 = .ok (.iconst 0, 1) := by decide +kernel
theorem zd_Situation_packed_9 : decode prog_8_method_3_code 9 = .ok (.istore_n 3, 1) := by decide +kernel
theorem zd_Situation_packed_10 : decode prog_8_method_3_code 10 = .ok (.iload_n 3, 1) := by decide +kernel
theorem zd_Situation_packed_11 : decode prog_8_method_3_code 11 = .ok (.iconst 4, 1) := by decide +kernel
theorem zd_Situation_packed_12 : decode prog_8_method_3_code 12 = .ok (.if_icmp .ge 21, 3) := by decide +kernel
theorem zd_Situation_packed_15 : decode prog_8_method_3_code 15 = .ok (.lload_n 1, 1) := by decide +kernel
theorem zd_Situation_packed_16 : decode prog_8_method_3_code 16 = .ok (.iconst 5, 1) := by decide +kernel
theorem zd_Situation_packed_17 : decode prog_8_method_3_code 17 = .ok (.lshl, 1) := by decide +kernel
theorem zd_Situation_packed_18 : decode prog_8_method_3_code 18 = .ok (.aload_n 0, 1) := by decide +kernel
theorem zd_Situation_packed_19 : decode prog_8_method_3_code 19 = .ok (.getfield 34, 3) := by decide +kernel
theorem zd_Situation_packed_22 : decode prog_8_method_3_code 22 = .ok (.iload_n 3, 1) := by decide +kernel
theorem zd_Situation_packed_23 : decode prog_8_method_3_code 23 = .ok (.iaload, 1) := by decide +kernel
theorem zd_Situation_packed_24 : decode prog_8_method_3_code 24 = .ok (.i2l, 1) := by decide +kernel
theorem zd_Situation_packed_25 : decode prog_8_method_3_code 25 = .ok (.lor, 1) := by decide +kernel
theorem zd_Situation_packed_26 : decode prog_8_method_3_code 26 = .ok (.lstore_n 1, 1) := by decide +kernel
theorem zd_Situation_packed_27 : decode prog_8_method_3_code 27 = .ok (.iinc 3 1, 3) := by decide +kernel
theorem zd_Situation_packed_30 : decode prog_8_method_3_code 30 = .ok (.goto (-20), 3) := by decide +kernel
theorem zd_Situation_packed_33 : decode prog_8_method_3_code 33 = .ok (.iconst 0, 1) := by decide +kernel
theorem zd_Situation_packed_34 : decode prog_8_method_3_code 34 = .ok (.istore_n 3, 1) := by decide +kernel
theorem zd_Situation_packed_35 : decode prog_8_method_3_code 35 = .ok (.iload_n 3, 1) := by decide +kernel
theorem zd_Situation_packed_36 : decode prog_8_method_3_code 36 = .ok (.aload_n 0, 1) := by decide +kernel
theorem zd_Situation_packed_37 : decode prog_8_method_3_code 37 = .ok (.getfield 9, 3) := by decide +kernel
theorem zd_Situation_packed_40 : decode prog_8_method_3_code 40 = .ok (.getfield 47, 3) := by decide +kernel
theorem zd_Situation_packed_43 : decode prog_8_method_3_code 43 = .ok (.if_icmp .ge 29, 3) := by decide +kernel
theorem zd_Situation_packed_46 : decode prog_8_method_3_code 46 = .ok (.lload_n 1, 1) := by decide +kernel
theorem zd_Situation_packed_47 : decode prog_8_method_3_code 47 = .ok (.iconst 3, 1) := by decide +kernel
theorem zd_Situation_packed_48 : decode prog_8_method_3_code 48 = .ok (.lshl, 1) := by decide +kernel
theorem zd_Situation_packed_49 : decode prog_8_method_3_code 49 = .ok (.aload_n 0, 1) := by decide +kernel
theorem zd_Situation_packed_50 : decode prog_8_method_3_code 50 = .ok (.getfield 25, 3) := by decide +kernel
theorem zd_Situation_packed_53 : decode prog_8_method_3_code 53 = .ok (.aload_n 0, 1) := by decide +kernel
theorem zd_Situation_packed_54 : decode prog_8_method_3_code 54 = .ok (.getfield 9, 3) := by decide +kernel
theorem zd_Situation_packed_57 : decode prog_8_method_3_code 57 = .ok (.getfield 50, 3) := by decide +kernel
theorem zd_Situation_packed_60 : decode prog_8_method_3_code 60 = .ok (.iload_n 3, 1) := by decide +kernel
theorem zd_Situation_packed_61 : decode prog_8_method_3_code 61 = .ok (.iaload, 1) := by decide +kernel
theorem zd_Situation_packed_62 : decode prog_8_method_3_code 62 = .ok (.iaload, 1) := by decide +kernel
theorem zd_Situation_packed_63 : decode prog_8_method_3_code 63 = .ok (.i2l, 1) := by decide +kernel
theorem zd_Situation_packed_64 : decode prog_8_method_3_code 64 = .ok (.lor, 1) := by decide +kernel
theorem zd_Situation_packed_65 : decode prog_8_method_3_code 65 = .ok (.lstore_n 1, 1) := by decide +kernel
theorem zd_Situation_packed_66 : decode prog_8_method_3_code 66 = .ok (.iinc 3 1, 3) := by decide +kernel
theorem zd_Situation_packed_69 : decode prog_8_method_3_code 69 = .ok (.goto (-34), 3) := by decide +kernel
theorem zd_Situation_packed_72 : decode prog_8_method_3_code 72 = .ok (.iconst 0, 1) := by decide +kernel
theorem zd_Situation_packed_73 : decode prog_8_method_3_code 73 = .ok (.istore_n 3, 1) := by decide +kernel
theorem zd_Situation_packed_74 : decode prog_8_method_3_code 74 = .ok (.iload_n 3, 1) := by decide +kernel
theorem zd_Situation_packed_75 : decode prog_8_method_3_code 75 = .ok (.aload_n 0, 1) := by decide +kernel
theorem zd_Situation_packed_76 : decode prog_8_method_3_code 76 = .ok (.getfield 9, 3) := by decide +kernel
theorem zd_Situation_packed_79 : decode prog_8_method_3_code 79 = .ok (.getfield 65, 3) := by decide +kernel
theorem zd_Situation_packed_82 : decode prog_8_method_3_code 82 = .ok (.if_icmp .ge 66, 3) := by decide +kernel
theorem zd_Situation_packed_85 : decode prog_8_method_3_code 85 = .ok (.aload_n 0, 1) := by decide +kernel
theorem zd_Situation_packed_86 : decode prog_8_method_3_code 86 = .ok (.getfield 9, 3) := by decide +kernel
theorem zd_Situation_packed_89 : decode prog_8_method_3_code 89 = .ok (.getfield 68, 3) := by decide +kernel
theorem zd_Situation_packed_92 : decode prog_8_method_3_code 92 = .ok (.iload_n 3, 1) := by decide +kernel
theorem zd_Situation_packed_93 : decode prog_8_method_3_code 93 = .ok (.iaload, 1) := by decide +kernel
theorem zd_Situation_packed_94 : decode prog_8_method_3_code 94 = .ok (.istore 4, 2) := by decide +kernel
theorem zd_Situation_packed_96 : decode prog_8_method_3_code 96 = .ok (.lload_n 1, 1) := by decide +kernel
theorem zd_Situation_packed_97 : decode prog_8_method_3_code 97 = .ok (.iconst 2, 1) := by decide +kernel
theorem zd_Situation_packed_98 : decode prog_8_method_3_code 98 = .ok (.lshl, 1) := by decide +kernel
theorem zd_Situation_packed_99 : decode prog_8_method_3_code 99 = .ok (.aload_n 0, 1) := by decide +kernel
theorem zd_Situation_packed_100 : decode prog_8_method_3_code 100 = .ok (.getfield 25, 3) := by decide +kernel
theorem zd_Situation_packed_103 : decode prog_8_method_3_code 103 = .ok (.iload 4, 2) := by decide +kernel
theorem zd_Situation_packed_105 : decode prog_8_method_3_code 105 = .ok (.iaload, 1) := by decide +kernel
theorem zd_Situation_packed_106 : decode prog_8_method_3_code 106 = .ok (.i2l, 1) := by decide +kernel
theorem zd_Situation_packed_107 : decode prog_8_method_3_code 107 = .ok (.lor, 1) := by decide +kernel
theorem zd_Situation_packed_108 : decode prog_8_method_3_code 108 = .ok (.lstore_n 1, 1) := by decide +kernel
theorem zd_Situation_packed_109 : decode prog_8_method_3_code 109 = .ok (.iconst 0, 1) := by decide +kernel
theorem zd_Situation_packed_110 : decode prog_8_method_3_code 110 = .ok (.istore 5, 2) := by decide +kernel
theorem zd_Situation_packed_112 : decode prog_8_method_3_code 112 = .ok (.iload 5, 2) := by decide +kernel
theorem zd_Situation_packed_114 : decode prog_8_method_3_code 114 = .ok (.iconst 3, 1) := by decide +kernel
theorem zd_Situation_packed_115 : decode prog_8_method_3_code 115 = .ok (.if_icmp .ge 27, 3) := by decide +kernel
theorem zd_Situation_packed_118 : decode prog_8_method_3_code 118 = .ok (.lload_n 1, 1) := by decide +kernel
theorem zd_Situation_packed_119 : decode prog_8_method_3_code 119 = .ok (.iconst 3, 1) := by decide +kernel
theorem zd_Situation_packed_120 : decode prog_8_method_3_code 120 = .ok (.lshl, 1) := by decide +kernel
theorem zd_Situation_packed_121 : decode prog_8_method_3_code 121 = .ok (.aload_n 0, 1) := by decide +kernel
theorem zd_Situation_packed_122 : decode prog_8_method_3_code 122 = .ok (.getfield 29, 3) := by decide +kernel
theorem zd_Situation_packed_125 : decode prog_8_method_3_code 125 = .ok (.iload 4, 2) := by decide +kernel
theorem zd_Situation_packed_127 : decode prog_8_method_3_code 127 = .ok (.iconst 3, 1) := by decide +kernel
theorem zd_Situation_packed_128 : decode prog_8_method_3_code 128 = .ok (.imul, 1) := by decide +kernel
theorem zd_Situation_packed_129 : decode prog_8_method_3_code 129 = .ok (.iload 5, 2) := by decide +kernel
theorem zd_Situation_packed_131 : decode prog_8_method_3_code 131 = .ok (.iadd, 1) := by decide +kernel
theorem zd_Situation_packed_132 : decode prog_8_method_3_code 132 = .ok (.iaload, 1) := by decide +kernel
theorem zd_Situation_packed_133 : decode prog_8_method_3_code 133 = .ok (.i2l, 1) := by decide +kernel
theorem zd_Situation_packed_134 : decode prog_8_method_3_code 134 = .ok (.lor, 1) := by decide +kernel
theorem zd_Situation_packed_135 : decode prog_8_method_3_code 135 = .ok (.lstore_n 1, 1) := by decide +kernel
theorem zd_Situation_packed_136 : decode prog_8_method_3_code 136 = .ok (.iinc 5 1, 3) := by decide +kernel
theorem zd_Situation_packed_139 : decode prog_8_method_3_code 139 = .ok (.goto (-27), 3) := by decide +kernel
theorem zd_Situation_packed_142 : decode prog_8_method_3_code 142 = .ok (.iinc 3 1, 3) := by decide +kernel
theorem zd_Situation_packed_145 : decode prog_8_method_3_code 145 = .ok (.goto (-71), 3) := by decide +kernel
theorem zd_Situation_packed_148 : decode prog_8_method_3_code 148 = .ok (.lload_n 1, 1) := by decide +kernel
theorem zd_Situation_packed_149 : decode prog_8_method_3_code 149 = .ok (.lreturn, 1) := by decide +kernel
theorem zd_Situation_partners_0 : decode prog_8_method_10_code 0 = .ok (.aload_n 0, 1) := by decide +kernel
theorem zd_Situation_partners_1 : decode prog_8_method_10_code 1 = .ok (.getfield 19, 3) := by decide +kernel
theorem zd_Situation_partners_4 : decode prog_8_method_10_code 4 = .ok (.getfield 96, 3) := by decide +kernel
theorem zd_Situation_partners_7 : decode prog_8_method_10_code 7 = .ok (.iload_n 1, 1) := by decide +kernel
theorem zd_Situation_partners_8 : decode prog_8_method_10_code 8 = .ok (.iaload, 1) := by decide +kernel
theorem zd_Situation_partners_9 : decode prog_8_method_10_code 9 = .ok (.iconst 2, 1) := by decide +kernel
theorem zd_Situation_partners_10 : decode prog_8_method_10_code 10 = .ok (.if_icmp .ne 23, 3) := by decide +kernel
theorem zd_Situation_partners_13 : decode prog_8_method_10_code 13 = .ok (.aload_n 0, 1) := by decide +kernel
theorem zd_Situation_partners_14 : decode prog_8_method_10_code 14 = .ok (.getfield 9, 3) := by decide +kernel
theorem zd_Situation_partners_17 : decode prog_8_method_10_code 17 = .ok (.getfield 53, 3) := by decide +kernel
theorem zd_Situation_partners_20 : decode prog_8_method_10_code 20 = .ok (.aload_n 0, 1) := by decide +kernel
theorem zd_Situation_partners_21 : decode prog_8_method_10_code 21 = .ok (.getfield 19, 3) := by decide +kernel
theorem zd_Situation_partners_24 : decode prog_8_method_10_code 24 = .ok (.getfield 108, 3) := by decide +kernel
theorem zd_Situation_partners_27 : decode prog_8_method_10_code 27 = .ok (.iload_n 1, 1) := by decide +kernel
theorem zd_Situation_partners_28 : decode prog_8_method_10_code 28 = .ok (.iaload, 1) := by decide +kernel
theorem zd_Situation_partners_29 : decode prog_8_method_10_code 29 = .ok (.iaload, 1) := by decide +kernel
theorem zd_Situation_partners_30 : decode prog_8_method_10_code 30 = .ok (.ifCond .le 5, 3) := by decide +kernel
theorem zd_Situation_partners_33 : decode prog_8_method_10_code 33 = .ok (.lconst 0, 1) := by decide +kernel
theorem zd_Situation_partners_34 : decode prog_8_method_10_code 34 = .ok (.lreturn, 1) := by decide +kernel
theorem zd_Situation_partners_35 : decode prog_8_method_10_code 35 = .ok (.aload_n 0, 1) := by decide +kernel
theorem zd_Situation_partners_36 : decode prog_8_method_10_code 36 = .ok (.getfield 19, 3) := by decide +kernel
theorem zd_Situation_partners_39 : decode prog_8_method_10_code 39 = .ok (.getfield 118, 3) := by decide +kernel
theorem zd_Situation_partners_42 : decode prog_8_method_10_code 42 = .ok (.iload_n 1, 1) := by decide +kernel
theorem zd_Situation_partners_43 : decode prog_8_method_10_code 43 = .ok (.iaload, 1) := by decide +kernel
theorem zd_Situation_partners_44 : decode prog_8_method_10_code 44 = .ok (.istore_n 2, 1) := by decide +kernel
theorem zd_Situation_partners_45 : decode prog_8_method_10_code 45 = .ok (.aload_n 0, 1) := by decide +kernel
theorem zd_Situation_partners_46 : decode prog_8_method_10_code 46 = .ok (.getfield 19, 3) := by decide +kernel
theorem zd_Situation_partners_49 : decode prog_8_method_10_code 49 = .ok (.getfield 121, 3) := by decide +kernel
theorem zd_Situation_partners_52 : decode prog_8_method_10_code 52 = .ok (.aload_n 0, 1) := by decide +kernel
theorem zd_Situation_partners_53 : decode prog_8_method_10_code 53 = .ok (.getfield 19, 3) := by decide +kernel
theorem zd_Situation_partners_56 : decode prog_8_method_10_code 56 = .ok (.getfield 108, 3) := by decide +kernel
theorem zd_Situation_partners_59 : decode prog_8_method_10_code 59 = .ok (.iload_n 1, 1) := by decide +kernel
theorem zd_Situation_partners_60 : decode prog_8_method_10_code 60 = .ok (.iaload, 1) := by decide +kernel
theorem zd_Situation_partners_61 : decode prog_8_method_10_code 61 = .ok (.laload, 1) := by decide +kernel
theorem zd_Situation_partners_62 : decode prog_8_method_10_code 62 = .ok (.aload_n 0, 1) := by decide +kernel
theorem zd_Situation_partners_63 : decode prog_8_method_10_code 63 = .ok (.getfield 71, 3) := by decide +kernel
theorem zd_Situation_partners_66 : decode prog_8_method_10_code 66 = .ok (.land, 1) := by decide +kernel
theorem zd_Situation_partners_67 : decode prog_8_method_10_code 67 = .ok (.aload_n 0, 1) := by decide +kernel
theorem zd_Situation_partners_68 : decode prog_8_method_10_code 68 = .ok (.getfield 19, 3) := by decide +kernel
theorem zd_Situation_partners_71 : decode prog_8_method_10_code 71 = .ok (.iload_n 2, 1) := by decide +kernel
theorem zd_Situation_partners_72 : decode prog_8_method_10_code 72 = .ok (.aload_n 0, 1) := by decide +kernel
theorem zd_Situation_partners_73 : decode prog_8_method_10_code 73 = .ok (.getfield 34, 3) := by decide +kernel
theorem zd_Situation_partners_76 : decode prog_8_method_10_code 76 = .ok (.iload_n 2, 1) := by decide +kernel
theorem zd_Situation_partners_77 : decode prog_8_method_10_code 77 = .ok (.iaload, 1) := by decide +kernel
theorem zd_Situation_partners_78 : decode prog_8_method_10_code 78 = .ok (.invokevirtual 78, 3) := by decide +kernel
theorem zd_Situation_partners_81 : decode prog_8_method_10_code 81 = .ok (.ldc2_w 125, 3) := by decide +kernel
theorem zd_Situation_partners_84 : decode prog_8_method_10_code 84 = .ok (.lxor, 1) := by decide +kernel
theorem zd_Situation_partners_85 : decode prog_8_method_10_code 85 = .ok (.land, 1) := by decide +kernel
theorem zd_Situation_partners_86 : decode prog_8_method_10_code 86 = .ok (.lreturn, 1) := by decide +kernel
theorem zd_Situation_perform_0 : decode prog_8_method_11_code 0 = .ok (.aload_n 0, 1) := by decide +kernel
theorem zd_Situation_perform_1 : decode prog_8_method_11_code 1 = .ok (.getfield 19, 3) := by decide +kernel
theorem zd_Situation_perform_4 : decode prog_8_method_11_code 4 = .ok (.getfield 99, 3) := by decide +kernel
theorem zd_Situation_perform_7 : decode prog_8_method_11_code 7 = .ok (.iload_n 1, 1) := by decide +kernel
theorem zd_Situation_perform_8 : decode prog_8_method_11_code 8 = .ok (.iaload, 1) := by decide +kernel
theorem zd_Situation_perform_9 : decode prog_8_method_11_code 9 = .ok (.istore_n 3, 1) := by decide +kernel
theorem zd_Situation_perform_10 : decode prog_8_method_11_code 10 = .ok (.iload_n 3, 1) := by decide +kernel
theorem zd_Situation_perform_11 : decode prog_8_method_11_code 11 = .ok (.iconst (-1), 1) := by decide +kernel
theorem zd_Situation_perform_12 : decode prog_8_method_11_code 12 = .ok (.if_icmp .ne 7, 3) := by decide +kernel
theorem zd_Situation_perform_15 : decode prog_8_method_11_code 15 = .ok (.iconst 0, 1) := by decide +kernel
theorem zd_Situation_perform_16 : decode prog_8_method_11_code 16 = .ok (.goto 15, 3) := by decide +kernel
theorem zd_Situation_perform_19 : decode prog_8_method_11_code 19 = .ok (.aload_n 0, 1) := by decide +kernel
theorem zd_Situation_perform_20 : decode prog_8_method_11_code 20 = .ok (.getfield 15, 3) := by decide +kernel
theorem zd_Situation_perform_23 : decode prog_8_method_11_code 23 = .ok (.iload_n 3, 1) := by decide +kernel
theorem zd_Situation_perform_24 : decode prog_8_method_11_code 24 = .ok (.aload_n 0, 1) := by decide +kernel
theorem zd_Situation_perform_25 : decode prog_8_method_11_code 25 = .ok (.getfield 25, 3) := by decide +kernel
theorem zd_Situation_perform_28 : decode prog_8_method_11_code 28 = .ok (.invokevirtual 102, 3) := by decide +kernel
theorem zd_Situation_perform_31 : decode prog_8_method_11_code 31 = .ok (.istore 4, 2) := by decide +kernel
theorem zd_Situation_perform_33 : decode prog_8_method_11_code 33 = .ok (.aload_n 0, 1) := by decide +kernel
theorem zd_Situation_perform_34 : decode prog_8_method_11_code 34 = .ok (.getfield 19, 3) := by decide +kernel
theorem zd_Situation_perform_37 : decode prog_8_method_11_code 37 = .ok (.getfield 96, 3) := by decide +kernel
theorem zd_Situation_perform_40 : decode prog_8_method_11_code 40 = .ok (.iload_n 1, 1) := by decide +kernel
theorem zd_Situation_perform_41 : decode prog_8_method_11_code 41 = .ok (.iaload, 1) := by decide +kernel
theorem zd_Situation_perform_42 : decode prog_8_method_11_code 42 = .ok (.tableswitch 121 0 3 #[30, 121, 49, 91], 30) := by decide +kernel
theorem zd_Situation_perform_72 : decode prog_8_method_11_code 72 = .ok (.aload_n 0, 1) := by decide +kernel
theorem zd_Situation_perform_73 : decode prog_8_method_11_code 73 = .ok (.getfield 25, 3) := by decide +kernel
theorem zd_Situation_perform_76 : decode prog_8_method_11_code 76 = .ok (.aload_n 0, 1) := by decide +kernel
theorem zd_Situation_perform_77 : decode prog_8_method_11_code 77 = .ok (.getfield 19, 3) := by decide +kernel
theorem zd_Situation_perform_80 : decode prog_8_method_11_code 80 = .ok (.getfield 127, 3) := by decide +kernel
theorem zd_Situation_perform_83 : decode prog_8_method_11_code 83 = .ok (.iload_n 1, 1) := by decide +kernel
theorem zd_Situation_perform_84 : decode prog_8_method_11_code 84 = .ok (.iaload, 1) := by decide +kernel
theorem zd_Situation_perform_85 : decode prog_8_method_11_code 85 = .ok (.iload 4, 2) := by decide +kernel
theorem zd_Situation_perform_87 : decode prog_8_method_11_code 87 = .ok (.iastore, 1) := by decide +kernel
theorem zd_Situation_perform_88 : decode prog_8_method_11_code 88 = .ok (.goto 75, 3) := by decide +kernel
theorem zd_Situation_perform_91 : decode prog_8_method_11_code 91 = .ok (.iload_n 2, 1) := by decide +kernel
theorem zd_Situation_perform_92 : decode prog_8_method_11_code 92 = .ok (.iconst (-1), 1) := by decide +kernel
theorem zd_Situation_perform_93 : decode prog_8_method_11_code 93 = .ok (.if_icmp .ne 21, 3) := by decide +kernel
theorem zd_Situation_perform_96 : decode prog_8_method_11_code 96 = .ok (.aload_n 0, 1) := by decide +kernel
theorem zd_Situation_perform_97 : decode prog_8_method_11_code 97 = .ok (.aload_n 0, 1) := by decide +kernel
theorem zd_Situation_perform_98 : decode prog_8_method_11_code 98 = .ok (.getfield 19, 3) := by decide +kernel
theorem zd_Situation_perform_101 : decode prog_8_method_11_code 101 = .ok (.getfield 108, 3) := by decide +kernel
theorem zd_Situation_perform_104 : decode prog_8_method_11_code 104 = .ok (.iload_n 1, 1) := by decide +kernel
theorem zd_Situation_perform_105 : decode prog_8_method_11_code 105 = .ok (.iaload, 1) := by decide +kernel
theorem zd_Situation_perform_106 : decode prog_8_method_11_code 106 = .ok (.iload 4, 2) := by decide +kernel
theorem zd_Situation_perform_108 : decode prog_8_method_11_code 108 = .ok (.invokevirtual 130, 3) := by decide +kernel
theorem zd_Situation_perform_111 : decode prog_8_method_11_code 111 = .ok (.goto 52, 3) := by decide +kernel
theorem zd_Situation_perform_114 : decode prog_8_method_11_code 114 = .ok (.aload_n 0, 1) := by decide +kernel
theorem zd_Situation_perform_115 : decode prog_8_method_11_code 115 = .ok (.getfield 25, 3) := by decide +kernel
theorem zd_Situation_perform_118 : decode prog_8_method_11_code 118 = .ok (.aload_n 0, 1) := by decide +kernel
theorem zd_Situation_perform_119 : decode prog_8_method_11_code 119 = .ok (.getfield 19, 3) := by decide +kernel
theorem zd_Situation_perform_122 : decode prog_8_method_11_code 122 = .ok (.getfield 127, 3) := by decide +kernel
theorem zd_Situation_perform_125 : decode prog_8_method_11_code 125 = .ok (.iload_n 2, 1) := by decide +kernel
theorem zd_Situation_perform_126 : decode prog_8_method_11_code 126 = .ok (.iaload, 1) := by decide +kernel
theorem zd_Situation_perform_127 : decode prog_8_method_11_code 127 = .ok (.iload 4, 2) := by decide +kernel
theorem zd_Situation_perform_129 : decode prog_8_method_11_code 129 = .ok (.iastore, 1) := by decide +kernel
theorem zd_Situation_perform_130 : decode prog_8_method_11_code 130 = .ok (.goto 33, 3) := by decide +kernel
theorem zd_Situation_perform_133 : decode prog_8_method_11_code 133 = .ok (.aload_n 0, 1) := by decide +kernel
theorem zd_Situation_perform_134 : decode prog_8_method_11_code 134 = .ok (.getfield 25, 3) := by decide +kernel
theorem zd_Situation_perform_137 : decode prog_8_method_11_code 137 = .ok (.aload_n 0, 1) := by decide +kernel
theorem zd_Situation_perform_138 : decode prog_8_method_11_code 138 = .ok (.getfield 19, 3) := by decide +kernel
theorem zd_Situation_perform_141 : decode prog_8_method_11_code 141 = .ok (.getfield 127, 3) := by decide +kernel
theorem zd_Situation_perform_144 : decode prog_8_method_11_code 144 = .ok (.iload_n 1, 1) := by decide +kernel
theorem zd_Situation_perform_145 : decode prog_8_method_11_code 145 = .ok (.iaload, 1) := by decide +kernel
theorem zd_Situation_perform_146 : decode prog_8_method_11_code 146 = .ok (.aload_n 0, 1) := by decide +kernel
theorem zd_Situation_perform_147 : decode prog_8_method_11_code 147 = .ok (.aload_n 0, 1) := by decide +kernel
theorem zd_Situation_perform_148 : decode prog_8_method_11_code 148 = .ok (.getfield 19, 3) := by decide +kernel
theorem zd_Situation_perform_151 : decode prog_8_method_11_code 151 = .ok (.getfield 108, 3) := by decide +kernel
theorem zd_Situation_perform_154 : decode prog_8_method_11_code 154 = .ok (.iload_n 1, 1) := by decide +kernel
theorem zd_Situation_perform_155 : decode prog_8_method_11_code 155 = .ok (.iaload, 1) := by decide +kernel
theorem zd_Situation_perform_156 : decode prog_8_method_11_code 156 = .ok (.invokevirtual 134, 3) := by decide +kernel
theorem zd_Situation_perform_159 : decode prog_8_method_11_code 159 = .ok (.iastore, 1) := by decide +kernel
theorem zd_Situation_perform_160 : decode prog_8_method_11_code 160 = .ok (.goto 3, 3) := by decide +kernel
theorem zd_Situation_perform_163 : decode prog_8_method_11_code 163 = .ok (.aload_n 0, 1) := by decide +kernel
theorem zd_Situation_perform_164 : decode prog_8_method_11_code 164 = .ok (.iconst (-1), 1) := by decide +kernel
theorem zd_Situation_perform_165 : decode prog_8_method_11_code 165 = .ok (.putfield 37, 3) := by decide +kernel
theorem zd_Situation_perform_168 : decode prog_8_method_11_code 168 = .ok (.aload_n 0, 1) := by decide +kernel
theorem zd_Situation_perform_169 : decode prog_8_method_11_code 169 = .ok (.iload_n 1, 1) := by decide +kernel
theorem zd_Situation_perform_170 : decode prog_8_method_11_code 170 = .ok (.invokevirtual 138, 3) := by decide +kernel
theorem zd_Situation_perform_173 : decode prog_8_method_11_code 173 = .ok (.iload_n 2, 1) := by decide +kernel
theorem zd_Situation_perform_174 : decode prog_8_method_11_code 174 = .ok (.iconst (-1), 1) := by decide +kernel
theorem zd_Situation_perform_175 : decode prog_8_method_11_code 175 = .ok (.if_icmp .eq 8, 3) := by decide +kernel
theorem zd_Situation_perform_178 : decode prog_8_method_11_code 178 = .ok (.aload_n 0, 1) := by decide +kernel
theorem zd_Situation_perform_179 : decode prog_8_method_11_code 179 = .ok (.iload_n 2, 1) := by decide +kernel
theorem zd_Situation_perform_180 : decode prog_8_method_11_code 180 = .ok (.invokevirtual 138, 3) := by decide +kernel
theorem zd_Situation_perform_183 : decode prog_8_method_11_code 183 = .ok (.return_, 1) := by decide +kernel
def wc_Situation_perform_183 (a0 : Int32) (a1 : Int32) (Post : (Nat → Int32) → (Nat → Int64) → (Nat → Nat → Int32) → (Nat → Nat → Int64) → Prop)  (I : Nat → Int32) (J : Nat → Int64) (B : Nat → Nat → Int32) (D : Nat → Nat → Int64) : Prop :=
  Post I J B D
def wc_Situation_perform_163 (a0 : Int32) (a1 : Int32) (Post : (Nat → Int32) → (Nat → Int64) → (Nat → Nat → Int32) → (Nat → Nat → Int64) → Prop) (x1 : Int32) (x2 : Int32) (I : Nat → Int32) (J : Nat → Int64) (B : Nat → Nat → Int32) (D : Nat → Nat → Int64) : Prop :=
  wp_Situation_passOn (upd I 18 (-1)) J B D x1 (fun I1 J1 B1 D1 => ((x2 = (-1) → wc_Situation_perform_183 a0 a1 Post I1 J1 B1 D1) ∧ (¬ x2 = (-1) → wp_Situation_passOn I1 J1 B1 D1 x2 (fun I3 J3 B3 D3 => wc_Situation_perform_183 a0 a1 Post I3 J3 B3 D3))))
def wc_Situation_perform_31 (a0 : Int32) (a1 : Int32) (Post : (Nat → Int32) → (Nat → Int64) → (Nat → Nat → Int32) → (Nat → Nat → Int64) → Prop) (x1 : Int32) (x2 : Int32) (y0 : Int32) (I : Nat → Int32) (J : Nat → Int64) (B : Nat → Nat → Int32) (D : Nat → Nat → Int64) : Prop :=
  vp_in x1 48 ∧ ∀ z4 : Int32, z4 = ((B 6) x1.toNatClampNeg) → ((z4 = 0 → vp_in x1 48 ∧ ∀ z6 : Int32, z6 = ((B 8) x1.toNatClampNeg) → vp_in z6 8 ∧ wc_Situation_perform_163 a0 a1 Post x1 x2 I J (va_up B 29 (upd (B 29) z6.toNatClampNeg y0)) D) ∧ (z4 = 1 → wc_Situation_perform_163 a0 a1 Post x1 x2 I J B D) ∧ (z4 = 2 → ((¬ x2 = (-1) → vp_in x2 48 ∧ ∀ z10 : Int32, z10 = ((B 8) x2.toNatClampNeg) → vp_in z10 8 ∧ wc_Situation_perform_163 a0 a1 Post x1 x2 I J (va_up B 29 (upd (B 29) z10.toNatClampNeg y0)) D) ∧ (x2 = (-1) → vp_in x1 48 ∧ ∀ z11 : Int32, z11 = ((B 7) x1.toNatClampNeg) → wp_Situation_put I J B D z11 y0 (fun I12 J12 B12 D12 => wc_Situation_perform_163 a0 a1 Post x1 x2 I12 J12 B12 D12)))) ∧ (z4 = 3 → vp_in x1 48 ∧ ∀ z14 : Int32, z14 = ((B 8) x1.toNatClampNeg) → vp_in x1 48 ∧ ∀ z15 : Int32, z15 = ((B 7) x1.toNatClampNeg) → wp_Situation_taken I J B D z15 (fun r16 I16 J16 B16 D16 => vp_in z14 8 ∧ wc_Situation_perform_163 a0 a1 Post x1 x2 I16 J16 (va_up B16 29 (upd (B16 29) z14.toNatClampNeg r16)) D16)) ∧ (¬ z4 = 0 → ¬ z4 = 1 → ¬ z4 = 2 → ¬ z4 = 3 → wc_Situation_perform_163 a0 a1 Post x1 x2 I J B D))
def wp_Situation_perform (I : Nat → Int32) (J : Nat → Int64) (B : Nat → Nat → Int32) (D : Nat → Nat → Int64) (a0 : Int32) (a1 : Int32) (Post : (Nat → Int32) → (Nat → Int64) → (Nat → Nat → Int32) → (Nat → Nat → Int64) → Prop) : Prop :=
  vp_in a0 48 ∧ ∀ z17 : Int32, z17 = ((B 9) a0.toNatClampNeg) → ((¬ z17 = (-1) → wp_Terms_reckon_ad43_A I J B D z17 (fun r19 I19 J19 B19 D19 => wc_Situation_perform_31 a0 a1 Post a0 a1 r19 I19 J19 B19 D19)) ∧ (z17 = (-1) → wc_Situation_perform_31 a0 a1 Post a0 a1 0 I J B D))
set_option maxHeartbeats 8000000 in
set_option maxRecDepth 100000 in
theorem wJ_Situation_perform_183 {p : Program} {l : Launch} {e : Env} {s : State} {m : MethodId} {below : List Frame} {meth : Method} {c : Code} {A : Nat → Prop} (G : va_G) (K : Nat → ClassId) (ad : Nat → Nat) (sv : Value) (a0 : Int32) (a1 : Int32) (Post : (Nat → Int32) → (Nat → Int64) → (Nat → Nat → Int32) → (Nat → Nat → Int64) → Prop) (C : zCx p s m ([.ref (ad 7), .int a0, .int a1] : List Value).toArray meth c A G K prog_8_method_11_code none 5 "LassoFinder$Situation") : ∀  (I : Nat → Int32) (J : Nat → Int64) (B : Nat → Nat → Int32) (D : Nat → Nat → Int64) (ls : Array Slot) (H : Heap) (locs : List Loc), wc_Situation_perform_183 a0 a1 Post  I J B D → lv_has ls 5 [] → zW G A s.heap (wX ad K sv I J B D) H locs → W p l e { frames := 2, cells := 0, slots := 0, locals := 47 } s m ([.ref (ad 7), .int a0, .int a1] : List Value).toArray below meth c H locs 0 0 (MQ below (va_Qv (fun u : zS => Post u.1 u.2.1 u.2.2.1 u.2.2.2) (fun u t => zPost G K A (wX ad K sv u.1 u.2.1 u.2.2.1 u.2.2.2) t) A) ([.ref (ad 7), .int a0, .int a1] : List Value).toArray s 0 0 A) (F0 m 183 ls []) := by
  obtain ⟨hx, hb, hr, hml, hts, hown, hlocks, hA, hK⟩ := id C
  intro  I J B D ls H locs hok hl hw
  unfold wc_Situation_perform_183 at hok
  exact (z_vret (u := (I, J, B, D)) hx hb hr hlocks hw (List.range 65) wX_all wX_nd hok (Nat.le_of_ble_eq_true rfl) (Nat.le_of_ble_eq_true rfl) zd_Situation_perform_183)
set_option maxHeartbeats 8000000 in
set_option maxRecDepth 100000 in
theorem wJ_Situation_perform_163 {p : Program} {l : Launch} {e : Env} {s : State} {m : MethodId} {below : List Frame} {meth : Method} {c : Code} {A : Nat → Prop} (G : va_G) (K : Nat → ClassId) (ad : Nat → Nat) (sv : Value) (a0 : Int32) (a1 : Int32) (Post : (Nat → Int32) → (Nat → Int64) → (Nat → Nat → Int32) → (Nat → Nat → Int64) → Prop) (C : zCx p s m ([.ref (ad 7), .int a0, .int a1] : List Value).toArray meth c A G K prog_8_method_11_code none 5 "LassoFinder$Situation") : ∀ (x1 : Int32) (x2 : Int32) (I : Nat → Int32) (J : Nat → Int64) (B : Nat → Nat → Int32) (D : Nat → Nat → Int64) (ls : Array Slot) (H : Heap) (locs : List Loc), wc_Situation_perform_163 a0 a1 Post x1 x2 I J B D → lv_has ls 5 [(0, .ref (ad 7)), (1, .int x1), (2, .int x2)] → zW G A s.heap (wX ad K sv I J B D) H locs → W p l e { frames := 2, cells := 0, slots := 0, locals := 47 } s m ([.ref (ad 7), .int a0, .int a1] : List Value).toArray below meth c H locs 0 0 (MQ below (va_Qv (fun u : zS => Post u.1 u.2.1 u.2.2.1 u.2.2.2) (fun u t => zPost G K A (wX ad K sv u.1 u.2.1 u.2.2.1 u.2.2.2) t) A) ([.ref (ad 7), .int a0, .int a1] : List Value).toArray s 0 0 A) (F0 m 163 ls []) := by
  obtain ⟨hx, hb, hr, hml, hts, hown, hlocks, hA, hK⟩ := id C
  intro x1 x2 I J B D ls H locs hok hl hw
  unfold wc_Situation_perform_163 at hok
  refine lv_aload_n hx hb zd_Situation_perform_163 rfl (lv_at hl 0 rfl) ?_
  refine lv_iconst (v := (-1)) hx hb zd_Situation_perform_164 (by decide) ?_
  refine z_put (v := .int (-1)) hx hb hts hown hK hw zZ7 7 wX_g7 6 (by decide) zn_311 rfl rfl rfl (Nat.le_of_ble_eq_true rfl) zd_Situation_perform_165 (fun H locs hw => ?_)
  have hw := wX_sI18 hw
  refine lv_aload_n hx hb zd_Situation_perform_168 rfl (lv_at hl 0 rfl) ?_
  refine lv_iload_n hx hb zd_Situation_perform_169 rfl (lv_at hl 1 rfl) ?_
  refine z_callv (w1 := fun (u : zS) => wX ad K sv u.1 u.2.1 u.2.2.1 u.2.2.2) (wr := []) (z_runV (q0 := 7) (wc := (wX ad K sv (upd I 18 (-1)) J B D)) (As := [.int x1]) (rest := []) ⟨hx, hb, hml, hown, hts⟩ (w_Situation_passOn l G K ad sv (upd I 18 (-1)) J B D x1 _ H.size hok) zf_Situation_passOn zn_409 ⟨Nat.le_of_ble_eq_true rfl, Nat.le_of_ble_eq_true rfl⟩ hK hw (List.range 65) wX_all wX_nd wX_g7 rfl rfl hl.1 rfl (Nat.le_of_ble_eq_true rfl) zd_Situation_perform_170 ⟨Nat.le_of_ble_eq_true rfl, Nat.le_of_ble_eq_true rfl⟩) hw hA (List.range 65) [] wX_all rfl (by decide) (fun i hi => by cases hi) (fun u H locs hok hw => ?_)
  obtain ⟨I1, J1, B1, D1⟩ := u
  dsimp only at hok
  have hw : zW G A s.heap (wX ad K sv I1 J1 B1 D1) H locs := hw
  refine lv_iload_n hx hb zd_Situation_perform_173 rfl (lv_at hl 2 rfl) ?_
  refine lv_iconst (v := (-1)) hx hb zd_Situation_perform_174 (by decide) ?_
  refine lv_icmp_eq (tgt := 183) hx hb zd_Situation_perform_175 (by decide) (fun hc2 => ?_) (fun hc2 => ?_)
  · have hok := hok.1 hc2
    exact wJ_Situation_perform_183 G K ad sv a0 a1 Post C I1 J1 B1 D1 ls H locs hok (lv_sub hl [] rfl) hw
  · have hok := hok.2 hc2
    refine lv_aload_n hx hb zd_Situation_perform_178 rfl (lv_at hl 0 rfl) ?_
    refine lv_iload_n hx hb zd_Situation_perform_179 rfl (lv_at hl 2 rfl) ?_
    refine z_callv (w1 := fun (u : zS) => wX ad K sv u.1 u.2.1 u.2.2.1 u.2.2.2) (wr := []) (z_runV (q0 := 7) (wc := (wX ad K sv I1 J1 B1 D1)) (As := [.int x2]) (rest := []) ⟨hx, hb, hml, hown, hts⟩ (w_Situation_passOn l G K ad sv I1 J1 B1 D1 x2 _ H.size hok) zf_Situation_passOn zn_409 ⟨Nat.le_of_ble_eq_true rfl, Nat.le_of_ble_eq_true rfl⟩ hK hw (List.range 65) wX_all wX_nd wX_g7 rfl rfl hl.1 rfl (Nat.le_of_ble_eq_true rfl) zd_Situation_perform_180 ⟨Nat.le_of_ble_eq_true rfl, Nat.le_of_ble_eq_true rfl⟩) hw hA (List.range 65) [] wX_all rfl (by decide) (fun i hi => by cases hi) (fun u H locs hok hw => ?_)
    obtain ⟨I3, J3, B3, D3⟩ := u
    dsimp only at hok
    have hw : zW G A s.heap (wX ad K sv I3 J3 B3 D3) H locs := hw
    exact wJ_Situation_perform_183 G K ad sv a0 a1 Post C I3 J3 B3 D3 ls H locs hok (lv_sub hl [] rfl) hw
set_option maxHeartbeats 8000000 in
set_option maxRecDepth 100000 in
theorem wJ_Situation_perform_31 {p : Program} {l : Launch} {e : Env} {s : State} {m : MethodId} {below : List Frame} {meth : Method} {c : Code} {A : Nat → Prop} (G : va_G) (K : Nat → ClassId) (ad : Nat → Nat) (sv : Value) (a0 : Int32) (a1 : Int32) (Post : (Nat → Int32) → (Nat → Int64) → (Nat → Nat → Int32) → (Nat → Nat → Int64) → Prop) (C : zCx p s m ([.ref (ad 7), .int a0, .int a1] : List Value).toArray meth c A G K prog_8_method_11_code none 5 "LassoFinder$Situation") : ∀ (x1 : Int32) (x2 : Int32) (y0 : Int32) (I : Nat → Int32) (J : Nat → Int64) (B : Nat → Nat → Int32) (D : Nat → Nat → Int64) (ls : Array Slot) (H : Heap) (locs : List Loc), wc_Situation_perform_31 a0 a1 Post x1 x2 y0 I J B D → lv_has ls 5 [(0, .ref (ad 7)), (1, .int x1), (2, .int x2)] → zW G A s.heap (wX ad K sv I J B D) H locs → W p l e { frames := 2, cells := 0, slots := 0, locals := 47 } s m ([.ref (ad 7), .int a0, .int a1] : List Value).toArray below meth c H locs 0 0 (MQ below (va_Qv (fun u : zS => Post u.1 u.2.1 u.2.2.1 u.2.2.2) (fun u t => zPost G K A (wX ad K sv u.1 u.2.1 u.2.2.1 u.2.2.2) t) A) ([.ref (ad 7), .int a0, .int a1] : List Value).toArray s 0 0 A) (F0 m 31 ls [.int y0]) := by
  obtain ⟨hx, hb, hr, hml, hts, hown, hlocks, hA, hK⟩ := id C
  intro x1 x2 y0 I J B D ls H locs hok hl hw
  unfold wc_Situation_perform_31 at hok
  refine lv_istore hx hb zd_Situation_perform_31 hl (by decide) rfl (fun ls hl => ?_)
  have hl : lv_has ls 5 [(4, .int y0), (0, .ref (ad 7)), (1, .int x1), (2, .int x2)] := hl
  refine lv_aload_n hx hb zd_Situation_perform_33 rfl (lv_at hl 1 rfl) ?_
  refine z_get (v := .ref (ad 3)) hx hb hts hown hK hw zZ7 7 wX_g7 2 (by decide) zn_463 rfl zd_Situation_perform_34 ?_
  refine z_get (v := .ref (ad 18)) hx hb hts hown hK hw zZ6 3 wX_g3 0 (by decide) zn_465 rfl zd_Situation_perform_37 ?_
  refine lv_iload_n hx hb zd_Situation_perform_40 rfl (lv_at hl 2 rfl) ?_
  refine va_iald (f := (B 6)) hx hb hK hw.1 18 0 wX_a18 rfl hok.1 zd_Situation_perform_41 ?_
  have hok := hok.2
  refine lv_topi (fun z4 ez4 => ?_)
  have hok := hok z4 ez4
  by_cases hs5 : z4 = 0
  · have hok := hok.1 hs5
    refine lv_tableIn (off := 30) (tgt := 72) hx hb zd_Situation_perform_42 (by rw [hs5]; decide) (by rw [hs5]; decide) (by rw [hs5]; decide) (by decide) ?_
    refine lv_aload_n hx hb zd_Situation_perform_72 rfl (lv_at hl 1 rfl) ?_
    refine z_get (v := .ref (ad 43)) hx hb hts hown hK hw zZ7 7 wX_g7 3 (by decide) zn_266 rfl zd_Situation_perform_73 ?_
    refine lv_aload_n hx hb zd_Situation_perform_76 rfl (lv_at hl 1 rfl) ?_
    refine z_get (v := .ref (ad 3)) hx hb hts hown hK hw zZ7 7 wX_g7 2 (by decide) zn_463 rfl zd_Situation_perform_77 ?_
    refine z_get (v := .ref (ad 20)) hx hb hts hown hK hw zZ6 3 wX_g3 2 (by decide) zn_466 rfl zd_Situation_perform_80 ?_
    refine lv_iload_n hx hb zd_Situation_perform_83 rfl (lv_at hl 2 rfl) ?_
    refine va_iald (f := (B 8)) hx hb hK hw.1 20 0 wX_a20 rfl hok.1 zd_Situation_perform_84 ?_
    have hok := hok.2
    refine lv_topi (fun z6 ez6 => ?_)
    have hok := hok z6 ez6
    refine lv_iload hx hb zd_Situation_perform_85 (lv_at hl 0 rfl) ?_
    refine va_iast (f := (B 29)) hx hb hK hw.1 hw.2.1 hw.2.2 43 0 wX_a43 rfl hok.1 zd_Situation_perform_87 (fun H locs w91 w92 w93 => ?_)
    have hok := hok.2
    have hw := wX_t43 ⟨w91, w92, w93⟩
    refine lv_goto (tgt := 163) hx hb zd_Situation_perform_88 (by decide) ?_
    exact wJ_Situation_perform_163 G K ad sv a0 a1 Post C x1 x2 I J (va_up B 29 (upd (B 29) z6.toNatClampNeg y0)) D ls H locs hok (lv_sub hl [1, 2, 3] rfl) hw
  by_cases hs7 : z4 = 1
  · have hok := hok.2.1 hs7
    refine lv_tableIn (off := 121) (tgt := 163) hx hb zd_Situation_perform_42 (by rw [hs7]; decide) (by rw [hs7]; decide) (by rw [hs7]; decide) (by decide) ?_
    exact wJ_Situation_perform_163 G K ad sv a0 a1 Post C x1 x2 I J B D ls H locs hok (lv_sub hl [1, 2, 3] rfl) hw
  by_cases hs8 : z4 = 2
  · have hok := hok.2.2.1 hs8
    refine lv_tableIn (off := 49) (tgt := 91) hx hb zd_Situation_perform_42 (by rw [hs8]; decide) (by rw [hs8]; decide) (by rw [hs8]; decide) (by decide) ?_
    refine lv_iload_n hx hb zd_Situation_perform_91 rfl (lv_at hl 3 rfl) ?_
    refine lv_iconst (v := (-1)) hx hb zd_Situation_perform_92 (by decide) ?_
    refine lv_icmp_ne (tgt := 114) hx hb zd_Situation_perform_93 (by decide) (fun hc9 => ?_) (fun hc9 => ?_)
    · have hok := hok.1 hc9
      refine lv_aload_n hx hb zd_Situation_perform_114 rfl (lv_at hl 1 rfl) ?_
      refine z_get (v := .ref (ad 43)) hx hb hts hown hK hw zZ7 7 wX_g7 3 (by decide) zn_266 rfl zd_Situation_perform_115 ?_
      refine lv_aload_n hx hb zd_Situation_perform_118 rfl (lv_at hl 1 rfl) ?_
      refine z_get (v := .ref (ad 3)) hx hb hts hown hK hw zZ7 7 wX_g7 2 (by decide) zn_463 rfl zd_Situation_perform_119 ?_
      refine z_get (v := .ref (ad 20)) hx hb hts hown hK hw zZ6 3 wX_g3 2 (by decide) zn_466 rfl zd_Situation_perform_122 ?_
      refine lv_iload_n hx hb zd_Situation_perform_125 rfl (lv_at hl 3 rfl) ?_
      refine va_iald (f := (B 8)) hx hb hK hw.1 20 0 wX_a20 rfl hok.1 zd_Situation_perform_126 ?_
      have hok := hok.2
      refine lv_topi (fun z10 ez10 => ?_)
      have hok := hok z10 ez10
      refine lv_iload hx hb zd_Situation_perform_127 (lv_at hl 0 rfl) ?_
      refine va_iast (f := (B 29)) hx hb hK hw.1 hw.2.1 hw.2.2 43 0 wX_a43 rfl hok.1 zd_Situation_perform_129 (fun H locs w91 w92 w93 => ?_)
      have hok := hok.2
      have hw := wX_t43 ⟨w91, w92, w93⟩
      refine lv_goto (tgt := 163) hx hb zd_Situation_perform_130 (by decide) ?_
      exact wJ_Situation_perform_163 G K ad sv a0 a1 Post C x1 x2 I J (va_up B 29 (upd (B 29) z10.toNatClampNeg y0)) D ls H locs hok (lv_sub hl [1, 2, 3] rfl) hw
    · have hok := hok.2 hc9
      refine lv_aload_n hx hb zd_Situation_perform_96 rfl (lv_at hl 1 rfl) ?_
      refine lv_aload_n hx hb zd_Situation_perform_97 rfl (lv_at hl 1 rfl) ?_
      refine z_get (v := .ref (ad 3)) hx hb hts hown hK hw zZ7 7 wX_g7 2 (by decide) zn_463 rfl zd_Situation_perform_98 ?_
      refine z_get (v := .ref (ad 19)) hx hb hts hown hK hw zZ6 3 wX_g3 1 (by decide) zn_467 rfl zd_Situation_perform_101 ?_
      refine lv_iload_n hx hb zd_Situation_perform_104 rfl (lv_at hl 2 rfl) ?_
      refine va_iald (f := (B 7)) hx hb hK hw.1 19 0 wX_a19 rfl hok.1 zd_Situation_perform_105 ?_
      have hok := hok.2
      refine lv_topi (fun z11 ez11 => ?_)
      have hok := hok z11 ez11
      refine lv_iload hx hb zd_Situation_perform_106 (lv_at hl 0 rfl) ?_
      refine z_callv (w1 := fun (u : zS) => wX ad K sv u.1 u.2.1 u.2.2.1 u.2.2.2) (wr := []) (z_runV (q0 := 7) (wc := (wX ad K sv I J B D)) (As := [.int z11, .int y0]) (rest := []) ⟨hx, hb, hml, hown, hts⟩ (w_Situation_put l G K ad sv I J B D z11 y0 _ H.size hok) zf_Situation_put zn_407 ⟨Nat.le_of_ble_eq_true rfl, Nat.le_of_ble_eq_true rfl⟩ hK hw (List.range 65) wX_all wX_nd wX_g7 rfl rfl hl.1 rfl (Nat.le_of_ble_eq_true rfl) zd_Situation_perform_108 ⟨Nat.le_of_ble_eq_true rfl, Nat.le_of_ble_eq_true rfl⟩) hw hA (List.range 65) [] wX_all rfl (by decide) (fun i hi => by cases hi) (fun u H locs hok hw => ?_)
      obtain ⟨I12, J12, B12, D12⟩ := u
      dsimp only at hok
      have hw : zW G A s.heap (wX ad K sv I12 J12 B12 D12) H locs := hw
      refine lv_goto (tgt := 163) hx hb zd_Situation_perform_111 (by decide) ?_
      exact wJ_Situation_perform_163 G K ad sv a0 a1 Post C x1 x2 I12 J12 B12 D12 ls H locs hok (lv_sub hl [1, 2, 3] rfl) hw
  by_cases hs13 : z4 = 3
  · have hok := hok.2.2.2.1 hs13
    refine lv_tableIn (off := 91) (tgt := 133) hx hb zd_Situation_perform_42 (by rw [hs13]; decide) (by rw [hs13]; decide) (by rw [hs13]; decide) (by decide) ?_
    refine lv_aload_n hx hb zd_Situation_perform_133 rfl (lv_at hl 1 rfl) ?_
    refine z_get (v := .ref (ad 43)) hx hb hts hown hK hw zZ7 7 wX_g7 3 (by decide) zn_266 rfl zd_Situation_perform_134 ?_
    refine lv_aload_n hx hb zd_Situation_perform_137 rfl (lv_at hl 1 rfl) ?_
    refine z_get (v := .ref (ad 3)) hx hb hts hown hK hw zZ7 7 wX_g7 2 (by decide) zn_463 rfl zd_Situation_perform_138 ?_
    refine z_get (v := .ref (ad 20)) hx hb hts hown hK hw zZ6 3 wX_g3 2 (by decide) zn_466 rfl zd_Situation_perform_141 ?_
    refine lv_iload_n hx hb zd_Situation_perform_144 rfl (lv_at hl 2 rfl) ?_
    refine va_iald (f := (B 8)) hx hb hK hw.1 20 0 wX_a20 rfl hok.1 zd_Situation_perform_145 ?_
    have hok := hok.2
    refine lv_topi (fun z14 ez14 => ?_)
    have hok := hok z14 ez14
    refine lv_aload_n hx hb zd_Situation_perform_146 rfl (lv_at hl 1 rfl) ?_
    refine lv_aload_n hx hb zd_Situation_perform_147 rfl (lv_at hl 1 rfl) ?_
    refine z_get (v := .ref (ad 3)) hx hb hts hown hK hw zZ7 7 wX_g7 2 (by decide) zn_463 rfl zd_Situation_perform_148 ?_
    refine z_get (v := .ref (ad 19)) hx hb hts hown hK hw zZ6 3 wX_g3 1 (by decide) zn_467 rfl zd_Situation_perform_151 ?_
    refine lv_iload_n hx hb zd_Situation_perform_154 rfl (lv_at hl 2 rfl) ?_
    refine va_iald (f := (B 7)) hx hb hK hw.1 19 0 wX_a19 rfl hok.1 zd_Situation_perform_155 ?_
    have hok := hok.2
    refine lv_topi (fun z15 ez15 => ?_)
    have hok := hok z15 ez15
    refine z_calli (w1 := fun (u : zS) => wX ad K sv u.1 u.2.1 u.2.2.1 u.2.2.2) (wr := []) (z_runV (q0 := 7) (wc := (wX ad K sv I J B D)) (As := [.int z15]) (rest := [.int z14, .ref (ad 43)]) ⟨hx, hb, hml, hown, hts⟩ (w_Situation_taken l G K ad sv I J B D z15 _ H.size hok) zf_Situation_taken zn_408 ⟨Nat.le_of_ble_eq_true rfl, Nat.le_of_ble_eq_true rfl⟩ hK hw (List.range 65) wX_all wX_nd wX_g7 rfl rfl hl.1 rfl (Nat.le_of_ble_eq_true rfl) zd_Situation_perform_156 ⟨Nat.le_of_ble_eq_true rfl, Nat.le_of_ble_eq_true rfl⟩) hw hA (List.range 65) [] wX_all rfl (by decide) (fun i hi => by cases hi) (fun r16 u H locs hok hw => ?_)
    obtain ⟨I16, J16, B16, D16⟩ := u
    dsimp only at hok
    have hw : zW G A s.heap (wX ad K sv I16 J16 B16 D16) H locs := hw
    refine va_iast (f := (B16 29)) hx hb hK hw.1 hw.2.1 hw.2.2 43 0 wX_a43 rfl hok.1 zd_Situation_perform_159 (fun H locs w91 w92 w93 => ?_)
    have hok := hok.2
    have hw := wX_t43 ⟨w91, w92, w93⟩
    refine lv_goto (tgt := 163) hx hb zd_Situation_perform_160 (by decide) ?_
    exact wJ_Situation_perform_163 G K ad sv a0 a1 Post C x1 x2 I16 J16 (va_up B16 29 (upd (B16 29) z14.toNatClampNeg r16)) D16 ls H locs hok (lv_sub hl [1, 2, 3] rfl) hw
  have hok := hok.2.2.2.2 hs5 hs7 hs8 hs13
  refine lv_tableOut (tgt := 163) hx hb zd_Situation_perform_42 (by have h0 := lv_neT hs5 (a := 0) (by decide); have h1 := lv_neT hs7 (a := 1) (by decide); have h2 := lv_neT hs8 (a := 2) (by decide); have h3 := lv_neT hs13 (a := 3) (by decide); omega) (by decide) ?_
  exact wJ_Situation_perform_163 G K ad sv a0 a1 Post C x1 x2 I J B D ls H locs hok (lv_sub hl [1, 2, 3] rfl) hw
set_option maxHeartbeats 8000000 in
set_option maxRecDepth 100000 in
theorem w_Situation_perform (l : Launch) (G : va_G) (K : Nat → ClassId) (ad : Nat → Nat) (sv : Value) (I : Nat → Int32) (J : Nat → Int64) (B : Nat → Nat → Int32) (D : Nat → Nat → Int64) (a0 : Int32) (a1 : Int32) (Post : (Nat → Int32) → (Nat → Int64) → (Nat → Nat → Int32) → (Nat → Nat → Int64) → Prop) (sz : Nat) (hok : wp_Situation_perform I J B D a0 a1 Post) : Met l zy_Situation_perform (Cond.code zy_Situation_perform prog_8_method_11_code 5 none :: zTB) { frames := 2, cells := 0, slots := 0, locals := 47 } (va_Pc [.ref (ad 7), .int a0, .int a1] (zPre G K (wX ad K sv I J B D) sz)) (va_Qv (fun u : zS => Post u.1 u.2.1 u.2.2.1 u.2.2.2) (fun u t => zPost G K (va_A (wX ad K sv I J B D) sz) (wX ad K sv u.1 u.2.1 u.2.2.1 u.2.2.2) t) (va_A (wX ad K sv I J B D) sz)) 0 0 (va_A (wX ad K sv I J B D) sz) := by
  refine zMet (y := zy_Situation_perform) (av := [.ref (ad 7), .int a0, .int a1]) (maxL := 5) (cc := prog_8_method_11_code) (ret := none) (W0 := (wX ad K sv I J B D)) (sz := sz) (G := G) (K := K) (wt := zTB) (mc := 0) (ms := 0) (Qf := fun A => va_Qv (fun u : zS => Post u.1 u.2.1 u.2.2.1 u.2.2.2) (fun u t => zPost G K A (wX ad K sv u.1 u.2.1 u.2.2.1 u.2.2.2) t) A) (by decide) (Nat.le_of_ble_eq_true rfl) ?_
  intro p e s m below meth c ls A hx hb hr hml hts hown hlocks hin hA hK H locs hw hsz hl
  clear hsz
  have hown : s.vm.findClass "LassoFinder$Situation" = some m.cls := hown
  have C : zCx p s m ([.ref (ad 7), .int a0, .int a1] : List Value).toArray meth c A G K prog_8_method_11_code none 5 "LassoFinder$Situation" := ⟨hx, hb, hr, hml, hts, hown, hlocks, hA, hK⟩
  have hl : lv_has ls 5 [(0, .ref (ad 7)), (1, .int a0), (2, .int a1)] := hl
  have hw : zW G A s.heap (wX ad K sv I J B D) H locs := hw
  unfold wp_Situation_perform at hok
  refine lv_aload_n hx hb zd_Situation_perform_0 rfl (lv_at hl 0 rfl) ?_
  refine z_get (v := .ref (ad 3)) hx hb hts hown hK hw zZ7 7 wX_g7 2 (by decide) zn_463 rfl zd_Situation_perform_1 ?_
  refine z_get (v := .ref (ad 21)) hx hb hts hown hK hw zZ6 3 wX_g3 3 (by decide) zn_464 rfl zd_Situation_perform_4 ?_
  refine lv_iload_n hx hb zd_Situation_perform_7 rfl (lv_at hl 1 rfl) ?_
  refine va_iald (f := (B 9)) hx hb hK hw.1 21 0 wX_a21 rfl hok.1 zd_Situation_perform_8 ?_
  have hok := hok.2
  refine lv_topi (fun z17 ez17 => ?_)
  have hok := hok z17 ez17
  refine lv_istore_n hx hb zd_Situation_perform_9 rfl hl (by decide) rfl (fun ls hl => ?_)
  have hl : lv_has ls 5 [(3, .int z17), (0, .ref (ad 7)), (1, .int a0), (2, .int a1)] := hl
  refine lv_iload_n hx hb zd_Situation_perform_10 rfl (lv_at hl 0 rfl) ?_
  refine lv_iconst (v := (-1)) hx hb zd_Situation_perform_11 (by decide) ?_
  refine lv_icmp_ne (tgt := 19) hx hb zd_Situation_perform_12 (by decide) (fun hc18 => ?_) (fun hc18 => ?_)
  · have hok := hok.1 hc18
    refine lv_aload_n hx hb zd_Situation_perform_19 rfl (lv_at hl 1 rfl) ?_
    refine z_get (v := .ref (ad 4)) hx hb hts hown hK hw zZ7 7 wX_g7 1 (by decide) zn_468 rfl zd_Situation_perform_20 ?_
    refine lv_iload_n hx hb zd_Situation_perform_23 rfl (lv_at hl 0 rfl) ?_
    refine lv_aload_n hx hb zd_Situation_perform_24 rfl (lv_at hl 1 rfl) ?_
    refine z_get (v := .ref (ad 43)) hx hb hts hown hK hw zZ7 7 wX_g7 3 (by decide) zn_266 rfl zd_Situation_perform_25 ?_
    refine z_calli (w1 := fun (u : zS) => wX ad K sv u.1 u.2.1 u.2.2.1 u.2.2.2) (wr := []) (z_runV (q0 := 4) (wc := (wX ad K sv I J B D)) (As := [.int z17, .ref (ad 43)]) (rest := []) ⟨hx, hb, hml, hown, hts⟩ (w_Terms_reckon_ad43_A l G K ad sv I J B D z17 _ H.size hok) zf_Terms_reckon zn_399 ⟨Nat.le_of_ble_eq_true rfl, Nat.le_of_ble_eq_true rfl⟩ hK hw (List.range 65) wX_all wX_nd wX_g4 rfl rfl hl.1 rfl (Nat.le_of_ble_eq_true rfl) zd_Situation_perform_28 ⟨Nat.le_of_ble_eq_true rfl, Nat.le_of_ble_eq_true rfl⟩) hw hA (List.range 65) [] wX_all rfl (by decide) (fun i hi => by cases hi) (fun r19 u H locs hok hw => ?_)
    obtain ⟨I19, J19, B19, D19⟩ := u
    dsimp only at hok
    have hw : zW G A s.heap (wX ad K sv I19 J19 B19 D19) H locs := hw
    exact wJ_Situation_perform_31 G K ad sv a0 a1 Post C a0 a1 r19 I19 J19 B19 D19 ls H locs hok (lv_sub hl [1, 2, 3] rfl) hw
  · have hok := hok.2 hc18
    refine lv_iconst (v := 0) hx hb zd_Situation_perform_15 (by decide) ?_
    refine lv_goto (tgt := 31) hx hb zd_Situation_perform_16 (by decide) ?_
    exact wJ_Situation_perform_31 G K ad sv a0 a1 Post C a0 a1 0 I J B D ls H locs hok (lv_sub hl [1, 2, 3] rfl) hw
def wb_Situation_packed_112 (K112 : Int64 → Int32 → Int32 → Int32 → (Nat → Int32) → (Nat → Int64) → (Nat → Nat → Int32) → (Nat → Nat → Int64) → Prop) (K74 : Int64 → Int32 → (Nat → Int32) → (Nat → Int64) → (Nat → Nat → Int32) → (Nat → Nat → Int64) → Prop) (Post : Int64 → (Nat → Int32) → (Nat → Int64) → (Nat → Nat → Int32) → (Nat → Nat → Int64) → Prop) (x1 : Int64) (x3 : Int32) (x4 : Int32) (x5 : Int32) (I : Nat → Int32) (J : Nat → Int64) (B : Nat → Nat → Int32) (D : Nat → Nat → Int64) : Prop :=
  (((3 : Int32) ≤ x5 → ∀ z2 : Int32, z2 = (x3 + 1) → K74 x1 z2 I J B D) ∧ (¬ (3 : Int32) ≤ x5 → ∀ z3 : Int64, z3 = (x1 <<< ((3 : Int32).toInt64 &&& 63)) → ∀ z4 : Int32, z4 = (x4 * 3) → ∀ z5 : Int32, z5 = (z4 + x5) → vp_in z5 24 ∧ ∀ z6 : Int32, z6 = ((B 30) z5.toNatClampNeg) → ∀ z7 : Int64, z7 = z6.toInt64 → ∀ z8 : Int64, z8 = (z3 ||| z7) → ∀ z9 : Int32, z9 = (x5 + 1) → K112 z8 x3 x4 z9 I J B D))
def wl_Situation_packed_112 (K74 : Int64 → Int32 → (Nat → Int32) → (Nat → Int64) → (Nat → Nat → Int32) → (Nat → Nat → Int64) → Prop) (Post : Int64 → (Nat → Int32) → (Nat → Int64) → (Nat → Nat → Int32) → (Nat → Nat → Int64) → Prop) (n : Nat) : Int64 → Int32 → Int32 → Int32 → (Nat → Int32) → (Nat → Int64) → (Nat → Nat → Int32) → (Nat → Nat → Int64) → Prop := Nat.rec (fun _ _ _ _ _ _ _ _ => False) (fun _ r => wb_Situation_packed_112  r K74 Post) n
def wb_Situation_packed_74 (K74 : Int64 → Int32 → (Nat → Int32) → (Nat → Int64) → (Nat → Nat → Int32) → (Nat → Nat → Int64) → Prop) (Post : Int64 → (Nat → Int32) → (Nat → Int64) → (Nat → Nat → Int32) → (Nat → Nat → Int64) → Prop) (x1 : Int64) (x3 : Int32) (I : Nat → Int32) (J : Nat → Int64) (B : Nat → Nat → Int32) (D : Nat → Nat → Int64) : Prop :=
  (((I 8) ≤ x3 → Post x1 I J B D) ∧ (¬ (I 8) ≤ x3 → vp_in x3 2 ∧ ∀ z11 : Int32, z11 = ((B 5) x3.toNatClampNeg) → ∀ z12 : Int64, z12 = (x1 <<< ((2 : Int32).toInt64 &&& 63)) → vp_in z11 8 ∧ ∀ z13 : Int32, z13 = ((B 29) z11.toNatClampNeg) → ∀ z14 : Int64, z14 = z13.toInt64 → ∀ z15 : Int64, z15 = (z12 ||| z14) → ∃ n : Nat, wl_Situation_packed_112  K74 Post n z15 x3 z11 0 I J B D))
def wl_Situation_packed_74 (Post : Int64 → (Nat → Int32) → (Nat → Int64) → (Nat → Nat → Int32) → (Nat → Nat → Int64) → Prop) (n : Nat) : Int64 → Int32 → (Nat → Int32) → (Nat → Int64) → (Nat → Nat → Int32) → (Nat → Nat → Int64) → Prop := Nat.rec (fun _ _ _ _ _ _ => False) (fun _ r => wb_Situation_packed_74  r Post) n
def wb_Situation_packed_35 (K35 : Int64 → Int32 → (Nat → Int32) → (Nat → Int64) → (Nat → Nat → Int32) → (Nat → Nat → Int64) → Prop) (Post : Int64 → (Nat → Int32) → (Nat → Int64) → (Nat → Nat → Int32) → (Nat → Nat → Int64) → Prop) (x1 : Int64) (x3 : Int32) (I : Nat → Int32) (J : Nat → Int64) (B : Nat → Nat → Int32) (D : Nat → Nat → Int64) : Prop :=
  (((I 7) ≤ x3 → ∃ n : Nat, wl_Situation_packed_74  Post n x1 0 I J B D) ∧ (¬ (I 7) ≤ x3 → ∀ z17 : Int64, z17 = (x1 <<< ((3 : Int32).toInt64 &&& 63)) → vp_in x3 6 ∧ ∀ z18 : Int32, z18 = ((B 4) x3.toNatClampNeg) → vp_in z18 8 ∧ ∀ z19 : Int32, z19 = ((B 29) z18.toNatClampNeg) → ∀ z20 : Int64, z20 = z19.toInt64 → ∀ z21 : Int64, z21 = (z17 ||| z20) → ∀ z22 : Int32, z22 = (x3 + 1) → K35 z21 z22 I J B D))
def wl_Situation_packed_35 (Post : Int64 → (Nat → Int32) → (Nat → Int64) → (Nat → Nat → Int32) → (Nat → Nat → Int64) → Prop) (n : Nat) : Int64 → Int32 → (Nat → Int32) → (Nat → Int64) → (Nat → Nat → Int32) → (Nat → Nat → Int64) → Prop := Nat.rec (fun _ _ _ _ _ _ => False) (fun _ r => wb_Situation_packed_35  r Post) n
def wb_Situation_packed_10 (K10 : Int64 → Int32 → (Nat → Int32) → (Nat → Int64) → (Nat → Nat → Int32) → (Nat → Nat → Int64) → Prop) (Post : Int64 → (Nat → Int32) → (Nat → Int64) → (Nat → Nat → Int32) → (Nat → Nat → Int64) → Prop) (x1 : Int64) (x3 : Int32) (I : Nat → Int32) (J : Nat → Int64) (B : Nat → Nat → Int32) (D : Nat → Nat → Int64) : Prop :=
  (((4 : Int32) ≤ x3 → ∃ n : Nat, wl_Situation_packed_35  Post n x1 0 I J B D) ∧ (¬ (4 : Int32) ≤ x3 → ∀ z24 : Int64, z24 = (x1 <<< ((5 : Int32).toInt64 &&& 63)) → vp_in x3 4 ∧ ∀ z25 : Int32, z25 = ((B 31) x3.toNatClampNeg) → ∀ z26 : Int64, z26 = z25.toInt64 → ∀ z27 : Int64, z27 = (z24 ||| z26) → ∀ z28 : Int32, z28 = (x3 + 1) → K10 z27 z28 I J B D))
def wl_Situation_packed_10 (Post : Int64 → (Nat → Int32) → (Nat → Int64) → (Nat → Nat → Int32) → (Nat → Nat → Int64) → Prop) (n : Nat) : Int64 → Int32 → (Nat → Int32) → (Nat → Int64) → (Nat → Nat → Int32) → (Nat → Nat → Int64) → Prop := Nat.rec (fun _ _ _ _ _ _ => False) (fun _ r => wb_Situation_packed_10  r Post) n
def wp_Situation_packed (I : Nat → Int32) (J : Nat → Int64) (B : Nat → Nat → Int32) (D : Nat → Nat → Int64) (Post : Int64 → (Nat → Int32) → (Nat → Int64) → (Nat → Nat → Int32) → (Nat → Nat → Int64) → Prop) : Prop :=
  ∀ z29 : Int32, z29 = ((I 18) + 1) → ∀ z30 : Int64, z30 = z29.toInt64 → ∃ n : Nat, wl_Situation_packed_10  Post n z30 0 I J B D
set_option maxHeartbeats 8000000 in
set_option maxRecDepth 100000 in
theorem wB_Situation_packed_112 {p : Program} {l : Launch} {e : Env} {s : State} {m : MethodId} {below : List Frame} {meth : Method} {c : Code} {A : Nat → Prop} (G : va_G) (K : Nat → ClassId) (ad : Nat → Nat) (sv : Value) (Post : Int64 → (Nat → Int32) → (Nat → Int64) → (Nat → Nat → Int32) → (Nat → Nat → Int64) → Prop) (C : zCx p s m ([.ref (ad 7)] : List Value).toArray meth c A G K prog_8_method_3_code (some .long) 6 "LassoFinder$Situation") (K74 : Int64 → Int32 → (Nat → Int32) → (Nat → Int64) → (Nat → Nat → Int32) → (Nat → Nat → Int64) → Prop) (kh74 : ∀ (x1 : Int64) (x3 : Int32) (I : Nat → Int32) (J : Nat → Int64) (B : Nat → Nat → Int32) (D : Nat → Nat → Int64) (ls : Array Slot) (H : Heap) (locs : List Loc), K74 x1 x3 I J B D → lv_has ls 6 [(0, .ref (ad 7)), (1, .long x1), (3, .int x3)] → zW G A s.heap (wX ad K sv I J B D) H locs → W p l e { frames := 0, cells := 0, slots := 0, locals := 0 } s m ([.ref (ad 7)] : List Value).toArray below meth c H locs 0 0 (MQ below (va_Ql (fun (r : Int64) (u : zS) => Post r u.1 u.2.1 u.2.2.1 u.2.2.2) (fun u t => zPost G K A (wX ad K sv u.1 u.2.1 u.2.2.1 u.2.2.2) t) A) ([.ref (ad 7)] : List Value).toArray s 0 0 A) (F0 m 74 ls [])) (K112 : Int64 → Int32 → Int32 → Int32 → (Nat → Int32) → (Nat → Int64) → (Nat → Nat → Int32) → (Nat → Nat → Int64) → Prop) (kh112 : ∀ (x1 : Int64) (x3 : Int32) (x4 : Int32) (x5 : Int32) (I : Nat → Int32) (J : Nat → Int64) (B : Nat → Nat → Int32) (D : Nat → Nat → Int64) (ls : Array Slot) (H : Heap) (locs : List Loc), K112 x1 x3 x4 x5 I J B D → lv_has ls 6 [(0, .ref (ad 7)), (1, .long x1), (3, .int x3), (4, .int x4), (5, .int x5)] → zW G A s.heap (wX ad K sv I J B D) H locs → W p l e { frames := 0, cells := 0, slots := 0, locals := 0 } s m ([.ref (ad 7)] : List Value).toArray below meth c H locs 0 0 (MQ below (va_Ql (fun (r : Int64) (u : zS) => Post r u.1 u.2.1 u.2.2.1 u.2.2.2) (fun u t => zPost G K A (wX ad K sv u.1 u.2.1 u.2.2.1 u.2.2.2) t) A) ([.ref (ad 7)] : List Value).toArray s 0 0 A) (F0 m 112 ls [])) : ∀ (x1 : Int64) (x3 : Int32) (x4 : Int32) (x5 : Int32) (I : Nat → Int32) (J : Nat → Int64) (B : Nat → Nat → Int32) (D : Nat → Nat → Int64) (ls : Array Slot) (H : Heap) (locs : List Loc), wb_Situation_packed_112  K112 K74 Post x1 x3 x4 x5 I J B D → lv_has ls 6 [(0, .ref (ad 7)), (1, .long x1), (3, .int x3), (4, .int x4), (5, .int x5)] → zW G A s.heap (wX ad K sv I J B D) H locs → W p l e { frames := 0, cells := 0, slots := 0, locals := 0 } s m ([.ref (ad 7)] : List Value).toArray below meth c H locs 0 0 (MQ below (va_Ql (fun (r : Int64) (u : zS) => Post r u.1 u.2.1 u.2.2.1 u.2.2.2) (fun u t => zPost G K A (wX ad K sv u.1 u.2.1 u.2.2.1 u.2.2.2) t) A) ([.ref (ad 7)] : List Value).toArray s 0 0 A) (F0 m 112 ls []) := by
  obtain ⟨hx, hb, hr, hml, hts, hown, hlocks, hA, hK⟩ := id C
  intro x1 x3 x4 x5 I J B D ls H locs hok hl hw
  unfold wb_Situation_packed_112 at hok
  refine lv_iload hx hb zd_Situation_packed_112 (lv_at hl 4 rfl) ?_
  refine lv_iconst (v := 3) hx hb zd_Situation_packed_114 (by decide) ?_
  refine lv_icmp_ge (tgt := 142) hx hb zd_Situation_packed_115 (by decide) (fun hc1 => ?_) (fun hc1 => ?_)
  · have hok := hok.1 hc1
    obtain ⟨z2, ez2⟩ : ∃ z : Int32, z = (x3 + 1) := ⟨_, rfl⟩
    have hok := hok z2 ez2
    refine lv_iinc (v := z2) hx hb zd_Situation_packed_142 hl (k := 2) rfl ez2.symm (by decide) rfl (fun ls hl => ?_)
    have hl : lv_has ls 6 [(3, .int z2), (0, .ref (ad 7)), (1, .long x1), (4, .int x4), (5, .int x5)] := hl
    refine lv_goto (tgt := 74) hx hb zd_Situation_packed_145 (by decide) ?_
    exact kh74 x1 z2 I J B D ls H locs hok (lv_sub hl [1, 2, 0] rfl) hw
  · have hok := hok.2 hc1
    refine lv_lload_n hx hb zd_Situation_packed_118 rfl (lv_at hl 1 rfl) ?_
    refine lv_iconst (v := 3) hx hb zd_Situation_packed_119 (by decide) ?_
    refine lv_lshl hx hb zd_Situation_packed_120 rfl ?_
    refine lv_topl (fun z3 ez3 => ?_)
    have hok := hok z3 ez3
    refine lv_aload_n hx hb zd_Situation_packed_121 rfl (lv_at hl 0 rfl) ?_
    refine z_get (v := .ref (ad 44)) hx hb hts hown hK hw zZ7 7 wX_g7 4 (by decide) zn_267 rfl zd_Situation_packed_122 ?_
    refine lv_iload hx hb zd_Situation_packed_125 (lv_at hl 3 rfl) ?_
    refine lv_iconst (v := 3) hx hb zd_Situation_packed_127 (by decide) ?_
    refine lv_imul hx hb zd_Situation_packed_128 ?_
    refine lv_topi (fun z4 ez4 => ?_)
    have hok := hok z4 ez4
    refine lv_iload hx hb zd_Situation_packed_129 (lv_at hl 4 rfl) ?_
    refine lv_iadd hx hb zd_Situation_packed_131 ?_
    refine lv_topi (fun z5 ez5 => ?_)
    have hok := hok z5 ez5
    refine va_iald (f := (B 30)) hx hb hK hw.1 44 0 wX_a44 rfl hok.1 zd_Situation_packed_132 ?_
    have hok := hok.2
    refine lv_topi (fun z6 ez6 => ?_)
    have hok := hok z6 ez6
    refine lv_i2l hx hb zd_Situation_packed_133 rfl ?_
    refine lv_topl (fun z7 ez7 => ?_)
    have hok := hok z7 ez7
    refine lv_lor hx hb zd_Situation_packed_134 ?_
    refine lv_topl (fun z8 ez8 => ?_)
    have hok := hok z8 ez8
    refine lv_lstore_n hx hb zd_Situation_packed_135 rfl hl (by decide) rfl (fun ls hl => ?_)
    have hl : lv_has ls 6 [(1, .long z8), (0, .ref (ad 7)), (3, .int x3), (4, .int x4), (5, .int x5)] := hl
    obtain ⟨z9, ez9⟩ : ∃ z : Int32, z = (x5 + 1) := ⟨_, rfl⟩
    have hok := hok z9 ez9
    refine lv_iinc (v := z9) hx hb zd_Situation_packed_136 hl (k := 4) rfl ez9.symm (by decide) rfl (fun ls hl => ?_)
    have hl : lv_has ls 6 [(5, .int z9), (1, .long z8), (0, .ref (ad 7)), (3, .int x3), (4, .int x4)] := hl
    refine lv_goto (tgt := 112) hx hb zd_Situation_packed_139 (by decide) ?_
    exact kh112 z8 x3 x4 z9 I J B D ls H locs hok (lv_sub hl [2, 1, 3, 4, 0] rfl) hw
theorem wL_Situation_packed_112 {p : Program} {l : Launch} {e : Env} {s : State} {m : MethodId} {below : List Frame} {meth : Method} {c : Code} {A : Nat → Prop} (G : va_G) (K : Nat → ClassId) (ad : Nat → Nat) (sv : Value) (Post : Int64 → (Nat → Int32) → (Nat → Int64) → (Nat → Nat → Int32) → (Nat → Nat → Int64) → Prop) (C : zCx p s m ([.ref (ad 7)] : List Value).toArray meth c A G K prog_8_method_3_code (some .long) 6 "LassoFinder$Situation") (K74 : Int64 → Int32 → (Nat → Int32) → (Nat → Int64) → (Nat → Nat → Int32) → (Nat → Nat → Int64) → Prop) (kh74 : ∀ (x1 : Int64) (x3 : Int32) (I : Nat → Int32) (J : Nat → Int64) (B : Nat → Nat → Int32) (D : Nat → Nat → Int64) (ls : Array Slot) (H : Heap) (locs : List Loc), K74 x1 x3 I J B D → lv_has ls 6 [(0, .ref (ad 7)), (1, .long x1), (3, .int x3)] → zW G A s.heap (wX ad K sv I J B D) H locs → W p l e { frames := 0, cells := 0, slots := 0, locals := 0 } s m ([.ref (ad 7)] : List Value).toArray below meth c H locs 0 0 (MQ below (va_Ql (fun (r : Int64) (u : zS) => Post r u.1 u.2.1 u.2.2.1 u.2.2.2) (fun u t => zPost G K A (wX ad K sv u.1 u.2.1 u.2.2.1 u.2.2.2) t) A) ([.ref (ad 7)] : List Value).toArray s 0 0 A) (F0 m 74 ls [])) : ∀ (n : Nat) (x1 : Int64) (x3 : Int32) (x4 : Int32) (x5 : Int32) (I : Nat → Int32) (J : Nat → Int64) (B : Nat → Nat → Int32) (D : Nat → Nat → Int64) (ls : Array Slot) (H : Heap) (locs : List Loc), wl_Situation_packed_112  K74 Post n x1 x3 x4 x5 I J B D → lv_has ls 6 [(0, .ref (ad 7)), (1, .long x1), (3, .int x3), (4, .int x4), (5, .int x5)] → zW G A s.heap (wX ad K sv I J B D) H locs → W p l e { frames := 0, cells := 0, slots := 0, locals := 0 } s m ([.ref (ad 7)] : List Value).toArray below meth c H locs 0 0 (MQ below (va_Ql (fun (r : Int64) (u : zS) => Post r u.1 u.2.1 u.2.2.1 u.2.2.2) (fun u t => zPost G K A (wX ad K sv u.1 u.2.1 u.2.2.1 u.2.2.2) t) A) ([.ref (ad 7)] : List Value).toArray s 0 0 A) (F0 m 112 ls []) := by
  intro n
  induction n with
  | zero => intro x1 x3 x4 x5 I J B D ls H locs hok; exact hok.elim
  | succ n ih => exact wB_Situation_packed_112 G K ad sv  Post C K74 kh74 (wl_Situation_packed_112  K74 Post n) ih
set_option maxHeartbeats 8000000 in
set_option maxRecDepth 100000 in
theorem wB_Situation_packed_74 {p : Program} {l : Launch} {e : Env} {s : State} {m : MethodId} {below : List Frame} {meth : Method} {c : Code} {A : Nat → Prop} (G : va_G) (K : Nat → ClassId) (ad : Nat → Nat) (sv : Value) (Post : Int64 → (Nat → Int32) → (Nat → Int64) → (Nat → Nat → Int32) → (Nat → Nat → Int64) → Prop) (C : zCx p s m ([.ref (ad 7)] : List Value).toArray meth c A G K prog_8_method_3_code (some .long) 6 "LassoFinder$Situation") (K74 : Int64 → Int32 → (Nat → Int32) → (Nat → Int64) → (Nat → Nat → Int32) → (Nat → Nat → Int64) → Prop) (kh74 : ∀ (x1 : Int64) (x3 : Int32) (I : Nat → Int32) (J : Nat → Int64) (B : Nat → Nat → Int32) (D : Nat → Nat → Int64) (ls : Array Slot) (H : Heap) (locs : List Loc), K74 x1 x3 I J B D → lv_has ls 6 [(0, .ref (ad 7)), (1, .long x1), (3, .int x3)] → zW G A s.heap (wX ad K sv I J B D) H locs → W p l e { frames := 0, cells := 0, slots := 0, locals := 0 } s m ([.ref (ad 7)] : List Value).toArray below meth c H locs 0 0 (MQ below (va_Ql (fun (r : Int64) (u : zS) => Post r u.1 u.2.1 u.2.2.1 u.2.2.2) (fun u t => zPost G K A (wX ad K sv u.1 u.2.1 u.2.2.1 u.2.2.2) t) A) ([.ref (ad 7)] : List Value).toArray s 0 0 A) (F0 m 74 ls [])) : ∀ (x1 : Int64) (x3 : Int32) (I : Nat → Int32) (J : Nat → Int64) (B : Nat → Nat → Int32) (D : Nat → Nat → Int64) (ls : Array Slot) (H : Heap) (locs : List Loc), wb_Situation_packed_74  K74 Post x1 x3 I J B D → lv_has ls 6 [(0, .ref (ad 7)), (1, .long x1), (3, .int x3)] → zW G A s.heap (wX ad K sv I J B D) H locs → W p l e { frames := 0, cells := 0, slots := 0, locals := 0 } s m ([.ref (ad 7)] : List Value).toArray below meth c H locs 0 0 (MQ below (va_Ql (fun (r : Int64) (u : zS) => Post r u.1 u.2.1 u.2.2.1 u.2.2.2) (fun u t => zPost G K A (wX ad K sv u.1 u.2.1 u.2.2.1 u.2.2.2) t) A) ([.ref (ad 7)] : List Value).toArray s 0 0 A) (F0 m 74 ls []) := by
  obtain ⟨hx, hb, hr, hml, hts, hown, hlocks, hA, hK⟩ := id C
  intro x1 x3 I J B D ls H locs hok hl hw
  unfold wb_Situation_packed_74 at hok
  refine lv_iload_n hx hb zd_Situation_packed_74 rfl (lv_at hl 2 rfl) ?_
  refine lv_aload_n hx hb zd_Situation_packed_75 rfl (lv_at hl 0 rfl) ?_
  refine z_get (v := .ref (ad 2)) hx hb hts hown hK hw zZ7 7 wX_g7 0 (by decide) zn_306 rfl zd_Situation_packed_76 ?_
  refine z_get (v := .int (I 8)) hx hb hts hown hK hw zZ5 2 wX_g2 5 (by decide) zn_307 rfl zd_Situation_packed_79 ?_
  refine lv_icmp_ge (tgt := 148) hx hb zd_Situation_packed_82 (by decide) (fun hc10 => ?_) (fun hc10 => ?_)
  · have hok := hok.1 hc10
    refine lv_lload_n hx hb zd_Situation_packed_148 rfl (lv_at hl 1 rfl) ?_
    exact (z_lret (u := (I, J, B, D)) hx hb hr hlocks hw (List.range 65) wX_all wX_nd hok (Nat.le_of_ble_eq_true rfl) (Nat.le_of_ble_eq_true rfl) zd_Situation_packed_149)
  · have hok := hok.2 hc10
    refine lv_aload_n hx hb zd_Situation_packed_85 rfl (lv_at hl 0 rfl) ?_
    refine z_get (v := .ref (ad 2)) hx hb hts hown hK hw zZ7 7 wX_g7 0 (by decide) zn_306 rfl zd_Situation_packed_86 ?_
    refine z_get (v := .ref (ad 17)) hx hb hts hown hK hw zZ5 2 wX_g2 3 (by decide) zn_308 rfl zd_Situation_packed_89 ?_
    refine lv_iload_n hx hb zd_Situation_packed_92 rfl (lv_at hl 2 rfl) ?_
    refine va_iald (f := (B 5)) hx hb hK hw.1 17 0 wX_a17 rfl hok.1 zd_Situation_packed_93 ?_
    have hok := hok.2
    refine lv_topi (fun z11 ez11 => ?_)
    have hok := hok z11 ez11
    refine lv_istore hx hb zd_Situation_packed_94 hl (by decide) rfl (fun ls hl => ?_)
    have hl : lv_has ls 6 [(4, .int z11), (0, .ref (ad 7)), (1, .long x1), (3, .int x3)] := hl
    refine lv_lload_n hx hb zd_Situation_packed_96 rfl (lv_at hl 2 rfl) ?_
    refine lv_iconst (v := 2) hx hb zd_Situation_packed_97 (by decide) ?_
    refine lv_lshl hx hb zd_Situation_packed_98 rfl ?_
    refine lv_topl (fun z12 ez12 => ?_)
    have hok := hok z12 ez12
    refine lv_aload_n hx hb zd_Situation_packed_99 rfl (lv_at hl 1 rfl) ?_
    refine z_get (v := .ref (ad 43)) hx hb hts hown hK hw zZ7 7 wX_g7 3 (by decide) zn_266 rfl zd_Situation_packed_100 ?_
    refine lv_iload hx hb zd_Situation_packed_103 (lv_at hl 0 rfl) ?_
    refine va_iald (f := (B 29)) hx hb hK hw.1 43 0 wX_a43 rfl hok.1 zd_Situation_packed_105 ?_
    have hok := hok.2
    refine lv_topi (fun z13 ez13 => ?_)
    have hok := hok z13 ez13
    refine lv_i2l hx hb zd_Situation_packed_106 rfl ?_
    refine lv_topl (fun z14 ez14 => ?_)
    have hok := hok z14 ez14
    refine lv_lor hx hb zd_Situation_packed_107 ?_
    refine lv_topl (fun z15 ez15 => ?_)
    have hok := hok z15 ez15
    refine lv_lstore_n hx hb zd_Situation_packed_108 rfl hl (by decide) rfl (fun ls hl => ?_)
    have hl : lv_has ls 6 [(1, .long z15), (4, .int z11), (0, .ref (ad 7)), (3, .int x3)] := hl
    refine lv_iconst (v := 0) hx hb zd_Situation_packed_109 (by decide) ?_
    refine lv_istore hx hb zd_Situation_packed_110 hl (by decide) rfl (fun ls hl => ?_)
    have hl : lv_has ls 6 [(5, .int 0), (1, .long z15), (4, .int z11), (0, .ref (ad 7)), (3, .int x3)] := hl
    obtain ⟨n9, hok⟩ := hok
    exact wL_Situation_packed_112 G K ad sv  Post C K74 kh74 n9 z15 x3 z11 0 I J B D ls H locs hok (lv_sub hl [3, 1, 4, 2, 0] rfl) hw
theorem wL_Situation_packed_74 {p : Program} {l : Launch} {e : Env} {s : State} {m : MethodId} {below : List Frame} {meth : Method} {c : Code} {A : Nat → Prop} (G : va_G) (K : Nat → ClassId) (ad : Nat → Nat) (sv : Value) (Post : Int64 → (Nat → Int32) → (Nat → Int64) → (Nat → Nat → Int32) → (Nat → Nat → Int64) → Prop) (C : zCx p s m ([.ref (ad 7)] : List Value).toArray meth c A G K prog_8_method_3_code (some .long) 6 "LassoFinder$Situation") : ∀ (n : Nat) (x1 : Int64) (x3 : Int32) (I : Nat → Int32) (J : Nat → Int64) (B : Nat → Nat → Int32) (D : Nat → Nat → Int64) (ls : Array Slot) (H : Heap) (locs : List Loc), wl_Situation_packed_74  Post n x1 x3 I J B D → lv_has ls 6 [(0, .ref (ad 7)), (1, .long x1), (3, .int x3)] → zW G A s.heap (wX ad K sv I J B D) H locs → W p l e { frames := 0, cells := 0, slots := 0, locals := 0 } s m ([.ref (ad 7)] : List Value).toArray below meth c H locs 0 0 (MQ below (va_Ql (fun (r : Int64) (u : zS) => Post r u.1 u.2.1 u.2.2.1 u.2.2.2) (fun u t => zPost G K A (wX ad K sv u.1 u.2.1 u.2.2.1 u.2.2.2) t) A) ([.ref (ad 7)] : List Value).toArray s 0 0 A) (F0 m 74 ls []) := by
  intro n
  induction n with
  | zero => intro x1 x3 I J B D ls H locs hok; exact hok.elim
  | succ n ih => exact wB_Situation_packed_74 G K ad sv  Post C (wl_Situation_packed_74  Post n) ih
set_option maxHeartbeats 8000000 in
set_option maxRecDepth 100000 in
theorem wB_Situation_packed_35 {p : Program} {l : Launch} {e : Env} {s : State} {m : MethodId} {below : List Frame} {meth : Method} {c : Code} {A : Nat → Prop} (G : va_G) (K : Nat → ClassId) (ad : Nat → Nat) (sv : Value) (Post : Int64 → (Nat → Int32) → (Nat → Int64) → (Nat → Nat → Int32) → (Nat → Nat → Int64) → Prop) (C : zCx p s m ([.ref (ad 7)] : List Value).toArray meth c A G K prog_8_method_3_code (some .long) 6 "LassoFinder$Situation") (K35 : Int64 → Int32 → (Nat → Int32) → (Nat → Int64) → (Nat → Nat → Int32) → (Nat → Nat → Int64) → Prop) (kh35 : ∀ (x1 : Int64) (x3 : Int32) (I : Nat → Int32) (J : Nat → Int64) (B : Nat → Nat → Int32) (D : Nat → Nat → Int64) (ls : Array Slot) (H : Heap) (locs : List Loc), K35 x1 x3 I J B D → lv_has ls 6 [(0, .ref (ad 7)), (1, .long x1), (3, .int x3)] → zW G A s.heap (wX ad K sv I J B D) H locs → W p l e { frames := 0, cells := 0, slots := 0, locals := 0 } s m ([.ref (ad 7)] : List Value).toArray below meth c H locs 0 0 (MQ below (va_Ql (fun (r : Int64) (u : zS) => Post r u.1 u.2.1 u.2.2.1 u.2.2.2) (fun u t => zPost G K A (wX ad K sv u.1 u.2.1 u.2.2.1 u.2.2.2) t) A) ([.ref (ad 7)] : List Value).toArray s 0 0 A) (F0 m 35 ls [])) : ∀ (x1 : Int64) (x3 : Int32) (I : Nat → Int32) (J : Nat → Int64) (B : Nat → Nat → Int32) (D : Nat → Nat → Int64) (ls : Array Slot) (H : Heap) (locs : List Loc), wb_Situation_packed_35  K35 Post x1 x3 I J B D → lv_has ls 6 [(0, .ref (ad 7)), (1, .long x1), (3, .int x3)] → zW G A s.heap (wX ad K sv I J B D) H locs → W p l e { frames := 0, cells := 0, slots := 0, locals := 0 } s m ([.ref (ad 7)] : List Value).toArray below meth c H locs 0 0 (MQ below (va_Ql (fun (r : Int64) (u : zS) => Post r u.1 u.2.1 u.2.2.1 u.2.2.2) (fun u t => zPost G K A (wX ad K sv u.1 u.2.1 u.2.2.1 u.2.2.2) t) A) ([.ref (ad 7)] : List Value).toArray s 0 0 A) (F0 m 35 ls []) := by
  obtain ⟨hx, hb, hr, hml, hts, hown, hlocks, hA, hK⟩ := id C
  intro x1 x3 I J B D ls H locs hok hl hw
  unfold wb_Situation_packed_35 at hok
  refine lv_iload_n hx hb zd_Situation_packed_35 rfl (lv_at hl 2 rfl) ?_
  refine lv_aload_n hx hb zd_Situation_packed_36 rfl (lv_at hl 0 rfl) ?_
  refine z_get (v := .ref (ad 2)) hx hb hts hown hK hw zZ7 7 wX_g7 0 (by decide) zn_306 rfl zd_Situation_packed_37 ?_
  refine z_get (v := .int (I 7)) hx hb hts hown hK hw zZ5 2 wX_g2 4 (by decide) zn_309 rfl zd_Situation_packed_40 ?_
  refine lv_icmp_ge (tgt := 72) hx hb zd_Situation_packed_43 (by decide) (fun hc16 => ?_) (fun hc16 => ?_)
  · have hok := hok.1 hc16
    refine lv_iconst (v := 0) hx hb zd_Situation_packed_72 (by decide) ?_
    refine lv_istore_n hx hb zd_Situation_packed_73 rfl hl (by decide) rfl (fun ls hl => ?_)
    have hl : lv_has ls 6 [(3, .int 0), (0, .ref (ad 7)), (1, .long x1)] := hl
    obtain ⟨n9, hok⟩ := hok
    exact wL_Situation_packed_74 G K ad sv  Post C n9 x1 0 I J B D ls H locs hok (lv_sub hl [1, 2, 0] rfl) hw
  · have hok := hok.2 hc16
    refine lv_lload_n hx hb zd_Situation_packed_46 rfl (lv_at hl 1 rfl) ?_
    refine lv_iconst (v := 3) hx hb zd_Situation_packed_47 (by decide) ?_
    refine lv_lshl hx hb zd_Situation_packed_48 rfl ?_
    refine lv_topl (fun z17 ez17 => ?_)
    have hok := hok z17 ez17
    refine lv_aload_n hx hb zd_Situation_packed_49 rfl (lv_at hl 0 rfl) ?_
    refine z_get (v := .ref (ad 43)) hx hb hts hown hK hw zZ7 7 wX_g7 3 (by decide) zn_266 rfl zd_Situation_packed_50 ?_
    refine lv_aload_n hx hb zd_Situation_packed_53 rfl (lv_at hl 0 rfl) ?_
    refine z_get (v := .ref (ad 2)) hx hb hts hown hK hw zZ7 7 wX_g7 0 (by decide) zn_306 rfl zd_Situation_packed_54 ?_
    refine z_get (v := .ref (ad 16)) hx hb hts hown hK hw zZ5 2 wX_g2 2 (by decide) zn_310 rfl zd_Situation_packed_57 ?_
    refine lv_iload_n hx hb zd_Situation_packed_60 rfl (lv_at hl 2 rfl) ?_
    refine va_iald (f := (B 4)) hx hb hK hw.1 16 0 wX_a16 rfl hok.1 zd_Situation_packed_61 ?_
    have hok := hok.2
    refine lv_topi (fun z18 ez18 => ?_)
    have hok := hok z18 ez18
    refine va_iald (f := (B 29)) hx hb hK hw.1 43 0 wX_a43 rfl hok.1 zd_Situation_packed_62 ?_
    have hok := hok.2
    refine lv_topi (fun z19 ez19 => ?_)
    have hok := hok z19 ez19
    refine lv_i2l hx hb zd_Situation_packed_63 rfl ?_
    refine lv_topl (fun z20 ez20 => ?_)
    have hok := hok z20 ez20
    refine lv_lor hx hb zd_Situation_packed_64 ?_
    refine lv_topl (fun z21 ez21 => ?_)
    have hok := hok z21 ez21
    refine lv_lstore_n hx hb zd_Situation_packed_65 rfl hl (by decide) rfl (fun ls hl => ?_)
    have hl : lv_has ls 6 [(1, .long z21), (0, .ref (ad 7)), (3, .int x3)] := hl
    obtain ⟨z22, ez22⟩ : ∃ z : Int32, z = (x3 + 1) := ⟨_, rfl⟩
    have hok := hok z22 ez22
    refine lv_iinc (v := z22) hx hb zd_Situation_packed_66 hl (k := 2) rfl ez22.symm (by decide) rfl (fun ls hl => ?_)
    have hl : lv_has ls 6 [(3, .int z22), (1, .long z21), (0, .ref (ad 7))] := hl
    refine lv_goto (tgt := 35) hx hb zd_Situation_packed_69 (by decide) ?_
    exact kh35 z21 z22 I J B D ls H locs hok (lv_sub hl [2, 1, 0] rfl) hw
theorem wL_Situation_packed_35 {p : Program} {l : Launch} {e : Env} {s : State} {m : MethodId} {below : List Frame} {meth : Method} {c : Code} {A : Nat → Prop} (G : va_G) (K : Nat → ClassId) (ad : Nat → Nat) (sv : Value) (Post : Int64 → (Nat → Int32) → (Nat → Int64) → (Nat → Nat → Int32) → (Nat → Nat → Int64) → Prop) (C : zCx p s m ([.ref (ad 7)] : List Value).toArray meth c A G K prog_8_method_3_code (some .long) 6 "LassoFinder$Situation") : ∀ (n : Nat) (x1 : Int64) (x3 : Int32) (I : Nat → Int32) (J : Nat → Int64) (B : Nat → Nat → Int32) (D : Nat → Nat → Int64) (ls : Array Slot) (H : Heap) (locs : List Loc), wl_Situation_packed_35  Post n x1 x3 I J B D → lv_has ls 6 [(0, .ref (ad 7)), (1, .long x1), (3, .int x3)] → zW G A s.heap (wX ad K sv I J B D) H locs → W p l e { frames := 0, cells := 0, slots := 0, locals := 0 } s m ([.ref (ad 7)] : List Value).toArray below meth c H locs 0 0 (MQ below (va_Ql (fun (r : Int64) (u : zS) => Post r u.1 u.2.1 u.2.2.1 u.2.2.2) (fun u t => zPost G K A (wX ad K sv u.1 u.2.1 u.2.2.1 u.2.2.2) t) A) ([.ref (ad 7)] : List Value).toArray s 0 0 A) (F0 m 35 ls []) := by
  intro n
  induction n with
  | zero => intro x1 x3 I J B D ls H locs hok; exact hok.elim
  | succ n ih => exact wB_Situation_packed_35 G K ad sv  Post C (wl_Situation_packed_35  Post n) ih
set_option maxHeartbeats 8000000 in
set_option maxRecDepth 100000 in
theorem wB_Situation_packed_10 {p : Program} {l : Launch} {e : Env} {s : State} {m : MethodId} {below : List Frame} {meth : Method} {c : Code} {A : Nat → Prop} (G : va_G) (K : Nat → ClassId) (ad : Nat → Nat) (sv : Value) (Post : Int64 → (Nat → Int32) → (Nat → Int64) → (Nat → Nat → Int32) → (Nat → Nat → Int64) → Prop) (C : zCx p s m ([.ref (ad 7)] : List Value).toArray meth c A G K prog_8_method_3_code (some .long) 6 "LassoFinder$Situation") (K10 : Int64 → Int32 → (Nat → Int32) → (Nat → Int64) → (Nat → Nat → Int32) → (Nat → Nat → Int64) → Prop) (kh10 : ∀ (x1 : Int64) (x3 : Int32) (I : Nat → Int32) (J : Nat → Int64) (B : Nat → Nat → Int32) (D : Nat → Nat → Int64) (ls : Array Slot) (H : Heap) (locs : List Loc), K10 x1 x3 I J B D → lv_has ls 6 [(0, .ref (ad 7)), (1, .long x1), (3, .int x3)] → zW G A s.heap (wX ad K sv I J B D) H locs → W p l e { frames := 0, cells := 0, slots := 0, locals := 0 } s m ([.ref (ad 7)] : List Value).toArray below meth c H locs 0 0 (MQ below (va_Ql (fun (r : Int64) (u : zS) => Post r u.1 u.2.1 u.2.2.1 u.2.2.2) (fun u t => zPost G K A (wX ad K sv u.1 u.2.1 u.2.2.1 u.2.2.2) t) A) ([.ref (ad 7)] : List Value).toArray s 0 0 A) (F0 m 10 ls [])) : ∀ (x1 : Int64) (x3 : Int32) (I : Nat → Int32) (J : Nat → Int64) (B : Nat → Nat → Int32) (D : Nat → Nat → Int64) (ls : Array Slot) (H : Heap) (locs : List Loc), wb_Situation_packed_10  K10 Post x1 x3 I J B D → lv_has ls 6 [(0, .ref (ad 7)), (1, .long x1), (3, .int x3)] → zW G A s.heap (wX ad K sv I J B D) H locs → W p l e { frames := 0, cells := 0, slots := 0, locals := 0 } s m ([.ref (ad 7)] : List Value).toArray below meth c H locs 0 0 (MQ below (va_Ql (fun (r : Int64) (u : zS) => Post r u.1 u.2.1 u.2.2.1 u.2.2.2) (fun u t => zPost G K A (wX ad K sv u.1 u.2.1 u.2.2.1 u.2.2.2) t) A) ([.ref (ad 7)] : List Value).toArray s 0 0 A) (F0 m 10 ls []) := by
  obtain ⟨hx, hb, hr, hml, hts, hown, hlocks, hA, hK⟩ := id C
  intro x1 x3 I J B D ls H locs hok hl hw
  unfold wb_Situation_packed_10 at hok
  refine lv_iload_n hx hb zd_Situation_packed_10 rfl (lv_at hl 2 rfl) ?_
  refine lv_iconst (v := 4) hx hb zd_Situation_packed_11 (by decide) ?_
  refine lv_icmp_ge (tgt := 33) hx hb zd_Situation_packed_12 (by decide) (fun hc23 => ?_) (fun hc23 => ?_)
  · have hok := hok.1 hc23
    refine lv_iconst (v := 0) hx hb zd_Situation_packed_33 (by decide) ?_
    refine lv_istore_n hx hb zd_Situation_packed_34 rfl hl (by decide) rfl (fun ls hl => ?_)
    have hl : lv_has ls 6 [(3, .int 0), (0, .ref (ad 7)), (1, .long x1)] := hl
    obtain ⟨n9, hok⟩ := hok
    exact wL_Situation_packed_35 G K ad sv  Post C n9 x1 0 I J B D ls H locs hok (lv_sub hl [1, 2, 0] rfl) hw
  · have hok := hok.2 hc23
    refine lv_lload_n hx hb zd_Situation_packed_15 rfl (lv_at hl 1 rfl) ?_
    refine lv_iconst (v := 5) hx hb zd_Situation_packed_16 (by decide) ?_
    refine lv_lshl hx hb zd_Situation_packed_17 rfl ?_
    refine lv_topl (fun z24 ez24 => ?_)
    have hok := hok z24 ez24
    refine lv_aload_n hx hb zd_Situation_packed_18 rfl (lv_at hl 0 rfl) ?_
    refine z_get (v := .ref (ad 45)) hx hb hts hown hK hw zZ7 7 wX_g7 5 (by decide) zn_268 rfl zd_Situation_packed_19 ?_
    refine lv_iload_n hx hb zd_Situation_packed_22 rfl (lv_at hl 2 rfl) ?_
    refine va_iald (f := (B 31)) hx hb hK hw.1 45 0 wX_a45 rfl hok.1 zd_Situation_packed_23 ?_
    have hok := hok.2
    refine lv_topi (fun z25 ez25 => ?_)
    have hok := hok z25 ez25
    refine lv_i2l hx hb zd_Situation_packed_24 rfl ?_
    refine lv_topl (fun z26 ez26 => ?_)
    have hok := hok z26 ez26
    refine lv_lor hx hb zd_Situation_packed_25 ?_
    refine lv_topl (fun z27 ez27 => ?_)
    have hok := hok z27 ez27
    refine lv_lstore_n hx hb zd_Situation_packed_26 rfl hl (by decide) rfl (fun ls hl => ?_)
    have hl : lv_has ls 6 [(1, .long z27), (0, .ref (ad 7)), (3, .int x3)] := hl
    obtain ⟨z28, ez28⟩ : ∃ z : Int32, z = (x3 + 1) := ⟨_, rfl⟩
    have hok := hok z28 ez28
    refine lv_iinc (v := z28) hx hb zd_Situation_packed_27 hl (k := 2) rfl ez28.symm (by decide) rfl (fun ls hl => ?_)
    have hl : lv_has ls 6 [(3, .int z28), (1, .long z27), (0, .ref (ad 7))] := hl
    refine lv_goto (tgt := 10) hx hb zd_Situation_packed_30 (by decide) ?_
    exact kh10 z27 z28 I J B D ls H locs hok (lv_sub hl [2, 1, 0] rfl) hw
theorem wL_Situation_packed_10 {p : Program} {l : Launch} {e : Env} {s : State} {m : MethodId} {below : List Frame} {meth : Method} {c : Code} {A : Nat → Prop} (G : va_G) (K : Nat → ClassId) (ad : Nat → Nat) (sv : Value) (Post : Int64 → (Nat → Int32) → (Nat → Int64) → (Nat → Nat → Int32) → (Nat → Nat → Int64) → Prop) (C : zCx p s m ([.ref (ad 7)] : List Value).toArray meth c A G K prog_8_method_3_code (some .long) 6 "LassoFinder$Situation") : ∀ (n : Nat) (x1 : Int64) (x3 : Int32) (I : Nat → Int32) (J : Nat → Int64) (B : Nat → Nat → Int32) (D : Nat → Nat → Int64) (ls : Array Slot) (H : Heap) (locs : List Loc), wl_Situation_packed_10  Post n x1 x3 I J B D → lv_has ls 6 [(0, .ref (ad 7)), (1, .long x1), (3, .int x3)] → zW G A s.heap (wX ad K sv I J B D) H locs → W p l e { frames := 0, cells := 0, slots := 0, locals := 0 } s m ([.ref (ad 7)] : List Value).toArray below meth c H locs 0 0 (MQ below (va_Ql (fun (r : Int64) (u : zS) => Post r u.1 u.2.1 u.2.2.1 u.2.2.2) (fun u t => zPost G K A (wX ad K sv u.1 u.2.1 u.2.2.1 u.2.2.2) t) A) ([.ref (ad 7)] : List Value).toArray s 0 0 A) (F0 m 10 ls []) := by
  intro n
  induction n with
  | zero => intro x1 x3 I J B D ls H locs hok; exact hok.elim
  | succ n ih => exact wB_Situation_packed_10 G K ad sv  Post C (wl_Situation_packed_10  Post n) ih
set_option maxHeartbeats 8000000 in
set_option maxRecDepth 100000 in
theorem w_Situation_packed (l : Launch) (G : va_G) (K : Nat → ClassId) (ad : Nat → Nat) (sv : Value) (I : Nat → Int32) (J : Nat → Int64) (B : Nat → Nat → Int32) (D : Nat → Nat → Int64) (Post : Int64 → (Nat → Int32) → (Nat → Int64) → (Nat → Nat → Int32) → (Nat → Nat → Int64) → Prop) (sz : Nat) (hok : wp_Situation_packed I J B D  Post) : Met l zy_Situation_packed (Cond.code zy_Situation_packed prog_8_method_3_code 6 (some .long) :: zTB) { frames := 0, cells := 0, slots := 0, locals := 0 } (va_Pc [.ref (ad 7)] (zPre G K (wX ad K sv I J B D) sz)) (va_Ql (fun (r : Int64) (u : zS) => Post r u.1 u.2.1 u.2.2.1 u.2.2.2) (fun u t => zPost G K (va_A (wX ad K sv I J B D) sz) (wX ad K sv u.1 u.2.1 u.2.2.1 u.2.2.2) t) (va_A (wX ad K sv I J B D) sz)) 0 0 (va_A (wX ad K sv I J B D) sz) := by
  refine zMet (y := zy_Situation_packed) (av := [.ref (ad 7)]) (maxL := 6) (cc := prog_8_method_3_code) (ret := (some .long)) (W0 := (wX ad K sv I J B D)) (sz := sz) (G := G) (K := K) (wt := zTB) (mc := 0) (ms := 0) (Qf := fun A => va_Ql (fun (r : Int64) (u : zS) => Post r u.1 u.2.1 u.2.2.1 u.2.2.2) (fun u t => zPost G K A (wX ad K sv u.1 u.2.1 u.2.2.1 u.2.2.2) t) A) (by decide) (Nat.le_of_ble_eq_true rfl) ?_
  intro p e s m below meth c ls A hx hb hr hml hts hown hlocks hin hA hK H locs hw hsz hl
  clear hsz
  have hown : s.vm.findClass "LassoFinder$Situation" = some m.cls := hown
  have C : zCx p s m ([.ref (ad 7)] : List Value).toArray meth c A G K prog_8_method_3_code (some .long) 6 "LassoFinder$Situation" := ⟨hx, hb, hr, hml, hts, hown, hlocks, hA, hK⟩
  have hl : lv_has ls 6 [(0, .ref (ad 7))] := hl
  have hw : zW G A s.heap (wX ad K sv I J B D) H locs := hw
  unfold wp_Situation_packed at hok
  refine lv_aload_n hx hb zd_Situation_packed_0 rfl (lv_at hl 0 rfl) ?_
  refine z_get (v := .int (I 18)) hx hb hts hown hK hw zZ7 7 wX_g7 6 (by decide) zn_311 rfl zd_Situation_packed_1 ?_
  refine lv_iconst (v := 1) hx hb zd_Situation_packed_4 (by decide) ?_
  refine lv_iadd hx hb zd_Situation_packed_5 ?_
  refine lv_topi (fun z29 ez29 => ?_)
  have hok := hok z29 ez29
  refine lv_i2l hx hb zd_Situation_packed_6 rfl ?_
  refine lv_topl (fun z30 ez30 => ?_)
  have hok := hok z30 ez30
  refine lv_lstore_n hx hb zd_Situation_packed_7 rfl hl (by decide) rfl (fun ls hl => ?_)
  have hl : lv_has ls 6 [(1, .long z30), (0, .ref (ad 7))] := hl
  refine lv_iconst (v := 0) hx hb zd_Situation_packed_8 (by decide) ?_
  refine lv_istore_n hx hb zd_Situation_packed_9 rfl hl (by decide) rfl (fun ls hl => ?_)
  have hl : lv_has ls 6 [(3, .int 0), (1, .long z30), (0, .ref (ad 7))] := hl
  obtain ⟨n9, hok⟩ := hok
  exact wL_Situation_packed_10 G K ad sv  Post C n9 z30 0 I J B D ls H locs hok (lv_sub hl [2, 1, 0] rfl) hw
def wb_Graph_enter_2 (a0 : Int64) (K2 : Int64 → Int32 → (Nat → Int32) → (Nat → Int64) → (Nat → Nat → Int32) → (Nat → Nat → Int64) → Prop) (Post : Int32 → (Nat → Int32) → (Nat → Int64) → (Nat → Nat → Int32) → (Nat → Nat → Int64) → Prop) (x1 : Int64) (x3 : Int32) (I : Nat → Int32) (J : Nat → Int64) (B : Nat → Nat → Int32) (D : Nat → Nat → Int64) : Prop :=
  (((I 19) ≤ x3 → ((¬ (I 19) = 96 → vp_in (I 19) 96 ∧ ∀ z3 : Int32, z3 = ((I 19) + 1) → ∀ z4 : Int32, z4 = (z3 - 1) → Post z4 (upd I 19 z3) J B (va_up D 2 (vp_updL (D 2) (I 19).toNatClampNeg x1))) ∧ ((I 19) = 96 → Post (-1) I J B D))) ∧ (¬ (I 19) ≤ x3 → vp_in x3 96 ∧ ∀ z5 : Int64, z5 = ((D 2) x3.toNatClampNeg) → ∀ z6 : Int32, z6 = (lg_cmp z5 x1) → ((¬ z6 = 0 → ∀ z8 : Int32, z8 = (x3 + 1) → K2 x1 z8 I J B D) ∧ (z6 = 0 → Post x3 I J B D))))
def wl_Graph_enter_2 (a0 : Int64) (Post : Int32 → (Nat → Int32) → (Nat → Int64) → (Nat → Nat → Int32) → (Nat → Nat → Int64) → Prop) (n : Nat) : Int64 → Int32 → (Nat → Int32) → (Nat → Int64) → (Nat → Nat → Int32) → (Nat → Nat → Int64) → Prop := Nat.rec (fun _ _ _ _ _ _ => False) (fun _ r => wb_Graph_enter_2 a0 r Post) n
def wp_Graph_enter (I : Nat → Int32) (J : Nat → Int64) (B : Nat → Nat → Int32) (D : Nat → Nat → Int64) (a0 : Int64) (Post : Int32 → (Nat → Int32) → (Nat → Int64) → (Nat → Nat → Int32) → (Nat → Nat → Int64) → Prop) : Prop :=
  ∃ n : Nat, wl_Graph_enter_2 a0 Post n a0 0 I J B D
set_option maxHeartbeats 8000000 in
set_option maxRecDepth 100000 in
theorem wB_Graph_enter_2 {p : Program} {l : Launch} {e : Env} {s : State} {m : MethodId} {below : List Frame} {meth : Method} {c : Code} {A : Nat → Prop} (G : va_G) (K : Nat → ClassId) (ad : Nat → Nat) (sv : Value) (a0 : Int64) (Post : Int32 → (Nat → Int32) → (Nat → Int64) → (Nat → Nat → Int32) → (Nat → Nat → Int64) → Prop) (C : zCx p s m ([.ref (ad 8), .long a0] : List Value).toArray meth c A G K prog_3_method_8_code (some .int) 4 "LassoFinder$Graph") (K2 : Int64 → Int32 → (Nat → Int32) → (Nat → Int64) → (Nat → Nat → Int32) → (Nat → Nat → Int64) → Prop) (kh2 : ∀ (x1 : Int64) (x3 : Int32) (I : Nat → Int32) (J : Nat → Int64) (B : Nat → Nat → Int32) (D : Nat → Nat → Int64) (ls : Array Slot) (H : Heap) (locs : List Loc), K2 x1 x3 I J B D → lv_has ls 4 [(0, .ref (ad 8)), (1, .long x1), (3, .int x3)] → zW G A s.heap (wX ad K sv I J B D) H locs → W p l e { frames := 0, cells := 0, slots := 0, locals := 0 } s m ([.ref (ad 8), .long a0] : List Value).toArray below meth c H locs 0 0 (MQ below (va_Qi (fun (r : Int32) (u : zS) => Post r u.1 u.2.1 u.2.2.1 u.2.2.2) (fun u t => zPost G K A (wX ad K sv u.1 u.2.1 u.2.2.1 u.2.2.2) t) A) ([.ref (ad 8), .long a0] : List Value).toArray s 0 0 A) (F0 m 2 ls [])) : ∀ (x1 : Int64) (x3 : Int32) (I : Nat → Int32) (J : Nat → Int64) (B : Nat → Nat → Int32) (D : Nat → Nat → Int64) (ls : Array Slot) (H : Heap) (locs : List Loc), wb_Graph_enter_2 a0 K2 Post x1 x3 I J B D → lv_has ls 4 [(0, .ref (ad 8)), (1, .long x1), (3, .int x3)] → zW G A s.heap (wX ad K sv I J B D) H locs → W p l e { frames := 0, cells := 0, slots := 0, locals := 0 } s m ([.ref (ad 8), .long a0] : List Value).toArray below meth c H locs 0 0 (MQ below (va_Qi (fun (r : Int32) (u : zS) => Post r u.1 u.2.1 u.2.2.1 u.2.2.2) (fun u t => zPost G K A (wX ad K sv u.1 u.2.1 u.2.2.1 u.2.2.2) t) A) ([.ref (ad 8), .long a0] : List Value).toArray s 0 0 A) (F0 m 2 ls []) := by
  obtain ⟨hx, hb, hr, hml, hts, hown, hlocks, hA, hK⟩ := id C
  intro x1 x3 I J B D ls H locs hok hl hw
  unfold wb_Graph_enter_2 at hok
  refine lv_iload_n hx hb zd_Graph_enter_2 rfl (lv_at hl 2 rfl) ?_
  refine lv_aload_n hx hb zd_Graph_enter_3 rfl (lv_at hl 0 rfl) ?_
  refine z_get (v := .int (I 19)) hx hb hts hown hK hw zZ2 8 wX_g8 9 (by decide) zn_461 rfl zd_Graph_enter_4 ?_
  refine lv_icmp_ge (tgt := 29) hx hb zd_Graph_enter_7 (by decide) (fun hc1 => ?_) (fun hc1 => ?_)
  · have hok := hok.1 hc1
    refine lv_aload_n hx hb zd_Graph_enter_29 rfl (lv_at hl 0 rfl) ?_
    refine z_get (v := .int (I 19)) hx hb hts hown hK hw zZ2 8 wX_g8 9 (by decide) zn_461 rfl zd_Graph_enter_30 ?_
    refine lv_bipush (v := 96) hx hb zd_Graph_enter_33 (by decide) ?_
    refine lv_icmp_ne (tgt := 40) hx hb zd_Graph_enter_35 (by decide) (fun hc2 => ?_) (fun hc2 => ?_)
    · have hok := hok.1 hc2
      refine lv_aload_n hx hb zd_Graph_enter_40 rfl (lv_at hl 0 rfl) ?_
      refine z_get (v := .ref (ad 46)) hx hb hts hown hK hw zZ2 8 wX_g8 1 (by decide) zn_269 rfl zd_Graph_enter_41 ?_
      refine lv_aload_n hx hb zd_Graph_enter_44 rfl (lv_at hl 0 rfl) ?_
      refine z_get (v := .int (I 19)) hx hb hts hown hK hw zZ2 8 wX_g8 9 (by decide) zn_461 rfl zd_Graph_enter_45 ?_
      refine lv_lload_n hx hb zd_Graph_enter_48 rfl (lv_at hl 1 rfl) ?_
      refine va_last (f := (D 2)) hx hb hK hw.1 hw.2.1 hw.2.2 46 1 wX_a46 rfl hok.1 zd_Graph_enter_49 (fun H locs w91 w92 w93 => ?_)
      have hok := hok.2
      have hw := wX_t46 ⟨w91, w92, w93⟩
      refine lv_aload_n hx hb zd_Graph_enter_50 rfl (lv_at hl 0 rfl) ?_
      refine lv_dup hx hb zd_Graph_enter_51 rfl ?_
      refine z_get (v := .int (I 19)) hx hb hts hown hK hw zZ2 8 wX_g8 9 (by decide) zn_461 rfl zd_Graph_enter_52 ?_
      refine lv_iconst (v := 1) hx hb zd_Graph_enter_55 (by decide) ?_
      refine lv_iadd hx hb zd_Graph_enter_56 ?_
      refine lv_topi (fun z3 ez3 => ?_)
      have hok := hok z3 ez3
      refine z_put (v := .int z3) hx hb hts hown hK hw zZ2 8 wX_g8 9 (by decide) zn_461 rfl rfl rfl (Nat.le_of_ble_eq_true rfl) zd_Graph_enter_57 (fun H locs hw => ?_)
      have hw := wX_sI19 hw
      refine lv_aload_n hx hb zd_Graph_enter_60 rfl (lv_at hl 0 rfl) ?_
      refine z_get (v := .int z3) hx hb hts hown hK hw zZ2 8 wX_g8 9 (by decide) zn_461 rfl zd_Graph_enter_61 ?_
      refine lv_iconst (v := 1) hx hb zd_Graph_enter_64 (by decide) ?_
      refine lv_isub hx hb zd_Graph_enter_65 ?_
      refine lv_topi (fun z4 ez4 => ?_)
      have hok := hok z4 ez4
      exact (z_iret (u := ((upd I 19 z3), J, B, (va_up D 2 (vp_updL (D 2) (I 19).toNatClampNeg x1)))) hx hb hr hlocks rfl hw (List.range 65) wX_all wX_nd hok (Nat.le_of_ble_eq_true rfl) (Nat.le_of_ble_eq_true rfl) zd_Graph_enter_66)
    · have hok := hok.2 hc2
      refine lv_iconst (v := (-1)) hx hb zd_Graph_enter_38 (by decide) ?_
      exact (z_iret (u := (I, J, B, D)) hx hb hr hlocks rfl hw (List.range 65) wX_all wX_nd hok (Nat.le_of_ble_eq_true rfl) (Nat.le_of_ble_eq_true rfl) zd_Graph_enter_39)
  · have hok := hok.2 hc1
    refine lv_aload_n hx hb zd_Graph_enter_10 rfl (lv_at hl 0 rfl) ?_
    refine z_get (v := .ref (ad 46)) hx hb hts hown hK hw zZ2 8 wX_g8 1 (by decide) zn_269 rfl zd_Graph_enter_11 ?_
    refine lv_iload_n hx hb zd_Graph_enter_14 rfl (lv_at hl 2 rfl) ?_
    refine va_lald (f := (D 2)) hx hb hK hw.1 46 1 wX_a46 rfl hok.1 zd_Graph_enter_15 ?_
    have hok := hok.2
    refine lv_topl (fun z5 ez5 => ?_)
    have hok := hok z5 ez5
    refine lv_lload_n hx hb zd_Graph_enter_16 rfl (lv_at hl 1 rfl) ?_
    refine W.lcmp hx hb zd_Graph_enter_17 ?_
    refine lv_topi (fun z6 ez6 => ?_)
    have hok := hok z6 ez6
    refine lv_if_ne (tgt := 23) hx hb zd_Graph_enter_18 (by decide) (fun hc7 => ?_) (fun hc7 => ?_)
    · have hok := hok.1 hc7
      obtain ⟨z8, ez8⟩ : ∃ z : Int32, z = (x3 + 1) := ⟨_, rfl⟩
      have hok := hok z8 ez8
      refine lv_iinc (v := z8) hx hb zd_Graph_enter_23 hl (k := 2) rfl ez8.symm (by decide) rfl (fun ls hl => ?_)
      have hl : lv_has ls 4 [(3, .int z8), (0, .ref (ad 8)), (1, .long x1)] := hl
      refine lv_goto (tgt := 2) hx hb zd_Graph_enter_26 (by decide) ?_
      exact kh2 x1 z8 I J B D ls H locs hok (lv_sub hl [1, 2, 0] rfl) hw
    · have hok := hok.2 hc7
      refine lv_iload_n hx hb zd_Graph_enter_21 rfl (lv_at hl 2 rfl) ?_
      exact (z_iret (u := (I, J, B, D)) hx hb hr hlocks rfl hw (List.range 65) wX_all wX_nd hok (Nat.le_of_ble_eq_true rfl) (Nat.le_of_ble_eq_true rfl) zd_Graph_enter_22)
theorem wL_Graph_enter_2 {p : Program} {l : Launch} {e : Env} {s : State} {m : MethodId} {below : List Frame} {meth : Method} {c : Code} {A : Nat → Prop} (G : va_G) (K : Nat → ClassId) (ad : Nat → Nat) (sv : Value) (a0 : Int64) (Post : Int32 → (Nat → Int32) → (Nat → Int64) → (Nat → Nat → Int32) → (Nat → Nat → Int64) → Prop) (C : zCx p s m ([.ref (ad 8), .long a0] : List Value).toArray meth c A G K prog_3_method_8_code (some .int) 4 "LassoFinder$Graph") : ∀ (n : Nat) (x1 : Int64) (x3 : Int32) (I : Nat → Int32) (J : Nat → Int64) (B : Nat → Nat → Int32) (D : Nat → Nat → Int64) (ls : Array Slot) (H : Heap) (locs : List Loc), wl_Graph_enter_2 a0 Post n x1 x3 I J B D → lv_has ls 4 [(0, .ref (ad 8)), (1, .long x1), (3, .int x3)] → zW G A s.heap (wX ad K sv I J B D) H locs → W p l e { frames := 0, cells := 0, slots := 0, locals := 0 } s m ([.ref (ad 8), .long a0] : List Value).toArray below meth c H locs 0 0 (MQ below (va_Qi (fun (r : Int32) (u : zS) => Post r u.1 u.2.1 u.2.2.1 u.2.2.2) (fun u t => zPost G K A (wX ad K sv u.1 u.2.1 u.2.2.1 u.2.2.2) t) A) ([.ref (ad 8), .long a0] : List Value).toArray s 0 0 A) (F0 m 2 ls []) := by
  intro n
  induction n with
  | zero => intro x1 x3 I J B D ls H locs hok; exact hok.elim
  | succ n ih => exact wB_Graph_enter_2 G K ad sv a0 Post C (wl_Graph_enter_2 a0 Post n) ih
set_option maxHeartbeats 8000000 in
set_option maxRecDepth 100000 in
theorem w_Graph_enter (l : Launch) (G : va_G) (K : Nat → ClassId) (ad : Nat → Nat) (sv : Value) (I : Nat → Int32) (J : Nat → Int64) (B : Nat → Nat → Int32) (D : Nat → Nat → Int64) (a0 : Int64) (Post : Int32 → (Nat → Int32) → (Nat → Int64) → (Nat → Nat → Int32) → (Nat → Nat → Int64) → Prop) (sz : Nat) (hok : wp_Graph_enter I J B D a0 Post) : Met l zy_Graph_enter (Cond.code zy_Graph_enter prog_3_method_8_code 4 (some .int) :: zTB) { frames := 0, cells := 0, slots := 0, locals := 0 } (va_Pc [.ref (ad 8), .long a0] (zPre G K (wX ad K sv I J B D) sz)) (va_Qi (fun (r : Int32) (u : zS) => Post r u.1 u.2.1 u.2.2.1 u.2.2.2) (fun u t => zPost G K (va_A (wX ad K sv I J B D) sz) (wX ad K sv u.1 u.2.1 u.2.2.1 u.2.2.2) t) (va_A (wX ad K sv I J B D) sz)) 0 0 (va_A (wX ad K sv I J B D) sz) := by
  refine zMet (y := zy_Graph_enter) (av := [.ref (ad 8), .long a0]) (maxL := 4) (cc := prog_3_method_8_code) (ret := (some .int)) (W0 := (wX ad K sv I J B D)) (sz := sz) (G := G) (K := K) (wt := zTB) (mc := 0) (ms := 0) (Qf := fun A => va_Qi (fun (r : Int32) (u : zS) => Post r u.1 u.2.1 u.2.2.1 u.2.2.2) (fun u t => zPost G K A (wX ad K sv u.1 u.2.1 u.2.2.1 u.2.2.2) t) A) (by decide) (Nat.le_of_ble_eq_true rfl) ?_
  intro p e s m below meth c ls A hx hb hr hml hts hown hlocks hin hA hK H locs hw hsz hl
  clear hsz
  have hown : s.vm.findClass "LassoFinder$Graph" = some m.cls := hown
  have C : zCx p s m ([.ref (ad 8), .long a0] : List Value).toArray meth c A G K prog_3_method_8_code (some .int) 4 "LassoFinder$Graph" := ⟨hx, hb, hr, hml, hts, hown, hlocks, hA, hK⟩
  have hl : lv_has ls 4 [(0, .ref (ad 8)), (1, .long a0)] := hl
  have hw : zW G A s.heap (wX ad K sv I J B D) H locs := hw
  unfold wp_Graph_enter at hok
  refine lv_iconst (v := 0) hx hb zd_Graph_enter_0 (by decide) ?_
  refine lv_istore_n hx hb zd_Graph_enter_1 rfl hl (by decide) rfl (fun ls hl => ?_)
  have hl : lv_has ls 4 [(3, .int 0), (0, .ref (ad 8)), (1, .long a0)] := hl
  obtain ⟨n9, hok⟩ := hok
  exact wL_Graph_enter_2 G K ad sv a0 Post C n9 a0 0 I J B D ls H locs hok (lv_sub hl [1, 2, 0] rfl) hw
def wc_Graph_addDone_58 (a0 : Int32) (a1 : Int32) (a2 : Int32) (Post : Int32 → (Nat → Int32) → (Nat → Int64) → (Nat → Nat → Int32) → (Nat → Nat → Int64) → Prop) (y0 : Int32) (I : Nat → Int32) (J : Nat → Int64) (B : Nat → Nat → Int32) (D : Nat → Nat → Int64) : Prop :=
  (y0 = 0 ∨ y0 = 1) ∧ Post y0 I J B D
def wc_Graph_addDone_57 (a0 : Int32) (a1 : Int32) (a2 : Int32) (Post : Int32 → (Nat → Int32) → (Nat → Int64) → (Nat → Nat → Int32) → (Nat → Nat → Int64) → Prop)  (I : Nat → Int32) (J : Nat → Int64) (B : Nat → Nat → Int32) (D : Nat → Nat → Int64) : Prop :=
  wc_Graph_addDone_58 a0 a1 a2 Post 0 I J B D
def wp_Graph_addDone (I : Nat → Int32) (J : Nat → Int64) (B : Nat → Nat → Int32) (D : Nat → Nat → Int64) (a0 : Int32) (a1 : Int32) (a2 : Int32) (Post : Int32 → (Nat → Int32) → (Nat → Int64) → (Nat → Nat → Int32) → (Nat → Nat → Int64) → Prop) : Prop :=
  vp_in a0 96 ∧ ∀ z1 : Int64, z1 = ((D 2) a0.toNatClampNeg) → wp_Situation_unpack I J B D z1 (fun I2 J2 B2 D2 => wp_Situation_perform I2 J2 B2 D2 a1 a2 (fun I3 J3 B3 D3 => wp_Situation_packed I3 J3 B3 D3  (fun r4 I4 J4 B4 D4 => wp_Graph_enter I4 J4 B4 D4 r4 (fun r5 I5 J5 B5 D5 => ((r5 = (-1) → wc_Graph_addDone_57 a0 a1 a2 Post I5 J5 B5 D5) ∧ (¬ r5 = (-1) → wp_Graph_add I5 J5 B5 D5 a0 r5 a1 a2 (fun r7 I7 J7 B7 D7 => ((r7 = 0 → wc_Graph_addDone_57 a0 a1 a2 Post I7 J7 B7 D7) ∧ (¬ r7 = 0 → wc_Graph_addDone_58 a0 a1 a2 Post 1 I7 J7 B7 D7)))))))))
set_option maxHeartbeats 8000000 in
set_option maxRecDepth 100000 in
theorem wJ_Graph_addDone_58 {p : Program} {l : Launch} {e : Env} {s : State} {m : MethodId} {below : List Frame} {meth : Method} {c : Code} {A : Nat → Prop} (G : va_G) (K : Nat → ClassId) (ad : Nat → Nat) (sv : Value) (a0 : Int32) (a1 : Int32) (a2 : Int32) (Post : Int32 → (Nat → Int32) → (Nat → Int64) → (Nat → Nat → Int32) → (Nat → Nat → Int64) → Prop) (C : zCx p s m ([.ref (ad 8), .int a0, .int a1, .int a2] : List Value).toArray meth c A G K prog_3_method_6_code (some .boolean) 5 "LassoFinder$Graph") : ∀ (y0 : Int32) (I : Nat → Int32) (J : Nat → Int64) (B : Nat → Nat → Int32) (D : Nat → Nat → Int64) (ls : Array Slot) (H : Heap) (locs : List Loc), wc_Graph_addDone_58 a0 a1 a2 Post y0 I J B D → lv_has ls 5 [] → zW G A s.heap (wX ad K sv I J B D) H locs → W p l e { frames := 3, cells := 0, slots := 0, locals := 71 } s m ([.ref (ad 8), .int a0, .int a1, .int a2] : List Value).toArray below meth c H locs 0 0 (MQ below (va_Qi (fun (r : Int32) (u : zS) => Post r u.1 u.2.1 u.2.2.1 u.2.2.2) (fun u t => zPost G K A (wX ad K sv u.1 u.2.1 u.2.2.1 u.2.2.2) t) A) ([.ref (ad 8), .int a0, .int a1, .int a2] : List Value).toArray s 0 0 A) (F0 m 58 ls [.int y0]) := by
  obtain ⟨hx, hb, hr, hml, hts, hown, hlocks, hA, hK⟩ := id C
  intro y0 I J B D ls H locs hok hl hw
  unfold wc_Graph_addDone_58 at hok
  have hbo := hok.1
  have hok := hok.2
  exact (z_iret (u := (I, J, B, D)) hx hb hr hlocks (z_nar hbo) hw (List.range 65) wX_all wX_nd hok (Nat.le_of_ble_eq_true rfl) (Nat.le_of_ble_eq_true rfl) zd_Graph_addDone_58)
set_option maxHeartbeats 8000000 in
set_option maxRecDepth 100000 in
theorem wJ_Graph_addDone_57 {p : Program} {l : Launch} {e : Env} {s : State} {m : MethodId} {below : List Frame} {meth : Method} {c : Code} {A : Nat → Prop} (G : va_G) (K : Nat → ClassId) (ad : Nat → Nat) (sv : Value) (a0 : Int32) (a1 : Int32) (a2 : Int32) (Post : Int32 → (Nat → Int32) → (Nat → Int64) → (Nat → Nat → Int32) → (Nat → Nat → Int64) → Prop) (C : zCx p s m ([.ref (ad 8), .int a0, .int a1, .int a2] : List Value).toArray meth c A G K prog_3_method_6_code (some .boolean) 5 "LassoFinder$Graph") : ∀  (I : Nat → Int32) (J : Nat → Int64) (B : Nat → Nat → Int32) (D : Nat → Nat → Int64) (ls : Array Slot) (H : Heap) (locs : List Loc), wc_Graph_addDone_57 a0 a1 a2 Post  I J B D → lv_has ls 5 [] → zW G A s.heap (wX ad K sv I J B D) H locs → W p l e { frames := 3, cells := 0, slots := 0, locals := 71 } s m ([.ref (ad 8), .int a0, .int a1, .int a2] : List Value).toArray below meth c H locs 0 0 (MQ below (va_Qi (fun (r : Int32) (u : zS) => Post r u.1 u.2.1 u.2.2.1 u.2.2.2) (fun u t => zPost G K A (wX ad K sv u.1 u.2.1 u.2.2.1 u.2.2.2) t) A) ([.ref (ad 8), .int a0, .int a1, .int a2] : List Value).toArray s 0 0 A) (F0 m 57 ls []) := by
  obtain ⟨hx, hb, hr, hml, hts, hown, hlocks, hA, hK⟩ := id C
  intro  I J B D ls H locs hok hl hw
  unfold wc_Graph_addDone_57 at hok
  refine lv_iconst (v := 0) hx hb zd_Graph_addDone_57 (by decide) ?_
  exact wJ_Graph_addDone_58 G K ad sv a0 a1 a2 Post C 0 I J B D ls H locs hok (lv_sub hl [] rfl) hw
set_option maxHeartbeats 8000000 in
set_option maxRecDepth 100000 in
theorem w_Graph_addDone (l : Launch) (G : va_G) (K : Nat → ClassId) (ad : Nat → Nat) (sv : Value) (I : Nat → Int32) (J : Nat → Int64) (B : Nat → Nat → Int32) (D : Nat → Nat → Int64) (a0 : Int32) (a1 : Int32) (a2 : Int32) (Post : Int32 → (Nat → Int32) → (Nat → Int64) → (Nat → Nat → Int32) → (Nat → Nat → Int64) → Prop) (sz : Nat) (hok : wp_Graph_addDone I J B D a0 a1 a2 Post) : Met l zy_Graph_addDone (Cond.code zy_Graph_addDone prog_3_method_6_code 5 (some .boolean) :: zTB) { frames := 3, cells := 0, slots := 0, locals := 71 } (va_Pc [.ref (ad 8), .int a0, .int a1, .int a2] (zPre G K (wX ad K sv I J B D) sz)) (va_Qi (fun (r : Int32) (u : zS) => Post r u.1 u.2.1 u.2.2.1 u.2.2.2) (fun u t => zPost G K (va_A (wX ad K sv I J B D) sz) (wX ad K sv u.1 u.2.1 u.2.2.1 u.2.2.2) t) (va_A (wX ad K sv I J B D) sz)) 0 0 (va_A (wX ad K sv I J B D) sz) := by
  refine zMet (y := zy_Graph_addDone) (av := [.ref (ad 8), .int a0, .int a1, .int a2]) (maxL := 5) (cc := prog_3_method_6_code) (ret := (some .boolean)) (W0 := (wX ad K sv I J B D)) (sz := sz) (G := G) (K := K) (wt := zTB) (mc := 0) (ms := 0) (Qf := fun A => va_Qi (fun (r : Int32) (u : zS) => Post r u.1 u.2.1 u.2.2.1 u.2.2.2) (fun u t => zPost G K A (wX ad K sv u.1 u.2.1 u.2.2.1 u.2.2.2) t) A) (by decide) (Nat.le_of_ble_eq_true rfl) ?_
  intro p e s m below meth c ls A hx hb hr hml hts hown hlocks hin hA hK H locs hw hsz hl
  clear hsz
  have hown : s.vm.findClass "LassoFinder$Graph" = some m.cls := hown
  have C : zCx p s m ([.ref (ad 8), .int a0, .int a1, .int a2] : List Value).toArray meth c A G K prog_3_method_6_code (some .boolean) 5 "LassoFinder$Graph" := ⟨hx, hb, hr, hml, hts, hown, hlocks, hA, hK⟩
  have hl : lv_has ls 5 [(0, .ref (ad 8)), (1, .int a0), (2, .int a1), (3, .int a2)] := hl
  have hw : zW G A s.heap (wX ad K sv I J B D) H locs := hw
  unfold wp_Graph_addDone at hok
  refine lv_aload_n hx hb zd_Graph_addDone_0 rfl (lv_at hl 0 rfl) ?_
  refine z_get (v := .ref (ad 7)) hx hb hts hown hK hw zZ2 8 wX_g8 0 (by decide) zn_460 rfl zd_Graph_addDone_1 ?_
  refine lv_aload_n hx hb zd_Graph_addDone_4 rfl (lv_at hl 0 rfl) ?_
  refine z_get (v := .ref (ad 46)) hx hb hts hown hK hw zZ2 8 wX_g8 1 (by decide) zn_269 rfl zd_Graph_addDone_5 ?_
  refine lv_iload_n hx hb zd_Graph_addDone_8 rfl (lv_at hl 1 rfl) ?_
  refine va_lald (f := (D 2)) hx hb hK hw.1 46 1 wX_a46 rfl hok.1 zd_Graph_addDone_9 ?_
  have hok := hok.2
  refine lv_topl (fun z1 ez1 => ?_)
  have hok := hok z1 ez1
  refine z_callv (w1 := fun (u : zS) => wX ad K sv u.1 u.2.1 u.2.2.1 u.2.2.2) (wr := []) (z_runV (q0 := 7) (wc := (wX ad K sv I J B D)) (As := [.long z1]) (rest := []) ⟨hx, hb, hml, hown, hts⟩ (w_Situation_unpack l G K ad sv I J B D z1 _ H.size hok) zf_Situation_unpack zn_394 ⟨Nat.le_of_ble_eq_true rfl, Nat.le_of_ble_eq_true rfl⟩ hK hw (List.range 65) wX_all wX_nd wX_g7 rfl rfl hl.1 rfl (Nat.le_of_ble_eq_true rfl) zd_Graph_addDone_10 ⟨Nat.le_of_ble_eq_true rfl, Nat.le_of_ble_eq_true rfl⟩) hw hA (List.range 65) [] wX_all rfl (by decide) (fun i hi => by cases hi) (fun u H locs hok hw => ?_)
  obtain ⟨I2, J2, B2, D2⟩ := u
  dsimp only at hok
  have hw : zW G A s.heap (wX ad K sv I2 J2 B2 D2) H locs := hw
  refine lv_aload_n hx hb zd_Graph_addDone_13 rfl (lv_at hl 0 rfl) ?_
  refine z_get (v := .ref (ad 7)) hx hb hts hown hK hw zZ2 8 wX_g8 0 (by decide) zn_460 rfl zd_Graph_addDone_14 ?_
  refine lv_iload_n hx hb zd_Graph_addDone_17 rfl (lv_at hl 2 rfl) ?_
  refine lv_iload_n hx hb zd_Graph_addDone_18 rfl (lv_at hl 3 rfl) ?_
  refine z_callv (w1 := fun (u : zS) => wX ad K sv u.1 u.2.1 u.2.2.1 u.2.2.2) (wr := []) (z_runV (q0 := 7) (wc := (wX ad K sv I2 J2 B2 D2)) (As := [.int a1, .int a2]) (rest := []) ⟨hx, hb, hml, hown, hts⟩ (w_Situation_perform l G K ad sv I2 J2 B2 D2 a1 a2 _ H.size hok) zf_Situation_perform zn_406 ⟨Nat.le_of_ble_eq_true rfl, Nat.le_of_ble_eq_true rfl⟩ hK hw (List.range 65) wX_all wX_nd wX_g7 rfl rfl hl.1 rfl (Nat.le_of_ble_eq_true rfl) zd_Graph_addDone_19 ⟨Nat.le_of_ble_eq_true rfl, Nat.le_of_ble_eq_true rfl⟩) hw hA (List.range 65) [] wX_all rfl (by decide) (fun i hi => by cases hi) (fun u H locs hok hw => ?_)
  obtain ⟨I3, J3, B3, D3⟩ := u
  dsimp only at hok
  have hw : zW G A s.heap (wX ad K sv I3 J3 B3 D3) H locs := hw
  refine lv_aload_n hx hb zd_Graph_addDone_22 rfl (lv_at hl 0 rfl) ?_
  refine lv_aload_n hx hb zd_Graph_addDone_23 rfl (lv_at hl 0 rfl) ?_
  refine z_get (v := .ref (ad 7)) hx hb hts hown hK hw zZ2 8 wX_g8 0 (by decide) zn_460 rfl zd_Graph_addDone_24 ?_
  refine z_calll (w1 := fun (u : zS) => wX ad K sv u.1 u.2.1 u.2.2.1 u.2.2.2) (wr := []) (z_runV (q0 := 7) (wc := (wX ad K sv I3 J3 B3 D3)) (As := []) (rest := [.ref (ad 8)]) ⟨hx, hb, hml, hown, hts⟩ (w_Situation_packed l G K ad sv I3 J3 B3 D3  _ H.size hok) zf_Situation_packed zn_391 ⟨Nat.le_of_ble_eq_true rfl, Nat.le_of_ble_eq_true rfl⟩ hK hw (List.range 65) wX_all wX_nd wX_g7 rfl rfl hl.1 rfl (Nat.le_of_ble_eq_true rfl) zd_Graph_addDone_27 ⟨Nat.le_of_ble_eq_true rfl, Nat.le_of_ble_eq_true rfl⟩) hw hA (List.range 65) [] wX_all rfl (by decide) (fun i hi => by cases hi) (fun r4 u H locs hok hw => ?_)
  obtain ⟨I4, J4, B4, D4⟩ := u
  dsimp only at hok
  have hw : zW G A s.heap (wX ad K sv I4 J4 B4 D4) H locs := hw
  refine z_calli (w1 := fun (u : zS) => wX ad K sv u.1 u.2.1 u.2.2.1 u.2.2.2) (wr := []) (z_runV (q0 := 8) (wc := (wX ad K sv I4 J4 B4 D4)) (As := [.long r4]) (rest := []) ⟨hx, hb, hml, hown, hts⟩ (w_Graph_enter l G K ad sv I4 J4 B4 D4 r4 _ H.size hok) zf_Graph_enter zn_392 ⟨Nat.le_of_ble_eq_true rfl, Nat.le_of_ble_eq_true rfl⟩ hK hw (List.range 65) wX_all wX_nd wX_g8 rfl rfl hl.1 rfl (Nat.le_of_ble_eq_true rfl) zd_Graph_addDone_30 ⟨Nat.le_of_ble_eq_true rfl, Nat.le_of_ble_eq_true rfl⟩) hw hA (List.range 65) [] wX_all rfl (by decide) (fun i hi => by cases hi) (fun r5 u H locs hok hw => ?_)
  obtain ⟨I5, J5, B5, D5⟩ := u
  dsimp only at hok
  have hw : zW G A s.heap (wX ad K sv I5 J5 B5 D5) H locs := hw
  refine lv_istore hx hb zd_Graph_addDone_33 hl (by decide) rfl (fun ls hl => ?_)
  have hl : lv_has ls 5 [(4, .int r5), (0, .ref (ad 8)), (1, .int a0), (2, .int a1), (3, .int a2)] := hl
  refine lv_iload hx hb zd_Graph_addDone_35 (lv_at hl 0 rfl) ?_
  refine lv_iconst (v := (-1)) hx hb zd_Graph_addDone_37 (by decide) ?_
  refine lv_icmp_eq (tgt := 57) hx hb zd_Graph_addDone_38 (by decide) (fun hc6 => ?_) (fun hc6 => ?_)
  · have hok := hok.1 hc6
    exact wJ_Graph_addDone_57 G K ad sv a0 a1 a2 Post C I5 J5 B5 D5 ls H locs hok (lv_sub hl [] rfl) hw
  · have hok := hok.2 hc6
    refine lv_aload_n hx hb zd_Graph_addDone_41 rfl (lv_at hl 1 rfl) ?_
    refine lv_iload_n hx hb zd_Graph_addDone_42 rfl (lv_at hl 2 rfl) ?_
    refine lv_iload hx hb zd_Graph_addDone_43 (lv_at hl 0 rfl) ?_
    refine lv_iload_n hx hb zd_Graph_addDone_45 rfl (lv_at hl 3 rfl) ?_
    refine lv_iload_n hx hb zd_Graph_addDone_46 rfl (lv_at hl 4 rfl) ?_
    refine z_calli (w1 := fun (u : zS) => wX ad K sv u.1 u.2.1 u.2.2.1 u.2.2.2) (wr := []) (z_runV (q0 := 8) (wc := (wX ad K sv I5 J5 B5 D5)) (As := [.int a0, .int r5, .int a1, .int a2]) (rest := []) ⟨hx, hb, hml, hown, hts⟩ (w_Graph_add l G K ad sv I5 J5 B5 D5 a0 r5 a1 a2 _ H.size hok) zf_Graph_add zn_410 ⟨Nat.le_of_ble_eq_true rfl, Nat.le_of_ble_eq_true rfl⟩ hK hw (List.range 65) wX_all wX_nd wX_g8 rfl rfl hl.1 rfl (Nat.le_of_ble_eq_true rfl) zd_Graph_addDone_47 ⟨Nat.le_of_ble_eq_true rfl, Nat.le_of_ble_eq_true rfl⟩) hw hA (List.range 65) [] wX_all rfl (by decide) (fun i hi => by cases hi) (fun r7 u H locs hok hw => ?_)
    obtain ⟨I7, J7, B7, D7⟩ := u
    dsimp only at hok
    have hw : zW G A s.heap (wX ad K sv I7 J7 B7 D7) H locs := hw
    refine lv_if_eq (tgt := 57) hx hb zd_Graph_addDone_50 (by decide) (fun hc8 => ?_) (fun hc8 => ?_)
    · have hok := hok.1 hc8
      exact wJ_Graph_addDone_57 G K ad sv a0 a1 a2 Post C I7 J7 B7 D7 ls H locs hok (lv_sub hl [] rfl) hw
    · have hok := hok.2 hc8
      refine lv_iconst (v := 1) hx hb zd_Graph_addDone_53 (by decide) ?_
      refine lv_goto (tgt := 58) hx hb zd_Graph_addDone_54 (by decide) ?_
      exact wJ_Graph_addDone_58 G K ad sv a0 a1 a2 Post C 1 I7 J7 B7 D7 ls H locs hok (lv_sub hl [] rfl) hw
def wp_Program_at (I : Nat → Int32) (J : Nat → Int64) (B : Nat → Nat → Int32) (D : Nat → Nat → Int64) (a0 : Int32) (a1 : Int32) (Post : Int64 → (Nat → Int32) → (Nat → Int64) → (Nat → Nat → Int32) → (Nat → Nat → Int64) → Prop) : Prop :=
  ∀ z1 : Int32, z1 = (a0 * 31) → ∀ z2 : Int32, z2 = (z1 + a1) → vp_in z2 124 ∧ ∀ z3 : Int64, z3 = ((D 1) z2.toNatClampNeg) → Post z3 I J B D
set_option maxHeartbeats 8000000 in
set_option maxRecDepth 100000 in
theorem w_Program_at (l : Launch) (G : va_G) (K : Nat → ClassId) (ad : Nat → Nat) (sv : Value) (I : Nat → Int32) (J : Nat → Int64) (B : Nat → Nat → Int32) (D : Nat → Nat → Int64) (a0 : Int32) (a1 : Int32) (Post : Int64 → (Nat → Int32) → (Nat → Int64) → (Nat → Nat → Int32) → (Nat → Nat → Int64) → Prop) (sz : Nat) (hok : wp_Program_at I J B D a0 a1 Post) : Met l zy_Program_at (Cond.code zy_Program_at prog_7_method_3_code 3 (some .long) :: zTB) { frames := 0, cells := 0, slots := 0, locals := 0 } (va_Pc [.ref (ad 3), .int a0, .int a1] (zPre G K (wX ad K sv I J B D) sz)) (va_Ql (fun (r : Int64) (u : zS) => Post r u.1 u.2.1 u.2.2.1 u.2.2.2) (fun u t => zPost G K (va_A (wX ad K sv I J B D) sz) (wX ad K sv u.1 u.2.1 u.2.2.1 u.2.2.2) t) (va_A (wX ad K sv I J B D) sz)) 0 0 (va_A (wX ad K sv I J B D) sz) := by
  refine zMet (y := zy_Program_at) (av := [.ref (ad 3), .int a0, .int a1]) (maxL := 3) (cc := prog_7_method_3_code) (ret := (some .long)) (W0 := (wX ad K sv I J B D)) (sz := sz) (G := G) (K := K) (wt := zTB) (mc := 0) (ms := 0) (Qf := fun A => va_Ql (fun (r : Int64) (u : zS) => Post r u.1 u.2.1 u.2.2.1 u.2.2.2) (fun u t => zPost G K A (wX ad K sv u.1 u.2.1 u.2.2.1 u.2.2.2) t) A) (by decide) (Nat.le_of_ble_eq_true rfl) ?_
  intro p e s m below meth c ls A hx hb hr hml hts hown hlocks hin hA hK H locs hw hsz hl
  clear hsz
  have hown : s.vm.findClass "LassoFinder$Program" = some m.cls := hown
  have C : zCx p s m ([.ref (ad 3), .int a0, .int a1] : List Value).toArray meth c A G K prog_7_method_3_code (some .long) 3 "LassoFinder$Program" := ⟨hx, hb, hr, hml, hts, hown, hlocks, hA, hK⟩
  have hl : lv_has ls 3 [(0, .ref (ad 3)), (1, .int a0), (2, .int a1)] := hl
  have hw : zW G A s.heap (wX ad K sv I J B D) H locs := hw
  unfold wp_Program_at at hok
  refine lv_aload_n hx hb zd_Program_at_0 rfl (lv_at hl 0 rfl) ?_
  refine z_get (v := .ref (ad 28)) hx hb hts hown hK hw zZ6 3 wX_g3 10 (by decide) zn_251 rfl zd_Program_at_1 ?_
  refine lv_iload_n hx hb zd_Program_at_4 rfl (lv_at hl 1 rfl) ?_
  refine lv_bipush (v := 31) hx hb zd_Program_at_5 (by decide) ?_
  refine lv_imul hx hb zd_Program_at_7 ?_
  refine lv_topi (fun z1 ez1 => ?_)
  have hok := hok z1 ez1
  refine lv_iload_n hx hb zd_Program_at_8 rfl (lv_at hl 2 rfl) ?_
  refine lv_iadd hx hb zd_Program_at_9 ?_
  refine lv_topi (fun z2 ez2 => ?_)
  have hok := hok z2 ez2
  refine va_lald (f := (D 1)) hx hb hK hw.1 28 1 wX_a28 rfl hok.1 zd_Program_at_10 ?_
  have hok := hok.2
  refine lv_topl (fun z3 ez3 => ?_)
  have hok := hok z3 ez3
  exact (z_lret (u := (I, J, B, D)) hx hb hr hlocks hw (List.range 65) wX_all wX_nd hok (Nat.le_of_ble_eq_true rfl) (Nat.le_of_ble_eq_true rfl) zd_Program_at_11)
def wc_Situation_partners_33 (a0 : Int32) (Post : Int64 → (Nat → Int32) → (Nat → Int64) → (Nat → Nat → Int32) → (Nat → Nat → Int64) → Prop)  (I : Nat → Int32) (J : Nat → Int64) (B : Nat → Nat → Int32) (D : Nat → Nat → Int64) : Prop :=
  Post 0 I J B D
def wp_Situation_partners (I : Nat → Int32) (J : Nat → Int64) (B : Nat → Nat → Int32) (D : Nat → Nat → Int64) (a0 : Int32) (Post : Int64 → (Nat → Int32) → (Nat → Int64) → (Nat → Nat → Int32) → (Nat → Nat → Int64) → Prop) : Prop :=
  vp_in a0 48 ∧ ∀ z1 : Int32, z1 = ((B 6) a0.toNatClampNeg) → ((¬ z1 = 2 → wc_Situation_partners_33 a0 Post I J B D) ∧ (z1 = 2 → vp_in a0 48 ∧ ∀ z3 : Int32, z3 = ((B 7) a0.toNatClampNeg) → vp_in z3 8 ∧ ∀ z4 : Int32, z4 = ((B 3) z3.toNatClampNeg) → ((z4 ≤ 0 → vp_in a0 48 ∧ ∀ z6 : Int32, z6 = ((B 10) a0.toNatClampNeg) → vp_in a0 48 ∧ ∀ z7 : Int32, z7 = ((B 7) a0.toNatClampNeg) → vp_in z7 8 ∧ ∀ z8 : Int64, z8 = ((D 0) z7.toNatClampNeg) → ∀ z9 : Int64, z9 = (z8 &&& (J 1)) → vp_in z6 4 ∧ ∀ z10 : Int32, z10 = ((B 31) z6.toNatClampNeg) → wp_Program_at I J B D z6 z10 (fun r11 I11 J11 B11 D11 => ∀ z12 : Int64, z12 = (r11 ^^^ (-1)) → ∀ z13 : Int64, z13 = (z9 &&& z12) → Post z13 I11 J11 B11 D11)) ∧ (¬ z4 ≤ 0 → wc_Situation_partners_33 a0 Post I J B D))))
set_option maxHeartbeats 8000000 in
set_option maxRecDepth 100000 in
theorem wJ_Situation_partners_33 {p : Program} {l : Launch} {e : Env} {s : State} {m : MethodId} {below : List Frame} {meth : Method} {c : Code} {A : Nat → Prop} (G : va_G) (K : Nat → ClassId) (ad : Nat → Nat) (sv : Value) (a0 : Int32) (Post : Int64 → (Nat → Int32) → (Nat → Int64) → (Nat → Nat → Int32) → (Nat → Nat → Int64) → Prop) (C : zCx p s m ([.ref (ad 7), .int a0] : List Value).toArray meth c A G K prog_8_method_10_code (some .long) 3 "LassoFinder$Situation") : ∀  (I : Nat → Int32) (J : Nat → Int64) (B : Nat → Nat → Int32) (D : Nat → Nat → Int64) (ls : Array Slot) (H : Heap) (locs : List Loc), wc_Situation_partners_33 a0 Post  I J B D → lv_has ls 3 [] → zW G A s.heap (wX ad K sv I J B D) H locs → W p l e { frames := 1, cells := 0, slots := 0, locals := 22 } s m ([.ref (ad 7), .int a0] : List Value).toArray below meth c H locs 0 0 (MQ below (va_Ql (fun (r : Int64) (u : zS) => Post r u.1 u.2.1 u.2.2.1 u.2.2.2) (fun u t => zPost G K A (wX ad K sv u.1 u.2.1 u.2.2.1 u.2.2.2) t) A) ([.ref (ad 7), .int a0] : List Value).toArray s 0 0 A) (F0 m 33 ls []) := by
  obtain ⟨hx, hb, hr, hml, hts, hown, hlocks, hA, hK⟩ := id C
  intro  I J B D ls H locs hok hl hw
  unfold wc_Situation_partners_33 at hok
  refine lv_lconst (v := 0) hx hb zd_Situation_partners_33 (by decide) ?_
  exact (z_lret (u := (I, J, B, D)) hx hb hr hlocks hw (List.range 65) wX_all wX_nd hok (Nat.le_of_ble_eq_true rfl) (Nat.le_of_ble_eq_true rfl) zd_Situation_partners_34)
set_option maxHeartbeats 8000000 in
set_option maxRecDepth 100000 in
theorem w_Situation_partners (l : Launch) (G : va_G) (K : Nat → ClassId) (ad : Nat → Nat) (sv : Value) (I : Nat → Int32) (J : Nat → Int64) (B : Nat → Nat → Int32) (D : Nat → Nat → Int64) (a0 : Int32) (Post : Int64 → (Nat → Int32) → (Nat → Int64) → (Nat → Nat → Int32) → (Nat → Nat → Int64) → Prop) (sz : Nat) (hok : wp_Situation_partners I J B D a0 Post) : Met l zy_Situation_partners (Cond.code zy_Situation_partners prog_8_method_10_code 3 (some .long) :: zTB) { frames := 1, cells := 0, slots := 0, locals := 22 } (va_Pc [.ref (ad 7), .int a0] (zPre G K (wX ad K sv I J B D) sz)) (va_Ql (fun (r : Int64) (u : zS) => Post r u.1 u.2.1 u.2.2.1 u.2.2.2) (fun u t => zPost G K (va_A (wX ad K sv I J B D) sz) (wX ad K sv u.1 u.2.1 u.2.2.1 u.2.2.2) t) (va_A (wX ad K sv I J B D) sz)) 0 0 (va_A (wX ad K sv I J B D) sz) := by
  refine zMet (y := zy_Situation_partners) (av := [.ref (ad 7), .int a0]) (maxL := 3) (cc := prog_8_method_10_code) (ret := (some .long)) (W0 := (wX ad K sv I J B D)) (sz := sz) (G := G) (K := K) (wt := zTB) (mc := 0) (ms := 0) (Qf := fun A => va_Ql (fun (r : Int64) (u : zS) => Post r u.1 u.2.1 u.2.2.1 u.2.2.2) (fun u t => zPost G K A (wX ad K sv u.1 u.2.1 u.2.2.1 u.2.2.2) t) A) (by decide) (Nat.le_of_ble_eq_true rfl) ?_
  intro p e s m below meth c ls A hx hb hr hml hts hown hlocks hin hA hK H locs hw hsz hl
  clear hsz
  have hown : s.vm.findClass "LassoFinder$Situation" = some m.cls := hown
  have C : zCx p s m ([.ref (ad 7), .int a0] : List Value).toArray meth c A G K prog_8_method_10_code (some .long) 3 "LassoFinder$Situation" := ⟨hx, hb, hr, hml, hts, hown, hlocks, hA, hK⟩
  have hl : lv_has ls 3 [(0, .ref (ad 7)), (1, .int a0)] := hl
  have hw : zW G A s.heap (wX ad K sv I J B D) H locs := hw
  unfold wp_Situation_partners at hok
  refine lv_aload_n hx hb zd_Situation_partners_0 rfl (lv_at hl 0 rfl) ?_
  refine z_get (v := .ref (ad 3)) hx hb hts hown hK hw zZ7 7 wX_g7 2 (by decide) zn_463 rfl zd_Situation_partners_1 ?_
  refine z_get (v := .ref (ad 18)) hx hb hts hown hK hw zZ6 3 wX_g3 0 (by decide) zn_465 rfl zd_Situation_partners_4 ?_
  refine lv_iload_n hx hb zd_Situation_partners_7 rfl (lv_at hl 1 rfl) ?_
  refine va_iald (f := (B 6)) hx hb hK hw.1 18 0 wX_a18 rfl hok.1 zd_Situation_partners_8 ?_
  have hok := hok.2
  refine lv_topi (fun z1 ez1 => ?_)
  have hok := hok z1 ez1
  refine lv_iconst (v := 2) hx hb zd_Situation_partners_9 (by decide) ?_
  refine lv_icmp_ne (tgt := 33) hx hb zd_Situation_partners_10 (by decide) (fun hc2 => ?_) (fun hc2 => ?_)
  · have hok := hok.1 hc2
    exact wJ_Situation_partners_33 G K ad sv a0 Post C I J B D ls H locs hok (lv_sub hl [] rfl) hw
  · have hok := hok.2 hc2
    refine lv_aload_n hx hb zd_Situation_partners_13 rfl (lv_at hl 0 rfl) ?_
    refine z_get (v := .ref (ad 2)) hx hb hts hown hK hw zZ7 7 wX_g7 0 (by decide) zn_306 rfl zd_Situation_partners_14 ?_
    refine z_get (v := .ref (ad 15)) hx hb hts hown hK hw zZ5 2 wX_g2 1 (by decide) zn_472 rfl zd_Situation_partners_17 ?_
    refine lv_aload_n hx hb zd_Situation_partners_20 rfl (lv_at hl 0 rfl) ?_
    refine z_get (v := .ref (ad 3)) hx hb hts hown hK hw zZ7 7 wX_g7 2 (by decide) zn_463 rfl zd_Situation_partners_21 ?_
    refine z_get (v := .ref (ad 19)) hx hb hts hown hK hw zZ6 3 wX_g3 1 (by decide) zn_467 rfl zd_Situation_partners_24 ?_
    refine lv_iload_n hx hb zd_Situation_partners_27 rfl (lv_at hl 1 rfl) ?_
    refine va_iald (f := (B 7)) hx hb hK hw.1 19 0 wX_a19 rfl hok.1 zd_Situation_partners_28 ?_
    have hok := hok.2
    refine lv_topi (fun z3 ez3 => ?_)
    have hok := hok z3 ez3
    refine va_iald (f := (B 3)) hx hb hK hw.1 15 0 wX_a15 rfl hok.1 zd_Situation_partners_29 ?_
    have hok := hok.2
    refine lv_topi (fun z4 ez4 => ?_)
    have hok := hok z4 ez4
    refine lv_if_le (tgt := 35) hx hb zd_Situation_partners_30 (by decide) (fun hc5 => ?_) (fun hc5 => ?_)
    · have hok := hok.1 hc5
      refine lv_aload_n hx hb zd_Situation_partners_35 rfl (lv_at hl 0 rfl) ?_
      refine z_get (v := .ref (ad 3)) hx hb hts hown hK hw zZ7 7 wX_g7 2 (by decide) zn_463 rfl zd_Situation_partners_36 ?_
      refine z_get (v := .ref (ad 22)) hx hb hts hown hK hw zZ6 3 wX_g3 4 (by decide) zn_469 rfl zd_Situation_partners_39 ?_
      refine lv_iload_n hx hb zd_Situation_partners_42 rfl (lv_at hl 1 rfl) ?_
      refine va_iald (f := (B 10)) hx hb hK hw.1 22 0 wX_a22 rfl hok.1 zd_Situation_partners_43 ?_
      have hok := hok.2
      refine lv_topi (fun z6 ez6 => ?_)
      have hok := hok z6 ez6
      refine lv_istore_n hx hb zd_Situation_partners_44 rfl hl (by decide) rfl (fun ls hl => ?_)
      have hl : lv_has ls 3 [(2, .int z6), (0, .ref (ad 7)), (1, .int a0)] := hl
      refine lv_aload_n hx hb zd_Situation_partners_45 rfl (lv_at hl 1 rfl) ?_
      refine z_get (v := .ref (ad 3)) hx hb hts hown hK hw zZ7 7 wX_g7 2 (by decide) zn_463 rfl zd_Situation_partners_46 ?_
      refine z_get (v := .ref (ad 25)) hx hb hts hown hK hw zZ6 3 wX_g3 7 (by decide) zn_473 rfl zd_Situation_partners_49 ?_
      refine lv_aload_n hx hb zd_Situation_partners_52 rfl (lv_at hl 1 rfl) ?_
      refine z_get (v := .ref (ad 3)) hx hb hts hown hK hw zZ7 7 wX_g7 2 (by decide) zn_463 rfl zd_Situation_partners_53 ?_
      refine z_get (v := .ref (ad 19)) hx hb hts hown hK hw zZ6 3 wX_g3 1 (by decide) zn_467 rfl zd_Situation_partners_56 ?_
      refine lv_iload_n hx hb zd_Situation_partners_59 rfl (lv_at hl 2 rfl) ?_
      refine va_iald (f := (B 7)) hx hb hK hw.1 19 0 wX_a19 rfl hok.1 zd_Situation_partners_60 ?_
      have hok := hok.2
      refine lv_topi (fun z7 ez7 => ?_)
      have hok := hok z7 ez7
      refine va_lald (f := (D 0)) hx hb hK hw.1 25 1 wX_a25 rfl hok.1 zd_Situation_partners_61 ?_
      have hok := hok.2
      refine lv_topl (fun z8 ez8 => ?_)
      have hok := hok z8 ez8
      refine lv_aload_n hx hb zd_Situation_partners_62 rfl (lv_at hl 1 rfl) ?_
      refine z_get (v := .long (J 1)) hx hb hts hown hK hw zZ7 7 wX_g7 7 (by decide) zn_474 rfl zd_Situation_partners_63 ?_
      refine lv_land hx hb zd_Situation_partners_66 ?_
      refine lv_topl (fun z9 ez9 => ?_)
      have hok := hok z9 ez9
      refine lv_aload_n hx hb zd_Situation_partners_67 rfl (lv_at hl 1 rfl) ?_
      refine z_get (v := .ref (ad 3)) hx hb hts hown hK hw zZ7 7 wX_g7 2 (by decide) zn_463 rfl zd_Situation_partners_68 ?_
      refine lv_iload_n hx hb zd_Situation_partners_71 rfl (lv_at hl 0 rfl) ?_
      refine lv_aload_n hx hb zd_Situation_partners_72 rfl (lv_at hl 1 rfl) ?_
      refine z_get (v := .ref (ad 45)) hx hb hts hown hK hw zZ7 7 wX_g7 5 (by decide) zn_268 rfl zd_Situation_partners_73 ?_
      refine lv_iload_n hx hb zd_Situation_partners_76 rfl (lv_at hl 0 rfl) ?_
      refine va_iald (f := (B 31)) hx hb hK hw.1 45 0 wX_a45 rfl hok.1 zd_Situation_partners_77 ?_
      have hok := hok.2
      refine lv_topi (fun z10 ez10 => ?_)
      have hok := hok z10 ez10
      refine z_calll (w1 := fun (u : zS) => wX ad K sv u.1 u.2.1 u.2.2.1 u.2.2.2) (wr := []) (z_runV (q0 := 3) (wc := (wX ad K sv I J B D)) (As := [.int z6, .int z10]) (rest := [.long z9]) ⟨hx, hb, hml, hown, hts⟩ (w_Program_at l G K ad sv I J B D z6 z10 _ H.size hok) zf_Program_at zn_396 ⟨Nat.le_of_ble_eq_true rfl, Nat.le_of_ble_eq_true rfl⟩ hK hw (List.range 65) wX_all wX_nd wX_g3 rfl rfl hl.1 rfl (Nat.le_of_ble_eq_true rfl) zd_Situation_partners_78 ⟨Nat.le_of_ble_eq_true rfl, Nat.le_of_ble_eq_true rfl⟩) hw hA (List.range 65) [] wX_all rfl (by decide) (fun i hi => by cases hi) (fun r11 u H locs hok hw => ?_)
      obtain ⟨I11, J11, B11, D11⟩ := u
      dsimp only at hok
      have hw : zW G A s.heap (wX ad K sv I11 J11 B11 D11) H locs := hw
      refine lv_ldc2 (v := (-1)) hx hb hown (hts _ zn_475) zd_Situation_partners_81 ?_
      refine lv_lxor hx hb zd_Situation_partners_84 ?_
      refine lv_topl (fun z12 ez12 => ?_)
      have hok := hok z12 ez12
      refine lv_land hx hb zd_Situation_partners_85 ?_
      refine lv_topl (fun z13 ez13 => ?_)
      have hok := hok z13 ez13
      exact (z_lret (u := (I11, J11, B11, D11)) hx hb hr hlocks hw (List.range 65) wX_all wX_nd hok (Nat.le_of_ble_eq_true rfl) (Nat.le_of_ble_eq_true rfl) zd_Situation_partners_86)
    · have hok := hok.2 hc5
      exact wJ_Situation_partners_33 G K ad sv a0 Post C I J B D ls H locs hok (lv_sub hl [] rfl) hw
