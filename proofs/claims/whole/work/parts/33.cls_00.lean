abbrev zy_LassoFinder_write : MethodName := ⟨"LassoFinder", "write", "(J)Z"⟩
abbrev zy_Text_append : MethodName := ⟨"LassoFinder$Text", "append", "(J)Z"⟩
abbrev zy_LassoFinder_place : MethodName := ⟨"LassoFinder", "place", "()I"⟩
abbrev zy_LassoFinder_steps : MethodName := ⟨"LassoFinder", "steps", "()I"⟩
abbrev zy_Graph_stepsFrom : MethodName := ⟨"LassoFinder$Graph", "stepsFrom", "(I)I"⟩
abbrev zy_LassoFinder_value : MethodName := ⟨"LassoFinder", "value", "(I)I"⟩
abbrev zy_LassoFinder_standsOnWalk : MethodName := ⟨"LassoFinder", "standsOnWalk", "()Z"⟩
abbrev zy_Situation_unpack : MethodName := ⟨"LassoFinder$Situation", "unpack", "(J)V"⟩
theorem zn_290 : Cond.methodLink "LassoFinder" 88 ⟨"LassoFinder$Text", "append", "(J)Z"⟩ ∈ zTB := z_in (zt_3 _ (List.mem_of_getElem? (i := 22) rfl)) rfl
theorem zn_291 : Cond.fieldLink "LassoFinder" 10 "LassoFinder" "text" "LLassoFinder$Text;" ∈ zTB := z_in (zt_2 _ (List.mem_of_getElem? (i := 218) rfl)) rfl
theorem zn_292 : Cond.fieldLink "LassoFinder$Text" 19 "LassoFinder$Text" "written" "I" ∈ zTB := z_in (zt_1 _ (List.mem_of_getElem? (i := 39) rfl)) rfl
theorem zn_293 : Cond.fieldLink "LassoFinder" 128 "LassoFinder$Text" "wrongAt" "I" ∈ zTB := z_in (zt_1 _ (List.mem_of_getElem? (i := 43) rfl)) rfl
theorem zn_296 : Cond.methodLink "LassoFinder" 171 ⟨"LassoFinder$Graph", "stepsFrom", "(I)I"⟩ ∈ zTB := z_in (zt_3 _ (List.mem_of_getElem? (i := 46) rfl)) rfl
theorem zn_297 : Cond.fieldLink "LassoFinder" 84 "LassoFinder" "walkLength" "I" ∈ zTB := z_in (zt_2 _ (List.mem_of_getElem? (i := 228) rfl)) rfl
theorem zn_298 : Cond.fieldLink "LassoFinder" 58 "LassoFinder" "graph" "LLassoFinder$Graph;" ∈ zTB := z_in (zt_2 _ (List.mem_of_getElem? (i := 223) rfl)) rfl
theorem zn_299 : Cond.methodLink "LassoFinder" 177 ⟨"LassoFinder", "standsOnWalk", "()Z"⟩ ∈ zTB := z_in (zt_3 _ (List.mem_of_getElem? (i := 54) rfl)) rfl
theorem zn_300 : Cond.methodLink "LassoFinder" 219 ⟨"LassoFinder$Situation", "unpack", "(J)V"⟩ ∈ zTB := z_in (zt_3 _ (List.mem_of_getElem? (i := 58) rfl)) rfl
theorem zn_301 : Cond.fieldLink "LassoFinder" 19 "LassoFinder" "names" "LLassoFinder$Names;" ∈ zTB := z_in (zt_2 _ (List.mem_of_getElem? (i := 219) rfl)) rfl
theorem zn_302 : Cond.fieldLink "LassoFinder" 180 "LassoFinder$Names" "kinds" "[I" ∈ zTB := z_in (zt_1 _ (List.mem_of_getElem? (i := 65) rfl)) rfl
theorem zn_303 : Cond.fieldLink "LassoFinder" 49 "LassoFinder" "situation" "LLassoFinder$Situation;" ∈ zTB := z_in (zt_2 _ (List.mem_of_getElem? (i := 222) rfl)) rfl
theorem zn_304 : Cond.fieldLink "LassoFinder" 183 "LassoFinder$Situation" "amounts" "[I" ∈ zTB := z_in (zt_2 _ (List.mem_of_getElem? (i := 49) rfl)) rfl
theorem zn_305 : Cond.fieldLink "LassoFinder" 215 "LassoFinder$Graph" "packedStates" "[J" ∈ zTB := z_in (zt_2 _ (List.mem_of_getElem? (i := 83) rfl)) rfl
theorem zn_306 : Cond.fieldLink "LassoFinder$Situation" 9 "LassoFinder$Situation" "names" "LLassoFinder$Names;" ∈ zTB := z_in (zt_2 _ (List.mem_of_getElem? (i := 44) rfl)) rfl
theorem zn_307 : Cond.fieldLink "LassoFinder$Situation" 65 "LassoFinder$Names" "channels" "I" ∈ zTB := z_in (zt_1 _ (List.mem_of_getElem? (i := 75) rfl)) rfl
theorem zn_308 : Cond.fieldLink "LassoFinder$Situation" 68 "LassoFinder$Names" "channelNames" "[I" ∈ zTB := z_in (zt_1 _ (List.mem_of_getElem? (i := 71) rfl)) rfl
theorem zn_309 : Cond.fieldLink "LassoFinder$Situation" 47 "LassoFinder$Names" "variables" "I" ∈ zTB := z_in (zt_1 _ (List.mem_of_getElem? (i := 73) rfl)) rfl
theorem zn_310 : Cond.fieldLink "LassoFinder$Situation" 50 "LassoFinder$Names" "variableNames" "[I" ∈ zTB := z_in (zt_1 _ (List.mem_of_getElem? (i := 69) rfl)) rfl
theorem zn_311 : Cond.fieldLink "LassoFinder$Situation" 37 "LassoFinder$Situation" "holding" "I" ∈ zTB := z_in (zt_2 _ (List.mem_of_getElem? (i := 54) rfl)) rfl
theorem zn_583 : Cond.code ⟨"LassoFinder$Text", "append", "(J)Z"⟩ prog_10_method_2_code 6 (some .boolean) ∈ zTB := z_in (zt_3 _ (List.mem_of_getElem? (i := 25) rfl)) rfl
theorem zn_584 : Cond.selects "LassoFinder$Text" ⟨"LassoFinder$Text", "append", "(J)Z"⟩ ⟨"LassoFinder$Text", "append", "(J)Z"⟩ ∈ zTB := z_in (zt_3 _ (List.mem_of_getElem? (i := 24) rfl)) rfl
theorem zn_585 : Cond.instanceMethod ⟨"LassoFinder$Text", "append", "(J)Z"⟩ ∈ zTB := z_in (zt_3 _ (List.mem_of_getElem? (i := 23) rfl)) rfl
theorem zn_586 : Cond.code ⟨"LassoFinder$Graph", "stepsFrom", "(I)I"⟩ prog_3_method_2_code 2 (some .int) ∈ zTB := z_in (zt_3 _ (List.mem_of_getElem? (i := 49) rfl)) rfl
theorem zn_587 : Cond.selects "LassoFinder$Graph" ⟨"LassoFinder$Graph", "stepsFrom", "(I)I"⟩ ⟨"LassoFinder$Graph", "stepsFrom", "(I)I"⟩ ∈ zTB := z_in (zt_3 _ (List.mem_of_getElem? (i := 48) rfl)) rfl
theorem zn_588 : Cond.instanceMethod ⟨"LassoFinder$Graph", "stepsFrom", "(I)I"⟩ ∈ zTB := z_in (zt_3 _ (List.mem_of_getElem? (i := 47) rfl)) rfl
theorem zn_589 : Cond.code ⟨"LassoFinder$Situation", "unpack", "(J)V"⟩ prog_8_method_4_code 8 none ∈ zTB := z_in (zt_3 _ (List.mem_of_getElem? (i := 61) rfl)) rfl
theorem zn_590 : Cond.selects "LassoFinder$Situation" ⟨"LassoFinder$Situation", "unpack", "(J)V"⟩ ⟨"LassoFinder$Situation", "unpack", "(J)V"⟩ ∈ zTB := z_in (zt_3 _ (List.mem_of_getElem? (i := 60) rfl)) rfl
theorem zn_591 : Cond.instanceMethod ⟨"LassoFinder$Situation", "unpack", "(J)V"⟩ ∈ zTB := z_in (zt_3 _ (List.mem_of_getElem? (i := 59) rfl)) rfl
theorem zn_592 : Cond.code ⟨"LassoFinder", "standsOnWalk", "()Z"⟩ prog_1_method_21_code 1 (some .boolean) ∈ zTB := z_in (zt_3 _ (List.mem_of_getElem? (i := 57) rfl)) rfl
theorem zn_593 : Cond.instanceMethod ⟨"LassoFinder", "standsOnWalk", "()Z"⟩ ∈ zTB := z_in (zt_3 _ (List.mem_of_getElem? (i := 56) rfl)) rfl
theorem zf_Text_append : zFaceV zy_Text_append prog_10_method_2_code 6 (some .boolean) 1 := ⟨zn_585, zn_584, zm_19, zn_583, by decide +kernel, by decide +kernel, by decide +kernel⟩
theorem zf_Graph_stepsFrom : zFaceV zy_Graph_stepsFrom prog_3_method_2_code 2 (some .int) 1 := ⟨zn_588, zn_587, zm_5, zn_586, by decide +kernel, by decide +kernel, by decide +kernel⟩
theorem zf_Situation_unpack : zFaceV zy_Situation_unpack prog_8_method_4_code 8 none 1 := ⟨zn_591, zn_590, zm_15, zn_589, by decide +kernel, by decide +kernel, by decide +kernel⟩
theorem zf_LassoFinder_standsOnWalk : zFaceV zy_LassoFinder_standsOnWalk prog_1_method_21_code 1 (some .boolean) 0 := ⟨zn_593, (z_in (zp_1 _ (List.mem_of_getElem? (i := 1) rfl)) rfl), zm_1, zn_592, by decide +kernel, by decide +kernel, by decide +kernel⟩
theorem zd_Graph_stepsFrom_0 : decode prog_3_method_2_code 0 = .ok (.aload_n 0, 1) := by decide +kernel
theorem zd_Graph_stepsFrom_1 : decode prog_3_method_2_code 1 = .ok (.getfield 19, 3) := by decide +kernel
theorem zd_Graph_stepsFrom_4 : decode prog_3_method_2_code 4 = .ok (.iload_n 1, 1) := by decide +kernel
theorem zd_Graph_stepsFrom_5 : decode prog_3_method_2_code 5 = .ok (.iconst 1, 1) := by decide +kernel
theorem zd_Graph_stepsFrom_6 : decode prog_3_method_2_code 6 = .ok (.iadd, 1) := by decide +kernel
theorem zd_Graph_stepsFrom_7 : decode prog_3_method_2_code 7 = .ok (.iaload, 1) := by decide +kernel
theorem zd_Graph_stepsFrom_8 : decode prog_3_method_2_code 8 = .ok (.aload_n 0, 1) := by decide +kernel
theorem zd_Graph_stepsFrom_9 : decode prog_3_method_2_code 9 = .ok (.getfield 19, 3) := by decide +kernel
theorem zd_Graph_stepsFrom_12 : decode prog_3_method_2_code 12 = .ok (.iload_n 1, 1) := by decide +kernel
theorem zd_Graph_stepsFrom_13 : decode prog_3_method_2_code 13 = .ok (.iaload, 1) := by decide +kernel
theorem zd_Graph_stepsFrom_14 : decode prog_3_method_2_code 14 = .ok (.isub, 1) := by decide +kernel
theorem zd_Graph_stepsFrom_15 : decode prog_3_method_2_code 15 = .ok (.ireturn, 1) := by decide +kernel
theorem zd_LassoFinder_place_0 : decode prog_1_method_5_code 0 = .ok (.aload_n 0, 1) := by decide +kernel
theorem zd_LassoFinder_place_1 : decode prog_1_method_5_code 1 = .ok (.getfield 10, 3) := by decide +kernel
theorem zd_LassoFinder_place_4 : decode prog_1_method_5_code 4 = .ok (.getfield 128, 3) := by decide +kernel
theorem zd_LassoFinder_place_7 : decode prog_1_method_5_code 7 = .ok (.ireturn, 1) := by decide +kernel
theorem zd_LassoFinder_standsOnWalk_0 : decode prog_1_method_21_code 0 = .ok (.aload_n 0, 1) := by decide +kernel
theorem zd_LassoFinder_standsOnWalk_1 : decode prog_1_method_21_code 1 = .ok (.getfield 84, 3) := by decide +kernel
theorem zd_LassoFinder_standsOnWalk_4 : decode prog_1_method_21_code 4 = .ok (.iconst (-1), 1) := by decide +kernel
theorem zd_LassoFinder_standsOnWalk_5 : decode prog_1_method_21_code 5 = .ok (.if_icmp .ne 5, 3) := by decide +kernel
theorem zd_LassoFinder_standsOnWalk_8 : decode prog_1_method_21_code 8 = .ok (.iconst 0, 1) := by decide +kernel
theorem zd_LassoFinder_standsOnWalk_9 : decode prog_1_method_21_code 9 = .ok (.ireturn, 1) := by decide +kernel
theorem zd_LassoFinder_standsOnWalk_10 : decode prog_1_method_21_code 10 = .ok (.aload_n 0, 1) := by decide +kernel
theorem zd_LassoFinder_standsOnWalk_11 : decode prog_1_method_21_code 11 = .ok (.getfield 49, 3) := by decide +kernel
theorem zd_LassoFinder_standsOnWalk_14 : decode prog_1_method_21_code 14 = .ok (.aload_n 0, 1) := by decide +kernel
theorem zd_LassoFinder_standsOnWalk_15 : decode prog_1_method_21_code 15 = .ok (.getfield 58, 3) := by decide +kernel
theorem zd_LassoFinder_standsOnWalk_18 : decode prog_1_method_21_code 18 = .ok (.getfield 215, 3) := by decide +kernel
theorem zd_LassoFinder_standsOnWalk_21 : decode prog_1_method_21_code 21 = .ok (.aload_n 0, 1) := by decide +kernel
theorem zd_LassoFinder_standsOnWalk_22 : decode prog_1_method_21_code 22 = .ok (.getfield 80, 3) := by decide +kernel
theorem zd_LassoFinder_standsOnWalk_25 : decode prog_1_method_21_code 25 = .ok (.aload_n 0, 1) := by decide +kernel
theorem zd_LassoFinder_standsOnWalk_26 : decode prog_1_method_21_code 26 = .ok (.getfield 84, 3) := by decide +kernel
theorem zd_LassoFinder_standsOnWalk_29 : decode prog_1_method_21_code 29 = .ok (.iaload, 1) := by decide +kernel
theorem zd_LassoFinder_standsOnWalk_30 : decode prog_1_method_21_code 30 = .ok (.laload, 1) := by decide +kernel
theorem zd_LassoFinder_standsOnWalk_31 : decode prog_1_method_21_code 31 = .ok (.invokevirtual 219, 3) := by decide +kernel
theorem zd_LassoFinder_standsOnWalk_34 : decode prog_1_method_21_code 34 = .ok (.iconst 1, 1) := by decide +kernel
theorem zd_LassoFinder_standsOnWalk_35 : decode prog_1_method_21_code 35 = .ok (.ireturn, 1) := by decide +kernel
theorem zd_LassoFinder_steps_0 : decode prog_1_method_11_code 0 = .ok (.aload_n 0, 1) := by decide +kernel
theorem zd_LassoFinder_steps_1 : decode prog_1_method_11_code 1 = .ok (.getfield 84, 3) := by decide +kernel
theorem zd_LassoFinder_steps_4 : decode prog_1_method_11_code 4 = .ok (.iconst (-1), 1) := by decide +kernel
theorem zd_LassoFinder_steps_5 : decode prog_1_method_11_code 5 = .ok (.if_icmp .ne 7, 3) := by decide +kernel
theorem zd_LassoFinder_steps_8 : decode prog_1_method_11_code 8 = .ok (.iconst 0, 1) := by decide +kernel
theorem zd_LassoFinder_steps_9 : decode prog_1_method_11_code 9 = .ok (.goto 19, 3) := by decide +kernel
theorem zd_LassoFinder_steps_12 : decode prog_1_method_11_code 12 = .ok (.aload_n 0, 1) := by decide +kernel
theorem zd_LassoFinder_steps_13 : decode prog_1_method_11_code 13 = .ok (.getfield 58, 3) := by decide +kernel
theorem zd_LassoFinder_steps_16 : decode prog_1_method_11_code 16 = .ok (.aload_n 0, 1) := by decide +kernel
theorem zd_LassoFinder_steps_17 : decode prog_1_method_11_code 17 = .ok (.getfield 80, 3) := by decide +kernel
theorem zd_LassoFinder_steps_20 : decode prog_1_method_11_code 20 = .ok (.aload_n 0, 1) := by decide +kernel
theorem zd_LassoFinder_steps_21 : decode prog_1_method_11_code 21 = .ok (.getfield 84, 3) := by decide +kernel
theorem zd_LassoFinder_steps_24 : decode prog_1_method_11_code 24 = .ok (.iaload, 1) := by decide +kernel
theorem zd_LassoFinder_steps_25 : decode prog_1_method_11_code 25 = .ok (.invokevirtual 171, 3) := by decide +kernel
theorem zd_LassoFinder_steps_28 : decode prog_1_method_11_code 28 = .ok (.ireturn, 1) := by decide +kernel
theorem zd_LassoFinder_value_0 : decode prog_1_method_13_code 0 = .ok (.aload_n 0, 1) := by decide +kernel
theorem zd_LassoFinder_value_1 : decode prog_1_method_13_code 1 = .ok (.invokevirtual 177, 3) := by decide +kernel
theorem zd_LassoFinder_value_4 : decode prog_1_method_13_code 4 = .ok (.ifCond .eq 25, 3) := by decide +kernel
theorem zd_LassoFinder_value_7 : decode prog_1_method_13_code 7 = .ok (.iload_n 1, 1) := by decide +kernel
theorem zd_LassoFinder_value_8 : decode prog_1_method_13_code 8 = .ok (.ifCond .lt 21, 3) := by decide +kernel
theorem zd_LassoFinder_value_11 : decode prog_1_method_13_code 11 = .ok (.iload_n 1, 1) := by decide +kernel
theorem zd_LassoFinder_value_12 : decode prog_1_method_13_code 12 = .ok (.bipush 8, 2) := by decide +kernel
theorem zd_LassoFinder_value_14 : decode prog_1_method_13_code 14 = .ok (.if_icmp .ge 15, 3) := by decide +kernel
theorem zd_LassoFinder_value_17 : decode prog_1_method_13_code 17 = .ok (.aload_n 0, 1) := by decide +kernel
theorem zd_LassoFinder_value_18 : decode prog_1_method_13_code 18 = .ok (.getfield 19, 3) := by decide +kernel
theorem zd_LassoFinder_value_21 : decode prog_1_method_13_code 21 = .ok (.getfield 180, 3) := by decide +kernel
theorem zd_LassoFinder_value_24 : decode prog_1_method_13_code 24 = .ok (.iload_n 1, 1) := by decide +kernel
theorem zd_LassoFinder_value_25 : decode prog_1_method_13_code 25 = .ok (.iaload, 1) := by decide +kernel
theorem zd_LassoFinder_value_26 : decode prog_1_method_13_code 26 = .ok (.ifCond .ne 5, 3) := by decide +kernel
theorem zd_LassoFinder_value_29 : decode prog_1_method_13_code 29 = .ok (.iconst (-1), 1) := by decide +kernel
theorem zd_LassoFinder_value_30 : decode prog_1_method_13_code 30 = .ok (.ireturn, 1) := by decide +kernel
theorem zd_LassoFinder_value_31 : decode prog_1_method_13_code 31 = .ok (.aload_n 0, 1) := by decide +kernel
theorem zd_LassoFinder_value_32 : decode prog_1_method_13_code 32 = .ok (.getfield 49, 3) := by decide +kernel
theorem zd_LassoFinder_value_35 : decode prog_1_method_13_code 35 = .ok (.getfield 183, 3) := by decide +kernel
theorem zd_LassoFinder_value_38 : decode prog_1_method_13_code 38 = .ok (.iload_n 1, 1) := by decide +kernel
theorem zd_LassoFinder_value_39 : decode prog_1_method_13_code 39 = .ok (.iaload, 1) := by decide +kernel
theorem zd_LassoFinder_value_40 : decode prog_1_method_13_code 40 = .ok (.ireturn, 1) := by decide +kernel
theorem zd_LassoFinder_write_0 : decode prog_1_method_2_code 0 = .ok (.aload_n 0, 1) := by decide +kernel
theorem zd_LassoFinder_write_1 : decode prog_1_method_2_code 1 = .ok (.getfield 10, 3) := by decide +kernel
theorem zd_LassoFinder_write_4 : decode prog_1_method_2_code 4 = .ok (.lload_n 1, 1) := by decide +kernel
theorem zd_LassoFinder_write_5 : decode prog_1_method_2_code 5 = .ok (.invokevirtual 88, 3) := by decide +kernel
theorem zd_LassoFinder_write_8 : decode prog_1_method_2_code 8 = .ok (.ireturn, 1) := by decide +kernel
theorem zd_Situation_unpack_0 : decode prog_8_method_4_code 0 = .ok (.lload_n 1, 1) := by decide +kernel
theorem zd_Situation_unpack_1 : decode prog_8_method_4_code 1 = .ok (.lstore_n 3, 1) := by decide +kernel
theorem zd_Situation_unpack_2 : decode prog_8_method_4_code 2 = .ok (.aload_n 0, 1) := by decide +kernel
theorem zd_Situation_unpack_3 : decode prog_8_method_4_code 3 = .ok (.getfield 9, 3) := by decide +kernel
theorem zd_Situation_unpack_6 : decode prog_8_method_4_code 6 = .ok (.getfield 65, 3) := by decide +kernel
theorem zd_Situation_unpack_9 : decode prog_8_method_4_code 9 = .ok (.iconst 1, 1) := by decide +kernel
theorem zd_Situation_unpack_10 : decode prog_8_method_4_code 10 = .ok (.isub, 1) := by decide +kernel
theorem zd_Situation_unpack_11 : decode prog_8_method_4_code 11 = .ok (.istore 5, 2) := by decide +kernel
theorem zd_Situation_unpack_13 : decode prog_8_method_4_code 13 = .ok (.iload 5, 2) := by decide +kernel
theorem zd_Situation_unpack_15 : decode prog_8_method_4_code 15 = .ok (.ifCond .lt 71, 3) := by decide +kernel
theorem zd_Situation_unpack_18 : decode prog_8_method_4_code 18 = .ok (.aload_n 0, 1) := by decide +kernel
theorem zd_Situation_unpack_19 : decode prog_8_method_4_code 19 = .ok (.getfield 9, 3) := by decide +kernel
theorem zd_Situation_unpack_22 : decode prog_8_method_4_code 22 = .ok (.getfield 68, 3) := by decide +kernel
theorem zd_Situation_unpack_25 : decode prog_8_method_4_code 25 = .ok (.iload 5, 2) := by decide +kernel
theorem zd_Situation_unpack_27 : decode prog_8_method_4_code 27 = .ok (.iaload, 1) := by decide +kernel
theorem zd_Situation_unpack_28 : decode prog_8_method_4_code 28 = .ok (.istore 6, 2) := by decide +kernel
theorem zd_Situation_unpack_30 : decode prog_8_method_4_code 30 = .ok (.iconst 2, 1) := by decide +kernel
theorem zd_Situation_unpack_31 : decode prog_8_method_4_code 31 = .ok (.istore 7, 2) := by decide +kernel
theorem zd_Situation_unpack_33 : decode prog_8_method_4_code 33 = .ok (.iload 7, 2) := by decide +kernel
theorem zd_Situation_unpack_35 : decode prog_8_method_4_code 35 = .ok (.ifCond .lt 30, 3) := by decide +kernel
theorem zd_Situation_unpack_38 : decode prog_8_method_4_code 38 = .ok (.aload_n 0, 1) := by decide +kernel
theorem zd_Situation_unpack_39 : decode prog_8_method_4_code 39 = .ok (.getfield 29, 3) := by decide +kernel
theorem zd_Situation_unpack_42 : decode prog_8_method_4_code 42 = .ok (.iload 6, 2) := by decide +kernel
theorem zd_Situation_unpack_44 : decode prog_8_method_4_code 44 = .ok (.iconst 3, 1) := by decide +kernel
theorem zd_Situation_unpack_45 : decode prog_8_method_4_code 45 = .ok (.imul, 1) := by decide +kernel
theorem zd_Situation_unpack_46 : decode prog_8_method_4_code 46 = .ok (.iload 7, 2) := by decide +kernel
theorem zd_Situation_unpack_48 : decode prog_8_method_4_code 48 = .ok (.iadd, 1) := by decide +kernel
theorem zd_Situation_unpack_49 : decode prog_8_method_4_code 49 = .ok (.lload_n 3, 1) := by decide +kernel
theorem zd_Situation_unpack_50 : decode prog_8_method_4_code 50 = .ok (.l2i, 1) := by decide +kernel
theorem zd_Situation_unpack_51 : decode prog_8_method_4_code 51 = .ok (.bipush 7, 2) := by decide +kernel
theorem zd_Situation_unpack_53 : decode prog_8_method_4_code 53 = .ok (.iand, 1) := by decide +kernel
theorem zd_Situation_unpack_54 : decode prog_8_method_4_code 54 = .ok (.iastore, 1) := by decide +kernel
theorem zd_Situation_unpack_55 : decode prog_8_method_4_code 55 = .ok (.lload_n 3, 1) := by decide +kernel
theorem zd_Situation_unpack_56 : decode prog_8_method_4_code 56 = .ok (.iconst 3, 1) := by decide +kernel
theorem zd_Situation_unpack_57 : decode prog_8_method_4_code 57 = .ok (.lushr, 1) := by decide +kernel
theorem zd_Situation_unpack_58 : decode prog_8_method_4_code 58 = .ok (.lstore_n 3, 1) := by decide +kernel
theorem zd_Situation_unpack_59 : decode prog_8_method_4_code 59 = .ok (.iinc 7 (-1), 3) := by decide +kernel
theorem zd_Situation_unpack_62 : decode prog_8_method_4_code 62 = .ok (.goto (-29), 3) := by decide +kernel
theorem zd_Situation_unpack_65 : decode prog_8_method_4_code 65 = .ok (.aload_n 0, 1) := by decide +kernel
theorem zd_Situation_unpack_66 : decode prog_8_method_4_code 66 = .ok (.getfield 25, 3) := by decide +kernel
theorem zd_Situation_unpack_69 : decode prog_8_method_4_code 69 = .ok (.iload 6, 2) := by decide +kernel
theorem zd_Situation_unpack_71 : decode prog_8_method_4_code 71 = .ok (.lload_n 3, 1) := by decide +kernel
theorem zd_Situation_unpack_72 : decode prog_8_method_4_code 72 = .ok (.l2i, 1) := by decide +kernel
theorem zd_Situation_unpack_73 : decode prog_8_method_4_code 73 = .ok (.iconst 3, 1) := by decide +kernel
theorem zd_Situation_unpack_74 : decode prog_8_method_4_code 74 = .ok (.iand, 1) := by decide +kernel
theorem zd_Situation_unpack_75 : decode prog_8_method_4_code 75 = .ok (.iastore, 1) := by decide +kernel
theorem zd_Situation_unpack_76 : decode prog_8_method_4_code 76 = .ok (.lload_n 3, 1) := by decide +kernel
theorem zd_Situation_unpack_77 : decode prog_8_method_4_code 77 = .ok (.iconst 2, 1) := by decide +kernel
theorem zd_Situation_unpack_78 : decode prog_8_method_4_code 78 = .ok (.lushr, 1) := by decide +kernel
theorem zd_Situation_unpack_79 : decode prog_8_method_4_code 79 = .ok (.lstore_n 3, 1) := by decide +kernel
theorem zd_Situation_unpack_80 : decode prog_8_method_4_code 80 = .ok (.iinc 5 (-1), 3) := by decide +kernel
theorem zd_Situation_unpack_83 : decode prog_8_method_4_code 83 = .ok (.goto (-70), 3) := by decide +kernel
theorem zd_Situation_unpack_86 : decode prog_8_method_4_code 86 = .ok (.aload_n 0, 1) := by decide +kernel
theorem zd_Situation_unpack_87 : decode prog_8_method_4_code 87 = .ok (.getfield 9, 3) := by decide +kernel
theorem zd_Situation_unpack_90 : decode prog_8_method_4_code 90 = .ok (.getfield 47, 3) := by decide +kernel
theorem zd_Situation_unpack_93 : decode prog_8_method_4_code 93 = .ok (.iconst 1, 1) := by decide +kernel
theorem zd_Situation_unpack_94 : decode prog_8_method_4_code 94 = .ok (.isub, 1) := by decide +kernel
theorem zd_Situation_unpack_95 : decode prog_8_method_4_code 95 = .ok (.istore 5, 2) := by decide +kernel
theorem zd_Situation_unpack_97 : decode prog_8_method_4_code 97 = .ok (.iload 5, 2) := by decide +kernel
theorem zd_Situation_unpack_99 : decode prog_8_method_4_code 99 = .ok (.ifCond .lt 33, 3) := by decide +kernel
theorem zd_Situation_unpack_102 : decode prog_8_method_4_code 102 = .ok (.aload_n 0, 1) := by decide +kernel
theorem zd_Situation_unpack_103 : decode prog_8_method_4_code 103 = .ok (.getfield 25, 3) := by decide +kernel
theorem zd_Situation_unpack_106 : decode prog_8_method_4_code 106 = .ok (.aload_n 0, 1) := by decide +kernel
theorem zd_Situation_unpack_107 : decode prog_8_method_4_code 107 = .ok (.getfield 9, 3) := by decide +kernel
theorem zd_Situation_unpack_110 : decode prog_8_method_4_code 110 = .ok (.getfield 50, 3) := by decide +kernel
theorem zd_Situation_unpack_113 : decode prog_8_method_4_code 113 = .ok (.iload 5, 2) := by decide +kernel
theorem zd_Situation_unpack_115 : decode prog_8_method_4_code 115 = .ok (.iaload, 1) := by decide +kernel
theorem zd_Situation_unpack_116 : decode prog_8_method_4_code 116 = .ok (.lload_n 3, 1) := by decide +kernel
theorem zd_Situation_unpack_117 : decode prog_8_method_4_code 117 = .ok (.l2i, 1) := by decide +kernel
theorem zd_Situation_unpack_118 : decode prog_8_method_4_code 118 = .ok (.bipush 7, 2) := by decide +kernel
theorem zd_Situation_unpack_120 : decode prog_8_method_4_code 120 = .ok (.iand, 1) := by decide +kernel
theorem zd_Situation_unpack_121 : decode prog_8_method_4_code 121 = .ok (.iastore, 1) := by decide +kernel
theorem zd_Situation_unpack_122 : decode prog_8_method_4_code 122 = .ok (.lload_n 3, 1) := by decide +kernel
theorem zd_Situation_unpack_123 : decode prog_8_method_4_code 123 = .ok (.iconst 3, 1) := by decide +kernel
theorem zd_Situation_unpack_124 : decode prog_8_method_4_code 124 = .ok (.lushr, 1) := by decide +kernel
theorem zd_Situation_unpack_125 : decode prog_8_method_4_code 125 = .ok (.lstore_n 3, 1) := by decide +kernel
theorem zd_Situation_unpack_126 : decode prog_8_method_4_code 126 = .ok (.iinc 5 (-1), 3) := by decide +kernel
theorem zd_Situation_unpack_129 : decode prog_8_method_4_code 129 = .ok (.goto (-32), 3) := by decide +kernel
theorem zd_Situation_unpack_132 : decode prog_8_method_4_code 132 = .ok (.iconst 3, 1) := by decide +kernel
theorem zd_Situation_unpack_133 : decode prog_8_method_4_code 133 = .ok (.istore 5, 2) := by decide +kernel
theorem zd_Situation_unpack_135 : decode prog_8_method_4_code 135 = .ok (.iload 5, 2) := by decide +kernel
theorem zd_Situation_unpack_137 : decode prog_8_method_4_code 137 = .ok (.ifCond .lt 25, 3) := by decide +kernel
theorem zd_Situation_unpack_140 : decode prog_8_method_4_code 140 = .ok (.aload_n 0, 1) := by decide +kernel
theorem zd_Situation_unpack_141 : decode prog_8_method_4_code 141 = .ok (.getfield 34, 3) := by decide +kernel
theorem zd_Situation_unpack_144 : decode prog_8_method_4_code 144 = .ok (.iload 5, 2) := by decide +kernel
theorem zd_Situation_unpack_146 : decode prog_8_method_4_code 146 = .ok (.lload_n 3, 1) := by decide +kernel
theorem zd_Situation_unpack_147 : decode prog_8_method_4_code 147 = .ok (.l2i, 1) := by decide +kernel
theorem zd_Situation_unpack_148 : decode prog_8_method_4_code 148 = .ok (.bipush 31, 2) := by decide +kernel
theorem zd_Situation_unpack_150 : decode prog_8_method_4_code 150 = .ok (.iand, 1) := by decide +kernel
theorem zd_Situation_unpack_151 : decode prog_8_method_4_code 151 = .ok (.iastore, 1) := by decide +kernel
theorem zd_Situation_unpack_152 : decode prog_8_method_4_code 152 = .ok (.lload_n 3, 1) := by decide +kernel
theorem zd_Situation_unpack_153 : decode prog_8_method_4_code 153 = .ok (.iconst 5, 1) := by decide +kernel
theorem zd_Situation_unpack_154 : decode prog_8_method_4_code 154 = .ok (.lushr, 1) := by decide +kernel
theorem zd_Situation_unpack_155 : decode prog_8_method_4_code 155 = .ok (.lstore_n 3, 1) := by decide +kernel
theorem zd_Situation_unpack_156 : decode prog_8_method_4_code 156 = .ok (.iinc 5 (-1), 3) := by decide +kernel
theorem zd_Situation_unpack_159 : decode prog_8_method_4_code 159 = .ok (.goto (-24), 3) := by decide +kernel
theorem zd_Situation_unpack_162 : decode prog_8_method_4_code 162 = .ok (.aload_n 0, 1) := by decide +kernel
theorem zd_Situation_unpack_163 : decode prog_8_method_4_code 163 = .ok (.lload_n 3, 1) := by decide +kernel
theorem zd_Situation_unpack_164 : decode prog_8_method_4_code 164 = .ok (.l2i, 1) := by decide +kernel
theorem zd_Situation_unpack_165 : decode prog_8_method_4_code 165 = .ok (.iconst 1, 1) := by decide +kernel
theorem zd_Situation_unpack_166 : decode prog_8_method_4_code 166 = .ok (.isub, 1) := by decide +kernel
theorem zd_Situation_unpack_167 : decode prog_8_method_4_code 167 = .ok (.putfield 37, 3) := by decide +kernel
theorem zd_Situation_unpack_170 : decode prog_8_method_4_code 170 = .ok (.return_, 1) := by decide +kernel
theorem zd_Text_append_0 : decode prog_10_method_2_code 0 = .ok (.iconst 0, 1) := by decide +kernel
theorem zd_Text_append_1 : decode prog_10_method_2_code 1 = .ok (.istore_n 3, 1) := by decide +kernel
theorem zd_Text_append_2 : decode prog_10_method_2_code 2 = .ok (.bipush 56, 2) := by decide +kernel
theorem zd_Text_append_4 : decode prog_10_method_2_code 4 = .ok (.istore 4, 2) := by decide +kernel
theorem zd_Text_append_6 : decode prog_10_method_2_code 6 = .ok (.iload 4, 2) := by decide +kernel
theorem zd_Text_append_8 : decode prog_10_method_2_code 8 = .ok (.ifCond .lt 54, 3) := by decide +kernel
theorem zd_Text_append_11 : decode prog_10_method_2_code 11 = .ok (.lload_n 1, 1) := by decide +kernel
theorem zd_Text_append_12 : decode prog_10_method_2_code 12 = .ok (.iload 4, 2) := by decide +kernel
theorem zd_Text_append_14 : decode prog_10_method_2_code 14 = .ok (.lushr, 1) := by decide +kernel
theorem zd_Text_append_15 : decode prog_10_method_2_code 15 = .ok (.l2i, 1) := by decide +kernel
theorem zd_Text_append_16 : decode prog_10_method_2_code 16 = .ok (.sipush 255, 3) := by decide +kernel
theorem zd_Text_append_19 : decode prog_10_method_2_code 19 = .ok (.iand, 1) := by decide +kernel
theorem zd_Text_append_20 : decode prog_10_method_2_code 20 = .ok (.istore 5, 2) := by decide +kernel
theorem zd_Text_append_22 : decode prog_10_method_2_code 22 = .ok (.iload 5, 2) := by decide +kernel
theorem zd_Text_append_24 : decode prog_10_method_2_code 24 = .ok (.ifCond .eq 19, 3) := by decide +kernel
theorem zd_Text_append_27 : decode prog_10_method_2_code 27 = .ok (.iload 5, 2) := by decide +kernel
theorem zd_Text_append_29 : decode prog_10_method_2_code 29 = .ok (.bipush 33, 2) := by decide +kernel
theorem zd_Text_append_31 : decode prog_10_method_2_code 31 = .ok (.if_icmp .lt 10, 3) := by decide +kernel
theorem zd_Text_append_34 : decode prog_10_method_2_code 34 = .ok (.iload 5, 2) := by decide +kernel
theorem zd_Text_append_36 : decode prog_10_method_2_code 36 = .ok (.bipush 126, 2) := by decide +kernel
theorem zd_Text_append_38 : decode prog_10_method_2_code 38 = .ok (.if_icmp .le 5, 3) := by decide +kernel
theorem zd_Text_append_41 : decode prog_10_method_2_code 41 = .ok (.iconst 0, 1) := by decide +kernel
theorem zd_Text_append_42 : decode prog_10_method_2_code 42 = .ok (.ireturn, 1) := by decide +kernel
theorem zd_Text_append_43 : decode prog_10_method_2_code 43 = .ok (.iload_n 3, 1) := by decide +kernel
theorem zd_Text_append_44 : decode prog_10_method_2_code 44 = .ok (.iload 5, 2) := by decide +kernel
theorem zd_Text_append_46 : decode prog_10_method_2_code 46 = .ok (.ifCond .ne 7, 3) := by decide +kernel
theorem zd_Text_append_49 : decode prog_10_method_2_code 49 = .ok (.iconst 0, 1) := by decide +kernel
theorem zd_Text_append_50 : decode prog_10_method_2_code 50 = .ok (.goto 4, 3) := by decide +kernel
theorem zd_Text_append_53 : decode prog_10_method_2_code 53 = .ok (.iconst 1, 1) := by decide +kernel
theorem zd_Text_append_54 : decode prog_10_method_2_code 54 = .ok (.iadd, 1) := by decide +kernel
theorem zd_Text_append_55 : decode prog_10_method_2_code 55 = .ok (.istore_n 3, 1) := by decide +kernel
theorem zd_Text_append_56 : decode prog_10_method_2_code 56 = .ok (.iinc 4 (-8), 3) := by decide +kernel
theorem zd_Text_append_59 : decode prog_10_method_2_code 59 = .ok (.goto (-53), 3) := by decide +kernel
theorem zd_Text_append_62 : decode prog_10_method_2_code 62 = .ok (.aload_n 0, 1) := by decide +kernel
theorem zd_Text_append_63 : decode prog_10_method_2_code 63 = .ok (.getfield 19, 3) := by decide +kernel
theorem zd_Text_append_66 : decode prog_10_method_2_code 66 = .ok (.iload_n 3, 1) := by decide +kernel
theorem zd_Text_append_67 : decode prog_10_method_2_code 67 = .ok (.iadd, 1) := by decide +kernel
theorem zd_Text_append_68 : decode prog_10_method_2_code 68 = .ok (.sipush 240, 3) := by decide +kernel
theorem zd_Text_append_71 : decode prog_10_method_2_code 71 = .ok (.if_icmp .le 5, 3) := by decide +kernel
theorem zd_Text_append_74 : decode prog_10_method_2_code 74 = .ok (.iconst 0, 1) := by decide +kernel
theorem zd_Text_append_75 : decode prog_10_method_2_code 75 = .ok (.ireturn, 1) := by decide +kernel
theorem zd_Text_append_76 : decode prog_10_method_2_code 76 = .ok (.bipush 56, 2) := by decide +kernel
theorem zd_Text_append_78 : decode prog_10_method_2_code 78 = .ok (.istore 4, 2) := by decide +kernel
theorem zd_Text_append_80 : decode prog_10_method_2_code 80 = .ok (.iload 4, 2) := by decide +kernel
theorem zd_Text_append_82 : decode prog_10_method_2_code 82 = .ok (.ifCond .lt 47, 3) := by decide +kernel
theorem zd_Text_append_85 : decode prog_10_method_2_code 85 = .ok (.lload_n 1, 1) := by decide +kernel
theorem zd_Text_append_86 : decode prog_10_method_2_code 86 = .ok (.iload 4, 2) := by decide +kernel
theorem zd_Text_append_88 : decode prog_10_method_2_code 88 = .ok (.lushr, 1) := by decide +kernel
theorem zd_Text_append_89 : decode prog_10_method_2_code 89 = .ok (.l2i, 1) := by decide +kernel
theorem zd_Text_append_90 : decode prog_10_method_2_code 90 = .ok (.sipush 255, 3) := by decide +kernel
theorem zd_Text_append_93 : decode prog_10_method_2_code 93 = .ok (.iand, 1) := by decide +kernel
theorem zd_Text_append_94 : decode prog_10_method_2_code 94 = .ok (.istore 5, 2) := by decide +kernel
theorem zd_Text_append_96 : decode prog_10_method_2_code 96 = .ok (.iload 5, 2) := by decide +kernel
theorem zd_Text_append_98 : decode prog_10_method_2_code 98 = .ok (.ifCond .eq 25, 3) := by decide +kernel
theorem zd_Text_append_101 : decode prog_10_method_2_code 101 = .ok (.aload_n 0, 1) := by decide +kernel
theorem zd_Text_append_102 : decode prog_10_method_2_code 102 = .ok (.getfield 11, 3) := by decide +kernel
theorem zd_Text_append_105 : decode prog_10_method_2_code 105 = .ok (.aload_n 0, 1) := by decide +kernel
theorem zd_Text_append_106 : decode prog_10_method_2_code 106 = .ok (.getfield 19, 3) := by decide +kernel
theorem zd_Text_append_109 : decode prog_10_method_2_code 109 = .ok (.iload 5, 2) := by decide +kernel
theorem zd_Text_append_111 : decode prog_10_method_2_code 111 = .ok (.i2c, 1) := by decide +kernel
theorem zd_Text_append_112 : decode prog_10_method_2_code 112 = .ok (.castore, 1) := by decide +kernel
theorem zd_Text_append_113 : decode prog_10_method_2_code 113 = .ok (.aload_n 0, 1) := by decide +kernel
theorem zd_Text_append_114 : decode prog_10_method_2_code 114 = .ok (.dup, 1) := by decide +kernel
theorem zd_Text_append_115 : decode prog_10_method_2_code 115 = .ok (.getfield 19, 3) := by decide +kernel
theorem zd_Text_append_118 : decode prog_10_method_2_code 118 = .ok (.iconst 1, 1) := by decide +kernel
theorem zd_Text_append_119 : decode prog_10_method_2_code 119 = .ok (.iadd, 1) := by decide +kernel
theorem zd_Text_append_120 : decode prog_10_method_2_code 120 = .ok (.putfield 19, 3) := by decide +kernel
theorem zd_Text_append_123 : decode prog_10_method_2_code 123 = .ok (.iinc 4 (-8), 3) := by decide +kernel
theorem zd_Text_append_126 : decode prog_10_method_2_code 126 = .ok (.goto (-46), 3) := by decide +kernel
theorem zd_Text_append_129 : decode prog_10_method_2_code 129 = .ok (.iconst 1, 1) := by decide +kernel
theorem zd_Text_append_130 : decode prog_10_method_2_code 130 = .ok (.ireturn, 1) := by decide +kernel
def wc_Text_append_123 (a0 : Int64) (K80 : Int64 → Int32 → (Nat → Int32) → (Nat → Int64) → (Nat → Nat → Int32) → (Nat → Nat → Int64) → Prop) (Post : Int32 → (Nat → Int32) → (Nat → Int64) → (Nat → Nat → Int32) → (Nat → Nat → Int64) → Prop) (x1 : Int64) (x4 : Int32) (I : Nat → Int32) (J : Nat → Int64) (B : Nat → Nat → Int32) (D : Nat → Nat → Int64) : Prop :=
  ∀ z1 : Int32, z1 = (x4 + (-8)) → K80 x1 z1 I J B D
def wb_Text_append_80 (a0 : Int64) (K80 : Int64 → Int32 → (Nat → Int32) → (Nat → Int64) → (Nat → Nat → Int32) → (Nat → Nat → Int64) → Prop) (Post : Int32 → (Nat → Int32) → (Nat → Int64) → (Nat → Nat → Int32) → (Nat → Nat → Int64) → Prop) (x1 : Int64) (x4 : Int32) (I : Nat → Int32) (J : Nat → Int64) (B : Nat → Nat → Int32) (D : Nat → Nat → Int64) : Prop :=
  ((x4 < 0 → Post 1 I J B D) ∧ (¬ x4 < 0 → ∀ z3 : Int64, z3 = (x1.toUInt64 >>> (x4.toInt64.toUInt64 &&& Int64.toUInt64 63)).toInt64 → ∀ z4 : Int32, z4 = z3.toInt32 → ∀ z5 : Int32, z5 = (z4 &&& 255) → ((z5 = 0 → wc_Text_append_123 a0 K80 Post x1 x4 I J B D) ∧ (¬ z5 = 0 → ∀ z7 : Int32, z7 = (z5.toUInt32 % 65536).toInt32 → vp_in (I 3) 240 ∧ ∀ z8 : Int32, z8 = ((I 3) + 1) → wc_Text_append_123 a0 K80 Post x1 x4 (upd I 3 z8) J (va_up B 1 (upd (B 1) (I 3).toNatClampNeg (vp_nar .char z7))) D))))
def wl_Text_append_80 (a0 : Int64) (Post : Int32 → (Nat → Int32) → (Nat → Int64) → (Nat → Nat → Int32) → (Nat → Nat → Int64) → Prop) (n : Nat) : Int64 → Int32 → (Nat → Int32) → (Nat → Int64) → (Nat → Nat → Int32) → (Nat → Nat → Int64) → Prop := Nat.rec (fun _ _ _ _ _ _ => False) (fun _ r => wb_Text_append_80 a0 r Post) n
def wc_Text_append_54 (a0 : Int64) (K6 : Int64 → Int32 → Int32 → (Nat → Int32) → (Nat → Int64) → (Nat → Nat → Int32) → (Nat → Nat → Int64) → Prop) (Post : Int32 → (Nat → Int32) → (Nat → Int64) → (Nat → Nat → Int32) → (Nat → Nat → Int64) → Prop) (x1 : Int64) (x4 : Int32) (y0 : Int32) (y1 : Int32) (I : Nat → Int32) (J : Nat → Int64) (B : Nat → Nat → Int32) (D : Nat → Nat → Int64) : Prop :=
  ∀ z9 : Int32, z9 = (y1 + y0) → ∀ z10 : Int32, z10 = (x4 + (-8)) → K6 x1 z9 z10 I J B D
def wc_Text_append_43 (a0 : Int64) (K6 : Int64 → Int32 → Int32 → (Nat → Int32) → (Nat → Int64) → (Nat → Nat → Int32) → (Nat → Nat → Int64) → Prop) (Post : Int32 → (Nat → Int32) → (Nat → Int64) → (Nat → Nat → Int32) → (Nat → Nat → Int64) → Prop) (x1 : Int64) (x3 : Int32) (x4 : Int32) (x5 : Int32) (I : Nat → Int32) (J : Nat → Int64) (B : Nat → Nat → Int32) (D : Nat → Nat → Int64) : Prop :=
  ((¬ x5 = 0 → wc_Text_append_54 a0 K6 Post x1 x4 1 x3 I J B D) ∧ (x5 = 0 → wc_Text_append_54 a0 K6 Post x1 x4 0 x3 I J B D))
def wc_Text_append_41 (a0 : Int64) (Post : Int32 → (Nat → Int32) → (Nat → Int64) → (Nat → Nat → Int32) → (Nat → Nat → Int64) → Prop)  (I : Nat → Int32) (J : Nat → Int64) (B : Nat → Nat → Int32) (D : Nat → Nat → Int64) : Prop :=
  Post 0 I J B D
def wb_Text_append_6 (a0 : Int64) (K6 : Int64 → Int32 → Int32 → (Nat → Int32) → (Nat → Int64) → (Nat → Nat → Int32) → (Nat → Nat → Int64) → Prop) (Post : Int32 → (Nat → Int32) → (Nat → Int64) → (Nat → Nat → Int32) → (Nat → Nat → Int64) → Prop) (x1 : Int64) (x3 : Int32) (x4 : Int32) (I : Nat → Int32) (J : Nat → Int64) (B : Nat → Nat → Int32) (D : Nat → Nat → Int64) : Prop :=
  ((x4 < 0 → ∀ z13 : Int32, z13 = ((I 3) + x3) → ((z13 ≤ 240 → ∃ n : Nat, wl_Text_append_80 a0 Post n x1 56 I J B D) ∧ (¬ z13 ≤ 240 → Post 0 I J B D))) ∧ (¬ x4 < 0 → ∀ z15 : Int64, z15 = (x1.toUInt64 >>> (x4.toInt64.toUInt64 &&& Int64.toUInt64 63)).toInt64 → ∀ z16 : Int32, z16 = z15.toInt32 → ∀ z17 : Int32, z17 = (z16 &&& 255) → ((z17 = 0 → wc_Text_append_43 a0 K6 Post x1 x3 x4 z17 I J B D) ∧ (¬ z17 = 0 → ((z17 < 33 → wc_Text_append_41 a0 Post I J B D) ∧ (¬ z17 < 33 → ((z17 ≤ 126 → wc_Text_append_43 a0 K6 Post x1 x3 x4 z17 I J B D) ∧ (¬ z17 ≤ 126 → wc_Text_append_41 a0 Post I J B D))))))))
def wl_Text_append_6 (a0 : Int64) (Post : Int32 → (Nat → Int32) → (Nat → Int64) → (Nat → Nat → Int32) → (Nat → Nat → Int64) → Prop) (n : Nat) : Int64 → Int32 → Int32 → (Nat → Int32) → (Nat → Int64) → (Nat → Nat → Int32) → (Nat → Nat → Int64) → Prop := Nat.rec (fun _ _ _ _ _ _ _ => False) (fun _ r => wb_Text_append_6 a0 r Post) n
def wp_Text_append (I : Nat → Int32) (J : Nat → Int64) (B : Nat → Nat → Int32) (D : Nat → Nat → Int64) (a0 : Int64) (Post : Int32 → (Nat → Int32) → (Nat → Int64) → (Nat → Nat → Int32) → (Nat → Nat → Int64) → Prop) : Prop :=
  ∃ n : Nat, wl_Text_append_6 a0 Post n a0 0 56 I J B D
set_option maxHeartbeats 8000000 in
set_option maxRecDepth 100000 in
theorem wJ_Text_append_123 {p : Program} {l : Launch} {e : Env} {s : State} {m : MethodId} {below : List Frame} {meth : Method} {c : Code} {A : Nat → Prop} (G : va_G) (K : Nat → ClassId) (ad : Nat → Nat) (sv : Value) (a0 : Int64) (Post : Int32 → (Nat → Int32) → (Nat → Int64) → (Nat → Nat → Int32) → (Nat → Nat → Int64) → Prop) (C : zCx p s m ([.ref (ad 1), .long a0] : List Value).toArray meth c A G K prog_10_method_2_code (some .boolean) 6 "LassoFinder$Text") (K80 : Int64 → Int32 → (Nat → Int32) → (Nat → Int64) → (Nat → Nat → Int32) → (Nat → Nat → Int64) → Prop) (kh80 : ∀ (x1 : Int64) (x4 : Int32) (I : Nat → Int32) (J : Nat → Int64) (B : Nat → Nat → Int32) (D : Nat → Nat → Int64) (ls : Array Slot) (H : Heap) (locs : List Loc), K80 x1 x4 I J B D → lv_has ls 6 [(0, .ref (ad 1)), (1, .long x1), (4, .int x4)] → zW G A s.heap (wX ad K sv I J B D) H locs → W p l e { frames := 0, cells := 0, slots := 0, locals := 0 } s m ([.ref (ad 1), .long a0] : List Value).toArray below meth c H locs 0 0 (MQ below (va_Qi (fun (r : Int32) (u : zS) => Post r u.1 u.2.1 u.2.2.1 u.2.2.2) (fun u t => zPost G K A (wX ad K sv u.1 u.2.1 u.2.2.1 u.2.2.2) t) A) ([.ref (ad 1), .long a0] : List Value).toArray s 0 0 A) (F0 m 80 ls [])) : ∀ (x1 : Int64) (x4 : Int32) (I : Nat → Int32) (J : Nat → Int64) (B : Nat → Nat → Int32) (D : Nat → Nat → Int64) (ls : Array Slot) (H : Heap) (locs : List Loc), wc_Text_append_123 a0 K80 Post x1 x4 I J B D → lv_has ls 6 [(0, .ref (ad 1)), (1, .long x1), (4, .int x4)] → zW G A s.heap (wX ad K sv I J B D) H locs → W p l e { frames := 0, cells := 0, slots := 0, locals := 0 } s m ([.ref (ad 1), .long a0] : List Value).toArray below meth c H locs 0 0 (MQ below (va_Qi (fun (r : Int32) (u : zS) => Post r u.1 u.2.1 u.2.2.1 u.2.2.2) (fun u t => zPost G K A (wX ad K sv u.1 u.2.1 u.2.2.1 u.2.2.2) t) A) ([.ref (ad 1), .long a0] : List Value).toArray s 0 0 A) (F0 m 123 ls []) := by
  obtain ⟨hx, hb, hr, hml, hts, hown, hlocks, hA, hK⟩ := id C
  intro x1 x4 I J B D ls H locs hok hl hw
  unfold wc_Text_append_123 at hok
  obtain ⟨z1, ez1⟩ : ∃ z : Int32, z = (x4 + (-8)) := ⟨_, rfl⟩
  have hok := hok z1 ez1
  refine lv_iinc (v := z1) hx hb zd_Text_append_123 hl (k := 2) rfl ez1.symm (by decide) rfl (fun ls hl => ?_)
  have hl : lv_has ls 6 [(4, .int z1), (0, .ref (ad 1)), (1, .long x1)] := hl
  refine lv_goto (tgt := 80) hx hb zd_Text_append_126 (by decide) ?_
  exact kh80 x1 z1 I J B D ls H locs hok (lv_sub hl [1, 2, 0] rfl) hw
set_option maxHeartbeats 8000000 in
set_option maxRecDepth 100000 in
theorem wB_Text_append_80 {p : Program} {l : Launch} {e : Env} {s : State} {m : MethodId} {below : List Frame} {meth : Method} {c : Code} {A : Nat → Prop} (G : va_G) (K : Nat → ClassId) (ad : Nat → Nat) (sv : Value) (a0 : Int64) (Post : Int32 → (Nat → Int32) → (Nat → Int64) → (Nat → Nat → Int32) → (Nat → Nat → Int64) → Prop) (C : zCx p s m ([.ref (ad 1), .long a0] : List Value).toArray meth c A G K prog_10_method_2_code (some .boolean) 6 "LassoFinder$Text") (K80 : Int64 → Int32 → (Nat → Int32) → (Nat → Int64) → (Nat → Nat → Int32) → (Nat → Nat → Int64) → Prop) (kh80 : ∀ (x1 : Int64) (x4 : Int32) (I : Nat → Int32) (J : Nat → Int64) (B : Nat → Nat → Int32) (D : Nat → Nat → Int64) (ls : Array Slot) (H : Heap) (locs : List Loc), K80 x1 x4 I J B D → lv_has ls 6 [(0, .ref (ad 1)), (1, .long x1), (4, .int x4)] → zW G A s.heap (wX ad K sv I J B D) H locs → W p l e { frames := 0, cells := 0, slots := 0, locals := 0 } s m ([.ref (ad 1), .long a0] : List Value).toArray below meth c H locs 0 0 (MQ below (va_Qi (fun (r : Int32) (u : zS) => Post r u.1 u.2.1 u.2.2.1 u.2.2.2) (fun u t => zPost G K A (wX ad K sv u.1 u.2.1 u.2.2.1 u.2.2.2) t) A) ([.ref (ad 1), .long a0] : List Value).toArray s 0 0 A) (F0 m 80 ls [])) : ∀ (x1 : Int64) (x4 : Int32) (I : Nat → Int32) (J : Nat → Int64) (B : Nat → Nat → Int32) (D : Nat → Nat → Int64) (ls : Array Slot) (H : Heap) (locs : List Loc), wb_Text_append_80 a0 K80 Post x1 x4 I J B D → lv_has ls 6 [(0, .ref (ad 1)), (1, .long x1), (4, .int x4)] → zW G A s.heap (wX ad K sv I J B D) H locs → W p l e { frames := 0, cells := 0, slots := 0, locals := 0 } s m ([.ref (ad 1), .long a0] : List Value).toArray below meth c H locs 0 0 (MQ below (va_Qi (fun (r : Int32) (u : zS) => Post r u.1 u.2.1 u.2.2.1 u.2.2.2) (fun u t => zPost G K A (wX ad K sv u.1 u.2.1 u.2.2.1 u.2.2.2) t) A) ([.ref (ad 1), .long a0] : List Value).toArray s 0 0 A) (F0 m 80 ls []) := by
  obtain ⟨hx, hb, hr, hml, hts, hown, hlocks, hA, hK⟩ := id C
  intro x1 x4 I J B D ls H locs hok hl hw
  unfold wb_Text_append_80 at hok
  refine lv_iload hx hb zd_Text_append_80 (lv_at hl 2 rfl) ?_
  refine lv_if_lt (tgt := 129) hx hb zd_Text_append_82 (by decide) (fun hc2 => ?_) (fun hc2 => ?_)
  · have hok := hok.1 hc2
    refine lv_iconst (v := 1) hx hb zd_Text_append_129 (by decide) ?_
    exact (z_iret (u := (I, J, B, D)) hx hb hr hlocks rfl hw (List.range 65) wX_all wX_nd hok (Nat.le_of_ble_eq_true rfl) (Nat.le_of_ble_eq_true rfl) zd_Text_append_130)
  · have hok := hok.2 hc2
    refine lv_lload_n hx hb zd_Text_append_85 rfl (lv_at hl 1 rfl) ?_
    refine lv_iload hx hb zd_Text_append_86 (lv_at hl 2 rfl) ?_
    refine lv_lushr hx hb zd_Text_append_88 rfl ?_
    refine lv_topl (fun z3 ez3 => ?_)
    have hok := hok z3 ez3
    refine lv_l2i hx hb zd_Text_append_89 rfl ?_
    refine lv_topi (fun z4 ez4 => ?_)
    have hok := hok z4 ez4
    refine lv_sipush (v := 255) hx hb zd_Text_append_90 (by decide) ?_
    refine lv_iand hx hb zd_Text_append_93 ?_
    refine lv_topi (fun z5 ez5 => ?_)
    have hok := hok z5 ez5
    refine lv_istore hx hb zd_Text_append_94 hl (by decide) rfl (fun ls hl => ?_)
    have hl : lv_has ls 6 [(5, .int z5), (0, .ref (ad 1)), (1, .long x1), (4, .int x4)] := hl
    refine lv_iload hx hb zd_Text_append_96 (lv_at hl 0 rfl) ?_
    refine lv_if_eq (tgt := 123) hx hb zd_Text_append_98 (by decide) (fun hc6 => ?_) (fun hc6 => ?_)
    · have hok := hok.1 hc6
      exact wJ_Text_append_123 G K ad sv a0 Post C K80 kh80 x1 x4 I J B D ls H locs hok (lv_sub hl [1, 2, 3] rfl) hw
    · have hok := hok.2 hc6
      refine lv_aload_n hx hb zd_Text_append_101 rfl (lv_at hl 1 rfl) ?_
      refine z_get (v := .ref (ad 13)) hx hb hts hown hK hw zZ9 1 wX_g1 0 (by decide) zn_236 rfl zd_Text_append_102 ?_
      refine lv_aload_n hx hb zd_Text_append_105 rfl (lv_at hl 1 rfl) ?_
      refine z_get (v := .int (I 3)) hx hb hts hown hK hw zZ9 1 wX_g1 1 (by decide) zn_292 rfl zd_Text_append_106 ?_
      refine lv_iload hx hb zd_Text_append_109 (lv_at hl 0 rfl) ?_
      refine lv_i2c hx hb zd_Text_append_111 rfl ?_
      refine lv_topi (fun z7 ez7 => ?_)
      have hok := hok z7 ez7
      refine va_cast (f := (B 1)) hx hb hK hw.1 hw.2.1 hw.2.2 13 3 wX_a13 rfl hok.1 zd_Text_append_112 (fun H locs w91 w92 w93 => ?_)
      have hok := hok.2
      have hw := wX_t13 ⟨w91, w92, w93⟩
      refine lv_aload_n hx hb zd_Text_append_113 rfl (lv_at hl 1 rfl) ?_
      refine lv_dup hx hb zd_Text_append_114 rfl ?_
      refine z_get (v := .int (I 3)) hx hb hts hown hK hw zZ9 1 wX_g1 1 (by decide) zn_292 rfl zd_Text_append_115 ?_
      refine lv_iconst (v := 1) hx hb zd_Text_append_118 (by decide) ?_
      refine lv_iadd hx hb zd_Text_append_119 ?_
      refine lv_topi (fun z8 ez8 => ?_)
      have hok := hok z8 ez8
      refine z_put (v := .int z8) hx hb hts hown hK hw zZ9 1 wX_g1 1 (by decide) zn_292 rfl rfl rfl (Nat.le_of_ble_eq_true rfl) zd_Text_append_120 (fun H locs hw => ?_)
      have hw := wX_sI3 hw
      exact wJ_Text_append_123 G K ad sv a0 Post C K80 kh80 x1 x4 (upd I 3 z8) J (va_up B 1 (upd (B 1) (I 3).toNatClampNeg (vp_nar .char z7))) D ls H locs hok (lv_sub hl [1, 2, 3] rfl) hw
theorem wL_Text_append_80 {p : Program} {l : Launch} {e : Env} {s : State} {m : MethodId} {below : List Frame} {meth : Method} {c : Code} {A : Nat → Prop} (G : va_G) (K : Nat → ClassId) (ad : Nat → Nat) (sv : Value) (a0 : Int64) (Post : Int32 → (Nat → Int32) → (Nat → Int64) → (Nat → Nat → Int32) → (Nat → Nat → Int64) → Prop) (C : zCx p s m ([.ref (ad 1), .long a0] : List Value).toArray meth c A G K prog_10_method_2_code (some .boolean) 6 "LassoFinder$Text") : ∀ (n : Nat) (x1 : Int64) (x4 : Int32) (I : Nat → Int32) (J : Nat → Int64) (B : Nat → Nat → Int32) (D : Nat → Nat → Int64) (ls : Array Slot) (H : Heap) (locs : List Loc), wl_Text_append_80 a0 Post n x1 x4 I J B D → lv_has ls 6 [(0, .ref (ad 1)), (1, .long x1), (4, .int x4)] → zW G A s.heap (wX ad K sv I J B D) H locs → W p l e { frames := 0, cells := 0, slots := 0, locals := 0 } s m ([.ref (ad 1), .long a0] : List Value).toArray below meth c H locs 0 0 (MQ below (va_Qi (fun (r : Int32) (u : zS) => Post r u.1 u.2.1 u.2.2.1 u.2.2.2) (fun u t => zPost G K A (wX ad K sv u.1 u.2.1 u.2.2.1 u.2.2.2) t) A) ([.ref (ad 1), .long a0] : List Value).toArray s 0 0 A) (F0 m 80 ls []) := by
  intro n
  induction n with
  | zero => intro x1 x4 I J B D ls H locs hok; exact hok.elim
  | succ n ih => exact wB_Text_append_80 G K ad sv a0 Post C (wl_Text_append_80 a0 Post n) ih
set_option maxHeartbeats 8000000 in
set_option maxRecDepth 100000 in
theorem wJ_Text_append_54 {p : Program} {l : Launch} {e : Env} {s : State} {m : MethodId} {below : List Frame} {meth : Method} {c : Code} {A : Nat → Prop} (G : va_G) (K : Nat → ClassId) (ad : Nat → Nat) (sv : Value) (a0 : Int64) (Post : Int32 → (Nat → Int32) → (Nat → Int64) → (Nat → Nat → Int32) → (Nat → Nat → Int64) → Prop) (C : zCx p s m ([.ref (ad 1), .long a0] : List Value).toArray meth c A G K prog_10_method_2_code (some .boolean) 6 "LassoFinder$Text") (K6 : Int64 → Int32 → Int32 → (Nat → Int32) → (Nat → Int64) → (Nat → Nat → Int32) → (Nat → Nat → Int64) → Prop) (kh6 : ∀ (x1 : Int64) (x3 : Int32) (x4 : Int32) (I : Nat → Int32) (J : Nat → Int64) (B : Nat → Nat → Int32) (D : Nat → Nat → Int64) (ls : Array Slot) (H : Heap) (locs : List Loc), K6 x1 x3 x4 I J B D → lv_has ls 6 [(0, .ref (ad 1)), (1, .long x1), (3, .int x3), (4, .int x4)] → zW G A s.heap (wX ad K sv I J B D) H locs → W p l e { frames := 0, cells := 0, slots := 0, locals := 0 } s m ([.ref (ad 1), .long a0] : List Value).toArray below meth c H locs 0 0 (MQ below (va_Qi (fun (r : Int32) (u : zS) => Post r u.1 u.2.1 u.2.2.1 u.2.2.2) (fun u t => zPost G K A (wX ad K sv u.1 u.2.1 u.2.2.1 u.2.2.2) t) A) ([.ref (ad 1), .long a0] : List Value).toArray s 0 0 A) (F0 m 6 ls [])) : ∀ (x1 : Int64) (x4 : Int32) (y0 : Int32) (y1 : Int32) (I : Nat → Int32) (J : Nat → Int64) (B : Nat → Nat → Int32) (D : Nat → Nat → Int64) (ls : Array Slot) (H : Heap) (locs : List Loc), wc_Text_append_54 a0 K6 Post x1 x4 y0 y1 I J B D → lv_has ls 6 [(0, .ref (ad 1)), (1, .long x1), (4, .int x4)] → zW G A s.heap (wX ad K sv I J B D) H locs → W p l e { frames := 0, cells := 0, slots := 0, locals := 0 } s m ([.ref (ad 1), .long a0] : List Value).toArray below meth c H locs 0 0 (MQ below (va_Qi (fun (r : Int32) (u : zS) => Post r u.1 u.2.1 u.2.2.1 u.2.2.2) (fun u t => zPost G K A (wX ad K sv u.1 u.2.1 u.2.2.1 u.2.2.2) t) A) ([.ref (ad 1), .long a0] : List Value).toArray s 0 0 A) (F0 m 54 ls [.int y0, .int y1]) := by
  obtain ⟨hx, hb, hr, hml, hts, hown, hlocks, hA, hK⟩ := id C
  intro x1 x4 y0 y1 I J B D ls H locs hok hl hw
  unfold wc_Text_append_54 at hok
  refine lv_iadd hx hb zd_Text_append_54 ?_
  refine lv_topi (fun z9 ez9 => ?_)
  have hok := hok z9 ez9
  refine lv_istore_n hx hb zd_Text_append_55 rfl hl (by decide) rfl (fun ls hl => ?_)
  have hl : lv_has ls 6 [(3, .int z9), (0, .ref (ad 1)), (1, .long x1), (4, .int x4)] := hl
  obtain ⟨z10, ez10⟩ : ∃ z : Int32, z = (x4 + (-8)) := ⟨_, rfl⟩
  have hok := hok z10 ez10
  refine lv_iinc (v := z10) hx hb zd_Text_append_56 hl (k := 3) rfl ez10.symm (by decide) rfl (fun ls hl => ?_)
  have hl : lv_has ls 6 [(4, .int z10), (3, .int z9), (0, .ref (ad 1)), (1, .long x1)] := hl
  refine lv_goto (tgt := 6) hx hb zd_Text_append_59 (by decide) ?_
  exact kh6 x1 z9 z10 I J B D ls H locs hok (lv_sub hl [2, 3, 1, 0] rfl) hw
set_option maxHeartbeats 8000000 in
set_option maxRecDepth 100000 in
theorem wJ_Text_append_43 {p : Program} {l : Launch} {e : Env} {s : State} {m : MethodId} {below : List Frame} {meth : Method} {c : Code} {A : Nat → Prop} (G : va_G) (K : Nat → ClassId) (ad : Nat → Nat) (sv : Value) (a0 : Int64) (Post : Int32 → (Nat → Int32) → (Nat → Int64) → (Nat → Nat → Int32) → (Nat → Nat → Int64) → Prop) (C : zCx p s m ([.ref (ad 1), .long a0] : List Value).toArray meth c A G K prog_10_method_2_code (some .boolean) 6 "LassoFinder$Text") (K6 : Int64 → Int32 → Int32 → (Nat → Int32) → (Nat → Int64) → (Nat → Nat → Int32) → (Nat → Nat → Int64) → Prop) (kh6 : ∀ (x1 : Int64) (x3 : Int32) (x4 : Int32) (I : Nat → Int32) (J : Nat → Int64) (B : Nat → Nat → Int32) (D : Nat → Nat → Int64) (ls : Array Slot) (H : Heap) (locs : List Loc), K6 x1 x3 x4 I J B D → lv_has ls 6 [(0, .ref (ad 1)), (1, .long x1), (3, .int x3), (4, .int x4)] → zW G A s.heap (wX ad K sv I J B D) H locs → W p l e { frames := 0, cells := 0, slots := 0, locals := 0 } s m ([.ref (ad 1), .long a0] : List Value).toArray below meth c H locs 0 0 (MQ below (va_Qi (fun (r : Int32) (u : zS) => Post r u.1 u.2.1 u.2.2.1 u.2.2.2) (fun u t => zPost G K A (wX ad K sv u.1 u.2.1 u.2.2.1 u.2.2.2) t) A) ([.ref (ad 1), .long a0] : List Value).toArray s 0 0 A) (F0 m 6 ls [])) : ∀ (x1 : Int64) (x3 : Int32) (x4 : Int32) (x5 : Int32) (I : Nat → Int32) (J : Nat → Int64) (B : Nat → Nat → Int32) (D : Nat → Nat → Int64) (ls : Array Slot) (H : Heap) (locs : List Loc), wc_Text_append_43 a0 K6 Post x1 x3 x4 x5 I J B D → lv_has ls 6 [(0, .ref (ad 1)), (1, .long x1), (3, .int x3), (4, .int x4), (5, .int x5)] → zW G A s.heap (wX ad K sv I J B D) H locs → W p l e { frames := 0, cells := 0, slots := 0, locals := 0 } s m ([.ref (ad 1), .long a0] : List Value).toArray below meth c H locs 0 0 (MQ below (va_Qi (fun (r : Int32) (u : zS) => Post r u.1 u.2.1 u.2.2.1 u.2.2.2) (fun u t => zPost G K A (wX ad K sv u.1 u.2.1 u.2.2.1 u.2.2.2) t) A) ([.ref (ad 1), .long a0] : List Value).toArray s 0 0 A) (F0 m 43 ls []) := by
  obtain ⟨hx, hb, hr, hml, hts, hown, hlocks, hA, hK⟩ := id C
  intro x1 x3 x4 x5 I J B D ls H locs hok hl hw
  unfold wc_Text_append_43 at hok
  refine lv_iload_n hx hb zd_Text_append_43 rfl (lv_at hl 2 rfl) ?_
  refine lv_iload hx hb zd_Text_append_44 (lv_at hl 4 rfl) ?_
  refine lv_if_ne (tgt := 53) hx hb zd_Text_append_46 (by decide) (fun hc11 => ?_) (fun hc11 => ?_)
  · have hok := hok.1 hc11
    refine lv_iconst (v := 1) hx hb zd_Text_append_53 (by decide) ?_
    exact wJ_Text_append_54 G K ad sv a0 Post C K6 kh6 x1 x4 1 x3 I J B D ls H locs hok (lv_sub hl [0, 1, 3] rfl) hw
  · have hok := hok.2 hc11
    refine lv_iconst (v := 0) hx hb zd_Text_append_49 (by decide) ?_
    refine lv_goto (tgt := 54) hx hb zd_Text_append_50 (by decide) ?_
    exact wJ_Text_append_54 G K ad sv a0 Post C K6 kh6 x1 x4 0 x3 I J B D ls H locs hok (lv_sub hl [0, 1, 3] rfl) hw
set_option maxHeartbeats 8000000 in
set_option maxRecDepth 100000 in
theorem wJ_Text_append_41 {p : Program} {l : Launch} {e : Env} {s : State} {m : MethodId} {below : List Frame} {meth : Method} {c : Code} {A : Nat → Prop} (G : va_G) (K : Nat → ClassId) (ad : Nat → Nat) (sv : Value) (a0 : Int64) (Post : Int32 → (Nat → Int32) → (Nat → Int64) → (Nat → Nat → Int32) → (Nat → Nat → Int64) → Prop) (C : zCx p s m ([.ref (ad 1), .long a0] : List Value).toArray meth c A G K prog_10_method_2_code (some .boolean) 6 "LassoFinder$Text") : ∀  (I : Nat → Int32) (J : Nat → Int64) (B : Nat → Nat → Int32) (D : Nat → Nat → Int64) (ls : Array Slot) (H : Heap) (locs : List Loc), wc_Text_append_41 a0 Post  I J B D → lv_has ls 6 [] → zW G A s.heap (wX ad K sv I J B D) H locs → W p l e { frames := 0, cells := 0, slots := 0, locals := 0 } s m ([.ref (ad 1), .long a0] : List Value).toArray below meth c H locs 0 0 (MQ below (va_Qi (fun (r : Int32) (u : zS) => Post r u.1 u.2.1 u.2.2.1 u.2.2.2) (fun u t => zPost G K A (wX ad K sv u.1 u.2.1 u.2.2.1 u.2.2.2) t) A) ([.ref (ad 1), .long a0] : List Value).toArray s 0 0 A) (F0 m 41 ls []) := by
  obtain ⟨hx, hb, hr, hml, hts, hown, hlocks, hA, hK⟩ := id C
  intro  I J B D ls H locs hok hl hw
  unfold wc_Text_append_41 at hok
  refine lv_iconst (v := 0) hx hb zd_Text_append_41 (by decide) ?_
  exact (z_iret (u := (I, J, B, D)) hx hb hr hlocks rfl hw (List.range 65) wX_all wX_nd hok (Nat.le_of_ble_eq_true rfl) (Nat.le_of_ble_eq_true rfl) zd_Text_append_42)
set_option maxHeartbeats 8000000 in
set_option maxRecDepth 100000 in
theorem wB_Text_append_6 {p : Program} {l : Launch} {e : Env} {s : State} {m : MethodId} {below : List Frame} {meth : Method} {c : Code} {A : Nat → Prop} (G : va_G) (K : Nat → ClassId) (ad : Nat → Nat) (sv : Value) (a0 : Int64) (Post : Int32 → (Nat → Int32) → (Nat → Int64) → (Nat → Nat → Int32) → (Nat → Nat → Int64) → Prop) (C : zCx p s m ([.ref (ad 1), .long a0] : List Value).toArray meth c A G K prog_10_method_2_code (some .boolean) 6 "LassoFinder$Text") (K6 : Int64 → Int32 → Int32 → (Nat → Int32) → (Nat → Int64) → (Nat → Nat → Int32) → (Nat → Nat → Int64) → Prop) (kh6 : ∀ (x1 : Int64) (x3 : Int32) (x4 : Int32) (I : Nat → Int32) (J : Nat → Int64) (B : Nat → Nat → Int32) (D : Nat → Nat → Int64) (ls : Array Slot) (H : Heap) (locs : List Loc), K6 x1 x3 x4 I J B D → lv_has ls 6 [(0, .ref (ad 1)), (1, .long x1), (3, .int x3), (4, .int x4)] → zW G A s.heap (wX ad K sv I J B D) H locs → W p l e { frames := 0, cells := 0, slots := 0, locals := 0 } s m ([.ref (ad 1), .long a0] : List Value).toArray below meth c H locs 0 0 (MQ below (va_Qi (fun (r : Int32) (u : zS) => Post r u.1 u.2.1 u.2.2.1 u.2.2.2) (fun u t => zPost G K A (wX ad K sv u.1 u.2.1 u.2.2.1 u.2.2.2) t) A) ([.ref (ad 1), .long a0] : List Value).toArray s 0 0 A) (F0 m 6 ls [])) : ∀ (x1 : Int64) (x3 : Int32) (x4 : Int32) (I : Nat → Int32) (J : Nat → Int64) (B : Nat → Nat → Int32) (D : Nat → Nat → Int64) (ls : Array Slot) (H : Heap) (locs : List Loc), wb_Text_append_6 a0 K6 Post x1 x3 x4 I J B D → lv_has ls 6 [(0, .ref (ad 1)), (1, .long x1), (3, .int x3), (4, .int x4)] → zW G A s.heap (wX ad K sv I J B D) H locs → W p l e { frames := 0, cells := 0, slots := 0, locals := 0 } s m ([.ref (ad 1), .long a0] : List Value).toArray below meth c H locs 0 0 (MQ below (va_Qi (fun (r : Int32) (u : zS) => Post r u.1 u.2.1 u.2.2.1 u.2.2.2) (fun u t => zPost G K A (wX ad K sv u.1 u.2.1 u.2.2.1 u.2.2.2) t) A) ([.ref (ad 1), .long a0] : List Value).toArray s 0 0 A) (F0 m 6 ls []) := by
  obtain ⟨hx, hb, hr, hml, hts, hown, hlocks, hA, hK⟩ := id C
  intro x1 x3 x4 I J B D ls H locs hok hl hw
  unfold wb_Text_append_6 at hok
  refine lv_iload hx hb zd_Text_append_6 (lv_at hl 3 rfl) ?_
  refine lv_if_lt (tgt := 62) hx hb zd_Text_append_8 (by decide) (fun hc12 => ?_) (fun hc12 => ?_)
  · have hok := hok.1 hc12
    refine lv_aload_n hx hb zd_Text_append_62 rfl (lv_at hl 0 rfl) ?_
    refine z_get (v := .int (I 3)) hx hb hts hown hK hw zZ9 1 wX_g1 1 (by decide) zn_292 rfl zd_Text_append_63 ?_
    refine lv_iload_n hx hb zd_Text_append_66 rfl (lv_at hl 2 rfl) ?_
    refine lv_iadd hx hb zd_Text_append_67 ?_
    refine lv_topi (fun z13 ez13 => ?_)
    have hok := hok z13 ez13
    refine lv_sipush (v := 240) hx hb zd_Text_append_68 (by decide) ?_
    refine lv_icmp_le (tgt := 76) hx hb zd_Text_append_71 (by decide) (fun hc14 => ?_) (fun hc14 => ?_)
    · have hok := hok.1 hc14
      refine lv_bipush (v := 56) hx hb zd_Text_append_76 (by decide) ?_
      refine lv_istore hx hb zd_Text_append_78 hl (by decide) rfl (fun ls hl => ?_)
      have hl : lv_has ls 6 [(4, .int 56), (0, .ref (ad 1)), (1, .long x1), (3, .int x3)] := hl
      obtain ⟨n9, hok⟩ := hok
      exact wL_Text_append_80 G K ad sv a0 Post C n9 x1 56 I J B D ls H locs hok (lv_sub hl [1, 2, 0] rfl) hw
    · have hok := hok.2 hc14
      refine lv_iconst (v := 0) hx hb zd_Text_append_74 (by decide) ?_
      exact (z_iret (u := (I, J, B, D)) hx hb hr hlocks rfl hw (List.range 65) wX_all wX_nd hok (Nat.le_of_ble_eq_true rfl) (Nat.le_of_ble_eq_true rfl) zd_Text_append_75)
  · have hok := hok.2 hc12
    refine lv_lload_n hx hb zd_Text_append_11 rfl (lv_at hl 1 rfl) ?_
    refine lv_iload hx hb zd_Text_append_12 (lv_at hl 3 rfl) ?_
    refine lv_lushr hx hb zd_Text_append_14 rfl ?_
    refine lv_topl (fun z15 ez15 => ?_)
    have hok := hok z15 ez15
    refine lv_l2i hx hb zd_Text_append_15 rfl ?_
    refine lv_topi (fun z16 ez16 => ?_)
    have hok := hok z16 ez16
    refine lv_sipush (v := 255) hx hb zd_Text_append_16 (by decide) ?_
    refine lv_iand hx hb zd_Text_append_19 ?_
    refine lv_topi (fun z17 ez17 => ?_)
    have hok := hok z17 ez17
    refine lv_istore hx hb zd_Text_append_20 hl (by decide) rfl (fun ls hl => ?_)
    have hl : lv_has ls 6 [(5, .int z17), (0, .ref (ad 1)), (1, .long x1), (3, .int x3), (4, .int x4)] := hl
    refine lv_iload hx hb zd_Text_append_22 (lv_at hl 0 rfl) ?_
    refine lv_if_eq (tgt := 43) hx hb zd_Text_append_24 (by decide) (fun hc18 => ?_) (fun hc18 => ?_)
    · have hok := hok.1 hc18
      exact wJ_Text_append_43 G K ad sv a0 Post C K6 kh6 x1 x3 x4 z17 I J B D ls H locs hok (lv_sub hl [1, 2, 3, 4, 0] rfl) hw
    · have hok := hok.2 hc18
      refine lv_iload hx hb zd_Text_append_27 (lv_at hl 0 rfl) ?_
      refine lv_bipush (v := 33) hx hb zd_Text_append_29 (by decide) ?_
      refine lv_icmp_lt (tgt := 41) hx hb zd_Text_append_31 (by decide) (fun hc19 => ?_) (fun hc19 => ?_)
      · have hok := hok.1 hc19
        exact wJ_Text_append_41 G K ad sv a0 Post C I J B D ls H locs hok (lv_sub hl [] rfl) hw
      · have hok := hok.2 hc19
        refine lv_iload hx hb zd_Text_append_34 (lv_at hl 0 rfl) ?_
        refine lv_bipush (v := 126) hx hb zd_Text_append_36 (by decide) ?_
        refine lv_icmp_le (tgt := 43) hx hb zd_Text_append_38 (by decide) (fun hc20 => ?_) (fun hc20 => ?_)
        · have hok := hok.1 hc20
          exact wJ_Text_append_43 G K ad sv a0 Post C K6 kh6 x1 x3 x4 z17 I J B D ls H locs hok (lv_sub hl [1, 2, 3, 4, 0] rfl) hw
        · have hok := hok.2 hc20
          exact wJ_Text_append_41 G K ad sv a0 Post C I J B D ls H locs hok (lv_sub hl [] rfl) hw
theorem wL_Text_append_6 {p : Program} {l : Launch} {e : Env} {s : State} {m : MethodId} {below : List Frame} {meth : Method} {c : Code} {A : Nat → Prop} (G : va_G) (K : Nat → ClassId) (ad : Nat → Nat) (sv : Value) (a0 : Int64) (Post : Int32 → (Nat → Int32) → (Nat → Int64) → (Nat → Nat → Int32) → (Nat → Nat → Int64) → Prop) (C : zCx p s m ([.ref (ad 1), .long a0] : List Value).toArray meth c A G K prog_10_method_2_code (some .boolean) 6 "LassoFinder$Text") : ∀ (n : Nat) (x1 : Int64) (x3 : Int32) (x4 : Int32) (I : Nat → Int32) (J : Nat → Int64) (B : Nat → Nat → Int32) (D : Nat → Nat → Int64) (ls : Array Slot) (H : Heap) (locs : List Loc), wl_Text_append_6 a0 Post n x1 x3 x4 I J B D → lv_has ls 6 [(0, .ref (ad 1)), (1, .long x1), (3, .int x3), (4, .int x4)] → zW G A s.heap (wX ad K sv I J B D) H locs → W p l e { frames := 0, cells := 0, slots := 0, locals := 0 } s m ([.ref (ad 1), .long a0] : List Value).toArray below meth c H locs 0 0 (MQ below (va_Qi (fun (r : Int32) (u : zS) => Post r u.1 u.2.1 u.2.2.1 u.2.2.2) (fun u t => zPost G K A (wX ad K sv u.1 u.2.1 u.2.2.1 u.2.2.2) t) A) ([.ref (ad 1), .long a0] : List Value).toArray s 0 0 A) (F0 m 6 ls []) := by
  intro n
  induction n with
  | zero => intro x1 x3 x4 I J B D ls H locs hok; exact hok.elim
  | succ n ih => exact wB_Text_append_6 G K ad sv a0 Post C (wl_Text_append_6 a0 Post n) ih
set_option maxHeartbeats 8000000 in
set_option maxRecDepth 100000 in
theorem w_Text_append (l : Launch) (G : va_G) (K : Nat → ClassId) (ad : Nat → Nat) (sv : Value) (I : Nat → Int32) (J : Nat → Int64) (B : Nat → Nat → Int32) (D : Nat → Nat → Int64) (a0 : Int64) (Post : Int32 → (Nat → Int32) → (Nat → Int64) → (Nat → Nat → Int32) → (Nat → Nat → Int64) → Prop) (sz : Nat) (hok : wp_Text_append I J B D a0 Post) : Met l zy_Text_append (Cond.code zy_Text_append prog_10_method_2_code 6 (some .boolean) :: zTB) { frames := 0, cells := 0, slots := 0, locals := 0 } (va_Pc [.ref (ad 1), .long a0] (zPre G K (wX ad K sv I J B D) sz)) (va_Qi (fun (r : Int32) (u : zS) => Post r u.1 u.2.1 u.2.2.1 u.2.2.2) (fun u t => zPost G K (va_A (wX ad K sv I J B D) sz) (wX ad K sv u.1 u.2.1 u.2.2.1 u.2.2.2) t) (va_A (wX ad K sv I J B D) sz)) 0 0 (va_A (wX ad K sv I J B D) sz) := by
  refine zMet (y := zy_Text_append) (av := [.ref (ad 1), .long a0]) (maxL := 6) (cc := prog_10_method_2_code) (ret := (some .boolean)) (W0 := (wX ad K sv I J B D)) (sz := sz) (G := G) (K := K) (wt := zTB) (mc := 0) (ms := 0) (Qf := fun A => va_Qi (fun (r : Int32) (u : zS) => Post r u.1 u.2.1 u.2.2.1 u.2.2.2) (fun u t => zPost G K A (wX ad K sv u.1 u.2.1 u.2.2.1 u.2.2.2) t) A) (by decide) (Nat.le_of_ble_eq_true rfl) ?_
  intro p e s m below meth c ls A hx hb hr hml hts hown hlocks hin hA hK H locs hw hsz hl
  clear hsz
  have hown : s.vm.findClass "LassoFinder$Text" = some m.cls := hown
  have C : zCx p s m ([.ref (ad 1), .long a0] : List Value).toArray meth c A G K prog_10_method_2_code (some .boolean) 6 "LassoFinder$Text" := ⟨hx, hb, hr, hml, hts, hown, hlocks, hA, hK⟩
  have hl : lv_has ls 6 [(0, .ref (ad 1)), (1, .long a0)] := hl
  have hw : zW G A s.heap (wX ad K sv I J B D) H locs := hw
  unfold wp_Text_append at hok
  refine lv_iconst (v := 0) hx hb zd_Text_append_0 (by decide) ?_
  refine lv_istore_n hx hb zd_Text_append_1 rfl hl (by decide) rfl (fun ls hl => ?_)
  have hl : lv_has ls 6 [(3, .int 0), (0, .ref (ad 1)), (1, .long a0)] := hl
  refine lv_bipush (v := 56) hx hb zd_Text_append_2 (by decide) ?_
  refine lv_istore hx hb zd_Text_append_4 hl (by decide) rfl (fun ls hl => ?_)
  have hl : lv_has ls 6 [(4, .int 56), (3, .int 0), (0, .ref (ad 1)), (1, .long a0)] := hl
  obtain ⟨n9, hok⟩ := hok
  exact wL_Text_append_6 G K ad sv a0 Post C n9 a0 0 56 I J B D ls H locs hok (lv_sub hl [2, 3, 1, 0] rfl) hw
def wp_LassoFinder_write (I : Nat → Int32) (J : Nat → Int64) (B : Nat → Nat → Int32) (D : Nat → Nat → Int64) (a0 : Int64) (Post : Int32 → (Nat → Int32) → (Nat → Int64) → (Nat → Nat → Int32) → (Nat → Nat → Int64) → Prop) : Prop :=
  wp_Text_append I J B D a0 (fun r1 I1 J1 B1 D1 => (r1 = 0 ∨ r1 = 1) ∧ Post r1 I1 J1 B1 D1)
set_option maxHeartbeats 8000000 in
set_option maxRecDepth 100000 in
theorem w_LassoFinder_write (l : Launch) (G : va_G) (K : Nat → ClassId) (ad : Nat → Nat) (sv : Value) (I : Nat → Int32) (J : Nat → Int64) (B : Nat → Nat → Int32) (D : Nat → Nat → Int64) (a0 : Int64) (Post : Int32 → (Nat → Int32) → (Nat → Int64) → (Nat → Nat → Int32) → (Nat → Nat → Int64) → Prop) (sz : Nat) (hok : wp_LassoFinder_write I J B D a0 Post) : Met l zy_LassoFinder_write (Cond.code zy_LassoFinder_write prog_1_method_2_code 3 (some .boolean) :: zTB) { frames := 1, cells := 0, slots := 0, locals := 25 } (va_Pc [.ref (ad 0), .long a0] (zPre G K (wX ad K sv I J B D) sz)) (va_Qi (fun (r : Int32) (u : zS) => Post r u.1 u.2.1 u.2.2.1 u.2.2.2) (fun u t => zPost G K (va_A (wX ad K sv I J B D) sz) (wX ad K sv u.1 u.2.1 u.2.2.1 u.2.2.2) t) (va_A (wX ad K sv I J B D) sz)) 0 0 (va_A (wX ad K sv I J B D) sz) := by
  refine zMet (y := zy_LassoFinder_write) (av := [.ref (ad 0), .long a0]) (maxL := 3) (cc := prog_1_method_2_code) (ret := (some .boolean)) (W0 := (wX ad K sv I J B D)) (sz := sz) (G := G) (K := K) (wt := zTB) (mc := 0) (ms := 0) (Qf := fun A => va_Qi (fun (r : Int32) (u : zS) => Post r u.1 u.2.1 u.2.2.1 u.2.2.2) (fun u t => zPost G K A (wX ad K sv u.1 u.2.1 u.2.2.1 u.2.2.2) t) A) (by decide) (Nat.le_of_ble_eq_true rfl) ?_
  intro p e s m below meth c ls A hx hb hr hml hts hown hlocks hin hA hK H locs hw hsz hl
  clear hsz
  have hown : s.vm.findClass "LassoFinder" = some m.cls := hown
  have C : zCx p s m ([.ref (ad 0), .long a0] : List Value).toArray meth c A G K prog_1_method_2_code (some .boolean) 3 "LassoFinder" := ⟨hx, hb, hr, hml, hts, hown, hlocks, hA, hK⟩
  have hl : lv_has ls 3 [(0, .ref (ad 0)), (1, .long a0)] := hl
  have hw : zW G A s.heap (wX ad K sv I J B D) H locs := hw
  unfold wp_LassoFinder_write at hok
  refine lv_aload_n hx hb zd_LassoFinder_write_0 rfl (lv_at hl 0 rfl) ?_
  refine z_get (v := .ref (ad 1)) hx hb hts hown hK hw zZ0 0 wX_g0 0 (by decide) zn_291 rfl zd_LassoFinder_write_1 ?_
  refine lv_lload_n hx hb zd_LassoFinder_write_4 rfl (lv_at hl 1 rfl) ?_
  refine z_calli (w1 := fun (u : zS) => wX ad K sv u.1 u.2.1 u.2.2.1 u.2.2.2) (wr := []) (z_runV (q0 := 1) (wc := (wX ad K sv I J B D)) (As := [.long a0]) (rest := []) ⟨hx, hb, hml, hown, hts⟩ (w_Text_append l G K ad sv I J B D a0 _ H.size hok) zf_Text_append zn_290 ⟨Nat.le_of_ble_eq_true rfl, Nat.le_of_ble_eq_true rfl⟩ hK hw (List.range 65) wX_all wX_nd wX_g1 rfl rfl hl.1 rfl (Nat.le_of_ble_eq_true rfl) zd_LassoFinder_write_5 ⟨Nat.le_of_ble_eq_true rfl, Nat.le_of_ble_eq_true rfl⟩) hw hA (List.range 65) [] wX_all rfl (by decide) (fun i hi => by cases hi) (fun r1 u H locs hok hw => ?_)
  obtain ⟨I1, J1, B1, D1⟩ := u
  dsimp only at hok
  have hw : zW G A s.heap (wX ad K sv I1 J1 B1 D1) H locs := hw
  have hbo := hok.1
  have hok := hok.2
  exact (z_iret (u := (I1, J1, B1, D1)) hx hb hr hlocks (z_nar hbo) hw (List.range 65) wX_all wX_nd hok (Nat.le_of_ble_eq_true rfl) (Nat.le_of_ble_eq_true rfl) zd_LassoFinder_write_8)
def wp_LassoFinder_place (I : Nat → Int32) (J : Nat → Int64) (B : Nat → Nat → Int32) (D : Nat → Nat → Int64) (Post : Int32 → (Nat → Int32) → (Nat → Int64) → (Nat → Nat → Int32) → (Nat → Nat → Int64) → Prop) : Prop :=
  Post (I 6) I J B D
set_option maxHeartbeats 8000000 in
set_option maxRecDepth 100000 in
theorem w_LassoFinder_place (l : Launch) (G : va_G) (K : Nat → ClassId) (ad : Nat → Nat) (sv : Value) (I : Nat → Int32) (J : Nat → Int64) (B : Nat → Nat → Int32) (D : Nat → Nat → Int64) (Post : Int32 → (Nat → Int32) → (Nat → Int64) → (Nat → Nat → Int32) → (Nat → Nat → Int64) → Prop) (sz : Nat) (hok : wp_LassoFinder_place I J B D  Post) : Met l zy_LassoFinder_place (Cond.code zy_LassoFinder_place prog_1_method_5_code 1 (some .int) :: zTB) { frames := 0, cells := 0, slots := 0, locals := 0 } (va_Pc [.ref (ad 0)] (zPre G K (wX ad K sv I J B D) sz)) (va_Qi (fun (r : Int32) (u : zS) => Post r u.1 u.2.1 u.2.2.1 u.2.2.2) (fun u t => zPost G K (va_A (wX ad K sv I J B D) sz) (wX ad K sv u.1 u.2.1 u.2.2.1 u.2.2.2) t) (va_A (wX ad K sv I J B D) sz)) 0 0 (va_A (wX ad K sv I J B D) sz) := by
  refine zMet (y := zy_LassoFinder_place) (av := [.ref (ad 0)]) (maxL := 1) (cc := prog_1_method_5_code) (ret := (some .int)) (W0 := (wX ad K sv I J B D)) (sz := sz) (G := G) (K := K) (wt := zTB) (mc := 0) (ms := 0) (Qf := fun A => va_Qi (fun (r : Int32) (u : zS) => Post r u.1 u.2.1 u.2.2.1 u.2.2.2) (fun u t => zPost G K A (wX ad K sv u.1 u.2.1 u.2.2.1 u.2.2.2) t) A) (by decide) (Nat.le_of_ble_eq_true rfl) ?_
  intro p e s m below meth c ls A hx hb hr hml hts hown hlocks hin hA hK H locs hw hsz hl
  clear hsz
  have hown : s.vm.findClass "LassoFinder" = some m.cls := hown
  have C : zCx p s m ([.ref (ad 0)] : List Value).toArray meth c A G K prog_1_method_5_code (some .int) 1 "LassoFinder" := ⟨hx, hb, hr, hml, hts, hown, hlocks, hA, hK⟩
  have hl : lv_has ls 1 [(0, .ref (ad 0))] := hl
  have hw : zW G A s.heap (wX ad K sv I J B D) H locs := hw
  unfold wp_LassoFinder_place at hok
  refine lv_aload_n hx hb zd_LassoFinder_place_0 rfl (lv_at hl 0 rfl) ?_
  refine z_get (v := .ref (ad 1)) hx hb hts hown hK hw zZ0 0 wX_g0 0 (by decide) zn_291 rfl zd_LassoFinder_place_1 ?_
  refine z_get (v := .int (I 6)) hx hb hts hown hK hw zZ9 1 wX_g1 4 (by decide) zn_293 rfl zd_LassoFinder_place_4 ?_
  exact (z_iret (u := (I, J, B, D)) hx hb hr hlocks rfl hw (List.range 65) wX_all wX_nd hok (Nat.le_of_ble_eq_true rfl) (Nat.le_of_ble_eq_true rfl) zd_LassoFinder_place_7)
def wp_Graph_stepsFrom (I : Nat → Int32) (J : Nat → Int64) (B : Nat → Nat → Int32) (D : Nat → Nat → Int64) (a0 : Int32) (Post : Int32 → (Nat → Int32) → (Nat → Int64) → (Nat → Nat → Int32) → (Nat → Nat → Int64) → Prop) : Prop :=
  ∀ z1 : Int32, z1 = (a0 + 1) → vp_in z1 97 ∧ ∀ z2 : Int32, z2 = ((B 32) z1.toNatClampNeg) → vp_in a0 97 ∧ ∀ z3 : Int32, z3 = ((B 32) a0.toNatClampNeg) → ∀ z4 : Int32, z4 = (z2 - z3) → Post z4 I J B D
set_option maxHeartbeats 8000000 in
set_option maxRecDepth 100000 in
theorem w_Graph_stepsFrom (l : Launch) (G : va_G) (K : Nat → ClassId) (ad : Nat → Nat) (sv : Value) (I : Nat → Int32) (J : Nat → Int64) (B : Nat → Nat → Int32) (D : Nat → Nat → Int64) (a0 : Int32) (Post : Int32 → (Nat → Int32) → (Nat → Int64) → (Nat → Nat → Int32) → (Nat → Nat → Int64) → Prop) (sz : Nat) (hok : wp_Graph_stepsFrom I J B D a0 Post) : Met l zy_Graph_stepsFrom (Cond.code zy_Graph_stepsFrom prog_3_method_2_code 2 (some .int) :: zTB) { frames := 0, cells := 0, slots := 0, locals := 0 } (va_Pc [.ref (ad 8), .int a0] (zPre G K (wX ad K sv I J B D) sz)) (va_Qi (fun (r : Int32) (u : zS) => Post r u.1 u.2.1 u.2.2.1 u.2.2.2) (fun u t => zPost G K (va_A (wX ad K sv I J B D) sz) (wX ad K sv u.1 u.2.1 u.2.2.1 u.2.2.2) t) (va_A (wX ad K sv I J B D) sz)) 0 0 (va_A (wX ad K sv I J B D) sz) := by
  refine zMet (y := zy_Graph_stepsFrom) (av := [.ref (ad 8), .int a0]) (maxL := 2) (cc := prog_3_method_2_code) (ret := (some .int)) (W0 := (wX ad K sv I J B D)) (sz := sz) (G := G) (K := K) (wt := zTB) (mc := 0) (ms := 0) (Qf := fun A => va_Qi (fun (r : Int32) (u : zS) => Post r u.1 u.2.1 u.2.2.1 u.2.2.2) (fun u t => zPost G K A (wX ad K sv u.1 u.2.1 u.2.2.1 u.2.2.2) t) A) (by decide) (Nat.le_of_ble_eq_true rfl) ?_
  intro p e s m below meth c ls A hx hb hr hml hts hown hlocks hin hA hK H locs hw hsz hl
  clear hsz
  have hown : s.vm.findClass "LassoFinder$Graph" = some m.cls := hown
  have C : zCx p s m ([.ref (ad 8), .int a0] : List Value).toArray meth c A G K prog_3_method_2_code (some .int) 2 "LassoFinder$Graph" := ⟨hx, hb, hr, hml, hts, hown, hlocks, hA, hK⟩
  have hl : lv_has ls 2 [(0, .ref (ad 8)), (1, .int a0)] := hl
  have hw : zW G A s.heap (wX ad K sv I J B D) H locs := hw
  unfold wp_Graph_stepsFrom at hok
  refine lv_aload_n hx hb zd_Graph_stepsFrom_0 rfl (lv_at hl 0 rfl) ?_
  refine z_get (v := .ref (ad 47)) hx hb hts hown hK hw zZ2 8 wX_g8 2 (by decide) zn_270 rfl zd_Graph_stepsFrom_1 ?_
  refine lv_iload_n hx hb zd_Graph_stepsFrom_4 rfl (lv_at hl 1 rfl) ?_
  refine lv_iconst (v := 1) hx hb zd_Graph_stepsFrom_5 (by decide) ?_
  refine lv_iadd hx hb zd_Graph_stepsFrom_6 ?_
  refine lv_topi (fun z1 ez1 => ?_)
  have hok := hok z1 ez1
  refine va_iald (f := (B 32)) hx hb hK hw.1 47 0 wX_a47 rfl hok.1 zd_Graph_stepsFrom_7 ?_
  have hok := hok.2
  refine lv_topi (fun z2 ez2 => ?_)
  have hok := hok z2 ez2
  refine lv_aload_n hx hb zd_Graph_stepsFrom_8 rfl (lv_at hl 0 rfl) ?_
  refine z_get (v := .ref (ad 47)) hx hb hts hown hK hw zZ2 8 wX_g8 2 (by decide) zn_270 rfl zd_Graph_stepsFrom_9 ?_
  refine lv_iload_n hx hb zd_Graph_stepsFrom_12 rfl (lv_at hl 1 rfl) ?_
  refine va_iald (f := (B 32)) hx hb hK hw.1 47 0 wX_a47 rfl hok.1 zd_Graph_stepsFrom_13 ?_
  have hok := hok.2
  refine lv_topi (fun z3 ez3 => ?_)
  have hok := hok z3 ez3
  refine lv_isub hx hb zd_Graph_stepsFrom_14 ?_
  refine lv_topi (fun z4 ez4 => ?_)
  have hok := hok z4 ez4
  exact (z_iret (u := (I, J, B, D)) hx hb hr hlocks rfl hw (List.range 65) wX_all wX_nd hok (Nat.le_of_ble_eq_true rfl) (Nat.le_of_ble_eq_true rfl) zd_Graph_stepsFrom_15)
def wc_LassoFinder_steps_28 (Post : Int32 → (Nat → Int32) → (Nat → Int64) → (Nat → Nat → Int32) → (Nat → Nat → Int64) → Prop) (y0 : Int32) (I : Nat → Int32) (J : Nat → Int64) (B : Nat → Nat → Int32) (D : Nat → Nat → Int64) : Prop :=
  Post y0 I J B D
def wp_LassoFinder_steps (I : Nat → Int32) (J : Nat → Int64) (B : Nat → Nat → Int32) (D : Nat → Nat → Int64) (Post : Int32 → (Nat → Int32) → (Nat → Int64) → (Nat → Nat → Int32) → (Nat → Nat → Int64) → Prop) : Prop :=
  ((¬ (I 0) = (-1) → vp_in (I 0) 61 ∧ ∀ z2 : Int32, z2 = ((B 0) (I 0).toNatClampNeg) → wp_Graph_stepsFrom I J B D z2 (fun r3 I3 J3 B3 D3 => wc_LassoFinder_steps_28  Post r3 I3 J3 B3 D3)) ∧ ((I 0) = (-1) → wc_LassoFinder_steps_28  Post 0 I J B D))
set_option maxHeartbeats 8000000 in
set_option maxRecDepth 100000 in
theorem wJ_LassoFinder_steps_28 {p : Program} {l : Launch} {e : Env} {s : State} {m : MethodId} {below : List Frame} {meth : Method} {c : Code} {A : Nat → Prop} (G : va_G) (K : Nat → ClassId) (ad : Nat → Nat) (sv : Value) (Post : Int32 → (Nat → Int32) → (Nat → Int64) → (Nat → Nat → Int32) → (Nat → Nat → Int64) → Prop) (C : zCx p s m ([.ref (ad 0)] : List Value).toArray meth c A G K prog_1_method_11_code (some .int) 1 "LassoFinder") : ∀ (y0 : Int32) (I : Nat → Int32) (J : Nat → Int64) (B : Nat → Nat → Int32) (D : Nat → Nat → Int64) (ls : Array Slot) (H : Heap) (locs : List Loc), wc_LassoFinder_steps_28  Post y0 I J B D → lv_has ls 1 [] → zW G A s.heap (wX ad K sv I J B D) H locs → W p l e { frames := 1, cells := 0, slots := 0, locals := 21 } s m ([.ref (ad 0)] : List Value).toArray below meth c H locs 0 0 (MQ below (va_Qi (fun (r : Int32) (u : zS) => Post r u.1 u.2.1 u.2.2.1 u.2.2.2) (fun u t => zPost G K A (wX ad K sv u.1 u.2.1 u.2.2.1 u.2.2.2) t) A) ([.ref (ad 0)] : List Value).toArray s 0 0 A) (F0 m 28 ls [.int y0]) := by
  obtain ⟨hx, hb, hr, hml, hts, hown, hlocks, hA, hK⟩ := id C
  intro y0 I J B D ls H locs hok hl hw
  unfold wc_LassoFinder_steps_28 at hok
  exact (z_iret (u := (I, J, B, D)) hx hb hr hlocks rfl hw (List.range 65) wX_all wX_nd hok (Nat.le_of_ble_eq_true rfl) (Nat.le_of_ble_eq_true rfl) zd_LassoFinder_steps_28)
set_option maxHeartbeats 8000000 in
set_option maxRecDepth 100000 in
theorem w_LassoFinder_steps (l : Launch) (G : va_G) (K : Nat → ClassId) (ad : Nat → Nat) (sv : Value) (I : Nat → Int32) (J : Nat → Int64) (B : Nat → Nat → Int32) (D : Nat → Nat → Int64) (Post : Int32 → (Nat → Int32) → (Nat → Int64) → (Nat → Nat → Int32) → (Nat → Nat → Int64) → Prop) (sz : Nat) (hok : wp_LassoFinder_steps I J B D  Post) : Met l zy_LassoFinder_steps (Cond.code zy_LassoFinder_steps prog_1_method_11_code 1 (some .int) :: zTB) { frames := 1, cells := 0, slots := 0, locals := 21 } (va_Pc [.ref (ad 0)] (zPre G K (wX ad K sv I J B D) sz)) (va_Qi (fun (r : Int32) (u : zS) => Post r u.1 u.2.1 u.2.2.1 u.2.2.2) (fun u t => zPost G K (va_A (wX ad K sv I J B D) sz) (wX ad K sv u.1 u.2.1 u.2.2.1 u.2.2.2) t) (va_A (wX ad K sv I J B D) sz)) 0 0 (va_A (wX ad K sv I J B D) sz) := by
  refine zMet (y := zy_LassoFinder_steps) (av := [.ref (ad 0)]) (maxL := 1) (cc := prog_1_method_11_code) (ret := (some .int)) (W0 := (wX ad K sv I J B D)) (sz := sz) (G := G) (K := K) (wt := zTB) (mc := 0) (ms := 0) (Qf := fun A => va_Qi (fun (r : Int32) (u : zS) => Post r u.1 u.2.1 u.2.2.1 u.2.2.2) (fun u t => zPost G K A (wX ad K sv u.1 u.2.1 u.2.2.1 u.2.2.2) t) A) (by decide) (Nat.le_of_ble_eq_true rfl) ?_
  intro p e s m below meth c ls A hx hb hr hml hts hown hlocks hin hA hK H locs hw hsz hl
  clear hsz
  have hown : s.vm.findClass "LassoFinder" = some m.cls := hown
  have C : zCx p s m ([.ref (ad 0)] : List Value).toArray meth c A G K prog_1_method_11_code (some .int) 1 "LassoFinder" := ⟨hx, hb, hr, hml, hts, hown, hlocks, hA, hK⟩
  have hl : lv_has ls 1 [(0, .ref (ad 0))] := hl
  have hw : zW G A s.heap (wX ad K sv I J B D) H locs := hw
  unfold wp_LassoFinder_steps at hok
  refine lv_aload_n hx hb zd_LassoFinder_steps_0 rfl (lv_at hl 0 rfl) ?_
  refine z_get (v := .int (I 0)) hx hb hts hown hK hw zZ0 0 wX_g0 10 (by decide) zn_297 rfl zd_LassoFinder_steps_1 ?_
  refine lv_iconst (v := (-1)) hx hb zd_LassoFinder_steps_4 (by decide) ?_
  refine lv_icmp_ne (tgt := 12) hx hb zd_LassoFinder_steps_5 (by decide) (fun hc1 => ?_) (fun hc1 => ?_)
  · have hok := hok.1 hc1
    refine lv_aload_n hx hb zd_LassoFinder_steps_12 rfl (lv_at hl 0 rfl) ?_
    refine z_get (v := .ref (ad 8)) hx hb hts hown hK hw zZ0 0 wX_g0 5 (by decide) zn_298 rfl zd_LassoFinder_steps_13 ?_
    refine lv_aload_n hx hb zd_LassoFinder_steps_16 rfl (lv_at hl 0 rfl) ?_
    refine z_get (v := .ref (ad 12)) hx hb hts hown hK hw zZ0 0 wX_g0 9 (by decide) zn_235 rfl zd_LassoFinder_steps_17 ?_
    refine lv_aload_n hx hb zd_LassoFinder_steps_20 rfl (lv_at hl 0 rfl) ?_
    refine z_get (v := .int (I 0)) hx hb hts hown hK hw zZ0 0 wX_g0 10 (by decide) zn_297 rfl zd_LassoFinder_steps_21 ?_
    refine va_iald (f := (B 0)) hx hb hK hw.1 12 0 wX_a12 rfl hok.1 zd_LassoFinder_steps_24 ?_
    have hok := hok.2
    refine lv_topi (fun z2 ez2 => ?_)
    have hok := hok z2 ez2
    refine z_calli (w1 := fun (u : zS) => wX ad K sv u.1 u.2.1 u.2.2.1 u.2.2.2) (wr := []) (z_runV (q0 := 8) (wc := (wX ad K sv I J B D)) (As := [.int z2]) (rest := []) ⟨hx, hb, hml, hown, hts⟩ (w_Graph_stepsFrom l G K ad sv I J B D z2 _ H.size hok) zf_Graph_stepsFrom zn_296 ⟨Nat.le_of_ble_eq_true rfl, Nat.le_of_ble_eq_true rfl⟩ hK hw (List.range 65) wX_all wX_nd wX_g8 rfl rfl hl.1 rfl (Nat.le_of_ble_eq_true rfl) zd_LassoFinder_steps_25 ⟨Nat.le_of_ble_eq_true rfl, Nat.le_of_ble_eq_true rfl⟩) hw hA (List.range 65) [] wX_all rfl (by decide) (fun i hi => by cases hi) (fun r3 u H locs hok hw => ?_)
    obtain ⟨I3, J3, B3, D3⟩ := u
    dsimp only at hok
    have hw : zW G A s.heap (wX ad K sv I3 J3 B3 D3) H locs := hw
    exact wJ_LassoFinder_steps_28 G K ad sv  Post C r3 I3 J3 B3 D3 ls H locs hok (lv_sub hl [] rfl) hw
  · have hok := hok.2 hc1
    refine lv_iconst (v := 0) hx hb zd_LassoFinder_steps_8 (by decide) ?_
    refine lv_goto (tgt := 28) hx hb zd_LassoFinder_steps_9 (by decide) ?_
    exact wJ_LassoFinder_steps_28 G K ad sv  Post C 0 I J B D ls H locs hok (lv_sub hl [] rfl) hw
def wb_Situation_unpack_135 (a0 : Int64) (K135 : Int64 → Int32 → (Nat → Int32) → (Nat → Int64) → (Nat → Nat → Int32) → (Nat → Nat → Int64) → Prop) (Post : (Nat → Int32) → (Nat → Int64) → (Nat → Nat → Int32) → (Nat → Nat → Int64) → Prop) (x3 : Int64) (x5 : Int32) (I : Nat → Int32) (J : Nat → Int64) (B : Nat → Nat → Int32) (D : Nat → Nat → Int64) : Prop :=
  ((x5 < 0 → ∀ z2 : Int32, z2 = x3.toInt32 → ∀ z3 : Int32, z3 = (z2 - 1) → Post (upd I 18 z3) J B D) ∧ (¬ x5 < 0 → ∀ z4 : Int32, z4 = x3.toInt32 → ∀ z5 : Int32, z5 = (z4 &&& 31) → vp_in x5 4 ∧ ∀ z6 : Int64, z6 = (x3.toUInt64 >>> ((5 : Int32).toInt64.toUInt64 &&& Int64.toUInt64 63)).toInt64 → ∀ z7 : Int32, z7 = (x5 + (-1)) → K135 z6 z7 I J (va_up B 31 (upd (B 31) x5.toNatClampNeg z5)) D))
def wl_Situation_unpack_135 (a0 : Int64) (Post : (Nat → Int32) → (Nat → Int64) → (Nat → Nat → Int32) → (Nat → Nat → Int64) → Prop) (n : Nat) : Int64 → Int32 → (Nat → Int32) → (Nat → Int64) → (Nat → Nat → Int32) → (Nat → Nat → Int64) → Prop := Nat.rec (fun _ _ _ _ _ _ => False) (fun _ r => wb_Situation_unpack_135 a0 r Post) n
def wb_Situation_unpack_97 (a0 : Int64) (K97 : Int64 → Int32 → (Nat → Int32) → (Nat → Int64) → (Nat → Nat → Int32) → (Nat → Nat → Int64) → Prop) (Post : (Nat → Int32) → (Nat → Int64) → (Nat → Nat → Int32) → (Nat → Nat → Int64) → Prop) (x3 : Int64) (x5 : Int32) (I : Nat → Int32) (J : Nat → Int64) (B : Nat → Nat → Int32) (D : Nat → Nat → Int64) : Prop :=
  ((x5 < 0 → ∃ n : Nat, wl_Situation_unpack_135 a0 Post n x3 3 I J B D) ∧ (¬ x5 < 0 → vp_in x5 6 ∧ ∀ z9 : Int32, z9 = ((B 4) x5.toNatClampNeg) → ∀ z10 : Int32, z10 = x3.toInt32 → ∀ z11 : Int32, z11 = (z10 &&& 7) → vp_in z9 8 ∧ ∀ z12 : Int64, z12 = (x3.toUInt64 >>> ((3 : Int32).toInt64.toUInt64 &&& Int64.toUInt64 63)).toInt64 → ∀ z13 : Int32, z13 = (x5 + (-1)) → K97 z12 z13 I J (va_up B 29 (upd (B 29) z9.toNatClampNeg z11)) D))
def wl_Situation_unpack_97 (a0 : Int64) (Post : (Nat → Int32) → (Nat → Int64) → (Nat → Nat → Int32) → (Nat → Nat → Int64) → Prop) (n : Nat) : Int64 → Int32 → (Nat → Int32) → (Nat → Int64) → (Nat → Nat → Int32) → (Nat → Nat → Int64) → Prop := Nat.rec (fun _ _ _ _ _ _ => False) (fun _ r => wb_Situation_unpack_97 a0 r Post) n
def wb_Situation_unpack_33 (a0 : Int64) (K33 : Int64 → Int32 → Int32 → Int32 → (Nat → Int32) → (Nat → Int64) → (Nat → Nat → Int32) → (Nat → Nat → Int64) → Prop) (K13 : Int64 → Int32 → (Nat → Int32) → (Nat → Int64) → (Nat → Nat → Int32) → (Nat → Nat → Int64) → Prop) (Post : (Nat → Int32) → (Nat → Int64) → (Nat → Nat → Int32) → (Nat → Nat → Int64) → Prop) (x3 : Int64) (x5 : Int32) (x6 : Int32) (x7 : Int32) (I : Nat → Int32) (J : Nat → Int64) (B : Nat → Nat → Int32) (D : Nat → Nat → Int64) : Prop :=
  ((x7 < 0 → ∀ z15 : Int32, z15 = x3.toInt32 → ∀ z16 : Int32, z16 = (z15 &&& 3) → vp_in x6 8 ∧ ∀ z17 : Int64, z17 = (x3.toUInt64 >>> ((2 : Int32).toInt64.toUInt64 &&& Int64.toUInt64 63)).toInt64 → ∀ z18 : Int32, z18 = (x5 + (-1)) → K13 z17 z18 I J (va_up B 29 (upd (B 29) x6.toNatClampNeg z16)) D) ∧ (¬ x7 < 0 → ∀ z19 : Int32, z19 = (x6 * 3) → ∀ z20 : Int32, z20 = (z19 + x7) → ∀ z21 : Int32, z21 = x3.toInt32 → ∀ z22 : Int32, z22 = (z21 &&& 7) → vp_in z20 24 ∧ ∀ z23 : Int64, z23 = (x3.toUInt64 >>> ((3 : Int32).toInt64.toUInt64 &&& Int64.toUInt64 63)).toInt64 → ∀ z24 : Int32, z24 = (x7 + (-1)) → K33 z23 x5 x6 z24 I J (va_up B 30 (upd (B 30) z20.toNatClampNeg z22)) D))
def wl_Situation_unpack_33 (a0 : Int64) (K13 : Int64 → Int32 → (Nat → Int32) → (Nat → Int64) → (Nat → Nat → Int32) → (Nat → Nat → Int64) → Prop) (Post : (Nat → Int32) → (Nat → Int64) → (Nat → Nat → Int32) → (Nat → Nat → Int64) → Prop) (n : Nat) : Int64 → Int32 → Int32 → Int32 → (Nat → Int32) → (Nat → Int64) → (Nat → Nat → Int32) → (Nat → Nat → Int64) → Prop := Nat.rec (fun _ _ _ _ _ _ _ _ => False) (fun _ r => wb_Situation_unpack_33 a0 r K13 Post) n
def wb_Situation_unpack_13 (a0 : Int64) (K13 : Int64 → Int32 → (Nat → Int32) → (Nat → Int64) → (Nat → Nat → Int32) → (Nat → Nat → Int64) → Prop) (Post : (Nat → Int32) → (Nat → Int64) → (Nat → Nat → Int32) → (Nat → Nat → Int64) → Prop) (x3 : Int64) (x5 : Int32) (I : Nat → Int32) (J : Nat → Int64) (B : Nat → Nat → Int32) (D : Nat → Nat → Int64) : Prop :=
  ((x5 < 0 → ∀ z26 : Int32, z26 = ((I 7) - 1) → ∃ n : Nat, wl_Situation_unpack_97 a0 Post n x3 z26 I J B D) ∧ (¬ x5 < 0 → vp_in x5 2 ∧ ∀ z27 : Int32, z27 = ((B 5) x5.toNatClampNeg) → ∃ n : Nat, wl_Situation_unpack_33 a0 K13 Post n x3 x5 z27 2 I J B D))
def wl_Situation_unpack_13 (a0 : Int64) (Post : (Nat → Int32) → (Nat → Int64) → (Nat → Nat → Int32) → (Nat → Nat → Int64) → Prop) (n : Nat) : Int64 → Int32 → (Nat → Int32) → (Nat → Int64) → (Nat → Nat → Int32) → (Nat → Nat → Int64) → Prop := Nat.rec (fun _ _ _ _ _ _ => False) (fun _ r => wb_Situation_unpack_13 a0 r Post) n
def wp_Situation_unpack (I : Nat → Int32) (J : Nat → Int64) (B : Nat → Nat → Int32) (D : Nat → Nat → Int64) (a0 : Int64) (Post : (Nat → Int32) → (Nat → Int64) → (Nat → Nat → Int32) → (Nat → Nat → Int64) → Prop) : Prop :=
  ∀ z28 : Int32, z28 = ((I 8) - 1) → ∃ n : Nat, wl_Situation_unpack_13 a0 Post n a0 z28 I J B D
set_option maxHeartbeats 8000000 in
set_option maxRecDepth 100000 in
theorem wB_Situation_unpack_135 {p : Program} {l : Launch} {e : Env} {s : State} {m : MethodId} {below : List Frame} {meth : Method} {c : Code} {A : Nat → Prop} (G : va_G) (K : Nat → ClassId) (ad : Nat → Nat) (sv : Value) (a0 : Int64) (Post : (Nat → Int32) → (Nat → Int64) → (Nat → Nat → Int32) → (Nat → Nat → Int64) → Prop) (C : zCx p s m ([.ref (ad 7), .long a0] : List Value).toArray meth c A G K prog_8_method_4_code none 8 "LassoFinder$Situation") (K135 : Int64 → Int32 → (Nat → Int32) → (Nat → Int64) → (Nat → Nat → Int32) → (Nat → Nat → Int64) → Prop) (kh135 : ∀ (x3 : Int64) (x5 : Int32) (I : Nat → Int32) (J : Nat → Int64) (B : Nat → Nat → Int32) (D : Nat → Nat → Int64) (ls : Array Slot) (H : Heap) (locs : List Loc), K135 x3 x5 I J B D → lv_has ls 8 [(0, .ref (ad 7)), (3, .long x3), (5, .int x5)] → zW G A s.heap (wX ad K sv I J B D) H locs → W p l e { frames := 0, cells := 0, slots := 0, locals := 0 } s m ([.ref (ad 7), .long a0] : List Value).toArray below meth c H locs 0 0 (MQ below (va_Qv (fun u : zS => Post u.1 u.2.1 u.2.2.1 u.2.2.2) (fun u t => zPost G K A (wX ad K sv u.1 u.2.1 u.2.2.1 u.2.2.2) t) A) ([.ref (ad 7), .long a0] : List Value).toArray s 0 0 A) (F0 m 135 ls [])) : ∀ (x3 : Int64) (x5 : Int32) (I : Nat → Int32) (J : Nat → Int64) (B : Nat → Nat → Int32) (D : Nat → Nat → Int64) (ls : Array Slot) (H : Heap) (locs : List Loc), wb_Situation_unpack_135 a0 K135 Post x3 x5 I J B D → lv_has ls 8 [(0, .ref (ad 7)), (3, .long x3), (5, .int x5)] → zW G A s.heap (wX ad K sv I J B D) H locs → W p l e { frames := 0, cells := 0, slots := 0, locals := 0 } s m ([.ref (ad 7), .long a0] : List Value).toArray below meth c H locs 0 0 (MQ below (va_Qv (fun u : zS => Post u.1 u.2.1 u.2.2.1 u.2.2.2) (fun u t => zPost G K A (wX ad K sv u.1 u.2.1 u.2.2.1 u.2.2.2) t) A) ([.ref (ad 7), .long a0] : List Value).toArray s 0 0 A) (F0 m 135 ls []) := by
  obtain ⟨hx, hb, hr, hml, hts, hown, hlocks, hA, hK⟩ := id C
  intro x3 x5 I J B D ls H locs hok hl hw
  unfold wb_Situation_unpack_135 at hok
  refine lv_iload hx hb zd_Situation_unpack_135 (lv_at hl 2 rfl) ?_
  refine lv_if_lt (tgt := 162) hx hb zd_Situation_unpack_137 (by decide) (fun hc1 => ?_) (fun hc1 => ?_)
  · have hok := hok.1 hc1
    refine lv_aload_n hx hb zd_Situation_unpack_162 rfl (lv_at hl 0 rfl) ?_
    refine lv_lload_n hx hb zd_Situation_unpack_163 rfl (lv_at hl 1 rfl) ?_
    refine lv_l2i hx hb zd_Situation_unpack_164 rfl ?_
    refine lv_topi (fun z2 ez2 => ?_)
    have hok := hok z2 ez2
    refine lv_iconst (v := 1) hx hb zd_Situation_unpack_165 (by decide) ?_
    refine lv_isub hx hb zd_Situation_unpack_166 ?_
    refine lv_topi (fun z3 ez3 => ?_)
    have hok := hok z3 ez3
    refine z_put (v := .int z3) hx hb hts hown hK hw zZ7 7 wX_g7 6 (by decide) zn_311 rfl rfl rfl (Nat.le_of_ble_eq_true rfl) zd_Situation_unpack_167 (fun H locs hw => ?_)
    have hw := wX_sI18 hw
    exact (z_vret (u := ((upd I 18 z3), J, B, D)) hx hb hr hlocks hw (List.range 65) wX_all wX_nd hok (Nat.le_of_ble_eq_true rfl) (Nat.le_of_ble_eq_true rfl) zd_Situation_unpack_170)
  · have hok := hok.2 hc1
    refine lv_aload_n hx hb zd_Situation_unpack_140 rfl (lv_at hl 0 rfl) ?_
    refine z_get (v := .ref (ad 45)) hx hb hts hown hK hw zZ7 7 wX_g7 5 (by decide) zn_268 rfl zd_Situation_unpack_141 ?_
    refine lv_iload hx hb zd_Situation_unpack_144 (lv_at hl 2 rfl) ?_
    refine lv_lload_n hx hb zd_Situation_unpack_146 rfl (lv_at hl 1 rfl) ?_
    refine lv_l2i hx hb zd_Situation_unpack_147 rfl ?_
    refine lv_topi (fun z4 ez4 => ?_)
    have hok := hok z4 ez4
    refine lv_bipush (v := 31) hx hb zd_Situation_unpack_148 (by decide) ?_
    refine lv_iand hx hb zd_Situation_unpack_150 ?_
    refine lv_topi (fun z5 ez5 => ?_)
    have hok := hok z5 ez5
    refine va_iast (f := (B 31)) hx hb hK hw.1 hw.2.1 hw.2.2 45 0 wX_a45 rfl hok.1 zd_Situation_unpack_151 (fun H locs w91 w92 w93 => ?_)
    have hok := hok.2
    have hw := wX_t45 ⟨w91, w92, w93⟩
    refine lv_lload_n hx hb zd_Situation_unpack_152 rfl (lv_at hl 1 rfl) ?_
    refine lv_iconst (v := 5) hx hb zd_Situation_unpack_153 (by decide) ?_
    refine lv_lushr hx hb zd_Situation_unpack_154 rfl ?_
    refine lv_topl (fun z6 ez6 => ?_)
    have hok := hok z6 ez6
    refine lv_lstore_n hx hb zd_Situation_unpack_155 rfl hl (by decide) rfl (fun ls hl => ?_)
    have hl : lv_has ls 8 [(3, .long z6), (0, .ref (ad 7)), (5, .int x5)] := hl
    obtain ⟨z7, ez7⟩ : ∃ z : Int32, z = (x5 + (-1)) := ⟨_, rfl⟩
    have hok := hok z7 ez7
    refine lv_iinc (v := z7) hx hb zd_Situation_unpack_156 hl (k := 2) rfl ez7.symm (by decide) rfl (fun ls hl => ?_)
    have hl : lv_has ls 8 [(5, .int z7), (3, .long z6), (0, .ref (ad 7))] := hl
    refine lv_goto (tgt := 135) hx hb zd_Situation_unpack_159 (by decide) ?_
    exact kh135 z6 z7 I J (va_up B 31 (upd (B 31) x5.toNatClampNeg z5)) D ls H locs hok (lv_sub hl [2, 1, 0] rfl) hw
theorem wL_Situation_unpack_135 {p : Program} {l : Launch} {e : Env} {s : State} {m : MethodId} {below : List Frame} {meth : Method} {c : Code} {A : Nat → Prop} (G : va_G) (K : Nat → ClassId) (ad : Nat → Nat) (sv : Value) (a0 : Int64) (Post : (Nat → Int32) → (Nat → Int64) → (Nat → Nat → Int32) → (Nat → Nat → Int64) → Prop) (C : zCx p s m ([.ref (ad 7), .long a0] : List Value).toArray meth c A G K prog_8_method_4_code none 8 "LassoFinder$Situation") : ∀ (n : Nat) (x3 : Int64) (x5 : Int32) (I : Nat → Int32) (J : Nat → Int64) (B : Nat → Nat → Int32) (D : Nat → Nat → Int64) (ls : Array Slot) (H : Heap) (locs : List Loc), wl_Situation_unpack_135 a0 Post n x3 x5 I J B D → lv_has ls 8 [(0, .ref (ad 7)), (3, .long x3), (5, .int x5)] → zW G A s.heap (wX ad K sv I J B D) H locs → W p l e { frames := 0, cells := 0, slots := 0, locals := 0 } s m ([.ref (ad 7), .long a0] : List Value).toArray below meth c H locs 0 0 (MQ below (va_Qv (fun u : zS => Post u.1 u.2.1 u.2.2.1 u.2.2.2) (fun u t => zPost G K A (wX ad K sv u.1 u.2.1 u.2.2.1 u.2.2.2) t) A) ([.ref (ad 7), .long a0] : List Value).toArray s 0 0 A) (F0 m 135 ls []) := by
  intro n
  induction n with
  | zero => intro x3 x5 I J B D ls H locs hok; exact hok.elim
  | succ n ih => exact wB_Situation_unpack_135 G K ad sv a0 Post C (wl_Situation_unpack_135 a0 Post n) ih
set_option maxHeartbeats 8000000 in
set_option maxRecDepth 100000 in
theorem wB_Situation_unpack_97 {p : Program} {l : Launch} {e : Env} {s : State} {m : MethodId} {below : List Frame} {meth : Method} {c : Code} {A : Nat → Prop} (G : va_G) (K : Nat → ClassId) (ad : Nat → Nat) (sv : Value) (a0 : Int64) (Post : (Nat → Int32) → (Nat → Int64) → (Nat → Nat → Int32) → (Nat → Nat → Int64) → Prop) (C : zCx p s m ([.ref (ad 7), .long a0] : List Value).toArray meth c A G K prog_8_method_4_code none 8 "LassoFinder$Situation") (K97 : Int64 → Int32 → (Nat → Int32) → (Nat → Int64) → (Nat → Nat → Int32) → (Nat → Nat → Int64) → Prop) (kh97 : ∀ (x3 : Int64) (x5 : Int32) (I : Nat → Int32) (J : Nat → Int64) (B : Nat → Nat → Int32) (D : Nat → Nat → Int64) (ls : Array Slot) (H : Heap) (locs : List Loc), K97 x3 x5 I J B D → lv_has ls 8 [(0, .ref (ad 7)), (3, .long x3), (5, .int x5)] → zW G A s.heap (wX ad K sv I J B D) H locs → W p l e { frames := 0, cells := 0, slots := 0, locals := 0 } s m ([.ref (ad 7), .long a0] : List Value).toArray below meth c H locs 0 0 (MQ below (va_Qv (fun u : zS => Post u.1 u.2.1 u.2.2.1 u.2.2.2) (fun u t => zPost G K A (wX ad K sv u.1 u.2.1 u.2.2.1 u.2.2.2) t) A) ([.ref (ad 7), .long a0] : List Value).toArray s 0 0 A) (F0 m 97 ls [])) : ∀ (x3 : Int64) (x5 : Int32) (I : Nat → Int32) (J : Nat → Int64) (B : Nat → Nat → Int32) (D : Nat → Nat → Int64) (ls : Array Slot) (H : Heap) (locs : List Loc), wb_Situation_unpack_97 a0 K97 Post x3 x5 I J B D → lv_has ls 8 [(0, .ref (ad 7)), (3, .long x3), (5, .int x5)] → zW G A s.heap (wX ad K sv I J B D) H locs → W p l e { frames := 0, cells := 0, slots := 0, locals := 0 } s m ([.ref (ad 7), .long a0] : List Value).toArray below meth c H locs 0 0 (MQ below (va_Qv (fun u : zS => Post u.1 u.2.1 u.2.2.1 u.2.2.2) (fun u t => zPost G K A (wX ad K sv u.1 u.2.1 u.2.2.1 u.2.2.2) t) A) ([.ref (ad 7), .long a0] : List Value).toArray s 0 0 A) (F0 m 97 ls []) := by
  obtain ⟨hx, hb, hr, hml, hts, hown, hlocks, hA, hK⟩ := id C
  intro x3 x5 I J B D ls H locs hok hl hw
  unfold wb_Situation_unpack_97 at hok
  refine lv_iload hx hb zd_Situation_unpack_97 (lv_at hl 2 rfl) ?_
  refine lv_if_lt (tgt := 132) hx hb zd_Situation_unpack_99 (by decide) (fun hc8 => ?_) (fun hc8 => ?_)
  · have hok := hok.1 hc8
    refine lv_iconst (v := 3) hx hb zd_Situation_unpack_132 (by decide) ?_
    refine lv_istore hx hb zd_Situation_unpack_133 hl (by decide) rfl (fun ls hl => ?_)
    have hl : lv_has ls 8 [(5, .int 3), (0, .ref (ad 7)), (3, .long x3)] := hl
    obtain ⟨n9, hok⟩ := hok
    exact wL_Situation_unpack_135 G K ad sv a0 Post C n9 x3 3 I J B D ls H locs hok (lv_sub hl [1, 2, 0] rfl) hw
  · have hok := hok.2 hc8
    refine lv_aload_n hx hb zd_Situation_unpack_102 rfl (lv_at hl 0 rfl) ?_
    refine z_get (v := .ref (ad 43)) hx hb hts hown hK hw zZ7 7 wX_g7 3 (by decide) zn_266 rfl zd_Situation_unpack_103 ?_
    refine lv_aload_n hx hb zd_Situation_unpack_106 rfl (lv_at hl 0 rfl) ?_
    refine z_get (v := .ref (ad 2)) hx hb hts hown hK hw zZ7 7 wX_g7 0 (by decide) zn_306 rfl zd_Situation_unpack_107 ?_
    refine z_get (v := .ref (ad 16)) hx hb hts hown hK hw zZ5 2 wX_g2 2 (by decide) zn_310 rfl zd_Situation_unpack_110 ?_
    refine lv_iload hx hb zd_Situation_unpack_113 (lv_at hl 2 rfl) ?_
    refine va_iald (f := (B 4)) hx hb hK hw.1 16 0 wX_a16 rfl hok.1 zd_Situation_unpack_115 ?_
    have hok := hok.2
    refine lv_topi (fun z9 ez9 => ?_)
    have hok := hok z9 ez9
    refine lv_lload_n hx hb zd_Situation_unpack_116 rfl (lv_at hl 1 rfl) ?_
    refine lv_l2i hx hb zd_Situation_unpack_117 rfl ?_
    refine lv_topi (fun z10 ez10 => ?_)
    have hok := hok z10 ez10
    refine lv_bipush (v := 7) hx hb zd_Situation_unpack_118 (by decide) ?_
    refine lv_iand hx hb zd_Situation_unpack_120 ?_
    refine lv_topi (fun z11 ez11 => ?_)
    have hok := hok z11 ez11
    refine va_iast (f := (B 29)) hx hb hK hw.1 hw.2.1 hw.2.2 43 0 wX_a43 rfl hok.1 zd_Situation_unpack_121 (fun H locs w91 w92 w93 => ?_)
    have hok := hok.2
    have hw := wX_t43 ⟨w91, w92, w93⟩
    refine lv_lload_n hx hb zd_Situation_unpack_122 rfl (lv_at hl 1 rfl) ?_
    refine lv_iconst (v := 3) hx hb zd_Situation_unpack_123 (by decide) ?_
    refine lv_lushr hx hb zd_Situation_unpack_124 rfl ?_
    refine lv_topl (fun z12 ez12 => ?_)
    have hok := hok z12 ez12
    refine lv_lstore_n hx hb zd_Situation_unpack_125 rfl hl (by decide) rfl (fun ls hl => ?_)
    have hl : lv_has ls 8 [(3, .long z12), (0, .ref (ad 7)), (5, .int x5)] := hl
    obtain ⟨z13, ez13⟩ : ∃ z : Int32, z = (x5 + (-1)) := ⟨_, rfl⟩
    have hok := hok z13 ez13
    refine lv_iinc (v := z13) hx hb zd_Situation_unpack_126 hl (k := 2) rfl ez13.symm (by decide) rfl (fun ls hl => ?_)
    have hl : lv_has ls 8 [(5, .int z13), (3, .long z12), (0, .ref (ad 7))] := hl
    refine lv_goto (tgt := 97) hx hb zd_Situation_unpack_129 (by decide) ?_
    exact kh97 z12 z13 I J (va_up B 29 (upd (B 29) z9.toNatClampNeg z11)) D ls H locs hok (lv_sub hl [2, 1, 0] rfl) hw
theorem wL_Situation_unpack_97 {p : Program} {l : Launch} {e : Env} {s : State} {m : MethodId} {below : List Frame} {meth : Method} {c : Code} {A : Nat → Prop} (G : va_G) (K : Nat → ClassId) (ad : Nat → Nat) (sv : Value) (a0 : Int64) (Post : (Nat → Int32) → (Nat → Int64) → (Nat → Nat → Int32) → (Nat → Nat → Int64) → Prop) (C : zCx p s m ([.ref (ad 7), .long a0] : List Value).toArray meth c A G K prog_8_method_4_code none 8 "LassoFinder$Situation") : ∀ (n : Nat) (x3 : Int64) (x5 : Int32) (I : Nat → Int32) (J : Nat → Int64) (B : Nat → Nat → Int32) (D : Nat → Nat → Int64) (ls : Array Slot) (H : Heap) (locs : List Loc), wl_Situation_unpack_97 a0 Post n x3 x5 I J B D → lv_has ls 8 [(0, .ref (ad 7)), (3, .long x3), (5, .int x5)] → zW G A s.heap (wX ad K sv I J B D) H locs → W p l e { frames := 0, cells := 0, slots := 0, locals := 0 } s m ([.ref (ad 7), .long a0] : List Value).toArray below meth c H locs 0 0 (MQ below (va_Qv (fun u : zS => Post u.1 u.2.1 u.2.2.1 u.2.2.2) (fun u t => zPost G K A (wX ad K sv u.1 u.2.1 u.2.2.1 u.2.2.2) t) A) ([.ref (ad 7), .long a0] : List Value).toArray s 0 0 A) (F0 m 97 ls []) := by
  intro n
  induction n with
  | zero => intro x3 x5 I J B D ls H locs hok; exact hok.elim
  | succ n ih => exact wB_Situation_unpack_97 G K ad sv a0 Post C (wl_Situation_unpack_97 a0 Post n) ih
set_option maxHeartbeats 8000000 in
set_option maxRecDepth 100000 in
theorem wB_Situation_unpack_33 {p : Program} {l : Launch} {e : Env} {s : State} {m : MethodId} {below : List Frame} {meth : Method} {c : Code} {A : Nat → Prop} (G : va_G) (K : Nat → ClassId) (ad : Nat → Nat) (sv : Value) (a0 : Int64) (Post : (Nat → Int32) → (Nat → Int64) → (Nat → Nat → Int32) → (Nat → Nat → Int64) → Prop) (C : zCx p s m ([.ref (ad 7), .long a0] : List Value).toArray meth c A G K prog_8_method_4_code none 8 "LassoFinder$Situation") (K13 : Int64 → Int32 → (Nat → Int32) → (Nat → Int64) → (Nat → Nat → Int32) → (Nat → Nat → Int64) → Prop) (kh13 : ∀ (x3 : Int64) (x5 : Int32) (I : Nat → Int32) (J : Nat → Int64) (B : Nat → Nat → Int32) (D : Nat → Nat → Int64) (ls : Array Slot) (H : Heap) (locs : List Loc), K13 x3 x5 I J B D → lv_has ls 8 [(0, .ref (ad 7)), (3, .long x3), (5, .int x5)] → zW G A s.heap (wX ad K sv I J B D) H locs → W p l e { frames := 0, cells := 0, slots := 0, locals := 0 } s m ([.ref (ad 7), .long a0] : List Value).toArray below meth c H locs 0 0 (MQ below (va_Qv (fun u : zS => Post u.1 u.2.1 u.2.2.1 u.2.2.2) (fun u t => zPost G K A (wX ad K sv u.1 u.2.1 u.2.2.1 u.2.2.2) t) A) ([.ref (ad 7), .long a0] : List Value).toArray s 0 0 A) (F0 m 13 ls [])) (K33 : Int64 → Int32 → Int32 → Int32 → (Nat → Int32) → (Nat → Int64) → (Nat → Nat → Int32) → (Nat → Nat → Int64) → Prop) (kh33 : ∀ (x3 : Int64) (x5 : Int32) (x6 : Int32) (x7 : Int32) (I : Nat → Int32) (J : Nat → Int64) (B : Nat → Nat → Int32) (D : Nat → Nat → Int64) (ls : Array Slot) (H : Heap) (locs : List Loc), K33 x3 x5 x6 x7 I J B D → lv_has ls 8 [(0, .ref (ad 7)), (3, .long x3), (5, .int x5), (6, .int x6), (7, .int x7)] → zW G A s.heap (wX ad K sv I J B D) H locs → W p l e { frames := 0, cells := 0, slots := 0, locals := 0 } s m ([.ref (ad 7), .long a0] : List Value).toArray below meth c H locs 0 0 (MQ below (va_Qv (fun u : zS => Post u.1 u.2.1 u.2.2.1 u.2.2.2) (fun u t => zPost G K A (wX ad K sv u.1 u.2.1 u.2.2.1 u.2.2.2) t) A) ([.ref (ad 7), .long a0] : List Value).toArray s 0 0 A) (F0 m 33 ls [])) : ∀ (x3 : Int64) (x5 : Int32) (x6 : Int32) (x7 : Int32) (I : Nat → Int32) (J : Nat → Int64) (B : Nat → Nat → Int32) (D : Nat → Nat → Int64) (ls : Array Slot) (H : Heap) (locs : List Loc), wb_Situation_unpack_33 a0 K33 K13 Post x3 x5 x6 x7 I J B D → lv_has ls 8 [(0, .ref (ad 7)), (3, .long x3), (5, .int x5), (6, .int x6), (7, .int x7)] → zW G A s.heap (wX ad K sv I J B D) H locs → W p l e { frames := 0, cells := 0, slots := 0, locals := 0 } s m ([.ref (ad 7), .long a0] : List Value).toArray below meth c H locs 0 0 (MQ below (va_Qv (fun u : zS => Post u.1 u.2.1 u.2.2.1 u.2.2.2) (fun u t => zPost G K A (wX ad K sv u.1 u.2.1 u.2.2.1 u.2.2.2) t) A) ([.ref (ad 7), .long a0] : List Value).toArray s 0 0 A) (F0 m 33 ls []) := by
  obtain ⟨hx, hb, hr, hml, hts, hown, hlocks, hA, hK⟩ := id C
  intro x3 x5 x6 x7 I J B D ls H locs hok hl hw
  unfold wb_Situation_unpack_33 at hok
  refine lv_iload hx hb zd_Situation_unpack_33 (lv_at hl 4 rfl) ?_
  refine lv_if_lt (tgt := 65) hx hb zd_Situation_unpack_35 (by decide) (fun hc14 => ?_) (fun hc14 => ?_)
  · have hok := hok.1 hc14
    refine lv_aload_n hx hb zd_Situation_unpack_65 rfl (lv_at hl 0 rfl) ?_
    refine z_get (v := .ref (ad 43)) hx hb hts hown hK hw zZ7 7 wX_g7 3 (by decide) zn_266 rfl zd_Situation_unpack_66 ?_
    refine lv_iload hx hb zd_Situation_unpack_69 (lv_at hl 3 rfl) ?_
    refine lv_lload_n hx hb zd_Situation_unpack_71 rfl (lv_at hl 1 rfl) ?_
    refine lv_l2i hx hb zd_Situation_unpack_72 rfl ?_
    refine lv_topi (fun z15 ez15 => ?_)
    have hok := hok z15 ez15
    refine lv_iconst (v := 3) hx hb zd_Situation_unpack_73 (by decide) ?_
    refine lv_iand hx hb zd_Situation_unpack_74 ?_
    refine lv_topi (fun z16 ez16 => ?_)
    have hok := hok z16 ez16
    refine va_iast (f := (B 29)) hx hb hK hw.1 hw.2.1 hw.2.2 43 0 wX_a43 rfl hok.1 zd_Situation_unpack_75 (fun H locs w91 w92 w93 => ?_)
    have hok := hok.2
    have hw := wX_t43 ⟨w91, w92, w93⟩
    refine lv_lload_n hx hb zd_Situation_unpack_76 rfl (lv_at hl 1 rfl) ?_
    refine lv_iconst (v := 2) hx hb zd_Situation_unpack_77 (by decide) ?_
    refine lv_lushr hx hb zd_Situation_unpack_78 rfl ?_
    refine lv_topl (fun z17 ez17 => ?_)
    have hok := hok z17 ez17
    refine lv_lstore_n hx hb zd_Situation_unpack_79 rfl hl (by decide) rfl (fun ls hl => ?_)
    have hl : lv_has ls 8 [(3, .long z17), (0, .ref (ad 7)), (5, .int x5), (6, .int x6), (7, .int x7)] := hl
    obtain ⟨z18, ez18⟩ : ∃ z : Int32, z = (x5 + (-1)) := ⟨_, rfl⟩
    have hok := hok z18 ez18
    refine lv_iinc (v := z18) hx hb zd_Situation_unpack_80 hl (k := 2) rfl ez18.symm (by decide) rfl (fun ls hl => ?_)
    have hl : lv_has ls 8 [(5, .int z18), (3, .long z17), (0, .ref (ad 7)), (6, .int x6), (7, .int x7)] := hl
    refine lv_goto (tgt := 13) hx hb zd_Situation_unpack_83 (by decide) ?_
    exact kh13 z17 z18 I J (va_up B 29 (upd (B 29) x6.toNatClampNeg z16)) D ls H locs hok (lv_sub hl [2, 1, 0] rfl) hw
  · have hok := hok.2 hc14
    refine lv_aload_n hx hb zd_Situation_unpack_38 rfl (lv_at hl 0 rfl) ?_
    refine z_get (v := .ref (ad 44)) hx hb hts hown hK hw zZ7 7 wX_g7 4 (by decide) zn_267 rfl zd_Situation_unpack_39 ?_
    refine lv_iload hx hb zd_Situation_unpack_42 (lv_at hl 3 rfl) ?_
    refine lv_iconst (v := 3) hx hb zd_Situation_unpack_44 (by decide) ?_
    refine lv_imul hx hb zd_Situation_unpack_45 ?_
    refine lv_topi (fun z19 ez19 => ?_)
    have hok := hok z19 ez19
    refine lv_iload hx hb zd_Situation_unpack_46 (lv_at hl 4 rfl) ?_
    refine lv_iadd hx hb zd_Situation_unpack_48 ?_
    refine lv_topi (fun z20 ez20 => ?_)
    have hok := hok z20 ez20
    refine lv_lload_n hx hb zd_Situation_unpack_49 rfl (lv_at hl 1 rfl) ?_
    refine lv_l2i hx hb zd_Situation_unpack_50 rfl ?_
    refine lv_topi (fun z21 ez21 => ?_)
    have hok := hok z21 ez21
    refine lv_bipush (v := 7) hx hb zd_Situation_unpack_51 (by decide) ?_
    refine lv_iand hx hb zd_Situation_unpack_53 ?_
    refine lv_topi (fun z22 ez22 => ?_)
    have hok := hok z22 ez22
    refine va_iast (f := (B 30)) hx hb hK hw.1 hw.2.1 hw.2.2 44 0 wX_a44 rfl hok.1 zd_Situation_unpack_54 (fun H locs w91 w92 w93 => ?_)
    have hok := hok.2
    have hw := wX_t44 ⟨w91, w92, w93⟩
    refine lv_lload_n hx hb zd_Situation_unpack_55 rfl (lv_at hl 1 rfl) ?_
    refine lv_iconst (v := 3) hx hb zd_Situation_unpack_56 (by decide) ?_
    refine lv_lushr hx hb zd_Situation_unpack_57 rfl ?_
    refine lv_topl (fun z23 ez23 => ?_)
    have hok := hok z23 ez23
    refine lv_lstore_n hx hb zd_Situation_unpack_58 rfl hl (by decide) rfl (fun ls hl => ?_)
    have hl : lv_has ls 8 [(3, .long z23), (0, .ref (ad 7)), (5, .int x5), (6, .int x6), (7, .int x7)] := hl
    obtain ⟨z24, ez24⟩ : ∃ z : Int32, z = (x7 + (-1)) := ⟨_, rfl⟩
    have hok := hok z24 ez24
    refine lv_iinc (v := z24) hx hb zd_Situation_unpack_59 hl (k := 4) rfl ez24.symm (by decide) rfl (fun ls hl => ?_)
    have hl : lv_has ls 8 [(7, .int z24), (3, .long z23), (0, .ref (ad 7)), (5, .int x5), (6, .int x6)] := hl
    refine lv_goto (tgt := 33) hx hb zd_Situation_unpack_62 (by decide) ?_
    exact kh33 z23 x5 x6 z24 I J (va_up B 30 (upd (B 30) z20.toNatClampNeg z22)) D ls H locs hok (lv_sub hl [2, 1, 3, 4, 0] rfl) hw
theorem wL_Situation_unpack_33 {p : Program} {l : Launch} {e : Env} {s : State} {m : MethodId} {below : List Frame} {meth : Method} {c : Code} {A : Nat → Prop} (G : va_G) (K : Nat → ClassId) (ad : Nat → Nat) (sv : Value) (a0 : Int64) (Post : (Nat → Int32) → (Nat → Int64) → (Nat → Nat → Int32) → (Nat → Nat → Int64) → Prop) (C : zCx p s m ([.ref (ad 7), .long a0] : List Value).toArray meth c A G K prog_8_method_4_code none 8 "LassoFinder$Situation") (K13 : Int64 → Int32 → (Nat → Int32) → (Nat → Int64) → (Nat → Nat → Int32) → (Nat → Nat → Int64) → Prop) (kh13 : ∀ (x3 : Int64) (x5 : Int32) (I : Nat → Int32) (J : Nat → Int64) (B : Nat → Nat → Int32) (D : Nat → Nat → Int64) (ls : Array Slot) (H : Heap) (locs : List Loc), K13 x3 x5 I J B D → lv_has ls 8 [(0, .ref (ad 7)), (3, .long x3), (5, .int x5)] → zW G A s.heap (wX ad K sv I J B D) H locs → W p l e { frames := 0, cells := 0, slots := 0, locals := 0 } s m ([.ref (ad 7), .long a0] : List Value).toArray below meth c H locs 0 0 (MQ below (va_Qv (fun u : zS => Post u.1 u.2.1 u.2.2.1 u.2.2.2) (fun u t => zPost G K A (wX ad K sv u.1 u.2.1 u.2.2.1 u.2.2.2) t) A) ([.ref (ad 7), .long a0] : List Value).toArray s 0 0 A) (F0 m 13 ls [])) : ∀ (n : Nat) (x3 : Int64) (x5 : Int32) (x6 : Int32) (x7 : Int32) (I : Nat → Int32) (J : Nat → Int64) (B : Nat → Nat → Int32) (D : Nat → Nat → Int64) (ls : Array Slot) (H : Heap) (locs : List Loc), wl_Situation_unpack_33 a0 K13 Post n x3 x5 x6 x7 I J B D → lv_has ls 8 [(0, .ref (ad 7)), (3, .long x3), (5, .int x5), (6, .int x6), (7, .int x7)] → zW G A s.heap (wX ad K sv I J B D) H locs → W p l e { frames := 0, cells := 0, slots := 0, locals := 0 } s m ([.ref (ad 7), .long a0] : List Value).toArray below meth c H locs 0 0 (MQ below (va_Qv (fun u : zS => Post u.1 u.2.1 u.2.2.1 u.2.2.2) (fun u t => zPost G K A (wX ad K sv u.1 u.2.1 u.2.2.1 u.2.2.2) t) A) ([.ref (ad 7), .long a0] : List Value).toArray s 0 0 A) (F0 m 33 ls []) := by
  intro n
  induction n with
  | zero => intro x3 x5 x6 x7 I J B D ls H locs hok; exact hok.elim
  | succ n ih => exact wB_Situation_unpack_33 G K ad sv a0 Post C K13 kh13 (wl_Situation_unpack_33 a0 K13 Post n) ih
set_option maxHeartbeats 8000000 in
set_option maxRecDepth 100000 in
theorem wB_Situation_unpack_13 {p : Program} {l : Launch} {e : Env} {s : State} {m : MethodId} {below : List Frame} {meth : Method} {c : Code} {A : Nat → Prop} (G : va_G) (K : Nat → ClassId) (ad : Nat → Nat) (sv : Value) (a0 : Int64) (Post : (Nat → Int32) → (Nat → Int64) → (Nat → Nat → Int32) → (Nat → Nat → Int64) → Prop) (C : zCx p s m ([.ref (ad 7), .long a0] : List Value).toArray meth c A G K prog_8_method_4_code none 8 "LassoFinder$Situation") (K13 : Int64 → Int32 → (Nat → Int32) → (Nat → Int64) → (Nat → Nat → Int32) → (Nat → Nat → Int64) → Prop) (kh13 : ∀ (x3 : Int64) (x5 : Int32) (I : Nat → Int32) (J : Nat → Int64) (B : Nat → Nat → Int32) (D : Nat → Nat → Int64) (ls : Array Slot) (H : Heap) (locs : List Loc), K13 x3 x5 I J B D → lv_has ls 8 [(0, .ref (ad 7)), (3, .long x3), (5, .int x5)] → zW G A s.heap (wX ad K sv I J B D) H locs → W p l e { frames := 0, cells := 0, slots := 0, locals := 0 } s m ([.ref (ad 7), .long a0] : List Value).toArray below meth c H locs 0 0 (MQ below (va_Qv (fun u : zS => Post u.1 u.2.1 u.2.2.1 u.2.2.2) (fun u t => zPost G K A (wX ad K sv u.1 u.2.1 u.2.2.1 u.2.2.2) t) A) ([.ref (ad 7), .long a0] : List Value).toArray s 0 0 A) (F0 m 13 ls [])) : ∀ (x3 : Int64) (x5 : Int32) (I : Nat → Int32) (J : Nat → Int64) (B : Nat → Nat → Int32) (D : Nat → Nat → Int64) (ls : Array Slot) (H : Heap) (locs : List Loc), wb_Situation_unpack_13 a0 K13 Post x3 x5 I J B D → lv_has ls 8 [(0, .ref (ad 7)), (3, .long x3), (5, .int x5)] → zW G A s.heap (wX ad K sv I J B D) H locs → W p l e { frames := 0, cells := 0, slots := 0, locals := 0 } s m ([.ref (ad 7), .long a0] : List Value).toArray below meth c H locs 0 0 (MQ below (va_Qv (fun u : zS => Post u.1 u.2.1 u.2.2.1 u.2.2.2) (fun u t => zPost G K A (wX ad K sv u.1 u.2.1 u.2.2.1 u.2.2.2) t) A) ([.ref (ad 7), .long a0] : List Value).toArray s 0 0 A) (F0 m 13 ls []) := by
  obtain ⟨hx, hb, hr, hml, hts, hown, hlocks, hA, hK⟩ := id C
  intro x3 x5 I J B D ls H locs hok hl hw
  unfold wb_Situation_unpack_13 at hok
  refine lv_iload hx hb zd_Situation_unpack_13 (lv_at hl 2 rfl) ?_
  refine lv_if_lt (tgt := 86) hx hb zd_Situation_unpack_15 (by decide) (fun hc25 => ?_) (fun hc25 => ?_)
  · have hok := hok.1 hc25
    refine lv_aload_n hx hb zd_Situation_unpack_86 rfl (lv_at hl 0 rfl) ?_
    refine z_get (v := .ref (ad 2)) hx hb hts hown hK hw zZ7 7 wX_g7 0 (by decide) zn_306 rfl zd_Situation_unpack_87 ?_
    refine z_get (v := .int (I 7)) hx hb hts hown hK hw zZ5 2 wX_g2 4 (by decide) zn_309 rfl zd_Situation_unpack_90 ?_
    refine lv_iconst (v := 1) hx hb zd_Situation_unpack_93 (by decide) ?_
    refine lv_isub hx hb zd_Situation_unpack_94 ?_
    refine lv_topi (fun z26 ez26 => ?_)
    have hok := hok z26 ez26
    refine lv_istore hx hb zd_Situation_unpack_95 hl (by decide) rfl (fun ls hl => ?_)
    have hl : lv_has ls 8 [(5, .int z26), (0, .ref (ad 7)), (3, .long x3)] := hl
    obtain ⟨n9, hok⟩ := hok
    exact wL_Situation_unpack_97 G K ad sv a0 Post C n9 x3 z26 I J B D ls H locs hok (lv_sub hl [1, 2, 0] rfl) hw
  · have hok := hok.2 hc25
    refine lv_aload_n hx hb zd_Situation_unpack_18 rfl (lv_at hl 0 rfl) ?_
    refine z_get (v := .ref (ad 2)) hx hb hts hown hK hw zZ7 7 wX_g7 0 (by decide) zn_306 rfl zd_Situation_unpack_19 ?_
    refine z_get (v := .ref (ad 17)) hx hb hts hown hK hw zZ5 2 wX_g2 3 (by decide) zn_308 rfl zd_Situation_unpack_22 ?_
    refine lv_iload hx hb zd_Situation_unpack_25 (lv_at hl 2 rfl) ?_
    refine va_iald (f := (B 5)) hx hb hK hw.1 17 0 wX_a17 rfl hok.1 zd_Situation_unpack_27 ?_
    have hok := hok.2
    refine lv_topi (fun z27 ez27 => ?_)
    have hok := hok z27 ez27
    refine lv_istore hx hb zd_Situation_unpack_28 hl (by decide) rfl (fun ls hl => ?_)
    have hl : lv_has ls 8 [(6, .int z27), (0, .ref (ad 7)), (3, .long x3), (5, .int x5)] := hl
    refine lv_iconst (v := 2) hx hb zd_Situation_unpack_30 (by decide) ?_
    refine lv_istore hx hb zd_Situation_unpack_31 hl (by decide) rfl (fun ls hl => ?_)
    have hl : lv_has ls 8 [(7, .int 2), (6, .int z27), (0, .ref (ad 7)), (3, .long x3), (5, .int x5)] := hl
    obtain ⟨n9, hok⟩ := hok
    exact wL_Situation_unpack_33 G K ad sv a0 Post C K13 kh13 n9 x3 x5 z27 2 I J B D ls H locs hok (lv_sub hl [2, 3, 4, 1, 0] rfl) hw
theorem wL_Situation_unpack_13 {p : Program} {l : Launch} {e : Env} {s : State} {m : MethodId} {below : List Frame} {meth : Method} {c : Code} {A : Nat → Prop} (G : va_G) (K : Nat → ClassId) (ad : Nat → Nat) (sv : Value) (a0 : Int64) (Post : (Nat → Int32) → (Nat → Int64) → (Nat → Nat → Int32) → (Nat → Nat → Int64) → Prop) (C : zCx p s m ([.ref (ad 7), .long a0] : List Value).toArray meth c A G K prog_8_method_4_code none 8 "LassoFinder$Situation") : ∀ (n : Nat) (x3 : Int64) (x5 : Int32) (I : Nat → Int32) (J : Nat → Int64) (B : Nat → Nat → Int32) (D : Nat → Nat → Int64) (ls : Array Slot) (H : Heap) (locs : List Loc), wl_Situation_unpack_13 a0 Post n x3 x5 I J B D → lv_has ls 8 [(0, .ref (ad 7)), (3, .long x3), (5, .int x5)] → zW G A s.heap (wX ad K sv I J B D) H locs → W p l e { frames := 0, cells := 0, slots := 0, locals := 0 } s m ([.ref (ad 7), .long a0] : List Value).toArray below meth c H locs 0 0 (MQ below (va_Qv (fun u : zS => Post u.1 u.2.1 u.2.2.1 u.2.2.2) (fun u t => zPost G K A (wX ad K sv u.1 u.2.1 u.2.2.1 u.2.2.2) t) A) ([.ref (ad 7), .long a0] : List Value).toArray s 0 0 A) (F0 m 13 ls []) := by
  intro n
  induction n with
  | zero => intro x3 x5 I J B D ls H locs hok; exact hok.elim
  | succ n ih => exact wB_Situation_unpack_13 G K ad sv a0 Post C (wl_Situation_unpack_13 a0 Post n) ih
set_option maxHeartbeats 8000000 in
set_option maxRecDepth 100000 in
theorem w_Situation_unpack (l : Launch) (G : va_G) (K : Nat → ClassId) (ad : Nat → Nat) (sv : Value) (I : Nat → Int32) (J : Nat → Int64) (B : Nat → Nat → Int32) (D : Nat → Nat → Int64) (a0 : Int64) (Post : (Nat → Int32) → (Nat → Int64) → (Nat → Nat → Int32) → (Nat → Nat → Int64) → Prop) (sz : Nat) (hok : wp_Situation_unpack I J B D a0 Post) : Met l zy_Situation_unpack (Cond.code zy_Situation_unpack prog_8_method_4_code 8 none :: zTB) { frames := 0, cells := 0, slots := 0, locals := 0 } (va_Pc [.ref (ad 7), .long a0] (zPre G K (wX ad K sv I J B D) sz)) (va_Qv (fun u : zS => Post u.1 u.2.1 u.2.2.1 u.2.2.2) (fun u t => zPost G K (va_A (wX ad K sv I J B D) sz) (wX ad K sv u.1 u.2.1 u.2.2.1 u.2.2.2) t) (va_A (wX ad K sv I J B D) sz)) 0 0 (va_A (wX ad K sv I J B D) sz) := by
  refine zMet (y := zy_Situation_unpack) (av := [.ref (ad 7), .long a0]) (maxL := 8) (cc := prog_8_method_4_code) (ret := none) (W0 := (wX ad K sv I J B D)) (sz := sz) (G := G) (K := K) (wt := zTB) (mc := 0) (ms := 0) (Qf := fun A => va_Qv (fun u : zS => Post u.1 u.2.1 u.2.2.1 u.2.2.2) (fun u t => zPost G K A (wX ad K sv u.1 u.2.1 u.2.2.1 u.2.2.2) t) A) (by decide) (Nat.le_of_ble_eq_true rfl) ?_
  intro p e s m below meth c ls A hx hb hr hml hts hown hlocks hin hA hK H locs hw hsz hl
  clear hsz
  have hown : s.vm.findClass "LassoFinder$Situation" = some m.cls := hown
  have C : zCx p s m ([.ref (ad 7), .long a0] : List Value).toArray meth c A G K prog_8_method_4_code none 8 "LassoFinder$Situation" := ⟨hx, hb, hr, hml, hts, hown, hlocks, hA, hK⟩
  have hl : lv_has ls 8 [(0, .ref (ad 7)), (1, .long a0)] := hl
  have hw : zW G A s.heap (wX ad K sv I J B D) H locs := hw
  unfold wp_Situation_unpack at hok
  refine lv_lload_n hx hb zd_Situation_unpack_0 rfl (lv_at hl 1 rfl) ?_
  refine lv_lstore_n hx hb zd_Situation_unpack_1 rfl hl (by decide) rfl (fun ls hl => ?_)
  have hl : lv_has ls 8 [(3, .long a0), (0, .ref (ad 7)), (1, .long a0)] := hl
  refine lv_aload_n hx hb zd_Situation_unpack_2 rfl (lv_at hl 1 rfl) ?_
  refine z_get (v := .ref (ad 2)) hx hb hts hown hK hw zZ7 7 wX_g7 0 (by decide) zn_306 rfl zd_Situation_unpack_3 ?_
  refine z_get (v := .int (I 8)) hx hb hts hown hK hw zZ5 2 wX_g2 5 (by decide) zn_307 rfl zd_Situation_unpack_6 ?_
  refine lv_iconst (v := 1) hx hb zd_Situation_unpack_9 (by decide) ?_
  refine lv_isub hx hb zd_Situation_unpack_10 ?_
  refine lv_topi (fun z28 ez28 => ?_)
  have hok := hok z28 ez28
  refine lv_istore hx hb zd_Situation_unpack_11 hl (by decide) rfl (fun ls hl => ?_)
  have hl : lv_has ls 8 [(5, .int z28), (3, .long a0), (0, .ref (ad 7)), (1, .long a0)] := hl
  obtain ⟨n9, hok⟩ := hok
  exact wL_Situation_unpack_13 G K ad sv a0 Post C n9 a0 z28 I J B D ls H locs hok (lv_sub hl [2, 1, 0] rfl) hw
def wp_LassoFinder_standsOnWalk (I : Nat → Int32) (J : Nat → Int64) (B : Nat → Nat → Int32) (D : Nat → Nat → Int64) (Post : Int32 → (Nat → Int32) → (Nat → Int64) → (Nat → Nat → Int32) → (Nat → Nat → Int64) → Prop) : Prop :=
  ((¬ (I 0) = (-1) → vp_in (I 0) 61 ∧ ∀ z2 : Int32, z2 = ((B 0) (I 0).toNatClampNeg) → vp_in z2 96 ∧ ∀ z3 : Int64, z3 = ((D 2) z2.toNatClampNeg) → wp_Situation_unpack I J B D z3 (fun I4 J4 B4 D4 => Post 1 I4 J4 B4 D4)) ∧ ((I 0) = (-1) → Post 0 I J B D))
set_option maxHeartbeats 8000000 in
set_option maxRecDepth 100000 in
theorem w_LassoFinder_standsOnWalk (l : Launch) (G : va_G) (K : Nat → ClassId) (ad : Nat → Nat) (sv : Value) (I : Nat → Int32) (J : Nat → Int64) (B : Nat → Nat → Int32) (D : Nat → Nat → Int64) (Post : Int32 → (Nat → Int32) → (Nat → Int64) → (Nat → Nat → Int32) → (Nat → Nat → Int64) → Prop) (sz : Nat) (hok : wp_LassoFinder_standsOnWalk I J B D  Post) : Met l zy_LassoFinder_standsOnWalk (Cond.code zy_LassoFinder_standsOnWalk prog_1_method_21_code 1 (some .boolean) :: zTB) { frames := 1, cells := 0, slots := 0, locals := 27 } (va_Pc [.ref (ad 0)] (zPre G K (wX ad K sv I J B D) sz)) (va_Qi (fun (r : Int32) (u : zS) => Post r u.1 u.2.1 u.2.2.1 u.2.2.2) (fun u t => zPost G K (va_A (wX ad K sv I J B D) sz) (wX ad K sv u.1 u.2.1 u.2.2.1 u.2.2.2) t) (va_A (wX ad K sv I J B D) sz)) 0 0 (va_A (wX ad K sv I J B D) sz) := by
  refine zMet (y := zy_LassoFinder_standsOnWalk) (av := [.ref (ad 0)]) (maxL := 1) (cc := prog_1_method_21_code) (ret := (some .boolean)) (W0 := (wX ad K sv I J B D)) (sz := sz) (G := G) (K := K) (wt := zTB) (mc := 0) (ms := 0) (Qf := fun A => va_Qi (fun (r : Int32) (u : zS) => Post r u.1 u.2.1 u.2.2.1 u.2.2.2) (fun u t => zPost G K A (wX ad K sv u.1 u.2.1 u.2.2.1 u.2.2.2) t) A) (by decide) (Nat.le_of_ble_eq_true rfl) ?_
  intro p e s m below meth c ls A hx hb hr hml hts hown hlocks hin hA hK H locs hw hsz hl
  clear hsz
  have hown : s.vm.findClass "LassoFinder" = some m.cls := hown
  have C : zCx p s m ([.ref (ad 0)] : List Value).toArray meth c A G K prog_1_method_21_code (some .boolean) 1 "LassoFinder" := ⟨hx, hb, hr, hml, hts, hown, hlocks, hA, hK⟩
  have hl : lv_has ls 1 [(0, .ref (ad 0))] := hl
  have hw : zW G A s.heap (wX ad K sv I J B D) H locs := hw
  unfold wp_LassoFinder_standsOnWalk at hok
  refine lv_aload_n hx hb zd_LassoFinder_standsOnWalk_0 rfl (lv_at hl 0 rfl) ?_
  refine z_get (v := .int (I 0)) hx hb hts hown hK hw zZ0 0 wX_g0 10 (by decide) zn_297 rfl zd_LassoFinder_standsOnWalk_1 ?_
  refine lv_iconst (v := (-1)) hx hb zd_LassoFinder_standsOnWalk_4 (by decide) ?_
  refine lv_icmp_ne (tgt := 10) hx hb zd_LassoFinder_standsOnWalk_5 (by decide) (fun hc1 => ?_) (fun hc1 => ?_)
  · have hok := hok.1 hc1
    refine lv_aload_n hx hb zd_LassoFinder_standsOnWalk_10 rfl (lv_at hl 0 rfl) ?_
    refine z_get (v := .ref (ad 7)) hx hb hts hown hK hw zZ0 0 wX_g0 4 (by decide) zn_303 rfl zd_LassoFinder_standsOnWalk_11 ?_
    refine lv_aload_n hx hb zd_LassoFinder_standsOnWalk_14 rfl (lv_at hl 0 rfl) ?_
    refine z_get (v := .ref (ad 8)) hx hb hts hown hK hw zZ0 0 wX_g0 5 (by decide) zn_298 rfl zd_LassoFinder_standsOnWalk_15 ?_
    refine z_get (v := .ref (ad 46)) hx hb hts hown hK hw zZ2 8 wX_g8 1 (by decide) zn_305 rfl zd_LassoFinder_standsOnWalk_18 ?_
    refine lv_aload_n hx hb zd_LassoFinder_standsOnWalk_21 rfl (lv_at hl 0 rfl) ?_
    refine z_get (v := .ref (ad 12)) hx hb hts hown hK hw zZ0 0 wX_g0 9 (by decide) zn_235 rfl zd_LassoFinder_standsOnWalk_22 ?_
    refine lv_aload_n hx hb zd_LassoFinder_standsOnWalk_25 rfl (lv_at hl 0 rfl) ?_
    refine z_get (v := .int (I 0)) hx hb hts hown hK hw zZ0 0 wX_g0 10 (by decide) zn_297 rfl zd_LassoFinder_standsOnWalk_26 ?_
    refine va_iald (f := (B 0)) hx hb hK hw.1 12 0 wX_a12 rfl hok.1 zd_LassoFinder_standsOnWalk_29 ?_
    have hok := hok.2
    refine lv_topi (fun z2 ez2 => ?_)
    have hok := hok z2 ez2
    refine va_lald (f := (D 2)) hx hb hK hw.1 46 1 wX_a46 rfl hok.1 zd_LassoFinder_standsOnWalk_30 ?_
    have hok := hok.2
    refine lv_topl (fun z3 ez3 => ?_)
    have hok := hok z3 ez3
    refine z_callv (w1 := fun (u : zS) => wX ad K sv u.1 u.2.1 u.2.2.1 u.2.2.2) (wr := []) (z_runV (q0 := 7) (wc := (wX ad K sv I J B D)) (As := [.long z3]) (rest := []) ⟨hx, hb, hml, hown, hts⟩ (w_Situation_unpack l G K ad sv I J B D z3 _ H.size hok) zf_Situation_unpack zn_300 ⟨Nat.le_of_ble_eq_true rfl, Nat.le_of_ble_eq_true rfl⟩ hK hw (List.range 65) wX_all wX_nd wX_g7 rfl rfl hl.1 rfl (Nat.le_of_ble_eq_true rfl) zd_LassoFinder_standsOnWalk_31 ⟨Nat.le_of_ble_eq_true rfl, Nat.le_of_ble_eq_true rfl⟩) hw hA (List.range 65) [] wX_all rfl (by decide) (fun i hi => by cases hi) (fun u H locs hok hw => ?_)
    obtain ⟨I4, J4, B4, D4⟩ := u
    dsimp only at hok
    have hw : zW G A s.heap (wX ad K sv I4 J4 B4 D4) H locs := hw
    refine lv_iconst (v := 1) hx hb zd_LassoFinder_standsOnWalk_34 (by decide) ?_
    exact (z_iret (u := (I4, J4, B4, D4)) hx hb hr hlocks rfl hw (List.range 65) wX_all wX_nd hok (Nat.le_of_ble_eq_true rfl) (Nat.le_of_ble_eq_true rfl) zd_LassoFinder_standsOnWalk_35)
  · have hok := hok.2 hc1
    refine lv_iconst (v := 0) hx hb zd_LassoFinder_standsOnWalk_8 (by decide) ?_
    exact (z_iret (u := (I, J, B, D)) hx hb hr hlocks rfl hw (List.range 65) wX_all wX_nd hok (Nat.le_of_ble_eq_true rfl) (Nat.le_of_ble_eq_true rfl) zd_LassoFinder_standsOnWalk_9)
def wc_LassoFinder_value_29 (a0 : Int32) (Post : Int32 → (Nat → Int32) → (Nat → Int64) → (Nat → Nat → Int32) → (Nat → Nat → Int64) → Prop)  (I : Nat → Int32) (J : Nat → Int64) (B : Nat → Nat → Int32) (D : Nat → Nat → Int64) : Prop :=
  Post (-1) I J B D
def wp_LassoFinder_value (I : Nat → Int32) (J : Nat → Int64) (B : Nat → Nat → Int32) (D : Nat → Nat → Int64) (a0 : Int32) (Post : Int32 → (Nat → Int32) → (Nat → Int64) → (Nat → Nat → Int32) → (Nat → Nat → Int64) → Prop) : Prop :=
  wp_LassoFinder_standsOnWalk I J B D  (fun r1 I1 J1 B1 D1 => ((r1 = 0 → wc_LassoFinder_value_29 a0 Post I1 J1 B1 D1) ∧ (¬ r1 = 0 → ((a0 < 0 → wc_LassoFinder_value_29 a0 Post I1 J1 B1 D1) ∧ (¬ a0 < 0 → (((8 : Int32) ≤ a0 → wc_LassoFinder_value_29 a0 Post I1 J1 B1 D1) ∧ (¬ (8 : Int32) ≤ a0 → vp_in a0 8 ∧ ∀ z5 : Int32, z5 = ((B1 2) a0.toNatClampNeg) → ((¬ z5 = 0 → vp_in a0 8 ∧ ∀ z7 : Int32, z7 = ((B1 29) a0.toNatClampNeg) → Post z7 I1 J1 B1 D1) ∧ (z5 = 0 → wc_LassoFinder_value_29 a0 Post I1 J1 B1 D1)))))))))
set_option maxHeartbeats 8000000 in
set_option maxRecDepth 100000 in
theorem wJ_LassoFinder_value_29 {p : Program} {l : Launch} {e : Env} {s : State} {m : MethodId} {below : List Frame} {meth : Method} {c : Code} {A : Nat → Prop} (G : va_G) (K : Nat → ClassId) (ad : Nat → Nat) (sv : Value) (a0 : Int32) (Post : Int32 → (Nat → Int32) → (Nat → Int64) → (Nat → Nat → Int32) → (Nat → Nat → Int64) → Prop) (C : zCx p s m ([.ref (ad 0), .int a0] : List Value).toArray meth c A G K prog_1_method_13_code (some .int) 2 "LassoFinder") : ∀  (I : Nat → Int32) (J : Nat → Int64) (B : Nat → Nat → Int32) (D : Nat → Nat → Int64) (ls : Array Slot) (H : Heap) (locs : List Loc), wc_LassoFinder_value_29 a0 Post  I J B D → lv_has ls 2 [] → zW G A s.heap (wX ad K sv I J B D) H locs → W p l e { frames := 2, cells := 0, slots := 0, locals := 47 } s m ([.ref (ad 0), .int a0] : List Value).toArray below meth c H locs 0 0 (MQ below (va_Qi (fun (r : Int32) (u : zS) => Post r u.1 u.2.1 u.2.2.1 u.2.2.2) (fun u t => zPost G K A (wX ad K sv u.1 u.2.1 u.2.2.1 u.2.2.2) t) A) ([.ref (ad 0), .int a0] : List Value).toArray s 0 0 A) (F0 m 29 ls []) := by
  obtain ⟨hx, hb, hr, hml, hts, hown, hlocks, hA, hK⟩ := id C
  intro  I J B D ls H locs hok hl hw
  unfold wc_LassoFinder_value_29 at hok
  refine lv_iconst (v := (-1)) hx hb zd_LassoFinder_value_29 (by decide) ?_
  exact (z_iret (u := (I, J, B, D)) hx hb hr hlocks rfl hw (List.range 65) wX_all wX_nd hok (Nat.le_of_ble_eq_true rfl) (Nat.le_of_ble_eq_true rfl) zd_LassoFinder_value_30)
set_option maxHeartbeats 8000000 in
set_option maxRecDepth 100000 in
theorem w_LassoFinder_value (l : Launch) (G : va_G) (K : Nat → ClassId) (ad : Nat → Nat) (sv : Value) (I : Nat → Int32) (J : Nat → Int64) (B : Nat → Nat → Int32) (D : Nat → Nat → Int64) (a0 : Int32) (Post : Int32 → (Nat → Int32) → (Nat → Int64) → (Nat → Nat → Int32) → (Nat → Nat → Int64) → Prop) (sz : Nat) (hok : wp_LassoFinder_value I J B D a0 Post) : Met l zy_LassoFinder_value (Cond.code zy_LassoFinder_value prog_1_method_13_code 2 (some .int) :: zTB) { frames := 2, cells := 0, slots := 0, locals := 47 } (va_Pc [.ref (ad 0), .int a0] (zPre G K (wX ad K sv I J B D) sz)) (va_Qi (fun (r : Int32) (u : zS) => Post r u.1 u.2.1 u.2.2.1 u.2.2.2) (fun u t => zPost G K (va_A (wX ad K sv I J B D) sz) (wX ad K sv u.1 u.2.1 u.2.2.1 u.2.2.2) t) (va_A (wX ad K sv I J B D) sz)) 0 0 (va_A (wX ad K sv I J B D) sz) := by
  refine zMet (y := zy_LassoFinder_value) (av := [.ref (ad 0), .int a0]) (maxL := 2) (cc := prog_1_method_13_code) (ret := (some .int)) (W0 := (wX ad K sv I J B D)) (sz := sz) (G := G) (K := K) (wt := zTB) (mc := 0) (ms := 0) (Qf := fun A => va_Qi (fun (r : Int32) (u : zS) => Post r u.1 u.2.1 u.2.2.1 u.2.2.2) (fun u t => zPost G K A (wX ad K sv u.1 u.2.1 u.2.2.1 u.2.2.2) t) A) (by decide) (Nat.le_of_ble_eq_true rfl) ?_
  intro p e s m below meth c ls A hx hb hr hml hts hown hlocks hin hA hK H locs hw hsz hl
  clear hsz
  have hown : s.vm.findClass "LassoFinder" = some m.cls := hown
  have C : zCx p s m ([.ref (ad 0), .int a0] : List Value).toArray meth c A G K prog_1_method_13_code (some .int) 2 "LassoFinder" := ⟨hx, hb, hr, hml, hts, hown, hlocks, hA, hK⟩
  have hl : lv_has ls 2 [(0, .ref (ad 0)), (1, .int a0)] := hl
  have hw : zW G A s.heap (wX ad K sv I J B D) H locs := hw
  unfold wp_LassoFinder_value at hok
  refine lv_aload_n hx hb zd_LassoFinder_value_0 rfl (lv_at hl 0 rfl) ?_
  refine z_calli (w1 := fun (u : zS) => wX ad K sv u.1 u.2.1 u.2.2.1 u.2.2.2) (wr := []) (z_runV (q0 := 0) (wc := (wX ad K sv I J B D)) (As := []) (rest := []) ⟨hx, hb, hml, hown, hts⟩ (w_LassoFinder_standsOnWalk l G K ad sv I J B D  _ H.size hok) zf_LassoFinder_standsOnWalk zn_299 ⟨Nat.le_of_ble_eq_true rfl, Nat.le_of_ble_eq_true rfl⟩ hK hw (List.range 65) wX_all wX_nd wX_g0 rfl rfl hl.1 rfl (Nat.le_of_ble_eq_true rfl) zd_LassoFinder_value_1 ⟨Nat.le_of_ble_eq_true rfl, Nat.le_of_ble_eq_true rfl⟩) hw hA (List.range 65) [] wX_all rfl (by decide) (fun i hi => by cases hi) (fun r1 u H locs hok hw => ?_)
  obtain ⟨I1, J1, B1, D1⟩ := u
  dsimp only at hok
  have hw : zW G A s.heap (wX ad K sv I1 J1 B1 D1) H locs := hw
  refine lv_if_eq (tgt := 29) hx hb zd_LassoFinder_value_4 (by decide) (fun hc2 => ?_) (fun hc2 => ?_)
  · have hok := hok.1 hc2
    exact wJ_LassoFinder_value_29 G K ad sv a0 Post C I1 J1 B1 D1 ls H locs hok (lv_sub hl [] rfl) hw
  · have hok := hok.2 hc2
    refine lv_iload_n hx hb zd_LassoFinder_value_7 rfl (lv_at hl 1 rfl) ?_
    refine lv_if_lt (tgt := 29) hx hb zd_LassoFinder_value_8 (by decide) (fun hc3 => ?_) (fun hc3 => ?_)
    · have hok := hok.1 hc3
      exact wJ_LassoFinder_value_29 G K ad sv a0 Post C I1 J1 B1 D1 ls H locs hok (lv_sub hl [] rfl) hw
    · have hok := hok.2 hc3
      refine lv_iload_n hx hb zd_LassoFinder_value_11 rfl (lv_at hl 1 rfl) ?_
      refine lv_bipush (v := 8) hx hb zd_LassoFinder_value_12 (by decide) ?_
      refine lv_icmp_ge (tgt := 29) hx hb zd_LassoFinder_value_14 (by decide) (fun hc4 => ?_) (fun hc4 => ?_)
      · have hok := hok.1 hc4
        exact wJ_LassoFinder_value_29 G K ad sv a0 Post C I1 J1 B1 D1 ls H locs hok (lv_sub hl [] rfl) hw
      · have hok := hok.2 hc4
        refine lv_aload_n hx hb zd_LassoFinder_value_17 rfl (lv_at hl 0 rfl) ?_
        refine z_get (v := .ref (ad 2)) hx hb hts hown hK hw zZ0 0 wX_g0 1 (by decide) zn_301 rfl zd_LassoFinder_value_18 ?_
        refine z_get (v := .ref (ad 14)) hx hb hts hown hK hw zZ5 2 wX_g2 0 (by decide) zn_302 rfl zd_LassoFinder_value_21 ?_
        refine lv_iload_n hx hb zd_LassoFinder_value_24 rfl (lv_at hl 1 rfl) ?_
        refine va_iald (f := (B1 2)) hx hb hK hw.1 14 0 wX_a14 rfl hok.1 zd_LassoFinder_value_25 ?_
        have hok := hok.2
        refine lv_topi (fun z5 ez5 => ?_)
        have hok := hok z5 ez5
        refine lv_if_ne (tgt := 31) hx hb zd_LassoFinder_value_26 (by decide) (fun hc6 => ?_) (fun hc6 => ?_)
        · have hok := hok.1 hc6
          refine lv_aload_n hx hb zd_LassoFinder_value_31 rfl (lv_at hl 0 rfl) ?_
          refine z_get (v := .ref (ad 7)) hx hb hts hown hK hw zZ0 0 wX_g0 4 (by decide) zn_303 rfl zd_LassoFinder_value_32 ?_
          refine z_get (v := .ref (ad 43)) hx hb hts hown hK hw zZ7 7 wX_g7 3 (by decide) zn_304 rfl zd_LassoFinder_value_35 ?_
          refine lv_iload_n hx hb zd_LassoFinder_value_38 rfl (lv_at hl 1 rfl) ?_
          refine va_iald (f := (B1 29)) hx hb hK hw.1 43 0 wX_a43 rfl hok.1 zd_LassoFinder_value_39 ?_
          have hok := hok.2
          refine lv_topi (fun z7 ez7 => ?_)
          have hok := hok z7 ez7
          exact (z_iret (u := (I1, J1, B1, D1)) hx hb hr hlocks rfl hw (List.range 65) wX_all wX_nd hok (Nat.le_of_ble_eq_true rfl) (Nat.le_of_ble_eq_true rfl) zd_LassoFinder_value_40)
        · have hok := hok.2 hc6
          exact wJ_LassoFinder_value_29 G K ad sv a0 Post C I1 J1 B1 D1 ls H locs hok (lv_sub hl [] rfl) hw
