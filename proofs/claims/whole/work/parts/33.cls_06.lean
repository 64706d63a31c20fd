abbrev zy_Situation_packed : MethodName := ⟨"LassoFinder$Situation", "packed", "()J"⟩
abbrev zy_Terms_reckon : MethodName := ⟨"LassoFinder$Terms", "reckon", "(I[I)I"⟩
abbrev zy_Terms_joined : MethodName := ⟨"LassoFinder$Terms", "joined", "(III)I"⟩
abbrev zy_Situation_perform : MethodName := ⟨"LassoFinder$Situation", "perform", "(II)V"⟩
abbrev zy_Situation_put : MethodName := ⟨"LassoFinder$Situation", "put", "(II)V"⟩
abbrev zy_Situation_taken : MethodName := ⟨"LassoFinder$Situation", "taken", "(I)I"⟩
abbrev zy_Situation_passOn : MethodName := ⟨"LassoFinder$Situation", "passOn", "(I)V"⟩
abbrev zy_Graph_add : MethodName := ⟨"LassoFinder$Graph", "add", "(IIII)Z"⟩
theorem zn_414 : Cond.methodLink "LassoFinder$Situation" 102 ⟨"LassoFinder$Terms", "reckon", "(I[I)I"⟩ ∈ zTB := z_in (zt_4 _ (List.mem_of_getElem? (i := 175) rfl)) rfl
theorem zn_415 : Cond.methodLink "LassoFinder$Terms" 95 ⟨"LassoFinder$Terms", "joined", "(III)I"⟩ ∈ zTB := z_in (zt_4 _ (List.mem_of_getElem? (i := 179) rfl)) rfl
theorem zn_422 : Cond.methodLink "LassoFinder$Situation" 130 ⟨"LassoFinder$Situation", "put", "(II)V"⟩ ∈ zTB := z_in (zt_4 _ (List.mem_of_getElem? (i := 204) rfl)) rfl
theorem zn_423 : Cond.methodLink "LassoFinder$Situation" 134 ⟨"LassoFinder$Situation", "taken", "(I)I"⟩ ∈ zTB := z_in (zt_4 _ (List.mem_of_getElem? (i := 208) rfl)) rfl
theorem zn_424 : Cond.methodLink "LassoFinder$Situation" 138 ⟨"LassoFinder$Situation", "passOn", "(I)V"⟩ ∈ zTB := z_in (zt_4 _ (List.mem_of_getElem? (i := 212) rfl)) rfl
theorem zn_431 : Cond.fieldLink "LassoFinder$Situation" 19 "LassoFinder$Situation" "program" "LLassoFinder$Program;" ∈ zTB := z_in (zt_2 _ (List.mem_of_getElem? (i := 46) rfl)) rfl
theorem zn_432 : Cond.fieldLink "LassoFinder$Situation" 99 "LassoFinder$Program" "expression" "[I" ∈ zTB := z_in (zt_1 _ (List.mem_of_getElem? (i := 103) rfl)) rfl
theorem zn_433 : Cond.fieldLink "LassoFinder$Situation" 96 "LassoFinder$Program" "kinds" "[I" ∈ zTB := z_in (zt_1 _ (List.mem_of_getElem? (i := 97) rfl)) rfl
theorem zn_434 : Cond.fieldLink "LassoFinder$Situation" 127 "LassoFinder$Program" "variable" "[I" ∈ zTB := z_in (zt_1 _ (List.mem_of_getElem? (i := 101) rfl)) rfl
theorem zn_435 : Cond.fieldLink "LassoFinder$Situation" 108 "LassoFinder$Program" "channel" "[I" ∈ zTB := z_in (zt_1 _ (List.mem_of_getElem? (i := 99) rfl)) rfl
theorem zn_436 : Cond.fieldLink "LassoFinder$Situation" 15 "LassoFinder$Situation" "terms" "LLassoFinder$Terms;" ∈ zTB := z_in (zt_2 _ (List.mem_of_getElem? (i := 45) rfl)) rfl
theorem zn_437 : Cond.fieldLink "LassoFinder$Situation" 118 "LassoFinder$Program" "actor" "[I" ∈ zTB := z_in (zt_1 _ (List.mem_of_getElem? (i := 105) rfl)) rfl
theorem zn_438 : Cond.fieldLink "LassoFinder$Situation" 142 "LassoFinder$Program" "after" "[I" ∈ zTB := z_in (zt_1 _ (List.mem_of_getElem? (i := 107) rfl)) rfl
theorem zn_439 : Cond.fieldLink "LassoFinder$Situation" 145 "LassoFinder$Program" "keeps" "[Z" ∈ zTB := z_in (zt_1 _ (List.mem_of_getElem? (i := 109) rfl)) rfl
theorem zn_566 : Cond.code ⟨"LassoFinder$Situation", "passOn", "(I)V"⟩ prog_8_method_14_code 3 none ∈ zTB := z_in (zt_4 _ (List.mem_of_getElem? (i := 215) rfl)) rfl
theorem zn_567 : Cond.instanceMethod ⟨"LassoFinder$Situation", "passOn", "(I)V"⟩ ∈ zTB := z_in (zt_4 _ (List.mem_of_getElem? (i := 214) rfl)) rfl
theorem zn_568 : Cond.code ⟨"LassoFinder$Situation", "put", "(II)V"⟩ prog_8_method_12_code 3 none ∈ zTB := z_in (zt_4 _ (List.mem_of_getElem? (i := 207) rfl)) rfl
theorem zn_569 : Cond.instanceMethod ⟨"LassoFinder$Situation", "put", "(II)V"⟩ ∈ zTB := z_in (zt_4 _ (List.mem_of_getElem? (i := 206) rfl)) rfl
theorem zn_570 : Cond.code ⟨"LassoFinder$Situation", "taken", "(I)I"⟩ prog_8_method_13_code 6 (some .int) ∈ zTB := z_in (zt_4 _ (List.mem_of_getElem? (i := 211) rfl)) rfl
theorem zn_571 : Cond.instanceMethod ⟨"LassoFinder$Situation", "taken", "(I)I"⟩ ∈ zTB := z_in (zt_4 _ (List.mem_of_getElem? (i := 210) rfl)) rfl
theorem zn_572 : Cond.code ⟨"LassoFinder$Terms", "joined", "(III)I"⟩ prog_9_method_13_code 3 (some .int) ∈ zTB := z_in (zt_4 _ (List.mem_of_getElem? (i := 181) rfl)) rfl
theorem zn_573 : Cond.static ⟨"LassoFinder$Terms", "joined", "(III)I"⟩ ∈ zTB := z_in (zt_4 _ (List.mem_of_getElem? (i := 180) rfl)) rfl
theorem zn_574 : Cond.code ⟨"LassoFinder$Terms", "reckon", "(I[I)I"⟩ prog_9_method_12_code 6 (some .int) ∈ zTB := z_in (zt_4 _ (List.mem_of_getElem? (i := 178) rfl)) rfl
theorem zn_575 : Cond.selects "LassoFinder$Terms" ⟨"LassoFinder$Terms", "reckon", "(I[I)I"⟩ ⟨"LassoFinder$Terms", "reckon", "(I[I)I"⟩ ∈ zTB := z_in (zt_4 _ (List.mem_of_getElem? (i := 177) rfl)) rfl
theorem zn_576 : Cond.instanceMethod ⟨"LassoFinder$Terms", "reckon", "(I[I)I"⟩ ∈ zTB := z_in (zt_4 _ (List.mem_of_getElem? (i := 176) rfl)) rfl
theorem zf_Situation_passOn : zFaceV zy_Situation_passOn prog_8_method_14_code 3 none 1 := ⟨zn_567, (z_in (zp_3 _ (List.mem_of_getElem? (i := 2) rfl)) rfl), zm_15, zn_566, by decide +kernel, by decide +kernel, by decide +kernel⟩
theorem zf_Situation_put : zFaceV zy_Situation_put prog_8_method_12_code 3 none 2 := ⟨zn_569, (z_in (zp_3 _ (List.mem_of_getElem? (i := 0) rfl)) rfl), zm_15, zn_568, by decide +kernel, by decide +kernel, by decide +kernel⟩
theorem zf_Situation_taken : zFaceV zy_Situation_taken prog_8_method_13_code 6 (some .int) 1 := ⟨zn_571, (z_in (zp_3 _ (List.mem_of_getElem? (i := 1) rfl)) rfl), zm_15, zn_570, by decide +kernel, by decide +kernel, by decide +kernel⟩
theorem zf_Terms_joined : zFaceS zy_Terms_joined prog_9_method_13_code 3 (some .int) 3 := ⟨zn_573, zm_17, zn_572, by decide +kernel, by decide +kernel, by decide +kernel⟩
theorem zf_Terms_reckon : zFaceV zy_Terms_reckon prog_9_method_12_code 6 (some .int) 2 := ⟨zn_576, zn_575, zm_17, zn_574, by decide +kernel, by decide +kernel, by decide +kernel⟩
theorem zd_Graph_add_0 : decode prog_3_method_7_code 0 = .ok (.aload_n 0, 1) := by decide +kernel
theorem zd_Graph_add_1 : decode prog_3_method_7_code 1 = .ok (.getfield 45, 3) := by decide +kernel
theorem zd_Graph_add_4 : decode prog_3_method_7_code 4 = .ok (.sipush 400, 3) := by decide +kernel
theorem zd_Graph_add_7 : decode prog_3_method_7_code 7 = .ok (.if_icmp .ne 5, 3) := by decide +kernel
theorem zd_Graph_add_10 : decode prog_3_method_7_code 10 = .ok (.iconst 0, 1) := by decide +kernel
theorem zd_Graph_add_11 : decode prog_3_method_7_code 11 = .ok (.ireturn, 1) := by decide +kernel
theorem zd_Graph_add_12 : decode prog_3_method_7_code 12 = .ok (.aload_n 0, 1) := by decide +kernel
theorem zd_Graph_add_13 : decode prog_3_method_7_code 13 = .ok (.getfield 23, 3) := by decide +kernel
theorem zd_Graph_add_16 : decode prog_3_method_7_code 16 = .ok (.aload_n 0, 1) := by decide +kernel
theorem zd_Graph_add_17 : decode prog_3_method_7_code 17 = .ok (.getfield 45, 3) := by decide +kernel
theorem zd_Graph_add_20 : decode prog_3_method_7_code 20 = .ok (.iload_n 1, 1) := by decide +kernel
theorem zd_Graph_add_21 : decode prog_3_method_7_code 21 = .ok (.iastore, 1) := by decide +kernel
theorem zd_Graph_add_22 : decode prog_3_method_7_code 22 = .ok (.aload_n 0, 1) := by decide +kernel
theorem zd_Graph_add_23 : decode prog_3_method_7_code 23 = .ok (.getfield 26, 3) := by decide +kernel
theorem zd_Graph_add_26 : decode prog_3_method_7_code 26 = .ok (.aload_n 0, 1) := by decide +kernel
theorem zd_Graph_add_27 : decode prog_3_method_7_code 27 = .ok (.getfield 45, 3) := by decide +kernel
theorem zd_Graph_add_30 : decode prog_3_method_7_code 30 = .ok (.iload_n 2, 1) := by decide +kernel
theorem zd_Graph_add_31 : decode prog_3_method_7_code 31 = .ok (.iastore, 1) := by decide +kernel
theorem zd_Graph_add_32 : decode prog_3_method_7_code 32 = .ok (.aload_n 0, 1) := by decide +kernel
theorem zd_Graph_add_33 : decode prog_3_method_7_code 33 = .ok (.getfield 29, 3) := by decide +kernel
theorem zd_Graph_add_36 : decode prog_3_method_7_code 36 = .ok (.aload_n 0, 1) := by decide +kernel
theorem zd_Graph_add_37 : decode prog_3_method_7_code 37 = .ok (.getfield 45, 3) := by decide +kernel
theorem zd_Graph_add_40 : decode prog_3_method_7_code 40 = .ok (.iload_n 3, 1) := by decide +kernel
theorem zd_Graph_add_41 : decode prog_3_method_7_code 41 = .ok (.iastore, 1) := by decide +kernel
theorem zd_Graph_add_42 : decode prog_3_method_7_code 42 = .ok (.aload_n 0, 1) := by decide +kernel
theorem zd_Graph_add_43 : decode prog_3_method_7_code 43 = .ok (.getfield 32, 3) := by decide +kernel
theorem zd_Graph_add_46 : decode prog_3_method_7_code 46 = .ok (.aload_n 0, 1) := by decide +kernel
theorem zd_Graph_add_47 : decode prog_3_method_7_code 47 = .ok (.getfield 45, 3) := by decide +kernel
theorem zd_Graph_add_50 : decode prog_3_method_7_code 50 = .ok (.iload 4, 2) := by decide +kernel
theorem zd_Graph_add_52 : decode prog_3_method_7_code 52 = .ok (.iastore, 1) := by decide +kernel
theorem zd_Graph_add_53 : decode prog_3_method_7_code 53 = .ok (.aload_n 0, 1) := by decide +kernel
theorem zd_Graph_add_54 : decode prog_3_method_7_code 54 = .ok (.dup, 1) := by decide +kernel
theorem zd_Graph_add_55 : decode prog_3_method_7_code 55 = .ok (.getfield 45, 3) := by decide +kernel
theorem zd_Graph_add_58 : decode prog_3_method_7_code 58 = .ok (.iconst 1, 1) := by decide +kernel
theorem zd_Graph_add_59 : decode prog_3_method_7_code 59 = .ok (.iadd, 1) := by decide +kernel
theorem zd_Graph_add_60 : decode prog_3_method_7_code 60 = .ok (.putfield 45, 3) := by decide +kernel
theorem zd_Graph_add_63 : decode prog_3_method_7_code 63 = .ok (.iconst 1, 1) := by decide +kernel
theorem zd_Graph_add_64 : decode prog_3_method_7_code 64 = .ok (.ireturn, 1) := by decide +kernel
theorem zd_Situation_packed_0 : decode prog_8_method_3_code 0 = .ok (.aload_n 0, 1) := by decide +kernel
theorem zd_Situation_packed_1 : decode prog_8_method_3_code 1 = .ok (.getfield 37, 3) := by decide +kernel
theorem zd_Situation_packed_4 : decode prog_8_method_3_code 4 = .ok (.iconst 1, 1) := by decide +kernel
theorem zd_Situation_packed_5 : decode prog_8_method_3_code 5 = .ok (.iadd, 1) := by decide +kernel
theorem zd_Situation_packed_6 : decode prog_8_method_3_code 6 = .ok (.i2l, 1) := by decide +kernel
theorem zd_Situation_packed_7 : decode prog_8_method_3_code 7 = .ok (.lstore_n 1, 1) := by decide +kernel
theorem zd_Situation_packed_8 : decode prog_8_method_3_code 8 = .ok (.iconst 0, 1) := by decide +kernel
theorem zd_Situation_packed_9 : decode prog_8_method_3_code 9 = .ok (.istore_n 3, 1) := by decide +kernel
theorem zd_Situation_packed_10 : decode prog_8_method_3_code 10 = .ok (.iload_n 3, 1) := by decide +kernel
theorem zd_Situation_packed_11 : decode prog_8_method_3_code 11 = .ok (.iconst 4, 1) := by decide +kernel
theorem zd_Situation_packed_12 : decode prog_8_method_3_code 12 = .ok (.if_icmp .ge 21, 3) := by decide +kernel
theorem zd_Situation_packed_15 : decode prog_8_method_3_code 15 = .ok (.lload_n 1, 1) := by decide +kernel
theorem zd_Situation_packed_16 : decode prog_8_method_3_code 16 = .ok (.iconst 5, 1) := by decide +kernel
theorem zd_Situation_packed_17 : decode prog_8_method_3_code 17 = .ok (.lshl, 1) := by decide +kernel
theorem zd_Situation_packed_18 : decode prog_8_method_3_code 18 = .ok (.aload_n 0, 1) := by decide +kernel
theorem zd_Situation_packed_19 : decode prog_8_method_3_code 19 = .ok (.getfield 34, 3) := by decide +kernel
theorem zd_Situation_packed_22 : decode prog_8_method_3_code 22 = .ok (.iload_n 3, 1) := by decide +kernel
theorem zd_Situation_packed_23 : decode prog_8_method_3_code 23 = .ok (.iaload, 1) := by decide +kernel
theorem zd_Situation_packed_24 : decode prog_8_method_3_code 24 = .ok (.i2l, 1) := by decide +kernel
theorem zd_Situation_packed_25 : decode prog_8_method_3_code 25 = .ok (.lor, 1) := by decide +kernel
theorem zd_Situation_packed_26 : decode prog_8_method_3_code 26 = .ok (.lstore_n 1, 1) := by decide +kernel
theorem zd_Situation_packed_27 : decode prog_8_method_3_code 27 = .ok (.iinc 3 1, 3) := by decide +kernel
theorem zd_Situation_packed_30 : decode prog_8_method_3_code 30 = .ok (.goto (-20), 3) := by decide +kernel
theorem zd_Situation_packed_33 : decode prog_8_method_3_code 33 = .ok (.iconst 0, 1) := by decide +kernel
theorem zd_Situation_packed_34 : decode prog_8_method_3_code 34 = .ok (.istore_n 3, 1) := by decide +kernel
theorem zd_Situation_packed_35 : decode prog_8_method_3_code 35 = .ok (.iload_n 3, 1) := by decide +kernel
theorem zd_Situation_packed_36 : decode prog_8_method_3_code 36 = .ok (.aload_n 0, 1) := by decide +kernel
theorem zd_Situation_packed_37 : decode prog_8_method_3_code 37 = .ok (.getfield 9, 3) := by decide +kernel
theorem zd_Situation_packed_40 : decode prog_8_method_3_code 40 = .ok (.getfield 47, 3) := by decide +kernel
theorem zd_Situation_packed_43 : decode prog_8_method_3_code 43 = .ok (.if_icmp .ge 29, 3) := by decide +kernel
theorem zd_Situation_packed_46 : decode prog_8_method_3_code 46 = .ok (.lload_n 1, 1) := by decide +kernel
theorem zd_Situation_packed_47 : decode prog_8_method_3_code 47 = .ok (.iconst 3, 1) := by decide +kernel
theorem zd_Situation_packed_48 : decode prog_8_method_3_code 48 = .ok (.lshl, 1) := by decide +kernel
theorem zd_Situation_packed_49 : decode prog_8_method_3_code 49 = .ok (.aload_n 0, 1) := by decide +kernel
theorem zd_Situation_packed_50 : decode prog_8_method_3_code 50 = .ok (.getfield 25, 3) := by decide +kernel
theorem zd_Situation_packed_53 : decode prog_8_method_3_code 53 = .ok (.aload_n 0, 1) := by decide +kernel
theorem zd_Situation_packed_54 : decode prog_8_method_3_code 54 = .ok (.getfield 9, 3) := by decide +kernel
theorem zd_Situation_packed_57 : decode prog_8_method_3_code 57 = .ok (.getfield 50, 3) := by decide +kernel
theorem zd_Situation_packed_60 : decode prog_8_method_3_code 60 = .ok (.iload_n 3, 1) := by decide +kernel
theorem zd_Situation_packed_61 : decode prog_8_method_3_code 61 = .ok (.iaload, 1) := by decide +kernel
theorem zd_Situation_packed_62 : decode prog_8_method_3_code 62 = .ok (.iaload, 1) := by decide +kernel
theorem zd_Situation_packed_63 : decode prog_8_method_3_code 63 = .ok (.i2l, 1) := by decide +kernel
theorem zd_Situation_packed_64 : decode prog_8_method_3_code 64 = .ok (.lor, 1) := by decide +kernel
theorem zd_Situation_packed_65 : decode prog_8_method_3_code 65 = .ok (.lstore_n 1, 1) := by decide +kernel
theorem zd_Situation_packed_66 : decode prog_8_method_3_code 66 = .ok (.iinc 3 1, 3) := by decide +kernel
theorem zd_Situation_packed_69 : decode prog_8_method_3_code 69 = .ok (.goto (-34), 3) := by decide +kernel
theorem zd_Situation_packed_72 : decode prog_8_method_3_code 72 = .ok (.iconst 0, 1) := by decide +kernel
theorem zd_Situation_packed_73 : decode prog_8_method_3_code 73 = .ok (.istore_n 3, 1) := by decide +kernel
theorem zd_Situation_packed_74 : decode prog_8_method_3_code 74 = .ok (.iload_n 3, 1) := by decide +kernel
theorem zd_Situation_packed_75 : decode prog_8_method_3_code 75 = .ok (.aload_n 0, 1) := by decide +kernel
theorem zd_Situation_packed_76 : decode prog_8_method_3_code 76 = .ok (.getfield 9, 3) := by decide +kernel
theorem zd_Situation_packed_79 : decode prog_8_method_3_code 79 = .ok (.getfield 65, 3) := by decide +kernel
theorem zd_Situation_packed_82 : decode prog_8_method_3_code 82 = .ok (.if_icmp .ge 66, 3) := by decide +kernel
theorem zd_Situation_packed_85 : decode prog_8_method_3_code 85 = .ok (.aload_n 0, 1) := by decide +kernel
theorem zd_Situation_packed_86 : decode prog_8_method_3_code 86 = .ok (.getfield 9, 3) := by decide +kernel
theorem zd_Situation_packed_89 : decode prog_8_method_3_code 89 = .ok (.getfield 68, 3) := by decide +kernel
theorem zd_Situation_packed_92 : decode prog_8_method_3_code 92 = .ok (.iload_n 3, 1) := by decide +kernel
theorem zd_Situation_packed_93 : decode prog_8_method_3_code 93 = .ok (.iaload, 1) := by decide +kernel
theorem zd_Situation_packed_94 : decode prog_8_method_3_code 94 = .ok (.istore 4, 2) := by decide +kernel
theorem zd_Situation_packed_96 : decode prog_8_method_3_code 96 = .ok (.lload_n 1, 1) := by decide +kernel
theorem zd_Situation_packed_97 : decode prog_8_method_3_code 97 = .ok (.iconst 2, 1) := by decide +kernel
theorem zd_Situation_packed_98 : decode prog_8_method_3_code 98 = .ok (.lshl, 1) := by decide +kernel
theorem zd_Situation_packed_99 : decode prog_8_method_3_code 99 = .ok (.aload_n 0, 1) := by decide +kernel
theorem zd_Situation_packed_100 : decode prog_8_method_3_code 100 = .ok (.getfield 25, 3) := by decide +kernel
theorem zd_Situation_packed_103 : decode prog_8_method_3_code 103 = .ok (.iload 4, 2) := by decide +kernel
theorem zd_Situation_packed_105 : decode prog_8_method_3_code 105 = .ok (.iaload, 1) := by decide +kernel
theorem zd_Situation_packed_106 : decode prog_8_method_3_code 106 = .ok (.i2l, 1) := by decide +kernel
theorem zd_Situation_packed_107 : decode prog_8_method_3_code 107 = .ok (.lor, 1) := by decide +kernel
theorem zd_Situation_packed_108 : decode prog_8_method_3_code 108 = .ok (.lstore_n 1, 1) := by decide +kernel
theorem zd_Situation_packed_109 : decode prog_8_method_3_code 109 = .ok (.iconst 0, 1) := by decide +kernel
theorem zd_Situation_packed_110 : decode prog_8_method_3_code 110 = .ok (.istore 5, 2) := by decide +kernel
theorem zd_Situation_packed_112 : decode prog_8_method_3_code 112 = .ok (.iload 5, 2) := by decide +kernel
theorem zd_Situation_packed_114 : decode prog_8_method_3_code 114 = .ok (.iconst 3, 1) := by decide +kernel
theorem zd_Situation_packed_115 : decode prog_8_method_3_code 115 = .ok (.if_icmp .ge 27, 3) := by decide +kernel
theorem zd_Situation_packed_118 : decode prog_8_method_3_code 118 = .ok (.lload_n 1, 1) := by decide +kernel
theorem zd_Situation_packed_119 : decode prog_8_method_3_code 119 = .ok (.iconst 3, 1) := by decide +kernel
theorem zd_Situation_packed_120 : decode prog_8_method_3_code 120 = .ok (.lshl, 1) := by decide +kernel
theorem zd_Situation_packed_121 : decode prog_8_method_3_code 121 = .ok (.aload_n 0, 1) := by decide +kernel
theorem zd_Situation_packed_122 : decode prog_8_method_3_code 122 = .ok (.getfield 29, 3) := by decide +kernel
theorem zd_Situation_packed_125 : decode prog_8_method_3_code 125 = .ok (.iload 4, 2) := by decide +kernel
theorem zd_Situation_packed_127 : decode prog_8_method_3_code 127 = .ok (.iconst 3, 1) := by decide +kernel
theorem zd_Situation_packed_128 : decode prog_8_method_3_code 128 = .ok (.imul, 1) := by decide +kernel
theorem zd_Situation_packed_129 : decode prog_8_method_3_code 129 = .ok (.iload 5, 2) := by decide +kernel
theorem zd_Situation_packed_131 : decode prog_8_method_3_code 131 = .ok (.iadd, 1) := by decide +kernel
theorem zd_Situation_packed_132 : decode prog_8_method_3_code 132 = .ok (.iaload, 1) := by decide +kernel
theorem zd_Situation_packed_133 : decode prog_8_method_3_code 133 = .ok (.i2l, 1) := by decide +kernel
theorem zd_Situation_packed_134 : decode prog_8_method_3_code 134 = .ok (.lor, 1) := by decide +kernel
theorem zd_Situation_packed_135 : decode prog_8_method_3_code 135 = .ok (.lstore_n 1, 1) := by decide +kernel
theorem zd_Situation_packed_136 : decode prog_8_method_3_code 136 = .ok (.iinc 5 1, 3) := by decide +kernel
theorem zd_Situation_packed_139 : decode prog_8_method_3_code 139 = .ok (.goto (-27), 3) := by decide +kernel
theorem zd_Situation_packed_142 : decode prog_8_method_3_code 142 = .ok (.iinc 3 1, 3) := by decide +kernel
theorem zd_Situation_packed_145 : decode prog_8_method_3_code 145 = .ok (.goto (-71), 3) := by decide +kernel
theorem zd_Situation_packed_148 : decode prog_8_method_3_code 148 = .ok (.lload_n 1, 1) := by decide +kernel
theorem zd_Situation_packed_149 : decode prog_8_method_3_code 149 = .ok (.lreturn, 1) := by decide +kernel
theorem zd_Situation_passOn_0 : decode prog_8_method_14_code 0 = .ok (.aload_n 0, 1) := by decide +kernel
theorem zd_Situation_passOn_1 : decode prog_8_method_14_code 1 = .ok (.getfield 19, 3) := by decide +kernel
theorem zd_Situation_passOn_4 : decode prog_8_method_14_code 4 = .ok (.getfield 118, 3) := by decide +kernel
theorem zd_Situation_passOn_7 : decode prog_8_method_14_code 7 = .ok (.iload_n 1, 1) := by decide +kernel
theorem zd_Situation_passOn_8 : decode prog_8_method_14_code 8 = .ok (.iaload, 1) := by decide +kernel
theorem zd_Situation_passOn_9 : decode prog_8_method_14_code 9 = .ok (.istore_n 2, 1) := by decide +kernel
theorem zd_Situation_passOn_10 : decode prog_8_method_14_code 10 = .ok (.aload_n 0, 1) := by decide +kernel
theorem zd_Situation_passOn_11 : decode prog_8_method_14_code 11 = .ok (.getfield 34, 3) := by decide +kernel
theorem zd_Situation_passOn_14 : decode prog_8_method_14_code 14 = .ok (.iload_n 2, 1) := by decide +kernel
theorem zd_Situation_passOn_15 : decode prog_8_method_14_code 15 = .ok (.aload_n 0, 1) := by decide +kernel
theorem zd_Situation_passOn_16 : decode prog_8_method_14_code 16 = .ok (.getfield 19, 3) := by decide +kernel
theorem zd_Situation_passOn_19 : decode prog_8_method_14_code 19 = .ok (.getfield 142, 3) := by decide +kernel
theorem zd_Situation_passOn_22 : decode prog_8_method_14_code 22 = .ok (.iload_n 1, 1) := by decide +kernel
theorem zd_Situation_passOn_23 : decode prog_8_method_14_code 23 = .ok (.iaload, 1) := by decide +kernel
theorem zd_Situation_passOn_24 : decode prog_8_method_14_code 24 = .ok (.iastore, 1) := by decide +kernel
theorem zd_Situation_passOn_25 : decode prog_8_method_14_code 25 = .ok (.aload_n 0, 1) := by decide +kernel
theorem zd_Situation_passOn_26 : decode prog_8_method_14_code 26 = .ok (.getfield 19, 3) := by decide +kernel
theorem zd_Situation_passOn_29 : decode prog_8_method_14_code 29 = .ok (.getfield 145, 3) := by decide +kernel
theorem zd_Situation_passOn_32 : decode prog_8_method_14_code 32 = .ok (.iload_n 1, 1) := by decide +kernel
theorem zd_Situation_passOn_33 : decode prog_8_method_14_code 33 = .ok (.baload, 1) := by decide +kernel
theorem zd_Situation_passOn_34 : decode prog_8_method_14_code 34 = .ok (.ifCond .eq 8, 3) := by decide +kernel
theorem zd_Situation_passOn_37 : decode prog_8_method_14_code 37 = .ok (.aload_n 0, 1) := by decide +kernel
theorem zd_Situation_passOn_38 : decode prog_8_method_14_code 38 = .ok (.iload_n 2, 1) := by decide +kernel
theorem zd_Situation_passOn_39 : decode prog_8_method_14_code 39 = .ok (.putfield 37, 3) := by decide +kernel
theorem zd_Situation_passOn_42 : decode prog_8_method_14_code 42 = .ok (.return_, 1) := by decide +kernel
theorem zd_Situation_perform_0 : decode prog_8_method_11_code 0 = .ok (.aload_n 0, 1) := by decide +kernel
theorem zd_Situation_perform_1 : decode prog_8_method_11_code 1 = .ok (.getfield 19, 3) := by decide +kernel
theorem zd_Situation_perform_4 : decode prog_8_method_11_code 4 = .ok (.getfield 99, 3) := by decide +kernel
theorem zd_Situation_perform_7 : decode prog_8_method_11_code 7 = .ok (.iload_n 1, 1) := by decide +kernel
theorem zd_Situation_perform_8 : decode prog_8_method_11_code 8 = .ok (.iaload, 1) := by decide +kernel
theorem zd_Situation_perform_9 : decode prog_8_method_11_code 9 = .ok (.istore_n 3, 1) := by decide +kernel
theorem zd_Situation_perform_10 : decode prog_8_method_11_code 10 = .ok (.iload_n 3, 1) := by decide +kernel
theorem zd_Situation_perform_11 : decode prog_8_method_11_code 11 = .ok (.iconst (-1), 1) := by decide +kernel
theorem zd_Situation_perform_12 : decode prog_8_method_11_code 12 = .ok (.if_icmp .ne 7, 3) := by decide +kernel
theorem zd_Situation_perform_15 : decode prog_8_method_11_code 15 = .ok (.iconst 0, 1) := by decide +kernel
theorem zd_Situation_perform_16 : decode prog_8_method_11_code 16 = .ok (.goto 15, 3) := by decide +kernel
theorem zd_Situation_perform_19 : decode prog_8_method_11_code 19 = .ok (.aload_n 0, 1) := by decide +kernel
theorem zd_Situation_perform_20 : decode prog_8_method_11_code 20 = .ok (.getfield 15, 3) := by decide +kernel
theorem zd_Situation_perform_23 : decode prog_8_method_11_code 23 = .ok (.iload_n 3, 1) := by decide +kernel
theorem zd_Situation_perform_24 : decode prog_8_method_11_code 24 = .ok (.aload_n 0, 1) := by decide +kernel
theorem zd_Situation_perform_25 : decode prog_8_method_11_code 25 = .ok (.getfield 25, 3) := by decide +kernel
theorem zd_Situation_perform_28 : decode prog_8_method_11_code 28 = .ok (.invokevirtual 102, 3) := by decide +kernel
theorem zd_Situation_perform_31 : decode prog_8_method_11_code 31 = .ok (.istore 4, 2) := by decide +kernel
theorem zd_Situation_perform_33 : decode prog_8_method_11_code 33 = .ok (.aload_n 0, 1) := by decide +kernel
theorem zd_Situation_perform_34 : decode prog_8_method_11_code 34 = .ok (.getfield 19, 3) := by decide +kernel
theorem zd_Situation_perform_37 : decode prog_8_method_11_code 37 = .ok (.getfield 96, 3) := by decide +kernel
theorem zd_Situation_perform_40 : decode prog_8_method_11_code 40 = .ok (.iload_n 1, 1) := by decide +kernel
theorem zd_Situation_perform_41 : decode prog_8_method_11_code 41 = .ok (.iaload, 1) := by decide +kernel
theorem zd_Situation_perform_42 : decode prog_8_method_11_code 42 = .ok (.tableswitch 121 0 3 #[30, 121, 49, 91], 30) := by decide +kernel
theorem zd_Situation_perform_72 : decode prog_8_method_11_code 72 = .ok (.aload_n 0, 1) := by decide +kernel
theorem zd_Situation_perform_73 : decode prog_8_method_11_code 73 = .ok (.getfield 25, 3) := by decide +kernel
theorem zd_Situation_perform_76 : decode prog_8_method_11_code 76 = .ok (.aload_n 0, 1) := by decide +kernel
theorem zd_Situation_perform_77 : decode prog_8_method_11_code 77 = .ok (.getfield 19, 3) := by decide +kernel
theorem zd_Situation_perform_80 : decode prog_8_method_11_code 80 = .ok (.getfield 127, 3) := by decide +kernel
theorem zd_Situation_perform_83 : decode prog_8_method_11_code 83 = .ok (.iload_n 1, 1) := by decide +kernel
theorem zd_Situation_perform_84 : decode prog_8_method_11_code 84 = .ok (.iaload, 1) := by decide +kernel
theorem zd_Situation_perform_85 : decode prog_8_method_11_code 85 = .ok (.iload 4, 2) := by decide +kernel
theorem zd_Situation_perform_87 : decode prog_8_method_11_code 87 = .ok (.iastore, 1) := by decide +kernel
theorem zd_Situation_perform_88 : decode prog_8_method_11_code 88 = .ok (.goto 75, 3) := by decide +kernel
theorem zd_Situation_perform_91 : decode prog_8_method_11_code 91 = .ok (.iload_n 2, 1) := by decide +kernel
theorem zd_Situation_perform_92 : decode prog_8_method_11_code 92 = .ok (.iconst (-1), 1) := by decide +kernel
theorem zd_Situation_perform_93 : decode prog_8_method_11_code 93 = .ok (.if_icmp .ne 21, 3) := by decide +kernel
theorem zd_Situation_perform_96 : decode prog_8_method_11_code 96 = .ok (.aload_n 0, 1) := by decide +kernel
theorem zd_Situation_perform_97 : decode prog_8_method_11_code 97 = .ok (.aload_n 0, 1) := by decide +kernel
theorem zd_Situation_perform_98 : decode prog_8_method_11_code 98 = .ok (.getfield 19, 3) := by decide +kernel
theorem zd_Situation_perform_101 : decode prog_8_method_11_code 101 = .ok (.getfield 108, 3) := by decide +kernel
theorem zd_Situation_perform_104 : decode prog_8_method_11_code 104 = .ok (.iload_n 1, 1) := by decide +kernel
theorem zd_Situation_perform_105 : decode prog_8_method_11_code 105 = .ok (.iaload, 1) := by decide +kernel
theorem zd_Situation_perform_106 : decode prog_8_method_11_code 106 = .ok (.iload 4, 2) := by decide +kernel
theorem zd_Situation_perform_108 : decode prog_8_method_11_code 108 = .ok (.invokevirtual 130, 3) := by decide +kernel
theorem zd_Situation_perform_111 : decode prog_8_method_11_code 111 = .ok (.goto 52, 3) := by decide +kernel
theorem zd_Situation_perform_114 : decode prog_8_method_11_code 114 = .ok (.aload_n 0, 1) := by decide +kernel
theorem zd_Situation_perform_115 : decode prog_8_method_11_code 115 = .ok (.getfield 25, 3) := by decide +kernel
theorem zd_Situation_perform_118 : decode prog_8_method_11_code 118 = .ok (.aload_n 0, 1) := by decide +kernel
theorem zd_Situation_perform_119 : decode prog_8_method_11_code 119 = .ok (.getfield 19, 3) := by decide +kernel
theorem zd_Situation_perform_122 : decode prog_8_method_11_code 122 = .ok (.getfield 127, 3) := by decide +kernel
theorem zd_Situation_perform_125 : decode prog_8_method_11_code 125 = .ok (.iload_n 2, 1) := by decide +kernel
theorem zd_Situation_perform_126 : decode prog_8_method_11_code 126 = .ok (.iaload, 1) := by decide +kernel
theorem zd_Situation_perform_127 : decode prog_8_method_11_code 127 = .ok (.iload 4, 2) := by decide +kernel
theorem zd_Situation_perform_129 : decode prog_8_method_11_code 129 = .ok (.iastore, 1) := by decide +kernel
theorem zd_Situation_perform_130 : decode prog_8_method_11_code 130 = .ok (.goto 33, 3) := by decide +kernel
theorem zd_Situation_perform_133 : decode prog_8_method_11_code 133 = .ok (.aload_n 0, 1) := by decide +kernel
theorem zd_Situation_perform_134 : decode prog_8_method_11_code 134 = .ok (.getfield 25, 3) := by decide +kernel
theorem zd_Situation_perform_137 : decode prog_8_method_11_code 137 = .ok (.aload_n 0, 1) := by decide +kernel
theorem zd_Situation_perform_138 : decode prog_8_method_11_code 138 = .ok (.getfield 19, 3) := by decide +kernel
theorem zd_Situation_perform_141 : decode prog_8_method_11_code 141 = .ok (.getfield 127, 3) := by decide +kernel
theorem zd_Situation_perform_144 : decode prog_8_method_11_code 144 = .ok (.iload_n 1, 1) := by decide +kernel
theorem zd_Situation_perform_145 : decode prog_8_method_11_code 145 = .ok (.iaload, 1) := by decide +kernel
theorem zd_Situation_perform_146 : decode prog_8_method_11_code 146 = .ok (.aload_n 0, 1) := by decide +kernel
theorem zd_Situation_perform_147 : decode prog_8_method_11_code 147 = .ok (.aload_n 0, 1) := by decide +kernel
theorem zd_Situation_perform_148 : decode prog_8_method_11_code 148 = .ok (.getfield 19, 3) := by decide +kernel
theorem zd_Situation_perform_151 : decode prog_8_method_11_code 151 = .ok (.getfield 108, 3) := by decide +kernel
theorem zd_Situation_perform_154 : decode prog_8_method_11_code 154 = .ok (.iload_n 1, 1) := by decide +kernel
theorem zd_Situation_perform_155 : decode prog_8_method_11_code 155 = .ok (.iaload, 1) := by decide +kernel
theorem zd_Situation_perform_156 : decode prog_8_method_11_code 156 = .ok (.invokevirtual 134, 3) := by decide +kernel
theorem zd_Situation_perform_159 : decode prog_8_method_11_code 159 = .ok (.iastore, 1) := by decide +kernel
theorem zd_Situation_perform_160 : decode prog_8_method_11_code 160 = .ok (.goto 3, 3) := by decide +kernel
theorem zd_Situation_perform_163 : decode prog_8_method_11_code 163 = .ok (.aload_n 0, 1) := by decide +kernel
theorem zd_Situation_perform_164 : decode prog_8_method_11_code 164 = .ok (.iconst (-1), 1) := by decide +kernel
theorem zd_Situation_perform_165 : decode prog_8_method_11_code 165 = .ok (.putfield 37, 3) := by decide +kernel
theorem zd_Situation_perform_168 : decode prog_8_method_11_code 168 = .ok (.aload_n 0, 1) := by decide +kernel
theorem zd_Situation_perform_169 : decode prog_8_method_11_code 169 = .ok (.iload_n 1, 1) := by decide +kernel
theorem zd_Situation_perform_170 : decode prog_8_method_11_code 170 = .ok (.invokevirtual 138, 3) := by decide +kernel
theorem zd_Situation_perform_173 : decode prog_8_method_11_code 173 = .ok (.iload_n 2, 1) := by decide +kernel
theorem zd_Situation_perform_174 : decode prog_8_method_11_code 174 = .ok (.iconst (-1), 1) := by decide +kernel
theorem zd_Situation_perform_175 : decode prog_8_method_11_code 175 = .ok (.if_icmp .eq 8, 3) := by decide +kernel
theorem zd_Situation_perform_178 : decode prog_8_method_11_code 178 = .ok (.aload_n 0, 1) := by decide +kernel
theorem zd_Situation_perform_179 : decode prog_8_method_11_code 179 = .ok (.iload_n 2, 1) := by decide +kernel
theorem zd_Situation_perform_180 : decode prog_8_method_11_code 180 = .ok (.invokevirtual 138, 3) := by decide +kernel
theorem zd_Situation_perform_183 : decode prog_8_method_11_code 183 = .ok (.return_, 1) := by decide +kernel
theorem zd_Situation_put_0 : decode prog_8_method_12_code 0 = .ok (.aload_n 0, 1) := by decide +kernel
theorem zd_Situation_put_1 : decode prog_8_method_12_code 1 = .ok (.getfield 29, 3) := by decide +kernel
theorem zd_Situation_put_4 : decode prog_8_method_12_code 4 = .ok (.iload_n 1, 1) := by decide +kernel
theorem zd_Situation_put_5 : decode prog_8_method_12_code 5 = .ok (.iconst 3, 1) := by decide +kernel
theorem zd_Situation_put_6 : decode prog_8_method_12_code 6 = .ok (.imul, 1) := by decide +kernel
theorem zd_Situation_put_7 : decode prog_8_method_12_code 7 = .ok (.aload_n 0, 1) := by decide +kernel
theorem zd_Situation_put_8 : decode prog_8_method_12_code 8 = .ok (.getfield 25, 3) := by decide +kernel
theorem zd_Situation_put_11 : decode prog_8_method_12_code 11 = .ok (.iload_n 1, 1) := by decide +kernel
theorem zd_Situation_put_12 : decode prog_8_method_12_code 12 = .ok (.iaload, 1) := by decide +kernel
theorem zd_Situation_put_13 : decode prog_8_method_12_code 13 = .ok (.iadd, 1) := by decide +kernel
theorem zd_Situation_put_14 : decode prog_8_method_12_code 14 = .ok (.iload_n 2, 1) := by decide +kernel
theorem zd_Situation_put_15 : decode prog_8_method_12_code 15 = .ok (.iastore, 1) := by decide +kernel
theorem zd_Situation_put_16 : decode prog_8_method_12_code 16 = .ok (.aload_n 0, 1) := by decide +kernel
theorem zd_Situation_put_17 : decode prog_8_method_12_code 17 = .ok (.getfield 25, 3) := by decide +kernel
theorem zd_Situation_put_20 : decode prog_8_method_12_code 20 = .ok (.iload_n 1, 1) := by decide +kernel
theorem zd_Situation_put_21 : decode prog_8_method_12_code 21 = .ok (.dup2, 1) := by decide +kernel
theorem zd_Situation_put_22 : decode prog_8_method_12_code 22 = .ok (.iaload, 1) := by decide +kernel
theorem zd_Situation_put_23 : decode prog_8_method_12_code 23 = .ok (.iconst 1, 1) := by decide +kernel
theorem zd_Situation_put_24 : decode prog_8_method_12_code 24 = .ok (.iadd, 1) := by decide +kernel
theorem zd_Situation_put_25 : decode prog_8_method_12_code 25 = .ok (.iastore, 1) := by decide +kernel
theorem zd_Situation_put_26 : decode prog_8_method_12_code 26 = .ok (.return_, 1) := by decide +kernel
theorem zd_Situation_taken_0 : decode prog_8_method_13_code 0 = .ok (.iload_n 1, 1) := by decide +kernel
theorem zd_Situation_taken_1 : decode prog_8_method_13_code 1 = .ok (.iconst 3, 1) := by decide +kernel
theorem zd_Situation_taken_2 : decode prog_8_method_13_code 2 = .ok (.imul, 1) := by decide +kernel
theorem zd_Situation_taken_3 : decode prog_8_method_13_code 3 = .ok (.istore_n 2, 1) := by decide +kernel
theorem zd_Situation_taken_4 : decode prog_8_method_13_code 4 = .ok (.iload_n 2, 1) := by decide +kernel
theorem zd_Situation_taken_5 : decode prog_8_method_13_code 5 = .ok (.iconst 3, 1) := by decide +kernel
theorem zd_Situation_taken_6 : decode prog_8_method_13_code 6 = .ok (.iadd, 1) := by decide +kernel
theorem zd_Situation_taken_7 : decode prog_8_method_13_code 7 = .ok (.iconst 1, 1) := by decide +kernel
theorem zd_Situation_taken_8 : decode prog_8_method_13_code 8 = .ok (.isub, 1) := by decide +kernel
theorem zd_Situation_taken_9 : decode prog_8_method_13_code 9 = .ok (.istore_n 3, 1) := by decide +kernel
theorem zd_Situation_taken_10 : decode prog_8_method_13_code 10 = .ok (.aload_n 0, 1) := by decide +kernel
theorem zd_Situation_taken_11 : decode prog_8_method_13_code 11 = .ok (.getfield 29, 3) := by decide +kernel
theorem zd_Situation_taken_14 : decode prog_8_method_13_code 14 = .ok (.iload_n 2, 1) := by decide +kernel
theorem zd_Situation_taken_15 : decode prog_8_method_13_code 15 = .ok (.iaload, 1) := by decide +kernel
theorem zd_Situation_taken_16 : decode prog_8_method_13_code 16 = .ok (.istore 4, 2) := by decide +kernel
theorem zd_Situation_taken_18 : decode prog_8_method_13_code 18 = .ok (.iload_n 2, 1) := by decide +kernel
theorem zd_Situation_taken_19 : decode prog_8_method_13_code 19 = .ok (.istore 5, 2) := by decide +kernel
theorem zd_Situation_taken_21 : decode prog_8_method_13_code 21 = .ok (.iload 5, 2) := by decide +kernel
theorem zd_Situation_taken_23 : decode prog_8_method_13_code 23 = .ok (.iload_n 3, 1) := by decide +kernel
theorem zd_Situation_taken_24 : decode prog_8_method_13_code 24 = .ok (.if_icmp .ge 25, 3) := by decide +kernel
theorem zd_Situation_taken_27 : decode prog_8_method_13_code 27 = .ok (.aload_n 0, 1) := by decide +kernel
theorem zd_Situation_taken_28 : decode prog_8_method_13_code 28 = .ok (.getfield 29, 3) := by decide +kernel
theorem zd_Situation_taken_31 : decode prog_8_method_13_code 31 = .ok (.iload 5, 2) := by decide +kernel
theorem zd_Situation_taken_33 : decode prog_8_method_13_code 33 = .ok (.aload_n 0, 1) := by decide +kernel
theorem zd_Situation_taken_34 : decode prog_8_method_13_code 34 = .ok (.getfield 29, 3) := by decide +kernel
theorem zd_Situation_taken_37 : decode prog_8_method_13_code 37 = .ok (.iload 5, 2) := by decide +kernel
theorem zd_Situation_taken_39 : decode prog_8_method_13_code 39 = .ok (.iconst 1, 1) := by decide +kernel
theorem zd_Situation_taken_40 : decode prog_8_method_13_code 40 = .ok (.iadd, 1) := by decide +kernel
theorem zd_Situation_taken_41 : decode prog_8_method_13_code 41 = .ok (.iaload, 1) := by decide +kernel
theorem zd_Situation_taken_42 : decode prog_8_method_13_code 42 = .ok (.iastore, 1) := by decide +kernel
theorem zd_Situation_taken_43 : decode prog_8_method_13_code 43 = .ok (.iinc 5 1, 3) := by decide +kernel
theorem zd_Situation_taken_46 : decode prog_8_method_13_code 46 = .ok (.goto (-25), 3) := by decide +kernel
theorem zd_Situation_taken_49 : decode prog_8_method_13_code 49 = .ok (.aload_n 0, 1) := by decide +kernel
theorem zd_Situation_taken_50 : decode prog_8_method_13_code 50 = .ok (.getfield 29, 3) := by decide +kernel
theorem zd_Situation_taken_53 : decode prog_8_method_13_code 53 = .ok (.iload_n 3, 1) := by decide +kernel
theorem zd_Situation_taken_54 : decode prog_8_method_13_code 54 = .ok (.iconst 0, 1) := by decide +kernel
theorem zd_Situation_taken_55 : decode prog_8_method_13_code 55 = .ok (.iastore, 1) := by decide +kernel
theorem zd_Situation_taken_56 : decode prog_8_method_13_code 56 = .ok (.aload_n 0, 1) := by decide +kernel
theorem zd_Situation_taken_57 : decode prog_8_method_13_code 57 = .ok (.getfield 25, 3) := by decide +kernel
theorem zd_Situation_taken_60 : decode prog_8_method_13_code 60 = .ok (.iload_n 1, 1) := by decide +kernel
theorem zd_Situation_taken_61 : decode prog_8_method_13_code 61 = .ok (.dup2, 1) := by decide +kernel
theorem zd_Situation_taken_62 : decode prog_8_method_13_code 62 = .ok (.iaload, 1) := by decide +kernel
theorem zd_Situation_taken_63 : decode prog_8_method_13_code 63 = .ok (.iconst 1, 1) := by decide +kernel
theorem zd_Situation_taken_64 : decode prog_8_method_13_code 64 = .ok (.isub, 1) := by decide +kernel
theorem zd_Situation_taken_65 : decode prog_8_method_13_code 65 = .ok (.iastore, 1) := by decide +kernel
theorem zd_Situation_taken_66 : decode prog_8_method_13_code 66 = .ok (.iload 4, 2) := by decide +kernel
theorem zd_Situation_taken_68 : decode prog_8_method_13_code 68 = .ok (.ireturn, 1) := by decide +kernel
theorem zd_Terms_joined_0 : decode prog_9_method_13_code 0 = .ok (.iload_n 0, 1) := by decide +kernel
theorem zd_Terms_joined_1 : decode prog_9_method_13_code 1 = .ok (.tableswitch 67 16 19 #[31, 42, 53, 60], 31) := by decide +kernel
theorem zd_Terms_joined_32 : decode prog_9_method_13_code 32 = .ok (.iload_n 1, 1) := by decide +kernel
theorem zd_Terms_joined_33 : decode prog_9_method_13_code 33 = .ok (.iload_n 2, 1) := by decide +kernel
theorem zd_Terms_joined_34 : decode prog_9_method_13_code 34 = .ok (.if_icmp .ne 7, 3) := by decide +kernel
theorem zd_Terms_joined_37 : decode prog_9_method_13_code 37 = .ok (.iconst 1, 1) := by decide +kernel
theorem zd_Terms_joined_38 : decode prog_9_method_13_code 38 = .ok (.goto 4, 3) := by decide +kernel
theorem zd_Terms_joined_41 : decode prog_9_method_13_code 41 = .ok (.iconst 0, 1) := by decide +kernel
theorem zd_Terms_joined_42 : decode prog_9_method_13_code 42 = .ok (.ireturn, 1) := by decide +kernel
theorem zd_Terms_joined_43 : decode prog_9_method_13_code 43 = .ok (.iload_n 1, 1) := by decide +kernel
theorem zd_Terms_joined_44 : decode prog_9_method_13_code 44 = .ok (.iload_n 2, 1) := by decide +kernel
theorem zd_Terms_joined_45 : decode prog_9_method_13_code 45 = .ok (.if_icmp .ge 7, 3) := by decide +kernel
theorem zd_Terms_joined_48 : decode prog_9_method_13_code 48 = .ok (.iconst 1, 1) := by decide +kernel
theorem zd_Terms_joined_49 : decode prog_9_method_13_code 49 = .ok (.goto 4, 3) := by decide +kernel
theorem zd_Terms_joined_52 : decode prog_9_method_13_code 52 = .ok (.iconst 0, 1) := by decide +kernel
theorem zd_Terms_joined_53 : decode prog_9_method_13_code 53 = .ok (.ireturn, 1) := by decide +kernel
theorem zd_Terms_joined_54 : decode prog_9_method_13_code 54 = .ok (.iload_n 1, 1) := by decide +kernel
theorem zd_Terms_joined_55 : decode prog_9_method_13_code 55 = .ok (.iload_n 2, 1) := by decide +kernel
theorem zd_Terms_joined_56 : decode prog_9_method_13_code 56 = .ok (.iadd, 1) := by decide +kernel
theorem zd_Terms_joined_57 : decode prog_9_method_13_code 57 = .ok (.bipush 7, 2) := by decide +kernel
theorem zd_Terms_joined_59 : decode prog_9_method_13_code 59 = .ok (.iand, 1) := by decide +kernel
theorem zd_Terms_joined_60 : decode prog_9_method_13_code 60 = .ok (.ireturn, 1) := by decide +kernel
theorem zd_Terms_joined_61 : decode prog_9_method_13_code 61 = .ok (.iload_n 1, 1) := by decide +kernel
theorem zd_Terms_joined_62 : decode prog_9_method_13_code 62 = .ok (.iload_n 2, 1) := by decide +kernel
theorem zd_Terms_joined_63 : decode prog_9_method_13_code 63 = .ok (.isub, 1) := by decide +kernel
theorem zd_Terms_joined_64 : decode prog_9_method_13_code 64 = .ok (.bipush 7, 2) := by decide +kernel
theorem zd_Terms_joined_66 : decode prog_9_method_13_code 66 = .ok (.iand, 1) := by decide +kernel
theorem zd_Terms_joined_67 : decode prog_9_method_13_code 67 = .ok (.ireturn, 1) := by decide +kernel
theorem zd_Terms_joined_68 : decode prog_9_method_13_code 68 = .ok (.iload_n 1, 1) := by decide +kernel
theorem zd_Terms_joined_69 : decode prog_9_method_13_code 69 = .ok (.iload_n 2, 1) := by decide +kernel
theorem zd_Terms_joined_70 : decode prog_9_method_13_code 70 = .ok (.imul, 1) := by decide +kernel
theorem zd_Terms_joined_71 : decode prog_9_method_13_code 71 = .ok (.bipush 7, 2) := by decide +kernel
theorem zd_Terms_joined_73 : decode prog_9_method_13_code 73 = .ok (.iand, 1) := by decide +kernel
theorem zd_Terms_joined_74 : decode prog_9_method_13_code 74 = .ok (.ireturn, 1) := by decide +kernel
theorem zd_Terms_reckon_0 : decode prog_9_method_12_code 0 = .ok (.iconst 0, 1) := by decide +kernel
theorem zd_Terms_reckon_1 : decode prog_9_method_12_code 1 = .ok (.istore_n 3, 1) := by decide +kernel
theorem zd_Terms_reckon_2 : decode prog_9_method_12_code 2 = .ok (.iload_n 1, 1) := by decide +kernel
theorem zd_Terms_reckon_3 : decode prog_9_method_12_code 3 = .ok (.istore 4, 2) := by decide +kernel
theorem zd_Terms_reckon_5 : decode prog_9_method_12_code 5 = .ok (.iload 4, 2) := by decide +kernel
theorem zd_Terms_reckon_7 : decode prog_9_method_12_code 7 = .ok (.aload_n 0, 1) := by decide +kernel
theorem zd_Terms_reckon_8 : decode prog_9_method_12_code 8 = .ok (.getfield 31, 3) := by decide +kernel
theorem zd_Terms_reckon_11 : decode prog_9_method_12_code 11 = .ok (.if_icmp .ge 98, 3) := by decide +kernel
theorem zd_Terms_reckon_14 : decode prog_9_method_12_code 14 = .ok (.aload_n 0, 1) := by decide +kernel
theorem zd_Terms_reckon_15 : decode prog_9_method_12_code 15 = .ok (.getfield 21, 3) := by decide +kernel
theorem zd_Terms_reckon_18 : decode prog_9_method_12_code 18 = .ok (.iload 4, 2) := by decide +kernel
theorem zd_Terms_reckon_20 : decode prog_9_method_12_code 20 = .ok (.iaload, 1) := by decide +kernel
theorem zd_Terms_reckon_21 : decode prog_9_method_12_code 21 = .ok (.bipush 22, 2) := by decide +kernel
theorem zd_Terms_reckon_23 : decode prog_9_method_12_code 23 = .ok (.if_icmp .eq 86, 3) := by decide +kernel
theorem zd_Terms_reckon_26 : decode prog_9_method_12_code 26 = .ok (.aload_n 0, 1) := by decide +kernel
theorem zd_Terms_reckon_27 : decode prog_9_method_12_code 27 = .ok (.getfield 21, 3) := by decide +kernel
theorem zd_Terms_reckon_30 : decode prog_9_method_12_code 30 = .ok (.iload 4, 2) := by decide +kernel
theorem zd_Terms_reckon_32 : decode prog_9_method_12_code 32 = .ok (.iaload, 1) := by decide +kernel
theorem zd_Terms_reckon_33 : decode prog_9_method_12_code 33 = .ok (.istore 5, 2) := by decide +kernel
theorem zd_Terms_reckon_35 : decode prog_9_method_12_code 35 = .ok (.iload 5, 2) := by decide +kernel
theorem zd_Terms_reckon_37 : decode prog_9_method_12_code 37 = .ok (.bipush 16, 2) := by decide +kernel
theorem zd_Terms_reckon_39 : decode prog_9_method_12_code 39 = .ok (.if_icmp .lt 36, 3) := by decide +kernel
theorem zd_Terms_reckon_42 : decode prog_9_method_12_code 42 = .ok (.iinc 3 (-1), 3) := by decide +kernel
theorem zd_Terms_reckon_45 : decode prog_9_method_12_code 45 = .ok (.aload_n 0, 1) := by decide +kernel
theorem zd_Terms_reckon_46 : decode prog_9_method_12_code 46 = .ok (.getfield 28, 3) := by decide +kernel
theorem zd_Terms_reckon_49 : decode prog_9_method_12_code 49 = .ok (.iload_n 3, 1) := by decide +kernel
theorem zd_Terms_reckon_50 : decode prog_9_method_12_code 50 = .ok (.iconst 1, 1) := by decide +kernel
theorem zd_Terms_reckon_51 : decode prog_9_method_12_code 51 = .ok (.isub, 1) := by decide +kernel
theorem zd_Terms_reckon_52 : decode prog_9_method_12_code 52 = .ok (.iload 5, 2) := by decide +kernel
theorem zd_Terms_reckon_54 : decode prog_9_method_12_code 54 = .ok (.aload_n 0, 1) := by decide +kernel
theorem zd_Terms_reckon_55 : decode prog_9_method_12_code 55 = .ok (.getfield 28, 3) := by decide +kernel
theorem zd_Terms_reckon_58 : decode prog_9_method_12_code 58 = .ok (.iload_n 3, 1) := by decide +kernel
theorem zd_Terms_reckon_59 : decode prog_9_method_12_code 59 = .ok (.iconst 1, 1) := by decide +kernel
theorem zd_Terms_reckon_60 : decode prog_9_method_12_code 60 = .ok (.isub, 1) := by decide +kernel
theorem zd_Terms_reckon_61 : decode prog_9_method_12_code 61 = .ok (.iaload, 1) := by decide +kernel
theorem zd_Terms_reckon_62 : decode prog_9_method_12_code 62 = .ok (.aload_n 0, 1) := by decide +kernel
theorem zd_Terms_reckon_63 : decode prog_9_method_12_code 63 = .ok (.getfield 28, 3) := by decide +kernel
theorem zd_Terms_reckon_66 : decode prog_9_method_12_code 66 = .ok (.iload_n 3, 1) := by decide +kernel
theorem zd_Terms_reckon_67 : decode prog_9_method_12_code 67 = .ok (.iaload, 1) := by decide +kernel
theorem zd_Terms_reckon_68 : decode prog_9_method_12_code 68 = .ok (.invokestatic 95, 3) := by decide +kernel
theorem zd_Terms_reckon_71 : decode prog_9_method_12_code 71 = .ok (.iastore, 1) := by decide +kernel
theorem zd_Terms_reckon_72 : decode prog_9_method_12_code 72 = .ok (.goto 31, 3) := by decide +kernel
theorem zd_Terms_reckon_75 : decode prog_9_method_12_code 75 = .ok (.aload_n 0, 1) := by decide +kernel
theorem zd_Terms_reckon_76 : decode prog_9_method_12_code 76 = .ok (.getfield 28, 3) := by decide +kernel
theorem zd_Terms_reckon_79 : decode prog_9_method_12_code 79 = .ok (.iload_n 3, 1) := by decide +kernel
theorem zd_Terms_reckon_80 : decode prog_9_method_12_code 80 = .ok (.iload 5, 2) := by decide +kernel
theorem zd_Terms_reckon_82 : decode prog_9_method_12_code 82 = .ok (.bipush 8, 2) := by decide +kernel
theorem zd_Terms_reckon_84 : decode prog_9_method_12_code 84 = .ok (.if_icmp .lt 13, 3) := by decide +kernel
theorem zd_Terms_reckon_87 : decode prog_9_method_12_code 87 = .ok (.aload_n 2, 1) := by decide +kernel
theorem zd_Terms_reckon_88 : decode prog_9_method_12_code 88 = .ok (.iload 5, 2) := by decide +kernel
theorem zd_Terms_reckon_90 : decode prog_9_method_12_code 90 = .ok (.bipush 8, 2) := by decide +kernel
theorem zd_Terms_reckon_92 : decode prog_9_method_12_code 92 = .ok (.isub, 1) := by decide +kernel
theorem zd_Terms_reckon_93 : decode prog_9_method_12_code 93 = .ok (.iaload, 1) := by decide +kernel
theorem zd_Terms_reckon_94 : decode prog_9_method_12_code 94 = .ok (.goto 5, 3) := by decide +kernel
theorem zd_Terms_reckon_97 : decode prog_9_method_12_code 97 = .ok (.iload 5, 2) := by decide +kernel
theorem zd_Terms_reckon_99 : decode prog_9_method_12_code 99 = .ok (.iastore, 1) := by decide +kernel
theorem zd_Terms_reckon_100 : decode prog_9_method_12_code 100 = .ok (.iinc 3 1, 3) := by decide +kernel
theorem zd_Terms_reckon_103 : decode prog_9_method_12_code 103 = .ok (.iinc 4 1, 3) := by decide +kernel
theorem zd_Terms_reckon_106 : decode prog_9_method_12_code 106 = .ok (.goto (-101), 3) := by decide +kernel
theorem zd_Terms_reckon_109 : decode prog_9_method_12_code 109 = .ok (.aload_n 0, 1) := by decide +kernel
theorem zd_Terms_reckon_110 : decode prog_9_method_12_code 110 = .ok (.getfield 28, 3) := by decide +kernel
theorem zd_Terms_reckon_113 : decode prog_9_method_12_code 113 = .ok (.iconst 0, 1) := by decide +kernel
theorem zd_Terms_reckon_114 : decode prog_9_method_12_code 114 = .ok (.iaload, 1) := by decide +kernel
theorem zd_Terms_reckon_115 : decode prog_9_method_12_code 115 = .ok (.ireturn, 1) := by decide +kernel
def wp_Graph_add (I : Nat → Int32) (J : Nat → Int64) (B : Nat → Nat → Int32) (D : Nat → Nat → Int64) (a0 : Int32) (a1 : Int32) (a2 : Int32) (a3 : Int32) (Post : Int32 → (Nat → Int32) → (Nat → Int64) → (Nat → Nat → Int32) → (Nat → Nat → Int64) → Prop) : Prop :=
  ((¬ (I 20) = 400 → vp_in (I 20) 400 ∧ vp_in (I 20) 400 ∧ vp_in (I 20) 400 ∧ vp_in (I 20) 400 ∧ ∀ z2 : Int32, z2 = ((I 20) + 1) → Post 1 (upd I 20 z2) J (va_up (va_up (va_up (va_up B 33 (upd (B 33) (I 20).toNatClampNeg a0)) 34 (upd (B 34) (I 20).toNatClampNeg a1)) 35 (upd (B 35) (I 20).toNatClampNeg a2)) 36 (upd (B 36) (I 20).toNatClampNeg a3)) D) ∧ ((I 20) = 400 → Post 0 I J B D))
set_option maxHeartbeats 8000000 in
set_option maxRecDepth 100000 in
theorem w_Graph_add (l : Launch) (G : va_G) (K : Nat → ClassId) (ad : Nat → Nat) (sv : Value) (I : Nat → Int32) (J : Nat → Int64) (B : Nat → Nat → Int32) (D : Nat → Nat → Int64) (a0 : Int32) (a1 : Int32) (a2 : Int32) (a3 : Int32) (Post : Int32 → (Nat → Int32) → (Nat → Int64) → (Nat → Nat → Int32) → (Nat → Nat → Int64) → Prop) (sz : Nat) (hok : wp_Graph_add I J B D a0 a1 a2 a3 Post) : Met l zy_Graph_add (Cond.code zy_Graph_add prog_3_method_7_code 5 (some .boolean) :: zTB) { frames := 0, cells := 0, slots := 0, locals := 0 } (va_Pc [.ref (ad 8), .int a0, .int a1, .int a2, .int a3] (zPre G K (wX ad K sv I J B D) sz)) (va_Qi (fun (r : Int32) (u : zS) => Post r u.1 u.2.1 u.2.2.1 u.2.2.2) (fun u t => zPost G K (va_A (wX ad K sv I J B D) sz) (wX ad K sv u.1 u.2.1 u.2.2.1 u.2.2.2) t) (va_A (wX ad K sv I J B D) sz)) 0 0 (va_A (wX ad K sv I J B D) sz) := by
  refine zMet (y := zy_Graph_add) (av := [.ref (ad 8), .int a0, .int a1, .int a2, .int a3]) (maxL := 5) (cc := prog_3_method_7_code) (ret := (some .boolean)) (W0 := (wX ad K sv I J B D)) (sz := sz) (G := G) (K := K) (wt := zTB) (mc := 0) (ms := 0) (Qf := fun A => va_Qi (fun (r : Int32) (u : zS) => Post r u.1 u.2.1 u.2.2.1 u.2.2.2) (fun u t => zPost G K A (wX ad K sv u.1 u.2.1 u.2.2.1 u.2.2.2) t) A) (by decide) (Nat.le_of_ble_eq_true rfl) ?_
  intro p e s m below meth c ls A hx hb hr hml hts hown hlocks hin hA hK H locs hw hsz hl
  clear hsz
  have hown : s.vm.findClass "LassoFinder$Graph" = some m.cls := hown
  have C : zCx p s m ([.ref (ad 8), .int a0, .int a1, .int a2, .int a3] : List Value).toArray meth c A G K prog_3_method_7_code (some .boolean) 5 "LassoFinder$Graph" := ⟨hx, hb, hr, hml, hts, hown, hlocks, hA, hK⟩
  have hl : lv_has ls 5 [(0, .ref (ad 8)), (1, .int a0), (2, .int a1), (3, .int a2), (4, .int a3)] := hl
  have hw : zW G A s.heap (wX ad K sv I J B D) H locs := hw
  unfold wp_Graph_add at hok
  refine lv_aload_n hx hb zd_Graph_add_0 rfl (lv_at hl 0 rfl) ?_
  refine z_get (v := .int (I 20)) hx hb hts hown hK hw zZ2 8 wX_g8 10 (by decide) zn_430 rfl zd_Graph_add_1 ?_
  refine lv_sipush (v := 400) hx hb zd_Graph_add_4 (by decide) ?_
  refine lv_icmp_ne (tgt := 12) hx hb zd_Graph_add_7 (by decide) (fun hc1 => ?_) (fun hc1 => ?_)
  · have hok := hok.1 hc1
    refine lv_aload_n hx hb zd_Graph_add_12 rfl (lv_at hl 0 rfl) ?_
    refine z_get (v := .ref (ad 48)) hx hb hts hown hK hw zZ2 8 wX_g8 3 (by decide) zn_271 rfl zd_Graph_add_13 ?_
    refine lv_aload_n hx hb zd_Graph_add_16 rfl (lv_at hl 0 rfl) ?_
    refine z_get (v := .int (I 20)) hx hb hts hown hK hw zZ2 8 wX_g8 10 (by decide) zn_430 rfl zd_Graph_add_17 ?_
    refine lv_iload_n hx hb zd_Graph_add_20 rfl (lv_at hl 1 rfl) ?_
    refine va_iast (f := (B 33)) hx hb hK hw.1 hw.2.1 hw.2.2 48 0 wX_a48 rfl hok.1 zd_Graph_add_21 (fun H locs w91 w92 w93 => ?_)
    have hok := hok.2
    have hw := wX_t48 ⟨w91, w92, w93⟩
    refine lv_aload_n hx hb zd_Graph_add_22 rfl (lv_at hl 0 rfl) ?_
    refine z_get (v := .ref (ad 49)) hx hb hts hown hK hw zZ2 8 wX_g8 4 (by decide) zn_272 rfl zd_Graph_add_23 ?_
    refine lv_aload_n hx hb zd_Graph_add_26 rfl (lv_at hl 0 rfl) ?_
    refine z_get (v := .int (I 20)) hx hb hts hown hK hw zZ2 8 wX_g8 10 (by decide) zn_430 rfl zd_Graph_add_27 ?_
    refine lv_iload_n hx hb zd_Graph_add_30 rfl (lv_at hl 2 rfl) ?_
    refine va_iast (f := (B 34)) hx hb hK hw.1 hw.2.1 hw.2.2 49 0 wX_a49 rfl hok.1 zd_Graph_add_31 (fun H locs w91 w92 w93 => ?_)
    have hok := hok.2
    have hw := wX_t49 ⟨w91, w92, w93⟩
    refine lv_aload_n hx hb zd_Graph_add_32 rfl (lv_at hl 0 rfl) ?_
    refine z_get (v := .ref (ad 50)) hx hb hts hown hK hw zZ2 8 wX_g8 5 (by decide) zn_273 rfl zd_Graph_add_33 ?_
    refine lv_aload_n hx hb zd_Graph_add_36 rfl (lv_at hl 0 rfl) ?_
    refine z_get (v := .int (I 20)) hx hb hts hown hK hw zZ2 8 wX_g8 10 (by decide) zn_430 rfl zd_Graph_add_37 ?_
    refine lv_iload_n hx hb zd_Graph_add_40 rfl (lv_at hl 3 rfl) ?_
    refine va_iast (f := (B 35)) hx hb hK hw.1 hw.2.1 hw.2.2 50 0 wX_a50 rfl hok.1 zd_Graph_add_41 (fun H locs w91 w92 w93 => ?_)
    have hok := hok.2
    have hw := wX_t50 ⟨w91, w92, w93⟩
    refine lv_aload_n hx hb zd_Graph_add_42 rfl (lv_at hl 0 rfl) ?_
    refine z_get (v := .ref (ad 51)) hx hb hts hown hK hw zZ2 8 wX_g8 6 (by decide) zn_274 rfl zd_Graph_add_43 ?_
    refine lv_aload_n hx hb zd_Graph_add_46 rfl (lv_at hl 0 rfl) ?_
    refine z_get (v := .int (I 20)) hx hb hts hown hK hw zZ2 8 wX_g8 10 (by decide) zn_430 rfl zd_Graph_add_47 ?_
    refine lv_iload hx hb zd_Graph_add_50 (lv_at hl 4 rfl) ?_
    refine va_iast (f := (B 36)) hx hb hK hw.1 hw.2.1 hw.2.2 51 0 wX_a51 rfl hok.1 zd_Graph_add_52 (fun H locs w91 w92 w93 => ?_)
    have hok := hok.2
    have hw := wX_t51 ⟨w91, w92, w93⟩
    refine lv_aload_n hx hb zd_Graph_add_53 rfl (lv_at hl 0 rfl) ?_
    refine lv_dup hx hb zd_Graph_add_54 rfl ?_
    refine z_get (v := .int (I 20)) hx hb hts hown hK hw zZ2 8 wX_g8 10 (by decide) zn_430 rfl zd_Graph_add_55 ?_
    refine lv_iconst (v := 1) hx hb zd_Graph_add_58 (by decide) ?_
    refine lv_iadd hx hb zd_Graph_add_59 ?_
    refine lv_topi (fun z2 ez2 => ?_)
    have hok := hok z2 ez2
    refine z_put (v := .int z2) hx hb hts hown hK hw zZ2 8 wX_g8 10 (by decide) zn_430 rfl rfl rfl (Nat.le_of_ble_eq_true rfl) zd_Graph_add_60 (fun H locs hw => ?_)
    have hw := wX_sI20 hw
    refine lv_iconst (v := 1) hx hb zd_Graph_add_63 (by decide) ?_
    exact (z_iret (u := ((upd I 20 z2), J, (va_up (va_up (va_up (va_up B 33 (upd (B 33) (I 20).toNatClampNeg a0)) 34 (upd (B 34) (I 20).toNatClampNeg a1)) 35 (upd (B 35) (I 20).toNatClampNeg a2)) 36 (upd (B 36) (I 20).toNatClampNeg a3)), D)) hx hb hr hlocks rfl hw (List.range 65) wX_all wX_nd hok (Nat.le_of_ble_eq_true rfl) (Nat.le_of_ble_eq_true rfl) zd_Graph_add_64)
  · have hok := hok.2 hc1
    refine lv_iconst (v := 0) hx hb zd_Graph_add_10 (by decide) ?_
    exact (z_iret (u := (I, J, B, D)) hx hb hr hlocks rfl hw (List.range 65) wX_all wX_nd hok (Nat.le_of_ble_eq_true rfl) (Nat.le_of_ble_eq_true rfl) zd_Graph_add_11)
def wc_Situation_passOn_42 (a0 : Int32) (Post : (Nat → Int32) → (Nat → Int64) → (Nat → Nat → Int32) → (Nat → Nat → Int64) → Prop)  (I : Nat → Int32) (J : Nat → Int64) (B : Nat → Nat → Int32) (D : Nat → Nat → Int64) : Prop :=
  Post I J B D
def wp_Situation_passOn (I : Nat → Int32) (J : Nat → Int64) (B : Nat → Nat → Int32) (D : Nat → Nat → Int64) (a0 : Int32) (Post : (Nat → Int32) → (Nat → Int64) → (Nat → Nat → Int32) → (Nat → Nat → Int64) → Prop) : Prop :=
  vp_in a0 48 ∧ ∀ z1 : Int32, z1 = ((B 10) a0.toNatClampNeg) → vp_in a0 48 ∧ ∀ z2 : Int32, z2 = ((B 11) a0.toNatClampNeg) → vp_in z1 4 ∧ vp_in a0 48 ∧ ∀ z3 : Int32, z3 = ((B 12) a0.toNatClampNeg) → ((z3 = 0 → wc_Situation_passOn_42 a0 Post I J (va_up B 31 (upd (B 31) z1.toNatClampNeg z2)) D) ∧ (¬ z3 = 0 → wc_Situation_passOn_42 a0 Post (upd I 18 z1) J (va_up B 31 (upd (B 31) z1.toNatClampNeg z2)) D))
set_option maxHeartbeats 8000000 in
set_option maxRecDepth 100000 in
theorem wJ_Situation_passOn_42 {p : Program} {l : Launch} {e : Env} {s : State} {m : MethodId} {below : List Frame} {meth : Method} {c : Code} {A : Nat → Prop} (G : va_G) (K : Nat → ClassId) (ad : Nat → Nat) (sv : Value) (a0 : Int32) (Post : (Nat → Int32) → (Nat → Int64) → (Nat → Nat → Int32) → (Nat → Nat → Int64) → Prop) (C : zCx p s m ([.ref (ad 7), .int a0] : List Value).toArray meth c A G K prog_8_method_14_code none 3 "LassoFinder$Situation") : ∀  (I : Nat → Int32) (J : Nat → Int64) (B : Nat → Nat → Int32) (D : Nat → Nat → Int64) (ls : Array Slot) (H : Heap) (locs : List Loc), wc_Situation_passOn_42 a0 Post  I J B D → lv_has ls 3 [] → zW G A s.heap (wX ad K sv I J B D) H locs → W p l e { frames := 0, cells := 0, slots := 0, locals := 0 } s m ([.ref (ad 7), .int a0] : List Value).toArray below meth c H locs 0 0 (MQ below (va_Qv (fun u : zS => Post u.1 u.2.1 u.2.2.1 u.2.2.2) (fun u t => zPost G K A (wX ad K sv u.1 u.2.1 u.2.2.1 u.2.2.2) t) A) ([.ref (ad 7), .int a0] : List Value).toArray s 0 0 A) (F0 m 42 ls []) := by
  obtain ⟨hx, hb, hr, hml, hts, hown, hlocks, hA, hK⟩ := id C
  intro  I J B D ls H locs hok hl hw
  unfold wc_Situation_passOn_42 at hok
  exact (z_vret (u := (I, J, B, D)) hx hb hr hlocks hw (List.range 65) wX_all wX_nd hok (Nat.le_of_ble_eq_true rfl) (Nat.le_of_ble_eq_true rfl) zd_Situation_passOn_42)
set_option maxHeartbeats 8000000 in
set_option maxRecDepth 100000 in
theorem w_Situation_passOn (l : Launch) (G : va_G) (K : Nat → ClassId) (ad : Nat → Nat) (sv : Value) (I : Nat → Int32) (J : Nat → Int64) (B : Nat → Nat → Int32) (D : Nat → Nat → Int64) (a0 : Int32) (Post : (Nat → Int32) → (Nat → Int64) → (Nat → Nat → Int32) → (Nat → Nat → Int64) → Prop) (sz : Nat) (hok : wp_Situation_passOn I J B D a0 Post) : Met l zy_Situation_passOn (Cond.code zy_Situation_passOn prog_8_method_14_code 3 none :: zTB) { frames := 0, cells := 0, slots := 0, locals := 0 } (va_Pc [.ref (ad 7), .int a0] (zPre G K (wX ad K sv I J B D) sz)) (va_Qv (fun u : zS => Post u.1 u.2.1 u.2.2.1 u.2.2.2) (fun u t => zPost G K (va_A (wX ad K sv I J B D) sz) (wX ad K sv u.1 u.2.1 u.2.2.1 u.2.2.2) t) (va_A (wX ad K sv I J B D) sz)) 0 0 (va_A (wX ad K sv I J B D) sz) := by
  refine zMet (y := zy_Situation_passOn) (av := [.ref (ad 7), .int a0]) (maxL := 3) (cc := prog_8_method_14_code) (ret := none) (W0 := (wX ad K sv I J B D)) (sz := sz) (G := G) (K := K) (wt := zTB) (mc := 0) (ms := 0) (Qf := fun A => va_Qv (fun u : zS => Post u.1 u.2.1 u.2.2.1 u.2.2.2) (fun u t => zPost G K A (wX ad K sv u.1 u.2.1 u.2.2.1 u.2.2.2) t) A) (by decide) (Nat.le_of_ble_eq_true rfl) ?_
  intro p e s m below meth c ls A hx hb hr hml hts hown hlocks hin hA hK H locs hw hsz hl
  clear hsz
  have hown : s.vm.findClass "LassoFinder$Situation" = some m.cls := hown
  have C : zCx p s m ([.ref (ad 7), .int a0] : List Value).toArray meth c A G K prog_8_method_14_code none 3 "LassoFinder$Situation" := ⟨hx, hb, hr, hml, hts, hown, hlocks, hA, hK⟩
  have hl : lv_has ls 3 [(0, .ref (ad 7)), (1, .int a0)] := hl
  have hw : zW G A s.heap (wX ad K sv I J B D) H locs := hw
  unfold wp_Situation_passOn at hok
  refine lv_aload_n hx hb zd_Situation_passOn_0 rfl (lv_at hl 0 rfl) ?_
  refine z_get (v := .ref (ad 3)) hx hb hts hown hK hw zZ7 7 wX_g7 2 (by decide) zn_431 rfl zd_Situation_passOn_1 ?_
  refine z_get (v := .ref (ad 22)) hx hb hts hown hK hw zZ6 3 wX_g3 4 (by decide) zn_437 rfl zd_Situation_passOn_4 ?_
  refine lv_iload_n hx hb zd_Situation_passOn_7 rfl (lv_at hl 1 rfl) ?_
  refine va_iald (f := (B 10)) hx hb hK hw.1 22 0 wX_a22 rfl hok.1 zd_Situation_passOn_8 ?_
  have hok := hok.2
  refine lv_topi (fun z1 ez1 => ?_)
  have hok := hok z1 ez1
  refine lv_istore_n hx hb zd_Situation_passOn_9 rfl hl (by decide) rfl (fun ls hl => ?_)
  have hl : lv_has ls 3 [(2, .int z1), (0, .ref (ad 7)), (1, .int a0)] := hl
  refine lv_aload_n hx hb zd_Situation_passOn_10 rfl (lv_at hl 1 rfl) ?_
  refine z_get (v := .ref (ad 45)) hx hb hts hown hK hw zZ7 7 wX_g7 5 (by decide) zn_268 rfl zd_Situation_passOn_11 ?_
  refine lv_iload_n hx hb zd_Situation_passOn_14 rfl (lv_at hl 0 rfl) ?_
  refine lv_aload_n hx hb zd_Situation_passOn_15 rfl (lv_at hl 1 rfl) ?_
  refine z_get (v := .ref (ad 3)) hx hb hts hown hK hw zZ7 7 wX_g7 2 (by decide) zn_431 rfl zd_Situation_passOn_16 ?_
  refine z_get (v := .ref (ad 23)) hx hb hts hown hK hw zZ6 3 wX_g3 5 (by decide) zn_438 rfl zd_Situation_passOn_19 ?_
  refine lv_iload_n hx hb zd_Situation_passOn_22 rfl (lv_at hl 2 rfl) ?_
  refine va_iald (f := (B 11)) hx hb hK hw.1 23 0 wX_a23 rfl hok.1 zd_Situation_passOn_23 ?_
  have hok := hok.2
  refine lv_topi (fun z2 ez2 => ?_)
  have hok := hok z2 ez2
  refine va_iast (f := (B 31)) hx hb hK hw.1 hw.2.1 hw.2.2 45 0 wX_a45 rfl hok.1 zd_Situation_passOn_24 (fun H locs w91 w92 w93 => ?_)
  have hok := hok.2
  have hw := wX_t45 ⟨w91, w92, w93⟩
  refine lv_aload_n hx hb zd_Situation_passOn_25 rfl (lv_at hl 1 rfl) ?_
  refine z_get (v := .ref (ad 3)) hx hb hts hown hK hw zZ7 7 wX_g7 2 (by decide) zn_431 rfl zd_Situation_passOn_26 ?_
  refine z_get (v := .ref (ad 24)) hx hb hts hown hK hw zZ6 3 wX_g3 6 (by decide) zn_439 rfl zd_Situation_passOn_29 ?_
  refine lv_iload_n hx hb zd_Situation_passOn_32 rfl (lv_at hl 2 rfl) ?_
  refine va_zald (f := (B 12)) hx hb hK hw.1 24 2 wX_a24 rfl hok.1 zd_Situation_passOn_33 ?_
  have hok := hok.2
  refine lv_topi (fun z3 ez3 => ?_)
  have hok := hok z3 ez3
  refine lv_if_eq (tgt := 42) hx hb zd_Situation_passOn_34 (by decide) (fun hc4 => ?_) (fun hc4 => ?_)
  · have hok := hok.1 hc4
    exact wJ_Situation_passOn_42 G K ad sv a0 Post C I J (va_up B 31 (upd (B 31) z1.toNatClampNeg z2)) D ls H locs hok (lv_sub hl [] rfl) hw
  · have hok := hok.2 hc4
    refine lv_aload_n hx hb zd_Situation_passOn_37 rfl (lv_at hl 1 rfl) ?_
    refine lv_iload_n hx hb zd_Situation_passOn_38 rfl (lv_at hl 0 rfl) ?_
    refine z_put (v := .int z1) hx hb hts hown hK hw zZ7 7 wX_g7 6 (by decide) zn_296 rfl rfl rfl (Nat.le_of_ble_eq_true rfl) zd_Situation_passOn_39 (fun H locs hw => ?_)
    have hw := wX_sI18 hw
    exact wJ_Situation_passOn_42 G K ad sv a0 Post C (upd I 18 z1) J (va_up B 31 (upd (B 31) z1.toNatClampNeg z2)) D ls H locs hok (lv_sub hl [] rfl) hw
def wp_Situation_put (I : Nat → Int32) (J : Nat → Int64) (B : Nat → Nat → Int32) (D : Nat → Nat → Int64) (a0 : Int32) (a1 : Int32) (Post : (Nat → Int32) → (Nat → Int64) → (Nat → Nat → Int32) → (Nat → Nat → Int64) → Prop) : Prop :=
  ∀ z1 : Int32, z1 = (a0 * 3) → vp_in a0 8 ∧ ∀ z2 : Int32, z2 = ((B 29) a0.toNatClampNeg) → ∀ z3 : Int32, z3 = (z1 + z2) → vp_in z3 24 ∧ vp_in a0 8 ∧ ∀ z4 : Int32, z4 = ((B 29) a0.toNatClampNeg) → ∀ z5 : Int32, z5 = (z4 + 1) → vp_in a0 8 ∧ Post I J (va_up (va_up B 30 (upd (B 30) z3.toNatClampNeg a1)) 29 (upd (B 29) a0.toNatClampNeg z5)) D
set_option maxHeartbeats 8000000 in
set_option maxRecDepth 100000 in
theorem w_Situation_put (l : Launch) (G : va_G) (K : Nat → ClassId) (ad : Nat → Nat) (sv : Value) (I : Nat → Int32) (J : Nat → Int64) (B : Nat → Nat → Int32) (D : Nat → Nat → Int64) (a0 : Int32) (a1 : Int32) (Post : (Nat → Int32) → (Nat → Int64) → (Nat → Nat → Int32) → (Nat → Nat → Int64) → Prop) (sz : Nat) (hok : wp_Situation_put I J B D a0 a1 Post) : Met l zy_Situation_put (Cond.code zy_Situation_put prog_8_method_12_code 3 none :: zTB) { frames := 0, cells := 0, slots := 0, locals := 0 } (va_Pc [.ref (ad 7), .int a0, .int a1] (zPre G K (wX ad K sv I J B D) sz)) (va_Qv (fun u : zS => Post u.1 u.2.1 u.2.2.1 u.2.2.2) (fun u t => zPost G K (va_A (wX ad K sv I J B D) sz) (wX ad K sv u.1 u.2.1 u.2.2.1 u.2.2.2) t) (va_A (wX ad K sv I J B D) sz)) 0 0 (va_A (wX ad K sv I J B D) sz) := by
  refine zMet (y := zy_Situation_put) (av := [.ref (ad 7), .int a0, .int a1]) (maxL := 3) (cc := prog_8_method_12_code) (ret := none) (W0 := (wX ad K sv I J B D)) (sz := sz) (G := G) (K := K) (wt := zTB) (mc := 0) (ms := 0) (Qf := fun A => va_Qv (fun u : zS => Post u.1 u.2.1 u.2.2.1 u.2.2.2) (fun u t => zPost G K A (wX ad K sv u.1 u.2.1 u.2.2.1 u.2.2.2) t) A) (by decide) (Nat.le_of_ble_eq_true rfl) ?_
  intro p e s m below meth c ls A hx hb hr hml hts hown hlocks hin hA hK H locs hw hsz hl
  clear hsz
  have hown : s.vm.findClass "LassoFinder$Situation" = some m.cls := hown
  have C : zCx p s m ([.ref (ad 7), .int a0, .int a1] : List Value).toArray meth c A G K prog_8_method_12_code none 3 "LassoFinder$Situation" := ⟨hx, hb, hr, hml, hts, hown, hlocks, hA, hK⟩
  have hl : lv_has ls 3 [(0, .ref (ad 7)), (1, .int a0), (2, .int a1)] := hl
  have hw : zW G A s.heap (wX ad K sv I J B D) H locs := hw
  unfold wp_Situation_put at hok
  refine lv_aload_n hx hb zd_Situation_put_0 rfl (lv_at hl 0 rfl) ?_
  refine z_get (v := .ref (ad 44)) hx hb hts hown hK hw zZ7 7 wX_g7 4 (by decide) zn_267 rfl zd_Situation_put_1 ?_
  refine lv_iload_n hx hb zd_Situation_put_4 rfl (lv_at hl 1 rfl) ?_
  refine lv_iconst (v := 3) hx hb zd_Situation_put_5 (by decide) ?_
  refine lv_imul hx hb zd_Situation_put_6 ?_
  refine lv_topi (fun z1 ez1 => ?_)
  have hok := hok z1 ez1
  refine lv_aload_n hx hb zd_Situation_put_7 rfl (lv_at hl 0 rfl) ?_
  refine z_get (v := .ref (ad 43)) hx hb hts hown hK hw zZ7 7 wX_g7 3 (by decide) zn_266 rfl zd_Situation_put_8 ?_
  refine lv_iload_n hx hb zd_Situation_put_11 rfl (lv_at hl 1 rfl) ?_
  refine va_iald (f := (B 29)) hx hb hK hw.1 43 0 wX_a43 rfl hok.1 zd_Situation_put_12 ?_
  have hok := hok.2
  refine lv_topi (fun z2 ez2 => ?_)
  have hok := hok z2 ez2
  refine lv_iadd hx hb zd_Situation_put_13 ?_
  refine lv_topi (fun z3 ez3 => ?_)
  have hok := hok z3 ez3
  refine lv_iload_n hx hb zd_Situation_put_14 rfl (lv_at hl 2 rfl) ?_
  refine va_iast (f := (B 30)) hx hb hK hw.1 hw.2.1 hw.2.2 44 0 wX_a44 rfl hok.1 zd_Situation_put_15 (fun H locs w91 w92 w93 => ?_)
  have hok := hok.2
  have hw := wX_t44 ⟨w91, w92, w93⟩
  refine lv_aload_n hx hb zd_Situation_put_16 rfl (lv_at hl 0 rfl) ?_
  refine z_get (v := .ref (ad 43)) hx hb hts hown hK hw zZ7 7 wX_g7 3 (by decide) zn_266 rfl zd_Situation_put_17 ?_
  refine lv_iload_n hx hb zd_Situation_put_20 rfl (lv_at hl 1 rfl) ?_
  refine lv_dup2_11 hx hb zd_Situation_put_21 rfl rfl ?_
  refine va_iald (f := (B 29)) hx hb hK hw.1 43 0 wX_a43 rfl hok.1 zd_Situation_put_22 ?_
  have hok := hok.2
  refine lv_topi (fun z4 ez4 => ?_)
  have hok := hok z4 ez4
  refine lv_iconst (v := 1) hx hb zd_Situation_put_23 (by decide) ?_
  refine lv_iadd hx hb zd_Situation_put_24 ?_
  refine lv_topi (fun z5 ez5 => ?_)
  have hok := hok z5 ez5
  refine va_iast (f := (B 29)) hx hb hK hw.1 hw.2.1 hw.2.2 43 0 wX_a43 rfl hok.1 zd_Situation_put_25 (fun H locs w91 w92 w93 => ?_)
  have hok := hok.2
  have hw := wX_t43 ⟨w91, w92, w93⟩
  exact (z_vret (u := (I, J, (va_up (va_up B 30 (upd (B 30) z3.toNatClampNeg a1)) 29 (upd (B 29) a0.toNatClampNeg z5)), D)) hx hb hr hlocks hw (List.range 65) wX_all wX_nd hok (Nat.le_of_ble_eq_true rfl) (Nat.le_of_ble_eq_true rfl) zd_Situation_put_26)
def wb_Situation_taken_21 (a0 : Int32) (K21 : Int32 → Int32 → Int32 → Int32 → (Nat → Int32) → (Nat → Int64) → (Nat → Nat → Int32) → (Nat → Nat → Int64) → Prop) (Post : Int32 → (Nat → Int32) → (Nat → Int64) → (Nat → Nat → Int32) → (Nat → Nat → Int64) → Prop) (x1 : Int32) (x3 : Int32) (x4 : Int32) (x5 : Int32) (I : Nat → Int32) (J : Nat → Int64) (B : Nat → Nat → Int32) (D : Nat → Nat → Int64) : Prop :=
  ((x3 ≤ x5 → vp_in x3 24 ∧ vp_in x1 8 ∧ ∀ z2 : Int32, z2 = ((B 29) x1.toNatClampNeg) → ∀ z3 : Int32, z3 = (z2 - 1) → vp_in x1 8 ∧ Post x4 I J (va_up (va_up B 30 (upd (B 30) x3.toNatClampNeg 0)) 29 (upd (B 29) x1.toNatClampNeg z3)) D) ∧ (¬ x3 ≤ x5 → ∀ z4 : Int32, z4 = (x5 + 1) → vp_in z4 24 ∧ ∀ z5 : Int32, z5 = ((B 30) z4.toNatClampNeg) → vp_in x5 24 ∧ ∀ z6 : Int32, z6 = (x5 + 1) → K21 x1 x3 x4 z6 I J (va_up B 30 (upd (B 30) x5.toNatClampNeg z5)) D))
def wl_Situation_taken_21 (a0 : Int32) (Post : Int32 → (Nat → Int32) → (Nat → Int64) → (Nat → Nat → Int32) → (Nat → Nat → Int64) → Prop) (n : Nat) : Int32 → Int32 → Int32 → Int32 → (Nat → Int32) → (Nat → Int64) → (Nat → Nat → Int32) → (Nat → Nat → Int64) → Prop := Nat.rec (fun _ _ _ _ _ _ _ _ => False) (fun _ r => wb_Situation_taken_21 a0 r Post) n
def wp_Situation_taken (I : Nat → Int32) (J : Nat → Int64) (B : Nat → Nat → Int32) (D : Nat → Nat → Int64) (a0 : Int32) (Post : Int32 → (Nat → Int32) → (Nat → Int64) → (Nat → Nat → Int32) → (Nat → Nat → Int64) → Prop) : Prop :=
  ∀ z7 : Int32, z7 = (a0 * 3) → ∀ z8 : Int32, z8 = (z7 + 3) → ∀ z9 : Int32, z9 = (z8 - 1) → vp_in z7 24 ∧ ∀ z10 : Int32, z10 = ((B 30) z7.toNatClampNeg) → ∃ n : Nat, wl_Situation_taken_21 a0 Post n a0 z9 z10 z7 I J B D
set_option maxHeartbeats 8000000 in
set_option maxRecDepth 100000 in
theorem wB_Situation_taken_21 {p : Program} {l : Launch} {e : Env} {s : State} {m : MethodId} {below : List Frame} {meth : Method} {c : Code} {A : Nat → Prop} (G : va_G) (K : Nat → ClassId) (ad : Nat → Nat) (sv : Value) (a0 : Int32) (Post : Int32 → (Nat → Int32) → (Nat → Int64) → (Nat → Nat → Int32) → (Nat → Nat → Int64) → Prop) (C : zCx p s m ([.ref (ad 7), .int a0] : List Value).toArray meth c A G K prog_8_method_13_code (some .int) 6 "LassoFinder$Situation") (K21 : Int32 → Int32 → Int32 → Int32 → (Nat → Int32) → (Nat → Int64) → (Nat → Nat → Int32) → (Nat → Nat → Int64) → Prop) (kh21 : ∀ (x1 : Int32) (x3 : Int32) (x4 : Int32) (x5 : Int32) (I : Nat → Int32) (J : Nat → Int64) (B : Nat → Nat → Int32) (D : Nat → Nat → Int64) (ls : Array Slot) (H : Heap) (locs : List Loc), K21 x1 x3 x4 x5 I J B D → lv_has ls 6 [(0, .ref (ad 7)), (1, .int x1), (3, .int x3), (4, .int x4), (5, .int x5)] → zW G A s.heap (wX ad K sv I J B D) H locs → W p l e { frames := 0, cells := 0, slots := 0, locals := 0 } s m ([.ref (ad 7), .int a0] : List Value).toArray below meth c H locs 0 0 (MQ below (va_Qi (fun (r : Int32) (u : zS) => Post r u.1 u.2.1 u.2.2.1 u.2.2.2) (fun u t => zPost G K A (wX ad K sv u.1 u.2.1 u.2.2.1 u.2.2.2) t) A) ([.ref (ad 7), .int a0] : List Value).toArray s 0 0 A) (F0 m 21 ls [])) : ∀ (x1 : Int32) (x3 : Int32) (x4 : Int32) (x5 : Int32) (I : Nat → Int32) (J : Nat → Int64) (B : Nat → Nat → Int32) (D : Nat → Nat → Int64) (ls : Array Slot) (H : Heap) (locs : List Loc), wb_Situation_taken_21 a0 K21 Post x1 x3 x4 x5 I J B D → lv_has ls 6 [(0, .ref (ad 7)), (1, .int x1), (3, .int x3), (4, .int x4), (5, .int x5)] → zW G A s.heap (wX ad K sv I J B D) H locs → W p l e { frames := 0, cells := 0, slots := 0, locals := 0 } s m ([.ref (ad 7), .int a0] : List Value).toArray below meth c H locs 0 0 (MQ below (va_Qi (fun (r : Int32) (u : zS) => Post r u.1 u.2.1 u.2.2.1 u.2.2.2) (fun u t => zPost G K A (wX ad K sv u.1 u.2.1 u.2.2.1 u.2.2.2) t) A) ([.ref (ad 7), .int a0] : List Value).toArray s 0 0 A) (F0 m 21 ls []) := by
  obtain ⟨hx, hb, hr, hml, hts, hown, hlocks, hA, hK⟩ := id C
  intro x1 x3 x4 x5 I J B D ls H locs hok hl hw
  unfold wb_Situation_taken_21 at hok
  refine lv_iload hx hb zd_Situation_taken_21 (lv_at hl 4 rfl) ?_
  refine lv_iload_n hx hb zd_Situation_taken_23 rfl (lv_at hl 2 rfl) ?_
  refine lv_icmp_ge (tgt := 49) hx hb zd_Situation_taken_24 (by decide) (fun hc1 => ?_) (fun hc1 => ?_)
  · have hok := hok.1 hc1
    refine lv_aload_n hx hb zd_Situation_taken_49 rfl (lv_at hl 0 rfl) ?_
    refine z_get (v := .ref (ad 44)) hx hb hts hown hK hw zZ7 7 wX_g7 4 (by decide) zn_267 rfl zd_Situation_taken_50 ?_
    refine lv_iload_n hx hb zd_Situation_taken_53 rfl (lv_at hl 2 rfl) ?_
    refine lv_iconst (v := 0) hx hb zd_Situation_taken_54 (by decide) ?_
    refine va_iast (f := (B 30)) hx hb hK hw.1 hw.2.1 hw.2.2 44 0 wX_a44 rfl hok.1 zd_Situation_taken_55 (fun H locs w91 w92 w93 => ?_)
    have hok := hok.2
    have hw := wX_t44 ⟨w91, w92, w93⟩
    refine lv_aload_n hx hb zd_Situation_taken_56 rfl (lv_at hl 0 rfl) ?_
    refine z_get (v := .ref (ad 43)) hx hb hts hown hK hw zZ7 7 wX_g7 3 (by decide) zn_266 rfl zd_Situation_taken_57 ?_
    refine lv_iload_n hx hb zd_Situation_taken_60 rfl (lv_at hl 1 rfl) ?_
    refine lv_dup2_11 hx hb zd_Situation_taken_61 rfl rfl ?_
    refine va_iald (f := (B 29)) hx hb hK hw.1 43 0 wX_a43 rfl hok.1 zd_Situation_taken_62 ?_
    have hok := hok.2
    refine lv_topi (fun z2 ez2 => ?_)
    have hok := hok z2 ez2
    refine lv_iconst (v := 1) hx hb zd_Situation_taken_63 (by decide) ?_
    refine lv_isub hx hb zd_Situation_taken_64 ?_
    refine lv_topi (fun z3 ez3 => ?_)
    have hok := hok z3 ez3
    refine va_iast (f := (B 29)) hx hb hK hw.1 hw.2.1 hw.2.2 43 0 wX_a43 rfl hok.1 zd_Situation_taken_65 (fun H locs w91 w92 w93 => ?_)
    have hok := hok.2
    have hw := wX_t43 ⟨w91, w92, w93⟩
    refine lv_iload hx hb zd_Situation_taken_66 (lv_at hl 3 rfl) ?_
    exact (z_iret (u := (I, J, (va_up (va_up B 30 (upd (B 30) x3.toNatClampNeg 0)) 29 (upd (B 29) x1.toNatClampNeg z3)), D)) hx hb hr hlocks rfl hw (List.range 65) wX_all wX_nd hok (Nat.le_of_ble_eq_true rfl) (Nat.le_of_ble_eq_true rfl) zd_Situation_taken_68)
  · have hok := hok.2 hc1
    refine lv_aload_n hx hb zd_Situation_taken_27 rfl (lv_at hl 0 rfl) ?_
    refine z_get (v := .ref (ad 44)) hx hb hts hown hK hw zZ7 7 wX_g7 4 (by decide) zn_267 rfl zd_Situation_taken_28 ?_
    refine lv_iload hx hb zd_Situation_taken_31 (lv_at hl 4 rfl) ?_
    refine lv_aload_n hx hb zd_Situation_taken_33 rfl (lv_at hl 0 rfl) ?_
    refine z_get (v := .ref (ad 44)) hx hb hts hown hK hw zZ7 7 wX_g7 4 (by decide) zn_267 rfl zd_Situation_taken_34 ?_
    refine lv_iload hx hb zd_Situation_taken_37 (lv_at hl 4 rfl) ?_
    refine lv_iconst (v := 1) hx hb zd_Situation_taken_39 (by decide) ?_
    refine lv_iadd hx hb zd_Situation_taken_40 ?_
    refine lv_topi (fun z4 ez4 => ?_)
    have hok := hok z4 ez4
    refine va_iald (f := (B 30)) hx hb hK hw.1 44 0 wX_a44 rfl hok.1 zd_Situation_taken_41 ?_
    have hok := hok.2
    refine lv_topi (fun z5 ez5 => ?_)
    have hok := hok z5 ez5
    refine va_iast (f := (B 30)) hx hb hK hw.1 hw.2.1 hw.2.2 44 0 wX_a44 rfl hok.1 zd_Situation_taken_42 (fun H locs w91 w92 w93 => ?_)
    have hok := hok.2
    have hw := wX_t44 ⟨w91, w92, w93⟩
    obtain ⟨z6, ez6⟩ : ∃ z : Int32, z = (x5 + 1) := ⟨_, rfl⟩
    have hok := hok z6 ez6
    refine lv_iinc (v := z6) hx hb zd_Situation_taken_43 hl (k := 4) rfl ez6.symm (by decide) rfl (fun ls hl => ?_)
    have hl : lv_has ls 6 [(5, .int z6), (0, .ref (ad 7)), (1, .int x1), (3, .int x3), (4, .int x4)] := hl
    refine lv_goto (tgt := 21) hx hb zd_Situation_taken_46 (by decide) ?_
    exact kh21 x1 x3 x4 z6 I J (va_up B 30 (upd (B 30) x5.toNatClampNeg z5)) D ls H locs hok (lv_sub hl [1, 2, 3, 4, 0] rfl) hw
theorem wL_Situation_taken_21 {p : Program} {l : Launch} {e : Env} {s : State} {m : MethodId} {below : List Frame} {meth : Method} {c : Code} {A : Nat → Prop} (G : va_G) (K : Nat → ClassId) (ad : Nat → Nat) (sv : Value) (a0 : Int32) (Post : Int32 → (Nat → Int32) → (Nat → Int64) → (Nat → Nat → Int32) → (Nat → Nat → Int64) → Prop) (C : zCx p s m ([.ref (ad 7), .int a0] : List Value).toArray meth c A G K prog_8_method_13_code (some .int) 6 "LassoFinder$Situation") : ∀ (n : Nat) (x1 : Int32) (x3 : Int32) (x4 : Int32) (x5 : Int32) (I : Nat → Int32) (J : Nat → Int64) (B : Nat → Nat → Int32) (D : Nat → Nat → Int64) (ls : Array Slot) (H : Heap) (locs : List Loc), wl_Situation_taken_21 a0 Post n x1 x3 x4 x5 I J B D → lv_has ls 6 [(0, .ref (ad 7)), (1, .int x1), (3, .int x3), (4, .int x4), (5, .int x5)] → zW G A s.heap (wX ad K sv I J B D) H locs → W p l e { frames := 0, cells := 0, slots := 0, locals := 0 } s m ([.ref (ad 7), .int a0] : List Value).toArray below meth c H locs 0 0 (MQ below (va_Qi (fun (r : Int32) (u : zS) => Post r u.1 u.2.1 u.2.2.1 u.2.2.2) (fun u t => zPost G K A (wX ad K sv u.1 u.2.1 u.2.2.1 u.2.2.2) t) A) ([.ref (ad 7), .int a0] : List Value).toArray s 0 0 A) (F0 m 21 ls []) := by
  intro n
  induction n with
  | zero => intro x1 x3 x4 x5 I J B D ls H locs hok; exact hok.elim
  | succ n ih => exact wB_Situation_taken_21 G K ad sv a0 Post C (wl_Situation_taken_21 a0 Post n) ih
set_option maxHeartbeats 8000000 in
set_option maxRecDepth 100000 in
theorem w_Situation_taken (l : Launch) (G : va_G) (K : Nat → ClassId) (ad : Nat → Nat) (sv : Value) (I : Nat → Int32) (J : Nat → Int64) (B : Nat → Nat → Int32) (D : Nat → Nat → Int64) (a0 : Int32) (Post : Int32 → (Nat → Int32) → (Nat → Int64) → (Nat → Nat → Int32) → (Nat → Nat → Int64) → Prop) (sz : Nat) (hok : wp_Situation_taken I J B D a0 Post) : Met l zy_Situation_taken (Cond.code zy_Situation_taken prog_8_method_13_code 6 (some .int) :: zTB) { frames := 0, cells := 0, slots := 0, locals := 0 } (va_Pc [.ref (ad 7), .int a0] (zPre G K (wX ad K sv I J B D) sz)) (va_Qi (fun (r : Int32) (u : zS) => Post r u.1 u.2.1 u.2.2.1 u.2.2.2) (fun u t => zPost G K (va_A (wX ad K sv I J B D) sz) (wX ad K sv u.1 u.2.1 u.2.2.1 u.2.2.2) t) (va_A (wX ad K sv I J B D) sz)) 0 0 (va_A (wX ad K sv I J B D) sz) := by
  refine zMet (y := zy_Situation_taken) (av := [.ref (ad 7), .int a0]) (maxL := 6) (cc := prog_8_method_13_code) (ret := (some .int)) (W0 := (wX ad K sv I J B D)) (sz := sz) (G := G) (K := K) (wt := zTB) (mc := 0) (ms := 0) (Qf := fun A => va_Qi (fun (r : Int32) (u : zS) => Post r u.1 u.2.1 u.2.2.1 u.2.2.2) (fun u t => zPost G K A (wX ad K sv u.1 u.2.1 u.2.2.1 u.2.2.2) t) A) (by decide) (Nat.le_of_ble_eq_true rfl) ?_
  intro p e s m below meth c ls A hx hb hr hml hts hown hlocks hin hA hK H locs hw hsz hl
  clear hsz
  have hown : s.vm.findClass "LassoFinder$Situation" = some m.cls := hown
  have C : zCx p s m ([.ref (ad 7), .int a0] : List Value).toArray meth c A G K prog_8_method_13_code (some .int) 6 "LassoFinder$Situation" := ⟨hx, hb, hr, hml, hts, hown, hlocks, hA, hK⟩
  have hl : lv_has ls 6 [(0, .ref (ad 7)), (1, .int a0)] := hl
  have hw : zW G A s.heap (wX ad K sv I J B D) H locs := hw
  unfold wp_Situation_taken at hok
  refine lv_iload_n hx hb zd_Situation_taken_0 rfl (lv_at hl 1 rfl) ?_
  refine lv_iconst (v := 3) hx hb zd_Situation_taken_1 (by decide) ?_
  refine lv_imul hx hb zd_Situation_taken_2 ?_
  refine lv_topi (fun z7 ez7 => ?_)
  have hok := hok z7 ez7
  refine lv_istore_n hx hb zd_Situation_taken_3 rfl hl (by decide) rfl (fun ls hl => ?_)
  have hl : lv_has ls 6 [(2, .int z7), (0, .ref (ad 7)), (1, .int a0)] := hl
  refine lv_iload_n hx hb zd_Situation_taken_4 rfl (lv_at hl 0 rfl) ?_
  refine lv_iconst (v := 3) hx hb zd_Situation_taken_5 (by decide) ?_
  refine lv_iadd hx hb zd_Situation_taken_6 ?_
  refine lv_topi (fun z8 ez8 => ?_)
  have hok := hok z8 ez8
  refine lv_iconst (v := 1) hx hb zd_Situation_taken_7 (by decide) ?_
  refine lv_isub hx hb zd_Situation_taken_8 ?_
  refine lv_topi (fun z9 ez9 => ?_)
  have hok := hok z9 ez9
  refine lv_istore_n hx hb zd_Situation_taken_9 rfl hl (by decide) rfl (fun ls hl => ?_)
  have hl : lv_has ls 6 [(3, .int z9), (2, .int z7), (0, .ref (ad 7)), (1, .int a0)] := hl
  refine lv_aload_n hx hb zd_Situation_taken_10 rfl (lv_at hl 2 rfl) ?_
  refine z_get (v := .ref (ad 44)) hx hb hts hown hK hw zZ7 7 wX_g7 4 (by decide) zn_267 rfl zd_Situation_taken_11 ?_
  refine lv_iload_n hx hb zd_Situation_taken_14 rfl (lv_at hl 1 rfl) ?_
  refine va_iald (f := (B 30)) hx hb hK hw.1 44 0 wX_a44 rfl hok.1 zd_Situation_taken_15 ?_
  have hok := hok.2
  refine lv_topi (fun z10 ez10 => ?_)
  have hok := hok z10 ez10
  refine lv_istore hx hb zd_Situation_taken_16 hl (by decide) rfl (fun ls hl => ?_)
  have hl : lv_has ls 6 [(4, .int z10), (3, .int z9), (2, .int z7), (0, .ref (ad 7)), (1, .int a0)] := hl
  refine lv_iload_n hx hb zd_Situation_taken_18 rfl (lv_at hl 2 rfl) ?_
  refine lv_istore hx hb zd_Situation_taken_19 hl (by decide) rfl (fun ls hl => ?_)
  have hl : lv_has ls 6 [(5, .int z7), (4, .int z10), (3, .int z9), (2, .int z7), (0, .ref (ad 7)), (1, .int a0)] := hl
  obtain ⟨n9, hok⟩ := hok
  exact wL_Situation_taken_21 G K ad sv a0 Post C n9 a0 z9 z10 z7 I J B D ls H locs hok (lv_sub hl [4, 5, 2, 1, 0] rfl) hw
def wc_Terms_joined_42 (a0 : Int32) (a1 : Int32) (a2 : Int32) (Post : Int32 → (Nat → Int32) → (Nat → Int64) → (Nat → Nat → Int32) → (Nat → Nat → Int64) → Prop) (y0 : Int32) (I : Nat → Int32) (J : Nat → Int64) (B : Nat → Nat → Int32) (D : Nat → Nat → Int64) : Prop :=
  Post y0 I J B D
def wc_Terms_joined_53 (a0 : Int32) (a1 : Int32) (a2 : Int32) (Post : Int32 → (Nat → Int32) → (Nat → Int64) → (Nat → Nat → Int32) → (Nat → Nat → Int64) → Prop) (y0 : Int32) (I : Nat → Int32) (J : Nat → Int64) (B : Nat → Nat → Int32) (D : Nat → Nat → Int64) : Prop :=
  Post y0 I J B D
def wp_Terms_joined (I : Nat → Int32) (J : Nat → Int64) (B : Nat → Nat → Int32) (D : Nat → Nat → Int64) (a0 : Int32) (a1 : Int32) (a2 : Int32) (Post : Int32 → (Nat → Int32) → (Nat → Int64) → (Nat → Nat → Int32) → (Nat → Nat → Int64) → Prop) : Prop :=
  ((a0 = 16 → ((¬ a1 = a2 → wc_Terms_joined_42 a0 a1 a2 Post 0 I J B D) ∧ (a1 = a2 → wc_Terms_joined_42 a0 a1 a2 Post 1 I J B D))) ∧ (a0 = 17 → ((a2 ≤ a1 → wc_Terms_joined_53 a0 a1 a2 Post 0 I J B D) ∧ (¬ a2 ≤ a1 → wc_Terms_joined_53 a0 a1 a2 Post 1 I J B D))) ∧ (a0 = 18 → ∀ z6 : Int32, z6 = (a1 + a2) → ∀ z7 : Int32, z7 = (z6 &&& 7) → Post z7 I J B D) ∧ (a0 = 19 → ∀ z9 : Int32, z9 = (a1 - a2) → ∀ z10 : Int32, z10 = (z9 &&& 7) → Post z10 I J B D) ∧ (¬ a0 = 16 → ¬ a0 = 17 → ¬ a0 = 18 → ¬ a0 = 19 → ∀ z11 : Int32, z11 = (a1 * a2) → ∀ z12 : Int32, z12 = (z11 &&& 7) → Post z12 I J B D))
set_option maxHeartbeats 8000000 in
set_option maxRecDepth 100000 in
theorem wJ_Terms_joined_42 {p : Program} {l : Launch} {e : Env} {s : State} {m : MethodId} {below : List Frame} {meth : Method} {c : Code} {A : Nat → Prop} (G : va_G) (K : Nat → ClassId) (ad : Nat → Nat) (sv : Value) (a0 : Int32) (a1 : Int32) (a2 : Int32) (Post : Int32 → (Nat → Int32) → (Nat → Int64) → (Nat → Nat → Int32) → (Nat → Nat → Int64) → Prop) (C : zCx p s m ([.int a0, .int a1, .int a2] : List Value).toArray meth c A G K prog_9_method_13_code (some .int) 3 "LassoFinder$Terms") : ∀ (y0 : Int32) (I : Nat → Int32) (J : Nat → Int64) (B : Nat → Nat → Int32) (D : Nat → Nat → Int64) (ls : Array Slot) (H : Heap) (locs : List Loc), wc_Terms_joined_42 a0 a1 a2 Post y0 I J B D → lv_has ls 3 [] → zW G A s.heap (wX ad K sv I J B D) H locs → W p l e { frames := 0, cells := 0, slots := 0, locals := 0 } s m ([.int a0, .int a1, .int a2] : List Value).toArray below meth c H locs 0 0 (MQ below (va_Qi (fun (r : Int32) (u : zS) => Post r u.1 u.2.1 u.2.2.1 u.2.2.2) (fun u t => zPost G K A (wX ad K sv u.1 u.2.1 u.2.2.1 u.2.2.2) t) A) ([.int a0, .int a1, .int a2] : List Value).toArray s 0 0 A) (F0 m 42 ls [.int y0]) := by
  obtain ⟨hx, hb, hr, hml, hts, hown, hlocks, hA, hK⟩ := id C
  intro y0 I J B D ls H locs hok hl hw
  unfold wc_Terms_joined_42 at hok
  exact (z_iret (u := (I, J, B, D)) hx hb hr hlocks rfl hw (List.range 65) wX_all wX_nd hok (Nat.le_of_ble_eq_true rfl) (Nat.le_of_ble_eq_true rfl) zd_Terms_joined_42)
set_option maxHeartbeats 8000000 in
set_option maxRecDepth 100000 in
theorem wJ_Terms_joined_53 {p : Program} {l : Launch} {e : Env} {s : State} {m : MethodId} {below : List Frame} {meth : Method} {c : Code} {A : Nat → Prop} (G : va_G) (K : Nat → ClassId) (ad : Nat → Nat) (sv : Value) (a0 : Int32) (a1 : Int32) (a2 : Int32) (Post : Int32 → (Nat → Int32) → (Nat → Int64) → (Nat → Nat → Int32) → (Nat → Nat → Int64) → Prop) (C : zCx p s m ([.int a0, .int a1, .int a2] : List Value).toArray meth c A G K prog_9_method_13_code (some .int) 3 "LassoFinder$Terms") : ∀ (y0 : Int32) (I : Nat → Int32) (J : Nat → Int64) (B : Nat → Nat → Int32) (D : Nat → Nat → Int64) (ls : Array Slot) (H : Heap) (locs : List Loc), wc_Terms_joined_53 a0 a1 a2 Post y0 I J B D → lv_has ls 3 [] → zW G A s.heap (wX ad K sv I J B D) H locs → W p l e { frames := 0, cells := 0, slots := 0, locals := 0 } s m ([.int a0, .int a1, .int a2] : List Value).toArray below meth c H locs 0 0 (MQ below (va_Qi (fun (r : Int32) (u : zS) => Post r u.1 u.2.1 u.2.2.1 u.2.2.2) (fun u t => zPost G K A (wX ad K sv u.1 u.2.1 u.2.2.1 u.2.2.2) t) A) ([.int a0, .int a1, .int a2] : List Value).toArray s 0 0 A) (F0 m 53 ls [.int y0]) := by
  obtain ⟨hx, hb, hr, hml, hts, hown, hlocks, hA, hK⟩ := id C
  intro y0 I J B D ls H locs hok hl hw
  unfold wc_Terms_joined_53 at hok
  exact (z_iret (u := (I, J, B, D)) hx hb hr hlocks rfl hw (List.range 65) wX_all wX_nd hok (Nat.le_of_ble_eq_true rfl) (Nat.le_of_ble_eq_true rfl) zd_Terms_joined_53)
set_option maxHeartbeats 8000000 in
set_option maxRecDepth 100000 in
theorem w_Terms_joined (l : Launch) (G : va_G) (K : Nat → ClassId) (ad : Nat → Nat) (sv : Value) (I : Nat → Int32) (J : Nat → Int64) (B : Nat → Nat → Int32) (D : Nat → Nat → Int64) (a0 : Int32) (a1 : Int32) (a2 : Int32) (Post : Int32 → (Nat → Int32) → (Nat → Int64) → (Nat → Nat → Int32) → (Nat → Nat → Int64) → Prop) (sz : Nat) (hok : wp_Terms_joined I J B D a0 a1 a2 Post) : Met l zy_Terms_joined (Cond.code zy_Terms_joined prog_9_method_13_code 3 (some .int) :: zTB) { frames := 0, cells := 0, slots := 0, locals := 0 } (va_Pc [.int a0, .int a1, .int a2] (zPre G K (wX ad K sv I J B D) sz)) (va_Qi (fun (r : Int32) (u : zS) => Post r u.1 u.2.1 u.2.2.1 u.2.2.2) (fun u t => zPost G K (va_A (wX ad K sv I J B D) sz) (wX ad K sv u.1 u.2.1 u.2.2.1 u.2.2.2) t) (va_A (wX ad K sv I J B D) sz)) 0 0 (va_A (wX ad K sv I J B D) sz) := by
  refine zMet (y := zy_Terms_joined) (av := [.int a0, .int a1, .int a2]) (maxL := 3) (cc := prog_9_method_13_code) (ret := (some .int)) (W0 := (wX ad K sv I J B D)) (sz := sz) (G := G) (K := K) (wt := zTB) (mc := 0) (ms := 0) (Qf := fun A => va_Qi (fun (r : Int32) (u : zS) => Post r u.1 u.2.1 u.2.2.1 u.2.2.2) (fun u t => zPost G K A (wX ad K sv u.1 u.2.1 u.2.2.1 u.2.2.2) t) A) (by decide) (Nat.le_of_ble_eq_true rfl) ?_
  intro p e s m below meth c ls A hx hb hr hml hts hown hlocks hin hA hK H locs hw hsz hl
  clear hsz
  have hown : s.vm.findClass "LassoFinder$Terms" = some m.cls := hown
  have C : zCx p s m ([.int a0, .int a1, .int a2] : List Value).toArray meth c A G K prog_9_method_13_code (some .int) 3 "LassoFinder$Terms" := ⟨hx, hb, hr, hml, hts, hown, hlocks, hA, hK⟩
  have hl : lv_has ls 3 [(0, .int a0), (1, .int a1), (2, .int a2)] := hl
  have hw : zW G A s.heap (wX ad K sv I J B D) H locs := hw
  unfold wp_Terms_joined at hok
  refine lv_iload_n hx hb zd_Terms_joined_0 rfl (lv_at hl 0 rfl) ?_
  by_cases hs1 : a0 = 16
  · have hok := hok.1 hs1
    refine lv_tableIn (off := 31) (tgt := 32) hx hb zd_Terms_joined_1 (by rw [hs1]; decide) (by rw [hs1]; decide) (by rw [hs1]; decide) (by decide) ?_
    refine lv_iload_n hx hb zd_Terms_joined_32 rfl (lv_at hl 1 rfl) ?_
    refine lv_iload_n hx hb zd_Terms_joined_33 rfl (lv_at hl 2 rfl) ?_
    refine lv_icmp_ne (tgt := 41) hx hb zd_Terms_joined_34 (by decide) (fun hc2 => ?_) (fun hc2 => ?_)
    · have hok := hok.1 hc2
      refine lv_iconst (v := 0) hx hb zd_Terms_joined_41 (by decide) ?_
      exact wJ_Terms_joined_42 G K ad sv a0 a1 a2 Post C 0 I J B D ls H locs hok (lv_sub hl [] rfl) hw
    · have hok := hok.2 hc2
      refine lv_iconst (v := 1) hx hb zd_Terms_joined_37 (by decide) ?_
      refine lv_goto (tgt := 42) hx hb zd_Terms_joined_38 (by decide) ?_
      exact wJ_Terms_joined_42 G K ad sv a0 a1 a2 Post C 1 I J B D ls H locs hok (lv_sub hl [] rfl) hw
  by_cases hs3 : a0 = 17
  · have hok := hok.2.1 hs3
    refine lv_tableIn (off := 42) (tgt := 43) hx hb zd_Terms_joined_1 (by rw [hs3]; decide) (by rw [hs3]; decide) (by rw [hs3]; decide) (by decide) ?_
    refine lv_iload_n hx hb zd_Terms_joined_43 rfl (lv_at hl 1 rfl) ?_
    refine lv_iload_n hx hb zd_Terms_joined_44 rfl (lv_at hl 2 rfl) ?_
    refine lv_icmp_ge (tgt := 52) hx hb zd_Terms_joined_45 (by decide) (fun hc4 => ?_) (fun hc4 => ?_)
    · have hok := hok.1 hc4
      refine lv_iconst (v := 0) hx hb zd_Terms_joined_52 (by decide) ?_
      exact wJ_Terms_joined_53 G K ad sv a0 a1 a2 Post C 0 I J B D ls H locs hok (lv_sub hl [] rfl) hw
    · have hok := hok.2 hc4
      refine lv_iconst (v := 1) hx hb zd_Terms_joined_48 (by decide) ?_
      refine lv_goto (tgt := 53) hx hb zd_Terms_joined_49 (by decide) ?_
      exact wJ_Terms_joined_53 G K ad sv a0 a1 a2 Post C 1 I J B D ls H locs hok (lv_sub hl [] rfl) hw
  by_cases hs5 : a0 = 18
  · have hok := hok.2.2.1 hs5
    refine lv_tableIn (off := 53) (tgt := 54) hx hb zd_Terms_joined_1 (by rw [hs5]; decide) (by rw [hs5]; decide) (by rw [hs5]; decide) (by decide) ?_
    refine lv_iload_n hx hb zd_Terms_joined_54 rfl (lv_at hl 1 rfl) ?_
    refine lv_iload_n hx hb zd_Terms_joined_55 rfl (lv_at hl 2 rfl) ?_
    refine lv_iadd hx hb zd_Terms_joined_56 ?_
    refine lv_topi (fun z6 ez6 => ?_)
    have hok := hok z6 ez6
    refine lv_bipush (v := 7) hx hb zd_Terms_joined_57 (by decide) ?_
    refine lv_iand hx hb zd_Terms_joined_59 ?_
    refine lv_topi (fun z7 ez7 => ?_)
    have hok := hok z7 ez7
    exact (z_iret (u := (I, J, B, D)) hx hb hr hlocks rfl hw (List.range 65) wX_all wX_nd hok (Nat.le_of_ble_eq_true rfl) (Nat.le_of_ble_eq_true rfl) zd_Terms_joined_60)
  by_cases hs8 : a0 = 19
  · have hok := hok.2.2.2.1 hs8
    refine lv_tableIn (off := 60) (tgt := 61) hx hb zd_Terms_joined_1 (by rw [hs8]; decide) (by rw [hs8]; decide) (by rw [hs8]; decide) (by decide) ?_
    refine lv_iload_n hx hb zd_Terms_joined_61 rfl (lv_at hl 1 rfl) ?_
    refine lv_iload_n hx hb zd_Terms_joined_62 rfl (lv_at hl 2 rfl) ?_
    refine lv_isub hx hb zd_Terms_joined_63 ?_
    refine lv_topi (fun z9 ez9 => ?_)
    have hok := hok z9 ez9
    refine lv_bipush (v := 7) hx hb zd_Terms_joined_64 (by decide) ?_
    refine lv_iand hx hb zd_Terms_joined_66 ?_
    refine lv_topi (fun z10 ez10 => ?_)
    have hok := hok z10 ez10
    exact (z_iret (u := (I, J, B, D)) hx hb hr hlocks rfl hw (List.range 65) wX_all wX_nd hok (Nat.le_of_ble_eq_true rfl) (Nat.le_of_ble_eq_true rfl) zd_Terms_joined_67)
  have hok := hok.2.2.2.2 hs1 hs3 hs5 hs8
  refine lv_tableOut (tgt := 68) hx hb zd_Terms_joined_1 (by have h0 := lv_neT hs1 (a := 16) (by decide); have h1 := lv_neT hs3 (a := 17) (by decide); have h2 := lv_neT hs5 (a := 18) (by decide); have h3 := lv_neT hs8 (a := 19) (by decide); omega) (by decide) ?_
  refine lv_iload_n hx hb zd_Terms_joined_68 rfl (lv_at hl 1 rfl) ?_
  refine lv_iload_n hx hb zd_Terms_joined_69 rfl (lv_at hl 2 rfl) ?_
  refine lv_imul hx hb zd_Terms_joined_70 ?_
  refine lv_topi (fun z11 ez11 => ?_)
  have hok := hok z11 ez11
  refine lv_bipush (v := 7) hx hb zd_Terms_joined_71 (by decide) ?_
  refine lv_iand hx hb zd_Terms_joined_73 ?_
  refine lv_topi (fun z12 ez12 => ?_)
  have hok := hok z12 ez12
  exact (z_iret (u := (I, J, B, D)) hx hb hr hlocks rfl hw (List.range 65) wX_all wX_nd hok (Nat.le_of_ble_eq_true rfl) (Nat.le_of_ble_eq_true rfl) zd_Terms_joined_74)
def wc_Terms_reckon_ad43_A_109 (a0 : Int32) (Post : Int32 → (Nat → Int32) → (Nat → Int64) → (Nat → Nat → Int32) → (Nat → Nat → Int64) → Prop)  (I : Nat → Int32) (J : Nat → Int64) (B : Nat → Nat → Int32) (D : Nat → Nat → Int64) : Prop :=
  vp_in 0 13 ∧ ∀ z1 : Int32, z1 = ((B 17) (0 : Int32).toNatClampNeg) → Post z1 I J B D
def wc_Terms_reckon_ad43_A_103 (a0 : Int32) (K5 : Int32 → Int32 → (Nat → Int32) → (Nat → Int64) → (Nat → Nat → Int32) → (Nat → Nat → Int64) → Prop) (Post : Int32 → (Nat → Int32) → (Nat → Int64) → (Nat → Nat → Int32) → (Nat → Nat → Int64) → Prop) (x3 : Int32) (x4 : Int32) (I : Nat → Int32) (J : Nat → Int64) (B : Nat → Nat → Int32) (D : Nat → Nat → Int64) : Prop :=
  ∀ z2 : Int32, z2 = (x4 + 1) → K5 x3 z2 I J B D
def wc_Terms_reckon_ad43_A_99 (a0 : Int32) (K5 : Int32 → Int32 → (Nat → Int32) → (Nat → Int64) → (Nat → Nat → Int32) → (Nat → Nat → Int64) → Prop) (Post : Int32 → (Nat → Int32) → (Nat → Int64) → (Nat → Nat → Int32) → (Nat → Nat → Int64) → Prop) (x3 : Int32) (x4 : Int32) (y0 : Int32) (y1 : Int32) (I : Nat → Int32) (J : Nat → Int64) (B : Nat → Nat → Int32) (D : Nat → Nat → Int64) : Prop :=
  vp_in y1 13 ∧ ∀ z3 : Int32, z3 = (x3 + 1) → wc_Terms_reckon_ad43_A_103 a0 K5 Post z3 x4 I J (va_up B 17 (upd (B 17) y1.toNatClampNeg y0)) D
def wb_Terms_reckon_ad43_A_5 (a0 : Int32) (K5 : Int32 → Int32 → (Nat → Int32) → (Nat → Int64) → (Nat → Nat → Int32) → (Nat → Nat → Int64) → Prop) (Post : Int32 → (Nat → Int32) → (Nat → Int64) → (Nat → Nat → Int32) → (Nat → Nat → Int64) → Prop) (x3 : Int32) (x4 : Int32) (I : Nat → Int32) (J : Nat → Int64) (B : Nat → Nat → Int32) (D : Nat → Nat → Int64) : Prop :=
  (((I 11) ≤ x4 → wc_Terms_reckon_ad43_A_109 a0 Post I J B D) ∧ (¬ (I 11) ≤ x4 → vp_in x4 480 ∧ ∀ z5 : Int32, z5 = ((B 15) x4.toNatClampNeg) → ((z5 = 22 → wc_Terms_reckon_ad43_A_109 a0 Post I J B D) ∧ (¬ z5 = 22 → vp_in x4 480 ∧ ∀ z7 : Int32, z7 = ((B 15) x4.toNatClampNeg) → ((z7 < 16 → ((z7 < 8 → wc_Terms_reckon_ad43_A_99 a0 K5 Post x3 x4 z7 x3 I J B D) ∧ (¬ z7 < 8 → ∀ z10 : Int32, z10 = (z7 - 8) → vp_in z10 8 ∧ ∀ z11 : Int32, z11 = ((B 29) z10.toNatClampNeg) → wc_Terms_reckon_ad43_A_99 a0 K5 Post x3 x4 z11 x3 I J B D))) ∧ (¬ z7 < 16 → ∀ z12 : Int32, z12 = (x3 + (-1)) → ∀ z13 : Int32, z13 = (z12 - 1) → ∀ z14 : Int32, z14 = (z12 - 1) → vp_in z14 13 ∧ ∀ z15 : Int32, z15 = ((B 17) z14.toNatClampNeg) → vp_in z12 13 ∧ ∀ z16 : Int32, z16 = ((B 17) z12.toNatClampNeg) → wp_Terms_joined I J B D z7 z15 z16 (fun r17 I17 J17 B17 D17 => vp_in z13 13 ∧ wc_Terms_reckon_ad43_A_103 a0 K5 Post z12 x4 I17 J17 (va_up B17 17 (upd (B17 17) z13.toNatClampNeg r17)) D17)))))))
def wl_Terms_reckon_ad43_A_5 (a0 : Int32) (Post : Int32 → (Nat → Int32) → (Nat → Int64) → (Nat → Nat → Int32) → (Nat → Nat → Int64) → Prop) (n : Nat) : Int32 → Int32 → (Nat → Int32) → (Nat → Int64) → (Nat → Nat → Int32) → (Nat → Nat → Int64) → Prop := Nat.rec (fun _ _ _ _ _ _ => False) (fun _ r => wb_Terms_reckon_ad43_A_5 a0 r Post) n
def wp_Terms_reckon_ad43_A (I : Nat → Int32) (J : Nat → Int64) (B : Nat → Nat → Int32) (D : Nat → Nat → Int64) (a0 : Int32) (Post : Int32 → (Nat → Int32) → (Nat → Int64) → (Nat → Nat → Int32) → (Nat → Nat → Int64) → Prop) : Prop :=
  ∃ n : Nat, wl_Terms_reckon_ad43_A_5 a0 Post n 0 a0 I J B D
set_option maxHeartbeats 8000000 in
set_option maxRecDepth 100000 in
theorem wJ_Terms_reckon_ad43_A_109 {p : Program} {l : Launch} {e : Env} {s : State} {m : MethodId} {below : List Frame} {meth : Method} {c : Code} {A : Nat → Prop} (G : va_G) (K : Nat → ClassId) (ad : Nat → Nat) (sv : Value) (a0 : Int32) (Post : Int32 → (Nat → Int32) → (Nat → Int64) → (Nat → Nat → Int32) → (Nat → Nat → Int64) → Prop) (C : zCx p s m ([.ref (ad 4), .int a0, .ref (ad 43)] : List Value).toArray meth c A G K prog_9_method_12_code (some .int) 6 "LassoFinder$Terms") : ∀  (I : Nat → Int32) (J : Nat → Int64) (B : Nat → Nat → Int32) (D : Nat → Nat → Int64) (ls : Array Slot) (H : Heap) (locs : List Loc), wc_Terms_reckon_ad43_A_109 a0 Post  I J B D → lv_has ls 6 [(0, .ref (ad 4))] → zW G A s.heap (wX ad K sv I J B D) H locs → W p l e { frames := 1, cells := 0, slots := 0, locals := 22 } s m ([.ref (ad 4), .int a0, .ref (ad 43)] : List Value).toArray below meth c H locs 0 0 (MQ below (va_Qi (fun (r : Int32) (u : zS) => Post r u.1 u.2.1 u.2.2.1 u.2.2.2) (fun u t => zPost G K A (wX ad K sv u.1 u.2.1 u.2.2.1 u.2.2.2) t) A) ([.ref (ad 4), .int a0, .ref (ad 43)] : List Value).toArray s 0 0 A) (F0 m 109 ls []) := by
  obtain ⟨hx, hb, hr, hml, hts, hown, hlocks, hA, hK⟩ := id C
  intro  I J B D ls H locs hok hl hw
  unfold wc_Terms_reckon_ad43_A_109 at hok
  refine lv_aload_n hx hb zd_Terms_reckon_109 rfl (lv_at hl 0 rfl) ?_
  refine z_get (v := .ref (ad 31)) hx hb hts hown hK hw zZ8 4 wX_g4 6 (by decide) zn_254 rfl zd_Terms_reckon_110 ?_
  refine lv_iconst (v := 0) hx hb zd_Terms_reckon_113 (by decide) ?_
  refine va_iald (f := (B 17)) hx hb hK hw.1 31 0 wX_a31 rfl hok.1 zd_Terms_reckon_114 ?_
  have hok := hok.2
  refine lv_topi (fun z1 ez1 => ?_)
  have hok := hok z1 ez1
  exact (z_iret (u := (I, J, B, D)) hx hb hr hlocks rfl hw (List.range 65) wX_all wX_nd hok (Nat.le_of_ble_eq_true rfl) (Nat.le_of_ble_eq_true rfl) zd_Terms_reckon_115)
set_option maxHeartbeats 8000000 in
set_option maxRecDepth 100000 in
theorem wJ_Terms_reckon_ad43_A_103 {p : Program} {l : Launch} {e : Env} {s : State} {m : MethodId} {below : List Frame} {meth : Method} {c : Code} {A : Nat → Prop} (G : va_G) (K : Nat → ClassId) (ad : Nat → Nat) (sv : Value) (a0 : Int32) (Post : Int32 → (Nat → Int32) → (Nat → Int64) → (Nat → Nat → Int32) → (Nat → Nat → Int64) → Prop) (C : zCx p s m ([.ref (ad 4), .int a0, .ref (ad 43)] : List Value).toArray meth c A G K prog_9_method_12_code (some .int) 6 "LassoFinder$Terms") (K5 : Int32 → Int32 → (Nat → Int32) → (Nat → Int64) → (Nat → Nat → Int32) → (Nat → Nat → Int64) → Prop) (kh5 : ∀ (x3 : Int32) (x4 : Int32) (I : Nat → Int32) (J : Nat → Int64) (B : Nat → Nat → Int32) (D : Nat → Nat → Int64) (ls : Array Slot) (H : Heap) (locs : List Loc), K5 x3 x4 I J B D → lv_has ls 6 [(0, .ref (ad 4)), (2, .ref (ad 43)), (3, .int x3), (4, .int x4)] → zW G A s.heap (wX ad K sv I J B D) H locs → W p l e { frames := 1, cells := 0, slots := 0, locals := 22 } s m ([.ref (ad 4), .int a0, .ref (ad 43)] : List Value).toArray below meth c H locs 0 0 (MQ below (va_Qi (fun (r : Int32) (u : zS) => Post r u.1 u.2.1 u.2.2.1 u.2.2.2) (fun u t => zPost G K A (wX ad K sv u.1 u.2.1 u.2.2.1 u.2.2.2) t) A) ([.ref (ad 4), .int a0, .ref (ad 43)] : List Value).toArray s 0 0 A) (F0 m 5 ls [])) : ∀ (x3 : Int32) (x4 : Int32) (I : Nat → Int32) (J : Nat → Int64) (B : Nat → Nat → Int32) (D : Nat → Nat → Int64) (ls : Array Slot) (H : Heap) (locs : List Loc), wc_Terms_reckon_ad43_A_103 a0 K5 Post x3 x4 I J B D → lv_has ls 6 [(0, .ref (ad 4)), (2, .ref (ad 43)), (3, .int x3), (4, .int x4)] → zW G A s.heap (wX ad K sv I J B D) H locs → W p l e { frames := 1, cells := 0, slots := 0, locals := 22 } s m ([.ref (ad 4), .int a0, .ref (ad 43)] : List Value).toArray below meth c H locs 0 0 (MQ below (va_Qi (fun (r : Int32) (u : zS) => Post r u.1 u.2.1 u.2.2.1 u.2.2.2) (fun u t => zPost G K A (wX ad K sv u.1 u.2.1 u.2.2.1 u.2.2.2) t) A) ([.ref (ad 4), .int a0, .ref (ad 43)] : List Value).toArray s 0 0 A) (F0 m 103 ls []) := by
  obtain ⟨hx, hb, hr, hml, hts, hown, hlocks, hA, hK⟩ := id C
  intro x3 x4 I J B D ls H locs hok hl hw
  unfold wc_Terms_reckon_ad43_A_103 at hok
  obtain ⟨z2, ez2⟩ : ∃ z : Int32, z = (x4 + 1) := ⟨_, rfl⟩
  have hok := hok z2 ez2
  refine lv_iinc (v := z2) hx hb zd_Terms_reckon_103 hl (k := 3) rfl ez2.symm (by decide) rfl (fun ls hl => ?_)
  have hl : lv_has ls 6 [(4, .int z2), (0, .ref (ad 4)), (2, .ref (ad 43)), (3, .int x3)] := hl
  refine lv_goto (tgt := 5) hx hb zd_Terms_reckon_106 (by decide) ?_
  exact kh5 x3 z2 I J B D ls H locs hok (lv_sub hl [1, 2, 3, 0] rfl) hw
set_option maxHeartbeats 8000000 in
set_option maxRecDepth 100000 in
theorem wJ_Terms_reckon_ad43_A_99 {p : Program} {l : Launch} {e : Env} {s : State} {m : MethodId} {below : List Frame} {meth : Method} {c : Code} {A : Nat → Prop} (G : va_G) (K : Nat → ClassId) (ad : Nat → Nat) (sv : Value) (a0 : Int32) (Post : Int32 → (Nat → Int32) → (Nat → Int64) → (Nat → Nat → Int32) → (Nat → Nat → Int64) → Prop) (C : zCx p s m ([.ref (ad 4), .int a0, .ref (ad 43)] : List Value).toArray meth c A G K prog_9_method_12_code (some .int) 6 "LassoFinder$Terms") (K5 : Int32 → Int32 → (Nat → Int32) → (Nat → Int64) → (Nat → Nat → Int32) → (Nat → Nat → Int64) → Prop) (kh5 : ∀ (x3 : Int32) (x4 : Int32) (I : Nat → Int32) (J : Nat → Int64) (B : Nat → Nat → Int32) (D : Nat → Nat → Int64) (ls : Array Slot) (H : Heap) (locs : List Loc), K5 x3 x4 I J B D → lv_has ls 6 [(0, .ref (ad 4)), (2, .ref (ad 43)), (3, .int x3), (4, .int x4)] → zW G A s.heap (wX ad K sv I J B D) H locs → W p l e { frames := 1, cells := 0, slots := 0, locals := 22 } s m ([.ref (ad 4), .int a0, .ref (ad 43)] : List Value).toArray below meth c H locs 0 0 (MQ below (va_Qi (fun (r : Int32) (u : zS) => Post r u.1 u.2.1 u.2.2.1 u.2.2.2) (fun u t => zPost G K A (wX ad K sv u.1 u.2.1 u.2.2.1 u.2.2.2) t) A) ([.ref (ad 4), .int a0, .ref (ad 43)] : List Value).toArray s 0 0 A) (F0 m 5 ls [])) : ∀ (x3 : Int32) (x4 : Int32) (y0 : Int32) (y1 : Int32) (I : Nat → Int32) (J : Nat → Int64) (B : Nat → Nat → Int32) (D : Nat → Nat → Int64) (ls : Array Slot) (H : Heap) (locs : List Loc), wc_Terms_reckon_ad43_A_99 a0 K5 Post x3 x4 y0 y1 I J B D → lv_has ls 6 [(0, .ref (ad 4)), (2, .ref (ad 43)), (3, .int x3), (4, .int x4)] → zW G A s.heap (wX ad K sv I J B D) H locs → W p l e { frames := 1, cells := 0, slots := 0, locals := 22 } s m ([.ref (ad 4), .int a0, .ref (ad 43)] : List Value).toArray below meth c H locs 0 0 (MQ below (va_Qi (fun (r : Int32) (u : zS) => Post r u.1 u.2.1 u.2.2.1 u.2.2.2) (fun u t => zPost G K A (wX ad K sv u.1 u.2.1 u.2.2.1 u.2.2.2) t) A) ([.ref (ad 4), .int a0, .ref (ad 43)] : List Value).toArray s 0 0 A) (F0 m 99 ls [.int y0, .int y1, .ref (ad 31)]) := by
  obtain ⟨hx, hb, hr, hml, hts, hown, hlocks, hA, hK⟩ := id C
  intro x3 x4 y0 y1 I J B D ls H locs hok hl hw
  unfold wc_Terms_reckon_ad43_A_99 at hok
  refine va_iast (f := (B 17)) hx hb hK hw.1 hw.2.1 hw.2.2 31 0 wX_a31 rfl hok.1 zd_Terms_reckon_99 (fun H locs w91 w92 w93 => ?_)
  have hok := hok.2
  have hw := wX_t31 ⟨w91, w92, w93⟩
  obtain ⟨z3, ez3⟩ : ∃ z : Int32, z = (x3 + 1) := ⟨_, rfl⟩
  have hok := hok z3 ez3
  refine lv_iinc (v := z3) hx hb zd_Terms_reckon_100 hl (k := 2) rfl ez3.symm (by decide) rfl (fun ls hl => ?_)
  have hl : lv_has ls 6 [(3, .int z3), (0, .ref (ad 4)), (2, .ref (ad 43)), (4, .int x4)] := hl
  exact wJ_Terms_reckon_ad43_A_103 G K ad sv a0 Post C K5 kh5 z3 x4 I J (va_up B 17 (upd (B 17) y1.toNatClampNeg y0)) D ls H locs hok (lv_sub hl [1, 2, 0, 3] rfl) hw
set_option maxHeartbeats 8000000 in
set_option maxRecDepth 100000 in
theorem wB_Terms_reckon_ad43_A_5 {p : Program} {l : Launch} {e : Env} {s : State} {m : MethodId} {below : List Frame} {meth : Method} {c : Code} {A : Nat → Prop} (G : va_G) (K : Nat → ClassId) (ad : Nat → Nat) (sv : Value) (a0 : Int32) (Post : Int32 → (Nat → Int32) → (Nat → Int64) → (Nat → Nat → Int32) → (Nat → Nat → Int64) → Prop) (C : zCx p s m ([.ref (ad 4), .int a0, .ref (ad 43)] : List Value).toArray meth c A G K prog_9_method_12_code (some .int) 6 "LassoFinder$Terms") (K5 : Int32 → Int32 → (Nat → Int32) → (Nat → Int64) → (Nat → Nat → Int32) → (Nat → Nat → Int64) → Prop) (kh5 : ∀ (x3 : Int32) (x4 : Int32) (I : Nat → Int32) (J : Nat → Int64) (B : Nat → Nat → Int32) (D : Nat → Nat → Int64) (ls : Array Slot) (H : Heap) (locs : List Loc), K5 x3 x4 I J B D → lv_has ls 6 [(0, .ref (ad 4)), (2, .ref (ad 43)), (3, .int x3), (4, .int x4)] → zW G A s.heap (wX ad K sv I J B D) H locs → W p l e { frames := 1, cells := 0, slots := 0, locals := 22 } s m ([.ref (ad 4), .int a0, .ref (ad 43)] : List Value).toArray below meth c H locs 0 0 (MQ below (va_Qi (fun (r : Int32) (u : zS) => Post r u.1 u.2.1 u.2.2.1 u.2.2.2) (fun u t => zPost G K A (wX ad K sv u.1 u.2.1 u.2.2.1 u.2.2.2) t) A) ([.ref (ad 4), .int a0, .ref (ad 43)] : List Value).toArray s 0 0 A) (F0 m 5 ls [])) : ∀ (x3 : Int32) (x4 : Int32) (I : Nat → Int32) (J : Nat → Int64) (B : Nat → Nat → Int32) (D : Nat → Nat → Int64) (ls : Array Slot) (H : Heap) (locs : List Loc), wb_Terms_reckon_ad43_A_5 a0 K5 Post x3 x4 I J B D → lv_has ls 6 [(0, .ref (ad 4)), (2, .ref (ad 43)), (3, .int x3), (4, .int x4)] → zW G A s.heap (wX ad K sv I J B D) H locs → W p l e { frames := 1, cells := 0, slots := 0, locals := 22 } s m ([.ref (ad 4), .int a0, .ref (ad 43)] : List Value).toArray below meth c H locs 0 0 (MQ below (va_Qi (fun (r : Int32) (u : zS) => Post r u.1 u.2.1 u.2.2.1 u.2.2.2) (fun u t => zPost G K A (wX ad K sv u.1 u.2.1 u.2.2.1 u.2.2.2) t) A) ([.ref (ad 4), .int a0, .ref (ad 43)] : List Value).toArray s 0 0 A) (F0 m 5 ls []) := by
  obtain ⟨hx, hb, hr, hml, hts, hown, hlocks, hA, hK⟩ := id C
  intro x3 x4 I J B D ls H locs hok hl hw
  unfold wb_Terms_reckon_ad43_A_5 at hok
  refine lv_iload hx hb zd_Terms_reckon_5 (lv_at hl 3 rfl) ?_
  refine lv_aload_n hx hb zd_Terms_reckon_7 rfl (lv_at hl 0 rfl) ?_
  refine z_get (v := .int (I 11)) hx hb hts hown hK hw zZ8 4 wX_g4 3 (by decide) zn_379 rfl zd_Terms_reckon_8 ?_
  refine lv_icmp_ge (tgt := 109) hx hb zd_Terms_reckon_11 (by decide) (fun hc4 => ?_) (fun hc4 => ?_)
  · have hok := hok.1 hc4
    exact wJ_Terms_reckon_ad43_A_109 G K ad sv a0 Post C I J B D ls H locs hok (lv_sub hl [0] rfl) hw
  · have hok := hok.2 hc4
    refine lv_aload_n hx hb zd_Terms_reckon_14 rfl (lv_at hl 0 rfl) ?_
    refine z_get (v := .ref (ad 29)) hx hb hts hown hK hw zZ8 4 wX_g4 2 (by decide) zn_252 rfl zd_Terms_reckon_15 ?_
    refine lv_iload hx hb zd_Terms_reckon_18 (lv_at hl 3 rfl) ?_
    refine va_iald (f := (B 15)) hx hb hK hw.1 29 0 wX_a29 rfl hok.1 zd_Terms_reckon_20 ?_
    have hok := hok.2
    refine lv_topi (fun z5 ez5 => ?_)
    have hok := hok z5 ez5
    refine lv_bipush (v := 22) hx hb zd_Terms_reckon_21 (by decide) ?_
    refine lv_icmp_eq (tgt := 109) hx hb zd_Terms_reckon_23 (by decide) (fun hc6 => ?_) (fun hc6 => ?_)
    · have hok := hok.1 hc6
      exact wJ_Terms_reckon_ad43_A_109 G K ad sv a0 Post C I J B D ls H locs hok (lv_sub hl [0] rfl) hw
    · have hok := hok.2 hc6
      refine lv_aload_n hx hb zd_Terms_reckon_26 rfl (lv_at hl 0 rfl) ?_
      refine z_get (v := .ref (ad 29)) hx hb hts hown hK hw zZ8 4 wX_g4 2 (by decide) zn_252 rfl zd_Terms_reckon_27 ?_
      refine lv_iload hx hb zd_Terms_reckon_30 (lv_at hl 3 rfl) ?_
      refine va_iald (f := (B 15)) hx hb hK hw.1 29 0 wX_a29 rfl hok.1 zd_Terms_reckon_32 ?_
      have hok := hok.2
      refine lv_topi (fun z7 ez7 => ?_)
      have hok := hok z7 ez7
      refine lv_istore hx hb zd_Terms_reckon_33 hl (by decide) rfl (fun ls hl => ?_)
      have hl : lv_has ls 6 [(5, .int z7), (0, .ref (ad 4)), (2, .ref (ad 43)), (3, .int x3), (4, .int x4)] := hl
      refine lv_iload hx hb zd_Terms_reckon_35 (lv_at hl 0 rfl) ?_
      refine lv_bipush (v := 16) hx hb zd_Terms_reckon_37 (by decide) ?_
      refine lv_icmp_lt (tgt := 75) hx hb zd_Terms_reckon_39 (by decide) (fun hc8 => ?_) (fun hc8 => ?_)
      · have hok := hok.1 hc8
        refine lv_aload_n hx hb zd_Terms_reckon_75 rfl (lv_at hl 1 rfl) ?_
        refine z_get (v := .ref (ad 31)) hx hb hts hown hK hw zZ8 4 wX_g4 6 (by decide) zn_254 rfl zd_Terms_reckon_76 ?_
        refine lv_iload_n hx hb zd_Terms_reckon_79 rfl (lv_at hl 3 rfl) ?_
        refine lv_iload hx hb zd_Terms_reckon_80 (lv_at hl 0 rfl) ?_
        refine lv_bipush (v := 8) hx hb zd_Terms_reckon_82 (by decide) ?_
        refine lv_icmp_lt (tgt := 97) hx hb zd_Terms_reckon_84 (by decide) (fun hc9 => ?_) (fun hc9 => ?_)
        · have hok := hok.1 hc9
          refine lv_iload hx hb zd_Terms_reckon_97 (lv_at hl 0 rfl) ?_
          exact wJ_Terms_reckon_ad43_A_99 G K ad sv a0 Post C K5 kh5 x3 x4 z7 x3 I J B D ls H locs hok (lv_sub hl [1, 2, 3, 4] rfl) hw
        · have hok := hok.2 hc9
          refine lv_aload_n hx hb zd_Terms_reckon_87 rfl (lv_at hl 2 rfl) ?_
          refine lv_iload hx hb zd_Terms_reckon_88 (lv_at hl 0 rfl) ?_
          refine lv_bipush (v := 8) hx hb zd_Terms_reckon_90 (by decide) ?_
          refine lv_isub hx hb zd_Terms_reckon_92 ?_
          refine lv_topi (fun z10 ez10 => ?_)
          have hok := hok z10 ez10
          refine va_iald (f := (B 29)) hx hb hK hw.1 43 0 wX_a43 rfl hok.1 zd_Terms_reckon_93 ?_
          have hok := hok.2
          refine lv_topi (fun z11 ez11 => ?_)
          have hok := hok z11 ez11
          refine lv_goto (tgt := 99) hx hb zd_Terms_reckon_94 (by decide) ?_
          exact wJ_Terms_reckon_ad43_A_99 G K ad sv a0 Post C K5 kh5 x3 x4 z11 x3 I J B D ls H locs hok (lv_sub hl [1, 2, 3, 4] rfl) hw
      · have hok := hok.2 hc8
        obtain ⟨z12, ez12⟩ : ∃ z : Int32, z = (x3 + (-1)) := ⟨_, rfl⟩
        have hok := hok z12 ez12
        refine lv_iinc (v := z12) hx hb zd_Terms_reckon_42 hl (k := 3) rfl ez12.symm (by decide) rfl (fun ls hl => ?_)
        have hl : lv_has ls 6 [(3, .int z12), (5, .int z7), (0, .ref (ad 4)), (2, .ref (ad 43)), (4, .int x4)] := hl
        refine lv_aload_n hx hb zd_Terms_reckon_45 rfl (lv_at hl 2 rfl) ?_
        refine z_get (v := .ref (ad 31)) hx hb hts hown hK hw zZ8 4 wX_g4 6 (by decide) zn_254 rfl zd_Terms_reckon_46 ?_
        refine lv_iload_n hx hb zd_Terms_reckon_49 rfl (lv_at hl 0 rfl) ?_
        refine lv_iconst (v := 1) hx hb zd_Terms_reckon_50 (by decide) ?_
        refine lv_isub hx hb zd_Terms_reckon_51 ?_
        refine lv_topi (fun z13 ez13 => ?_)
        have hok := hok z13 ez13
        refine lv_iload hx hb zd_Terms_reckon_52 (lv_at hl 1 rfl) ?_
        refine lv_aload_n hx hb zd_Terms_reckon_54 rfl (lv_at hl 2 rfl) ?_
        refine z_get (v := .ref (ad 31)) hx hb hts hown hK hw zZ8 4 wX_g4 6 (by decide) zn_254 rfl zd_Terms_reckon_55 ?_
        refine lv_iload_n hx hb zd_Terms_reckon_58 rfl (lv_at hl 0 rfl) ?_
        refine lv_iconst (v := 1) hx hb zd_Terms_reckon_59 (by decide) ?_
        refine lv_isub hx hb zd_Terms_reckon_60 ?_
        refine lv_topi (fun z14 ez14 => ?_)
        have hok := hok z14 ez14
        refine va_iald (f := (B 17)) hx hb hK hw.1 31 0 wX_a31 rfl hok.1 zd_Terms_reckon_61 ?_
        have hok := hok.2
        refine lv_topi (fun z15 ez15 => ?_)
        have hok := hok z15 ez15
        refine lv_aload_n hx hb zd_Terms_reckon_62 rfl (lv_at hl 2 rfl) ?_
        refine z_get (v := .ref (ad 31)) hx hb hts hown hK hw zZ8 4 wX_g4 6 (by decide) zn_254 rfl zd_Terms_reckon_63 ?_
        refine lv_iload_n hx hb zd_Terms_reckon_66 rfl (lv_at hl 0 rfl) ?_
        refine va_iald (f := (B 17)) hx hb hK hw.1 31 0 wX_a31 rfl hok.1 zd_Terms_reckon_67 ?_
        have hok := hok.2
        refine lv_topi (fun z16 ez16 => ?_)
        have hok := hok z16 ez16
        refine z_calli (w1 := fun (u : zS) => wX ad K sv u.1 u.2.1 u.2.2.1 u.2.2.2) (wr := []) (z_runS (wc := (wX ad K sv I J B D)) (As := [.int z7, .int z15, .int z16]) (rest := [.int z13, .ref (ad 31)]) ⟨hx, hb, hml, hown, hts⟩ (w_Terms_joined l G K ad sv I J B D z7 z15 z16 _ H.size hok) zf_Terms_joined zn_415 ⟨Nat.le_of_ble_eq_true rfl, Nat.le_of_ble_eq_true rfl⟩ hK hw (List.range 65) wX_all wX_nd rfl hl.1 rfl (Nat.le_of_ble_eq_true rfl) zd_Terms_reckon_68 ⟨Nat.le_of_ble_eq_true rfl, Nat.le_of_ble_eq_true rfl⟩) hw hA (List.range 65) [] wX_all rfl (by decide) (fun i hi => by cases hi) (fun r17 u H locs hok hw => ?_)
        obtain ⟨I17, J17, B17, D17⟩ := u
        dsimp only at hok
        have hw : zW G A s.heap (wX ad K sv I17 J17 B17 D17) H locs := hw
        refine va_iast (f := (B17 17)) hx hb hK hw.1 hw.2.1 hw.2.2 31 0 wX_a31 rfl hok.1 zd_Terms_reckon_71 (fun H locs w91 w92 w93 => ?_)
        have hok := hok.2
        have hw := wX_t31 ⟨w91, w92, w93⟩
        refine lv_goto (tgt := 103) hx hb zd_Terms_reckon_72 (by decide) ?_
        exact wJ_Terms_reckon_ad43_A_103 G K ad sv a0 Post C K5 kh5 z12 x4 I17 J17 (va_up B17 17 (upd (B17 17) z13.toNatClampNeg r17)) D17 ls H locs hok (lv_sub hl [2, 3, 0, 4] rfl) hw
theorem wL_Terms_reckon_ad43_A_5 {p : Program} {l : Launch} {e : Env} {s : State} {m : MethodId} {below : List Frame} {meth : Method} {c : Code} {A : Nat → Prop} (G : va_G) (K : Nat → ClassId) (ad : Nat → Nat) (sv : Value) (a0 : Int32) (Post : Int32 → (Nat → Int32) → (Nat → Int64) → (Nat → Nat → Int32) → (Nat → Nat → Int64) → Prop) (C : zCx p s m ([.ref (ad 4), .int a0, .ref (ad 43)] : List Value).toArray meth c A G K prog_9_method_12_code (some .int) 6 "LassoFinder$Terms") : ∀ (n : Nat) (x3 : Int32) (x4 : Int32) (I : Nat → Int32) (J : Nat → Int64) (B : Nat → Nat → Int32) (D : Nat → Nat → Int64) (ls : Array Slot) (H : Heap) (locs : List Loc), wl_Terms_reckon_ad43_A_5 a0 Post n x3 x4 I J B D → lv_has ls 6 [(0, .ref (ad 4)), (2, .ref (ad 43)), (3, .int x3), (4, .int x4)] → zW G A s.heap (wX ad K sv I J B D) H locs → W p l e { frames := 1, cells := 0, slots := 0, locals := 22 } s m ([.ref (ad 4), .int a0, .ref (ad 43)] : List Value).toArray below meth c H locs 0 0 (MQ below (va_Qi (fun (r : Int32) (u : zS) => Post r u.1 u.2.1 u.2.2.1 u.2.2.2) (fun u t => zPost G K A (wX ad K sv u.1 u.2.1 u.2.2.1 u.2.2.2) t) A) ([.ref (ad 4), .int a0, .ref (ad 43)] : List Value).toArray s 0 0 A) (F0 m 5 ls []) := by
  intro n
  induction n with
  | zero => intro x3 x4 I J B D ls H locs hok; exact hok.elim
  | succ n ih => exact wB_Terms_reckon_ad43_A_5 G K ad sv a0 Post C (wl_Terms_reckon_ad43_A_5 a0 Post n) ih
set_option maxHeartbeats 8000000 in
set_option maxRecDepth 100000 in
theorem w_Terms_reckon_ad43_A (l : Launch) (G : va_G) (K : Nat → ClassId) (ad : Nat → Nat) (sv : Value) (I : Nat → Int32) (J : Nat → Int64) (B : Nat → Nat → Int32) (D : Nat → Nat → Int64) (a0 : Int32) (Post : Int32 → (Nat → Int32) → (Nat → Int64) → (Nat → Nat → Int32) → (Nat → Nat → Int64) → Prop) (sz : Nat) (hok : wp_Terms_reckon_ad43_A I J B D a0 Post) : Met l zy_Terms_reckon (Cond.code zy_Terms_reckon prog_9_method_12_code 6 (some .int) :: zTB) { frames := 1, cells := 0, slots := 0, locals := 22 } (va_Pc [.ref (ad 4), .int a0, .ref (ad 43)] (zPre G K (wX ad K sv I J B D) sz)) (va_Qi (fun (r : Int32) (u : zS) => Post r u.1 u.2.1 u.2.2.1 u.2.2.2) (fun u t => zPost G K (va_A (wX ad K sv I J B D) sz) (wX ad K sv u.1 u.2.1 u.2.2.1 u.2.2.2) t) (va_A (wX ad K sv I J B D) sz)) 0 0 (va_A (wX ad K sv I J B D) sz) := by
  refine zMet (y := zy_Terms_reckon) (av := [.ref (ad 4), .int a0, .ref (ad 43)]) (maxL := 6) (cc := prog_9_method_12_code) (ret := (some .int)) (W0 := (wX ad K sv I J B D)) (sz := sz) (G := G) (K := K) (wt := zTB) (mc := 0) (ms := 0) (Qf := fun A => va_Qi (fun (r : Int32) (u : zS) => Post r u.1 u.2.1 u.2.2.1 u.2.2.2) (fun u t => zPost G K A (wX ad K sv u.1 u.2.1 u.2.2.1 u.2.2.2) t) A) (by decide) (Nat.le_of_ble_eq_true rfl) ?_
  intro p e s m below meth c ls A hx hb hr hml hts hown hlocks hin hA hK H locs hw hsz hl
  clear hsz
  have hown : s.vm.findClass "LassoFinder$Terms" = some m.cls := hown
  have C : zCx p s m ([.ref (ad 4), .int a0, .ref (ad 43)] : List Value).toArray meth c A G K prog_9_method_12_code (some .int) 6 "LassoFinder$Terms" := ⟨hx, hb, hr, hml, hts, hown, hlocks, hA, hK⟩
  have hl : lv_has ls 6 [(0, .ref (ad 4)), (1, .int a0), (2, .ref (ad 43))] := hl
  have hw : zW G A s.heap (wX ad K sv I J B D) H locs := hw
  unfold wp_Terms_reckon_ad43_A at hok
  refine lv_iconst (v := 0) hx hb zd_Terms_reckon_0 (by decide) ?_
  refine lv_istore_n hx hb zd_Terms_reckon_1 rfl hl (by decide) rfl (fun ls hl => ?_)
  have hl : lv_has ls 6 [(3, .int 0), (0, .ref (ad 4)), (1, .int a0), (2, .ref (ad 43))] := hl
  refine lv_iload_n hx hb zd_Terms_reckon_2 rfl (lv_at hl 2 rfl) ?_
  refine lv_istore hx hb zd_Terms_reckon_3 hl (by decide) rfl (fun ls hl => ?_)
  have hl : lv_has ls 6 [(4, .int a0), (3, .int 0), (0, .ref (ad 4)), (1, .int a0), (2, .ref (ad 43))] := hl
  obtain ⟨n9, hok⟩ := hok
  exact wL_Terms_reckon_ad43_A_5 G K ad sv a0 Post C n9 0 a0 I J B D ls H locs hok (lv_sub hl [2, 4, 1, 0] rfl) hw
def wc_Situation_perform_183 (a0 : Int32) (a1 : Int32) (Post : (Nat → Int32) → (Nat → Int64) → (Nat → Nat → Int32) → (Nat → Nat → Int64) → Prop)  (I : Nat → Int32) (J : Nat → Int64) (B : Nat → Nat → Int32) (D : Nat → Nat → Int64) : Prop :=
  Post I J B D
def wc_Situation_perform_163 (a0 : Int32) (a1 : Int32) (Post : (Nat → Int32) → (Nat → Int64) → (Nat → Nat → Int32) → (Nat → Nat → Int64) → Prop) (x1 : Int32) (x2 : Int32) (I : Nat → Int32) (J : Nat → Int64) (B : Nat → Nat → Int32) (D : Nat → Nat → Int64) : Prop :=
  wp_Situation_passOn (upd I 18 (-1)) J B D x1 (fun I1 J1 B1 D1 => ((x2 = (-1) → wc_Situation_perform_183 a0 a1 Post I1 J1 B1 D1) ∧ (¬ x2 = (-1) → wp_Situation_passOn I1 J1 B1 D1 x2 (fun I3 J3 B3 D3 => wc_Situation_perform_183 a0 a1 Post I3 J3 B3 D3))))
def wc_Situation_perform_31 (a0 : Int32) (a1 : Int32) (Post : (Nat → Int32) → (Nat → Int64) → (Nat → Nat → Int32) → (Nat → Nat → Int64) → Prop) (x1 : Int32) (x2 : Int32) (y0 : Int32) (I : Nat → Int32) (J : Nat → Int64) (B : Nat → Nat → Int32) (D : Nat → Nat → Int64) : Prop :=
  vp_in x1 48 ∧ ∀ z4 : Int32, z4 = ((B 6) x1.toNatClampNeg) → ((z4 = 0 → vp_in x1 48 ∧ ∀ z6 : Int32, z6 = ((B 8) x1.toNatClampNeg) → vp_in z6 8 ∧ wc_Situation_perform_163 a0 a1 Post x1 x2 I J (va_up B 29 (upd (B 29) z6.toNatClampNeg y0)) D) ∧ (z4 = 1 → wc_Situation_perform_163 a0 a1 Post x1 x2 I J B D) ∧ (z4 = 2 → ((¬ x2 = (-1) → vp_in x2 48 ∧ ∀ z10 : Int32, z10 = ((B 8) x2.toNatClampNeg) → vp_in z10 8 ∧ wc_Situation_perform_163 a0 a1 Post x1 x2 I J (va_up B 29 (upd (B 29) z10.toNatClampNeg y0)) D) ∧ (x2 = (-1) → vp_in x1 48 ∧ ∀ z11 : Int32, z11 = ((B 7) x1.toNatClampNeg) → wp_Situation_put I J B D z11 y0 (fun I12 J12 B12 D12 => wc_Situation_perform_163 a0 a1 Post x1 x2 I12 J12 B12 D12)))) ∧ (z4 = 3 → vp_in x1 48 ∧ ∀ z14 : Int32, z14 = ((B 8) x1.toNatClampNeg) → vp_in x1 48 ∧ ∀ z15 : Int32, z15 = ((B 7) x1.toNatClampNeg) → wp_Situation_taken I J B D z15 (fun r16 I16 J16 B16 D16 => vp_in z14 8 ∧ wc_Situation_perform_163 a0 a1 Post x1 x2 I16 J16 (va_up B16 29 (upd (B16 29) z14.toNatClampNeg r16)) D16)) ∧ (¬ z4 = 0 → ¬ z4 = 1 → ¬ z4 = 2 → ¬ z4 = 3 → wc_Situation_perform_163 a0 a1 Post x1 x2 I J B D))
def wp_Situation_perform (I : Nat → Int32) (J : Nat → Int64) (B : Nat → Nat → Int32) (D : Nat → Nat → Int64) (a0 : Int32) (a1 : Int32) (Post : (Nat → Int32) → (Nat → Int64) → (Nat → Nat → Int32) → (Nat → Nat → Int64) → Prop) : Prop :=
  vp_in a0 48 ∧ ∀ z17 : Int32, z17 = ((B 9) a0.toNatClampNeg) → ((¬ z17 = (-1) → wp_Terms_reckon_ad43_A I J B D z17 (fun r19 I19 J19 B19 D19 => wc_Situation_perform_31 a0 a1 Post a0 a1 r19 I19 J19 B19 D19)) ∧ (z17 = (-1) → wc_Situation_perform_31 a0 a1 Post a0 a1 0 I J B D))
set_option maxHeartbeats 8000000 in
set_option maxRecDepth 100000 in
theorem wJ_Situation_perform_183 {p : Program} {l : Launch} {e : Env} {s : State} {m : MethodId} {below : List Frame} {meth : Method} {c : Code} {A : Nat → Prop} (G : va_G) (K : Nat → ClassId) (ad : Nat → Nat) (sv : Value) (a0 : Int32) (a1 : Int32) (Post : (Nat → Int32) → (Nat → Int64) → (Nat → Nat → Int32) → (Nat → Nat → Int64) → Prop) (C : zCx p s m ([.ref (ad 7), .int a0, .int a1] : List Value).toArray meth c A G K prog_8_method_11_code none 5 "LassoFinder$Situation") : ∀  (I : Nat → Int32) (J : Nat → Int64) (B : Nat → Nat → Int32) (D : Nat → Nat → Int64) (ls : Array Slot) (H : Heap) (locs : List Loc), wc_Situation_perform_183 a0 a1 Post  I J B D → lv_has ls 5 [] → zW G A s.heap (wX ad K sv I J B D) H locs → W p l e { frames := 2, cells := 0, slots := 0, locals := 47 } s m ([.ref (ad 7), .int a0, .int a1] : List Value).toArray below meth c H locs 0 0 (MQ below (va_Qv (fun u : zS => Post u.1 u.2.1 u.2.2.1 u.2.2.2) (fun u t => zPost G K A (wX ad K sv u.1 u.2.1 u.2.2.1 u.2.2.2) t) A) ([.ref (ad 7), .int a0, .int a1] : List Value).toArray s 0 0 A) (F0 m 183 ls []) := by
  obtain ⟨hx, hb, hr, hml, hts, hown, hlocks, hA, hK⟩ := id C
  intro  I J B D ls H locs hok hl hw
  unfold wc_Situation_perform_183 at hok
  exact (z_vret (u := (I, J, B, D)) hx hb hr hlocks hw (List.range 65) wX_all wX_nd hok (Nat.le_of_ble_eq_true rfl) (Nat.le_of_ble_eq_true rfl) zd_Situation_perform_183)
set_option maxHeartbeats 8000000 in
set_option maxRecDepth 100000 in
theorem wJ_Situation_perform_163 {p : Program} {l : Launch} {e : Env} {s : State} {m : MethodId} {below : List Frame} {meth : Method} {c : Code} {A : Nat → Prop} (G : va_G) (K : Nat → ClassId) (ad : Nat → Nat) (sv : Value) (a0 : Int32) (a1 : Int32) (Post : (Nat → Int32) → (Nat → Int64) → (Nat → Nat → Int32) → (Nat → Nat → Int64) → Prop) (C : zCx p s m ([.ref (ad 7), .int a0, .int a1] : List Value).toArray meth c A G K prog_8_method_11_code none 5 "LassoFinder$Situation") : ∀ (x1 : Int32) (x2 : Int32) (I : Nat → Int32) (J : Nat → Int64) (B : Nat → Nat → Int32) (D : Nat → Nat → Int64) (ls : Array Slot) (H : Heap) (locs : List Loc), wc_Situation_perform_163 a0 a1 Post x1 x2 I J B D → lv_has ls 5 [(0, .ref (ad 7)), (1, .int x1), (2, .int x2)] → zW G A s.heap (wX ad K sv I J B D) H locs → W p l e { frames := 2, cells := 0, slots := 0, locals := 47 } s m ([.ref (ad 7), .int a0, .int a1] : List Value).toArray below meth c H locs 0 0 (MQ below (va_Qv (fun u : zS => Post u.1 u.2.1 u.2.2.1 u.2.2.2) (fun u t => zPost G K A (wX ad K sv u.1 u.2.1 u.2.2.1 u.2.2.2) t) A) ([.ref (ad 7), .int a0, .int a1] : List Value).toArray s 0 0 A) (F0 m 163 ls []) := by
  obtain ⟨hx, hb, hr, hml, hts, hown, hlocks, hA, hK⟩ := id C
  intro x1 x2 I J B D ls H locs hok hl hw
  unfold wc_Situation_perform_163 at hok
  refine lv_aload_n hx hb zd_Situation_perform_163 rfl (lv_at hl 0 rfl) ?_
  refine lv_iconst (v := (-1)) hx hb zd_Situation_perform_164 (by decide) ?_
  refine z_put (v := .int (-1)) hx hb hts hown hK hw zZ7 7 wX_g7 6 (by decide) zn_296 rfl rfl rfl (Nat.le_of_ble_eq_true rfl) zd_Situation_perform_165 (fun H locs hw => ?_)
  have hw := wX_sI18 hw
  refine lv_aload_n hx hb zd_Situation_perform_168 rfl (lv_at hl 0 rfl) ?_
  refine lv_iload_n hx hb zd_Situation_perform_169 rfl (lv_at hl 1 rfl) ?_
  refine z_callv (w1 := fun (u : zS) => wX ad K sv u.1 u.2.1 u.2.2.1 u.2.2.2) (wr := []) (z_runV (q0 := 7) (wc := (wX ad K sv (upd I 18 (-1)) J B D)) (As := [.int x1]) (rest := []) ⟨hx, hb, hml, hown, hts⟩ (w_Situation_passOn l G K ad sv (upd I 18 (-1)) J B D x1 _ H.size hok) zf_Situation_passOn zn_424 ⟨Nat.le_of_ble_eq_true rfl, Nat.le_of_ble_eq_true rfl⟩ hK hw (List.range 65) wX_all wX_nd wX_g7 rfl rfl hl.1 rfl (Nat.le_of_ble_eq_true rfl) zd_Situation_perform_170 ⟨Nat.le_of_ble_eq_true rfl, Nat.le_of_ble_eq_true rfl⟩) hw hA (List.range 65) [] wX_all rfl (by decide) (fun i hi => by cases hi) (fun u H locs hok hw => ?_)
  obtain ⟨I1, J1, B1, D1⟩ := u
  dsimp only at hok
  have hw : zW G A s.heap (wX ad K sv I1 J1 B1 D1) H locs := hw
  refine lv_iload_n hx hb zd_Situation_perform_173 rfl (lv_at hl 2 rfl) ?_
  refine lv_iconst (v := (-1)) hx hb zd_Situation_perform_174 (by decide) ?_
  refine lv_icmp_eq (tgt := 183) hx hb zd_Situation_perform_175 (by decide) (fun hc2 => ?_) (fun hc2 => ?_)
  · have hok := hok.1 hc2
    exact wJ_Situation_perform_183 G K ad sv a0 a1 Post C I1 J1 B1 D1 ls H locs hok (lv_sub hl [] rfl) hw
  · have hok := hok.2 hc2
    refine lv_aload_n hx hb zd_Situation_perform_178 rfl (lv_at hl 0 rfl) ?_
    refine lv_iload_n hx hb zd_Situation_perform_179 rfl (lv_at hl 2 rfl) ?_
    refine z_callv (w1 := fun (u : zS) => wX ad K sv u.1 u.2.1 u.2.2.1 u.2.2.2) (wr := []) (z_runV (q0 := 7) (wc := (wX ad K sv I1 J1 B1 D1)) (As := [.int x2]) (rest := []) ⟨hx, hb, hml, hown, hts⟩ (w_Situation_passOn l G K ad sv I1 J1 B1 D1 x2 _ H.size hok) zf_Situation_passOn zn_424 ⟨Nat.le_of_ble_eq_true rfl, Nat.le_of_ble_eq_true rfl⟩ hK hw (List.range 65) wX_all wX_nd wX_g7 rfl rfl hl.1 rfl (Nat.le_of_ble_eq_true rfl) zd_Situation_perform_180 ⟨Nat.le_of_ble_eq_true rfl, Nat.le_of_ble_eq_true rfl⟩) hw hA (List.range 65) [] wX_all rfl (by decide) (fun i hi => by cases hi) (fun u H locs hok hw => ?_)
    obtain ⟨I3, J3, B3, D3⟩ := u
    dsimp only at hok
    have hw : zW G A s.heap (wX ad K sv I3 J3 B3 D3) H locs := hw
    exact wJ_Situation_perform_183 G K ad sv a0 a1 Post C I3 J3 B3 D3 ls H locs hok (lv_sub hl [] rfl) hw
set_option maxHeartbeats 8000000 in
set_option maxRecDepth 100000 in
theorem wJ_Situation_perform_31 {p : Program} {l : Launch} {e : Env} {s : State} {m : MethodId} {below : List Frame} {meth : Method} {c : Code} {A : Nat → Prop} (G : va_G) (K : Nat → ClassId) (ad : Nat → Nat) (sv : Value) (a0 : Int32) (a1 : Int32) (Post : (Nat → Int32) → (Nat → Int64) → (Nat → Nat → Int32) → (Nat → Nat → Int64) → Prop) (C : zCx p s m ([.ref (ad 7), .int a0, .int a1] : List Value).toArray meth c A G K prog_8_method_11_code none 5 "LassoFinder$Situation") : ∀ (x1 : Int32) (x2 : Int32) (y0 : Int32) (I : Nat → Int32) (J : Nat → Int64) (B : Nat → Nat → Int32) (D : Nat → Nat → Int64) (ls : Array Slot) (H : Heap) (locs : List Loc), wc_Situation_perform_31 a0 a1 Post x1 x2 y0 I J B D → lv_has ls 5 [(0, .ref (ad 7)), (1, .int x1), (2, .int x2)] → zW G A s.heap (wX ad K sv I J B D) H locs → W p l e { frames := 2, cells := 0, slots := 0, locals := 47 } s m ([.ref (ad 7), .int a0, .int a1] : List Value).toArray below meth c H locs 0 0 (MQ below (va_Qv (fun u : zS => Post u.1 u.2.1 u.2.2.1 u.2.2.2) (fun u t => zPost G K A (wX ad K sv u.1 u.2.1 u.2.2.1 u.2.2.2) t) A) ([.ref (ad 7), .int a0, .int a1] : List Value).toArray s 0 0 A) (F0 m 31 ls [.int y0]) := by
  obtain ⟨hx, hb, hr, hml, hts, hown, hlocks, hA, hK⟩ := id C
  intro x1 x2 y0 I J B D ls H locs hok hl hw
  unfold wc_Situation_perform_31 at hok
  refine lv_istore hx hb zd_Situation_perform_31 hl (by decide) rfl (fun ls hl => ?_)
  have hl : lv_has ls 5 [(4, .int y0), (0, .ref (ad 7)), (1, .int x1), (2, .int x2)] := hl
  refine lv_aload_n hx hb zd_Situation_perform_33 rfl (lv_at hl 1 rfl) ?_
  refine z_get (v := .ref (ad 3)) hx hb hts hown hK hw zZ7 7 wX_g7 2 (by decide) zn_431 rfl zd_Situation_perform_34 ?_
  refine z_get (v := .ref (ad 18)) hx hb hts hown hK hw zZ6 3 wX_g3 0 (by decide) zn_433 rfl zd_Situation_perform_37 ?_
  refine lv_iload_n hx hb zd_Situation_perform_40 rfl (lv_at hl 2 rfl) ?_
  refine va_iald (f := (B 6)) hx hb hK hw.1 18 0 wX_a18 rfl hok.1 zd_Situation_perform_41 ?_
  have hok := hok.2
  refine lv_topi (fun z4 ez4 => ?_)
  have hok := hok z4 ez4
  by_cases hs5 : z4 = 0
  · have hok := hok.1 hs5
    refine lv_tableIn (off := 30) (tgt := 72) hx hb zd_Situation_perform_42 (by rw [hs5]; decide) (by rw [hs5]; decide) (by rw [hs5]; decide) (by decide) ?_
    refine lv_aload_n hx hb zd_Situation_perform_72 rfl (lv_at hl 1 rfl) ?_
    refine z_get (v := .ref (ad 43)) hx hb hts hown hK hw zZ7 7 wX_g7 3 (by decide) zn_266 rfl zd_Situation_perform_73 ?_
    refine lv_aload_n hx hb zd_Situation_perform_76 rfl (lv_at hl 1 rfl) ?_
    refine z_get (v := .ref (ad 3)) hx hb hts hown hK hw zZ7 7 wX_g7 2 (by decide) zn_431 rfl zd_Situation_perform_77 ?_
    refine z_get (v := .ref (ad 20)) hx hb hts hown hK hw zZ6 3 wX_g3 2 (by decide) zn_434 rfl zd_Situation_perform_80 ?_
    refine lv_iload_n hx hb zd_Situation_perform_83 rfl (lv_at hl 2 rfl) ?_
    refine va_iald (f := (B 8)) hx hb hK hw.1 20 0 wX_a20 rfl hok.1 zd_Situation_perform_84 ?_
    have hok := hok.2
    refine lv_topi (fun z6 ez6 => ?_)
    have hok := hok z6 ez6
    refine lv_iload hx hb zd_Situation_perform_85 (lv_at hl 0 rfl) ?_
    refine va_iast (f := (B 29)) hx hb hK hw.1 hw.2.1 hw.2.2 43 0 wX_a43 rfl hok.1 zd_Situation_perform_87 (fun H locs w91 w92 w93 => ?_)
    have hok := hok.2
    have hw := wX_t43 ⟨w91, w92, w93⟩
    refine lv_goto (tgt := 163) hx hb zd_Situation_perform_88 (by decide) ?_
    exact wJ_Situation_perform_163 G K ad sv a0 a1 Post C x1 x2 I J (va_up B 29 (upd (B 29) z6.toNatClampNeg y0)) D ls H locs hok (lv_sub hl [1, 2, 3] rfl) hw
  by_cases hs7 : z4 = 1
  · have hok := hok.2.1 hs7
    refine lv_tableIn (off := 121) (tgt := 163) hx hb zd_Situation_perform_42 (by rw [hs7]; decide) (by rw [hs7]; decide) (by rw [hs7]; decide) (by decide) ?_
    exact wJ_Situation_perform_163 G K ad sv a0 a1 Post C x1 x2 I J B D ls H locs hok (lv_sub hl [1, 2, 3] rfl) hw
  by_cases hs8 : z4 = 2
  · have hok := hok.2.2.1 hs8
    refine lv_tableIn (off := 49) (tgt := 91) hx hb zd_Situation_perform_42 (by rw [hs8]; decide) (by rw [hs8]; decide) (by rw [hs8]; decide) (by decide) ?_
    refine lv_iload_n hx hb zd_Situation_perform_91 rfl (lv_at hl 3 rfl) ?_
    refine lv_iconst (v := (-1)) hx hb zd_Situation_perform_92 (by decide) ?_
    refine lv_icmp_ne (tgt := 114) hx hb zd_Situation_perform_93 (by decide) (fun hc9 => ?_) (fun hc9 => ?_)
    · have hok := hok.1 hc9
      refine lv_aload_n hx hb zd_Situation_perform_114 rfl (lv_at hl 1 rfl) ?_
      refine z_get (v := .ref (ad 43)) hx hb hts hown hK hw zZ7 7 wX_g7 3 (by decide) zn_266 rfl zd_Situation_perform_115 ?_
      refine lv_aload_n hx hb zd_Situation_perform_118 rfl (lv_at hl 1 rfl) ?_
      refine z_get (v := .ref (ad 3)) hx hb hts hown hK hw zZ7 7 wX_g7 2 (by decide) zn_431 rfl zd_Situation_perform_119 ?_
      refine z_get (v := .ref (ad 20)) hx hb hts hown hK hw zZ6 3 wX_g3 2 (by decide) zn_434 rfl zd_Situation_perform_122 ?_
      refine lv_iload_n hx hb zd_Situation_perform_125 rfl (lv_at hl 3 rfl) ?_
      refine va_iald (f := (B 8)) hx hb hK hw.1 20 0 wX_a20 rfl hok.1 zd_Situation_perform_126 ?_
      have hok := hok.2
      refine lv_topi (fun z10 ez10 => ?_)
      have hok := hok z10 ez10
      refine lv_iload hx hb zd_Situation_perform_127 (lv_at hl 0 rfl) ?_
      refine va_iast (f := (B 29)) hx hb hK hw.1 hw.2.1 hw.2.2 43 0 wX_a43 rfl hok.1 zd_Situation_perform_129 (fun H locs w91 w92 w93 => ?_)
      have hok := hok.2
      have hw := wX_t43 ⟨w91, w92, w93⟩
      refine lv_goto (tgt := 163) hx hb zd_Situation_perform_130 (by decide) ?_
      exact wJ_Situation_perform_163 G K ad sv a0 a1 Post C x1 x2 I J (va_up B 29 (upd (B 29) z10.toNatClampNeg y0)) D ls H locs hok (lv_sub hl [1, 2, 3] rfl) hw
    · have hok := hok.2 hc9
      refine lv_aload_n hx hb zd_Situation_perform_96 rfl (lv_at hl 1 rfl) ?_
      refine lv_aload_n hx hb zd_Situation_perform_97 rfl (lv_at hl 1 rfl) ?_
      refine z_get (v := .ref (ad 3)) hx hb hts hown hK hw zZ7 7 wX_g7 2 (by decide) zn_431 rfl zd_Situation_perform_98 ?_
      refine z_get (v := .ref (ad 19)) hx hb hts hown hK hw zZ6 3 wX_g3 1 (by decide) zn_435 rfl zd_Situation_perform_101 ?_
      refine lv_iload_n hx hb zd_Situation_perform_104 rfl (lv_at hl 2 rfl) ?_
      refine va_iald (f := (B 7)) hx hb hK hw.1 19 0 wX_a19 rfl hok.1 zd_Situation_perform_105 ?_
      have hok := hok.2
      refine lv_topi (fun z11 ez11 => ?_)
      have hok := hok z11 ez11
      refine lv_iload hx hb zd_Situation_perform_106 (lv_at hl 0 rfl) ?_
      refine z_callv (w1 := fun (u : zS) => wX ad K sv u.1 u.2.1 u.2.2.1 u.2.2.2) (wr := []) (z_runV (q0 := 7) (wc := (wX ad K sv I J B D)) (As := [.int z11, .int y0]) (rest := []) ⟨hx, hb, hml, hown, hts⟩ (w_Situation_put l G K ad sv I J B D z11 y0 _ H.size hok) zf_Situation_put zn_422 ⟨Nat.le_of_ble_eq_true rfl, Nat.le_of_ble_eq_true rfl⟩ hK hw (List.range 65) wX_all wX_nd wX_g7 rfl rfl hl.1 rfl (Nat.le_of_ble_eq_true rfl) zd_Situation_perform_108 ⟨Nat.le_of_ble_eq_true rfl, Nat.le_of_ble_eq_true rfl⟩) hw hA (List.range 65) [] wX_all rfl (by decide) (fun i hi => by cases hi) (fun u H locs hok hw => ?_)
      obtain ⟨I12, J12, B12, D12⟩ := u
      dsimp only at hok
      have hw : zW G A s.heap (wX ad K sv I12 J12 B12 D12) H locs := hw
      refine lv_goto (tgt := 163) hx hb zd_Situation_perform_111 (by decide) ?_
      exact wJ_Situation_perform_163 G K ad sv a0 a1 Post C x1 x2 I12 J12 B12 D12 ls H locs hok (lv_sub hl [1, 2, 3] rfl) hw
  by_cases hs13 : z4 = 3
  · have hok := hok.2.2.2.1 hs13
    refine lv_tableIn (off := 91) (tgt := 133) hx hb zd_Situation_perform_42 (by rw [hs13]; decide) (by rw [hs13]; decide) (by rw [hs13]; decide) (by decide) ?_
    refine lv_aload_n hx hb zd_Situation_perform_133 rfl (lv_at hl 1 rfl) ?_
    refine z_get (v := .ref (ad 43)) hx hb hts hown hK hw zZ7 7 wX_g7 3 (by decide) zn_266 rfl zd_Situation_perform_134 ?_
    refine lv_aload_n hx hb zd_Situation_perform_137 rfl (lv_at hl 1 rfl) ?_
    refine z_get (v := .ref (ad 3)) hx hb hts hown hK hw zZ7 7 wX_g7 2 (by decide) zn_431 rfl zd_Situation_perform_138 ?_
    refine z_get (v := .ref (ad 20)) hx hb hts hown hK hw zZ6 3 wX_g3 2 (by decide) zn_434 rfl zd_Situation_perform_141 ?_
    refine lv_iload_n hx hb zd_Situation_perform_144 rfl (lv_at hl 2 rfl) ?_
    refine va_iald (f := (B 8)) hx hb hK hw.1 20 0 wX_a20 rfl hok.1 zd_Situation_perform_145 ?_
    have hok := hok.2
    refine lv_topi (fun z14 ez14 => ?_)
    have hok := hok z14 ez14
    refine lv_aload_n hx hb zd_Situation_perform_146 rfl (lv_at hl 1 rfl) ?_
    refine lv_aload_n hx hb zd_Situation_perform_147 rfl (lv_at hl 1 rfl) ?_
    refine z_get (v := .ref (ad 3)) hx hb hts hown hK hw zZ7 7 wX_g7 2 (by decide) zn_431 rfl zd_Situation_perform_148 ?_
    refine z_get (v := .ref (ad 19)) hx hb hts hown hK hw zZ6 3 wX_g3 1 (by decide) zn_435 rfl zd_Situation_perform_151 ?_
    refine lv_iload_n hx hb zd_Situation_perform_154 rfl (lv_at hl 2 rfl) ?_
    refine va_iald (f := (B 7)) hx hb hK hw.1 19 0 wX_a19 rfl hok.1 zd_Situation_perform_155 ?_
    have hok := hok.2
    refine lv_topi (fun z15 ez15 => ?_)
    have hok := hok z15 ez15
    refine z_calli (w1 := fun (u : zS) => wX ad K sv u.1 u.2.1 u.2.2.1 u.2.2.2) (wr := []) (z_runV (q0 := 7) (wc := (wX ad K sv I J B D)) (As := [.int z15]) (rest := [.int z14, .ref (ad 43)]) ⟨hx, hb, hml, hown, hts⟩ (w_Situation_taken l G K ad sv I J B D z15 _ H.size hok) zf_Situation_taken zn_423 ⟨Nat.le_of_ble_eq_true rfl, Nat.le_of_ble_eq_true rfl⟩ hK hw (List.range 65) wX_all wX_nd wX_g7 rfl rfl hl.1 rfl (Nat.le_of_ble_eq_true rfl) zd_Situation_perform_156 ⟨Nat.le_of_ble_eq_true rfl, Nat.le_of_ble_eq_true rfl⟩) hw hA (List.range 65) [] wX_all rfl (by decide) (fun i hi => by cases hi) (fun r16 u H locs hok hw => ?_)
    obtain ⟨I16, J16, B16, D16⟩ := u
    dsimp only at hok
    have hw : zW G A s.heap (wX ad K sv I16 J16 B16 D16) H locs := hw
    refine va_iast (f := (B16 29)) hx hb hK hw.1 hw.2.1 hw.2.2 43 0 wX_a43 rfl hok.1 zd_Situation_perform_159 (fun H locs w91 w92 w93 => ?_)
    have hok := hok.2
    have hw := wX_t43 ⟨w91, w92, w93⟩
    refine lv_goto (tgt := 163) hx hb zd_Situation_perform_160 (by decide) ?_
    exact wJ_Situation_perform_163 G K ad sv a0 a1 Post C x1 x2 I16 J16 (va_up B16 29 (upd (B16 29) z14.toNatClampNeg r16)) D16 ls H locs hok (lv_sub hl [1, 2, 3] rfl) hw
  have hok := hok.2.2.2.2 hs5 hs7 hs8 hs13
  refine lv_tableOut (tgt := 163) hx hb zd_Situation_perform_42 (by have h0 := lv_neT hs5 (a := 0) (by decide); have h1 := lv_neT hs7 (a := 1) (by decide); have h2 := lv_neT hs8 (a := 2) (by decide); have h3 := lv_neT hs13 (a := 3) (by decide); omega) (by decide) ?_
  exact wJ_Situation_perform_163 G K ad sv a0 a1 Post C x1 x2 I J B D ls H locs hok (lv_sub hl [1, 2, 3] rfl) hw
set_option maxHeartbeats 8000000 in
set_option maxRecDepth 100000 in
theorem w_Situation_perform (l : Launch) (G : va_G) (K : Nat → ClassId) (ad : Nat → Nat) (sv : Value) (I : Nat → Int32) (J : Nat → Int64) (B : Nat → Nat → Int32) (D : Nat → Nat → Int64) (a0 : Int32) (a1 : Int32) (Post : (Nat → Int32) → (Nat → Int64) → (Nat → Nat → Int32) → (Nat → Nat → Int64) → Prop) (sz : Nat) (hok : wp_Situation_perform I J B D a0 a1 Post) : Met l zy_Situation_perform (Cond.code zy_Situation_perform prog_8_method_11_code 5 none :: zTB) { frames := 2, cells := 0, slots := 0, locals := 47 } (va_Pc [.ref (ad 7), .int a0, .int a1] (zPre G K (wX ad K sv I J B D) sz)) (va_Qv (fun u : zS => Post u.1 u.2.1 u.2.2.1 u.2.2.2) (fun u t => zPost G K (va_A (wX ad K sv I J B D) sz) (wX ad K sv u.1 u.2.1 u.2.2.1 u.2.2.2) t) (va_A (wX ad K sv I J B D) sz)) 0 0 (va_A (wX ad K sv I J B D) sz) := by
  refine zMet (y := zy_Situation_perform) (av := [.ref (ad 7), .int a0, .int a1]) (maxL := 5) (cc := prog_8_method_11_code) (ret := none) (W0 := (wX ad K sv I J B D)) (sz := sz) (G := G) (K := K) (wt := zTB) (mc := 0) (ms := 0) (Qf := fun A => va_Qv (fun u : zS => Post u.1 u.2.1 u.2.2.1 u.2.2.2) (fun u t => zPost G K A (wX ad K sv u.1 u.2.1 u.2.2.1 u.2.2.2) t) A) (by decide) (Nat.le_of_ble_eq_true rfl) ?_
  intro p e s m below meth c ls A hx hb hr hml hts hown hlocks hin hA hK H locs hw hsz hl
  clear hsz
  have hown : s.vm.findClass "LassoFinder$Situation" = some m.cls := hown
  have C : zCx p s m ([.ref (ad 7), .int a0, .int a1] : List Value).toArray meth c A G K prog_8_method_11_code none 5 "LassoFinder$Situation" := ⟨hx, hb, hr, hml, hts, hown, hlocks, hA, hK⟩
  have hl : lv_has ls 5 [(0, .ref (ad 7)), (1, .int a0), (2, .int a1)] := hl
  have hw : zW G A s.heap (wX ad K sv I J B D) H locs := hw
  unfold wp_Situation_perform at hok
  refine lv_aload_n hx hb zd_Situation_perform_0 rfl (lv_at hl 0 rfl) ?_
  refine z_get (v := .ref (ad 3)) hx hb hts hown hK hw zZ7 7 wX_g7 2 (by decide) zn_431 rfl zd_Situation_perform_1 ?_
  refine z_get (v := .ref (ad 21)) hx hb hts hown hK hw zZ6 3 wX_g3 3 (by decide) zn_432 rfl zd_Situation_perform_4 ?_
  refine lv_iload_n hx hb zd_Situation_perform_7 rfl (lv_at hl 1 rfl) ?_
  refine va_iald (f := (B 9)) hx hb hK hw.1 21 0 wX_a21 rfl hok.1 zd_Situation_perform_8 ?_
  have hok := hok.2
  refine lv_topi (fun z17 ez17 => ?_)
  have hok := hok z17 ez17
  refine lv_istore_n hx hb zd_Situation_perform_9 rfl hl (by decide) rfl (fun ls hl => ?_)
  have hl : lv_has ls 5 [(3, .int z17), (0, .ref (ad 7)), (1, .int a0), (2, .int a1)] := hl
  refine lv_iload_n hx hb zd_Situation_perform_10 rfl (lv_at hl 0 rfl) ?_
  refine lv_iconst (v := (-1)) hx hb zd_Situation_perform_11 (by decide) ?_
  refine lv_icmp_ne (tgt := 19) hx hb zd_Situation_perform_12 (by decide) (fun hc18 => ?_) (fun hc18 => ?_)
  · have hok := hok.1 hc18
    refine lv_aload_n hx hb zd_Situation_perform_19 rfl (lv_at hl 1 rfl) ?_
    refine z_get (v := .ref (ad 4)) hx hb hts hown hK hw zZ7 7 wX_g7 1 (by decide) zn_436 rfl zd_Situation_perform_20 ?_
    refine lv_iload_n hx hb zd_Situation_perform_23 rfl (lv_at hl 0 rfl) ?_
    refine lv_aload_n hx hb zd_Situation_perform_24 rfl (lv_at hl 1 rfl) ?_
    refine z_get (v := .ref (ad 43)) hx hb hts hown hK hw zZ7 7 wX_g7 3 (by decide) zn_266 rfl zd_Situation_perform_25 ?_
    refine z_calli (w1 := fun (u : zS) => wX ad K sv u.1 u.2.1 u.2.2.1 u.2.2.2) (wr := []) (z_runV (q0 := 4) (wc := (wX ad K sv I J B D)) (As := [.int z17, .ref (ad 43)]) (rest := []) ⟨hx, hb, hml, hown, hts⟩ (w_Terms_reckon_ad43_A l G K ad sv I J B D z17 _ H.size hok) zf_Terms_reckon zn_414 ⟨Nat.le_of_ble_eq_true rfl, Nat.le_of_ble_eq_true rfl⟩ hK hw (List.range 65) wX_all wX_nd wX_g4 rfl rfl hl.1 rfl (Nat.le_of_ble_eq_true rfl) zd_Situation_perform_28 ⟨Nat.le_of_ble_eq_true rfl, Nat.le_of_ble_eq_true rfl⟩) hw hA (List.range 65) [] wX_all rfl (by decide) (fun i hi => by cases hi) (fun r19 u H locs hok hw => ?_)
    obtain ⟨I19, J19, B19, D19⟩ := u
    dsimp only at hok
    have hw : zW G A s.heap (wX ad K sv I19 J19 B19 D19) H locs := hw
    exact wJ_Situation_perform_31 G K ad sv a0 a1 Post C a0 a1 r19 I19 J19 B19 D19 ls H locs hok (lv_sub hl [1, 2, 3] rfl) hw
  · have hok := hok.2 hc18
    refine lv_iconst (v := 0) hx hb zd_Situation_perform_15 (by decide) ?_
    refine lv_goto (tgt := 31) hx hb zd_Situation_perform_16 (by decide) ?_
    exact wJ_Situation_perform_31 G K ad sv a0 a1 Post C a0 a1 0 I J B D ls H locs hok (lv_sub hl [1, 2, 3] rfl) hw
def wb_Situation_packed_112 (K112 : Int64 → Int32 → Int32 → Int32 → (Nat → Int32) → (Nat → Int64) → (Nat → Nat → Int32) → (Nat → Nat → Int64) → Prop) (K74 : Int64 → Int32 → (Nat → Int32) → (Nat → Int64) → (Nat → Nat → Int32) → (Nat → Nat → Int64) → Prop) (Post : Int64 → (Nat → Int32) → (Nat → Int64) → (Nat → Nat → Int32) → (Nat → Nat → Int64) → Prop) (x1 : Int64) (x3 : Int32) (x4 : Int32) (x5 : Int32) (I : Nat → Int32) (J : Nat → Int64) (B : Nat → Nat → Int32) (D : Nat → Nat → Int64) : Prop :=
  (((3 : Int32) ≤ x5 → ∀ z2 : Int32, z2 = (x3 + 1) → K74 x1 z2 I J B D) ∧ (¬ (3 : Int32) ≤ x5 → ∀ z3 : Int64, z3 = (x1 <<< ((3 : Int32).toInt64 &&& 63)) → ∀ z4 : Int32, z4 = (x4 * 3) → ∀ z5 : Int32, z5 = (z4 + x5) → vp_in z5 24 ∧ ∀ z6 : Int32, z6 = ((B 30) z5.toNatClampNeg) → ∀ z7 : Int64, z7 = z6.toInt64 → ∀ z8 : Int64, z8 = (z3 ||| z7) → ∀ z9 : Int32, z9 = (x5 + 1) → K112 z8 x3 x4 z9 I J B D))
def wl_Situation_packed_112 (K74 : Int64 → Int32 → (Nat → Int32) → (Nat → Int64) → (Nat → Nat → Int32) → (Nat → Nat → Int64) → Prop) (Post : Int64 → (Nat → Int32) → (Nat → Int64) → (Nat → Nat → Int32) → (Nat → Nat → Int64) → Prop) (n : Nat) : Int64 → Int32 → Int32 → Int32 → (Nat → Int32) → (Nat → Int64) → (Nat → Nat → Int32) → (Nat → Nat → Int64) → Prop := Nat.rec (fun _ _ _ _ _ _ _ _ => False) (fun _ r => wb_Situation_packed_112  r K74 Post) n
def wb_Situation_packed_74 (K74 : Int64 → Int32 → (Nat → Int32) → (Nat → Int64) → (Nat → Nat → Int32) → (Nat → Nat → Int64) → Prop) (Post : Int64 → (Nat → Int32) → (Nat → Int64) → (Nat → Nat → Int32) → (Nat → Nat → Int64) → Prop) (x1 : Int64) (x3 : Int32) (I : Nat → Int32) (J : Nat → Int64) (B : Nat → Nat → Int32) (D : Nat → Nat → Int64) : Prop :=
  (((I 8) ≤ x3 → Post x1 I J B D) ∧ (¬ (I 8) ≤ x3 → vp_in x3 2 ∧ ∀ z11 : Int32, z11 = ((B 5) x3.toNatClampNeg) → ∀ z12 : Int64, z12 = (x1 <<< ((2 : Int32).toInt64 &&& 63)) → vp_in z11 8 ∧ ∀ z13 : Int32, z13 = ((B 29) z11.toNatClampNeg) → ∀ z14 : Int64, z14 = z13.toInt64 → ∀ z15 : Int64, z15 = (z12 ||| z14) → ∃ n : Nat, wl_Situation_packed_112  K74 Post n z15 x3 z11 0 I J B D))
def wl_Situation_packed_74 (Post : Int64 → (Nat → Int32) → (Nat → Int64) → (Nat → Nat → Int32) → (Nat → Nat → Int64) → Prop) (n : Nat) : Int64 → Int32 → (Nat → Int32) → (Nat → Int64) → (Nat → Nat → Int32) → (Nat → Nat → Int64) → Prop := Nat.rec (fun _ _ _ _ _ _ => False) (fun _ r => wb_Situation_packed_74  r Post) n
def wb_Situation_packed_35 (K35 : Int64 → Int32 → (Nat → Int32) → (Nat → Int64) → (Nat → Nat → Int32) → (Nat → Nat → Int64) → Prop) (Post : Int64 → (Nat → Int32) → (Nat → Int64) → (Nat → Nat → Int32) → (Nat → Nat → Int64) → Prop) (x1 : Int64) (x3 : Int32) (I : Nat → Int32) (J : Nat → Int64) (B : Nat → Nat → Int32) (D : Nat → Nat → Int64) : Prop :=
  (((I 7) ≤ x3 → ∃ n : Nat, wl_Situation_packed_74  Post n x1 0 I J B D) ∧ (¬ (I 7) ≤ x3 → ∀ z17 : Int64, z17 = (x1 <<< ((3 : Int32).toInt64 &&& 63)) → vp_in x3 6 ∧ ∀ z18 : Int32, z18 = ((B 4) x3.toNatClampNeg) → vp_in z18 8 ∧ ∀ z19 : Int32, z19 = ((B 29) z18.toNatClampNeg) → ∀ z20 : Int64, z20 = z19.toInt64 → ∀ z21 : Int64, z21 = (z17 ||| z20) → ∀ z22 : Int32, z22 = (x3 + 1) → K35 z21 z22 I J B D))
def wl_Situation_packed_35 (Post : Int64 → (Nat → Int32) → (Nat → Int64) → (Nat → Nat → Int32) → (Nat → Nat → Int64) → Prop) (n : Nat) : Int64 → Int32 → (Nat → Int32) → (Nat → Int64) → (Nat → Nat → Int32) → (Nat → Nat → Int64) → Prop := Nat.rec (fun _ _ _ _ _ _ => False) (fun _ r => wb_Situation_packed_35  r Post) n
def wb_Situation_packed_10 (K10 : Int64 → Int32 → (Nat → Int32) → (Nat → Int64) → (Nat → Nat → Int32) → (Nat → Nat → Int64) → Prop) (Post : Int64 → (Nat → Int32) → (Nat → Int64) → (Nat → Nat → Int32) → (Nat → Nat → Int64) → Prop) (x1 : Int64) (x3 : Int32) (I : Nat → Int32) (J : Nat → Int64) (B : Nat → Nat → Int32) (D : Nat → Nat → Int64) : Prop :=
  (((4 : Int32) ≤ x3 → ∃ n : Nat, wl_Situation_packed_35  Post n x1 0 I J B D) ∧ (¬ (4 : Int32) ≤ x3 → ∀ z24 : Int64, z24 = (x1 <<< ((5 : Int32).toInt64 &&& 63)) → vp_in x3 4 ∧ ∀ z25 : Int32, z25 = ((B 31) x3.toNatClampNeg) → ∀ z26 : Int64, z26 = z25.toInt64 → ∀ z27 : Int64, z27 = (z24 ||| z26) → ∀ z28 : Int32, z28 = (x3 + 1) → K10 z27 z28 I J B D))
def wl_Situation_packed_10 (Post : Int64 → (Nat → Int32) → (Nat → Int64) → (Nat → Nat → Int32) → (Nat → Nat → Int64) → Prop) (n : Nat) : Int64 → Int32 → (Nat → Int32) → (Nat → Int64) → (Nat → Nat → Int32) → (Nat → Nat → Int64) → Prop := Nat.rec (fun _ _ _ _ _ _ => False) (fun _ r => wb_Situation_packed_10  r Post) n
def wp_Situation_packed (I : Nat → Int32) (J : Nat → Int64) (B : Nat → Nat → Int32) (D : Nat → Nat → Int64) (Post : Int64 → (Nat → Int32) → (Nat → Int64) → (Nat → Nat → Int32) → (Nat → Nat → Int64) → Prop) : Prop :=
  ∀ z29 : Int32, z29 = ((I 18) + 1) → ∀ z30 : Int64, z30 = z29.toInt64 → ∃ n : Nat, wl_Situation_packed_10  Post n z30 0 I J B D
set_option maxHeartbeats 8000000 in
set_option maxRecDepth 100000 in
theorem wB_Situation_packed_112 {p : Program} {l : Launch} {e : Env} {s : State} {m : MethodId} {below : List Frame} {meth : Method} {c : Code} {A : Nat → Prop} (G : va_G) (K : Nat → ClassId) (ad : Nat → Nat) (sv : Value) (Post : Int64 → (Nat → Int32) → (Nat → Int64) → (Nat → Nat → Int32) → (Nat → Nat → Int64) → Prop) (C : zCx p s m ([.ref (ad 7)] : List Value).toArray meth c A G K prog_8_method_3_code (some .long) 6 "LassoFinder$Situation") (K74 : Int64 → Int32 → (Nat → Int32) → (Nat → Int64) → (Nat → Nat → Int32) → (Nat → Nat → Int64) → Prop) (kh74 : ∀ (x1 : Int64) (x3 : Int32) (I : Nat → Int32) (J : Nat → Int64) (B : Nat → Nat → Int32) (D : Nat → Nat → Int64) (ls : Array Slot) (H : Heap) (locs : List Loc), K74 x1 x3 I J B D → lv_has ls 6 [(0, .ref (ad 7)), (1, .long x1), (3, .int x3)] → zW G A s.heap (wX ad K sv I J B D) H locs → W p l e { frames := 0, cells := 0, slots := 0, locals := 0 } s m ([.ref (ad 7)] : List Value).toArray below meth c H locs 0 0 (MQ below (va_Ql (fun (r : Int64) (u : zS) => Post r u.1 u.2.1 u.2.2.1 u.2.2.2) (fun u t => zPost G K A (wX ad K sv u.1 u.2.1 u.2.2.1 u.2.2.2) t) A) ([.ref (ad 7)] : List Value).toArray s 0 0 A) (F0 m 74 ls [])) (K112 : Int64 → Int32 → Int32 → Int32 → (Nat → Int32) → (Nat → Int64) → (Nat → Nat → Int32) → (Nat → Nat → Int64) → Prop) (kh112 : ∀ (x1 : Int64) (x3 : Int32) (x4 : Int32) (x5 : Int32) (I : Nat → Int32) (J : Nat → Int64) (B : Nat → Nat → Int32) (D : Nat → Nat → Int64) (ls : Array Slot) (H : Heap) (locs : List Loc), K112 x1 x3 x4 x5 I J B D → lv_has ls 6 [(0, .ref (ad 7)), (1, .long x1), (3, .int x3), (4, .int x4), (5, .int x5)] → zW G A s.heap (wX ad K sv I J B D) H locs → W p l e { frames := 0, cells := 0, slots := 0, locals := 0 } s m ([.ref (ad 7)] : List Value).toArray below meth c H locs 0 0 (MQ below (va_Ql (fun (r : Int64) (u : zS) => Post r u.1 u.2.1 u.2.2.1 u.2.2.2) (fun u t => zPost G K A (wX ad K sv u.1 u.2.1 u.2.2.1 u.2.2.2) t) A) ([.ref (ad 7)] : List Value).toArray s 0 0 A) (F0 m 112 ls [])) : ∀ (x1 : Int64) (x3 : Int32) (x4 : Int32) (x5 : Int32) (I : Nat → Int32) (J : Nat → Int64) (B : Nat → Nat → Int32) (D : Nat → Nat → Int64) (ls : Array Slot) (H : Heap) (locs : List Loc), wb_Situation_packed_112  K112 K74 Post x1 x3 x4 x5 I J B D → lv_has ls 6 [(0, .ref (ad 7)), (1, .long x1), (3, .int x3), (4, .int x4), (5, .int x5)] → zW G A s.heap (wX ad K sv I J B D) H locs → W p l e { frames := 0, cells := 0, slots := 0, locals := 0 } s m ([.ref (ad 7)] : List Value).toArray below meth c H locs 0 0 (MQ below (va_Ql (fun (r : Int64) (u : zS) => Post r u.1 u.2.1 u.2.2.1 u.2.2.2) (fun u t => zPost G K A (wX ad K sv u.1 u.2.1 u.2.2.1 u.2.2.2) t) A) ([.ref (ad 7)] : List Value).toArray s 0 0 A) (F0 m 112 ls []) := by
  obtain ⟨hx, hb, hr, hml, hts, hown, hlocks, hA, hK⟩ := id C
  intro x1 x3 x4 x5 I J B D ls H locs hok hl hw
  unfold wb_Situation_packed_112 at hok
  refine lv_iload hx hb zd_Situation_packed_112 (lv_at hl 4 rfl) ?_
  refine lv_iconst (v := 3) hx hb zd_Situation_packed_114 (by decide) ?_
  refine lv_icmp_ge (tgt := 142) hx hb zd_Situation_packed_115 (by decide) (fun hc1 => ?_) (fun hc1 => ?_)
  · have hok := hok.1 hc1
    obtain ⟨z2, ez2⟩ : ∃ z : Int32, z = (x3 + 1) := ⟨_, rfl⟩
    have hok := hok z2 ez2
    refine lv_iinc (v := z2) hx hb zd_Situation_packed_142 hl (k := 2) rfl ez2.symm (by decide) rfl (fun ls hl => ?_)
    have hl : lv_has ls 6 [(3, .int z2), (0, .ref (ad 7)), (1, .long x1), (4, .int x4), (5, .int x5)] := hl
    refine lv_goto (tgt := 74) hx hb zd_Situation_packed_145 (by decide) ?_
    exact kh74 x1 z2 I J B D ls H locs hok (lv_sub hl [1, 2, 0] rfl) hw
  · have hok := hok.2 hc1
    refine lv_lload_n hx hb zd_Situation_packed_118 rfl (lv_at hl 1 rfl) ?_
    refine lv_iconst (v := 3) hx hb zd_Situation_packed_119 (by decide) ?_
    refine lv_lshl hx hb zd_Situation_packed_120 rfl ?_
    refine lv_topl (fun z3 ez3 => ?_)
    have hok := hok z3 ez3
    refine lv_aload_n hx hb zd_Situation_packed_121 rfl (lv_at hl 0 rfl) ?_
    refine z_get (v := .ref (ad 44)) hx hb hts hown hK hw zZ7 7 wX_g7 4 (by decide) zn_267 rfl zd_Situation_packed_122 ?_
    refine lv_iload hx hb zd_Situation_packed_125 (lv_at hl 3 rfl) ?_
    refine lv_iconst (v := 3) hx hb zd_Situation_packed_127 (by decide) ?_
    refine lv_imul hx hb zd_Situation_packed_128 ?_
    refine lv_topi (fun z4 ez4 => ?_)
    have hok := hok z4 ez4
    refine lv_iload hx hb zd_Situation_packed_129 (lv_at hl 4 rfl) ?_
    refine lv_iadd hx hb zd_Situation_packed_131 ?_
    refine lv_topi (fun z5 ez5 => ?_)
    have hok := hok z5 ez5
    refine va_iald (f := (B 30)) hx hb hK hw.1 44 0 wX_a44 rfl hok.1 zd_Situation_packed_132 ?_
    have hok := hok.2
    refine lv_topi (fun z6 ez6 => ?_)
    have hok := hok z6 ez6
    refine lv_i2l hx hb zd_Situation_packed_133 rfl ?_
    refine lv_topl (fun z7 ez7 => ?_)
    have hok := hok z7 ez7
    refine lv_lor hx hb zd_Situation_packed_134 ?_
    refine lv_topl (fun z8 ez8 => ?_)
    have hok := hok z8 ez8
    refine lv_lstore_n hx hb zd_Situation_packed_135 rfl hl (by decide) rfl (fun ls hl => ?_)
    have hl : lv_has ls 6 [(1, .long z8), (0, .ref (ad 7)), (3, .int x3), (4, .int x4), (5, .int x5)] := hl
    obtain ⟨z9, ez9⟩ : ∃ z : Int32, z = (x5 + 1) := ⟨_, rfl⟩
    have hok := hok z9 ez9
    refine lv_iinc (v := z9) hx hb zd_Situation_packed_136 hl (k := 4) rfl ez9.symm (by decide) rfl (fun ls hl => ?_)
    have hl : lv_has ls 6 [(5, .int z9), (1, .long z8), (0, .ref (ad 7)), (3, .int x3), (4, .int x4)] := hl
    refine lv_goto (tgt := 112) hx hb zd_Situation_packed_139 (by decide) ?_
    exact kh112 z8 x3 x4 z9 I J B D ls H locs hok (lv_sub hl [2, 1, 3, 4, 0] rfl) hw
theorem wL_Situation_packed_112 {p : Program} {l : Launch} {e : Env} {s : State} {m : MethodId} {below : List Frame} {meth : Method} {c : Code} {A : Nat → Prop} (G : va_G) (K : Nat → ClassId) (ad : Nat → Nat) (sv : Value) (Post : Int64 → (Nat → Int32) → (Nat → Int64) → (Nat → Nat → Int32) → (Nat → Nat → Int64) → Prop) (C : zCx p s m ([.ref (ad 7)] : List Value).toArray meth c A G K prog_8_method_3_code (some .long) 6 "LassoFinder$Situation") (K74 : Int64 → Int32 → (Nat → Int32) → (Nat → Int64) → (Nat → Nat → Int32) → (Nat → Nat → Int64) → Prop) (kh74 : ∀ (x1 : Int64) (x3 : Int32) (I : Nat → Int32) (J : Nat → Int64) (B : Nat → Nat → Int32) (D : Nat → Nat → Int64) (ls : Array Slot) (H : Heap) (locs : List Loc), K74 x1 x3 I J B D → lv_has ls 6 [(0, .ref (ad 7)), (1, .long x1), (3, .int x3)] → zW G A s.heap (wX ad K sv I J B D) H locs → W p l e { frames := 0, cells := 0, slots := 0, locals := 0 } s m ([.ref (ad 7)] : List Value).toArray below meth c H locs 0 0 (MQ below (va_Ql (fun (r : Int64) (u : zS) => Post r u.1 u.2.1 u.2.2.1 u.2.2.2) (fun u t => zPost G K A (wX ad K sv u.1 u.2.1 u.2.2.1 u.2.2.2) t) A) ([.ref (ad 7)] : List Value).toArray s 0 0 A) (F0 m 74 ls [])) : ∀ (n : Nat) (x1 : Int64) (x3 : Int32) (x4 : Int32) (x5 : Int32) (I : Nat → Int32) (J : Nat → Int64) (B : Nat → Nat → Int32) (D : Nat → Nat → Int64) (ls : Array Slot) (H : Heap) (locs : List Loc), wl_Situation_packed_112  K74 Post n x1 x3 x4 x5 I J B D → lv_has ls 6 [(0, .ref (ad 7)), (1, .long x1), (3, .int x3), (4, .int x4), (5, .int x5)] → zW G A s.heap (wX ad K sv I J B D) H locs → W p l e { frames := 0, cells := 0, slots := 0, locals := 0 } s m ([.ref (ad 7)] : List Value).toArray below meth c H locs 0 0 (MQ below (va_Ql (fun (r : Int64) (u : zS) => Post r u.1 u.2.1 u.2.2.1 u.2.2.2) (fun u t => zPost G K A (wX ad K sv u.1 u.2.1 u.2.2.1 u.2.2.2) t) A) ([.ref (ad 7)] : List Value).toArray s 0 0 A) (F0 m 112 ls []) := by
  intro n
  induction n with
  | zero => intro x1 x3 x4 x5 I J B D ls H locs hok; exact hok.elim
  | succ n ih => exact wB_Situation_packed_112 G K ad sv  Post C K74 kh74 (wl_Situation_packed_112  K74 Post n) ih
set_option maxHeartbeats 8000000 in
set_option maxRecDepth 100000 in
theorem wB_Situation_packed_74 {p : Program} {l : Launch} {e : Env} {s : State} {m : MethodId} {below : List Frame} {meth : Method} {c : Code} {A : Nat → Prop} (G : va_G) (K : Nat → ClassId) (ad : Nat → Nat) (sv : Value) (Post : Int64 → (Nat → Int32) → (Nat → Int64) → (Nat → Nat → Int32) → (Nat → Nat → Int64) → Prop) (C : zCx p s m ([.ref (ad 7)] : List Value).toArray meth c A G K prog_8_method_3_code (some .long) 6 "LassoFinder$Situation") (K74 : Int64 → Int32 → (Nat → Int32) → (Nat → Int64) → (Nat → Nat → Int32) → (Nat → Nat → Int64) → Prop) (kh74 : ∀ (x1 : Int64) (x3 : Int32) (I : Nat → Int32) (J : Nat → Int64) (B : Nat → Nat → Int32) (D : Nat → Nat → Int64) (ls : Array Slot) (H : Heap) (locs : List Loc), K74 x1 x3 I J B D → lv_has ls 6 [(0, .ref (ad 7)), (1, .long x1), (3, .int x3)] → zW G A s.heap (wX ad K sv I J B D) H locs → W p l e { frames := 0, cells := 0, slots := 0, locals := 0 } s m ([.ref (ad 7)] : List Value).toArray below meth c H locs 0 0 (MQ below (va_Ql (fun (r : Int64) (u : zS) => Post r u.1 u.2.1 u.2.2.1 u.2.2.2) (fun u t => zPost G K A (wX ad K sv u.1 u.2.1 u.2.2.1 u.2.2.2) t) A) ([.ref (ad 7)] : List Value).toArray s 0 0 A) (F0 m 74 ls [])) : ∀ (x1 : Int64) (x3 : Int32) (I : Nat → Int32) (J : Nat → Int64) (B : Nat → Nat → Int32) (D : Nat → Nat → Int64) (ls : Array Slot) (H : Heap) (locs : List Loc), wb_Situation_packed_74  K74 Post x1 x3 I J B D → lv_has ls 6 [(0, .ref (ad 7)), (1, .long x1), (3, .int x3)] → zW G A s.heap (wX ad K sv I J B D) H locs → W p l e { frames := 0, cells := 0, slots := 0, locals := 0 } s m ([.ref (ad 7)] : List Value).toArray below meth c H locs 0 0 (MQ below (va_Ql (fun (r : Int64) (u : zS) => Post r u.1 u.2.1 u.2.2.1 u.2.2.2) (fun u t => zPost G K A (wX ad K sv u.1 u.2.1 u.2.2.1 u.2.2.2) t) A) ([.ref (ad 7)] : List Value).toArray s 0 0 A) (F0 m 74 ls []) := by
  obtain ⟨hx, hb, hr, hml, hts, hown, hlocks, hA, hK⟩ := id C
  intro x1 x3 I J B D ls H locs hok hl hw
  unfold wb_Situation_packed_74 at hok
  refine lv_iload_n hx hb zd_Situation_packed_74 rfl (lv_at hl 2 rfl) ?_
  refine lv_aload_n hx hb zd_Situation_packed_75 rfl (lv_at hl 0 rfl) ?_
  refine z_get (v := .ref (ad 2)) hx hb hts hown hK hw zZ7 7 wX_g7 0 (by decide) zn_291 rfl zd_Situation_packed_76 ?_
  refine z_get (v := .int (I 8)) hx hb hts hown hK hw zZ5 2 wX_g2 5 (by decide) zn_292 rfl zd_Situation_packed_79 ?_
  refine lv_icmp_ge (tgt := 148) hx hb zd_Situation_packed_82 (by decide) (fun hc10 => ?_) (fun hc10 => ?_)
  · have hok := hok.1 hc10
    refine lv_lload_n hx hb zd_Situation_packed_148 rfl (lv_at hl 1 rfl) ?_
    exact (z_lret (u := (I, J, B, D)) hx hb hr hlocks hw (List.range 65) wX_all wX_nd hok (Nat.le_of_ble_eq_true rfl) (Nat.le_of_ble_eq_true rfl) zd_Situation_packed_149)
  · have hok := hok.2 hc10
    refine lv_aload_n hx hb zd_Situation_packed_85 rfl (lv_at hl 0 rfl) ?_
    refine z_get (v := .ref (ad 2)) hx hb hts hown hK hw zZ7 7 wX_g7 0 (by decide) zn_291 rfl zd_Situation_packed_86 ?_
    refine z_get (v := .ref (ad 17)) hx hb hts hown hK hw zZ5 2 wX_g2 3 (by decide) zn_293 rfl zd_Situation_packed_89 ?_
    refine lv_iload_n hx hb zd_Situation_packed_92 rfl (lv_at hl 2 rfl) ?_
    refine va_iald (f := (B 5)) hx hb hK hw.1 17 0 wX_a17 rfl hok.1 zd_Situation_packed_93 ?_
    have hok := hok.2
    refine lv_topi (fun z11 ez11 => ?_)
    have hok := hok z11 ez11
    refine lv_istore hx hb zd_Situation_packed_94 hl (by decide) rfl (fun ls hl => ?_)
    have hl : lv_has ls 6 [(4, .int z11), (0, .ref (ad 7)), (1, .long x1), (3, .int x3)] := hl
    refine lv_lload_n hx hb zd_Situation_packed_96 rfl (lv_at hl 2 rfl) ?_
    refine lv_iconst (v := 2) hx hb zd_Situation_packed_97 (by decide) ?_
    refine lv_lshl hx hb zd_Situation_packed_98 rfl ?_
    refine lv_topl (fun z12 ez12 => ?_)
    have hok := hok z12 ez12
    refine lv_aload_n hx hb zd_Situation_packed_99 rfl (lv_at hl 1 rfl) ?_
    refine z_get (v := .ref (ad 43)) hx hb hts hown hK hw zZ7 7 wX_g7 3 (by decide) zn_266 rfl zd_Situation_packed_100 ?_
    refine lv_iload hx hb zd_Situation_packed_103 (lv_at hl 0 rfl) ?_
    refine va_iald (f := (B 29)) hx hb hK hw.1 43 0 wX_a43 rfl hok.1 zd_Situation_packed_105 ?_
    have hok := hok.2
    refine lv_topi (fun z13 ez13 => ?_)
    have hok := hok z13 ez13
    refine lv_i2l hx hb zd_Situation_packed_106 rfl ?_
    refine lv_topl (fun z14 ez14 => ?_)
    have hok := hok z14 ez14
    refine lv_lor hx hb zd_Situation_packed_107 ?_
    refine lv_topl (fun z15 ez15 => ?_)
    have hok := hok z15 ez15
    refine lv_lstore_n hx hb zd_Situation_packed_108 rfl hl (by decide) rfl (fun ls hl => ?_)
    have hl : lv_has ls 6 [(1, .long z15), (4, .int z11), (0, .ref (ad 7)), (3, .int x3)] := hl
    refine lv_iconst (v := 0) hx hb zd_Situation_packed_109 (by decide) ?_
    refine lv_istore hx hb zd_Situation_packed_110 hl (by decide) rfl (fun ls hl => ?_)
    have hl : lv_has ls 6 [(5, .int 0), (1, .long z15), (4, .int z11), (0, .ref (ad 7)), (3, .int x3)] := hl
    obtain ⟨n9, hok⟩ := hok
    exact wL_Situation_packed_112 G K ad sv  Post C K74 kh74 n9 z15 x3 z11 0 I J B D ls H locs hok (lv_sub hl [3, 1, 4, 2, 0] rfl) hw
theorem wL_Situation_packed_74 {p : Program} {l : Launch} {e : Env} {s : State} {m : MethodId} {below : List Frame} {meth : Method} {c : Code} {A : Nat → Prop} (G : va_G) (K : Nat → ClassId) (ad : Nat → Nat) (sv : Value) (Post : Int64 → (Nat → Int32) → (Nat → Int64) → (Nat → Nat → Int32) → (Nat → Nat → Int64) → Prop) (C : zCx p s m ([.ref (ad 7)] : List Value).toArray meth c A G K prog_8_method_3_code (some .long) 6 "LassoFinder$Situation") : ∀ (n : Nat) (x1 : Int64) (x3 : Int32) (I : Nat → Int32) (J : Nat → Int64) (B : Nat → Nat → Int32) (D : Nat → Nat → Int64) (ls : Array Slot) (H : Heap) (locs : List Loc), wl_Situation_packed_74  Post n x1 x3 I J B D → lv_has ls 6 [(0, .ref (ad 7)), (1, .long x1), (3, .int x3)] → zW G A s.heap (wX ad K sv I J B D) H locs → W p l e { frames := 0, cells := 0, slots := 0, locals := 0 } s m ([.ref (ad 7)] : List Value).toArray below meth c H locs 0 0 (MQ below (va_Ql (fun (r : Int64) (u : zS) => Post r u.1 u.2.1 u.2.2.1 u.2.2.2) (fun u t => zPost G K A (wX ad K sv u.1 u.2.1 u.2.2.1 u.2.2.2) t) A) ([.ref (ad 7)] : List Value).toArray s 0 0 A) (F0 m 74 ls []) := by
  intro n
  induction n with
  | zero => intro x1 x3 I J B D ls H locs hok; exact hok.elim
  | succ n ih => exact wB_Situation_packed_74 G K ad sv  Post C (wl_Situation_packed_74  Post n) ih
set_option maxHeartbeats 8000000 in
set_option maxRecDepth 100000 in
theorem wB_Situation_packed_35 {p : Program} {l : Launch} {e : Env} {s : State} {m : MethodId} {below : List Frame} {meth : Method} {c : Code} {A : Nat → Prop} (G : va_G) (K : Nat → ClassId) (ad : Nat → Nat) (sv : Value) (Post : Int64 → (Nat → Int32) → (Nat → Int64) → (Nat → Nat → Int32) → (Nat → Nat → Int64) → Prop) (C : zCx p s m ([.ref (ad 7)] : List Value).toArray meth c A G K prog_8_method_3_code (some .long) 6 "LassoFinder$Situation") (K35 : Int64 → Int32 → (Nat → Int32) → (Nat → Int64) → (Nat → Nat → Int32) → (Nat → Nat → Int64) → Prop) (kh35 : ∀ (x1 : Int64) (x3 : Int32) (I : Nat → Int32) (J : Nat → Int64) (B : Nat → Nat → Int32) (D : Nat → Nat → Int64) (ls : Array Slot) (H : Heap) (locs : List Loc), K35 x1 x3 I J B D → lv_has ls 6 [(0, .ref (ad 7)), (1, .long x1), (3, .int x3)] → zW G A s.heap (wX ad K sv I J B D) H locs → W p l e { frames := 0, cells := 0, slots := 0, locals := 0 } s m ([.ref (ad 7)] : List Value).toArray below meth c H locs 0 0 (MQ below (va_Ql (fun (r : Int64) (u : zS) => Post r u.1 u.2.1 u.2.2.1 u.2.2.2) (fun u t => zPost G K A (wX ad K sv u.1 u.2.1 u.2.2.1 u.2.2.2) t) A) ([.ref (ad 7)] : List Value).toArray s 0 0 A) (F0 m 35 ls [])) : ∀ (x1 : Int64) (x3 : Int32) (I : Nat → Int32) (J : Nat → Int64) (B : Nat → Nat → Int32) (D : Nat → Nat → Int64) (ls : Array Slot) (H : Heap) (locs : List Loc), wb_Situation_packed_35  K35 Post x1 x3 I J B D → lv_has ls 6 [(0, .ref (ad 7)), (1, .long x1), (3, .int x3)] → zW G A s.heap (wX ad K sv I J B D) H locs → W p l e { frames := 0, cells := 0, slots := 0, locals := 0 } s m ([.ref (ad 7)] : List Value).toArray below meth c H locs 0 0 (MQ below (va_Ql (fun (r : Int64) (u : zS) => Post r u.1 u.2.1 u.2.2.1 u.2.2.2) (fun u t => zPost G K A (wX ad K sv u.1 u.2.1 u.2.2.1 u.2.2.2) t) A) ([.ref (ad 7)] : List Value).toArray s 0 0 A) (F0 m 35 ls []) := by
  obtain ⟨hx, hb, hr, hml, hts, hown, hlocks, hA, hK⟩ := id C
  intro x1 x3 I J B D ls H locs hok hl hw
  unfold wb_Situation_packed_35 at hok
  refine lv_iload_n hx hb zd_Situation_packed_35 rfl (lv_at hl 2 rfl) ?_
  refine lv_aload_n hx hb zd_Situation_packed_36 rfl (lv_at hl 0 rfl) ?_
  refine z_get (v := .ref (ad 2)) hx hb hts hown hK hw zZ7 7 wX_g7 0 (by decide) zn_291 rfl zd_Situation_packed_37 ?_
  refine z_get (v := .int (I 7)) hx hb hts hown hK hw zZ5 2 wX_g2 4 (by decide) zn_294 rfl zd_Situation_packed_40 ?_
  refine lv_icmp_ge (tgt := 72) hx hb zd_Situation_packed_43 (by decide) (fun hc16 => ?_) (fun hc16 => ?_)
  · have hok := hok.1 hc16
    refine lv_iconst (v := 0) hx hb zd_Situation_packed_72 (by decide) ?_
    refine lv_istore_n hx hb zd_Situation_packed_73 rfl hl (by decide) rfl (fun ls hl => ?_)
    have hl : lv_has ls 6 [(3, .int 0), (0, .ref (ad 7)), (1, .long x1)] := hl
    obtain ⟨n9, hok⟩ := hok
    exact wL_Situation_packed_74 G K ad sv  Post C n9 x1 0 I J B D ls H locs hok (lv_sub hl [1, 2, 0] rfl) hw
  · have hok := hok.2 hc16
    refine lv_lload_n hx hb zd_Situation_packed_46 rfl (lv_at hl 1 rfl) ?_
    refine lv_iconst (v := 3) hx hb zd_Situation_packed_47 (by decide) ?_
    refine lv_lshl hx hb zd_Situation_packed_48 rfl ?_
    refine lv_topl (fun z17 ez17 => ?_)
    have hok := hok z17 ez17
    refine lv_aload_n hx hb zd_Situation_packed_49 rfl (lv_at hl 0 rfl) ?_
    refine z_get (v := .ref (ad 43)) hx hb hts hown hK hw zZ7 7 wX_g7 3 (by decide) zn_266 rfl zd_Situation_packed_50 ?_
    refine lv_aload_n hx hb zd_Situation_packed_53 rfl (lv_at hl 0 rfl) ?_
    refine z_get (v := .ref (ad 2)) hx hb hts hown hK hw zZ7 7 wX_g7 0 (by decide) zn_291 rfl zd_Situation_packed_54 ?_
    refine z_get (v := .ref (ad 16)) hx hb hts hown hK hw zZ5 2 wX_g2 2 (by decide) zn_295 rfl zd_Situation_packed_57 ?_
    refine lv_iload_n hx hb zd_Situation_packed_60 rfl (lv_at hl 2 rfl) ?_
    refine va_iald (f := (B 4)) hx hb hK hw.1 16 0 wX_a16 rfl hok.1 zd_Situation_packed_61 ?_
    have hok := hok.2
    refine lv_topi (fun z18 ez18 => ?_)
    have hok := hok z18 ez18
    refine va_iald (f := (B 29)) hx hb hK hw.1 43 0 wX_a43 rfl hok.1 zd_Situation_packed_62 ?_
    have hok := hok.2
    refine lv_topi (fun z19 ez19 => ?_)
    have hok := hok z19 ez19
    refine lv_i2l hx hb zd_Situation_packed_63 rfl ?_
    refine lv_topl (fun z20 ez20 => ?_)
    have hok := hok z20 ez20
    refine lv_lor hx hb zd_Situation_packed_64 ?_
    refine lv_topl (fun z21 ez21 => ?_)
    have hok := hok z21 ez21
    refine lv_lstore_n hx hb zd_Situation_packed_65 rfl hl (by decide) rfl (fun ls hl => ?_)
    have hl : lv_has ls 6 [(1, .long z21), (0, .ref (ad 7)), (3, .int x3)] := hl
    obtain ⟨z22, ez22⟩ : ∃ z : Int32, z = (x3 + 1) := ⟨_, rfl⟩
    have hok := hok z22 ez22
    refine lv_iinc (v := z22) hx hb zd_Situation_packed_66 hl (k := 2) rfl ez22.symm (by decide) rfl (fun ls hl => ?_)
    have hl : lv_has ls 6 [(3, .int z22), (1, .long z21), (0, .ref (ad 7))] := hl
    refine lv_goto (tgt := 35) hx hb zd_Situation_packed_69 (by decide) ?_
    exact kh35 z21 z22 I J B D ls H locs hok (lv_sub hl [2, 1, 0] rfl) hw
theorem wL_Situation_packed_35 {p : Program} {l : Launch} {e : Env} {s : State} {m : MethodId} {below : List Frame} {meth : Method} {c : Code} {A : Nat → Prop} (G : va_G) (K : Nat → ClassId) (ad : Nat → Nat) (sv : Value) (Post : Int64 → (Nat → Int32) → (Nat → Int64) → (Nat → Nat → Int32) → (Nat → Nat → Int64) → Prop) (C : zCx p s m ([.ref (ad 7)] : List Value).toArray meth c A G K prog_8_method_3_code (some .long) 6 "LassoFinder$Situation") : ∀ (n : Nat) (x1 : Int64) (x3 : Int32) (I : Nat → Int32) (J : Nat → Int64) (B : Nat → Nat → Int32) (D : Nat → Nat → Int64) (ls : Array Slot) (H : Heap) (locs : List Loc), wl_Situation_packed_35  Post n x1 x3 I J B D → lv_has ls 6 [(0, .ref (ad 7)), (1, .long x1), (3, .int x3)] → zW G A s.heap (wX ad K sv I J B D) H locs → W p l e { frames := 0, cells := 0, slots := 0, locals := 0 } s m ([.ref (ad 7)] : List Value).toArray below meth c H locs 0 0 (MQ below (va_Ql (fun (r : Int64) (u : zS) => Post r u.1 u.2.1 u.2.2.1 u.2.2.2) (fun u t => zPost G K A (wX ad K sv u.1 u.2.1 u.2.2.1 u.2.2.2) t) A) ([.ref (ad 7)] : List Value).toArray s 0 0 A) (F0 m 35 ls []) := by
  intro n
  induction n with
  | zero => intro x1 x3 I J B D ls H locs hok; exact hok.elim
  | succ n ih => exact wB_Situation_packed_35 G K ad sv  Post C (wl_Situation_packed_35  Post n) ih
set_option maxHeartbeats 8000000 in
set_option maxRecDepth 100000 in
theorem wB_Situation_packed_10 {p : Program} {l : Launch} {e : Env} {s : State} {m : MethodId} {below : List Frame} {meth : Method} {c : Code} {A : Nat → Prop} (G : va_G) (K : Nat → ClassId) (ad : Nat → Nat) (sv : Value) (Post : Int64 → (Nat → Int32) → (Nat → Int64) → (Nat → Nat → Int32) → (Nat → Nat → Int64) → Prop) (C : zCx p s m ([.ref (ad 7)] : List Value).toArray meth c A G K prog_8_method_3_code (some .long) 6 "LassoFinder$Situation") (K10 : Int64 → Int32 → (Nat → Int32) → (Nat → Int64) → (Nat → Nat → Int32) → (Nat → Nat → Int64) → Prop) (kh10 : ∀ (x1 : Int64) (x3 : Int32) (I : Nat → Int32) (J : Nat → Int64) (B : Nat → Nat → Int32) (D : Nat → Nat → Int64) (ls : Array Slot) (H : Heap) (locs : List Loc), K10 x1 x3 I J B D → lv_has ls 6 [(0, .ref (ad 7)), (1, .long x1), (3, .int x3)] → zW G A s.heap (wX ad K sv I J B D) H locs → W p l e { frames := 0, cells := 0, slots := 0, locals := 0 } s m ([.ref (ad 7)] : List Value).toArray below meth c H locs 0 0 (MQ below (va_Ql (fun (r : Int64) (u : zS) => Post r u.1 u.2.1 u.2.2.1 u.2.2.2) (fun u t => zPost G K A (wX ad K sv u.1 u.2.1 u.2.2.1 u.2.2.2) t) A) ([.ref (ad 7)] : List Value).toArray s 0 0 A) (F0 m 10 ls [])) : ∀ (x1 : Int64) (x3 : Int32) (I : Nat → Int32) (J : Nat → Int64) (B : Nat → Nat → Int32) (D : Nat → Nat → Int64) (ls : Array Slot) (H : Heap) (locs : List Loc), wb_Situation_packed_10  K10 Post x1 x3 I J B D → lv_has ls 6 [(0, .ref (ad 7)), (1, .long x1), (3, .int x3)] → zW G A s.heap (wX ad K sv I J B D) H locs → W p l e { frames := 0, cells := 0, slots := 0, locals := 0 } s m ([.ref (ad 7)] : List Value).toArray below meth c H locs 0 0 (MQ below (va_Ql (fun (r : Int64) (u : zS) => Post r u.1 u.2.1 u.2.2.1 u.2.2.2) (fun u t => zPost G K A (wX ad K sv u.1 u.2.1 u.2.2.1 u.2.2.2) t) A) ([.ref (ad 7)] : List Value).toArray s 0 0 A) (F0 m 10 ls []) := by
  obtain ⟨hx, hb, hr, hml, hts, hown, hlocks, hA, hK⟩ := id C
  intro x1 x3 I J B D ls H locs hok hl hw
  unfold wb_Situation_packed_10 at hok
  refine lv_iload_n hx hb zd_Situation_packed_10 rfl (lv_at hl 2 rfl) ?_
  refine lv_iconst (v := 4) hx hb zd_Situation_packed_11 (by decide) ?_
  refine lv_icmp_ge (tgt := 33) hx hb zd_Situation_packed_12 (by decide) (fun hc23 => ?_) (fun hc23 => ?_)
  · have hok := hok.1 hc23
    refine lv_iconst (v := 0) hx hb zd_Situation_packed_33 (by decide) ?_
    refine lv_istore_n hx hb zd_Situation_packed_34 rfl hl (by decide) rfl (fun ls hl => ?_)
    have hl : lv_has ls 6 [(3, .int 0), (0, .ref (ad 7)), (1, .long x1)] := hl
    obtain ⟨n9, hok⟩ := hok
    exact wL_Situation_packed_35 G K ad sv  Post C n9 x1 0 I J B D ls H locs hok (lv_sub hl [1, 2, 0] rfl) hw
  · have hok := hok.2 hc23
    refine lv_lload_n hx hb zd_Situation_packed_15 rfl (lv_at hl 1 rfl) ?_
    refine lv_iconst (v := 5) hx hb zd_Situation_packed_16 (by decide) ?_
    refine lv_lshl hx hb zd_Situation_packed_17 rfl ?_
    refine lv_topl (fun z24 ez24 => ?_)
    have hok := hok z24 ez24
    refine lv_aload_n hx hb zd_Situation_packed_18 rfl (lv_at hl 0 rfl) ?_
    refine z_get (v := .ref (ad 45)) hx hb hts hown hK hw zZ7 7 wX_g7 5 (by decide) zn_268 rfl zd_Situation_packed_19 ?_
    refine lv_iload_n hx hb zd_Situation_packed_22 rfl (lv_at hl 2 rfl) ?_
    refine va_iald (f := (B 31)) hx hb hK hw.1 45 0 wX_a45 rfl hok.1 zd_Situation_packed_23 ?_
    have hok := hok.2
    refine lv_topi (fun z25 ez25 => ?_)
    have hok := hok z25 ez25
    refine lv_i2l hx hb zd_Situation_packed_24 rfl ?_
    refine lv_topl (fun z26 ez26 => ?_)
    have hok := hok z26 ez26
    refine lv_lor hx hb zd_Situation_packed_25 ?_
    refine lv_topl (fun z27 ez27 => ?_)
    have hok := hok z27 ez27
    refine lv_lstore_n hx hb zd_Situation_packed_26 rfl hl (by decide) rfl (fun ls hl => ?_)
    have hl : lv_has ls 6 [(1, .long z27), (0, .ref (ad 7)), (3, .int x3)] := hl
    obtain ⟨z28, ez28⟩ : ∃ z : Int32, z = (x3 + 1) := ⟨_, rfl⟩
    have hok := hok z28 ez28
    refine lv_iinc (v := z28) hx hb zd_Situation_packed_27 hl (k := 2) rfl ez28.symm (by decide) rfl (fun ls hl => ?_)
    have hl : lv_has ls 6 [(3, .int z28), (1, .long z27), (0, .ref (ad 7))] := hl
    refine lv_goto (tgt := 10) hx hb zd_Situation_packed_30 (by decide) ?_
    exact kh10 z27 z28 I J B D ls H locs hok (lv_sub hl [2, 1, 0] rfl) hw
theorem wL_Situation_packed_10 {p : Program} {l : Launch} {e : Env} {s : State} {m : MethodId} {below : List Frame} {meth : Method} {c : Code} {A : Nat → Prop} (G : va_G) (K : Nat → ClassId) (ad : Nat → Nat) (sv : Value) (Post : Int64 → (Nat → Int32) → (Nat → Int64) → (Nat → Nat → Int32) → (Nat → Nat → Int64) → Prop) (C : zCx p s m ([.ref (ad 7)] : List Value).toArray meth c A G K prog_8_method_3_code (some .long) 6 "LassoFinder$Situation") : ∀ (n : Nat) (x1 : Int64) (x3 : Int32) (I : Nat → Int32) (J : Nat → Int64) (B : Nat → Nat → Int32) (D : Nat → Nat → Int64) (ls : Array Slot) (H : Heap) (locs : List Loc), wl_Situation_packed_10  Post n x1 x3 I J B D → lv_has ls 6 [(0, .ref (ad 7)), (1, .long x1), (3, .int x3)] → zW G A s.heap (wX ad K sv I J B D) H locs → W p l e { frames := 0, cells := 0, slots := 0, locals := 0 } s m ([.ref (ad 7)] : List Value).toArray below meth c H locs 0 0 (MQ below (va_Ql (fun (r : Int64) (u : zS) => Post r u.1 u.2.1 u.2.2.1 u.2.2.2) (fun u t => zPost G K A (wX ad K sv u.1 u.2.1 u.2.2.1 u.2.2.2) t) A) ([.ref (ad 7)] : List Value).toArray s 0 0 A) (F0 m 10 ls []) := by
  intro n
  induction n with
  | zero => intro x1 x3 I J B D ls H locs hok; exact hok.elim
  | succ n ih => exact wB_Situation_packed_10 G K ad sv  Post C (wl_Situation_packed_10  Post n) ih
set_option maxHeartbeats 8000000 in
set_option maxRecDepth 100000 in
theorem w_Situation_packed (l : Launch) (G : va_G) (K : Nat → ClassId) (ad : Nat → Nat) (sv : Value) (I : Nat → Int32) (J : Nat → Int64) (B : Nat → Nat → Int32) (D : Nat → Nat → Int64) (Post : Int64 → (Nat → Int32) → (Nat → Int64) → (Nat → Nat → Int32) → (Nat → Nat → Int64) → Prop) (sz : Nat) (hok : wp_Situation_packed I J B D  Post) : Met l zy_Situation_packed (Cond.code zy_Situation_packed prog_8_method_3_code 6 (some .long) :: zTB) { frames := 0, cells := 0, slots := 0, locals := 0 } (va_Pc [.ref (ad 7)] (zPre G K (wX ad K sv I J B D) sz)) (va_Ql (fun (r : Int64) (u : zS) => Post r u.1 u.2.1 u.2.2.1 u.2.2.2) (fun u t => zPost G K (va_A (wX ad K sv I J B D) sz) (wX ad K sv u.1 u.2.1 u.2.2.1 u.2.2.2) t) (va_A (wX ad K sv I J B D) sz)) 0 0 (va_A (wX ad K sv I J B D) sz) := by
  refine zMet (y := zy_Situation_packed) (av := [.ref (ad 7)]) (maxL := 6) (cc := prog_8_method_3_code) (ret := (some .long)) (W0 := (wX ad K sv I J B D)) (sz := sz) (G := G) (K := K) (wt := zTB) (mc := 0) (ms := 0) (Qf := fun A => va_Ql (fun (r : Int64) (u : zS) => Post r u.1 u.2.1 u.2.2.1 u.2.2.2) (fun u t => zPost G K A (wX ad K sv u.1 u.2.1 u.2.2.1 u.2.2.2) t) A) (by decide) (Nat.le_of_ble_eq_true rfl) ?_
  intro p e s m below meth c ls A hx hb hr hml hts hown hlocks hin hA hK H locs hw hsz hl
  clear hsz
  have hown : s.vm.findClass "LassoFinder$Situation" = some m.cls := hown
  have C : zCx p s m ([.ref (ad 7)] : List Value).toArray meth c A G K prog_8_method_3_code (some .long) 6 "LassoFinder$Situation" := ⟨hx, hb, hr, hml, hts, hown, hlocks, hA, hK⟩
  have hl : lv_has ls 6 [(0, .ref (ad 7))] := hl
  have hw : zW G A s.heap (wX ad K sv I J B D) H locs := hw
  unfold wp_Situation_packed at hok
  refine lv_aload_n hx hb zd_Situation_packed_0 rfl (lv_at hl 0 rfl) ?_
  refine z_get (v := .int (I 18)) hx hb hts hown hK hw zZ7 7 wX_g7 6 (by decide) zn_296 rfl zd_Situation_packed_1 ?_
  refine lv_iconst (v := 1) hx hb zd_Situation_packed_4 (by decide) ?_
  refine lv_iadd hx hb zd_Situation_packed_5 ?_
  refine lv_topi (fun z29 ez29 => ?_)
  have hok := hok z29 ez29
  refine lv_i2l hx hb zd_Situation_packed_6 rfl ?_
  refine lv_topl (fun z30 ez30 => ?_)
  have hok := hok z30 ez30
  refine lv_lstore_n hx hb zd_Situation_packed_7 rfl hl (by decide) rfl (fun ls hl => ?_)
  have hl : lv_has ls 6 [(1, .long z30), (0, .ref (ad 7))] := hl
  refine lv_iconst (v := 0) hx hb zd_Situation_packed_8 (by decide) ?_
  refine lv_istore_n hx hb zd_Situation_packed_9 rfl hl (by decide) rfl (fun ls hl => ?_)
  have hl : lv_has ls 6 [(3, .int 0), (1, .long z30), (0, .ref (ad 7))] := hl
  obtain ⟨n9, hok⟩ := hok
  exact wL_Situation_packed_10 G K ad sv  Post C n9 z30 0 I J B D ls H locs hok (lv_sub hl [2, 1, 0] rfl) hw
