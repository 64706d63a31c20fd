abbrev zy_LassoFinderModel_takes : MethodName := ⟨"LassoFinderModel", "takes", "(I)Z"⟩
abbrev zy_LassoFinderModel_statement : MethodName := ⟨"LassoFinderModel", "statement", "()Z"⟩
abbrev zy_LassoFinderModel_around : MethodName := ⟨"LassoFinderModel", "around", "(I)Z"⟩
abbrev zy_LassoFinderModel_basic : MethodName := ⟨"LassoFinderModel", "basic", "(IZ)Z"⟩
theorem zm_341 : Cond.methodLink "LassoFinderModel" 267 ⟨"LassoFinderModel", "around", "(I)Z"⟩ ∈ zTB := z_in (zt_7 _ (List.mem_of_getElem? (i := 166) rfl)) rfl
theorem zm_342 : Cond.methodLink "LassoFinderModel" 260 ⟨"LassoFinderModel", "node", "(I)I"⟩ ∈ zTB := z_in (zt_7 _ (List.mem_of_getElem? (i := 158) rfl)) rfl
theorem zm_343 : Cond.methodLink "LassoFinderModel" 263 ⟨"LassoFinderModel", "enter", "(II)V"⟩ ∈ zTB := z_in (zt_7 _ (List.mem_of_getElem? (i := 162) rfl)) rfl
theorem zm_345 : Cond.methodLink "LassoFinderModel" 270 ⟨"LassoFinderModel", "basic", "(IZ)Z"⟩ ∈ zTB := z_in (zt_7 _ (List.mem_of_getElem? (i := 170) rfl)) rfl
theorem zm_346 : Cond.methodLink "LassoFinderModel" 274 ⟨"LassoFinderModel", "expression", "(I)Z"⟩ ∈ zTB := z_in (zt_7 _ (List.mem_of_getElem? (i := 174) rfl)) rfl
theorem zm_347 : Cond.methodLink "LassoFinderModel" 244 ⟨"LassoFinderModel", "takes", "(I)Z"⟩ ∈ zTB := z_in (zt_7 _ (List.mem_of_getElem? (i := 142) rfl)) rfl
theorem zm_424 : Cond.code ⟨"LassoFinderModel", "enter", "(II)V"⟩ prog_14_method_17_code 3 none ∈ zTB := z_in (zt_7 _ (List.mem_of_getElem? (i := 165) rfl)) rfl
theorem zm_425 : Cond.instanceMethod ⟨"LassoFinderModel", "enter", "(II)V"⟩ ∈ zTB := z_in (zt_7 _ (List.mem_of_getElem? (i := 164) rfl)) rfl
theorem zm_426 : Cond.code ⟨"LassoFinderModel", "node", "(I)I"⟩ prog_14_method_16_code 4 (some .int) ∈ zTB := z_in (zt_7 _ (List.mem_of_getElem? (i := 161) rfl)) rfl
theorem zm_427 : Cond.instanceMethod ⟨"LassoFinderModel", "node", "(I)I"⟩ ∈ zTB := z_in (zt_7 _ (List.mem_of_getElem? (i := 160) rfl)) rfl
theorem zm_428 : Cond.code ⟨"LassoFinderModel", "expression", "(I)Z"⟩ prog_14_method_12_code 9 (some .boolean) ∈ zTB := z_in (zt_7 _ (List.mem_of_getElem? (i := 177) rfl)) rfl
theorem zm_429 : Cond.instanceMethod ⟨"LassoFinderModel", "expression", "(I)Z"⟩ ∈ zTB := z_in (zt_7 _ (List.mem_of_getElem? (i := 176) rfl)) rfl
theorem zm_430 : Cond.code ⟨"LassoFinderModel", "takes", "(I)Z"⟩ prog_14_method_7_code 2 (some .boolean) ∈ zTB := z_in (zt_7 _ (List.mem_of_getElem? (i := 145) rfl)) rfl
theorem zm_431 : Cond.instanceMethod ⟨"LassoFinderModel", "takes", "(I)Z"⟩ ∈ zTB := z_in (zt_7 _ (List.mem_of_getElem? (i := 144) rfl)) rfl
theorem zm_432 : Cond.code ⟨"LassoFinderModel", "basic", "(IZ)Z"⟩ prog_14_method_20_code 8 (some .boolean) ∈ zTB := z_in (zt_7 _ (List.mem_of_getElem? (i := 173) rfl)) rfl
theorem zm_433 : Cond.instanceMethod ⟨"LassoFinderModel", "basic", "(IZ)Z"⟩ ∈ zTB := z_in (zt_7 _ (List.mem_of_getElem? (i := 172) rfl)) rfl
theorem zm_434 : Cond.code ⟨"LassoFinderModel", "around", "(I)Z"⟩ prog_14_method_15_code 4 (some .boolean) ∈ zTB := z_in (zt_7 _ (List.mem_of_getElem? (i := 169) rfl)) rfl
theorem zm_435 : Cond.instanceMethod ⟨"LassoFinderModel", "around", "(I)Z"⟩ ∈ zTB := z_in (zt_7 _ (List.mem_of_getElem? (i := 168) rfl)) rfl
theorem zf_LassoFinderModel_enter : zFaceV zy_LassoFinderModel_enter prog_14_method_17_code 3 none 2 := ⟨zm_425, (z_in (zp_6 _ (List.mem_of_getElem? (i := 2) rfl)) rfl), zm_25, zm_424, by decide +kernel, by decide +kernel, by decide +kernel⟩
theorem zf_LassoFinderModel_node : zFaceV zy_LassoFinderModel_node prog_14_method_16_code 4 (some .int) 1 := ⟨zm_427, (z_in (zp_6 _ (List.mem_of_getElem? (i := 1) rfl)) rfl), zm_25, zm_426, by decide +kernel, by decide +kernel, by decide +kernel⟩
theorem zf_LassoFinderModel_expression : zFaceV zy_LassoFinderModel_expression prog_14_method_12_code 9 (some .boolean) 1 := ⟨zm_429, (z_in (zp_6 _ (List.mem_of_getElem? (i := 5) rfl)) rfl), zm_25, zm_428, by decide +kernel, by decide +kernel, by decide +kernel⟩
theorem zf_LassoFinderModel_takes : zFaceV zy_LassoFinderModel_takes prog_14_method_7_code 2 (some .boolean) 1 := ⟨zm_431, (z_in (zp_5 _ (List.mem_of_getElem? (i := 13) rfl)) rfl), zm_25, zm_430, by decide +kernel, by decide +kernel, by decide +kernel⟩
theorem zf_LassoFinderModel_basic : zFaceV zy_LassoFinderModel_basic prog_14_method_20_code 8 (some .boolean) 2 := ⟨zm_433, (z_in (zp_6 _ (List.mem_of_getElem? (i := 4) rfl)) rfl), zm_25, zm_432, by decide +kernel, by decide +kernel, by decide +kernel⟩
theorem zf_LassoFinderModel_around : zFaceV zy_LassoFinderModel_around prog_14_method_15_code 4 (some .boolean) 1 := ⟨zm_435, (z_in (zp_6 _ (List.mem_of_getElem? (i := 3) rfl)) rfl), zm_25, zm_434, by decide +kernel, by decide +kernel, by decide +kernel⟩
theorem zd_LassoFinderModel_around_0 : decode prog_14_method_15_code 0 = .ok (.iconst 0, 1) := by decide +kernel
theorem zd_LassoFinderModel_around_1 : decode prog_14_method_15_code 1 = .ok (.istore_n 2, 1) := by decide +kernel
theorem zd_LassoFinderModel_around_2 : decode prog_14_method_15_code 2 = .ok (.iconst 1, 1) := by decide +kernel
theorem zd_LassoFinderModel_around_3 : decode prog_14_method_15_code 3 = .ok (.istore_n 3, 1) := by decide +kernel
theorem zd_LassoFinderModel_around_4 : decode prog_14_method_15_code 4 = .ok (.iload_n 3, 1) := by decide +kernel
theorem zd_LassoFinderModel_around_5 : decode prog_14_method_15_code 5 = .ok (.aload_n 0, 1) := by decide +kernel
theorem zd_LassoFinderModel_around_6 : decode prog_14_method_15_code 6 = .ok (.getfield 248, 3) := by decide +kernel
theorem zd_LassoFinderModel_around_9 : decode prog_14_method_15_code 9 = .ok (.if_icmp .gt 29, 3) := by decide +kernel
theorem zd_LassoFinderModel_around_12 : decode prog_14_method_15_code 12 = .ok (.iload_n 2, 1) := by decide +kernel
theorem zd_LassoFinderModel_around_13 : decode prog_14_method_15_code 13 = .ok (.ifCond .ne 13, 3) := by decide +kernel
theorem zd_LassoFinderModel_around_16 : decode prog_14_method_15_code 16 = .ok (.aload_n 0, 1) := by decide +kernel
theorem zd_LassoFinderModel_around_17 : decode prog_14_method_15_code 17 = .ok (.getfield 94, 3) := by decide +kernel
theorem zd_LassoFinderModel_around_20 : decode prog_14_method_15_code 20 = .ok (.iload_n 3, 1) := by decide +kernel
theorem zd_LassoFinderModel_around_21 : decode prog_14_method_15_code 21 = .ok (.iaload, 1) := by decide +kernel
theorem zd_LassoFinderModel_around_22 : decode prog_14_method_15_code 22 = .ok (.iload_n 1, 1) := by decide +kernel
theorem zd_LassoFinderModel_around_23 : decode prog_14_method_15_code 23 = .ok (.if_icmp .ne 7, 3) := by decide +kernel
theorem zd_LassoFinderModel_around_26 : decode prog_14_method_15_code 26 = .ok (.iconst 1, 1) := by decide +kernel
theorem zd_LassoFinderModel_around_27 : decode prog_14_method_15_code 27 = .ok (.goto 4, 3) := by decide +kernel
theorem zd_LassoFinderModel_around_30 : decode prog_14_method_15_code 30 = .ok (.iconst 0, 1) := by decide +kernel
theorem zd_LassoFinderModel_around_31 : decode prog_14_method_15_code 31 = .ok (.istore_n 2, 1) := by decide +kernel
theorem zd_LassoFinderModel_around_32 : decode prog_14_method_15_code 32 = .ok (.iinc 3 1, 3) := by decide +kernel
theorem zd_LassoFinderModel_around_35 : decode prog_14_method_15_code 35 = .ok (.goto (-31), 3) := by decide +kernel
theorem zd_LassoFinderModel_around_38 : decode prog_14_method_15_code 38 = .ok (.iload_n 2, 1) := by decide +kernel
theorem zd_LassoFinderModel_around_39 : decode prog_14_method_15_code 39 = .ok (.ireturn, 1) := by decide +kernel
theorem zd_LassoFinderModel_basic_0 : decode prog_14_method_20_code 0 = .ok (.aload_n 0, 1) := by decide +kernel
theorem zd_LassoFinderModel_basic_1 : decode prog_14_method_20_code 1 = .ok (.bipush 97, 2) := by decide +kernel
theorem zd_LassoFinderModel_basic_3 : decode prog_14_method_20_code 3 = .ok (.bipush 8, 2) := by decide +kernel
theorem zd_LassoFinderModel_basic_5 : decode prog_14_method_20_code 5 = .ok (.invokevirtual 231, 3) := by decide +kernel
theorem zd_LassoFinderModel_basic_8 : decode prog_14_method_20_code 8 = .ok (.istore_n 3, 1) := by decide +kernel
theorem zd_LassoFinderModel_basic_9 : decode prog_14_method_20_code 9 = .ok (.iload_n 3, 1) := by decide +kernel
theorem zd_LassoFinderModel_basic_10 : decode prog_14_method_20_code 10 = .ok (.ifCond .lt 25, 3) := by decide +kernel
theorem zd_LassoFinderModel_basic_13 : decode prog_14_method_20_code 13 = .ok (.aload_n 0, 1) := by decide +kernel
theorem zd_LassoFinderModel_basic_14 : decode prog_14_method_20_code 14 = .ok (.getfield 17, 3) := by decide +kernel
theorem zd_LassoFinderModel_basic_17 : decode prog_14_method_20_code 17 = .ok (.iload_n 3, 1) := by decide +kernel
theorem zd_LassoFinderModel_basic_18 : decode prog_14_method_20_code 18 = .ok (.iaload, 1) := by decide +kernel
theorem zd_LassoFinderModel_basic_19 : decode prog_14_method_20_code 19 = .ok (.ifCond .ge 12, 3) := by decide +kernel
theorem zd_LassoFinderModel_basic_22 : decode prog_14_method_20_code 22 = .ok (.aload_n 0, 1) := by decide +kernel
theorem zd_LassoFinderModel_basic_23 : decode prog_14_method_20_code 23 = .ok (.getfield 20, 3) := by decide +kernel
theorem zd_LassoFinderModel_basic_26 : decode prog_14_method_20_code 26 = .ok (.iload_n 3, 1) := by decide +kernel
theorem zd_LassoFinderModel_basic_27 : decode prog_14_method_20_code 27 = .ok (.iaload, 1) := by decide +kernel
theorem zd_LassoFinderModel_basic_28 : decode prog_14_method_20_code 28 = .ok (.ifCond .lt 7, 3) := by decide +kernel
theorem zd_LassoFinderModel_basic_31 : decode prog_14_method_20_code 31 = .ok (.iconst 1, 1) := by decide +kernel
theorem zd_LassoFinderModel_basic_32 : decode prog_14_method_20_code 32 = .ok (.goto 4, 3) := by decide +kernel
theorem zd_LassoFinderModel_basic_35 : decode prog_14_method_20_code 35 = .ok (.iconst 0, 1) := by decide +kernel
theorem zd_LassoFinderModel_basic_36 : decode prog_14_method_20_code 36 = .ok (.istore 4, 2) := by decide +kernel
theorem zd_LassoFinderModel_basic_38 : decode prog_14_method_20_code 38 = .ok (.iload 4, 2) := by decide +kernel
theorem zd_LassoFinderModel_basic_40 : decode prog_14_method_20_code 40 = .ok (.ifCond .ne 38, 3) := by decide +kernel
theorem zd_LassoFinderModel_basic_43 : decode prog_14_method_20_code 43 = .ok (.iload_n 1, 1) := by decide +kernel
theorem zd_LassoFinderModel_basic_44 : decode prog_14_method_20_code 44 = .ok (.bipush 40, 2) := by decide +kernel
theorem zd_LassoFinderModel_basic_46 : decode prog_14_method_20_code 46 = .ok (.if_icmp .eq 32, 3) := by decide +kernel
theorem zd_LassoFinderModel_basic_49 : decode prog_14_method_20_code 49 = .ok (.iload_n 1, 1) := by decide +kernel
theorem zd_LassoFinderModel_basic_50 : decode prog_14_method_20_code 50 = .ok (.bipush 45, 2) := by decide +kernel
theorem zd_LassoFinderModel_basic_52 : decode prog_14_method_20_code 52 = .ok (.if_icmp .eq 26, 3) := by decide +kernel
theorem zd_LassoFinderModel_basic_55 : decode prog_14_method_20_code 55 = .ok (.iload_n 1, 1) := by decide +kernel
theorem zd_LassoFinderModel_basic_56 : decode prog_14_method_20_code 56 = .ok (.bipush 126, 2) := by decide +kernel
theorem zd_LassoFinderModel_basic_58 : decode prog_14_method_20_code 58 = .ok (.if_icmp .ne 24, 3) := by decide +kernel
theorem zd_LassoFinderModel_basic_61 : decode prog_14_method_20_code 61 = .ok (.iload_n 2, 1) := by decide +kernel
theorem zd_LassoFinderModel_basic_62 : decode prog_14_method_20_code 62 = .ok (.ifCond .eq 20, 3) := by decide +kernel
theorem zd_LassoFinderModel_basic_65 : decode prog_14_method_20_code 65 = .ok (.aload_n 0, 1) := by decide +kernel
theorem zd_LassoFinderModel_basic_66 : decode prog_14_method_20_code 66 = .ok (.getfield 94, 3) := by decide +kernel
theorem zd_LassoFinderModel_basic_69 : decode prog_14_method_20_code 69 = .ok (.aload_n 0, 1) := by decide +kernel
theorem zd_LassoFinderModel_basic_70 : decode prog_14_method_20_code 70 = .ok (.getfield 248, 3) := by decide +kernel
theorem zd_LassoFinderModel_basic_73 : decode prog_14_method_20_code 73 = .ok (.iaload, 1) := by decide +kernel
theorem zd_LassoFinderModel_basic_74 : decode prog_14_method_20_code 74 = .ok (.iconst 3, 1) := by decide +kernel
theorem zd_LassoFinderModel_basic_75 : decode prog_14_method_20_code 75 = .ok (.if_icmp .ge 7, 3) := by decide +kernel
theorem zd_LassoFinderModel_basic_78 : decode prog_14_method_20_code 78 = .ok (.iconst 1, 1) := by decide +kernel
theorem zd_LassoFinderModel_basic_79 : decode prog_14_method_20_code 79 = .ok (.goto 4, 3) := by decide +kernel
theorem zd_LassoFinderModel_basic_82 : decode prog_14_method_20_code 82 = .ok (.iconst 0, 1) := by decide +kernel
theorem zd_LassoFinderModel_basic_83 : decode prog_14_method_20_code 83 = .ok (.istore 5, 2) := by decide +kernel
theorem zd_LassoFinderModel_basic_85 : decode prog_14_method_20_code 85 = .ok (.iload 5, 2) := by decide +kernel
theorem zd_LassoFinderModel_basic_87 : decode prog_14_method_20_code 87 = .ok (.ifCond .eq 26, 3) := by decide +kernel
theorem zd_LassoFinderModel_basic_90 : decode prog_14_method_20_code 90 = .ok (.aload_n 0, 1) := by decide +kernel
theorem zd_LassoFinderModel_basic_91 : decode prog_14_method_20_code 91 = .ok (.getfield 257, 3) := by decide +kernel
theorem zd_LassoFinderModel_basic_94 : decode prog_14_method_20_code 94 = .ok (.bipush 48, 2) := by decide +kernel
theorem zd_LassoFinderModel_basic_96 : decode prog_14_method_20_code 96 = .ok (.if_icmp .eq 17, 3) := by decide +kernel
theorem zd_LassoFinderModel_basic_99 : decode prog_14_method_20_code 99 = .ok (.aload_n 0, 1) := by decide +kernel
theorem zd_LassoFinderModel_basic_100 : decode prog_14_method_20_code 100 = .ok (.getfield 75, 3) := by decide +kernel
theorem zd_LassoFinderModel_basic_103 : decode prog_14_method_20_code 103 = .ok (.aload_n 0, 1) := by decide +kernel
theorem zd_LassoFinderModel_basic_104 : decode prog_14_method_20_code 104 = .ok (.getfield 254, 3) := by decide +kernel
theorem zd_LassoFinderModel_basic_107 : decode prog_14_method_20_code 107 = .ok (.iaload, 1) := by decide +kernel
theorem zd_LassoFinderModel_basic_108 : decode prog_14_method_20_code 108 = .ok (.bipush 30, 2) := by decide +kernel
theorem zd_LassoFinderModel_basic_110 : decode prog_14_method_20_code 110 = .ok (.if_icmp .ne 8, 3) := by decide +kernel
theorem zd_LassoFinderModel_basic_113 : decode prog_14_method_20_code 113 = .ok (.aload_n 0, 1) := by decide +kernel
theorem zd_LassoFinderModel_basic_114 : decode prog_14_method_20_code 114 = .ok (.invokevirtual 213, 3) := by decide +kernel
theorem zd_LassoFinderModel_basic_117 : decode prog_14_method_20_code 117 = .ok (.ireturn, 1) := by decide +kernel
theorem zd_LassoFinderModel_basic_118 : decode prog_14_method_20_code 118 = .ok (.aload_n 0, 1) := by decide +kernel
theorem zd_LassoFinderModel_basic_119 : decode prog_14_method_20_code 119 = .ok (.iload_n 1, 1) := by decide +kernel
theorem zd_LassoFinderModel_basic_120 : decode prog_14_method_20_code 120 = .ok (.bipush 40, 2) := by decide +kernel
theorem zd_LassoFinderModel_basic_122 : decode prog_14_method_20_code 122 = .ok (.if_icmp .ne 7, 3) := by decide +kernel
theorem zd_LassoFinderModel_basic_125 : decode prog_14_method_20_code 125 = .ok (.iconst 1, 1) := by decide +kernel
theorem zd_LassoFinderModel_basic_126 : decode prog_14_method_20_code 126 = .ok (.goto 24, 3) := by decide +kernel
theorem zd_LassoFinderModel_basic_129 : decode prog_14_method_20_code 129 = .ok (.iload_n 1, 1) := by decide +kernel
theorem zd_LassoFinderModel_basic_130 : decode prog_14_method_20_code 130 = .ok (.bipush 45, 2) := by decide +kernel
theorem zd_LassoFinderModel_basic_132 : decode prog_14_method_20_code 132 = .ok (.if_icmp .ne 7, 3) := by decide +kernel
theorem zd_LassoFinderModel_basic_135 : decode prog_14_method_20_code 135 = .ok (.iconst 4, 1) := by decide +kernel
theorem zd_LassoFinderModel_basic_136 : decode prog_14_method_20_code 136 = .ok (.goto 14, 3) := by decide +kernel
theorem zd_LassoFinderModel_basic_139 : decode prog_14_method_20_code 139 = .ok (.iload_n 1, 1) := by decide +kernel
theorem zd_LassoFinderModel_basic_140 : decode prog_14_method_20_code 140 = .ok (.bipush 126, 2) := by decide +kernel
theorem zd_LassoFinderModel_basic_142 : decode prog_14_method_20_code 142 = .ok (.if_icmp .ne 7, 3) := by decide +kernel
theorem zd_LassoFinderModel_basic_145 : decode prog_14_method_20_code 145 = .ok (.iconst 5, 1) := by decide +kernel
theorem zd_LassoFinderModel_basic_146 : decode prog_14_method_20_code 146 = .ok (.goto 4, 3) := by decide +kernel
theorem zd_LassoFinderModel_basic_149 : decode prog_14_method_20_code 149 = .ok (.iconst 0, 1) := by decide +kernel
theorem zd_LassoFinderModel_basic_150 : decode prog_14_method_20_code 150 = .ok (.invokevirtual 260, 3) := by decide +kernel
theorem zd_LassoFinderModel_basic_153 : decode prog_14_method_20_code 153 = .ok (.istore 6, 2) := by decide +kernel
theorem zd_LassoFinderModel_basic_155 : decode prog_14_method_20_code 155 = .ok (.aload_n 0, 1) := by decide +kernel
theorem zd_LassoFinderModel_basic_156 : decode prog_14_method_20_code 156 = .ok (.dup, 1) := by decide +kernel
theorem zd_LassoFinderModel_basic_157 : decode prog_14_method_20_code 157 = .ok (.getfield 203, 3) := by decide +kernel
theorem zd_LassoFinderModel_basic_160 : decode prog_14_method_20_code 160 = .ok (.iconst 1, 1) := by decide +kernel
theorem zd_LassoFinderModel_basic_161 : decode prog_14_method_20_code 161 = .ok (.iadd, 1) := by decide +kernel
theorem zd_LassoFinderModel_basic_162 : decode prog_14_method_20_code 162 = .ok (.putfield 203, 3) := by decide +kernel
theorem zd_LassoFinderModel_basic_165 : decode prog_14_method_20_code 165 = .ok (.aload_n 0, 1) := by decide +kernel
theorem zd_LassoFinderModel_basic_166 : decode prog_14_method_20_code 166 = .ok (.getfield 57, 3) := by decide +kernel
theorem zd_LassoFinderModel_basic_169 : decode prog_14_method_20_code 169 = .ok (.iload 6, 2) := by decide +kernel
theorem zd_LassoFinderModel_basic_171 : decode prog_14_method_20_code 171 = .ok (.aload_n 0, 1) := by decide +kernel
theorem zd_LassoFinderModel_basic_172 : decode prog_14_method_20_code 172 = .ok (.getfield 217, 3) := by decide +kernel
theorem zd_LassoFinderModel_basic_175 : decode prog_14_method_20_code 175 = .ok (.iastore, 1) := by decide +kernel
theorem zd_LassoFinderModel_basic_176 : decode prog_14_method_20_code 176 = .ok (.aload_n 0, 1) := by decide +kernel
theorem zd_LassoFinderModel_basic_177 : decode prog_14_method_20_code 177 = .ok (.getfield 60, 3) := by decide +kernel
theorem zd_LassoFinderModel_basic_180 : decode prog_14_method_20_code 180 = .ok (.iload 6, 2) := by decide +kernel
theorem zd_LassoFinderModel_basic_182 : decode prog_14_method_20_code 182 = .ok (.aload_n 0, 1) := by decide +kernel
theorem zd_LassoFinderModel_basic_183 : decode prog_14_method_20_code 183 = .ok (.getfield 217, 3) := by decide +kernel
theorem zd_LassoFinderModel_basic_186 : decode prog_14_method_20_code 186 = .ok (.iastore, 1) := by decide +kernel
theorem zd_LassoFinderModel_basic_187 : decode prog_14_method_20_code 187 = .ok (.iload_n 1, 1) := by decide +kernel
theorem zd_LassoFinderModel_basic_188 : decode prog_14_method_20_code 188 = .ok (.bipush 40, 2) := by decide +kernel
theorem zd_LassoFinderModel_basic_190 : decode prog_14_method_20_code 190 = .ok (.if_icmp .ne 31, 3) := by decide +kernel
theorem zd_LassoFinderModel_basic_193 : decode prog_14_method_20_code 193 = .ok (.aload_n 0, 1) := by decide +kernel
theorem zd_LassoFinderModel_basic_194 : decode prog_14_method_20_code 194 = .ok (.iconst 1, 1) := by decide +kernel
theorem zd_LassoFinderModel_basic_195 : decode prog_14_method_20_code 195 = .ok (.invokevirtual 274, 3) := by decide +kernel
theorem zd_LassoFinderModel_basic_198 : decode prog_14_method_20_code 198 = .ok (.ifCond .ne 5, 3) := by decide +kernel
theorem zd_LassoFinderModel_basic_201 : decode prog_14_method_20_code 201 = .ok (.iconst 0, 1) := by decide +kernel
theorem zd_LassoFinderModel_basic_202 : decode prog_14_method_20_code 202 = .ok (.ireturn, 1) := by decide +kernel
theorem zd_LassoFinderModel_basic_203 : decode prog_14_method_20_code 203 = .ok (.aload_n 0, 1) := by decide +kernel
theorem zd_LassoFinderModel_basic_204 : decode prog_14_method_20_code 204 = .ok (.getfield 60, 3) := by decide +kernel
theorem zd_LassoFinderModel_basic_207 : decode prog_14_method_20_code 207 = .ok (.iload 6, 2) := by decide +kernel
theorem zd_LassoFinderModel_basic_209 : decode prog_14_method_20_code 209 = .ok (.aload_n 0, 1) := by decide +kernel
theorem zd_LassoFinderModel_basic_210 : decode prog_14_method_20_code 210 = .ok (.getfield 217, 3) := by decide +kernel
theorem zd_LassoFinderModel_basic_213 : decode prog_14_method_20_code 213 = .ok (.iastore, 1) := by decide +kernel
theorem zd_LassoFinderModel_basic_214 : decode prog_14_method_20_code 214 = .ok (.aload_n 0, 1) := by decide +kernel
theorem zd_LassoFinderModel_basic_215 : decode prog_14_method_20_code 215 = .ok (.bipush 41, 2) := by decide +kernel
theorem zd_LassoFinderModel_basic_217 : decode prog_14_method_20_code 217 = .ok (.invokevirtual 244, 3) := by decide +kernel
theorem zd_LassoFinderModel_basic_220 : decode prog_14_method_20_code 220 = .ok (.ireturn, 1) := by decide +kernel
theorem zd_LassoFinderModel_basic_221 : decode prog_14_method_20_code 221 = .ok (.iload 4, 2) := by decide +kernel
theorem zd_LassoFinderModel_basic_223 : decode prog_14_method_20_code 223 = .ok (.ifCond .ne 5, 3) := by decide +kernel
theorem zd_LassoFinderModel_basic_226 : decode prog_14_method_20_code 226 = .ok (.iconst 1, 1) := by decide +kernel
theorem zd_LassoFinderModel_basic_227 : decode prog_14_method_20_code 227 = .ok (.ireturn, 1) := by decide +kernel
theorem zd_LassoFinderModel_basic_228 : decode prog_14_method_20_code 228 = .ok (.aload_n 0, 1) := by decide +kernel
theorem zd_LassoFinderModel_basic_229 : decode prog_14_method_20_code 229 = .ok (.getfield 17, 3) := by decide +kernel
theorem zd_LassoFinderModel_basic_232 : decode prog_14_method_20_code 232 = .ok (.iload_n 3, 1) := by decide +kernel
theorem zd_LassoFinderModel_basic_233 : decode prog_14_method_20_code 233 = .ok (.iaload, 1) := by decide +kernel
theorem zd_LassoFinderModel_basic_234 : decode prog_14_method_20_code 234 = .ok (.ifCond .lt 27, 3) := by decide +kernel
theorem zd_LassoFinderModel_basic_237 : decode prog_14_method_20_code 237 = .ok (.aload_n 0, 1) := by decide +kernel
theorem zd_LassoFinderModel_basic_238 : decode prog_14_method_20_code 238 = .ok (.getfield 51, 3) := by decide +kernel
theorem zd_LassoFinderModel_basic_241 : decode prog_14_method_20_code 241 = .ok (.iload 6, 2) := by decide +kernel
theorem zd_LassoFinderModel_basic_243 : decode prog_14_method_20_code 243 = .ok (.aload_n 0, 1) := by decide +kernel
theorem zd_LassoFinderModel_basic_244 : decode prog_14_method_20_code 244 = .ok (.getfield 17, 3) := by decide +kernel
theorem zd_LassoFinderModel_basic_247 : decode prog_14_method_20_code 247 = .ok (.iload_n 3, 1) := by decide +kernel
theorem zd_LassoFinderModel_basic_248 : decode prog_14_method_20_code 248 = .ok (.iaload, 1) := by decide +kernel
theorem zd_LassoFinderModel_basic_249 : decode prog_14_method_20_code 249 = .ok (.iastore, 1) := by decide +kernel
theorem zd_LassoFinderModel_basic_250 : decode prog_14_method_20_code 250 = .ok (.aload_n 0, 1) := by decide +kernel
theorem zd_LassoFinderModel_basic_251 : decode prog_14_method_20_code 251 = .ok (.bipush 61, 2) := by decide +kernel
theorem zd_LassoFinderModel_basic_253 : decode prog_14_method_20_code 253 = .ok (.invokevirtual 244, 3) := by decide +kernel
theorem zd_LassoFinderModel_basic_256 : decode prog_14_method_20_code 256 = .ok (.ifCond .ne 120, 3) := by decide +kernel
theorem zd_LassoFinderModel_basic_259 : decode prog_14_method_20_code 259 = .ok (.iconst 0, 1) := by decide +kernel
theorem zd_LassoFinderModel_basic_260 : decode prog_14_method_20_code 260 = .ok (.ireturn, 1) := by decide +kernel
theorem zd_LassoFinderModel_basic_261 : decode prog_14_method_20_code 261 = .ok (.aload_n 0, 1) := by decide +kernel
theorem zd_LassoFinderModel_basic_262 : decode prog_14_method_20_code 262 = .ok (.getfield 51, 3) := by decide +kernel
theorem zd_LassoFinderModel_basic_265 : decode prog_14_method_20_code 265 = .ok (.iload 6, 2) := by decide +kernel
theorem zd_LassoFinderModel_basic_267 : decode prog_14_method_20_code 267 = .ok (.aload_n 0, 1) := by decide +kernel
theorem zd_LassoFinderModel_basic_268 : decode prog_14_method_20_code 268 = .ok (.getfield 20, 3) := by decide +kernel
theorem zd_LassoFinderModel_basic_271 : decode prog_14_method_20_code 271 = .ok (.iload_n 3, 1) := by decide +kernel
theorem zd_LassoFinderModel_basic_272 : decode prog_14_method_20_code 272 = .ok (.iaload, 1) := by decide +kernel
theorem zd_LassoFinderModel_basic_273 : decode prog_14_method_20_code 273 = .ok (.iastore, 1) := by decide +kernel
theorem zd_LassoFinderModel_basic_274 : decode prog_14_method_20_code 274 = .ok (.aload_n 0, 1) := by decide +kernel
theorem zd_LassoFinderModel_basic_275 : decode prog_14_method_20_code 275 = .ok (.invokevirtual 209, 3) := by decide +kernel
theorem zd_LassoFinderModel_basic_278 : decode prog_14_method_20_code 278 = .ok (.bipush 63, 2) := by decide +kernel
theorem zd_LassoFinderModel_basic_280 : decode prog_14_method_20_code 280 = .ok (.if_icmp .ne 77, 3) := by decide +kernel
theorem zd_LassoFinderModel_basic_283 : decode prog_14_method_20_code 283 = .ok (.aload_n 0, 1) := by decide +kernel
theorem zd_LassoFinderModel_basic_284 : decode prog_14_method_20_code 284 = .ok (.getfield 29, 3) := by decide +kernel
theorem zd_LassoFinderModel_basic_287 : decode prog_14_method_20_code 287 = .ok (.iload 6, 2) := by decide +kernel
theorem zd_LassoFinderModel_basic_289 : decode prog_14_method_20_code 289 = .ok (.iconst 3, 1) := by decide +kernel
theorem zd_LassoFinderModel_basic_290 : decode prog_14_method_20_code 290 = .ok (.iastore, 1) := by decide +kernel
theorem zd_LassoFinderModel_basic_291 : decode prog_14_method_20_code 291 = .ok (.aload_n 0, 1) := by decide +kernel
theorem zd_LassoFinderModel_basic_292 : decode prog_14_method_20_code 292 = .ok (.dup, 1) := by decide +kernel
theorem zd_LassoFinderModel_basic_293 : decode prog_14_method_20_code 293 = .ok (.getfield 203, 3) := by decide +kernel
theorem zd_LassoFinderModel_basic_296 : decode prog_14_method_20_code 296 = .ok (.iconst 1, 1) := by decide +kernel
theorem zd_LassoFinderModel_basic_297 : decode prog_14_method_20_code 297 = .ok (.iadd, 1) := by decide +kernel
theorem zd_LassoFinderModel_basic_298 : decode prog_14_method_20_code 298 = .ok (.putfield 203, 3) := by decide +kernel
theorem zd_LassoFinderModel_basic_301 : decode prog_14_method_20_code 301 = .ok (.aload_n 0, 1) := by decide +kernel
theorem zd_LassoFinderModel_basic_302 : decode prog_14_method_20_code 302 = .ok (.bipush 97, 2) := by decide +kernel
theorem zd_LassoFinderModel_basic_304 : decode prog_14_method_20_code 304 = .ok (.bipush 8, 2) := by decide +kernel
theorem zd_LassoFinderModel_basic_306 : decode prog_14_method_20_code 306 = .ok (.invokevirtual 231, 3) := by decide +kernel
theorem zd_LassoFinderModel_basic_309 : decode prog_14_method_20_code 309 = .ok (.istore 7, 2) := by decide +kernel
theorem zd_LassoFinderModel_basic_311 : decode prog_14_method_20_code 311 = .ok (.iload 7, 2) := by decide +kernel
theorem zd_LassoFinderModel_basic_313 : decode prog_14_method_20_code 313 = .ok (.ifCond .lt 13, 3) := by decide +kernel
theorem zd_LassoFinderModel_basic_316 : decode prog_14_method_20_code 316 = .ok (.aload_n 0, 1) := by decide +kernel
theorem zd_LassoFinderModel_basic_317 : decode prog_14_method_20_code 317 = .ok (.getfield 17, 3) := by decide +kernel
theorem zd_LassoFinderModel_basic_320 : decode prog_14_method_20_code 320 = .ok (.iload 7, 2) := by decide +kernel
theorem zd_LassoFinderModel_basic_322 : decode prog_14_method_20_code 322 = .ok (.iaload, 1) := by decide +kernel
theorem zd_LassoFinderModel_basic_323 : decode prog_14_method_20_code 323 = .ok (.ifCond .ge 8, 3) := by decide +kernel
theorem zd_LassoFinderModel_basic_326 : decode prog_14_method_20_code 326 = .ok (.aload_n 0, 1) := by decide +kernel
theorem zd_LassoFinderModel_basic_327 : decode prog_14_method_20_code 327 = .ok (.invokevirtual 213, 3) := by decide +kernel
theorem zd_LassoFinderModel_basic_330 : decode prog_14_method_20_code 330 = .ok (.ireturn, 1) := by decide +kernel
theorem zd_LassoFinderModel_basic_331 : decode prog_14_method_20_code 331 = .ok (.aload_n 0, 1) := by decide +kernel
theorem zd_LassoFinderModel_basic_332 : decode prog_14_method_20_code 332 = .ok (.getfield 54, 3) := by decide +kernel
theorem zd_LassoFinderModel_basic_335 : decode prog_14_method_20_code 335 = .ok (.iload 6, 2) := by decide +kernel
theorem zd_LassoFinderModel_basic_337 : decode prog_14_method_20_code 337 = .ok (.aload_n 0, 1) := by decide +kernel
theorem zd_LassoFinderModel_basic_338 : decode prog_14_method_20_code 338 = .ok (.getfield 17, 3) := by decide +kernel
theorem zd_LassoFinderModel_basic_341 : decode prog_14_method_20_code 341 = .ok (.iload 7, 2) := by decide +kernel
theorem zd_LassoFinderModel_basic_343 : decode prog_14_method_20_code 343 = .ok (.iaload, 1) := by decide +kernel
theorem zd_LassoFinderModel_basic_344 : decode prog_14_method_20_code 344 = .ok (.iastore, 1) := by decide +kernel
theorem zd_LassoFinderModel_basic_345 : decode prog_14_method_20_code 345 = .ok (.aload_n 0, 1) := by decide +kernel
theorem zd_LassoFinderModel_basic_346 : decode prog_14_method_20_code 346 = .ok (.dup, 1) := by decide +kernel
theorem zd_LassoFinderModel_basic_347 : decode prog_14_method_20_code 347 = .ok (.getfield 203, 3) := by decide +kernel
theorem zd_LassoFinderModel_basic_350 : decode prog_14_method_20_code 350 = .ok (.iconst 1, 1) := by decide +kernel
theorem zd_LassoFinderModel_basic_351 : decode prog_14_method_20_code 351 = .ok (.iadd, 1) := by decide +kernel
theorem zd_LassoFinderModel_basic_352 : decode prog_14_method_20_code 352 = .ok (.putfield 203, 3) := by decide +kernel
theorem zd_LassoFinderModel_basic_355 : decode prog_14_method_20_code 355 = .ok (.iconst 1, 1) := by decide +kernel
theorem zd_LassoFinderModel_basic_356 : decode prog_14_method_20_code 356 = .ok (.ireturn, 1) := by decide +kernel
theorem zd_LassoFinderModel_basic_357 : decode prog_14_method_20_code 357 = .ok (.aload_n 0, 1) := by decide +kernel
theorem zd_LassoFinderModel_basic_358 : decode prog_14_method_20_code 358 = .ok (.getfield 29, 3) := by decide +kernel
theorem zd_LassoFinderModel_basic_361 : decode prog_14_method_20_code 361 = .ok (.iload 6, 2) := by decide +kernel
theorem zd_LassoFinderModel_basic_363 : decode prog_14_method_20_code 363 = .ok (.iconst 2, 1) := by decide +kernel
theorem zd_LassoFinderModel_basic_364 : decode prog_14_method_20_code 364 = .ok (.iastore, 1) := by decide +kernel
theorem zd_LassoFinderModel_basic_365 : decode prog_14_method_20_code 365 = .ok (.aload_n 0, 1) := by decide +kernel
theorem zd_LassoFinderModel_basic_366 : decode prog_14_method_20_code 366 = .ok (.bipush 33, 2) := by decide +kernel
theorem zd_LassoFinderModel_basic_368 : decode prog_14_method_20_code 368 = .ok (.invokevirtual 244, 3) := by decide +kernel
theorem zd_LassoFinderModel_basic_371 : decode prog_14_method_20_code 371 = .ok (.ifCond .ne 5, 3) := by decide +kernel
theorem zd_LassoFinderModel_basic_374 : decode prog_14_method_20_code 374 = .ok (.iconst 0, 1) := by decide +kernel
theorem zd_LassoFinderModel_basic_375 : decode prog_14_method_20_code 375 = .ok (.ireturn, 1) := by decide +kernel
theorem zd_LassoFinderModel_basic_376 : decode prog_14_method_20_code 376 = .ok (.aload_n 0, 1) := by decide +kernel
theorem zd_LassoFinderModel_basic_377 : decode prog_14_method_20_code 377 = .ok (.iconst 0, 1) := by decide +kernel
theorem zd_LassoFinderModel_basic_378 : decode prog_14_method_20_code 378 = .ok (.invokevirtual 274, 3) := by decide +kernel
theorem zd_LassoFinderModel_basic_381 : decode prog_14_method_20_code 381 = .ok (.ifCond .ne 5, 3) := by decide +kernel
theorem zd_LassoFinderModel_basic_384 : decode prog_14_method_20_code 384 = .ok (.iconst 0, 1) := by decide +kernel
theorem zd_LassoFinderModel_basic_385 : decode prog_14_method_20_code 385 = .ok (.ireturn, 1) := by decide +kernel
theorem zd_LassoFinderModel_basic_386 : decode prog_14_method_20_code 386 = .ok (.aload_n 0, 1) := by decide +kernel
theorem zd_LassoFinderModel_basic_387 : decode prog_14_method_20_code 387 = .ok (.getfield 60, 3) := by decide +kernel
theorem zd_LassoFinderModel_basic_390 : decode prog_14_method_20_code 390 = .ok (.iload 6, 2) := by decide +kernel
theorem zd_LassoFinderModel_basic_392 : decode prog_14_method_20_code 392 = .ok (.aload_n 0, 1) := by decide +kernel
theorem zd_LassoFinderModel_basic_393 : decode prog_14_method_20_code 393 = .ok (.getfield 217, 3) := by decide +kernel
theorem zd_LassoFinderModel_basic_396 : decode prog_14_method_20_code 396 = .ok (.iastore, 1) := by decide +kernel
theorem zd_LassoFinderModel_basic_397 : decode prog_14_method_20_code 397 = .ok (.iconst 1, 1) := by decide +kernel
theorem zd_LassoFinderModel_basic_398 : decode prog_14_method_20_code 398 = .ok (.ireturn, 1) := by decide +kernel
theorem zd_LassoFinderModel_statement_0 : decode prog_14_method_19_code 0 = .ok (.aload_n 0, 1) := by decide +kernel
theorem zd_LassoFinderModel_statement_1 : decode prog_14_method_19_code 1 = .ok (.invokevirtual 209, 3) := by decide +kernel
theorem zd_LassoFinderModel_statement_4 : decode prog_14_method_19_code 4 = .ok (.istore_n 1, 1) := by decide +kernel
theorem zd_LassoFinderModel_statement_5 : decode prog_14_method_19_code 5 = .ok (.aload_n 0, 1) := by decide +kernel
theorem zd_LassoFinderModel_statement_6 : decode prog_14_method_19_code 6 = .ok (.getfield 94, 3) := by decide +kernel
theorem zd_LassoFinderModel_statement_9 : decode prog_14_method_19_code 9 = .ok (.aload_n 0, 1) := by decide +kernel
theorem zd_LassoFinderModel_statement_10 : decode prog_14_method_19_code 10 = .ok (.getfield 248, 3) := by decide +kernel
theorem zd_LassoFinderModel_statement_13 : decode prog_14_method_19_code 13 = .ok (.iaload, 1) := by decide +kernel
theorem zd_LassoFinderModel_statement_14 : decode prog_14_method_19_code 14 = .ok (.ifCond .le 19, 3) := by decide +kernel
theorem zd_LassoFinderModel_statement_17 : decode prog_14_method_19_code 17 = .ok (.aload_n 0, 1) := by decide +kernel
theorem zd_LassoFinderModel_statement_18 : decode prog_14_method_19_code 18 = .ok (.getfield 100, 3) := by decide +kernel
theorem zd_LassoFinderModel_statement_21 : decode prog_14_method_19_code 21 = .ok (.aload_n 0, 1) := by decide +kernel
theorem zd_LassoFinderModel_statement_22 : decode prog_14_method_19_code 22 = .ok (.getfield 248, 3) := by decide +kernel
theorem zd_LassoFinderModel_statement_25 : decode prog_14_method_19_code 25 = .ok (.iaload, 1) := by decide +kernel
theorem zd_LassoFinderModel_statement_26 : decode prog_14_method_19_code 26 = .ok (.ifCond .ge 7, 3) := by decide +kernel
theorem zd_LassoFinderModel_statement_29 : decode prog_14_method_19_code 29 = .ok (.iconst 1, 1) := by decide +kernel
theorem zd_LassoFinderModel_statement_30 : decode prog_14_method_19_code 30 = .ok (.goto 4, 3) := by decide +kernel
theorem zd_LassoFinderModel_statement_33 : decode prog_14_method_19_code 33 = .ok (.iconst 0, 1) := by decide +kernel
theorem zd_LassoFinderModel_statement_34 : decode prog_14_method_19_code 34 = .ok (.istore_n 2, 1) := by decide +kernel
theorem zd_LassoFinderModel_statement_35 : decode prog_14_method_19_code 35 = .ok (.iload_n 1, 1) := by decide +kernel
theorem zd_LassoFinderModel_statement_36 : decode prog_14_method_19_code 36 = .ok (.bipush 91, 2) := by decide +kernel
theorem zd_LassoFinderModel_statement_38 : decode prog_14_method_19_code 38 = .ok (.if_icmp .eq 9, 3) := by decide +kernel
theorem zd_LassoFinderModel_statement_41 : decode prog_14_method_19_code 41 = .ok (.iload_n 1, 1) := by decide +kernel
theorem zd_LassoFinderModel_statement_42 : decode prog_14_method_19_code 42 = .ok (.bipush 42, 2) := by decide +kernel
theorem zd_LassoFinderModel_statement_44 : decode prog_14_method_19_code 44 = .ok (.if_icmp .ne 101, 3) := by decide +kernel
theorem zd_LassoFinderModel_statement_47 : decode prog_14_method_19_code 47 = .ok (.aload_n 0, 1) := by decide +kernel
theorem zd_LassoFinderModel_statement_48 : decode prog_14_method_19_code 48 = .ok (.getfield 75, 3) := by decide +kernel
theorem zd_LassoFinderModel_statement_51 : decode prog_14_method_19_code 51 = .ok (.aload_n 0, 1) := by decide +kernel
theorem zd_LassoFinderModel_statement_52 : decode prog_14_method_19_code 52 = .ok (.getfield 254, 3) := by decide +kernel
theorem zd_LassoFinderModel_statement_55 : decode prog_14_method_19_code 55 = .ok (.iaload, 1) := by decide +kernel
theorem zd_LassoFinderModel_statement_56 : decode prog_14_method_19_code 56 = .ok (.bipush 30, 2) := by decide +kernel
theorem zd_LassoFinderModel_statement_58 : decode prog_14_method_19_code 58 = .ok (.if_icmp .ne 8, 3) := by decide +kernel
theorem zd_LassoFinderModel_statement_61 : decode prog_14_method_19_code 61 = .ok (.aload_n 0, 1) := by decide +kernel
theorem zd_LassoFinderModel_statement_62 : decode prog_14_method_19_code 62 = .ok (.invokevirtual 213, 3) := by decide +kernel
theorem zd_LassoFinderModel_statement_65 : decode prog_14_method_19_code 65 = .ok (.ireturn, 1) := by decide +kernel
theorem zd_LassoFinderModel_statement_66 : decode prog_14_method_19_code 66 = .ok (.aload_n 0, 1) := by decide +kernel
theorem zd_LassoFinderModel_statement_67 : decode prog_14_method_19_code 67 = .ok (.dup, 1) := by decide +kernel
theorem zd_LassoFinderModel_statement_68 : decode prog_14_method_19_code 68 = .ok (.getfield 203, 3) := by decide +kernel
theorem zd_LassoFinderModel_statement_71 : decode prog_14_method_19_code 71 = .ok (.iload_n 1, 1) := by decide +kernel
theorem zd_LassoFinderModel_statement_72 : decode prog_14_method_19_code 72 = .ok (.bipush 42, 2) := by decide +kernel
theorem zd_LassoFinderModel_statement_74 : decode prog_14_method_19_code 74 = .ok (.if_icmp .ne 7, 3) := by decide +kernel
theorem zd_LassoFinderModel_statement_77 : decode prog_14_method_19_code 77 = .ok (.iconst 1, 1) := by decide +kernel
theorem zd_LassoFinderModel_statement_78 : decode prog_14_method_19_code 78 = .ok (.goto 4, 3) := by decide +kernel
theorem zd_LassoFinderModel_statement_81 : decode prog_14_method_19_code 81 = .ok (.iconst 0, 1) := by decide +kernel
theorem zd_LassoFinderModel_statement_82 : decode prog_14_method_19_code 82 = .ok (.iadd, 1) := by decide +kernel
theorem zd_LassoFinderModel_statement_83 : decode prog_14_method_19_code 83 = .ok (.putfield 203, 3) := by decide +kernel
theorem zd_LassoFinderModel_statement_86 : decode prog_14_method_19_code 86 = .ok (.aload_n 0, 1) := by decide +kernel
theorem zd_LassoFinderModel_statement_87 : decode prog_14_method_19_code 87 = .ok (.invokevirtual 209, 3) := by decide +kernel
theorem zd_LassoFinderModel_statement_90 : decode prog_14_method_19_code 90 = .ok (.bipush 91, 2) := by decide +kernel
theorem zd_LassoFinderModel_statement_92 : decode prog_14_method_19_code 92 = .ok (.if_icmp .ne 12, 3) := by decide +kernel
theorem zd_LassoFinderModel_statement_95 : decode prog_14_method_19_code 95 = .ok (.aload_n 0, 1) := by decide +kernel
theorem zd_LassoFinderModel_statement_96 : decode prog_14_method_19_code 96 = .ok (.getfield 248, 3) := by decide +kernel
theorem zd_LassoFinderModel_statement_99 : decode prog_14_method_19_code 99 = .ok (.bipush 6, 2) := by decide +kernel
theorem zd_LassoFinderModel_statement_101 : decode prog_14_method_19_code 101 = .ok (.if_icmp .ne 8, 3) := by decide +kernel
theorem zd_LassoFinderModel_statement_104 : decode prog_14_method_19_code 104 = .ok (.aload_n 0, 1) := by decide +kernel
theorem zd_LassoFinderModel_statement_105 : decode prog_14_method_19_code 105 = .ok (.invokevirtual 213, 3) := by decide +kernel
theorem zd_LassoFinderModel_statement_108 : decode prog_14_method_19_code 108 = .ok (.ireturn, 1) := by decide +kernel
theorem zd_LassoFinderModel_statement_109 : decode prog_14_method_19_code 109 = .ok (.aload_n 0, 1) := by decide +kernel
theorem zd_LassoFinderModel_statement_110 : decode prog_14_method_19_code 110 = .ok (.iload_n 1, 1) := by decide +kernel
theorem zd_LassoFinderModel_statement_111 : decode prog_14_method_19_code 111 = .ok (.bipush 42, 2) := by decide +kernel
theorem zd_LassoFinderModel_statement_113 : decode prog_14_method_19_code 113 = .ok (.if_icmp .ne 8, 3) := by decide +kernel
theorem zd_LassoFinderModel_statement_116 : decode prog_14_method_19_code 116 = .ok (.bipush 7, 2) := by decide +kernel
theorem zd_LassoFinderModel_statement_118 : decode prog_14_method_19_code 118 = .ok (.goto 5, 3) := by decide +kernel
theorem zd_LassoFinderModel_statement_121 : decode prog_14_method_19_code 121 = .ok (.bipush 6, 2) := by decide +kernel
theorem zd_LassoFinderModel_statement_123 : decode prog_14_method_19_code 123 = .ok (.invokevirtual 260, 3) := by decide +kernel
theorem zd_LassoFinderModel_statement_126 : decode prog_14_method_19_code 126 = .ok (.istore_n 3, 1) := by decide +kernel
theorem zd_LassoFinderModel_statement_127 : decode prog_14_method_19_code 127 = .ok (.aload_n 0, 1) := by decide +kernel
theorem zd_LassoFinderModel_statement_128 : decode prog_14_method_19_code 128 = .ok (.iload_n 1, 1) := by decide +kernel
theorem zd_LassoFinderModel_statement_129 : decode prog_14_method_19_code 129 = .ok (.bipush 42, 2) := by decide +kernel
theorem zd_LassoFinderModel_statement_131 : decode prog_14_method_19_code 131 = .ok (.if_icmp .ne 7, 3) := by decide +kernel
theorem zd_LassoFinderModel_statement_134 : decode prog_14_method_19_code 134 = .ok (.iconst 2, 1) := by decide +kernel
theorem zd_LassoFinderModel_statement_135 : decode prog_14_method_19_code 135 = .ok (.goto 4, 3) := by decide +kernel
theorem zd_LassoFinderModel_statement_138 : decode prog_14_method_19_code 138 = .ok (.iconst 1, 1) := by decide +kernel
theorem zd_LassoFinderModel_statement_139 : decode prog_14_method_19_code 139 = .ok (.iload_n 3, 1) := by decide +kernel
theorem zd_LassoFinderModel_statement_140 : decode prog_14_method_19_code 140 = .ok (.invokevirtual 263, 3) := by decide +kernel
theorem zd_LassoFinderModel_statement_143 : decode prog_14_method_19_code 143 = .ok (.iconst 1, 1) := by decide +kernel
theorem zd_LassoFinderModel_statement_144 : decode prog_14_method_19_code 144 = .ok (.ireturn, 1) := by decide +kernel
theorem zd_LassoFinderModel_statement_145 : decode prog_14_method_19_code 145 = .ok (.iload_n 1, 1) := by decide +kernel
theorem zd_LassoFinderModel_statement_146 : decode prog_14_method_19_code 146 = .ok (.bipush 60, 2) := by decide +kernel
theorem zd_LassoFinderModel_statement_148 : decode prog_14_method_19_code 148 = .ok (.if_icmp .ne 40, 3) := by decide +kernel
theorem zd_LassoFinderModel_statement_151 : decode prog_14_method_19_code 151 = .ok (.aload_n 0, 1) := by decide +kernel
theorem zd_LassoFinderModel_statement_152 : decode prog_14_method_19_code 152 = .ok (.iconst 3, 1) := by decide +kernel
theorem zd_LassoFinderModel_statement_153 : decode prog_14_method_19_code 153 = .ok (.invokevirtual 267, 3) := by decide +kernel
theorem zd_LassoFinderModel_statement_156 : decode prog_14_method_19_code 156 = .ok (.ifCond .ne 12, 3) := by decide +kernel
theorem zd_LassoFinderModel_statement_159 : decode prog_14_method_19_code 159 = .ok (.aload_n 0, 1) := by decide +kernel
theorem zd_LassoFinderModel_statement_160 : decode prog_14_method_19_code 160 = .ok (.getfield 248, 3) := by decide +kernel
theorem zd_LassoFinderModel_statement_163 : decode prog_14_method_19_code 163 = .ok (.bipush 6, 2) := by decide +kernel
theorem zd_LassoFinderModel_statement_165 : decode prog_14_method_19_code 165 = .ok (.if_icmp .ne 8, 3) := by decide +kernel
theorem zd_LassoFinderModel_statement_168 : decode prog_14_method_19_code 168 = .ok (.aload_n 0, 1) := by decide +kernel
theorem zd_LassoFinderModel_statement_169 : decode prog_14_method_19_code 169 = .ok (.invokevirtual 213, 3) := by decide +kernel
theorem zd_LassoFinderModel_statement_172 : decode prog_14_method_19_code 172 = .ok (.ireturn, 1) := by decide +kernel
theorem zd_LassoFinderModel_statement_173 : decode prog_14_method_19_code 173 = .ok (.aload_n 0, 1) := by decide +kernel
theorem zd_LassoFinderModel_statement_174 : decode prog_14_method_19_code 174 = .ok (.bipush 8, 2) := by decide +kernel
theorem zd_LassoFinderModel_statement_176 : decode prog_14_method_19_code 176 = .ok (.invokevirtual 260, 3) := by decide +kernel
theorem zd_LassoFinderModel_statement_179 : decode prog_14_method_19_code 179 = .ok (.istore_n 3, 1) := by decide +kernel
theorem zd_LassoFinderModel_statement_180 : decode prog_14_method_19_code 180 = .ok (.aload_n 0, 1) := by decide +kernel
theorem zd_LassoFinderModel_statement_181 : decode prog_14_method_19_code 181 = .ok (.iconst 3, 1) := by decide +kernel
theorem zd_LassoFinderModel_statement_182 : decode prog_14_method_19_code 182 = .ok (.iload_n 3, 1) := by decide +kernel
theorem zd_LassoFinderModel_statement_183 : decode prog_14_method_19_code 183 = .ok (.invokevirtual 263, 3) := by decide +kernel
theorem zd_LassoFinderModel_statement_186 : decode prog_14_method_19_code 186 = .ok (.iconst 1, 1) := by decide +kernel
theorem zd_LassoFinderModel_statement_187 : decode prog_14_method_19_code 187 = .ok (.ireturn, 1) := by decide +kernel
theorem zd_LassoFinderModel_statement_188 : decode prog_14_method_19_code 188 = .ok (.iload_n 1, 1) := by decide +kernel
theorem zd_LassoFinderModel_statement_189 : decode prog_14_method_19_code 189 = .ok (.bipush 46, 2) := by decide +kernel
theorem zd_LassoFinderModel_statement_191 : decode prog_14_method_19_code 191 = .ok (.if_icmp .ne 39, 3) := by decide +kernel
theorem zd_LassoFinderModel_statement_194 : decode prog_14_method_19_code 194 = .ok (.aload_n 0, 1) := by decide +kernel
theorem zd_LassoFinderModel_statement_195 : decode prog_14_method_19_code 195 = .ok (.iconst 2, 1) := by decide +kernel
theorem zd_LassoFinderModel_statement_196 : decode prog_14_method_19_code 196 = .ok (.invokevirtual 267, 3) := by decide +kernel
theorem zd_LassoFinderModel_statement_199 : decode prog_14_method_19_code 199 = .ok (.ifCond .eq 7, 3) := by decide +kernel
theorem zd_LassoFinderModel_statement_202 : decode prog_14_method_19_code 202 = .ok (.iload_n 2, 1) := by decide +kernel
theorem zd_LassoFinderModel_statement_203 : decode prog_14_method_19_code 203 = .ok (.ifCond .eq 8, 3) := by decide +kernel
theorem zd_LassoFinderModel_statement_206 : decode prog_14_method_19_code 206 = .ok (.aload_n 0, 1) := by decide +kernel
theorem zd_LassoFinderModel_statement_207 : decode prog_14_method_19_code 207 = .ok (.invokevirtual 213, 3) := by decide +kernel
theorem zd_LassoFinderModel_statement_210 : decode prog_14_method_19_code 210 = .ok (.ireturn, 1) := by decide +kernel
theorem zd_LassoFinderModel_statement_211 : decode prog_14_method_19_code 211 = .ok (.aload_n 0, 1) := by decide +kernel
theorem zd_LassoFinderModel_statement_212 : decode prog_14_method_19_code 212 = .ok (.bipush 9, 2) := by decide +kernel
theorem zd_LassoFinderModel_statement_214 : decode prog_14_method_19_code 214 = .ok (.invokevirtual 260, 3) := by decide +kernel
theorem zd_LassoFinderModel_statement_217 : decode prog_14_method_19_code 217 = .ok (.istore_n 3, 1) := by decide +kernel
theorem zd_LassoFinderModel_statement_218 : decode prog_14_method_19_code 218 = .ok (.aload_n 0, 1) := by decide +kernel
theorem zd_LassoFinderModel_statement_219 : decode prog_14_method_19_code 219 = .ok (.dup, 1) := by decide +kernel
theorem zd_LassoFinderModel_statement_220 : decode prog_14_method_19_code 220 = .ok (.getfield 203, 3) := by decide +kernel
theorem zd_LassoFinderModel_statement_223 : decode prog_14_method_19_code 223 = .ok (.iconst 1, 1) := by decide +kernel
theorem zd_LassoFinderModel_statement_224 : decode prog_14_method_19_code 224 = .ok (.iadd, 1) := by decide +kernel
theorem zd_LassoFinderModel_statement_225 : decode prog_14_method_19_code 225 = .ok (.putfield 203, 3) := by decide +kernel
theorem zd_LassoFinderModel_statement_228 : decode prog_14_method_19_code 228 = .ok (.iconst 1, 1) := by decide +kernel
theorem zd_LassoFinderModel_statement_229 : decode prog_14_method_19_code 229 = .ok (.ireturn, 1) := by decide +kernel
theorem zd_LassoFinderModel_statement_230 : decode prog_14_method_19_code 230 = .ok (.iload_n 1, 1) := by decide +kernel
theorem zd_LassoFinderModel_statement_231 : decode prog_14_method_19_code 231 = .ok (.bipush 94, 2) := by decide +kernel
theorem zd_LassoFinderModel_statement_233 : decode prog_14_method_19_code 233 = .ok (.if_icmp .ne 81, 3) := by decide +kernel
theorem zd_LassoFinderModel_statement_236 : decode prog_14_method_19_code 236 = .ok (.iload_n 2, 1) := by decide +kernel
theorem zd_LassoFinderModel_statement_237 : decode prog_14_method_19_code 237 = .ok (.ifCond .eq 8, 3) := by decide +kernel
theorem zd_LassoFinderModel_statement_240 : decode prog_14_method_19_code 240 = .ok (.aload_n 0, 1) := by decide +kernel
theorem zd_LassoFinderModel_statement_241 : decode prog_14_method_19_code 241 = .ok (.invokevirtual 213, 3) := by decide +kernel
theorem zd_LassoFinderModel_statement_244 : decode prog_14_method_19_code 244 = .ok (.ireturn, 1) := by decide +kernel
theorem zd_LassoFinderModel_statement_245 : decode prog_14_method_19_code 245 = .ok (.aload_n 0, 1) := by decide +kernel
theorem zd_LassoFinderModel_statement_246 : decode prog_14_method_19_code 246 = .ok (.dup, 1) := by decide +kernel
theorem zd_LassoFinderModel_statement_247 : decode prog_14_method_19_code 247 = .ok (.getfield 203, 3) := by decide +kernel
theorem zd_LassoFinderModel_statement_250 : decode prog_14_method_19_code 250 = .ok (.iconst 1, 1) := by decide +kernel
theorem zd_LassoFinderModel_statement_251 : decode prog_14_method_19_code 251 = .ok (.iadd, 1) := by decide +kernel
theorem zd_LassoFinderModel_statement_252 : decode prog_14_method_19_code 252 = .ok (.putfield 203, 3) := by decide +kernel
theorem zd_LassoFinderModel_statement_255 : decode prog_14_method_19_code 255 = .ok (.aload_n 0, 1) := by decide +kernel
theorem zd_LassoFinderModel_statement_256 : decode prog_14_method_19_code 256 = .ok (.bipush 65, 2) := by decide +kernel
theorem zd_LassoFinderModel_statement_258 : decode prog_14_method_19_code 258 = .ok (.bipush 8, 2) := by decide +kernel
theorem zd_LassoFinderModel_statement_260 : decode prog_14_method_19_code 260 = .ok (.invokevirtual 231, 3) := by decide +kernel
theorem zd_LassoFinderModel_statement_263 : decode prog_14_method_19_code 263 = .ok (.ifCond .ge 8, 3) := by decide +kernel
theorem zd_LassoFinderModel_statement_266 : decode prog_14_method_19_code 266 = .ok (.aload_n 0, 1) := by decide +kernel
theorem zd_LassoFinderModel_statement_267 : decode prog_14_method_19_code 267 = .ok (.invokevirtual 213, 3) := by decide +kernel
theorem zd_LassoFinderModel_statement_270 : decode prog_14_method_19_code 270 = .ok (.ireturn, 1) := by decide +kernel
theorem zd_LassoFinderModel_statement_271 : decode prog_14_method_19_code 271 = .ok (.aload_n 0, 1) := by decide +kernel
theorem zd_LassoFinderModel_statement_272 : decode prog_14_method_19_code 272 = .ok (.bipush 10, 2) := by decide +kernel
theorem zd_LassoFinderModel_statement_274 : decode prog_14_method_19_code 274 = .ok (.invokevirtual 260, 3) := by decide +kernel
theorem zd_LassoFinderModel_statement_277 : decode prog_14_method_19_code 277 = .ok (.istore_n 3, 1) := by decide +kernel
theorem zd_LassoFinderModel_statement_278 : decode prog_14_method_19_code 278 = .ok (.aload_n 0, 1) := by decide +kernel
theorem zd_LassoFinderModel_statement_279 : decode prog_14_method_19_code 279 = .ok (.getfield 51, 3) := by decide +kernel
theorem zd_LassoFinderModel_statement_282 : decode prog_14_method_19_code 282 = .ok (.iload_n 3, 1) := by decide +kernel
theorem zd_LassoFinderModel_statement_283 : decode prog_14_method_19_code 283 = .ok (.aload_n 0, 1) := by decide +kernel
theorem zd_LassoFinderModel_statement_284 : decode prog_14_method_19_code 284 = .ok (.bipush 65, 2) := by decide +kernel
theorem zd_LassoFinderModel_statement_286 : decode prog_14_method_19_code 286 = .ok (.bipush 8, 2) := by decide +kernel
theorem zd_LassoFinderModel_statement_288 : decode prog_14_method_19_code 288 = .ok (.invokevirtual 231, 3) := by decide +kernel
theorem zd_LassoFinderModel_statement_291 : decode prog_14_method_19_code 291 = .ok (.iastore, 1) := by decide +kernel
theorem zd_LassoFinderModel_statement_292 : decode prog_14_method_19_code 292 = .ok (.aload_n 0, 1) := by decide +kernel
theorem zd_LassoFinderModel_statement_293 : decode prog_14_method_19_code 293 = .ok (.getfield 63, 3) := by decide +kernel
theorem zd_LassoFinderModel_statement_296 : decode prog_14_method_19_code 296 = .ok (.iload_n 3, 1) := by decide +kernel
theorem zd_LassoFinderModel_statement_297 : decode prog_14_method_19_code 297 = .ok (.aload_n 0, 1) := by decide +kernel
theorem zd_LassoFinderModel_statement_298 : decode prog_14_method_19_code 298 = .ok (.getfield 203, 3) := by decide +kernel
theorem zd_LassoFinderModel_statement_301 : decode prog_14_method_19_code 301 = .ok (.iastore, 1) := by decide +kernel
theorem zd_LassoFinderModel_statement_302 : decode prog_14_method_19_code 302 = .ok (.aload_n 0, 1) := by decide +kernel
theorem zd_LassoFinderModel_statement_303 : decode prog_14_method_19_code 303 = .ok (.dup, 1) := by decide +kernel
theorem zd_LassoFinderModel_statement_304 : decode prog_14_method_19_code 304 = .ok (.getfield 203, 3) := by decide +kernel
theorem zd_LassoFinderModel_statement_307 : decode prog_14_method_19_code 307 = .ok (.iconst 1, 1) := by decide +kernel
theorem zd_LassoFinderModel_statement_308 : decode prog_14_method_19_code 308 = .ok (.iadd, 1) := by decide +kernel
theorem zd_LassoFinderModel_statement_309 : decode prog_14_method_19_code 309 = .ok (.putfield 203, 3) := by decide +kernel
theorem zd_LassoFinderModel_statement_312 : decode prog_14_method_19_code 312 = .ok (.iconst 1, 1) := by decide +kernel
theorem zd_LassoFinderModel_statement_313 : decode prog_14_method_19_code 313 = .ok (.ireturn, 1) := by decide +kernel
theorem zd_LassoFinderModel_statement_314 : decode prog_14_method_19_code 314 = .ok (.aload_n 0, 1) := by decide +kernel
theorem zd_LassoFinderModel_statement_315 : decode prog_14_method_19_code 315 = .ok (.iload_n 1, 1) := by decide +kernel
theorem zd_LassoFinderModel_statement_316 : decode prog_14_method_19_code 316 = .ok (.iload_n 2, 1) := by decide +kernel
theorem zd_LassoFinderModel_statement_317 : decode prog_14_method_19_code 317 = .ok (.invokevirtual 270, 3) := by decide +kernel
theorem zd_LassoFinderModel_statement_320 : decode prog_14_method_19_code 320 = .ok (.ireturn, 1) := by decide +kernel
theorem zd_LassoFinderModel_takes_0 : decode prog_14_method_7_code 0 = .ok (.aload_n 0, 1) := by decide +kernel
theorem zd_LassoFinderModel_takes_1 : decode prog_14_method_7_code 1 = .ok (.invokevirtual 209, 3) := by decide +kernel
theorem zd_LassoFinderModel_takes_4 : decode prog_14_method_7_code 4 = .ok (.iload_n 1, 1) := by decide +kernel
theorem zd_LassoFinderModel_takes_5 : decode prog_14_method_7_code 5 = .ok (.if_icmp .eq 8, 3) := by decide +kernel
theorem zd_LassoFinderModel_takes_8 : decode prog_14_method_7_code 8 = .ok (.aload_n 0, 1) := by decide +kernel
theorem zd_LassoFinderModel_takes_9 : decode prog_14_method_7_code 9 = .ok (.invokevirtual 213, 3) := by decide +kernel
theorem zd_LassoFinderModel_takes_12 : decode prog_14_method_7_code 12 = .ok (.ireturn, 1) := by decide +kernel
theorem zd_LassoFinderModel_takes_13 : decode prog_14_method_7_code 13 = .ok (.aload_n 0, 1) := by decide +kernel
theorem zd_LassoFinderModel_takes_14 : decode prog_14_method_7_code 14 = .ok (.dup, 1) := by decide +kernel
theorem zd_LassoFinderModel_takes_15 : decode prog_14_method_7_code 15 = .ok (.getfield 203, 3) := by decide +kernel
theorem zd_LassoFinderModel_takes_18 : decode prog_14_method_7_code 18 = .ok (.iconst 1, 1) := by decide +kernel
theorem zd_LassoFinderModel_takes_19 : decode prog_14_method_7_code 19 = .ok (.iadd, 1) := by decide +kernel
theorem zd_LassoFinderModel_takes_20 : decode prog_14_method_7_code 20 = .ok (.putfield 203, 3) := by decide +kernel
theorem zd_LassoFinderModel_takes_23 : decode prog_14_method_7_code 23 = .ok (.iconst 1, 1) := by decide +kernel
theorem zd_LassoFinderModel_takes_24 : decode prog_14_method_7_code 24 = .ok (.ireturn, 1) := by decide +kernel
def wp_LassoFinderModel_takes (I : Nat → Int32) (J : Nat → Int64) (B : Nat → Nat → Int32) (D : Nat → Nat → Int64) (a0 : Int32) (Post : Int32 → (Nat → Int32) → (Nat → Int64) → (Nat → Nat → Int32) → (Nat → Nat → Int64) → Prop) : Prop :=
  wp_LassoFinderModel_here I J B D  (fun r1 I1 J1 B1 D1 => ((r1 = a0 → ∀ z3 : Int32, z3 = ((I1 2) + 1) → Post 1 (upd I1 2 z3) J1 B1 D1) ∧ (¬ r1 = a0 → wp_LassoFinderModel_fail I1 J1 B1 D1  (fun r4 I4 J4 B4 D4 => (r4 = 0 ∨ r4 = 1) ∧ Post r4 I4 J4 B4 D4))))
set_option maxHeartbeats 8000000 in
set_option maxRecDepth 100000 in
theorem w_LassoFinderModel_takes (l : Launch) (G : va_G) (K : Nat → ClassId) (ad : Nat → Nat) (I : Nat → Int32) (J : Nat → Int64) (B : Nat → Nat → Int32) (D : Nat → Nat → Int64) (a0 : Int32) (Post : Int32 → (Nat → Int32) → (Nat → Int64) → (Nat → Nat → Int32) → (Nat → Nat → Int64) → Prop) (sz : Nat) (hok : wp_LassoFinderModel_takes I J B D a0 Post) : Met l zy_LassoFinderModel_takes (Cond.code zy_LassoFinderModel_takes prog_14_method_7_code 2 (some .boolean) :: zTB) { frames := 1, cells := 0, slots := 0, locals := 20 } (va_Pc [.ref (ad 0), .int a0] (zPre G K (wM ad K I J B D) sz)) (va_Qi (fun (r : Int32) (u : zS) => Post r u.1 u.2.1 u.2.2.1 u.2.2.2) (fun u t => zPost G K (va_A (wM ad K I J B D) sz) (wM ad K u.1 u.2.1 u.2.2.1 u.2.2.2) t) (va_A (wM ad K I J B D) sz)) 0 0 (va_A (wM ad K I J B D) sz) := by
  refine zMet (y := zy_LassoFinderModel_takes) (av := [.ref (ad 0), .int a0]) (maxL := 2) (cc := prog_14_method_7_code) (ret := (some .boolean)) (W0 := (wM ad K I J B D)) (sz := sz) (G := G) (K := K) (wt := zTB) (mc := 0) (ms := 0) (Qf := fun A => va_Qi (fun (r : Int32) (u : zS) => Post r u.1 u.2.1 u.2.2.1 u.2.2.2) (fun u t => zPost G K A (wM ad K u.1 u.2.1 u.2.2.1 u.2.2.2) t) A) (by decide) (Nat.le_of_ble_eq_true rfl) ?_
  intro p e s m below meth c ls A hx hb hr hml hts hown hlocks hin hA hK H locs hw hsz hl
  clear hsz
  have hown : s.vm.findClass "LassoFinderModel" = some m.cls := hown
  have C : zCx p s m ([.ref (ad 0), .int a0] : List Value).toArray meth c A G K prog_14_method_7_code (some .boolean) 2 "LassoFinderModel" := ⟨hx, hb, hr, hml, hts, hown, hlocks, hA, hK⟩
  have hl : lv_has ls 2 [(0, .ref (ad 0)), (1, .int a0)] := hl
  have hw : zW G A s.heap (wM ad K I J B D) H locs := hw
  unfold wp_LassoFinderModel_takes at hok
  refine lv_aload_n hx hb zd_LassoFinderModel_takes_0 rfl (lv_at hl 0 rfl) ?_
  refine z_calli (w1 := fun (u : zS) => wM ad K u.1 u.2.1 u.2.2.1 u.2.2.2) (wr := []) (z_runV (q0 := 0) (wc := (wM ad K I J B D)) (As := []) (rest := []) ⟨hx, hb, hml, hown, hts⟩ (w_LassoFinderModel_here l G K ad I J B D  _ H.size hok) zf_LassoFinderModel_here zm_332 ⟨Nat.le_of_ble_eq_true rfl, Nat.le_of_ble_eq_true rfl⟩ hK hw (List.range 58) wM_all wM_nd wM_g0 rfl rfl hl.1 rfl (Nat.le_of_ble_eq_true rfl) zd_LassoFinderModel_takes_1 ⟨Nat.le_of_ble_eq_true rfl, Nat.le_of_ble_eq_true rfl⟩) hw hA (List.range 58) [] wM_all rfl (by decide) (fun i hi => by cases hi) (fun r1 u H locs hok hw => ?_)
  obtain ⟨I1, J1, B1, D1⟩ := u
  dsimp only at hok
  have hw : zW G A s.heap (wM ad K I1 J1 B1 D1) H locs := hw
  refine lv_iload_n hx hb zd_LassoFinderModel_takes_4 rfl (lv_at hl 1 rfl) ?_
  refine lv_icmp_eq (tgt := 13) hx hb zd_LassoFinderModel_takes_5 (by decide) (fun hc2 => ?_) (fun hc2 => ?_)
  · have hok := hok.1 hc2
    refine lv_aload_n hx hb zd_LassoFinderModel_takes_13 rfl (lv_at hl 0 rfl) ?_
    refine lv_dup hx hb zd_LassoFinderModel_takes_14 rfl ?_
    refine z_get (v := .int (I1 2)) hx hb hts hown hK hw zZ12 0 wM_g0 3 (by decide) zm_335 rfl zd_LassoFinderModel_takes_15 ?_
    refine lv_iconst (v := 1) hx hb zd_LassoFinderModel_takes_18 (by decide) ?_
    refine lv_iadd hx hb zd_LassoFinderModel_takes_19 ?_
    refine lv_topi (fun z3 ez3 => ?_)
    have hok := hok z3 ez3
    refine z_put (v := .int z3) hx hb hts hown hK hw zZ12 0 wM_g0 3 (by decide) zm_335 rfl rfl rfl (Nat.le_of_ble_eq_true rfl) zd_LassoFinderModel_takes_20 (fun H locs hw => ?_)
    have hw := wM_sI2 hw
    refine lv_iconst (v := 1) hx hb zd_LassoFinderModel_takes_23 (by decide) ?_
    exact (z_iret (u := ((upd I1 2 z3), J1, B1, D1)) hx hb hr hlocks rfl hw (List.range 58) wM_all wM_nd hok (Nat.le_of_ble_eq_true rfl) (Nat.le_of_ble_eq_true rfl) zd_LassoFinderModel_takes_24)
  · have hok := hok.2 hc2
    refine lv_aload_n hx hb zd_LassoFinderModel_takes_8 rfl (lv_at hl 0 rfl) ?_
    refine z_calli (w1 := fun (u : zS) => wM ad K u.1 u.2.1 u.2.2.1 u.2.2.2) (wr := []) (z_runV (q0 := 0) (wc := (wM ad K I1 J1 B1 D1)) (As := []) (rest := []) ⟨hx, hb, hml, hown, hts⟩ (w_LassoFinderModel_fail l G K ad I1 J1 B1 D1  _ H.size hok) zf_LassoFinderModel_fail zm_334 ⟨Nat.le_of_ble_eq_true rfl, Nat.le_of_ble_eq_true rfl⟩ hK hw (List.range 58) wM_all wM_nd wM_g0 rfl rfl hl.1 rfl (Nat.le_of_ble_eq_true rfl) zd_LassoFinderModel_takes_9 ⟨Nat.le_of_ble_eq_true rfl, Nat.le_of_ble_eq_true rfl⟩) hw hA (List.range 58) [] wM_all rfl (by decide) (fun i hi => by cases hi) (fun r4 u H locs hok hw => ?_)
    obtain ⟨I4, J4, B4, D4⟩ := u
    dsimp only at hok
    have hw : zW G A s.heap (wM ad K I4 J4 B4 D4) H locs := hw
    have hbo := hok.1
    have hok := hok.2
    exact (z_iret (u := (I4, J4, B4, D4)) hx hb hr hlocks (z_nar hbo) hw (List.range 58) wM_all wM_nd hok (Nat.le_of_ble_eq_true rfl) (Nat.le_of_ble_eq_true rfl) zd_LassoFinderModel_takes_12)
def wc_LassoFinderModel_basic_113 (a0 : Int32) (a1 : Int32) (Post : Int32 → (Nat → Int32) → (Nat → Int64) → (Nat → Nat → Int32) → (Nat → Nat → Int64) → Prop)  (I : Nat → Int32) (J : Nat → Int64) (B : Nat → Nat → Int32) (D : Nat → Nat → Int64) : Prop :=
  wp_LassoFinderModel_fail I J B D  (fun r1 I1 J1 B1 D1 => (r1 = 0 ∨ r1 = 1) ∧ Post r1 I1 J1 B1 D1)
def wc_LassoFinderModel_basic_376 (a0 : Int32) (a1 : Int32) (Post : Int32 → (Nat → Int32) → (Nat → Int64) → (Nat → Nat → Int32) → (Nat → Nat → Int64) → Prop) (x6 : Int32) (I : Nat → Int32) (J : Nat → Int64) (B : Nat → Nat → Int32) (D : Nat → Nat → Int64) : Prop :=
  wp_LassoFinderModel_expression I J B D 0 (fun r2 I2 J2 B2 D2 => ((¬ r2 = 0 → vp_in x6 140 ∧ Post 1 I2 J2 (va_up B2 15 (upd (B2 15) x6.toNatClampNeg (I2 11))) D2) ∧ (r2 = 0 → Post 0 I2 J2 B2 D2)))
def wc_LassoFinderModel_basic_326 (a0 : Int32) (a1 : Int32) (Post : Int32 → (Nat → Int32) → (Nat → Int64) → (Nat → Nat → Int32) → (Nat → Nat → Int64) → Prop)  (I : Nat → Int32) (J : Nat → Int64) (B : Nat → Nat → Int32) (D : Nat → Nat → Int64) : Prop :=
  wp_LassoFinderModel_fail I J B D  (fun r4 I4 J4 B4 D4 => (r4 = 0 ∨ r4 = 1) ∧ Post r4 I4 J4 B4 D4)
def wc_LassoFinderModel_basic_150 (a0 : Int32) (a1 : Int32) (Post : Int32 → (Nat → Int32) → (Nat → Int64) → (Nat → Nat → Int32) → (Nat → Nat → Int64) → Prop) (x1 : Int32) (x3 : Int32) (x4 : Int32) (y0 : Int32) (I : Nat → Int32) (J : Nat → Int64) (B : Nat → Nat → Int32) (D : Nat → Nat → Int64) : Prop :=
  wp_LassoFinderModel_node I J B D y0 (fun r5 I5 J5 B5 D5 => ∀ z6 : Int32, z6 = ((I5 2) + 1) → vp_in r5 140 ∧ vp_in r5 140 ∧ ((¬ x1 = 40 → ((¬ x4 = 0 → vp_in x3 8 ∧ ∀ z9 : Int32, z9 = ((B5 1) x3.toNatClampNeg) → ((z9 < 0 → vp_in x3 8 ∧ ∀ z11 : Int32, z11 = ((B5 2) x3.toNatClampNeg) → vp_in r5 140 ∧ wp_LassoFinderModel_here (upd I5 2 z6) J5 (va_up (va_up (va_up B5 14 (upd (B5 14) r5.toNatClampNeg (I5 11))) 15 (upd (B5 15) r5.toNatClampNeg (I5 11))) 12 (upd (B5 12) r5.toNatClampNeg z11)) D5  (fun r12 I12 J12 B12 D12 => ((¬ r12 = 63 → vp_in r5 140 ∧ wp_LassoFinderModel_takes I12 J12 (va_up B12 5 (upd (B12 5) r5.toNatClampNeg 2)) D12 33 (fun r14 I14 J14 B14 D14 => ((¬ r14 = 0 → wc_LassoFinderModel_basic_376 a0 a1 Post r5 I14 J14 B14 D14) ∧ (r14 = 0 → Post 0 I14 J14 B14 D14)))) ∧ (r12 = 63 → vp_in r5 140 ∧ ∀ z16 : Int32, z16 = ((I12 2) + 1) → wp_LassoFinderModel_from (upd I12 2 z16) J12 (va_up B12 5 (upd (B12 5) r5.toNatClampNeg 3)) D12 97 8 (fun r17 I17 J17 B17 D17 => ((r17 < 0 → wc_LassoFinderModel_basic_326 a0 a1 Post I17 J17 B17 D17) ∧ (¬ r17 < 0 → vp_in r17 8 ∧ ∀ z19 : Int32, z19 = ((B17 1) r17.toNatClampNeg) → (((0 : Int32) ≤ z19 → vp_in r17 8 ∧ ∀ z21 : Int32, z21 = ((B17 1) r17.toNatClampNeg) → vp_in r5 140 ∧ ∀ z22 : Int32, z22 = ((I17 2) + 1) → Post 1 (upd I17 2 z22) J17 (va_up B17 13 (upd (B17 13) r5.toNatClampNeg z21)) D17) ∧ (¬ (0 : Int32) ≤ z19 → wc_LassoFinderModel_basic_326 a0 a1 Post I17 J17 B17 D17))))))))) ∧ (¬ z9 < 0 → vp_in x3 8 ∧ ∀ z23 : Int32, z23 = ((B5 1) x3.toNatClampNeg) → vp_in r5 140 ∧ wp_LassoFinderModel_takes (upd I5 2 z6) J5 (va_up (va_up (va_up B5 14 (upd (B5 14) r5.toNatClampNeg (I5 11))) 15 (upd (B5 15) r5.toNatClampNeg (I5 11))) 12 (upd (B5 12) r5.toNatClampNeg z23)) D5 61 (fun r24 I24 J24 B24 D24 => ((¬ r24 = 0 → wc_LassoFinderModel_basic_376 a0 a1 Post r5 I24 J24 B24 D24) ∧ (r24 = 0 → Post 0 I24 J24 B24 D24)))))) ∧ (x4 = 0 → Post 1 (upd I5 2 z6) J5 (va_up (va_up B5 14 (upd (B5 14) r5.toNatClampNeg (I5 11))) 15 (upd (B5 15) r5.toNatClampNeg (I5 11))) D5))) ∧ (x1 = 40 → wp_LassoFinderModel_expression (upd I5 2 z6) J5 (va_up (va_up B5 14 (upd (B5 14) r5.toNatClampNeg (I5 11))) 15 (upd (B5 15) r5.toNatClampNeg (I5 11))) D5 1 (fun r26 I26 J26 B26 D26 => ((¬ r26 = 0 → vp_in r5 140 ∧ wp_LassoFinderModel_takes I26 J26 (va_up B26 15 (upd (B26 15) r5.toNatClampNeg (I26 11))) D26 41 (fun r28 I28 J28 B28 D28 => (r28 = 0 ∨ r28 = 1) ∧ Post r28 I28 J28 B28 D28)) ∧ (r26 = 0 → Post 0 I26 J26 B26 D26))))))
def wc_LassoFinderModel_basic_83 (a0 : Int32) (a1 : Int32) (Post : Int32 → (Nat → Int32) → (Nat → Int64) → (Nat → Nat → Int32) → (Nat → Nat → Int64) → Prop) (x1 : Int32) (x3 : Int32) (x4 : Int32) (y0 : Int32) (I : Nat → Int32) (J : Nat → Int64) (B : Nat → Nat → Int32) (D : Nat → Nat → Int64) : Prop :=
  ((y0 = 0 → wc_LassoFinderModel_basic_113 a0 a1 Post I J B D) ∧ (¬ y0 = 0 → (((I 9) = 48 → wc_LassoFinderModel_basic_113 a0 a1 Post I J B D) ∧ (¬ (I 9) = 48 → vp_in (I 10) 5 ∧ ∀ z31 : Int32, z31 = ((B 20) (I 10).toNatClampNeg) → ((¬ z31 = 30 → ((¬ x1 = 40 → ((¬ x1 = 45 → ((¬ x1 = 126 → wc_LassoFinderModel_basic_150 a0 a1 Post x1 x3 x4 0 I J B D) ∧ (x1 = 126 → wc_LassoFinderModel_basic_150 a0 a1 Post x1 x3 x4 5 I J B D))) ∧ (x1 = 45 → wc_LassoFinderModel_basic_150 a0 a1 Post x1 x3 x4 4 I J B D))) ∧ (x1 = 40 → wc_LassoFinderModel_basic_150 a0 a1 Post x1 x3 x4 1 I J B D))) ∧ (z31 = 30 → wc_LassoFinderModel_basic_113 a0 a1 Post I J B D))))))
def wc_LassoFinderModel_basic_78 (a0 : Int32) (a1 : Int32) (Post : Int32 → (Nat → Int32) → (Nat → Int64) → (Nat → Nat → Int32) → (Nat → Nat → Int64) → Prop) (x1 : Int32) (x3 : Int32) (x4 : Int32) (I : Nat → Int32) (J : Nat → Int64) (B : Nat → Nat → Int32) (D : Nat → Nat → Int64) : Prop :=
  wc_LassoFinderModel_basic_83 a0 a1 Post x1 x3 x4 1 I J B D
def wc_LassoFinderModel_basic_82 (a0 : Int32) (a1 : Int32) (Post : Int32 → (Nat → Int32) → (Nat → Int64) → (Nat → Nat → Int32) → (Nat → Nat → Int64) → Prop) (x1 : Int32) (x3 : Int32) (x4 : Int32) (I : Nat → Int32) (J : Nat → Int64) (B : Nat → Nat → Int32) (D : Nat → Nat → Int64) : Prop :=
  wc_LassoFinderModel_basic_83 a0 a1 Post x1 x3 x4 0 I J B D
def wc_LassoFinderModel_basic_36 (a0 : Int32) (a1 : Int32) (Post : Int32 → (Nat → Int32) → (Nat → Int64) → (Nat → Nat → Int32) → (Nat → Nat → Int64) → Prop) (x1 : Int32) (x2 : Int32) (x3 : Int32) (y0 : Int32) (I : Nat → Int32) (J : Nat → Int64) (B : Nat → Nat → Int32) (D : Nat → Nat → Int64) : Prop :=
  ((¬ y0 = 0 → wc_LassoFinderModel_basic_78 a0 a1 Post x1 x3 y0 I J B D) ∧ (y0 = 0 → ((x1 = 40 → wc_LassoFinderModel_basic_78 a0 a1 Post x1 x3 y0 I J B D) ∧ (¬ x1 = 40 → ((x1 = 45 → wc_LassoFinderModel_basic_78 a0 a1 Post x1 x3 y0 I J B D) ∧ (¬ x1 = 45 → ((¬ x1 = 126 → wc_LassoFinderModel_basic_82 a0 a1 Post x1 x3 y0 I J B D) ∧ (x1 = 126 → ((x2 = 0 → wc_LassoFinderModel_basic_82 a0 a1 Post x1 x3 y0 I J B D) ∧ (¬ x2 = 0 → vp_in (I 12) 8 ∧ ∀ z41 : Int32, z41 = ((B 25) (I 12).toNatClampNeg) → (((3 : Int32) ≤ z41 → wc_LassoFinderModel_basic_82 a0 a1 Post x1 x3 y0 I J B D) ∧ (¬ (3 : Int32) ≤ z41 → wc_LassoFinderModel_basic_78 a0 a1 Post x1 x3 y0 I J B D))))))))))))
def wc_LassoFinderModel_basic_35 (a0 : Int32) (a1 : Int32) (Post : Int32 → (Nat → Int32) → (Nat → Int64) → (Nat → Nat → Int32) → (Nat → Nat → Int64) → Prop) (x1 : Int32) (x2 : Int32) (x3 : Int32) (I : Nat → Int32) (J : Nat → Int64) (B : Nat → Nat → Int32) (D : Nat → Nat → Int64) : Prop :=
  wc_LassoFinderModel_basic_36 a0 a1 Post x1 x2 x3 0 I J B D
def wc_LassoFinderModel_basic_31 (a0 : Int32) (a1 : Int32) (Post : Int32 → (Nat → Int32) → (Nat → Int64) → (Nat → Nat → Int32) → (Nat → Nat → Int64) → Prop) (x1 : Int32) (x2 : Int32) (x3 : Int32) (I : Nat → Int32) (J : Nat → Int64) (B : Nat → Nat → Int32) (D : Nat → Nat → Int64) : Prop :=
  wc_LassoFinderModel_basic_36 a0 a1 Post x1 x2 x3 1 I J B D
def wp_LassoFinderModel_basic (I : Nat → Int32) (J : Nat → Int64) (B : Nat → Nat → Int32) (D : Nat → Nat → Int64) (a0 : Int32) (a1 : Int32) (Post : Int32 → (Nat → Int32) → (Nat → Int64) → (Nat → Nat → Int32) → (Nat → Nat → Int64) → Prop) : Prop :=
  wp_LassoFinderModel_from I J B D 97 8 (fun r43 I43 J43 B43 D43 => ((r43 < 0 → wc_LassoFinderModel_basic_35 a0 a1 Post a0 a1 r43 I43 J43 B43 D43) ∧ (¬ r43 < 0 → vp_in r43 8 ∧ ∀ z45 : Int32, z45 = ((B43 1) r43.toNatClampNeg) → (((0 : Int32) ≤ z45 → wc_LassoFinderModel_basic_31 a0 a1 Post a0 a1 r43 I43 J43 B43 D43) ∧ (¬ (0 : Int32) ≤ z45 → vp_in r43 8 ∧ ∀ z47 : Int32, z47 = ((B43 2) r43.toNatClampNeg) → ((z47 < 0 → wc_LassoFinderModel_basic_35 a0 a1 Post a0 a1 r43 I43 J43 B43 D43) ∧ (¬ z47 < 0 → wc_LassoFinderModel_basic_31 a0 a1 Post a0 a1 r43 I43 J43 B43 D43)))))))
set_option maxHeartbeats 8000000 in
set_option maxRecDepth 100000 in
theorem wJ_LassoFinderModel_basic_113 {p : Program} {l : Launch} {e : Env} {s : State} {m : MethodId} {below : List Frame} {meth : Method} {c : Code} {A : Nat → Prop} (G : va_G) (K : Nat → ClassId) (ad : Nat → Nat) (a0 : Int32) (a1 : Int32) (Post : Int32 → (Nat → Int32) → (Nat → Int64) → (Nat → Nat → Int32) → (Nat → Nat → Int64) → Prop) (C : zCx p s m ([.ref (ad 0), .int a0, .int a1] : List Value).toArray meth c A G K prog_14_method_20_code (some .boolean) 8 "LassoFinderModel") : ∀  (I : Nat → Int32) (J : Nat → Int64) (B : Nat → Nat → Int32) (D : Nat → Nat → Int64) (ls : Array Slot) (H : Heap) (locs : List Loc), wc_LassoFinderModel_basic_113 a0 a1 Post  I J B D → lv_has ls 8 [(0, .ref (ad 0))] → zW G A s.heap (wM ad K I J B D) H locs → W p l e { frames := 3, cells := 0, slots := 0, locals := 72 } s m ([.ref (ad 0), .int a0, .int a1] : List Value).toArray below meth c H locs 0 0 (MQ below (va_Qi (fun (r : Int32) (u : zS) => Post r u.1 u.2.1 u.2.2.1 u.2.2.2) (fun u t => zPost G K A (wM ad K u.1 u.2.1 u.2.2.1 u.2.2.2) t) A) ([.ref (ad 0), .int a0, .int a1] : List Value).toArray s 0 0 A) (F0 m 113 ls []) := by
  obtain ⟨hx, hb, hr, hml, hts, hown, hlocks, hA, hK⟩ := id C
  intro  I J B D ls H locs hok hl hw
  unfold wc_LassoFinderModel_basic_113 at hok
  refine lv_aload_n hx hb zd_LassoFinderModel_basic_113 rfl (lv_at hl 0 rfl) ?_
  refine z_calli (w1 := fun (u : zS) => wM ad K u.1 u.2.1 u.2.2.1 u.2.2.2) (wr := []) (z_runV (q0 := 0) (wc := (wM ad K I J B D)) (As := []) (rest := []) ⟨hx, hb, hml, hown, hts⟩ (w_LassoFinderModel_fail l G K ad I J B D  _ H.size hok) zf_LassoFinderModel_fail zm_334 ⟨Nat.le_of_ble_eq_true rfl, Nat.le_of_ble_eq_true rfl⟩ hK hw (List.range 58) wM_all wM_nd wM_g0 rfl rfl hl.1 rfl (Nat.le_of_ble_eq_true rfl) zd_LassoFinderModel_basic_114 ⟨Nat.le_of_ble_eq_true rfl, Nat.le_of_ble_eq_true rfl⟩) hw hA (List.range 58) [] wM_all rfl (by decide) (fun i hi => by cases hi) (fun r1 u H locs hok hw => ?_)
  obtain ⟨I1, J1, B1, D1⟩ := u
  dsimp only at hok
  have hw : zW G A s.heap (wM ad K I1 J1 B1 D1) H locs := hw
  have hbo := hok.1
  have hok := hok.2
  exact (z_iret (u := (I1, J1, B1, D1)) hx hb hr hlocks (z_nar hbo) hw (List.range 58) wM_all wM_nd hok (Nat.le_of_ble_eq_true rfl) (Nat.le_of_ble_eq_true rfl) zd_LassoFinderModel_basic_117)
set_option maxHeartbeats 8000000 in
set_option maxRecDepth 100000 in
theorem wJ_LassoFinderModel_basic_376 {p : Program} {l : Launch} {e : Env} {s : State} {m : MethodId} {below : List Frame} {meth : Method} {c : Code} {A : Nat → Prop} (G : va_G) (K : Nat → ClassId) (ad : Nat → Nat) (a0 : Int32) (a1 : Int32) (Post : Int32 → (Nat → Int32) → (Nat → Int64) → (Nat → Nat → Int32) → (Nat → Nat → Int64) → Prop) (C : zCx p s m ([.ref (ad 0), .int a0, .int a1] : List Value).toArray meth c A G K prog_14_method_20_code (some .boolean) 8 "LassoFinderModel") : ∀ (x6 : Int32) (I : Nat → Int32) (J : Nat → Int64) (B : Nat → Nat → Int32) (D : Nat → Nat → Int64) (ls : Array Slot) (H : Heap) (locs : List Loc), wc_LassoFinderModel_basic_376 a0 a1 Post x6 I J B D → lv_has ls 8 [(0, .ref (ad 0)), (6, .int x6)] → zW G A s.heap (wM ad K I J B D) H locs → W p l e { frames := 3, cells := 0, slots := 0, locals := 72 } s m ([.ref (ad 0), .int a0, .int a1] : List Value).toArray below meth c H locs 0 0 (MQ below (va_Qi (fun (r : Int32) (u : zS) => Post r u.1 u.2.1 u.2.2.1 u.2.2.2) (fun u t => zPost G K A (wM ad K u.1 u.2.1 u.2.2.1 u.2.2.2) t) A) ([.ref (ad 0), .int a0, .int a1] : List Value).toArray s 0 0 A) (F0 m 376 ls []) := by
  obtain ⟨hx, hb, hr, hml, hts, hown, hlocks, hA, hK⟩ := id C
  intro x6 I J B D ls H locs hok hl hw
  unfold wc_LassoFinderModel_basic_376 at hok
  refine lv_aload_n hx hb zd_LassoFinderModel_basic_376 rfl (lv_at hl 0 rfl) ?_
  refine lv_iconst (v := 0) hx hb zd_LassoFinderModel_basic_377 (by decide) ?_
  refine z_calli (w1 := fun (u : zS) => wM ad K u.1 u.2.1 u.2.2.1 u.2.2.2) (wr := []) (z_runV (q0 := 0) (wc := (wM ad K I J B D)) (As := [.int 0]) (rest := []) ⟨hx, hb, hml, hown, hts⟩ (w_LassoFinderModel_expression l G K ad I J B D 0 _ H.size hok) zf_LassoFinderModel_expression zm_346 ⟨Nat.le_of_ble_eq_true rfl, Nat.le_of_ble_eq_true rfl⟩ hK hw (List.range 58) wM_all wM_nd wM_g0 rfl rfl hl.1 rfl (Nat.le_of_ble_eq_true rfl) zd_LassoFinderModel_basic_378 ⟨Nat.le_of_ble_eq_true rfl, Nat.le_of_ble_eq_true rfl⟩) hw hA (List.range 58) [] wM_all rfl (by decide) (fun i hi => by cases hi) (fun r2 u H locs hok hw => ?_)
  obtain ⟨I2, J2, B2, D2⟩ := u
  dsimp only at hok
  have hw : zW G A s.heap (wM ad K I2 J2 B2 D2) H locs := hw
  refine lv_if_ne (tgt := 386) hx hb zd_LassoFinderModel_basic_381 (by decide) (fun hc3 => ?_) (fun hc3 => ?_)
  · have hok := hok.1 hc3
    refine lv_aload_n hx hb zd_LassoFinderModel_basic_386 rfl (lv_at hl 0 rfl) ?_
    refine z_get (v := .ref (ad 16)) hx hb hts hown hK hw zZ12 0 wM_g0 24 (by decide) zm_250 rfl zd_LassoFinderModel_basic_387 ?_
    refine lv_iload hx hb zd_LassoFinderModel_basic_390 (lv_at hl 1 rfl) ?_
    refine lv_aload_n hx hb zd_LassoFinderModel_basic_392 rfl (lv_at hl 0 rfl) ?_
    refine z_get (v := .int (I2 11)) hx hb hts hown hK hw zZ12 0 wM_g0 36 (by decide) zm_296 rfl zd_LassoFinderModel_basic_393 ?_
    refine va_iast (f := (B2 15)) hx hb hK hw.1 hw.2.1 hw.2.2 16 0 wM_a16 rfl hok.1 zd_LassoFinderModel_basic_396 (fun H locs w91 w92 w93 => ?_)
    have hok := hok.2
    have hw := wM_t16 ⟨w91, w92, w93⟩
    refine lv_iconst (v := 1) hx hb zd_LassoFinderModel_basic_397 (by decide) ?_
    exact (z_iret (u := (I2, J2, (va_up B2 15 (upd (B2 15) x6.toNatClampNeg (I2 11))), D2)) hx hb hr hlocks rfl hw (List.range 58) wM_all wM_nd hok (Nat.le_of_ble_eq_true rfl) (Nat.le_of_ble_eq_true rfl) zd_LassoFinderModel_basic_398)
  · have hok := hok.2 hc3
    refine lv_iconst (v := 0) hx hb zd_LassoFinderModel_basic_384 (by decide) ?_
    exact (z_iret (u := (I2, J2, B2, D2)) hx hb hr hlocks rfl hw (List.range 58) wM_all wM_nd hok (Nat.le_of_ble_eq_true rfl) (Nat.le_of_ble_eq_true rfl) zd_LassoFinderModel_basic_385)
set_option maxHeartbeats 8000000 in
set_option maxRecDepth 100000 in
theorem wJ_LassoFinderModel_basic_326 {p : Program} {l : Launch} {e : Env} {s : State} {m : MethodId} {below : List Frame} {meth : Method} {c : Code} {A : Nat → Prop} (G : va_G) (K : Nat → ClassId) (ad : Nat → Nat) (a0 : Int32) (a1 : Int32) (Post : Int32 → (Nat → Int32) → (Nat → Int64) → (Nat → Nat → Int32) → (Nat → Nat → Int64) → Prop) (C : zCx p s m ([.ref (ad 0), .int a0, .int a1] : List Value).toArray meth c A G K prog_14_method_20_code (some .boolean) 8 "LassoFinderModel") : ∀  (I : Nat → Int32) (J : Nat → Int64) (B : Nat → Nat → Int32) (D : Nat → Nat → Int64) (ls : Array Slot) (H : Heap) (locs : List Loc), wc_LassoFinderModel_basic_326 a0 a1 Post  I J B D → lv_has ls 8 [(0, .ref (ad 0))] → zW G A s.heap (wM ad K I J B D) H locs → W p l e { frames := 3, cells := 0, slots := 0, locals := 72 } s m ([.ref (ad 0), .int a0, .int a1] : List Value).toArray below meth c H locs 0 0 (MQ below (va_Qi (fun (r : Int32) (u : zS) => Post r u.1 u.2.1 u.2.2.1 u.2.2.2) (fun u t => zPost G K A (wM ad K u.1 u.2.1 u.2.2.1 u.2.2.2) t) A) ([.ref (ad 0), .int a0, .int a1] : List Value).toArray s 0 0 A) (F0 m 326 ls []) := by
  obtain ⟨hx, hb, hr, hml, hts, hown, hlocks, hA, hK⟩ := id C
  intro  I J B D ls H locs hok hl hw
  unfold wc_LassoFinderModel_basic_326 at hok
  refine lv_aload_n hx hb zd_LassoFinderModel_basic_326 rfl (lv_at hl 0 rfl) ?_
  refine z_calli (w1 := fun (u : zS) => wM ad K u.1 u.2.1 u.2.2.1 u.2.2.2) (wr := []) (z_runV (q0 := 0) (wc := (wM ad K I J B D)) (As := []) (rest := []) ⟨hx, hb, hml, hown, hts⟩ (w_LassoFinderModel_fail l G K ad I J B D  _ H.size hok) zf_LassoFinderModel_fail zm_334 ⟨Nat.le_of_ble_eq_true rfl, Nat.le_of_ble_eq_true rfl⟩ hK hw (List.range 58) wM_all wM_nd wM_g0 rfl rfl hl.1 rfl (Nat.le_of_ble_eq_true rfl) zd_LassoFinderModel_basic_327 ⟨Nat.le_of_ble_eq_true rfl, Nat.le_of_ble_eq_true rfl⟩) hw hA (List.range 58) [] wM_all rfl (by decide) (fun i hi => by cases hi) (fun r4 u H locs hok hw => ?_)
  obtain ⟨I4, J4, B4, D4⟩ := u
  dsimp only at hok
  have hw : zW G A s.heap (wM ad K I4 J4 B4 D4) H locs := hw
  have hbo := hok.1
  have hok := hok.2
  exact (z_iret (u := (I4, J4, B4, D4)) hx hb hr hlocks (z_nar hbo) hw (List.range 58) wM_all wM_nd hok (Nat.le_of_ble_eq_true rfl) (Nat.le_of_ble_eq_true rfl) zd_LassoFinderModel_basic_330)
set_option maxHeartbeats 8000000 in
set_option maxRecDepth 100000 in
theorem wJ_LassoFinderModel_basic_150 {p : Program} {l : Launch} {e : Env} {s : State} {m : MethodId} {below : List Frame} {meth : Method} {c : Code} {A : Nat → Prop} (G : va_G) (K : Nat → ClassId) (ad : Nat → Nat) (a0 : Int32) (a1 : Int32) (Post : Int32 → (Nat → Int32) → (Nat → Int64) → (Nat → Nat → Int32) → (Nat → Nat → Int64) → Prop) (C : zCx p s m ([.ref (ad 0), .int a0, .int a1] : List Value).toArray meth c A G K prog_14_method_20_code (some .boolean) 8 "LassoFinderModel") : ∀ (x1 : Int32) (x3 : Int32) (x4 : Int32) (y0 : Int32) (I : Nat → Int32) (J : Nat → Int64) (B : Nat → Nat → Int32) (D : Nat → Nat → Int64) (ls : Array Slot) (H : Heap) (locs : List Loc), wc_LassoFinderModel_basic_150 a0 a1 Post x1 x3 x4 y0 I J B D → lv_has ls 8 [(0, .ref (ad 0)), (1, .int x1), (3, .int x3), (4, .int x4)] → zW G A s.heap (wM ad K I J B D) H locs → W p l e { frames := 3, cells := 0, slots := 0, locals := 72 } s m ([.ref (ad 0), .int a0, .int a1] : List Value).toArray below meth c H locs 0 0 (MQ below (va_Qi (fun (r : Int32) (u : zS) => Post r u.1 u.2.1 u.2.2.1 u.2.2.2) (fun u t => zPost G K A (wM ad K u.1 u.2.1 u.2.2.1 u.2.2.2) t) A) ([.ref (ad 0), .int a0, .int a1] : List Value).toArray s 0 0 A) (F0 m 150 ls [.int y0, .ref (ad 0)]) := by
  obtain ⟨hx, hb, hr, hml, hts, hown, hlocks, hA, hK⟩ := id C
  intro x1 x3 x4 y0 I J B D ls H locs hok hl hw
  unfold wc_LassoFinderModel_basic_150 at hok
  refine z_calli (w1 := fun (u : zS) => wM ad K u.1 u.2.1 u.2.2.1 u.2.2.2) (wr := []) (z_runV (q0 := 0) (wc := (wM ad K I J B D)) (As := [.int y0]) (rest := []) ⟨hx, hb, hml, hown, hts⟩ (w_LassoFinderModel_node l G K ad I J B D y0 _ H.size hok) zf_LassoFinderModel_node zm_342 ⟨Nat.le_of_ble_eq_true rfl, Nat.le_of_ble_eq_true rfl⟩ hK hw (List.range 58) wM_all wM_nd wM_g0 rfl rfl hl.1 rfl (Nat.le_of_ble_eq_true rfl) zd_LassoFinderModel_basic_150 ⟨Nat.le_of_ble_eq_true rfl, Nat.le_of_ble_eq_true rfl⟩) hw hA (List.range 58) [] wM_all rfl (by decide) (fun i hi => by cases hi) (fun r5 u H locs hok hw => ?_)
  obtain ⟨I5, J5, B5, D5⟩ := u
  dsimp only at hok
  have hw : zW G A s.heap (wM ad K I5 J5 B5 D5) H locs := hw
  refine lv_istore hx hb zd_LassoFinderModel_basic_153 hl (by decide) rfl (fun ls hl => ?_)
  have hl : lv_has ls 8 [(6, .int r5), (0, .ref (ad 0)), (1, .int x1), (3, .int x3), (4, .int x4)] := hl
  refine lv_aload_n hx hb zd_LassoFinderModel_basic_155 rfl (lv_at hl 1 rfl) ?_
  refine lv_dup hx hb zd_LassoFinderModel_basic_156 rfl ?_
  refine z_get (v := .int (I5 2)) hx hb hts hown hK hw zZ12 0 wM_g0 3 (by decide) zm_335 rfl zd_LassoFinderModel_basic_157 ?_
  refine lv_iconst (v := 1) hx hb zd_LassoFinderModel_basic_160 (by decide) ?_
  refine lv_iadd hx hb zd_LassoFinderModel_basic_161 ?_
  refine lv_topi (fun z6 ez6 => ?_)
  have hok := hok z6 ez6
  refine z_put (v := .int z6) hx hb hts hown hK hw zZ12 0 wM_g0 3 (by decide) zm_335 rfl rfl rfl (Nat.le_of_ble_eq_true rfl) zd_LassoFinderModel_basic_162 (fun H locs hw => ?_)
  have hw := wM_sI2 hw
  refine lv_aload_n hx hb zd_LassoFinderModel_basic_165 rfl (lv_at hl 1 rfl) ?_
  refine z_get (v := .ref (ad 15)) hx hb hts hown hK hw zZ12 0 wM_g0 23 (by decide) zm_249 rfl zd_LassoFinderModel_basic_166 ?_
  refine lv_iload hx hb zd_LassoFinderModel_basic_169 (lv_at hl 0 rfl) ?_
  refine lv_aload_n hx hb zd_LassoFinderModel_basic_171 rfl (lv_at hl 1 rfl) ?_
  refine z_get (v := .int (I5 11)) hx hb hts hown hK hw zZ12 0 wM_g0 36 (by decide) zm_296 rfl zd_LassoFinderModel_basic_172 ?_
  refine va_iast (f := (B5 14)) hx hb hK hw.1 hw.2.1 hw.2.2 15 0 wM_a15 rfl hok.1 zd_LassoFinderModel_basic_175 (fun H locs w91 w92 w93 => ?_)
  have hok := hok.2
  have hw := wM_t15 ⟨w91, w92, w93⟩
  refine lv_aload_n hx hb zd_LassoFinderModel_basic_176 rfl (lv_at hl 1 rfl) ?_
  refine z_get (v := .ref (ad 16)) hx hb hts hown hK hw zZ12 0 wM_g0 24 (by decide) zm_250 rfl zd_LassoFinderModel_basic_177 ?_
  refine lv_iload hx hb zd_LassoFinderModel_basic_180 (lv_at hl 0 rfl) ?_
  refine lv_aload_n hx hb zd_LassoFinderModel_basic_182 rfl (lv_at hl 1 rfl) ?_
  refine z_get (v := .int (I5 11)) hx hb hts hown hK hw zZ12 0 wM_g0 36 (by decide) zm_296 rfl zd_LassoFinderModel_basic_183 ?_
  refine va_iast (f := (B5 15)) hx hb hK hw.1 hw.2.1 hw.2.2 16 0 wM_a16 rfl hok.1 zd_LassoFinderModel_basic_186 (fun H locs w91 w92 w93 => ?_)
  have hok := hok.2
  have hw := wM_t16 ⟨w91, w92, w93⟩
  refine lv_iload_n hx hb zd_LassoFinderModel_basic_187 rfl (lv_at hl 2 rfl) ?_
  refine lv_bipush (v := 40) hx hb zd_LassoFinderModel_basic_188 (by decide) ?_
  refine lv_icmp_ne (tgt := 221) hx hb zd_LassoFinderModel_basic_190 (by decide) (fun hc7 => ?_) (fun hc7 => ?_)
  · have hok := hok.1 hc7
    refine lv_iload hx hb zd_LassoFinderModel_basic_221 (lv_at hl 4 rfl) ?_
    refine lv_if_ne (tgt := 228) hx hb zd_LassoFinderModel_basic_223 (by decide) (fun hc8 => ?_) (fun hc8 => ?_)
    · have hok := hok.1 hc8
      refine lv_aload_n hx hb zd_LassoFinderModel_basic_228 rfl (lv_at hl 1 rfl) ?_
      refine z_get (v := .ref (ad 2)) hx hb hts hown hK hw zZ12 0 wM_g0 9 (by decide) zm_236 rfl zd_LassoFinderModel_basic_229 ?_
      refine lv_iload_n hx hb zd_LassoFinderModel_basic_232 rfl (lv_at hl 3 rfl) ?_
      refine va_iald (f := (B5 1)) hx hb hK hw.1 2 0 wM_a2 rfl hok.1 zd_LassoFinderModel_basic_233 ?_
      have hok := hok.2
      refine lv_topi (fun z9 ez9 => ?_)
      have hok := hok z9 ez9
      refine lv_if_lt (tgt := 261) hx hb zd_LassoFinderModel_basic_234 (by decide) (fun hc10 => ?_) (fun hc10 => ?_)
      · have hok := hok.1 hc10
        refine lv_aload_n hx hb zd_LassoFinderModel_basic_261 rfl (lv_at hl 1 rfl) ?_
        refine z_get (v := .ref (ad 13)) hx hb hts hown hK hw zZ12 0 wM_g0 21 (by decide) zm_247 rfl zd_LassoFinderModel_basic_262 ?_
        refine lv_iload hx hb zd_LassoFinderModel_basic_265 (lv_at hl 0 rfl) ?_
        refine lv_aload_n hx hb zd_LassoFinderModel_basic_267 rfl (lv_at hl 1 rfl) ?_
        refine z_get (v := .ref (ad 3)) hx hb hts hown hK hw zZ12 0 wM_g0 10 (by decide) zm_237 rfl zd_LassoFinderModel_basic_268 ?_
        refine lv_iload_n hx hb zd_LassoFinderModel_basic_271 rfl (lv_at hl 3 rfl) ?_
        refine va_iald (f := (B5 2)) hx hb hK hw.1 3 0 wM_a3 rfl hok.1 zd_LassoFinderModel_basic_272 ?_
        have hok := hok.2
        refine lv_topi (fun z11 ez11 => ?_)
        have hok := hok z11 ez11
        refine va_iast (f := (B5 12)) hx hb hK hw.1 hw.2.1 hw.2.2 13 0 wM_a13 rfl hok.1 zd_LassoFinderModel_basic_273 (fun H locs w91 w92 w93 => ?_)
        have hok := hok.2
        have hw := wM_t13 ⟨w91, w92, w93⟩
        refine lv_aload_n hx hb zd_LassoFinderModel_basic_274 rfl (lv_at hl 1 rfl) ?_
        refine z_calli (w1 := fun (u : zS) => wM ad K u.1 u.2.1 u.2.2.1 u.2.2.2) (wr := []) (z_runV (q0 := 0) (wc := (wM ad K (upd I5 2 z6) J5 (va_up (va_up (va_up B5 14 (upd (B5 14) r5.toNatClampNeg (I5 11))) 15 (upd (B5 15) r5.toNatClampNeg (I5 11))) 12 (upd (B5 12) r5.toNatClampNeg z11)) D5)) (As := []) (rest := []) ⟨hx, hb, hml, hown, hts⟩ (w_LassoFinderModel_here l G K ad (upd I5 2 z6) J5 (va_up (va_up (va_up B5 14 (upd (B5 14) r5.toNatClampNeg (I5 11))) 15 (upd (B5 15) r5.toNatClampNeg (I5 11))) 12 (upd (B5 12) r5.toNatClampNeg z11)) D5  _ H.size hok) zf_LassoFinderModel_here zm_332 ⟨Nat.le_of_ble_eq_true rfl, Nat.le_of_ble_eq_true rfl⟩ hK hw (List.range 58) wM_all wM_nd wM_g0 rfl rfl hl.1 rfl (Nat.le_of_ble_eq_true rfl) zd_LassoFinderModel_basic_275 ⟨Nat.le_of_ble_eq_true rfl, Nat.le_of_ble_eq_true rfl⟩) hw hA (List.range 58) [] wM_all rfl (by decide) (fun i hi => by cases hi) (fun r12 u H locs hok hw => ?_)
        obtain ⟨I12, J12, B12, D12⟩ := u
        dsimp only at hok
        have hw : zW G A s.heap (wM ad K I12 J12 B12 D12) H locs := hw
        refine lv_bipush (v := 63) hx hb zd_LassoFinderModel_basic_278 (by decide) ?_
        refine lv_icmp_ne (tgt := 357) hx hb zd_LassoFinderModel_basic_280 (by decide) (fun hc13 => ?_) (fun hc13 => ?_)
        · have hok := hok.1 hc13
          refine lv_aload_n hx hb zd_LassoFinderModel_basic_357 rfl (lv_at hl 1 rfl) ?_
          refine z_get (v := .ref (ad 6)) hx hb hts hown hK hw zZ12 0 wM_g0 14 (by decide) zm_240 rfl zd_LassoFinderModel_basic_358 ?_
          refine lv_iload hx hb zd_LassoFinderModel_basic_361 (lv_at hl 0 rfl) ?_
          refine lv_iconst (v := 2) hx hb zd_LassoFinderModel_basic_363 (by decide) ?_
          refine va_iast (f := (B12 5)) hx hb hK hw.1 hw.2.1 hw.2.2 6 0 wM_a6 rfl hok.1 zd_LassoFinderModel_basic_364 (fun H locs w91 w92 w93 => ?_)
          have hok := hok.2
          have hw := wM_t6 ⟨w91, w92, w93⟩
          refine lv_aload_n hx hb zd_LassoFinderModel_basic_365 rfl (lv_at hl 1 rfl) ?_
          refine lv_bipush (v := 33) hx hb zd_LassoFinderModel_basic_366 (by decide) ?_
          refine z_calli (w1 := fun (u : zS) => wM ad K u.1 u.2.1 u.2.2.1 u.2.2.2) (wr := []) (z_runV (q0 := 0) (wc := (wM ad K I12 J12 (va_up B12 5 (upd (B12 5) r5.toNatClampNeg 2)) D12)) (As := [.int 33]) (rest := []) ⟨hx, hb, hml, hown, hts⟩ (w_LassoFinderModel_takes l G K ad I12 J12 (va_up B12 5 (upd (B12 5) r5.toNatClampNeg 2)) D12 33 _ H.size hok) zf_LassoFinderModel_takes zm_347 ⟨Nat.le_of_ble_eq_true rfl, Nat.le_of_ble_eq_true rfl⟩ hK hw (List.range 58) wM_all wM_nd wM_g0 rfl rfl hl.1 rfl (Nat.le_of_ble_eq_true rfl) zd_LassoFinderModel_basic_368 ⟨Nat.le_of_ble_eq_true rfl, Nat.le_of_ble_eq_true rfl⟩) hw hA (List.range 58) [] wM_all rfl (by decide) (fun i hi => by cases hi) (fun r14 u H locs hok hw => ?_)
          obtain ⟨I14, J14, B14, D14⟩ := u
          dsimp only at hok
          have hw : zW G A s.heap (wM ad K I14 J14 B14 D14) H locs := hw
          refine lv_if_ne (tgt := 376) hx hb zd_LassoFinderModel_basic_371 (by decide) (fun hc15 => ?_) (fun hc15 => ?_)
          · have hok := hok.1 hc15
            exact wJ_LassoFinderModel_basic_376 G K ad a0 a1 Post C r5 I14 J14 B14 D14 ls H locs hok (lv_sub hl [1, 0] rfl) hw
          · have hok := hok.2 hc15
            refine lv_iconst (v := 0) hx hb zd_LassoFinderModel_basic_374 (by decide) ?_
            exact (z_iret (u := (I14, J14, B14, D14)) hx hb hr hlocks rfl hw (List.range 58) wM_all wM_nd hok (Nat.le_of_ble_eq_true rfl) (Nat.le_of_ble_eq_true rfl) zd_LassoFinderModel_basic_375)
        · have hok := hok.2 hc13
          refine lv_aload_n hx hb zd_LassoFinderModel_basic_283 rfl (lv_at hl 1 rfl) ?_
          refine z_get (v := .ref (ad 6)) hx hb hts hown hK hw zZ12 0 wM_g0 14 (by decide) zm_240 rfl zd_LassoFinderModel_basic_284 ?_
          refine lv_iload hx hb zd_LassoFinderModel_basic_287 (lv_at hl 0 rfl) ?_
          refine lv_iconst (v := 3) hx hb zd_LassoFinderModel_basic_289 (by decide) ?_
          refine va_iast (f := (B12 5)) hx hb hK hw.1 hw.2.1 hw.2.2 6 0 wM_a6 rfl hok.1 zd_LassoFinderModel_basic_290 (fun H locs w91 w92 w93 => ?_)
          have hok := hok.2
          have hw := wM_t6 ⟨w91, w92, w93⟩
          refine lv_aload_n hx hb zd_LassoFinderModel_basic_291 rfl (lv_at hl 1 rfl) ?_
          refine lv_dup hx hb zd_LassoFinderModel_basic_292 rfl ?_
          refine z_get (v := .int (I12 2)) hx hb hts hown hK hw zZ12 0 wM_g0 3 (by decide) zm_335 rfl zd_LassoFinderModel_basic_293 ?_
          refine lv_iconst (v := 1) hx hb zd_LassoFinderModel_basic_296 (by decide) ?_
          refine lv_iadd hx hb zd_LassoFinderModel_basic_297 ?_
          refine lv_topi (fun z16 ez16 => ?_)
          have hok := hok z16 ez16
          refine z_put (v := .int z16) hx hb hts hown hK hw zZ12 0 wM_g0 3 (by decide) zm_335 rfl rfl rfl (Nat.le_of_ble_eq_true rfl) zd_LassoFinderModel_basic_298 (fun H locs hw => ?_)
          have hw := wM_sI2 hw
          refine lv_aload_n hx hb zd_LassoFinderModel_basic_301 rfl (lv_at hl 1 rfl) ?_
          refine lv_bipush (v := 97) hx hb zd_LassoFinderModel_basic_302 (by decide) ?_
          refine lv_bipush (v := 8) hx hb zd_LassoFinderModel_basic_304 (by decide) ?_
          refine z_calli (w1 := fun (u : zS) => wM ad K u.1 u.2.1 u.2.2.1 u.2.2.2) (wr := []) (z_runV (q0 := 0) (wc := (wM ad K (upd I12 2 z16) J12 (va_up B12 5 (upd (B12 5) r5.toNatClampNeg 3)) D12)) (As := [.int 97, .int 8]) (rest := []) ⟨hx, hb, hml, hown, hts⟩ (w_LassoFinderModel_from l G K ad (upd I12 2 z16) J12 (va_up B12 5 (upd (B12 5) r5.toNatClampNeg 3)) D12 97 8 _ H.size hok) zf_LassoFinderModel_from zm_344 ⟨Nat.le_of_ble_eq_true rfl, Nat.le_of_ble_eq_true rfl⟩ hK hw (List.range 58) wM_all wM_nd wM_g0 rfl rfl hl.1 rfl (Nat.le_of_ble_eq_true rfl) zd_LassoFinderModel_basic_306 ⟨Nat.le_of_ble_eq_true rfl, Nat.le_of_ble_eq_true rfl⟩) hw hA (List.range 58) [] wM_all rfl (by decide) (fun i hi => by cases hi) (fun r17 u H locs hok hw => ?_)
          obtain ⟨I17, J17, B17, D17⟩ := u
          dsimp only at hok
          have hw : zW G A s.heap (wM ad K I17 J17 B17 D17) H locs := hw
          refine lv_istore hx hb zd_LassoFinderModel_basic_309 hl (by decide) rfl (fun ls hl => ?_)
          have hl : lv_has ls 8 [(7, .int r17), (6, .int r5), (0, .ref (ad 0)), (1, .int x1), (3, .int x3), (4, .int x4)] := hl
          refine lv_iload hx hb zd_LassoFinderModel_basic_311 (lv_at hl 0 rfl) ?_
          refine lv_if_lt (tgt := 326) hx hb zd_LassoFinderModel_basic_313 (by decide) (fun hc18 => ?_) (fun hc18 => ?_)
          · have hok := hok.1 hc18
            exact wJ_LassoFinderModel_basic_326 G K ad a0 a1 Post C I17 J17 B17 D17 ls H locs hok (lv_sub hl [2] rfl) hw
          · have hok := hok.2 hc18
            refine lv_aload_n hx hb zd_LassoFinderModel_basic_316 rfl (lv_at hl 2 rfl) ?_
            refine z_get (v := .ref (ad 2)) hx hb hts hown hK hw zZ12 0 wM_g0 9 (by decide) zm_236 rfl zd_LassoFinderModel_basic_317 ?_
            refine lv_iload hx hb zd_LassoFinderModel_basic_320 (lv_at hl 0 rfl) ?_
            refine va_iald (f := (B17 1)) hx hb hK hw.1 2 0 wM_a2 rfl hok.1 zd_LassoFinderModel_basic_322 ?_
            have hok := hok.2
            refine lv_topi (fun z19 ez19 => ?_)
            have hok := hok z19 ez19
            refine lv_if_ge (tgt := 331) hx hb zd_LassoFinderModel_basic_323 (by decide) (fun hc20 => ?_) (fun hc20 => ?_)
            · have hok := hok.1 hc20
              refine lv_aload_n hx hb zd_LassoFinderModel_basic_331 rfl (lv_at hl 2 rfl) ?_
              refine z_get (v := .ref (ad 14)) hx hb hts hown hK hw zZ12 0 wM_g0 22 (by decide) zm_248 rfl zd_LassoFinderModel_basic_332 ?_
              refine lv_iload hx hb zd_LassoFinderModel_basic_335 (lv_at hl 1 rfl) ?_
              refine lv_aload_n hx hb zd_LassoFinderModel_basic_337 rfl (lv_at hl 2 rfl) ?_
              refine z_get (v := .ref (ad 2)) hx hb hts hown hK hw zZ12 0 wM_g0 9 (by decide) zm_236 rfl zd_LassoFinderModel_basic_338 ?_
              refine lv_iload hx hb zd_LassoFinderModel_basic_341 (lv_at hl 0 rfl) ?_
              refine va_iald (f := (B17 1)) hx hb hK hw.1 2 0 wM_a2 rfl hok.1 zd_LassoFinderModel_basic_343 ?_
              have hok := hok.2
              refine lv_topi (fun z21 ez21 => ?_)
              have hok := hok z21 ez21
              refine va_iast (f := (B17 13)) hx hb hK hw.1 hw.2.1 hw.2.2 14 0 wM_a14 rfl hok.1 zd_LassoFinderModel_basic_344 (fun H locs w91 w92 w93 => ?_)
              have hok := hok.2
              have hw := wM_t14 ⟨w91, w92, w93⟩
              refine lv_aload_n hx hb zd_LassoFinderModel_basic_345 rfl (lv_at hl 2 rfl) ?_
              refine lv_dup hx hb zd_LassoFinderModel_basic_346 rfl ?_
              refine z_get (v := .int (I17 2)) hx hb hts hown hK hw zZ12 0 wM_g0 3 (by decide) zm_335 rfl zd_LassoFinderModel_basic_347 ?_
              refine lv_iconst (v := 1) hx hb zd_LassoFinderModel_basic_350 (by decide) ?_
              refine lv_iadd hx hb zd_LassoFinderModel_basic_351 ?_
              refine lv_topi (fun z22 ez22 => ?_)
              have hok := hok z22 ez22
              refine z_put (v := .int z22) hx hb hts hown hK hw zZ12 0 wM_g0 3 (by decide) zm_335 rfl rfl rfl (Nat.le_of_ble_eq_true rfl) zd_LassoFinderModel_basic_352 (fun H locs hw => ?_)
              have hw := wM_sI2 hw
              refine lv_iconst (v := 1) hx hb zd_LassoFinderModel_basic_355 (by decide) ?_
              exact (z_iret (u := ((upd I17 2 z22), J17, (va_up B17 13 (upd (B17 13) r5.toNatClampNeg z21)), D17)) hx hb hr hlocks rfl hw (List.range 58) wM_all wM_nd hok (Nat.le_of_ble_eq_true rfl) (Nat.le_of_ble_eq_true rfl) zd_LassoFinderModel_basic_356)
            · have hok := hok.2 hc20
              exact wJ_LassoFinderModel_basic_326 G K ad a0 a1 Post C I17 J17 B17 D17 ls H locs hok (lv_sub hl [2] rfl) hw
      · have hok := hok.2 hc10
        refine lv_aload_n hx hb zd_LassoFinderModel_basic_237 rfl (lv_at hl 1 rfl) ?_
        refine z_get (v := .ref (ad 13)) hx hb hts hown hK hw zZ12 0 wM_g0 21 (by decide) zm_247 rfl zd_LassoFinderModel_basic_238 ?_
        refine lv_iload hx hb zd_LassoFinderModel_basic_241 (lv_at hl 0 rfl) ?_
        refine lv_aload_n hx hb zd_LassoFinderModel_basic_243 rfl (lv_at hl 1 rfl) ?_
        refine z_get (v := .ref (ad 2)) hx hb hts hown hK hw zZ12 0 wM_g0 9 (by decide) zm_236 rfl zd_LassoFinderModel_basic_244 ?_
        refine lv_iload_n hx hb zd_LassoFinderModel_basic_247 rfl (lv_at hl 3 rfl) ?_
        refine va_iald (f := (B5 1)) hx hb hK hw.1 2 0 wM_a2 rfl hok.1 zd_LassoFinderModel_basic_248 ?_
        have hok := hok.2
        refine lv_topi (fun z23 ez23 => ?_)
        have hok := hok z23 ez23
        refine va_iast (f := (B5 12)) hx hb hK hw.1 hw.2.1 hw.2.2 13 0 wM_a13 rfl hok.1 zd_LassoFinderModel_basic_249 (fun H locs w91 w92 w93 => ?_)
        have hok := hok.2
        have hw := wM_t13 ⟨w91, w92, w93⟩
        refine lv_aload_n hx hb zd_LassoFinderModel_basic_250 rfl (lv_at hl 1 rfl) ?_
        refine lv_bipush (v := 61) hx hb zd_LassoFinderModel_basic_251 (by decide) ?_
        refine z_calli (w1 := fun (u : zS) => wM ad K u.1 u.2.1 u.2.2.1 u.2.2.2) (wr := []) (z_runV (q0 := 0) (wc := (wM ad K (upd I5 2 z6) J5 (va_up (va_up (va_up B5 14 (upd (B5 14) r5.toNatClampNeg (I5 11))) 15 (upd (B5 15) r5.toNatClampNeg (I5 11))) 12 (upd (B5 12) r5.toNatClampNeg z23)) D5)) (As := [.int 61]) (rest := []) ⟨hx, hb, hml, hown, hts⟩ (w_LassoFinderModel_takes l G K ad (upd I5 2 z6) J5 (va_up (va_up (va_up B5 14 (upd (B5 14) r5.toNatClampNeg (I5 11))) 15 (upd (B5 15) r5.toNatClampNeg (I5 11))) 12 (upd (B5 12) r5.toNatClampNeg z23)) D5 61 _ H.size hok) zf_LassoFinderModel_takes zm_347 ⟨Nat.le_of_ble_eq_true rfl, Nat.le_of_ble_eq_true rfl⟩ hK hw (List.range 58) wM_all wM_nd wM_g0 rfl rfl hl.1 rfl (Nat.le_of_ble_eq_true rfl) zd_LassoFinderModel_basic_253 ⟨Nat.le_of_ble_eq_true rfl, Nat.le_of_ble_eq_true rfl⟩) hw hA (List.range 58) [] wM_all rfl (by decide) (fun i hi => by cases hi) (fun r24 u H locs hok hw => ?_)
        obtain ⟨I24, J24, B24, D24⟩ := u
        dsimp only at hok
        have hw : zW G A s.heap (wM ad K I24 J24 B24 D24) H locs := hw
        refine lv_if_ne (tgt := 376) hx hb zd_LassoFinderModel_basic_256 (by decide) (fun hc25 => ?_) (fun hc25 => ?_)
        · have hok := hok.1 hc25
          exact wJ_LassoFinderModel_basic_376 G K ad a0 a1 Post C r5 I24 J24 B24 D24 ls H locs hok (lv_sub hl [1, 0] rfl) hw
        · have hok := hok.2 hc25
          refine lv_iconst (v := 0) hx hb zd_LassoFinderModel_basic_259 (by decide) ?_
          exact (z_iret (u := (I24, J24, B24, D24)) hx hb hr hlocks rfl hw (List.range 58) wM_all wM_nd hok (Nat.le_of_ble_eq_true rfl) (Nat.le_of_ble_eq_true rfl) zd_LassoFinderModel_basic_260)
    · have hok := hok.2 hc8
      refine lv_iconst (v := 1) hx hb zd_LassoFinderModel_basic_226 (by decide) ?_
      exact (z_iret (u := ((upd I5 2 z6), J5, (va_up (va_up B5 14 (upd (B5 14) r5.toNatClampNeg (I5 11))) 15 (upd (B5 15) r5.toNatClampNeg (I5 11))), D5)) hx hb hr hlocks rfl hw (List.range 58) wM_all wM_nd hok (Nat.le_of_ble_eq_true rfl) (Nat.le_of_ble_eq_true rfl) zd_LassoFinderModel_basic_227)
  · have hok := hok.2 hc7
    refine lv_aload_n hx hb zd_LassoFinderModel_basic_193 rfl (lv_at hl 1 rfl) ?_
    refine lv_iconst (v := 1) hx hb zd_LassoFinderModel_basic_194 (by decide) ?_
    refine z_calli (w1 := fun (u : zS) => wM ad K u.1 u.2.1 u.2.2.1 u.2.2.2) (wr := []) (z_runV (q0 := 0) (wc := (wM ad K (upd I5 2 z6) J5 (va_up (va_up B5 14 (upd (B5 14) r5.toNatClampNeg (I5 11))) 15 (upd (B5 15) r5.toNatClampNeg (I5 11))) D5)) (As := [.int 1]) (rest := []) ⟨hx, hb, hml, hown, hts⟩ (w_LassoFinderModel_expression l G K ad (upd I5 2 z6) J5 (va_up (va_up B5 14 (upd (B5 14) r5.toNatClampNeg (I5 11))) 15 (upd (B5 15) r5.toNatClampNeg (I5 11))) D5 1 _ H.size hok) zf_LassoFinderModel_expression zm_346 ⟨Nat.le_of_ble_eq_true rfl, Nat.le_of_ble_eq_true rfl⟩ hK hw (List.range 58) wM_all wM_nd wM_g0 rfl rfl hl.1 rfl (Nat.le_of_ble_eq_true rfl) zd_LassoFinderModel_basic_195 ⟨Nat.le_of_ble_eq_true rfl, Nat.le_of_ble_eq_true rfl⟩) hw hA (List.range 58) [] wM_all rfl (by decide) (fun i hi => by cases hi) (fun r26 u H locs hok hw => ?_)
    obtain ⟨I26, J26, B26, D26⟩ := u
    dsimp only at hok
    have hw : zW G A s.heap (wM ad K I26 J26 B26 D26) H locs := hw
    refine lv_if_ne (tgt := 203) hx hb zd_LassoFinderModel_basic_198 (by decide) (fun hc27 => ?_) (fun hc27 => ?_)
    · have hok := hok.1 hc27
      refine lv_aload_n hx hb zd_LassoFinderModel_basic_203 rfl (lv_at hl 1 rfl) ?_
      refine z_get (v := .ref (ad 16)) hx hb hts hown hK hw zZ12 0 wM_g0 24 (by decide) zm_250 rfl zd_LassoFinderModel_basic_204 ?_
      refine lv_iload hx hb zd_LassoFinderModel_basic_207 (lv_at hl 0 rfl) ?_
      refine lv_aload_n hx hb zd_LassoFinderModel_basic_209 rfl (lv_at hl 1 rfl) ?_
      refine z_get (v := .int (I26 11)) hx hb hts hown hK hw zZ12 0 wM_g0 36 (by decide) zm_296 rfl zd_LassoFinderModel_basic_210 ?_
      refine va_iast (f := (B26 15)) hx hb hK hw.1 hw.2.1 hw.2.2 16 0 wM_a16 rfl hok.1 zd_LassoFinderModel_basic_213 (fun H locs w91 w92 w93 => ?_)
      have hok := hok.2
      have hw := wM_t16 ⟨w91, w92, w93⟩
      refine lv_aload_n hx hb zd_LassoFinderModel_basic_214 rfl (lv_at hl 1 rfl) ?_
      refine lv_bipush (v := 41) hx hb zd_LassoFinderModel_basic_215 (by decide) ?_
      refine z_calli (w1 := fun (u : zS) => wM ad K u.1 u.2.1 u.2.2.1 u.2.2.2) (wr := []) (z_runV (q0 := 0) (wc := (wM ad K I26 J26 (va_up B26 15 (upd (B26 15) r5.toNatClampNeg (I26 11))) D26)) (As := [.int 41]) (rest := []) ⟨hx, hb, hml, hown, hts⟩ (w_LassoFinderModel_takes l G K ad I26 J26 (va_up B26 15 (upd (B26 15) r5.toNatClampNeg (I26 11))) D26 41 _ H.size hok) zf_LassoFinderModel_takes zm_347 ⟨Nat.le_of_ble_eq_true rfl, Nat.le_of_ble_eq_true rfl⟩ hK hw (List.range 58) wM_all wM_nd wM_g0 rfl rfl hl.1 rfl (Nat.le_of_ble_eq_true rfl) zd_LassoFinderModel_basic_217 ⟨Nat.le_of_ble_eq_true rfl, Nat.le_of_ble_eq_true rfl⟩) hw hA (List.range 58) [] wM_all rfl (by decide) (fun i hi => by cases hi) (fun r28 u H locs hok hw => ?_)
      obtain ⟨I28, J28, B28, D28⟩ := u
      dsimp only at hok
      have hw : zW G A s.heap (wM ad K I28 J28 B28 D28) H locs := hw
      have hbo := hok.1
      have hok := hok.2
      exact (z_iret (u := (I28, J28, B28, D28)) hx hb hr hlocks (z_nar hbo) hw (List.range 58) wM_all wM_nd hok (Nat.le_of_ble_eq_true rfl) (Nat.le_of_ble_eq_true rfl) zd_LassoFinderModel_basic_220)
    · have hok := hok.2 hc27
      refine lv_iconst (v := 0) hx hb zd_LassoFinderModel_basic_201 (by decide) ?_
      exact (z_iret (u := (I26, J26, B26, D26)) hx hb hr hlocks rfl hw (List.range 58) wM_all wM_nd hok (Nat.le_of_ble_eq_true rfl) (Nat.le_of_ble_eq_true rfl) zd_LassoFinderModel_basic_202)
set_option maxHeartbeats 8000000 in
set_option maxRecDepth 100000 in
theorem wJ_LassoFinderModel_basic_83 {p : Program} {l : Launch} {e : Env} {s : State} {m : MethodId} {below : List Frame} {meth : Method} {c : Code} {A : Nat → Prop} (G : va_G) (K : Nat → ClassId) (ad : Nat → Nat) (a0 : Int32) (a1 : Int32) (Post : Int32 → (Nat → Int32) → (Nat → Int64) → (Nat → Nat → Int32) → (Nat → Nat → Int64) → Prop) (C : zCx p s m ([.ref (ad 0), .int a0, .int a1] : List Value).toArray meth c A G K prog_14_method_20_code (some .boolean) 8 "LassoFinderModel") : ∀ (x1 : Int32) (x3 : Int32) (x4 : Int32) (y0 : Int32) (I : Nat → Int32) (J : Nat → Int64) (B : Nat → Nat → Int32) (D : Nat → Nat → Int64) (ls : Array Slot) (H : Heap) (locs : List Loc), wc_LassoFinderModel_basic_83 a0 a1 Post x1 x3 x4 y0 I J B D → lv_has ls 8 [(0, .ref (ad 0)), (1, .int x1), (3, .int x3), (4, .int x4)] → zW G A s.heap (wM ad K I J B D) H locs → W p l e { frames := 3, cells := 0, slots := 0, locals := 72 } s m ([.ref (ad 0), .int a0, .int a1] : List Value).toArray below meth c H locs 0 0 (MQ below (va_Qi (fun (r : Int32) (u : zS) => Post r u.1 u.2.1 u.2.2.1 u.2.2.2) (fun u t => zPost G K A (wM ad K u.1 u.2.1 u.2.2.1 u.2.2.2) t) A) ([.ref (ad 0), .int a0, .int a1] : List Value).toArray s 0 0 A) (F0 m 83 ls [.int y0]) := by
  obtain ⟨hx, hb, hr, hml, hts, hown, hlocks, hA, hK⟩ := id C
  intro x1 x3 x4 y0 I J B D ls H locs hok hl hw
  unfold wc_LassoFinderModel_basic_83 at hok
  refine lv_istore hx hb zd_LassoFinderModel_basic_83 hl (by decide) rfl (fun ls hl => ?_)
  have hl : lv_has ls 8 [(5, .int y0), (0, .ref (ad 0)), (1, .int x1), (3, .int x3), (4, .int x4)] := hl
  refine lv_iload hx hb zd_LassoFinderModel_basic_85 (lv_at hl 0 rfl) ?_
  refine lv_if_eq (tgt := 113) hx hb zd_LassoFinderModel_basic_87 (by decide) (fun hc29 => ?_) (fun hc29 => ?_)
  · have hok := hok.1 hc29
    exact wJ_LassoFinderModel_basic_113 G K ad a0 a1 Post C I J B D ls H locs hok (lv_sub hl [1] rfl) hw
  · have hok := hok.2 hc29
    refine lv_aload_n hx hb zd_LassoFinderModel_basic_90 rfl (lv_at hl 1 rfl) ?_
    refine z_get (v := .int (I 9)) hx hb hts hown hK hw zZ12 0 wM_g0 27 (by decide) zm_303 rfl zd_LassoFinderModel_basic_91 ?_
    refine lv_bipush (v := 48) hx hb zd_LassoFinderModel_basic_94 (by decide) ?_
    refine lv_icmp_eq (tgt := 113) hx hb zd_LassoFinderModel_basic_96 (by decide) (fun hc30 => ?_) (fun hc30 => ?_)
    · have hok := hok.1 hc30
      exact wJ_LassoFinderModel_basic_113 G K ad a0 a1 Post C I J B D ls H locs hok (lv_sub hl [1] rfl) hw
    · have hok := hok.2 hc30
      refine lv_aload_n hx hb zd_LassoFinderModel_basic_99 rfl (lv_at hl 1 rfl) ?_
      refine z_get (v := .ref (ad 21)) hx hb hts hown hK hw zZ12 0 wM_g0 31 (by decide) zm_255 rfl zd_LassoFinderModel_basic_100 ?_
      refine lv_aload_n hx hb zd_LassoFinderModel_basic_103 rfl (lv_at hl 1 rfl) ?_
      refine z_get (v := .int (I 10)) hx hb hts hown hK hw zZ12 0 wM_g0 30 (by decide) zm_310 rfl zd_LassoFinderModel_basic_104 ?_
      refine va_iald (f := (B 20)) hx hb hK hw.1 21 0 wM_a21 rfl hok.1 zd_LassoFinderModel_basic_107 ?_
      have hok := hok.2
      refine lv_topi (fun z31 ez31 => ?_)
      have hok := hok z31 ez31
      refine lv_bipush (v := 30) hx hb zd_LassoFinderModel_basic_108 (by decide) ?_
      refine lv_icmp_ne (tgt := 118) hx hb zd_LassoFinderModel_basic_110 (by decide) (fun hc32 => ?_) (fun hc32 => ?_)
      · have hok := hok.1 hc32
        refine lv_aload_n hx hb zd_LassoFinderModel_basic_118 rfl (lv_at hl 1 rfl) ?_
        refine lv_iload_n hx hb zd_LassoFinderModel_basic_119 rfl (lv_at hl 2 rfl) ?_
        refine lv_bipush (v := 40) hx hb zd_LassoFinderModel_basic_120 (by decide) ?_
        refine lv_icmp_ne (tgt := 129) hx hb zd_LassoFinderModel_basic_122 (by decide) (fun hc33 => ?_) (fun hc33 => ?_)
        · have hok := hok.1 hc33
          refine lv_iload_n hx hb zd_LassoFinderModel_basic_129 rfl (lv_at hl 2 rfl) ?_
          refine lv_bipush (v := 45) hx hb zd_LassoFinderModel_basic_130 (by decide) ?_
          refine lv_icmp_ne (tgt := 139) hx hb zd_LassoFinderModel_basic_132 (by decide) (fun hc34 => ?_) (fun hc34 => ?_)
          · have hok := hok.1 hc34
            refine lv_iload_n hx hb zd_LassoFinderModel_basic_139 rfl (lv_at hl 2 rfl) ?_
            refine lv_bipush (v := 126) hx hb zd_LassoFinderModel_basic_140 (by decide) ?_
            refine lv_icmp_ne (tgt := 149) hx hb zd_LassoFinderModel_basic_142 (by decide) (fun hc35 => ?_) (fun hc35 => ?_)
            · have hok := hok.1 hc35
              refine lv_iconst (v := 0) hx hb zd_LassoFinderModel_basic_149 (by decide) ?_
              exact wJ_LassoFinderModel_basic_150 G K ad a0 a1 Post C x1 x3 x4 0 I J B D ls H locs hok (lv_sub hl [1, 2, 3, 4] rfl) hw
            · have hok := hok.2 hc35
              refine lv_iconst (v := 5) hx hb zd_LassoFinderModel_basic_145 (by decide) ?_
              refine lv_goto (tgt := 150) hx hb zd_LassoFinderModel_basic_146 (by decide) ?_
              exact wJ_LassoFinderModel_basic_150 G K ad a0 a1 Post C x1 x3 x4 5 I J B D ls H locs hok (lv_sub hl [1, 2, 3, 4] rfl) hw
          · have hok := hok.2 hc34
            refine lv_iconst (v := 4) hx hb zd_LassoFinderModel_basic_135 (by decide) ?_
            refine lv_goto (tgt := 150) hx hb zd_LassoFinderModel_basic_136 (by decide) ?_
            exact wJ_LassoFinderModel_basic_150 G K ad a0 a1 Post C x1 x3 x4 4 I J B D ls H locs hok (lv_sub hl [1, 2, 3, 4] rfl) hw
        · have hok := hok.2 hc33
          refine lv_iconst (v := 1) hx hb zd_LassoFinderModel_basic_125 (by decide) ?_
          refine lv_goto (tgt := 150) hx hb zd_LassoFinderModel_basic_126 (by decide) ?_
          exact wJ_LassoFinderModel_basic_150 G K ad a0 a1 Post C x1 x3 x4 1 I J B D ls H locs hok (lv_sub hl [1, 2, 3, 4] rfl) hw
      · have hok := hok.2 hc32
        exact wJ_LassoFinderModel_basic_113 G K ad a0 a1 Post C I J B D ls H locs hok (lv_sub hl [1] rfl) hw
set_option maxHeartbeats 8000000 in
set_option maxRecDepth 100000 in
theorem wJ_LassoFinderModel_basic_78 {p : Program} {l : Launch} {e : Env} {s : State} {m : MethodId} {below : List Frame} {meth : Method} {c : Code} {A : Nat → Prop} (G : va_G) (K : Nat → ClassId) (ad : Nat → Nat) (a0 : Int32) (a1 : Int32) (Post : Int32 → (Nat → Int32) → (Nat → Int64) → (Nat → Nat → Int32) → (Nat → Nat → Int64) → Prop) (C : zCx p s m ([.ref (ad 0), .int a0, .int a1] : List Value).toArray meth c A G K prog_14_method_20_code (some .boolean) 8 "LassoFinderModel") : ∀ (x1 : Int32) (x3 : Int32) (x4 : Int32) (I : Nat → Int32) (J : Nat → Int64) (B : Nat → Nat → Int32) (D : Nat → Nat → Int64) (ls : Array Slot) (H : Heap) (locs : List Loc), wc_LassoFinderModel_basic_78 a0 a1 Post x1 x3 x4 I J B D → lv_has ls 8 [(0, .ref (ad 0)), (1, .int x1), (3, .int x3), (4, .int x4)] → zW G A s.heap (wM ad K I J B D) H locs → W p l e { frames := 3, cells := 0, slots := 0, locals := 72 } s m ([.ref (ad 0), .int a0, .int a1] : List Value).toArray below meth c H locs 0 0 (MQ below (va_Qi (fun (r : Int32) (u : zS) => Post r u.1 u.2.1 u.2.2.1 u.2.2.2) (fun u t => zPost G K A (wM ad K u.1 u.2.1 u.2.2.1 u.2.2.2) t) A) ([.ref (ad 0), .int a0, .int a1] : List Value).toArray s 0 0 A) (F0 m 78 ls []) := by
  obtain ⟨hx, hb, hr, hml, hts, hown, hlocks, hA, hK⟩ := id C
  intro x1 x3 x4 I J B D ls H locs hok hl hw
  unfold wc_LassoFinderModel_basic_78 at hok
  refine lv_iconst (v := 1) hx hb zd_LassoFinderModel_basic_78 (by decide) ?_
  refine lv_goto (tgt := 83) hx hb zd_LassoFinderModel_basic_79 (by decide) ?_
  exact wJ_LassoFinderModel_basic_83 G K ad a0 a1 Post C x1 x3 x4 1 I J B D ls H locs hok (lv_sub hl [0, 1, 2, 3] rfl) hw
set_option maxHeartbeats 8000000 in
set_option maxRecDepth 100000 in
theorem wJ_LassoFinderModel_basic_82 {p : Program} {l : Launch} {e : Env} {s : State} {m : MethodId} {below : List Frame} {meth : Method} {c : Code} {A : Nat → Prop} (G : va_G) (K : Nat → ClassId) (ad : Nat → Nat) (a0 : Int32) (a1 : Int32) (Post : Int32 → (Nat → Int32) → (Nat → Int64) → (Nat → Nat → Int32) → (Nat → Nat → Int64) → Prop) (C : zCx p s m ([.ref (ad 0), .int a0, .int a1] : List Value).toArray meth c A G K prog_14_method_20_code (some .boolean) 8 "LassoFinderModel") : ∀ (x1 : Int32) (x3 : Int32) (x4 : Int32) (I : Nat → Int32) (J : Nat → Int64) (B : Nat → Nat → Int32) (D : Nat → Nat → Int64) (ls : Array Slot) (H : Heap) (locs : List Loc), wc_LassoFinderModel_basic_82 a0 a1 Post x1 x3 x4 I J B D → lv_has ls 8 [(0, .ref (ad 0)), (1, .int x1), (3, .int x3), (4, .int x4)] → zW G A s.heap (wM ad K I J B D) H locs → W p l e { frames := 3, cells := 0, slots := 0, locals := 72 } s m ([.ref (ad 0), .int a0, .int a1] : List Value).toArray below meth c H locs 0 0 (MQ below (va_Qi (fun (r : Int32) (u : zS) => Post r u.1 u.2.1 u.2.2.1 u.2.2.2) (fun u t => zPost G K A (wM ad K u.1 u.2.1 u.2.2.1 u.2.2.2) t) A) ([.ref (ad 0), .int a0, .int a1] : List Value).toArray s 0 0 A) (F0 m 82 ls []) := by
  obtain ⟨hx, hb, hr, hml, hts, hown, hlocks, hA, hK⟩ := id C
  intro x1 x3 x4 I J B D ls H locs hok hl hw
  unfold wc_LassoFinderModel_basic_82 at hok
  refine lv_iconst (v := 0) hx hb zd_LassoFinderModel_basic_82 (by decide) ?_
  exact wJ_LassoFinderModel_basic_83 G K ad a0 a1 Post C x1 x3 x4 0 I J B D ls H locs hok (lv_sub hl [0, 1, 2, 3] rfl) hw
set_option maxHeartbeats 8000000 in
set_option maxRecDepth 100000 in
theorem wJ_LassoFinderModel_basic_36 {p : Program} {l : Launch} {e : Env} {s : State} {m : MethodId} {below : List Frame} {meth : Method} {c : Code} {A : Nat → Prop} (G : va_G) (K : Nat → ClassId) (ad : Nat → Nat) (a0 : Int32) (a1 : Int32) (Post : Int32 → (Nat → Int32) → (Nat → Int64) → (Nat → Nat → Int32) → (Nat → Nat → Int64) → Prop) (C : zCx p s m ([.ref (ad 0), .int a0, .int a1] : List Value).toArray meth c A G K prog_14_method_20_code (some .boolean) 8 "LassoFinderModel") : ∀ (x1 : Int32) (x2 : Int32) (x3 : Int32) (y0 : Int32) (I : Nat → Int32) (J : Nat → Int64) (B : Nat → Nat → Int32) (D : Nat → Nat → Int64) (ls : Array Slot) (H : Heap) (locs : List Loc), wc_LassoFinderModel_basic_36 a0 a1 Post x1 x2 x3 y0 I J B D → lv_has ls 8 [(0, .ref (ad 0)), (1, .int x1), (2, .int x2), (3, .int x3)] → zW G A s.heap (wM ad K I J B D) H locs → W p l e { frames := 3, cells := 0, slots := 0, locals := 72 } s m ([.ref (ad 0), .int a0, .int a1] : List Value).toArray below meth c H locs 0 0 (MQ below (va_Qi (fun (r : Int32) (u : zS) => Post r u.1 u.2.1 u.2.2.1 u.2.2.2) (fun u t => zPost G K A (wM ad K u.1 u.2.1 u.2.2.1 u.2.2.2) t) A) ([.ref (ad 0), .int a0, .int a1] : List Value).toArray s 0 0 A) (F0 m 36 ls [.int y0]) := by
  obtain ⟨hx, hb, hr, hml, hts, hown, hlocks, hA, hK⟩ := id C
  intro x1 x2 x3 y0 I J B D ls H locs hok hl hw
  unfold wc_LassoFinderModel_basic_36 at hok
  refine lv_istore hx hb zd_LassoFinderModel_basic_36 hl (by decide) rfl (fun ls hl => ?_)
  have hl : lv_has ls 8 [(4, .int y0), (0, .ref (ad 0)), (1, .int x1), (2, .int x2), (3, .int x3)] := hl
  refine lv_iload hx hb zd_LassoFinderModel_basic_38 (lv_at hl 0 rfl) ?_
  refine lv_if_ne (tgt := 78) hx hb zd_LassoFinderModel_basic_40 (by decide) (fun hc36 => ?_) (fun hc36 => ?_)
  · have hok := hok.1 hc36
    exact wJ_LassoFinderModel_basic_78 G K ad a0 a1 Post C x1 x3 y0 I J B D ls H locs hok (lv_sub hl [1, 2, 4, 0] rfl) hw
  · have hok := hok.2 hc36
    refine lv_iload_n hx hb zd_LassoFinderModel_basic_43 rfl (lv_at hl 2 rfl) ?_
    refine lv_bipush (v := 40) hx hb zd_LassoFinderModel_basic_44 (by decide) ?_
    refine lv_icmp_eq (tgt := 78) hx hb zd_LassoFinderModel_basic_46 (by decide) (fun hc37 => ?_) (fun hc37 => ?_)
    · have hok := hok.1 hc37
      exact wJ_LassoFinderModel_basic_78 G K ad a0 a1 Post C x1 x3 y0 I J B D ls H locs hok (lv_sub hl [1, 2, 4, 0] rfl) hw
    · have hok := hok.2 hc37
      refine lv_iload_n hx hb zd_LassoFinderModel_basic_49 rfl (lv_at hl 2 rfl) ?_
      refine lv_bipush (v := 45) hx hb zd_LassoFinderModel_basic_50 (by decide) ?_
      refine lv_icmp_eq (tgt := 78) hx hb zd_LassoFinderModel_basic_52 (by decide) (fun hc38 => ?_) (fun hc38 => ?_)
      · have hok := hok.1 hc38
        exact wJ_LassoFinderModel_basic_78 G K ad a0 a1 Post C x1 x3 y0 I J B D ls H locs hok (lv_sub hl [1, 2, 4, 0] rfl) hw
      · have hok := hok.2 hc38
        refine lv_iload_n hx hb zd_LassoFinderModel_basic_55 rfl (lv_at hl 2 rfl) ?_
        refine lv_bipush (v := 126) hx hb zd_LassoFinderModel_basic_56 (by decide) ?_
        refine lv_icmp_ne (tgt := 82) hx hb zd_LassoFinderModel_basic_58 (by decide) (fun hc39 => ?_) (fun hc39 => ?_)
        · have hok := hok.1 hc39
          exact wJ_LassoFinderModel_basic_82 G K ad a0 a1 Post C x1 x3 y0 I J B D ls H locs hok (lv_sub hl [1, 2, 4, 0] rfl) hw
        · have hok := hok.2 hc39
          refine lv_iload_n hx hb zd_LassoFinderModel_basic_61 rfl (lv_at hl 3 rfl) ?_
          refine lv_if_eq (tgt := 82) hx hb zd_LassoFinderModel_basic_62 (by decide) (fun hc40 => ?_) (fun hc40 => ?_)
          · have hok := hok.1 hc40
            exact wJ_LassoFinderModel_basic_82 G K ad a0 a1 Post C x1 x3 y0 I J B D ls H locs hok (lv_sub hl [1, 2, 4, 0] rfl) hw
          · have hok := hok.2 hc40
            refine lv_aload_n hx hb zd_LassoFinderModel_basic_65 rfl (lv_at hl 1 rfl) ?_
            refine z_get (v := .ref (ad 27)) hx hb hts hown hK hw zZ12 0 wM_g0 39 (by decide) zm_261 rfl zd_LassoFinderModel_basic_66 ?_
            refine lv_aload_n hx hb zd_LassoFinderModel_basic_69 rfl (lv_at hl 1 rfl) ?_
            refine z_get (v := .int (I 12)) hx hb hts hown hK hw zZ12 0 wM_g0 38 (by decide) zm_338 rfl zd_LassoFinderModel_basic_70 ?_
            refine va_iald (f := (B 25)) hx hb hK hw.1 27 0 wM_a27 rfl hok.1 zd_LassoFinderModel_basic_73 ?_
            have hok := hok.2
            refine lv_topi (fun z41 ez41 => ?_)
            have hok := hok z41 ez41
            refine lv_iconst (v := 3) hx hb zd_LassoFinderModel_basic_74 (by decide) ?_
            refine lv_icmp_ge (tgt := 82) hx hb zd_LassoFinderModel_basic_75 (by decide) (fun hc42 => ?_) (fun hc42 => ?_)
            · have hok := hok.1 hc42
              exact wJ_LassoFinderModel_basic_82 G K ad a0 a1 Post C x1 x3 y0 I J B D ls H locs hok (lv_sub hl [1, 2, 4, 0] rfl) hw
            · have hok := hok.2 hc42
              exact wJ_LassoFinderModel_basic_78 G K ad a0 a1 Post C x1 x3 y0 I J B D ls H locs hok (lv_sub hl [1, 2, 4, 0] rfl) hw
set_option maxHeartbeats 8000000 in
set_option maxRecDepth 100000 in
theorem wJ_LassoFinderModel_basic_35 {p : Program} {l : Launch} {e : Env} {s : State} {m : MethodId} {below : List Frame} {meth : Method} {c : Code} {A : Nat → Prop} (G : va_G) (K : Nat → ClassId) (ad : Nat → Nat) (a0 : Int32) (a1 : Int32) (Post : Int32 → (Nat → Int32) → (Nat → Int64) → (Nat → Nat → Int32) → (Nat → Nat → Int64) → Prop) (C : zCx p s m ([.ref (ad 0), .int a0, .int a1] : List Value).toArray meth c A G K prog_14_method_20_code (some .boolean) 8 "LassoFinderModel") : ∀ (x1 : Int32) (x2 : Int32) (x3 : Int32) (I : Nat → Int32) (J : Nat → Int64) (B : Nat → Nat → Int32) (D : Nat → Nat → Int64) (ls : Array Slot) (H : Heap) (locs : List Loc), wc_LassoFinderModel_basic_35 a0 a1 Post x1 x2 x3 I J B D → lv_has ls 8 [(0, .ref (ad 0)), (1, .int x1), (2, .int x2), (3, .int x3)] → zW G A s.heap (wM ad K I J B D) H locs → W p l e { frames := 3, cells := 0, slots := 0, locals := 72 } s m ([.ref (ad 0), .int a0, .int a1] : List Value).toArray below meth c H locs 0 0 (MQ below (va_Qi (fun (r : Int32) (u : zS) => Post r u.1 u.2.1 u.2.2.1 u.2.2.2) (fun u t => zPost G K A (wM ad K u.1 u.2.1 u.2.2.1 u.2.2.2) t) A) ([.ref (ad 0), .int a0, .int a1] : List Value).toArray s 0 0 A) (F0 m 35 ls []) := by
  obtain ⟨hx, hb, hr, hml, hts, hown, hlocks, hA, hK⟩ := id C
  intro x1 x2 x3 I J B D ls H locs hok hl hw
  unfold wc_LassoFinderModel_basic_35 at hok
  refine lv_iconst (v := 0) hx hb zd_LassoFinderModel_basic_35 (by decide) ?_
  exact wJ_LassoFinderModel_basic_36 G K ad a0 a1 Post C x1 x2 x3 0 I J B D ls H locs hok (lv_sub hl [0, 1, 2, 3] rfl) hw
set_option maxHeartbeats 8000000 in
set_option maxRecDepth 100000 in
theorem wJ_LassoFinderModel_basic_31 {p : Program} {l : Launch} {e : Env} {s : State} {m : MethodId} {below : List Frame} {meth : Method} {c : Code} {A : Nat → Prop} (G : va_G) (K : Nat → ClassId) (ad : Nat → Nat) (a0 : Int32) (a1 : Int32) (Post : Int32 → (Nat → Int32) → (Nat → Int64) → (Nat → Nat → Int32) → (Nat → Nat → Int64) → Prop) (C : zCx p s m ([.ref (ad 0), .int a0, .int a1] : List Value).toArray meth c A G K prog_14_method_20_code (some .boolean) 8 "LassoFinderModel") : ∀ (x1 : Int32) (x2 : Int32) (x3 : Int32) (I : Nat → Int32) (J : Nat → Int64) (B : Nat → Nat → Int32) (D : Nat → Nat → Int64) (ls : Array Slot) (H : Heap) (locs : List Loc), wc_LassoFinderModel_basic_31 a0 a1 Post x1 x2 x3 I J B D → lv_has ls 8 [(0, .ref (ad 0)), (1, .int x1), (2, .int x2), (3, .int x3)] → zW G A s.heap (wM ad K I J B D) H locs → W p l e { frames := 3, cells := 0, slots := 0, locals := 72 } s m ([.ref (ad 0), .int a0, .int a1] : List Value).toArray below meth c H locs 0 0 (MQ below (va_Qi (fun (r : Int32) (u : zS) => Post r u.1 u.2.1 u.2.2.1 u.2.2.2) (fun u t => zPost G K A (wM ad K u.1 u.2.1 u.2.2.1 u.2.2.2) t) A) ([.ref (ad 0), .int a0, .int a1] : List Value).toArray s 0 0 A) (F0 m 31 ls []) := by
  obtain ⟨hx, hb, hr, hml, hts, hown, hlocks, hA, hK⟩ := id C
  intro x1 x2 x3 I J B D ls H locs hok hl hw
  unfold wc_LassoFinderModel_basic_31 at hok
  refine lv_iconst (v := 1) hx hb zd_LassoFinderModel_basic_31 (by decide) ?_
  refine lv_goto (tgt := 36) hx hb zd_LassoFinderModel_basic_32 (by decide) ?_
  exact wJ_LassoFinderModel_basic_36 G K ad a0 a1 Post C x1 x2 x3 1 I J B D ls H locs hok (lv_sub hl [0, 1, 2, 3] rfl) hw
set_option maxHeartbeats 8000000 in
set_option maxRecDepth 100000 in
theorem w_LassoFinderModel_basic (l : Launch) (G : va_G) (K : Nat → ClassId) (ad : Nat → Nat) (I : Nat → Int32) (J : Nat → Int64) (B : Nat → Nat → Int32) (D : Nat → Nat → Int64) (a0 : Int32) (a1 : Int32) (Post : Int32 → (Nat → Int32) → (Nat → Int64) → (Nat → Nat → Int32) → (Nat → Nat → Int64) → Prop) (sz : Nat) (hok : wp_LassoFinderModel_basic I J B D a0 a1 Post) : Met l zy_LassoFinderModel_basic (Cond.code zy_LassoFinderModel_basic prog_14_method_20_code 8 (some .boolean) :: zTB) { frames := 3, cells := 0, slots := 0, locals := 72 } (va_Pc [.ref (ad 0), .int a0, .int a1] (zPre G K (wM ad K I J B D) sz)) (va_Qi (fun (r : Int32) (u : zS) => Post r u.1 u.2.1 u.2.2.1 u.2.2.2) (fun u t => zPost G K (va_A (wM ad K I J B D) sz) (wM ad K u.1 u.2.1 u.2.2.1 u.2.2.2) t) (va_A (wM ad K I J B D) sz)) 0 0 (va_A (wM ad K I J B D) sz) := by
  refine zMet (y := zy_LassoFinderModel_basic) (av := [.ref (ad 0), .int a0, .int a1]) (maxL := 8) (cc := prog_14_method_20_code) (ret := (some .boolean)) (W0 := (wM ad K I J B D)) (sz := sz) (G := G) (K := K) (wt := zTB) (mc := 0) (ms := 0) (Qf := fun A => va_Qi (fun (r : Int32) (u : zS) => Post r u.1 u.2.1 u.2.2.1 u.2.2.2) (fun u t => zPost G K A (wM ad K u.1 u.2.1 u.2.2.1 u.2.2.2) t) A) (by decide) (Nat.le_of_ble_eq_true rfl) ?_
  intro p e s m below meth c ls A hx hb hr hml hts hown hlocks hin hA hK H locs hw hsz hl
  clear hsz
  have hown : s.vm.findClass "LassoFinderModel" = some m.cls := hown
  have C : zCx p s m ([.ref (ad 0), .int a0, .int a1] : List Value).toArray meth c A G K prog_14_method_20_code (some .boolean) 8 "LassoFinderModel" := ⟨hx, hb, hr, hml, hts, hown, hlocks, hA, hK⟩
  have hl : lv_has ls 8 [(0, .ref (ad 0)), (1, .int a0), (2, .int a1)] := hl
  have hw : zW G A s.heap (wM ad K I J B D) H locs := hw
  unfold wp_LassoFinderModel_basic at hok
  refine lv_aload_n hx hb zd_LassoFinderModel_basic_0 rfl (lv_at hl 0 rfl) ?_
  refine lv_bipush (v := 97) hx hb zd_LassoFinderModel_basic_1 (by decide) ?_
  refine lv_bipush (v := 8) hx hb zd_LassoFinderModel_basic_3 (by decide) ?_
  refine z_calli (w1 := fun (u : zS) => wM ad K u.1 u.2.1 u.2.2.1 u.2.2.2) (wr := []) (z_runV (q0 := 0) (wc := (wM ad K I J B D)) (As := [.int 97, .int 8]) (rest := []) ⟨hx, hb, hml, hown, hts⟩ (w_LassoFinderModel_from l G K ad I J B D 97 8 _ H.size hok) zf_LassoFinderModel_from zm_344 ⟨Nat.le_of_ble_eq_true rfl, Nat.le_of_ble_eq_true rfl⟩ hK hw (List.range 58) wM_all wM_nd wM_g0 rfl rfl hl.1 rfl (Nat.le_of_ble_eq_true rfl) zd_LassoFinderModel_basic_5 ⟨Nat.le_of_ble_eq_true rfl, Nat.le_of_ble_eq_true rfl⟩) hw hA (List.range 58) [] wM_all rfl (by decide) (fun i hi => by cases hi) (fun r43 u H locs hok hw => ?_)
  obtain ⟨I43, J43, B43, D43⟩ := u
  dsimp only at hok
  have hw : zW G A s.heap (wM ad K I43 J43 B43 D43) H locs := hw
  refine lv_istore_n hx hb zd_LassoFinderModel_basic_8 rfl hl (by decide) rfl (fun ls hl => ?_)
  have hl : lv_has ls 8 [(3, .int r43), (0, .ref (ad 0)), (1, .int a0), (2, .int a1)] := hl
  refine lv_iload_n hx hb zd_LassoFinderModel_basic_9 rfl (lv_at hl 0 rfl) ?_
  refine lv_if_lt (tgt := 35) hx hb zd_LassoFinderModel_basic_10 (by decide) (fun hc44 => ?_) (fun hc44 => ?_)
  · have hok := hok.1 hc44
    exact wJ_LassoFinderModel_basic_35 G K ad a0 a1 Post C a0 a1 r43 I43 J43 B43 D43 ls H locs hok (lv_sub hl [1, 2, 3, 0] rfl) hw
  · have hok := hok.2 hc44
    refine lv_aload_n hx hb zd_LassoFinderModel_basic_13 rfl (lv_at hl 1 rfl) ?_
    refine z_get (v := .ref (ad 2)) hx hb hts hown hK hw zZ12 0 wM_g0 9 (by decide) zm_236 rfl zd_LassoFinderModel_basic_14 ?_
    refine lv_iload_n hx hb zd_LassoFinderModel_basic_17 rfl (lv_at hl 0 rfl) ?_
    refine va_iald (f := (B43 1)) hx hb hK hw.1 2 0 wM_a2 rfl hok.1 zd_LassoFinderModel_basic_18 ?_
    have hok := hok.2
    refine lv_topi (fun z45 ez45 => ?_)
    have hok := hok z45 ez45
    refine lv_if_ge (tgt := 31) hx hb zd_LassoFinderModel_basic_19 (by decide) (fun hc46 => ?_) (fun hc46 => ?_)
    · have hok := hok.1 hc46
      exact wJ_LassoFinderModel_basic_31 G K ad a0 a1 Post C a0 a1 r43 I43 J43 B43 D43 ls H locs hok (lv_sub hl [1, 2, 3, 0] rfl) hw
    · have hok := hok.2 hc46
      refine lv_aload_n hx hb zd_LassoFinderModel_basic_22 rfl (lv_at hl 1 rfl) ?_
      refine z_get (v := .ref (ad 3)) hx hb hts hown hK hw zZ12 0 wM_g0 10 (by decide) zm_237 rfl zd_LassoFinderModel_basic_23 ?_
      refine lv_iload_n hx hb zd_LassoFinderModel_basic_26 rfl (lv_at hl 0 rfl) ?_
      refine va_iald (f := (B43 2)) hx hb hK hw.1 3 0 wM_a3 rfl hok.1 zd_LassoFinderModel_basic_27 ?_
      have hok := hok.2
      refine lv_topi (fun z47 ez47 => ?_)
      have hok := hok z47 ez47
      refine lv_if_lt (tgt := 35) hx hb zd_LassoFinderModel_basic_28 (by decide) (fun hc48 => ?_) (fun hc48 => ?_)
      · have hok := hok.1 hc48
        exact wJ_LassoFinderModel_basic_35 G K ad a0 a1 Post C a0 a1 r43 I43 J43 B43 D43 ls H locs hok (lv_sub hl [1, 2, 3, 0] rfl) hw
      · have hok := hok.2 hc48
        exact wJ_LassoFinderModel_basic_31 G K ad a0 a1 Post C a0 a1 r43 I43 J43 B43 D43 ls H locs hok (lv_sub hl [1, 2, 3, 0] rfl) hw
def wc_LassoFinderModel_around_31 (a0 : Int32) (K4 : Int32 → Int32 → Int32 → (Nat → Int32) → (Nat → Int64) → (Nat → Nat → Int32) → (Nat → Nat → Int64) → Prop) (Post : Int32 → (Nat → Int32) → (Nat → Int64) → (Nat → Nat → Int32) → (Nat → Nat → Int64) → Prop) (x1 : Int32) (x3 : Int32) (y0 : Int32) (I : Nat → Int32) (J : Nat → Int64) (B : Nat → Nat → Int32) (D : Nat → Nat → Int64) : Prop :=
  ∀ z1 : Int32, z1 = (x3 + 1) → K4 x1 y0 z1 I J B D
def wc_LassoFinderModel_around_26 (a0 : Int32) (K4 : Int32 → Int32 → Int32 → (Nat → Int32) → (Nat → Int64) → (Nat → Nat → Int32) → (Nat → Nat → Int64) → Prop) (Post : Int32 → (Nat → Int32) → (Nat → Int64) → (Nat → Nat → Int32) → (Nat → Nat → Int64) → Prop) (x1 : Int32) (x3 : Int32) (I : Nat → Int32) (J : Nat → Int64) (B : Nat → Nat → Int32) (D : Nat → Nat → Int64) : Prop :=
  wc_LassoFinderModel_around_31 a0 K4 Post x1 x3 1 I J B D
def wb_LassoFinderModel_around_4 (a0 : Int32) (K4 : Int32 → Int32 → Int32 → (Nat → Int32) → (Nat → Int64) → (Nat → Nat → Int32) → (Nat → Nat → Int64) → Prop) (Post : Int32 → (Nat → Int32) → (Nat → Int64) → (Nat → Nat → Int32) → (Nat → Nat → Int64) → Prop) (x1 : Int32) (x2 : Int32) (x3 : Int32) (I : Nat → Int32) (J : Nat → Int64) (B : Nat → Nat → Int32) (D : Nat → Nat → Int64) : Prop :=
  (((I 12) < x3 → (x2 = 0 ∨ x2 = 1) ∧ Post x2 I J B D) ∧ (¬ (I 12) < x3 → ((¬ x2 = 0 → wc_LassoFinderModel_around_26 a0 K4 Post x1 x3 I J B D) ∧ (x2 = 0 → vp_in x3 8 ∧ ∀ z4 : Int32, z4 = ((B 25) x3.toNatClampNeg) → ((¬ z4 = x1 → wc_LassoFinderModel_around_31 a0 K4 Post x1 x3 0 I J B D) ∧ (z4 = x1 → wc_LassoFinderModel_around_26 a0 K4 Post x1 x3 I J B D))))))
def wl_LassoFinderModel_around_4 (a0 : Int32) (Post : Int32 → (Nat → Int32) → (Nat → Int64) → (Nat → Nat → Int32) → (Nat → Nat → Int64) → Prop) (n : Nat) : Int32 → Int32 → Int32 → (Nat → Int32) → (Nat → Int64) → (Nat → Nat → Int32) → (Nat → Nat → Int64) → Prop := Nat.rec (fun _ _ _ _ _ _ _ => False) (fun _ r => wb_LassoFinderModel_around_4 a0 r Post) n
def wp_LassoFinderModel_around (I : Nat → Int32) (J : Nat → Int64) (B : Nat → Nat → Int32) (D : Nat → Nat → Int64) (a0 : Int32) (Post : Int32 → (Nat → Int32) → (Nat → Int64) → (Nat → Nat → Int32) → (Nat → Nat → Int64) → Prop) : Prop :=
  ∃ n : Nat, wl_LassoFinderModel_around_4 a0 Post n a0 0 1 I J B D
set_option maxHeartbeats 8000000 in
set_option maxRecDepth 100000 in
theorem wJ_LassoFinderModel_around_31 {p : Program} {l : Launch} {e : Env} {s : State} {m : MethodId} {below : List Frame} {meth : Method} {c : Code} {A : Nat → Prop} (G : va_G) (K : Nat → ClassId) (ad : Nat → Nat) (a0 : Int32) (Post : Int32 → (Nat → Int32) → (Nat → Int64) → (Nat → Nat → Int32) → (Nat → Nat → Int64) → Prop) (C : zCx p s m ([.ref (ad 0), .int a0] : List Value).toArray meth c A G K prog_14_method_15_code (some .boolean) 4 "LassoFinderModel") (K4 : Int32 → Int32 → Int32 → (Nat → Int32) → (Nat → Int64) → (Nat → Nat → Int32) → (Nat → Nat → Int64) → Prop) (kh4 : ∀ (x1 : Int32) (x2 : Int32) (x3 : Int32) (I : Nat → Int32) (J : Nat → Int64) (B : Nat → Nat → Int32) (D : Nat → Nat → Int64) (ls : Array Slot) (H : Heap) (locs : List Loc), K4 x1 x2 x3 I J B D → lv_has ls 4 [(0, .ref (ad 0)), (1, .int x1), (2, .int x2), (3, .int x3)] → zW G A s.heap (wM ad K I J B D) H locs → W p l e { frames := 0, cells := 0, slots := 0, locals := 0 } s m ([.ref (ad 0), .int a0] : List Value).toArray below meth c H locs 0 0 (MQ below (va_Qi (fun (r : Int32) (u : zS) => Post r u.1 u.2.1 u.2.2.1 u.2.2.2) (fun u t => zPost G K A (wM ad K u.1 u.2.1 u.2.2.1 u.2.2.2) t) A) ([.ref (ad 0), .int a0] : List Value).toArray s 0 0 A) (F0 m 4 ls [])) : ∀ (x1 : Int32) (x3 : Int32) (y0 : Int32) (I : Nat → Int32) (J : Nat → Int64) (B : Nat → Nat → Int32) (D : Nat → Nat → Int64) (ls : Array Slot) (H : Heap) (locs : List Loc), wc_LassoFinderModel_around_31 a0 K4 Post x1 x3 y0 I J B D → lv_has ls 4 [(0, .ref (ad 0)), (1, .int x1), (3, .int x3)] → zW G A s.heap (wM ad K I J B D) H locs → W p l e { frames := 0, cells := 0, slots := 0, locals := 0 } s m ([.ref (ad 0), .int a0] : List Value).toArray below meth c H locs 0 0 (MQ below (va_Qi (fun (r : Int32) (u : zS) => Post r u.1 u.2.1 u.2.2.1 u.2.2.2) (fun u t => zPost G K A (wM ad K u.1 u.2.1 u.2.2.1 u.2.2.2) t) A) ([.ref (ad 0), .int a0] : List Value).toArray s 0 0 A) (F0 m 31 ls [.int y0]) := by
  obtain ⟨hx, hb, hr, hml, hts, hown, hlocks, hA, hK⟩ := id C
  intro x1 x3 y0 I J B D ls H locs hok hl hw
  unfold wc_LassoFinderModel_around_31 at hok
  refine lv_istore_n hx hb zd_LassoFinderModel_around_31 rfl hl (by decide) rfl (fun ls hl => ?_)
  have hl : lv_has ls 4 [(2, .int y0), (0, .ref (ad 0)), (1, .int x1), (3, .int x3)] := hl
  obtain ⟨z1, ez1⟩ : ∃ z : Int32, z = (x3 + 1) := ⟨_, rfl⟩
  have hok := hok z1 ez1
  refine lv_iinc (v := z1) hx hb zd_LassoFinderModel_around_32 hl (k := 3) rfl ez1.symm (by decide) rfl (fun ls hl => ?_)
  have hl : lv_has ls 4 [(3, .int z1), (2, .int y0), (0, .ref (ad 0)), (1, .int x1)] := hl
  refine lv_goto (tgt := 4) hx hb zd_LassoFinderModel_around_35 (by decide) ?_
  exact kh4 x1 y0 z1 I J B D ls H locs hok (lv_sub hl [2, 3, 1, 0] rfl) hw
set_option maxHeartbeats 8000000 in
set_option maxRecDepth 100000 in
theorem wJ_LassoFinderModel_around_26 {p : Program} {l : Launch} {e : Env} {s : State} {m : MethodId} {below : List Frame} {meth : Method} {c : Code} {A : Nat → Prop} (G : va_G) (K : Nat → ClassId) (ad : Nat → Nat) (a0 : Int32) (Post : Int32 → (Nat → Int32) → (Nat → Int64) → (Nat → Nat → Int32) → (Nat → Nat → Int64) → Prop) (C : zCx p s m ([.ref (ad 0), .int a0] : List Value).toArray meth c A G K prog_14_method_15_code (some .boolean) 4 "LassoFinderModel") (K4 : Int32 → Int32 → Int32 → (Nat → Int32) → (Nat → Int64) → (Nat → Nat → Int32) → (Nat → Nat → Int64) → Prop) (kh4 : ∀ (x1 : Int32) (x2 : Int32) (x3 : Int32) (I : Nat → Int32) (J : Nat → Int64) (B : Nat → Nat → Int32) (D : Nat → Nat → Int64) (ls : Array Slot) (H : Heap) (locs : List Loc), K4 x1 x2 x3 I J B D → lv_has ls 4 [(0, .ref (ad 0)), (1, .int x1), (2, .int x2), (3, .int x3)] → zW G A s.heap (wM ad K I J B D) H locs → W p l e { frames := 0, cells := 0, slots := 0, locals := 0 } s m ([.ref (ad 0), .int a0] : List Value).toArray below meth c H locs 0 0 (MQ below (va_Qi (fun (r : Int32) (u : zS) => Post r u.1 u.2.1 u.2.2.1 u.2.2.2) (fun u t => zPost G K A (wM ad K u.1 u.2.1 u.2.2.1 u.2.2.2) t) A) ([.ref (ad 0), .int a0] : List Value).toArray s 0 0 A) (F0 m 4 ls [])) : ∀ (x1 : Int32) (x3 : Int32) (I : Nat → Int32) (J : Nat → Int64) (B : Nat → Nat → Int32) (D : Nat → Nat → Int64) (ls : Array Slot) (H : Heap) (locs : List Loc), wc_LassoFinderModel_around_26 a0 K4 Post x1 x3 I J B D → lv_has ls 4 [(0, .ref (ad 0)), (1, .int x1), (3, .int x3)] → zW G A s.heap (wM ad K I J B D) H locs → W p l e { frames := 0, cells := 0, slots := 0, locals := 0 } s m ([.ref (ad 0), .int a0] : List Value).toArray below meth c H locs 0 0 (MQ below (va_Qi (fun (r : Int32) (u : zS) => Post r u.1 u.2.1 u.2.2.1 u.2.2.2) (fun u t => zPost G K A (wM ad K u.1 u.2.1 u.2.2.1 u.2.2.2) t) A) ([.ref (ad 0), .int a0] : List Value).toArray s 0 0 A) (F0 m 26 ls []) := by
  obtain ⟨hx, hb, hr, hml, hts, hown, hlocks, hA, hK⟩ := id C
  intro x1 x3 I J B D ls H locs hok hl hw
  unfold wc_LassoFinderModel_around_26 at hok
  refine lv_iconst (v := 1) hx hb zd_LassoFinderModel_around_26 (by decide) ?_
  refine lv_goto (tgt := 31) hx hb zd_LassoFinderModel_around_27 (by decide) ?_
  exact wJ_LassoFinderModel_around_31 G K ad a0 Post C K4 kh4 x1 x3 1 I J B D ls H locs hok (lv_sub hl [0, 1, 2] rfl) hw
set_option maxHeartbeats 8000000 in
set_option maxRecDepth 100000 in
theorem wB_LassoFinderModel_around_4 {p : Program} {l : Launch} {e : Env} {s : State} {m : MethodId} {below : List Frame} {meth : Method} {c : Code} {A : Nat → Prop} (G : va_G) (K : Nat → ClassId) (ad : Nat → Nat) (a0 : Int32) (Post : Int32 → (Nat → Int32) → (Nat → Int64) → (Nat → Nat → Int32) → (Nat → Nat → Int64) → Prop) (C : zCx p s m ([.ref (ad 0), .int a0] : List Value).toArray meth c A G K prog_14_method_15_code (some .boolean) 4 "LassoFinderModel") (K4 : Int32 → Int32 → Int32 → (Nat → Int32) → (Nat → Int64) → (Nat → Nat → Int32) → (Nat → Nat → Int64) → Prop) (kh4 : ∀ (x1 : Int32) (x2 : Int32) (x3 : Int32) (I : Nat → Int32) (J : Nat → Int64) (B : Nat → Nat → Int32) (D : Nat → Nat → Int64) (ls : Array Slot) (H : Heap) (locs : List Loc), K4 x1 x2 x3 I J B D → lv_has ls 4 [(0, .ref (ad 0)), (1, .int x1), (2, .int x2), (3, .int x3)] → zW G A s.heap (wM ad K I J B D) H locs → W p l e { frames := 0, cells := 0, slots := 0, locals := 0 } s m ([.ref (ad 0), .int a0] : List Value).toArray below meth c H locs 0 0 (MQ below (va_Qi (fun (r : Int32) (u : zS) => Post r u.1 u.2.1 u.2.2.1 u.2.2.2) (fun u t => zPost G K A (wM ad K u.1 u.2.1 u.2.2.1 u.2.2.2) t) A) ([.ref (ad 0), .int a0] : List Value).toArray s 0 0 A) (F0 m 4 ls [])) : ∀ (x1 : Int32) (x2 : Int32) (x3 : Int32) (I : Nat → Int32) (J : Nat → Int64) (B : Nat → Nat → Int32) (D : Nat → Nat → Int64) (ls : Array Slot) (H : Heap) (locs : List Loc), wb_LassoFinderModel_around_4 a0 K4 Post x1 x2 x3 I J B D → lv_has ls 4 [(0, .ref (ad 0)), (1, .int x1), (2, .int x2), (3, .int x3)] → zW G A s.heap (wM ad K I J B D) H locs → W p l e { frames := 0, cells := 0, slots := 0, locals := 0 } s m ([.ref (ad 0), .int a0] : List Value).toArray below meth c H locs 0 0 (MQ below (va_Qi (fun (r : Int32) (u : zS) => Post r u.1 u.2.1 u.2.2.1 u.2.2.2) (fun u t => zPost G K A (wM ad K u.1 u.2.1 u.2.2.1 u.2.2.2) t) A) ([.ref (ad 0), .int a0] : List Value).toArray s 0 0 A) (F0 m 4 ls []) := by
  obtain ⟨hx, hb, hr, hml, hts, hown, hlocks, hA, hK⟩ := id C
  intro x1 x2 x3 I J B D ls H locs hok hl hw
  unfold wb_LassoFinderModel_around_4 at hok
  refine lv_iload_n hx hb zd_LassoFinderModel_around_4 rfl (lv_at hl 3 rfl) ?_
  refine lv_aload_n hx hb zd_LassoFinderModel_around_5 rfl (lv_at hl 0 rfl) ?_
  refine z_get (v := .int (I 12)) hx hb hts hown hK hw zZ12 0 wM_g0 38 (by decide) zm_338 rfl zd_LassoFinderModel_around_6 ?_
  refine lv_icmp_gt (tgt := 38) hx hb zd_LassoFinderModel_around_9 (by decide) (fun hc2 => ?_) (fun hc2 => ?_)
  · have hok := hok.1 hc2
    refine lv_iload_n hx hb zd_LassoFinderModel_around_38 rfl (lv_at hl 2 rfl) ?_
    have hbo := hok.1
    have hok := hok.2
    exact (z_iret (u := (I, J, B, D)) hx hb hr hlocks (z_nar hbo) hw (List.range 58) wM_all wM_nd hok (Nat.le_of_ble_eq_true rfl) (Nat.le_of_ble_eq_true rfl) zd_LassoFinderModel_around_39)
  · have hok := hok.2 hc2
    refine lv_iload_n hx hb zd_LassoFinderModel_around_12 rfl (lv_at hl 2 rfl) ?_
    refine lv_if_ne (tgt := 26) hx hb zd_LassoFinderModel_around_13 (by decide) (fun hc3 => ?_) (fun hc3 => ?_)
    · have hok := hok.1 hc3
      exact wJ_LassoFinderModel_around_26 G K ad a0 Post C K4 kh4 x1 x3 I J B D ls H locs hok (lv_sub hl [0, 1, 3] rfl) hw
    · have hok := hok.2 hc3
      refine lv_aload_n hx hb zd_LassoFinderModel_around_16 rfl (lv_at hl 0 rfl) ?_
      refine z_get (v := .ref (ad 27)) hx hb hts hown hK hw zZ12 0 wM_g0 39 (by decide) zm_261 rfl zd_LassoFinderModel_around_17 ?_
      refine lv_iload_n hx hb zd_LassoFinderModel_around_20 rfl (lv_at hl 3 rfl) ?_
      refine va_iald (f := (B 25)) hx hb hK hw.1 27 0 wM_a27 rfl hok.1 zd_LassoFinderModel_around_21 ?_
      have hok := hok.2
      refine lv_topi (fun z4 ez4 => ?_)
      have hok := hok z4 ez4
      refine lv_iload_n hx hb zd_LassoFinderModel_around_22 rfl (lv_at hl 1 rfl) ?_
      refine lv_icmp_ne (tgt := 30) hx hb zd_LassoFinderModel_around_23 (by decide) (fun hc5 => ?_) (fun hc5 => ?_)
      · have hok := hok.1 hc5
        refine lv_iconst (v := 0) hx hb zd_LassoFinderModel_around_30 (by decide) ?_
        exact wJ_LassoFinderModel_around_31 G K ad a0 Post C K4 kh4 x1 x3 0 I J B D ls H locs hok (lv_sub hl [0, 1, 3] rfl) hw
      · have hok := hok.2 hc5
        exact wJ_LassoFinderModel_around_26 G K ad a0 Post C K4 kh4 x1 x3 I J B D ls H locs hok (lv_sub hl [0, 1, 3] rfl) hw
theorem wL_LassoFinderModel_around_4 {p : Program} {l : Launch} {e : Env} {s : State} {m : MethodId} {below : List Frame} {meth : Method} {c : Code} {A : Nat → Prop} (G : va_G) (K : Nat → ClassId) (ad : Nat → Nat) (a0 : Int32) (Post : Int32 → (Nat → Int32) → (Nat → Int64) → (Nat → Nat → Int32) → (Nat → Nat → Int64) → Prop) (C : zCx p s m ([.ref (ad 0), .int a0] : List Value).toArray meth c A G K prog_14_method_15_code (some .boolean) 4 "LassoFinderModel") : ∀ (n : Nat) (x1 : Int32) (x2 : Int32) (x3 : Int32) (I : Nat → Int32) (J : Nat → Int64) (B : Nat → Nat → Int32) (D : Nat → Nat → Int64) (ls : Array Slot) (H : Heap) (locs : List Loc), wl_LassoFinderModel_around_4 a0 Post n x1 x2 x3 I J B D → lv_has ls 4 [(0, .ref (ad 0)), (1, .int x1), (2, .int x2), (3, .int x3)] → zW G A s.heap (wM ad K I J B D) H locs → W p l e { frames := 0, cells := 0, slots := 0, locals := 0 } s m ([.ref (ad 0), .int a0] : List Value).toArray below meth c H locs 0 0 (MQ below (va_Qi (fun (r : Int32) (u : zS) => Post r u.1 u.2.1 u.2.2.1 u.2.2.2) (fun u t => zPost G K A (wM ad K u.1 u.2.1 u.2.2.1 u.2.2.2) t) A) ([.ref (ad 0), .int a0] : List Value).toArray s 0 0 A) (F0 m 4 ls []) := by
  intro n
  induction n with
  | zero => intro x1 x2 x3 I J B D ls H locs hok; exact hok.elim
  | succ n ih => exact wB_LassoFinderModel_around_4 G K ad a0 Post C (wl_LassoFinderModel_around_4 a0 Post n) ih
set_option maxHeartbeats 8000000 in
set_option maxRecDepth 100000 in
theorem w_LassoFinderModel_around (l : Launch) (G : va_G) (K : Nat → ClassId) (ad : Nat → Nat) (I : Nat → Int32) (J : Nat → Int64) (B : Nat → Nat → Int32) (D : Nat → Nat → Int64) (a0 : Int32) (Post : Int32 → (Nat → Int32) → (Nat → Int64) → (Nat → Nat → Int32) → (Nat → Nat → Int64) → Prop) (sz : Nat) (hok : wp_LassoFinderModel_around I J B D a0 Post) : Met l zy_LassoFinderModel_around (Cond.code zy_LassoFinderModel_around prog_14_method_15_code 4 (some .boolean) :: zTB) { frames := 0, cells := 0, slots := 0, locals := 0 } (va_Pc [.ref (ad 0), .int a0] (zPre G K (wM ad K I J B D) sz)) (va_Qi (fun (r : Int32) (u : zS) => Post r u.1 u.2.1 u.2.2.1 u.2.2.2) (fun u t => zPost G K (va_A (wM ad K I J B D) sz) (wM ad K u.1 u.2.1 u.2.2.1 u.2.2.2) t) (va_A (wM ad K I J B D) sz)) 0 0 (va_A (wM ad K I J B D) sz) := by
  refine zMet (y := zy_LassoFinderModel_around) (av := [.ref (ad 0), .int a0]) (maxL := 4) (cc := prog_14_method_15_code) (ret := (some .boolean)) (W0 := (wM ad K I J B D)) (sz := sz) (G := G) (K := K) (wt := zTB) (mc := 0) (ms := 0) (Qf := fun A => va_Qi (fun (r : Int32) (u : zS) => Post r u.1 u.2.1 u.2.2.1 u.2.2.2) (fun u t => zPost G K A (wM ad K u.1 u.2.1 u.2.2.1 u.2.2.2) t) A) (by decide) (Nat.le_of_ble_eq_true rfl) ?_
  intro p e s m below meth c ls A hx hb hr hml hts hown hlocks hin hA hK H locs hw hsz hl
  clear hsz
  have hown : s.vm.findClass "LassoFinderModel" = some m.cls := hown
  have C : zCx p s m ([.ref (ad 0), .int a0] : List Value).toArray meth c A G K prog_14_method_15_code (some .boolean) 4 "LassoFinderModel" := ⟨hx, hb, hr, hml, hts, hown, hlocks, hA, hK⟩
  have hl : lv_has ls 4 [(0, .ref (ad 0)), (1, .int a0)] := hl
  have hw : zW G A s.heap (wM ad K I J B D) H locs := hw
  unfold wp_LassoFinderModel_around at hok
  refine lv_iconst (v := 0) hx hb zd_LassoFinderModel_around_0 (by decide) ?_
  refine lv_istore_n hx hb zd_LassoFinderModel_around_1 rfl hl (by decide) rfl (fun ls hl => ?_)
  have hl : lv_has ls 4 [(2, .int 0), (0, .ref (ad 0)), (1, .int a0)] := hl
  refine lv_iconst (v := 1) hx hb zd_LassoFinderModel_around_2 (by decide) ?_
  refine lv_istore_n hx hb zd_LassoFinderModel_around_3 rfl hl (by decide) rfl (fun ls hl => ?_)
  have hl : lv_has ls 4 [(3, .int 1), (2, .int 0), (0, .ref (ad 0)), (1, .int a0)] := hl
  obtain ⟨n9, hok⟩ := hok
  exact wL_LassoFinderModel_around_4 G K ad a0 Post C n9 a0 0 1 I J B D ls H locs hok (lv_sub hl [2, 3, 1, 0] rfl) hw
def wc_LassoFinderModel_statement_104 (Post : Int32 → (Nat → Int32) → (Nat → Int64) → (Nat → Nat → Int32) → (Nat → Nat → Int64) → Prop)  (I : Nat → Int32) (J : Nat → Int64) (B : Nat → Nat → Int32) (D : Nat → Nat → Int64) : Prop :=
  wp_LassoFinderModel_fail I J B D  (fun r1 I1 J1 B1 D1 => (r1 = 0 ∨ r1 = 1) ∧ Post r1 I1 J1 B1 D1)
def wc_LassoFinderModel_statement_139 (Post : Int32 → (Nat → Int32) → (Nat → Int64) → (Nat → Nat → Int32) → (Nat → Nat → Int64) → Prop) (x3 : Int32) (y0 : Int32) (I : Nat → Int32) (J : Nat → Int64) (B : Nat → Nat → Int32) (D : Nat → Nat → Int64) : Prop :=
  wp_LassoFinderModel_enter I J B D y0 x3 (fun I2 J2 B2 D2 => Post 1 I2 J2 B2 D2)
def wc_LassoFinderModel_statement_123 (Post : Int32 → (Nat → Int32) → (Nat → Int64) → (Nat → Nat → Int32) → (Nat → Nat → Int64) → Prop) (x1 : Int32) (y0 : Int32) (I : Nat → Int32) (J : Nat → Int64) (B : Nat → Nat → Int32) (D : Nat → Nat → Int64) : Prop :=
  wp_LassoFinderModel_node I J B D y0 (fun r3 I3 J3 B3 D3 => ((¬ x1 = 42 → wc_LassoFinderModel_statement_139  Post r3 1 I3 J3 B3 D3) ∧ (x1 = 42 → wc_LassoFinderModel_statement_139  Post r3 2 I3 J3 B3 D3)))
def wc_LassoFinderModel_statement_82 (Post : Int32 → (Nat → Int32) → (Nat → Int64) → (Nat → Nat → Int32) → (Nat → Nat → Int64) → Prop) (x1 : Int32) (y0 : Int32) (y1 : Int32) (I : Nat → Int32) (J : Nat → Int64) (B : Nat → Nat → Int32) (D : Nat → Nat → Int64) : Prop :=
  ∀ z5 : Int32, z5 = (y1 + y0) → wp_LassoFinderModel_here (upd I 2 z5) J B D  (fun r6 I6 J6 B6 D6 => ((¬ r6 = 91 → wc_LassoFinderModel_statement_104  Post I6 J6 B6 D6) ∧ (r6 = 91 → ((¬ (I6 12) = 6 → ((¬ x1 = 42 → wc_LassoFinderModel_statement_123  Post x1 6 I6 J6 B6 D6) ∧ (x1 = 42 → wc_LassoFinderModel_statement_123  Post x1 7 I6 J6 B6 D6))) ∧ ((I6 12) = 6 → wc_LassoFinderModel_statement_104  Post I6 J6 B6 D6)))))
def wc_LassoFinderModel_statement_47 (Post : Int32 → (Nat → Int32) → (Nat → Int64) → (Nat → Nat → Int32) → (Nat → Nat → Int64) → Prop) (x1 : Int32) (I : Nat → Int32) (J : Nat → Int64) (B : Nat → Nat → Int32) (D : Nat → Nat → Int64) : Prop :=
  vp_in (I 10) 5 ∧ ∀ z10 : Int32, z10 = ((B 20) (I 10).toNatClampNeg) → ((¬ z10 = 30 → ((¬ x1 = 42 → wc_LassoFinderModel_statement_82  Post x1 0 (I 2) I J B D) ∧ (x1 = 42 → wc_LassoFinderModel_statement_82  Post x1 1 (I 2) I J B D))) ∧ (z10 = 30 → wp_LassoFinderModel_fail I J B D  (fun r13 I13 J13 B13 D13 => (r13 = 0 ∨ r13 = 1) ∧ Post r13 I13 J13 B13 D13)))
def wc_LassoFinderModel_statement_206 (Post : Int32 → (Nat → Int32) → (Nat → Int64) → (Nat → Nat → Int32) → (Nat → Nat → Int64) → Prop)  (I : Nat → Int32) (J : Nat → Int64) (B : Nat → Nat → Int32) (D : Nat → Nat → Int64) : Prop :=
  wp_LassoFinderModel_fail I J B D  (fun r14 I14 J14 B14 D14 => (r14 = 0 ∨ r14 = 1) ∧ Post r14 I14 J14 B14 D14)
def wc_LassoFinderModel_statement_168 (Post : Int32 → (Nat → Int32) → (Nat → Int64) → (Nat → Nat → Int32) → (Nat → Nat → Int64) → Prop)  (I : Nat → Int32) (J : Nat → Int64) (B : Nat → Nat → Int32) (D : Nat → Nat → Int64) : Prop :=
  wp_LassoFinderModel_fail I J B D  (fun r15 I15 J15 B15 D15 => (r15 = 0 ∨ r15 = 1) ∧ Post r15 I15 J15 B15 D15)
def wc_LassoFinderModel_statement_34 (Post : Int32 → (Nat → Int32) → (Nat → Int64) → (Nat → Nat → Int32) → (Nat → Nat → Int64) → Prop) (x1 : Int32) (y0 : Int32) (I : Nat → Int32) (J : Nat → Int64) (B : Nat → Nat → Int32) (D : Nat → Nat → Int64) : Prop :=
  ((x1 = 91 → wc_LassoFinderModel_statement_47  Post x1 I J B D) ∧ (¬ x1 = 91 → ((¬ x1 = 42 → ((¬ x1 = 60 → ((¬ x1 = 46 → ((¬ x1 = 94 → wp_LassoFinderModel_basic I J B D x1 y0 (fun r21 I21 J21 B21 D21 => (r21 = 0 ∨ r21 = 1) ∧ Post r21 I21 J21 B21 D21)) ∧ (x1 = 94 → ((y0 = 0 → ∀ z23 : Int32, z23 = ((I 2) + 1) → wp_LassoFinderModel_from (upd I 2 z23) J B D 65 8 (fun r24 I24 J24 B24 D24 => (((0 : Int32) ≤ r24 → wp_LassoFinderModel_node I24 J24 B24 D24 10 (fun r26 I26 J26 B26 D26 => wp_LassoFinderModel_from I26 J26 B26 D26 65 8 (fun r27 I27 J27 B27 D27 => vp_in r26 140 ∧ vp_in r26 140 ∧ ∀ z28 : Int32, z28 = ((I27 2) + 1) → Post 1 (upd I27 2 z28) J27 (va_up (va_up B27 12 (upd (B27 12) r26.toNatClampNeg r27)) 16 (upd (B27 16) r26.toNatClampNeg (I27 2))) D27))) ∧ (¬ (0 : Int32) ≤ r24 → wp_LassoFinderModel_fail I24 J24 B24 D24  (fun r29 I29 J29 B29 D29 => (r29 = 0 ∨ r29 = 1) ∧ Post r29 I29 J29 B29 D29))))) ∧ (¬ y0 = 0 → wp_LassoFinderModel_fail I J B D  (fun r30 I30 J30 B30 D30 => (r30 = 0 ∨ r30 = 1) ∧ Post r30 I30 J30 B30 D30)))))) ∧ (x1 = 46 → wp_LassoFinderModel_around I J B D 2 (fun r31 I31 J31 B31 D31 => ((r31 = 0 → wc_LassoFinderModel_statement_206  Post I31 J31 B31 D31) ∧ (¬ r31 = 0 → ((y0 = 0 → wp_LassoFinderModel_node I31 J31 B31 D31 9 (fun r34 I34 J34 B34 D34 => ∀ z35 : Int32, z35 = ((I34 2) + 1) → Post 1 (upd I34 2 z35) J34 B34 D34)) ∧ (¬ y0 = 0 → wc_LassoFinderModel_statement_206  Post I31 J31 B31 D31)))))))) ∧ (x1 = 60 → wp_LassoFinderModel_around I J B D 3 (fun r36 I36 J36 B36 D36 => ((¬ r36 = 0 → wc_LassoFinderModel_statement_168  Post I36 J36 B36 D36) ∧ (r36 = 0 → ((¬ (I36 12) = 6 → wp_LassoFinderModel_node I36 J36 B36 D36 8 (fun r39 I39 J39 B39 D39 => wp_LassoFinderModel_enter I39 J39 B39 D39 3 r39 (fun I40 J40 B40 D40 => Post 1 I40 J40 B40 D40))) ∧ ((I36 12) = 6 → wc_LassoFinderModel_statement_168  Post I36 J36 B36 D36)))))))) ∧ (x1 = 42 → wc_LassoFinderModel_statement_47  Post x1 I J B D))))
def wc_LassoFinderModel_statement_33 (Post : Int32 → (Nat → Int32) → (Nat → Int64) → (Nat → Nat → Int32) → (Nat → Nat → Int64) → Prop) (x1 : Int32) (I : Nat → Int32) (J : Nat → Int64) (B : Nat → Nat → Int32) (D : Nat → Nat → Int64) : Prop :=
  wc_LassoFinderModel_statement_34  Post x1 0 I J B D
def wp_LassoFinderModel_statement (I : Nat → Int32) (J : Nat → Int64) (B : Nat → Nat → Int32) (D : Nat → Nat → Int64) (Post : Int32 → (Nat → Int32) → (Nat → Int64) → (Nat → Nat → Int32) → (Nat → Nat → Int64) → Prop) : Prop :=
  wp_LassoFinderModel_here I J B D  (fun r41 I41 J41 B41 D41 => vp_in (I41 12) 8 ∧ ∀ z42 : Int32, z42 = ((B41 25) (I41 12).toNatClampNeg) → ((z42 ≤ 0 → wc_LassoFinderModel_statement_33  Post r41 I41 J41 B41 D41) ∧ (¬ z42 ≤ 0 → vp_in (I41 12) 8 ∧ ∀ z44 : Int32, z44 = ((B41 27) (I41 12).toNatClampNeg) → (((0 : Int32) ≤ z44 → wc_LassoFinderModel_statement_33  Post r41 I41 J41 B41 D41) ∧ (¬ (0 : Int32) ≤ z44 → wc_LassoFinderModel_statement_34  Post r41 1 I41 J41 B41 D41)))))
set_option maxHeartbeats 8000000 in
set_option maxRecDepth 100000 in
theorem wJ_LassoFinderModel_statement_104 {p : Program} {l : Launch} {e : Env} {s : State} {m : MethodId} {below : List Frame} {meth : Method} {c : Code} {A : Nat → Prop} (G : va_G) (K : Nat → ClassId) (ad : Nat → Nat) (Post : Int32 → (Nat → Int32) → (Nat → Int64) → (Nat → Nat → Int32) → (Nat → Nat → Int64) → Prop) (C : zCx p s m ([.ref (ad 0)] : List Value).toArray meth c A G K prog_14_method_19_code (some .boolean) 4 "LassoFinderModel") : ∀  (I : Nat → Int32) (J : Nat → Int64) (B : Nat → Nat → Int32) (D : Nat → Nat → Int64) (ls : Array Slot) (H : Heap) (locs : List Loc), wc_LassoFinderModel_statement_104  Post  I J B D → lv_has ls 4 [(0, .ref (ad 0))] → zW G A s.heap (wM ad K I J B D) H locs → W p l e { frames := 4, cells := 0, slots := 0, locals := 99 } s m ([.ref (ad 0)] : List Value).toArray below meth c H locs 0 0 (MQ below (va_Qi (fun (r : Int32) (u : zS) => Post r u.1 u.2.1 u.2.2.1 u.2.2.2) (fun u t => zPost G K A (wM ad K u.1 u.2.1 u.2.2.1 u.2.2.2) t) A) ([.ref (ad 0)] : List Value).toArray s 0 0 A) (F0 m 104 ls []) := by
  obtain ⟨hx, hb, hr, hml, hts, hown, hlocks, hA, hK⟩ := id C
  intro  I J B D ls H locs hok hl hw
  unfold wc_LassoFinderModel_statement_104 at hok
  refine lv_aload_n hx hb zd_LassoFinderModel_statement_104 rfl (lv_at hl 0 rfl) ?_
  refine z_calli (w1 := fun (u : zS) => wM ad K u.1 u.2.1 u.2.2.1 u.2.2.2) (wr := []) (z_runV (q0 := 0) (wc := (wM ad K I J B D)) (As := []) (rest := []) ⟨hx, hb, hml, hown, hts⟩ (w_LassoFinderModel_fail l G K ad I J B D  _ H.size hok) zf_LassoFinderModel_fail zm_334 ⟨Nat.le_of_ble_eq_true rfl, Nat.le_of_ble_eq_true rfl⟩ hK hw (List.range 58) wM_all wM_nd wM_g0 rfl rfl hl.1 rfl (Nat.le_of_ble_eq_true rfl) zd_LassoFinderModel_statement_105 ⟨Nat.le_of_ble_eq_true rfl, Nat.le_of_ble_eq_true rfl⟩) hw hA (List.range 58) [] wM_all rfl (by decide) (fun i hi => by cases hi) (fun r1 u H locs hok hw => ?_)
  obtain ⟨I1, J1, B1, D1⟩ := u
  dsimp only at hok
  have hw : zW G A s.heap (wM ad K I1 J1 B1 D1) H locs := hw
  have hbo := hok.1
  have hok := hok.2
  exact (z_iret (u := (I1, J1, B1, D1)) hx hb hr hlocks (z_nar hbo) hw (List.range 58) wM_all wM_nd hok (Nat.le_of_ble_eq_true rfl) (Nat.le_of_ble_eq_true rfl) zd_LassoFinderModel_statement_108)
set_option maxHeartbeats 8000000 in
set_option maxRecDepth 100000 in
theorem wJ_LassoFinderModel_statement_139 {p : Program} {l : Launch} {e : Env} {s : State} {m : MethodId} {below : List Frame} {meth : Method} {c : Code} {A : Nat → Prop} (G : va_G) (K : Nat → ClassId) (ad : Nat → Nat) (Post : Int32 → (Nat → Int32) → (Nat → Int64) → (Nat → Nat → Int32) → (Nat → Nat → Int64) → Prop) (C : zCx p s m ([.ref (ad 0)] : List Value).toArray meth c A G K prog_14_method_19_code (some .boolean) 4 "LassoFinderModel") : ∀ (x3 : Int32) (y0 : Int32) (I : Nat → Int32) (J : Nat → Int64) (B : Nat → Nat → Int32) (D : Nat → Nat → Int64) (ls : Array Slot) (H : Heap) (locs : List Loc), wc_LassoFinderModel_statement_139  Post x3 y0 I J B D → lv_has ls 4 [(3, .int x3)] → zW G A s.heap (wM ad K I J B D) H locs → W p l e { frames := 4, cells := 0, slots := 0, locals := 99 } s m ([.ref (ad 0)] : List Value).toArray below meth c H locs 0 0 (MQ below (va_Qi (fun (r : Int32) (u : zS) => Post r u.1 u.2.1 u.2.2.1 u.2.2.2) (fun u t => zPost G K A (wM ad K u.1 u.2.1 u.2.2.1 u.2.2.2) t) A) ([.ref (ad 0)] : List Value).toArray s 0 0 A) (F0 m 139 ls [.int y0, .ref (ad 0)]) := by
  obtain ⟨hx, hb, hr, hml, hts, hown, hlocks, hA, hK⟩ := id C
  intro x3 y0 I J B D ls H locs hok hl hw
  unfold wc_LassoFinderModel_statement_139 at hok
  refine lv_iload_n hx hb zd_LassoFinderModel_statement_139 rfl (lv_at hl 0 rfl) ?_
  refine z_callv (w1 := fun (u : zS) => wM ad K u.1 u.2.1 u.2.2.1 u.2.2.2) (wr := []) (z_runV (q0 := 0) (wc := (wM ad K I J B D)) (As := [.int y0, .int x3]) (rest := []) ⟨hx, hb, hml, hown, hts⟩ (w_LassoFinderModel_enter l G K ad I J B D y0 x3 _ H.size hok) zf_LassoFinderModel_enter zm_343 ⟨Nat.le_of_ble_eq_true rfl, Nat.le_of_ble_eq_true rfl⟩ hK hw (List.range 58) wM_all wM_nd wM_g0 rfl rfl hl.1 rfl (Nat.le_of_ble_eq_true rfl) zd_LassoFinderModel_statement_140 ⟨Nat.le_of_ble_eq_true rfl, Nat.le_of_ble_eq_true rfl⟩) hw hA (List.range 58) [] wM_all rfl (by decide) (fun i hi => by cases hi) (fun u H locs hok hw => ?_)
  obtain ⟨I2, J2, B2, D2⟩ := u
  dsimp only at hok
  have hw : zW G A s.heap (wM ad K I2 J2 B2 D2) H locs := hw
  refine lv_iconst (v := 1) hx hb zd_LassoFinderModel_statement_143 (by decide) ?_
  exact (z_iret (u := (I2, J2, B2, D2)) hx hb hr hlocks rfl hw (List.range 58) wM_all wM_nd hok (Nat.le_of_ble_eq_true rfl) (Nat.le_of_ble_eq_true rfl) zd_LassoFinderModel_statement_144)
set_option maxHeartbeats 8000000 in
set_option maxRecDepth 100000 in
theorem wJ_LassoFinderModel_statement_123 {p : Program} {l : Launch} {e : Env} {s : State} {m : MethodId} {below : List Frame} {meth : Method} {c : Code} {A : Nat → Prop} (G : va_G) (K : Nat → ClassId) (ad : Nat → Nat) (Post : Int32 → (Nat → Int32) → (Nat → Int64) → (Nat → Nat → Int32) → (Nat → Nat → Int64) → Prop) (C : zCx p s m ([.ref (ad 0)] : List Value).toArray meth c A G K prog_14_method_19_code (some .boolean) 4 "LassoFinderModel") : ∀ (x1 : Int32) (y0 : Int32) (I : Nat → Int32) (J : Nat → Int64) (B : Nat → Nat → Int32) (D : Nat → Nat → Int64) (ls : Array Slot) (H : Heap) (locs : List Loc), wc_LassoFinderModel_statement_123  Post x1 y0 I J B D → lv_has ls 4 [(0, .ref (ad 0)), (1, .int x1)] → zW G A s.heap (wM ad K I J B D) H locs → W p l e { frames := 4, cells := 0, slots := 0, locals := 99 } s m ([.ref (ad 0)] : List Value).toArray below meth c H locs 0 0 (MQ below (va_Qi (fun (r : Int32) (u : zS) => Post r u.1 u.2.1 u.2.2.1 u.2.2.2) (fun u t => zPost G K A (wM ad K u.1 u.2.1 u.2.2.1 u.2.2.2) t) A) ([.ref (ad 0)] : List Value).toArray s 0 0 A) (F0 m 123 ls [.int y0, .ref (ad 0)]) := by
  obtain ⟨hx, hb, hr, hml, hts, hown, hlocks, hA, hK⟩ := id C
  intro x1 y0 I J B D ls H locs hok hl hw
  unfold wc_LassoFinderModel_statement_123 at hok
  refine z_calli (w1 := fun (u : zS) => wM ad K u.1 u.2.1 u.2.2.1 u.2.2.2) (wr := []) (z_runV (q0 := 0) (wc := (wM ad K I J B D)) (As := [.int y0]) (rest := []) ⟨hx, hb, hml, hown, hts⟩ (w_LassoFinderModel_node l G K ad I J B D y0 _ H.size hok) zf_LassoFinderModel_node zm_342 ⟨Nat.le_of_ble_eq_true rfl, Nat.le_of_ble_eq_true rfl⟩ hK hw (List.range 58) wM_all wM_nd wM_g0 rfl rfl hl.1 rfl (Nat.le_of_ble_eq_true rfl) zd_LassoFinderModel_statement_123 ⟨Nat.le_of_ble_eq_true rfl, Nat.le_of_ble_eq_true rfl⟩) hw hA (List.range 58) [] wM_all rfl (by decide) (fun i hi => by cases hi) (fun r3 u H locs hok hw => ?_)
  obtain ⟨I3, J3, B3, D3⟩ := u
  dsimp only at hok
  have hw : zW G A s.heap (wM ad K I3 J3 B3 D3) H locs := hw
  refine lv_istore_n hx hb zd_LassoFinderModel_statement_126 rfl hl (by decide) rfl (fun ls hl => ?_)
  have hl : lv_has ls 4 [(3, .int r3), (0, .ref (ad 0)), (1, .int x1)] := hl
  refine lv_aload_n hx hb zd_LassoFinderModel_statement_127 rfl (lv_at hl 1 rfl) ?_
  refine lv_iload_n hx hb zd_LassoFinderModel_statement_128 rfl (lv_at hl 2 rfl) ?_
  refine lv_bipush (v := 42) hx hb zd_LassoFinderModel_statement_129 (by decide) ?_
  refine lv_icmp_ne (tgt := 138) hx hb zd_LassoFinderModel_statement_131 (by decide) (fun hc4 => ?_) (fun hc4 => ?_)
  · have hok := hok.1 hc4
    refine lv_iconst (v := 1) hx hb zd_LassoFinderModel_statement_138 (by decide) ?_
    exact wJ_LassoFinderModel_statement_139 G K ad  Post C r3 1 I3 J3 B3 D3 ls H locs hok (lv_sub hl [0] rfl) hw
  · have hok := hok.2 hc4
    refine lv_iconst (v := 2) hx hb zd_LassoFinderModel_statement_134 (by decide) ?_
    refine lv_goto (tgt := 139) hx hb zd_LassoFinderModel_statement_135 (by decide) ?_
    exact wJ_LassoFinderModel_statement_139 G K ad  Post C r3 2 I3 J3 B3 D3 ls H locs hok (lv_sub hl [0] rfl) hw
set_option maxHeartbeats 8000000 in
set_option maxRecDepth 100000 in
theorem wJ_LassoFinderModel_statement_82 {p : Program} {l : Launch} {e : Env} {s : State} {m : MethodId} {below : List Frame} {meth : Method} {c : Code} {A : Nat → Prop} (G : va_G) (K : Nat → ClassId) (ad : Nat → Nat) (Post : Int32 → (Nat → Int32) → (Nat → Int64) → (Nat → Nat → Int32) → (Nat → Nat → Int64) → Prop) (C : zCx p s m ([.ref (ad 0)] : List Value).toArray meth c A G K prog_14_method_19_code (some .boolean) 4 "LassoFinderModel") : ∀ (x1 : Int32) (y0 : Int32) (y1 : Int32) (I : Nat → Int32) (J : Nat → Int64) (B : Nat → Nat → Int32) (D : Nat → Nat → Int64) (ls : Array Slot) (H : Heap) (locs : List Loc), wc_LassoFinderModel_statement_82  Post x1 y0 y1 I J B D → lv_has ls 4 [(0, .ref (ad 0)), (1, .int x1)] → zW G A s.heap (wM ad K I J B D) H locs → W p l e { frames := 4, cells := 0, slots := 0, locals := 99 } s m ([.ref (ad 0)] : List Value).toArray below meth c H locs 0 0 (MQ below (va_Qi (fun (r : Int32) (u : zS) => Post r u.1 u.2.1 u.2.2.1 u.2.2.2) (fun u t => zPost G K A (wM ad K u.1 u.2.1 u.2.2.1 u.2.2.2) t) A) ([.ref (ad 0)] : List Value).toArray s 0 0 A) (F0 m 82 ls [.int y0, .int y1, .ref (ad 0)]) := by
  obtain ⟨hx, hb, hr, hml, hts, hown, hlocks, hA, hK⟩ := id C
  intro x1 y0 y1 I J B D ls H locs hok hl hw
  unfold wc_LassoFinderModel_statement_82 at hok
  refine lv_iadd hx hb zd_LassoFinderModel_statement_82 ?_
  refine lv_topi (fun z5 ez5 => ?_)
  have hok := hok z5 ez5
  refine z_put (v := .int z5) hx hb hts hown hK hw zZ12 0 wM_g0 3 (by decide) zm_335 rfl rfl rfl (Nat.le_of_ble_eq_true rfl) zd_LassoFinderModel_statement_83 (fun H locs hw => ?_)
  have hw := wM_sI2 hw
  refine lv_aload_n hx hb zd_LassoFinderModel_statement_86 rfl (lv_at hl 0 rfl) ?_
  refine z_calli (w1 := fun (u : zS) => wM ad K u.1 u.2.1 u.2.2.1 u.2.2.2) (wr := []) (z_runV (q0 := 0) (wc := (wM ad K (upd I 2 z5) J B D)) (As := []) (rest := []) ⟨hx, hb, hml, hown, hts⟩ (w_LassoFinderModel_here l G K ad (upd I 2 z5) J B D  _ H.size hok) zf_LassoFinderModel_here zm_332 ⟨Nat.le_of_ble_eq_true rfl, Nat.le_of_ble_eq_true rfl⟩ hK hw (List.range 58) wM_all wM_nd wM_g0 rfl rfl hl.1 rfl (Nat.le_of_ble_eq_true rfl) zd_LassoFinderModel_statement_87 ⟨Nat.le_of_ble_eq_true rfl, Nat.le_of_ble_eq_true rfl⟩) hw hA (List.range 58) [] wM_all rfl (by decide) (fun i hi => by cases hi) (fun r6 u H locs hok hw => ?_)
  obtain ⟨I6, J6, B6, D6⟩ := u
  dsimp only at hok
  have hw : zW G A s.heap (wM ad K I6 J6 B6 D6) H locs := hw
  refine lv_bipush (v := 91) hx hb zd_LassoFinderModel_statement_90 (by decide) ?_
  refine lv_icmp_ne (tgt := 104) hx hb zd_LassoFinderModel_statement_92 (by decide) (fun hc7 => ?_) (fun hc7 => ?_)
  · have hok := hok.1 hc7
    exact wJ_LassoFinderModel_statement_104 G K ad  Post C I6 J6 B6 D6 ls H locs hok (lv_sub hl [0] rfl) hw
  · have hok := hok.2 hc7
    refine lv_aload_n hx hb zd_LassoFinderModel_statement_95 rfl (lv_at hl 0 rfl) ?_
    refine z_get (v := .int (I6 12)) hx hb hts hown hK hw zZ12 0 wM_g0 38 (by decide) zm_338 rfl zd_LassoFinderModel_statement_96 ?_
    refine lv_bipush (v := 6) hx hb zd_LassoFinderModel_statement_99 (by decide) ?_
    refine lv_icmp_ne (tgt := 109) hx hb zd_LassoFinderModel_statement_101 (by decide) (fun hc8 => ?_) (fun hc8 => ?_)
    · have hok := hok.1 hc8
      refine lv_aload_n hx hb zd_LassoFinderModel_statement_109 rfl (lv_at hl 0 rfl) ?_
      refine lv_iload_n hx hb zd_LassoFinderModel_statement_110 rfl (lv_at hl 1 rfl) ?_
      refine lv_bipush (v := 42) hx hb zd_LassoFinderModel_statement_111 (by decide) ?_
      refine lv_icmp_ne (tgt := 121) hx hb zd_LassoFinderModel_statement_113 (by decide) (fun hc9 => ?_) (fun hc9 => ?_)
      · have hok := hok.1 hc9
        refine lv_bipush (v := 6) hx hb zd_LassoFinderModel_statement_121 (by decide) ?_
        exact wJ_LassoFinderModel_statement_123 G K ad  Post C x1 6 I6 J6 B6 D6 ls H locs hok (lv_sub hl [0, 1] rfl) hw
      · have hok := hok.2 hc9
        refine lv_bipush (v := 7) hx hb zd_LassoFinderModel_statement_116 (by decide) ?_
        refine lv_goto (tgt := 123) hx hb zd_LassoFinderModel_statement_118 (by decide) ?_
        exact wJ_LassoFinderModel_statement_123 G K ad  Post C x1 7 I6 J6 B6 D6 ls H locs hok (lv_sub hl [0, 1] rfl) hw
    · have hok := hok.2 hc8
      exact wJ_LassoFinderModel_statement_104 G K ad  Post C I6 J6 B6 D6 ls H locs hok (lv_sub hl [0] rfl) hw
set_option maxHeartbeats 8000000 in
set_option maxRecDepth 100000 in
theorem wJ_LassoFinderModel_statement_47 {p : Program} {l : Launch} {e : Env} {s : State} {m : MethodId} {below : List Frame} {meth : Method} {c : Code} {A : Nat → Prop} (G : va_G) (K : Nat → ClassId) (ad : Nat → Nat) (Post : Int32 → (Nat → Int32) → (Nat → Int64) → (Nat → Nat → Int32) → (Nat → Nat → Int64) → Prop) (C : zCx p s m ([.ref (ad 0)] : List Value).toArray meth c A G K prog_14_method_19_code (some .boolean) 4 "LassoFinderModel") : ∀ (x1 : Int32) (I : Nat → Int32) (J : Nat → Int64) (B : Nat → Nat → Int32) (D : Nat → Nat → Int64) (ls : Array Slot) (H : Heap) (locs : List Loc), wc_LassoFinderModel_statement_47  Post x1 I J B D → lv_has ls 4 [(0, .ref (ad 0)), (1, .int x1)] → zW G A s.heap (wM ad K I J B D) H locs → W p l e { frames := 4, cells := 0, slots := 0, locals := 99 } s m ([.ref (ad 0)] : List Value).toArray below meth c H locs 0 0 (MQ below (va_Qi (fun (r : Int32) (u : zS) => Post r u.1 u.2.1 u.2.2.1 u.2.2.2) (fun u t => zPost G K A (wM ad K u.1 u.2.1 u.2.2.1 u.2.2.2) t) A) ([.ref (ad 0)] : List Value).toArray s 0 0 A) (F0 m 47 ls []) := by
  obtain ⟨hx, hb, hr, hml, hts, hown, hlocks, hA, hK⟩ := id C
  intro x1 I J B D ls H locs hok hl hw
  unfold wc_LassoFinderModel_statement_47 at hok
  refine lv_aload_n hx hb zd_LassoFinderModel_statement_47 rfl (lv_at hl 0 rfl) ?_
  refine z_get (v := .ref (ad 21)) hx hb hts hown hK hw zZ12 0 wM_g0 31 (by decide) zm_255 rfl zd_LassoFinderModel_statement_48 ?_
  refine lv_aload_n hx hb zd_LassoFinderModel_statement_51 rfl (lv_at hl 0 rfl) ?_
  refine z_get (v := .int (I 10)) hx hb hts hown hK hw zZ12 0 wM_g0 30 (by decide) zm_310 rfl zd_LassoFinderModel_statement_52 ?_
  refine va_iald (f := (B 20)) hx hb hK hw.1 21 0 wM_a21 rfl hok.1 zd_LassoFinderModel_statement_55 ?_
  have hok := hok.2
  refine lv_topi (fun z10 ez10 => ?_)
  have hok := hok z10 ez10
  refine lv_bipush (v := 30) hx hb zd_LassoFinderModel_statement_56 (by decide) ?_
  refine lv_icmp_ne (tgt := 66) hx hb zd_LassoFinderModel_statement_58 (by decide) (fun hc11 => ?_) (fun hc11 => ?_)
  · have hok := hok.1 hc11
    refine lv_aload_n hx hb zd_LassoFinderModel_statement_66 rfl (lv_at hl 0 rfl) ?_
    refine lv_dup hx hb zd_LassoFinderModel_statement_67 rfl ?_
    refine z_get (v := .int (I 2)) hx hb hts hown hK hw zZ12 0 wM_g0 3 (by decide) zm_335 rfl zd_LassoFinderModel_statement_68 ?_
    refine lv_iload_n hx hb zd_LassoFinderModel_statement_71 rfl (lv_at hl 1 rfl) ?_
    refine lv_bipush (v := 42) hx hb zd_LassoFinderModel_statement_72 (by decide) ?_
    refine lv_icmp_ne (tgt := 81) hx hb zd_LassoFinderModel_statement_74 (by decide) (fun hc12 => ?_) (fun hc12 => ?_)
    · have hok := hok.1 hc12
      refine lv_iconst (v := 0) hx hb zd_LassoFinderModel_statement_81 (by decide) ?_
      exact wJ_LassoFinderModel_statement_82 G K ad  Post C x1 0 (I 2) I J B D ls H locs hok (lv_sub hl [0, 1] rfl) hw
    · have hok := hok.2 hc12
      refine lv_iconst (v := 1) hx hb zd_LassoFinderModel_statement_77 (by decide) ?_
      refine lv_goto (tgt := 82) hx hb zd_LassoFinderModel_statement_78 (by decide) ?_
      exact wJ_LassoFinderModel_statement_82 G K ad  Post C x1 1 (I 2) I J B D ls H locs hok (lv_sub hl [0, 1] rfl) hw
  · have hok := hok.2 hc11
    refine lv_aload_n hx hb zd_LassoFinderModel_statement_61 rfl (lv_at hl 0 rfl) ?_
    refine z_calli (w1 := fun (u : zS) => wM ad K u.1 u.2.1 u.2.2.1 u.2.2.2) (wr := []) (z_runV (q0 := 0) (wc := (wM ad K I J B D)) (As := []) (rest := []) ⟨hx, hb, hml, hown, hts⟩ (w_LassoFinderModel_fail l G K ad I J B D  _ H.size hok) zf_LassoFinderModel_fail zm_334 ⟨Nat.le_of_ble_eq_true rfl, Nat.le_of_ble_eq_true rfl⟩ hK hw (List.range 58) wM_all wM_nd wM_g0 rfl rfl hl.1 rfl (Nat.le_of_ble_eq_true rfl) zd_LassoFinderModel_statement_62 ⟨Nat.le_of_ble_eq_true rfl, Nat.le_of_ble_eq_true rfl⟩) hw hA (List.range 58) [] wM_all rfl (by decide) (fun i hi => by cases hi) (fun r13 u H locs hok hw => ?_)
    obtain ⟨I13, J13, B13, D13⟩ := u
    dsimp only at hok
    have hw : zW G A s.heap (wM ad K I13 J13 B13 D13) H locs := hw
    have hbo := hok.1
    have hok := hok.2
    exact (z_iret (u := (I13, J13, B13, D13)) hx hb hr hlocks (z_nar hbo) hw (List.range 58) wM_all wM_nd hok (Nat.le_of_ble_eq_true rfl) (Nat.le_of_ble_eq_true rfl) zd_LassoFinderModel_statement_65)
set_option maxHeartbeats 8000000 in
set_option maxRecDepth 100000 in
theorem wJ_LassoFinderModel_statement_206 {p : Program} {l : Launch} {e : Env} {s : State} {m : MethodId} {below : List Frame} {meth : Method} {c : Code} {A : Nat → Prop} (G : va_G) (K : Nat → ClassId) (ad : Nat → Nat) (Post : Int32 → (Nat → Int32) → (Nat → Int64) → (Nat → Nat → Int32) → (Nat → Nat → Int64) → Prop) (C : zCx p s m ([.ref (ad 0)] : List Value).toArray meth c A G K prog_14_method_19_code (some .boolean) 4 "LassoFinderModel") : ∀  (I : Nat → Int32) (J : Nat → Int64) (B : Nat → Nat → Int32) (D : Nat → Nat → Int64) (ls : Array Slot) (H : Heap) (locs : List Loc), wc_LassoFinderModel_statement_206  Post  I J B D → lv_has ls 4 [(0, .ref (ad 0))] → zW G A s.heap (wM ad K I J B D) H locs → W p l e { frames := 4, cells := 0, slots := 0, locals := 99 } s m ([.ref (ad 0)] : List Value).toArray below meth c H locs 0 0 (MQ below (va_Qi (fun (r : Int32) (u : zS) => Post r u.1 u.2.1 u.2.2.1 u.2.2.2) (fun u t => zPost G K A (wM ad K u.1 u.2.1 u.2.2.1 u.2.2.2) t) A) ([.ref (ad 0)] : List Value).toArray s 0 0 A) (F0 m 206 ls []) := by
  obtain ⟨hx, hb, hr, hml, hts, hown, hlocks, hA, hK⟩ := id C
  intro  I J B D ls H locs hok hl hw
  unfold wc_LassoFinderModel_statement_206 at hok
  refine lv_aload_n hx hb zd_LassoFinderModel_statement_206 rfl (lv_at hl 0 rfl) ?_
  refine z_calli (w1 := fun (u : zS) => wM ad K u.1 u.2.1 u.2.2.1 u.2.2.2) (wr := []) (z_runV (q0 := 0) (wc := (wM ad K I J B D)) (As := []) (rest := []) ⟨hx, hb, hml, hown, hts⟩ (w_LassoFinderModel_fail l G K ad I J B D  _ H.size hok) zf_LassoFinderModel_fail zm_334 ⟨Nat.le_of_ble_eq_true rfl, Nat.le_of_ble_eq_true rfl⟩ hK hw (List.range 58) wM_all wM_nd wM_g0 rfl rfl hl.1 rfl (Nat.le_of_ble_eq_true rfl) zd_LassoFinderModel_statement_207 ⟨Nat.le_of_ble_eq_true rfl, Nat.le_of_ble_eq_true rfl⟩) hw hA (List.range 58) [] wM_all rfl (by decide) (fun i hi => by cases hi) (fun r14 u H locs hok hw => ?_)
  obtain ⟨I14, J14, B14, D14⟩ := u
  dsimp only at hok
  have hw : zW G A s.heap (wM ad K I14 J14 B14 D14) H locs := hw
  have hbo := hok.1
  have hok := hok.2
  exact (z_iret (u := (I14, J14, B14, D14)) hx hb hr hlocks (z_nar hbo) hw (List.range 58) wM_all wM_nd hok (Nat.le_of_ble_eq_true rfl) (Nat.le_of_ble_eq_true rfl) zd_LassoFinderModel_statement_210)
set_option maxHeartbeats 8000000 in
set_option maxRecDepth 100000 in
theorem wJ_LassoFinderModel_statement_168 {p : Program} {l : Launch} {e : Env} {s : State} {m : MethodId} {below : List Frame} {meth : Method} {c : Code} {A : Nat → Prop} (G : va_G) (K : Nat → ClassId) (ad : Nat → Nat) (Post : Int32 → (Nat → Int32) → (Nat → Int64) → (Nat → Nat → Int32) → (Nat → Nat → Int64) → Prop) (C : zCx p s m ([.ref (ad 0)] : List Value).toArray meth c A G K prog_14_method_19_code (some .boolean) 4 "LassoFinderModel") : ∀  (I : Nat → Int32) (J : Nat → Int64) (B : Nat → Nat → Int32) (D : Nat → Nat → Int64) (ls : Array Slot) (H : Heap) (locs : List Loc), wc_LassoFinderModel_statement_168  Post  I J B D → lv_has ls 4 [(0, .ref (ad 0))] → zW G A s.heap (wM ad K I J B D) H locs → W p l e { frames := 4, cells := 0, slots := 0, locals := 99 } s m ([.ref (ad 0)] : List Value).toArray below meth c H locs 0 0 (MQ below (va_Qi (fun (r : Int32) (u : zS) => Post r u.1 u.2.1 u.2.2.1 u.2.2.2) (fun u t => zPost G K A (wM ad K u.1 u.2.1 u.2.2.1 u.2.2.2) t) A) ([.ref (ad 0)] : List Value).toArray s 0 0 A) (F0 m 168 ls []) := by
  obtain ⟨hx, hb, hr, hml, hts, hown, hlocks, hA, hK⟩ := id C
  intro  I J B D ls H locs hok hl hw
  unfold wc_LassoFinderModel_statement_168 at hok
  refine lv_aload_n hx hb zd_LassoFinderModel_statement_168 rfl (lv_at hl 0 rfl) ?_
  refine z_calli (w1 := fun (u : zS) => wM ad K u.1 u.2.1 u.2.2.1 u.2.2.2) (wr := []) (z_runV (q0 := 0) (wc := (wM ad K I J B D)) (As := []) (rest := []) ⟨hx, hb, hml, hown, hts⟩ (w_LassoFinderModel_fail l G K ad I J B D  _ H.size hok) zf_LassoFinderModel_fail zm_334 ⟨Nat.le_of_ble_eq_true rfl, Nat.le_of_ble_eq_true rfl⟩ hK hw (List.range 58) wM_all wM_nd wM_g0 rfl rfl hl.1 rfl (Nat.le_of_ble_eq_true rfl) zd_LassoFinderModel_statement_169 ⟨Nat.le_of_ble_eq_true rfl, Nat.le_of_ble_eq_true rfl⟩) hw hA (List.range 58) [] wM_all rfl (by decide) (fun i hi => by cases hi) (fun r15 u H locs hok hw => ?_)
  obtain ⟨I15, J15, B15, D15⟩ := u
  dsimp only at hok
  have hw : zW G A s.heap (wM ad K I15 J15 B15 D15) H locs := hw
  have hbo := hok.1
  have hok := hok.2
  exact (z_iret (u := (I15, J15, B15, D15)) hx hb hr hlocks (z_nar hbo) hw (List.range 58) wM_all wM_nd hok (Nat.le_of_ble_eq_true rfl) (Nat.le_of_ble_eq_true rfl) zd_LassoFinderModel_statement_172)
set_option maxHeartbeats 8000000 in
set_option maxRecDepth 100000 in
theorem wJ_LassoFinderModel_statement_34 {p : Program} {l : Launch} {e : Env} {s : State} {m : MethodId} {below : List Frame} {meth : Method} {c : Code} {A : Nat → Prop} (G : va_G) (K : Nat → ClassId) (ad : Nat → Nat) (Post : Int32 → (Nat → Int32) → (Nat → Int64) → (Nat → Nat → Int32) → (Nat → Nat → Int64) → Prop) (C : zCx p s m ([.ref (ad 0)] : List Value).toArray meth c A G K prog_14_method_19_code (some .boolean) 4 "LassoFinderModel") : ∀ (x1 : Int32) (y0 : Int32) (I : Nat → Int32) (J : Nat → Int64) (B : Nat → Nat → Int32) (D : Nat → Nat → Int64) (ls : Array Slot) (H : Heap) (locs : List Loc), wc_LassoFinderModel_statement_34  Post x1 y0 I J B D → lv_has ls 4 [(0, .ref (ad 0)), (1, .int x1)] → zW G A s.heap (wM ad K I J B D) H locs → W p l e { frames := 4, cells := 0, slots := 0, locals := 99 } s m ([.ref (ad 0)] : List Value).toArray below meth c H locs 0 0 (MQ below (va_Qi (fun (r : Int32) (u : zS) => Post r u.1 u.2.1 u.2.2.1 u.2.2.2) (fun u t => zPost G K A (wM ad K u.1 u.2.1 u.2.2.1 u.2.2.2) t) A) ([.ref (ad 0)] : List Value).toArray s 0 0 A) (F0 m 34 ls [.int y0]) := by
  obtain ⟨hx, hb, hr, hml, hts, hown, hlocks, hA, hK⟩ := id C
  intro x1 y0 I J B D ls H locs hok hl hw
  unfold wc_LassoFinderModel_statement_34 at hok
  refine lv_istore_n hx hb zd_LassoFinderModel_statement_34 rfl hl (by decide) rfl (fun ls hl => ?_)
  have hl : lv_has ls 4 [(2, .int y0), (0, .ref (ad 0)), (1, .int x1)] := hl
  refine lv_iload_n hx hb zd_LassoFinderModel_statement_35 rfl (lv_at hl 2 rfl) ?_
  refine lv_bipush (v := 91) hx hb zd_LassoFinderModel_statement_36 (by decide) ?_
  refine lv_icmp_eq (tgt := 47) hx hb zd_LassoFinderModel_statement_38 (by decide) (fun hc16 => ?_) (fun hc16 => ?_)
  · have hok := hok.1 hc16
    exact wJ_LassoFinderModel_statement_47 G K ad  Post C x1 I J B D ls H locs hok (lv_sub hl [1, 2] rfl) hw
  · have hok := hok.2 hc16
    refine lv_iload_n hx hb zd_LassoFinderModel_statement_41 rfl (lv_at hl 2 rfl) ?_
    refine lv_bipush (v := 42) hx hb zd_LassoFinderModel_statement_42 (by decide) ?_
    refine lv_icmp_ne (tgt := 145) hx hb zd_LassoFinderModel_statement_44 (by decide) (fun hc17 => ?_) (fun hc17 => ?_)
    · have hok := hok.1 hc17
      refine lv_iload_n hx hb zd_LassoFinderModel_statement_145 rfl (lv_at hl 2 rfl) ?_
      refine lv_bipush (v := 60) hx hb zd_LassoFinderModel_statement_146 (by decide) ?_
      refine lv_icmp_ne (tgt := 188) hx hb zd_LassoFinderModel_statement_148 (by decide) (fun hc18 => ?_) (fun hc18 => ?_)
      · have hok := hok.1 hc18
        refine lv_iload_n hx hb zd_LassoFinderModel_statement_188 rfl (lv_at hl 2 rfl) ?_
        refine lv_bipush (v := 46) hx hb zd_LassoFinderModel_statement_189 (by decide) ?_
        refine lv_icmp_ne (tgt := 230) hx hb zd_LassoFinderModel_statement_191 (by decide) (fun hc19 => ?_) (fun hc19 => ?_)
        · have hok := hok.1 hc19
          refine lv_iload_n hx hb zd_LassoFinderModel_statement_230 rfl (lv_at hl 2 rfl) ?_
          refine lv_bipush (v := 94) hx hb zd_LassoFinderModel_statement_231 (by decide) ?_
          refine lv_icmp_ne (tgt := 314) hx hb zd_LassoFinderModel_statement_233 (by decide) (fun hc20 => ?_) (fun hc20 => ?_)
          · have hok := hok.1 hc20
            refine lv_aload_n hx hb zd_LassoFinderModel_statement_314 rfl (lv_at hl 1 rfl) ?_
            refine lv_iload_n hx hb zd_LassoFinderModel_statement_315 rfl (lv_at hl 2 rfl) ?_
            refine lv_iload_n hx hb zd_LassoFinderModel_statement_316 rfl (lv_at hl 0 rfl) ?_
            refine z_calli (w1 := fun (u : zS) => wM ad K u.1 u.2.1 u.2.2.1 u.2.2.2) (wr := []) (z_runV (q0 := 0) (wc := (wM ad K I J B D)) (As := [.int x1, .int y0]) (rest := []) ⟨hx, hb, hml, hown, hts⟩ (w_LassoFinderModel_basic l G K ad I J B D x1 y0 _ H.size hok) zf_LassoFinderModel_basic zm_345 ⟨Nat.le_of_ble_eq_true rfl, Nat.le_of_ble_eq_true rfl⟩ hK hw (List.range 58) wM_all wM_nd wM_g0 rfl rfl hl.1 rfl (Nat.le_of_ble_eq_true rfl) zd_LassoFinderModel_statement_317 ⟨Nat.le_of_ble_eq_true rfl, Nat.le_of_ble_eq_true rfl⟩) hw hA (List.range 58) [] wM_all rfl (by decide) (fun i hi => by cases hi) (fun r21 u H locs hok hw => ?_)
            obtain ⟨I21, J21, B21, D21⟩ := u
            dsimp only at hok
            have hw : zW G A s.heap (wM ad K I21 J21 B21 D21) H locs := hw
            have hbo := hok.1
            have hok := hok.2
            exact (z_iret (u := (I21, J21, B21, D21)) hx hb hr hlocks (z_nar hbo) hw (List.range 58) wM_all wM_nd hok (Nat.le_of_ble_eq_true rfl) (Nat.le_of_ble_eq_true rfl) zd_LassoFinderModel_statement_320)
          · have hok := hok.2 hc20
            refine lv_iload_n hx hb zd_LassoFinderModel_statement_236 rfl (lv_at hl 0 rfl) ?_
            refine lv_if_eq (tgt := 245) hx hb zd_LassoFinderModel_statement_237 (by decide) (fun hc22 => ?_) (fun hc22 => ?_)
            · have hok := hok.1 hc22
              refine lv_aload_n hx hb zd_LassoFinderModel_statement_245 rfl (lv_at hl 1 rfl) ?_
              refine lv_dup hx hb zd_LassoFinderModel_statement_246 rfl ?_
              refine z_get (v := .int (I 2)) hx hb hts hown hK hw zZ12 0 wM_g0 3 (by decide) zm_335 rfl zd_LassoFinderModel_statement_247 ?_
              refine lv_iconst (v := 1) hx hb zd_LassoFinderModel_statement_250 (by decide) ?_
              refine lv_iadd hx hb zd_LassoFinderModel_statement_251 ?_
              refine lv_topi (fun z23 ez23 => ?_)
              have hok := hok z23 ez23
              refine z_put (v := .int z23) hx hb hts hown hK hw zZ12 0 wM_g0 3 (by decide) zm_335 rfl rfl rfl (Nat.le_of_ble_eq_true rfl) zd_LassoFinderModel_statement_252 (fun H locs hw => ?_)
              have hw := wM_sI2 hw
              refine lv_aload_n hx hb zd_LassoFinderModel_statement_255 rfl (lv_at hl 1 rfl) ?_
              refine lv_bipush (v := 65) hx hb zd_LassoFinderModel_statement_256 (by decide) ?_
              refine lv_bipush (v := 8) hx hb zd_LassoFinderModel_statement_258 (by decide) ?_
              refine z_calli (w1 := fun (u : zS) => wM ad K u.1 u.2.1 u.2.2.1 u.2.2.2) (wr := []) (z_runV (q0 := 0) (wc := (wM ad K (upd I 2 z23) J B D)) (As := [.int 65, .int 8]) (rest := []) ⟨hx, hb, hml, hown, hts⟩ (w_LassoFinderModel_from l G K ad (upd I 2 z23) J B D 65 8 _ H.size hok) zf_LassoFinderModel_from zm_344 ⟨Nat.le_of_ble_eq_true rfl, Nat.le_of_ble_eq_true rfl⟩ hK hw (List.range 58) wM_all wM_nd wM_g0 rfl rfl hl.1 rfl (Nat.le_of_ble_eq_true rfl) zd_LassoFinderModel_statement_260 ⟨Nat.le_of_ble_eq_true rfl, Nat.le_of_ble_eq_true rfl⟩) hw hA (List.range 58) [] wM_all rfl (by decide) (fun i hi => by cases hi) (fun r24 u H locs hok hw => ?_)
              obtain ⟨I24, J24, B24, D24⟩ := u
              dsimp only at hok
              have hw : zW G A s.heap (wM ad K I24 J24 B24 D24) H locs := hw
              refine lv_if_ge (tgt := 271) hx hb zd_LassoFinderModel_statement_263 (by decide) (fun hc25 => ?_) (fun hc25 => ?_)
              · have hok := hok.1 hc25
                refine lv_aload_n hx hb zd_LassoFinderModel_statement_271 rfl (lv_at hl 1 rfl) ?_
                refine lv_bipush (v := 10) hx hb zd_LassoFinderModel_statement_272 (by decide) ?_
                refine z_calli (w1 := fun (u : zS) => wM ad K u.1 u.2.1 u.2.2.1 u.2.2.2) (wr := []) (z_runV (q0 := 0) (wc := (wM ad K I24 J24 B24 D24)) (As := [.int 10]) (rest := []) ⟨hx, hb, hml, hown, hts⟩ (w_LassoFinderModel_node l G K ad I24 J24 B24 D24 10 _ H.size hok) zf_LassoFinderModel_node zm_342 ⟨Nat.le_of_ble_eq_true rfl, Nat.le_of_ble_eq_true rfl⟩ hK hw (List.range 58) wM_all wM_nd wM_g0 rfl rfl hl.1 rfl (Nat.le_of_ble_eq_true rfl) zd_LassoFinderModel_statement_274 ⟨Nat.le_of_ble_eq_true rfl, Nat.le_of_ble_eq_true rfl⟩) hw hA (List.range 58) [] wM_all rfl (by decide) (fun i hi => by cases hi) (fun r26 u H locs hok hw => ?_)
                obtain ⟨I26, J26, B26, D26⟩ := u
                dsimp only at hok
                have hw : zW G A s.heap (wM ad K I26 J26 B26 D26) H locs := hw
                refine lv_istore_n hx hb zd_LassoFinderModel_statement_277 rfl hl (by decide) rfl (fun ls hl => ?_)
                have hl : lv_has ls 4 [(3, .int r26), (2, .int y0), (0, .ref (ad 0)), (1, .int x1)] := hl
                refine lv_aload_n hx hb zd_LassoFinderModel_statement_278 rfl (lv_at hl 2 rfl) ?_
                refine z_get (v := .ref (ad 13)) hx hb hts hown hK hw zZ12 0 wM_g0 21 (by decide) zm_247 rfl zd_LassoFinderModel_statement_279 ?_
                refine lv_iload_n hx hb zd_LassoFinderModel_statement_282 rfl (lv_at hl 0 rfl) ?_
                refine lv_aload_n hx hb zd_LassoFinderModel_statement_283 rfl (lv_at hl 2 rfl) ?_
                refine lv_bipush (v := 65) hx hb zd_LassoFinderModel_statement_284 (by decide) ?_
                refine lv_bipush (v := 8) hx hb zd_LassoFinderModel_statement_286 (by decide) ?_
                refine z_calli (w1 := fun (u : zS) => wM ad K u.1 u.2.1 u.2.2.1 u.2.2.2) (wr := []) (z_runV (q0 := 0) (wc := (wM ad K I26 J26 B26 D26)) (As := [.int 65, .int 8]) (rest := [.int r26, .ref (ad 13)]) ⟨hx, hb, hml, hown, hts⟩ (w_LassoFinderModel_from l G K ad I26 J26 B26 D26 65 8 _ H.size hok) zf_LassoFinderModel_from zm_344 ⟨Nat.le_of_ble_eq_true rfl, Nat.le_of_ble_eq_true rfl⟩ hK hw (List.range 58) wM_all wM_nd wM_g0 rfl rfl hl.1 rfl (Nat.le_of_ble_eq_true rfl) zd_LassoFinderModel_statement_288 ⟨Nat.le_of_ble_eq_true rfl, Nat.le_of_ble_eq_true rfl⟩) hw hA (List.range 58) [] wM_all rfl (by decide) (fun i hi => by cases hi) (fun r27 u H locs hok hw => ?_)
                obtain ⟨I27, J27, B27, D27⟩ := u
                dsimp only at hok
                have hw : zW G A s.heap (wM ad K I27 J27 B27 D27) H locs := hw
                refine va_iast (f := (B27 12)) hx hb hK hw.1 hw.2.1 hw.2.2 13 0 wM_a13 rfl hok.1 zd_LassoFinderModel_statement_291 (fun H locs w91 w92 w93 => ?_)
                have hok := hok.2
                have hw := wM_t13 ⟨w91, w92, w93⟩
                refine lv_aload_n hx hb zd_LassoFinderModel_statement_292 rfl (lv_at hl 2 rfl) ?_
                refine z_get (v := .ref (ad 17)) hx hb hts hown hK hw zZ12 0 wM_g0 25 (by decide) zm_251 rfl zd_LassoFinderModel_statement_293 ?_
                refine lv_iload_n hx hb zd_LassoFinderModel_statement_296 rfl (lv_at hl 0 rfl) ?_
                refine lv_aload_n hx hb zd_LassoFinderModel_statement_297 rfl (lv_at hl 2 rfl) ?_
                refine z_get (v := .int (I27 2)) hx hb hts hown hK hw zZ12 0 wM_g0 3 (by decide) zm_335 rfl zd_LassoFinderModel_statement_298 ?_
                refine va_iast (f := (B27 16)) hx hb hK hw.1 hw.2.1 hw.2.2 17 0 wM_a17 rfl hok.1 zd_LassoFinderModel_statement_301 (fun H locs w91 w92 w93 => ?_)
                have hok := hok.2
                have hw := wM_t17 ⟨w91, w92, w93⟩
                refine lv_aload_n hx hb zd_LassoFinderModel_statement_302 rfl (lv_at hl 2 rfl) ?_
                refine lv_dup hx hb zd_LassoFinderModel_statement_303 rfl ?_
                refine z_get (v := .int (I27 2)) hx hb hts hown hK hw zZ12 0 wM_g0 3 (by decide) zm_335 rfl zd_LassoFinderModel_statement_304 ?_
                refine lv_iconst (v := 1) hx hb zd_LassoFinderModel_statement_307 (by decide) ?_
                refine lv_iadd hx hb zd_LassoFinderModel_statement_308 ?_
                refine lv_topi (fun z28 ez28 => ?_)
                have hok := hok z28 ez28
                refine z_put (v := .int z28) hx hb hts hown hK hw zZ12 0 wM_g0 3 (by decide) zm_335 rfl rfl rfl (Nat.le_of_ble_eq_true rfl) zd_LassoFinderModel_statement_309 (fun H locs hw => ?_)
                have hw := wM_sI2 hw
                refine lv_iconst (v := 1) hx hb zd_LassoFinderModel_statement_312 (by decide) ?_
                exact (z_iret (u := ((upd I27 2 z28), J27, (va_up (va_up B27 12 (upd (B27 12) r26.toNatClampNeg r27)) 16 (upd (B27 16) r26.toNatClampNeg (I27 2))), D27)) hx hb hr hlocks rfl hw (List.range 58) wM_all wM_nd hok (Nat.le_of_ble_eq_true rfl) (Nat.le_of_ble_eq_true rfl) zd_LassoFinderModel_statement_313)
              · have hok := hok.2 hc25
                refine lv_aload_n hx hb zd_LassoFinderModel_statement_266 rfl (lv_at hl 1 rfl) ?_
                refine z_calli (w1 := fun (u : zS) => wM ad K u.1 u.2.1 u.2.2.1 u.2.2.2) (wr := []) (z_runV (q0 := 0) (wc := (wM ad K I24 J24 B24 D24)) (As := []) (rest := []) ⟨hx, hb, hml, hown, hts⟩ (w_LassoFinderModel_fail l G K ad I24 J24 B24 D24  _ H.size hok) zf_LassoFinderModel_fail zm_334 ⟨Nat.le_of_ble_eq_true rfl, Nat.le_of_ble_eq_true rfl⟩ hK hw (List.range 58) wM_all wM_nd wM_g0 rfl rfl hl.1 rfl (Nat.le_of_ble_eq_true rfl) zd_LassoFinderModel_statement_267 ⟨Nat.le_of_ble_eq_true rfl, Nat.le_of_ble_eq_true rfl⟩) hw hA (List.range 58) [] wM_all rfl (by decide) (fun i hi => by cases hi) (fun r29 u H locs hok hw => ?_)
                obtain ⟨I29, J29, B29, D29⟩ := u
                dsimp only at hok
                have hw : zW G A s.heap (wM ad K I29 J29 B29 D29) H locs := hw
                have hbo := hok.1
                have hok := hok.2
                exact (z_iret (u := (I29, J29, B29, D29)) hx hb hr hlocks (z_nar hbo) hw (List.range 58) wM_all wM_nd hok (Nat.le_of_ble_eq_true rfl) (Nat.le_of_ble_eq_true rfl) zd_LassoFinderModel_statement_270)
            · have hok := hok.2 hc22
              refine lv_aload_n hx hb zd_LassoFinderModel_statement_240 rfl (lv_at hl 1 rfl) ?_
              refine z_calli (w1 := fun (u : zS) => wM ad K u.1 u.2.1 u.2.2.1 u.2.2.2) (wr := []) (z_runV (q0 := 0) (wc := (wM ad K I J B D)) (As := []) (rest := []) ⟨hx, hb, hml, hown, hts⟩ (w_LassoFinderModel_fail l G K ad I J B D  _ H.size hok) zf_LassoFinderModel_fail zm_334 ⟨Nat.le_of_ble_eq_true rfl, Nat.le_of_ble_eq_true rfl⟩ hK hw (List.range 58) wM_all wM_nd wM_g0 rfl rfl hl.1 rfl (Nat.le_of_ble_eq_true rfl) zd_LassoFinderModel_statement_241 ⟨Nat.le_of_ble_eq_true rfl, Nat.le_of_ble_eq_true rfl⟩) hw hA (List.range 58) [] wM_all rfl (by decide) (fun i hi => by cases hi) (fun r30 u H locs hok hw => ?_)
              obtain ⟨I30, J30, B30, D30⟩ := u
              dsimp only at hok
              have hw : zW G A s.heap (wM ad K I30 J30 B30 D30) H locs := hw
              have hbo := hok.1
              have hok := hok.2
              exact (z_iret (u := (I30, J30, B30, D30)) hx hb hr hlocks (z_nar hbo) hw (List.range 58) wM_all wM_nd hok (Nat.le_of_ble_eq_true rfl) (Nat.le_of_ble_eq_true rfl) zd_LassoFinderModel_statement_244)
        · have hok := hok.2 hc19
          refine lv_aload_n hx hb zd_LassoFinderModel_statement_194 rfl (lv_at hl 1 rfl) ?_
          refine lv_iconst (v := 2) hx hb zd_LassoFinderModel_statement_195 (by decide) ?_
          refine z_calli (w1 := fun (u : zS) => wM ad K u.1 u.2.1 u.2.2.1 u.2.2.2) (wr := []) (z_runV (q0 := 0) (wc := (wM ad K I J B D)) (As := [.int 2]) (rest := []) ⟨hx, hb, hml, hown, hts⟩ (w_LassoFinderModel_around l G K ad I J B D 2 _ H.size hok) zf_LassoFinderModel_around zm_341 ⟨Nat.le_of_ble_eq_true rfl, Nat.le_of_ble_eq_true rfl⟩ hK hw (List.range 58) wM_all wM_nd wM_g0 rfl rfl hl.1 rfl (Nat.le_of_ble_eq_true rfl) zd_LassoFinderModel_statement_196 ⟨Nat.le_of_ble_eq_true rfl, Nat.le_of_ble_eq_true rfl⟩) hw hA (List.range 58) [] wM_all rfl (by decide) (fun i hi => by cases hi) (fun r31 u H locs hok hw => ?_)
          obtain ⟨I31, J31, B31, D31⟩ := u
          dsimp only at hok
          have hw : zW G A s.heap (wM ad K I31 J31 B31 D31) H locs := hw
          refine lv_if_eq (tgt := 206) hx hb zd_LassoFinderModel_statement_199 (by decide) (fun hc32 => ?_) (fun hc32 => ?_)
          · have hok := hok.1 hc32
            exact wJ_LassoFinderModel_statement_206 G K ad  Post C I31 J31 B31 D31 ls H locs hok (lv_sub hl [1] rfl) hw
          · have hok := hok.2 hc32
            refine lv_iload_n hx hb zd_LassoFinderModel_statement_202 rfl (lv_at hl 0 rfl) ?_
            refine lv_if_eq (tgt := 211) hx hb zd_LassoFinderModel_statement_203 (by decide) (fun hc33 => ?_) (fun hc33 => ?_)
            · have hok := hok.1 hc33
              refine lv_aload_n hx hb zd_LassoFinderModel_statement_211 rfl (lv_at hl 1 rfl) ?_
              refine lv_bipush (v := 9) hx hb zd_LassoFinderModel_statement_212 (by decide) ?_
              refine z_calli (w1 := fun (u : zS) => wM ad K u.1 u.2.1 u.2.2.1 u.2.2.2) (wr := []) (z_runV (q0 := 0) (wc := (wM ad K I31 J31 B31 D31)) (As := [.int 9]) (rest := []) ⟨hx, hb, hml, hown, hts⟩ (w_LassoFinderModel_node l G K ad I31 J31 B31 D31 9 _ H.size hok) zf_LassoFinderModel_node zm_342 ⟨Nat.le_of_ble_eq_true rfl, Nat.le_of_ble_eq_true rfl⟩ hK hw (List.range 58) wM_all wM_nd wM_g0 rfl rfl hl.1 rfl (Nat.le_of_ble_eq_true rfl) zd_LassoFinderModel_statement_214 ⟨Nat.le_of_ble_eq_true rfl, Nat.le_of_ble_eq_true rfl⟩) hw hA (List.range 58) [] wM_all rfl (by decide) (fun i hi => by cases hi) (fun r34 u H locs hok hw => ?_)
              obtain ⟨I34, J34, B34, D34⟩ := u
              dsimp only at hok
              have hw : zW G A s.heap (wM ad K I34 J34 B34 D34) H locs := hw
              refine lv_istore_n hx hb zd_LassoFinderModel_statement_217 rfl hl (by decide) rfl (fun ls hl => ?_)
              have hl : lv_has ls 4 [(3, .int r34), (2, .int y0), (0, .ref (ad 0)), (1, .int x1)] := hl
              refine lv_aload_n hx hb zd_LassoFinderModel_statement_218 rfl (lv_at hl 2 rfl) ?_
              refine lv_dup hx hb zd_LassoFinderModel_statement_219 rfl ?_
              refine z_get (v := .int (I34 2)) hx hb hts hown hK hw zZ12 0 wM_g0 3 (by decide) zm_335 rfl zd_LassoFinderModel_statement_220 ?_
              refine lv_iconst (v := 1) hx hb zd_LassoFinderModel_statement_223 (by decide) ?_
              refine lv_iadd hx hb zd_LassoFinderModel_statement_224 ?_
              refine lv_topi (fun z35 ez35 => ?_)
              have hok := hok z35 ez35
              refine z_put (v := .int z35) hx hb hts hown hK hw zZ12 0 wM_g0 3 (by decide) zm_335 rfl rfl rfl (Nat.le_of_ble_eq_true rfl) zd_LassoFinderModel_statement_225 (fun H locs hw => ?_)
              have hw := wM_sI2 hw
              refine lv_iconst (v := 1) hx hb zd_LassoFinderModel_statement_228 (by decide) ?_
              exact (z_iret (u := ((upd I34 2 z35), J34, B34, D34)) hx hb hr hlocks rfl hw (List.range 58) wM_all wM_nd hok (Nat.le_of_ble_eq_true rfl) (Nat.le_of_ble_eq_true rfl) zd_LassoFinderModel_statement_229)
            · have hok := hok.2 hc33
              exact wJ_LassoFinderModel_statement_206 G K ad  Post C I31 J31 B31 D31 ls H locs hok (lv_sub hl [1] rfl) hw
      · have hok := hok.2 hc18
        refine lv_aload_n hx hb zd_LassoFinderModel_statement_151 rfl (lv_at hl 1 rfl) ?_
        refine lv_iconst (v := 3) hx hb zd_LassoFinderModel_statement_152 (by decide) ?_
        refine z_calli (w1 := fun (u : zS) => wM ad K u.1 u.2.1 u.2.2.1 u.2.2.2) (wr := []) (z_runV (q0 := 0) (wc := (wM ad K I J B D)) (As := [.int 3]) (rest := []) ⟨hx, hb, hml, hown, hts⟩ (w_LassoFinderModel_around l G K ad I J B D 3 _ H.size hok) zf_LassoFinderModel_around zm_341 ⟨Nat.le_of_ble_eq_true rfl, Nat.le_of_ble_eq_true rfl⟩ hK hw (List.range 58) wM_all wM_nd wM_g0 rfl rfl hl.1 rfl (Nat.le_of_ble_eq_true rfl) zd_LassoFinderModel_statement_153 ⟨Nat.le_of_ble_eq_true rfl, Nat.le_of_ble_eq_true rfl⟩) hw hA (List.range 58) [] wM_all rfl (by decide) (fun i hi => by cases hi) (fun r36 u H locs hok hw => ?_)
        obtain ⟨I36, J36, B36, D36⟩ := u
        dsimp only at hok
        have hw : zW G A s.heap (wM ad K I36 J36 B36 D36) H locs := hw
        refine lv_if_ne (tgt := 168) hx hb zd_LassoFinderModel_statement_156 (by decide) (fun hc37 => ?_) (fun hc37 => ?_)
        · have hok := hok.1 hc37
          exact wJ_LassoFinderModel_statement_168 G K ad  Post C I36 J36 B36 D36 ls H locs hok (lv_sub hl [1] rfl) hw
        · have hok := hok.2 hc37
          refine lv_aload_n hx hb zd_LassoFinderModel_statement_159 rfl (lv_at hl 1 rfl) ?_
          refine z_get (v := .int (I36 12)) hx hb hts hown hK hw zZ12 0 wM_g0 38 (by decide) zm_338 rfl zd_LassoFinderModel_statement_160 ?_
          refine lv_bipush (v := 6) hx hb zd_LassoFinderModel_statement_163 (by decide) ?_
          refine lv_icmp_ne (tgt := 173) hx hb zd_LassoFinderModel_statement_165 (by decide) (fun hc38 => ?_) (fun hc38 => ?_)
          · have hok := hok.1 hc38
            refine lv_aload_n hx hb zd_LassoFinderModel_statement_173 rfl (lv_at hl 1 rfl) ?_
            refine lv_bipush (v := 8) hx hb zd_LassoFinderModel_statement_174 (by decide) ?_
            refine z_calli (w1 := fun (u : zS) => wM ad K u.1 u.2.1 u.2.2.1 u.2.2.2) (wr := []) (z_runV (q0 := 0) (wc := (wM ad K I36 J36 B36 D36)) (As := [.int 8]) (rest := []) ⟨hx, hb, hml, hown, hts⟩ (w_LassoFinderModel_node l G K ad I36 J36 B36 D36 8 _ H.size hok) zf_LassoFinderModel_node zm_342 ⟨Nat.le_of_ble_eq_true rfl, Nat.le_of_ble_eq_true rfl⟩ hK hw (List.range 58) wM_all wM_nd wM_g0 rfl rfl hl.1 rfl (Nat.le_of_ble_eq_true rfl) zd_LassoFinderModel_statement_176 ⟨Nat.le_of_ble_eq_true rfl, Nat.le_of_ble_eq_true rfl⟩) hw hA (List.range 58) [] wM_all rfl (by decide) (fun i hi => by cases hi) (fun r39 u H locs hok hw => ?_)
            obtain ⟨I39, J39, B39, D39⟩ := u
            dsimp only at hok
            have hw : zW G A s.heap (wM ad K I39 J39 B39 D39) H locs := hw
            refine lv_istore_n hx hb zd_LassoFinderModel_statement_179 rfl hl (by decide) rfl (fun ls hl => ?_)
            have hl : lv_has ls 4 [(3, .int r39), (2, .int y0), (0, .ref (ad 0)), (1, .int x1)] := hl
            refine lv_aload_n hx hb zd_LassoFinderModel_statement_180 rfl (lv_at hl 2 rfl) ?_
            refine lv_iconst (v := 3) hx hb zd_LassoFinderModel_statement_181 (by decide) ?_
            refine lv_iload_n hx hb zd_LassoFinderModel_statement_182 rfl (lv_at hl 0 rfl) ?_
            refine z_callv (w1 := fun (u : zS) => wM ad K u.1 u.2.1 u.2.2.1 u.2.2.2) (wr := []) (z_runV (q0 := 0) (wc := (wM ad K I39 J39 B39 D39)) (As := [.int 3, .int r39]) (rest := []) ⟨hx, hb, hml, hown, hts⟩ (w_LassoFinderModel_enter l G K ad I39 J39 B39 D39 3 r39 _ H.size hok) zf_LassoFinderModel_enter zm_343 ⟨Nat.le_of_ble_eq_true rfl, Nat.le_of_ble_eq_true rfl⟩ hK hw (List.range 58) wM_all wM_nd wM_g0 rfl rfl hl.1 rfl (Nat.le_of_ble_eq_true rfl) zd_LassoFinderModel_statement_183 ⟨Nat.le_of_ble_eq_true rfl, Nat.le_of_ble_eq_true rfl⟩) hw hA (List.range 58) [] wM_all rfl (by decide) (fun i hi => by cases hi) (fun u H locs hok hw => ?_)
            obtain ⟨I40, J40, B40, D40⟩ := u
            dsimp only at hok
            have hw : zW G A s.heap (wM ad K I40 J40 B40 D40) H locs := hw
            refine lv_iconst (v := 1) hx hb zd_LassoFinderModel_statement_186 (by decide) ?_
            exact (z_iret (u := (I40, J40, B40, D40)) hx hb hr hlocks rfl hw (List.range 58) wM_all wM_nd hok (Nat.le_of_ble_eq_true rfl) (Nat.le_of_ble_eq_true rfl) zd_LassoFinderModel_statement_187)
          · have hok := hok.2 hc38
            exact wJ_LassoFinderModel_statement_168 G K ad  Post C I36 J36 B36 D36 ls H locs hok (lv_sub hl [1] rfl) hw
    · have hok := hok.2 hc17
      exact wJ_LassoFinderModel_statement_47 G K ad  Post C x1 I J B D ls H locs hok (lv_sub hl [1, 2] rfl) hw
set_option maxHeartbeats 8000000 in
set_option maxRecDepth 100000 in
theorem wJ_LassoFinderModel_statement_33 {p : Program} {l : Launch} {e : Env} {s : State} {m : MethodId} {below : List Frame} {meth : Method} {c : Code} {A : Nat → Prop} (G : va_G) (K : Nat → ClassId) (ad : Nat → Nat) (Post : Int32 → (Nat → Int32) → (Nat → Int64) → (Nat → Nat → Int32) → (Nat → Nat → Int64) → Prop) (C : zCx p s m ([.ref (ad 0)] : List Value).toArray meth c A G K prog_14_method_19_code (some .boolean) 4 "LassoFinderModel") : ∀ (x1 : Int32) (I : Nat → Int32) (J : Nat → Int64) (B : Nat → Nat → Int32) (D : Nat → Nat → Int64) (ls : Array Slot) (H : Heap) (locs : List Loc), wc_LassoFinderModel_statement_33  Post x1 I J B D → lv_has ls 4 [(0, .ref (ad 0)), (1, .int x1)] → zW G A s.heap (wM ad K I J B D) H locs → W p l e { frames := 4, cells := 0, slots := 0, locals := 99 } s m ([.ref (ad 0)] : List Value).toArray below meth c H locs 0 0 (MQ below (va_Qi (fun (r : Int32) (u : zS) => Post r u.1 u.2.1 u.2.2.1 u.2.2.2) (fun u t => zPost G K A (wM ad K u.1 u.2.1 u.2.2.1 u.2.2.2) t) A) ([.ref (ad 0)] : List Value).toArray s 0 0 A) (F0 m 33 ls []) := by
  obtain ⟨hx, hb, hr, hml, hts, hown, hlocks, hA, hK⟩ := id C
  intro x1 I J B D ls H locs hok hl hw
  unfold wc_LassoFinderModel_statement_33 at hok
  refine lv_iconst (v := 0) hx hb zd_LassoFinderModel_statement_33 (by decide) ?_
  exact wJ_LassoFinderModel_statement_34 G K ad  Post C x1 0 I J B D ls H locs hok (lv_sub hl [0, 1] rfl) hw
set_option maxHeartbeats 8000000 in
set_option maxRecDepth 100000 in
theorem w_LassoFinderModel_statement (l : Launch) (G : va_G) (K : Nat → ClassId) (ad : Nat → Nat) (I : Nat → Int32) (J : Nat → Int64) (B : Nat → Nat → Int32) (D : Nat → Nat → Int64) (Post : Int32 → (Nat → Int32) → (Nat → Int64) → (Nat → Nat → Int32) → (Nat → Nat → Int64) → Prop) (sz : Nat) (hok : wp_LassoFinderModel_statement I J B D  Post) : Met l zy_LassoFinderModel_statement (Cond.code zy_LassoFinderModel_statement prog_14_method_19_code 4 (some .boolean) :: zTB) { frames := 4, cells := 0, slots := 0, locals := 99 } (va_Pc [.ref (ad 0)] (zPre G K (wM ad K I J B D) sz)) (va_Qi (fun (r : Int32) (u : zS) => Post r u.1 u.2.1 u.2.2.1 u.2.2.2) (fun u t => zPost G K (va_A (wM ad K I J B D) sz) (wM ad K u.1 u.2.1 u.2.2.1 u.2.2.2) t) (va_A (wM ad K I J B D) sz)) 0 0 (va_A (wM ad K I J B D) sz) := by
  refine zMet (y := zy_LassoFinderModel_statement) (av := [.ref (ad 0)]) (maxL := 4) (cc := prog_14_method_19_code) (ret := (some .boolean)) (W0 := (wM ad K I J B D)) (sz := sz) (G := G) (K := K) (wt := zTB) (mc := 0) (ms := 0) (Qf := fun A => va_Qi (fun (r : Int32) (u : zS) => Post r u.1 u.2.1 u.2.2.1 u.2.2.2) (fun u t => zPost G K A (wM ad K u.1 u.2.1 u.2.2.1 u.2.2.2) t) A) (by decide) (Nat.le_of_ble_eq_true rfl) ?_
  intro p e s m below meth c ls A hx hb hr hml hts hown hlocks hin hA hK H locs hw hsz hl
  clear hsz
  have hown : s.vm.findClass "LassoFinderModel" = some m.cls := hown
  have C : zCx p s m ([.ref (ad 0)] : List Value).toArray meth c A G K prog_14_method_19_code (some .boolean) 4 "LassoFinderModel" := ⟨hx, hb, hr, hml, hts, hown, hlocks, hA, hK⟩
  have hl : lv_has ls 4 [(0, .ref (ad 0))] := hl
  have hw : zW G A s.heap (wM ad K I J B D) H locs := hw
  unfold wp_LassoFinderModel_statement at hok
  refine lv_aload_n hx hb zd_LassoFinderModel_statement_0 rfl (lv_at hl 0 rfl) ?_
  refine z_calli (w1 := fun (u : zS) => wM ad K u.1 u.2.1 u.2.2.1 u.2.2.2) (wr := []) (z_runV (q0 := 0) (wc := (wM ad K I J B D)) (As := []) (rest := []) ⟨hx, hb, hml, hown, hts⟩ (w_LassoFinderModel_here l G K ad I J B D  _ H.size hok) zf_LassoFinderModel_here zm_332 ⟨Nat.le_of_ble_eq_true rfl, Nat.le_of_ble_eq_true rfl⟩ hK hw (List.range 58) wM_all wM_nd wM_g0 rfl rfl hl.1 rfl (Nat.le_of_ble_eq_true rfl) zd_LassoFinderModel_statement_1 ⟨Nat.le_of_ble_eq_true rfl, Nat.le_of_ble_eq_true rfl⟩) hw hA (List.range 58) [] wM_all rfl (by decide) (fun i hi => by cases hi) (fun r41 u H locs hok hw => ?_)
  obtain ⟨I41, J41, B41, D41⟩ := u
  dsimp only at hok
  have hw : zW G A s.heap (wM ad K I41 J41 B41 D41) H locs := hw
  refine lv_istore_n hx hb zd_LassoFinderModel_statement_4 rfl hl (by decide) rfl (fun ls hl => ?_)
  have hl : lv_has ls 4 [(1, .int r41), (0, .ref (ad 0))] := hl
  refine lv_aload_n hx hb zd_LassoFinderModel_statement_5 rfl (lv_at hl 1 rfl) ?_
  refine z_get (v := .ref (ad 27)) hx hb hts hown hK hw zZ12 0 wM_g0 39 (by decide) zm_261 rfl zd_LassoFinderModel_statement_6 ?_
  refine lv_aload_n hx hb zd_LassoFinderModel_statement_9 rfl (lv_at hl 1 rfl) ?_
  refine z_get (v := .int (I41 12)) hx hb hts hown hK hw zZ12 0 wM_g0 38 (by decide) zm_338 rfl zd_LassoFinderModel_statement_10 ?_
  refine va_iald (f := (B41 25)) hx hb hK hw.1 27 0 wM_a27 rfl hok.1 zd_LassoFinderModel_statement_13 ?_
  have hok := hok.2
  refine lv_topi (fun z42 ez42 => ?_)
  have hok := hok z42 ez42
  refine lv_if_le (tgt := 33) hx hb zd_LassoFinderModel_statement_14 (by decide) (fun hc43 => ?_) (fun hc43 => ?_)
  · have hok := hok.1 hc43
    exact wJ_LassoFinderModel_statement_33 G K ad  Post C r41 I41 J41 B41 D41 ls H locs hok (lv_sub hl [1, 0] rfl) hw
  · have hok := hok.2 hc43
    refine lv_aload_n hx hb zd_LassoFinderModel_statement_17 rfl (lv_at hl 1 rfl) ?_
    refine z_get (v := .ref (ad 29)) hx hb hts hown hK hw zZ12 0 wM_g0 41 (by decide) zm_263 rfl zd_LassoFinderModel_statement_18 ?_
    refine lv_aload_n hx hb zd_LassoFinderModel_statement_21 rfl (lv_at hl 1 rfl) ?_
    refine z_get (v := .int (I41 12)) hx hb hts hown hK hw zZ12 0 wM_g0 38 (by decide) zm_338 rfl zd_LassoFinderModel_statement_22 ?_
    refine va_iald (f := (B41 27)) hx hb hK hw.1 29 0 wM_a29 rfl hok.1 zd_LassoFinderModel_statement_25 ?_
    have hok := hok.2
    refine lv_topi (fun z44 ez44 => ?_)
    have hok := hok z44 ez44
    refine lv_if_ge (tgt := 33) hx hb zd_LassoFinderModel_statement_26 (by decide) (fun hc45 => ?_) (fun hc45 => ?_)
    · have hok := hok.1 hc45
      exact wJ_LassoFinderModel_statement_33 G K ad  Post C r41 I41 J41 B41 D41 ls H locs hok (lv_sub hl [1, 0] rfl) hw
    · have hok := hok.2 hc45
      refine lv_iconst (v := 1) hx hb zd_LassoFinderModel_statement_29 (by decide) ?_
      refine lv_goto (tgt := 34) hx hb zd_LassoFinderModel_statement_30 (by decide) ?_
      exact wJ_LassoFinderModel_statement_34 G K ad  Post C r41 1 I41 J41 B41 D41 ls H locs hok (lv_sub hl [1, 0] rfl) hw
