abbrev zy_LassoFinderModel_takes : MethodName := ⟨"LassoFinderModel", "takes", "(I)Z"⟩
abbrev zy_LassoFinderModel_basic : MethodName := ⟨"LassoFinderModel", "basic", "(IZ)Z"⟩
abbrev zy_LassoFinderModel_expression : MethodName := ⟨"LassoFinderModel", "expression", "(I)Z"⟩
theorem zm_334 : Cond.methodLink "LassoFinderModel" 213 ⟨"LassoFinderModel", "fail", "()Z"⟩ ∈ zTB := z_in (zt_7 _ (List.mem_of_getElem? (i := 138) rfl)) rfl
theorem zm_342 : Cond.methodLink "LassoFinderModel" 260 ⟨"LassoFinderModel", "node", "(I)I"⟩ ∈ zTB := z_in (zt_7 _ (List.mem_of_getElem? (i := 158) rfl)) rfl
theorem zm_344 : Cond.methodLink "LassoFinderModel" 231 ⟨"LassoFinderModel", "from", "(II)I"⟩ ∈ zTB := z_in (zt_7 _ (List.mem_of_getElem? (i := 134) rfl)) rfl
theorem zm_346 : Cond.methodLink "LassoFinderModel" 274 ⟨"LassoFinderModel", "expression", "(I)Z"⟩ ∈ zTB := z_in (zt_7 _ (List.mem_of_getElem? (i := 174) rfl)) rfl
theorem zm_347 : Cond.methodLink "LassoFinderModel" 244 ⟨"LassoFinderModel", "takes", "(I)Z"⟩ ∈ zTB := z_in (zt_7 _ (List.mem_of_getElem? (i := 142) rfl)) rfl
theorem zm_350 : Cond.methodLink "LassoFinderModel" 235 ⟨"LassoFinderModel", "settle", "(I)V"⟩ ∈ zTB := z_in (zt_7 _ (List.mem_of_getElem? (i := 182) rfl)) rfl
theorem zm_418 : Cond.code ⟨"LassoFinderModel", "fail", "()Z"⟩ prog_14_method_6_code 1 (some .boolean) ∈ zTB := z_in (zt_7 _ (List.mem_of_getElem? (i := 141) rfl)) rfl
theorem zm_419 : Cond.instanceMethod ⟨"LassoFinderModel", "fail", "()Z"⟩ ∈ zTB := z_in (zt_7 _ (List.mem_of_getElem? (i := 140) rfl)) rfl
theorem zm_420 : Cond.code ⟨"LassoFinderModel", "node", "(I)I"⟩ prog_14_method_16_code 4 (some .int) ∈ zTB := z_in (zt_7 _ (List.mem_of_getElem? (i := 161) rfl)) rfl
theorem zm_421 : Cond.instanceMethod ⟨"LassoFinderModel", "node", "(I)I"⟩ ∈ zTB := z_in (zt_7 _ (List.mem_of_getElem? (i := 160) rfl)) rfl
theorem zm_422 : Cond.code ⟨"LassoFinderModel", "settle", "(I)V"⟩ prog_14_method_11_code 2 none ∈ zTB := z_in (zt_7 _ (List.mem_of_getElem? (i := 185) rfl)) rfl
theorem zm_423 : Cond.instanceMethod ⟨"LassoFinderModel", "settle", "(I)V"⟩ ∈ zTB := z_in (zt_7 _ (List.mem_of_getElem? (i := 184) rfl)) rfl
theorem zm_424 : Cond.code ⟨"LassoFinderModel", "from", "(II)I"⟩ prog_14_method_8_code 3 (some .int) ∈ zTB := z_in (zt_7 _ (List.mem_of_getElem? (i := 137) rfl)) rfl
theorem zm_425 : Cond.instanceMethod ⟨"LassoFinderModel", "from", "(II)I"⟩ ∈ zTB := z_in (zt_7 _ (List.mem_of_getElem? (i := 136) rfl)) rfl
theorem zm_426 : Cond.code ⟨"LassoFinderModel", "expression", "(I)Z"⟩ prog_14_method_12_code 9 (some .boolean) ∈ zTB := z_in (zt_7 _ (List.mem_of_getElem? (i := 177) rfl)) rfl
theorem zm_427 : Cond.instanceMethod ⟨"LassoFinderModel", "expression", "(I)Z"⟩ ∈ zTB := z_in (zt_7 _ (List.mem_of_getElem? (i := 176) rfl)) rfl
theorem zm_428 : Cond.code ⟨"LassoFinderModel", "takes", "(I)Z"⟩ prog_14_method_7_code 2 (some .boolean) ∈ zTB := z_in (zt_7 _ (List.mem_of_getElem? (i := 145) rfl)) rfl
theorem zm_429 : Cond.instanceMethod ⟨"LassoFinderModel", "takes", "(I)Z"⟩ ∈ zTB := z_in (zt_7 _ (List.mem_of_getElem? (i := 144) rfl)) rfl
theorem zf_LassoFinderModel_fail : zFaceV zy_LassoFinderModel_fail prog_14_method_6_code 1 (some .boolean) 0 := ⟨zm_419, (z_in (zp_5 _ (List.mem_of_getElem? (i := 12) rfl)) rfl), zm_25, zm_418, by decide +kernel, by decide +kernel, by decide +kernel⟩
theorem zf_LassoFinderModel_node : zFaceV zy_LassoFinderModel_node prog_14_method_16_code 4 (some .int) 1 := ⟨zm_421, (z_in (zp_6 _ (List.mem_of_getElem? (i := 1) rfl)) rfl), zm_25, zm_420, by decide +kernel, by decide +kernel, by decide +kernel⟩
theorem zf_LassoFinderModel_settle : zFaceV zy_LassoFinderModel_settle prog_14_method_11_code 2 none 1 := ⟨zm_423, (z_in (zp_6 _ (List.mem_of_getElem? (i := 7) rfl)) rfl), zm_25, zm_422, by decide +kernel, by decide +kernel, by decide +kernel⟩
theorem zf_LassoFinderModel_from : zFaceV zy_LassoFinderModel_from prog_14_method_8_code 3 (some .int) 2 := ⟨zm_425, (z_in (zp_5 _ (List.mem_of_getElem? (i := 11) rfl)) rfl), zm_25, zm_424, by decide +kernel, by decide +kernel, by decide +kernel⟩
theorem zf_LassoFinderModel_expression : zFaceV zy_LassoFinderModel_expression prog_14_method_12_code 9 (some .boolean) 1 := ⟨zm_427, (z_in (zp_6 _ (List.mem_of_getElem? (i := 5) rfl)) rfl), zm_25, zm_426, by decide +kernel, by decide +kernel, by decide +kernel⟩
theorem zf_LassoFinderModel_takes : zFaceV zy_LassoFinderModel_takes prog_14_method_7_code 2 (some .boolean) 1 := ⟨zm_429, (z_in (zp_5 _ (List.mem_of_getElem? (i := 13) rfl)) rfl), zm_25, zm_428, by decide +kernel, by decide +kernel, by decide +kernel⟩
theorem zd_LassoFinderModel_basic_0 : decode prog_14_method_20_code 0 = .ok (.aload_n 0, 1) := by decide +kernel
theorem zd_LassoFinderModel_basic_1 : decode prog_14_method_20_code 1 = .ok (.bipush 97, 2) := by decide +kernel
theorem zd_LassoFinderModel_basic_3 : decode prog_14_method_20_code 3 = .ok (.bipush 8, 2) := by decide +kernel
theorem zd_LassoFinderModel_basic_5 : decode prog_14_method_20_code 5 = .ok (.invokevirtual 231, 3) := by decide +kernel
theorem zd_LassoFinderModel_basic_8 : decode prog_14_method_20_code 8 = .ok (.istore_n 3, 1) := by decide +kernel
theorem zd_LassoFinderModel_basic_9 : decode prog_14_method_20_code 9 = .ok (.iload_n 3, 1) := by decide +kernel
theorem zd_LassoFinderModel_basic_10 : decode prog_14_method_20_code 10 = .ok (.ifCond .lt 25, 3) := by decide +kernel
theorem zd_LassoFinderModel_basic_13 : decode prog_14_method_20_code 13 = .ok (.aload_n 0, 1) := by decide +kernel
theorem zd_LassoFinderModel_basic_14 : decode prog_14_method_20_code 14 = .ok (.getfield 17, 3) := by decide +kernel
theorem zd_LassoFinderModel_basic_17 : decode prog_14_method_20_code 17 = .ok (.iload_n 3, 1) := by decide +kernel
theorem zd_LassoFinderModel_basic_18 : decode prog_14_method_20_code 18 = .ok (.iaload, 1) := by decide +kernel
theorem zd_LassoFinderModel_basic_19 : decode prog_14_method_20_code 19 = .ok (.ifCond .ge 12, 3) := by decide +kernel
theorem zd_LassoFinderModel_basic_22 : decode prog_14_method_20_code 22 = .ok (.aload_n 0, 1) := by decide +kernel
theorem zd_LassoFinderModel_basic_23 : decode prog_14_method_20_code 23 = .ok (.getfield 20, 3) := by decide +kernel
theorem zd_LassoFinderModel_basic_26 : decode prog_14_method_20_code 26 = .ok (.iload_n 3, 1) := by decide +kernel
theorem zd_LassoFinderModel_basic_27 : decode prog_14_method_20_code 27 = .ok (.iaload, 1) := by decide +kernel
theorem zd_LassoFinderModel_basic_28 : decode prog_14_method_20_code 28 = .ok (.ifCond .lt 7, 3) := by decide +kernel
theorem zd_LassoFinderModel_basic_31 : decode prog_14_method_20_code 31 = .ok (.iconst 1, 1) := by decide +kernel
theorem zd_LassoFinderModel_basic_32 : decode prog_14_method_20_code 32 = .ok (.goto 4, 3) := by decide +kernel
theorem zd_LassoFinderModel_basic_35 : decode prog_14_method_20_code 35 = .ok (.iconst 0, 1) := by decide +kernel
theorem zd_LassoFinderModel_basic_36 : decode prog_14_method_20_code 36 = .ok (.istore 4, 2) := by decide +kernel
theorem zd_LassoFinderModel_basic_38 : decode prog_14_method_20_code 38 = .ok (.iload 4, 2) := by decide +kernel
theorem zd_LassoFinderModel_basic_40 : decode prog_14_method_20_code 40 = .ok (.ifCond .ne 38, 3) := by decide +kernel
theorem zd_LassoFinderModel_basic_43 : decode prog_14_method_20_code 43 = .ok (.iload_n 1, 1) := by decide +kernel
theorem zd_LassoFinderModel_basic_44 : decode prog_14_method_20_code 44 = .ok (.bipush 40, 2) := by decide +kernel
theorem zd_LassoFinderModel_basic_46 : decode prog_14_method_20_code 46 = .ok (.if_icmp .eq 32, 3) := by decide +kernel
theorem zd_LassoFinderModel_basic_49 : decode prog_14_method_20_code 49 = .ok (.iload_n 1, 1) := by decide +kernel
theorem zd_LassoFinderModel_basic_50 : decode prog_14_method_20_code 50 = .ok (.bipush 45, 2) := by decide +kernel
theorem zd_LassoFinderModel_basic_52 : decode prog_14_method_20_code 52 = .ok (.if_icmp .eq 26, 3) := by decide +kernel
theorem zd_LassoFinderModel_basic_55 : decode prog_14_method_20_code 55 = .ok (.iload_n 1, 1) := by decide +kernel
theorem zd_LassoFinderModel_basic_56 : decode prog_14_method_20_code 56 = .ok (.bipush 126, 2) := by decide +kernel
theorem zd_LassoFinderModel_basic_58 : decode prog_14_method_20_code 58 = .ok (.if_icmp .ne 24, 3) := by decide +kernel
theorem zd_LassoFinderModel_basic_61 : decode prog_14_method_20_code 61 = .ok (.iload_n 2, 1) := by decide +kernel
theorem zd_LassoFinderModel_basic_62 : decode prog_14_method_20_code 62 = .ok (.ifCond .eq 20, 3) := by decide +kernel
theorem zd_LassoFinderModel_basic_65 : decode prog_14_method_20_code 65 = .ok (.aload_n 0, 1) := by decide +kernel
theorem zd_LassoFinderModel_basic_66 : decode prog_14_method_20_code 66 = .ok (.getfield 94, 3) := by decide +kernel
theorem zd_LassoFinderModel_basic_69 : decode prog_14_method_20_code 69 = .ok (.aload_n 0, 1) := by decide +kernel
theorem zd_LassoFinderModel_basic_70 : decode prog_14_method_20_code 70 = .ok (.getfield 248, 3) := by decide +kernel
theorem zd_LassoFinderModel_basic_73 : decode prog_14_method_20_code 73 = .ok (.iaload, 1) := by decide +kernel
theorem zd_LassoFinderModel_basic_74 : decode prog_14_method_20_code 74 = .ok (.iconst 3, 1) := by decide +kernel
theorem zd_LassoFinderModel_basic_75 : decode prog_14_method_20_code 75 = .ok (.if_icmp .ge 7, 3) := by decide +kernel
theorem zd_LassoFinderModel_basic_78 : decode prog_14_method_20_code 78 = .ok (.iconst 1, 1) := by decide +kernel
theorem zd_LassoFinderModel_basic_79 : decode prog_14_method_20_code 79 = .ok (.goto 4, 3) := by decide +kernel
theorem zd_LassoFinderModel_basic_82 : decode prog_14_method_20_code 82 = .ok (.iconst 0, 1) := by decide +kernel
theorem zd_LassoFinderModel_basic_83 : decode prog_14_method_20_code 83 = .ok (.istore 5, 2) := by decide +kernel
theorem zd_LassoFinderModel_basic_85 : decode prog_14_method_20_code 85 = .ok (.iload 5, 2) := by decide +kernel
theorem zd_LassoFinderModel_basic_87 : decode prog_14_method_20_code 87 = .ok (.ifCond .eq 26, 3) := by decide +kernel
theorem zd_LassoFinderModel_basic_90 : decode prog_14_method_20_code 90 = .ok (.aload_n 0, 1) := by decide +kernel
theorem zd_LassoFinderModel_basic_91 : decode prog_14_method_20_code 91 = .ok (.getfield 257, 3) := by decide +kernel
theorem zd_LassoFinderModel_basic_94 : decode prog_14_method_20_code 94 = .ok (.bipush 48, 2) := by decide +kernel
theorem zd_LassoFinderModel_basic_96 : decode prog_14_method_20_code 96 = .ok (.if_icmp .eq 17, 3) := by decide +kernel
theorem zd_LassoFinderModel_basic_99 : decode prog_14_method_20_code 99 = .ok (.aload_n 0, 1) := by decide +kernel
theorem zd_LassoFinderModel_basic_100 : decode prog_14_method_20_code 100 = .ok (.getfield 75, 3) := by decide +kernel
theorem zd_LassoFinderModel_basic_103 : decode prog_14_method_20_code 103 = .ok (.aload_n 0, 1) := by decide +kernel
theorem zd_LassoFinderModel_basic_104 : decode prog_14_method_20_code 104 = .ok (.getfield 254, 3) := by decide +kernel
theorem zd_LassoFinderModel_basic_107 : decode prog_14_method_20_code 107 = .ok (.iaload, 1) := by decide +kernel
theorem zd_LassoFinderModel_basic_108 : decode prog_14_method_20_code 108 = .ok (.bipush 30, 2) := by decide +kernel
theorem zd_LassoFinderModel_basic_110 : decode prog_14_method_20_code 110 = .ok (.if_icmp .ne 8, 3) := by decide +kernel
theorem zd_LassoFinderModel_basic_113 : decode prog_14_method_20_code 113 = .ok (.aload_n 0, 1) := by decide +kernel
theorem zd_LassoFinderModel_basic_114 : decode prog_14_method_20_code 114 = .ok (.invokevirtual 213, 3) := by decide +kernel
theorem zd_LassoFinderModel_basic_117 : decode prog_14_method_20_code 117 = .ok (.ireturn, 1) := by decide +kernel
theorem zd_LassoFinderModel_basic_118 : decode prog_14_method_20_code 118 = .ok (.aload_n 0, 1) := by decide +kernel
theorem zd_LassoFinderModel_basic_119 : decode prog_14_method_20_code 119 = .ok (.iload_n 1, 1) := by decide +kernel
theorem zd_LassoFinderModel_basic_120 : decode prog_14_method_20_code 120 = .ok (.bipush 40, 2) := by decide +kernel
theorem zd_LassoFinderModel_basic_122 : decode prog_14_method_20_code 122 = .ok (.if_icmp .ne 7, 3) := by decide +kernel
theorem zd_LassoFinderModel_basic_125 : decode prog_14_method_20_code 125 = .ok (.iconst 1, 1) := by decide +kernel
theorem zd_LassoFinderModel_basic_126 : decode prog_14_method_20_code 126 = .ok (.goto 24, 3) := by decide +kernel
theorem zd_LassoFinderModel_basic_129 : decode prog_14_method_20_code 129 = .ok (.iload_n 1, 1) := by decide +kernel
theorem zd_LassoFinderModel_basic_130 : decode prog_14_method_20_code 130 = .ok (.bipush 45, 2) := by decide +kernel
theorem zd_LassoFinderModel_basic_132 : decode prog_14_method_20_code 132 = .ok (.if_icmp .ne 7, 3) := by decide +kernel
theorem zd_LassoFinderModel_basic_135 : decode prog_14_method_20_code 135 = .ok (.iconst 4, 1) := by decide +kernel
theorem zd_LassoFinderModel_basic_136 : decode prog_14_method_20_code 136 = .ok (.goto 14, 3) := by decide +kernel
theorem zd_LassoFinderModel_basic_139 : decode prog_14_method_20_code 139 = .ok (.iload_n 1, 1) := by decide +kernel
theorem zd_LassoFinderModel_basic_140 : decode prog_14_method_20_code 140 = .ok (.bipush 126, 2) := by decide +kernel
theorem zd_LassoFinderModel_basic_142 : decode prog_14_method_20_code 142 = .ok (.if_icmp .ne 7, 3) := by decide +kernel
theorem zd_LassoFinderModel_basic_145 : decode prog_14_method_20_code 145 = .ok (.iconst 5, 1) := by decide +kernel
theorem zd_LassoFinderModel_basic_146 : decode prog_14_method_20_code 146 = .ok (.goto 4, 3) := by decide +kernel
theorem zd_LassoFinderModel_basic_149 : decode prog_14_method_20_code 149 = .ok (.iconst 0, 1) := by decide +kernel
theorem zd_LassoFinderModel_basic_150 : decode prog_14_method_20_code 150 = .ok (.invokevirtual 260, 3) := by decide +kernel
theorem zd_LassoFinderModel_basic_153 : decode prog_14_method_20_code 153 = .ok (.istore 6, 2) := by decide +kernel
theorem zd_LassoFinderModel_basic_155 : decode prog_14_method_20_code 155 = .ok (.aload_n 0, 1) := by decide +kernel
theorem zd_LassoFinderModel_basic_156 : decode prog_14_method_20_code 156 = .ok (.dup, 1) := by decide +kernel
theorem zd_LassoFinderModel_basic_157 : decode prog_14_method_20_code 157 = .ok (.getfield 203, 3) := by decide +kernel
theorem zd_LassoFinderModel_basic_160 : decode prog_14_method_20_code 160 = .ok (.iconst 1, 1) := by decide +kernel
theorem zd_LassoFinderModel_basic_161 : decode prog_14_method_20_code 161 = .ok (.iadd, 1) := by decide +kernel
theorem zd_LassoFinderModel_basic_162 : decode prog_14_method_20_code 162 = .ok (.putfield 203, 3) := by decide +kernel
theorem zd_LassoFinderModel_basic_165 : decode prog_14_method_20_code 165 = .ok (.aload_n 0, 1) := by decide +kernel
theorem zd_LassoFinderModel_basic_166 : decode prog_14_method_20_code 166 = .ok (.getfield 57, 3) := by decide +kernel
theorem zd_LassoFinderModel_basic_169 : decode prog_14_method_20_code 169 = .ok (.iload 6, 2) := by decide +kernel
theorem zd_LassoFinderModel_basic_171 : decode prog_14_method_20_code 171 = .ok (.aload_n 0, 1) := by decide +kernel
theorem zd_LassoFinderModel_basic_172 : decode prog_14_method_20_code 172 = .ok (.getfield 217, 3) := by decide +kernel
theorem zd_LassoFinderModel_basic_175 : decode prog_14_method_20_code 175 = .ok (.iastore, 1) := by decide +kernel
theorem zd_LassoFinderModel_basic_176 : decode prog_14_method_20_code 176 = .ok (.aload_n 0, 1) := by decide +kernel
theorem zd_LassoFinderModel_basic_177 : decode prog_14_method_20_code 177 = .ok (.getfield 60, 3) := by decide +kernel
theorem zd_LassoFinderModel_basic_180 : decode prog_14_method_20_code 180 = .ok (.iload 6, 2) := by decide +kernel
theorem zd_LassoFinderModel_basic_182 : decode prog_14_method_20_code 182 = .ok (.aload_n 0, 1) := by decide +kernel
theorem zd_LassoFinderModel_basic_183 : decode prog_14_method_20_code 183 = .ok (.getfield 217, 3) := by decide +kernel
theorem zd_LassoFinderModel_basic_186 : decode prog_14_method_20_code 186 = .ok (.iastore, 1) := by decide +kernel
theorem zd_LassoFinderModel_basic_187 : decode prog_14_method_20_code 187 = .ok (.iload_n 1, 1) := by decide +kernel
theorem zd_LassoFinderModel_basic_188 : decode prog_14_method_20_code 188 = .ok (.bipush 40, 2) := by decide +kernel
theorem zd_LassoFinderModel_basic_190 : decode prog_14_method_20_code 190 = .ok (.if_icmp .ne 31, 3) := by decide +kernel
theorem zd_LassoFinderModel_basic_193 : decode prog_14_method_20_code 193 = .ok (.aload_n 0, 1) := by decide +kernel
theorem zd_LassoFinderModel_basic_194 : decode prog_14_method_20_code 194 = .ok (.iconst 1, 1) := by decide +kernel
theorem zd_LassoFinderModel_basic_195 : decode prog_14_method_20_code 195 = .ok (.invokevirtual 274, 3) := by decide +kernel
theorem zd_LassoFinderModel_basic_198 : decode prog_14_method_20_code 198 = .ok (.ifCond .ne 5, 3) := by decide +kernel
theorem zd_LassoFinderModel_basic_201 : decode prog_14_method_20_code 201 = .ok (.iconst 0, 1) := by decide +kernel
theorem zd_LassoFinderModel_basic_202 : decode prog_14_method_20_code 202 = .ok (.ireturn, 1) := by decide +kernel
theorem zd_LassoFinderModel_basic_203 : decode prog_14_method_20_code 203 = .ok (.aload_n 0, 1) := by decide +kernel
theorem zd_LassoFinderModel_basic_204 : decode prog_14_method_20_code 204 = .ok (.getfield 60, 3) := by decide +kernel
theorem zd_LassoFinderModel_basic_207 : decode prog_14_method_20_code 207 = .ok (.iload 6, 2) := by decide +kernel
theorem zd_LassoFinderModel_basic_209 : decode prog_14_method_20_code 209 = .ok (.aload_n 0, 1) := by decide +kernel
theorem zd_LassoFinderModel_basic_210 : decode prog_14_method_20_code 210 = .ok (.getfield 217, 3) := by decide +kernel
theorem zd_LassoFinderModel_basic_213 : decode prog_14_method_20_code 213 = .ok (.iastore, 1) := by decide +kernel
theorem zd_LassoFinderModel_basic_214 : decode prog_14_method_20_code 214 = .ok (.aload_n 0, 1) := by decide +kernel
theorem zd_LassoFinderModel_basic_215 : decode prog_14_method_20_code 215 = .ok (.bipush 41, 2) := by decide +kernel
theorem zd_LassoFinderModel_basic_217 : decode prog_14_method_20_code 217 = .ok (.invokevirtual 244, 3) := by decide +kernel
theorem zd_LassoFinderModel_basic_220 : decode prog_14_method_20_code 220 = .ok (.ireturn, 1) := by decide +kernel
theorem zd_LassoFinderModel_basic_221 : decode prog_14_method_20_code 221 = .ok (.iload 4, 2) := by decide +kernel
theorem zd_LassoFinderModel_basic_223 : decode prog_14_method_20_code 223 = .ok (.ifCond .ne 5, 3) := by decide +kernel
theorem zd_LassoFinderModel_basic_226 : decode prog_14_method_20_code 226 = .ok (.iconst 1, 1) := by decide +kernel
theorem zd_LassoFinderModel_basic_227 : decode prog_14_method_20_code 227 = .ok (.ireturn, 1) := by decide +kernel
theorem zd_LassoFinderModel_basic_228 : decode prog_14_method_20_code 228 = .ok (.aload_n 0, 1) := by decide +kernel
theorem zd_LassoFinderModel_basic_229 : decode prog_14_method_20_code 229 = .ok (.getfield 17, 3) := by decide +kernel
theorem zd_LassoFinderModel_basic_232 : decode prog_14_method_20_code 232 = .ok (.iload_n 3, 1) := by decide +kernel
theorem zd_LassoFinderModel_basic_233 : decode prog_14_method_20_code 233 = .ok (.iaload, 1) := by decide +kernel
theorem zd_LassoFinderModel_basic_234 : decode prog_14_method_20_code 234 = .ok (.ifCond .lt 27, 3) := by decide +kernel
theorem zd_LassoFinderModel_basic_237 : decode prog_14_method_20_code 237 = .ok (.aload_n 0, 1) := by decide +kernel
theorem zd_LassoFinderModel_basic_238 : decode prog_14_method_20_code 238 = .ok (.getfield 51, 3) := by decide +kernel
theorem zd_LassoFinderModel_basic_241 : decode prog_14_method_20_code 241 = .ok (.iload 6, 2) := by decide +kernel
theorem zd_LassoFinderModel_basic_243 : decode prog_14_method_20_code 243 = .ok (.aload_n 0, 1) := by decide +kernel
theorem zd_LassoFinderModel_basic_244 : decode prog_14_method_20_code 244 = .ok (.getfield 17, 3) := by decide +kernel
theorem zd_LassoFinderModel_basic_247 : decode prog_14_method_20_code 247 = .ok (.iload_n 3, 1) := by decide +kernel
theorem zd_LassoFinderModel_basic_248 : decode prog_14_method_20_code 248 = .ok (.iaload, 1) := by decide +kernel
theorem zd_LassoFinderModel_basic_249 : decode prog_14_method_20_code 249 = .ok (.iastore, 1) := by decide +kernel
theorem zd_LassoFinderModel_basic_250 : decode prog_14_method_20_code 250 = .ok (.aload_n 0, 1) := by decide +kernel
theorem zd_LassoFinderModel_basic_251 : decode prog_14_method_20_code 251 = .ok (.bipush 61, 2) := by decide +kernel
theorem zd_LassoFinderModel_basic_253 : decode prog_14_method_20_code 253 = .ok (.invokevirtual 244, 3) := by decide +kernel
theorem zd_LassoFinderModel_basic_256 : decode prog_14_method_20_code 256 = .ok (.ifCond .ne 120, 3) := by decide +kernel
theorem zd_LassoFinderModel_basic_259 : decode prog_14_method_20_code 259 = .ok (.iconst 0, 1) := by decide +kernel
theorem zd_LassoFinderModel_basic_260 : decode prog_14_method_20_code 260 = .ok (.ireturn, 1) := by decide +kernel
theorem zd_LassoFinderModel_basic_261 : decode prog_14_method_20_code 261 = .ok (.aload_n 0, 1) := by decide +kernel
theorem zd_LassoFinderModel_basic_262 : decode prog_14_method_20_code 262 = .ok (.getfield 51, 3) := by decide +kernel
theorem zd_LassoFinderModel_basic_265 : decode prog_14_method_20_code 265 = .ok (.iload 6, 2) := by decide +kernel
theorem zd_LassoFinderModel_basic_267 : decode prog_14_method_20_code 267 = .ok (.aload_n 0, 1) := by decide +kernel
theorem zd_LassoFinderModel_basic_268 : decode prog_14_method_20_code 268 = .ok (.getfield 20, 3) := by decide +kernel
theorem zd_LassoFinderModel_basic_271 : decode prog_14_method_20_code 271 = .ok (.iload_n 3, 1) := by decide +kernel
theorem zd_LassoFinderModel_basic_272 : decode prog_14_method_20_code 272 = .ok (.iaload, 1) := by decide +kernel
theorem zd_LassoFinderModel_basic_273 : decode prog_14_method_20_code 273 = .ok (.iastore, 1) := by decide +kernel
theorem zd_LassoFinderModel_basic_274 : decode prog_14_method_20_code 274 = .ok (.aload_n 0, 1) := by decide +kernel
theorem zd_LassoFinderModel_basic_275 : decode prog_14_method_20_code 275 = .ok (.invokevirtual 209, 3) := by decide +kernel
theorem zd_LassoFinderModel_basic_278 : decode prog_14_method_20_code 278 = .ok (.bipush 63, 2) := by decide +kernel
theorem zd_LassoFinderModel_basic_280 : decode prog_14_method_20_code 280 = .ok (.if_icmp .ne 77, 3) := by decide +kernel
theorem zd_LassoFinderModel_basic_283 : decode prog_14_method_20_code 283 = .ok (.aload_n 0, 1) := by decide +kernel
theorem zd_LassoFinderModel_basic_284 : decode prog_14_method_20_code 284 = .ok (.getfield 29, 3) := by decide +kernel
theorem zd_LassoFinderModel_basic_287 : decode prog_14_method_20_code 287 = .ok (.iload 6, 2) := by decide +kernel
theorem zd_LassoFinderModel_basic_289 : decode prog_14_method_20_code 289 = .ok (.iconst 3, 1) := by decide +kernel
theorem zd_LassoFinderModel_basic_290 : decode prog_14_method_20_code 290 = .ok (.iastore, 1) := by decide +kernel
theorem zd_LassoFinderModel_basic_291 : decode prog_14_method_20_code 291 = .ok (.aload_n 0, 1) := by decide +kernel
theorem zd_LassoFinderModel_basic_292 : decode prog_14_method_20_code 292 = .ok (.dup, 1) := by decide +kernel
theorem zd_LassoFinderModel_basic_293 : decode prog_14_method_20_code 293 = .ok (.getfield 203, 3) := by decide +kernel
theorem zd_LassoFinderModel_basic_296 : decode prog_14_method_20_code 296 = .ok (.iconst 1, 1) := by decide +kernel
theorem zd_LassoFinderModel_basic_297 : decode prog_14_method_20_code 297 = .ok (.iadd, 1) := by decide +kernel
theorem zd_LassoFinderModel_basic_298 : decode prog_14_method_20_code 298 = .ok (.putfield 203, 3) := by decide +kernel
theorem zd_LassoFinderModel_basic_301 : decode prog_14_method_20_code 301 = .ok (.aload_n 0, 1) := by decide +kernel
theorem zd_LassoFinderModel_basic_302 : decode prog_14_method_20_code 302 = .ok (.bipush 97, 2) := by decide +kernel
theorem zd_LassoFinderModel_basic_304 : decode prog_14_method_20_code 304 = .ok (.bipush 8, 2) := by decide +kernel
theorem zd_LassoFinderModel_basic_306 : decode prog_14_method_20_code 306 = .ok (.invokevirtual 231, 3) := by decide +kernel
theorem zd_LassoFinderModel_basic_309 : decode prog_14_method_20_code 309 = .ok (.istore 7, 2) := by decide +kernel
theorem zd_LassoFinderModel_basic_311 : decode prog_14_method_20_code 311 = .ok (.iload 7, 2) := by decide +kernel
theorem zd_LassoFinderModel_basic_313 : decode prog_14_method_20_code 313 = .ok (.ifCond .lt 13, 3) := by decide +kernel
theorem zd_LassoFinderModel_basic_316 : decode prog_14_method_20_code 316 = .ok (.aload_n 0, 1) := by decide +kernel
theorem zd_LassoFinderModel_basic_317 : decode prog_14_method_20_code 317 = .ok (.getfield 17, 3) := by decide +kernel
theorem zd_LassoFinderModel_basic_320 : decode prog_14_method_20_code 320 = .ok (.iload 7, 2) := by decide +kernel
theorem zd_LassoFinderModel_basic_322 : decode prog_14_method_20_code 322 = .ok (.iaload, 1) := by decide +kernel
theorem zd_LassoFinderModel_basic_323 : decode prog_14_method_20_code 323 = .ok (.ifCond .ge 8, 3) := by decide +kernel
theorem zd_LassoFinderModel_basic_326 : decode prog_14_method_20_code 326 = .ok (.aload_n 0, 1) := by decide +kernel
theorem zd_LassoFinderModel_basic_327 : decode prog_14_method_20_code 327 = .ok (.invokevirtual 213, 3) := by decide +kernel
theorem zd_LassoFinderModel_basic_330 : decode prog_14_method_20_code 330 = .ok (.ireturn, 1) := by decide +kernel
theorem zd_LassoFinderModel_basic_331 : decode prog_14_method_20_code 331 = .ok (.aload_n 0, 1) := by decide +kernel
theorem zd_LassoFinderModel_basic_332 : decode prog_14_method_20_code 332 = .ok (.getfield 54, 3) := by decide +kernel
theorem zd_LassoFinderModel_basic_335 : decode prog_14_method_20_code 335 = .ok (.iload 6, 2) := by decide +kernel
theorem zd_LassoFinderModel_basic_337 : decode prog_14_method_20_code 337 = .ok (.aload_n 0, 1) := by decide +kernel
theorem zd_LassoFinderModel_basic_338 : decode prog_14_method_20_code 338 = .ok (.getfield 17, 3) := by decide +kernel
theorem zd_LassoFinderModel_basic_341 : decode prog_14_method_20_code 341 = .ok (.iload 7, 2) := by decide +kernel
theorem zd_LassoFinderModel_basic_343 : decode prog_14_method_20_code 343 = .ok (.iaload, 1) := by decide +kernel
theorem zd_LassoFinderModel_basic_344 : decode prog_14_method_20_code 344 = .ok (.iastore, 1) := by decide +kernel
theorem zd_LassoFinderModel_basic_345 : decode prog_14_method_20_code 345 = .ok (.aload_n 0, 1) := by decide +kernel
theorem zd_LassoFinderModel_basic_346 : decode prog_14_method_20_code 346 = .ok (.dup, 1) := by decide +kernel
theorem zd_LassoFinderModel_basic_347 : decode prog_14_method_20_code 347 = .ok (.getfield 203, 3) := by decide +kernel
theorem zd_LassoFinderModel_basic_350 : decode prog_14_method_20_code 350 = .ok (.iconst 1, 1) := by decide +kernel
theorem zd_LassoFinderModel_basic_351 : decode prog_14_method_20_code 351 = .ok (.iadd, 1) := by decide +kernel
theorem zd_LassoFinderModel_basic_352 : decode prog_14_method_20_code 352 = .ok (.putfield 203, 3) := by decide +kernel
theorem zd_LassoFinderModel_basic_355 : decode prog_14_method_20_code 355 = .ok (.iconst 1, 1) := by decide +kernel
theorem zd_LassoFinderModel_basic_356 : decode prog_14_method_20_code 356 = .ok (.ireturn, 1) := by decide +kernel
theorem zd_LassoFinderModel_basic_357 : decode prog_14_method_20_code 357 = .ok (.aload_n 0, 1) := by decide +kernel
theorem zd_LassoFinderModel_basic_358 : decode prog_14_method_20_code 358 = .ok (.getfield 29, 3) := by decide +kernel
theorem zd_LassoFinderModel_basic_361 : decode prog_14_method_20_code 361 = .ok (.iload 6, 2) := by decide +kernel
theorem zd_LassoFinderModel_basic_363 : decode prog_14_method_20_code 363 = .ok (.iconst 2, 1) := by decide +kernel
theorem zd_LassoFinderModel_basic_364 : decode prog_14_method_20_code 364 = .ok (.iastore, 1) := by decide +kernel
theorem zd_LassoFinderModel_basic_365 : decode prog_14_method_20_code 365 = .ok (.aload_n 0, 1) := by decide +kernel
theorem zd_LassoFinderModel_basic_366 : decode prog_14_method_20_code 366 = .ok (.bipush 33, 2) := by decide +kernel
theorem zd_LassoFinderModel_basic_368 : decode prog_14_method_20_code 368 = .ok (.invokevirtual 244, 3) := by decide +kernel
theorem zd_LassoFinderModel_basic_371 : decode prog_14_method_20_code 371 = .ok (.ifCond .ne 5, 3) := by decide +kernel
theorem zd_LassoFinderModel_basic_374 : decode prog_14_method_20_code 374 = .ok (.iconst 0, 1) := by decide +kernel
theorem zd_LassoFinderModel_basic_375 : decode prog_14_method_20_code 375 = .ok (.ireturn, 1) := by decide +kernel
theorem zd_LassoFinderModel_basic_376 : decode prog_14_method_20_code 376 = .ok (.aload_n 0, 1) := by decide +kernel
theorem zd_LassoFinderModel_basic_377 : decode prog_14_method_20_code 377 = .ok (.iconst 0, 1) := by decide +kernel
theorem zd_LassoFinderModel_basic_378 : decode prog_14_method_20_code 378 = .ok (.invokevirtual 274, 3) := by decide +kernel
theorem zd_LassoFinderModel_basic_381 : decode prog_14_method_20_code 381 = .ok (.ifCond .ne 5, 3) := by decide +kernel
theorem zd_LassoFinderModel_basic_384 : decode prog_14_method_20_code 384 = .ok (.iconst 0, 1) := by decide +kernel
theorem zd_LassoFinderModel_basic_385 : decode prog_14_method_20_code 385 = .ok (.ireturn, 1) := by decide +kernel
theorem zd_LassoFinderModel_basic_386 : decode prog_14_method_20_code 386 = .ok (.aload_n 0, 1) := by decide +kernel
theorem zd_LassoFinderModel_basic_387 : decode prog_14_method_20_code 387 = .ok (.getfield 60, 3) := by decide +kernel
theorem zd_LassoFinderModel_basic_390 : decode prog_14_method_20_code 390 = .ok (.iload 6, 2) := by decide +kernel
theorem zd_LassoFinderModel_basic_392 : decode prog_14_method_20_code 392 = .ok (.aload_n 0, 1) := by decide +kernel
theorem zd_LassoFinderModel_basic_393 : decode prog_14_method_20_code 393 = .ok (.getfield 217, 3) := by decide +kernel
theorem zd_LassoFinderModel_basic_396 : decode prog_14_method_20_code 396 = .ok (.iastore, 1) := by decide +kernel
theorem zd_LassoFinderModel_basic_397 : decode prog_14_method_20_code 397 = .ok (.iconst 1, 1) := by decide +kernel
theorem zd_LassoFinderModel_basic_398 : decode prog_14_method_20_code 398 = .ok (.ireturn, 1) := by decide +kernel
theorem zd_LassoFinderModel_expression_0 : decode prog_14_method_12_code 0 = .ok (.iconst 0, 1) := by decide +kernel
theorem zd_LassoFinderModel_expression_1 : decode prog_14_method_12_code 1 = .ok (.istore_n 2, 1) := by decide +kernel
theorem zd_LassoFinderModel_expression_2 : decode prog_14_method_12_code 2 = .ok (.iload_n 1, 1) := by decide +kernel
theorem zd_LassoFinderModel_expression_3 : decode prog_14_method_12_code 3 = .ok (.istore_n 3, 1) := by decide +kernel
theorem zd_LassoFinderModel_expression_4 : decode prog_14_method_12_code 4 = .ok (.iconst 1, 1) := by decide +kernel
theorem zd_LassoFinderModel_expression_5 : decode prog_14_method_12_code 5 = .ok (.istore 4, 2) := by decide +kernel
theorem zd_LassoFinderModel_expression_7 : decode prog_14_method_12_code 7 = .ok (.aload_n 0, 1) := by decide +kernel
theorem zd_LassoFinderModel_expression_8 : decode prog_14_method_12_code 8 = .ok (.iconst 0, 1) := by decide +kernel
theorem zd_LassoFinderModel_expression_9 : decode prog_14_method_12_code 9 = .ok (.putfield 220, 3) := by decide +kernel
theorem zd_LassoFinderModel_expression_12 : decode prog_14_method_12_code 12 = .ok (.iconst 0, 1) := by decide +kernel
theorem zd_LassoFinderModel_expression_13 : decode prog_14_method_12_code 13 = .ok (.istore 5, 2) := by decide +kernel
theorem zd_LassoFinderModel_expression_15 : decode prog_14_method_12_code 15 = .ok (.iload 5, 2) := by decide +kernel
theorem zd_LassoFinderModel_expression_17 : decode prog_14_method_12_code 17 = .ok (.aload_n 0, 1) := by decide +kernel
theorem zd_LassoFinderModel_expression_18 : decode prog_14_method_12_code 18 = .ok (.getfield 200, 3) := by decide +kernel
theorem zd_LassoFinderModel_expression_21 : decode prog_14_method_12_code 21 = .ok (.if_icmp .gt 423, 3) := by decide +kernel
theorem zd_LassoFinderModel_expression_24 : decode prog_14_method_12_code 24 = .ok (.aload_n 0, 1) := by decide +kernel
theorem zd_LassoFinderModel_expression_25 : decode prog_14_method_12_code 25 = .ok (.invokevirtual 209, 3) := by decide +kernel
theorem zd_LassoFinderModel_expression_28 : decode prog_14_method_12_code 28 = .ok (.istore 6, 2) := by decide +kernel
theorem zd_LassoFinderModel_expression_30 : decode prog_14_method_12_code 30 = .ok (.aload_n 0, 1) := by decide +kernel
theorem zd_LassoFinderModel_expression_31 : decode prog_14_method_12_code 31 = .ok (.bipush 97, 2) := by decide +kernel
theorem zd_LassoFinderModel_expression_33 : decode prog_14_method_12_code 33 = .ok (.bipush 8, 2) := by decide +kernel
theorem zd_LassoFinderModel_expression_35 : decode prog_14_method_12_code 35 = .ok (.invokevirtual 231, 3) := by decide +kernel
theorem zd_LassoFinderModel_expression_38 : decode prog_14_method_12_code 38 = .ok (.istore 7, 2) := by decide +kernel
theorem zd_LassoFinderModel_expression_40 : decode prog_14_method_12_code 40 = .ok (.iload 4, 2) := by decide +kernel
theorem zd_LassoFinderModel_expression_42 : decode prog_14_method_12_code 42 = .ok (.ifCond .eq 57, 3) := by decide +kernel
theorem zd_LassoFinderModel_expression_45 : decode prog_14_method_12_code 45 = .ok (.iload 6, 2) := by decide +kernel
theorem zd_LassoFinderModel_expression_47 : decode prog_14_method_12_code 47 = .ok (.bipush 40, 2) := by decide +kernel
theorem zd_LassoFinderModel_expression_49 : decode prog_14_method_12_code 49 = .ok (.if_icmp .ne 50, 3) := by decide +kernel
theorem zd_LassoFinderModel_expression_52 : decode prog_14_method_12_code 52 = .ok (.iload_n 3, 1) := by decide +kernel
theorem zd_LassoFinderModel_expression_53 : decode prog_14_method_12_code 53 = .ok (.iconst 4, 1) := by decide +kernel
theorem zd_LassoFinderModel_expression_54 : decode prog_14_method_12_code 54 = .ok (.if_icmp .ne 8, 3) := by decide +kernel
theorem zd_LassoFinderModel_expression_57 : decode prog_14_method_12_code 57 = .ok (.aload_n 0, 1) := by decide +kernel
theorem zd_LassoFinderModel_expression_58 : decode prog_14_method_12_code 58 = .ok (.invokevirtual 213, 3) := by decide +kernel
theorem zd_LassoFinderModel_expression_61 : decode prog_14_method_12_code 61 = .ok (.ireturn, 1) := by decide +kernel
theorem zd_LassoFinderModel_expression_62 : decode prog_14_method_12_code 62 = .ok (.iinc 3 1, 3) := by decide +kernel
theorem zd_LassoFinderModel_expression_65 : decode prog_14_method_12_code 65 = .ok (.aload_n 0, 1) := by decide +kernel
theorem zd_LassoFinderModel_expression_66 : decode prog_14_method_12_code 66 = .ok (.getfield 103, 3) := by decide +kernel
theorem zd_LassoFinderModel_expression_69 : decode prog_14_method_12_code 69 = .ok (.aload_n 0, 1) := by decide +kernel
theorem zd_LassoFinderModel_expression_70 : decode prog_14_method_12_code 70 = .ok (.getfield 220, 3) := by decide +kernel
theorem zd_LassoFinderModel_expression_73 : decode prog_14_method_12_code 73 = .ok (.bipush 21, 2) := by decide +kernel
theorem zd_LassoFinderModel_expression_75 : decode prog_14_method_12_code 75 = .ok (.iastore, 1) := by decide +kernel
theorem zd_LassoFinderModel_expression_76 : decode prog_14_method_12_code 76 = .ok (.aload_n 0, 1) := by decide +kernel
theorem zd_LassoFinderModel_expression_77 : decode prog_14_method_12_code 77 = .ok (.dup, 1) := by decide +kernel
theorem zd_LassoFinderModel_expression_78 : decode prog_14_method_12_code 78 = .ok (.getfield 220, 3) := by decide +kernel
theorem zd_LassoFinderModel_expression_81 : decode prog_14_method_12_code 81 = .ok (.iconst 1, 1) := by decide +kernel
theorem zd_LassoFinderModel_expression_82 : decode prog_14_method_12_code 82 = .ok (.iadd, 1) := by decide +kernel
theorem zd_LassoFinderModel_expression_83 : decode prog_14_method_12_code 83 = .ok (.putfield 220, 3) := by decide +kernel
theorem zd_LassoFinderModel_expression_86 : decode prog_14_method_12_code 86 = .ok (.aload_n 0, 1) := by decide +kernel
theorem zd_LassoFinderModel_expression_87 : decode prog_14_method_12_code 87 = .ok (.dup, 1) := by decide +kernel
theorem zd_LassoFinderModel_expression_88 : decode prog_14_method_12_code 88 = .ok (.getfield 203, 3) := by decide +kernel
theorem zd_LassoFinderModel_expression_91 : decode prog_14_method_12_code 91 = .ok (.iconst 1, 1) := by decide +kernel
theorem zd_LassoFinderModel_expression_92 : decode prog_14_method_12_code 92 = .ok (.iadd, 1) := by decide +kernel
theorem zd_LassoFinderModel_expression_93 : decode prog_14_method_12_code 93 = .ok (.putfield 203, 3) := by decide +kernel
theorem zd_LassoFinderModel_expression_96 : decode prog_14_method_12_code 96 = .ok (.goto 342, 3) := by decide +kernel
theorem zd_LassoFinderModel_expression_99 : decode prog_14_method_12_code 99 = .ok (.iload 4, 2) := by decide +kernel
theorem zd_LassoFinderModel_expression_101 : decode prog_14_method_12_code 101 = .ok (.ifCond .eq 106, 3) := by decide +kernel
theorem zd_LassoFinderModel_expression_104 : decode prog_14_method_12_code 104 = .ok (.iload 7, 2) := by decide +kernel
theorem zd_LassoFinderModel_expression_106 : decode prog_14_method_12_code 106 = .ok (.ifCond .lt 27, 3) := by decide +kernel
theorem zd_LassoFinderModel_expression_109 : decode prog_14_method_12_code 109 = .ok (.aload_n 0, 1) := by decide +kernel
theorem zd_LassoFinderModel_expression_110 : decode prog_14_method_12_code 110 = .ok (.getfield 17, 3) := by decide +kernel
theorem zd_LassoFinderModel_expression_113 : decode prog_14_method_12_code 113 = .ok (.iload 7, 2) := by decide +kernel
theorem zd_LassoFinderModel_expression_115 : decode prog_14_method_12_code 115 = .ok (.iaload, 1) := by decide +kernel
theorem zd_LassoFinderModel_expression_116 : decode prog_14_method_12_code 116 = .ok (.ifCond .ge 13, 3) := by decide +kernel
theorem zd_LassoFinderModel_expression_119 : decode prog_14_method_12_code 119 = .ok (.aload_n 0, 1) := by decide +kernel
theorem zd_LassoFinderModel_expression_120 : decode prog_14_method_12_code 120 = .ok (.getfield 20, 3) := by decide +kernel
theorem zd_LassoFinderModel_expression_123 : decode prog_14_method_12_code 123 = .ok (.iload 7, 2) := by decide +kernel
theorem zd_LassoFinderModel_expression_125 : decode prog_14_method_12_code 125 = .ok (.iaload, 1) := by decide +kernel
theorem zd_LassoFinderModel_expression_126 : decode prog_14_method_12_code 126 = .ok (.ifCond .lt 7, 3) := by decide +kernel
theorem zd_LassoFinderModel_expression_129 : decode prog_14_method_12_code 129 = .ok (.iconst 1, 1) := by decide +kernel
theorem zd_LassoFinderModel_expression_130 : decode prog_14_method_12_code 130 = .ok (.goto 4, 3) := by decide +kernel
theorem zd_LassoFinderModel_expression_133 : decode prog_14_method_12_code 133 = .ok (.iconst 0, 1) := by decide +kernel
theorem zd_LassoFinderModel_expression_134 : decode prog_14_method_12_code 134 = .ok (.istore 8, 2) := by decide +kernel
theorem zd_LassoFinderModel_expression_136 : decode prog_14_method_12_code 136 = .ok (.iload 8, 2) := by decide +kernel
theorem zd_LassoFinderModel_expression_138 : decode prog_14_method_12_code 138 = .ok (.ifCond .ne 14, 3) := by decide +kernel
theorem zd_LassoFinderModel_expression_141 : decode prog_14_method_12_code 141 = .ok (.aload_n 0, 1) := by decide +kernel
theorem zd_LassoFinderModel_expression_142 : decode prog_14_method_12_code 142 = .ok (.bipush 48, 2) := by decide +kernel
theorem zd_LassoFinderModel_expression_144 : decode prog_14_method_12_code 144 = .ok (.bipush 8, 2) := by decide +kernel
theorem zd_LassoFinderModel_expression_146 : decode prog_14_method_12_code 146 = .ok (.invokevirtual 231, 3) := by decide +kernel
theorem zd_LassoFinderModel_expression_149 : decode prog_14_method_12_code 149 = .ok (.ifCond .lt 9, 3) := by decide +kernel
theorem zd_LassoFinderModel_expression_152 : decode prog_14_method_12_code 152 = .ok (.iload_n 2, 1) := by decide +kernel
theorem zd_LassoFinderModel_expression_153 : decode prog_14_method_12_code 153 = .ok (.bipush 12, 2) := by decide +kernel
theorem zd_LassoFinderModel_expression_155 : decode prog_14_method_12_code 155 = .ok (.if_icmp .ne 8, 3) := by decide +kernel
theorem zd_LassoFinderModel_expression_158 : decode prog_14_method_12_code 158 = .ok (.aload_n 0, 1) := by decide +kernel
theorem zd_LassoFinderModel_expression_159 : decode prog_14_method_12_code 159 = .ok (.invokevirtual 213, 3) := by decide +kernel
theorem zd_LassoFinderModel_expression_162 : decode prog_14_method_12_code 162 = .ok (.ireturn, 1) := by decide +kernel
theorem zd_LassoFinderModel_expression_163 : decode prog_14_method_12_code 163 = .ok (.iinc 2 1, 3) := by decide +kernel
theorem zd_LassoFinderModel_expression_166 : decode prog_14_method_12_code 166 = .ok (.aload_n 0, 1) := by decide +kernel
theorem zd_LassoFinderModel_expression_167 : decode prog_14_method_12_code 167 = .ok (.iload 8, 2) := by decide +kernel
theorem zd_LassoFinderModel_expression_169 : decode prog_14_method_12_code 169 = .ok (.ifCond .eq 11, 3) := by decide +kernel
theorem zd_LassoFinderModel_expression_172 : decode prog_14_method_12_code 172 = .ok (.bipush 8, 2) := by decide +kernel
theorem zd_LassoFinderModel_expression_174 : decode prog_14_method_12_code 174 = .ok (.iload 7, 2) := by decide +kernel
theorem zd_LassoFinderModel_expression_176 : decode prog_14_method_12_code 176 = .ok (.iadd, 1) := by decide +kernel
theorem zd_LassoFinderModel_expression_177 : decode prog_14_method_12_code 177 = .ok (.goto 11, 3) := by decide +kernel
theorem zd_LassoFinderModel_expression_180 : decode prog_14_method_12_code 180 = .ok (.aload_n 0, 1) := by decide +kernel
theorem zd_LassoFinderModel_expression_181 : decode prog_14_method_12_code 181 = .ok (.bipush 48, 2) := by decide +kernel
theorem zd_LassoFinderModel_expression_183 : decode prog_14_method_12_code 183 = .ok (.bipush 8, 2) := by decide +kernel
theorem zd_LassoFinderModel_expression_185 : decode prog_14_method_12_code 185 = .ok (.invokevirtual 231, 3) := by decide +kernel
theorem zd_LassoFinderModel_expression_188 : decode prog_14_method_12_code 188 = .ok (.invokevirtual 227, 3) := by decide +kernel
theorem zd_LassoFinderModel_expression_191 : decode prog_14_method_12_code 191 = .ok (.aload_n 0, 1) := by decide +kernel
theorem zd_LassoFinderModel_expression_192 : decode prog_14_method_12_code 192 = .ok (.dup, 1) := by decide +kernel
theorem zd_LassoFinderModel_expression_193 : decode prog_14_method_12_code 193 = .ok (.getfield 203, 3) := by decide +kernel
theorem zd_LassoFinderModel_expression_196 : decode prog_14_method_12_code 196 = .ok (.iconst 1, 1) := by decide +kernel
theorem zd_LassoFinderModel_expression_197 : decode prog_14_method_12_code 197 = .ok (.iadd, 1) := by decide +kernel
theorem zd_LassoFinderModel_expression_198 : decode prog_14_method_12_code 198 = .ok (.putfield 203, 3) := by decide +kernel
theorem zd_LassoFinderModel_expression_201 : decode prog_14_method_12_code 201 = .ok (.iconst 0, 1) := by decide +kernel
theorem zd_LassoFinderModel_expression_202 : decode prog_14_method_12_code 202 = .ok (.istore 4, 2) := by decide +kernel
theorem zd_LassoFinderModel_expression_204 : decode prog_14_method_12_code 204 = .ok (.goto 234, 3) := by decide +kernel
theorem zd_LassoFinderModel_expression_207 : decode prog_14_method_12_code 207 = .ok (.iload 6, 2) := by decide +kernel
theorem zd_LassoFinderModel_expression_209 : decode prog_14_method_12_code 209 = .ok (.bipush 41, 2) := by decide +kernel
theorem zd_LassoFinderModel_expression_211 : decode prog_14_method_12_code 211 = .ok (.if_icmp .ne 39, 3) := by decide +kernel
theorem zd_LassoFinderModel_expression_214 : decode prog_14_method_12_code 214 = .ok (.iload_n 3, 1) := by decide +kernel
theorem zd_LassoFinderModel_expression_215 : decode prog_14_method_12_code 215 = .ok (.iload_n 1, 1) := by decide +kernel
theorem zd_LassoFinderModel_expression_216 : decode prog_14_method_12_code 216 = .ok (.if_icmp .le 34, 3) := by decide +kernel
theorem zd_LassoFinderModel_expression_219 : decode prog_14_method_12_code 219 = .ok (.aload_n 0, 1) := by decide +kernel
theorem zd_LassoFinderModel_expression_220 : decode prog_14_method_12_code 220 = .ok (.iconst 1, 1) := by decide +kernel
theorem zd_LassoFinderModel_expression_221 : decode prog_14_method_12_code 221 = .ok (.invokevirtual 235, 3) := by decide +kernel
theorem zd_LassoFinderModel_expression_224 : decode prog_14_method_12_code 224 = .ok (.aload_n 0, 1) := by decide +kernel
theorem zd_LassoFinderModel_expression_225 : decode prog_14_method_12_code 225 = .ok (.dup, 1) := by decide +kernel
theorem zd_LassoFinderModel_expression_226 : decode prog_14_method_12_code 226 = .ok (.getfield 220, 3) := by decide +kernel
theorem zd_LassoFinderModel_expression_229 : decode prog_14_method_12_code 229 = .ok (.iconst 1, 1) := by decide +kernel
theorem zd_LassoFinderModel_expression_230 : decode prog_14_method_12_code 230 = .ok (.isub, 1) := by decide +kernel
theorem zd_LassoFinderModel_expression_231 : decode prog_14_method_12_code 231 = .ok (.putfield 220, 3) := by decide +kernel
theorem zd_LassoFinderModel_expression_234 : decode prog_14_method_12_code 234 = .ok (.iinc 3 (-1), 3) := by decide +kernel
theorem zd_LassoFinderModel_expression_237 : decode prog_14_method_12_code 237 = .ok (.aload_n 0, 1) := by decide +kernel
theorem zd_LassoFinderModel_expression_238 : decode prog_14_method_12_code 238 = .ok (.dup, 1) := by decide +kernel
theorem zd_LassoFinderModel_expression_239 : decode prog_14_method_12_code 239 = .ok (.getfield 203, 3) := by decide +kernel
theorem zd_LassoFinderModel_expression_242 : decode prog_14_method_12_code 242 = .ok (.iconst 1, 1) := by decide +kernel
theorem zd_LassoFinderModel_expression_243 : decode prog_14_method_12_code 243 = .ok (.iadd, 1) := by decide +kernel
theorem zd_LassoFinderModel_expression_244 : decode prog_14_method_12_code 244 = .ok (.putfield 203, 3) := by decide +kernel
theorem zd_LassoFinderModel_expression_247 : decode prog_14_method_12_code 247 = .ok (.goto 191, 3) := by decide +kernel
theorem zd_LassoFinderModel_expression_250 : decode prog_14_method_12_code 250 = .ok (.iload 6, 2) := by decide +kernel
theorem zd_LassoFinderModel_expression_252 : decode prog_14_method_12_code 252 = .ok (.bipush 43, 2) := by decide +kernel
theorem zd_LassoFinderModel_expression_254 : decode prog_14_method_12_code 254 = .ok (.if_icmp .ne 8, 3) := by decide +kernel
theorem zd_LassoFinderModel_expression_257 : decode prog_14_method_12_code 257 = .ok (.bipush 16, 2) := by decide +kernel
theorem zd_LassoFinderModel_expression_259 : decode prog_14_method_12_code 259 = .ok (.goto 52, 3) := by decide +kernel
theorem zd_LassoFinderModel_expression_262 : decode prog_14_method_12_code 262 = .ok (.iload 6, 2) := by decide +kernel
theorem zd_LassoFinderModel_expression_264 : decode prog_14_method_12_code 264 = .ok (.bipush 45, 2) := by decide +kernel
theorem zd_LassoFinderModel_expression_266 : decode prog_14_method_12_code 266 = .ok (.if_icmp .ne 8, 3) := by decide +kernel
theorem zd_LassoFinderModel_expression_269 : decode prog_14_method_12_code 269 = .ok (.bipush 17, 2) := by decide +kernel
theorem zd_LassoFinderModel_expression_271 : decode prog_14_method_12_code 271 = .ok (.goto 40, 3) := by decide +kernel
theorem zd_LassoFinderModel_expression_274 : decode prog_14_method_12_code 274 = .ok (.iload 6, 2) := by decide +kernel
theorem zd_LassoFinderModel_expression_276 : decode prog_14_method_12_code 276 = .ok (.bipush 42, 2) := by decide +kernel
theorem zd_LassoFinderModel_expression_278 : decode prog_14_method_12_code 278 = .ok (.if_icmp .ne 8, 3) := by decide +kernel
theorem zd_LassoFinderModel_expression_281 : decode prog_14_method_12_code 281 = .ok (.bipush 18, 2) := by decide +kernel
theorem zd_LassoFinderModel_expression_283 : decode prog_14_method_12_code 283 = .ok (.goto 28, 3) := by decide +kernel
theorem zd_LassoFinderModel_expression_286 : decode prog_14_method_12_code 286 = .ok (.iload 6, 2) := by decide +kernel
theorem zd_LassoFinderModel_expression_288 : decode prog_14_method_12_code 288 = .ok (.bipush 61, 2) := by decide +kernel
theorem zd_LassoFinderModel_expression_290 : decode prog_14_method_12_code 290 = .ok (.if_icmp .ne 8, 3) := by decide +kernel
theorem zd_LassoFinderModel_expression_293 : decode prog_14_method_12_code 293 = .ok (.bipush 19, 2) := by decide +kernel
theorem zd_LassoFinderModel_expression_295 : decode prog_14_method_12_code 295 = .ok (.goto 16, 3) := by decide +kernel
theorem zd_LassoFinderModel_expression_298 : decode prog_14_method_12_code 298 = .ok (.iload 6, 2) := by decide +kernel
theorem zd_LassoFinderModel_expression_300 : decode prog_14_method_12_code 300 = .ok (.bipush 60, 2) := by decide +kernel
theorem zd_LassoFinderModel_expression_302 : decode prog_14_method_12_code 302 = .ok (.if_icmp .ne 8, 3) := by decide +kernel
theorem zd_LassoFinderModel_expression_305 : decode prog_14_method_12_code 305 = .ok (.bipush 20, 2) := by decide +kernel
theorem zd_LassoFinderModel_expression_307 : decode prog_14_method_12_code 307 = .ok (.goto 4, 3) := by decide +kernel
theorem zd_LassoFinderModel_expression_310 : decode prog_14_method_12_code 310 = .ok (.iconst (-1), 1) := by decide +kernel
theorem zd_LassoFinderModel_expression_311 : decode prog_14_method_12_code 311 = .ok (.istore 8, 2) := by decide +kernel
theorem zd_LassoFinderModel_expression_313 : decode prog_14_method_12_code 313 = .ok (.iload 8, 2) := by decide +kernel
theorem zd_LassoFinderModel_expression_315 : decode prog_14_method_12_code 315 = .ok (.ifCond .ge 28, 3) := by decide +kernel
theorem zd_LassoFinderModel_expression_318 : decode prog_14_method_12_code 318 = .ok (.aload_n 0, 1) := by decide +kernel
theorem zd_LassoFinderModel_expression_319 : decode prog_14_method_12_code 319 = .ok (.iconst 1, 1) := by decide +kernel
theorem zd_LassoFinderModel_expression_320 : decode prog_14_method_12_code 320 = .ok (.invokevirtual 235, 3) := by decide +kernel
theorem zd_LassoFinderModel_expression_323 : decode prog_14_method_12_code 323 = .ok (.aload_n 0, 1) := by decide +kernel
theorem zd_LassoFinderModel_expression_324 : decode prog_14_method_12_code 324 = .ok (.getfield 220, 3) := by decide +kernel
theorem zd_LassoFinderModel_expression_327 : decode prog_14_method_12_code 327 = .ok (.ifCond .eq 10, 3) := by decide +kernel
theorem zd_LassoFinderModel_expression_330 : decode prog_14_method_12_code 330 = .ok (.aload_n 0, 1) := by decide +kernel
theorem zd_LassoFinderModel_expression_331 : decode prog_14_method_12_code 331 = .ok (.invokevirtual 213, 3) := by decide +kernel
theorem zd_LassoFinderModel_expression_334 : decode prog_14_method_12_code 334 = .ok (.ifCond .eq 7, 3) := by decide +kernel
theorem zd_LassoFinderModel_expression_337 : decode prog_14_method_12_code 337 = .ok (.iconst 1, 1) := by decide +kernel
theorem zd_LassoFinderModel_expression_338 : decode prog_14_method_12_code 338 = .ok (.goto 4, 3) := by decide +kernel
theorem zd_LassoFinderModel_expression_341 : decode prog_14_method_12_code 341 = .ok (.iconst 0, 1) := by decide +kernel
theorem zd_LassoFinderModel_expression_342 : decode prog_14_method_12_code 342 = .ok (.ireturn, 1) := by decide +kernel
theorem zd_LassoFinderModel_expression_343 : decode prog_14_method_12_code 343 = .ok (.aload_n 0, 1) := by decide +kernel
theorem zd_LassoFinderModel_expression_344 : decode prog_14_method_12_code 344 = .ok (.iload 8, 2) := by decide +kernel
theorem zd_LassoFinderModel_expression_346 : decode prog_14_method_12_code 346 = .ok (.invokestatic 223, 3) := by decide +kernel
theorem zd_LassoFinderModel_expression_349 : decode prog_14_method_12_code 349 = .ok (.iconst 2, 1) := by decide +kernel
theorem zd_LassoFinderModel_expression_350 : decode prog_14_method_12_code 350 = .ok (.if_icmp .ge 7, 3) := by decide +kernel
theorem zd_LassoFinderModel_expression_353 : decode prog_14_method_12_code 353 = .ok (.iconst 2, 1) := by decide +kernel
theorem zd_LassoFinderModel_expression_354 : decode prog_14_method_12_code 354 = .ok (.goto 8, 3) := by decide +kernel
theorem zd_LassoFinderModel_expression_357 : decode prog_14_method_12_code 357 = .ok (.iload 8, 2) := by decide +kernel
theorem zd_LassoFinderModel_expression_359 : decode prog_14_method_12_code 359 = .ok (.invokestatic 223, 3) := by decide +kernel
theorem zd_LassoFinderModel_expression_362 : decode prog_14_method_12_code 362 = .ok (.invokevirtual 235, 3) := by decide +kernel
theorem zd_LassoFinderModel_expression_365 : decode prog_14_method_12_code 365 = .ok (.iload 8, 2) := by decide +kernel
theorem zd_LassoFinderModel_expression_367 : decode prog_14_method_12_code 367 = .ok (.invokestatic 223, 3) := by decide +kernel
theorem zd_LassoFinderModel_expression_370 : decode prog_14_method_12_code 370 = .ok (.iconst 1, 1) := by decide +kernel
theorem zd_LassoFinderModel_expression_371 : decode prog_14_method_12_code 371 = .ok (.if_icmp .ne 33, 3) := by decide +kernel
theorem zd_LassoFinderModel_expression_374 : decode prog_14_method_12_code 374 = .ok (.aload_n 0, 1) := by decide +kernel
theorem zd_LassoFinderModel_expression_375 : decode prog_14_method_12_code 375 = .ok (.getfield 220, 3) := by decide +kernel
theorem zd_LassoFinderModel_expression_378 : decode prog_14_method_12_code 378 = .ok (.ifCond .le 26, 3) := by decide +kernel
theorem zd_LassoFinderModel_expression_381 : decode prog_14_method_12_code 381 = .ok (.aload_n 0, 1) := by decide +kernel
theorem zd_LassoFinderModel_expression_382 : decode prog_14_method_12_code 382 = .ok (.getfield 103, 3) := by decide +kernel
theorem zd_LassoFinderModel_expression_385 : decode prog_14_method_12_code 385 = .ok (.aload_n 0, 1) := by decide +kernel
theorem zd_LassoFinderModel_expression_386 : decode prog_14_method_12_code 386 = .ok (.getfield 220, 3) := by decide +kernel
theorem zd_LassoFinderModel_expression_389 : decode prog_14_method_12_code 389 = .ok (.iconst 1, 1) := by decide +kernel
theorem zd_LassoFinderModel_expression_390 : decode prog_14_method_12_code 390 = .ok (.isub, 1) := by decide +kernel
theorem zd_LassoFinderModel_expression_391 : decode prog_14_method_12_code 391 = .ok (.iaload, 1) := by decide +kernel
theorem zd_LassoFinderModel_expression_392 : decode prog_14_method_12_code 392 = .ok (.invokestatic 223, 3) := by decide +kernel
theorem zd_LassoFinderModel_expression_395 : decode prog_14_method_12_code 395 = .ok (.iconst 1, 1) := by decide +kernel
theorem zd_LassoFinderModel_expression_396 : decode prog_14_method_12_code 396 = .ok (.if_icmp .ne 8, 3) := by decide +kernel
theorem zd_LassoFinderModel_expression_399 : decode prog_14_method_12_code 399 = .ok (.aload_n 0, 1) := by decide +kernel
theorem zd_LassoFinderModel_expression_400 : decode prog_14_method_12_code 400 = .ok (.invokevirtual 213, 3) := by decide +kernel
theorem zd_LassoFinderModel_expression_403 : decode prog_14_method_12_code 403 = .ok (.ireturn, 1) := by decide +kernel
theorem zd_LassoFinderModel_expression_404 : decode prog_14_method_12_code 404 = .ok (.aload_n 0, 1) := by decide +kernel
theorem zd_LassoFinderModel_expression_405 : decode prog_14_method_12_code 405 = .ok (.getfield 103, 3) := by decide +kernel
theorem zd_LassoFinderModel_expression_408 : decode prog_14_method_12_code 408 = .ok (.aload_n 0, 1) := by decide +kernel
theorem zd_LassoFinderModel_expression_409 : decode prog_14_method_12_code 409 = .ok (.getfield 220, 3) := by decide +kernel
theorem zd_LassoFinderModel_expression_412 : decode prog_14_method_12_code 412 = .ok (.iload 8, 2) := by decide +kernel
theorem zd_LassoFinderModel_expression_414 : decode prog_14_method_12_code 414 = .ok (.iastore, 1) := by decide +kernel
theorem zd_LassoFinderModel_expression_415 : decode prog_14_method_12_code 415 = .ok (.aload_n 0, 1) := by decide +kernel
theorem zd_LassoFinderModel_expression_416 : decode prog_14_method_12_code 416 = .ok (.dup, 1) := by decide +kernel
theorem zd_LassoFinderModel_expression_417 : decode prog_14_method_12_code 417 = .ok (.getfield 220, 3) := by decide +kernel
theorem zd_LassoFinderModel_expression_420 : decode prog_14_method_12_code 420 = .ok (.iconst 1, 1) := by decide +kernel
theorem zd_LassoFinderModel_expression_421 : decode prog_14_method_12_code 421 = .ok (.iadd, 1) := by decide +kernel
theorem zd_LassoFinderModel_expression_422 : decode prog_14_method_12_code 422 = .ok (.putfield 220, 3) := by decide +kernel
theorem zd_LassoFinderModel_expression_425 : decode prog_14_method_12_code 425 = .ok (.aload_n 0, 1) := by decide +kernel
theorem zd_LassoFinderModel_expression_426 : decode prog_14_method_12_code 426 = .ok (.dup, 1) := by decide +kernel
theorem zd_LassoFinderModel_expression_427 : decode prog_14_method_12_code 427 = .ok (.getfield 203, 3) := by decide +kernel
theorem zd_LassoFinderModel_expression_430 : decode prog_14_method_12_code 430 = .ok (.iconst 1, 1) := by decide +kernel
theorem zd_LassoFinderModel_expression_431 : decode prog_14_method_12_code 431 = .ok (.iadd, 1) := by decide +kernel
theorem zd_LassoFinderModel_expression_432 : decode prog_14_method_12_code 432 = .ok (.putfield 203, 3) := by decide +kernel
theorem zd_LassoFinderModel_expression_435 : decode prog_14_method_12_code 435 = .ok (.iconst 1, 1) := by decide +kernel
theorem zd_LassoFinderModel_expression_436 : decode prog_14_method_12_code 436 = .ok (.istore 4, 2) := by decide +kernel
theorem zd_LassoFinderModel_expression_438 : decode prog_14_method_12_code 438 = .ok (.iinc 5 1, 3) := by decide +kernel
theorem zd_LassoFinderModel_expression_441 : decode prog_14_method_12_code 441 = .ok (.goto (-426), 3) := by decide +kernel
theorem zd_LassoFinderModel_expression_444 : decode prog_14_method_12_code 444 = .ok (.aload_n 0, 1) := by decide +kernel
theorem zd_LassoFinderModel_expression_445 : decode prog_14_method_12_code 445 = .ok (.invokevirtual 213, 3) := by decide +kernel
theorem zd_LassoFinderModel_expression_448 : decode prog_14_method_12_code 448 = .ok (.ireturn, 1) := by decide +kernel
theorem zd_LassoFinderModel_takes_0 : decode prog_14_method_7_code 0 = .ok (.aload_n 0, 1) := by decide +kernel
theorem zd_LassoFinderModel_takes_1 : decode prog_14_method_7_code 1 = .ok (.invokevirtual 209, 3) := by decide +kernel
theorem zd_LassoFinderModel_takes_4 : decode prog_14_method_7_code 4 = .ok (.iload_n 1, 1) := by decide +kernel
theorem zd_LassoFinderModel_takes_5 : decode prog_14_method_7_code 5 = .ok (.if_icmp .eq 8, 3) := by decide +kernel
theorem zd_LassoFinderModel_takes_8 : decode prog_14_method_7_code 8 = .ok (.aload_n 0, 1) := by decide +kernel
theorem zd_LassoFinderModel_takes_9 : decode prog_14_method_7_code 9 = .ok (.invokevirtual 213, 3) := by decide +kernel
theorem zd_LassoFinderModel_takes_12 : decode prog_14_method_7_code 12 = .ok (.ireturn, 1) := by decide +kernel
theorem zd_LassoFinderModel_takes_13 : decode prog_14_method_7_code 13 = .ok (.aload_n 0, 1) := by decide +kernel
theorem zd_LassoFinderModel_takes_14 : decode prog_14_method_7_code 14 = .ok (.dup, 1) := by decide +kernel
theorem zd_LassoFinderModel_takes_15 : decode prog_14_method_7_code 15 = .ok (.getfield 203, 3) := by decide +kernel
theorem zd_LassoFinderModel_takes_18 : decode prog_14_method_7_code 18 = .ok (.iconst 1, 1) := by decide +kernel
theorem zd_LassoFinderModel_takes_19 : decode prog_14_method_7_code 19 = .ok (.iadd, 1) := by decide +kernel
theorem zd_LassoFinderModel_takes_20 : decode prog_14_method_7_code 20 = .ok (.putfield 203, 3) := by decide +kernel
theorem zd_LassoFinderModel_takes_23 : decode prog_14_method_7_code 23 = .ok (.iconst 1, 1) := by decide +kernel
theorem zd_LassoFinderModel_takes_24 : decode prog_14_method_7_code 24 = .ok (.ireturn, 1) := by decide +kernel
def wc_LassoFinderModel_expression_342 (a0 : Int32) (Post : Int32 → (Nat → Int32) → (Nat → Int64) → (Nat → Nat → Int32) → (Nat → Nat → Int64) → Prop) (y0 : Int32) (I : Nat → Int32) (J : Nat → Int64) (B : Nat → Nat → Int32) (D : Nat → Nat → Int64) : Prop :=
  (y0 = 0 ∨ y0 = 1) ∧ Post y0 I J B D
def wc_LassoFinderModel_expression_337 (a0 : Int32) (Post : Int32 → (Nat → Int32) → (Nat → Int64) → (Nat → Nat → Int32) → (Nat → Nat → Int64) → Prop)  (I : Nat → Int32) (J : Nat → Int64) (B : Nat → Nat → Int32) (D : Nat → Nat → Int64) : Prop :=
  wc_LassoFinderModel_expression_342 a0 Post 1 I J B D
def wc_LassoFinderModel_expression_158 (a0 : Int32) (Post : Int32 → (Nat → Int32) → (Nat → Int64) → (Nat → Nat → Int32) → (Nat → Nat → Int64) → Prop)  (I : Nat → Int32) (J : Nat → Int64) (B : Nat → Nat → Int32) (D : Nat → Nat → Int64) : Prop :=
  wp_LassoFinderModel_fail I J B D  (fun r1 I1 J1 B1 D1 => (r1 = 0 ∨ r1 = 1) ∧ Post r1 I1 J1 B1 D1)
def wc_LassoFinderModel_expression_438 (a0 : Int32) (K15 : Int32 → Int32 → Int32 → Int32 → Int32 → (Nat → Int32) → (Nat → Int64) → (Nat → Nat → Int32) → (Nat → Nat → Int64) → Prop) (Post : Int32 → (Nat → Int32) → (Nat → Int64) → (Nat → Nat → Int32) → (Nat → Nat → Int64) → Prop) (x1 : Int32) (x2 : Int32) (x3 : Int32) (x4 : Int32) (x5 : Int32) (I : Nat → Int32) (J : Nat → Int64) (B : Nat → Nat → Int32) (D : Nat → Nat → Int64) : Prop :=
  ∀ z2 : Int32, z2 = (x5 + 1) → K15 x1 x2 x3 x4 z2 I J B D
def wc_LassoFinderModel_expression_404 (a0 : Int32) (K15 : Int32 → Int32 → Int32 → Int32 → Int32 → (Nat → Int32) → (Nat → Int64) → (Nat → Nat → Int32) → (Nat → Nat → Int64) → Prop) (Post : Int32 → (Nat → Int32) → (Nat → Int64) → (Nat → Nat → Int32) → (Nat → Nat → Int64) → Prop) (x1 : Int32) (x2 : Int32) (x3 : Int32) (x5 : Int32) (x8 : Int32) (I : Nat → Int32) (J : Nat → Int64) (B : Nat → Nat → Int32) (D : Nat → Nat → Int64) : Prop :=
  vp_in (I 13) 240 ∧ ∀ z3 : Int32, z3 = ((I 13) + 1) → ∀ z4 : Int32, z4 = ((I 2) + 1) → wc_LassoFinderModel_expression_438 a0 K15 Post x1 x2 x3 1 x5 (upd (upd I 13 z3) 2 z4) J (va_up B 28 (upd (B 28) (I 13).toNatClampNeg x8)) D
def wc_LassoFinderModel_expression_362 (a0 : Int32) (K15 : Int32 → Int32 → Int32 → Int32 → Int32 → (Nat → Int32) → (Nat → Int64) → (Nat → Nat → Int32) → (Nat → Nat → Int64) → Prop) (Post : Int32 → (Nat → Int32) → (Nat → Int64) → (Nat → Nat → Int32) → (Nat → Nat → Int64) → Prop) (x1 : Int32) (x2 : Int32) (x3 : Int32) (x5 : Int32) (x8 : Int32) (y0 : Int32) (I : Nat → Int32) (J : Nat → Int64) (B : Nat → Nat → Int32) (D : Nat → Nat → Int64) : Prop :=
  wp_LassoFinderModel_settle I J B D y0 (fun I5 J5 B5 D5 => wp_LassoFinderModel_strength I5 J5 B5 D5 x8 (fun r6 I6 J6 B6 D6 => ((¬ r6 = 1 → wc_LassoFinderModel_expression_404 a0 K15 Post x1 x2 x3 x5 x8 I6 J6 B6 D6) ∧ (r6 = 1 → (((I6 13) ≤ 0 → wc_LassoFinderModel_expression_404 a0 K15 Post x1 x2 x3 x5 x8 I6 J6 B6 D6) ∧ (¬ (I6 13) ≤ 0 → ∀ z9 : Int32, z9 = ((I6 13) - 1) → vp_in z9 240 ∧ ∀ z10 : Int32, z10 = ((B6 28) z9.toNatClampNeg) → wp_LassoFinderModel_strength I6 J6 B6 D6 z10 (fun r11 I11 J11 B11 D11 => ((¬ r11 = 1 → wc_LassoFinderModel_expression_404 a0 K15 Post x1 x2 x3 x5 x8 I11 J11 B11 D11) ∧ (r11 = 1 → wp_LassoFinderModel_fail I11 J11 B11 D11  (fun r13 I13 J13 B13 D13 => (r13 = 0 ∨ r13 = 1) ∧ Post r13 I13 J13 B13 D13))))))))))
def wc_LassoFinderModel_expression_311 (a0 : Int32) (K15 : Int32 → Int32 → Int32 → Int32 → Int32 → (Nat → Int32) → (Nat → Int64) → (Nat → Nat → Int32) → (Nat → Nat → Int64) → Prop) (Post : Int32 → (Nat → Int32) → (Nat → Int64) → (Nat → Nat → Int32) → (Nat → Nat → Int64) → Prop) (x1 : Int32) (x2 : Int32) (x3 : Int32) (x5 : Int32) (y0 : Int32) (I : Nat → Int32) (J : Nat → Int64) (B : Nat → Nat → Int32) (D : Nat → Nat → Int64) : Prop :=
  (((0 : Int32) ≤ y0 → wp_LassoFinderModel_strength I J B D y0 (fun r15 I15 J15 B15 D15 => (((2 : Int32) ≤ r15 → wp_LassoFinderModel_strength I15 J15 B15 D15 y0 (fun r17 I17 J17 B17 D17 => wc_LassoFinderModel_expression_362 a0 K15 Post x1 x2 x3 x5 y0 r17 I17 J17 B17 D17)) ∧ (¬ (2 : Int32) ≤ r15 → wc_LassoFinderModel_expression_362 a0 K15 Post x1 x2 x3 x5 y0 2 I15 J15 B15 D15)))) ∧ (¬ (0 : Int32) ≤ y0 → wp_LassoFinderModel_settle I J B D 1 (fun I18 J18 B18 D18 => (((I18 13) = 0 → wc_LassoFinderModel_expression_337 a0 Post I18 J18 B18 D18) ∧ (¬ (I18 13) = 0 → wp_LassoFinderModel_fail I18 J18 B18 D18  (fun r20 I20 J20 B20 D20 => ((r20 = 0 → wc_LassoFinderModel_expression_342 a0 Post 0 I20 J20 B20 D20) ∧ (¬ r20 = 0 → wc_LassoFinderModel_expression_337 a0 Post I20 J20 B20 D20))))))))
def wc_LassoFinderModel_expression_250 (a0 : Int32) (K15 : Int32 → Int32 → Int32 → Int32 → Int32 → (Nat → Int32) → (Nat → Int64) → (Nat → Nat → Int32) → (Nat → Nat → Int64) → Prop) (Post : Int32 → (Nat → Int32) → (Nat → Int64) → (Nat → Nat → Int32) → (Nat → Nat → Int64) → Prop) (x1 : Int32) (x2 : Int32) (x3 : Int32) (x5 : Int32) (x6 : Int32) (I : Nat → Int32) (J : Nat → Int64) (B : Nat → Nat → Int32) (D : Nat → Nat → Int64) : Prop :=
  ((¬ x6 = 43 → ((¬ x6 = 45 → ((¬ x6 = 42 → ((¬ x6 = 61 → ((¬ x6 = 60 → wc_LassoFinderModel_expression_311 a0 K15 Post x1 x2 x3 x5 (-1) I J B D) ∧ (x6 = 60 → wc_LassoFinderModel_expression_311 a0 K15 Post x1 x2 x3 x5 20 I J B D))) ∧ (x6 = 61 → wc_LassoFinderModel_expression_311 a0 K15 Post x1 x2 x3 x5 19 I J B D))) ∧ (x6 = 42 → wc_LassoFinderModel_expression_311 a0 K15 Post x1 x2 x3 x5 18 I J B D))) ∧ (x6 = 45 → wc_LassoFinderModel_expression_311 a0 K15 Post x1 x2 x3 x5 17 I J B D))) ∧ (x6 = 43 → wc_LassoFinderModel_expression_311 a0 K15 Post x1 x2 x3 x5 16 I J B D))
def wc_LassoFinderModel_expression_188 (a0 : Int32) (K15 : Int32 → Int32 → Int32 → Int32 → Int32 → (Nat → Int32) → (Nat → Int64) → (Nat → Nat → Int32) → (Nat → Nat → Int64) → Prop) (Post : Int32 → (Nat → Int32) → (Nat → Int64) → (Nat → Nat → Int32) → (Nat → Nat → Int64) → Prop) (x1 : Int32) (x2 : Int32) (x3 : Int32) (x5 : Int32) (y0 : Int32) (I : Nat → Int32) (J : Nat → Int64) (B : Nat → Nat → Int32) (D : Nat → Nat → Int64) : Prop :=
  wp_LassoFinderModel_emit I J B D y0 (fun I27 J27 B27 D27 => ∀ z28 : Int32, z28 = ((I27 2) + 1) → wc_LassoFinderModel_expression_438 a0 K15 Post x1 x2 x3 0 x5 (upd I27 2 z28) J27 B27 D27)
def wc_LassoFinderModel_expression_152 (a0 : Int32) (K15 : Int32 → Int32 → Int32 → Int32 → Int32 → (Nat → Int32) → (Nat → Int64) → (Nat → Nat → Int32) → (Nat → Nat → Int64) → Prop) (Post : Int32 → (Nat → Int32) → (Nat → Int64) → (Nat → Nat → Int32) → (Nat → Nat → Int64) → Prop) (x1 : Int32) (x2 : Int32) (x3 : Int32) (x5 : Int32) (x7 : Int32) (x8 : Int32) (I : Nat → Int32) (J : Nat → Int64) (B : Nat → Nat → Int32) (D : Nat → Nat → Int64) : Prop :=
  ((¬ x2 = 12 → ∀ z30 : Int32, z30 = (x2 + 1) → ((x8 = 0 → wp_LassoFinderModel_from I J B D 48 8 (fun r32 I32 J32 B32 D32 => wc_LassoFinderModel_expression_188 a0 K15 Post x1 z30 x3 x5 r32 I32 J32 B32 D32)) ∧ (¬ x8 = 0 → ∀ z33 : Int32, z33 = (8 + x7) → wc_LassoFinderModel_expression_188 a0 K15 Post x1 z30 x3 x5 z33 I J B D))) ∧ (x2 = 12 → wc_LassoFinderModel_expression_158 a0 Post I J B D))
def wc_LassoFinderModel_expression_134 (a0 : Int32) (K15 : Int32 → Int32 → Int32 → Int32 → Int32 → (Nat → Int32) → (Nat → Int64) → (Nat → Nat → Int32) → (Nat → Nat → Int64) → Prop) (Post : Int32 → (Nat → Int32) → (Nat → Int64) → (Nat → Nat → Int32) → (Nat → Nat → Int64) → Prop) (x1 : Int32) (x2 : Int32) (x3 : Int32) (x5 : Int32) (x7 : Int32) (y0 : Int32) (I : Nat → Int32) (J : Nat → Int64) (B : Nat → Nat → Int32) (D : Nat → Nat → Int64) : Prop :=
  ((¬ y0 = 0 → wc_LassoFinderModel_expression_152 a0 K15 Post x1 x2 x3 x5 x7 y0 I J B D) ∧ (y0 = 0 → wp_LassoFinderModel_from I J B D 48 8 (fun r35 I35 J35 B35 D35 => ((r35 < 0 → wc_LassoFinderModel_expression_158 a0 Post I35 J35 B35 D35) ∧ (¬ r35 < 0 → wc_LassoFinderModel_expression_152 a0 K15 Post x1 x2 x3 x5 x7 y0 I35 J35 B35 D35)))))
def wc_LassoFinderModel_expression_133 (a0 : Int32) (K15 : Int32 → Int32 → Int32 → Int32 → Int32 → (Nat → Int32) → (Nat → Int64) → (Nat → Nat → Int32) → (Nat → Nat → Int64) → Prop) (Post : Int32 → (Nat → Int32) → (Nat → Int64) → (Nat → Nat → Int32) → (Nat → Nat → Int64) → Prop) (x1 : Int32) (x2 : Int32) (x3 : Int32) (x5 : Int32) (x7 : Int32) (I : Nat → Int32) (J : Nat → Int64) (B : Nat → Nat → Int32) (D : Nat → Nat → Int64) : Prop :=
  wc_LassoFinderModel_expression_134 a0 K15 Post x1 x2 x3 x5 x7 0 I J B D
def wc_LassoFinderModel_expression_129 (a0 : Int32) (K15 : Int32 → Int32 → Int32 → Int32 → Int32 → (Nat → Int32) → (Nat → Int64) → (Nat → Nat → Int32) → (Nat → Nat → Int64) → Prop) (Post : Int32 → (Nat → Int32) → (Nat → Int64) → (Nat → Nat → Int32) → (Nat → Nat → Int64) → Prop) (x1 : Int32) (x2 : Int32) (x3 : Int32) (x5 : Int32) (x7 : Int32) (I : Nat → Int32) (J : Nat → Int64) (B : Nat → Nat → Int32) (D : Nat → Nat → Int64) : Prop :=
  wc_LassoFinderModel_expression_134 a0 K15 Post x1 x2 x3 x5 x7 1 I J B D
def wc_LassoFinderModel_expression_99 (a0 : Int32) (K15 : Int32 → Int32 → Int32 → Int32 → Int32 → (Nat → Int32) → (Nat → Int64) → (Nat → Nat → Int32) → (Nat → Nat → Int64) → Prop) (Post : Int32 → (Nat → Int32) → (Nat → Int64) → (Nat → Nat → Int32) → (Nat → Nat → Int64) → Prop) (x1 : Int32) (x2 : Int32) (x3 : Int32) (x4 : Int32) (x5 : Int32) (x6 : Int32) (x7 : Int32) (I : Nat → Int32) (J : Nat → Int64) (B : Nat → Nat → Int32) (D : Nat → Nat → Int64) : Prop :=
  ((x4 = 0 → ((¬ x6 = 41 → wc_LassoFinderModel_expression_250 a0 K15 Post x1 x2 x3 x5 x6 I J B D) ∧ (x6 = 41 → ((x3 ≤ x1 → wc_LassoFinderModel_expression_250 a0 K15 Post x1 x2 x3 x5 x6 I J B D) ∧ (¬ x3 ≤ x1 → wp_LassoFinderModel_settle I J B D 1 (fun I40 J40 B40 D40 => ∀ z41 : Int32, z41 = ((I40 13) - 1) → ∀ z42 : Int32, z42 = (x3 + (-1)) → ∀ z43 : Int32, z43 = ((I40 2) + 1) → wc_LassoFinderModel_expression_438 a0 K15 Post x1 x2 z42 x4 x5 (upd (upd I40 13 z41) 2 z43) J40 B40 D40)))))) ∧ (¬ x4 = 0 → ((x7 < 0 → wc_LassoFinderModel_expression_133 a0 K15 Post x1 x2 x3 x5 x7 I J B D) ∧ (¬ x7 < 0 → vp_in x7 8 ∧ ∀ z45 : Int32, z45 = ((B 1) x7.toNatClampNeg) → (((0 : Int32) ≤ z45 → wc_LassoFinderModel_expression_129 a0 K15 Post x1 x2 x3 x5 x7 I J B D) ∧ (¬ (0 : Int32) ≤ z45 → vp_in x7 8 ∧ ∀ z47 : Int32, z47 = ((B 2) x7.toNatClampNeg) → ((z47 < 0 → wc_LassoFinderModel_expression_133 a0 K15 Post x1 x2 x3 x5 x7 I J B D) ∧ (¬ z47 < 0 → wc_LassoFinderModel_expression_129 a0 K15 Post x1 x2 x3 x5 x7 I J B D))))))))
def wb_LassoFinderModel_expression_15 (a0 : Int32) (K15 : Int32 → Int32 → Int32 → Int32 → Int32 → (Nat → Int32) → (Nat → Int64) → (Nat → Nat → Int32) → (Nat → Nat → Int64) → Prop) (Post : Int32 → (Nat → Int32) → (Nat → Int64) → (Nat → Nat → Int32) → (Nat → Nat → Int64) → Prop) (x1 : Int32) (x2 : Int32) (x3 : Int32) (x4 : Int32) (x5 : Int32) (I : Nat → Int32) (J : Nat → Int64) (B : Nat → Nat → Int32) (D : Nat → Nat → Int64) : Prop :=
  (((I 1) < x5 → wp_LassoFinderModel_fail I J B D  (fun r50 I50 J50 B50 D50 => (r50 = 0 ∨ r50 = 1) ∧ Post r50 I50 J50 B50 D50)) ∧ (¬ (I 1) < x5 → wp_LassoFinderModel_here I J B D  (fun r51 I51 J51 B51 D51 => wp_LassoFinderModel_from I51 J51 B51 D51 97 8 (fun r52 I52 J52 B52 D52 => ((x4 = 0 → wc_LassoFinderModel_expression_99 a0 K15 Post x1 x2 x3 x4 x5 r51 r52 I52 J52 B52 D52) ∧ (¬ x4 = 0 → ((¬ r51 = 40 → wc_LassoFinderModel_expression_99 a0 K15 Post x1 x2 x3 x4 x5 r51 r52 I52 J52 B52 D52) ∧ (r51 = 40 → ((¬ x3 = 4 → ∀ z56 : Int32, z56 = (x3 + 1) → vp_in (I52 13) 240 ∧ ∀ z57 : Int32, z57 = ((I52 13) + 1) → ∀ z58 : Int32, z58 = ((I52 2) + 1) → wc_LassoFinderModel_expression_438 a0 K15 Post x1 x2 z56 x4 x5 (upd (upd I52 13 z57) 2 z58) J52 (va_up B52 28 (upd (B52 28) (I52 13).toNatClampNeg 21)) D52) ∧ (x3 = 4 → wp_LassoFinderModel_fail I52 J52 B52 D52  (fun r59 I59 J59 B59 D59 => (r59 = 0 ∨ r59 = 1) ∧ Post r59 I59 J59 B59 D59)))))))))))
def wl_LassoFinderModel_expression_15 (a0 : Int32) (Post : Int32 → (Nat → Int32) → (Nat → Int64) → (Nat → Nat → Int32) → (Nat → Nat → Int64) → Prop) (n : Nat) : Int32 → Int32 → Int32 → Int32 → Int32 → (Nat → Int32) → (Nat → Int64) → (Nat → Nat → Int32) → (Nat → Nat → Int64) → Prop := Nat.rec (fun _ _ _ _ _ _ _ _ _ => False) (fun _ r => wb_LassoFinderModel_expression_15 a0 r Post) n
def wp_LassoFinderModel_expression (I : Nat → Int32) (J : Nat → Int64) (B : Nat → Nat → Int32) (D : Nat → Nat → Int64) (a0 : Int32) (Post : Int32 → (Nat → Int32) → (Nat → Int64) → (Nat → Nat → Int32) → (Nat → Nat → Int64) → Prop) : Prop :=
  ∃ n : Nat, wl_LassoFinderModel_expression_15 a0 Post n a0 0 a0 1 0 (upd I 13 0) J B D
set_option maxHeartbeats 8000000 in
set_option maxRecDepth 100000 in
theorem w_LassoFinderModel_expression (l : Launch) (G : va_G) (K : Nat → ClassId) (ad : Nat → Nat) (I : Nat → Int32) (J : Nat → Int64) (B : Nat → Nat → Int32) (D : Nat → Nat → Int64) (a0 : Int32) (Post : Int32 → (Nat → Int32) → (Nat → Int64) → (Nat → Nat → Int32) → (Nat → Nat → Int64) → Prop) (sz : Nat) (hok : wp_LassoFinderModel_expression I J B D a0 Post) : Met l zy_LassoFinderModel_expression (Cond.code zy_LassoFinderModel_expression prog_14_method_12_code 9 (some .boolean) :: zTB) { frames := 2, cells := 0, slots := 0, locals := 44 } (va_Pc [.ref (ad 0), .int a0] (zPre G K (wM ad K I J B D) sz)) (va_Qi (fun (r : Int32) (u : zS) => Post r u.1 u.2.1 u.2.2.1 u.2.2.2) (fun u t => zPost G K (va_A (wM ad K I J B D) sz) (wM ad K u.1 u.2.1 u.2.2.1 u.2.2.2) t) (va_A (wM ad K I J B D) sz)) 0 0 (va_A (wM ad K I J B D) sz) := by
  refine zMet (y := zy_LassoFinderModel_expression) (av := [.ref (ad 0), .int a0]) (maxL := 9) (cc := prog_14_method_12_code) (ret := (some .boolean)) (W0 := (wM ad K I J B D)) (sz := sz) (G := G) (K := K) (wt := zTB) (mc := 0) (ms := 0) (Qf := fun A => va_Qi (fun (r : Int32) (u : zS) => Post r u.1 u.2.1 u.2.2.1 u.2.2.2) (fun u t => zPost G K A (wM ad K u.1 u.2.1 u.2.2.1 u.2.2.2) t) A) (by decide) (Nat.le_of_ble_eq_true rfl) ?_
  intro p e s m below meth c ls A hx hb hr hml hts hown hlocks hin hA hK H locs hw hsz hl
  clear hsz
  have hown : s.vm.findClass "LassoFinderModel" = some m.cls := hown
  have hj_342 : ∀ (y0 : Int32) (I : Nat → Int32) (J : Nat → Int64) (B : Nat → Nat → Int32) (D : Nat → Nat → Int64) (ls : Array Slot) (H : Heap) (locs : List Loc), wc_LassoFinderModel_expression_342 a0 Post y0 I J B D → lv_has ls 9 [] → zW G A s.heap (wM ad K I J B D) H locs → W p l e { frames := 2, cells := 0, slots := 0, locals := 44 } s m ([.ref (ad 0), .int a0] : List Value).toArray below meth c H locs 0 0 (MQ below (va_Qi (fun (r : Int32) (u : zS) => Post r u.1 u.2.1 u.2.2.1 u.2.2.2) (fun u t => zPost G K A (wM ad K u.1 u.2.1 u.2.2.1 u.2.2.2) t) A) ([.ref (ad 0), .int a0] : List Value).toArray s 0 0 A) (F0 m 342 ls [.int y0]) := by
    intro y0 I J B D ls H locs hok hl hw
    unfold wc_LassoFinderModel_expression_342 at hok
    have hbo := hok.1
    have hok := hok.2
    exact z_iret (u := (I, J, B, D)) hx hb hr hlocks (z_nar hbo) hw [0, 1, 2, 3, 4, 5, 6, 7, 8, 9, 10, 11, 12, 13, 14, 15, 16, 17, 18, 19, 20, 21, 22, 23, 24, 25, 26, 27, 28, 29, 30, 31, 32, 33, 34, 35, 36, 37, 38, 39, 40, 41, 42, 43, 44, 45, 46, 47, 48, 49, 50, 51, 52, 53, 54, 55, 56, 57] rfl (by decide) hok (Nat.le_of_ble_eq_true rfl) (Nat.le_of_ble_eq_true rfl) zd_LassoFinderModel_expression_342
  have hj_337 : ∀  (I : Nat → Int32) (J : Nat → Int64) (B : Nat → Nat → Int32) (D : Nat → Nat → Int64) (ls : Array Slot) (H : Heap) (locs : List Loc), wc_LassoFinderModel_expression_337 a0 Post  I J B D → lv_has ls 9 [] → zW G A s.heap (wM ad K I J B D) H locs → W p l e { frames := 2, cells := 0, slots := 0, locals := 44 } s m ([.ref (ad 0), .int a0] : List Value).toArray below meth c H locs 0 0 (MQ below (va_Qi (fun (r : Int32) (u : zS) => Post r u.1 u.2.1 u.2.2.1 u.2.2.2) (fun u t => zPost G K A (wM ad K u.1 u.2.1 u.2.2.1 u.2.2.2) t) A) ([.ref (ad 0), .int a0] : List Value).toArray s 0 0 A) (F0 m 337 ls []) := by
    intro  I J B D ls H locs hok hl hw
    unfold wc_LassoFinderModel_expression_337 at hok
    refine lv_iconst (v := 1) hx hb zd_LassoFinderModel_expression_337 (by decide) ?_
    refine lv_goto (tgt := 342) hx hb zd_LassoFinderModel_expression_338 (by decide) ?_
    exact hj_342 1 I J B D ls H locs hok (lv_sub hl [] rfl) hw
  have hj_158 : ∀  (I : Nat → Int32) (J : Nat → Int64) (B : Nat → Nat → Int32) (D : Nat → Nat → Int64) (ls : Array Slot) (H : Heap) (locs : List Loc), wc_LassoFinderModel_expression_158 a0 Post  I J B D → lv_has ls 9 [(0, .ref (ad 0))] → zW G A s.heap (wM ad K I J B D) H locs → W p l e { frames := 2, cells := 0, slots := 0, locals := 44 } s m ([.ref (ad 0), .int a0] : List Value).toArray below meth c H locs 0 0 (MQ below (va_Qi (fun (r : Int32) (u : zS) => Post r u.1 u.2.1 u.2.2.1 u.2.2.2) (fun u t => zPost G K A (wM ad K u.1 u.2.1 u.2.2.1 u.2.2.2) t) A) ([.ref (ad 0), .int a0] : List Value).toArray s 0 0 A) (F0 m 158 ls []) := by
    intro  I J B D ls H locs hok hl hw
    unfold wc_LassoFinderModel_expression_158 at hok
    refine lv_aload_n hx hb zd_LassoFinderModel_expression_158 rfl (lv_at hl 0 rfl) ?_
    refine z_calli (w1 := fun (u : zS) => wM ad K u.1 u.2.1 u.2.2.1 u.2.2.2) (wr := []) (z_runV (q0 := 0) (wc := (wM ad K I J B D)) (As := []) (rest := []) ⟨hx, hb, hml, hown, hts⟩ (w_LassoFinderModel_fail l G K ad I J B D  _ H.size hok) zf_LassoFinderModel_fail zm_334 ⟨Nat.le_of_ble_eq_true rfl, Nat.le_of_ble_eq_true rfl⟩ hK hw [0, 1, 2, 3, 4, 5, 6, 7, 8, 9, 10, 11, 12, 13, 14, 15, 16, 17, 18, 19, 20, 21, 22, 23, 24, 25, 26, 27, 28, 29, 30, 31, 32, 33, 34, 35, 36, 37, 38, 39, 40, 41, 42, 43, 44, 45, 46, 47, 48, 49, 50, 51, 52, 53, 54, 55, 56, 57] rfl (by decide) rfl rfl rfl hl.1 rfl (Nat.le_of_ble_eq_true rfl) zd_LassoFinderModel_expression_159 ⟨Nat.le_of_ble_eq_true rfl, Nat.le_of_ble_eq_true rfl⟩) hw hA [0, 1, 2, 3, 4, 5, 6, 7, 8, 9, 10, 11, 12, 13, 14, 15, 16, 17, 18, 19, 20, 21, 22, 23, 24, 25, 26, 27, 28, 29, 30, 31, 32, 33, 34, 35, 36, 37, 38, 39, 40, 41, 42, 43, 44, 45, 46, 47, 48, 49, 50, 51, 52, 53, 54, 55, 56, 57] [] rfl rfl (by decide) (by decide) (fun r1 u H locs hok hw => ?_)
    obtain ⟨I1, J1, B1, D1⟩ := u
    dsimp only at hok
    have hw : zW G A s.heap (wM ad K I1 J1 B1 D1) H locs := hw
    have hbo := hok.1
    have hok := hok.2
    exact z_iret (u := (I1, J1, B1, D1)) hx hb hr hlocks (z_nar hbo) hw [0, 1, 2, 3, 4, 5, 6, 7, 8, 9, 10, 11, 12, 13, 14, 15, 16, 17, 18, 19, 20, 21, 22, 23, 24, 25, 26, 27, 28, 29, 30, 31, 32, 33, 34, 35, 36, 37, 38, 39, 40, 41, 42, 43, 44, 45, 46, 47, 48, 49, 50, 51, 52, 53, 54, 55, 56, 57] rfl (by decide) hok (Nat.le_of_ble_eq_true rfl) (Nat.le_of_ble_eq_true rfl) zd_LassoFinderModel_expression_162
  have hl_15 : ∀ (n : Nat) (x1 : Int32) (x2 : Int32) (x3 : Int32) (x4 : Int32) (x5 : Int32) (I : Nat → Int32) (J : Nat → Int64) (B : Nat → Nat → Int32) (D : Nat → Nat → Int64) (ls : Array Slot) (H : Heap) (locs : List Loc), wl_LassoFinderModel_expression_15 a0 Post n x1 x2 x3 x4 x5 I J B D → lv_has ls 9 [(0, .ref (ad 0)), (1, .int x1), (2, .int x2), (3, .int x3), (4, .int x4), (5, .int x5)] → zW G A s.heap (wM ad K I J B D) H locs → W p l e { frames := 2, cells := 0, slots := 0, locals := 44 } s m ([.ref (ad 0), .int a0] : List Value).toArray below meth c H locs 0 0 (MQ below (va_Qi (fun (r : Int32) (u : zS) => Post r u.1 u.2.1 u.2.2.1 u.2.2.2) (fun u t => zPost G K A (wM ad K u.1 u.2.1 u.2.2.1 u.2.2.2) t) A) ([.ref (ad 0), .int a0] : List Value).toArray s 0 0 A) (F0 m 15 ls []) := by
    intro n
    induction n with
    | zero => intro x1 x2 x3 x4 x5 I J B D ls H locs hok; exact hok.elim
    | succ n_15 ih_15 =>
      have hj_438 : ∀ (x1 : Int32) (x2 : Int32) (x3 : Int32) (x4 : Int32) (x5 : Int32) (I : Nat → Int32) (J : Nat → Int64) (B : Nat → Nat → Int32) (D : Nat → Nat → Int64) (ls : Array Slot) (H : Heap) (locs : List Loc), wc_LassoFinderModel_expression_438 a0 (wl_LassoFinderModel_expression_15 a0 Post n_15) Post x1 x2 x3 x4 x5 I J B D → lv_has ls 9 [(0, .ref (ad 0)), (1, .int x1), (2, .int x2), (3, .int x3), (4, .int x4), (5, .int x5)] → zW G A s.heap (wM ad K I J B D) H locs → W p l e { frames := 2, cells := 0, slots := 0, locals := 44 } s m ([.ref (ad 0), .int a0] : List Value).toArray below meth c H locs 0 0 (MQ below (va_Qi (fun (r : Int32) (u : zS) => Post r u.1 u.2.1 u.2.2.1 u.2.2.2) (fun u t => zPost G K A (wM ad K u.1 u.2.1 u.2.2.1 u.2.2.2) t) A) ([.ref (ad 0), .int a0] : List Value).toArray s 0 0 A) (F0 m 438 ls []) := by
        intro x1 x2 x3 x4 x5 I J B D ls H locs hok hl hw
        unfold wc_LassoFinderModel_expression_438 at hok
        obtain ⟨z2, ez2⟩ : ∃ z : Int32, z = (x5 + 1) := ⟨_, rfl⟩
        have hok := hok z2 ez2
        refine lv_iinc (v := z2) hx hb zd_LassoFinderModel_expression_438 hl (k := 5) rfl ez2.symm (by decide) rfl (fun ls hl => ?_)
        have hl : lv_has ls 9 [(5, .int z2), (0, .ref (ad 0)), (1, .int x1), (2, .int x2), (3, .int x3), (4, .int x4)] := hl
        refine lv_goto (tgt := 15) hx hb zd_LassoFinderModel_expression_441 (by decide) ?_
        exact ih_15 x1 x2 x3 x4 z2 I J B D ls H locs hok (lv_sub hl [1, 2, 3, 4, 5, 0] rfl) hw
      have hj_404 : ∀ (x1 : Int32) (x2 : Int32) (x3 : Int32) (x5 : Int32) (x8 : Int32) (I : Nat → Int32) (J : Nat → Int64) (B : Nat → Nat → Int32) (D : Nat → Nat → Int64) (ls : Array Slot) (H : Heap) (locs : List Loc), wc_LassoFinderModel_expression_404 a0 (wl_LassoFinderModel_expression_15 a0 Post n_15) Post x1 x2 x3 x5 x8 I J B D → lv_has ls 9 [(0, .ref (ad 0)), (1, .int x1), (2, .int x2), (3, .int x3), (5, .int x5), (8, .int x8)] → zW G A s.heap (wM ad K I J B D) H locs → W p l e { frames := 2, cells := 0, slots := 0, locals := 44 } s m ([.ref (ad 0), .int a0] : List Value).toArray below meth c H locs 0 0 (MQ below (va_Qi (fun (r : Int32) (u : zS) => Post r u.1 u.2.1 u.2.2.1 u.2.2.2) (fun u t => zPost G K A (wM ad K u.1 u.2.1 u.2.2.1 u.2.2.2) t) A) ([.ref (ad 0), .int a0] : List Value).toArray s 0 0 A) (F0 m 404 ls []) := by
        intro x1 x2 x3 x5 x8 I J B D ls H locs hok hl hw
        unfold wc_LassoFinderModel_expression_404 at hok
        refine lv_aload_n hx hb zd_LassoFinderModel_expression_404 rfl (lv_at hl 0 rfl) ?_
        refine z_get (v := .ref (ad 30)) hx hb hts hown hK hw zZ12 0 rfl 43 (by decide) zm_264 rfl zd_LassoFinderModel_expression_405 ?_
        refine lv_aload_n hx hb zd_LassoFinderModel_expression_408 rfl (lv_at hl 0 rfl) ?_
        refine z_get (v := .int (I 13)) hx hb hts hown hK hw zZ12 0 rfl 42 (by decide) zm_348 rfl zd_LassoFinderModel_expression_409 ?_
        refine lv_iload hx hb zd_LassoFinderModel_expression_412 (lv_at hl 5 rfl) ?_
        refine va_iast (f := (B 28)) hx hb hK hw.1 hw.2.1 hw.2.2 30 0 rfl rfl hok.1 zd_LassoFinderModel_expression_414 (fun H locs a1 a2 a3 => ?_)
        have hok := hok.2
        have hw : zW G A s.heap _ H locs := ⟨a1, a2, a3⟩
        have hw : zW G A s.heap (wM ad K I J (va_up B 28 (upd (B 28) (I 13).toNatClampNeg x8)) D) H locs := hw
        refine lv_aload_n hx hb zd_LassoFinderModel_expression_415 rfl (lv_at hl 0 rfl) ?_
        refine lv_dup hx hb zd_LassoFinderModel_expression_416 rfl ?_
        refine z_get (v := .int (I 13)) hx hb hts hown hK hw zZ12 0 rfl 42 (by decide) zm_348 rfl zd_LassoFinderModel_expression_417 ?_
        refine lv_iconst (v := 1) hx hb zd_LassoFinderModel_expression_420 (by decide) ?_
        refine lv_iadd hx hb zd_LassoFinderModel_expression_421 ?_
        refine lv_topi (fun z3 ez3 => ?_)
        have hok := hok z3 ez3
        refine z_put (v := .int z3) hx hb hts hown hK hw zZ12 0 rfl 42 (by decide) zm_348 rfl rfl rfl (Nat.le_of_ble_eq_true rfl) zd_LassoFinderModel_expression_422 (fun H locs hw => ?_)
        have hw : zW G A s.heap (wM ad K (upd I 13 z3) J (va_up B 28 (upd (B 28) (I 13).toNatClampNeg x8)) D) H locs := hw
        refine lv_aload_n hx hb zd_LassoFinderModel_expression_425 rfl (lv_at hl 0 rfl) ?_
        refine lv_dup hx hb zd_LassoFinderModel_expression_426 rfl ?_
        refine z_get (v := .int (I 2)) hx hb hts hown hK hw zZ12 0 rfl 3 (by decide) zm_335 rfl zd_LassoFinderModel_expression_427 ?_
        refine lv_iconst (v := 1) hx hb zd_LassoFinderModel_expression_430 (by decide) ?_
        refine lv_iadd hx hb zd_LassoFinderModel_expression_431 ?_
        refine lv_topi (fun z4 ez4 => ?_)
        have hok := hok z4 ez4
        refine z_put (v := .int z4) hx hb hts hown hK hw zZ12 0 rfl 3 (by decide) zm_335 rfl rfl rfl (Nat.le_of_ble_eq_true rfl) zd_LassoFinderModel_expression_432 (fun H locs hw => ?_)
        have hw : zW G A s.heap (wM ad K (upd (upd I 13 z3) 2 z4) J (va_up B 28 (upd (B 28) (I 13).toNatClampNeg x8)) D) H locs := hw
        refine lv_iconst (v := 1) hx hb zd_LassoFinderModel_expression_435 (by decide) ?_
        refine lv_istore hx hb zd_LassoFinderModel_expression_436 hl (by decide) rfl (fun ls hl => ?_)
        have hl : lv_has ls 9 [(4, .int 1), (0, .ref (ad 0)), (1, .int x1), (2, .int x2), (3, .int x3), (5, .int x5), (8, .int x8)] := hl
        exact hj_438 x1 x2 x3 1 x5 (upd (upd I 13 z3) 2 z4) J (va_up B 28 (upd (B 28) (I 13).toNatClampNeg x8)) D ls H locs hok (lv_sub hl [1, 2, 3, 4, 0, 5] rfl) hw
      have hj_362 : ∀ (x1 : Int32) (x2 : Int32) (x3 : Int32) (x5 : Int32) (x8 : Int32) (y0 : Int32) (I : Nat → Int32) (J : Nat → Int64) (B : Nat → Nat → Int32) (D : Nat → Nat → Int64) (ls : Array Slot) (H : Heap) (locs : List Loc), wc_LassoFinderModel_expression_362 a0 (wl_LassoFinderModel_expression_15 a0 Post n_15) Post x1 x2 x3 x5 x8 y0 I J B D → lv_has ls 9 [(0, .ref (ad 0)), (1, .int x1), (2, .int x2), (3, .int x3), (5, .int x5), (8, .int x8)] → zW G A s.heap (wM ad K I J B D) H locs → W p l e { frames := 2, cells := 0, slots := 0, locals := 44 } s m ([.ref (ad 0), .int a0] : List Value).toArray below meth c H locs 0 0 (MQ below (va_Qi (fun (r : Int32) (u : zS) => Post r u.1 u.2.1 u.2.2.1 u.2.2.2) (fun u t => zPost G K A (wM ad K u.1 u.2.1 u.2.2.1 u.2.2.2) t) A) ([.ref (ad 0), .int a0] : List Value).toArray s 0 0 A) (F0 m 362 ls [.int y0, .ref (ad 0)]) := by
        intro x1 x2 x3 x5 x8 y0 I J B D ls H locs hok hl hw
        unfold wc_LassoFinderModel_expression_362 at hok
        refine z_callv (w1 := fun (u : zS) => wM ad K u.1 u.2.1 u.2.2.1 u.2.2.2) (wr := []) (z_runV (q0 := 0) (wc := (wM ad K I J B D)) (As := [.int y0]) (rest := []) ⟨hx, hb, hml, hown, hts⟩ (w_LassoFinderModel_settle l G K ad I J B D y0 _ H.size hok) zf_LassoFinderModel_settle zm_350 ⟨Nat.le_of_ble_eq_true rfl, Nat.le_of_ble_eq_true rfl⟩ hK hw [0, 1, 2, 3, 4, 5, 6, 7, 8, 9, 10, 11, 12, 13, 14, 15, 16, 17, 18, 19, 20, 21, 22, 23, 24, 25, 26, 27, 28, 29, 30, 31, 32, 33, 34, 35, 36, 37, 38, 39, 40, 41, 42, 43, 44, 45, 46, 47, 48, 49, 50, 51, 52, 53, 54, 55, 56, 57] rfl (by decide) rfl rfl rfl hl.1 rfl (Nat.le_of_ble_eq_true rfl) zd_LassoFinderModel_expression_362 ⟨Nat.le_of_ble_eq_true rfl, Nat.le_of_ble_eq_true rfl⟩) hw hA [0, 1, 2, 3, 4, 5, 6, 7, 8, 9, 10, 11, 12, 13, 14, 15, 16, 17, 18, 19, 20, 21, 22, 23, 24, 25, 26, 27, 28, 29, 30, 31, 32, 33, 34, 35, 36, 37, 38, 39, 40, 41, 42, 43, 44, 45, 46, 47, 48, 49, 50, 51, 52, 53, 54, 55, 56, 57] [] rfl rfl (by decide) (by decide) (fun u H locs hok hw => ?_)
        obtain ⟨I5, J5, B5, D5⟩ := u
        dsimp only at hok
        have hw : zW G A s.heap (wM ad K I5 J5 B5 D5) H locs := hw
        refine lv_iload hx hb zd_LassoFinderModel_expression_365 (lv_at hl 5 rfl) ?_
        refine z_calli (w1 := fun (u : zS) => wM ad K u.1 u.2.1 u.2.2.1 u.2.2.2) (wr := []) (z_runS (wc := (wM ad K I5 J5 B5 D5)) (As := [.int x8]) (rest := []) ⟨hx, hb, hml, hown, hts⟩ (w_LassoFinderModel_strength l G K ad I5 J5 B5 D5 x8 _ H.size hok) zf_LassoFinderModel_strength zm_351 ⟨Nat.le_of_ble_eq_true rfl, Nat.le_of_ble_eq_true rfl⟩ hK hw [0, 1, 2, 3, 4, 5, 6, 7, 8, 9, 10, 11, 12, 13, 14, 15, 16, 17, 18, 19, 20, 21, 22, 23, 24, 25, 26, 27, 28, 29, 30, 31, 32, 33, 34, 35, 36, 37, 38, 39, 40, 41, 42, 43, 44, 45, 46, 47, 48, 49, 50, 51, 52, 53, 54, 55, 56, 57] rfl (by decide) rfl hl.1 rfl (Nat.le_of_ble_eq_true rfl) zd_LassoFinderModel_expression_367 ⟨Nat.le_of_ble_eq_true rfl, Nat.le_of_ble_eq_true rfl⟩) hw hA [0, 1, 2, 3, 4, 5, 6, 7, 8, 9, 10, 11, 12, 13, 14, 15, 16, 17, 18, 19, 20, 21, 22, 23, 24, 25, 26, 27, 28, 29, 30, 31, 32, 33, 34, 35, 36, 37, 38, 39, 40, 41, 42, 43, 44, 45, 46, 47, 48, 49, 50, 51, 52, 53, 54, 55, 56, 57] [] rfl rfl (by decide) (by decide) (fun r6 u H locs hok hw => ?_)
        obtain ⟨I6, J6, B6, D6⟩ := u
        dsimp only at hok
        have hw : zW G A s.heap (wM ad K I6 J6 B6 D6) H locs := hw
        refine lv_iconst (v := 1) hx hb zd_LassoFinderModel_expression_370 (by decide) ?_
        refine lv_icmp_ne (tgt := 404) hx hb zd_LassoFinderModel_expression_371 (by decide) (fun hc7 => ?_) (fun hc7 => ?_)
        · have hok := hok.1 hc7
          exact hj_404 x1 x2 x3 x5 x8 I6 J6 B6 D6 ls H locs hok (lv_sub hl [0, 1, 2, 3, 4, 5] rfl) hw
        · have hok := hok.2 hc7
          refine lv_aload_n hx hb zd_LassoFinderModel_expression_374 rfl (lv_at hl 0 rfl) ?_
          refine z_get (v := .int (I6 13)) hx hb hts hown hK hw zZ12 0 rfl 42 (by decide) zm_348 rfl zd_LassoFinderModel_expression_375 ?_
          refine lv_if_le (tgt := 404) hx hb zd_LassoFinderModel_expression_378 (by decide) (fun hc8 => ?_) (fun hc8 => ?_)
          · have hok := hok.1 hc8
            exact hj_404 x1 x2 x3 x5 x8 I6 J6 B6 D6 ls H locs hok (lv_sub hl [0, 1, 2, 3, 4, 5] rfl) hw
          · have hok := hok.2 hc8
            refine lv_aload_n hx hb zd_LassoFinderModel_expression_381 rfl (lv_at hl 0 rfl) ?_
            refine z_get (v := .ref (ad 30)) hx hb hts hown hK hw zZ12 0 rfl 43 (by decide) zm_264 rfl zd_LassoFinderModel_expression_382 ?_
            refine lv_aload_n hx hb zd_LassoFinderModel_expression_385 rfl (lv_at hl 0 rfl) ?_
            refine z_get (v := .int (I6 13)) hx hb hts hown hK hw zZ12 0 rfl 42 (by decide) zm_348 rfl zd_LassoFinderModel_expression_386 ?_
            refine lv_iconst (v := 1) hx hb zd_LassoFinderModel_expression_389 (by decide) ?_
            refine lv_isub hx hb zd_LassoFinderModel_expression_390 ?_
            refine lv_topi (fun z9 ez9 => ?_)
            have hok := hok z9 ez9
            refine va_iald (f := (B6 28)) hx hb hK hw.1 30 0 rfl rfl hok.1 zd_LassoFinderModel_expression_391 ?_
            have hok := hok.2
            refine lv_topi (fun z10 ez10 => ?_)
            have hok := hok z10 ez10
            refine z_calli (w1 := fun (u : zS) => wM ad K u.1 u.2.1 u.2.2.1 u.2.2.2) (wr := []) (z_runS (wc := (wM ad K I6 J6 B6 D6)) (As := [.int z10]) (rest := []) ⟨hx, hb, hml, hown, hts⟩ (w_LassoFinderModel_strength l G K ad I6 J6 B6 D6 z10 _ H.size hok) zf_LassoFinderModel_strength zm_351 ⟨Nat.le_of_ble_eq_true rfl, Nat.le_of_ble_eq_true rfl⟩ hK hw [0, 1, 2, 3, 4, 5, 6, 7, 8, 9, 10, 11, 12, 13, 14, 15, 16, 17, 18, 19, 20, 21, 22, 23, 24, 25, 26, 27, 28, 29, 30, 31, 32, 33, 34, 35, 36, 37, 38, 39, 40, 41, 42, 43, 44, 45, 46, 47, 48, 49, 50, 51, 52, 53, 54, 55, 56, 57] rfl (by decide) rfl hl.1 rfl (Nat.le_of_ble_eq_true rfl) zd_LassoFinderModel_expression_392 ⟨Nat.le_of_ble_eq_true rfl, Nat.le_of_ble_eq_true rfl⟩) hw hA [0, 1, 2, 3, 4, 5, 6, 7, 8, 9, 10, 11, 12, 13, 14, 15, 16, 17, 18, 19, 20, 21, 22, 23, 24, 25, 26, 27, 28, 29, 30, 31, 32, 33, 34, 35, 36, 37, 38, 39, 40, 41, 42, 43, 44, 45, 46, 47, 48, 49, 50, 51, 52, 53, 54, 55, 56, 57] [] rfl rfl (by decide) (by decide) (fun r11 u H locs hok hw => ?_)
            obtain ⟨I11, J11, B11, D11⟩ := u
            dsimp only at hok
            have hw : zW G A s.heap (wM ad K I11 J11 B11 D11) H locs := hw
            refine lv_iconst (v := 1) hx hb zd_LassoFinderModel_expression_395 (by decide) ?_
            refine lv_icmp_ne (tgt := 404) hx hb zd_LassoFinderModel_expression_396 (by decide) (fun hc12 => ?_) (fun hc12 => ?_)
            · have hok := hok.1 hc12
              exact hj_404 x1 x2 x3 x5 x8 I11 J11 B11 D11 ls H locs hok (lv_sub hl [0, 1, 2, 3, 4, 5] rfl) hw
            · have hok := hok.2 hc12
              refine lv_aload_n hx hb zd_LassoFinderModel_expression_399 rfl (lv_at hl 0 rfl) ?_
              refine z_calli (w1 := fun (u : zS) => wM ad K u.1 u.2.1 u.2.2.1 u.2.2.2) (wr := []) (z_runV (q0 := 0) (wc := (wM ad K I11 J11 B11 D11)) (As := []) (rest := []) ⟨hx, hb, hml, hown, hts⟩ (w_LassoFinderModel_fail l G K ad I11 J11 B11 D11  _ H.size hok) zf_LassoFinderModel_fail zm_334 ⟨Nat.le_of_ble_eq_true rfl, Nat.le_of_ble_eq_true rfl⟩ hK hw [0, 1, 2, 3, 4, 5, 6, 7, 8, 9, 10, 11, 12, 13, 14, 15, 16, 17, 18, 19, 20, 21, 22, 23, 24, 25, 26, 27, 28, 29, 30, 31, 32, 33, 34, 35, 36, 37, 38, 39, 40, 41, 42, 43, 44, 45, 46, 47, 48, 49, 50, 51, 52, 53, 54, 55, 56, 57] rfl (by decide) rfl rfl rfl hl.1 rfl (Nat.le_of_ble_eq_true rfl) zd_LassoFinderModel_expression_400 ⟨Nat.le_of_ble_eq_true rfl, Nat.le_of_ble_eq_true rfl⟩) hw hA [0, 1, 2, 3, 4, 5, 6, 7, 8, 9, 10, 11, 12, 13, 14, 15, 16, 17, 18, 19, 20, 21, 22, 23, 24, 25, 26, 27, 28, 29, 30, 31, 32, 33, 34, 35, 36, 37, 38, 39, 40, 41, 42, 43, 44, 45, 46, 47, 48, 49, 50, 51, 52, 53, 54, 55, 56, 57] [] rfl rfl (by decide) (by decide) (fun r13 u H locs hok hw => ?_)
              obtain ⟨I13, J13, B13, D13⟩ := u
              dsimp only at hok
              have hw : zW G A s.heap (wM ad K I13 J13 B13 D13) H locs := hw
              have hbo := hok.1
              have hok := hok.2
              exact z_iret (u := (I13, J13, B13, D13)) hx hb hr hlocks (z_nar hbo) hw [0, 1, 2, 3, 4, 5, 6, 7, 8, 9, 10, 11, 12, 13, 14, 15, 16, 17, 18, 19, 20, 21, 22, 23, 24, 25, 26, 27, 28, 29, 30, 31, 32, 33, 34, 35, 36, 37, 38, 39, 40, 41, 42, 43, 44, 45, 46, 47, 48, 49, 50, 51, 52, 53, 54, 55, 56, 57] rfl (by decide) hok (Nat.le_of_ble_eq_true rfl) (Nat.le_of_ble_eq_true rfl) zd_LassoFinderModel_expression_403
      have hj_311 : ∀ (x1 : Int32) (x2 : Int32) (x3 : Int32) (x5 : Int32) (y0 : Int32) (I : Nat → Int32) (J : Nat → Int64) (B : Nat → Nat → Int32) (D : Nat → Nat → Int64) (ls : Array Slot) (H : Heap) (locs : List Loc), wc_LassoFinderModel_expression_311 a0 (wl_LassoFinderModel_expression_15 a0 Post n_15) Post x1 x2 x3 x5 y0 I J B D → lv_has ls 9 [(0, .ref (ad 0)), (1, .int x1), (2, .int x2), (3, .int x3), (5, .int x5)] → zW G A s.heap (wM ad K I J B D) H locs → W p l e { frames := 2, cells := 0, slots := 0, locals := 44 } s m ([.ref (ad 0), .int a0] : List Value).toArray below meth c H locs 0 0 (MQ below (va_Qi (fun (r : Int32) (u : zS) => Post r u.1 u.2.1 u.2.2.1 u.2.2.2) (fun u t => zPost G K A (wM ad K u.1 u.2.1 u.2.2.1 u.2.2.2) t) A) ([.ref (ad 0), .int a0] : List Value).toArray s 0 0 A) (F0 m 311 ls [.int y0]) := by
        intro x1 x2 x3 x5 y0 I J B D ls H locs hok hl hw
        unfold wc_LassoFinderModel_expression_311 at hok
        refine lv_istore hx hb zd_LassoFinderModel_expression_311 hl (by decide) rfl (fun ls hl => ?_)
        have hl : lv_has ls 9 [(8, .int y0), (0, .ref (ad 0)), (1, .int x1), (2, .int x2), (3, .int x3), (5, .int x5)] := hl
        refine lv_iload hx hb zd_LassoFinderModel_expression_313 (lv_at hl 0 rfl) ?_
        refine lv_if_ge (tgt := 343) hx hb zd_LassoFinderModel_expression_315 (by decide) (fun hc14 => ?_) (fun hc14 => ?_)
        · have hok := hok.1 hc14
          refine lv_aload_n hx hb zd_LassoFinderModel_expression_343 rfl (lv_at hl 1 rfl) ?_
          refine lv_iload hx hb zd_LassoFinderModel_expression_344 (lv_at hl 0 rfl) ?_
          refine z_calli (w1 := fun (u : zS) => wM ad K u.1 u.2.1 u.2.2.1 u.2.2.2) (wr := []) (z_runS (wc := (wM ad K I J B D)) (As := [.int y0]) (rest := [.ref (ad 0)]) ⟨hx, hb, hml, hown, hts⟩ (w_LassoFinderModel_strength l G K ad I J B D y0 _ H.size hok) zf_LassoFinderModel_strength zm_351 ⟨Nat.le_of_ble_eq_true rfl, Nat.le_of_ble_eq_true rfl⟩ hK hw [0, 1, 2, 3, 4, 5, 6, 7, 8, 9, 10, 11, 12, 13, 14, 15, 16, 17, 18, 19, 20, 21, 22, 23, 24, 25, 26, 27, 28, 29, 30, 31, 32, 33, 34, 35, 36, 37, 38, 39, 40, 41, 42, 43, 44, 45, 46, 47, 48, 49, 50, 51, 52, 53, 54, 55, 56, 57] rfl (by decide) rfl hl.1 rfl (Nat.le_of_ble_eq_true rfl) zd_LassoFinderModel_expression_346 ⟨Nat.le_of_ble_eq_true rfl, Nat.le_of_ble_eq_true rfl⟩) hw hA [0, 1, 2, 3, 4, 5, 6, 7, 8, 9, 10, 11, 12, 13, 14, 15, 16, 17, 18, 19, 20, 21, 22, 23, 24, 25, 26, 27, 28, 29, 30, 31, 32, 33, 34, 35, 36, 37, 38, 39, 40, 41, 42, 43, 44, 45, 46, 47, 48, 49, 50, 51, 52, 53, 54, 55, 56, 57] [] rfl rfl (by decide) (by decide) (fun r15 u H locs hok hw => ?_)
          obtain ⟨I15, J15, B15, D15⟩ := u
          dsimp only at hok
          have hw : zW G A s.heap (wM ad K I15 J15 B15 D15) H locs := hw
          refine lv_iconst (v := 2) hx hb zd_LassoFinderModel_expression_349 (by decide) ?_
          refine lv_icmp_ge (tgt := 357) hx hb zd_LassoFinderModel_expression_350 (by decide) (fun hc16 => ?_) (fun hc16 => ?_)
          · have hok := hok.1 hc16
            refine lv_iload hx hb zd_LassoFinderModel_expression_357 (lv_at hl 0 rfl) ?_
            refine z_calli (w1 := fun (u : zS) => wM ad K u.1 u.2.1 u.2.2.1 u.2.2.2) (wr := []) (z_runS (wc := (wM ad K I15 J15 B15 D15)) (As := [.int y0]) (rest := [.ref (ad 0)]) ⟨hx, hb, hml, hown, hts⟩ (w_LassoFinderModel_strength l G K ad I15 J15 B15 D15 y0 _ H.size hok) zf_LassoFinderModel_strength zm_351 ⟨Nat.le_of_ble_eq_true rfl, Nat.le_of_ble_eq_true rfl⟩ hK hw [0, 1, 2, 3, 4, 5, 6, 7, 8, 9, 10, 11, 12, 13, 14, 15, 16, 17, 18, 19, 20, 21, 22, 23, 24, 25, 26, 27, 28, 29, 30, 31, 32, 33, 34, 35, 36, 37, 38, 39, 40, 41, 42, 43, 44, 45, 46, 47, 48, 49, 50, 51, 52, 53, 54, 55, 56, 57] rfl (by decide) rfl hl.1 rfl (Nat.le_of_ble_eq_true rfl) zd_LassoFinderModel_expression_359 ⟨Nat.le_of_ble_eq_true rfl, Nat.le_of_ble_eq_true rfl⟩) hw hA [0, 1, 2, 3, 4, 5, 6, 7, 8, 9, 10, 11, 12, 13, 14, 15, 16, 17, 18, 19, 20, 21, 22, 23, 24, 25, 26, 27, 28, 29, 30, 31, 32, 33, 34, 35, 36, 37, 38, 39, 40, 41, 42, 43, 44, 45, 46, 47, 48, 49, 50, 51, 52, 53, 54, 55, 56, 57] [] rfl rfl (by decide) (by decide) (fun r17 u H locs hok hw => ?_)
            obtain ⟨I17, J17, B17, D17⟩ := u
            dsimp only at hok
            have hw : zW G A s.heap (wM ad K I17 J17 B17 D17) H locs := hw
            exact hj_362 x1 x2 x3 x5 y0 r17 I17 J17 B17 D17 ls H locs hok (lv_sub hl [1, 2, 3, 4, 5, 0] rfl) hw
          · have hok := hok.2 hc16
            refine lv_iconst (v := 2) hx hb zd_LassoFinderModel_expression_353 (by decide) ?_
            refine lv_goto (tgt := 362) hx hb zd_LassoFinderModel_expression_354 (by decide) ?_
            exact hj_362 x1 x2 x3 x5 y0 2 I15 J15 B15 D15 ls H locs hok (lv_sub hl [1, 2, 3, 4, 5, 0] rfl) hw
        · have hok := hok.2 hc14
          refine lv_aload_n hx hb zd_LassoFinderModel_expression_318 rfl (lv_at hl 1 rfl) ?_
          refine lv_iconst (v := 1) hx hb zd_LassoFinderModel_expression_319 (by decide) ?_
          refine z_callv (w1 := fun (u : zS) => wM ad K u.1 u.2.1 u.2.2.1 u.2.2.2) (wr := []) (z_runV (q0 := 0) (wc := (wM ad K I J B D)) (As := [.int 1]) (rest := []) ⟨hx, hb, hml, hown, hts⟩ (w_LassoFinderModel_settle l G K ad I J B D 1 _ H.size hok) zf_LassoFinderModel_settle zm_350 ⟨Nat.le_of_ble_eq_true rfl, Nat.le_of_ble_eq_true rfl⟩ hK hw [0, 1, 2, 3, 4, 5, 6, 7, 8, 9, 10, 11, 12, 13, 14, 15, 16, 17, 18, 19, 20, 21, 22, 23, 24, 25, 26, 27, 28, 29, 30, 31, 32, 33, 34, 35, 36, 37, 38, 39, 40, 41, 42, 43, 44, 45, 46, 47, 48, 49, 50, 51, 52, 53, 54, 55, 56, 57] rfl (by decide) rfl rfl rfl hl.1 rfl (Nat.le_of_ble_eq_true rfl) zd_LassoFinderModel_expression_320 ⟨Nat.le_of_ble_eq_true rfl, Nat.le_of_ble_eq_true rfl⟩) hw hA [0, 1, 2, 3, 4, 5, 6, 7, 8, 9, 10, 11, 12, 13, 14, 15, 16, 17, 18, 19, 20, 21, 22, 23, 24, 25, 26, 27, 28, 29, 30, 31, 32, 33, 34, 35, 36, 37, 38, 39, 40, 41, 42, 43, 44, 45, 46, 47, 48, 49, 50, 51, 52, 53, 54, 55, 56, 57] [] rfl rfl (by decide) (by decide) (fun u H locs hok hw => ?_)
          obtain ⟨I18, J18, B18, D18⟩ := u
          dsimp only at hok
          have hw : zW G A s.heap (wM ad K I18 J18 B18 D18) H locs := hw
          refine lv_aload_n hx hb zd_LassoFinderModel_expression_323 rfl (lv_at hl 1 rfl) ?_
          refine z_get (v := .int (I18 13)) hx hb hts hown hK hw zZ12 0 rfl 42 (by decide) zm_348 rfl zd_LassoFinderModel_expression_324 ?_
          refine lv_if_eq (tgt := 337) hx hb zd_LassoFinderModel_expression_327 (by decide) (fun hc19 => ?_) (fun hc19 => ?_)
          · have hok := hok.1 hc19
            exact hj_337 I18 J18 B18 D18 ls H locs hok (lv_sub hl [] rfl) hw
          · have hok := hok.2 hc19
            refine lv_aload_n hx hb zd_LassoFinderModel_expression_330 rfl (lv_at hl 1 rfl) ?_
            refine z_calli (w1 := fun (u : zS) => wM ad K u.1 u.2.1 u.2.2.1 u.2.2.2) (wr := []) (z_runV (q0 := 0) (wc := (wM ad K I18 J18 B18 D18)) (As := []) (rest := []) ⟨hx, hb, hml, hown, hts⟩ (w_LassoFinderModel_fail l G K ad I18 J18 B18 D18  _ H.size hok) zf_LassoFinderModel_fail zm_334 ⟨Nat.le_of_ble_eq_true rfl, Nat.le_of_ble_eq_true rfl⟩ hK hw [0, 1, 2, 3, 4, 5, 6, 7, 8, 9, 10, 11, 12, 13, 14, 15, 16, 17, 18, 19, 20, 21, 22, 23, 24, 25, 26, 27, 28, 29, 30, 31, 32, 33, 34, 35, 36, 37, 38, 39, 40, 41, 42, 43, 44, 45, 46, 47, 48, 49, 50, 51, 52, 53, 54, 55, 56, 57] rfl (by decide) rfl rfl rfl hl.1 rfl (Nat.le_of_ble_eq_true rfl) zd_LassoFinderModel_expression_331 ⟨Nat.le_of_ble_eq_true rfl, Nat.le_of_ble_eq_true rfl⟩) hw hA [0, 1, 2, 3, 4, 5, 6, 7, 8, 9, 10, 11, 12, 13, 14, 15, 16, 17, 18, 19, 20, 21, 22, 23, 24, 25, 26, 27, 28, 29, 30, 31, 32, 33, 34, 35, 36, 37, 38, 39, 40, 41, 42, 43, 44, 45, 46, 47, 48, 49, 50, 51, 52, 53, 54, 55, 56, 57] [] rfl rfl (by decide) (by decide) (fun r20 u H locs hok hw => ?_)
            obtain ⟨I20, J20, B20, D20⟩ := u
            dsimp only at hok
            have hw : zW G A s.heap (wM ad K I20 J20 B20 D20) H locs := hw
            refine lv_if_eq (tgt := 341) hx hb zd_LassoFinderModel_expression_334 (by decide) (fun hc21 => ?_) (fun hc21 => ?_)
            · have hok := hok.1 hc21
              refine lv_iconst (v := 0) hx hb zd_LassoFinderModel_expression_341 (by decide) ?_
              exact hj_342 0 I20 J20 B20 D20 ls H locs hok (lv_sub hl [] rfl) hw
            · have hok := hok.2 hc21
              exact hj_337 I20 J20 B20 D20 ls H locs hok (lv_sub hl [] rfl) hw
      have hj_250 : ∀ (x1 : Int32) (x2 : Int32) (x3 : Int32) (x5 : Int32) (x6 : Int32) (I : Nat → Int32) (J : Nat → Int64) (B : Nat → Nat → Int32) (D : Nat → Nat → Int64) (ls : Array Slot) (H : Heap) (locs : List Loc), wc_LassoFinderModel_expression_250 a0 (wl_LassoFinderModel_expression_15 a0 Post n_15) Post x1 x2 x3 x5 x6 I J B D → lv_has ls 9 [(0, .ref (ad 0)), (1, .int x1), (2, .int x2), (3, .int x3), (5, .int x5), (6, .int x6)] → zW G A s.heap (wM ad K I J B D) H locs → W p l e { frames := 2, cells := 0, slots := 0, locals := 44 } s m ([.ref (ad 0), .int a0] : List Value).toArray below meth c H locs 0 0 (MQ below (va_Qi (fun (r : Int32) (u : zS) => Post r u.1 u.2.1 u.2.2.1 u.2.2.2) (fun u t => zPost G K A (wM ad K u.1 u.2.1 u.2.2.1 u.2.2.2) t) A) ([.ref (ad 0), .int a0] : List Value).toArray s 0 0 A) (F0 m 250 ls []) := by
        intro x1 x2 x3 x5 x6 I J B D ls H locs hok hl hw
        unfold wc_LassoFinderModel_expression_250 at hok
        refine lv_iload hx hb zd_LassoFinderModel_expression_250 (lv_at hl 5 rfl) ?_
        refine lv_bipush (v := 43) hx hb zd_LassoFinderModel_expression_252 (by decide) ?_
        refine lv_icmp_ne (tgt := 262) hx hb zd_LassoFinderModel_expression_254 (by decide) (fun hc22 => ?_) (fun hc22 => ?_)
        · have hok := hok.1 hc22
          refine lv_iload hx hb zd_LassoFinderModel_expression_262 (lv_at hl 5 rfl) ?_
          refine lv_bipush (v := 45) hx hb zd_LassoFinderModel_expression_264 (by decide) ?_
          refine lv_icmp_ne (tgt := 274) hx hb zd_LassoFinderModel_expression_266 (by decide) (fun hc23 => ?_) (fun hc23 => ?_)
          · have hok := hok.1 hc23
            refine lv_iload hx hb zd_LassoFinderModel_expression_274 (lv_at hl 5 rfl) ?_
            refine lv_bipush (v := 42) hx hb zd_LassoFinderModel_expression_276 (by decide) ?_
            refine lv_icmp_ne (tgt := 286) hx hb zd_LassoFinderModel_expression_278 (by decide) (fun hc24 => ?_) (fun hc24 => ?_)
            · have hok := hok.1 hc24
              refine lv_iload hx hb zd_LassoFinderModel_expression_286 (lv_at hl 5 rfl) ?_
              refine lv_bipush (v := 61) hx hb zd_LassoFinderModel_expression_288 (by decide) ?_
              refine lv_icmp_ne (tgt := 298) hx hb zd_LassoFinderModel_expression_290 (by decide) (fun hc25 => ?_) (fun hc25 => ?_)
              · have hok := hok.1 hc25
                refine lv_iload hx hb zd_LassoFinderModel_expression_298 (lv_at hl 5 rfl) ?_
                refine lv_bipush (v := 60) hx hb zd_LassoFinderModel_expression_300 (by decide) ?_
                refine lv_icmp_ne (tgt := 310) hx hb zd_LassoFinderModel_expression_302 (by decide) (fun hc26 => ?_) (fun hc26 => ?_)
                · have hok := hok.1 hc26
                  refine lv_iconst (v := (-1)) hx hb zd_LassoFinderModel_expression_310 (by decide) ?_
                  exact hj_311 x1 x2 x3 x5 (-1) I J B D ls H locs hok (lv_sub hl [0, 1, 2, 3, 4] rfl) hw
                · have hok := hok.2 hc26
                  refine lv_bipush (v := 20) hx hb zd_LassoFinderModel_expression_305 (by decide) ?_
                  refine lv_goto (tgt := 311) hx hb zd_LassoFinderModel_expression_307 (by decide) ?_
                  exact hj_311 x1 x2 x3 x5 20 I J B D ls H locs hok (lv_sub hl [0, 1, 2, 3, 4] rfl) hw
              · have hok := hok.2 hc25
                refine lv_bipush (v := 19) hx hb zd_LassoFinderModel_expression_293 (by decide) ?_
                refine lv_goto (tgt := 311) hx hb zd_LassoFinderModel_expression_295 (by decide) ?_
                exact hj_311 x1 x2 x3 x5 19 I J B D ls H locs hok (lv_sub hl [0, 1, 2, 3, 4] rfl) hw
            · have hok := hok.2 hc24
              refine lv_bipush (v := 18) hx hb zd_LassoFinderModel_expression_281 (by decide) ?_
              refine lv_goto (tgt := 311) hx hb zd_LassoFinderModel_expression_283 (by decide) ?_
              exact hj_311 x1 x2 x3 x5 18 I J B D ls H locs hok (lv_sub hl [0, 1, 2, 3, 4] rfl) hw
          · have hok := hok.2 hc23
            refine lv_bipush (v := 17) hx hb zd_LassoFinderModel_expression_269 (by decide) ?_
            refine lv_goto (tgt := 311) hx hb zd_LassoFinderModel_expression_271 (by decide) ?_
            exact hj_311 x1 x2 x3 x5 17 I J B D ls H locs hok (lv_sub hl [0, 1, 2, 3, 4] rfl) hw
        · have hok := hok.2 hc22
          refine lv_bipush (v := 16) hx hb zd_LassoFinderModel_expression_257 (by decide) ?_
          refine lv_goto (tgt := 311) hx hb zd_LassoFinderModel_expression_259 (by decide) ?_
          exact hj_311 x1 x2 x3 x5 16 I J B D ls H locs hok (lv_sub hl [0, 1, 2, 3, 4] rfl) hw
      have hj_188 : ∀ (x1 : Int32) (x2 : Int32) (x3 : Int32) (x5 : Int32) (y0 : Int32) (I : Nat → Int32) (J : Nat → Int64) (B : Nat → Nat → Int32) (D : Nat → Nat → Int64) (ls : Array Slot) (H : Heap) (locs : List Loc), wc_LassoFinderModel_expression_188 a0 (wl_LassoFinderModel_expression_15 a0 Post n_15) Post x1 x2 x3 x5 y0 I J B D → lv_has ls 9 [(0, .ref (ad 0)), (1, .int x1), (2, .int x2), (3, .int x3), (5, .int x5)] → zW G A s.heap (wM ad K I J B D) H locs → W p l e { frames := 2, cells := 0, slots := 0, locals := 44 } s m ([.ref (ad 0), .int a0] : List Value).toArray below meth c H locs 0 0 (MQ below (va_Qi (fun (r : Int32) (u : zS) => Post r u.1 u.2.1 u.2.2.1 u.2.2.2) (fun u t => zPost G K A (wM ad K u.1 u.2.1 u.2.2.1 u.2.2.2) t) A) ([.ref (ad 0), .int a0] : List Value).toArray s 0 0 A) (F0 m 188 ls [.int y0, .ref (ad 0)]) := by
        intro x1 x2 x3 x5 y0 I J B D ls H locs hok hl hw
        unfold wc_LassoFinderModel_expression_188 at hok
        refine z_callv (w1 := fun (u : zS) => wM ad K u.1 u.2.1 u.2.2.1 u.2.2.2) (wr := []) (z_runV (q0 := 0) (wc := (wM ad K I J B D)) (As := [.int y0]) (rest := []) ⟨hx, hb, hml, hown, hts⟩ (w_LassoFinderModel_emit l G K ad I J B D y0 _ H.size hok) zf_LassoFinderModel_emit zm_349 ⟨Nat.le_of_ble_eq_true rfl, Nat.le_of_ble_eq_true rfl⟩ hK hw [0, 1, 2, 3, 4, 5, 6, 7, 8, 9, 10, 11, 12, 13, 14, 15, 16, 17, 18, 19, 20, 21, 22, 23, 24, 25, 26, 27, 28, 29, 30, 31, 32, 33, 34, 35, 36, 37, 38, 39, 40, 41, 42, 43, 44, 45, 46, 47, 48, 49, 50, 51, 52, 53, 54, 55, 56, 57] rfl (by decide) rfl rfl rfl hl.1 rfl (Nat.le_of_ble_eq_true rfl) zd_LassoFinderModel_expression_188 ⟨Nat.le_of_ble_eq_true rfl, Nat.le_of_ble_eq_true rfl⟩) hw hA [0, 1, 2, 3, 4, 5, 6, 7, 8, 9, 10, 11, 12, 13, 14, 15, 16, 17, 18, 19, 20, 21, 22, 23, 24, 25, 26, 27, 28, 29, 30, 31, 32, 33, 34, 35, 36, 37, 38, 39, 40, 41, 42, 43, 44, 45, 46, 47, 48, 49, 50, 51, 52, 53, 54, 55, 56, 57] [] rfl rfl (by decide) (by decide) (fun u H locs hok hw => ?_)
        obtain ⟨I27, J27, B27, D27⟩ := u
        dsimp only at hok
        have hw : zW G A s.heap (wM ad K I27 J27 B27 D27) H locs := hw
        refine lv_aload_n hx hb zd_LassoFinderModel_expression_191 rfl (lv_at hl 0 rfl) ?_
        refine lv_dup hx hb zd_LassoFinderModel_expression_192 rfl ?_
        refine z_get (v := .int (I27 2)) hx hb hts hown hK hw zZ12 0 rfl 3 (by decide) zm_335 rfl zd_LassoFinderModel_expression_193 ?_
        refine lv_iconst (v := 1) hx hb zd_LassoFinderModel_expression_196 (by decide) ?_
        refine lv_iadd hx hb zd_LassoFinderModel_expression_197 ?_
        refine lv_topi (fun z28 ez28 => ?_)
        have hok := hok z28 ez28
        refine z_put (v := .int z28) hx hb hts hown hK hw zZ12 0 rfl 3 (by decide) zm_335 rfl rfl rfl (Nat.le_of_ble_eq_true rfl) zd_LassoFinderModel_expression_198 (fun H locs hw => ?_)
        have hw : zW G A s.heap (wM ad K (upd I27 2 z28) J27 B27 D27) H locs := hw
        refine lv_iconst (v := 0) hx hb zd_LassoFinderModel_expression_201 (by decide) ?_
        refine lv_istore hx hb zd_LassoFinderModel_expression_202 hl (by decide) rfl (fun ls hl => ?_)
        have hl : lv_has ls 9 [(4, .int 0), (0, .ref (ad 0)), (1, .int x1), (2, .int x2), (3, .int x3), (5, .int x5)] := hl
        refine lv_goto (tgt := 438) hx hb zd_LassoFinderModel_expression_204 (by decide) ?_
        exact hj_438 x1 x2 x3 0 x5 (upd I27 2 z28) J27 B27 D27 ls H locs hok (lv_sub hl [1, 2, 3, 4, 0, 5] rfl) hw
      have hj_152 : ∀ (x1 : Int32) (x2 : Int32) (x3 : Int32) (x5 : Int32) (x7 : Int32) (x8 : Int32) (I : Nat → Int32) (J : Nat → Int64) (B : Nat → Nat → Int32) (D : Nat → Nat → Int64) (ls : Array Slot) (H : Heap) (locs : List Loc), wc_LassoFinderModel_expression_152 a0 (wl_LassoFinderModel_expression_15 a0 Post n_15) Post x1 x2 x3 x5 x7 x8 I J B D → lv_has ls 9 [(0, .ref (ad 0)), (1, .int x1), (2, .int x2), (3, .int x3), (5, .int x5), (7, .int x7), (8, .int x8)] → zW G A s.heap (wM ad K I J B D) H locs → W p l e { frames := 2, cells := 0, slots := 0, locals := 44 } s m ([.ref (ad 0), .int a0] : List Value).toArray below meth c H locs 0 0 (MQ below (va_Qi (fun (r : Int32) (u : zS) => Post r u.1 u.2.1 u.2.2.1 u.2.2.2) (fun u t => zPost G K A (wM ad K u.1 u.2.1 u.2.2.1 u.2.2.2) t) A) ([.ref (ad 0), .int a0] : List Value).toArray s 0 0 A) (F0 m 152 ls []) := by
        intro x1 x2 x3 x5 x7 x8 I J B D ls H locs hok hl hw
        unfold wc_LassoFinderModel_expression_152 at hok
        refine lv_iload_n hx hb zd_LassoFinderModel_expression_152 rfl (lv_at hl 2 rfl) ?_
        refine lv_bipush (v := 12) hx hb zd_LassoFinderModel_expression_153 (by decide) ?_
        refine lv_icmp_ne (tgt := 163) hx hb zd_LassoFinderModel_expression_155 (by decide) (fun hc29 => ?_) (fun hc29 => ?_)
        · have hok := hok.1 hc29
          obtain ⟨z30, ez30⟩ : ∃ z : Int32, z = (x2 + 1) := ⟨_, rfl⟩
          have hok := hok z30 ez30
          refine lv_iinc (v := z30) hx hb zd_LassoFinderModel_expression_163 hl (k := 2) rfl ez30.symm (by decide) rfl (fun ls hl => ?_)
          have hl : lv_has ls 9 [(2, .int z30), (0, .ref (ad 0)), (1, .int x1), (3, .int x3), (5, .int x5), (7, .int x7), (8, .int x8)] := hl
          refine lv_aload_n hx hb zd_LassoFinderModel_expression_166 rfl (lv_at hl 1 rfl) ?_
          refine lv_iload hx hb zd_LassoFinderModel_expression_167 (lv_at hl 6 rfl) ?_
          refine lv_if_eq (tgt := 180) hx hb zd_LassoFinderModel_expression_169 (by decide) (fun hc31 => ?_) (fun hc31 => ?_)
          · have hok := hok.1 hc31
            refine lv_aload_n hx hb zd_LassoFinderModel_expression_180 rfl (lv_at hl 1 rfl) ?_
            refine lv_bipush (v := 48) hx hb zd_LassoFinderModel_expression_181 (by decide) ?_
            refine lv_bipush (v := 8) hx hb zd_LassoFinderModel_expression_183 (by decide) ?_
            refine z_calli (w1 := fun (u : zS) => wM ad K u.1 u.2.1 u.2.2.1 u.2.2.2) (wr := []) (z_runV (q0 := 0) (wc := (wM ad K I J B D)) (As := [.int 48, .int 8]) (rest := [.ref (ad 0)]) ⟨hx, hb, hml, hown, hts⟩ (w_LassoFinderModel_from l G K ad I J B D 48 8 _ H.size hok) zf_LassoFinderModel_from zm_344 ⟨Nat.le_of_ble_eq_true rfl, Nat.le_of_ble_eq_true rfl⟩ hK hw [0, 1, 2, 3, 4, 5, 6, 7, 8, 9, 10, 11, 12, 13, 14, 15, 16, 17, 18, 19, 20, 21, 22, 23, 24, 25, 26, 27, 28, 29, 30, 31, 32, 33, 34, 35, 36, 37, 38, 39, 40, 41, 42, 43, 44, 45, 46, 47, 48, 49, 50, 51, 52, 53, 54, 55, 56, 57] rfl (by decide) rfl rfl rfl hl.1 rfl (Nat.le_of_ble_eq_true rfl) zd_LassoFinderModel_expression_185 ⟨Nat.le_of_ble_eq_true rfl, Nat.le_of_ble_eq_true rfl⟩) hw hA [0, 1, 2, 3, 4, 5, 6, 7, 8, 9, 10, 11, 12, 13, 14, 15, 16, 17, 18, 19, 20, 21, 22, 23, 24, 25, 26, 27, 28, 29, 30, 31, 32, 33, 34, 35, 36, 37, 38, 39, 40, 41, 42, 43, 44, 45, 46, 47, 48, 49, 50, 51, 52, 53, 54, 55, 56, 57] [] rfl rfl (by decide) (by decide) (fun r32 u H locs hok hw => ?_)
            obtain ⟨I32, J32, B32, D32⟩ := u
            dsimp only at hok
            have hw : zW G A s.heap (wM ad K I32 J32 B32 D32) H locs := hw
            exact hj_188 x1 z30 x3 x5 r32 I32 J32 B32 D32 ls H locs hok (lv_sub hl [1, 2, 0, 3, 4] rfl) hw
          · have hok := hok.2 hc31
            refine lv_bipush (v := 8) hx hb zd_LassoFinderModel_expression_172 (by decide) ?_
            refine lv_iload hx hb zd_LassoFinderModel_expression_174 (lv_at hl 5 rfl) ?_
            refine lv_iadd hx hb zd_LassoFinderModel_expression_176 ?_
            refine lv_topi (fun z33 ez33 => ?_)
            have hok := hok z33 ez33
            refine lv_goto (tgt := 188) hx hb zd_LassoFinderModel_expression_177 (by decide) ?_
            exact hj_188 x1 z30 x3 x5 z33 I J B D ls H locs hok (lv_sub hl [1, 2, 0, 3, 4] rfl) hw
        · have hok := hok.2 hc29
          exact hj_158 I J B D ls H locs hok (lv_sub hl [0] rfl) hw
      have hj_134 : ∀ (x1 : Int32) (x2 : Int32) (x3 : Int32) (x5 : Int32) (x7 : Int32) (y0 : Int32) (I : Nat → Int32) (J : Nat → Int64) (B : Nat → Nat → Int32) (D : Nat → Nat → Int64) (ls : Array Slot) (H : Heap) (locs : List Loc), wc_LassoFinderModel_expression_134 a0 (wl_LassoFinderModel_expression_15 a0 Post n_15) Post x1 x2 x3 x5 x7 y0 I J B D → lv_has ls 9 [(0, .ref (ad 0)), (1, .int x1), (2, .int x2), (3, .int x3), (5, .int x5), (7, .int x7)] → zW G A s.heap (wM ad K I J B D) H locs → W p l e { frames := 2, cells := 0, slots := 0, locals := 44 } s m ([.ref (ad 0), .int a0] : List Value).toArray below meth c H locs 0 0 (MQ below (va_Qi (fun (r : Int32) (u : zS) => Post r u.1 u.2.1 u.2.2.1 u.2.2.2) (fun u t => zPost G K A (wM ad K u.1 u.2.1 u.2.2.1 u.2.2.2) t) A) ([.ref (ad 0), .int a0] : List Value).toArray s 0 0 A) (F0 m 134 ls [.int y0]) := by
        intro x1 x2 x3 x5 x7 y0 I J B D ls H locs hok hl hw
        unfold wc_LassoFinderModel_expression_134 at hok
        refine lv_istore hx hb zd_LassoFinderModel_expression_134 hl (by decide) rfl (fun ls hl => ?_)
        have hl : lv_has ls 9 [(8, .int y0), (0, .ref (ad 0)), (1, .int x1), (2, .int x2), (3, .int x3), (5, .int x5), (7, .int x7)] := hl
        refine lv_iload hx hb zd_LassoFinderModel_expression_136 (lv_at hl 0 rfl) ?_
        refine lv_if_ne (tgt := 152) hx hb zd_LassoFinderModel_expression_138 (by decide) (fun hc34 => ?_) (fun hc34 => ?_)
        · have hok := hok.1 hc34
          exact hj_152 x1 x2 x3 x5 x7 y0 I J B D ls H locs hok (lv_sub hl [1, 2, 3, 4, 5, 6, 0] rfl) hw
        · have hok := hok.2 hc34
          refine lv_aload_n hx hb zd_LassoFinderModel_expression_141 rfl (lv_at hl 1 rfl) ?_
          refine lv_bipush (v := 48) hx hb zd_LassoFinderModel_expression_142 (by decide) ?_
          refine lv_bipush (v := 8) hx hb zd_LassoFinderModel_expression_144 (by decide) ?_
          refine z_calli (w1 := fun (u : zS) => wM ad K u.1 u.2.1 u.2.2.1 u.2.2.2) (wr := []) (z_runV (q0 := 0) (wc := (wM ad K I J B D)) (As := [.int 48, .int 8]) (rest := []) ⟨hx, hb, hml, hown, hts⟩ (w_LassoFinderModel_from l G K ad I J B D 48 8 _ H.size hok) zf_LassoFinderModel_from zm_344 ⟨Nat.le_of_ble_eq_true rfl, Nat.le_of_ble_eq_true rfl⟩ hK hw [0, 1, 2, 3, 4, 5, 6, 7, 8, 9, 10, 11, 12, 13, 14, 15, 16, 17, 18, 19, 20, 21, 22, 23, 24, 25, 26, 27, 28, 29, 30, 31, 32, 33, 34, 35, 36, 37, 38, 39, 40, 41, 42, 43, 44, 45, 46, 47, 48, 49, 50, 51, 52, 53, 54, 55, 56, 57] rfl (by decide) rfl rfl rfl hl.1 rfl (Nat.le_of_ble_eq_true rfl) zd_LassoFinderModel_expression_146 ⟨Nat.le_of_ble_eq_true rfl, Nat.le_of_ble_eq_true rfl⟩) hw hA [0, 1, 2, 3, 4, 5, 6, 7, 8, 9, 10, 11, 12, 13, 14, 15, 16, 17, 18, 19, 20, 21, 22, 23, 24, 25, 26, 27, 28, 29, 30, 31, 32, 33, 34, 35, 36, 37, 38, 39, 40, 41, 42, 43, 44, 45, 46, 47, 48, 49, 50, 51, 52, 53, 54, 55, 56, 57] [] rfl rfl (by decide) (by decide) (fun r35 u H locs hok hw => ?_)
          obtain ⟨I35, J35, B35, D35⟩ := u
          dsimp only at hok
          have hw : zW G A s.heap (wM ad K I35 J35 B35 D35) H locs := hw
          refine lv_if_lt (tgt := 158) hx hb zd_LassoFinderModel_expression_149 (by decide) (fun hc36 => ?_) (fun hc36 => ?_)
          · have hok := hok.1 hc36
            exact hj_158 I35 J35 B35 D35 ls H locs hok (lv_sub hl [1] rfl) hw
          · have hok := hok.2 hc36
            exact hj_152 x1 x2 x3 x5 x7 y0 I35 J35 B35 D35 ls H locs hok (lv_sub hl [1, 2, 3, 4, 5, 6, 0] rfl) hw
      have hj_133 : ∀ (x1 : Int32) (x2 : Int32) (x3 : Int32) (x5 : Int32) (x7 : Int32) (I : Nat → Int32) (J : Nat → Int64) (B : Nat → Nat → Int32) (D : Nat → Nat → Int64) (ls : Array Slot) (H : Heap) (locs : List Loc), wc_LassoFinderModel_expression_133 a0 (wl_LassoFinderModel_expression_15 a0 Post n_15) Post x1 x2 x3 x5 x7 I J B D → lv_has ls 9 [(0, .ref (ad 0)), (1, .int x1), (2, .int x2), (3, .int x3), (5, .int x5), (7, .int x7)] → zW G A s.heap (wM ad K I J B D) H locs → W p l e { frames := 2, cells := 0, slots := 0, locals := 44 } s m ([.ref (ad 0), .int a0] : List Value).toArray below meth c H locs 0 0 (MQ below (va_Qi (fun (r : Int32) (u : zS) => Post r u.1 u.2.1 u.2.2.1 u.2.2.2) (fun u t => zPost G K A (wM ad K u.1 u.2.1 u.2.2.1 u.2.2.2) t) A) ([.ref (ad 0), .int a0] : List Value).toArray s 0 0 A) (F0 m 133 ls []) := by
        intro x1 x2 x3 x5 x7 I J B D ls H locs hok hl hw
        unfold wc_LassoFinderModel_expression_133 at hok
        refine lv_iconst (v := 0) hx hb zd_LassoFinderModel_expression_133 (by decide) ?_
        exact hj_134 x1 x2 x3 x5 x7 0 I J B D ls H locs hok (lv_sub hl [0, 1, 2, 3, 4, 5] rfl) hw
      have hj_129 : ∀ (x1 : Int32) (x2 : Int32) (x3 : Int32) (x5 : Int32) (x7 : Int32) (I : Nat → Int32) (J : Nat → Int64) (B : Nat → Nat → Int32) (D : Nat → Nat → Int64) (ls : Array Slot) (H : Heap) (locs : List Loc), wc_LassoFinderModel_expression_129 a0 (wl_LassoFinderModel_expression_15 a0 Post n_15) Post x1 x2 x3 x5 x7 I J B D → lv_has ls 9 [(0, .ref (ad 0)), (1, .int x1), (2, .int x2), (3, .int x3), (5, .int x5), (7, .int x7)] → zW G A s.heap (wM ad K I J B D) H locs → W p l e { frames := 2, cells := 0, slots := 0, locals := 44 } s m ([.ref (ad 0), .int a0] : List Value).toArray below meth c H locs 0 0 (MQ below (va_Qi (fun (r : Int32) (u : zS) => Post r u.1 u.2.1 u.2.2.1 u.2.2.2) (fun u t => zPost G K A (wM ad K u.1 u.2.1 u.2.2.1 u.2.2.2) t) A) ([.ref (ad 0), .int a0] : List Value).toArray s 0 0 A) (F0 m 129 ls []) := by
        intro x1 x2 x3 x5 x7 I J B D ls H locs hok hl hw
        unfold wc_LassoFinderModel_expression_129 at hok
        refine lv_iconst (v := 1) hx hb zd_LassoFinderModel_expression_129 (by decide) ?_
        refine lv_goto (tgt := 134) hx hb zd_LassoFinderModel_expression_130 (by decide) ?_
        exact hj_134 x1 x2 x3 x5 x7 1 I J B D ls H locs hok (lv_sub hl [0, 1, 2, 3, 4, 5] rfl) hw
      have hj_99 : ∀ (x1 : Int32) (x2 : Int32) (x3 : Int32) (x4 : Int32) (x5 : Int32) (x6 : Int32) (x7 : Int32) (I : Nat → Int32) (J : Nat → Int64) (B : Nat → Nat → Int32) (D : Nat → Nat → Int64) (ls : Array Slot) (H : Heap) (locs : List Loc), wc_LassoFinderModel_expression_99 a0 (wl_LassoFinderModel_expression_15 a0 Post n_15) Post x1 x2 x3 x4 x5 x6 x7 I J B D → lv_has ls 9 [(0, .ref (ad 0)), (1, .int x1), (2, .int x2), (3, .int x3), (4, .int x4), (5, .int x5), (6, .int x6), (7, .int x7)] → zW G A s.heap (wM ad K I J B D) H locs → W p l e { frames := 2, cells := 0, slots := 0, locals := 44 } s m ([.ref (ad 0), .int a0] : List Value).toArray below meth c H locs 0 0 (MQ below (va_Qi (fun (r : Int32) (u : zS) => Post r u.1 u.2.1 u.2.2.1 u.2.2.2) (fun u t => zPost G K A (wM ad K u.1 u.2.1 u.2.2.1 u.2.2.2) t) A) ([.ref (ad 0), .int a0] : List Value).toArray s 0 0 A) (F0 m 99 ls []) := by
        intro x1 x2 x3 x4 x5 x6 x7 I J B D ls H locs hok hl hw
        unfold wc_LassoFinderModel_expression_99 at hok
        refine lv_iload hx hb zd_LassoFinderModel_expression_99 (lv_at hl 4 rfl) ?_
        refine lv_if_eq (tgt := 207) hx hb zd_LassoFinderModel_expression_101 (by decide) (fun hc37 => ?_) (fun hc37 => ?_)
        · have hok := hok.1 hc37
          refine lv_iload hx hb zd_LassoFinderModel_expression_207 (lv_at hl 6 rfl) ?_
          refine lv_bipush (v := 41) hx hb zd_LassoFinderModel_expression_209 (by decide) ?_
          refine lv_icmp_ne (tgt := 250) hx hb zd_LassoFinderModel_expression_211 (by decide) (fun hc38 => ?_) (fun hc38 => ?_)
          · have hok := hok.1 hc38
            exact hj_250 x1 x2 x3 x5 x6 I J B D ls H locs hok (lv_sub hl [0, 1, 2, 3, 5, 6] rfl) hw
          · have hok := hok.2 hc38
            refine lv_iload_n hx hb zd_LassoFinderModel_expression_214 rfl (lv_at hl 3 rfl) ?_
            refine lv_iload_n hx hb zd_LassoFinderModel_expression_215 rfl (lv_at hl 1 rfl) ?_
            refine lv_icmp_le (tgt := 250) hx hb zd_LassoFinderModel_expression_216 (by decide) (fun hc39 => ?_) (fun hc39 => ?_)
            · have hok := hok.1 hc39
              exact hj_250 x1 x2 x3 x5 x6 I J B D ls H locs hok (lv_sub hl [0, 1, 2, 3, 5, 6] rfl) hw
            · have hok := hok.2 hc39
              refine lv_aload_n hx hb zd_LassoFinderModel_expression_219 rfl (lv_at hl 0 rfl) ?_
              refine lv_iconst (v := 1) hx hb zd_LassoFinderModel_expression_220 (by decide) ?_
              refine z_callv (w1 := fun (u : zS) => wM ad K u.1 u.2.1 u.2.2.1 u.2.2.2) (wr := []) (z_runV (q0 := 0) (wc := (wM ad K I J B D)) (As := [.int 1]) (rest := []) ⟨hx, hb, hml, hown, hts⟩ (w_LassoFinderModel_settle l G K ad I J B D 1 _ H.size hok) zf_LassoFinderModel_settle zm_350 ⟨Nat.le_of_ble_eq_true rfl, Nat.le_of_ble_eq_true rfl⟩ hK hw [0, 1, 2, 3, 4, 5, 6, 7, 8, 9, 10, 11, 12, 13, 14, 15, 16, 17, 18, 19, 20, 21, 22, 23, 24, 25, 26, 27, 28, 29, 30, 31, 32, 33, 34, 35, 36, 37, 38, 39, 40, 41, 42, 43, 44, 45, 46, 47, 48, 49, 50, 51, 52, 53, 54, 55, 56, 57] rfl (by decide) rfl rfl rfl hl.1 rfl (Nat.le_of_ble_eq_true rfl) zd_LassoFinderModel_expression_221 ⟨Nat.le_of_ble_eq_true rfl, Nat.le_of_ble_eq_true rfl⟩) hw hA [0, 1, 2, 3, 4, 5, 6, 7, 8, 9, 10, 11, 12, 13, 14, 15, 16, 17, 18, 19, 20, 21, 22, 23, 24, 25, 26, 27, 28, 29, 30, 31, 32, 33, 34, 35, 36, 37, 38, 39, 40, 41, 42, 43, 44, 45, 46, 47, 48, 49, 50, 51, 52, 53, 54, 55, 56, 57] [] rfl rfl (by decide) (by decide) (fun u H locs hok hw => ?_)
              obtain ⟨I40, J40, B40, D40⟩ := u
              dsimp only at hok
              have hw : zW G A s.heap (wM ad K I40 J40 B40 D40) H locs := hw
              refine lv_aload_n hx hb zd_LassoFinderModel_expression_224 rfl (lv_at hl 0 rfl) ?_
              refine lv_dup hx hb zd_LassoFinderModel_expression_225 rfl ?_
              refine z_get (v := .int (I40 13)) hx hb hts hown hK hw zZ12 0 rfl 42 (by decide) zm_348 rfl zd_LassoFinderModel_expression_226 ?_
              refine lv_iconst (v := 1) hx hb zd_LassoFinderModel_expression_229 (by decide) ?_
              refine lv_isub hx hb zd_LassoFinderModel_expression_230 ?_
              refine lv_topi (fun z41 ez41 => ?_)
              have hok := hok z41 ez41
              refine z_put (v := .int z41) hx hb hts hown hK hw zZ12 0 rfl 42 (by decide) zm_348 rfl rfl rfl (Nat.le_of_ble_eq_true rfl) zd_LassoFinderModel_expression_231 (fun H locs hw => ?_)
              have hw : zW G A s.heap (wM ad K (upd I40 13 z41) J40 B40 D40) H locs := hw
              obtain ⟨z42, ez42⟩ : ∃ z : Int32, z = (x3 + (-1)) := ⟨_, rfl⟩
              have hok := hok z42 ez42
              refine lv_iinc (v := z42) hx hb zd_LassoFinderModel_expression_234 hl (k := 3) rfl ez42.symm (by decide) rfl (fun ls hl => ?_)
              have hl : lv_has ls 9 [(3, .int z42), (0, .ref (ad 0)), (1, .int x1), (2, .int x2), (4, .int x4), (5, .int x5), (6, .int x6), (7, .int x7)] := hl
              refine lv_aload_n hx hb zd_LassoFinderModel_expression_237 rfl (lv_at hl 1 rfl) ?_
              refine lv_dup hx hb zd_LassoFinderModel_expression_238 rfl ?_
              refine z_get (v := .int (I40 2)) hx hb hts hown hK hw zZ12 0 rfl 3 (by decide) zm_335 rfl zd_LassoFinderModel_expression_239 ?_
              refine lv_iconst (v := 1) hx hb zd_LassoFinderModel_expression_242 (by decide) ?_
              refine lv_iadd hx hb zd_LassoFinderModel_expression_243 ?_
              refine lv_topi (fun z43 ez43 => ?_)
              have hok := hok z43 ez43
              refine z_put (v := .int z43) hx hb hts hown hK hw zZ12 0 rfl 3 (by decide) zm_335 rfl rfl rfl (Nat.le_of_ble_eq_true rfl) zd_LassoFinderModel_expression_244 (fun H locs hw => ?_)
              have hw : zW G A s.heap (wM ad K (upd (upd I40 13 z41) 2 z43) J40 B40 D40) H locs := hw
              refine lv_goto (tgt := 438) hx hb zd_LassoFinderModel_expression_247 (by decide) ?_
              exact hj_438 x1 x2 z42 x4 x5 (upd (upd I40 13 z41) 2 z43) J40 B40 D40 ls H locs hok (lv_sub hl [1, 2, 3, 0, 4, 5] rfl) hw
        · have hok := hok.2 hc37
          refine lv_iload hx hb zd_LassoFinderModel_expression_104 (lv_at hl 7 rfl) ?_
          refine lv_if_lt (tgt := 133) hx hb zd_LassoFinderModel_expression_106 (by decide) (fun hc44 => ?_) (fun hc44 => ?_)
          · have hok := hok.1 hc44
            exact hj_133 x1 x2 x3 x5 x7 I J B D ls H locs hok (lv_sub hl [0, 1, 2, 3, 5, 7] rfl) hw
          · have hok := hok.2 hc44
            refine lv_aload_n hx hb zd_LassoFinderModel_expression_109 rfl (lv_at hl 0 rfl) ?_
            refine z_get (v := .ref (ad 2)) hx hb hts hown hK hw zZ12 0 rfl 9 (by decide) zm_236 rfl zd_LassoFinderModel_expression_110 ?_
            refine lv_iload hx hb zd_LassoFinderModel_expression_113 (lv_at hl 7 rfl) ?_
            refine va_iald (f := (B 1)) hx hb hK hw.1 2 0 rfl rfl hok.1 zd_LassoFinderModel_expression_115 ?_
            have hok := hok.2
            refine lv_topi (fun z45 ez45 => ?_)
            have hok := hok z45 ez45
            refine lv_if_ge (tgt := 129) hx hb zd_LassoFinderModel_expression_116 (by decide) (fun hc46 => ?_) (fun hc46 => ?_)
            · have hok := hok.1 hc46
              exact hj_129 x1 x2 x3 x5 x7 I J B D ls H locs hok (lv_sub hl [0, 1, 2, 3, 5, 7] rfl) hw
            · have hok := hok.2 hc46
              refine lv_aload_n hx hb zd_LassoFinderModel_expression_119 rfl (lv_at hl 0 rfl) ?_
              refine z_get (v := .ref (ad 3)) hx hb hts hown hK hw zZ12 0 rfl 10 (by decide) zm_237 rfl zd_LassoFinderModel_expression_120 ?_
              refine lv_iload hx hb zd_LassoFinderModel_expression_123 (lv_at hl 7 rfl) ?_
              refine va_iald (f := (B 2)) hx hb hK hw.1 3 0 rfl rfl hok.1 zd_LassoFinderModel_expression_125 ?_
              have hok := hok.2
              refine lv_topi (fun z47 ez47 => ?_)
              have hok := hok z47 ez47
              refine lv_if_lt (tgt := 133) hx hb zd_LassoFinderModel_expression_126 (by decide) (fun hc48 => ?_) (fun hc48 => ?_)
              · have hok := hok.1 hc48
                exact hj_133 x1 x2 x3 x5 x7 I J B D ls H locs hok (lv_sub hl [0, 1, 2, 3, 5, 7] rfl) hw
              · have hok := hok.2 hc48
                exact hj_129 x1 x2 x3 x5 x7 I J B D ls H locs hok (lv_sub hl [0, 1, 2, 3, 5, 7] rfl) hw
      intro x1 x2 x3 x4 x5 I J B D ls H locs hok hl hw
      have hok : wb_LassoFinderModel_expression_15 a0 (wl_LassoFinderModel_expression_15 a0 Post n_15) Post x1 x2 x3 x4 x5 I J B D := hok
      unfold wb_LassoFinderModel_expression_15 at hok
      refine lv_iload hx hb zd_LassoFinderModel_expression_15 (lv_at hl 5 rfl) ?_
      refine lv_aload_n hx hb zd_LassoFinderModel_expression_17 rfl (lv_at hl 0 rfl) ?_
      refine z_get (v := .int (I 1)) hx hb hts hown hK hw zZ12 0 rfl 1 (by decide) zm_294 rfl zd_LassoFinderModel_expression_18 ?_
      refine lv_icmp_gt (tgt := 444) hx hb zd_LassoFinderModel_expression_21 (by decide) (fun hc49 => ?_) (fun hc49 => ?_)
      · have hok := hok.1 hc49
        refine lv_aload_n hx hb zd_LassoFinderModel_expression_444 rfl (lv_at hl 0 rfl) ?_
        refine z_calli (w1 := fun (u : zS) => wM ad K u.1 u.2.1 u.2.2.1 u.2.2.2) (wr := []) (z_runV (q0 := 0) (wc := (wM ad K I J B D)) (As := []) (rest := []) ⟨hx, hb, hml, hown, hts⟩ (w_LassoFinderModel_fail l G K ad I J B D  _ H.size hok) zf_LassoFinderModel_fail zm_334 ⟨Nat.le_of_ble_eq_true rfl, Nat.le_of_ble_eq_true rfl⟩ hK hw [0, 1, 2, 3, 4, 5, 6, 7, 8, 9, 10, 11, 12, 13, 14, 15, 16, 17, 18, 19, 20, 21, 22, 23, 24, 25, 26, 27, 28, 29, 30, 31, 32, 33, 34, 35, 36, 37, 38, 39, 40, 41, 42, 43, 44, 45, 46, 47, 48, 49, 50, 51, 52, 53, 54, 55, 56, 57] rfl (by decide) rfl rfl rfl hl.1 rfl (Nat.le_of_ble_eq_true rfl) zd_LassoFinderModel_expression_445 ⟨Nat.le_of_ble_eq_true rfl, Nat.le_of_ble_eq_true rfl⟩) hw hA [0, 1, 2, 3, 4, 5, 6, 7, 8, 9, 10, 11, 12, 13, 14, 15, 16, 17, 18, 19, 20, 21, 22, 23, 24, 25, 26, 27, 28, 29, 30, 31, 32, 33, 34, 35, 36, 37, 38, 39, 40, 41, 42, 43, 44, 45, 46, 47, 48, 49, 50, 51, 52, 53, 54, 55, 56, 57] [] rfl rfl (by decide) (by decide) (fun r50 u H locs hok hw => ?_)
        obtain ⟨I50, J50, B50, D50⟩ := u
        dsimp only at hok
        have hw : zW G A s.heap (wM ad K I50 J50 B50 D50) H locs := hw
        have hbo := hok.1
        have hok := hok.2
        exact z_iret (u := (I50, J50, B50, D50)) hx hb hr hlocks (z_nar hbo) hw [0, 1, 2, 3, 4, 5, 6, 7, 8, 9, 10, 11, 12, 13, 14, 15, 16, 17, 18, 19, 20, 21, 22, 23, 24, 25, 26, 27, 28, 29, 30, 31, 32, 33, 34, 35, 36, 37, 38, 39, 40, 41, 42, 43, 44, 45, 46, 47, 48, 49, 50, 51, 52, 53, 54, 55, 56, 57] rfl (by decide) hok (Nat.le_of_ble_eq_true rfl) (Nat.le_of_ble_eq_true rfl) zd_LassoFinderModel_expression_448
      · have hok := hok.2 hc49
        refine lv_aload_n hx hb zd_LassoFinderModel_expression_24 rfl (lv_at hl 0 rfl) ?_
        refine z_calli (w1 := fun (u : zS) => wM ad K u.1 u.2.1 u.2.2.1 u.2.2.2) (wr := []) (z_runV (q0 := 0) (wc := (wM ad K I J B D)) (As := []) (rest := []) ⟨hx, hb, hml, hown, hts⟩ (w_LassoFinderModel_here l G K ad I J B D  _ H.size hok) zf_LassoFinderModel_here zm_332 ⟨Nat.le_of_ble_eq_true rfl, Nat.le_of_ble_eq_true rfl⟩ hK hw [0, 1, 2, 3, 4, 5, 6, 7, 8, 9, 10, 11, 12, 13, 14, 15, 16, 17, 18, 19, 20, 21, 22, 23, 24, 25, 26, 27, 28, 29, 30, 31, 32, 33, 34, 35, 36, 37, 38, 39, 40, 41, 42, 43, 44, 45, 46, 47, 48, 49, 50, 51, 52, 53, 54, 55, 56, 57] rfl (by decide) rfl rfl rfl hl.1 rfl (Nat.le_of_ble_eq_true rfl) zd_LassoFinderModel_expression_25 ⟨Nat.le_of_ble_eq_true rfl, Nat.le_of_ble_eq_true rfl⟩) hw hA [0, 1, 2, 3, 4, 5, 6, 7, 8, 9, 10, 11, 12, 13, 14, 15, 16, 17, 18, 19, 20, 21, 22, 23, 24, 25, 26, 27, 28, 29, 30, 31, 32, 33, 34, 35, 36, 37, 38, 39, 40, 41, 42, 43, 44, 45, 46, 47, 48, 49, 50, 51, 52, 53, 54, 55, 56, 57] [] rfl rfl (by decide) (by decide) (fun r51 u H locs hok hw => ?_)
        obtain ⟨I51, J51, B51, D51⟩ := u
        dsimp only at hok
        have hw : zW G A s.heap (wM ad K I51 J51 B51 D51) H locs := hw
        refine lv_istore hx hb zd_LassoFinderModel_expression_28 hl (by decide) rfl (fun ls hl => ?_)
        have hl : lv_has ls 9 [(6, .int r51), (0, .ref (ad 0)), (1, .int x1), (2, .int x2), (3, .int x3), (4, .int x4), (5, .int x5)] := hl
        refine lv_aload_n hx hb zd_LassoFinderModel_expression_30 rfl (lv_at hl 1 rfl) ?_
        refine lv_bipush (v := 97) hx hb zd_LassoFinderModel_expression_31 (by decide) ?_
        refine lv_bipush (v := 8) hx hb zd_LassoFinderModel_expression_33 (by decide) ?_
        refine z_calli (w1 := fun (u : zS) => wM ad K u.1 u.2.1 u.2.2.1 u.2.2.2) (wr := []) (z_runV (q0 := 0) (wc := (wM ad K I51 J51 B51 D51)) (As := [.int 97, .int 8]) (rest := []) ⟨hx, hb, hml, hown, hts⟩ (w_LassoFinderModel_from l G K ad I51 J51 B51 D51 97 8 _ H.size hok) zf_LassoFinderModel_from zm_344 ⟨Nat.le_of_ble_eq_true rfl, Nat.le_of_ble_eq_true rfl⟩ hK hw [0, 1, 2, 3, 4, 5, 6, 7, 8, 9, 10, 11, 12, 13, 14, 15, 16, 17, 18, 19, 20, 21, 22, 23, 24, 25, 26, 27, 28, 29, 30, 31, 32, 33, 34, 35, 36, 37, 38, 39, 40, 41, 42, 43, 44, 45, 46, 47, 48, 49, 50, 51, 52, 53, 54, 55, 56, 57] rfl (by decide) rfl rfl rfl hl.1 rfl (Nat.le_of_ble_eq_true rfl) zd_LassoFinderModel_expression_35 ⟨Nat.le_of_ble_eq_true rfl, Nat.le_of_ble_eq_true rfl⟩) hw hA [0, 1, 2, 3, 4, 5, 6, 7, 8, 9, 10, 11, 12, 13, 14, 15, 16, 17, 18, 19, 20, 21, 22, 23, 24, 25, 26, 27, 28, 29, 30, 31, 32, 33, 34, 35, 36, 37, 38, 39, 40, 41, 42, 43, 44, 45, 46, 47, 48, 49, 50, 51, 52, 53, 54, 55, 56, 57] [] rfl rfl (by decide) (by decide) (fun r52 u H locs hok hw => ?_)
        obtain ⟨I52, J52, B52, D52⟩ := u
        dsimp only at hok
        have hw : zW G A s.heap (wM ad K I52 J52 B52 D52) H locs := hw
        refine lv_istore hx hb zd_LassoFinderModel_expression_38 hl (by decide) rfl (fun ls hl => ?_)
        have hl : lv_has ls 9 [(7, .int r52), (6, .int r51), (0, .ref (ad 0)), (1, .int x1), (2, .int x2), (3, .int x3), (4, .int x4), (5, .int x5)] := hl
        refine lv_iload hx hb zd_LassoFinderModel_expression_40 (lv_at hl 6 rfl) ?_
        refine lv_if_eq (tgt := 99) hx hb zd_LassoFinderModel_expression_42 (by decide) (fun hc53 => ?_) (fun hc53 => ?_)
        · have hok := hok.1 hc53
          exact hj_99 x1 x2 x3 x4 x5 r51 r52 I52 J52 B52 D52 ls H locs hok (lv_sub hl [2, 3, 4, 5, 6, 7, 1, 0] rfl) hw
        · have hok := hok.2 hc53
          refine lv_iload hx hb zd_LassoFinderModel_expression_45 (lv_at hl 1 rfl) ?_
          refine lv_bipush (v := 40) hx hb zd_LassoFinderModel_expression_47 (by decide) ?_
          refine lv_icmp_ne (tgt := 99) hx hb zd_LassoFinderModel_expression_49 (by decide) (fun hc54 => ?_) (fun hc54 => ?_)
          · have hok := hok.1 hc54
            exact hj_99 x1 x2 x3 x4 x5 r51 r52 I52 J52 B52 D52 ls H locs hok (lv_sub hl [2, 3, 4, 5, 6, 7, 1, 0] rfl) hw
          · have hok := hok.2 hc54
            refine lv_iload_n hx hb zd_LassoFinderModel_expression_52 rfl (lv_at hl 5 rfl) ?_
            refine lv_iconst (v := 4) hx hb zd_LassoFinderModel_expression_53 (by decide) ?_
            refine lv_icmp_ne (tgt := 62) hx hb zd_LassoFinderModel_expression_54 (by decide) (fun hc55 => ?_) (fun hc55 => ?_)
            · have hok := hok.1 hc55
              obtain ⟨z56, ez56⟩ : ∃ z : Int32, z = (x3 + 1) := ⟨_, rfl⟩
              have hok := hok z56 ez56
              refine lv_iinc (v := z56) hx hb zd_LassoFinderModel_expression_62 hl (k := 5) rfl ez56.symm (by decide) rfl (fun ls hl => ?_)
              have hl : lv_has ls 9 [(3, .int z56), (7, .int r52), (6, .int r51), (0, .ref (ad 0)), (1, .int x1), (2, .int x2), (4, .int x4), (5, .int x5)] := hl
              refine lv_aload_n hx hb zd_LassoFinderModel_expression_65 rfl (lv_at hl 3 rfl) ?_
              refine z_get (v := .ref (ad 30)) hx hb hts hown hK hw zZ12 0 rfl 43 (by decide) zm_264 rfl zd_LassoFinderModel_expression_66 ?_
              refine lv_aload_n hx hb zd_LassoFinderModel_expression_69 rfl (lv_at hl 3 rfl) ?_
              refine z_get (v := .int (I52 13)) hx hb hts hown hK hw zZ12 0 rfl 42 (by decide) zm_348 rfl zd_LassoFinderModel_expression_70 ?_
              refine lv_bipush (v := 21) hx hb zd_LassoFinderModel_expression_73 (by decide) ?_
              refine va_iast (f := (B52 28)) hx hb hK hw.1 hw.2.1 hw.2.2 30 0 rfl rfl hok.1 zd_LassoFinderModel_expression_75 (fun H locs a1 a2 a3 => ?_)
              have hok := hok.2
              have hw : zW G A s.heap _ H locs := ⟨a1, a2, a3⟩
              have hw : zW G A s.heap (wM ad K I52 J52 (va_up B52 28 (upd (B52 28) (I52 13).toNatClampNeg 21)) D52) H locs := hw
              refine lv_aload_n hx hb zd_LassoFinderModel_expression_76 rfl (lv_at hl 3 rfl) ?_
              refine lv_dup hx hb zd_LassoFinderModel_expression_77 rfl ?_
              refine z_get (v := .int (I52 13)) hx hb hts hown hK hw zZ12 0 rfl 42 (by decide) zm_348 rfl zd_LassoFinderModel_expression_78 ?_
              refine lv_iconst (v := 1) hx hb zd_LassoFinderModel_expression_81 (by decide) ?_
              refine lv_iadd hx hb zd_LassoFinderModel_expression_82 ?_
              refine lv_topi (fun z57 ez57 => ?_)
              have hok := hok z57 ez57
              refine z_put (v := .int z57) hx hb hts hown hK hw zZ12 0 rfl 42 (by decide) zm_348 rfl rfl rfl (Nat.le_of_ble_eq_true rfl) zd_LassoFinderModel_expression_83 (fun H locs hw => ?_)
              have hw : zW G A s.heap (wM ad K (upd I52 13 z57) J52 (va_up B52 28 (upd (B52 28) (I52 13).toNatClampNeg 21)) D52) H locs := hw
              refine lv_aload_n hx hb zd_LassoFinderModel_expression_86 rfl (lv_at hl 3 rfl) ?_
              refine lv_dup hx hb zd_LassoFinderModel_expression_87 rfl ?_
              refine z_get (v := .int (I52 2)) hx hb hts hown hK hw zZ12 0 rfl 3 (by decide) zm_335 rfl zd_LassoFinderModel_expression_88 ?_
              refine lv_iconst (v := 1) hx hb zd_LassoFinderModel_expression_91 (by decide) ?_
              refine lv_iadd hx hb zd_LassoFinderModel_expression_92 ?_
              refine lv_topi (fun z58 ez58 => ?_)
              have hok := hok z58 ez58
              refine z_put (v := .int z58) hx hb hts hown hK hw zZ12 0 rfl 3 (by decide) zm_335 rfl rfl rfl (Nat.le_of_ble_eq_true rfl) zd_LassoFinderModel_expression_93 (fun H locs hw => ?_)
              have hw : zW G A s.heap (wM ad K (upd (upd I52 13 z57) 2 z58) J52 (va_up B52 28 (upd (B52 28) (I52 13).toNatClampNeg 21)) D52) H locs := hw
              refine lv_goto (tgt := 438) hx hb zd_LassoFinderModel_expression_96 (by decide) ?_
              exact hj_438 x1 x2 z56 x4 x5 (upd (upd I52 13 z57) 2 z58) J52 (va_up B52 28 (upd (B52 28) (I52 13).toNatClampNeg 21)) D52 ls H locs hok (lv_sub hl [3, 4, 5, 0, 6, 7] rfl) hw
            · have hok := hok.2 hc55
              refine lv_aload_n hx hb zd_LassoFinderModel_expression_57 rfl (lv_at hl 2 rfl) ?_
              refine z_calli (w1 := fun (u : zS) => wM ad K u.1 u.2.1 u.2.2.1 u.2.2.2) (wr := []) (z_runV (q0 := 0) (wc := (wM ad K I52 J52 B52 D52)) (As := []) (rest := []) ⟨hx, hb, hml, hown, hts⟩ (w_LassoFinderModel_fail l G K ad I52 J52 B52 D52  _ H.size hok) zf_LassoFinderModel_fail zm_334 ⟨Nat.le_of_ble_eq_true rfl, Nat.le_of_ble_eq_true rfl⟩ hK hw [0, 1, 2, 3, 4, 5, 6, 7, 8, 9, 10, 11, 12, 13, 14, 15, 16, 17, 18, 19, 20, 21, 22, 23, 24, 25, 26, 27, 28, 29, 30, 31, 32, 33, 34, 35, 36, 37, 38, 39, 40, 41, 42, 43, 44, 45, 46, 47, 48, 49, 50, 51, 52, 53, 54, 55, 56, 57] rfl (by decide) rfl rfl rfl hl.1 rfl (Nat.le_of_ble_eq_true rfl) zd_LassoFinderModel_expression_58 ⟨Nat.le_of_ble_eq_true rfl, Nat.le_of_ble_eq_true rfl⟩) hw hA [0, 1, 2, 3, 4, 5, 6, 7, 8, 9, 10, 11, 12, 13, 14, 15, 16, 17, 18, 19, 20, 21, 22, 23, 24, 25, 26, 27, 28, 29, 30, 31, 32, 33, 34, 35, 36, 37, 38, 39, 40, 41, 42, 43, 44, 45, 46, 47, 48, 49, 50, 51, 52, 53, 54, 55, 56, 57] [] rfl rfl (by decide) (by decide) (fun r59 u H locs hok hw => ?_)
              obtain ⟨I59, J59, B59, D59⟩ := u
              dsimp only at hok
              have hw : zW G A s.heap (wM ad K I59 J59 B59 D59) H locs := hw
              have hbo := hok.1
              have hok := hok.2
              exact z_iret (u := (I59, J59, B59, D59)) hx hb hr hlocks (z_nar hbo) hw [0, 1, 2, 3, 4, 5, 6, 7, 8, 9, 10, 11, 12, 13, 14, 15, 16, 17, 18, 19, 20, 21, 22, 23, 24, 25, 26, 27, 28, 29, 30, 31, 32, 33, 34, 35, 36, 37, 38, 39, 40, 41, 42, 43, 44, 45, 46, 47, 48, 49, 50, 51, 52, 53, 54, 55, 56, 57] rfl (by decide) hok (Nat.le_of_ble_eq_true rfl) (Nat.le_of_ble_eq_true rfl) zd_LassoFinderModel_expression_61
  have hl : lv_has ls 9 [(0, .ref (ad 0)), (1, .int a0)] := hl
  have hw : zW G A s.heap (wM ad K I J B D) H locs := hw
  unfold wp_LassoFinderModel_expression at hok
  refine lv_iconst (v := 0) hx hb zd_LassoFinderModel_expression_0 (by decide) ?_
  refine lv_istore_n hx hb zd_LassoFinderModel_expression_1 rfl hl (by decide) rfl (fun ls hl => ?_)
  have hl : lv_has ls 9 [(2, .int 0), (0, .ref (ad 0)), (1, .int a0)] := hl
  refine lv_iload_n hx hb zd_LassoFinderModel_expression_2 rfl (lv_at hl 2 rfl) ?_
  refine lv_istore_n hx hb zd_LassoFinderModel_expression_3 rfl hl (by decide) rfl (fun ls hl => ?_)
  have hl : lv_has ls 9 [(3, .int a0), (2, .int 0), (0, .ref (ad 0)), (1, .int a0)] := hl
  refine lv_iconst (v := 1) hx hb zd_LassoFinderModel_expression_4 (by decide) ?_
  refine lv_istore hx hb zd_LassoFinderModel_expression_5 hl (by decide) rfl (fun ls hl => ?_)
  have hl : lv_has ls 9 [(4, .int 1), (3, .int a0), (2, .int 0), (0, .ref (ad 0)), (1, .int a0)] := hl
  refine lv_aload_n hx hb zd_LassoFinderModel_expression_7 rfl (lv_at hl 3 rfl) ?_
  refine lv_iconst (v := 0) hx hb zd_LassoFinderModel_expression_8 (by decide) ?_
  refine z_put (v := .int 0) hx hb hts hown hK hw zZ12 0 rfl 42 (by decide) zm_348 rfl rfl rfl (Nat.le_of_ble_eq_true rfl) zd_LassoFinderModel_expression_9 (fun H locs hw => ?_)
  have hw : zW G A s.heap (wM ad K (upd I 13 0) J B D) H locs := hw
  refine lv_iconst (v := 0) hx hb zd_LassoFinderModel_expression_12 (by decide) ?_
  refine lv_istore hx hb zd_LassoFinderModel_expression_13 hl (by decide) rfl (fun ls hl => ?_)
  have hl : lv_has ls 9 [(5, .int 0), (4, .int 1), (3, .int a0), (2, .int 0), (0, .ref (ad 0)), (1, .int a0)] := hl
  obtain ⟨n9, hok⟩ := hok
  exact hl_15 n9 a0 0 a0 1 0 (upd I 13 0) J B D ls H locs hok (lv_sub hl [4, 5, 3, 2, 1, 0] rfl) hw
def wp_LassoFinderModel_takes (I : Nat → Int32) (J : Nat → Int64) (B : Nat → Nat → Int32) (D : Nat → Nat → Int64) (a0 : Int32) (Post : Int32 → (Nat → Int32) → (Nat → Int64) → (Nat → Nat → Int32) → (Nat → Nat → Int64) → Prop) : Prop :=
  wp_LassoFinderModel_here I J B D  (fun r1 I1 J1 B1 D1 => ((r1 = a0 → ∀ z3 : Int32, z3 = ((I1 2) + 1) → Post 1 (upd I1 2 z3) J1 B1 D1) ∧ (¬ r1 = a0 → wp_LassoFinderModel_fail I1 J1 B1 D1  (fun r4 I4 J4 B4 D4 => (r4 = 0 ∨ r4 = 1) ∧ Post r4 I4 J4 B4 D4))))
set_option maxHeartbeats 8000000 in
set_option maxRecDepth 100000 in
theorem w_LassoFinderModel_takes (l : Launch) (G : va_G) (K : Nat → ClassId) (ad : Nat → Nat) (I : Nat → Int32) (J : Nat → Int64) (B : Nat → Nat → Int32) (D : Nat → Nat → Int64) (a0 : Int32) (Post : Int32 → (Nat → Int32) → (Nat → Int64) → (Nat → Nat → Int32) → (Nat → Nat → Int64) → Prop) (sz : Nat) (hok : wp_LassoFinderModel_takes I J B D a0 Post) : Met l zy_LassoFinderModel_takes (Cond.code zy_LassoFinderModel_takes prog_14_method_7_code 2 (some .boolean) :: zTB) { frames := 1, cells := 0, slots := 0, locals := 20 } (va_Pc [.ref (ad 0), .int a0] (zPre G K (wM ad K I J B D) sz)) (va_Qi (fun (r : Int32) (u : zS) => Post r u.1 u.2.1 u.2.2.1 u.2.2.2) (fun u t => zPost G K (va_A (wM ad K I J B D) sz) (wM ad K u.1 u.2.1 u.2.2.1 u.2.2.2) t) (va_A (wM ad K I J B D) sz)) 0 0 (va_A (wM ad K I J B D) sz) := by
  refine zMet (y := zy_LassoFinderModel_takes) (av := [.ref (ad 0), .int a0]) (maxL := 2) (cc := prog_14_method_7_code) (ret := (some .boolean)) (W0 := (wM ad K I J B D)) (sz := sz) (G := G) (K := K) (wt := zTB) (mc := 0) (ms := 0) (Qf := fun A => va_Qi (fun (r : Int32) (u : zS) => Post r u.1 u.2.1 u.2.2.1 u.2.2.2) (fun u t => zPost G K A (wM ad K u.1 u.2.1 u.2.2.1 u.2.2.2) t) A) (by decide) (Nat.le_of_ble_eq_true rfl) ?_
  intro p e s m below meth c ls A hx hb hr hml hts hown hlocks hin hA hK H locs hw hsz hl
  clear hsz
  have hown : s.vm.findClass "LassoFinderModel" = some m.cls := hown
  have hl : lv_has ls 2 [(0, .ref (ad 0)), (1, .int a0)] := hl
  have hw : zW G A s.heap (wM ad K I J B D) H locs := hw
  unfold wp_LassoFinderModel_takes at hok
  refine lv_aload_n hx hb zd_LassoFinderModel_takes_0 rfl (lv_at hl 0 rfl) ?_
  refine z_calli (w1 := fun (u : zS) => wM ad K u.1 u.2.1 u.2.2.1 u.2.2.2) (wr := []) (z_runV (q0 := 0) (wc := (wM ad K I J B D)) (As := []) (rest := []) ⟨hx, hb, hml, hown, hts⟩ (w_LassoFinderModel_here l G K ad I J B D  _ H.size hok) zf_LassoFinderModel_here zm_332 ⟨Nat.le_of_ble_eq_true rfl, Nat.le_of_ble_eq_true rfl⟩ hK hw [0, 1, 2, 3, 4, 5, 6, 7, 8, 9, 10, 11, 12, 13, 14, 15, 16, 17, 18, 19, 20, 21, 22, 23, 24, 25, 26, 27, 28, 29, 30, 31, 32, 33, 34, 35, 36, 37, 38, 39, 40, 41, 42, 43, 44, 45, 46, 47, 48, 49, 50, 51, 52, 53, 54, 55, 56, 57] rfl (by decide) rfl rfl rfl hl.1 rfl (Nat.le_of_ble_eq_true rfl) zd_LassoFinderModel_takes_1 ⟨Nat.le_of_ble_eq_true rfl, Nat.le_of_ble_eq_true rfl⟩) hw hA [0, 1, 2, 3, 4, 5, 6, 7, 8, 9, 10, 11, 12, 13, 14, 15, 16, 17, 18, 19, 20, 21, 22, 23, 24, 25, 26, 27, 28, 29, 30, 31, 32, 33, 34, 35, 36, 37, 38, 39, 40, 41, 42, 43, 44, 45, 46, 47, 48, 49, 50, 51, 52, 53, 54, 55, 56, 57] [] rfl rfl (by decide) (by decide) (fun r1 u H locs hok hw => ?_)
  obtain ⟨I1, J1, B1, D1⟩ := u
  dsimp only at hok
  have hw : zW G A s.heap (wM ad K I1 J1 B1 D1) H locs := hw
  refine lv_iload_n hx hb zd_LassoFinderModel_takes_4 rfl (lv_at hl 1 rfl) ?_
  refine lv_icmp_eq (tgt := 13) hx hb zd_LassoFinderModel_takes_5 (by decide) (fun hc2 => ?_) (fun hc2 => ?_)
  · have hok := hok.1 hc2
    refine lv_aload_n hx hb zd_LassoFinderModel_takes_13 rfl (lv_at hl 0 rfl) ?_
    refine lv_dup hx hb zd_LassoFinderModel_takes_14 rfl ?_
    refine z_get (v := .int (I1 2)) hx hb hts hown hK hw zZ12 0 rfl 3 (by decide) zm_335 rfl zd_LassoFinderModel_takes_15 ?_
    refine lv_iconst (v := 1) hx hb zd_LassoFinderModel_takes_18 (by decide) ?_
    refine lv_iadd hx hb zd_LassoFinderModel_takes_19 ?_
    refine lv_topi (fun z3 ez3 => ?_)
    have hok := hok z3 ez3
    refine z_put (v := .int z3) hx hb hts hown hK hw zZ12 0 rfl 3 (by decide) zm_335 rfl rfl rfl (Nat.le_of_ble_eq_true rfl) zd_LassoFinderModel_takes_20 (fun H locs hw => ?_)
    have hw : zW G A s.heap (wM ad K (upd I1 2 z3) J1 B1 D1) H locs := hw
    refine lv_iconst (v := 1) hx hb zd_LassoFinderModel_takes_23 (by decide) ?_
    exact z_iret (u := ((upd I1 2 z3), J1, B1, D1)) hx hb hr hlocks rfl hw [0, 1, 2, 3, 4, 5, 6, 7, 8, 9, 10, 11, 12, 13, 14, 15, 16, 17, 18, 19, 20, 21, 22, 23, 24, 25, 26, 27, 28, 29, 30, 31, 32, 33, 34, 35, 36, 37, 38, 39, 40, 41, 42, 43, 44, 45, 46, 47, 48, 49, 50, 51, 52, 53, 54, 55, 56, 57] rfl (by decide) hok (Nat.le_of_ble_eq_true rfl) (Nat.le_of_ble_eq_true rfl) zd_LassoFinderModel_takes_24
  · have hok := hok.2 hc2
    refine lv_aload_n hx hb zd_LassoFinderModel_takes_8 rfl (lv_at hl 0 rfl) ?_
    refine z_calli (w1 := fun (u : zS) => wM ad K u.1 u.2.1 u.2.2.1 u.2.2.2) (wr := []) (z_runV (q0 := 0) (wc := (wM ad K I1 J1 B1 D1)) (As := []) (rest := []) ⟨hx, hb, hml, hown, hts⟩ (w_LassoFinderModel_fail l G K ad I1 J1 B1 D1  _ H.size hok) zf_LassoFinderModel_fail zm_334 ⟨Nat.le_of_ble_eq_true rfl, Nat.le_of_ble_eq_true rfl⟩ hK hw [0, 1, 2, 3, 4, 5, 6, 7, 8, 9, 10, 11, 12, 13, 14, 15, 16, 17, 18, 19, 20, 21, 22, 23, 24, 25, 26, 27, 28, 29, 30, 31, 32, 33, 34, 35, 36, 37, 38, 39, 40, 41, 42, 43, 44, 45, 46, 47, 48, 49, 50, 51, 52, 53, 54, 55, 56, 57] rfl (by decide) rfl rfl rfl hl.1 rfl (Nat.le_of_ble_eq_true rfl) zd_LassoFinderModel_takes_9 ⟨Nat.le_of_ble_eq_true rfl, Nat.le_of_ble_eq_true rfl⟩) hw hA [0, 1, 2, 3, 4, 5, 6, 7, 8, 9, 10, 11, 12, 13, 14, 15, 16, 17, 18, 19, 20, 21, 22, 23, 24, 25, 26, 27, 28, 29, 30, 31, 32, 33, 34, 35, 36, 37, 38, 39, 40, 41, 42, 43, 44, 45, 46, 47, 48, 49, 50, 51, 52, 53, 54, 55, 56, 57] [] rfl rfl (by decide) (by decide) (fun r4 u H locs hok hw => ?_)
    obtain ⟨I4, J4, B4, D4⟩ := u
    dsimp only at hok
    have hw : zW G A s.heap (wM ad K I4 J4 B4 D4) H locs := hw
    have hbo := hok.1
    have hok := hok.2
    exact z_iret (u := (I4, J4, B4, D4)) hx hb hr hlocks (z_nar hbo) hw [0, 1, 2, 3, 4, 5, 6, 7, 8, 9, 10, 11, 12, 13, 14, 15, 16, 17, 18, 19, 20, 21, 22, 23, 24, 25, 26, 27, 28, 29, 30, 31, 32, 33, 34, 35, 36, 37, 38, 39, 40, 41, 42, 43, 44, 45, 46, 47, 48, 49, 50, 51, 52, 53, 54, 55, 56, 57] rfl (by decide) hok (Nat.le_of_ble_eq_true rfl) (Nat.le_of_ble_eq_true rfl) zd_LassoFinderModel_takes_12
def wc_LassoFinderModel_basic_113 (a0 : Int32) (a1 : Int32) (Post : Int32 → (Nat → Int32) → (Nat → Int64) → (Nat → Nat → Int32) → (Nat → Nat → Int64) → Prop)  (I : Nat → Int32) (J : Nat → Int64) (B : Nat → Nat → Int32) (D : Nat → Nat → Int64) : Prop :=
  wp_LassoFinderModel_fail I J B D  (fun r1 I1 J1 B1 D1 => (r1 = 0 ∨ r1 = 1) ∧ Post r1 I1 J1 B1 D1)
def wc_LassoFinderModel_basic_376 (a0 : Int32) (a1 : Int32) (Post : Int32 → (Nat → Int32) → (Nat → Int64) → (Nat → Nat → Int32) → (Nat → Nat → Int64) → Prop) (x6 : Int32) (I : Nat → Int32) (J : Nat → Int64) (B : Nat → Nat → Int32) (D : Nat → Nat → Int64) : Prop :=
  wp_LassoFinderModel_expression I J B D 0 (fun r2 I2 J2 B2 D2 => ((¬ r2 = 0 → vp_in x6 140 ∧ Post 1 I2 J2 (va_up B2 15 (upd (B2 15) x6.toNatClampNeg (I2 11))) D2) ∧ (r2 = 0 → Post 0 I2 J2 B2 D2)))
def wc_LassoFinderModel_basic_326 (a0 : Int32) (a1 : Int32) (Post : Int32 → (Nat → Int32) → (Nat → Int64) → (Nat → Nat → Int32) → (Nat → Nat → Int64) → Prop)  (I : Nat → Int32) (J : Nat → Int64) (B : Nat → Nat → Int32) (D : Nat → Nat → Int64) : Prop :=
  wp_LassoFinderModel_fail I J B D  (fun r4 I4 J4 B4 D4 => (r4 = 0 ∨ r4 = 1) ∧ Post r4 I4 J4 B4 D4)
def wc_LassoFinderModel_basic_150 (a0 : Int32) (a1 : Int32) (Post : Int32 → (Nat → Int32) → (Nat → Int64) → (Nat → Nat → Int32) → (Nat → Nat → Int64) → Prop) (x1 : Int32) (x3 : Int32) (x4 : Int32) (y0 : Int32) (I : Nat → Int32) (J : Nat → Int64) (B : Nat → Nat → Int32) (D : Nat → Nat → Int64) : Prop :=
  wp_LassoFinderModel_node I J B D y0 (fun r5 I5 J5 B5 D5 => ∀ z6 : Int32, z6 = ((I5 2) + 1) → vp_in r5 140 ∧ vp_in r5 140 ∧ ((¬ x1 = 40 → ((¬ x4 = 0 → vp_in x3 8 ∧ ∀ z9 : Int32, z9 = ((B5 1) x3.toNatClampNeg) → ((z9 < 0 → vp_in x3 8 ∧ ∀ z11 : Int32, z11 = ((B5 2) x3.toNatClampNeg) → vp_in r5 140 ∧ wp_LassoFinderModel_here (upd I5 2 z6) J5 (va_up (va_up (va_up B5 14 (upd (B5 14) r5.toNatClampNeg (I5 11))) 15 (upd (B5 15) r5.toNatClampNeg (I5 11))) 12 (upd (B5 12) r5.toNatClampNeg z11)) D5  (fun r12 I12 J12 B12 D12 => ((¬ r12 = 63 → vp_in r5 140 ∧ wp_LassoFinderModel_takes I12 J12 (va_up B12 5 (upd (B12 5) r5.toNatClampNeg 2)) D12 33 (fun r14 I14 J14 B14 D14 => ((¬ r14 = 0 → wc_LassoFinderModel_basic_376 a0 a1 Post r5 I14 J14 B14 D14) ∧ (r14 = 0 → Post 0 I14 J14 B14 D14)))) ∧ (r12 = 63 → vp_in r5 140 ∧ ∀ z16 : Int32, z16 = ((I12 2) + 1) → wp_LassoFinderModel_from (upd I12 2 z16) J12 (va_up B12 5 (upd (B12 5) r5.toNatClampNeg 3)) D12 97 8 (fun r17 I17 J17 B17 D17 => ((r17 < 0 → wc_LassoFinderModel_basic_326 a0 a1 Post I17 J17 B17 D17) ∧ (¬ r17 < 0 → vp_in r17 8 ∧ ∀ z19 : Int32, z19 = ((B17 1) r17.toNatClampNeg) → (((0 : Int32) ≤ z19 → vp_in r17 8 ∧ ∀ z21 : Int32, z21 = ((B17 1) r17.toNatClampNeg) → vp_in r5 140 ∧ ∀ z22 : Int32, z22 = ((I17 2) + 1) → Post 1 (upd I17 2 z22) J17 (va_up B17 13 (upd (B17 13) r5.toNatClampNeg z21)) D17) ∧ (¬ (0 : Int32) ≤ z19 → wc_LassoFinderModel_basic_326 a0 a1 Post I17 J17 B17 D17))))))))) ∧ (¬ z9 < 0 → vp_in x3 8 ∧ ∀ z23 : Int32, z23 = ((B5 1) x3.toNatClampNeg) → vp_in r5 140 ∧ wp_LassoFinderModel_takes (upd I5 2 z6) J5 (va_up (va_up (va_up B5 14 (upd (B5 14) r5.toNatClampNeg (I5 11))) 15 (upd (B5 15) r5.toNatClampNeg (I5 11))) 12 (upd (B5 12) r5.toNatClampNeg z23)) D5 61 (fun r24 I24 J24 B24 D24 => ((¬ r24 = 0 → wc_LassoFinderModel_basic_376 a0 a1 Post r5 I24 J24 B24 D24) ∧ (r24 = 0 → Post 0 I24 J24 B24 D24)))))) ∧ (x4 = 0 → Post 1 (upd I5 2 z6) J5 (va_up (va_up B5 14 (upd (B5 14) r5.toNatClampNeg (I5 11))) 15 (upd (B5 15) r5.toNatClampNeg (I5 11))) D5))) ∧ (x1 = 40 → wp_LassoFinderModel_expression (upd I5 2 z6) J5 (va_up (va_up B5 14 (upd (B5 14) r5.toNatClampNeg (I5 11))) 15 (upd (B5 15) r5.toNatClampNeg (I5 11))) D5 1 (fun r26 I26 J26 B26 D26 => ((¬ r26 = 0 → vp_in r5 140 ∧ wp_LassoFinderModel_takes I26 J26 (va_up B26 15 (upd (B26 15) r5.toNatClampNeg (I26 11))) D26 41 (fun r28 I28 J28 B28 D28 => (r28 = 0 ∨ r28 = 1) ∧ Post r28 I28 J28 B28 D28)) ∧ (r26 = 0 → Post 0 I26 J26 B26 D26))))))
def wc_LassoFinderModel_basic_83 (a0 : Int32) (a1 : Int32) (Post : Int32 → (Nat → Int32) → (Nat → Int64) → (Nat → Nat → Int32) → (Nat → Nat → Int64) → Prop) (x1 : Int32) (x3 : Int32) (x4 : Int32) (y0 : Int32) (I : Nat → Int32) (J : Nat → Int64) (B : Nat → Nat → Int32) (D : Nat → Nat → Int64) : Prop :=
  ((y0 = 0 → wc_LassoFinderModel_basic_113 a0 a1 Post I J B D) ∧ (¬ y0 = 0 → (((I 9) = 48 → wc_LassoFinderModel_basic_113 a0 a1 Post I J B D) ∧ (¬ (I 9) = 48 → vp_in (I 10) 5 ∧ ∀ z31 : Int32, z31 = ((B 20) (I 10).toNatClampNeg) → ((¬ z31 = 30 → ((¬ x1 = 40 → ((¬ x1 = 45 → ((¬ x1 = 126 → wc_LassoFinderModel_basic_150 a0 a1 Post x1 x3 x4 0 I J B D) ∧ (x1 = 126 → wc_LassoFinderModel_basic_150 a0 a1 Post x1 x3 x4 5 I J B D))) ∧ (x1 = 45 → wc_LassoFinderModel_basic_150 a0 a1 Post x1 x3 x4 4 I J B D))) ∧ (x1 = 40 → wc_LassoFinderModel_basic_150 a0 a1 Post x1 x3 x4 1 I J B D))) ∧ (z31 = 30 → wc_LassoFinderModel_basic_113 a0 a1 Post I J B D))))))
def wc_LassoFinderModel_basic_78 (a0 : Int32) (a1 : Int32) (Post : Int32 → (Nat → Int32) → (Nat → Int64) → (Nat → Nat → Int32) → (Nat → Nat → Int64) → Prop) (x1 : Int32) (x3 : Int32) (x4 : Int32) (I : Nat → Int32) (J : Nat → Int64) (B : Nat → Nat → Int32) (D : Nat → Nat → Int64) : Prop :=
  wc_LassoFinderModel_basic_83 a0 a1 Post x1 x3 x4 1 I J B D
def wc_LassoFinderModel_basic_82 (a0 : Int32) (a1 : Int32) (Post : Int32 → (Nat → Int32) → (Nat → Int64) → (Nat → Nat → Int32) → (Nat → Nat → Int64) → Prop) (x1 : Int32) (x3 : Int32) (x4 : Int32) (I : Nat → Int32) (J : Nat → Int64) (B : Nat → Nat → Int32) (D : Nat → Nat → Int64) : Prop :=
  wc_LassoFinderModel_basic_83 a0 a1 Post x1 x3 x4 0 I J B D
def wc_LassoFinderModel_basic_36 (a0 : Int32) (a1 : Int32) (Post : Int32 → (Nat → Int32) → (Nat → Int64) → (Nat → Nat → Int32) → (Nat → Nat → Int64) → Prop) (x1 : Int32) (x2 : Int32) (x3 : Int32) (y0 : Int32) (I : Nat → Int32) (J : Nat → Int64) (B : Nat → Nat → Int32) (D : Nat → Nat → Int64) : Prop :=
  ((¬ y0 = 0 → wc_LassoFinderModel_basic_78 a0 a1 Post x1 x3 y0 I J B D) ∧ (y0 = 0 → ((x1 = 40 → wc_LassoFinderModel_basic_78 a0 a1 Post x1 x3 y0 I J B D) ∧ (¬ x1 = 40 → ((x1 = 45 → wc_LassoFinderModel_basic_78 a0 a1 Post x1 x3 y0 I J B D) ∧ (¬ x1 = 45 → ((¬ x1 = 126 → wc_LassoFinderModel_basic_82 a0 a1 Post x1 x3 y0 I J B D) ∧ (x1 = 126 → ((x2 = 0 → wc_LassoFinderModel_basic_82 a0 a1 Post x1 x3 y0 I J B D) ∧ (¬ x2 = 0 → vp_in (I 12) 8 ∧ ∀ z41 : Int32, z41 = ((B 25) (I 12).toNatClampNeg) → (((3 : Int32) ≤ z41 → wc_LassoFinderModel_basic_82 a0 a1 Post x1 x3 y0 I J B D) ∧ (¬ (3 : Int32) ≤ z41 → wc_LassoFinderModel_basic_78 a0 a1 Post x1 x3 y0 I J B D))))))))))))
def wc_LassoFinderModel_basic_35 (a0 : Int32) (a1 : Int32) (Post : Int32 → (Nat → Int32) → (Nat → Int64) → (Nat → Nat → Int32) → (Nat → Nat → Int64) → Prop) (x1 : Int32) (x2 : Int32) (x3 : Int32) (I : Nat → Int32) (J : Nat → Int64) (B : Nat → Nat → Int32) (D : Nat → Nat → Int64) : Prop :=
  wc_LassoFinderModel_basic_36 a0 a1 Post x1 x2 x3 0 I J B D
def wc_LassoFinderModel_basic_31 (a0 : Int32) (a1 : Int32) (Post : Int32 → (Nat → Int32) → (Nat → Int64) → (Nat → Nat → Int32) → (Nat → Nat → Int64) → Prop) (x1 : Int32) (x2 : Int32) (x3 : Int32) (I : Nat → Int32) (J : Nat → Int64) (B : Nat → Nat → Int32) (D : Nat → Nat → Int64) : Prop :=
  wc_LassoFinderModel_basic_36 a0 a1 Post x1 x2 x3 1 I J B D
def wp_LassoFinderModel_basic (I : Nat → Int32) (J : Nat → Int64) (B : Nat → Nat → Int32) (D : Nat → Nat → Int64) (a0 : Int32) (a1 : Int32) (Post : Int32 → (Nat → Int32) → (Nat → Int64) → (Nat → Nat → Int32) → (Nat → Nat → Int64) → Prop) : Prop :=
  wp_LassoFinderModel_from I J B D 97 8 (fun r43 I43 J43 B43 D43 => ((r43 < 0 → wc_LassoFinderModel_basic_35 a0 a1 Post a0 a1 r43 I43 J43 B43 D43) ∧ (¬ r43 < 0 → vp_in r43 8 ∧ ∀ z45 : Int32, z45 = ((B43 1) r43.toNatClampNeg) → (((0 : Int32) ≤ z45 → wc_LassoFinderModel_basic_31 a0 a1 Post a0 a1 r43 I43 J43 B43 D43) ∧ (¬ (0 : Int32) ≤ z45 → vp_in r43 8 ∧ ∀ z47 : Int32, z47 = ((B43 2) r43.toNatClampNeg) → ((z47 < 0 → wc_LassoFinderModel_basic_35 a0 a1 Post a0 a1 r43 I43 J43 B43 D43) ∧ (¬ z47 < 0 → wc_LassoFinderModel_basic_31 a0 a1 Post a0 a1 r43 I43 J43 B43 D43)))))))
set_option maxHeartbeats 8000000 in
set_option maxRecDepth 100000 in
theorem w_LassoFinderModel_basic (l : Launch) (G : va_G) (K : Nat → ClassId) (ad : Nat → Nat) (I : Nat → Int32) (J : Nat → Int64) (B : Nat → Nat → Int32) (D : Nat → Nat → Int64) (a0 : Int32) (a1 : Int32) (Post : Int32 → (Nat → Int32) → (Nat → Int64) → (Nat → Nat → Int32) → (Nat → Nat → Int64) → Prop) (sz : Nat) (hok : wp_LassoFinderModel_basic I J B D a0 a1 Post) : Met l zy_LassoFinderModel_basic (Cond.code zy_LassoFinderModel_basic prog_14_method_20_code 8 (some .boolean) :: zTB) { frames := 3, cells := 0, slots := 0, locals := 72 } (va_Pc [.ref (ad 0), .int a0, .int a1] (zPre G K (wM ad K I J B D) sz)) (va_Qi (fun (r : Int32) (u : zS) => Post r u.1 u.2.1 u.2.2.1 u.2.2.2) (fun u t => zPost G K (va_A (wM ad K I J B D) sz) (wM ad K u.1 u.2.1 u.2.2.1 u.2.2.2) t) (va_A (wM ad K I J B D) sz)) 0 0 (va_A (wM ad K I J B D) sz) := by
  refine zMet (y := zy_LassoFinderModel_basic) (av := [.ref (ad 0), .int a0, .int a1]) (maxL := 8) (cc := prog_14_method_20_code) (ret := (some .boolean)) (W0 := (wM ad K I J B D)) (sz := sz) (G := G) (K := K) (wt := zTB) (mc := 0) (ms := 0) (Qf := fun A => va_Qi (fun (r : Int32) (u : zS) => Post r u.1 u.2.1 u.2.2.1 u.2.2.2) (fun u t => zPost G K A (wM ad K u.1 u.2.1 u.2.2.1 u.2.2.2) t) A) (by decide) (Nat.le_of_ble_eq_true rfl) ?_
  intro p e s m below meth c ls A hx hb hr hml hts hown hlocks hin hA hK H locs hw hsz hl
  clear hsz
  have hown : s.vm.findClass "LassoFinderModel" = some m.cls := hown
  have hj_113 : ∀  (I : Nat → Int32) (J : Nat → Int64) (B : Nat → Nat → Int32) (D : Nat → Nat → Int64) (ls : Array Slot) (H : Heap) (locs : List Loc), wc_LassoFinderModel_basic_113 a0 a1 Post  I J B D → lv_has ls 8 [(0, .ref (ad 0))] → zW G A s.heap (wM ad K I J B D) H locs → W p l e { frames := 3, cells := 0, slots := 0, locals := 72 } s m ([.ref (ad 0), .int a0, .int a1] : List Value).toArray below meth c H locs 0 0 (MQ below (va_Qi (fun (r : Int32) (u : zS) => Post r u.1 u.2.1 u.2.2.1 u.2.2.2) (fun u t => zPost G K A (wM ad K u.1 u.2.1 u.2.2.1 u.2.2.2) t) A) ([.ref (ad 0), .int a0, .int a1] : List Value).toArray s 0 0 A) (F0 m 113 ls []) := by
    intro  I J B D ls H locs hok hl hw
    unfold wc_LassoFinderModel_basic_113 at hok
    refine lv_aload_n hx hb zd_LassoFinderModel_basic_113 rfl (lv_at hl 0 rfl) ?_
    refine z_calli (w1 := fun (u : zS) => wM ad K u.1 u.2.1 u.2.2.1 u.2.2.2) (wr := []) (z_runV (q0 := 0) (wc := (wM ad K I J B D)) (As := []) (rest := []) ⟨hx, hb, hml, hown, hts⟩ (w_LassoFinderModel_fail l G K ad I J B D  _ H.size hok) zf_LassoFinderModel_fail zm_334 ⟨Nat.le_of_ble_eq_true rfl, Nat.le_of_ble_eq_true rfl⟩ hK hw [0, 1, 2, 3, 4, 5, 6, 7, 8, 9, 10, 11, 12, 13, 14, 15, 16, 17, 18, 19, 20, 21, 22, 23, 24, 25, 26, 27, 28, 29, 30, 31, 32, 33, 34, 35, 36, 37, 38, 39, 40, 41, 42, 43, 44, 45, 46, 47, 48, 49, 50, 51, 52, 53, 54, 55, 56, 57] rfl (by decide) rfl rfl rfl hl.1 rfl (Nat.le_of_ble_eq_true rfl) zd_LassoFinderModel_basic_114 ⟨Nat.le_of_ble_eq_true rfl, Nat.le_of_ble_eq_true rfl⟩) hw hA [0, 1, 2, 3, 4, 5, 6, 7, 8, 9, 10, 11, 12, 13, 14, 15, 16, 17, 18, 19, 20, 21, 22, 23, 24, 25, 26, 27, 28, 29, 30, 31, 32, 33, 34, 35, 36, 37, 38, 39, 40, 41, 42, 43, 44, 45, 46, 47, 48, 49, 50, 51, 52, 53, 54, 55, 56, 57] [] rfl rfl (by decide) (by decide) (fun r1 u H locs hok hw => ?_)
    obtain ⟨I1, J1, B1, D1⟩ := u
    dsimp only at hok
    have hw : zW G A s.heap (wM ad K I1 J1 B1 D1) H locs := hw
    have hbo := hok.1
    have hok := hok.2
    exact z_iret (u := (I1, J1, B1, D1)) hx hb hr hlocks (z_nar hbo) hw [0, 1, 2, 3, 4, 5, 6, 7, 8, 9, 10, 11, 12, 13, 14, 15, 16, 17, 18, 19, 20, 21, 22, 23, 24, 25, 26, 27, 28, 29, 30, 31, 32, 33, 34, 35, 36, 37, 38, 39, 40, 41, 42, 43, 44, 45, 46, 47, 48, 49, 50, 51, 52, 53, 54, 55, 56, 57] rfl (by decide) hok (Nat.le_of_ble_eq_true rfl) (Nat.le_of_ble_eq_true rfl) zd_LassoFinderModel_basic_117
  have hj_376 : ∀ (x6 : Int32) (I : Nat → Int32) (J : Nat → Int64) (B : Nat → Nat → Int32) (D : Nat → Nat → Int64) (ls : Array Slot) (H : Heap) (locs : List Loc), wc_LassoFinderModel_basic_376 a0 a1 Post x6 I J B D → lv_has ls 8 [(0, .ref (ad 0)), (6, .int x6)] → zW G A s.heap (wM ad K I J B D) H locs → W p l e { frames := 3, cells := 0, slots := 0, locals := 72 } s m ([.ref (ad 0), .int a0, .int a1] : List Value).toArray below meth c H locs 0 0 (MQ below (va_Qi (fun (r : Int32) (u : zS) => Post r u.1 u.2.1 u.2.2.1 u.2.2.2) (fun u t => zPost G K A (wM ad K u.1 u.2.1 u.2.2.1 u.2.2.2) t) A) ([.ref (ad 0), .int a0, .int a1] : List Value).toArray s 0 0 A) (F0 m 376 ls []) := by
    intro x6 I J B D ls H locs hok hl hw
    unfold wc_LassoFinderModel_basic_376 at hok
    refine lv_aload_n hx hb zd_LassoFinderModel_basic_376 rfl (lv_at hl 0 rfl) ?_
    refine lv_iconst (v := 0) hx hb zd_LassoFinderModel_basic_377 (by decide) ?_
    refine z_calli (w1 := fun (u : zS) => wM ad K u.1 u.2.1 u.2.2.1 u.2.2.2) (wr := []) (z_runV (q0 := 0) (wc := (wM ad K I J B D)) (As := [.int 0]) (rest := []) ⟨hx, hb, hml, hown, hts⟩ (w_LassoFinderModel_expression l G K ad I J B D 0 _ H.size hok) zf_LassoFinderModel_expression zm_346 ⟨Nat.le_of_ble_eq_true rfl, Nat.le_of_ble_eq_true rfl⟩ hK hw [0, 1, 2, 3, 4, 5, 6, 7, 8, 9, 10, 11, 12, 13, 14, 15, 16, 17, 18, 19, 20, 21, 22, 23, 24, 25, 26, 27, 28, 29, 30, 31, 32, 33, 34, 35, 36, 37, 38, 39, 40, 41, 42, 43, 44, 45, 46, 47, 48, 49, 50, 51, 52, 53, 54, 55, 56, 57] rfl (by decide) rfl rfl rfl hl.1 rfl (Nat.le_of_ble_eq_true rfl) zd_LassoFinderModel_basic_378 ⟨Nat.le_of_ble_eq_true rfl, Nat.le_of_ble_eq_true rfl⟩) hw hA [0, 1, 2, 3, 4, 5, 6, 7, 8, 9, 10, 11, 12, 13, 14, 15, 16, 17, 18, 19, 20, 21, 22, 23, 24, 25, 26, 27, 28, 29, 30, 31, 32, 33, 34, 35, 36, 37, 38, 39, 40, 41, 42, 43, 44, 45, 46, 47, 48, 49, 50, 51, 52, 53, 54, 55, 56, 57] [] rfl rfl (by decide) (by decide) (fun r2 u H locs hok hw => ?_)
    obtain ⟨I2, J2, B2, D2⟩ := u
    dsimp only at hok
    have hw : zW G A s.heap (wM ad K I2 J2 B2 D2) H locs := hw
    refine lv_if_ne (tgt := 386) hx hb zd_LassoFinderModel_basic_381 (by decide) (fun hc3 => ?_) (fun hc3 => ?_)
    · have hok := hok.1 hc3
      refine lv_aload_n hx hb zd_LassoFinderModel_basic_386 rfl (lv_at hl 0 rfl) ?_
      refine z_get (v := .ref (ad 16)) hx hb hts hown hK hw zZ12 0 rfl 24 (by decide) zm_250 rfl zd_LassoFinderModel_basic_387 ?_
      refine lv_iload hx hb zd_LassoFinderModel_basic_390 (lv_at hl 1 rfl) ?_
      refine lv_aload_n hx hb zd_LassoFinderModel_basic_392 rfl (lv_at hl 0 rfl) ?_
      refine z_get (v := .int (I2 11)) hx hb hts hown hK hw zZ12 0 rfl 36 (by decide) zm_296 rfl zd_LassoFinderModel_basic_393 ?_
      refine va_iast (f := (B2 15)) hx hb hK hw.1 hw.2.1 hw.2.2 16 0 rfl rfl hok.1 zd_LassoFinderModel_basic_396 (fun H locs a1 a2 a3 => ?_)
      have hok := hok.2
      have hw : zW G A s.heap _ H locs := ⟨a1, a2, a3⟩
      have hw : zW G A s.heap (wM ad K I2 J2 (va_up B2 15 (upd (B2 15) x6.toNatClampNeg (I2 11))) D2) H locs := hw
      refine lv_iconst (v := 1) hx hb zd_LassoFinderModel_basic_397 (by decide) ?_
      exact z_iret (u := (I2, J2, (va_up B2 15 (upd (B2 15) x6.toNatClampNeg (I2 11))), D2)) hx hb hr hlocks rfl hw [0, 1, 2, 3, 4, 5, 6, 7, 8, 9, 10, 11, 12, 13, 14, 15, 16, 17, 18, 19, 20, 21, 22, 23, 24, 25, 26, 27, 28, 29, 30, 31, 32, 33, 34, 35, 36, 37, 38, 39, 40, 41, 42, 43, 44, 45, 46, 47, 48, 49, 50, 51, 52, 53, 54, 55, 56, 57] rfl (by decide) hok (Nat.le_of_ble_eq_true rfl) (Nat.le_of_ble_eq_true rfl) zd_LassoFinderModel_basic_398
    · have hok := hok.2 hc3
      refine lv_iconst (v := 0) hx hb zd_LassoFinderModel_basic_384 (by decide) ?_
      exact z_iret (u := (I2, J2, B2, D2)) hx hb hr hlocks rfl hw [0, 1, 2, 3, 4, 5, 6, 7, 8, 9, 10, 11, 12, 13, 14, 15, 16, 17, 18, 19, 20, 21, 22, 23, 24, 25, 26, 27, 28, 29, 30, 31, 32, 33, 34, 35, 36, 37, 38, 39, 40, 41, 42, 43, 44, 45, 46, 47, 48, 49, 50, 51, 52, 53, 54, 55, 56, 57] rfl (by decide) hok (Nat.le_of_ble_eq_true rfl) (Nat.le_of_ble_eq_true rfl) zd_LassoFinderModel_basic_385
  have hj_326 : ∀  (I : Nat → Int32) (J : Nat → Int64) (B : Nat → Nat → Int32) (D : Nat → Nat → Int64) (ls : Array Slot) (H : Heap) (locs : List Loc), wc_LassoFinderModel_basic_326 a0 a1 Post  I J B D → lv_has ls 8 [(0, .ref (ad 0))] → zW G A s.heap (wM ad K I J B D) H locs → W p l e { frames := 3, cells := 0, slots := 0, locals := 72 } s m ([.ref (ad 0), .int a0, .int a1] : List Value).toArray below meth c H locs 0 0 (MQ below (va_Qi (fun (r : Int32) (u : zS) => Post r u.1 u.2.1 u.2.2.1 u.2.2.2) (fun u t => zPost G K A (wM ad K u.1 u.2.1 u.2.2.1 u.2.2.2) t) A) ([.ref (ad 0), .int a0, .int a1] : List Value).toArray s 0 0 A) (F0 m 326 ls []) := by
    intro  I J B D ls H locs hok hl hw
    unfold wc_LassoFinderModel_basic_326 at hok
    refine lv_aload_n hx hb zd_LassoFinderModel_basic_326 rfl (lv_at hl 0 rfl) ?_
    refine z_calli (w1 := fun (u : zS) => wM ad K u.1 u.2.1 u.2.2.1 u.2.2.2) (wr := []) (z_runV (q0 := 0) (wc := (wM ad K I J B D)) (As := []) (rest := []) ⟨hx, hb, hml, hown, hts⟩ (w_LassoFinderModel_fail l G K ad I J B D  _ H.size hok) zf_LassoFinderModel_fail zm_334 ⟨Nat.le_of_ble_eq_true rfl, Nat.le_of_ble_eq_true rfl⟩ hK hw [0, 1, 2, 3, 4, 5, 6, 7, 8, 9, 10, 11, 12, 13, 14, 15, 16, 17, 18, 19, 20, 21, 22, 23, 24, 25, 26, 27, 28, 29, 30, 31, 32, 33, 34, 35, 36, 37, 38, 39, 40, 41, 42, 43, 44, 45, 46, 47, 48, 49, 50, 51, 52, 53, 54, 55, 56, 57] rfl (by decide) rfl rfl rfl hl.1 rfl (Nat.le_of_ble_eq_true rfl) zd_LassoFinderModel_basic_327 ⟨Nat.le_of_ble_eq_true rfl, Nat.le_of_ble_eq_true rfl⟩) hw hA [0, 1, 2, 3, 4, 5, 6, 7, 8, 9, 10, 11, 12, 13, 14, 15, 16, 17, 18, 19, 20, 21, 22, 23, 24, 25, 26, 27, 28, 29, 30, 31, 32, 33, 34, 35, 36, 37, 38, 39, 40, 41, 42, 43, 44, 45, 46, 47, 48, 49, 50, 51, 52, 53, 54, 55, 56, 57] [] rfl rfl (by decide) (by decide) (fun r4 u H locs hok hw => ?_)
    obtain ⟨I4, J4, B4, D4⟩ := u
    dsimp only at hok
    have hw : zW G A s.heap (wM ad K I4 J4 B4 D4) H locs := hw
    have hbo := hok.1
    have hok := hok.2
    exact z_iret (u := (I4, J4, B4, D4)) hx hb hr hlocks (z_nar hbo) hw [0, 1, 2, 3, 4, 5, 6, 7, 8, 9, 10, 11, 12, 13, 14, 15, 16, 17, 18, 19, 20, 21, 22, 23, 24, 25, 26, 27, 28, 29, 30, 31, 32, 33, 34, 35, 36, 37, 38, 39, 40, 41, 42, 43, 44, 45, 46, 47, 48, 49, 50, 51, 52, 53, 54, 55, 56, 57] rfl (by decide) hok (Nat.le_of_ble_eq_true rfl) (Nat.le_of_ble_eq_true rfl) zd_LassoFinderModel_basic_330
  have hj_150 : ∀ (x1 : Int32) (x3 : Int32) (x4 : Int32) (y0 : Int32) (I : Nat → Int32) (J : Nat → Int64) (B : Nat → Nat → Int32) (D : Nat → Nat → Int64) (ls : Array Slot) (H : Heap) (locs : List Loc), wc_LassoFinderModel_basic_150 a0 a1 Post x1 x3 x4 y0 I J B D → lv_has ls 8 [(0, .ref (ad 0)), (1, .int x1), (3, .int x3), (4, .int x4)] → zW G A s.heap (wM ad K I J B D) H locs → W p l e { frames := 3, cells := 0, slots := 0, locals := 72 } s m ([.ref (ad 0), .int a0, .int a1] : List Value).toArray below meth c H locs 0 0 (MQ below (va_Qi (fun (r : Int32) (u : zS) => Post r u.1 u.2.1 u.2.2.1 u.2.2.2) (fun u t => zPost G K A (wM ad K u.1 u.2.1 u.2.2.1 u.2.2.2) t) A) ([.ref (ad 0), .int a0, .int a1] : List Value).toArray s 0 0 A) (F0 m 150 ls [.int y0, .ref (ad 0)]) := by
    intro x1 x3 x4 y0 I J B D ls H locs hok hl hw
    unfold wc_LassoFinderModel_basic_150 at hok
    refine z_calli (w1 := fun (u : zS) => wM ad K u.1 u.2.1 u.2.2.1 u.2.2.2) (wr := []) (z_runV (q0 := 0) (wc := (wM ad K I J B D)) (As := [.int y0]) (rest := []) ⟨hx, hb, hml, hown, hts⟩ (w_LassoFinderModel_node l G K ad I J B D y0 _ H.size hok) zf_LassoFinderModel_node zm_342 ⟨Nat.le_of_ble_eq_true rfl, Nat.le_of_ble_eq_true rfl⟩ hK hw [0, 1, 2, 3, 4, 5, 6, 7, 8, 9, 10, 11, 12, 13, 14, 15, 16, 17, 18, 19, 20, 21, 22, 23, 24, 25, 26, 27, 28, 29, 30, 31, 32, 33, 34, 35, 36, 37, 38, 39, 40, 41, 42, 43, 44, 45, 46, 47, 48, 49, 50, 51, 52, 53, 54, 55, 56, 57] rfl (by decide) rfl rfl rfl hl.1 rfl (Nat.le_of_ble_eq_true rfl) zd_LassoFinderModel_basic_150 ⟨Nat.le_of_ble_eq_true rfl, Nat.le_of_ble_eq_true rfl⟩) hw hA [0, 1, 2, 3, 4, 5, 6, 7, 8, 9, 10, 11, 12, 13, 14, 15, 16, 17, 18, 19, 20, 21, 22, 23, 24, 25, 26, 27, 28, 29, 30, 31, 32, 33, 34, 35, 36, 37, 38, 39, 40, 41, 42, 43, 44, 45, 46, 47, 48, 49, 50, 51, 52, 53, 54, 55, 56, 57] [] rfl rfl (by decide) (by decide) (fun r5 u H locs hok hw => ?_)
    obtain ⟨I5, J5, B5, D5⟩ := u
    dsimp only at hok
    have hw : zW G A s.heap (wM ad K I5 J5 B5 D5) H locs := hw
    refine lv_istore hx hb zd_LassoFinderModel_basic_153 hl (by decide) rfl (fun ls hl => ?_)
    have hl : lv_has ls 8 [(6, .int r5), (0, .ref (ad 0)), (1, .int x1), (3, .int x3), (4, .int x4)] := hl
    refine lv_aload_n hx hb zd_LassoFinderModel_basic_155 rfl (lv_at hl 1 rfl) ?_
    refine lv_dup hx hb zd_LassoFinderModel_basic_156 rfl ?_
    refine z_get (v := .int (I5 2)) hx hb hts hown hK hw zZ12 0 rfl 3 (by decide) zm_335 rfl zd_LassoFinderModel_basic_157 ?_
    refine lv_iconst (v := 1) hx hb zd_LassoFinderModel_basic_160 (by decide) ?_
    refine lv_iadd hx hb zd_LassoFinderModel_basic_161 ?_
    refine lv_topi (fun z6 ez6 => ?_)
    have hok := hok z6 ez6
    refine z_put (v := .int z6) hx hb hts hown hK hw zZ12 0 rfl 3 (by decide) zm_335 rfl rfl rfl (Nat.le_of_ble_eq_true rfl) zd_LassoFinderModel_basic_162 (fun H locs hw => ?_)
    have hw : zW G A s.heap (wM ad K (upd I5 2 z6) J5 B5 D5) H locs := hw
    refine lv_aload_n hx hb zd_LassoFinderModel_basic_165 rfl (lv_at hl 1 rfl) ?_
    refine z_get (v := .ref (ad 15)) hx hb hts hown hK hw zZ12 0 rfl 23 (by decide) zm_249 rfl zd_LassoFinderModel_basic_166 ?_
    refine lv_iload hx hb zd_LassoFinderModel_basic_169 (lv_at hl 0 rfl) ?_
    refine lv_aload_n hx hb zd_LassoFinderModel_basic_171 rfl (lv_at hl 1 rfl) ?_
    refine z_get (v := .int (I5 11)) hx hb hts hown hK hw zZ12 0 rfl 36 (by decide) zm_296 rfl zd_LassoFinderModel_basic_172 ?_
    refine va_iast (f := (B5 14)) hx hb hK hw.1 hw.2.1 hw.2.2 15 0 rfl rfl hok.1 zd_LassoFinderModel_basic_175 (fun H locs a1 a2 a3 => ?_)
    have hok := hok.2
    have hw : zW G A s.heap _ H locs := ⟨a1, a2, a3⟩
    have hw : zW G A s.heap (wM ad K (upd I5 2 z6) J5 (va_up B5 14 (upd (B5 14) r5.toNatClampNeg (I5 11))) D5) H locs := hw
    refine lv_aload_n hx hb zd_LassoFinderModel_basic_176 rfl (lv_at hl 1 rfl) ?_
    refine z_get (v := .ref (ad 16)) hx hb hts hown hK hw zZ12 0 rfl 24 (by decide) zm_250 rfl zd_LassoFinderModel_basic_177 ?_
    refine lv_iload hx hb zd_LassoFinderModel_basic_180 (lv_at hl 0 rfl) ?_
    refine lv_aload_n hx hb zd_LassoFinderModel_basic_182 rfl (lv_at hl 1 rfl) ?_
    refine z_get (v := .int (I5 11)) hx hb hts hown hK hw zZ12 0 rfl 36 (by decide) zm_296 rfl zd_LassoFinderModel_basic_183 ?_
    refine va_iast (f := (B5 15)) hx hb hK hw.1 hw.2.1 hw.2.2 16 0 rfl rfl hok.1 zd_LassoFinderModel_basic_186 (fun H locs a1 a2 a3 => ?_)
    have hok := hok.2
    have hw : zW G A s.heap _ H locs := ⟨a1, a2, a3⟩
    have hw : zW G A s.heap (wM ad K (upd I5 2 z6) J5 (va_up (va_up B5 14 (upd (B5 14) r5.toNatClampNeg (I5 11))) 15 (upd (B5 15) r5.toNatClampNeg (I5 11))) D5) H locs := hw
    refine lv_iload_n hx hb zd_LassoFinderModel_basic_187 rfl (lv_at hl 2 rfl) ?_
    refine lv_bipush (v := 40) hx hb zd_LassoFinderModel_basic_188 (by decide) ?_
    refine lv_icmp_ne (tgt := 221) hx hb zd_LassoFinderModel_basic_190 (by decide) (fun hc7 => ?_) (fun hc7 => ?_)
    · have hok := hok.1 hc7
      refine lv_iload hx hb zd_LassoFinderModel_basic_221 (lv_at hl 4 rfl) ?_
      refine lv_if_ne (tgt := 228) hx hb zd_LassoFinderModel_basic_223 (by decide) (fun hc8 => ?_) (fun hc8 => ?_)
      · have hok := hok.1 hc8
        refine lv_aload_n hx hb zd_LassoFinderModel_basic_228 rfl (lv_at hl 1 rfl) ?_
        refine z_get (v := .ref (ad 2)) hx hb hts hown hK hw zZ12 0 rfl 9 (by decide) zm_236 rfl zd_LassoFinderModel_basic_229 ?_
        refine lv_iload_n hx hb zd_LassoFinderModel_basic_232 rfl (lv_at hl 3 rfl) ?_
        refine va_iald (f := (B5 1)) hx hb hK hw.1 2 0 rfl rfl hok.1 zd_LassoFinderModel_basic_233 ?_
        have hok := hok.2
        refine lv_topi (fun z9 ez9 => ?_)
        have hok := hok z9 ez9
        refine lv_if_lt (tgt := 261) hx hb zd_LassoFinderModel_basic_234 (by decide) (fun hc10 => ?_) (fun hc10 => ?_)
        · have hok := hok.1 hc10
          refine lv_aload_n hx hb zd_LassoFinderModel_basic_261 rfl (lv_at hl 1 rfl) ?_
          refine z_get (v := .ref (ad 13)) hx hb hts hown hK hw zZ12 0 rfl 21 (by decide) zm_247 rfl zd_LassoFinderModel_basic_262 ?_
          refine lv_iload hx hb zd_LassoFinderModel_basic_265 (lv_at hl 0 rfl) ?_
          refine lv_aload_n hx hb zd_LassoFinderModel_basic_267 rfl (lv_at hl 1 rfl) ?_
          refine z_get (v := .ref (ad 3)) hx hb hts hown hK hw zZ12 0 rfl 10 (by decide) zm_237 rfl zd_LassoFinderModel_basic_268 ?_
          refine lv_iload_n hx hb zd_LassoFinderModel_basic_271 rfl (lv_at hl 3 rfl) ?_
          refine va_iald (f := (B5 2)) hx hb hK hw.1 3 0 rfl rfl hok.1 zd_LassoFinderModel_basic_272 ?_
          have hok := hok.2
          refine lv_topi (fun z11 ez11 => ?_)
          have hok := hok z11 ez11
          refine va_iast (f := (B5 12)) hx hb hK hw.1 hw.2.1 hw.2.2 13 0 rfl rfl hok.1 zd_LassoFinderModel_basic_273 (fun H locs a1 a2 a3 => ?_)
          have hok := hok.2
          have hw : zW G A s.heap _ H locs := ⟨a1, a2, a3⟩
          have hw : zW G A s.heap (wM ad K (upd I5 2 z6) J5 (va_up (va_up (va_up B5 14 (upd (B5 14) r5.toNatClampNeg (I5 11))) 15 (upd (B5 15) r5.toNatClampNeg (I5 11))) 12 (upd (B5 12) r5.toNatClampNeg z11)) D5) H locs := hw
          refine lv_aload_n hx hb zd_LassoFinderModel_basic_274 rfl (lv_at hl 1 rfl) ?_
          refine z_calli (w1 := fun (u : zS) => wM ad K u.1 u.2.1 u.2.2.1 u.2.2.2) (wr := []) (z_runV (q0 := 0) (wc := (wM ad K (upd I5 2 z6) J5 (va_up (va_up (va_up B5 14 (upd (B5 14) r5.toNatClampNeg (I5 11))) 15 (upd (B5 15) r5.toNatClampNeg (I5 11))) 12 (upd (B5 12) r5.toNatClampNeg z11)) D5)) (As := []) (rest := []) ⟨hx, hb, hml, hown, hts⟩ (w_LassoFinderModel_here l G K ad (upd I5 2 z6) J5 (va_up (va_up (va_up B5 14 (upd (B5 14) r5.toNatClampNeg (I5 11))) 15 (upd (B5 15) r5.toNatClampNeg (I5 11))) 12 (upd (B5 12) r5.toNatClampNeg z11)) D5  _ H.size hok) zf_LassoFinderModel_here zm_332 ⟨Nat.le_of_ble_eq_true rfl, Nat.le_of_ble_eq_true rfl⟩ hK hw [0, 1, 2, 3, 4, 5, 6, 7, 8, 9, 10, 11, 12, 13, 14, 15, 16, 17, 18, 19, 20, 21, 22, 23, 24, 25, 26, 27, 28, 29, 30, 31, 32, 33, 34, 35, 36, 37, 38, 39, 40, 41, 42, 43, 44, 45, 46, 47, 48, 49, 50, 51, 52, 53, 54, 55, 56, 57] rfl (by decide) rfl rfl rfl hl.1 rfl (Nat.le_of_ble_eq_true rfl) zd_LassoFinderModel_basic_275 ⟨Nat.le_of_ble_eq_true rfl, Nat.le_of_ble_eq_true rfl⟩) hw hA [0, 1, 2, 3, 4, 5, 6, 7, 8, 9, 10, 11, 12, 13, 14, 15, 16, 17, 18, 19, 20, 21, 22, 23, 24, 25, 26, 27, 28, 29, 30, 31, 32, 33, 34, 35, 36, 37, 38, 39, 40, 41, 42, 43, 44, 45, 46, 47, 48, 49, 50, 51, 52, 53, 54, 55, 56, 57] [] rfl rfl (by decide) (by decide) (fun r12 u H locs hok hw => ?_)
          obtain ⟨I12, J12, B12, D12⟩ := u
          dsimp only at hok
          have hw : zW G A s.heap (wM ad K I12 J12 B12 D12) H locs := hw
          refine lv_bipush (v := 63) hx hb zd_LassoFinderModel_basic_278 (by decide) ?_
          refine lv_icmp_ne (tgt := 357) hx hb zd_LassoFinderModel_basic_280 (by decide) (fun hc13 => ?_) (fun hc13 => ?_)
          · have hok := hok.1 hc13
            refine lv_aload_n hx hb zd_LassoFinderModel_basic_357 rfl (lv_at hl 1 rfl) ?_
            refine z_get (v := .ref (ad 6)) hx hb hts hown hK hw zZ12 0 rfl 14 (by decide) zm_240 rfl zd_LassoFinderModel_basic_358 ?_
            refine lv_iload hx hb zd_LassoFinderModel_basic_361 (lv_at hl 0 rfl) ?_
            refine lv_iconst (v := 2) hx hb zd_LassoFinderModel_basic_363 (by decide) ?_
            refine va_iast (f := (B12 5)) hx hb hK hw.1 hw.2.1 hw.2.2 6 0 rfl rfl hok.1 zd_LassoFinderModel_basic_364 (fun H locs a1 a2 a3 => ?_)
            have hok := hok.2
            have hw : zW G A s.heap _ H locs := ⟨a1, a2, a3⟩
            have hw : zW G A s.heap (wM ad K I12 J12 (va_up B12 5 (upd (B12 5) r5.toNatClampNeg 2)) D12) H locs := hw
            refine lv_aload_n hx hb zd_LassoFinderModel_basic_365 rfl (lv_at hl 1 rfl) ?_
            refine lv_bipush (v := 33) hx hb zd_LassoFinderModel_basic_366 (by decide) ?_
            refine z_calli (w1 := fun (u : zS) => wM ad K u.1 u.2.1 u.2.2.1 u.2.2.2) (wr := []) (z_runV (q0 := 0) (wc := (wM ad K I12 J12 (va_up B12 5 (upd (B12 5) r5.toNatClampNeg 2)) D12)) (As := [.int 33]) (rest := []) ⟨hx, hb, hml, hown, hts⟩ (w_LassoFinderModel_takes l G K ad I12 J12 (va_up B12 5 (upd (B12 5) r5.toNatClampNeg 2)) D12 33 _ H.size hok) zf_LassoFinderModel_takes zm_347 ⟨Nat.le_of_ble_eq_true rfl, Nat.le_of_ble_eq_true rfl⟩ hK hw [0, 1, 2, 3, 4, 5, 6, 7, 8, 9, 10, 11, 12, 13, 14, 15, 16, 17, 18, 19, 20, 21, 22, 23, 24, 25, 26, 27, 28, 29, 30, 31, 32, 33, 34, 35, 36, 37, 38, 39, 40, 41, 42, 43, 44, 45, 46, 47, 48, 49, 50, 51, 52, 53, 54, 55, 56, 57] rfl (by decide) rfl rfl rfl hl.1 rfl (Nat.le_of_ble_eq_true rfl) zd_LassoFinderModel_basic_368 ⟨Nat.le_of_ble_eq_true rfl, Nat.le_of_ble_eq_true rfl⟩) hw hA [0, 1, 2, 3, 4, 5, 6, 7, 8, 9, 10, 11, 12, 13, 14, 15, 16, 17, 18, 19, 20, 21, 22, 23, 24, 25, 26, 27, 28, 29, 30, 31, 32, 33, 34, 35, 36, 37, 38, 39, 40, 41, 42, 43, 44, 45, 46, 47, 48, 49, 50, 51, 52, 53, 54, 55, 56, 57] [] rfl rfl (by decide) (by decide) (fun r14 u H locs hok hw => ?_)
            obtain ⟨I14, J14, B14, D14⟩ := u
            dsimp only at hok
            have hw : zW G A s.heap (wM ad K I14 J14 B14 D14) H locs := hw
            refine lv_if_ne (tgt := 376) hx hb zd_LassoFinderModel_basic_371 (by decide) (fun hc15 => ?_) (fun hc15 => ?_)
            · have hok := hok.1 hc15
              exact hj_376 r5 I14 J14 B14 D14 ls H locs hok (lv_sub hl [1, 0] rfl) hw
            · have hok := hok.2 hc15
              refine lv_iconst (v := 0) hx hb zd_LassoFinderModel_basic_374 (by decide) ?_
              exact z_iret (u := (I14, J14, B14, D14)) hx hb hr hlocks rfl hw [0, 1, 2, 3, 4, 5, 6, 7, 8, 9, 10, 11, 12, 13, 14, 15, 16, 17, 18, 19, 20, 21, 22, 23, 24, 25, 26, 27, 28, 29, 30, 31, 32, 33, 34, 35, 36, 37, 38, 39, 40, 41, 42, 43, 44, 45, 46, 47, 48, 49, 50, 51, 52, 53, 54, 55, 56, 57] rfl (by decide) hok (Nat.le_of_ble_eq_true rfl) (Nat.le_of_ble_eq_true rfl) zd_LassoFinderModel_basic_375
          · have hok := hok.2 hc13
            refine lv_aload_n hx hb zd_LassoFinderModel_basic_283 rfl (lv_at hl 1 rfl) ?_
            refine z_get (v := .ref (ad 6)) hx hb hts hown hK hw zZ12 0 rfl 14 (by decide) zm_240 rfl zd_LassoFinderModel_basic_284 ?_
            refine lv_iload hx hb zd_LassoFinderModel_basic_287 (lv_at hl 0 rfl) ?_
            refine lv_iconst (v := 3) hx hb zd_LassoFinderModel_basic_289 (by decide) ?_
            refine va_iast (f := (B12 5)) hx hb hK hw.1 hw.2.1 hw.2.2 6 0 rfl rfl hok.1 zd_LassoFinderModel_basic_290 (fun H locs a1 a2 a3 => ?_)
            have hok := hok.2
            have hw : zW G A s.heap _ H locs := ⟨a1, a2, a3⟩
            have hw : zW G A s.heap (wM ad K I12 J12 (va_up B12 5 (upd (B12 5) r5.toNatClampNeg 3)) D12) H locs := hw
            refine lv_aload_n hx hb zd_LassoFinderModel_basic_291 rfl (lv_at hl 1 rfl) ?_
            refine lv_dup hx hb zd_LassoFinderModel_basic_292 rfl ?_
            refine z_get (v := .int (I12 2)) hx hb hts hown hK hw zZ12 0 rfl 3 (by decide) zm_335 rfl zd_LassoFinderModel_basic_293 ?_
            refine lv_iconst (v := 1) hx hb zd_LassoFinderModel_basic_296 (by decide) ?_
            refine lv_iadd hx hb zd_LassoFinderModel_basic_297 ?_
            refine lv_topi (fun z16 ez16 => ?_)
            have hok := hok z16 ez16
            refine z_put (v := .int z16) hx hb hts hown hK hw zZ12 0 rfl 3 (by decide) zm_335 rfl rfl rfl (Nat.le_of_ble_eq_true rfl) zd_LassoFinderModel_basic_298 (fun H locs hw => ?_)
            have hw : zW G A s.heap (wM ad K (upd I12 2 z16) J12 (va_up B12 5 (upd (B12 5) r5.toNatClampNeg 3)) D12) H locs := hw
            refine lv_aload_n hx hb zd_LassoFinderModel_basic_301 rfl (lv_at hl 1 rfl) ?_
            refine lv_bipush (v := 97) hx hb zd_LassoFinderModel_basic_302 (by decide) ?_
            refine lv_bipush (v := 8) hx hb zd_LassoFinderModel_basic_304 (by decide) ?_
            refine z_calli (w1 := fun (u : zS) => wM ad K u.1 u.2.1 u.2.2.1 u.2.2.2) (wr := []) (z_runV (q0 := 0) (wc := (wM ad K (upd I12 2 z16) J12 (va_up B12 5 (upd (B12 5) r5.toNatClampNeg 3)) D12)) (As := [.int 97, .int 8]) (rest := []) ⟨hx, hb, hml, hown, hts⟩ (w_LassoFinderModel_from l G K ad (upd I12 2 z16) J12 (va_up B12 5 (upd (B12 5) r5.toNatClampNeg 3)) D12 97 8 _ H.size hok) zf_LassoFinderModel_from zm_344 ⟨Nat.le_of_ble_eq_true rfl, Nat.le_of_ble_eq_true rfl⟩ hK hw [0, 1, 2, 3, 4, 5, 6, 7, 8, 9, 10, 11, 12, 13, 14, 15, 16, 17, 18, 19, 20, 21, 22, 23, 24, 25, 26, 27, 28, 29, 30, 31, 32, 33, 34, 35, 36, 37, 38, 39, 40, 41, 42, 43, 44, 45, 46, 47, 48, 49, 50, 51, 52, 53, 54, 55, 56, 57] rfl (by decide) rfl rfl rfl hl.1 rfl (Nat.le_of_ble_eq_true rfl) zd_LassoFinderModel_basic_306 ⟨Nat.le_of_ble_eq_true rfl, Nat.le_of_ble_eq_true rfl⟩) hw hA [0, 1, 2, 3, 4, 5, 6, 7, 8, 9, 10, 11, 12, 13, 14, 15, 16, 17, 18, 19, 20, 21, 22, 23, 24, 25, 26, 27, 28, 29, 30, 31, 32, 33, 34, 35, 36, 37, 38, 39, 40, 41, 42, 43, 44, 45, 46, 47, 48, 49, 50, 51, 52, 53, 54, 55, 56, 57] [] rfl rfl (by decide) (by decide) (fun r17 u H locs hok hw => ?_)
            obtain ⟨I17, J17, B17, D17⟩ := u
            dsimp only at hok
            have hw : zW G A s.heap (wM ad K I17 J17 B17 D17) H locs := hw
            refine lv_istore hx hb zd_LassoFinderModel_basic_309 hl (by decide) rfl (fun ls hl => ?_)
            have hl : lv_has ls 8 [(7, .int r17), (6, .int r5), (0, .ref (ad 0)), (1, .int x1), (3, .int x3), (4, .int x4)] := hl
            refine lv_iload hx hb zd_LassoFinderModel_basic_311 (lv_at hl 0 rfl) ?_
            refine lv_if_lt (tgt := 326) hx hb zd_LassoFinderModel_basic_313 (by decide) (fun hc18 => ?_) (fun hc18 => ?_)
            · have hok := hok.1 hc18
              exact hj_326 I17 J17 B17 D17 ls H locs hok (lv_sub hl [2] rfl) hw
            · have hok := hok.2 hc18
              refine lv_aload_n hx hb zd_LassoFinderModel_basic_316 rfl (lv_at hl 2 rfl) ?_
              refine z_get (v := .ref (ad 2)) hx hb hts hown hK hw zZ12 0 rfl 9 (by decide) zm_236 rfl zd_LassoFinderModel_basic_317 ?_
              refine lv_iload hx hb zd_LassoFinderModel_basic_320 (lv_at hl 0 rfl) ?_
              refine va_iald (f := (B17 1)) hx hb hK hw.1 2 0 rfl rfl hok.1 zd_LassoFinderModel_basic_322 ?_
              have hok := hok.2
              refine lv_topi (fun z19 ez19 => ?_)
              have hok := hok z19 ez19
              refine lv_if_ge (tgt := 331) hx hb zd_LassoFinderModel_basic_323 (by decide) (fun hc20 => ?_) (fun hc20 => ?_)
              · have hok := hok.1 hc20
                refine lv_aload_n hx hb zd_LassoFinderModel_basic_331 rfl (lv_at hl 2 rfl) ?_
                refine z_get (v := .ref (ad 14)) hx hb hts hown hK hw zZ12 0 rfl 22 (by decide) zm_248 rfl zd_LassoFinderModel_basic_332 ?_
                refine lv_iload hx hb zd_LassoFinderModel_basic_335 (lv_at hl 1 rfl) ?_
                refine lv_aload_n hx hb zd_LassoFinderModel_basic_337 rfl (lv_at hl 2 rfl) ?_
                refine z_get (v := .ref (ad 2)) hx hb hts hown hK hw zZ12 0 rfl 9 (by decide) zm_236 rfl zd_LassoFinderModel_basic_338 ?_
                refine lv_iload hx hb zd_LassoFinderModel_basic_341 (lv_at hl 0 rfl) ?_
                refine va_iald (f := (B17 1)) hx hb hK hw.1 2 0 rfl rfl hok.1 zd_LassoFinderModel_basic_343 ?_
                have hok := hok.2
                refine lv_topi (fun z21 ez21 => ?_)
                have hok := hok z21 ez21
                refine va_iast (f := (B17 13)) hx hb hK hw.1 hw.2.1 hw.2.2 14 0 rfl rfl hok.1 zd_LassoFinderModel_basic_344 (fun H locs a1 a2 a3 => ?_)
                have hok := hok.2
                have hw : zW G A s.heap _ H locs := ⟨a1, a2, a3⟩
                have hw : zW G A s.heap (wM ad K I17 J17 (va_up B17 13 (upd (B17 13) r5.toNatClampNeg z21)) D17) H locs := hw
                refine lv_aload_n hx hb zd_LassoFinderModel_basic_345 rfl (lv_at hl 2 rfl) ?_
                refine lv_dup hx hb zd_LassoFinderModel_basic_346 rfl ?_
                refine z_get (v := .int (I17 2)) hx hb hts hown hK hw zZ12 0 rfl 3 (by decide) zm_335 rfl zd_LassoFinderModel_basic_347 ?_
                refine lv_iconst (v := 1) hx hb zd_LassoFinderModel_basic_350 (by decide) ?_
                refine lv_iadd hx hb zd_LassoFinderModel_basic_351 ?_
                refine lv_topi (fun z22 ez22 => ?_)
                have hok := hok z22 ez22
                refine z_put (v := .int z22) hx hb hts hown hK hw zZ12 0 rfl 3 (by decide) zm_335 rfl rfl rfl (Nat.le_of_ble_eq_true rfl) zd_LassoFinderModel_basic_352 (fun H locs hw => ?_)
                have hw : zW G A s.heap (wM ad K (upd I17 2 z22) J17 (va_up B17 13 (upd (B17 13) r5.toNatClampNeg z21)) D17) H locs := hw
                refine lv_iconst (v := 1) hx hb zd_LassoFinderModel_basic_355 (by decide) ?_
                exact z_iret (u := ((upd I17 2 z22), J17, (va_up B17 13 (upd (B17 13) r5.toNatClampNeg z21)), D17)) hx hb hr hlocks rfl hw [0, 1, 2, 3, 4, 5, 6, 7, 8, 9, 10, 11, 12, 13, 14, 15, 16, 17, 18, 19, 20, 21, 22, 23, 24, 25, 26, 27, 28, 29, 30, 31, 32, 33, 34, 35, 36, 37, 38, 39, 40, 41, 42, 43, 44, 45, 46, 47, 48, 49, 50, 51, 52, 53, 54, 55, 56, 57] rfl (by decide) hok (Nat.le_of_ble_eq_true rfl) (Nat.le_of_ble_eq_true rfl) zd_LassoFinderModel_basic_356
              · have hok := hok.2 hc20
                exact hj_326 I17 J17 B17 D17 ls H locs hok (lv_sub hl [2] rfl) hw
        · have hok := hok.2 hc10
          refine lv_aload_n hx hb zd_LassoFinderModel_basic_237 rfl (lv_at hl 1 rfl) ?_
          refine z_get (v := .ref (ad 13)) hx hb hts hown hK hw zZ12 0 rfl 21 (by decide) zm_247 rfl zd_LassoFinderModel_basic_238 ?_
          refine lv_iload hx hb zd_LassoFinderModel_basic_241 (lv_at hl 0 rfl) ?_
          refine lv_aload_n hx hb zd_LassoFinderModel_basic_243 rfl (lv_at hl 1 rfl) ?_
          refine z_get (v := .ref (ad 2)) hx hb hts hown hK hw zZ12 0 rfl 9 (by decide) zm_236 rfl zd_LassoFinderModel_basic_244 ?_
          refine lv_iload_n hx hb zd_LassoFinderModel_basic_247 rfl (lv_at hl 3 rfl) ?_
          refine va_iald (f := (B5 1)) hx hb hK hw.1 2 0 rfl rfl hok.1 zd_LassoFinderModel_basic_248 ?_
          have hok := hok.2
          refine lv_topi (fun z23 ez23 => ?_)
          have hok := hok z23 ez23
          refine va_iast (f := (B5 12)) hx hb hK hw.1 hw.2.1 hw.2.2 13 0 rfl rfl hok.1 zd_LassoFinderModel_basic_249 (fun H locs a1 a2 a3 => ?_)
          have hok := hok.2
          have hw : zW G A s.heap _ H locs := ⟨a1, a2, a3⟩
          have hw : zW G A s.heap (wM ad K (upd I5 2 z6) J5 (va_up (va_up (va_up B5 14 (upd (B5 14) r5.toNatClampNeg (I5 11))) 15 (upd (B5 15) r5.toNatClampNeg (I5 11))) 12 (upd (B5 12) r5.toNatClampNeg z23)) D5) H locs := hw
          refine lv_aload_n hx hb zd_LassoFinderModel_basic_250 rfl (lv_at hl 1 rfl) ?_
          refine lv_bipush (v := 61) hx hb zd_LassoFinderModel_basic_251 (by decide) ?_
          refine z_calli (w1 := fun (u : zS) => wM ad K u.1 u.2.1 u.2.2.1 u.2.2.2) (wr := []) (z_runV (q0 := 0) (wc := (wM ad K (upd I5 2 z6) J5 (va_up (va_up (va_up B5 14 (upd (B5 14) r5.toNatClampNeg (I5 11))) 15 (upd (B5 15) r5.toNatClampNeg (I5 11))) 12 (upd (B5 12) r5.toNatClampNeg z23)) D5)) (As := [.int 61]) (rest := []) ⟨hx, hb, hml, hown, hts⟩ (w_LassoFinderModel_takes l G K ad (upd I5 2 z6) J5 (va_up (va_up (va_up B5 14 (upd (B5 14) r5.toNatClampNeg (I5 11))) 15 (upd (B5 15) r5.toNatClampNeg (I5 11))) 12 (upd (B5 12) r5.toNatClampNeg z23)) D5 61 _ H.size hok) zf_LassoFinderModel_takes zm_347 ⟨Nat.le_of_ble_eq_true rfl, Nat.le_of_ble_eq_true rfl⟩ hK hw [0, 1, 2, 3, 4, 5, 6, 7, 8, 9, 10, 11, 12, 13, 14, 15, 16, 17, 18, 19, 20, 21, 22, 23, 24, 25, 26, 27, 28, 29, 30, 31, 32, 33, 34, 35, 36, 37, 38, 39, 40, 41, 42, 43, 44, 45, 46, 47, 48, 49, 50, 51, 52, 53, 54, 55, 56, 57] rfl (by decide) rfl rfl rfl hl.1 rfl (Nat.le_of_ble_eq_true rfl) zd_LassoFinderModel_basic_253 ⟨Nat.le_of_ble_eq_true rfl, Nat.le_of_ble_eq_true rfl⟩) hw hA [0, 1, 2, 3, 4, 5, 6, 7, 8, 9, 10, 11, 12, 13, 14, 15, 16, 17, 18, 19, 20, 21, 22, 23, 24, 25, 26, 27, 28, 29, 30, 31, 32, 33, 34, 35, 36, 37, 38, 39, 40, 41, 42, 43, 44, 45, 46, 47, 48, 49, 50, 51, 52, 53, 54, 55, 56, 57] [] rfl rfl (by decide) (by decide) (fun r24 u H locs hok hw => ?_)
          obtain ⟨I24, J24, B24, D24⟩ := u
          dsimp only at hok
          have hw : zW G A s.heap (wM ad K I24 J24 B24 D24) H locs := hw
          refine lv_if_ne (tgt := 376) hx hb zd_LassoFinderModel_basic_256 (by decide) (fun hc25 => ?_) (fun hc25 => ?_)
          · have hok := hok.1 hc25
            exact hj_376 r5 I24 J24 B24 D24 ls H locs hok (lv_sub hl [1, 0] rfl) hw
          · have hok := hok.2 hc25
            refine lv_iconst (v := 0) hx hb zd_LassoFinderModel_basic_259 (by decide) ?_
            exact z_iret (u := (I24, J24, B24, D24)) hx hb hr hlocks rfl hw [0, 1, 2, 3, 4, 5, 6, 7, 8, 9, 10, 11, 12, 13, 14, 15, 16, 17, 18, 19, 20, 21, 22, 23, 24, 25, 26, 27, 28, 29, 30, 31, 32, 33, 34, 35, 36, 37, 38, 39, 40, 41, 42, 43, 44, 45, 46, 47, 48, 49, 50, 51, 52, 53, 54, 55, 56, 57] rfl (by decide) hok (Nat.le_of_ble_eq_true rfl) (Nat.le_of_ble_eq_true rfl) zd_LassoFinderModel_basic_260
      · have hok := hok.2 hc8
        refine lv_iconst (v := 1) hx hb zd_LassoFinderModel_basic_226 (by decide) ?_
        exact z_iret (u := ((upd I5 2 z6), J5, (va_up (va_up B5 14 (upd (B5 14) r5.toNatClampNeg (I5 11))) 15 (upd (B5 15) r5.toNatClampNeg (I5 11))), D5)) hx hb hr hlocks rfl hw [0, 1, 2, 3, 4, 5, 6, 7, 8, 9, 10, 11, 12, 13, 14, 15, 16, 17, 18, 19, 20, 21, 22, 23, 24, 25, 26, 27, 28, 29, 30, 31, 32, 33, 34, 35, 36, 37, 38, 39, 40, 41, 42, 43, 44, 45, 46, 47, 48, 49, 50, 51, 52, 53, 54, 55, 56, 57] rfl (by decide) hok (Nat.le_of_ble_eq_true rfl) (Nat.le_of_ble_eq_true rfl) zd_LassoFinderModel_basic_227
    · have hok := hok.2 hc7
      refine lv_aload_n hx hb zd_LassoFinderModel_basic_193 rfl (lv_at hl 1 rfl) ?_
      refine lv_iconst (v := 1) hx hb zd_LassoFinderModel_basic_194 (by decide) ?_
      refine z_calli (w1 := fun (u : zS) => wM ad K u.1 u.2.1 u.2.2.1 u.2.2.2) (wr := []) (z_runV (q0 := 0) (wc := (wM ad K (upd I5 2 z6) J5 (va_up (va_up B5 14 (upd (B5 14) r5.toNatClampNeg (I5 11))) 15 (upd (B5 15) r5.toNatClampNeg (I5 11))) D5)) (As := [.int 1]) (rest := []) ⟨hx, hb, hml, hown, hts⟩ (w_LassoFinderModel_expression l G K ad (upd I5 2 z6) J5 (va_up (va_up B5 14 (upd (B5 14) r5.toNatClampNeg (I5 11))) 15 (upd (B5 15) r5.toNatClampNeg (I5 11))) D5 1 _ H.size hok) zf_LassoFinderModel_expression zm_346 ⟨Nat.le_of_ble_eq_true rfl, Nat.le_of_ble_eq_true rfl⟩ hK hw [0, 1, 2, 3, 4, 5, 6, 7, 8, 9, 10, 11, 12, 13, 14, 15, 16, 17, 18, 19, 20, 21, 22, 23, 24, 25, 26, 27, 28, 29, 30, 31, 32, 33, 34, 35, 36, 37, 38, 39, 40, 41, 42, 43, 44, 45, 46, 47, 48, 49, 50, 51, 52, 53, 54, 55, 56, 57] rfl (by decide) rfl rfl rfl hl.1 rfl (Nat.le_of_ble_eq_true rfl) zd_LassoFinderModel_basic_195 ⟨Nat.le_of_ble_eq_true rfl, Nat.le_of_ble_eq_true rfl⟩) hw hA [0, 1, 2, 3, 4, 5, 6, 7, 8, 9, 10, 11, 12, 13, 14, 15, 16, 17, 18, 19, 20, 21, 22, 23, 24, 25, 26, 27, 28, 29, 30, 31, 32, 33, 34, 35, 36, 37, 38, 39, 40, 41, 42, 43, 44, 45, 46, 47, 48, 49, 50, 51, 52, 53, 54, 55, 56, 57] [] rfl rfl (by decide) (by decide) (fun r26 u H locs hok hw => ?_)
      obtain ⟨I26, J26, B26, D26⟩ := u
      dsimp only at hok
      have hw : zW G A s.heap (wM ad K I26 J26 B26 D26) H locs := hw
      refine lv_if_ne (tgt := 203) hx hb zd_LassoFinderModel_basic_198 (by decide) (fun hc27 => ?_) (fun hc27 => ?_)
      · have hok := hok.1 hc27
        refine lv_aload_n hx hb zd_LassoFinderModel_basic_203 rfl (lv_at hl 1 rfl) ?_
        refine z_get (v := .ref (ad 16)) hx hb hts hown hK hw zZ12 0 rfl 24 (by decide) zm_250 rfl zd_LassoFinderModel_basic_204 ?_
        refine lv_iload hx hb zd_LassoFinderModel_basic_207 (lv_at hl 0 rfl) ?_
        refine lv_aload_n hx hb zd_LassoFinderModel_basic_209 rfl (lv_at hl 1 rfl) ?_
        refine z_get (v := .int (I26 11)) hx hb hts hown hK hw zZ12 0 rfl 36 (by decide) zm_296 rfl zd_LassoFinderModel_basic_210 ?_
        refine va_iast (f := (B26 15)) hx hb hK hw.1 hw.2.1 hw.2.2 16 0 rfl rfl hok.1 zd_LassoFinderModel_basic_213 (fun H locs a1 a2 a3 => ?_)
        have hok := hok.2
        have hw : zW G A s.heap _ H locs := ⟨a1, a2, a3⟩
        have hw : zW G A s.heap (wM ad K I26 J26 (va_up B26 15 (upd (B26 15) r5.toNatClampNeg (I26 11))) D26) H locs := hw
        refine lv_aload_n hx hb zd_LassoFinderModel_basic_214 rfl (lv_at hl 1 rfl) ?_
        refine lv_bipush (v := 41) hx hb zd_LassoFinderModel_basic_215 (by decide) ?_
        refine z_calli (w1 := fun (u : zS) => wM ad K u.1 u.2.1 u.2.2.1 u.2.2.2) (wr := []) (z_runV (q0 := 0) (wc := (wM ad K I26 J26 (va_up B26 15 (upd (B26 15) r5.toNatClampNeg (I26 11))) D26)) (As := [.int 41]) (rest := []) ⟨hx, hb, hml, hown, hts⟩ (w_LassoFinderModel_takes l G K ad I26 J26 (va_up B26 15 (upd (B26 15) r5.toNatClampNeg (I26 11))) D26 41 _ H.size hok) zf_LassoFinderModel_takes zm_347 ⟨Nat.le_of_ble_eq_true rfl, Nat.le_of_ble_eq_true rfl⟩ hK hw [0, 1, 2, 3, 4, 5, 6, 7, 8, 9, 10, 11, 12, 13, 14, 15, 16, 17, 18, 19, 20, 21, 22, 23, 24, 25, 26, 27, 28, 29, 30, 31, 32, 33, 34, 35, 36, 37, 38, 39, 40, 41, 42, 43, 44, 45, 46, 47, 48, 49, 50, 51, 52, 53, 54, 55, 56, 57] rfl (by decide) rfl rfl rfl hl.1 rfl (Nat.le_of_ble_eq_true rfl) zd_LassoFinderModel_basic_217 ⟨Nat.le_of_ble_eq_true rfl, Nat.le_of_ble_eq_true rfl⟩) hw hA [0, 1, 2, 3, 4, 5, 6, 7, 8, 9, 10, 11, 12, 13, 14, 15, 16, 17, 18, 19, 20, 21, 22, 23, 24, 25, 26, 27, 28, 29, 30, 31, 32, 33, 34, 35, 36, 37, 38, 39, 40, 41, 42, 43, 44, 45, 46, 47, 48, 49, 50, 51, 52, 53, 54, 55, 56, 57] [] rfl rfl (by decide) (by decide) (fun r28 u H locs hok hw => ?_)
        obtain ⟨I28, J28, B28, D28⟩ := u
        dsimp only at hok
        have hw : zW G A s.heap (wM ad K I28 J28 B28 D28) H locs := hw
        have hbo := hok.1
        have hok := hok.2
        exact z_iret (u := (I28, J28, B28, D28)) hx hb hr hlocks (z_nar hbo) hw [0, 1, 2, 3, 4, 5, 6, 7, 8, 9, 10, 11, 12, 13, 14, 15, 16, 17, 18, 19, 20, 21, 22, 23, 24, 25, 26, 27, 28, 29, 30, 31, 32, 33, 34, 35, 36, 37, 38, 39, 40, 41, 42, 43, 44, 45, 46, 47, 48, 49, 50, 51, 52, 53, 54, 55, 56, 57] rfl (by decide) hok (Nat.le_of_ble_eq_true rfl) (Nat.le_of_ble_eq_true rfl) zd_LassoFinderModel_basic_220
      · have hok := hok.2 hc27
        refine lv_iconst (v := 0) hx hb zd_LassoFinderModel_basic_201 (by decide) ?_
        exact z_iret (u := (I26, J26, B26, D26)) hx hb hr hlocks rfl hw [0, 1, 2, 3, 4, 5, 6, 7, 8, 9, 10, 11, 12, 13, 14, 15, 16, 17, 18, 19, 20, 21, 22, 23, 24, 25, 26, 27, 28, 29, 30, 31, 32, 33, 34, 35, 36, 37, 38, 39, 40, 41, 42, 43, 44, 45, 46, 47, 48, 49, 50, 51, 52, 53, 54, 55, 56, 57] rfl (by decide) hok (Nat.le_of_ble_eq_true rfl) (Nat.le_of_ble_eq_true rfl) zd_LassoFinderModel_basic_202
  have hj_83 : ∀ (x1 : Int32) (x3 : Int32) (x4 : Int32) (y0 : Int32) (I : Nat → Int32) (J : Nat → Int64) (B : Nat → Nat → Int32) (D : Nat → Nat → Int64) (ls : Array Slot) (H : Heap) (locs : List Loc), wc_LassoFinderModel_basic_83 a0 a1 Post x1 x3 x4 y0 I J B D → lv_has ls 8 [(0, .ref (ad 0)), (1, .int x1), (3, .int x3), (4, .int x4)] → zW G A s.heap (wM ad K I J B D) H locs → W p l e { frames := 3, cells := 0, slots := 0, locals := 72 } s m ([.ref (ad 0), .int a0, .int a1] : List Value).toArray below meth c H locs 0 0 (MQ below (va_Qi (fun (r : Int32) (u : zS) => Post r u.1 u.2.1 u.2.2.1 u.2.2.2) (fun u t => zPost G K A (wM ad K u.1 u.2.1 u.2.2.1 u.2.2.2) t) A) ([.ref (ad 0), .int a0, .int a1] : List Value).toArray s 0 0 A) (F0 m 83 ls [.int y0]) := by
    intro x1 x3 x4 y0 I J B D ls H locs hok hl hw
    unfold wc_LassoFinderModel_basic_83 at hok
    refine lv_istore hx hb zd_LassoFinderModel_basic_83 hl (by decide) rfl (fun ls hl => ?_)
    have hl : lv_has ls 8 [(5, .int y0), (0, .ref (ad 0)), (1, .int x1), (3, .int x3), (4, .int x4)] := hl
    refine lv_iload hx hb zd_LassoFinderModel_basic_85 (lv_at hl 0 rfl) ?_
    refine lv_if_eq (tgt := 113) hx hb zd_LassoFinderModel_basic_87 (by decide) (fun hc29 => ?_) (fun hc29 => ?_)
    · have hok := hok.1 hc29
      exact hj_113 I J B D ls H locs hok (lv_sub hl [1] rfl) hw
    · have hok := hok.2 hc29
      refine lv_aload_n hx hb zd_LassoFinderModel_basic_90 rfl (lv_at hl 1 rfl) ?_
      refine z_get (v := .int (I 9)) hx hb hts hown hK hw zZ12 0 rfl 27 (by decide) zm_303 rfl zd_LassoFinderModel_basic_91 ?_
      refine lv_bipush (v := 48) hx hb zd_LassoFinderModel_basic_94 (by decide) ?_
      refine lv_icmp_eq (tgt := 113) hx hb zd_LassoFinderModel_basic_96 (by decide) (fun hc30 => ?_) (fun hc30 => ?_)
      · have hok := hok.1 hc30
        exact hj_113 I J B D ls H locs hok (lv_sub hl [1] rfl) hw
      · have hok := hok.2 hc30
        refine lv_aload_n hx hb zd_LassoFinderModel_basic_99 rfl (lv_at hl 1 rfl) ?_
        refine z_get (v := .ref (ad 21)) hx hb hts hown hK hw zZ12 0 rfl 31 (by decide) zm_255 rfl zd_LassoFinderModel_basic_100 ?_
        refine lv_aload_n hx hb zd_LassoFinderModel_basic_103 rfl (lv_at hl 1 rfl) ?_
        refine z_get (v := .int (I 10)) hx hb hts hown hK hw zZ12 0 rfl 30 (by decide) zm_310 rfl zd_LassoFinderModel_basic_104 ?_
        refine va_iald (f := (B 20)) hx hb hK hw.1 21 0 rfl rfl hok.1 zd_LassoFinderModel_basic_107 ?_
        have hok := hok.2
        refine lv_topi (fun z31 ez31 => ?_)
        have hok := hok z31 ez31
        refine lv_bipush (v := 30) hx hb zd_LassoFinderModel_basic_108 (by decide) ?_
        refine lv_icmp_ne (tgt := 118) hx hb zd_LassoFinderModel_basic_110 (by decide) (fun hc32 => ?_) (fun hc32 => ?_)
        · have hok := hok.1 hc32
          refine lv_aload_n hx hb zd_LassoFinderModel_basic_118 rfl (lv_at hl 1 rfl) ?_
          refine lv_iload_n hx hb zd_LassoFinderModel_basic_119 rfl (lv_at hl 2 rfl) ?_
          refine lv_bipush (v := 40) hx hb zd_LassoFinderModel_basic_120 (by decide) ?_
          refine lv_icmp_ne (tgt := 129) hx hb zd_LassoFinderModel_basic_122 (by decide) (fun hc33 => ?_) (fun hc33 => ?_)
          · have hok := hok.1 hc33
            refine lv_iload_n hx hb zd_LassoFinderModel_basic_129 rfl (lv_at hl 2 rfl) ?_
            refine lv_bipush (v := 45) hx hb zd_LassoFinderModel_basic_130 (by decide) ?_
            refine lv_icmp_ne (tgt := 139) hx hb zd_LassoFinderModel_basic_132 (by decide) (fun hc34 => ?_) (fun hc34 => ?_)
            · have hok := hok.1 hc34
              refine lv_iload_n hx hb zd_LassoFinderModel_basic_139 rfl (lv_at hl 2 rfl) ?_
              refine lv_bipush (v := 126) hx hb zd_LassoFinderModel_basic_140 (by decide) ?_
              refine lv_icmp_ne (tgt := 149) hx hb zd_LassoFinderModel_basic_142 (by decide) (fun hc35 => ?_) (fun hc35 => ?_)
              · have hok := hok.1 hc35
                refine lv_iconst (v := 0) hx hb zd_LassoFinderModel_basic_149 (by decide) ?_
                exact hj_150 x1 x3 x4 0 I J B D ls H locs hok (lv_sub hl [1, 2, 3, 4] rfl) hw
              · have hok := hok.2 hc35
                refine lv_iconst (v := 5) hx hb zd_LassoFinderModel_basic_145 (by decide) ?_
                refine lv_goto (tgt := 150) hx hb zd_LassoFinderModel_basic_146 (by decide) ?_
                exact hj_150 x1 x3 x4 5 I J B D ls H locs hok (lv_sub hl [1, 2, 3, 4] rfl) hw
            · have hok := hok.2 hc34
              refine lv_iconst (v := 4) hx hb zd_LassoFinderModel_basic_135 (by decide) ?_
              refine lv_goto (tgt := 150) hx hb zd_LassoFinderModel_basic_136 (by decide) ?_
              exact hj_150 x1 x3 x4 4 I J B D ls H locs hok (lv_sub hl [1, 2, 3, 4] rfl) hw
          · have hok := hok.2 hc33
            refine lv_iconst (v := 1) hx hb zd_LassoFinderModel_basic_125 (by decide) ?_
            refine lv_goto (tgt := 150) hx hb zd_LassoFinderModel_basic_126 (by decide) ?_
            exact hj_150 x1 x3 x4 1 I J B D ls H locs hok (lv_sub hl [1, 2, 3, 4] rfl) hw
        · have hok := hok.2 hc32
          exact hj_113 I J B D ls H locs hok (lv_sub hl [1] rfl) hw
  have hj_78 : ∀ (x1 : Int32) (x3 : Int32) (x4 : Int32) (I : Nat → Int32) (J : Nat → Int64) (B : Nat → Nat → Int32) (D : Nat → Nat → Int64) (ls : Array Slot) (H : Heap) (locs : List Loc), wc_LassoFinderModel_basic_78 a0 a1 Post x1 x3 x4 I J B D → lv_has ls 8 [(0, .ref (ad 0)), (1, .int x1), (3, .int x3), (4, .int x4)] → zW G A s.heap (wM ad K I J B D) H locs → W p l e { frames := 3, cells := 0, slots := 0, locals := 72 } s m ([.ref (ad 0), .int a0, .int a1] : List Value).toArray below meth c H locs 0 0 (MQ below (va_Qi (fun (r : Int32) (u : zS) => Post r u.1 u.2.1 u.2.2.1 u.2.2.2) (fun u t => zPost G K A (wM ad K u.1 u.2.1 u.2.2.1 u.2.2.2) t) A) ([.ref (ad 0), .int a0, .int a1] : List Value).toArray s 0 0 A) (F0 m 78 ls []) := by
    intro x1 x3 x4 I J B D ls H locs hok hl hw
    unfold wc_LassoFinderModel_basic_78 at hok
    refine lv_iconst (v := 1) hx hb zd_LassoFinderModel_basic_78 (by decide) ?_
    refine lv_goto (tgt := 83) hx hb zd_LassoFinderModel_basic_79 (by decide) ?_
    exact hj_83 x1 x3 x4 1 I J B D ls H locs hok (lv_sub hl [0, 1, 2, 3] rfl) hw
  have hj_82 : ∀ (x1 : Int32) (x3 : Int32) (x4 : Int32) (I : Nat → Int32) (J : Nat → Int64) (B : Nat → Nat → Int32) (D : Nat → Nat → Int64) (ls : Array Slot) (H : Heap) (locs : List Loc), wc_LassoFinderModel_basic_82 a0 a1 Post x1 x3 x4 I J B D → lv_has ls 8 [(0, .ref (ad 0)), (1, .int x1), (3, .int x3), (4, .int x4)] → zW G A s.heap (wM ad K I J B D) H locs → W p l e { frames := 3, cells := 0, slots := 0, locals := 72 } s m ([.ref (ad 0), .int a0, .int a1] : List Value).toArray below meth c H locs 0 0 (MQ below (va_Qi (fun (r : Int32) (u : zS) => Post r u.1 u.2.1 u.2.2.1 u.2.2.2) (fun u t => zPost G K A (wM ad K u.1 u.2.1 u.2.2.1 u.2.2.2) t) A) ([.ref (ad 0), .int a0, .int a1] : List Value).toArray s 0 0 A) (F0 m 82 ls []) := by
    intro x1 x3 x4 I J B D ls H locs hok hl hw
    unfold wc_LassoFinderModel_basic_82 at hok
    refine lv_iconst (v := 0) hx hb zd_LassoFinderModel_basic_82 (by decide) ?_
    exact hj_83 x1 x3 x4 0 I J B D ls H locs hok (lv_sub hl [0, 1, 2, 3] rfl) hw
  have hj_36 : ∀ (x1 : Int32) (x2 : Int32) (x3 : Int32) (y0 : Int32) (I : Nat → Int32) (J : Nat → Int64) (B : Nat → Nat → Int32) (D : Nat → Nat → Int64) (ls : Array Slot) (H : Heap) (locs : List Loc), wc_LassoFinderModel_basic_36 a0 a1 Post x1 x2 x3 y0 I J B D → lv_has ls 8 [(0, .ref (ad 0)), (1, .int x1), (2, .int x2), (3, .int x3)] → zW G A s.heap (wM ad K I J B D) H locs → W p l e { frames := 3, cells := 0, slots := 0, locals := 72 } s m ([.ref (ad 0), .int a0, .int a1] : List Value).toArray below meth c H locs 0 0 (MQ below (va_Qi (fun (r : Int32) (u : zS) => Post r u.1 u.2.1 u.2.2.1 u.2.2.2) (fun u t => zPost G K A (wM ad K u.1 u.2.1 u.2.2.1 u.2.2.2) t) A) ([.ref (ad 0), .int a0, .int a1] : List Value).toArray s 0 0 A) (F0 m 36 ls [.int y0]) := by
    intro x1 x2 x3 y0 I J B D ls H locs hok hl hw
    unfold wc_LassoFinderModel_basic_36 at hok
    refine lv_istore hx hb zd_LassoFinderModel_basic_36 hl (by decide) rfl (fun ls hl => ?_)
    have hl : lv_has ls 8 [(4, .int y0), (0, .ref (ad 0)), (1, .int x1), (2, .int x2), (3, .int x3)] := hl
    refine lv_iload hx hb zd_LassoFinderModel_basic_38 (lv_at hl 0 rfl) ?_
    refine lv_if_ne (tgt := 78) hx hb zd_LassoFinderModel_basic_40 (by decide) (fun hc36 => ?_) (fun hc36 => ?_)
    · have hok := hok.1 hc36
      exact hj_78 x1 x3 y0 I J B D ls H locs hok (lv_sub hl [1, 2, 4, 0] rfl) hw
    · have hok := hok.2 hc36
      refine lv_iload_n hx hb zd_LassoFinderModel_basic_43 rfl (lv_at hl 2 rfl) ?_
      refine lv_bipush (v := 40) hx hb zd_LassoFinderModel_basic_44 (by decide) ?_
      refine lv_icmp_eq (tgt := 78) hx hb zd_LassoFinderModel_basic_46 (by decide) (fun hc37 => ?_) (fun hc37 => ?_)
      · have hok := hok.1 hc37
        exact hj_78 x1 x3 y0 I J B D ls H locs hok (lv_sub hl [1, 2, 4, 0] rfl) hw
      · have hok := hok.2 hc37
        refine lv_iload_n hx hb zd_LassoFinderModel_basic_49 rfl (lv_at hl 2 rfl) ?_
        refine lv_bipush (v := 45) hx hb zd_LassoFinderModel_basic_50 (by decide) ?_
        refine lv_icmp_eq (tgt := 78) hx hb zd_LassoFinderModel_basic_52 (by decide) (fun hc38 => ?_) (fun hc38 => ?_)
        · have hok := hok.1 hc38
          exact hj_78 x1 x3 y0 I J B D ls H locs hok (lv_sub hl [1, 2, 4, 0] rfl) hw
        · have hok := hok.2 hc38
          refine lv_iload_n hx hb zd_LassoFinderModel_basic_55 rfl (lv_at hl 2 rfl) ?_
          refine lv_bipush (v := 126) hx hb zd_LassoFinderModel_basic_56 (by decide) ?_
          refine lv_icmp_ne (tgt := 82) hx hb zd_LassoFinderModel_basic_58 (by decide) (fun hc39 => ?_) (fun hc39 => ?_)
          · have hok := hok.1 hc39
            exact hj_82 x1 x3 y0 I J B D ls H locs hok (lv_sub hl [1, 2, 4, 0] rfl) hw
          · have hok := hok.2 hc39
            refine lv_iload_n hx hb zd_LassoFinderModel_basic_61 rfl (lv_at hl 3 rfl) ?_
            refine lv_if_eq (tgt := 82) hx hb zd_LassoFinderModel_basic_62 (by decide) (fun hc40 => ?_) (fun hc40 => ?_)
            · have hok := hok.1 hc40
              exact hj_82 x1 x3 y0 I J B D ls H locs hok (lv_sub hl [1, 2, 4, 0] rfl) hw
            · have hok := hok.2 hc40
              refine lv_aload_n hx hb zd_LassoFinderModel_basic_65 rfl (lv_at hl 1 rfl) ?_
              refine z_get (v := .ref (ad 27)) hx hb hts hown hK hw zZ12 0 rfl 39 (by decide) zm_261 rfl zd_LassoFinderModel_basic_66 ?_
              refine lv_aload_n hx hb zd_LassoFinderModel_basic_69 rfl (lv_at hl 1 rfl) ?_
              refine z_get (v := .int (I 12)) hx hb hts hown hK hw zZ12 0 rfl 38 (by decide) zm_338 rfl zd_LassoFinderModel_basic_70 ?_
              refine va_iald (f := (B 25)) hx hb hK hw.1 27 0 rfl rfl hok.1 zd_LassoFinderModel_basic_73 ?_
              have hok := hok.2
              refine lv_topi (fun z41 ez41 => ?_)
              have hok := hok z41 ez41
              refine lv_iconst (v := 3) hx hb zd_LassoFinderModel_basic_74 (by decide) ?_
              refine lv_icmp_ge (tgt := 82) hx hb zd_LassoFinderModel_basic_75 (by decide) (fun hc42 => ?_) (fun hc42 => ?_)
              · have hok := hok.1 hc42
                exact hj_82 x1 x3 y0 I J B D ls H locs hok (lv_sub hl [1, 2, 4, 0] rfl) hw
              · have hok := hok.2 hc42
                exact hj_78 x1 x3 y0 I J B D ls H locs hok (lv_sub hl [1, 2, 4, 0] rfl) hw
  have hj_35 : ∀ (x1 : Int32) (x2 : Int32) (x3 : Int32) (I : Nat → Int32) (J : Nat → Int64) (B : Nat → Nat → Int32) (D : Nat → Nat → Int64) (ls : Array Slot) (H : Heap) (locs : List Loc), wc_LassoFinderModel_basic_35 a0 a1 Post x1 x2 x3 I J B D → lv_has ls 8 [(0, .ref (ad 0)), (1, .int x1), (2, .int x2), (3, .int x3)] → zW G A s.heap (wM ad K I J B D) H locs → W p l e { frames := 3, cells := 0, slots := 0, locals := 72 } s m ([.ref (ad 0), .int a0, .int a1] : List Value).toArray below meth c H locs 0 0 (MQ below (va_Qi (fun (r : Int32) (u : zS) => Post r u.1 u.2.1 u.2.2.1 u.2.2.2) (fun u t => zPost G K A (wM ad K u.1 u.2.1 u.2.2.1 u.2.2.2) t) A) ([.ref (ad 0), .int a0, .int a1] : List Value).toArray s 0 0 A) (F0 m 35 ls []) := by
    intro x1 x2 x3 I J B D ls H locs hok hl hw
    unfold wc_LassoFinderModel_basic_35 at hok
    refine lv_iconst (v := 0) hx hb zd_LassoFinderModel_basic_35 (by decide) ?_
    exact hj_36 x1 x2 x3 0 I J B D ls H locs hok (lv_sub hl [0, 1, 2, 3] rfl) hw
  have hj_31 : ∀ (x1 : Int32) (x2 : Int32) (x3 : Int32) (I : Nat → Int32) (J : Nat → Int64) (B : Nat → Nat → Int32) (D : Nat → Nat → Int64) (ls : Array Slot) (H : Heap) (locs : List Loc), wc_LassoFinderModel_basic_31 a0 a1 Post x1 x2 x3 I J B D → lv_has ls 8 [(0, .ref (ad 0)), (1, .int x1), (2, .int x2), (3, .int x3)] → zW G A s.heap (wM ad K I J B D) H locs → W p l e { frames := 3, cells := 0, slots := 0, locals := 72 } s m ([.ref (ad 0), .int a0, .int a1] : List Value).toArray below meth c H locs 0 0 (MQ below (va_Qi (fun (r : Int32) (u : zS) => Post r u.1 u.2.1 u.2.2.1 u.2.2.2) (fun u t => zPost G K A (wM ad K u.1 u.2.1 u.2.2.1 u.2.2.2) t) A) ([.ref (ad 0), .int a0, .int a1] : List Value).toArray s 0 0 A) (F0 m 31 ls []) := by
    intro x1 x2 x3 I J B D ls H locs hok hl hw
    unfold wc_LassoFinderModel_basic_31 at hok
    refine lv_iconst (v := 1) hx hb zd_LassoFinderModel_basic_31 (by decide) ?_
    refine lv_goto (tgt := 36) hx hb zd_LassoFinderModel_basic_32 (by decide) ?_
    exact hj_36 x1 x2 x3 1 I J B D ls H locs hok (lv_sub hl [0, 1, 2, 3] rfl) hw
  have hl : lv_has ls 8 [(0, .ref (ad 0)), (1, .int a0), (2, .int a1)] := hl
  have hw : zW G A s.heap (wM ad K I J B D) H locs := hw
  unfold wp_LassoFinderModel_basic at hok
  refine lv_aload_n hx hb zd_LassoFinderModel_basic_0 rfl (lv_at hl 0 rfl) ?_
  refine lv_bipush (v := 97) hx hb zd_LassoFinderModel_basic_1 (by decide) ?_
  refine lv_bipush (v := 8) hx hb zd_LassoFinderModel_basic_3 (by decide) ?_
  refine z_calli (w1 := fun (u : zS) => wM ad K u.1 u.2.1 u.2.2.1 u.2.2.2) (wr := []) (z_runV (q0 := 0) (wc := (wM ad K I J B D)) (As := [.int 97, .int 8]) (rest := []) ⟨hx, hb, hml, hown, hts⟩ (w_LassoFinderModel_from l G K ad I J B D 97 8 _ H.size hok) zf_LassoFinderModel_from zm_344 ⟨Nat.le_of_ble_eq_true rfl, Nat.le_of_ble_eq_true rfl⟩ hK hw [0, 1, 2, 3, 4, 5, 6, 7, 8, 9, 10, 11, 12, 13, 14, 15, 16, 17, 18, 19, 20, 21, 22, 23, 24, 25, 26, 27, 28, 29, 30, 31, 32, 33, 34, 35, 36, 37, 38, 39, 40, 41, 42, 43, 44, 45, 46, 47, 48, 49, 50, 51, 52, 53, 54, 55, 56, 57] rfl (by decide) rfl rfl rfl hl.1 rfl (Nat.le_of_ble_eq_true rfl) zd_LassoFinderModel_basic_5 ⟨Nat.le_of_ble_eq_true rfl, Nat.le_of_ble_eq_true rfl⟩) hw hA [0, 1, 2, 3, 4, 5, 6, 7, 8, 9, 10, 11, 12, 13, 14, 15, 16, 17, 18, 19, 20, 21, 22, 23, 24, 25, 26, 27, 28, 29, 30, 31, 32, 33, 34, 35, 36, 37, 38, 39, 40, 41, 42, 43, 44, 45, 46, 47, 48, 49, 50, 51, 52, 53, 54, 55, 56, 57] [] rfl rfl (by decide) (by decide) (fun r43 u H locs hok hw => ?_)
  obtain ⟨I43, J43, B43, D43⟩ := u
  dsimp only at hok
  have hw : zW G A s.heap (wM ad K I43 J43 B43 D43) H locs := hw
  refine lv_istore_n hx hb zd_LassoFinderModel_basic_8 rfl hl (by decide) rfl (fun ls hl => ?_)
  have hl : lv_has ls 8 [(3, .int r43), (0, .ref (ad 0)), (1, .int a0), (2, .int a1)] := hl
  refine lv_iload_n hx hb zd_LassoFinderModel_basic_9 rfl (lv_at hl 0 rfl) ?_
  refine lv_if_lt (tgt := 35) hx hb zd_LassoFinderModel_basic_10 (by decide) (fun hc44 => ?_) (fun hc44 => ?_)
  · have hok := hok.1 hc44
    exact hj_35 a0 a1 r43 I43 J43 B43 D43 ls H locs hok (lv_sub hl [1, 2, 3, 0] rfl) hw
  · have hok := hok.2 hc44
    refine lv_aload_n hx hb zd_LassoFinderModel_basic_13 rfl (lv_at hl 1 rfl) ?_
    refine z_get (v := .ref (ad 2)) hx hb hts hown hK hw zZ12 0 rfl 9 (by decide) zm_236 rfl zd_LassoFinderModel_basic_14 ?_
    refine lv_iload_n hx hb zd_LassoFinderModel_basic_17 rfl (lv_at hl 0 rfl) ?_
    refine va_iald (f := (B43 1)) hx hb hK hw.1 2 0 rfl rfl hok.1 zd_LassoFinderModel_basic_18 ?_
    have hok := hok.2
    refine lv_topi (fun z45 ez45 => ?_)
    have hok := hok z45 ez45
    refine lv_if_ge (tgt := 31) hx hb zd_LassoFinderModel_basic_19 (by decide) (fun hc46 => ?_) (fun hc46 => ?_)
    · have hok := hok.1 hc46
      exact hj_31 a0 a1 r43 I43 J43 B43 D43 ls H locs hok (lv_sub hl [1, 2, 3, 0] rfl) hw
    · have hok := hok.2 hc46
      refine lv_aload_n hx hb zd_LassoFinderModel_basic_22 rfl (lv_at hl 1 rfl) ?_
      refine z_get (v := .ref (ad 3)) hx hb hts hown hK hw zZ12 0 rfl 10 (by decide) zm_237 rfl zd_LassoFinderModel_basic_23 ?_
      refine lv_iload_n hx hb zd_LassoFinderModel_basic_26 rfl (lv_at hl 0 rfl) ?_
      refine va_iald (f := (B43 2)) hx hb hK hw.1 3 0 rfl rfl hok.1 zd_LassoFinderModel_basic_27 ?_
      have hok := hok.2
      refine lv_topi (fun z47 ez47 => ?_)
      have hok := hok z47 ez47
      refine lv_if_lt (tgt := 35) hx hb zd_LassoFinderModel_basic_28 (by decide) (fun hc48 => ?_) (fun hc48 => ?_)
      · have hok := hok.1 hc48
        exact hj_35 a0 a1 r43 I43 J43 B43 D43 ls H locs hok (lv_sub hl [1, 2, 3, 0] rfl) hw
      · have hok := hok.2 hc48
        exact hj_31 a0 a1 r43 I43 J43 B43 D43 ls H locs hok (lv_sub hl [1, 2, 3, 0] rfl) hw
