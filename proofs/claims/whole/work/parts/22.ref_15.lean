abbrev zy_LassoFinderModel_shortest : MethodName := ⟨"LassoFinderModel", "shortest", "()I"⟩
abbrev zy_LassoFinderModel_isTrue : MethodName := ⟨"LassoFinderModel", "isTrue", "(II)Z"⟩
abbrev zy_LassoFinderModel_spread : MethodName := ⟨"LassoFinderModel", "spread", "(I)Z"⟩
theorem zm_286 : Cond.fieldLink "LassoFinderModel" 169 "LassoFinderModel" "deep" "[I" ∈ zTB := z_in (zt_6 _ (List.mem_of_getElem? (i := 169) rfl)) rfl
theorem zm_287 : Cond.fieldLink "LassoFinderModel" 172 "LassoFinderModel" "good" "[Z" ∈ zTB := z_in (zt_6 _ (List.mem_of_getElem? (i := 170) rfl)) rfl
theorem zm_379 : Cond.methodLink "LassoFinderModel" 431 ⟨"LassoFinderModel", "isTrue", "(II)Z"⟩ ∈ zTB := z_in (zt_8 _ (List.mem_of_getElem? (i := 71) rfl)) rfl
theorem zm_380 : Cond.methodLink "LassoFinderModel" 437 ⟨"LassoFinderModel", "spread", "(I)Z"⟩ ∈ zTB := z_in (zt_8 _ (List.mem_of_getElem? (i := 99) rfl)) rfl
theorem zm_488 : Cond.code ⟨"LassoFinderModel", "spread", "(I)Z"⟩ prog_14_method_60_code 7 (some .boolean) ∈ zTB := z_in (zt_8 _ (List.mem_of_getElem? (i := 102) rfl)) rfl
theorem zm_489 : Cond.instanceMethod ⟨"LassoFinderModel", "spread", "(I)Z"⟩ ∈ zTB := z_in (zt_8 _ (List.mem_of_getElem? (i := 101) rfl)) rfl
theorem zm_490 : Cond.code ⟨"LassoFinderModel", "isTrue", "(II)Z"⟩ prog_14_method_54_code 3 (some .boolean) ∈ zTB := z_in (zt_8 _ (List.mem_of_getElem? (i := 74) rfl)) rfl
theorem zm_491 : Cond.instanceMethod ⟨"LassoFinderModel", "isTrue", "(II)Z"⟩ ∈ zTB := z_in (zt_8 _ (List.mem_of_getElem? (i := 73) rfl)) rfl
theorem zf_LassoFinderModel_spread : zFaceV zy_LassoFinderModel_spread prog_14_method_60_code 7 (some .boolean) 1 := ⟨zm_489, (z_in (zp_8 _ (List.mem_of_getElem? (i := 9) rfl)) rfl), zm_25, zm_488, by decide +kernel, by decide +kernel, by decide +kernel⟩
theorem zf_LassoFinderModel_isTrue : zFaceV zy_LassoFinderModel_isTrue prog_14_method_54_code 3 (some .boolean) 2 := ⟨zm_491, (z_in (zp_8 _ (List.mem_of_getElem? (i := 2) rfl)) rfl), zm_25, zm_490, by decide +kernel, by decide +kernel, by decide +kernel⟩
theorem zd_LassoFinderModel_isTrue_0 : decode prog_14_method_54_code 0 = .ok (.aload_n 0, 1) := by decide +kernel
theorem zd_LassoFinderModel_isTrue_1 : decode prog_14_method_54_code 1 = .ok (.getfield 166, 3) := by decide +kernel
theorem zd_LassoFinderModel_isTrue_4 : decode prog_14_method_54_code 4 = .ok (.bipush 8, 2) := by decide +kernel
theorem zd_LassoFinderModel_isTrue_6 : decode prog_14_method_54_code 6 = .ok (.iload_n 1, 1) := by decide +kernel
theorem zd_LassoFinderModel_isTrue_7 : decode prog_14_method_54_code 7 = .ok (.imul, 1) := by decide +kernel
theorem zd_LassoFinderModel_isTrue_8 : decode prog_14_method_54_code 8 = .ok (.iload_n 2, 1) := by decide +kernel
theorem zd_LassoFinderModel_isTrue_9 : decode prog_14_method_54_code 9 = .ok (.iadd, 1) := by decide +kernel
theorem zd_LassoFinderModel_isTrue_10 : decode prog_14_method_54_code 10 = .ok (.iaload, 1) := by decide +kernel
theorem zd_LassoFinderModel_isTrue_11 : decode prog_14_method_54_code 11 = .ok (.bipush 6, 2) := by decide +kernel
theorem zd_LassoFinderModel_isTrue_13 : decode prog_14_method_54_code 13 = .ok (.ishr, 1) := by decide +kernel
theorem zd_LassoFinderModel_isTrue_14 : decode prog_14_method_54_code 14 = .ok (.iconst 1, 1) := by decide +kernel
theorem zd_LassoFinderModel_isTrue_15 : decode prog_14_method_54_code 15 = .ok (.iand, 1) := by decide +kernel
theorem zd_LassoFinderModel_isTrue_16 : decode prog_14_method_54_code 16 = .ok (.iconst 1, 1) := by decide +kernel
theorem zd_LassoFinderModel_isTrue_17 : decode prog_14_method_54_code 17 = .ok (.if_icmp .ne 7, 3) := by decide +kernel
theorem zd_LassoFinderModel_isTrue_20 : decode prog_14_method_54_code 20 = .ok (.iconst 1, 1) := by decide +kernel
theorem zd_LassoFinderModel_isTrue_21 : decode prog_14_method_54_code 21 = .ok (.goto 4, 3) := by decide +kernel
theorem zd_LassoFinderModel_isTrue_24 : decode prog_14_method_54_code 24 = .ok (.iconst 0, 1) := by decide +kernel
theorem zd_LassoFinderModel_isTrue_25 : decode prog_14_method_54_code 25 = .ok (.ireturn, 1) := by decide +kernel
theorem zd_LassoFinderModel_shortest_0 : decode prog_14_method_61_code 0 = .ok (.iconst 0, 1) := by decide +kernel
theorem zd_LassoFinderModel_shortest_1 : decode prog_14_method_61_code 1 = .ok (.istore_n 1, 1) := by decide +kernel
theorem zd_LassoFinderModel_shortest_2 : decode prog_14_method_61_code 2 = .ok (.iload_n 1, 1) := by decide +kernel
theorem zd_LassoFinderModel_shortest_3 : decode prog_14_method_61_code 3 = .ok (.bipush 8, 2) := by decide +kernel
theorem zd_LassoFinderModel_shortest_5 : decode prog_14_method_61_code 5 = .ok (.aload_n 0, 1) := by decide +kernel
theorem zd_LassoFinderModel_shortest_6 : decode prog_14_method_61_code 6 = .ok (.getfield 345, 3) := by decide +kernel
theorem zd_LassoFinderModel_shortest_9 : decode prog_14_method_61_code 9 = .ok (.imul, 1) := by decide +kernel
theorem zd_LassoFinderModel_shortest_10 : decode prog_14_method_61_code 10 = .ok (.if_icmp .ge 46, 3) := by decide +kernel
theorem zd_LassoFinderModel_shortest_13 : decode prog_14_method_61_code 13 = .ok (.aload_n 0, 1) := by decide +kernel
theorem zd_LassoFinderModel_shortest_14 : decode prog_14_method_61_code 14 = .ok (.getfield 169, 3) := by decide +kernel
theorem zd_LassoFinderModel_shortest_17 : decode prog_14_method_61_code 17 = .ok (.iload_n 1, 1) := by decide +kernel
theorem zd_LassoFinderModel_shortest_18 : decode prog_14_method_61_code 18 = .ok (.iload_n 1, 1) := by decide +kernel
theorem zd_LassoFinderModel_shortest_19 : decode prog_14_method_61_code 19 = .ok (.iconst 1, 1) := by decide +kernel
theorem zd_LassoFinderModel_shortest_20 : decode prog_14_method_61_code 20 = .ok (.aload_n 0, 1) := by decide +kernel
theorem zd_LassoFinderModel_shortest_21 : decode prog_14_method_61_code 21 = .ok (.getfield 376, 3) := by decide +kernel
theorem zd_LassoFinderModel_shortest_24 : decode prog_14_method_61_code 24 = .ok (.ishl, 1) := by decide +kernel
theorem zd_LassoFinderModel_shortest_25 : decode prog_14_method_61_code 25 = .ok (.if_icmp .ge 16, 3) := by decide +kernel
theorem zd_LassoFinderModel_shortest_28 : decode prog_14_method_61_code 28 = .ok (.aload_n 0, 1) := by decide +kernel
theorem zd_LassoFinderModel_shortest_29 : decode prog_14_method_61_code 29 = .ok (.iconst 0, 1) := by decide +kernel
theorem zd_LassoFinderModel_shortest_30 : decode prog_14_method_61_code 30 = .ok (.iload_n 1, 1) := by decide +kernel
theorem zd_LassoFinderModel_shortest_31 : decode prog_14_method_61_code 31 = .ok (.invokevirtual 431, 3) := by decide +kernel
theorem zd_LassoFinderModel_shortest_34 : decode prog_14_method_61_code 34 = .ok (.ifCond .ne 7, 3) := by decide +kernel
theorem zd_LassoFinderModel_shortest_37 : decode prog_14_method_61_code 37 = .ok (.iconst 0, 1) := by decide +kernel
theorem zd_LassoFinderModel_shortest_38 : decode prog_14_method_61_code 38 = .ok (.goto 4, 3) := by decide +kernel
theorem zd_LassoFinderModel_shortest_41 : decode prog_14_method_61_code 41 = .ok (.iconst (-1), 1) := by decide +kernel
theorem zd_LassoFinderModel_shortest_42 : decode prog_14_method_61_code 42 = .ok (.iastore, 1) := by decide +kernel
theorem zd_LassoFinderModel_shortest_43 : decode prog_14_method_61_code 43 = .ok (.aload_n 0, 1) := by decide +kernel
theorem zd_LassoFinderModel_shortest_44 : decode prog_14_method_61_code 44 = .ok (.getfield 172, 3) := by decide +kernel
theorem zd_LassoFinderModel_shortest_47 : decode prog_14_method_61_code 47 = .ok (.iload_n 1, 1) := by decide +kernel
theorem zd_LassoFinderModel_shortest_48 : decode prog_14_method_61_code 48 = .ok (.iconst 0, 1) := by decide +kernel
theorem zd_LassoFinderModel_shortest_49 : decode prog_14_method_61_code 49 = .ok (.bastore, 1) := by decide +kernel
theorem zd_LassoFinderModel_shortest_50 : decode prog_14_method_61_code 50 = .ok (.iinc 1 1, 3) := by decide +kernel
theorem zd_LassoFinderModel_shortest_53 : decode prog_14_method_61_code 53 = .ok (.goto (-51), 3) := by decide +kernel
theorem zd_LassoFinderModel_shortest_56 : decode prog_14_method_61_code 56 = .ok (.iconst 0, 1) := by decide +kernel
theorem zd_LassoFinderModel_shortest_57 : decode prog_14_method_61_code 57 = .ok (.istore_n 1, 1) := by decide +kernel
theorem zd_LassoFinderModel_shortest_58 : decode prog_14_method_61_code 58 = .ok (.iconst 0, 1) := by decide +kernel
theorem zd_LassoFinderModel_shortest_59 : decode prog_14_method_61_code 59 = .ok (.istore_n 2, 1) := by decide +kernel
theorem zd_LassoFinderModel_shortest_60 : decode prog_14_method_61_code 60 = .ok (.iconst 0, 1) := by decide +kernel
theorem zd_LassoFinderModel_shortest_61 : decode prog_14_method_61_code 61 = .ok (.istore_n 3, 1) := by decide +kernel
theorem zd_LassoFinderModel_shortest_62 : decode prog_14_method_61_code 62 = .ok (.iload_n 3, 1) := by decide +kernel
theorem zd_LassoFinderModel_shortest_63 : decode prog_14_method_61_code 63 = .ok (.bipush 8, 2) := by decide +kernel
theorem zd_LassoFinderModel_shortest_65 : decode prog_14_method_61_code 65 = .ok (.aload_n 0, 1) := by decide +kernel
theorem zd_LassoFinderModel_shortest_66 : decode prog_14_method_61_code 66 = .ok (.getfield 345, 3) := by decide +kernel
theorem zd_LassoFinderModel_shortest_69 : decode prog_14_method_61_code 69 = .ok (.imul, 1) := by decide +kernel
theorem zd_LassoFinderModel_shortest_70 : decode prog_14_method_61_code 70 = .ok (.if_icmp .gt 119, 3) := by decide +kernel
theorem zd_LassoFinderModel_shortest_73 : decode prog_14_method_61_code 73 = .ok (.iload_n 2, 1) := by decide +kernel
theorem zd_LassoFinderModel_shortest_74 : decode prog_14_method_61_code 74 = .ok (.ifCond .ne 115, 3) := by decide +kernel
theorem zd_LassoFinderModel_shortest_77 : decode prog_14_method_61_code 77 = .ok (.iconst 0, 1) := by decide +kernel
theorem zd_LassoFinderModel_shortest_78 : decode prog_14_method_61_code 78 = .ok (.istore 4, 2) := by decide +kernel
theorem zd_LassoFinderModel_shortest_80 : decode prog_14_method_61_code 80 = .ok (.iload 4, 2) := by decide +kernel
theorem zd_LassoFinderModel_shortest_82 : decode prog_14_method_61_code 82 = .ok (.bipush 8, 2) := by decide +kernel
theorem zd_LassoFinderModel_shortest_84 : decode prog_14_method_61_code 84 = .ok (.aload_n 0, 1) := by decide +kernel
theorem zd_LassoFinderModel_shortest_85 : decode prog_14_method_61_code 85 = .ok (.getfield 345, 3) := by decide +kernel
theorem zd_LassoFinderModel_shortest_88 : decode prog_14_method_61_code 88 = .ok (.imul, 1) := by decide +kernel
theorem zd_LassoFinderModel_shortest_89 : decode prog_14_method_61_code 89 = .ok (.if_icmp .ge 68, 3) := by decide +kernel
theorem zd_LassoFinderModel_shortest_92 : decode prog_14_method_61_code 92 = .ok (.aload_n 0, 1) := by decide +kernel
theorem zd_LassoFinderModel_shortest_93 : decode prog_14_method_61_code 93 = .ok (.getfield 172, 3) := by decide +kernel
theorem zd_LassoFinderModel_shortest_96 : decode prog_14_method_61_code 96 = .ok (.iload 4, 2) := by decide +kernel
theorem zd_LassoFinderModel_shortest_98 : decode prog_14_method_61_code 98 = .ok (.aload_n 0, 1) := by decide +kernel
theorem zd_LassoFinderModel_shortest_99 : decode prog_14_method_61_code 99 = .ok (.getfield 169, 3) := by decide +kernel
theorem zd_LassoFinderModel_shortest_102 : decode prog_14_method_61_code 102 = .ok (.iload 4, 2) := by decide +kernel
theorem zd_LassoFinderModel_shortest_104 : decode prog_14_method_61_code 104 = .ok (.iaload, 1) := by decide +kernel
theorem zd_LassoFinderModel_shortest_105 : decode prog_14_method_61_code 105 = .ok (.iload_n 1, 1) := by decide +kernel
theorem zd_LassoFinderModel_shortest_106 : decode prog_14_method_61_code 106 = .ok (.if_icmp .ne 23, 3) := by decide +kernel
theorem zd_LassoFinderModel_shortest_109 : decode prog_14_method_61_code 109 = .ok (.aload_n 0, 1) := by decide +kernel
theorem zd_LassoFinderModel_shortest_110 : decode prog_14_method_61_code 110 = .ok (.iload 4, 2) := by decide +kernel
theorem zd_LassoFinderModel_shortest_112 : decode prog_14_method_61_code 112 = .ok (.iconst 3, 1) := by decide +kernel
theorem zd_LassoFinderModel_shortest_113 : decode prog_14_method_61_code 113 = .ok (.ishr, 1) := by decide +kernel
theorem zd_LassoFinderModel_shortest_114 : decode prog_14_method_61_code 114 = .ok (.iload 4, 2) := by decide +kernel
theorem zd_LassoFinderModel_shortest_116 : decode prog_14_method_61_code 116 = .ok (.bipush 7, 2) := by decide +kernel
theorem zd_LassoFinderModel_shortest_118 : decode prog_14_method_61_code 118 = .ok (.iand, 1) := by decide +kernel
theorem zd_LassoFinderModel_shortest_119 : decode prog_14_method_61_code 119 = .ok (.invokevirtual 434, 3) := by decide +kernel
theorem zd_LassoFinderModel_shortest_122 : decode prog_14_method_61_code 122 = .ok (.ifCond .le 7, 3) := by decide +kernel
theorem zd_LassoFinderModel_shortest_125 : decode prog_14_method_61_code 125 = .ok (.iconst 1, 1) := by decide +kernel
theorem zd_LassoFinderModel_shortest_126 : decode prog_14_method_61_code 126 = .ok (.goto 4, 3) := by decide +kernel
theorem zd_LassoFinderModel_shortest_129 : decode prog_14_method_61_code 129 = .ok (.iconst 0, 1) := by decide +kernel
theorem zd_LassoFinderModel_shortest_130 : decode prog_14_method_61_code 130 = .ok (.bastore, 1) := by decide +kernel
theorem zd_LassoFinderModel_shortest_131 : decode prog_14_method_61_code 131 = .ok (.iload_n 2, 1) := by decide +kernel
theorem zd_LassoFinderModel_shortest_132 : decode prog_14_method_61_code 132 = .ok (.ifCond .ne 13, 3) := by decide +kernel
theorem zd_LassoFinderModel_shortest_135 : decode prog_14_method_61_code 135 = .ok (.aload_n 0, 1) := by decide +kernel
theorem zd_LassoFinderModel_shortest_136 : decode prog_14_method_61_code 136 = .ok (.getfield 172, 3) := by decide +kernel
theorem zd_LassoFinderModel_shortest_139 : decode prog_14_method_61_code 139 = .ok (.iload 4, 2) := by decide +kernel
theorem zd_LassoFinderModel_shortest_141 : decode prog_14_method_61_code 141 = .ok (.baload, 1) := by decide +kernel
theorem zd_LassoFinderModel_shortest_142 : decode prog_14_method_61_code 142 = .ok (.ifCond .eq 7, 3) := by decide +kernel
theorem zd_LassoFinderModel_shortest_145 : decode prog_14_method_61_code 145 = .ok (.iconst 1, 1) := by decide +kernel
theorem zd_LassoFinderModel_shortest_146 : decode prog_14_method_61_code 146 = .ok (.goto 4, 3) := by decide +kernel
theorem zd_LassoFinderModel_shortest_149 : decode prog_14_method_61_code 149 = .ok (.iconst 0, 1) := by decide +kernel
theorem zd_LassoFinderModel_shortest_150 : decode prog_14_method_61_code 150 = .ok (.istore_n 2, 1) := by decide +kernel
theorem zd_LassoFinderModel_shortest_151 : decode prog_14_method_61_code 151 = .ok (.iinc 4 1, 3) := by decide +kernel
theorem zd_LassoFinderModel_shortest_154 : decode prog_14_method_61_code 154 = .ok (.goto (-74), 3) := by decide +kernel
theorem zd_LassoFinderModel_shortest_157 : decode prog_14_method_61_code 157 = .ok (.iload_n 2, 1) := by decide +kernel
theorem zd_LassoFinderModel_shortest_158 : decode prog_14_method_61_code 158 = .ok (.ifCond .ne 13, 3) := by decide +kernel
theorem zd_LassoFinderModel_shortest_161 : decode prog_14_method_61_code 161 = .ok (.aload_n 0, 1) := by decide +kernel
theorem zd_LassoFinderModel_shortest_162 : decode prog_14_method_61_code 162 = .ok (.iload_n 1, 1) := by decide +kernel
theorem zd_LassoFinderModel_shortest_163 : decode prog_14_method_61_code 163 = .ok (.invokevirtual 437, 3) := by decide +kernel
theorem zd_LassoFinderModel_shortest_166 : decode prog_14_method_61_code 166 = .ok (.ifCond .ne 5, 3) := by decide +kernel
theorem zd_LassoFinderModel_shortest_169 : decode prog_14_method_61_code 169 = .ok (.iconst (-1), 1) := by decide +kernel
theorem zd_LassoFinderModel_shortest_170 : decode prog_14_method_61_code 170 = .ok (.ireturn, 1) := by decide +kernel
theorem zd_LassoFinderModel_shortest_171 : decode prog_14_method_61_code 171 = .ok (.iload_n 1, 1) := by decide +kernel
theorem zd_LassoFinderModel_shortest_172 : decode prog_14_method_61_code 172 = .ok (.iload_n 2, 1) := by decide +kernel
theorem zd_LassoFinderModel_shortest_173 : decode prog_14_method_61_code 173 = .ok (.ifCond .eq 7, 3) := by decide +kernel
theorem zd_LassoFinderModel_shortest_176 : decode prog_14_method_61_code 176 = .ok (.iconst 0, 1) := by decide +kernel
theorem zd_LassoFinderModel_shortest_177 : decode prog_14_method_61_code 177 = .ok (.goto 4, 3) := by decide +kernel
theorem zd_LassoFinderModel_shortest_180 : decode prog_14_method_61_code 180 = .ok (.iconst 1, 1) := by decide +kernel
theorem zd_LassoFinderModel_shortest_181 : decode prog_14_method_61_code 181 = .ok (.iadd, 1) := by decide +kernel
theorem zd_LassoFinderModel_shortest_182 : decode prog_14_method_61_code 182 = .ok (.istore_n 1, 1) := by decide +kernel
theorem zd_LassoFinderModel_shortest_183 : decode prog_14_method_61_code 183 = .ok (.iinc 3 1, 3) := by decide +kernel
theorem zd_LassoFinderModel_shortest_186 : decode prog_14_method_61_code 186 = .ok (.goto (-124), 3) := by decide +kernel
theorem zd_LassoFinderModel_shortest_189 : decode prog_14_method_61_code 189 = .ok (.iload_n 1, 1) := by decide +kernel
theorem zd_LassoFinderModel_shortest_190 : decode prog_14_method_61_code 190 = .ok (.iconst 1, 1) := by decide +kernel
theorem zd_LassoFinderModel_shortest_191 : decode prog_14_method_61_code 191 = .ok (.isub, 1) := by decide +kernel
theorem zd_LassoFinderModel_shortest_192 : decode prog_14_method_61_code 192 = .ok (.istore_n 3, 1) := by decide +kernel
theorem zd_LassoFinderModel_shortest_193 : decode prog_14_method_61_code 193 = .ok (.iload_n 3, 1) := by decide +kernel
theorem zd_LassoFinderModel_shortest_194 : decode prog_14_method_61_code 194 = .ok (.ifCond .lt 172, 3) := by decide +kernel
theorem zd_LassoFinderModel_shortest_197 : decode prog_14_method_61_code 197 = .ok (.iconst 0, 1) := by decide +kernel
theorem zd_LassoFinderModel_shortest_198 : decode prog_14_method_61_code 198 = .ok (.istore 4, 2) := by decide +kernel
theorem zd_LassoFinderModel_shortest_200 : decode prog_14_method_61_code 200 = .ok (.iload 4, 2) := by decide +kernel
theorem zd_LassoFinderModel_shortest_202 : decode prog_14_method_61_code 202 = .ok (.bipush 8, 2) := by decide +kernel
theorem zd_LassoFinderModel_shortest_204 : decode prog_14_method_61_code 204 = .ok (.aload_n 0, 1) := by decide +kernel
theorem zd_LassoFinderModel_shortest_205 : decode prog_14_method_61_code 205 = .ok (.getfield 345, 3) := by decide +kernel
theorem zd_LassoFinderModel_shortest_208 : decode prog_14_method_61_code 208 = .ok (.imul, 1) := by decide +kernel
theorem zd_LassoFinderModel_shortest_209 : decode prog_14_method_61_code 209 = .ok (.if_icmp .ge 151, 3) := by decide +kernel
theorem zd_LassoFinderModel_shortest_212 : decode prog_14_method_61_code 212 = .ok (.aload_n 0, 1) := by decide +kernel
theorem zd_LassoFinderModel_shortest_213 : decode prog_14_method_61_code 213 = .ok (.getfield 109, 3) := by decide +kernel
theorem zd_LassoFinderModel_shortest_216 : decode prog_14_method_61_code 216 = .ok (.iload 4, 2) := by decide +kernel
theorem zd_LassoFinderModel_shortest_218 : decode prog_14_method_61_code 218 = .ok (.iconst 3, 1) := by decide +kernel
theorem zd_LassoFinderModel_shortest_219 : decode prog_14_method_61_code 219 = .ok (.ishr, 1) := by decide +kernel
theorem zd_LassoFinderModel_shortest_220 : decode prog_14_method_61_code 220 = .ok (.iaload, 1) := by decide +kernel
theorem zd_LassoFinderModel_shortest_221 : decode prog_14_method_61_code 221 = .ok (.istore 5, 2) := by decide +kernel
theorem zd_LassoFinderModel_shortest_223 : decode prog_14_method_61_code 223 = .ok (.iload 5, 2) := by decide +kernel
theorem zd_LassoFinderModel_shortest_225 : decode prog_14_method_61_code 225 = .ok (.aload_n 0, 1) := by decide +kernel
theorem zd_LassoFinderModel_shortest_226 : decode prog_14_method_61_code 226 = .ok (.getfield 109, 3) := by decide +kernel
theorem zd_LassoFinderModel_shortest_229 : decode prog_14_method_61_code 229 = .ok (.iload 4, 2) := by decide +kernel
theorem zd_LassoFinderModel_shortest_231 : decode prog_14_method_61_code 231 = .ok (.iconst 3, 1) := by decide +kernel
theorem zd_LassoFinderModel_shortest_232 : decode prog_14_method_61_code 232 = .ok (.ishr, 1) := by decide +kernel
theorem zd_LassoFinderModel_shortest_233 : decode prog_14_method_61_code 233 = .ok (.iconst 1, 1) := by decide +kernel
theorem zd_LassoFinderModel_shortest_234 : decode prog_14_method_61_code 234 = .ok (.iadd, 1) := by decide +kernel
theorem zd_LassoFinderModel_shortest_235 : decode prog_14_method_61_code 235 = .ok (.iaload, 1) := by decide +kernel
theorem zd_LassoFinderModel_shortest_236 : decode prog_14_method_61_code 236 = .ok (.if_icmp .ge 118, 3) := by decide +kernel
theorem zd_LassoFinderModel_shortest_239 : decode prog_14_method_61_code 239 = .ok (.aload_n 0, 1) := by decide +kernel
theorem zd_LassoFinderModel_shortest_240 : decode prog_14_method_61_code 240 = .ok (.getfield 169, 3) := by decide +kernel
theorem zd_LassoFinderModel_shortest_243 : decode prog_14_method_61_code 243 = .ok (.iload 4, 2) := by decide +kernel
theorem zd_LassoFinderModel_shortest_245 : decode prog_14_method_61_code 245 = .ok (.iaload, 1) := by decide +kernel
theorem zd_LassoFinderModel_shortest_246 : decode prog_14_method_61_code 246 = .ok (.iload_n 3, 1) := by decide +kernel
theorem zd_LassoFinderModel_shortest_247 : decode prog_14_method_61_code 247 = .ok (.if_icmp .ne 107, 3) := by decide +kernel
theorem zd_LassoFinderModel_shortest_250 : decode prog_14_method_61_code 250 = .ok (.iconst 0, 1) := by decide +kernel
theorem zd_LassoFinderModel_shortest_251 : decode prog_14_method_61_code 251 = .ok (.istore 6, 2) := by decide +kernel
theorem zd_LassoFinderModel_shortest_253 : decode prog_14_method_61_code 253 = .ok (.iload 6, 2) := by decide +kernel
theorem zd_LassoFinderModel_shortest_255 : decode prog_14_method_61_code 255 = .ok (.iconst 1, 1) := by decide +kernel
theorem zd_LassoFinderModel_shortest_256 : decode prog_14_method_61_code 256 = .ok (.aload_n 0, 1) := by decide +kernel
theorem zd_LassoFinderModel_shortest_257 : decode prog_14_method_61_code 257 = .ok (.getfield 376, 3) := by decide +kernel
theorem zd_LassoFinderModel_shortest_260 : decode prog_14_method_61_code 260 = .ok (.ishl, 1) := by decide +kernel
theorem zd_LassoFinderModel_shortest_261 : decode prog_14_method_61_code 261 = .ok (.if_icmp .ge 87, 3) := by decide +kernel
theorem zd_LassoFinderModel_shortest_264 : decode prog_14_method_61_code 264 = .ok (.bipush 8, 2) := by decide +kernel
theorem zd_LassoFinderModel_shortest_266 : decode prog_14_method_61_code 266 = .ok (.aload_n 0, 1) := by decide +kernel
theorem zd_LassoFinderModel_shortest_267 : decode prog_14_method_61_code 267 = .ok (.getfield 112, 3) := by decide +kernel
theorem zd_LassoFinderModel_shortest_270 : decode prog_14_method_61_code 270 = .ok (.iload 5, 2) := by decide +kernel
theorem zd_LassoFinderModel_shortest_272 : decode prog_14_method_61_code 272 = .ok (.iaload, 1) := by decide +kernel
theorem zd_LassoFinderModel_shortest_273 : decode prog_14_method_61_code 273 = .ok (.imul, 1) := by decide +kernel
theorem zd_LassoFinderModel_shortest_274 : decode prog_14_method_61_code 274 = .ok (.iload 6, 2) := by decide +kernel
theorem zd_LassoFinderModel_shortest_276 : decode prog_14_method_61_code 276 = .ok (.iadd, 1) := by decide +kernel
theorem zd_LassoFinderModel_shortest_277 : decode prog_14_method_61_code 277 = .ok (.istore 7, 2) := by decide +kernel
theorem zd_LassoFinderModel_shortest_279 : decode prog_14_method_61_code 279 = .ok (.aload_n 0, 1) := by decide +kernel
theorem zd_LassoFinderModel_shortest_280 : decode prog_14_method_61_code 280 = .ok (.getfield 172, 3) := by decide +kernel
theorem zd_LassoFinderModel_shortest_283 : decode prog_14_method_61_code 283 = .ok (.iload 4, 2) := by decide +kernel
theorem zd_LassoFinderModel_shortest_285 : decode prog_14_method_61_code 285 = .ok (.aload_n 0, 1) := by decide +kernel
theorem zd_LassoFinderModel_shortest_286 : decode prog_14_method_61_code 286 = .ok (.getfield 172, 3) := by decide +kernel
theorem zd_LassoFinderModel_shortest_289 : decode prog_14_method_61_code 289 = .ok (.iload 4, 2) := by decide +kernel
theorem zd_LassoFinderModel_shortest_291 : decode prog_14_method_61_code 291 = .ok (.baload, 1) := by decide +kernel
theorem zd_LassoFinderModel_shortest_292 : decode prog_14_method_61_code 292 = .ok (.ifCond .ne 44, 3) := by decide +kernel
theorem zd_LassoFinderModel_shortest_295 : decode prog_14_method_61_code 295 = .ok (.aload_n 0, 1) := by decide +kernel
theorem zd_LassoFinderModel_shortest_296 : decode prog_14_method_61_code 296 = .ok (.getfield 169, 3) := by decide +kernel
theorem zd_LassoFinderModel_shortest_299 : decode prog_14_method_61_code 299 = .ok (.iload 7, 2) := by decide +kernel
theorem zd_LassoFinderModel_shortest_301 : decode prog_14_method_61_code 301 = .ok (.iaload, 1) := by decide +kernel
theorem zd_LassoFinderModel_shortest_302 : decode prog_14_method_61_code 302 = .ok (.iload_n 3, 1) := by decide +kernel
theorem zd_LassoFinderModel_shortest_303 : decode prog_14_method_61_code 303 = .ok (.iconst 1, 1) := by decide +kernel
theorem zd_LassoFinderModel_shortest_304 : decode prog_14_method_61_code 304 = .ok (.iadd, 1) := by decide +kernel
theorem zd_LassoFinderModel_shortest_305 : decode prog_14_method_61_code 305 = .ok (.if_icmp .ne 35, 3) := by decide +kernel
theorem zd_LassoFinderModel_shortest_308 : decode prog_14_method_61_code 308 = .ok (.aload_n 0, 1) := by decide +kernel
theorem zd_LassoFinderModel_shortest_309 : decode prog_14_method_61_code 309 = .ok (.getfield 172, 3) := by decide +kernel
theorem zd_LassoFinderModel_shortest_312 : decode prog_14_method_61_code 312 = .ok (.iload 7, 2) := by decide +kernel
theorem zd_LassoFinderModel_shortest_314 : decode prog_14_method_61_code 314 = .ok (.baload, 1) := by decide +kernel
theorem zd_LassoFinderModel_shortest_315 : decode prog_14_method_61_code 315 = .ok (.ifCond .eq 25, 3) := by decide +kernel
theorem zd_LassoFinderModel_shortest_318 : decode prog_14_method_61_code 318 = .ok (.aload_n 0, 1) := by decide +kernel
theorem zd_LassoFinderModel_shortest_319 : decode prog_14_method_61_code 319 = .ok (.iload 4, 2) := by decide +kernel
theorem zd_LassoFinderModel_shortest_321 : decode prog_14_method_61_code 321 = .ok (.iconst 3, 1) := by decide +kernel
theorem zd_LassoFinderModel_shortest_322 : decode prog_14_method_61_code 322 = .ok (.ishr, 1) := by decide +kernel
theorem zd_LassoFinderModel_shortest_323 : decode prog_14_method_61_code 323 = .ok (.iload 6, 2) := by decide +kernel
theorem zd_LassoFinderModel_shortest_325 : decode prog_14_method_61_code 325 = .ok (.invokevirtual 422, 3) := by decide +kernel
theorem zd_LassoFinderModel_shortest_328 : decode prog_14_method_61_code 328 = .ok (.iload 4, 2) := by decide +kernel
theorem zd_LassoFinderModel_shortest_330 : decode prog_14_method_61_code 330 = .ok (.bipush 7, 2) := by decide +kernel
theorem zd_LassoFinderModel_shortest_332 : decode prog_14_method_61_code 332 = .ok (.iand, 1) := by decide +kernel
theorem zd_LassoFinderModel_shortest_333 : decode prog_14_method_61_code 333 = .ok (.if_icmp .ne 7, 3) := by decide +kernel
theorem zd_LassoFinderModel_shortest_336 : decode prog_14_method_61_code 336 = .ok (.iconst 1, 1) := by decide +kernel
theorem zd_LassoFinderModel_shortest_337 : decode prog_14_method_61_code 337 = .ok (.goto 4, 3) := by decide +kernel
theorem zd_LassoFinderModel_shortest_340 : decode prog_14_method_61_code 340 = .ok (.iconst 0, 1) := by decide +kernel
theorem zd_LassoFinderModel_shortest_341 : decode prog_14_method_61_code 341 = .ok (.bastore, 1) := by decide +kernel
theorem zd_LassoFinderModel_shortest_342 : decode prog_14_method_61_code 342 = .ok (.iinc 6 1, 3) := by decide +kernel
theorem zd_LassoFinderModel_shortest_345 : decode prog_14_method_61_code 345 = .ok (.goto (-92), 3) := by decide +kernel
theorem zd_LassoFinderModel_shortest_348 : decode prog_14_method_61_code 348 = .ok (.iinc 5 1, 3) := by decide +kernel
theorem zd_LassoFinderModel_shortest_351 : decode prog_14_method_61_code 351 = .ok (.goto (-128), 3) := by decide +kernel
theorem zd_LassoFinderModel_shortest_354 : decode prog_14_method_61_code 354 = .ok (.iinc 4 1, 3) := by decide +kernel
theorem zd_LassoFinderModel_shortest_357 : decode prog_14_method_61_code 357 = .ok (.goto (-157), 3) := by decide +kernel
theorem zd_LassoFinderModel_shortest_360 : decode prog_14_method_61_code 360 = .ok (.iinc 3 (-1), 3) := by decide +kernel
theorem zd_LassoFinderModel_shortest_363 : decode prog_14_method_61_code 363 = .ok (.goto (-170), 3) := by decide +kernel
theorem zd_LassoFinderModel_shortest_366 : decode prog_14_method_61_code 366 = .ok (.iload_n 1, 1) := by decide +kernel
theorem zd_LassoFinderModel_shortest_367 : decode prog_14_method_61_code 367 = .ok (.ireturn, 1) := by decide +kernel
theorem zd_LassoFinderModel_spread_0 : decode prog_14_method_60_code 0 = .ok (.iconst 0, 1) := by decide +kernel
theorem zd_LassoFinderModel_spread_1 : decode prog_14_method_60_code 1 = .ok (.istore_n 2, 1) := by decide +kernel
theorem zd_LassoFinderModel_spread_2 : decode prog_14_method_60_code 2 = .ok (.iconst 0, 1) := by decide +kernel
theorem zd_LassoFinderModel_spread_3 : decode prog_14_method_60_code 3 = .ok (.istore_n 3, 1) := by decide +kernel
theorem zd_LassoFinderModel_spread_4 : decode prog_14_method_60_code 4 = .ok (.iload_n 3, 1) := by decide +kernel
theorem zd_LassoFinderModel_spread_5 : decode prog_14_method_60_code 5 = .ok (.bipush 8, 2) := by decide +kernel
theorem zd_LassoFinderModel_spread_7 : decode prog_14_method_60_code 7 = .ok (.aload_n 0, 1) := by decide +kernel
theorem zd_LassoFinderModel_spread_8 : decode prog_14_method_60_code 8 = .ok (.getfield 345, 3) := by decide +kernel
theorem zd_LassoFinderModel_spread_11 : decode prog_14_method_60_code 11 = .ok (.imul, 1) := by decide +kernel
theorem zd_LassoFinderModel_spread_12 : decode prog_14_method_60_code 12 = .ok (.if_icmp .ge 129, 3) := by decide +kernel
theorem zd_LassoFinderModel_spread_15 : decode prog_14_method_60_code 15 = .ok (.aload_n 0, 1) := by decide +kernel
theorem zd_LassoFinderModel_spread_16 : decode prog_14_method_60_code 16 = .ok (.getfield 169, 3) := by decide +kernel
theorem zd_LassoFinderModel_spread_19 : decode prog_14_method_60_code 19 = .ok (.iload_n 3, 1) := by decide +kernel
theorem zd_LassoFinderModel_spread_20 : decode prog_14_method_60_code 20 = .ok (.iaload, 1) := by decide +kernel
theorem zd_LassoFinderModel_spread_21 : decode prog_14_method_60_code 21 = .ok (.iload_n 1, 1) := by decide +kernel
theorem zd_LassoFinderModel_spread_22 : decode prog_14_method_60_code 22 = .ok (.if_icmp .eq 6, 3) := by decide +kernel
theorem zd_LassoFinderModel_spread_25 : decode prog_14_method_60_code 25 = .ok (.goto 110, 3) := by decide +kernel
theorem zd_LassoFinderModel_spread_28 : decode prog_14_method_60_code 28 = .ok (.aload_n 0, 1) := by decide +kernel
theorem zd_LassoFinderModel_spread_29 : decode prog_14_method_60_code 29 = .ok (.getfield 109, 3) := by decide +kernel
theorem zd_LassoFinderModel_spread_32 : decode prog_14_method_60_code 32 = .ok (.iload_n 3, 1) := by decide +kernel
theorem zd_LassoFinderModel_spread_33 : decode prog_14_method_60_code 33 = .ok (.iconst 3, 1) := by decide +kernel
theorem zd_LassoFinderModel_spread_34 : decode prog_14_method_60_code 34 = .ok (.ishr, 1) := by decide +kernel
theorem zd_LassoFinderModel_spread_35 : decode prog_14_method_60_code 35 = .ok (.iaload, 1) := by decide +kernel
theorem zd_LassoFinderModel_spread_36 : decode prog_14_method_60_code 36 = .ok (.istore 4, 2) := by decide +kernel
theorem zd_LassoFinderModel_spread_38 : decode prog_14_method_60_code 38 = .ok (.iload 4, 2) := by decide +kernel
theorem zd_LassoFinderModel_spread_40 : decode prog_14_method_60_code 40 = .ok (.aload_n 0, 1) := by decide +kernel
theorem zd_LassoFinderModel_spread_41 : decode prog_14_method_60_code 41 = .ok (.getfield 109, 3) := by decide +kernel
theorem zd_LassoFinderModel_spread_44 : decode prog_14_method_60_code 44 = .ok (.iload_n 3, 1) := by decide +kernel
theorem zd_LassoFinderModel_spread_45 : decode prog_14_method_60_code 45 = .ok (.iconst 3, 1) := by decide +kernel
theorem zd_LassoFinderModel_spread_46 : decode prog_14_method_60_code 46 = .ok (.ishr, 1) := by decide +kernel
theorem zd_LassoFinderModel_spread_47 : decode prog_14_method_60_code 47 = .ok (.iconst 1, 1) := by decide +kernel
theorem zd_LassoFinderModel_spread_48 : decode prog_14_method_60_code 48 = .ok (.iadd, 1) := by decide +kernel
theorem zd_LassoFinderModel_spread_49 : decode prog_14_method_60_code 49 = .ok (.iaload, 1) := by decide +kernel
theorem zd_LassoFinderModel_spread_50 : decode prog_14_method_60_code 50 = .ok (.if_icmp .ge 85, 3) := by decide +kernel
theorem zd_LassoFinderModel_spread_53 : decode prog_14_method_60_code 53 = .ok (.iconst 0, 1) := by decide +kernel
theorem zd_LassoFinderModel_spread_54 : decode prog_14_method_60_code 54 = .ok (.istore 5, 2) := by decide +kernel
theorem zd_LassoFinderModel_spread_56 : decode prog_14_method_60_code 56 = .ok (.iload 5, 2) := by decide +kernel
theorem zd_LassoFinderModel_spread_58 : decode prog_14_method_60_code 58 = .ok (.iconst 1, 1) := by decide +kernel
theorem zd_LassoFinderModel_spread_59 : decode prog_14_method_60_code 59 = .ok (.aload_n 0, 1) := by decide +kernel
theorem zd_LassoFinderModel_spread_60 : decode prog_14_method_60_code 60 = .ok (.getfield 376, 3) := by decide +kernel
theorem zd_LassoFinderModel_spread_63 : decode prog_14_method_60_code 63 = .ok (.ishl, 1) := by decide +kernel
theorem zd_LassoFinderModel_spread_64 : decode prog_14_method_60_code 64 = .ok (.if_icmp .ge 65, 3) := by decide +kernel
theorem zd_LassoFinderModel_spread_67 : decode prog_14_method_60_code 67 = .ok (.bipush 8, 2) := by decide +kernel
theorem zd_LassoFinderModel_spread_69 : decode prog_14_method_60_code 69 = .ok (.aload_n 0, 1) := by decide +kernel
theorem zd_LassoFinderModel_spread_70 : decode prog_14_method_60_code 70 = .ok (.getfield 112, 3) := by decide +kernel
theorem zd_LassoFinderModel_spread_73 : decode prog_14_method_60_code 73 = .ok (.iload 4, 2) := by decide +kernel
theorem zd_LassoFinderModel_spread_75 : decode prog_14_method_60_code 75 = .ok (.iaload, 1) := by decide +kernel
theorem zd_LassoFinderModel_spread_76 : decode prog_14_method_60_code 76 = .ok (.imul, 1) := by decide +kernel
theorem zd_LassoFinderModel_spread_77 : decode prog_14_method_60_code 77 = .ok (.iload 5, 2) := by decide +kernel
theorem zd_LassoFinderModel_spread_79 : decode prog_14_method_60_code 79 = .ok (.iadd, 1) := by decide +kernel
theorem zd_LassoFinderModel_spread_80 : decode prog_14_method_60_code 80 = .ok (.istore 6, 2) := by decide +kernel
theorem zd_LassoFinderModel_spread_82 : decode prog_14_method_60_code 82 = .ok (.aload_n 0, 1) := by decide +kernel
theorem zd_LassoFinderModel_spread_83 : decode prog_14_method_60_code 83 = .ok (.getfield 169, 3) := by decide +kernel
theorem zd_LassoFinderModel_spread_86 : decode prog_14_method_60_code 86 = .ok (.iload 6, 2) := by decide +kernel
theorem zd_LassoFinderModel_spread_88 : decode prog_14_method_60_code 88 = .ok (.iaload, 1) := by decide +kernel
theorem zd_LassoFinderModel_spread_89 : decode prog_14_method_60_code 89 = .ok (.ifCond .ge 34, 3) := by decide +kernel
theorem zd_LassoFinderModel_spread_92 : decode prog_14_method_60_code 92 = .ok (.aload_n 0, 1) := by decide +kernel
theorem zd_LassoFinderModel_spread_93 : decode prog_14_method_60_code 93 = .ok (.iload_n 3, 1) := by decide +kernel
theorem zd_LassoFinderModel_spread_94 : decode prog_14_method_60_code 94 = .ok (.iconst 3, 1) := by decide +kernel
theorem zd_LassoFinderModel_spread_95 : decode prog_14_method_60_code 95 = .ok (.ishr, 1) := by decide +kernel
theorem zd_LassoFinderModel_spread_96 : decode prog_14_method_60_code 96 = .ok (.iload 5, 2) := by decide +kernel
theorem zd_LassoFinderModel_spread_98 : decode prog_14_method_60_code 98 = .ok (.invokevirtual 422, 3) := by decide +kernel
theorem zd_LassoFinderModel_spread_101 : decode prog_14_method_60_code 101 = .ok (.iload_n 3, 1) := by decide +kernel
theorem zd_LassoFinderModel_spread_102 : decode prog_14_method_60_code 102 = .ok (.bipush 7, 2) := by decide +kernel
theorem zd_LassoFinderModel_spread_104 : decode prog_14_method_60_code 104 = .ok (.iand, 1) := by decide +kernel
theorem zd_LassoFinderModel_spread_105 : decode prog_14_method_60_code 105 = .ok (.if_icmp .eq 6, 3) := by decide +kernel
theorem zd_LassoFinderModel_spread_108 : decode prog_14_method_60_code 108 = .ok (.goto 15, 3) := by decide +kernel
theorem zd_LassoFinderModel_spread_111 : decode prog_14_method_60_code 111 = .ok (.aload_n 0, 1) := by decide +kernel
theorem zd_LassoFinderModel_spread_112 : decode prog_14_method_60_code 112 = .ok (.getfield 169, 3) := by decide +kernel
theorem zd_LassoFinderModel_spread_115 : decode prog_14_method_60_code 115 = .ok (.iload 6, 2) := by decide +kernel
theorem zd_LassoFinderModel_spread_117 : decode prog_14_method_60_code 117 = .ok (.iload_n 1, 1) := by decide +kernel
theorem zd_LassoFinderModel_spread_118 : decode prog_14_method_60_code 118 = .ok (.iconst 1, 1) := by decide +kernel
theorem zd_LassoFinderModel_spread_119 : decode prog_14_method_60_code 119 = .ok (.iadd, 1) := by decide +kernel
theorem zd_LassoFinderModel_spread_120 : decode prog_14_method_60_code 120 = .ok (.iastore, 1) := by decide +kernel
theorem zd_LassoFinderModel_spread_121 : decode prog_14_method_60_code 121 = .ok (.iconst 1, 1) := by decide +kernel
theorem zd_LassoFinderModel_spread_122 : decode prog_14_method_60_code 122 = .ok (.istore_n 2, 1) := by decide +kernel
theorem zd_LassoFinderModel_spread_123 : decode prog_14_method_60_code 123 = .ok (.iinc 5 1, 3) := by decide +kernel
theorem zd_LassoFinderModel_spread_126 : decode prog_14_method_60_code 126 = .ok (.goto (-70), 3) := by decide +kernel
theorem zd_LassoFinderModel_spread_129 : decode prog_14_method_60_code 129 = .ok (.iinc 4 1, 3) := by decide +kernel
theorem zd_LassoFinderModel_spread_132 : decode prog_14_method_60_code 132 = .ok (.goto (-94), 3) := by decide +kernel
theorem zd_LassoFinderModel_spread_135 : decode prog_14_method_60_code 135 = .ok (.iinc 3 1, 3) := by decide +kernel
theorem zd_LassoFinderModel_spread_138 : decode prog_14_method_60_code 138 = .ok (.goto (-134), 3) := by decide +kernel
theorem zd_LassoFinderModel_spread_141 : decode prog_14_method_60_code 141 = .ok (.iload_n 2, 1) := by decide +kernel
theorem zd_LassoFinderModel_spread_142 : decode prog_14_method_60_code 142 = .ok (.ireturn, 1) := by decide +kernel
def wc_LassoFinderModel_spread_135 (a0 : Int32) (K4 : Int32 → Int32 → Int32 → (Nat → Int32) → (Nat → Int64) → (Nat → Nat → Int32) → (Nat → Nat → Int64) → Prop) (Post : Int32 → (Nat → Int32) → (Nat → Int64) → (Nat → Nat → Int32) → (Nat → Nat → Int64) → Prop) (x1 : Int32) (x2 : Int32) (x3 : Int32) (I : Nat → Int32) (J : Nat → Int64) (B : Nat → Nat → Int32) (D : Nat → Nat → Int64) : Prop :=
  ∀ z1 : Int32, z1 = (x3 + 1) → K4 x1 x2 z1 I J B D
def wc_LassoFinderModel_spread_123 (a0 : Int32) (K4 : Int32 → Int32 → Int32 → (Nat → Int32) → (Nat → Int64) → (Nat → Nat → Int32) → (Nat → Nat → Int64) → Prop) (K38 : Int32 → Int32 → Int32 → Int32 → (Nat → Int32) → (Nat → Int64) → (Nat → Nat → Int32) → (Nat → Nat → Int64) → Prop) (K56 : Int32 → Int32 → Int32 → Int32 → Int32 → (Nat → Int32) → (Nat → Int64) → (Nat → Nat → Int32) → (Nat → Nat → Int64) → Prop) (Post : Int32 → (Nat → Int32) → (Nat → Int64) → (Nat → Nat → Int32) → (Nat → Nat → Int64) → Prop) (x1 : Int32) (x2 : Int32) (x3 : Int32) (x4 : Int32) (x5 : Int32) (I : Nat → Int32) (J : Nat → Int64) (B : Nat → Nat → Int32) (D : Nat → Nat → Int64) : Prop :=
  ∀ z2 : Int32, z2 = (x5 + 1) → K56 x1 x2 x3 x4 z2 I J B D
def wb_LassoFinderModel_spread_56 (a0 : Int32) (K56 : Int32 → Int32 → Int32 → Int32 → Int32 → (Nat → Int32) → (Nat → Int64) → (Nat → Nat → Int32) → (Nat → Nat → Int64) → Prop) (K4 : Int32 → Int32 → Int32 → (Nat → Int32) → (Nat → Int64) → (Nat → Nat → Int32) → (Nat → Nat → Int64) → Prop) (K38 : Int32 → Int32 → Int32 → Int32 → (Nat → Int32) → (Nat → Int64) → (Nat → Nat → Int32) → (Nat → Nat → Int64) → Prop) (Post : Int32 → (Nat → Int32) → (Nat → Int64) → (Nat → Nat → Int32) → (Nat → Nat → Int64) → Prop) (x1 : Int32) (x2 : Int32) (x3 : Int32) (x4 : Int32) (x5 : Int32) (I : Nat → Int32) (J : Nat → Int64) (B : Nat → Nat → Int32) (D : Nat → Nat → Int64) : Prop :=
  ∀ z3 : Int32, z3 = (1 <<< ((I 20) &&& 31)) → ((z3 ≤ x5 → ∀ z5 : Int32, z5 = (x4 + 1) → K38 x1 x2 x3 z5 I J B D) ∧ (¬ z3 ≤ x5 → vp_in x4 401 ∧ ∀ z6 : Int32, z6 = ((B 30) x4.toNatClampNeg) → ∀ z7 : Int32, z7 = (8 * z6) → ∀ z8 : Int32, z8 = (z7 + x5) → vp_in z8 768 ∧ ∀ z9 : Int32, z9 = ((B 49) z8.toNatClampNeg) → (((0 : Int32) ≤ z9 → wc_LassoFinderModel_spread_123 a0 K4 K38 K56 Post x1 x2 x3 x4 x5 I J B D) ∧ (¬ (0 : Int32) ≤ z9 → ∀ z11 : Int32, z11 = (x3 >>> (3 &&& 31)) → wp_LassoFinderModel_truthAt I J B D z11 x5 (fun r12 I12 J12 B12 D12 => ∀ z13 : Int32, z13 = (x3 &&& 7) → ((r12 = z13 → ∀ z15 : Int32, z15 = (x1 + 1) → vp_in z8 768 ∧ wc_LassoFinderModel_spread_123 a0 K4 K38 K56 Post x1 1 x3 x4 x5 I12 J12 (va_up B12 49 (upd (B12 49) z8.toNatClampNeg z15)) D12) ∧ (¬ r12 = z13 → wc_LassoFinderModel_spread_123 a0 K4 K38 K56 Post x1 x2 x3 x4 x5 I12 J12 B12 D12)))))))
def wl_LassoFinderModel_spread_56 (a0 : Int32) (K4 : Int32 → Int32 → Int32 → (Nat → Int32) → (Nat → Int64) → (Nat → Nat → Int32) → (Nat → Nat → Int64) → Prop) (K38 : Int32 → Int32 → Int32 → Int32 → (Nat → Int32) → (Nat → Int64) → (Nat → Nat → Int32) → (Nat → Nat → Int64) → Prop) (Post : Int32 → (Nat → Int32) → (Nat → Int64) → (Nat → Nat → Int32) → (Nat → Nat → Int64) → Prop) (n : Nat) : Int32 → Int32 → Int32 → Int32 → Int32 → (Nat → Int32) → (Nat → Int64) → (Nat → Nat → Int32) → (Nat → Nat → Int64) → Prop := Nat.rec (fun _ _ _ _ _ _ _ _ _ => False) (fun _ r => wb_LassoFinderModel_spread_56 a0 r K4 K38 Post) n
def wb_LassoFinderModel_spread_38 (a0 : Int32) (K38 : Int32 → Int32 → Int32 → Int32 → (Nat → Int32) → (Nat → Int64) → (Nat → Nat → Int32) → (Nat → Nat → Int64) → Prop) (K4 : Int32 → Int32 → Int32 → (Nat → Int32) → (Nat → Int64) → (Nat → Nat → Int32) → (Nat → Nat → Int64) → Prop) (Post : Int32 → (Nat → Int32) → (Nat → Int64) → (Nat → Nat → Int32) → (Nat → Nat → Int64) → Prop) (x1 : Int32) (x2 : Int32) (x3 : Int32) (x4 : Int32) (I : Nat → Int32) (J : Nat → Int64) (B : Nat → Nat → Int32) (D : Nat → Nat → Int64) : Prop :=
  ∀ z16 : Int32, z16 = (x3 >>> (3 &&& 31)) → ∀ z17 : Int32, z17 = (z16 + 1) → vp_in z17 98 ∧ ∀ z18 : Int32, z18 = ((B 29) z17.toNatClampNeg) → ((z18 ≤ x4 → wc_LassoFinderModel_spread_135 a0 K4 Post x1 x2 x3 I J B D) ∧ (¬ z18 ≤ x4 → ∃ n : Nat, wl_LassoFinderModel_spread_56 a0 K4 K38 Post n x1 x2 x3 x4 0 I J B D))
def wl_LassoFinderModel_spread_38 (a0 : Int32) (K4 : Int32 → Int32 → Int32 → (Nat → Int32) → (Nat → Int64) → (Nat → Nat → Int32) → (Nat → Nat → Int64) → Prop) (Post : Int32 → (Nat → Int32) → (Nat → Int64) → (Nat → Nat → Int32) → (Nat → Nat → Int64) → Prop) (n : Nat) : Int32 → Int32 → Int32 → Int32 → (Nat → Int32) → (Nat → Int64) → (Nat → Nat → Int32) → (Nat → Nat → Int64) → Prop := Nat.rec (fun _ _ _ _ _ _ _ _ => False) (fun _ r => wb_LassoFinderModel_spread_38 a0 r K4 Post) n
def wb_LassoFinderModel_spread_4 (a0 : Int32) (K4 : Int32 → Int32 → Int32 → (Nat → Int32) → (Nat → Int64) → (Nat → Nat → Int32) → (Nat → Nat → Int64) → Prop) (Post : Int32 → (Nat → Int32) → (Nat → Int64) → (Nat → Nat → Int32) → (Nat → Nat → Int64) → Prop) (x1 : Int32) (x2 : Int32) (x3 : Int32) (I : Nat → Int32) (J : Nat → Int64) (B : Nat → Nat → Int32) (D : Nat → Nat → Int64) : Prop :=
  ∀ z20 : Int32, z20 = (8 * (I 14)) → ((z20 ≤ x3 → (x2 = 0 ∨ x2 = 1) ∧ Post x2 I J B D) ∧ (¬ z20 ≤ x3 → vp_in x3 768 ∧ ∀ z22 : Int32, z22 = ((B 49) x3.toNatClampNeg) → ((z22 = x1 → ∀ z24 : Int32, z24 = (x3 >>> (3 &&& 31)) → vp_in z24 98 ∧ ∀ z25 : Int32, z25 = ((B 29) z24.toNatClampNeg) → ∃ n : Nat, wl_LassoFinderModel_spread_38 a0 K4 Post n x1 x2 x3 z25 I J B D) ∧ (¬ z22 = x1 → wc_LassoFinderModel_spread_135 a0 K4 Post x1 x2 x3 I J B D))))
def wl_LassoFinderModel_spread_4 (a0 : Int32) (Post : Int32 → (Nat → Int32) → (Nat → Int64) → (Nat → Nat → Int32) → (Nat → Nat → Int64) → Prop) (n : Nat) : Int32 → Int32 → Int32 → (Nat → Int32) → (Nat → Int64) → (Nat → Nat → Int32) → (Nat → Nat → Int64) → Prop := Nat.rec (fun _ _ _ _ _ _ _ => False) (fun _ r => wb_LassoFinderModel_spread_4 a0 r Post) n
def wp_LassoFinderModel_spread (I : Nat → Int32) (J : Nat → Int64) (B : Nat → Nat → Int32) (D : Nat → Nat → Int64) (a0 : Int32) (Post : Int32 → (Nat → Int32) → (Nat → Int64) → (Nat → Nat → Int32) → (Nat → Nat → Int64) → Prop) : Prop :=
  ∃ n : Nat, wl_LassoFinderModel_spread_4 a0 Post n a0 0 0 I J B D
set_option maxHeartbeats 8000000 in
set_option maxRecDepth 100000 in
theorem wJ_LassoFinderModel_spread_135 {p : Program} {l : Launch} {e : Env} {s : State} {m : MethodId} {below : List Frame} {meth : Method} {c : Code} {A : Nat → Prop} (G : va_G) (K : Nat → ClassId) (ad : Nat → Nat) (a0 : Int32) (Post : Int32 → (Nat → Int32) → (Nat → Int64) → (Nat → Nat → Int32) → (Nat → Nat → Int64) → Prop) (C : zCx p s m ([.ref (ad 0), .int a0] : List Value).toArray meth c A G K prog_14_method_60_code (some .boolean) 7 "LassoFinderModel") (K4 : Int32 → Int32 → Int32 → (Nat → Int32) → (Nat → Int64) → (Nat → Nat → Int32) → (Nat → Nat → Int64) → Prop) (kh4 : ∀ (x1 : Int32) (x2 : Int32) (x3 : Int32) (I : Nat → Int32) (J : Nat → Int64) (B : Nat → Nat → Int32) (D : Nat → Nat → Int64) (ls : Array Slot) (H : Heap) (locs : List Loc), K4 x1 x2 x3 I J B D → lv_has ls 7 [(0, .ref (ad 0)), (1, .int x1), (2, .int x2), (3, .int x3)] → zW G A s.heap (wM ad K I J B D) H locs → W p l e { frames := 2, cells := 0, slots := 0, locals := 50 } s m ([.ref (ad 0), .int a0] : List Value).toArray below meth c H locs 0 0 (MQ below (va_Qi (fun (r : Int32) (u : zS) => Post r u.1 u.2.1 u.2.2.1 u.2.2.2) (fun u t => zPost G K A (wM ad K u.1 u.2.1 u.2.2.1 u.2.2.2) t) A) ([.ref (ad 0), .int a0] : List Value).toArray s 0 0 A) (F0 m 4 ls [])) : ∀ (x1 : Int32) (x2 : Int32) (x3 : Int32) (I : Nat → Int32) (J : Nat → Int64) (B : Nat → Nat → Int32) (D : Nat → Nat → Int64) (ls : Array Slot) (H : Heap) (locs : List Loc), wc_LassoFinderModel_spread_135 a0 K4 Post x1 x2 x3 I J B D → lv_has ls 7 [(0, .ref (ad 0)), (1, .int x1), (2, .int x2), (3, .int x3)] → zW G A s.heap (wM ad K I J B D) H locs → W p l e { frames := 2, cells := 0, slots := 0, locals := 50 } s m ([.ref (ad 0), .int a0] : List Value).toArray below meth c H locs 0 0 (MQ below (va_Qi (fun (r : Int32) (u : zS) => Post r u.1 u.2.1 u.2.2.1 u.2.2.2) (fun u t => zPost G K A (wM ad K u.1 u.2.1 u.2.2.1 u.2.2.2) t) A) ([.ref (ad 0), .int a0] : List Value).toArray s 0 0 A) (F0 m 135 ls []) := by
  obtain ⟨hx, hb, hr, hml, hts, hown, hlocks, hA, hK⟩ := id C
  intro x1 x2 x3 I J B D ls H locs hok hl hw
  unfold wc_LassoFinderModel_spread_135 at hok
  obtain ⟨z1, ez1⟩ : ∃ z : Int32, z = (x3 + 1) := ⟨_, rfl⟩
  have hok := hok z1 ez1
  refine lv_iinc (v := z1) hx hb zd_LassoFinderModel_spread_135 hl (k := 3) rfl ez1.symm (by decide) rfl (fun ls hl => ?_)
  have hl : lv_has ls 7 [(3, .int z1), (0, .ref (ad 0)), (1, .int x1), (2, .int x2)] := hl
  refine lv_goto (tgt := 4) hx hb zd_LassoFinderModel_spread_138 (by decide) ?_
  exact kh4 x1 x2 z1 I J B D ls H locs hok (lv_sub hl [1, 2, 3, 0] rfl) hw
set_option maxHeartbeats 8000000 in
set_option maxRecDepth 100000 in
theorem wJ_LassoFinderModel_spread_123 {p : Program} {l : Launch} {e : Env} {s : State} {m : MethodId} {below : List Frame} {meth : Method} {c : Code} {A : Nat → Prop} (G : va_G) (K : Nat → ClassId) (ad : Nat → Nat) (a0 : Int32) (Post : Int32 → (Nat → Int32) → (Nat → Int64) → (Nat → Nat → Int32) → (Nat → Nat → Int64) → Prop) (C : zCx p s m ([.ref (ad 0), .int a0] : List Value).toArray meth c A G K prog_14_method_60_code (some .boolean) 7 "LassoFinderModel") (K4 : Int32 → Int32 → Int32 → (Nat → Int32) → (Nat → Int64) → (Nat → Nat → Int32) → (Nat → Nat → Int64) → Prop) (kh4 : ∀ (x1 : Int32) (x2 : Int32) (x3 : Int32) (I : Nat → Int32) (J : Nat → Int64) (B : Nat → Nat → Int32) (D : Nat → Nat → Int64) (ls : Array Slot) (H : Heap) (locs : List Loc), K4 x1 x2 x3 I J B D → lv_has ls 7 [(0, .ref (ad 0)), (1, .int x1), (2, .int x2), (3, .int x3)] → zW G A s.heap (wM ad K I J B D) H locs → W p l e { frames := 2, cells := 0, slots := 0, locals := 50 } s m ([.ref (ad 0), .int a0] : List Value).toArray below meth c H locs 0 0 (MQ below (va_Qi (fun (r : Int32) (u : zS) => Post r u.1 u.2.1 u.2.2.1 u.2.2.2) (fun u t => zPost G K A (wM ad K u.1 u.2.1 u.2.2.1 u.2.2.2) t) A) ([.ref (ad 0), .int a0] : List Value).toArray s 0 0 A) (F0 m 4 ls [])) (K38 : Int32 → Int32 → Int32 → Int32 → (Nat → Int32) → (Nat → Int64) → (Nat → Nat → Int32) → (Nat → Nat → Int64) → Prop) (kh38 : ∀ (x1 : Int32) (x2 : Int32) (x3 : Int32) (x4 : Int32) (I : Nat → Int32) (J : Nat → Int64) (B : Nat → Nat → Int32) (D : Nat → Nat → Int64) (ls : Array Slot) (H : Heap) (locs : List Loc), K38 x1 x2 x3 x4 I J B D → lv_has ls 7 [(0, .ref (ad 0)), (1, .int x1), (2, .int x2), (3, .int x3), (4, .int x4)] → zW G A s.heap (wM ad K I J B D) H locs → W p l e { frames := 2, cells := 0, slots := 0, locals := 50 } s m ([.ref (ad 0), .int a0] : List Value).toArray below meth c H locs 0 0 (MQ below (va_Qi (fun (r : Int32) (u : zS) => Post r u.1 u.2.1 u.2.2.1 u.2.2.2) (fun u t => zPost G K A (wM ad K u.1 u.2.1 u.2.2.1 u.2.2.2) t) A) ([.ref (ad 0), .int a0] : List Value).toArray s 0 0 A) (F0 m 38 ls [])) (K56 : Int32 → Int32 → Int32 → Int32 → Int32 → (Nat → Int32) → (Nat → Int64) → (Nat → Nat → Int32) → (Nat → Nat → Int64) → Prop) (kh56 : ∀ (x1 : Int32) (x2 : Int32) (x3 : Int32) (x4 : Int32) (x5 : Int32) (I : Nat → Int32) (J : Nat → Int64) (B : Nat → Nat → Int32) (D : Nat → Nat → Int64) (ls : Array Slot) (H : Heap) (locs : List Loc), K56 x1 x2 x3 x4 x5 I J B D → lv_has ls 7 [(0, .ref (ad 0)), (1, .int x1), (2, .int x2), (3, .int x3), (4, .int x4), (5, .int x5)] → zW G A s.heap (wM ad K I J B D) H locs → W p l e { frames := 2, cells := 0, slots := 0, locals := 50 } s m ([.ref (ad 0), .int a0] : List Value).toArray below meth c H locs 0 0 (MQ below (va_Qi (fun (r : Int32) (u : zS) => Post r u.1 u.2.1 u.2.2.1 u.2.2.2) (fun u t => zPost G K A (wM ad K u.1 u.2.1 u.2.2.1 u.2.2.2) t) A) ([.ref (ad 0), .int a0] : List Value).toArray s 0 0 A) (F0 m 56 ls [])) : ∀ (x1 : Int32) (x2 : Int32) (x3 : Int32) (x4 : Int32) (x5 : Int32) (I : Nat → Int32) (J : Nat → Int64) (B : Nat → Nat → Int32) (D : Nat → Nat → Int64) (ls : Array Slot) (H : Heap) (locs : List Loc), wc_LassoFinderModel_spread_123 a0 K4 K38 K56 Post x1 x2 x3 x4 x5 I J B D → lv_has ls 7 [(0, .ref (ad 0)), (1, .int x1), (2, .int x2), (3, .int x3), (4, .int x4), (5, .int x5)] → zW G A s.heap (wM ad K I J B D) H locs → W p l e { frames := 2, cells := 0, slots := 0, locals := 50 } s m ([.ref (ad 0), .int a0] : List Value).toArray below meth c H locs 0 0 (MQ below (va_Qi (fun (r : Int32) (u : zS) => Post r u.1 u.2.1 u.2.2.1 u.2.2.2) (fun u t => zPost G K A (wM ad K u.1 u.2.1 u.2.2.1 u.2.2.2) t) A) ([.ref (ad 0), .int a0] : List Value).toArray s 0 0 A) (F0 m 123 ls []) := by
  obtain ⟨hx, hb, hr, hml, hts, hown, hlocks, hA, hK⟩ := id C
  intro x1 x2 x3 x4 x5 I J B D ls H locs hok hl hw
  unfold wc_LassoFinderModel_spread_123 at hok
  obtain ⟨z2, ez2⟩ : ∃ z : Int32, z = (x5 + 1) := ⟨_, rfl⟩
  have hok := hok z2 ez2
  refine lv_iinc (v := z2) hx hb zd_LassoFinderModel_spread_123 hl (k := 5) rfl ez2.symm (by decide) rfl (fun ls hl => ?_)
  have hl : lv_has ls 7 [(5, .int z2), (0, .ref (ad 0)), (1, .int x1), (2, .int x2), (3, .int x3), (4, .int x4)] := hl
  refine lv_goto (tgt := 56) hx hb zd_LassoFinderModel_spread_126 (by decide) ?_
  exact kh56 x1 x2 x3 x4 z2 I J B D ls H locs hok (lv_sub hl [1, 2, 3, 4, 5, 0] rfl) hw
set_option maxHeartbeats 8000000 in
set_option maxRecDepth 100000 in
theorem wB_LassoFinderModel_spread_56 {p : Program} {l : Launch} {e : Env} {s : State} {m : MethodId} {below : List Frame} {meth : Method} {c : Code} {A : Nat → Prop} (G : va_G) (K : Nat → ClassId) (ad : Nat → Nat) (a0 : Int32) (Post : Int32 → (Nat → Int32) → (Nat → Int64) → (Nat → Nat → Int32) → (Nat → Nat → Int64) → Prop) (C : zCx p s m ([.ref (ad 0), .int a0] : List Value).toArray meth c A G K prog_14_method_60_code (some .boolean) 7 "LassoFinderModel") (K4 : Int32 → Int32 → Int32 → (Nat → Int32) → (Nat → Int64) → (Nat → Nat → Int32) → (Nat → Nat → Int64) → Prop) (kh4 : ∀ (x1 : Int32) (x2 : Int32) (x3 : Int32) (I : Nat → Int32) (J : Nat → Int64) (B : Nat → Nat → Int32) (D : Nat → Nat → Int64) (ls : Array Slot) (H : Heap) (locs : List Loc), K4 x1 x2 x3 I J B D → lv_has ls 7 [(0, .ref (ad 0)), (1, .int x1), (2, .int x2), (3, .int x3)] → zW G A s.heap (wM ad K I J B D) H locs → W p l e { frames := 2, cells := 0, slots := 0, locals := 50 } s m ([.ref (ad 0), .int a0] : List Value).toArray below meth c H locs 0 0 (MQ below (va_Qi (fun (r : Int32) (u : zS) => Post r u.1 u.2.1 u.2.2.1 u.2.2.2) (fun u t => zPost G K A (wM ad K u.1 u.2.1 u.2.2.1 u.2.2.2) t) A) ([.ref (ad 0), .int a0] : List Value).toArray s 0 0 A) (F0 m 4 ls [])) (K38 : Int32 → Int32 → Int32 → Int32 → (Nat → Int32) → (Nat → Int64) → (Nat → Nat → Int32) → (Nat → Nat → Int64) → Prop) (kh38 : ∀ (x1 : Int32) (x2 : Int32) (x3 : Int32) (x4 : Int32) (I : Nat → Int32) (J : Nat → Int64) (B : Nat → Nat → Int32) (D : Nat → Nat → Int64) (ls : Array Slot) (H : Heap) (locs : List Loc), K38 x1 x2 x3 x4 I J B D → lv_has ls 7 [(0, .ref (ad 0)), (1, .int x1), (2, .int x2), (3, .int x3), (4, .int x4)] → zW G A s.heap (wM ad K I J B D) H locs → W p l e { frames := 2, cells := 0, slots := 0, locals := 50 } s m ([.ref (ad 0), .int a0] : List Value).toArray below meth c H locs 0 0 (MQ below (va_Qi (fun (r : Int32) (u : zS) => Post r u.1 u.2.1 u.2.2.1 u.2.2.2) (fun u t => zPost G K A (wM ad K u.1 u.2.1 u.2.2.1 u.2.2.2) t) A) ([.ref (ad 0), .int a0] : List Value).toArray s 0 0 A) (F0 m 38 ls [])) (K56 : Int32 → Int32 → Int32 → Int32 → Int32 → (Nat → Int32) → (Nat → Int64) → (Nat → Nat → Int32) → (Nat → Nat → Int64) → Prop) (kh56 : ∀ (x1 : Int32) (x2 : Int32) (x3 : Int32) (x4 : Int32) (x5 : Int32) (I : Nat → Int32) (J : Nat → Int64) (B : Nat → Nat → Int32) (D : Nat → Nat → Int64) (ls : Array Slot) (H : Heap) (locs : List Loc), K56 x1 x2 x3 x4 x5 I J B D → lv_has ls 7 [(0, .ref (ad 0)), (1, .int x1), (2, .int x2), (3, .int x3), (4, .int x4), (5, .int x5)] → zW G A s.heap (wM ad K I J B D) H locs → W p l e { frames := 2, cells := 0, slots := 0, locals := 50 } s m ([.ref (ad 0), .int a0] : List Value).toArray below meth c H locs 0 0 (MQ below (va_Qi (fun (r : Int32) (u : zS) => Post r u.1 u.2.1 u.2.2.1 u.2.2.2) (fun u t => zPost G K A (wM ad K u.1 u.2.1 u.2.2.1 u.2.2.2) t) A) ([.ref (ad 0), .int a0] : List Value).toArray s 0 0 A) (F0 m 56 ls [])) : ∀ (x1 : Int32) (x2 : Int32) (x3 : Int32) (x4 : Int32) (x5 : Int32) (I : Nat → Int32) (J : Nat → Int64) (B : Nat → Nat → Int32) (D : Nat → Nat → Int64) (ls : Array Slot) (H : Heap) (locs : List Loc), wb_LassoFinderModel_spread_56 a0 K56 K4 K38 Post x1 x2 x3 x4 x5 I J B D → lv_has ls 7 [(0, .ref (ad 0)), (1, .int x1), (2, .int x2), (3, .int x3), (4, .int x4), (5, .int x5)] → zW G A s.heap (wM ad K I J B D) H locs → W p l e { frames := 2, cells := 0, slots := 0, locals := 50 } s m ([.ref (ad 0), .int a0] : List Value).toArray below meth c H locs 0 0 (MQ below (va_Qi (fun (r : Int32) (u : zS) => Post r u.1 u.2.1 u.2.2.1 u.2.2.2) (fun u t => zPost G K A (wM ad K u.1 u.2.1 u.2.2.1 u.2.2.2) t) A) ([.ref (ad 0), .int a0] : List Value).toArray s 0 0 A) (F0 m 56 ls []) := by
  obtain ⟨hx, hb, hr, hml, hts, hown, hlocks, hA, hK⟩ := id C
  intro x1 x2 x3 x4 x5 I J B D ls H locs hok hl hw
  unfold wb_LassoFinderModel_spread_56 at hok
  refine lv_iload hx hb zd_LassoFinderModel_spread_56 (lv_at hl 5 rfl) ?_
  refine lv_iconst (v := 1) hx hb zd_LassoFinderModel_spread_58 (by decide) ?_
  refine lv_aload_n hx hb zd_LassoFinderModel_spread_59 rfl (lv_at hl 0 rfl) ?_
  refine z_get (v := .int (I 20)) hx hb hts hown hK hw zZ12 0 wM_g0 64 (by decide) zm_356 rfl zd_LassoFinderModel_spread_60 ?_
  refine lv_ishl hx hb zd_LassoFinderModel_spread_63 ?_
  refine lv_topi (fun z3 ez3 => ?_)
  have hok := hok z3 ez3
  refine lv_icmp_ge (tgt := 129) hx hb zd_LassoFinderModel_spread_64 (by decide) (fun hc4 => ?_) (fun hc4 => ?_)
  · have hok := hok.1 hc4
    obtain ⟨z5, ez5⟩ : ∃ z : Int32, z = (x4 + 1) := ⟨_, rfl⟩
    have hok := hok z5 ez5
    refine lv_iinc (v := z5) hx hb zd_LassoFinderModel_spread_129 hl (k := 4) rfl ez5.symm (by decide) rfl (fun ls hl => ?_)
    have hl : lv_has ls 7 [(4, .int z5), (0, .ref (ad 0)), (1, .int x1), (2, .int x2), (3, .int x3), (5, .int x5)] := hl
    refine lv_goto (tgt := 38) hx hb zd_LassoFinderModel_spread_132 (by decide) ?_
    exact kh38 x1 x2 x3 z5 I J B D ls H locs hok (lv_sub hl [1, 2, 3, 4, 0] rfl) hw
  · have hok := hok.2 hc4
    refine lv_bipush (v := 8) hx hb zd_LassoFinderModel_spread_67 (by decide) ?_
    refine lv_aload_n hx hb zd_LassoFinderModel_spread_69 rfl (lv_at hl 0 rfl) ?_
    refine z_get (v := .ref (ad 33)) hx hb hts hown hK hw zZ12 0 wM_g0 49 (by decide) zm_267 rfl zd_LassoFinderModel_spread_70 ?_
    refine lv_iload hx hb zd_LassoFinderModel_spread_73 (lv_at hl 4 rfl) ?_
    refine va_iald (f := (B 30)) hx hb hK hw.1 33 0 wM_a33 rfl hok.1 zd_LassoFinderModel_spread_75 ?_
    have hok := hok.2
    refine lv_topi (fun z6 ez6 => ?_)
    have hok := hok z6 ez6
    refine lv_imul hx hb zd_LassoFinderModel_spread_76 ?_
    refine lv_topi (fun z7 ez7 => ?_)
    have hok := hok z7 ez7
    refine lv_iload hx hb zd_LassoFinderModel_spread_77 (lv_at hl 5 rfl) ?_
    refine lv_iadd hx hb zd_LassoFinderModel_spread_79 ?_
    refine lv_topi (fun z8 ez8 => ?_)
    have hok := hok z8 ez8
    refine lv_istore hx hb zd_LassoFinderModel_spread_80 hl (by decide) rfl (fun ls hl => ?_)
    have hl : lv_has ls 7 [(6, .int z8), (0, .ref (ad 0)), (1, .int x1), (2, .int x2), (3, .int x3), (4, .int x4), (5, .int x5)] := hl
    refine lv_aload_n hx hb zd_LassoFinderModel_spread_82 rfl (lv_at hl 1 rfl) ?_
    refine z_get (v := .ref (ad 52)) hx hb hts hown hK hw zZ12 0 wM_g0 75 (by decide) zm_286 rfl zd_LassoFinderModel_spread_83 ?_
    refine lv_iload hx hb zd_LassoFinderModel_spread_86 (lv_at hl 0 rfl) ?_
    refine va_iald (f := (B 49)) hx hb hK hw.1 52 0 wM_a52 rfl hok.1 zd_LassoFinderModel_spread_88 ?_
    have hok := hok.2
    refine lv_topi (fun z9 ez9 => ?_)
    have hok := hok z9 ez9
    refine lv_if_ge (tgt := 123) hx hb zd_LassoFinderModel_spread_89 (by decide) (fun hc10 => ?_) (fun hc10 => ?_)
    · have hok := hok.1 hc10
      exact wJ_LassoFinderModel_spread_123 G K ad a0 Post C K4 kh4 K38 kh38 K56 kh56 x1 x2 x3 x4 x5 I J B D ls H locs hok (lv_sub hl [1, 2, 3, 4, 5, 6] rfl) hw
    · have hok := hok.2 hc10
      refine lv_aload_n hx hb zd_LassoFinderModel_spread_92 rfl (lv_at hl 1 rfl) ?_
      refine lv_iload_n hx hb zd_LassoFinderModel_spread_93 rfl (lv_at hl 4 rfl) ?_
      refine lv_iconst (v := 3) hx hb zd_LassoFinderModel_spread_94 (by decide) ?_
      refine lv_ishr hx hb zd_LassoFinderModel_spread_95 ?_
      refine lv_topi (fun z11 ez11 => ?_)
      have hok := hok z11 ez11
      refine lv_iload hx hb zd_LassoFinderModel_spread_96 (lv_at hl 6 rfl) ?_
      refine z_calli (w1 := fun (u : zS) => wM ad K u.1 u.2.1 u.2.2.1 u.2.2.2) (wr := []) (z_runV (q0 := 0) (wc := (wM ad K I J B D)) (As := [.int z11, .int x5]) (rest := []) ⟨hx, hb, hml, hown, hts⟩ (w_LassoFinderModel_truthAt l G K ad I J B D z11 x5 _ H.size hok) zf_LassoFinderModel_truthAt zm_375 ⟨Nat.le_of_ble_eq_true rfl, Nat.le_of_ble_eq_true rfl⟩ hK hw (List.range 58) wM_all wM_nd wM_g0 rfl rfl hl.1 rfl (Nat.le_of_ble_eq_true rfl) zd_LassoFinderModel_spread_98 ⟨Nat.le_of_ble_eq_true rfl, Nat.le_of_ble_eq_true rfl⟩) hw hA (List.range 58) [] wM_all rfl (by decide) (fun i hi => by cases hi) (fun r12 u H locs hok hw => ?_)
      obtain ⟨I12, J12, B12, D12⟩ := u
      dsimp only at hok
      have hw : zW G A s.heap (wM ad K I12 J12 B12 D12) H locs := hw
      refine lv_iload_n hx hb zd_LassoFinderModel_spread_101 rfl (lv_at hl 4 rfl) ?_
      refine lv_bipush (v := 7) hx hb zd_LassoFinderModel_spread_102 (by decide) ?_
      refine lv_iand hx hb zd_LassoFinderModel_spread_104 ?_
      refine lv_topi (fun z13 ez13 => ?_)
      have hok := hok z13 ez13
      refine lv_icmp_eq (tgt := 111) hx hb zd_LassoFinderModel_spread_105 (by decide) (fun hc14 => ?_) (fun hc14 => ?_)
      · have hok := hok.1 hc14
        refine lv_aload_n hx hb zd_LassoFinderModel_spread_111 rfl (lv_at hl 1 rfl) ?_
        refine z_get (v := .ref (ad 52)) hx hb hts hown hK hw zZ12 0 wM_g0 75 (by decide) zm_286 rfl zd_LassoFinderModel_spread_112 ?_
        refine lv_iload hx hb zd_LassoFinderModel_spread_115 (lv_at hl 0 rfl) ?_
        refine lv_iload_n hx hb zd_LassoFinderModel_spread_117 rfl (lv_at hl 2 rfl) ?_
        refine lv_iconst (v := 1) hx hb zd_LassoFinderModel_spread_118 (by decide) ?_
        refine lv_iadd hx hb zd_LassoFinderModel_spread_119 ?_
        refine lv_topi (fun z15 ez15 => ?_)
        have hok := hok z15 ez15
        refine va_iast (f := (B12 49)) hx hb hK hw.1 hw.2.1 hw.2.2 52 0 wM_a52 rfl hok.1 zd_LassoFinderModel_spread_120 (fun H locs w91 w92 w93 => ?_)
        have hok := hok.2
        have hw := wM_t52 ⟨w91, w92, w93⟩
        refine lv_iconst (v := 1) hx hb zd_LassoFinderModel_spread_121 (by decide) ?_
        refine lv_istore_n hx hb zd_LassoFinderModel_spread_122 rfl hl (by decide) rfl (fun ls hl => ?_)
        have hl : lv_has ls 7 [(2, .int 1), (6, .int z8), (0, .ref (ad 0)), (1, .int x1), (3, .int x3), (4, .int x4), (5, .int x5)] := hl
        exact wJ_LassoFinderModel_spread_123 G K ad a0 Post C K4 kh4 K38 kh38 K56 kh56 x1 1 x3 x4 x5 I12 J12 (va_up B12 49 (upd (B12 49) z8.toNatClampNeg z15)) D12 ls H locs hok (lv_sub hl [2, 3, 0, 4, 5, 6] rfl) hw
      · have hok := hok.2 hc14
        refine lv_goto (tgt := 123) hx hb zd_LassoFinderModel_spread_108 (by decide) ?_
        exact wJ_LassoFinderModel_spread_123 G K ad a0 Post C K4 kh4 K38 kh38 K56 kh56 x1 x2 x3 x4 x5 I12 J12 B12 D12 ls H locs hok (lv_sub hl [1, 2, 3, 4, 5, 6] rfl) hw
theorem wL_LassoFinderModel_spread_56 {p : Program} {l : Launch} {e : Env} {s : State} {m : MethodId} {below : List Frame} {meth : Method} {c : Code} {A : Nat → Prop} (G : va_G) (K : Nat → ClassId) (ad : Nat → Nat) (a0 : Int32) (Post : Int32 → (Nat → Int32) → (Nat → Int64) → (Nat → Nat → Int32) → (Nat → Nat → Int64) → Prop) (C : zCx p s m ([.ref (ad 0), .int a0] : List Value).toArray meth c A G K prog_14_method_60_code (some .boolean) 7 "LassoFinderModel") (K4 : Int32 → Int32 → Int32 → (Nat → Int32) → (Nat → Int64) → (Nat → Nat → Int32) → (Nat → Nat → Int64) → Prop) (kh4 : ∀ (x1 : Int32) (x2 : Int32) (x3 : Int32) (I : Nat → Int32) (J : Nat → Int64) (B : Nat → Nat → Int32) (D : Nat → Nat → Int64) (ls : Array Slot) (H : Heap) (locs : List Loc), K4 x1 x2 x3 I J B D → lv_has ls 7 [(0, .ref (ad 0)), (1, .int x1), (2, .int x2), (3, .int x3)] → zW G A s.heap (wM ad K I J B D) H locs → W p l e { frames := 2, cells := 0, slots := 0, locals := 50 } s m ([.ref (ad 0), .int a0] : List Value).toArray below meth c H locs 0 0 (MQ below (va_Qi (fun (r : Int32) (u : zS) => Post r u.1 u.2.1 u.2.2.1 u.2.2.2) (fun u t => zPost G K A (wM ad K u.1 u.2.1 u.2.2.1 u.2.2.2) t) A) ([.ref (ad 0), .int a0] : List Value).toArray s 0 0 A) (F0 m 4 ls [])) (K38 : Int32 → Int32 → Int32 → Int32 → (Nat → Int32) → (Nat → Int64) → (Nat → Nat → Int32) → (Nat → Nat → Int64) → Prop) (kh38 : ∀ (x1 : Int32) (x2 : Int32) (x3 : Int32) (x4 : Int32) (I : Nat → Int32) (J : Nat → Int64) (B : Nat → Nat → Int32) (D : Nat → Nat → Int64) (ls : Array Slot) (H : Heap) (locs : List Loc), K38 x1 x2 x3 x4 I J B D → lv_has ls 7 [(0, .ref (ad 0)), (1, .int x1), (2, .int x2), (3, .int x3), (4, .int x4)] → zW G A s.heap (wM ad K I J B D) H locs → W p l e { frames := 2, cells := 0, slots := 0, locals := 50 } s m ([.ref (ad 0), .int a0] : List Value).toArray below meth c H locs 0 0 (MQ below (va_Qi (fun (r : Int32) (u : zS) => Post r u.1 u.2.1 u.2.2.1 u.2.2.2) (fun u t => zPost G K A (wM ad K u.1 u.2.1 u.2.2.1 u.2.2.2) t) A) ([.ref (ad 0), .int a0] : List Value).toArray s 0 0 A) (F0 m 38 ls [])) : ∀ (n : Nat) (x1 : Int32) (x2 : Int32) (x3 : Int32) (x4 : Int32) (x5 : Int32) (I : Nat → Int32) (J : Nat → Int64) (B : Nat → Nat → Int32) (D : Nat → Nat → Int64) (ls : Array Slot) (H : Heap) (locs : List Loc), wl_LassoFinderModel_spread_56 a0 K4 K38 Post n x1 x2 x3 x4 x5 I J B D → lv_has ls 7 [(0, .ref (ad 0)), (1, .int x1), (2, .int x2), (3, .int x3), (4, .int x4), (5, .int x5)] → zW G A s.heap (wM ad K I J B D) H locs → W p l e { frames := 2, cells := 0, slots := 0, locals := 50 } s m ([.ref (ad 0), .int a0] : List Value).toArray below meth c H locs 0 0 (MQ below (va_Qi (fun (r : Int32) (u : zS) => Post r u.1 u.2.1 u.2.2.1 u.2.2.2) (fun u t => zPost G K A (wM ad K u.1 u.2.1 u.2.2.1 u.2.2.2) t) A) ([.ref (ad 0), .int a0] : List Value).toArray s 0 0 A) (F0 m 56 ls []) := by
  intro n
  induction n with
  | zero => intro x1 x2 x3 x4 x5 I J B D ls H locs hok; exact hok.elim
  | succ n ih => exact wB_LassoFinderModel_spread_56 G K ad a0 Post C K4 kh4 K38 kh38 (wl_LassoFinderModel_spread_56 a0 K4 K38 Post n) ih
set_option maxHeartbeats 8000000 in
set_option maxRecDepth 100000 in
theorem wB_LassoFinderModel_spread_38 {p : Program} {l : Launch} {e : Env} {s : State} {m : MethodId} {below : List Frame} {meth : Method} {c : Code} {A : Nat → Prop} (G : va_G) (K : Nat → ClassId) (ad : Nat → Nat) (a0 : Int32) (Post : Int32 → (Nat → Int32) → (Nat → Int64) → (Nat → Nat → Int32) → (Nat → Nat → Int64) → Prop) (C : zCx p s m ([.ref (ad 0), .int a0] : List Value).toArray meth c A G K prog_14_method_60_code (some .boolean) 7 "LassoFinderModel") (K4 : Int32 → Int32 → Int32 → (Nat → Int32) → (Nat → Int64) → (Nat → Nat → Int32) → (Nat → Nat → Int64) → Prop) (kh4 : ∀ (x1 : Int32) (x2 : Int32) (x3 : Int32) (I : Nat → Int32) (J : Nat → Int64) (B : Nat → Nat → Int32) (D : Nat → Nat → Int64) (ls : Array Slot) (H : Heap) (locs : List Loc), K4 x1 x2 x3 I J B D → lv_has ls 7 [(0, .ref (ad 0)), (1, .int x1), (2, .int x2), (3, .int x3)] → zW G A s.heap (wM ad K I J B D) H locs → W p l e { frames := 2, cells := 0, slots := 0, locals := 50 } s m ([.ref (ad 0), .int a0] : List Value).toArray below meth c H locs 0 0 (MQ below (va_Qi (fun (r : Int32) (u : zS) => Post r u.1 u.2.1 u.2.2.1 u.2.2.2) (fun u t => zPost G K A (wM ad K u.1 u.2.1 u.2.2.1 u.2.2.2) t) A) ([.ref (ad 0), .int a0] : List Value).toArray s 0 0 A) (F0 m 4 ls [])) (K38 : Int32 → Int32 → Int32 → Int32 → (Nat → Int32) → (Nat → Int64) → (Nat → Nat → Int32) → (Nat → Nat → Int64) → Prop) (kh38 : ∀ (x1 : Int32) (x2 : Int32) (x3 : Int32) (x4 : Int32) (I : Nat → Int32) (J : Nat → Int64) (B : Nat → Nat → Int32) (D : Nat → Nat → Int64) (ls : Array Slot) (H : Heap) (locs : List Loc), K38 x1 x2 x3 x4 I J B D → lv_has ls 7 [(0, .ref (ad 0)), (1, .int x1), (2, .int x2), (3, .int x3), (4, .int x4)] → zW G A s.heap (wM ad K I J B D) H locs → W p l e { frames := 2, cells := 0, slots := 0, locals := 50 } s m ([.ref (ad 0), .int a0] : List Value).toArray below meth c H locs 0 0 (MQ below (va_Qi (fun (r : Int32) (u : zS) => Post r u.1 u.2.1 u.2.2.1 u.2.2.2) (fun u t => zPost G K A (wM ad K u.1 u.2.1 u.2.2.1 u.2.2.2) t) A) ([.ref (ad 0), .int a0] : List Value).toArray s 0 0 A) (F0 m 38 ls [])) : ∀ (x1 : Int32) (x2 : Int32) (x3 : Int32) (x4 : Int32) (I : Nat → Int32) (J : Nat → Int64) (B : Nat → Nat → Int32) (D : Nat → Nat → Int64) (ls : Array Slot) (H : Heap) (locs : List Loc), wb_LassoFinderModel_spread_38 a0 K38 K4 Post x1 x2 x3 x4 I J B D → lv_has ls 7 [(0, .ref (ad 0)), (1, .int x1), (2, .int x2), (3, .int x3), (4, .int x4)] → zW G A s.heap (wM ad K I J B D) H locs → W p l e { frames := 2, cells := 0, slots := 0, locals := 50 } s m ([.ref (ad 0), .int a0] : List Value).toArray below meth c H locs 0 0 (MQ below (va_Qi (fun (r : Int32) (u : zS) => Post r u.1 u.2.1 u.2.2.1 u.2.2.2) (fun u t => zPost G K A (wM ad K u.1 u.2.1 u.2.2.1 u.2.2.2) t) A) ([.ref (ad 0), .int a0] : List Value).toArray s 0 0 A) (F0 m 38 ls []) := by
  obtain ⟨hx, hb, hr, hml, hts, hown, hlocks, hA, hK⟩ := id C
  intro x1 x2 x3 x4 I J B D ls H locs hok hl hw
  unfold wb_LassoFinderModel_spread_38 at hok
  refine lv_iload hx hb zd_LassoFinderModel_spread_38 (lv_at hl 4 rfl) ?_
  refine lv_aload_n hx hb zd_LassoFinderModel_spread_40 rfl (lv_at hl 0 rfl) ?_
  refine z_get (v := .ref (ad 32)) hx hb hts hown hK hw zZ12 0 wM_g0 48 (by decide) zm_266 rfl zd_LassoFinderModel_spread_41 ?_
  refine lv_iload_n hx hb zd_LassoFinderModel_spread_44 rfl (lv_at hl 3 rfl) ?_
  refine lv_iconst (v := 3) hx hb zd_LassoFinderModel_spread_45 (by decide) ?_
  refine lv_ishr hx hb zd_LassoFinderModel_spread_46 ?_
  refine lv_topi (fun z16 ez16 => ?_)
  have hok := hok z16 ez16
  refine lv_iconst (v := 1) hx hb zd_LassoFinderModel_spread_47 (by decide) ?_
  refine lv_iadd hx hb zd_LassoFinderModel_spread_48 ?_
  refine lv_topi (fun z17 ez17 => ?_)
  have hok := hok z17 ez17
  refine va_iald (f := (B 29)) hx hb hK hw.1 32 0 wM_a32 rfl hok.1 zd_LassoFinderModel_spread_49 ?_
  have hok := hok.2
  refine lv_topi (fun z18 ez18 => ?_)
  have hok := hok z18 ez18
  refine lv_icmp_ge (tgt := 135) hx hb zd_LassoFinderModel_spread_50 (by decide) (fun hc19 => ?_) (fun hc19 => ?_)
  · have hok := hok.1 hc19
    exact wJ_LassoFinderModel_spread_135 G K ad a0 Post C K4 kh4 x1 x2 x3 I J B D ls H locs hok (lv_sub hl [0, 1, 2, 3] rfl) hw
  · have hok := hok.2 hc19
    refine lv_iconst (v := 0) hx hb zd_LassoFinderModel_spread_53 (by decide) ?_
    refine lv_istore hx hb zd_LassoFinderModel_spread_54 hl (by decide) rfl (fun ls hl => ?_)
    have hl : lv_has ls 7 [(5, .int 0), (0, .ref (ad 0)), (1, .int x1), (2, .int x2), (3, .int x3), (4, .int x4)] := hl
    obtain ⟨n9, hok⟩ := hok
    exact wL_LassoFinderModel_spread_56 G K ad a0 Post C K4 kh4 K38 kh38 n9 x1 x2 x3 x4 0 I J B D ls H locs hok (lv_sub hl [1, 2, 3, 4, 5, 0] rfl) hw
theorem wL_LassoFinderModel_spread_38 {p : Program} {l : Launch} {e : Env} {s : State} {m : MethodId} {below : List Frame} {meth : Method} {c : Code} {A : Nat → Prop} (G : va_G) (K : Nat → ClassId) (ad : Nat → Nat) (a0 : Int32) (Post : Int32 → (Nat → Int32) → (Nat → Int64) → (Nat → Nat → Int32) → (Nat → Nat → Int64) → Prop) (C : zCx p s m ([.ref (ad 0), .int a0] : List Value).toArray meth c A G K prog_14_method_60_code (some .boolean) 7 "LassoFinderModel") (K4 : Int32 → Int32 → Int32 → (Nat → Int32) → (Nat → Int64) → (Nat → Nat → Int32) → (Nat → Nat → Int64) → Prop) (kh4 : ∀ (x1 : Int32) (x2 : Int32) (x3 : Int32) (I : Nat → Int32) (J : Nat → Int64) (B : Nat → Nat → Int32) (D : Nat → Nat → Int64) (ls : Array Slot) (H : Heap) (locs : List Loc), K4 x1 x2 x3 I J B D → lv_has ls 7 [(0, .ref (ad 0)), (1, .int x1), (2, .int x2), (3, .int x3)] → zW G A s.heap (wM ad K I J B D) H locs → W p l e { frames := 2, cells := 0, slots := 0, locals := 50 } s m ([.ref (ad 0), .int a0] : List Value).toArray below meth c H locs 0 0 (MQ below (va_Qi (fun (r : Int32) (u : zS) => Post r u.1 u.2.1 u.2.2.1 u.2.2.2) (fun u t => zPost G K A (wM ad K u.1 u.2.1 u.2.2.1 u.2.2.2) t) A) ([.ref (ad 0), .int a0] : List Value).toArray s 0 0 A) (F0 m 4 ls [])) : ∀ (n : Nat) (x1 : Int32) (x2 : Int32) (x3 : Int32) (x4 : Int32) (I : Nat → Int32) (J : Nat → Int64) (B : Nat → Nat → Int32) (D : Nat → Nat → Int64) (ls : Array Slot) (H : Heap) (locs : List Loc), wl_LassoFinderModel_spread_38 a0 K4 Post n x1 x2 x3 x4 I J B D → lv_has ls 7 [(0, .ref (ad 0)), (1, .int x1), (2, .int x2), (3, .int x3), (4, .int x4)] → zW G A s.heap (wM ad K I J B D) H locs → W p l e { frames := 2, cells := 0, slots := 0, locals := 50 } s m ([.ref (ad 0), .int a0] : List Value).toArray below meth c H locs 0 0 (MQ below (va_Qi (fun (r : Int32) (u : zS) => Post r u.1 u.2.1 u.2.2.1 u.2.2.2) (fun u t => zPost G K A (wM ad K u.1 u.2.1 u.2.2.1 u.2.2.2) t) A) ([.ref (ad 0), .int a0] : List Value).toArray s 0 0 A) (F0 m 38 ls []) := by
  intro n
  induction n with
  | zero => intro x1 x2 x3 x4 I J B D ls H locs hok; exact hok.elim
  | succ n ih => exact wB_LassoFinderModel_spread_38 G K ad a0 Post C K4 kh4 (wl_LassoFinderModel_spread_38 a0 K4 Post n) ih
set_option maxHeartbeats 8000000 in
set_option maxRecDepth 100000 in
theorem wB_LassoFinderModel_spread_4 {p : Program} {l : Launch} {e : Env} {s : State} {m : MethodId} {below : List Frame} {meth : Method} {c : Code} {A : Nat → Prop} (G : va_G) (K : Nat → ClassId) (ad : Nat → Nat) (a0 : Int32) (Post : Int32 → (Nat → Int32) → (Nat → Int64) → (Nat → Nat → Int32) → (Nat → Nat → Int64) → Prop) (C : zCx p s m ([.ref (ad 0), .int a0] : List Value).toArray meth c A G K prog_14_method_60_code (some .boolean) 7 "LassoFinderModel") (K4 : Int32 → Int32 → Int32 → (Nat → Int32) → (Nat → Int64) → (Nat → Nat → Int32) → (Nat → Nat → Int64) → Prop) (kh4 : ∀ (x1 : Int32) (x2 : Int32) (x3 : Int32) (I : Nat → Int32) (J : Nat → Int64) (B : Nat → Nat → Int32) (D : Nat → Nat → Int64) (ls : Array Slot) (H : Heap) (locs : List Loc), K4 x1 x2 x3 I J B D → lv_has ls 7 [(0, .ref (ad 0)), (1, .int x1), (2, .int x2), (3, .int x3)] → zW G A s.heap (wM ad K I J B D) H locs → W p l e { frames := 2, cells := 0, slots := 0, locals := 50 } s m ([.ref (ad 0), .int a0] : List Value).toArray below meth c H locs 0 0 (MQ below (va_Qi (fun (r : Int32) (u : zS) => Post r u.1 u.2.1 u.2.2.1 u.2.2.2) (fun u t => zPost G K A (wM ad K u.1 u.2.1 u.2.2.1 u.2.2.2) t) A) ([.ref (ad 0), .int a0] : List Value).toArray s 0 0 A) (F0 m 4 ls [])) : ∀ (x1 : Int32) (x2 : Int32) (x3 : Int32) (I : Nat → Int32) (J : Nat → Int64) (B : Nat → Nat → Int32) (D : Nat → Nat → Int64) (ls : Array Slot) (H : Heap) (locs : List Loc), wb_LassoFinderModel_spread_4 a0 K4 Post x1 x2 x3 I J B D → lv_has ls 7 [(0, .ref (ad 0)), (1, .int x1), (2, .int x2), (3, .int x3)] → zW G A s.heap (wM ad K I J B D) H locs → W p l e { frames := 2, cells := 0, slots := 0, locals := 50 } s m ([.ref (ad 0), .int a0] : List Value).toArray below meth c H locs 0 0 (MQ below (va_Qi (fun (r : Int32) (u : zS) => Post r u.1 u.2.1 u.2.2.1 u.2.2.2) (fun u t => zPost G K A (wM ad K u.1 u.2.1 u.2.2.1 u.2.2.2) t) A) ([.ref (ad 0), .int a0] : List Value).toArray s 0 0 A) (F0 m 4 ls []) := by
  obtain ⟨hx, hb, hr, hml, hts, hown, hlocks, hA, hK⟩ := id C
  intro x1 x2 x3 I J B D ls H locs hok hl hw
  unfold wb_LassoFinderModel_spread_4 at hok
  refine lv_iload_n hx hb zd_LassoFinderModel_spread_4 rfl (lv_at hl 3 rfl) ?_
  refine lv_bipush (v := 8) hx hb zd_LassoFinderModel_spread_5 (by decide) ?_
  refine lv_aload_n hx hb zd_LassoFinderModel_spread_7 rfl (lv_at hl 0 rfl) ?_
  refine z_get (v := .int (I 14)) hx hb hts hown hK hw zZ12 0 wM_g0 44 (by decide) zm_300 rfl zd_LassoFinderModel_spread_8 ?_
  refine lv_imul hx hb zd_LassoFinderModel_spread_11 ?_
  refine lv_topi (fun z20 ez20 => ?_)
  have hok := hok z20 ez20
  refine lv_icmp_ge (tgt := 141) hx hb zd_LassoFinderModel_spread_12 (by decide) (fun hc21 => ?_) (fun hc21 => ?_)
  · have hok := hok.1 hc21
    refine lv_iload_n hx hb zd_LassoFinderModel_spread_141 rfl (lv_at hl 2 rfl) ?_
    have hbo := hok.1
    have hok := hok.2
    exact (z_iret (u := (I, J, B, D)) hx hb hr hlocks (z_nar hbo) hw (List.range 58) wM_all wM_nd hok (Nat.le_of_ble_eq_true rfl) (Nat.le_of_ble_eq_true rfl) zd_LassoFinderModel_spread_142)
  · have hok := hok.2 hc21
    refine lv_aload_n hx hb zd_LassoFinderModel_spread_15 rfl (lv_at hl 0 rfl) ?_
    refine z_get (v := .ref (ad 52)) hx hb hts hown hK hw zZ12 0 wM_g0 75 (by decide) zm_286 rfl zd_LassoFinderModel_spread_16 ?_
    refine lv_iload_n hx hb zd_LassoFinderModel_spread_19 rfl (lv_at hl 3 rfl) ?_
    refine va_iald (f := (B 49)) hx hb hK hw.1 52 0 wM_a52 rfl hok.1 zd_LassoFinderModel_spread_20 ?_
    have hok := hok.2
    refine lv_topi (fun z22 ez22 => ?_)
    have hok := hok z22 ez22
    refine lv_iload_n hx hb zd_LassoFinderModel_spread_21 rfl (lv_at hl 1 rfl) ?_
    refine lv_icmp_eq (tgt := 28) hx hb zd_LassoFinderModel_spread_22 (by decide) (fun hc23 => ?_) (fun hc23 => ?_)
    · have hok := hok.1 hc23
      refine lv_aload_n hx hb zd_LassoFinderModel_spread_28 rfl (lv_at hl 0 rfl) ?_
      refine z_get (v := .ref (ad 32)) hx hb hts hown hK hw zZ12 0 wM_g0 48 (by decide) zm_266 rfl zd_LassoFinderModel_spread_29 ?_
      refine lv_iload_n hx hb zd_LassoFinderModel_spread_32 rfl (lv_at hl 3 rfl) ?_
      refine lv_iconst (v := 3) hx hb zd_LassoFinderModel_spread_33 (by decide) ?_
      refine lv_ishr hx hb zd_LassoFinderModel_spread_34 ?_
      refine lv_topi (fun z24 ez24 => ?_)
      have hok := hok z24 ez24
      refine va_iald (f := (B 29)) hx hb hK hw.1 32 0 wM_a32 rfl hok.1 zd_LassoFinderModel_spread_35 ?_
      have hok := hok.2
      refine lv_topi (fun z25 ez25 => ?_)
      have hok := hok z25 ez25
      refine lv_istore hx hb zd_LassoFinderModel_spread_36 hl (by decide) rfl (fun ls hl => ?_)
      have hl : lv_has ls 7 [(4, .int z25), (0, .ref (ad 0)), (1, .int x1), (2, .int x2), (3, .int x3)] := hl
      obtain ⟨n9, hok⟩ := hok
      exact wL_LassoFinderModel_spread_38 G K ad a0 Post C K4 kh4 n9 x1 x2 x3 z25 I J B D ls H locs hok (lv_sub hl [1, 2, 3, 4, 0] rfl) hw
    · have hok := hok.2 hc23
      refine lv_goto (tgt := 135) hx hb zd_LassoFinderModel_spread_25 (by decide) ?_
      exact wJ_LassoFinderModel_spread_135 G K ad a0 Post C K4 kh4 x1 x2 x3 I J B D ls H locs hok (lv_sub hl [0, 1, 2, 3] rfl) hw
theorem wL_LassoFinderModel_spread_4 {p : Program} {l : Launch} {e : Env} {s : State} {m : MethodId} {below : List Frame} {meth : Method} {c : Code} {A : Nat → Prop} (G : va_G) (K : Nat → ClassId) (ad : Nat → Nat) (a0 : Int32) (Post : Int32 → (Nat → Int32) → (Nat → Int64) → (Nat → Nat → Int32) → (Nat → Nat → Int64) → Prop) (C : zCx p s m ([.ref (ad 0), .int a0] : List Value).toArray meth c A G K prog_14_method_60_code (some .boolean) 7 "LassoFinderModel") : ∀ (n : Nat) (x1 : Int32) (x2 : Int32) (x3 : Int32) (I : Nat → Int32) (J : Nat → Int64) (B : Nat → Nat → Int32) (D : Nat → Nat → Int64) (ls : Array Slot) (H : Heap) (locs : List Loc), wl_LassoFinderModel_spread_4 a0 Post n x1 x2 x3 I J B D → lv_has ls 7 [(0, .ref (ad 0)), (1, .int x1), (2, .int x2), (3, .int x3)] → zW G A s.heap (wM ad K I J B D) H locs → W p l e { frames := 2, cells := 0, slots := 0, locals := 50 } s m ([.ref (ad 0), .int a0] : List Value).toArray below meth c H locs 0 0 (MQ below (va_Qi (fun (r : Int32) (u : zS) => Post r u.1 u.2.1 u.2.2.1 u.2.2.2) (fun u t => zPost G K A (wM ad K u.1 u.2.1 u.2.2.1 u.2.2.2) t) A) ([.ref (ad 0), .int a0] : List Value).toArray s 0 0 A) (F0 m 4 ls []) := by
  intro n
  induction n with
  | zero => intro x1 x2 x3 I J B D ls H locs hok; exact hok.elim
  | succ n ih => exact wB_LassoFinderModel_spread_4 G K ad a0 Post C (wl_LassoFinderModel_spread_4 a0 Post n) ih
set_option maxHeartbeats 8000000 in
set_option maxRecDepth 100000 in
theorem w_LassoFinderModel_spread (l : Launch) (G : va_G) (K : Nat → ClassId) (ad : Nat → Nat) (I : Nat → Int32) (J : Nat → Int64) (B : Nat → Nat → Int32) (D : Nat → Nat → Int64) (a0 : Int32) (Post : Int32 → (Nat → Int32) → (Nat → Int64) → (Nat → Nat → Int32) → (Nat → Nat → Int64) → Prop) (sz : Nat) (hok : wp_LassoFinderModel_spread I J B D a0 Post) : Met l zy_LassoFinderModel_spread (Cond.code zy_LassoFinderModel_spread prog_14_method_60_code 7 (some .boolean) :: zTB) { frames := 2, cells := 0, slots := 0, locals := 50 } (va_Pc [.ref (ad 0), .int a0] (zPre G K (wM ad K I J B D) sz)) (va_Qi (fun (r : Int32) (u : zS) => Post r u.1 u.2.1 u.2.2.1 u.2.2.2) (fun u t => zPost G K (va_A (wM ad K I J B D) sz) (wM ad K u.1 u.2.1 u.2.2.1 u.2.2.2) t) (va_A (wM ad K I J B D) sz)) 0 0 (va_A (wM ad K I J B D) sz) := by
  refine zMet (y := zy_LassoFinderModel_spread) (av := [.ref (ad 0), .int a0]) (maxL := 7) (cc := prog_14_method_60_code) (ret := (some .boolean)) (W0 := (wM ad K I J B D)) (sz := sz) (G := G) (K := K) (wt := zTB) (mc := 0) (ms := 0) (Qf := fun A => va_Qi (fun (r : Int32) (u : zS) => Post r u.1 u.2.1 u.2.2.1 u.2.2.2) (fun u t => zPost G K A (wM ad K u.1 u.2.1 u.2.2.1 u.2.2.2) t) A) (by decide) (Nat.le_of_ble_eq_true rfl) ?_
  intro p e s m below meth c ls A hx hb hr hml hts hown hlocks hin hA hK H locs hw hsz hl
  clear hsz
  have hown : s.vm.findClass "LassoFinderModel" = some m.cls := hown
  have C : zCx p s m ([.ref (ad 0), .int a0] : List Value).toArray meth c A G K prog_14_method_60_code (some .boolean) 7 "LassoFinderModel" := ⟨hx, hb, hr, hml, hts, hown, hlocks, hA, hK⟩
  have hl : lv_has ls 7 [(0, .ref (ad 0)), (1, .int a0)] := hl
  have hw : zW G A s.heap (wM ad K I J B D) H locs := hw
  unfold wp_LassoFinderModel_spread at hok
  refine lv_iconst (v := 0) hx hb zd_LassoFinderModel_spread_0 (by decide) ?_
  refine lv_istore_n hx hb zd_LassoFinderModel_spread_1 rfl hl (by decide) rfl (fun ls hl => ?_)
  have hl : lv_has ls 7 [(2, .int 0), (0, .ref (ad 0)), (1, .int a0)] := hl
  refine lv_iconst (v := 0) hx hb zd_LassoFinderModel_spread_2 (by decide) ?_
  refine lv_istore_n hx hb zd_LassoFinderModel_spread_3 rfl hl (by decide) rfl (fun ls hl => ?_)
  have hl : lv_has ls 7 [(3, .int 0), (2, .int 0), (0, .ref (ad 0)), (1, .int a0)] := hl
  obtain ⟨n9, hok⟩ := hok
  exact wL_LassoFinderModel_spread_4 G K ad a0 Post C n9 a0 0 0 I J B D ls H locs hok (lv_sub hl [2, 3, 1, 0] rfl) hw
def wc_LassoFinderModel_isTrue_25 (a0 : Int32) (a1 : Int32) (Post : Int32 → (Nat → Int32) → (Nat → Int64) → (Nat → Nat → Int32) → (Nat → Nat → Int64) → Prop) (y0 : Int32) (I : Nat → Int32) (J : Nat → Int64) (B : Nat → Nat → Int32) (D : Nat → Nat → Int64) : Prop :=
  (y0 = 0 ∨ y0 = 1) ∧ Post y0 I J B D
def wp_LassoFinderModel_isTrue (I : Nat → Int32) (J : Nat → Int64) (B : Nat → Nat → Int32) (D : Nat → Nat → Int64) (a0 : Int32) (a1 : Int32) (Post : Int32 → (Nat → Int32) → (Nat → Int64) → (Nat → Nat → Int32) → (Nat → Nat → Int64) → Prop) : Prop :=
  ∀ z1 : Int32, z1 = (8 * a0) → ∀ z2 : Int32, z2 = (z1 + a1) → vp_in z2 768 ∧ ∀ z3 : Int32, z3 = ((B 48) z2.toNatClampNeg) → ∀ z4 : Int32, z4 = (z3 >>> (6 &&& 31)) → ∀ z5 : Int32, z5 = (z4 &&& 1) → ((¬ z5 = 1 → wc_LassoFinderModel_isTrue_25 a0 a1 Post 0 I J B D) ∧ (z5 = 1 → wc_LassoFinderModel_isTrue_25 a0 a1 Post 1 I J B D))
set_option maxHeartbeats 8000000 in
set_option maxRecDepth 100000 in
theorem wJ_LassoFinderModel_isTrue_25 {p : Program} {l : Launch} {e : Env} {s : State} {m : MethodId} {below : List Frame} {meth : Method} {c : Code} {A : Nat → Prop} (G : va_G) (K : Nat → ClassId) (ad : Nat → Nat) (a0 : Int32) (a1 : Int32) (Post : Int32 → (Nat → Int32) → (Nat → Int64) → (Nat → Nat → Int32) → (Nat → Nat → Int64) → Prop) (C : zCx p s m ([.ref (ad 0), .int a0, .int a1] : List Value).toArray meth c A G K prog_14_method_54_code (some .boolean) 3 "LassoFinderModel") : ∀ (y0 : Int32) (I : Nat → Int32) (J : Nat → Int64) (B : Nat → Nat → Int32) (D : Nat → Nat → Int64) (ls : Array Slot) (H : Heap) (locs : List Loc), wc_LassoFinderModel_isTrue_25 a0 a1 Post y0 I J B D → lv_has ls 3 [] → zW G A s.heap (wM ad K I J B D) H locs → W p l e { frames := 0, cells := 0, slots := 0, locals := 0 } s m ([.ref (ad 0), .int a0, .int a1] : List Value).toArray below meth c H locs 0 0 (MQ below (va_Qi (fun (r : Int32) (u : zS) => Post r u.1 u.2.1 u.2.2.1 u.2.2.2) (fun u t => zPost G K A (wM ad K u.1 u.2.1 u.2.2.1 u.2.2.2) t) A) ([.ref (ad 0), .int a0, .int a1] : List Value).toArray s 0 0 A) (F0 m 25 ls [.int y0]) := by
  obtain ⟨hx, hb, hr, hml, hts, hown, hlocks, hA, hK⟩ := id C
  intro y0 I J B D ls H locs hok hl hw
  unfold wc_LassoFinderModel_isTrue_25 at hok
  have hbo := hok.1
  have hok := hok.2
  exact (z_iret (u := (I, J, B, D)) hx hb hr hlocks (z_nar hbo) hw (List.range 58) wM_all wM_nd hok (Nat.le_of_ble_eq_true rfl) (Nat.le_of_ble_eq_true rfl) zd_LassoFinderModel_isTrue_25)
set_option maxHeartbeats 8000000 in
set_option maxRecDepth 100000 in
theorem w_LassoFinderModel_isTrue (l : Launch) (G : va_G) (K : Nat → ClassId) (ad : Nat → Nat) (I : Nat → Int32) (J : Nat → Int64) (B : Nat → Nat → Int32) (D : Nat → Nat → Int64) (a0 : Int32) (a1 : Int32) (Post : Int32 → (Nat → Int32) → (Nat → Int64) → (Nat → Nat → Int32) → (Nat → Nat → Int64) → Prop) (sz : Nat) (hok : wp_LassoFinderModel_isTrue I J B D a0 a1 Post) : Met l zy_LassoFinderModel_isTrue (Cond.code zy_LassoFinderModel_isTrue prog_14_method_54_code 3 (some .boolean) :: zTB) { frames := 0, cells := 0, slots := 0, locals := 0 } (va_Pc [.ref (ad 0), .int a0, .int a1] (zPre G K (wM ad K I J B D) sz)) (va_Qi (fun (r : Int32) (u : zS) => Post r u.1 u.2.1 u.2.2.1 u.2.2.2) (fun u t => zPost G K (va_A (wM ad K I J B D) sz) (wM ad K u.1 u.2.1 u.2.2.1 u.2.2.2) t) (va_A (wM ad K I J B D) sz)) 0 0 (va_A (wM ad K I J B D) sz) := by
  refine zMet (y := zy_LassoFinderModel_isTrue) (av := [.ref (ad 0), .int a0, .int a1]) (maxL := 3) (cc := prog_14_method_54_code) (ret := (some .boolean)) (W0 := (wM ad K I J B D)) (sz := sz) (G := G) (K := K) (wt := zTB) (mc := 0) (ms := 0) (Qf := fun A => va_Qi (fun (r : Int32) (u : zS) => Post r u.1 u.2.1 u.2.2.1 u.2.2.2) (fun u t => zPost G K A (wM ad K u.1 u.2.1 u.2.2.1 u.2.2.2) t) A) (by decide) (Nat.le_of_ble_eq_true rfl) ?_
  intro p e s m below meth c ls A hx hb hr hml hts hown hlocks hin hA hK H locs hw hsz hl
  clear hsz
  have hown : s.vm.findClass "LassoFinderModel" = some m.cls := hown
  have C : zCx p s m ([.ref (ad 0), .int a0, .int a1] : List Value).toArray meth c A G K prog_14_method_54_code (some .boolean) 3 "LassoFinderModel" := ⟨hx, hb, hr, hml, hts, hown, hlocks, hA, hK⟩
  have hl : lv_has ls 3 [(0, .ref (ad 0)), (1, .int a0), (2, .int a1)] := hl
  have hw : zW G A s.heap (wM ad K I J B D) H locs := hw
  unfold wp_LassoFinderModel_isTrue at hok
  refine lv_aload_n hx hb zd_LassoFinderModel_isTrue_0 rfl (lv_at hl 0 rfl) ?_
  refine z_get (v := .ref (ad 51)) hx hb hts hown hK hw zZ12 0 wM_g0 74 (by decide) zm_285 rfl zd_LassoFinderModel_isTrue_1 ?_
  refine lv_bipush (v := 8) hx hb zd_LassoFinderModel_isTrue_4 (by decide) ?_
  refine lv_iload_n hx hb zd_LassoFinderModel_isTrue_6 rfl (lv_at hl 1 rfl) ?_
  refine lv_imul hx hb zd_LassoFinderModel_isTrue_7 ?_
  refine lv_topi (fun z1 ez1 => ?_)
  have hok := hok z1 ez1
  refine lv_iload_n hx hb zd_LassoFinderModel_isTrue_8 rfl (lv_at hl 2 rfl) ?_
  refine lv_iadd hx hb zd_LassoFinderModel_isTrue_9 ?_
  refine lv_topi (fun z2 ez2 => ?_)
  have hok := hok z2 ez2
  refine va_iald (f := (B 48)) hx hb hK hw.1 51 0 wM_a51 rfl hok.1 zd_LassoFinderModel_isTrue_10 ?_
  have hok := hok.2
  refine lv_topi (fun z3 ez3 => ?_)
  have hok := hok z3 ez3
  refine lv_bipush (v := 6) hx hb zd_LassoFinderModel_isTrue_11 (by decide) ?_
  refine lv_ishr hx hb zd_LassoFinderModel_isTrue_13 ?_
  refine lv_topi (fun z4 ez4 => ?_)
  have hok := hok z4 ez4
  refine lv_iconst (v := 1) hx hb zd_LassoFinderModel_isTrue_14 (by decide) ?_
  refine lv_iand hx hb zd_LassoFinderModel_isTrue_15 ?_
  refine lv_topi (fun z5 ez5 => ?_)
  have hok := hok z5 ez5
  refine lv_iconst (v := 1) hx hb zd_LassoFinderModel_isTrue_16 (by decide) ?_
  refine lv_icmp_ne (tgt := 24) hx hb zd_LassoFinderModel_isTrue_17 (by decide) (fun hc6 => ?_) (fun hc6 => ?_)
  · have hok := hok.1 hc6
    refine lv_iconst (v := 0) hx hb zd_LassoFinderModel_isTrue_24 (by decide) ?_
    exact wJ_LassoFinderModel_isTrue_25 G K ad a0 a1 Post C 0 I J B D ls H locs hok (lv_sub hl [] rfl) hw
  · have hok := hok.2 hc6
    refine lv_iconst (v := 1) hx hb zd_LassoFinderModel_isTrue_20 (by decide) ?_
    refine lv_goto (tgt := 25) hx hb zd_LassoFinderModel_isTrue_21 (by decide) ?_
    exact wJ_LassoFinderModel_isTrue_25 G K ad a0 a1 Post C 1 I J B D ls H locs hok (lv_sub hl [] rfl) hw
def wc_LassoFinderModel_shortest_354 (K193 : Int32 → Int32 → (Nat → Int32) → (Nat → Int64) → (Nat → Nat → Int32) → (Nat → Nat → Int64) → Prop) (K200 : Int32 → Int32 → Int32 → (Nat → Int32) → (Nat → Int64) → (Nat → Nat → Int32) → (Nat → Nat → Int64) → Prop) (Post : Int32 → (Nat → Int32) → (Nat → Int64) → (Nat → Nat → Int32) → (Nat → Nat → Int64) → Prop) (x1 : Int32) (x3 : Int32) (x4 : Int32) (I : Nat → Int32) (J : Nat → Int64) (B : Nat → Nat → Int32) (D : Nat → Nat → Int64) : Prop :=
  ∀ z1 : Int32, z1 = (x4 + 1) → K200 x1 x3 z1 I J B D
def wc_LassoFinderModel_shortest_341 (K193 : Int32 → Int32 → (Nat → Int32) → (Nat → Int64) → (Nat → Nat → Int32) → (Nat → Nat → Int64) → Prop) (K200 : Int32 → Int32 → Int32 → (Nat → Int32) → (Nat → Int64) → (Nat → Nat → Int32) → (Nat → Nat → Int64) → Prop) (K223 : Int32 → Int32 → Int32 → Int32 → (Nat → Int32) → (Nat → Int64) → (Nat → Nat → Int32) → (Nat → Nat → Int64) → Prop) (K253 : Int32 → Int32 → Int32 → Int32 → Int32 → (Nat → Int32) → (Nat → Int64) → (Nat → Nat → Int32) → (Nat → Nat → Int64) → Prop) (Post : Int32 → (Nat → Int32) → (Nat → Int64) → (Nat → Nat → Int32) → (Nat → Nat → Int64) → Prop) (x1 : Int32) (x3 : Int32) (x4 : Int32) (x5 : Int32) (x6 : Int32) (y0 : Int32) (y1 : Int32) (I : Nat → Int32) (J : Nat → Int64) (B : Nat → Nat → Int32) (D : Nat → Nat → Int64) : Prop :=
  vp_in y1 768 ∧ ∀ z2 : Int32, z2 = (x6 + 1) → K253 x1 x3 x4 x5 z2 I J (va_up B 50 (upd (B 50) y1.toNatClampNeg (vp_nar .boolean y0))) D
def wc_LassoFinderModel_shortest_336 (K193 : Int32 → Int32 → (Nat → Int32) → (Nat → Int64) → (Nat → Nat → Int32) → (Nat → Nat → Int64) → Prop) (K200 : Int32 → Int32 → Int32 → (Nat → Int32) → (Nat → Int64) → (Nat → Nat → Int32) → (Nat → Nat → Int64) → Prop) (K223 : Int32 → Int32 → Int32 → Int32 → (Nat → Int32) → (Nat → Int64) → (Nat → Nat → Int32) → (Nat → Nat → Int64) → Prop) (K253 : Int32 → Int32 → Int32 → Int32 → Int32 → (Nat → Int32) → (Nat → Int64) → (Nat → Nat → Int32) → (Nat → Nat → Int64) → Prop) (Post : Int32 → (Nat → Int32) → (Nat → Int64) → (Nat → Nat → Int32) → (Nat → Nat → Int64) → Prop) (x1 : Int32) (x3 : Int32) (x4 : Int32) (x5 : Int32) (x6 : Int32) (y0 : Int32) (I : Nat → Int32) (J : Nat → Int64) (B : Nat → Nat → Int32) (D : Nat → Nat → Int64) : Prop :=
  wc_LassoFinderModel_shortest_341  K193 K200 K223 K253 Post x1 x3 x4 x5 x6 1 y0 I J B D
def wc_LassoFinderModel_shortest_340 (K193 : Int32 → Int32 → (Nat → Int32) → (Nat → Int64) → (Nat → Nat → Int32) → (Nat → Nat → Int64) → Prop) (K200 : Int32 → Int32 → Int32 → (Nat → Int32) → (Nat → Int64) → (Nat → Nat → Int32) → (Nat → Nat → Int64) → Prop) (K223 : Int32 → Int32 → Int32 → Int32 → (Nat → Int32) → (Nat → Int64) → (Nat → Nat → Int32) → (Nat → Nat → Int64) → Prop) (K253 : Int32 → Int32 → Int32 → Int32 → Int32 → (Nat → Int32) → (Nat → Int64) → (Nat → Nat → Int32) → (Nat → Nat → Int64) → Prop) (Post : Int32 → (Nat → Int32) → (Nat → Int64) → (Nat → Nat → Int32) → (Nat → Nat → Int64) → Prop) (x1 : Int32) (x3 : Int32) (x4 : Int32) (x5 : Int32) (x6 : Int32) (y0 : Int32) (I : Nat → Int32) (J : Nat → Int64) (B : Nat → Nat → Int32) (D : Nat → Nat → Int64) : Prop :=
  wc_LassoFinderModel_shortest_341  K193 K200 K223 K253 Post x1 x3 x4 x5 x6 0 y0 I J B D
def wb_LassoFinderModel_shortest_253 (K253 : Int32 → Int32 → Int32 → Int32 → Int32 → (Nat → Int32) → (Nat → Int64) → (Nat → Nat → Int32) → (Nat → Nat → Int64) → Prop) (K193 : Int32 → Int32 → (Nat → Int32) → (Nat → Int64) → (Nat → Nat → Int32) → (Nat → Nat → Int64) → Prop) (K200 : Int32 → Int32 → Int32 → (Nat → Int32) → (Nat → Int64) → (Nat → Nat → Int32) → (Nat → Nat → Int64) → Prop) (K223 : Int32 → Int32 → Int32 → Int32 → (Nat → Int32) → (Nat → Int64) → (Nat → Nat → Int32) → (Nat → Nat → Int64) → Prop) (Post : Int32 → (Nat → Int32) → (Nat → Int64) → (Nat → Nat → Int32) → (Nat → Nat → Int64) → Prop) (x1 : Int32) (x3 : Int32) (x4 : Int32) (x5 : Int32) (x6 : Int32) (I : Nat → Int32) (J : Nat → Int64) (B : Nat → Nat → Int32) (D : Nat → Nat → Int64) : Prop :=
  ∀ z3 : Int32, z3 = (1 <<< ((I 20) &&& 31)) → ((z3 ≤ x6 → ∀ z5 : Int32, z5 = (x5 + 1) → K223 x1 x3 x4 z5 I J B D) ∧ (¬ z3 ≤ x6 → vp_in x5 401 ∧ ∀ z6 : Int32, z6 = ((B 30) x5.toNatClampNeg) → ∀ z7 : Int32, z7 = (8 * z6) → ∀ z8 : Int32, z8 = (z7 + x6) → vp_in x4 768 ∧ ∀ z9 : Int32, z9 = ((B 50) x4.toNatClampNeg) → ((¬ z9 = 0 → wc_LassoFinderModel_shortest_336  K193 K200 K223 K253 Post x1 x3 x4 x5 x6 x4 I J B D) ∧ (z9 = 0 → vp_in z8 768 ∧ ∀ z11 : Int32, z11 = ((B 49) z8.toNatClampNeg) → ∀ z12 : Int32, z12 = (x3 + 1) → ((¬ z11 = z12 → wc_LassoFinderModel_shortest_340  K193 K200 K223 K253 Post x1 x3 x4 x5 x6 x4 I J B D) ∧ (z11 = z12 → vp_in z8 768 ∧ ∀ z14 : Int32, z14 = ((B 50) z8.toNatClampNeg) → ((z14 = 0 → wc_LassoFinderModel_shortest_340  K193 K200 K223 K253 Post x1 x3 x4 x5 x6 x4 I J B D) ∧ (¬ z14 = 0 → ∀ z16 : Int32, z16 = (x4 >>> (3 &&& 31)) → wp_LassoFinderModel_truthAt I J B D z16 x6 (fun r17 I17 J17 B17 D17 => ∀ z18 : Int32, z18 = (x4 &&& 7) → ((¬ r17 = z18 → wc_LassoFinderModel_shortest_340  K193 K200 K223 K253 Post x1 x3 x4 x5 x6 x4 I17 J17 B17 D17) ∧ (r17 = z18 → wc_LassoFinderModel_shortest_336  K193 K200 K223 K253 Post x1 x3 x4 x5 x6 x4 I17 J17 B17 D17)))))))))))
def wl_LassoFinderModel_shortest_253 (K193 : Int32 → Int32 → (Nat → Int32) → (Nat → Int64) → (Nat → Nat → Int32) → (Nat → Nat → Int64) → Prop) (K200 : Int32 → Int32 → Int32 → (Nat → Int32) → (Nat → Int64) → (Nat → Nat → Int32) → (Nat → Nat → Int64) → Prop) (K223 : Int32 → Int32 → Int32 → Int32 → (Nat → Int32) → (Nat → Int64) → (Nat → Nat → Int32) → (Nat → Nat → Int64) → Prop) (Post : Int32 → (Nat → Int32) → (Nat → Int64) → (Nat → Nat → Int32) → (Nat → Nat → Int64) → Prop) (n : Nat) : Int32 → Int32 → Int32 → Int32 → Int32 → (Nat → Int32) → (Nat → Int64) → (Nat → Nat → Int32) → (Nat → Nat → Int64) → Prop := Nat.rec (fun _ _ _ _ _ _ _ _ _ => False) (fun _ r => wb_LassoFinderModel_shortest_253  r K193 K200 K223 Post) n
def wb_LassoFinderModel_shortest_223 (K223 : Int32 → Int32 → Int32 → Int32 → (Nat → Int32) → (Nat → Int64) → (Nat → Nat → Int32) → (Nat → Nat → Int64) → Prop) (K193 : Int32 → Int32 → (Nat → Int32) → (Nat → Int64) → (Nat → Nat → Int32) → (Nat → Nat → Int64) → Prop) (K200 : Int32 → Int32 → Int32 → (Nat → Int32) → (Nat → Int64) → (Nat → Nat → Int32) → (Nat → Nat → Int64) → Prop) (Post : Int32 → (Nat → Int32) → (Nat → Int64) → (Nat → Nat → Int32) → (Nat → Nat → Int64) → Prop) (x1 : Int32) (x3 : Int32) (x4 : Int32) (x5 : Int32) (I : Nat → Int32) (J : Nat → Int64) (B : Nat → Nat → Int32) (D : Nat → Nat → Int64) : Prop :=
  ∀ z20 : Int32, z20 = (x4 >>> (3 &&& 31)) → ∀ z21 : Int32, z21 = (z20 + 1) → vp_in z21 98 ∧ ∀ z22 : Int32, z22 = ((B 29) z21.toNatClampNeg) → ((z22 ≤ x5 → wc_LassoFinderModel_shortest_354  K193 K200 Post x1 x3 x4 I J B D) ∧ (¬ z22 ≤ x5 → vp_in x4 768 ∧ ∀ z24 : Int32, z24 = ((B 49) x4.toNatClampNeg) → ((¬ z24 = x3 → wc_LassoFinderModel_shortest_354  K193 K200 Post x1 x3 x4 I J B D) ∧ (z24 = x3 → ∃ n : Nat, wl_LassoFinderModel_shortest_253  K193 K200 K223 Post n x1 x3 x4 x5 0 I J B D))))
def wl_LassoFinderModel_shortest_223 (K193 : Int32 → Int32 → (Nat → Int32) → (Nat → Int64) → (Nat → Nat → Int32) → (Nat → Nat → Int64) → Prop) (K200 : Int32 → Int32 → Int32 → (Nat → Int32) → (Nat → Int64) → (Nat → Nat → Int32) → (Nat → Nat → Int64) → Prop) (Post : Int32 → (Nat → Int32) → (Nat → Int64) → (Nat → Nat → Int32) → (Nat → Nat → Int64) → Prop) (n : Nat) : Int32 → Int32 → Int32 → Int32 → (Nat → Int32) → (Nat → Int64) → (Nat → Nat → Int32) → (Nat → Nat → Int64) → Prop := Nat.rec (fun _ _ _ _ _ _ _ _ => False) (fun _ r => wb_LassoFinderModel_shortest_223  r K193 K200 Post) n
def wb_LassoFinderModel_shortest_200 (K200 : Int32 → Int32 → Int32 → (Nat → Int32) → (Nat → Int64) → (Nat → Nat → Int32) → (Nat → Nat → Int64) → Prop) (K193 : Int32 → Int32 → (Nat → Int32) → (Nat → Int64) → (Nat → Nat → Int32) → (Nat → Nat → Int64) → Prop) (Post : Int32 → (Nat → Int32) → (Nat → Int64) → (Nat → Nat → Int32) → (Nat → Nat → Int64) → Prop) (x1 : Int32) (x3 : Int32) (x4 : Int32) (I : Nat → Int32) (J : Nat → Int64) (B : Nat → Nat → Int32) (D : Nat → Nat → Int64) : Prop :=
  ∀ z26 : Int32, z26 = (8 * (I 14)) → ((z26 ≤ x4 → ∀ z28 : Int32, z28 = (x3 + (-1)) → K193 x1 z28 I J B D) ∧ (¬ z26 ≤ x4 → ∀ z29 : Int32, z29 = (x4 >>> (3 &&& 31)) → vp_in z29 98 ∧ ∀ z30 : Int32, z30 = ((B 29) z29.toNatClampNeg) → ∃ n : Nat, wl_LassoFinderModel_shortest_223  K193 K200 Post n x1 x3 x4 z30 I J B D))
def wl_LassoFinderModel_shortest_200 (K193 : Int32 → Int32 → (Nat → Int32) → (Nat → Int64) → (Nat → Nat → Int32) → (Nat → Nat → Int64) → Prop) (Post : Int32 → (Nat → Int32) → (Nat → Int64) → (Nat → Nat → Int32) → (Nat → Nat → Int64) → Prop) (n : Nat) : Int32 → Int32 → Int32 → (Nat → Int32) → (Nat → Int64) → (Nat → Nat → Int32) → (Nat → Nat → Int64) → Prop := Nat.rec (fun _ _ _ _ _ _ _ => False) (fun _ r => wb_LassoFinderModel_shortest_200  r K193 Post) n
def wb_LassoFinderModel_shortest_193 (K193 : Int32 → Int32 → (Nat → Int32) → (Nat → Int64) → (Nat → Nat → Int32) → (Nat → Nat → Int64) → Prop) (Post : Int32 → (Nat → Int32) → (Nat → Int64) → (Nat → Nat → Int32) → (Nat → Nat → Int64) → Prop) (x1 : Int32) (x3 : Int32) (I : Nat → Int32) (J : Nat → Int64) (B : Nat → Nat → Int32) (D : Nat → Nat → Int64) : Prop :=
  ((x3 < 0 → Post x1 I J B D) ∧ (¬ x3 < 0 → ∃ n : Nat, wl_LassoFinderModel_shortest_200  K193 Post n x1 x3 0 I J B D))
def wl_LassoFinderModel_shortest_193 (Post : Int32 → (Nat → Int32) → (Nat → Int64) → (Nat → Nat → Int32) → (Nat → Nat → Int64) → Prop) (n : Nat) : Int32 → Int32 → (Nat → Int32) → (Nat → Int64) → (Nat → Nat → Int32) → (Nat → Nat → Int64) → Prop := Nat.rec (fun _ _ _ _ _ _ => False) (fun _ r => wb_LassoFinderModel_shortest_193  r Post) n
def wc_LassoFinderModel_shortest_189 (Post : Int32 → (Nat → Int32) → (Nat → Int64) → (Nat → Nat → Int32) → (Nat → Nat → Int64) → Prop) (x1 : Int32) (I : Nat → Int32) (J : Nat → Int64) (B : Nat → Nat → Int32) (D : Nat → Nat → Int64) : Prop :=
  ∀ z32 : Int32, z32 = (x1 - 1) → ∃ n : Nat, wl_LassoFinderModel_shortest_193  Post n x1 z32 I J B D
def wc_LassoFinderModel_shortest_181 (K62 : Int32 → Int32 → Int32 → (Nat → Int32) → (Nat → Int64) → (Nat → Nat → Int32) → (Nat → Nat → Int64) → Prop) (Post : Int32 → (Nat → Int32) → (Nat → Int64) → (Nat → Nat → Int32) → (Nat → Nat → Int64) → Prop) (x2 : Int32) (x3 : Int32) (y0 : Int32) (y1 : Int32) (I : Nat → Int32) (J : Nat → Int64) (B : Nat → Nat → Int32) (D : Nat → Nat → Int64) : Prop :=
  ∀ z33 : Int32, z33 = (y1 + y0) → ∀ z34 : Int32, z34 = (x3 + 1) → K62 z33 x2 z34 I J B D
def wc_LassoFinderModel_shortest_171 (K62 : Int32 → Int32 → Int32 → (Nat → Int32) → (Nat → Int64) → (Nat → Nat → Int32) → (Nat → Nat → Int64) → Prop) (Post : Int32 → (Nat → Int32) → (Nat → Int64) → (Nat → Nat → Int32) → (Nat → Nat → Int64) → Prop) (x1 : Int32) (x2 : Int32) (x3 : Int32) (I : Nat → Int32) (J : Nat → Int64) (B : Nat → Nat → Int32) (D : Nat → Nat → Int64) : Prop :=
  ((x2 = 0 → wc_LassoFinderModel_shortest_181  K62 Post x2 x3 1 x1 I J B D) ∧ (¬ x2 = 0 → wc_LassoFinderModel_shortest_181  K62 Post x2 x3 0 x1 I J B D))
def wc_LassoFinderModel_shortest_150 (K62 : Int32 → Int32 → Int32 → (Nat → Int32) → (Nat → Int64) → (Nat → Nat → Int32) → (Nat → Nat → Int64) → Prop) (K80 : Int32 → Int32 → Int32 → Int32 → (Nat → Int32) → (Nat → Int64) → (Nat → Nat → Int32) → (Nat → Nat → Int64) → Prop) (Post : Int32 → (Nat → Int32) → (Nat → Int64) → (Nat → Nat → Int32) → (Nat → Nat → Int64) → Prop) (x1 : Int32) (x3 : Int32) (x4 : Int32) (y0 : Int32) (I : Nat → Int32) (J : Nat → Int64) (B : Nat → Nat → Int32) (D : Nat → Nat → Int64) : Prop :=
  ∀ z36 : Int32, z36 = (x4 + 1) → K80 x1 y0 x3 z36 I J B D
def wc_LassoFinderModel_shortest_145 (K62 : Int32 → Int32 → Int32 → (Nat → Int32) → (Nat → Int64) → (Nat → Nat → Int32) → (Nat → Nat → Int64) → Prop) (K80 : Int32 → Int32 → Int32 → Int32 → (Nat → Int32) → (Nat → Int64) → (Nat → Nat → Int32) → (Nat → Nat → Int64) → Prop) (Post : Int32 → (Nat → Int32) → (Nat → Int64) → (Nat → Nat → Int32) → (Nat → Nat → Int64) → Prop) (x1 : Int32) (x3 : Int32) (x4 : Int32) (I : Nat → Int32) (J : Nat → Int64) (B : Nat → Nat → Int32) (D : Nat → Nat → Int64) : Prop :=
  wc_LassoFinderModel_shortest_150  K62 K80 Post x1 x3 x4 1 I J B D
def wc_LassoFinderModel_shortest_130 (K62 : Int32 → Int32 → Int32 → (Nat → Int32) → (Nat → Int64) → (Nat → Nat → Int32) → (Nat → Nat → Int64) → Prop) (K80 : Int32 → Int32 → Int32 → Int32 → (Nat → Int32) → (Nat → Int64) → (Nat → Nat → Int32) → (Nat → Nat → Int64) → Prop) (Post : Int32 → (Nat → Int32) → (Nat → Int64) → (Nat → Nat → Int32) → (Nat → Nat → Int64) → Prop) (x1 : Int32) (x2 : Int32) (x3 : Int32) (x4 : Int32) (y0 : Int32) (y1 : Int32) (I : Nat → Int32) (J : Nat → Int64) (B : Nat → Nat → Int32) (D : Nat → Nat → Int64) : Prop :=
  vp_in y1 768 ∧ ((¬ x2 = 0 → wc_LassoFinderModel_shortest_145  K62 K80 Post x1 x3 x4 I J (va_up B 50 (upd (B 50) y1.toNatClampNeg (vp_nar .boolean y0))) D) ∧ (x2 = 0 → vp_in x4 768 ∧ ∀ z38 : Int32, z38 = ((upd (B 50) y1.toNatClampNeg (vp_nar .boolean y0)) x4.toNatClampNeg) → ((z38 = 0 → wc_LassoFinderModel_shortest_150  K62 K80 Post x1 x3 x4 0 I J (va_up B 50 (upd (B 50) y1.toNatClampNeg (vp_nar .boolean y0))) D) ∧ (¬ z38 = 0 → wc_LassoFinderModel_shortest_145  K62 K80 Post x1 x3 x4 I J (va_up B 50 (upd (B 50) y1.toNatClampNeg (vp_nar .boolean y0))) D))))
def wc_LassoFinderModel_shortest_129 (K62 : Int32 → Int32 → Int32 → (Nat → Int32) → (Nat → Int64) → (Nat → Nat → Int32) → (Nat → Nat → Int64) → Prop) (K80 : Int32 → Int32 → Int32 → Int32 → (Nat → Int32) → (Nat → Int64) → (Nat → Nat → Int32) → (Nat → Nat → Int64) → Prop) (Post : Int32 → (Nat → Int32) → (Nat → Int64) → (Nat → Nat → Int32) → (Nat → Nat → Int64) → Prop) (x1 : Int32) (x2 : Int32) (x3 : Int32) (x4 : Int32) (y0 : Int32) (I : Nat → Int32) (J : Nat → Int64) (B : Nat → Nat → Int32) (D : Nat → Nat → Int64) : Prop :=
  wc_LassoFinderModel_shortest_130  K62 K80 Post x1 x2 x3 x4 0 y0 I J B D
def wb_LassoFinderModel_shortest_80 (K80 : Int32 → Int32 → Int32 → Int32 → (Nat → Int32) → (Nat → Int64) → (Nat → Nat → Int32) → (Nat → Nat → Int64) → Prop) (K62 : Int32 → Int32 → Int32 → (Nat → Int32) → (Nat → Int64) → (Nat → Nat → Int32) → (Nat → Nat → Int64) → Prop) (Post : Int32 → (Nat → Int32) → (Nat → Int64) → (Nat → Nat → Int32) → (Nat → Nat → Int64) → Prop) (x1 : Int32) (x2 : Int32) (x3 : Int32) (x4 : Int32) (I : Nat → Int32) (J : Nat → Int64) (B : Nat → Nat → Int32) (D : Nat → Nat → Int64) : Prop :=
  ∀ z40 : Int32, z40 = (8 * (I 14)) → ((z40 ≤ x4 → ((¬ x2 = 0 → wc_LassoFinderModel_shortest_171  K62 Post x1 x2 x3 I J B D) ∧ (x2 = 0 → wp_LassoFinderModel_spread I J B D x1 (fun r43 I43 J43 B43 D43 => ((¬ r43 = 0 → wc_LassoFinderModel_shortest_171  K62 Post x1 x2 x3 I43 J43 B43 D43) ∧ (r43 = 0 → Post (-1) I43 J43 B43 D43)))))) ∧ (¬ z40 ≤ x4 → vp_in x4 768 ∧ ∀ z45 : Int32, z45 = ((B 49) x4.toNatClampNeg) → ((¬ z45 = x1 → wc_LassoFinderModel_shortest_129  K62 K80 Post x1 x2 x3 x4 x4 I J B D) ∧ (z45 = x1 → ∀ z47 : Int32, z47 = (x4 >>> (3 &&& 31)) → ∀ z48 : Int32, z48 = (x4 &&& 7) → wp_LassoFinderModel_nearest I J B D z47 z48 (fun r49 I49 J49 B49 D49 => ((r49 ≤ 0 → wc_LassoFinderModel_shortest_129  K62 K80 Post x1 x2 x3 x4 x4 I49 J49 B49 D49) ∧ (¬ r49 ≤ 0 → wc_LassoFinderModel_shortest_130  K62 K80 Post x1 x2 x3 x4 1 x4 I49 J49 B49 D49)))))))
def wl_LassoFinderModel_shortest_80 (K62 : Int32 → Int32 → Int32 → (Nat → Int32) → (Nat → Int64) → (Nat → Nat → Int32) → (Nat → Nat → Int64) → Prop) (Post : Int32 → (Nat → Int32) → (Nat → Int64) → (Nat → Nat → Int32) → (Nat → Nat → Int64) → Prop) (n : Nat) : Int32 → Int32 → Int32 → Int32 → (Nat → Int32) → (Nat → Int64) → (Nat → Nat → Int32) → (Nat → Nat → Int64) → Prop := Nat.rec (fun _ _ _ _ _ _ _ _ => False) (fun _ r => wb_LassoFinderModel_shortest_80  r K62 Post) n
def wb_LassoFinderModel_shortest_62 (K62 : Int32 → Int32 → Int32 → (Nat → Int32) → (Nat → Int64) → (Nat → Nat → Int32) → (Nat → Nat → Int64) → Prop) (Post : Int32 → (Nat → Int32) → (Nat → Int64) → (Nat → Nat → Int32) → (Nat → Nat → Int64) → Prop) (x1 : Int32) (x2 : Int32) (x3 : Int32) (I : Nat → Int32) (J : Nat → Int64) (B : Nat → Nat → Int32) (D : Nat → Nat → Int64) : Prop :=
  ∀ z51 : Int32, z51 = (8 * (I 14)) → ((z51 < x3 → wc_LassoFinderModel_shortest_189  Post x1 I J B D) ∧ (¬ z51 < x3 → ((¬ x2 = 0 → wc_LassoFinderModel_shortest_189  Post x1 I J B D) ∧ (x2 = 0 → ∃ n : Nat, wl_LassoFinderModel_shortest_80  K62 Post n x1 x2 x3 0 I J B D))))
def wl_LassoFinderModel_shortest_62 (Post : Int32 → (Nat → Int32) → (Nat → Int64) → (Nat → Nat → Int32) → (Nat → Nat → Int64) → Prop) (n : Nat) : Int32 → Int32 → Int32 → (Nat → Int32) → (Nat → Int64) → (Nat → Nat → Int32) → (Nat → Nat → Int64) → Prop := Nat.rec (fun _ _ _ _ _ _ _ => False) (fun _ r => wb_LassoFinderModel_shortest_62  r Post) n
def wc_LassoFinderModel_shortest_42 (K2 : Int32 → (Nat → Int32) → (Nat → Int64) → (Nat → Nat → Int32) → (Nat → Nat → Int64) → Prop) (Post : Int32 → (Nat → Int32) → (Nat → Int64) → (Nat → Nat → Int32) → (Nat → Nat → Int64) → Prop) (x1 : Int32) (y0 : Int32) (y1 : Int32) (I : Nat → Int32) (J : Nat → Int64) (B : Nat → Nat → Int32) (D : Nat → Nat → Int64) : Prop :=
  vp_in y1 768 ∧ vp_in x1 768 ∧ ∀ z54 : Int32, z54 = (x1 + 1) → K2 z54 I J (va_up (va_up B 49 (upd (B 49) y1.toNatClampNeg y0)) 50 (upd (B 50) x1.toNatClampNeg (vp_nar .boolean 0))) D
def wc_LassoFinderModel_shortest_41 (K2 : Int32 → (Nat → Int32) → (Nat → Int64) → (Nat → Nat → Int32) → (Nat → Nat → Int64) → Prop) (Post : Int32 → (Nat → Int32) → (Nat → Int64) → (Nat → Nat → Int32) → (Nat → Nat → Int64) → Prop) (x1 : Int32) (y0 : Int32) (I : Nat → Int32) (J : Nat → Int64) (B : Nat → Nat → Int32) (D : Nat → Nat → Int64) : Prop :=
  wc_LassoFinderModel_shortest_42  K2 Post x1 (-1) y0 I J B D
def wb_LassoFinderModel_shortest_2 (K2 : Int32 → (Nat → Int32) → (Nat → Int64) → (Nat → Nat → Int32) → (Nat → Nat → Int64) → Prop) (Post : Int32 → (Nat → Int32) → (Nat → Int64) → (Nat → Nat → Int32) → (Nat → Nat → Int64) → Prop) (x1 : Int32) (I : Nat → Int32) (J : Nat → Int64) (B : Nat → Nat → Int32) (D : Nat → Nat → Int64) : Prop :=
  ∀ z55 : Int32, z55 = (8 * (I 14)) → ((z55 ≤ x1 → ∃ n : Nat, wl_LassoFinderModel_shortest_62  Post n 0 0 0 I J B D) ∧ (¬ z55 ≤ x1 → ∀ z57 : Int32, z57 = (1 <<< ((I 20) &&& 31)) → ((z57 ≤ x1 → wc_LassoFinderModel_shortest_41  K2 Post x1 x1 I J B D) ∧ (¬ z57 ≤ x1 → wp_LassoFinderModel_isTrue I J B D 0 x1 (fun r59 I59 J59 B59 D59 => ((¬ r59 = 0 → wc_LassoFinderModel_shortest_41  K2 Post x1 x1 I59 J59 B59 D59) ∧ (r59 = 0 → wc_LassoFinderModel_shortest_42  K2 Post x1 0 x1 I59 J59 B59 D59)))))))
def wl_LassoFinderModel_shortest_2 (Post : Int32 → (Nat → Int32) → (Nat → Int64) → (Nat → Nat → Int32) → (Nat → Nat → Int64) → Prop) (n : Nat) : Int32 → (Nat → Int32) → (Nat → Int64) → (Nat → Nat → Int32) → (Nat → Nat → Int64) → Prop := Nat.rec (fun _ _ _ _ _ => False) (fun _ r => wb_LassoFinderModel_shortest_2  r Post) n
def wp_LassoFinderModel_shortest (I : Nat → Int32) (J : Nat → Int64) (B : Nat → Nat → Int32) (D : Nat → Nat → Int64) (Post : Int32 → (Nat → Int32) → (Nat → Int64) → (Nat → Nat → Int32) → (Nat → Nat → Int64) → Prop) : Prop :=
  ∃ n : Nat, wl_LassoFinderModel_shortest_2  Post n 0 I J B D
set_option maxHeartbeats 8000000 in
set_option maxRecDepth 100000 in
theorem wJ_LassoFinderModel_shortest_354 {p : Program} {l : Launch} {e : Env} {s : State} {m : MethodId} {below : List Frame} {meth : Method} {c : Code} {A : Nat → Prop} (G : va_G) (K : Nat → ClassId) (ad : Nat → Nat) (Post : Int32 → (Nat → Int32) → (Nat → Int64) → (Nat → Nat → Int32) → (Nat → Nat → Int64) → Prop) (C : zCx p s m ([.ref (ad 0)] : List Value).toArray meth c A G K prog_14_method_61_code (some .int) 8 "LassoFinderModel") (K193 : Int32 → Int32 → (Nat → Int32) → (Nat → Int64) → (Nat → Nat → Int32) → (Nat → Nat → Int64) → Prop) (kh193 : ∀ (x1 : Int32) (x3 : Int32) (I : Nat → Int32) (J : Nat → Int64) (B : Nat → Nat → Int32) (D : Nat → Nat → Int64) (ls : Array Slot) (H : Heap) (locs : List Loc), K193 x1 x3 I J B D → lv_has ls 8 [(0, .ref (ad 0)), (1, .int x1), (3, .int x3)] → zW G A s.heap (wM ad K I J B D) H locs → W p l e { frames := 4, cells := 0, slots := 0, locals := 112 } s m ([.ref (ad 0)] : List Value).toArray below meth c H locs 0 0 (MQ below (va_Qi (fun (r : Int32) (u : zS) => Post r u.1 u.2.1 u.2.2.1 u.2.2.2) (fun u t => zPost G K A (wM ad K u.1 u.2.1 u.2.2.1 u.2.2.2) t) A) ([.ref (ad 0)] : List Value).toArray s 0 0 A) (F0 m 193 ls [])) (K200 : Int32 → Int32 → Int32 → (Nat → Int32) → (Nat → Int64) → (Nat → Nat → Int32) → (Nat → Nat → Int64) → Prop) (kh200 : ∀ (x1 : Int32) (x3 : Int32) (x4 : Int32) (I : Nat → Int32) (J : Nat → Int64) (B : Nat → Nat → Int32) (D : Nat → Nat → Int64) (ls : Array Slot) (H : Heap) (locs : List Loc), K200 x1 x3 x4 I J B D → lv_has ls 8 [(0, .ref (ad 0)), (1, .int x1), (3, .int x3), (4, .int x4)] → zW G A s.heap (wM ad K I J B D) H locs → W p l e { frames := 4, cells := 0, slots := 0, locals := 112 } s m ([.ref (ad 0)] : List Value).toArray below meth c H locs 0 0 (MQ below (va_Qi (fun (r : Int32) (u : zS) => Post r u.1 u.2.1 u.2.2.1 u.2.2.2) (fun u t => zPost G K A (wM ad K u.1 u.2.1 u.2.2.1 u.2.2.2) t) A) ([.ref (ad 0)] : List Value).toArray s 0 0 A) (F0 m 200 ls [])) : ∀ (x1 : Int32) (x3 : Int32) (x4 : Int32) (I : Nat → Int32) (J : Nat → Int64) (B : Nat → Nat → Int32) (D : Nat → Nat → Int64) (ls : Array Slot) (H : Heap) (locs : List Loc), wc_LassoFinderModel_shortest_354  K193 K200 Post x1 x3 x4 I J B D → lv_has ls 8 [(0, .ref (ad 0)), (1, .int x1), (3, .int x3), (4, .int x4)] → zW G A s.heap (wM ad K I J B D) H locs → W p l e { frames := 4, cells := 0, slots := 0, locals := 112 } s m ([.ref (ad 0)] : List Value).toArray below meth c H locs 0 0 (MQ below (va_Qi (fun (r : Int32) (u : zS) => Post r u.1 u.2.1 u.2.2.1 u.2.2.2) (fun u t => zPost G K A (wM ad K u.1 u.2.1 u.2.2.1 u.2.2.2) t) A) ([.ref (ad 0)] : List Value).toArray s 0 0 A) (F0 m 354 ls []) := by
  obtain ⟨hx, hb, hr, hml, hts, hown, hlocks, hA, hK⟩ := id C
  intro x1 x3 x4 I J B D ls H locs hok hl hw
  unfold wc_LassoFinderModel_shortest_354 at hok
  obtain ⟨z1, ez1⟩ : ∃ z : Int32, z = (x4 + 1) := ⟨_, rfl⟩
  have hok := hok z1 ez1
  refine lv_iinc (v := z1) hx hb zd_LassoFinderModel_shortest_354 hl (k := 3) rfl ez1.symm (by decide) rfl (fun ls hl => ?_)
  have hl : lv_has ls 8 [(4, .int z1), (0, .ref (ad 0)), (1, .int x1), (3, .int x3)] := hl
  refine lv_goto (tgt := 200) hx hb zd_LassoFinderModel_shortest_357 (by decide) ?_
  exact kh200 x1 x3 z1 I J B D ls H locs hok (lv_sub hl [1, 2, 3, 0] rfl) hw
set_option maxHeartbeats 8000000 in
set_option maxRecDepth 100000 in
theorem wJ_LassoFinderModel_shortest_341 {p : Program} {l : Launch} {e : Env} {s : State} {m : MethodId} {below : List Frame} {meth : Method} {c : Code} {A : Nat → Prop} (G : va_G) (K : Nat → ClassId) (ad : Nat → Nat) (Post : Int32 → (Nat → Int32) → (Nat → Int64) → (Nat → Nat → Int32) → (Nat → Nat → Int64) → Prop) (C : zCx p s m ([.ref (ad 0)] : List Value).toArray meth c A G K prog_14_method_61_code (some .int) 8 "LassoFinderModel") (K193 : Int32 → Int32 → (Nat → Int32) → (Nat → Int64) → (Nat → Nat → Int32) → (Nat → Nat → Int64) → Prop) (kh193 : ∀ (x1 : Int32) (x3 : Int32) (I : Nat → Int32) (J : Nat → Int64) (B : Nat → Nat → Int32) (D : Nat → Nat → Int64) (ls : Array Slot) (H : Heap) (locs : List Loc), K193 x1 x3 I J B D → lv_has ls 8 [(0, .ref (ad 0)), (1, .int x1), (3, .int x3)] → zW G A s.heap (wM ad K I J B D) H locs → W p l e { frames := 4, cells := 0, slots := 0, locals := 112 } s m ([.ref (ad 0)] : List Value).toArray below meth c H locs 0 0 (MQ below (va_Qi (fun (r : Int32) (u : zS) => Post r u.1 u.2.1 u.2.2.1 u.2.2.2) (fun u t => zPost G K A (wM ad K u.1 u.2.1 u.2.2.1 u.2.2.2) t) A) ([.ref (ad 0)] : List Value).toArray s 0 0 A) (F0 m 193 ls [])) (K200 : Int32 → Int32 → Int32 → (Nat → Int32) → (Nat → Int64) → (Nat → Nat → Int32) → (Nat → Nat → Int64) → Prop) (kh200 : ∀ (x1 : Int32) (x3 : Int32) (x4 : Int32) (I : Nat → Int32) (J : Nat → Int64) (B : Nat → Nat → Int32) (D : Nat → Nat → Int64) (ls : Array Slot) (H : Heap) (locs : List Loc), K200 x1 x3 x4 I J B D → lv_has ls 8 [(0, .ref (ad 0)), (1, .int x1), (3, .int x3), (4, .int x4)] → zW G A s.heap (wM ad K I J B D) H locs → W p l e { frames := 4, cells := 0, slots := 0, locals := 112 } s m ([.ref (ad 0)] : List Value).toArray below meth c H locs 0 0 (MQ below (va_Qi (fun (r : Int32) (u : zS) => Post r u.1 u.2.1 u.2.2.1 u.2.2.2) (fun u t => zPost G K A (wM ad K u.1 u.2.1 u.2.2.1 u.2.2.2) t) A) ([.ref (ad 0)] : List Value).toArray s 0 0 A) (F0 m 200 ls [])) (K223 : Int32 → Int32 → Int32 → Int32 → (Nat → Int32) → (Nat → Int64) → (Nat → Nat → Int32) → (Nat → Nat → Int64) → Prop) (kh223 : ∀ (x1 : Int32) (x3 : Int32) (x4 : Int32) (x5 : Int32) (I : Nat → Int32) (J : Nat → Int64) (B : Nat → Nat → Int32) (D : Nat → Nat → Int64) (ls : Array Slot) (H : Heap) (locs : List Loc), K223 x1 x3 x4 x5 I J B D → lv_has ls 8 [(0, .ref (ad 0)), (1, .int x1), (3, .int x3), (4, .int x4), (5, .int x5)] → zW G A s.heap (wM ad K I J B D) H locs → W p l e { frames := 4, cells := 0, slots := 0, locals := 112 } s m ([.ref (ad 0)] : List Value).toArray below meth c H locs 0 0 (MQ below (va_Qi (fun (r : Int32) (u : zS) => Post r u.1 u.2.1 u.2.2.1 u.2.2.2) (fun u t => zPost G K A (wM ad K u.1 u.2.1 u.2.2.1 u.2.2.2) t) A) ([.ref (ad 0)] : List Value).toArray s 0 0 A) (F0 m 223 ls [])) (K253 : Int32 → Int32 → Int32 → Int32 → Int32 → (Nat → Int32) → (Nat → Int64) → (Nat → Nat → Int32) → (Nat → Nat → Int64) → Prop) (kh253 : ∀ (x1 : Int32) (x3 : Int32) (x4 : Int32) (x5 : Int32) (x6 : Int32) (I : Nat → Int32) (J : Nat → Int64) (B : Nat → Nat → Int32) (D : Nat → Nat → Int64) (ls : Array Slot) (H : Heap) (locs : List Loc), K253 x1 x3 x4 x5 x6 I J B D → lv_has ls 8 [(0, .ref (ad 0)), (1, .int x1), (3, .int x3), (4, .int x4), (5, .int x5), (6, .int x6)] → zW G A s.heap (wM ad K I J B D) H locs → W p l e { frames := 4, cells := 0, slots := 0, locals := 112 } s m ([.ref (ad 0)] : List Value).toArray below meth c H locs 0 0 (MQ below (va_Qi (fun (r : Int32) (u : zS) => Post r u.1 u.2.1 u.2.2.1 u.2.2.2) (fun u t => zPost G K A (wM ad K u.1 u.2.1 u.2.2.1 u.2.2.2) t) A) ([.ref (ad 0)] : List Value).toArray s 0 0 A) (F0 m 253 ls [])) : ∀ (x1 : Int32) (x3 : Int32) (x4 : Int32) (x5 : Int32) (x6 : Int32) (y0 : Int32) (y1 : Int32) (I : Nat → Int32) (J : Nat → Int64) (B : Nat → Nat → Int32) (D : Nat → Nat → Int64) (ls : Array Slot) (H : Heap) (locs : List Loc), wc_LassoFinderModel_shortest_341  K193 K200 K223 K253 Post x1 x3 x4 x5 x6 y0 y1 I J B D → lv_has ls 8 [(0, .ref (ad 0)), (1, .int x1), (3, .int x3), (4, .int x4), (5, .int x5), (6, .int x6)] → zW G A s.heap (wM ad K I J B D) H locs → W p l e { frames := 4, cells := 0, slots := 0, locals := 112 } s m ([.ref (ad 0)] : List Value).toArray below meth c H locs 0 0 (MQ below (va_Qi (fun (r : Int32) (u : zS) => Post r u.1 u.2.1 u.2.2.1 u.2.2.2) (fun u t => zPost G K A (wM ad K u.1 u.2.1 u.2.2.1 u.2.2.2) t) A) ([.ref (ad 0)] : List Value).toArray s 0 0 A) (F0 m 341 ls [.int y0, .int y1, .ref (ad 53)]) := by
  obtain ⟨hx, hb, hr, hml, hts, hown, hlocks, hA, hK⟩ := id C
  intro x1 x3 x4 x5 x6 y0 y1 I J B D ls H locs hok hl hw
  unfold wc_LassoFinderModel_shortest_341 at hok
  refine va_zast (f := (B 50)) hx hb hK hw.1 hw.2.1 hw.2.2 53 2 wM_a53 rfl hok.1 zd_LassoFinderModel_shortest_341 (fun H locs w91 w92 w93 => ?_)
  have hok := hok.2
  have hw := wM_t53 ⟨w91, w92, w93⟩
  obtain ⟨z2, ez2⟩ : ∃ z : Int32, z = (x6 + 1) := ⟨_, rfl⟩
  have hok := hok z2 ez2
  refine lv_iinc (v := z2) hx hb zd_LassoFinderModel_shortest_342 hl (k := 5) rfl ez2.symm (by decide) rfl (fun ls hl => ?_)
  have hl : lv_has ls 8 [(6, .int z2), (0, .ref (ad 0)), (1, .int x1), (3, .int x3), (4, .int x4), (5, .int x5)] := hl
  refine lv_goto (tgt := 253) hx hb zd_LassoFinderModel_shortest_345 (by decide) ?_
  exact kh253 x1 x3 x4 x5 z2 I J (va_up B 50 (upd (B 50) y1.toNatClampNeg (vp_nar .boolean y0))) D ls H locs hok (lv_sub hl [1, 2, 3, 4, 5, 0] rfl) hw
set_option maxHeartbeats 8000000 in
set_option maxRecDepth 100000 in
theorem wJ_LassoFinderModel_shortest_336 {p : Program} {l : Launch} {e : Env} {s : State} {m : MethodId} {below : List Frame} {meth : Method} {c : Code} {A : Nat → Prop} (G : va_G) (K : Nat → ClassId) (ad : Nat → Nat) (Post : Int32 → (Nat → Int32) → (Nat → Int64) → (Nat → Nat → Int32) → (Nat → Nat → Int64) → Prop) (C : zCx p s m ([.ref (ad 0)] : List Value).toArray meth c A G K prog_14_method_61_code (some .int) 8 "LassoFinderModel") (K193 : Int32 → Int32 → (Nat → Int32) → (Nat → Int64) → (Nat → Nat → Int32) → (Nat → Nat → Int64) → Prop) (kh193 : ∀ (x1 : Int32) (x3 : Int32) (I : Nat → Int32) (J : Nat → Int64) (B : Nat → Nat → Int32) (D : Nat → Nat → Int64) (ls : Array Slot) (H : Heap) (locs : List Loc), K193 x1 x3 I J B D → lv_has ls 8 [(0, .ref (ad 0)), (1, .int x1), (3, .int x3)] → zW G A s.heap (wM ad K I J B D) H locs → W p l e { frames := 4, cells := 0, slots := 0, locals := 112 } s m ([.ref (ad 0)] : List Value).toArray below meth c H locs 0 0 (MQ below (va_Qi (fun (r : Int32) (u : zS) => Post r u.1 u.2.1 u.2.2.1 u.2.2.2) (fun u t => zPost G K A (wM ad K u.1 u.2.1 u.2.2.1 u.2.2.2) t) A) ([.ref (ad 0)] : List Value).toArray s 0 0 A) (F0 m 193 ls [])) (K200 : Int32 → Int32 → Int32 → (Nat → Int32) → (Nat → Int64) → (Nat → Nat → Int32) → (Nat → Nat → Int64) → Prop) (kh200 : ∀ (x1 : Int32) (x3 : Int32) (x4 : Int32) (I : Nat → Int32) (J : Nat → Int64) (B : Nat → Nat → Int32) (D : Nat → Nat → Int64) (ls : Array Slot) (H : Heap) (locs : List Loc), K200 x1 x3 x4 I J B D → lv_has ls 8 [(0, .ref (ad 0)), (1, .int x1), (3, .int x3), (4, .int x4)] → zW G A s.heap (wM ad K I J B D) H locs → W p l e { frames := 4, cells := 0, slots := 0, locals := 112 } s m ([.ref (ad 0)] : List Value).toArray below meth c H locs 0 0 (MQ below (va_Qi (fun (r : Int32) (u : zS) => Post r u.1 u.2.1 u.2.2.1 u.2.2.2) (fun u t => zPost G K A (wM ad K u.1 u.2.1 u.2.2.1 u.2.2.2) t) A) ([.ref (ad 0)] : List Value).toArray s 0 0 A) (F0 m 200 ls [])) (K223 : Int32 → Int32 → Int32 → Int32 → (Nat → Int32) → (Nat → Int64) → (Nat → Nat → Int32) → (Nat → Nat → Int64) → Prop) (kh223 : ∀ (x1 : Int32) (x3 : Int32) (x4 : Int32) (x5 : Int32) (I : Nat → Int32) (J : Nat → Int64) (B : Nat → Nat → Int32) (D : Nat → Nat → Int64) (ls : Array Slot) (H : Heap) (locs : List Loc), K223 x1 x3 x4 x5 I J B D → lv_has ls 8 [(0, .ref (ad 0)), (1, .int x1), (3, .int x3), (4, .int x4), (5, .int x5)] → zW G A s.heap (wM ad K I J B D) H locs → W p l e { frames := 4, cells := 0, slots := 0, locals := 112 } s m ([.ref (ad 0)] : List Value).toArray below meth c H locs 0 0 (MQ below (va_Qi (fun (r : Int32) (u : zS) => Post r u.1 u.2.1 u.2.2.1 u.2.2.2) (fun u t => zPost G K A (wM ad K u.1 u.2.1 u.2.2.1 u.2.2.2) t) A) ([.ref (ad 0)] : List Value).toArray s 0 0 A) (F0 m 223 ls [])) (K253 : Int32 → Int32 → Int32 → Int32 → Int32 → (Nat → Int32) → (Nat → Int64) → (Nat → Nat → Int32) → (Nat → Nat → Int64) → Prop) (kh253 : ∀ (x1 : Int32) (x3 : Int32) (x4 : Int32) (x5 : Int32) (x6 : Int32) (I : Nat → Int32) (J : Nat → Int64) (B : Nat → Nat → Int32) (D : Nat → Nat → Int64) (ls : Array Slot) (H : Heap) (locs : List Loc), K253 x1 x3 x4 x5 x6 I J B D → lv_has ls 8 [(0, .ref (ad 0)), (1, .int x1), (3, .int x3), (4, .int x4), (5, .int x5), (6, .int x6)] → zW G A s.heap (wM ad K I J B D) H locs → W p l e { frames := 4, cells := 0, slots := 0, locals := 112 } s m ([.ref (ad 0)] : List Value).toArray below meth c H locs 0 0 (MQ below (va_Qi (fun (r : Int32) (u : zS) => Post r u.1 u.2.1 u.2.2.1 u.2.2.2) (fun u t => zPost G K A (wM ad K u.1 u.2.1 u.2.2.1 u.2.2.2) t) A) ([.ref (ad 0)] : List Value).toArray s 0 0 A) (F0 m 253 ls [])) : ∀ (x1 : Int32) (x3 : Int32) (x4 : Int32) (x5 : Int32) (x6 : Int32) (y0 : Int32) (I : Nat → Int32) (J : Nat → Int64) (B : Nat → Nat → Int32) (D : Nat → Nat → Int64) (ls : Array Slot) (H : Heap) (locs : List Loc), wc_LassoFinderModel_shortest_336  K193 K200 K223 K253 Post x1 x3 x4 x5 x6 y0 I J B D → lv_has ls 8 [(0, .ref (ad 0)), (1, .int x1), (3, .int x3), (4, .int x4), (5, .int x5), (6, .int x6)] → zW G A s.heap (wM ad K I J B D) H locs → W p l e { frames := 4, cells := 0, slots := 0, locals := 112 } s m ([.ref (ad 0)] : List Value).toArray below meth c H locs 0 0 (MQ below (va_Qi (fun (r : Int32) (u : zS) => Post r u.1 u.2.1 u.2.2.1 u.2.2.2) (fun u t => zPost G K A (wM ad K u.1 u.2.1 u.2.2.1 u.2.2.2) t) A) ([.ref (ad 0)] : List Value).toArray s 0 0 A) (F0 m 336 ls [.int y0, .ref (ad 53)]) := by
  obtain ⟨hx, hb, hr, hml, hts, hown, hlocks, hA, hK⟩ := id C
  intro x1 x3 x4 x5 x6 y0 I J B D ls H locs hok hl hw
  unfold wc_LassoFinderModel_shortest_336 at hok
  refine lv_iconst (v := 1) hx hb zd_LassoFinderModel_shortest_336 (by decide) ?_
  refine lv_goto (tgt := 341) hx hb zd_LassoFinderModel_shortest_337 (by decide) ?_
  exact wJ_LassoFinderModel_shortest_341 G K ad  Post C K193 kh193 K200 kh200 K223 kh223 K253 kh253 x1 x3 x4 x5 x6 1 y0 I J B D ls H locs hok (lv_sub hl [0, 1, 2, 3, 4, 5] rfl) hw
set_option maxHeartbeats 8000000 in
set_option maxRecDepth 100000 in
theorem wJ_LassoFinderModel_shortest_340 {p : Program} {l : Launch} {e : Env} {s : State} {m : MethodId} {below : List Frame} {meth : Method} {c : Code} {A : Nat → Prop} (G : va_G) (K : Nat → ClassId) (ad : Nat → Nat) (Post : Int32 → (Nat → Int32) → (Nat → Int64) → (Nat → Nat → Int32) → (Nat → Nat → Int64) → Prop) (C : zCx p s m ([.ref (ad 0)] : List Value).toArray meth c A G K prog_14_method_61_code (some .int) 8 "LassoFinderModel") (K193 : Int32 → Int32 → (Nat → Int32) → (Nat → Int64) → (Nat → Nat → Int32) → (Nat → Nat → Int64) → Prop) (kh193 : ∀ (x1 : Int32) (x3 : Int32) (I : Nat → Int32) (J : Nat → Int64) (B : Nat → Nat → Int32) (D : Nat → Nat → Int64) (ls : Array Slot) (H : Heap) (locs : List Loc), K193 x1 x3 I J B D → lv_has ls 8 [(0, .ref (ad 0)), (1, .int x1), (3, .int x3)] → zW G A s.heap (wM ad K I J B D) H locs → W p l e { frames := 4, cells := 0, slots := 0, locals := 112 } s m ([.ref (ad 0)] : List Value).toArray below meth c H locs 0 0 (MQ below (va_Qi (fun (r : Int32) (u : zS) => Post r u.1 u.2.1 u.2.2.1 u.2.2.2) (fun u t => zPost G K A (wM ad K u.1 u.2.1 u.2.2.1 u.2.2.2) t) A) ([.ref (ad 0)] : List Value).toArray s 0 0 A) (F0 m 193 ls [])) (K200 : Int32 → Int32 → Int32 → (Nat → Int32) → (Nat → Int64) → (Nat → Nat → Int32) → (Nat → Nat → Int64) → Prop) (kh200 : ∀ (x1 : Int32) (x3 : Int32) (x4 : Int32) (I : Nat → Int32) (J : Nat → Int64) (B : Nat → Nat → Int32) (D : Nat → Nat → Int64) (ls : Array Slot) (H : Heap) (locs : List Loc), K200 x1 x3 x4 I J B D → lv_has ls 8 [(0, .ref (ad 0)), (1, .int x1), (3, .int x3), (4, .int x4)] → zW G A s.heap (wM ad K I J B D) H locs → W p l e { frames := 4, cells := 0, slots := 0, locals := 112 } s m ([.ref (ad 0)] : List Value).toArray below meth c H locs 0 0 (MQ below (va_Qi (fun (r : Int32) (u : zS) => Post r u.1 u.2.1 u.2.2.1 u.2.2.2) (fun u t => zPost G K A (wM ad K u.1 u.2.1 u.2.2.1 u.2.2.2) t) A) ([.ref (ad 0)] : List Value).toArray s 0 0 A) (F0 m 200 ls [])) (K223 : Int32 → Int32 → Int32 → Int32 → (Nat → Int32) → (Nat → Int64) → (Nat → Nat → Int32) → (Nat → Nat → Int64) → Prop) (kh223 : ∀ (x1 : Int32) (x3 : Int32) (x4 : Int32) (x5 : Int32) (I : Nat → Int32) (J : Nat → Int64) (B : Nat → Nat → Int32) (D : Nat → Nat → Int64) (ls : Array Slot) (H : Heap) (locs : List Loc), K223 x1 x3 x4 x5 I J B D → lv_has ls 8 [(0, .ref (ad 0)), (1, .int x1), (3, .int x3), (4, .int x4), (5, .int x5)] → zW G A s.heap (wM ad K I J B D) H locs → W p l e { frames := 4, cells := 0, slots := 0, locals := 112 } s m ([.ref (ad 0)] : List Value).toArray below meth c H locs 0 0 (MQ below (va_Qi (fun (r : Int32) (u : zS) => Post r u.1 u.2.1 u.2.2.1 u.2.2.2) (fun u t => zPost G K A (wM ad K u.1 u.2.1 u.2.2.1 u.2.2.2) t) A) ([.ref (ad 0)] : List Value).toArray s 0 0 A) (F0 m 223 ls [])) (K253 : Int32 → Int32 → Int32 → Int32 → Int32 → (Nat → Int32) → (Nat → Int64) → (Nat → Nat → Int32) → (Nat → Nat → Int64) → Prop) (kh253 : ∀ (x1 : Int32) (x3 : Int32) (x4 : Int32) (x5 : Int32) (x6 : Int32) (I : Nat → Int32) (J : Nat → Int64) (B : Nat → Nat → Int32) (D : Nat → Nat → Int64) (ls : Array Slot) (H : Heap) (locs : List Loc), K253 x1 x3 x4 x5 x6 I J B D → lv_has ls 8 [(0, .ref (ad 0)), (1, .int x1), (3, .int x3), (4, .int x4), (5, .int x5), (6, .int x6)] → zW G A s.heap (wM ad K I J B D) H locs → W p l e { frames := 4, cells := 0, slots := 0, locals := 112 } s m ([.ref (ad 0)] : List Value).toArray below meth c H locs 0 0 (MQ below (va_Qi (fun (r : Int32) (u : zS) => Post r u.1 u.2.1 u.2.2.1 u.2.2.2) (fun u t => zPost G K A (wM ad K u.1 u.2.1 u.2.2.1 u.2.2.2) t) A) ([.ref (ad 0)] : List Value).toArray s 0 0 A) (F0 m 253 ls [])) : ∀ (x1 : Int32) (x3 : Int32) (x4 : Int32) (x5 : Int32) (x6 : Int32) (y0 : Int32) (I : Nat → Int32) (J : Nat → Int64) (B : Nat → Nat → Int32) (D : Nat → Nat → Int64) (ls : Array Slot) (H : Heap) (locs : List Loc), wc_LassoFinderModel_shortest_340  K193 K200 K223 K253 Post x1 x3 x4 x5 x6 y0 I J B D → lv_has ls 8 [(0, .ref (ad 0)), (1, .int x1), (3, .int x3), (4, .int x4), (5, .int x5), (6, .int x6)] → zW G A s.heap (wM ad K I J B D) H locs → W p l e { frames := 4, cells := 0, slots := 0, locals := 112 } s m ([.ref (ad 0)] : List Value).toArray below meth c H locs 0 0 (MQ below (va_Qi (fun (r : Int32) (u : zS) => Post r u.1 u.2.1 u.2.2.1 u.2.2.2) (fun u t => zPost G K A (wM ad K u.1 u.2.1 u.2.2.1 u.2.2.2) t) A) ([.ref (ad 0)] : List Value).toArray s 0 0 A) (F0 m 340 ls [.int y0, .ref (ad 53)]) := by
  obtain ⟨hx, hb, hr, hml, hts, hown, hlocks, hA, hK⟩ := id C
  intro x1 x3 x4 x5 x6 y0 I J B D ls H locs hok hl hw
  unfold wc_LassoFinderModel_shortest_340 at hok
  refine lv_iconst (v := 0) hx hb zd_LassoFinderModel_shortest_340 (by decide) ?_
  exact wJ_LassoFinderModel_shortest_341 G K ad  Post C K193 kh193 K200 kh200 K223 kh223 K253 kh253 x1 x3 x4 x5 x6 0 y0 I J B D ls H locs hok (lv_sub hl [0, 1, 2, 3, 4, 5] rfl) hw
set_option maxHeartbeats 8000000 in
set_option maxRecDepth 100000 in
theorem wB_LassoFinderModel_shortest_253 {p : Program} {l : Launch} {e : Env} {s : State} {m : MethodId} {below : List Frame} {meth : Method} {c : Code} {A : Nat → Prop} (G : va_G) (K : Nat → ClassId) (ad : Nat → Nat) (Post : Int32 → (Nat → Int32) → (Nat → Int64) → (Nat → Nat → Int32) → (Nat → Nat → Int64) → Prop) (C : zCx p s m ([.ref (ad 0)] : List Value).toArray meth c A G K prog_14_method_61_code (some .int) 8 "LassoFinderModel") (K193 : Int32 → Int32 → (Nat → Int32) → (Nat → Int64) → (Nat → Nat → Int32) → (Nat → Nat → Int64) → Prop) (kh193 : ∀ (x1 : Int32) (x3 : Int32) (I : Nat → Int32) (J : Nat → Int64) (B : Nat → Nat → Int32) (D : Nat → Nat → Int64) (ls : Array Slot) (H : Heap) (locs : List Loc), K193 x1 x3 I J B D → lv_has ls 8 [(0, .ref (ad 0)), (1, .int x1), (3, .int x3)] → zW G A s.heap (wM ad K I J B D) H locs → W p l e { frames := 4, cells := 0, slots := 0, locals := 112 } s m ([.ref (ad 0)] : List Value).toArray below meth c H locs 0 0 (MQ below (va_Qi (fun (r : Int32) (u : zS) => Post r u.1 u.2.1 u.2.2.1 u.2.2.2) (fun u t => zPost G K A (wM ad K u.1 u.2.1 u.2.2.1 u.2.2.2) t) A) ([.ref (ad 0)] : List Value).toArray s 0 0 A) (F0 m 193 ls [])) (K200 : Int32 → Int32 → Int32 → (Nat → Int32) → (Nat → Int64) → (Nat → Nat → Int32) → (Nat → Nat → Int64) → Prop) (kh200 : ∀ (x1 : Int32) (x3 : Int32) (x4 : Int32) (I : Nat → Int32) (J : Nat → Int64) (B : Nat → Nat → Int32) (D : Nat → Nat → Int64) (ls : Array Slot) (H : Heap) (locs : List Loc), K200 x1 x3 x4 I J B D → lv_has ls 8 [(0, .ref (ad 0)), (1, .int x1), (3, .int x3), (4, .int x4)] → zW G A s.heap (wM ad K I J B D) H locs → W p l e { frames := 4, cells := 0, slots := 0, locals := 112 } s m ([.ref (ad 0)] : List Value).toArray below meth c H locs 0 0 (MQ below (va_Qi (fun (r : Int32) (u : zS) => Post r u.1 u.2.1 u.2.2.1 u.2.2.2) (fun u t => zPost G K A (wM ad K u.1 u.2.1 u.2.2.1 u.2.2.2) t) A) ([.ref (ad 0)] : List Value).toArray s 0 0 A) (F0 m 200 ls [])) (K223 : Int32 → Int32 → Int32 → Int32 → (Nat → Int32) → (Nat → Int64) → (Nat → Nat → Int32) → (Nat → Nat → Int64) → Prop) (kh223 : ∀ (x1 : Int32) (x3 : Int32) (x4 : Int32) (x5 : Int32) (I : Nat → Int32) (J : Nat → Int64) (B : Nat → Nat → Int32) (D : Nat → Nat → Int64) (ls : Array Slot) (H : Heap) (locs : List Loc), K223 x1 x3 x4 x5 I J B D → lv_has ls 8 [(0, .ref (ad 0)), (1, .int x1), (3, .int x3), (4, .int x4), (5, .int x5)] → zW G A s.heap (wM ad K I J B D) H locs → W p l e { frames := 4, cells := 0, slots := 0, locals := 112 } s m ([.ref (ad 0)] : List Value).toArray below meth c H locs 0 0 (MQ below (va_Qi (fun (r : Int32) (u : zS) => Post r u.1 u.2.1 u.2.2.1 u.2.2.2) (fun u t => zPost G K A (wM ad K u.1 u.2.1 u.2.2.1 u.2.2.2) t) A) ([.ref (ad 0)] : List Value).toArray s 0 0 A) (F0 m 223 ls [])) (K253 : Int32 → Int32 → Int32 → Int32 → Int32 → (Nat → Int32) → (Nat → Int64) → (Nat → Nat → Int32) → (Nat → Nat → Int64) → Prop) (kh253 : ∀ (x1 : Int32) (x3 : Int32) (x4 : Int32) (x5 : Int32) (x6 : Int32) (I : Nat → Int32) (J : Nat → Int64) (B : Nat → Nat → Int32) (D : Nat → Nat → Int64) (ls : Array Slot) (H : Heap) (locs : List Loc), K253 x1 x3 x4 x5 x6 I J B D → lv_has ls 8 [(0, .ref (ad 0)), (1, .int x1), (3, .int x3), (4, .int x4), (5, .int x5), (6, .int x6)] → zW G A s.heap (wM ad K I J B D) H locs → W p l e { frames := 4, cells := 0, slots := 0, locals := 112 } s m ([.ref (ad 0)] : List Value).toArray below meth c H locs 0 0 (MQ below (va_Qi (fun (r : Int32) (u : zS) => Post r u.1 u.2.1 u.2.2.1 u.2.2.2) (fun u t => zPost G K A (wM ad K u.1 u.2.1 u.2.2.1 u.2.2.2) t) A) ([.ref (ad 0)] : List Value).toArray s 0 0 A) (F0 m 253 ls [])) : ∀ (x1 : Int32) (x3 : Int32) (x4 : Int32) (x5 : Int32) (x6 : Int32) (I : Nat → Int32) (J : Nat → Int64) (B : Nat → Nat → Int32) (D : Nat → Nat → Int64) (ls : Array Slot) (H : Heap) (locs : List Loc), wb_LassoFinderModel_shortest_253  K253 K193 K200 K223 Post x1 x3 x4 x5 x6 I J B D → lv_has ls 8 [(0, .ref (ad 0)), (1, .int x1), (3, .int x3), (4, .int x4), (5, .int x5), (6, .int x6)] → zW G A s.heap (wM ad K I J B D) H locs → W p l e { frames := 4, cells := 0, slots := 0, locals := 112 } s m ([.ref (ad 0)] : List Value).toArray below meth c H locs 0 0 (MQ below (va_Qi (fun (r : Int32) (u : zS) => Post r u.1 u.2.1 u.2.2.1 u.2.2.2) (fun u t => zPost G K A (wM ad K u.1 u.2.1 u.2.2.1 u.2.2.2) t) A) ([.ref (ad 0)] : List Value).toArray s 0 0 A) (F0 m 253 ls []) := by
  obtain ⟨hx, hb, hr, hml, hts, hown, hlocks, hA, hK⟩ := id C
  intro x1 x3 x4 x5 x6 I J B D ls H locs hok hl hw
  unfold wb_LassoFinderModel_shortest_253 at hok
  refine lv_iload hx hb zd_LassoFinderModel_shortest_253 (lv_at hl 5 rfl) ?_
  refine lv_iconst (v := 1) hx hb zd_LassoFinderModel_shortest_255 (by decide) ?_
  refine lv_aload_n hx hb zd_LassoFinderModel_shortest_256 rfl (lv_at hl 0 rfl) ?_
  refine z_get (v := .int (I 20)) hx hb hts hown hK hw zZ12 0 wM_g0 64 (by decide) zm_356 rfl zd_LassoFinderModel_shortest_257 ?_
  refine lv_ishl hx hb zd_LassoFinderModel_shortest_260 ?_
  refine lv_topi (fun z3 ez3 => ?_)
  have hok := hok z3 ez3
  refine lv_icmp_ge (tgt := 348) hx hb zd_LassoFinderModel_shortest_261 (by decide) (fun hc4 => ?_) (fun hc4 => ?_)
  · have hok := hok.1 hc4
    obtain ⟨z5, ez5⟩ : ∃ z : Int32, z = (x5 + 1) := ⟨_, rfl⟩
    have hok := hok z5 ez5
    refine lv_iinc (v := z5) hx hb zd_LassoFinderModel_shortest_348 hl (k := 4) rfl ez5.symm (by decide) rfl (fun ls hl => ?_)
    have hl : lv_has ls 8 [(5, .int z5), (0, .ref (ad 0)), (1, .int x1), (3, .int x3), (4, .int x4), (6, .int x6)] := hl
    refine lv_goto (tgt := 223) hx hb zd_LassoFinderModel_shortest_351 (by decide) ?_
    exact kh223 x1 x3 x4 z5 I J B D ls H locs hok (lv_sub hl [1, 2, 3, 4, 0] rfl) hw
  · have hok := hok.2 hc4
    refine lv_bipush (v := 8) hx hb zd_LassoFinderModel_shortest_264 (by decide) ?_
    refine lv_aload_n hx hb zd_LassoFinderModel_shortest_266 rfl (lv_at hl 0 rfl) ?_
    refine z_get (v := .ref (ad 33)) hx hb hts hown hK hw zZ12 0 wM_g0 49 (by decide) zm_267 rfl zd_LassoFinderModel_shortest_267 ?_
    refine lv_iload hx hb zd_LassoFinderModel_shortest_270 (lv_at hl 4 rfl) ?_
    refine va_iald (f := (B 30)) hx hb hK hw.1 33 0 wM_a33 rfl hok.1 zd_LassoFinderModel_shortest_272 ?_
    have hok := hok.2
    refine lv_topi (fun z6 ez6 => ?_)
    have hok := hok z6 ez6
    refine lv_imul hx hb zd_LassoFinderModel_shortest_273 ?_
    refine lv_topi (fun z7 ez7 => ?_)
    have hok := hok z7 ez7
    refine lv_iload hx hb zd_LassoFinderModel_shortest_274 (lv_at hl 5 rfl) ?_
    refine lv_iadd hx hb zd_LassoFinderModel_shortest_276 ?_
    refine lv_topi (fun z8 ez8 => ?_)
    have hok := hok z8 ez8
    refine lv_istore hx hb zd_LassoFinderModel_shortest_277 hl (by decide) rfl (fun ls hl => ?_)
    have hl : lv_has ls 8 [(7, .int z8), (0, .ref (ad 0)), (1, .int x1), (3, .int x3), (4, .int x4), (5, .int x5), (6, .int x6)] := hl
    refine lv_aload_n hx hb zd_LassoFinderModel_shortest_279 rfl (lv_at hl 1 rfl) ?_
    refine z_get (v := .ref (ad 53)) hx hb hts hown hK hw zZ12 0 wM_g0 76 (by decide) zm_287 rfl zd_LassoFinderModel_shortest_280 ?_
    refine lv_iload hx hb zd_LassoFinderModel_shortest_283 (lv_at hl 4 rfl) ?_
    refine lv_aload_n hx hb zd_LassoFinderModel_shortest_285 rfl (lv_at hl 1 rfl) ?_
    refine z_get (v := .ref (ad 53)) hx hb hts hown hK hw zZ12 0 wM_g0 76 (by decide) zm_287 rfl zd_LassoFinderModel_shortest_286 ?_
    refine lv_iload hx hb zd_LassoFinderModel_shortest_289 (lv_at hl 4 rfl) ?_
    refine va_zald (f := (B 50)) hx hb hK hw.1 53 2 wM_a53 rfl hok.1 zd_LassoFinderModel_shortest_291 ?_
    have hok := hok.2
    refine lv_topi (fun z9 ez9 => ?_)
    have hok := hok z9 ez9
    refine lv_if_ne (tgt := 336) hx hb zd_LassoFinderModel_shortest_292 (by decide) (fun hc10 => ?_) (fun hc10 => ?_)
    · have hok := hok.1 hc10
      exact wJ_LassoFinderModel_shortest_336 G K ad  Post C K193 kh193 K200 kh200 K223 kh223 K253 kh253 x1 x3 x4 x5 x6 x4 I J B D ls H locs hok (lv_sub hl [1, 2, 3, 4, 5, 6] rfl) hw
    · have hok := hok.2 hc10
      refine lv_aload_n hx hb zd_LassoFinderModel_shortest_295 rfl (lv_at hl 1 rfl) ?_
      refine z_get (v := .ref (ad 52)) hx hb hts hown hK hw zZ12 0 wM_g0 75 (by decide) zm_286 rfl zd_LassoFinderModel_shortest_296 ?_
      refine lv_iload hx hb zd_LassoFinderModel_shortest_299 (lv_at hl 0 rfl) ?_
      refine va_iald (f := (B 49)) hx hb hK hw.1 52 0 wM_a52 rfl hok.1 zd_LassoFinderModel_shortest_301 ?_
      have hok := hok.2
      refine lv_topi (fun z11 ez11 => ?_)
      have hok := hok z11 ez11
      refine lv_iload_n hx hb zd_LassoFinderModel_shortest_302 rfl (lv_at hl 3 rfl) ?_
      refine lv_iconst (v := 1) hx hb zd_LassoFinderModel_shortest_303 (by decide) ?_
      refine lv_iadd hx hb zd_LassoFinderModel_shortest_304 ?_
      refine lv_topi (fun z12 ez12 => ?_)
      have hok := hok z12 ez12
      refine lv_icmp_ne (tgt := 340) hx hb zd_LassoFinderModel_shortest_305 (by decide) (fun hc13 => ?_) (fun hc13 => ?_)
      · have hok := hok.1 hc13
        exact wJ_LassoFinderModel_shortest_340 G K ad  Post C K193 kh193 K200 kh200 K223 kh223 K253 kh253 x1 x3 x4 x5 x6 x4 I J B D ls H locs hok (lv_sub hl [1, 2, 3, 4, 5, 6] rfl) hw
      · have hok := hok.2 hc13
        refine lv_aload_n hx hb zd_LassoFinderModel_shortest_308 rfl (lv_at hl 1 rfl) ?_
        refine z_get (v := .ref (ad 53)) hx hb hts hown hK hw zZ12 0 wM_g0 76 (by decide) zm_287 rfl zd_LassoFinderModel_shortest_309 ?_
        refine lv_iload hx hb zd_LassoFinderModel_shortest_312 (lv_at hl 0 rfl) ?_
        refine va_zald (f := (B 50)) hx hb hK hw.1 53 2 wM_a53 rfl hok.1 zd_LassoFinderModel_shortest_314 ?_
        have hok := hok.2
        refine lv_topi (fun z14 ez14 => ?_)
        have hok := hok z14 ez14
        refine lv_if_eq (tgt := 340) hx hb zd_LassoFinderModel_shortest_315 (by decide) (fun hc15 => ?_) (fun hc15 => ?_)
        · have hok := hok.1 hc15
          exact wJ_LassoFinderModel_shortest_340 G K ad  Post C K193 kh193 K200 kh200 K223 kh223 K253 kh253 x1 x3 x4 x5 x6 x4 I J B D ls H locs hok (lv_sub hl [1, 2, 3, 4, 5, 6] rfl) hw
        · have hok := hok.2 hc15
          refine lv_aload_n hx hb zd_LassoFinderModel_shortest_318 rfl (lv_at hl 1 rfl) ?_
          refine lv_iload hx hb zd_LassoFinderModel_shortest_319 (lv_at hl 4 rfl) ?_
          refine lv_iconst (v := 3) hx hb zd_LassoFinderModel_shortest_321 (by decide) ?_
          refine lv_ishr hx hb zd_LassoFinderModel_shortest_322 ?_
          refine lv_topi (fun z16 ez16 => ?_)
          have hok := hok z16 ez16
          refine lv_iload hx hb zd_LassoFinderModel_shortest_323 (lv_at hl 6 rfl) ?_
          refine z_calli (w1 := fun (u : zS) => wM ad K u.1 u.2.1 u.2.2.1 u.2.2.2) (wr := []) (z_runV (q0 := 0) (wc := (wM ad K I J B D)) (As := [.int z16, .int x6]) (rest := [.int x4, .ref (ad 53)]) ⟨hx, hb, hml, hown, hts⟩ (w_LassoFinderModel_truthAt l G K ad I J B D z16 x6 _ H.size hok) zf_LassoFinderModel_truthAt zm_375 ⟨Nat.le_of_ble_eq_true rfl, Nat.le_of_ble_eq_true rfl⟩ hK hw (List.range 58) wM_all wM_nd wM_g0 rfl rfl hl.1 rfl (Nat.le_of_ble_eq_true rfl) zd_LassoFinderModel_shortest_325 ⟨Nat.le_of_ble_eq_true rfl, Nat.le_of_ble_eq_true rfl⟩) hw hA (List.range 58) [] wM_all rfl (by decide) (fun i hi => by cases hi) (fun r17 u H locs hok hw => ?_)
          obtain ⟨I17, J17, B17, D17⟩ := u
          dsimp only at hok
          have hw : zW G A s.heap (wM ad K I17 J17 B17 D17) H locs := hw
          refine lv_iload hx hb zd_LassoFinderModel_shortest_328 (lv_at hl 4 rfl) ?_
          refine lv_bipush (v := 7) hx hb zd_LassoFinderModel_shortest_330 (by decide) ?_
          refine lv_iand hx hb zd_LassoFinderModel_shortest_332 ?_
          refine lv_topi (fun z18 ez18 => ?_)
          have hok := hok z18 ez18
          refine lv_icmp_ne (tgt := 340) hx hb zd_LassoFinderModel_shortest_333 (by decide) (fun hc19 => ?_) (fun hc19 => ?_)
          · have hok := hok.1 hc19
            exact wJ_LassoFinderModel_shortest_340 G K ad  Post C K193 kh193 K200 kh200 K223 kh223 K253 kh253 x1 x3 x4 x5 x6 x4 I17 J17 B17 D17 ls H locs hok (lv_sub hl [1, 2, 3, 4, 5, 6] rfl) hw
          · have hok := hok.2 hc19
            exact wJ_LassoFinderModel_shortest_336 G K ad  Post C K193 kh193 K200 kh200 K223 kh223 K253 kh253 x1 x3 x4 x5 x6 x4 I17 J17 B17 D17 ls H locs hok (lv_sub hl [1, 2, 3, 4, 5, 6] rfl) hw
theorem wL_LassoFinderModel_shortest_253 {p : Program} {l : Launch} {e : Env} {s : State} {m : MethodId} {below : List Frame} {meth : Method} {c : Code} {A : Nat → Prop} (G : va_G) (K : Nat → ClassId) (ad : Nat → Nat) (Post : Int32 → (Nat → Int32) → (Nat → Int64) → (Nat → Nat → Int32) → (Nat → Nat → Int64) → Prop) (C : zCx p s m ([.ref (ad 0)] : List Value).toArray meth c A G K prog_14_method_61_code (some .int) 8 "LassoFinderModel") (K193 : Int32 → Int32 → (Nat → Int32) → (Nat → Int64) → (Nat → Nat → Int32) → (Nat → Nat → Int64) → Prop) (kh193 : ∀ (x1 : Int32) (x3 : Int32) (I : Nat → Int32) (J : Nat → Int64) (B : Nat → Nat → Int32) (D : Nat → Nat → Int64) (ls : Array Slot) (H : Heap) (locs : List Loc), K193 x1 x3 I J B D → lv_has ls 8 [(0, .ref (ad 0)), (1, .int x1), (3, .int x3)] → zW G A s.heap (wM ad K I J B D) H locs → W p l e { frames := 4, cells := 0, slots := 0, locals := 112 } s m ([.ref (ad 0)] : List Value).toArray below meth c H locs 0 0 (MQ below (va_Qi (fun (r : Int32) (u : zS) => Post r u.1 u.2.1 u.2.2.1 u.2.2.2) (fun u t => zPost G K A (wM ad K u.1 u.2.1 u.2.2.1 u.2.2.2) t) A) ([.ref (ad 0)] : List Value).toArray s 0 0 A) (F0 m 193 ls [])) (K200 : Int32 → Int32 → Int32 → (Nat → Int32) → (Nat → Int64) → (Nat → Nat → Int32) → (Nat → Nat → Int64) → Prop) (kh200 : ∀ (x1 : Int32) (x3 : Int32) (x4 : Int32) (I : Nat → Int32) (J : Nat → Int64) (B : Nat → Nat → Int32) (D : Nat → Nat → Int64) (ls : Array Slot) (H : Heap) (locs : List Loc), K200 x1 x3 x4 I J B D → lv_has ls 8 [(0, .ref (ad 0)), (1, .int x1), (3, .int x3), (4, .int x4)] → zW G A s.heap (wM ad K I J B D) H locs → W p l e { frames := 4, cells := 0, slots := 0, locals := 112 } s m ([.ref (ad 0)] : List Value).toArray below meth c H locs 0 0 (MQ below (va_Qi (fun (r : Int32) (u : zS) => Post r u.1 u.2.1 u.2.2.1 u.2.2.2) (fun u t => zPost G K A (wM ad K u.1 u.2.1 u.2.2.1 u.2.2.2) t) A) ([.ref (ad 0)] : List Value).toArray s 0 0 A) (F0 m 200 ls [])) (K223 : Int32 → Int32 → Int32 → Int32 → (Nat → Int32) → (Nat → Int64) → (Nat → Nat → Int32) → (Nat → Nat → Int64) → Prop) (kh223 : ∀ (x1 : Int32) (x3 : Int32) (x4 : Int32) (x5 : Int32) (I : Nat → Int32) (J : Nat → Int64) (B : Nat → Nat → Int32) (D : Nat → Nat → Int64) (ls : Array Slot) (H : Heap) (locs : List Loc), K223 x1 x3 x4 x5 I J B D → lv_has ls 8 [(0, .ref (ad 0)), (1, .int x1), (3, .int x3), (4, .int x4), (5, .int x5)] → zW G A s.heap (wM ad K I J B D) H locs → W p l e { frames := 4, cells := 0, slots := 0, locals := 112 } s m ([.ref (ad 0)] : List Value).toArray below meth c H locs 0 0 (MQ below (va_Qi (fun (r : Int32) (u : zS) => Post r u.1 u.2.1 u.2.2.1 u.2.2.2) (fun u t => zPost G K A (wM ad K u.1 u.2.1 u.2.2.1 u.2.2.2) t) A) ([.ref (ad 0)] : List Value).toArray s 0 0 A) (F0 m 223 ls [])) : ∀ (n : Nat) (x1 : Int32) (x3 : Int32) (x4 : Int32) (x5 : Int32) (x6 : Int32) (I : Nat → Int32) (J : Nat → Int64) (B : Nat → Nat → Int32) (D : Nat → Nat → Int64) (ls : Array Slot) (H : Heap) (locs : List Loc), wl_LassoFinderModel_shortest_253  K193 K200 K223 Post n x1 x3 x4 x5 x6 I J B D → lv_has ls 8 [(0, .ref (ad 0)), (1, .int x1), (3, .int x3), (4, .int x4), (5, .int x5), (6, .int x6)] → zW G A s.heap (wM ad K I J B D) H locs → W p l e { frames := 4, cells := 0, slots := 0, locals := 112 } s m ([.ref (ad 0)] : List Value).toArray below meth c H locs 0 0 (MQ below (va_Qi (fun (r : Int32) (u : zS) => Post r u.1 u.2.1 u.2.2.1 u.2.2.2) (fun u t => zPost G K A (wM ad K u.1 u.2.1 u.2.2.1 u.2.2.2) t) A) ([.ref (ad 0)] : List Value).toArray s 0 0 A) (F0 m 253 ls []) := by
  intro n
  induction n with
  | zero => intro x1 x3 x4 x5 x6 I J B D ls H locs hok; exact hok.elim
  | succ n ih => exact wB_LassoFinderModel_shortest_253 G K ad  Post C K193 kh193 K200 kh200 K223 kh223 (wl_LassoFinderModel_shortest_253  K193 K200 K223 Post n) ih
set_option maxHeartbeats 8000000 in
set_option maxRecDepth 100000 in
theorem wB_LassoFinderModel_shortest_223 {p : Program} {l : Launch} {e : Env} {s : State} {m : MethodId} {below : List Frame} {meth : Method} {c : Code} {A : Nat → Prop} (G : va_G) (K : Nat → ClassId) (ad : Nat → Nat) (Post : Int32 → (Nat → Int32) → (Nat → Int64) → (Nat → Nat → Int32) → (Nat → Nat → Int64) → Prop) (C : zCx p s m ([.ref (ad 0)] : List Value).toArray meth c A G K prog_14_method_61_code (some .int) 8 "LassoFinderModel") (K193 : Int32 → Int32 → (Nat → Int32) → (Nat → Int64) → (Nat → Nat → Int32) → (Nat → Nat → Int64) → Prop) (kh193 : ∀ (x1 : Int32) (x3 : Int32) (I : Nat → Int32) (J : Nat → Int64) (B : Nat → Nat → Int32) (D : Nat → Nat → Int64) (ls : Array Slot) (H : Heap) (locs : List Loc), K193 x1 x3 I J B D → lv_has ls 8 [(0, .ref (ad 0)), (1, .int x1), (3, .int x3)] → zW G A s.heap (wM ad K I J B D) H locs → W p l e { frames := 4, cells := 0, slots := 0, locals := 112 } s m ([.ref (ad 0)] : List Value).toArray below meth c H locs 0 0 (MQ below (va_Qi (fun (r : Int32) (u : zS) => Post r u.1 u.2.1 u.2.2.1 u.2.2.2) (fun u t => zPost G K A (wM ad K u.1 u.2.1 u.2.2.1 u.2.2.2) t) A) ([.ref (ad 0)] : List Value).toArray s 0 0 A) (F0 m 193 ls [])) (K200 : Int32 → Int32 → Int32 → (Nat → Int32) → (Nat → Int64) → (Nat → Nat → Int32) → (Nat → Nat → Int64) → Prop) (kh200 : ∀ (x1 : Int32) (x3 : Int32) (x4 : Int32) (I : Nat → Int32) (J : Nat → Int64) (B : Nat → Nat → Int32) (D : Nat → Nat → Int64) (ls : Array Slot) (H : Heap) (locs : List Loc), K200 x1 x3 x4 I J B D → lv_has ls 8 [(0, .ref (ad 0)), (1, .int x1), (3, .int x3), (4, .int x4)] → zW G A s.heap (wM ad K I J B D) H locs → W p l e { frames := 4, cells := 0, slots := 0, locals := 112 } s m ([.ref (ad 0)] : List Value).toArray below meth c H locs 0 0 (MQ below (va_Qi (fun (r : Int32) (u : zS) => Post r u.1 u.2.1 u.2.2.1 u.2.2.2) (fun u t => zPost G K A (wM ad K u.1 u.2.1 u.2.2.1 u.2.2.2) t) A) ([.ref (ad 0)] : List Value).toArray s 0 0 A) (F0 m 200 ls [])) (K223 : Int32 → Int32 → Int32 → Int32 → (Nat → Int32) → (Nat → Int64) → (Nat → Nat → Int32) → (Nat → Nat → Int64) → Prop) (kh223 : ∀ (x1 : Int32) (x3 : Int32) (x4 : Int32) (x5 : Int32) (I : Nat → Int32) (J : Nat → Int64) (B : Nat → Nat → Int32) (D : Nat → Nat → Int64) (ls : Array Slot) (H : Heap) (locs : List Loc), K223 x1 x3 x4 x5 I J B D → lv_has ls 8 [(0, .ref (ad 0)), (1, .int x1), (3, .int x3), (4, .int x4), (5, .int x5)] → zW G A s.heap (wM ad K I J B D) H locs → W p l e { frames := 4, cells := 0, slots := 0, locals := 112 } s m ([.ref (ad 0)] : List Value).toArray below meth c H locs 0 0 (MQ below (va_Qi (fun (r : Int32) (u : zS) => Post r u.1 u.2.1 u.2.2.1 u.2.2.2) (fun u t => zPost G K A (wM ad K u.1 u.2.1 u.2.2.1 u.2.2.2) t) A) ([.ref (ad 0)] : List Value).toArray s 0 0 A) (F0 m 223 ls [])) : ∀ (x1 : Int32) (x3 : Int32) (x4 : Int32) (x5 : Int32) (I : Nat → Int32) (J : Nat → Int64) (B : Nat → Nat → Int32) (D : Nat → Nat → Int64) (ls : Array Slot) (H : Heap) (locs : List Loc), wb_LassoFinderModel_shortest_223  K223 K193 K200 Post x1 x3 x4 x5 I J B D → lv_has ls 8 [(0, .ref (ad 0)), (1, .int x1), (3, .int x3), (4, .int x4), (5, .int x5)] → zW G A s.heap (wM ad K I J B D) H locs → W p l e { frames := 4, cells := 0, slots := 0, locals := 112 } s m ([.ref (ad 0)] : List Value).toArray below meth c H locs 0 0 (MQ below (va_Qi (fun (r : Int32) (u : zS) => Post r u.1 u.2.1 u.2.2.1 u.2.2.2) (fun u t => zPost G K A (wM ad K u.1 u.2.1 u.2.2.1 u.2.2.2) t) A) ([.ref (ad 0)] : List Value).toArray s 0 0 A) (F0 m 223 ls []) := by
  obtain ⟨hx, hb, hr, hml, hts, hown, hlocks, hA, hK⟩ := id C
  intro x1 x3 x4 x5 I J B D ls H locs hok hl hw
  unfold wb_LassoFinderModel_shortest_223 at hok
  refine lv_iload hx hb zd_LassoFinderModel_shortest_223 (lv_at hl 4 rfl) ?_
  refine lv_aload_n hx hb zd_LassoFinderModel_shortest_225 rfl (lv_at hl 0 rfl) ?_
  refine z_get (v := .ref (ad 32)) hx hb hts hown hK hw zZ12 0 wM_g0 48 (by decide) zm_266 rfl zd_LassoFinderModel_shortest_226 ?_
  refine lv_iload hx hb zd_LassoFinderModel_shortest_229 (lv_at hl 3 rfl) ?_
  refine lv_iconst (v := 3) hx hb zd_LassoFinderModel_shortest_231 (by decide) ?_
  refine lv_ishr hx hb zd_LassoFinderModel_shortest_232 ?_
  refine lv_topi (fun z20 ez20 => ?_)
  have hok := hok z20 ez20
  refine lv_iconst (v := 1) hx hb zd_LassoFinderModel_shortest_233 (by decide) ?_
  refine lv_iadd hx hb zd_LassoFinderModel_shortest_234 ?_
  refine lv_topi (fun z21 ez21 => ?_)
  have hok := hok z21 ez21
  refine va_iald (f := (B 29)) hx hb hK hw.1 32 0 wM_a32 rfl hok.1 zd_LassoFinderModel_shortest_235 ?_
  have hok := hok.2
  refine lv_topi (fun z22 ez22 => ?_)
  have hok := hok z22 ez22
  refine lv_icmp_ge (tgt := 354) hx hb zd_LassoFinderModel_shortest_236 (by decide) (fun hc23 => ?_) (fun hc23 => ?_)
  · have hok := hok.1 hc23
    exact wJ_LassoFinderModel_shortest_354 G K ad  Post C K193 kh193 K200 kh200 x1 x3 x4 I J B D ls H locs hok (lv_sub hl [0, 1, 2, 3] rfl) hw
  · have hok := hok.2 hc23
    refine lv_aload_n hx hb zd_LassoFinderModel_shortest_239 rfl (lv_at hl 0 rfl) ?_
    refine z_get (v := .ref (ad 52)) hx hb hts hown hK hw zZ12 0 wM_g0 75 (by decide) zm_286 rfl zd_LassoFinderModel_shortest_240 ?_
    refine lv_iload hx hb zd_LassoFinderModel_shortest_243 (lv_at hl 3 rfl) ?_
    refine va_iald (f := (B 49)) hx hb hK hw.1 52 0 wM_a52 rfl hok.1 zd_LassoFinderModel_shortest_245 ?_
    have hok := hok.2
    refine lv_topi (fun z24 ez24 => ?_)
    have hok := hok z24 ez24
    refine lv_iload_n hx hb zd_LassoFinderModel_shortest_246 rfl (lv_at hl 2 rfl) ?_
    refine lv_icmp_ne (tgt := 354) hx hb zd_LassoFinderModel_shortest_247 (by decide) (fun hc25 => ?_) (fun hc25 => ?_)
    · have hok := hok.1 hc25
      exact wJ_LassoFinderModel_shortest_354 G K ad  Post C K193 kh193 K200 kh200 x1 x3 x4 I J B D ls H locs hok (lv_sub hl [0, 1, 2, 3] rfl) hw
    · have hok := hok.2 hc25
      refine lv_iconst (v := 0) hx hb zd_LassoFinderModel_shortest_250 (by decide) ?_
      refine lv_istore hx hb zd_LassoFinderModel_shortest_251 hl (by decide) rfl (fun ls hl => ?_)
      have hl : lv_has ls 8 [(6, .int 0), (0, .ref (ad 0)), (1, .int x1), (3, .int x3), (4, .int x4), (5, .int x5)] := hl
      obtain ⟨n9, hok⟩ := hok
      exact wL_LassoFinderModel_shortest_253 G K ad  Post C K193 kh193 K200 kh200 K223 kh223 n9 x1 x3 x4 x5 0 I J B D ls H locs hok (lv_sub hl [1, 2, 3, 4, 5, 0] rfl) hw
theorem wL_LassoFinderModel_shortest_223 {p : Program} {l : Launch} {e : Env} {s : State} {m : MethodId} {below : List Frame} {meth : Method} {c : Code} {A : Nat → Prop} (G : va_G) (K : Nat → ClassId) (ad : Nat → Nat) (Post : Int32 → (Nat → Int32) → (Nat → Int64) → (Nat → Nat → Int32) → (Nat → Nat → Int64) → Prop) (C : zCx p s m ([.ref (ad 0)] : List Value).toArray meth c A G K prog_14_method_61_code (some .int) 8 "LassoFinderModel") (K193 : Int32 → Int32 → (Nat → Int32) → (Nat → Int64) → (Nat → Nat → Int32) → (Nat → Nat → Int64) → Prop) (kh193 : ∀ (x1 : Int32) (x3 : Int32) (I : Nat → Int32) (J : Nat → Int64) (B : Nat → Nat → Int32) (D : Nat → Nat → Int64) (ls : Array Slot) (H : Heap) (locs : List Loc), K193 x1 x3 I J B D → lv_has ls 8 [(0, .ref (ad 0)), (1, .int x1), (3, .int x3)] → zW G A s.heap (wM ad K I J B D) H locs → W p l e { frames := 4, cells := 0, slots := 0, locals := 112 } s m ([.ref (ad 0)] : List Value).toArray below meth c H locs 0 0 (MQ below (va_Qi (fun (r : Int32) (u : zS) => Post r u.1 u.2.1 u.2.2.1 u.2.2.2) (fun u t => zPost G K A (wM ad K u.1 u.2.1 u.2.2.1 u.2.2.2) t) A) ([.ref (ad 0)] : List Value).toArray s 0 0 A) (F0 m 193 ls [])) (K200 : Int32 → Int32 → Int32 → (Nat → Int32) → (Nat → Int64) → (Nat → Nat → Int32) → (Nat → Nat → Int64) → Prop) (kh200 : ∀ (x1 : Int32) (x3 : Int32) (x4 : Int32) (I : Nat → Int32) (J : Nat → Int64) (B : Nat → Nat → Int32) (D : Nat → Nat → Int64) (ls : Array Slot) (H : Heap) (locs : List Loc), K200 x1 x3 x4 I J B D → lv_has ls 8 [(0, .ref (ad 0)), (1, .int x1), (3, .int x3), (4, .int x4)] → zW G A s.heap (wM ad K I J B D) H locs → W p l e { frames := 4, cells := 0, slots := 0, locals := 112 } s m ([.ref (ad 0)] : List Value).toArray below meth c H locs 0 0 (MQ below (va_Qi (fun (r : Int32) (u : zS) => Post r u.1 u.2.1 u.2.2.1 u.2.2.2) (fun u t => zPost G K A (wM ad K u.1 u.2.1 u.2.2.1 u.2.2.2) t) A) ([.ref (ad 0)] : List Value).toArray s 0 0 A) (F0 m 200 ls [])) : ∀ (n : Nat) (x1 : Int32) (x3 : Int32) (x4 : Int32) (x5 : Int32) (I : Nat → Int32) (J : Nat → Int64) (B : Nat → Nat → Int32) (D : Nat → Nat → Int64) (ls : Array Slot) (H : Heap) (locs : List Loc), wl_LassoFinderModel_shortest_223  K193 K200 Post n x1 x3 x4 x5 I J B D → lv_has ls 8 [(0, .ref (ad 0)), (1, .int x1), (3, .int x3), (4, .int x4), (5, .int x5)] → zW G A s.heap (wM ad K I J B D) H locs → W p l e { frames := 4, cells := 0, slots := 0, locals := 112 } s m ([.ref (ad 0)] : List Value).toArray below meth c H locs 0 0 (MQ below (va_Qi (fun (r : Int32) (u : zS) => Post r u.1 u.2.1 u.2.2.1 u.2.2.2) (fun u t => zPost G K A (wM ad K u.1 u.2.1 u.2.2.1 u.2.2.2) t) A) ([.ref (ad 0)] : List Value).toArray s 0 0 A) (F0 m 223 ls []) := by
  intro n
  induction n with
  | zero => intro x1 x3 x4 x5 I J B D ls H locs hok; exact hok.elim
  | succ n ih => exact wB_LassoFinderModel_shortest_223 G K ad  Post C K193 kh193 K200 kh200 (wl_LassoFinderModel_shortest_223  K193 K200 Post n) ih
set_option maxHeartbeats 8000000 in
set_option maxRecDepth 100000 in
theorem wB_LassoFinderModel_shortest_200 {p : Program} {l : Launch} {e : Env} {s : State} {m : MethodId} {below : List Frame} {meth : Method} {c : Code} {A : Nat → Prop} (G : va_G) (K : Nat → ClassId) (ad : Nat → Nat) (Post : Int32 → (Nat → Int32) → (Nat → Int64) → (Nat → Nat → Int32) → (Nat → Nat → Int64) → Prop) (C : zCx p s m ([.ref (ad 0)] : List Value).toArray meth c A G K prog_14_method_61_code (some .int) 8 "LassoFinderModel") (K193 : Int32 → Int32 → (Nat → Int32) → (Nat → Int64) → (Nat → Nat → Int32) → (Nat → Nat → Int64) → Prop) (kh193 : ∀ (x1 : Int32) (x3 : Int32) (I : Nat → Int32) (J : Nat → Int64) (B : Nat → Nat → Int32) (D : Nat → Nat → Int64) (ls : Array Slot) (H : Heap) (locs : List Loc), K193 x1 x3 I J B D → lv_has ls 8 [(0, .ref (ad 0)), (1, .int x1), (3, .int x3)] → zW G A s.heap (wM ad K I J B D) H locs → W p l e { frames := 4, cells := 0, slots := 0, locals := 112 } s m ([.ref (ad 0)] : List Value).toArray below meth c H locs 0 0 (MQ below (va_Qi (fun (r : Int32) (u : zS) => Post r u.1 u.2.1 u.2.2.1 u.2.2.2) (fun u t => zPost G K A (wM ad K u.1 u.2.1 u.2.2.1 u.2.2.2) t) A) ([.ref (ad 0)] : List Value).toArray s 0 0 A) (F0 m 193 ls [])) (K200 : Int32 → Int32 → Int32 → (Nat → Int32) → (Nat → Int64) → (Nat → Nat → Int32) → (Nat → Nat → Int64) → Prop) (kh200 : ∀ (x1 : Int32) (x3 : Int32) (x4 : Int32) (I : Nat → Int32) (J : Nat → Int64) (B : Nat → Nat → Int32) (D : Nat → Nat → Int64) (ls : Array Slot) (H : Heap) (locs : List Loc), K200 x1 x3 x4 I J B D → lv_has ls 8 [(0, .ref (ad 0)), (1, .int x1), (3, .int x3), (4, .int x4)] → zW G A s.heap (wM ad K I J B D) H locs → W p l e { frames := 4, cells := 0, slots := 0, locals := 112 } s m ([.ref (ad 0)] : List Value).toArray below meth c H locs 0 0 (MQ below (va_Qi (fun (r : Int32) (u : zS) => Post r u.1 u.2.1 u.2.2.1 u.2.2.2) (fun u t => zPost G K A (wM ad K u.1 u.2.1 u.2.2.1 u.2.2.2) t) A) ([.ref (ad 0)] : List Value).toArray s 0 0 A) (F0 m 200 ls [])) : ∀ (x1 : Int32) (x3 : Int32) (x4 : Int32) (I : Nat → Int32) (J : Nat → Int64) (B : Nat → Nat → Int32) (D : Nat → Nat → Int64) (ls : Array Slot) (H : Heap) (locs : List Loc), wb_LassoFinderModel_shortest_200  K200 K193 Post x1 x3 x4 I J B D → lv_has ls 8 [(0, .ref (ad 0)), (1, .int x1), (3, .int x3), (4, .int x4)] → zW G A s.heap (wM ad K I J B D) H locs → W p l e { frames := 4, cells := 0, slots := 0, locals := 112 } s m ([.ref (ad 0)] : List Value).toArray below meth c H locs 0 0 (MQ below (va_Qi (fun (r : Int32) (u : zS) => Post r u.1 u.2.1 u.2.2.1 u.2.2.2) (fun u t => zPost G K A (wM ad K u.1 u.2.1 u.2.2.1 u.2.2.2) t) A) ([.ref (ad 0)] : List Value).toArray s 0 0 A) (F0 m 200 ls []) := by
  obtain ⟨hx, hb, hr, hml, hts, hown, hlocks, hA, hK⟩ := id C
  intro x1 x3 x4 I J B D ls H locs hok hl hw
  unfold wb_LassoFinderModel_shortest_200 at hok
  refine lv_iload hx hb zd_LassoFinderModel_shortest_200 (lv_at hl 3 rfl) ?_
  refine lv_bipush (v := 8) hx hb zd_LassoFinderModel_shortest_202 (by decide) ?_
  refine lv_aload_n hx hb zd_LassoFinderModel_shortest_204 rfl (lv_at hl 0 rfl) ?_
  refine z_get (v := .int (I 14)) hx hb hts hown hK hw zZ12 0 wM_g0 44 (by decide) zm_300 rfl zd_LassoFinderModel_shortest_205 ?_
  refine lv_imul hx hb zd_LassoFinderModel_shortest_208 ?_
  refine lv_topi (fun z26 ez26 => ?_)
  have hok := hok z26 ez26
  refine lv_icmp_ge (tgt := 360) hx hb zd_LassoFinderModel_shortest_209 (by decide) (fun hc27 => ?_) (fun hc27 => ?_)
  · have hok := hok.1 hc27
    obtain ⟨z28, ez28⟩ : ∃ z : Int32, z = (x3 + (-1)) := ⟨_, rfl⟩
    have hok := hok z28 ez28
    refine lv_iinc (v := z28) hx hb zd_LassoFinderModel_shortest_360 hl (k := 2) rfl ez28.symm (by decide) rfl (fun ls hl => ?_)
    have hl : lv_has ls 8 [(3, .int z28), (0, .ref (ad 0)), (1, .int x1), (4, .int x4)] := hl
    refine lv_goto (tgt := 193) hx hb zd_LassoFinderModel_shortest_363 (by decide) ?_
    exact kh193 x1 z28 I J B D ls H locs hok (lv_sub hl [1, 2, 0] rfl) hw
  · have hok := hok.2 hc27
    refine lv_aload_n hx hb zd_LassoFinderModel_shortest_212 rfl (lv_at hl 0 rfl) ?_
    refine z_get (v := .ref (ad 32)) hx hb hts hown hK hw zZ12 0 wM_g0 48 (by decide) zm_266 rfl zd_LassoFinderModel_shortest_213 ?_
    refine lv_iload hx hb zd_LassoFinderModel_shortest_216 (lv_at hl 3 rfl) ?_
    refine lv_iconst (v := 3) hx hb zd_LassoFinderModel_shortest_218 (by decide) ?_
    refine lv_ishr hx hb zd_LassoFinderModel_shortest_219 ?_
    refine lv_topi (fun z29 ez29 => ?_)
    have hok := hok z29 ez29
    refine va_iald (f := (B 29)) hx hb hK hw.1 32 0 wM_a32 rfl hok.1 zd_LassoFinderModel_shortest_220 ?_
    have hok := hok.2
    refine lv_topi (fun z30 ez30 => ?_)
    have hok := hok z30 ez30
    refine lv_istore hx hb zd_LassoFinderModel_shortest_221 hl (by decide) rfl (fun ls hl => ?_)
    have hl : lv_has ls 8 [(5, .int z30), (0, .ref (ad 0)), (1, .int x1), (3, .int x3), (4, .int x4)] := hl
    obtain ⟨n9, hok⟩ := hok
    exact wL_LassoFinderModel_shortest_223 G K ad  Post C K193 kh193 K200 kh200 n9 x1 x3 x4 z30 I J B D ls H locs hok (lv_sub hl [1, 2, 3, 4, 0] rfl) hw
theorem wL_LassoFinderModel_shortest_200 {p : Program} {l : Launch} {e : Env} {s : State} {m : MethodId} {below : List Frame} {meth : Method} {c : Code} {A : Nat → Prop} (G : va_G) (K : Nat → ClassId) (ad : Nat → Nat) (Post : Int32 → (Nat → Int32) → (Nat → Int64) → (Nat → Nat → Int32) → (Nat → Nat → Int64) → Prop) (C : zCx p s m ([.ref (ad 0)] : List Value).toArray meth c A G K prog_14_method_61_code (some .int) 8 "LassoFinderModel") (K193 : Int32 → Int32 → (Nat → Int32) → (Nat → Int64) → (Nat → Nat → Int32) → (Nat → Nat → Int64) → Prop) (kh193 : ∀ (x1 : Int32) (x3 : Int32) (I : Nat → Int32) (J : Nat → Int64) (B : Nat → Nat → Int32) (D : Nat → Nat → Int64) (ls : Array Slot) (H : Heap) (locs : List Loc), K193 x1 x3 I J B D → lv_has ls 8 [(0, .ref (ad 0)), (1, .int x1), (3, .int x3)] → zW G A s.heap (wM ad K I J B D) H locs → W p l e { frames := 4, cells := 0, slots := 0, locals := 112 } s m ([.ref (ad 0)] : List Value).toArray below meth c H locs 0 0 (MQ below (va_Qi (fun (r : Int32) (u : zS) => Post r u.1 u.2.1 u.2.2.1 u.2.2.2) (fun u t => zPost G K A (wM ad K u.1 u.2.1 u.2.2.1 u.2.2.2) t) A) ([.ref (ad 0)] : List Value).toArray s 0 0 A) (F0 m 193 ls [])) : ∀ (n : Nat) (x1 : Int32) (x3 : Int32) (x4 : Int32) (I : Nat → Int32) (J : Nat → Int64) (B : Nat → Nat → Int32) (D : Nat → Nat → Int64) (ls : Array Slot) (H : Heap) (locs : List Loc), wl_LassoFinderModel_shortest_200  K193 Post n x1 x3 x4 I J B D → lv_has ls 8 [(0, .ref (ad 0)), (1, .int x1), (3, .int x3), (4, .int x4)] → zW G A s.heap (wM ad K I J B D) H locs → W p l e { frames := 4, cells := 0, slots := 0, locals := 112 } s m ([.ref (ad 0)] : List Value).toArray below meth c H locs 0 0 (MQ below (va_Qi (fun (r : Int32) (u : zS) => Post r u.1 u.2.1 u.2.2.1 u.2.2.2) (fun u t => zPost G K A (wM ad K u.1 u.2.1 u.2.2.1 u.2.2.2) t) A) ([.ref (ad 0)] : List Value).toArray s 0 0 A) (F0 m 200 ls []) := by
  intro n
  induction n with
  | zero => intro x1 x3 x4 I J B D ls H locs hok; exact hok.elim
  | succ n ih => exact wB_LassoFinderModel_shortest_200 G K ad  Post C K193 kh193 (wl_LassoFinderModel_shortest_200  K193 Post n) ih
set_option maxHeartbeats 8000000 in
set_option maxRecDepth 100000 in
theorem wB_LassoFinderModel_shortest_193 {p : Program} {l : Launch} {e : Env} {s : State} {m : MethodId} {below : List Frame} {meth : Method} {c : Code} {A : Nat → Prop} (G : va_G) (K : Nat → ClassId) (ad : Nat → Nat) (Post : Int32 → (Nat → Int32) → (Nat → Int64) → (Nat → Nat → Int32) → (Nat → Nat → Int64) → Prop) (C : zCx p s m ([.ref (ad 0)] : List Value).toArray meth c A G K prog_14_method_61_code (some .int) 8 "LassoFinderModel") (K193 : Int32 → Int32 → (Nat → Int32) → (Nat → Int64) → (Nat → Nat → Int32) → (Nat → Nat → Int64) → Prop) (kh193 : ∀ (x1 : Int32) (x3 : Int32) (I : Nat → Int32) (J : Nat → Int64) (B : Nat → Nat → Int32) (D : Nat → Nat → Int64) (ls : Array Slot) (H : Heap) (locs : List Loc), K193 x1 x3 I J B D → lv_has ls 8 [(0, .ref (ad 0)), (1, .int x1), (3, .int x3)] → zW G A s.heap (wM ad K I J B D) H locs → W p l e { frames := 4, cells := 0, slots := 0, locals := 112 } s m ([.ref (ad 0)] : List Value).toArray below meth c H locs 0 0 (MQ below (va_Qi (fun (r : Int32) (u : zS) => Post r u.1 u.2.1 u.2.2.1 u.2.2.2) (fun u t => zPost G K A (wM ad K u.1 u.2.1 u.2.2.1 u.2.2.2) t) A) ([.ref (ad 0)] : List Value).toArray s 0 0 A) (F0 m 193 ls [])) : ∀ (x1 : Int32) (x3 : Int32) (I : Nat → Int32) (J : Nat → Int64) (B : Nat → Nat → Int32) (D : Nat → Nat → Int64) (ls : Array Slot) (H : Heap) (locs : List Loc), wb_LassoFinderModel_shortest_193  K193 Post x1 x3 I J B D → lv_has ls 8 [(0, .ref (ad 0)), (1, .int x1), (3, .int x3)] → zW G A s.heap (wM ad K I J B D) H locs → W p l e { frames := 4, cells := 0, slots := 0, locals := 112 } s m ([.ref (ad 0)] : List Value).toArray below meth c H locs 0 0 (MQ below (va_Qi (fun (r : Int32) (u : zS) => Post r u.1 u.2.1 u.2.2.1 u.2.2.2) (fun u t => zPost G K A (wM ad K u.1 u.2.1 u.2.2.1 u.2.2.2) t) A) ([.ref (ad 0)] : List Value).toArray s 0 0 A) (F0 m 193 ls []) := by
  obtain ⟨hx, hb, hr, hml, hts, hown, hlocks, hA, hK⟩ := id C
  intro x1 x3 I J B D ls H locs hok hl hw
  unfold wb_LassoFinderModel_shortest_193 at hok
  refine lv_iload_n hx hb zd_LassoFinderModel_shortest_193 rfl (lv_at hl 2 rfl) ?_
  refine lv_if_lt (tgt := 366) hx hb zd_LassoFinderModel_shortest_194 (by decide) (fun hc31 => ?_) (fun hc31 => ?_)
  · have hok := hok.1 hc31
    refine lv_iload_n hx hb zd_LassoFinderModel_shortest_366 rfl (lv_at hl 1 rfl) ?_
    exact (z_iret (u := (I, J, B, D)) hx hb hr hlocks rfl hw (List.range 58) wM_all wM_nd hok (Nat.le_of_ble_eq_true rfl) (Nat.le_of_ble_eq_true rfl) zd_LassoFinderModel_shortest_367)
  · have hok := hok.2 hc31
    refine lv_iconst (v := 0) hx hb zd_LassoFinderModel_shortest_197 (by decide) ?_
    refine lv_istore hx hb zd_LassoFinderModel_shortest_198 hl (by decide) rfl (fun ls hl => ?_)
    have hl : lv_has ls 8 [(4, .int 0), (0, .ref (ad 0)), (1, .int x1), (3, .int x3)] := hl
    obtain ⟨n9, hok⟩ := hok
    exact wL_LassoFinderModel_shortest_200 G K ad  Post C K193 kh193 n9 x1 x3 0 I J B D ls H locs hok (lv_sub hl [1, 2, 3, 0] rfl) hw
theorem wL_LassoFinderModel_shortest_193 {p : Program} {l : Launch} {e : Env} {s : State} {m : MethodId} {below : List Frame} {meth : Method} {c : Code} {A : Nat → Prop} (G : va_G) (K : Nat → ClassId) (ad : Nat → Nat) (Post : Int32 → (Nat → Int32) → (Nat → Int64) → (Nat → Nat → Int32) → (Nat → Nat → Int64) → Prop) (C : zCx p s m ([.ref (ad 0)] : List Value).toArray meth c A G K prog_14_method_61_code (some .int) 8 "LassoFinderModel") : ∀ (n : Nat) (x1 : Int32) (x3 : Int32) (I : Nat → Int32) (J : Nat → Int64) (B : Nat → Nat → Int32) (D : Nat → Nat → Int64) (ls : Array Slot) (H : Heap) (locs : List Loc), wl_LassoFinderModel_shortest_193  Post n x1 x3 I J B D → lv_has ls 8 [(0, .ref (ad 0)), (1, .int x1), (3, .int x3)] → zW G A s.heap (wM ad K I J B D) H locs → W p l e { frames := 4, cells := 0, slots := 0, locals := 112 } s m ([.ref (ad 0)] : List Value).toArray below meth c H locs 0 0 (MQ below (va_Qi (fun (r : Int32) (u : zS) => Post r u.1 u.2.1 u.2.2.1 u.2.2.2) (fun u t => zPost G K A (wM ad K u.1 u.2.1 u.2.2.1 u.2.2.2) t) A) ([.ref (ad 0)] : List Value).toArray s 0 0 A) (F0 m 193 ls []) := by
  intro n
  induction n with
  | zero => intro x1 x3 I J B D ls H locs hok; exact hok.elim
  | succ n ih => exact wB_LassoFinderModel_shortest_193 G K ad  Post C (wl_LassoFinderModel_shortest_193  Post n) ih
set_option maxHeartbeats 8000000 in
set_option maxRecDepth 100000 in
theorem wJ_LassoFinderModel_shortest_189 {p : Program} {l : Launch} {e : Env} {s : State} {m : MethodId} {below : List Frame} {meth : Method} {c : Code} {A : Nat → Prop} (G : va_G) (K : Nat → ClassId) (ad : Nat → Nat) (Post : Int32 → (Nat → Int32) → (Nat → Int64) → (Nat → Nat → Int32) → (Nat → Nat → Int64) → Prop) (C : zCx p s m ([.ref (ad 0)] : List Value).toArray meth c A G K prog_14_method_61_code (some .int) 8 "LassoFinderModel") : ∀ (x1 : Int32) (I : Nat → Int32) (J : Nat → Int64) (B : Nat → Nat → Int32) (D : Nat → Nat → Int64) (ls : Array Slot) (H : Heap) (locs : List Loc), wc_LassoFinderModel_shortest_189  Post x1 I J B D → lv_has ls 8 [(0, .ref (ad 0)), (1, .int x1)] → zW G A s.heap (wM ad K I J B D) H locs → W p l e { frames := 4, cells := 0, slots := 0, locals := 112 } s m ([.ref (ad 0)] : List Value).toArray below meth c H locs 0 0 (MQ below (va_Qi (fun (r : Int32) (u : zS) => Post r u.1 u.2.1 u.2.2.1 u.2.2.2) (fun u t => zPost G K A (wM ad K u.1 u.2.1 u.2.2.1 u.2.2.2) t) A) ([.ref (ad 0)] : List Value).toArray s 0 0 A) (F0 m 189 ls []) := by
  obtain ⟨hx, hb, hr, hml, hts, hown, hlocks, hA, hK⟩ := id C
  intro x1 I J B D ls H locs hok hl hw
  unfold wc_LassoFinderModel_shortest_189 at hok
  refine lv_iload_n hx hb zd_LassoFinderModel_shortest_189 rfl (lv_at hl 1 rfl) ?_
  refine lv_iconst (v := 1) hx hb zd_LassoFinderModel_shortest_190 (by decide) ?_
  refine lv_isub hx hb zd_LassoFinderModel_shortest_191 ?_
  refine lv_topi (fun z32 ez32 => ?_)
  have hok := hok z32 ez32
  refine lv_istore_n hx hb zd_LassoFinderModel_shortest_192 rfl hl (by decide) rfl (fun ls hl => ?_)
  have hl : lv_has ls 8 [(3, .int z32), (0, .ref (ad 0)), (1, .int x1)] := hl
  obtain ⟨n9, hok⟩ := hok
  exact wL_LassoFinderModel_shortest_193 G K ad  Post C n9 x1 z32 I J B D ls H locs hok (lv_sub hl [1, 2, 0] rfl) hw
set_option maxHeartbeats 8000000 in
set_option maxRecDepth 100000 in
theorem wJ_LassoFinderModel_shortest_181 {p : Program} {l : Launch} {e : Env} {s : State} {m : MethodId} {below : List Frame} {meth : Method} {c : Code} {A : Nat → Prop} (G : va_G) (K : Nat → ClassId) (ad : Nat → Nat) (Post : Int32 → (Nat → Int32) → (Nat → Int64) → (Nat → Nat → Int32) → (Nat → Nat → Int64) → Prop) (C : zCx p s m ([.ref (ad 0)] : List Value).toArray meth c A G K prog_14_method_61_code (some .int) 8 "LassoFinderModel") (K62 : Int32 → Int32 → Int32 → (Nat → Int32) → (Nat → Int64) → (Nat → Nat → Int32) → (Nat → Nat → Int64) → Prop) (kh62 : ∀ (x1 : Int32) (x2 : Int32) (x3 : Int32) (I : Nat → Int32) (J : Nat → Int64) (B : Nat → Nat → Int32) (D : Nat → Nat → Int64) (ls : Array Slot) (H : Heap) (locs : List Loc), K62 x1 x2 x3 I J B D → lv_has ls 8 [(0, .ref (ad 0)), (1, .int x1), (2, .int x2), (3, .int x3)] → zW G A s.heap (wM ad K I J B D) H locs → W p l e { frames := 4, cells := 0, slots := 0, locals := 112 } s m ([.ref (ad 0)] : List Value).toArray below meth c H locs 0 0 (MQ below (va_Qi (fun (r : Int32) (u : zS) => Post r u.1 u.2.1 u.2.2.1 u.2.2.2) (fun u t => zPost G K A (wM ad K u.1 u.2.1 u.2.2.1 u.2.2.2) t) A) ([.ref (ad 0)] : List Value).toArray s 0 0 A) (F0 m 62 ls [])) : ∀ (x2 : Int32) (x3 : Int32) (y0 : Int32) (y1 : Int32) (I : Nat → Int32) (J : Nat → Int64) (B : Nat → Nat → Int32) (D : Nat → Nat → Int64) (ls : Array Slot) (H : Heap) (locs : List Loc), wc_LassoFinderModel_shortest_181  K62 Post x2 x3 y0 y1 I J B D → lv_has ls 8 [(0, .ref (ad 0)), (2, .int x2), (3, .int x3)] → zW G A s.heap (wM ad K I J B D) H locs → W p l e { frames := 4, cells := 0, slots := 0, locals := 112 } s m ([.ref (ad 0)] : List Value).toArray below meth c H locs 0 0 (MQ below (va_Qi (fun (r : Int32) (u : zS) => Post r u.1 u.2.1 u.2.2.1 u.2.2.2) (fun u t => zPost G K A (wM ad K u.1 u.2.1 u.2.2.1 u.2.2.2) t) A) ([.ref (ad 0)] : List Value).toArray s 0 0 A) (F0 m 181 ls [.int y0, .int y1]) := by
  obtain ⟨hx, hb, hr, hml, hts, hown, hlocks, hA, hK⟩ := id C
  intro x2 x3 y0 y1 I J B D ls H locs hok hl hw
  unfold wc_LassoFinderModel_shortest_181 at hok
  refine lv_iadd hx hb zd_LassoFinderModel_shortest_181 ?_
  refine lv_topi (fun z33 ez33 => ?_)
  have hok := hok z33 ez33
  refine lv_istore_n hx hb zd_LassoFinderModel_shortest_182 rfl hl (by decide) rfl (fun ls hl => ?_)
  have hl : lv_has ls 8 [(1, .int z33), (0, .ref (ad 0)), (2, .int x2), (3, .int x3)] := hl
  obtain ⟨z34, ez34⟩ : ∃ z : Int32, z = (x3 + 1) := ⟨_, rfl⟩
  have hok := hok z34 ez34
  refine lv_iinc (v := z34) hx hb zd_LassoFinderModel_shortest_183 hl (k := 3) rfl ez34.symm (by decide) rfl (fun ls hl => ?_)
  have hl : lv_has ls 8 [(3, .int z34), (1, .int z33), (0, .ref (ad 0)), (2, .int x2)] := hl
  refine lv_goto (tgt := 62) hx hb zd_LassoFinderModel_shortest_186 (by decide) ?_
  exact kh62 z33 x2 z34 I J B D ls H locs hok (lv_sub hl [2, 1, 3, 0] rfl) hw
set_option maxHeartbeats 8000000 in
set_option maxRecDepth 100000 in
theorem wJ_LassoFinderModel_shortest_171 {p : Program} {l : Launch} {e : Env} {s : State} {m : MethodId} {below : List Frame} {meth : Method} {c : Code} {A : Nat → Prop} (G : va_G) (K : Nat → ClassId) (ad : Nat → Nat) (Post : Int32 → (Nat → Int32) → (Nat → Int64) → (Nat → Nat → Int32) → (Nat → Nat → Int64) → Prop) (C : zCx p s m ([.ref (ad 0)] : List Value).toArray meth c A G K prog_14_method_61_code (some .int) 8 "LassoFinderModel") (K62 : Int32 → Int32 → Int32 → (Nat → Int32) → (Nat → Int64) → (Nat → Nat → Int32) → (Nat → Nat → Int64) → Prop) (kh62 : ∀ (x1 : Int32) (x2 : Int32) (x3 : Int32) (I : Nat → Int32) (J : Nat → Int64) (B : Nat → Nat → Int32) (D : Nat → Nat → Int64) (ls : Array Slot) (H : Heap) (locs : List Loc), K62 x1 x2 x3 I J B D → lv_has ls 8 [(0, .ref (ad 0)), (1, .int x1), (2, .int x2), (3, .int x3)] → zW G A s.heap (wM ad K I J B D) H locs → W p l e { frames := 4, cells := 0, slots := 0, locals := 112 } s m ([.ref (ad 0)] : List Value).toArray below meth c H locs 0 0 (MQ below (va_Qi (fun (r : Int32) (u : zS) => Post r u.1 u.2.1 u.2.2.1 u.2.2.2) (fun u t => zPost G K A (wM ad K u.1 u.2.1 u.2.2.1 u.2.2.2) t) A) ([.ref (ad 0)] : List Value).toArray s 0 0 A) (F0 m 62 ls [])) : ∀ (x1 : Int32) (x2 : Int32) (x3 : Int32) (I : Nat → Int32) (J : Nat → Int64) (B : Nat → Nat → Int32) (D : Nat → Nat → Int64) (ls : Array Slot) (H : Heap) (locs : List Loc), wc_LassoFinderModel_shortest_171  K62 Post x1 x2 x3 I J B D → lv_has ls 8 [(0, .ref (ad 0)), (1, .int x1), (2, .int x2), (3, .int x3)] → zW G A s.heap (wM ad K I J B D) H locs → W p l e { frames := 4, cells := 0, slots := 0, locals := 112 } s m ([.ref (ad 0)] : List Value).toArray below meth c H locs 0 0 (MQ below (va_Qi (fun (r : Int32) (u : zS) => Post r u.1 u.2.1 u.2.2.1 u.2.2.2) (fun u t => zPost G K A (wM ad K u.1 u.2.1 u.2.2.1 u.2.2.2) t) A) ([.ref (ad 0)] : List Value).toArray s 0 0 A) (F0 m 171 ls []) := by
  obtain ⟨hx, hb, hr, hml, hts, hown, hlocks, hA, hK⟩ := id C
  intro x1 x2 x3 I J B D ls H locs hok hl hw
  unfold wc_LassoFinderModel_shortest_171 at hok
  refine lv_iload_n hx hb zd_LassoFinderModel_shortest_171 rfl (lv_at hl 1 rfl) ?_
  refine lv_iload_n hx hb zd_LassoFinderModel_shortest_172 rfl (lv_at hl 2 rfl) ?_
  refine lv_if_eq (tgt := 180) hx hb zd_LassoFinderModel_shortest_173 (by decide) (fun hc35 => ?_) (fun hc35 => ?_)
  · have hok := hok.1 hc35
    refine lv_iconst (v := 1) hx hb zd_LassoFinderModel_shortest_180 (by decide) ?_
    exact wJ_LassoFinderModel_shortest_181 G K ad  Post C K62 kh62 x2 x3 1 x1 I J B D ls H locs hok (lv_sub hl [0, 2, 3] rfl) hw
  · have hok := hok.2 hc35
    refine lv_iconst (v := 0) hx hb zd_LassoFinderModel_shortest_176 (by decide) ?_
    refine lv_goto (tgt := 181) hx hb zd_LassoFinderModel_shortest_177 (by decide) ?_
    exact wJ_LassoFinderModel_shortest_181 G K ad  Post C K62 kh62 x2 x3 0 x1 I J B D ls H locs hok (lv_sub hl [0, 2, 3] rfl) hw
set_option maxHeartbeats 8000000 in
set_option maxRecDepth 100000 in
theorem wJ_LassoFinderModel_shortest_150 {p : Program} {l : Launch} {e : Env} {s : State} {m : MethodId} {below : List Frame} {meth : Method} {c : Code} {A : Nat → Prop} (G : va_G) (K : Nat → ClassId) (ad : Nat → Nat) (Post : Int32 → (Nat → Int32) → (Nat → Int64) → (Nat → Nat → Int32) → (Nat → Nat → Int64) → Prop) (C : zCx p s m ([.ref (ad 0)] : List Value).toArray meth c A G K prog_14_method_61_code (some .int) 8 "LassoFinderModel") (K62 : Int32 → Int32 → Int32 → (Nat → Int32) → (Nat → Int64) → (Nat → Nat → Int32) → (Nat → Nat → Int64) → Prop) (kh62 : ∀ (x1 : Int32) (x2 : Int32) (x3 : Int32) (I : Nat → Int32) (J : Nat → Int64) (B : Nat → Nat → Int32) (D : Nat → Nat → Int64) (ls : Array Slot) (H : Heap) (locs : List Loc), K62 x1 x2 x3 I J B D → lv_has ls 8 [(0, .ref (ad 0)), (1, .int x1), (2, .int x2), (3, .int x3)] → zW G A s.heap (wM ad K I J B D) H locs → W p l e { frames := 4, cells := 0, slots := 0, locals := 112 } s m ([.ref (ad 0)] : List Value).toArray below meth c H locs 0 0 (MQ below (va_Qi (fun (r : Int32) (u : zS) => Post r u.1 u.2.1 u.2.2.1 u.2.2.2) (fun u t => zPost G K A (wM ad K u.1 u.2.1 u.2.2.1 u.2.2.2) t) A) ([.ref (ad 0)] : List Value).toArray s 0 0 A) (F0 m 62 ls [])) (K80 : Int32 → Int32 → Int32 → Int32 → (Nat → Int32) → (Nat → Int64) → (Nat → Nat → Int32) → (Nat → Nat → Int64) → Prop) (kh80 : ∀ (x1 : Int32) (x2 : Int32) (x3 : Int32) (x4 : Int32) (I : Nat → Int32) (J : Nat → Int64) (B : Nat → Nat → Int32) (D : Nat → Nat → Int64) (ls : Array Slot) (H : Heap) (locs : List Loc), K80 x1 x2 x3 x4 I J B D → lv_has ls 8 [(0, .ref (ad 0)), (1, .int x1), (2, .int x2), (3, .int x3), (4, .int x4)] → zW G A s.heap (wM ad K I J B D) H locs → W p l e { frames := 4, cells := 0, slots := 0, locals := 112 } s m ([.ref (ad 0)] : List Value).toArray below meth c H locs 0 0 (MQ below (va_Qi (fun (r : Int32) (u : zS) => Post r u.1 u.2.1 u.2.2.1 u.2.2.2) (fun u t => zPost G K A (wM ad K u.1 u.2.1 u.2.2.1 u.2.2.2) t) A) ([.ref (ad 0)] : List Value).toArray s 0 0 A) (F0 m 80 ls [])) : ∀ (x1 : Int32) (x3 : Int32) (x4 : Int32) (y0 : Int32) (I : Nat → Int32) (J : Nat → Int64) (B : Nat → Nat → Int32) (D : Nat → Nat → Int64) (ls : Array Slot) (H : Heap) (locs : List Loc), wc_LassoFinderModel_shortest_150  K62 K80 Post x1 x3 x4 y0 I J B D → lv_has ls 8 [(0, .ref (ad 0)), (1, .int x1), (3, .int x3), (4, .int x4)] → zW G A s.heap (wM ad K I J B D) H locs → W p l e { frames := 4, cells := 0, slots := 0, locals := 112 } s m ([.ref (ad 0)] : List Value).toArray below meth c H locs 0 0 (MQ below (va_Qi (fun (r : Int32) (u : zS) => Post r u.1 u.2.1 u.2.2.1 u.2.2.2) (fun u t => zPost G K A (wM ad K u.1 u.2.1 u.2.2.1 u.2.2.2) t) A) ([.ref (ad 0)] : List Value).toArray s 0 0 A) (F0 m 150 ls [.int y0]) := by
  obtain ⟨hx, hb, hr, hml, hts, hown, hlocks, hA, hK⟩ := id C
  intro x1 x3 x4 y0 I J B D ls H locs hok hl hw
  unfold wc_LassoFinderModel_shortest_150 at hok
  refine lv_istore_n hx hb zd_LassoFinderModel_shortest_150 rfl hl (by decide) rfl (fun ls hl => ?_)
  have hl : lv_has ls 8 [(2, .int y0), (0, .ref (ad 0)), (1, .int x1), (3, .int x3), (4, .int x4)] := hl
  obtain ⟨z36, ez36⟩ : ∃ z : Int32, z = (x4 + 1) := ⟨_, rfl⟩
  have hok := hok z36 ez36
  refine lv_iinc (v := z36) hx hb zd_LassoFinderModel_shortest_151 hl (k := 4) rfl ez36.symm (by decide) rfl (fun ls hl => ?_)
  have hl : lv_has ls 8 [(4, .int z36), (2, .int y0), (0, .ref (ad 0)), (1, .int x1), (3, .int x3)] := hl
  refine lv_goto (tgt := 80) hx hb zd_LassoFinderModel_shortest_154 (by decide) ?_
  exact kh80 x1 y0 x3 z36 I J B D ls H locs hok (lv_sub hl [2, 3, 1, 4, 0] rfl) hw
set_option maxHeartbeats 8000000 in
set_option maxRecDepth 100000 in
theorem wJ_LassoFinderModel_shortest_145 {p : Program} {l : Launch} {e : Env} {s : State} {m : MethodId} {below : List Frame} {meth : Method} {c : Code} {A : Nat → Prop} (G : va_G) (K : Nat → ClassId) (ad : Nat → Nat) (Post : Int32 → (Nat → Int32) → (Nat → Int64) → (Nat → Nat → Int32) → (Nat → Nat → Int64) → Prop) (C : zCx p s m ([.ref (ad 0)] : List Value).toArray meth c A G K prog_14_method_61_code (some .int) 8 "LassoFinderModel") (K62 : Int32 → Int32 → Int32 → (Nat → Int32) → (Nat → Int64) → (Nat → Nat → Int32) → (Nat → Nat → Int64) → Prop) (kh62 : ∀ (x1 : Int32) (x2 : Int32) (x3 : Int32) (I : Nat → Int32) (J : Nat → Int64) (B : Nat → Nat → Int32) (D : Nat → Nat → Int64) (ls : Array Slot) (H : Heap) (locs : List Loc), K62 x1 x2 x3 I J B D → lv_has ls 8 [(0, .ref (ad 0)), (1, .int x1), (2, .int x2), (3, .int x3)] → zW G A s.heap (wM ad K I J B D) H locs → W p l e { frames := 4, cells := 0, slots := 0, locals := 112 } s m ([.ref (ad 0)] : List Value).toArray below meth c H locs 0 0 (MQ below (va_Qi (fun (r : Int32) (u : zS) => Post r u.1 u.2.1 u.2.2.1 u.2.2.2) (fun u t => zPost G K A (wM ad K u.1 u.2.1 u.2.2.1 u.2.2.2) t) A) ([.ref (ad 0)] : List Value).toArray s 0 0 A) (F0 m 62 ls [])) (K80 : Int32 → Int32 → Int32 → Int32 → (Nat → Int32) → (Nat → Int64) → (Nat → Nat → Int32) → (Nat → Nat → Int64) → Prop) (kh80 : ∀ (x1 : Int32) (x2 : Int32) (x3 : Int32) (x4 : Int32) (I : Nat → Int32) (J : Nat → Int64) (B : Nat → Nat → Int32) (D : Nat → Nat → Int64) (ls : Array Slot) (H : Heap) (locs : List Loc), K80 x1 x2 x3 x4 I J B D → lv_has ls 8 [(0, .ref (ad 0)), (1, .int x1), (2, .int x2), (3, .int x3), (4, .int x4)] → zW G A s.heap (wM ad K I J B D) H locs → W p l e { frames := 4, cells := 0, slots := 0, locals := 112 } s m ([.ref (ad 0)] : List Value).toArray below meth c H locs 0 0 (MQ below (va_Qi (fun (r : Int32) (u : zS) => Post r u.1 u.2.1 u.2.2.1 u.2.2.2) (fun u t => zPost G K A (wM ad K u.1 u.2.1 u.2.2.1 u.2.2.2) t) A) ([.ref (ad 0)] : List Value).toArray s 0 0 A) (F0 m 80 ls [])) : ∀ (x1 : Int32) (x3 : Int32) (x4 : Int32) (I : Nat → Int32) (J : Nat → Int64) (B : Nat → Nat → Int32) (D : Nat → Nat → Int64) (ls : Array Slot) (H : Heap) (locs : List Loc), wc_LassoFinderModel_shortest_145  K62 K80 Post x1 x3 x4 I J B D → lv_has ls 8 [(0, .ref (ad 0)), (1, .int x1), (3, .int x3), (4, .int x4)] → zW G A s.heap (wM ad K I J B D) H locs → W p l e { frames := 4, cells := 0, slots := 0, locals := 112 } s m ([.ref (ad 0)] : List Value).toArray below meth c H locs 0 0 (MQ below (va_Qi (fun (r : Int32) (u : zS) => Post r u.1 u.2.1 u.2.2.1 u.2.2.2) (fun u t => zPost G K A (wM ad K u.1 u.2.1 u.2.2.1 u.2.2.2) t) A) ([.ref (ad 0)] : List Value).toArray s 0 0 A) (F0 m 145 ls []) := by
  obtain ⟨hx, hb, hr, hml, hts, hown, hlocks, hA, hK⟩ := id C
  intro x1 x3 x4 I J B D ls H locs hok hl hw
  unfold wc_LassoFinderModel_shortest_145 at hok
  refine lv_iconst (v := 1) hx hb zd_LassoFinderModel_shortest_145 (by decide) ?_
  refine lv_goto (tgt := 150) hx hb zd_LassoFinderModel_shortest_146 (by decide) ?_
  exact wJ_LassoFinderModel_shortest_150 G K ad  Post C K62 kh62 K80 kh80 x1 x3 x4 1 I J B D ls H locs hok (lv_sub hl [0, 1, 2, 3] rfl) hw
set_option maxHeartbeats 8000000 in
set_option maxRecDepth 100000 in
theorem wJ_LassoFinderModel_shortest_130 {p : Program} {l : Launch} {e : Env} {s : State} {m : MethodId} {below : List Frame} {meth : Method} {c : Code} {A : Nat → Prop} (G : va_G) (K : Nat → ClassId) (ad : Nat → Nat) (Post : Int32 → (Nat → Int32) → (Nat → Int64) → (Nat → Nat → Int32) → (Nat → Nat → Int64) → Prop) (C : zCx p s m ([.ref (ad 0)] : List Value).toArray meth c A G K prog_14_method_61_code (some .int) 8 "LassoFinderModel") (K62 : Int32 → Int32 → Int32 → (Nat → Int32) → (Nat → Int64) → (Nat → Nat → Int32) → (Nat → Nat → Int64) → Prop) (kh62 : ∀ (x1 : Int32) (x2 : Int32) (x3 : Int32) (I : Nat → Int32) (J : Nat → Int64) (B : Nat → Nat → Int32) (D : Nat → Nat → Int64) (ls : Array Slot) (H : Heap) (locs : List Loc), K62 x1 x2 x3 I J B D → lv_has ls 8 [(0, .ref (ad 0)), (1, .int x1), (2, .int x2), (3, .int x3)] → zW G A s.heap (wM ad K I J B D) H locs → W p l e { frames := 4, cells := 0, slots := 0, locals := 112 } s m ([.ref (ad 0)] : List Value).toArray below meth c H locs 0 0 (MQ below (va_Qi (fun (r : Int32) (u : zS) => Post r u.1 u.2.1 u.2.2.1 u.2.2.2) (fun u t => zPost G K A (wM ad K u.1 u.2.1 u.2.2.1 u.2.2.2) t) A) ([.ref (ad 0)] : List Value).toArray s 0 0 A) (F0 m 62 ls [])) (K80 : Int32 → Int32 → Int32 → Int32 → (Nat → Int32) → (Nat → Int64) → (Nat → Nat → Int32) → (Nat → Nat → Int64) → Prop) (kh80 : ∀ (x1 : Int32) (x2 : Int32) (x3 : Int32) (x4 : Int32) (I : Nat → Int32) (J : Nat → Int64) (B : Nat → Nat → Int32) (D : Nat → Nat → Int64) (ls : Array Slot) (H : Heap) (locs : List Loc), K80 x1 x2 x3 x4 I J B D → lv_has ls 8 [(0, .ref (ad 0)), (1, .int x1), (2, .int x2), (3, .int x3), (4, .int x4)] → zW G A s.heap (wM ad K I J B D) H locs → W p l e { frames := 4, cells := 0, slots := 0, locals := 112 } s m ([.ref (ad 0)] : List Value).toArray below meth c H locs 0 0 (MQ below (va_Qi (fun (r : Int32) (u : zS) => Post r u.1 u.2.1 u.2.2.1 u.2.2.2) (fun u t => zPost G K A (wM ad K u.1 u.2.1 u.2.2.1 u.2.2.2) t) A) ([.ref (ad 0)] : List Value).toArray s 0 0 A) (F0 m 80 ls [])) : ∀ (x1 : Int32) (x2 : Int32) (x3 : Int32) (x4 : Int32) (y0 : Int32) (y1 : Int32) (I : Nat → Int32) (J : Nat → Int64) (B : Nat → Nat → Int32) (D : Nat → Nat → Int64) (ls : Array Slot) (H : Heap) (locs : List Loc), wc_LassoFinderModel_shortest_130  K62 K80 Post x1 x2 x3 x4 y0 y1 I J B D → lv_has ls 8 [(0, .ref (ad 0)), (1, .int x1), (2, .int x2), (3, .int x3), (4, .int x4)] → zW G A s.heap (wM ad K I J B D) H locs → W p l e { frames := 4, cells := 0, slots := 0, locals := 112 } s m ([.ref (ad 0)] : List Value).toArray below meth c H locs 0 0 (MQ below (va_Qi (fun (r : Int32) (u : zS) => Post r u.1 u.2.1 u.2.2.1 u.2.2.2) (fun u t => zPost G K A (wM ad K u.1 u.2.1 u.2.2.1 u.2.2.2) t) A) ([.ref (ad 0)] : List Value).toArray s 0 0 A) (F0 m 130 ls [.int y0, .int y1, .ref (ad 53)]) := by
  obtain ⟨hx, hb, hr, hml, hts, hown, hlocks, hA, hK⟩ := id C
  intro x1 x2 x3 x4 y0 y1 I J B D ls H locs hok hl hw
  unfold wc_LassoFinderModel_shortest_130 at hok
  refine va_zast (f := (B 50)) hx hb hK hw.1 hw.2.1 hw.2.2 53 2 wM_a53 rfl hok.1 zd_LassoFinderModel_shortest_130 (fun H locs w91 w92 w93 => ?_)
  have hok := hok.2
  have hw := wM_t53 ⟨w91, w92, w93⟩
  refine lv_iload_n hx hb zd_LassoFinderModel_shortest_131 rfl (lv_at hl 2 rfl) ?_
  refine lv_if_ne (tgt := 145) hx hb zd_LassoFinderModel_shortest_132 (by decide) (fun hc37 => ?_) (fun hc37 => ?_)
  · have hok := hok.1 hc37
    exact wJ_LassoFinderModel_shortest_145 G K ad  Post C K62 kh62 K80 kh80 x1 x3 x4 I J (va_up B 50 (upd (B 50) y1.toNatClampNeg (vp_nar .boolean y0))) D ls H locs hok (lv_sub hl [0, 1, 3, 4] rfl) hw
  · have hok := hok.2 hc37
    refine lv_aload_n hx hb zd_LassoFinderModel_shortest_135 rfl (lv_at hl 0 rfl) ?_
    refine z_get (v := .ref (ad 53)) hx hb hts hown hK hw zZ12 0 wM_g0 76 (by decide) zm_287 rfl zd_LassoFinderModel_shortest_136 ?_
    refine lv_iload hx hb zd_LassoFinderModel_shortest_139 (lv_at hl 4 rfl) ?_
    refine va_zald (f := (upd (B 50) y1.toNatClampNeg (vp_nar .boolean y0))) hx hb hK hw.1 53 2 wM_a53 rfl hok.1 zd_LassoFinderModel_shortest_141 ?_
    have hok := hok.2
    refine lv_topi (fun z38 ez38 => ?_)
    have hok := hok z38 ez38
    refine lv_if_eq (tgt := 149) hx hb zd_LassoFinderModel_shortest_142 (by decide) (fun hc39 => ?_) (fun hc39 => ?_)
    · have hok := hok.1 hc39
      refine lv_iconst (v := 0) hx hb zd_LassoFinderModel_shortest_149 (by decide) ?_
      exact wJ_LassoFinderModel_shortest_150 G K ad  Post C K62 kh62 K80 kh80 x1 x3 x4 0 I J (va_up B 50 (upd (B 50) y1.toNatClampNeg (vp_nar .boolean y0))) D ls H locs hok (lv_sub hl [0, 1, 3, 4] rfl) hw
    · have hok := hok.2 hc39
      exact wJ_LassoFinderModel_shortest_145 G K ad  Post C K62 kh62 K80 kh80 x1 x3 x4 I J (va_up B 50 (upd (B 50) y1.toNatClampNeg (vp_nar .boolean y0))) D ls H locs hok (lv_sub hl [0, 1, 3, 4] rfl) hw
set_option maxHeartbeats 8000000 in
set_option maxRecDepth 100000 in
theorem wJ_LassoFinderModel_shortest_129 {p : Program} {l : Launch} {e : Env} {s : State} {m : MethodId} {below : List Frame} {meth : Method} {c : Code} {A : Nat → Prop} (G : va_G) (K : Nat → ClassId) (ad : Nat → Nat) (Post : Int32 → (Nat → Int32) → (Nat → Int64) → (Nat → Nat → Int32) → (Nat → Nat → Int64) → Prop) (C : zCx p s m ([.ref (ad 0)] : List Value).toArray meth c A G K prog_14_method_61_code (some .int) 8 "LassoFinderModel") (K62 : Int32 → Int32 → Int32 → (Nat → Int32) → (Nat → Int64) → (Nat → Nat → Int32) → (Nat → Nat → Int64) → Prop) (kh62 : ∀ (x1 : Int32) (x2 : Int32) (x3 : Int32) (I : Nat → Int32) (J : Nat → Int64) (B : Nat → Nat → Int32) (D : Nat → Nat → Int64) (ls : Array Slot) (H : Heap) (locs : List Loc), K62 x1 x2 x3 I J B D → lv_has ls 8 [(0, .ref (ad 0)), (1, .int x1), (2, .int x2), (3, .int x3)] → zW G A s.heap (wM ad K I J B D) H locs → W p l e { frames := 4, cells := 0, slots := 0, locals := 112 } s m ([.ref (ad 0)] : List Value).toArray below meth c H locs 0 0 (MQ below (va_Qi (fun (r : Int32) (u : zS) => Post r u.1 u.2.1 u.2.2.1 u.2.2.2) (fun u t => zPost G K A (wM ad K u.1 u.2.1 u.2.2.1 u.2.2.2) t) A) ([.ref (ad 0)] : List Value).toArray s 0 0 A) (F0 m 62 ls [])) (K80 : Int32 → Int32 → Int32 → Int32 → (Nat → Int32) → (Nat → Int64) → (Nat → Nat → Int32) → (Nat → Nat → Int64) → Prop) (kh80 : ∀ (x1 : Int32) (x2 : Int32) (x3 : Int32) (x4 : Int32) (I : Nat → Int32) (J : Nat → Int64) (B : Nat → Nat → Int32) (D : Nat → Nat → Int64) (ls : Array Slot) (H : Heap) (locs : List Loc), K80 x1 x2 x3 x4 I J B D → lv_has ls 8 [(0, .ref (ad 0)), (1, .int x1), (2, .int x2), (3, .int x3), (4, .int x4)] → zW G A s.heap (wM ad K I J B D) H locs → W p l e { frames := 4, cells := 0, slots := 0, locals := 112 } s m ([.ref (ad 0)] : List Value).toArray below meth c H locs 0 0 (MQ below (va_Qi (fun (r : Int32) (u : zS) => Post r u.1 u.2.1 u.2.2.1 u.2.2.2) (fun u t => zPost G K A (wM ad K u.1 u.2.1 u.2.2.1 u.2.2.2) t) A) ([.ref (ad 0)] : List Value).toArray s 0 0 A) (F0 m 80 ls [])) : ∀ (x1 : Int32) (x2 : Int32) (x3 : Int32) (x4 : Int32) (y0 : Int32) (I : Nat → Int32) (J : Nat → Int64) (B : Nat → Nat → Int32) (D : Nat → Nat → Int64) (ls : Array Slot) (H : Heap) (locs : List Loc), wc_LassoFinderModel_shortest_129  K62 K80 Post x1 x2 x3 x4 y0 I J B D → lv_has ls 8 [(0, .ref (ad 0)), (1, .int x1), (2, .int x2), (3, .int x3), (4, .int x4)] → zW G A s.heap (wM ad K I J B D) H locs → W p l e { frames := 4, cells := 0, slots := 0, locals := 112 } s m ([.ref (ad 0)] : List Value).toArray below meth c H locs 0 0 (MQ below (va_Qi (fun (r : Int32) (u : zS) => Post r u.1 u.2.1 u.2.2.1 u.2.2.2) (fun u t => zPost G K A (wM ad K u.1 u.2.1 u.2.2.1 u.2.2.2) t) A) ([.ref (ad 0)] : List Value).toArray s 0 0 A) (F0 m 129 ls [.int y0, .ref (ad 53)]) := by
  obtain ⟨hx, hb, hr, hml, hts, hown, hlocks, hA, hK⟩ := id C
  intro x1 x2 x3 x4 y0 I J B D ls H locs hok hl hw
  unfold wc_LassoFinderModel_shortest_129 at hok
  refine lv_iconst (v := 0) hx hb zd_LassoFinderModel_shortest_129 (by decide) ?_
  exact wJ_LassoFinderModel_shortest_130 G K ad  Post C K62 kh62 K80 kh80 x1 x2 x3 x4 0 y0 I J B D ls H locs hok (lv_sub hl [0, 1, 2, 3, 4] rfl) hw
set_option maxHeartbeats 8000000 in
set_option maxRecDepth 100000 in
theorem wB_LassoFinderModel_shortest_80 {p : Program} {l : Launch} {e : Env} {s : State} {m : MethodId} {below : List Frame} {meth : Method} {c : Code} {A : Nat → Prop} (G : va_G) (K : Nat → ClassId) (ad : Nat → Nat) (Post : Int32 → (Nat → Int32) → (Nat → Int64) → (Nat → Nat → Int32) → (Nat → Nat → Int64) → Prop) (C : zCx p s m ([.ref (ad 0)] : List Value).toArray meth c A G K prog_14_method_61_code (some .int) 8 "LassoFinderModel") (K62 : Int32 → Int32 → Int32 → (Nat → Int32) → (Nat → Int64) → (Nat → Nat → Int32) → (Nat → Nat → Int64) → Prop) (kh62 : ∀ (x1 : Int32) (x2 : Int32) (x3 : Int32) (I : Nat → Int32) (J : Nat → Int64) (B : Nat → Nat → Int32) (D : Nat → Nat → Int64) (ls : Array Slot) (H : Heap) (locs : List Loc), K62 x1 x2 x3 I J B D → lv_has ls 8 [(0, .ref (ad 0)), (1, .int x1), (2, .int x2), (3, .int x3)] → zW G A s.heap (wM ad K I J B D) H locs → W p l e { frames := 4, cells := 0, slots := 0, locals := 112 } s m ([.ref (ad 0)] : List Value).toArray below meth c H locs 0 0 (MQ below (va_Qi (fun (r : Int32) (u : zS) => Post r u.1 u.2.1 u.2.2.1 u.2.2.2) (fun u t => zPost G K A (wM ad K u.1 u.2.1 u.2.2.1 u.2.2.2) t) A) ([.ref (ad 0)] : List Value).toArray s 0 0 A) (F0 m 62 ls [])) (K80 : Int32 → Int32 → Int32 → Int32 → (Nat → Int32) → (Nat → Int64) → (Nat → Nat → Int32) → (Nat → Nat → Int64) → Prop) (kh80 : ∀ (x1 : Int32) (x2 : Int32) (x3 : Int32) (x4 : Int32) (I : Nat → Int32) (J : Nat → Int64) (B : Nat → Nat → Int32) (D : Nat → Nat → Int64) (ls : Array Slot) (H : Heap) (locs : List Loc), K80 x1 x2 x3 x4 I J B D → lv_has ls 8 [(0, .ref (ad 0)), (1, .int x1), (2, .int x2), (3, .int x3), (4, .int x4)] → zW G A s.heap (wM ad K I J B D) H locs → W p l e { frames := 4, cells := 0, slots := 0, locals := 112 } s m ([.ref (ad 0)] : List Value).toArray below meth c H locs 0 0 (MQ below (va_Qi (fun (r : Int32) (u : zS) => Post r u.1 u.2.1 u.2.2.1 u.2.2.2) (fun u t => zPost G K A (wM ad K u.1 u.2.1 u.2.2.1 u.2.2.2) t) A) ([.ref (ad 0)] : List Value).toArray s 0 0 A) (F0 m 80 ls [])) : ∀ (x1 : Int32) (x2 : Int32) (x3 : Int32) (x4 : Int32) (I : Nat → Int32) (J : Nat → Int64) (B : Nat → Nat → Int32) (D : Nat → Nat → Int64) (ls : Array Slot) (H : Heap) (locs : List Loc), wb_LassoFinderModel_shortest_80  K80 K62 Post x1 x2 x3 x4 I J B D → lv_has ls 8 [(0, .ref (ad 0)), (1, .int x1), (2, .int x2), (3, .int x3), (4, .int x4)] → zW G A s.heap (wM ad K I J B D) H locs → W p l e { frames := 4, cells := 0, slots := 0, locals := 112 } s m ([.ref (ad 0)] : List Value).toArray below meth c H locs 0 0 (MQ below (va_Qi (fun (r : Int32) (u : zS) => Post r u.1 u.2.1 u.2.2.1 u.2.2.2) (fun u t => zPost G K A (wM ad K u.1 u.2.1 u.2.2.1 u.2.2.2) t) A) ([.ref (ad 0)] : List Value).toArray s 0 0 A) (F0 m 80 ls []) := by
  obtain ⟨hx, hb, hr, hml, hts, hown, hlocks, hA, hK⟩ := id C
  intro x1 x2 x3 x4 I J B D ls H locs hok hl hw
  unfold wb_LassoFinderModel_shortest_80 at hok
  refine lv_iload hx hb zd_LassoFinderModel_shortest_80 (lv_at hl 4 rfl) ?_
  refine lv_bipush (v := 8) hx hb zd_LassoFinderModel_shortest_82 (by decide) ?_
  refine lv_aload_n hx hb zd_LassoFinderModel_shortest_84 rfl (lv_at hl 0 rfl) ?_
  refine z_get (v := .int (I 14)) hx hb hts hown hK hw zZ12 0 wM_g0 44 (by decide) zm_300 rfl zd_LassoFinderModel_shortest_85 ?_
  refine lv_imul hx hb zd_LassoFinderModel_shortest_88 ?_
  refine lv_topi (fun z40 ez40 => ?_)
  have hok := hok z40 ez40
  refine lv_icmp_ge (tgt := 157) hx hb zd_LassoFinderModel_shortest_89 (by decide) (fun hc41 => ?_) (fun hc41 => ?_)
  · have hok := hok.1 hc41
    refine lv_iload_n hx hb zd_LassoFinderModel_shortest_157 rfl (lv_at hl 2 rfl) ?_
    refine lv_if_ne (tgt := 171) hx hb zd_LassoFinderModel_shortest_158 (by decide) (fun hc42 => ?_) (fun hc42 => ?_)
    · have hok := hok.1 hc42
      exact wJ_LassoFinderModel_shortest_171 G K ad  Post C K62 kh62 x1 x2 x3 I J B D ls H locs hok (lv_sub hl [0, 1, 2, 3] rfl) hw
    · have hok := hok.2 hc42
      refine lv_aload_n hx hb zd_LassoFinderModel_shortest_161 rfl (lv_at hl 0 rfl) ?_
      refine lv_iload_n hx hb zd_LassoFinderModel_shortest_162 rfl (lv_at hl 1 rfl) ?_
      refine z_calli (w1 := fun (u : zS) => wM ad K u.1 u.2.1 u.2.2.1 u.2.2.2) (wr := []) (z_runV (q0 := 0) (wc := (wM ad K I J B D)) (As := [.int x1]) (rest := []) ⟨hx, hb, hml, hown, hts⟩ (w_LassoFinderModel_spread l G K ad I J B D x1 _ H.size hok) zf_LassoFinderModel_spread zm_380 ⟨Nat.le_of_ble_eq_true rfl, Nat.le_of_ble_eq_true rfl⟩ hK hw (List.range 58) wM_all wM_nd wM_g0 rfl rfl hl.1 rfl (Nat.le_of_ble_eq_true rfl) zd_LassoFinderModel_shortest_163 ⟨Nat.le_of_ble_eq_true rfl, Nat.le_of_ble_eq_true rfl⟩) hw hA (List.range 58) [] wM_all rfl (by decide) (fun i hi => by cases hi) (fun r43 u H locs hok hw => ?_)
      obtain ⟨I43, J43, B43, D43⟩ := u
      dsimp only at hok
      have hw : zW G A s.heap (wM ad K I43 J43 B43 D43) H locs := hw
      refine lv_if_ne (tgt := 171) hx hb zd_LassoFinderModel_shortest_166 (by decide) (fun hc44 => ?_) (fun hc44 => ?_)
      · have hok := hok.1 hc44
        exact wJ_LassoFinderModel_shortest_171 G K ad  Post C K62 kh62 x1 x2 x3 I43 J43 B43 D43 ls H locs hok (lv_sub hl [0, 1, 2, 3] rfl) hw
      · have hok := hok.2 hc44
        refine lv_iconst (v := (-1)) hx hb zd_LassoFinderModel_shortest_169 (by decide) ?_
        exact (z_iret (u := (I43, J43, B43, D43)) hx hb hr hlocks rfl hw (List.range 58) wM_all wM_nd hok (Nat.le_of_ble_eq_true rfl) (Nat.le_of_ble_eq_true rfl) zd_LassoFinderModel_shortest_170)
  · have hok := hok.2 hc41
    refine lv_aload_n hx hb zd_LassoFinderModel_shortest_92 rfl (lv_at hl 0 rfl) ?_
    refine z_get (v := .ref (ad 53)) hx hb hts hown hK hw zZ12 0 wM_g0 76 (by decide) zm_287 rfl zd_LassoFinderModel_shortest_93 ?_
    refine lv_iload hx hb zd_LassoFinderModel_shortest_96 (lv_at hl 4 rfl) ?_
    refine lv_aload_n hx hb zd_LassoFinderModel_shortest_98 rfl (lv_at hl 0 rfl) ?_
    refine z_get (v := .ref (ad 52)) hx hb hts hown hK hw zZ12 0 wM_g0 75 (by decide) zm_286 rfl zd_LassoFinderModel_shortest_99 ?_
    refine lv_iload hx hb zd_LassoFinderModel_shortest_102 (lv_at hl 4 rfl) ?_
    refine va_iald (f := (B 49)) hx hb hK hw.1 52 0 wM_a52 rfl hok.1 zd_LassoFinderModel_shortest_104 ?_
    have hok := hok.2
    refine lv_topi (fun z45 ez45 => ?_)
    have hok := hok z45 ez45
    refine lv_iload_n hx hb zd_LassoFinderModel_shortest_105 rfl (lv_at hl 1 rfl) ?_
    refine lv_icmp_ne (tgt := 129) hx hb zd_LassoFinderModel_shortest_106 (by decide) (fun hc46 => ?_) (fun hc46 => ?_)
    · have hok := hok.1 hc46
      exact wJ_LassoFinderModel_shortest_129 G K ad  Post C K62 kh62 K80 kh80 x1 x2 x3 x4 x4 I J B D ls H locs hok (lv_sub hl [0, 1, 2, 3, 4] rfl) hw
    · have hok := hok.2 hc46
      refine lv_aload_n hx hb zd_LassoFinderModel_shortest_109 rfl (lv_at hl 0 rfl) ?_
      refine lv_iload hx hb zd_LassoFinderModel_shortest_110 (lv_at hl 4 rfl) ?_
      refine lv_iconst (v := 3) hx hb zd_LassoFinderModel_shortest_112 (by decide) ?_
      refine lv_ishr hx hb zd_LassoFinderModel_shortest_113 ?_
      refine lv_topi (fun z47 ez47 => ?_)
      have hok := hok z47 ez47
      refine lv_iload hx hb zd_LassoFinderModel_shortest_114 (lv_at hl 4 rfl) ?_
      refine lv_bipush (v := 7) hx hb zd_LassoFinderModel_shortest_116 (by decide) ?_
      refine lv_iand hx hb zd_LassoFinderModel_shortest_118 ?_
      refine lv_topi (fun z48 ez48 => ?_)
      have hok := hok z48 ez48
      refine z_calli (w1 := fun (u : zS) => wM ad K u.1 u.2.1 u.2.2.1 u.2.2.2) (wr := []) (z_runV (q0 := 0) (wc := (wM ad K I J B D)) (As := [.int z47, .int z48]) (rest := [.int x4, .ref (ad 53)]) ⟨hx, hb, hml, hown, hts⟩ (w_LassoFinderModel_nearest l G K ad I J B D z47 z48 _ H.size hok) zf_LassoFinderModel_nearest zm_372 ⟨Nat.le_of_ble_eq_true rfl, Nat.le_of_ble_eq_true rfl⟩ hK hw (List.range 58) wM_all wM_nd wM_g0 rfl rfl hl.1 rfl (Nat.le_of_ble_eq_true rfl) zd_LassoFinderModel_shortest_119 ⟨Nat.le_of_ble_eq_true rfl, Nat.le_of_ble_eq_true rfl⟩) hw hA (List.range 58) [] wM_all rfl (by decide) (fun i hi => by cases hi) (fun r49 u H locs hok hw => ?_)
      obtain ⟨I49, J49, B49, D49⟩ := u
      dsimp only at hok
      have hw : zW G A s.heap (wM ad K I49 J49 B49 D49) H locs := hw
      refine lv_if_le (tgt := 129) hx hb zd_LassoFinderModel_shortest_122 (by decide) (fun hc50 => ?_) (fun hc50 => ?_)
      · have hok := hok.1 hc50
        exact wJ_LassoFinderModel_shortest_129 G K ad  Post C K62 kh62 K80 kh80 x1 x2 x3 x4 x4 I49 J49 B49 D49 ls H locs hok (lv_sub hl [0, 1, 2, 3, 4] rfl) hw
      · have hok := hok.2 hc50
        refine lv_iconst (v := 1) hx hb zd_LassoFinderModel_shortest_125 (by decide) ?_
        refine lv_goto (tgt := 130) hx hb zd_LassoFinderModel_shortest_126 (by decide) ?_
        exact wJ_LassoFinderModel_shortest_130 G K ad  Post C K62 kh62 K80 kh80 x1 x2 x3 x4 1 x4 I49 J49 B49 D49 ls H locs hok (lv_sub hl [0, 1, 2, 3, 4] rfl) hw
theorem wL_LassoFinderModel_shortest_80 {p : Program} {l : Launch} {e : Env} {s : State} {m : MethodId} {below : List Frame} {meth : Method} {c : Code} {A : Nat → Prop} (G : va_G) (K : Nat → ClassId) (ad : Nat → Nat) (Post : Int32 → (Nat → Int32) → (Nat → Int64) → (Nat → Nat → Int32) → (Nat → Nat → Int64) → Prop) (C : zCx p s m ([.ref (ad 0)] : List Value).toArray meth c A G K prog_14_method_61_code (some .int) 8 "LassoFinderModel") (K62 : Int32 → Int32 → Int32 → (Nat → Int32) → (Nat → Int64) → (Nat → Nat → Int32) → (Nat → Nat → Int64) → Prop) (kh62 : ∀ (x1 : Int32) (x2 : Int32) (x3 : Int32) (I : Nat → Int32) (J : Nat → Int64) (B : Nat → Nat → Int32) (D : Nat → Nat → Int64) (ls : Array Slot) (H : Heap) (locs : List Loc), K62 x1 x2 x3 I J B D → lv_has ls 8 [(0, .ref (ad 0)), (1, .int x1), (2, .int x2), (3, .int x3)] → zW G A s.heap (wM ad K I J B D) H locs → W p l e { frames := 4, cells := 0, slots := 0, locals := 112 } s m ([.ref (ad 0)] : List Value).toArray below meth c H locs 0 0 (MQ below (va_Qi (fun (r : Int32) (u : zS) => Post r u.1 u.2.1 u.2.2.1 u.2.2.2) (fun u t => zPost G K A (wM ad K u.1 u.2.1 u.2.2.1 u.2.2.2) t) A) ([.ref (ad 0)] : List Value).toArray s 0 0 A) (F0 m 62 ls [])) : ∀ (n : Nat) (x1 : Int32) (x2 : Int32) (x3 : Int32) (x4 : Int32) (I : Nat → Int32) (J : Nat → Int64) (B : Nat → Nat → Int32) (D : Nat → Nat → Int64) (ls : Array Slot) (H : Heap) (locs : List Loc), wl_LassoFinderModel_shortest_80  K62 Post n x1 x2 x3 x4 I J B D → lv_has ls 8 [(0, .ref (ad 0)), (1, .int x1), (2, .int x2), (3, .int x3), (4, .int x4)] → zW G A s.heap (wM ad K I J B D) H locs → W p l e { frames := 4, cells := 0, slots := 0, locals := 112 } s m ([.ref (ad 0)] : List Value).toArray below meth c H locs 0 0 (MQ below (va_Qi (fun (r : Int32) (u : zS) => Post r u.1 u.2.1 u.2.2.1 u.2.2.2) (fun u t => zPost G K A (wM ad K u.1 u.2.1 u.2.2.1 u.2.2.2) t) A) ([.ref (ad 0)] : List Value).toArray s 0 0 A) (F0 m 80 ls []) := by
  intro n
  induction n with
  | zero => intro x1 x2 x3 x4 I J B D ls H locs hok; exact hok.elim
  | succ n ih => exact wB_LassoFinderModel_shortest_80 G K ad  Post C K62 kh62 (wl_LassoFinderModel_shortest_80  K62 Post n) ih
set_option maxHeartbeats 8000000 in
set_option maxRecDepth 100000 in
theorem wB_LassoFinderModel_shortest_62 {p : Program} {l : Launch} {e : Env} {s : State} {m : MethodId} {below : List Frame} {meth : Method} {c : Code} {A : Nat → Prop} (G : va_G) (K : Nat → ClassId) (ad : Nat → Nat) (Post : Int32 → (Nat → Int32) → (Nat → Int64) → (Nat → Nat → Int32) → (Nat → Nat → Int64) → Prop) (C : zCx p s m ([.ref (ad 0)] : List Value).toArray meth c A G K prog_14_method_61_code (some .int) 8 "LassoFinderModel") (K62 : Int32 → Int32 → Int32 → (Nat → Int32) → (Nat → Int64) → (Nat → Nat → Int32) → (Nat → Nat → Int64) → Prop) (kh62 : ∀ (x1 : Int32) (x2 : Int32) (x3 : Int32) (I : Nat → Int32) (J : Nat → Int64) (B : Nat → Nat → Int32) (D : Nat → Nat → Int64) (ls : Array Slot) (H : Heap) (locs : List Loc), K62 x1 x2 x3 I J B D → lv_has ls 8 [(0, .ref (ad 0)), (1, .int x1), (2, .int x2), (3, .int x3)] → zW G A s.heap (wM ad K I J B D) H locs → W p l e { frames := 4, cells := 0, slots := 0, locals := 112 } s m ([.ref (ad 0)] : List Value).toArray below meth c H locs 0 0 (MQ below (va_Qi (fun (r : Int32) (u : zS) => Post r u.1 u.2.1 u.2.2.1 u.2.2.2) (fun u t => zPost G K A (wM ad K u.1 u.2.1 u.2.2.1 u.2.2.2) t) A) ([.ref (ad 0)] : List Value).toArray s 0 0 A) (F0 m 62 ls [])) : ∀ (x1 : Int32) (x2 : Int32) (x3 : Int32) (I : Nat → Int32) (J : Nat → Int64) (B : Nat → Nat → Int32) (D : Nat → Nat → Int64) (ls : Array Slot) (H : Heap) (locs : List Loc), wb_LassoFinderModel_shortest_62  K62 Post x1 x2 x3 I J B D → lv_has ls 8 [(0, .ref (ad 0)), (1, .int x1), (2, .int x2), (3, .int x3)] → zW G A s.heap (wM ad K I J B D) H locs → W p l e { frames := 4, cells := 0, slots := 0, locals := 112 } s m ([.ref (ad 0)] : List Value).toArray below meth c H locs 0 0 (MQ below (va_Qi (fun (r : Int32) (u : zS) => Post r u.1 u.2.1 u.2.2.1 u.2.2.2) (fun u t => zPost G K A (wM ad K u.1 u.2.1 u.2.2.1 u.2.2.2) t) A) ([.ref (ad 0)] : List Value).toArray s 0 0 A) (F0 m 62 ls []) := by
  obtain ⟨hx, hb, hr, hml, hts, hown, hlocks, hA, hK⟩ := id C
  intro x1 x2 x3 I J B D ls H locs hok hl hw
  unfold wb_LassoFinderModel_shortest_62 at hok
  refine lv_iload_n hx hb zd_LassoFinderModel_shortest_62 rfl (lv_at hl 3 rfl) ?_
  refine lv_bipush (v := 8) hx hb zd_LassoFinderModel_shortest_63 (by decide) ?_
  refine lv_aload_n hx hb zd_LassoFinderModel_shortest_65 rfl (lv_at hl 0 rfl) ?_
  refine z_get (v := .int (I 14)) hx hb hts hown hK hw zZ12 0 wM_g0 44 (by decide) zm_300 rfl zd_LassoFinderModel_shortest_66 ?_
  refine lv_imul hx hb zd_LassoFinderModel_shortest_69 ?_
  refine lv_topi (fun z51 ez51 => ?_)
  have hok := hok z51 ez51
  refine lv_icmp_gt (tgt := 189) hx hb zd_LassoFinderModel_shortest_70 (by decide) (fun hc52 => ?_) (fun hc52 => ?_)
  · have hok := hok.1 hc52
    exact wJ_LassoFinderModel_shortest_189 G K ad  Post C x1 I J B D ls H locs hok (lv_sub hl [0, 1] rfl) hw
  · have hok := hok.2 hc52
    refine lv_iload_n hx hb zd_LassoFinderModel_shortest_73 rfl (lv_at hl 2 rfl) ?_
    refine lv_if_ne (tgt := 189) hx hb zd_LassoFinderModel_shortest_74 (by decide) (fun hc53 => ?_) (fun hc53 => ?_)
    · have hok := hok.1 hc53
      exact wJ_LassoFinderModel_shortest_189 G K ad  Post C x1 I J B D ls H locs hok (lv_sub hl [0, 1] rfl) hw
    · have hok := hok.2 hc53
      refine lv_iconst (v := 0) hx hb zd_LassoFinderModel_shortest_77 (by decide) ?_
      refine lv_istore hx hb zd_LassoFinderModel_shortest_78 hl (by decide) rfl (fun ls hl => ?_)
      have hl : lv_has ls 8 [(4, .int 0), (0, .ref (ad 0)), (1, .int x1), (2, .int x2), (3, .int x3)] := hl
      obtain ⟨n9, hok⟩ := hok
      exact wL_LassoFinderModel_shortest_80 G K ad  Post C K62 kh62 n9 x1 x2 x3 0 I J B D ls H locs hok (lv_sub hl [1, 2, 3, 4, 0] rfl) hw
theorem wL_LassoFinderModel_shortest_62 {p : Program} {l : Launch} {e : Env} {s : State} {m : MethodId} {below : List Frame} {meth : Method} {c : Code} {A : Nat → Prop} (G : va_G) (K : Nat → ClassId) (ad : Nat → Nat) (Post : Int32 → (Nat → Int32) → (Nat → Int64) → (Nat → Nat → Int32) → (Nat → Nat → Int64) → Prop) (C : zCx p s m ([.ref (ad 0)] : List Value).toArray meth c A G K prog_14_method_61_code (some .int) 8 "LassoFinderModel") : ∀ (n : Nat) (x1 : Int32) (x2 : Int32) (x3 : Int32) (I : Nat → Int32) (J : Nat → Int64) (B : Nat → Nat → Int32) (D : Nat → Nat → Int64) (ls : Array Slot) (H : Heap) (locs : List Loc), wl_LassoFinderModel_shortest_62  Post n x1 x2 x3 I J B D → lv_has ls 8 [(0, .ref (ad 0)), (1, .int x1), (2, .int x2), (3, .int x3)] → zW G A s.heap (wM ad K I J B D) H locs → W p l e { frames := 4, cells := 0, slots := 0, locals := 112 } s m ([.ref (ad 0)] : List Value).toArray below meth c H locs 0 0 (MQ below (va_Qi (fun (r : Int32) (u : zS) => Post r u.1 u.2.1 u.2.2.1 u.2.2.2) (fun u t => zPost G K A (wM ad K u.1 u.2.1 u.2.2.1 u.2.2.2) t) A) ([.ref (ad 0)] : List Value).toArray s 0 0 A) (F0 m 62 ls []) := by
  intro n
  induction n with
  | zero => intro x1 x2 x3 I J B D ls H locs hok; exact hok.elim
  | succ n ih => exact wB_LassoFinderModel_shortest_62 G K ad  Post C (wl_LassoFinderModel_shortest_62  Post n) ih
set_option maxHeartbeats 8000000 in
set_option maxRecDepth 100000 in
theorem wJ_LassoFinderModel_shortest_42 {p : Program} {l : Launch} {e : Env} {s : State} {m : MethodId} {below : List Frame} {meth : Method} {c : Code} {A : Nat → Prop} (G : va_G) (K : Nat → ClassId) (ad : Nat → Nat) (Post : Int32 → (Nat → Int32) → (Nat → Int64) → (Nat → Nat → Int32) → (Nat → Nat → Int64) → Prop) (C : zCx p s m ([.ref (ad 0)] : List Value).toArray meth c A G K prog_14_method_61_code (some .int) 8 "LassoFinderModel") (K2 : Int32 → (Nat → Int32) → (Nat → Int64) → (Nat → Nat → Int32) → (Nat → Nat → Int64) → Prop) (kh2 : ∀ (x1 : Int32) (I : Nat → Int32) (J : Nat → Int64) (B : Nat → Nat → Int32) (D : Nat → Nat → Int64) (ls : Array Slot) (H : Heap) (locs : List Loc), K2 x1 I J B D → lv_has ls 8 [(0, .ref (ad 0)), (1, .int x1)] → zW G A s.heap (wM ad K I J B D) H locs → W p l e { frames := 4, cells := 0, slots := 0, locals := 112 } s m ([.ref (ad 0)] : List Value).toArray below meth c H locs 0 0 (MQ below (va_Qi (fun (r : Int32) (u : zS) => Post r u.1 u.2.1 u.2.2.1 u.2.2.2) (fun u t => zPost G K A (wM ad K u.1 u.2.1 u.2.2.1 u.2.2.2) t) A) ([.ref (ad 0)] : List Value).toArray s 0 0 A) (F0 m 2 ls [])) : ∀ (x1 : Int32) (y0 : Int32) (y1 : Int32) (I : Nat → Int32) (J : Nat → Int64) (B : Nat → Nat → Int32) (D : Nat → Nat → Int64) (ls : Array Slot) (H : Heap) (locs : List Loc), wc_LassoFinderModel_shortest_42  K2 Post x1 y0 y1 I J B D → lv_has ls 8 [(0, .ref (ad 0)), (1, .int x1)] → zW G A s.heap (wM ad K I J B D) H locs → W p l e { frames := 4, cells := 0, slots := 0, locals := 112 } s m ([.ref (ad 0)] : List Value).toArray below meth c H locs 0 0 (MQ below (va_Qi (fun (r : Int32) (u : zS) => Post r u.1 u.2.1 u.2.2.1 u.2.2.2) (fun u t => zPost G K A (wM ad K u.1 u.2.1 u.2.2.1 u.2.2.2) t) A) ([.ref (ad 0)] : List Value).toArray s 0 0 A) (F0 m 42 ls [.int y0, .int y1, .ref (ad 52)]) := by
  obtain ⟨hx, hb, hr, hml, hts, hown, hlocks, hA, hK⟩ := id C
  intro x1 y0 y1 I J B D ls H locs hok hl hw
  unfold wc_LassoFinderModel_shortest_42 at hok
  refine va_iast (f := (B 49)) hx hb hK hw.1 hw.2.1 hw.2.2 52 0 wM_a52 rfl hok.1 zd_LassoFinderModel_shortest_42 (fun H locs w91 w92 w93 => ?_)
  have hok := hok.2
  have hw := wM_t52 ⟨w91, w92, w93⟩
  refine lv_aload_n hx hb zd_LassoFinderModel_shortest_43 rfl (lv_at hl 0 rfl) ?_
  refine z_get (v := .ref (ad 53)) hx hb hts hown hK hw zZ12 0 wM_g0 76 (by decide) zm_287 rfl zd_LassoFinderModel_shortest_44 ?_
  refine lv_iload_n hx hb zd_LassoFinderModel_shortest_47 rfl (lv_at hl 1 rfl) ?_
  refine lv_iconst (v := 0) hx hb zd_LassoFinderModel_shortest_48 (by decide) ?_
  refine va_zast (f := (B 50)) hx hb hK hw.1 hw.2.1 hw.2.2 53 2 wM_a53 rfl hok.1 zd_LassoFinderModel_shortest_49 (fun H locs w91 w92 w93 => ?_)
  have hok := hok.2
  have hw := wM_t53 ⟨w91, w92, w93⟩
  obtain ⟨z54, ez54⟩ : ∃ z : Int32, z = (x1 + 1) := ⟨_, rfl⟩
  have hok := hok z54 ez54
  refine lv_iinc (v := z54) hx hb zd_LassoFinderModel_shortest_50 hl (k := 1) rfl ez54.symm (by decide) rfl (fun ls hl => ?_)
  have hl : lv_has ls 8 [(1, .int z54), (0, .ref (ad 0))] := hl
  refine lv_goto (tgt := 2) hx hb zd_LassoFinderModel_shortest_53 (by decide) ?_
  exact kh2 z54 I J (va_up (va_up B 49 (upd (B 49) y1.toNatClampNeg y0)) 50 (upd (B 50) x1.toNatClampNeg (vp_nar .boolean 0))) D ls H locs hok (lv_sub hl [1, 0] rfl) hw
set_option maxHeartbeats 8000000 in
set_option maxRecDepth 100000 in
theorem wJ_LassoFinderModel_shortest_41 {p : Program} {l : Launch} {e : Env} {s : State} {m : MethodId} {below : List Frame} {meth : Method} {c : Code} {A : Nat → Prop} (G : va_G) (K : Nat → ClassId) (ad : Nat → Nat) (Post : Int32 → (Nat → Int32) → (Nat → Int64) → (Nat → Nat → Int32) → (Nat → Nat → Int64) → Prop) (C : zCx p s m ([.ref (ad 0)] : List Value).toArray meth c A G K prog_14_method_61_code (some .int) 8 "LassoFinderModel") (K2 : Int32 → (Nat → Int32) → (Nat → Int64) → (Nat → Nat → Int32) → (Nat → Nat → Int64) → Prop) (kh2 : ∀ (x1 : Int32) (I : Nat → Int32) (J : Nat → Int64) (B : Nat → Nat → Int32) (D : Nat → Nat → Int64) (ls : Array Slot) (H : Heap) (locs : List Loc), K2 x1 I J B D → lv_has ls 8 [(0, .ref (ad 0)), (1, .int x1)] → zW G A s.heap (wM ad K I J B D) H locs → W p l e { frames := 4, cells := 0, slots := 0, locals := 112 } s m ([.ref (ad 0)] : List Value).toArray below meth c H locs 0 0 (MQ below (va_Qi (fun (r : Int32) (u : zS) => Post r u.1 u.2.1 u.2.2.1 u.2.2.2) (fun u t => zPost G K A (wM ad K u.1 u.2.1 u.2.2.1 u.2.2.2) t) A) ([.ref (ad 0)] : List Value).toArray s 0 0 A) (F0 m 2 ls [])) : ∀ (x1 : Int32) (y0 : Int32) (I : Nat → Int32) (J : Nat → Int64) (B : Nat → Nat → Int32) (D : Nat → Nat → Int64) (ls : Array Slot) (H : Heap) (locs : List Loc), wc_LassoFinderModel_shortest_41  K2 Post x1 y0 I J B D → lv_has ls 8 [(0, .ref (ad 0)), (1, .int x1)] → zW G A s.heap (wM ad K I J B D) H locs → W p l e { frames := 4, cells := 0, slots := 0, locals := 112 } s m ([.ref (ad 0)] : List Value).toArray below meth c H locs 0 0 (MQ below (va_Qi (fun (r : Int32) (u : zS) => Post r u.1 u.2.1 u.2.2.1 u.2.2.2) (fun u t => zPost G K A (wM ad K u.1 u.2.1 u.2.2.1 u.2.2.2) t) A) ([.ref (ad 0)] : List Value).toArray s 0 0 A) (F0 m 41 ls [.int y0, .ref (ad 52)]) := by
  obtain ⟨hx, hb, hr, hml, hts, hown, hlocks, hA, hK⟩ := id C
  intro x1 y0 I J B D ls H locs hok hl hw
  unfold wc_LassoFinderModel_shortest_41 at hok
  refine lv_iconst (v := (-1)) hx hb zd_LassoFinderModel_shortest_41 (by decide) ?_
  exact wJ_LassoFinderModel_shortest_42 G K ad  Post C K2 kh2 x1 (-1) y0 I J B D ls H locs hok (lv_sub hl [0, 1] rfl) hw
set_option maxHeartbeats 8000000 in
set_option maxRecDepth 100000 in
theorem wB_LassoFinderModel_shortest_2 {p : Program} {l : Launch} {e : Env} {s : State} {m : MethodId} {below : List Frame} {meth : Method} {c : Code} {A : Nat → Prop} (G : va_G) (K : Nat → ClassId) (ad : Nat → Nat) (Post : Int32 → (Nat → Int32) → (Nat → Int64) → (Nat → Nat → Int32) → (Nat → Nat → Int64) → Prop) (C : zCx p s m ([.ref (ad 0)] : List Value).toArray meth c A G K prog_14_method_61_code (some .int) 8 "LassoFinderModel") (K2 : Int32 → (Nat → Int32) → (Nat → Int64) → (Nat → Nat → Int32) → (Nat → Nat → Int64) → Prop) (kh2 : ∀ (x1 : Int32) (I : Nat → Int32) (J : Nat → Int64) (B : Nat → Nat → Int32) (D : Nat → Nat → Int64) (ls : Array Slot) (H : Heap) (locs : List Loc), K2 x1 I J B D → lv_has ls 8 [(0, .ref (ad 0)), (1, .int x1)] → zW G A s.heap (wM ad K I J B D) H locs → W p l e { frames := 4, cells := 0, slots := 0, locals := 112 } s m ([.ref (ad 0)] : List Value).toArray below meth c H locs 0 0 (MQ below (va_Qi (fun (r : Int32) (u : zS) => Post r u.1 u.2.1 u.2.2.1 u.2.2.2) (fun u t => zPost G K A (wM ad K u.1 u.2.1 u.2.2.1 u.2.2.2) t) A) ([.ref (ad 0)] : List Value).toArray s 0 0 A) (F0 m 2 ls [])) : ∀ (x1 : Int32) (I : Nat → Int32) (J : Nat → Int64) (B : Nat → Nat → Int32) (D : Nat → Nat → Int64) (ls : Array Slot) (H : Heap) (locs : List Loc), wb_LassoFinderModel_shortest_2  K2 Post x1 I J B D → lv_has ls 8 [(0, .ref (ad 0)), (1, .int x1)] → zW G A s.heap (wM ad K I J B D) H locs → W p l e { frames := 4, cells := 0, slots := 0, locals := 112 } s m ([.ref (ad 0)] : List Value).toArray below meth c H locs 0 0 (MQ below (va_Qi (fun (r : Int32) (u : zS) => Post r u.1 u.2.1 u.2.2.1 u.2.2.2) (fun u t => zPost G K A (wM ad K u.1 u.2.1 u.2.2.1 u.2.2.2) t) A) ([.ref (ad 0)] : List Value).toArray s 0 0 A) (F0 m 2 ls []) := by
  obtain ⟨hx, hb, hr, hml, hts, hown, hlocks, hA, hK⟩ := id C
  intro x1 I J B D ls H locs hok hl hw
  unfold wb_LassoFinderModel_shortest_2 at hok
  refine lv_iload_n hx hb zd_LassoFinderModel_shortest_2 rfl (lv_at hl 1 rfl) ?_
  refine lv_bipush (v := 8) hx hb zd_LassoFinderModel_shortest_3 (by decide) ?_
  refine lv_aload_n hx hb zd_LassoFinderModel_shortest_5 rfl (lv_at hl 0 rfl) ?_
  refine z_get (v := .int (I 14)) hx hb hts hown hK hw zZ12 0 wM_g0 44 (by decide) zm_300 rfl zd_LassoFinderModel_shortest_6 ?_
  refine lv_imul hx hb zd_LassoFinderModel_shortest_9 ?_
  refine lv_topi (fun z55 ez55 => ?_)
  have hok := hok z55 ez55
  refine lv_icmp_ge (tgt := 56) hx hb zd_LassoFinderModel_shortest_10 (by decide) (fun hc56 => ?_) (fun hc56 => ?_)
  · have hok := hok.1 hc56
    refine lv_iconst (v := 0) hx hb zd_LassoFinderModel_shortest_56 (by decide) ?_
    refine lv_istore_n hx hb zd_LassoFinderModel_shortest_57 rfl hl (by decide) rfl (fun ls hl => ?_)
    have hl : lv_has ls 8 [(1, .int 0), (0, .ref (ad 0))] := hl
    refine lv_iconst (v := 0) hx hb zd_LassoFinderModel_shortest_58 (by decide) ?_
    refine lv_istore_n hx hb zd_LassoFinderModel_shortest_59 rfl hl (by decide) rfl (fun ls hl => ?_)
    have hl : lv_has ls 8 [(2, .int 0), (1, .int 0), (0, .ref (ad 0))] := hl
    refine lv_iconst (v := 0) hx hb zd_LassoFinderModel_shortest_60 (by decide) ?_
    refine lv_istore_n hx hb zd_LassoFinderModel_shortest_61 rfl hl (by decide) rfl (fun ls hl => ?_)
    have hl : lv_has ls 8 [(3, .int 0), (2, .int 0), (1, .int 0), (0, .ref (ad 0))] := hl
    obtain ⟨n9, hok⟩ := hok
    exact wL_LassoFinderModel_shortest_62 G K ad  Post C n9 0 0 0 I J B D ls H locs hok (lv_sub hl [3, 2, 1, 0] rfl) hw
  · have hok := hok.2 hc56
    refine lv_aload_n hx hb zd_LassoFinderModel_shortest_13 rfl (lv_at hl 0 rfl) ?_
    refine z_get (v := .ref (ad 52)) hx hb hts hown hK hw zZ12 0 wM_g0 75 (by decide) zm_286 rfl zd_LassoFinderModel_shortest_14 ?_
    refine lv_iload_n hx hb zd_LassoFinderModel_shortest_17 rfl (lv_at hl 1 rfl) ?_
    refine lv_iload_n hx hb zd_LassoFinderModel_shortest_18 rfl (lv_at hl 1 rfl) ?_
    refine lv_iconst (v := 1) hx hb zd_LassoFinderModel_shortest_19 (by decide) ?_
    refine lv_aload_n hx hb zd_LassoFinderModel_shortest_20 rfl (lv_at hl 0 rfl) ?_
    refine z_get (v := .int (I 20)) hx hb hts hown hK hw zZ12 0 wM_g0 64 (by decide) zm_356 rfl zd_LassoFinderModel_shortest_21 ?_
    refine lv_ishl hx hb zd_LassoFinderModel_shortest_24 ?_
    refine lv_topi (fun z57 ez57 => ?_)
    have hok := hok z57 ez57
    refine lv_icmp_ge (tgt := 41) hx hb zd_LassoFinderModel_shortest_25 (by decide) (fun hc58 => ?_) (fun hc58 => ?_)
    · have hok := hok.1 hc58
      exact wJ_LassoFinderModel_shortest_41 G K ad  Post C K2 kh2 x1 x1 I J B D ls H locs hok (lv_sub hl [0, 1] rfl) hw
    · have hok := hok.2 hc58
      refine lv_aload_n hx hb zd_LassoFinderModel_shortest_28 rfl (lv_at hl 0 rfl) ?_
      refine lv_iconst (v := 0) hx hb zd_LassoFinderModel_shortest_29 (by decide) ?_
      refine lv_iload_n hx hb zd_LassoFinderModel_shortest_30 rfl (lv_at hl 1 rfl) ?_
      refine z_calli (w1 := fun (u : zS) => wM ad K u.1 u.2.1 u.2.2.1 u.2.2.2) (wr := []) (z_runV (q0 := 0) (wc := (wM ad K I J B D)) (As := [.int 0, .int x1]) (rest := [.int x1, .ref (ad 52)]) ⟨hx, hb, hml, hown, hts⟩ (w_LassoFinderModel_isTrue l G K ad I J B D 0 x1 _ H.size hok) zf_LassoFinderModel_isTrue zm_379 ⟨Nat.le_of_ble_eq_true rfl, Nat.le_of_ble_eq_true rfl⟩ hK hw (List.range 58) wM_all wM_nd wM_g0 rfl rfl hl.1 rfl (Nat.le_of_ble_eq_true rfl) zd_LassoFinderModel_shortest_31 ⟨Nat.le_of_ble_eq_true rfl, Nat.le_of_ble_eq_true rfl⟩) hw hA (List.range 58) [] wM_all rfl (by decide) (fun i hi => by cases hi) (fun r59 u H locs hok hw => ?_)
      obtain ⟨I59, J59, B59, D59⟩ := u
      dsimp only at hok
      have hw : zW G A s.heap (wM ad K I59 J59 B59 D59) H locs := hw
      refine lv_if_ne (tgt := 41) hx hb zd_LassoFinderModel_shortest_34 (by decide) (fun hc60 => ?_) (fun hc60 => ?_)
      · have hok := hok.1 hc60
        exact wJ_LassoFinderModel_shortest_41 G K ad  Post C K2 kh2 x1 x1 I59 J59 B59 D59 ls H locs hok (lv_sub hl [0, 1] rfl) hw
      · have hok := hok.2 hc60
        refine lv_iconst (v := 0) hx hb zd_LassoFinderModel_shortest_37 (by decide) ?_
        refine lv_goto (tgt := 42) hx hb zd_LassoFinderModel_shortest_38 (by decide) ?_
        exact wJ_LassoFinderModel_shortest_42 G K ad  Post C K2 kh2 x1 0 x1 I59 J59 B59 D59 ls H locs hok (lv_sub hl [0, 1] rfl) hw
theorem wL_LassoFinderModel_shortest_2 {p : Program} {l : Launch} {e : Env} {s : State} {m : MethodId} {below : List Frame} {meth : Method} {c : Code} {A : Nat → Prop} (G : va_G) (K : Nat → ClassId) (ad : Nat → Nat) (Post : Int32 → (Nat → Int32) → (Nat → Int64) → (Nat → Nat → Int32) → (Nat → Nat → Int64) → Prop) (C : zCx p s m ([.ref (ad 0)] : List Value).toArray meth c A G K prog_14_method_61_code (some .int) 8 "LassoFinderModel") : ∀ (n : Nat) (x1 : Int32) (I : Nat → Int32) (J : Nat → Int64) (B : Nat → Nat → Int32) (D : Nat → Nat → Int64) (ls : Array Slot) (H : Heap) (locs : List Loc), wl_LassoFinderModel_shortest_2  Post n x1 I J B D → lv_has ls 8 [(0, .ref (ad 0)), (1, .int x1)] → zW G A s.heap (wM ad K I J B D) H locs → W p l e { frames := 4, cells := 0, slots := 0, locals := 112 } s m ([.ref (ad 0)] : List Value).toArray below meth c H locs 0 0 (MQ below (va_Qi (fun (r : Int32) (u : zS) => Post r u.1 u.2.1 u.2.2.1 u.2.2.2) (fun u t => zPost G K A (wM ad K u.1 u.2.1 u.2.2.1 u.2.2.2) t) A) ([.ref (ad 0)] : List Value).toArray s 0 0 A) (F0 m 2 ls []) := by
  intro n
  induction n with
  | zero => intro x1 I J B D ls H locs hok; exact hok.elim
  | succ n ih => exact wB_LassoFinderModel_shortest_2 G K ad  Post C (wl_LassoFinderModel_shortest_2  Post n) ih
set_option maxHeartbeats 8000000 in
set_option maxRecDepth 100000 in
theorem w_LassoFinderModel_shortest (l : Launch) (G : va_G) (K : Nat → ClassId) (ad : Nat → Nat) (I : Nat → Int32) (J : Nat → Int64) (B : Nat → Nat → Int32) (D : Nat → Nat → Int64) (Post : Int32 → (Nat → Int32) → (Nat → Int64) → (Nat → Nat → Int32) → (Nat → Nat → Int64) → Prop) (sz : Nat) (hok : wp_LassoFinderModel_shortest I J B D  Post) : Met l zy_LassoFinderModel_shortest (Cond.code zy_LassoFinderModel_shortest prog_14_method_61_code 8 (some .int) :: zTB) { frames := 4, cells := 0, slots := 0, locals := 112 } (va_Pc [.ref (ad 0)] (zPre G K (wM ad K I J B D) sz)) (va_Qi (fun (r : Int32) (u : zS) => Post r u.1 u.2.1 u.2.2.1 u.2.2.2) (fun u t => zPost G K (va_A (wM ad K I J B D) sz) (wM ad K u.1 u.2.1 u.2.2.1 u.2.2.2) t) (va_A (wM ad K I J B D) sz)) 0 0 (va_A (wM ad K I J B D) sz) := by
  refine zMet (y := zy_LassoFinderModel_shortest) (av := [.ref (ad 0)]) (maxL := 8) (cc := prog_14_method_61_code) (ret := (some .int)) (W0 := (wM ad K I J B D)) (sz := sz) (G := G) (K := K) (wt := zTB) (mc := 0) (ms := 0) (Qf := fun A => va_Qi (fun (r : Int32) (u : zS) => Post r u.1 u.2.1 u.2.2.1 u.2.2.2) (fun u t => zPost G K A (wM ad K u.1 u.2.1 u.2.2.1 u.2.2.2) t) A) (by decide) (Nat.le_of_ble_eq_true rfl) ?_
  intro p e s m below meth c ls A hx hb hr hml hts hown hlocks hin hA hK H locs hw hsz hl
  clear hsz
  have hown : s.vm.findClass "LassoFinderModel" = some m.cls := hown
  have C : zCx p s m ([.ref (ad 0)] : List Value).toArray meth c A G K prog_14_method_61_code (some .int) 8 "LassoFinderModel" := ⟨hx, hb, hr, hml, hts, hown, hlocks, hA, hK⟩
  have hl : lv_has ls 8 [(0, .ref (ad 0))] := hl
  have hw : zW G A s.heap (wM ad K I J B D) H locs := hw
  unfold wp_LassoFinderModel_shortest at hok
  refine lv_iconst (v := 0) hx hb zd_LassoFinderModel_shortest_0 (by decide) ?_
  refine lv_istore_n hx hb zd_LassoFinderModel_shortest_1 rfl hl (by decide) rfl (fun ls hl => ?_)
  have hl : lv_has ls 8 [(1, .int 0), (0, .ref (ad 0))] := hl
  obtain ⟨n9, hok⟩ := hok
  exact wL_LassoFinderModel_shortest_2 G K ad  Post C n9 0 I J B D ls H locs hok (lv_sub hl [1, 0] rfl) hw
