abbrev zy_LassoFinderModel_from : MethodName := ⟨"LassoFinderModel", "from", "(II)I"⟩
abbrev zy_LassoFinderModel_expression : MethodName := ⟨"LassoFinderModel", "expression", "(I)Z"⟩
theorem zm_332 : Cond.methodLink "LassoFinderModel" 209 ⟨"LassoFinderModel", "here", "()I"⟩ ∈ zTB := z_in (zt_7 _ (List.mem_of_getElem? (i := 126) rfl)) rfl
theorem zm_334 : Cond.methodLink "LassoFinderModel" 213 ⟨"LassoFinderModel", "fail", "()Z"⟩ ∈ zTB := z_in (zt_7 _ (List.mem_of_getElem? (i := 138) rfl)) rfl
theorem zm_344 : Cond.methodLink "LassoFinderModel" 231 ⟨"LassoFinderModel", "from", "(II)I"⟩ ∈ zTB := z_in (zt_7 _ (List.mem_of_getElem? (i := 134) rfl)) rfl
theorem zm_350 : Cond.methodLink "LassoFinderModel" 235 ⟨"LassoFinderModel", "settle", "(I)V"⟩ ∈ zTB := z_in (zt_7 _ (List.mem_of_getElem? (i := 182) rfl)) rfl
theorem zm_416 : Cond.code ⟨"LassoFinderModel", "here", "()I"⟩ prog_14_method_5_code 1 (some .int) ∈ zTB := z_in (zt_7 _ (List.mem_of_getElem? (i := 129) rfl)) rfl
theorem zm_417 : Cond.instanceMethod ⟨"LassoFinderModel", "here", "()I"⟩ ∈ zTB := z_in (zt_7 _ (List.mem_of_getElem? (i := 128) rfl)) rfl
theorem zm_418 : Cond.code ⟨"LassoFinderModel", "fail", "()Z"⟩ prog_14_method_6_code 1 (some .boolean) ∈ zTB := z_in (zt_7 _ (List.mem_of_getElem? (i := 141) rfl)) rfl
theorem zm_419 : Cond.instanceMethod ⟨"LassoFinderModel", "fail", "()Z"⟩ ∈ zTB := z_in (zt_7 _ (List.mem_of_getElem? (i := 140) rfl)) rfl
theorem zm_420 : Cond.code ⟨"LassoFinderModel", "settle", "(I)V"⟩ prog_14_method_11_code 2 none ∈ zTB := z_in (zt_7 _ (List.mem_of_getElem? (i := 185) rfl)) rfl
theorem zm_421 : Cond.instanceMethod ⟨"LassoFinderModel", "settle", "(I)V"⟩ ∈ zTB := z_in (zt_7 _ (List.mem_of_getElem? (i := 184) rfl)) rfl
theorem zm_422 : Cond.code ⟨"LassoFinderModel", "from", "(II)I"⟩ prog_14_method_8_code 3 (some .int) ∈ zTB := z_in (zt_7 _ (List.mem_of_getElem? (i := 137) rfl)) rfl
theorem zm_423 : Cond.instanceMethod ⟨"LassoFinderModel", "from", "(II)I"⟩ ∈ zTB := z_in (zt_7 _ (List.mem_of_getElem? (i := 136) rfl)) rfl
theorem zf_LassoFinderModel_here : zFaceV zy_LassoFinderModel_here prog_14_method_5_code 1 (some .int) 0 := ⟨zm_417, (z_in (zp_5 _ (List.mem_of_getElem? (i := 9) rfl)) rfl), zm_25, zm_416, by decide +kernel, by decide +kernel, by decide +kernel⟩
theorem zf_LassoFinderModel_fail : zFaceV zy_LassoFinderModel_fail prog_14_method_6_code 1 (some .boolean) 0 := ⟨zm_419, (z_in (zp_5 _ (List.mem_of_getElem? (i := 12) rfl)) rfl), zm_25, zm_418, by decide +kernel, by decide +kernel, by decide +kernel⟩
theorem zf_LassoFinderModel_settle : zFaceV zy_LassoFinderModel_settle prog_14_method_11_code 2 none 1 := ⟨zm_421, (z_in (zp_6 _ (List.mem_of_getElem? (i := 7) rfl)) rfl), zm_25, zm_420, by decide +kernel, by decide +kernel, by decide +kernel⟩
theorem zf_LassoFinderModel_from : zFaceV zy_LassoFinderModel_from prog_14_method_8_code 3 (some .int) 2 := ⟨zm_423, (z_in (zp_5 _ (List.mem_of_getElem? (i := 11) rfl)) rfl), zm_25, zm_422, by decide +kernel, by decide +kernel, by decide +kernel⟩
theorem zd_LassoFinderModel_expression_0 : decode prog_14_method_12_code 0 = .ok (.iconst 0, 1) := by decide +kernel
theorem zd_LassoFinderModel_expression_1 : decode prog_14_method_12_code 1 = .ok (.istore_n 2, 1) := by decide +kernel
theorem zd_LassoFinderModel_expression_2 : decode prog_14_method_12_code 2 = .ok (.iload_n 1, 1) := by decide +kernel
theorem zd_LassoFinderModel_expression_3 : decode prog_14_method_12_code 3 = .ok (.istore_n 3, 1) := by decide +kernel
theorem zd_LassoFinderModel_expression_4 : decode prog_14_method_12_code 4 = .ok (.iconst 1, 1) := by decide +kernel
theorem zd_LassoFinderModel_expression_5 : decode prog_14_method_12_code 5 = .ok (.istore 4, 2) := by decide +kernel
theorem zd_LassoFinderModel_expression_7 : decode prog_14_method_12_code 7 = .ok (.aload_n 0, 1) := by decide +kernel
theorem zd_LassoFinderModel_expression_8 : decode prog_14_method_12_code 8 = .ok (.iconst 0, 1) := by decide +kernel
theorem zd_LassoFinderModel_expression_9 : decode prog_14_method_12_code 9 = .ok (.putfield 220, 3) := by decide +kernel
theorem zd_LassoFinderModel_expression_12 : decode prog_14_method_12_code 12 = .ok (.iconst 0, 1) := by decide +kernel
theorem zd_LassoFinderModel_expression_13 : decode prog_14_method_12_code 13 = .ok (.istore 5, 2) := by decide +kernel
theorem zd_LassoFinderModel_expression_15 : decode prog_14_method_12_code 15 = .ok (.iload 5, 2) := by decide +kernel
theorem zd_LassoFinderModel_expression_17 : decode prog_14_method_12_code 17 = .ok (.aload_n 0, 1) := by decide +kernel
theorem zd_LassoFinderModel_expression_18 : decode prog_14_method_12_code 18 = .ok (.getfield 200, 3) := by decide +kernel
theorem zd_LassoFinderModel_expression_21 : decode prog_14_method_12_code 21 = .ok (.if_icmp .gt 423, 3) := by decide +kernel
theorem zd_LassoFinderModel_expression_24 : decode prog_14_method_12_code 24 = .ok (.aload_n 0, 1) := by decide +kernel
theorem zd_LassoFinderModel_expression_25 : decode prog_14_method_12_code 25 = .ok (.invokevirtual 209, 3) := by decide +kernel
theorem zd_LassoFinderModel_expression_28 : decode prog_14_method_12_code 28 = .ok (.istore 6, 2) := by decide +kernel
theorem zd_LassoFinderModel_expression_30 : decode prog_14_method_12_code 30 = .ok (.aload_n 0, 1) := by decide +kernel
theorem zd_LassoFinderModel_expression_31 : decode prog_14_method_12_code 31 = .ok (.bipush 97, 2) := by decide +kernel
theorem zd_LassoFinderModel_expression_33 : decode prog_14_method_12_code 33 = .ok (.bipush 8, 2) := by decide +kernel
theorem zd_LassoFinderModel_expression_35 : decode prog_14_method_12_code 35 = .ok (.invokevirtual 231, 3) := by decide +kernel
theorem zd_LassoFinderModel_expression_38 : decode prog_14_method_12_code 38 = .ok (.istore 7, 2) := by decide +kernel
theorem zd_LassoFinderModel_expression_40 : decode prog_14_method_12_code 40 = .ok (.iload 4, 2) := by decide +kernel
theorem zd_LassoFinderModel_expression_42 : decode prog_14_method_12_code 42 = .ok (.ifCond .eq 57, 3) := by decide +kernel
theorem zd_LassoFinderModel_expression_45 : decode prog_14_method_12_code 45 = .ok (.iload 6, 2) := by decide +kernel
theorem zd_LassoFinderModel_expression_47 : decode prog_14_method_12_code 47 = .ok (.bipush 40, 2) := by decide +kernel
theorem zd_LassoFinderModel_expression_49 : decode prog_14_method_12_code 49 = .ok (.if_icmp .ne 50, 3) := by decide +kernel
theorem zd_LassoFinderModel_expression_52 : decode prog_14_method_12_code 52 = .ok (.iload_n 3, 1) := by decide +kernel
theorem zd_LassoFinderModel_expression_53 : decode prog_14_method_12_code 53 = .ok (.iconst 4, 1) := by decide +kernel
theorem zd_LassoFinderModel_expression_54 : decode prog_14_method_12_code 54 = .ok (.if_icmp .ne 8, 3) := by decide +kernel
theorem zd_LassoFinderModel_expression_57 : decode prog_14_method_12_code 57 = .ok (.aload_n 0, 1) := by decide +kernel
theorem zd_LassoFinderModel_expression_58 : decode prog_14_method_12_code 58 = .ok (.invokevirtual 213, 3) := by decide +kernel
theorem zd_LassoFinderModel_expression_61 : decode prog_14_method_12_code 61 = .ok (.ireturn, 1) := by decide +kernel
theorem zd_LassoFinderModel_expression_62 : decode prog_14_method_12_code 62 = .ok (.iinc 3 1, 3) := by decide +kernel
theorem zd_LassoFinderModel_expression_65 : decode prog_14_method_12_code 65 = .ok (.aload_n 0, 1) := by decide +kernel
theorem zd_LassoFinderModel_expression_66 : decode prog_14_method_12_code 66 = .ok (.getfield 103, 3) := by decide +kernel
theorem zd_LassoFinderModel_expression_69 : decode prog_14_method_12_code 69 = .ok (.aload_n 0, 1) := by decide +kernel
theorem zd_LassoFinderModel_expression_70 : decode prog_14_method_12_code 70 = .ok (.getfield 220, 3) := by decide +kernel
theorem zd_LassoFinderModel_expression_73 : decode prog_14_method_12_code 73 = .ok (.bipush 21, 2) := by decide +kernel
theorem zd_LassoFinderModel_expression_75 : decode prog_14_method_12_code 75 = .ok (.iastore, 1) := by decide +kernel
theorem zd_LassoFinderModel_expression_76 : decode prog_14_method_12_code 76 = .ok (.aload_n 0, 1) := by decide +kernel
theorem zd_LassoFinderModel_expression_77 : decode prog_14_method_12_code 77 = .ok (.dup, 1) := by decide +kernel
theorem zd_LassoFinderModel_expression_78 : decode prog_14_method_12_code 78 = .ok (.getfield 220, 3) := by decide +kernel
theorem zd_LassoFinderModel_expression_81 : decode prog_14_method_12_code 81 = .ok (.iconst 1, 1) := by decide +kernel
theorem zd_LassoFinderModel_expression_82 : decode prog_14_method_12_code 82 = .ok (.iadd, 1) := by decide +kernel
theorem zd_LassoFinderModel_expression_83 : decode prog_14_method_12_code 83 = .ok (.putfield 220, 3) := by decide +kernel
theorem zd_LassoFinderModel_expression_86 : decode prog_14_method_12_code 86 = .ok (.aload_n 0, 1) := by decide +kernel
theorem zd_LassoFinderModel_expression_87 : decode prog_14_method_12_code 87 = .ok (.dup, 1) := by decide +kernel
theorem zd_LassoFinderModel_expression_88 : decode prog_14_method_12_code 88 = .ok (.getfield 203, 3) := by decide +kernel
theorem zd_LassoFinderModel_expression_91 : decode prog_14_method_12_code 91 = .ok (.iconst 1, 1) := by decide +kernel
theorem zd_LassoFinderModel_expression_92 : decode prog_14_method_12_code 92 = .ok (.iadd, 1) := by decide +kernel
theorem zd_LassoFinderModel_expression_93 : decode prog_14_method_12_code 93 = .ok (.putfield 203, 3) := by decide +kernel
theorem zd_LassoFinderModel_expression_96 : decode prog_14_method_12_code 96 = .ok (.goto 342, 3) := by decide +kernel
theorem zd_LassoFinderModel_expression_99 : decode prog_14_method_12_code 99 = .ok (.iload 4, 2) := by decide +kernel
theorem zd_LassoFinderModel_expression_101 : decode prog_14_method_12_code 101 = .ok (.ifCond .eq 106, 3) := by decide +kernel
theorem zd_LassoFinderModel_expression_104 : decode prog_14_method_12_code 104 = .ok (.iload 7, 2) := by decide +kernel
theorem zd_LassoFinderModel_expression_106 : decode prog_14_method_12_code 106 = .ok (.ifCond .lt 27, 3) := by decide +kernel
theorem zd_LassoFinderModel_expression_109 : decode prog_14_method_12_code 109 = .ok (.aload_n 0, 1) := by decide +kernel
theorem zd_LassoFinderModel_expression_110 : decode prog_14_method_12_code 110 = .ok (.getfield 17, 3) := by decide +kernel
theorem zd_LassoFinderModel_expression_113 : decode prog_14_method_12_code 113 = .ok (.iload 7, 2) := by decide +kernel
theorem zd_LassoFinderModel_expression_115 : decode prog_14_method_12_code 115 = .ok (.iaload, 1) := by decide +kernel
theorem zd_LassoFinderModel_expression_116 : decode prog_14_method_12_code 116 = .ok (.ifCond .ge 13, 3) := by decide +kernel
theorem zd_LassoFinderModel_expression_119 : decode prog_14_method_12_code 119 = .ok (.aload_n 0, 1) := by decide +kernel
theorem zd_LassoFinderModel_expression_120 : decode prog_14_method_12_code 120 = .ok (.getfield 20, 3) := by decide +kernel
theorem zd_LassoFinderModel_expression_123 : decode prog_14_method_12_code 123 = .ok (.iload 7, 2) := by decide +kernel
theorem zd_LassoFinderModel_expression_125 : decode prog_14_method_12_code 125 = .ok (.iaload, 1) := by decide +kernel
theorem zd_LassoFinderModel_expression_126 : decode prog_14_method_12_code 126 = .ok (.ifCond .lt 7, 3) := by decide +kernel
theorem zd_LassoFinderModel_expression_129 : decode prog_14_method_12_code 129 = .ok (.iconst 1, 1) := by decide +kernel
theorem zd_LassoFinderModel_expression_130 : decode prog_14_method_12_code 130 = .ok (.goto 4, 3) := by decide +kernel
theorem zd_LassoFinderModel_expression_133 : decode prog_14_method_12_code 133 = .ok (.iconst 0, 1) := by decide +kernel
theorem zd_LassoFinderModel_expression_134 : decode prog_14_method_12_code 134 = .ok (.istore 8, 2) := by decide +kernel
theorem zd_LassoFinderModel_expression_136 : decode prog_14_method_12_code 136 = .ok (.iload 8, 2) := by decide +kernel
theorem zd_LassoFinderModel_expression_138 : decode prog_14_method_12_code 138 = .ok (.ifCond .ne 14, 3) := by decide +kernel
theorem zd_LassoFinderModel_expression_141 : decode prog_14_method_12_code 141 = .ok (.aload_n 0, 1) := by decide +kernel
theorem zd_LassoFinderModel_expression_142 : decode prog_14_method_12_code 142 = .ok (.bipush 48, 2) := by decide +kernel
theorem zd_LassoFinderModel_expression_144 : decode prog_14_method_12_code 144 = .ok (.bipush 8, 2) := by decide +kernel
theorem zd_LassoFinderModel_expression_146 : decode prog_14_method_12_code 146 = .ok (.invokevirtual 231, 3) := by decide +kernel
theorem zd_LassoFinderModel_expression_149 : decode prog_14_method_12_code 149 = .ok (.ifCond .lt 9, 3) := by decide +kernel
theorem zd_LassoFinderModel_expression_152 : decode prog_14_method_12_code 152 = .ok (.iload_n 2, 1) := by decide +kernel
theorem zd_LassoFinderModel_expression_153 : decode prog_14_method_12_code 153 = .ok (.bipush 12, 2) := by decide +kernel
theorem zd_LassoFinderModel_expression_155 : decode prog_14_method_12_code 155 = .ok (.if_icmp .ne 8, 3) := by decide +kernel
theorem zd_LassoFinderModel_expression_158 : decode prog_14_method_12_code 158 = .ok (.aload_n 0, 1) := by decide +kernel
theorem zd_LassoFinderModel_expression_159 : decode prog_14_method_12_code 159 = .ok (.invokevirtual 213, 3) := by decide +kernel
theorem zd_LassoFinderModel_expression_162 : decode prog_14_method_12_code 162 = .ok (.ireturn, 1) := by decide +kernel
theorem zd_LassoFinderModel_expression_163 : decode prog_14_method_12_code 163 = .ok (.iinc 2 1, 3) := by decide +kernel
theorem zd_LassoFinderModel_expression_166 : decode prog_14_method_12_code 166 = .ok (.aload_n 0, 1) := by decide +kernel
theorem zd_LassoFinderModel_expression_167 : decode prog_14_method_12_code 167 = .ok (.iload 8, 2) := by decide +kernel
theorem zd_LassoFinderModel_expression_169 : decode prog_14_method_12_code 169 = .ok (.ifCond .eq 11, 3) := by decide +kernel
theorem zd_LassoFinderModel_expression_172 : decode prog_14_method_12_code 172 = .ok (.bipush 8, 2) := by decide +kernel
theorem zd_LassoFinderModel_expression_174 : decode prog_14_method_12_code 174 = .ok (.iload 7, 2) := by decide +kernel
theorem zd_LassoFinderModel_expression_176 : decode prog_14_method_12_code 176 = .ok (.iadd, 1) := by decide +kernel
theorem zd_LassoFinderModel_expression_177 : decode prog_14_method_12_code 177 = .ok (.goto 11, 3) := by decide +kernel
theorem zd_LassoFinderModel_expression_180 : decode prog_14_method_12_code 180 = .ok (.aload_n 0, 1) := by decide +kernel
theorem zd_LassoFinderModel_expression_181 : decode prog_14_method_12_code 181 = .ok (.bipush 48, 2) := by decide +kernel
theorem zd_LassoFinderModel_expression_183 : decode prog_14_method_12_code 183 = .ok (.bipush 8, 2) := by decide +kernel
theorem zd_LassoFinderModel_expression_185 : decode prog_14_method_12_code 185 = .ok (.invokevirtual 231, 3) := by decide +kernel
theorem zd_LassoFinderModel_expression_188 : decode prog_14_method_12_code 188 = .ok (.invokevirtual 227, 3) := by decide +kernel
theorem zd_LassoFinderModel_expression_191 : decode prog_14_method_12_code 191 = .ok (.aload_n 0, 1) := by decide +kernel
theorem zd_LassoFinderModel_expression_192 : decode prog_14_method_12_code 192 = .ok (.dup, 1) := by decide +kernel
theorem zd_LassoFinderModel_expression_193 : decode prog_14_method_12_code 193 = .ok (.getfield 203, 3) := by decide +kernel
theorem zd_LassoFinderModel_expression_196 : decode prog_14_method_12_code 196 = .ok (.iconst 1, 1) := by decide +kernel
theorem zd_LassoFinderModel_expression_197 : decode prog_14_method_12_code 197 = .ok (.iadd, 1) := by decide +kernel
theorem zd_LassoFinderModel_expression_198 : decode prog_14_method_12_code 198 = .ok (.putfield 203, 3) := by decide +kernel
theorem zd_LassoFinderModel_expression_201 : decode prog_14_method_12_code 201 = .ok (.iconst 0, 1) := by decide +kernel
theorem zd_LassoFinderModel_expression_202 : decode prog_14_method_12_code 202 = .ok (.istore 4, 2) := by decide +kernel
theorem zd_LassoFinderModel_expression_204 : decode prog_14_method_12_code 204 = .ok (.goto 234, 3) := by decide +kernel
theorem zd_LassoFinderModel_expression_207 : decode prog_14_method_12_code 207 = .ok (.iload 6, 2) := by decide +kernel
theorem zd_LassoFinderModel_expression_209 : decode prog_14_method_12_code 209 = .ok (.bipush 41, 2) := by decide +kernel
theorem zd_LassoFinderModel_expression_211 : decode prog_14_method_12_code 211 = .ok (.if_icmp .ne 39, 3) := by decide +kernel
theorem zd_LassoFinderModel_expression_214 : decode prog_14_method_12_code 214 = .ok (.iload_n 3, 1) := by decide +kernel
theorem zd_LassoFinderModel_expression_215 : decode prog_14_method_12_code 215 = .ok (.iload_n 1, 1) := by decide +kernel
theorem zd_LassoFinderModel_expression_216 : decode prog_14_method_12_code 216 = .ok (.if_icmp .le 34, 3) := by decide +kernel
theorem zd_LassoFinderModel_expression_219 : decode prog_14_method_12_code 219 = .ok (.aload_n 0, 1) := by decide +kernel
theorem zd_LassoFinderModel_expression_220 : decode prog_14_method_12_code 220 = .ok (.iconst 1, 1) := by decide +kernel
theorem zd_LassoFinderModel_expression_221 : decode prog_14_method_12_code 221 = .ok (.invokevirtual 235, 3) := by decide +kernel
theorem zd_LassoFinderModel_expression_224 : decode prog_14_method_12_code 224 = .ok (.aload_n 0, 1) := by decide +kernel
theorem zd_LassoFinderModel_expression_225 : decode prog_14_method_12_code 225 = .ok (.dup, 1) := by decide +kernel
theorem zd_LassoFinderModel_expression_226 : decode prog_14_method_12_code 226 = .ok (.getfield 220, 3) := by decide +kernel
theorem zd_LassoFinderModel_expression_229 : decode prog_14_method_12_code 229 = .ok (.iconst 1, 1) := by decide +kernel
theorem zd_LassoFinderModel_expression_230 : decode prog_14_method_12_code 230 = .ok (.isub, 1) := by decide +kernel
theorem zd_LassoFinderModel_expression_231 : decode prog_14_method_12_code 231 = .ok (.putfield 220, 3) := by decide +kernel
theorem zd_LassoFinderModel_expression_234 : decode prog_14_method_12_code 234 = .ok (.iinc 3 (-1), 3) := by decide +kernel
theorem zd_LassoFinderModel_expression_237 : decode prog_14_method_12_code 237 = .ok (.aload_n 0, 1) := by decide +kernel
theorem zd_LassoFinderModel_expression_238 : decode prog_14_method_12_code 238 = .ok (.dup, 1) := by decide +kernel
theorem zd_LassoFinderModel_expression_239 : decode prog_14_method_12_code 239 = .ok (.getfield 203, 3) := by decide +kernel
theorem zd_LassoFinderModel_expression_242 : decode prog_14_method_12_code 242 = .ok (.iconst 1, 1) := by decide +kernel
theorem zd_LassoFinderModel_expression_243 : decode prog_14_method_12_code 243 = .ok (.iadd, 1) := by decide +kernel
theorem zd_LassoFinderModel_expression_244 : decode prog_14_method_12_code 244 = .ok (.putfield 203, 3) := by decide +kernel
theorem zd_LassoFinderModel_expression_247 : decode prog_14_method_12_code 247 = .ok (.goto 191, 3) := by decide +kernel
theorem zd_LassoFinderModel_expression_250 : decode prog_14_method_12_code 250 = .ok (.iload 6, 2) := by decide +kernel
theorem zd_LassoFinderModel_expression_252 : decode prog_14_method_12_code 252 = .ok (.bipush 43, 2) := by decide +kernel
theorem zd_LassoFinderModel_expression_254 : decode prog_14_method_12_code 254 = .ok (.if_icmp .ne 8, 3) := by decide +kernel
theorem zd_LassoFinderModel_expression_257 : decode prog_14_method_12_code 257 = .ok (.bipush 16, 2) := by decide +kernel
theorem zd_LassoFinderModel_expression_259 : decode prog_14_method_12_code 259 = .ok (.goto 52, 3) := by decide +kernel
theorem zd_LassoFinderModel_expression_262 : decode prog_14_method_12_code 262 = .ok (.iload 6, 2) := by decide +kernel
theorem zd_LassoFinderModel_expression_264 : decode prog_14_method_12_code 264 = .ok (.bipush 45, 2) := by decide +kernel
theorem zd_LassoFinderModel_expression_266 : decode prog_14_method_12_code 266 = .ok (.if_icmp .ne 8, 3) := by decide +kernel
theorem zd_LassoFinderModel_expression_269 : decode prog_14_method_12_code 269 = .ok (.bipush 17, 2) := by decide +kernel
theorem zd_LassoFinderModel_expression_271 : decode prog_14_method_12_code 271 = .ok (.goto 40, 3) := by decide +kernel
theorem zd_LassoFinderModel_expression_274 : decode prog_14_method_12_code 274 = .ok (.iload 6, 2) := by decide +kernel
theorem zd_LassoFinderModel_expression_276 : decode prog_14_method_12_code 276 = .ok (.bipush 42, 2) := by decide +kernel
theorem zd_LassoFinderModel_expression_278 : decode prog_14_method_12_code 278 = .ok (.if_icmp .ne 8, 3) := by decide +kernel
theorem zd_LassoFinderModel_expression_281 : decode prog_14_method_12_code 281 = .ok (.bipush 18, 2) := by decide +kernel
theorem zd_LassoFinderModel_expression_283 : decode prog_14_method_12_code 283 = .ok (.goto 28, 3) := by decide +kernel
theorem zd_LassoFinderModel_expression_286 : decode prog_14_method_12_code 286 = .ok (.iload 6, 2) := by decide +kernel
theorem zd_LassoFinderModel_expression_288 : decode prog_14_method_12_code 288 = .ok (.bipush 61, 2) := by decide +kernel
theorem zd_LassoFinderModel_expression_290 : decode prog_14_method_12_code 290 = .ok (.if_icmp .ne 8, 3) := by decide +kernel
theorem zd_LassoFinderModel_expression_293 : decode prog_14_method_12_code 293 = .ok (.bipush 19, 2) := by decide +kernel
theorem zd_LassoFinderModel_expression_295 : decode prog_14_method_12_code 295 = .ok (.goto 16, 3) := by decide +kernel
theorem zd_LassoFinderModel_expression_298 : decode prog_14_method_12_code 298 = .ok (.iload 6, 2) := by decide +kernel
theorem zd_LassoFinderModel_expression_300 : decode prog_14_method_12_code 300 = .ok (.bipush 60, 2) := by decide +kernel
theorem zd_LassoFinderModel_expression_302 : decode prog_14_method_12_code 302 = .ok (.if_icmp .ne 8, 3) := by decide +kernel
theorem zd_LassoFinderModel_expression_305 : decode prog_14_method_12_code 305 = .ok (.bipush 20, 2) := by decide +kernel
theorem zd_LassoFinderModel_expression_307 : decode prog_14_method_12_code 307 = .ok (.goto 4, 3) := by decide +kernel
theorem zd_LassoFinderModel_expression_310 : decode prog_14_method_12_code 310 = .ok (.iconst (-1), 1) := by decide +kernel
theorem zd_LassoFinderModel_expression_311 : decode prog_14_method_12_code 311 = .ok (.istore 8, 2) := by decide +kernel
theorem zd_LassoFinderModel_expression_313 : decode prog_14_method_12_code 313 = .ok (.iload 8, 2) := by decide +kernel
theorem zd_LassoFinderModel_expression_315 : decode prog_14_method_12_code 315 = .ok (.ifCond .ge 28, 3) := by decide +kernel
theorem zd_LassoFinderModel_expression_318 : decode prog_14_method_12_code 318 = .ok (.aload_n 0, 1) := by decide +kernel
theorem zd_LassoFinderModel_expression_319 : decode prog_14_method_12_code 319 = .ok (.iconst 1, 1) := by decide +kernel
theorem zd_LassoFinderModel_expression_320 : decode prog_14_method_12_code 320 = .ok (.invokevirtual 235, 3) := by decide +kernel
theorem zd_LassoFinderModel_expression_323 : decode prog_14_method_12_code 323 = .ok (.aload_n 0, 1) := by decide +kernel
theorem zd_LassoFinderModel_expression_324 : decode prog_14_method_12_code 324 = .ok (.getfield 220, 3) := by decide +kernel
theorem zd_LassoFinderModel_expression_327 : decode prog_14_method_12_code 327 = .ok (.ifCond .eq 10, 3) := by decide +kernel
theorem zd_LassoFinderModel_expression_330 : decode prog_14_method_12_code 330 = .ok (.aload_n 0, 1) := by decide +kernel
theorem zd_LassoFinderModel_expression_331 : decode prog_14_method_12_code 331 = .ok (.invokevirtual 213, 3) := by decide +kernel
theorem zd_LassoFinderModel_expression_334 : decode prog_14_method_12_code 334 = .ok (.ifCond .eq 7, 3) := by decide +kernel
theorem zd_LassoFinderModel_expression_337 : decode prog_14_method_12_code 337 = .ok (.iconst 1, 1) := by decide +kernel
theorem zd_LassoFinderModel_expression_338 : decode prog_14_method_12_code 338 = .ok (.goto 4, 3) := by decide +kernel
theorem zd_LassoFinderModel_expression_341 : decode prog_14_method_12_code 341 = .ok (.iconst 0, 1) := by decide +kernel
theorem zd_LassoFinderModel_expression_342 : decode prog_14_method_12_code 342 = .ok (.ireturn, 1) := by decide +kernel
theorem zd_LassoFinderModel_expression_343 : decode prog_14_method_12_code 343 = .ok (.aload_n 0, 1) := by decide +kernel
theorem zd_LassoFinderModel_expression_344 : decode prog_14_method_12_code 344 = .ok (.iload 8, 2) := by decide +kernel
theorem zd_LassoFinderModel_expression_346 : decode prog_14_method_12_code 346 = .ok (.invokestatic 223, 3) := by decide +kernel
theorem zd_LassoFinderModel_expression_349 : decode prog_14_method_12_code 349 = .ok (.iconst 2, 1) := by decide +kernel
theorem zd_LassoFinderModel_expression_350 : decode prog_14_method_12_code 350 = .ok (.if_icmp .ge 7, 3) := by decide +kernel
theorem zd_LassoFinderModel_expression_353 : decode prog_14_method_12_code 353 = .ok (.iconst 2, 1) := by decide +kernel
theorem zd_LassoFinderModel_expression_354 : decode prog_14_method_12_code 354 = .ok (.goto 8, 3) := by decide +kernel
theorem zd_LassoFinderModel_expression_357 : decode prog_14_method_12_code 357 = .ok (.iload 8, 2) := by decide +kernel
theorem zd_LassoFinderModel_expression_359 : decode prog_14_method_12_code 359 = .ok (.invokestatic 223, 3) := by decide +kernel
theorem zd_LassoFinderModel_expression_362 : decode prog_14_method_12_code 362 = .ok (.invokevirtual 235, 3) := by decide +kernel
theorem zd_LassoFinderModel_expression_365 : decode prog_14_method_12_code 365 = .ok (.iload 8, 2) := by decide +kernel
theorem zd_LassoFinderModel_expression_367 : decode prog_14_method_12_code 367 = .ok (.invokestatic 223, 3) := by decide +kernel
theorem zd_LassoFinderModel_expression_370 : decode prog_14_method_12_code 370 = .ok (.iconst 1, 1) := by decide +kernel
theorem zd_LassoFinderModel_expression_371 : decode prog_14_method_12_code 371 = .ok (.if_icmp .ne 33, 3) := by decide +kernel
theorem zd_LassoFinderModel_expression_374 : decode prog_14_method_12_code 374 = .ok (.aload_n 0, 1) := by decide +kernel
theorem zd_LassoFinderModel_expression_375 : decode prog_14_method_12_code 375 = .ok (.getfield 220, 3) := by decide +kernel
theorem zd_LassoFinderModel_expression_378 : decode prog_14_method_12_code 378 = .ok (.ifCond .le 26, 3) := by decide +kernel
theorem zd_LassoFinderModel_expression_381 : decode prog_14_method_12_code 381 = .ok (.aload_n 0, 1) := by decide +kernel
theorem zd_LassoFinderModel_expression_382 : decode prog_14_method_12_code 382 = .ok (.getfield 103, 3) := by decide +kernel
theorem zd_LassoFinderModel_expression_385 : decode prog_14_method_12_code 385 = .ok (.aload_n 0, 1) := by decide +kernel
theorem zd_LassoFinderModel_expression_386 : decode prog_14_method_12_code 386 = .ok (.getfield 220, 3) := by decide +kernel
theorem zd_LassoFinderModel_expression_389 : decode prog_14_method_12_code 389 = .ok (.iconst 1, 1) := by decide +kernel
theorem zd_LassoFinderModel_expression_390 : decode prog_14_method_12_code 390 = .ok (.isub, 1) := by decide +kernel
theorem zd_LassoFinderModel_expression_391 : decode prog_14_method_12_code 391 = .ok (.iaload, 1) := by decide +kernel
theorem zd_LassoFinderModel_expression_392 : decode prog_14_method_12_code 392 = .ok (.invokestatic 223, 3) := by decide +kernel
theorem zd_LassoFinderModel_expression_395 : decode prog_14_method_12_code 395 = .ok (.iconst 1, 1) := by decide +kernel
theorem zd_LassoFinderModel_expression_396 : decode prog_14_method_12_code 396 = .ok (.if_icmp .ne 8, 3) := by decide +kernel
theorem zd_LassoFinderModel_expression_399 : decode prog_14_method_12_code 399 = .ok (.aload_n 0, 1) := by decide +kernel
theorem zd_LassoFinderModel_expression_400 : decode prog_14_method_12_code 400 = .ok (.invokevirtual 213, 3) := by decide +kernel
theorem zd_LassoFinderModel_expression_403 : decode prog_14_method_12_code 403 = .ok (.ireturn, 1) := by decide +kernel
theorem zd_LassoFinderModel_expression_404 : decode prog_14_method_12_code 404 = .ok (.aload_n 0, 1) := by decide +kernel
theorem zd_LassoFinderModel_expression_405 : decode prog_14_method_12_code 405 = .ok (.getfield 103, 3) := by decide +kernel
theorem zd_LassoFinderModel_expression_408 : decode prog_14_method_12_code 408 = .ok (.aload_n 0, 1) := by decide +kernel
theorem zd_LassoFinderModel_expression_409 : decode prog_14_method_12_code 409 = .ok (.getfield 220, 3) := by decide +kernel
theorem zd_LassoFinderModel_expression_412 : decode prog_14_method_12_code 412 = .ok (.iload 8, 2) := by decide +kernel
theorem zd_LassoFinderModel_expression_414 : decode prog_14_method_12_code 414 = .ok (.iastore, 1) := by decide +kernel
theorem zd_LassoFinderModel_expression_415 : decode prog_14_method_12_code 415 = .ok (.aload_n 0, 1) := by decide +kernel
theorem zd_LassoFinderModel_expression_416 : decode prog_14_method_12_code 416 = .ok (.dup, 1) := by decide +kernel
theorem zd_LassoFinderModel_expression_417 : decode prog_14_method_12_code 417 = .ok (.getfield 220, 3) := by decide +kernel
theorem zd_LassoFinderModel_expression_420 : decode prog_14_method_12_code 420 = .ok (.iconst 1, 1) := by decide +kernel
theorem zd_LassoFinderModel_expression_421 : decode prog_14_method_12_code 421 = .ok (.iadd, 1) := by decide +kernel
theorem zd_LassoFinderModel_expression_422 : decode prog_14_method_12_code 422 = .ok (.putfield 220, 3) := by decide +kernel
theorem zd_LassoFinderModel_expression_425 : decode prog_14_method_12_code 425 = .ok (.aload_n 0, 1) := by decide +kernel
theorem zd_LassoFinderModel_expression_426 : decode prog_14_method_12_code 426 = .ok (.dup, 1) := by decide +kernel
theorem zd_LassoFinderModel_expression_427 : decode prog_14_method_12_code 427 = .ok (.getfield 203, 3) := by decide +kernel
theorem zd_LassoFinderModel_expression_430 : decode prog_14_method_12_code 430 = .ok (.iconst 1, 1) := by decide +kernel
theorem zd_LassoFinderModel_expression_431 : decode prog_14_method_12_code 431 = .ok (.iadd, 1) := by decide +kernel
theorem zd_LassoFinderModel_expression_432 : decode prog_14_method_12_code 432 = .ok (.putfield 203, 3) := by decide +kernel
theorem zd_LassoFinderModel_expression_435 : decode prog_14_method_12_code 435 = .ok (.iconst 1, 1) := by decide +kernel
theorem zd_LassoFinderModel_expression_436 : decode prog_14_method_12_code 436 = .ok (.istore 4, 2) := by decide +kernel
theorem zd_LassoFinderModel_expression_438 : decode prog_14_method_12_code 438 = .ok (.iinc 5 1, 3) := by decide +kernel
theorem zd_LassoFinderModel_expression_441 : decode prog_14_method_12_code 441 = .ok (.goto (-426), 3) := by decide +kernel
theorem zd_LassoFinderModel_expression_444 : decode prog_14_method_12_code 444 = .ok (.aload_n 0, 1) := by decide +kernel
theorem zd_LassoFinderModel_expression_445 : decode prog_14_method_12_code 445 = .ok (.invokevirtual 213, 3) := by decide +kernel
theorem zd_LassoFinderModel_expression_448 : decode prog_14_method_12_code 448 = .ok (.ireturn, 1) := by decide +kernel
theorem zd_LassoFinderModel_from_0 : decode prog_14_method_8_code 0 = .ok (.aload_n 0, 1) := by decide +kernel
theorem zd_LassoFinderModel_from_1 : decode prog_14_method_8_code 1 = .ok (.invokevirtual 209, 3) := by decide +kernel
theorem zd_LassoFinderModel_from_4 : decode prog_14_method_8_code 4 = .ok (.iload_n 1, 1) := by decide +kernel
theorem zd_LassoFinderModel_from_5 : decode prog_14_method_8_code 5 = .ok (.isub, 1) := by decide +kernel
theorem zd_LassoFinderModel_from_6 : decode prog_14_method_8_code 6 = .ok (.iconst 0, 1) := by decide +kernel
theorem zd_LassoFinderModel_from_7 : decode prog_14_method_8_code 7 = .ok (.iload_n 2, 1) := by decide +kernel
theorem zd_LassoFinderModel_from_8 : decode prog_14_method_8_code 8 = .ok (.iconst 1, 1) := by decide +kernel
theorem zd_LassoFinderModel_from_9 : decode prog_14_method_8_code 9 = .ok (.isub, 1) := by decide +kernel
theorem zd_LassoFinderModel_from_10 : decode prog_14_method_8_code 10 = .ok (.invokestatic 196, 3) := by decide +kernel
theorem zd_LassoFinderModel_from_13 : decode prog_14_method_8_code 13 = .ok (.ifCond .eq 12, 3) := by decide +kernel
theorem zd_LassoFinderModel_from_16 : decode prog_14_method_8_code 16 = .ok (.aload_n 0, 1) := by decide +kernel
theorem zd_LassoFinderModel_from_17 : decode prog_14_method_8_code 17 = .ok (.invokevirtual 209, 3) := by decide +kernel
theorem zd_LassoFinderModel_from_20 : decode prog_14_method_8_code 20 = .ok (.iload_n 1, 1) := by decide +kernel
theorem zd_LassoFinderModel_from_21 : decode prog_14_method_8_code 21 = .ok (.isub, 1) := by decide +kernel
theorem zd_LassoFinderModel_from_22 : decode prog_14_method_8_code 22 = .ok (.goto 4, 3) := by decide +kernel
theorem zd_LassoFinderModel_from_25 : decode prog_14_method_8_code 25 = .ok (.iconst (-1), 1) := by decide +kernel
theorem zd_LassoFinderModel_from_26 : decode prog_14_method_8_code 26 = .ok (.ireturn, 1) := by decide +kernel
def wc_LassoFinderModel_from_26 (a0 : Int32) (a1 : Int32) (Post : Int32 → (Nat → Int32) → (Nat → Int64) → (Nat → Nat → Int32) → (Nat → Nat → Int64) → Prop) (y0 : Int32) (I : Nat → Int32) (J : Nat → Int64) (B : Nat → Nat → Int32) (D : Nat → Nat → Int64) : Prop :=
  Post y0 I J B D
def wp_LassoFinderModel_from (I : Nat → Int32) (J : Nat → Int64) (B : Nat → Nat → Int32) (D : Nat → Nat → Int64) (a0 : Int32) (a1 : Int32) (Post : Int32 → (Nat → Int32) → (Nat → Int64) → (Nat → Nat → Int32) → (Nat → Nat → Int64) → Prop) : Prop :=
  wp_LassoFinderModel_here I J B D  (fun r1 I1 J1 B1 D1 => ∀ z2 : Int32, z2 = (r1 - a0) → ∀ z3 : Int32, z3 = (a1 - 1) → wp_LassoFinderModel_in I1 J1 B1 D1 z2 0 z3 (fun r4 I4 J4 B4 D4 => ((r4 = 0 → wc_LassoFinderModel_from_26 a0 a1 Post (-1) I4 J4 B4 D4) ∧ (¬ r4 = 0 → wp_LassoFinderModel_here I4 J4 B4 D4  (fun r6 I6 J6 B6 D6 => ∀ z7 : Int32, z7 = (r6 - a0) → wc_LassoFinderModel_from_26 a0 a1 Post z7 I6 J6 B6 D6)))))
set_option maxHeartbeats 8000000 in
set_option maxRecDepth 100000 in
theorem wJ_LassoFinderModel_from_26 {p : Program} {l : Launch} {e : Env} {s : State} {m : MethodId} {below : List Frame} {meth : Method} {c : Code} {A : Nat → Prop} (G : va_G) (K : Nat → ClassId) (ad : Nat → Nat) (a0 : Int32) (a1 : Int32) (Post : Int32 → (Nat → Int32) → (Nat → Int64) → (Nat → Nat → Int32) → (Nat → Nat → Int64) → Prop) (C : zCx p s m ([.ref (ad 0), .int a0, .int a1] : List Value).toArray meth c A G K prog_14_method_8_code (some .int) 3 "LassoFinderModel") : ∀ (y0 : Int32) (I : Nat → Int32) (J : Nat → Int64) (B : Nat → Nat → Int32) (D : Nat → Nat → Int64) (ls : Array Slot) (H : Heap) (locs : List Loc), wc_LassoFinderModel_from_26 a0 a1 Post y0 I J B D → lv_has ls 3 [] → zW G A s.heap (wM ad K I J B D) H locs → W p l e { frames := 1, cells := 0, slots := 0, locals := 22 } s m ([.ref (ad 0), .int a0, .int a1] : List Value).toArray below meth c H locs 0 0 (MQ below (va_Qi (fun (r : Int32) (u : zS) => Post r u.1 u.2.1 u.2.2.1 u.2.2.2) (fun u t => zPost G K A (wM ad K u.1 u.2.1 u.2.2.1 u.2.2.2) t) A) ([.ref (ad 0), .int a0, .int a1] : List Value).toArray s 0 0 A) (F0 m 26 ls [.int y0]) := by
  obtain ⟨hx, hb, hr, hml, hts, hown, hlocks, hA, hK⟩ := id C
  intro y0 I J B D ls H locs hok hl hw
  unfold wc_LassoFinderModel_from_26 at hok
  exact (z_iret (u := (I, J, B, D)) hx hb hr hlocks rfl hw (List.range 58) wM_all wM_nd hok (Nat.le_of_ble_eq_true rfl) (Nat.le_of_ble_eq_true rfl) zd_LassoFinderModel_from_26)
set_option maxHeartbeats 8000000 in
set_option maxRecDepth 100000 in
theorem w_LassoFinderModel_from (l : Launch) (G : va_G) (K : Nat → ClassId) (ad : Nat → Nat) (I : Nat → Int32) (J : Nat → Int64) (B : Nat → Nat → Int32) (D : Nat → Nat → Int64) (a0 : Int32) (a1 : Int32) (Post : Int32 → (Nat → Int32) → (Nat → Int64) → (Nat → Nat → Int32) → (Nat → Nat → Int64) → Prop) (sz : Nat) (hok : wp_LassoFinderModel_from I J B D a0 a1 Post) : Met l zy_LassoFinderModel_from (Cond.code zy_LassoFinderModel_from prog_14_method_8_code 3 (some .int) :: zTB) { frames := 1, cells := 0, slots := 0, locals := 22 } (va_Pc [.ref (ad 0), .int a0, .int a1] (zPre G K (wM ad K I J B D) sz)) (va_Qi (fun (r : Int32) (u : zS) => Post r u.1 u.2.1 u.2.2.1 u.2.2.2) (fun u t => zPost G K (va_A (wM ad K I J B D) sz) (wM ad K u.1 u.2.1 u.2.2.1 u.2.2.2) t) (va_A (wM ad K I J B D) sz)) 0 0 (va_A (wM ad K I J B D) sz) := by
  refine zMet (y := zy_LassoFinderModel_from) (av := [.ref (ad 0), .int a0, .int a1]) (maxL := 3) (cc := prog_14_method_8_code) (ret := (some .int)) (W0 := (wM ad K I J B D)) (sz := sz) (G := G) (K := K) (wt := zTB) (mc := 0) (ms := 0) (Qf := fun A => va_Qi (fun (r : Int32) (u : zS) => Post r u.1 u.2.1 u.2.2.1 u.2.2.2) (fun u t => zPost G K A (wM ad K u.1 u.2.1 u.2.2.1 u.2.2.2) t) A) (by decide) (Nat.le_of_ble_eq_true rfl) ?_
  intro p e s m below meth c ls A hx hb hr hml hts hown hlocks hin hA hK H locs hw hsz hl
  clear hsz
  have hown : s.vm.findClass "LassoFinderModel" = some m.cls := hown
  have C : zCx p s m ([.ref (ad 0), .int a0, .int a1] : List Value).toArray meth c A G K prog_14_method_8_code (some .int) 3 "LassoFinderModel" := ⟨hx, hb, hr, hml, hts, hown, hlocks, hA, hK⟩
  have hl : lv_has ls 3 [(0, .ref (ad 0)), (1, .int a0), (2, .int a1)] := hl
  have hw : zW G A s.heap (wM ad K I J B D) H locs := hw
  unfold wp_LassoFinderModel_from at hok
  refine lv_aload_n hx hb zd_LassoFinderModel_from_0 rfl (lv_at hl 0 rfl) ?_
  refine z_calli (w1 := fun (u : zS) => wM ad K u.1 u.2.1 u.2.2.1 u.2.2.2) (wr := []) (z_runV (q0 := 0) (wc := (wM ad K I J B D)) (As := []) (rest := []) ⟨hx, hb, hml, hown, hts⟩ (w_LassoFinderModel_here l G K ad I J B D  _ H.size hok) zf_LassoFinderModel_here zm_332 ⟨Nat.le_of_ble_eq_true rfl, Nat.le_of_ble_eq_true rfl⟩ hK hw (List.range 58) wM_all wM_nd wM_g0 rfl rfl hl.1 rfl (Nat.le_of_ble_eq_true rfl) zd_LassoFinderModel_from_1 ⟨Nat.le_of_ble_eq_true rfl, Nat.le_of_ble_eq_true rfl⟩) hw hA (List.range 58) [] wM_all rfl (by decide) (fun i hi => by cases hi) (fun r1 u H locs hok hw => ?_)
  obtain ⟨I1, J1, B1, D1⟩ := u
  dsimp only at hok
  have hw : zW G A s.heap (wM ad K I1 J1 B1 D1) H locs := hw
  refine lv_iload_n hx hb zd_LassoFinderModel_from_4 rfl (lv_at hl 1 rfl) ?_
  refine lv_isub hx hb zd_LassoFinderModel_from_5 ?_
  refine lv_topi (fun z2 ez2 => ?_)
  have hok := hok z2 ez2
  refine lv_iconst (v := 0) hx hb zd_LassoFinderModel_from_6 (by decide) ?_
  refine lv_iload_n hx hb zd_LassoFinderModel_from_7 rfl (lv_at hl 2 rfl) ?_
  refine lv_iconst (v := 1) hx hb zd_LassoFinderModel_from_8 (by decide) ?_
  refine lv_isub hx hb zd_LassoFinderModel_from_9 ?_
  refine lv_topi (fun z3 ez3 => ?_)
  have hok := hok z3 ez3
  refine z_calli (w1 := fun (u : zS) => wM ad K u.1 u.2.1 u.2.2.1 u.2.2.2) (wr := []) (z_runS (wc := (wM ad K I1 J1 B1 D1)) (As := [.int z2, .int 0, .int z3]) (rest := []) ⟨hx, hb, hml, hown, hts⟩ (w_LassoFinderModel_in l G K ad I1 J1 B1 D1 z2 0 z3 _ H.size hok) zf_LassoFinderModel_in zm_293 ⟨Nat.le_of_ble_eq_true rfl, Nat.le_of_ble_eq_true rfl⟩ hK hw (List.range 58) wM_all wM_nd rfl hl.1 rfl (Nat.le_of_ble_eq_true rfl) zd_LassoFinderModel_from_10 ⟨Nat.le_of_ble_eq_true rfl, Nat.le_of_ble_eq_true rfl⟩) hw hA (List.range 58) [] wM_all rfl (by decide) (fun i hi => by cases hi) (fun r4 u H locs hok hw => ?_)
  obtain ⟨I4, J4, B4, D4⟩ := u
  dsimp only at hok
  have hw : zW G A s.heap (wM ad K I4 J4 B4 D4) H locs := hw
  refine lv_if_eq (tgt := 25) hx hb zd_LassoFinderModel_from_13 (by decide) (fun hc5 => ?_) (fun hc5 => ?_)
  · have hok := hok.1 hc5
    refine lv_iconst (v := (-1)) hx hb zd_LassoFinderModel_from_25 (by decide) ?_
    exact wJ_LassoFinderModel_from_26 G K ad a0 a1 Post C (-1) I4 J4 B4 D4 ls H locs hok (lv_sub hl [] rfl) hw
  · have hok := hok.2 hc5
    refine lv_aload_n hx hb zd_LassoFinderModel_from_16 rfl (lv_at hl 0 rfl) ?_
    refine z_calli (w1 := fun (u : zS) => wM ad K u.1 u.2.1 u.2.2.1 u.2.2.2) (wr := []) (z_runV (q0 := 0) (wc := (wM ad K I4 J4 B4 D4)) (As := []) (rest := []) ⟨hx, hb, hml, hown, hts⟩ (w_LassoFinderModel_here l G K ad I4 J4 B4 D4  _ H.size hok) zf_LassoFinderModel_here zm_332 ⟨Nat.le_of_ble_eq_true rfl, Nat.le_of_ble_eq_true rfl⟩ hK hw (List.range 58) wM_all wM_nd wM_g0 rfl rfl hl.1 rfl (Nat.le_of_ble_eq_true rfl) zd_LassoFinderModel_from_17 ⟨Nat.le_of_ble_eq_true rfl, Nat.le_of_ble_eq_true rfl⟩) hw hA (List.range 58) [] wM_all rfl (by decide) (fun i hi => by cases hi) (fun r6 u H locs hok hw => ?_)
    obtain ⟨I6, J6, B6, D6⟩ := u
    dsimp only at hok
    have hw : zW G A s.heap (wM ad K I6 J6 B6 D6) H locs := hw
    refine lv_iload_n hx hb zd_LassoFinderModel_from_20 rfl (lv_at hl 1 rfl) ?_
    refine lv_isub hx hb zd_LassoFinderModel_from_21 ?_
    refine lv_topi (fun z7 ez7 => ?_)
    have hok := hok z7 ez7
    refine lv_goto (tgt := 26) hx hb zd_LassoFinderModel_from_22 (by decide) ?_
    exact wJ_LassoFinderModel_from_26 G K ad a0 a1 Post C z7 I6 J6 B6 D6 ls H locs hok (lv_sub hl [] rfl) hw
def wc_LassoFinderModel_expression_438 (a0 : Int32) (K15 : Int32 → Int32 → Int32 → Int32 → Int32 → (Nat → Int32) → (Nat → Int64) → (Nat → Nat → Int32) → (Nat → Nat → Int64) → Prop) (Post : Int32 → (Nat → Int32) → (Nat → Int64) → (Nat → Nat → Int32) → (Nat → Nat → Int64) → Prop) (x1 : Int32) (x2 : Int32) (x3 : Int32) (x4 : Int32) (x5 : Int32) (I : Nat → Int32) (J : Nat → Int64) (B : Nat → Nat → Int32) (D : Nat → Nat → Int64) : Prop :=
  ∀ z1 : Int32, z1 = (x5 + 1) → K15 x1 x2 x3 x4 z1 I J B D
def wc_LassoFinderModel_expression_404 (a0 : Int32) (K15 : Int32 → Int32 → Int32 → Int32 → Int32 → (Nat → Int32) → (Nat → Int64) → (Nat → Nat → Int32) → (Nat → Nat → Int64) → Prop) (Post : Int32 → (Nat → Int32) → (Nat → Int64) → (Nat → Nat → Int32) → (Nat → Nat → Int64) → Prop) (x1 : Int32) (x2 : Int32) (x3 : Int32) (x5 : Int32) (x8 : Int32) (I : Nat → Int32) (J : Nat → Int64) (B : Nat → Nat → Int32) (D : Nat → Nat → Int64) : Prop :=
  vp_in (I 13) 240 ∧ ∀ z2 : Int32, z2 = ((I 13) + 1) → ∀ z3 : Int32, z3 = ((I 2) + 1) → wc_LassoFinderModel_expression_438 a0 K15 Post x1 x2 x3 1 x5 (upd (upd I 13 z2) 2 z3) J (va_up B 28 (upd (B 28) (I 13).toNatClampNeg x8)) D
def wc_LassoFinderModel_expression_362 (a0 : Int32) (K15 : Int32 → Int32 → Int32 → Int32 → Int32 → (Nat → Int32) → (Nat → Int64) → (Nat → Nat → Int32) → (Nat → Nat → Int64) → Prop) (Post : Int32 → (Nat → Int32) → (Nat → Int64) → (Nat → Nat → Int32) → (Nat → Nat → Int64) → Prop) (x1 : Int32) (x2 : Int32) (x3 : Int32) (x5 : Int32) (x8 : Int32) (y0 : Int32) (I : Nat → Int32) (J : Nat → Int64) (B : Nat → Nat → Int32) (D : Nat → Nat → Int64) : Prop :=
  wp_LassoFinderModel_settle I J B D y0 (fun I4 J4 B4 D4 => wp_LassoFinderModel_strength I4 J4 B4 D4 x8 (fun r5 I5 J5 B5 D5 => ((¬ r5 = 1 → wc_LassoFinderModel_expression_404 a0 K15 Post x1 x2 x3 x5 x8 I5 J5 B5 D5) ∧ (r5 = 1 → (((I5 13) ≤ 0 → wc_LassoFinderModel_expression_404 a0 K15 Post x1 x2 x3 x5 x8 I5 J5 B5 D5) ∧ (¬ (I5 13) ≤ 0 → ∀ z8 : Int32, z8 = ((I5 13) - 1) → vp_in z8 240 ∧ ∀ z9 : Int32, z9 = ((B5 28) z8.toNatClampNeg) → wp_LassoFinderModel_strength I5 J5 B5 D5 z9 (fun r10 I10 J10 B10 D10 => ((¬ r10 = 1 → wc_LassoFinderModel_expression_404 a0 K15 Post x1 x2 x3 x5 x8 I10 J10 B10 D10) ∧ (r10 = 1 → wp_LassoFinderModel_fail I10 J10 B10 D10  (fun r12 I12 J12 B12 D12 => (r12 = 0 ∨ r12 = 1) ∧ Post r12 I12 J12 B12 D12))))))))))
def wc_LassoFinderModel_expression_342 (a0 : Int32) (Post : Int32 → (Nat → Int32) → (Nat → Int64) → (Nat → Nat → Int32) → (Nat → Nat → Int64) → Prop) (y0 : Int32) (I : Nat → Int32) (J : Nat → Int64) (B : Nat → Nat → Int32) (D : Nat → Nat → Int64) : Prop :=
  (y0 = 0 ∨ y0 = 1) ∧ Post y0 I J B D
def wc_LassoFinderModel_expression_337 (a0 : Int32) (Post : Int32 → (Nat → Int32) → (Nat → Int64) → (Nat → Nat → Int32) → (Nat → Nat → Int64) → Prop)  (I : Nat → Int32) (J : Nat → Int64) (B : Nat → Nat → Int32) (D : Nat → Nat → Int64) : Prop :=
  wc_LassoFinderModel_expression_342 a0 Post 1 I J B D
def wc_LassoFinderModel_expression_311 (a0 : Int32) (K15 : Int32 → Int32 → Int32 → Int32 → Int32 → (Nat → Int32) → (Nat → Int64) → (Nat → Nat → Int32) → (Nat → Nat → Int64) → Prop) (Post : Int32 → (Nat → Int32) → (Nat → Int64) → (Nat → Nat → Int32) → (Nat → Nat → Int64) → Prop) (x1 : Int32) (x2 : Int32) (x3 : Int32) (x5 : Int32) (y0 : Int32) (I : Nat → Int32) (J : Nat → Int64) (B : Nat → Nat → Int32) (D : Nat → Nat → Int64) : Prop :=
  (((0 : Int32) ≤ y0 → wp_LassoFinderModel_strength I J B D y0 (fun r14 I14 J14 B14 D14 => (((2 : Int32) ≤ r14 → wp_LassoFinderModel_strength I14 J14 B14 D14 y0 (fun r16 I16 J16 B16 D16 => wc_LassoFinderModel_expression_362 a0 K15 Post x1 x2 x3 x5 y0 r16 I16 J16 B16 D16)) ∧ (¬ (2 : Int32) ≤ r14 → wc_LassoFinderModel_expression_362 a0 K15 Post x1 x2 x3 x5 y0 2 I14 J14 B14 D14)))) ∧ (¬ (0 : Int32) ≤ y0 → wp_LassoFinderModel_settle I J B D 1 (fun I17 J17 B17 D17 => (((I17 13) = 0 → wc_LassoFinderModel_expression_337 a0 Post I17 J17 B17 D17) ∧ (¬ (I17 13) = 0 → wp_LassoFinderModel_fail I17 J17 B17 D17  (fun r19 I19 J19 B19 D19 => ((r19 = 0 → wc_LassoFinderModel_expression_342 a0 Post 0 I19 J19 B19 D19) ∧ (¬ r19 = 0 → wc_LassoFinderModel_expression_337 a0 Post I19 J19 B19 D19))))))))
def wc_LassoFinderModel_expression_250 (a0 : Int32) (K15 : Int32 → Int32 → Int32 → Int32 → Int32 → (Nat → Int32) → (Nat → Int64) → (Nat → Nat → Int32) → (Nat → Nat → Int64) → Prop) (Post : Int32 → (Nat → Int32) → (Nat → Int64) → (Nat → Nat → Int32) → (Nat → Nat → Int64) → Prop) (x1 : Int32) (x2 : Int32) (x3 : Int32) (x5 : Int32) (x6 : Int32) (I : Nat → Int32) (J : Nat → Int64) (B : Nat → Nat → Int32) (D : Nat → Nat → Int64) : Prop :=
  ((¬ x6 = 43 → ((¬ x6 = 45 → ((¬ x6 = 42 → ((¬ x6 = 61 → ((¬ x6 = 60 → wc_LassoFinderModel_expression_311 a0 K15 Post x1 x2 x3 x5 (-1) I J B D) ∧ (x6 = 60 → wc_LassoFinderModel_expression_311 a0 K15 Post x1 x2 x3 x5 20 I J B D))) ∧ (x6 = 61 → wc_LassoFinderModel_expression_311 a0 K15 Post x1 x2 x3 x5 19 I J B D))) ∧ (x6 = 42 → wc_LassoFinderModel_expression_311 a0 K15 Post x1 x2 x3 x5 18 I J B D))) ∧ (x6 = 45 → wc_LassoFinderModel_expression_311 a0 K15 Post x1 x2 x3 x5 17 I J B D))) ∧ (x6 = 43 → wc_LassoFinderModel_expression_311 a0 K15 Post x1 x2 x3 x5 16 I J B D))
def wc_LassoFinderModel_expression_188 (a0 : Int32) (K15 : Int32 → Int32 → Int32 → Int32 → Int32 → (Nat → Int32) → (Nat → Int64) → (Nat → Nat → Int32) → (Nat → Nat → Int64) → Prop) (Post : Int32 → (Nat → Int32) → (Nat → Int64) → (Nat → Nat → Int32) → (Nat → Nat → Int64) → Prop) (x1 : Int32) (x2 : Int32) (x3 : Int32) (x5 : Int32) (y0 : Int32) (I : Nat → Int32) (J : Nat → Int64) (B : Nat → Nat → Int32) (D : Nat → Nat → Int64) : Prop :=
  wp_LassoFinderModel_emit I J B D y0 (fun I26 J26 B26 D26 => ∀ z27 : Int32, z27 = ((I26 2) + 1) → wc_LassoFinderModel_expression_438 a0 K15 Post x1 x2 x3 0 x5 (upd I26 2 z27) J26 B26 D26)
def wc_LassoFinderModel_expression_158 (a0 : Int32) (Post : Int32 → (Nat → Int32) → (Nat → Int64) → (Nat → Nat → Int32) → (Nat → Nat → Int64) → Prop)  (I : Nat → Int32) (J : Nat → Int64) (B : Nat → Nat → Int32) (D : Nat → Nat → Int64) : Prop :=
  wp_LassoFinderModel_fail I J B D  (fun r28 I28 J28 B28 D28 => (r28 = 0 ∨ r28 = 1) ∧ Post r28 I28 J28 B28 D28)
def wc_LassoFinderModel_expression_152 (a0 : Int32) (K15 : Int32 → Int32 → Int32 → Int32 → Int32 → (Nat → Int32) → (Nat → Int64) → (Nat → Nat → Int32) → (Nat → Nat → Int64) → Prop) (Post : Int32 → (Nat → Int32) → (Nat → Int64) → (Nat → Nat → Int32) → (Nat → Nat → Int64) → Prop) (x1 : Int32) (x2 : Int32) (x3 : Int32) (x5 : Int32) (x7 : Int32) (x8 : Int32) (I : Nat → Int32) (J : Nat → Int64) (B : Nat → Nat → Int32) (D : Nat → Nat → Int64) : Prop :=
  ((¬ x2 = 12 → ∀ z30 : Int32, z30 = (x2 + 1) → ((x8 = 0 → wp_LassoFinderModel_from I J B D 48 8 (fun r32 I32 J32 B32 D32 => wc_LassoFinderModel_expression_188 a0 K15 Post x1 z30 x3 x5 r32 I32 J32 B32 D32)) ∧ (¬ x8 = 0 → ∀ z33 : Int32, z33 = (8 + x7) → wc_LassoFinderModel_expression_188 a0 K15 Post x1 z30 x3 x5 z33 I J B D))) ∧ (x2 = 12 → wc_LassoFinderModel_expression_158 a0 Post I J B D))
def wc_LassoFinderModel_expression_134 (a0 : Int32) (K15 : Int32 → Int32 → Int32 → Int32 → Int32 → (Nat → Int32) → (Nat → Int64) → (Nat → Nat → Int32) → (Nat → Nat → Int64) → Prop) (Post : Int32 → (Nat → Int32) → (Nat → Int64) → (Nat → Nat → Int32) → (Nat → Nat → Int64) → Prop) (x1 : Int32) (x2 : Int32) (x3 : Int32) (x5 : Int32) (x7 : Int32) (y0 : Int32) (I : Nat → Int32) (J : Nat → Int64) (B : Nat → Nat → Int32) (D : Nat → Nat → Int64) : Prop :=
  ((¬ y0 = 0 → wc_LassoFinderModel_expression_152 a0 K15 Post x1 x2 x3 x5 x7 y0 I J B D) ∧ (y0 = 0 → wp_LassoFinderModel_from I J B D 48 8 (fun r35 I35 J35 B35 D35 => ((r35 < 0 → wc_LassoFinderModel_expression_158 a0 Post I35 J35 B35 D35) ∧ (¬ r35 < 0 → wc_LassoFinderModel_expression_152 a0 K15 Post x1 x2 x3 x5 x7 y0 I35 J35 B35 D35)))))
def wc_LassoFinderModel_expression_133 (a0 : Int32) (K15 : Int32 → Int32 → Int32 → Int32 → Int32 → (Nat → Int32) → (Nat → Int64) → (Nat → Nat → Int32) → (Nat → Nat → Int64) → Prop) (Post : Int32 → (Nat → Int32) → (Nat → Int64) → (Nat → Nat → Int32) → (Nat → Nat → Int64) → Prop) (x1 : Int32) (x2 : Int32) (x3 : Int32) (x5 : Int32) (x7 : Int32) (I : Nat → Int32) (J : Nat → Int64) (B : Nat → Nat → Int32) (D : Nat → Nat → Int64) : Prop :=
  wc_LassoFinderModel_expression_134 a0 K15 Post x1 x2 x3 x5 x7 0 I J B D
def wc_LassoFinderModel_expression_129 (a0 : Int32) (K15 : Int32 → Int32 → Int32 → Int32 → Int32 → (Nat → Int32) → (Nat → Int64) → (Nat → Nat → Int32) → (Nat → Nat → Int64) → Prop) (Post : Int32 → (Nat → Int32) → (Nat → Int64) → (Nat → Nat → Int32) → (Nat → Nat → Int64) → Prop) (x1 : Int32) (x2 : Int32) (x3 : Int32) (x5 : Int32) (x7 : Int32) (I : Nat → Int32) (J : Nat → Int64) (B : Nat → Nat → Int32) (D : Nat → Nat → Int64) : Prop :=
  wc_LassoFinderModel_expression_134 a0 K15 Post x1 x2 x3 x5 x7 1 I J B D
def wc_LassoFinderModel_expression_99 (a0 : Int32) (K15 : Int32 → Int32 → Int32 → Int32 → Int32 → (Nat → Int32) → (Nat → Int64) → (Nat → Nat → Int32) → (Nat → Nat → Int64) → Prop) (Post : Int32 → (Nat → Int32) → (Nat → Int64) → (Nat → Nat → Int32) → (Nat → Nat → Int64) → Prop) (x1 : Int32) (x2 : Int32) (x3 : Int32) (x4 : Int32) (x5 : Int32) (x6 : Int32) (x7 : Int32) (I : Nat → Int32) (J : Nat → Int64) (B : Nat → Nat → Int32) (D : Nat → Nat → Int64) : Prop :=
  ((x4 = 0 → ((¬ x6 = 41 → wc_LassoFinderModel_expression_250 a0 K15 Post x1 x2 x3 x5 x6 I J B D) ∧ (x6 = 41 → ((x3 ≤ x1 → wc_LassoFinderModel_expression_250 a0 K15 Post x1 x2 x3 x5 x6 I J B D) ∧ (¬ x3 ≤ x1 → wp_LassoFinderModel_settle I J B D 1 (fun I40 J40 B40 D40 => ∀ z41 : Int32, z41 = ((I40 13) - 1) → ∀ z42 : Int32, z42 = (x3 + (-1)) → ∀ z43 : Int32, z43 = ((I40 2) + 1) → wc_LassoFinderModel_expression_438 a0 K15 Post x1 x2 z42 x4 x5 (upd (upd I40 13 z41) 2 z43) J40 B40 D40)))))) ∧ (¬ x4 = 0 → ((x7 < 0 → wc_LassoFinderModel_expression_133 a0 K15 Post x1 x2 x3 x5 x7 I J B D) ∧ (¬ x7 < 0 → vp_in x7 8 ∧ ∀ z45 : Int32, z45 = ((B 1) x7.toNatClampNeg) → (((0 : Int32) ≤ z45 → wc_LassoFinderModel_expression_129 a0 K15 Post x1 x2 x3 x5 x7 I J B D) ∧ (¬ (0 : Int32) ≤ z45 → vp_in x7 8 ∧ ∀ z47 : Int32, z47 = ((B 2) x7.toNatClampNeg) → ((z47 < 0 → wc_LassoFinderModel_expression_133 a0 K15 Post x1 x2 x3 x5 x7 I J B D) ∧ (¬ z47 < 0 → wc_LassoFinderModel_expression_129 a0 K15 Post x1 x2 x3 x5 x7 I J B D))))))))
def wb_LassoFinderModel_expression_15 (a0 : Int32) (K15 : Int32 → Int32 → Int32 → Int32 → Int32 → (Nat → Int32) → (Nat → Int64) → (Nat → Nat → Int32) → (Nat → Nat → Int64) → Prop) (Post : Int32 → (Nat → Int32) → (Nat → Int64) → (Nat → Nat → Int32) → (Nat → Nat → Int64) → Prop) (x1 : Int32) (x2 : Int32) (x3 : Int32) (x4 : Int32) (x5 : Int32) (I : Nat → Int32) (J : Nat → Int64) (B : Nat → Nat → Int32) (D : Nat → Nat → Int64) : Prop :=
  (((I 1) < x5 → wp_LassoFinderModel_fail I J B D  (fun r50 I50 J50 B50 D50 => (r50 = 0 ∨ r50 = 1) ∧ Post r50 I50 J50 B50 D50)) ∧ (¬ (I 1) < x5 → wp_LassoFinderModel_here I J B D  (fun r51 I51 J51 B51 D51 => wp_LassoFinderModel_from I51 J51 B51 D51 97 8 (fun r52 I52 J52 B52 D52 => ((x4 = 0 → wc_LassoFinderModel_expression_99 a0 K15 Post x1 x2 x3 x4 x5 r51 r52 I52 J52 B52 D52) ∧ (¬ x4 = 0 → ((¬ r51 = 40 → wc_LassoFinderModel_expression_99 a0 K15 Post x1 x2 x3 x4 x5 r51 r52 I52 J52 B52 D52) ∧ (r51 = 40 → ((¬ x3 = 4 → ∀ z56 : Int32, z56 = (x3 + 1) → vp_in (I52 13) 240 ∧ ∀ z57 : Int32, z57 = ((I52 13) + 1) → ∀ z58 : Int32, z58 = ((I52 2) + 1) → wc_LassoFinderModel_expression_438 a0 K15 Post x1 x2 z56 x4 x5 (upd (upd I52 13 z57) 2 z58) J52 (va_up B52 28 (upd (B52 28) (I52 13).toNatClampNeg 21)) D52) ∧ (x3 = 4 → wp_LassoFinderModel_fail I52 J52 B52 D52  (fun r59 I59 J59 B59 D59 => (r59 = 0 ∨ r59 = 1) ∧ Post r59 I59 J59 B59 D59)))))))))))
def wl_LassoFinderModel_expression_15 (a0 : Int32) (Post : Int32 → (Nat → Int32) → (Nat → Int64) → (Nat → Nat → Int32) → (Nat → Nat → Int64) → Prop) (n : Nat) : Int32 → Int32 → Int32 → Int32 → Int32 → (Nat → Int32) → (Nat → Int64) → (Nat → Nat → Int32) → (Nat → Nat → Int64) → Prop := Nat.rec (fun _ _ _ _ _ _ _ _ _ => False) (fun _ r => wb_LassoFinderModel_expression_15 a0 r Post) n
def wp_LassoFinderModel_expression (I : Nat → Int32) (J : Nat → Int64) (B : Nat → Nat → Int32) (D : Nat → Nat → Int64) (a0 : Int32) (Post : Int32 → (Nat → Int32) → (Nat → Int64) → (Nat → Nat → Int32) → (Nat → Nat → Int64) → Prop) : Prop :=
  ∃ n : Nat, wl_LassoFinderModel_expression_15 a0 Post n a0 0 a0 1 0 (upd I 13 0) J B D
set_option maxHeartbeats 8000000 in
set_option maxRecDepth 100000 in
theorem wJ_LassoFinderModel_expression_438 {p : Program} {l : Launch} {e : Env} {s : State} {m : MethodId} {below : List Frame} {meth : Method} {c : Code} {A : Nat → Prop} (G : va_G) (K : Nat → ClassId) (ad : Nat → Nat) (a0 : Int32) (Post : Int32 → (Nat → Int32) → (Nat → Int64) → (Nat → Nat → Int32) → (Nat → Nat → Int64) → Prop) (C : zCx p s m ([.ref (ad 0), .int a0] : List Value).toArray meth c A G K prog_14_method_12_code (some .boolean) 9 "LassoFinderModel") (K15 : Int32 → Int32 → Int32 → Int32 → Int32 → (Nat → Int32) → (Nat → Int64) → (Nat → Nat → Int32) → (Nat → Nat → Int64) → Prop) (kh15 : ∀ (x1 : Int32) (x2 : Int32) (x3 : Int32) (x4 : Int32) (x5 : Int32) (I : Nat → Int32) (J : Nat → Int64) (B : Nat → Nat → Int32) (D : Nat → Nat → Int64) (ls : Array Slot) (H : Heap) (locs : List Loc), K15 x1 x2 x3 x4 x5 I J B D → lv_has ls 9 [(0, .ref (ad 0)), (1, .int x1), (2, .int x2), (3, .int x3), (4, .int x4), (5, .int x5)] → zW G A s.heap (wM ad K I J B D) H locs → W p l e { frames := 2, cells := 0, slots := 0, locals := 44 } s m ([.ref (ad 0), .int a0] : List Value).toArray below meth c H locs 0 0 (MQ below (va_Qi (fun (r : Int32) (u : zS) => Post r u.1 u.2.1 u.2.2.1 u.2.2.2) (fun u t => zPost G K A (wM ad K u.1 u.2.1 u.2.2.1 u.2.2.2) t) A) ([.ref (ad 0), .int a0] : List Value).toArray s 0 0 A) (F0 m 15 ls [])) : ∀ (x1 : Int32) (x2 : Int32) (x3 : Int32) (x4 : Int32) (x5 : Int32) (I : Nat → Int32) (J : Nat → Int64) (B : Nat → Nat → Int32) (D : Nat → Nat → Int64) (ls : Array Slot) (H : Heap) (locs : List Loc), wc_LassoFinderModel_expression_438 a0 K15 Post x1 x2 x3 x4 x5 I J B D → lv_has ls 9 [(0, .ref (ad 0)), (1, .int x1), (2, .int x2), (3, .int x3), (4, .int x4), (5, .int x5)] → zW G A s.heap (wM ad K I J B D) H locs → W p l e { frames := 2, cells := 0, slots := 0, locals := 44 } s m ([.ref (ad 0), .int a0] : List Value).toArray below meth c H locs 0 0 (MQ below (va_Qi (fun (r : Int32) (u : zS) => Post r u.1 u.2.1 u.2.2.1 u.2.2.2) (fun u t => zPost G K A (wM ad K u.1 u.2.1 u.2.2.1 u.2.2.2) t) A) ([.ref (ad 0), .int a0] : List Value).toArray s 0 0 A) (F0 m 438 ls []) := by
  obtain ⟨hx, hb, hr, hml, hts, hown, hlocks, hA, hK⟩ := id C
  intro x1 x2 x3 x4 x5 I J B D ls H locs hok hl hw
  unfold wc_LassoFinderModel_expression_438 at hok
  obtain ⟨z1, ez1⟩ : ∃ z : Int32, z = (x5 + 1) := ⟨_, rfl⟩
  have hok := hok z1 ez1
  refine lv_iinc (v := z1) hx hb zd_LassoFinderModel_expression_438 hl (k := 5) rfl ez1.symm (by decide) rfl (fun ls hl => ?_)
  have hl : lv_has ls 9 [(5, .int z1), (0, .ref (ad 0)), (1, .int x1), (2, .int x2), (3, .int x3), (4, .int x4)] := hl
  refine lv_goto (tgt := 15) hx hb zd_LassoFinderModel_expression_441 (by decide) ?_
  exact kh15 x1 x2 x3 x4 z1 I J B D ls H locs hok (lv_sub hl [1, 2, 3, 4, 5, 0] rfl) hw
set_option maxHeartbeats 8000000 in
set_option maxRecDepth 100000 in
theorem wJ_LassoFinderModel_expression_404 {p : Program} {l : Launch} {e : Env} {s : State} {m : MethodId} {below : List Frame} {meth : Method} {c : Code} {A : Nat → Prop} (G : va_G) (K : Nat → ClassId) (ad : Nat → Nat) (a0 : Int32) (Post : Int32 → (Nat → Int32) → (Nat → Int64) → (Nat → Nat → Int32) → (Nat → Nat → Int64) → Prop) (C : zCx p s m ([.ref (ad 0), .int a0] : List Value).toArray meth c A G K prog_14_method_12_code (some .boolean) 9 "LassoFinderModel") (K15 : Int32 → Int32 → Int32 → Int32 → Int32 → (Nat → Int32) → (Nat → Int64) → (Nat → Nat → Int32) → (Nat → Nat → Int64) → Prop) (kh15 : ∀ (x1 : Int32) (x2 : Int32) (x3 : Int32) (x4 : Int32) (x5 : Int32) (I : Nat → Int32) (J : Nat → Int64) (B : Nat → Nat → Int32) (D : Nat → Nat → Int64) (ls : Array Slot) (H : Heap) (locs : List Loc), K15 x1 x2 x3 x4 x5 I J B D → lv_has ls 9 [(0, .ref (ad 0)), (1, .int x1), (2, .int x2), (3, .int x3), (4, .int x4), (5, .int x5)] → zW G A s.heap (wM ad K I J B D) H locs → W p l e { frames := 2, cells := 0, slots := 0, locals := 44 } s m ([.ref (ad 0), .int a0] : List Value).toArray below meth c H locs 0 0 (MQ below (va_Qi (fun (r : Int32) (u : zS) => Post r u.1 u.2.1 u.2.2.1 u.2.2.2) (fun u t => zPost G K A (wM ad K u.1 u.2.1 u.2.2.1 u.2.2.2) t) A) ([.ref (ad 0), .int a0] : List Value).toArray s 0 0 A) (F0 m 15 ls [])) : ∀ (x1 : Int32) (x2 : Int32) (x3 : Int32) (x5 : Int32) (x8 : Int32) (I : Nat → Int32) (J : Nat → Int64) (B : Nat → Nat → Int32) (D : Nat → Nat → Int64) (ls : Array Slot) (H : Heap) (locs : List Loc), wc_LassoFinderModel_expression_404 a0 K15 Post x1 x2 x3 x5 x8 I J B D → lv_has ls 9 [(0, .ref (ad 0)), (1, .int x1), (2, .int x2), (3, .int x3), (5, .int x5), (8, .int x8)] → zW G A s.heap (wM ad K I J B D) H locs → W p l e { frames := 2, cells := 0, slots := 0, locals := 44 } s m ([.ref (ad 0), .int a0] : List Value).toArray below meth c H locs 0 0 (MQ below (va_Qi (fun (r : Int32) (u : zS) => Post r u.1 u.2.1 u.2.2.1 u.2.2.2) (fun u t => zPost G K A (wM ad K u.1 u.2.1 u.2.2.1 u.2.2.2) t) A) ([.ref (ad 0), .int a0] : List Value).toArray s 0 0 A) (F0 m 404 ls []) := by
  obtain ⟨hx, hb, hr, hml, hts, hown, hlocks, hA, hK⟩ := id C
  intro x1 x2 x3 x5 x8 I J B D ls H locs hok hl hw
  unfold wc_LassoFinderModel_expression_404 at hok
  refine lv_aload_n hx hb zd_LassoFinderModel_expression_404 rfl (lv_at hl 0 rfl) ?_
  refine z_get (v := .ref (ad 30)) hx hb hts hown hK hw zZ12 0 wM_g0 43 (by decide) zm_264 rfl zd_LassoFinderModel_expression_405 ?_
  refine lv_aload_n hx hb zd_LassoFinderModel_expression_408 rfl (lv_at hl 0 rfl) ?_
  refine z_get (v := .int (I 13)) hx hb hts hown hK hw zZ12 0 wM_g0 42 (by decide) zm_348 rfl zd_LassoFinderModel_expression_409 ?_
  refine lv_iload hx hb zd_LassoFinderModel_expression_412 (lv_at hl 5 rfl) ?_
  refine va_iast (f := (B 28)) hx hb hK hw.1 hw.2.1 hw.2.2 30 0 wM_a30 rfl hok.1 zd_LassoFinderModel_expression_414 (fun H locs w91 w92 w93 => ?_)
  have hok := hok.2
  have hw := wM_t30 ⟨w91, w92, w93⟩
  refine lv_aload_n hx hb zd_LassoFinderModel_expression_415 rfl (lv_at hl 0 rfl) ?_
  refine lv_dup hx hb zd_LassoFinderModel_expression_416 rfl ?_
  refine z_get (v := .int (I 13)) hx hb hts hown hK hw zZ12 0 wM_g0 42 (by decide) zm_348 rfl zd_LassoFinderModel_expression_417 ?_
  refine lv_iconst (v := 1) hx hb zd_LassoFinderModel_expression_420 (by decide) ?_
  refine lv_iadd hx hb zd_LassoFinderModel_expression_421 ?_
  refine lv_topi (fun z2 ez2 => ?_)
  have hok := hok z2 ez2
  refine z_put (v := .int z2) hx hb hts hown hK hw zZ12 0 wM_g0 42 (by decide) zm_348 rfl rfl rfl (Nat.le_of_ble_eq_true rfl) zd_LassoFinderModel_expression_422 (fun H locs hw => ?_)
  have hw := wM_sI13 hw
  refine lv_aload_n hx hb zd_LassoFinderModel_expression_425 rfl (lv_at hl 0 rfl) ?_
  refine lv_dup hx hb zd_LassoFinderModel_expression_426 rfl ?_
  refine z_get (v := .int (I 2)) hx hb hts hown hK hw zZ12 0 wM_g0 3 (by decide) zm_335 rfl zd_LassoFinderModel_expression_427 ?_
  refine lv_iconst (v := 1) hx hb zd_LassoFinderModel_expression_430 (by decide) ?_
  refine lv_iadd hx hb zd_LassoFinderModel_expression_431 ?_
  refine lv_topi (fun z3 ez3 => ?_)
  have hok := hok z3 ez3
  refine z_put (v := .int z3) hx hb hts hown hK hw zZ12 0 wM_g0 3 (by decide) zm_335 rfl rfl rfl (Nat.le_of_ble_eq_true rfl) zd_LassoFinderModel_expression_432 (fun H locs hw => ?_)
  have hw := wM_sI2 hw
  refine lv_iconst (v := 1) hx hb zd_LassoFinderModel_expression_435 (by decide) ?_
  refine lv_istore hx hb zd_LassoFinderModel_expression_436 hl (by decide) rfl (fun ls hl => ?_)
  have hl : lv_has ls 9 [(4, .int 1), (0, .ref (ad 0)), (1, .int x1), (2, .int x2), (3, .int x3), (5, .int x5), (8, .int x8)] := hl
  exact wJ_LassoFinderModel_expression_438 G K ad a0 Post C K15 kh15 x1 x2 x3 1 x5 (upd (upd I 13 z2) 2 z3) J (va_up B 28 (upd (B 28) (I 13).toNatClampNeg x8)) D ls H locs hok (lv_sub hl [1, 2, 3, 4, 0, 5] rfl) hw
set_option maxHeartbeats 8000000 in
set_option maxRecDepth 100000 in
theorem wJ_LassoFinderModel_expression_362 {p : Program} {l : Launch} {e : Env} {s : State} {m : MethodId} {below : List Frame} {meth : Method} {c : Code} {A : Nat → Prop} (G : va_G) (K : Nat → ClassId) (ad : Nat → Nat) (a0 : Int32) (Post : Int32 → (Nat → Int32) → (Nat → Int64) → (Nat → Nat → Int32) → (Nat → Nat → Int64) → Prop) (C : zCx p s m ([.ref (ad 0), .int a0] : List Value).toArray meth c A G K prog_14_method_12_code (some .boolean) 9 "LassoFinderModel") (K15 : Int32 → Int32 → Int32 → Int32 → Int32 → (Nat → Int32) → (Nat → Int64) → (Nat → Nat → Int32) → (Nat → Nat → Int64) → Prop) (kh15 : ∀ (x1 : Int32) (x2 : Int32) (x3 : Int32) (x4 : Int32) (x5 : Int32) (I : Nat → Int32) (J : Nat → Int64) (B : Nat → Nat → Int32) (D : Nat → Nat → Int64) (ls : Array Slot) (H : Heap) (locs : List Loc), K15 x1 x2 x3 x4 x5 I J B D → lv_has ls 9 [(0, .ref (ad 0)), (1, .int x1), (2, .int x2), (3, .int x3), (4, .int x4), (5, .int x5)] → zW G A s.heap (wM ad K I J B D) H locs → W p l e { frames := 2, cells := 0, slots := 0, locals := 44 } s m ([.ref (ad 0), .int a0] : List Value).toArray below meth c H locs 0 0 (MQ below (va_Qi (fun (r : Int32) (u : zS) => Post r u.1 u.2.1 u.2.2.1 u.2.2.2) (fun u t => zPost G K A (wM ad K u.1 u.2.1 u.2.2.1 u.2.2.2) t) A) ([.ref (ad 0), .int a0] : List Value).toArray s 0 0 A) (F0 m 15 ls [])) : ∀ (x1 : Int32) (x2 : Int32) (x3 : Int32) (x5 : Int32) (x8 : Int32) (y0 : Int32) (I : Nat → Int32) (J : Nat → Int64) (B : Nat → Nat → Int32) (D : Nat → Nat → Int64) (ls : Array Slot) (H : Heap) (locs : List Loc), wc_LassoFinderModel_expression_362 a0 K15 Post x1 x2 x3 x5 x8 y0 I J B D → lv_has ls 9 [(0, .ref (ad 0)), (1, .int x1), (2, .int x2), (3, .int x3), (5, .int x5), (8, .int x8)] → zW G A s.heap (wM ad K I J B D) H locs → W p l e { frames := 2, cells := 0, slots := 0, locals := 44 } s m ([.ref (ad 0), .int a0] : List Value).toArray below meth c H locs 0 0 (MQ below (va_Qi (fun (r : Int32) (u : zS) => Post r u.1 u.2.1 u.2.2.1 u.2.2.2) (fun u t => zPost G K A (wM ad K u.1 u.2.1 u.2.2.1 u.2.2.2) t) A) ([.ref (ad 0), .int a0] : List Value).toArray s 0 0 A) (F0 m 362 ls [.int y0, .ref (ad 0)]) := by
  obtain ⟨hx, hb, hr, hml, hts, hown, hlocks, hA, hK⟩ := id C
  intro x1 x2 x3 x5 x8 y0 I J B D ls H locs hok hl hw
  unfold wc_LassoFinderModel_expression_362 at hok
  refine z_callv (w1 := fun (u : zS) => wM ad K u.1 u.2.1 u.2.2.1 u.2.2.2) (wr := []) (z_runV (q0 := 0) (wc := (wM ad K I J B D)) (As := [.int y0]) (rest := []) ⟨hx, hb, hml, hown, hts⟩ (w_LassoFinderModel_settle l G K ad I J B D y0 _ H.size hok) zf_LassoFinderModel_settle zm_350 ⟨Nat.le_of_ble_eq_true rfl, Nat.le_of_ble_eq_true rfl⟩ hK hw (List.range 58) wM_all wM_nd wM_g0 rfl rfl hl.1 rfl (Nat.le_of_ble_eq_true rfl) zd_LassoFinderModel_expression_362 ⟨Nat.le_of_ble_eq_true rfl, Nat.le_of_ble_eq_true rfl⟩) hw hA (List.range 58) [] wM_all rfl (by decide) (fun i hi => by cases hi) (fun u H locs hok hw => ?_)
  obtain ⟨I4, J4, B4, D4⟩ := u
  dsimp only at hok
  have hw : zW G A s.heap (wM ad K I4 J4 B4 D4) H locs := hw
  refine lv_iload hx hb zd_LassoFinderModel_expression_365 (lv_at hl 5 rfl) ?_
  refine z_calli (w1 := fun (u : zS) => wM ad K u.1 u.2.1 u.2.2.1 u.2.2.2) (wr := []) (z_runS (wc := (wM ad K I4 J4 B4 D4)) (As := [.int x8]) (rest := []) ⟨hx, hb, hml, hown, hts⟩ (w_LassoFinderModel_strength l G K ad I4 J4 B4 D4 x8 _ H.size hok) zf_LassoFinderModel_strength zm_351 ⟨Nat.le_of_ble_eq_true rfl, Nat.le_of_ble_eq_true rfl⟩ hK hw (List.range 58) wM_all wM_nd rfl hl.1 rfl (Nat.le_of_ble_eq_true rfl) zd_LassoFinderModel_expression_367 ⟨Nat.le_of_ble_eq_true rfl, Nat.le_of_ble_eq_true rfl⟩) hw hA (List.range 58) [] wM_all rfl (by decide) (fun i hi => by cases hi) (fun r5 u H locs hok hw => ?_)
  obtain ⟨I5, J5, B5, D5⟩ := u
  dsimp only at hok
  have hw : zW G A s.heap (wM ad K I5 J5 B5 D5) H locs := hw
  refine lv_iconst (v := 1) hx hb zd_LassoFinderModel_expression_370 (by decide) ?_
  refine lv_icmp_ne (tgt := 404) hx hb zd_LassoFinderModel_expression_371 (by decide) (fun hc6 => ?_) (fun hc6 => ?_)
  · have hok := hok.1 hc6
    exact wJ_LassoFinderModel_expression_404 G K ad a0 Post C K15 kh15 x1 x2 x3 x5 x8 I5 J5 B5 D5 ls H locs hok (lv_sub hl [0, 1, 2, 3, 4, 5] rfl) hw
  · have hok := hok.2 hc6
    refine lv_aload_n hx hb zd_LassoFinderModel_expression_374 rfl (lv_at hl 0 rfl) ?_
    refine z_get (v := .int (I5 13)) hx hb hts hown hK hw zZ12 0 wM_g0 42 (by decide) zm_348 rfl zd_LassoFinderModel_expression_375 ?_
    refine lv_if_le (tgt := 404) hx hb zd_LassoFinderModel_expression_378 (by decide) (fun hc7 => ?_) (fun hc7 => ?_)
    · have hok := hok.1 hc7
      exact wJ_LassoFinderModel_expression_404 G K ad a0 Post C K15 kh15 x1 x2 x3 x5 x8 I5 J5 B5 D5 ls H locs hok (lv_sub hl [0, 1, 2, 3, 4, 5] rfl) hw
    · have hok := hok.2 hc7
      refine lv_aload_n hx hb zd_LassoFinderModel_expression_381 rfl (lv_at hl 0 rfl) ?_
      refine z_get (v := .ref (ad 30)) hx hb hts hown hK hw zZ12 0 wM_g0 43 (by decide) zm_264 rfl zd_LassoFinderModel_expression_382 ?_
      refine lv_aload_n hx hb zd_LassoFinderModel_expression_385 rfl (lv_at hl 0 rfl) ?_
      refine z_get (v := .int (I5 13)) hx hb hts hown hK hw zZ12 0 wM_g0 42 (by decide) zm_348 rfl zd_LassoFinderModel_expression_386 ?_
      refine lv_iconst (v := 1) hx hb zd_LassoFinderModel_expression_389 (by decide) ?_
      refine lv_isub hx hb zd_LassoFinderModel_expression_390 ?_
      refine lv_topi (fun z8 ez8 => ?_)
      have hok := hok z8 ez8
      refine va_iald (f := (B5 28)) hx hb hK hw.1 30 0 wM_a30 rfl hok.1 zd_LassoFinderModel_expression_391 ?_
      have hok := hok.2
      refine lv_topi (fun z9 ez9 => ?_)
      have hok := hok z9 ez9
      refine z_calli (w1 := fun (u : zS) => wM ad K u.1 u.2.1 u.2.2.1 u.2.2.2) (wr := []) (z_runS (wc := (wM ad K I5 J5 B5 D5)) (As := [.int z9]) (rest := []) ⟨hx, hb, hml, hown, hts⟩ (w_LassoFinderModel_strength l G K ad I5 J5 B5 D5 z9 _ H.size hok) zf_LassoFinderModel_strength zm_351 ⟨Nat.le_of_ble_eq_true rfl, Nat.le_of_ble_eq_true rfl⟩ hK hw (List.range 58) wM_all wM_nd rfl hl.1 rfl (Nat.le_of_ble_eq_true rfl) zd_LassoFinderModel_expression_392 ⟨Nat.le_of_ble_eq_true rfl, Nat.le_of_ble_eq_true rfl⟩) hw hA (List.range 58) [] wM_all rfl (by decide) (fun i hi => by cases hi) (fun r10 u H locs hok hw => ?_)
      obtain ⟨I10, J10, B10, D10⟩ := u
      dsimp only at hok
      have hw : zW G A s.heap (wM ad K I10 J10 B10 D10) H locs := hw
      refine lv_iconst (v := 1) hx hb zd_LassoFinderModel_expression_395 (by decide) ?_
      refine lv_icmp_ne (tgt := 404) hx hb zd_LassoFinderModel_expression_396 (by decide) (fun hc11 => ?_) (fun hc11 => ?_)
      · have hok := hok.1 hc11
        exact wJ_LassoFinderModel_expression_404 G K ad a0 Post C K15 kh15 x1 x2 x3 x5 x8 I10 J10 B10 D10 ls H locs hok (lv_sub hl [0, 1, 2, 3, 4, 5] rfl) hw
      · have hok := hok.2 hc11
        refine lv_aload_n hx hb zd_LassoFinderModel_expression_399 rfl (lv_at hl 0 rfl) ?_
        refine z_calli (w1 := fun (u : zS) => wM ad K u.1 u.2.1 u.2.2.1 u.2.2.2) (wr := []) (z_runV (q0 := 0) (wc := (wM ad K I10 J10 B10 D10)) (As := []) (rest := []) ⟨hx, hb, hml, hown, hts⟩ (w_LassoFinderModel_fail l G K ad I10 J10 B10 D10  _ H.size hok) zf_LassoFinderModel_fail zm_334 ⟨Nat.le_of_ble_eq_true rfl, Nat.le_of_ble_eq_true rfl⟩ hK hw (List.range 58) wM_all wM_nd wM_g0 rfl rfl hl.1 rfl (Nat.le_of_ble_eq_true rfl) zd_LassoFinderModel_expression_400 ⟨Nat.le_of_ble_eq_true rfl, Nat.le_of_ble_eq_true rfl⟩) hw hA (List.range 58) [] wM_all rfl (by decide) (fun i hi => by cases hi) (fun r12 u H locs hok hw => ?_)
        obtain ⟨I12, J12, B12, D12⟩ := u
        dsimp only at hok
        have hw : zW G A s.heap (wM ad K I12 J12 B12 D12) H locs := hw
        have hbo := hok.1
        have hok := hok.2
        exact (z_iret (u := (I12, J12, B12, D12)) hx hb hr hlocks (z_nar hbo) hw (List.range 58) wM_all wM_nd hok (Nat.le_of_ble_eq_true rfl) (Nat.le_of_ble_eq_true rfl) zd_LassoFinderModel_expression_403)
set_option maxHeartbeats 8000000 in
set_option maxRecDepth 100000 in
theorem wJ_LassoFinderModel_expression_342 {p : Program} {l : Launch} {e : Env} {s : State} {m : MethodId} {below : List Frame} {meth : Method} {c : Code} {A : Nat → Prop} (G : va_G) (K : Nat → ClassId) (ad : Nat → Nat) (a0 : Int32) (Post : Int32 → (Nat → Int32) → (Nat → Int64) → (Nat → Nat → Int32) → (Nat → Nat → Int64) → Prop) (C : zCx p s m ([.ref (ad 0), .int a0] : List Value).toArray meth c A G K prog_14_method_12_code (some .boolean) 9 "LassoFinderModel") : ∀ (y0 : Int32) (I : Nat → Int32) (J : Nat → Int64) (B : Nat → Nat → Int32) (D : Nat → Nat → Int64) (ls : Array Slot) (H : Heap) (locs : List Loc), wc_LassoFinderModel_expression_342 a0 Post y0 I J B D → lv_has ls 9 [] → zW G A s.heap (wM ad K I J B D) H locs → W p l e { frames := 2, cells := 0, slots := 0, locals := 44 } s m ([.ref (ad 0), .int a0] : List Value).toArray below meth c H locs 0 0 (MQ below (va_Qi (fun (r : Int32) (u : zS) => Post r u.1 u.2.1 u.2.2.1 u.2.2.2) (fun u t => zPost G K A (wM ad K u.1 u.2.1 u.2.2.1 u.2.2.2) t) A) ([.ref (ad 0), .int a0] : List Value).toArray s 0 0 A) (F0 m 342 ls [.int y0]) := by
  obtain ⟨hx, hb, hr, hml, hts, hown, hlocks, hA, hK⟩ := id C
  intro y0 I J B D ls H locs hok hl hw
  unfold wc_LassoFinderModel_expression_342 at hok
  have hbo := hok.1
  have hok := hok.2
  exact (z_iret (u := (I, J, B, D)) hx hb hr hlocks (z_nar hbo) hw (List.range 58) wM_all wM_nd hok (Nat.le_of_ble_eq_true rfl) (Nat.le_of_ble_eq_true rfl) zd_LassoFinderModel_expression_342)
set_option maxHeartbeats 8000000 in
set_option maxRecDepth 100000 in
theorem wJ_LassoFinderModel_expression_337 {p : Program} {l : Launch} {e : Env} {s : State} {m : MethodId} {below : List Frame} {meth : Method} {c : Code} {A : Nat → Prop} (G : va_G) (K : Nat → ClassId) (ad : Nat → Nat) (a0 : Int32) (Post : Int32 → (Nat → Int32) → (Nat → Int64) → (Nat → Nat → Int32) → (Nat → Nat → Int64) → Prop) (C : zCx p s m ([.ref (ad 0), .int a0] : List Value).toArray meth c A G K prog_14_method_12_code (some .boolean) 9 "LassoFinderModel") : ∀  (I : Nat → Int32) (J : Nat → Int64) (B : Nat → Nat → Int32) (D : Nat → Nat → Int64) (ls : Array Slot) (H : Heap) (locs : List Loc), wc_LassoFinderModel_expression_337 a0 Post  I J B D → lv_has ls 9 [] → zW G A s.heap (wM ad K I J B D) H locs → W p l e { frames := 2, cells := 0, slots := 0, locals := 44 } s m ([.ref (ad 0), .int a0] : List Value).toArray below meth c H locs 0 0 (MQ below (va_Qi (fun (r : Int32) (u : zS) => Post r u.1 u.2.1 u.2.2.1 u.2.2.2) (fun u t => zPost G K A (wM ad K u.1 u.2.1 u.2.2.1 u.2.2.2) t) A) ([.ref (ad 0), .int a0] : List Value).toArray s 0 0 A) (F0 m 337 ls []) := by
  obtain ⟨hx, hb, hr, hml, hts, hown, hlocks, hA, hK⟩ := id C
  intro  I J B D ls H locs hok hl hw
  unfold wc_LassoFinderModel_expression_337 at hok
  refine lv_iconst (v := 1) hx hb zd_LassoFinderModel_expression_337 (by decide) ?_
  refine lv_goto (tgt := 342) hx hb zd_LassoFinderModel_expression_338 (by decide) ?_
  exact wJ_LassoFinderModel_expression_342 G K ad a0 Post C 1 I J B D ls H locs hok (lv_sub hl [] rfl) hw
set_option maxHeartbeats 8000000 in
set_option maxRecDepth 100000 in
theorem wJ_LassoFinderModel_expression_311 {p : Program} {l : Launch} {e : Env} {s : State} {m : MethodId} {below : List Frame} {meth : Method} {c : Code} {A : Nat → Prop} (G : va_G) (K : Nat → ClassId) (ad : Nat → Nat) (a0 : Int32) (Post : Int32 → (Nat → Int32) → (Nat → Int64) → (Nat → Nat → Int32) → (Nat → Nat → Int64) → Prop) (C : zCx p s m ([.ref (ad 0), .int a0] : List Value).toArray meth c A G K prog_14_method_12_code (some .boolean) 9 "LassoFinderModel") (K15 : Int32 → Int32 → Int32 → Int32 → Int32 → (Nat → Int32) → (Nat → Int64) → (Nat → Nat → Int32) → (Nat → Nat → Int64) → Prop) (kh15 : ∀ (x1 : Int32) (x2 : Int32) (x3 : Int32) (x4 : Int32) (x5 : Int32) (I : Nat → Int32) (J : Nat → Int64) (B : Nat → Nat → Int32) (D : Nat → Nat → Int64) (ls : Array Slot) (H : Heap) (locs : List Loc), K15 x1 x2 x3 x4 x5 I J B D → lv_has ls 9 [(0, .ref (ad 0)), (1, .int x1), (2, .int x2), (3, .int x3), (4, .int x4), (5, .int x5)] → zW G A s.heap (wM ad K I J B D) H locs → W p l e { frames := 2, cells := 0, slots := 0, locals := 44 } s m ([.ref (ad 0), .int a0] : List Value).toArray below meth c H locs 0 0 (MQ below (va_Qi (fun (r : Int32) (u : zS) => Post r u.1 u.2.1 u.2.2.1 u.2.2.2) (fun u t => zPost G K A (wM ad K u.1 u.2.1 u.2.2.1 u.2.2.2) t) A) ([.ref (ad 0), .int a0] : List Value).toArray s 0 0 A) (F0 m 15 ls [])) : ∀ (x1 : Int32) (x2 : Int32) (x3 : Int32) (x5 : Int32) (y0 : Int32) (I : Nat → Int32) (J : Nat → Int64) (B : Nat → Nat → Int32) (D : Nat → Nat → Int64) (ls : Array Slot) (H : Heap) (locs : List Loc), wc_LassoFinderModel_expression_311 a0 K15 Post x1 x2 x3 x5 y0 I J B D → lv_has ls 9 [(0, .ref (ad 0)), (1, .int x1), (2, .int x2), (3, .int x3), (5, .int x5)] → zW G A s.heap (wM ad K I J B D) H locs → W p l e { frames := 2, cells := 0, slots := 0, locals := 44 } s m ([.ref (ad 0), .int a0] : List Value).toArray below meth c H locs 0 0 (MQ below (va_Qi (fun (r : Int32) (u : zS) => Post r u.1 u.2.1 u.2.2.1 u.2.2.2) (fun u t => zPost G K A (wM ad K u.1 u.2.1 u.2.2.1 u.2.2.2) t) A) ([.ref (ad 0), .int a0] : List Value).toArray s 0 0 A) (F0 m 311 ls [.int y0]) := by
  obtain ⟨hx, hb, hr, hml, hts, hown, hlocks, hA, hK⟩ := id C
  intro x1 x2 x3 x5 y0 I J B D ls H locs hok hl hw
  unfold wc_LassoFinderModel_expression_311 at hok
  refine lv_istore hx hb zd_LassoFinderModel_expression_311 hl (by decide) rfl (fun ls hl => ?_)
  have hl : lv_has ls 9 [(8, .int y0), (0, .ref (ad 0)), (1, .int x1), (2, .int x2), (3, .int x3), (5, .int x5)] := hl
  refine lv_iload hx hb zd_LassoFinderModel_expression_313 (lv_at hl 0 rfl) ?_
  refine lv_if_ge (tgt := 343) hx hb zd_LassoFinderModel_expression_315 (by decide) (fun hc13 => ?_) (fun hc13 => ?_)
  · have hok := hok.1 hc13
    refine lv_aload_n hx hb zd_LassoFinderModel_expression_343 rfl (lv_at hl 1 rfl) ?_
    refine lv_iload hx hb zd_LassoFinderModel_expression_344 (lv_at hl 0 rfl) ?_
    refine z_calli (w1 := fun (u : zS) => wM ad K u.1 u.2.1 u.2.2.1 u.2.2.2) (wr := []) (z_runS (wc := (wM ad K I J B D)) (As := [.int y0]) (rest := [.ref (ad 0)]) ⟨hx, hb, hml, hown, hts⟩ (w_LassoFinderModel_strength l G K ad I J B D y0 _ H.size hok) zf_LassoFinderModel_strength zm_351 ⟨Nat.le_of_ble_eq_true rfl, Nat.le_of_ble_eq_true rfl⟩ hK hw (List.range 58) wM_all wM_nd rfl hl.1 rfl (Nat.le_of_ble_eq_true rfl) zd_LassoFinderModel_expression_346 ⟨Nat.le_of_ble_eq_true rfl, Nat.le_of_ble_eq_true rfl⟩) hw hA (List.range 58) [] wM_all rfl (by decide) (fun i hi => by cases hi) (fun r14 u H locs hok hw => ?_)
    obtain ⟨I14, J14, B14, D14⟩ := u
    dsimp only at hok
    have hw : zW G A s.heap (wM ad K I14 J14 B14 D14) H locs := hw
    refine lv_iconst (v := 2) hx hb zd_LassoFinderModel_expression_349 (by decide) ?_
    refine lv_icmp_ge (tgt := 357) hx hb zd_LassoFinderModel_expression_350 (by decide) (fun hc15 => ?_) (fun hc15 => ?_)
    · have hok := hok.1 hc15
      refine lv_iload hx hb zd_LassoFinderModel_expression_357 (lv_at hl 0 rfl) ?_
      refine z_calli (w1 := fun (u : zS) => wM ad K u.1 u.2.1 u.2.2.1 u.2.2.2) (wr := []) (z_runS (wc := (wM ad K I14 J14 B14 D14)) (As := [.int y0]) (rest := [.ref (ad 0)]) ⟨hx, hb, hml, hown, hts⟩ (w_LassoFinderModel_strength l G K ad I14 J14 B14 D14 y0 _ H.size hok) zf_LassoFinderModel_strength zm_351 ⟨Nat.le_of_ble_eq_true rfl, Nat.le_of_ble_eq_true rfl⟩ hK hw (List.range 58) wM_all wM_nd rfl hl.1 rfl (Nat.le_of_ble_eq_true rfl) zd_LassoFinderModel_expression_359 ⟨Nat.le_of_ble_eq_true rfl, Nat.le_of_ble_eq_true rfl⟩) hw hA (List.range 58) [] wM_all rfl (by decide) (fun i hi => by cases hi) (fun r16 u H locs hok hw => ?_)
      obtain ⟨I16, J16, B16, D16⟩ := u
      dsimp only at hok
      have hw : zW G A s.heap (wM ad K I16 J16 B16 D16) H locs := hw
      exact wJ_LassoFinderModel_expression_362 G K ad a0 Post C K15 kh15 x1 x2 x3 x5 y0 r16 I16 J16 B16 D16 ls H locs hok (lv_sub hl [1, 2, 3, 4, 5, 0] rfl) hw
    · have hok := hok.2 hc15
      refine lv_iconst (v := 2) hx hb zd_LassoFinderModel_expression_353 (by decide) ?_
      refine lv_goto (tgt := 362) hx hb zd_LassoFinderModel_expression_354 (by decide) ?_
      exact wJ_LassoFinderModel_expression_362 G K ad a0 Post C K15 kh15 x1 x2 x3 x5 y0 2 I14 J14 B14 D14 ls H locs hok (lv_sub hl [1, 2, 3, 4, 5, 0] rfl) hw
  · have hok := hok.2 hc13
    refine lv_aload_n hx hb zd_LassoFinderModel_expression_318 rfl (lv_at hl 1 rfl) ?_
    refine lv_iconst (v := 1) hx hb zd_LassoFinderModel_expression_319 (by decide) ?_
    refine z_callv (w1 := fun (u : zS) => wM ad K u.1 u.2.1 u.2.2.1 u.2.2.2) (wr := []) (z_runV (q0 := 0) (wc := (wM ad K I J B D)) (As := [.int 1]) (rest := []) ⟨hx, hb, hml, hown, hts⟩ (w_LassoFinderModel_settle l G K ad I J B D 1 _ H.size hok) zf_LassoFinderModel_settle zm_350 ⟨Nat.le_of_ble_eq_true rfl, Nat.le_of_ble_eq_true rfl⟩ hK hw (List.range 58) wM_all wM_nd wM_g0 rfl rfl hl.1 rfl (Nat.le_of_ble_eq_true rfl) zd_LassoFinderModel_expression_320 ⟨Nat.le_of_ble_eq_true rfl, Nat.le_of_ble_eq_true rfl⟩) hw hA (List.range 58) [] wM_all rfl (by decide) (fun i hi => by cases hi) (fun u H locs hok hw => ?_)
    obtain ⟨I17, J17, B17, D17⟩ := u
    dsimp only at hok
    have hw : zW G A s.heap (wM ad K I17 J17 B17 D17) H locs := hw
    refine lv_aload_n hx hb zd_LassoFinderModel_expression_323 rfl (lv_at hl 1 rfl) ?_
    refine z_get (v := .int (I17 13)) hx hb hts hown hK hw zZ12 0 wM_g0 42 (by decide) zm_348 rfl zd_LassoFinderModel_expression_324 ?_
    refine lv_if_eq (tgt := 337) hx hb zd_LassoFinderModel_expression_327 (by decide) (fun hc18 => ?_) (fun hc18 => ?_)
    · have hok := hok.1 hc18
      exact wJ_LassoFinderModel_expression_337 G K ad a0 Post C I17 J17 B17 D17 ls H locs hok (lv_sub hl [] rfl) hw
    · have hok := hok.2 hc18
      refine lv_aload_n hx hb zd_LassoFinderModel_expression_330 rfl (lv_at hl 1 rfl) ?_
      refine z_calli (w1 := fun (u : zS) => wM ad K u.1 u.2.1 u.2.2.1 u.2.2.2) (wr := []) (z_runV (q0 := 0) (wc := (wM ad K I17 J17 B17 D17)) (As := []) (rest := []) ⟨hx, hb, hml, hown, hts⟩ (w_LassoFinderModel_fail l G K ad I17 J17 B17 D17  _ H.size hok) zf_LassoFinderModel_fail zm_334 ⟨Nat.le_of_ble_eq_true rfl, Nat.le_of_ble_eq_true rfl⟩ hK hw (List.range 58) wM_all wM_nd wM_g0 rfl rfl hl.1 rfl (Nat.le_of_ble_eq_true rfl) zd_LassoFinderModel_expression_331 ⟨Nat.le_of_ble_eq_true rfl, Nat.le_of_ble_eq_true rfl⟩) hw hA (List.range 58) [] wM_all rfl (by decide) (fun i hi => by cases hi) (fun r19 u H locs hok hw => ?_)
      obtain ⟨I19, J19, B19, D19⟩ := u
      dsimp only at hok
      have hw : zW G A s.heap (wM ad K I19 J19 B19 D19) H locs := hw
      refine lv_if_eq (tgt := 341) hx hb zd_LassoFinderModel_expression_334 (by decide) (fun hc20 => ?_) (fun hc20 => ?_)
      · have hok := hok.1 hc20
        refine lv_iconst (v := 0) hx hb zd_LassoFinderModel_expression_341 (by decide) ?_
        exact wJ_LassoFinderModel_expression_342 G K ad a0 Post C 0 I19 J19 B19 D19 ls H locs hok (lv_sub hl [] rfl) hw
      · have hok := hok.2 hc20
        exact wJ_LassoFinderModel_expression_337 G K ad a0 Post C I19 J19 B19 D19 ls H locs hok (lv_sub hl [] rfl) hw
set_option maxHeartbeats 8000000 in
set_option maxRecDepth 100000 in
theorem wJ_LassoFinderModel_expression_250 {p : Program} {l : Launch} {e : Env} {s : State} {m : MethodId} {below : List Frame} {meth : Method} {c : Code} {A : Nat → Prop} (G : va_G) (K : Nat → ClassId) (ad : Nat → Nat) (a0 : Int32) (Post : Int32 → (Nat → Int32) → (Nat → Int64) → (Nat → Nat → Int32) → (Nat → Nat → Int64) → Prop) (C : zCx p s m ([.ref (ad 0), .int a0] : List Value).toArray meth c A G K prog_14_method_12_code (some .boolean) 9 "LassoFinderModel") (K15 : Int32 → Int32 → Int32 → Int32 → Int32 → (Nat → Int32) → (Nat → Int64) → (Nat → Nat → Int32) → (Nat → Nat → Int64) → Prop) (kh15 : ∀ (x1 : Int32) (x2 : Int32) (x3 : Int32) (x4 : Int32) (x5 : Int32) (I : Nat → Int32) (J : Nat → Int64) (B : Nat → Nat → Int32) (D : Nat → Nat → Int64) (ls : Array Slot) (H : Heap) (locs : List Loc), K15 x1 x2 x3 x4 x5 I J B D → lv_has ls 9 [(0, .ref (ad 0)), (1, .int x1), (2, .int x2), (3, .int x3), (4, .int x4), (5, .int x5)] → zW G A s.heap (wM ad K I J B D) H locs → W p l e { frames := 2, cells := 0, slots := 0, locals := 44 } s m ([.ref (ad 0), .int a0] : List Value).toArray below meth c H locs 0 0 (MQ below (va_Qi (fun (r : Int32) (u : zS) => Post r u.1 u.2.1 u.2.2.1 u.2.2.2) (fun u t => zPost G K A (wM ad K u.1 u.2.1 u.2.2.1 u.2.2.2) t) A) ([.ref (ad 0), .int a0] : List Value).toArray s 0 0 A) (F0 m 15 ls [])) : ∀ (x1 : Int32) (x2 : Int32) (x3 : Int32) (x5 : Int32) (x6 : Int32) (I : Nat → Int32) (J : Nat → Int64) (B : Nat → Nat → Int32) (D : Nat → Nat → Int64) (ls : Array Slot) (H : Heap) (locs : List Loc), wc_LassoFinderModel_expression_250 a0 K15 Post x1 x2 x3 x5 x6 I J B D → lv_has ls 9 [(0, .ref (ad 0)), (1, .int x1), (2, .int x2), (3, .int x3), (5, .int x5), (6, .int x6)] → zW G A s.heap (wM ad K I J B D) H locs → W p l e { frames := 2, cells := 0, slots := 0, locals := 44 } s m ([.ref (ad 0), .int a0] : List Value).toArray below meth c H locs 0 0 (MQ below (va_Qi (fun (r : Int32) (u : zS) => Post r u.1 u.2.1 u.2.2.1 u.2.2.2) (fun u t => zPost G K A (wM ad K u.1 u.2.1 u.2.2.1 u.2.2.2) t) A) ([.ref (ad 0), .int a0] : List Value).toArray s 0 0 A) (F0 m 250 ls []) := by
  obtain ⟨hx, hb, hr, hml, hts, hown, hlocks, hA, hK⟩ := id C
  intro x1 x2 x3 x5 x6 I J B D ls H locs hok hl hw
  unfold wc_LassoFinderModel_expression_250 at hok
  refine lv_iload hx hb zd_LassoFinderModel_expression_250 (lv_at hl 5 rfl) ?_
  refine lv_bipush (v := 43) hx hb zd_LassoFinderModel_expression_252 (by decide) ?_
  refine lv_icmp_ne (tgt := 262) hx hb zd_LassoFinderModel_expression_254 (by decide) (fun hc21 => ?_) (fun hc21 => ?_)
  · have hok := hok.1 hc21
    refine lv_iload hx hb zd_LassoFinderModel_expression_262 (lv_at hl 5 rfl) ?_
    refine lv_bipush (v := 45) hx hb zd_LassoFinderModel_expression_264 (by decide) ?_
    refine lv_icmp_ne (tgt := 274) hx hb zd_LassoFinderModel_expression_266 (by decide) (fun hc22 => ?_) (fun hc22 => ?_)
    · have hok := hok.1 hc22
      refine lv_iload hx hb zd_LassoFinderModel_expression_274 (lv_at hl 5 rfl) ?_
      refine lv_bipush (v := 42) hx hb zd_LassoFinderModel_expression_276 (by decide) ?_
      refine lv_icmp_ne (tgt := 286) hx hb zd_LassoFinderModel_expression_278 (by decide) (fun hc23 => ?_) (fun hc23 => ?_)
      · have hok := hok.1 hc23
        refine lv_iload hx hb zd_LassoFinderModel_expression_286 (lv_at hl 5 rfl) ?_
        refine lv_bipush (v := 61) hx hb zd_LassoFinderModel_expression_288 (by decide) ?_
        refine lv_icmp_ne (tgt := 298) hx hb zd_LassoFinderModel_expression_290 (by decide) (fun hc24 => ?_) (fun hc24 => ?_)
        · have hok := hok.1 hc24
          refine lv_iload hx hb zd_LassoFinderModel_expression_298 (lv_at hl 5 rfl) ?_
          refine lv_bipush (v := 60) hx hb zd_LassoFinderModel_expression_300 (by decide) ?_
          refine lv_icmp_ne (tgt := 310) hx hb zd_LassoFinderModel_expression_302 (by decide) (fun hc25 => ?_) (fun hc25 => ?_)
          · have hok := hok.1 hc25
            refine lv_iconst (v := (-1)) hx hb zd_LassoFinderModel_expression_310 (by decide) ?_
            exact wJ_LassoFinderModel_expression_311 G K ad a0 Post C K15 kh15 x1 x2 x3 x5 (-1) I J B D ls H locs hok (lv_sub hl [0, 1, 2, 3, 4] rfl) hw
          · have hok := hok.2 hc25
            refine lv_bipush (v := 20) hx hb zd_LassoFinderModel_expression_305 (by decide) ?_
            refine lv_goto (tgt := 311) hx hb zd_LassoFinderModel_expression_307 (by decide) ?_
            exact wJ_LassoFinderModel_expression_311 G K ad a0 Post C K15 kh15 x1 x2 x3 x5 20 I J B D ls H locs hok (lv_sub hl [0, 1, 2, 3, 4] rfl) hw
        · have hok := hok.2 hc24
          refine lv_bipush (v := 19) hx hb zd_LassoFinderModel_expression_293 (by decide) ?_
          refine lv_goto (tgt := 311) hx hb zd_LassoFinderModel_expression_295 (by decide) ?_
          exact wJ_LassoFinderModel_expression_311 G K ad a0 Post C K15 kh15 x1 x2 x3 x5 19 I J B D ls H locs hok (lv_sub hl [0, 1, 2, 3, 4] rfl) hw
      · have hok := hok.2 hc23
        refine lv_bipush (v := 18) hx hb zd_LassoFinderModel_expression_281 (by decide) ?_
        refine lv_goto (tgt := 311) hx hb zd_LassoFinderModel_expression_283 (by decide) ?_
        exact wJ_LassoFinderModel_expression_311 G K ad a0 Post C K15 kh15 x1 x2 x3 x5 18 I J B D ls H locs hok (lv_sub hl [0, 1, 2, 3, 4] rfl) hw
    · have hok := hok.2 hc22
      refine lv_bipush (v := 17) hx hb zd_LassoFinderModel_expression_269 (by decide) ?_
      refine lv_goto (tgt := 311) hx hb zd_LassoFinderModel_expression_271 (by decide) ?_
      exact wJ_LassoFinderModel_expression_311 G K ad a0 Post C K15 kh15 x1 x2 x3 x5 17 I J B D ls H locs hok (lv_sub hl [0, 1, 2, 3, 4] rfl) hw
  · have hok := hok.2 hc21
    refine lv_bipush (v := 16) hx hb zd_LassoFinderModel_expression_257 (by decide) ?_
    refine lv_goto (tgt := 311) hx hb zd_LassoFinderModel_expression_259 (by decide) ?_
    exact wJ_LassoFinderModel_expression_311 G K ad a0 Post C K15 kh15 x1 x2 x3 x5 16 I J B D ls H locs hok (lv_sub hl [0, 1, 2, 3, 4] rfl) hw
set_option maxHeartbeats 8000000 in
set_option maxRecDepth 100000 in
theorem wJ_LassoFinderModel_expression_188 {p : Program} {l : Launch} {e : Env} {s : State} {m : MethodId} {below : List Frame} {meth : Method} {c : Code} {A : Nat → Prop} (G : va_G) (K : Nat → ClassId) (ad : Nat → Nat) (a0 : Int32) (Post : Int32 → (Nat → Int32) → (Nat → Int64) → (Nat → Nat → Int32) → (Nat → Nat → Int64) → Prop) (C : zCx p s m ([.ref (ad 0), .int a0] : List Value).toArray meth c A G K prog_14_method_12_code (some .boolean) 9 "LassoFinderModel") (K15 : Int32 → Int32 → Int32 → Int32 → Int32 → (Nat → Int32) → (Nat → Int64) → (Nat → Nat → Int32) → (Nat → Nat → Int64) → Prop) (kh15 : ∀ (x1 : Int32) (x2 : Int32) (x3 : Int32) (x4 : Int32) (x5 : Int32) (I : Nat → Int32) (J : Nat → Int64) (B : Nat → Nat → Int32) (D : Nat → Nat → Int64) (ls : Array Slot) (H : Heap) (locs : List Loc), K15 x1 x2 x3 x4 x5 I J B D → lv_has ls 9 [(0, .ref (ad 0)), (1, .int x1), (2, .int x2), (3, .int x3), (4, .int x4), (5, .int x5)] → zW G A s.heap (wM ad K I J B D) H locs → W p l e { frames := 2, cells := 0, slots := 0, locals := 44 } s m ([.ref (ad 0), .int a0] : List Value).toArray below meth c H locs 0 0 (MQ below (va_Qi (fun (r : Int32) (u : zS) => Post r u.1 u.2.1 u.2.2.1 u.2.2.2) (fun u t => zPost G K A (wM ad K u.1 u.2.1 u.2.2.1 u.2.2.2) t) A) ([.ref (ad 0), .int a0] : List Value).toArray s 0 0 A) (F0 m 15 ls [])) : ∀ (x1 : Int32) (x2 : Int32) (x3 : Int32) (x5 : Int32) (y0 : Int32) (I : Nat → Int32) (J : Nat → Int64) (B : Nat → Nat → Int32) (D : Nat → Nat → Int64) (ls : Array Slot) (H : Heap) (locs : List Loc), wc_LassoFinderModel_expression_188 a0 K15 Post x1 x2 x3 x5 y0 I J B D → lv_has ls 9 [(0, .ref (ad 0)), (1, .int x1), (2, .int x2), (3, .int x3), (5, .int x5)] → zW G A s.heap (wM ad K I J B D) H locs → W p l e { frames := 2, cells := 0, slots := 0, locals := 44 } s m ([.ref (ad 0), .int a0] : List Value).toArray below meth c H locs 0 0 (MQ below (va_Qi (fun (r : Int32) (u : zS) => Post r u.1 u.2.1 u.2.2.1 u.2.2.2) (fun u t => zPost G K A (wM ad K u.1 u.2.1 u.2.2.1 u.2.2.2) t) A) ([.ref (ad 0), .int a0] : List Value).toArray s 0 0 A) (F0 m 188 ls [.int y0, .ref (ad 0)]) := by
  obtain ⟨hx, hb, hr, hml, hts, hown, hlocks, hA, hK⟩ := id C
  intro x1 x2 x3 x5 y0 I J B D ls H locs hok hl hw
  unfold wc_LassoFinderModel_expression_188 at hok
  refine z_callv (w1 := fun (u : zS) => wM ad K u.1 u.2.1 u.2.2.1 u.2.2.2) (wr := []) (z_runV (q0 := 0) (wc := (wM ad K I J B D)) (As := [.int y0]) (rest := []) ⟨hx, hb, hml, hown, hts⟩ (w_LassoFinderModel_emit l G K ad I J B D y0 _ H.size hok) zf_LassoFinderModel_emit zm_349 ⟨Nat.le_of_ble_eq_true rfl, Nat.le_of_ble_eq_true rfl⟩ hK hw (List.range 58) wM_all wM_nd wM_g0 rfl rfl hl.1 rfl (Nat.le_of_ble_eq_true rfl) zd_LassoFinderModel_expression_188 ⟨Nat.le_of_ble_eq_true rfl, Nat.le_of_ble_eq_true rfl⟩) hw hA (List.range 58) [] wM_all rfl (by decide) (fun i hi => by cases hi) (fun u H locs hok hw => ?_)
  obtain ⟨I26, J26, B26, D26⟩ := u
  dsimp only at hok
  have hw : zW G A s.heap (wM ad K I26 J26 B26 D26) H locs := hw
  refine lv_aload_n hx hb zd_LassoFinderModel_expression_191 rfl (lv_at hl 0 rfl) ?_
  refine lv_dup hx hb zd_LassoFinderModel_expression_192 rfl ?_
  refine z_get (v := .int (I26 2)) hx hb hts hown hK hw zZ12 0 wM_g0 3 (by decide) zm_335 rfl zd_LassoFinderModel_expression_193 ?_
  refine lv_iconst (v := 1) hx hb zd_LassoFinderModel_expression_196 (by decide) ?_
  refine lv_iadd hx hb zd_LassoFinderModel_expression_197 ?_
  refine lv_topi (fun z27 ez27 => ?_)
  have hok := hok z27 ez27
  refine z_put (v := .int z27) hx hb hts hown hK hw zZ12 0 wM_g0 3 (by decide) zm_335 rfl rfl rfl (Nat.le_of_ble_eq_true rfl) zd_LassoFinderModel_expression_198 (fun H locs hw => ?_)
  have hw := wM_sI2 hw
  refine lv_iconst (v := 0) hx hb zd_LassoFinderModel_expression_201 (by decide) ?_
  refine lv_istore hx hb zd_LassoFinderModel_expression_202 hl (by decide) rfl (fun ls hl => ?_)
  have hl : lv_has ls 9 [(4, .int 0), (0, .ref (ad 0)), (1, .int x1), (2, .int x2), (3, .int x3), (5, .int x5)] := hl
  refine lv_goto (tgt := 438) hx hb zd_LassoFinderModel_expression_204 (by decide) ?_
  exact wJ_LassoFinderModel_expression_438 G K ad a0 Post C K15 kh15 x1 x2 x3 0 x5 (upd I26 2 z27) J26 B26 D26 ls H locs hok (lv_sub hl [1, 2, 3, 4, 0, 5] rfl) hw
set_option maxHeartbeats 8000000 in
set_option maxRecDepth 100000 in
theorem wJ_LassoFinderModel_expression_158 {p : Program} {l : Launch} {e : Env} {s : State} {m : MethodId} {below : List Frame} {meth : Method} {c : Code} {A : Nat → Prop} (G : va_G) (K : Nat → ClassId) (ad : Nat → Nat) (a0 : Int32) (Post : Int32 → (Nat → Int32) → (Nat → Int64) → (Nat → Nat → Int32) → (Nat → Nat → Int64) → Prop) (C : zCx p s m ([.ref (ad 0), .int a0] : List Value).toArray meth c A G K prog_14_method_12_code (some .boolean) 9 "LassoFinderModel") : ∀  (I : Nat → Int32) (J : Nat → Int64) (B : Nat → Nat → Int32) (D : Nat → Nat → Int64) (ls : Array Slot) (H : Heap) (locs : List Loc), wc_LassoFinderModel_expression_158 a0 Post  I J B D → lv_has ls 9 [(0, .ref (ad 0))] → zW G A s.heap (wM ad K I J B D) H locs → W p l e { frames := 2, cells := 0, slots := 0, locals := 44 } s m ([.ref (ad 0), .int a0] : List Value).toArray below meth c H locs 0 0 (MQ below (va_Qi (fun (r : Int32) (u : zS) => Post r u.1 u.2.1 u.2.2.1 u.2.2.2) (fun u t => zPost G K A (wM ad K u.1 u.2.1 u.2.2.1 u.2.2.2) t) A) ([.ref (ad 0), .int a0] : List Value).toArray s 0 0 A) (F0 m 158 ls []) := by
  obtain ⟨hx, hb, hr, hml, hts, hown, hlocks, hA, hK⟩ := id C
  intro  I J B D ls H locs hok hl hw
  unfold wc_LassoFinderModel_expression_158 at hok
  refine lv_aload_n hx hb zd_LassoFinderModel_expression_158 rfl (lv_at hl 0 rfl) ?_
  refine z_calli (w1 := fun (u : zS) => wM ad K u.1 u.2.1 u.2.2.1 u.2.2.2) (wr := []) (z_runV (q0 := 0) (wc := (wM ad K I J B D)) (As := []) (rest := []) ⟨hx, hb, hml, hown, hts⟩ (w_LassoFinderModel_fail l G K ad I J B D  _ H.size hok) zf_LassoFinderModel_fail zm_334 ⟨Nat.le_of_ble_eq_true rfl, Nat.le_of_ble_eq_true rfl⟩ hK hw (List.range 58) wM_all wM_nd wM_g0 rfl rfl hl.1 rfl (Nat.le_of_ble_eq_true rfl) zd_LassoFinderModel_expression_159 ⟨Nat.le_of_ble_eq_true rfl, Nat.le_of_ble_eq_true rfl⟩) hw hA (List.range 58) [] wM_all rfl (by decide) (fun i hi => by cases hi) (fun r28 u H locs hok hw => ?_)
  obtain ⟨I28, J28, B28, D28⟩ := u
  dsimp only at hok
  have hw : zW G A s.heap (wM ad K I28 J28 B28 D28) H locs := hw
  have hbo := hok.1
  have hok := hok.2
  exact (z_iret (u := (I28, J28, B28, D28)) hx hb hr hlocks (z_nar hbo) hw (List.range 58) wM_all wM_nd hok (Nat.le_of_ble_eq_true rfl) (Nat.le_of_ble_eq_true rfl) zd_LassoFinderModel_expression_162)
set_option maxHeartbeats 8000000 in
set_option maxRecDepth 100000 in
theorem wJ_LassoFinderModel_expression_152 {p : Program} {l : Launch} {e : Env} {s : State} {m : MethodId} {below : List Frame} {meth : Method} {c : Code} {A : Nat → Prop} (G : va_G) (K : Nat → ClassId) (ad : Nat → Nat) (a0 : Int32) (Post : Int32 → (Nat → Int32) → (Nat → Int64) → (Nat → Nat → Int32) → (Nat → Nat → Int64) → Prop) (C : zCx p s m ([.ref (ad 0), .int a0] : List Value).toArray meth c A G K prog_14_method_12_code (some .boolean) 9 "LassoFinderModel") (K15 : Int32 → Int32 → Int32 → Int32 → Int32 → (Nat → Int32) → (Nat → Int64) → (Nat → Nat → Int32) → (Nat → Nat → Int64) → Prop) (kh15 : ∀ (x1 : Int32) (x2 : Int32) (x3 : Int32) (x4 : Int32) (x5 : Int32) (I : Nat → Int32) (J : Nat → Int64) (B : Nat → Nat → Int32) (D : Nat → Nat → Int64) (ls : Array Slot) (H : Heap) (locs : List Loc), K15 x1 x2 x3 x4 x5 I J B D → lv_has ls 9 [(0, .ref (ad 0)), (1, .int x1), (2, .int x2), (3, .int x3), (4, .int x4), (5, .int x5)] → zW G A s.heap (wM ad K I J B D) H locs → W p l e { frames := 2, cells := 0, slots := 0, locals := 44 } s m ([.ref (ad 0), .int a0] : List Value).toArray below meth c H locs 0 0 (MQ below (va_Qi (fun (r : Int32) (u : zS) => Post r u.1 u.2.1 u.2.2.1 u.2.2.2) (fun u t => zPost G K A (wM ad K u.1 u.2.1 u.2.2.1 u.2.2.2) t) A) ([.ref (ad 0), .int a0] : List Value).toArray s 0 0 A) (F0 m 15 ls [])) : ∀ (x1 : Int32) (x2 : Int32) (x3 : Int32) (x5 : Int32) (x7 : Int32) (x8 : Int32) (I : Nat → Int32) (J : Nat → Int64) (B : Nat → Nat → Int32) (D : Nat → Nat → Int64) (ls : Array Slot) (H : Heap) (locs : List Loc), wc_LassoFinderModel_expression_152 a0 K15 Post x1 x2 x3 x5 x7 x8 I J B D → lv_has ls 9 [(0, .ref (ad 0)), (1, .int x1), (2, .int x2), (3, .int x3), (5, .int x5), (7, .int x7), (8, .int x8)] → zW G A s.heap (wM ad K I J B D) H locs → W p l e { frames := 2, cells := 0, slots := 0, locals := 44 } s m ([.ref (ad 0), .int a0] : List Value).toArray below meth c H locs 0 0 (MQ below (va_Qi (fun (r : Int32) (u : zS) => Post r u.1 u.2.1 u.2.2.1 u.2.2.2) (fun u t => zPost G K A (wM ad K u.1 u.2.1 u.2.2.1 u.2.2.2) t) A) ([.ref (ad 0), .int a0] : List Value).toArray s 0 0 A) (F0 m 152 ls []) := by
  obtain ⟨hx, hb, hr, hml, hts, hown, hlocks, hA, hK⟩ := id C
  intro x1 x2 x3 x5 x7 x8 I J B D ls H locs hok hl hw
  unfold wc_LassoFinderModel_expression_152 at hok
  refine lv_iload_n hx hb zd_LassoFinderModel_expression_152 rfl (lv_at hl 2 rfl) ?_
  refine lv_bipush (v := 12) hx hb zd_LassoFinderModel_expression_153 (by decide) ?_
  refine lv_icmp_ne (tgt := 163) hx hb zd_LassoFinderModel_expression_155 (by decide) (fun hc29 => ?_) (fun hc29 => ?_)
  · have hok := hok.1 hc29
    obtain ⟨z30, ez30⟩ : ∃ z : Int32, z = (x2 + 1) := ⟨_, rfl⟩
    have hok := hok z30 ez30
    refine lv_iinc (v := z30) hx hb zd_LassoFinderModel_expression_163 hl (k := 2) rfl ez30.symm (by decide) rfl (fun ls hl => ?_)
    have hl : lv_has ls 9 [(2, .int z30), (0, .ref (ad 0)), (1, .int x1), (3, .int x3), (5, .int x5), (7, .int x7), (8, .int x8)] := hl
    refine lv_aload_n hx hb zd_LassoFinderModel_expression_166 rfl (lv_at hl 1 rfl) ?_
    refine lv_iload hx hb zd_LassoFinderModel_expression_167 (lv_at hl 6 rfl) ?_
    refine lv_if_eq (tgt := 180) hx hb zd_LassoFinderModel_expression_169 (by decide) (fun hc31 => ?_) (fun hc31 => ?_)
    · have hok := hok.1 hc31
      refine lv_aload_n hx hb zd_LassoFinderModel_expression_180 rfl (lv_at hl 1 rfl) ?_
      refine lv_bipush (v := 48) hx hb zd_LassoFinderModel_expression_181 (by decide) ?_
      refine lv_bipush (v := 8) hx hb zd_LassoFinderModel_expression_183 (by decide) ?_
      refine z_calli (w1 := fun (u : zS) => wM ad K u.1 u.2.1 u.2.2.1 u.2.2.2) (wr := []) (z_runV (q0 := 0) (wc := (wM ad K I J B D)) (As := [.int 48, .int 8]) (rest := [.ref (ad 0)]) ⟨hx, hb, hml, hown, hts⟩ (w_LassoFinderModel_from l G K ad I J B D 48 8 _ H.size hok) zf_LassoFinderModel_from zm_344 ⟨Nat.le_of_ble_eq_true rfl, Nat.le_of_ble_eq_true rfl⟩ hK hw (List.range 58) wM_all wM_nd wM_g0 rfl rfl hl.1 rfl (Nat.le_of_ble_eq_true rfl) zd_LassoFinderModel_expression_185 ⟨Nat.le_of_ble_eq_true rfl, Nat.le_of_ble_eq_true rfl⟩) hw hA (List.range 58) [] wM_all rfl (by decide) (fun i hi => by cases hi) (fun r32 u H locs hok hw => ?_)
      obtain ⟨I32, J32, B32, D32⟩ := u
      dsimp only at hok
      have hw : zW G A s.heap (wM ad K I32 J32 B32 D32) H locs := hw
      exact wJ_LassoFinderModel_expression_188 G K ad a0 Post C K15 kh15 x1 z30 x3 x5 r32 I32 J32 B32 D32 ls H locs hok (lv_sub hl [1, 2, 0, 3, 4] rfl) hw
    · have hok := hok.2 hc31
      refine lv_bipush (v := 8) hx hb zd_LassoFinderModel_expression_172 (by decide) ?_
      refine lv_iload hx hb zd_LassoFinderModel_expression_174 (lv_at hl 5 rfl) ?_
      refine lv_iadd hx hb zd_LassoFinderModel_expression_176 ?_
      refine lv_topi (fun z33 ez33 => ?_)
      have hok := hok z33 ez33
      refine lv_goto (tgt := 188) hx hb zd_LassoFinderModel_expression_177 (by decide) ?_
      exact wJ_LassoFinderModel_expression_188 G K ad a0 Post C K15 kh15 x1 z30 x3 x5 z33 I J B D ls H locs hok (lv_sub hl [1, 2, 0, 3, 4] rfl) hw
  · have hok := hok.2 hc29
    exact wJ_LassoFinderModel_expression_158 G K ad a0 Post C I J B D ls H locs hok (lv_sub hl [0] rfl) hw
set_option maxHeartbeats 8000000 in
set_option maxRecDepth 100000 in
theorem wJ_LassoFinderModel_expression_134 {p : Program} {l : Launch} {e : Env} {s : State} {m : MethodId} {below : List Frame} {meth : Method} {c : Code} {A : Nat → Prop} (G : va_G) (K : Nat → ClassId) (ad : Nat → Nat) (a0 : Int32) (Post : Int32 → (Nat → Int32) → (Nat → Int64) → (Nat → Nat → Int32) → (Nat → Nat → Int64) → Prop) (C : zCx p s m ([.ref (ad 0), .int a0] : List Value).toArray meth c A G K prog_14_method_12_code (some .boolean) 9 "LassoFinderModel") (K15 : Int32 → Int32 → Int32 → Int32 → Int32 → (Nat → Int32) → (Nat → Int64) → (Nat → Nat → Int32) → (Nat → Nat → Int64) → Prop) (kh15 : ∀ (x1 : Int32) (x2 : Int32) (x3 : Int32) (x4 : Int32) (x5 : Int32) (I : Nat → Int32) (J : Nat → Int64) (B : Nat → Nat → Int32) (D : Nat → Nat → Int64) (ls : Array Slot) (H : Heap) (locs : List Loc), K15 x1 x2 x3 x4 x5 I J B D → lv_has ls 9 [(0, .ref (ad 0)), (1, .int x1), (2, .int x2), (3, .int x3), (4, .int x4), (5, .int x5)] → zW G A s.heap (wM ad K I J B D) H locs → W p l e { frames := 2, cells := 0, slots := 0, locals := 44 } s m ([.ref (ad 0), .int a0] : List Value).toArray below meth c H locs 0 0 (MQ below (va_Qi (fun (r : Int32) (u : zS) => Post r u.1 u.2.1 u.2.2.1 u.2.2.2) (fun u t => zPost G K A (wM ad K u.1 u.2.1 u.2.2.1 u.2.2.2) t) A) ([.ref (ad 0), .int a0] : List Value).toArray s 0 0 A) (F0 m 15 ls [])) : ∀ (x1 : Int32) (x2 : Int32) (x3 : Int32) (x5 : Int32) (x7 : Int32) (y0 : Int32) (I : Nat → Int32) (J : Nat → Int64) (B : Nat → Nat → Int32) (D : Nat → Nat → Int64) (ls : Array Slot) (H : Heap) (locs : List Loc), wc_LassoFinderModel_expression_134 a0 K15 Post x1 x2 x3 x5 x7 y0 I J B D → lv_has ls 9 [(0, .ref (ad 0)), (1, .int x1), (2, .int x2), (3, .int x3), (5, .int x5), (7, .int x7)] → zW G A s.heap (wM ad K I J B D) H locs → W p l e { frames := 2, cells := 0, slots := 0, locals := 44 } s m ([.ref (ad 0), .int a0] : List Value).toArray below meth c H locs 0 0 (MQ below (va_Qi (fun (r : Int32) (u : zS) => Post r u.1 u.2.1 u.2.2.1 u.2.2.2) (fun u t => zPost G K A (wM ad K u.1 u.2.1 u.2.2.1 u.2.2.2) t) A) ([.ref (ad 0), .int a0] : List Value).toArray s 0 0 A) (F0 m 134 ls [.int y0]) := by
  obtain ⟨hx, hb, hr, hml, hts, hown, hlocks, hA, hK⟩ := id C
  intro x1 x2 x3 x5 x7 y0 I J B D ls H locs hok hl hw
  unfold wc_LassoFinderModel_expression_134 at hok
  refine lv_istore hx hb zd_LassoFinderModel_expression_134 hl (by decide) rfl (fun ls hl => ?_)
  have hl : lv_has ls 9 [(8, .int y0), (0, .ref (ad 0)), (1, .int x1), (2, .int x2), (3, .int x3), (5, .int x5), (7, .int x7)] := hl
  refine lv_iload hx hb zd_LassoFinderModel_expression_136 (lv_at hl 0 rfl) ?_
  refine lv_if_ne (tgt := 152) hx hb zd_LassoFinderModel_expression_138 (by decide) (fun hc34 => ?_) (fun hc34 => ?_)
  · have hok := hok.1 hc34
    exact wJ_LassoFinderModel_expression_152 G K ad a0 Post C K15 kh15 x1 x2 x3 x5 x7 y0 I J B D ls H locs hok (lv_sub hl [1, 2, 3, 4, 5, 6, 0] rfl) hw
  · have hok := hok.2 hc34
    refine lv_aload_n hx hb zd_LassoFinderModel_expression_141 rfl (lv_at hl 1 rfl) ?_
    refine lv_bipush (v := 48) hx hb zd_LassoFinderModel_expression_142 (by decide) ?_
    refine lv_bipush (v := 8) hx hb zd_LassoFinderModel_expression_144 (by decide) ?_
    refine z_calli (w1 := fun (u : zS) => wM ad K u.1 u.2.1 u.2.2.1 u.2.2.2) (wr := []) (z_runV (q0 := 0) (wc := (wM ad K I J B D)) (As := [.int 48, .int 8]) (rest := []) ⟨hx, hb, hml, hown, hts⟩ (w_LassoFinderModel_from l G K ad I J B D 48 8 _ H.size hok) zf_LassoFinderModel_from zm_344 ⟨Nat.le_of_ble_eq_true rfl, Nat.le_of_ble_eq_true rfl⟩ hK hw (List.range 58) wM_all wM_nd wM_g0 rfl rfl hl.1 rfl (Nat.le_of_ble_eq_true rfl) zd_LassoFinderModel_expression_146 ⟨Nat.le_of_ble_eq_true rfl, Nat.le_of_ble_eq_true rfl⟩) hw hA (List.range 58) [] wM_all rfl (by decide) (fun i hi => by cases hi) (fun r35 u H locs hok hw => ?_)
    obtain ⟨I35, J35, B35, D35⟩ := u
    dsimp only at hok
    have hw : zW G A s.heap (wM ad K I35 J35 B35 D35) H locs := hw
    refine lv_if_lt (tgt := 158) hx hb zd_LassoFinderModel_expression_149 (by decide) (fun hc36 => ?_) (fun hc36 => ?_)
    · have hok := hok.1 hc36
      exact wJ_LassoFinderModel_expression_158 G K ad a0 Post C I35 J35 B35 D35 ls H locs hok (lv_sub hl [1] rfl) hw
    · have hok := hok.2 hc36
      exact wJ_LassoFinderModel_expression_152 G K ad a0 Post C K15 kh15 x1 x2 x3 x5 x7 y0 I35 J35 B35 D35 ls H locs hok (lv_sub hl [1, 2, 3, 4, 5, 6, 0] rfl) hw
set_option maxHeartbeats 8000000 in
set_option maxRecDepth 100000 in
theorem wJ_LassoFinderModel_expression_133 {p : Program} {l : Launch} {e : Env} {s : State} {m : MethodId} {below : List Frame} {meth : Method} {c : Code} {A : Nat → Prop} (G : va_G) (K : Nat → ClassId) (ad : Nat → Nat) (a0 : Int32) (Post : Int32 → (Nat → Int32) → (Nat → Int64) → (Nat → Nat → Int32) → (Nat → Nat → Int64) → Prop) (C : zCx p s m ([.ref (ad 0), .int a0] : List Value).toArray meth c A G K prog_14_method_12_code (some .boolean) 9 "LassoFinderModel") (K15 : Int32 → Int32 → Int32 → Int32 → Int32 → (Nat → Int32) → (Nat → Int64) → (Nat → Nat → Int32) → (Nat → Nat → Int64) → Prop) (kh15 : ∀ (x1 : Int32) (x2 : Int32) (x3 : Int32) (x4 : Int32) (x5 : Int32) (I : Nat → Int32) (J : Nat → Int64) (B : Nat → Nat → Int32) (D : Nat → Nat → Int64) (ls : Array Slot) (H : Heap) (locs : List Loc), K15 x1 x2 x3 x4 x5 I J B D → lv_has ls 9 [(0, .ref (ad 0)), (1, .int x1), (2, .int x2), (3, .int x3), (4, .int x4), (5, .int x5)] → zW G A s.heap (wM ad K I J B D) H locs → W p l e { frames := 2, cells := 0, slots := 0, locals := 44 } s m ([.ref (ad 0), .int a0] : List Value).toArray below meth c H locs 0 0 (MQ below (va_Qi (fun (r : Int32) (u : zS) => Post r u.1 u.2.1 u.2.2.1 u.2.2.2) (fun u t => zPost G K A (wM ad K u.1 u.2.1 u.2.2.1 u.2.2.2) t) A) ([.ref (ad 0), .int a0] : List Value).toArray s 0 0 A) (F0 m 15 ls [])) : ∀ (x1 : Int32) (x2 : Int32) (x3 : Int32) (x5 : Int32) (x7 : Int32) (I : Nat → Int32) (J : Nat → Int64) (B : Nat → Nat → Int32) (D : Nat → Nat → Int64) (ls : Array Slot) (H : Heap) (locs : List Loc), wc_LassoFinderModel_expression_133 a0 K15 Post x1 x2 x3 x5 x7 I J B D → lv_has ls 9 [(0, .ref (ad 0)), (1, .int x1), (2, .int x2), (3, .int x3), (5, .int x5), (7, .int x7)] → zW G A s.heap (wM ad K I J B D) H locs → W p l e { frames := 2, cells := 0, slots := 0, locals := 44 } s m ([.ref (ad 0), .int a0] : List Value).toArray below meth c H locs 0 0 (MQ below (va_Qi (fun (r : Int32) (u : zS) => Post r u.1 u.2.1 u.2.2.1 u.2.2.2) (fun u t => zPost G K A (wM ad K u.1 u.2.1 u.2.2.1 u.2.2.2) t) A) ([.ref (ad 0), .int a0] : List Value).toArray s 0 0 A) (F0 m 133 ls []) := by
  obtain ⟨hx, hb, hr, hml, hts, hown, hlocks, hA, hK⟩ := id C
  intro x1 x2 x3 x5 x7 I J B D ls H locs hok hl hw
  unfold wc_LassoFinderModel_expression_133 at hok
  refine lv_iconst (v := 0) hx hb zd_LassoFinderModel_expression_133 (by decide) ?_
  exact wJ_LassoFinderModel_expression_134 G K ad a0 Post C K15 kh15 x1 x2 x3 x5 x7 0 I J B D ls H locs hok (lv_sub hl [0, 1, 2, 3, 4, 5] rfl) hw
set_option maxHeartbeats 8000000 in
set_option maxRecDepth 100000 in
theorem wJ_LassoFinderModel_expression_129 {p : Program} {l : Launch} {e : Env} {s : State} {m : MethodId} {below : List Frame} {meth : Method} {c : Code} {A : Nat → Prop} (G : va_G) (K : Nat → ClassId) (ad : Nat → Nat) (a0 : Int32) (Post : Int32 → (Nat → Int32) → (Nat → Int64) → (Nat → Nat → Int32) → (Nat → Nat → Int64) → Prop) (C : zCx p s m ([.ref (ad 0), .int a0] : List Value).toArray meth c A G K prog_14_method_12_code (some .boolean) 9 "LassoFinderModel") (K15 : Int32 → Int32 → Int32 → Int32 → Int32 → (Nat → Int32) → (Nat → Int64) → (Nat → Nat → Int32) → (Nat → Nat → Int64) → Prop) (kh15 : ∀ (x1 : Int32) (x2 : Int32) (x3 : Int32) (x4 : Int32) (x5 : Int32) (I : Nat → Int32) (J : Nat → Int64) (B : Nat → Nat → Int32) (D : Nat → Nat → Int64) (ls : Array Slot) (H : Heap) (locs : List Loc), K15 x1 x2 x3 x4 x5 I J B D → lv_has ls 9 [(0, .ref (ad 0)), (1, .int x1), (2, .int x2), (3, .int x3), (4, .int x4), (5, .int x5)] → zW G A s.heap (wM ad K I J B D) H locs → W p l e { frames := 2, cells := 0, slots := 0, locals := 44 } s m ([.ref (ad 0), .int a0] : List Value).toArray below meth c H locs 0 0 (MQ below (va_Qi (fun (r : Int32) (u : zS) => Post r u.1 u.2.1 u.2.2.1 u.2.2.2) (fun u t => zPost G K A (wM ad K u.1 u.2.1 u.2.2.1 u.2.2.2) t) A) ([.ref (ad 0), .int a0] : List Value).toArray s 0 0 A) (F0 m 15 ls [])) : ∀ (x1 : Int32) (x2 : Int32) (x3 : Int32) (x5 : Int32) (x7 : Int32) (I : Nat → Int32) (J : Nat → Int64) (B : Nat → Nat → Int32) (D : Nat → Nat → Int64) (ls : Array Slot) (H : Heap) (locs : List Loc), wc_LassoFinderModel_expression_129 a0 K15 Post x1 x2 x3 x5 x7 I J B D → lv_has ls 9 [(0, .ref (ad 0)), (1, .int x1), (2, .int x2), (3, .int x3), (5, .int x5), (7, .int x7)] → zW G A s.heap (wM ad K I J B D) H locs → W p l e { frames := 2, cells := 0, slots := 0, locals := 44 } s m ([.ref (ad 0), .int a0] : List Value).toArray below meth c H locs 0 0 (MQ below (va_Qi (fun (r : Int32) (u : zS) => Post r u.1 u.2.1 u.2.2.1 u.2.2.2) (fun u t => zPost G K A (wM ad K u.1 u.2.1 u.2.2.1 u.2.2.2) t) A) ([.ref (ad 0), .int a0] : List Value).toArray s 0 0 A) (F0 m 129 ls []) := by
  obtain ⟨hx, hb, hr, hml, hts, hown, hlocks, hA, hK⟩ := id C
  intro x1 x2 x3 x5 x7 I J B D ls H locs hok hl hw
  unfold wc_LassoFinderModel_expression_129 at hok
  refine lv_iconst (v := 1) hx hb zd_LassoFinderModel_expression_129 (by decide) ?_
  refine lv_goto (tgt := 134) hx hb zd_LassoFinderModel_expression_130 (by decide) ?_
  exact wJ_LassoFinderModel_expression_134 G K ad a0 Post C K15 kh15 x1 x2 x3 x5 x7 1 I J B D ls H locs hok (lv_sub hl [0, 1, 2, 3, 4, 5] rfl) hw
set_option maxHeartbeats 8000000 in
set_option maxRecDepth 100000 in
theorem wJ_LassoFinderModel_expression_99 {p : Program} {l : Launch} {e : Env} {s : State} {m : MethodId} {below : List Frame} {meth : Method} {c : Code} {A : Nat → Prop} (G : va_G) (K : Nat → ClassId) (ad : Nat → Nat) (a0 : Int32) (Post : Int32 → (Nat → Int32) → (Nat → Int64) → (Nat → Nat → Int32) → (Nat → Nat → Int64) → Prop) (C : zCx p s m ([.ref (ad 0), .int a0] : List Value).toArray meth c A G K prog_14_method_12_code (some .boolean) 9 "LassoFinderModel") (K15 : Int32 → Int32 → Int32 → Int32 → Int32 → (Nat → Int32) → (Nat → Int64) → (Nat → Nat → Int32) → (Nat → Nat → Int64) → Prop) (kh15 : ∀ (x1 : Int32) (x2 : Int32) (x3 : Int32) (x4 : Int32) (x5 : Int32) (I : Nat → Int32) (J : Nat → Int64) (B : Nat → Nat → Int32) (D : Nat → Nat → Int64) (ls : Array Slot) (H : Heap) (locs : List Loc), K15 x1 x2 x3 x4 x5 I J B D → lv_has ls 9 [(0, .ref (ad 0)), (1, .int x1), (2, .int x2), (3, .int x3), (4, .int x4), (5, .int x5)] → zW G A s.heap (wM ad K I J B D) H locs → W p l e { frames := 2, cells := 0, slots := 0, locals := 44 } s m ([.ref (ad 0), .int a0] : List Value).toArray below meth c H locs 0 0 (MQ below (va_Qi (fun (r : Int32) (u : zS) => Post r u.1 u.2.1 u.2.2.1 u.2.2.2) (fun u t => zPost G K A (wM ad K u.1 u.2.1 u.2.2.1 u.2.2.2) t) A) ([.ref (ad 0), .int a0] : List Value).toArray s 0 0 A) (F0 m 15 ls [])) : ∀ (x1 : Int32) (x2 : Int32) (x3 : Int32) (x4 : Int32) (x5 : Int32) (x6 : Int32) (x7 : Int32) (I : Nat → Int32) (J : Nat → Int64) (B : Nat → Nat → Int32) (D : Nat → Nat → Int64) (ls : Array Slot) (H : Heap) (locs : List Loc), wc_LassoFinderModel_expression_99 a0 K15 Post x1 x2 x3 x4 x5 x6 x7 I J B D → lv_has ls 9 [(0, .ref (ad 0)), (1, .int x1), (2, .int x2), (3, .int x3), (4, .int x4), (5, .int x5), (6, .int x6), (7, .int x7)] → zW G A s.heap (wM ad K I J B D) H locs → W p l e { frames := 2, cells := 0, slots := 0, locals := 44 } s m ([.ref (ad 0), .int a0] : List Value).toArray below meth c H locs 0 0 (MQ below (va_Qi (fun (r : Int32) (u : zS) => Post r u.1 u.2.1 u.2.2.1 u.2.2.2) (fun u t => zPost G K A (wM ad K u.1 u.2.1 u.2.2.1 u.2.2.2) t) A) ([.ref (ad 0), .int a0] : List Value).toArray s 0 0 A) (F0 m 99 ls []) := by
  obtain ⟨hx, hb, hr, hml, hts, hown, hlocks, hA, hK⟩ := id C
  intro x1 x2 x3 x4 x5 x6 x7 I J B D ls H locs hok hl hw
  unfold wc_LassoFinderModel_expression_99 at hok
  refine lv_iload hx hb zd_LassoFinderModel_expression_99 (lv_at hl 4 rfl) ?_
  refine lv_if_eq (tgt := 207) hx hb zd_LassoFinderModel_expression_101 (by decide) (fun hc37 => ?_) (fun hc37 => ?_)
  · have hok := hok.1 hc37
    refine lv_iload hx hb zd_LassoFinderModel_expression_207 (lv_at hl 6 rfl) ?_
    refine lv_bipush (v := 41) hx hb zd_LassoFinderModel_expression_209 (by decide) ?_
    refine lv_icmp_ne (tgt := 250) hx hb zd_LassoFinderModel_expression_211 (by decide) (fun hc38 => ?_) (fun hc38 => ?_)
    · have hok := hok.1 hc38
      exact wJ_LassoFinderModel_expression_250 G K ad a0 Post C K15 kh15 x1 x2 x3 x5 x6 I J B D ls H locs hok (lv_sub hl [0, 1, 2, 3, 5, 6] rfl) hw
    · have hok := hok.2 hc38
      refine lv_iload_n hx hb zd_LassoFinderModel_expression_214 rfl (lv_at hl 3 rfl) ?_
      refine lv_iload_n hx hb zd_LassoFinderModel_expression_215 rfl (lv_at hl 1 rfl) ?_
      refine lv_icmp_le (tgt := 250) hx hb zd_LassoFinderModel_expression_216 (by decide) (fun hc39 => ?_) (fun hc39 => ?_)
      · have hok := hok.1 hc39
        exact wJ_LassoFinderModel_expression_250 G K ad a0 Post C K15 kh15 x1 x2 x3 x5 x6 I J B D ls H locs hok (lv_sub hl [0, 1, 2, 3, 5, 6] rfl) hw
      · have hok := hok.2 hc39
        refine lv_aload_n hx hb zd_LassoFinderModel_expression_219 rfl (lv_at hl 0 rfl) ?_
        refine lv_iconst (v := 1) hx hb zd_LassoFinderModel_expression_220 (by decide) ?_
        refine z_callv (w1 := fun (u : zS) => wM ad K u.1 u.2.1 u.2.2.1 u.2.2.2) (wr := []) (z_runV (q0 := 0) (wc := (wM ad K I J B D)) (As := [.int 1]) (rest := []) ⟨hx, hb, hml, hown, hts⟩ (w_LassoFinderModel_settle l G K ad I J B D 1 _ H.size hok) zf_LassoFinderModel_settle zm_350 ⟨Nat.le_of_ble_eq_true rfl, Nat.le_of_ble_eq_true rfl⟩ hK hw (List.range 58) wM_all wM_nd wM_g0 rfl rfl hl.1 rfl (Nat.le_of_ble_eq_true rfl) zd_LassoFinderModel_expression_221 ⟨Nat.le_of_ble_eq_true rfl, Nat.le_of_ble_eq_true rfl⟩) hw hA (List.range 58) [] wM_all rfl (by decide) (fun i hi => by cases hi) (fun u H locs hok hw => ?_)
        obtain ⟨I40, J40, B40, D40⟩ := u
        dsimp only at hok
        have hw : zW G A s.heap (wM ad K I40 J40 B40 D40) H locs := hw
        refine lv_aload_n hx hb zd_LassoFinderModel_expression_224 rfl (lv_at hl 0 rfl) ?_
        refine lv_dup hx hb zd_LassoFinderModel_expression_225 rfl ?_
        refine z_get (v := .int (I40 13)) hx hb hts hown hK hw zZ12 0 wM_g0 42 (by decide) zm_348 rfl zd_LassoFinderModel_expression_226 ?_
        refine lv_iconst (v := 1) hx hb zd_LassoFinderModel_expression_229 (by decide) ?_
        refine lv_isub hx hb zd_LassoFinderModel_expression_230 ?_
        refine lv_topi (fun z41 ez41 => ?_)
        have hok := hok z41 ez41
        refine z_put (v := .int z41) hx hb hts hown hK hw zZ12 0 wM_g0 42 (by decide) zm_348 rfl rfl rfl (Nat.le_of_ble_eq_true rfl) zd_LassoFinderModel_expression_231 (fun H locs hw => ?_)
        have hw := wM_sI13 hw
        obtain ⟨z42, ez42⟩ : ∃ z : Int32, z = (x3 + (-1)) := ⟨_, rfl⟩
        have hok := hok z42 ez42
        refine lv_iinc (v := z42) hx hb zd_LassoFinderModel_expression_234 hl (k := 3) rfl ez42.symm (by decide) rfl (fun ls hl => ?_)
        have hl : lv_has ls 9 [(3, .int z42), (0, .ref (ad 0)), (1, .int x1), (2, .int x2), (4, .int x4), (5, .int x5), (6, .int x6), (7, .int x7)] := hl
        refine lv_aload_n hx hb zd_LassoFinderModel_expression_237 rfl (lv_at hl 1 rfl) ?_
        refine lv_dup hx hb zd_LassoFinderModel_expression_238 rfl ?_
        refine z_get (v := .int (I40 2)) hx hb hts hown hK hw zZ12 0 wM_g0 3 (by decide) zm_335 rfl zd_LassoFinderModel_expression_239 ?_
        refine lv_iconst (v := 1) hx hb zd_LassoFinderModel_expression_242 (by decide) ?_
        refine lv_iadd hx hb zd_LassoFinderModel_expression_243 ?_
        refine lv_topi (fun z43 ez43 => ?_)
        have hok := hok z43 ez43
        refine z_put (v := .int z43) hx hb hts hown hK hw zZ12 0 wM_g0 3 (by decide) zm_335 rfl rfl rfl (Nat.le_of_ble_eq_true rfl) zd_LassoFinderModel_expression_244 (fun H locs hw => ?_)
        have hw := wM_sI2 hw
        refine lv_goto (tgt := 438) hx hb zd_LassoFinderModel_expression_247 (by decide) ?_
        exact wJ_LassoFinderModel_expression_438 G K ad a0 Post C K15 kh15 x1 x2 z42 x4 x5 (upd (upd I40 13 z41) 2 z43) J40 B40 D40 ls H locs hok (lv_sub hl [1, 2, 3, 0, 4, 5] rfl) hw
  · have hok := hok.2 hc37
    refine lv_iload hx hb zd_LassoFinderModel_expression_104 (lv_at hl 7 rfl) ?_
    refine lv_if_lt (tgt := 133) hx hb zd_LassoFinderModel_expression_106 (by decide) (fun hc44 => ?_) (fun hc44 => ?_)
    · have hok := hok.1 hc44
      exact wJ_LassoFinderModel_expression_133 G K ad a0 Post C K15 kh15 x1 x2 x3 x5 x7 I J B D ls H locs hok (lv_sub hl [0, 1, 2, 3, 5, 7] rfl) hw
    · have hok := hok.2 hc44
      refine lv_aload_n hx hb zd_LassoFinderModel_expression_109 rfl (lv_at hl 0 rfl) ?_
      refine z_get (v := .ref (ad 2)) hx hb hts hown hK hw zZ12 0 wM_g0 9 (by decide) zm_236 rfl zd_LassoFinderModel_expression_110 ?_
      refine lv_iload hx hb zd_LassoFinderModel_expression_113 (lv_at hl 7 rfl) ?_
      refine va_iald (f := (B 1)) hx hb hK hw.1 2 0 wM_a2 rfl hok.1 zd_LassoFinderModel_expression_115 ?_
      have hok := hok.2
      refine lv_topi (fun z45 ez45 => ?_)
      have hok := hok z45 ez45
      refine lv_if_ge (tgt := 129) hx hb zd_LassoFinderModel_expression_116 (by decide) (fun hc46 => ?_) (fun hc46 => ?_)
      · have hok := hok.1 hc46
        exact wJ_LassoFinderModel_expression_129 G K ad a0 Post C K15 kh15 x1 x2 x3 x5 x7 I J B D ls H locs hok (lv_sub hl [0, 1, 2, 3, 5, 7] rfl) hw
      · have hok := hok.2 hc46
        refine lv_aload_n hx hb zd_LassoFinderModel_expression_119 rfl (lv_at hl 0 rfl) ?_
        refine z_get (v := .ref (ad 3)) hx hb hts hown hK hw zZ12 0 wM_g0 10 (by decide) zm_237 rfl zd_LassoFinderModel_expression_120 ?_
        refine lv_iload hx hb zd_LassoFinderModel_expression_123 (lv_at hl 7 rfl) ?_
        refine va_iald (f := (B 2)) hx hb hK hw.1 3 0 wM_a3 rfl hok.1 zd_LassoFinderModel_expression_125 ?_
        have hok := hok.2
        refine lv_topi (fun z47 ez47 => ?_)
        have hok := hok z47 ez47
        refine lv_if_lt (tgt := 133) hx hb zd_LassoFinderModel_expression_126 (by decide) (fun hc48 => ?_) (fun hc48 => ?_)
        · have hok := hok.1 hc48
          exact wJ_LassoFinderModel_expression_133 G K ad a0 Post C K15 kh15 x1 x2 x3 x5 x7 I J B D ls H locs hok (lv_sub hl [0, 1, 2, 3, 5, 7] rfl) hw
        · have hok := hok.2 hc48
          exact wJ_LassoFinderModel_expression_129 G K ad a0 Post C K15 kh15 x1 x2 x3 x5 x7 I J B D ls H locs hok (lv_sub hl [0, 1, 2, 3, 5, 7] rfl) hw
set_option maxHeartbeats 8000000 in
set_option maxRecDepth 100000 in
theorem wB_LassoFinderModel_expression_15 {p : Program} {l : Launch} {e : Env} {s : State} {m : MethodId} {below : List Frame} {meth : Method} {c : Code} {A : Nat → Prop} (G : va_G) (K : Nat → ClassId) (ad : Nat → Nat) (a0 : Int32) (Post : Int32 → (Nat → Int32) → (Nat → Int64) → (Nat → Nat → Int32) → (Nat → Nat → Int64) → Prop) (C : zCx p s m ([.ref (ad 0), .int a0] : List Value).toArray meth c A G K prog_14_method_12_code (some .boolean) 9 "LassoFinderModel") (K15 : Int32 → Int32 → Int32 → Int32 → Int32 → (Nat → Int32) → (Nat → Int64) → (Nat → Nat → Int32) → (Nat → Nat → Int64) → Prop) (kh15 : ∀ (x1 : Int32) (x2 : Int32) (x3 : Int32) (x4 : Int32) (x5 : Int32) (I : Nat → Int32) (J : Nat → Int64) (B : Nat → Nat → Int32) (D : Nat → Nat → Int64) (ls : Array Slot) (H : Heap) (locs : List Loc), K15 x1 x2 x3 x4 x5 I J B D → lv_has ls 9 [(0, .ref (ad 0)), (1, .int x1), (2, .int x2), (3, .int x3), (4, .int x4), (5, .int x5)] → zW G A s.heap (wM ad K I J B D) H locs → W p l e { frames := 2, cells := 0, slots := 0, locals := 44 } s m ([.ref (ad 0), .int a0] : List Value).toArray below meth c H locs 0 0 (MQ below (va_Qi (fun (r : Int32) (u : zS) => Post r u.1 u.2.1 u.2.2.1 u.2.2.2) (fun u t => zPost G K A (wM ad K u.1 u.2.1 u.2.2.1 u.2.2.2) t) A) ([.ref (ad 0), .int a0] : List Value).toArray s 0 0 A) (F0 m 15 ls [])) : ∀ (x1 : Int32) (x2 : Int32) (x3 : Int32) (x4 : Int32) (x5 : Int32) (I : Nat → Int32) (J : Nat → Int64) (B : Nat → Nat → Int32) (D : Nat → Nat → Int64) (ls : Array Slot) (H : Heap) (locs : List Loc), wb_LassoFinderModel_expression_15 a0 K15 Post x1 x2 x3 x4 x5 I J B D → lv_has ls 9 [(0, .ref (ad 0)), (1, .int x1), (2, .int x2), (3, .int x3), (4, .int x4), (5, .int x5)] → zW G A s.heap (wM ad K I J B D) H locs → W p l e { frames := 2, cells := 0, slots := 0, locals := 44 } s m ([.ref (ad 0), .int a0] : List Value).toArray below meth c H locs 0 0 (MQ below (va_Qi (fun (r : Int32) (u : zS) => Post r u.1 u.2.1 u.2.2.1 u.2.2.2) (fun u t => zPost G K A (wM ad K u.1 u.2.1 u.2.2.1 u.2.2.2) t) A) ([.ref (ad 0), .int a0] : List Value).toArray s 0 0 A) (F0 m 15 ls []) := by
  obtain ⟨hx, hb, hr, hml, hts, hown, hlocks, hA, hK⟩ := id C
  intro x1 x2 x3 x4 x5 I J B D ls H locs hok hl hw
  unfold wb_LassoFinderModel_expression_15 at hok
  refine lv_iload hx hb zd_LassoFinderModel_expression_15 (lv_at hl 5 rfl) ?_
  refine lv_aload_n hx hb zd_LassoFinderModel_expression_17 rfl (lv_at hl 0 rfl) ?_
  refine z_get (v := .int (I 1)) hx hb hts hown hK hw zZ12 0 wM_g0 1 (by decide) zm_294 rfl zd_LassoFinderModel_expression_18 ?_
  refine lv_icmp_gt (tgt := 444) hx hb zd_LassoFinderModel_expression_21 (by decide) (fun hc49 => ?_) (fun hc49 => ?_)
  · have hok := hok.1 hc49
    refine lv_aload_n hx hb zd_LassoFinderModel_expression_444 rfl (lv_at hl 0 rfl) ?_
    refine z_calli (w1 := fun (u : zS) => wM ad K u.1 u.2.1 u.2.2.1 u.2.2.2) (wr := []) (z_runV (q0 := 0) (wc := (wM ad K I J B D)) (As := []) (rest := []) ⟨hx, hb, hml, hown, hts⟩ (w_LassoFinderModel_fail l G K ad I J B D  _ H.size hok) zf_LassoFinderModel_fail zm_334 ⟨Nat.le_of_ble_eq_true rfl, Nat.le_of_ble_eq_true rfl⟩ hK hw (List.range 58) wM_all wM_nd wM_g0 rfl rfl hl.1 rfl (Nat.le_of_ble_eq_true rfl) zd_LassoFinderModel_expression_445 ⟨Nat.le_of_ble_eq_true rfl, Nat.le_of_ble_eq_true rfl⟩) hw hA (List.range 58) [] wM_all rfl (by decide) (fun i hi => by cases hi) (fun r50 u H locs hok hw => ?_)
    obtain ⟨I50, J50, B50, D50⟩ := u
    dsimp only at hok
    have hw : zW G A s.heap (wM ad K I50 J50 B50 D50) H locs := hw
    have hbo := hok.1
    have hok := hok.2
    exact (z_iret (u := (I50, J50, B50, D50)) hx hb hr hlocks (z_nar hbo) hw (List.range 58) wM_all wM_nd hok (Nat.le_of_ble_eq_true rfl) (Nat.le_of_ble_eq_true rfl) zd_LassoFinderModel_expression_448)
  · have hok := hok.2 hc49
    refine lv_aload_n hx hb zd_LassoFinderModel_expression_24 rfl (lv_at hl 0 rfl) ?_
    refine z_calli (w1 := fun (u : zS) => wM ad K u.1 u.2.1 u.2.2.1 u.2.2.2) (wr := []) (z_runV (q0 := 0) (wc := (wM ad K I J B D)) (As := []) (rest := []) ⟨hx, hb, hml, hown, hts⟩ (w_LassoFinderModel_here l G K ad I J B D  _ H.size hok) zf_LassoFinderModel_here zm_332 ⟨Nat.le_of_ble_eq_true rfl, Nat.le_of_ble_eq_true rfl⟩ hK hw (List.range 58) wM_all wM_nd wM_g0 rfl rfl hl.1 rfl (Nat.le_of_ble_eq_true rfl) zd_LassoFinderModel_expression_25 ⟨Nat.le_of_ble_eq_true rfl, Nat.le_of_ble_eq_true rfl⟩) hw hA (List.range 58) [] wM_all rfl (by decide) (fun i hi => by cases hi) (fun r51 u H locs hok hw => ?_)
    obtain ⟨I51, J51, B51, D51⟩ := u
    dsimp only at hok
    have hw : zW G A s.heap (wM ad K I51 J51 B51 D51) H locs := hw
    refine lv_istore hx hb zd_LassoFinderModel_expression_28 hl (by decide) rfl (fun ls hl => ?_)
    have hl : lv_has ls 9 [(6, .int r51), (0, .ref (ad 0)), (1, .int x1), (2, .int x2), (3, .int x3), (4, .int x4), (5, .int x5)] := hl
    refine lv_aload_n hx hb zd_LassoFinderModel_expression_30 rfl (lv_at hl 1 rfl) ?_
    refine lv_bipush (v := 97) hx hb zd_LassoFinderModel_expression_31 (by decide) ?_
    refine lv_bipush (v := 8) hx hb zd_LassoFinderModel_expression_33 (by decide) ?_
    refine z_calli (w1 := fun (u : zS) => wM ad K u.1 u.2.1 u.2.2.1 u.2.2.2) (wr := []) (z_runV (q0 := 0) (wc := (wM ad K I51 J51 B51 D51)) (As := [.int 97, .int 8]) (rest := []) ⟨hx, hb, hml, hown, hts⟩ (w_LassoFinderModel_from l G K ad I51 J51 B51 D51 97 8 _ H.size hok) zf_LassoFinderModel_from zm_344 ⟨Nat.le_of_ble_eq_true rfl, Nat.le_of_ble_eq_true rfl⟩ hK hw (List.range 58) wM_all wM_nd wM_g0 rfl rfl hl.1 rfl (Nat.le_of_ble_eq_true rfl) zd_LassoFinderModel_expression_35 ⟨Nat.le_of_ble_eq_true rfl, Nat.le_of_ble_eq_true rfl⟩) hw hA (List.range 58) [] wM_all rfl (by decide) (fun i hi => by cases hi) (fun r52 u H locs hok hw => ?_)
    obtain ⟨I52, J52, B52, D52⟩ := u
    dsimp only at hok
    have hw : zW G A s.heap (wM ad K I52 J52 B52 D52) H locs := hw
    refine lv_istore hx hb zd_LassoFinderModel_expression_38 hl (by decide) rfl (fun ls hl => ?_)
    have hl : lv_has ls 9 [(7, .int r52), (6, .int r51), (0, .ref (ad 0)), (1, .int x1), (2, .int x2), (3, .int x3), (4, .int x4), (5, .int x5)] := hl
    refine lv_iload hx hb zd_LassoFinderModel_expression_40 (lv_at hl 6 rfl) ?_
    refine lv_if_eq (tgt := 99) hx hb zd_LassoFinderModel_expression_42 (by decide) (fun hc53 => ?_) (fun hc53 => ?_)
    · have hok := hok.1 hc53
      exact wJ_LassoFinderModel_expression_99 G K ad a0 Post C K15 kh15 x1 x2 x3 x4 x5 r51 r52 I52 J52 B52 D52 ls H locs hok (lv_sub hl [2, 3, 4, 5, 6, 7, 1, 0] rfl) hw
    · have hok := hok.2 hc53
      refine lv_iload hx hb zd_LassoFinderModel_expression_45 (lv_at hl 1 rfl) ?_
      refine lv_bipush (v := 40) hx hb zd_LassoFinderModel_expression_47 (by decide) ?_
      refine lv_icmp_ne (tgt := 99) hx hb zd_LassoFinderModel_expression_49 (by decide) (fun hc54 => ?_) (fun hc54 => ?_)
      · have hok := hok.1 hc54
        exact wJ_LassoFinderModel_expression_99 G K ad a0 Post C K15 kh15 x1 x2 x3 x4 x5 r51 r52 I52 J52 B52 D52 ls H locs hok (lv_sub hl [2, 3, 4, 5, 6, 7, 1, 0] rfl) hw
      · have hok := hok.2 hc54
        refine lv_iload_n hx hb zd_LassoFinderModel_expression_52 rfl (lv_at hl 5 rfl) ?_
        refine lv_iconst (v := 4) hx hb zd_LassoFinderModel_expression_53 (by decide) ?_
        refine lv_icmp_ne (tgt := 62) hx hb zd_LassoFinderModel_expression_54 (by decide) (fun hc55 => ?_) (fun hc55 => ?_)
        · have hok := hok.1 hc55
          obtain ⟨z56, ez56⟩ : ∃ z : Int32, z = (x3 + 1) := ⟨_, rfl⟩
          have hok := hok z56 ez56
          refine lv_iinc (v := z56) hx hb zd_LassoFinderModel_expression_62 hl (k := 5) rfl ez56.symm (by decide) rfl (fun ls hl => ?_)
          have hl : lv_has ls 9 [(3, .int z56), (7, .int r52), (6, .int r51), (0, .ref (ad 0)), (1, .int x1), (2, .int x2), (4, .int x4), (5, .int x5)] := hl
          refine lv_aload_n hx hb zd_LassoFinderModel_expression_65 rfl (lv_at hl 3 rfl) ?_
          refine z_get (v := .ref (ad 30)) hx hb hts hown hK hw zZ12 0 wM_g0 43 (by decide) zm_264 rfl zd_LassoFinderModel_expression_66 ?_
          refine lv_aload_n hx hb zd_LassoFinderModel_expression_69 rfl (lv_at hl 3 rfl) ?_
          refine z_get (v := .int (I52 13)) hx hb hts hown hK hw zZ12 0 wM_g0 42 (by decide) zm_348 rfl zd_LassoFinderModel_expression_70 ?_
          refine lv_bipush (v := 21) hx hb zd_LassoFinderModel_expression_73 (by decide) ?_
          refine va_iast (f := (B52 28)) hx hb hK hw.1 hw.2.1 hw.2.2 30 0 wM_a30 rfl hok.1 zd_LassoFinderModel_expression_75 (fun H locs w91 w92 w93 => ?_)
          have hok := hok.2
          have hw := wM_t30 ⟨w91, w92, w93⟩
          refine lv_aload_n hx hb zd_LassoFinderModel_expression_76 rfl (lv_at hl 3 rfl) ?_
          refine lv_dup hx hb zd_LassoFinderModel_expression_77 rfl ?_
          refine z_get (v := .int (I52 13)) hx hb hts hown hK hw zZ12 0 wM_g0 42 (by decide) zm_348 rfl zd_LassoFinderModel_expression_78 ?_
          refine lv_iconst (v := 1) hx hb zd_LassoFinderModel_expression_81 (by decide) ?_
          refine lv_iadd hx hb zd_LassoFinderModel_expression_82 ?_
          refine lv_topi (fun z57 ez57 => ?_)
          have hok := hok z57 ez57
          refine z_put (v := .int z57) hx hb hts hown hK hw zZ12 0 wM_g0 42 (by decide) zm_348 rfl rfl rfl (Nat.le_of_ble_eq_true rfl) zd_LassoFinderModel_expression_83 (fun H locs hw => ?_)
          have hw := wM_sI13 hw
          refine lv_aload_n hx hb zd_LassoFinderModel_expression_86 rfl (lv_at hl 3 rfl) ?_
          refine lv_dup hx hb zd_LassoFinderModel_expression_87 rfl ?_
          refine z_get (v := .int (I52 2)) hx hb hts hown hK hw zZ12 0 wM_g0 3 (by decide) zm_335 rfl zd_LassoFinderModel_expression_88 ?_
          refine lv_iconst (v := 1) hx hb zd_LassoFinderModel_expression_91 (by decide) ?_
          refine lv_iadd hx hb zd_LassoFinderModel_expression_92 ?_
          refine lv_topi (fun z58 ez58 => ?_)
          have hok := hok z58 ez58
          refine z_put (v := .int z58) hx hb hts hown hK hw zZ12 0 wM_g0 3 (by decide) zm_335 rfl rfl rfl (Nat.le_of_ble_eq_true rfl) zd_LassoFinderModel_expression_93 (fun H locs hw => ?_)
          have hw := wM_sI2 hw
          refine lv_goto (tgt := 438) hx hb zd_LassoFinderModel_expression_96 (by decide) ?_
          exact wJ_LassoFinderModel_expression_438 G K ad a0 Post C K15 kh15 x1 x2 z56 x4 x5 (upd (upd I52 13 z57) 2 z58) J52 (va_up B52 28 (upd (B52 28) (I52 13).toNatClampNeg 21)) D52 ls H locs hok (lv_sub hl [3, 4, 5, 0, 6, 7] rfl) hw
        · have hok := hok.2 hc55
          refine lv_aload_n hx hb zd_LassoFinderModel_expression_57 rfl (lv_at hl 2 rfl) ?_
          refine z_calli (w1 := fun (u : zS) => wM ad K u.1 u.2.1 u.2.2.1 u.2.2.2) (wr := []) (z_runV (q0 := 0) (wc := (wM ad K I52 J52 B52 D52)) (As := []) (rest := []) ⟨hx, hb, hml, hown, hts⟩ (w_LassoFinderModel_fail l G K ad I52 J52 B52 D52  _ H.size hok) zf_LassoFinderModel_fail zm_334 ⟨Nat.le_of_ble_eq_true rfl, Nat.le_of_ble_eq_true rfl⟩ hK hw (List.range 58) wM_all wM_nd wM_g0 rfl rfl hl.1 rfl (Nat.le_of_ble_eq_true rfl) zd_LassoFinderModel_expression_58 ⟨Nat.le_of_ble_eq_true rfl, Nat.le_of_ble_eq_true rfl⟩) hw hA (List.range 58) [] wM_all rfl (by decide) (fun i hi => by cases hi) (fun r59 u H locs hok hw => ?_)
          obtain ⟨I59, J59, B59, D59⟩ := u
          dsimp only at hok
          have hw : zW G A s.heap (wM ad K I59 J59 B59 D59) H locs := hw
          have hbo := hok.1
          have hok := hok.2
          exact (z_iret (u := (I59, J59, B59, D59)) hx hb hr hlocks (z_nar hbo) hw (List.range 58) wM_all wM_nd hok (Nat.le_of_ble_eq_true rfl) (Nat.le_of_ble_eq_true rfl) zd_LassoFinderModel_expression_61)
theorem wL_LassoFinderModel_expression_15 {p : Program} {l : Launch} {e : Env} {s : State} {m : MethodId} {below : List Frame} {meth : Method} {c : Code} {A : Nat → Prop} (G : va_G) (K : Nat → ClassId) (ad : Nat → Nat) (a0 : Int32) (Post : Int32 → (Nat → Int32) → (Nat → Int64) → (Nat → Nat → Int32) → (Nat → Nat → Int64) → Prop) (C : zCx p s m ([.ref (ad 0), .int a0] : List Value).toArray meth c A G K prog_14_method_12_code (some .boolean) 9 "LassoFinderModel") : ∀ (n : Nat) (x1 : Int32) (x2 : Int32) (x3 : Int32) (x4 : Int32) (x5 : Int32) (I : Nat → Int32) (J : Nat → Int64) (B : Nat → Nat → Int32) (D : Nat → Nat → Int64) (ls : Array Slot) (H : Heap) (locs : List Loc), wl_LassoFinderModel_expression_15 a0 Post n x1 x2 x3 x4 x5 I J B D → lv_has ls 9 [(0, .ref (ad 0)), (1, .int x1), (2, .int x2), (3, .int x3), (4, .int x4), (5, .int x5)] → zW G A s.heap (wM ad K I J B D) H locs → W p l e { frames := 2, cells := 0, slots := 0, locals := 44 } s m ([.ref (ad 0), .int a0] : List Value).toArray below meth c H locs 0 0 (MQ below (va_Qi (fun (r : Int32) (u : zS) => Post r u.1 u.2.1 u.2.2.1 u.2.2.2) (fun u t => zPost G K A (wM ad K u.1 u.2.1 u.2.2.1 u.2.2.2) t) A) ([.ref (ad 0), .int a0] : List Value).toArray s 0 0 A) (F0 m 15 ls []) := by
  intro n
  induction n with
  | zero => intro x1 x2 x3 x4 x5 I J B D ls H locs hok; exact hok.elim
  | succ n ih => exact wB_LassoFinderModel_expression_15 G K ad a0 Post C (wl_LassoFinderModel_expression_15 a0 Post n) ih
set_option maxHeartbeats 8000000 in
set_option maxRecDepth 100000 in
theorem w_LassoFinderModel_expression (l : Launch) (G : va_G) (K : Nat → ClassId) (ad : Nat → Nat) (I : Nat → Int32) (J : Nat → Int64) (B : Nat → Nat → Int32) (D : Nat → Nat → Int64) (a0 : Int32) (Post : Int32 → (Nat → Int32) → (Nat → Int64) → (Nat → Nat → Int32) → (Nat → Nat → Int64) → Prop) (sz : Nat) (hok : wp_LassoFinderModel_expression I J B D a0 Post) : Met l zy_LassoFinderModel_expression (Cond.code zy_LassoFinderModel_expression prog_14_method_12_code 9 (some .boolean) :: zTB) { frames := 2, cells := 0, slots := 0, locals := 44 } (va_Pc [.ref (ad 0), .int a0] (zPre G K (wM ad K I J B D) sz)) (va_Qi (fun (r : Int32) (u : zS) => Post r u.1 u.2.1 u.2.2.1 u.2.2.2) (fun u t => zPost G K (va_A (wM ad K I J B D) sz) (wM ad K u.1 u.2.1 u.2.2.1 u.2.2.2) t) (va_A (wM ad K I J B D) sz)) 0 0 (va_A (wM ad K I J B D) sz) := by
  refine zMet (y := zy_LassoFinderModel_expression) (av := [.ref (ad 0), .int a0]) (maxL := 9) (cc := prog_14_method_12_code) (ret := (some .boolean)) (W0 := (wM ad K I J B D)) (sz := sz) (G := G) (K := K) (wt := zTB) (mc := 0) (ms := 0) (Qf := fun A => va_Qi (fun (r : Int32) (u : zS) => Post r u.1 u.2.1 u.2.2.1 u.2.2.2) (fun u t => zPost G K A (wM ad K u.1 u.2.1 u.2.2.1 u.2.2.2) t) A) (by decide) (Nat.le_of_ble_eq_true rfl) ?_
  intro p e s m below meth c ls A hx hb hr hml hts hown hlocks hin hA hK H locs hw hsz hl
  clear hsz
  have hown : s.vm.findClass "LassoFinderModel" = some m.cls := hown
  have C : zCx p s m ([.ref (ad 0), .int a0] : List Value).toArray meth c A G K prog_14_method_12_code (some .boolean) 9 "LassoFinderModel" := ⟨hx, hb, hr, hml, hts, hown, hlocks, hA, hK⟩
  have hl : lv_has ls 9 [(0, .ref (ad 0)), (1, .int a0)] := hl
  have hw : zW G A s.heap (wM ad K I J B D) H locs := hw
  unfold wp_LassoFinderModel_expression at hok
  refine lv_iconst (v := 0) hx hb zd_LassoFinderModel_expression_0 (by decide) ?_
  refine lv_istore_n hx hb zd_LassoFinderModel_expression_1 rfl hl (by decide) rfl (fun ls hl => ?_)
  have hl : lv_has ls 9 [(2, .int 0), (0, .ref (ad 0)), (1, .int a0)] := hl
  refine lv_iload_n hx hb zd_LassoFinderModel_expression_2 rfl (lv_at hl 2 rfl) ?_
  refine lv_istore_n hx hb zd_LassoFinderModel_expression_3 rfl hl (by decide) rfl (fun ls hl => ?_)
  have hl : lv_has ls 9 [(3, .int a0), (2, .int 0), (0, .ref (ad 0)), (1, .int a0)] := hl
  refine lv_iconst (v := 1) hx hb zd_LassoFinderModel_expression_4 (by decide) ?_
  refine lv_istore hx hb zd_LassoFinderModel_expression_5 hl (by decide) rfl (fun ls hl => ?_)
  have hl : lv_has ls 9 [(4, .int 1), (3, .int a0), (2, .int 0), (0, .ref (ad 0)), (1, .int a0)] := hl
  refine lv_aload_n hx hb zd_LassoFinderModel_expression_7 rfl (lv_at hl 3 rfl) ?_
  refine lv_iconst (v := 0) hx hb zd_LassoFinderModel_expression_8 (by decide) ?_
  refine z_put (v := .int 0) hx hb hts hown hK hw zZ12 0 wM_g0 42 (by decide) zm_348 rfl rfl rfl (Nat.le_of_ble_eq_true rfl) zd_LassoFinderModel_expression_9 (fun H locs hw => ?_)
  have hw := wM_sI13 hw
  refine lv_iconst (v := 0) hx hb zd_LassoFinderModel_expression_12 (by decide) ?_
  refine lv_istore hx hb zd_LassoFinderModel_expression_13 hl (by decide) rfl (fun ls hl => ?_)
  have hl : lv_has ls 9 [(5, .int 0), (4, .int 1), (3, .int a0), (2, .int 0), (0, .ref (ad 0)), (1, .int a0)] := hl
  obtain ⟨n9, hok⟩ := hok
  exact wL_LassoFinderModel_expression_15 G K ad a0 Post C n9 a0 0 a0 1 0 (upd I 13 0) J B D ls H locs hok (lv_sub hl [4, 5, 3, 2, 1, 0] rfl) hw
