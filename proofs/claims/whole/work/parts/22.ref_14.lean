abbrev zy_LassoFinderModel_nearest : MethodName := ⟨"LassoFinderModel", "nearest", "(II)I"⟩
abbrev zy_LassoFinderModel_measure : MethodName := ⟨"LassoFinderModel", "measure", "(II)V"⟩
theorem zm_378 : Cond.methodLink "LassoFinderModel" 428 ⟨"LassoFinderModel", "measure", "(II)V"⟩ ∈ zTB := z_in (zt_8 _ (List.mem_of_getElem? (i := 79) rfl)) rfl
theorem zm_478 : Cond.code ⟨"LassoFinderModel", "measure", "(II)V"⟩ prog_14_method_56_code 16 none ∈ zTB := z_in (zt_8 _ (List.mem_of_getElem? (i := 82) rfl)) rfl
theorem zm_479 : Cond.instanceMethod ⟨"LassoFinderModel", "measure", "(II)V"⟩ ∈ zTB := z_in (zt_8 _ (List.mem_of_getElem? (i := 81) rfl)) rfl
theorem zf_LassoFinderModel_measure : zFaceV zy_LassoFinderModel_measure prog_14_method_56_code 16 none 2 := ⟨zm_479, (z_in (zp_8 _ (List.mem_of_getElem? (i := 4) rfl)) rfl), zm_25, zm_478, by decide +kernel, by decide +kernel, by decide +kernel⟩
theorem zd_LassoFinderModel_measure_0 : decode prog_14_method_56_code 0 = .ok (.iconst 1, 1) := by decide +kernel
theorem zd_LassoFinderModel_measure_1 : decode prog_14_method_56_code 1 = .ok (.aload_n 0, 1) := by decide +kernel
theorem zd_LassoFinderModel_measure_2 : decode prog_14_method_56_code 2 = .ok (.getfield 376, 3) := by decide +kernel
theorem zd_LassoFinderModel_measure_5 : decode prog_14_method_56_code 5 = .ok (.ishl, 1) := by decide +kernel
theorem zd_LassoFinderModel_measure_6 : decode prog_14_method_56_code 6 = .ok (.iconst 1, 1) := by decide +kernel
theorem zd_LassoFinderModel_measure_7 : decode prog_14_method_56_code 7 = .ok (.isub, 1) := by decide +kernel
theorem zd_LassoFinderModel_measure_8 : decode prog_14_method_56_code 8 = .ok (.istore_n 3, 1) := by decide +kernel
theorem zd_LassoFinderModel_measure_9 : decode prog_14_method_56_code 9 = .ok (.iconst 0, 1) := by decide +kernel
theorem zd_LassoFinderModel_measure_10 : decode prog_14_method_56_code 10 = .ok (.istore 4, 2) := by decide +kernel
theorem zd_LassoFinderModel_measure_12 : decode prog_14_method_56_code 12 = .ok (.iload 4, 2) := by decide +kernel
theorem zd_LassoFinderModel_measure_14 : decode prog_14_method_56_code 14 = .ok (.bipush 64, 2) := by decide +kernel
theorem zd_LassoFinderModel_measure_16 : decode prog_14_method_56_code 16 = .ok (.aload_n 0, 1) := by decide +kernel
theorem zd_LassoFinderModel_measure_17 : decode prog_14_method_56_code 17 = .ok (.getfield 345, 3) := by decide +kernel
theorem zd_LassoFinderModel_measure_20 : decode prog_14_method_56_code 20 = .ok (.imul, 1) := by decide +kernel
theorem zd_LassoFinderModel_measure_21 : decode prog_14_method_56_code 21 = .ok (.if_icmp .ge 17, 3) := by decide +kernel
theorem zd_LassoFinderModel_measure_24 : decode prog_14_method_56_code 24 = .ok (.aload_n 0, 1) := by decide +kernel
theorem zd_LassoFinderModel_measure_25 : decode prog_14_method_56_code 25 = .ok (.getfield 175, 3) := by decide +kernel
theorem zd_LassoFinderModel_measure_28 : decode prog_14_method_56_code 28 = .ok (.iload 4, 2) := by decide +kernel
theorem zd_LassoFinderModel_measure_30 : decode prog_14_method_56_code 30 = .ok (.iconst (-1), 1) := by decide +kernel
theorem zd_LassoFinderModel_measure_31 : decode prog_14_method_56_code 31 = .ok (.iastore, 1) := by decide +kernel
theorem zd_LassoFinderModel_measure_32 : decode prog_14_method_56_code 32 = .ok (.iinc 4 1, 3) := by decide +kernel
theorem zd_LassoFinderModel_measure_35 : decode prog_14_method_56_code 35 = .ok (.goto (-23), 3) := by decide +kernel
theorem zd_LassoFinderModel_measure_38 : decode prog_14_method_56_code 38 = .ok (.bipush 64, 2) := by decide +kernel
theorem zd_LassoFinderModel_measure_40 : decode prog_14_method_56_code 40 = .ok (.iload_n 1, 1) := by decide +kernel
theorem zd_LassoFinderModel_measure_41 : decode prog_14_method_56_code 41 = .ok (.imul, 1) := by decide +kernel
theorem zd_LassoFinderModel_measure_42 : decode prog_14_method_56_code 42 = .ok (.bipush 8, 2) := by decide +kernel
theorem zd_LassoFinderModel_measure_44 : decode prog_14_method_56_code 44 = .ok (.iload_n 2, 1) := by decide +kernel
theorem zd_LassoFinderModel_measure_45 : decode prog_14_method_56_code 45 = .ok (.imul, 1) := by decide +kernel
theorem zd_LassoFinderModel_measure_46 : decode prog_14_method_56_code 46 = .ok (.iadd, 1) := by decide +kernel
theorem zd_LassoFinderModel_measure_47 : decode prog_14_method_56_code 47 = .ok (.iload_n 3, 1) := by decide +kernel
theorem zd_LassoFinderModel_measure_48 : decode prog_14_method_56_code 48 = .ok (.iadd, 1) := by decide +kernel
theorem zd_LassoFinderModel_measure_49 : decode prog_14_method_56_code 49 = .ok (.istore 4, 2) := by decide +kernel
theorem zd_LassoFinderModel_measure_51 : decode prog_14_method_56_code 51 = .ok (.aload_n 0, 1) := by decide +kernel
theorem zd_LassoFinderModel_measure_52 : decode prog_14_method_56_code 52 = .ok (.getfield 175, 3) := by decide +kernel
theorem zd_LassoFinderModel_measure_55 : decode prog_14_method_56_code 55 = .ok (.iload 4, 2) := by decide +kernel
theorem zd_LassoFinderModel_measure_57 : decode prog_14_method_56_code 57 = .ok (.iconst 0, 1) := by decide +kernel
theorem zd_LassoFinderModel_measure_58 : decode prog_14_method_56_code 58 = .ok (.iastore, 1) := by decide +kernel
theorem zd_LassoFinderModel_measure_59 : decode prog_14_method_56_code 59 = .ok (.bipush 64, 2) := by decide +kernel
theorem zd_LassoFinderModel_measure_61 : decode prog_14_method_56_code 61 = .ok (.aload_n 0, 1) := by decide +kernel
theorem zd_LassoFinderModel_measure_62 : decode prog_14_method_56_code 62 = .ok (.getfield 345, 3) := by decide +kernel
theorem zd_LassoFinderModel_measure_65 : decode prog_14_method_56_code 65 = .ok (.imul, 1) := by decide +kernel
theorem zd_LassoFinderModel_measure_66 : decode prog_14_method_56_code 66 = .ok (.istore 5, 2) := by decide +kernel
theorem zd_LassoFinderModel_measure_68 : decode prog_14_method_56_code 68 = .ok (.iload 4, 2) := by decide +kernel
theorem zd_LassoFinderModel_measure_70 : decode prog_14_method_56_code 70 = .ok (.istore 6, 2) := by decide +kernel
theorem zd_LassoFinderModel_measure_72 : decode prog_14_method_56_code 72 = .ok (.iload 6, 2) := by decide +kernel
theorem zd_LassoFinderModel_measure_74 : decode prog_14_method_56_code 74 = .ok (.ifCond .lt 220, 3) := by decide +kernel
theorem zd_LassoFinderModel_measure_77 : decode prog_14_method_56_code 77 = .ok (.iload 5, 2) := by decide +kernel
theorem zd_LassoFinderModel_measure_79 : decode prog_14_method_56_code 79 = .ok (.ifCond .le 215, 3) := by decide +kernel
theorem zd_LassoFinderModel_measure_82 : decode prog_14_method_56_code 82 = .ok (.iinc 5 (-1), 3) := by decide +kernel
theorem zd_LassoFinderModel_measure_85 : decode prog_14_method_56_code 85 = .ok (.iload 6, 2) := by decide +kernel
theorem zd_LassoFinderModel_measure_87 : decode prog_14_method_56_code 87 = .ok (.bipush 6, 2) := by decide +kernel
theorem zd_LassoFinderModel_measure_89 : decode prog_14_method_56_code 89 = .ok (.ishr, 1) := by decide +kernel
theorem zd_LassoFinderModel_measure_90 : decode prog_14_method_56_code 90 = .ok (.istore 7, 2) := by decide +kernel
theorem zd_LassoFinderModel_measure_92 : decode prog_14_method_56_code 92 = .ok (.iload 6, 2) := by decide +kernel
theorem zd_LassoFinderModel_measure_94 : decode prog_14_method_56_code 94 = .ok (.iconst 3, 1) := by decide +kernel
theorem zd_LassoFinderModel_measure_95 : decode prog_14_method_56_code 95 = .ok (.ishr, 1) := by decide +kernel
theorem zd_LassoFinderModel_measure_96 : decode prog_14_method_56_code 96 = .ok (.bipush 7, 2) := by decide +kernel
theorem zd_LassoFinderModel_measure_98 : decode prog_14_method_56_code 98 = .ok (.iand, 1) := by decide +kernel
theorem zd_LassoFinderModel_measure_99 : decode prog_14_method_56_code 99 = .ok (.istore 8, 2) := by decide +kernel
theorem zd_LassoFinderModel_measure_101 : decode prog_14_method_56_code 101 = .ok (.aload_n 0, 1) := by decide +kernel
theorem zd_LassoFinderModel_measure_102 : decode prog_14_method_56_code 102 = .ok (.iload 7, 2) := by decide +kernel
theorem zd_LassoFinderModel_measure_104 : decode prog_14_method_56_code 104 = .ok (.iload 8, 2) := by decide +kernel
theorem zd_LassoFinderModel_measure_106 : decode prog_14_method_56_code 106 = .ok (.invokevirtual 419, 3) := by decide +kernel
theorem zd_LassoFinderModel_measure_109 : decode prog_14_method_56_code 109 = .ok (.istore 9, 2) := by decide +kernel
theorem zd_LassoFinderModel_measure_111 : decode prog_14_method_56_code 111 = .ok (.aload_n 0, 1) := by decide +kernel
theorem zd_LassoFinderModel_measure_112 : decode prog_14_method_56_code 112 = .ok (.getfield 124, 3) := by decide +kernel
theorem zd_LassoFinderModel_measure_115 : decode prog_14_method_56_code 115 = .ok (.iload 7, 2) := by decide +kernel
theorem zd_LassoFinderModel_measure_117 : decode prog_14_method_56_code 117 = .ok (.iaload, 1) := by decide +kernel
theorem zd_LassoFinderModel_measure_118 : decode prog_14_method_56_code 118 = .ok (.istore 10, 2) := by decide +kernel
theorem zd_LassoFinderModel_measure_120 : decode prog_14_method_56_code 120 = .ok (.iload 10, 2) := by decide +kernel
theorem zd_LassoFinderModel_measure_122 : decode prog_14_method_56_code 122 = .ok (.aload_n 0, 1) := by decide +kernel
theorem zd_LassoFinderModel_measure_123 : decode prog_14_method_56_code 123 = .ok (.getfield 124, 3) := by decide +kernel
theorem zd_LassoFinderModel_measure_126 : decode prog_14_method_56_code 126 = .ok (.iload 7, 2) := by decide +kernel
theorem zd_LassoFinderModel_measure_128 : decode prog_14_method_56_code 128 = .ok (.iconst 1, 1) := by decide +kernel
theorem zd_LassoFinderModel_measure_129 : decode prog_14_method_56_code 129 = .ok (.iadd, 1) := by decide +kernel
theorem zd_LassoFinderModel_measure_130 : decode prog_14_method_56_code 130 = .ok (.iaload, 1) := by decide +kernel
theorem zd_LassoFinderModel_measure_131 : decode prog_14_method_56_code 131 = .ok (.if_icmp .ge 146, 3) := by decide +kernel
theorem zd_LassoFinderModel_measure_134 : decode prog_14_method_56_code 134 = .ok (.aload_n 0, 1) := by decide +kernel
theorem zd_LassoFinderModel_measure_135 : decode prog_14_method_56_code 135 = .ok (.getfield 115, 3) := by decide +kernel
theorem zd_LassoFinderModel_measure_138 : decode prog_14_method_56_code 138 = .ok (.aload_n 0, 1) := by decide +kernel
theorem zd_LassoFinderModel_measure_139 : decode prog_14_method_56_code 139 = .ok (.getfield 127, 3) := by decide +kernel
theorem zd_LassoFinderModel_measure_142 : decode prog_14_method_56_code 142 = .ok (.iload 10, 2) := by decide +kernel
theorem zd_LassoFinderModel_measure_144 : decode prog_14_method_56_code 144 = .ok (.iaload, 1) := by decide +kernel
theorem zd_LassoFinderModel_measure_145 : decode prog_14_method_56_code 145 = .ok (.iaload, 1) := by decide +kernel
theorem zd_LassoFinderModel_measure_146 : decode prog_14_method_56_code 146 = .ok (.istore 11, 2) := by decide +kernel
theorem zd_LassoFinderModel_measure_148 : decode prog_14_method_56_code 148 = .ok (.aload_n 0, 1) := by decide +kernel
theorem zd_LassoFinderModel_measure_149 : decode prog_14_method_56_code 149 = .ok (.iload 11, 2) := by decide +kernel
theorem zd_LassoFinderModel_measure_151 : decode prog_14_method_56_code 151 = .ok (.iload 8, 2) := by decide +kernel
theorem zd_LassoFinderModel_measure_153 : decode prog_14_method_56_code 153 = .ok (.invokevirtual 422, 3) := by decide +kernel
theorem zd_LassoFinderModel_measure_156 : decode prog_14_method_56_code 156 = .ok (.istore 12, 2) := by decide +kernel
theorem zd_LassoFinderModel_measure_158 : decode prog_14_method_56_code 158 = .ok (.aload_n 0, 1) := by decide +kernel
theorem zd_LassoFinderModel_measure_159 : decode prog_14_method_56_code 159 = .ok (.iload 11, 2) := by decide +kernel
theorem zd_LassoFinderModel_measure_161 : decode prog_14_method_56_code 161 = .ok (.iload 12, 2) := by decide +kernel
theorem zd_LassoFinderModel_measure_163 : decode prog_14_method_56_code 163 = .ok (.invokevirtual 419, 3) := by decide +kernel
theorem zd_LassoFinderModel_measure_166 : decode prog_14_method_56_code 166 = .ok (.istore 13, 2) := by decide +kernel
theorem zd_LassoFinderModel_measure_168 : decode prog_14_method_56_code 168 = .ok (.iconst 0, 1) := by decide +kernel
theorem zd_LassoFinderModel_measure_169 : decode prog_14_method_56_code 169 = .ok (.istore 14, 2) := by decide +kernel
theorem zd_LassoFinderModel_measure_171 : decode prog_14_method_56_code 171 = .ok (.iload 14, 2) := by decide +kernel
theorem zd_LassoFinderModel_measure_173 : decode prog_14_method_56_code 173 = .ok (.iload_n 3, 1) := by decide +kernel
theorem zd_LassoFinderModel_measure_174 : decode prog_14_method_56_code 174 = .ok (.if_icmp .gt 97, 3) := by decide +kernel
theorem zd_LassoFinderModel_measure_177 : decode prog_14_method_56_code 177 = .ok (.bipush 64, 2) := by decide +kernel
theorem zd_LassoFinderModel_measure_179 : decode prog_14_method_56_code 179 = .ok (.iload 11, 2) := by decide +kernel
theorem zd_LassoFinderModel_measure_181 : decode prog_14_method_56_code 181 = .ok (.imul, 1) := by decide +kernel
theorem zd_LassoFinderModel_measure_182 : decode prog_14_method_56_code 182 = .ok (.bipush 8, 2) := by decide +kernel
theorem zd_LassoFinderModel_measure_184 : decode prog_14_method_56_code 184 = .ok (.iload 12, 2) := by decide +kernel
theorem zd_LassoFinderModel_measure_186 : decode prog_14_method_56_code 186 = .ok (.imul, 1) := by decide +kernel
theorem zd_LassoFinderModel_measure_187 : decode prog_14_method_56_code 187 = .ok (.iadd, 1) := by decide +kernel
theorem zd_LassoFinderModel_measure_188 : decode prog_14_method_56_code 188 = .ok (.iload 14, 2) := by decide +kernel
theorem zd_LassoFinderModel_measure_190 : decode prog_14_method_56_code 190 = .ok (.iadd, 1) := by decide +kernel
theorem zd_LassoFinderModel_measure_191 : decode prog_14_method_56_code 191 = .ok (.istore 15, 2) := by decide +kernel
theorem zd_LassoFinderModel_measure_193 : decode prog_14_method_56_code 193 = .ok (.iload 14, 2) := by decide +kernel
theorem zd_LassoFinderModel_measure_195 : decode prog_14_method_56_code 195 = .ok (.iload 9, 2) := by decide +kernel
theorem zd_LassoFinderModel_measure_197 : decode prog_14_method_56_code 197 = .ok (.ior, 1) := by decide +kernel
theorem zd_LassoFinderModel_measure_198 : decode prog_14_method_56_code 198 = .ok (.iload 6, 2) := by decide +kernel
theorem zd_LassoFinderModel_measure_200 : decode prog_14_method_56_code 200 = .ok (.bipush 7, 2) := by decide +kernel
theorem zd_LassoFinderModel_measure_202 : decode prog_14_method_56_code 202 = .ok (.iand, 1) := by decide +kernel
theorem zd_LassoFinderModel_measure_203 : decode prog_14_method_56_code 203 = .ok (.if_icmp .ne 62, 3) := by decide +kernel
theorem zd_LassoFinderModel_measure_206 : decode prog_14_method_56_code 206 = .ok (.iload 13, 2) := by decide +kernel
theorem zd_LassoFinderModel_measure_208 : decode prog_14_method_56_code 208 = .ok (.iload 14, 2) := by decide +kernel
theorem zd_LassoFinderModel_measure_210 : decode prog_14_method_56_code 210 = .ok (.iconst (-1), 1) := by decide +kernel
theorem zd_LassoFinderModel_measure_211 : decode prog_14_method_56_code 211 = .ok (.ixor, 1) := by decide +kernel
theorem zd_LassoFinderModel_measure_212 : decode prog_14_method_56_code 212 = .ok (.iand, 1) := by decide +kernel
theorem zd_LassoFinderModel_measure_213 : decode prog_14_method_56_code 213 = .ok (.ifCond .ne 52, 3) := by decide +kernel
theorem zd_LassoFinderModel_measure_216 : decode prog_14_method_56_code 216 = .ok (.aload_n 0, 1) := by decide +kernel
theorem zd_LassoFinderModel_measure_217 : decode prog_14_method_56_code 217 = .ok (.getfield 175, 3) := by decide +kernel
theorem zd_LassoFinderModel_measure_220 : decode prog_14_method_56_code 220 = .ok (.iload 15, 2) := by decide +kernel
theorem zd_LassoFinderModel_measure_222 : decode prog_14_method_56_code 222 = .ok (.iaload, 1) := by decide +kernel
theorem zd_LassoFinderModel_measure_223 : decode prog_14_method_56_code 223 = .ok (.ifCond .lt 6, 3) := by decide +kernel
theorem zd_LassoFinderModel_measure_226 : decode prog_14_method_56_code 226 = .ok (.goto 39, 3) := by decide +kernel
theorem zd_LassoFinderModel_measure_229 : decode prog_14_method_56_code 229 = .ok (.aload_n 0, 1) := by decide +kernel
theorem zd_LassoFinderModel_measure_230 : decode prog_14_method_56_code 230 = .ok (.getfield 175, 3) := by decide +kernel
theorem zd_LassoFinderModel_measure_233 : decode prog_14_method_56_code 233 = .ok (.iload 15, 2) := by decide +kernel
theorem zd_LassoFinderModel_measure_235 : decode prog_14_method_56_code 235 = .ok (.aload_n 0, 1) := by decide +kernel
theorem zd_LassoFinderModel_measure_236 : decode prog_14_method_56_code 236 = .ok (.iload 6, 2) := by decide +kernel
theorem zd_LassoFinderModel_measure_238 : decode prog_14_method_56_code 238 = .ok (.invokevirtual 425, 3) := by decide +kernel
theorem zd_LassoFinderModel_measure_241 : decode prog_14_method_56_code 241 = .ok (.iconst 1, 1) := by decide +kernel
theorem zd_LassoFinderModel_measure_242 : decode prog_14_method_56_code 242 = .ok (.iadd, 1) := by decide +kernel
theorem zd_LassoFinderModel_measure_243 : decode prog_14_method_56_code 243 = .ok (.iastore, 1) := by decide +kernel
theorem zd_LassoFinderModel_measure_244 : decode prog_14_method_56_code 244 = .ok (.aload_n 0, 1) := by decide +kernel
theorem zd_LassoFinderModel_measure_245 : decode prog_14_method_56_code 245 = .ok (.getfield 175, 3) := by decide +kernel
theorem zd_LassoFinderModel_measure_248 : decode prog_14_method_56_code 248 = .ok (.iload 4, 2) := by decide +kernel
theorem zd_LassoFinderModel_measure_250 : decode prog_14_method_56_code 250 = .ok (.dup2, 1) := by decide +kernel
theorem zd_LassoFinderModel_measure_251 : decode prog_14_method_56_code 251 = .ok (.iaload, 1) := by decide +kernel
theorem zd_LassoFinderModel_measure_252 : decode prog_14_method_56_code 252 = .ok (.iload 15, 2) := by decide +kernel
theorem zd_LassoFinderModel_measure_254 : decode prog_14_method_56_code 254 = .ok (.iconst 1, 1) := by decide +kernel
theorem zd_LassoFinderModel_measure_255 : decode prog_14_method_56_code 255 = .ok (.iadd, 1) := by decide +kernel
theorem zd_LassoFinderModel_measure_256 : decode prog_14_method_56_code 256 = .ok (.bipush 12, 2) := by decide +kernel
theorem zd_LassoFinderModel_measure_258 : decode prog_14_method_56_code 258 = .ok (.ishl, 1) := by decide +kernel
theorem zd_LassoFinderModel_measure_259 : decode prog_14_method_56_code 259 = .ok (.iadd, 1) := by decide +kernel
theorem zd_LassoFinderModel_measure_260 : decode prog_14_method_56_code 260 = .ok (.iastore, 1) := by decide +kernel
theorem zd_LassoFinderModel_measure_261 : decode prog_14_method_56_code 261 = .ok (.iload 15, 2) := by decide +kernel
theorem zd_LassoFinderModel_measure_263 : decode prog_14_method_56_code 263 = .ok (.istore 4, 2) := by decide +kernel
theorem zd_LassoFinderModel_measure_265 : decode prog_14_method_56_code 265 = .ok (.iinc 14 1, 3) := by decide +kernel
theorem zd_LassoFinderModel_measure_268 : decode prog_14_method_56_code 268 = .ok (.goto (-97), 3) := by decide +kernel
theorem zd_LassoFinderModel_measure_271 : decode prog_14_method_56_code 271 = .ok (.iinc 10 1, 3) := by decide +kernel
theorem zd_LassoFinderModel_measure_274 : decode prog_14_method_56_code 274 = .ok (.goto (-154), 3) := by decide +kernel
theorem zd_LassoFinderModel_measure_277 : decode prog_14_method_56_code 277 = .ok (.aload_n 0, 1) := by decide +kernel
theorem zd_LassoFinderModel_measure_278 : decode prog_14_method_56_code 278 = .ok (.getfield 175, 3) := by decide +kernel
theorem zd_LassoFinderModel_measure_281 : decode prog_14_method_56_code 281 = .ok (.iload 6, 2) := by decide +kernel
theorem zd_LassoFinderModel_measure_283 : decode prog_14_method_56_code 283 = .ok (.iaload, 1) := by decide +kernel
theorem zd_LassoFinderModel_measure_284 : decode prog_14_method_56_code 284 = .ok (.bipush 12, 2) := by decide +kernel
theorem zd_LassoFinderModel_measure_286 : decode prog_14_method_56_code 286 = .ok (.ishr, 1) := by decide +kernel
theorem zd_LassoFinderModel_measure_287 : decode prog_14_method_56_code 287 = .ok (.iconst 1, 1) := by decide +kernel
theorem zd_LassoFinderModel_measure_288 : decode prog_14_method_56_code 288 = .ok (.isub, 1) := by decide +kernel
theorem zd_LassoFinderModel_measure_289 : decode prog_14_method_56_code 289 = .ok (.istore 6, 2) := by decide +kernel
theorem zd_LassoFinderModel_measure_291 : decode prog_14_method_56_code 291 = .ok (.goto (-219), 3) := by decide +kernel
theorem zd_LassoFinderModel_measure_294 : decode prog_14_method_56_code 294 = .ok (.return_, 1) := by decide +kernel
theorem zd_LassoFinderModel_nearest_0 : decode prog_14_method_57_code 0 = .ok (.aload_n 0, 1) := by decide +kernel
theorem zd_LassoFinderModel_nearest_1 : decode prog_14_method_57_code 1 = .ok (.iload_n 1, 1) := by decide +kernel
theorem zd_LassoFinderModel_nearest_2 : decode prog_14_method_57_code 2 = .ok (.iload_n 2, 1) := by decide +kernel
theorem zd_LassoFinderModel_nearest_3 : decode prog_14_method_57_code 3 = .ok (.invokevirtual 428, 3) := by decide +kernel
theorem zd_LassoFinderModel_nearest_6 : decode prog_14_method_57_code 6 = .ok (.aload_n 0, 1) := by decide +kernel
theorem zd_LassoFinderModel_nearest_7 : decode prog_14_method_57_code 7 = .ok (.iload_n 1, 1) := by decide +kernel
theorem zd_LassoFinderModel_nearest_8 : decode prog_14_method_57_code 8 = .ok (.iload_n 2, 1) := by decide +kernel
theorem zd_LassoFinderModel_nearest_9 : decode prog_14_method_57_code 9 = .ok (.invokevirtual 419, 3) := by decide +kernel
theorem zd_LassoFinderModel_nearest_12 : decode prog_14_method_57_code 12 = .ok (.istore_n 3, 1) := by decide +kernel
theorem zd_LassoFinderModel_nearest_13 : decode prog_14_method_57_code 13 = .ok (.iconst 0, 1) := by decide +kernel
theorem zd_LassoFinderModel_nearest_14 : decode prog_14_method_57_code 14 = .ok (.istore 4, 2) := by decide +kernel
theorem zd_LassoFinderModel_nearest_16 : decode prog_14_method_57_code 16 = .ok (.aload_n 0, 1) := by decide +kernel
theorem zd_LassoFinderModel_nearest_17 : decode prog_14_method_57_code 17 = .ok (.getfield 109, 3) := by decide +kernel
theorem zd_LassoFinderModel_nearest_20 : decode prog_14_method_57_code 20 = .ok (.iload_n 1, 1) := by decide +kernel
theorem zd_LassoFinderModel_nearest_21 : decode prog_14_method_57_code 21 = .ok (.iaload, 1) := by decide +kernel
theorem zd_LassoFinderModel_nearest_22 : decode prog_14_method_57_code 22 = .ok (.istore 5, 2) := by decide +kernel
theorem zd_LassoFinderModel_nearest_24 : decode prog_14_method_57_code 24 = .ok (.iload 5, 2) := by decide +kernel
theorem zd_LassoFinderModel_nearest_26 : decode prog_14_method_57_code 26 = .ok (.aload_n 0, 1) := by decide +kernel
theorem zd_LassoFinderModel_nearest_27 : decode prog_14_method_57_code 27 = .ok (.getfield 109, 3) := by decide +kernel
theorem zd_LassoFinderModel_nearest_30 : decode prog_14_method_57_code 30 = .ok (.iload_n 1, 1) := by decide +kernel
theorem zd_LassoFinderModel_nearest_31 : decode prog_14_method_57_code 31 = .ok (.iconst 1, 1) := by decide +kernel
theorem zd_LassoFinderModel_nearest_32 : decode prog_14_method_57_code 32 = .ok (.iadd, 1) := by decide +kernel
theorem zd_LassoFinderModel_nearest_33 : decode prog_14_method_57_code 33 = .ok (.iaload, 1) := by decide +kernel
theorem zd_LassoFinderModel_nearest_34 : decode prog_14_method_57_code 34 = .ok (.if_icmp .ge 107, 3) := by decide +kernel
theorem zd_LassoFinderModel_nearest_37 : decode prog_14_method_57_code 37 = .ok (.iconst 0, 1) := by decide +kernel
theorem zd_LassoFinderModel_nearest_38 : decode prog_14_method_57_code 38 = .ok (.istore 6, 2) := by decide +kernel
theorem zd_LassoFinderModel_nearest_40 : decode prog_14_method_57_code 40 = .ok (.iload 6, 2) := by decide +kernel
theorem zd_LassoFinderModel_nearest_42 : decode prog_14_method_57_code 42 = .ok (.iconst 1, 1) := by decide +kernel
theorem zd_LassoFinderModel_nearest_43 : decode prog_14_method_57_code 43 = .ok (.aload_n 0, 1) := by decide +kernel
theorem zd_LassoFinderModel_nearest_44 : decode prog_14_method_57_code 44 = .ok (.getfield 376, 3) := by decide +kernel
theorem zd_LassoFinderModel_nearest_47 : decode prog_14_method_57_code 47 = .ok (.ishl, 1) := by decide +kernel
theorem zd_LassoFinderModel_nearest_48 : decode prog_14_method_57_code 48 = .ok (.if_icmp .ge 87, 3) := by decide +kernel
theorem zd_LassoFinderModel_nearest_51 : decode prog_14_method_57_code 51 = .ok (.aload_n 0, 1) := by decide +kernel
theorem zd_LassoFinderModel_nearest_52 : decode prog_14_method_57_code 52 = .ok (.iload_n 1, 1) := by decide +kernel
theorem zd_LassoFinderModel_nearest_53 : decode prog_14_method_57_code 53 = .ok (.iload 6, 2) := by decide +kernel
theorem zd_LassoFinderModel_nearest_55 : decode prog_14_method_57_code 55 = .ok (.invokevirtual 422, 3) := by decide +kernel
theorem zd_LassoFinderModel_nearest_58 : decode prog_14_method_57_code 58 = .ok (.iload_n 2, 1) := by decide +kernel
theorem zd_LassoFinderModel_nearest_59 : decode prog_14_method_57_code 59 = .ok (.if_icmp .eq 7, 3) := by decide +kernel
theorem zd_LassoFinderModel_nearest_62 : decode prog_14_method_57_code 62 = .ok (.iconst (-1), 1) := by decide +kernel
theorem zd_LassoFinderModel_nearest_63 : decode prog_14_method_57_code 63 = .ok (.goto 39, 3) := by decide +kernel
theorem zd_LassoFinderModel_nearest_66 : decode prog_14_method_57_code 66 = .ok (.aload_n 0, 1) := by decide +kernel
theorem zd_LassoFinderModel_nearest_67 : decode prog_14_method_57_code 67 = .ok (.bipush 64, 2) := by decide +kernel
theorem zd_LassoFinderModel_nearest_69 : decode prog_14_method_57_code 69 = .ok (.aload_n 0, 1) := by decide +kernel
theorem zd_LassoFinderModel_nearest_70 : decode prog_14_method_57_code 70 = .ok (.getfield 112, 3) := by decide +kernel
theorem zd_LassoFinderModel_nearest_73 : decode prog_14_method_57_code 73 = .ok (.iload 5, 2) := by decide +kernel
theorem zd_LassoFinderModel_nearest_75 : decode prog_14_method_57_code 75 = .ok (.iaload, 1) := by decide +kernel
theorem zd_LassoFinderModel_nearest_76 : decode prog_14_method_57_code 76 = .ok (.imul, 1) := by decide +kernel
theorem zd_LassoFinderModel_nearest_77 : decode prog_14_method_57_code 77 = .ok (.bipush 8, 2) := by decide +kernel
theorem zd_LassoFinderModel_nearest_79 : decode prog_14_method_57_code 79 = .ok (.iload 6, 2) := by decide +kernel
theorem zd_LassoFinderModel_nearest_81 : decode prog_14_method_57_code 81 = .ok (.imul, 1) := by decide +kernel
theorem zd_LassoFinderModel_nearest_82 : decode prog_14_method_57_code 82 = .ok (.iadd, 1) := by decide +kernel
theorem zd_LassoFinderModel_nearest_83 : decode prog_14_method_57_code 83 = .ok (.iload_n 3, 1) := by decide +kernel
theorem zd_LassoFinderModel_nearest_84 : decode prog_14_method_57_code 84 = .ok (.aload_n 0, 1) := by decide +kernel
theorem zd_LassoFinderModel_nearest_85 : decode prog_14_method_57_code 85 = .ok (.aload_n 0, 1) := by decide +kernel
theorem zd_LassoFinderModel_nearest_86 : decode prog_14_method_57_code 86 = .ok (.getfield 112, 3) := by decide +kernel
theorem zd_LassoFinderModel_nearest_89 : decode prog_14_method_57_code 89 = .ok (.iload 5, 2) := by decide +kernel
theorem zd_LassoFinderModel_nearest_91 : decode prog_14_method_57_code 91 = .ok (.iaload, 1) := by decide +kernel
theorem zd_LassoFinderModel_nearest_92 : decode prog_14_method_57_code 92 = .ok (.iload 6, 2) := by decide +kernel
theorem zd_LassoFinderModel_nearest_94 : decode prog_14_method_57_code 94 = .ok (.invokevirtual 419, 3) := by decide +kernel
theorem zd_LassoFinderModel_nearest_97 : decode prog_14_method_57_code 97 = .ok (.ior, 1) := by decide +kernel
theorem zd_LassoFinderModel_nearest_98 : decode prog_14_method_57_code 98 = .ok (.iadd, 1) := by decide +kernel
theorem zd_LassoFinderModel_nearest_99 : decode prog_14_method_57_code 99 = .ok (.invokevirtual 425, 3) := by decide +kernel
theorem zd_LassoFinderModel_nearest_102 : decode prog_14_method_57_code 102 = .ok (.istore 7, 2) := by decide +kernel
theorem zd_LassoFinderModel_nearest_104 : decode prog_14_method_57_code 104 = .ok (.iload 7, 2) := by decide +kernel
theorem zd_LassoFinderModel_nearest_106 : decode prog_14_method_57_code 106 = .ok (.ifCond .lt 23, 3) := by decide +kernel
theorem zd_LassoFinderModel_nearest_109 : decode prog_14_method_57_code 109 = .ok (.iload 4, 2) := by decide +kernel
theorem zd_LassoFinderModel_nearest_111 : decode prog_14_method_57_code 111 = .ok (.ifCond .eq 12, 3) := by decide +kernel
theorem zd_LassoFinderModel_nearest_114 : decode prog_14_method_57_code 114 = .ok (.iload 7, 2) := by decide +kernel
theorem zd_LassoFinderModel_nearest_116 : decode prog_14_method_57_code 116 = .ok (.iconst 1, 1) := by decide +kernel
theorem zd_LassoFinderModel_nearest_117 : decode prog_14_method_57_code 117 = .ok (.iadd, 1) := by decide +kernel
theorem zd_LassoFinderModel_nearest_118 : decode prog_14_method_57_code 118 = .ok (.iload 4, 2) := by decide +kernel
theorem zd_LassoFinderModel_nearest_120 : decode prog_14_method_57_code 120 = .ok (.if_icmp .ge 9, 3) := by decide +kernel
theorem zd_LassoFinderModel_nearest_123 : decode prog_14_method_57_code 123 = .ok (.iload 7, 2) := by decide +kernel
theorem zd_LassoFinderModel_nearest_125 : decode prog_14_method_57_code 125 = .ok (.iconst 1, 1) := by decide +kernel
theorem zd_LassoFinderModel_nearest_126 : decode prog_14_method_57_code 126 = .ok (.iadd, 1) := by decide +kernel
theorem zd_LassoFinderModel_nearest_127 : decode prog_14_method_57_code 127 = .ok (.istore 4, 2) := by decide +kernel
theorem zd_LassoFinderModel_nearest_129 : decode prog_14_method_57_code 129 = .ok (.iinc 6 1, 3) := by decide +kernel
theorem zd_LassoFinderModel_nearest_132 : decode prog_14_method_57_code 132 = .ok (.goto (-92), 3) := by decide +kernel
theorem zd_LassoFinderModel_nearest_135 : decode prog_14_method_57_code 135 = .ok (.iinc 5 1, 3) := by decide +kernel
theorem zd_LassoFinderModel_nearest_138 : decode prog_14_method_57_code 138 = .ok (.goto (-114), 3) := by decide +kernel
theorem zd_LassoFinderModel_nearest_141 : decode prog_14_method_57_code 141 = .ok (.iload 4, 2) := by decide +kernel
theorem zd_LassoFinderModel_nearest_143 : decode prog_14_method_57_code 143 = .ok (.ireturn, 1) := by decide +kernel
def wc_LassoFinderModel_measure_294 (a0 : Int32) (a1 : Int32) (Post : (Nat → Int32) → (Nat → Int64) → (Nat → Nat → Int32) → (Nat → Nat → Int64) → Prop)  (I : Nat → Int32) (J : Nat → Int64) (B : Nat → Nat → Int32) (D : Nat → Nat → Int64) : Prop :=
  Post I J B D
def wc_LassoFinderModel_measure_265 (a0 : Int32) (a1 : Int32) (K72 : Int32 → Int32 → Int32 → Int32 → (Nat → Int32) → (Nat → Int64) → (Nat → Nat → Int32) → (Nat → Nat → Int64) → Prop) (K120 : Int32 → Int32 → Int32 → Int32 → Int32 → Int32 → Int32 → Int32 → (Nat → Int32) → (Nat → Int64) → (Nat → Nat → Int32) → (Nat → Nat → Int64) → Prop) (K171 : Int32 → Int32 → Int32 → Int32 → Int32 → Int32 → Int32 → Int32 → Int32 → Int32 → Int32 → Int32 → (Nat → Int32) → (Nat → Int64) → (Nat → Nat → Int32) → (Nat → Nat → Int64) → Prop) (Post : (Nat → Int32) → (Nat → Int64) → (Nat → Nat → Int32) → (Nat → Nat → Int64) → Prop) (x3 : Int32) (x4 : Int32) (x5 : Int32) (x6 : Int32) (x7 : Int32) (x8 : Int32) (x9 : Int32) (x10 : Int32) (x11 : Int32) (x12 : Int32) (x13 : Int32) (x14 : Int32) (I : Nat → Int32) (J : Nat → Int64) (B : Nat → Nat → Int32) (D : Nat → Nat → Int64) : Prop :=
  ∀ z1 : Int32, z1 = (x14 + 1) → K171 x3 x4 x5 x6 x7 x8 x9 x10 x11 x12 x13 z1 I J B D
def wb_LassoFinderModel_measure_171 (a0 : Int32) (a1 : Int32) (K171 : Int32 → Int32 → Int32 → Int32 → Int32 → Int32 → Int32 → Int32 → Int32 → Int32 → Int32 → Int32 → (Nat → Int32) → (Nat → Int64) → (Nat → Nat → Int32) → (Nat → Nat → Int64) → Prop) (K72 : Int32 → Int32 → Int32 → Int32 → (Nat → Int32) → (Nat → Int64) → (Nat → Nat → Int32) → (Nat → Nat → Int64) → Prop) (K120 : Int32 → Int32 → Int32 → Int32 → Int32 → Int32 → Int32 → Int32 → (Nat → Int32) → (Nat → Int64) → (Nat → Nat → Int32) → (Nat → Nat → Int64) → Prop) (Post : (Nat → Int32) → (Nat → Int64) → (Nat → Nat → Int32) → (Nat → Nat → Int64) → Prop) (x3 : Int32) (x4 : Int32) (x5 : Int32) (x6 : Int32) (x7 : Int32) (x8 : Int32) (x9 : Int32) (x10 : Int32) (x11 : Int32) (x12 : Int32) (x13 : Int32) (x14 : Int32) (I : Nat → Int32) (J : Nat → Int64) (B : Nat → Nat → Int32) (D : Nat → Nat → Int64) : Prop :=
  ((x3 < x14 → ∀ z3 : Int32, z3 = (x10 + 1) → K120 x3 x4 x5 x6 x7 x8 x9 z3 I J B D) ∧ (¬ x3 < x14 → ∀ z4 : Int32, z4 = (64 * x11) → ∀ z5 : Int32, z5 = (8 * x12) → ∀ z6 : Int32, z6 = (z4 + z5) → ∀ z7 : Int32, z7 = (z6 + x14) → ∀ z8 : Int32, z8 = (x14 ||| x9) → ∀ z9 : Int32, z9 = (x6 &&& 7) → ((¬ z8 = z9 → wc_LassoFinderModel_measure_265 a0 a1 K72 K120 K171 Post x3 x4 x5 x6 x7 x8 x9 x10 x11 x12 x13 x14 I J B D) ∧ (z8 = z9 → ∀ z11 : Int32, z11 = (x14 ^^^ (-1)) → ∀ z12 : Int32, z12 = (x13 &&& z11) → ((¬ z12 = 0 → wc_LassoFinderModel_measure_265 a0 a1 K72 K120 K171 Post x3 x4 x5 x6 x7 x8 x9 x10 x11 x12 x13 x14 I J B D) ∧ (z12 = 0 → vp_in z7 6144 ∧ ∀ z14 : Int32, z14 = ((B 51) z7.toNatClampNeg) → ((z14 < 0 → wp_LassoFinderModel_away I J B D x6 (fun r16 I16 J16 B16 D16 => ∀ z17 : Int32, z17 = (r16 + 1) → vp_in z7 6144 ∧ vp_in x4 6144 ∧ ∀ z18 : Int32, z18 = ((upd (B16 51) z7.toNatClampNeg z17) x4.toNatClampNeg) → ∀ z19 : Int32, z19 = (z7 + 1) → ∀ z20 : Int32, z20 = (z19 <<< (12 &&& 31)) → ∀ z21 : Int32, z21 = (z18 + z20) → vp_in x4 6144 ∧ wc_LassoFinderModel_measure_265 a0 a1 K72 K120 K171 Post x3 z7 x5 x6 x7 x8 x9 x10 x11 x12 x13 x14 I16 J16 (va_up B16 51 (upd (upd (B16 51) z7.toNatClampNeg z17) x4.toNatClampNeg z21)) D16)) ∧ (¬ z14 < 0 → wc_LassoFinderModel_measure_265 a0 a1 K72 K120 K171 Post x3 x4 x5 x6 x7 x8 x9 x10 x11 x12 x13 x14 I J B D))))))))
def wl_LassoFinderModel_measure_171 (a0 : Int32) (a1 : Int32) (K72 : Int32 → Int32 → Int32 → Int32 → (Nat → Int32) → (Nat → Int64) → (Nat → Nat → Int32) → (Nat → Nat → Int64) → Prop) (K120 : Int32 → Int32 → Int32 → Int32 → Int32 → Int32 → Int32 → Int32 → (Nat → Int32) → (Nat → Int64) → (Nat → Nat → Int32) → (Nat → Nat → Int64) → Prop) (Post : (Nat → Int32) → (Nat → Int64) → (Nat → Nat → Int32) → (Nat → Nat → Int64) → Prop) (n : Nat) : Int32 → Int32 → Int32 → Int32 → Int32 → Int32 → Int32 → Int32 → Int32 → Int32 → Int32 → Int32 → (Nat → Int32) → (Nat → Int64) → (Nat → Nat → Int32) → (Nat → Nat → Int64) → Prop := Nat.rec (fun _ _ _ _ _ _ _ _ _ _ _ _ _ _ _ _ => False) (fun _ r => wb_LassoFinderModel_measure_171 a0 a1 r K72 K120 Post) n
def wb_LassoFinderModel_measure_120 (a0 : Int32) (a1 : Int32) (K120 : Int32 → Int32 → Int32 → Int32 → Int32 → Int32 → Int32 → Int32 → (Nat → Int32) → (Nat → Int64) → (Nat → Nat → Int32) → (Nat → Nat → Int64) → Prop) (K72 : Int32 → Int32 → Int32 → Int32 → (Nat → Int32) → (Nat → Int64) → (Nat → Nat → Int32) → (Nat → Nat → Int64) → Prop) (Post : (Nat → Int32) → (Nat → Int64) → (Nat → Nat → Int32) → (Nat → Nat → Int64) → Prop) (x3 : Int32) (x4 : Int32) (x5 : Int32) (x6 : Int32) (x7 : Int32) (x8 : Int32) (x9 : Int32) (x10 : Int32) (I : Nat → Int32) (J : Nat → Int64) (B : Nat → Nat → Int32) (D : Nat → Nat → Int64) : Prop :=
  ∀ z22 : Int32, z22 = (x7 + 1) → vp_in z22 98 ∧ ∀ z23 : Int32, z23 = ((B 34) z22.toNatClampNeg) → ((z23 ≤ x10 → vp_in x6 6144 ∧ ∀ z25 : Int32, z25 = ((B 51) x6.toNatClampNeg) → ∀ z26 : Int32, z26 = (z25 >>> (12 &&& 31)) → ∀ z27 : Int32, z27 = (z26 - 1) → K72 x3 x4 x5 z27 I J B D) ∧ (¬ z23 ≤ x10 → vp_in x10 401 ∧ ∀ z28 : Int32, z28 = ((B 35) x10.toNatClampNeg) → vp_in z28 401 ∧ ∀ z29 : Int32, z29 = ((B 31) z28.toNatClampNeg) → wp_LassoFinderModel_truthAt I J B D z29 x8 (fun r30 I30 J30 B30 D30 => wp_LassoFinderModel_settled I30 J30 B30 D30 z29 r30 (fun r31 I31 J31 B31 D31 => ∃ n : Nat, wl_LassoFinderModel_measure_171 a0 a1 K72 K120 Post n x3 x4 x5 x6 x7 x8 x9 x10 z29 r30 r31 0 I31 J31 B31 D31))))
def wl_LassoFinderModel_measure_120 (a0 : Int32) (a1 : Int32) (K72 : Int32 → Int32 → Int32 → Int32 → (Nat → Int32) → (Nat → Int64) → (Nat → Nat → Int32) → (Nat → Nat → Int64) → Prop) (Post : (Nat → Int32) → (Nat → Int64) → (Nat → Nat → Int32) → (Nat → Nat → Int64) → Prop) (n : Nat) : Int32 → Int32 → Int32 → Int32 → Int32 → Int32 → Int32 → Int32 → (Nat → Int32) → (Nat → Int64) → (Nat → Nat → Int32) → (Nat → Nat → Int64) → Prop := Nat.rec (fun _ _ _ _ _ _ _ _ _ _ _ _ => False) (fun _ r => wb_LassoFinderModel_measure_120 a0 a1 r K72 Post) n
def wb_LassoFinderModel_measure_72 (a0 : Int32) (a1 : Int32) (K72 : Int32 → Int32 → Int32 → Int32 → (Nat → Int32) → (Nat → Int64) → (Nat → Nat → Int32) → (Nat → Nat → Int64) → Prop) (Post : (Nat → Int32) → (Nat → Int64) → (Nat → Nat → Int32) → (Nat → Nat → Int64) → Prop) (x3 : Int32) (x4 : Int32) (x5 : Int32) (x6 : Int32) (I : Nat → Int32) (J : Nat → Int64) (B : Nat → Nat → Int32) (D : Nat → Nat → Int64) : Prop :=
  ((x6 < 0 → wc_LassoFinderModel_measure_294 a0 a1 Post I J B D) ∧ (¬ x6 < 0 → ((x5 ≤ 0 → wc_LassoFinderModel_measure_294 a0 a1 Post I J B D) ∧ (¬ x5 ≤ 0 → ∀ z34 : Int32, z34 = (x5 + (-1)) → ∀ z35 : Int32, z35 = (x6 >>> (6 &&& 31)) → ∀ z36 : Int32, z36 = (x6 >>> (3 &&& 31)) → ∀ z37 : Int32, z37 = (z36 &&& 7) → wp_LassoFinderModel_settled I J B D z35 z37 (fun r38 I38 J38 B38 D38 => vp_in z35 98 ∧ ∀ z39 : Int32, z39 = ((B38 34) z35.toNatClampNeg) → ∃ n : Nat, wl_LassoFinderModel_measure_120 a0 a1 K72 Post n x3 x4 z34 x6 z35 z37 r38 z39 I38 J38 B38 D38)))))
def wl_LassoFinderModel_measure_72 (a0 : Int32) (a1 : Int32) (Post : (Nat → Int32) → (Nat → Int64) → (Nat → Nat → Int32) → (Nat → Nat → Int64) → Prop) (n : Nat) : Int32 → Int32 → Int32 → Int32 → (Nat → Int32) → (Nat → Int64) → (Nat → Nat → Int32) → (Nat → Nat → Int64) → Prop := Nat.rec (fun _ _ _ _ _ _ _ _ => False) (fun _ r => wb_LassoFinderModel_measure_72 a0 a1 r Post) n
def wb_LassoFinderModel_measure_12 (a0 : Int32) (a1 : Int32) (K12 : Int32 → Int32 → Int32 → Int32 → (Nat → Int32) → (Nat → Int64) → (Nat → Nat → Int32) → (Nat → Nat → Int64) → Prop) (Post : (Nat → Int32) → (Nat → Int64) → (Nat → Nat → Int32) → (Nat → Nat → Int64) → Prop) (x1 : Int32) (x2 : Int32) (x3 : Int32) (x4 : Int32) (I : Nat → Int32) (J : Nat → Int64) (B : Nat → Nat → Int32) (D : Nat → Nat → Int64) : Prop :=
  ∀ z40 : Int32, z40 = (64 * (I 14)) → ((z40 ≤ x4 → ∀ z42 : Int32, z42 = (64 * x1) → ∀ z43 : Int32, z43 = (8 * x2) → ∀ z44 : Int32, z44 = (z42 + z43) → ∀ z45 : Int32, z45 = (z44 + x3) → vp_in z45 6144 ∧ ∀ z46 : Int32, z46 = (64 * (I 14)) → ∃ n : Nat, wl_LassoFinderModel_measure_72 a0 a1 Post n x3 z45 z46 z45 I J (va_up B 51 (upd (B 51) z45.toNatClampNeg 0)) D) ∧ (¬ z40 ≤ x4 → vp_in x4 6144 ∧ ∀ z47 : Int32, z47 = (x4 + 1) → K12 x1 x2 x3 z47 I J (va_up B 51 (upd (B 51) x4.toNatClampNeg (-1))) D))
def wl_LassoFinderModel_measure_12 (a0 : Int32) (a1 : Int32) (Post : (Nat → Int32) → (Nat → Int64) → (Nat → Nat → Int32) → (Nat → Nat → Int64) → Prop) (n : Nat) : Int32 → Int32 → Int32 → Int32 → (Nat → Int32) → (Nat → Int64) → (Nat → Nat → Int32) → (Nat → Nat → Int64) → Prop := Nat.rec (fun _ _ _ _ _ _ _ _ => False) (fun _ r => wb_LassoFinderModel_measure_12 a0 a1 r Post) n
def wp_LassoFinderModel_measure (I : Nat → Int32) (J : Nat → Int64) (B : Nat → Nat → Int32) (D : Nat → Nat → Int64) (a0 : Int32) (a1 : Int32) (Post : (Nat → Int32) → (Nat → Int64) → (Nat → Nat → Int32) → (Nat → Nat → Int64) → Prop) : Prop :=
  ∀ z48 : Int32, z48 = (1 <<< ((I 20) &&& 31)) → ∀ z49 : Int32, z49 = (z48 - 1) → ∃ n : Nat, wl_LassoFinderModel_measure_12 a0 a1 Post n a0 a1 z49 0 I J B D
set_option maxHeartbeats 8000000 in
set_option maxRecDepth 100000 in
theorem wJ_LassoFinderModel_measure_294 {p : Program} {l : Launch} {e : Env} {s : State} {m : MethodId} {below : List Frame} {meth : Method} {c : Code} {A : Nat → Prop} (G : va_G) (K : Nat → ClassId) (ad : Nat → Nat) (a0 : Int32) (a1 : Int32) (Post : (Nat → Int32) → (Nat → Int64) → (Nat → Nat → Int32) → (Nat → Nat → Int64) → Prop) (C : zCx p s m ([.ref (ad 0), .int a0, .int a1] : List Value).toArray meth c A G K prog_14_method_56_code none 16 "LassoFinderModel") : ∀  (I : Nat → Int32) (J : Nat → Int64) (B : Nat → Nat → Int32) (D : Nat → Nat → Int64) (ls : Array Slot) (H : Heap) (locs : List Loc), wc_LassoFinderModel_measure_294 a0 a1 Post  I J B D → lv_has ls 16 [] → zW G A s.heap (wM ad K I J B D) H locs → W p l e { frames := 2, cells := 0, slots := 0, locals := 50 } s m ([.ref (ad 0), .int a0, .int a1] : List Value).toArray below meth c H locs 0 0 (MQ below (va_Qv (fun u : zS => Post u.1 u.2.1 u.2.2.1 u.2.2.2) (fun u t => zPost G K A (wM ad K u.1 u.2.1 u.2.2.1 u.2.2.2) t) A) ([.ref (ad 0), .int a0, .int a1] : List Value).toArray s 0 0 A) (F0 m 294 ls []) := by
  obtain ⟨hx, hb, hr, hml, hts, hown, hlocks, hA, hK⟩ := id C
  intro  I J B D ls H locs hok hl hw
  unfold wc_LassoFinderModel_measure_294 at hok
  exact z_vret (u := (I, J, B, D)) hx hb hr hlocks hw [0, 1, 2, 3, 4, 5, 6, 7, 8, 9, 10, 11, 12, 13, 14, 15, 16, 17, 18, 19, 20, 21, 22, 23, 24, 25, 26, 27, 28, 29, 30, 31, 32, 33, 34, 35, 36, 37, 38, 39, 40, 41, 42, 43, 44, 45, 46, 47, 48, 49, 50, 51, 52, 53, 54, 55, 56, 57] rfl (by decide) hok (Nat.le_of_ble_eq_true rfl) (Nat.le_of_ble_eq_true rfl) zd_LassoFinderModel_measure_294
set_option maxHeartbeats 8000000 in
set_option maxRecDepth 100000 in
theorem wJ_LassoFinderModel_measure_265 {p : Program} {l : Launch} {e : Env} {s : State} {m : MethodId} {below : List Frame} {meth : Method} {c : Code} {A : Nat → Prop} (G : va_G) (K : Nat → ClassId) (ad : Nat → Nat) (a0 : Int32) (a1 : Int32) (Post : (Nat → Int32) → (Nat → Int64) → (Nat → Nat → Int32) → (Nat → Nat → Int64) → Prop) (C : zCx p s m ([.ref (ad 0), .int a0, .int a1] : List Value).toArray meth c A G K prog_14_method_56_code none 16 "LassoFinderModel") (K72 : Int32 → Int32 → Int32 → Int32 → (Nat → Int32) → (Nat → Int64) → (Nat → Nat → Int32) → (Nat → Nat → Int64) → Prop) (kh72 : ∀ (x3 : Int32) (x4 : Int32) (x5 : Int32) (x6 : Int32) (I : Nat → Int32) (J : Nat → Int64) (B : Nat → Nat → Int32) (D : Nat → Nat → Int64) (ls : Array Slot) (H : Heap) (locs : List Loc), K72 x3 x4 x5 x6 I J B D → lv_has ls 16 [(0, .ref (ad 0)), (3, .int x3), (4, .int x4), (5, .int x5), (6, .int x6)] → zW G A s.heap (wM ad K I J B D) H locs → W p l e { frames := 2, cells := 0, slots := 0, locals := 50 } s m ([.ref (ad 0), .int a0, .int a1] : List Value).toArray below meth c H locs 0 0 (MQ below (va_Qv (fun u : zS => Post u.1 u.2.1 u.2.2.1 u.2.2.2) (fun u t => zPost G K A (wM ad K u.1 u.2.1 u.2.2.1 u.2.2.2) t) A) ([.ref (ad 0), .int a0, .int a1] : List Value).toArray s 0 0 A) (F0 m 72 ls [])) (K120 : Int32 → Int32 → Int32 → Int32 → Int32 → Int32 → Int32 → Int32 → (Nat → Int32) → (Nat → Int64) → (Nat → Nat → Int32) → (Nat → Nat → Int64) → Prop) (kh120 : ∀ (x3 : Int32) (x4 : Int32) (x5 : Int32) (x6 : Int32) (x7 : Int32) (x8 : Int32) (x9 : Int32) (x10 : Int32) (I : Nat → Int32) (J : Nat → Int64) (B : Nat → Nat → Int32) (D : Nat → Nat → Int64) (ls : Array Slot) (H : Heap) (locs : List Loc), K120 x3 x4 x5 x6 x7 x8 x9 x10 I J B D → lv_has ls 16 [(0, .ref (ad 0)), (3, .int x3), (4, .int x4), (5, .int x5), (6, .int x6), (7, .int x7), (8, .int x8), (9, .int x9), (10, .int x10)] → zW G A s.heap (wM ad K I J B D) H locs → W p l e { frames := 2, cells := 0, slots := 0, locals := 50 } s m ([.ref (ad 0), .int a0, .int a1] : List Value).toArray below meth c H locs 0 0 (MQ below (va_Qv (fun u : zS => Post u.1 u.2.1 u.2.2.1 u.2.2.2) (fun u t => zPost G K A (wM ad K u.1 u.2.1 u.2.2.1 u.2.2.2) t) A) ([.ref (ad 0), .int a0, .int a1] : List Value).toArray s 0 0 A) (F0 m 120 ls [])) (K171 : Int32 → Int32 → Int32 → Int32 → Int32 → Int32 → Int32 → Int32 → Int32 → Int32 → Int32 → Int32 → (Nat → Int32) → (Nat → Int64) → (Nat → Nat → Int32) → (Nat → Nat → Int64) → Prop) (kh171 : ∀ (x3 : Int32) (x4 : Int32) (x5 : Int32) (x6 : Int32) (x7 : Int32) (x8 : Int32) (x9 : Int32) (x10 : Int32) (x11 : Int32) (x12 : Int32) (x13 : Int32) (x14 : Int32) (I : Nat → Int32) (J : Nat → Int64) (B : Nat → Nat → Int32) (D : Nat → Nat → Int64) (ls : Array Slot) (H : Heap) (locs : List Loc), K171 x3 x4 x5 x6 x7 x8 x9 x10 x11 x12 x13 x14 I J B D → lv_has ls 16 [(0, .ref (ad 0)), (3, .int x3), (4, .int x4), (5, .int x5), (6, .int x6), (7, .int x7), (8, .int x8), (9, .int x9), (10, .int x10), (11, .int x11), (12, .int x12), (13, .int x13), (14, .int x14)] → zW G A s.heap (wM ad K I J B D) H locs → W p l e { frames := 2, cells := 0, slots := 0, locals := 50 } s m ([.ref (ad 0), .int a0, .int a1] : List Value).toArray below meth c H locs 0 0 (MQ below (va_Qv (fun u : zS => Post u.1 u.2.1 u.2.2.1 u.2.2.2) (fun u t => zPost G K A (wM ad K u.1 u.2.1 u.2.2.1 u.2.2.2) t) A) ([.ref (ad 0), .int a0, .int a1] : List Value).toArray s 0 0 A) (F0 m 171 ls [])) : ∀ (x3 : Int32) (x4 : Int32) (x5 : Int32) (x6 : Int32) (x7 : Int32) (x8 : Int32) (x9 : Int32) (x10 : Int32) (x11 : Int32) (x12 : Int32) (x13 : Int32) (x14 : Int32) (I : Nat → Int32) (J : Nat → Int64) (B : Nat → Nat → Int32) (D : Nat → Nat → Int64) (ls : Array Slot) (H : Heap) (locs : List Loc), wc_LassoFinderModel_measure_265 a0 a1 K72 K120 K171 Post x3 x4 x5 x6 x7 x8 x9 x10 x11 x12 x13 x14 I J B D → lv_has ls 16 [(0, .ref (ad 0)), (3, .int x3), (4, .int x4), (5, .int x5), (6, .int x6), (7, .int x7), (8, .int x8), (9, .int x9), (10, .int x10), (11, .int x11), (12, .int x12), (13, .int x13), (14, .int x14)] → zW G A s.heap (wM ad K I J B D) H locs → W p l e { frames := 2, cells := 0, slots := 0, locals := 50 } s m ([.ref (ad 0), .int a0, .int a1] : List Value).toArray below meth c H locs 0 0 (MQ below (va_Qv (fun u : zS => Post u.1 u.2.1 u.2.2.1 u.2.2.2) (fun u t => zPost G K A (wM ad K u.1 u.2.1 u.2.2.1 u.2.2.2) t) A) ([.ref (ad 0), .int a0, .int a1] : List Value).toArray s 0 0 A) (F0 m 265 ls []) := by
  obtain ⟨hx, hb, hr, hml, hts, hown, hlocks, hA, hK⟩ := id C
  intro x3 x4 x5 x6 x7 x8 x9 x10 x11 x12 x13 x14 I J B D ls H locs hok hl hw
  unfold wc_LassoFinderModel_measure_265 at hok
  obtain ⟨z1, ez1⟩ : ∃ z : Int32, z = (x14 + 1) := ⟨_, rfl⟩
  have hok := hok z1 ez1
  refine lv_iinc (v := z1) hx hb zd_LassoFinderModel_measure_265 hl (k := 12) rfl ez1.symm (by decide) rfl (fun ls hl => ?_)
  have hl : lv_has ls 16 [(14, .int z1), (0, .ref (ad 0)), (3, .int x3), (4, .int x4), (5, .int x5), (6, .int x6), (7, .int x7), (8, .int x8), (9, .int x9), (10, .int x10), (11, .int x11), (12, .int x12), (13, .int x13)] := hl
  refine lv_goto (tgt := 171) hx hb zd_LassoFinderModel_measure_268 (by decide) ?_
  exact kh171 x3 x4 x5 x6 x7 x8 x9 x10 x11 x12 x13 z1 I J B D ls H locs hok (lv_sub hl [1, 2, 3, 4, 5, 6, 7, 8, 9, 10, 11, 12, 0] rfl) hw
set_option maxHeartbeats 8000000 in
set_option maxRecDepth 100000 in
theorem wB_LassoFinderModel_measure_171 {p : Program} {l : Launch} {e : Env} {s : State} {m : MethodId} {below : List Frame} {meth : Method} {c : Code} {A : Nat → Prop} (G : va_G) (K : Nat → ClassId) (ad : Nat → Nat) (a0 : Int32) (a1 : Int32) (Post : (Nat → Int32) → (Nat → Int64) → (Nat → Nat → Int32) → (Nat → Nat → Int64) → Prop) (C : zCx p s m ([.ref (ad 0), .int a0, .int a1] : List Value).toArray meth c A G K prog_14_method_56_code none 16 "LassoFinderModel") (K72 : Int32 → Int32 → Int32 → Int32 → (Nat → Int32) → (Nat → Int64) → (Nat → Nat → Int32) → (Nat → Nat → Int64) → Prop) (kh72 : ∀ (x3 : Int32) (x4 : Int32) (x5 : Int32) (x6 : Int32) (I : Nat → Int32) (J : Nat → Int64) (B : Nat → Nat → Int32) (D : Nat → Nat → Int64) (ls : Array Slot) (H : Heap) (locs : List Loc), K72 x3 x4 x5 x6 I J B D → lv_has ls 16 [(0, .ref (ad 0)), (3, .int x3), (4, .int x4), (5, .int x5), (6, .int x6)] → zW G A s.heap (wM ad K I J B D) H locs → W p l e { frames := 2, cells := 0, slots := 0, locals := 50 } s m ([.ref (ad 0), .int a0, .int a1] : List Value).toArray below meth c H locs 0 0 (MQ below (va_Qv (fun u : zS => Post u.1 u.2.1 u.2.2.1 u.2.2.2) (fun u t => zPost G K A (wM ad K u.1 u.2.1 u.2.2.1 u.2.2.2) t) A) ([.ref (ad 0), .int a0, .int a1] : List Value).toArray s 0 0 A) (F0 m 72 ls [])) (K120 : Int32 → Int32 → Int32 → Int32 → Int32 → Int32 → Int32 → Int32 → (Nat → Int32) → (Nat → Int64) → (Nat → Nat → Int32) → (Nat → Nat → Int64) → Prop) (kh120 : ∀ (x3 : Int32) (x4 : Int32) (x5 : Int32) (x6 : Int32) (x7 : Int32) (x8 : Int32) (x9 : Int32) (x10 : Int32) (I : Nat → Int32) (J : Nat → Int64) (B : Nat → Nat → Int32) (D : Nat → Nat → Int64) (ls : Array Slot) (H : Heap) (locs : List Loc), K120 x3 x4 x5 x6 x7 x8 x9 x10 I J B D → lv_has ls 16 [(0, .ref (ad 0)), (3, .int x3), (4, .int x4), (5, .int x5), (6, .int x6), (7, .int x7), (8, .int x8), (9, .int x9), (10, .int x10)] → zW G A s.heap (wM ad K I J B D) H locs → W p l e { frames := 2, cells := 0, slots := 0, locals := 50 } s m ([.ref (ad 0), .int a0, .int a1] : List Value).toArray below meth c H locs 0 0 (MQ below (va_Qv (fun u : zS => Post u.1 u.2.1 u.2.2.1 u.2.2.2) (fun u t => zPost G K A (wM ad K u.1 u.2.1 u.2.2.1 u.2.2.2) t) A) ([.ref (ad 0), .int a0, .int a1] : List Value).toArray s 0 0 A) (F0 m 120 ls [])) (K171 : Int32 → Int32 → Int32 → Int32 → Int32 → Int32 → Int32 → Int32 → Int32 → Int32 → Int32 → Int32 → (Nat → Int32) → (Nat → Int64) → (Nat → Nat → Int32) → (Nat → Nat → Int64) → Prop) (kh171 : ∀ (x3 : Int32) (x4 : Int32) (x5 : Int32) (x6 : Int32) (x7 : Int32) (x8 : Int32) (x9 : Int32) (x10 : Int32) (x11 : Int32) (x12 : Int32) (x13 : Int32) (x14 : Int32) (I : Nat → Int32) (J : Nat → Int64) (B : Nat → Nat → Int32) (D : Nat → Nat → Int64) (ls : Array Slot) (H : Heap) (locs : List Loc), K171 x3 x4 x5 x6 x7 x8 x9 x10 x11 x12 x13 x14 I J B D → lv_has ls 16 [(0, .ref (ad 0)), (3, .int x3), (4, .int x4), (5, .int x5), (6, .int x6), (7, .int x7), (8, .int x8), (9, .int x9), (10, .int x10), (11, .int x11), (12, .int x12), (13, .int x13), (14, .int x14)] → zW G A s.heap (wM ad K I J B D) H locs → W p l e { frames := 2, cells := 0, slots := 0, locals := 50 } s m ([.ref (ad 0), .int a0, .int a1] : List Value).toArray below meth c H locs 0 0 (MQ below (va_Qv (fun u : zS => Post u.1 u.2.1 u.2.2.1 u.2.2.2) (fun u t => zPost G K A (wM ad K u.1 u.2.1 u.2.2.1 u.2.2.2) t) A) ([.ref (ad 0), .int a0, .int a1] : List Value).toArray s 0 0 A) (F0 m 171 ls [])) : ∀ (x3 : Int32) (x4 : Int32) (x5 : Int32) (x6 : Int32) (x7 : Int32) (x8 : Int32) (x9 : Int32) (x10 : Int32) (x11 : Int32) (x12 : Int32) (x13 : Int32) (x14 : Int32) (I : Nat → Int32) (J : Nat → Int64) (B : Nat → Nat → Int32) (D : Nat → Nat → Int64) (ls : Array Slot) (H : Heap) (locs : List Loc), wb_LassoFinderModel_measure_171 a0 a1 K171 K72 K120 Post x3 x4 x5 x6 x7 x8 x9 x10 x11 x12 x13 x14 I J B D → lv_has ls 16 [(0, .ref (ad 0)), (3, .int x3), (4, .int x4), (5, .int x5), (6, .int x6), (7, .int x7), (8, .int x8), (9, .int x9), (10, .int x10), (11, .int x11), (12, .int x12), (13, .int x13), (14, .int x14)] → zW G A s.heap (wM ad K I J B D) H locs → W p l e { frames := 2, cells := 0, slots := 0, locals := 50 } s m ([.ref (ad 0), .int a0, .int a1] : List Value).toArray below meth c H locs 0 0 (MQ below (va_Qv (fun u : zS => Post u.1 u.2.1 u.2.2.1 u.2.2.2) (fun u t => zPost G K A (wM ad K u.1 u.2.1 u.2.2.1 u.2.2.2) t) A) ([.ref (ad 0), .int a0, .int a1] : List Value).toArray s 0 0 A) (F0 m 171 ls []) := by
  obtain ⟨hx, hb, hr, hml, hts, hown, hlocks, hA, hK⟩ := id C
  intro x3 x4 x5 x6 x7 x8 x9 x10 x11 x12 x13 x14 I J B D ls H locs hok hl hw
  unfold wb_LassoFinderModel_measure_171 at hok
  refine lv_iload hx hb zd_LassoFinderModel_measure_171 (lv_at hl 12 rfl) ?_
  refine lv_iload_n hx hb zd_LassoFinderModel_measure_173 rfl (lv_at hl 1 rfl) ?_
  refine lv_icmp_gt (tgt := 271) hx hb zd_LassoFinderModel_measure_174 (by decide) (fun hc2 => ?_) (fun hc2 => ?_)
  · have hok := hok.1 hc2
    obtain ⟨z3, ez3⟩ : ∃ z : Int32, z = (x10 + 1) := ⟨_, rfl⟩
    have hok := hok z3 ez3
    refine lv_iinc (v := z3) hx hb zd_LassoFinderModel_measure_271 hl (k := 8) rfl ez3.symm (by decide) rfl (fun ls hl => ?_)
    have hl : lv_has ls 16 [(10, .int z3), (0, .ref (ad 0)), (3, .int x3), (4, .int x4), (5, .int x5), (6, .int x6), (7, .int x7), (8, .int x8), (9, .int x9), (11, .int x11), (12, .int x12), (13, .int x13), (14, .int x14)] := hl
    refine lv_goto (tgt := 120) hx hb zd_LassoFinderModel_measure_274 (by decide) ?_
    exact kh120 x3 x4 x5 x6 x7 x8 x9 z3 I J B D ls H locs hok (lv_sub hl [1, 2, 3, 4, 5, 6, 7, 8, 0] rfl) hw
  · have hok := hok.2 hc2
    refine lv_bipush (v := 64) hx hb zd_LassoFinderModel_measure_177 (by decide) ?_
    refine lv_iload hx hb zd_LassoFinderModel_measure_179 (lv_at hl 9 rfl) ?_
    refine lv_imul hx hb zd_LassoFinderModel_measure_181 ?_
    refine lv_topi (fun z4 ez4 => ?_)
    have hok := hok z4 ez4
    refine lv_bipush (v := 8) hx hb zd_LassoFinderModel_measure_182 (by decide) ?_
    refine lv_iload hx hb zd_LassoFinderModel_measure_184 (lv_at hl 10 rfl) ?_
    refine lv_imul hx hb zd_LassoFinderModel_measure_186 ?_
    refine lv_topi (fun z5 ez5 => ?_)
    have hok := hok z5 ez5
    refine lv_iadd hx hb zd_LassoFinderModel_measure_187 ?_
    refine lv_topi (fun z6 ez6 => ?_)
    have hok := hok z6 ez6
    refine lv_iload hx hb zd_LassoFinderModel_measure_188 (lv_at hl 12 rfl) ?_
    refine lv_iadd hx hb zd_LassoFinderModel_measure_190 ?_
    refine lv_topi (fun z7 ez7 => ?_)
    have hok := hok z7 ez7
    refine lv_istore hx hb zd_LassoFinderModel_measure_191 hl (by decide) rfl (fun ls hl => ?_)
    have hl : lv_has ls 16 [(15, .int z7), (0, .ref (ad 0)), (3, .int x3), (4, .int x4), (5, .int x5), (6, .int x6), (7, .int x7), (8, .int x8), (9, .int x9), (10, .int x10), (11, .int x11), (12, .int x12), (13, .int x13), (14, .int x14)] := hl
    refine lv_iload hx hb zd_LassoFinderModel_measure_193 (lv_at hl 13 rfl) ?_
    refine lv_iload hx hb zd_LassoFinderModel_measure_195 (lv_at hl 8 rfl) ?_
    refine lv_ior hx hb zd_LassoFinderModel_measure_197 ?_
    refine lv_topi (fun z8 ez8 => ?_)
    have hok := hok z8 ez8
    refine lv_iload hx hb zd_LassoFinderModel_measure_198 (lv_at hl 5 rfl) ?_
    refine lv_bipush (v := 7) hx hb zd_LassoFinderModel_measure_200 (by decide) ?_
    refine lv_iand hx hb zd_LassoFinderModel_measure_202 ?_
    refine lv_topi (fun z9 ez9 => ?_)
    have hok := hok z9 ez9
    refine lv_icmp_ne (tgt := 265) hx hb zd_LassoFinderModel_measure_203 (by decide) (fun hc10 => ?_) (fun hc10 => ?_)
    · have hok := hok.1 hc10
      exact wJ_LassoFinderModel_measure_265 G K ad a0 a1 Post C K72 kh72 K120 kh120 K171 kh171 x3 x4 x5 x6 x7 x8 x9 x10 x11 x12 x13 x14 I J B D ls H locs hok (lv_sub hl [1, 2, 3, 4, 5, 6, 7, 8, 9, 10, 11, 12, 13] rfl) hw
    · have hok := hok.2 hc10
      refine lv_iload hx hb zd_LassoFinderModel_measure_206 (lv_at hl 12 rfl) ?_
      refine lv_iload hx hb zd_LassoFinderModel_measure_208 (lv_at hl 13 rfl) ?_
      refine lv_iconst (v := (-1)) hx hb zd_LassoFinderModel_measure_210 (by decide) ?_
      refine lv_ixor hx hb zd_LassoFinderModel_measure_211 ?_
      refine lv_topi (fun z11 ez11 => ?_)
      have hok := hok z11 ez11
      refine lv_iand hx hb zd_LassoFinderModel_measure_212 ?_
      refine lv_topi (fun z12 ez12 => ?_)
      have hok := hok z12 ez12
      refine lv_if_ne (tgt := 265) hx hb zd_LassoFinderModel_measure_213 (by decide) (fun hc13 => ?_) (fun hc13 => ?_)
      · have hok := hok.1 hc13
        exact wJ_LassoFinderModel_measure_265 G K ad a0 a1 Post C K72 kh72 K120 kh120 K171 kh171 x3 x4 x5 x6 x7 x8 x9 x10 x11 x12 x13 x14 I J B D ls H locs hok (lv_sub hl [1, 2, 3, 4, 5, 6, 7, 8, 9, 10, 11, 12, 13] rfl) hw
      · have hok := hok.2 hc13
        refine lv_aload_n hx hb zd_LassoFinderModel_measure_216 rfl (lv_at hl 1 rfl) ?_
        refine z_get (v := .ref (ad 54)) hx hb hts hown hK hw zZ12 0 rfl 77 (by decide) zm_288 rfl zd_LassoFinderModel_measure_217 ?_
        refine lv_iload hx hb zd_LassoFinderModel_measure_220 (lv_at hl 0 rfl) ?_
        refine va_iald (f := (B 51)) hx hb hK hw.1 54 0 rfl rfl hok.1 zd_LassoFinderModel_measure_222 ?_
        have hok := hok.2
        refine lv_topi (fun z14 ez14 => ?_)
        have hok := hok z14 ez14
        refine lv_if_lt (tgt := 229) hx hb zd_LassoFinderModel_measure_223 (by decide) (fun hc15 => ?_) (fun hc15 => ?_)
        · have hok := hok.1 hc15
          refine lv_aload_n hx hb zd_LassoFinderModel_measure_229 rfl (lv_at hl 1 rfl) ?_
          refine z_get (v := .ref (ad 54)) hx hb hts hown hK hw zZ12 0 rfl 77 (by decide) zm_288 rfl zd_LassoFinderModel_measure_230 ?_
          refine lv_iload hx hb zd_LassoFinderModel_measure_233 (lv_at hl 0 rfl) ?_
          refine lv_aload_n hx hb zd_LassoFinderModel_measure_235 rfl (lv_at hl 1 rfl) ?_
          refine lv_iload hx hb zd_LassoFinderModel_measure_236 (lv_at hl 5 rfl) ?_
          refine z_calli (w1 := fun (u : zS) => wM ad K u.1 u.2.1 u.2.2.1 u.2.2.2) (wr := []) (z_runV (q0 := 0) (wc := (wM ad K I J B D)) (As := [.int x6]) (rest := [.int z7, .ref (ad 54)]) ⟨hx, hb, hml, hown, hts⟩ (w_LassoFinderModel_away l G K ad I J B D x6 _ H.size hok) zf_LassoFinderModel_away zm_376 ⟨Nat.le_of_ble_eq_true rfl, Nat.le_of_ble_eq_true rfl⟩ hK hw [0, 1, 2, 3, 4, 5, 6, 7, 8, 9, 10, 11, 12, 13, 14, 15, 16, 17, 18, 19, 20, 21, 22, 23, 24, 25, 26, 27, 28, 29, 30, 31, 32, 33, 34, 35, 36, 37, 38, 39, 40, 41, 42, 43, 44, 45, 46, 47, 48, 49, 50, 51, 52, 53, 54, 55, 56, 57] rfl (by decide) rfl rfl rfl hl.1 rfl (Nat.le_of_ble_eq_true rfl) zd_LassoFinderModel_measure_238 ⟨Nat.le_of_ble_eq_true rfl, Nat.le_of_ble_eq_true rfl⟩) hw hA [0, 1, 2, 3, 4, 5, 6, 7, 8, 9, 10, 11, 12, 13, 14, 15, 16, 17, 18, 19, 20, 21, 22, 23, 24, 25, 26, 27, 28, 29, 30, 31, 32, 33, 34, 35, 36, 37, 38, 39, 40, 41, 42, 43, 44, 45, 46, 47, 48, 49, 50, 51, 52, 53, 54, 55, 56, 57] [] rfl rfl (by decide) (by decide) (fun r16 u H locs hok hw => ?_)
          obtain ⟨I16, J16, B16, D16⟩ := u
          dsimp only at hok
          have hw : zW G A s.heap (wM ad K I16 J16 B16 D16) H locs := hw
          refine lv_iconst (v := 1) hx hb zd_LassoFinderModel_measure_241 (by decide) ?_
          refine lv_iadd hx hb zd_LassoFinderModel_measure_242 ?_
          refine lv_topi (fun z17 ez17 => ?_)
          have hok := hok z17 ez17
          refine va_iast (f := (B16 51)) hx hb hK hw.1 hw.2.1 hw.2.2 54 0 rfl rfl hok.1 zd_LassoFinderModel_measure_243 (fun H locs w91 w92 w93 => ?_)
          have hok := hok.2
          have hw : zW G A s.heap _ H locs := ⟨w91, w92, w93⟩
          have hw : zW G A s.heap (wM ad K I16 J16 (va_up B16 51 (upd (B16 51) z7.toNatClampNeg z17)) D16) H locs := hw
          refine lv_aload_n hx hb zd_LassoFinderModel_measure_244 rfl (lv_at hl 1 rfl) ?_
          refine z_get (v := .ref (ad 54)) hx hb hts hown hK hw zZ12 0 rfl 77 (by decide) zm_288 rfl zd_LassoFinderModel_measure_245 ?_
          refine lv_iload hx hb zd_LassoFinderModel_measure_248 (lv_at hl 3 rfl) ?_
          refine lv_dup2_11 hx hb zd_LassoFinderModel_measure_250 rfl rfl ?_
          refine va_iald (f := (upd (B16 51) z7.toNatClampNeg z17)) hx hb hK hw.1 54 0 rfl rfl hok.1 zd_LassoFinderModel_measure_251 ?_
          have hok := hok.2
          refine lv_topi (fun z18 ez18 => ?_)
          have hok := hok z18 ez18
          refine lv_iload hx hb zd_LassoFinderModel_measure_252 (lv_at hl 0 rfl) ?_
          refine lv_iconst (v := 1) hx hb zd_LassoFinderModel_measure_254 (by decide) ?_
          refine lv_iadd hx hb zd_LassoFinderModel_measure_255 ?_
          refine lv_topi (fun z19 ez19 => ?_)
          have hok := hok z19 ez19
          refine lv_bipush (v := 12) hx hb zd_LassoFinderModel_measure_256 (by decide) ?_
          refine lv_ishl hx hb zd_LassoFinderModel_measure_258 ?_
          refine lv_topi (fun z20 ez20 => ?_)
          have hok := hok z20 ez20
          refine lv_iadd hx hb zd_LassoFinderModel_measure_259 ?_
          refine lv_topi (fun z21 ez21 => ?_)
          have hok := hok z21 ez21
          refine va_iast (f := (upd (B16 51) z7.toNatClampNeg z17)) hx hb hK hw.1 hw.2.1 hw.2.2 54 0 rfl rfl hok.1 zd_LassoFinderModel_measure_260 (fun H locs w91 w92 w93 => ?_)
          have hok := hok.2
          have hw : zW G A s.heap _ H locs := ⟨w91, w92, w93⟩
          have hw : zW G A s.heap (wM ad K I16 J16 (va_up B16 51 (upd (upd (B16 51) z7.toNatClampNeg z17) x4.toNatClampNeg z21)) D16) H locs := hw
          refine lv_iload hx hb zd_LassoFinderModel_measure_261 (lv_at hl 0 rfl) ?_
          refine lv_istore hx hb zd_LassoFinderModel_measure_263 hl (by decide) rfl (fun ls hl => ?_)
          have hl : lv_has ls 16 [(4, .int z7), (15, .int z7), (0, .ref (ad 0)), (3, .int x3), (5, .int x5), (6, .int x6), (7, .int x7), (8, .int x8), (9, .int x9), (10, .int x10), (11, .int x11), (12, .int x12), (13, .int x13), (14, .int x14)] := hl
          exact wJ_LassoFinderModel_measure_265 G K ad a0 a1 Post C K72 kh72 K120 kh120 K171 kh171 x3 z7 x5 x6 x7 x8 x9 x10 x11 x12 x13 x14 I16 J16 (va_up B16 51 (upd (upd (B16 51) z7.toNatClampNeg z17) x4.toNatClampNeg z21)) D16 ls H locs hok (lv_sub hl [2, 3, 0, 4, 5, 6, 7, 8, 9, 10, 11, 12, 13] rfl) hw
        · have hok := hok.2 hc15
          refine lv_goto (tgt := 265) hx hb zd_LassoFinderModel_measure_226 (by decide) ?_
          exact wJ_LassoFinderModel_measure_265 G K ad a0 a1 Post C K72 kh72 K120 kh120 K171 kh171 x3 x4 x5 x6 x7 x8 x9 x10 x11 x12 x13 x14 I J B D ls H locs hok (lv_sub hl [1, 2, 3, 4, 5, 6, 7, 8, 9, 10, 11, 12, 13] rfl) hw
theorem wL_LassoFinderModel_measure_171 {p : Program} {l : Launch} {e : Env} {s : State} {m : MethodId} {below : List Frame} {meth : Method} {c : Code} {A : Nat → Prop} (G : va_G) (K : Nat → ClassId) (ad : Nat → Nat) (a0 : Int32) (a1 : Int32) (Post : (Nat → Int32) → (Nat → Int64) → (Nat → Nat → Int32) → (Nat → Nat → Int64) → Prop) (C : zCx p s m ([.ref (ad 0), .int a0, .int a1] : List Value).toArray meth c A G K prog_14_method_56_code none 16 "LassoFinderModel") (K72 : Int32 → Int32 → Int32 → Int32 → (Nat → Int32) → (Nat → Int64) → (Nat → Nat → Int32) → (Nat → Nat → Int64) → Prop) (kh72 : ∀ (x3 : Int32) (x4 : Int32) (x5 : Int32) (x6 : Int32) (I : Nat → Int32) (J : Nat → Int64) (B : Nat → Nat → Int32) (D : Nat → Nat → Int64) (ls : Array Slot) (H : Heap) (locs : List Loc), K72 x3 x4 x5 x6 I J B D → lv_has ls 16 [(0, .ref (ad 0)), (3, .int x3), (4, .int x4), (5, .int x5), (6, .int x6)] → zW G A s.heap (wM ad K I J B D) H locs → W p l e { frames := 2, cells := 0, slots := 0, locals := 50 } s m ([.ref (ad 0), .int a0, .int a1] : List Value).toArray below meth c H locs 0 0 (MQ below (va_Qv (fun u : zS => Post u.1 u.2.1 u.2.2.1 u.2.2.2) (fun u t => zPost G K A (wM ad K u.1 u.2.1 u.2.2.1 u.2.2.2) t) A) ([.ref (ad 0), .int a0, .int a1] : List Value).toArray s 0 0 A) (F0 m 72 ls [])) (K120 : Int32 → Int32 → Int32 → Int32 → Int32 → Int32 → Int32 → Int32 → (Nat → Int32) → (Nat → Int64) → (Nat → Nat → Int32) → (Nat → Nat → Int64) → Prop) (kh120 : ∀ (x3 : Int32) (x4 : Int32) (x5 : Int32) (x6 : Int32) (x7 : Int32) (x8 : Int32) (x9 : Int32) (x10 : Int32) (I : Nat → Int32) (J : Nat → Int64) (B : Nat → Nat → Int32) (D : Nat → Nat → Int64) (ls : Array Slot) (H : Heap) (locs : List Loc), K120 x3 x4 x5 x6 x7 x8 x9 x10 I J B D → lv_has ls 16 [(0, .ref (ad 0)), (3, .int x3), (4, .int x4), (5, .int x5), (6, .int x6), (7, .int x7), (8, .int x8), (9, .int x9), (10, .int x10)] → zW G A s.heap (wM ad K I J B D) H locs → W p l e { frames := 2, cells := 0, slots := 0, locals := 50 } s m ([.ref (ad 0), .int a0, .int a1] : List Value).toArray below meth c H locs 0 0 (MQ below (va_Qv (fun u : zS => Post u.1 u.2.1 u.2.2.1 u.2.2.2) (fun u t => zPost G K A (wM ad K u.1 u.2.1 u.2.2.1 u.2.2.2) t) A) ([.ref (ad 0), .int a0, .int a1] : List Value).toArray s 0 0 A) (F0 m 120 ls [])) : ∀ (n : Nat) (x3 : Int32) (x4 : Int32) (x5 : Int32) (x6 : Int32) (x7 : Int32) (x8 : Int32) (x9 : Int32) (x10 : Int32) (x11 : Int32) (x12 : Int32) (x13 : Int32) (x14 : Int32) (I : Nat → Int32) (J : Nat → Int64) (B : Nat → Nat → Int32) (D : Nat → Nat → Int64) (ls : Array Slot) (H : Heap) (locs : List Loc), wl_LassoFinderModel_measure_171 a0 a1 K72 K120 Post n x3 x4 x5 x6 x7 x8 x9 x10 x11 x12 x13 x14 I J B D → lv_has ls 16 [(0, .ref (ad 0)), (3, .int x3), (4, .int x4), (5, .int x5), (6, .int x6), (7, .int x7), (8, .int x8), (9, .int x9), (10, .int x10), (11, .int x11), (12, .int x12), (13, .int x13), (14, .int x14)] → zW G A s.heap (wM ad K I J B D) H locs → W p l e { frames := 2, cells := 0, slots := 0, locals := 50 } s m ([.ref (ad 0), .int a0, .int a1] : List Value).toArray below meth c H locs 0 0 (MQ below (va_Qv (fun u : zS => Post u.1 u.2.1 u.2.2.1 u.2.2.2) (fun u t => zPost G K A (wM ad K u.1 u.2.1 u.2.2.1 u.2.2.2) t) A) ([.ref (ad 0), .int a0, .int a1] : List Value).toArray s 0 0 A) (F0 m 171 ls []) := by
  intro n
  induction n with
  | zero => intro x3 x4 x5 x6 x7 x8 x9 x10 x11 x12 x13 x14 I J B D ls H locs hok; exact hok.elim
  | succ n ih => exact wB_LassoFinderModel_measure_171 G K ad a0 a1 Post C K72 kh72 K120 kh120 (wl_LassoFinderModel_measure_171 a0 a1 K72 K120 Post n) ih
set_option maxHeartbeats 8000000 in
set_option maxRecDepth 100000 in
theorem wB_LassoFinderModel_measure_120 {p : Program} {l : Launch} {e : Env} {s : State} {m : MethodId} {below : List Frame} {meth : Method} {c : Code} {A : Nat → Prop} (G : va_G) (K : Nat → ClassId) (ad : Nat → Nat) (a0 : Int32) (a1 : Int32) (Post : (Nat → Int32) → (Nat → Int64) → (Nat → Nat → Int32) → (Nat → Nat → Int64) → Prop) (C : zCx p s m ([.ref (ad 0), .int a0, .int a1] : List Value).toArray meth c A G K prog_14_method_56_code none 16 "LassoFinderModel") (K72 : Int32 → Int32 → Int32 → Int32 → (Nat → Int32) → (Nat → Int64) → (Nat → Nat → Int32) → (Nat → Nat → Int64) → Prop) (kh72 : ∀ (x3 : Int32) (x4 : Int32) (x5 : Int32) (x6 : Int32) (I : Nat → Int32) (J : Nat → Int64) (B : Nat → Nat → Int32) (D : Nat → Nat → Int64) (ls : Array Slot) (H : Heap) (locs : List Loc), K72 x3 x4 x5 x6 I J B D → lv_has ls 16 [(0, .ref (ad 0)), (3, .int x3), (4, .int x4), (5, .int x5), (6, .int x6)] → zW G A s.heap (wM ad K I J B D) H locs → W p l e { frames := 2, cells := 0, slots := 0, locals := 50 } s m ([.ref (ad 0), .int a0, .int a1] : List Value).toArray below meth c H locs 0 0 (MQ below (va_Qv (fun u : zS => Post u.1 u.2.1 u.2.2.1 u.2.2.2) (fun u t => zPost G K A (wM ad K u.1 u.2.1 u.2.2.1 u.2.2.2) t) A) ([.ref (ad 0), .int a0, .int a1] : List Value).toArray s 0 0 A) (F0 m 72 ls [])) (K120 : Int32 → Int32 → Int32 → Int32 → Int32 → Int32 → Int32 → Int32 → (Nat → Int32) → (Nat → Int64) → (Nat → Nat → Int32) → (Nat → Nat → Int64) → Prop) (kh120 : ∀ (x3 : Int32) (x4 : Int32) (x5 : Int32) (x6 : Int32) (x7 : Int32) (x8 : Int32) (x9 : Int32) (x10 : Int32) (I : Nat → Int32) (J : Nat → Int64) (B : Nat → Nat → Int32) (D : Nat → Nat → Int64) (ls : Array Slot) (H : Heap) (locs : List Loc), K120 x3 x4 x5 x6 x7 x8 x9 x10 I J B D → lv_has ls 16 [(0, .ref (ad 0)), (3, .int x3), (4, .int x4), (5, .int x5), (6, .int x6), (7, .int x7), (8, .int x8), (9, .int x9), (10, .int x10)] → zW G A s.heap (wM ad K I J B D) H locs → W p l e { frames := 2, cells := 0, slots := 0, locals := 50 } s m ([.ref (ad 0), .int a0, .int a1] : List Value).toArray below meth c H locs 0 0 (MQ below (va_Qv (fun u : zS => Post u.1 u.2.1 u.2.2.1 u.2.2.2) (fun u t => zPost G K A (wM ad K u.1 u.2.1 u.2.2.1 u.2.2.2) t) A) ([.ref (ad 0), .int a0, .int a1] : List Value).toArray s 0 0 A) (F0 m 120 ls [])) : ∀ (x3 : Int32) (x4 : Int32) (x5 : Int32) (x6 : Int32) (x7 : Int32) (x8 : Int32) (x9 : Int32) (x10 : Int32) (I : Nat → Int32) (J : Nat → Int64) (B : Nat → Nat → Int32) (D : Nat → Nat → Int64) (ls : Array Slot) (H : Heap) (locs : List Loc), wb_LassoFinderModel_measure_120 a0 a1 K120 K72 Post x3 x4 x5 x6 x7 x8 x9 x10 I J B D → lv_has ls 16 [(0, .ref (ad 0)), (3, .int x3), (4, .int x4), (5, .int x5), (6, .int x6), (7, .int x7), (8, .int x8), (9, .int x9), (10, .int x10)] → zW G A s.heap (wM ad K I J B D) H locs → W p l e { frames := 2, cells := 0, slots := 0, locals := 50 } s m ([.ref (ad 0), .int a0, .int a1] : List Value).toArray below meth c H locs 0 0 (MQ below (va_Qv (fun u : zS => Post u.1 u.2.1 u.2.2.1 u.2.2.2) (fun u t => zPost G K A (wM ad K u.1 u.2.1 u.2.2.1 u.2.2.2) t) A) ([.ref (ad 0), .int a0, .int a1] : List Value).toArray s 0 0 A) (F0 m 120 ls []) := by
  obtain ⟨hx, hb, hr, hml, hts, hown, hlocks, hA, hK⟩ := id C
  intro x3 x4 x5 x6 x7 x8 x9 x10 I J B D ls H locs hok hl hw
  unfold wb_LassoFinderModel_measure_120 at hok
  refine lv_iload hx hb zd_LassoFinderModel_measure_120 (lv_at hl 8 rfl) ?_
  refine lv_aload_n hx hb zd_LassoFinderModel_measure_122 rfl (lv_at hl 0 rfl) ?_
  refine z_get (v := .ref (ad 37)) hx hb hts hown hK hw zZ12 0 rfl 53 (by decide) zm_271 rfl zd_LassoFinderModel_measure_123 ?_
  refine lv_iload hx hb zd_LassoFinderModel_measure_126 (lv_at hl 5 rfl) ?_
  refine lv_iconst (v := 1) hx hb zd_LassoFinderModel_measure_128 (by decide) ?_
  refine lv_iadd hx hb zd_LassoFinderModel_measure_129 ?_
  refine lv_topi (fun z22 ez22 => ?_)
  have hok := hok z22 ez22
  refine va_iald (f := (B 34)) hx hb hK hw.1 37 0 rfl rfl hok.1 zd_LassoFinderModel_measure_130 ?_
  have hok := hok.2
  refine lv_topi (fun z23 ez23 => ?_)
  have hok := hok z23 ez23
  refine lv_icmp_ge (tgt := 277) hx hb zd_LassoFinderModel_measure_131 (by decide) (fun hc24 => ?_) (fun hc24 => ?_)
  · have hok := hok.1 hc24
    refine lv_aload_n hx hb zd_LassoFinderModel_measure_277 rfl (lv_at hl 0 rfl) ?_
    refine z_get (v := .ref (ad 54)) hx hb hts hown hK hw zZ12 0 rfl 77 (by decide) zm_288 rfl zd_LassoFinderModel_measure_278 ?_
    refine lv_iload hx hb zd_LassoFinderModel_measure_281 (lv_at hl 4 rfl) ?_
    refine va_iald (f := (B 51)) hx hb hK hw.1 54 0 rfl rfl hok.1 zd_LassoFinderModel_measure_283 ?_
    have hok := hok.2
    refine lv_topi (fun z25 ez25 => ?_)
    have hok := hok z25 ez25
    refine lv_bipush (v := 12) hx hb zd_LassoFinderModel_measure_284 (by decide) ?_
    refine lv_ishr hx hb zd_LassoFinderModel_measure_286 ?_
    refine lv_topi (fun z26 ez26 => ?_)
    have hok := hok z26 ez26
    refine lv_iconst (v := 1) hx hb zd_LassoFinderModel_measure_287 (by decide) ?_
    refine lv_isub hx hb zd_LassoFinderModel_measure_288 ?_
    refine lv_topi (fun z27 ez27 => ?_)
    have hok := hok z27 ez27
    refine lv_istore hx hb zd_LassoFinderModel_measure_289 hl (by decide) rfl (fun ls hl => ?_)
    have hl : lv_has ls 16 [(6, .int z27), (0, .ref (ad 0)), (3, .int x3), (4, .int x4), (5, .int x5), (7, .int x7), (8, .int x8), (9, .int x9), (10, .int x10)] := hl
    refine lv_goto (tgt := 72) hx hb zd_LassoFinderModel_measure_291 (by decide) ?_
    exact kh72 x3 x4 x5 z27 I J B D ls H locs hok (lv_sub hl [1, 2, 3, 4, 0] rfl) hw
  · have hok := hok.2 hc24
    refine lv_aload_n hx hb zd_LassoFinderModel_measure_134 rfl (lv_at hl 0 rfl) ?_
    refine z_get (v := .ref (ad 34)) hx hb hts hown hK hw zZ12 0 rfl 50 (by decide) zm_268 rfl zd_LassoFinderModel_measure_135 ?_
    refine lv_aload_n hx hb zd_LassoFinderModel_measure_138 rfl (lv_at hl 0 rfl) ?_
    refine z_get (v := .ref (ad 38)) hx hb hts hown hK hw zZ12 0 rfl 54 (by decide) zm_272 rfl zd_LassoFinderModel_measure_139 ?_
    refine lv_iload hx hb zd_LassoFinderModel_measure_142 (lv_at hl 8 rfl) ?_
    refine va_iald (f := (B 35)) hx hb hK hw.1 38 0 rfl rfl hok.1 zd_LassoFinderModel_measure_144 ?_
    have hok := hok.2
    refine lv_topi (fun z28 ez28 => ?_)
    have hok := hok z28 ez28
    refine va_iald (f := (B 31)) hx hb hK hw.1 34 0 rfl rfl hok.1 zd_LassoFinderModel_measure_145 ?_
    have hok := hok.2
    refine lv_topi (fun z29 ez29 => ?_)
    have hok := hok z29 ez29
    refine lv_istore hx hb zd_LassoFinderModel_measure_146 hl (by decide) rfl (fun ls hl => ?_)
    have hl : lv_has ls 16 [(11, .int z29), (0, .ref (ad 0)), (3, .int x3), (4, .int x4), (5, .int x5), (6, .int x6), (7, .int x7), (8, .int x8), (9, .int x9), (10, .int x10)] := hl
    refine lv_aload_n hx hb zd_LassoFinderModel_measure_148 rfl (lv_at hl 1 rfl) ?_
    refine lv_iload hx hb zd_LassoFinderModel_measure_149 (lv_at hl 0 rfl) ?_
    refine lv_iload hx hb zd_LassoFinderModel_measure_151 (lv_at hl 7 rfl) ?_
    refine z_calli (w1 := fun (u : zS) => wM ad K u.1 u.2.1 u.2.2.1 u.2.2.2) (wr := []) (z_runV (q0 := 0) (wc := (wM ad K I J B D)) (As := [.int z29, .int x8]) (rest := []) ⟨hx, hb, hml, hown, hts⟩ (w_LassoFinderModel_truthAt l G K ad I J B D z29 x8 _ H.size hok) zf_LassoFinderModel_truthAt zm_375 ⟨Nat.le_of_ble_eq_true rfl, Nat.le_of_ble_eq_true rfl⟩ hK hw [0, 1, 2, 3, 4, 5, 6, 7, 8, 9, 10, 11, 12, 13, 14, 15, 16, 17, 18, 19, 20, 21, 22, 23, 24, 25, 26, 27, 28, 29, 30, 31, 32, 33, 34, 35, 36, 37, 38, 39, 40, 41, 42, 43, 44, 45, 46, 47, 48, 49, 50, 51, 52, 53, 54, 55, 56, 57] rfl (by decide) rfl rfl rfl hl.1 rfl (Nat.le_of_ble_eq_true rfl) zd_LassoFinderModel_measure_153 ⟨Nat.le_of_ble_eq_true rfl, Nat.le_of_ble_eq_true rfl⟩) hw hA [0, 1, 2, 3, 4, 5, 6, 7, 8, 9, 10, 11, 12, 13, 14, 15, 16, 17, 18, 19, 20, 21, 22, 23, 24, 25, 26, 27, 28, 29, 30, 31, 32, 33, 34, 35, 36, 37, 38, 39, 40, 41, 42, 43, 44, 45, 46, 47, 48, 49, 50, 51, 52, 53, 54, 55, 56, 57] [] rfl rfl (by decide) (by decide) (fun r30 u H locs hok hw => ?_)
    obtain ⟨I30, J30, B30, D30⟩ := u
    dsimp only at hok
    have hw : zW G A s.heap (wM ad K I30 J30 B30 D30) H locs := hw
    refine lv_istore hx hb zd_LassoFinderModel_measure_156 hl (by decide) rfl (fun ls hl => ?_)
    have hl : lv_has ls 16 [(12, .int r30), (11, .int z29), (0, .ref (ad 0)), (3, .int x3), (4, .int x4), (5, .int x5), (6, .int x6), (7, .int x7), (8, .int x8), (9, .int x9), (10, .int x10)] := hl
    refine lv_aload_n hx hb zd_LassoFinderModel_measure_158 rfl (lv_at hl 2 rfl) ?_
    refine lv_iload hx hb zd_LassoFinderModel_measure_159 (lv_at hl 1 rfl) ?_
    refine lv_iload hx hb zd_LassoFinderModel_measure_161 (lv_at hl 0 rfl) ?_
    refine z_calli (w1 := fun (u : zS) => wM ad K u.1 u.2.1 u.2.2.1 u.2.2.2) (wr := []) (z_runV (q0 := 0) (wc := (wM ad K I30 J30 B30 D30)) (As := [.int z29, .int r30]) (rest := []) ⟨hx, hb, hml, hown, hts⟩ (w_LassoFinderModel_settled l G K ad I30 J30 B30 D30 z29 r30 _ H.size hok) zf_LassoFinderModel_settled zm_373 ⟨Nat.le_of_ble_eq_true rfl, Nat.le_of_ble_eq_true rfl⟩ hK hw [0, 1, 2, 3, 4, 5, 6, 7, 8, 9, 10, 11, 12, 13, 14, 15, 16, 17, 18, 19, 20, 21, 22, 23, 24, 25, 26, 27, 28, 29, 30, 31, 32, 33, 34, 35, 36, 37, 38, 39, 40, 41, 42, 43, 44, 45, 46, 47, 48, 49, 50, 51, 52, 53, 54, 55, 56, 57] rfl (by decide) rfl rfl rfl hl.1 rfl (Nat.le_of_ble_eq_true rfl) zd_LassoFinderModel_measure_163 ⟨Nat.le_of_ble_eq_true rfl, Nat.le_of_ble_eq_true rfl⟩) hw hA [0, 1, 2, 3, 4, 5, 6, 7, 8, 9, 10, 11, 12, 13, 14, 15, 16, 17, 18, 19, 20, 21, 22, 23, 24, 25, 26, 27, 28, 29, 30, 31, 32, 33, 34, 35, 36, 37, 38, 39, 40, 41, 42, 43, 44, 45, 46, 47, 48, 49, 50, 51, 52, 53, 54, 55, 56, 57] [] rfl rfl (by decide) (by decide) (fun r31 u H locs hok hw => ?_)
    obtain ⟨I31, J31, B31, D31⟩ := u
    dsimp only at hok
    have hw : zW G A s.heap (wM ad K I31 J31 B31 D31) H locs := hw
    refine lv_istore hx hb zd_LassoFinderModel_measure_166 hl (by decide) rfl (fun ls hl => ?_)
    have hl : lv_has ls 16 [(13, .int r31), (12, .int r30), (11, .int z29), (0, .ref (ad 0)), (3, .int x3), (4, .int x4), (5, .int x5), (6, .int x6), (7, .int x7), (8, .int x8), (9, .int x9), (10, .int x10)] := hl
    refine lv_iconst (v := 0) hx hb zd_LassoFinderModel_measure_168 (by decide) ?_
    refine lv_istore hx hb zd_LassoFinderModel_measure_169 hl (by decide) rfl (fun ls hl => ?_)
    have hl : lv_has ls 16 [(14, .int 0), (13, .int r31), (12, .int r30), (11, .int z29), (0, .ref (ad 0)), (3, .int x3), (4, .int x4), (5, .int x5), (6, .int x6), (7, .int x7), (8, .int x8), (9, .int x9), (10, .int x10)] := hl
    obtain ⟨n9, hok⟩ := hok
    exact wL_LassoFinderModel_measure_171 G K ad a0 a1 Post C K72 kh72 K120 kh120 n9 x3 x4 x5 x6 x7 x8 x9 x10 z29 r30 r31 0 I31 J31 B31 D31 ls H locs hok (lv_sub hl [4, 5, 6, 7, 8, 9, 10, 11, 12, 3, 2, 1, 0] rfl) hw
theorem wL_LassoFinderModel_measure_120 {p : Program} {l : Launch} {e : Env} {s : State} {m : MethodId} {below : List Frame} {meth : Method} {c : Code} {A : Nat → Prop} (G : va_G) (K : Nat → ClassId) (ad : Nat → Nat) (a0 : Int32) (a1 : Int32) (Post : (Nat → Int32) → (Nat → Int64) → (Nat → Nat → Int32) → (Nat → Nat → Int64) → Prop) (C : zCx p s m ([.ref (ad 0), .int a0, .int a1] : List Value).toArray meth c A G K prog_14_method_56_code none 16 "LassoFinderModel") (K72 : Int32 → Int32 → Int32 → Int32 → (Nat → Int32) → (Nat → Int64) → (Nat → Nat → Int32) → (Nat → Nat → Int64) → Prop) (kh72 : ∀ (x3 : Int32) (x4 : Int32) (x5 : Int32) (x6 : Int32) (I : Nat → Int32) (J : Nat → Int64) (B : Nat → Nat → Int32) (D : Nat → Nat → Int64) (ls : Array Slot) (H : Heap) (locs : List Loc), K72 x3 x4 x5 x6 I J B D → lv_has ls 16 [(0, .ref (ad 0)), (3, .int x3), (4, .int x4), (5, .int x5), (6, .int x6)] → zW G A s.heap (wM ad K I J B D) H locs → W p l e { frames := 2, cells := 0, slots := 0, locals := 50 } s m ([.ref (ad 0), .int a0, .int a1] : List Value).toArray below meth c H locs 0 0 (MQ below (va_Qv (fun u : zS => Post u.1 u.2.1 u.2.2.1 u.2.2.2) (fun u t => zPost G K A (wM ad K u.1 u.2.1 u.2.2.1 u.2.2.2) t) A) ([.ref (ad 0), .int a0, .int a1] : List Value).toArray s 0 0 A) (F0 m 72 ls [])) : ∀ (n : Nat) (x3 : Int32) (x4 : Int32) (x5 : Int32) (x6 : Int32) (x7 : Int32) (x8 : Int32) (x9 : Int32) (x10 : Int32) (I : Nat → Int32) (J : Nat → Int64) (B : Nat → Nat → Int32) (D : Nat → Nat → Int64) (ls : Array Slot) (H : Heap) (locs : List Loc), wl_LassoFinderModel_measure_120 a0 a1 K72 Post n x3 x4 x5 x6 x7 x8 x9 x10 I J B D → lv_has ls 16 [(0, .ref (ad 0)), (3, .int x3), (4, .int x4), (5, .int x5), (6, .int x6), (7, .int x7), (8, .int x8), (9, .int x9), (10, .int x10)] → zW G A s.heap (wM ad K I J B D) H locs → W p l e { frames := 2, cells := 0, slots := 0, locals := 50 } s m ([.ref (ad 0), .int a0, .int a1] : List Value).toArray below meth c H locs 0 0 (MQ below (va_Qv (fun u : zS => Post u.1 u.2.1 u.2.2.1 u.2.2.2) (fun u t => zPost G K A (wM ad K u.1 u.2.1 u.2.2.1 u.2.2.2) t) A) ([.ref (ad 0), .int a0, .int a1] : List Value).toArray s 0 0 A) (F0 m 120 ls []) := by
  intro n
  induction n with
  | zero => intro x3 x4 x5 x6 x7 x8 x9 x10 I J B D ls H locs hok; exact hok.elim
  | succ n ih => exact wB_LassoFinderModel_measure_120 G K ad a0 a1 Post C K72 kh72 (wl_LassoFinderModel_measure_120 a0 a1 K72 Post n) ih
set_option maxHeartbeats 8000000 in
set_option maxRecDepth 100000 in
theorem wB_LassoFinderModel_measure_72 {p : Program} {l : Launch} {e : Env} {s : State} {m : MethodId} {below : List Frame} {meth : Method} {c : Code} {A : Nat → Prop} (G : va_G) (K : Nat → ClassId) (ad : Nat → Nat) (a0 : Int32) (a1 : Int32) (Post : (Nat → Int32) → (Nat → Int64) → (Nat → Nat → Int32) → (Nat → Nat → Int64) → Prop) (C : zCx p s m ([.ref (ad 0), .int a0, .int a1] : List Value).toArray meth c A G K prog_14_method_56_code none 16 "LassoFinderModel") (K72 : Int32 → Int32 → Int32 → Int32 → (Nat → Int32) → (Nat → Int64) → (Nat → Nat → Int32) → (Nat → Nat → Int64) → Prop) (kh72 : ∀ (x3 : Int32) (x4 : Int32) (x5 : Int32) (x6 : Int32) (I : Nat → Int32) (J : Nat → Int64) (B : Nat → Nat → Int32) (D : Nat → Nat → Int64) (ls : Array Slot) (H : Heap) (locs : List Loc), K72 x3 x4 x5 x6 I J B D → lv_has ls 16 [(0, .ref (ad 0)), (3, .int x3), (4, .int x4), (5, .int x5), (6, .int x6)] → zW G A s.heap (wM ad K I J B D) H locs → W p l e { frames := 2, cells := 0, slots := 0, locals := 50 } s m ([.ref (ad 0), .int a0, .int a1] : List Value).toArray below meth c H locs 0 0 (MQ below (va_Qv (fun u : zS => Post u.1 u.2.1 u.2.2.1 u.2.2.2) (fun u t => zPost G K A (wM ad K u.1 u.2.1 u.2.2.1 u.2.2.2) t) A) ([.ref (ad 0), .int a0, .int a1] : List Value).toArray s 0 0 A) (F0 m 72 ls [])) : ∀ (x3 : Int32) (x4 : Int32) (x5 : Int32) (x6 : Int32) (I : Nat → Int32) (J : Nat → Int64) (B : Nat → Nat → Int32) (D : Nat → Nat → Int64) (ls : Array Slot) (H : Heap) (locs : List Loc), wb_LassoFinderModel_measure_72 a0 a1 K72 Post x3 x4 x5 x6 I J B D → lv_has ls 16 [(0, .ref (ad 0)), (3, .int x3), (4, .int x4), (5, .int x5), (6, .int x6)] → zW G A s.heap (wM ad K I J B D) H locs → W p l e { frames := 2, cells := 0, slots := 0, locals := 50 } s m ([.ref (ad 0), .int a0, .int a1] : List Value).toArray below meth c H locs 0 0 (MQ below (va_Qv (fun u : zS => Post u.1 u.2.1 u.2.2.1 u.2.2.2) (fun u t => zPost G K A (wM ad K u.1 u.2.1 u.2.2.1 u.2.2.2) t) A) ([.ref (ad 0), .int a0, .int a1] : List Value).toArray s 0 0 A) (F0 m 72 ls []) := by
  obtain ⟨hx, hb, hr, hml, hts, hown, hlocks, hA, hK⟩ := id C
  intro x3 x4 x5 x6 I J B D ls H locs hok hl hw
  unfold wb_LassoFinderModel_measure_72 at hok
  refine lv_iload hx hb zd_LassoFinderModel_measure_72 (lv_at hl 4 rfl) ?_
  refine lv_if_lt (tgt := 294) hx hb zd_LassoFinderModel_measure_74 (by decide) (fun hc32 => ?_) (fun hc32 => ?_)
  · have hok := hok.1 hc32
    exact wJ_LassoFinderModel_measure_294 G K ad a0 a1 Post C I J B D ls H locs hok (lv_sub hl [] rfl) hw
  · have hok := hok.2 hc32
    refine lv_iload hx hb zd_LassoFinderModel_measure_77 (lv_at hl 3 rfl) ?_
    refine lv_if_le (tgt := 294) hx hb zd_LassoFinderModel_measure_79 (by decide) (fun hc33 => ?_) (fun hc33 => ?_)
    · have hok := hok.1 hc33
      exact wJ_LassoFinderModel_measure_294 G K ad a0 a1 Post C I J B D ls H locs hok (lv_sub hl [] rfl) hw
    · have hok := hok.2 hc33
      obtain ⟨z34, ez34⟩ : ∃ z : Int32, z = (x5 + (-1)) := ⟨_, rfl⟩
      have hok := hok z34 ez34
      refine lv_iinc (v := z34) hx hb zd_LassoFinderModel_measure_82 hl (k := 3) rfl ez34.symm (by decide) rfl (fun ls hl => ?_)
      have hl : lv_has ls 16 [(5, .int z34), (0, .ref (ad 0)), (3, .int x3), (4, .int x4), (6, .int x6)] := hl
      refine lv_iload hx hb zd_LassoFinderModel_measure_85 (lv_at hl 4 rfl) ?_
      refine lv_bipush (v := 6) hx hb zd_LassoFinderModel_measure_87 (by decide) ?_
      refine lv_ishr hx hb zd_LassoFinderModel_measure_89 ?_
      refine lv_topi (fun z35 ez35 => ?_)
      have hok := hok z35 ez35
      refine lv_istore hx hb zd_LassoFinderModel_measure_90 hl (by decide) rfl (fun ls hl => ?_)
      have hl : lv_has ls 16 [(7, .int z35), (5, .int z34), (0, .ref (ad 0)), (3, .int x3), (4, .int x4), (6, .int x6)] := hl
      refine lv_iload hx hb zd_LassoFinderModel_measure_92 (lv_at hl 5 rfl) ?_
      refine lv_iconst (v := 3) hx hb zd_LassoFinderModel_measure_94 (by decide) ?_
      refine lv_ishr hx hb zd_LassoFinderModel_measure_95 ?_
      refine lv_topi (fun z36 ez36 => ?_)
      have hok := hok z36 ez36
      refine lv_bipush (v := 7) hx hb zd_LassoFinderModel_measure_96 (by decide) ?_
      refine lv_iand hx hb zd_LassoFinderModel_measure_98 ?_
      refine lv_topi (fun z37 ez37 => ?_)
      have hok := hok z37 ez37
      refine lv_istore hx hb zd_LassoFinderModel_measure_99 hl (by decide) rfl (fun ls hl => ?_)
      have hl : lv_has ls 16 [(8, .int z37), (7, .int z35), (5, .int z34), (0, .ref (ad 0)), (3, .int x3), (4, .int x4), (6, .int x6)] := hl
      refine lv_aload_n hx hb zd_LassoFinderModel_measure_101 rfl (lv_at hl 3 rfl) ?_
      refine lv_iload hx hb zd_LassoFinderModel_measure_102 (lv_at hl 1 rfl) ?_
      refine lv_iload hx hb zd_LassoFinderModel_measure_104 (lv_at hl 0 rfl) ?_
      refine z_calli (w1 := fun (u : zS) => wM ad K u.1 u.2.1 u.2.2.1 u.2.2.2) (wr := []) (z_runV (q0 := 0) (wc := (wM ad K I J B D)) (As := [.int z35, .int z37]) (rest := []) ⟨hx, hb, hml, hown, hts⟩ (w_LassoFinderModel_settled l G K ad I J B D z35 z37 _ H.size hok) zf_LassoFinderModel_settled zm_373 ⟨Nat.le_of_ble_eq_true rfl, Nat.le_of_ble_eq_true rfl⟩ hK hw [0, 1, 2, 3, 4, 5, 6, 7, 8, 9, 10, 11, 12, 13, 14, 15, 16, 17, 18, 19, 20, 21, 22, 23, 24, 25, 26, 27, 28, 29, 30, 31, 32, 33, 34, 35, 36, 37, 38, 39, 40, 41, 42, 43, 44, 45, 46, 47, 48, 49, 50, 51, 52, 53, 54, 55, 56, 57] rfl (by decide) rfl rfl rfl hl.1 rfl (Nat.le_of_ble_eq_true rfl) zd_LassoFinderModel_measure_106 ⟨Nat.le_of_ble_eq_true rfl, Nat.le_of_ble_eq_true rfl⟩) hw hA [0, 1, 2, 3, 4, 5, 6, 7, 8, 9, 10, 11, 12, 13, 14, 15, 16, 17, 18, 19, 20, 21, 22, 23, 24, 25, 26, 27, 28, 29, 30, 31, 32, 33, 34, 35, 36, 37, 38, 39, 40, 41, 42, 43, 44, 45, 46, 47, 48, 49, 50, 51, 52, 53, 54, 55, 56, 57] [] rfl rfl (by decide) (by decide) (fun r38 u H locs hok hw => ?_)
      obtain ⟨I38, J38, B38, D38⟩ := u
      dsimp only at hok
      have hw : zW G A s.heap (wM ad K I38 J38 B38 D38) H locs := hw
      refine lv_istore hx hb zd_LassoFinderModel_measure_109 hl (by decide) rfl (fun ls hl => ?_)
      have hl : lv_has ls 16 [(9, .int r38), (8, .int z37), (7, .int z35), (5, .int z34), (0, .ref (ad 0)), (3, .int x3), (4, .int x4), (6, .int x6)] := hl
      refine lv_aload_n hx hb zd_LassoFinderModel_measure_111 rfl (lv_at hl 4 rfl) ?_
      refine z_get (v := .ref (ad 37)) hx hb hts hown hK hw zZ12 0 rfl 53 (by decide) zm_271 rfl zd_LassoFinderModel_measure_112 ?_
      refine lv_iload hx hb zd_LassoFinderModel_measure_115 (lv_at hl 2 rfl) ?_
      refine va_iald (f := (B38 34)) hx hb hK hw.1 37 0 rfl rfl hok.1 zd_LassoFinderModel_measure_117 ?_
      have hok := hok.2
      refine lv_topi (fun z39 ez39 => ?_)
      have hok := hok z39 ez39
      refine lv_istore hx hb zd_LassoFinderModel_measure_118 hl (by decide) rfl (fun ls hl => ?_)
      have hl : lv_has ls 16 [(10, .int z39), (9, .int r38), (8, .int z37), (7, .int z35), (5, .int z34), (0, .ref (ad 0)), (3, .int x3), (4, .int x4), (6, .int x6)] := hl
      obtain ⟨n9, hok⟩ := hok
      exact wL_LassoFinderModel_measure_120 G K ad a0 a1 Post C K72 kh72 n9 x3 x4 z34 x6 z35 z37 r38 z39 I38 J38 B38 D38 ls H locs hok (lv_sub hl [5, 6, 7, 4, 8, 3, 2, 1, 0] rfl) hw
theorem wL_LassoFinderModel_measure_72 {p : Program} {l : Launch} {e : Env} {s : State} {m : MethodId} {below : List Frame} {meth : Method} {c : Code} {A : Nat → Prop} (G : va_G) (K : Nat → ClassId) (ad : Nat → Nat) (a0 : Int32) (a1 : Int32) (Post : (Nat → Int32) → (Nat → Int64) → (Nat → Nat → Int32) → (Nat → Nat → Int64) → Prop) (C : zCx p s m ([.ref (ad 0), .int a0, .int a1] : List Value).toArray meth c A G K prog_14_method_56_code none 16 "LassoFinderModel") : ∀ (n : Nat) (x3 : Int32) (x4 : Int32) (x5 : Int32) (x6 : Int32) (I : Nat → Int32) (J : Nat → Int64) (B : Nat → Nat → Int32) (D : Nat → Nat → Int64) (ls : Array Slot) (H : Heap) (locs : List Loc), wl_LassoFinderModel_measure_72 a0 a1 Post n x3 x4 x5 x6 I J B D → lv_has ls 16 [(0, .ref (ad 0)), (3, .int x3), (4, .int x4), (5, .int x5), (6, .int x6)] → zW G A s.heap (wM ad K I J B D) H locs → W p l e { frames := 2, cells := 0, slots := 0, locals := 50 } s m ([.ref (ad 0), .int a0, .int a1] : List Value).toArray below meth c H locs 0 0 (MQ below (va_Qv (fun u : zS => Post u.1 u.2.1 u.2.2.1 u.2.2.2) (fun u t => zPost G K A (wM ad K u.1 u.2.1 u.2.2.1 u.2.2.2) t) A) ([.ref (ad 0), .int a0, .int a1] : List Value).toArray s 0 0 A) (F0 m 72 ls []) := by
  intro n
  induction n with
  | zero => intro x3 x4 x5 x6 I J B D ls H locs hok; exact hok.elim
  | succ n ih => exact wB_LassoFinderModel_measure_72 G K ad a0 a1 Post C (wl_LassoFinderModel_measure_72 a0 a1 Post n) ih
set_option maxHeartbeats 8000000 in
set_option maxRecDepth 100000 in
theorem wB_LassoFinderModel_measure_12 {p : Program} {l : Launch} {e : Env} {s : State} {m : MethodId} {below : List Frame} {meth : Method} {c : Code} {A : Nat → Prop} (G : va_G) (K : Nat → ClassId) (ad : Nat → Nat) (a0 : Int32) (a1 : Int32) (Post : (Nat → Int32) → (Nat → Int64) → (Nat → Nat → Int32) → (Nat → Nat → Int64) → Prop) (C : zCx p s m ([.ref (ad 0), .int a0, .int a1] : List Value).toArray meth c A G K prog_14_method_56_code none 16 "LassoFinderModel") (K12 : Int32 → Int32 → Int32 → Int32 → (Nat → Int32) → (Nat → Int64) → (Nat → Nat → Int32) → (Nat → Nat → Int64) → Prop) (kh12 : ∀ (x1 : Int32) (x2 : Int32) (x3 : Int32) (x4 : Int32) (I : Nat → Int32) (J : Nat → Int64) (B : Nat → Nat → Int32) (D : Nat → Nat → Int64) (ls : Array Slot) (H : Heap) (locs : List Loc), K12 x1 x2 x3 x4 I J B D → lv_has ls 16 [(0, .ref (ad 0)), (1, .int x1), (2, .int x2), (3, .int x3), (4, .int x4)] → zW G A s.heap (wM ad K I J B D) H locs → W p l e { frames := 2, cells := 0, slots := 0, locals := 50 } s m ([.ref (ad 0), .int a0, .int a1] : List Value).toArray below meth c H locs 0 0 (MQ below (va_Qv (fun u : zS => Post u.1 u.2.1 u.2.2.1 u.2.2.2) (fun u t => zPost G K A (wM ad K u.1 u.2.1 u.2.2.1 u.2.2.2) t) A) ([.ref (ad 0), .int a0, .int a1] : List Value).toArray s 0 0 A) (F0 m 12 ls [])) : ∀ (x1 : Int32) (x2 : Int32) (x3 : Int32) (x4 : Int32) (I : Nat → Int32) (J : Nat → Int64) (B : Nat → Nat → Int32) (D : Nat → Nat → Int64) (ls : Array Slot) (H : Heap) (locs : List Loc), wb_LassoFinderModel_measure_12 a0 a1 K12 Post x1 x2 x3 x4 I J B D → lv_has ls 16 [(0, .ref (ad 0)), (1, .int x1), (2, .int x2), (3, .int x3), (4, .int x4)] → zW G A s.heap (wM ad K I J B D) H locs → W p l e { frames := 2, cells := 0, slots := 0, locals := 50 } s m ([.ref (ad 0), .int a0, .int a1] : List Value).toArray below meth c H locs 0 0 (MQ below (va_Qv (fun u : zS => Post u.1 u.2.1 u.2.2.1 u.2.2.2) (fun u t => zPost G K A (wM ad K u.1 u.2.1 u.2.2.1 u.2.2.2) t) A) ([.ref (ad 0), .int a0, .int a1] : List Value).toArray s 0 0 A) (F0 m 12 ls []) := by
  obtain ⟨hx, hb, hr, hml, hts, hown, hlocks, hA, hK⟩ := id C
  intro x1 x2 x3 x4 I J B D ls H locs hok hl hw
  unfold wb_LassoFinderModel_measure_12 at hok
  refine lv_iload hx hb zd_LassoFinderModel_measure_12 (lv_at hl 4 rfl) ?_
  refine lv_bipush (v := 64) hx hb zd_LassoFinderModel_measure_14 (by decide) ?_
  refine lv_aload_n hx hb zd_LassoFinderModel_measure_16 rfl (lv_at hl 0 rfl) ?_
  refine z_get (v := .int (I 14)) hx hb hts hown hK hw zZ12 0 rfl 44 (by decide) zm_300 rfl zd_LassoFinderModel_measure_17 ?_
  refine lv_imul hx hb zd_LassoFinderModel_measure_20 ?_
  refine lv_topi (fun z40 ez40 => ?_)
  have hok := hok z40 ez40
  refine lv_icmp_ge (tgt := 38) hx hb zd_LassoFinderModel_measure_21 (by decide) (fun hc41 => ?_) (fun hc41 => ?_)
  · have hok := hok.1 hc41
    refine lv_bipush (v := 64) hx hb zd_LassoFinderModel_measure_38 (by decide) ?_
    refine lv_iload_n hx hb zd_LassoFinderModel_measure_40 rfl (lv_at hl 1 rfl) ?_
    refine lv_imul hx hb zd_LassoFinderModel_measure_41 ?_
    refine lv_topi (fun z42 ez42 => ?_)
    have hok := hok z42 ez42
    refine lv_bipush (v := 8) hx hb zd_LassoFinderModel_measure_42 (by decide) ?_
    refine lv_iload_n hx hb zd_LassoFinderModel_measure_44 rfl (lv_at hl 2 rfl) ?_
    refine lv_imul hx hb zd_LassoFinderModel_measure_45 ?_
    refine lv_topi (fun z43 ez43 => ?_)
    have hok := hok z43 ez43
    refine lv_iadd hx hb zd_LassoFinderModel_measure_46 ?_
    refine lv_topi (fun z44 ez44 => ?_)
    have hok := hok z44 ez44
    refine lv_iload_n hx hb zd_LassoFinderModel_measure_47 rfl (lv_at hl 3 rfl) ?_
    refine lv_iadd hx hb zd_LassoFinderModel_measure_48 ?_
    refine lv_topi (fun z45 ez45 => ?_)
    have hok := hok z45 ez45
    refine lv_istore hx hb zd_LassoFinderModel_measure_49 hl (by decide) rfl (fun ls hl => ?_)
    have hl : lv_has ls 16 [(4, .int z45), (0, .ref (ad 0)), (1, .int x1), (2, .int x2), (3, .int x3)] := hl
    refine lv_aload_n hx hb zd_LassoFinderModel_measure_51 rfl (lv_at hl 1 rfl) ?_
    refine z_get (v := .ref (ad 54)) hx hb hts hown hK hw zZ12 0 rfl 77 (by decide) zm_288 rfl zd_LassoFinderModel_measure_52 ?_
    refine lv_iload hx hb zd_LassoFinderModel_measure_55 (lv_at hl 0 rfl) ?_
    refine lv_iconst (v := 0) hx hb zd_LassoFinderModel_measure_57 (by decide) ?_
    refine va_iast (f := (B 51)) hx hb hK hw.1 hw.2.1 hw.2.2 54 0 rfl rfl hok.1 zd_LassoFinderModel_measure_58 (fun H locs w91 w92 w93 => ?_)
    have hok := hok.2
    have hw : zW G A s.heap _ H locs := ⟨w91, w92, w93⟩
    have hw : zW G A s.heap (wM ad K I J (va_up B 51 (upd (B 51) z45.toNatClampNeg 0)) D) H locs := hw
    refine lv_bipush (v := 64) hx hb zd_LassoFinderModel_measure_59 (by decide) ?_
    refine lv_aload_n hx hb zd_LassoFinderModel_measure_61 rfl (lv_at hl 1 rfl) ?_
    refine z_get (v := .int (I 14)) hx hb hts hown hK hw zZ12 0 rfl 44 (by decide) zm_300 rfl zd_LassoFinderModel_measure_62 ?_
    refine lv_imul hx hb zd_LassoFinderModel_measure_65 ?_
    refine lv_topi (fun z46 ez46 => ?_)
    have hok := hok z46 ez46
    refine lv_istore hx hb zd_LassoFinderModel_measure_66 hl (by decide) rfl (fun ls hl => ?_)
    have hl : lv_has ls 16 [(5, .int z46), (4, .int z45), (0, .ref (ad 0)), (1, .int x1), (2, .int x2), (3, .int x3)] := hl
    refine lv_iload hx hb zd_LassoFinderModel_measure_68 (lv_at hl 1 rfl) ?_
    refine lv_istore hx hb zd_LassoFinderModel_measure_70 hl (by decide) rfl (fun ls hl => ?_)
    have hl : lv_has ls 16 [(6, .int z45), (5, .int z46), (4, .int z45), (0, .ref (ad 0)), (1, .int x1), (2, .int x2), (3, .int x3)] := hl
    obtain ⟨n9, hok⟩ := hok
    exact wL_LassoFinderModel_measure_72 G K ad a0 a1 Post C n9 x3 z45 z46 z45 I J (va_up B 51 (upd (B 51) z45.toNatClampNeg 0)) D ls H locs hok (lv_sub hl [3, 6, 2, 1, 0] rfl) hw
  · have hok := hok.2 hc41
    refine lv_aload_n hx hb zd_LassoFinderModel_measure_24 rfl (lv_at hl 0 rfl) ?_
    refine z_get (v := .ref (ad 54)) hx hb hts hown hK hw zZ12 0 rfl 77 (by decide) zm_288 rfl zd_LassoFinderModel_measure_25 ?_
    refine lv_iload hx hb zd_LassoFinderModel_measure_28 (lv_at hl 4 rfl) ?_
    refine lv_iconst (v := (-1)) hx hb zd_LassoFinderModel_measure_30 (by decide) ?_
    refine va_iast (f := (B 51)) hx hb hK hw.1 hw.2.1 hw.2.2 54 0 rfl rfl hok.1 zd_LassoFinderModel_measure_31 (fun H locs w91 w92 w93 => ?_)
    have hok := hok.2
    have hw : zW G A s.heap _ H locs := ⟨w91, w92, w93⟩
    have hw : zW G A s.heap (wM ad K I J (va_up B 51 (upd (B 51) x4.toNatClampNeg (-1))) D) H locs := hw
    obtain ⟨z47, ez47⟩ : ∃ z : Int32, z = (x4 + 1) := ⟨_, rfl⟩
    have hok := hok z47 ez47
    refine lv_iinc (v := z47) hx hb zd_LassoFinderModel_measure_32 hl (k := 4) rfl ez47.symm (by decide) rfl (fun ls hl => ?_)
    have hl : lv_has ls 16 [(4, .int z47), (0, .ref (ad 0)), (1, .int x1), (2, .int x2), (3, .int x3)] := hl
    refine lv_goto (tgt := 12) hx hb zd_LassoFinderModel_measure_35 (by decide) ?_
    exact kh12 x1 x2 x3 z47 I J (va_up B 51 (upd (B 51) x4.toNatClampNeg (-1))) D ls H locs hok (lv_sub hl [1, 2, 3, 4, 0] rfl) hw
theorem wL_LassoFinderModel_measure_12 {p : Program} {l : Launch} {e : Env} {s : State} {m : MethodId} {below : List Frame} {meth : Method} {c : Code} {A : Nat → Prop} (G : va_G) (K : Nat → ClassId) (ad : Nat → Nat) (a0 : Int32) (a1 : Int32) (Post : (Nat → Int32) → (Nat → Int64) → (Nat → Nat → Int32) → (Nat → Nat → Int64) → Prop) (C : zCx p s m ([.ref (ad 0), .int a0, .int a1] : List Value).toArray meth c A G K prog_14_method_56_code none 16 "LassoFinderModel") : ∀ (n : Nat) (x1 : Int32) (x2 : Int32) (x3 : Int32) (x4 : Int32) (I : Nat → Int32) (J : Nat → Int64) (B : Nat → Nat → Int32) (D : Nat → Nat → Int64) (ls : Array Slot) (H : Heap) (locs : List Loc), wl_LassoFinderModel_measure_12 a0 a1 Post n x1 x2 x3 x4 I J B D → lv_has ls 16 [(0, .ref (ad 0)), (1, .int x1), (2, .int x2), (3, .int x3), (4, .int x4)] → zW G A s.heap (wM ad K I J B D) H locs → W p l e { frames := 2, cells := 0, slots := 0, locals := 50 } s m ([.ref (ad 0), .int a0, .int a1] : List Value).toArray below meth c H locs 0 0 (MQ below (va_Qv (fun u : zS => Post u.1 u.2.1 u.2.2.1 u.2.2.2) (fun u t => zPost G K A (wM ad K u.1 u.2.1 u.2.2.1 u.2.2.2) t) A) ([.ref (ad 0), .int a0, .int a1] : List Value).toArray s 0 0 A) (F0 m 12 ls []) := by
  intro n
  induction n with
  | zero => intro x1 x2 x3 x4 I J B D ls H locs hok; exact hok.elim
  | succ n ih => exact wB_LassoFinderModel_measure_12 G K ad a0 a1 Post C (wl_LassoFinderModel_measure_12 a0 a1 Post n) ih
set_option maxHeartbeats 8000000 in
set_option maxRecDepth 100000 in
theorem w_LassoFinderModel_measure (l : Launch) (G : va_G) (K : Nat → ClassId) (ad : Nat → Nat) (I : Nat → Int32) (J : Nat → Int64) (B : Nat → Nat → Int32) (D : Nat → Nat → Int64) (a0 : Int32) (a1 : Int32) (Post : (Nat → Int32) → (Nat → Int64) → (Nat → Nat → Int32) → (Nat → Nat → Int64) → Prop) (sz : Nat) (hok : wp_LassoFinderModel_measure I J B D a0 a1 Post) : Met l zy_LassoFinderModel_measure (Cond.code zy_LassoFinderModel_measure prog_14_method_56_code 16 none :: zTB) { frames := 2, cells := 0, slots := 0, locals := 50 } (va_Pc [.ref (ad 0), .int a0, .int a1] (zPre G K (wM ad K I J B D) sz)) (va_Qv (fun u : zS => Post u.1 u.2.1 u.2.2.1 u.2.2.2) (fun u t => zPost G K (va_A (wM ad K I J B D) sz) (wM ad K u.1 u.2.1 u.2.2.1 u.2.2.2) t) (va_A (wM ad K I J B D) sz)) 0 0 (va_A (wM ad K I J B D) sz) := by
  refine zMet (y := zy_LassoFinderModel_measure) (av := [.ref (ad 0), .int a0, .int a1]) (maxL := 16) (cc := prog_14_method_56_code) (ret := none) (W0 := (wM ad K I J B D)) (sz := sz) (G := G) (K := K) (wt := zTB) (mc := 0) (ms := 0) (Qf := fun A => va_Qv (fun u : zS => Post u.1 u.2.1 u.2.2.1 u.2.2.2) (fun u t => zPost G K A (wM ad K u.1 u.2.1 u.2.2.1 u.2.2.2) t) A) (by decide) (Nat.le_of_ble_eq_true rfl) ?_
  intro p e s m below meth c ls A hx hb hr hml hts hown hlocks hin hA hK H locs hw hsz hl
  clear hsz
  have hown : s.vm.findClass "LassoFinderModel" = some m.cls := hown
  have C : zCx p s m ([.ref (ad 0), .int a0, .int a1] : List Value).toArray meth c A G K prog_14_method_56_code none 16 "LassoFinderModel" := ⟨hx, hb, hr, hml, hts, hown, hlocks, hA, hK⟩
  have hl : lv_has ls 16 [(0, .ref (ad 0)), (1, .int a0), (2, .int a1)] := hl
  have hw : zW G A s.heap (wM ad K I J B D) H locs := hw
  unfold wp_LassoFinderModel_measure at hok
  refine lv_iconst (v := 1) hx hb zd_LassoFinderModel_measure_0 (by decide) ?_
  refine lv_aload_n hx hb zd_LassoFinderModel_measure_1 rfl (lv_at hl 0 rfl) ?_
  refine z_get (v := .int (I 20)) hx hb hts hown hK hw zZ12 0 rfl 64 (by decide) zm_356 rfl zd_LassoFinderModel_measure_2 ?_
  refine lv_ishl hx hb zd_LassoFinderModel_measure_5 ?_
  refine lv_topi (fun z48 ez48 => ?_)
  have hok := hok z48 ez48
  refine lv_iconst (v := 1) hx hb zd_LassoFinderModel_measure_6 (by decide) ?_
  refine lv_isub hx hb zd_LassoFinderModel_measure_7 ?_
  refine lv_topi (fun z49 ez49 => ?_)
  have hok := hok z49 ez49
  refine lv_istore_n hx hb zd_LassoFinderModel_measure_8 rfl hl (by decide) rfl (fun ls hl => ?_)
  have hl : lv_has ls 16 [(3, .int z49), (0, .ref (ad 0)), (1, .int a0), (2, .int a1)] := hl
  refine lv_iconst (v := 0) hx hb zd_LassoFinderModel_measure_9 (by decide) ?_
  refine lv_istore hx hb zd_LassoFinderModel_measure_10 hl (by decide) rfl (fun ls hl => ?_)
  have hl : lv_has ls 16 [(4, .int 0), (3, .int z49), (0, .ref (ad 0)), (1, .int a0), (2, .int a1)] := hl
  obtain ⟨n9, hok⟩ := hok
  exact wL_LassoFinderModel_measure_12 G K ad a0 a1 Post C n9 a0 a1 z49 0 I J B D ls H locs hok (lv_sub hl [2, 3, 4, 1, 0] rfl) hw
def wc_LassoFinderModel_nearest_129 (a0 : Int32) (a1 : Int32) (K24 : Int32 → Int32 → Int32 → Int32 → Int32 → (Nat → Int32) → (Nat → Int64) → (Nat → Nat → Int32) → (Nat → Nat → Int64) → Prop) (K40 : Int32 → Int32 → Int32 → Int32 → Int32 → Int32 → (Nat → Int32) → (Nat → Int64) → (Nat → Nat → Int32) → (Nat → Nat → Int64) → Prop) (Post : Int32 → (Nat → Int32) → (Nat → Int64) → (Nat → Nat → Int32) → (Nat → Nat → Int64) → Prop) (x1 : Int32) (x2 : Int32) (x3 : Int32) (x4 : Int32) (x5 : Int32) (x6 : Int32) (I : Nat → Int32) (J : Nat → Int64) (B : Nat → Nat → Int32) (D : Nat → Nat → Int64) : Prop :=
  ∀ z1 : Int32, z1 = (x6 + 1) → K40 x1 x2 x3 x4 x5 z1 I J B D
def wc_LassoFinderModel_nearest_123 (a0 : Int32) (a1 : Int32) (K24 : Int32 → Int32 → Int32 → Int32 → Int32 → (Nat → Int32) → (Nat → Int64) → (Nat → Nat → Int32) → (Nat → Nat → Int64) → Prop) (K40 : Int32 → Int32 → Int32 → Int32 → Int32 → Int32 → (Nat → Int32) → (Nat → Int64) → (Nat → Nat → Int32) → (Nat → Nat → Int64) → Prop) (Post : Int32 → (Nat → Int32) → (Nat → Int64) → (Nat → Nat → Int32) → (Nat → Nat → Int64) → Prop) (x1 : Int32) (x2 : Int32) (x3 : Int32) (x5 : Int32) (x6 : Int32) (x7 : Int32) (I : Nat → Int32) (J : Nat → Int64) (B : Nat → Nat → Int32) (D : Nat → Nat → Int64) : Prop :=
  ∀ z2 : Int32, z2 = (x7 + 1) → wc_LassoFinderModel_nearest_129 a0 a1 K24 K40 Post x1 x2 x3 z2 x5 x6 I J B D
def wc_LassoFinderModel_nearest_102 (a0 : Int32) (a1 : Int32) (K24 : Int32 → Int32 → Int32 → Int32 → Int32 → (Nat → Int32) → (Nat → Int64) → (Nat → Nat → Int32) → (Nat → Nat → Int64) → Prop) (K40 : Int32 → Int32 → Int32 → Int32 → Int32 → Int32 → (Nat → Int32) → (Nat → Int64) → (Nat → Nat → Int32) → (Nat → Nat → Int64) → Prop) (Post : Int32 → (Nat → Int32) → (Nat → Int64) → (Nat → Nat → Int32) → (Nat → Nat → Int64) → Prop) (x1 : Int32) (x2 : Int32) (x3 : Int32) (x4 : Int32) (x5 : Int32) (x6 : Int32) (y0 : Int32) (I : Nat → Int32) (J : Nat → Int64) (B : Nat → Nat → Int32) (D : Nat → Nat → Int64) : Prop :=
  ((y0 < 0 → wc_LassoFinderModel_nearest_129 a0 a1 K24 K40 Post x1 x2 x3 x4 x5 x6 I J B D) ∧ (¬ y0 < 0 → ((x4 = 0 → wc_LassoFinderModel_nearest_123 a0 a1 K24 K40 Post x1 x2 x3 x5 x6 y0 I J B D) ∧ (¬ x4 = 0 → ∀ z5 : Int32, z5 = (y0 + 1) → ((x4 ≤ z5 → wc_LassoFinderModel_nearest_129 a0 a1 K24 K40 Post x1 x2 x3 x4 x5 x6 I J B D) ∧ (¬ x4 ≤ z5 → wc_LassoFinderModel_nearest_123 a0 a1 K24 K40 Post x1 x2 x3 x5 x6 y0 I J B D))))))
def wb_LassoFinderModel_nearest_40 (a0 : Int32) (a1 : Int32) (K40 : Int32 → Int32 → Int32 → Int32 → Int32 → Int32 → (Nat → Int32) → (Nat → Int64) → (Nat → Nat → Int32) → (Nat → Nat → Int64) → Prop) (K24 : Int32 → Int32 → Int32 → Int32 → Int32 → (Nat → Int32) → (Nat → Int64) → (Nat → Nat → Int32) → (Nat → Nat → Int64) → Prop) (Post : Int32 → (Nat → Int32) → (Nat → Int64) → (Nat → Nat → Int32) → (Nat → Nat → Int64) → Prop) (x1 : Int32) (x2 : Int32) (x3 : Int32) (x4 : Int32) (x5 : Int32) (x6 : Int32) (I : Nat → Int32) (J : Nat → Int64) (B : Nat → Nat → Int32) (D : Nat → Nat → Int64) : Prop :=
  ∀ z7 : Int32, z7 = (1 <<< ((I 20) &&& 31)) → ((z7 ≤ x6 → ∀ z9 : Int32, z9 = (x5 + 1) → K24 x1 x2 x3 x4 z9 I J B D) ∧ (¬ z7 ≤ x6 → wp_LassoFinderModel_truthAt I J B D x1 x6 (fun r10 I10 J10 B10 D10 => ((r10 = x2 → vp_in x5 401 ∧ ∀ z12 : Int32, z12 = ((B10 30) x5.toNatClampNeg) → ∀ z13 : Int32, z13 = (64 * z12) → ∀ z14 : Int32, z14 = (8 * x6) → ∀ z15 : Int32, z15 = (z13 + z14) → vp_in x5 401 ∧ ∀ z16 : Int32, z16 = ((B10 30) x5.toNatClampNeg) → wp_LassoFinderModel_settled I10 J10 B10 D10 z16 x6 (fun r17 I17 J17 B17 D17 => ∀ z18 : Int32, z18 = (x3 ||| r17) → ∀ z19 : Int32, z19 = (z15 + z18) → wp_LassoFinderModel_away I17 J17 B17 D17 z19 (fun r20 I20 J20 B20 D20 => wc_LassoFinderModel_nearest_102 a0 a1 K24 K40 Post x1 x2 x3 x4 x5 x6 r20 I20 J20 B20 D20))) ∧ (¬ r10 = x2 → wc_LassoFinderModel_nearest_102 a0 a1 K24 K40 Post x1 x2 x3 x4 x5 x6 (-1) I10 J10 B10 D10)))))
def wl_LassoFinderModel_nearest_40 (a0 : Int32) (a1 : Int32) (K24 : Int32 → Int32 → Int32 → Int32 → Int32 → (Nat → Int32) → (Nat → Int64) → (Nat → Nat → Int32) → (Nat → Nat → Int64) → Prop) (Post : Int32 → (Nat → Int32) → (Nat → Int64) → (Nat → Nat → Int32) → (Nat → Nat → Int64) → Prop) (n : Nat) : Int32 → Int32 → Int32 → Int32 → Int32 → Int32 → (Nat → Int32) → (Nat → Int64) → (Nat → Nat → Int32) → (Nat → Nat → Int64) → Prop := Nat.rec (fun _ _ _ _ _ _ _ _ _ _ => False) (fun _ r => wb_LassoFinderModel_nearest_40 a0 a1 r K24 Post) n
def wb_LassoFinderModel_nearest_24 (a0 : Int32) (a1 : Int32) (K24 : Int32 → Int32 → Int32 → Int32 → Int32 → (Nat → Int32) → (Nat → Int64) → (Nat → Nat → Int32) → (Nat → Nat → Int64) → Prop) (Post : Int32 → (Nat → Int32) → (Nat → Int64) → (Nat → Nat → Int32) → (Nat → Nat → Int64) → Prop) (x1 : Int32) (x2 : Int32) (x3 : Int32) (x4 : Int32) (x5 : Int32) (I : Nat → Int32) (J : Nat → Int64) (B : Nat → Nat → Int32) (D : Nat → Nat → Int64) : Prop :=
  ∀ z21 : Int32, z21 = (x1 + 1) → vp_in z21 98 ∧ ∀ z22 : Int32, z22 = ((B 29) z21.toNatClampNeg) → ((z22 ≤ x5 → Post x4 I J B D) ∧ (¬ z22 ≤ x5 → ∃ n : Nat, wl_LassoFinderModel_nearest_40 a0 a1 K24 Post n x1 x2 x3 x4 x5 0 I J B D))
def wl_LassoFinderModel_nearest_24 (a0 : Int32) (a1 : Int32) (Post : Int32 → (Nat → Int32) → (Nat → Int64) → (Nat → Nat → Int32) → (Nat → Nat → Int64) → Prop) (n : Nat) : Int32 → Int32 → Int32 → Int32 → Int32 → (Nat → Int32) → (Nat → Int64) → (Nat → Nat → Int32) → (Nat → Nat → Int64) → Prop := Nat.rec (fun _ _ _ _ _ _ _ _ _ => False) (fun _ r => wb_LassoFinderModel_nearest_24 a0 a1 r Post) n
def wp_LassoFinderModel_nearest (I : Nat → Int32) (J : Nat → Int64) (B : Nat → Nat → Int32) (D : Nat → Nat → Int64) (a0 : Int32) (a1 : Int32) (Post : Int32 → (Nat → Int32) → (Nat → Int64) → (Nat → Nat → Int32) → (Nat → Nat → Int64) → Prop) : Prop :=
  wp_LassoFinderModel_measure I J B D a0 a1 (fun I24 J24 B24 D24 => wp_LassoFinderModel_settled I24 J24 B24 D24 a0 a1 (fun r25 I25 J25 B25 D25 => vp_in a0 98 ∧ ∀ z26 : Int32, z26 = ((B25 29) a0.toNatClampNeg) → ∃ n : Nat, wl_LassoFinderModel_nearest_24 a0 a1 Post n a0 a1 r25 0 z26 I25 J25 B25 D25))
set_option maxHeartbeats 8000000 in
set_option maxRecDepth 100000 in
theorem wJ_LassoFinderModel_nearest_129 {p : Program} {l : Launch} {e : Env} {s : State} {m : MethodId} {below : List Frame} {meth : Method} {c : Code} {A : Nat → Prop} (G : va_G) (K : Nat → ClassId) (ad : Nat → Nat) (a0 : Int32) (a1 : Int32) (Post : Int32 → (Nat → Int32) → (Nat → Int64) → (Nat → Nat → Int32) → (Nat → Nat → Int64) → Prop) (C : zCx p s m ([.ref (ad 0), .int a0, .int a1] : List Value).toArray meth c A G K prog_14_method_57_code (some .int) 8 "LassoFinderModel") (K24 : Int32 → Int32 → Int32 → Int32 → Int32 → (Nat → Int32) → (Nat → Int64) → (Nat → Nat → Int32) → (Nat → Nat → Int64) → Prop) (kh24 : ∀ (x1 : Int32) (x2 : Int32) (x3 : Int32) (x4 : Int32) (x5 : Int32) (I : Nat → Int32) (J : Nat → Int64) (B : Nat → Nat → Int32) (D : Nat → Nat → Int64) (ls : Array Slot) (H : Heap) (locs : List Loc), K24 x1 x2 x3 x4 x5 I J B D → lv_has ls 8 [(0, .ref (ad 0)), (1, .int x1), (2, .int x2), (3, .int x3), (4, .int x4), (5, .int x5)] → zW G A s.heap (wM ad K I J B D) H locs → W p l e { frames := 3, cells := 0, slots := 0, locals := 85 } s m ([.ref (ad 0), .int a0, .int a1] : List Value).toArray below meth c H locs 0 0 (MQ below (va_Qi (fun (r : Int32) (u : zS) => Post r u.1 u.2.1 u.2.2.1 u.2.2.2) (fun u t => zPost G K A (wM ad K u.1 u.2.1 u.2.2.1 u.2.2.2) t) A) ([.ref (ad 0), .int a0, .int a1] : List Value).toArray s 0 0 A) (F0 m 24 ls [])) (K40 : Int32 → Int32 → Int32 → Int32 → Int32 → Int32 → (Nat → Int32) → (Nat → Int64) → (Nat → Nat → Int32) → (Nat → Nat → Int64) → Prop) (kh40 : ∀ (x1 : Int32) (x2 : Int32) (x3 : Int32) (x4 : Int32) (x5 : Int32) (x6 : Int32) (I : Nat → Int32) (J : Nat → Int64) (B : Nat → Nat → Int32) (D : Nat → Nat → Int64) (ls : Array Slot) (H : Heap) (locs : List Loc), K40 x1 x2 x3 x4 x5 x6 I J B D → lv_has ls 8 [(0, .ref (ad 0)), (1, .int x1), (2, .int x2), (3, .int x3), (4, .int x4), (5, .int x5), (6, .int x6)] → zW G A s.heap (wM ad K I J B D) H locs → W p l e { frames := 3, cells := 0, slots := 0, locals := 85 } s m ([.ref (ad 0), .int a0, .int a1] : List Value).toArray below meth c H locs 0 0 (MQ below (va_Qi (fun (r : Int32) (u : zS) => Post r u.1 u.2.1 u.2.2.1 u.2.2.2) (fun u t => zPost G K A (wM ad K u.1 u.2.1 u.2.2.1 u.2.2.2) t) A) ([.ref (ad 0), .int a0, .int a1] : List Value).toArray s 0 0 A) (F0 m 40 ls [])) : ∀ (x1 : Int32) (x2 : Int32) (x3 : Int32) (x4 : Int32) (x5 : Int32) (x6 : Int32) (I : Nat → Int32) (J : Nat → Int64) (B : Nat → Nat → Int32) (D : Nat → Nat → Int64) (ls : Array Slot) (H : Heap) (locs : List Loc), wc_LassoFinderModel_nearest_129 a0 a1 K24 K40 Post x1 x2 x3 x4 x5 x6 I J B D → lv_has ls 8 [(0, .ref (ad 0)), (1, .int x1), (2, .int x2), (3, .int x3), (4, .int x4), (5, .int x5), (6, .int x6)] → zW G A s.heap (wM ad K I J B D) H locs → W p l e { frames := 3, cells := 0, slots := 0, locals := 85 } s m ([.ref (ad 0), .int a0, .int a1] : List Value).toArray below meth c H locs 0 0 (MQ below (va_Qi (fun (r : Int32) (u : zS) => Post r u.1 u.2.1 u.2.2.1 u.2.2.2) (fun u t => zPost G K A (wM ad K u.1 u.2.1 u.2.2.1 u.2.2.2) t) A) ([.ref (ad 0), .int a0, .int a1] : List Value).toArray s 0 0 A) (F0 m 129 ls []) := by
  obtain ⟨hx, hb, hr, hml, hts, hown, hlocks, hA, hK⟩ := id C
  intro x1 x2 x3 x4 x5 x6 I J B D ls H locs hok hl hw
  unfold wc_LassoFinderModel_nearest_129 at hok
  obtain ⟨z1, ez1⟩ : ∃ z : Int32, z = (x6 + 1) := ⟨_, rfl⟩
  have hok := hok z1 ez1
  refine lv_iinc (v := z1) hx hb zd_LassoFinderModel_nearest_129 hl (k := 6) rfl ez1.symm (by decide) rfl (fun ls hl => ?_)
  have hl : lv_has ls 8 [(6, .int z1), (0, .ref (ad 0)), (1, .int x1), (2, .int x2), (3, .int x3), (4, .int x4), (5, .int x5)] := hl
  refine lv_goto (tgt := 40) hx hb zd_LassoFinderModel_nearest_132 (by decide) ?_
  exact kh40 x1 x2 x3 x4 x5 z1 I J B D ls H locs hok (lv_sub hl [1, 2, 3, 4, 5, 6, 0] rfl) hw
set_option maxHeartbeats 8000000 in
set_option maxRecDepth 100000 in
theorem wJ_LassoFinderModel_nearest_123 {p : Program} {l : Launch} {e : Env} {s : State} {m : MethodId} {below : List Frame} {meth : Method} {c : Code} {A : Nat → Prop} (G : va_G) (K : Nat → ClassId) (ad : Nat → Nat) (a0 : Int32) (a1 : Int32) (Post : Int32 → (Nat → Int32) → (Nat → Int64) → (Nat → Nat → Int32) → (Nat → Nat → Int64) → Prop) (C : zCx p s m ([.ref (ad 0), .int a0, .int a1] : List Value).toArray meth c A G K prog_14_method_57_code (some .int) 8 "LassoFinderModel") (K24 : Int32 → Int32 → Int32 → Int32 → Int32 → (Nat → Int32) → (Nat → Int64) → (Nat → Nat → Int32) → (Nat → Nat → Int64) → Prop) (kh24 : ∀ (x1 : Int32) (x2 : Int32) (x3 : Int32) (x4 : Int32) (x5 : Int32) (I : Nat → Int32) (J : Nat → Int64) (B : Nat → Nat → Int32) (D : Nat → Nat → Int64) (ls : Array Slot) (H : Heap) (locs : List Loc), K24 x1 x2 x3 x4 x5 I J B D → lv_has ls 8 [(0, .ref (ad 0)), (1, .int x1), (2, .int x2), (3, .int x3), (4, .int x4), (5, .int x5)] → zW G A s.heap (wM ad K I J B D) H locs → W p l e { frames := 3, cells := 0, slots := 0, locals := 85 } s m ([.ref (ad 0), .int a0, .int a1] : List Value).toArray below meth c H locs 0 0 (MQ below (va_Qi (fun (r : Int32) (u : zS) => Post r u.1 u.2.1 u.2.2.1 u.2.2.2) (fun u t => zPost G K A (wM ad K u.1 u.2.1 u.2.2.1 u.2.2.2) t) A) ([.ref (ad 0), .int a0, .int a1] : List Value).toArray s 0 0 A) (F0 m 24 ls [])) (K40 : Int32 → Int32 → Int32 → Int32 → Int32 → Int32 → (Nat → Int32) → (Nat → Int64) → (Nat → Nat → Int32) → (Nat → Nat → Int64) → Prop) (kh40 : ∀ (x1 : Int32) (x2 : Int32) (x3 : Int32) (x4 : Int32) (x5 : Int32) (x6 : Int32) (I : Nat → Int32) (J : Nat → Int64) (B : Nat → Nat → Int32) (D : Nat → Nat → Int64) (ls : Array Slot) (H : Heap) (locs : List Loc), K40 x1 x2 x3 x4 x5 x6 I J B D → lv_has ls 8 [(0, .ref (ad 0)), (1, .int x1), (2, .int x2), (3, .int x3), (4, .int x4), (5, .int x5), (6, .int x6)] → zW G A s.heap (wM ad K I J B D) H locs → W p l e { frames := 3, cells := 0, slots := 0, locals := 85 } s m ([.ref (ad 0), .int a0, .int a1] : List Value).toArray below meth c H locs 0 0 (MQ below (va_Qi (fun (r : Int32) (u : zS) => Post r u.1 u.2.1 u.2.2.1 u.2.2.2) (fun u t => zPost G K A (wM ad K u.1 u.2.1 u.2.2.1 u.2.2.2) t) A) ([.ref (ad 0), .int a0, .int a1] : List Value).toArray s 0 0 A) (F0 m 40 ls [])) : ∀ (x1 : Int32) (x2 : Int32) (x3 : Int32) (x5 : Int32) (x6 : Int32) (x7 : Int32) (I : Nat → Int32) (J : Nat → Int64) (B : Nat → Nat → Int32) (D : Nat → Nat → Int64) (ls : Array Slot) (H : Heap) (locs : List Loc), wc_LassoFinderModel_nearest_123 a0 a1 K24 K40 Post x1 x2 x3 x5 x6 x7 I J B D → lv_has ls 8 [(0, .ref (ad 0)), (1, .int x1), (2, .int x2), (3, .int x3), (5, .int x5), (6, .int x6), (7, .int x7)] → zW G A s.heap (wM ad K I J B D) H locs → W p l e { frames := 3, cells := 0, slots := 0, locals := 85 } s m ([.ref (ad 0), .int a0, .int a1] : List Value).toArray below meth c H locs 0 0 (MQ below (va_Qi (fun (r : Int32) (u : zS) => Post r u.1 u.2.1 u.2.2.1 u.2.2.2) (fun u t => zPost G K A (wM ad K u.1 u.2.1 u.2.2.1 u.2.2.2) t) A) ([.ref (ad 0), .int a0, .int a1] : List Value).toArray s 0 0 A) (F0 m 123 ls []) := by
  obtain ⟨hx, hb, hr, hml, hts, hown, hlocks, hA, hK⟩ := id C
  intro x1 x2 x3 x5 x6 x7 I J B D ls H locs hok hl hw
  unfold wc_LassoFinderModel_nearest_123 at hok
  refine lv_iload hx hb zd_LassoFinderModel_nearest_123 (lv_at hl 6 rfl) ?_
  refine lv_iconst (v := 1) hx hb zd_LassoFinderModel_nearest_125 (by decide) ?_
  refine lv_iadd hx hb zd_LassoFinderModel_nearest_126 ?_
  refine lv_topi (fun z2 ez2 => ?_)
  have hok := hok z2 ez2
  refine lv_istore hx hb zd_LassoFinderModel_nearest_127 hl (by decide) rfl (fun ls hl => ?_)
  have hl : lv_has ls 8 [(4, .int z2), (0, .ref (ad 0)), (1, .int x1), (2, .int x2), (3, .int x3), (5, .int x5), (6, .int x6), (7, .int x7)] := hl
  exact wJ_LassoFinderModel_nearest_129 G K ad a0 a1 Post C K24 kh24 K40 kh40 x1 x2 x3 z2 x5 x6 I J B D ls H locs hok (lv_sub hl [1, 2, 3, 4, 0, 5, 6] rfl) hw
set_option maxHeartbeats 8000000 in
set_option maxRecDepth 100000 in
theorem wJ_LassoFinderModel_nearest_102 {p : Program} {l : Launch} {e : Env} {s : State} {m : MethodId} {below : List Frame} {meth : Method} {c : Code} {A : Nat → Prop} (G : va_G) (K : Nat → ClassId) (ad : Nat → Nat) (a0 : Int32) (a1 : Int32) (Post : Int32 → (Nat → Int32) → (Nat → Int64) → (Nat → Nat → Int32) → (Nat → Nat → Int64) → Prop) (C : zCx p s m ([.ref (ad 0), .int a0, .int a1] : List Value).toArray meth c A G K prog_14_method_57_code (some .int) 8 "LassoFinderModel") (K24 : Int32 → Int32 → Int32 → Int32 → Int32 → (Nat → Int32) → (Nat → Int64) → (Nat → Nat → Int32) → (Nat → Nat → Int64) → Prop) (kh24 : ∀ (x1 : Int32) (x2 : Int32) (x3 : Int32) (x4 : Int32) (x5 : Int32) (I : Nat → Int32) (J : Nat → Int64) (B : Nat → Nat → Int32) (D : Nat → Nat → Int64) (ls : Array Slot) (H : Heap) (locs : List Loc), K24 x1 x2 x3 x4 x5 I J B D → lv_has ls 8 [(0, .ref (ad 0)), (1, .int x1), (2, .int x2), (3, .int x3), (4, .int x4), (5, .int x5)] → zW G A s.heap (wM ad K I J B D) H locs → W p l e { frames := 3, cells := 0, slots := 0, locals := 85 } s m ([.ref (ad 0), .int a0, .int a1] : List Value).toArray below meth c H locs 0 0 (MQ below (va_Qi (fun (r : Int32) (u : zS) => Post r u.1 u.2.1 u.2.2.1 u.2.2.2) (fun u t => zPost G K A (wM ad K u.1 u.2.1 u.2.2.1 u.2.2.2) t) A) ([.ref (ad 0), .int a0, .int a1] : List Value).toArray s 0 0 A) (F0 m 24 ls [])) (K40 : Int32 → Int32 → Int32 → Int32 → Int32 → Int32 → (Nat → Int32) → (Nat → Int64) → (Nat → Nat → Int32) → (Nat → Nat → Int64) → Prop) (kh40 : ∀ (x1 : Int32) (x2 : Int32) (x3 : Int32) (x4 : Int32) (x5 : Int32) (x6 : Int32) (I : Nat → Int32) (J : Nat → Int64) (B : Nat → Nat → Int32) (D : Nat → Nat → Int64) (ls : Array Slot) (H : Heap) (locs : List Loc), K40 x1 x2 x3 x4 x5 x6 I J B D → lv_has ls 8 [(0, .ref (ad 0)), (1, .int x1), (2, .int x2), (3, .int x3), (4, .int x4), (5, .int x5), (6, .int x6)] → zW G A s.heap (wM ad K I J B D) H locs → W p l e { frames := 3, cells := 0, slots := 0, locals := 85 } s m ([.ref (ad 0), .int a0, .int a1] : List Value).toArray below meth c H locs 0 0 (MQ below (va_Qi (fun (r : Int32) (u : zS) => Post r u.1 u.2.1 u.2.2.1 u.2.2.2) (fun u t => zPost G K A (wM ad K u.1 u.2.1 u.2.2.1 u.2.2.2) t) A) ([.ref (ad 0), .int a0, .int a1] : List Value).toArray s 0 0 A) (F0 m 40 ls [])) : ∀ (x1 : Int32) (x2 : Int32) (x3 : Int32) (x4 : Int32) (x5 : Int32) (x6 : Int32) (y0 : Int32) (I : Nat → Int32) (J : Nat → Int64) (B : Nat → Nat → Int32) (D : Nat → Nat → Int64) (ls : Array Slot) (H : Heap) (locs : List Loc), wc_LassoFinderModel_nearest_102 a0 a1 K24 K40 Post x1 x2 x3 x4 x5 x6 y0 I J B D → lv_has ls 8 [(0, .ref (ad 0)), (1, .int x1), (2, .int x2), (3, .int x3), (4, .int x4), (5, .int x5), (6, .int x6)] → zW G A s.heap (wM ad K I J B D) H locs → W p l e { frames := 3, cells := 0, slots := 0, locals := 85 } s m ([.ref (ad 0), .int a0, .int a1] : List Value).toArray below meth c H locs 0 0 (MQ below (va_Qi (fun (r : Int32) (u : zS) => Post r u.1 u.2.1 u.2.2.1 u.2.2.2) (fun u t => zPost G K A (wM ad K u.1 u.2.1 u.2.2.1 u.2.2.2) t) A) ([.ref (ad 0), .int a0, .int a1] : List Value).toArray s 0 0 A) (F0 m 102 ls [.int y0]) := by
  obtain ⟨hx, hb, hr, hml, hts, hown, hlocks, hA, hK⟩ := id C
  intro x1 x2 x3 x4 x5 x6 y0 I J B D ls H locs hok hl hw
  unfold wc_LassoFinderModel_nearest_102 at hok
  refine lv_istore hx hb zd_LassoFinderModel_nearest_102 hl (by decide) rfl (fun ls hl => ?_)
  have hl : lv_has ls 8 [(7, .int y0), (0, .ref (ad 0)), (1, .int x1), (2, .int x2), (3, .int x3), (4, .int x4), (5, .int x5), (6, .int x6)] := hl
  refine lv_iload hx hb zd_LassoFinderModel_nearest_104 (lv_at hl 0 rfl) ?_
  refine lv_if_lt (tgt := 129) hx hb zd_LassoFinderModel_nearest_106 (by decide) (fun hc3 => ?_) (fun hc3 => ?_)
  · have hok := hok.1 hc3
    exact wJ_LassoFinderModel_nearest_129 G K ad a0 a1 Post C K24 kh24 K40 kh40 x1 x2 x3 x4 x5 x6 I J B D ls H locs hok (lv_sub hl [1, 2, 3, 4, 5, 6, 7] rfl) hw
  · have hok := hok.2 hc3
    refine lv_iload hx hb zd_LassoFinderModel_nearest_109 (lv_at hl 5 rfl) ?_
    refine lv_if_eq (tgt := 123) hx hb zd_LassoFinderModel_nearest_111 (by decide) (fun hc4 => ?_) (fun hc4 => ?_)
    · have hok := hok.1 hc4
      exact wJ_LassoFinderModel_nearest_123 G K ad a0 a1 Post C K24 kh24 K40 kh40 x1 x2 x3 x5 x6 y0 I J B D ls H locs hok (lv_sub hl [1, 2, 3, 4, 6, 7, 0] rfl) hw
    · have hok := hok.2 hc4
      refine lv_iload hx hb zd_LassoFinderModel_nearest_114 (lv_at hl 0 rfl) ?_
      refine lv_iconst (v := 1) hx hb zd_LassoFinderModel_nearest_116 (by decide) ?_
      refine lv_iadd hx hb zd_LassoFinderModel_nearest_117 ?_
      refine lv_topi (fun z5 ez5 => ?_)
      have hok := hok z5 ez5
      refine lv_iload hx hb zd_LassoFinderModel_nearest_118 (lv_at hl 5 rfl) ?_
      refine lv_icmp_ge (tgt := 129) hx hb zd_LassoFinderModel_nearest_120 (by decide) (fun hc6 => ?_) (fun hc6 => ?_)
      · have hok := hok.1 hc6
        exact wJ_LassoFinderModel_nearest_129 G K ad a0 a1 Post C K24 kh24 K40 kh40 x1 x2 x3 x4 x5 x6 I J B D ls H locs hok (lv_sub hl [1, 2, 3, 4, 5, 6, 7] rfl) hw
      · have hok := hok.2 hc6
        exact wJ_LassoFinderModel_nearest_123 G K ad a0 a1 Post C K24 kh24 K40 kh40 x1 x2 x3 x5 x6 y0 I J B D ls H locs hok (lv_sub hl [1, 2, 3, 4, 6, 7, 0] rfl) hw
set_option maxHeartbeats 8000000 in
set_option maxRecDepth 100000 in
theorem wB_LassoFinderModel_nearest_40 {p : Program} {l : Launch} {e : Env} {s : State} {m : MethodId} {below : List Frame} {meth : Method} {c : Code} {A : Nat → Prop} (G : va_G) (K : Nat → ClassId) (ad : Nat → Nat) (a0 : Int32) (a1 : Int32) (Post : Int32 → (Nat → Int32) → (Nat → Int64) → (Nat → Nat → Int32) → (Nat → Nat → Int64) → Prop) (C : zCx p s m ([.ref (ad 0), .int a0, .int a1] : List Value).toArray meth c A G K prog_14_method_57_code (some .int) 8 "LassoFinderModel") (K24 : Int32 → Int32 → Int32 → Int32 → Int32 → (Nat → Int32) → (Nat → Int64) → (Nat → Nat → Int32) → (Nat → Nat → Int64) → Prop) (kh24 : ∀ (x1 : Int32) (x2 : Int32) (x3 : Int32) (x4 : Int32) (x5 : Int32) (I : Nat → Int32) (J : Nat → Int64) (B : Nat → Nat → Int32) (D : Nat → Nat → Int64) (ls : Array Slot) (H : Heap) (locs : List Loc), K24 x1 x2 x3 x4 x5 I J B D → lv_has ls 8 [(0, .ref (ad 0)), (1, .int x1), (2, .int x2), (3, .int x3), (4, .int x4), (5, .int x5)] → zW G A s.heap (wM ad K I J B D) H locs → W p l e { frames := 3, cells := 0, slots := 0, locals := 85 } s m ([.ref (ad 0), .int a0, .int a1] : List Value).toArray below meth c H locs 0 0 (MQ below (va_Qi (fun (r : Int32) (u : zS) => Post r u.1 u.2.1 u.2.2.1 u.2.2.2) (fun u t => zPost G K A (wM ad K u.1 u.2.1 u.2.2.1 u.2.2.2) t) A) ([.ref (ad 0), .int a0, .int a1] : List Value).toArray s 0 0 A) (F0 m 24 ls [])) (K40 : Int32 → Int32 → Int32 → Int32 → Int32 → Int32 → (Nat → Int32) → (Nat → Int64) → (Nat → Nat → Int32) → (Nat → Nat → Int64) → Prop) (kh40 : ∀ (x1 : Int32) (x2 : Int32) (x3 : Int32) (x4 : Int32) (x5 : Int32) (x6 : Int32) (I : Nat → Int32) (J : Nat → Int64) (B : Nat → Nat → Int32) (D : Nat → Nat → Int64) (ls : Array Slot) (H : Heap) (locs : List Loc), K40 x1 x2 x3 x4 x5 x6 I J B D → lv_has ls 8 [(0, .ref (ad 0)), (1, .int x1), (2, .int x2), (3, .int x3), (4, .int x4), (5, .int x5), (6, .int x6)] → zW G A s.heap (wM ad K I J B D) H locs → W p l e { frames := 3, cells := 0, slots := 0, locals := 85 } s m ([.ref (ad 0), .int a0, .int a1] : List Value).toArray below meth c H locs 0 0 (MQ below (va_Qi (fun (r : Int32) (u : zS) => Post r u.1 u.2.1 u.2.2.1 u.2.2.2) (fun u t => zPost G K A (wM ad K u.1 u.2.1 u.2.2.1 u.2.2.2) t) A) ([.ref (ad 0), .int a0, .int a1] : List Value).toArray s 0 0 A) (F0 m 40 ls [])) : ∀ (x1 : Int32) (x2 : Int32) (x3 : Int32) (x4 : Int32) (x5 : Int32) (x6 : Int32) (I : Nat → Int32) (J : Nat → Int64) (B : Nat → Nat → Int32) (D : Nat → Nat → Int64) (ls : Array Slot) (H : Heap) (locs : List Loc), wb_LassoFinderModel_nearest_40 a0 a1 K40 K24 Post x1 x2 x3 x4 x5 x6 I J B D → lv_has ls 8 [(0, .ref (ad 0)), (1, .int x1), (2, .int x2), (3, .int x3), (4, .int x4), (5, .int x5), (6, .int x6)] → zW G A s.heap (wM ad K I J B D) H locs → W p l e { frames := 3, cells := 0, slots := 0, locals := 85 } s m ([.ref (ad 0), .int a0, .int a1] : List Value).toArray below meth c H locs 0 0 (MQ below (va_Qi (fun (r : Int32) (u : zS) => Post r u.1 u.2.1 u.2.2.1 u.2.2.2) (fun u t => zPost G K A (wM ad K u.1 u.2.1 u.2.2.1 u.2.2.2) t) A) ([.ref (ad 0), .int a0, .int a1] : List Value).toArray s 0 0 A) (F0 m 40 ls []) := by
  obtain ⟨hx, hb, hr, hml, hts, hown, hlocks, hA, hK⟩ := id C
  intro x1 x2 x3 x4 x5 x6 I J B D ls H locs hok hl hw
  unfold wb_LassoFinderModel_nearest_40 at hok
  refine lv_iload hx hb zd_LassoFinderModel_nearest_40 (lv_at hl 6 rfl) ?_
  refine lv_iconst (v := 1) hx hb zd_LassoFinderModel_nearest_42 (by decide) ?_
  refine lv_aload_n hx hb zd_LassoFinderModel_nearest_43 rfl (lv_at hl 0 rfl) ?_
  refine z_get (v := .int (I 20)) hx hb hts hown hK hw zZ12 0 rfl 64 (by decide) zm_356 rfl zd_LassoFinderModel_nearest_44 ?_
  refine lv_ishl hx hb zd_LassoFinderModel_nearest_47 ?_
  refine lv_topi (fun z7 ez7 => ?_)
  have hok := hok z7 ez7
  refine lv_icmp_ge (tgt := 135) hx hb zd_LassoFinderModel_nearest_48 (by decide) (fun hc8 => ?_) (fun hc8 => ?_)
  · have hok := hok.1 hc8
    obtain ⟨z9, ez9⟩ : ∃ z : Int32, z = (x5 + 1) := ⟨_, rfl⟩
    have hok := hok z9 ez9
    refine lv_iinc (v := z9) hx hb zd_LassoFinderModel_nearest_135 hl (k := 5) rfl ez9.symm (by decide) rfl (fun ls hl => ?_)
    have hl : lv_has ls 8 [(5, .int z9), (0, .ref (ad 0)), (1, .int x1), (2, .int x2), (3, .int x3), (4, .int x4), (6, .int x6)] := hl
    refine lv_goto (tgt := 24) hx hb zd_LassoFinderModel_nearest_138 (by decide) ?_
    exact kh24 x1 x2 x3 x4 z9 I J B D ls H locs hok (lv_sub hl [1, 2, 3, 4, 5, 0] rfl) hw
  · have hok := hok.2 hc8
    refine lv_aload_n hx hb zd_LassoFinderModel_nearest_51 rfl (lv_at hl 0 rfl) ?_
    refine lv_iload_n hx hb zd_LassoFinderModel_nearest_52 rfl (lv_at hl 1 rfl) ?_
    refine lv_iload hx hb zd_LassoFinderModel_nearest_53 (lv_at hl 6 rfl) ?_
    refine z_calli (w1 := fun (u : zS) => wM ad K u.1 u.2.1 u.2.2.1 u.2.2.2) (wr := []) (z_runV (q0 := 0) (wc := (wM ad K I J B D)) (As := [.int x1, .int x6]) (rest := []) ⟨hx, hb, hml, hown, hts⟩ (w_LassoFinderModel_truthAt l G K ad I J B D x1 x6 _ H.size hok) zf_LassoFinderModel_truthAt zm_375 ⟨Nat.le_of_ble_eq_true rfl, Nat.le_of_ble_eq_true rfl⟩ hK hw [0, 1, 2, 3, 4, 5, 6, 7, 8, 9, 10, 11, 12, 13, 14, 15, 16, 17, 18, 19, 20, 21, 22, 23, 24, 25, 26, 27, 28, 29, 30, 31, 32, 33, 34, 35, 36, 37, 38, 39, 40, 41, 42, 43, 44, 45, 46, 47, 48, 49, 50, 51, 52, 53, 54, 55, 56, 57] rfl (by decide) rfl rfl rfl hl.1 rfl (Nat.le_of_ble_eq_true rfl) zd_LassoFinderModel_nearest_55 ⟨Nat.le_of_ble_eq_true rfl, Nat.le_of_ble_eq_true rfl⟩) hw hA [0, 1, 2, 3, 4, 5, 6, 7, 8, 9, 10, 11, 12, 13, 14, 15, 16, 17, 18, 19, 20, 21, 22, 23, 24, 25, 26, 27, 28, 29, 30, 31, 32, 33, 34, 35, 36, 37, 38, 39, 40, 41, 42, 43, 44, 45, 46, 47, 48, 49, 50, 51, 52, 53, 54, 55, 56, 57] [] rfl rfl (by decide) (by decide) (fun r10 u H locs hok hw => ?_)
    obtain ⟨I10, J10, B10, D10⟩ := u
    dsimp only at hok
    have hw : zW G A s.heap (wM ad K I10 J10 B10 D10) H locs := hw
    refine lv_iload_n hx hb zd_LassoFinderModel_nearest_58 rfl (lv_at hl 2 rfl) ?_
    refine lv_icmp_eq (tgt := 66) hx hb zd_LassoFinderModel_nearest_59 (by decide) (fun hc11 => ?_) (fun hc11 => ?_)
    · have hok := hok.1 hc11
      refine lv_aload_n hx hb zd_LassoFinderModel_nearest_66 rfl (lv_at hl 0 rfl) ?_
      refine lv_bipush (v := 64) hx hb zd_LassoFinderModel_nearest_67 (by decide) ?_
      refine lv_aload_n hx hb zd_LassoFinderModel_nearest_69 rfl (lv_at hl 0 rfl) ?_
      refine z_get (v := .ref (ad 33)) hx hb hts hown hK hw zZ12 0 rfl 49 (by decide) zm_267 rfl zd_LassoFinderModel_nearest_70 ?_
      refine lv_iload hx hb zd_LassoFinderModel_nearest_73 (lv_at hl 5 rfl) ?_
      refine va_iald (f := (B10 30)) hx hb hK hw.1 33 0 rfl rfl hok.1 zd_LassoFinderModel_nearest_75 ?_
      have hok := hok.2
      refine lv_topi (fun z12 ez12 => ?_)
      have hok := hok z12 ez12
      refine lv_imul hx hb zd_LassoFinderModel_nearest_76 ?_
      refine lv_topi (fun z13 ez13 => ?_)
      have hok := hok z13 ez13
      refine lv_bipush (v := 8) hx hb zd_LassoFinderModel_nearest_77 (by decide) ?_
      refine lv_iload hx hb zd_LassoFinderModel_nearest_79 (lv_at hl 6 rfl) ?_
      refine lv_imul hx hb zd_LassoFinderModel_nearest_81 ?_
      refine lv_topi (fun z14 ez14 => ?_)
      have hok := hok z14 ez14
      refine lv_iadd hx hb zd_LassoFinderModel_nearest_82 ?_
      refine lv_topi (fun z15 ez15 => ?_)
      have hok := hok z15 ez15
      refine lv_iload_n hx hb zd_LassoFinderModel_nearest_83 rfl (lv_at hl 3 rfl) ?_
      refine lv_aload_n hx hb zd_LassoFinderModel_nearest_84 rfl (lv_at hl 0 rfl) ?_
      refine lv_aload_n hx hb zd_LassoFinderModel_nearest_85 rfl (lv_at hl 0 rfl) ?_
      refine z_get (v := .ref (ad 33)) hx hb hts hown hK hw zZ12 0 rfl 49 (by decide) zm_267 rfl zd_LassoFinderModel_nearest_86 ?_
      refine lv_iload hx hb zd_LassoFinderModel_nearest_89 (lv_at hl 5 rfl) ?_
      refine va_iald (f := (B10 30)) hx hb hK hw.1 33 0 rfl rfl hok.1 zd_LassoFinderModel_nearest_91 ?_
      have hok := hok.2
      refine lv_topi (fun z16 ez16 => ?_)
      have hok := hok z16 ez16
      refine lv_iload hx hb zd_LassoFinderModel_nearest_92 (lv_at hl 6 rfl) ?_
      refine z_calli (w1 := fun (u : zS) => wM ad K u.1 u.2.1 u.2.2.1 u.2.2.2) (wr := []) (z_runV (q0 := 0) (wc := (wM ad K I10 J10 B10 D10)) (As := [.int z16, .int x6]) (rest := [.int x3, .int z15, .ref (ad 0)]) ⟨hx, hb, hml, hown, hts⟩ (w_LassoFinderModel_settled l G K ad I10 J10 B10 D10 z16 x6 _ H.size hok) zf_LassoFinderModel_settled zm_373 ⟨Nat.le_of_ble_eq_true rfl, Nat.le_of_ble_eq_true rfl⟩ hK hw [0, 1, 2, 3, 4, 5, 6, 7, 8, 9, 10, 11, 12, 13, 14, 15, 16, 17, 18, 19, 20, 21, 22, 23, 24, 25, 26, 27, 28, 29, 30, 31, 32, 33, 34, 35, 36, 37, 38, 39, 40, 41, 42, 43, 44, 45, 46, 47, 48, 49, 50, 51, 52, 53, 54, 55, 56, 57] rfl (by decide) rfl rfl rfl hl.1 rfl (Nat.le_of_ble_eq_true rfl) zd_LassoFinderModel_nearest_94 ⟨Nat.le_of_ble_eq_true rfl, Nat.le_of_ble_eq_true rfl⟩) hw hA [0, 1, 2, 3, 4, 5, 6, 7, 8, 9, 10, 11, 12, 13, 14, 15, 16, 17, 18, 19, 20, 21, 22, 23, 24, 25, 26, 27, 28, 29, 30, 31, 32, 33, 34, 35, 36, 37, 38, 39, 40, 41, 42, 43, 44, 45, 46, 47, 48, 49, 50, 51, 52, 53, 54, 55, 56, 57] [] rfl rfl (by decide) (by decide) (fun r17 u H locs hok hw => ?_)
      obtain ⟨I17, J17, B17, D17⟩ := u
      dsimp only at hok
      have hw : zW G A s.heap (wM ad K I17 J17 B17 D17) H locs := hw
      refine lv_ior hx hb zd_LassoFinderModel_nearest_97 ?_
      refine lv_topi (fun z18 ez18 => ?_)
      have hok := hok z18 ez18
      refine lv_iadd hx hb zd_LassoFinderModel_nearest_98 ?_
      refine lv_topi (fun z19 ez19 => ?_)
      have hok := hok z19 ez19
      refine z_calli (w1 := fun (u : zS) => wM ad K u.1 u.2.1 u.2.2.1 u.2.2.2) (wr := []) (z_runV (q0 := 0) (wc := (wM ad K I17 J17 B17 D17)) (As := [.int z19]) (rest := []) ⟨hx, hb, hml, hown, hts⟩ (w_LassoFinderModel_away l G K ad I17 J17 B17 D17 z19 _ H.size hok) zf_LassoFinderModel_away zm_376 ⟨Nat.le_of_ble_eq_true rfl, Nat.le_of_ble_eq_true rfl⟩ hK hw [0, 1, 2, 3, 4, 5, 6, 7, 8, 9, 10, 11, 12, 13, 14, 15, 16, 17, 18, 19, 20, 21, 22, 23, 24, 25, 26, 27, 28, 29, 30, 31, 32, 33, 34, 35, 36, 37, 38, 39, 40, 41, 42, 43, 44, 45, 46, 47, 48, 49, 50, 51, 52, 53, 54, 55, 56, 57] rfl (by decide) rfl rfl rfl hl.1 rfl (Nat.le_of_ble_eq_true rfl) zd_LassoFinderModel_nearest_99 ⟨Nat.le_of_ble_eq_true rfl, Nat.le_of_ble_eq_true rfl⟩) hw hA [0, 1, 2, 3, 4, 5, 6, 7, 8, 9, 10, 11, 12, 13, 14, 15, 16, 17, 18, 19, 20, 21, 22, 23, 24, 25, 26, 27, 28, 29, 30, 31, 32, 33, 34, 35, 36, 37, 38, 39, 40, 41, 42, 43, 44, 45, 46, 47, 48, 49, 50, 51, 52, 53, 54, 55, 56, 57] [] rfl rfl (by decide) (by decide) (fun r20 u H locs hok hw => ?_)
      obtain ⟨I20, J20, B20, D20⟩ := u
      dsimp only at hok
      have hw : zW G A s.heap (wM ad K I20 J20 B20 D20) H locs := hw
      exact wJ_LassoFinderModel_nearest_102 G K ad a0 a1 Post C K24 kh24 K40 kh40 x1 x2 x3 x4 x5 x6 r20 I20 J20 B20 D20 ls H locs hok (lv_sub hl [0, 1, 2, 3, 4, 5, 6] rfl) hw
    · have hok := hok.2 hc11
      refine lv_iconst (v := (-1)) hx hb zd_LassoFinderModel_nearest_62 (by decide) ?_
      refine lv_goto (tgt := 102) hx hb zd_LassoFinderModel_nearest_63 (by decide) ?_
      exact wJ_LassoFinderModel_nearest_102 G K ad a0 a1 Post C K24 kh24 K40 kh40 x1 x2 x3 x4 x5 x6 (-1) I10 J10 B10 D10 ls H locs hok (lv_sub hl [0, 1, 2, 3, 4, 5, 6] rfl) hw
theorem wL_LassoFinderModel_nearest_40 {p : Program} {l : Launch} {e : Env} {s : State} {m : MethodId} {below : List Frame} {meth : Method} {c : Code} {A : Nat → Prop} (G : va_G) (K : Nat → ClassId) (ad : Nat → Nat) (a0 : Int32) (a1 : Int32) (Post : Int32 → (Nat → Int32) → (Nat → Int64) → (Nat → Nat → Int32) → (Nat → Nat → Int64) → Prop) (C : zCx p s m ([.ref (ad 0), .int a0, .int a1] : List Value).toArray meth c A G K prog_14_method_57_code (some .int) 8 "LassoFinderModel") (K24 : Int32 → Int32 → Int32 → Int32 → Int32 → (Nat → Int32) → (Nat → Int64) → (Nat → Nat → Int32) → (Nat → Nat → Int64) → Prop) (kh24 : ∀ (x1 : Int32) (x2 : Int32) (x3 : Int32) (x4 : Int32) (x5 : Int32) (I : Nat → Int32) (J : Nat → Int64) (B : Nat → Nat → Int32) (D : Nat → Nat → Int64) (ls : Array Slot) (H : Heap) (locs : List Loc), K24 x1 x2 x3 x4 x5 I J B D → lv_has ls 8 [(0, .ref (ad 0)), (1, .int x1), (2, .int x2), (3, .int x3), (4, .int x4), (5, .int x5)] → zW G A s.heap (wM ad K I J B D) H locs → W p l e { frames := 3, cells := 0, slots := 0, locals := 85 } s m ([.ref (ad 0), .int a0, .int a1] : List Value).toArray below meth c H locs 0 0 (MQ below (va_Qi (fun (r : Int32) (u : zS) => Post r u.1 u.2.1 u.2.2.1 u.2.2.2) (fun u t => zPost G K A (wM ad K u.1 u.2.1 u.2.2.1 u.2.2.2) t) A) ([.ref (ad 0), .int a0, .int a1] : List Value).toArray s 0 0 A) (F0 m 24 ls [])) : ∀ (n : Nat) (x1 : Int32) (x2 : Int32) (x3 : Int32) (x4 : Int32) (x5 : Int32) (x6 : Int32) (I : Nat → Int32) (J : Nat → Int64) (B : Nat → Nat → Int32) (D : Nat → Nat → Int64) (ls : Array Slot) (H : Heap) (locs : List Loc), wl_LassoFinderModel_nearest_40 a0 a1 K24 Post n x1 x2 x3 x4 x5 x6 I J B D → lv_has ls 8 [(0, .ref (ad 0)), (1, .int x1), (2, .int x2), (3, .int x3), (4, .int x4), (5, .int x5), (6, .int x6)] → zW G A s.heap (wM ad K I J B D) H locs → W p l e { frames := 3, cells := 0, slots := 0, locals := 85 } s m ([.ref (ad 0), .int a0, .int a1] : List Value).toArray below meth c H locs 0 0 (MQ below (va_Qi (fun (r : Int32) (u : zS) => Post r u.1 u.2.1 u.2.2.1 u.2.2.2) (fun u t => zPost G K A (wM ad K u.1 u.2.1 u.2.2.1 u.2.2.2) t) A) ([.ref (ad 0), .int a0, .int a1] : List Value).toArray s 0 0 A) (F0 m 40 ls []) := by
  intro n
  induction n with
  | zero => intro x1 x2 x3 x4 x5 x6 I J B D ls H locs hok; exact hok.elim
  | succ n ih => exact wB_LassoFinderModel_nearest_40 G K ad a0 a1 Post C K24 kh24 (wl_LassoFinderModel_nearest_40 a0 a1 K24 Post n) ih
set_option maxHeartbeats 8000000 in
set_option maxRecDepth 100000 in
theorem wB_LassoFinderModel_nearest_24 {p : Program} {l : Launch} {e : Env} {s : State} {m : MethodId} {below : List Frame} {meth : Method} {c : Code} {A : Nat → Prop} (G : va_G) (K : Nat → ClassId) (ad : Nat → Nat) (a0 : Int32) (a1 : Int32) (Post : Int32 → (Nat → Int32) → (Nat → Int64) → (Nat → Nat → Int32) → (Nat → Nat → Int64) → Prop) (C : zCx p s m ([.ref (ad 0), .int a0, .int a1] : List Value).toArray meth c A G K prog_14_method_57_code (some .int) 8 "LassoFinderModel") (K24 : Int32 → Int32 → Int32 → Int32 → Int32 → (Nat → Int32) → (Nat → Int64) → (Nat → Nat → Int32) → (Nat → Nat → Int64) → Prop) (kh24 : ∀ (x1 : Int32) (x2 : Int32) (x3 : Int32) (x4 : Int32) (x5 : Int32) (I : Nat → Int32) (J : Nat → Int64) (B : Nat → Nat → Int32) (D : Nat → Nat → Int64) (ls : Array Slot) (H : Heap) (locs : List Loc), K24 x1 x2 x3 x4 x5 I J B D → lv_has ls 8 [(0, .ref (ad 0)), (1, .int x1), (2, .int x2), (3, .int x3), (4, .int x4), (5, .int x5)] → zW G A s.heap (wM ad K I J B D) H locs → W p l e { frames := 3, cells := 0, slots := 0, locals := 85 } s m ([.ref (ad 0), .int a0, .int a1] : List Value).toArray below meth c H locs 0 0 (MQ below (va_Qi (fun (r : Int32) (u : zS) => Post r u.1 u.2.1 u.2.2.1 u.2.2.2) (fun u t => zPost G K A (wM ad K u.1 u.2.1 u.2.2.1 u.2.2.2) t) A) ([.ref (ad 0), .int a0, .int a1] : List Value).toArray s 0 0 A) (F0 m 24 ls [])) : ∀ (x1 : Int32) (x2 : Int32) (x3 : Int32) (x4 : Int32) (x5 : Int32) (I : Nat → Int32) (J : Nat → Int64) (B : Nat → Nat → Int32) (D : Nat → Nat → Int64) (ls : Array Slot) (H : Heap) (locs : List Loc), wb_LassoFinderModel_nearest_24 a0 a1 K24 Post x1 x2 x3 x4 x5 I J B D → lv_has ls 8 [(0, .ref (ad 0)), (1, .int x1), (2, .int x2), (3, .int x3), (4, .int x4), (5, .int x5)] → zW G A s.heap (wM ad K I J B D) H locs → W p l e { frames := 3, cells := 0, slots := 0, locals := 85 } s m ([.ref (ad 0), .int a0, .int a1] : List Value).toArray below meth c H locs 0 0 (MQ below (va_Qi (fun (r : Int32) (u : zS) => Post r u.1 u.2.1 u.2.2.1 u.2.2.2) (fun u t => zPost G K A (wM ad K u.1 u.2.1 u.2.2.1 u.2.2.2) t) A) ([.ref (ad 0), .int a0, .int a1] : List Value).toArray s 0 0 A) (F0 m 24 ls []) := by
  obtain ⟨hx, hb, hr, hml, hts, hown, hlocks, hA, hK⟩ := id C
  intro x1 x2 x3 x4 x5 I J B D ls H locs hok hl hw
  unfold wb_LassoFinderModel_nearest_24 at hok
  refine lv_iload hx hb zd_LassoFinderModel_nearest_24 (lv_at hl 5 rfl) ?_
  refine lv_aload_n hx hb zd_LassoFinderModel_nearest_26 rfl (lv_at hl 0 rfl) ?_
  refine z_get (v := .ref (ad 32)) hx hb hts hown hK hw zZ12 0 rfl 48 (by decide) zm_266 rfl zd_LassoFinderModel_nearest_27 ?_
  refine lv_iload_n hx hb zd_LassoFinderModel_nearest_30 rfl (lv_at hl 1 rfl) ?_
  refine lv_iconst (v := 1) hx hb zd_LassoFinderModel_nearest_31 (by decide) ?_
  refine lv_iadd hx hb zd_LassoFinderModel_nearest_32 ?_
  refine lv_topi (fun z21 ez21 => ?_)
  have hok := hok z21 ez21
  refine va_iald (f := (B 29)) hx hb hK hw.1 32 0 rfl rfl hok.1 zd_LassoFinderModel_nearest_33 ?_
  have hok := hok.2
  refine lv_topi (fun z22 ez22 => ?_)
  have hok := hok z22 ez22
  refine lv_icmp_ge (tgt := 141) hx hb zd_LassoFinderModel_nearest_34 (by decide) (fun hc23 => ?_) (fun hc23 => ?_)
  · have hok := hok.1 hc23
    refine lv_iload hx hb zd_LassoFinderModel_nearest_141 (lv_at hl 4 rfl) ?_
    exact z_iret (u := (I, J, B, D)) hx hb hr hlocks rfl hw [0, 1, 2, 3, 4, 5, 6, 7, 8, 9, 10, 11, 12, 13, 14, 15, 16, 17, 18, 19, 20, 21, 22, 23, 24, 25, 26, 27, 28, 29, 30, 31, 32, 33, 34, 35, 36, 37, 38, 39, 40, 41, 42, 43, 44, 45, 46, 47, 48, 49, 50, 51, 52, 53, 54, 55, 56, 57] rfl (by decide) hok (Nat.le_of_ble_eq_true rfl) (Nat.le_of_ble_eq_true rfl) zd_LassoFinderModel_nearest_143
  · have hok := hok.2 hc23
    refine lv_iconst (v := 0) hx hb zd_LassoFinderModel_nearest_37 (by decide) ?_
    refine lv_istore hx hb zd_LassoFinderModel_nearest_38 hl (by decide) rfl (fun ls hl => ?_)
    have hl : lv_has ls 8 [(6, .int 0), (0, .ref (ad 0)), (1, .int x1), (2, .int x2), (3, .int x3), (4, .int x4), (5, .int x5)] := hl
    obtain ⟨n9, hok⟩ := hok
    exact wL_LassoFinderModel_nearest_40 G K ad a0 a1 Post C K24 kh24 n9 x1 x2 x3 x4 x5 0 I J B D ls H locs hok (lv_sub hl [1, 2, 3, 4, 5, 6, 0] rfl) hw
theorem wL_LassoFinderModel_nearest_24 {p : Program} {l : Launch} {e : Env} {s : State} {m : MethodId} {below : List Frame} {meth : Method} {c : Code} {A : Nat → Prop} (G : va_G) (K : Nat → ClassId) (ad : Nat → Nat) (a0 : Int32) (a1 : Int32) (Post : Int32 → (Nat → Int32) → (Nat → Int64) → (Nat → Nat → Int32) → (Nat → Nat → Int64) → Prop) (C : zCx p s m ([.ref (ad 0), .int a0, .int a1] : List Value).toArray meth c A G K prog_14_method_57_code (some .int) 8 "LassoFinderModel") : ∀ (n : Nat) (x1 : Int32) (x2 : Int32) (x3 : Int32) (x4 : Int32) (x5 : Int32) (I : Nat → Int32) (J : Nat → Int64) (B : Nat → Nat → Int32) (D : Nat → Nat → Int64) (ls : Array Slot) (H : Heap) (locs : List Loc), wl_LassoFinderModel_nearest_24 a0 a1 Post n x1 x2 x3 x4 x5 I J B D → lv_has ls 8 [(0, .ref (ad 0)), (1, .int x1), (2, .int x2), (3, .int x3), (4, .int x4), (5, .int x5)] → zW G A s.heap (wM ad K I J B D) H locs → W p l e { frames := 3, cells := 0, slots := 0, locals := 85 } s m ([.ref (ad 0), .int a0, .int a1] : List Value).toArray below meth c H locs 0 0 (MQ below (va_Qi (fun (r : Int32) (u : zS) => Post r u.1 u.2.1 u.2.2.1 u.2.2.2) (fun u t => zPost G K A (wM ad K u.1 u.2.1 u.2.2.1 u.2.2.2) t) A) ([.ref (ad 0), .int a0, .int a1] : List Value).toArray s 0 0 A) (F0 m 24 ls []) := by
  intro n
  induction n with
  | zero => intro x1 x2 x3 x4 x5 I J B D ls H locs hok; exact hok.elim
  | succ n ih => exact wB_LassoFinderModel_nearest_24 G K ad a0 a1 Post C (wl_LassoFinderModel_nearest_24 a0 a1 Post n) ih
set_option maxHeartbeats 8000000 in
set_option maxRecDepth 100000 in
theorem w_LassoFinderModel_nearest (l : Launch) (G : va_G) (K : Nat → ClassId) (ad : Nat → Nat) (I : Nat → Int32) (J : Nat → Int64) (B : Nat → Nat → Int32) (D : Nat → Nat → Int64) (a0 : Int32) (a1 : Int32) (Post : Int32 → (Nat → Int32) → (Nat → Int64) → (Nat → Nat → Int32) → (Nat → Nat → Int64) → Prop) (sz : Nat) (hok : wp_LassoFinderModel_nearest I J B D a0 a1 Post) : Met l zy_LassoFinderModel_nearest (Cond.code zy_LassoFinderModel_nearest prog_14_method_57_code 8 (some .int) :: zTB) { frames := 3, cells := 0, slots := 0, locals := 85 } (va_Pc [.ref (ad 0), .int a0, .int a1] (zPre G K (wM ad K I J B D) sz)) (va_Qi (fun (r : Int32) (u : zS) => Post r u.1 u.2.1 u.2.2.1 u.2.2.2) (fun u t => zPost G K (va_A (wM ad K I J B D) sz) (wM ad K u.1 u.2.1 u.2.2.1 u.2.2.2) t) (va_A (wM ad K I J B D) sz)) 0 0 (va_A (wM ad K I J B D) sz) := by
  refine zMet (y := zy_LassoFinderModel_nearest) (av := [.ref (ad 0), .int a0, .int a1]) (maxL := 8) (cc := prog_14_method_57_code) (ret := (some .int)) (W0 := (wM ad K I J B D)) (sz := sz) (G := G) (K := K) (wt := zTB) (mc := 0) (ms := 0) (Qf := fun A => va_Qi (fun (r : Int32) (u : zS) => Post r u.1 u.2.1 u.2.2.1 u.2.2.2) (fun u t => zPost G K A (wM ad K u.1 u.2.1 u.2.2.1 u.2.2.2) t) A) (by decide) (Nat.le_of_ble_eq_true rfl) ?_
  intro p e s m below meth c ls A hx hb hr hml hts hown hlocks hin hA hK H locs hw hsz hl
  clear hsz
  have hown : s.vm.findClass "LassoFinderModel" = some m.cls := hown
  have C : zCx p s m ([.ref (ad 0), .int a0, .int a1] : List Value).toArray meth c A G K prog_14_method_57_code (some .int) 8 "LassoFinderModel" := ⟨hx, hb, hr, hml, hts, hown, hlocks, hA, hK⟩
  have hl : lv_has ls 8 [(0, .ref (ad 0)), (1, .int a0), (2, .int a1)] := hl
  have hw : zW G A s.heap (wM ad K I J B D) H locs := hw
  unfold wp_LassoFinderModel_nearest at hok
  refine lv_aload_n hx hb zd_LassoFinderModel_nearest_0 rfl (lv_at hl 0 rfl) ?_
  refine lv_iload_n hx hb zd_LassoFinderModel_nearest_1 rfl (lv_at hl 1 rfl) ?_
  refine lv_iload_n hx hb zd_LassoFinderModel_nearest_2 rfl (lv_at hl 2 rfl) ?_
  refine z_callv (w1 := fun (u : zS) => wM ad K u.1 u.2.1 u.2.2.1 u.2.2.2) (wr := []) (z_runV (q0 := 0) (wc := (wM ad K I J B D)) (As := [.int a0, .int a1]) (rest := []) ⟨hx, hb, hml, hown, hts⟩ (w_LassoFinderModel_measure l G K ad I J B D a0 a1 _ H.size hok) zf_LassoFinderModel_measure zm_378 ⟨Nat.le_of_ble_eq_true rfl, Nat.le_of_ble_eq_true rfl⟩ hK hw [0, 1, 2, 3, 4, 5, 6, 7, 8, 9, 10, 11, 12, 13, 14, 15, 16, 17, 18, 19, 20, 21, 22, 23, 24, 25, 26, 27, 28, 29, 30, 31, 32, 33, 34, 35, 36, 37, 38, 39, 40, 41, 42, 43, 44, 45, 46, 47, 48, 49, 50, 51, 52, 53, 54, 55, 56, 57] rfl (by decide) rfl rfl rfl hl.1 rfl (Nat.le_of_ble_eq_true rfl) zd_LassoFinderModel_nearest_3 ⟨Nat.le_of_ble_eq_true rfl, Nat.le_of_ble_eq_true rfl⟩) hw hA [0, 1, 2, 3, 4, 5, 6, 7, 8, 9, 10, 11, 12, 13, 14, 15, 16, 17, 18, 19, 20, 21, 22, 23, 24, 25, 26, 27, 28, 29, 30, 31, 32, 33, 34, 35, 36, 37, 38, 39, 40, 41, 42, 43, 44, 45, 46, 47, 48, 49, 50, 51, 52, 53, 54, 55, 56, 57] [] rfl rfl (by decide) (by decide) (fun u H locs hok hw => ?_)
  obtain ⟨I24, J24, B24, D24⟩ := u
  dsimp only at hok
  have hw : zW G A s.heap (wM ad K I24 J24 B24 D24) H locs := hw
  refine lv_aload_n hx hb zd_LassoFinderModel_nearest_6 rfl (lv_at hl 0 rfl) ?_
  refine lv_iload_n hx hb zd_LassoFinderModel_nearest_7 rfl (lv_at hl 1 rfl) ?_
  refine lv_iload_n hx hb zd_LassoFinderModel_nearest_8 rfl (lv_at hl 2 rfl) ?_
  refine z_calli (w1 := fun (u : zS) => wM ad K u.1 u.2.1 u.2.2.1 u.2.2.2) (wr := []) (z_runV (q0 := 0) (wc := (wM ad K I24 J24 B24 D24)) (As := [.int a0, .int a1]) (rest := []) ⟨hx, hb, hml, hown, hts⟩ (w_LassoFinderModel_settled l G K ad I24 J24 B24 D24 a0 a1 _ H.size hok) zf_LassoFinderModel_settled zm_373 ⟨Nat.le_of_ble_eq_true rfl, Nat.le_of_ble_eq_true rfl⟩ hK hw [0, 1, 2, 3, 4, 5, 6, 7, 8, 9, 10, 11, 12, 13, 14, 15, 16, 17, 18, 19, 20, 21, 22, 23, 24, 25, 26, 27, 28, 29, 30, 31, 32, 33, 34, 35, 36, 37, 38, 39, 40, 41, 42, 43, 44, 45, 46, 47, 48, 49, 50, 51, 52, 53, 54, 55, 56, 57] rfl (by decide) rfl rfl rfl hl.1 rfl (Nat.le_of_ble_eq_true rfl) zd_LassoFinderModel_nearest_9 ⟨Nat.le_of_ble_eq_true rfl, Nat.le_of_ble_eq_true rfl⟩) hw hA [0, 1, 2, 3, 4, 5, 6, 7, 8, 9, 10, 11, 12, 13, 14, 15, 16, 17, 18, 19, 20, 21, 22, 23, 24, 25, 26, 27, 28, 29, 30, 31, 32, 33, 34, 35, 36, 37, 38, 39, 40, 41, 42, 43, 44, 45, 46, 47, 48, 49, 50, 51, 52, 53, 54, 55, 56, 57] [] rfl rfl (by decide) (by decide) (fun r25 u H locs hok hw => ?_)
  obtain ⟨I25, J25, B25, D25⟩ := u
  dsimp only at hok
  have hw : zW G A s.heap (wM ad K I25 J25 B25 D25) H locs := hw
  refine lv_istore_n hx hb zd_LassoFinderModel_nearest_12 rfl hl (by decide) rfl (fun ls hl => ?_)
  have hl : lv_has ls 8 [(3, .int r25), (0, .ref (ad 0)), (1, .int a0), (2, .int a1)] := hl
  refine lv_iconst (v := 0) hx hb zd_LassoFinderModel_nearest_13 (by decide) ?_
  refine lv_istore hx hb zd_LassoFinderModel_nearest_14 hl (by decide) rfl (fun ls hl => ?_)
  have hl : lv_has ls 8 [(4, .int 0), (3, .int r25), (0, .ref (ad 0)), (1, .int a0), (2, .int a1)] := hl
  refine lv_aload_n hx hb zd_LassoFinderModel_nearest_16 rfl (lv_at hl 2 rfl) ?_
  refine z_get (v := .ref (ad 32)) hx hb hts hown hK hw zZ12 0 rfl 48 (by decide) zm_266 rfl zd_LassoFinderModel_nearest_17 ?_
  refine lv_iload_n hx hb zd_LassoFinderModel_nearest_20 rfl (lv_at hl 3 rfl) ?_
  refine va_iald (f := (B25 29)) hx hb hK hw.1 32 0 rfl rfl hok.1 zd_LassoFinderModel_nearest_21 ?_
  have hok := hok.2
  refine lv_topi (fun z26 ez26 => ?_)
  have hok := hok z26 ez26
  refine lv_istore hx hb zd_LassoFinderModel_nearest_22 hl (by decide) rfl (fun ls hl => ?_)
  have hl : lv_has ls 8 [(5, .int z26), (4, .int 0), (3, .int r25), (0, .ref (ad 0)), (1, .int a0), (2, .int a1)] := hl
  obtain ⟨n9, hok⟩ := hok
  exact wL_LassoFinderModel_nearest_24 G K ad a0 a1 Post C n9 a0 a1 r25 0 z26 I25 J25 B25 D25 ls H locs hok (lv_sub hl [3, 4, 5, 2, 1, 0] rfl) hw
