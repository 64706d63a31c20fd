abbrev zy_LassoFinderModel_body : MethodName := ⟨"LassoFinderModel", "body", "()Z"⟩
abbrev zy_LassoFinderModel_label : MethodName := ⟨"LassoFinderModel", "label", "()Z"⟩
theorem zm_337 : Cond.methodLink "LassoFinderModel" 283 ⟨"LassoFinderModel", "label", "()Z"⟩ ∈ zTB := z_in (zt_7 _ (List.mem_of_getElem? (i := 150) rfl)) rfl
theorem zm_339 : Cond.methodLink "LassoFinderModel" 286 ⟨"LassoFinderModel", "statement", "()Z"⟩ ∈ zTB := z_in (zt_7 _ (List.mem_of_getElem? (i := 154) rfl)) rfl
theorem zm_340 : Cond.methodLink "LassoFinderModel" 289 ⟨"LassoFinderModel", "jumps", "(I)Z"⟩ ∈ zTB := z_in (zt_7 _ (List.mem_of_getElem? (i := 189) rfl)) rfl
theorem zm_436 : Cond.code ⟨"LassoFinderModel", "jumps", "(I)Z"⟩ prog_14_method_23_code 4 (some .boolean) ∈ zTB := z_in (zt_7 _ (List.mem_of_getElem? (i := 192) rfl)) rfl
theorem zm_437 : Cond.instanceMethod ⟨"LassoFinderModel", "jumps", "(I)Z"⟩ ∈ zTB := z_in (zt_7 _ (List.mem_of_getElem? (i := 191) rfl)) rfl
theorem zm_438 : Cond.code ⟨"LassoFinderModel", "statement", "()Z"⟩ prog_14_method_19_code 4 (some .boolean) ∈ zTB := z_in (zt_7 _ (List.mem_of_getElem? (i := 157) rfl)) rfl
theorem zm_439 : Cond.instanceMethod ⟨"LassoFinderModel", "statement", "()Z"⟩ ∈ zTB := z_in (zt_7 _ (List.mem_of_getElem? (i := 156) rfl)) rfl
theorem zm_440 : Cond.code ⟨"LassoFinderModel", "label", "()Z"⟩ prog_14_method_18_code 2 (some .boolean) ∈ zTB := z_in (zt_7 _ (List.mem_of_getElem? (i := 153) rfl)) rfl
theorem zm_441 : Cond.instanceMethod ⟨"LassoFinderModel", "label", "()Z"⟩ ∈ zTB := z_in (zt_7 _ (List.mem_of_getElem? (i := 152) rfl)) rfl
theorem zf_LassoFinderModel_jumps : zFaceV zy_LassoFinderModel_jumps prog_14_method_23_code 4 (some .boolean) 1 := ⟨zm_437, (z_in (zp_6 _ (List.mem_of_getElem? (i := 8) rfl)) rfl), zm_25, zm_436, by decide +kernel, by decide +kernel, by decide +kernel⟩
theorem zf_LassoFinderModel_statement : zFaceV zy_LassoFinderModel_statement prog_14_method_19_code 4 (some .boolean) 0 := ⟨zm_439, (z_in (zp_6 _ (List.mem_of_getElem? (i := 0) rfl)) rfl), zm_25, zm_438, by decide +kernel, by decide +kernel, by decide +kernel⟩
theorem zf_LassoFinderModel_label : zFaceV zy_LassoFinderModel_label prog_14_method_18_code 2 (some .boolean) 0 := ⟨zm_441, (z_in (zp_5 _ (List.mem_of_getElem? (i := 15) rfl)) rfl), zm_25, zm_440, by decide +kernel, by decide +kernel, by decide +kernel⟩
theorem zd_LassoFinderModel_body_0 : decode prog_14_method_24_code 0 = .ok (.aload_n 0, 1) := by decide +kernel
theorem zd_LassoFinderModel_body_1 : decode prog_14_method_24_code 1 = .ok (.getfield 251, 3) := by decide +kernel
theorem zd_LassoFinderModel_body_4 : decode prog_14_method_24_code 4 = .ok (.istore_n 1, 1) := by decide +kernel
theorem zd_LassoFinderModel_body_5 : decode prog_14_method_24_code 5 = .ok (.aload_n 0, 1) := by decide +kernel
theorem zd_LassoFinderModel_body_6 : decode prog_14_method_24_code 6 = .ok (.iconst 0, 1) := by decide +kernel
theorem zd_LassoFinderModel_body_7 : decode prog_14_method_24_code 7 = .ok (.putfield 248, 3) := by decide +kernel
theorem zd_LassoFinderModel_body_10 : decode prog_14_method_24_code 10 = .ok (.aload_n 0, 1) := by decide +kernel
theorem zd_LassoFinderModel_body_11 : decode prog_14_method_24_code 11 = .ok (.getfield 94, 3) := by decide +kernel
theorem zd_LassoFinderModel_body_14 : decode prog_14_method_24_code 14 = .ok (.iconst 0, 1) := by decide +kernel
theorem zd_LassoFinderModel_body_15 : decode prog_14_method_24_code 15 = .ok (.iconst 0, 1) := by decide +kernel
theorem zd_LassoFinderModel_body_16 : decode prog_14_method_24_code 16 = .ok (.iastore, 1) := by decide +kernel
theorem zd_LassoFinderModel_body_17 : decode prog_14_method_24_code 17 = .ok (.aload_n 0, 1) := by decide +kernel
theorem zd_LassoFinderModel_body_18 : decode prog_14_method_24_code 18 = .ok (.getfield 97, 3) := by decide +kernel
theorem zd_LassoFinderModel_body_21 : decode prog_14_method_24_code 21 = .ok (.iconst 0, 1) := by decide +kernel
theorem zd_LassoFinderModel_body_22 : decode prog_14_method_24_code 22 = .ok (.iconst (-1), 1) := by decide +kernel
theorem zd_LassoFinderModel_body_23 : decode prog_14_method_24_code 23 = .ok (.iastore, 1) := by decide +kernel
theorem zd_LassoFinderModel_body_24 : decode prog_14_method_24_code 24 = .ok (.aload_n 0, 1) := by decide +kernel
theorem zd_LassoFinderModel_body_25 : decode prog_14_method_24_code 25 = .ok (.getfield 100, 3) := by decide +kernel
theorem zd_LassoFinderModel_body_28 : decode prog_14_method_24_code 28 = .ok (.iconst 0, 1) := by decide +kernel
theorem zd_LassoFinderModel_body_29 : decode prog_14_method_24_code 29 = .ok (.iconst (-1), 1) := by decide +kernel
theorem zd_LassoFinderModel_body_30 : decode prog_14_method_24_code 30 = .ok (.iastore, 1) := by decide +kernel
theorem zd_LassoFinderModel_body_31 : decode prog_14_method_24_code 31 = .ok (.aload_n 0, 1) := by decide +kernel
theorem zd_LassoFinderModel_body_32 : decode prog_14_method_24_code 32 = .ok (.getfield 75, 3) := by decide +kernel
theorem zd_LassoFinderModel_body_35 : decode prog_14_method_24_code 35 = .ok (.aload_n 0, 1) := by decide +kernel
theorem zd_LassoFinderModel_body_36 : decode prog_14_method_24_code 36 = .ok (.getfield 254, 3) := by decide +kernel
theorem zd_LassoFinderModel_body_39 : decode prog_14_method_24_code 39 = .ok (.iconst 0, 1) := by decide +kernel
theorem zd_LassoFinderModel_body_40 : decode prog_14_method_24_code 40 = .ok (.iastore, 1) := by decide +kernel
theorem zd_LassoFinderModel_body_41 : decode prog_14_method_24_code 41 = .ok (.aload_n 0, 1) := by decide +kernel
theorem zd_LassoFinderModel_body_42 : decode prog_14_method_24_code 42 = .ok (.getfield 78, 3) := by decide +kernel
theorem zd_LassoFinderModel_body_45 : decode prog_14_method_24_code 45 = .ok (.aload_n 0, 1) := by decide +kernel
theorem zd_LassoFinderModel_body_46 : decode prog_14_method_24_code 46 = .ok (.getfield 254, 3) := by decide +kernel
theorem zd_LassoFinderModel_body_49 : decode prog_14_method_24_code 49 = .ok (.aload_n 0, 1) := by decide +kernel
theorem zd_LassoFinderModel_body_50 : decode prog_14_method_24_code 50 = .ok (.getfield 251, 3) := by decide +kernel
theorem zd_LassoFinderModel_body_53 : decode prog_14_method_24_code 53 = .ok (.iastore, 1) := by decide +kernel
theorem zd_LassoFinderModel_body_54 : decode prog_14_method_24_code 54 = .ok (.iconst 0, 1) := by decide +kernel
theorem zd_LassoFinderModel_body_55 : decode prog_14_method_24_code 55 = .ok (.istore_n 2, 1) := by decide +kernel
theorem zd_LassoFinderModel_body_56 : decode prog_14_method_24_code 56 = .ok (.iload_n 2, 1) := by decide +kernel
theorem zd_LassoFinderModel_body_57 : decode prog_14_method_24_code 57 = .ok (.aload_n 0, 1) := by decide +kernel
theorem zd_LassoFinderModel_body_58 : decode prog_14_method_24_code 58 = .ok (.getfield 200, 3) := by decide +kernel
theorem zd_LassoFinderModel_body_61 : decode prog_14_method_24_code 61 = .ok (.if_icmp .gt 265, 3) := by decide +kernel
theorem zd_LassoFinderModel_body_64 : decode prog_14_method_24_code 64 = .ok (.aload_n 0, 1) := by decide +kernel
theorem zd_LassoFinderModel_body_65 : decode prog_14_method_24_code 65 = .ok (.invokevirtual 209, 3) := by decide +kernel
theorem zd_LassoFinderModel_body_68 : decode prog_14_method_24_code 68 = .ok (.bipush 58, 2) := by decide +kernel
theorem zd_LassoFinderModel_body_70 : decode prog_14_method_24_code 70 = .ok (.if_icmp .ne 12, 3) := by decide +kernel
theorem zd_LassoFinderModel_body_73 : decode prog_14_method_24_code 73 = .ok (.aload_n 0, 1) := by decide +kernel
theorem zd_LassoFinderModel_body_74 : decode prog_14_method_24_code 74 = .ok (.invokevirtual 283, 3) := by decide +kernel
theorem zd_LassoFinderModel_body_77 : decode prog_14_method_24_code 77 = .ok (.ifCond .ne (-13), 3) := by decide +kernel
theorem zd_LassoFinderModel_body_80 : decode prog_14_method_24_code 80 = .ok (.iconst 0, 1) := by decide +kernel
theorem zd_LassoFinderModel_body_81 : decode prog_14_method_24_code 81 = .ok (.ireturn, 1) := by decide +kernel
theorem zd_LassoFinderModel_body_82 : decode prog_14_method_24_code 82 = .ok (.aload_n 0, 1) := by decide +kernel
theorem zd_LassoFinderModel_body_83 : decode prog_14_method_24_code 83 = .ok (.getfield 248, 3) := by decide +kernel
theorem zd_LassoFinderModel_body_86 : decode prog_14_method_24_code 86 = .ok (.istore_n 3, 1) := by decide +kernel
theorem zd_LassoFinderModel_body_87 : decode prog_14_method_24_code 87 = .ok (.aload_n 0, 1) := by decide +kernel
theorem zd_LassoFinderModel_body_88 : decode prog_14_method_24_code 88 = .ok (.invokevirtual 286, 3) := by decide +kernel
theorem zd_LassoFinderModel_body_91 : decode prog_14_method_24_code 91 = .ok (.ifCond .ne 5, 3) := by decide +kernel
theorem zd_LassoFinderModel_body_94 : decode prog_14_method_24_code 94 = .ok (.iconst 0, 1) := by decide +kernel
theorem zd_LassoFinderModel_body_95 : decode prog_14_method_24_code 95 = .ok (.ireturn, 1) := by decide +kernel
theorem zd_LassoFinderModel_body_96 : decode prog_14_method_24_code 96 = .ok (.aload_n 0, 1) := by decide +kernel
theorem zd_LassoFinderModel_body_97 : decode prog_14_method_24_code 97 = .ok (.getfield 248, 3) := by decide +kernel
theorem zd_LassoFinderModel_body_100 : decode prog_14_method_24_code 100 = .ok (.iload_n 3, 1) := by decide +kernel
theorem zd_LassoFinderModel_body_101 : decode prog_14_method_24_code 101 = .ok (.if_icmp .le 6, 3) := by decide +kernel
theorem zd_LassoFinderModel_body_104 : decode prog_14_method_24_code 104 = .ok (.goto 216, 3) := by decide +kernel
theorem zd_LassoFinderModel_body_107 : decode prog_14_method_24_code 107 = .ok (.iconst 1, 1) := by decide +kernel
theorem zd_LassoFinderModel_body_108 : decode prog_14_method_24_code 108 = .ok (.istore 4, 2) := by decide +kernel
theorem zd_LassoFinderModel_body_110 : decode prog_14_method_24_code 110 = .ok (.iload 4, 2) := by decide +kernel
theorem zd_LassoFinderModel_body_112 : decode prog_14_method_24_code 112 = .ok (.ifCond .eq 99, 3) := by decide +kernel
theorem zd_LassoFinderModel_body_115 : decode prog_14_method_24_code 115 = .ok (.aload_n 0, 1) := by decide +kernel
theorem zd_LassoFinderModel_body_116 : decode prog_14_method_24_code 116 = .ok (.invokevirtual 209, 3) := by decide +kernel
theorem zd_LassoFinderModel_body_119 : decode prog_14_method_24_code 119 = .ok (.bipush 93, 2) := by decide +kernel
theorem zd_LassoFinderModel_body_121 : decode prog_14_method_24_code 121 = .ok (.if_icmp .ne 20, 3) := by decide +kernel
theorem zd_LassoFinderModel_body_124 : decode prog_14_method_24_code 124 = .ok (.aload_n 0, 1) := by decide +kernel
theorem zd_LassoFinderModel_body_125 : decode prog_14_method_24_code 125 = .ok (.getfield 94, 3) := by decide +kernel
theorem zd_LassoFinderModel_body_128 : decode prog_14_method_24_code 128 = .ok (.aload_n 0, 1) := by decide +kernel
theorem zd_LassoFinderModel_body_129 : decode prog_14_method_24_code 129 = .ok (.getfield 248, 3) := by decide +kernel
theorem zd_LassoFinderModel_body_132 : decode prog_14_method_24_code 132 = .ok (.iaload, 1) := by decide +kernel
theorem zd_LassoFinderModel_body_133 : decode prog_14_method_24_code 133 = .ok (.iconst 1, 1) := by decide +kernel
theorem zd_LassoFinderModel_body_134 : decode prog_14_method_24_code 134 = .ok (.iconst 2, 1) := by decide +kernel
theorem zd_LassoFinderModel_body_135 : decode prog_14_method_24_code 135 = .ok (.invokestatic 196, 3) := by decide +kernel
theorem zd_LassoFinderModel_body_138 : decode prog_14_method_24_code 138 = .ok (.ifCond .ne 25, 3) := by decide +kernel
theorem zd_LassoFinderModel_body_141 : decode prog_14_method_24_code 141 = .ok (.aload_n 0, 1) := by decide +kernel
theorem zd_LassoFinderModel_body_142 : decode prog_14_method_24_code 142 = .ok (.invokevirtual 209, 3) := by decide +kernel
theorem zd_LassoFinderModel_body_145 : decode prog_14_method_24_code 145 = .ok (.bipush 62, 2) := by decide +kernel
theorem zd_LassoFinderModel_body_147 : decode prog_14_method_24_code 147 = .ok (.if_icmp .ne 20, 3) := by decide +kernel
theorem zd_LassoFinderModel_body_150 : decode prog_14_method_24_code 150 = .ok (.aload_n 0, 1) := by decide +kernel
theorem zd_LassoFinderModel_body_151 : decode prog_14_method_24_code 151 = .ok (.getfield 94, 3) := by decide +kernel
theorem zd_LassoFinderModel_body_154 : decode prog_14_method_24_code 154 = .ok (.aload_n 0, 1) := by decide +kernel
theorem zd_LassoFinderModel_body_155 : decode prog_14_method_24_code 155 = .ok (.getfield 248, 3) := by decide +kernel
theorem zd_LassoFinderModel_body_158 : decode prog_14_method_24_code 158 = .ok (.iaload, 1) := by decide +kernel
theorem zd_LassoFinderModel_body_159 : decode prog_14_method_24_code 159 = .ok (.iconst 3, 1) := by decide +kernel
theorem zd_LassoFinderModel_body_160 : decode prog_14_method_24_code 160 = .ok (.if_icmp .ne 7, 3) := by decide +kernel
theorem zd_LassoFinderModel_body_163 : decode prog_14_method_24_code 163 = .ok (.iconst 1, 1) := by decide +kernel
theorem zd_LassoFinderModel_body_164 : decode prog_14_method_24_code 164 = .ok (.goto 4, 3) := by decide +kernel
theorem zd_LassoFinderModel_body_167 : decode prog_14_method_24_code 167 = .ok (.iconst 0, 1) := by decide +kernel
theorem zd_LassoFinderModel_body_168 : decode prog_14_method_24_code 168 = .ok (.istore 4, 2) := by decide +kernel
theorem zd_LassoFinderModel_body_170 : decode prog_14_method_24_code 170 = .ok (.aload_n 0, 1) := by decide +kernel
theorem zd_LassoFinderModel_body_171 : decode prog_14_method_24_code 171 = .ok (.dup, 1) := by decide +kernel
theorem zd_LassoFinderModel_body_172 : decode prog_14_method_24_code 172 = .ok (.getfield 248, 3) := by decide +kernel
theorem zd_LassoFinderModel_body_175 : decode prog_14_method_24_code 175 = .ok (.iload 4, 2) := by decide +kernel
theorem zd_LassoFinderModel_body_177 : decode prog_14_method_24_code 177 = .ok (.ifCond .eq 7, 3) := by decide +kernel
theorem zd_LassoFinderModel_body_180 : decode prog_14_method_24_code 180 = .ok (.iconst 1, 1) := by decide +kernel
theorem zd_LassoFinderModel_body_181 : decode prog_14_method_24_code 181 = .ok (.goto 4, 3) := by decide +kernel
theorem zd_LassoFinderModel_body_184 : decode prog_14_method_24_code 184 = .ok (.iconst 0, 1) := by decide +kernel
theorem zd_LassoFinderModel_body_185 : decode prog_14_method_24_code 185 = .ok (.isub, 1) := by decide +kernel
theorem zd_LassoFinderModel_body_186 : decode prog_14_method_24_code 186 = .ok (.putfield 248, 3) := by decide +kernel
theorem zd_LassoFinderModel_body_189 : decode prog_14_method_24_code 189 = .ok (.aload_n 0, 1) := by decide +kernel
theorem zd_LassoFinderModel_body_190 : decode prog_14_method_24_code 190 = .ok (.dup, 1) := by decide +kernel
theorem zd_LassoFinderModel_body_191 : decode prog_14_method_24_code 191 = .ok (.getfield 203, 3) := by decide +kernel
theorem zd_LassoFinderModel_body_194 : decode prog_14_method_24_code 194 = .ok (.iload 4, 2) := by decide +kernel
theorem zd_LassoFinderModel_body_196 : decode prog_14_method_24_code 196 = .ok (.ifCond .eq 7, 3) := by decide +kernel
theorem zd_LassoFinderModel_body_199 : decode prog_14_method_24_code 199 = .ok (.iconst 1, 1) := by decide +kernel
theorem zd_LassoFinderModel_body_200 : decode prog_14_method_24_code 200 = .ok (.goto 4, 3) := by decide +kernel
theorem zd_LassoFinderModel_body_203 : decode prog_14_method_24_code 203 = .ok (.iconst 0, 1) := by decide +kernel
theorem zd_LassoFinderModel_body_204 : decode prog_14_method_24_code 204 = .ok (.iadd, 1) := by decide +kernel
theorem zd_LassoFinderModel_body_205 : decode prog_14_method_24_code 205 = .ok (.putfield 203, 3) := by decide +kernel
theorem zd_LassoFinderModel_body_208 : decode prog_14_method_24_code 208 = .ok (.goto (-98), 3) := by decide +kernel
theorem zd_LassoFinderModel_body_211 : decode prog_14_method_24_code 211 = .ok (.aload_n 0, 1) := by decide +kernel
theorem zd_LassoFinderModel_body_212 : decode prog_14_method_24_code 212 = .ok (.invokevirtual 209, 3) := by decide +kernel
theorem zd_LassoFinderModel_body_215 : decode prog_14_method_24_code 215 = .ok (.bipush 125, 2) := by decide +kernel
theorem zd_LassoFinderModel_body_217 : decode prog_14_method_24_code 217 = .ok (.if_icmp .ne 26, 3) := by decide +kernel
theorem zd_LassoFinderModel_body_220 : decode prog_14_method_24_code 220 = .ok (.aload_n 0, 1) := by decide +kernel
theorem zd_LassoFinderModel_body_221 : decode prog_14_method_24_code 221 = .ok (.getfield 248, 3) := by decide +kernel
theorem zd_LassoFinderModel_body_224 : decode prog_14_method_24_code 224 = .ok (.ifCond .ne 19, 3) := by decide +kernel
theorem zd_LassoFinderModel_body_227 : decode prog_14_method_24_code 227 = .ok (.aload_n 0, 1) := by decide +kernel
theorem zd_LassoFinderModel_body_228 : decode prog_14_method_24_code 228 = .ok (.dup, 1) := by decide +kernel
theorem zd_LassoFinderModel_body_229 : decode prog_14_method_24_code 229 = .ok (.getfield 203, 3) := by decide +kernel
theorem zd_LassoFinderModel_body_232 : decode prog_14_method_24_code 232 = .ok (.iconst 1, 1) := by decide +kernel
theorem zd_LassoFinderModel_body_233 : decode prog_14_method_24_code 233 = .ok (.iadd, 1) := by decide +kernel
theorem zd_LassoFinderModel_body_234 : decode prog_14_method_24_code 234 = .ok (.putfield 203, 3) := by decide +kernel
theorem zd_LassoFinderModel_body_237 : decode prog_14_method_24_code 237 = .ok (.aload_n 0, 1) := by decide +kernel
theorem zd_LassoFinderModel_body_238 : decode prog_14_method_24_code 238 = .ok (.iload_n 1, 1) := by decide +kernel
theorem zd_LassoFinderModel_body_239 : decode prog_14_method_24_code 239 = .ok (.invokevirtual 289, 3) := by decide +kernel
theorem zd_LassoFinderModel_body_242 : decode prog_14_method_24_code 242 = .ok (.ireturn, 1) := by decide +kernel
theorem zd_LassoFinderModel_body_243 : decode prog_14_method_24_code 243 = .ok (.aload_n 0, 1) := by decide +kernel
theorem zd_LassoFinderModel_body_244 : decode prog_14_method_24_code 244 = .ok (.invokevirtual 209, 3) := by decide +kernel
theorem zd_LassoFinderModel_body_247 : decode prog_14_method_24_code 247 = .ok (.bipush 124, 2) := by decide +kernel
theorem zd_LassoFinderModel_body_249 : decode prog_14_method_24_code 249 = .ok (.if_icmp .ne 24, 3) := by decide +kernel
theorem zd_LassoFinderModel_body_252 : decode prog_14_method_24_code 252 = .ok (.aload_n 0, 1) := by decide +kernel
theorem zd_LassoFinderModel_body_253 : decode prog_14_method_24_code 253 = .ok (.getfield 94, 3) := by decide +kernel
theorem zd_LassoFinderModel_body_256 : decode prog_14_method_24_code 256 = .ok (.aload_n 0, 1) := by decide +kernel
theorem zd_LassoFinderModel_body_257 : decode prog_14_method_24_code 257 = .ok (.getfield 248, 3) := by decide +kernel
theorem zd_LassoFinderModel_body_260 : decode prog_14_method_24_code 260 = .ok (.iaload, 1) := by decide +kernel
theorem zd_LassoFinderModel_body_261 : decode prog_14_method_24_code 261 = .ok (.iconst 1, 1) := by decide +kernel
theorem zd_LassoFinderModel_body_262 : decode prog_14_method_24_code 262 = .ok (.iconst 2, 1) := by decide +kernel
theorem zd_LassoFinderModel_body_263 : decode prog_14_method_24_code 263 = .ok (.invokestatic 196, 3) := by decide +kernel
theorem zd_LassoFinderModel_body_266 : decode prog_14_method_24_code 266 = .ok (.ifCond .eq 7, 3) := by decide +kernel
theorem zd_LassoFinderModel_body_269 : decode prog_14_method_24_code 269 = .ok (.iconst 1, 1) := by decide +kernel
theorem zd_LassoFinderModel_body_270 : decode prog_14_method_24_code 270 = .ok (.goto 4, 3) := by decide +kernel
theorem zd_LassoFinderModel_body_273 : decode prog_14_method_24_code 273 = .ok (.iconst 0, 1) := by decide +kernel
theorem zd_LassoFinderModel_body_274 : decode prog_14_method_24_code 274 = .ok (.istore 5, 2) := by decide +kernel
theorem zd_LassoFinderModel_body_276 : decode prog_14_method_24_code 276 = .ok (.iload 5, 2) := by decide +kernel
theorem zd_LassoFinderModel_body_278 : decode prog_14_method_24_code 278 = .ok (.ifCond .eq 13, 3) := by decide +kernel
theorem zd_LassoFinderModel_body_281 : decode prog_14_method_24_code 281 = .ok (.aload_n 0, 1) := by decide +kernel
theorem zd_LassoFinderModel_body_282 : decode prog_14_method_24_code 282 = .ok (.getfield 100, 3) := by decide +kernel
theorem zd_LassoFinderModel_body_285 : decode prog_14_method_24_code 285 = .ok (.aload_n 0, 1) := by decide +kernel
theorem zd_LassoFinderModel_body_286 : decode prog_14_method_24_code 286 = .ok (.getfield 248, 3) := by decide +kernel
theorem zd_LassoFinderModel_body_289 : decode prog_14_method_24_code 289 = .ok (.iconst (-1), 1) := by decide +kernel
theorem zd_LassoFinderModel_body_290 : decode prog_14_method_24_code 290 = .ok (.iastore, 1) := by decide +kernel
theorem zd_LassoFinderModel_body_291 : decode prog_14_method_24_code 291 = .ok (.iload 5, 2) := by decide +kernel
theorem zd_LassoFinderModel_body_293 : decode prog_14_method_24_code 293 = .ok (.ifCond .ne 17, 3) := by decide +kernel
theorem zd_LassoFinderModel_body_296 : decode prog_14_method_24_code 296 = .ok (.aload_n 0, 1) := by decide +kernel
theorem zd_LassoFinderModel_body_297 : decode prog_14_method_24_code 297 = .ok (.invokevirtual 209, 3) := by decide +kernel
theorem zd_LassoFinderModel_body_300 : decode prog_14_method_24_code 300 = .ok (.bipush 59, 2) := by decide +kernel
theorem zd_LassoFinderModel_body_302 : decode prog_14_method_24_code 302 = .ok (.if_icmp .eq 8, 3) := by decide +kernel
theorem zd_LassoFinderModel_body_305 : decode prog_14_method_24_code 305 = .ok (.aload_n 0, 1) := by decide +kernel
theorem zd_LassoFinderModel_body_306 : decode prog_14_method_24_code 306 = .ok (.invokevirtual 213, 3) := by decide +kernel
theorem zd_LassoFinderModel_body_309 : decode prog_14_method_24_code 309 = .ok (.ireturn, 1) := by decide +kernel
theorem zd_LassoFinderModel_body_310 : decode prog_14_method_24_code 310 = .ok (.aload_n 0, 1) := by decide +kernel
theorem zd_LassoFinderModel_body_311 : decode prog_14_method_24_code 311 = .ok (.dup, 1) := by decide +kernel
theorem zd_LassoFinderModel_body_312 : decode prog_14_method_24_code 312 = .ok (.getfield 203, 3) := by decide +kernel
theorem zd_LassoFinderModel_body_315 : decode prog_14_method_24_code 315 = .ok (.iconst 1, 1) := by decide +kernel
theorem zd_LassoFinderModel_body_316 : decode prog_14_method_24_code 316 = .ok (.iadd, 1) := by decide +kernel
theorem zd_LassoFinderModel_body_317 : decode prog_14_method_24_code 317 = .ok (.putfield 203, 3) := by decide +kernel
theorem zd_LassoFinderModel_body_320 : decode prog_14_method_24_code 320 = .ok (.iinc 2 1, 3) := by decide +kernel
theorem zd_LassoFinderModel_body_323 : decode prog_14_method_24_code 323 = .ok (.goto (-267), 3) := by decide +kernel
theorem zd_LassoFinderModel_body_326 : decode prog_14_method_24_code 326 = .ok (.aload_n 0, 1) := by decide +kernel
theorem zd_LassoFinderModel_body_327 : decode prog_14_method_24_code 327 = .ok (.invokevirtual 213, 3) := by decide +kernel
theorem zd_LassoFinderModel_body_330 : decode prog_14_method_24_code 330 = .ok (.ireturn, 1) := by decide +kernel
theorem zd_LassoFinderModel_label_0 : decode prog_14_method_18_code 0 = .ok (.aload_n 0, 1) := by decide +kernel
theorem zd_LassoFinderModel_label_1 : decode prog_14_method_18_code 1 = .ok (.dup, 1) := by decide +kernel
theorem zd_LassoFinderModel_label_2 : decode prog_14_method_18_code 2 = .ok (.getfield 203, 3) := by decide +kernel
theorem zd_LassoFinderModel_label_5 : decode prog_14_method_18_code 5 = .ok (.iconst 1, 1) := by decide +kernel
theorem zd_LassoFinderModel_label_6 : decode prog_14_method_18_code 6 = .ok (.iadd, 1) := by decide +kernel
theorem zd_LassoFinderModel_label_7 : decode prog_14_method_18_code 7 = .ok (.putfield 203, 3) := by decide +kernel
theorem zd_LassoFinderModel_label_10 : decode prog_14_method_18_code 10 = .ok (.aload_n 0, 1) := by decide +kernel
theorem zd_LassoFinderModel_label_11 : decode prog_14_method_18_code 11 = .ok (.bipush 65, 2) := by decide +kernel
theorem zd_LassoFinderModel_label_13 : decode prog_14_method_18_code 13 = .ok (.bipush 8, 2) := by decide +kernel
theorem zd_LassoFinderModel_label_15 : decode prog_14_method_18_code 15 = .ok (.invokevirtual 231, 3) := by decide +kernel
theorem zd_LassoFinderModel_label_18 : decode prog_14_method_18_code 18 = .ok (.istore_n 1, 1) := by decide +kernel
theorem zd_LassoFinderModel_label_19 : decode prog_14_method_18_code 19 = .ok (.iload_n 1, 1) := by decide +kernel
theorem zd_LassoFinderModel_label_20 : decode prog_14_method_18_code 20 = .ok (.ifCond .lt 20, 3) := by decide +kernel
theorem zd_LassoFinderModel_label_23 : decode prog_14_method_18_code 23 = .ok (.aload_n 0, 1) := by decide +kernel
theorem zd_LassoFinderModel_label_24 : decode prog_14_method_18_code 24 = .ok (.getfield 81, 3) := by decide +kernel
theorem zd_LassoFinderModel_label_27 : decode prog_14_method_18_code 27 = .ok (.bipush 8, 2) := by decide +kernel
theorem zd_LassoFinderModel_label_29 : decode prog_14_method_18_code 29 = .ok (.aload_n 0, 1) := by decide +kernel
theorem zd_LassoFinderModel_label_30 : decode prog_14_method_18_code 30 = .ok (.getfield 254, 3) := by decide +kernel
theorem zd_LassoFinderModel_label_33 : decode prog_14_method_18_code 33 = .ok (.imul, 1) := by decide +kernel
theorem zd_LassoFinderModel_label_34 : decode prog_14_method_18_code 34 = .ok (.iload_n 1, 1) := by decide +kernel
theorem zd_LassoFinderModel_label_35 : decode prog_14_method_18_code 35 = .ok (.iadd, 1) := by decide +kernel
theorem zd_LassoFinderModel_label_36 : decode prog_14_method_18_code 36 = .ok (.iaload, 1) := by decide +kernel
theorem zd_LassoFinderModel_label_37 : decode prog_14_method_18_code 37 = .ok (.ifCond .lt 8, 3) := by decide +kernel
theorem zd_LassoFinderModel_label_40 : decode prog_14_method_18_code 40 = .ok (.aload_n 0, 1) := by decide +kernel
theorem zd_LassoFinderModel_label_41 : decode prog_14_method_18_code 41 = .ok (.invokevirtual 213, 3) := by decide +kernel
theorem zd_LassoFinderModel_label_44 : decode prog_14_method_18_code 44 = .ok (.ireturn, 1) := by decide +kernel
theorem zd_LassoFinderModel_label_45 : decode prog_14_method_18_code 45 = .ok (.aload_n 0, 1) := by decide +kernel
theorem zd_LassoFinderModel_label_46 : decode prog_14_method_18_code 46 = .ok (.getfield 81, 3) := by decide +kernel
theorem zd_LassoFinderModel_label_49 : decode prog_14_method_18_code 49 = .ok (.bipush 8, 2) := by decide +kernel
theorem zd_LassoFinderModel_label_51 : decode prog_14_method_18_code 51 = .ok (.aload_n 0, 1) := by decide +kernel
theorem zd_LassoFinderModel_label_52 : decode prog_14_method_18_code 52 = .ok (.getfield 254, 3) := by decide +kernel
theorem zd_LassoFinderModel_label_55 : decode prog_14_method_18_code 55 = .ok (.imul, 1) := by decide +kernel
theorem zd_LassoFinderModel_label_56 : decode prog_14_method_18_code 56 = .ok (.iload_n 1, 1) := by decide +kernel
theorem zd_LassoFinderModel_label_57 : decode prog_14_method_18_code 57 = .ok (.iadd, 1) := by decide +kernel
theorem zd_LassoFinderModel_label_58 : decode prog_14_method_18_code 58 = .ok (.aload_n 0, 1) := by decide +kernel
theorem zd_LassoFinderModel_label_59 : decode prog_14_method_18_code 59 = .ok (.getfield 251, 3) := by decide +kernel
theorem zd_LassoFinderModel_label_62 : decode prog_14_method_18_code 62 = .ok (.iastore, 1) := by decide +kernel
theorem zd_LassoFinderModel_label_63 : decode prog_14_method_18_code 63 = .ok (.aload_n 0, 1) := by decide +kernel
theorem zd_LassoFinderModel_label_64 : decode prog_14_method_18_code 64 = .ok (.dup, 1) := by decide +kernel
theorem zd_LassoFinderModel_label_65 : decode prog_14_method_18_code 65 = .ok (.getfield 203, 3) := by decide +kernel
theorem zd_LassoFinderModel_label_68 : decode prog_14_method_18_code 68 = .ok (.iconst 1, 1) := by decide +kernel
theorem zd_LassoFinderModel_label_69 : decode prog_14_method_18_code 69 = .ok (.iadd, 1) := by decide +kernel
theorem zd_LassoFinderModel_label_70 : decode prog_14_method_18_code 70 = .ok (.putfield 203, 3) := by decide +kernel
theorem zd_LassoFinderModel_label_73 : decode prog_14_method_18_code 73 = .ok (.iconst 1, 1) := by decide +kernel
theorem zd_LassoFinderModel_label_74 : decode prog_14_method_18_code 74 = .ok (.ireturn, 1) := by decide +kernel
def wc_LassoFinderModel_label_40 (Post : Int32 → (Nat → Int32) → (Nat → Int64) → (Nat → Nat → Int32) → (Nat → Nat → Int64) → Prop)  (I : Nat → Int32) (J : Nat → Int64) (B : Nat → Nat → Int32) (D : Nat → Nat → Int64) : Prop :=
  wp_LassoFinderModel_fail I J B D  (fun r1 I1 J1 B1 D1 => (r1 = 0 ∨ r1 = 1) ∧ Post r1 I1 J1 B1 D1)
def wp_LassoFinderModel_label (I : Nat → Int32) (J : Nat → Int64) (B : Nat → Nat → Int32) (D : Nat → Nat → Int64) (Post : Int32 → (Nat → Int32) → (Nat → Int64) → (Nat → Nat → Int32) → (Nat → Nat → Int64) → Prop) : Prop :=
  ∀ z2 : Int32, z2 = ((I 2) + 1) → wp_LassoFinderModel_from (upd I 2 z2) J B D 65 8 (fun r3 I3 J3 B3 D3 => ((r3 < 0 → wc_LassoFinderModel_label_40  Post I3 J3 B3 D3) ∧ (¬ r3 < 0 → ∀ z5 : Int32, z5 = (8 * (I3 10)) → ∀ z6 : Int32, z6 = (z5 + r3) → vp_in z6 32 ∧ ∀ z7 : Int32, z7 = ((B3 22) z6.toNatClampNeg) → ((z7 < 0 → ∀ z9 : Int32, z9 = (8 * (I3 10)) → ∀ z10 : Int32, z10 = (z9 + r3) → vp_in z10 32 ∧ ∀ z11 : Int32, z11 = ((I3 2) + 1) → Post 1 (upd I3 2 z11) J3 (va_up B3 22 (upd (B3 22) z10.toNatClampNeg (I3 8))) D3) ∧ (¬ z7 < 0 → wc_LassoFinderModel_label_40  Post I3 J3 B3 D3)))))
set_option maxHeartbeats 8000000 in
set_option maxRecDepth 100000 in
theorem wJ_LassoFinderModel_label_40 {p : Program} {l : Launch} {e : Env} {s : State} {m : MethodId} {below : List Frame} {meth : Method} {c : Code} {A : Nat → Prop} (G : va_G) (K : Nat → ClassId) (ad : Nat → Nat) (Post : Int32 → (Nat → Int32) → (Nat → Int64) → (Nat → Nat → Int32) → (Nat → Nat → Int64) → Prop) (C : zCx p s m ([.ref (ad 0)] : List Value).toArray meth c A G K prog_14_method_18_code (some .boolean) 2 "LassoFinderModel") : ∀  (I : Nat → Int32) (J : Nat → Int64) (B : Nat → Nat → Int32) (D : Nat → Nat → Int64) (ls : Array Slot) (H : Heap) (locs : List Loc), wc_LassoFinderModel_label_40  Post  I J B D → lv_has ls 2 [(0, .ref (ad 0))] → zW G A s.heap (wM ad K I J B D) H locs → W p l e { frames := 2, cells := 0, slots := 0, locals := 44 } s m ([.ref (ad 0)] : List Value).toArray below meth c H locs 0 0 (MQ below (va_Qi (fun (r : Int32) (u : zS) => Post r u.1 u.2.1 u.2.2.1 u.2.2.2) (fun u t => zPost G K A (wM ad K u.1 u.2.1 u.2.2.1 u.2.2.2) t) A) ([.ref (ad 0)] : List Value).toArray s 0 0 A) (F0 m 40 ls []) := by
  obtain ⟨hx, hb, hr, hml, hts, hown, hlocks, hA, hK⟩ := id C
  intro  I J B D ls H locs hok hl hw
  unfold wc_LassoFinderModel_label_40 at hok
  refine lv_aload_n hx hb zd_LassoFinderModel_label_40 rfl (lv_at hl 0 rfl) ?_
  refine z_calli (w1 := fun (u : zS) => wM ad K u.1 u.2.1 u.2.2.1 u.2.2.2) (wr := []) (z_runV (q0 := 0) (wc := (wM ad K I J B D)) (As := []) (rest := []) ⟨hx, hb, hml, hown, hts⟩ (w_LassoFinderModel_fail l G K ad I J B D  _ H.size hok) zf_LassoFinderModel_fail zm_334 ⟨Nat.le_of_ble_eq_true rfl, Nat.le_of_ble_eq_true rfl⟩ hK hw (List.range 58) wM_all wM_nd wM_g0 rfl rfl hl.1 rfl (Nat.le_of_ble_eq_true rfl) zd_LassoFinderModel_label_41 ⟨Nat.le_of_ble_eq_true rfl, Nat.le_of_ble_eq_true rfl⟩) hw hA (List.range 58) [] wM_all rfl (by decide) (fun i hi => by cases hi) (fun r1 u H locs hok hw => ?_)
  obtain ⟨I1, J1, B1, D1⟩ := u
  dsimp only at hok
  have hw : zW G A s.heap (wM ad K I1 J1 B1 D1) H locs := hw
  have hbo := hok.1
  have hok := hok.2
  exact (z_iret (u := (I1, J1, B1, D1)) hx hb hr hlocks (z_nar hbo) hw (List.range 58) wM_all wM_nd hok (Nat.le_of_ble_eq_true rfl) (Nat.le_of_ble_eq_true rfl) zd_LassoFinderModel_label_44)
set_option maxHeartbeats 8000000 in
set_option maxRecDepth 100000 in
theorem w_LassoFinderModel_label (l : Launch) (G : va_G) (K : Nat → ClassId) (ad : Nat → Nat) (I : Nat → Int32) (J : Nat → Int64) (B : Nat → Nat → Int32) (D : Nat → Nat → Int64) (Post : Int32 → (Nat → Int32) → (Nat → Int64) → (Nat → Nat → Int32) → (Nat → Nat → Int64) → Prop) (sz : Nat) (hok : wp_LassoFinderModel_label I J B D  Post) : Met l zy_LassoFinderModel_label (Cond.code zy_LassoFinderModel_label prog_14_method_18_code 2 (some .boolean) :: zTB) { frames := 2, cells := 0, slots := 0, locals := 44 } (va_Pc [.ref (ad 0)] (zPre G K (wM ad K I J B D) sz)) (va_Qi (fun (r : Int32) (u : zS) => Post r u.1 u.2.1 u.2.2.1 u.2.2.2) (fun u t => zPost G K (va_A (wM ad K I J B D) sz) (wM ad K u.1 u.2.1 u.2.2.1 u.2.2.2) t) (va_A (wM ad K I J B D) sz)) 0 0 (va_A (wM ad K I J B D) sz) := by
  refine zMet (y := zy_LassoFinderModel_label) (av := [.ref (ad 0)]) (maxL := 2) (cc := prog_14_method_18_code) (ret := (some .boolean)) (W0 := (wM ad K I J B D)) (sz := sz) (G := G) (K := K) (wt := zTB) (mc := 0) (ms := 0) (Qf := fun A => va_Qi (fun (r : Int32) (u : zS) => Post r u.1 u.2.1 u.2.2.1 u.2.2.2) (fun u t => zPost G K A (wM ad K u.1 u.2.1 u.2.2.1 u.2.2.2) t) A) (by decide) (Nat.le_of_ble_eq_true rfl) ?_
  intro p e s m below meth c ls A hx hb hr hml hts hown hlocks hin hA hK H locs hw hsz hl
  clear hsz
  have hown : s.vm.findClass "LassoFinderModel" = some m.cls := hown
  have C : zCx p s m ([.ref (ad 0)] : List Value).toArray meth c A G K prog_14_method_18_code (some .boolean) 2 "LassoFinderModel" := ⟨hx, hb, hr, hml, hts, hown, hlocks, hA, hK⟩
  have hl : lv_has ls 2 [(0, .ref (ad 0))] := hl
  have hw : zW G A s.heap (wM ad K I J B D) H locs := hw
  unfold wp_LassoFinderModel_label at hok
  refine lv_aload_n hx hb zd_LassoFinderModel_label_0 rfl (lv_at hl 0 rfl) ?_
  refine lv_dup hx hb zd_LassoFinderModel_label_1 rfl ?_
  refine z_get (v := .int (I 2)) hx hb hts hown hK hw zZ12 0 wM_g0 3 (by decide) zm_335 rfl zd_LassoFinderModel_label_2 ?_
  refine lv_iconst (v := 1) hx hb zd_LassoFinderModel_label_5 (by decide) ?_
  refine lv_iadd hx hb zd_LassoFinderModel_label_6 ?_
  refine lv_topi (fun z2 ez2 => ?_)
  have hok := hok z2 ez2
  refine z_put (v := .int z2) hx hb hts hown hK hw zZ12 0 wM_g0 3 (by decide) zm_335 rfl rfl rfl (Nat.le_of_ble_eq_true rfl) zd_LassoFinderModel_label_7 (fun H locs hw => ?_)
  have hw := wM_sI2 hw
  refine lv_aload_n hx hb zd_LassoFinderModel_label_10 rfl (lv_at hl 0 rfl) ?_
  refine lv_bipush (v := 65) hx hb zd_LassoFinderModel_label_11 (by decide) ?_
  refine lv_bipush (v := 8) hx hb zd_LassoFinderModel_label_13 (by decide) ?_
  refine z_calli (w1 := fun (u : zS) => wM ad K u.1 u.2.1 u.2.2.1 u.2.2.2) (wr := []) (z_runV (q0 := 0) (wc := (wM ad K (upd I 2 z2) J B D)) (As := [.int 65, .int 8]) (rest := []) ⟨hx, hb, hml, hown, hts⟩ (w_LassoFinderModel_from l G K ad (upd I 2 z2) J B D 65 8 _ H.size hok) zf_LassoFinderModel_from zm_344 ⟨Nat.le_of_ble_eq_true rfl, Nat.le_of_ble_eq_true rfl⟩ hK hw (List.range 58) wM_all wM_nd wM_g0 rfl rfl hl.1 rfl (Nat.le_of_ble_eq_true rfl) zd_LassoFinderModel_label_15 ⟨Nat.le_of_ble_eq_true rfl, Nat.le_of_ble_eq_true rfl⟩) hw hA (List.range 58) [] wM_all rfl (by decide) (fun i hi => by cases hi) (fun r3 u H locs hok hw => ?_)
  obtain ⟨I3, J3, B3, D3⟩ := u
  dsimp only at hok
  have hw : zW G A s.heap (wM ad K I3 J3 B3 D3) H locs := hw
  refine lv_istore_n hx hb zd_LassoFinderModel_label_18 rfl hl (by decide) rfl (fun ls hl => ?_)
  have hl : lv_has ls 2 [(1, .int r3), (0, .ref (ad 0))] := hl
  refine lv_iload_n hx hb zd_LassoFinderModel_label_19 rfl (lv_at hl 0 rfl) ?_
  refine lv_if_lt (tgt := 40) hx hb zd_LassoFinderModel_label_20 (by decide) (fun hc4 => ?_) (fun hc4 => ?_)
  · have hok := hok.1 hc4
    exact wJ_LassoFinderModel_label_40 G K ad  Post C I3 J3 B3 D3 ls H locs hok (lv_sub hl [1] rfl) hw
  · have hok := hok.2 hc4
    refine lv_aload_n hx hb zd_LassoFinderModel_label_23 rfl (lv_at hl 1 rfl) ?_
    refine z_get (v := .ref (ad 23)) hx hb hts hown hK hw zZ12 0 wM_g0 33 (by decide) zm_257 rfl zd_LassoFinderModel_label_24 ?_
    refine lv_bipush (v := 8) hx hb zd_LassoFinderModel_label_27 (by decide) ?_
    refine lv_aload_n hx hb zd_LassoFinderModel_label_29 rfl (lv_at hl 1 rfl) ?_
    refine z_get (v := .int (I3 10)) hx hb hts hown hK hw zZ12 0 wM_g0 30 (by decide) zm_310 rfl zd_LassoFinderModel_label_30 ?_
    refine lv_imul hx hb zd_LassoFinderModel_label_33 ?_
    refine lv_topi (fun z5 ez5 => ?_)
    have hok := hok z5 ez5
    refine lv_iload_n hx hb zd_LassoFinderModel_label_34 rfl (lv_at hl 0 rfl) ?_
    refine lv_iadd hx hb zd_LassoFinderModel_label_35 ?_
    refine lv_topi (fun z6 ez6 => ?_)
    have hok := hok z6 ez6
    refine va_iald (f := (B3 22)) hx hb hK hw.1 23 0 wM_a23 rfl hok.1 zd_LassoFinderModel_label_36 ?_
    have hok := hok.2
    refine lv_topi (fun z7 ez7 => ?_)
    have hok := hok z7 ez7
    refine lv_if_lt (tgt := 45) hx hb zd_LassoFinderModel_label_37 (by decide) (fun hc8 => ?_) (fun hc8 => ?_)
    · have hok := hok.1 hc8
      refine lv_aload_n hx hb zd_LassoFinderModel_label_45 rfl (lv_at hl 1 rfl) ?_
      refine z_get (v := .ref (ad 23)) hx hb hts hown hK hw zZ12 0 wM_g0 33 (by decide) zm_257 rfl zd_LassoFinderModel_label_46 ?_
      refine lv_bipush (v := 8) hx hb zd_LassoFinderModel_label_49 (by decide) ?_
      refine lv_aload_n hx hb zd_LassoFinderModel_label_51 rfl (lv_at hl 1 rfl) ?_
      refine z_get (v := .int (I3 10)) hx hb hts hown hK hw zZ12 0 wM_g0 30 (by decide) zm_310 rfl zd_LassoFinderModel_label_52 ?_
      refine lv_imul hx hb zd_LassoFinderModel_label_55 ?_
      refine lv_topi (fun z9 ez9 => ?_)
      have hok := hok z9 ez9
      refine lv_iload_n hx hb zd_LassoFinderModel_label_56 rfl (lv_at hl 0 rfl) ?_
      refine lv_iadd hx hb zd_LassoFinderModel_label_57 ?_
      refine lv_topi (fun z10 ez10 => ?_)
      have hok := hok z10 ez10
      refine lv_aload_n hx hb zd_LassoFinderModel_label_58 rfl (lv_at hl 1 rfl) ?_
      refine z_get (v := .int (I3 8)) hx hb hts hown hK hw zZ12 0 wM_g0 13 (by decide) zm_307 rfl zd_LassoFinderModel_label_59 ?_
      refine va_iast (f := (B3 22)) hx hb hK hw.1 hw.2.1 hw.2.2 23 0 wM_a23 rfl hok.1 zd_LassoFinderModel_label_62 (fun H locs w91 w92 w93 => ?_)
      have hok := hok.2
      have hw := wM_t23 ⟨w91, w92, w93⟩
      refine lv_aload_n hx hb zd_LassoFinderModel_label_63 rfl (lv_at hl 1 rfl) ?_
      refine lv_dup hx hb zd_LassoFinderModel_label_64 rfl ?_
      refine z_get (v := .int (I3 2)) hx hb hts hown hK hw zZ12 0 wM_g0 3 (by decide) zm_335 rfl zd_LassoFinderModel_label_65 ?_
      refine lv_iconst (v := 1) hx hb zd_LassoFinderModel_label_68 (by decide) ?_
      refine lv_iadd hx hb zd_LassoFinderModel_label_69 ?_
      refine lv_topi (fun z11 ez11 => ?_)
      have hok := hok z11 ez11
      refine z_put (v := .int z11) hx hb hts hown hK hw zZ12 0 wM_g0 3 (by decide) zm_335 rfl rfl rfl (Nat.le_of_ble_eq_true rfl) zd_LassoFinderModel_label_70 (fun H locs hw => ?_)
      have hw := wM_sI2 hw
      refine lv_iconst (v := 1) hx hb zd_LassoFinderModel_label_73 (by decide) ?_
      exact (z_iret (u := ((upd I3 2 z11), J3, (va_up B3 22 (upd (B3 22) z10.toNatClampNeg (I3 8))), D3)) hx hb hr hlocks rfl hw (List.range 58) wM_all wM_nd hok (Nat.le_of_ble_eq_true rfl) (Nat.le_of_ble_eq_true rfl) zd_LassoFinderModel_label_74)
    · have hok := hok.2 hc8
      exact wJ_LassoFinderModel_label_40 G K ad  Post C I3 J3 B3 D3 ls H locs hok (lv_sub hl [1] rfl) hw
def wc_LassoFinderModel_body_320 (K56 : Int32 → Int32 → (Nat → Int32) → (Nat → Int64) → (Nat → Nat → Int32) → (Nat → Nat → Int64) → Prop) (Post : Int32 → (Nat → Int32) → (Nat → Int64) → (Nat → Nat → Int32) → (Nat → Nat → Int64) → Prop) (x1 : Int32) (x2 : Int32) (I : Nat → Int32) (J : Nat → Int64) (B : Nat → Nat → Int32) (D : Nat → Nat → Int64) : Prop :=
  ∀ z1 : Int32, z1 = (x2 + 1) → K56 x1 z1 I J B D
def wc_LassoFinderModel_body_310 (K56 : Int32 → Int32 → (Nat → Int32) → (Nat → Int64) → (Nat → Nat → Int32) → (Nat → Nat → Int64) → Prop) (Post : Int32 → (Nat → Int32) → (Nat → Int64) → (Nat → Nat → Int32) → (Nat → Nat → Int64) → Prop) (x1 : Int32) (x2 : Int32) (I : Nat → Int32) (J : Nat → Int64) (B : Nat → Nat → Int32) (D : Nat → Nat → Int64) : Prop :=
  ∀ z2 : Int32, z2 = ((I 2) + 1) → wc_LassoFinderModel_body_320  K56 Post x1 x2 (upd I 2 z2) J B D
def wc_LassoFinderModel_body_291 (K56 : Int32 → Int32 → (Nat → Int32) → (Nat → Int64) → (Nat → Nat → Int32) → (Nat → Nat → Int64) → Prop) (Post : Int32 → (Nat → Int32) → (Nat → Int64) → (Nat → Nat → Int32) → (Nat → Nat → Int64) → Prop) (x1 : Int32) (x2 : Int32) (x5 : Int32) (I : Nat → Int32) (J : Nat → Int64) (B : Nat → Nat → Int32) (D : Nat → Nat → Int64) : Prop :=
  ((¬ x5 = 0 → wc_LassoFinderModel_body_310  K56 Post x1 x2 I J B D) ∧ (x5 = 0 → wp_LassoFinderModel_here I J B D  (fun r4 I4 J4 B4 D4 => ((r4 = 59 → wc_LassoFinderModel_body_310  K56 Post x1 x2 I4 J4 B4 D4) ∧ (¬ r4 = 59 → wp_LassoFinderModel_fail I4 J4 B4 D4  (fun r6 I6 J6 B6 D6 => (r6 = 0 ∨ r6 = 1) ∧ Post r6 I6 J6 B6 D6))))))
def wc_LassoFinderModel_body_274 (K56 : Int32 → Int32 → (Nat → Int32) → (Nat → Int64) → (Nat → Nat → Int32) → (Nat → Nat → Int64) → Prop) (Post : Int32 → (Nat → Int32) → (Nat → Int64) → (Nat → Nat → Int32) → (Nat → Nat → Int64) → Prop) (x1 : Int32) (x2 : Int32) (y0 : Int32) (I : Nat → Int32) (J : Nat → Int64) (B : Nat → Nat → Int32) (D : Nat → Nat → Int64) : Prop :=
  ((y0 = 0 → wc_LassoFinderModel_body_291  K56 Post x1 x2 y0 I J B D) ∧ (¬ y0 = 0 → vp_in (I 12) 8 ∧ wc_LassoFinderModel_body_291  K56 Post x1 x2 y0 I J (va_up B 27 (upd (B 27) (I 12).toNatClampNeg (-1))) D))
def wc_LassoFinderModel_body_273 (K56 : Int32 → Int32 → (Nat → Int32) → (Nat → Int64) → (Nat → Nat → Int32) → (Nat → Nat → Int64) → Prop) (Post : Int32 → (Nat → Int32) → (Nat → Int64) → (Nat → Nat → Int32) → (Nat → Nat → Int64) → Prop) (x1 : Int32) (x2 : Int32) (I : Nat → Int32) (J : Nat → Int64) (B : Nat → Nat → Int32) (D : Nat → Nat → Int64) : Prop :=
  wc_LassoFinderModel_body_274  K56 Post x1 x2 0 I J B D
def wc_LassoFinderModel_body_243 (K56 : Int32 → Int32 → (Nat → Int32) → (Nat → Int64) → (Nat → Nat → Int32) → (Nat → Nat → Int64) → Prop) (Post : Int32 → (Nat → Int32) → (Nat → Int64) → (Nat → Nat → Int32) → (Nat → Nat → Int64) → Prop) (x1 : Int32) (x2 : Int32) (I : Nat → Int32) (J : Nat → Int64) (B : Nat → Nat → Int32) (D : Nat → Nat → Int64) : Prop :=
  wp_LassoFinderModel_here I J B D  (fun r8 I8 J8 B8 D8 => ((¬ r8 = 124 → wc_LassoFinderModel_body_273  K56 Post x1 x2 I8 J8 B8 D8) ∧ (r8 = 124 → vp_in (I8 12) 8 ∧ ∀ z10 : Int32, z10 = ((B8 25) (I8 12).toNatClampNeg) → wp_LassoFinderModel_in I8 J8 B8 D8 z10 1 2 (fun r11 I11 J11 B11 D11 => ((r11 = 0 → wc_LassoFinderModel_body_273  K56 Post x1 x2 I11 J11 B11 D11) ∧ (¬ r11 = 0 → wc_LassoFinderModel_body_274  K56 Post x1 x2 1 I11 J11 B11 D11))))))
def wc_LassoFinderModel_body_204 (K56 : Int32 → Int32 → (Nat → Int32) → (Nat → Int64) → (Nat → Nat → Int32) → (Nat → Nat → Int64) → Prop) (K110 : Int32 → Int32 → Int32 → (Nat → Int32) → (Nat → Int64) → (Nat → Nat → Int32) → (Nat → Nat → Int64) → Prop) (Post : Int32 → (Nat → Int32) → (Nat → Int64) → (Nat → Nat → Int32) → (Nat → Nat → Int64) → Prop) (x1 : Int32) (x2 : Int32) (x4 : Int32) (y0 : Int32) (y1 : Int32) (I : Nat → Int32) (J : Nat → Int64) (B : Nat → Nat → Int32) (D : Nat → Nat → Int64) : Prop :=
  ∀ z13 : Int32, z13 = (y1 + y0) → K110 x1 x2 x4 (upd I 2 z13) J B D
def wc_LassoFinderModel_body_185 (K56 : Int32 → Int32 → (Nat → Int32) → (Nat → Int64) → (Nat → Nat → Int32) → (Nat → Nat → Int64) → Prop) (K110 : Int32 → Int32 → Int32 → (Nat → Int32) → (Nat → Int64) → (Nat → Nat → Int32) → (Nat → Nat → Int64) → Prop) (Post : Int32 → (Nat → Int32) → (Nat → Int64) → (Nat → Nat → Int32) → (Nat → Nat → Int64) → Prop) (x1 : Int32) (x2 : Int32) (x4 : Int32) (y0 : Int32) (y1 : Int32) (I : Nat → Int32) (J : Nat → Int64) (B : Nat → Nat → Int32) (D : Nat → Nat → Int64) : Prop :=
  ∀ z14 : Int32, z14 = (y1 - y0) → ((x4 = 0 → wc_LassoFinderModel_body_204  K56 K110 Post x1 x2 x4 0 (I 2) (upd I 12 z14) J B D) ∧ (¬ x4 = 0 → wc_LassoFinderModel_body_204  K56 K110 Post x1 x2 x4 1 (I 2) (upd I 12 z14) J B D))
def wc_LassoFinderModel_body_168 (K56 : Int32 → Int32 → (Nat → Int32) → (Nat → Int64) → (Nat → Nat → Int32) → (Nat → Nat → Int64) → Prop) (K110 : Int32 → Int32 → Int32 → (Nat → Int32) → (Nat → Int64) → (Nat → Nat → Int32) → (Nat → Nat → Int64) → Prop) (Post : Int32 → (Nat → Int32) → (Nat → Int64) → (Nat → Nat → Int32) → (Nat → Nat → Int64) → Prop) (x1 : Int32) (x2 : Int32) (y0 : Int32) (I : Nat → Int32) (J : Nat → Int64) (B : Nat → Nat → Int32) (D : Nat → Nat → Int64) : Prop :=
  ((y0 = 0 → wc_LassoFinderModel_body_185  K56 K110 Post x1 x2 y0 0 (I 12) I J B D) ∧ (¬ y0 = 0 → wc_LassoFinderModel_body_185  K56 K110 Post x1 x2 y0 1 (I 12) I J B D))
def wc_LassoFinderModel_body_167 (K56 : Int32 → Int32 → (Nat → Int32) → (Nat → Int64) → (Nat → Nat → Int32) → (Nat → Nat → Int64) → Prop) (K110 : Int32 → Int32 → Int32 → (Nat → Int32) → (Nat → Int64) → (Nat → Nat → Int32) → (Nat → Nat → Int64) → Prop) (Post : Int32 → (Nat → Int32) → (Nat → Int64) → (Nat → Nat → Int32) → (Nat → Nat → Int64) → Prop) (x1 : Int32) (x2 : Int32) (I : Nat → Int32) (J : Nat → Int64) (B : Nat → Nat → Int32) (D : Nat → Nat → Int64) : Prop :=
  wc_LassoFinderModel_body_168  K56 K110 Post x1 x2 0 I J B D
def wc_LassoFinderModel_body_163 (K56 : Int32 → Int32 → (Nat → Int32) → (Nat → Int64) → (Nat → Nat → Int32) → (Nat → Nat → Int64) → Prop) (K110 : Int32 → Int32 → Int32 → (Nat → Int32) → (Nat → Int64) → (Nat → Nat → Int32) → (Nat → Nat → Int64) → Prop) (Post : Int32 → (Nat → Int32) → (Nat → Int64) → (Nat → Nat → Int32) → (Nat → Nat → Int64) → Prop) (x1 : Int32) (x2 : Int32) (I : Nat → Int32) (J : Nat → Int64) (B : Nat → Nat → Int32) (D : Nat → Nat → Int64) : Prop :=
  wc_LassoFinderModel_body_168  K56 K110 Post x1 x2 1 I J B D
def wc_LassoFinderModel_body_141 (K56 : Int32 → Int32 → (Nat → Int32) → (Nat → Int64) → (Nat → Nat → Int32) → (Nat → Nat → Int64) → Prop) (K110 : Int32 → Int32 → Int32 → (Nat → Int32) → (Nat → Int64) → (Nat → Nat → Int32) → (Nat → Nat → Int64) → Prop) (Post : Int32 → (Nat → Int32) → (Nat → Int64) → (Nat → Nat → Int32) → (Nat → Nat → Int64) → Prop) (x1 : Int32) (x2 : Int32) (I : Nat → Int32) (J : Nat → Int64) (B : Nat → Nat → Int32) (D : Nat → Nat → Int64) : Prop :=
  wp_LassoFinderModel_here I J B D  (fun r17 I17 J17 B17 D17 => ((¬ r17 = 62 → wc_LassoFinderModel_body_167  K56 K110 Post x1 x2 I17 J17 B17 D17) ∧ (r17 = 62 → vp_in (I17 12) 8 ∧ ∀ z19 : Int32, z19 = ((B17 25) (I17 12).toNatClampNeg) → ((¬ z19 = 3 → wc_LassoFinderModel_body_167  K56 K110 Post x1 x2 I17 J17 B17 D17) ∧ (z19 = 3 → wc_LassoFinderModel_body_163  K56 K110 Post x1 x2 I17 J17 B17 D17)))))
def wb_LassoFinderModel_body_110 (K110 : Int32 → Int32 → Int32 → (Nat → Int32) → (Nat → Int64) → (Nat → Nat → Int32) → (Nat → Nat → Int64) → Prop) (K56 : Int32 → Int32 → (Nat → Int32) → (Nat → Int64) → (Nat → Nat → Int32) → (Nat → Nat → Int64) → Prop) (Post : Int32 → (Nat → Int32) → (Nat → Int64) → (Nat → Nat → Int32) → (Nat → Nat → Int64) → Prop) (x1 : Int32) (x2 : Int32) (x4 : Int32) (I : Nat → Int32) (J : Nat → Int64) (B : Nat → Nat → Int32) (D : Nat → Nat → Int64) : Prop :=
  ((x4 = 0 → wp_LassoFinderModel_here I J B D  (fun r22 I22 J22 B22 D22 => ((¬ r22 = 125 → wc_LassoFinderModel_body_243  K56 Post x1 x2 I22 J22 B22 D22) ∧ (r22 = 125 → ((¬ (I22 12) = 0 → wc_LassoFinderModel_body_243  K56 Post x1 x2 I22 J22 B22 D22) ∧ ((I22 12) = 0 → ∀ z25 : Int32, z25 = ((I22 2) + 1) → wp_LassoFinderModel_jumps (upd I22 2 z25) J22 B22 D22 x1 (fun r26 I26 J26 B26 D26 => (r26 = 0 ∨ r26 = 1) ∧ Post r26 I26 J26 B26 D26))))))) ∧ (¬ x4 = 0 → wp_LassoFinderModel_here I J B D  (fun r27 I27 J27 B27 D27 => ((¬ r27 = 93 → wc_LassoFinderModel_body_141  K56 K110 Post x1 x2 I27 J27 B27 D27) ∧ (r27 = 93 → vp_in (I27 12) 8 ∧ ∀ z29 : Int32, z29 = ((B27 25) (I27 12).toNatClampNeg) → wp_LassoFinderModel_in I27 J27 B27 D27 z29 1 2 (fun r30 I30 J30 B30 D30 => ((¬ r30 = 0 → wc_LassoFinderModel_body_163  K56 K110 Post x1 x2 I30 J30 B30 D30) ∧ (r30 = 0 → wc_LassoFinderModel_body_141  K56 K110 Post x1 x2 I30 J30 B30 D30))))))))
def wl_LassoFinderModel_body_110 (K56 : Int32 → Int32 → (Nat → Int32) → (Nat → Int64) → (Nat → Nat → Int32) → (Nat → Nat → Int64) → Prop) (Post : Int32 → (Nat → Int32) → (Nat → Int64) → (Nat → Nat → Int32) → (Nat → Nat → Int64) → Prop) (n : Nat) : Int32 → Int32 → Int32 → (Nat → Int32) → (Nat → Int64) → (Nat → Nat → Int32) → (Nat → Nat → Int64) → Prop := Nat.rec (fun _ _ _ _ _ _ _ => False) (fun _ r => wb_LassoFinderModel_body_110  r K56 Post) n
def wb_LassoFinderModel_body_64 (K64 : Int32 → Int32 → (Nat → Int32) → (Nat → Int64) → (Nat → Nat → Int32) → (Nat → Nat → Int64) → Prop) (K56 : Int32 → Int32 → (Nat → Int32) → (Nat → Int64) → (Nat → Nat → Int32) → (Nat → Nat → Int64) → Prop) (Post : Int32 → (Nat → Int32) → (Nat → Int64) → (Nat → Nat → Int32) → (Nat → Nat → Int64) → Prop) (x1 : Int32) (x2 : Int32) (I : Nat → Int32) (J : Nat → Int64) (B : Nat → Nat → Int32) (D : Nat → Nat → Int64) : Prop :=
  wp_LassoFinderModel_here I J B D  (fun r32 I32 J32 B32 D32 => ((¬ r32 = 58 → wp_LassoFinderModel_statement I32 J32 B32 D32  (fun r34 I34 J34 B34 D34 => ((¬ r34 = 0 → (((I34 12) ≤ (I32 12) → ∃ n : Nat, wl_LassoFinderModel_body_110  K56 Post n x1 x2 1 I34 J34 B34 D34) ∧ (¬ (I34 12) ≤ (I32 12) → wc_LassoFinderModel_body_320  K56 Post x1 x2 I34 J34 B34 D34))) ∧ (r34 = 0 → Post 0 I34 J34 B34 D34)))) ∧ (r32 = 58 → wp_LassoFinderModel_label I32 J32 B32 D32  (fun r37 I37 J37 B37 D37 => ((¬ r37 = 0 → K64 x1 x2 I37 J37 B37 D37) ∧ (r37 = 0 → Post 0 I37 J37 B37 D37))))))
def wl_LassoFinderModel_body_64 (K56 : Int32 → Int32 → (Nat → Int32) → (Nat → Int64) → (Nat → Nat → Int32) → (Nat → Nat → Int64) → Prop) (Post : Int32 → (Nat → Int32) → (Nat → Int64) → (Nat → Nat → Int32) → (Nat → Nat → Int64) → Prop) (n : Nat) : Int32 → Int32 → (Nat → Int32) → (Nat → Int64) → (Nat → Nat → Int32) → (Nat → Nat → Int64) → Prop := Nat.rec (fun _ _ _ _ _ _ => False) (fun _ r => wb_LassoFinderModel_body_64  r K56 Post) n
def wb_LassoFinderModel_body_56 (K56 : Int32 → Int32 → (Nat → Int32) → (Nat → Int64) → (Nat → Nat → Int32) → (Nat → Nat → Int64) → Prop) (Post : Int32 → (Nat → Int32) → (Nat → Int64) → (Nat → Nat → Int32) → (Nat → Nat → Int64) → Prop) (x1 : Int32) (x2 : Int32) (I : Nat → Int32) (J : Nat → Int64) (B : Nat → Nat → Int32) (D : Nat → Nat → Int64) : Prop :=
  (((I 1) < x2 → wp_LassoFinderModel_fail I J B D  (fun r40 I40 J40 B40 D40 => (r40 = 0 ∨ r40 = 1) ∧ Post r40 I40 J40 B40 D40)) ∧ (¬ (I 1) < x2 → ∃ n : Nat, wl_LassoFinderModel_body_64  K56 Post n x1 x2 I J B D))
def wl_LassoFinderModel_body_56 (Post : Int32 → (Nat → Int32) → (Nat → Int64) → (Nat → Nat → Int32) → (Nat → Nat → Int64) → Prop) (n : Nat) : Int32 → Int32 → (Nat → Int32) → (Nat → Int64) → (Nat → Nat → Int32) → (Nat → Nat → Int64) → Prop := Nat.rec (fun _ _ _ _ _ _ => False) (fun _ r => wb_LassoFinderModel_body_56  r Post) n
def wp_LassoFinderModel_body (I : Nat → Int32) (J : Nat → Int64) (B : Nat → Nat → Int32) (D : Nat → Nat → Int64) (Post : Int32 → (Nat → Int32) → (Nat → Int64) → (Nat → Nat → Int32) → (Nat → Nat → Int64) → Prop) : Prop :=
  vp_in 0 8 ∧ vp_in 0 8 ∧ vp_in 0 8 ∧ vp_in (I 10) 5 ∧ vp_in (I 10) 5 ∧ ∃ n : Nat, wl_LassoFinderModel_body_56  Post n (I 8) 0 (upd I 12 0) J (va_up (va_up (va_up (va_up (va_up B 25 (upd (B 25) (0 : Int32).toNatClampNeg 0)) 26 (upd (B 26) (0 : Int32).toNatClampNeg (-1))) 27 (upd (B 27) (0 : Int32).toNatClampNeg (-1))) 20 (upd (B 20) (I 10).toNatClampNeg 0)) 21 (upd (B 21) (I 10).toNatClampNeg (I 8))) D
set_option maxHeartbeats 8000000 in
set_option maxRecDepth 100000 in
theorem wJ_LassoFinderModel_body_320 {p : Program} {l : Launch} {e : Env} {s : State} {m : MethodId} {below : List Frame} {meth : Method} {c : Code} {A : Nat → Prop} (G : va_G) (K : Nat → ClassId) (ad : Nat → Nat) (Post : Int32 → (Nat → Int32) → (Nat → Int64) → (Nat → Nat → Int32) → (Nat → Nat → Int64) → Prop) (C : zCx p s m ([.ref (ad 0)] : List Value).toArray meth c A G K prog_14_method_24_code (some .boolean) 6 "LassoFinderModel") (K56 : Int32 → Int32 → (Nat → Int32) → (Nat → Int64) → (Nat → Nat → Int32) → (Nat → Nat → Int64) → Prop) (kh56 : ∀ (x1 : Int32) (x2 : Int32) (I : Nat → Int32) (J : Nat → Int64) (B : Nat → Nat → Int32) (D : Nat → Nat → Int64) (ls : Array Slot) (H : Heap) (locs : List Loc), K56 x1 x2 I J B D → lv_has ls 6 [(0, .ref (ad 0)), (1, .int x1), (2, .int x2)] → zW G A s.heap (wM ad K I J B D) H locs → W p l e { frames := 5, cells := 0, slots := 0, locals := 122 } s m ([.ref (ad 0)] : List Value).toArray below meth c H locs 0 0 (MQ below (va_Qi (fun (r : Int32) (u : zS) => Post r u.1 u.2.1 u.2.2.1 u.2.2.2) (fun u t => zPost G K A (wM ad K u.1 u.2.1 u.2.2.1 u.2.2.2) t) A) ([.ref (ad 0)] : List Value).toArray s 0 0 A) (F0 m 56 ls [])) : ∀ (x1 : Int32) (x2 : Int32) (I : Nat → Int32) (J : Nat → Int64) (B : Nat → Nat → Int32) (D : Nat → Nat → Int64) (ls : Array Slot) (H : Heap) (locs : List Loc), wc_LassoFinderModel_body_320  K56 Post x1 x2 I J B D → lv_has ls 6 [(0, .ref (ad 0)), (1, .int x1), (2, .int x2)] → zW G A s.heap (wM ad K I J B D) H locs → W p l e { frames := 5, cells := 0, slots := 0, locals := 122 } s m ([.ref (ad 0)] : List Value).toArray below meth c H locs 0 0 (MQ below (va_Qi (fun (r : Int32) (u : zS) => Post r u.1 u.2.1 u.2.2.1 u.2.2.2) (fun u t => zPost G K A (wM ad K u.1 u.2.1 u.2.2.1 u.2.2.2) t) A) ([.ref (ad 0)] : List Value).toArray s 0 0 A) (F0 m 320 ls []) := by
  obtain ⟨hx, hb, hr, hml, hts, hown, hlocks, hA, hK⟩ := id C
  intro x1 x2 I J B D ls H locs hok hl hw
  unfold wc_LassoFinderModel_body_320 at hok
  obtain ⟨z1, ez1⟩ : ∃ z : Int32, z = (x2 + 1) := ⟨_, rfl⟩
  have hok := hok z1 ez1
  refine lv_iinc (v := z1) hx hb zd_LassoFinderModel_body_320 hl (k := 2) rfl ez1.symm (by decide) rfl (fun ls hl => ?_)
  have hl : lv_has ls 6 [(2, .int z1), (0, .ref (ad 0)), (1, .int x1)] := hl
  refine lv_goto (tgt := 56) hx hb zd_LassoFinderModel_body_323 (by decide) ?_
  exact kh56 x1 z1 I J B D ls H locs hok (lv_sub hl [1, 2, 0] rfl) hw
set_option maxHeartbeats 8000000 in
set_option maxRecDepth 100000 in
theorem wJ_LassoFinderModel_body_310 {p : Program} {l : Launch} {e : Env} {s : State} {m : MethodId} {below : List Frame} {meth : Method} {c : Code} {A : Nat → Prop} (G : va_G) (K : Nat → ClassId) (ad : Nat → Nat) (Post : Int32 → (Nat → Int32) → (Nat → Int64) → (Nat → Nat → Int32) → (Nat → Nat → Int64) → Prop) (C : zCx p s m ([.ref (ad 0)] : List Value).toArray meth c A G K prog_14_method_24_code (some .boolean) 6 "LassoFinderModel") (K56 : Int32 → Int32 → (Nat → Int32) → (Nat → Int64) → (Nat → Nat → Int32) → (Nat → Nat → Int64) → Prop) (kh56 : ∀ (x1 : Int32) (x2 : Int32) (I : Nat → Int32) (J : Nat → Int64) (B : Nat → Nat → Int32) (D : Nat → Nat → Int64) (ls : Array Slot) (H : Heap) (locs : List Loc), K56 x1 x2 I J B D → lv_has ls 6 [(0, .ref (ad 0)), (1, .int x1), (2, .int x2)] → zW G A s.heap (wM ad K I J B D) H locs → W p l e { frames := 5, cells := 0, slots := 0, locals := 122 } s m ([.ref (ad 0)] : List Value).toArray below meth c H locs 0 0 (MQ below (va_Qi (fun (r : Int32) (u : zS) => Post r u.1 u.2.1 u.2.2.1 u.2.2.2) (fun u t => zPost G K A (wM ad K u.1 u.2.1 u.2.2.1 u.2.2.2) t) A) ([.ref (ad 0)] : List Value).toArray s 0 0 A) (F0 m 56 ls [])) : ∀ (x1 : Int32) (x2 : Int32) (I : Nat → Int32) (J : Nat → Int64) (B : Nat → Nat → Int32) (D : Nat → Nat → Int64) (ls : Array Slot) (H : Heap) (locs : List Loc), wc_LassoFinderModel_body_310  K56 Post x1 x2 I J B D → lv_has ls 6 [(0, .ref (ad 0)), (1, .int x1), (2, .int x2)] → zW G A s.heap (wM ad K I J B D) H locs → W p l e { frames := 5, cells := 0, slots := 0, locals := 122 } s m ([.ref (ad 0)] : List Value).toArray below meth c H locs 0 0 (MQ below (va_Qi (fun (r : Int32) (u : zS) => Post r u.1 u.2.1 u.2.2.1 u.2.2.2) (fun u t => zPost G K A (wM ad K u.1 u.2.1 u.2.2.1 u.2.2.2) t) A) ([.ref (ad 0)] : List Value).toArray s 0 0 A) (F0 m 310 ls []) := by
  obtain ⟨hx, hb, hr, hml, hts, hown, hlocks, hA, hK⟩ := id C
  intro x1 x2 I J B D ls H locs hok hl hw
  unfold wc_LassoFinderModel_body_310 at hok
  refine lv_aload_n hx hb zd_LassoFinderModel_body_310 rfl (lv_at hl 0 rfl) ?_
  refine lv_dup hx hb zd_LassoFinderModel_body_311 rfl ?_
  refine z_get (v := .int (I 2)) hx hb hts hown hK hw zZ12 0 wM_g0 3 (by decide) zm_335 rfl zd_LassoFinderModel_body_312 ?_
  refine lv_iconst (v := 1) hx hb zd_LassoFinderModel_body_315 (by decide) ?_
  refine lv_iadd hx hb zd_LassoFinderModel_body_316 ?_
  refine lv_topi (fun z2 ez2 => ?_)
  have hok := hok z2 ez2
  refine z_put (v := .int z2) hx hb hts hown hK hw zZ12 0 wM_g0 3 (by decide) zm_335 rfl rfl rfl (Nat.le_of_ble_eq_true rfl) zd_LassoFinderModel_body_317 (fun H locs hw => ?_)
  have hw := wM_sI2 hw
  exact wJ_LassoFinderModel_body_320 G K ad  Post C K56 kh56 x1 x2 (upd I 2 z2) J B D ls H locs hok (lv_sub hl [0, 1, 2] rfl) hw
set_option maxHeartbeats 8000000 in
set_option maxRecDepth 100000 in
theorem wJ_LassoFinderModel_body_291 {p : Program} {l : Launch} {e : Env} {s : State} {m : MethodId} {below : List Frame} {meth : Method} {c : Code} {A : Nat → Prop} (G : va_G) (K : Nat → ClassId) (ad : Nat → Nat) (Post : Int32 → (Nat → Int32) → (Nat → Int64) → (Nat → Nat → Int32) → (Nat → Nat → Int64) → Prop) (C : zCx p s m ([.ref (ad 0)] : List Value).toArray meth c A G K prog_14_method_24_code (some .boolean) 6 "LassoFinderModel") (K56 : Int32 → Int32 → (Nat → Int32) → (Nat → Int64) → (Nat → Nat → Int32) → (Nat → Nat → Int64) → Prop) (kh56 : ∀ (x1 : Int32) (x2 : Int32) (I : Nat → Int32) (J : Nat → Int64) (B : Nat → Nat → Int32) (D : Nat → Nat → Int64) (ls : Array Slot) (H : Heap) (locs : List Loc), K56 x1 x2 I J B D → lv_has ls 6 [(0, .ref (ad 0)), (1, .int x1), (2, .int x2)] → zW G A s.heap (wM ad K I J B D) H locs → W p l e { frames := 5, cells := 0, slots := 0, locals := 122 } s m ([.ref (ad 0)] : List Value).toArray below meth c H locs 0 0 (MQ below (va_Qi (fun (r : Int32) (u : zS) => Post r u.1 u.2.1 u.2.2.1 u.2.2.2) (fun u t => zPost G K A (wM ad K u.1 u.2.1 u.2.2.1 u.2.2.2) t) A) ([.ref (ad 0)] : List Value).toArray s 0 0 A) (F0 m 56 ls [])) : ∀ (x1 : Int32) (x2 : Int32) (x5 : Int32) (I : Nat → Int32) (J : Nat → Int64) (B : Nat → Nat → Int32) (D : Nat → Nat → Int64) (ls : Array Slot) (H : Heap) (locs : List Loc), wc_LassoFinderModel_body_291  K56 Post x1 x2 x5 I J B D → lv_has ls 6 [(0, .ref (ad 0)), (1, .int x1), (2, .int x2), (5, .int x5)] → zW G A s.heap (wM ad K I J B D) H locs → W p l e { frames := 5, cells := 0, slots := 0, locals := 122 } s m ([.ref (ad 0)] : List Value).toArray below meth c H locs 0 0 (MQ below (va_Qi (fun (r : Int32) (u : zS) => Post r u.1 u.2.1 u.2.2.1 u.2.2.2) (fun u t => zPost G K A (wM ad K u.1 u.2.1 u.2.2.1 u.2.2.2) t) A) ([.ref (ad 0)] : List Value).toArray s 0 0 A) (F0 m 291 ls []) := by
  obtain ⟨hx, hb, hr, hml, hts, hown, hlocks, hA, hK⟩ := id C
  intro x1 x2 x5 I J B D ls H locs hok hl hw
  unfold wc_LassoFinderModel_body_291 at hok
  refine lv_iload hx hb zd_LassoFinderModel_body_291 (lv_at hl 3 rfl) ?_
  refine lv_if_ne (tgt := 310) hx hb zd_LassoFinderModel_body_293 (by decide) (fun hc3 => ?_) (fun hc3 => ?_)
  · have hok := hok.1 hc3
    exact wJ_LassoFinderModel_body_310 G K ad  Post C K56 kh56 x1 x2 I J B D ls H locs hok (lv_sub hl [0, 1, 2] rfl) hw
  · have hok := hok.2 hc3
    refine lv_aload_n hx hb zd_LassoFinderModel_body_296 rfl (lv_at hl 0 rfl) ?_
    refine z_calli (w1 := fun (u : zS) => wM ad K u.1 u.2.1 u.2.2.1 u.2.2.2) (wr := []) (z_runV (q0 := 0) (wc := (wM ad K I J B D)) (As := []) (rest := []) ⟨hx, hb, hml, hown, hts⟩ (w_LassoFinderModel_here l G K ad I J B D  _ H.size hok) zf_LassoFinderModel_here zm_332 ⟨Nat.le_of_ble_eq_true rfl, Nat.le_of_ble_eq_true rfl⟩ hK hw (List.range 58) wM_all wM_nd wM_g0 rfl rfl hl.1 rfl (Nat.le_of_ble_eq_true rfl) zd_LassoFinderModel_body_297 ⟨Nat.le_of_ble_eq_true rfl, Nat.le_of_ble_eq_true rfl⟩) hw hA (List.range 58) [] wM_all rfl (by decide) (fun i hi => by cases hi) (fun r4 u H locs hok hw => ?_)
    obtain ⟨I4, J4, B4, D4⟩ := u
    dsimp only at hok
    have hw : zW G A s.heap (wM ad K I4 J4 B4 D4) H locs := hw
    refine lv_bipush (v := 59) hx hb zd_LassoFinderModel_body_300 (by decide) ?_
    refine lv_icmp_eq (tgt := 310) hx hb zd_LassoFinderModel_body_302 (by decide) (fun hc5 => ?_) (fun hc5 => ?_)
    · have hok := hok.1 hc5
      exact wJ_LassoFinderModel_body_310 G K ad  Post C K56 kh56 x1 x2 I4 J4 B4 D4 ls H locs hok (lv_sub hl [0, 1, 2] rfl) hw
    · have hok := hok.2 hc5
      refine lv_aload_n hx hb zd_LassoFinderModel_body_305 rfl (lv_at hl 0 rfl) ?_
      refine z_calli (w1 := fun (u : zS) => wM ad K u.1 u.2.1 u.2.2.1 u.2.2.2) (wr := []) (z_runV (q0 := 0) (wc := (wM ad K I4 J4 B4 D4)) (As := []) (rest := []) ⟨hx, hb, hml, hown, hts⟩ (w_LassoFinderModel_fail l G K ad I4 J4 B4 D4  _ H.size hok) zf_LassoFinderModel_fail zm_334 ⟨Nat.le_of_ble_eq_true rfl, Nat.le_of_ble_eq_true rfl⟩ hK hw (List.range 58) wM_all wM_nd wM_g0 rfl rfl hl.1 rfl (Nat.le_of_ble_eq_true rfl) zd_LassoFinderModel_body_306 ⟨Nat.le_of_ble_eq_true rfl, Nat.le_of_ble_eq_true rfl⟩) hw hA (List.range 58) [] wM_all rfl (by decide) (fun i hi => by cases hi) (fun r6 u H locs hok hw => ?_)
      obtain ⟨I6, J6, B6, D6⟩ := u
      dsimp only at hok
      have hw : zW G A s.heap (wM ad K I6 J6 B6 D6) H locs := hw
      have hbo := hok.1
      have hok := hok.2
      exact (z_iret (u := (I6, J6, B6, D6)) hx hb hr hlocks (z_nar hbo) hw (List.range 58) wM_all wM_nd hok (Nat.le_of_ble_eq_true rfl) (Nat.le_of_ble_eq_true rfl) zd_LassoFinderModel_body_309)
set_option maxHeartbeats 8000000 in
set_option maxRecDepth 100000 in
theorem wJ_LassoFinderModel_body_274 {p : Program} {l : Launch} {e : Env} {s : State} {m : MethodId} {below : List Frame} {meth : Method} {c : Code} {A : Nat → Prop} (G : va_G) (K : Nat → ClassId) (ad : Nat → Nat) (Post : Int32 → (Nat → Int32) → (Nat → Int64) → (Nat → Nat → Int32) → (Nat → Nat → Int64) → Prop) (C : zCx p s m ([.ref (ad 0)] : List Value).toArray meth c A G K prog_14_method_24_code (some .boolean) 6 "LassoFinderModel") (K56 : Int32 → Int32 → (Nat → Int32) → (Nat → Int64) → (Nat → Nat → Int32) → (Nat → Nat → Int64) → Prop) (kh56 : ∀ (x1 : Int32) (x2 : Int32) (I : Nat → Int32) (J : Nat → Int64) (B : Nat → Nat → Int32) (D : Nat → Nat → Int64) (ls : Array Slot) (H : Heap) (locs : List Loc), K56 x1 x2 I J B D → lv_has ls 6 [(0, .ref (ad 0)), (1, .int x1), (2, .int x2)] → zW G A s.heap (wM ad K I J B D) H locs → W p l e { frames := 5, cells := 0, slots := 0, locals := 122 } s m ([.ref (ad 0)] : List Value).toArray below meth c H locs 0 0 (MQ below (va_Qi (fun (r : Int32) (u : zS) => Post r u.1 u.2.1 u.2.2.1 u.2.2.2) (fun u t => zPost G K A (wM ad K u.1 u.2.1 u.2.2.1 u.2.2.2) t) A) ([.ref (ad 0)] : List Value).toArray s 0 0 A) (F0 m 56 ls [])) : ∀ (x1 : Int32) (x2 : Int32) (y0 : Int32) (I : Nat → Int32) (J : Nat → Int64) (B : Nat → Nat → Int32) (D : Nat → Nat → Int64) (ls : Array Slot) (H : Heap) (locs : List Loc), wc_LassoFinderModel_body_274  K56 Post x1 x2 y0 I J B D → lv_has ls 6 [(0, .ref (ad 0)), (1, .int x1), (2, .int x2)] → zW G A s.heap (wM ad K I J B D) H locs → W p l e { frames := 5, cells := 0, slots := 0, locals := 122 } s m ([.ref (ad 0)] : List Value).toArray below meth c H locs 0 0 (MQ below (va_Qi (fun (r : Int32) (u : zS) => Post r u.1 u.2.1 u.2.2.1 u.2.2.2) (fun u t => zPost G K A (wM ad K u.1 u.2.1 u.2.2.1 u.2.2.2) t) A) ([.ref (ad 0)] : List Value).toArray s 0 0 A) (F0 m 274 ls [.int y0]) := by
  obtain ⟨hx, hb, hr, hml, hts, hown, hlocks, hA, hK⟩ := id C
  intro x1 x2 y0 I J B D ls H locs hok hl hw
  unfold wc_LassoFinderModel_body_274 at hok
  refine lv_istore hx hb zd_LassoFinderModel_body_274 hl (by decide) rfl (fun ls hl => ?_)
  have hl : lv_has ls 6 [(5, .int y0), (0, .ref (ad 0)), (1, .int x1), (2, .int x2)] := hl
  refine lv_iload hx hb zd_LassoFinderModel_body_276 (lv_at hl 0 rfl) ?_
  refine lv_if_eq (tgt := 291) hx hb zd_LassoFinderModel_body_278 (by decide) (fun hc7 => ?_) (fun hc7 => ?_)
  · have hok := hok.1 hc7
    exact wJ_LassoFinderModel_body_291 G K ad  Post C K56 kh56 x1 x2 y0 I J B D ls H locs hok (lv_sub hl [1, 2, 3, 0] rfl) hw
  · have hok := hok.2 hc7
    refine lv_aload_n hx hb zd_LassoFinderModel_body_281 rfl (lv_at hl 1 rfl) ?_
    refine z_get (v := .ref (ad 29)) hx hb hts hown hK hw zZ12 0 wM_g0 41 (by decide) zm_263 rfl zd_LassoFinderModel_body_282 ?_
    refine lv_aload_n hx hb zd_LassoFinderModel_body_285 rfl (lv_at hl 1 rfl) ?_
    refine z_get (v := .int (I 12)) hx hb hts hown hK hw zZ12 0 wM_g0 38 (by decide) zm_338 rfl zd_LassoFinderModel_body_286 ?_
    refine lv_iconst (v := (-1)) hx hb zd_LassoFinderModel_body_289 (by decide) ?_
    refine va_iast (f := (B 27)) hx hb hK hw.1 hw.2.1 hw.2.2 29 0 wM_a29 rfl hok.1 zd_LassoFinderModel_body_290 (fun H locs w91 w92 w93 => ?_)
    have hok := hok.2
    have hw := wM_t29 ⟨w91, w92, w93⟩
    exact wJ_LassoFinderModel_body_291 G K ad  Post C K56 kh56 x1 x2 y0 I J (va_up B 27 (upd (B 27) (I 12).toNatClampNeg (-1))) D ls H locs hok (lv_sub hl [1, 2, 3, 0] rfl) hw
set_option maxHeartbeats 8000000 in
set_option maxRecDepth 100000 in
theorem wJ_LassoFinderModel_body_273 {p : Program} {l : Launch} {e : Env} {s : State} {m : MethodId} {below : List Frame} {meth : Method} {c : Code} {A : Nat → Prop} (G : va_G) (K : Nat → ClassId) (ad : Nat → Nat) (Post : Int32 → (Nat → Int32) → (Nat → Int64) → (Nat → Nat → Int32) → (Nat → Nat → Int64) → Prop) (C : zCx p s m ([.ref (ad 0)] : List Value).toArray meth c A G K prog_14_method_24_code (some .boolean) 6 "LassoFinderModel") (K56 : Int32 → Int32 → (Nat → Int32) → (Nat → Int64) → (Nat → Nat → Int32) → (Nat → Nat → Int64) → Prop) (kh56 : ∀ (x1 : Int32) (x2 : Int32) (I : Nat → Int32) (J : Nat → Int64) (B : Nat → Nat → Int32) (D : Nat → Nat → Int64) (ls : Array Slot) (H : Heap) (locs : List Loc), K56 x1 x2 I J B D → lv_has ls 6 [(0, .ref (ad 0)), (1, .int x1), (2, .int x2)] → zW G A s.heap (wM ad K I J B D) H locs → W p l e { frames := 5, cells := 0, slots := 0, locals := 122 } s m ([.ref (ad 0)] : List Value).toArray below meth c H locs 0 0 (MQ below (va_Qi (fun (r : Int32) (u : zS) => Post r u.1 u.2.1 u.2.2.1 u.2.2.2) (fun u t => zPost G K A (wM ad K u.1 u.2.1 u.2.2.1 u.2.2.2) t) A) ([.ref (ad 0)] : List Value).toArray s 0 0 A) (F0 m 56 ls [])) : ∀ (x1 : Int32) (x2 : Int32) (I : Nat → Int32) (J : Nat → Int64) (B : Nat → Nat → Int32) (D : Nat → Nat → Int64) (ls : Array Slot) (H : Heap) (locs : List Loc), wc_LassoFinderModel_body_273  K56 Post x1 x2 I J B D → lv_has ls 6 [(0, .ref (ad 0)), (1, .int x1), (2, .int x2)] → zW G A s.heap (wM ad K I J B D) H locs → W p l e { frames := 5, cells := 0, slots := 0, locals := 122 } s m ([.ref (ad 0)] : List Value).toArray below meth c H locs 0 0 (MQ below (va_Qi (fun (r : Int32) (u : zS) => Post r u.1 u.2.1 u.2.2.1 u.2.2.2) (fun u t => zPost G K A (wM ad K u.1 u.2.1 u.2.2.1 u.2.2.2) t) A) ([.ref (ad 0)] : List Value).toArray s 0 0 A) (F0 m 273 ls []) := by
  obtain ⟨hx, hb, hr, hml, hts, hown, hlocks, hA, hK⟩ := id C
  intro x1 x2 I J B D ls H locs hok hl hw
  unfold wc_LassoFinderModel_body_273 at hok
  refine lv_iconst (v := 0) hx hb zd_LassoFinderModel_body_273 (by decide) ?_
  exact wJ_LassoFinderModel_body_274 G K ad  Post C K56 kh56 x1 x2 0 I J B D ls H locs hok (lv_sub hl [0, 1, 2] rfl) hw
set_option maxHeartbeats 8000000 in
set_option maxRecDepth 100000 in
theorem wJ_LassoFinderModel_body_243 {p : Program} {l : Launch} {e : Env} {s : State} {m : MethodId} {below : List Frame} {meth : Method} {c : Code} {A : Nat → Prop} (G : va_G) (K : Nat → ClassId) (ad : Nat → Nat) (Post : Int32 → (Nat → Int32) → (Nat → Int64) → (Nat → Nat → Int32) → (Nat → Nat → Int64) → Prop) (C : zCx p s m ([.ref (ad 0)] : List Value).toArray meth c A G K prog_14_method_24_code (some .boolean) 6 "LassoFinderModel") (K56 : Int32 → Int32 → (Nat → Int32) → (Nat → Int64) → (Nat → Nat → Int32) → (Nat → Nat → Int64) → Prop) (kh56 : ∀ (x1 : Int32) (x2 : Int32) (I : Nat → Int32) (J : Nat → Int64) (B : Nat → Nat → Int32) (D : Nat → Nat → Int64) (ls : Array Slot) (H : Heap) (locs : List Loc), K56 x1 x2 I J B D → lv_has ls 6 [(0, .ref (ad 0)), (1, .int x1), (2, .int x2)] → zW G A s.heap (wM ad K I J B D) H locs → W p l e { frames := 5, cells := 0, slots := 0, locals := 122 } s m ([.ref (ad 0)] : List Value).toArray below meth c H locs 0 0 (MQ below (va_Qi (fun (r : Int32) (u : zS) => Post r u.1 u.2.1 u.2.2.1 u.2.2.2) (fun u t => zPost G K A (wM ad K u.1 u.2.1 u.2.2.1 u.2.2.2) t) A) ([.ref (ad 0)] : List Value).toArray s 0 0 A) (F0 m 56 ls [])) : ∀ (x1 : Int32) (x2 : Int32) (I : Nat → Int32) (J : Nat → Int64) (B : Nat → Nat → Int32) (D : Nat → Nat → Int64) (ls : Array Slot) (H : Heap) (locs : List Loc), wc_LassoFinderModel_body_243  K56 Post x1 x2 I J B D → lv_has ls 6 [(0, .ref (ad 0)), (1, .int x1), (2, .int x2)] → zW G A s.heap (wM ad K I J B D) H locs → W p l e { frames := 5, cells := 0, slots := 0, locals := 122 } s m ([.ref (ad 0)] : List Value).toArray below meth c H locs 0 0 (MQ below (va_Qi (fun (r : Int32) (u : zS) => Post r u.1 u.2.1 u.2.2.1 u.2.2.2) (fun u t => zPost G K A (wM ad K u.1 u.2.1 u.2.2.1 u.2.2.2) t) A) ([.ref (ad 0)] : List Value).toArray s 0 0 A) (F0 m 243 ls []) := by
  obtain ⟨hx, hb, hr, hml, hts, hown, hlocks, hA, hK⟩ := id C
  intro x1 x2 I J B D ls H locs hok hl hw
  unfold wc_LassoFinderModel_body_243 at hok
  refine lv_aload_n hx hb zd_LassoFinderModel_body_243 rfl (lv_at hl 0 rfl) ?_
  refine z_calli (w1 := fun (u : zS) => wM ad K u.1 u.2.1 u.2.2.1 u.2.2.2) (wr := []) (z_runV (q0 := 0) (wc := (wM ad K I J B D)) (As := []) (rest := []) ⟨hx, hb, hml, hown, hts⟩ (w_LassoFinderModel_here l G K ad I J B D  _ H.size hok) zf_LassoFinderModel_here zm_332 ⟨Nat.le_of_ble_eq_true rfl, Nat.le_of_ble_eq_true rfl⟩ hK hw (List.range 58) wM_all wM_nd wM_g0 rfl rfl hl.1 rfl (Nat.le_of_ble_eq_true rfl) zd_LassoFinderModel_body_244 ⟨Nat.le_of_ble_eq_true rfl, Nat.le_of_ble_eq_true rfl⟩) hw hA (List.range 58) [] wM_all rfl (by decide) (fun i hi => by cases hi) (fun r8 u H locs hok hw => ?_)
  obtain ⟨I8, J8, B8, D8⟩ := u
  dsimp only at hok
  have hw : zW G A s.heap (wM ad K I8 J8 B8 D8) H locs := hw
  refine lv_bipush (v := 124) hx hb zd_LassoFinderModel_body_247 (by decide) ?_
  refine lv_icmp_ne (tgt := 273) hx hb zd_LassoFinderModel_body_249 (by decide) (fun hc9 => ?_) (fun hc9 => ?_)
  · have hok := hok.1 hc9
    exact wJ_LassoFinderModel_body_273 G K ad  Post C K56 kh56 x1 x2 I8 J8 B8 D8 ls H locs hok (lv_sub hl [0, 1, 2] rfl) hw
  · have hok := hok.2 hc9
    refine lv_aload_n hx hb zd_LassoFinderModel_body_252 rfl (lv_at hl 0 rfl) ?_
    refine z_get (v := .ref (ad 27)) hx hb hts hown hK hw zZ12 0 wM_g0 39 (by decide) zm_261 rfl zd_LassoFinderModel_body_253 ?_
    refine lv_aload_n hx hb zd_LassoFinderModel_body_256 rfl (lv_at hl 0 rfl) ?_
    refine z_get (v := .int (I8 12)) hx hb hts hown hK hw zZ12 0 wM_g0 38 (by decide) zm_338 rfl zd_LassoFinderModel_body_257 ?_
    refine va_iald (f := (B8 25)) hx hb hK hw.1 27 0 wM_a27 rfl hok.1 zd_LassoFinderModel_body_260 ?_
    have hok := hok.2
    refine lv_topi (fun z10 ez10 => ?_)
    have hok := hok z10 ez10
    refine lv_iconst (v := 1) hx hb zd_LassoFinderModel_body_261 (by decide) ?_
    refine lv_iconst (v := 2) hx hb zd_LassoFinderModel_body_262 (by decide) ?_
    refine z_calli (w1 := fun (u : zS) => wM ad K u.1 u.2.1 u.2.2.1 u.2.2.2) (wr := []) (z_runS (wc := (wM ad K I8 J8 B8 D8)) (As := [.int z10, .int 1, .int 2]) (rest := []) ⟨hx, hb, hml, hown, hts⟩ (w_LassoFinderModel_in l G K ad I8 J8 B8 D8 z10 1 2 _ H.size hok) zf_LassoFinderModel_in zm_293 ⟨Nat.le_of_ble_eq_true rfl, Nat.le_of_ble_eq_true rfl⟩ hK hw (List.range 58) wM_all wM_nd rfl hl.1 rfl (Nat.le_of_ble_eq_true rfl) zd_LassoFinderModel_body_263 ⟨Nat.le_of_ble_eq_true rfl, Nat.le_of_ble_eq_true rfl⟩) hw hA (List.range 58) [] wM_all rfl (by decide) (fun i hi => by cases hi) (fun r11 u H locs hok hw => ?_)
    obtain ⟨I11, J11, B11, D11⟩ := u
    dsimp only at hok
    have hw : zW G A s.heap (wM ad K I11 J11 B11 D11) H locs := hw
    refine lv_if_eq (tgt := 273) hx hb zd_LassoFinderModel_body_266 (by decide) (fun hc12 => ?_) (fun hc12 => ?_)
    · have hok := hok.1 hc12
      exact wJ_LassoFinderModel_body_273 G K ad  Post C K56 kh56 x1 x2 I11 J11 B11 D11 ls H locs hok (lv_sub hl [0, 1, 2] rfl) hw
    · have hok := hok.2 hc12
      refine lv_iconst (v := 1) hx hb zd_LassoFinderModel_body_269 (by decide) ?_
      refine lv_goto (tgt := 274) hx hb zd_LassoFinderModel_body_270 (by decide) ?_
      exact wJ_LassoFinderModel_body_274 G K ad  Post C K56 kh56 x1 x2 1 I11 J11 B11 D11 ls H locs hok (lv_sub hl [0, 1, 2] rfl) hw
set_option maxHeartbeats 8000000 in
set_option maxRecDepth 100000 in
theorem wJ_LassoFinderModel_body_204 {p : Program} {l : Launch} {e : Env} {s : State} {m : MethodId} {below : List Frame} {meth : Method} {c : Code} {A : Nat → Prop} (G : va_G) (K : Nat → ClassId) (ad : Nat → Nat) (Post : Int32 → (Nat → Int32) → (Nat → Int64) → (Nat → Nat → Int32) → (Nat → Nat → Int64) → Prop) (C : zCx p s m ([.ref (ad 0)] : List Value).toArray meth c A G K prog_14_method_24_code (some .boolean) 6 "LassoFinderModel") (K56 : Int32 → Int32 → (Nat → Int32) → (Nat → Int64) → (Nat → Nat → Int32) → (Nat → Nat → Int64) → Prop) (kh56 : ∀ (x1 : Int32) (x2 : Int32) (I : Nat → Int32) (J : Nat → Int64) (B : Nat → Nat → Int32) (D : Nat → Nat → Int64) (ls : Array Slot) (H : Heap) (locs : List Loc), K56 x1 x2 I J B D → lv_has ls 6 [(0, .ref (ad 0)), (1, .int x1), (2, .int x2)] → zW G A s.heap (wM ad K I J B D) H locs → W p l e { frames := 5, cells := 0, slots := 0, locals := 122 } s m ([.ref (ad 0)] : List Value).toArray below meth c H locs 0 0 (MQ below (va_Qi (fun (r : Int32) (u : zS) => Post r u.1 u.2.1 u.2.2.1 u.2.2.2) (fun u t => zPost G K A (wM ad K u.1 u.2.1 u.2.2.1 u.2.2.2) t) A) ([.ref (ad 0)] : List Value).toArray s 0 0 A) (F0 m 56 ls [])) (K110 : Int32 → Int32 → Int32 → (Nat → Int32) → (Nat → Int64) → (Nat → Nat → Int32) → (Nat → Nat → Int64) → Prop) (kh110 : ∀ (x1 : Int32) (x2 : Int32) (x4 : Int32) (I : Nat → Int32) (J : Nat → Int64) (B : Nat → Nat → Int32) (D : Nat → Nat → Int64) (ls : Array Slot) (H : Heap) (locs : List Loc), K110 x1 x2 x4 I J B D → lv_has ls 6 [(0, .ref (ad 0)), (1, .int x1), (2, .int x2), (4, .int x4)] → zW G A s.heap (wM ad K I J B D) H locs → W p l e { frames := 5, cells := 0, slots := 0, locals := 122 } s m ([.ref (ad 0)] : List Value).toArray below meth c H locs 0 0 (MQ below (va_Qi (fun (r : Int32) (u : zS) => Post r u.1 u.2.1 u.2.2.1 u.2.2.2) (fun u t => zPost G K A (wM ad K u.1 u.2.1 u.2.2.1 u.2.2.2) t) A) ([.ref (ad 0)] : List Value).toArray s 0 0 A) (F0 m 110 ls [])) : ∀ (x1 : Int32) (x2 : Int32) (x4 : Int32) (y0 : Int32) (y1 : Int32) (I : Nat → Int32) (J : Nat → Int64) (B : Nat → Nat → Int32) (D : Nat → Nat → Int64) (ls : Array Slot) (H : Heap) (locs : List Loc), wc_LassoFinderModel_body_204  K56 K110 Post x1 x2 x4 y0 y1 I J B D → lv_has ls 6 [(0, .ref (ad 0)), (1, .int x1), (2, .int x2), (4, .int x4)] → zW G A s.heap (wM ad K I J B D) H locs → W p l e { frames := 5, cells := 0, slots := 0, locals := 122 } s m ([.ref (ad 0)] : List Value).toArray below meth c H locs 0 0 (MQ below (va_Qi (fun (r : Int32) (u : zS) => Post r u.1 u.2.1 u.2.2.1 u.2.2.2) (fun u t => zPost G K A (wM ad K u.1 u.2.1 u.2.2.1 u.2.2.2) t) A) ([.ref (ad 0)] : List Value).toArray s 0 0 A) (F0 m 204 ls [.int y0, .int y1, .ref (ad 0)]) := by
  obtain ⟨hx, hb, hr, hml, hts, hown, hlocks, hA, hK⟩ := id C
  intro x1 x2 x4 y0 y1 I J B D ls H locs hok hl hw
  unfold wc_LassoFinderModel_body_204 at hok
  refine lv_iadd hx hb zd_LassoFinderModel_body_204 ?_
  refine lv_topi (fun z13 ez13 => ?_)
  have hok := hok z13 ez13
  refine z_put (v := .int z13) hx hb hts hown hK hw zZ12 0 wM_g0 3 (by decide) zm_335 rfl rfl rfl (Nat.le_of_ble_eq_true rfl) zd_LassoFinderModel_body_205 (fun H locs hw => ?_)
  have hw := wM_sI2 hw
  refine lv_goto (tgt := 110) hx hb zd_LassoFinderModel_body_208 (by decide) ?_
  exact kh110 x1 x2 x4 (upd I 2 z13) J B D ls H locs hok (lv_sub hl [0, 1, 2, 3] rfl) hw
set_option maxHeartbeats 8000000 in
set_option maxRecDepth 100000 in
theorem wJ_LassoFinderModel_body_185 {p : Program} {l : Launch} {e : Env} {s : State} {m : MethodId} {below : List Frame} {meth : Method} {c : Code} {A : Nat → Prop} (G : va_G) (K : Nat → ClassId) (ad : Nat → Nat) (Post : Int32 → (Nat → Int32) → (Nat → Int64) → (Nat → Nat → Int32) → (Nat → Nat → Int64) → Prop) (C : zCx p s m ([.ref (ad 0)] : List Value).toArray meth c A G K prog_14_method_24_code (some .boolean) 6 "LassoFinderModel") (K56 : Int32 → Int32 → (Nat → Int32) → (Nat → Int64) → (Nat → Nat → Int32) → (Nat → Nat → Int64) → Prop) (kh56 : ∀ (x1 : Int32) (x2 : Int32) (I : Nat → Int32) (J : Nat → Int64) (B : Nat → Nat → Int32) (D : Nat → Nat → Int64) (ls : Array Slot) (H : Heap) (locs : List Loc), K56 x1 x2 I J B D → lv_has ls 6 [(0, .ref (ad 0)), (1, .int x1), (2, .int x2)] → zW G A s.heap (wM ad K I J B D) H locs → W p l e { frames := 5, cells := 0, slots := 0, locals := 122 } s m ([.ref (ad 0)] : List Value).toArray below meth c H locs 0 0 (MQ below (va_Qi (fun (r : Int32) (u : zS) => Post r u.1 u.2.1 u.2.2.1 u.2.2.2) (fun u t => zPost G K A (wM ad K u.1 u.2.1 u.2.2.1 u.2.2.2) t) A) ([.ref (ad 0)] : List Value).toArray s 0 0 A) (F0 m 56 ls [])) (K110 : Int32 → Int32 → Int32 → (Nat → Int32) → (Nat → Int64) → (Nat → Nat → Int32) → (Nat → Nat → Int64) → Prop) (kh110 : ∀ (x1 : Int32) (x2 : Int32) (x4 : Int32) (I : Nat → Int32) (J : Nat → Int64) (B : Nat → Nat → Int32) (D : Nat → Nat → Int64) (ls : Array Slot) (H : Heap) (locs : List Loc), K110 x1 x2 x4 I J B D → lv_has ls 6 [(0, .ref (ad 0)), (1, .int x1), (2, .int x2), (4, .int x4)] → zW G A s.heap (wM ad K I J B D) H locs → W p l e { frames := 5, cells := 0, slots := 0, locals := 122 } s m ([.ref (ad 0)] : List Value).toArray below meth c H locs 0 0 (MQ below (va_Qi (fun (r : Int32) (u : zS) => Post r u.1 u.2.1 u.2.2.1 u.2.2.2) (fun u t => zPost G K A (wM ad K u.1 u.2.1 u.2.2.1 u.2.2.2) t) A) ([.ref (ad 0)] : List Value).toArray s 0 0 A) (F0 m 110 ls [])) : ∀ (x1 : Int32) (x2 : Int32) (x4 : Int32) (y0 : Int32) (y1 : Int32) (I : Nat → Int32) (J : Nat → Int64) (B : Nat → Nat → Int32) (D : Nat → Nat → Int64) (ls : Array Slot) (H : Heap) (locs : List Loc), wc_LassoFinderModel_body_185  K56 K110 Post x1 x2 x4 y0 y1 I J B D → lv_has ls 6 [(0, .ref (ad 0)), (1, .int x1), (2, .int x2), (4, .int x4)] → zW G A s.heap (wM ad K I J B D) H locs → W p l e { frames := 5, cells := 0, slots := 0, locals := 122 } s m ([.ref (ad 0)] : List Value).toArray below meth c H locs 0 0 (MQ below (va_Qi (fun (r : Int32) (u : zS) => Post r u.1 u.2.1 u.2.2.1 u.2.2.2) (fun u t => zPost G K A (wM ad K u.1 u.2.1 u.2.2.1 u.2.2.2) t) A) ([.ref (ad 0)] : List Value).toArray s 0 0 A) (F0 m 185 ls [.int y0, .int y1, .ref (ad 0)]) := by
  obtain ⟨hx, hb, hr, hml, hts, hown, hlocks, hA, hK⟩ := id C
  intro x1 x2 x4 y0 y1 I J B D ls H locs hok hl hw
  unfold wc_LassoFinderModel_body_185 at hok
  refine lv_isub hx hb zd_LassoFinderModel_body_185 ?_
  refine lv_topi (fun z14 ez14 => ?_)
  have hok := hok z14 ez14
  refine z_put (v := .int z14) hx hb hts hown hK hw zZ12 0 wM_g0 38 (by decide) zm_338 rfl rfl rfl (Nat.le_of_ble_eq_true rfl) zd_LassoFinderModel_body_186 (fun H locs hw => ?_)
  have hw := wM_sI12 hw
  refine lv_aload_n hx hb zd_LassoFinderModel_body_189 rfl (lv_at hl 0 rfl) ?_
  refine lv_dup hx hb zd_LassoFinderModel_body_190 rfl ?_
  refine z_get (v := .int (I 2)) hx hb hts hown hK hw zZ12 0 wM_g0 3 (by decide) zm_335 rfl zd_LassoFinderModel_body_191 ?_
  refine lv_iload hx hb zd_LassoFinderModel_body_194 (lv_at hl 3 rfl) ?_
  refine lv_if_eq (tgt := 203) hx hb zd_LassoFinderModel_body_196 (by decide) (fun hc15 => ?_) (fun hc15 => ?_)
  · have hok := hok.1 hc15
    refine lv_iconst (v := 0) hx hb zd_LassoFinderModel_body_203 (by decide) ?_
    exact wJ_LassoFinderModel_body_204 G K ad  Post C K56 kh56 K110 kh110 x1 x2 x4 0 (I 2) (upd I 12 z14) J B D ls H locs hok (lv_sub hl [0, 1, 2, 3] rfl) hw
  · have hok := hok.2 hc15
    refine lv_iconst (v := 1) hx hb zd_LassoFinderModel_body_199 (by decide) ?_
    refine lv_goto (tgt := 204) hx hb zd_LassoFinderModel_body_200 (by decide) ?_
    exact wJ_LassoFinderModel_body_204 G K ad  Post C K56 kh56 K110 kh110 x1 x2 x4 1 (I 2) (upd I 12 z14) J B D ls H locs hok (lv_sub hl [0, 1, 2, 3] rfl) hw
set_option maxHeartbeats 8000000 in
set_option maxRecDepth 100000 in
theorem wJ_LassoFinderModel_body_168 {p : Program} {l : Launch} {e : Env} {s : State} {m : MethodId} {below : List Frame} {meth : Method} {c : Code} {A : Nat → Prop} (G : va_G) (K : Nat → ClassId) (ad : Nat → Nat) (Post : Int32 → (Nat → Int32) → (Nat → Int64) → (Nat → Nat → Int32) → (Nat → Nat → Int64) → Prop) (C : zCx p s m ([.ref (ad 0)] : List Value).toArray meth c A G K prog_14_method_24_code (some .boolean) 6 "LassoFinderModel") (K56 : Int32 → Int32 → (Nat → Int32) → (Nat → Int64) → (Nat → Nat → Int32) → (Nat → Nat → Int64) → Prop) (kh56 : ∀ (x1 : Int32) (x2 : Int32) (I : Nat → Int32) (J : Nat → Int64) (B : Nat → Nat → Int32) (D : Nat → Nat → Int64) (ls : Array Slot) (H : Heap) (locs : List Loc), K56 x1 x2 I J B D → lv_has ls 6 [(0, .ref (ad 0)), (1, .int x1), (2, .int x2)] → zW G A s.heap (wM ad K I J B D) H locs → W p l e { frames := 5, cells := 0, slots := 0, locals := 122 } s m ([.ref (ad 0)] : List Value).toArray below meth c H locs 0 0 (MQ below (va_Qi (fun (r : Int32) (u : zS) => Post r u.1 u.2.1 u.2.2.1 u.2.2.2) (fun u t => zPost G K A (wM ad K u.1 u.2.1 u.2.2.1 u.2.2.2) t) A) ([.ref (ad 0)] : List Value).toArray s 0 0 A) (F0 m 56 ls [])) (K110 : Int32 → Int32 → Int32 → (Nat → Int32) → (Nat → Int64) → (Nat → Nat → Int32) → (Nat → Nat → Int64) → Prop) (kh110 : ∀ (x1 : Int32) (x2 : Int32) (x4 : Int32) (I : Nat → Int32) (J : Nat → Int64) (B : Nat → Nat → Int32) (D : Nat → Nat → Int64) (ls : Array Slot) (H : Heap) (locs : List Loc), K110 x1 x2 x4 I J B D → lv_has ls 6 [(0, .ref (ad 0)), (1, .int x1), (2, .int x2), (4, .int x4)] → zW G A s.heap (wM ad K I J B D) H locs → W p l e { frames := 5, cells := 0, slots := 0, locals := 122 } s m ([.ref (ad 0)] : List Value).toArray below meth c H locs 0 0 (MQ below (va_Qi (fun (r : Int32) (u : zS) => Post r u.1 u.2.1 u.2.2.1 u.2.2.2) (fun u t => zPost G K A (wM ad K u.1 u.2.1 u.2.2.1 u.2.2.2) t) A) ([.ref (ad 0)] : List Value).toArray s 0 0 A) (F0 m 110 ls [])) : ∀ (x1 : Int32) (x2 : Int32) (y0 : Int32) (I : Nat → Int32) (J : Nat → Int64) (B : Nat → Nat → Int32) (D : Nat → Nat → Int64) (ls : Array Slot) (H : Heap) (locs : List Loc), wc_LassoFinderModel_body_168  K56 K110 Post x1 x2 y0 I J B D → lv_has ls 6 [(0, .ref (ad 0)), (1, .int x1), (2, .int x2)] → zW G A s.heap (wM ad K I J B D) H locs → W p l e { frames := 5, cells := 0, slots := 0, locals := 122 } s m ([.ref (ad 0)] : List Value).toArray below meth c H locs 0 0 (MQ below (va_Qi (fun (r : Int32) (u : zS) => Post r u.1 u.2.1 u.2.2.1 u.2.2.2) (fun u t => zPost G K A (wM ad K u.1 u.2.1 u.2.2.1 u.2.2.2) t) A) ([.ref (ad 0)] : List Value).toArray s 0 0 A) (F0 m 168 ls [.int y0]) := by
  obtain ⟨hx, hb, hr, hml, hts, hown, hlocks, hA, hK⟩ := id C
  intro x1 x2 y0 I J B D ls H locs hok hl hw
  unfold wc_LassoFinderModel_body_168 at hok
  refine lv_istore hx hb zd_LassoFinderModel_body_168 hl (by decide) rfl (fun ls hl => ?_)
  have hl : lv_has ls 6 [(4, .int y0), (0, .ref (ad 0)), (1, .int x1), (2, .int x2)] := hl
  refine lv_aload_n hx hb zd_LassoFinderModel_body_170 rfl (lv_at hl 1 rfl) ?_
  refine lv_dup hx hb zd_LassoFinderModel_body_171 rfl ?_
  refine z_get (v := .int (I 12)) hx hb hts hown hK hw zZ12 0 wM_g0 38 (by decide) zm_338 rfl zd_LassoFinderModel_body_172 ?_
  refine lv_iload hx hb zd_LassoFinderModel_body_175 (lv_at hl 0 rfl) ?_
  refine lv_if_eq (tgt := 184) hx hb zd_LassoFinderModel_body_177 (by decide) (fun hc16 => ?_) (fun hc16 => ?_)
  · have hok := hok.1 hc16
    refine lv_iconst (v := 0) hx hb zd_LassoFinderModel_body_184 (by decide) ?_
    exact wJ_LassoFinderModel_body_185 G K ad  Post C K56 kh56 K110 kh110 x1 x2 y0 0 (I 12) I J B D ls H locs hok (lv_sub hl [1, 2, 3, 0] rfl) hw
  · have hok := hok.2 hc16
    refine lv_iconst (v := 1) hx hb zd_LassoFinderModel_body_180 (by decide) ?_
    refine lv_goto (tgt := 185) hx hb zd_LassoFinderModel_body_181 (by decide) ?_
    exact wJ_LassoFinderModel_body_185 G K ad  Post C K56 kh56 K110 kh110 x1 x2 y0 1 (I 12) I J B D ls H locs hok (lv_sub hl [1, 2, 3, 0] rfl) hw
set_option maxHeartbeats 8000000 in
set_option maxRecDepth 100000 in
theorem wJ_LassoFinderModel_body_167 {p : Program} {l : Launch} {e : Env} {s : State} {m : MethodId} {below : List Frame} {meth : Method} {c : Code} {A : Nat → Prop} (G : va_G) (K : Nat → ClassId) (ad : Nat → Nat) (Post : Int32 → (Nat → Int32) → (Nat → Int64) → (Nat → Nat → Int32) → (Nat → Nat → Int64) → Prop) (C : zCx p s m ([.ref (ad 0)] : List Value).toArray meth c A G K prog_14_method_24_code (some .boolean) 6 "LassoFinderModel") (K56 : Int32 → Int32 → (Nat → Int32) → (Nat → Int64) → (Nat → Nat → Int32) → (Nat → Nat → Int64) → Prop) (kh56 : ∀ (x1 : Int32) (x2 : Int32) (I : Nat → Int32) (J : Nat → Int64) (B : Nat → Nat → Int32) (D : Nat → Nat → Int64) (ls : Array Slot) (H : Heap) (locs : List Loc), K56 x1 x2 I J B D → lv_has ls 6 [(0, .ref (ad 0)), (1, .int x1), (2, .int x2)] → zW G A s.heap (wM ad K I J B D) H locs → W p l e { frames := 5, cells := 0, slots := 0, locals := 122 } s m ([.ref (ad 0)] : List Value).toArray below meth c H locs 0 0 (MQ below (va_Qi (fun (r : Int32) (u : zS) => Post r u.1 u.2.1 u.2.2.1 u.2.2.2) (fun u t => zPost G K A (wM ad K u.1 u.2.1 u.2.2.1 u.2.2.2) t) A) ([.ref (ad 0)] : List Value).toArray s 0 0 A) (F0 m 56 ls [])) (K110 : Int32 → Int32 → Int32 → (Nat → Int32) → (Nat → Int64) → (Nat → Nat → Int32) → (Nat → Nat → Int64) → Prop) (kh110 : ∀ (x1 : Int32) (x2 : Int32) (x4 : Int32) (I : Nat → Int32) (J : Nat → Int64) (B : Nat → Nat → Int32) (D : Nat → Nat → Int64) (ls : Array Slot) (H : Heap) (locs : List Loc), K110 x1 x2 x4 I J B D → lv_has ls 6 [(0, .ref (ad 0)), (1, .int x1), (2, .int x2), (4, .int x4)] → zW G A s.heap (wM ad K I J B D) H locs → W p l e { frames := 5, cells := 0, slots := 0, locals := 122 } s m ([.ref (ad 0)] : List Value).toArray below meth c H locs 0 0 (MQ below (va_Qi (fun (r : Int32) (u : zS) => Post r u.1 u.2.1 u.2.2.1 u.2.2.2) (fun u t => zPost G K A (wM ad K u.1 u.2.1 u.2.2.1 u.2.2.2) t) A) ([.ref (ad 0)] : List Value).toArray s 0 0 A) (F0 m 110 ls [])) : ∀ (x1 : Int32) (x2 : Int32) (I : Nat → Int32) (J : Nat → Int64) (B : Nat → Nat → Int32) (D : Nat → Nat → Int64) (ls : Array Slot) (H : Heap) (locs : List Loc), wc_LassoFinderModel_body_167  K56 K110 Post x1 x2 I J B D → lv_has ls 6 [(0, .ref (ad 0)), (1, .int x1), (2, .int x2)] → zW G A s.heap (wM ad K I J B D) H locs → W p l e { frames := 5, cells := 0, slots := 0, locals := 122 } s m ([.ref (ad 0)] : List Value).toArray below meth c H locs 0 0 (MQ below (va_Qi (fun (r : Int32) (u : zS) => Post r u.1 u.2.1 u.2.2.1 u.2.2.2) (fun u t => zPost G K A (wM ad K u.1 u.2.1 u.2.2.1 u.2.2.2) t) A) ([.ref (ad 0)] : List Value).toArray s 0 0 A) (F0 m 167 ls []) := by
  obtain ⟨hx, hb, hr, hml, hts, hown, hlocks, hA, hK⟩ := id C
  intro x1 x2 I J B D ls H locs hok hl hw
  unfold wc_LassoFinderModel_body_167 at hok
  refine lv_iconst (v := 0) hx hb zd_LassoFinderModel_body_167 (by decide) ?_
  exact wJ_LassoFinderModel_body_168 G K ad  Post C K56 kh56 K110 kh110 x1 x2 0 I J B D ls H locs hok (lv_sub hl [0, 1, 2] rfl) hw
set_option maxHeartbeats 8000000 in
set_option maxRecDepth 100000 in
theorem wJ_LassoFinderModel_body_163 {p : Program} {l : Launch} {e : Env} {s : State} {m : MethodId} {below : List Frame} {meth : Method} {c : Code} {A : Nat → Prop} (G : va_G) (K : Nat → ClassId) (ad : Nat → Nat) (Post : Int32 → (Nat → Int32) → (Nat → Int64) → (Nat → Nat → Int32) → (Nat → Nat → Int64) → Prop) (C : zCx p s m ([.ref (ad 0)] : List Value).toArray meth c A G K prog_14_method_24_code (some .boolean) 6 "LassoFinderModel") (K56 : Int32 → Int32 → (Nat → Int32) → (Nat → Int64) → (Nat → Nat → Int32) → (Nat → Nat → Int64) → Prop) (kh56 : ∀ (x1 : Int32) (x2 : Int32) (I : Nat → Int32) (J : Nat → Int64) (B : Nat → Nat → Int32) (D : Nat → Nat → Int64) (ls : Array Slot) (H : Heap) (locs : List Loc), K56 x1 x2 I J B D → lv_has ls 6 [(0, .ref (ad 0)), (1, .int x1), (2, .int x2)] → zW G A s.heap (wM ad K I J B D) H locs → W p l e { frames := 5, cells := 0, slots := 0, locals := 122 } s m ([.ref (ad 0)] : List Value).toArray below meth c H locs 0 0 (MQ below (va_Qi (fun (r : Int32) (u : zS) => Post r u.1 u.2.1 u.2.2.1 u.2.2.2) (fun u t => zPost G K A (wM ad K u.1 u.2.1 u.2.2.1 u.2.2.2) t) A) ([.ref (ad 0)] : List Value).toArray s 0 0 A) (F0 m 56 ls [])) (K110 : Int32 → Int32 → Int32 → (Nat → Int32) → (Nat → Int64) → (Nat → Nat → Int32) → (Nat → Nat → Int64) → Prop) (kh110 : ∀ (x1 : Int32) (x2 : Int32) (x4 : Int32) (I : Nat → Int32) (J : Nat → Int64) (B : Nat → Nat → Int32) (D : Nat → Nat → Int64) (ls : Array Slot) (H : Heap) (locs : List Loc), K110 x1 x2 x4 I J B D → lv_has ls 6 [(0, .ref (ad 0)), (1, .int x1), (2, .int x2), (4, .int x4)] → zW G A s.heap (wM ad K I J B D) H locs → W p l e { frames := 5, cells := 0, slots := 0, locals := 122 } s m ([.ref (ad 0)] : List Value).toArray below meth c H locs 0 0 (MQ below (va_Qi (fun (r : Int32) (u : zS) => Post r u.1 u.2.1 u.2.2.1 u.2.2.2) (fun u t => zPost G K A (wM ad K u.1 u.2.1 u.2.2.1 u.2.2.2) t) A) ([.ref (ad 0)] : List Value).toArray s 0 0 A) (F0 m 110 ls [])) : ∀ (x1 : Int32) (x2 : Int32) (I : Nat → Int32) (J : Nat → Int64) (B : Nat → Nat → Int32) (D : Nat → Nat → Int64) (ls : Array Slot) (H : Heap) (locs : List Loc), wc_LassoFinderModel_body_163  K56 K110 Post x1 x2 I J B D → lv_has ls 6 [(0, .ref (ad 0)), (1, .int x1), (2, .int x2)] → zW G A s.heap (wM ad K I J B D) H locs → W p l e { frames := 5, cells := 0, slots := 0, locals := 122 } s m ([.ref (ad 0)] : List Value).toArray below meth c H locs 0 0 (MQ below (va_Qi (fun (r : Int32) (u : zS) => Post r u.1 u.2.1 u.2.2.1 u.2.2.2) (fun u t => zPost G K A (wM ad K u.1 u.2.1 u.2.2.1 u.2.2.2) t) A) ([.ref (ad 0)] : List Value).toArray s 0 0 A) (F0 m 163 ls []) := by
  obtain ⟨hx, hb, hr, hml, hts, hown, hlocks, hA, hK⟩ := id C
  intro x1 x2 I J B D ls H locs hok hl hw
  unfold wc_LassoFinderModel_body_163 at hok
  refine lv_iconst (v := 1) hx hb zd_LassoFinderModel_body_163 (by decide) ?_
  refine lv_goto (tgt := 168) hx hb zd_LassoFinderModel_body_164 (by decide) ?_
  exact wJ_LassoFinderModel_body_168 G K ad  Post C K56 kh56 K110 kh110 x1 x2 1 I J B D ls H locs hok (lv_sub hl [0, 1, 2] rfl) hw
set_option maxHeartbeats 8000000 in
set_option maxRecDepth 100000 in
theorem wJ_LassoFinderModel_body_141 {p : Program} {l : Launch} {e : Env} {s : State} {m : MethodId} {below : List Frame} {meth : Method} {c : Code} {A : Nat → Prop} (G : va_G) (K : Nat → ClassId) (ad : Nat → Nat) (Post : Int32 → (Nat → Int32) → (Nat → Int64) → (Nat → Nat → Int32) → (Nat → Nat → Int64) → Prop) (C : zCx p s m ([.ref (ad 0)] : List Value).toArray meth c A G K prog_14_method_24_code (some .boolean) 6 "LassoFinderModel") (K56 : Int32 → Int32 → (Nat → Int32) → (Nat → Int64) → (Nat → Nat → Int32) → (Nat → Nat → Int64) → Prop) (kh56 : ∀ (x1 : Int32) (x2 : Int32) (I : Nat → Int32) (J : Nat → Int64) (B : Nat → Nat → Int32) (D : Nat → Nat → Int64) (ls : Array Slot) (H : Heap) (locs : List Loc), K56 x1 x2 I J B D → lv_has ls 6 [(0, .ref (ad 0)), (1, .int x1), (2, .int x2)] → zW G A s.heap (wM ad K I J B D) H locs → W p l e { frames := 5, cells := 0, slots := 0, locals := 122 } s m ([.ref (ad 0)] : List Value).toArray below meth c H locs 0 0 (MQ below (va_Qi (fun (r : Int32) (u : zS) => Post r u.1 u.2.1 u.2.2.1 u.2.2.2) (fun u t => zPost G K A (wM ad K u.1 u.2.1 u.2.2.1 u.2.2.2) t) A) ([.ref (ad 0)] : List Value).toArray s 0 0 A) (F0 m 56 ls [])) (K110 : Int32 → Int32 → Int32 → (Nat → Int32) → (Nat → Int64) → (Nat → Nat → Int32) → (Nat → Nat → Int64) → Prop) (kh110 : ∀ (x1 : Int32) (x2 : Int32) (x4 : Int32) (I : Nat → Int32) (J : Nat → Int64) (B : Nat → Nat → Int32) (D : Nat → Nat → Int64) (ls : Array Slot) (H : Heap) (locs : List Loc), K110 x1 x2 x4 I J B D → lv_has ls 6 [(0, .ref (ad 0)), (1, .int x1), (2, .int x2), (4, .int x4)] → zW G A s.heap (wM ad K I J B D) H locs → W p l e { frames := 5, cells := 0, slots := 0, locals := 122 } s m ([.ref (ad 0)] : List Value).toArray below meth c H locs 0 0 (MQ below (va_Qi (fun (r : Int32) (u : zS) => Post r u.1 u.2.1 u.2.2.1 u.2.2.2) (fun u t => zPost G K A (wM ad K u.1 u.2.1 u.2.2.1 u.2.2.2) t) A) ([.ref (ad 0)] : List Value).toArray s 0 0 A) (F0 m 110 ls [])) : ∀ (x1 : Int32) (x2 : Int32) (I : Nat → Int32) (J : Nat → Int64) (B : Nat → Nat → Int32) (D : Nat → Nat → Int64) (ls : Array Slot) (H : Heap) (locs : List Loc), wc_LassoFinderModel_body_141  K56 K110 Post x1 x2 I J B D → lv_has ls 6 [(0, .ref (ad 0)), (1, .int x1), (2, .int x2)] → zW G A s.heap (wM ad K I J B D) H locs → W p l e { frames := 5, cells := 0, slots := 0, locals := 122 } s m ([.ref (ad 0)] : List Value).toArray below meth c H locs 0 0 (MQ below (va_Qi (fun (r : Int32) (u : zS) => Post r u.1 u.2.1 u.2.2.1 u.2.2.2) (fun u t => zPost G K A (wM ad K u.1 u.2.1 u.2.2.1 u.2.2.2) t) A) ([.ref (ad 0)] : List Value).toArray s 0 0 A) (F0 m 141 ls []) := by
  obtain ⟨hx, hb, hr, hml, hts, hown, hlocks, hA, hK⟩ := id C
  intro x1 x2 I J B D ls H locs hok hl hw
  unfold wc_LassoFinderModel_body_141 at hok
  refine lv_aload_n hx hb zd_LassoFinderModel_body_141 rfl (lv_at hl 0 rfl) ?_
  refine z_calli (w1 := fun (u : zS) => wM ad K u.1 u.2.1 u.2.2.1 u.2.2.2) (wr := []) (z_runV (q0 := 0) (wc := (wM ad K I J B D)) (As := []) (rest := []) ⟨hx, hb, hml, hown, hts⟩ (w_LassoFinderModel_here l G K ad I J B D  _ H.size hok) zf_LassoFinderModel_here zm_332 ⟨Nat.le_of_ble_eq_true rfl, Nat.le_of_ble_eq_true rfl⟩ hK hw (List.range 58) wM_all wM_nd wM_g0 rfl rfl hl.1 rfl (Nat.le_of_ble_eq_true rfl) zd_LassoFinderModel_body_142 ⟨Nat.le_of_ble_eq_true rfl, Nat.le_of_ble_eq_true rfl⟩) hw hA (List.range 58) [] wM_all rfl (by decide) (fun i hi => by cases hi) (fun r17 u H locs hok hw => ?_)
  obtain ⟨I17, J17, B17, D17⟩ := u
  dsimp only at hok
  have hw : zW G A s.heap (wM ad K I17 J17 B17 D17) H locs := hw
  refine lv_bipush (v := 62) hx hb zd_LassoFinderModel_body_145 (by decide) ?_
  refine lv_icmp_ne (tgt := 167) hx hb zd_LassoFinderModel_body_147 (by decide) (fun hc18 => ?_) (fun hc18 => ?_)
  · have hok := hok.1 hc18
    exact wJ_LassoFinderModel_body_167 G K ad  Post C K56 kh56 K110 kh110 x1 x2 I17 J17 B17 D17 ls H locs hok (lv_sub hl [0, 1, 2] rfl) hw
  · have hok := hok.2 hc18
    refine lv_aload_n hx hb zd_LassoFinderModel_body_150 rfl (lv_at hl 0 rfl) ?_
    refine z_get (v := .ref (ad 27)) hx hb hts hown hK hw zZ12 0 wM_g0 39 (by decide) zm_261 rfl zd_LassoFinderModel_body_151 ?_
    refine lv_aload_n hx hb zd_LassoFinderModel_body_154 rfl (lv_at hl 0 rfl) ?_
    refine z_get (v := .int (I17 12)) hx hb hts hown hK hw zZ12 0 wM_g0 38 (by decide) zm_338 rfl zd_LassoFinderModel_body_155 ?_
    refine va_iald (f := (B17 25)) hx hb hK hw.1 27 0 wM_a27 rfl hok.1 zd_LassoFinderModel_body_158 ?_
    have hok := hok.2
    refine lv_topi (fun z19 ez19 => ?_)
    have hok := hok z19 ez19
    refine lv_iconst (v := 3) hx hb zd_LassoFinderModel_body_159 (by decide) ?_
    refine lv_icmp_ne (tgt := 167) hx hb zd_LassoFinderModel_body_160 (by decide) (fun hc20 => ?_) (fun hc20 => ?_)
    · have hok := hok.1 hc20
      exact wJ_LassoFinderModel_body_167 G K ad  Post C K56 kh56 K110 kh110 x1 x2 I17 J17 B17 D17 ls H locs hok (lv_sub hl [0, 1, 2] rfl) hw
    · have hok := hok.2 hc20
      exact wJ_LassoFinderModel_body_163 G K ad  Post C K56 kh56 K110 kh110 x1 x2 I17 J17 B17 D17 ls H locs hok (lv_sub hl [0, 1, 2] rfl) hw
set_option maxHeartbeats 8000000 in
set_option maxRecDepth 100000 in
theorem wB_LassoFinderModel_body_110 {p : Program} {l : Launch} {e : Env} {s : State} {m : MethodId} {below : List Frame} {meth : Method} {c : Code} {A : Nat → Prop} (G : va_G) (K : Nat → ClassId) (ad : Nat → Nat) (Post : Int32 → (Nat → Int32) → (Nat → Int64) → (Nat → Nat → Int32) → (Nat → Nat → Int64) → Prop) (C : zCx p s m ([.ref (ad 0)] : List Value).toArray meth c A G K prog_14_method_24_code (some .boolean) 6 "LassoFinderModel") (K56 : Int32 → Int32 → (Nat → Int32) → (Nat → Int64) → (Nat → Nat → Int32) → (Nat → Nat → Int64) → Prop) (kh56 : ∀ (x1 : Int32) (x2 : Int32) (I : Nat → Int32) (J : Nat → Int64) (B : Nat → Nat → Int32) (D : Nat → Nat → Int64) (ls : Array Slot) (H : Heap) (locs : List Loc), K56 x1 x2 I J B D → lv_has ls 6 [(0, .ref (ad 0)), (1, .int x1), (2, .int x2)] → zW G A s.heap (wM ad K I J B D) H locs → W p l e { frames := 5, cells := 0, slots := 0, locals := 122 } s m ([.ref (ad 0)] : List Value).toArray below meth c H locs 0 0 (MQ below (va_Qi (fun (r : Int32) (u : zS) => Post r u.1 u.2.1 u.2.2.1 u.2.2.2) (fun u t => zPost G K A (wM ad K u.1 u.2.1 u.2.2.1 u.2.2.2) t) A) ([.ref (ad 0)] : List Value).toArray s 0 0 A) (F0 m 56 ls [])) (K110 : Int32 → Int32 → Int32 → (Nat → Int32) → (Nat → Int64) → (Nat → Nat → Int32) → (Nat → Nat → Int64) → Prop) (kh110 : ∀ (x1 : Int32) (x2 : Int32) (x4 : Int32) (I : Nat → Int32) (J : Nat → Int64) (B : Nat → Nat → Int32) (D : Nat → Nat → Int64) (ls : Array Slot) (H : Heap) (locs : List Loc), K110 x1 x2 x4 I J B D → lv_has ls 6 [(0, .ref (ad 0)), (1, .int x1), (2, .int x2), (4, .int x4)] → zW G A s.heap (wM ad K I J B D) H locs → W p l e { frames := 5, cells := 0, slots := 0, locals := 122 } s m ([.ref (ad 0)] : List Value).toArray below meth c H locs 0 0 (MQ below (va_Qi (fun (r : Int32) (u : zS) => Post r u.1 u.2.1 u.2.2.1 u.2.2.2) (fun u t => zPost G K A (wM ad K u.1 u.2.1 u.2.2.1 u.2.2.2) t) A) ([.ref (ad 0)] : List Value).toArray s 0 0 A) (F0 m 110 ls [])) : ∀ (x1 : Int32) (x2 : Int32) (x4 : Int32) (I : Nat → Int32) (J : Nat → Int64) (B : Nat → Nat → Int32) (D : Nat → Nat → Int64) (ls : Array Slot) (H : Heap) (locs : List Loc), wb_LassoFinderModel_body_110  K110 K56 Post x1 x2 x4 I J B D → lv_has ls 6 [(0, .ref (ad 0)), (1, .int x1), (2, .int x2), (4, .int x4)] → zW G A s.heap (wM ad K I J B D) H locs → W p l e { frames := 5, cells := 0, slots := 0, locals := 122 } s m ([.ref (ad 0)] : List Value).toArray below meth c H locs 0 0 (MQ below (va_Qi (fun (r : Int32) (u : zS) => Post r u.1 u.2.1 u.2.2.1 u.2.2.2) (fun u t => zPost G K A (wM ad K u.1 u.2.1 u.2.2.1 u.2.2.2) t) A) ([.ref (ad 0)] : List Value).toArray s 0 0 A) (F0 m 110 ls []) := by
  obtain ⟨hx, hb, hr, hml, hts, hown, hlocks, hA, hK⟩ := id C
  intro x1 x2 x4 I J B D ls H locs hok hl hw
  unfold wb_LassoFinderModel_body_110 at hok
  refine lv_iload hx hb zd_LassoFinderModel_body_110 (lv_at hl 3 rfl) ?_
  refine lv_if_eq (tgt := 211) hx hb zd_LassoFinderModel_body_112 (by decide) (fun hc21 => ?_) (fun hc21 => ?_)
  · have hok := hok.1 hc21
    refine lv_aload_n hx hb zd_LassoFinderModel_body_211 rfl (lv_at hl 0 rfl) ?_
    refine z_calli (w1 := fun (u : zS) => wM ad K u.1 u.2.1 u.2.2.1 u.2.2.2) (wr := []) (z_runV (q0 := 0) (wc := (wM ad K I J B D)) (As := []) (rest := []) ⟨hx, hb, hml, hown, hts⟩ (w_LassoFinderModel_here l G K ad I J B D  _ H.size hok) zf_LassoFinderModel_here zm_332 ⟨Nat.le_of_ble_eq_true rfl, Nat.le_of_ble_eq_true rfl⟩ hK hw (List.range 58) wM_all wM_nd wM_g0 rfl rfl hl.1 rfl (Nat.le_of_ble_eq_true rfl) zd_LassoFinderModel_body_212 ⟨Nat.le_of_ble_eq_true rfl, Nat.le_of_ble_eq_true rfl⟩) hw hA (List.range 58) [] wM_all rfl (by decide) (fun i hi => by cases hi) (fun r22 u H locs hok hw => ?_)
    obtain ⟨I22, J22, B22, D22⟩ := u
    dsimp only at hok
    have hw : zW G A s.heap (wM ad K I22 J22 B22 D22) H locs := hw
    refine lv_bipush (v := 125) hx hb zd_LassoFinderModel_body_215 (by decide) ?_
    refine lv_icmp_ne (tgt := 243) hx hb zd_LassoFinderModel_body_217 (by decide) (fun hc23 => ?_) (fun hc23 => ?_)
    · have hok := hok.1 hc23
      exact wJ_LassoFinderModel_body_243 G K ad  Post C K56 kh56 x1 x2 I22 J22 B22 D22 ls H locs hok (lv_sub hl [0, 1, 2] rfl) hw
    · have hok := hok.2 hc23
      refine lv_aload_n hx hb zd_LassoFinderModel_body_220 rfl (lv_at hl 0 rfl) ?_
      refine z_get (v := .int (I22 12)) hx hb hts hown hK hw zZ12 0 wM_g0 38 (by decide) zm_338 rfl zd_LassoFinderModel_body_221 ?_
      refine lv_if_ne (tgt := 243) hx hb zd_LassoFinderModel_body_224 (by decide) (fun hc24 => ?_) (fun hc24 => ?_)
      · have hok := hok.1 hc24
        exact wJ_LassoFinderModel_body_243 G K ad  Post C K56 kh56 x1 x2 I22 J22 B22 D22 ls H locs hok (lv_sub hl [0, 1, 2] rfl) hw
      · have hok := hok.2 hc24
        refine lv_aload_n hx hb zd_LassoFinderModel_body_227 rfl (lv_at hl 0 rfl) ?_
        refine lv_dup hx hb zd_LassoFinderModel_body_228 rfl ?_
        refine z_get (v := .int (I22 2)) hx hb hts hown hK hw zZ12 0 wM_g0 3 (by decide) zm_335 rfl zd_LassoFinderModel_body_229 ?_
        refine lv_iconst (v := 1) hx hb zd_LassoFinderModel_body_232 (by decide) ?_
        refine lv_iadd hx hb zd_LassoFinderModel_body_233 ?_
        refine lv_topi (fun z25 ez25 => ?_)
        have hok := hok z25 ez25
        refine z_put (v := .int z25) hx hb hts hown hK hw zZ12 0 wM_g0 3 (by decide) zm_335 rfl rfl rfl (Nat.le_of_ble_eq_true rfl) zd_LassoFinderModel_body_234 (fun H locs hw => ?_)
        have hw := wM_sI2 hw
        refine lv_aload_n hx hb zd_LassoFinderModel_body_237 rfl (lv_at hl 0 rfl) ?_
        refine lv_iload_n hx hb zd_LassoFinderModel_body_238 rfl (lv_at hl 1 rfl) ?_
        refine z_calli (w1 := fun (u : zS) => wM ad K u.1 u.2.1 u.2.2.1 u.2.2.2) (wr := []) (z_runV (q0 := 0) (wc := (wM ad K (upd I22 2 z25) J22 B22 D22)) (As := [.int x1]) (rest := []) ⟨hx, hb, hml, hown, hts⟩ (w_LassoFinderModel_jumps l G K ad (upd I22 2 z25) J22 B22 D22 x1 _ H.size hok) zf_LassoFinderModel_jumps zm_340 ⟨Nat.le_of_ble_eq_true rfl, Nat.le_of_ble_eq_true rfl⟩ hK hw (List.range 58) wM_all wM_nd wM_g0 rfl rfl hl.1 rfl (Nat.le_of_ble_eq_true rfl) zd_LassoFinderModel_body_239 ⟨Nat.le_of_ble_eq_true rfl, Nat.le_of_ble_eq_true rfl⟩) hw hA (List.range 58) [] wM_all rfl (by decide) (fun i hi => by cases hi) (fun r26 u H locs hok hw => ?_)
        obtain ⟨I26, J26, B26, D26⟩ := u
        dsimp only at hok
        have hw : zW G A s.heap (wM ad K I26 J26 B26 D26) H locs := hw
        have hbo := hok.1
        have hok := hok.2
        exact (z_iret (u := (I26, J26, B26, D26)) hx hb hr hlocks (z_nar hbo) hw (List.range 58) wM_all wM_nd hok (Nat.le_of_ble_eq_true rfl) (Nat.le_of_ble_eq_true rfl) zd_LassoFinderModel_body_242)
  · have hok := hok.2 hc21
    refine lv_aload_n hx hb zd_LassoFinderModel_body_115 rfl (lv_at hl 0 rfl) ?_
    refine z_calli (w1 := fun (u : zS) => wM ad K u.1 u.2.1 u.2.2.1 u.2.2.2) (wr := []) (z_runV (q0 := 0) (wc := (wM ad K I J B D)) (As := []) (rest := []) ⟨hx, hb, hml, hown, hts⟩ (w_LassoFinderModel_here l G K ad I J B D  _ H.size hok) zf_LassoFinderModel_here zm_332 ⟨Nat.le_of_ble_eq_true rfl, Nat.le_of_ble_eq_true rfl⟩ hK hw (List.range 58) wM_all wM_nd wM_g0 rfl rfl hl.1 rfl (Nat.le_of_ble_eq_true rfl) zd_LassoFinderModel_body_116 ⟨Nat.le_of_ble_eq_true rfl, Nat.le_of_ble_eq_true rfl⟩) hw hA (List.range 58) [] wM_all rfl (by decide) (fun i hi => by cases hi) (fun r27 u H locs hok hw => ?_)
    obtain ⟨I27, J27, B27, D27⟩ := u
    dsimp only at hok
    have hw : zW G A s.heap (wM ad K I27 J27 B27 D27) H locs := hw
    refine lv_bipush (v := 93) hx hb zd_LassoFinderModel_body_119 (by decide) ?_
    refine lv_icmp_ne (tgt := 141) hx hb zd_LassoFinderModel_body_121 (by decide) (fun hc28 => ?_) (fun hc28 => ?_)
    · have hok := hok.1 hc28
      exact wJ_LassoFinderModel_body_141 G K ad  Post C K56 kh56 K110 kh110 x1 x2 I27 J27 B27 D27 ls H locs hok (lv_sub hl [0, 1, 2] rfl) hw
    · have hok := hok.2 hc28
      refine lv_aload_n hx hb zd_LassoFinderModel_body_124 rfl (lv_at hl 0 rfl) ?_
      refine z_get (v := .ref (ad 27)) hx hb hts hown hK hw zZ12 0 wM_g0 39 (by decide) zm_261 rfl zd_LassoFinderModel_body_125 ?_
      refine lv_aload_n hx hb zd_LassoFinderModel_body_128 rfl (lv_at hl 0 rfl) ?_
      refine z_get (v := .int (I27 12)) hx hb hts hown hK hw zZ12 0 wM_g0 38 (by decide) zm_338 rfl zd_LassoFinderModel_body_129 ?_
      refine va_iald (f := (B27 25)) hx hb hK hw.1 27 0 wM_a27 rfl hok.1 zd_LassoFinderModel_body_132 ?_
      have hok := hok.2
      refine lv_topi (fun z29 ez29 => ?_)
      have hok := hok z29 ez29
      refine lv_iconst (v := 1) hx hb zd_LassoFinderModel_body_133 (by decide) ?_
      refine lv_iconst (v := 2) hx hb zd_LassoFinderModel_body_134 (by decide) ?_
      refine z_calli (w1 := fun (u : zS) => wM ad K u.1 u.2.1 u.2.2.1 u.2.2.2) (wr := []) (z_runS (wc := (wM ad K I27 J27 B27 D27)) (As := [.int z29, .int 1, .int 2]) (rest := []) ⟨hx, hb, hml, hown, hts⟩ (w_LassoFinderModel_in l G K ad I27 J27 B27 D27 z29 1 2 _ H.size hok) zf_LassoFinderModel_in zm_293 ⟨Nat.le_of_ble_eq_true rfl, Nat.le_of_ble_eq_true rfl⟩ hK hw (List.range 58) wM_all wM_nd rfl hl.1 rfl (Nat.le_of_ble_eq_true rfl) zd_LassoFinderModel_body_135 ⟨Nat.le_of_ble_eq_true rfl, Nat.le_of_ble_eq_true rfl⟩) hw hA (List.range 58) [] wM_all rfl (by decide) (fun i hi => by cases hi) (fun r30 u H locs hok hw => ?_)
      obtain ⟨I30, J30, B30, D30⟩ := u
      dsimp only at hok
      have hw : zW G A s.heap (wM ad K I30 J30 B30 D30) H locs := hw
      refine lv_if_ne (tgt := 163) hx hb zd_LassoFinderModel_body_138 (by decide) (fun hc31 => ?_) (fun hc31 => ?_)
      · have hok := hok.1 hc31
        exact wJ_LassoFinderModel_body_163 G K ad  Post C K56 kh56 K110 kh110 x1 x2 I30 J30 B30 D30 ls H locs hok (lv_sub hl [0, 1, 2] rfl) hw
      · have hok := hok.2 hc31
        exact wJ_LassoFinderModel_body_141 G K ad  Post C K56 kh56 K110 kh110 x1 x2 I30 J30 B30 D30 ls H locs hok (lv_sub hl [0, 1, 2] rfl) hw
theorem wL_LassoFinderModel_body_110 {p : Program} {l : Launch} {e : Env} {s : State} {m : MethodId} {below : List Frame} {meth : Method} {c : Code} {A : Nat → Prop} (G : va_G) (K : Nat → ClassId) (ad : Nat → Nat) (Post : Int32 → (Nat → Int32) → (Nat → Int64) → (Nat → Nat → Int32) → (Nat → Nat → Int64) → Prop) (C : zCx p s m ([.ref (ad 0)] : List Value).toArray meth c A G K prog_14_method_24_code (some .boolean) 6 "LassoFinderModel") (K56 : Int32 → Int32 → (Nat → Int32) → (Nat → Int64) → (Nat → Nat → Int32) → (Nat → Nat → Int64) → Prop) (kh56 : ∀ (x1 : Int32) (x2 : Int32) (I : Nat → Int32) (J : Nat → Int64) (B : Nat → Nat → Int32) (D : Nat → Nat → Int64) (ls : Array Slot) (H : Heap) (locs : List Loc), K56 x1 x2 I J B D → lv_has ls 6 [(0, .ref (ad 0)), (1, .int x1), (2, .int x2)] → zW G A s.heap (wM ad K I J B D) H locs → W p l e { frames := 5, cells := 0, slots := 0, locals := 122 } s m ([.ref (ad 0)] : List Value).toArray below meth c H locs 0 0 (MQ below (va_Qi (fun (r : Int32) (u : zS) => Post r u.1 u.2.1 u.2.2.1 u.2.2.2) (fun u t => zPost G K A (wM ad K u.1 u.2.1 u.2.2.1 u.2.2.2) t) A) ([.ref (ad 0)] : List Value).toArray s 0 0 A) (F0 m 56 ls [])) : ∀ (n : Nat) (x1 : Int32) (x2 : Int32) (x4 : Int32) (I : Nat → Int32) (J : Nat → Int64) (B : Nat → Nat → Int32) (D : Nat → Nat → Int64) (ls : Array Slot) (H : Heap) (locs : List Loc), wl_LassoFinderModel_body_110  K56 Post n x1 x2 x4 I J B D → lv_has ls 6 [(0, .ref (ad 0)), (1, .int x1), (2, .int x2), (4, .int x4)] → zW G A s.heap (wM ad K I J B D) H locs → W p l e { frames := 5, cells := 0, slots := 0, locals := 122 } s m ([.ref (ad 0)] : List Value).toArray below meth c H locs 0 0 (MQ below (va_Qi (fun (r : Int32) (u : zS) => Post r u.1 u.2.1 u.2.2.1 u.2.2.2) (fun u t => zPost G K A (wM ad K u.1 u.2.1 u.2.2.1 u.2.2.2) t) A) ([.ref (ad 0)] : List Value).toArray s 0 0 A) (F0 m 110 ls []) := by
  intro n
  induction n with
  | zero => intro x1 x2 x4 I J B D ls H locs hok; exact hok.elim
  | succ n ih => exact wB_LassoFinderModel_body_110 G K ad  Post C K56 kh56 (wl_LassoFinderModel_body_110  K56 Post n) ih
set_option maxHeartbeats 8000000 in
set_option maxRecDepth 100000 in
theorem wB_LassoFinderModel_body_64 {p : Program} {l : Launch} {e : Env} {s : State} {m : MethodId} {below : List Frame} {meth : Method} {c : Code} {A : Nat → Prop} (G : va_G) (K : Nat → ClassId) (ad : Nat → Nat) (Post : Int32 → (Nat → Int32) → (Nat → Int64) → (Nat → Nat → Int32) → (Nat → Nat → Int64) → Prop) (C : zCx p s m ([.ref (ad 0)] : List Value).toArray meth c A G K prog_14_method_24_code (some .boolean) 6 "LassoFinderModel") (K56 : Int32 → Int32 → (Nat → Int32) → (Nat → Int64) → (Nat → Nat → Int32) → (Nat → Nat → Int64) → Prop) (kh56 : ∀ (x1 : Int32) (x2 : Int32) (I : Nat → Int32) (J : Nat → Int64) (B : Nat → Nat → Int32) (D : Nat → Nat → Int64) (ls : Array Slot) (H : Heap) (locs : List Loc), K56 x1 x2 I J B D → lv_has ls 6 [(0, .ref (ad 0)), (1, .int x1), (2, .int x2)] → zW G A s.heap (wM ad K I J B D) H locs → W p l e { frames := 5, cells := 0, slots := 0, locals := 122 } s m ([.ref (ad 0)] : List Value).toArray below meth c H locs 0 0 (MQ below (va_Qi (fun (r : Int32) (u : zS) => Post r u.1 u.2.1 u.2.2.1 u.2.2.2) (fun u t => zPost G K A (wM ad K u.1 u.2.1 u.2.2.1 u.2.2.2) t) A) ([.ref (ad 0)] : List Value).toArray s 0 0 A) (F0 m 56 ls [])) (K64 : Int32 → Int32 → (Nat → Int32) → (Nat → Int64) → (Nat → Nat → Int32) → (Nat → Nat → Int64) → Prop) (kh64 : ∀ (x1 : Int32) (x2 : Int32) (I : Nat → Int32) (J : Nat → Int64) (B : Nat → Nat → Int32) (D : Nat → Nat → Int64) (ls : Array Slot) (H : Heap) (locs : List Loc), K64 x1 x2 I J B D → lv_has ls 6 [(0, .ref (ad 0)), (1, .int x1), (2, .int x2)] → zW G A s.heap (wM ad K I J B D) H locs → W p l e { frames := 5, cells := 0, slots := 0, locals := 122 } s m ([.ref (ad 0)] : List Value).toArray below meth c H locs 0 0 (MQ below (va_Qi (fun (r : Int32) (u : zS) => Post r u.1 u.2.1 u.2.2.1 u.2.2.2) (fun u t => zPost G K A (wM ad K u.1 u.2.1 u.2.2.1 u.2.2.2) t) A) ([.ref (ad 0)] : List Value).toArray s 0 0 A) (F0 m 64 ls [])) : ∀ (x1 : Int32) (x2 : Int32) (I : Nat → Int32) (J : Nat → Int64) (B : Nat → Nat → Int32) (D : Nat → Nat → Int64) (ls : Array Slot) (H : Heap) (locs : List Loc), wb_LassoFinderModel_body_64  K64 K56 Post x1 x2 I J B D → lv_has ls 6 [(0, .ref (ad 0)), (1, .int x1), (2, .int x2)] → zW G A s.heap (wM ad K I J B D) H locs → W p l e { frames := 5, cells := 0, slots := 0, locals := 122 } s m ([.ref (ad 0)] : List Value).toArray below meth c H locs 0 0 (MQ below (va_Qi (fun (r : Int32) (u : zS) => Post r u.1 u.2.1 u.2.2.1 u.2.2.2) (fun u t => zPost G K A (wM ad K u.1 u.2.1 u.2.2.1 u.2.2.2) t) A) ([.ref (ad 0)] : List Value).toArray s 0 0 A) (F0 m 64 ls []) := by
  obtain ⟨hx, hb, hr, hml, hts, hown, hlocks, hA, hK⟩ := id C
  intro x1 x2 I J B D ls H locs hok hl hw
  unfold wb_LassoFinderModel_body_64 at hok
  refine lv_aload_n hx hb zd_LassoFinderModel_body_64 rfl (lv_at hl 0 rfl) ?_
  refine z_calli (w1 := fun (u : zS) => wM ad K u.1 u.2.1 u.2.2.1 u.2.2.2) (wr := []) (z_runV (q0 := 0) (wc := (wM ad K I J B D)) (As := []) (rest := []) ⟨hx, hb, hml, hown, hts⟩ (w_LassoFinderModel_here l G K ad I J B D  _ H.size hok) zf_LassoFinderModel_here zm_332 ⟨Nat.le_of_ble_eq_true rfl, Nat.le_of_ble_eq_true rfl⟩ hK hw (List.range 58) wM_all wM_nd wM_g0 rfl rfl hl.1 rfl (Nat.le_of_ble_eq_true rfl) zd_LassoFinderModel_body_65 ⟨Nat.le_of_ble_eq_true rfl, Nat.le_of_ble_eq_true rfl⟩) hw hA (List.range 58) [] wM_all rfl (by decide) (fun i hi => by cases hi) (fun r32 u H locs hok hw => ?_)
  obtain ⟨I32, J32, B32, D32⟩ := u
  dsimp only at hok
  have hw : zW G A s.heap (wM ad K I32 J32 B32 D32) H locs := hw
  refine lv_bipush (v := 58) hx hb zd_LassoFinderModel_body_68 (by decide) ?_
  refine lv_icmp_ne (tgt := 82) hx hb zd_LassoFinderModel_body_70 (by decide) (fun hc33 => ?_) (fun hc33 => ?_)
  · have hok := hok.1 hc33
    refine lv_aload_n hx hb zd_LassoFinderModel_body_82 rfl (lv_at hl 0 rfl) ?_
    refine z_get (v := .int (I32 12)) hx hb hts hown hK hw zZ12 0 wM_g0 38 (by decide) zm_338 rfl zd_LassoFinderModel_body_83 ?_
    refine lv_istore_n hx hb zd_LassoFinderModel_body_86 rfl hl (by decide) rfl (fun ls hl => ?_)
    have hl : lv_has ls 6 [(3, .int (I32 12)), (0, .ref (ad 0)), (1, .int x1), (2, .int x2)] := hl
    refine lv_aload_n hx hb zd_LassoFinderModel_body_87 rfl (lv_at hl 1 rfl) ?_
    refine z_calli (w1 := fun (u : zS) => wM ad K u.1 u.2.1 u.2.2.1 u.2.2.2) (wr := []) (z_runV (q0 := 0) (wc := (wM ad K I32 J32 B32 D32)) (As := []) (rest := []) ⟨hx, hb, hml, hown, hts⟩ (w_LassoFinderModel_statement l G K ad I32 J32 B32 D32  _ H.size hok) zf_LassoFinderModel_statement zm_339 ⟨Nat.le_of_ble_eq_true rfl, Nat.le_of_ble_eq_true rfl⟩ hK hw (List.range 58) wM_all wM_nd wM_g0 rfl rfl hl.1 rfl (Nat.le_of_ble_eq_true rfl) zd_LassoFinderModel_body_88 ⟨Nat.le_of_ble_eq_true rfl, Nat.le_of_ble_eq_true rfl⟩) hw hA (List.range 58) [] wM_all rfl (by decide) (fun i hi => by cases hi) (fun r34 u H locs hok hw => ?_)
    obtain ⟨I34, J34, B34, D34⟩ := u
    dsimp only at hok
    have hw : zW G A s.heap (wM ad K I34 J34 B34 D34) H locs := hw
    refine lv_if_ne (tgt := 96) hx hb zd_LassoFinderModel_body_91 (by decide) (fun hc35 => ?_) (fun hc35 => ?_)
    · have hok := hok.1 hc35
      refine lv_aload_n hx hb zd_LassoFinderModel_body_96 rfl (lv_at hl 1 rfl) ?_
      refine z_get (v := .int (I34 12)) hx hb hts hown hK hw zZ12 0 wM_g0 38 (by decide) zm_338 rfl zd_LassoFinderModel_body_97 ?_
      refine lv_iload_n hx hb zd_LassoFinderModel_body_100 rfl (lv_at hl 0 rfl) ?_
      refine lv_icmp_le (tgt := 107) hx hb zd_LassoFinderModel_body_101 (by decide) (fun hc36 => ?_) (fun hc36 => ?_)
      · have hok := hok.1 hc36
        refine lv_iconst (v := 1) hx hb zd_LassoFinderModel_body_107 (by decide) ?_
        refine lv_istore hx hb zd_LassoFinderModel_body_108 hl (by decide) rfl (fun ls hl => ?_)
        have hl : lv_has ls 6 [(4, .int 1), (3, .int (I32 12)), (0, .ref (ad 0)), (1, .int x1), (2, .int x2)] := hl
        obtain ⟨n9, hok⟩ := hok
        exact wL_LassoFinderModel_body_110 G K ad  Post C K56 kh56 n9 x1 x2 1 I34 J34 B34 D34 ls H locs hok (lv_sub hl [2, 3, 4, 0] rfl) hw
      · have hok := hok.2 hc36
        refine lv_goto (tgt := 320) hx hb zd_LassoFinderModel_body_104 (by decide) ?_
        exact wJ_LassoFinderModel_body_320 G K ad  Post C K56 kh56 x1 x2 I34 J34 B34 D34 ls H locs hok (lv_sub hl [1, 2, 3] rfl) hw
    · have hok := hok.2 hc35
      refine lv_iconst (v := 0) hx hb zd_LassoFinderModel_body_94 (by decide) ?_
      exact (z_iret (u := (I34, J34, B34, D34)) hx hb hr hlocks rfl hw (List.range 58) wM_all wM_nd hok (Nat.le_of_ble_eq_true rfl) (Nat.le_of_ble_eq_true rfl) zd_LassoFinderModel_body_95)
  · have hok := hok.2 hc33
    refine lv_aload_n hx hb zd_LassoFinderModel_body_73 rfl (lv_at hl 0 rfl) ?_
    refine z_calli (w1 := fun (u : zS) => wM ad K u.1 u.2.1 u.2.2.1 u.2.2.2) (wr := []) (z_runV (q0 := 0) (wc := (wM ad K I32 J32 B32 D32)) (As := []) (rest := []) ⟨hx, hb, hml, hown, hts⟩ (w_LassoFinderModel_label l G K ad I32 J32 B32 D32  _ H.size hok) zf_LassoFinderModel_label zm_337 ⟨Nat.le_of_ble_eq_true rfl, Nat.le_of_ble_eq_true rfl⟩ hK hw (List.range 58) wM_all wM_nd wM_g0 rfl rfl hl.1 rfl (Nat.le_of_ble_eq_true rfl) zd_LassoFinderModel_body_74 ⟨Nat.le_of_ble_eq_true rfl, Nat.le_of_ble_eq_true rfl⟩) hw hA (List.range 58) [] wM_all rfl (by decide) (fun i hi => by cases hi) (fun r37 u H locs hok hw => ?_)
    obtain ⟨I37, J37, B37, D37⟩ := u
    dsimp only at hok
    have hw : zW G A s.heap (wM ad K I37 J37 B37 D37) H locs := hw
    refine lv_if_ne (tgt := 64) hx hb zd_LassoFinderModel_body_77 (by decide) (fun hc38 => ?_) (fun hc38 => ?_)
    · have hok := hok.1 hc38
      exact kh64 x1 x2 I37 J37 B37 D37 ls H locs hok (lv_sub hl [0, 1, 2] rfl) hw
    · have hok := hok.2 hc38
      refine lv_iconst (v := 0) hx hb zd_LassoFinderModel_body_80 (by decide) ?_
      exact (z_iret (u := (I37, J37, B37, D37)) hx hb hr hlocks rfl hw (List.range 58) wM_all wM_nd hok (Nat.le_of_ble_eq_true rfl) (Nat.le_of_ble_eq_true rfl) zd_LassoFinderModel_body_81)
theorem wL_LassoFinderModel_body_64 {p : Program} {l : Launch} {e : Env} {s : State} {m : MethodId} {below : List Frame} {meth : Method} {c : Code} {A : Nat → Prop} (G : va_G) (K : Nat → ClassId) (ad : Nat → Nat) (Post : Int32 → (Nat → Int32) → (Nat → Int64) → (Nat → Nat → Int32) → (Nat → Nat → Int64) → Prop) (C : zCx p s m ([.ref (ad 0)] : List Value).toArray meth c A G K prog_14_method_24_code (some .boolean) 6 "LassoFinderModel") (K56 : Int32 → Int32 → (Nat → Int32) → (Nat → Int64) → (Nat → Nat → Int32) → (Nat → Nat → Int64) → Prop) (kh56 : ∀ (x1 : Int32) (x2 : Int32) (I : Nat → Int32) (J : Nat → Int64) (B : Nat → Nat → Int32) (D : Nat → Nat → Int64) (ls : Array Slot) (H : Heap) (locs : List Loc), K56 x1 x2 I J B D → lv_has ls 6 [(0, .ref (ad 0)), (1, .int x1), (2, .int x2)] → zW G A s.heap (wM ad K I J B D) H locs → W p l e { frames := 5, cells := 0, slots := 0, locals := 122 } s m ([.ref (ad 0)] : List Value).toArray below meth c H locs 0 0 (MQ below (va_Qi (fun (r : Int32) (u : zS) => Post r u.1 u.2.1 u.2.2.1 u.2.2.2) (fun u t => zPost G K A (wM ad K u.1 u.2.1 u.2.2.1 u.2.2.2) t) A) ([.ref (ad 0)] : List Value).toArray s 0 0 A) (F0 m 56 ls [])) : ∀ (n : Nat) (x1 : Int32) (x2 : Int32) (I : Nat → Int32) (J : Nat → Int64) (B : Nat → Nat → Int32) (D : Nat → Nat → Int64) (ls : Array Slot) (H : Heap) (locs : List Loc), wl_LassoFinderModel_body_64  K56 Post n x1 x2 I J B D → lv_has ls 6 [(0, .ref (ad 0)), (1, .int x1), (2, .int x2)] → zW G A s.heap (wM ad K I J B D) H locs → W p l e { frames := 5, cells := 0, slots := 0, locals := 122 } s m ([.ref (ad 0)] : List Value).toArray below meth c H locs 0 0 (MQ below (va_Qi (fun (r : Int32) (u : zS) => Post r u.1 u.2.1 u.2.2.1 u.2.2.2) (fun u t => zPost G K A (wM ad K u.1 u.2.1 u.2.2.1 u.2.2.2) t) A) ([.ref (ad 0)] : List Value).toArray s 0 0 A) (F0 m 64 ls []) := by
  intro n
  induction n with
  | zero => intro x1 x2 I J B D ls H locs hok; exact hok.elim
  | succ n ih => exact wB_LassoFinderModel_body_64 G K ad  Post C K56 kh56 (wl_LassoFinderModel_body_64  K56 Post n) ih
set_option maxHeartbeats 8000000 in
set_option maxRecDepth 100000 in
theorem wB_LassoFinderModel_body_56 {p : Program} {l : Launch} {e : Env} {s : State} {m : MethodId} {below : List Frame} {meth : Method} {c : Code} {A : Nat → Prop} (G : va_G) (K : Nat → ClassId) (ad : Nat → Nat) (Post : Int32 → (Nat → Int32) → (Nat → Int64) → (Nat → Nat → Int32) → (Nat → Nat → Int64) → Prop) (C : zCx p s m ([.ref (ad 0)] : List Value).toArray meth c A G K prog_14_method_24_code (some .boolean) 6 "LassoFinderModel") (K56 : Int32 → Int32 → (Nat → Int32) → (Nat → Int64) → (Nat → Nat → Int32) → (Nat → Nat → Int64) → Prop) (kh56 : ∀ (x1 : Int32) (x2 : Int32) (I : Nat → Int32) (J : Nat → Int64) (B : Nat → Nat → Int32) (D : Nat → Nat → Int64) (ls : Array Slot) (H : Heap) (locs : List Loc), K56 x1 x2 I J B D → lv_has ls 6 [(0, .ref (ad 0)), (1, .int x1), (2, .int x2)] → zW G A s.heap (wM ad K I J B D) H locs → W p l e { frames := 5, cells := 0, slots := 0, locals := 122 } s m ([.ref (ad 0)] : List Value).toArray below meth c H locs 0 0 (MQ below (va_Qi (fun (r : Int32) (u : zS) => Post r u.1 u.2.1 u.2.2.1 u.2.2.2) (fun u t => zPost G K A (wM ad K u.1 u.2.1 u.2.2.1 u.2.2.2) t) A) ([.ref (ad 0)] : List Value).toArray s 0 0 A) (F0 m 56 ls [])) : ∀ (x1 : Int32) (x2 : Int32) (I : Nat → Int32) (J : Nat → Int64) (B : Nat → Nat → Int32) (D : Nat → Nat → Int64) (ls : Array Slot) (H : Heap) (locs : List Loc), wb_LassoFinderModel_body_56  K56 Post x1 x2 I J B D → lv_has ls 6 [(0, .ref (ad 0)), (1, .int x1), (2, .int x2)] → zW G A s.heap (wM ad K I J B D) H locs → W p l e { frames := 5, cells := 0, slots := 0, locals := 122 } s m ([.ref (ad 0)] : List Value).toArray below meth c H locs 0 0 (MQ below (va_Qi (fun (r : Int32) (u : zS) => Post r u.1 u.2.1 u.2.2.1 u.2.2.2) (fun u t => zPost G K A (wM ad K u.1 u.2.1 u.2.2.1 u.2.2.2) t) A) ([.ref (ad 0)] : List Value).toArray s 0 0 A) (F0 m 56 ls []) := by
  obtain ⟨hx, hb, hr, hml, hts, hown, hlocks, hA, hK⟩ := id C
  intro x1 x2 I J B D ls H locs hok hl hw
  unfold wb_LassoFinderModel_body_56 at hok
  refine lv_iload_n hx hb zd_LassoFinderModel_body_56 rfl (lv_at hl 2 rfl) ?_
  refine lv_aload_n hx hb zd_LassoFinderModel_body_57 rfl (lv_at hl 0 rfl) ?_
  refine z_get (v := .int (I 1)) hx hb hts hown hK hw zZ12 0 wM_g0 1 (by decide) zm_294 rfl zd_LassoFinderModel_body_58 ?_
  refine lv_icmp_gt (tgt := 326) hx hb zd_LassoFinderModel_body_61 (by decide) (fun hc39 => ?_) (fun hc39 => ?_)
  · have hok := hok.1 hc39
    refine lv_aload_n hx hb zd_LassoFinderModel_body_326 rfl (lv_at hl 0 rfl) ?_
    refine z_calli (w1 := fun (u : zS) => wM ad K u.1 u.2.1 u.2.2.1 u.2.2.2) (wr := []) (z_runV (q0 := 0) (wc := (wM ad K I J B D)) (As := []) (rest := []) ⟨hx, hb, hml, hown, hts⟩ (w_LassoFinderModel_fail l G K ad I J B D  _ H.size hok) zf_LassoFinderModel_fail zm_334 ⟨Nat.le_of_ble_eq_true rfl, Nat.le_of_ble_eq_true rfl⟩ hK hw (List.range 58) wM_all wM_nd wM_g0 rfl rfl hl.1 rfl (Nat.le_of_ble_eq_true rfl) zd_LassoFinderModel_body_327 ⟨Nat.le_of_ble_eq_true rfl, Nat.le_of_ble_eq_true rfl⟩) hw hA (List.range 58) [] wM_all rfl (by decide) (fun i hi => by cases hi) (fun r40 u H locs hok hw => ?_)
    obtain ⟨I40, J40, B40, D40⟩ := u
    dsimp only at hok
    have hw : zW G A s.heap (wM ad K I40 J40 B40 D40) H locs := hw
    have hbo := hok.1
    have hok := hok.2
    exact (z_iret (u := (I40, J40, B40, D40)) hx hb hr hlocks (z_nar hbo) hw (List.range 58) wM_all wM_nd hok (Nat.le_of_ble_eq_true rfl) (Nat.le_of_ble_eq_true rfl) zd_LassoFinderModel_body_330)
  · have hok := hok.2 hc39
    obtain ⟨n9, hok⟩ := hok
    exact wL_LassoFinderModel_body_64 G K ad  Post C K56 kh56 n9 x1 x2 I J B D ls H locs hok (lv_sub hl [0, 1, 2] rfl) hw
theorem wL_LassoFinderModel_body_56 {p : Program} {l : Launch} {e : Env} {s : State} {m : MethodId} {below : List Frame} {meth : Method} {c : Code} {A : Nat → Prop} (G : va_G) (K : Nat → ClassId) (ad : Nat → Nat) (Post : Int32 → (Nat → Int32) → (Nat → Int64) → (Nat → Nat → Int32) → (Nat → Nat → Int64) → Prop) (C : zCx p s m ([.ref (ad 0)] : List Value).toArray meth c A G K prog_14_method_24_code (some .boolean) 6 "LassoFinderModel") : ∀ (n : Nat) (x1 : Int32) (x2 : Int32) (I : Nat → Int32) (J : Nat → Int64) (B : Nat → Nat → Int32) (D : Nat → Nat → Int64) (ls : Array Slot) (H : Heap) (locs : List Loc), wl_LassoFinderModel_body_56  Post n x1 x2 I J B D → lv_has ls 6 [(0, .ref (ad 0)), (1, .int x1), (2, .int x2)] → zW G A s.heap (wM ad K I J B D) H locs → W p l e { frames := 5, cells := 0, slots := 0, locals := 122 } s m ([.ref (ad 0)] : List Value).toArray below meth c H locs 0 0 (MQ below (va_Qi (fun (r : Int32) (u : zS) => Post r u.1 u.2.1 u.2.2.1 u.2.2.2) (fun u t => zPost G K A (wM ad K u.1 u.2.1 u.2.2.1 u.2.2.2) t) A) ([.ref (ad 0)] : List Value).toArray s 0 0 A) (F0 m 56 ls []) := by
  intro n
  induction n with
  | zero => intro x1 x2 I J B D ls H locs hok; exact hok.elim
  | succ n ih => exact wB_LassoFinderModel_body_56 G K ad  Post C (wl_LassoFinderModel_body_56  Post n) ih
set_option maxHeartbeats 8000000 in
set_option maxRecDepth 100000 in
theorem w_LassoFinderModel_body (l : Launch) (G : va_G) (K : Nat → ClassId) (ad : Nat → Nat) (I : Nat → Int32) (J : Nat → Int64) (B : Nat → Nat → Int32) (D : Nat → Nat → Int64) (Post : Int32 → (Nat → Int32) → (Nat → Int64) → (Nat → Nat → Int32) → (Nat → Nat → Int64) → Prop) (sz : Nat) (hok : wp_LassoFinderModel_body I J B D  Post) : Met l zy_LassoFinderModel_body (Cond.code zy_LassoFinderModel_body prog_14_method_24_code 6 (some .boolean) :: zTB) { frames := 5, cells := 0, slots := 0, locals := 122 } (va_Pc [.ref (ad 0)] (zPre G K (wM ad K I J B D) sz)) (va_Qi (fun (r : Int32) (u : zS) => Post r u.1 u.2.1 u.2.2.1 u.2.2.2) (fun u t => zPost G K (va_A (wM ad K I J B D) sz) (wM ad K u.1 u.2.1 u.2.2.1 u.2.2.2) t) (va_A (wM ad K I J B D) sz)) 0 0 (va_A (wM ad K I J B D) sz) := by
  refine zMet (y := zy_LassoFinderModel_body) (av := [.ref (ad 0)]) (maxL := 6) (cc := prog_14_method_24_code) (ret := (some .boolean)) (W0 := (wM ad K I J B D)) (sz := sz) (G := G) (K := K) (wt := zTB) (mc := 0) (ms := 0) (Qf := fun A => va_Qi (fun (r : Int32) (u : zS) => Post r u.1 u.2.1 u.2.2.1 u.2.2.2) (fun u t => zPost G K A (wM ad K u.1 u.2.1 u.2.2.1 u.2.2.2) t) A) (by decide) (Nat.le_of_ble_eq_true rfl) ?_
  intro p e s m below meth c ls A hx hb hr hml hts hown hlocks hin hA hK H locs hw hsz hl
  clear hsz
  have hown : s.vm.findClass "LassoFinderModel" = some m.cls := hown
  have C : zCx p s m ([.ref (ad 0)] : List Value).toArray meth c A G K prog_14_method_24_code (some .boolean) 6 "LassoFinderModel" := ⟨hx, hb, hr, hml, hts, hown, hlocks, hA, hK⟩
  have hl : lv_has ls 6 [(0, .ref (ad 0))] := hl
  have hw : zW G A s.heap (wM ad K I J B D) H locs := hw
  unfold wp_LassoFinderModel_body at hok
  refine lv_aload_n hx hb zd_LassoFinderModel_body_0 rfl (lv_at hl 0 rfl) ?_
  refine z_get (v := .int (I 8)) hx hb hts hown hK hw zZ12 0 wM_g0 13 (by decide) zm_307 rfl zd_LassoFinderModel_body_1 ?_
  refine lv_istore_n hx hb zd_LassoFinderModel_body_4 rfl hl (by decide) rfl (fun ls hl => ?_)
  have hl : lv_has ls 6 [(1, .int (I 8)), (0, .ref (ad 0))] := hl
  refine lv_aload_n hx hb zd_LassoFinderModel_body_5 rfl (lv_at hl 1 rfl) ?_
  refine lv_iconst (v := 0) hx hb zd_LassoFinderModel_body_6 (by decide) ?_
  refine z_put (v := .int 0) hx hb hts hown hK hw zZ12 0 wM_g0 38 (by decide) zm_338 rfl rfl rfl (Nat.le_of_ble_eq_true rfl) zd_LassoFinderModel_body_7 (fun H locs hw => ?_)
  have hw := wM_sI12 hw
  refine lv_aload_n hx hb zd_LassoFinderModel_body_10 rfl (lv_at hl 1 rfl) ?_
  refine z_get (v := .ref (ad 27)) hx hb hts hown hK hw zZ12 0 wM_g0 39 (by decide) zm_261 rfl zd_LassoFinderModel_body_11 ?_
  refine lv_iconst (v := 0) hx hb zd_LassoFinderModel_body_14 (by decide) ?_
  refine lv_iconst (v := 0) hx hb zd_LassoFinderModel_body_15 (by decide) ?_
  refine va_iast (f := (B 25)) hx hb hK hw.1 hw.2.1 hw.2.2 27 0 wM_a27 rfl hok.1 zd_LassoFinderModel_body_16 (fun H locs w91 w92 w93 => ?_)
  have hok := hok.2
  have hw := wM_t27 ⟨w91, w92, w93⟩
  refine lv_aload_n hx hb zd_LassoFinderModel_body_17 rfl (lv_at hl 1 rfl) ?_
  refine z_get (v := .ref (ad 28)) hx hb hts hown hK hw zZ12 0 wM_g0 40 (by decide) zm_262 rfl zd_LassoFinderModel_body_18 ?_
  refine lv_iconst (v := 0) hx hb zd_LassoFinderModel_body_21 (by decide) ?_
  refine lv_iconst (v := (-1)) hx hb zd_LassoFinderModel_body_22 (by decide) ?_
  refine va_iast (f := (B 26)) hx hb hK hw.1 hw.2.1 hw.2.2 28 0 wM_a28 rfl hok.1 zd_LassoFinderModel_body_23 (fun H locs w91 w92 w93 => ?_)
  have hok := hok.2
  have hw := wM_t28 ⟨w91, w92, w93⟩
  refine lv_aload_n hx hb zd_LassoFinderModel_body_24 rfl (lv_at hl 1 rfl) ?_
  refine z_get (v := .ref (ad 29)) hx hb hts hown hK hw zZ12 0 wM_g0 41 (by decide) zm_263 rfl zd_LassoFinderModel_body_25 ?_
  refine lv_iconst (v := 0) hx hb zd_LassoFinderModel_body_28 (by decide) ?_
  refine lv_iconst (v := (-1)) hx hb zd_LassoFinderModel_body_29 (by decide) ?_
  refine va_iast (f := (B 27)) hx hb hK hw.1 hw.2.1 hw.2.2 29 0 wM_a29 rfl hok.1 zd_LassoFinderModel_body_30 (fun H locs w91 w92 w93 => ?_)
  have hok := hok.2
  have hw := wM_t29 ⟨w91, w92, w93⟩
  refine lv_aload_n hx hb zd_LassoFinderModel_body_31 rfl (lv_at hl 1 rfl) ?_
  refine z_get (v := .ref (ad 21)) hx hb hts hown hK hw zZ12 0 wM_g0 31 (by decide) zm_255 rfl zd_LassoFinderModel_body_32 ?_
  refine lv_aload_n hx hb zd_LassoFinderModel_body_35 rfl (lv_at hl 1 rfl) ?_
  refine z_get (v := .int (I 10)) hx hb hts hown hK hw zZ12 0 wM_g0 30 (by decide) zm_310 rfl zd_LassoFinderModel_body_36 ?_
  refine lv_iconst (v := 0) hx hb zd_LassoFinderModel_body_39 (by decide) ?_
  refine va_iast (f := (B 20)) hx hb hK hw.1 hw.2.1 hw.2.2 21 0 wM_a21 rfl hok.1 zd_LassoFinderModel_body_40 (fun H locs w91 w92 w93 => ?_)
  have hok := hok.2
  have hw := wM_t21 ⟨w91, w92, w93⟩
  refine lv_aload_n hx hb zd_LassoFinderModel_body_41 rfl (lv_at hl 1 rfl) ?_
  refine z_get (v := .ref (ad 22)) hx hb hts hown hK hw zZ12 0 wM_g0 32 (by decide) zm_256 rfl zd_LassoFinderModel_body_42 ?_
  refine lv_aload_n hx hb zd_LassoFinderModel_body_45 rfl (lv_at hl 1 rfl) ?_
  refine z_get (v := .int (I 10)) hx hb hts hown hK hw zZ12 0 wM_g0 30 (by decide) zm_310 rfl zd_LassoFinderModel_body_46 ?_
  refine lv_aload_n hx hb zd_LassoFinderModel_body_49 rfl (lv_at hl 1 rfl) ?_
  refine z_get (v := .int (I 8)) hx hb hts hown hK hw zZ12 0 wM_g0 13 (by decide) zm_307 rfl zd_LassoFinderModel_body_50 ?_
  refine va_iast (f := (B 21)) hx hb hK hw.1 hw.2.1 hw.2.2 22 0 wM_a22 rfl hok.1 zd_LassoFinderModel_body_53 (fun H locs w91 w92 w93 => ?_)
  have hok := hok.2
  have hw := wM_t22 ⟨w91, w92, w93⟩
  refine lv_iconst (v := 0) hx hb zd_LassoFinderModel_body_54 (by decide) ?_
  refine lv_istore_n hx hb zd_LassoFinderModel_body_55 rfl hl (by decide) rfl (fun ls hl => ?_)
  have hl : lv_has ls 6 [(2, .int 0), (1, .int (I 8)), (0, .ref (ad 0))] := hl
  obtain ⟨n9, hok⟩ := hok
  exact wL_LassoFinderModel_body_56 G K ad  Post C n9 (I 8) 0 (upd I 12 0) J (va_up (va_up (va_up (va_up (va_up B 25 (upd (B 25) (0 : Int32).toNatClampNeg 0)) 26 (upd (B 26) (0 : Int32).toNatClampNeg (-1))) 27 (upd (B 27) (0 : Int32).toNatClampNeg (-1))) 20 (upd (B 20) (I 10).toNatClampNeg 0)) 21 (upd (B 21) (I 10).toNatClampNeg (I 8))) D ls H locs hok (lv_sub hl [2, 1, 0] rfl) hw
