abbrev zy_LassoFinderModel_wholeFormula : MethodName := ⟨"LassoFinderModel", "wholeFormula", "()Z"⟩
abbrev zy_LassoFinderModel_atom : MethodName := ⟨"LassoFinderModel", "atom", "()Z"⟩
abbrev zy_LassoFinderModel_put : MethodName := ⟨"LassoFinderModel", "put", "(I)V"⟩
abbrev zy_LassoFinderModel_putAll : MethodName := ⟨"LassoFinderModel", "putAll", "(I)V"⟩
theorem zm_279 : Cond.fieldLink "LassoFinderModel" 148 "LassoFinderModel" "kept" "[I" ∈ zTB := z_in (zt_6 _ (List.mem_of_getElem? (i := 160) rfl)) rfl
theorem zm_280 : Cond.fieldLink "LassoFinderModel" 151 "LassoFinderModel" "turn" "[I" ∈ zTB := z_in (zt_6 _ (List.mem_of_getElem? (i := 162) rfl)) rfl
theorem zm_353 : Cond.fieldLink "LassoFinderModel" 388 "LassoFinderModel" "atoms" "I" ∈ zTB := z_in (zt_6 _ (List.mem_of_getElem? (i := 163) rfl)) rfl
theorem zm_356 : Cond.fieldLink "LassoFinderModel" 376 "LassoFinderModel" "turns" "I" ∈ zTB := z_in (zt_6 _ (List.mem_of_getElem? (i := 158) rfl)) rfl
theorem zm_358 : Cond.methodLink "LassoFinderModel" 403 ⟨"LassoFinderModel", "putAll", "(I)V"⟩ ∈ zTB := z_in (zt_8 _ (List.mem_of_getElem? (i := 51) rfl)) rfl
theorem zm_359 : Cond.methodLink "LassoFinderModel" 397 ⟨"LassoFinderModel", "push", "(I)Z"⟩ ∈ zTB := z_in (zt_8 _ (List.mem_of_getElem? (i := 32) rfl)) rfl
theorem zm_360 : Cond.methodLink "LassoFinderModel" 400 ⟨"LassoFinderModel", "atom", "()Z"⟩ ∈ zTB := z_in (zt_8 _ (List.mem_of_getElem? (i := 43) rfl)) rfl
theorem zm_364 : Cond.methodLink "LassoFinderModel" 385 ⟨"LassoFinderModel", "put", "(I)V"⟩ ∈ zTB := z_in (zt_8 _ (List.mem_of_getElem? (i := 47) rfl)) rfl
theorem zm_456 : Cond.code ⟨"LassoFinderModel", "push", "(I)Z"⟩ prog_14_method_46_code 2 (some .boolean) ∈ zTB := z_in (zt_8 _ (List.mem_of_getElem? (i := 35) rfl)) rfl
theorem zm_457 : Cond.instanceMethod ⟨"LassoFinderModel", "push", "(I)Z"⟩ ∈ zTB := z_in (zt_8 _ (List.mem_of_getElem? (i := 34) rfl)) rfl
theorem zm_458 : Cond.code ⟨"LassoFinderModel", "put", "(I)V"⟩ prog_14_method_43_code 2 none ∈ zTB := z_in (zt_8 _ (List.mem_of_getElem? (i := 50) rfl)) rfl
theorem zm_459 : Cond.instanceMethod ⟨"LassoFinderModel", "put", "(I)V"⟩ ∈ zTB := z_in (zt_8 _ (List.mem_of_getElem? (i := 49) rfl)) rfl
theorem zm_460 : Cond.code ⟨"LassoFinderModel", "putAll", "(I)V"⟩ prog_14_method_44_code 2 none ∈ zTB := z_in (zt_8 _ (List.mem_of_getElem? (i := 54) rfl)) rfl
theorem zm_461 : Cond.instanceMethod ⟨"LassoFinderModel", "putAll", "(I)V"⟩ ∈ zTB := z_in (zt_8 _ (List.mem_of_getElem? (i := 53) rfl)) rfl
theorem zm_462 : Cond.code ⟨"LassoFinderModel", "atom", "()Z"⟩ prog_14_method_45_code 4 (some .boolean) ∈ zTB := z_in (zt_8 _ (List.mem_of_getElem? (i := 46) rfl)) rfl
theorem zm_463 : Cond.instanceMethod ⟨"LassoFinderModel", "atom", "()Z"⟩ ∈ zTB := z_in (zt_8 _ (List.mem_of_getElem? (i := 45) rfl)) rfl
theorem zf_LassoFinderModel_push : zFaceV zy_LassoFinderModel_push prog_14_method_46_code 2 (some .boolean) 1 := ⟨zm_457, (z_in (zp_7 _ (List.mem_of_getElem? (i := 10) rfl)) rfl), zm_25, zm_456, by decide +kernel, by decide +kernel, by decide +kernel⟩
theorem zf_LassoFinderModel_put : zFaceV zy_LassoFinderModel_put prog_14_method_43_code 2 none 1 := ⟨zm_459, (z_in (zp_7 _ (List.mem_of_getElem? (i := 13) rfl)) rfl), zm_25, zm_458, by decide +kernel, by decide +kernel, by decide +kernel⟩
theorem zf_LassoFinderModel_putAll : zFaceV zy_LassoFinderModel_putAll prog_14_method_44_code 2 none 1 := ⟨zm_461, (z_in (zp_7 _ (List.mem_of_getElem? (i := 14) rfl)) rfl), zm_25, zm_460, by decide +kernel, by decide +kernel, by decide +kernel⟩
theorem zf_LassoFinderModel_atom : zFaceV zy_LassoFinderModel_atom prog_14_method_45_code 4 (some .boolean) 0 := ⟨zm_463, (z_in (zp_7 _ (List.mem_of_getElem? (i := 12) rfl)) rfl), zm_25, zm_462, by decide +kernel, by decide +kernel, by decide +kernel⟩
theorem zd_LassoFinderModel_atom_0 : decode prog_14_method_45_code 0 = .ok (.aload_n 0, 1) := by decide +kernel
theorem zd_LassoFinderModel_atom_1 : decode prog_14_method_45_code 1 = .ok (.getfield 388, 3) := by decide +kernel
theorem zd_LassoFinderModel_atom_4 : decode prog_14_method_45_code 4 = .ok (.bipush 8, 2) := by decide +kernel
theorem zd_LassoFinderModel_atom_6 : decode prog_14_method_45_code 6 = .ok (.if_icmp .ne 8, 3) := by decide +kernel
theorem zd_LassoFinderModel_atom_9 : decode prog_14_method_45_code 9 = .ok (.aload_n 0, 1) := by decide +kernel
theorem zd_LassoFinderModel_atom_10 : decode prog_14_method_45_code 10 = .ok (.invokevirtual 213, 3) := by decide +kernel
theorem zd_LassoFinderModel_atom_13 : decode prog_14_method_45_code 13 = .ok (.ireturn, 1) := by decide +kernel
theorem zd_LassoFinderModel_atom_14 : decode prog_14_method_45_code 14 = .ok (.aload_n 0, 1) := by decide +kernel
theorem zd_LassoFinderModel_atom_15 : decode prog_14_method_45_code 15 = .ok (.invokevirtual 209, 3) := by decide +kernel
theorem zd_LassoFinderModel_atom_18 : decode prog_14_method_45_code 18 = .ok (.bipush 123, 2) := by decide +kernel
theorem zd_LassoFinderModel_atom_20 : decode prog_14_method_45_code 20 = .ok (.if_icmp .ne 133, 3) := by decide +kernel
theorem zd_LassoFinderModel_atom_23 : decode prog_14_method_45_code 23 = .ok (.aload_n 0, 1) := by decide +kernel
theorem zd_LassoFinderModel_atom_24 : decode prog_14_method_45_code 24 = .ok (.dup, 1) := by decide +kernel
theorem zd_LassoFinderModel_atom_25 : decode prog_14_method_45_code 25 = .ok (.getfield 203, 3) := by decide +kernel
theorem zd_LassoFinderModel_atom_28 : decode prog_14_method_45_code 28 = .ok (.iconst 1, 1) := by decide +kernel
theorem zd_LassoFinderModel_atom_29 : decode prog_14_method_45_code 29 = .ok (.iadd, 1) := by decide +kernel
theorem zd_LassoFinderModel_atom_30 : decode prog_14_method_45_code 30 = .ok (.putfield 203, 3) := by decide +kernel
theorem zd_LassoFinderModel_atom_33 : decode prog_14_method_45_code 33 = .ok (.aload_n 0, 1) := by decide +kernel
theorem zd_LassoFinderModel_atom_34 : decode prog_14_method_45_code 34 = .ok (.getfield 220, 3) := by decide +kernel
theorem zd_LassoFinderModel_atom_37 : decode prog_14_method_45_code 37 = .ok (.istore_n 1, 1) := by decide +kernel
theorem zd_LassoFinderModel_atom_38 : decode prog_14_method_45_code 38 = .ok (.aload_n 0, 1) := by decide +kernel
theorem zd_LassoFinderModel_atom_39 : decode prog_14_method_45_code 39 = .ok (.getfield 154, 3) := by decide +kernel
theorem zd_LassoFinderModel_atom_42 : decode prog_14_method_45_code 42 = .ok (.aload_n 0, 1) := by decide +kernel
theorem zd_LassoFinderModel_atom_43 : decode prog_14_method_45_code 43 = .ok (.getfield 388, 3) := by decide +kernel
theorem zd_LassoFinderModel_atom_46 : decode prog_14_method_45_code 46 = .ok (.iconst (-1), 1) := by decide +kernel
theorem zd_LassoFinderModel_atom_47 : decode prog_14_method_45_code 47 = .ok (.iastore, 1) := by decide +kernel
theorem zd_LassoFinderModel_atom_48 : decode prog_14_method_45_code 48 = .ok (.aload_n 0, 1) := by decide +kernel
theorem zd_LassoFinderModel_atom_49 : decode prog_14_method_45_code 49 = .ok (.getfield 160, 3) := by decide +kernel
theorem zd_LassoFinderModel_atom_52 : decode prog_14_method_45_code 52 = .ok (.aload_n 0, 1) := by decide +kernel
theorem zd_LassoFinderModel_atom_53 : decode prog_14_method_45_code 53 = .ok (.getfield 388, 3) := by decide +kernel
theorem zd_LassoFinderModel_atom_56 : decode prog_14_method_45_code 56 = .ok (.aload_n 0, 1) := by decide +kernel
theorem zd_LassoFinderModel_atom_57 : decode prog_14_method_45_code 57 = .ok (.getfield 217, 3) := by decide +kernel
theorem zd_LassoFinderModel_atom_60 : decode prog_14_method_45_code 60 = .ok (.iastore, 1) := by decide +kernel
theorem zd_LassoFinderModel_atom_61 : decode prog_14_method_45_code 61 = .ok (.iconst 0, 1) := by decide +kernel
theorem zd_LassoFinderModel_atom_62 : decode prog_14_method_45_code 62 = .ok (.istore_n 2, 1) := by decide +kernel
theorem zd_LassoFinderModel_atom_63 : decode prog_14_method_45_code 63 = .ok (.iload_n 2, 1) := by decide +kernel
theorem zd_LassoFinderModel_atom_64 : decode prog_14_method_45_code 64 = .ok (.iload_n 1, 1) := by decide +kernel
theorem zd_LassoFinderModel_atom_65 : decode prog_14_method_45_code 65 = .ok (.if_icmp .ge 21, 3) := by decide +kernel
theorem zd_LassoFinderModel_atom_68 : decode prog_14_method_45_code 68 = .ok (.aload_n 0, 1) := by decide +kernel
theorem zd_LassoFinderModel_atom_69 : decode prog_14_method_45_code 69 = .ok (.getfield 148, 3) := by decide +kernel
theorem zd_LassoFinderModel_atom_72 : decode prog_14_method_45_code 72 = .ok (.iload_n 2, 1) := by decide +kernel
theorem zd_LassoFinderModel_atom_73 : decode prog_14_method_45_code 73 = .ok (.aload_n 0, 1) := by decide +kernel
theorem zd_LassoFinderModel_atom_74 : decode prog_14_method_45_code 74 = .ok (.getfield 103, 3) := by decide +kernel
theorem zd_LassoFinderModel_atom_77 : decode prog_14_method_45_code 77 = .ok (.iload_n 2, 1) := by decide +kernel
theorem zd_LassoFinderModel_atom_78 : decode prog_14_method_45_code 78 = .ok (.iaload, 1) := by decide +kernel
theorem zd_LassoFinderModel_atom_79 : decode prog_14_method_45_code 79 = .ok (.iastore, 1) := by decide +kernel
theorem zd_LassoFinderModel_atom_80 : decode prog_14_method_45_code 80 = .ok (.iinc 2 1, 3) := by decide +kernel
theorem zd_LassoFinderModel_atom_83 : decode prog_14_method_45_code 83 = .ok (.goto (-20), 3) := by decide +kernel
theorem zd_LassoFinderModel_atom_86 : decode prog_14_method_45_code 86 = .ok (.aload_n 0, 1) := by decide +kernel
theorem zd_LassoFinderModel_atom_87 : decode prog_14_method_45_code 87 = .ok (.iconst 0, 1) := by decide +kernel
theorem zd_LassoFinderModel_atom_88 : decode prog_14_method_45_code 88 = .ok (.invokevirtual 274, 3) := by decide +kernel
theorem zd_LassoFinderModel_atom_91 : decode prog_14_method_45_code 91 = .ok (.istore_n 2, 1) := by decide +kernel
theorem zd_LassoFinderModel_atom_92 : decode prog_14_method_45_code 92 = .ok (.iconst 0, 1) := by decide +kernel
theorem zd_LassoFinderModel_atom_93 : decode prog_14_method_45_code 93 = .ok (.istore_n 3, 1) := by decide +kernel
theorem zd_LassoFinderModel_atom_94 : decode prog_14_method_45_code 94 = .ok (.iload_n 3, 1) := by decide +kernel
theorem zd_LassoFinderModel_atom_95 : decode prog_14_method_45_code 95 = .ok (.iload_n 1, 1) := by decide +kernel
theorem zd_LassoFinderModel_atom_96 : decode prog_14_method_45_code 96 = .ok (.if_icmp .ge 21, 3) := by decide +kernel
theorem zd_LassoFinderModel_atom_99 : decode prog_14_method_45_code 99 = .ok (.aload_n 0, 1) := by decide +kernel
theorem zd_LassoFinderModel_atom_100 : decode prog_14_method_45_code 100 = .ok (.getfield 103, 3) := by decide +kernel
theorem zd_LassoFinderModel_atom_103 : decode prog_14_method_45_code 103 = .ok (.iload_n 3, 1) := by decide +kernel
theorem zd_LassoFinderModel_atom_104 : decode prog_14_method_45_code 104 = .ok (.aload_n 0, 1) := by decide +kernel
theorem zd_LassoFinderModel_atom_105 : decode prog_14_method_45_code 105 = .ok (.getfield 148, 3) := by decide +kernel
theorem zd_LassoFinderModel_atom_108 : decode prog_14_method_45_code 108 = .ok (.iload_n 3, 1) := by decide +kernel
theorem zd_LassoFinderModel_atom_109 : decode prog_14_method_45_code 109 = .ok (.iaload, 1) := by decide +kernel
theorem zd_LassoFinderModel_atom_110 : decode prog_14_method_45_code 110 = .ok (.iastore, 1) := by decide +kernel
theorem zd_LassoFinderModel_atom_111 : decode prog_14_method_45_code 111 = .ok (.iinc 3 1, 3) := by decide +kernel
theorem zd_LassoFinderModel_atom_114 : decode prog_14_method_45_code 114 = .ok (.goto (-20), 3) := by decide +kernel
theorem zd_LassoFinderModel_atom_117 : decode prog_14_method_45_code 117 = .ok (.aload_n 0, 1) := by decide +kernel
theorem zd_LassoFinderModel_atom_118 : decode prog_14_method_45_code 118 = .ok (.iload_n 1, 1) := by decide +kernel
theorem zd_LassoFinderModel_atom_119 : decode prog_14_method_45_code 119 = .ok (.putfield 220, 3) := by decide +kernel
theorem zd_LassoFinderModel_atom_122 : decode prog_14_method_45_code 122 = .ok (.aload_n 0, 1) := by decide +kernel
theorem zd_LassoFinderModel_atom_123 : decode prog_14_method_45_code 123 = .ok (.getfield 163, 3) := by decide +kernel
theorem zd_LassoFinderModel_atom_126 : decode prog_14_method_45_code 126 = .ok (.aload_n 0, 1) := by decide +kernel
theorem zd_LassoFinderModel_atom_127 : decode prog_14_method_45_code 127 = .ok (.getfield 388, 3) := by decide +kernel
theorem zd_LassoFinderModel_atom_130 : decode prog_14_method_45_code 130 = .ok (.aload_n 0, 1) := by decide +kernel
theorem zd_LassoFinderModel_atom_131 : decode prog_14_method_45_code 131 = .ok (.getfield 217, 3) := by decide +kernel
theorem zd_LassoFinderModel_atom_134 : decode prog_14_method_45_code 134 = .ok (.iastore, 1) := by decide +kernel
theorem zd_LassoFinderModel_atom_135 : decode prog_14_method_45_code 135 = .ok (.iload_n 2, 1) := by decide +kernel
theorem zd_LassoFinderModel_atom_136 : decode prog_14_method_45_code 136 = .ok (.ifCond .eq 12, 3) := by decide +kernel
theorem zd_LassoFinderModel_atom_139 : decode prog_14_method_45_code 139 = .ok (.aload_n 0, 1) := by decide +kernel
theorem zd_LassoFinderModel_atom_140 : decode prog_14_method_45_code 140 = .ok (.bipush 125, 2) := by decide +kernel
theorem zd_LassoFinderModel_atom_142 : decode prog_14_method_45_code 142 = .ok (.invokevirtual 244, 3) := by decide +kernel
theorem zd_LassoFinderModel_atom_145 : decode prog_14_method_45_code 145 = .ok (.ifCond .ne 5, 3) := by decide +kernel
theorem zd_LassoFinderModel_atom_148 : decode prog_14_method_45_code 148 = .ok (.iconst 0, 1) := by decide +kernel
theorem zd_LassoFinderModel_atom_149 : decode prog_14_method_45_code 149 = .ok (.ireturn, 1) := by decide +kernel
theorem zd_LassoFinderModel_atom_150 : decode prog_14_method_45_code 150 = .ok (.goto 124, 3) := by decide +kernel
theorem zd_LassoFinderModel_atom_153 : decode prog_14_method_45_code 153 = .ok (.aload_n 0, 1) := by decide +kernel
theorem zd_LassoFinderModel_atom_154 : decode prog_14_method_45_code 154 = .ok (.dup, 1) := by decide +kernel
theorem zd_LassoFinderModel_atom_155 : decode prog_14_method_45_code 155 = .ok (.getfield 203, 3) := by decide +kernel
theorem zd_LassoFinderModel_atom_158 : decode prog_14_method_45_code 158 = .ok (.iconst 1, 1) := by decide +kernel
theorem zd_LassoFinderModel_atom_159 : decode prog_14_method_45_code 159 = .ok (.iadd, 1) := by decide +kernel
theorem zd_LassoFinderModel_atom_160 : decode prog_14_method_45_code 160 = .ok (.putfield 203, 3) := by decide +kernel
theorem zd_LassoFinderModel_atom_163 : decode prog_14_method_45_code 163 = .ok (.aload_n 0, 1) := by decide +kernel
theorem zd_LassoFinderModel_atom_164 : decode prog_14_method_45_code 164 = .ok (.bipush 48, 2) := by decide +kernel
theorem zd_LassoFinderModel_atom_166 : decode prog_14_method_45_code 166 = .ok (.aload_n 0, 1) := by decide +kernel
theorem zd_LassoFinderModel_atom_167 : decode prog_14_method_45_code 167 = .ok (.getfield 254, 3) := by decide +kernel
theorem zd_LassoFinderModel_atom_170 : decode prog_14_method_45_code 170 = .ok (.invokevirtual 231, 3) := by decide +kernel
theorem zd_LassoFinderModel_atom_173 : decode prog_14_method_45_code 173 = .ok (.istore_n 1, 1) := by decide +kernel
theorem zd_LassoFinderModel_atom_174 : decode prog_14_method_45_code 174 = .ok (.iload_n 1, 1) := by decide +kernel
theorem zd_LassoFinderModel_atom_175 : decode prog_14_method_45_code 175 = .ok (.ifCond .ge 8, 3) := by decide +kernel
theorem zd_LassoFinderModel_atom_178 : decode prog_14_method_45_code 178 = .ok (.aload_n 0, 1) := by decide +kernel
theorem zd_LassoFinderModel_atom_179 : decode prog_14_method_45_code 179 = .ok (.invokevirtual 213, 3) := by decide +kernel
theorem zd_LassoFinderModel_atom_182 : decode prog_14_method_45_code 182 = .ok (.ireturn, 1) := by decide +kernel
theorem zd_LassoFinderModel_atom_183 : decode prog_14_method_45_code 183 = .ok (.aload_n 0, 1) := by decide +kernel
theorem zd_LassoFinderModel_atom_184 : decode prog_14_method_45_code 184 = .ok (.dup, 1) := by decide +kernel
theorem zd_LassoFinderModel_atom_185 : decode prog_14_method_45_code 185 = .ok (.getfield 203, 3) := by decide +kernel
theorem zd_LassoFinderModel_atom_188 : decode prog_14_method_45_code 188 = .ok (.iconst 1, 1) := by decide +kernel
theorem zd_LassoFinderModel_atom_189 : decode prog_14_method_45_code 189 = .ok (.iadd, 1) := by decide +kernel
theorem zd_LassoFinderModel_atom_190 : decode prog_14_method_45_code 190 = .ok (.putfield 203, 3) := by decide +kernel
theorem zd_LassoFinderModel_atom_193 : decode prog_14_method_45_code 193 = .ok (.aload_n 0, 1) := by decide +kernel
theorem zd_LassoFinderModel_atom_194 : decode prog_14_method_45_code 194 = .ok (.bipush 65, 2) := by decide +kernel
theorem zd_LassoFinderModel_atom_196 : decode prog_14_method_45_code 196 = .ok (.bipush 8, 2) := by decide +kernel
theorem zd_LassoFinderModel_atom_198 : decode prog_14_method_45_code 198 = .ok (.invokevirtual 231, 3) := by decide +kernel
theorem zd_LassoFinderModel_atom_201 : decode prog_14_method_45_code 201 = .ok (.istore_n 2, 1) := by decide +kernel
theorem zd_LassoFinderModel_atom_202 : decode prog_14_method_45_code 202 = .ok (.iload_n 2, 1) := by decide +kernel
theorem zd_LassoFinderModel_atom_203 : decode prog_14_method_45_code 203 = .ok (.ifCond .lt 17, 3) := by decide +kernel
theorem zd_LassoFinderModel_atom_206 : decode prog_14_method_45_code 206 = .ok (.aload_n 0, 1) := by decide +kernel
theorem zd_LassoFinderModel_atom_207 : decode prog_14_method_45_code 207 = .ok (.getfield 81, 3) := by decide +kernel
theorem zd_LassoFinderModel_atom_210 : decode prog_14_method_45_code 210 = .ok (.bipush 8, 2) := by decide +kernel
theorem zd_LassoFinderModel_atom_212 : decode prog_14_method_45_code 212 = .ok (.iload_n 1, 1) := by decide +kernel
theorem zd_LassoFinderModel_atom_213 : decode prog_14_method_45_code 213 = .ok (.imul, 1) := by decide +kernel
theorem zd_LassoFinderModel_atom_214 : decode prog_14_method_45_code 214 = .ok (.iload_n 2, 1) := by decide +kernel
theorem zd_LassoFinderModel_atom_215 : decode prog_14_method_45_code 215 = .ok (.iadd, 1) := by decide +kernel
theorem zd_LassoFinderModel_atom_216 : decode prog_14_method_45_code 216 = .ok (.iaload, 1) := by decide +kernel
theorem zd_LassoFinderModel_atom_217 : decode prog_14_method_45_code 217 = .ok (.ifCond .ge 8, 3) := by decide +kernel
theorem zd_LassoFinderModel_atom_220 : decode prog_14_method_45_code 220 = .ok (.aload_n 0, 1) := by decide +kernel
theorem zd_LassoFinderModel_atom_221 : decode prog_14_method_45_code 221 = .ok (.invokevirtual 213, 3) := by decide +kernel
theorem zd_LassoFinderModel_atom_224 : decode prog_14_method_45_code 224 = .ok (.ireturn, 1) := by decide +kernel
theorem zd_LassoFinderModel_atom_225 : decode prog_14_method_45_code 225 = .ok (.aload_n 0, 1) := by decide +kernel
theorem zd_LassoFinderModel_atom_226 : decode prog_14_method_45_code 226 = .ok (.getfield 154, 3) := by decide +kernel
theorem zd_LassoFinderModel_atom_229 : decode prog_14_method_45_code 229 = .ok (.aload_n 0, 1) := by decide +kernel
theorem zd_LassoFinderModel_atom_230 : decode prog_14_method_45_code 230 = .ok (.getfield 388, 3) := by decide +kernel
theorem zd_LassoFinderModel_atom_233 : decode prog_14_method_45_code 233 = .ok (.iload_n 1, 1) := by decide +kernel
theorem zd_LassoFinderModel_atom_234 : decode prog_14_method_45_code 234 = .ok (.iastore, 1) := by decide +kernel
theorem zd_LassoFinderModel_atom_235 : decode prog_14_method_45_code 235 = .ok (.aload_n 0, 1) := by decide +kernel
theorem zd_LassoFinderModel_atom_236 : decode prog_14_method_45_code 236 = .ok (.getfield 157, 3) := by decide +kernel
theorem zd_LassoFinderModel_atom_239 : decode prog_14_method_45_code 239 = .ok (.aload_n 0, 1) := by decide +kernel
theorem zd_LassoFinderModel_atom_240 : decode prog_14_method_45_code 240 = .ok (.getfield 388, 3) := by decide +kernel
theorem zd_LassoFinderModel_atom_243 : decode prog_14_method_45_code 243 = .ok (.aload_n 0, 1) := by decide +kernel
theorem zd_LassoFinderModel_atom_244 : decode prog_14_method_45_code 244 = .ok (.iload_n 1, 1) := by decide +kernel
theorem zd_LassoFinderModel_atom_245 : decode prog_14_method_45_code 245 = .ok (.aload_n 0, 1) := by decide +kernel
theorem zd_LassoFinderModel_atom_246 : decode prog_14_method_45_code 246 = .ok (.aload_n 0, 1) := by decide +kernel
theorem zd_LassoFinderModel_atom_247 : decode prog_14_method_45_code 247 = .ok (.getfield 81, 3) := by decide +kernel
theorem zd_LassoFinderModel_atom_250 : decode prog_14_method_45_code 250 = .ok (.bipush 8, 2) := by decide +kernel
theorem zd_LassoFinderModel_atom_252 : decode prog_14_method_45_code 252 = .ok (.iload_n 1, 1) := by decide +kernel
theorem zd_LassoFinderModel_atom_253 : decode prog_14_method_45_code 253 = .ok (.imul, 1) := by decide +kernel
theorem zd_LassoFinderModel_atom_254 : decode prog_14_method_45_code 254 = .ok (.iload_n 2, 1) := by decide +kernel
theorem zd_LassoFinderModel_atom_255 : decode prog_14_method_45_code 255 = .ok (.iadd, 1) := by decide +kernel
theorem zd_LassoFinderModel_atom_256 : decode prog_14_method_45_code 256 = .ok (.iaload, 1) := by decide +kernel
theorem zd_LassoFinderModel_atom_257 : decode prog_14_method_45_code 257 = .ok (.invokevirtual 280, 3) := by decide +kernel
theorem zd_LassoFinderModel_atom_260 : decode prog_14_method_45_code 260 = .ok (.invokevirtual 298, 3) := by decide +kernel
theorem zd_LassoFinderModel_atom_263 : decode prog_14_method_45_code 263 = .ok (.iastore, 1) := by decide +kernel
theorem zd_LassoFinderModel_atom_264 : decode prog_14_method_45_code 264 = .ok (.aload_n 0, 1) := by decide +kernel
theorem zd_LassoFinderModel_atom_265 : decode prog_14_method_45_code 265 = .ok (.dup, 1) := by decide +kernel
theorem zd_LassoFinderModel_atom_266 : decode prog_14_method_45_code 266 = .ok (.getfield 203, 3) := by decide +kernel
theorem zd_LassoFinderModel_atom_269 : decode prog_14_method_45_code 269 = .ok (.iconst 1, 1) := by decide +kernel
theorem zd_LassoFinderModel_atom_270 : decode prog_14_method_45_code 270 = .ok (.iadd, 1) := by decide +kernel
theorem zd_LassoFinderModel_atom_271 : decode prog_14_method_45_code 271 = .ok (.putfield 203, 3) := by decide +kernel
theorem zd_LassoFinderModel_atom_274 : decode prog_14_method_45_code 274 = .ok (.aload_n 0, 1) := by decide +kernel
theorem zd_LassoFinderModel_atom_275 : decode prog_14_method_45_code 275 = .ok (.aload_n 0, 1) := by decide +kernel
theorem zd_LassoFinderModel_atom_276 : decode prog_14_method_45_code 276 = .ok (.getfield 388, 3) := by decide +kernel
theorem zd_LassoFinderModel_atom_279 : decode prog_14_method_45_code 279 = .ok (.invokevirtual 385, 3) := by decide +kernel
theorem zd_LassoFinderModel_atom_282 : decode prog_14_method_45_code 282 = .ok (.aload_n 0, 1) := by decide +kernel
theorem zd_LassoFinderModel_atom_283 : decode prog_14_method_45_code 283 = .ok (.dup, 1) := by decide +kernel
theorem zd_LassoFinderModel_atom_284 : decode prog_14_method_45_code 284 = .ok (.getfield 388, 3) := by decide +kernel
theorem zd_LassoFinderModel_atom_287 : decode prog_14_method_45_code 287 = .ok (.iconst 1, 1) := by decide +kernel
theorem zd_LassoFinderModel_atom_288 : decode prog_14_method_45_code 288 = .ok (.iadd, 1) := by decide +kernel
theorem zd_LassoFinderModel_atom_289 : decode prog_14_method_45_code 289 = .ok (.putfield 388, 3) := by decide +kernel
theorem zd_LassoFinderModel_atom_292 : decode prog_14_method_45_code 292 = .ok (.iconst 1, 1) := by decide +kernel
theorem zd_LassoFinderModel_atom_293 : decode prog_14_method_45_code 293 = .ok (.ireturn, 1) := by decide +kernel
theorem zd_LassoFinderModel_put_0 : decode prog_14_method_43_code 0 = .ok (.iload_n 1, 1) := by decide +kernel
theorem zd_LassoFinderModel_put_1 : decode prog_14_method_43_code 1 = .ok (.bipush 12, 2) := by decide +kernel
theorem zd_LassoFinderModel_put_3 : decode prog_14_method_43_code 3 = .ok (.if_icmp .lt 32, 3) := by decide +kernel
theorem zd_LassoFinderModel_put_6 : decode prog_14_method_43_code 6 = .ok (.iload_n 1, 1) := by decide +kernel
theorem zd_LassoFinderModel_put_7 : decode prog_14_method_43_code 7 = .ok (.bipush 15, 2) := by decide +kernel
theorem zd_LassoFinderModel_put_9 : decode prog_14_method_43_code 9 = .ok (.if_icmp .gt 26, 3) := by decide +kernel
theorem zd_LassoFinderModel_put_12 : decode prog_14_method_43_code 12 = .ok (.aload_n 0, 1) := by decide +kernel
theorem zd_LassoFinderModel_put_13 : decode prog_14_method_43_code 13 = .ok (.getfield 151, 3) := by decide +kernel
theorem zd_LassoFinderModel_put_16 : decode prog_14_method_43_code 16 = .ok (.aload_n 0, 1) := by decide +kernel
theorem zd_LassoFinderModel_put_17 : decode prog_14_method_43_code 17 = .ok (.getfield 376, 3) := by decide +kernel
theorem zd_LassoFinderModel_put_20 : decode prog_14_method_43_code 20 = .ok (.aload_n 0, 1) := by decide +kernel
theorem zd_LassoFinderModel_put_21 : decode prog_14_method_43_code 21 = .ok (.getfield 379, 3) := by decide +kernel
theorem zd_LassoFinderModel_put_24 : decode prog_14_method_43_code 24 = .ok (.iastore, 1) := by decide +kernel
theorem zd_LassoFinderModel_put_25 : decode prog_14_method_43_code 25 = .ok (.aload_n 0, 1) := by decide +kernel
theorem zd_LassoFinderModel_put_26 : decode prog_14_method_43_code 26 = .ok (.dup, 1) := by decide +kernel
theorem zd_LassoFinderModel_put_27 : decode prog_14_method_43_code 27 = .ok (.getfield 376, 3) := by decide +kernel
theorem zd_LassoFinderModel_put_30 : decode prog_14_method_43_code 30 = .ok (.iconst 1, 1) := by decide +kernel
theorem zd_LassoFinderModel_put_31 : decode prog_14_method_43_code 31 = .ok (.iadd, 1) := by decide +kernel
theorem zd_LassoFinderModel_put_32 : decode prog_14_method_43_code 32 = .ok (.putfield 376, 3) := by decide +kernel
theorem zd_LassoFinderModel_put_35 : decode prog_14_method_43_code 35 = .ok (.aload_n 0, 1) := by decide +kernel
theorem zd_LassoFinderModel_put_36 : decode prog_14_method_43_code 36 = .ok (.getfield 145, 3) := by decide +kernel
theorem zd_LassoFinderModel_put_39 : decode prog_14_method_43_code 39 = .ok (.aload_n 0, 1) := by decide +kernel
theorem zd_LassoFinderModel_put_40 : decode prog_14_method_43_code 40 = .ok (.getfield 379, 3) := by decide +kernel
theorem zd_LassoFinderModel_put_43 : decode prog_14_method_43_code 43 = .ok (.iload_n 1, 1) := by decide +kernel
theorem zd_LassoFinderModel_put_44 : decode prog_14_method_43_code 44 = .ok (.iastore, 1) := by decide +kernel
theorem zd_LassoFinderModel_put_45 : decode prog_14_method_43_code 45 = .ok (.aload_n 0, 1) := by decide +kernel
theorem zd_LassoFinderModel_put_46 : decode prog_14_method_43_code 46 = .ok (.dup, 1) := by decide +kernel
theorem zd_LassoFinderModel_put_47 : decode prog_14_method_43_code 47 = .ok (.getfield 379, 3) := by decide +kernel
theorem zd_LassoFinderModel_put_50 : decode prog_14_method_43_code 50 = .ok (.iconst 1, 1) := by decide +kernel
theorem zd_LassoFinderModel_put_51 : decode prog_14_method_43_code 51 = .ok (.iadd, 1) := by decide +kernel
theorem zd_LassoFinderModel_put_52 : decode prog_14_method_43_code 52 = .ok (.putfield 379, 3) := by decide +kernel
theorem zd_LassoFinderModel_put_55 : decode prog_14_method_43_code 55 = .ok (.return_, 1) := by decide +kernel
theorem zd_LassoFinderModel_putAll_0 : decode prog_14_method_44_code 0 = .ok (.aload_n 0, 1) := by decide +kernel
theorem zd_LassoFinderModel_putAll_1 : decode prog_14_method_44_code 1 = .ok (.getfield 220, 3) := by decide +kernel
theorem zd_LassoFinderModel_putAll_4 : decode prog_14_method_44_code 4 = .ok (.ifCond .le 47, 3) := by decide +kernel
theorem zd_LassoFinderModel_putAll_7 : decode prog_14_method_44_code 7 = .ok (.aload_n 0, 1) := by decide +kernel
theorem zd_LassoFinderModel_putAll_8 : decode prog_14_method_44_code 8 = .ok (.getfield 103, 3) := by decide +kernel
theorem zd_LassoFinderModel_putAll_11 : decode prog_14_method_44_code 11 = .ok (.aload_n 0, 1) := by decide +kernel
theorem zd_LassoFinderModel_putAll_12 : decode prog_14_method_44_code 12 = .ok (.getfield 220, 3) := by decide +kernel
theorem zd_LassoFinderModel_putAll_15 : decode prog_14_method_44_code 15 = .ok (.iconst 1, 1) := by decide +kernel
theorem zd_LassoFinderModel_putAll_16 : decode prog_14_method_44_code 16 = .ok (.isub, 1) := by decide +kernel
theorem zd_LassoFinderModel_putAll_17 : decode prog_14_method_44_code 17 = .ok (.iaload, 1) := by decide +kernel
theorem zd_LassoFinderModel_putAll_18 : decode prog_14_method_44_code 18 = .ok (.invokestatic 382, 3) := by decide +kernel
theorem zd_LassoFinderModel_putAll_21 : decode prog_14_method_44_code 21 = .ok (.iload_n 1, 1) := by decide +kernel
theorem zd_LassoFinderModel_putAll_22 : decode prog_14_method_44_code 22 = .ok (.if_icmp .lt 29, 3) := by decide +kernel
theorem zd_LassoFinderModel_putAll_25 : decode prog_14_method_44_code 25 = .ok (.aload_n 0, 1) := by decide +kernel
theorem zd_LassoFinderModel_putAll_26 : decode prog_14_method_44_code 26 = .ok (.dup, 1) := by decide +kernel
theorem zd_LassoFinderModel_putAll_27 : decode prog_14_method_44_code 27 = .ok (.getfield 220, 3) := by decide +kernel
theorem zd_LassoFinderModel_putAll_30 : decode prog_14_method_44_code 30 = .ok (.iconst 1, 1) := by decide +kernel
theorem zd_LassoFinderModel_putAll_31 : decode prog_14_method_44_code 31 = .ok (.isub, 1) := by decide +kernel
theorem zd_LassoFinderModel_putAll_32 : decode prog_14_method_44_code 32 = .ok (.putfield 220, 3) := by decide +kernel
theorem zd_LassoFinderModel_putAll_35 : decode prog_14_method_44_code 35 = .ok (.aload_n 0, 1) := by decide +kernel
theorem zd_LassoFinderModel_putAll_36 : decode prog_14_method_44_code 36 = .ok (.aload_n 0, 1) := by decide +kernel
theorem zd_LassoFinderModel_putAll_37 : decode prog_14_method_44_code 37 = .ok (.getfield 103, 3) := by decide +kernel
theorem zd_LassoFinderModel_putAll_40 : decode prog_14_method_44_code 40 = .ok (.aload_n 0, 1) := by decide +kernel
theorem zd_LassoFinderModel_putAll_41 : decode prog_14_method_44_code 41 = .ok (.getfield 220, 3) := by decide +kernel
theorem zd_LassoFinderModel_putAll_44 : decode prog_14_method_44_code 44 = .ok (.iaload, 1) := by decide +kernel
theorem zd_LassoFinderModel_putAll_45 : decode prog_14_method_44_code 45 = .ok (.invokevirtual 385, 3) := by decide +kernel
theorem zd_LassoFinderModel_putAll_48 : decode prog_14_method_44_code 48 = .ok (.goto (-48), 3) := by decide +kernel
theorem zd_LassoFinderModel_putAll_51 : decode prog_14_method_44_code 51 = .ok (.return_, 1) := by decide +kernel
theorem zd_LassoFinderModel_wholeFormula_0 : decode prog_14_method_47_code 0 = .ok (.aload_n 0, 1) := by decide +kernel
theorem zd_LassoFinderModel_wholeFormula_1 : decode prog_14_method_47_code 1 = .ok (.iconst 0, 1) := by decide +kernel
theorem zd_LassoFinderModel_wholeFormula_2 : decode prog_14_method_47_code 2 = .ok (.putfield 203, 3) := by decide +kernel
theorem zd_LassoFinderModel_wholeFormula_5 : decode prog_14_method_47_code 5 = .ok (.aload_n 0, 1) := by decide +kernel
theorem zd_LassoFinderModel_wholeFormula_6 : decode prog_14_method_47_code 6 = .ok (.iconst (-1), 1) := by decide +kernel
theorem zd_LassoFinderModel_wholeFormula_7 : decode prog_14_method_47_code 7 = .ok (.putfield 206, 3) := by decide +kernel
theorem zd_LassoFinderModel_wholeFormula_10 : decode prog_14_method_47_code 10 = .ok (.aload_n 0, 1) := by decide +kernel
theorem zd_LassoFinderModel_wholeFormula_11 : decode prog_14_method_47_code 11 = .ok (.aload_n 0, 1) := by decide +kernel
theorem zd_LassoFinderModel_wholeFormula_12 : decode prog_14_method_47_code 12 = .ok (.getfield 367, 3) := by decide +kernel
theorem zd_LassoFinderModel_wholeFormula_15 : decode prog_14_method_47_code 15 = .ok (.putfield 217, 3) := by decide +kernel
theorem zd_LassoFinderModel_wholeFormula_18 : decode prog_14_method_47_code 18 = .ok (.aload_n 0, 1) := by decide +kernel
theorem zd_LassoFinderModel_wholeFormula_19 : decode prog_14_method_47_code 19 = .ok (.iconst 0, 1) := by decide +kernel
theorem zd_LassoFinderModel_wholeFormula_20 : decode prog_14_method_47_code 20 = .ok (.putfield 379, 3) := by decide +kernel
theorem zd_LassoFinderModel_wholeFormula_23 : decode prog_14_method_47_code 23 = .ok (.aload_n 0, 1) := by decide +kernel
theorem zd_LassoFinderModel_wholeFormula_24 : decode prog_14_method_47_code 24 = .ok (.iconst 0, 1) := by decide +kernel
theorem zd_LassoFinderModel_wholeFormula_25 : decode prog_14_method_47_code 25 = .ok (.putfield 376, 3) := by decide +kernel
theorem zd_LassoFinderModel_wholeFormula_28 : decode prog_14_method_47_code 28 = .ok (.aload_n 0, 1) := by decide +kernel
theorem zd_LassoFinderModel_wholeFormula_29 : decode prog_14_method_47_code 29 = .ok (.iconst 0, 1) := by decide +kernel
theorem zd_LassoFinderModel_wholeFormula_30 : decode prog_14_method_47_code 30 = .ok (.putfield 388, 3) := by decide +kernel
theorem zd_LassoFinderModel_wholeFormula_33 : decode prog_14_method_47_code 33 = .ok (.aload_n 0, 1) := by decide +kernel
theorem zd_LassoFinderModel_wholeFormula_34 : decode prog_14_method_47_code 34 = .ok (.iconst 0, 1) := by decide +kernel
theorem zd_LassoFinderModel_wholeFormula_35 : decode prog_14_method_47_code 35 = .ok (.putfield 391, 3) := by decide +kernel
theorem zd_LassoFinderModel_wholeFormula_38 : decode prog_14_method_47_code 38 = .ok (.aload_n 0, 1) := by decide +kernel
theorem zd_LassoFinderModel_wholeFormula_39 : decode prog_14_method_47_code 39 = .ok (.iconst 0, 1) := by decide +kernel
theorem zd_LassoFinderModel_wholeFormula_40 : decode prog_14_method_47_code 40 = .ok (.putfield 220, 3) := by decide +kernel
theorem zd_LassoFinderModel_wholeFormula_43 : decode prog_14_method_47_code 43 = .ok (.iconst 0, 1) := by decide +kernel
theorem zd_LassoFinderModel_wholeFormula_44 : decode prog_14_method_47_code 44 = .ok (.istore_n 1, 1) := by decide +kernel
theorem zd_LassoFinderModel_wholeFormula_45 : decode prog_14_method_47_code 45 = .ok (.iconst 1, 1) := by decide +kernel
theorem zd_LassoFinderModel_wholeFormula_46 : decode prog_14_method_47_code 46 = .ok (.istore_n 2, 1) := by decide +kernel
theorem zd_LassoFinderModel_wholeFormula_47 : decode prog_14_method_47_code 47 = .ok (.iload_n 2, 1) := by decide +kernel
theorem zd_LassoFinderModel_wholeFormula_48 : decode prog_14_method_47_code 48 = .ok (.ifCond .ne 14, 3) := by decide +kernel
theorem zd_LassoFinderModel_wholeFormula_51 : decode prog_14_method_47_code 51 = .ok (.aload_n 0, 1) := by decide +kernel
theorem zd_LassoFinderModel_wholeFormula_52 : decode prog_14_method_47_code 52 = .ok (.getfield 203, 3) := by decide +kernel
theorem zd_LassoFinderModel_wholeFormula_55 : decode prog_14_method_47_code 55 = .ok (.aload_n 0, 1) := by decide +kernel
theorem zd_LassoFinderModel_wholeFormula_56 : decode prog_14_method_47_code 56 = .ok (.getfield 200, 3) := by decide +kernel
theorem zd_LassoFinderModel_wholeFormula_59 : decode prog_14_method_47_code 59 = .ok (.if_icmp .ge 293, 3) := by decide +kernel
theorem zd_LassoFinderModel_wholeFormula_62 : decode prog_14_method_47_code 62 = .ok (.aload_n 0, 1) := by decide +kernel
theorem zd_LassoFinderModel_wholeFormula_63 : decode prog_14_method_47_code 63 = .ok (.invokevirtual 209, 3) := by decide +kernel
theorem zd_LassoFinderModel_wholeFormula_66 : decode prog_14_method_47_code 66 = .ok (.istore_n 3, 1) := by decide +kernel
theorem zd_LassoFinderModel_wholeFormula_67 : decode prog_14_method_47_code 67 = .ok (.iload_n 2, 1) := by decide +kernel
theorem zd_LassoFinderModel_wholeFormula_68 : decode prog_14_method_47_code 68 = .ok (.ifCond .eq 120, 3) := by decide +kernel
theorem zd_LassoFinderModel_wholeFormula_71 : decode prog_14_method_47_code 71 = .ok (.iload_n 3, 1) := by decide +kernel
theorem zd_LassoFinderModel_wholeFormula_72 : decode prog_14_method_47_code 72 = .ok (.bipush 33, 2) := by decide +kernel
theorem zd_LassoFinderModel_wholeFormula_74 : decode prog_14_method_47_code 74 = .ok (.if_icmp .ne 8, 3) := by decide +kernel
theorem zd_LassoFinderModel_wholeFormula_77 : decode prog_14_method_47_code 77 = .ok (.bipush 8, 2) := by decide +kernel
theorem zd_LassoFinderModel_wholeFormula_79 : decode prog_14_method_47_code 79 = .ok (.goto 37, 3) := by decide +kernel
theorem zd_LassoFinderModel_wholeFormula_82 : decode prog_14_method_47_code 82 = .ok (.iload_n 3, 1) := by decide +kernel
theorem zd_LassoFinderModel_wholeFormula_83 : decode prog_14_method_47_code 83 = .ok (.bipush 71, 2) := by decide +kernel
theorem zd_LassoFinderModel_wholeFormula_85 : decode prog_14_method_47_code 85 = .ok (.if_icmp .ne 8, 3) := by decide +kernel
theorem zd_LassoFinderModel_wholeFormula_88 : decode prog_14_method_47_code 88 = .ok (.bipush 14, 2) := by decide +kernel
theorem zd_LassoFinderModel_wholeFormula_90 : decode prog_14_method_47_code 90 = .ok (.goto 26, 3) := by decide +kernel
theorem zd_LassoFinderModel_wholeFormula_93 : decode prog_14_method_47_code 93 = .ok (.iload_n 3, 1) := by decide +kernel
theorem zd_LassoFinderModel_wholeFormula_94 : decode prog_14_method_47_code 94 = .ok (.bipush 70, 2) := by decide +kernel
theorem zd_LassoFinderModel_wholeFormula_96 : decode prog_14_method_47_code 96 = .ok (.if_icmp .ne 8, 3) := by decide +kernel
theorem zd_LassoFinderModel_wholeFormula_99 : decode prog_14_method_47_code 99 = .ok (.bipush 15, 2) := by decide +kernel
theorem zd_LassoFinderModel_wholeFormula_101 : decode prog_14_method_47_code 101 = .ok (.goto 15, 3) := by decide +kernel
theorem zd_LassoFinderModel_wholeFormula_104 : decode prog_14_method_47_code 104 = .ok (.iload_n 3, 1) := by decide +kernel
theorem zd_LassoFinderModel_wholeFormula_105 : decode prog_14_method_47_code 105 = .ok (.bipush 40, 2) := by decide +kernel
theorem zd_LassoFinderModel_wholeFormula_107 : decode prog_14_method_47_code 107 = .ok (.if_icmp .ne 8, 3) := by decide +kernel
theorem zd_LassoFinderModel_wholeFormula_110 : decode prog_14_method_47_code 110 = .ok (.bipush 16, 2) := by decide +kernel
theorem zd_LassoFinderModel_wholeFormula_112 : decode prog_14_method_47_code 112 = .ok (.goto 4, 3) := by decide +kernel
theorem zd_LassoFinderModel_wholeFormula_115 : decode prog_14_method_47_code 115 = .ok (.iconst (-1), 1) := by decide +kernel
theorem zd_LassoFinderModel_wholeFormula_116 : decode prog_14_method_47_code 116 = .ok (.istore 4, 2) := by decide +kernel
theorem zd_LassoFinderModel_wholeFormula_118 : decode prog_14_method_47_code 118 = .ok (.iload 4, 2) := by decide +kernel
theorem zd_LassoFinderModel_wholeFormula_120 : decode prog_14_method_47_code 120 = .ok (.ifCond .lt 32, 3) := by decide +kernel
theorem zd_LassoFinderModel_wholeFormula_123 : decode prog_14_method_47_code 123 = .ok (.aload_n 0, 1) := by decide +kernel
theorem zd_LassoFinderModel_wholeFormula_124 : decode prog_14_method_47_code 124 = .ok (.iload 4, 2) := by decide +kernel
theorem zd_LassoFinderModel_wholeFormula_126 : decode prog_14_method_47_code 126 = .ok (.invokevirtual 397, 3) := by decide +kernel
theorem zd_LassoFinderModel_wholeFormula_129 : decode prog_14_method_47_code 129 = .ok (.ifCond .ne 5, 3) := by decide +kernel
theorem zd_LassoFinderModel_wholeFormula_132 : decode prog_14_method_47_code 132 = .ok (.iconst 0, 1) := by decide +kernel
theorem zd_LassoFinderModel_wholeFormula_133 : decode prog_14_method_47_code 133 = .ok (.ireturn, 1) := by decide +kernel
theorem zd_LassoFinderModel_wholeFormula_134 : decode prog_14_method_47_code 134 = .ok (.iload_n 1, 1) := by decide +kernel
theorem zd_LassoFinderModel_wholeFormula_135 : decode prog_14_method_47_code 135 = .ok (.iload 4, 2) := by decide +kernel
theorem zd_LassoFinderModel_wholeFormula_137 : decode prog_14_method_47_code 137 = .ok (.bipush 16, 2) := by decide +kernel
theorem zd_LassoFinderModel_wholeFormula_139 : decode prog_14_method_47_code 139 = .ok (.if_icmp .ne 7, 3) := by decide +kernel
theorem zd_LassoFinderModel_wholeFormula_142 : decode prog_14_method_47_code 142 = .ok (.iconst 1, 1) := by decide +kernel
theorem zd_LassoFinderModel_wholeFormula_143 : decode prog_14_method_47_code 143 = .ok (.goto 4, 3) := by decide +kernel
theorem zd_LassoFinderModel_wholeFormula_146 : decode prog_14_method_47_code 146 = .ok (.iconst 0, 1) := by decide +kernel
theorem zd_LassoFinderModel_wholeFormula_147 : decode prog_14_method_47_code 147 = .ok (.iadd, 1) := by decide +kernel
theorem zd_LassoFinderModel_wholeFormula_148 : decode prog_14_method_47_code 148 = .ok (.istore_n 1, 1) := by decide +kernel
theorem zd_LassoFinderModel_wholeFormula_149 : decode prog_14_method_47_code 149 = .ok (.goto 36, 3) := by decide +kernel
theorem zd_LassoFinderModel_wholeFormula_152 : decode prog_14_method_47_code 152 = .ok (.iload_n 3, 1) := by decide +kernel
theorem zd_LassoFinderModel_wholeFormula_153 : decode prog_14_method_47_code 153 = .ok (.bipush 123, 2) := by decide +kernel
theorem zd_LassoFinderModel_wholeFormula_155 : decode prog_14_method_47_code 155 = .ok (.if_icmp .eq 14, 3) := by decide +kernel
theorem zd_LassoFinderModel_wholeFormula_158 : decode prog_14_method_47_code 158 = .ok (.iload_n 3, 1) := by decide +kernel
theorem zd_LassoFinderModel_wholeFormula_159 : decode prog_14_method_47_code 159 = .ok (.bipush 64, 2) := by decide +kernel
theorem zd_LassoFinderModel_wholeFormula_161 : decode prog_14_method_47_code 161 = .ok (.if_icmp .eq 8, 3) := by decide +kernel
theorem zd_LassoFinderModel_wholeFormula_164 : decode prog_14_method_47_code 164 = .ok (.aload_n 0, 1) := by decide +kernel
theorem zd_LassoFinderModel_wholeFormula_165 : decode prog_14_method_47_code 165 = .ok (.invokevirtual 213, 3) := by decide +kernel
theorem zd_LassoFinderModel_wholeFormula_168 : decode prog_14_method_47_code 168 = .ok (.ireturn, 1) := by decide +kernel
theorem zd_LassoFinderModel_wholeFormula_169 : decode prog_14_method_47_code 169 = .ok (.aload_n 0, 1) := by decide +kernel
theorem zd_LassoFinderModel_wholeFormula_170 : decode prog_14_method_47_code 170 = .ok (.invokevirtual 400, 3) := by decide +kernel
theorem zd_LassoFinderModel_wholeFormula_173 : decode prog_14_method_47_code 173 = .ok (.ifCond .ne 5, 3) := by decide +kernel
theorem zd_LassoFinderModel_wholeFormula_176 : decode prog_14_method_47_code 176 = .ok (.iconst 0, 1) := by decide +kernel
theorem zd_LassoFinderModel_wholeFormula_177 : decode prog_14_method_47_code 177 = .ok (.ireturn, 1) := by decide +kernel
theorem zd_LassoFinderModel_wholeFormula_178 : decode prog_14_method_47_code 178 = .ok (.aload_n 0, 1) := by decide +kernel
theorem zd_LassoFinderModel_wholeFormula_179 : decode prog_14_method_47_code 179 = .ok (.iconst 5, 1) := by decide +kernel
theorem zd_LassoFinderModel_wholeFormula_180 : decode prog_14_method_47_code 180 = .ok (.invokevirtual 403, 3) := by decide +kernel
theorem zd_LassoFinderModel_wholeFormula_183 : decode prog_14_method_47_code 183 = .ok (.iconst 0, 1) := by decide +kernel
theorem zd_LassoFinderModel_wholeFormula_184 : decode prog_14_method_47_code 184 = .ok (.istore_n 2, 1) := by decide +kernel
theorem zd_LassoFinderModel_wholeFormula_185 : decode prog_14_method_47_code 185 = .ok (.goto 164, 3) := by decide +kernel
theorem zd_LassoFinderModel_wholeFormula_188 : decode prog_14_method_47_code 188 = .ok (.iload_n 3, 1) := by decide +kernel
theorem zd_LassoFinderModel_wholeFormula_189 : decode prog_14_method_47_code 189 = .ok (.bipush 41, 2) := by decide +kernel
theorem zd_LassoFinderModel_wholeFormula_191 : decode prog_14_method_47_code 191 = .ok (.if_icmp .ne 48, 3) := by decide +kernel
theorem zd_LassoFinderModel_wholeFormula_194 : decode prog_14_method_47_code 194 = .ok (.iload_n 1, 1) := by decide +kernel
theorem zd_LassoFinderModel_wholeFormula_195 : decode prog_14_method_47_code 195 = .ok (.ifCond .ne 8, 3) := by decide +kernel
theorem zd_LassoFinderModel_wholeFormula_198 : decode prog_14_method_47_code 198 = .ok (.aload_n 0, 1) := by decide +kernel
theorem zd_LassoFinderModel_wholeFormula_199 : decode prog_14_method_47_code 199 = .ok (.invokevirtual 213, 3) := by decide +kernel
theorem zd_LassoFinderModel_wholeFormula_202 : decode prog_14_method_47_code 202 = .ok (.ireturn, 1) := by decide +kernel
theorem zd_LassoFinderModel_wholeFormula_203 : decode prog_14_method_47_code 203 = .ok (.aload_n 0, 1) := by decide +kernel
theorem zd_LassoFinderModel_wholeFormula_204 : decode prog_14_method_47_code 204 = .ok (.iconst 1, 1) := by decide +kernel
theorem zd_LassoFinderModel_wholeFormula_205 : decode prog_14_method_47_code 205 = .ok (.invokevirtual 403, 3) := by decide +kernel
theorem zd_LassoFinderModel_wholeFormula_208 : decode prog_14_method_47_code 208 = .ok (.aload_n 0, 1) := by decide +kernel
theorem zd_LassoFinderModel_wholeFormula_209 : decode prog_14_method_47_code 209 = .ok (.dup, 1) := by decide +kernel
theorem zd_LassoFinderModel_wholeFormula_210 : decode prog_14_method_47_code 210 = .ok (.getfield 220, 3) := by decide +kernel
theorem zd_LassoFinderModel_wholeFormula_213 : decode prog_14_method_47_code 213 = .ok (.iconst 1, 1) := by decide +kernel
theorem zd_LassoFinderModel_wholeFormula_214 : decode prog_14_method_47_code 214 = .ok (.isub, 1) := by decide +kernel
theorem zd_LassoFinderModel_wholeFormula_215 : decode prog_14_method_47_code 215 = .ok (.putfield 220, 3) := by decide +kernel
theorem zd_LassoFinderModel_wholeFormula_218 : decode prog_14_method_47_code 218 = .ok (.iinc 1 (-1), 3) := by decide +kernel
theorem zd_LassoFinderModel_wholeFormula_221 : decode prog_14_method_47_code 221 = .ok (.aload_n 0, 1) := by decide +kernel
theorem zd_LassoFinderModel_wholeFormula_222 : decode prog_14_method_47_code 222 = .ok (.dup, 1) := by decide +kernel
theorem zd_LassoFinderModel_wholeFormula_223 : decode prog_14_method_47_code 223 = .ok (.getfield 203, 3) := by decide +kernel
theorem zd_LassoFinderModel_wholeFormula_226 : decode prog_14_method_47_code 226 = .ok (.iconst 1, 1) := by decide +kernel
theorem zd_LassoFinderModel_wholeFormula_227 : decode prog_14_method_47_code 227 = .ok (.iadd, 1) := by decide +kernel
theorem zd_LassoFinderModel_wholeFormula_228 : decode prog_14_method_47_code 228 = .ok (.putfield 203, 3) := by decide +kernel
theorem zd_LassoFinderModel_wholeFormula_231 : decode prog_14_method_47_code 231 = .ok (.aload_n 0, 1) := by decide +kernel
theorem zd_LassoFinderModel_wholeFormula_232 : decode prog_14_method_47_code 232 = .ok (.iconst 5, 1) := by decide +kernel
theorem zd_LassoFinderModel_wholeFormula_233 : decode prog_14_method_47_code 233 = .ok (.invokevirtual 403, 3) := by decide +kernel
theorem zd_LassoFinderModel_wholeFormula_236 : decode prog_14_method_47_code 236 = .ok (.goto 113, 3) := by decide +kernel
theorem zd_LassoFinderModel_wholeFormula_239 : decode prog_14_method_47_code 239 = .ok (.iload_n 3, 1) := by decide +kernel
theorem zd_LassoFinderModel_wholeFormula_240 : decode prog_14_method_47_code 240 = .ok (.bipush 62, 2) := by decide +kernel
theorem zd_LassoFinderModel_wholeFormula_242 : decode prog_14_method_47_code 242 = .ok (.if_icmp .ne 8, 3) := by decide +kernel
theorem zd_LassoFinderModel_wholeFormula_245 : decode prog_14_method_47_code 245 = .ok (.bipush 11, 2) := by decide +kernel
theorem zd_LassoFinderModel_wholeFormula_247 : decode prog_14_method_47_code 247 = .ok (.goto 48, 3) := by decide +kernel
theorem zd_LassoFinderModel_wholeFormula_250 : decode prog_14_method_47_code 250 = .ok (.iload_n 3, 1) := by decide +kernel
theorem zd_LassoFinderModel_wholeFormula_251 : decode prog_14_method_47_code 251 = .ok (.bipush 124, 2) := by decide +kernel
theorem zd_LassoFinderModel_wholeFormula_253 : decode prog_14_method_47_code 253 = .ok (.if_icmp .ne 8, 3) := by decide +kernel
theorem zd_LassoFinderModel_wholeFormula_256 : decode prog_14_method_47_code 256 = .ok (.bipush 10, 2) := by decide +kernel
theorem zd_LassoFinderModel_wholeFormula_258 : decode prog_14_method_47_code 258 = .ok (.goto 37, 3) := by decide +kernel
theorem zd_LassoFinderModel_wholeFormula_261 : decode prog_14_method_47_code 261 = .ok (.iload_n 3, 1) := by decide +kernel
theorem zd_LassoFinderModel_wholeFormula_262 : decode prog_14_method_47_code 262 = .ok (.bipush 38, 2) := by decide +kernel
theorem zd_LassoFinderModel_wholeFormula_264 : decode prog_14_method_47_code 264 = .ok (.if_icmp .ne 8, 3) := by decide +kernel
theorem zd_LassoFinderModel_wholeFormula_267 : decode prog_14_method_47_code 267 = .ok (.bipush 9, 2) := by decide +kernel
theorem zd_LassoFinderModel_wholeFormula_269 : decode prog_14_method_47_code 269 = .ok (.goto 26, 3) := by decide +kernel
theorem zd_LassoFinderModel_wholeFormula_272 : decode prog_14_method_47_code 272 = .ok (.iload_n 3, 1) := by decide +kernel
theorem zd_LassoFinderModel_wholeFormula_273 : decode prog_14_method_47_code 273 = .ok (.bipush 85, 2) := by decide +kernel
theorem zd_LassoFinderModel_wholeFormula_275 : decode prog_14_method_47_code 275 = .ok (.if_icmp .ne 8, 3) := by decide +kernel
theorem zd_LassoFinderModel_wholeFormula_278 : decode prog_14_method_47_code 278 = .ok (.bipush 12, 2) := by decide +kernel
theorem zd_LassoFinderModel_wholeFormula_280 : decode prog_14_method_47_code 280 = .ok (.goto 15, 3) := by decide +kernel
theorem zd_LassoFinderModel_wholeFormula_283 : decode prog_14_method_47_code 283 = .ok (.iload_n 3, 1) := by decide +kernel
theorem zd_LassoFinderModel_wholeFormula_284 : decode prog_14_method_47_code 284 = .ok (.bipush 82, 2) := by decide +kernel
theorem zd_LassoFinderModel_wholeFormula_286 : decode prog_14_method_47_code 286 = .ok (.if_icmp .ne 8, 3) := by decide +kernel
theorem zd_LassoFinderModel_wholeFormula_289 : decode prog_14_method_47_code 289 = .ok (.bipush 13, 2) := by decide +kernel
theorem zd_LassoFinderModel_wholeFormula_291 : decode prog_14_method_47_code 291 = .ok (.goto 4, 3) := by decide +kernel
theorem zd_LassoFinderModel_wholeFormula_294 : decode prog_14_method_47_code 294 = .ok (.iconst (-1), 1) := by decide +kernel
theorem zd_LassoFinderModel_wholeFormula_295 : decode prog_14_method_47_code 295 = .ok (.istore 4, 2) := by decide +kernel
theorem zd_LassoFinderModel_wholeFormula_297 : decode prog_14_method_47_code 297 = .ok (.iload 4, 2) := by decide +kernel
theorem zd_LassoFinderModel_wholeFormula_299 : decode prog_14_method_47_code 299 = .ok (.ifCond .ge 8, 3) := by decide +kernel
theorem zd_LassoFinderModel_wholeFormula_302 : decode prog_14_method_47_code 302 = .ok (.aload_n 0, 1) := by decide +kernel
theorem zd_LassoFinderModel_wholeFormula_303 : decode prog_14_method_47_code 303 = .ok (.invokevirtual 213, 3) := by decide +kernel
theorem zd_LassoFinderModel_wholeFormula_306 : decode prog_14_method_47_code 306 = .ok (.ireturn, 1) := by decide +kernel
theorem zd_LassoFinderModel_wholeFormula_307 : decode prog_14_method_47_code 307 = .ok (.iload 4, 2) := by decide +kernel
theorem zd_LassoFinderModel_wholeFormula_309 : decode prog_14_method_47_code 309 = .ok (.invokestatic 382, 3) := by decide +kernel
theorem zd_LassoFinderModel_wholeFormula_312 : decode prog_14_method_47_code 312 = .ok (.iconst 4, 1) := by decide +kernel
theorem zd_LassoFinderModel_wholeFormula_313 : decode prog_14_method_47_code 313 = .ok (.if_icmp .ge 23, 3) := by decide +kernel
theorem zd_LassoFinderModel_wholeFormula_316 : decode prog_14_method_47_code 316 = .ok (.aload_n 0, 1) := by decide +kernel
theorem zd_LassoFinderModel_wholeFormula_317 : decode prog_14_method_47_code 317 = .ok (.iload 4, 2) := by decide +kernel
theorem zd_LassoFinderModel_wholeFormula_319 : decode prog_14_method_47_code 319 = .ok (.bipush 11, 2) := by decide +kernel
theorem zd_LassoFinderModel_wholeFormula_321 : decode prog_14_method_47_code 321 = .ok (.if_icmp .ne 7, 3) := by decide +kernel
theorem zd_LassoFinderModel_wholeFormula_324 : decode prog_14_method_47_code 324 = .ok (.iconst 2, 1) := by decide +kernel
theorem zd_LassoFinderModel_wholeFormula_325 : decode prog_14_method_47_code 325 = .ok (.goto 8, 3) := by decide +kernel
theorem zd_LassoFinderModel_wholeFormula_328 : decode prog_14_method_47_code 328 = .ok (.iload 4, 2) := by decide +kernel
theorem zd_LassoFinderModel_wholeFormula_330 : decode prog_14_method_47_code 330 = .ok (.invokestatic 382, 3) := by decide +kernel
theorem zd_LassoFinderModel_wholeFormula_333 : decode prog_14_method_47_code 333 = .ok (.invokevirtual 403, 3) := by decide +kernel
theorem zd_LassoFinderModel_wholeFormula_336 : decode prog_14_method_47_code 336 = .ok (.aload_n 0, 1) := by decide +kernel
theorem zd_LassoFinderModel_wholeFormula_337 : decode prog_14_method_47_code 337 = .ok (.iload 4, 2) := by decide +kernel
theorem zd_LassoFinderModel_wholeFormula_339 : decode prog_14_method_47_code 339 = .ok (.invokevirtual 397, 3) := by decide +kernel
theorem zd_LassoFinderModel_wholeFormula_342 : decode prog_14_method_47_code 342 = .ok (.ifCond .ne 5, 3) := by decide +kernel
theorem zd_LassoFinderModel_wholeFormula_345 : decode prog_14_method_47_code 345 = .ok (.iconst 0, 1) := by decide +kernel
theorem zd_LassoFinderModel_wholeFormula_346 : decode prog_14_method_47_code 346 = .ok (.ireturn, 1) := by decide +kernel
theorem zd_LassoFinderModel_wholeFormula_347 : decode prog_14_method_47_code 347 = .ok (.iconst 1, 1) := by decide +kernel
theorem zd_LassoFinderModel_wholeFormula_348 : decode prog_14_method_47_code 348 = .ok (.istore_n 2, 1) := by decide +kernel
theorem zd_LassoFinderModel_wholeFormula_349 : decode prog_14_method_47_code 349 = .ok (.goto (-302), 3) := by decide +kernel
theorem zd_LassoFinderModel_wholeFormula_352 : decode prog_14_method_47_code 352 = .ok (.iload_n 1, 1) := by decide +kernel
theorem zd_LassoFinderModel_wholeFormula_353 : decode prog_14_method_47_code 353 = .ok (.ifCond .le 8, 3) := by decide +kernel
theorem zd_LassoFinderModel_wholeFormula_356 : decode prog_14_method_47_code 356 = .ok (.aload_n 0, 1) := by decide +kernel
theorem zd_LassoFinderModel_wholeFormula_357 : decode prog_14_method_47_code 357 = .ok (.invokevirtual 213, 3) := by decide +kernel
theorem zd_LassoFinderModel_wholeFormula_360 : decode prog_14_method_47_code 360 = .ok (.ireturn, 1) := by decide +kernel
theorem zd_LassoFinderModel_wholeFormula_361 : decode prog_14_method_47_code 361 = .ok (.aload_n 0, 1) := by decide +kernel
theorem zd_LassoFinderModel_wholeFormula_362 : decode prog_14_method_47_code 362 = .ok (.iconst 1, 1) := by decide +kernel
theorem zd_LassoFinderModel_wholeFormula_363 : decode prog_14_method_47_code 363 = .ok (.invokevirtual 403, 3) := by decide +kernel
theorem zd_LassoFinderModel_wholeFormula_366 : decode prog_14_method_47_code 366 = .ok (.iconst 1, 1) := by decide +kernel
theorem zd_LassoFinderModel_wholeFormula_367 : decode prog_14_method_47_code 367 = .ok (.ireturn, 1) := by decide +kernel
def wc_LassoFinderModel_put_35 (a0 : Int32) (Post : (Nat → Int32) → (Nat → Int64) → (Nat → Nat → Int32) → (Nat → Nat → Int64) → Prop) (x1 : Int32) (I : Nat → Int32) (J : Nat → Int64) (B : Nat → Nat → Int32) (D : Nat → Nat → Int64) : Prop :=
  vp_in (I 19) 240 ∧ ∀ z1 : Int32, z1 = ((I 19) + 1) → Post (upd I 19 z1) J (va_up B 41 (upd (B 41) (I 19).toNatClampNeg x1)) D
def wp_LassoFinderModel_put (I : Nat → Int32) (J : Nat → Int64) (B : Nat → Nat → Int32) (D : Nat → Nat → Int64) (a0 : Int32) (Post : (Nat → Int32) → (Nat → Int64) → (Nat → Nat → Int32) → (Nat → Nat → Int64) → Prop) : Prop :=
  ((a0 < 12 → wc_LassoFinderModel_put_35 a0 Post a0 I J B D) ∧ (¬ a0 < 12 → (((15 : Int32) < a0 → wc_LassoFinderModel_put_35 a0 Post a0 I J B D) ∧ (¬ (15 : Int32) < a0 → vp_in (I 20) 3 ∧ ∀ z4 : Int32, z4 = ((I 20) + 1) → wc_LassoFinderModel_put_35 a0 Post a0 (upd I 20 z4) J (va_up B 43 (upd (B 43) (I 20).toNatClampNeg (I 19))) D))))
set_option maxHeartbeats 8000000 in
set_option maxRecDepth 100000 in
theorem wJ_LassoFinderModel_put_35 {p : Program} {l : Launch} {e : Env} {s : State} {m : MethodId} {below : List Frame} {meth : Method} {c : Code} {A : Nat → Prop} (G : va_G) (K : Nat → ClassId) (ad : Nat → Nat) (a0 : Int32) (Post : (Nat → Int32) → (Nat → Int64) → (Nat → Nat → Int32) → (Nat → Nat → Int64) → Prop) (C : zCx p s m ([.ref (ad 0), .int a0] : List Value).toArray meth c A G K prog_14_method_43_code none 2 "LassoFinderModel") : ∀ (x1 : Int32) (I : Nat → Int32) (J : Nat → Int64) (B : Nat → Nat → Int32) (D : Nat → Nat → Int64) (ls : Array Slot) (H : Heap) (locs : List Loc), wc_LassoFinderModel_put_35 a0 Post x1 I J B D → lv_has ls 2 [(0, .ref (ad 0)), (1, .int x1)] → zW G A s.heap (wM ad K I J B D) H locs → W p l e { frames := 0, cells := 0, slots := 0, locals := 0 } s m ([.ref (ad 0), .int a0] : List Value).toArray below meth c H locs 0 0 (MQ below (va_Qv (fun u : zS => Post u.1 u.2.1 u.2.2.1 u.2.2.2) (fun u t => zPost G K A (wM ad K u.1 u.2.1 u.2.2.1 u.2.2.2) t) A) ([.ref (ad 0), .int a0] : List Value).toArray s 0 0 A) (F0 m 35 ls []) := by
  obtain ⟨hx, hb, hr, hml, hts, hown, hlocks, hA, hK⟩ := id C
  intro x1 I J B D ls H locs hok hl hw
  unfold wc_LassoFinderModel_put_35 at hok
  refine lv_aload_n hx hb zd_LassoFinderModel_put_35 rfl (lv_at hl 0 rfl) ?_
  refine z_get (v := .ref (ad 44)) hx hb hts hown hK hw zZ12 0 wM_g0 63 (by decide) zm_278 rfl zd_LassoFinderModel_put_36 ?_
  refine lv_aload_n hx hb zd_LassoFinderModel_put_39 rfl (lv_at hl 0 rfl) ?_
  refine z_get (v := .int (I 19)) hx hb hts hown hK hw zZ12 0 wM_g0 62 (by decide) zm_357 rfl zd_LassoFinderModel_put_40 ?_
  refine lv_iload_n hx hb zd_LassoFinderModel_put_43 rfl (lv_at hl 1 rfl) ?_
  refine va_iast (f := (B 41)) hx hb hK hw.1 hw.2.1 hw.2.2 44 0 wM_a44 rfl hok.1 zd_LassoFinderModel_put_44 (fun H locs w91 w92 w93 => ?_)
  have hok := hok.2
  have hw := wM_t44 ⟨w91, w92, w93⟩
  refine lv_aload_n hx hb zd_LassoFinderModel_put_45 rfl (lv_at hl 0 rfl) ?_
  refine lv_dup hx hb zd_LassoFinderModel_put_46 rfl ?_
  refine z_get (v := .int (I 19)) hx hb hts hown hK hw zZ12 0 wM_g0 62 (by decide) zm_357 rfl zd_LassoFinderModel_put_47 ?_
  refine lv_iconst (v := 1) hx hb zd_LassoFinderModel_put_50 (by decide) ?_
  refine lv_iadd hx hb zd_LassoFinderModel_put_51 ?_
  refine lv_topi (fun z1 ez1 => ?_)
  have hok := hok z1 ez1
  refine z_put (v := .int z1) hx hb hts hown hK hw zZ12 0 wM_g0 62 (by decide) zm_357 rfl rfl rfl (Nat.le_of_ble_eq_true rfl) zd_LassoFinderModel_put_52 (fun H locs hw => ?_)
  have hw := wM_sI19 hw
  exact (z_vret (u := ((upd I 19 z1), J, (va_up B 41 (upd (B 41) (I 19).toNatClampNeg x1)), D)) hx hb hr hlocks hw (List.range 58) wM_all wM_nd hok (Nat.le_of_ble_eq_true rfl) (Nat.le_of_ble_eq_true rfl) zd_LassoFinderModel_put_55)
set_option maxHeartbeats 8000000 in
set_option maxRecDepth 100000 in
theorem w_LassoFinderModel_put (l : Launch) (G : va_G) (K : Nat → ClassId) (ad : Nat → Nat) (I : Nat → Int32) (J : Nat → Int64) (B : Nat → Nat → Int32) (D : Nat → Nat → Int64) (a0 : Int32) (Post : (Nat → Int32) → (Nat → Int64) → (Nat → Nat → Int32) → (Nat → Nat → Int64) → Prop) (sz : Nat) (hok : wp_LassoFinderModel_put I J B D a0 Post) : Met l zy_LassoFinderModel_put (Cond.code zy_LassoFinderModel_put prog_14_method_43_code 2 none :: zTB) { frames := 0, cells := 0, slots := 0, locals := 0 } (va_Pc [.ref (ad 0), .int a0] (zPre G K (wM ad K I J B D) sz)) (va_Qv (fun u : zS => Post u.1 u.2.1 u.2.2.1 u.2.2.2) (fun u t => zPost G K (va_A (wM ad K I J B D) sz) (wM ad K u.1 u.2.1 u.2.2.1 u.2.2.2) t) (va_A (wM ad K I J B D) sz)) 0 0 (va_A (wM ad K I J B D) sz) := by
  refine zMet (y := zy_LassoFinderModel_put) (av := [.ref (ad 0), .int a0]) (maxL := 2) (cc := prog_14_method_43_code) (ret := none) (W0 := (wM ad K I J B D)) (sz := sz) (G := G) (K := K) (wt := zTB) (mc := 0) (ms := 0) (Qf := fun A => va_Qv (fun u : zS => Post u.1 u.2.1 u.2.2.1 u.2.2.2) (fun u t => zPost G K A (wM ad K u.1 u.2.1 u.2.2.1 u.2.2.2) t) A) (by decide) (Nat.le_of_ble_eq_true rfl) ?_
  intro p e s m below meth c ls A hx hb hr hml hts hown hlocks hin hA hK H locs hw hsz hl
  clear hsz
  have hown : s.vm.findClass "LassoFinderModel" = some m.cls := hown
  have C : zCx p s m ([.ref (ad 0), .int a0] : List Value).toArray meth c A G K prog_14_method_43_code none 2 "LassoFinderModel" := ⟨hx, hb, hr, hml, hts, hown, hlocks, hA, hK⟩
  have hl : lv_has ls 2 [(0, .ref (ad 0)), (1, .int a0)] := hl
  have hw : zW G A s.heap (wM ad K I J B D) H locs := hw
  unfold wp_LassoFinderModel_put at hok
  refine lv_iload_n hx hb zd_LassoFinderModel_put_0 rfl (lv_at hl 1 rfl) ?_
  refine lv_bipush (v := 12) hx hb zd_LassoFinderModel_put_1 (by decide) ?_
  refine lv_icmp_lt (tgt := 35) hx hb zd_LassoFinderModel_put_3 (by decide) (fun hc2 => ?_) (fun hc2 => ?_)
  · have hok := hok.1 hc2
    exact wJ_LassoFinderModel_put_35 G K ad a0 Post C a0 I J B D ls H locs hok (lv_sub hl [0, 1] rfl) hw
  · have hok := hok.2 hc2
    refine lv_iload_n hx hb zd_LassoFinderModel_put_6 rfl (lv_at hl 1 rfl) ?_
    refine lv_bipush (v := 15) hx hb zd_LassoFinderModel_put_7 (by decide) ?_
    refine lv_icmp_gt (tgt := 35) hx hb zd_LassoFinderModel_put_9 (by decide) (fun hc3 => ?_) (fun hc3 => ?_)
    · have hok := hok.1 hc3
      exact wJ_LassoFinderModel_put_35 G K ad a0 Post C a0 I J B D ls H locs hok (lv_sub hl [0, 1] rfl) hw
    · have hok := hok.2 hc3
      refine lv_aload_n hx hb zd_LassoFinderModel_put_12 rfl (lv_at hl 0 rfl) ?_
      refine z_get (v := .ref (ad 46)) hx hb hts hown hK hw zZ12 0 wM_g0 68 (by decide) zm_280 rfl zd_LassoFinderModel_put_13 ?_
      refine lv_aload_n hx hb zd_LassoFinderModel_put_16 rfl (lv_at hl 0 rfl) ?_
      refine z_get (v := .int (I 20)) hx hb hts hown hK hw zZ12 0 wM_g0 64 (by decide) zm_356 rfl zd_LassoFinderModel_put_17 ?_
      refine lv_aload_n hx hb zd_LassoFinderModel_put_20 rfl (lv_at hl 0 rfl) ?_
      refine z_get (v := .int (I 19)) hx hb hts hown hK hw zZ12 0 wM_g0 62 (by decide) zm_357 rfl zd_LassoFinderModel_put_21 ?_
      refine va_iast (f := (B 43)) hx hb hK hw.1 hw.2.1 hw.2.2 46 0 wM_a46 rfl hok.1 zd_LassoFinderModel_put_24 (fun H locs w91 w92 w93 => ?_)
      have hok := hok.2
      have hw := wM_t46 ⟨w91, w92, w93⟩
      refine lv_aload_n hx hb zd_LassoFinderModel_put_25 rfl (lv_at hl 0 rfl) ?_
      refine lv_dup hx hb zd_LassoFinderModel_put_26 rfl ?_
      refine z_get (v := .int (I 20)) hx hb hts hown hK hw zZ12 0 wM_g0 64 (by decide) zm_356 rfl zd_LassoFinderModel_put_27 ?_
      refine lv_iconst (v := 1) hx hb zd_LassoFinderModel_put_30 (by decide) ?_
      refine lv_iadd hx hb zd_LassoFinderModel_put_31 ?_
      refine lv_topi (fun z4 ez4 => ?_)
      have hok := hok z4 ez4
      refine z_put (v := .int z4) hx hb hts hown hK hw zZ12 0 wM_g0 64 (by decide) zm_356 rfl rfl rfl (Nat.le_of_ble_eq_true rfl) zd_LassoFinderModel_put_32 (fun H locs hw => ?_)
      have hw := wM_sI20 hw
      exact wJ_LassoFinderModel_put_35 G K ad a0 Post C a0 (upd I 20 z4) J (va_up B 43 (upd (B 43) (I 20).toNatClampNeg (I 19))) D ls H locs hok (lv_sub hl [0, 1] rfl) hw
def wc_LassoFinderModel_putAll_51 (a0 : Int32) (Post : (Nat → Int32) → (Nat → Int64) → (Nat → Nat → Int32) → (Nat → Nat → Int64) → Prop)  (I : Nat → Int32) (J : Nat → Int64) (B : Nat → Nat → Int32) (D : Nat → Nat → Int64) : Prop :=
  Post I J B D
def wb_LassoFinderModel_putAll_0 (a0 : Int32) (K0 : Int32 → (Nat → Int32) → (Nat → Int64) → (Nat → Nat → Int32) → (Nat → Nat → Int64) → Prop) (Post : (Nat → Int32) → (Nat → Int64) → (Nat → Nat → Int32) → (Nat → Nat → Int64) → Prop) (x1 : Int32) (I : Nat → Int32) (J : Nat → Int64) (B : Nat → Nat → Int32) (D : Nat → Nat → Int64) : Prop :=
  (((I 13) ≤ 0 → wc_LassoFinderModel_putAll_51 a0 Post I J B D) ∧ (¬ (I 13) ≤ 0 → ∀ z2 : Int32, z2 = ((I 13) - 1) → vp_in z2 240 ∧ ∀ z3 : Int32, z3 = ((B 28) z2.toNatClampNeg) → wp_LassoFinderModel_binds I J B D z3 (fun r4 I4 J4 B4 D4 => ((r4 < x1 → wc_LassoFinderModel_putAll_51 a0 Post I4 J4 B4 D4) ∧ (¬ r4 < x1 → ∀ z6 : Int32, z6 = ((I4 13) - 1) → vp_in z6 240 ∧ ∀ z7 : Int32, z7 = ((B4 28) z6.toNatClampNeg) → wp_LassoFinderModel_put (upd I4 13 z6) J4 B4 D4 z7 (fun I8 J8 B8 D8 => K0 x1 I8 J8 B8 D8))))))
def wl_LassoFinderModel_putAll_0 (a0 : Int32) (Post : (Nat → Int32) → (Nat → Int64) → (Nat → Nat → Int32) → (Nat → Nat → Int64) → Prop) (n : Nat) : Int32 → (Nat → Int32) → (Nat → Int64) → (Nat → Nat → Int32) → (Nat → Nat → Int64) → Prop := Nat.rec (fun _ _ _ _ _ => False) (fun _ r => wb_LassoFinderModel_putAll_0 a0 r Post) n
def wp_LassoFinderModel_putAll (I : Nat → Int32) (J : Nat → Int64) (B : Nat → Nat → Int32) (D : Nat → Nat → Int64) (a0 : Int32) (Post : (Nat → Int32) → (Nat → Int64) → (Nat → Nat → Int32) → (Nat → Nat → Int64) → Prop) : Prop :=
  ∃ n : Nat, wl_LassoFinderModel_putAll_0 a0 Post n a0 I J B D
set_option maxHeartbeats 8000000 in
set_option maxRecDepth 100000 in
theorem wJ_LassoFinderModel_putAll_51 {p : Program} {l : Launch} {e : Env} {s : State} {m : MethodId} {below : List Frame} {meth : Method} {c : Code} {A : Nat → Prop} (G : va_G) (K : Nat → ClassId) (ad : Nat → Nat) (a0 : Int32) (Post : (Nat → Int32) → (Nat → Int64) → (Nat → Nat → Int32) → (Nat → Nat → Int64) → Prop) (C : zCx p s m ([.ref (ad 0), .int a0] : List Value).toArray meth c A G K prog_14_method_44_code none 2 "LassoFinderModel") : ∀  (I : Nat → Int32) (J : Nat → Int64) (B : Nat → Nat → Int32) (D : Nat → Nat → Int64) (ls : Array Slot) (H : Heap) (locs : List Loc), wc_LassoFinderModel_putAll_51 a0 Post  I J B D → lv_has ls 2 [] → zW G A s.heap (wM ad K I J B D) H locs → W p l e { frames := 1, cells := 0, slots := 0, locals := 21 } s m ([.ref (ad 0), .int a0] : List Value).toArray below meth c H locs 0 0 (MQ below (va_Qv (fun u : zS => Post u.1 u.2.1 u.2.2.1 u.2.2.2) (fun u t => zPost G K A (wM ad K u.1 u.2.1 u.2.2.1 u.2.2.2) t) A) ([.ref (ad 0), .int a0] : List Value).toArray s 0 0 A) (F0 m 51 ls []) := by
  obtain ⟨hx, hb, hr, hml, hts, hown, hlocks, hA, hK⟩ := id C
  intro  I J B D ls H locs hok hl hw
  unfold wc_LassoFinderModel_putAll_51 at hok
  exact (z_vret (u := (I, J, B, D)) hx hb hr hlocks hw (List.range 58) wM_all wM_nd hok (Nat.le_of_ble_eq_true rfl) (Nat.le_of_ble_eq_true rfl) zd_LassoFinderModel_putAll_51)
set_option maxHeartbeats 8000000 in
set_option maxRecDepth 100000 in
theorem wB_LassoFinderModel_putAll_0 {p : Program} {l : Launch} {e : Env} {s : State} {m : MethodId} {below : List Frame} {meth : Method} {c : Code} {A : Nat → Prop} (G : va_G) (K : Nat → ClassId) (ad : Nat → Nat) (a0 : Int32) (Post : (Nat → Int32) → (Nat → Int64) → (Nat → Nat → Int32) → (Nat → Nat → Int64) → Prop) (C : zCx p s m ([.ref (ad 0), .int a0] : List Value).toArray meth c A G K prog_14_method_44_code none 2 "LassoFinderModel") (K0 : Int32 → (Nat → Int32) → (Nat → Int64) → (Nat → Nat → Int32) → (Nat → Nat → Int64) → Prop) (kh0 : ∀ (x1 : Int32) (I : Nat → Int32) (J : Nat → Int64) (B : Nat → Nat → Int32) (D : Nat → Nat → Int64) (ls : Array Slot) (H : Heap) (locs : List Loc), K0 x1 I J B D → lv_has ls 2 [(0, .ref (ad 0)), (1, .int x1)] → zW G A s.heap (wM ad K I J B D) H locs → W p l e { frames := 1, cells := 0, slots := 0, locals := 21 } s m ([.ref (ad 0), .int a0] : List Value).toArray below meth c H locs 0 0 (MQ below (va_Qv (fun u : zS => Post u.1 u.2.1 u.2.2.1 u.2.2.2) (fun u t => zPost G K A (wM ad K u.1 u.2.1 u.2.2.1 u.2.2.2) t) A) ([.ref (ad 0), .int a0] : List Value).toArray s 0 0 A) (F0 m 0 ls [])) : ∀ (x1 : Int32) (I : Nat → Int32) (J : Nat → Int64) (B : Nat → Nat → Int32) (D : Nat → Nat → Int64) (ls : Array Slot) (H : Heap) (locs : List Loc), wb_LassoFinderModel_putAll_0 a0 K0 Post x1 I J B D → lv_has ls 2 [(0, .ref (ad 0)), (1, .int x1)] → zW G A s.heap (wM ad K I J B D) H locs → W p l e { frames := 1, cells := 0, slots := 0, locals := 21 } s m ([.ref (ad 0), .int a0] : List Value).toArray below meth c H locs 0 0 (MQ below (va_Qv (fun u : zS => Post u.1 u.2.1 u.2.2.1 u.2.2.2) (fun u t => zPost G K A (wM ad K u.1 u.2.1 u.2.2.1 u.2.2.2) t) A) ([.ref (ad 0), .int a0] : List Value).toArray s 0 0 A) (F0 m 0 ls []) := by
  obtain ⟨hx, hb, hr, hml, hts, hown, hlocks, hA, hK⟩ := id C
  intro x1 I J B D ls H locs hok hl hw
  unfold wb_LassoFinderModel_putAll_0 at hok
  refine lv_aload_n hx hb zd_LassoFinderModel_putAll_0 rfl (lv_at hl 0 rfl) ?_
  refine z_get (v := .int (I 13)) hx hb hts hown hK hw zZ12 0 wM_g0 42 (by decide) zm_348 rfl zd_LassoFinderModel_putAll_1 ?_
  refine lv_if_le (tgt := 51) hx hb zd_LassoFinderModel_putAll_4 (by decide) (fun hc1 => ?_) (fun hc1 => ?_)
  · have hok := hok.1 hc1
    exact wJ_LassoFinderModel_putAll_51 G K ad a0 Post C I J B D ls H locs hok (lv_sub hl [] rfl) hw
  · have hok := hok.2 hc1
    refine lv_aload_n hx hb zd_LassoFinderModel_putAll_7 rfl (lv_at hl 0 rfl) ?_
    refine z_get (v := .ref (ad 30)) hx hb hts hown hK hw zZ12 0 wM_g0 43 (by decide) zm_264 rfl zd_LassoFinderModel_putAll_8 ?_
    refine lv_aload_n hx hb zd_LassoFinderModel_putAll_11 rfl (lv_at hl 0 rfl) ?_
    refine z_get (v := .int (I 13)) hx hb hts hown hK hw zZ12 0 wM_g0 42 (by decide) zm_348 rfl zd_LassoFinderModel_putAll_12 ?_
    refine lv_iconst (v := 1) hx hb zd_LassoFinderModel_putAll_15 (by decide) ?_
    refine lv_isub hx hb zd_LassoFinderModel_putAll_16 ?_
    refine lv_topi (fun z2 ez2 => ?_)
    have hok := hok z2 ez2
    refine va_iald (f := (B 28)) hx hb hK hw.1 30 0 wM_a30 rfl hok.1 zd_LassoFinderModel_putAll_17 ?_
    have hok := hok.2
    refine lv_topi (fun z3 ez3 => ?_)
    have hok := hok z3 ez3
    refine z_calli (w1 := fun (u : zS) => wM ad K u.1 u.2.1 u.2.2.1 u.2.2.2) (wr := []) (z_runS (wc := (wM ad K I J B D)) (As := [.int z3]) (rest := []) ⟨hx, hb, hml, hown, hts⟩ (w_LassoFinderModel_binds l G K ad I J B D z3 _ H.size hok) zf_LassoFinderModel_binds zm_361 ⟨Nat.le_of_ble_eq_true rfl, Nat.le_of_ble_eq_true rfl⟩ hK hw (List.range 58) wM_all wM_nd rfl hl.1 rfl (Nat.le_of_ble_eq_true rfl) zd_LassoFinderModel_putAll_18 ⟨Nat.le_of_ble_eq_true rfl, Nat.le_of_ble_eq_true rfl⟩) hw hA (List.range 58) [] wM_all rfl (by decide) (fun i hi => by cases hi) (fun r4 u H locs hok hw => ?_)
    obtain ⟨I4, J4, B4, D4⟩ := u
    dsimp only at hok
    have hw : zW G A s.heap (wM ad K I4 J4 B4 D4) H locs := hw
    refine lv_iload_n hx hb zd_LassoFinderModel_putAll_21 rfl (lv_at hl 1 rfl) ?_
    refine lv_icmp_lt (tgt := 51) hx hb zd_LassoFinderModel_putAll_22 (by decide) (fun hc5 => ?_) (fun hc5 => ?_)
    · have hok := hok.1 hc5
      exact wJ_LassoFinderModel_putAll_51 G K ad a0 Post C I4 J4 B4 D4 ls H locs hok (lv_sub hl [] rfl) hw
    · have hok := hok.2 hc5
      refine lv_aload_n hx hb zd_LassoFinderModel_putAll_25 rfl (lv_at hl 0 rfl) ?_
      refine lv_dup hx hb zd_LassoFinderModel_putAll_26 rfl ?_
      refine z_get (v := .int (I4 13)) hx hb hts hown hK hw zZ12 0 wM_g0 42 (by decide) zm_348 rfl zd_LassoFinderModel_putAll_27 ?_
      refine lv_iconst (v := 1) hx hb zd_LassoFinderModel_putAll_30 (by decide) ?_
      refine lv_isub hx hb zd_LassoFinderModel_putAll_31 ?_
      refine lv_topi (fun z6 ez6 => ?_)
      have hok := hok z6 ez6
      refine z_put (v := .int z6) hx hb hts hown hK hw zZ12 0 wM_g0 42 (by decide) zm_348 rfl rfl rfl (Nat.le_of_ble_eq_true rfl) zd_LassoFinderModel_putAll_32 (fun H locs hw => ?_)
      have hw := wM_sI13 hw
      refine lv_aload_n hx hb zd_LassoFinderModel_putAll_35 rfl (lv_at hl 0 rfl) ?_
      refine lv_aload_n hx hb zd_LassoFinderModel_putAll_36 rfl (lv_at hl 0 rfl) ?_
      refine z_get (v := .ref (ad 30)) hx hb hts hown hK hw zZ12 0 wM_g0 43 (by decide) zm_264 rfl zd_LassoFinderModel_putAll_37 ?_
      refine lv_aload_n hx hb zd_LassoFinderModel_putAll_40 rfl (lv_at hl 0 rfl) ?_
      refine z_get (v := .int z6) hx hb hts hown hK hw zZ12 0 wM_g0 42 (by decide) zm_348 rfl zd_LassoFinderModel_putAll_41 ?_
      refine va_iald (f := (B4 28)) hx hb hK hw.1 30 0 wM_a30 rfl hok.1 zd_LassoFinderModel_putAll_44 ?_
      have hok := hok.2
      refine lv_topi (fun z7 ez7 => ?_)
      have hok := hok z7 ez7
      refine z_callv (w1 := fun (u : zS) => wM ad K u.1 u.2.1 u.2.2.1 u.2.2.2) (wr := []) (z_runV (q0 := 0) (wc := (wM ad K (upd I4 13 z6) J4 B4 D4)) (As := [.int z7]) (rest := []) ⟨hx, hb, hml, hown, hts⟩ (w_LassoFinderModel_put l G K ad (upd I4 13 z6) J4 B4 D4 z7 _ H.size hok) zf_LassoFinderModel_put zm_364 ⟨Nat.le_of_ble_eq_true rfl, Nat.le_of_ble_eq_true rfl⟩ hK hw (List.range 58) wM_all wM_nd wM_g0 rfl rfl hl.1 rfl (Nat.le_of_ble_eq_true rfl) zd_LassoFinderModel_putAll_45 ⟨Nat.le_of_ble_eq_true rfl, Nat.le_of_ble_eq_true rfl⟩) hw hA (List.range 58) [] wM_all rfl (by decide) (fun i hi => by cases hi) (fun u H locs hok hw => ?_)
      obtain ⟨I8, J8, B8, D8⟩ := u
      dsimp only at hok
      have hw : zW G A s.heap (wM ad K I8 J8 B8 D8) H locs := hw
      refine lv_goto (tgt := 0) hx hb zd_LassoFinderModel_putAll_48 (by decide) ?_
      exact kh0 x1 I8 J8 B8 D8 ls H locs hok (lv_sub hl [0, 1] rfl) hw
theorem wL_LassoFinderModel_putAll_0 {p : Program} {l : Launch} {e : Env} {s : State} {m : MethodId} {below : List Frame} {meth : Method} {c : Code} {A : Nat → Prop} (G : va_G) (K : Nat → ClassId) (ad : Nat → Nat) (a0 : Int32) (Post : (Nat → Int32) → (Nat → Int64) → (Nat → Nat → Int32) → (Nat → Nat → Int64) → Prop) (C : zCx p s m ([.ref (ad 0), .int a0] : List Value).toArray meth c A G K prog_14_method_44_code none 2 "LassoFinderModel") : ∀ (n : Nat) (x1 : Int32) (I : Nat → Int32) (J : Nat → Int64) (B : Nat → Nat → Int32) (D : Nat → Nat → Int64) (ls : Array Slot) (H : Heap) (locs : List Loc), wl_LassoFinderModel_putAll_0 a0 Post n x1 I J B D → lv_has ls 2 [(0, .ref (ad 0)), (1, .int x1)] → zW G A s.heap (wM ad K I J B D) H locs → W p l e { frames := 1, cells := 0, slots := 0, locals := 21 } s m ([.ref (ad 0), .int a0] : List Value).toArray below meth c H locs 0 0 (MQ below (va_Qv (fun u : zS => Post u.1 u.2.1 u.2.2.1 u.2.2.2) (fun u t => zPost G K A (wM ad K u.1 u.2.1 u.2.2.1 u.2.2.2) t) A) ([.ref (ad 0), .int a0] : List Value).toArray s 0 0 A) (F0 m 0 ls []) := by
  intro n
  induction n with
  | zero => intro x1 I J B D ls H locs hok; exact hok.elim
  | succ n ih => exact wB_LassoFinderModel_putAll_0 G K ad a0 Post C (wl_LassoFinderModel_putAll_0 a0 Post n) ih
set_option maxHeartbeats 8000000 in
set_option maxRecDepth 100000 in
theorem w_LassoFinderModel_putAll (l : Launch) (G : va_G) (K : Nat → ClassId) (ad : Nat → Nat) (I : Nat → Int32) (J : Nat → Int64) (B : Nat → Nat → Int32) (D : Nat → Nat → Int64) (a0 : Int32) (Post : (Nat → Int32) → (Nat → Int64) → (Nat → Nat → Int32) → (Nat → Nat → Int64) → Prop) (sz : Nat) (hok : wp_LassoFinderModel_putAll I J B D a0 Post) : Met l zy_LassoFinderModel_putAll (Cond.code zy_LassoFinderModel_putAll prog_14_method_44_code 2 none :: zTB) { frames := 1, cells := 0, slots := 0, locals := 21 } (va_Pc [.ref (ad 0), .int a0] (zPre G K (wM ad K I J B D) sz)) (va_Qv (fun u : zS => Post u.1 u.2.1 u.2.2.1 u.2.2.2) (fun u t => zPost G K (va_A (wM ad K I J B D) sz) (wM ad K u.1 u.2.1 u.2.2.1 u.2.2.2) t) (va_A (wM ad K I J B D) sz)) 0 0 (va_A (wM ad K I J B D) sz) := by
  refine zMet (y := zy_LassoFinderModel_putAll) (av := [.ref (ad 0), .int a0]) (maxL := 2) (cc := prog_14_method_44_code) (ret := none) (W0 := (wM ad K I J B D)) (sz := sz) (G := G) (K := K) (wt := zTB) (mc := 0) (ms := 0) (Qf := fun A => va_Qv (fun u : zS => Post u.1 u.2.1 u.2.2.1 u.2.2.2) (fun u t => zPost G K A (wM ad K u.1 u.2.1 u.2.2.1 u.2.2.2) t) A) (by decide) (Nat.le_of_ble_eq_true rfl) ?_
  intro p e s m below meth c ls A hx hb hr hml hts hown hlocks hin hA hK H locs hw hsz hl
  clear hsz
  have hown : s.vm.findClass "LassoFinderModel" = some m.cls := hown
  have C : zCx p s m ([.ref (ad 0), .int a0] : List Value).toArray meth c A G K prog_14_method_44_code none 2 "LassoFinderModel" := ⟨hx, hb, hr, hml, hts, hown, hlocks, hA, hK⟩
  have hl : lv_has ls 2 [(0, .ref (ad 0)), (1, .int a0)] := hl
  have hw : zW G A s.heap (wM ad K I J B D) H locs := hw
  unfold wp_LassoFinderModel_putAll at hok
  obtain ⟨n9, hok⟩ := hok
  exact wL_LassoFinderModel_putAll_0 G K ad a0 Post C n9 a0 I J B D ls H locs hok (lv_sub hl [0, 1] rfl) hw
def wc_LassoFinderModel_atom_220 (Post : Int32 → (Nat → Int32) → (Nat → Int64) → (Nat → Nat → Int32) → (Nat → Nat → Int64) → Prop)  (I : Nat → Int32) (J : Nat → Int64) (B : Nat → Nat → Int32) (D : Nat → Nat → Int64) : Prop :=
  wp_LassoFinderModel_fail I J B D  (fun r1 I1 J1 B1 D1 => (r1 = 0 ∨ r1 = 1) ∧ Post r1 I1 J1 B1 D1)
def wc_LassoFinderModel_atom_274 (Post : Int32 → (Nat → Int32) → (Nat → Int64) → (Nat → Nat → Int32) → (Nat → Nat → Int64) → Prop)  (I : Nat → Int32) (J : Nat → Int64) (B : Nat → Nat → Int32) (D : Nat → Nat → Int64) : Prop :=
  wp_LassoFinderModel_put I J B D (I 23) (fun I2 J2 B2 D2 => ∀ z3 : Int32, z3 = ((I2 23) + 1) → Post 1 (upd I2 23 z3) J2 B2 D2)
def wc_LassoFinderModel_atom_148 (Post : Int32 → (Nat → Int32) → (Nat → Int64) → (Nat → Nat → Int32) → (Nat → Nat → Int64) → Prop)  (I : Nat → Int32) (J : Nat → Int64) (B : Nat → Nat → Int32) (D : Nat → Nat → Int64) : Prop :=
  Post 0 I J B D
def wb_LassoFinderModel_atom_94 (K94 : Int32 → Int32 → Int32 → (Nat → Int32) → (Nat → Int64) → (Nat → Nat → Int32) → (Nat → Nat → Int64) → Prop) (Post : Int32 → (Nat → Int32) → (Nat → Int64) → (Nat → Nat → Int32) → (Nat → Nat → Int64) → Prop) (x1 : Int32) (x2 : Int32) (x3 : Int32) (I : Nat → Int32) (J : Nat → Int64) (B : Nat → Nat → Int32) (D : Nat → Nat → Int64) : Prop :=
  ((x1 ≤ x3 → vp_in (I 23) 8 ∧ ((x2 = 0 → wc_LassoFinderModel_atom_148  Post (upd I 13 x1) J (va_up B 47 (upd (B 47) (I 23).toNatClampNeg (I 11))) D) ∧ (¬ x2 = 0 → wp_LassoFinderModel_takes (upd I 13 x1) J (va_up B 47 (upd (B 47) (I 23).toNatClampNeg (I 11))) D 125 (fun r6 I6 J6 B6 D6 => ((¬ r6 = 0 → wc_LassoFinderModel_atom_274  Post I6 J6 B6 D6) ∧ (r6 = 0 → wc_LassoFinderModel_atom_148  Post I6 J6 B6 D6)))))) ∧ (¬ x1 ≤ x3 → vp_in x3 240 ∧ ∀ z8 : Int32, z8 = ((B 42) x3.toNatClampNeg) → vp_in x3 240 ∧ ∀ z9 : Int32, z9 = (x3 + 1) → K94 x1 x2 z9 I J (va_up B 28 (upd (B 28) x3.toNatClampNeg z8)) D))
def wl_LassoFinderModel_atom_94 (Post : Int32 → (Nat → Int32) → (Nat → Int64) → (Nat → Nat → Int32) → (Nat → Nat → Int64) → Prop) (n : Nat) : Int32 → Int32 → Int32 → (Nat → Int32) → (Nat → Int64) → (Nat → Nat → Int32) → (Nat → Nat → Int64) → Prop := Nat.rec (fun _ _ _ _ _ _ _ => False) (fun _ r => wb_LassoFinderModel_atom_94  r Post) n
def wb_LassoFinderModel_atom_63 (K63 : Int32 → Int32 → (Nat → Int32) → (Nat → Int64) → (Nat → Nat → Int32) → (Nat → Nat → Int64) → Prop) (Post : Int32 → (Nat → Int32) → (Nat → Int64) → (Nat → Nat → Int32) → (Nat → Nat → Int64) → Prop) (x1 : Int32) (x2 : Int32) (I : Nat → Int32) (J : Nat → Int64) (B : Nat → Nat → Int32) (D : Nat → Nat → Int64) : Prop :=
  ((x1 ≤ x2 → wp_LassoFinderModel_expression I J B D 0 (fun r11 I11 J11 B11 D11 => ∃ n : Nat, wl_LassoFinderModel_atom_94  Post n x1 r11 0 I11 J11 B11 D11)) ∧ (¬ x1 ≤ x2 → vp_in x2 240 ∧ ∀ z12 : Int32, z12 = ((B 28) x2.toNatClampNeg) → vp_in x2 240 ∧ ∀ z13 : Int32, z13 = (x2 + 1) → K63 x1 z13 I J (va_up B 42 (upd (B 42) x2.toNatClampNeg z12)) D))
def wl_LassoFinderModel_atom_63 (Post : Int32 → (Nat → Int32) → (Nat → Int64) → (Nat → Nat → Int32) → (Nat → Nat → Int64) → Prop) (n : Nat) : Int32 → Int32 → (Nat → Int32) → (Nat → Int64) → (Nat → Nat → Int32) → (Nat → Nat → Int64) → Prop := Nat.rec (fun _ _ _ _ _ _ => False) (fun _ r => wb_LassoFinderModel_atom_63  r Post) n
def wp_LassoFinderModel_atom (I : Nat → Int32) (J : Nat → Int64) (B : Nat → Nat → Int32) (D : Nat → Nat → Int64) (Post : Int32 → (Nat → Int32) → (Nat → Int64) → (Nat → Nat → Int32) → (Nat → Nat → Int64) → Prop) : Prop :=
  ((¬ (I 23) = 8 → wp_LassoFinderModel_here I J B D  (fun r15 I15 J15 B15 D15 => ((¬ r15 = 123 → ∀ z17 : Int32, z17 = ((I15 2) + 1) → wp_LassoFinderModel_from (upd I15 2 z17) J15 B15 D15 48 (I15 10) (fun r18 I18 J18 B18 D18 => (((0 : Int32) ≤ r18 → ∀ z20 : Int32, z20 = ((I18 2) + 1) → wp_LassoFinderModel_from (upd I18 2 z20) J18 B18 D18 65 8 (fun r21 I21 J21 B21 D21 => ((r21 < 0 → wc_LassoFinderModel_atom_220  Post I21 J21 B21 D21) ∧ (¬ r21 < 0 → ∀ z23 : Int32, z23 = (8 * r18) → ∀ z24 : Int32, z24 = (z23 + r21) → vp_in z24 32 ∧ ∀ z25 : Int32, z25 = ((B21 22) z24.toNatClampNeg) → (((0 : Int32) ≤ z25 → vp_in (I21 23) 8 ∧ ∀ z27 : Int32, z27 = (8 * r18) → ∀ z28 : Int32, z28 = (z27 + r21) → vp_in z28 32 ∧ ∀ z29 : Int32, z29 = ((B21 22) z28.toNatClampNeg) → wp_LassoFinderModel_instead I21 J21 (va_up B21 44 (upd (B21 44) (I21 23).toNatClampNeg r18)) D21 z29 (fun r30 I30 J30 B30 D30 => wp_LassoFinderModel_pointOf I30 J30 B30 D30 r18 r30 (fun r31 I31 J31 B31 D31 => vp_in (I21 23) 8 ∧ ∀ z32 : Int32, z32 = ((I31 2) + 1) → wc_LassoFinderModel_atom_274  Post (upd I31 2 z32) J31 (va_up B31 45 (upd (B31 45) (I21 23).toNatClampNeg r31)) D31))) ∧ (¬ (0 : Int32) ≤ z25 → wc_LassoFinderModel_atom_220  Post I21 J21 B21 D21)))))) ∧ (¬ (0 : Int32) ≤ r18 → wp_LassoFinderModel_fail I18 J18 B18 D18  (fun r33 I33 J33 B33 D33 => (r33 = 0 ∨ r33 = 1) ∧ Post r33 I33 J33 B33 D33))))) ∧ (r15 = 123 → ∀ z34 : Int32, z34 = ((I15 2) + 1) → vp_in (I15 23) 8 ∧ vp_in (I15 23) 8 ∧ ∃ n : Nat, wl_LassoFinderModel_atom_63  Post n (I15 13) 0 (upd I15 2 z34) J15 (va_up (va_up B15 44 (upd (B15 44) (I15 23).toNatClampNeg (-1))) 46 (upd (B15 46) (I15 23).toNatClampNeg (I15 11))) D15)))) ∧ ((I 23) = 8 → wp_LassoFinderModel_fail I J B D  (fun r35 I35 J35 B35 D35 => (r35 = 0 ∨ r35 = 1) ∧ Post r35 I35 J35 B35 D35)))
set_option maxHeartbeats 8000000 in
set_option maxRecDepth 100000 in
theorem wJ_LassoFinderModel_atom_220 {p : Program} {l : Launch} {e : Env} {s : State} {m : MethodId} {below : List Frame} {meth : Method} {c : Code} {A : Nat → Prop} (G : va_G) (K : Nat → ClassId) (ad : Nat → Nat) (Post : Int32 → (Nat → Int32) → (Nat → Int64) → (Nat → Nat → Int32) → (Nat → Nat → Int64) → Prop) (C : zCx p s m ([.ref (ad 0)] : List Value).toArray meth c A G K prog_14_method_45_code (some .boolean) 4 "LassoFinderModel") : ∀  (I : Nat → Int32) (J : Nat → Int64) (B : Nat → Nat → Int32) (D : Nat → Nat → Int64) (ls : Array Slot) (H : Heap) (locs : List Loc), wc_LassoFinderModel_atom_220  Post  I J B D → lv_has ls 4 [(0, .ref (ad 0))] → zW G A s.heap (wM ad K I J B D) H locs → W p l e { frames := 3, cells := 0, slots := 0, locals := 72 } s m ([.ref (ad 0)] : List Value).toArray below meth c H locs 0 0 (MQ below (va_Qi (fun (r : Int32) (u : zS) => Post r u.1 u.2.1 u.2.2.1 u.2.2.2) (fun u t => zPost G K A (wM ad K u.1 u.2.1 u.2.2.1 u.2.2.2) t) A) ([.ref (ad 0)] : List Value).toArray s 0 0 A) (F0 m 220 ls []) := by
  obtain ⟨hx, hb, hr, hml, hts, hown, hlocks, hA, hK⟩ := id C
  intro  I J B D ls H locs hok hl hw
  unfold wc_LassoFinderModel_atom_220 at hok
  refine lv_aload_n hx hb zd_LassoFinderModel_atom_220 rfl (lv_at hl 0 rfl) ?_
  refine z_calli (w1 := fun (u : zS) => wM ad K u.1 u.2.1 u.2.2.1 u.2.2.2) (wr := []) (z_runV (q0 := 0) (wc := (wM ad K I J B D)) (As := []) (rest := []) ⟨hx, hb, hml, hown, hts⟩ (w_LassoFinderModel_fail l G K ad I J B D  _ H.size hok) zf_LassoFinderModel_fail zm_334 ⟨Nat.le_of_ble_eq_true rfl, Nat.le_of_ble_eq_true rfl⟩ hK hw (List.range 58) wM_all wM_nd wM_g0 rfl rfl hl.1 rfl (Nat.le_of_ble_eq_true rfl) zd_LassoFinderModel_atom_221 ⟨Nat.le_of_ble_eq_true rfl, Nat.le_of_ble_eq_true rfl⟩) hw hA (List.range 58) [] wM_all rfl (by decide) (fun i hi => by cases hi) (fun r1 u H locs hok hw => ?_)
  obtain ⟨I1, J1, B1, D1⟩ := u
  dsimp only at hok
  have hw : zW G A s.heap (wM ad K I1 J1 B1 D1) H locs := hw
  have hbo := hok.1
  have hok := hok.2
  exact (z_iret (u := (I1, J1, B1, D1)) hx hb hr hlocks (z_nar hbo) hw (List.range 58) wM_all wM_nd hok (Nat.le_of_ble_eq_true rfl) (Nat.le_of_ble_eq_true rfl) zd_LassoFinderModel_atom_224)
set_option maxHeartbeats 8000000 in
set_option maxRecDepth 100000 in
theorem wJ_LassoFinderModel_atom_274 {p : Program} {l : Launch} {e : Env} {s : State} {m : MethodId} {below : List Frame} {meth : Method} {c : Code} {A : Nat → Prop} (G : va_G) (K : Nat → ClassId) (ad : Nat → Nat) (Post : Int32 → (Nat → Int32) → (Nat → Int64) → (Nat → Nat → Int32) → (Nat → Nat → Int64) → Prop) (C : zCx p s m ([.ref (ad 0)] : List Value).toArray meth c A G K prog_14_method_45_code (some .boolean) 4 "LassoFinderModel") : ∀  (I : Nat → Int32) (J : Nat → Int64) (B : Nat → Nat → Int32) (D : Nat → Nat → Int64) (ls : Array Slot) (H : Heap) (locs : List Loc), wc_LassoFinderModel_atom_274  Post  I J B D → lv_has ls 4 [(0, .ref (ad 0))] → zW G A s.heap (wM ad K I J B D) H locs → W p l e { frames := 3, cells := 0, slots := 0, locals := 72 } s m ([.ref (ad 0)] : List Value).toArray below meth c H locs 0 0 (MQ below (va_Qi (fun (r : Int32) (u : zS) => Post r u.1 u.2.1 u.2.2.1 u.2.2.2) (fun u t => zPost G K A (wM ad K u.1 u.2.1 u.2.2.1 u.2.2.2) t) A) ([.ref (ad 0)] : List Value).toArray s 0 0 A) (F0 m 274 ls []) := by
  obtain ⟨hx, hb, hr, hml, hts, hown, hlocks, hA, hK⟩ := id C
  intro  I J B D ls H locs hok hl hw
  unfold wc_LassoFinderModel_atom_274 at hok
  refine lv_aload_n hx hb zd_LassoFinderModel_atom_274 rfl (lv_at hl 0 rfl) ?_
  refine lv_aload_n hx hb zd_LassoFinderModel_atom_275 rfl (lv_at hl 0 rfl) ?_
  refine z_get (v := .int (I 23)) hx hb hts hown hK hw zZ12 0 wM_g0 69 (by decide) zm_353 rfl zd_LassoFinderModel_atom_276 ?_
  refine z_callv (w1 := fun (u : zS) => wM ad K u.1 u.2.1 u.2.2.1 u.2.2.2) (wr := []) (z_runV (q0 := 0) (wc := (wM ad K I J B D)) (As := [.int (I 23)]) (rest := []) ⟨hx, hb, hml, hown, hts⟩ (w_LassoFinderModel_put l G K ad I J B D (I 23) _ H.size hok) zf_LassoFinderModel_put zm_364 ⟨Nat.le_of_ble_eq_true rfl, Nat.le_of_ble_eq_true rfl⟩ hK hw (List.range 58) wM_all wM_nd wM_g0 rfl rfl hl.1 rfl (Nat.le_of_ble_eq_true rfl) zd_LassoFinderModel_atom_279 ⟨Nat.le_of_ble_eq_true rfl, Nat.le_of_ble_eq_true rfl⟩) hw hA (List.range 58) [] wM_all rfl (by decide) (fun i hi => by cases hi) (fun u H locs hok hw => ?_)
  obtain ⟨I2, J2, B2, D2⟩ := u
  dsimp only at hok
  have hw : zW G A s.heap (wM ad K I2 J2 B2 D2) H locs := hw
  refine lv_aload_n hx hb zd_LassoFinderModel_atom_282 rfl (lv_at hl 0 rfl) ?_
  refine lv_dup hx hb zd_LassoFinderModel_atom_283 rfl ?_
  refine z_get (v := .int (I2 23)) hx hb hts hown hK hw zZ12 0 wM_g0 69 (by decide) zm_353 rfl zd_LassoFinderModel_atom_284 ?_
  refine lv_iconst (v := 1) hx hb zd_LassoFinderModel_atom_287 (by decide) ?_
  refine lv_iadd hx hb zd_LassoFinderModel_atom_288 ?_
  refine lv_topi (fun z3 ez3 => ?_)
  have hok := hok z3 ez3
  refine z_put (v := .int z3) hx hb hts hown hK hw zZ12 0 wM_g0 69 (by decide) zm_353 rfl rfl rfl (Nat.le_of_ble_eq_true rfl) zd_LassoFinderModel_atom_289 (fun H locs hw => ?_)
  have hw := wM_sI23 hw
  refine lv_iconst (v := 1) hx hb zd_LassoFinderModel_atom_292 (by decide) ?_
  exact (z_iret (u := ((upd I2 23 z3), J2, B2, D2)) hx hb hr hlocks rfl hw (List.range 58) wM_all wM_nd hok (Nat.le_of_ble_eq_true rfl) (Nat.le_of_ble_eq_true rfl) zd_LassoFinderModel_atom_293)
set_option maxHeartbeats 8000000 in
set_option maxRecDepth 100000 in
theorem wJ_LassoFinderModel_atom_148 {p : Program} {l : Launch} {e : Env} {s : State} {m : MethodId} {below : List Frame} {meth : Method} {c : Code} {A : Nat → Prop} (G : va_G) (K : Nat → ClassId) (ad : Nat → Nat) (Post : Int32 → (Nat → Int32) → (Nat → Int64) → (Nat → Nat → Int32) → (Nat → Nat → Int64) → Prop) (C : zCx p s m ([.ref (ad 0)] : List Value).toArray meth c A G K prog_14_method_45_code (some .boolean) 4 "LassoFinderModel") : ∀  (I : Nat → Int32) (J : Nat → Int64) (B : Nat → Nat → Int32) (D : Nat → Nat → Int64) (ls : Array Slot) (H : Heap) (locs : List Loc), wc_LassoFinderModel_atom_148  Post  I J B D → lv_has ls 4 [] → zW G A s.heap (wM ad K I J B D) H locs → W p l e { frames := 3, cells := 0, slots := 0, locals := 72 } s m ([.ref (ad 0)] : List Value).toArray below meth c H locs 0 0 (MQ below (va_Qi (fun (r : Int32) (u : zS) => Post r u.1 u.2.1 u.2.2.1 u.2.2.2) (fun u t => zPost G K A (wM ad K u.1 u.2.1 u.2.2.1 u.2.2.2) t) A) ([.ref (ad 0)] : List Value).toArray s 0 0 A) (F0 m 148 ls []) := by
  obtain ⟨hx, hb, hr, hml, hts, hown, hlocks, hA, hK⟩ := id C
  intro  I J B D ls H locs hok hl hw
  unfold wc_LassoFinderModel_atom_148 at hok
  refine lv_iconst (v := 0) hx hb zd_LassoFinderModel_atom_148 (by decide) ?_
  exact (z_iret (u := (I, J, B, D)) hx hb hr hlocks rfl hw (List.range 58) wM_all wM_nd hok (Nat.le_of_ble_eq_true rfl) (Nat.le_of_ble_eq_true rfl) zd_LassoFinderModel_atom_149)
set_option maxHeartbeats 8000000 in
set_option maxRecDepth 100000 in
theorem wB_LassoFinderModel_atom_94 {p : Program} {l : Launch} {e : Env} {s : State} {m : MethodId} {below : List Frame} {meth : Method} {c : Code} {A : Nat → Prop} (G : va_G) (K : Nat → ClassId) (ad : Nat → Nat) (Post : Int32 → (Nat → Int32) → (Nat → Int64) → (Nat → Nat → Int32) → (Nat → Nat → Int64) → Prop) (C : zCx p s m ([.ref (ad 0)] : List Value).toArray meth c A G K prog_14_method_45_code (some .boolean) 4 "LassoFinderModel") (K94 : Int32 → Int32 → Int32 → (Nat → Int32) → (Nat → Int64) → (Nat → Nat → Int32) → (Nat → Nat → Int64) → Prop) (kh94 : ∀ (x1 : Int32) (x2 : Int32) (x3 : Int32) (I : Nat → Int32) (J : Nat → Int64) (B : Nat → Nat → Int32) (D : Nat → Nat → Int64) (ls : Array Slot) (H : Heap) (locs : List Loc), K94 x1 x2 x3 I J B D → lv_has ls 4 [(0, .ref (ad 0)), (1, .int x1), (2, .int x2), (3, .int x3)] → zW G A s.heap (wM ad K I J B D) H locs → W p l e { frames := 3, cells := 0, slots := 0, locals := 72 } s m ([.ref (ad 0)] : List Value).toArray below meth c H locs 0 0 (MQ below (va_Qi (fun (r : Int32) (u : zS) => Post r u.1 u.2.1 u.2.2.1 u.2.2.2) (fun u t => zPost G K A (wM ad K u.1 u.2.1 u.2.2.1 u.2.2.2) t) A) ([.ref (ad 0)] : List Value).toArray s 0 0 A) (F0 m 94 ls [])) : ∀ (x1 : Int32) (x2 : Int32) (x3 : Int32) (I : Nat → Int32) (J : Nat → Int64) (B : Nat → Nat → Int32) (D : Nat → Nat → Int64) (ls : Array Slot) (H : Heap) (locs : List Loc), wb_LassoFinderModel_atom_94  K94 Post x1 x2 x3 I J B D → lv_has ls 4 [(0, .ref (ad 0)), (1, .int x1), (2, .int x2), (3, .int x3)] → zW G A s.heap (wM ad K I J B D) H locs → W p l e { frames := 3, cells := 0, slots := 0, locals := 72 } s m ([.ref (ad 0)] : List Value).toArray below meth c H locs 0 0 (MQ below (va_Qi (fun (r : Int32) (u : zS) => Post r u.1 u.2.1 u.2.2.1 u.2.2.2) (fun u t => zPost G K A (wM ad K u.1 u.2.1 u.2.2.1 u.2.2.2) t) A) ([.ref (ad 0)] : List Value).toArray s 0 0 A) (F0 m 94 ls []) := by
  obtain ⟨hx, hb, hr, hml, hts, hown, hlocks, hA, hK⟩ := id C
  intro x1 x2 x3 I J B D ls H locs hok hl hw
  unfold wb_LassoFinderModel_atom_94 at hok
  refine lv_iload_n hx hb zd_LassoFinderModel_atom_94 rfl (lv_at hl 3 rfl) ?_
  refine lv_iload_n hx hb zd_LassoFinderModel_atom_95 rfl (lv_at hl 1 rfl) ?_
  refine lv_icmp_ge (tgt := 117) hx hb zd_LassoFinderModel_atom_96 (by decide) (fun hc4 => ?_) (fun hc4 => ?_)
  · have hok := hok.1 hc4
    refine lv_aload_n hx hb zd_LassoFinderModel_atom_117 rfl (lv_at hl 0 rfl) ?_
    refine lv_iload_n hx hb zd_LassoFinderModel_atom_118 rfl (lv_at hl 1 rfl) ?_
    refine z_put (v := .int x1) hx hb hts hown hK hw zZ12 0 wM_g0 42 (by decide) zm_348 rfl rfl rfl (Nat.le_of_ble_eq_true rfl) zd_LassoFinderModel_atom_119 (fun H locs hw => ?_)
    have hw := wM_sI13 hw
    refine lv_aload_n hx hb zd_LassoFinderModel_atom_122 rfl (lv_at hl 0 rfl) ?_
    refine z_get (v := .ref (ad 50)) hx hb hts hown hK hw zZ12 0 wM_g0 73 (by decide) zm_284 rfl zd_LassoFinderModel_atom_123 ?_
    refine lv_aload_n hx hb zd_LassoFinderModel_atom_126 rfl (lv_at hl 0 rfl) ?_
    refine z_get (v := .int (I 23)) hx hb hts hown hK hw zZ12 0 wM_g0 69 (by decide) zm_353 rfl zd_LassoFinderModel_atom_127 ?_
    refine lv_aload_n hx hb zd_LassoFinderModel_atom_130 rfl (lv_at hl 0 rfl) ?_
    refine z_get (v := .int (I 11)) hx hb hts hown hK hw zZ12 0 wM_g0 36 (by decide) zm_296 rfl zd_LassoFinderModel_atom_131 ?_
    refine va_iast (f := (B 47)) hx hb hK hw.1 hw.2.1 hw.2.2 50 0 wM_a50 rfl hok.1 zd_LassoFinderModel_atom_134 (fun H locs w91 w92 w93 => ?_)
    have hok := hok.2
    have hw := wM_t50 ⟨w91, w92, w93⟩
    refine lv_iload_n hx hb zd_LassoFinderModel_atom_135 rfl (lv_at hl 2 rfl) ?_
    refine lv_if_eq (tgt := 148) hx hb zd_LassoFinderModel_atom_136 (by decide) (fun hc5 => ?_) (fun hc5 => ?_)
    · have hok := hok.1 hc5
      exact wJ_LassoFinderModel_atom_148 G K ad  Post C (upd I 13 x1) J (va_up B 47 (upd (B 47) (I 23).toNatClampNeg (I 11))) D ls H locs hok (lv_sub hl [] rfl) hw
    · have hok := hok.2 hc5
      refine lv_aload_n hx hb zd_LassoFinderModel_atom_139 rfl (lv_at hl 0 rfl) ?_
      refine lv_bipush (v := 125) hx hb zd_LassoFinderModel_atom_140 (by decide) ?_
      refine z_calli (w1 := fun (u : zS) => wM ad K u.1 u.2.1 u.2.2.1 u.2.2.2) (wr := []) (z_runV (q0 := 0) (wc := (wM ad K (upd I 13 x1) J (va_up B 47 (upd (B 47) (I 23).toNatClampNeg (I 11))) D)) (As := [.int 125]) (rest := []) ⟨hx, hb, hml, hown, hts⟩ (w_LassoFinderModel_takes l G K ad (upd I 13 x1) J (va_up B 47 (upd (B 47) (I 23).toNatClampNeg (I 11))) D 125 _ H.size hok) zf_LassoFinderModel_takes zm_347 ⟨Nat.le_of_ble_eq_true rfl, Nat.le_of_ble_eq_true rfl⟩ hK hw (List.range 58) wM_all wM_nd wM_g0 rfl rfl hl.1 rfl (Nat.le_of_ble_eq_true rfl) zd_LassoFinderModel_atom_142 ⟨Nat.le_of_ble_eq_true rfl, Nat.le_of_ble_eq_true rfl⟩) hw hA (List.range 58) [] wM_all rfl (by decide) (fun i hi => by cases hi) (fun r6 u H locs hok hw => ?_)
      obtain ⟨I6, J6, B6, D6⟩ := u
      dsimp only at hok
      have hw : zW G A s.heap (wM ad K I6 J6 B6 D6) H locs := hw
      refine lv_if_ne (tgt := 150) hx hb zd_LassoFinderModel_atom_145 (by decide) (fun hc7 => ?_) (fun hc7 => ?_)
      · have hok := hok.1 hc7
        refine lv_goto (tgt := 274) hx hb zd_LassoFinderModel_atom_150 (by decide) ?_
        exact wJ_LassoFinderModel_atom_274 G K ad  Post C I6 J6 B6 D6 ls H locs hok (lv_sub hl [0] rfl) hw
      · have hok := hok.2 hc7
        exact wJ_LassoFinderModel_atom_148 G K ad  Post C I6 J6 B6 D6 ls H locs hok (lv_sub hl [] rfl) hw
  · have hok := hok.2 hc4
    refine lv_aload_n hx hb zd_LassoFinderModel_atom_99 rfl (lv_at hl 0 rfl) ?_
    refine z_get (v := .ref (ad 30)) hx hb hts hown hK hw zZ12 0 wM_g0 43 (by decide) zm_264 rfl zd_LassoFinderModel_atom_100 ?_
    refine lv_iload_n hx hb zd_LassoFinderModel_atom_103 rfl (lv_at hl 3 rfl) ?_
    refine lv_aload_n hx hb zd_LassoFinderModel_atom_104 rfl (lv_at hl 0 rfl) ?_
    refine z_get (v := .ref (ad 45)) hx hb hts hown hK hw zZ12 0 wM_g0 66 (by decide) zm_279 rfl zd_LassoFinderModel_atom_105 ?_
    refine lv_iload_n hx hb zd_LassoFinderModel_atom_108 rfl (lv_at hl 3 rfl) ?_
    refine va_iald (f := (B 42)) hx hb hK hw.1 45 0 wM_a45 rfl hok.1 zd_LassoFinderModel_atom_109 ?_
    have hok := hok.2
    refine lv_topi (fun z8 ez8 => ?_)
    have hok := hok z8 ez8
    refine va_iast (f := (B 28)) hx hb hK hw.1 hw.2.1 hw.2.2 30 0 wM_a30 rfl hok.1 zd_LassoFinderModel_atom_110 (fun H locs w91 w92 w93 => ?_)
    have hok := hok.2
    have hw := wM_t30 ⟨w91, w92, w93⟩
    obtain ⟨z9, ez9⟩ : ∃ z : Int32, z = (x3 + 1) := ⟨_, rfl⟩
    have hok := hok z9 ez9
    refine lv_iinc (v := z9) hx hb zd_LassoFinderModel_atom_111 hl (k := 3) rfl ez9.symm (by decide) rfl (fun ls hl => ?_)
    have hl : lv_has ls 4 [(3, .int z9), (0, .ref (ad 0)), (1, .int x1), (2, .int x2)] := hl
    refine lv_goto (tgt := 94) hx hb zd_LassoFinderModel_atom_114 (by decide) ?_
    exact kh94 x1 x2 z9 I J (va_up B 28 (upd (B 28) x3.toNatClampNeg z8)) D ls H locs hok (lv_sub hl [1, 2, 3, 0] rfl) hw
theorem wL_LassoFinderModel_atom_94 {p : Program} {l : Launch} {e : Env} {s : State} {m : MethodId} {below : List Frame} {meth : Method} {c : Code} {A : Nat → Prop} (G : va_G) (K : Nat → ClassId) (ad : Nat → Nat) (Post : Int32 → (Nat → Int32) → (Nat → Int64) → (Nat → Nat → Int32) → (Nat → Nat → Int64) → Prop) (C : zCx p s m ([.ref (ad 0)] : List Value).toArray meth c A G K prog_14_method_45_code (some .boolean) 4 "LassoFinderModel") : ∀ (n : Nat) (x1 : Int32) (x2 : Int32) (x3 : Int32) (I : Nat → Int32) (J : Nat → Int64) (B : Nat → Nat → Int32) (D : Nat → Nat → Int64) (ls : Array Slot) (H : Heap) (locs : List Loc), wl_LassoFinderModel_atom_94  Post n x1 x2 x3 I J B D → lv_has ls 4 [(0, .ref (ad 0)), (1, .int x1), (2, .int x2), (3, .int x3)] → zW G A s.heap (wM ad K I J B D) H locs → W p l e { frames := 3, cells := 0, slots := 0, locals := 72 } s m ([.ref (ad 0)] : List Value).toArray below meth c H locs 0 0 (MQ below (va_Qi (fun (r : Int32) (u : zS) => Post r u.1 u.2.1 u.2.2.1 u.2.2.2) (fun u t => zPost G K A (wM ad K u.1 u.2.1 u.2.2.1 u.2.2.2) t) A) ([.ref (ad 0)] : List Value).toArray s 0 0 A) (F0 m 94 ls []) := by
  intro n
  induction n with
  | zero => intro x1 x2 x3 I J B D ls H locs hok; exact hok.elim
  | succ n ih => exact wB_LassoFinderModel_atom_94 G K ad  Post C (wl_LassoFinderModel_atom_94  Post n) ih
set_option maxHeartbeats 8000000 in
set_option maxRecDepth 100000 in
theorem wB_LassoFinderModel_atom_63 {p : Program} {l : Launch} {e : Env} {s : State} {m : MethodId} {below : List Frame} {meth : Method} {c : Code} {A : Nat → Prop} (G : va_G) (K : Nat → ClassId) (ad : Nat → Nat) (Post : Int32 → (Nat → Int32) → (Nat → Int64) → (Nat → Nat → Int32) → (Nat → Nat → Int64) → Prop) (C : zCx p s m ([.ref (ad 0)] : List Value).toArray meth c A G K prog_14_method_45_code (some .boolean) 4 "LassoFinderModel") (K63 : Int32 → Int32 → (Nat → Int32) → (Nat → Int64) → (Nat → Nat → Int32) → (Nat → Nat → Int64) → Prop) (kh63 : ∀ (x1 : Int32) (x2 : Int32) (I : Nat → Int32) (J : Nat → Int64) (B : Nat → Nat → Int32) (D : Nat → Nat → Int64) (ls : Array Slot) (H : Heap) (locs : List Loc), K63 x1 x2 I J B D → lv_has ls 4 [(0, .ref (ad 0)), (1, .int x1), (2, .int x2)] → zW G A s.heap (wM ad K I J B D) H locs → W p l e { frames := 3, cells := 0, slots := 0, locals := 72 } s m ([.ref (ad 0)] : List Value).toArray below meth c H locs 0 0 (MQ below (va_Qi (fun (r : Int32) (u : zS) => Post r u.1 u.2.1 u.2.2.1 u.2.2.2) (fun u t => zPost G K A (wM ad K u.1 u.2.1 u.2.2.1 u.2.2.2) t) A) ([.ref (ad 0)] : List Value).toArray s 0 0 A) (F0 m 63 ls [])) : ∀ (x1 : Int32) (x2 : Int32) (I : Nat → Int32) (J : Nat → Int64) (B : Nat → Nat → Int32) (D : Nat → Nat → Int64) (ls : Array Slot) (H : Heap) (locs : List Loc), wb_LassoFinderModel_atom_63  K63 Post x1 x2 I J B D → lv_has ls 4 [(0, .ref (ad 0)), (1, .int x1), (2, .int x2)] → zW G A s.heap (wM ad K I J B D) H locs → W p l e { frames := 3, cells := 0, slots := 0, locals := 72 } s m ([.ref (ad 0)] : List Value).toArray below meth c H locs 0 0 (MQ below (va_Qi (fun (r : Int32) (u : zS) => Post r u.1 u.2.1 u.2.2.1 u.2.2.2) (fun u t => zPost G K A (wM ad K u.1 u.2.1 u.2.2.1 u.2.2.2) t) A) ([.ref (ad 0)] : List Value).toArray s 0 0 A) (F0 m 63 ls []) := by
  obtain ⟨hx, hb, hr, hml, hts, hown, hlocks, hA, hK⟩ := id C
  intro x1 x2 I J B D ls H locs hok hl hw
  unfold wb_LassoFinderModel_atom_63 at hok
  refine lv_iload_n hx hb zd_LassoFinderModel_atom_63 rfl (lv_at hl 2 rfl) ?_
  refine lv_iload_n hx hb zd_LassoFinderModel_atom_64 rfl (lv_at hl 1 rfl) ?_
  refine lv_icmp_ge (tgt := 86) hx hb zd_LassoFinderModel_atom_65 (by decide) (fun hc10 => ?_) (fun hc10 => ?_)
  · have hok := hok.1 hc10
    refine lv_aload_n hx hb zd_LassoFinderModel_atom_86 rfl (lv_at hl 0 rfl) ?_
    refine lv_iconst (v := 0) hx hb zd_LassoFinderModel_atom_87 (by decide) ?_
    refine z_calli (w1 := fun (u : zS) => wM ad K u.1 u.2.1 u.2.2.1 u.2.2.2) (wr := []) (z_runV (q0 := 0) (wc := (wM ad K I J B D)) (As := [.int 0]) (rest := []) ⟨hx, hb, hml, hown, hts⟩ (w_LassoFinderModel_expression l G K ad I J B D 0 _ H.size hok) zf_LassoFinderModel_expression zm_346 ⟨Nat.le_of_ble_eq_true rfl, Nat.le_of_ble_eq_true rfl⟩ hK hw (List.range 58) wM_all wM_nd wM_g0 rfl rfl hl.1 rfl (Nat.le_of_ble_eq_true rfl) zd_LassoFinderModel_atom_88 ⟨Nat.le_of_ble_eq_true rfl, Nat.le_of_ble_eq_true rfl⟩) hw hA (List.range 58) [] wM_all rfl (by decide) (fun i hi => by cases hi) (fun r11 u H locs hok hw => ?_)
    obtain ⟨I11, J11, B11, D11⟩ := u
    dsimp only at hok
    have hw : zW G A s.heap (wM ad K I11 J11 B11 D11) H locs := hw
    refine lv_istore_n hx hb zd_LassoFinderModel_atom_91 rfl hl (by decide) rfl (fun ls hl => ?_)
    have hl : lv_has ls 4 [(2, .int r11), (0, .ref (ad 0)), (1, .int x1)] := hl
    refine lv_iconst (v := 0) hx hb zd_LassoFinderModel_atom_92 (by decide) ?_
    refine lv_istore_n hx hb zd_LassoFinderModel_atom_93 rfl hl (by decide) rfl (fun ls hl => ?_)
    have hl : lv_has ls 4 [(3, .int 0), (2, .int r11), (0, .ref (ad 0)), (1, .int x1)] := hl
    obtain ⟨n9, hok⟩ := hok
    exact wL_LassoFinderModel_atom_94 G K ad  Post C n9 x1 r11 0 I11 J11 B11 D11 ls H locs hok (lv_sub hl [2, 3, 1, 0] rfl) hw
  · have hok := hok.2 hc10
    refine lv_aload_n hx hb zd_LassoFinderModel_atom_68 rfl (lv_at hl 0 rfl) ?_
    refine z_get (v := .ref (ad 45)) hx hb hts hown hK hw zZ12 0 wM_g0 66 (by decide) zm_279 rfl zd_LassoFinderModel_atom_69 ?_
    refine lv_iload_n hx hb zd_LassoFinderModel_atom_72 rfl (lv_at hl 2 rfl) ?_
    refine lv_aload_n hx hb zd_LassoFinderModel_atom_73 rfl (lv_at hl 0 rfl) ?_
    refine z_get (v := .ref (ad 30)) hx hb hts hown hK hw zZ12 0 wM_g0 43 (by decide) zm_264 rfl zd_LassoFinderModel_atom_74 ?_
    refine lv_iload_n hx hb zd_LassoFinderModel_atom_77 rfl (lv_at hl 2 rfl) ?_
    refine va_iald (f := (B 28)) hx hb hK hw.1 30 0 wM_a30 rfl hok.1 zd_LassoFinderModel_atom_78 ?_
    have hok := hok.2
    refine lv_topi (fun z12 ez12 => ?_)
    have hok := hok z12 ez12
    refine va_iast (f := (B 42)) hx hb hK hw.1 hw.2.1 hw.2.2 45 0 wM_a45 rfl hok.1 zd_LassoFinderModel_atom_79 (fun H locs w91 w92 w93 => ?_)
    have hok := hok.2
    have hw := wM_t45 ⟨w91, w92, w93⟩
    obtain ⟨z13, ez13⟩ : ∃ z : Int32, z = (x2 + 1) := ⟨_, rfl⟩
    have hok := hok z13 ez13
    refine lv_iinc (v := z13) hx hb zd_LassoFinderModel_atom_80 hl (k := 2) rfl ez13.symm (by decide) rfl (fun ls hl => ?_)
    have hl : lv_has ls 4 [(2, .int z13), (0, .ref (ad 0)), (1, .int x1)] := hl
    refine lv_goto (tgt := 63) hx hb zd_LassoFinderModel_atom_83 (by decide) ?_
    exact kh63 x1 z13 I J (va_up B 42 (upd (B 42) x2.toNatClampNeg z12)) D ls H locs hok (lv_sub hl [1, 2, 0] rfl) hw
theorem wL_LassoFinderModel_atom_63 {p : Program} {l : Launch} {e : Env} {s : State} {m : MethodId} {below : List Frame} {meth : Method} {c : Code} {A : Nat → Prop} (G : va_G) (K : Nat → ClassId) (ad : Nat → Nat) (Post : Int32 → (Nat → Int32) → (Nat → Int64) → (Nat → Nat → Int32) → (Nat → Nat → Int64) → Prop) (C : zCx p s m ([.ref (ad 0)] : List Value).toArray meth c A G K prog_14_method_45_code (some .boolean) 4 "LassoFinderModel") : ∀ (n : Nat) (x1 : Int32) (x2 : Int32) (I : Nat → Int32) (J : Nat → Int64) (B : Nat → Nat → Int32) (D : Nat → Nat → Int64) (ls : Array Slot) (H : Heap) (locs : List Loc), wl_LassoFinderModel_atom_63  Post n x1 x2 I J B D → lv_has ls 4 [(0, .ref (ad 0)), (1, .int x1), (2, .int x2)] → zW G A s.heap (wM ad K I J B D) H locs → W p l e { frames := 3, cells := 0, slots := 0, locals := 72 } s m ([.ref (ad 0)] : List Value).toArray below meth c H locs 0 0 (MQ below (va_Qi (fun (r : Int32) (u : zS) => Post r u.1 u.2.1 u.2.2.1 u.2.2.2) (fun u t => zPost G K A (wM ad K u.1 u.2.1 u.2.2.1 u.2.2.2) t) A) ([.ref (ad 0)] : List Value).toArray s 0 0 A) (F0 m 63 ls []) := by
  intro n
  induction n with
  | zero => intro x1 x2 I J B D ls H locs hok; exact hok.elim
  | succ n ih => exact wB_LassoFinderModel_atom_63 G K ad  Post C (wl_LassoFinderModel_atom_63  Post n) ih
set_option maxHeartbeats 8000000 in
set_option maxRecDepth 100000 in
theorem w_LassoFinderModel_atom (l : Launch) (G : va_G) (K : Nat → ClassId) (ad : Nat → Nat) (I : Nat → Int32) (J : Nat → Int64) (B : Nat → Nat → Int32) (D : Nat → Nat → Int64) (Post : Int32 → (Nat → Int32) → (Nat → Int64) → (Nat → Nat → Int32) → (Nat → Nat → Int64) → Prop) (sz : Nat) (hok : wp_LassoFinderModel_atom I J B D  Post) : Met l zy_LassoFinderModel_atom (Cond.code zy_LassoFinderModel_atom prog_14_method_45_code 4 (some .boolean) :: zTB) { frames := 3, cells := 0, slots := 0, locals := 72 } (va_Pc [.ref (ad 0)] (zPre G K (wM ad K I J B D) sz)) (va_Qi (fun (r : Int32) (u : zS) => Post r u.1 u.2.1 u.2.2.1 u.2.2.2) (fun u t => zPost G K (va_A (wM ad K I J B D) sz) (wM ad K u.1 u.2.1 u.2.2.1 u.2.2.2) t) (va_A (wM ad K I J B D) sz)) 0 0 (va_A (wM ad K I J B D) sz) := by
  refine zMet (y := zy_LassoFinderModel_atom) (av := [.ref (ad 0)]) (maxL := 4) (cc := prog_14_method_45_code) (ret := (some .boolean)) (W0 := (wM ad K I J B D)) (sz := sz) (G := G) (K := K) (wt := zTB) (mc := 0) (ms := 0) (Qf := fun A => va_Qi (fun (r : Int32) (u : zS) => Post r u.1 u.2.1 u.2.2.1 u.2.2.2) (fun u t => zPost G K A (wM ad K u.1 u.2.1 u.2.2.1 u.2.2.2) t) A) (by decide) (Nat.le_of_ble_eq_true rfl) ?_
  intro p e s m below meth c ls A hx hb hr hml hts hown hlocks hin hA hK H locs hw hsz hl
  clear hsz
  have hown : s.vm.findClass "LassoFinderModel" = some m.cls := hown
  have C : zCx p s m ([.ref (ad 0)] : List Value).toArray meth c A G K prog_14_method_45_code (some .boolean) 4 "LassoFinderModel" := ⟨hx, hb, hr, hml, hts, hown, hlocks, hA, hK⟩
  have hl : lv_has ls 4 [(0, .ref (ad 0))] := hl
  have hw : zW G A s.heap (wM ad K I J B D) H locs := hw
  unfold wp_LassoFinderModel_atom at hok
  refine lv_aload_n hx hb zd_LassoFinderModel_atom_0 rfl (lv_at hl 0 rfl) ?_
  refine z_get (v := .int (I 23)) hx hb hts hown hK hw zZ12 0 wM_g0 69 (by decide) zm_353 rfl zd_LassoFinderModel_atom_1 ?_
  refine lv_bipush (v := 8) hx hb zd_LassoFinderModel_atom_4 (by decide) ?_
  refine lv_icmp_ne (tgt := 14) hx hb zd_LassoFinderModel_atom_6 (by decide) (fun hc14 => ?_) (fun hc14 => ?_)
  · have hok := hok.1 hc14
    refine lv_aload_n hx hb zd_LassoFinderModel_atom_14 rfl (lv_at hl 0 rfl) ?_
    refine z_calli (w1 := fun (u : zS) => wM ad K u.1 u.2.1 u.2.2.1 u.2.2.2) (wr := []) (z_runV (q0 := 0) (wc := (wM ad K I J B D)) (As := []) (rest := []) ⟨hx, hb, hml, hown, hts⟩ (w_LassoFinderModel_here l G K ad I J B D  _ H.size hok) zf_LassoFinderModel_here zm_332 ⟨Nat.le_of_ble_eq_true rfl, Nat.le_of_ble_eq_true rfl⟩ hK hw (List.range 58) wM_all wM_nd wM_g0 rfl rfl hl.1 rfl (Nat.le_of_ble_eq_true rfl) zd_LassoFinderModel_atom_15 ⟨Nat.le_of_ble_eq_true rfl, Nat.le_of_ble_eq_true rfl⟩) hw hA (List.range 58) [] wM_all rfl (by decide) (fun i hi => by cases hi) (fun r15 u H locs hok hw => ?_)
    obtain ⟨I15, J15, B15, D15⟩ := u
    dsimp only at hok
    have hw : zW G A s.heap (wM ad K I15 J15 B15 D15) H locs := hw
    refine lv_bipush (v := 123) hx hb zd_LassoFinderModel_atom_18 (by decide) ?_
    refine lv_icmp_ne (tgt := 153) hx hb zd_LassoFinderModel_atom_20 (by decide) (fun hc16 => ?_) (fun hc16 => ?_)
    · have hok := hok.1 hc16
      refine lv_aload_n hx hb zd_LassoFinderModel_atom_153 rfl (lv_at hl 0 rfl) ?_
      refine lv_dup hx hb zd_LassoFinderModel_atom_154 rfl ?_
      refine z_get (v := .int (I15 2)) hx hb hts hown hK hw zZ12 0 wM_g0 3 (by decide) zm_335 rfl zd_LassoFinderModel_atom_155 ?_
      refine lv_iconst (v := 1) hx hb zd_LassoFinderModel_atom_158 (by decide) ?_
      refine lv_iadd hx hb zd_LassoFinderModel_atom_159 ?_
      refine lv_topi (fun z17 ez17 => ?_)
      have hok := hok z17 ez17
      refine z_put (v := .int z17) hx hb hts hown hK hw zZ12 0 wM_g0 3 (by decide) zm_335 rfl rfl rfl (Nat.le_of_ble_eq_true rfl) zd_LassoFinderModel_atom_160 (fun H locs hw => ?_)
      have hw := wM_sI2 hw
      refine lv_aload_n hx hb zd_LassoFinderModel_atom_163 rfl (lv_at hl 0 rfl) ?_
      refine lv_bipush (v := 48) hx hb zd_LassoFinderModel_atom_164 (by decide) ?_
      refine lv_aload_n hx hb zd_LassoFinderModel_atom_166 rfl (lv_at hl 0 rfl) ?_
      refine z_get (v := .int (I15 10)) hx hb hts hown hK hw zZ12 0 wM_g0 30 (by decide) zm_310 rfl zd_LassoFinderModel_atom_167 ?_
      refine z_calli (w1 := fun (u : zS) => wM ad K u.1 u.2.1 u.2.2.1 u.2.2.2) (wr := []) (z_runV (q0 := 0) (wc := (wM ad K (upd I15 2 z17) J15 B15 D15)) (As := [.int 48, .int (I15 10)]) (rest := []) ⟨hx, hb, hml, hown, hts⟩ (w_LassoFinderModel_from l G K ad (upd I15 2 z17) J15 B15 D15 48 (I15 10) _ H.size hok) zf_LassoFinderModel_from zm_344 ⟨Nat.le_of_ble_eq_true rfl, Nat.le_of_ble_eq_true rfl⟩ hK hw (List.range 58) wM_all wM_nd wM_g0 rfl rfl hl.1 rfl (Nat.le_of_ble_eq_true rfl) zd_LassoFinderModel_atom_170 ⟨Nat.le_of_ble_eq_true rfl, Nat.le_of_ble_eq_true rfl⟩) hw hA (List.range 58) [] wM_all rfl (by decide) (fun i hi => by cases hi) (fun r18 u H locs hok hw => ?_)
      obtain ⟨I18, J18, B18, D18⟩ := u
      dsimp only at hok
      have hw : zW G A s.heap (wM ad K I18 J18 B18 D18) H locs := hw
      refine lv_istore_n hx hb zd_LassoFinderModel_atom_173 rfl hl (by decide) rfl (fun ls hl => ?_)
      have hl : lv_has ls 4 [(1, .int r18), (0, .ref (ad 0))] := hl
      refine lv_iload_n hx hb zd_LassoFinderModel_atom_174 rfl (lv_at hl 0 rfl) ?_
      refine lv_if_ge (tgt := 183) hx hb zd_LassoFinderModel_atom_175 (by decide) (fun hc19 => ?_) (fun hc19 => ?_)
      · have hok := hok.1 hc19
        refine lv_aload_n hx hb zd_LassoFinderModel_atom_183 rfl (lv_at hl 1 rfl) ?_
        refine lv_dup hx hb zd_LassoFinderModel_atom_184 rfl ?_
        refine z_get (v := .int (I18 2)) hx hb hts hown hK hw zZ12 0 wM_g0 3 (by decide) zm_335 rfl zd_LassoFinderModel_atom_185 ?_
        refine lv_iconst (v := 1) hx hb zd_LassoFinderModel_atom_188 (by decide) ?_
        refine lv_iadd hx hb zd_LassoFinderModel_atom_189 ?_
        refine lv_topi (fun z20 ez20 => ?_)
        have hok := hok z20 ez20
        refine z_put (v := .int z20) hx hb hts hown hK hw zZ12 0 wM_g0 3 (by decide) zm_335 rfl rfl rfl (Nat.le_of_ble_eq_true rfl) zd_LassoFinderModel_atom_190 (fun H locs hw => ?_)
        have hw := wM_sI2 hw
        refine lv_aload_n hx hb zd_LassoFinderModel_atom_193 rfl (lv_at hl 1 rfl) ?_
        refine lv_bipush (v := 65) hx hb zd_LassoFinderModel_atom_194 (by decide) ?_
        refine lv_bipush (v := 8) hx hb zd_LassoFinderModel_atom_196 (by decide) ?_
        refine z_calli (w1 := fun (u : zS) => wM ad K u.1 u.2.1 u.2.2.1 u.2.2.2) (wr := []) (z_runV (q0 := 0) (wc := (wM ad K (upd I18 2 z20) J18 B18 D18)) (As := [.int 65, .int 8]) (rest := []) ⟨hx, hb, hml, hown, hts⟩ (w_LassoFinderModel_from l G K ad (upd I18 2 z20) J18 B18 D18 65 8 _ H.size hok) zf_LassoFinderModel_from zm_344 ⟨Nat.le_of_ble_eq_true rfl, Nat.le_of_ble_eq_true rfl⟩ hK hw (List.range 58) wM_all wM_nd wM_g0 rfl rfl hl.1 rfl (Nat.le_of_ble_eq_true rfl) zd_LassoFinderModel_atom_198 ⟨Nat.le_of_ble_eq_true rfl, Nat.le_of_ble_eq_true rfl⟩) hw hA (List.range 58) [] wM_all rfl (by decide) (fun i hi => by cases hi) (fun r21 u H locs hok hw => ?_)
        obtain ⟨I21, J21, B21, D21⟩ := u
        dsimp only at hok
        have hw : zW G A s.heap (wM ad K I21 J21 B21 D21) H locs := hw
        refine lv_istore_n hx hb zd_LassoFinderModel_atom_201 rfl hl (by decide) rfl (fun ls hl => ?_)
        have hl : lv_has ls 4 [(2, .int r21), (1, .int r18), (0, .ref (ad 0))] := hl
        refine lv_iload_n hx hb zd_LassoFinderModel_atom_202 rfl (lv_at hl 0 rfl) ?_
        refine lv_if_lt (tgt := 220) hx hb zd_LassoFinderModel_atom_203 (by decide) (fun hc22 => ?_) (fun hc22 => ?_)
        · have hok := hok.1 hc22
          exact wJ_LassoFinderModel_atom_220 G K ad  Post C I21 J21 B21 D21 ls H locs hok (lv_sub hl [2] rfl) hw
        · have hok := hok.2 hc22
          refine lv_aload_n hx hb zd_LassoFinderModel_atom_206 rfl (lv_at hl 2 rfl) ?_
          refine z_get (v := .ref (ad 23)) hx hb hts hown hK hw zZ12 0 wM_g0 33 (by decide) zm_257 rfl zd_LassoFinderModel_atom_207 ?_
          refine lv_bipush (v := 8) hx hb zd_LassoFinderModel_atom_210 (by decide) ?_
          refine lv_iload_n hx hb zd_LassoFinderModel_atom_212 rfl (lv_at hl 1 rfl) ?_
          refine lv_imul hx hb zd_LassoFinderModel_atom_213 ?_
          refine lv_topi (fun z23 ez23 => ?_)
          have hok := hok z23 ez23
          refine lv_iload_n hx hb zd_LassoFinderModel_atom_214 rfl (lv_at hl 0 rfl) ?_
          refine lv_iadd hx hb zd_LassoFinderModel_atom_215 ?_
          refine lv_topi (fun z24 ez24 => ?_)
          have hok := hok z24 ez24
          refine va_iald (f := (B21 22)) hx hb hK hw.1 23 0 wM_a23 rfl hok.1 zd_LassoFinderModel_atom_216 ?_
          have hok := hok.2
          refine lv_topi (fun z25 ez25 => ?_)
          have hok := hok z25 ez25
          refine lv_if_ge (tgt := 225) hx hb zd_LassoFinderModel_atom_217 (by decide) (fun hc26 => ?_) (fun hc26 => ?_)
          · have hok := hok.1 hc26
            refine lv_aload_n hx hb zd_LassoFinderModel_atom_225 rfl (lv_at hl 2 rfl) ?_
            refine z_get (v := .ref (ad 47)) hx hb hts hown hK hw zZ12 0 wM_g0 70 (by decide) zm_281 rfl zd_LassoFinderModel_atom_226 ?_
            refine lv_aload_n hx hb zd_LassoFinderModel_atom_229 rfl (lv_at hl 2 rfl) ?_
            refine z_get (v := .int (I21 23)) hx hb hts hown hK hw zZ12 0 wM_g0 69 (by decide) zm_353 rfl zd_LassoFinderModel_atom_230 ?_
            refine lv_iload_n hx hb zd_LassoFinderModel_atom_233 rfl (lv_at hl 1 rfl) ?_
            refine va_iast (f := (B21 44)) hx hb hK hw.1 hw.2.1 hw.2.2 47 0 wM_a47 rfl hok.1 zd_LassoFinderModel_atom_234 (fun H locs w91 w92 w93 => ?_)
            have hok := hok.2
            have hw := wM_t47 ⟨w91, w92, w93⟩
            refine lv_aload_n hx hb zd_LassoFinderModel_atom_235 rfl (lv_at hl 2 rfl) ?_
            refine z_get (v := .ref (ad 48)) hx hb hts hown hK hw zZ12 0 wM_g0 71 (by decide) zm_282 rfl zd_LassoFinderModel_atom_236 ?_
            refine lv_aload_n hx hb zd_LassoFinderModel_atom_239 rfl (lv_at hl 2 rfl) ?_
            refine z_get (v := .int (I21 23)) hx hb hts hown hK hw zZ12 0 wM_g0 69 (by decide) zm_353 rfl zd_LassoFinderModel_atom_240 ?_
            refine lv_aload_n hx hb zd_LassoFinderModel_atom_243 rfl (lv_at hl 2 rfl) ?_
            refine lv_iload_n hx hb zd_LassoFinderModel_atom_244 rfl (lv_at hl 1 rfl) ?_
            refine lv_aload_n hx hb zd_LassoFinderModel_atom_245 rfl (lv_at hl 2 rfl) ?_
            refine lv_aload_n hx hb zd_LassoFinderModel_atom_246 rfl (lv_at hl 2 rfl) ?_
            refine z_get (v := .ref (ad 23)) hx hb hts hown hK hw zZ12 0 wM_g0 33 (by decide) zm_257 rfl zd_LassoFinderModel_atom_247 ?_
            refine lv_bipush (v := 8) hx hb zd_LassoFinderModel_atom_250 (by decide) ?_
            refine lv_iload_n hx hb zd_LassoFinderModel_atom_252 rfl (lv_at hl 1 rfl) ?_
            refine lv_imul hx hb zd_LassoFinderModel_atom_253 ?_
            refine lv_topi (fun z27 ez27 => ?_)
            have hok := hok z27 ez27
            refine lv_iload_n hx hb zd_LassoFinderModel_atom_254 rfl (lv_at hl 0 rfl) ?_
            refine lv_iadd hx hb zd_LassoFinderModel_atom_255 ?_
            refine lv_topi (fun z28 ez28 => ?_)
            have hok := hok z28 ez28
            refine va_iald (f := (B21 22)) hx hb hK hw.1 23 0 wM_a23 rfl hok.1 zd_LassoFinderModel_atom_256 ?_
            have hok := hok.2
            refine lv_topi (fun z29 ez29 => ?_)
            have hok := hok z29 ez29
            refine z_calli (w1 := fun (u : zS) => wM ad K u.1 u.2.1 u.2.2.1 u.2.2.2) (wr := []) (z_runV (q0 := 0) (wc := (wM ad K I21 J21 (va_up B21 44 (upd (B21 44) (I21 23).toNatClampNeg r18)) D21)) (As := [.int z29]) (rest := [.int r18, .ref (ad 0), .int (I21 23), .ref (ad 48)]) ⟨hx, hb, hml, hown, hts⟩ (w_LassoFinderModel_instead l G K ad I21 J21 (va_up B21 44 (upd (B21 44) (I21 23).toNatClampNeg r18)) D21 z29 _ H.size hok) zf_LassoFinderModel_instead zm_305 ⟨Nat.le_of_ble_eq_true rfl, Nat.le_of_ble_eq_true rfl⟩ hK hw (List.range 58) wM_all wM_nd wM_g0 rfl rfl hl.1 rfl (Nat.le_of_ble_eq_true rfl) zd_LassoFinderModel_atom_257 ⟨Nat.le_of_ble_eq_true rfl, Nat.le_of_ble_eq_true rfl⟩) hw hA (List.range 58) [] wM_all rfl (by decide) (fun i hi => by cases hi) (fun r30 u H locs hok hw => ?_)
            obtain ⟨I30, J30, B30, D30⟩ := u
            dsimp only at hok
            have hw : zW G A s.heap (wM ad K I30 J30 B30 D30) H locs := hw
            refine z_calli (w1 := fun (u : zS) => wM ad K u.1 u.2.1 u.2.2.1 u.2.2.2) (wr := []) (z_runV (q0 := 0) (wc := (wM ad K I30 J30 B30 D30)) (As := [.int r18, .int r30]) (rest := [.int (I21 23), .ref (ad 48)]) ⟨hx, hb, hml, hown, hts⟩ (w_LassoFinderModel_pointOf l G K ad I30 J30 B30 D30 r18 r30 _ H.size hok) zf_LassoFinderModel_pointOf zm_306 ⟨Nat.le_of_ble_eq_true rfl, Nat.le_of_ble_eq_true rfl⟩ hK hw (List.range 58) wM_all wM_nd wM_g0 rfl rfl hl.1 rfl (Nat.le_of_ble_eq_true rfl) zd_LassoFinderModel_atom_260 ⟨Nat.le_of_ble_eq_true rfl, Nat.le_of_ble_eq_true rfl⟩) hw hA (List.range 58) [] wM_all rfl (by decide) (fun i hi => by cases hi) (fun r31 u H locs hok hw => ?_)
            obtain ⟨I31, J31, B31, D31⟩ := u
            dsimp only at hok
            have hw : zW G A s.heap (wM ad K I31 J31 B31 D31) H locs := hw
            refine va_iast (f := (B31 45)) hx hb hK hw.1 hw.2.1 hw.2.2 48 0 wM_a48 rfl hok.1 zd_LassoFinderModel_atom_263 (fun H locs w91 w92 w93 => ?_)
            have hok := hok.2
            have hw := wM_t48 ⟨w91, w92, w93⟩
            refine lv_aload_n hx hb zd_LassoFinderModel_atom_264 rfl (lv_at hl 2 rfl) ?_
            refine lv_dup hx hb zd_LassoFinderModel_atom_265 rfl ?_
            refine z_get (v := .int (I31 2)) hx hb hts hown hK hw zZ12 0 wM_g0 3 (by decide) zm_335 rfl zd_LassoFinderModel_atom_266 ?_
            refine lv_iconst (v := 1) hx hb zd_LassoFinderModel_atom_269 (by decide) ?_
            refine lv_iadd hx hb zd_LassoFinderModel_atom_270 ?_
            refine lv_topi (fun z32 ez32 => ?_)
            have hok := hok z32 ez32
            refine z_put (v := .int z32) hx hb hts hown hK hw zZ12 0 wM_g0 3 (by decide) zm_335 rfl rfl rfl (Nat.le_of_ble_eq_true rfl) zd_LassoFinderModel_atom_271 (fun H locs hw => ?_)
            have hw := wM_sI2 hw
            exact wJ_LassoFinderModel_atom_274 G K ad  Post C (upd I31 2 z32) J31 (va_up B31 45 (upd (B31 45) (I21 23).toNatClampNeg r31)) D31 ls H locs hok (lv_sub hl [2] rfl) hw
          · have hok := hok.2 hc26
            exact wJ_LassoFinderModel_atom_220 G K ad  Post C I21 J21 B21 D21 ls H locs hok (lv_sub hl [2] rfl) hw
      · have hok := hok.2 hc19
        refine lv_aload_n hx hb zd_LassoFinderModel_atom_178 rfl (lv_at hl 1 rfl) ?_
        refine z_calli (w1 := fun (u : zS) => wM ad K u.1 u.2.1 u.2.2.1 u.2.2.2) (wr := []) (z_runV (q0 := 0) (wc := (wM ad K I18 J18 B18 D18)) (As := []) (rest := []) ⟨hx, hb, hml, hown, hts⟩ (w_LassoFinderModel_fail l G K ad I18 J18 B18 D18  _ H.size hok) zf_LassoFinderModel_fail zm_334 ⟨Nat.le_of_ble_eq_true rfl, Nat.le_of_ble_eq_true rfl⟩ hK hw (List.range 58) wM_all wM_nd wM_g0 rfl rfl hl.1 rfl (Nat.le_of_ble_eq_true rfl) zd_LassoFinderModel_atom_179 ⟨Nat.le_of_ble_eq_true rfl, Nat.le_of_ble_eq_true rfl⟩) hw hA (List.range 58) [] wM_all rfl (by decide) (fun i hi => by cases hi) (fun r33 u H locs hok hw => ?_)
        obtain ⟨I33, J33, B33, D33⟩ := u
        dsimp only at hok
        have hw : zW G A s.heap (wM ad K I33 J33 B33 D33) H locs := hw
        have hbo := hok.1
        have hok := hok.2
        exact (z_iret (u := (I33, J33, B33, D33)) hx hb hr hlocks (z_nar hbo) hw (List.range 58) wM_all wM_nd hok (Nat.le_of_ble_eq_true rfl) (Nat.le_of_ble_eq_true rfl) zd_LassoFinderModel_atom_182)
    · have hok := hok.2 hc16
      refine lv_aload_n hx hb zd_LassoFinderModel_atom_23 rfl (lv_at hl 0 rfl) ?_
      refine lv_dup hx hb zd_LassoFinderModel_atom_24 rfl ?_
      refine z_get (v := .int (I15 2)) hx hb hts hown hK hw zZ12 0 wM_g0 3 (by decide) zm_335 rfl zd_LassoFinderModel_atom_25 ?_
      refine lv_iconst (v := 1) hx hb zd_LassoFinderModel_atom_28 (by decide) ?_
      refine lv_iadd hx hb zd_LassoFinderModel_atom_29 ?_
      refine lv_topi (fun z34 ez34 => ?_)
      have hok := hok z34 ez34
      refine z_put (v := .int z34) hx hb hts hown hK hw zZ12 0 wM_g0 3 (by decide) zm_335 rfl rfl rfl (Nat.le_of_ble_eq_true rfl) zd_LassoFinderModel_atom_30 (fun H locs hw => ?_)
      have hw := wM_sI2 hw
      refine lv_aload_n hx hb zd_LassoFinderModel_atom_33 rfl (lv_at hl 0 rfl) ?_
      refine z_get (v := .int (I15 13)) hx hb hts hown hK hw zZ12 0 wM_g0 42 (by decide) zm_348 rfl zd_LassoFinderModel_atom_34 ?_
      refine lv_istore_n hx hb zd_LassoFinderModel_atom_37 rfl hl (by decide) rfl (fun ls hl => ?_)
      have hl : lv_has ls 4 [(1, .int (I15 13)), (0, .ref (ad 0))] := hl
      refine lv_aload_n hx hb zd_LassoFinderModel_atom_38 rfl (lv_at hl 1 rfl) ?_
      refine z_get (v := .ref (ad 47)) hx hb hts hown hK hw zZ12 0 wM_g0 70 (by decide) zm_281 rfl zd_LassoFinderModel_atom_39 ?_
      refine lv_aload_n hx hb zd_LassoFinderModel_atom_42 rfl (lv_at hl 1 rfl) ?_
      refine z_get (v := .int (I15 23)) hx hb hts hown hK hw zZ12 0 wM_g0 69 (by decide) zm_353 rfl zd_LassoFinderModel_atom_43 ?_
      refine lv_iconst (v := (-1)) hx hb zd_LassoFinderModel_atom_46 (by decide) ?_
      refine va_iast (f := (B15 44)) hx hb hK hw.1 hw.2.1 hw.2.2 47 0 wM_a47 rfl hok.1 zd_LassoFinderModel_atom_47 (fun H locs w91 w92 w93 => ?_)
      have hok := hok.2
      have hw := wM_t47 ⟨w91, w92, w93⟩
      refine lv_aload_n hx hb zd_LassoFinderModel_atom_48 rfl (lv_at hl 1 rfl) ?_
      refine z_get (v := .ref (ad 49)) hx hb hts hown hK hw zZ12 0 wM_g0 72 (by decide) zm_283 rfl zd_LassoFinderModel_atom_49 ?_
      refine lv_aload_n hx hb zd_LassoFinderModel_atom_52 rfl (lv_at hl 1 rfl) ?_
      refine z_get (v := .int (I15 23)) hx hb hts hown hK hw zZ12 0 wM_g0 69 (by decide) zm_353 rfl zd_LassoFinderModel_atom_53 ?_
      refine lv_aload_n hx hb zd_LassoFinderModel_atom_56 rfl (lv_at hl 1 rfl) ?_
      refine z_get (v := .int (I15 11)) hx hb hts hown hK hw zZ12 0 wM_g0 36 (by decide) zm_296 rfl zd_LassoFinderModel_atom_57 ?_
      refine va_iast (f := (B15 46)) hx hb hK hw.1 hw.2.1 hw.2.2 49 0 wM_a49 rfl hok.1 zd_LassoFinderModel_atom_60 (fun H locs w91 w92 w93 => ?_)
      have hok := hok.2
      have hw := wM_t49 ⟨w91, w92, w93⟩
      refine lv_iconst (v := 0) hx hb zd_LassoFinderModel_atom_61 (by decide) ?_
      refine lv_istore_n hx hb zd_LassoFinderModel_atom_62 rfl hl (by decide) rfl (fun ls hl => ?_)
      have hl : lv_has ls 4 [(2, .int 0), (1, .int (I15 13)), (0, .ref (ad 0))] := hl
      obtain ⟨n9, hok⟩ := hok
      exact wL_LassoFinderModel_atom_63 G K ad  Post C n9 (I15 13) 0 (upd I15 2 z34) J15 (va_up (va_up B15 44 (upd (B15 44) (I15 23).toNatClampNeg (-1))) 46 (upd (B15 46) (I15 23).toNatClampNeg (I15 11))) D15 ls H locs hok (lv_sub hl [2, 1, 0] rfl) hw
  · have hok := hok.2 hc14
    refine lv_aload_n hx hb zd_LassoFinderModel_atom_9 rfl (lv_at hl 0 rfl) ?_
    refine z_calli (w1 := fun (u : zS) => wM ad K u.1 u.2.1 u.2.2.1 u.2.2.2) (wr := []) (z_runV (q0 := 0) (wc := (wM ad K I J B D)) (As := []) (rest := []) ⟨hx, hb, hml, hown, hts⟩ (w_LassoFinderModel_fail l G K ad I J B D  _ H.size hok) zf_LassoFinderModel_fail zm_334 ⟨Nat.le_of_ble_eq_true rfl, Nat.le_of_ble_eq_true rfl⟩ hK hw (List.range 58) wM_all wM_nd wM_g0 rfl rfl hl.1 rfl (Nat.le_of_ble_eq_true rfl) zd_LassoFinderModel_atom_10 ⟨Nat.le_of_ble_eq_true rfl, Nat.le_of_ble_eq_true rfl⟩) hw hA (List.range 58) [] wM_all rfl (by decide) (fun i hi => by cases hi) (fun r35 u H locs hok hw => ?_)
    obtain ⟨I35, J35, B35, D35⟩ := u
    dsimp only at hok
    have hw : zW G A s.heap (wM ad K I35 J35 B35 D35) H locs := hw
    have hbo := hok.1
    have hok := hok.2
    exact (z_iret (u := (I35, J35, B35, D35)) hx hb hr hlocks (z_nar hbo) hw (List.range 58) wM_all wM_nd hok (Nat.le_of_ble_eq_true rfl) (Nat.le_of_ble_eq_true rfl) zd_LassoFinderModel_atom_13)
def wc_LassoFinderModel_wholeFormula_349 (K47 : Int32 → Int32 → (Nat → Int32) → (Nat → Int64) → (Nat → Nat → Int32) → (Nat → Nat → Int64) → Prop) (Post : Int32 → (Nat → Int32) → (Nat → Int64) → (Nat → Nat → Int32) → (Nat → Nat → Int64) → Prop) (x1 : Int32) (x2 : Int32) (I : Nat → Int32) (J : Nat → Int64) (B : Nat → Nat → Int32) (D : Nat → Nat → Int64) : Prop :=
  K47 x1 x2 I J B D
def wc_LassoFinderModel_wholeFormula_336 (K47 : Int32 → Int32 → (Nat → Int32) → (Nat → Int64) → (Nat → Nat → Int32) → (Nat → Nat → Int64) → Prop) (Post : Int32 → (Nat → Int32) → (Nat → Int64) → (Nat → Nat → Int32) → (Nat → Nat → Int64) → Prop) (x1 : Int32) (x4 : Int32) (I : Nat → Int32) (J : Nat → Int64) (B : Nat → Nat → Int32) (D : Nat → Nat → Int64) : Prop :=
  wp_LassoFinderModel_push I J B D x4 (fun r1 I1 J1 B1 D1 => ((¬ r1 = 0 → wc_LassoFinderModel_wholeFormula_349  K47 Post x1 1 I1 J1 B1 D1) ∧ (r1 = 0 → Post 0 I1 J1 B1 D1)))
def wc_LassoFinderModel_wholeFormula_333 (K47 : Int32 → Int32 → (Nat → Int32) → (Nat → Int64) → (Nat → Nat → Int32) → (Nat → Nat → Int64) → Prop) (Post : Int32 → (Nat → Int32) → (Nat → Int64) → (Nat → Nat → Int32) → (Nat → Nat → Int64) → Prop) (x1 : Int32) (x4 : Int32) (y0 : Int32) (I : Nat → Int32) (J : Nat → Int64) (B : Nat → Nat → Int32) (D : Nat → Nat → Int64) : Prop :=
  wp_LassoFinderModel_putAll I J B D y0 (fun I3 J3 B3 D3 => wc_LassoFinderModel_wholeFormula_336  K47 Post x1 x4 I3 J3 B3 D3)
def wc_LassoFinderModel_wholeFormula_295 (K47 : Int32 → Int32 → (Nat → Int32) → (Nat → Int64) → (Nat → Nat → Int32) → (Nat → Nat → Int64) → Prop) (Post : Int32 → (Nat → Int32) → (Nat → Int64) → (Nat → Nat → Int32) → (Nat → Nat → Int64) → Prop) (x1 : Int32) (y0 : Int32) (I : Nat → Int32) (J : Nat → Int64) (B : Nat → Nat → Int32) (D : Nat → Nat → Int64) : Prop :=
  (((0 : Int32) ≤ y0 → wp_LassoFinderModel_binds I J B D y0 (fun r5 I5 J5 B5 D5 => (((4 : Int32) ≤ r5 → wc_LassoFinderModel_wholeFormula_336  K47 Post x1 y0 I5 J5 B5 D5) ∧ (¬ (4 : Int32) ≤ r5 → ((¬ y0 = 11 → wp_LassoFinderModel_binds I5 J5 B5 D5 y0 (fun r8 I8 J8 B8 D8 => wc_LassoFinderModel_wholeFormula_333  K47 Post x1 y0 r8 I8 J8 B8 D8)) ∧ (y0 = 11 → wc_LassoFinderModel_wholeFormula_333  K47 Post x1 y0 2 I5 J5 B5 D5)))))) ∧ (¬ (0 : Int32) ≤ y0 → wp_LassoFinderModel_fail I J B D  (fun r9 I9 J9 B9 D9 => (r9 = 0 ∨ r9 = 1) ∧ Post r9 I9 J9 B9 D9)))
def wc_LassoFinderModel_wholeFormula_185 (K47 : Int32 → Int32 → (Nat → Int32) → (Nat → Int64) → (Nat → Nat → Int32) → (Nat → Nat → Int64) → Prop) (Post : Int32 → (Nat → Int32) → (Nat → Int64) → (Nat → Nat → Int32) → (Nat → Nat → Int64) → Prop) (x1 : Int32) (x2 : Int32) (I : Nat → Int32) (J : Nat → Int64) (B : Nat → Nat → Int32) (D : Nat → Nat → Int64) : Prop :=
  wc_LassoFinderModel_wholeFormula_349  K47 Post x1 x2 I J B D
def wc_LassoFinderModel_wholeFormula_169 (K47 : Int32 → Int32 → (Nat → Int32) → (Nat → Int64) → (Nat → Nat → Int32) → (Nat → Nat → Int64) → Prop) (Post : Int32 → (Nat → Int32) → (Nat → Int64) → (Nat → Nat → Int32) → (Nat → Nat → Int64) → Prop) (x1 : Int32) (I : Nat → Int32) (J : Nat → Int64) (B : Nat → Nat → Int32) (D : Nat → Nat → Int64) : Prop :=
  wp_LassoFinderModel_atom I J B D  (fun r10 I10 J10 B10 D10 => ((¬ r10 = 0 → wp_LassoFinderModel_putAll I10 J10 B10 D10 5 (fun I12 J12 B12 D12 => wc_LassoFinderModel_wholeFormula_185  K47 Post x1 0 I12 J12 B12 D12)) ∧ (r10 = 0 → Post 0 I10 J10 B10 D10)))
def wc_LassoFinderModel_wholeFormula_147 (K47 : Int32 → Int32 → (Nat → Int32) → (Nat → Int64) → (Nat → Nat → Int32) → (Nat → Nat → Int64) → Prop) (Post : Int32 → (Nat → Int32) → (Nat → Int64) → (Nat → Nat → Int32) → (Nat → Nat → Int64) → Prop) (x2 : Int32) (y0 : Int32) (y1 : Int32) (I : Nat → Int32) (J : Nat → Int64) (B : Nat → Nat → Int32) (D : Nat → Nat → Int64) : Prop :=
  ∀ z13 : Int32, z13 = (y1 + y0) → wc_LassoFinderModel_wholeFormula_185  K47 Post z13 x2 I J B D
def wc_LassoFinderModel_wholeFormula_116 (K47 : Int32 → Int32 → (Nat → Int32) → (Nat → Int64) → (Nat → Nat → Int32) → (Nat → Nat → Int64) → Prop) (Post : Int32 → (Nat → Int32) → (Nat → Int64) → (Nat → Nat → Int32) → (Nat → Nat → Int64) → Prop) (x1 : Int32) (x2 : Int32) (x3 : Int32) (y0 : Int32) (I : Nat → Int32) (J : Nat → Int64) (B : Nat → Nat → Int32) (D : Nat → Nat → Int64) : Prop :=
  ((y0 < 0 → ((x3 = 123 → wc_LassoFinderModel_wholeFormula_169  K47 Post x1 I J B D) ∧ (¬ x3 = 123 → ((x3 = 64 → wc_LassoFinderModel_wholeFormula_169  K47 Post x1 I J B D) ∧ (¬ x3 = 64 → wp_LassoFinderModel_fail I J B D  (fun r17 I17 J17 B17 D17 => (r17 = 0 ∨ r17 = 1) ∧ Post r17 I17 J17 B17 D17)))))) ∧ (¬ y0 < 0 → wp_LassoFinderModel_push I J B D y0 (fun r18 I18 J18 B18 D18 => ((¬ r18 = 0 → ((¬ y0 = 16 → wc_LassoFinderModel_wholeFormula_147  K47 Post x2 0 x1 I18 J18 B18 D18) ∧ (y0 = 16 → wc_LassoFinderModel_wholeFormula_147  K47 Post x2 1 x1 I18 J18 B18 D18))) ∧ (r18 = 0 → Post 0 I18 J18 B18 D18)))))
def wc_LassoFinderModel_wholeFormula_62 (K47 : Int32 → Int32 → (Nat → Int32) → (Nat → Int64) → (Nat → Nat → Int32) → (Nat → Nat → Int64) → Prop) (Post : Int32 → (Nat → Int32) → (Nat → Int64) → (Nat → Nat → Int32) → (Nat → Nat → Int64) → Prop) (x1 : Int32) (x2 : Int32) (I : Nat → Int32) (J : Nat → Int64) (B : Nat → Nat → Int32) (D : Nat → Nat → Int64) : Prop :=
  wp_LassoFinderModel_here I J B D  (fun r21 I21 J21 B21 D21 => ((x2 = 0 → ((¬ r21 = 41 → ((¬ r21 = 62 → ((¬ r21 = 124 → ((¬ r21 = 38 → ((¬ r21 = 85 → ((¬ r21 = 82 → wc_LassoFinderModel_wholeFormula_295  K47 Post x1 (-1) I21 J21 B21 D21) ∧ (r21 = 82 → wc_LassoFinderModel_wholeFormula_295  K47 Post x1 13 I21 J21 B21 D21))) ∧ (r21 = 85 → wc_LassoFinderModel_wholeFormula_295  K47 Post x1 12 I21 J21 B21 D21))) ∧ (r21 = 38 → wc_LassoFinderModel_wholeFormula_295  K47 Post x1 9 I21 J21 B21 D21))) ∧ (r21 = 124 → wc_LassoFinderModel_wholeFormula_295  K47 Post x1 10 I21 J21 B21 D21))) ∧ (r21 = 62 → wc_LassoFinderModel_wholeFormula_295  K47 Post x1 11 I21 J21 B21 D21))) ∧ (r21 = 41 → ((¬ x1 = 0 → wp_LassoFinderModel_putAll I21 J21 B21 D21 1 (fun I30 J30 B30 D30 => ∀ z31 : Int32, z31 = ((I30 13) - 1) → ∀ z32 : Int32, z32 = (x1 + (-1)) → ∀ z33 : Int32, z33 = ((I30 2) + 1) → wp_LassoFinderModel_putAll (upd (upd I30 13 z31) 2 z33) J30 B30 D30 5 (fun I34 J34 B34 D34 => wc_LassoFinderModel_wholeFormula_349  K47 Post z32 x2 I34 J34 B34 D34))) ∧ (x1 = 0 → wp_LassoFinderModel_fail I21 J21 B21 D21  (fun r35 I35 J35 B35 D35 => (r35 = 0 ∨ r35 = 1) ∧ Post r35 I35 J35 B35 D35)))))) ∧ (¬ x2 = 0 → ((¬ r21 = 33 → ((¬ r21 = 71 → ((¬ r21 = 70 → ((¬ r21 = 40 → wc_LassoFinderModel_wholeFormula_116  K47 Post x1 x2 r21 (-1) I21 J21 B21 D21) ∧ (r21 = 40 → wc_LassoFinderModel_wholeFormula_116  K47 Post x1 x2 r21 16 I21 J21 B21 D21))) ∧ (r21 = 70 → wc_LassoFinderModel_wholeFormula_116  K47 Post x1 x2 r21 15 I21 J21 B21 D21))) ∧ (r21 = 71 → wc_LassoFinderModel_wholeFormula_116  K47 Post x1 x2 r21 14 I21 J21 B21 D21))) ∧ (r21 = 33 → wc_LassoFinderModel_wholeFormula_116  K47 Post x1 x2 r21 8 I21 J21 B21 D21)))))
def wb_LassoFinderModel_wholeFormula_47 (K47 : Int32 → Int32 → (Nat → Int32) → (Nat → Int64) → (Nat → Nat → Int32) → (Nat → Nat → Int64) → Prop) (Post : Int32 → (Nat → Int32) → (Nat → Int64) → (Nat → Nat → Int32) → (Nat → Nat → Int64) → Prop) (x1 : Int32) (x2 : Int32) (I : Nat → Int32) (J : Nat → Int64) (B : Nat → Nat → Int32) (D : Nat → Nat → Int64) : Prop :=
  ((¬ x2 = 0 → wc_LassoFinderModel_wholeFormula_62  K47 Post x1 x2 I J B D) ∧ (x2 = 0 → (((I 1) ≤ (I 2) → ((x1 ≤ 0 → wp_LassoFinderModel_putAll I J B D 1 (fun I43 J43 B43 D43 => Post 1 I43 J43 B43 D43)) ∧ (¬ x1 ≤ 0 → wp_LassoFinderModel_fail I J B D  (fun r44 I44 J44 B44 D44 => (r44 = 0 ∨ r44 = 1) ∧ Post r44 I44 J44 B44 D44)))) ∧ (¬ (I 1) ≤ (I 2) → wc_LassoFinderModel_wholeFormula_62  K47 Post x1 x2 I J B D))))
def wl_LassoFinderModel_wholeFormula_47 (Post : Int32 → (Nat → Int32) → (Nat → Int64) → (Nat → Nat → Int32) → (Nat → Nat → Int64) → Prop) (n : Nat) : Int32 → Int32 → (Nat → Int32) → (Nat → Int64) → (Nat → Nat → Int32) → (Nat → Nat → Int64) → Prop := Nat.rec (fun _ _ _ _ _ _ => False) (fun _ r => wb_LassoFinderModel_wholeFormula_47  r Post) n
def wp_LassoFinderModel_wholeFormula (I : Nat → Int32) (J : Nat → Int64) (B : Nat → Nat → Int32) (D : Nat → Nat → Int64) (Post : Int32 → (Nat → Int32) → (Nat → Int64) → (Nat → Nat → Int32) → (Nat → Nat → Int64) → Prop) : Prop :=
  ∃ n : Nat, wl_LassoFinderModel_wholeFormula_47  Post n 0 1 (upd (upd (upd (upd (upd (upd (upd (upd I 2 0) 3 (-1)) 11 (I 22)) 19 0) 20 0) 23 0) 21 0) 13 0) J B D
set_option maxHeartbeats 8000000 in
set_option maxRecDepth 100000 in
theorem wJ_LassoFinderModel_wholeFormula_349 {p : Program} {l : Launch} {e : Env} {s : State} {m : MethodId} {below : List Frame} {meth : Method} {c : Code} {A : Nat → Prop} (G : va_G) (K : Nat → ClassId) (ad : Nat → Nat) (Post : Int32 → (Nat → Int32) → (Nat → Int64) → (Nat → Nat → Int32) → (Nat → Nat → Int64) → Prop) (C : zCx p s m ([.ref (ad 0)] : List Value).toArray meth c A G K prog_14_method_47_code (some .boolean) 5 "LassoFinderModel") (K47 : Int32 → Int32 → (Nat → Int32) → (Nat → Int64) → (Nat → Nat → Int32) → (Nat → Nat → Int64) → Prop) (kh47 : ∀ (x1 : Int32) (x2 : Int32) (I : Nat → Int32) (J : Nat → Int64) (B : Nat → Nat → Int32) (D : Nat → Nat → Int64) (ls : Array Slot) (H : Heap) (locs : List Loc), K47 x1 x2 I J B D → lv_has ls 5 [(0, .ref (ad 0)), (1, .int x1), (2, .int x2)] → zW G A s.heap (wM ad K I J B D) H locs → W p l e { frames := 4, cells := 0, slots := 0, locals := 95 } s m ([.ref (ad 0)] : List Value).toArray below meth c H locs 0 0 (MQ below (va_Qi (fun (r : Int32) (u : zS) => Post r u.1 u.2.1 u.2.2.1 u.2.2.2) (fun u t => zPost G K A (wM ad K u.1 u.2.1 u.2.2.1 u.2.2.2) t) A) ([.ref (ad 0)] : List Value).toArray s 0 0 A) (F0 m 47 ls [])) : ∀ (x1 : Int32) (x2 : Int32) (I : Nat → Int32) (J : Nat → Int64) (B : Nat → Nat → Int32) (D : Nat → Nat → Int64) (ls : Array Slot) (H : Heap) (locs : List Loc), wc_LassoFinderModel_wholeFormula_349  K47 Post x1 x2 I J B D → lv_has ls 5 [(0, .ref (ad 0)), (1, .int x1), (2, .int x2)] → zW G A s.heap (wM ad K I J B D) H locs → W p l e { frames := 4, cells := 0, slots := 0, locals := 95 } s m ([.ref (ad 0)] : List Value).toArray below meth c H locs 0 0 (MQ below (va_Qi (fun (r : Int32) (u : zS) => Post r u.1 u.2.1 u.2.2.1 u.2.2.2) (fun u t => zPost G K A (wM ad K u.1 u.2.1 u.2.2.1 u.2.2.2) t) A) ([.ref (ad 0)] : List Value).toArray s 0 0 A) (F0 m 349 ls []) := by
  obtain ⟨hx, hb, hr, hml, hts, hown, hlocks, hA, hK⟩ := id C
  intro x1 x2 I J B D ls H locs hok hl hw
  unfold wc_LassoFinderModel_wholeFormula_349 at hok
  refine lv_goto (tgt := 47) hx hb zd_LassoFinderModel_wholeFormula_349 (by decide) ?_
  exact kh47 x1 x2 I J B D ls H locs hok (lv_sub hl [0, 1, 2] rfl) hw
set_option maxHeartbeats 8000000 in
set_option maxRecDepth 100000 in
theorem wJ_LassoFinderModel_wholeFormula_336 {p : Program} {l : Launch} {e : Env} {s : State} {m : MethodId} {below : List Frame} {meth : Method} {c : Code} {A : Nat → Prop} (G : va_G) (K : Nat → ClassId) (ad : Nat → Nat) (Post : Int32 → (Nat → Int32) → (Nat → Int64) → (Nat → Nat → Int32) → (Nat → Nat → Int64) → Prop) (C : zCx p s m ([.ref (ad 0)] : List Value).toArray meth c A G K prog_14_method_47_code (some .boolean) 5 "LassoFinderModel") (K47 : Int32 → Int32 → (Nat → Int32) → (Nat → Int64) → (Nat → Nat → Int32) → (Nat → Nat → Int64) → Prop) (kh47 : ∀ (x1 : Int32) (x2 : Int32) (I : Nat → Int32) (J : Nat → Int64) (B : Nat → Nat → Int32) (D : Nat → Nat → Int64) (ls : Array Slot) (H : Heap) (locs : List Loc), K47 x1 x2 I J B D → lv_has ls 5 [(0, .ref (ad 0)), (1, .int x1), (2, .int x2)] → zW G A s.heap (wM ad K I J B D) H locs → W p l e { frames := 4, cells := 0, slots := 0, locals := 95 } s m ([.ref (ad 0)] : List Value).toArray below meth c H locs 0 0 (MQ below (va_Qi (fun (r : Int32) (u : zS) => Post r u.1 u.2.1 u.2.2.1 u.2.2.2) (fun u t => zPost G K A (wM ad K u.1 u.2.1 u.2.2.1 u.2.2.2) t) A) ([.ref (ad 0)] : List Value).toArray s 0 0 A) (F0 m 47 ls [])) : ∀ (x1 : Int32) (x4 : Int32) (I : Nat → Int32) (J : Nat → Int64) (B : Nat → Nat → Int32) (D : Nat → Nat → Int64) (ls : Array Slot) (H : Heap) (locs : List Loc), wc_LassoFinderModel_wholeFormula_336  K47 Post x1 x4 I J B D → lv_has ls 5 [(0, .ref (ad 0)), (1, .int x1), (4, .int x4)] → zW G A s.heap (wM ad K I J B D) H locs → W p l e { frames := 4, cells := 0, slots := 0, locals := 95 } s m ([.ref (ad 0)] : List Value).toArray below meth c H locs 0 0 (MQ below (va_Qi (fun (r : Int32) (u : zS) => Post r u.1 u.2.1 u.2.2.1 u.2.2.2) (fun u t => zPost G K A (wM ad K u.1 u.2.1 u.2.2.1 u.2.2.2) t) A) ([.ref (ad 0)] : List Value).toArray s 0 0 A) (F0 m 336 ls []) := by
  obtain ⟨hx, hb, hr, hml, hts, hown, hlocks, hA, hK⟩ := id C
  intro x1 x4 I J B D ls H locs hok hl hw
  unfold wc_LassoFinderModel_wholeFormula_336 at hok
  refine lv_aload_n hx hb zd_LassoFinderModel_wholeFormula_336 rfl (lv_at hl 0 rfl) ?_
  refine lv_iload hx hb zd_LassoFinderModel_wholeFormula_337 (lv_at hl 2 rfl) ?_
  refine z_calli (w1 := fun (u : zS) => wM ad K u.1 u.2.1 u.2.2.1 u.2.2.2) (wr := []) (z_runV (q0 := 0) (wc := (wM ad K I J B D)) (As := [.int x4]) (rest := []) ⟨hx, hb, hml, hown, hts⟩ (w_LassoFinderModel_push l G K ad I J B D x4 _ H.size hok) zf_LassoFinderModel_push zm_359 ⟨Nat.le_of_ble_eq_true rfl, Nat.le_of_ble_eq_true rfl⟩ hK hw (List.range 58) wM_all wM_nd wM_g0 rfl rfl hl.1 rfl (Nat.le_of_ble_eq_true rfl) zd_LassoFinderModel_wholeFormula_339 ⟨Nat.le_of_ble_eq_true rfl, Nat.le_of_ble_eq_true rfl⟩) hw hA (List.range 58) [] wM_all rfl (by decide) (fun i hi => by cases hi) (fun r1 u H locs hok hw => ?_)
  obtain ⟨I1, J1, B1, D1⟩ := u
  dsimp only at hok
  have hw : zW G A s.heap (wM ad K I1 J1 B1 D1) H locs := hw
  refine lv_if_ne (tgt := 347) hx hb zd_LassoFinderModel_wholeFormula_342 (by decide) (fun hc2 => ?_) (fun hc2 => ?_)
  · have hok := hok.1 hc2
    refine lv_iconst (v := 1) hx hb zd_LassoFinderModel_wholeFormula_347 (by decide) ?_
    refine lv_istore_n hx hb zd_LassoFinderModel_wholeFormula_348 rfl hl (by decide) rfl (fun ls hl => ?_)
    have hl : lv_has ls 5 [(2, .int 1), (0, .ref (ad 0)), (1, .int x1), (4, .int x4)] := hl
    exact wJ_LassoFinderModel_wholeFormula_349 G K ad  Post C K47 kh47 x1 1 I1 J1 B1 D1 ls H locs hok (lv_sub hl [1, 2, 0] rfl) hw
  · have hok := hok.2 hc2
    refine lv_iconst (v := 0) hx hb zd_LassoFinderModel_wholeFormula_345 (by decide) ?_
    exact (z_iret (u := (I1, J1, B1, D1)) hx hb hr hlocks rfl hw (List.range 58) wM_all wM_nd hok (Nat.le_of_ble_eq_true rfl) (Nat.le_of_ble_eq_true rfl) zd_LassoFinderModel_wholeFormula_346)
set_option maxHeartbeats 8000000 in
set_option maxRecDepth 100000 in
theorem wJ_LassoFinderModel_wholeFormula_333 {p : Program} {l : Launch} {e : Env} {s : State} {m : MethodId} {below : List Frame} {meth : Method} {c : Code} {A : Nat → Prop} (G : va_G) (K : Nat → ClassId) (ad : Nat → Nat) (Post : Int32 → (Nat → Int32) → (Nat → Int64) → (Nat → Nat → Int32) → (Nat → Nat → Int64) → Prop) (C : zCx p s m ([.ref (ad 0)] : List Value).toArray meth c A G K prog_14_method_47_code (some .boolean) 5 "LassoFinderModel") (K47 : Int32 → Int32 → (Nat → Int32) → (Nat → Int64) → (Nat → Nat → Int32) → (Nat → Nat → Int64) → Prop) (kh47 : ∀ (x1 : Int32) (x2 : Int32) (I : Nat → Int32) (J : Nat → Int64) (B : Nat → Nat → Int32) (D : Nat → Nat → Int64) (ls : Array Slot) (H : Heap) (locs : List Loc), K47 x1 x2 I J B D → lv_has ls 5 [(0, .ref (ad 0)), (1, .int x1), (2, .int x2)] → zW G A s.heap (wM ad K I J B D) H locs → W p l e { frames := 4, cells := 0, slots := 0, locals := 95 } s m ([.ref (ad 0)] : List Value).toArray below meth c H locs 0 0 (MQ below (va_Qi (fun (r : Int32) (u : zS) => Post r u.1 u.2.1 u.2.2.1 u.2.2.2) (fun u t => zPost G K A (wM ad K u.1 u.2.1 u.2.2.1 u.2.2.2) t) A) ([.ref (ad 0)] : List Value).toArray s 0 0 A) (F0 m 47 ls [])) : ∀ (x1 : Int32) (x4 : Int32) (y0 : Int32) (I : Nat → Int32) (J : Nat → Int64) (B : Nat → Nat → Int32) (D : Nat → Nat → Int64) (ls : Array Slot) (H : Heap) (locs : List Loc), wc_LassoFinderModel_wholeFormula_333  K47 Post x1 x4 y0 I J B D → lv_has ls 5 [(0, .ref (ad 0)), (1, .int x1), (4, .int x4)] → zW G A s.heap (wM ad K I J B D) H locs → W p l e { frames := 4, cells := 0, slots := 0, locals := 95 } s m ([.ref (ad 0)] : List Value).toArray below meth c H locs 0 0 (MQ below (va_Qi (fun (r : Int32) (u : zS) => Post r u.1 u.2.1 u.2.2.1 u.2.2.2) (fun u t => zPost G K A (wM ad K u.1 u.2.1 u.2.2.1 u.2.2.2) t) A) ([.ref (ad 0)] : List Value).toArray s 0 0 A) (F0 m 333 ls [.int y0, .ref (ad 0)]) := by
  obtain ⟨hx, hb, hr, hml, hts, hown, hlocks, hA, hK⟩ := id C
  intro x1 x4 y0 I J B D ls H locs hok hl hw
  unfold wc_LassoFinderModel_wholeFormula_333 at hok
  refine z_callv (w1 := fun (u : zS) => wM ad K u.1 u.2.1 u.2.2.1 u.2.2.2) (wr := []) (z_runV (q0 := 0) (wc := (wM ad K I J B D)) (As := [.int y0]) (rest := []) ⟨hx, hb, hml, hown, hts⟩ (w_LassoFinderModel_putAll l G K ad I J B D y0 _ H.size hok) zf_LassoFinderModel_putAll zm_358 ⟨Nat.le_of_ble_eq_true rfl, Nat.le_of_ble_eq_true rfl⟩ hK hw (List.range 58) wM_all wM_nd wM_g0 rfl rfl hl.1 rfl (Nat.le_of_ble_eq_true rfl) zd_LassoFinderModel_wholeFormula_333 ⟨Nat.le_of_ble_eq_true rfl, Nat.le_of_ble_eq_true rfl⟩) hw hA (List.range 58) [] wM_all rfl (by decide) (fun i hi => by cases hi) (fun u H locs hok hw => ?_)
  obtain ⟨I3, J3, B3, D3⟩ := u
  dsimp only at hok
  have hw : zW G A s.heap (wM ad K I3 J3 B3 D3) H locs := hw
  exact wJ_LassoFinderModel_wholeFormula_336 G K ad  Post C K47 kh47 x1 x4 I3 J3 B3 D3 ls H locs hok (lv_sub hl [0, 1, 2] rfl) hw
set_option maxHeartbeats 8000000 in
set_option maxRecDepth 100000 in
theorem wJ_LassoFinderModel_wholeFormula_295 {p : Program} {l : Launch} {e : Env} {s : State} {m : MethodId} {below : List Frame} {meth : Method} {c : Code} {A : Nat → Prop} (G : va_G) (K : Nat → ClassId) (ad : Nat → Nat) (Post : Int32 → (Nat → Int32) → (Nat → Int64) → (Nat → Nat → Int32) → (Nat → Nat → Int64) → Prop) (C : zCx p s m ([.ref (ad 0)] : List Value).toArray meth c A G K prog_14_method_47_code (some .boolean) 5 "LassoFinderModel") (K47 : Int32 → Int32 → (Nat → Int32) → (Nat → Int64) → (Nat → Nat → Int32) → (Nat → Nat → Int64) → Prop) (kh47 : ∀ (x1 : Int32) (x2 : Int32) (I : Nat → Int32) (J : Nat → Int64) (B : Nat → Nat → Int32) (D : Nat → Nat → Int64) (ls : Array Slot) (H : Heap) (locs : List Loc), K47 x1 x2 I J B D → lv_has ls 5 [(0, .ref (ad 0)), (1, .int x1), (2, .int x2)] → zW G A s.heap (wM ad K I J B D) H locs → W p l e { frames := 4, cells := 0, slots := 0, locals := 95 } s m ([.ref (ad 0)] : List Value).toArray below meth c H locs 0 0 (MQ below (va_Qi (fun (r : Int32) (u : zS) => Post r u.1 u.2.1 u.2.2.1 u.2.2.2) (fun u t => zPost G K A (wM ad K u.1 u.2.1 u.2.2.1 u.2.2.2) t) A) ([.ref (ad 0)] : List Value).toArray s 0 0 A) (F0 m 47 ls [])) : ∀ (x1 : Int32) (y0 : Int32) (I : Nat → Int32) (J : Nat → Int64) (B : Nat → Nat → Int32) (D : Nat → Nat → Int64) (ls : Array Slot) (H : Heap) (locs : List Loc), wc_LassoFinderModel_wholeFormula_295  K47 Post x1 y0 I J B D → lv_has ls 5 [(0, .ref (ad 0)), (1, .int x1)] → zW G A s.heap (wM ad K I J B D) H locs → W p l e { frames := 4, cells := 0, slots := 0, locals := 95 } s m ([.ref (ad 0)] : List Value).toArray below meth c H locs 0 0 (MQ below (va_Qi (fun (r : Int32) (u : zS) => Post r u.1 u.2.1 u.2.2.1 u.2.2.2) (fun u t => zPost G K A (wM ad K u.1 u.2.1 u.2.2.1 u.2.2.2) t) A) ([.ref (ad 0)] : List Value).toArray s 0 0 A) (F0 m 295 ls [.int y0]) := by
  obtain ⟨hx, hb, hr, hml, hts, hown, hlocks, hA, hK⟩ := id C
  intro x1 y0 I J B D ls H locs hok hl hw
  unfold wc_LassoFinderModel_wholeFormula_295 at hok
  refine lv_istore hx hb zd_LassoFinderModel_wholeFormula_295 hl (by decide) rfl (fun ls hl => ?_)
  have hl : lv_has ls 5 [(4, .int y0), (0, .ref (ad 0)), (1, .int x1)] := hl
  refine lv_iload hx hb zd_LassoFinderModel_wholeFormula_297 (lv_at hl 0 rfl) ?_
  refine lv_if_ge (tgt := 307) hx hb zd_LassoFinderModel_wholeFormula_299 (by decide) (fun hc4 => ?_) (fun hc4 => ?_)
  · have hok := hok.1 hc4
    refine lv_iload hx hb zd_LassoFinderModel_wholeFormula_307 (lv_at hl 0 rfl) ?_
    refine z_calli (w1 := fun (u : zS) => wM ad K u.1 u.2.1 u.2.2.1 u.2.2.2) (wr := []) (z_runS (wc := (wM ad K I J B D)) (As := [.int y0]) (rest := []) ⟨hx, hb, hml, hown, hts⟩ (w_LassoFinderModel_binds l G K ad I J B D y0 _ H.size hok) zf_LassoFinderModel_binds zm_361 ⟨Nat.le_of_ble_eq_true rfl, Nat.le_of_ble_eq_true rfl⟩ hK hw (List.range 58) wM_all wM_nd rfl hl.1 rfl (Nat.le_of_ble_eq_true rfl) zd_LassoFinderModel_wholeFormula_309 ⟨Nat.le_of_ble_eq_true rfl, Nat.le_of_ble_eq_true rfl⟩) hw hA (List.range 58) [] wM_all rfl (by decide) (fun i hi => by cases hi) (fun r5 u H locs hok hw => ?_)
    obtain ⟨I5, J5, B5, D5⟩ := u
    dsimp only at hok
    have hw : zW G A s.heap (wM ad K I5 J5 B5 D5) H locs := hw
    refine lv_iconst (v := 4) hx hb zd_LassoFinderModel_wholeFormula_312 (by decide) ?_
    refine lv_icmp_ge (tgt := 336) hx hb zd_LassoFinderModel_wholeFormula_313 (by decide) (fun hc6 => ?_) (fun hc6 => ?_)
    · have hok := hok.1 hc6
      exact wJ_LassoFinderModel_wholeFormula_336 G K ad  Post C K47 kh47 x1 y0 I5 J5 B5 D5 ls H locs hok (lv_sub hl [1, 2, 0] rfl) hw
    · have hok := hok.2 hc6
      refine lv_aload_n hx hb zd_LassoFinderModel_wholeFormula_316 rfl (lv_at hl 1 rfl) ?_
      refine lv_iload hx hb zd_LassoFinderModel_wholeFormula_317 (lv_at hl 0 rfl) ?_
      refine lv_bipush (v := 11) hx hb zd_LassoFinderModel_wholeFormula_319 (by decide) ?_
      refine lv_icmp_ne (tgt := 328) hx hb zd_LassoFinderModel_wholeFormula_321 (by decide) (fun hc7 => ?_) (fun hc7 => ?_)
      · have hok := hok.1 hc7
        refine lv_iload hx hb zd_LassoFinderModel_wholeFormula_328 (lv_at hl 0 rfl) ?_
        refine z_calli (w1 := fun (u : zS) => wM ad K u.1 u.2.1 u.2.2.1 u.2.2.2) (wr := []) (z_runS (wc := (wM ad K I5 J5 B5 D5)) (As := [.int y0]) (rest := [.ref (ad 0)]) ⟨hx, hb, hml, hown, hts⟩ (w_LassoFinderModel_binds l G K ad I5 J5 B5 D5 y0 _ H.size hok) zf_LassoFinderModel_binds zm_361 ⟨Nat.le_of_ble_eq_true rfl, Nat.le_of_ble_eq_true rfl⟩ hK hw (List.range 58) wM_all wM_nd rfl hl.1 rfl (Nat.le_of_ble_eq_true rfl) zd_LassoFinderModel_wholeFormula_330 ⟨Nat.le_of_ble_eq_true rfl, Nat.le_of_ble_eq_true rfl⟩) hw hA (List.range 58) [] wM_all rfl (by decide) (fun i hi => by cases hi) (fun r8 u H locs hok hw => ?_)
        obtain ⟨I8, J8, B8, D8⟩ := u
        dsimp only at hok
        have hw : zW G A s.heap (wM ad K I8 J8 B8 D8) H locs := hw
        exact wJ_LassoFinderModel_wholeFormula_333 G K ad  Post C K47 kh47 x1 y0 r8 I8 J8 B8 D8 ls H locs hok (lv_sub hl [1, 2, 0] rfl) hw
      · have hok := hok.2 hc7
        refine lv_iconst (v := 2) hx hb zd_LassoFinderModel_wholeFormula_324 (by decide) ?_
        refine lv_goto (tgt := 333) hx hb zd_LassoFinderModel_wholeFormula_325 (by decide) ?_
        exact wJ_LassoFinderModel_wholeFormula_333 G K ad  Post C K47 kh47 x1 y0 2 I5 J5 B5 D5 ls H locs hok (lv_sub hl [1, 2, 0] rfl) hw
  · have hok := hok.2 hc4
    refine lv_aload_n hx hb zd_LassoFinderModel_wholeFormula_302 rfl (lv_at hl 1 rfl) ?_
    refine z_calli (w1 := fun (u : zS) => wM ad K u.1 u.2.1 u.2.2.1 u.2.2.2) (wr := []) (z_runV (q0 := 0) (wc := (wM ad K I J B D)) (As := []) (rest := []) ⟨hx, hb, hml, hown, hts⟩ (w_LassoFinderModel_fail l G K ad I J B D  _ H.size hok) zf_LassoFinderModel_fail zm_334 ⟨Nat.le_of_ble_eq_true rfl, Nat.le_of_ble_eq_true rfl⟩ hK hw (List.range 58) wM_all wM_nd wM_g0 rfl rfl hl.1 rfl (Nat.le_of_ble_eq_true rfl) zd_LassoFinderModel_wholeFormula_303 ⟨Nat.le_of_ble_eq_true rfl, Nat.le_of_ble_eq_true rfl⟩) hw hA (List.range 58) [] wM_all rfl (by decide) (fun i hi => by cases hi) (fun r9 u H locs hok hw => ?_)
    obtain ⟨I9, J9, B9, D9⟩ := u
    dsimp only at hok
    have hw : zW G A s.heap (wM ad K I9 J9 B9 D9) H locs := hw
    have hbo := hok.1
    have hok := hok.2
    exact (z_iret (u := (I9, J9, B9, D9)) hx hb hr hlocks (z_nar hbo) hw (List.range 58) wM_all wM_nd hok (Nat.le_of_ble_eq_true rfl) (Nat.le_of_ble_eq_true rfl) zd_LassoFinderModel_wholeFormula_306)
set_option maxHeartbeats 8000000 in
set_option maxRecDepth 100000 in
theorem wJ_LassoFinderModel_wholeFormula_185 {p : Program} {l : Launch} {e : Env} {s : State} {m : MethodId} {below : List Frame} {meth : Method} {c : Code} {A : Nat → Prop} (G : va_G) (K : Nat → ClassId) (ad : Nat → Nat) (Post : Int32 → (Nat → Int32) → (Nat → Int64) → (Nat → Nat → Int32) → (Nat → Nat → Int64) → Prop) (C : zCx p s m ([.ref (ad 0)] : List Value).toArray meth c A G K prog_14_method_47_code (some .boolean) 5 "LassoFinderModel") (K47 : Int32 → Int32 → (Nat → Int32) → (Nat → Int64) → (Nat → Nat → Int32) → (Nat → Nat → Int64) → Prop) (kh47 : ∀ (x1 : Int32) (x2 : Int32) (I : Nat → Int32) (J : Nat → Int64) (B : Nat → Nat → Int32) (D : Nat → Nat → Int64) (ls : Array Slot) (H : Heap) (locs : List Loc), K47 x1 x2 I J B D → lv_has ls 5 [(0, .ref (ad 0)), (1, .int x1), (2, .int x2)] → zW G A s.heap (wM ad K I J B D) H locs → W p l e { frames := 4, cells := 0, slots := 0, locals := 95 } s m ([.ref (ad 0)] : List Value).toArray below meth c H locs 0 0 (MQ below (va_Qi (fun (r : Int32) (u : zS) => Post r u.1 u.2.1 u.2.2.1 u.2.2.2) (fun u t => zPost G K A (wM ad K u.1 u.2.1 u.2.2.1 u.2.2.2) t) A) ([.ref (ad 0)] : List Value).toArray s 0 0 A) (F0 m 47 ls [])) : ∀ (x1 : Int32) (x2 : Int32) (I : Nat → Int32) (J : Nat → Int64) (B : Nat → Nat → Int32) (D : Nat → Nat → Int64) (ls : Array Slot) (H : Heap) (locs : List Loc), wc_LassoFinderModel_wholeFormula_185  K47 Post x1 x2 I J B D → lv_has ls 5 [(0, .ref (ad 0)), (1, .int x1), (2, .int x2)] → zW G A s.heap (wM ad K I J B D) H locs → W p l e { frames := 4, cells := 0, slots := 0, locals := 95 } s m ([.ref (ad 0)] : List Value).toArray below meth c H locs 0 0 (MQ below (va_Qi (fun (r : Int32) (u : zS) => Post r u.1 u.2.1 u.2.2.1 u.2.2.2) (fun u t => zPost G K A (wM ad K u.1 u.2.1 u.2.2.1 u.2.2.2) t) A) ([.ref (ad 0)] : List Value).toArray s 0 0 A) (F0 m 185 ls []) := by
  obtain ⟨hx, hb, hr, hml, hts, hown, hlocks, hA, hK⟩ := id C
  intro x1 x2 I J B D ls H locs hok hl hw
  unfold wc_LassoFinderModel_wholeFormula_185 at hok
  refine lv_goto (tgt := 349) hx hb zd_LassoFinderModel_wholeFormula_185 (by decide) ?_
  exact wJ_LassoFinderModel_wholeFormula_349 G K ad  Post C K47 kh47 x1 x2 I J B D ls H locs hok (lv_sub hl [0, 1, 2] rfl) hw
set_option maxHeartbeats 8000000 in
set_option maxRecDepth 100000 in
theorem wJ_LassoFinderModel_wholeFormula_169 {p : Program} {l : Launch} {e : Env} {s : State} {m : MethodId} {below : List Frame} {meth : Method} {c : Code} {A : Nat → Prop} (G : va_G) (K : Nat → ClassId) (ad : Nat → Nat) (Post : Int32 → (Nat → Int32) → (Nat → Int64) → (Nat → Nat → Int32) → (Nat → Nat → Int64) → Prop) (C : zCx p s m ([.ref (ad 0)] : List Value).toArray meth c A G K prog_14_method_47_code (some .boolean) 5 "LassoFinderModel") (K47 : Int32 → Int32 → (Nat → Int32) → (Nat → Int64) → (Nat → Nat → Int32) → (Nat → Nat → Int64) → Prop) (kh47 : ∀ (x1 : Int32) (x2 : Int32) (I : Nat → Int32) (J : Nat → Int64) (B : Nat → Nat → Int32) (D : Nat → Nat → Int64) (ls : Array Slot) (H : Heap) (locs : List Loc), K47 x1 x2 I J B D → lv_has ls 5 [(0, .ref (ad 0)), (1, .int x1), (2, .int x2)] → zW G A s.heap (wM ad K I J B D) H locs → W p l e { frames := 4, cells := 0, slots := 0, locals := 95 } s m ([.ref (ad 0)] : List Value).toArray below meth c H locs 0 0 (MQ below (va_Qi (fun (r : Int32) (u : zS) => Post r u.1 u.2.1 u.2.2.1 u.2.2.2) (fun u t => zPost G K A (wM ad K u.1 u.2.1 u.2.2.1 u.2.2.2) t) A) ([.ref (ad 0)] : List Value).toArray s 0 0 A) (F0 m 47 ls [])) : ∀ (x1 : Int32) (I : Nat → Int32) (J : Nat → Int64) (B : Nat → Nat → Int32) (D : Nat → Nat → Int64) (ls : Array Slot) (H : Heap) (locs : List Loc), wc_LassoFinderModel_wholeFormula_169  K47 Post x1 I J B D → lv_has ls 5 [(0, .ref (ad 0)), (1, .int x1)] → zW G A s.heap (wM ad K I J B D) H locs → W p l e { frames := 4, cells := 0, slots := 0, locals := 95 } s m ([.ref (ad 0)] : List Value).toArray below meth c H locs 0 0 (MQ below (va_Qi (fun (r : Int32) (u : zS) => Post r u.1 u.2.1 u.2.2.1 u.2.2.2) (fun u t => zPost G K A (wM ad K u.1 u.2.1 u.2.2.1 u.2.2.2) t) A) ([.ref (ad 0)] : List Value).toArray s 0 0 A) (F0 m 169 ls []) := by
  obtain ⟨hx, hb, hr, hml, hts, hown, hlocks, hA, hK⟩ := id C
  intro x1 I J B D ls H locs hok hl hw
  unfold wc_LassoFinderModel_wholeFormula_169 at hok
  refine lv_aload_n hx hb zd_LassoFinderModel_wholeFormula_169 rfl (lv_at hl 0 rfl) ?_
  refine z_calli (w1 := fun (u : zS) => wM ad K u.1 u.2.1 u.2.2.1 u.2.2.2) (wr := []) (z_runV (q0 := 0) (wc := (wM ad K I J B D)) (As := []) (rest := []) ⟨hx, hb, hml, hown, hts⟩ (w_LassoFinderModel_atom l G K ad I J B D  _ H.size hok) zf_LassoFinderModel_atom zm_360 ⟨Nat.le_of_ble_eq_true rfl, Nat.le_of_ble_eq_true rfl⟩ hK hw (List.range 58) wM_all wM_nd wM_g0 rfl rfl hl.1 rfl (Nat.le_of_ble_eq_true rfl) zd_LassoFinderModel_wholeFormula_170 ⟨Nat.le_of_ble_eq_true rfl, Nat.le_of_ble_eq_true rfl⟩) hw hA (List.range 58) [] wM_all rfl (by decide) (fun i hi => by cases hi) (fun r10 u H locs hok hw => ?_)
  obtain ⟨I10, J10, B10, D10⟩ := u
  dsimp only at hok
  have hw : zW G A s.heap (wM ad K I10 J10 B10 D10) H locs := hw
  refine lv_if_ne (tgt := 178) hx hb zd_LassoFinderModel_wholeFormula_173 (by decide) (fun hc11 => ?_) (fun hc11 => ?_)
  · have hok := hok.1 hc11
    refine lv_aload_n hx hb zd_LassoFinderModel_wholeFormula_178 rfl (lv_at hl 0 rfl) ?_
    refine lv_iconst (v := 5) hx hb zd_LassoFinderModel_wholeFormula_179 (by decide) ?_
    refine z_callv (w1 := fun (u : zS) => wM ad K u.1 u.2.1 u.2.2.1 u.2.2.2) (wr := []) (z_runV (q0 := 0) (wc := (wM ad K I10 J10 B10 D10)) (As := [.int 5]) (rest := []) ⟨hx, hb, hml, hown, hts⟩ (w_LassoFinderModel_putAll l G K ad I10 J10 B10 D10 5 _ H.size hok) zf_LassoFinderModel_putAll zm_358 ⟨Nat.le_of_ble_eq_true rfl, Nat.le_of_ble_eq_true rfl⟩ hK hw (List.range 58) wM_all wM_nd wM_g0 rfl rfl hl.1 rfl (Nat.le_of_ble_eq_true rfl) zd_LassoFinderModel_wholeFormula_180 ⟨Nat.le_of_ble_eq_true rfl, Nat.le_of_ble_eq_true rfl⟩) hw hA (List.range 58) [] wM_all rfl (by decide) (fun i hi => by cases hi) (fun u H locs hok hw => ?_)
    obtain ⟨I12, J12, B12, D12⟩ := u
    dsimp only at hok
    have hw : zW G A s.heap (wM ad K I12 J12 B12 D12) H locs := hw
    refine lv_iconst (v := 0) hx hb zd_LassoFinderModel_wholeFormula_183 (by decide) ?_
    refine lv_istore_n hx hb zd_LassoFinderModel_wholeFormula_184 rfl hl (by decide) rfl (fun ls hl => ?_)
    have hl : lv_has ls 5 [(2, .int 0), (0, .ref (ad 0)), (1, .int x1)] := hl
    exact wJ_LassoFinderModel_wholeFormula_185 G K ad  Post C K47 kh47 x1 0 I12 J12 B12 D12 ls H locs hok (lv_sub hl [1, 2, 0] rfl) hw
  · have hok := hok.2 hc11
    refine lv_iconst (v := 0) hx hb zd_LassoFinderModel_wholeFormula_176 (by decide) ?_
    exact (z_iret (u := (I10, J10, B10, D10)) hx hb hr hlocks rfl hw (List.range 58) wM_all wM_nd hok (Nat.le_of_ble_eq_true rfl) (Nat.le_of_ble_eq_true rfl) zd_LassoFinderModel_wholeFormula_177)
set_option maxHeartbeats 8000000 in
set_option maxRecDepth 100000 in
theorem wJ_LassoFinderModel_wholeFormula_147 {p : Program} {l : Launch} {e : Env} {s : State} {m : MethodId} {below : List Frame} {meth : Method} {c : Code} {A : Nat → Prop} (G : va_G) (K : Nat → ClassId) (ad : Nat → Nat) (Post : Int32 → (Nat → Int32) → (Nat → Int64) → (Nat → Nat → Int32) → (Nat → Nat → Int64) → Prop) (C : zCx p s m ([.ref (ad 0)] : List Value).toArray meth c A G K prog_14_method_47_code (some .boolean) 5 "LassoFinderModel") (K47 : Int32 → Int32 → (Nat → Int32) → (Nat → Int64) → (Nat → Nat → Int32) → (Nat → Nat → Int64) → Prop) (kh47 : ∀ (x1 : Int32) (x2 : Int32) (I : Nat → Int32) (J : Nat → Int64) (B : Nat → Nat → Int32) (D : Nat → Nat → Int64) (ls : Array Slot) (H : Heap) (locs : List Loc), K47 x1 x2 I J B D → lv_has ls 5 [(0, .ref (ad 0)), (1, .int x1), (2, .int x2)] → zW G A s.heap (wM ad K I J B D) H locs → W p l e { frames := 4, cells := 0, slots := 0, locals := 95 } s m ([.ref (ad 0)] : List Value).toArray below meth c H locs 0 0 (MQ below (va_Qi (fun (r : Int32) (u : zS) => Post r u.1 u.2.1 u.2.2.1 u.2.2.2) (fun u t => zPost G K A (wM ad K u.1 u.2.1 u.2.2.1 u.2.2.2) t) A) ([.ref (ad 0)] : List Value).toArray s 0 0 A) (F0 m 47 ls [])) : ∀ (x2 : Int32) (y0 : Int32) (y1 : Int32) (I : Nat → Int32) (J : Nat → Int64) (B : Nat → Nat → Int32) (D : Nat → Nat → Int64) (ls : Array Slot) (H : Heap) (locs : List Loc), wc_LassoFinderModel_wholeFormula_147  K47 Post x2 y0 y1 I J B D → lv_has ls 5 [(0, .ref (ad 0)), (2, .int x2)] → zW G A s.heap (wM ad K I J B D) H locs → W p l e { frames := 4, cells := 0, slots := 0, locals := 95 } s m ([.ref (ad 0)] : List Value).toArray below meth c H locs 0 0 (MQ below (va_Qi (fun (r : Int32) (u : zS) => Post r u.1 u.2.1 u.2.2.1 u.2.2.2) (fun u t => zPost G K A (wM ad K u.1 u.2.1 u.2.2.1 u.2.2.2) t) A) ([.ref (ad 0)] : List Value).toArray s 0 0 A) (F0 m 147 ls [.int y0, .int y1]) := by
  obtain ⟨hx, hb, hr, hml, hts, hown, hlocks, hA, hK⟩ := id C
  intro x2 y0 y1 I J B D ls H locs hok hl hw
  unfold wc_LassoFinderModel_wholeFormula_147 at hok
  refine lv_iadd hx hb zd_LassoFinderModel_wholeFormula_147 ?_
  refine lv_topi (fun z13 ez13 => ?_)
  have hok := hok z13 ez13
  refine lv_istore_n hx hb zd_LassoFinderModel_wholeFormula_148 rfl hl (by decide) rfl (fun ls hl => ?_)
  have hl : lv_has ls 5 [(1, .int z13), (0, .ref (ad 0)), (2, .int x2)] := hl
  refine lv_goto (tgt := 185) hx hb zd_LassoFinderModel_wholeFormula_149 (by decide) ?_
  exact wJ_LassoFinderModel_wholeFormula_185 G K ad  Post C K47 kh47 z13 x2 I J B D ls H locs hok (lv_sub hl [1, 0, 2] rfl) hw
set_option maxHeartbeats 8000000 in
set_option maxRecDepth 100000 in
theorem wJ_LassoFinderModel_wholeFormula_116 {p : Program} {l : Launch} {e : Env} {s : State} {m : MethodId} {below : List Frame} {meth : Method} {c : Code} {A : Nat → Prop} (G : va_G) (K : Nat → ClassId) (ad : Nat → Nat) (Post : Int32 → (Nat → Int32) → (Nat → Int64) → (Nat → Nat → Int32) → (Nat → Nat → Int64) → Prop) (C : zCx p s m ([.ref (ad 0)] : List Value).toArray meth c A G K prog_14_method_47_code (some .boolean) 5 "LassoFinderModel") (K47 : Int32 → Int32 → (Nat → Int32) → (Nat → Int64) → (Nat → Nat → Int32) → (Nat → Nat → Int64) → Prop) (kh47 : ∀ (x1 : Int32) (x2 : Int32) (I : Nat → Int32) (J : Nat → Int64) (B : Nat → Nat → Int32) (D : Nat → Nat → Int64) (ls : Array Slot) (H : Heap) (locs : List Loc), K47 x1 x2 I J B D → lv_has ls 5 [(0, .ref (ad 0)), (1, .int x1), (2, .int x2)] → zW G A s.heap (wM ad K I J B D) H locs → W p l e { frames := 4, cells := 0, slots := 0, locals := 95 } s m ([.ref (ad 0)] : List Value).toArray below meth c H locs 0 0 (MQ below (va_Qi (fun (r : Int32) (u : zS) => Post r u.1 u.2.1 u.2.2.1 u.2.2.2) (fun u t => zPost G K A (wM ad K u.1 u.2.1 u.2.2.1 u.2.2.2) t) A) ([.ref (ad 0)] : List Value).toArray s 0 0 A) (F0 m 47 ls [])) : ∀ (x1 : Int32) (x2 : Int32) (x3 : Int32) (y0 : Int32) (I : Nat → Int32) (J : Nat → Int64) (B : Nat → Nat → Int32) (D : Nat → Nat → Int64) (ls : Array Slot) (H : Heap) (locs : List Loc), wc_LassoFinderModel_wholeFormula_116  K47 Post x1 x2 x3 y0 I J B D → lv_has ls 5 [(0, .ref (ad 0)), (1, .int x1), (2, .int x2), (3, .int x3)] → zW G A s.heap (wM ad K I J B D) H locs → W p l e { frames := 4, cells := 0, slots := 0, locals := 95 } s m ([.ref (ad 0)] : List Value).toArray below meth c H locs 0 0 (MQ below (va_Qi (fun (r : Int32) (u : zS) => Post r u.1 u.2.1 u.2.2.1 u.2.2.2) (fun u t => zPost G K A (wM ad K u.1 u.2.1 u.2.2.1 u.2.2.2) t) A) ([.ref (ad 0)] : List Value).toArray s 0 0 A) (F0 m 116 ls [.int y0]) := by
  obtain ⟨hx, hb, hr, hml, hts, hown, hlocks, hA, hK⟩ := id C
  intro x1 x2 x3 y0 I J B D ls H locs hok hl hw
  unfold wc_LassoFinderModel_wholeFormula_116 at hok
  refine lv_istore hx hb zd_LassoFinderModel_wholeFormula_116 hl (by decide) rfl (fun ls hl => ?_)
  have hl : lv_has ls 5 [(4, .int y0), (0, .ref (ad 0)), (1, .int x1), (2, .int x2), (3, .int x3)] := hl
  refine lv_iload hx hb zd_LassoFinderModel_wholeFormula_118 (lv_at hl 0 rfl) ?_
  refine lv_if_lt (tgt := 152) hx hb zd_LassoFinderModel_wholeFormula_120 (by decide) (fun hc14 => ?_) (fun hc14 => ?_)
  · have hok := hok.1 hc14
    refine lv_iload_n hx hb zd_LassoFinderModel_wholeFormula_152 rfl (lv_at hl 4 rfl) ?_
    refine lv_bipush (v := 123) hx hb zd_LassoFinderModel_wholeFormula_153 (by decide) ?_
    refine lv_icmp_eq (tgt := 169) hx hb zd_LassoFinderModel_wholeFormula_155 (by decide) (fun hc15 => ?_) (fun hc15 => ?_)
    · have hok := hok.1 hc15
      exact wJ_LassoFinderModel_wholeFormula_169 G K ad  Post C K47 kh47 x1 I J B D ls H locs hok (lv_sub hl [1, 2] rfl) hw
    · have hok := hok.2 hc15
      refine lv_iload_n hx hb zd_LassoFinderModel_wholeFormula_158 rfl (lv_at hl 4 rfl) ?_
      refine lv_bipush (v := 64) hx hb zd_LassoFinderModel_wholeFormula_159 (by decide) ?_
      refine lv_icmp_eq (tgt := 169) hx hb zd_LassoFinderModel_wholeFormula_161 (by decide) (fun hc16 => ?_) (fun hc16 => ?_)
      · have hok := hok.1 hc16
        exact wJ_LassoFinderModel_wholeFormula_169 G K ad  Post C K47 kh47 x1 I J B D ls H locs hok (lv_sub hl [1, 2] rfl) hw
      · have hok := hok.2 hc16
        refine lv_aload_n hx hb zd_LassoFinderModel_wholeFormula_164 rfl (lv_at hl 1 rfl) ?_
        refine z_calli (w1 := fun (u : zS) => wM ad K u.1 u.2.1 u.2.2.1 u.2.2.2) (wr := []) (z_runV (q0 := 0) (wc := (wM ad K I J B D)) (As := []) (rest := []) ⟨hx, hb, hml, hown, hts⟩ (w_LassoFinderModel_fail l G K ad I J B D  _ H.size hok) zf_LassoFinderModel_fail zm_334 ⟨Nat.le_of_ble_eq_true rfl, Nat.le_of_ble_eq_true rfl⟩ hK hw (List.range 58) wM_all wM_nd wM_g0 rfl rfl hl.1 rfl (Nat.le_of_ble_eq_true rfl) zd_LassoFinderModel_wholeFormula_165 ⟨Nat.le_of_ble_eq_true rfl, Nat.le_of_ble_eq_true rfl⟩) hw hA (List.range 58) [] wM_all rfl (by decide) (fun i hi => by cases hi) (fun r17 u H locs hok hw => ?_)
        obtain ⟨I17, J17, B17, D17⟩ := u
        dsimp only at hok
        have hw : zW G A s.heap (wM ad K I17 J17 B17 D17) H locs := hw
        have hbo := hok.1
        have hok := hok.2
        exact (z_iret (u := (I17, J17, B17, D17)) hx hb hr hlocks (z_nar hbo) hw (List.range 58) wM_all wM_nd hok (Nat.le_of_ble_eq_true rfl) (Nat.le_of_ble_eq_true rfl) zd_LassoFinderModel_wholeFormula_168)
  · have hok := hok.2 hc14
    refine lv_aload_n hx hb zd_LassoFinderModel_wholeFormula_123 rfl (lv_at hl 1 rfl) ?_
    refine lv_iload hx hb zd_LassoFinderModel_wholeFormula_124 (lv_at hl 0 rfl) ?_
    refine z_calli (w1 := fun (u : zS) => wM ad K u.1 u.2.1 u.2.2.1 u.2.2.2) (wr := []) (z_runV (q0 := 0) (wc := (wM ad K I J B D)) (As := [.int y0]) (rest := []) ⟨hx, hb, hml, hown, hts⟩ (w_LassoFinderModel_push l G K ad I J B D y0 _ H.size hok) zf_LassoFinderModel_push zm_359 ⟨Nat.le_of_ble_eq_true rfl, Nat.le_of_ble_eq_true rfl⟩ hK hw (List.range 58) wM_all wM_nd wM_g0 rfl rfl hl.1 rfl (Nat.le_of_ble_eq_true rfl) zd_LassoFinderModel_wholeFormula_126 ⟨Nat.le_of_ble_eq_true rfl, Nat.le_of_ble_eq_true rfl⟩) hw hA (List.range 58) [] wM_all rfl (by decide) (fun i hi => by cases hi) (fun r18 u H locs hok hw => ?_)
    obtain ⟨I18, J18, B18, D18⟩ := u
    dsimp only at hok
    have hw : zW G A s.heap (wM ad K I18 J18 B18 D18) H locs := hw
    refine lv_if_ne (tgt := 134) hx hb zd_LassoFinderModel_wholeFormula_129 (by decide) (fun hc19 => ?_) (fun hc19 => ?_)
    · have hok := hok.1 hc19
      refine lv_iload_n hx hb zd_LassoFinderModel_wholeFormula_134 rfl (lv_at hl 2 rfl) ?_
      refine lv_iload hx hb zd_LassoFinderModel_wholeFormula_135 (lv_at hl 0 rfl) ?_
      refine lv_bipush (v := 16) hx hb zd_LassoFinderModel_wholeFormula_137 (by decide) ?_
      refine lv_icmp_ne (tgt := 146) hx hb zd_LassoFinderModel_wholeFormula_139 (by decide) (fun hc20 => ?_) (fun hc20 => ?_)
      · have hok := hok.1 hc20
        refine lv_iconst (v := 0) hx hb zd_LassoFinderModel_wholeFormula_146 (by decide) ?_
        exact wJ_LassoFinderModel_wholeFormula_147 G K ad  Post C K47 kh47 x2 0 x1 I18 J18 B18 D18 ls H locs hok (lv_sub hl [1, 3] rfl) hw
      · have hok := hok.2 hc20
        refine lv_iconst (v := 1) hx hb zd_LassoFinderModel_wholeFormula_142 (by decide) ?_
        refine lv_goto (tgt := 147) hx hb zd_LassoFinderModel_wholeFormula_143 (by decide) ?_
        exact wJ_LassoFinderModel_wholeFormula_147 G K ad  Post C K47 kh47 x2 1 x1 I18 J18 B18 D18 ls H locs hok (lv_sub hl [1, 3] rfl) hw
    · have hok := hok.2 hc19
      refine lv_iconst (v := 0) hx hb zd_LassoFinderModel_wholeFormula_132 (by decide) ?_
      exact (z_iret (u := (I18, J18, B18, D18)) hx hb hr hlocks rfl hw (List.range 58) wM_all wM_nd hok (Nat.le_of_ble_eq_true rfl) (Nat.le_of_ble_eq_true rfl) zd_LassoFinderModel_wholeFormula_133)
set_option maxHeartbeats 8000000 in
set_option maxRecDepth 100000 in
theorem wJ_LassoFinderModel_wholeFormula_62 {p : Program} {l : Launch} {e : Env} {s : State} {m : MethodId} {below : List Frame} {meth : Method} {c : Code} {A : Nat → Prop} (G : va_G) (K : Nat → ClassId) (ad : Nat → Nat) (Post : Int32 → (Nat → Int32) → (Nat → Int64) → (Nat → Nat → Int32) → (Nat → Nat → Int64) → Prop) (C : zCx p s m ([.ref (ad 0)] : List Value).toArray meth c A G K prog_14_method_47_code (some .boolean) 5 "LassoFinderModel") (K47 : Int32 → Int32 → (Nat → Int32) → (Nat → Int64) → (Nat → Nat → Int32) → (Nat → Nat → Int64) → Prop) (kh47 : ∀ (x1 : Int32) (x2 : Int32) (I : Nat → Int32) (J : Nat → Int64) (B : Nat → Nat → Int32) (D : Nat → Nat → Int64) (ls : Array Slot) (H : Heap) (locs : List Loc), K47 x1 x2 I J B D → lv_has ls 5 [(0, .ref (ad 0)), (1, .int x1), (2, .int x2)] → zW G A s.heap (wM ad K I J B D) H locs → W p l e { frames := 4, cells := 0, slots := 0, locals := 95 } s m ([.ref (ad 0)] : List Value).toArray below meth c H locs 0 0 (MQ below (va_Qi (fun (r : Int32) (u : zS) => Post r u.1 u.2.1 u.2.2.1 u.2.2.2) (fun u t => zPost G K A (wM ad K u.1 u.2.1 u.2.2.1 u.2.2.2) t) A) ([.ref (ad 0)] : List Value).toArray s 0 0 A) (F0 m 47 ls [])) : ∀ (x1 : Int32) (x2 : Int32) (I : Nat → Int32) (J : Nat → Int64) (B : Nat → Nat → Int32) (D : Nat → Nat → Int64) (ls : Array Slot) (H : Heap) (locs : List Loc), wc_LassoFinderModel_wholeFormula_62  K47 Post x1 x2 I J B D → lv_has ls 5 [(0, .ref (ad 0)), (1, .int x1), (2, .int x2)] → zW G A s.heap (wM ad K I J B D) H locs → W p l e { frames := 4, cells := 0, slots := 0, locals := 95 } s m ([.ref (ad 0)] : List Value).toArray below meth c H locs 0 0 (MQ below (va_Qi (fun (r : Int32) (u : zS) => Post r u.1 u.2.1 u.2.2.1 u.2.2.2) (fun u t => zPost G K A (wM ad K u.1 u.2.1 u.2.2.1 u.2.2.2) t) A) ([.ref (ad 0)] : List Value).toArray s 0 0 A) (F0 m 62 ls []) := by
  obtain ⟨hx, hb, hr, hml, hts, hown, hlocks, hA, hK⟩ := id C
  intro x1 x2 I J B D ls H locs hok hl hw
  unfold wc_LassoFinderModel_wholeFormula_62 at hok
  refine lv_aload_n hx hb zd_LassoFinderModel_wholeFormula_62 rfl (lv_at hl 0 rfl) ?_
  refine z_calli (w1 := fun (u : zS) => wM ad K u.1 u.2.1 u.2.2.1 u.2.2.2) (wr := []) (z_runV (q0 := 0) (wc := (wM ad K I J B D)) (As := []) (rest := []) ⟨hx, hb, hml, hown, hts⟩ (w_LassoFinderModel_here l G K ad I J B D  _ H.size hok) zf_LassoFinderModel_here zm_332 ⟨Nat.le_of_ble_eq_true rfl, Nat.le_of_ble_eq_true rfl⟩ hK hw (List.range 58) wM_all wM_nd wM_g0 rfl rfl hl.1 rfl (Nat.le_of_ble_eq_true rfl) zd_LassoFinderModel_wholeFormula_63 ⟨Nat.le_of_ble_eq_true rfl, Nat.le_of_ble_eq_true rfl⟩) hw hA (List.range 58) [] wM_all rfl (by decide) (fun i hi => by cases hi) (fun r21 u H locs hok hw => ?_)
  obtain ⟨I21, J21, B21, D21⟩ := u
  dsimp only at hok
  have hw : zW G A s.heap (wM ad K I21 J21 B21 D21) H locs := hw
  refine lv_istore_n hx hb zd_LassoFinderModel_wholeFormula_66 rfl hl (by decide) rfl (fun ls hl => ?_)
  have hl : lv_has ls 5 [(3, .int r21), (0, .ref (ad 0)), (1, .int x1), (2, .int x2)] := hl
  refine lv_iload_n hx hb zd_LassoFinderModel_wholeFormula_67 rfl (lv_at hl 3 rfl) ?_
  refine lv_if_eq (tgt := 188) hx hb zd_LassoFinderModel_wholeFormula_68 (by decide) (fun hc22 => ?_) (fun hc22 => ?_)
  · have hok := hok.1 hc22
    refine lv_iload_n hx hb zd_LassoFinderModel_wholeFormula_188 rfl (lv_at hl 0 rfl) ?_
    refine lv_bipush (v := 41) hx hb zd_LassoFinderModel_wholeFormula_189 (by decide) ?_
    refine lv_icmp_ne (tgt := 239) hx hb zd_LassoFinderModel_wholeFormula_191 (by decide) (fun hc23 => ?_) (fun hc23 => ?_)
    · have hok := hok.1 hc23
      refine lv_iload_n hx hb zd_LassoFinderModel_wholeFormula_239 rfl (lv_at hl 0 rfl) ?_
      refine lv_bipush (v := 62) hx hb zd_LassoFinderModel_wholeFormula_240 (by decide) ?_
      refine lv_icmp_ne (tgt := 250) hx hb zd_LassoFinderModel_wholeFormula_242 (by decide) (fun hc24 => ?_) (fun hc24 => ?_)
      · have hok := hok.1 hc24
        refine lv_iload_n hx hb zd_LassoFinderModel_wholeFormula_250 rfl (lv_at hl 0 rfl) ?_
        refine lv_bipush (v := 124) hx hb zd_LassoFinderModel_wholeFormula_251 (by decide) ?_
        refine lv_icmp_ne (tgt := 261) hx hb zd_LassoFinderModel_wholeFormula_253 (by decide) (fun hc25 => ?_) (fun hc25 => ?_)
        · have hok := hok.1 hc25
          refine lv_iload_n hx hb zd_LassoFinderModel_wholeFormula_261 rfl (lv_at hl 0 rfl) ?_
          refine lv_bipush (v := 38) hx hb zd_LassoFinderModel_wholeFormula_262 (by decide) ?_
          refine lv_icmp_ne (tgt := 272) hx hb zd_LassoFinderModel_wholeFormula_264 (by decide) (fun hc26 => ?_) (fun hc26 => ?_)
          · have hok := hok.1 hc26
            refine lv_iload_n hx hb zd_LassoFinderModel_wholeFormula_272 rfl (lv_at hl 0 rfl) ?_
            refine lv_bipush (v := 85) hx hb zd_LassoFinderModel_wholeFormula_273 (by decide) ?_
            refine lv_icmp_ne (tgt := 283) hx hb zd_LassoFinderModel_wholeFormula_275 (by decide) (fun hc27 => ?_) (fun hc27 => ?_)
            · have hok := hok.1 hc27
              refine lv_iload_n hx hb zd_LassoFinderModel_wholeFormula_283 rfl (lv_at hl 0 rfl) ?_
              refine lv_bipush (v := 82) hx hb zd_LassoFinderModel_wholeFormula_284 (by decide) ?_
              refine lv_icmp_ne (tgt := 294) hx hb zd_LassoFinderModel_wholeFormula_286 (by decide) (fun hc28 => ?_) (fun hc28 => ?_)
              · have hok := hok.1 hc28
                refine lv_iconst (v := (-1)) hx hb zd_LassoFinderModel_wholeFormula_294 (by decide) ?_
                exact wJ_LassoFinderModel_wholeFormula_295 G K ad  Post C K47 kh47 x1 (-1) I21 J21 B21 D21 ls H locs hok (lv_sub hl [1, 2] rfl) hw
              · have hok := hok.2 hc28
                refine lv_bipush (v := 13) hx hb zd_LassoFinderModel_wholeFormula_289 (by decide) ?_
                refine lv_goto (tgt := 295) hx hb zd_LassoFinderModel_wholeFormula_291 (by decide) ?_
                exact wJ_LassoFinderModel_wholeFormula_295 G K ad  Post C K47 kh47 x1 13 I21 J21 B21 D21 ls H locs hok (lv_sub hl [1, 2] rfl) hw
            · have hok := hok.2 hc27
              refine lv_bipush (v := 12) hx hb zd_LassoFinderModel_wholeFormula_278 (by decide) ?_
              refine lv_goto (tgt := 295) hx hb zd_LassoFinderModel_wholeFormula_280 (by decide) ?_
              exact wJ_LassoFinderModel_wholeFormula_295 G K ad  Post C K47 kh47 x1 12 I21 J21 B21 D21 ls H locs hok (lv_sub hl [1, 2] rfl) hw
          · have hok := hok.2 hc26
            refine lv_bipush (v := 9) hx hb zd_LassoFinderModel_wholeFormula_267 (by decide) ?_
            refine lv_goto (tgt := 295) hx hb zd_LassoFinderModel_wholeFormula_269 (by decide) ?_
            exact wJ_LassoFinderModel_wholeFormula_295 G K ad  Post C K47 kh47 x1 9 I21 J21 B21 D21 ls H locs hok (lv_sub hl [1, 2] rfl) hw
        · have hok := hok.2 hc25
          refine lv_bipush (v := 10) hx hb zd_LassoFinderModel_wholeFormula_256 (by decide) ?_
          refine lv_goto (tgt := 295) hx hb zd_LassoFinderModel_wholeFormula_258 (by decide) ?_
          exact wJ_LassoFinderModel_wholeFormula_295 G K ad  Post C K47 kh47 x1 10 I21 J21 B21 D21 ls H locs hok (lv_sub hl [1, 2] rfl) hw
      · have hok := hok.2 hc24
        refine lv_bipush (v := 11) hx hb zd_LassoFinderModel_wholeFormula_245 (by decide) ?_
        refine lv_goto (tgt := 295) hx hb zd_LassoFinderModel_wholeFormula_247 (by decide) ?_
        exact wJ_LassoFinderModel_wholeFormula_295 G K ad  Post C K47 kh47 x1 11 I21 J21 B21 D21 ls H locs hok (lv_sub hl [1, 2] rfl) hw
    · have hok := hok.2 hc23
      refine lv_iload_n hx hb zd_LassoFinderModel_wholeFormula_194 rfl (lv_at hl 2 rfl) ?_
      refine lv_if_ne (tgt := 203) hx hb zd_LassoFinderModel_wholeFormula_195 (by decide) (fun hc29 => ?_) (fun hc29 => ?_)
      · have hok := hok.1 hc29
        refine lv_aload_n hx hb zd_LassoFinderModel_wholeFormula_203 rfl (lv_at hl 1 rfl) ?_
        refine lv_iconst (v := 1) hx hb zd_LassoFinderModel_wholeFormula_204 (by decide) ?_
        refine z_callv (w1 := fun (u : zS) => wM ad K u.1 u.2.1 u.2.2.1 u.2.2.2) (wr := []) (z_runV (q0 := 0) (wc := (wM ad K I21 J21 B21 D21)) (As := [.int 1]) (rest := []) ⟨hx, hb, hml, hown, hts⟩ (w_LassoFinderModel_putAll l G K ad I21 J21 B21 D21 1 _ H.size hok) zf_LassoFinderModel_putAll zm_358 ⟨Nat.le_of_ble_eq_true rfl, Nat.le_of_ble_eq_true rfl⟩ hK hw (List.range 58) wM_all wM_nd wM_g0 rfl rfl hl.1 rfl (Nat.le_of_ble_eq_true rfl) zd_LassoFinderModel_wholeFormula_205 ⟨Nat.le_of_ble_eq_true rfl, Nat.le_of_ble_eq_true rfl⟩) hw hA (List.range 58) [] wM_all rfl (by decide) (fun i hi => by cases hi) (fun u H locs hok hw => ?_)
        obtain ⟨I30, J30, B30, D30⟩ := u
        dsimp only at hok
        have hw : zW G A s.heap (wM ad K I30 J30 B30 D30) H locs := hw
        refine lv_aload_n hx hb zd_LassoFinderModel_wholeFormula_208 rfl (lv_at hl 1 rfl) ?_
        refine lv_dup hx hb zd_LassoFinderModel_wholeFormula_209 rfl ?_
        refine z_get (v := .int (I30 13)) hx hb hts hown hK hw zZ12 0 wM_g0 42 (by decide) zm_348 rfl zd_LassoFinderModel_wholeFormula_210 ?_
        refine lv_iconst (v := 1) hx hb zd_LassoFinderModel_wholeFormula_213 (by decide) ?_
        refine lv_isub hx hb zd_LassoFinderModel_wholeFormula_214 ?_
        refine lv_topi (fun z31 ez31 => ?_)
        have hok := hok z31 ez31
        refine z_put (v := .int z31) hx hb hts hown hK hw zZ12 0 wM_g0 42 (by decide) zm_348 rfl rfl rfl (Nat.le_of_ble_eq_true rfl) zd_LassoFinderModel_wholeFormula_215 (fun H locs hw => ?_)
        have hw := wM_sI13 hw
        obtain ⟨z32, ez32⟩ : ∃ z : Int32, z = (x1 + (-1)) := ⟨_, rfl⟩
        have hok := hok z32 ez32
        refine lv_iinc (v := z32) hx hb zd_LassoFinderModel_wholeFormula_218 hl (k := 2) rfl ez32.symm (by decide) rfl (fun ls hl => ?_)
        have hl : lv_has ls 5 [(1, .int z32), (3, .int r21), (0, .ref (ad 0)), (2, .int x2)] := hl
        refine lv_aload_n hx hb zd_LassoFinderModel_wholeFormula_221 rfl (lv_at hl 2 rfl) ?_
        refine lv_dup hx hb zd_LassoFinderModel_wholeFormula_222 rfl ?_
        refine z_get (v := .int (I30 2)) hx hb hts hown hK hw zZ12 0 wM_g0 3 (by decide) zm_335 rfl zd_LassoFinderModel_wholeFormula_223 ?_
        refine lv_iconst (v := 1) hx hb zd_LassoFinderModel_wholeFormula_226 (by decide) ?_
        refine lv_iadd hx hb zd_LassoFinderModel_wholeFormula_227 ?_
        refine lv_topi (fun z33 ez33 => ?_)
        have hok := hok z33 ez33
        refine z_put (v := .int z33) hx hb hts hown hK hw zZ12 0 wM_g0 3 (by decide) zm_335 rfl rfl rfl (Nat.le_of_ble_eq_true rfl) zd_LassoFinderModel_wholeFormula_228 (fun H locs hw => ?_)
        have hw := wM_sI2 hw
        refine lv_aload_n hx hb zd_LassoFinderModel_wholeFormula_231 rfl (lv_at hl 2 rfl) ?_
        refine lv_iconst (v := 5) hx hb zd_LassoFinderModel_wholeFormula_232 (by decide) ?_
        refine z_callv (w1 := fun (u : zS) => wM ad K u.1 u.2.1 u.2.2.1 u.2.2.2) (wr := []) (z_runV (q0 := 0) (wc := (wM ad K (upd (upd I30 13 z31) 2 z33) J30 B30 D30)) (As := [.int 5]) (rest := []) ⟨hx, hb, hml, hown, hts⟩ (w_LassoFinderModel_putAll l G K ad (upd (upd I30 13 z31) 2 z33) J30 B30 D30 5 _ H.size hok) zf_LassoFinderModel_putAll zm_358 ⟨Nat.le_of_ble_eq_true rfl, Nat.le_of_ble_eq_true rfl⟩ hK hw (List.range 58) wM_all wM_nd wM_g0 rfl rfl hl.1 rfl (Nat.le_of_ble_eq_true rfl) zd_LassoFinderModel_wholeFormula_233 ⟨Nat.le_of_ble_eq_true rfl, Nat.le_of_ble_eq_true rfl⟩) hw hA (List.range 58) [] wM_all rfl (by decide) (fun i hi => by cases hi) (fun u H locs hok hw => ?_)
        obtain ⟨I34, J34, B34, D34⟩ := u
        dsimp only at hok
        have hw : zW G A s.heap (wM ad K I34 J34 B34 D34) H locs := hw
        refine lv_goto (tgt := 349) hx hb zd_LassoFinderModel_wholeFormula_236 (by decide) ?_
        exact wJ_LassoFinderModel_wholeFormula_349 G K ad  Post C K47 kh47 z32 x2 I34 J34 B34 D34 ls H locs hok (lv_sub hl [2, 0, 3] rfl) hw
      · have hok := hok.2 hc29
        refine lv_aload_n hx hb zd_LassoFinderModel_wholeFormula_198 rfl (lv_at hl 1 rfl) ?_
        refine z_calli (w1 := fun (u : zS) => wM ad K u.1 u.2.1 u.2.2.1 u.2.2.2) (wr := []) (z_runV (q0 := 0) (wc := (wM ad K I21 J21 B21 D21)) (As := []) (rest := []) ⟨hx, hb, hml, hown, hts⟩ (w_LassoFinderModel_fail l G K ad I21 J21 B21 D21  _ H.size hok) zf_LassoFinderModel_fail zm_334 ⟨Nat.le_of_ble_eq_true rfl, Nat.le_of_ble_eq_true rfl⟩ hK hw (List.range 58) wM_all wM_nd wM_g0 rfl rfl hl.1 rfl (Nat.le_of_ble_eq_true rfl) zd_LassoFinderModel_wholeFormula_199 ⟨Nat.le_of_ble_eq_true rfl, Nat.le_of_ble_eq_true rfl⟩) hw hA (List.range 58) [] wM_all rfl (by decide) (fun i hi => by cases hi) (fun r35 u H locs hok hw => ?_)
        obtain ⟨I35, J35, B35, D35⟩ := u
        dsimp only at hok
        have hw : zW G A s.heap (wM ad K I35 J35 B35 D35) H locs := hw
        have hbo := hok.1
        have hok := hok.2
        exact (z_iret (u := (I35, J35, B35, D35)) hx hb hr hlocks (z_nar hbo) hw (List.range 58) wM_all wM_nd hok (Nat.le_of_ble_eq_true rfl) (Nat.le_of_ble_eq_true rfl) zd_LassoFinderModel_wholeFormula_202)
  · have hok := hok.2 hc22
    refine lv_iload_n hx hb zd_LassoFinderModel_wholeFormula_71 rfl (lv_at hl 0 rfl) ?_
    refine lv_bipush (v := 33) hx hb zd_LassoFinderModel_wholeFormula_72 (by decide) ?_
    refine lv_icmp_ne (tgt := 82) hx hb zd_LassoFinderModel_wholeFormula_74 (by decide) (fun hc36 => ?_) (fun hc36 => ?_)
    · have hok := hok.1 hc36
      refine lv_iload_n hx hb zd_LassoFinderModel_wholeFormula_82 rfl (lv_at hl 0 rfl) ?_
      refine lv_bipush (v := 71) hx hb zd_LassoFinderModel_wholeFormula_83 (by decide) ?_
      refine lv_icmp_ne (tgt := 93) hx hb zd_LassoFinderModel_wholeFormula_85 (by decide) (fun hc37 => ?_) (fun hc37 => ?_)
      · have hok := hok.1 hc37
        refine lv_iload_n hx hb zd_LassoFinderModel_wholeFormula_93 rfl (lv_at hl 0 rfl) ?_
        refine lv_bipush (v := 70) hx hb zd_LassoFinderModel_wholeFormula_94 (by decide) ?_
        refine lv_icmp_ne (tgt := 104) hx hb zd_LassoFinderModel_wholeFormula_96 (by decide) (fun hc38 => ?_) (fun hc38 => ?_)
        · have hok := hok.1 hc38
          refine lv_iload_n hx hb zd_LassoFinderModel_wholeFormula_104 rfl (lv_at hl 0 rfl) ?_
          refine lv_bipush (v := 40) hx hb zd_LassoFinderModel_wholeFormula_105 (by decide) ?_
          refine lv_icmp_ne (tgt := 115) hx hb zd_LassoFinderModel_wholeFormula_107 (by decide) (fun hc39 => ?_) (fun hc39 => ?_)
          · have hok := hok.1 hc39
            refine lv_iconst (v := (-1)) hx hb zd_LassoFinderModel_wholeFormula_115 (by decide) ?_
            exact wJ_LassoFinderModel_wholeFormula_116 G K ad  Post C K47 kh47 x1 x2 r21 (-1) I21 J21 B21 D21 ls H locs hok (lv_sub hl [1, 2, 3, 0] rfl) hw
          · have hok := hok.2 hc39
            refine lv_bipush (v := 16) hx hb zd_LassoFinderModel_wholeFormula_110 (by decide) ?_
            refine lv_goto (tgt := 116) hx hb zd_LassoFinderModel_wholeFormula_112 (by decide) ?_
            exact wJ_LassoFinderModel_wholeFormula_116 G K ad  Post C K47 kh47 x1 x2 r21 16 I21 J21 B21 D21 ls H locs hok (lv_sub hl [1, 2, 3, 0] rfl) hw
        · have hok := hok.2 hc38
          refine lv_bipush (v := 15) hx hb zd_LassoFinderModel_wholeFormula_99 (by decide) ?_
          refine lv_goto (tgt := 116) hx hb zd_LassoFinderModel_wholeFormula_101 (by decide) ?_
          exact wJ_LassoFinderModel_wholeFormula_116 G K ad  Post C K47 kh47 x1 x2 r21 15 I21 J21 B21 D21 ls H locs hok (lv_sub hl [1, 2, 3, 0] rfl) hw
      · have hok := hok.2 hc37
        refine lv_bipush (v := 14) hx hb zd_LassoFinderModel_wholeFormula_88 (by decide) ?_
        refine lv_goto (tgt := 116) hx hb zd_LassoFinderModel_wholeFormula_90 (by decide) ?_
        exact wJ_LassoFinderModel_wholeFormula_116 G K ad  Post C K47 kh47 x1 x2 r21 14 I21 J21 B21 D21 ls H locs hok (lv_sub hl [1, 2, 3, 0] rfl) hw
    · have hok := hok.2 hc36
      refine lv_bipush (v := 8) hx hb zd_LassoFinderModel_wholeFormula_77 (by decide) ?_
      refine lv_goto (tgt := 116) hx hb zd_LassoFinderModel_wholeFormula_79 (by decide) ?_
      exact wJ_LassoFinderModel_wholeFormula_116 G K ad  Post C K47 kh47 x1 x2 r21 8 I21 J21 B21 D21 ls H locs hok (lv_sub hl [1, 2, 3, 0] rfl) hw
set_option maxHeartbeats 8000000 in
set_option maxRecDepth 100000 in
theorem wB_LassoFinderModel_wholeFormula_47 {p : Program} {l : Launch} {e : Env} {s : State} {m : MethodId} {below : List Frame} {meth : Method} {c : Code} {A : Nat → Prop} (G : va_G) (K : Nat → ClassId) (ad : Nat → Nat) (Post : Int32 → (Nat → Int32) → (Nat → Int64) → (Nat → Nat → Int32) → (Nat → Nat → Int64) → Prop) (C : zCx p s m ([.ref (ad 0)] : List Value).toArray meth c A G K prog_14_method_47_code (some .boolean) 5 "LassoFinderModel") (K47 : Int32 → Int32 → (Nat → Int32) → (Nat → Int64) → (Nat → Nat → Int32) → (Nat → Nat → Int64) → Prop) (kh47 : ∀ (x1 : Int32) (x2 : Int32) (I : Nat → Int32) (J : Nat → Int64) (B : Nat → Nat → Int32) (D : Nat → Nat → Int64) (ls : Array Slot) (H : Heap) (locs : List Loc), K47 x1 x2 I J B D → lv_has ls 5 [(0, .ref (ad 0)), (1, .int x1), (2, .int x2)] → zW G A s.heap (wM ad K I J B D) H locs → W p l e { frames := 4, cells := 0, slots := 0, locals := 95 } s m ([.ref (ad 0)] : List Value).toArray below meth c H locs 0 0 (MQ below (va_Qi (fun (r : Int32) (u : zS) => Post r u.1 u.2.1 u.2.2.1 u.2.2.2) (fun u t => zPost G K A (wM ad K u.1 u.2.1 u.2.2.1 u.2.2.2) t) A) ([.ref (ad 0)] : List Value).toArray s 0 0 A) (F0 m 47 ls [])) : ∀ (x1 : Int32) (x2 : Int32) (I : Nat → Int32) (J : Nat → Int64) (B : Nat → Nat → Int32) (D : Nat → Nat → Int64) (ls : Array Slot) (H : Heap) (locs : List Loc), wb_LassoFinderModel_wholeFormula_47  K47 Post x1 x2 I J B D → lv_has ls 5 [(0, .ref (ad 0)), (1, .int x1), (2, .int x2)] → zW G A s.heap (wM ad K I J B D) H locs → W p l e { frames := 4, cells := 0, slots := 0, locals := 95 } s m ([.ref (ad 0)] : List Value).toArray below meth c H locs 0 0 (MQ below (va_Qi (fun (r : Int32) (u : zS) => Post r u.1 u.2.1 u.2.2.1 u.2.2.2) (fun u t => zPost G K A (wM ad K u.1 u.2.1 u.2.2.1 u.2.2.2) t) A) ([.ref (ad 0)] : List Value).toArray s 0 0 A) (F0 m 47 ls []) := by
  obtain ⟨hx, hb, hr, hml, hts, hown, hlocks, hA, hK⟩ := id C
  intro x1 x2 I J B D ls H locs hok hl hw
  unfold wb_LassoFinderModel_wholeFormula_47 at hok
  refine lv_iload_n hx hb zd_LassoFinderModel_wholeFormula_47 rfl (lv_at hl 2 rfl) ?_
  refine lv_if_ne (tgt := 62) hx hb zd_LassoFinderModel_wholeFormula_48 (by decide) (fun hc40 => ?_) (fun hc40 => ?_)
  · have hok := hok.1 hc40
    exact wJ_LassoFinderModel_wholeFormula_62 G K ad  Post C K47 kh47 x1 x2 I J B D ls H locs hok (lv_sub hl [0, 1, 2] rfl) hw
  · have hok := hok.2 hc40
    refine lv_aload_n hx hb zd_LassoFinderModel_wholeFormula_51 rfl (lv_at hl 0 rfl) ?_
    refine z_get (v := .int (I 2)) hx hb hts hown hK hw zZ12 0 wM_g0 3 (by decide) zm_335 rfl zd_LassoFinderModel_wholeFormula_52 ?_
    refine lv_aload_n hx hb zd_LassoFinderModel_wholeFormula_55 rfl (lv_at hl 0 rfl) ?_
    refine z_get (v := .int (I 1)) hx hb hts hown hK hw zZ12 0 wM_g0 1 (by decide) zm_294 rfl zd_LassoFinderModel_wholeFormula_56 ?_
    refine lv_icmp_ge (tgt := 352) hx hb zd_LassoFinderModel_wholeFormula_59 (by decide) (fun hc41 => ?_) (fun hc41 => ?_)
    · have hok := hok.1 hc41
      refine lv_iload_n hx hb zd_LassoFinderModel_wholeFormula_352 rfl (lv_at hl 1 rfl) ?_
      refine lv_if_le (tgt := 361) hx hb zd_LassoFinderModel_wholeFormula_353 (by decide) (fun hc42 => ?_) (fun hc42 => ?_)
      · have hok := hok.1 hc42
        refine lv_aload_n hx hb zd_LassoFinderModel_wholeFormula_361 rfl (lv_at hl 0 rfl) ?_
        refine lv_iconst (v := 1) hx hb zd_LassoFinderModel_wholeFormula_362 (by decide) ?_
        refine z_callv (w1 := fun (u : zS) => wM ad K u.1 u.2.1 u.2.2.1 u.2.2.2) (wr := []) (z_runV (q0 := 0) (wc := (wM ad K I J B D)) (As := [.int 1]) (rest := []) ⟨hx, hb, hml, hown, hts⟩ (w_LassoFinderModel_putAll l G K ad I J B D 1 _ H.size hok) zf_LassoFinderModel_putAll zm_358 ⟨Nat.le_of_ble_eq_true rfl, Nat.le_of_ble_eq_true rfl⟩ hK hw (List.range 58) wM_all wM_nd wM_g0 rfl rfl hl.1 rfl (Nat.le_of_ble_eq_true rfl) zd_LassoFinderModel_wholeFormula_363 ⟨Nat.le_of_ble_eq_true rfl, Nat.le_of_ble_eq_true rfl⟩) hw hA (List.range 58) [] wM_all rfl (by decide) (fun i hi => by cases hi) (fun u H locs hok hw => ?_)
        obtain ⟨I43, J43, B43, D43⟩ := u
        dsimp only at hok
        have hw : zW G A s.heap (wM ad K I43 J43 B43 D43) H locs := hw
        refine lv_iconst (v := 1) hx hb zd_LassoFinderModel_wholeFormula_366 (by decide) ?_
        exact (z_iret (u := (I43, J43, B43, D43)) hx hb hr hlocks rfl hw (List.range 58) wM_all wM_nd hok (Nat.le_of_ble_eq_true rfl) (Nat.le_of_ble_eq_true rfl) zd_LassoFinderModel_wholeFormula_367)
      · have hok := hok.2 hc42
        refine lv_aload_n hx hb zd_LassoFinderModel_wholeFormula_356 rfl (lv_at hl 0 rfl) ?_
        refine z_calli (w1 := fun (u : zS) => wM ad K u.1 u.2.1 u.2.2.1 u.2.2.2) (wr := []) (z_runV (q0 := 0) (wc := (wM ad K I J B D)) (As := []) (rest := []) ⟨hx, hb, hml, hown, hts⟩ (w_LassoFinderModel_fail l G K ad I J B D  _ H.size hok) zf_LassoFinderModel_fail zm_334 ⟨Nat.le_of_ble_eq_true rfl, Nat.le_of_ble_eq_true rfl⟩ hK hw (List.range 58) wM_all wM_nd wM_g0 rfl rfl hl.1 rfl (Nat.le_of_ble_eq_true rfl) zd_LassoFinderModel_wholeFormula_357 ⟨Nat.le_of_ble_eq_true rfl, Nat.le_of_ble_eq_true rfl⟩) hw hA (List.range 58) [] wM_all rfl (by decide) (fun i hi => by cases hi) (fun r44 u H locs hok hw => ?_)
        obtain ⟨I44, J44, B44, D44⟩ := u
        dsimp only at hok
        have hw : zW G A s.heap (wM ad K I44 J44 B44 D44) H locs := hw
        have hbo := hok.1
        have hok := hok.2
        exact (z_iret (u := (I44, J44, B44, D44)) hx hb hr hlocks (z_nar hbo) hw (List.range 58) wM_all wM_nd hok (Nat.le_of_ble_eq_true rfl) (Nat.le_of_ble_eq_true rfl) zd_LassoFinderModel_wholeFormula_360)
    · have hok := hok.2 hc41
      exact wJ_LassoFinderModel_wholeFormula_62 G K ad  Post C K47 kh47 x1 x2 I J B D ls H locs hok (lv_sub hl [0, 1, 2] rfl) hw
theorem wL_LassoFinderModel_wholeFormula_47 {p : Program} {l : Launch} {e : Env} {s : State} {m : MethodId} {below : List Frame} {meth : Method} {c : Code} {A : Nat → Prop} (G : va_G) (K : Nat → ClassId) (ad : Nat → Nat) (Post : Int32 → (Nat → Int32) → (Nat → Int64) → (Nat → Nat → Int32) → (Nat → Nat → Int64) → Prop) (C : zCx p s m ([.ref (ad 0)] : List Value).toArray meth c A G K prog_14_method_47_code (some .boolean) 5 "LassoFinderModel") : ∀ (n : Nat) (x1 : Int32) (x2 : Int32) (I : Nat → Int32) (J : Nat → Int64) (B : Nat → Nat → Int32) (D : Nat → Nat → Int64) (ls : Array Slot) (H : Heap) (locs : List Loc), wl_LassoFinderModel_wholeFormula_47  Post n x1 x2 I J B D → lv_has ls 5 [(0, .ref (ad 0)), (1, .int x1), (2, .int x2)] → zW G A s.heap (wM ad K I J B D) H locs → W p l e { frames := 4, cells := 0, slots := 0, locals := 95 } s m ([.ref (ad 0)] : List Value).toArray below meth c H locs 0 0 (MQ below (va_Qi (fun (r : Int32) (u : zS) => Post r u.1 u.2.1 u.2.2.1 u.2.2.2) (fun u t => zPost G K A (wM ad K u.1 u.2.1 u.2.2.1 u.2.2.2) t) A) ([.ref (ad 0)] : List Value).toArray s 0 0 A) (F0 m 47 ls []) := by
  intro n
  induction n with
  | zero => intro x1 x2 I J B D ls H locs hok; exact hok.elim
  | succ n ih => exact wB_LassoFinderModel_wholeFormula_47 G K ad  Post C (wl_LassoFinderModel_wholeFormula_47  Post n) ih
set_option maxHeartbeats 8000000 in
set_option maxRecDepth 100000 in
theorem w_LassoFinderModel_wholeFormula (l : Launch) (G : va_G) (K : Nat → ClassId) (ad : Nat → Nat) (I : Nat → Int32) (J : Nat → Int64) (B : Nat → Nat → Int32) (D : Nat → Nat → Int64) (Post : Int32 → (Nat → Int32) → (Nat → Int64) → (Nat → Nat → Int32) → (Nat → Nat → Int64) → Prop) (sz : Nat) (hok : wp_LassoFinderModel_wholeFormula I J B D  Post) : Met l zy_LassoFinderModel_wholeFormula (Cond.code zy_LassoFinderModel_wholeFormula prog_14_method_47_code 5 (some .boolean) :: zTB) { frames := 4, cells := 0, slots := 0, locals := 95 } (va_Pc [.ref (ad 0)] (zPre G K (wM ad K I J B D) sz)) (va_Qi (fun (r : Int32) (u : zS) => Post r u.1 u.2.1 u.2.2.1 u.2.2.2) (fun u t => zPost G K (va_A (wM ad K I J B D) sz) (wM ad K u.1 u.2.1 u.2.2.1 u.2.2.2) t) (va_A (wM ad K I J B D) sz)) 0 0 (va_A (wM ad K I J B D) sz) := by
  refine zMet (y := zy_LassoFinderModel_wholeFormula) (av := [.ref (ad 0)]) (maxL := 5) (cc := prog_14_method_47_code) (ret := (some .boolean)) (W0 := (wM ad K I J B D)) (sz := sz) (G := G) (K := K) (wt := zTB) (mc := 0) (ms := 0) (Qf := fun A => va_Qi (fun (r : Int32) (u : zS) => Post r u.1 u.2.1 u.2.2.1 u.2.2.2) (fun u t => zPost G K A (wM ad K u.1 u.2.1 u.2.2.1 u.2.2.2) t) A) (by decide) (Nat.le_of_ble_eq_true rfl) ?_
  intro p e s m below meth c ls A hx hb hr hml hts hown hlocks hin hA hK H locs hw hsz hl
  clear hsz
  have hown : s.vm.findClass "LassoFinderModel" = some m.cls := hown
  have C : zCx p s m ([.ref (ad 0)] : List Value).toArray meth c A G K prog_14_method_47_code (some .boolean) 5 "LassoFinderModel" := ⟨hx, hb, hr, hml, hts, hown, hlocks, hA, hK⟩
  have hl : lv_has ls 5 [(0, .ref (ad 0))] := hl
  have hw : zW G A s.heap (wM ad K I J B D) H locs := hw
  unfold wp_LassoFinderModel_wholeFormula at hok
  refine lv_aload_n hx hb zd_LassoFinderModel_wholeFormula_0 rfl (lv_at hl 0 rfl) ?_
  refine lv_iconst (v := 0) hx hb zd_LassoFinderModel_wholeFormula_1 (by decide) ?_
  refine z_put (v := .int 0) hx hb hts hown hK hw zZ12 0 wM_g0 3 (by decide) zm_335 rfl rfl rfl (Nat.le_of_ble_eq_true rfl) zd_LassoFinderModel_wholeFormula_2 (fun H locs hw => ?_)
  have hw := wM_sI2 hw
  refine lv_aload_n hx hb zd_LassoFinderModel_wholeFormula_5 rfl (lv_at hl 0 rfl) ?_
  refine lv_iconst (v := (-1)) hx hb zd_LassoFinderModel_wholeFormula_6 (by decide) ?_
  refine z_put (v := .int (-1)) hx hb hts hown hK hw zZ12 0 wM_g0 4 (by decide) zm_301 rfl rfl rfl (Nat.le_of_ble_eq_true rfl) zd_LassoFinderModel_wholeFormula_7 (fun H locs hw => ?_)
  have hw := wM_sI3 hw
  refine lv_aload_n hx hb zd_LassoFinderModel_wholeFormula_10 rfl (lv_at hl 0 rfl) ?_
  refine lv_aload_n hx hb zd_LassoFinderModel_wholeFormula_11 rfl (lv_at hl 0 rfl) ?_
  refine z_get (v := .int (I 22)) hx hb hts hown hK hw zZ12 0 wM_g0 67 (by decide) zm_302 rfl zd_LassoFinderModel_wholeFormula_12 ?_
  refine z_put (v := .int (I 22)) hx hb hts hown hK hw zZ12 0 wM_g0 36 (by decide) zm_296 rfl rfl rfl (Nat.le_of_ble_eq_true rfl) zd_LassoFinderModel_wholeFormula_15 (fun H locs hw => ?_)
  have hw := wM_sI11 hw
  refine lv_aload_n hx hb zd_LassoFinderModel_wholeFormula_18 rfl (lv_at hl 0 rfl) ?_
  refine lv_iconst (v := 0) hx hb zd_LassoFinderModel_wholeFormula_19 (by decide) ?_
  refine z_put (v := .int 0) hx hb hts hown hK hw zZ12 0 wM_g0 62 (by decide) zm_357 rfl rfl rfl (Nat.le_of_ble_eq_true rfl) zd_LassoFinderModel_wholeFormula_20 (fun H locs hw => ?_)
  have hw := wM_sI19 hw
  refine lv_aload_n hx hb zd_LassoFinderModel_wholeFormula_23 rfl (lv_at hl 0 rfl) ?_
  refine lv_iconst (v := 0) hx hb zd_LassoFinderModel_wholeFormula_24 (by decide) ?_
  refine z_put (v := .int 0) hx hb hts hown hK hw zZ12 0 wM_g0 64 (by decide) zm_356 rfl rfl rfl (Nat.le_of_ble_eq_true rfl) zd_LassoFinderModel_wholeFormula_25 (fun H locs hw => ?_)
  have hw := wM_sI20 hw
  refine lv_aload_n hx hb zd_LassoFinderModel_wholeFormula_28 rfl (lv_at hl 0 rfl) ?_
  refine lv_iconst (v := 0) hx hb zd_LassoFinderModel_wholeFormula_29 (by decide) ?_
  refine z_put (v := .int 0) hx hb hts hown hK hw zZ12 0 wM_g0 69 (by decide) zm_353 rfl rfl rfl (Nat.le_of_ble_eq_true rfl) zd_LassoFinderModel_wholeFormula_30 (fun H locs hw => ?_)
  have hw := wM_sI23 hw
  refine lv_aload_n hx hb zd_LassoFinderModel_wholeFormula_33 rfl (lv_at hl 0 rfl) ?_
  refine lv_iconst (v := 0) hx hb zd_LassoFinderModel_wholeFormula_34 (by decide) ?_
  refine z_put (v := .int 0) hx hb hts hown hK hw zZ12 0 wM_g0 65 (by decide) zm_362 rfl rfl rfl (Nat.le_of_ble_eq_true rfl) zd_LassoFinderModel_wholeFormula_35 (fun H locs hw => ?_)
  have hw := wM_sI21 hw
  refine lv_aload_n hx hb zd_LassoFinderModel_wholeFormula_38 rfl (lv_at hl 0 rfl) ?_
  refine lv_iconst (v := 0) hx hb zd_LassoFinderModel_wholeFormula_39 (by decide) ?_
  refine z_put (v := .int 0) hx hb hts hown hK hw zZ12 0 wM_g0 42 (by decide) zm_348 rfl rfl rfl (Nat.le_of_ble_eq_true rfl) zd_LassoFinderModel_wholeFormula_40 (fun H locs hw => ?_)
  have hw := wM_sI13 hw
  refine lv_iconst (v := 0) hx hb zd_LassoFinderModel_wholeFormula_43 (by decide) ?_
  refine lv_istore_n hx hb zd_LassoFinderModel_wholeFormula_44 rfl hl (by decide) rfl (fun ls hl => ?_)
  have hl : lv_has ls 5 [(1, .int 0), (0, .ref (ad 0))] := hl
  refine lv_iconst (v := 1) hx hb zd_LassoFinderModel_wholeFormula_45 (by decide) ?_
  refine lv_istore_n hx hb zd_LassoFinderModel_wholeFormula_46 rfl hl (by decide) rfl (fun ls hl => ?_)
  have hl : lv_has ls 5 [(2, .int 1), (1, .int 0), (0, .ref (ad 0))] := hl
  obtain ⟨n9, hok⟩ := hok
  exact wL_LassoFinderModel_wholeFormula_47 G K ad  Post C n9 0 1 (upd (upd (upd (upd (upd (upd (upd (upd I 2 0) 3 (-1)) 11 (I 22)) 19 0) 20 0) 23 0) 21 0) 13 0) J B D ls H locs hok (lv_sub hl [2, 1, 0] rfl) hw
