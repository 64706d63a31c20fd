abbrev zy_LassoFinderModel_model : MethodName := ⟨"LassoFinderModel", "model", "()I"⟩
abbrev zy_LassoFinderModel_wholeModel : MethodName := ⟨"LassoFinderModel", "wholeModel", "()Z"⟩
abbrev zy_LassoFinderModel_declaration : MethodName := ⟨"LassoFinderModel", "declaration", "()Z"⟩
theorem zm_295 : Cond.methodLink "LassoFinderModel" 364 ⟨"LassoFinderModel", "wholeModel", "()Z"⟩ ∈ zTB := z_in (zt_7 _ (List.mem_of_getElem? (i := 122) rfl)) rfl
theorem zm_297 : Cond.methodLink "LassoFinderModel" 370 ⟨"LassoFinderModel", "link", "()V"⟩ ∈ zTB := z_in (zt_7 _ (List.mem_of_getElem? (i := 201) rfl)) rfl
theorem zm_298 : Cond.methodLink "LassoFinderModel" 373 ⟨"LassoFinderModel", "reach", "()Z"⟩ ∈ zTB := z_in (zt_7 _ (List.mem_of_getElem? (i := 209) rfl)) rfl
theorem zm_299 : Cond.fieldLink "LassoFinderModel" 361 "LassoFinderModel" "there" "Z" ∈ zTB := z_in (zt_6 _ (List.mem_of_getElem? (i := 100) rfl)) rfl
theorem zm_302 : Cond.fieldLink "LassoFinderModel" 367 "LassoFinderModel" "modelCodes" "I" ∈ zTB := z_in (zt_6 _ (List.mem_of_getElem? (i := 161) rfl)) rfl
theorem zm_328 : Cond.fieldLink "LassoFinderModel" 13 "LassoFinderModel" "place" "I" ∈ zTB := z_in (zt_6 _ (List.mem_of_getElem? (i := 99) rfl)) rfl
theorem zm_329 : Cond.fieldLink "LassoFinderModel" 358 "LassoFinderModel" "asked" "Z" ∈ zTB := z_in (zt_6 _ (List.mem_of_getElem? (i := 155) rfl)) rfl
theorem zm_330 : Cond.fieldLink "LassoFinderModel" 178 "LassoFinderModel" "stem" "I" ∈ zTB := z_in (zt_6 _ (List.mem_of_getElem? (i := 172) rfl)) rfl
theorem zm_331 : Cond.fieldLink "LassoFinderModel" 187 "LassoFinderModel" "walked" "I" ∈ zTB := z_in (zt_6 _ (List.mem_of_getElem? (i := 176) rfl)) rfl
theorem zm_333 : Cond.methodLink "LassoFinderModel" 292 ⟨"LassoFinderModel", "declaration", "()Z"⟩ ∈ zTB := z_in (zt_7 _ (List.mem_of_getElem? (i := 130) rfl)) rfl
theorem zm_336 : Cond.methodLink "LassoFinderModel" 295 ⟨"LassoFinderModel", "body", "()Z"⟩ ∈ zTB := z_in (zt_7 _ (List.mem_of_getElem? (i := 146) rfl)) rfl
theorem zm_442 : Cond.code ⟨"LassoFinderModel", "link", "()V"⟩ prog_14_method_27_code 4 none ∈ zTB := z_in (zt_7 _ (List.mem_of_getElem? (i := 204) rfl)) rfl
theorem zm_443 : Cond.instanceMethod ⟨"LassoFinderModel", "link", "()V"⟩ ∈ zTB := z_in (zt_7 _ (List.mem_of_getElem? (i := 203) rfl)) rfl
theorem zm_444 : Cond.code ⟨"LassoFinderModel", "reach", "()Z"⟩ prog_14_method_38_code 4 (some .boolean) ∈ zTB := z_in (zt_7 _ (List.mem_of_getElem? (i := 212) rfl)) rfl
theorem zm_445 : Cond.instanceMethod ⟨"LassoFinderModel", "reach", "()Z"⟩ ∈ zTB := z_in (zt_7 _ (List.mem_of_getElem? (i := 211) rfl)) rfl
theorem zm_446 : Cond.code ⟨"LassoFinderModel", "body", "()Z"⟩ prog_14_method_24_code 6 (some .boolean) ∈ zTB := z_in (zt_7 _ (List.mem_of_getElem? (i := 149) rfl)) rfl
theorem zm_447 : Cond.instanceMethod ⟨"LassoFinderModel", "body", "()Z"⟩ ∈ zTB := z_in (zt_7 _ (List.mem_of_getElem? (i := 148) rfl)) rfl
theorem zm_448 : Cond.code ⟨"LassoFinderModel", "declaration", "()Z"⟩ prog_14_method_14_code 3 (some .boolean) ∈ zTB := z_in (zt_7 _ (List.mem_of_getElem? (i := 133) rfl)) rfl
theorem zm_449 : Cond.instanceMethod ⟨"LassoFinderModel", "declaration", "()Z"⟩ ∈ zTB := z_in (zt_7 _ (List.mem_of_getElem? (i := 132) rfl)) rfl
theorem zm_450 : Cond.code ⟨"LassoFinderModel", "wholeModel", "()Z"⟩ prog_14_method_25_code 2 (some .boolean) ∈ zTB := z_in (zt_7 _ (List.mem_of_getElem? (i := 125) rfl)) rfl
theorem zm_451 : Cond.instanceMethod ⟨"LassoFinderModel", "wholeModel", "()Z"⟩ ∈ zTB := z_in (zt_7 _ (List.mem_of_getElem? (i := 124) rfl)) rfl
theorem zf_LassoFinderModel_link : zFaceV zy_LassoFinderModel_link prog_14_method_27_code 4 none 0 := ⟨zm_443, (z_in (zp_6 _ (List.mem_of_getElem? (i := 11) rfl)) rfl), zm_25, zm_442, by decide +kernel, by decide +kernel, by decide +kernel⟩
theorem zf_LassoFinderModel_reach : zFaceV zy_LassoFinderModel_reach prog_14_method_38_code 4 (some .boolean) 0 := ⟨zm_445, (z_in (zp_6 _ (List.mem_of_getElem? (i := 13) rfl)) rfl), zm_25, zm_444, by decide +kernel, by decide +kernel, by decide +kernel⟩
theorem zf_LassoFinderModel_body : zFaceV zy_LassoFinderModel_body prog_14_method_24_code 6 (some .boolean) 0 := ⟨zm_447, (z_in (zp_5 _ (List.mem_of_getElem? (i := 14) rfl)) rfl), zm_25, zm_446, by decide +kernel, by decide +kernel, by decide +kernel⟩
theorem zf_LassoFinderModel_declaration : zFaceV zy_LassoFinderModel_declaration prog_14_method_14_code 3 (some .boolean) 0 := ⟨zm_449, (z_in (zp_5 _ (List.mem_of_getElem? (i := 10) rfl)) rfl), zm_25, zm_448, by decide +kernel, by decide +kernel, by decide +kernel⟩
theorem zf_LassoFinderModel_wholeModel : zFaceV zy_LassoFinderModel_wholeModel prog_14_method_25_code 2 (some .boolean) 0 := ⟨zm_451, (z_in (zp_5 _ (List.mem_of_getElem? (i := 8) rfl)) rfl), zm_25, zm_450, by decide +kernel, by decide +kernel, by decide +kernel⟩
theorem zd_LassoFinderModel_declaration_0 : decode prog_14_method_14_code 0 = .ok (.aload_n 0, 1) := by decide +kernel
theorem zd_LassoFinderModel_declaration_1 : decode prog_14_method_14_code 1 = .ok (.invokevirtual 209, 3) := by decide +kernel
theorem zd_LassoFinderModel_declaration_4 : decode prog_14_method_14_code 4 = .ok (.bipush 35, 2) := by decide +kernel
theorem zd_LassoFinderModel_declaration_6 : decode prog_14_method_14_code 6 = .ok (.if_icmp .ne 7, 3) := by decide +kernel
theorem zd_LassoFinderModel_declaration_9 : decode prog_14_method_14_code 9 = .ok (.iconst 1, 1) := by decide +kernel
theorem zd_LassoFinderModel_declaration_10 : decode prog_14_method_14_code 10 = .ok (.goto 4, 3) := by decide +kernel
theorem zd_LassoFinderModel_declaration_13 : decode prog_14_method_14_code 13 = .ok (.iconst 0, 1) := by decide +kernel
theorem zd_LassoFinderModel_declaration_14 : decode prog_14_method_14_code 14 = .ok (.istore_n 1, 1) := by decide +kernel
theorem zd_LassoFinderModel_declaration_15 : decode prog_14_method_14_code 15 = .ok (.iload_n 1, 1) := by decide +kernel
theorem zd_LassoFinderModel_declaration_16 : decode prog_14_method_14_code 16 = .ok (.ifCond .eq 13, 3) := by decide +kernel
theorem zd_LassoFinderModel_declaration_19 : decode prog_14_method_14_code 19 = .ok (.aload_n 0, 1) := by decide +kernel
theorem zd_LassoFinderModel_declaration_20 : decode prog_14_method_14_code 20 = .ok (.dup, 1) := by decide +kernel
theorem zd_LassoFinderModel_declaration_21 : decode prog_14_method_14_code 21 = .ok (.getfield 203, 3) := by decide +kernel
theorem zd_LassoFinderModel_declaration_24 : decode prog_14_method_14_code 24 = .ok (.iconst 1, 1) := by decide +kernel
theorem zd_LassoFinderModel_declaration_25 : decode prog_14_method_14_code 25 = .ok (.iadd, 1) := by decide +kernel
theorem zd_LassoFinderModel_declaration_26 : decode prog_14_method_14_code 26 = .ok (.putfield 203, 3) := by decide +kernel
theorem zd_LassoFinderModel_declaration_29 : decode prog_14_method_14_code 29 = .ok (.aload_n 0, 1) := by decide +kernel
theorem zd_LassoFinderModel_declaration_30 : decode prog_14_method_14_code 30 = .ok (.bipush 97, 2) := by decide +kernel
theorem zd_LassoFinderModel_declaration_32 : decode prog_14_method_14_code 32 = .ok (.bipush 8, 2) := by decide +kernel
theorem zd_LassoFinderModel_declaration_34 : decode prog_14_method_14_code 34 = .ok (.invokevirtual 231, 3) := by decide +kernel
theorem zd_LassoFinderModel_declaration_37 : decode prog_14_method_14_code 37 = .ok (.istore_n 2, 1) := by decide +kernel
theorem zd_LassoFinderModel_declaration_38 : decode prog_14_method_14_code 38 = .ok (.iload_n 2, 1) := by decide +kernel
theorem zd_LassoFinderModel_declaration_39 : decode prog_14_method_14_code 39 = .ok (.ifCond .lt 45, 3) := by decide +kernel
theorem zd_LassoFinderModel_declaration_42 : decode prog_14_method_14_code 42 = .ok (.aload_n 0, 1) := by decide +kernel
theorem zd_LassoFinderModel_declaration_43 : decode prog_14_method_14_code 43 = .ok (.getfield 17, 3) := by decide +kernel
theorem zd_LassoFinderModel_declaration_46 : decode prog_14_method_14_code 46 = .ok (.iload_n 2, 1) := by decide +kernel
theorem zd_LassoFinderModel_declaration_47 : decode prog_14_method_14_code 47 = .ok (.iaload, 1) := by decide +kernel
theorem zd_LassoFinderModel_declaration_48 : decode prog_14_method_14_code 48 = .ok (.ifCond .ge 36, 3) := by decide +kernel
theorem zd_LassoFinderModel_declaration_51 : decode prog_14_method_14_code 51 = .ok (.aload_n 0, 1) := by decide +kernel
theorem zd_LassoFinderModel_declaration_52 : decode prog_14_method_14_code 52 = .ok (.getfield 20, 3) := by decide +kernel
theorem zd_LassoFinderModel_declaration_55 : decode prog_14_method_14_code 55 = .ok (.iload_n 2, 1) := by decide +kernel
theorem zd_LassoFinderModel_declaration_56 : decode prog_14_method_14_code 56 = .ok (.iaload, 1) := by decide +kernel
theorem zd_LassoFinderModel_declaration_57 : decode prog_14_method_14_code 57 = .ok (.ifCond .ge 27, 3) := by decide +kernel
theorem zd_LassoFinderModel_declaration_60 : decode prog_14_method_14_code 60 = .ok (.iload_n 1, 1) := by decide +kernel
theorem zd_LassoFinderModel_declaration_61 : decode prog_14_method_14_code 61 = .ok (.ifCond .eq 14, 3) := by decide +kernel
theorem zd_LassoFinderModel_declaration_64 : decode prog_14_method_14_code 64 = .ok (.aload_n 0, 1) := by decide +kernel
theorem zd_LassoFinderModel_declaration_65 : decode prog_14_method_14_code 65 = .ok (.getfield 238, 3) := by decide +kernel
theorem zd_LassoFinderModel_declaration_68 : decode prog_14_method_14_code 68 = .ok (.iconst 2, 1) := by decide +kernel
theorem zd_LassoFinderModel_declaration_69 : decode prog_14_method_14_code 69 = .ok (.if_icmp .ne 20, 3) := by decide +kernel
theorem zd_LassoFinderModel_declaration_72 : decode prog_14_method_14_code 72 = .ok (.goto 12, 3) := by decide +kernel
theorem zd_LassoFinderModel_declaration_75 : decode prog_14_method_14_code 75 = .ok (.aload_n 0, 1) := by decide +kernel
theorem zd_LassoFinderModel_declaration_76 : decode prog_14_method_14_code 76 = .ok (.getfield 241, 3) := by decide +kernel
theorem zd_LassoFinderModel_declaration_79 : decode prog_14_method_14_code 79 = .ok (.bipush 6, 2) := by decide +kernel
theorem zd_LassoFinderModel_declaration_81 : decode prog_14_method_14_code 81 = .ok (.if_icmp .ne 8, 3) := by decide +kernel
theorem zd_LassoFinderModel_declaration_84 : decode prog_14_method_14_code 84 = .ok (.aload_n 0, 1) := by decide +kernel
theorem zd_LassoFinderModel_declaration_85 : decode prog_14_method_14_code 85 = .ok (.invokevirtual 213, 3) := by decide +kernel
theorem zd_LassoFinderModel_declaration_88 : decode prog_14_method_14_code 88 = .ok (.ireturn, 1) := by decide +kernel
theorem zd_LassoFinderModel_declaration_89 : decode prog_14_method_14_code 89 = .ok (.aload_n 0, 1) := by decide +kernel
theorem zd_LassoFinderModel_declaration_90 : decode prog_14_method_14_code 90 = .ok (.dup, 1) := by decide +kernel
theorem zd_LassoFinderModel_declaration_91 : decode prog_14_method_14_code 91 = .ok (.getfield 203, 3) := by decide +kernel
theorem zd_LassoFinderModel_declaration_94 : decode prog_14_method_14_code 94 = .ok (.iconst 1, 1) := by decide +kernel
theorem zd_LassoFinderModel_declaration_95 : decode prog_14_method_14_code 95 = .ok (.iadd, 1) := by decide +kernel
theorem zd_LassoFinderModel_declaration_96 : decode prog_14_method_14_code 96 = .ok (.putfield 203, 3) := by decide +kernel
theorem zd_LassoFinderModel_declaration_99 : decode prog_14_method_14_code 99 = .ok (.iload_n 1, 1) := by decide +kernel
theorem zd_LassoFinderModel_declaration_100 : decode prog_14_method_14_code 100 = .ok (.ifCond .eq 67, 3) := by decide +kernel
theorem zd_LassoFinderModel_declaration_103 : decode prog_14_method_14_code 103 = .ok (.aload_n 0, 1) := by decide +kernel
theorem zd_LassoFinderModel_declaration_104 : decode prog_14_method_14_code 104 = .ok (.bipush 48, 2) := by decide +kernel
theorem zd_LassoFinderModel_declaration_106 : decode prog_14_method_14_code 106 = .ok (.iconst 4, 1) := by decide +kernel
theorem zd_LassoFinderModel_declaration_107 : decode prog_14_method_14_code 107 = .ok (.invokevirtual 231, 3) := by decide +kernel
theorem zd_LassoFinderModel_declaration_110 : decode prog_14_method_14_code 110 = .ok (.ifCond .ge 8, 3) := by decide +kernel
theorem zd_LassoFinderModel_declaration_113 : decode prog_14_method_14_code 113 = .ok (.aload_n 0, 1) := by decide +kernel
theorem zd_LassoFinderModel_declaration_114 : decode prog_14_method_14_code 114 = .ok (.invokevirtual 213, 3) := by decide +kernel
theorem zd_LassoFinderModel_declaration_117 : decode prog_14_method_14_code 117 = .ok (.ireturn, 1) := by decide +kernel
theorem zd_LassoFinderModel_declaration_118 : decode prog_14_method_14_code 118 = .ok (.aload_n 0, 1) := by decide +kernel
theorem zd_LassoFinderModel_declaration_119 : decode prog_14_method_14_code 119 = .ok (.getfield 20, 3) := by decide +kernel
theorem zd_LassoFinderModel_declaration_122 : decode prog_14_method_14_code 122 = .ok (.iload_n 2, 1) := by decide +kernel
theorem zd_LassoFinderModel_declaration_123 : decode prog_14_method_14_code 123 = .ok (.aload_n 0, 1) := by decide +kernel
theorem zd_LassoFinderModel_declaration_124 : decode prog_14_method_14_code 124 = .ok (.getfield 238, 3) := by decide +kernel
theorem zd_LassoFinderModel_declaration_127 : decode prog_14_method_14_code 127 = .ok (.iastore, 1) := by decide +kernel
theorem zd_LassoFinderModel_declaration_128 : decode prog_14_method_14_code 128 = .ok (.aload_n 0, 1) := by decide +kernel
theorem zd_LassoFinderModel_declaration_129 : decode prog_14_method_14_code 129 = .ok (.getfield 26, 3) := by decide +kernel
theorem zd_LassoFinderModel_declaration_132 : decode prog_14_method_14_code 132 = .ok (.aload_n 0, 1) := by decide +kernel
theorem zd_LassoFinderModel_declaration_133 : decode prog_14_method_14_code 133 = .ok (.getfield 238, 3) := by decide +kernel
theorem zd_LassoFinderModel_declaration_136 : decode prog_14_method_14_code 136 = .ok (.aload_n 0, 1) := by decide +kernel
theorem zd_LassoFinderModel_declaration_137 : decode prog_14_method_14_code 137 = .ok (.bipush 48, 2) := by decide +kernel
theorem zd_LassoFinderModel_declaration_139 : decode prog_14_method_14_code 139 = .ok (.iconst 4, 1) := by decide +kernel
theorem zd_LassoFinderModel_declaration_140 : decode prog_14_method_14_code 140 = .ok (.invokevirtual 231, 3) := by decide +kernel
theorem zd_LassoFinderModel_declaration_143 : decode prog_14_method_14_code 143 = .ok (.iastore, 1) := by decide +kernel
theorem zd_LassoFinderModel_declaration_144 : decode prog_14_method_14_code 144 = .ok (.aload_n 0, 1) := by decide +kernel
theorem zd_LassoFinderModel_declaration_145 : decode prog_14_method_14_code 145 = .ok (.dup, 1) := by decide +kernel
theorem zd_LassoFinderModel_declaration_146 : decode prog_14_method_14_code 146 = .ok (.getfield 238, 3) := by decide +kernel
theorem zd_LassoFinderModel_declaration_149 : decode prog_14_method_14_code 149 = .ok (.iconst 1, 1) := by decide +kernel
theorem zd_LassoFinderModel_declaration_150 : decode prog_14_method_14_code 150 = .ok (.iadd, 1) := by decide +kernel
theorem zd_LassoFinderModel_declaration_151 : decode prog_14_method_14_code 151 = .ok (.putfield 238, 3) := by decide +kernel
theorem zd_LassoFinderModel_declaration_154 : decode prog_14_method_14_code 154 = .ok (.aload_n 0, 1) := by decide +kernel
theorem zd_LassoFinderModel_declaration_155 : decode prog_14_method_14_code 155 = .ok (.dup, 1) := by decide +kernel
theorem zd_LassoFinderModel_declaration_156 : decode prog_14_method_14_code 156 = .ok (.getfield 203, 3) := by decide +kernel
theorem zd_LassoFinderModel_declaration_159 : decode prog_14_method_14_code 159 = .ok (.iconst 1, 1) := by decide +kernel
theorem zd_LassoFinderModel_declaration_160 : decode prog_14_method_14_code 160 = .ok (.iadd, 1) := by decide +kernel
theorem zd_LassoFinderModel_declaration_161 : decode prog_14_method_14_code 161 = .ok (.putfield 203, 3) := by decide +kernel
theorem zd_LassoFinderModel_declaration_164 : decode prog_14_method_14_code 164 = .ok (.goto 95, 3) := by decide +kernel
theorem zd_LassoFinderModel_declaration_167 : decode prog_14_method_14_code 167 = .ok (.aload_n 0, 1) := by decide +kernel
theorem zd_LassoFinderModel_declaration_168 : decode prog_14_method_14_code 168 = .ok (.getfield 17, 3) := by decide +kernel
theorem zd_LassoFinderModel_declaration_171 : decode prog_14_method_14_code 171 = .ok (.iload_n 2, 1) := by decide +kernel
theorem zd_LassoFinderModel_declaration_172 : decode prog_14_method_14_code 172 = .ok (.aload_n 0, 1) := by decide +kernel
theorem zd_LassoFinderModel_declaration_173 : decode prog_14_method_14_code 173 = .ok (.getfield 241, 3) := by decide +kernel
theorem zd_LassoFinderModel_declaration_176 : decode prog_14_method_14_code 176 = .ok (.iastore, 1) := by decide +kernel
theorem zd_LassoFinderModel_declaration_177 : decode prog_14_method_14_code 177 = .ok (.aload_n 0, 1) := by decide +kernel
theorem zd_LassoFinderModel_declaration_178 : decode prog_14_method_14_code 178 = .ok (.getfield 23, 3) := by decide +kernel
theorem zd_LassoFinderModel_declaration_181 : decode prog_14_method_14_code 181 = .ok (.aload_n 0, 1) := by decide +kernel
theorem zd_LassoFinderModel_declaration_182 : decode prog_14_method_14_code 182 = .ok (.getfield 241, 3) := by decide +kernel
theorem zd_LassoFinderModel_declaration_185 : decode prog_14_method_14_code 185 = .ok (.iconst 0, 1) := by decide +kernel
theorem zd_LassoFinderModel_declaration_186 : decode prog_14_method_14_code 186 = .ok (.iastore, 1) := by decide +kernel
theorem zd_LassoFinderModel_declaration_187 : decode prog_14_method_14_code 187 = .ok (.aload_n 0, 1) := by decide +kernel
theorem zd_LassoFinderModel_declaration_188 : decode prog_14_method_14_code 188 = .ok (.invokevirtual 209, 3) := by decide +kernel
theorem zd_LassoFinderModel_declaration_191 : decode prog_14_method_14_code 191 = .ok (.bipush 61, 2) := by decide +kernel
theorem zd_LassoFinderModel_declaration_193 : decode prog_14_method_14_code 193 = .ok (.if_icmp .ne 56, 3) := by decide +kernel
theorem zd_LassoFinderModel_declaration_196 : decode prog_14_method_14_code 196 = .ok (.aload_n 0, 1) := by decide +kernel
theorem zd_LassoFinderModel_declaration_197 : decode prog_14_method_14_code 197 = .ok (.dup, 1) := by decide +kernel
theorem zd_LassoFinderModel_declaration_198 : decode prog_14_method_14_code 198 = .ok (.getfield 203, 3) := by decide +kernel
theorem zd_LassoFinderModel_declaration_201 : decode prog_14_method_14_code 201 = .ok (.iconst 1, 1) := by decide +kernel
theorem zd_LassoFinderModel_declaration_202 : decode prog_14_method_14_code 202 = .ok (.iadd, 1) := by decide +kernel
theorem zd_LassoFinderModel_declaration_203 : decode prog_14_method_14_code 203 = .ok (.putfield 203, 3) := by decide +kernel
theorem zd_LassoFinderModel_declaration_206 : decode prog_14_method_14_code 206 = .ok (.aload_n 0, 1) := by decide +kernel
theorem zd_LassoFinderModel_declaration_207 : decode prog_14_method_14_code 207 = .ok (.bipush 48, 2) := by decide +kernel
theorem zd_LassoFinderModel_declaration_209 : decode prog_14_method_14_code 209 = .ok (.bipush 8, 2) := by decide +kernel
theorem zd_LassoFinderModel_declaration_211 : decode prog_14_method_14_code 211 = .ok (.invokevirtual 231, 3) := by decide +kernel
theorem zd_LassoFinderModel_declaration_214 : decode prog_14_method_14_code 214 = .ok (.ifCond .ge 8, 3) := by decide +kernel
theorem zd_LassoFinderModel_declaration_217 : decode prog_14_method_14_code 217 = .ok (.aload_n 0, 1) := by decide +kernel
theorem zd_LassoFinderModel_declaration_218 : decode prog_14_method_14_code 218 = .ok (.invokevirtual 213, 3) := by decide +kernel
theorem zd_LassoFinderModel_declaration_221 : decode prog_14_method_14_code 221 = .ok (.ireturn, 1) := by decide +kernel
theorem zd_LassoFinderModel_declaration_222 : decode prog_14_method_14_code 222 = .ok (.aload_n 0, 1) := by decide +kernel
theorem zd_LassoFinderModel_declaration_223 : decode prog_14_method_14_code 223 = .ok (.getfield 23, 3) := by decide +kernel
theorem zd_LassoFinderModel_declaration_226 : decode prog_14_method_14_code 226 = .ok (.aload_n 0, 1) := by decide +kernel
theorem zd_LassoFinderModel_declaration_227 : decode prog_14_method_14_code 227 = .ok (.getfield 241, 3) := by decide +kernel
theorem zd_LassoFinderModel_declaration_230 : decode prog_14_method_14_code 230 = .ok (.aload_n 0, 1) := by decide +kernel
theorem zd_LassoFinderModel_declaration_231 : decode prog_14_method_14_code 231 = .ok (.bipush 48, 2) := by decide +kernel
theorem zd_LassoFinderModel_declaration_233 : decode prog_14_method_14_code 233 = .ok (.bipush 8, 2) := by decide +kernel
theorem zd_LassoFinderModel_declaration_235 : decode prog_14_method_14_code 235 = .ok (.invokevirtual 231, 3) := by decide +kernel
theorem zd_LassoFinderModel_declaration_238 : decode prog_14_method_14_code 238 = .ok (.iastore, 1) := by decide +kernel
theorem zd_LassoFinderModel_declaration_239 : decode prog_14_method_14_code 239 = .ok (.aload_n 0, 1) := by decide +kernel
theorem zd_LassoFinderModel_declaration_240 : decode prog_14_method_14_code 240 = .ok (.dup, 1) := by decide +kernel
theorem zd_LassoFinderModel_declaration_241 : decode prog_14_method_14_code 241 = .ok (.getfield 203, 3) := by decide +kernel
theorem zd_LassoFinderModel_declaration_244 : decode prog_14_method_14_code 244 = .ok (.iconst 1, 1) := by decide +kernel
theorem zd_LassoFinderModel_declaration_245 : decode prog_14_method_14_code 245 = .ok (.iadd, 1) := by decide +kernel
theorem zd_LassoFinderModel_declaration_246 : decode prog_14_method_14_code 246 = .ok (.putfield 203, 3) := by decide +kernel
theorem zd_LassoFinderModel_declaration_249 : decode prog_14_method_14_code 249 = .ok (.aload_n 0, 1) := by decide +kernel
theorem zd_LassoFinderModel_declaration_250 : decode prog_14_method_14_code 250 = .ok (.dup, 1) := by decide +kernel
theorem zd_LassoFinderModel_declaration_251 : decode prog_14_method_14_code 251 = .ok (.getfield 241, 3) := by decide +kernel
theorem zd_LassoFinderModel_declaration_254 : decode prog_14_method_14_code 254 = .ok (.iconst 1, 1) := by decide +kernel
theorem zd_LassoFinderModel_declaration_255 : decode prog_14_method_14_code 255 = .ok (.iadd, 1) := by decide +kernel
theorem zd_LassoFinderModel_declaration_256 : decode prog_14_method_14_code 256 = .ok (.putfield 241, 3) := by decide +kernel
theorem zd_LassoFinderModel_declaration_259 : decode prog_14_method_14_code 259 = .ok (.aload_n 0, 1) := by decide +kernel
theorem zd_LassoFinderModel_declaration_260 : decode prog_14_method_14_code 260 = .ok (.bipush 59, 2) := by decide +kernel
theorem zd_LassoFinderModel_declaration_262 : decode prog_14_method_14_code 262 = .ok (.invokevirtual 244, 3) := by decide +kernel
theorem zd_LassoFinderModel_declaration_265 : decode prog_14_method_14_code 265 = .ok (.ireturn, 1) := by decide +kernel
theorem zd_LassoFinderModel_model_0 : decode prog_14_method_39_code 0 = .ok (.aload_n 0, 1) := by decide +kernel
theorem zd_LassoFinderModel_model_1 : decode prog_14_method_39_code 1 = .ok (.iconst 0, 1) := by decide +kernel
theorem zd_LassoFinderModel_model_2 : decode prog_14_method_39_code 2 = .ok (.putfield 358, 3) := by decide +kernel
theorem zd_LassoFinderModel_model_5 : decode prog_14_method_39_code 5 = .ok (.aload_n 0, 1) := by decide +kernel
theorem zd_LassoFinderModel_model_6 : decode prog_14_method_39_code 6 = .ok (.iconst (-1), 1) := by decide +kernel
theorem zd_LassoFinderModel_model_7 : decode prog_14_method_39_code 7 = .ok (.putfield 178, 3) := by decide +kernel
theorem zd_LassoFinderModel_model_10 : decode prog_14_method_39_code 10 = .ok (.aload_n 0, 1) := by decide +kernel
theorem zd_LassoFinderModel_model_11 : decode prog_14_method_39_code 11 = .ok (.iconst (-1), 1) := by decide +kernel
theorem zd_LassoFinderModel_model_12 : decode prog_14_method_39_code 12 = .ok (.putfield 187, 3) := by decide +kernel
theorem zd_LassoFinderModel_model_15 : decode prog_14_method_39_code 15 = .ok (.aload_n 0, 1) := by decide +kernel
theorem zd_LassoFinderModel_model_16 : decode prog_14_method_39_code 16 = .ok (.iconst 0, 1) := by decide +kernel
theorem zd_LassoFinderModel_model_17 : decode prog_14_method_39_code 17 = .ok (.putfield 361, 3) := by decide +kernel
theorem zd_LassoFinderModel_model_20 : decode prog_14_method_39_code 20 = .ok (.aload_n 0, 1) := by decide +kernel
theorem zd_LassoFinderModel_model_21 : decode prog_14_method_39_code 21 = .ok (.invokevirtual 364, 3) := by decide +kernel
theorem zd_LassoFinderModel_model_24 : decode prog_14_method_39_code 24 = .ok (.istore_n 1, 1) := by decide +kernel
theorem zd_LassoFinderModel_model_25 : decode prog_14_method_39_code 25 = .ok (.aload_n 0, 1) := by decide +kernel
theorem zd_LassoFinderModel_model_26 : decode prog_14_method_39_code 26 = .ok (.iload_n 1, 1) := by decide +kernel
theorem zd_LassoFinderModel_model_27 : decode prog_14_method_39_code 27 = .ok (.ifCond .eq 7, 3) := by decide +kernel
theorem zd_LassoFinderModel_model_30 : decode prog_14_method_39_code 30 = .ok (.iconst (-1), 1) := by decide +kernel
theorem zd_LassoFinderModel_model_31 : decode prog_14_method_39_code 31 = .ok (.goto 7, 3) := by decide +kernel
theorem zd_LassoFinderModel_model_34 : decode prog_14_method_39_code 34 = .ok (.aload_n 0, 1) := by decide +kernel
theorem zd_LassoFinderModel_model_35 : decode prog_14_method_39_code 35 = .ok (.getfield 206, 3) := by decide +kernel
theorem zd_LassoFinderModel_model_38 : decode prog_14_method_39_code 38 = .ok (.putfield 13, 3) := by decide +kernel
theorem zd_LassoFinderModel_model_41 : decode prog_14_method_39_code 41 = .ok (.aload_n 0, 1) := by decide +kernel
theorem zd_LassoFinderModel_model_42 : decode prog_14_method_39_code 42 = .ok (.iconst 0, 1) := by decide +kernel
theorem zd_LassoFinderModel_model_43 : decode prog_14_method_39_code 43 = .ok (.putfield 200, 3) := by decide +kernel
theorem zd_LassoFinderModel_model_46 : decode prog_14_method_39_code 46 = .ok (.aload_n 0, 1) := by decide +kernel
theorem zd_LassoFinderModel_model_47 : decode prog_14_method_39_code 47 = .ok (.iload_n 1, 1) := by decide +kernel
theorem zd_LassoFinderModel_model_48 : decode prog_14_method_39_code 48 = .ok (.ifCond .eq 7, 3) := by decide +kernel
theorem zd_LassoFinderModel_model_51 : decode prog_14_method_39_code 51 = .ok (.iconst 0, 1) := by decide +kernel
theorem zd_LassoFinderModel_model_52 : decode prog_14_method_39_code 52 = .ok (.goto 4, 3) := by decide +kernel
theorem zd_LassoFinderModel_model_55 : decode prog_14_method_39_code 55 = .ok (.iconst 1, 1) := by decide +kernel
theorem zd_LassoFinderModel_model_56 : decode prog_14_method_39_code 56 = .ok (.putfield 193, 3) := by decide +kernel
theorem zd_LassoFinderModel_model_59 : decode prog_14_method_39_code 59 = .ok (.iload_n 1, 1) := by decide +kernel
theorem zd_LassoFinderModel_model_60 : decode prog_14_method_39_code 60 = .ok (.ifCond .ne 5, 3) := by decide +kernel
theorem zd_LassoFinderModel_model_63 : decode prog_14_method_39_code 63 = .ok (.iconst 0, 1) := by decide +kernel
theorem zd_LassoFinderModel_model_64 : decode prog_14_method_39_code 64 = .ok (.ireturn, 1) := by decide +kernel
theorem zd_LassoFinderModel_model_65 : decode prog_14_method_39_code 65 = .ok (.aload_n 0, 1) := by decide +kernel
theorem zd_LassoFinderModel_model_66 : decode prog_14_method_39_code 66 = .ok (.aload_n 0, 1) := by decide +kernel
theorem zd_LassoFinderModel_model_67 : decode prog_14_method_39_code 67 = .ok (.getfield 217, 3) := by decide +kernel
theorem zd_LassoFinderModel_model_70 : decode prog_14_method_39_code 70 = .ok (.putfield 367, 3) := by decide +kernel
theorem zd_LassoFinderModel_model_73 : decode prog_14_method_39_code 73 = .ok (.aload_n 0, 1) := by decide +kernel
theorem zd_LassoFinderModel_model_74 : decode prog_14_method_39_code 74 = .ok (.invokevirtual 370, 3) := by decide +kernel
theorem zd_LassoFinderModel_model_77 : decode prog_14_method_39_code 77 = .ok (.aload_n 0, 1) := by decide +kernel
theorem zd_LassoFinderModel_model_78 : decode prog_14_method_39_code 78 = .ok (.aload_n 0, 1) := by decide +kernel
theorem zd_LassoFinderModel_model_79 : decode prog_14_method_39_code 79 = .ok (.invokevirtual 373, 3) := by decide +kernel
theorem zd_LassoFinderModel_model_82 : decode prog_14_method_39_code 82 = .ok (.putfield 361, 3) := by decide +kernel
theorem zd_LassoFinderModel_model_85 : decode prog_14_method_39_code 85 = .ok (.aload_n 0, 1) := by decide +kernel
theorem zd_LassoFinderModel_model_86 : decode prog_14_method_39_code 86 = .ok (.aload_n 0, 1) := by decide +kernel
theorem zd_LassoFinderModel_model_87 : decode prog_14_method_39_code 87 = .ok (.getfield 361, 3) := by decide +kernel
theorem zd_LassoFinderModel_model_90 : decode prog_14_method_39_code 90 = .ok (.ifCond .eq 7, 3) := by decide +kernel
theorem zd_LassoFinderModel_model_93 : decode prog_14_method_39_code 93 = .ok (.iconst 0, 1) := by decide +kernel
theorem zd_LassoFinderModel_model_94 : decode prog_14_method_39_code 94 = .ok (.goto 4, 3) := by decide +kernel
theorem zd_LassoFinderModel_model_97 : decode prog_14_method_39_code 97 = .ok (.iconst 2, 1) := by decide +kernel
theorem zd_LassoFinderModel_model_98 : decode prog_14_method_39_code 98 = .ok (.putfield 193, 3) := by decide +kernel
theorem zd_LassoFinderModel_model_101 : decode prog_14_method_39_code 101 = .ok (.aload_n 0, 1) := by decide +kernel
theorem zd_LassoFinderModel_model_102 : decode prog_14_method_39_code 102 = .ok (.getfield 361, 3) := by decide +kernel
theorem zd_LassoFinderModel_model_105 : decode prog_14_method_39_code 105 = .ok (.ifCond .eq 10, 3) := by decide +kernel
theorem zd_LassoFinderModel_model_108 : decode prog_14_method_39_code 108 = .ok (.aload_n 0, 1) := by decide +kernel
theorem zd_LassoFinderModel_model_109 : decode prog_14_method_39_code 109 = .ok (.getfield 345, 3) := by decide +kernel
theorem zd_LassoFinderModel_model_112 : decode prog_14_method_39_code 112 = .ok (.goto 4, 3) := by decide +kernel
theorem zd_LassoFinderModel_model_115 : decode prog_14_method_39_code 115 = .ok (.iconst 0, 1) := by decide +kernel
theorem zd_LassoFinderModel_model_116 : decode prog_14_method_39_code 116 = .ok (.ireturn, 1) := by decide +kernel
theorem zd_LassoFinderModel_wholeModel_0 : decode prog_14_method_25_code 0 = .ok (.aload_n 0, 1) := by decide +kernel
theorem zd_LassoFinderModel_wholeModel_1 : decode prog_14_method_25_code 1 = .ok (.iconst 0, 1) := by decide +kernel
theorem zd_LassoFinderModel_wholeModel_2 : decode prog_14_method_25_code 2 = .ok (.putfield 203, 3) := by decide +kernel
theorem zd_LassoFinderModel_wholeModel_5 : decode prog_14_method_25_code 5 = .ok (.aload_n 0, 1) := by decide +kernel
theorem zd_LassoFinderModel_wholeModel_6 : decode prog_14_method_25_code 6 = .ok (.iconst (-1), 1) := by decide +kernel
theorem zd_LassoFinderModel_wholeModel_7 : decode prog_14_method_25_code 7 = .ok (.putfield 206, 3) := by decide +kernel
theorem zd_LassoFinderModel_wholeModel_10 : decode prog_14_method_25_code 10 = .ok (.aload_n 0, 1) := by decide +kernel
theorem zd_LassoFinderModel_wholeModel_11 : decode prog_14_method_25_code 11 = .ok (.iconst 0, 1) := by decide +kernel
theorem zd_LassoFinderModel_wholeModel_12 : decode prog_14_method_25_code 12 = .ok (.putfield 241, 3) := by decide +kernel
theorem zd_LassoFinderModel_wholeModel_15 : decode prog_14_method_25_code 15 = .ok (.aload_n 0, 1) := by decide +kernel
theorem zd_LassoFinderModel_wholeModel_16 : decode prog_14_method_25_code 16 = .ok (.iconst 0, 1) := by decide +kernel
theorem zd_LassoFinderModel_wholeModel_17 : decode prog_14_method_25_code 17 = .ok (.putfield 238, 3) := by decide +kernel
theorem zd_LassoFinderModel_wholeModel_20 : decode prog_14_method_25_code 20 = .ok (.aload_n 0, 1) := by decide +kernel
theorem zd_LassoFinderModel_wholeModel_21 : decode prog_14_method_25_code 21 = .ok (.iconst 0, 1) := by decide +kernel
theorem zd_LassoFinderModel_wholeModel_22 : decode prog_14_method_25_code 22 = .ok (.putfield 251, 3) := by decide +kernel
theorem zd_LassoFinderModel_wholeModel_25 : decode prog_14_method_25_code 25 = .ok (.aload_n 0, 1) := by decide +kernel
theorem zd_LassoFinderModel_wholeModel_26 : decode prog_14_method_25_code 26 = .ok (.iconst 0, 1) := by decide +kernel
theorem zd_LassoFinderModel_wholeModel_27 : decode prog_14_method_25_code 27 = .ok (.putfield 257, 3) := by decide +kernel
theorem zd_LassoFinderModel_wholeModel_30 : decode prog_14_method_25_code 30 = .ok (.aload_n 0, 1) := by decide +kernel
theorem zd_LassoFinderModel_wholeModel_31 : decode prog_14_method_25_code 31 = .ok (.iconst 0, 1) := by decide +kernel
theorem zd_LassoFinderModel_wholeModel_32 : decode prog_14_method_25_code 32 = .ok (.putfield 254, 3) := by decide +kernel
theorem zd_LassoFinderModel_wholeModel_35 : decode prog_14_method_25_code 35 = .ok (.aload_n 0, 1) := by decide +kernel
theorem zd_LassoFinderModel_wholeModel_36 : decode prog_14_method_25_code 36 = .ok (.iconst 0, 1) := by decide +kernel
theorem zd_LassoFinderModel_wholeModel_37 : decode prog_14_method_25_code 37 = .ok (.putfield 217, 3) := by decide +kernel
theorem zd_LassoFinderModel_wholeModel_40 : decode prog_14_method_25_code 40 = .ok (.iconst 0, 1) := by decide +kernel
theorem zd_LassoFinderModel_wholeModel_41 : decode prog_14_method_25_code 41 = .ok (.istore_n 1, 1) := by decide +kernel
theorem zd_LassoFinderModel_wholeModel_42 : decode prog_14_method_25_code 42 = .ok (.iload_n 1, 1) := by decide +kernel
theorem zd_LassoFinderModel_wholeModel_43 : decode prog_14_method_25_code 43 = .ok (.bipush 8, 2) := by decide +kernel
theorem zd_LassoFinderModel_wholeModel_45 : decode prog_14_method_25_code 45 = .ok (.if_icmp .ge 23, 3) := by decide +kernel
theorem zd_LassoFinderModel_wholeModel_48 : decode prog_14_method_25_code 48 = .ok (.aload_n 0, 1) := by decide +kernel
theorem zd_LassoFinderModel_wholeModel_49 : decode prog_14_method_25_code 49 = .ok (.getfield 17, 3) := by decide +kernel
theorem zd_LassoFinderModel_wholeModel_52 : decode prog_14_method_25_code 52 = .ok (.iload_n 1, 1) := by decide +kernel
theorem zd_LassoFinderModel_wholeModel_53 : decode prog_14_method_25_code 53 = .ok (.iconst (-1), 1) := by decide +kernel
theorem zd_LassoFinderModel_wholeModel_54 : decode prog_14_method_25_code 54 = .ok (.iastore, 1) := by decide +kernel
theorem zd_LassoFinderModel_wholeModel_55 : decode prog_14_method_25_code 55 = .ok (.aload_n 0, 1) := by decide +kernel
theorem zd_LassoFinderModel_wholeModel_56 : decode prog_14_method_25_code 56 = .ok (.getfield 20, 3) := by decide +kernel
theorem zd_LassoFinderModel_wholeModel_59 : decode prog_14_method_25_code 59 = .ok (.iload_n 1, 1) := by decide +kernel
theorem zd_LassoFinderModel_wholeModel_60 : decode prog_14_method_25_code 60 = .ok (.iconst (-1), 1) := by decide +kernel
theorem zd_LassoFinderModel_wholeModel_61 : decode prog_14_method_25_code 61 = .ok (.iastore, 1) := by decide +kernel
theorem zd_LassoFinderModel_wholeModel_62 : decode prog_14_method_25_code 62 = .ok (.iinc 1 1, 3) := by decide +kernel
theorem zd_LassoFinderModel_wholeModel_65 : decode prog_14_method_25_code 65 = .ok (.goto (-23), 3) := by decide +kernel
theorem zd_LassoFinderModel_wholeModel_68 : decode prog_14_method_25_code 68 = .ok (.iconst 0, 1) := by decide +kernel
theorem zd_LassoFinderModel_wholeModel_69 : decode prog_14_method_25_code 69 = .ok (.istore_n 1, 1) := by decide +kernel
theorem zd_LassoFinderModel_wholeModel_70 : decode prog_14_method_25_code 70 = .ok (.iload_n 1, 1) := by decide +kernel
theorem zd_LassoFinderModel_wholeModel_71 : decode prog_14_method_25_code 71 = .ok (.bipush 32, 2) := by decide +kernel
theorem zd_LassoFinderModel_wholeModel_73 : decode prog_14_method_25_code 73 = .ok (.if_icmp .ge 16, 3) := by decide +kernel
theorem zd_LassoFinderModel_wholeModel_76 : decode prog_14_method_25_code 76 = .ok (.aload_n 0, 1) := by decide +kernel
theorem zd_LassoFinderModel_wholeModel_77 : decode prog_14_method_25_code 77 = .ok (.getfield 81, 3) := by decide +kernel
theorem zd_LassoFinderModel_wholeModel_80 : decode prog_14_method_25_code 80 = .ok (.iload_n 1, 1) := by decide +kernel
theorem zd_LassoFinderModel_wholeModel_81 : decode prog_14_method_25_code 81 = .ok (.iconst (-1), 1) := by decide +kernel
theorem zd_LassoFinderModel_wholeModel_82 : decode prog_14_method_25_code 82 = .ok (.iastore, 1) := by decide +kernel
theorem zd_LassoFinderModel_wholeModel_83 : decode prog_14_method_25_code 83 = .ok (.iinc 1 1, 3) := by decide +kernel
theorem zd_LassoFinderModel_wholeModel_86 : decode prog_14_method_25_code 86 = .ok (.goto (-16), 3) := by decide +kernel
theorem zd_LassoFinderModel_wholeModel_89 : decode prog_14_method_25_code 89 = .ok (.aload_n 0, 1) := by decide +kernel
theorem zd_LassoFinderModel_wholeModel_90 : decode prog_14_method_25_code 90 = .ok (.invokevirtual 209, 3) := by decide +kernel
theorem zd_LassoFinderModel_wholeModel_93 : decode prog_14_method_25_code 93 = .ok (.bipush 123, 2) := by decide +kernel
theorem zd_LassoFinderModel_wholeModel_95 : decode prog_14_method_25_code 95 = .ok (.if_icmp .eq 12, 3) := by decide +kernel
theorem zd_LassoFinderModel_wholeModel_98 : decode prog_14_method_25_code 98 = .ok (.aload_n 0, 1) := by decide +kernel
theorem zd_LassoFinderModel_wholeModel_99 : decode prog_14_method_25_code 99 = .ok (.invokevirtual 292, 3) := by decide +kernel
theorem zd_LassoFinderModel_wholeModel_102 : decode prog_14_method_25_code 102 = .ok (.ifCond .ne (-13), 3) := by decide +kernel
theorem zd_LassoFinderModel_wholeModel_105 : decode prog_14_method_25_code 105 = .ok (.iconst 0, 1) := by decide +kernel
theorem zd_LassoFinderModel_wholeModel_106 : decode prog_14_method_25_code 106 = .ok (.ireturn, 1) := by decide +kernel
theorem zd_LassoFinderModel_wholeModel_107 : decode prog_14_method_25_code 107 = .ok (.aload_n 0, 1) := by decide +kernel
theorem zd_LassoFinderModel_wholeModel_108 : decode prog_14_method_25_code 108 = .ok (.invokevirtual 209, 3) := by decide +kernel
theorem zd_LassoFinderModel_wholeModel_111 : decode prog_14_method_25_code 111 = .ok (.bipush 123, 2) := by decide +kernel
theorem zd_LassoFinderModel_wholeModel_113 : decode prog_14_method_25_code 113 = .ok (.if_icmp .ne 48, 3) := by decide +kernel
theorem zd_LassoFinderModel_wholeModel_116 : decode prog_14_method_25_code 116 = .ok (.aload_n 0, 1) := by decide +kernel
theorem zd_LassoFinderModel_wholeModel_117 : decode prog_14_method_25_code 117 = .ok (.getfield 254, 3) := by decide +kernel
theorem zd_LassoFinderModel_wholeModel_120 : decode prog_14_method_25_code 120 = .ok (.iconst 4, 1) := by decide +kernel
theorem zd_LassoFinderModel_wholeModel_121 : decode prog_14_method_25_code 121 = .ok (.if_icmp .ne 8, 3) := by decide +kernel
theorem zd_LassoFinderModel_wholeModel_124 : decode prog_14_method_25_code 124 = .ok (.aload_n 0, 1) := by decide +kernel
theorem zd_LassoFinderModel_wholeModel_125 : decode prog_14_method_25_code 125 = .ok (.invokevirtual 213, 3) := by decide +kernel
theorem zd_LassoFinderModel_wholeModel_128 : decode prog_14_method_25_code 128 = .ok (.ireturn, 1) := by decide +kernel
theorem zd_LassoFinderModel_wholeModel_129 : decode prog_14_method_25_code 129 = .ok (.aload_n 0, 1) := by decide +kernel
theorem zd_LassoFinderModel_wholeModel_130 : decode prog_14_method_25_code 130 = .ok (.dup, 1) := by decide +kernel
theorem zd_LassoFinderModel_wholeModel_131 : decode prog_14_method_25_code 131 = .ok (.getfield 203, 3) := by decide +kernel
theorem zd_LassoFinderModel_wholeModel_134 : decode prog_14_method_25_code 134 = .ok (.iconst 1, 1) := by decide +kernel
theorem zd_LassoFinderModel_wholeModel_135 : decode prog_14_method_25_code 135 = .ok (.iadd, 1) := by decide +kernel
theorem zd_LassoFinderModel_wholeModel_136 : decode prog_14_method_25_code 136 = .ok (.putfield 203, 3) := by decide +kernel
theorem zd_LassoFinderModel_wholeModel_139 : decode prog_14_method_25_code 139 = .ok (.aload_n 0, 1) := by decide +kernel
theorem zd_LassoFinderModel_wholeModel_140 : decode prog_14_method_25_code 140 = .ok (.invokevirtual 295, 3) := by decide +kernel
theorem zd_LassoFinderModel_wholeModel_143 : decode prog_14_method_25_code 143 = .ok (.ifCond .ne 5, 3) := by decide +kernel
theorem zd_LassoFinderModel_wholeModel_146 : decode prog_14_method_25_code 146 = .ok (.iconst 0, 1) := by decide +kernel
theorem zd_LassoFinderModel_wholeModel_147 : decode prog_14_method_25_code 147 = .ok (.ireturn, 1) := by decide +kernel
theorem zd_LassoFinderModel_wholeModel_148 : decode prog_14_method_25_code 148 = .ok (.aload_n 0, 1) := by decide +kernel
theorem zd_LassoFinderModel_wholeModel_149 : decode prog_14_method_25_code 149 = .ok (.dup, 1) := by decide +kernel
theorem zd_LassoFinderModel_wholeModel_150 : decode prog_14_method_25_code 150 = .ok (.getfield 254, 3) := by decide +kernel
theorem zd_LassoFinderModel_wholeModel_153 : decode prog_14_method_25_code 153 = .ok (.iconst 1, 1) := by decide +kernel
theorem zd_LassoFinderModel_wholeModel_154 : decode prog_14_method_25_code 154 = .ok (.iadd, 1) := by decide +kernel
theorem zd_LassoFinderModel_wholeModel_155 : decode prog_14_method_25_code 155 = .ok (.putfield 254, 3) := by decide +kernel
theorem zd_LassoFinderModel_wholeModel_158 : decode prog_14_method_25_code 158 = .ok (.goto (-51), 3) := by decide +kernel
theorem zd_LassoFinderModel_wholeModel_161 : decode prog_14_method_25_code 161 = .ok (.aload_n 0, 1) := by decide +kernel
theorem zd_LassoFinderModel_wholeModel_162 : decode prog_14_method_25_code 162 = .ok (.getfield 203, 3) := by decide +kernel
theorem zd_LassoFinderModel_wholeModel_165 : decode prog_14_method_25_code 165 = .ok (.aload_n 0, 1) := by decide +kernel
theorem zd_LassoFinderModel_wholeModel_166 : decode prog_14_method_25_code 166 = .ok (.getfield 200, 3) := by decide +kernel
theorem zd_LassoFinderModel_wholeModel_169 : decode prog_14_method_25_code 169 = .ok (.if_icmp .eq 10, 3) := by decide +kernel
theorem zd_LassoFinderModel_wholeModel_172 : decode prog_14_method_25_code 172 = .ok (.aload_n 0, 1) := by decide +kernel
theorem zd_LassoFinderModel_wholeModel_173 : decode prog_14_method_25_code 173 = .ok (.invokevirtual 213, 3) := by decide +kernel
theorem zd_LassoFinderModel_wholeModel_176 : decode prog_14_method_25_code 176 = .ok (.ifCond .eq 7, 3) := by decide +kernel
theorem zd_LassoFinderModel_wholeModel_179 : decode prog_14_method_25_code 179 = .ok (.iconst 1, 1) := by decide +kernel
theorem zd_LassoFinderModel_wholeModel_180 : decode prog_14_method_25_code 180 = .ok (.goto 4, 3) := by decide +kernel
theorem zd_LassoFinderModel_wholeModel_183 : decode prog_14_method_25_code 183 = .ok (.iconst 0, 1) := by decide +kernel
theorem zd_LassoFinderModel_wholeModel_184 : decode prog_14_method_25_code 184 = .ok (.ireturn, 1) := by decide +kernel
def wc_LassoFinderModel_declaration_84 (Post : Int32 → (Nat → Int32) → (Nat → Int64) → (Nat → Nat → Int32) → (Nat → Nat → Int64) → Prop)  (I : Nat → Int32) (J : Nat → Int64) (B : Nat → Nat → Int32) (D : Nat → Nat → Int64) : Prop :=
  wp_LassoFinderModel_fail I J B D  (fun r1 I1 J1 B1 D1 => (r1 = 0 ∨ r1 = 1) ∧ Post r1 I1 J1 B1 D1)
def wc_LassoFinderModel_declaration_259 (Post : Int32 → (Nat → Int32) → (Nat → Int64) → (Nat → Nat → Int32) → (Nat → Nat → Int64) → Prop)  (I : Nat → Int32) (J : Nat → Int64) (B : Nat → Nat → Int32) (D : Nat → Nat → Int64) : Prop :=
  wp_LassoFinderModel_takes I J B D 59 (fun r2 I2 J2 B2 D2 => (r2 = 0 ∨ r2 = 1) ∧ Post r2 I2 J2 B2 D2)
def wc_LassoFinderModel_declaration_249 (Post : Int32 → (Nat → Int32) → (Nat → Int64) → (Nat → Nat → Int32) → (Nat → Nat → Int64) → Prop)  (I : Nat → Int32) (J : Nat → Int64) (B : Nat → Nat → Int32) (D : Nat → Nat → Int64) : Prop :=
  ∀ z3 : Int32, z3 = ((I 6) + 1) → wc_LassoFinderModel_declaration_259  Post (upd I 6 z3) J B D
def wc_LassoFinderModel_declaration_89 (Post : Int32 → (Nat → Int32) → (Nat → Int64) → (Nat → Nat → Int32) → (Nat → Nat → Int64) → Prop) (x1 : Int32) (x2 : Int32) (I : Nat → Int32) (J : Nat → Int64) (B : Nat → Nat → Int32) (D : Nat → Nat → Int64) : Prop :=
  ∀ z4 : Int32, z4 = ((I 2) + 1) → ((x1 = 0 → vp_in x2 8 ∧ vp_in (I 6) 6 ∧ wp_LassoFinderModel_here (upd I 2 z4) J (va_up (va_up B 1 (upd (B 1) x2.toNatClampNeg (I 6))) 3 (upd (B 3) (I 6).toNatClampNeg 0)) D  (fun r6 I6 J6 B6 D6 => ((¬ r6 = 61 → wc_LassoFinderModel_declaration_249  Post I6 J6 B6 D6) ∧ (r6 = 61 → ∀ z8 : Int32, z8 = ((I6 2) + 1) → wp_LassoFinderModel_from (upd I6 2 z8) J6 B6 D6 48 8 (fun r9 I9 J9 B9 D9 => (((0 : Int32) ≤ r9 → wp_LassoFinderModel_from I9 J9 B9 D9 48 8 (fun r11 I11 J11 B11 D11 => vp_in (I9 6) 6 ∧ ∀ z12 : Int32, z12 = ((I11 2) + 1) → wc_LassoFinderModel_declaration_249  Post (upd I11 2 z12) J11 (va_up B11 3 (upd (B11 3) (I9 6).toNatClampNeg r11)) D11)) ∧ (¬ (0 : Int32) ≤ r9 → wp_LassoFinderModel_fail I9 J9 B9 D9  (fun r13 I13 J13 B13 D13 => (r13 = 0 ∨ r13 = 1) ∧ Post r13 I13 J13 B13 D13)))))))) ∧ (¬ x1 = 0 → wp_LassoFinderModel_from (upd I 2 z4) J B D 48 4 (fun r14 I14 J14 B14 D14 => (((0 : Int32) ≤ r14 → vp_in x2 8 ∧ wp_LassoFinderModel_from I14 J14 (va_up B14 2 (upd (B14 2) x2.toNatClampNeg (I14 7))) D14 48 4 (fun r16 I16 J16 B16 D16 => vp_in (I14 7) 2 ∧ ∀ z17 : Int32, z17 = ((I16 7) + 1) → ∀ z18 : Int32, z18 = ((I16 2) + 1) → wc_LassoFinderModel_declaration_259  Post (upd (upd I16 7 z17) 2 z18) J16 (va_up B16 4 (upd (B16 4) (I14 7).toNatClampNeg r16)) D16)) ∧ (¬ (0 : Int32) ≤ r14 → wp_LassoFinderModel_fail I14 J14 B14 D14  (fun r19 I19 J19 B19 D19 => (r19 = 0 ∨ r19 = 1) ∧ Post r19 I19 J19 B19 D19))))))
def wc_LassoFinderModel_declaration_29 (Post : Int32 → (Nat → Int32) → (Nat → Int64) → (Nat → Nat → Int32) → (Nat → Nat → Int64) → Prop) (x1 : Int32) (I : Nat → Int32) (J : Nat → Int64) (B : Nat → Nat → Int32) (D : Nat → Nat → Int64) : Prop :=
  wp_LassoFinderModel_from I J B D 97 8 (fun r20 I20 J20 B20 D20 => ((r20 < 0 → wc_LassoFinderModel_declaration_84  Post I20 J20 B20 D20) ∧ (¬ r20 < 0 → vp_in r20 8 ∧ ∀ z22 : Int32, z22 = ((B20 1) r20.toNatClampNeg) → (((0 : Int32) ≤ z22 → wc_LassoFinderModel_declaration_84  Post I20 J20 B20 D20) ∧ (¬ (0 : Int32) ≤ z22 → vp_in r20 8 ∧ ∀ z24 : Int32, z24 = ((B20 2) r20.toNatClampNeg) → (((0 : Int32) ≤ z24 → wc_LassoFinderModel_declaration_84  Post I20 J20 B20 D20) ∧ (¬ (0 : Int32) ≤ z24 → ((x1 = 0 → ((¬ (I20 6) = 6 → wc_LassoFinderModel_declaration_89  Post x1 r20 I20 J20 B20 D20) ∧ ((I20 6) = 6 → wc_LassoFinderModel_declaration_84  Post I20 J20 B20 D20))) ∧ (¬ x1 = 0 → ((¬ (I20 7) = 2 → wc_LassoFinderModel_declaration_89  Post x1 r20 I20 J20 B20 D20) ∧ ((I20 7) = 2 → wc_LassoFinderModel_declaration_84  Post I20 J20 B20 D20)))))))))))
def wc_LassoFinderModel_declaration_14 (Post : Int32 → (Nat → Int32) → (Nat → Int64) → (Nat → Nat → Int32) → (Nat → Nat → Int64) → Prop) (y0 : Int32) (I : Nat → Int32) (J : Nat → Int64) (B : Nat → Nat → Int32) (D : Nat → Nat → Int64) : Prop :=
  ((y0 = 0 → wc_LassoFinderModel_declaration_29  Post y0 I J B D) ∧ (¬ y0 = 0 → ∀ z30 : Int32, z30 = ((I 2) + 1) → wc_LassoFinderModel_declaration_29  Post y0 (upd I 2 z30) J B D))
def wp_LassoFinderModel_declaration (I : Nat → Int32) (J : Nat → Int64) (B : Nat → Nat → Int32) (D : Nat → Nat → Int64) (Post : Int32 → (Nat → Int32) → (Nat → Int64) → (Nat → Nat → Int32) → (Nat → Nat → Int64) → Prop) : Prop :=
  wp_LassoFinderModel_here I J B D  (fun r31 I31 J31 B31 D31 => ((¬ r31 = 35 → wc_LassoFinderModel_declaration_14  Post 0 I31 J31 B31 D31) ∧ (r31 = 35 → wc_LassoFinderModel_declaration_14  Post 1 I31 J31 B31 D31)))
set_option maxHeartbeats 8000000 in
set_option maxRecDepth 100000 in
theorem wJ_LassoFinderModel_declaration_84 {p : Program} {l : Launch} {e : Env} {s : State} {m : MethodId} {below : List Frame} {meth : Method} {c : Code} {A : Nat → Prop} (G : va_G) (K : Nat → ClassId) (ad : Nat → Nat) (Post : Int32 → (Nat → Int32) → (Nat → Int64) → (Nat → Nat → Int32) → (Nat → Nat → Int64) → Prop) (C : zCx p s m ([.ref (ad 0)] : List Value).toArray meth c A G K prog_14_method_14_code (some .boolean) 3 "LassoFinderModel") : ∀  (I : Nat → Int32) (J : Nat → Int64) (B : Nat → Nat → Int32) (D : Nat → Nat → Int64) (ls : Array Slot) (H : Heap) (locs : List Loc), wc_LassoFinderModel_declaration_84  Post  I J B D → lv_has ls 3 [(0, .ref (ad 0))] → zW G A s.heap (wM ad K I J B D) H locs → W p l e { frames := 2, cells := 0, slots := 0, locals := 44 } s m ([.ref (ad 0)] : List Value).toArray below meth c H locs 0 0 (MQ below (va_Qi (fun (r : Int32) (u : zS) => Post r u.1 u.2.1 u.2.2.1 u.2.2.2) (fun u t => zPost G K A (wM ad K u.1 u.2.1 u.2.2.1 u.2.2.2) t) A) ([.ref (ad 0)] : List Value).toArray s 0 0 A) (F0 m 84 ls []) := by
  obtain ⟨hx, hb, hr, hml, hts, hown, hlocks, hA, hK⟩ := id C
  intro  I J B D ls H locs hok hl hw
  unfold wc_LassoFinderModel_declaration_84 at hok
  refine lv_aload_n hx hb zd_LassoFinderModel_declaration_84 rfl (lv_at hl 0 rfl) ?_
  refine z_calli (w1 := fun (u : zS) => wM ad K u.1 u.2.1 u.2.2.1 u.2.2.2) (wr := []) (z_runV (q0 := 0) (wc := (wM ad K I J B D)) (As := []) (rest := []) ⟨hx, hb, hml, hown, hts⟩ (w_LassoFinderModel_fail l G K ad I J B D  _ H.size hok) zf_LassoFinderModel_fail zm_334 ⟨Nat.le_of_ble_eq_true rfl, Nat.le_of_ble_eq_true rfl⟩ hK hw (List.range 58) wM_all wM_nd wM_g0 rfl rfl hl.1 rfl (Nat.le_of_ble_eq_true rfl) zd_LassoFinderModel_declaration_85 ⟨Nat.le_of_ble_eq_true rfl, Nat.le_of_ble_eq_true rfl⟩) hw hA (List.range 58) [] wM_all rfl (by decide) (fun i hi => by cases hi) (fun r1 u H locs hok hw => ?_)
  obtain ⟨I1, J1, B1, D1⟩ := u
  dsimp only at hok
  have hw : zW G A s.heap (wM ad K I1 J1 B1 D1) H locs := hw
  have hbo := hok.1
  have hok := hok.2
  exact (z_iret (u := (I1, J1, B1, D1)) hx hb hr hlocks (z_nar hbo) hw (List.range 58) wM_all wM_nd hok (Nat.le_of_ble_eq_true rfl) (Nat.le_of_ble_eq_true rfl) zd_LassoFinderModel_declaration_88)
set_option maxHeartbeats 8000000 in
set_option maxRecDepth 100000 in
theorem wJ_LassoFinderModel_declaration_259 {p : Program} {l : Launch} {e : Env} {s : State} {m : MethodId} {below : List Frame} {meth : Method} {c : Code} {A : Nat → Prop} (G : va_G) (K : Nat → ClassId) (ad : Nat → Nat) (Post : Int32 → (Nat → Int32) → (Nat → Int64) → (Nat → Nat → Int32) → (Nat → Nat → Int64) → Prop) (C : zCx p s m ([.ref (ad 0)] : List Value).toArray meth c A G K prog_14_method_14_code (some .boolean) 3 "LassoFinderModel") : ∀  (I : Nat → Int32) (J : Nat → Int64) (B : Nat → Nat → Int32) (D : Nat → Nat → Int64) (ls : Array Slot) (H : Heap) (locs : List Loc), wc_LassoFinderModel_declaration_259  Post  I J B D → lv_has ls 3 [(0, .ref (ad 0))] → zW G A s.heap (wM ad K I J B D) H locs → W p l e { frames := 2, cells := 0, slots := 0, locals := 44 } s m ([.ref (ad 0)] : List Value).toArray below meth c H locs 0 0 (MQ below (va_Qi (fun (r : Int32) (u : zS) => Post r u.1 u.2.1 u.2.2.1 u.2.2.2) (fun u t => zPost G K A (wM ad K u.1 u.2.1 u.2.2.1 u.2.2.2) t) A) ([.ref (ad 0)] : List Value).toArray s 0 0 A) (F0 m 259 ls []) := by
  obtain ⟨hx, hb, hr, hml, hts, hown, hlocks, hA, hK⟩ := id C
  intro  I J B D ls H locs hok hl hw
  unfold wc_LassoFinderModel_declaration_259 at hok
  refine lv_aload_n hx hb zd_LassoFinderModel_declaration_259 rfl (lv_at hl 0 rfl) ?_
  refine lv_bipush (v := 59) hx hb zd_LassoFinderModel_declaration_260 (by decide) ?_
  refine z_calli (w1 := fun (u : zS) => wM ad K u.1 u.2.1 u.2.2.1 u.2.2.2) (wr := []) (z_runV (q0 := 0) (wc := (wM ad K I J B D)) (As := [.int 59]) (rest := []) ⟨hx, hb, hml, hown, hts⟩ (w_LassoFinderModel_takes l G K ad I J B D 59 _ H.size hok) zf_LassoFinderModel_takes zm_347 ⟨Nat.le_of_ble_eq_true rfl, Nat.le_of_ble_eq_true rfl⟩ hK hw (List.range 58) wM_all wM_nd wM_g0 rfl rfl hl.1 rfl (Nat.le_of_ble_eq_true rfl) zd_LassoFinderModel_declaration_262 ⟨Nat.le_of_ble_eq_true rfl, Nat.le_of_ble_eq_true rfl⟩) hw hA (List.range 58) [] wM_all rfl (by decide) (fun i hi => by cases hi) (fun r2 u H locs hok hw => ?_)
  obtain ⟨I2, J2, B2, D2⟩ := u
  dsimp only at hok
  have hw : zW G A s.heap (wM ad K I2 J2 B2 D2) H locs := hw
  have hbo := hok.1
  have hok := hok.2
  exact (z_iret (u := (I2, J2, B2, D2)) hx hb hr hlocks (z_nar hbo) hw (List.range 58) wM_all wM_nd hok (Nat.le_of_ble_eq_true rfl) (Nat.le_of_ble_eq_true rfl) zd_LassoFinderModel_declaration_265)
set_option maxHeartbeats 8000000 in
set_option maxRecDepth 100000 in
theorem wJ_LassoFinderModel_declaration_249 {p : Program} {l : Launch} {e : Env} {s : State} {m : MethodId} {below : List Frame} {meth : Method} {c : Code} {A : Nat → Prop} (G : va_G) (K : Nat → ClassId) (ad : Nat → Nat) (Post : Int32 → (Nat → Int32) → (Nat → Int64) → (Nat → Nat → Int32) → (Nat → Nat → Int64) → Prop) (C : zCx p s m ([.ref (ad 0)] : List Value).toArray meth c A G K prog_14_method_14_code (some .boolean) 3 "LassoFinderModel") : ∀  (I : Nat → Int32) (J : Nat → Int64) (B : Nat → Nat → Int32) (D : Nat → Nat → Int64) (ls : Array Slot) (H : Heap) (locs : List Loc), wc_LassoFinderModel_declaration_249  Post  I J B D → lv_has ls 3 [(0, .ref (ad 0))] → zW G A s.heap (wM ad K I J B D) H locs → W p l e { frames := 2, cells := 0, slots := 0, locals := 44 } s m ([.ref (ad 0)] : List Value).toArray below meth c H locs 0 0 (MQ below (va_Qi (fun (r : Int32) (u : zS) => Post r u.1 u.2.1 u.2.2.1 u.2.2.2) (fun u t => zPost G K A (wM ad K u.1 u.2.1 u.2.2.1 u.2.2.2) t) A) ([.ref (ad 0)] : List Value).toArray s 0 0 A) (F0 m 249 ls []) := by
  obtain ⟨hx, hb, hr, hml, hts, hown, hlocks, hA, hK⟩ := id C
  intro  I J B D ls H locs hok hl hw
  unfold wc_LassoFinderModel_declaration_249 at hok
  refine lv_aload_n hx hb zd_LassoFinderModel_declaration_249 rfl (lv_at hl 0 rfl) ?_
  refine lv_dup hx hb zd_LassoFinderModel_declaration_250 rfl ?_
  refine z_get (v := .int (I 6)) hx hb hts hown hK hw zZ12 0 wM_g0 7 (by decide) zm_308 rfl zd_LassoFinderModel_declaration_251 ?_
  refine lv_iconst (v := 1) hx hb zd_LassoFinderModel_declaration_254 (by decide) ?_
  refine lv_iadd hx hb zd_LassoFinderModel_declaration_255 ?_
  refine lv_topi (fun z3 ez3 => ?_)
  have hok := hok z3 ez3
  refine z_put (v := .int z3) hx hb hts hown hK hw zZ12 0 wM_g0 7 (by decide) zm_308 rfl rfl rfl (Nat.le_of_ble_eq_true rfl) zd_LassoFinderModel_declaration_256 (fun H locs hw => ?_)
  have hw := wM_sI6 hw
  exact wJ_LassoFinderModel_declaration_259 G K ad  Post C (upd I 6 z3) J B D ls H locs hok (lv_sub hl [0] rfl) hw
set_option maxHeartbeats 8000000 in
set_option maxRecDepth 100000 in
theorem wJ_LassoFinderModel_declaration_89 {p : Program} {l : Launch} {e : Env} {s : State} {m : MethodId} {below : List Frame} {meth : Method} {c : Code} {A : Nat → Prop} (G : va_G) (K : Nat → ClassId) (ad : Nat → Nat) (Post : Int32 → (Nat → Int32) → (Nat → Int64) → (Nat → Nat → Int32) → (Nat → Nat → Int64) → Prop) (C : zCx p s m ([.ref (ad 0)] : List Value).toArray meth c A G K prog_14_method_14_code (some .boolean) 3 "LassoFinderModel") : ∀ (x1 : Int32) (x2 : Int32) (I : Nat → Int32) (J : Nat → Int64) (B : Nat → Nat → Int32) (D : Nat → Nat → Int64) (ls : Array Slot) (H : Heap) (locs : List Loc), wc_LassoFinderModel_declaration_89  Post x1 x2 I J B D → lv_has ls 3 [(0, .ref (ad 0)), (1, .int x1), (2, .int x2)] → zW G A s.heap (wM ad K I J B D) H locs → W p l e { frames := 2, cells := 0, slots := 0, locals := 44 } s m ([.ref (ad 0)] : List Value).toArray below meth c H locs 0 0 (MQ below (va_Qi (fun (r : Int32) (u : zS) => Post r u.1 u.2.1 u.2.2.1 u.2.2.2) (fun u t => zPost G K A (wM ad K u.1 u.2.1 u.2.2.1 u.2.2.2) t) A) ([.ref (ad 0)] : List Value).toArray s 0 0 A) (F0 m 89 ls []) := by
  obtain ⟨hx, hb, hr, hml, hts, hown, hlocks, hA, hK⟩ := id C
  intro x1 x2 I J B D ls H locs hok hl hw
  unfold wc_LassoFinderModel_declaration_89 at hok
  refine lv_aload_n hx hb zd_LassoFinderModel_declaration_89 rfl (lv_at hl 0 rfl) ?_
  refine lv_dup hx hb zd_LassoFinderModel_declaration_90 rfl ?_
  refine z_get (v := .int (I 2)) hx hb hts hown hK hw zZ12 0 wM_g0 3 (by decide) zm_335 rfl zd_LassoFinderModel_declaration_91 ?_
  refine lv_iconst (v := 1) hx hb zd_LassoFinderModel_declaration_94 (by decide) ?_
  refine lv_iadd hx hb zd_LassoFinderModel_declaration_95 ?_
  refine lv_topi (fun z4 ez4 => ?_)
  have hok := hok z4 ez4
  refine z_put (v := .int z4) hx hb hts hown hK hw zZ12 0 wM_g0 3 (by decide) zm_335 rfl rfl rfl (Nat.le_of_ble_eq_true rfl) zd_LassoFinderModel_declaration_96 (fun H locs hw => ?_)
  have hw := wM_sI2 hw
  refine lv_iload_n hx hb zd_LassoFinderModel_declaration_99 rfl (lv_at hl 1 rfl) ?_
  refine lv_if_eq (tgt := 167) hx hb zd_LassoFinderModel_declaration_100 (by decide) (fun hc5 => ?_) (fun hc5 => ?_)
  · have hok := hok.1 hc5
    refine lv_aload_n hx hb zd_LassoFinderModel_declaration_167 rfl (lv_at hl 0 rfl) ?_
    refine z_get (v := .ref (ad 2)) hx hb hts hown hK hw zZ12 0 wM_g0 9 (by decide) zm_236 rfl zd_LassoFinderModel_declaration_168 ?_
    refine lv_iload_n hx hb zd_LassoFinderModel_declaration_171 rfl (lv_at hl 2 rfl) ?_
    refine lv_aload_n hx hb zd_LassoFinderModel_declaration_172 rfl (lv_at hl 0 rfl) ?_
    refine z_get (v := .int (I 6)) hx hb hts hown hK hw zZ12 0 wM_g0 7 (by decide) zm_308 rfl zd_LassoFinderModel_declaration_173 ?_
    refine va_iast (f := (B 1)) hx hb hK hw.1 hw.2.1 hw.2.2 2 0 wM_a2 rfl hok.1 zd_LassoFinderModel_declaration_176 (fun H locs w91 w92 w93 => ?_)
    have hok := hok.2
    have hw := wM_t2 ⟨w91, w92, w93⟩
    refine lv_aload_n hx hb zd_LassoFinderModel_declaration_177 rfl (lv_at hl 0 rfl) ?_
    refine z_get (v := .ref (ad 4)) hx hb hts hown hK hw zZ12 0 wM_g0 11 (by decide) zm_238 rfl zd_LassoFinderModel_declaration_178 ?_
    refine lv_aload_n hx hb zd_LassoFinderModel_declaration_181 rfl (lv_at hl 0 rfl) ?_
    refine z_get (v := .int (I 6)) hx hb hts hown hK hw zZ12 0 wM_g0 7 (by decide) zm_308 rfl zd_LassoFinderModel_declaration_182 ?_
    refine lv_iconst (v := 0) hx hb zd_LassoFinderModel_declaration_185 (by decide) ?_
    refine va_iast (f := (B 3)) hx hb hK hw.1 hw.2.1 hw.2.2 4 0 wM_a4 rfl hok.1 zd_LassoFinderModel_declaration_186 (fun H locs w91 w92 w93 => ?_)
    have hok := hok.2
    have hw := wM_t4 ⟨w91, w92, w93⟩
    refine lv_aload_n hx hb zd_LassoFinderModel_declaration_187 rfl (lv_at hl 0 rfl) ?_
    refine z_calli (w1 := fun (u : zS) => wM ad K u.1 u.2.1 u.2.2.1 u.2.2.2) (wr := []) (z_runV (q0 := 0) (wc := (wM ad K (upd I 2 z4) J (va_up (va_up B 1 (upd (B 1) x2.toNatClampNeg (I 6))) 3 (upd (B 3) (I 6).toNatClampNeg 0)) D)) (As := []) (rest := []) ⟨hx, hb, hml, hown, hts⟩ (w_LassoFinderModel_here l G K ad (upd I 2 z4) J (va_up (va_up B 1 (upd (B 1) x2.toNatClampNeg (I 6))) 3 (upd (B 3) (I 6).toNatClampNeg 0)) D  _ H.size hok) zf_LassoFinderModel_here zm_332 ⟨Nat.le_of_ble_eq_true rfl, Nat.le_of_ble_eq_true rfl⟩ hK hw (List.range 58) wM_all wM_nd wM_g0 rfl rfl hl.1 rfl (Nat.le_of_ble_eq_true rfl) zd_LassoFinderModel_declaration_188 ⟨Nat.le_of_ble_eq_true rfl, Nat.le_of_ble_eq_true rfl⟩) hw hA (List.range 58) [] wM_all rfl (by decide) (fun i hi => by cases hi) (fun r6 u H locs hok hw => ?_)
    obtain ⟨I6, J6, B6, D6⟩ := u
    dsimp only at hok
    have hw : zW G A s.heap (wM ad K I6 J6 B6 D6) H locs := hw
    refine lv_bipush (v := 61) hx hb zd_LassoFinderModel_declaration_191 (by decide) ?_
    refine lv_icmp_ne (tgt := 249) hx hb zd_LassoFinderModel_declaration_193 (by decide) (fun hc7 => ?_) (fun hc7 => ?_)
    · have hok := hok.1 hc7
      exact wJ_LassoFinderModel_declaration_249 G K ad  Post C I6 J6 B6 D6 ls H locs hok (lv_sub hl [0] rfl) hw
    · have hok := hok.2 hc7
      refine lv_aload_n hx hb zd_LassoFinderModel_declaration_196 rfl (lv_at hl 0 rfl) ?_
      refine lv_dup hx hb zd_LassoFinderModel_declaration_197 rfl ?_
      refine z_get (v := .int (I6 2)) hx hb hts hown hK hw zZ12 0 wM_g0 3 (by decide) zm_335 rfl zd_LassoFinderModel_declaration_198 ?_
      refine lv_iconst (v := 1) hx hb zd_LassoFinderModel_declaration_201 (by decide) ?_
      refine lv_iadd hx hb zd_LassoFinderModel_declaration_202 ?_
      refine lv_topi (fun z8 ez8 => ?_)
      have hok := hok z8 ez8
      refine z_put (v := .int z8) hx hb hts hown hK hw zZ12 0 wM_g0 3 (by decide) zm_335 rfl rfl rfl (Nat.le_of_ble_eq_true rfl) zd_LassoFinderModel_declaration_203 (fun H locs hw => ?_)
      have hw := wM_sI2 hw
      refine lv_aload_n hx hb zd_LassoFinderModel_declaration_206 rfl (lv_at hl 0 rfl) ?_
      refine lv_bipush (v := 48) hx hb zd_LassoFinderModel_declaration_207 (by decide) ?_
      refine lv_bipush (v := 8) hx hb zd_LassoFinderModel_declaration_209 (by decide) ?_
      refine z_calli (w1 := fun (u : zS) => wM ad K u.1 u.2.1 u.2.2.1 u.2.2.2) (wr := []) (z_runV (q0 := 0) (wc := (wM ad K (upd I6 2 z8) J6 B6 D6)) (As := [.int 48, .int 8]) (rest := []) ⟨hx, hb, hml, hown, hts⟩ (w_LassoFinderModel_from l G K ad (upd I6 2 z8) J6 B6 D6 48 8 _ H.size hok) zf_LassoFinderModel_from zm_344 ⟨Nat.le_of_ble_eq_true rfl, Nat.le_of_ble_eq_true rfl⟩ hK hw (List.range 58) wM_all wM_nd wM_g0 rfl rfl hl.1 rfl (Nat.le_of_ble_eq_true rfl) zd_LassoFinderModel_declaration_211 ⟨Nat.le_of_ble_eq_true rfl, Nat.le_of_ble_eq_true rfl⟩) hw hA (List.range 58) [] wM_all rfl (by decide) (fun i hi => by cases hi) (fun r9 u H locs hok hw => ?_)
      obtain ⟨I9, J9, B9, D9⟩ := u
      dsimp only at hok
      have hw : zW G A s.heap (wM ad K I9 J9 B9 D9) H locs := hw
      refine lv_if_ge (tgt := 222) hx hb zd_LassoFinderModel_declaration_214 (by decide) (fun hc10 => ?_) (fun hc10 => ?_)
      · have hok := hok.1 hc10
        refine lv_aload_n hx hb zd_LassoFinderModel_declaration_222 rfl (lv_at hl 0 rfl) ?_
        refine z_get (v := .ref (ad 4)) hx hb hts hown hK hw zZ12 0 wM_g0 11 (by decide) zm_238 rfl zd_LassoFinderModel_declaration_223 ?_
        refine lv_aload_n hx hb zd_LassoFinderModel_declaration_226 rfl (lv_at hl 0 rfl) ?_
        refine z_get (v := .int (I9 6)) hx hb hts hown hK hw zZ12 0 wM_g0 7 (by decide) zm_308 rfl zd_LassoFinderModel_declaration_227 ?_
        refine lv_aload_n hx hb zd_LassoFinderModel_declaration_230 rfl (lv_at hl 0 rfl) ?_
        refine lv_bipush (v := 48) hx hb zd_LassoFinderModel_declaration_231 (by decide) ?_
        refine lv_bipush (v := 8) hx hb zd_LassoFinderModel_declaration_233 (by decide) ?_
        refine z_calli (w1 := fun (u : zS) => wM ad K u.1 u.2.1 u.2.2.1 u.2.2.2) (wr := []) (z_runV (q0 := 0) (wc := (wM ad K I9 J9 B9 D9)) (As := [.int 48, .int 8]) (rest := [.int (I9 6), .ref (ad 4)]) ⟨hx, hb, hml, hown, hts⟩ (w_LassoFinderModel_from l G K ad I9 J9 B9 D9 48 8 _ H.size hok) zf_LassoFinderModel_from zm_344 ⟨Nat.le_of_ble_eq_true rfl, Nat.le_of_ble_eq_true rfl⟩ hK hw (List.range 58) wM_all wM_nd wM_g0 rfl rfl hl.1 rfl (Nat.le_of_ble_eq_true rfl) zd_LassoFinderModel_declaration_235 ⟨Nat.le_of_ble_eq_true rfl, Nat.le_of_ble_eq_true rfl⟩) hw hA (List.range 58) [] wM_all rfl (by decide) (fun i hi => by cases hi) (fun r11 u H locs hok hw => ?_)
        obtain ⟨I11, J11, B11, D11⟩ := u
        dsimp only at hok
        have hw : zW G A s.heap (wM ad K I11 J11 B11 D11) H locs := hw
        refine va_iast (f := (B11 3)) hx hb hK hw.1 hw.2.1 hw.2.2 4 0 wM_a4 rfl hok.1 zd_LassoFinderModel_declaration_238 (fun H locs w91 w92 w93 => ?_)
        have hok := hok.2
        have hw := wM_t4 ⟨w91, w92, w93⟩
        refine lv_aload_n hx hb zd_LassoFinderModel_declaration_239 rfl (lv_at hl 0 rfl) ?_
        refine lv_dup hx hb zd_LassoFinderModel_declaration_240 rfl ?_
        refine z_get (v := .int (I11 2)) hx hb hts hown hK hw zZ12 0 wM_g0 3 (by decide) zm_335 rfl zd_LassoFinderModel_declaration_241 ?_
        refine lv_iconst (v := 1) hx hb zd_LassoFinderModel_declaration_244 (by decide) ?_
        refine lv_iadd hx hb zd_LassoFinderModel_declaration_245 ?_
        refine lv_topi (fun z12 ez12 => ?_)
        have hok := hok z12 ez12
        refine z_put (v := .int z12) hx hb hts hown hK hw zZ12 0 wM_g0 3 (by decide) zm_335 rfl rfl rfl (Nat.le_of_ble_eq_true rfl) zd_LassoFinderModel_declaration_246 (fun H locs hw => ?_)
        have hw := wM_sI2 hw
        exact wJ_LassoFinderModel_declaration_249 G K ad  Post C (upd I11 2 z12) J11 (va_up B11 3 (upd (B11 3) (I9 6).toNatClampNeg r11)) D11 ls H locs hok (lv_sub hl [0] rfl) hw
      · have hok := hok.2 hc10
        refine lv_aload_n hx hb zd_LassoFinderModel_declaration_217 rfl (lv_at hl 0 rfl) ?_
        refine z_calli (w1 := fun (u : zS) => wM ad K u.1 u.2.1 u.2.2.1 u.2.2.2) (wr := []) (z_runV (q0 := 0) (wc := (wM ad K I9 J9 B9 D9)) (As := []) (rest := []) ⟨hx, hb, hml, hown, hts⟩ (w_LassoFinderModel_fail l G K ad I9 J9 B9 D9  _ H.size hok) zf_LassoFinderModel_fail zm_334 ⟨Nat.le_of_ble_eq_true rfl, Nat.le_of_ble_eq_true rfl⟩ hK hw (List.range 58) wM_all wM_nd wM_g0 rfl rfl hl.1 rfl (Nat.le_of_ble_eq_true rfl) zd_LassoFinderModel_declaration_218 ⟨Nat.le_of_ble_eq_true rfl, Nat.le_of_ble_eq_true rfl⟩) hw hA (List.range 58) [] wM_all rfl (by decide) (fun i hi => by cases hi) (fun r13 u H locs hok hw => ?_)
        obtain ⟨I13, J13, B13, D13⟩ := u
        dsimp only at hok
        have hw : zW G A s.heap (wM ad K I13 J13 B13 D13) H locs := hw
        have hbo := hok.1
        have hok := hok.2
        exact (z_iret (u := (I13, J13, B13, D13)) hx hb hr hlocks (z_nar hbo) hw (List.range 58) wM_all wM_nd hok (Nat.le_of_ble_eq_true rfl) (Nat.le_of_ble_eq_true rfl) zd_LassoFinderModel_declaration_221)
  · have hok := hok.2 hc5
    refine lv_aload_n hx hb zd_LassoFinderModel_declaration_103 rfl (lv_at hl 0 rfl) ?_
    refine lv_bipush (v := 48) hx hb zd_LassoFinderModel_declaration_104 (by decide) ?_
    refine lv_iconst (v := 4) hx hb zd_LassoFinderModel_declaration_106 (by decide) ?_
    refine z_calli (w1 := fun (u : zS) => wM ad K u.1 u.2.1 u.2.2.1 u.2.2.2) (wr := []) (z_runV (q0 := 0) (wc := (wM ad K (upd I 2 z4) J B D)) (As := [.int 48, .int 4]) (rest := []) ⟨hx, hb, hml, hown, hts⟩ (w_LassoFinderModel_from l G K ad (upd I 2 z4) J B D 48 4 _ H.size hok) zf_LassoFinderModel_from zm_344 ⟨Nat.le_of_ble_eq_true rfl, Nat.le_of_ble_eq_true rfl⟩ hK hw (List.range 58) wM_all wM_nd wM_g0 rfl rfl hl.1 rfl (Nat.le_of_ble_eq_true rfl) zd_LassoFinderModel_declaration_107 ⟨Nat.le_of_ble_eq_true rfl, Nat.le_of_ble_eq_true rfl⟩) hw hA (List.range 58) [] wM_all rfl (by decide) (fun i hi => by cases hi) (fun r14 u H locs hok hw => ?_)
    obtain ⟨I14, J14, B14, D14⟩ := u
    dsimp only at hok
    have hw : zW G A s.heap (wM ad K I14 J14 B14 D14) H locs := hw
    refine lv_if_ge (tgt := 118) hx hb zd_LassoFinderModel_declaration_110 (by decide) (fun hc15 => ?_) (fun hc15 => ?_)
    · have hok := hok.1 hc15
      refine lv_aload_n hx hb zd_LassoFinderModel_declaration_118 rfl (lv_at hl 0 rfl) ?_
      refine z_get (v := .ref (ad 3)) hx hb hts hown hK hw zZ12 0 wM_g0 10 (by decide) zm_237 rfl zd_LassoFinderModel_declaration_119 ?_
      refine lv_iload_n hx hb zd_LassoFinderModel_declaration_122 rfl (lv_at hl 2 rfl) ?_
      refine lv_aload_n hx hb zd_LassoFinderModel_declaration_123 rfl (lv_at hl 0 rfl) ?_
      refine z_get (v := .int (I14 7)) hx hb hts hown hK hw zZ12 0 wM_g0 8 (by decide) zm_309 rfl zd_LassoFinderModel_declaration_124 ?_
      refine va_iast (f := (B14 2)) hx hb hK hw.1 hw.2.1 hw.2.2 3 0 wM_a3 rfl hok.1 zd_LassoFinderModel_declaration_127 (fun H locs w91 w92 w93 => ?_)
      have hok := hok.2
      have hw := wM_t3 ⟨w91, w92, w93⟩
      refine lv_aload_n hx hb zd_LassoFinderModel_declaration_128 rfl (lv_at hl 0 rfl) ?_
      refine z_get (v := .ref (ad 5)) hx hb hts hown hK hw zZ12 0 wM_g0 12 (by decide) zm_239 rfl zd_LassoFinderModel_declaration_129 ?_
      refine lv_aload_n hx hb zd_LassoFinderModel_declaration_132 rfl (lv_at hl 0 rfl) ?_
      refine z_get (v := .int (I14 7)) hx hb hts hown hK hw zZ12 0 wM_g0 8 (by decide) zm_309 rfl zd_LassoFinderModel_declaration_133 ?_
      refine lv_aload_n hx hb zd_LassoFinderModel_declaration_136 rfl (lv_at hl 0 rfl) ?_
      refine lv_bipush (v := 48) hx hb zd_LassoFinderModel_declaration_137 (by decide) ?_
      refine lv_iconst (v := 4) hx hb zd_LassoFinderModel_declaration_139 (by decide) ?_
      refine z_calli (w1 := fun (u : zS) => wM ad K u.1 u.2.1 u.2.2.1 u.2.2.2) (wr := []) (z_runV (q0 := 0) (wc := (wM ad K I14 J14 (va_up B14 2 (upd (B14 2) x2.toNatClampNeg (I14 7))) D14)) (As := [.int 48, .int 4]) (rest := [.int (I14 7), .ref (ad 5)]) ⟨hx, hb, hml, hown, hts⟩ (w_LassoFinderModel_from l G K ad I14 J14 (va_up B14 2 (upd (B14 2) x2.toNatClampNeg (I14 7))) D14 48 4 _ H.size hok) zf_LassoFinderModel_from zm_344 ⟨Nat.le_of_ble_eq_true rfl, Nat.le_of_ble_eq_true rfl⟩ hK hw (List.range 58) wM_all wM_nd wM_g0 rfl rfl hl.1 rfl (Nat.le_of_ble_eq_true rfl) zd_LassoFinderModel_declaration_140 ⟨Nat.le_of_ble_eq_true rfl, Nat.le_of_ble_eq_true rfl⟩) hw hA (List.range 58) [] wM_all rfl (by decide) (fun i hi => by cases hi) (fun r16 u H locs hok hw => ?_)
      obtain ⟨I16, J16, B16, D16⟩ := u
      dsimp only at hok
      have hw : zW G A s.heap (wM ad K I16 J16 B16 D16) H locs := hw
      refine va_iast (f := (B16 4)) hx hb hK hw.1 hw.2.1 hw.2.2 5 0 wM_a5 rfl hok.1 zd_LassoFinderModel_declaration_143 (fun H locs w91 w92 w93 => ?_)
      have hok := hok.2
      have hw := wM_t5 ⟨w91, w92, w93⟩
      refine lv_aload_n hx hb zd_LassoFinderModel_declaration_144 rfl (lv_at hl 0 rfl) ?_
      refine lv_dup hx hb zd_LassoFinderModel_declaration_145 rfl ?_
      refine z_get (v := .int (I16 7)) hx hb hts hown hK hw zZ12 0 wM_g0 8 (by decide) zm_309 rfl zd_LassoFinderModel_declaration_146 ?_
      refine lv_iconst (v := 1) hx hb zd_LassoFinderModel_declaration_149 (by decide) ?_
      refine lv_iadd hx hb zd_LassoFinderModel_declaration_150 ?_
      refine lv_topi (fun z17 ez17 => ?_)
      have hok := hok z17 ez17
      refine z_put (v := .int z17) hx hb hts hown hK hw zZ12 0 wM_g0 8 (by decide) zm_309 rfl rfl rfl (Nat.le_of_ble_eq_true rfl) zd_LassoFinderModel_declaration_151 (fun H locs hw => ?_)
      have hw := wM_sI7 hw
      refine lv_aload_n hx hb zd_LassoFinderModel_declaration_154 rfl (lv_at hl 0 rfl) ?_
      refine lv_dup hx hb zd_LassoFinderModel_declaration_155 rfl ?_
      refine z_get (v := .int (I16 2)) hx hb hts hown hK hw zZ12 0 wM_g0 3 (by decide) zm_335 rfl zd_LassoFinderModel_declaration_156 ?_
      refine lv_iconst (v := 1) hx hb zd_LassoFinderModel_declaration_159 (by decide) ?_
      refine lv_iadd hx hb zd_LassoFinderModel_declaration_160 ?_
      refine lv_topi (fun z18 ez18 => ?_)
      have hok := hok z18 ez18
      refine z_put (v := .int z18) hx hb hts hown hK hw zZ12 0 wM_g0 3 (by decide) zm_335 rfl rfl rfl (Nat.le_of_ble_eq_true rfl) zd_LassoFinderModel_declaration_161 (fun H locs hw => ?_)
      have hw := wM_sI2 hw
      refine lv_goto (tgt := 259) hx hb zd_LassoFinderModel_declaration_164 (by decide) ?_
      exact wJ_LassoFinderModel_declaration_259 G K ad  Post C (upd (upd I16 7 z17) 2 z18) J16 (va_up B16 4 (upd (B16 4) (I14 7).toNatClampNeg r16)) D16 ls H locs hok (lv_sub hl [0] rfl) hw
    · have hok := hok.2 hc15
      refine lv_aload_n hx hb zd_LassoFinderModel_declaration_113 rfl (lv_at hl 0 rfl) ?_
      refine z_calli (w1 := fun (u : zS) => wM ad K u.1 u.2.1 u.2.2.1 u.2.2.2) (wr := []) (z_runV (q0 := 0) (wc := (wM ad K I14 J14 B14 D14)) (As := []) (rest := []) ⟨hx, hb, hml, hown, hts⟩ (w_LassoFinderModel_fail l G K ad I14 J14 B14 D14  _ H.size hok) zf_LassoFinderModel_fail zm_334 ⟨Nat.le_of_ble_eq_true rfl, Nat.le_of_ble_eq_true rfl⟩ hK hw (List.range 58) wM_all wM_nd wM_g0 rfl rfl hl.1 rfl (Nat.le_of_ble_eq_true rfl) zd_LassoFinderModel_declaration_114 ⟨Nat.le_of_ble_eq_true rfl, Nat.le_of_ble_eq_true rfl⟩) hw hA (List.range 58) [] wM_all rfl (by decide) (fun i hi => by cases hi) (fun r19 u H locs hok hw => ?_)
      obtain ⟨I19, J19, B19, D19⟩ := u
      dsimp only at hok
      have hw : zW G A s.heap (wM ad K I19 J19 B19 D19) H locs := hw
      have hbo := hok.1
      have hok := hok.2
      exact (z_iret (u := (I19, J19, B19, D19)) hx hb hr hlocks (z_nar hbo) hw (List.range 58) wM_all wM_nd hok (Nat.le_of_ble_eq_true rfl) (Nat.le_of_ble_eq_true rfl) zd_LassoFinderModel_declaration_117)
set_option maxHeartbeats 8000000 in
set_option maxRecDepth 100000 in
theorem wJ_LassoFinderModel_declaration_29 {p : Program} {l : Launch} {e : Env} {s : State} {m : MethodId} {below : List Frame} {meth : Method} {c : Code} {A : Nat → Prop} (G : va_G) (K : Nat → ClassId) (ad : Nat → Nat) (Post : Int32 → (Nat → Int32) → (Nat → Int64) → (Nat → Nat → Int32) → (Nat → Nat → Int64) → Prop) (C : zCx p s m ([.ref (ad 0)] : List Value).toArray meth c A G K prog_14_method_14_code (some .boolean) 3 "LassoFinderModel") : ∀ (x1 : Int32) (I : Nat → Int32) (J : Nat → Int64) (B : Nat → Nat → Int32) (D : Nat → Nat → Int64) (ls : Array Slot) (H : Heap) (locs : List Loc), wc_LassoFinderModel_declaration_29  Post x1 I J B D → lv_has ls 3 [(0, .ref (ad 0)), (1, .int x1)] → zW G A s.heap (wM ad K I J B D) H locs → W p l e { frames := 2, cells := 0, slots := 0, locals := 44 } s m ([.ref (ad 0)] : List Value).toArray below meth c H locs 0 0 (MQ below (va_Qi (fun (r : Int32) (u : zS) => Post r u.1 u.2.1 u.2.2.1 u.2.2.2) (fun u t => zPost G K A (wM ad K u.1 u.2.1 u.2.2.1 u.2.2.2) t) A) ([.ref (ad 0)] : List Value).toArray s 0 0 A) (F0 m 29 ls []) := by
  obtain ⟨hx, hb, hr, hml, hts, hown, hlocks, hA, hK⟩ := id C
  intro x1 I J B D ls H locs hok hl hw
  unfold wc_LassoFinderModel_declaration_29 at hok
  refine lv_aload_n hx hb zd_LassoFinderModel_declaration_29 rfl (lv_at hl 0 rfl) ?_
  refine lv_bipush (v := 97) hx hb zd_LassoFinderModel_declaration_30 (by decide) ?_
  refine lv_bipush (v := 8) hx hb zd_LassoFinderModel_declaration_32 (by decide) ?_
  refine z_calli (w1 := fun (u : zS) => wM ad K u.1 u.2.1 u.2.2.1 u.2.2.2) (wr := []) (z_runV (q0 := 0) (wc := (wM ad K I J B D)) (As := [.int 97, .int 8]) (rest := []) ⟨hx, hb, hml, hown, hts⟩ (w_LassoFinderModel_from l G K ad I J B D 97 8 _ H.size hok) zf_LassoFinderModel_from zm_344 ⟨Nat.le_of_ble_eq_true rfl, Nat.le_of_ble_eq_true rfl⟩ hK hw (List.range 58) wM_all wM_nd wM_g0 rfl rfl hl.1 rfl (Nat.le_of_ble_eq_true rfl) zd_LassoFinderModel_declaration_34 ⟨Nat.le_of_ble_eq_true rfl, Nat.le_of_ble_eq_true rfl⟩) hw hA (List.range 58) [] wM_all rfl (by decide) (fun i hi => by cases hi) (fun r20 u H locs hok hw => ?_)
  obtain ⟨I20, J20, B20, D20⟩ := u
  dsimp only at hok
  have hw : zW G A s.heap (wM ad K I20 J20 B20 D20) H locs := hw
  refine lv_istore_n hx hb zd_LassoFinderModel_declaration_37 rfl hl (by decide) rfl (fun ls hl => ?_)
  have hl : lv_has ls 3 [(2, .int r20), (0, .ref (ad 0)), (1, .int x1)] := hl
  refine lv_iload_n hx hb zd_LassoFinderModel_declaration_38 rfl (lv_at hl 0 rfl) ?_
  refine lv_if_lt (tgt := 84) hx hb zd_LassoFinderModel_declaration_39 (by decide) (fun hc21 => ?_) (fun hc21 => ?_)
  · have hok := hok.1 hc21
    exact wJ_LassoFinderModel_declaration_84 G K ad  Post C I20 J20 B20 D20 ls H locs hok (lv_sub hl [1] rfl) hw
  · have hok := hok.2 hc21
    refine lv_aload_n hx hb zd_LassoFinderModel_declaration_42 rfl (lv_at hl 1 rfl) ?_
    refine z_get (v := .ref (ad 2)) hx hb hts hown hK hw zZ12 0 wM_g0 9 (by decide) zm_236 rfl zd_LassoFinderModel_declaration_43 ?_
    refine lv_iload_n hx hb zd_LassoFinderModel_declaration_46 rfl (lv_at hl 0 rfl) ?_
    refine va_iald (f := (B20 1)) hx hb hK hw.1 2 0 wM_a2 rfl hok.1 zd_LassoFinderModel_declaration_47 ?_
    have hok := hok.2
    refine lv_topi (fun z22 ez22 => ?_)
    have hok := hok z22 ez22
    refine lv_if_ge (tgt := 84) hx hb zd_LassoFinderModel_declaration_48 (by decide) (fun hc23 => ?_) (fun hc23 => ?_)
    · have hok := hok.1 hc23
      exact wJ_LassoFinderModel_declaration_84 G K ad  Post C I20 J20 B20 D20 ls H locs hok (lv_sub hl [1] rfl) hw
    · have hok := hok.2 hc23
      refine lv_aload_n hx hb zd_LassoFinderModel_declaration_51 rfl (lv_at hl 1 rfl) ?_
      refine z_get (v := .ref (ad 3)) hx hb hts hown hK hw zZ12 0 wM_g0 10 (by decide) zm_237 rfl zd_LassoFinderModel_declaration_52 ?_
      refine lv_iload_n hx hb zd_LassoFinderModel_declaration_55 rfl (lv_at hl 0 rfl) ?_
      refine va_iald (f := (B20 2)) hx hb hK hw.1 3 0 wM_a3 rfl hok.1 zd_LassoFinderModel_declaration_56 ?_
      have hok := hok.2
      refine lv_topi (fun z24 ez24 => ?_)
      have hok := hok z24 ez24
      refine lv_if_ge (tgt := 84) hx hb zd_LassoFinderModel_declaration_57 (by decide) (fun hc25 => ?_) (fun hc25 => ?_)
      · have hok := hok.1 hc25
        exact wJ_LassoFinderModel_declaration_84 G K ad  Post C I20 J20 B20 D20 ls H locs hok (lv_sub hl [1] rfl) hw
      · have hok := hok.2 hc25
        refine lv_iload_n hx hb zd_LassoFinderModel_declaration_60 rfl (lv_at hl 2 rfl) ?_
        refine lv_if_eq (tgt := 75) hx hb zd_LassoFinderModel_declaration_61 (by decide) (fun hc26 => ?_) (fun hc26 => ?_)
        · have hok := hok.1 hc26
          refine lv_aload_n hx hb zd_LassoFinderModel_declaration_75 rfl (lv_at hl 1 rfl) ?_
          refine z_get (v := .int (I20 6)) hx hb hts hown hK hw zZ12 0 wM_g0 7 (by decide) zm_308 rfl zd_LassoFinderModel_declaration_76 ?_
          refine lv_bipush (v := 6) hx hb zd_LassoFinderModel_declaration_79 (by decide) ?_
          refine lv_icmp_ne (tgt := 89) hx hb zd_LassoFinderModel_declaration_81 (by decide) (fun hc27 => ?_) (fun hc27 => ?_)
          · have hok := hok.1 hc27
            exact wJ_LassoFinderModel_declaration_89 G K ad  Post C x1 r20 I20 J20 B20 D20 ls H locs hok (lv_sub hl [1, 2, 0] rfl) hw
          · have hok := hok.2 hc27
            exact wJ_LassoFinderModel_declaration_84 G K ad  Post C I20 J20 B20 D20 ls H locs hok (lv_sub hl [1] rfl) hw
        · have hok := hok.2 hc26
          refine lv_aload_n hx hb zd_LassoFinderModel_declaration_64 rfl (lv_at hl 1 rfl) ?_
          refine z_get (v := .int (I20 7)) hx hb hts hown hK hw zZ12 0 wM_g0 8 (by decide) zm_309 rfl zd_LassoFinderModel_declaration_65 ?_
          refine lv_iconst (v := 2) hx hb zd_LassoFinderModel_declaration_68 (by decide) ?_
          refine lv_icmp_ne (tgt := 89) hx hb zd_LassoFinderModel_declaration_69 (by decide) (fun hc28 => ?_) (fun hc28 => ?_)
          · have hok := hok.1 hc28
            exact wJ_LassoFinderModel_declaration_89 G K ad  Post C x1 r20 I20 J20 B20 D20 ls H locs hok (lv_sub hl [1, 2, 0] rfl) hw
          · have hok := hok.2 hc28
            refine lv_goto (tgt := 84) hx hb zd_LassoFinderModel_declaration_72 (by decide) ?_
            exact wJ_LassoFinderModel_declaration_84 G K ad  Post C I20 J20 B20 D20 ls H locs hok (lv_sub hl [1] rfl) hw
set_option maxHeartbeats 8000000 in
set_option maxRecDepth 100000 in
theorem wJ_LassoFinderModel_declaration_14 {p : Program} {l : Launch} {e : Env} {s : State} {m : MethodId} {below : List Frame} {meth : Method} {c : Code} {A : Nat → Prop} (G : va_G) (K : Nat → ClassId) (ad : Nat → Nat) (Post : Int32 → (Nat → Int32) → (Nat → Int64) → (Nat → Nat → Int32) → (Nat → Nat → Int64) → Prop) (C : zCx p s m ([.ref (ad 0)] : List Value).toArray meth c A G K prog_14_method_14_code (some .boolean) 3 "LassoFinderModel") : ∀ (y0 : Int32) (I : Nat → Int32) (J : Nat → Int64) (B : Nat → Nat → Int32) (D : Nat → Nat → Int64) (ls : Array Slot) (H : Heap) (locs : List Loc), wc_LassoFinderModel_declaration_14  Post y0 I J B D → lv_has ls 3 [(0, .ref (ad 0))] → zW G A s.heap (wM ad K I J B D) H locs → W p l e { frames := 2, cells := 0, slots := 0, locals := 44 } s m ([.ref (ad 0)] : List Value).toArray below meth c H locs 0 0 (MQ below (va_Qi (fun (r : Int32) (u : zS) => Post r u.1 u.2.1 u.2.2.1 u.2.2.2) (fun u t => zPost G K A (wM ad K u.1 u.2.1 u.2.2.1 u.2.2.2) t) A) ([.ref (ad 0)] : List Value).toArray s 0 0 A) (F0 m 14 ls [.int y0]) := by
  obtain ⟨hx, hb, hr, hml, hts, hown, hlocks, hA, hK⟩ := id C
  intro y0 I J B D ls H locs hok hl hw
  unfold wc_LassoFinderModel_declaration_14 at hok
  refine lv_istore_n hx hb zd_LassoFinderModel_declaration_14 rfl hl (by decide) rfl (fun ls hl => ?_)
  have hl : lv_has ls 3 [(1, .int y0), (0, .ref (ad 0))] := hl
  refine lv_iload_n hx hb zd_LassoFinderModel_declaration_15 rfl (lv_at hl 0 rfl) ?_
  refine lv_if_eq (tgt := 29) hx hb zd_LassoFinderModel_declaration_16 (by decide) (fun hc29 => ?_) (fun hc29 => ?_)
  · have hok := hok.1 hc29
    exact wJ_LassoFinderModel_declaration_29 G K ad  Post C y0 I J B D ls H locs hok (lv_sub hl [1, 0] rfl) hw
  · have hok := hok.2 hc29
    refine lv_aload_n hx hb zd_LassoFinderModel_declaration_19 rfl (lv_at hl 1 rfl) ?_
    refine lv_dup hx hb zd_LassoFinderModel_declaration_20 rfl ?_
    refine z_get (v := .int (I 2)) hx hb hts hown hK hw zZ12 0 wM_g0 3 (by decide) zm_335 rfl zd_LassoFinderModel_declaration_21 ?_
    refine lv_iconst (v := 1) hx hb zd_LassoFinderModel_declaration_24 (by decide) ?_
    refine lv_iadd hx hb zd_LassoFinderModel_declaration_25 ?_
    refine lv_topi (fun z30 ez30 => ?_)
    have hok := hok z30 ez30
    refine z_put (v := .int z30) hx hb hts hown hK hw zZ12 0 wM_g0 3 (by decide) zm_335 rfl rfl rfl (Nat.le_of_ble_eq_true rfl) zd_LassoFinderModel_declaration_26 (fun H locs hw => ?_)
    have hw := wM_sI2 hw
    exact wJ_LassoFinderModel_declaration_29 G K ad  Post C y0 (upd I 2 z30) J B D ls H locs hok (lv_sub hl [1, 0] rfl) hw
set_option maxHeartbeats 8000000 in
set_option maxRecDepth 100000 in
theorem w_LassoFinderModel_declaration (l : Launch) (G : va_G) (K : Nat → ClassId) (ad : Nat → Nat) (I : Nat → Int32) (J : Nat → Int64) (B : Nat → Nat → Int32) (D : Nat → Nat → Int64) (Post : Int32 → (Nat → Int32) → (Nat → Int64) → (Nat → Nat → Int32) → (Nat → Nat → Int64) → Prop) (sz : Nat) (hok : wp_LassoFinderModel_declaration I J B D  Post) : Met l zy_LassoFinderModel_declaration (Cond.code zy_LassoFinderModel_declaration prog_14_method_14_code 3 (some .boolean) :: zTB) { frames := 2, cells := 0, slots := 0, locals := 44 } (va_Pc [.ref (ad 0)] (zPre G K (wM ad K I J B D) sz)) (va_Qi (fun (r : Int32) (u : zS) => Post r u.1 u.2.1 u.2.2.1 u.2.2.2) (fun u t => zPost G K (va_A (wM ad K I J B D) sz) (wM ad K u.1 u.2.1 u.2.2.1 u.2.2.2) t) (va_A (wM ad K I J B D) sz)) 0 0 (va_A (wM ad K I J B D) sz) := by
  refine zMet (y := zy_LassoFinderModel_declaration) (av := [.ref (ad 0)]) (maxL := 3) (cc := prog_14_method_14_code) (ret := (some .boolean)) (W0 := (wM ad K I J B D)) (sz := sz) (G := G) (K := K) (wt := zTB) (mc := 0) (ms := 0) (Qf := fun A => va_Qi (fun (r : Int32) (u : zS) => Post r u.1 u.2.1 u.2.2.1 u.2.2.2) (fun u t => zPost G K A (wM ad K u.1 u.2.1 u.2.2.1 u.2.2.2) t) A) (by decide) (Nat.le_of_ble_eq_true rfl) ?_
  intro p e s m below meth c ls A hx hb hr hml hts hown hlocks hin hA hK H locs hw hsz hl
  clear hsz
  have hown : s.vm.findClass "LassoFinderModel" = some m.cls := hown
  have C : zCx p s m ([.ref (ad 0)] : List Value).toArray meth c A G K prog_14_method_14_code (some .boolean) 3 "LassoFinderModel" := ⟨hx, hb, hr, hml, hts, hown, hlocks, hA, hK⟩
  have hl : lv_has ls 3 [(0, .ref (ad 0))] := hl
  have hw : zW G A s.heap (wM ad K I J B D) H locs := hw
  unfold wp_LassoFinderModel_declaration at hok
  refine lv_aload_n hx hb zd_LassoFinderModel_declaration_0 rfl (lv_at hl 0 rfl) ?_
  refine z_calli (w1 := fun (u : zS) => wM ad K u.1 u.2.1 u.2.2.1 u.2.2.2) (wr := []) (z_runV (q0 := 0) (wc := (wM ad K I J B D)) (As := []) (rest := []) ⟨hx, hb, hml, hown, hts⟩ (w_LassoFinderModel_here l G K ad I J B D  _ H.size hok) zf_LassoFinderModel_here zm_332 ⟨Nat.le_of_ble_eq_true rfl, Nat.le_of_ble_eq_true rfl⟩ hK hw (List.range 58) wM_all wM_nd wM_g0 rfl rfl hl.1 rfl (Nat.le_of_ble_eq_true rfl) zd_LassoFinderModel_declaration_1 ⟨Nat.le_of_ble_eq_true rfl, Nat.le_of_ble_eq_true rfl⟩) hw hA (List.range 58) [] wM_all rfl (by decide) (fun i hi => by cases hi) (fun r31 u H locs hok hw => ?_)
  obtain ⟨I31, J31, B31, D31⟩ := u
  dsimp only at hok
  have hw : zW G A s.heap (wM ad K I31 J31 B31 D31) H locs := hw
  refine lv_bipush (v := 35) hx hb zd_LassoFinderModel_declaration_4 (by decide) ?_
  refine lv_icmp_ne (tgt := 13) hx hb zd_LassoFinderModel_declaration_6 (by decide) (fun hc32 => ?_) (fun hc32 => ?_)
  · have hok := hok.1 hc32
    refine lv_iconst (v := 0) hx hb zd_LassoFinderModel_declaration_13 (by decide) ?_
    exact wJ_LassoFinderModel_declaration_14 G K ad  Post C 0 I31 J31 B31 D31 ls H locs hok (lv_sub hl [0] rfl) hw
  · have hok := hok.2 hc32
    refine lv_iconst (v := 1) hx hb zd_LassoFinderModel_declaration_9 (by decide) ?_
    refine lv_goto (tgt := 14) hx hb zd_LassoFinderModel_declaration_10 (by decide) ?_
    exact wJ_LassoFinderModel_declaration_14 G K ad  Post C 1 I31 J31 B31 D31 ls H locs hok (lv_sub hl [0] rfl) hw
def wc_LassoFinderModel_wholeModel_184 (Post : Int32 → (Nat → Int32) → (Nat → Int64) → (Nat → Nat → Int32) → (Nat → Nat → Int64) → Prop) (y0 : Int32) (I : Nat → Int32) (J : Nat → Int64) (B : Nat → Nat → Int32) (D : Nat → Nat → Int64) : Prop :=
  (y0 = 0 ∨ y0 = 1) ∧ Post y0 I J B D
def wc_LassoFinderModel_wholeModel_179 (Post : Int32 → (Nat → Int32) → (Nat → Int64) → (Nat → Nat → Int32) → (Nat → Nat → Int64) → Prop)  (I : Nat → Int32) (J : Nat → Int64) (B : Nat → Nat → Int32) (D : Nat → Nat → Int64) : Prop :=
  wc_LassoFinderModel_wholeModel_184  Post 1 I J B D
def wb_LassoFinderModel_wholeModel_107 (K107 : (Nat → Int32) → (Nat → Int64) → (Nat → Nat → Int32) → (Nat → Nat → Int64) → Prop) (Post : Int32 → (Nat → Int32) → (Nat → Int64) → (Nat → Nat → Int32) → (Nat → Nat → Int64) → Prop)  (I : Nat → Int32) (J : Nat → Int64) (B : Nat → Nat → Int32) (D : Nat → Nat → Int64) : Prop :=
  wp_LassoFinderModel_here I J B D  (fun r1 I1 J1 B1 D1 => ((¬ r1 = 123 → (((I1 2) = (I1 1) → wc_LassoFinderModel_wholeModel_179  Post I1 J1 B1 D1) ∧ (¬ (I1 2) = (I1 1) → wp_LassoFinderModel_fail I1 J1 B1 D1  (fun r4 I4 J4 B4 D4 => ((r4 = 0 → wc_LassoFinderModel_wholeModel_184  Post 0 I4 J4 B4 D4) ∧ (¬ r4 = 0 → wc_LassoFinderModel_wholeModel_179  Post I4 J4 B4 D4)))))) ∧ (r1 = 123 → ((¬ (I1 10) = 4 → ∀ z7 : Int32, z7 = ((I1 2) + 1) → wp_LassoFinderModel_body (upd I1 2 z7) J1 B1 D1  (fun r8 I8 J8 B8 D8 => ((¬ r8 = 0 → ∀ z10 : Int32, z10 = ((I8 10) + 1) → K107 (upd I8 10 z10) J8 B8 D8) ∧ (r8 = 0 → Post 0 I8 J8 B8 D8)))) ∧ ((I1 10) = 4 → wp_LassoFinderModel_fail I1 J1 B1 D1  (fun r11 I11 J11 B11 D11 => (r11 = 0 ∨ r11 = 1) ∧ Post r11 I11 J11 B11 D11))))))
def wl_LassoFinderModel_wholeModel_107 (Post : Int32 → (Nat → Int32) → (Nat → Int64) → (Nat → Nat → Int32) → (Nat → Nat → Int64) → Prop) (n : Nat) : (Nat → Int32) → (Nat → Int64) → (Nat → Nat → Int32) → (Nat → Nat → Int64) → Prop := Nat.rec (fun  _ _ _ _ => False) (fun _ r => wb_LassoFinderModel_wholeModel_107  r Post) n
def wb_LassoFinderModel_wholeModel_89 (K89 : (Nat → Int32) → (Nat → Int64) → (Nat → Nat → Int32) → (Nat → Nat → Int64) → Prop) (Post : Int32 → (Nat → Int32) → (Nat → Int64) → (Nat → Nat → Int32) → (Nat → Nat → Int64) → Prop)  (I : Nat → Int32) (J : Nat → Int64) (B : Nat → Nat → Int32) (D : Nat → Nat → Int64) : Prop :=
  wp_LassoFinderModel_here I J B D  (fun r12 I12 J12 B12 D12 => ((r12 = 123 → ∃ n : Nat, wl_LassoFinderModel_wholeModel_107  Post n I12 J12 B12 D12) ∧ (¬ r12 = 123 → wp_LassoFinderModel_declaration I12 J12 B12 D12  (fun r14 I14 J14 B14 D14 => ((¬ r14 = 0 → K89 I14 J14 B14 D14) ∧ (r14 = 0 → Post 0 I14 J14 B14 D14))))))
def wl_LassoFinderModel_wholeModel_89 (Post : Int32 → (Nat → Int32) → (Nat → Int64) → (Nat → Nat → Int32) → (Nat → Nat → Int64) → Prop) (n : Nat) : (Nat → Int32) → (Nat → Int64) → (Nat → Nat → Int32) → (Nat → Nat → Int64) → Prop := Nat.rec (fun  _ _ _ _ => False) (fun _ r => wb_LassoFinderModel_wholeModel_89  r Post) n
def wb_LassoFinderModel_wholeModel_70 (K70 : Int32 → (Nat → Int32) → (Nat → Int64) → (Nat → Nat → Int32) → (Nat → Nat → Int64) → Prop) (Post : Int32 → (Nat → Int32) → (Nat → Int64) → (Nat → Nat → Int32) → (Nat → Nat → Int64) → Prop) (x1 : Int32) (I : Nat → Int32) (J : Nat → Int64) (B : Nat → Nat → Int32) (D : Nat → Nat → Int64) : Prop :=
  (((32 : Int32) ≤ x1 → ∃ n : Nat, wl_LassoFinderModel_wholeModel_89  Post n I J B D) ∧ (¬ (32 : Int32) ≤ x1 → vp_in x1 32 ∧ ∀ z17 : Int32, z17 = (x1 + 1) → K70 z17 I J (va_up B 22 (upd (B 22) x1.toNatClampNeg (-1))) D))
def wl_LassoFinderModel_wholeModel_70 (Post : Int32 → (Nat → Int32) → (Nat → Int64) → (Nat → Nat → Int32) → (Nat → Nat → Int64) → Prop) (n : Nat) : Int32 → (Nat → Int32) → (Nat → Int64) → (Nat → Nat → Int32) → (Nat → Nat → Int64) → Prop := Nat.rec (fun _ _ _ _ _ => False) (fun _ r => wb_LassoFinderModel_wholeModel_70  r Post) n
def wb_LassoFinderModel_wholeModel_42 (K42 : Int32 → (Nat → Int32) → (Nat → Int64) → (Nat → Nat → Int32) → (Nat → Nat → Int64) → Prop) (Post : Int32 → (Nat → Int32) → (Nat → Int64) → (Nat → Nat → Int32) → (Nat → Nat → Int64) → Prop) (x1 : Int32) (I : Nat → Int32) (J : Nat → Int64) (B : Nat → Nat → Int32) (D : Nat → Nat → Int64) : Prop :=
  (((8 : Int32) ≤ x1 → ∃ n : Nat, wl_LassoFinderModel_wholeModel_70  Post n 0 I J B D) ∧ (¬ (8 : Int32) ≤ x1 → vp_in x1 8 ∧ vp_in x1 8 ∧ ∀ z19 : Int32, z19 = (x1 + 1) → K42 z19 I J (va_up (va_up B 1 (upd (B 1) x1.toNatClampNeg (-1))) 2 (upd (B 2) x1.toNatClampNeg (-1))) D))
def wl_LassoFinderModel_wholeModel_42 (Post : Int32 → (Nat → Int32) → (Nat → Int64) → (Nat → Nat → Int32) → (Nat → Nat → Int64) → Prop) (n : Nat) : Int32 → (Nat → Int32) → (Nat → Int64) → (Nat → Nat → Int32) → (Nat → Nat → Int64) → Prop := Nat.rec (fun _ _ _ _ _ => False) (fun _ r => wb_LassoFinderModel_wholeModel_42  r Post) n
def wp_LassoFinderModel_wholeModel (I : Nat → Int32) (J : Nat → Int64) (B : Nat → Nat → Int32) (D : Nat → Nat → Int64) (Post : Int32 → (Nat → Int32) → (Nat → Int64) → (Nat → Nat → Int32) → (Nat → Nat → Int64) → Prop) : Prop :=
  ∃ n : Nat, wl_LassoFinderModel_wholeModel_42  Post n 0 (upd (upd (upd (upd (upd (upd (upd (upd I 2 0) 3 (-1)) 6 0) 7 0) 8 0) 9 0) 10 0) 11 0) J B D
set_option maxHeartbeats 8000000 in
set_option maxRecDepth 100000 in
theorem wJ_LassoFinderModel_wholeModel_184 {p : Program} {l : Launch} {e : Env} {s : State} {m : MethodId} {below : List Frame} {meth : Method} {c : Code} {A : Nat → Prop} (G : va_G) (K : Nat → ClassId) (ad : Nat → Nat) (Post : Int32 → (Nat → Int32) → (Nat → Int64) → (Nat → Nat → Int32) → (Nat → Nat → Int64) → Prop) (C : zCx p s m ([.ref (ad 0)] : List Value).toArray meth c A G K prog_14_method_25_code (some .boolean) 2 "LassoFinderModel") : ∀ (y0 : Int32) (I : Nat → Int32) (J : Nat → Int64) (B : Nat → Nat → Int32) (D : Nat → Nat → Int64) (ls : Array Slot) (H : Heap) (locs : List Loc), wc_LassoFinderModel_wholeModel_184  Post y0 I J B D → lv_has ls 2 [] → zW G A s.heap (wM ad K I J B D) H locs → W p l e { frames := 6, cells := 0, slots := 0, locals := 147 } s m ([.ref (ad 0)] : List Value).toArray below meth c H locs 0 0 (MQ below (va_Qi (fun (r : Int32) (u : zS) => Post r u.1 u.2.1 u.2.2.1 u.2.2.2) (fun u t => zPost G K A (wM ad K u.1 u.2.1 u.2.2.1 u.2.2.2) t) A) ([.ref (ad 0)] : List Value).toArray s 0 0 A) (F0 m 184 ls [.int y0]) := by
  obtain ⟨hx, hb, hr, hml, hts, hown, hlocks, hA, hK⟩ := id C
  intro y0 I J B D ls H locs hok hl hw
  unfold wc_LassoFinderModel_wholeModel_184 at hok
  have hbo := hok.1
  have hok := hok.2
  exact (z_iret (u := (I, J, B, D)) hx hb hr hlocks (z_nar hbo) hw (List.range 58) wM_all wM_nd hok (Nat.le_of_ble_eq_true rfl) (Nat.le_of_ble_eq_true rfl) zd_LassoFinderModel_wholeModel_184)
set_option maxHeartbeats 8000000 in
set_option maxRecDepth 100000 in
theorem wJ_LassoFinderModel_wholeModel_179 {p : Program} {l : Launch} {e : Env} {s : State} {m : MethodId} {below : List Frame} {meth : Method} {c : Code} {A : Nat → Prop} (G : va_G) (K : Nat → ClassId) (ad : Nat → Nat) (Post : Int32 → (Nat → Int32) → (Nat → Int64) → (Nat → Nat → Int32) → (Nat → Nat → Int64) → Prop) (C : zCx p s m ([.ref (ad 0)] : List Value).toArray meth c A G K prog_14_method_25_code (some .boolean) 2 "LassoFinderModel") : ∀  (I : Nat → Int32) (J : Nat → Int64) (B : Nat → Nat → Int32) (D : Nat → Nat → Int64) (ls : Array Slot) (H : Heap) (locs : List Loc), wc_LassoFinderModel_wholeModel_179  Post  I J B D → lv_has ls 2 [] → zW G A s.heap (wM ad K I J B D) H locs → W p l e { frames := 6, cells := 0, slots := 0, locals := 147 } s m ([.ref (ad 0)] : List Value).toArray below meth c H locs 0 0 (MQ below (va_Qi (fun (r : Int32) (u : zS) => Post r u.1 u.2.1 u.2.2.1 u.2.2.2) (fun u t => zPost G K A (wM ad K u.1 u.2.1 u.2.2.1 u.2.2.2) t) A) ([.ref (ad 0)] : List Value).toArray s 0 0 A) (F0 m 179 ls []) := by
  obtain ⟨hx, hb, hr, hml, hts, hown, hlocks, hA, hK⟩ := id C
  intro  I J B D ls H locs hok hl hw
  unfold wc_LassoFinderModel_wholeModel_179 at hok
  refine lv_iconst (v := 1) hx hb zd_LassoFinderModel_wholeModel_179 (by decide) ?_
  refine lv_goto (tgt := 184) hx hb zd_LassoFinderModel_wholeModel_180 (by decide) ?_
  exact wJ_LassoFinderModel_wholeModel_184 G K ad  Post C 1 I J B D ls H locs hok (lv_sub hl [] rfl) hw
set_option maxHeartbeats 8000000 in
set_option maxRecDepth 100000 in
theorem wB_LassoFinderModel_wholeModel_107 {p : Program} {l : Launch} {e : Env} {s : State} {m : MethodId} {below : List Frame} {meth : Method} {c : Code} {A : Nat → Prop} (G : va_G) (K : Nat → ClassId) (ad : Nat → Nat) (Post : Int32 → (Nat → Int32) → (Nat → Int64) → (Nat → Nat → Int32) → (Nat → Nat → Int64) → Prop) (C : zCx p s m ([.ref (ad 0)] : List Value).toArray meth c A G K prog_14_method_25_code (some .boolean) 2 "LassoFinderModel") (K107 : (Nat → Int32) → (Nat → Int64) → (Nat → Nat → Int32) → (Nat → Nat → Int64) → Prop) (kh107 : ∀  (I : Nat → Int32) (J : Nat → Int64) (B : Nat → Nat → Int32) (D : Nat → Nat → Int64) (ls : Array Slot) (H : Heap) (locs : List Loc), K107  I J B D → lv_has ls 2 [(0, .ref (ad 0))] → zW G A s.heap (wM ad K I J B D) H locs → W p l e { frames := 6, cells := 0, slots := 0, locals := 147 } s m ([.ref (ad 0)] : List Value).toArray below meth c H locs 0 0 (MQ below (va_Qi (fun (r : Int32) (u : zS) => Post r u.1 u.2.1 u.2.2.1 u.2.2.2) (fun u t => zPost G K A (wM ad K u.1 u.2.1 u.2.2.1 u.2.2.2) t) A) ([.ref (ad 0)] : List Value).toArray s 0 0 A) (F0 m 107 ls [])) : ∀  (I : Nat → Int32) (J : Nat → Int64) (B : Nat → Nat → Int32) (D : Nat → Nat → Int64) (ls : Array Slot) (H : Heap) (locs : List Loc), wb_LassoFinderModel_wholeModel_107  K107 Post  I J B D → lv_has ls 2 [(0, .ref (ad 0))] → zW G A s.heap (wM ad K I J B D) H locs → W p l e { frames := 6, cells := 0, slots := 0, locals := 147 } s m ([.ref (ad 0)] : List Value).toArray below meth c H locs 0 0 (MQ below (va_Qi (fun (r : Int32) (u : zS) => Post r u.1 u.2.1 u.2.2.1 u.2.2.2) (fun u t => zPost G K A (wM ad K u.1 u.2.1 u.2.2.1 u.2.2.2) t) A) ([.ref (ad 0)] : List Value).toArray s 0 0 A) (F0 m 107 ls []) := by
  obtain ⟨hx, hb, hr, hml, hts, hown, hlocks, hA, hK⟩ := id C
  intro  I J B D ls H locs hok hl hw
  unfold wb_LassoFinderModel_wholeModel_107 at hok
  refine lv_aload_n hx hb zd_LassoFinderModel_wholeModel_107 rfl (lv_at hl 0 rfl) ?_
  refine z_calli (w1 := fun (u : zS) => wM ad K u.1 u.2.1 u.2.2.1 u.2.2.2) (wr := []) (z_runV (q0 := 0) (wc := (wM ad K I J B D)) (As := []) (rest := []) ⟨hx, hb, hml, hown, hts⟩ (w_LassoFinderModel_here l G K ad I J B D  _ H.size hok) zf_LassoFinderModel_here zm_332 ⟨Nat.le_of_ble_eq_true rfl, Nat.le_of_ble_eq_true rfl⟩ hK hw (List.range 58) wM_all wM_nd wM_g0 rfl rfl hl.1 rfl (Nat.le_of_ble_eq_true rfl) zd_LassoFinderModel_wholeModel_108 ⟨Nat.le_of_ble_eq_true rfl, Nat.le_of_ble_eq_true rfl⟩) hw hA (List.range 58) [] wM_all rfl (by decide) (fun i hi => by cases hi) (fun r1 u H locs hok hw => ?_)
  obtain ⟨I1, J1, B1, D1⟩ := u
  dsimp only at hok
  have hw : zW G A s.heap (wM ad K I1 J1 B1 D1) H locs := hw
  refine lv_bipush (v := 123) hx hb zd_LassoFinderModel_wholeModel_111 (by decide) ?_
  refine lv_icmp_ne (tgt := 161) hx hb zd_LassoFinderModel_wholeModel_113 (by decide) (fun hc2 => ?_) (fun hc2 => ?_)
  · have hok := hok.1 hc2
    refine lv_aload_n hx hb zd_LassoFinderModel_wholeModel_161 rfl (lv_at hl 0 rfl) ?_
    refine z_get (v := .int (I1 2)) hx hb hts hown hK hw zZ12 0 wM_g0 3 (by decide) zm_335 rfl zd_LassoFinderModel_wholeModel_162 ?_
    refine lv_aload_n hx hb zd_LassoFinderModel_wholeModel_165 rfl (lv_at hl 0 rfl) ?_
    refine z_get (v := .int (I1 1)) hx hb hts hown hK hw zZ12 0 wM_g0 1 (by decide) zm_294 rfl zd_LassoFinderModel_wholeModel_166 ?_
    refine lv_icmp_eq (tgt := 179) hx hb zd_LassoFinderModel_wholeModel_169 (by decide) (fun hc3 => ?_) (fun hc3 => ?_)
    · have hok := hok.1 hc3
      exact wJ_LassoFinderModel_wholeModel_179 G K ad  Post C I1 J1 B1 D1 ls H locs hok (lv_sub hl [] rfl) hw
    · have hok := hok.2 hc3
      refine lv_aload_n hx hb zd_LassoFinderModel_wholeModel_172 rfl (lv_at hl 0 rfl) ?_
      refine z_calli (w1 := fun (u : zS) => wM ad K u.1 u.2.1 u.2.2.1 u.2.2.2) (wr := []) (z_runV (q0 := 0) (wc := (wM ad K I1 J1 B1 D1)) (As := []) (rest := []) ⟨hx, hb, hml, hown, hts⟩ (w_LassoFinderModel_fail l G K ad I1 J1 B1 D1  _ H.size hok) zf_LassoFinderModel_fail zm_334 ⟨Nat.le_of_ble_eq_true rfl, Nat.le_of_ble_eq_true rfl⟩ hK hw (List.range 58) wM_all wM_nd wM_g0 rfl rfl hl.1 rfl (Nat.le_of_ble_eq_true rfl) zd_LassoFinderModel_wholeModel_173 ⟨Nat.le_of_ble_eq_true rfl, Nat.le_of_ble_eq_true rfl⟩) hw hA (List.range 58) [] wM_all rfl (by decide) (fun i hi => by cases hi) (fun r4 u H locs hok hw => ?_)
      obtain ⟨I4, J4, B4, D4⟩ := u
      dsimp only at hok
      have hw : zW G A s.heap (wM ad K I4 J4 B4 D4) H locs := hw
      refine lv_if_eq (tgt := 183) hx hb zd_LassoFinderModel_wholeModel_176 (by decide) (fun hc5 => ?_) (fun hc5 => ?_)
      · have hok := hok.1 hc5
        refine lv_iconst (v := 0) hx hb zd_LassoFinderModel_wholeModel_183 (by decide) ?_
        exact wJ_LassoFinderModel_wholeModel_184 G K ad  Post C 0 I4 J4 B4 D4 ls H locs hok (lv_sub hl [] rfl) hw
      · have hok := hok.2 hc5
        exact wJ_LassoFinderModel_wholeModel_179 G K ad  Post C I4 J4 B4 D4 ls H locs hok (lv_sub hl [] rfl) hw
  · have hok := hok.2 hc2
    refine lv_aload_n hx hb zd_LassoFinderModel_wholeModel_116 rfl (lv_at hl 0 rfl) ?_
    refine z_get (v := .int (I1 10)) hx hb hts hown hK hw zZ12 0 wM_g0 30 (by decide) zm_310 rfl zd_LassoFinderModel_wholeModel_117 ?_
    refine lv_iconst (v := 4) hx hb zd_LassoFinderModel_wholeModel_120 (by decide) ?_
    refine lv_icmp_ne (tgt := 129) hx hb zd_LassoFinderModel_wholeModel_121 (by decide) (fun hc6 => ?_) (fun hc6 => ?_)
    · have hok := hok.1 hc6
      refine lv_aload_n hx hb zd_LassoFinderModel_wholeModel_129 rfl (lv_at hl 0 rfl) ?_
      refine lv_dup hx hb zd_LassoFinderModel_wholeModel_130 rfl ?_
      refine z_get (v := .int (I1 2)) hx hb hts hown hK hw zZ12 0 wM_g0 3 (by decide) zm_335 rfl zd_LassoFinderModel_wholeModel_131 ?_
      refine lv_iconst (v := 1) hx hb zd_LassoFinderModel_wholeModel_134 (by decide) ?_
      refine lv_iadd hx hb zd_LassoFinderModel_wholeModel_135 ?_
      refine lv_topi (fun z7 ez7 => ?_)
      have hok := hok z7 ez7
      refine z_put (v := .int z7) hx hb hts hown hK hw zZ12 0 wM_g0 3 (by decide) zm_335 rfl rfl rfl (Nat.le_of_ble_eq_true rfl) zd_LassoFinderModel_wholeModel_136 (fun H locs hw => ?_)
      have hw := wM_sI2 hw
      refine lv_aload_n hx hb zd_LassoFinderModel_wholeModel_139 rfl (lv_at hl 0 rfl) ?_
      refine z_calli (w1 := fun (u : zS) => wM ad K u.1 u.2.1 u.2.2.1 u.2.2.2) (wr := []) (z_runV (q0 := 0) (wc := (wM ad K (upd I1 2 z7) J1 B1 D1)) (As := []) (rest := []) ⟨hx, hb, hml, hown, hts⟩ (w_LassoFinderModel_body l G K ad (upd I1 2 z7) J1 B1 D1  _ H.size hok) zf_LassoFinderModel_body zm_336 ⟨Nat.le_of_ble_eq_true rfl, Nat.le_of_ble_eq_true rfl⟩ hK hw (List.range 58) wM_all wM_nd wM_g0 rfl rfl hl.1 rfl (Nat.le_of_ble_eq_true rfl) zd_LassoFinderModel_wholeModel_140 ⟨Nat.le_of_ble_eq_true rfl, Nat.le_of_ble_eq_true rfl⟩) hw hA (List.range 58) [] wM_all rfl (by decide) (fun i hi => by cases hi) (fun r8 u H locs hok hw => ?_)
      obtain ⟨I8, J8, B8, D8⟩ := u
      dsimp only at hok
      have hw : zW G A s.heap (wM ad K I8 J8 B8 D8) H locs := hw
      refine lv_if_ne (tgt := 148) hx hb zd_LassoFinderModel_wholeModel_143 (by decide) (fun hc9 => ?_) (fun hc9 => ?_)
      · have hok := hok.1 hc9
        refine lv_aload_n hx hb zd_LassoFinderModel_wholeModel_148 rfl (lv_at hl 0 rfl) ?_
        refine lv_dup hx hb zd_LassoFinderModel_wholeModel_149 rfl ?_
        refine z_get (v := .int (I8 10)) hx hb hts hown hK hw zZ12 0 wM_g0 30 (by decide) zm_310 rfl zd_LassoFinderModel_wholeModel_150 ?_
        refine lv_iconst (v := 1) hx hb zd_LassoFinderModel_wholeModel_153 (by decide) ?_
        refine lv_iadd hx hb zd_LassoFinderModel_wholeModel_154 ?_
        refine lv_topi (fun z10 ez10 => ?_)
        have hok := hok z10 ez10
        refine z_put (v := .int z10) hx hb hts hown hK hw zZ12 0 wM_g0 30 (by decide) zm_310 rfl rfl rfl (Nat.le_of_ble_eq_true rfl) zd_LassoFinderModel_wholeModel_155 (fun H locs hw => ?_)
        have hw := wM_sI10 hw
        refine lv_goto (tgt := 107) hx hb zd_LassoFinderModel_wholeModel_158 (by decide) ?_
        exact kh107 (upd I8 10 z10) J8 B8 D8 ls H locs hok (lv_sub hl [0] rfl) hw
      · have hok := hok.2 hc9
        refine lv_iconst (v := 0) hx hb zd_LassoFinderModel_wholeModel_146 (by decide) ?_
        exact (z_iret (u := (I8, J8, B8, D8)) hx hb hr hlocks rfl hw (List.range 58) wM_all wM_nd hok (Nat.le_of_ble_eq_true rfl) (Nat.le_of_ble_eq_true rfl) zd_LassoFinderModel_wholeModel_147)
    · have hok := hok.2 hc6
      refine lv_aload_n hx hb zd_LassoFinderModel_wholeModel_124 rfl (lv_at hl 0 rfl) ?_
      refine z_calli (w1 := fun (u : zS) => wM ad K u.1 u.2.1 u.2.2.1 u.2.2.2) (wr := []) (z_runV (q0 := 0) (wc := (wM ad K I1 J1 B1 D1)) (As := []) (rest := []) ⟨hx, hb, hml, hown, hts⟩ (w_LassoFinderModel_fail l G K ad I1 J1 B1 D1  _ H.size hok) zf_LassoFinderModel_fail zm_334 ⟨Nat.le_of_ble_eq_true rfl, Nat.le_of_ble_eq_true rfl⟩ hK hw (List.range 58) wM_all wM_nd wM_g0 rfl rfl hl.1 rfl (Nat.le_of_ble_eq_true rfl) zd_LassoFinderModel_wholeModel_125 ⟨Nat.le_of_ble_eq_true rfl, Nat.le_of_ble_eq_true rfl⟩) hw hA (List.range 58) [] wM_all rfl (by decide) (fun i hi => by cases hi) (fun r11 u H locs hok hw => ?_)
      obtain ⟨I11, J11, B11, D11⟩ := u
      dsimp only at hok
      have hw : zW G A s.heap (wM ad K I11 J11 B11 D11) H locs := hw
      have hbo := hok.1
      have hok := hok.2
      exact (z_iret (u := (I11, J11, B11, D11)) hx hb hr hlocks (z_nar hbo) hw (List.range 58) wM_all wM_nd hok (Nat.le_of_ble_eq_true rfl) (Nat.le_of_ble_eq_true rfl) zd_LassoFinderModel_wholeModel_128)
theorem wL_LassoFinderModel_wholeModel_107 {p : Program} {l : Launch} {e : Env} {s : State} {m : MethodId} {below : List Frame} {meth : Method} {c : Code} {A : Nat → Prop} (G : va_G) (K : Nat → ClassId) (ad : Nat → Nat) (Post : Int32 → (Nat → Int32) → (Nat → Int64) → (Nat → Nat → Int32) → (Nat → Nat → Int64) → Prop) (C : zCx p s m ([.ref (ad 0)] : List Value).toArray meth c A G K prog_14_method_25_code (some .boolean) 2 "LassoFinderModel") : ∀ (n : Nat)  (I : Nat → Int32) (J : Nat → Int64) (B : Nat → Nat → Int32) (D : Nat → Nat → Int64) (ls : Array Slot) (H : Heap) (locs : List Loc), wl_LassoFinderModel_wholeModel_107  Post n  I J B D → lv_has ls 2 [(0, .ref (ad 0))] → zW G A s.heap (wM ad K I J B D) H locs → W p l e { frames := 6, cells := 0, slots := 0, locals := 147 } s m ([.ref (ad 0)] : List Value).toArray below meth c H locs 0 0 (MQ below (va_Qi (fun (r : Int32) (u : zS) => Post r u.1 u.2.1 u.2.2.1 u.2.2.2) (fun u t => zPost G K A (wM ad K u.1 u.2.1 u.2.2.1 u.2.2.2) t) A) ([.ref (ad 0)] : List Value).toArray s 0 0 A) (F0 m 107 ls []) := by
  intro n
  induction n with
  | zero => intro  I J B D ls H locs hok; exact hok.elim
  | succ n ih => exact wB_LassoFinderModel_wholeModel_107 G K ad  Post C (wl_LassoFinderModel_wholeModel_107  Post n) ih
set_option maxHeartbeats 8000000 in
set_option maxRecDepth 100000 in
theorem wB_LassoFinderModel_wholeModel_89 {p : Program} {l : Launch} {e : Env} {s : State} {m : MethodId} {below : List Frame} {meth : Method} {c : Code} {A : Nat → Prop} (G : va_G) (K : Nat → ClassId) (ad : Nat → Nat) (Post : Int32 → (Nat → Int32) → (Nat → Int64) → (Nat → Nat → Int32) → (Nat → Nat → Int64) → Prop) (C : zCx p s m ([.ref (ad 0)] : List Value).toArray meth c A G K prog_14_method_25_code (some .boolean) 2 "LassoFinderModel") (K89 : (Nat → Int32) → (Nat → Int64) → (Nat → Nat → Int32) → (Nat → Nat → Int64) → Prop) (kh89 : ∀  (I : Nat → Int32) (J : Nat → Int64) (B : Nat → Nat → Int32) (D : Nat → Nat → Int64) (ls : Array Slot) (H : Heap) (locs : List Loc), K89  I J B D → lv_has ls 2 [(0, .ref (ad 0))] → zW G A s.heap (wM ad K I J B D) H locs → W p l e { frames := 6, cells := 0, slots := 0, locals := 147 } s m ([.ref (ad 0)] : List Value).toArray below meth c H locs 0 0 (MQ below (va_Qi (fun (r : Int32) (u : zS) => Post r u.1 u.2.1 u.2.2.1 u.2.2.2) (fun u t => zPost G K A (wM ad K u.1 u.2.1 u.2.2.1 u.2.2.2) t) A) ([.ref (ad 0)] : List Value).toArray s 0 0 A) (F0 m 89 ls [])) : ∀  (I : Nat → Int32) (J : Nat → Int64) (B : Nat → Nat → Int32) (D : Nat → Nat → Int64) (ls : Array Slot) (H : Heap) (locs : List Loc), wb_LassoFinderModel_wholeModel_89  K89 Post  I J B D → lv_has ls 2 [(0, .ref (ad 0))] → zW G A s.heap (wM ad K I J B D) H locs → W p l e { frames := 6, cells := 0, slots := 0, locals := 147 } s m ([.ref (ad 0)] : List Value).toArray below meth c H locs 0 0 (MQ below (va_Qi (fun (r : Int32) (u : zS) => Post r u.1 u.2.1 u.2.2.1 u.2.2.2) (fun u t => zPost G K A (wM ad K u.1 u.2.1 u.2.2.1 u.2.2.2) t) A) ([.ref (ad 0)] : List Value).toArray s 0 0 A) (F0 m 89 ls []) := by
  obtain ⟨hx, hb, hr, hml, hts, hown, hlocks, hA, hK⟩ := id C
  intro  I J B D ls H locs hok hl hw
  unfold wb_LassoFinderModel_wholeModel_89 at hok
  refine lv_aload_n hx hb zd_LassoFinderModel_wholeModel_89 rfl (lv_at hl 0 rfl) ?_
  refine z_calli (w1 := fun (u : zS) => wM ad K u.1 u.2.1 u.2.2.1 u.2.2.2) (wr := []) (z_runV (q0 := 0) (wc := (wM ad K I J B D)) (As := []) (rest := []) ⟨hx, hb, hml, hown, hts⟩ (w_LassoFinderModel_here l G K ad I J B D  _ H.size hok) zf_LassoFinderModel_here zm_332 ⟨Nat.le_of_ble_eq_true rfl, Nat.le_of_ble_eq_true rfl⟩ hK hw (List.range 58) wM_all wM_nd wM_g0 rfl rfl hl.1 rfl (Nat.le_of_ble_eq_true rfl) zd_LassoFinderModel_wholeModel_90 ⟨Nat.le_of_ble_eq_true rfl, Nat.le_of_ble_eq_true rfl⟩) hw hA (List.range 58) [] wM_all rfl (by decide) (fun i hi => by cases hi) (fun r12 u H locs hok hw => ?_)
  obtain ⟨I12, J12, B12, D12⟩ := u
  dsimp only at hok
  have hw : zW G A s.heap (wM ad K I12 J12 B12 D12) H locs := hw
  refine lv_bipush (v := 123) hx hb zd_LassoFinderModel_wholeModel_93 (by decide) ?_
  refine lv_icmp_eq (tgt := 107) hx hb zd_LassoFinderModel_wholeModel_95 (by decide) (fun hc13 => ?_) (fun hc13 => ?_)
  · have hok := hok.1 hc13
    obtain ⟨n9, hok⟩ := hok
    exact wL_LassoFinderModel_wholeModel_107 G K ad  Post C n9 I12 J12 B12 D12 ls H locs hok (lv_sub hl [0] rfl) hw
  · have hok := hok.2 hc13
    refine lv_aload_n hx hb zd_LassoFinderModel_wholeModel_98 rfl (lv_at hl 0 rfl) ?_
    refine z_calli (w1 := fun (u : zS) => wM ad K u.1 u.2.1 u.2.2.1 u.2.2.2) (wr := []) (z_runV (q0 := 0) (wc := (wM ad K I12 J12 B12 D12)) (As := []) (rest := []) ⟨hx, hb, hml, hown, hts⟩ (w_LassoFinderModel_declaration l G K ad I12 J12 B12 D12  _ H.size hok) zf_LassoFinderModel_declaration zm_333 ⟨Nat.le_of_ble_eq_true rfl, Nat.le_of_ble_eq_true rfl⟩ hK hw (List.range 58) wM_all wM_nd wM_g0 rfl rfl hl.1 rfl (Nat.le_of_ble_eq_true rfl) zd_LassoFinderModel_wholeModel_99 ⟨Nat.le_of_ble_eq_true rfl, Nat.le_of_ble_eq_true rfl⟩) hw hA (List.range 58) [] wM_all rfl (by decide) (fun i hi => by cases hi) (fun r14 u H locs hok hw => ?_)
    obtain ⟨I14, J14, B14, D14⟩ := u
    dsimp only at hok
    have hw : zW G A s.heap (wM ad K I14 J14 B14 D14) H locs := hw
    refine lv_if_ne (tgt := 89) hx hb zd_LassoFinderModel_wholeModel_102 (by decide) (fun hc15 => ?_) (fun hc15 => ?_)
    · have hok := hok.1 hc15
      exact kh89 I14 J14 B14 D14 ls H locs hok (lv_sub hl [0] rfl) hw
    · have hok := hok.2 hc15
      refine lv_iconst (v := 0) hx hb zd_LassoFinderModel_wholeModel_105 (by decide) ?_
      exact (z_iret (u := (I14, J14, B14, D14)) hx hb hr hlocks rfl hw (List.range 58) wM_all wM_nd hok (Nat.le_of_ble_eq_true rfl) (Nat.le_of_ble_eq_true rfl) zd_LassoFinderModel_wholeModel_106)
theorem wL_LassoFinderModel_wholeModel_89 {p : Program} {l : Launch} {e : Env} {s : State} {m : MethodId} {below : List Frame} {meth : Method} {c : Code} {A : Nat → Prop} (G : va_G) (K : Nat → ClassId) (ad : Nat → Nat) (Post : Int32 → (Nat → Int32) → (Nat → Int64) → (Nat → Nat → Int32) → (Nat → Nat → Int64) → Prop) (C : zCx p s m ([.ref (ad 0)] : List Value).toArray meth c A G K prog_14_method_25_code (some .boolean) 2 "LassoFinderModel") : ∀ (n : Nat)  (I : Nat → Int32) (J : Nat → Int64) (B : Nat → Nat → Int32) (D : Nat → Nat → Int64) (ls : Array Slot) (H : Heap) (locs : List Loc), wl_LassoFinderModel_wholeModel_89  Post n  I J B D → lv_has ls 2 [(0, .ref (ad 0))] → zW G A s.heap (wM ad K I J B D) H locs → W p l e { frames := 6, cells := 0, slots := 0, locals := 147 } s m ([.ref (ad 0)] : List Value).toArray below meth c H locs 0 0 (MQ below (va_Qi (fun (r : Int32) (u : zS) => Post r u.1 u.2.1 u.2.2.1 u.2.2.2) (fun u t => zPost G K A (wM ad K u.1 u.2.1 u.2.2.1 u.2.2.2) t) A) ([.ref (ad 0)] : List Value).toArray s 0 0 A) (F0 m 89 ls []) := by
  intro n
  induction n with
  | zero => intro  I J B D ls H locs hok; exact hok.elim
  | succ n ih => exact wB_LassoFinderModel_wholeModel_89 G K ad  Post C (wl_LassoFinderModel_wholeModel_89  Post n) ih
set_option maxHeartbeats 8000000 in
set_option maxRecDepth 100000 in
theorem wB_LassoFinderModel_wholeModel_70 {p : Program} {l : Launch} {e : Env} {s : State} {m : MethodId} {below : List Frame} {meth : Method} {c : Code} {A : Nat → Prop} (G : va_G) (K : Nat → ClassId) (ad : Nat → Nat) (Post : Int32 → (Nat → Int32) → (Nat → Int64) → (Nat → Nat → Int32) → (Nat → Nat → Int64) → Prop) (C : zCx p s m ([.ref (ad 0)] : List Value).toArray meth c A G K prog_14_method_25_code (some .boolean) 2 "LassoFinderModel") (K70 : Int32 → (Nat → Int32) → (Nat → Int64) → (Nat → Nat → Int32) → (Nat → Nat → Int64) → Prop) (kh70 : ∀ (x1 : Int32) (I : Nat → Int32) (J : Nat → Int64) (B : Nat → Nat → Int32) (D : Nat → Nat → Int64) (ls : Array Slot) (H : Heap) (locs : List Loc), K70 x1 I J B D → lv_has ls 2 [(0, .ref (ad 0)), (1, .int x1)] → zW G A s.heap (wM ad K I J B D) H locs → W p l e { frames := 6, cells := 0, slots := 0, locals := 147 } s m ([.ref (ad 0)] : List Value).toArray below meth c H locs 0 0 (MQ below (va_Qi (fun (r : Int32) (u : zS) => Post r u.1 u.2.1 u.2.2.1 u.2.2.2) (fun u t => zPost G K A (wM ad K u.1 u.2.1 u.2.2.1 u.2.2.2) t) A) ([.ref (ad 0)] : List Value).toArray s 0 0 A) (F0 m 70 ls [])) : ∀ (x1 : Int32) (I : Nat → Int32) (J : Nat → Int64) (B : Nat → Nat → Int32) (D : Nat → Nat → Int64) (ls : Array Slot) (H : Heap) (locs : List Loc), wb_LassoFinderModel_wholeModel_70  K70 Post x1 I J B D → lv_has ls 2 [(0, .ref (ad 0)), (1, .int x1)] → zW G A s.heap (wM ad K I J B D) H locs → W p l e { frames := 6, cells := 0, slots := 0, locals := 147 } s m ([.ref (ad 0)] : List Value).toArray below meth c H locs 0 0 (MQ below (va_Qi (fun (r : Int32) (u : zS) => Post r u.1 u.2.1 u.2.2.1 u.2.2.2) (fun u t => zPost G K A (wM ad K u.1 u.2.1 u.2.2.1 u.2.2.2) t) A) ([.ref (ad 0)] : List Value).toArray s 0 0 A) (F0 m 70 ls []) := by
  obtain ⟨hx, hb, hr, hml, hts, hown, hlocks, hA, hK⟩ := id C
  intro x1 I J B D ls H locs hok hl hw
  unfold wb_LassoFinderModel_wholeModel_70 at hok
  refine lv_iload_n hx hb zd_LassoFinderModel_wholeModel_70 rfl (lv_at hl 1 rfl) ?_
  refine lv_bipush (v := 32) hx hb zd_LassoFinderModel_wholeModel_71 (by decide) ?_
  refine lv_icmp_ge (tgt := 89) hx hb zd_LassoFinderModel_wholeModel_73 (by decide) (fun hc16 => ?_) (fun hc16 => ?_)
  · have hok := hok.1 hc16
    obtain ⟨n9, hok⟩ := hok
    exact wL_LassoFinderModel_wholeModel_89 G K ad  Post C n9 I J B D ls H locs hok (lv_sub hl [0] rfl) hw
  · have hok := hok.2 hc16
    refine lv_aload_n hx hb zd_LassoFinderModel_wholeModel_76 rfl (lv_at hl 0 rfl) ?_
    refine z_get (v := .ref (ad 23)) hx hb hts hown hK hw zZ12 0 wM_g0 33 (by decide) zm_257 rfl zd_LassoFinderModel_wholeModel_77 ?_
    refine lv_iload_n hx hb zd_LassoFinderModel_wholeModel_80 rfl (lv_at hl 1 rfl) ?_
    refine lv_iconst (v := (-1)) hx hb zd_LassoFinderModel_wholeModel_81 (by decide) ?_
    refine va_iast (f := (B 22)) hx hb hK hw.1 hw.2.1 hw.2.2 23 0 wM_a23 rfl hok.1 zd_LassoFinderModel_wholeModel_82 (fun H locs w91 w92 w93 => ?_)
    have hok := hok.2
    have hw := wM_t23 ⟨w91, w92, w93⟩
    obtain ⟨z17, ez17⟩ : ∃ z : Int32, z = (x1 + 1) := ⟨_, rfl⟩
    have hok := hok z17 ez17
    refine lv_iinc (v := z17) hx hb zd_LassoFinderModel_wholeModel_83 hl (k := 1) rfl ez17.symm (by decide) rfl (fun ls hl => ?_)
    have hl : lv_has ls 2 [(1, .int z17), (0, .ref (ad 0))] := hl
    refine lv_goto (tgt := 70) hx hb zd_LassoFinderModel_wholeModel_86 (by decide) ?_
    exact kh70 z17 I J (va_up B 22 (upd (B 22) x1.toNatClampNeg (-1))) D ls H locs hok (lv_sub hl [1, 0] rfl) hw
theorem wL_LassoFinderModel_wholeModel_70 {p : Program} {l : Launch} {e : Env} {s : State} {m : MethodId} {below : List Frame} {meth : Method} {c : Code} {A : Nat → Prop} (G : va_G) (K : Nat → ClassId) (ad : Nat → Nat) (Post : Int32 → (Nat → Int32) → (Nat → Int64) → (Nat → Nat → Int32) → (Nat → Nat → Int64) → Prop) (C : zCx p s m ([.ref (ad 0)] : List Value).toArray meth c A G K prog_14_method_25_code (some .boolean) 2 "LassoFinderModel") : ∀ (n : Nat) (x1 : Int32) (I : Nat → Int32) (J : Nat → Int64) (B : Nat → Nat → Int32) (D : Nat → Nat → Int64) (ls : Array Slot) (H : Heap) (locs : List Loc), wl_LassoFinderModel_wholeModel_70  Post n x1 I J B D → lv_has ls 2 [(0, .ref (ad 0)), (1, .int x1)] → zW G A s.heap (wM ad K I J B D) H locs → W p l e { frames := 6, cells := 0, slots := 0, locals := 147 } s m ([.ref (ad 0)] : List Value).toArray below meth c H locs 0 0 (MQ below (va_Qi (fun (r : Int32) (u : zS) => Post r u.1 u.2.1 u.2.2.1 u.2.2.2) (fun u t => zPost G K A (wM ad K u.1 u.2.1 u.2.2.1 u.2.2.2) t) A) ([.ref (ad 0)] : List Value).toArray s 0 0 A) (F0 m 70 ls []) := by
  intro n
  induction n with
  | zero => intro x1 I J B D ls H locs hok; exact hok.elim
  | succ n ih => exact wB_LassoFinderModel_wholeModel_70 G K ad  Post C (wl_LassoFinderModel_wholeModel_70  Post n) ih
set_option maxHeartbeats 8000000 in
set_option maxRecDepth 100000 in
theorem wB_LassoFinderModel_wholeModel_42 {p : Program} {l : Launch} {e : Env} {s : State} {m : MethodId} {below : List Frame} {meth : Method} {c : Code} {A : Nat → Prop} (G : va_G) (K : Nat → ClassId) (ad : Nat → Nat) (Post : Int32 → (Nat → Int32) → (Nat → Int64) → (Nat → Nat → Int32) → (Nat → Nat → Int64) → Prop) (C : zCx p s m ([.ref (ad 0)] : List Value).toArray meth c A G K prog_14_method_25_code (some .boolean) 2 "LassoFinderModel") (K42 : Int32 → (Nat → Int32) → (Nat → Int64) → (Nat → Nat → Int32) → (Nat → Nat → Int64) → Prop) (kh42 : ∀ (x1 : Int32) (I : Nat → Int32) (J : Nat → Int64) (B : Nat → Nat → Int32) (D : Nat → Nat → Int64) (ls : Array Slot) (H : Heap) (locs : List Loc), K42 x1 I J B D → lv_has ls 2 [(0, .ref (ad 0)), (1, .int x1)] → zW G A s.heap (wM ad K I J B D) H locs → W p l e { frames := 6, cells := 0, slots := 0, locals := 147 } s m ([.ref (ad 0)] : List Value).toArray below meth c H locs 0 0 (MQ below (va_Qi (fun (r : Int32) (u : zS) => Post r u.1 u.2.1 u.2.2.1 u.2.2.2) (fun u t => zPost G K A (wM ad K u.1 u.2.1 u.2.2.1 u.2.2.2) t) A) ([.ref (ad 0)] : List Value).toArray s 0 0 A) (F0 m 42 ls [])) : ∀ (x1 : Int32) (I : Nat → Int32) (J : Nat → Int64) (B : Nat → Nat → Int32) (D : Nat → Nat → Int64) (ls : Array Slot) (H : Heap) (locs : List Loc), wb_LassoFinderModel_wholeModel_42  K42 Post x1 I J B D → lv_has ls 2 [(0, .ref (ad 0)), (1, .int x1)] → zW G A s.heap (wM ad K I J B D) H locs → W p l e { frames := 6, cells := 0, slots := 0, locals := 147 } s m ([.ref (ad 0)] : List Value).toArray below meth c H locs 0 0 (MQ below (va_Qi (fun (r : Int32) (u : zS) => Post r u.1 u.2.1 u.2.2.1 u.2.2.2) (fun u t => zPost G K A (wM ad K u.1 u.2.1 u.2.2.1 u.2.2.2) t) A) ([.ref (ad 0)] : List Value).toArray s 0 0 A) (F0 m 42 ls []) := by
  obtain ⟨hx, hb, hr, hml, hts, hown, hlocks, hA, hK⟩ := id C
  intro x1 I J B D ls H locs hok hl hw
  unfold wb_LassoFinderModel_wholeModel_42 at hok
  refine lv_iload_n hx hb zd_LassoFinderModel_wholeModel_42 rfl (lv_at hl 1 rfl) ?_
  refine lv_bipush (v := 8) hx hb zd_LassoFinderModel_wholeModel_43 (by decide) ?_
  refine lv_icmp_ge (tgt := 68) hx hb zd_LassoFinderModel_wholeModel_45 (by decide) (fun hc18 => ?_) (fun hc18 => ?_)
  · have hok := hok.1 hc18
    refine lv_iconst (v := 0) hx hb zd_LassoFinderModel_wholeModel_68 (by decide) ?_
    refine lv_istore_n hx hb zd_LassoFinderModel_wholeModel_69 rfl hl (by decide) rfl (fun ls hl => ?_)
    have hl : lv_has ls 2 [(1, .int 0), (0, .ref (ad 0))] := hl
    obtain ⟨n9, hok⟩ := hok
    exact wL_LassoFinderModel_wholeModel_70 G K ad  Post C n9 0 I J B D ls H locs hok (lv_sub hl [1, 0] rfl) hw
  · have hok := hok.2 hc18
    refine lv_aload_n hx hb zd_LassoFinderModel_wholeModel_48 rfl (lv_at hl 0 rfl) ?_
    refine z_get (v := .ref (ad 2)) hx hb hts hown hK hw zZ12 0 wM_g0 9 (by decide) zm_236 rfl zd_LassoFinderModel_wholeModel_49 ?_
    refine lv_iload_n hx hb zd_LassoFinderModel_wholeModel_52 rfl (lv_at hl 1 rfl) ?_
    refine lv_iconst (v := (-1)) hx hb zd_LassoFinderModel_wholeModel_53 (by decide) ?_
    refine va_iast (f := (B 1)) hx hb hK hw.1 hw.2.1 hw.2.2 2 0 wM_a2 rfl hok.1 zd_LassoFinderModel_wholeModel_54 (fun H locs w91 w92 w93 => ?_)
    have hok := hok.2
    have hw := wM_t2 ⟨w91, w92, w93⟩
    refine lv_aload_n hx hb zd_LassoFinderModel_wholeModel_55 rfl (lv_at hl 0 rfl) ?_
    refine z_get (v := .ref (ad 3)) hx hb hts hown hK hw zZ12 0 wM_g0 10 (by decide) zm_237 rfl zd_LassoFinderModel_wholeModel_56 ?_
    refine lv_iload_n hx hb zd_LassoFinderModel_wholeModel_59 rfl (lv_at hl 1 rfl) ?_
    refine lv_iconst (v := (-1)) hx hb zd_LassoFinderModel_wholeModel_60 (by decide) ?_
    refine va_iast (f := (B 2)) hx hb hK hw.1 hw.2.1 hw.2.2 3 0 wM_a3 rfl hok.1 zd_LassoFinderModel_wholeModel_61 (fun H locs w91 w92 w93 => ?_)
    have hok := hok.2
    have hw := wM_t3 ⟨w91, w92, w93⟩
    obtain ⟨z19, ez19⟩ : ∃ z : Int32, z = (x1 + 1) := ⟨_, rfl⟩
    have hok := hok z19 ez19
    refine lv_iinc (v := z19) hx hb zd_LassoFinderModel_wholeModel_62 hl (k := 1) rfl ez19.symm (by decide) rfl (fun ls hl => ?_)
    have hl : lv_has ls 2 [(1, .int z19), (0, .ref (ad 0))] := hl
    refine lv_goto (tgt := 42) hx hb zd_LassoFinderModel_wholeModel_65 (by decide) ?_
    exact kh42 z19 I J (va_up (va_up B 1 (upd (B 1) x1.toNatClampNeg (-1))) 2 (upd (B 2) x1.toNatClampNeg (-1))) D ls H locs hok (lv_sub hl [1, 0] rfl) hw
theorem wL_LassoFinderModel_wholeModel_42 {p : Program} {l : Launch} {e : Env} {s : State} {m : MethodId} {below : List Frame} {meth : Method} {c : Code} {A : Nat → Prop} (G : va_G) (K : Nat → ClassId) (ad : Nat → Nat) (Post : Int32 → (Nat → Int32) → (Nat → Int64) → (Nat → Nat → Int32) → (Nat → Nat → Int64) → Prop) (C : zCx p s m ([.ref (ad 0)] : List Value).toArray meth c A G K prog_14_method_25_code (some .boolean) 2 "LassoFinderModel") : ∀ (n : Nat) (x1 : Int32) (I : Nat → Int32) (J : Nat → Int64) (B : Nat → Nat → Int32) (D : Nat → Nat → Int64) (ls : Array Slot) (H : Heap) (locs : List Loc), wl_LassoFinderModel_wholeModel_42  Post n x1 I J B D → lv_has ls 2 [(0, .ref (ad 0)), (1, .int x1)] → zW G A s.heap (wM ad K I J B D) H locs → W p l e { frames := 6, cells := 0, slots := 0, locals := 147 } s m ([.ref (ad 0)] : List Value).toArray below meth c H locs 0 0 (MQ below (va_Qi (fun (r : Int32) (u : zS) => Post r u.1 u.2.1 u.2.2.1 u.2.2.2) (fun u t => zPost G K A (wM ad K u.1 u.2.1 u.2.2.1 u.2.2.2) t) A) ([.ref (ad 0)] : List Value).toArray s 0 0 A) (F0 m 42 ls []) := by
  intro n
  induction n with
  | zero => intro x1 I J B D ls H locs hok; exact hok.elim
  | succ n ih => exact wB_LassoFinderModel_wholeModel_42 G K ad  Post C (wl_LassoFinderModel_wholeModel_42  Post n) ih
set_option maxHeartbeats 8000000 in
set_option maxRecDepth 100000 in
theorem w_LassoFinderModel_wholeModel (l : Launch) (G : va_G) (K : Nat → ClassId) (ad : Nat → Nat) (I : Nat → Int32) (J : Nat → Int64) (B : Nat → Nat → Int32) (D : Nat → Nat → Int64) (Post : Int32 → (Nat → Int32) → (Nat → Int64) → (Nat → Nat → Int32) → (Nat → Nat → Int64) → Prop) (sz : Nat) (hok : wp_LassoFinderModel_wholeModel I J B D  Post) : Met l zy_LassoFinderModel_wholeModel (Cond.code zy_LassoFinderModel_wholeModel prog_14_method_25_code 2 (some .boolean) :: zTB) { frames := 6, cells := 0, slots := 0, locals := 147 } (va_Pc [.ref (ad 0)] (zPre G K (wM ad K I J B D) sz)) (va_Qi (fun (r : Int32) (u : zS) => Post r u.1 u.2.1 u.2.2.1 u.2.2.2) (fun u t => zPost G K (va_A (wM ad K I J B D) sz) (wM ad K u.1 u.2.1 u.2.2.1 u.2.2.2) t) (va_A (wM ad K I J B D) sz)) 0 0 (va_A (wM ad K I J B D) sz) := by
  refine zMet (y := zy_LassoFinderModel_wholeModel) (av := [.ref (ad 0)]) (maxL := 2) (cc := prog_14_method_25_code) (ret := (some .boolean)) (W0 := (wM ad K I J B D)) (sz := sz) (G := G) (K := K) (wt := zTB) (mc := 0) (ms := 0) (Qf := fun A => va_Qi (fun (r : Int32) (u : zS) => Post r u.1 u.2.1 u.2.2.1 u.2.2.2) (fun u t => zPost G K A (wM ad K u.1 u.2.1 u.2.2.1 u.2.2.2) t) A) (by decide) (Nat.le_of_ble_eq_true rfl) ?_
  intro p e s m below meth c ls A hx hb hr hml hts hown hlocks hin hA hK H locs hw hsz hl
  clear hsz
  have hown : s.vm.findClass "LassoFinderModel" = some m.cls := hown
  have C : zCx p s m ([.ref (ad 0)] : List Value).toArray meth c A G K prog_14_method_25_code (some .boolean) 2 "LassoFinderModel" := ⟨hx, hb, hr, hml, hts, hown, hlocks, hA, hK⟩
  have hl : lv_has ls 2 [(0, .ref (ad 0))] := hl
  have hw : zW G A s.heap (wM ad K I J B D) H locs := hw
  unfold wp_LassoFinderModel_wholeModel at hok
  refine lv_aload_n hx hb zd_LassoFinderModel_wholeModel_0 rfl (lv_at hl 0 rfl) ?_
  refine lv_iconst (v := 0) hx hb zd_LassoFinderModel_wholeModel_1 (by decide) ?_
  refine z_put (v := .int 0) hx hb hts hown hK hw zZ12 0 wM_g0 3 (by decide) zm_335 rfl rfl rfl (Nat.le_of_ble_eq_true rfl) zd_LassoFinderModel_wholeModel_2 (fun H locs hw => ?_)
  have hw := wM_sI2 hw
  refine lv_aload_n hx hb zd_LassoFinderModel_wholeModel_5 rfl (lv_at hl 0 rfl) ?_
  refine lv_iconst (v := (-1)) hx hb zd_LassoFinderModel_wholeModel_6 (by decide) ?_
  refine z_put (v := .int (-1)) hx hb hts hown hK hw zZ12 0 wM_g0 4 (by decide) zm_301 rfl rfl rfl (Nat.le_of_ble_eq_true rfl) zd_LassoFinderModel_wholeModel_7 (fun H locs hw => ?_)
  have hw := wM_sI3 hw
  refine lv_aload_n hx hb zd_LassoFinderModel_wholeModel_10 rfl (lv_at hl 0 rfl) ?_
  refine lv_iconst (v := 0) hx hb zd_LassoFinderModel_wholeModel_11 (by decide) ?_
  refine z_put (v := .int 0) hx hb hts hown hK hw zZ12 0 wM_g0 7 (by decide) zm_308 rfl rfl rfl (Nat.le_of_ble_eq_true rfl) zd_LassoFinderModel_wholeModel_12 (fun H locs hw => ?_)
  have hw := wM_sI6 hw
  refine lv_aload_n hx hb zd_LassoFinderModel_wholeModel_15 rfl (lv_at hl 0 rfl) ?_
  refine lv_iconst (v := 0) hx hb zd_LassoFinderModel_wholeModel_16 (by decide) ?_
  refine z_put (v := .int 0) hx hb hts hown hK hw zZ12 0 wM_g0 8 (by decide) zm_309 rfl rfl rfl (Nat.le_of_ble_eq_true rfl) zd_LassoFinderModel_wholeModel_17 (fun H locs hw => ?_)
  have hw := wM_sI7 hw
  refine lv_aload_n hx hb zd_LassoFinderModel_wholeModel_20 rfl (lv_at hl 0 rfl) ?_
  refine lv_iconst (v := 0) hx hb zd_LassoFinderModel_wholeModel_21 (by decide) ?_
  refine z_put (v := .int 0) hx hb hts hown hK hw zZ12 0 wM_g0 13 (by decide) zm_307 rfl rfl rfl (Nat.le_of_ble_eq_true rfl) zd_LassoFinderModel_wholeModel_22 (fun H locs hw => ?_)
  have hw := wM_sI8 hw
  refine lv_aload_n hx hb zd_LassoFinderModel_wholeModel_25 rfl (lv_at hl 0 rfl) ?_
  refine lv_iconst (v := 0) hx hb zd_LassoFinderModel_wholeModel_26 (by decide) ?_
  refine z_put (v := .int 0) hx hb hts hown hK hw zZ12 0 wM_g0 27 (by decide) zm_303 rfl rfl rfl (Nat.le_of_ble_eq_true rfl) zd_LassoFinderModel_wholeModel_27 (fun H locs hw => ?_)
  have hw := wM_sI9 hw
  refine lv_aload_n hx hb zd_LassoFinderModel_wholeModel_30 rfl (lv_at hl 0 rfl) ?_
  refine lv_iconst (v := 0) hx hb zd_LassoFinderModel_wholeModel_31 (by decide) ?_
  refine z_put (v := .int 0) hx hb hts hown hK hw zZ12 0 wM_g0 30 (by decide) zm_310 rfl rfl rfl (Nat.le_of_ble_eq_true rfl) zd_LassoFinderModel_wholeModel_32 (fun H locs hw => ?_)
  have hw := wM_sI10 hw
  refine lv_aload_n hx hb zd_LassoFinderModel_wholeModel_35 rfl (lv_at hl 0 rfl) ?_
  refine lv_iconst (v := 0) hx hb zd_LassoFinderModel_wholeModel_36 (by decide) ?_
  refine z_put (v := .int 0) hx hb hts hown hK hw zZ12 0 wM_g0 36 (by decide) zm_296 rfl rfl rfl (Nat.le_of_ble_eq_true rfl) zd_LassoFinderModel_wholeModel_37 (fun H locs hw => ?_)
  have hw := wM_sI11 hw
  refine lv_iconst (v := 0) hx hb zd_LassoFinderModel_wholeModel_40 (by decide) ?_
  refine lv_istore_n hx hb zd_LassoFinderModel_wholeModel_41 rfl hl (by decide) rfl (fun ls hl => ?_)
  have hl : lv_has ls 2 [(1, .int 0), (0, .ref (ad 0))] := hl
  obtain ⟨n9, hok⟩ := hok
  exact wL_LassoFinderModel_wholeModel_42 G K ad  Post C n9 0 (upd (upd (upd (upd (upd (upd (upd (upd I 2 0) 3 (-1)) 6 0) 7 0) 8 0) 9 0) 10 0) 11 0) J B D ls H locs hok (lv_sub hl [1, 0] rfl) hw
def wc_LassoFinderModel_model_116 (Post : Int32 → (Nat → Int32) → (Nat → Int64) → (Nat → Nat → Int32) → (Nat → Nat → Int64) → Prop) (y0 : Int32) (I : Nat → Int32) (J : Nat → Int64) (B : Nat → Nat → Int32) (D : Nat → Nat → Int64) : Prop :=
  Post y0 I J B D
def wc_LassoFinderModel_model_98 (Post : Int32 → (Nat → Int32) → (Nat → Int64) → (Nat → Nat → Int32) → (Nat → Nat → Int64) → Prop) (y0 : Int32) (I : Nat → Int32) (J : Nat → Int64) (B : Nat → Nat → Int32) (D : Nat → Nat → Int64) : Prop :=
  (((I 5) = 0 → wc_LassoFinderModel_model_116  Post 0 (upd I 0 y0) J B D) ∧ (¬ (I 5) = 0 → wc_LassoFinderModel_model_116  Post (I 14) (upd I 0 y0) J B D))
def wc_LassoFinderModel_model_56 (Post : Int32 → (Nat → Int32) → (Nat → Int64) → (Nat → Nat → Int32) → (Nat → Nat → Int64) → Prop) (x1 : Int32) (y0 : Int32) (I : Nat → Int32) (J : Nat → Int64) (B : Nat → Nat → Int32) (D : Nat → Nat → Int64) : Prop :=
  ((¬ x1 = 0 → wp_LassoFinderModel_link (upd (upd I 0 y0) 22 (I 11)) J B D  (fun I3 J3 B3 D3 => wp_LassoFinderModel_reach I3 J3 B3 D3  (fun r4 I4 J4 B4 D4 => (r4 = 0 ∨ r4 = 1) ∧ ((r4 = 0 → wc_LassoFinderModel_model_98  Post 2 (upd I4 5 r4) J4 B4 D4) ∧ (¬ r4 = 0 → wc_LassoFinderModel_model_98  Post 0 (upd I4 5 r4) J4 B4 D4))))) ∧ (x1 = 0 → Post 0 (upd I 0 y0) J B D))
def wc_LassoFinderModel_model_38 (Post : Int32 → (Nat → Int32) → (Nat → Int64) → (Nat → Nat → Int32) → (Nat → Nat → Int64) → Prop) (x1 : Int32) (y0 : Int32) (I : Nat → Int32) (J : Nat → Int64) (B : Nat → Nat → Int32) (D : Nat → Nat → Int64) : Prop :=
  ((x1 = 0 → wc_LassoFinderModel_model_56  Post x1 1 (upd (upd I 4 y0) 1 0) J B D) ∧ (¬ x1 = 0 → wc_LassoFinderModel_model_56  Post x1 0 (upd (upd I 4 y0) 1 0) J B D))
def wp_LassoFinderModel_model (I : Nat → Int32) (J : Nat → Int64) (B : Nat → Nat → Int32) (D : Nat → Nat → Int64) (Post : Int32 → (Nat → Int32) → (Nat → Int64) → (Nat → Nat → Int32) → (Nat → Nat → Int64) → Prop) : Prop :=
  wp_LassoFinderModel_wholeModel (upd (upd (upd (upd I 18 0) 24 (-1)) 26 (-1)) 5 0) J B D  (fun r7 I7 J7 B7 D7 => ((r7 = 0 → wc_LassoFinderModel_model_38  Post r7 (I7 3) I7 J7 B7 D7) ∧ (¬ r7 = 0 → wc_LassoFinderModel_model_38  Post r7 (-1) I7 J7 B7 D7)))
set_option maxHeartbeats 8000000 in
set_option maxRecDepth 100000 in
theorem wJ_LassoFinderModel_model_116 {p : Program} {l : Launch} {e : Env} {s : State} {m : MethodId} {below : List Frame} {meth : Method} {c : Code} {A : Nat → Prop} (G : va_G) (K : Nat → ClassId) (ad : Nat → Nat) (Post : Int32 → (Nat → Int32) → (Nat → Int64) → (Nat → Nat → Int32) → (Nat → Nat → Int64) → Prop) (C : zCx p s m ([.ref (ad 0)] : List Value).toArray meth c A G K prog_14_method_39_code (some .int) 2 "LassoFinderModel") : ∀ (y0 : Int32) (I : Nat → Int32) (J : Nat → Int64) (B : Nat → Nat → Int32) (D : Nat → Nat → Int64) (ls : Array Slot) (H : Heap) (locs : List Loc), wc_LassoFinderModel_model_116  Post y0 I J B D → lv_has ls 2 [] → zW G A s.heap (wM ad K I J B D) H locs → W p l e { frames := 7, cells := 0, slots := 0, locals := 168 } s m ([.ref (ad 0)] : List Value).toArray below meth c H locs 0 0 (MQ below (va_Qi (fun (r : Int32) (u : zS) => Post r u.1 u.2.1 u.2.2.1 u.2.2.2) (fun u t => zPost G K A (wM ad K u.1 u.2.1 u.2.2.1 u.2.2.2) t) A) ([.ref (ad 0)] : List Value).toArray s 0 0 A) (F0 m 116 ls [.int y0]) := by
  obtain ⟨hx, hb, hr, hml, hts, hown, hlocks, hA, hK⟩ := id C
  intro y0 I J B D ls H locs hok hl hw
  unfold wc_LassoFinderModel_model_116 at hok
  exact (z_iret (u := (I, J, B, D)) hx hb hr hlocks rfl hw (List.range 58) wM_all wM_nd hok (Nat.le_of_ble_eq_true rfl) (Nat.le_of_ble_eq_true rfl) zd_LassoFinderModel_model_116)
set_option maxHeartbeats 8000000 in
set_option maxRecDepth 100000 in
theorem wJ_LassoFinderModel_model_98 {p : Program} {l : Launch} {e : Env} {s : State} {m : MethodId} {below : List Frame} {meth : Method} {c : Code} {A : Nat → Prop} (G : va_G) (K : Nat → ClassId) (ad : Nat → Nat) (Post : Int32 → (Nat → Int32) → (Nat → Int64) → (Nat → Nat → Int32) → (Nat → Nat → Int64) → Prop) (C : zCx p s m ([.ref (ad 0)] : List Value).toArray meth c A G K prog_14_method_39_code (some .int) 2 "LassoFinderModel") : ∀ (y0 : Int32) (I : Nat → Int32) (J : Nat → Int64) (B : Nat → Nat → Int32) (D : Nat → Nat → Int64) (ls : Array Slot) (H : Heap) (locs : List Loc), wc_LassoFinderModel_model_98  Post y0 I J B D → lv_has ls 2 [(0, .ref (ad 0))] → zW G A s.heap (wM ad K I J B D) H locs → W p l e { frames := 7, cells := 0, slots := 0, locals := 168 } s m ([.ref (ad 0)] : List Value).toArray below meth c H locs 0 0 (MQ below (va_Qi (fun (r : Int32) (u : zS) => Post r u.1 u.2.1 u.2.2.1 u.2.2.2) (fun u t => zPost G K A (wM ad K u.1 u.2.1 u.2.2.1 u.2.2.2) t) A) ([.ref (ad 0)] : List Value).toArray s 0 0 A) (F0 m 98 ls [.int y0, .ref (ad 0)]) := by
  obtain ⟨hx, hb, hr, hml, hts, hown, hlocks, hA, hK⟩ := id C
  intro y0 I J B D ls H locs hok hl hw
  unfold wc_LassoFinderModel_model_98 at hok
  refine z_put (v := .int y0) hx hb hts hown hK hw zZ12 0 wM_g0 0 (by decide) zm_292 rfl rfl rfl (Nat.le_of_ble_eq_true rfl) zd_LassoFinderModel_model_98 (fun H locs hw => ?_)
  have hw := wM_sI0 hw
  refine lv_aload_n hx hb zd_LassoFinderModel_model_101 rfl (lv_at hl 0 rfl) ?_
  refine z_get (v := .int (I 5)) hx hb hts hown hK hw zZ12 0 wM_g0 6 (by decide) zm_299 rfl zd_LassoFinderModel_model_102 ?_
  refine lv_if_eq (tgt := 115) hx hb zd_LassoFinderModel_model_105 (by decide) (fun hc1 => ?_) (fun hc1 => ?_)
  · have hok := hok.1 hc1
    refine lv_iconst (v := 0) hx hb zd_LassoFinderModel_model_115 (by decide) ?_
    exact wJ_LassoFinderModel_model_116 G K ad  Post C 0 (upd I 0 y0) J B D ls H locs hok (lv_sub hl [] rfl) hw
  · have hok := hok.2 hc1
    refine lv_aload_n hx hb zd_LassoFinderModel_model_108 rfl (lv_at hl 0 rfl) ?_
    refine z_get (v := .int (I 14)) hx hb hts hown hK hw zZ12 0 wM_g0 44 (by decide) zm_300 rfl zd_LassoFinderModel_model_109 ?_
    refine lv_goto (tgt := 116) hx hb zd_LassoFinderModel_model_112 (by decide) ?_
    exact wJ_LassoFinderModel_model_116 G K ad  Post C (I 14) (upd I 0 y0) J B D ls H locs hok (lv_sub hl [] rfl) hw
set_option maxHeartbeats 8000000 in
set_option maxRecDepth 100000 in
theorem wJ_LassoFinderModel_model_56 {p : Program} {l : Launch} {e : Env} {s : State} {m : MethodId} {below : List Frame} {meth : Method} {c : Code} {A : Nat → Prop} (G : va_G) (K : Nat → ClassId) (ad : Nat → Nat) (Post : Int32 → (Nat → Int32) → (Nat → Int64) → (Nat → Nat → Int32) → (Nat → Nat → Int64) → Prop) (C : zCx p s m ([.ref (ad 0)] : List Value).toArray meth c A G K prog_14_method_39_code (some .int) 2 "LassoFinderModel") : ∀ (x1 : Int32) (y0 : Int32) (I : Nat → Int32) (J : Nat → Int64) (B : Nat → Nat → Int32) (D : Nat → Nat → Int64) (ls : Array Slot) (H : Heap) (locs : List Loc), wc_LassoFinderModel_model_56  Post x1 y0 I J B D → lv_has ls 2 [(0, .ref (ad 0)), (1, .int x1)] → zW G A s.heap (wM ad K I J B D) H locs → W p l e { frames := 7, cells := 0, slots := 0, locals := 168 } s m ([.ref (ad 0)] : List Value).toArray below meth c H locs 0 0 (MQ below (va_Qi (fun (r : Int32) (u : zS) => Post r u.1 u.2.1 u.2.2.1 u.2.2.2) (fun u t => zPost G K A (wM ad K u.1 u.2.1 u.2.2.1 u.2.2.2) t) A) ([.ref (ad 0)] : List Value).toArray s 0 0 A) (F0 m 56 ls [.int y0, .ref (ad 0)]) := by
  obtain ⟨hx, hb, hr, hml, hts, hown, hlocks, hA, hK⟩ := id C
  intro x1 y0 I J B D ls H locs hok hl hw
  unfold wc_LassoFinderModel_model_56 at hok
  refine z_put (v := .int y0) hx hb hts hown hK hw zZ12 0 wM_g0 0 (by decide) zm_292 rfl rfl rfl (Nat.le_of_ble_eq_true rfl) zd_LassoFinderModel_model_56 (fun H locs hw => ?_)
  have hw := wM_sI0 hw
  refine lv_iload_n hx hb zd_LassoFinderModel_model_59 rfl (lv_at hl 1 rfl) ?_
  refine lv_if_ne (tgt := 65) hx hb zd_LassoFinderModel_model_60 (by decide) (fun hc2 => ?_) (fun hc2 => ?_)
  · have hok := hok.1 hc2
    refine lv_aload_n hx hb zd_LassoFinderModel_model_65 rfl (lv_at hl 0 rfl) ?_
    refine lv_aload_n hx hb zd_LassoFinderModel_model_66 rfl (lv_at hl 0 rfl) ?_
    refine z_get (v := .int (I 11)) hx hb hts hown hK hw zZ12 0 wM_g0 36 (by decide) zm_296 rfl zd_LassoFinderModel_model_67 ?_
    refine z_put (v := .int (I 11)) hx hb hts hown hK hw zZ12 0 wM_g0 67 (by decide) zm_302 rfl rfl rfl (Nat.le_of_ble_eq_true rfl) zd_LassoFinderModel_model_70 (fun H locs hw => ?_)
    have hw := wM_sI22 hw
    refine lv_aload_n hx hb zd_LassoFinderModel_model_73 rfl (lv_at hl 0 rfl) ?_
    refine z_callv (w1 := fun (u : zS) => wM ad K u.1 u.2.1 u.2.2.1 u.2.2.2) (wr := []) (z_runV (q0 := 0) (wc := (wM ad K (upd (upd I 0 y0) 22 (I 11)) J B D)) (As := []) (rest := []) ⟨hx, hb, hml, hown, hts⟩ (w_LassoFinderModel_link l G K ad (upd (upd I 0 y0) 22 (I 11)) J B D  _ H.size hok) zf_LassoFinderModel_link zm_297 ⟨Nat.le_of_ble_eq_true rfl, Nat.le_of_ble_eq_true rfl⟩ hK hw (List.range 58) wM_all wM_nd wM_g0 rfl rfl hl.1 rfl (Nat.le_of_ble_eq_true rfl) zd_LassoFinderModel_model_74 ⟨Nat.le_of_ble_eq_true rfl, Nat.le_of_ble_eq_true rfl⟩) hw hA (List.range 58) [] wM_all rfl (by decide) (fun i hi => by cases hi) (fun u H locs hok hw => ?_)
    obtain ⟨I3, J3, B3, D3⟩ := u
    dsimp only at hok
    have hw : zW G A s.heap (wM ad K I3 J3 B3 D3) H locs := hw
    refine lv_aload_n hx hb zd_LassoFinderModel_model_77 rfl (lv_at hl 0 rfl) ?_
    refine lv_aload_n hx hb zd_LassoFinderModel_model_78 rfl (lv_at hl 0 rfl) ?_
    refine z_calli (w1 := fun (u : zS) => wM ad K u.1 u.2.1 u.2.2.1 u.2.2.2) (wr := []) (z_runV (q0 := 0) (wc := (wM ad K I3 J3 B3 D3)) (As := []) (rest := [.ref (ad 0)]) ⟨hx, hb, hml, hown, hts⟩ (w_LassoFinderModel_reach l G K ad I3 J3 B3 D3  _ H.size hok) zf_LassoFinderModel_reach zm_298 ⟨Nat.le_of_ble_eq_true rfl, Nat.le_of_ble_eq_true rfl⟩ hK hw (List.range 58) wM_all wM_nd wM_g0 rfl rfl hl.1 rfl (Nat.le_of_ble_eq_true rfl) zd_LassoFinderModel_model_79 ⟨Nat.le_of_ble_eq_true rfl, Nat.le_of_ble_eq_true rfl⟩) hw hA (List.range 58) [] wM_all rfl (by decide) (fun i hi => by cases hi) (fun r4 u H locs hok hw => ?_)
    obtain ⟨I4, J4, B4, D4⟩ := u
    dsimp only at hok
    have hw : zW G A s.heap (wM ad K I4 J4 B4 D4) H locs := hw
    have hbo := hok.1
    have hok := hok.2
    refine z_put (v := .int r4) hx hb hts hown hK hw zZ12 0 wM_g0 6 (by decide) zm_299 rfl (z_nar hbo) (by rcases hbo with h9 | h9 <;> rw [h9] <;> rfl) (Nat.le_of_ble_eq_true rfl) zd_LassoFinderModel_model_82 (fun H locs hw => ?_)
    have hw := wM_sI5 hw
    refine lv_aload_n hx hb zd_LassoFinderModel_model_85 rfl (lv_at hl 0 rfl) ?_
    refine lv_aload_n hx hb zd_LassoFinderModel_model_86 rfl (lv_at hl 0 rfl) ?_
    refine z_get (v := .int r4) hx hb hts hown hK hw zZ12 0 wM_g0 6 (by decide) zm_299 rfl zd_LassoFinderModel_model_87 ?_
    refine lv_if_eq (tgt := 97) hx hb zd_LassoFinderModel_model_90 (by decide) (fun hc5 => ?_) (fun hc5 => ?_)
    · have hok := hok.1 hc5
      refine lv_iconst (v := 2) hx hb zd_LassoFinderModel_model_97 (by decide) ?_
      exact wJ_LassoFinderModel_model_98 G K ad  Post C 2 (upd I4 5 r4) J4 B4 D4 ls H locs hok (lv_sub hl [0] rfl) hw
    · have hok := hok.2 hc5
      refine lv_iconst (v := 0) hx hb zd_LassoFinderModel_model_93 (by decide) ?_
      refine lv_goto (tgt := 98) hx hb zd_LassoFinderModel_model_94 (by decide) ?_
      exact wJ_LassoFinderModel_model_98 G K ad  Post C 0 (upd I4 5 r4) J4 B4 D4 ls H locs hok (lv_sub hl [0] rfl) hw
  · have hok := hok.2 hc2
    refine lv_iconst (v := 0) hx hb zd_LassoFinderModel_model_63 (by decide) ?_
    exact (z_iret (u := ((upd I 0 y0), J, B, D)) hx hb hr hlocks rfl hw (List.range 58) wM_all wM_nd hok (Nat.le_of_ble_eq_true rfl) (Nat.le_of_ble_eq_true rfl) zd_LassoFinderModel_model_64)
set_option maxHeartbeats 8000000 in
set_option maxRecDepth 100000 in
theorem wJ_LassoFinderModel_model_38 {p : Program} {l : Launch} {e : Env} {s : State} {m : MethodId} {below : List Frame} {meth : Method} {c : Code} {A : Nat → Prop} (G : va_G) (K : Nat → ClassId) (ad : Nat → Nat) (Post : Int32 → (Nat → Int32) → (Nat → Int64) → (Nat → Nat → Int32) → (Nat → Nat → Int64) → Prop) (C : zCx p s m ([.ref (ad 0)] : List Value).toArray meth c A G K prog_14_method_39_code (some .int) 2 "LassoFinderModel") : ∀ (x1 : Int32) (y0 : Int32) (I : Nat → Int32) (J : Nat → Int64) (B : Nat → Nat → Int32) (D : Nat → Nat → Int64) (ls : Array Slot) (H : Heap) (locs : List Loc), wc_LassoFinderModel_model_38  Post x1 y0 I J B D → lv_has ls 2 [(0, .ref (ad 0)), (1, .int x1)] → zW G A s.heap (wM ad K I J B D) H locs → W p l e { frames := 7, cells := 0, slots := 0, locals := 168 } s m ([.ref (ad 0)] : List Value).toArray below meth c H locs 0 0 (MQ below (va_Qi (fun (r : Int32) (u : zS) => Post r u.1 u.2.1 u.2.2.1 u.2.2.2) (fun u t => zPost G K A (wM ad K u.1 u.2.1 u.2.2.1 u.2.2.2) t) A) ([.ref (ad 0)] : List Value).toArray s 0 0 A) (F0 m 38 ls [.int y0, .ref (ad 0)]) := by
  obtain ⟨hx, hb, hr, hml, hts, hown, hlocks, hA, hK⟩ := id C
  intro x1 y0 I J B D ls H locs hok hl hw
  unfold wc_LassoFinderModel_model_38 at hok
  refine z_put (v := .int y0) hx hb hts hown hK hw zZ12 0 wM_g0 5 (by decide) zm_328 rfl rfl rfl (Nat.le_of_ble_eq_true rfl) zd_LassoFinderModel_model_38 (fun H locs hw => ?_)
  have hw := wM_sI4 hw
  refine lv_aload_n hx hb zd_LassoFinderModel_model_41 rfl (lv_at hl 0 rfl) ?_
  refine lv_iconst (v := 0) hx hb zd_LassoFinderModel_model_42 (by decide) ?_
  refine z_put (v := .int 0) hx hb hts hown hK hw zZ12 0 wM_g0 1 (by decide) zm_294 rfl rfl rfl (Nat.le_of_ble_eq_true rfl) zd_LassoFinderModel_model_43 (fun H locs hw => ?_)
  have hw := wM_sI1 hw
  refine lv_aload_n hx hb zd_LassoFinderModel_model_46 rfl (lv_at hl 0 rfl) ?_
  refine lv_iload_n hx hb zd_LassoFinderModel_model_47 rfl (lv_at hl 1 rfl) ?_
  refine lv_if_eq (tgt := 55) hx hb zd_LassoFinderModel_model_48 (by decide) (fun hc6 => ?_) (fun hc6 => ?_)
  · have hok := hok.1 hc6
    refine lv_iconst (v := 1) hx hb zd_LassoFinderModel_model_55 (by decide) ?_
    exact wJ_LassoFinderModel_model_56 G K ad  Post C x1 1 (upd (upd I 4 y0) 1 0) J B D ls H locs hok (lv_sub hl [0, 1] rfl) hw
  · have hok := hok.2 hc6
    refine lv_iconst (v := 0) hx hb zd_LassoFinderModel_model_51 (by decide) ?_
    refine lv_goto (tgt := 56) hx hb zd_LassoFinderModel_model_52 (by decide) ?_
    exact wJ_LassoFinderModel_model_56 G K ad  Post C x1 0 (upd (upd I 4 y0) 1 0) J B D ls H locs hok (lv_sub hl [0, 1] rfl) hw
set_option maxHeartbeats 8000000 in
set_option maxRecDepth 100000 in
theorem w_LassoFinderModel_model (l : Launch) (G : va_G) (K : Nat → ClassId) (ad : Nat → Nat) (I : Nat → Int32) (J : Nat → Int64) (B : Nat → Nat → Int32) (D : Nat → Nat → Int64) (Post : Int32 → (Nat → Int32) → (Nat → Int64) → (Nat → Nat → Int32) → (Nat → Nat → Int64) → Prop) (sz : Nat) (hok : wp_LassoFinderModel_model I J B D  Post) : Met l zy_LassoFinderModel_model (Cond.code zy_LassoFinderModel_model prog_14_method_39_code 2 (some .int) :: zTB) { frames := 7, cells := 0, slots := 0, locals := 168 } (va_Pc [.ref (ad 0)] (zPre G K (wM ad K I J B D) sz)) (va_Qi (fun (r : Int32) (u : zS) => Post r u.1 u.2.1 u.2.2.1 u.2.2.2) (fun u t => zPost G K (va_A (wM ad K I J B D) sz) (wM ad K u.1 u.2.1 u.2.2.1 u.2.2.2) t) (va_A (wM ad K I J B D) sz)) 0 0 (va_A (wM ad K I J B D) sz) := by
  refine zMet (y := zy_LassoFinderModel_model) (av := [.ref (ad 0)]) (maxL := 2) (cc := prog_14_method_39_code) (ret := (some .int)) (W0 := (wM ad K I J B D)) (sz := sz) (G := G) (K := K) (wt := zTB) (mc := 0) (ms := 0) (Qf := fun A => va_Qi (fun (r : Int32) (u : zS) => Post r u.1 u.2.1 u.2.2.1 u.2.2.2) (fun u t => zPost G K A (wM ad K u.1 u.2.1 u.2.2.1 u.2.2.2) t) A) (by decide) (Nat.le_of_ble_eq_true rfl) ?_
  intro p e s m below meth c ls A hx hb hr hml hts hown hlocks hin hA hK H locs hw hsz hl
  clear hsz
  have hown : s.vm.findClass "LassoFinderModel" = some m.cls := hown
  have C : zCx p s m ([.ref (ad 0)] : List Value).toArray meth c A G K prog_14_method_39_code (some .int) 2 "LassoFinderModel" := ⟨hx, hb, hr, hml, hts, hown, hlocks, hA, hK⟩
  have hl : lv_has ls 2 [(0, .ref (ad 0))] := hl
  have hw : zW G A s.heap (wM ad K I J B D) H locs := hw
  unfold wp_LassoFinderModel_model at hok
  refine lv_aload_n hx hb zd_LassoFinderModel_model_0 rfl (lv_at hl 0 rfl) ?_
  refine lv_iconst (v := 0) hx hb zd_LassoFinderModel_model_1 (by decide) ?_
  refine z_put (v := .int 0) hx hb hts hown hK hw zZ12 0 wM_g0 61 (by decide) zm_329 rfl rfl rfl (Nat.le_of_ble_eq_true rfl) zd_LassoFinderModel_model_2 (fun H locs hw => ?_)
  have hw := wM_sI18 hw
  refine lv_aload_n hx hb zd_LassoFinderModel_model_5 rfl (lv_at hl 0 rfl) ?_
  refine lv_iconst (v := (-1)) hx hb zd_LassoFinderModel_model_6 (by decide) ?_
  refine z_put (v := .int (-1)) hx hb hts hown hK hw zZ12 0 wM_g0 78 (by decide) zm_330 rfl rfl rfl (Nat.le_of_ble_eq_true rfl) zd_LassoFinderModel_model_7 (fun H locs hw => ?_)
  have hw := wM_sI24 hw
  refine lv_aload_n hx hb zd_LassoFinderModel_model_10 rfl (lv_at hl 0 rfl) ?_
  refine lv_iconst (v := (-1)) hx hb zd_LassoFinderModel_model_11 (by decide) ?_
  refine z_put (v := .int (-1)) hx hb hts hown hK hw zZ12 0 wM_g0 82 (by decide) zm_331 rfl rfl rfl (Nat.le_of_ble_eq_true rfl) zd_LassoFinderModel_model_12 (fun H locs hw => ?_)
  have hw := wM_sI26 hw
  refine lv_aload_n hx hb zd_LassoFinderModel_model_15 rfl (lv_at hl 0 rfl) ?_
  refine lv_iconst (v := 0) hx hb zd_LassoFinderModel_model_16 (by decide) ?_
  refine z_put (v := .int 0) hx hb hts hown hK hw zZ12 0 wM_g0 6 (by decide) zm_299 rfl rfl rfl (Nat.le_of_ble_eq_true rfl) zd_LassoFinderModel_model_17 (fun H locs hw => ?_)
  have hw := wM_sI5 hw
  refine lv_aload_n hx hb zd_LassoFinderModel_model_20 rfl (lv_at hl 0 rfl) ?_
  refine z_calli (w1 := fun (u : zS) => wM ad K u.1 u.2.1 u.2.2.1 u.2.2.2) (wr := []) (z_runV (q0 := 0) (wc := (wM ad K (upd (upd (upd (upd I 18 0) 24 (-1)) 26 (-1)) 5 0) J B D)) (As := []) (rest := []) ⟨hx, hb, hml, hown, hts⟩ (w_LassoFinderModel_wholeModel l G K ad (upd (upd (upd (upd I 18 0) 24 (-1)) 26 (-1)) 5 0) J B D  _ H.size hok) zf_LassoFinderModel_wholeModel zm_295 ⟨Nat.le_of_ble_eq_true rfl, Nat.le_of_ble_eq_true rfl⟩ hK hw (List.range 58) wM_all wM_nd wM_g0 rfl rfl hl.1 rfl (Nat.le_of_ble_eq_true rfl) zd_LassoFinderModel_model_21 ⟨Nat.le_of_ble_eq_true rfl, Nat.le_of_ble_eq_true rfl⟩) hw hA (List.range 58) [] wM_all rfl (by decide) (fun i hi => by cases hi) (fun r7 u H locs hok hw => ?_)
  obtain ⟨I7, J7, B7, D7⟩ := u
  dsimp only at hok
  have hw : zW G A s.heap (wM ad K I7 J7 B7 D7) H locs := hw
  refine lv_istore_n hx hb zd_LassoFinderModel_model_24 rfl hl (by decide) rfl (fun ls hl => ?_)
  have hl : lv_has ls 2 [(1, .int r7), (0, .ref (ad 0))] := hl
  refine lv_aload_n hx hb zd_LassoFinderModel_model_25 rfl (lv_at hl 1 rfl) ?_
  refine lv_iload_n hx hb zd_LassoFinderModel_model_26 rfl (lv_at hl 0 rfl) ?_
  refine lv_if_eq (tgt := 34) hx hb zd_LassoFinderModel_model_27 (by decide) (fun hc8 => ?_) (fun hc8 => ?_)
  · have hok := hok.1 hc8
    refine lv_aload_n hx hb zd_LassoFinderModel_model_34 rfl (lv_at hl 1 rfl) ?_
    refine z_get (v := .int (I7 3)) hx hb hts hown hK hw zZ12 0 wM_g0 4 (by decide) zm_301 rfl zd_LassoFinderModel_model_35 ?_
    exact wJ_LassoFinderModel_model_38 G K ad  Post C r7 (I7 3) I7 J7 B7 D7 ls H locs hok (lv_sub hl [1, 0] rfl) hw
  · have hok := hok.2 hc8
    refine lv_iconst (v := (-1)) hx hb zd_LassoFinderModel_model_30 (by decide) ?_
    refine lv_goto (tgt := 38) hx hb zd_LassoFinderModel_model_31 (by decide) ?_
    exact wJ_LassoFinderModel_model_38 G K ad  Post C r7 (-1) I7 J7 B7 D7 ls H locs hok (lv_sub hl [1, 0] rfl) hw
