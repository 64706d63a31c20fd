abbrev zy_LassoFinderModel_worth : MethodName := ⟨"LassoFinderModel", "worth", "(II)I"⟩
abbrev zy_LassoFinderModel_act : MethodName := ⟨"LassoFinderModel", "act", "(II)V"⟩
abbrev zy_LassoFinderModel_goesOn : MethodName := ⟨"LassoFinderModel", "goesOn", "(II)Z"⟩
theorem zm_236 : Cond.fieldLink "LassoFinderModel" 17 "LassoFinderModel" "var" "[I" ∈ zTB := z_in (zt_6 _ (List.mem_of_getElem? (i := 103) rfl)) rfl
theorem zm_237 : Cond.fieldLink "LassoFinderModel" 20 "LassoFinderModel" "chan" "[I" ∈ zTB := z_in (zt_6 _ (List.mem_of_getElem? (i := 104) rfl)) rfl
theorem zm_245 : Cond.fieldLink "LassoFinderModel" 45 "LassoFinderModel" "atomic" "[I" ∈ zTB := z_in (zt_6 _ (List.mem_of_getElem? (i := 113) rfl)) rfl
theorem zm_248 : Cond.fieldLink "LassoFinderModel" 54 "LassoFinderModel" "into" "[I" ∈ zTB := z_in (zt_6 _ (List.mem_of_getElem? (i := 116) rfl)) rfl
theorem zm_249 : Cond.fieldLink "LassoFinderModel" 57 "LassoFinderModel" "begin" "[I" ∈ zTB := z_in (zt_6 _ (List.mem_of_getElem? (i := 117) rfl)) rfl
theorem zm_250 : Cond.fieldLink "LassoFinderModel" 60 "LassoFinderModel" "end" "[I" ∈ zTB := z_in (zt_6 _ (List.mem_of_getElem? (i := 118) rfl)) rfl
theorem zm_258 : Cond.fieldLink "LassoFinderModel" 84 "LassoFinderModel" "nodeAt" "[I" ∈ zTB := z_in (zt_6 _ (List.mem_of_getElem? (i := 128) rfl)) rfl
theorem zm_260 : Cond.fieldLink "LassoFinderModel" 91 "LassoFinderModel" "code" "[I" ∈ zTB := z_in (zt_6 _ (List.mem_of_getElem? (i := 131) rfl)) rfl
theorem zm_277 : Cond.fieldLink "LassoFinderModel" 142 "LassoFinderModel" "stack" "[I" ∈ zTB := z_in (zt_6 _ (List.mem_of_getElem? (i := 154) rfl)) rfl
theorem zm_324 : Cond.methodLink "LassoFinderModel" 314 ⟨"LassoFinderModel", "worth", "(II)I"⟩ ∈ zTB := z_in (zt_8 _ (List.mem_of_getElem? (i := 0) rfl)) rfl
theorem zm_325 : Cond.methodLink "LassoFinderModel" 324 ⟨"LassoFinderModel", "goesOn", "(II)Z"⟩ ∈ zTB := z_in (zt_8 _ (List.mem_of_getElem? (i := 16) rfl)) rfl
theorem zm_390 : Cond.code ⟨"LassoFinderModel", "goesOn", "(II)Z"⟩ prog_14_method_34_code 3 (some .boolean) ∈ zTB := z_in (zt_8 _ (List.mem_of_getElem? (i := 19) rfl)) rfl
theorem zm_391 : Cond.instanceMethod ⟨"LassoFinderModel", "goesOn", "(II)Z"⟩ ∈ zTB := z_in (zt_8 _ (List.mem_of_getElem? (i := 18) rfl)) rfl
theorem zm_392 : Cond.code ⟨"LassoFinderModel", "worth", "(II)I"⟩ prog_14_method_13_code 8 (some .int) ∈ zTB := z_in (zt_8 _ (List.mem_of_getElem? (i := 3) rfl)) rfl
theorem zm_393 : Cond.instanceMethod ⟨"LassoFinderModel", "worth", "(II)I"⟩ ∈ zTB := z_in (zt_8 _ (List.mem_of_getElem? (i := 2) rfl)) rfl
theorem zf_LassoFinderModel_goesOn : zFaceV zy_LassoFinderModel_goesOn prog_14_method_34_code 3 (some .boolean) 2 := ⟨zm_391, (z_in (zp_7 _ (List.mem_of_getElem? (i := 8) rfl)) rfl), zm_25, zm_390, by decide +kernel, by decide +kernel, by decide +kernel⟩
theorem zf_LassoFinderModel_worth : zFaceV zy_LassoFinderModel_worth prog_14_method_13_code 8 (some .int) 2 := ⟨zm_393, (z_in (zp_7 _ (List.mem_of_getElem? (i := 4) rfl)) rfl), zm_25, zm_392, by decide +kernel, by decide +kernel, by decide +kernel⟩
theorem zd_LassoFinderModel_act_0 : decode prog_14_method_35_code 0 = .ok (.aload_n 0, 1) := by decide +kernel
theorem zd_LassoFinderModel_act_1 : decode prog_14_method_35_code 1 = .ok (.getfield 69, 3) := by decide +kernel
theorem zd_LassoFinderModel_act_4 : decode prog_14_method_35_code 4 = .ok (.iload_n 1, 1) := by decide +kernel
theorem zd_LassoFinderModel_act_5 : decode prog_14_method_35_code 5 = .ok (.iaload, 1) := by decide +kernel
theorem zd_LassoFinderModel_act_6 : decode prog_14_method_35_code 6 = .ok (.istore_n 3, 1) := by decide +kernel
theorem zd_LassoFinderModel_act_7 : decode prog_14_method_35_code 7 = .ok (.aload_n 0, 1) := by decide +kernel
theorem zd_LassoFinderModel_act_8 : decode prog_14_method_35_code 8 = .ok (.getfield 32, 3) := by decide +kernel
theorem zd_LassoFinderModel_act_11 : decode prog_14_method_35_code 11 = .ok (.iload_n 3, 1) := by decide +kernel
theorem zd_LassoFinderModel_act_12 : decode prog_14_method_35_code 12 = .ok (.iaload, 1) := by decide +kernel
theorem zd_LassoFinderModel_act_13 : decode prog_14_method_35_code 13 = .ok (.istore 4, 2) := by decide +kernel
theorem zd_LassoFinderModel_act_15 : decode prog_14_method_35_code 15 = .ok (.aload_n 0, 1) := by decide +kernel
theorem zd_LassoFinderModel_act_16 : decode prog_14_method_35_code 16 = .ok (.getfield 51, 3) := by decide +kernel
theorem zd_LassoFinderModel_act_19 : decode prog_14_method_35_code 19 = .ok (.iload_n 3, 1) := by decide +kernel
theorem zd_LassoFinderModel_act_20 : decode prog_14_method_35_code 20 = .ok (.iaload, 1) := by decide +kernel
theorem zd_LassoFinderModel_act_21 : decode prog_14_method_35_code 21 = .ok (.istore 5, 2) := by decide +kernel
theorem zd_LassoFinderModel_act_23 : decode prog_14_method_35_code 23 = .ok (.aload_n 0, 1) := by decide +kernel
theorem zd_LassoFinderModel_act_24 : decode prog_14_method_35_code 24 = .ok (.getfield 57, 3) := by decide +kernel
theorem zd_LassoFinderModel_act_27 : decode prog_14_method_35_code 27 = .ok (.iload_n 3, 1) := by decide +kernel
theorem zd_LassoFinderModel_act_28 : decode prog_14_method_35_code 28 = .ok (.iaload, 1) := by decide +kernel
theorem zd_LassoFinderModel_act_29 : decode prog_14_method_35_code 29 = .ok (.aload_n 0, 1) := by decide +kernel
theorem zd_LassoFinderModel_act_30 : decode prog_14_method_35_code 30 = .ok (.getfield 60, 3) := by decide +kernel
theorem zd_LassoFinderModel_act_33 : decode prog_14_method_35_code 33 = .ok (.iload_n 3, 1) := by decide +kernel
theorem zd_LassoFinderModel_act_34 : decode prog_14_method_35_code 34 = .ok (.iaload, 1) := by decide +kernel
theorem zd_LassoFinderModel_act_35 : decode prog_14_method_35_code 35 = .ok (.if_icmp .ge 22, 3) := by decide +kernel
theorem zd_LassoFinderModel_act_38 : decode prog_14_method_35_code 38 = .ok (.aload_n 0, 1) := by decide +kernel
theorem zd_LassoFinderModel_act_39 : decode prog_14_method_35_code 39 = .ok (.aload_n 0, 1) := by decide +kernel
theorem zd_LassoFinderModel_act_40 : decode prog_14_method_35_code 40 = .ok (.getfield 57, 3) := by decide +kernel
theorem zd_LassoFinderModel_act_43 : decode prog_14_method_35_code 43 = .ok (.iload_n 3, 1) := by decide +kernel
theorem zd_LassoFinderModel_act_44 : decode prog_14_method_35_code 44 = .ok (.iaload, 1) := by decide +kernel
theorem zd_LassoFinderModel_act_45 : decode prog_14_method_35_code 45 = .ok (.aload_n 0, 1) := by decide +kernel
theorem zd_LassoFinderModel_act_46 : decode prog_14_method_35_code 46 = .ok (.getfield 60, 3) := by decide +kernel
theorem zd_LassoFinderModel_act_49 : decode prog_14_method_35_code 49 = .ok (.iload_n 3, 1) := by decide +kernel
theorem zd_LassoFinderModel_act_50 : decode prog_14_method_35_code 50 = .ok (.iaload, 1) := by decide +kernel
theorem zd_LassoFinderModel_act_51 : decode prog_14_method_35_code 51 = .ok (.invokevirtual 314, 3) := by decide +kernel
theorem zd_LassoFinderModel_act_54 : decode prog_14_method_35_code 54 = .ok (.goto 4, 3) := by decide +kernel
theorem zd_LassoFinderModel_act_57 : decode prog_14_method_35_code 57 = .ok (.iconst 0, 1) := by decide +kernel
theorem zd_LassoFinderModel_act_58 : decode prog_14_method_35_code 58 = .ok (.istore 6, 2) := by decide +kernel
theorem zd_LassoFinderModel_act_60 : decode prog_14_method_35_code 60 = .ok (.aload_n 0, 1) := by decide +kernel
theorem zd_LassoFinderModel_act_61 : decode prog_14_method_35_code 61 = .ok (.getfield 29, 3) := by decide +kernel
theorem zd_LassoFinderModel_act_64 : decode prog_14_method_35_code 64 = .ok (.iload_n 3, 1) := by decide +kernel
theorem zd_LassoFinderModel_act_65 : decode prog_14_method_35_code 65 = .ok (.iaload, 1) := by decide +kernel
theorem zd_LassoFinderModel_act_66 : decode prog_14_method_35_code 66 = .ok (.ifCond .ne 15, 3) := by decide +kernel
theorem zd_LassoFinderModel_act_69 : decode prog_14_method_35_code 69 = .ok (.aload_n 0, 1) := by decide +kernel
theorem zd_LassoFinderModel_act_70 : decode prog_14_method_35_code 70 = .ok (.getfield 130, 3) := by decide +kernel
theorem zd_LassoFinderModel_act_73 : decode prog_14_method_35_code 73 = .ok (.iload 5, 2) := by decide +kernel
theorem zd_LassoFinderModel_act_75 : decode prog_14_method_35_code 75 = .ok (.iload 6, 2) := by decide +kernel
theorem zd_LassoFinderModel_act_77 : decode prog_14_method_35_code 77 = .ok (.iastore, 1) := by decide +kernel
theorem zd_LassoFinderModel_act_78 : decode prog_14_method_35_code 78 = .ok (.goto 163, 3) := by decide +kernel
theorem zd_LassoFinderModel_act_81 : decode prog_14_method_35_code 81 = .ok (.aload_n 0, 1) := by decide +kernel
theorem zd_LassoFinderModel_act_82 : decode prog_14_method_35_code 82 = .ok (.getfield 29, 3) := by decide +kernel
theorem zd_LassoFinderModel_act_85 : decode prog_14_method_35_code 85 = .ok (.iload_n 3, 1) := by decide +kernel
theorem zd_LassoFinderModel_act_86 : decode prog_14_method_35_code 86 = .ok (.iaload, 1) := by decide +kernel
theorem zd_LassoFinderModel_act_87 : decode prog_14_method_35_code 87 = .ok (.iconst 2, 1) := by decide +kernel
theorem zd_LassoFinderModel_act_88 : decode prog_14_method_35_code 88 = .ok (.if_icmp .ne 28, 3) := by decide +kernel
theorem zd_LassoFinderModel_act_91 : decode prog_14_method_35_code 91 = .ok (.iload_n 2, 1) := by decide +kernel
theorem zd_LassoFinderModel_act_92 : decode prog_14_method_35_code 92 = .ok (.ifCond .lt 24, 3) := by decide +kernel
theorem zd_LassoFinderModel_act_95 : decode prog_14_method_35_code 95 = .ok (.aload_n 0, 1) := by decide +kernel
theorem zd_LassoFinderModel_act_96 : decode prog_14_method_35_code 96 = .ok (.getfield 130, 3) := by decide +kernel
theorem zd_LassoFinderModel_act_99 : decode prog_14_method_35_code 99 = .ok (.aload_n 0, 1) := by decide +kernel
theorem zd_LassoFinderModel_act_100 : decode prog_14_method_35_code 100 = .ok (.getfield 54, 3) := by decide +kernel
theorem zd_LassoFinderModel_act_103 : decode prog_14_method_35_code 103 = .ok (.aload_n 0, 1) := by decide +kernel
theorem zd_LassoFinderModel_act_104 : decode prog_14_method_35_code 104 = .ok (.getfield 69, 3) := by decide +kernel
theorem zd_LassoFinderModel_act_107 : decode prog_14_method_35_code 107 = .ok (.iload_n 2, 1) := by decide +kernel
theorem zd_LassoFinderModel_act_108 : decode prog_14_method_35_code 108 = .ok (.iaload, 1) := by decide +kernel
theorem zd_LassoFinderModel_act_109 : decode prog_14_method_35_code 109 = .ok (.iaload, 1) := by decide +kernel
theorem zd_LassoFinderModel_act_110 : decode prog_14_method_35_code 110 = .ok (.iload 6, 2) := by decide +kernel
theorem zd_LassoFinderModel_act_112 : decode prog_14_method_35_code 112 = .ok (.iastore, 1) := by decide +kernel
theorem zd_LassoFinderModel_act_113 : decode prog_14_method_35_code 113 = .ok (.goto 128, 3) := by decide +kernel
theorem zd_LassoFinderModel_act_116 : decode prog_14_method_35_code 116 = .ok (.aload_n 0, 1) := by decide +kernel
theorem zd_LassoFinderModel_act_117 : decode prog_14_method_35_code 117 = .ok (.getfield 29, 3) := by decide +kernel
theorem zd_LassoFinderModel_act_120 : decode prog_14_method_35_code 120 = .ok (.iload_n 3, 1) := by decide +kernel
theorem zd_LassoFinderModel_act_121 : decode prog_14_method_35_code 121 = .ok (.iaload, 1) := by decide +kernel
theorem zd_LassoFinderModel_act_122 : decode prog_14_method_35_code 122 = .ok (.iconst 2, 1) := by decide +kernel
theorem zd_LassoFinderModel_act_123 : decode prog_14_method_35_code 123 = .ok (.if_icmp .ne 36, 3) := by decide +kernel
theorem zd_LassoFinderModel_act_126 : decode prog_14_method_35_code 126 = .ok (.aload_n 0, 1) := by decide +kernel
theorem zd_LassoFinderModel_act_127 : decode prog_14_method_35_code 127 = .ok (.getfield 136, 3) := by decide +kernel
theorem zd_LassoFinderModel_act_130 : decode prog_14_method_35_code 130 = .ok (.iconst 3, 1) := by decide +kernel
theorem zd_LassoFinderModel_act_131 : decode prog_14_method_35_code 131 = .ok (.iload 5, 2) := by decide +kernel
theorem zd_LassoFinderModel_act_133 : decode prog_14_method_35_code 133 = .ok (.imul, 1) := by decide +kernel
theorem zd_LassoFinderModel_act_134 : decode prog_14_method_35_code 134 = .ok (.aload_n 0, 1) := by decide +kernel
theorem zd_LassoFinderModel_act_135 : decode prog_14_method_35_code 135 = .ok (.getfield 133, 3) := by decide +kernel
theorem zd_LassoFinderModel_act_138 : decode prog_14_method_35_code 138 = .ok (.iload 5, 2) := by decide +kernel
theorem zd_LassoFinderModel_act_140 : decode prog_14_method_35_code 140 = .ok (.iaload, 1) := by decide +kernel
theorem zd_LassoFinderModel_act_141 : decode prog_14_method_35_code 141 = .ok (.iadd, 1) := by decide +kernel
theorem zd_LassoFinderModel_act_142 : decode prog_14_method_35_code 142 = .ok (.iload 6, 2) := by decide +kernel
theorem zd_LassoFinderModel_act_144 : decode prog_14_method_35_code 144 = .ok (.iastore, 1) := by decide +kernel
theorem zd_LassoFinderModel_act_145 : decode prog_14_method_35_code 145 = .ok (.aload_n 0, 1) := by decide +kernel
theorem zd_LassoFinderModel_act_146 : decode prog_14_method_35_code 146 = .ok (.getfield 133, 3) := by decide +kernel
theorem zd_LassoFinderModel_act_149 : decode prog_14_method_35_code 149 = .ok (.iload 5, 2) := by decide +kernel
theorem zd_LassoFinderModel_act_151 : decode prog_14_method_35_code 151 = .ok (.dup2, 1) := by decide +kernel
theorem zd_LassoFinderModel_act_152 : decode prog_14_method_35_code 152 = .ok (.iaload, 1) := by decide +kernel
theorem zd_LassoFinderModel_act_153 : decode prog_14_method_35_code 153 = .ok (.iconst 1, 1) := by decide +kernel
theorem zd_LassoFinderModel_act_154 : decode prog_14_method_35_code 154 = .ok (.iadd, 1) := by decide +kernel
theorem zd_LassoFinderModel_act_155 : decode prog_14_method_35_code 155 = .ok (.iastore, 1) := by decide +kernel
theorem zd_LassoFinderModel_act_156 : decode prog_14_method_35_code 156 = .ok (.goto 85, 3) := by decide +kernel
theorem zd_LassoFinderModel_act_159 : decode prog_14_method_35_code 159 = .ok (.aload_n 0, 1) := by decide +kernel
theorem zd_LassoFinderModel_act_160 : decode prog_14_method_35_code 160 = .ok (.getfield 29, 3) := by decide +kernel
theorem zd_LassoFinderModel_act_163 : decode prog_14_method_35_code 163 = .ok (.iload_n 3, 1) := by decide +kernel
theorem zd_LassoFinderModel_act_164 : decode prog_14_method_35_code 164 = .ok (.iaload, 1) := by decide +kernel
theorem zd_LassoFinderModel_act_165 : decode prog_14_method_35_code 165 = .ok (.iconst 3, 1) := by decide +kernel
theorem zd_LassoFinderModel_act_166 : decode prog_14_method_35_code 166 = .ok (.if_icmp .ne 75, 3) := by decide +kernel
theorem zd_LassoFinderModel_act_169 : decode prog_14_method_35_code 169 = .ok (.aload_n 0, 1) := by decide +kernel
theorem zd_LassoFinderModel_act_170 : decode prog_14_method_35_code 170 = .ok (.getfield 130, 3) := by decide +kernel
theorem zd_LassoFinderModel_act_173 : decode prog_14_method_35_code 173 = .ok (.aload_n 0, 1) := by decide +kernel
theorem zd_LassoFinderModel_act_174 : decode prog_14_method_35_code 174 = .ok (.getfield 54, 3) := by decide +kernel
theorem zd_LassoFinderModel_act_177 : decode prog_14_method_35_code 177 = .ok (.iload_n 3, 1) := by decide +kernel
theorem zd_LassoFinderModel_act_178 : decode prog_14_method_35_code 178 = .ok (.iaload, 1) := by decide +kernel
theorem zd_LassoFinderModel_act_179 : decode prog_14_method_35_code 179 = .ok (.aload_n 0, 1) := by decide +kernel
theorem zd_LassoFinderModel_act_180 : decode prog_14_method_35_code 180 = .ok (.getfield 136, 3) := by decide +kernel
theorem zd_LassoFinderModel_act_183 : decode prog_14_method_35_code 183 = .ok (.iconst 3, 1) := by decide +kernel
theorem zd_LassoFinderModel_act_184 : decode prog_14_method_35_code 184 = .ok (.iload 5, 2) := by decide +kernel
theorem zd_LassoFinderModel_act_186 : decode prog_14_method_35_code 186 = .ok (.imul, 1) := by decide +kernel
theorem zd_LassoFinderModel_act_187 : decode prog_14_method_35_code 187 = .ok (.iaload, 1) := by decide +kernel
theorem zd_LassoFinderModel_act_188 : decode prog_14_method_35_code 188 = .ok (.iastore, 1) := by decide +kernel
theorem zd_LassoFinderModel_act_189 : decode prog_14_method_35_code 189 = .ok (.iconst 1, 1) := by decide +kernel
theorem zd_LassoFinderModel_act_190 : decode prog_14_method_35_code 190 = .ok (.istore 7, 2) := by decide +kernel
theorem zd_LassoFinderModel_act_192 : decode prog_14_method_35_code 192 = .ok (.iload 7, 2) := by decide +kernel
theorem zd_LassoFinderModel_act_194 : decode prog_14_method_35_code 194 = .ok (.iconst 3, 1) := by decide +kernel
theorem zd_LassoFinderModel_act_195 : decode prog_14_method_35_code 195 = .ok (.if_icmp .ge 35, 3) := by decide +kernel
theorem zd_LassoFinderModel_act_198 : decode prog_14_method_35_code 198 = .ok (.aload_n 0, 1) := by decide +kernel
theorem zd_LassoFinderModel_act_199 : decode prog_14_method_35_code 199 = .ok (.getfield 136, 3) := by decide +kernel
theorem zd_LassoFinderModel_act_202 : decode prog_14_method_35_code 202 = .ok (.iconst 3, 1) := by decide +kernel
theorem zd_LassoFinderModel_act_203 : decode prog_14_method_35_code 203 = .ok (.iload 5, 2) := by decide +kernel
theorem zd_LassoFinderModel_act_205 : decode prog_14_method_35_code 205 = .ok (.imul, 1) := by decide +kernel
theorem zd_LassoFinderModel_act_206 : decode prog_14_method_35_code 206 = .ok (.iload 7, 2) := by decide +kernel
theorem zd_LassoFinderModel_act_208 : decode prog_14_method_35_code 208 = .ok (.iadd, 1) := by decide +kernel
theorem zd_LassoFinderModel_act_209 : decode prog_14_method_35_code 209 = .ok (.iconst 1, 1) := by decide +kernel
theorem zd_LassoFinderModel_act_210 : decode prog_14_method_35_code 210 = .ok (.isub, 1) := by decide +kernel
theorem zd_LassoFinderModel_act_211 : decode prog_14_method_35_code 211 = .ok (.aload_n 0, 1) := by decide +kernel
theorem zd_LassoFinderModel_act_212 : decode prog_14_method_35_code 212 = .ok (.getfield 136, 3) := by decide +kernel
theorem zd_LassoFinderModel_act_215 : decode prog_14_method_35_code 215 = .ok (.iconst 3, 1) := by decide +kernel
theorem zd_LassoFinderModel_act_216 : decode prog_14_method_35_code 216 = .ok (.iload 5, 2) := by decide +kernel
theorem zd_LassoFinderModel_act_218 : decode prog_14_method_35_code 218 = .ok (.imul, 1) := by decide +kernel
theorem zd_LassoFinderModel_act_219 : decode prog_14_method_35_code 219 = .ok (.iload 7, 2) := by decide +kernel
theorem zd_LassoFinderModel_act_221 : decode prog_14_method_35_code 221 = .ok (.iadd, 1) := by decide +kernel
theorem zd_LassoFinderModel_act_222 : decode prog_14_method_35_code 222 = .ok (.iaload, 1) := by decide +kernel
theorem zd_LassoFinderModel_act_223 : decode prog_14_method_35_code 223 = .ok (.iastore, 1) := by decide +kernel
theorem zd_LassoFinderModel_act_224 : decode prog_14_method_35_code 224 = .ok (.iinc 7 1, 3) := by decide +kernel
theorem zd_LassoFinderModel_act_227 : decode prog_14_method_35_code 227 = .ok (.goto (-35), 3) := by decide +kernel
theorem zd_LassoFinderModel_act_230 : decode prog_14_method_35_code 230 = .ok (.aload_n 0, 1) := by decide +kernel
theorem zd_LassoFinderModel_act_231 : decode prog_14_method_35_code 231 = .ok (.getfield 133, 3) := by decide +kernel
theorem zd_LassoFinderModel_act_234 : decode prog_14_method_35_code 234 = .ok (.iload 5, 2) := by decide +kernel
theorem zd_LassoFinderModel_act_236 : decode prog_14_method_35_code 236 = .ok (.dup2, 1) := by decide +kernel
theorem zd_LassoFinderModel_act_237 : decode prog_14_method_35_code 237 = .ok (.iaload, 1) := by decide +kernel
theorem zd_LassoFinderModel_act_238 : decode prog_14_method_35_code 238 = .ok (.iconst 1, 1) := by decide +kernel
theorem zd_LassoFinderModel_act_239 : decode prog_14_method_35_code 239 = .ok (.isub, 1) := by decide +kernel
theorem zd_LassoFinderModel_act_240 : decode prog_14_method_35_code 240 = .ok (.iastore, 1) := by decide +kernel
theorem zd_LassoFinderModel_act_241 : decode prog_14_method_35_code 241 = .ok (.aload_n 0, 1) := by decide +kernel
theorem zd_LassoFinderModel_act_242 : decode prog_14_method_35_code 242 = .ok (.aload_n 0, 1) := by decide +kernel
theorem zd_LassoFinderModel_act_243 : decode prog_14_method_35_code 243 = .ok (.iload 4, 2) := by decide +kernel
theorem zd_LassoFinderModel_act_245 : decode prog_14_method_35_code 245 = .ok (.iload_n 3, 1) := by decide +kernel
theorem zd_LassoFinderModel_act_246 : decode prog_14_method_35_code 246 = .ok (.invokevirtual 324, 3) := by decide +kernel
theorem zd_LassoFinderModel_act_249 : decode prog_14_method_35_code 249 = .ok (.ifCond .eq 8, 3) := by decide +kernel
theorem zd_LassoFinderModel_act_252 : decode prog_14_method_35_code 252 = .ok (.iload 4, 2) := by decide +kernel
theorem zd_LassoFinderModel_act_254 : decode prog_14_method_35_code 254 = .ok (.goto 4, 3) := by decide +kernel
theorem zd_LassoFinderModel_act_257 : decode prog_14_method_35_code 257 = .ok (.iconst (-1), 1) := by decide +kernel
theorem zd_LassoFinderModel_act_258 : decode prog_14_method_35_code 258 = .ok (.putfield 301, 3) := by decide +kernel
theorem zd_LassoFinderModel_act_261 : decode prog_14_method_35_code 261 = .ok (.iload_n 2, 1) := by decide +kernel
theorem zd_LassoFinderModel_act_262 : decode prog_14_method_35_code 262 = .ok (.ifCond .lt 48, 3) := by decide +kernel
theorem zd_LassoFinderModel_act_265 : decode prog_14_method_35_code 265 = .ok (.aload_n 0, 1) := by decide +kernel
theorem zd_LassoFinderModel_act_266 : decode prog_14_method_35_code 266 = .ok (.getfield 32, 3) := by decide +kernel
theorem zd_LassoFinderModel_act_269 : decode prog_14_method_35_code 269 = .ok (.aload_n 0, 1) := by decide +kernel
theorem zd_LassoFinderModel_act_270 : decode prog_14_method_35_code 270 = .ok (.getfield 69, 3) := by decide +kernel
theorem zd_LassoFinderModel_act_273 : decode prog_14_method_35_code 273 = .ok (.iload_n 2, 1) := by decide +kernel
theorem zd_LassoFinderModel_act_274 : decode prog_14_method_35_code 274 = .ok (.iaload, 1) := by decide +kernel
theorem zd_LassoFinderModel_act_275 : decode prog_14_method_35_code 275 = .ok (.iaload, 1) := by decide +kernel
theorem zd_LassoFinderModel_act_276 : decode prog_14_method_35_code 276 = .ok (.istore 7, 2) := by decide +kernel
theorem zd_LassoFinderModel_act_278 : decode prog_14_method_35_code 278 = .ok (.aload_n 0, 1) := by decide +kernel
theorem zd_LassoFinderModel_act_279 : decode prog_14_method_35_code 279 = .ok (.iload 7, 2) := by decide +kernel
theorem zd_LassoFinderModel_act_281 : decode prog_14_method_35_code 281 = .ok (.aload_n 0, 1) := by decide +kernel
theorem zd_LassoFinderModel_act_282 : decode prog_14_method_35_code 282 = .ok (.getfield 69, 3) := by decide +kernel
theorem zd_LassoFinderModel_act_285 : decode prog_14_method_35_code 285 = .ok (.iload_n 2, 1) := by decide +kernel
theorem zd_LassoFinderModel_act_286 : decode prog_14_method_35_code 286 = .ok (.iaload, 1) := by decide +kernel
theorem zd_LassoFinderModel_act_287 : decode prog_14_method_35_code 287 = .ok (.invokevirtual 324, 3) := by decide +kernel
theorem zd_LassoFinderModel_act_290 : decode prog_14_method_35_code 290 = .ok (.istore 8, 2) := by decide +kernel
theorem zd_LassoFinderModel_act_292 : decode prog_14_method_35_code 292 = .ok (.aload_n 0, 1) := by decide +kernel
theorem zd_LassoFinderModel_act_293 : decode prog_14_method_35_code 293 = .ok (.iload 8, 2) := by decide +kernel
theorem zd_LassoFinderModel_act_295 : decode prog_14_method_35_code 295 = .ok (.ifCond .eq 8, 3) := by decide +kernel
theorem zd_LassoFinderModel_act_298 : decode prog_14_method_35_code 298 = .ok (.iload 7, 2) := by decide +kernel
theorem zd_LassoFinderModel_act_300 : decode prog_14_method_35_code 300 = .ok (.goto 7, 3) := by decide +kernel
theorem zd_LassoFinderModel_act_303 : decode prog_14_method_35_code 303 = .ok (.aload_n 0, 1) := by decide +kernel
theorem zd_LassoFinderModel_act_304 : decode prog_14_method_35_code 304 = .ok (.getfield 301, 3) := by decide +kernel
theorem zd_LassoFinderModel_act_307 : decode prog_14_method_35_code 307 = .ok (.putfield 301, 3) := by decide +kernel
theorem zd_LassoFinderModel_act_310 : decode prog_14_method_35_code 310 = .ok (.return_, 1) := by decide +kernel
theorem zd_LassoFinderModel_goesOn_0 : decode prog_14_method_34_code 0 = .ok (.aload_n 0, 1) := by decide +kernel
theorem zd_LassoFinderModel_goesOn_1 : decode prog_14_method_34_code 1 = .ok (.getfield 139, 3) := by decide +kernel
theorem zd_LassoFinderModel_goesOn_4 : decode prog_14_method_34_code 4 = .ok (.iload_n 1, 1) := by decide +kernel
theorem zd_LassoFinderModel_goesOn_5 : decode prog_14_method_34_code 5 = .ok (.aload_n 0, 1) := by decide +kernel
theorem zd_LassoFinderModel_goesOn_6 : decode prog_14_method_34_code 6 = .ok (.getfield 66, 3) := by decide +kernel
theorem zd_LassoFinderModel_goesOn_9 : decode prog_14_method_34_code 9 = .ok (.iload_n 2, 1) := by decide +kernel
theorem zd_LassoFinderModel_goesOn_10 : decode prog_14_method_34_code 10 = .ok (.iaload, 1) := by decide +kernel
theorem zd_LassoFinderModel_goesOn_11 : decode prog_14_method_34_code 11 = .ok (.iastore, 1) := by decide +kernel
theorem zd_LassoFinderModel_goesOn_12 : decode prog_14_method_34_code 12 = .ok (.aload_n 0, 1) := by decide +kernel
theorem zd_LassoFinderModel_goesOn_13 : decode prog_14_method_34_code 13 = .ok (.getfield 45, 3) := by decide +kernel
theorem zd_LassoFinderModel_goesOn_16 : decode prog_14_method_34_code 16 = .ok (.iload_n 2, 1) := by decide +kernel
theorem zd_LassoFinderModel_goesOn_17 : decode prog_14_method_34_code 17 = .ok (.iaload, 1) := by decide +kernel
theorem zd_LassoFinderModel_goesOn_18 : decode prog_14_method_34_code 18 = .ok (.ifCond .lt 52, 3) := by decide +kernel
theorem zd_LassoFinderModel_goesOn_21 : decode prog_14_method_34_code 21 = .ok (.aload_n 0, 1) := by decide +kernel
theorem zd_LassoFinderModel_goesOn_22 : decode prog_14_method_34_code 22 = .ok (.getfield 139, 3) := by decide +kernel
theorem zd_LassoFinderModel_goesOn_25 : decode prog_14_method_34_code 25 = .ok (.iload_n 1, 1) := by decide +kernel
theorem zd_LassoFinderModel_goesOn_26 : decode prog_14_method_34_code 26 = .ok (.iaload, 1) := by decide +kernel
theorem zd_LassoFinderModel_goesOn_27 : decode prog_14_method_34_code 27 = .ok (.aload_n 0, 1) := by decide +kernel
theorem zd_LassoFinderModel_goesOn_28 : decode prog_14_method_34_code 28 = .ok (.getfield 75, 3) := by decide +kernel
theorem zd_LassoFinderModel_goesOn_31 : decode prog_14_method_34_code 31 = .ok (.iload_n 1, 1) := by decide +kernel
theorem zd_LassoFinderModel_goesOn_32 : decode prog_14_method_34_code 32 = .ok (.iaload, 1) := by decide +kernel
theorem zd_LassoFinderModel_goesOn_33 : decode prog_14_method_34_code 33 = .ok (.if_icmp .ge 37, 3) := by decide +kernel
theorem zd_LassoFinderModel_goesOn_36 : decode prog_14_method_34_code 36 = .ok (.aload_n 0, 1) := by decide +kernel
theorem zd_LassoFinderModel_goesOn_37 : decode prog_14_method_34_code 37 = .ok (.getfield 45, 3) := by decide +kernel
theorem zd_LassoFinderModel_goesOn_40 : decode prog_14_method_34_code 40 = .ok (.aload_n 0, 1) := by decide +kernel
theorem zd_LassoFinderModel_goesOn_41 : decode prog_14_method_34_code 41 = .ok (.getfield 84, 3) := by decide +kernel
theorem zd_LassoFinderModel_goesOn_44 : decode prog_14_method_34_code 44 = .ok (.bipush 31, 2) := by decide +kernel
theorem zd_LassoFinderModel_goesOn_46 : decode prog_14_method_34_code 46 = .ok (.iload_n 1, 1) := by decide +kernel
theorem zd_LassoFinderModel_goesOn_47 : decode prog_14_method_34_code 47 = .ok (.imul, 1) := by decide +kernel
theorem zd_LassoFinderModel_goesOn_48 : decode prog_14_method_34_code 48 = .ok (.aload_n 0, 1) := by decide +kernel
theorem zd_LassoFinderModel_goesOn_49 : decode prog_14_method_34_code 49 = .ok (.getfield 139, 3) := by decide +kernel
theorem zd_LassoFinderModel_goesOn_52 : decode prog_14_method_34_code 52 = .ok (.iload_n 1, 1) := by decide +kernel
theorem zd_LassoFinderModel_goesOn_53 : decode prog_14_method_34_code 53 = .ok (.iaload, 1) := by decide +kernel
theorem zd_LassoFinderModel_goesOn_54 : decode prog_14_method_34_code 54 = .ok (.iadd, 1) := by decide +kernel
theorem zd_LassoFinderModel_goesOn_55 : decode prog_14_method_34_code 55 = .ok (.iaload, 1) := by decide +kernel
theorem zd_LassoFinderModel_goesOn_56 : decode prog_14_method_34_code 56 = .ok (.iaload, 1) := by decide +kernel
theorem zd_LassoFinderModel_goesOn_57 : decode prog_14_method_34_code 57 = .ok (.aload_n 0, 1) := by decide +kernel
theorem zd_LassoFinderModel_goesOn_58 : decode prog_14_method_34_code 58 = .ok (.getfield 45, 3) := by decide +kernel
theorem zd_LassoFinderModel_goesOn_61 : decode prog_14_method_34_code 61 = .ok (.iload_n 2, 1) := by decide +kernel
theorem zd_LassoFinderModel_goesOn_62 : decode prog_14_method_34_code 62 = .ok (.iaload, 1) := by decide +kernel
theorem zd_LassoFinderModel_goesOn_63 : decode prog_14_method_34_code 63 = .ok (.if_icmp .ne 7, 3) := by decide +kernel
theorem zd_LassoFinderModel_goesOn_66 : decode prog_14_method_34_code 66 = .ok (.iconst 1, 1) := by decide +kernel
theorem zd_LassoFinderModel_goesOn_67 : decode prog_14_method_34_code 67 = .ok (.goto 4, 3) := by decide +kernel
theorem zd_LassoFinderModel_goesOn_70 : decode prog_14_method_34_code 70 = .ok (.iconst 0, 1) := by decide +kernel
theorem zd_LassoFinderModel_goesOn_71 : decode prog_14_method_34_code 71 = .ok (.ireturn, 1) := by decide +kernel
theorem zd_LassoFinderModel_worth_0 : decode prog_14_method_13_code 0 = .ok (.iconst 0, 1) := by decide +kernel
theorem zd_LassoFinderModel_worth_1 : decode prog_14_method_13_code 1 = .ok (.istore_n 3, 1) := by decide +kernel
theorem zd_LassoFinderModel_worth_2 : decode prog_14_method_13_code 2 = .ok (.iload_n 1, 1) := by decide +kernel
theorem zd_LassoFinderModel_worth_3 : decode prog_14_method_13_code 3 = .ok (.istore 4, 2) := by decide +kernel
theorem zd_LassoFinderModel_worth_5 : decode prog_14_method_13_code 5 = .ok (.iload 4, 2) := by decide +kernel
theorem zd_LassoFinderModel_worth_7 : decode prog_14_method_13_code 7 = .ok (.iload_n 2, 1) := by decide +kernel
theorem zd_LassoFinderModel_worth_8 : decode prog_14_method_13_code 8 = .ok (.if_icmp .ge 221, 3) := by decide +kernel
theorem zd_LassoFinderModel_worth_11 : decode prog_14_method_13_code 11 = .ok (.aload_n 0, 1) := by decide +kernel
theorem zd_LassoFinderModel_worth_12 : decode prog_14_method_13_code 12 = .ok (.getfield 91, 3) := by decide +kernel
theorem zd_LassoFinderModel_worth_15 : decode prog_14_method_13_code 15 = .ok (.iload 4, 2) := by decide +kernel
theorem zd_LassoFinderModel_worth_17 : decode prog_14_method_13_code 17 = .ok (.iaload, 1) := by decide +kernel
theorem zd_LassoFinderModel_worth_18 : decode prog_14_method_13_code 18 = .ok (.istore 5, 2) := by decide +kernel
theorem zd_LassoFinderModel_worth_20 : decode prog_14_method_13_code 20 = .ok (.iload 5, 2) := by decide +kernel
theorem zd_LassoFinderModel_worth_22 : decode prog_14_method_13_code 22 = .ok (.bipush 8, 2) := by decide +kernel
theorem zd_LassoFinderModel_worth_24 : decode prog_14_method_13_code 24 = .ok (.if_icmp .ge 17, 3) := by decide +kernel
theorem zd_LassoFinderModel_worth_27 : decode prog_14_method_13_code 27 = .ok (.aload_n 0, 1) := by decide +kernel
theorem zd_LassoFinderModel_worth_28 : decode prog_14_method_13_code 28 = .ok (.getfield 142, 3) := by decide +kernel
theorem zd_LassoFinderModel_worth_31 : decode prog_14_method_13_code 31 = .ok (.iload_n 3, 1) := by decide +kernel
theorem zd_LassoFinderModel_worth_32 : decode prog_14_method_13_code 32 = .ok (.iload 5, 2) := by decide +kernel
theorem zd_LassoFinderModel_worth_34 : decode prog_14_method_13_code 34 = .ok (.iastore, 1) := by decide +kernel
theorem zd_LassoFinderModel_worth_35 : decode prog_14_method_13_code 35 = .ok (.iinc 3 1, 3) := by decide +kernel
theorem zd_LassoFinderModel_worth_38 : decode prog_14_method_13_code 38 = .ok (.goto 185, 3) := by decide +kernel
theorem zd_LassoFinderModel_worth_41 : decode prog_14_method_13_code 41 = .ok (.iload 5, 2) := by decide +kernel
theorem zd_LassoFinderModel_worth_43 : decode prog_14_method_13_code 43 = .ok (.bipush 16, 2) := by decide +kernel
theorem zd_LassoFinderModel_worth_45 : decode prog_14_method_13_code 45 = .ok (.if_icmp .ge 61, 3) := by decide +kernel
theorem zd_LassoFinderModel_worth_48 : decode prog_14_method_13_code 48 = .ok (.aload_n 0, 1) := by decide +kernel
theorem zd_LassoFinderModel_worth_49 : decode prog_14_method_13_code 49 = .ok (.getfield 142, 3) := by decide +kernel
theorem zd_LassoFinderModel_worth_52 : decode prog_14_method_13_code 52 = .ok (.iload_n 3, 1) := by decide +kernel
theorem zd_LassoFinderModel_worth_53 : decode prog_14_method_13_code 53 = .ok (.aload_n 0, 1) := by decide +kernel
theorem zd_LassoFinderModel_worth_54 : decode prog_14_method_13_code 54 = .ok (.getfield 17, 3) := by decide +kernel
theorem zd_LassoFinderModel_worth_57 : decode prog_14_method_13_code 57 = .ok (.iload 5, 2) := by decide +kernel
theorem zd_LassoFinderModel_worth_59 : decode prog_14_method_13_code 59 = .ok (.bipush 8, 2) := by decide +kernel
theorem zd_LassoFinderModel_worth_61 : decode prog_14_method_13_code 61 = .ok (.isub, 1) := by decide +kernel
theorem zd_LassoFinderModel_worth_62 : decode prog_14_method_13_code 62 = .ok (.iaload, 1) := by decide +kernel
theorem zd_LassoFinderModel_worth_63 : decode prog_14_method_13_code 63 = .ok (.ifCond .lt 21, 3) := by decide +kernel
theorem zd_LassoFinderModel_worth_66 : decode prog_14_method_13_code 66 = .ok (.aload_n 0, 1) := by decide +kernel
theorem zd_LassoFinderModel_worth_67 : decode prog_14_method_13_code 67 = .ok (.getfield 130, 3) := by decide +kernel
theorem zd_LassoFinderModel_worth_70 : decode prog_14_method_13_code 70 = .ok (.aload_n 0, 1) := by decide +kernel
theorem zd_LassoFinderModel_worth_71 : decode prog_14_method_13_code 71 = .ok (.getfield 17, 3) := by decide +kernel
theorem zd_LassoFinderModel_worth_74 : decode prog_14_method_13_code 74 = .ok (.iload 5, 2) := by decide +kernel
theorem zd_LassoFinderModel_worth_76 : decode prog_14_method_13_code 76 = .ok (.bipush 8, 2) := by decide +kernel
theorem zd_LassoFinderModel_worth_78 : decode prog_14_method_13_code 78 = .ok (.isub, 1) := by decide +kernel
theorem zd_LassoFinderModel_worth_79 : decode prog_14_method_13_code 79 = .ok (.iaload, 1) := by decide +kernel
theorem zd_LassoFinderModel_worth_80 : decode prog_14_method_13_code 80 = .ok (.iaload, 1) := by decide +kernel
theorem zd_LassoFinderModel_worth_81 : decode prog_14_method_13_code 81 = .ok (.goto 18, 3) := by decide +kernel
theorem zd_LassoFinderModel_worth_84 : decode prog_14_method_13_code 84 = .ok (.aload_n 0, 1) := by decide +kernel
theorem zd_LassoFinderModel_worth_85 : decode prog_14_method_13_code 85 = .ok (.getfield 133, 3) := by decide +kernel
theorem zd_LassoFinderModel_worth_88 : decode prog_14_method_13_code 88 = .ok (.aload_n 0, 1) := by decide +kernel
theorem zd_LassoFinderModel_worth_89 : decode prog_14_method_13_code 89 = .ok (.getfield 20, 3) := by decide +kernel
theorem zd_LassoFinderModel_worth_92 : decode prog_14_method_13_code 92 = .ok (.iload 5, 2) := by decide +kernel
theorem zd_LassoFinderModel_worth_94 : decode prog_14_method_13_code 94 = .ok (.bipush 8, 2) := by decide +kernel
theorem zd_LassoFinderModel_worth_96 : decode prog_14_method_13_code 96 = .ok (.isub, 1) := by decide +kernel
theorem zd_LassoFinderModel_worth_97 : decode prog_14_method_13_code 97 = .ok (.iaload, 1) := by decide +kernel
theorem zd_LassoFinderModel_worth_98 : decode prog_14_method_13_code 98 = .ok (.iaload, 1) := by decide +kernel
theorem zd_LassoFinderModel_worth_99 : decode prog_14_method_13_code 99 = .ok (.iastore, 1) := by decide +kernel
theorem zd_LassoFinderModel_worth_100 : decode prog_14_method_13_code 100 = .ok (.iinc 3 1, 3) := by decide +kernel
theorem zd_LassoFinderModel_worth_103 : decode prog_14_method_13_code 103 = .ok (.goto 120, 3) := by decide +kernel
theorem zd_LassoFinderModel_worth_106 : decode prog_14_method_13_code 106 = .ok (.iinc 3 (-1), 3) := by decide +kernel
theorem zd_LassoFinderModel_worth_109 : decode prog_14_method_13_code 109 = .ok (.aload_n 0, 1) := by decide +kernel
theorem zd_LassoFinderModel_worth_110 : decode prog_14_method_13_code 110 = .ok (.getfield 142, 3) := by decide +kernel
theorem zd_LassoFinderModel_worth_113 : decode prog_14_method_13_code 113 = .ok (.iload_n 3, 1) := by decide +kernel
theorem zd_LassoFinderModel_worth_114 : decode prog_14_method_13_code 114 = .ok (.iconst 1, 1) := by decide +kernel
theorem zd_LassoFinderModel_worth_115 : decode prog_14_method_13_code 115 = .ok (.isub, 1) := by decide +kernel
theorem zd_LassoFinderModel_worth_116 : decode prog_14_method_13_code 116 = .ok (.iaload, 1) := by decide +kernel
theorem zd_LassoFinderModel_worth_117 : decode prog_14_method_13_code 117 = .ok (.istore 6, 2) := by decide +kernel
theorem zd_LassoFinderModel_worth_119 : decode prog_14_method_13_code 119 = .ok (.aload_n 0, 1) := by decide +kernel
theorem zd_LassoFinderModel_worth_120 : decode prog_14_method_13_code 120 = .ok (.getfield 142, 3) := by decide +kernel
theorem zd_LassoFinderModel_worth_123 : decode prog_14_method_13_code 123 = .ok (.iload_n 3, 1) := by decide +kernel
theorem zd_LassoFinderModel_worth_124 : decode prog_14_method_13_code 124 = .ok (.iaload, 1) := by decide +kernel
theorem zd_LassoFinderModel_worth_125 : decode prog_14_method_13_code 125 = .ok (.istore 7, 2) := by decide +kernel
theorem zd_LassoFinderModel_worth_127 : decode prog_14_method_13_code 127 = .ok (.aload_n 0, 1) := by decide +kernel
theorem zd_LassoFinderModel_worth_128 : decode prog_14_method_13_code 128 = .ok (.getfield 142, 3) := by decide +kernel
theorem zd_LassoFinderModel_worth_131 : decode prog_14_method_13_code 131 = .ok (.iload_n 3, 1) := by decide +kernel
theorem zd_LassoFinderModel_worth_132 : decode prog_14_method_13_code 132 = .ok (.iconst 1, 1) := by decide +kernel
theorem zd_LassoFinderModel_worth_133 : decode prog_14_method_13_code 133 = .ok (.isub, 1) := by decide +kernel
theorem zd_LassoFinderModel_worth_134 : decode prog_14_method_13_code 134 = .ok (.iload 5, 2) := by decide +kernel
theorem zd_LassoFinderModel_worth_136 : decode prog_14_method_13_code 136 = .ok (.bipush 16, 2) := by decide +kernel
theorem zd_LassoFinderModel_worth_138 : decode prog_14_method_13_code 138 = .ok (.if_icmp .ne 14, 3) := by decide +kernel
theorem zd_LassoFinderModel_worth_141 : decode prog_14_method_13_code 141 = .ok (.iload 6, 2) := by decide +kernel
theorem zd_LassoFinderModel_worth_143 : decode prog_14_method_13_code 143 = .ok (.iload 7, 2) := by decide +kernel
theorem zd_LassoFinderModel_worth_145 : decode prog_14_method_13_code 145 = .ok (.iadd, 1) := by decide +kernel
theorem zd_LassoFinderModel_worth_146 : decode prog_14_method_13_code 146 = .ok (.bipush 7, 2) := by decide +kernel
theorem zd_LassoFinderModel_worth_148 : decode prog_14_method_13_code 148 = .ok (.iand, 1) := by decide +kernel
theorem zd_LassoFinderModel_worth_149 : decode prog_14_method_13_code 149 = .ok (.goto 73, 3) := by decide +kernel
theorem zd_LassoFinderModel_worth_152 : decode prog_14_method_13_code 152 = .ok (.iload 5, 2) := by decide +kernel
theorem zd_LassoFinderModel_worth_154 : decode prog_14_method_13_code 154 = .ok (.bipush 17, 2) := by decide +kernel
theorem zd_LassoFinderModel_worth_156 : decode prog_14_method_13_code 156 = .ok (.if_icmp .ne 14, 3) := by decide +kernel
theorem zd_LassoFinderModel_worth_159 : decode prog_14_method_13_code 159 = .ok (.iload 6, 2) := by decide +kernel
theorem zd_LassoFinderModel_worth_161 : decode prog_14_method_13_code 161 = .ok (.iload 7, 2) := by decide +kernel
theorem zd_LassoFinderModel_worth_163 : decode prog_14_method_13_code 163 = .ok (.isub, 1) := by decide +kernel
theorem zd_LassoFinderModel_worth_164 : decode prog_14_method_13_code 164 = .ok (.bipush 7, 2) := by decide +kernel
theorem zd_LassoFinderModel_worth_166 : decode prog_14_method_13_code 166 = .ok (.iand, 1) := by decide +kernel
theorem zd_LassoFinderModel_worth_167 : decode prog_14_method_13_code 167 = .ok (.goto 55, 3) := by decide +kernel
theorem zd_LassoFinderModel_worth_170 : decode prog_14_method_13_code 170 = .ok (.iload 5, 2) := by decide +kernel
theorem zd_LassoFinderModel_worth_172 : decode prog_14_method_13_code 172 = .ok (.bipush 18, 2) := by decide +kernel
theorem zd_LassoFinderModel_worth_174 : decode prog_14_method_13_code 174 = .ok (.if_icmp .ne 14, 3) := by decide +kernel
theorem zd_LassoFinderModel_worth_177 : decode prog_14_method_13_code 177 = .ok (.iload 6, 2) := by decide +kernel
theorem zd_LassoFinderModel_worth_179 : decode prog_14_method_13_code 179 = .ok (.iload 7, 2) := by decide +kernel
theorem zd_LassoFinderModel_worth_181 : decode prog_14_method_13_code 181 = .ok (.imul, 1) := by decide +kernel
theorem zd_LassoFinderModel_worth_182 : decode prog_14_method_13_code 182 = .ok (.bipush 7, 2) := by decide +kernel
theorem zd_LassoFinderModel_worth_184 : decode prog_14_method_13_code 184 = .ok (.iand, 1) := by decide +kernel
theorem zd_LassoFinderModel_worth_185 : decode prog_14_method_13_code 185 = .ok (.goto 37, 3) := by decide +kernel
theorem zd_LassoFinderModel_worth_188 : decode prog_14_method_13_code 188 = .ok (.iload 5, 2) := by decide +kernel
theorem zd_LassoFinderModel_worth_190 : decode prog_14_method_13_code 190 = .ok (.bipush 19, 2) := by decide +kernel
theorem zd_LassoFinderModel_worth_192 : decode prog_14_method_13_code 192 = .ok (.if_icmp .ne 18, 3) := by decide +kernel
theorem zd_LassoFinderModel_worth_195 : decode prog_14_method_13_code 195 = .ok (.iload 6, 2) := by decide +kernel
theorem zd_LassoFinderModel_worth_197 : decode prog_14_method_13_code 197 = .ok (.iload 7, 2) := by decide +kernel
theorem zd_LassoFinderModel_worth_199 : decode prog_14_method_13_code 199 = .ok (.if_icmp .ne 7, 3) := by decide +kernel
theorem zd_LassoFinderModel_worth_202 : decode prog_14_method_13_code 202 = .ok (.iconst 1, 1) := by decide +kernel
theorem zd_LassoFinderModel_worth_203 : decode prog_14_method_13_code 203 = .ok (.goto 19, 3) := by decide +kernel
theorem zd_LassoFinderModel_worth_206 : decode prog_14_method_13_code 206 = .ok (.iconst 0, 1) := by decide +kernel
theorem zd_LassoFinderModel_worth_207 : decode prog_14_method_13_code 207 = .ok (.goto 15, 3) := by decide +kernel
theorem zd_LassoFinderModel_worth_210 : decode prog_14_method_13_code 210 = .ok (.iload 6, 2) := by decide +kernel
theorem zd_LassoFinderModel_worth_212 : decode prog_14_method_13_code 212 = .ok (.iload 7, 2) := by decide +kernel
theorem zd_LassoFinderModel_worth_214 : decode prog_14_method_13_code 214 = .ok (.if_icmp .ge 7, 3) := by decide +kernel
theorem zd_LassoFinderModel_worth_217 : decode prog_14_method_13_code 217 = .ok (.iconst 1, 1) := by decide +kernel
theorem zd_LassoFinderModel_worth_218 : decode prog_14_method_13_code 218 = .ok (.goto 4, 3) := by decide +kernel
theorem zd_LassoFinderModel_worth_221 : decode prog_14_method_13_code 221 = .ok (.iconst 0, 1) := by decide +kernel
theorem zd_LassoFinderModel_worth_222 : decode prog_14_method_13_code 222 = .ok (.iastore, 1) := by decide +kernel
theorem zd_LassoFinderModel_worth_223 : decode prog_14_method_13_code 223 = .ok (.iinc 4 1, 3) := by decide +kernel
theorem zd_LassoFinderModel_worth_226 : decode prog_14_method_13_code 226 = .ok (.goto (-221), 3) := by decide +kernel
theorem zd_LassoFinderModel_worth_229 : decode prog_14_method_13_code 229 = .ok (.aload_n 0, 1) := by decide +kernel
theorem zd_LassoFinderModel_worth_230 : decode prog_14_method_13_code 230 = .ok (.getfield 142, 3) := by decide +kernel
theorem zd_LassoFinderModel_worth_233 : decode prog_14_method_13_code 233 = .ok (.iconst 0, 1) := by decide +kernel
theorem zd_LassoFinderModel_worth_234 : decode prog_14_method_13_code 234 = .ok (.iaload, 1) := by decide +kernel
theorem zd_LassoFinderModel_worth_235 : decode prog_14_method_13_code 235 = .ok (.ireturn, 1) := by decide +kernel
def wc_LassoFinderModel_goesOn_71 (a0 : Int32) (a1 : Int32) (Post : Int32 → (Nat → Int32) → (Nat → Int64) → (Nat → Nat → Int32) → (Nat → Nat → Int64) → Prop) (y0 : Int32) (I : Nat → Int32) (J : Nat → Int64) (B : Nat → Nat → Int32) (D : Nat → Nat → Int64) : Prop :=
  (y0 = 0 ∨ y0 = 1) ∧ Post y0 I J B D
def wc_LassoFinderModel_goesOn_70 (a0 : Int32) (a1 : Int32) (Post : Int32 → (Nat → Int32) → (Nat → Int64) → (Nat → Nat → Int32) → (Nat → Nat → Int64) → Prop)  (I : Nat → Int32) (J : Nat → Int64) (B : Nat → Nat → Int32) (D : Nat → Nat → Int64) : Prop :=
  wc_LassoFinderModel_goesOn_71 a0 a1 Post 0 I J B D
def wp_LassoFinderModel_goesOn (I : Nat → Int32) (J : Nat → Int64) (B : Nat → Nat → Int32) (D : Nat → Nat → Int64) (a0 : Int32) (a1 : Int32) (Post : Int32 → (Nat → Int32) → (Nat → Int64) → (Nat → Nat → Int32) → (Nat → Nat → Int64) → Prop) : Prop :=
  vp_in a1 140 ∧ ∀ z1 : Int32, z1 = ((B 17) a1.toNatClampNeg) → vp_in a0 4 ∧ vp_in a1 140 ∧ ∀ z2 : Int32, z2 = ((B 10) a1.toNatClampNeg) → ((z2 < 0 → wc_LassoFinderModel_goesOn_70 a0 a1 Post I J (va_up B 39 (upd (B 39) a0.toNatClampNeg z1)) D) ∧ (¬ z2 < 0 → vp_in a0 4 ∧ ∀ z4 : Int32, z4 = ((upd (B 39) a0.toNatClampNeg z1) a0.toNatClampNeg) → vp_in a0 5 ∧ ∀ z5 : Int32, z5 = ((B 20) a0.toNatClampNeg) → ((z5 ≤ z4 → wc_LassoFinderModel_goesOn_70 a0 a1 Post I J (va_up B 39 (upd (B 39) a0.toNatClampNeg z1)) D) ∧ (¬ z5 ≤ z4 → ∀ z7 : Int32, z7 = (31 * a0) → vp_in a0 4 ∧ ∀ z8 : Int32, z8 = ((upd (B 39) a0.toNatClampNeg z1) a0.toNatClampNeg) → ∀ z9 : Int32, z9 = (z7 + z8) → vp_in z9 124 ∧ ∀ z10 : Int32, z10 = ((B 23) z9.toNatClampNeg) → vp_in z10 140 ∧ ∀ z11 : Int32, z11 = ((B 10) z10.toNatClampNeg) → vp_in a1 140 ∧ ∀ z12 : Int32, z12 = ((B 10) a1.toNatClampNeg) → ((¬ z11 = z12 → wc_LassoFinderModel_goesOn_70 a0 a1 Post I J (va_up B 39 (upd (B 39) a0.toNatClampNeg z1)) D) ∧ (z11 = z12 → wc_LassoFinderModel_goesOn_71 a0 a1 Post 1 I J (va_up B 39 (upd (B 39) a0.toNatClampNeg z1)) D))))))
set_option maxHeartbeats 8000000 in
set_option maxRecDepth 100000 in
theorem wJ_LassoFinderModel_goesOn_71 {p : Program} {l : Launch} {e : Env} {s : State} {m : MethodId} {below : List Frame} {meth : Method} {c : Code} {A : Nat → Prop} (G : va_G) (K : Nat → ClassId) (ad : Nat → Nat) (a0 : Int32) (a1 : Int32) (Post : Int32 → (Nat → Int32) → (Nat → Int64) → (Nat → Nat → Int32) → (Nat → Nat → Int64) → Prop) (C : zCx p s m ([.ref (ad 0), .int a0, .int a1] : List Value).toArray meth c A G K prog_14_method_34_code (some .boolean) 3 "LassoFinderModel") : ∀ (y0 : Int32) (I : Nat → Int32) (J : Nat → Int64) (B : Nat → Nat → Int32) (D : Nat → Nat → Int64) (ls : Array Slot) (H : Heap) (locs : List Loc), wc_LassoFinderModel_goesOn_71 a0 a1 Post y0 I J B D → lv_has ls 3 [] → zW G A s.heap (wM ad K I J B D) H locs → W p l e { frames := 0, cells := 0, slots := 0, locals := 0 } s m ([.ref (ad 0), .int a0, .int a1] : List Value).toArray below meth c H locs 0 0 (MQ below (va_Qi (fun (r : Int32) (u : zS) => Post r u.1 u.2.1 u.2.2.1 u.2.2.2) (fun u t => zPost G K A (wM ad K u.1 u.2.1 u.2.2.1 u.2.2.2) t) A) ([.ref (ad 0), .int a0, .int a1] : List Value).toArray s 0 0 A) (F0 m 71 ls [.int y0]) := by
  obtain ⟨hx, hb, hr, hml, hts, hown, hlocks, hA, hK⟩ := id C
  intro y0 I J B D ls H locs hok hl hw
  unfold wc_LassoFinderModel_goesOn_71 at hok
  have hbo := hok.1
  have hok := hok.2
  exact (z_iret (u := (I, J, B, D)) hx hb hr hlocks (z_nar hbo) hw (List.range 58) wM_all wM_nd hok (Nat.le_of_ble_eq_true rfl) (Nat.le_of_ble_eq_true rfl) zd_LassoFinderModel_goesOn_71)
set_option maxHeartbeats 8000000 in
set_option maxRecDepth 100000 in
theorem wJ_LassoFinderModel_goesOn_70 {p : Program} {l : Launch} {e : Env} {s : State} {m : MethodId} {below : List Frame} {meth : Method} {c : Code} {A : Nat → Prop} (G : va_G) (K : Nat → ClassId) (ad : Nat → Nat) (a0 : Int32) (a1 : Int32) (Post : Int32 → (Nat → Int32) → (Nat → Int64) → (Nat → Nat → Int32) → (Nat → Nat → Int64) → Prop) (C : zCx p s m ([.ref (ad 0), .int a0, .int a1] : List Value).toArray meth c A G K prog_14_method_34_code (some .boolean) 3 "LassoFinderModel") : ∀  (I : Nat → Int32) (J : Nat → Int64) (B : Nat → Nat → Int32) (D : Nat → Nat → Int64) (ls : Array Slot) (H : Heap) (locs : List Loc), wc_LassoFinderModel_goesOn_70 a0 a1 Post  I J B D → lv_has ls 3 [] → zW G A s.heap (wM ad K I J B D) H locs → W p l e { frames := 0, cells := 0, slots := 0, locals := 0 } s m ([.ref (ad 0), .int a0, .int a1] : List Value).toArray below meth c H locs 0 0 (MQ below (va_Qi (fun (r : Int32) (u : zS) => Post r u.1 u.2.1 u.2.2.1 u.2.2.2) (fun u t => zPost G K A (wM ad K u.1 u.2.1 u.2.2.1 u.2.2.2) t) A) ([.ref (ad 0), .int a0, .int a1] : List Value).toArray s 0 0 A) (F0 m 70 ls []) := by
  obtain ⟨hx, hb, hr, hml, hts, hown, hlocks, hA, hK⟩ := id C
  intro  I J B D ls H locs hok hl hw
  unfold wc_LassoFinderModel_goesOn_70 at hok
  refine lv_iconst (v := 0) hx hb zd_LassoFinderModel_goesOn_70 (by decide) ?_
  exact wJ_LassoFinderModel_goesOn_71 G K ad a0 a1 Post C 0 I J B D ls H locs hok (lv_sub hl [] rfl) hw
set_option maxHeartbeats 8000000 in
set_option maxRecDepth 100000 in
theorem w_LassoFinderModel_goesOn (l : Launch) (G : va_G) (K : Nat → ClassId) (ad : Nat → Nat) (I : Nat → Int32) (J : Nat → Int64) (B : Nat → Nat → Int32) (D : Nat → Nat → Int64) (a0 : Int32) (a1 : Int32) (Post : Int32 → (Nat → Int32) → (Nat → Int64) → (Nat → Nat → Int32) → (Nat → Nat → Int64) → Prop) (sz : Nat) (hok : wp_LassoFinderModel_goesOn I J B D a0 a1 Post) : Met l zy_LassoFinderModel_goesOn (Cond.code zy_LassoFinderModel_goesOn prog_14_method_34_code 3 (some .boolean) :: zTB) { frames := 0, cells := 0, slots := 0, locals := 0 } (va_Pc [.ref (ad 0), .int a0, .int a1] (zPre G K (wM ad K I J B D) sz)) (va_Qi (fun (r : Int32) (u : zS) => Post r u.1 u.2.1 u.2.2.1 u.2.2.2) (fun u t => zPost G K (va_A (wM ad K I J B D) sz) (wM ad K u.1 u.2.1 u.2.2.1 u.2.2.2) t) (va_A (wM ad K I J B D) sz)) 0 0 (va_A (wM ad K I J B D) sz) := by
  refine zMet (y := zy_LassoFinderModel_goesOn) (av := [.ref (ad 0), .int a0, .int a1]) (maxL := 3) (cc := prog_14_method_34_code) (ret := (some .boolean)) (W0 := (wM ad K I J B D)) (sz := sz) (G := G) (K := K) (wt := zTB) (mc := 0) (ms := 0) (Qf := fun A => va_Qi (fun (r : Int32) (u : zS) => Post r u.1 u.2.1 u.2.2.1 u.2.2.2) (fun u t => zPost G K A (wM ad K u.1 u.2.1 u.2.2.1 u.2.2.2) t) A) (by decide) (Nat.le_of_ble_eq_true rfl) ?_
  intro p e s m below meth c ls A hx hb hr hml hts hown hlocks hin hA hK H locs hw hsz hl
  clear hsz
  have hown : s.vm.findClass "LassoFinderModel" = some m.cls := hown
  have C : zCx p s m ([.ref (ad 0), .int a0, .int a1] : List Value).toArray meth c A G K prog_14_method_34_code (some .boolean) 3 "LassoFinderModel" := ⟨hx, hb, hr, hml, hts, hown, hlocks, hA, hK⟩
  have hl : lv_has ls 3 [(0, .ref (ad 0)), (1, .int a0), (2, .int a1)] := hl
  have hw : zW G A s.heap (wM ad K I J B D) H locs := hw
  unfold wp_LassoFinderModel_goesOn at hok
  refine lv_aload_n hx hb zd_LassoFinderModel_goesOn_0 rfl (lv_at hl 0 rfl) ?_
  refine z_get (v := .ref (ad 42)) hx hb hts hown hK hw zZ12 0 wM_g0 58 (by decide) zm_276 rfl zd_LassoFinderModel_goesOn_1 ?_
  refine lv_iload_n hx hb zd_LassoFinderModel_goesOn_4 rfl (lv_at hl 1 rfl) ?_
  refine lv_aload_n hx hb zd_LassoFinderModel_goesOn_5 rfl (lv_at hl 0 rfl) ?_
  refine z_get (v := .ref (ad 18)) hx hb hts hown hK hw zZ12 0 wM_g0 26 (by decide) zm_252 rfl zd_LassoFinderModel_goesOn_6 ?_
  refine lv_iload_n hx hb zd_LassoFinderModel_goesOn_9 rfl (lv_at hl 2 rfl) ?_
  refine va_iald (f := (B 17)) hx hb hK hw.1 18 0 wM_a18 rfl hok.1 zd_LassoFinderModel_goesOn_10 ?_
  have hok := hok.2
  refine lv_topi (fun z1 ez1 => ?_)
  have hok := hok z1 ez1
  refine va_iast (f := (B 39)) hx hb hK hw.1 hw.2.1 hw.2.2 42 0 wM_a42 rfl hok.1 zd_LassoFinderModel_goesOn_11 (fun H locs w91 w92 w93 => ?_)
  have hok := hok.2
  have hw := wM_t42 ⟨w91, w92, w93⟩
  refine lv_aload_n hx hb zd_LassoFinderModel_goesOn_12 rfl (lv_at hl 0 rfl) ?_
  refine z_get (v := .ref (ad 11)) hx hb hts hown hK hw zZ12 0 wM_g0 19 (by decide) zm_245 rfl zd_LassoFinderModel_goesOn_13 ?_
  refine lv_iload_n hx hb zd_LassoFinderModel_goesOn_16 rfl (lv_at hl 2 rfl) ?_
  refine va_iald (f := (B 10)) hx hb hK hw.1 11 0 wM_a11 rfl hok.1 zd_LassoFinderModel_goesOn_17 ?_
  have hok := hok.2
  refine lv_topi (fun z2 ez2 => ?_)
  have hok := hok z2 ez2
  refine lv_if_lt (tgt := 70) hx hb zd_LassoFinderModel_goesOn_18 (by decide) (fun hc3 => ?_) (fun hc3 => ?_)
  · have hok := hok.1 hc3
    exact wJ_LassoFinderModel_goesOn_70 G K ad a0 a1 Post C I J (va_up B 39 (upd (B 39) a0.toNatClampNeg z1)) D ls H locs hok (lv_sub hl [] rfl) hw
  · have hok := hok.2 hc3
    refine lv_aload_n hx hb zd_LassoFinderModel_goesOn_21 rfl (lv_at hl 0 rfl) ?_
    refine z_get (v := .ref (ad 42)) hx hb hts hown hK hw zZ12 0 wM_g0 58 (by decide) zm_276 rfl zd_LassoFinderModel_goesOn_22 ?_
    refine lv_iload_n hx hb zd_LassoFinderModel_goesOn_25 rfl (lv_at hl 1 rfl) ?_
    refine va_iald (f := (upd (B 39) a0.toNatClampNeg z1)) hx hb hK hw.1 42 0 wM_a42 rfl hok.1 zd_LassoFinderModel_goesOn_26 ?_
    have hok := hok.2
    refine lv_topi (fun z4 ez4 => ?_)
    have hok := hok z4 ez4
    refine lv_aload_n hx hb zd_LassoFinderModel_goesOn_27 rfl (lv_at hl 0 rfl) ?_
    refine z_get (v := .ref (ad 21)) hx hb hts hown hK hw zZ12 0 wM_g0 31 (by decide) zm_255 rfl zd_LassoFinderModel_goesOn_28 ?_
    refine lv_iload_n hx hb zd_LassoFinderModel_goesOn_31 rfl (lv_at hl 1 rfl) ?_
    refine va_iald (f := (B 20)) hx hb hK hw.1 21 0 wM_a21 rfl hok.1 zd_LassoFinderModel_goesOn_32 ?_
    have hok := hok.2
    refine lv_topi (fun z5 ez5 => ?_)
    have hok := hok z5 ez5
    refine lv_icmp_ge (tgt := 70) hx hb zd_LassoFinderModel_goesOn_33 (by decide) (fun hc6 => ?_) (fun hc6 => ?_)
    · have hok := hok.1 hc6
      exact wJ_LassoFinderModel_goesOn_70 G K ad a0 a1 Post C I J (va_up B 39 (upd (B 39) a0.toNatClampNeg z1)) D ls H locs hok (lv_sub hl [] rfl) hw
    · have hok := hok.2 hc6
      refine lv_aload_n hx hb zd_LassoFinderModel_goesOn_36 rfl (lv_at hl 0 rfl) ?_
      refine z_get (v := .ref (ad 11)) hx hb hts hown hK hw zZ12 0 wM_g0 19 (by decide) zm_245 rfl zd_LassoFinderModel_goesOn_37 ?_
      refine lv_aload_n hx hb zd_LassoFinderModel_goesOn_40 rfl (lv_at hl 0 rfl) ?_
      refine z_get (v := .ref (ad 24)) hx hb hts hown hK hw zZ12 0 wM_g0 34 (by decide) zm_258 rfl zd_LassoFinderModel_goesOn_41 ?_
      refine lv_bipush (v := 31) hx hb zd_LassoFinderModel_goesOn_44 (by decide) ?_
      refine lv_iload_n hx hb zd_LassoFinderModel_goesOn_46 rfl (lv_at hl 1 rfl) ?_
      refine lv_imul hx hb zd_LassoFinderModel_goesOn_47 ?_
      refine lv_topi (fun z7 ez7 => ?_)
      have hok := hok z7 ez7
      refine lv_aload_n hx hb zd_LassoFinderModel_goesOn_48 rfl (lv_at hl 0 rfl) ?_
      refine z_get (v := .ref (ad 42)) hx hb hts hown hK hw zZ12 0 wM_g0 58 (by decide) zm_276 rfl zd_LassoFinderModel_goesOn_49 ?_
      refine lv_iload_n hx hb zd_LassoFinderModel_goesOn_52 rfl (lv_at hl 1 rfl) ?_
      refine va_iald (f := (upd (B 39) a0.toNatClampNeg z1)) hx hb hK hw.1 42 0 wM_a42 rfl hok.1 zd_LassoFinderModel_goesOn_53 ?_
      have hok := hok.2
      refine lv_topi (fun z8 ez8 => ?_)
      have hok := hok z8 ez8
      refine lv_iadd hx hb zd_LassoFinderModel_goesOn_54 ?_
      refine lv_topi (fun z9 ez9 => ?_)
      have hok := hok z9 ez9
      refine va_iald (f := (B 23)) hx hb hK hw.1 24 0 wM_a24 rfl hok.1 zd_LassoFinderModel_goesOn_55 ?_
      have hok := hok.2
      refine lv_topi (fun z10 ez10 => ?_)
      have hok := hok z10 ez10
      refine va_iald (f := (B 10)) hx hb hK hw.1 11 0 wM_a11 rfl hok.1 zd_LassoFinderModel_goesOn_56 ?_
      have hok := hok.2
      refine lv_topi (fun z11 ez11 => ?_)
      have hok := hok z11 ez11
      refine lv_aload_n hx hb zd_LassoFinderModel_goesOn_57 rfl (lv_at hl 0 rfl) ?_
      refine z_get (v := .ref (ad 11)) hx hb hts hown hK hw zZ12 0 wM_g0 19 (by decide) zm_245 rfl zd_LassoFinderModel_goesOn_58 ?_
      refine lv_iload_n hx hb zd_LassoFinderModel_goesOn_61 rfl (lv_at hl 2 rfl) ?_
      refine va_iald (f := (B 10)) hx hb hK hw.1 11 0 wM_a11 rfl hok.1 zd_LassoFinderModel_goesOn_62 ?_
      have hok := hok.2
      refine lv_topi (fun z12 ez12 => ?_)
      have hok := hok z12 ez12
      refine lv_icmp_ne (tgt := 70) hx hb zd_LassoFinderModel_goesOn_63 (by decide) (fun hc13 => ?_) (fun hc13 => ?_)
      · have hok := hok.1 hc13
        exact wJ_LassoFinderModel_goesOn_70 G K ad a0 a1 Post C I J (va_up B 39 (upd (B 39) a0.toNatClampNeg z1)) D ls H locs hok (lv_sub hl [] rfl) hw
      · have hok := hok.2 hc13
        refine lv_iconst (v := 1) hx hb zd_LassoFinderModel_goesOn_66 (by decide) ?_
        refine lv_goto (tgt := 71) hx hb zd_LassoFinderModel_goesOn_67 (by decide) ?_
        exact wJ_LassoFinderModel_goesOn_71 G K ad a0 a1 Post C 1 I J (va_up B 39 (upd (B 39) a0.toNatClampNeg z1)) D ls H locs hok (lv_sub hl [] rfl) hw
def wc_LassoFinderModel_worth_223 (a0 : Int32) (a1 : Int32) (K5 : Int32 → Int32 → Int32 → (Nat → Int32) → (Nat → Int64) → (Nat → Nat → Int32) → (Nat → Nat → Int64) → Prop) (Post : Int32 → (Nat → Int32) → (Nat → Int64) → (Nat → Nat → Int32) → (Nat → Nat → Int64) → Prop) (x2 : Int32) (x3 : Int32) (x4 : Int32) (I : Nat → Int32) (J : Nat → Int64) (B : Nat → Nat → Int32) (D : Nat → Nat → Int64) : Prop :=
  ∀ z1 : Int32, z1 = (x4 + 1) → K5 x2 x3 z1 I J B D
def wc_LassoFinderModel_worth_222 (a0 : Int32) (a1 : Int32) (K5 : Int32 → Int32 → Int32 → (Nat → Int32) → (Nat → Int64) → (Nat → Nat → Int32) → (Nat → Nat → Int64) → Prop) (Post : Int32 → (Nat → Int32) → (Nat → Int64) → (Nat → Nat → Int32) → (Nat → Nat → Int64) → Prop) (x2 : Int32) (x3 : Int32) (x4 : Int32) (y0 : Int32) (y1 : Int32) (I : Nat → Int32) (J : Nat → Int64) (B : Nat → Nat → Int32) (D : Nat → Nat → Int64) : Prop :=
  vp_in y1 240 ∧ wc_LassoFinderModel_worth_223 a0 a1 K5 Post x2 x3 x4 I J (va_up B 40 (upd (B 40) y1.toNatClampNeg y0)) D
def wc_LassoFinderModel_worth_99 (a0 : Int32) (a1 : Int32) (K5 : Int32 → Int32 → Int32 → (Nat → Int32) → (Nat → Int64) → (Nat → Nat → Int32) → (Nat → Nat → Int64) → Prop) (Post : Int32 → (Nat → Int32) → (Nat → Int64) → (Nat → Nat → Int32) → (Nat → Nat → Int64) → Prop) (x2 : Int32) (x3 : Int32) (x4 : Int32) (y0 : Int32) (y1 : Int32) (I : Nat → Int32) (J : Nat → Int64) (B : Nat → Nat → Int32) (D : Nat → Nat → Int64) : Prop :=
  vp_in y1 240 ∧ ∀ z2 : Int32, z2 = (x3 + 1) → wc_LassoFinderModel_worth_223 a0 a1 K5 Post x2 z2 x4 I J (va_up B 40 (upd (B 40) y1.toNatClampNeg y0)) D
def wb_LassoFinderModel_worth_5 (a0 : Int32) (a1 : Int32) (K5 : Int32 → Int32 → Int32 → (Nat → Int32) → (Nat → Int64) → (Nat → Nat → Int32) → (Nat → Nat → Int64) → Prop) (Post : Int32 → (Nat → Int32) → (Nat → Int64) → (Nat → Nat → Int32) → (Nat → Nat → Int64) → Prop) (x2 : Int32) (x3 : Int32) (x4 : Int32) (I : Nat → Int32) (J : Nat → Int64) (B : Nat → Nat → Int32) (D : Nat → Nat → Int64) : Prop :=
  ((x2 ≤ x4 → vp_in 0 240 ∧ ∀ z4 : Int32, z4 = ((B 40) (0 : Int32).toNatClampNeg) → Post z4 I J B D) ∧ (¬ x2 ≤ x4 → vp_in x4 480 ∧ ∀ z5 : Int32, z5 = ((B 24) x4.toNatClampNeg) → (((8 : Int32) ≤ z5 → (((16 : Int32) ≤ z5 → ∀ z8 : Int32, z8 = (x3 + (-1)) → ∀ z9 : Int32, z9 = (z8 - 1) → vp_in z9 240 ∧ ∀ z10 : Int32, z10 = ((B 40) z9.toNatClampNeg) → vp_in z8 240 ∧ ∀ z11 : Int32, z11 = ((B 40) z8.toNatClampNeg) → ∀ z12 : Int32, z12 = (z8 - 1) → ((¬ z5 = 16 → ((¬ z5 = 17 → ((¬ z5 = 18 → ((¬ z5 = 19 → ((z11 ≤ z10 → wc_LassoFinderModel_worth_222 a0 a1 K5 Post x2 z8 x4 0 z12 I J B D) ∧ (¬ z11 ≤ z10 → wc_LassoFinderModel_worth_222 a0 a1 K5 Post x2 z8 x4 1 z12 I J B D))) ∧ (z5 = 19 → ((¬ z10 = z11 → wc_LassoFinderModel_worth_222 a0 a1 K5 Post x2 z8 x4 0 z12 I J B D) ∧ (z10 = z11 → wc_LassoFinderModel_worth_222 a0 a1 K5 Post x2 z8 x4 1 z12 I J B D))))) ∧ (z5 = 18 → ∀ z19 : Int32, z19 = (z10 * z11) → ∀ z20 : Int32, z20 = (z19 &&& 7) → wc_LassoFinderModel_worth_222 a0 a1 K5 Post x2 z8 x4 z20 z12 I J B D))) ∧ (z5 = 17 → ∀ z21 : Int32, z21 = (z10 - z11) → ∀ z22 : Int32, z22 = (z21 &&& 7) → wc_LassoFinderModel_worth_222 a0 a1 K5 Post x2 z8 x4 z22 z12 I J B D))) ∧ (z5 = 16 → ∀ z23 : Int32, z23 = (z10 + z11) → ∀ z24 : Int32, z24 = (z23 &&& 7) → wc_LassoFinderModel_worth_222 a0 a1 K5 Post x2 z8 x4 z24 z12 I J B D))) ∧ (¬ (16 : Int32) ≤ z5 → ∀ z25 : Int32, z25 = (z5 - 8) → vp_in z25 8 ∧ ∀ z26 : Int32, z26 = ((B 1) z25.toNatClampNeg) → ((z26 < 0 → ∀ z28 : Int32, z28 = (z5 - 8) → vp_in z28 8 ∧ ∀ z29 : Int32, z29 = ((B 2) z28.toNatClampNeg) → vp_in z29 2 ∧ ∀ z30 : Int32, z30 = ((B 37) z29.toNatClampNeg) → wc_LassoFinderModel_worth_99 a0 a1 K5 Post x2 x3 x4 z30 x3 I J B D) ∧ (¬ z26 < 0 → ∀ z31 : Int32, z31 = (z5 - 8) → vp_in z31 8 ∧ ∀ z32 : Int32, z32 = ((B 1) z31.toNatClampNeg) → vp_in z32 6 ∧ ∀ z33 : Int32, z33 = ((B 36) z32.toNatClampNeg) → wc_LassoFinderModel_worth_99 a0 a1 K5 Post x2 x3 x4 z33 x3 I J B D))))) ∧ (¬ (8 : Int32) ≤ z5 → vp_in x3 240 ∧ ∀ z34 : Int32, z34 = (x3 + 1) → wc_LassoFinderModel_worth_223 a0 a1 K5 Post x2 z34 x4 I J (va_up B 40 (upd (B 40) x3.toNatClampNeg z5)) D))))
def wl_LassoFinderModel_worth_5 (a0 : Int32) (a1 : Int32) (Post : Int32 → (Nat → Int32) → (Nat → Int64) → (Nat → Nat → Int32) → (Nat → Nat → Int64) → Prop) (n : Nat) : Int32 → Int32 → Int32 → (Nat → Int32) → (Nat → Int64) → (Nat → Nat → Int32) → (Nat → Nat → Int64) → Prop := Nat.rec (fun _ _ _ _ _ _ _ => False) (fun _ r => wb_LassoFinderModel_worth_5 a0 a1 r Post) n
def wp_LassoFinderModel_worth (I : Nat → Int32) (J : Nat → Int64) (B : Nat → Nat → Int32) (D : Nat → Nat → Int64) (a0 : Int32) (a1 : Int32) (Post : Int32 → (Nat → Int32) → (Nat → Int64) → (Nat → Nat → Int32) → (Nat → Nat → Int64) → Prop) : Prop :=
  ∃ n : Nat, wl_LassoFinderModel_worth_5 a0 a1 Post n a1 0 a0 I J B D
set_option maxHeartbeats 8000000 in
set_option maxRecDepth 100000 in
theorem wJ_LassoFinderModel_worth_223 {p : Program} {l : Launch} {e : Env} {s : State} {m : MethodId} {below : List Frame} {meth : Method} {c : Code} {A : Nat → Prop} (G : va_G) (K : Nat → ClassId) (ad : Nat → Nat) (a0 : Int32) (a1 : Int32) (Post : Int32 → (Nat → Int32) → (Nat → Int64) → (Nat → Nat → Int32) → (Nat → Nat → Int64) → Prop) (C : zCx p s m ([.ref (ad 0), .int a0, .int a1] : List Value).toArray meth c A G K prog_14_method_13_code (some .int) 8 "LassoFinderModel") (K5 : Int32 → Int32 → Int32 → (Nat → Int32) → (Nat → Int64) → (Nat → Nat → Int32) → (Nat → Nat → Int64) → Prop) (kh5 : ∀ (x2 : Int32) (x3 : Int32) (x4 : Int32) (I : Nat → Int32) (J : Nat → Int64) (B : Nat → Nat → Int32) (D : Nat → Nat → Int64) (ls : Array Slot) (H : Heap) (locs : List Loc), K5 x2 x3 x4 I J B D → lv_has ls 8 [(0, .ref (ad 0)), (2, .int x2), (3, .int x3), (4, .int x4)] → zW G A s.heap (wM ad K I J B D) H locs → W p l e { frames := 0, cells := 0, slots := 0, locals := 0 } s m ([.ref (ad 0), .int a0, .int a1] : List Value).toArray below meth c H locs 0 0 (MQ below (va_Qi (fun (r : Int32) (u : zS) => Post r u.1 u.2.1 u.2.2.1 u.2.2.2) (fun u t => zPost G K A (wM ad K u.1 u.2.1 u.2.2.1 u.2.2.2) t) A) ([.ref (ad 0), .int a0, .int a1] : List Value).toArray s 0 0 A) (F0 m 5 ls [])) : ∀ (x2 : Int32) (x3 : Int32) (x4 : Int32) (I : Nat → Int32) (J : Nat → Int64) (B : Nat → Nat → Int32) (D : Nat → Nat → Int64) (ls : Array Slot) (H : Heap) (locs : List Loc), wc_LassoFinderModel_worth_223 a0 a1 K5 Post x2 x3 x4 I J B D → lv_has ls 8 [(0, .ref (ad 0)), (2, .int x2), (3, .int x3), (4, .int x4)] → zW G A s.heap (wM ad K I J B D) H locs → W p l e { frames := 0, cells := 0, slots := 0, locals := 0 } s m ([.ref (ad 0), .int a0, .int a1] : List Value).toArray below meth c H locs 0 0 (MQ below (va_Qi (fun (r : Int32) (u : zS) => Post r u.1 u.2.1 u.2.2.1 u.2.2.2) (fun u t => zPost G K A (wM ad K u.1 u.2.1 u.2.2.1 u.2.2.2) t) A) ([.ref (ad 0), .int a0, .int a1] : List Value).toArray s 0 0 A) (F0 m 223 ls []) := by
  obtain ⟨hx, hb, hr, hml, hts, hown, hlocks, hA, hK⟩ := id C
  intro x2 x3 x4 I J B D ls H locs hok hl hw
  unfold wc_LassoFinderModel_worth_223 at hok
  obtain ⟨z1, ez1⟩ : ∃ z : Int32, z = (x4 + 1) := ⟨_, rfl⟩
  have hok := hok z1 ez1
  refine lv_iinc (v := z1) hx hb zd_LassoFinderModel_worth_223 hl (k := 3) rfl ez1.symm (by decide) rfl (fun ls hl => ?_)
  have hl : lv_has ls 8 [(4, .int z1), (0, .ref (ad 0)), (2, .int x2), (3, .int x3)] := hl
  refine lv_goto (tgt := 5) hx hb zd_LassoFinderModel_worth_226 (by decide) ?_
  exact kh5 x2 x3 z1 I J B D ls H locs hok (lv_sub hl [1, 2, 3, 0] rfl) hw
set_option maxHeartbeats 8000000 in
set_option maxRecDepth 100000 in
theorem wJ_LassoFinderModel_worth_222 {p : Program} {l : Launch} {e : Env} {s : State} {m : MethodId} {below : List Frame} {meth : Method} {c : Code} {A : Nat → Prop} (G : va_G) (K : Nat → ClassId) (ad : Nat → Nat) (a0 : Int32) (a1 : Int32) (Post : Int32 → (Nat → Int32) → (Nat → Int64) → (Nat → Nat → Int32) → (Nat → Nat → Int64) → Prop) (C : zCx p s m ([.ref (ad 0), .int a0, .int a1] : List Value).toArray meth c A G K prog_14_method_13_code (some .int) 8 "LassoFinderModel") (K5 : Int32 → Int32 → Int32 → (Nat → Int32) → (Nat → Int64) → (Nat → Nat → Int32) → (Nat → Nat → Int64) → Prop) (kh5 : ∀ (x2 : Int32) (x3 : Int32) (x4 : Int32) (I : Nat → Int32) (J : Nat → Int64) (B : Nat → Nat → Int32) (D : Nat → Nat → Int64) (ls : Array Slot) (H : Heap) (locs : List Loc), K5 x2 x3 x4 I J B D → lv_has ls 8 [(0, .ref (ad 0)), (2, .int x2), (3, .int x3), (4, .int x4)] → zW G A s.heap (wM ad K I J B D) H locs → W p l e { frames := 0, cells := 0, slots := 0, locals := 0 } s m ([.ref (ad 0), .int a0, .int a1] : List Value).toArray below meth c H locs 0 0 (MQ below (va_Qi (fun (r : Int32) (u : zS) => Post r u.1 u.2.1 u.2.2.1 u.2.2.2) (fun u t => zPost G K A (wM ad K u.1 u.2.1 u.2.2.1 u.2.2.2) t) A) ([.ref (ad 0), .int a0, .int a1] : List Value).toArray s 0 0 A) (F0 m 5 ls [])) : ∀ (x2 : Int32) (x3 : Int32) (x4 : Int32) (y0 : Int32) (y1 : Int32) (I : Nat → Int32) (J : Nat → Int64) (B : Nat → Nat → Int32) (D : Nat → Nat → Int64) (ls : Array Slot) (H : Heap) (locs : List Loc), wc_LassoFinderModel_worth_222 a0 a1 K5 Post x2 x3 x4 y0 y1 I J B D → lv_has ls 8 [(0, .ref (ad 0)), (2, .int x2), (3, .int x3), (4, .int x4)] → zW G A s.heap (wM ad K I J B D) H locs → W p l e { frames := 0, cells := 0, slots := 0, locals := 0 } s m ([.ref (ad 0), .int a0, .int a1] : List Value).toArray below meth c H locs 0 0 (MQ below (va_Qi (fun (r : Int32) (u : zS) => Post r u.1 u.2.1 u.2.2.1 u.2.2.2) (fun u t => zPost G K A (wM ad K u.1 u.2.1 u.2.2.1 u.2.2.2) t) A) ([.ref (ad 0), .int a0, .int a1] : List Value).toArray s 0 0 A) (F0 m 222 ls [.int y0, .int y1, .ref (ad 43)]) := by
  obtain ⟨hx, hb, hr, hml, hts, hown, hlocks, hA, hK⟩ := id C
  intro x2 x3 x4 y0 y1 I J B D ls H locs hok hl hw
  unfold wc_LassoFinderModel_worth_222 at hok
  refine va_iast (f := (B 40)) hx hb hK hw.1 hw.2.1 hw.2.2 43 0 wM_a43 rfl hok.1 zd_LassoFinderModel_worth_222 (fun H locs w91 w92 w93 => ?_)
  have hok := hok.2
  have hw := wM_t43 ⟨w91, w92, w93⟩
  exact wJ_LassoFinderModel_worth_223 G K ad a0 a1 Post C K5 kh5 x2 x3 x4 I J (va_up B 40 (upd (B 40) y1.toNatClampNeg y0)) D ls H locs hok (lv_sub hl [0, 1, 2, 3] rfl) hw
set_option maxHeartbeats 8000000 in
set_option maxRecDepth 100000 in
theorem wJ_LassoFinderModel_worth_99 {p : Program} {l : Launch} {e : Env} {s : State} {m : MethodId} {below : List Frame} {meth : Method} {c : Code} {A : Nat → Prop} (G : va_G) (K : Nat → ClassId) (ad : Nat → Nat) (a0 : Int32) (a1 : Int32) (Post : Int32 → (Nat → Int32) → (Nat → Int64) → (Nat → Nat → Int32) → (Nat → Nat → Int64) → Prop) (C : zCx p s m ([.ref (ad 0), .int a0, .int a1] : List Value).toArray meth c A G K prog_14_method_13_code (some .int) 8 "LassoFinderModel") (K5 : Int32 → Int32 → Int32 → (Nat → Int32) → (Nat → Int64) → (Nat → Nat → Int32) → (Nat → Nat → Int64) → Prop) (kh5 : ∀ (x2 : Int32) (x3 : Int32) (x4 : Int32) (I : Nat → Int32) (J : Nat → Int64) (B : Nat → Nat → Int32) (D : Nat → Nat → Int64) (ls : Array Slot) (H : Heap) (locs : List Loc), K5 x2 x3 x4 I J B D → lv_has ls 8 [(0, .ref (ad 0)), (2, .int x2), (3, .int x3), (4, .int x4)] → zW G A s.heap (wM ad K I J B D) H locs → W p l e { frames := 0, cells := 0, slots := 0, locals := 0 } s m ([.ref (ad 0), .int a0, .int a1] : List Value).toArray below meth c H locs 0 0 (MQ below (va_Qi (fun (r : Int32) (u : zS) => Post r u.1 u.2.1 u.2.2.1 u.2.2.2) (fun u t => zPost G K A (wM ad K u.1 u.2.1 u.2.2.1 u.2.2.2) t) A) ([.ref (ad 0), .int a0, .int a1] : List Value).toArray s 0 0 A) (F0 m 5 ls [])) : ∀ (x2 : Int32) (x3 : Int32) (x4 : Int32) (y0 : Int32) (y1 : Int32) (I : Nat → Int32) (J : Nat → Int64) (B : Nat → Nat → Int32) (D : Nat → Nat → Int64) (ls : Array Slot) (H : Heap) (locs : List Loc), wc_LassoFinderModel_worth_99 a0 a1 K5 Post x2 x3 x4 y0 y1 I J B D → lv_has ls 8 [(0, .ref (ad 0)), (2, .int x2), (3, .int x3), (4, .int x4)] → zW G A s.heap (wM ad K I J B D) H locs → W p l e { frames := 0, cells := 0, slots := 0, locals := 0 } s m ([.ref (ad 0), .int a0, .int a1] : List Value).toArray below meth c H locs 0 0 (MQ below (va_Qi (fun (r : Int32) (u : zS) => Post r u.1 u.2.1 u.2.2.1 u.2.2.2) (fun u t => zPost G K A (wM ad K u.1 u.2.1 u.2.2.1 u.2.2.2) t) A) ([.ref (ad 0), .int a0, .int a1] : List Value).toArray s 0 0 A) (F0 m 99 ls [.int y0, .int y1, .ref (ad 43)]) := by
  obtain ⟨hx, hb, hr, hml, hts, hown, hlocks, hA, hK⟩ := id C
  intro x2 x3 x4 y0 y1 I J B D ls H locs hok hl hw
  unfold wc_LassoFinderModel_worth_99 at hok
  refine va_iast (f := (B 40)) hx hb hK hw.1 hw.2.1 hw.2.2 43 0 wM_a43 rfl hok.1 zd_LassoFinderModel_worth_99 (fun H locs w91 w92 w93 => ?_)
  have hok := hok.2
  have hw := wM_t43 ⟨w91, w92, w93⟩
  obtain ⟨z2, ez2⟩ : ∃ z : Int32, z = (x3 + 1) := ⟨_, rfl⟩
  have hok := hok z2 ez2
  refine lv_iinc (v := z2) hx hb zd_LassoFinderModel_worth_100 hl (k := 2) rfl ez2.symm (by decide) rfl (fun ls hl => ?_)
  have hl : lv_has ls 8 [(3, .int z2), (0, .ref (ad 0)), (2, .int x2), (4, .int x4)] := hl
  refine lv_goto (tgt := 223) hx hb zd_LassoFinderModel_worth_103 (by decide) ?_
  exact wJ_LassoFinderModel_worth_223 G K ad a0 a1 Post C K5 kh5 x2 z2 x4 I J (va_up B 40 (upd (B 40) y1.toNatClampNeg y0)) D ls H locs hok (lv_sub hl [1, 2, 0, 3] rfl) hw
set_option maxHeartbeats 8000000 in
set_option maxRecDepth 100000 in
theorem wB_LassoFinderModel_worth_5 {p : Program} {l : Launch} {e : Env} {s : State} {m : MethodId} {below : List Frame} {meth : Method} {c : Code} {A : Nat → Prop} (G : va_G) (K : Nat → ClassId) (ad : Nat → Nat) (a0 : Int32) (a1 : Int32) (Post : Int32 → (Nat → Int32) → (Nat → Int64) → (Nat → Nat → Int32) → (Nat → Nat → Int64) → Prop) (C : zCx p s m ([.ref (ad 0), .int a0, .int a1] : List Value).toArray meth c A G K prog_14_method_13_code (some .int) 8 "LassoFinderModel") (K5 : Int32 → Int32 → Int32 → (Nat → Int32) → (Nat → Int64) → (Nat → Nat → Int32) → (Nat → Nat → Int64) → Prop) (kh5 : ∀ (x2 : Int32) (x3 : Int32) (x4 : Int32) (I : Nat → Int32) (J : Nat → Int64) (B : Nat → Nat → Int32) (D : Nat → Nat → Int64) (ls : Array Slot) (H : Heap) (locs : List Loc), K5 x2 x3 x4 I J B D → lv_has ls 8 [(0, .ref (ad 0)), (2, .int x2), (3, .int x3), (4, .int x4)] → zW G A s.heap (wM ad K I J B D) H locs → W p l e { frames := 0, cells := 0, slots := 0, locals := 0 } s m ([.ref (ad 0), .int a0, .int a1] : List Value).toArray below meth c H locs 0 0 (MQ below (va_Qi (fun (r : Int32) (u : zS) => Post r u.1 u.2.1 u.2.2.1 u.2.2.2) (fun u t => zPost G K A (wM ad K u.1 u.2.1 u.2.2.1 u.2.2.2) t) A) ([.ref (ad 0), .int a0, .int a1] : List Value).toArray s 0 0 A) (F0 m 5 ls [])) : ∀ (x2 : Int32) (x3 : Int32) (x4 : Int32) (I : Nat → Int32) (J : Nat → Int64) (B : Nat → Nat → Int32) (D : Nat → Nat → Int64) (ls : Array Slot) (H : Heap) (locs : List Loc), wb_LassoFinderModel_worth_5 a0 a1 K5 Post x2 x3 x4 I J B D → lv_has ls 8 [(0, .ref (ad 0)), (2, .int x2), (3, .int x3), (4, .int x4)] → zW G A s.heap (wM ad K I J B D) H locs → W p l e { frames := 0, cells := 0, slots := 0, locals := 0 } s m ([.ref (ad 0), .int a0, .int a1] : List Value).toArray below meth c H locs 0 0 (MQ below (va_Qi (fun (r : Int32) (u : zS) => Post r u.1 u.2.1 u.2.2.1 u.2.2.2) (fun u t => zPost G K A (wM ad K u.1 u.2.1 u.2.2.1 u.2.2.2) t) A) ([.ref (ad 0), .int a0, .int a1] : List Value).toArray s 0 0 A) (F0 m 5 ls []) := by
  obtain ⟨hx, hb, hr, hml, hts, hown, hlocks, hA, hK⟩ := id C
  intro x2 x3 x4 I J B D ls H locs hok hl hw
  unfold wb_LassoFinderModel_worth_5 at hok
  refine lv_iload hx hb zd_LassoFinderModel_worth_5 (lv_at hl 3 rfl) ?_
  refine lv_iload_n hx hb zd_LassoFinderModel_worth_7 rfl (lv_at hl 1 rfl) ?_
  refine lv_icmp_ge (tgt := 229) hx hb zd_LassoFinderModel_worth_8 (by decide) (fun hc3 => ?_) (fun hc3 => ?_)
  · have hok := hok.1 hc3
    refine lv_aload_n hx hb zd_LassoFinderModel_worth_229 rfl (lv_at hl 0 rfl) ?_
    refine z_get (v := .ref (ad 43)) hx hb hts hown hK hw zZ12 0 wM_g0 60 (by decide) zm_277 rfl zd_LassoFinderModel_worth_230 ?_
    refine lv_iconst (v := 0) hx hb zd_LassoFinderModel_worth_233 (by decide) ?_
    refine va_iald (f := (B 40)) hx hb hK hw.1 43 0 wM_a43 rfl hok.1 zd_LassoFinderModel_worth_234 ?_
    have hok := hok.2
    refine lv_topi (fun z4 ez4 => ?_)
    have hok := hok z4 ez4
    exact (z_iret (u := (I, J, B, D)) hx hb hr hlocks rfl hw (List.range 58) wM_all wM_nd hok (Nat.le_of_ble_eq_true rfl) (Nat.le_of_ble_eq_true rfl) zd_LassoFinderModel_worth_235)
  · have hok := hok.2 hc3
    refine lv_aload_n hx hb zd_LassoFinderModel_worth_11 rfl (lv_at hl 0 rfl) ?_
    refine z_get (v := .ref (ad 26)) hx hb hts hown hK hw zZ12 0 wM_g0 37 (by decide) zm_260 rfl zd_LassoFinderModel_worth_12 ?_
    refine lv_iload hx hb zd_LassoFinderModel_worth_15 (lv_at hl 3 rfl) ?_
    refine va_iald (f := (B 24)) hx hb hK hw.1 26 0 wM_a26 rfl hok.1 zd_LassoFinderModel_worth_17 ?_
    have hok := hok.2
    refine lv_topi (fun z5 ez5 => ?_)
    have hok := hok z5 ez5
    refine lv_istore hx hb zd_LassoFinderModel_worth_18 hl (by decide) rfl (fun ls hl => ?_)
    have hl : lv_has ls 8 [(5, .int z5), (0, .ref (ad 0)), (2, .int x2), (3, .int x3), (4, .int x4)] := hl
    refine lv_iload hx hb zd_LassoFinderModel_worth_20 (lv_at hl 0 rfl) ?_
    refine lv_bipush (v := 8) hx hb zd_LassoFinderModel_worth_22 (by decide) ?_
    refine lv_icmp_ge (tgt := 41) hx hb zd_LassoFinderModel_worth_24 (by decide) (fun hc6 => ?_) (fun hc6 => ?_)
    · have hok := hok.1 hc6
      refine lv_iload hx hb zd_LassoFinderModel_worth_41 (lv_at hl 0 rfl) ?_
      refine lv_bipush (v := 16) hx hb zd_LassoFinderModel_worth_43 (by decide) ?_
      refine lv_icmp_ge (tgt := 106) hx hb zd_LassoFinderModel_worth_45 (by decide) (fun hc7 => ?_) (fun hc7 => ?_)
      · have hok := hok.1 hc7
        obtain ⟨z8, ez8⟩ : ∃ z : Int32, z = (x3 + (-1)) := ⟨_, rfl⟩
        have hok := hok z8 ez8
        refine lv_iinc (v := z8) hx hb zd_LassoFinderModel_worth_106 hl (k := 3) rfl ez8.symm (by decide) rfl (fun ls hl => ?_)
        have hl : lv_has ls 8 [(3, .int z8), (5, .int z5), (0, .ref (ad 0)), (2, .int x2), (4, .int x4)] := hl
        refine lv_aload_n hx hb zd_LassoFinderModel_worth_109 rfl (lv_at hl 2 rfl) ?_
        refine z_get (v := .ref (ad 43)) hx hb hts hown hK hw zZ12 0 wM_g0 60 (by decide) zm_277 rfl zd_LassoFinderModel_worth_110 ?_
        refine lv_iload_n hx hb zd_LassoFinderModel_worth_113 rfl (lv_at hl 0 rfl) ?_
        refine lv_iconst (v := 1) hx hb zd_LassoFinderModel_worth_114 (by decide) ?_
        refine lv_isub hx hb zd_LassoFinderModel_worth_115 ?_
        refine lv_topi (fun z9 ez9 => ?_)
        have hok := hok z9 ez9
        refine va_iald (f := (B 40)) hx hb hK hw.1 43 0 wM_a43 rfl hok.1 zd_LassoFinderModel_worth_116 ?_
        have hok := hok.2
        refine lv_topi (fun z10 ez10 => ?_)
        have hok := hok z10 ez10
        refine lv_istore hx hb zd_LassoFinderModel_worth_117 hl (by decide) rfl (fun ls hl => ?_)
        have hl : lv_has ls 8 [(6, .int z10), (3, .int z8), (5, .int z5), (0, .ref (ad 0)), (2, .int x2), (4, .int x4)] := hl
        refine lv_aload_n hx hb zd_LassoFinderModel_worth_119 rfl (lv_at hl 3 rfl) ?_
        refine z_get (v := .ref (ad 43)) hx hb hts hown hK hw zZ12 0 wM_g0 60 (by decide) zm_277 rfl zd_LassoFinderModel_worth_120 ?_
        refine lv_iload_n hx hb zd_LassoFinderModel_worth_123 rfl (lv_at hl 1 rfl) ?_
        refine va_iald (f := (B 40)) hx hb hK hw.1 43 0 wM_a43 rfl hok.1 zd_LassoFinderModel_worth_124 ?_
        have hok := hok.2
        refine lv_topi (fun z11 ez11 => ?_)
        have hok := hok z11 ez11
        refine lv_istore hx hb zd_LassoFinderModel_worth_125 hl (by decide) rfl (fun ls hl => ?_)
        have hl : lv_has ls 8 [(7, .int z11), (6, .int z10), (3, .int z8), (5, .int z5), (0, .ref (ad 0)), (2, .int x2), (4, .int x4)] := hl
        refine lv_aload_n hx hb zd_LassoFinderModel_worth_127 rfl (lv_at hl 4 rfl) ?_
        refine z_get (v := .ref (ad 43)) hx hb hts hown hK hw zZ12 0 wM_g0 60 (by decide) zm_277 rfl zd_LassoFinderModel_worth_128 ?_
        refine lv_iload_n hx hb zd_LassoFinderModel_worth_131 rfl (lv_at hl 2 rfl) ?_
        refine lv_iconst (v := 1) hx hb zd_LassoFinderModel_worth_132 (by decide) ?_
        refine lv_isub hx hb zd_LassoFinderModel_worth_133 ?_
        refine lv_topi (fun z12 ez12 => ?_)
        have hok := hok z12 ez12
        refine lv_iload hx hb zd_LassoFinderModel_worth_134 (lv_at hl 3 rfl) ?_
        refine lv_bipush (v := 16) hx hb zd_LassoFinderModel_worth_136 (by decide) ?_
        refine lv_icmp_ne (tgt := 152) hx hb zd_LassoFinderModel_worth_138 (by decide) (fun hc13 => ?_) (fun hc13 => ?_)
        · have hok := hok.1 hc13
          refine lv_iload hx hb zd_LassoFinderModel_worth_152 (lv_at hl 3 rfl) ?_
          refine lv_bipush (v := 17) hx hb zd_LassoFinderModel_worth_154 (by decide) ?_
          refine lv_icmp_ne (tgt := 170) hx hb zd_LassoFinderModel_worth_156 (by decide) (fun hc14 => ?_) (fun hc14 => ?_)
          · have hok := hok.1 hc14
            refine lv_iload hx hb zd_LassoFinderModel_worth_170 (lv_at hl 3 rfl) ?_
            refine lv_bipush (v := 18) hx hb zd_LassoFinderModel_worth_172 (by decide) ?_
            refine lv_icmp_ne (tgt := 188) hx hb zd_LassoFinderModel_worth_174 (by decide) (fun hc15 => ?_) (fun hc15 => ?_)
            · have hok := hok.1 hc15
              refine lv_iload hx hb zd_LassoFinderModel_worth_188 (lv_at hl 3 rfl) ?_
              refine lv_bipush (v := 19) hx hb zd_LassoFinderModel_worth_190 (by decide) ?_
              refine lv_icmp_ne (tgt := 210) hx hb zd_LassoFinderModel_worth_192 (by decide) (fun hc16 => ?_) (fun hc16 => ?_)
              · have hok := hok.1 hc16
                refine lv_iload hx hb zd_LassoFinderModel_worth_210 (lv_at hl 1 rfl) ?_
                refine lv_iload hx hb zd_LassoFinderModel_worth_212 (lv_at hl 0 rfl) ?_
                refine lv_icmp_ge (tgt := 221) hx hb zd_LassoFinderModel_worth_214 (by decide) (fun hc17 => ?_) (fun hc17 => ?_)
                · have hok := hok.1 hc17
                  refine lv_iconst (v := 0) hx hb zd_LassoFinderModel_worth_221 (by decide) ?_
                  exact wJ_LassoFinderModel_worth_222 G K ad a0 a1 Post C K5 kh5 x2 z8 x4 0 z12 I J B D ls H locs hok (lv_sub hl [4, 5, 2, 6] rfl) hw
                · have hok := hok.2 hc17
                  refine lv_iconst (v := 1) hx hb zd_LassoFinderModel_worth_217 (by decide) ?_
                  refine lv_goto (tgt := 222) hx hb zd_LassoFinderModel_worth_218 (by decide) ?_
                  exact wJ_LassoFinderModel_worth_222 G K ad a0 a1 Post C K5 kh5 x2 z8 x4 1 z12 I J B D ls H locs hok (lv_sub hl [4, 5, 2, 6] rfl) hw
              · have hok := hok.2 hc16
                refine lv_iload hx hb zd_LassoFinderModel_worth_195 (lv_at hl 1 rfl) ?_
                refine lv_iload hx hb zd_LassoFinderModel_worth_197 (lv_at hl 0 rfl) ?_
                refine lv_icmp_ne (tgt := 206) hx hb zd_LassoFinderModel_worth_199 (by decide) (fun hc18 => ?_) (fun hc18 => ?_)
                · have hok := hok.1 hc18
                  refine lv_iconst (v := 0) hx hb zd_LassoFinderModel_worth_206 (by decide) ?_
                  refine lv_goto (tgt := 222) hx hb zd_LassoFinderModel_worth_207 (by decide) ?_
                  exact wJ_LassoFinderModel_worth_222 G K ad a0 a1 Post C K5 kh5 x2 z8 x4 0 z12 I J B D ls H locs hok (lv_sub hl [4, 5, 2, 6] rfl) hw
                · have hok := hok.2 hc18
                  refine lv_iconst (v := 1) hx hb zd_LassoFinderModel_worth_202 (by decide) ?_
                  refine lv_goto (tgt := 222) hx hb zd_LassoFinderModel_worth_203 (by decide) ?_
                  exact wJ_LassoFinderModel_worth_222 G K ad a0 a1 Post C K5 kh5 x2 z8 x4 1 z12 I J B D ls H locs hok (lv_sub hl [4, 5, 2, 6] rfl) hw
            · have hok := hok.2 hc15
              refine lv_iload hx hb zd_LassoFinderModel_worth_177 (lv_at hl 1 rfl) ?_
              refine lv_iload hx hb zd_LassoFinderModel_worth_179 (lv_at hl 0 rfl) ?_
              refine lv_imul hx hb zd_LassoFinderModel_worth_181 ?_
              refine lv_topi (fun z19 ez19 => ?_)
              have hok := hok z19 ez19
              refine lv_bipush (v := 7) hx hb zd_LassoFinderModel_worth_182 (by decide) ?_
              refine lv_iand hx hb zd_LassoFinderModel_worth_184 ?_
              refine lv_topi (fun z20 ez20 => ?_)
              have hok := hok z20 ez20
              refine lv_goto (tgt := 222) hx hb zd_LassoFinderModel_worth_185 (by decide) ?_
              exact wJ_LassoFinderModel_worth_222 G K ad a0 a1 Post C K5 kh5 x2 z8 x4 z20 z12 I J B D ls H locs hok (lv_sub hl [4, 5, 2, 6] rfl) hw
          · have hok := hok.2 hc14
            refine lv_iload hx hb zd_LassoFinderModel_worth_159 (lv_at hl 1 rfl) ?_
            refine lv_iload hx hb zd_LassoFinderModel_worth_161 (lv_at hl 0 rfl) ?_
            refine lv_isub hx hb zd_LassoFinderModel_worth_163 ?_
            refine lv_topi (fun z21 ez21 => ?_)
            have hok := hok z21 ez21
            refine lv_bipush (v := 7) hx hb zd_LassoFinderModel_worth_164 (by decide) ?_
            refine lv_iand hx hb zd_LassoFinderModel_worth_166 ?_
            refine lv_topi (fun z22 ez22 => ?_)
            have hok := hok z22 ez22
            refine lv_goto (tgt := 222) hx hb zd_LassoFinderModel_worth_167 (by decide) ?_
            exact wJ_LassoFinderModel_worth_222 G K ad a0 a1 Post C K5 kh5 x2 z8 x4 z22 z12 I J B D ls H locs hok (lv_sub hl [4, 5, 2, 6] rfl) hw
        · have hok := hok.2 hc13
          refine lv_iload hx hb zd_LassoFinderModel_worth_141 (lv_at hl 1 rfl) ?_
          refine lv_iload hx hb zd_LassoFinderModel_worth_143 (lv_at hl 0 rfl) ?_
          refine lv_iadd hx hb zd_LassoFinderModel_worth_145 ?_
          refine lv_topi (fun z23 ez23 => ?_)
          have hok := hok z23 ez23
          refine lv_bipush (v := 7) hx hb zd_LassoFinderModel_worth_146 (by decide) ?_
          refine lv_iand hx hb zd_LassoFinderModel_worth_148 ?_
          refine lv_topi (fun z24 ez24 => ?_)
          have hok := hok z24 ez24
          refine lv_goto (tgt := 222) hx hb zd_LassoFinderModel_worth_149 (by decide) ?_
          exact wJ_LassoFinderModel_worth_222 G K ad a0 a1 Post C K5 kh5 x2 z8 x4 z24 z12 I J B D ls H locs hok (lv_sub hl [4, 5, 2, 6] rfl) hw
      · have hok := hok.2 hc7
        refine lv_aload_n hx hb zd_LassoFinderModel_worth_48 rfl (lv_at hl 1 rfl) ?_
        refine z_get (v := .ref (ad 43)) hx hb hts hown hK hw zZ12 0 wM_g0 60 (by decide) zm_277 rfl zd_LassoFinderModel_worth_49 ?_
        refine lv_iload_n hx hb zd_LassoFinderModel_worth_52 rfl (lv_at hl 3 rfl) ?_
        refine lv_aload_n hx hb zd_LassoFinderModel_worth_53 rfl (lv_at hl 1 rfl) ?_
        refine z_get (v := .ref (ad 2)) hx hb hts hown hK hw zZ12 0 wM_g0 9 (by decide) zm_236 rfl zd_LassoFinderModel_worth_54 ?_
        refine lv_iload hx hb zd_LassoFinderModel_worth_57 (lv_at hl 0 rfl) ?_
        refine lv_bipush (v := 8) hx hb zd_LassoFinderModel_worth_59 (by decide) ?_
        refine lv_isub hx hb zd_LassoFinderModel_worth_61 ?_
        refine lv_topi (fun z25 ez25 => ?_)
        have hok := hok z25 ez25
        refine va_iald (f := (B 1)) hx hb hK hw.1 2 0 wM_a2 rfl hok.1 zd_LassoFinderModel_worth_62 ?_
        have hok := hok.2
        refine lv_topi (fun z26 ez26 => ?_)
        have hok := hok z26 ez26
        refine lv_if_lt (tgt := 84) hx hb zd_LassoFinderModel_worth_63 (by decide) (fun hc27 => ?_) (fun hc27 => ?_)
        · have hok := hok.1 hc27
          refine lv_aload_n hx hb zd_LassoFinderModel_worth_84 rfl (lv_at hl 1 rfl) ?_
          refine z_get (v := .ref (ad 40)) hx hb hts hown hK hw zZ12 0 wM_g0 56 (by decide) zm_274 rfl zd_LassoFinderModel_worth_85 ?_
          refine lv_aload_n hx hb zd_LassoFinderModel_worth_88 rfl (lv_at hl 1 rfl) ?_
          refine z_get (v := .ref (ad 3)) hx hb hts hown hK hw zZ12 0 wM_g0 10 (by decide) zm_237 rfl zd_LassoFinderModel_worth_89 ?_
          refine lv_iload hx hb zd_LassoFinderModel_worth_92 (lv_at hl 0 rfl) ?_
          refine lv_bipush (v := 8) hx hb zd_LassoFinderModel_worth_94 (by decide) ?_
          refine lv_isub hx hb zd_LassoFinderModel_worth_96 ?_
          refine lv_topi (fun z28 ez28 => ?_)
          have hok := hok z28 ez28
          refine va_iald (f := (B 2)) hx hb hK hw.1 3 0 wM_a3 rfl hok.1 zd_LassoFinderModel_worth_97 ?_
          have hok := hok.2
          refine lv_topi (fun z29 ez29 => ?_)
          have hok := hok z29 ez29
          refine va_iald (f := (B 37)) hx hb hK hw.1 40 0 wM_a40 rfl hok.1 zd_LassoFinderModel_worth_98 ?_
          have hok := hok.2
          refine lv_topi (fun z30 ez30 => ?_)
          have hok := hok z30 ez30
          exact wJ_LassoFinderModel_worth_99 G K ad a0 a1 Post C K5 kh5 x2 x3 x4 z30 x3 I J B D ls H locs hok (lv_sub hl [1, 2, 3, 4] rfl) hw
        · have hok := hok.2 hc27
          refine lv_aload_n hx hb zd_LassoFinderModel_worth_66 rfl (lv_at hl 1 rfl) ?_
          refine z_get (v := .ref (ad 39)) hx hb hts hown hK hw zZ12 0 wM_g0 55 (by decide) zm_273 rfl zd_LassoFinderModel_worth_67 ?_
          refine lv_aload_n hx hb zd_LassoFinderModel_worth_70 rfl (lv_at hl 1 rfl) ?_
          refine z_get (v := .ref (ad 2)) hx hb hts hown hK hw zZ12 0 wM_g0 9 (by decide) zm_236 rfl zd_LassoFinderModel_worth_71 ?_
          refine lv_iload hx hb zd_LassoFinderModel_worth_74 (lv_at hl 0 rfl) ?_
          refine lv_bipush (v := 8) hx hb zd_LassoFinderModel_worth_76 (by decide) ?_
          refine lv_isub hx hb zd_LassoFinderModel_worth_78 ?_
          refine lv_topi (fun z31 ez31 => ?_)
          have hok := hok z31 ez31
          refine va_iald (f := (B 1)) hx hb hK hw.1 2 0 wM_a2 rfl hok.1 zd_LassoFinderModel_worth_79 ?_
          have hok := hok.2
          refine lv_topi (fun z32 ez32 => ?_)
          have hok := hok z32 ez32
          refine va_iald (f := (B 36)) hx hb hK hw.1 39 0 wM_a39 rfl hok.1 zd_LassoFinderModel_worth_80 ?_
          have hok := hok.2
          refine lv_topi (fun z33 ez33 => ?_)
          have hok := hok z33 ez33
          refine lv_goto (tgt := 99) hx hb zd_LassoFinderModel_worth_81 (by decide) ?_
          exact wJ_LassoFinderModel_worth_99 G K ad a0 a1 Post C K5 kh5 x2 x3 x4 z33 x3 I J B D ls H locs hok (lv_sub hl [1, 2, 3, 4] rfl) hw
    · have hok := hok.2 hc6
      refine lv_aload_n hx hb zd_LassoFinderModel_worth_27 rfl (lv_at hl 1 rfl) ?_
      refine z_get (v := .ref (ad 43)) hx hb hts hown hK hw zZ12 0 wM_g0 60 (by decide) zm_277 rfl zd_LassoFinderModel_worth_28 ?_
      refine lv_iload_n hx hb zd_LassoFinderModel_worth_31 rfl (lv_at hl 3 rfl) ?_
      refine lv_iload hx hb zd_LassoFinderModel_worth_32 (lv_at hl 0 rfl) ?_
      refine va_iast (f := (B 40)) hx hb hK hw.1 hw.2.1 hw.2.2 43 0 wM_a43 rfl hok.1 zd_LassoFinderModel_worth_34 (fun H locs w91 w92 w93 => ?_)
      have hok := hok.2
      have hw := wM_t43 ⟨w91, w92, w93⟩
      obtain ⟨z34, ez34⟩ : ∃ z : Int32, z = (x3 + 1) := ⟨_, rfl⟩
      have hok := hok z34 ez34
      refine lv_iinc (v := z34) hx hb zd_LassoFinderModel_worth_35 hl (k := 3) rfl ez34.symm (by decide) rfl (fun ls hl => ?_)
      have hl : lv_has ls 8 [(3, .int z34), (5, .int z5), (0, .ref (ad 0)), (2, .int x2), (4, .int x4)] := hl
      refine lv_goto (tgt := 223) hx hb zd_LassoFinderModel_worth_38 (by decide) ?_
      exact wJ_LassoFinderModel_worth_223 G K ad a0 a1 Post C K5 kh5 x2 z34 x4 I J (va_up B 40 (upd (B 40) x3.toNatClampNeg z5)) D ls H locs hok (lv_sub hl [2, 3, 0, 4] rfl) hw
theorem wL_LassoFinderModel_worth_5 {p : Program} {l : Launch} {e : Env} {s : State} {m : MethodId} {below : List Frame} {meth : Method} {c : Code} {A : Nat → Prop} (G : va_G) (K : Nat → ClassId) (ad : Nat → Nat) (a0 : Int32) (a1 : Int32) (Post : Int32 → (Nat → Int32) → (Nat → Int64) → (Nat → Nat → Int32) → (Nat → Nat → Int64) → Prop) (C : zCx p s m ([.ref (ad 0), .int a0, .int a1] : List Value).toArray meth c A G K prog_14_method_13_code (some .int) 8 "LassoFinderModel") : ∀ (n : Nat) (x2 : Int32) (x3 : Int32) (x4 : Int32) (I : Nat → Int32) (J : Nat → Int64) (B : Nat → Nat → Int32) (D : Nat → Nat → Int64) (ls : Array Slot) (H : Heap) (locs : List Loc), wl_LassoFinderModel_worth_5 a0 a1 Post n x2 x3 x4 I J B D → lv_has ls 8 [(0, .ref (ad 0)), (2, .int x2), (3, .int x3), (4, .int x4)] → zW G A s.heap (wM ad K I J B D) H locs → W p l e { frames := 0, cells := 0, slots := 0, locals := 0 } s m ([.ref (ad 0), .int a0, .int a1] : List Value).toArray below meth c H locs 0 0 (MQ below (va_Qi (fun (r : Int32) (u : zS) => Post r u.1 u.2.1 u.2.2.1 u.2.2.2) (fun u t => zPost G K A (wM ad K u.1 u.2.1 u.2.2.1 u.2.2.2) t) A) ([.ref (ad 0), .int a0, .int a1] : List Value).toArray s 0 0 A) (F0 m 5 ls []) := by
  intro n
  induction n with
  | zero => intro x2 x3 x4 I J B D ls H locs hok; exact hok.elim
  | succ n ih => exact wB_LassoFinderModel_worth_5 G K ad a0 a1 Post C (wl_LassoFinderModel_worth_5 a0 a1 Post n) ih
set_option maxHeartbeats 8000000 in
set_option maxRecDepth 100000 in
theorem w_LassoFinderModel_worth (l : Launch) (G : va_G) (K : Nat → ClassId) (ad : Nat → Nat) (I : Nat → Int32) (J : Nat → Int64) (B : Nat → Nat → Int32) (D : Nat → Nat → Int64) (a0 : Int32) (a1 : Int32) (Post : Int32 → (Nat → Int32) → (Nat → Int64) → (Nat → Nat → Int32) → (Nat → Nat → Int64) → Prop) (sz : Nat) (hok : wp_LassoFinderModel_worth I J B D a0 a1 Post) : Met l zy_LassoFinderModel_worth (Cond.code zy_LassoFinderModel_worth prog_14_method_13_code 8 (some .int) :: zTB) { frames := 0, cells := 0, slots := 0, locals := 0 } (va_Pc [.ref (ad 0), .int a0, .int a1] (zPre G K (wM ad K I J B D) sz)) (va_Qi (fun (r : Int32) (u : zS) => Post r u.1 u.2.1 u.2.2.1 u.2.2.2) (fun u t => zPost G K (va_A (wM ad K I J B D) sz) (wM ad K u.1 u.2.1 u.2.2.1 u.2.2.2) t) (va_A (wM ad K I J B D) sz)) 0 0 (va_A (wM ad K I J B D) sz) := by
  refine zMet (y := zy_LassoFinderModel_worth) (av := [.ref (ad 0), .int a0, .int a1]) (maxL := 8) (cc := prog_14_method_13_code) (ret := (some .int)) (W0 := (wM ad K I J B D)) (sz := sz) (G := G) (K := K) (wt := zTB) (mc := 0) (ms := 0) (Qf := fun A => va_Qi (fun (r : Int32) (u : zS) => Post r u.1 u.2.1 u.2.2.1 u.2.2.2) (fun u t => zPost G K A (wM ad K u.1 u.2.1 u.2.2.1 u.2.2.2) t) A) (by decide) (Nat.le_of_ble_eq_true rfl) ?_
  intro p e s m below meth c ls A hx hb hr hml hts hown hlocks hin hA hK H locs hw hsz hl
  clear hsz
  have hown : s.vm.findClass "LassoFinderModel" = some m.cls := hown
  have C : zCx p s m ([.ref (ad 0), .int a0, .int a1] : List Value).toArray meth c A G K prog_14_method_13_code (some .int) 8 "LassoFinderModel" := ⟨hx, hb, hr, hml, hts, hown, hlocks, hA, hK⟩
  have hl : lv_has ls 8 [(0, .ref (ad 0)), (1, .int a0), (2, .int a1)] := hl
  have hw : zW G A s.heap (wM ad K I J B D) H locs := hw
  unfold wp_LassoFinderModel_worth at hok
  refine lv_iconst (v := 0) hx hb zd_LassoFinderModel_worth_0 (by decide) ?_
  refine lv_istore_n hx hb zd_LassoFinderModel_worth_1 rfl hl (by decide) rfl (fun ls hl => ?_)
  have hl : lv_has ls 8 [(3, .int 0), (0, .ref (ad 0)), (1, .int a0), (2, .int a1)] := hl
  refine lv_iload_n hx hb zd_LassoFinderModel_worth_2 rfl (lv_at hl 2 rfl) ?_
  refine lv_istore hx hb zd_LassoFinderModel_worth_3 hl (by decide) rfl (fun ls hl => ?_)
  have hl : lv_has ls 8 [(4, .int a0), (3, .int 0), (0, .ref (ad 0)), (1, .int a0), (2, .int a1)] := hl
  obtain ⟨n9, hok⟩ := hok
  exact wL_LassoFinderModel_worth_5 G K ad a0 a1 Post C n9 a1 0 a0 I J B D ls H locs hok (lv_sub hl [2, 4, 1, 0] rfl) hw
def wc_LassoFinderModel_act_310 (a0 : Int32) (a1 : Int32) (Post : (Nat → Int32) → (Nat → Int64) → (Nat → Nat → Int32) → (Nat → Nat → Int64) → Prop)  (I : Nat → Int32) (J : Nat → Int64) (B : Nat → Nat → Int32) (D : Nat → Nat → Int64) : Prop :=
  Post I J B D
def wc_LassoFinderModel_act_307 (a0 : Int32) (a1 : Int32) (Post : (Nat → Int32) → (Nat → Int64) → (Nat → Nat → Int32) → (Nat → Nat → Int64) → Prop) (y0 : Int32) (I : Nat → Int32) (J : Nat → Int64) (B : Nat → Nat → Int32) (D : Nat → Nat → Int64) : Prop :=
  wc_LassoFinderModel_act_310 a0 a1 Post (upd I 17 y0) J B D
def wc_LassoFinderModel_act_258 (a0 : Int32) (a1 : Int32) (Post : (Nat → Int32) → (Nat → Int64) → (Nat → Nat → Int32) → (Nat → Nat → Int64) → Prop) (x2 : Int32) (y0 : Int32) (I : Nat → Int32) (J : Nat → Int64) (B : Nat → Nat → Int32) (D : Nat → Nat → Int64) : Prop :=
  ((x2 < 0 → wc_LassoFinderModel_act_310 a0 a1 Post (upd I 17 y0) J B D) ∧ (¬ x2 < 0 → vp_in x2 48 ∧ ∀ z2 : Int32, z2 = ((B 18) x2.toNatClampNeg) → vp_in z2 140 ∧ ∀ z3 : Int32, z3 = ((B 6) z2.toNatClampNeg) → vp_in x2 48 ∧ ∀ z4 : Int32, z4 = ((B 18) x2.toNatClampNeg) → wp_LassoFinderModel_goesOn (upd I 17 y0) J B D z3 z4 (fun r5 I5 J5 B5 D5 => ((r5 = 0 → wc_LassoFinderModel_act_307 a0 a1 Post (I5 17) I5 J5 B5 D5) ∧ (¬ r5 = 0 → wc_LassoFinderModel_act_307 a0 a1 Post z3 I5 J5 B5 D5)))))
def wc_LassoFinderModel_act_241 (a0 : Int32) (a1 : Int32) (Post : (Nat → Int32) → (Nat → Int64) → (Nat → Nat → Int32) → (Nat → Nat → Int64) → Prop) (x2 : Int32) (x3 : Int32) (x4 : Int32) (I : Nat → Int32) (J : Nat → Int64) (B : Nat → Nat → Int32) (D : Nat → Nat → Int64) : Prop :=
  wp_LassoFinderModel_goesOn I J B D x4 x3 (fun r7 I7 J7 B7 D7 => ((r7 = 0 → wc_LassoFinderModel_act_258 a0 a1 Post x2 (-1) I7 J7 B7 D7) ∧ (¬ r7 = 0 → wc_LassoFinderModel_act_258 a0 a1 Post x2 x4 I7 J7 B7 D7)))
def wb_LassoFinderModel_act_192 (a0 : Int32) (a1 : Int32) (K192 : Int32 → Int32 → Int32 → Int32 → Int32 → (Nat → Int32) → (Nat → Int64) → (Nat → Nat → Int32) → (Nat → Nat → Int64) → Prop) (Post : (Nat → Int32) → (Nat → Int64) → (Nat → Nat → Int32) → (Nat → Nat → Int64) → Prop) (x2 : Int32) (x3 : Int32) (x4 : Int32) (x5 : Int32) (x7 : Int32) (I : Nat → Int32) (J : Nat → Int64) (B : Nat → Nat → Int32) (D : Nat → Nat → Int64) : Prop :=
  (((3 : Int32) ≤ x7 → vp_in x5 2 ∧ ∀ z10 : Int32, z10 = ((B 37) x5.toNatClampNeg) → ∀ z11 : Int32, z11 = (z10 - 1) → vp_in x5 2 ∧ wc_LassoFinderModel_act_241 a0 a1 Post x2 x3 x4 I J (va_up B 37 (upd (B 37) x5.toNatClampNeg z11)) D) ∧ (¬ (3 : Int32) ≤ x7 → ∀ z12 : Int32, z12 = (3 * x5) → ∀ z13 : Int32, z13 = (z12 + x7) → ∀ z14 : Int32, z14 = (z13 - 1) → ∀ z15 : Int32, z15 = (3 * x5) → ∀ z16 : Int32, z16 = (z15 + x7) → vp_in z16 6 ∧ ∀ z17 : Int32, z17 = ((B 38) z16.toNatClampNeg) → vp_in z14 6 ∧ ∀ z18 : Int32, z18 = (x7 + 1) → K192 x2 x3 x4 x5 z18 I J (va_up B 38 (upd (B 38) z14.toNatClampNeg z17)) D))
def wl_LassoFinderModel_act_192 (a0 : Int32) (a1 : Int32) (Post : (Nat → Int32) → (Nat → Int64) → (Nat → Nat → Int32) → (Nat → Nat → Int64) → Prop) (n : Nat) : Int32 → Int32 → Int32 → Int32 → Int32 → (Nat → Int32) → (Nat → Int64) → (Nat → Nat → Int32) → (Nat → Nat → Int64) → Prop := Nat.rec (fun _ _ _ _ _ _ _ _ _ => False) (fun _ r => wb_LassoFinderModel_act_192 a0 a1 r Post) n
def wc_LassoFinderModel_act_116 (a0 : Int32) (a1 : Int32) (Post : (Nat → Int32) → (Nat → Int64) → (Nat → Nat → Int32) → (Nat → Nat → Int64) → Prop) (x2 : Int32) (x3 : Int32) (x4 : Int32) (x5 : Int32) (x6 : Int32) (I : Nat → Int32) (J : Nat → Int64) (B : Nat → Nat → Int32) (D : Nat → Nat → Int64) : Prop :=
  vp_in x3 140 ∧ ∀ z19 : Int32, z19 = ((B 5) x3.toNatClampNeg) → ((¬ z19 = 2 → vp_in x3 140 ∧ ∀ z21 : Int32, z21 = ((B 5) x3.toNatClampNeg) → ((¬ z21 = 3 → wc_LassoFinderModel_act_241 a0 a1 Post x2 x3 x4 I J B D) ∧ (z21 = 3 → vp_in x3 140 ∧ ∀ z23 : Int32, z23 = ((B 13) x3.toNatClampNeg) → ∀ z24 : Int32, z24 = (3 * x5) → vp_in z24 6 ∧ ∀ z25 : Int32, z25 = ((B 38) z24.toNatClampNeg) → vp_in z23 6 ∧ ∃ n : Nat, wl_LassoFinderModel_act_192 a0 a1 Post n x2 x3 x4 x5 1 I J (va_up B 36 (upd (B 36) z23.toNatClampNeg z25)) D))) ∧ (z19 = 2 → ∀ z26 : Int32, z26 = (3 * x5) → vp_in x5 2 ∧ ∀ z27 : Int32, z27 = ((B 37) x5.toNatClampNeg) → ∀ z28 : Int32, z28 = (z26 + z27) → vp_in z28 6 ∧ vp_in x5 2 ∧ ∀ z29 : Int32, z29 = ((B 37) x5.toNatClampNeg) → ∀ z30 : Int32, z30 = (z29 + 1) → vp_in x5 2 ∧ wc_LassoFinderModel_act_241 a0 a1 Post x2 x3 x4 I J (va_up (va_up B 38 (upd (B 38) z28.toNatClampNeg x6)) 37 (upd (B 37) x5.toNatClampNeg z30)) D))
def wc_LassoFinderModel_act_58 (a0 : Int32) (a1 : Int32) (Post : (Nat → Int32) → (Nat → Int64) → (Nat → Nat → Int32) → (Nat → Nat → Int64) → Prop) (x2 : Int32) (x3 : Int32) (x4 : Int32) (x5 : Int32) (y0 : Int32) (I : Nat → Int32) (J : Nat → Int64) (B : Nat → Nat → Int32) (D : Nat → Nat → Int64) : Prop :=
  vp_in x3 140 ∧ ∀ z31 : Int32, z31 = ((B 5) x3.toNatClampNeg) → ((¬ z31 = 0 → vp_in x3 140 ∧ ∀ z33 : Int32, z33 = ((B 5) x3.toNatClampNeg) → ((¬ z33 = 2 → wc_LassoFinderModel_act_116 a0 a1 Post x2 x3 x4 x5 y0 I J B D) ∧ (z33 = 2 → ((x2 < 0 → wc_LassoFinderModel_act_116 a0 a1 Post x2 x3 x4 x5 y0 I J B D) ∧ (¬ x2 < 0 → vp_in x2 48 ∧ ∀ z36 : Int32, z36 = ((B 18) x2.toNatClampNeg) → vp_in z36 140 ∧ ∀ z37 : Int32, z37 = ((B 13) z36.toNatClampNeg) → vp_in z37 6 ∧ wc_LassoFinderModel_act_241 a0 a1 Post x2 x3 x4 I J (va_up B 36 (upd (B 36) z37.toNatClampNeg y0)) D))))) ∧ (z31 = 0 → vp_in x5 6 ∧ wc_LassoFinderModel_act_241 a0 a1 Post x2 x3 x4 I J (va_up B 36 (upd (B 36) x5.toNatClampNeg y0)) D))
def wp_LassoFinderModel_act (I : Nat → Int32) (J : Nat → Int64) (B : Nat → Nat → Int32) (D : Nat → Nat → Int64) (a0 : Int32) (a1 : Int32) (Post : (Nat → Int32) → (Nat → Int64) → (Nat → Nat → Int32) → (Nat → Nat → Int64) → Prop) : Prop :=
  vp_in a0 48 ∧ ∀ z38 : Int32, z38 = ((B 18) a0.toNatClampNeg) → vp_in z38 140 ∧ ∀ z39 : Int32, z39 = ((B 6) z38.toNatClampNeg) → vp_in z38 140 ∧ ∀ z40 : Int32, z40 = ((B 12) z38.toNatClampNeg) → vp_in z38 140 ∧ ∀ z41 : Int32, z41 = ((B 14) z38.toNatClampNeg) → vp_in z38 140 ∧ ∀ z42 : Int32, z42 = ((B 15) z38.toNatClampNeg) → ((z42 ≤ z41 → wc_LassoFinderModel_act_58 a0 a1 Post a1 z38 z39 z40 0 I J B D) ∧ (¬ z42 ≤ z41 → vp_in z38 140 ∧ ∀ z44 : Int32, z44 = ((B 14) z38.toNatClampNeg) → vp_in z38 140 ∧ ∀ z45 : Int32, z45 = ((B 15) z38.toNatClampNeg) → wp_LassoFinderModel_worth I J B D z44 z45 (fun r46 I46 J46 B46 D46 => wc_LassoFinderModel_act_58 a0 a1 Post a1 z38 z39 z40 r46 I46 J46 B46 D46)))
set_option maxHeartbeats 8000000 in
set_option maxRecDepth 100000 in
theorem wJ_LassoFinderModel_act_310 {p : Program} {l : Launch} {e : Env} {s : State} {m : MethodId} {below : List Frame} {meth : Method} {c : Code} {A : Nat → Prop} (G : va_G) (K : Nat → ClassId) (ad : Nat → Nat) (a0 : Int32) (a1 : Int32) (Post : (Nat → Int32) → (Nat → Int64) → (Nat → Nat → Int32) → (Nat → Nat → Int64) → Prop) (C : zCx p s m ([.ref (ad 0), .int a0, .int a1] : List Value).toArray meth c A G K prog_14_method_35_code none 9 "LassoFinderModel") : ∀  (I : Nat → Int32) (J : Nat → Int64) (B : Nat → Nat → Int32) (D : Nat → Nat → Int64) (ls : Array Slot) (H : Heap) (locs : List Loc), wc_LassoFinderModel_act_310 a0 a1 Post  I J B D → lv_has ls 9 [] → zW G A s.heap (wM ad K I J B D) H locs → W p l e { frames := 1, cells := 0, slots := 0, locals := 27 } s m ([.ref (ad 0), .int a0, .int a1] : List Value).toArray below meth c H locs 0 0 (MQ below (va_Qv (fun u : zS => Post u.1 u.2.1 u.2.2.1 u.2.2.2) (fun u t => zPost G K A (wM ad K u.1 u.2.1 u.2.2.1 u.2.2.2) t) A) ([.ref (ad 0), .int a0, .int a1] : List Value).toArray s 0 0 A) (F0 m 310 ls []) := by
  obtain ⟨hx, hb, hr, hml, hts, hown, hlocks, hA, hK⟩ := id C
  intro  I J B D ls H locs hok hl hw
  unfold wc_LassoFinderModel_act_310 at hok
  exact (z_vret (u := (I, J, B, D)) hx hb hr hlocks hw (List.range 58) wM_all wM_nd hok (Nat.le_of_ble_eq_true rfl) (Nat.le_of_ble_eq_true rfl) zd_LassoFinderModel_act_310)
set_option maxHeartbeats 8000000 in
set_option maxRecDepth 100000 in
theorem wJ_LassoFinderModel_act_307 {p : Program} {l : Launch} {e : Env} {s : State} {m : MethodId} {below : List Frame} {meth : Method} {c : Code} {A : Nat → Prop} (G : va_G) (K : Nat → ClassId) (ad : Nat → Nat) (a0 : Int32) (a1 : Int32) (Post : (Nat → Int32) → (Nat → Int64) → (Nat → Nat → Int32) → (Nat → Nat → Int64) → Prop) (C : zCx p s m ([.ref (ad 0), .int a0, .int a1] : List Value).toArray meth c A G K prog_14_method_35_code none 9 "LassoFinderModel") : ∀ (y0 : Int32) (I : Nat → Int32) (J : Nat → Int64) (B : Nat → Nat → Int32) (D : Nat → Nat → Int64) (ls : Array Slot) (H : Heap) (locs : List Loc), wc_LassoFinderModel_act_307 a0 a1 Post y0 I J B D → lv_has ls 9 [] → zW G A s.heap (wM ad K I J B D) H locs → W p l e { frames := 1, cells := 0, slots := 0, locals := 27 } s m ([.ref (ad 0), .int a0, .int a1] : List Value).toArray below meth c H locs 0 0 (MQ below (va_Qv (fun u : zS => Post u.1 u.2.1 u.2.2.1 u.2.2.2) (fun u t => zPost G K A (wM ad K u.1 u.2.1 u.2.2.1 u.2.2.2) t) A) ([.ref (ad 0), .int a0, .int a1] : List Value).toArray s 0 0 A) (F0 m 307 ls [.int y0, .ref (ad 0)]) := by
  obtain ⟨hx, hb, hr, hml, hts, hown, hlocks, hA, hK⟩ := id C
  intro y0 I J B D ls H locs hok hl hw
  unfold wc_LassoFinderModel_act_307 at hok
  refine z_put (v := .int y0) hx hb hts hown hK hw zZ12 0 wM_g0 59 (by decide) zm_320 rfl rfl rfl (Nat.le_of_ble_eq_true rfl) zd_LassoFinderModel_act_307 (fun H locs hw => ?_)
  have hw := wM_sI17 hw
  exact wJ_LassoFinderModel_act_310 G K ad a0 a1 Post C (upd I 17 y0) J B D ls H locs hok (lv_sub hl [] rfl) hw
set_option maxHeartbeats 8000000 in
set_option maxRecDepth 100000 in
theorem wJ_LassoFinderModel_act_258 {p : Program} {l : Launch} {e : Env} {s : State} {m : MethodId} {below : List Frame} {meth : Method} {c : Code} {A : Nat → Prop} (G : va_G) (K : Nat → ClassId) (ad : Nat → Nat) (a0 : Int32) (a1 : Int32) (Post : (Nat → Int32) → (Nat → Int64) → (Nat → Nat → Int32) → (Nat → Nat → Int64) → Prop) (C : zCx p s m ([.ref (ad 0), .int a0, .int a1] : List Value).toArray meth c A G K prog_14_method_35_code none 9 "LassoFinderModel") : ∀ (x2 : Int32) (y0 : Int32) (I : Nat → Int32) (J : Nat → Int64) (B : Nat → Nat → Int32) (D : Nat → Nat → Int64) (ls : Array Slot) (H : Heap) (locs : List Loc), wc_LassoFinderModel_act_258 a0 a1 Post x2 y0 I J B D → lv_has ls 9 [(0, .ref (ad 0)), (2, .int x2)] → zW G A s.heap (wM ad K I J B D) H locs → W p l e { frames := 1, cells := 0, slots := 0, locals := 27 } s m ([.ref (ad 0), .int a0, .int a1] : List Value).toArray below meth c H locs 0 0 (MQ below (va_Qv (fun u : zS => Post u.1 u.2.1 u.2.2.1 u.2.2.2) (fun u t => zPost G K A (wM ad K u.1 u.2.1 u.2.2.1 u.2.2.2) t) A) ([.ref (ad 0), .int a0, .int a1] : List Value).toArray s 0 0 A) (F0 m 258 ls [.int y0, .ref (ad 0)]) := by
  obtain ⟨hx, hb, hr, hml, hts, hown, hlocks, hA, hK⟩ := id C
  intro x2 y0 I J B D ls H locs hok hl hw
  unfold wc_LassoFinderModel_act_258 at hok
  refine z_put (v := .int y0) hx hb hts hown hK hw zZ12 0 wM_g0 59 (by decide) zm_320 rfl rfl rfl (Nat.le_of_ble_eq_true rfl) zd_LassoFinderModel_act_258 (fun H locs hw => ?_)
  have hw := wM_sI17 hw
  refine lv_iload_n hx hb zd_LassoFinderModel_act_261 rfl (lv_at hl 1 rfl) ?_
  refine lv_if_lt (tgt := 310) hx hb zd_LassoFinderModel_act_262 (by decide) (fun hc1 => ?_) (fun hc1 => ?_)
  · have hok := hok.1 hc1
    exact wJ_LassoFinderModel_act_310 G K ad a0 a1 Post C (upd I 17 y0) J B D ls H locs hok (lv_sub hl [] rfl) hw
  · have hok := hok.2 hc1
    refine lv_aload_n hx hb zd_LassoFinderModel_act_265 rfl (lv_at hl 0 rfl) ?_
    refine z_get (v := .ref (ad 7)) hx hb hts hown hK hw zZ12 0 wM_g0 15 (by decide) zm_241 rfl zd_LassoFinderModel_act_266 ?_
    refine lv_aload_n hx hb zd_LassoFinderModel_act_269 rfl (lv_at hl 0 rfl) ?_
    refine z_get (v := .ref (ad 19)) hx hb hts hown hK hw zZ12 0 wM_g0 28 (by decide) zm_253 rfl zd_LassoFinderModel_act_270 ?_
    refine lv_iload_n hx hb zd_LassoFinderModel_act_273 rfl (lv_at hl 1 rfl) ?_
    refine va_iald (f := (B 18)) hx hb hK hw.1 19 0 wM_a19 rfl hok.1 zd_LassoFinderModel_act_274 ?_
    have hok := hok.2
    refine lv_topi (fun z2 ez2 => ?_)
    have hok := hok z2 ez2
    refine va_iald (f := (B 6)) hx hb hK hw.1 7 0 wM_a7 rfl hok.1 zd_LassoFinderModel_act_275 ?_
    have hok := hok.2
    refine lv_topi (fun z3 ez3 => ?_)
    have hok := hok z3 ez3
    refine lv_istore hx hb zd_LassoFinderModel_act_276 hl (by decide) rfl (fun ls hl => ?_)
    have hl : lv_has ls 9 [(7, .int z3), (0, .ref (ad 0)), (2, .int x2)] := hl
    refine lv_aload_n hx hb zd_LassoFinderModel_act_278 rfl (lv_at hl 1 rfl) ?_
    refine lv_iload hx hb zd_LassoFinderModel_act_279 (lv_at hl 0 rfl) ?_
    refine lv_aload_n hx hb zd_LassoFinderModel_act_281 rfl (lv_at hl 1 rfl) ?_
    refine z_get (v := .ref (ad 19)) hx hb hts hown hK hw zZ12 0 wM_g0 28 (by decide) zm_253 rfl zd_LassoFinderModel_act_282 ?_
    refine lv_iload_n hx hb zd_LassoFinderModel_act_285 rfl (lv_at hl 2 rfl) ?_
    refine va_iald (f := (B 18)) hx hb hK hw.1 19 0 wM_a19 rfl hok.1 zd_LassoFinderModel_act_286 ?_
    have hok := hok.2
    refine lv_topi (fun z4 ez4 => ?_)
    have hok := hok z4 ez4
    refine z_calli (w1 := fun (u : zS) => wM ad K u.1 u.2.1 u.2.2.1 u.2.2.2) (wr := []) (z_runV (q0 := 0) (wc := (wM ad K (upd I 17 y0) J B D)) (As := [.int z3, .int z4]) (rest := []) ⟨hx, hb, hml, hown, hts⟩ (w_LassoFinderModel_goesOn l G K ad (upd I 17 y0) J B D z3 z4 _ H.size hok) zf_LassoFinderModel_goesOn zm_325 ⟨Nat.le_of_ble_eq_true rfl, Nat.le_of_ble_eq_true rfl⟩ hK hw (List.range 58) wM_all wM_nd wM_g0 rfl rfl hl.1 rfl (Nat.le_of_ble_eq_true rfl) zd_LassoFinderModel_act_287 ⟨Nat.le_of_ble_eq_true rfl, Nat.le_of_ble_eq_true rfl⟩) hw hA (List.range 58) [] wM_all rfl (by decide) (fun i hi => by cases hi) (fun r5 u H locs hok hw => ?_)
    obtain ⟨I5, J5, B5, D5⟩ := u
    dsimp only at hok
    have hw : zW G A s.heap (wM ad K I5 J5 B5 D5) H locs := hw
    refine lv_istore hx hb zd_LassoFinderModel_act_290 hl (by decide) rfl (fun ls hl => ?_)
    have hl : lv_has ls 9 [(8, .int r5), (7, .int z3), (0, .ref (ad 0)), (2, .int x2)] := hl
    refine lv_aload_n hx hb zd_LassoFinderModel_act_292 rfl (lv_at hl 2 rfl) ?_
    refine lv_iload hx hb zd_LassoFinderModel_act_293 (lv_at hl 0 rfl) ?_
    refine lv_if_eq (tgt := 303) hx hb zd_LassoFinderModel_act_295 (by decide) (fun hc6 => ?_) (fun hc6 => ?_)
    · have hok := hok.1 hc6
      refine lv_aload_n hx hb zd_LassoFinderModel_act_303 rfl (lv_at hl 2 rfl) ?_
      refine z_get (v := .int (I5 17)) hx hb hts hown hK hw zZ12 0 wM_g0 59 (by decide) zm_320 rfl zd_LassoFinderModel_act_304 ?_
      exact wJ_LassoFinderModel_act_307 G K ad a0 a1 Post C (I5 17) I5 J5 B5 D5 ls H locs hok (lv_sub hl [] rfl) hw
    · have hok := hok.2 hc6
      refine lv_iload hx hb zd_LassoFinderModel_act_298 (lv_at hl 1 rfl) ?_
      refine lv_goto (tgt := 307) hx hb zd_LassoFinderModel_act_300 (by decide) ?_
      exact wJ_LassoFinderModel_act_307 G K ad a0 a1 Post C z3 I5 J5 B5 D5 ls H locs hok (lv_sub hl [] rfl) hw
set_option maxHeartbeats 8000000 in
set_option maxRecDepth 100000 in
theorem wJ_LassoFinderModel_act_241 {p : Program} {l : Launch} {e : Env} {s : State} {m : MethodId} {below : List Frame} {meth : Method} {c : Code} {A : Nat → Prop} (G : va_G) (K : Nat → ClassId) (ad : Nat → Nat) (a0 : Int32) (a1 : Int32) (Post : (Nat → Int32) → (Nat → Int64) → (Nat → Nat → Int32) → (Nat → Nat → Int64) → Prop) (C : zCx p s m ([.ref (ad 0), .int a0, .int a1] : List Value).toArray meth c A G K prog_14_method_35_code none 9 "LassoFinderModel") : ∀ (x2 : Int32) (x3 : Int32) (x4 : Int32) (I : Nat → Int32) (J : Nat → Int64) (B : Nat → Nat → Int32) (D : Nat → Nat → Int64) (ls : Array Slot) (H : Heap) (locs : List Loc), wc_LassoFinderModel_act_241 a0 a1 Post x2 x3 x4 I J B D → lv_has ls 9 [(0, .ref (ad 0)), (2, .int x2), (3, .int x3), (4, .int x4)] → zW G A s.heap (wM ad K I J B D) H locs → W p l e { frames := 1, cells := 0, slots := 0, locals := 27 } s m ([.ref (ad 0), .int a0, .int a1] : List Value).toArray below meth c H locs 0 0 (MQ below (va_Qv (fun u : zS => Post u.1 u.2.1 u.2.2.1 u.2.2.2) (fun u t => zPost G K A (wM ad K u.1 u.2.1 u.2.2.1 u.2.2.2) t) A) ([.ref (ad 0), .int a0, .int a1] : List Value).toArray s 0 0 A) (F0 m 241 ls []) := by
  obtain ⟨hx, hb, hr, hml, hts, hown, hlocks, hA, hK⟩ := id C
  intro x2 x3 x4 I J B D ls H locs hok hl hw
  unfold wc_LassoFinderModel_act_241 at hok
  refine lv_aload_n hx hb zd_LassoFinderModel_act_241 rfl (lv_at hl 0 rfl) ?_
  refine lv_aload_n hx hb zd_LassoFinderModel_act_242 rfl (lv_at hl 0 rfl) ?_
  refine lv_iload hx hb zd_LassoFinderModel_act_243 (lv_at hl 3 rfl) ?_
  refine lv_iload_n hx hb zd_LassoFinderModel_act_245 rfl (lv_at hl 2 rfl) ?_
  refine z_calli (w1 := fun (u : zS) => wM ad K u.1 u.2.1 u.2.2.1 u.2.2.2) (wr := []) (z_runV (q0 := 0) (wc := (wM ad K I J B D)) (As := [.int x4, .int x3]) (rest := [.ref (ad 0)]) ⟨hx, hb, hml, hown, hts⟩ (w_LassoFinderModel_goesOn l G K ad I J B D x4 x3 _ H.size hok) zf_LassoFinderModel_goesOn zm_325 ⟨Nat.le_of_ble_eq_true rfl, Nat.le_of_ble_eq_true rfl⟩ hK hw (List.range 58) wM_all wM_nd wM_g0 rfl rfl hl.1 rfl (Nat.le_of_ble_eq_true rfl) zd_LassoFinderModel_act_246 ⟨Nat.le_of_ble_eq_true rfl, Nat.le_of_ble_eq_true rfl⟩) hw hA (List.range 58) [] wM_all rfl (by decide) (fun i hi => by cases hi) (fun r7 u H locs hok hw => ?_)
  obtain ⟨I7, J7, B7, D7⟩ := u
  dsimp only at hok
  have hw : zW G A s.heap (wM ad K I7 J7 B7 D7) H locs := hw
  refine lv_if_eq (tgt := 257) hx hb zd_LassoFinderModel_act_249 (by decide) (fun hc8 => ?_) (fun hc8 => ?_)
  · have hok := hok.1 hc8
    refine lv_iconst (v := (-1)) hx hb zd_LassoFinderModel_act_257 (by decide) ?_
    exact wJ_LassoFinderModel_act_258 G K ad a0 a1 Post C x2 (-1) I7 J7 B7 D7 ls H locs hok (lv_sub hl [0, 1] rfl) hw
  · have hok := hok.2 hc8
    refine lv_iload hx hb zd_LassoFinderModel_act_252 (lv_at hl 3 rfl) ?_
    refine lv_goto (tgt := 258) hx hb zd_LassoFinderModel_act_254 (by decide) ?_
    exact wJ_LassoFinderModel_act_258 G K ad a0 a1 Post C x2 x4 I7 J7 B7 D7 ls H locs hok (lv_sub hl [0, 1] rfl) hw
set_option maxHeartbeats 8000000 in
set_option maxRecDepth 100000 in
theorem wB_LassoFinderModel_act_192 {p : Program} {l : Launch} {e : Env} {s : State} {m : MethodId} {below : List Frame} {meth : Method} {c : Code} {A : Nat → Prop} (G : va_G) (K : Nat → ClassId) (ad : Nat → Nat) (a0 : Int32) (a1 : Int32) (Post : (Nat → Int32) → (Nat → Int64) → (Nat → Nat → Int32) → (Nat → Nat → Int64) → Prop) (C : zCx p s m ([.ref (ad 0), .int a0, .int a1] : List Value).toArray meth c A G K prog_14_method_35_code none 9 "LassoFinderModel") (K192 : Int32 → Int32 → Int32 → Int32 → Int32 → (Nat → Int32) → (Nat → Int64) → (Nat → Nat → Int32) → (Nat → Nat → Int64) → Prop) (kh192 : ∀ (x2 : Int32) (x3 : Int32) (x4 : Int32) (x5 : Int32) (x7 : Int32) (I : Nat → Int32) (J : Nat → Int64) (B : Nat → Nat → Int32) (D : Nat → Nat → Int64) (ls : Array Slot) (H : Heap) (locs : List Loc), K192 x2 x3 x4 x5 x7 I J B D → lv_has ls 9 [(0, .ref (ad 0)), (2, .int x2), (3, .int x3), (4, .int x4), (5, .int x5), (7, .int x7)] → zW G A s.heap (wM ad K I J B D) H locs → W p l e { frames := 1, cells := 0, slots := 0, locals := 27 } s m ([.ref (ad 0), .int a0, .int a1] : List Value).toArray below meth c H locs 0 0 (MQ below (va_Qv (fun u : zS => Post u.1 u.2.1 u.2.2.1 u.2.2.2) (fun u t => zPost G K A (wM ad K u.1 u.2.1 u.2.2.1 u.2.2.2) t) A) ([.ref (ad 0), .int a0, .int a1] : List Value).toArray s 0 0 A) (F0 m 192 ls [])) : ∀ (x2 : Int32) (x3 : Int32) (x4 : Int32) (x5 : Int32) (x7 : Int32) (I : Nat → Int32) (J : Nat → Int64) (B : Nat → Nat → Int32) (D : Nat → Nat → Int64) (ls : Array Slot) (H : Heap) (locs : List Loc), wb_LassoFinderModel_act_192 a0 a1 K192 Post x2 x3 x4 x5 x7 I J B D → lv_has ls 9 [(0, .ref (ad 0)), (2, .int x2), (3, .int x3), (4, .int x4), (5, .int x5), (7, .int x7)] → zW G A s.heap (wM ad K I J B D) H locs → W p l e { frames := 1, cells := 0, slots := 0, locals := 27 } s m ([.ref (ad 0), .int a0, .int a1] : List Value).toArray below meth c H locs 0 0 (MQ below (va_Qv (fun u : zS => Post u.1 u.2.1 u.2.2.1 u.2.2.2) (fun u t => zPost G K A (wM ad K u.1 u.2.1 u.2.2.1 u.2.2.2) t) A) ([.ref (ad 0), .int a0, .int a1] : List Value).toArray s 0 0 A) (F0 m 192 ls []) := by
  obtain ⟨hx, hb, hr, hml, hts, hown, hlocks, hA, hK⟩ := id C
  intro x2 x3 x4 x5 x7 I J B D ls H locs hok hl hw
  unfold wb_LassoFinderModel_act_192 at hok
  refine lv_iload hx hb zd_LassoFinderModel_act_192 (lv_at hl 5 rfl) ?_
  refine lv_iconst (v := 3) hx hb zd_LassoFinderModel_act_194 (by decide) ?_
  refine lv_icmp_ge (tgt := 230) hx hb zd_LassoFinderModel_act_195 (by decide) (fun hc9 => ?_) (fun hc9 => ?_)
  · have hok := hok.1 hc9
    refine lv_aload_n hx hb zd_LassoFinderModel_act_230 rfl (lv_at hl 0 rfl) ?_
    refine z_get (v := .ref (ad 40)) hx hb hts hown hK hw zZ12 0 wM_g0 56 (by decide) zm_274 rfl zd_LassoFinderModel_act_231 ?_
    refine lv_iload hx hb zd_LassoFinderModel_act_234 (lv_at hl 4 rfl) ?_
    refine lv_dup2_11 hx hb zd_LassoFinderModel_act_236 rfl rfl ?_
    refine va_iald (f := (B 37)) hx hb hK hw.1 40 0 wM_a40 rfl hok.1 zd_LassoFinderModel_act_237 ?_
    have hok := hok.2
    refine lv_topi (fun z10 ez10 => ?_)
    have hok := hok z10 ez10
    refine lv_iconst (v := 1) hx hb zd_LassoFinderModel_act_238 (by decide) ?_
    refine lv_isub hx hb zd_LassoFinderModel_act_239 ?_
    refine lv_topi (fun z11 ez11 => ?_)
    have hok := hok z11 ez11
    refine va_iast (f := (B 37)) hx hb hK hw.1 hw.2.1 hw.2.2 40 0 wM_a40 rfl hok.1 zd_LassoFinderModel_act_240 (fun H locs w91 w92 w93 => ?_)
    have hok := hok.2
    have hw := wM_t40 ⟨w91, w92, w93⟩
    exact wJ_LassoFinderModel_act_241 G K ad a0 a1 Post C x2 x3 x4 I J (va_up B 37 (upd (B 37) x5.toNatClampNeg z11)) D ls H locs hok (lv_sub hl [0, 1, 2, 3] rfl) hw
  · have hok := hok.2 hc9
    refine lv_aload_n hx hb zd_LassoFinderModel_act_198 rfl (lv_at hl 0 rfl) ?_
    refine z_get (v := .ref (ad 41)) hx hb hts hown hK hw zZ12 0 wM_g0 57 (by decide) zm_275 rfl zd_LassoFinderModel_act_199 ?_
    refine lv_iconst (v := 3) hx hb zd_LassoFinderModel_act_202 (by decide) ?_
    refine lv_iload hx hb zd_LassoFinderModel_act_203 (lv_at hl 4 rfl) ?_
    refine lv_imul hx hb zd_LassoFinderModel_act_205 ?_
    refine lv_topi (fun z12 ez12 => ?_)
    have hok := hok z12 ez12
    refine lv_iload hx hb zd_LassoFinderModel_act_206 (lv_at hl 5 rfl) ?_
    refine lv_iadd hx hb zd_LassoFinderModel_act_208 ?_
    refine lv_topi (fun z13 ez13 => ?_)
    have hok := hok z13 ez13
    refine lv_iconst (v := 1) hx hb zd_LassoFinderModel_act_209 (by decide) ?_
    refine lv_isub hx hb zd_LassoFinderModel_act_210 ?_
    refine lv_topi (fun z14 ez14 => ?_)
    have hok := hok z14 ez14
    refine lv_aload_n hx hb zd_LassoFinderModel_act_211 rfl (lv_at hl 0 rfl) ?_
    refine z_get (v := .ref (ad 41)) hx hb hts hown hK hw zZ12 0 wM_g0 57 (by decide) zm_275 rfl zd_LassoFinderModel_act_212 ?_
    refine lv_iconst (v := 3) hx hb zd_LassoFinderModel_act_215 (by decide) ?_
    refine lv_iload hx hb zd_LassoFinderModel_act_216 (lv_at hl 4 rfl) ?_
    refine lv_imul hx hb zd_LassoFinderModel_act_218 ?_
    refine lv_topi (fun z15 ez15 => ?_)
    have hok := hok z15 ez15
    refine lv_iload hx hb zd_LassoFinderModel_act_219 (lv_at hl 5 rfl) ?_
    refine lv_iadd hx hb zd_LassoFinderModel_act_221 ?_
    refine lv_topi (fun z16 ez16 => ?_)
    have hok := hok z16 ez16
    refine va_iald (f := (B 38)) hx hb hK hw.1 41 0 wM_a41 rfl hok.1 zd_LassoFinderModel_act_222 ?_
    have hok := hok.2
    refine lv_topi (fun z17 ez17 => ?_)
    have hok := hok z17 ez17
    refine va_iast (f := (B 38)) hx hb hK hw.1 hw.2.1 hw.2.2 41 0 wM_a41 rfl hok.1 zd_LassoFinderModel_act_223 (fun H locs w91 w92 w93 => ?_)
    have hok := hok.2
    have hw := wM_t41 ⟨w91, w92, w93⟩
    obtain ⟨z18, ez18⟩ : ∃ z : Int32, z = (x7 + 1) := ⟨_, rfl⟩
    have hok := hok z18 ez18
    refine lv_iinc (v := z18) hx hb zd_LassoFinderModel_act_224 hl (k := 5) rfl ez18.symm (by decide) rfl (fun ls hl => ?_)
    have hl : lv_has ls 9 [(7, .int z18), (0, .ref (ad 0)), (2, .int x2), (3, .int x3), (4, .int x4), (5, .int x5)] := hl
    refine lv_goto (tgt := 192) hx hb zd_LassoFinderModel_act_227 (by decide) ?_
    exact kh192 x2 x3 x4 x5 z18 I J (va_up B 38 (upd (B 38) z14.toNatClampNeg z17)) D ls H locs hok (lv_sub hl [1, 2, 3, 4, 5, 0] rfl) hw
theorem wL_LassoFinderModel_act_192 {p : Program} {l : Launch} {e : Env} {s : State} {m : MethodId} {below : List Frame} {meth : Method} {c : Code} {A : Nat → Prop} (G : va_G) (K : Nat → ClassId) (ad : Nat → Nat) (a0 : Int32) (a1 : Int32) (Post : (Nat → Int32) → (Nat → Int64) → (Nat → Nat → Int32) → (Nat → Nat → Int64) → Prop) (C : zCx p s m ([.ref (ad 0), .int a0, .int a1] : List Value).toArray meth c A G K prog_14_method_35_code none 9 "LassoFinderModel") : ∀ (n : Nat) (x2 : Int32) (x3 : Int32) (x4 : Int32) (x5 : Int32) (x7 : Int32) (I : Nat → Int32) (J : Nat → Int64) (B : Nat → Nat → Int32) (D : Nat → Nat → Int64) (ls : Array Slot) (H : Heap) (locs : List Loc), wl_LassoFinderModel_act_192 a0 a1 Post n x2 x3 x4 x5 x7 I J B D → lv_has ls 9 [(0, .ref (ad 0)), (2, .int x2), (3, .int x3), (4, .int x4), (5, .int x5), (7, .int x7)] → zW G A s.heap (wM ad K I J B D) H locs → W p l e { frames := 1, cells := 0, slots := 0, locals := 27 } s m ([.ref (ad 0), .int a0, .int a1] : List Value).toArray below meth c H locs 0 0 (MQ below (va_Qv (fun u : zS => Post u.1 u.2.1 u.2.2.1 u.2.2.2) (fun u t => zPost G K A (wM ad K u.1 u.2.1 u.2.2.1 u.2.2.2) t) A) ([.ref (ad 0), .int a0, .int a1] : List Value).toArray s 0 0 A) (F0 m 192 ls []) := by
  intro n
  induction n with
  | zero => intro x2 x3 x4 x5 x7 I J B D ls H locs hok; exact hok.elim
  | succ n ih => exact wB_LassoFinderModel_act_192 G K ad a0 a1 Post C (wl_LassoFinderModel_act_192 a0 a1 Post n) ih
set_option maxHeartbeats 8000000 in
set_option maxRecDepth 100000 in
theorem wJ_LassoFinderModel_act_116 {p : Program} {l : Launch} {e : Env} {s : State} {m : MethodId} {below : List Frame} {meth : Method} {c : Code} {A : Nat → Prop} (G : va_G) (K : Nat → ClassId) (ad : Nat → Nat) (a0 : Int32) (a1 : Int32) (Post : (Nat → Int32) → (Nat → Int64) → (Nat → Nat → Int32) → (Nat → Nat → Int64) → Prop) (C : zCx p s m ([.ref (ad 0), .int a0, .int a1] : List Value).toArray meth c A G K prog_14_method_35_code none 9 "LassoFinderModel") : ∀ (x2 : Int32) (x3 : Int32) (x4 : Int32) (x5 : Int32) (x6 : Int32) (I : Nat → Int32) (J : Nat → Int64) (B : Nat → Nat → Int32) (D : Nat → Nat → Int64) (ls : Array Slot) (H : Heap) (locs : List Loc), wc_LassoFinderModel_act_116 a0 a1 Post x2 x3 x4 x5 x6 I J B D → lv_has ls 9 [(0, .ref (ad 0)), (2, .int x2), (3, .int x3), (4, .int x4), (5, .int x5), (6, .int x6)] → zW G A s.heap (wM ad K I J B D) H locs → W p l e { frames := 1, cells := 0, slots := 0, locals := 27 } s m ([.ref (ad 0), .int a0, .int a1] : List Value).toArray below meth c H locs 0 0 (MQ below (va_Qv (fun u : zS => Post u.1 u.2.1 u.2.2.1 u.2.2.2) (fun u t => zPost G K A (wM ad K u.1 u.2.1 u.2.2.1 u.2.2.2) t) A) ([.ref (ad 0), .int a0, .int a1] : List Value).toArray s 0 0 A) (F0 m 116 ls []) := by
  obtain ⟨hx, hb, hr, hml, hts, hown, hlocks, hA, hK⟩ := id C
  intro x2 x3 x4 x5 x6 I J B D ls H locs hok hl hw
  unfold wc_LassoFinderModel_act_116 at hok
  refine lv_aload_n hx hb zd_LassoFinderModel_act_116 rfl (lv_at hl 0 rfl) ?_
  refine z_get (v := .ref (ad 6)) hx hb hts hown hK hw zZ12 0 wM_g0 14 (by decide) zm_240 rfl zd_LassoFinderModel_act_117 ?_
  refine lv_iload_n hx hb zd_LassoFinderModel_act_120 rfl (lv_at hl 2 rfl) ?_
  refine va_iald (f := (B 5)) hx hb hK hw.1 6 0 wM_a6 rfl hok.1 zd_LassoFinderModel_act_121 ?_
  have hok := hok.2
  refine lv_topi (fun z19 ez19 => ?_)
  have hok := hok z19 ez19
  refine lv_iconst (v := 2) hx hb zd_LassoFinderModel_act_122 (by decide) ?_
  refine lv_icmp_ne (tgt := 159) hx hb zd_LassoFinderModel_act_123 (by decide) (fun hc20 => ?_) (fun hc20 => ?_)
  · have hok := hok.1 hc20
    refine lv_aload_n hx hb zd_LassoFinderModel_act_159 rfl (lv_at hl 0 rfl) ?_
    refine z_get (v := .ref (ad 6)) hx hb hts hown hK hw zZ12 0 wM_g0 14 (by decide) zm_240 rfl zd_LassoFinderModel_act_160 ?_
    refine lv_iload_n hx hb zd_LassoFinderModel_act_163 rfl (lv_at hl 2 rfl) ?_
    refine va_iald (f := (B 5)) hx hb hK hw.1 6 0 wM_a6 rfl hok.1 zd_LassoFinderModel_act_164 ?_
    have hok := hok.2
    refine lv_topi (fun z21 ez21 => ?_)
    have hok := hok z21 ez21
    refine lv_iconst (v := 3) hx hb zd_LassoFinderModel_act_165 (by decide) ?_
    refine lv_icmp_ne (tgt := 241) hx hb zd_LassoFinderModel_act_166 (by decide) (fun hc22 => ?_) (fun hc22 => ?_)
    · have hok := hok.1 hc22
      exact wJ_LassoFinderModel_act_241 G K ad a0 a1 Post C x2 x3 x4 I J B D ls H locs hok (lv_sub hl [0, 1, 2, 3] rfl) hw
    · have hok := hok.2 hc22
      refine lv_aload_n hx hb zd_LassoFinderModel_act_169 rfl (lv_at hl 0 rfl) ?_
      refine z_get (v := .ref (ad 39)) hx hb hts hown hK hw zZ12 0 wM_g0 55 (by decide) zm_273 rfl zd_LassoFinderModel_act_170 ?_
      refine lv_aload_n hx hb zd_LassoFinderModel_act_173 rfl (lv_at hl 0 rfl) ?_
      refine z_get (v := .ref (ad 14)) hx hb hts hown hK hw zZ12 0 wM_g0 22 (by decide) zm_248 rfl zd_LassoFinderModel_act_174 ?_
      refine lv_iload_n hx hb zd_LassoFinderModel_act_177 rfl (lv_at hl 2 rfl) ?_
      refine va_iald (f := (B 13)) hx hb hK hw.1 14 0 wM_a14 rfl hok.1 zd_LassoFinderModel_act_178 ?_
      have hok := hok.2
      refine lv_topi (fun z23 ez23 => ?_)
      have hok := hok z23 ez23
      refine lv_aload_n hx hb zd_LassoFinderModel_act_179 rfl (lv_at hl 0 rfl) ?_
      refine z_get (v := .ref (ad 41)) hx hb hts hown hK hw zZ12 0 wM_g0 57 (by decide) zm_275 rfl zd_LassoFinderModel_act_180 ?_
      refine lv_iconst (v := 3) hx hb zd_LassoFinderModel_act_183 (by decide) ?_
      refine lv_iload hx hb zd_LassoFinderModel_act_184 (lv_at hl 4 rfl) ?_
      refine lv_imul hx hb zd_LassoFinderModel_act_186 ?_
      refine lv_topi (fun z24 ez24 => ?_)
      have hok := hok z24 ez24
      refine va_iald (f := (B 38)) hx hb hK hw.1 41 0 wM_a41 rfl hok.1 zd_LassoFinderModel_act_187 ?_
      have hok := hok.2
      refine lv_topi (fun z25 ez25 => ?_)
      have hok := hok z25 ez25
      refine va_iast (f := (B 36)) hx hb hK hw.1 hw.2.1 hw.2.2 39 0 wM_a39 rfl hok.1 zd_LassoFinderModel_act_188 (fun H locs w91 w92 w93 => ?_)
      have hok := hok.2
      have hw := wM_t39 ⟨w91, w92, w93⟩
      refine lv_iconst (v := 1) hx hb zd_LassoFinderModel_act_189 (by decide) ?_
      refine lv_istore hx hb zd_LassoFinderModel_act_190 hl (by decide) rfl (fun ls hl => ?_)
      have hl : lv_has ls 9 [(7, .int 1), (0, .ref (ad 0)), (2, .int x2), (3, .int x3), (4, .int x4), (5, .int x5), (6, .int x6)] := hl
      obtain ⟨n9, hok⟩ := hok
      exact wL_LassoFinderModel_act_192 G K ad a0 a1 Post C n9 x2 x3 x4 x5 1 I J (va_up B 36 (upd (B 36) z23.toNatClampNeg z25)) D ls H locs hok (lv_sub hl [1, 2, 3, 4, 5, 0] rfl) hw
  · have hok := hok.2 hc20
    refine lv_aload_n hx hb zd_LassoFinderModel_act_126 rfl (lv_at hl 0 rfl) ?_
    refine z_get (v := .ref (ad 41)) hx hb hts hown hK hw zZ12 0 wM_g0 57 (by decide) zm_275 rfl zd_LassoFinderModel_act_127 ?_
    refine lv_iconst (v := 3) hx hb zd_LassoFinderModel_act_130 (by decide) ?_
    refine lv_iload hx hb zd_LassoFinderModel_act_131 (lv_at hl 4 rfl) ?_
    refine lv_imul hx hb zd_LassoFinderModel_act_133 ?_
    refine lv_topi (fun z26 ez26 => ?_)
    have hok := hok z26 ez26
    refine lv_aload_n hx hb zd_LassoFinderModel_act_134 rfl (lv_at hl 0 rfl) ?_
    refine z_get (v := .ref (ad 40)) hx hb hts hown hK hw zZ12 0 wM_g0 56 (by decide) zm_274 rfl zd_LassoFinderModel_act_135 ?_
    refine lv_iload hx hb zd_LassoFinderModel_act_138 (lv_at hl 4 rfl) ?_
    refine va_iald (f := (B 37)) hx hb hK hw.1 40 0 wM_a40 rfl hok.1 zd_LassoFinderModel_act_140 ?_
    have hok := hok.2
    refine lv_topi (fun z27 ez27 => ?_)
    have hok := hok z27 ez27
    refine lv_iadd hx hb zd_LassoFinderModel_act_141 ?_
    refine lv_topi (fun z28 ez28 => ?_)
    have hok := hok z28 ez28
    refine lv_iload hx hb zd_LassoFinderModel_act_142 (lv_at hl 5 rfl) ?_
    refine va_iast (f := (B 38)) hx hb hK hw.1 hw.2.1 hw.2.2 41 0 wM_a41 rfl hok.1 zd_LassoFinderModel_act_144 (fun H locs w91 w92 w93 => ?_)
    have hok := hok.2
    have hw := wM_t41 ⟨w91, w92, w93⟩
    refine lv_aload_n hx hb zd_LassoFinderModel_act_145 rfl (lv_at hl 0 rfl) ?_
    refine z_get (v := .ref (ad 40)) hx hb hts hown hK hw zZ12 0 wM_g0 56 (by decide) zm_274 rfl zd_LassoFinderModel_act_146 ?_
    refine lv_iload hx hb zd_LassoFinderModel_act_149 (lv_at hl 4 rfl) ?_
    refine lv_dup2_11 hx hb zd_LassoFinderModel_act_151 rfl rfl ?_
    refine va_iald (f := (B 37)) hx hb hK hw.1 40 0 wM_a40 rfl hok.1 zd_LassoFinderModel_act_152 ?_
    have hok := hok.2
    refine lv_topi (fun z29 ez29 => ?_)
    have hok := hok z29 ez29
    refine lv_iconst (v := 1) hx hb zd_LassoFinderModel_act_153 (by decide) ?_
    refine lv_iadd hx hb zd_LassoFinderModel_act_154 ?_
    refine lv_topi (fun z30 ez30 => ?_)
    have hok := hok z30 ez30
    refine va_iast (f := (B 37)) hx hb hK hw.1 hw.2.1 hw.2.2 40 0 wM_a40 rfl hok.1 zd_LassoFinderModel_act_155 (fun H locs w91 w92 w93 => ?_)
    have hok := hok.2
    have hw := wM_t40 ⟨w91, w92, w93⟩
    refine lv_goto (tgt := 241) hx hb zd_LassoFinderModel_act_156 (by decide) ?_
    exact wJ_LassoFinderModel_act_241 G K ad a0 a1 Post C x2 x3 x4 I J (va_up (va_up B 38 (upd (B 38) z28.toNatClampNeg x6)) 37 (upd (B 37) x5.toNatClampNeg z30)) D ls H locs hok (lv_sub hl [0, 1, 2, 3] rfl) hw
set_option maxHeartbeats 8000000 in
set_option maxRecDepth 100000 in
theorem wJ_LassoFinderModel_act_58 {p : Program} {l : Launch} {e : Env} {s : State} {m : MethodId} {below : List Frame} {meth : Method} {c : Code} {A : Nat → Prop} (G : va_G) (K : Nat → ClassId) (ad : Nat → Nat) (a0 : Int32) (a1 : Int32) (Post : (Nat → Int32) → (Nat → Int64) → (Nat → Nat → Int32) → (Nat → Nat → Int64) → Prop) (C : zCx p s m ([.ref (ad 0), .int a0, .int a1] : List Value).toArray meth c A G K prog_14_method_35_code none 9 "LassoFinderModel") : ∀ (x2 : Int32) (x3 : Int32) (x4 : Int32) (x5 : Int32) (y0 : Int32) (I : Nat → Int32) (J : Nat → Int64) (B : Nat → Nat → Int32) (D : Nat → Nat → Int64) (ls : Array Slot) (H : Heap) (locs : List Loc), wc_LassoFinderModel_act_58 a0 a1 Post x2 x3 x4 x5 y0 I J B D → lv_has ls 9 [(0, .ref (ad 0)), (2, .int x2), (3, .int x3), (4, .int x4), (5, .int x5)] → zW G A s.heap (wM ad K I J B D) H locs → W p l e { frames := 1, cells := 0, slots := 0, locals := 27 } s m ([.ref (ad 0), .int a0, .int a1] : List Value).toArray below meth c H locs 0 0 (MQ below (va_Qv (fun u : zS => Post u.1 u.2.1 u.2.2.1 u.2.2.2) (fun u t => zPost G K A (wM ad K u.1 u.2.1 u.2.2.1 u.2.2.2) t) A) ([.ref (ad 0), .int a0, .int a1] : List Value).toArray s 0 0 A) (F0 m 58 ls [.int y0]) := by
  obtain ⟨hx, hb, hr, hml, hts, hown, hlocks, hA, hK⟩ := id C
  intro x2 x3 x4 x5 y0 I J B D ls H locs hok hl hw
  unfold wc_LassoFinderModel_act_58 at hok
  refine lv_istore hx hb zd_LassoFinderModel_act_58 hl (by decide) rfl (fun ls hl => ?_)
  have hl : lv_has ls 9 [(6, .int y0), (0, .ref (ad 0)), (2, .int x2), (3, .int x3), (4, .int x4), (5, .int x5)] := hl
  refine lv_aload_n hx hb zd_LassoFinderModel_act_60 rfl (lv_at hl 1 rfl) ?_
  refine z_get (v := .ref (ad 6)) hx hb hts hown hK hw zZ12 0 wM_g0 14 (by decide) zm_240 rfl zd_LassoFinderModel_act_61 ?_
  refine lv_iload_n hx hb zd_LassoFinderModel_act_64 rfl (lv_at hl 3 rfl) ?_
  refine va_iald (f := (B 5)) hx hb hK hw.1 6 0 wM_a6 rfl hok.1 zd_LassoFinderModel_act_65 ?_
  have hok := hok.2
  refine lv_topi (fun z31 ez31 => ?_)
  have hok := hok z31 ez31
  refine lv_if_ne (tgt := 81) hx hb zd_LassoFinderModel_act_66 (by decide) (fun hc32 => ?_) (fun hc32 => ?_)
  · have hok := hok.1 hc32
    refine lv_aload_n hx hb zd_LassoFinderModel_act_81 rfl (lv_at hl 1 rfl) ?_
    refine z_get (v := .ref (ad 6)) hx hb hts hown hK hw zZ12 0 wM_g0 14 (by decide) zm_240 rfl zd_LassoFinderModel_act_82 ?_
    refine lv_iload_n hx hb zd_LassoFinderModel_act_85 rfl (lv_at hl 3 rfl) ?_
    refine va_iald (f := (B 5)) hx hb hK hw.1 6 0 wM_a6 rfl hok.1 zd_LassoFinderModel_act_86 ?_
    have hok := hok.2
    refine lv_topi (fun z33 ez33 => ?_)
    have hok := hok z33 ez33
    refine lv_iconst (v := 2) hx hb zd_LassoFinderModel_act_87 (by decide) ?_
    refine lv_icmp_ne (tgt := 116) hx hb zd_LassoFinderModel_act_88 (by decide) (fun hc34 => ?_) (fun hc34 => ?_)
    · have hok := hok.1 hc34
      exact wJ_LassoFinderModel_act_116 G K ad a0 a1 Post C x2 x3 x4 x5 y0 I J B D ls H locs hok (lv_sub hl [1, 2, 3, 4, 5, 0] rfl) hw
    · have hok := hok.2 hc34
      refine lv_iload_n hx hb zd_LassoFinderModel_act_91 rfl (lv_at hl 2 rfl) ?_
      refine lv_if_lt (tgt := 116) hx hb zd_LassoFinderModel_act_92 (by decide) (fun hc35 => ?_) (fun hc35 => ?_)
      · have hok := hok.1 hc35
        exact wJ_LassoFinderModel_act_116 G K ad a0 a1 Post C x2 x3 x4 x5 y0 I J B D ls H locs hok (lv_sub hl [1, 2, 3, 4, 5, 0] rfl) hw
      · have hok := hok.2 hc35
        refine lv_aload_n hx hb zd_LassoFinderModel_act_95 rfl (lv_at hl 1 rfl) ?_
        refine z_get (v := .ref (ad 39)) hx hb hts hown hK hw zZ12 0 wM_g0 55 (by decide) zm_273 rfl zd_LassoFinderModel_act_96 ?_
        refine lv_aload_n hx hb zd_LassoFinderModel_act_99 rfl (lv_at hl 1 rfl) ?_
        refine z_get (v := .ref (ad 14)) hx hb hts hown hK hw zZ12 0 wM_g0 22 (by decide) zm_248 rfl zd_LassoFinderModel_act_100 ?_
        refine lv_aload_n hx hb zd_LassoFinderModel_act_103 rfl (lv_at hl 1 rfl) ?_
        refine z_get (v := .ref (ad 19)) hx hb hts hown hK hw zZ12 0 wM_g0 28 (by decide) zm_253 rfl zd_LassoFinderModel_act_104 ?_
        refine lv_iload_n hx hb zd_LassoFinderModel_act_107 rfl (lv_at hl 2 rfl) ?_
        refine va_iald (f := (B 18)) hx hb hK hw.1 19 0 wM_a19 rfl hok.1 zd_LassoFinderModel_act_108 ?_
        have hok := hok.2
        refine lv_topi (fun z36 ez36 => ?_)
        have hok := hok z36 ez36
        refine va_iald (f := (B 13)) hx hb hK hw.1 14 0 wM_a14 rfl hok.1 zd_LassoFinderModel_act_109 ?_
        have hok := hok.2
        refine lv_topi (fun z37 ez37 => ?_)
        have hok := hok z37 ez37
        refine lv_iload hx hb zd_LassoFinderModel_act_110 (lv_at hl 0 rfl) ?_
        refine va_iast (f := (B 36)) hx hb hK hw.1 hw.2.1 hw.2.2 39 0 wM_a39 rfl hok.1 zd_LassoFinderModel_act_112 (fun H locs w91 w92 w93 => ?_)
        have hok := hok.2
        have hw := wM_t39 ⟨w91, w92, w93⟩
        refine lv_goto (tgt := 241) hx hb zd_LassoFinderModel_act_113 (by decide) ?_
        exact wJ_LassoFinderModel_act_241 G K ad a0 a1 Post C x2 x3 x4 I J (va_up B 36 (upd (B 36) z37.toNatClampNeg y0)) D ls H locs hok (lv_sub hl [1, 2, 3, 4] rfl) hw
  · have hok := hok.2 hc32
    refine lv_aload_n hx hb zd_LassoFinderModel_act_69 rfl (lv_at hl 1 rfl) ?_
    refine z_get (v := .ref (ad 39)) hx hb hts hown hK hw zZ12 0 wM_g0 55 (by decide) zm_273 rfl zd_LassoFinderModel_act_70 ?_
    refine lv_iload hx hb zd_LassoFinderModel_act_73 (lv_at hl 5 rfl) ?_
    refine lv_iload hx hb zd_LassoFinderModel_act_75 (lv_at hl 0 rfl) ?_
    refine va_iast (f := (B 36)) hx hb hK hw.1 hw.2.1 hw.2.2 39 0 wM_a39 rfl hok.1 zd_LassoFinderModel_act_77 (fun H locs w91 w92 w93 => ?_)
    have hok := hok.2
    have hw := wM_t39 ⟨w91, w92, w93⟩
    refine lv_goto (tgt := 241) hx hb zd_LassoFinderModel_act_78 (by decide) ?_
    exact wJ_LassoFinderModel_act_241 G K ad a0 a1 Post C x2 x3 x4 I J (va_up B 36 (upd (B 36) x5.toNatClampNeg y0)) D ls H locs hok (lv_sub hl [1, 2, 3, 4] rfl) hw
set_option maxHeartbeats 8000000 in
set_option maxRecDepth 100000 in
theorem w_LassoFinderModel_act (l : Launch) (G : va_G) (K : Nat → ClassId) (ad : Nat → Nat) (I : Nat → Int32) (J : Nat → Int64) (B : Nat → Nat → Int32) (D : Nat → Nat → Int64) (a0 : Int32) (a1 : Int32) (Post : (Nat → Int32) → (Nat → Int64) → (Nat → Nat → Int32) → (Nat → Nat → Int64) → Prop) (sz : Nat) (hok : wp_LassoFinderModel_act I J B D a0 a1 Post) : Met l zy_LassoFinderModel_act (Cond.code zy_LassoFinderModel_act prog_14_method_35_code 9 none :: zTB) { frames := 1, cells := 0, slots := 0, locals := 27 } (va_Pc [.ref (ad 0), .int a0, .int a1] (zPre G K (wM ad K I J B D) sz)) (va_Qv (fun u : zS => Post u.1 u.2.1 u.2.2.1 u.2.2.2) (fun u t => zPost G K (va_A (wM ad K I J B D) sz) (wM ad K u.1 u.2.1 u.2.2.1 u.2.2.2) t) (va_A (wM ad K I J B D) sz)) 0 0 (va_A (wM ad K I J B D) sz) := by
  refine zMet (y := zy_LassoFinderModel_act) (av := [.ref (ad 0), .int a0, .int a1]) (maxL := 9) (cc := prog_14_method_35_code) (ret := none) (W0 := (wM ad K I J B D)) (sz := sz) (G := G) (K := K) (wt := zTB) (mc := 0) (ms := 0) (Qf := fun A => va_Qv (fun u : zS => Post u.1 u.2.1 u.2.2.1 u.2.2.2) (fun u t => zPost G K A (wM ad K u.1 u.2.1 u.2.2.1 u.2.2.2) t) A) (by decide) (Nat.le_of_ble_eq_true rfl) ?_
  intro p e s m below meth c ls A hx hb hr hml hts hown hlocks hin hA hK H locs hw hsz hl
  clear hsz
  have hown : s.vm.findClass "LassoFinderModel" = some m.cls := hown
  have C : zCx p s m ([.ref (ad 0), .int a0, .int a1] : List Value).toArray meth c A G K prog_14_method_35_code none 9 "LassoFinderModel" := ⟨hx, hb, hr, hml, hts, hown, hlocks, hA, hK⟩
  have hl : lv_has ls 9 [(0, .ref (ad 0)), (1, .int a0), (2, .int a1)] := hl
  have hw : zW G A s.heap (wM ad K I J B D) H locs := hw
  unfold wp_LassoFinderModel_act at hok
  refine lv_aload_n hx hb zd_LassoFinderModel_act_0 rfl (lv_at hl 0 rfl) ?_
  refine z_get (v := .ref (ad 19)) hx hb hts hown hK hw zZ12 0 wM_g0 28 (by decide) zm_253 rfl zd_LassoFinderModel_act_1 ?_
  refine lv_iload_n hx hb zd_LassoFinderModel_act_4 rfl (lv_at hl 1 rfl) ?_
  refine va_iald (f := (B 18)) hx hb hK hw.1 19 0 wM_a19 rfl hok.1 zd_LassoFinderModel_act_5 ?_
  have hok := hok.2
  refine lv_topi (fun z38 ez38 => ?_)
  have hok := hok z38 ez38
  refine lv_istore_n hx hb zd_LassoFinderModel_act_6 rfl hl (by decide) rfl (fun ls hl => ?_)
  have hl : lv_has ls 9 [(3, .int z38), (0, .ref (ad 0)), (1, .int a0), (2, .int a1)] := hl
  refine lv_aload_n hx hb zd_LassoFinderModel_act_7 rfl (lv_at hl 1 rfl) ?_
  refine z_get (v := .ref (ad 7)) hx hb hts hown hK hw zZ12 0 wM_g0 15 (by decide) zm_241 rfl zd_LassoFinderModel_act_8 ?_
  refine lv_iload_n hx hb zd_LassoFinderModel_act_11 rfl (lv_at hl 0 rfl) ?_
  refine va_iald (f := (B 6)) hx hb hK hw.1 7 0 wM_a7 rfl hok.1 zd_LassoFinderModel_act_12 ?_
  have hok := hok.2
  refine lv_topi (fun z39 ez39 => ?_)
  have hok := hok z39 ez39
  refine lv_istore hx hb zd_LassoFinderModel_act_13 hl (by decide) rfl (fun ls hl => ?_)
  have hl : lv_has ls 9 [(4, .int z39), (3, .int z38), (0, .ref (ad 0)), (1, .int a0), (2, .int a1)] := hl
  refine lv_aload_n hx hb zd_LassoFinderModel_act_15 rfl (lv_at hl 2 rfl) ?_
  refine z_get (v := .ref (ad 13)) hx hb hts hown hK hw zZ12 0 wM_g0 21 (by decide) zm_247 rfl zd_LassoFinderModel_act_16 ?_
  refine lv_iload_n hx hb zd_LassoFinderModel_act_19 rfl (lv_at hl 1 rfl) ?_
  refine va_iald (f := (B 12)) hx hb hK hw.1 13 0 wM_a13 rfl hok.1 zd_LassoFinderModel_act_20 ?_
  have hok := hok.2
  refine lv_topi (fun z40 ez40 => ?_)
  have hok := hok z40 ez40
  refine lv_istore hx hb zd_LassoFinderModel_act_21 hl (by decide) rfl (fun ls hl => ?_)
  have hl : lv_has ls 9 [(5, .int z40), (4, .int z39), (3, .int z38), (0, .ref (ad 0)), (1, .int a0), (2, .int a1)] := hl
  refine lv_aload_n hx hb zd_LassoFinderModel_act_23 rfl (lv_at hl 3 rfl) ?_
  refine z_get (v := .ref (ad 15)) hx hb hts hown hK hw zZ12 0 wM_g0 23 (by decide) zm_249 rfl zd_LassoFinderModel_act_24 ?_
  refine lv_iload_n hx hb zd_LassoFinderModel_act_27 rfl (lv_at hl 2 rfl) ?_
  refine va_iald (f := (B 14)) hx hb hK hw.1 15 0 wM_a15 rfl hok.1 zd_LassoFinderModel_act_28 ?_
  have hok := hok.2
  refine lv_topi (fun z41 ez41 => ?_)
  have hok := hok z41 ez41
  refine lv_aload_n hx hb zd_LassoFinderModel_act_29 rfl (lv_at hl 3 rfl) ?_
  refine z_get (v := .ref (ad 16)) hx hb hts hown hK hw zZ12 0 wM_g0 24 (by decide) zm_250 rfl zd_LassoFinderModel_act_30 ?_
  refine lv_iload_n hx hb zd_LassoFinderModel_act_33 rfl (lv_at hl 2 rfl) ?_
  refine va_iald (f := (B 15)) hx hb hK hw.1 16 0 wM_a16 rfl hok.1 zd_LassoFinderModel_act_34 ?_
  have hok := hok.2
  refine lv_topi (fun z42 ez42 => ?_)
  have hok := hok z42 ez42
  refine lv_icmp_ge (tgt := 57) hx hb zd_LassoFinderModel_act_35 (by decide) (fun hc43 => ?_) (fun hc43 => ?_)
  · have hok := hok.1 hc43
    refine lv_iconst (v := 0) hx hb zd_LassoFinderModel_act_57 (by decide) ?_
    exact wJ_LassoFinderModel_act_58 G K ad a0 a1 Post C a1 z38 z39 z40 0 I J B D ls H locs hok (lv_sub hl [3, 5, 2, 1, 0] rfl) hw
  · have hok := hok.2 hc43
    refine lv_aload_n hx hb zd_LassoFinderModel_act_38 rfl (lv_at hl 3 rfl) ?_
    refine lv_aload_n hx hb zd_LassoFinderModel_act_39 rfl (lv_at hl 3 rfl) ?_
    refine z_get (v := .ref (ad 15)) hx hb hts hown hK hw zZ12 0 wM_g0 23 (by decide) zm_249 rfl zd_LassoFinderModel_act_40 ?_
    refine lv_iload_n hx hb zd_LassoFinderModel_act_43 rfl (lv_at hl 2 rfl) ?_
    refine va_iald (f := (B 14)) hx hb hK hw.1 15 0 wM_a15 rfl hok.1 zd_LassoFinderModel_act_44 ?_
    have hok := hok.2
    refine lv_topi (fun z44 ez44 => ?_)
    have hok := hok z44 ez44
    refine lv_aload_n hx hb zd_LassoFinderModel_act_45 rfl (lv_at hl 3 rfl) ?_
    refine z_get (v := .ref (ad 16)) hx hb hts hown hK hw zZ12 0 wM_g0 24 (by decide) zm_250 rfl zd_LassoFinderModel_act_46 ?_
    refine lv_iload_n hx hb zd_LassoFinderModel_act_49 rfl (lv_at hl 2 rfl) ?_
    refine va_iald (f := (B 15)) hx hb hK hw.1 16 0 wM_a16 rfl hok.1 zd_LassoFinderModel_act_50 ?_
    have hok := hok.2
    refine lv_topi (fun z45 ez45 => ?_)
    have hok := hok z45 ez45
    refine z_calli (w1 := fun (u : zS) => wM ad K u.1 u.2.1 u.2.2.1 u.2.2.2) (wr := []) (z_runV (q0 := 0) (wc := (wM ad K I J B D)) (As := [.int z44, .int z45]) (rest := []) ⟨hx, hb, hml, hown, hts⟩ (w_LassoFinderModel_worth l G K ad I J B D z44 z45 _ H.size hok) zf_LassoFinderModel_worth zm_324 ⟨Nat.le_of_ble_eq_true rfl, Nat.le_of_ble_eq_true rfl⟩ hK hw (List.range 58) wM_all wM_nd wM_g0 rfl rfl hl.1 rfl (Nat.le_of_ble_eq_true rfl) zd_LassoFinderModel_act_51 ⟨Nat.le_of_ble_eq_true rfl, Nat.le_of_ble_eq_true rfl⟩) hw hA (List.range 58) [] wM_all rfl (by decide) (fun i hi => by cases hi) (fun r46 u H locs hok hw => ?_)
    obtain ⟨I46, J46, B46, D46⟩ := u
    dsimp only at hok
    have hw : zW G A s.heap (wM ad K I46 J46 B46 D46) H locs := hw
    refine lv_goto (tgt := 58) hx hb zd_LassoFinderModel_act_54 (by decide) ?_
    exact wJ_LassoFinderModel_act_58 G K ad a0 a1 Post C a1 z38 z39 z40 r46 I46 J46 B46 D46 ls H locs hok (lv_sub hl [3, 5, 2, 1, 0] rfl) hw
