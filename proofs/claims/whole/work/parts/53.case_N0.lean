theorem zq_353 : Cond.constantLong "LassoFinderLaw" 47 (4294967295 : Int64) ∈ zTB := z_in (zt_8 _ (List.mem_of_getElem? (i := 177) rfl)) rfl
theorem zq_354 : Cond.methodLink "LassoFinderLaw" 49 ⟨"LassoFinder", "write", "(J)Z"⟩ ∈ zTB := z_in (zt_3 _ (List.mem_of_getElem? (i := 18) rfl)) rfl
theorem zq_355 : Cond.methodLink "LassoFinderLaw" 53 ⟨"LassoFinderModel", "write", "(J)Z"⟩ ∈ zTB := z_in (zt_7 _ (List.mem_of_getElem? (i := 111) rfl)) rfl
theorem zq_356 : Cond.methodLink "LassoFinderLaw" 54 ⟨"LassoFinderLaw", "model", "(LLassoFinder;[J)I"⟩ ∈ zTB := z_in (zt_3 _ (List.mem_of_getElem? (i := 82) rfl)) rfl
theorem zq_357 : Cond.methodLink "LassoFinderLaw" 59 ⟨"LassoFinderModel", "model", "()I"⟩ ∈ zTB := z_in (zt_7 _ (List.mem_of_getElem? (i := 118) rfl)) rfl
theorem zq_358 : Cond.methodLink "LassoFinderLaw" 60 ⟨"LassoFinderModel", "thrown", "()I"⟩ ∈ zTB := z_in (zt_7 _ (List.mem_of_getElem? (i := 107) rfl)) rfl
theorem zq_359 : Cond.methodLink "LassoFinderLaw" 63 ⟨"LassoFinderLaw", "formula", "(LLassoFinder;[J)I"⟩ ∈ zTB := z_in (zt_5 _ (List.mem_of_getElem? (i := 0) rfl)) rfl
theorem zq_360 : Cond.methodLink "LassoFinderLaw" 65 ⟨"LassoFinderModel", "formula", "()I"⟩ ∈ zTB := z_in (zt_8 _ (List.mem_of_getElem? (i := 24) rfl)) rfl
theorem zq_361 : Cond.methodLink "LassoFinderLaw" 66 ⟨"LassoFinder", "place", "()I"⟩ ∈ zTB := z_in (zt_3 _ (List.mem_of_getElem? (i := 26) rfl)) rfl
theorem zq_362 : Cond.methodLink "LassoFinderLaw" 69 ⟨"LassoFinderModel", "place", "()I"⟩ ∈ zTB := z_in (zt_8 _ (List.mem_of_getElem? (i := 20) rfl)) rfl
theorem zq_363 : Cond.methodLink "LassoFinderLaw" 70 ⟨"LassoFinderLaw", "verify", "(LLassoFinder;[J)I"⟩ ∈ zTB := z_in (zt_5 _ (List.mem_of_getElem? (i := 113) rfl)) rfl
theorem zq_364 : Cond.methodLink "LassoFinderLaw" 72 ⟨"LassoFinderModel", "verify", "()Z"⟩ ∈ zTB := z_in (zt_8 _ (List.mem_of_getElem? (i := 63) rfl)) rfl
theorem zq_389 : Cond.code ⟨"LassoFinder", "write", "(J)Z"⟩ prog_1_method_2_code 3 (some .boolean) ∈ zTB := z_in (zt_3 _ (List.mem_of_getElem? (i := 21) rfl)) rfl
theorem zq_390 : Cond.selects "LassoFinder" ⟨"LassoFinder", "write", "(J)Z"⟩ ⟨"LassoFinder", "write", "(J)Z"⟩ ∈ zTB := z_in (zt_3 _ (List.mem_of_getElem? (i := 20) rfl)) rfl
theorem zq_391 : Cond.instanceMethod ⟨"LassoFinder", "write", "(J)Z"⟩ ∈ zTB := z_in (zt_3 _ (List.mem_of_getElem? (i := 19) rfl)) rfl
theorem zq_392 : Cond.code ⟨"LassoFinderModel", "write", "(J)Z"⟩ prog_14_method_4_code 6 (some .boolean) ∈ zTB := z_in (zt_7 _ (List.mem_of_getElem? (i := 114) rfl)) rfl
theorem zq_393 : Cond.selects "LassoFinderModel" ⟨"LassoFinderModel", "write", "(J)Z"⟩ ⟨"LassoFinderModel", "write", "(J)Z"⟩ ∈ zTB := z_in (zt_7 _ (List.mem_of_getElem? (i := 113) rfl)) rfl
theorem zq_394 : Cond.instanceMethod ⟨"LassoFinderModel", "write", "(J)Z"⟩ ∈ zTB := z_in (zt_7 _ (List.mem_of_getElem? (i := 112) rfl)) rfl
theorem zq_395 : Cond.codeWith ⟨"LassoFinderLaw", "model", "(LLassoFinder;[J)I"⟩ method_3_code 3 (some .int) [(0, 8, 11, 13), (0, 8, 14, 15)] ∈ zTB := z_in (zt_3 _ (List.mem_of_getElem? (i := 84) rfl)) rfl
theorem zq_396 : Cond.initialized "LassoFinderLaw" ∈ zTB := z_in (zt_1 _ (List.mem_of_getElem? (i := 0) rfl)) rfl
theorem zq_397 : Cond.static ⟨"LassoFinderLaw", "model", "(LLassoFinder;[J)I"⟩ ∈ zTB := z_in (zt_3 _ (List.mem_of_getElem? (i := 83) rfl)) rfl
theorem zq_398 : Cond.code ⟨"LassoFinderModel", "model", "()I"⟩ prog_14_method_39_code 2 (some .int) ∈ zTB := z_in (zt_7 _ (List.mem_of_getElem? (i := 121) rfl)) rfl
theorem zq_399 : Cond.selects "LassoFinderModel" ⟨"LassoFinderModel", "model", "()I"⟩ ⟨"LassoFinderModel", "model", "()I"⟩ ∈ zTB := z_in (zt_7 _ (List.mem_of_getElem? (i := 120) rfl)) rfl
theorem zq_400 : Cond.instanceMethod ⟨"LassoFinderModel", "model", "()I"⟩ ∈ zTB := z_in (zt_7 _ (List.mem_of_getElem? (i := 119) rfl)) rfl
theorem zq_401 : Cond.code ⟨"LassoFinderModel", "thrown", "()I"⟩ prog_14_method_2_code 1 (some .int) ∈ zTB := z_in (zt_7 _ (List.mem_of_getElem? (i := 110) rfl)) rfl
theorem zq_402 : Cond.selects "LassoFinderModel" ⟨"LassoFinderModel", "thrown", "()I"⟩ ⟨"LassoFinderModel", "thrown", "()I"⟩ ∈ zTB := z_in (zt_7 _ (List.mem_of_getElem? (i := 109) rfl)) rfl
theorem zq_403 : Cond.instanceMethod ⟨"LassoFinderModel", "thrown", "()I"⟩ ∈ zTB := z_in (zt_7 _ (List.mem_of_getElem? (i := 108) rfl)) rfl
theorem zq_404 : Cond.codeWith ⟨"LassoFinderLaw", "formula", "(LLassoFinder;[J)I"⟩ method_4_code 3 (some .int) [(0, 8, 11, 20), (0, 8, 14, 13)] ∈ zTB := z_in (zt_5 _ (List.mem_of_getElem? (i := 2) rfl)) rfl
theorem zq_405 : Cond.static ⟨"LassoFinderLaw", "formula", "(LLassoFinder;[J)I"⟩ ∈ zTB := z_in (zt_5 _ (List.mem_of_getElem? (i := 1) rfl)) rfl
theorem zq_406 : Cond.code ⟨"LassoFinderModel", "formula", "()I"⟩ prog_14_method_50_code 5 (some .int) ∈ zTB := z_in (zt_8 _ (List.mem_of_getElem? (i := 27) rfl)) rfl
theorem zq_407 : Cond.selects "LassoFinderModel" ⟨"LassoFinderModel", "formula", "()I"⟩ ⟨"LassoFinderModel", "formula", "()I"⟩ ∈ zTB := z_in (zt_8 _ (List.mem_of_getElem? (i := 26) rfl)) rfl
theorem zq_408 : Cond.instanceMethod ⟨"LassoFinderModel", "formula", "()I"⟩ ∈ zTB := z_in (zt_8 _ (List.mem_of_getElem? (i := 25) rfl)) rfl
theorem zq_409 : Cond.code ⟨"LassoFinder", "place", "()I"⟩ prog_1_method_5_code 1 (some .int) ∈ zTB := z_in (zt_3 _ (List.mem_of_getElem? (i := 29) rfl)) rfl
theorem zq_410 : Cond.selects "LassoFinder" ⟨"LassoFinder", "place", "()I"⟩ ⟨"LassoFinder", "place", "()I"⟩ ∈ zTB := z_in (zt_3 _ (List.mem_of_getElem? (i := 28) rfl)) rfl
theorem zq_411 : Cond.instanceMethod ⟨"LassoFinder", "place", "()I"⟩ ∈ zTB := z_in (zt_3 _ (List.mem_of_getElem? (i := 27) rfl)) rfl
theorem zq_412 : Cond.code ⟨"LassoFinderModel", "place", "()I"⟩ prog_14_method_40_code 1 (some .int) ∈ zTB := z_in (zt_8 _ (List.mem_of_getElem? (i := 23) rfl)) rfl
theorem zq_413 : Cond.selects "LassoFinderModel" ⟨"LassoFinderModel", "place", "()I"⟩ ⟨"LassoFinderModel", "place", "()I"⟩ ∈ zTB := z_in (zt_8 _ (List.mem_of_getElem? (i := 22) rfl)) rfl
theorem zq_414 : Cond.instanceMethod ⟨"LassoFinderModel", "place", "()I"⟩ ∈ zTB := z_in (zt_8 _ (List.mem_of_getElem? (i := 21) rfl)) rfl
theorem zq_415 : Cond.codeWith ⟨"LassoFinderLaw", "verify", "(LLassoFinder;[J)I"⟩ method_5_code 3 (some .int) [(0, 15, 18, 20)] ∈ zTB := z_in (zt_5 _ (List.mem_of_getElem? (i := 115) rfl)) rfl
theorem zq_416 : Cond.static ⟨"LassoFinderLaw", "verify", "(LLassoFinder;[J)I"⟩ ∈ zTB := z_in (zt_5 _ (List.mem_of_getElem? (i := 114) rfl)) rfl
theorem zq_417 : Cond.code ⟨"LassoFinderModel", "verify", "()Z"⟩ prog_14_method_66_code 6 (some .boolean) ∈ zTB := z_in (zt_8 _ (List.mem_of_getElem? (i := 66) rfl)) rfl
theorem zq_418 : Cond.selects "LassoFinderModel" ⟨"LassoFinderModel", "verify", "()Z"⟩ ⟨"LassoFinderModel", "verify", "()Z"⟩ ∈ zTB := z_in (zt_8 _ (List.mem_of_getElem? (i := 65) rfl)) rfl
theorem zq_419 : Cond.instanceMethod ⟨"LassoFinderModel", "verify", "()Z"⟩ ∈ zTB := z_in (zt_8 _ (List.mem_of_getElem? (i := 64) rfl)) rfl
theorem zf_LassoFinder_write : zFaceV zy_LassoFinder_write prog_1_method_2_code 3 (some .boolean) 1 := ⟨zq_391, zq_390, zm_1, zq_389, by decide +kernel, by decide +kernel, by decide +kernel⟩
theorem zf_LassoFinderModel_write : zFaceV zy_LassoFinderModel_write prog_14_method_4_code 6 (some .boolean) 1 := ⟨zq_394, zq_393, zm_25, zq_392, by decide +kernel, by decide +kernel, by decide +kernel⟩
theorem zf_LassoFinderLaw_model : zFaceSW zy_LassoFinderLaw_model method_3_code 3 (some .int) [(0, 8, 11, 13), (0, 8, 14, 15)] 2 := ⟨zq_397, zq_396, zq_395, by decide +kernel, by decide +kernel, by decide +kernel⟩
theorem zf_LassoFinderModel_model : zFaceV zy_LassoFinderModel_model prog_14_method_39_code 2 (some .int) 0 := ⟨zq_400, zq_399, zm_25, zq_398, by decide +kernel, by decide +kernel, by decide +kernel⟩
theorem zf_LassoFinderModel_thrown : zFaceV zy_LassoFinderModel_thrown prog_14_method_2_code 1 (some .int) 0 := ⟨zq_403, zq_402, zm_25, zq_401, by decide +kernel, by decide +kernel, by decide +kernel⟩
theorem zf_LassoFinderLaw_formula : zFaceSW zy_LassoFinderLaw_formula method_4_code 3 (some .int) [(0, 8, 11, 20), (0, 8, 14, 13)] 2 := ⟨zq_405, zq_396, zq_404, by decide +kernel, by decide +kernel, by decide +kernel⟩
theorem zf_LassoFinderModel_formula : zFaceV zy_LassoFinderModel_formula prog_14_method_50_code 5 (some .int) 0 := ⟨zq_408, zq_407, zm_25, zq_406, by decide +kernel, by decide +kernel, by decide +kernel⟩
theorem zf_LassoFinder_place : zFaceV zy_LassoFinder_place prog_1_method_5_code 1 (some .int) 0 := ⟨zq_411, zq_410, zm_1, zq_409, by decide +kernel, by decide +kernel, by decide +kernel⟩
theorem zf_LassoFinderModel_place : zFaceV zy_LassoFinderModel_place prog_14_method_40_code 1 (some .int) 0 := ⟨zq_414, zq_413, zm_25, zq_412, by decide +kernel, by decide +kernel, by decide +kernel⟩
theorem zf_LassoFinderLaw_verify : zFaceSW zy_LassoFinderLaw_verify method_5_code 3 (some .int) [(0, 15, 18, 20)] 2 := ⟨zq_416, zq_396, zq_415, by decide +kernel, by decide +kernel, by decide +kernel⟩
theorem zf_LassoFinderModel_verify : zFaceV zy_LassoFinderModel_verify prog_14_method_66_code 6 (some .boolean) 0 := ⟨zq_419, zq_418, zm_25, zq_417, by decide +kernel, by decide +kernel, by decide +kernel⟩
theorem zd_LassoFinderLaw_law_120 : decode code 120 = .ok (.aload_n 1, 1) := by decide +kernel
theorem zd_LassoFinderLaw_law_121 : decode code 121 = .ok (.aload_n 0, 1) := by decide +kernel
theorem zd_LassoFinderLaw_law_122 : decode code 122 = .ok (.iload 4, 2) := by decide +kernel
theorem zd_LassoFinderLaw_law_124 : decode code 124 = .ok (.iconst 1, 1) := by decide +kernel
theorem zd_LassoFinderLaw_law_125 : decode code 125 = .ok (.iadd, 1) := by decide +kernel
theorem zd_LassoFinderLaw_law_126 : decode code 126 = .ok (.iaload, 1) := by decide +kernel
theorem zd_LassoFinderLaw_law_127 : decode code 127 = .ok (.i2l, 1) := by decide +kernel
theorem zd_LassoFinderLaw_law_128 : decode code 128 = .ok (.bipush 32, 2) := by decide +kernel
theorem zd_LassoFinderLaw_law_130 : decode code 130 = .ok (.lshl, 1) := by decide +kernel
theorem zd_LassoFinderLaw_law_131 : decode code 131 = .ok (.aload_n 0, 1) := by decide +kernel
theorem zd_LassoFinderLaw_law_132 : decode code 132 = .ok (.iload 4, 2) := by decide +kernel
theorem zd_LassoFinderLaw_law_134 : decode code 134 = .ok (.iconst 2, 1) := by decide +kernel
theorem zd_LassoFinderLaw_law_135 : decode code 135 = .ok (.iadd, 1) := by decide +kernel
theorem zd_LassoFinderLaw_law_136 : decode code 136 = .ok (.iaload, 1) := by decide +kernel
theorem zd_LassoFinderLaw_law_137 : decode code 137 = .ok (.i2l, 1) := by decide +kernel
theorem zd_LassoFinderLaw_law_138 : decode code 138 = .ok (.ldc2_w 47, 3) := by decide +kernel
theorem zd_LassoFinderLaw_law_141 : decode code 141 = .ok (.land, 1) := by decide +kernel
theorem zd_LassoFinderLaw_law_142 : decode code 142 = .ok (.lor, 1) := by decide +kernel
theorem zd_LassoFinderLaw_law_143 : decode code 143 = .ok (.invokevirtual 49, 3) := by decide +kernel
theorem zd_LassoFinderLaw_law_146 : decode code 146 = .ok (.aload_n 2, 1) := by decide +kernel
theorem zd_LassoFinderLaw_law_147 : decode code 147 = .ok (.aload_n 0, 1) := by decide +kernel
theorem zd_LassoFinderLaw_law_148 : decode code 148 = .ok (.iload 4, 2) := by decide +kernel
theorem zd_LassoFinderLaw_law_150 : decode code 150 = .ok (.iconst 1, 1) := by decide +kernel
theorem zd_LassoFinderLaw_law_151 : decode code 151 = .ok (.iadd, 1) := by decide +kernel
theorem zd_LassoFinderLaw_law_152 : decode code 152 = .ok (.iaload, 1) := by decide +kernel
theorem zd_LassoFinderLaw_law_153 : decode code 153 = .ok (.i2l, 1) := by decide +kernel
theorem zd_LassoFinderLaw_law_154 : decode code 154 = .ok (.bipush 32, 2) := by decide +kernel
theorem zd_LassoFinderLaw_law_156 : decode code 156 = .ok (.lshl, 1) := by decide +kernel
theorem zd_LassoFinderLaw_law_157 : decode code 157 = .ok (.aload_n 0, 1) := by decide +kernel
theorem zd_LassoFinderLaw_law_158 : decode code 158 = .ok (.iload 4, 2) := by decide +kernel
theorem zd_LassoFinderLaw_law_160 : decode code 160 = .ok (.iconst 2, 1) := by decide +kernel
theorem zd_LassoFinderLaw_law_161 : decode code 161 = .ok (.iadd, 1) := by decide +kernel
theorem zd_LassoFinderLaw_law_162 : decode code 162 = .ok (.iaload, 1) := by decide +kernel
theorem zd_LassoFinderLaw_law_163 : decode code 163 = .ok (.i2l, 1) := by decide +kernel
theorem zd_LassoFinderLaw_law_164 : decode code 164 = .ok (.ldc2_w 47, 3) := by decide +kernel
theorem zd_LassoFinderLaw_law_167 : decode code 167 = .ok (.land, 1) := by decide +kernel
theorem zd_LassoFinderLaw_law_168 : decode code 168 = .ok (.lor, 1) := by decide +kernel
theorem zd_LassoFinderLaw_law_169 : decode code 169 = .ok (.invokevirtual 53, 3) := by decide +kernel
theorem zd_LassoFinderLaw_law_172 : decode code 172 = .ok (.if_icmp .eq 532, 3) := by decide +kernel
theorem zd_LassoFinderLaw_law_177 : decode code 177 = .ok (.aload_n 1, 1) := by decide +kernel
theorem zd_LassoFinderLaw_law_178 : decode code 178 = .ok (.aload_n 3, 1) := by decide +kernel
theorem zd_LassoFinderLaw_law_179 : decode code 179 = .ok (.invokestatic 54, 3) := by decide +kernel
theorem zd_LassoFinderLaw_law_182 : decode code 182 = .ok (.istore 5, 2) := by decide +kernel
theorem zd_LassoFinderLaw_law_184 : decode code 184 = .ok (.aload_n 2, 1) := by decide +kernel
theorem zd_LassoFinderLaw_law_185 : decode code 185 = .ok (.invokevirtual 59, 3) := by decide +kernel
theorem zd_LassoFinderLaw_law_188 : decode code 188 = .ok (.istore 6, 2) := by decide +kernel
theorem zd_LassoFinderLaw_law_190 : decode code 190 = .ok (.aload_n 2, 1) := by decide +kernel
theorem zd_LassoFinderLaw_law_191 : decode code 191 = .ok (.invokevirtual 60, 3) := by decide +kernel
theorem zd_LassoFinderLaw_law_194 : decode code 194 = .ok (.iload 5, 2) := by decide +kernel
theorem zd_LassoFinderLaw_law_196 : decode code 196 = .ok (.if_icmp .eq 5, 3) := by decide +kernel
theorem zd_LassoFinderLaw_law_201 : decode code 201 = .ok (.iload 5, 2) := by decide +kernel
theorem zd_LassoFinderLaw_law_203 : decode code 203 = .ok (.ifCond .ne 15, 3) := by decide +kernel
theorem zd_LassoFinderLaw_law_206 : decode code 206 = .ok (.aload_n 3, 1) := by decide +kernel
theorem zd_LassoFinderLaw_law_207 : decode code 207 = .ok (.iconst 0, 1) := by decide +kernel
theorem zd_LassoFinderLaw_law_208 : decode code 208 = .ok (.laload, 1) := by decide +kernel
theorem zd_LassoFinderLaw_law_209 : decode code 209 = .ok (.iload 6, 2) := by decide +kernel
theorem zd_LassoFinderLaw_law_211 : decode code 211 = .ok (.i2l, 1) := by decide +kernel
theorem zd_LassoFinderLaw_law_212 : decode code 212 = .ok (.lcmp, 1) := by decide +kernel
theorem zd_LassoFinderLaw_law_213 : decode code 213 = .ok (.ifCond .eq 5, 3) := by decide +kernel
theorem zd_LassoFinderLaw_law_218 : decode code 218 = .ok (.goto 486, 3) := by decide +kernel
theorem zd_LassoFinderLaw_law_221 : decode code 221 = .ok (.aload_n 1, 1) := by decide +kernel
theorem zd_LassoFinderLaw_law_222 : decode code 222 = .ok (.aload_n 3, 1) := by decide +kernel
theorem zd_LassoFinderLaw_law_223 : decode code 223 = .ok (.invokestatic 63, 3) := by decide +kernel
theorem zd_LassoFinderLaw_law_226 : decode code 226 = .ok (.istore 5, 2) := by decide +kernel
theorem zd_LassoFinderLaw_law_228 : decode code 228 = .ok (.aload_n 2, 1) := by decide +kernel
theorem zd_LassoFinderLaw_law_229 : decode code 229 = .ok (.invokevirtual 65, 3) := by decide +kernel
theorem zd_LassoFinderLaw_law_232 : decode code 232 = .ok (.istore 6, 2) := by decide +kernel
theorem zd_LassoFinderLaw_law_234 : decode code 234 = .ok (.aload_n 2, 1) := by decide +kernel
theorem zd_LassoFinderLaw_law_235 : decode code 235 = .ok (.invokevirtual 60, 3) := by decide +kernel
theorem zd_LassoFinderLaw_law_238 : decode code 238 = .ok (.iload 5, 2) := by decide +kernel
theorem zd_LassoFinderLaw_law_240 : decode code 240 = .ok (.if_icmp .eq 5, 3) := by decide +kernel
theorem zd_LassoFinderLaw_law_245 : decode code 245 = .ok (.iload 5, 2) := by decide +kernel
theorem zd_LassoFinderLaw_law_247 : decode code 247 = .ok (.ifCond .ne 15, 3) := by decide +kernel
theorem zd_LassoFinderLaw_law_250 : decode code 250 = .ok (.aload_n 3, 1) := by decide +kernel
theorem zd_LassoFinderLaw_law_251 : decode code 251 = .ok (.iconst 0, 1) := by decide +kernel
theorem zd_LassoFinderLaw_law_252 : decode code 252 = .ok (.laload, 1) := by decide +kernel
theorem zd_LassoFinderLaw_law_253 : decode code 253 = .ok (.iload 6, 2) := by decide +kernel
theorem zd_LassoFinderLaw_law_255 : decode code 255 = .ok (.i2l, 1) := by decide +kernel
theorem zd_LassoFinderLaw_law_256 : decode code 256 = .ok (.lcmp, 1) := by decide +kernel
theorem zd_LassoFinderLaw_law_257 : decode code 257 = .ok (.ifCond .eq 5, 3) := by decide +kernel
theorem zd_LassoFinderLaw_law_262 : decode code 262 = .ok (.goto 442, 3) := by decide +kernel
theorem zd_LassoFinderLaw_law_265 : decode code 265 = .ok (.aload_n 1, 1) := by decide +kernel
theorem zd_LassoFinderLaw_law_266 : decode code 266 = .ok (.invokevirtual 66, 3) := by decide +kernel
theorem zd_LassoFinderLaw_law_269 : decode code 269 = .ok (.aload_n 2, 1) := by decide +kernel
theorem zd_LassoFinderLaw_law_270 : decode code 270 = .ok (.invokevirtual 69, 3) := by decide +kernel
theorem zd_LassoFinderLaw_law_273 : decode code 273 = .ok (.if_icmp .eq 431, 3) := by decide +kernel
theorem zd_LassoFinderLaw_law_278 : decode code 278 = .ok (.aload_n 1, 1) := by decide +kernel
theorem zd_LassoFinderLaw_law_279 : decode code 279 = .ok (.aload_n 3, 1) := by decide +kernel
theorem zd_LassoFinderLaw_law_280 : decode code 280 = .ok (.invokestatic 70, 3) := by decide +kernel
theorem zd_LassoFinderLaw_law_283 : decode code 283 = .ok (.istore 5, 2) := by decide +kernel
theorem zd_LassoFinderLaw_law_285 : decode code 285 = .ok (.aload_n 2, 1) := by decide +kernel
theorem zd_LassoFinderLaw_law_286 : decode code 286 = .ok (.invokevirtual 72, 3) := by decide +kernel
theorem zd_LassoFinderLaw_law_289 : decode code 289 = .ok (.istore 6, 2) := by decide +kernel
theorem zd_LassoFinderLaw_law_291 : decode code 291 = .ok (.aload_n 2, 1) := by decide +kernel
theorem zd_LassoFinderLaw_law_292 : decode code 292 = .ok (.invokevirtual 60, 3) := by decide +kernel
theorem zd_LassoFinderLaw_law_295 : decode code 295 = .ok (.iload 5, 2) := by decide +kernel
theorem zd_LassoFinderLaw_law_297 : decode code 297 = .ok (.if_icmp .eq 5, 3) := by decide +kernel
theorem zd_LassoFinderLaw_law_302 : decode code 302 = .ok (.iload 5, 2) := by decide +kernel
theorem zd_LassoFinderLaw_law_304 : decode code 304 = .ok (.ifCond .ne 22, 3) := by decide +kernel
theorem zd_LassoFinderLaw_law_307 : decode code 307 = .ok (.aload_n 3, 1) := by decide +kernel
theorem zd_LassoFinderLaw_law_308 : decode code 308 = .ok (.iconst 0, 1) := by decide +kernel
theorem zd_LassoFinderLaw_law_309 : decode code 309 = .ok (.laload, 1) := by decide +kernel
theorem zd_LassoFinderLaw_law_310 : decode code 310 = .ok (.iload 6, 2) := by decide +kernel
theorem zd_LassoFinderLaw_law_312 : decode code 312 = .ok (.ifCond .eq 7, 3) := by decide +kernel
theorem zd_LassoFinderLaw_law_315 : decode code 315 = .ok (.lconst 1, 1) := by decide +kernel
theorem zd_LassoFinderLaw_law_316 : decode code 316 = .ok (.goto 4, 3) := by decide +kernel
theorem zd_LassoFinderLaw_law_319 : decode code 319 = .ok (.lconst 0, 1) := by decide +kernel
theorem zd_LassoFinderLaw_law_320 : decode code 320 = .ok (.lcmp, 1) := by decide +kernel
theorem zd_LassoFinderLaw_law_321 : decode code 321 = .ok (.ifCond .eq 5, 3) := by decide +kernel
theorem zd_LassoFinderLaw_law_326 : decode code 326 = .ok (.goto 378, 3) := by decide +kernel
set_option maxHeartbeats 8000000 in
set_option maxRecDepth 100000 in
theorem zc0_N {p : Program} {l : Launch} {e : Env} {s : State} {m : MethodId} {below : List Frame} {meth : Method} {c : Code} {A : Nat → Prop} {G : va_G} {K : Nat → ClassId} {b L : Nat} {xs : Nat → Int32} (C : zCL p l s m b L xs meth c A G K) {ad am : Nat → Nat} {i8 c9 s9 : Nat} (KN : ((Nat → Int32) → (Nat → Int64) → (Nat → Nat → Int32) → (Nat → Nat → Int64) → (Nat → Int32) → (Nat → Int64) → (Nat → Nat → Int32) → (Nat → Nat → Int64) → Prop)) (kh : ∀ (I : Nat → Int32) (J : Nat → Int64) (B : Nat → Nat → Int32) (D : Nat → Nat → Int64) (I9 : Nat → Int32) (J9 : Nat → Int64) (B9 : Nat → Nat → Int32) (D9 : Nat → Nat → Int64) (ls : Array Slot) (H : Heap) (locs : List Loc), KN I J B D I9 J9 B9 D9 → lv_has ls 7 [(4, .int (nI i8)), (3, .ref (ad 77)), (2, .ref (am 0)), (1, .ref (ad 0)), (0, .ref b)] → zW G A s.heap (wLN ad am K I J B D I9 J9 B9 D9) H locs → W p l e room_1 s m #[Value.ref b] below meth c H locs (c9 + 1) (s9 + 6) (lw_Z below #[Value.ref b] s) (F0 m 704 ls [])) (hi : i8 + 3 ≤ L) (hL : L ≤ 1536) {a8 b8 : Int32} (h81 : xs (i8 + 1) = a8) (h82 : xs (i8 + 2) = b8) (hrc : c9 + 1 ≤ 601024) (hrs : s9 + 6 ≤ 7293033) : ∀ (I : Nat → Int32) (J : Nat → Int64) (B : Nat → Nat → Int32) (D : Nat → Nat → Int64) (I9 : Nat → Int32) (J9 : Nat → Int64) (B9 : Nat → Nat → Int32) (D9 : Nat → Nat → Int64) (ls : Array Slot) (H : Heap) (locs : List Loc), lc0_N KN a8 b8 I J B D I9 J9 B9 D9 → lv_has ls 7 [(4, .int (nI i8)), (3, .ref (ad 77)), (2, .ref (am 0)), (1, .ref (ad 0)), (0, .ref b)] → zW G A s.heap (wLN ad am K I J B D I9 J9 B9 D9) H locs → W p l e room_1 s m #[Value.ref b] below meth c H locs c9 s9 (lw_Z below #[Value.ref b] s) (F0 m 120 ls []) := by
  intro I J B D I9 J9 B9 D9 ls H locs hok hl hw
  obtain ⟨hx, hb, hr, hml, hts, hown, hlocks, hA, hA9, hbA, hK, hT, hX, hbl, hlt⟩ := id C
  have hrc : c9 + 1 ≤ room_1.cells := hrc
  have hrs : s9 + 6 ≤ room_1.slots := hrs
  unfold lc0_N at hok
  have hl : lv_has ls 7 [(4, .int (nI i8)), (3, .ref (ad 77)), (2, .ref (am 0)), (1, .ref (ad 0)), (0, .ref b)] := hl
  have hw : zW G A s.heap (wLN ad am K I J B D I9 J9 B9 D9) H locs := hw
  refine lv_aload_n hx hb zd_LassoFinderLaw_law_120 rfl (lv_at hl 3 rfl) ?_
  refine lv_aload_n hx hb zd_LassoFinderLaw_law_121 rfl (lv_at hl 4 rfl) ?_
  refine lv_iload hx hb zd_LassoFinderLaw_law_122 (lv_at hl 0 rfl) ?_
  refine lv_iconst (v := 1) hx hb zd_LassoFinderLaw_law_124 (by decide) ?_
  refine lv_iadd hx hb zd_LassoFinderLaw_law_125 ?_
  refine lv_topi (fun z1 ez1 => ?_)
  obtain rfl : z1 = nI (i8 + 1) := ez1.trans (nI_add i8 1)
  refine va_sld hx hb hX hbl hbA hw.2.2 (i := nI (i8 + 1)) (vp_in_nI (by omega) (by omega)) zd_LassoFinderLaw_law_126 ?_
  rw [nI_clamp (show i8 + 1 < 2 ^ 31 by omega), h81]
  refine lv_i2l hx hb zd_LassoFinderLaw_law_127 rfl ?_
  refine lv_topl (fun z2 ez2 => ?_)
  have hok := hok z2 ez2
  refine lv_bipush (v := 32) hx hb zd_LassoFinderLaw_law_128 (by decide) ?_
  refine lv_lshl hx hb zd_LassoFinderLaw_law_130 rfl ?_
  refine lv_topl (fun z3 ez3 => ?_)
  have hok := hok z3 ez3
  refine lv_aload_n hx hb zd_LassoFinderLaw_law_131 rfl (lv_at hl 4 rfl) ?_
  refine lv_iload hx hb zd_LassoFinderLaw_law_132 (lv_at hl 0 rfl) ?_
  refine lv_iconst (v := 2) hx hb zd_LassoFinderLaw_law_134 (by decide) ?_
  refine lv_iadd hx hb zd_LassoFinderLaw_law_135 ?_
  refine lv_topi (fun z4 ez4 => ?_)
  obtain rfl : z4 = nI (i8 + 2) := ez4.trans (nI_add i8 2)
  refine va_sld hx hb hX hbl hbA hw.2.2 (i := nI (i8 + 2)) (vp_in_nI (by omega) (by omega)) zd_LassoFinderLaw_law_136 ?_
  rw [nI_clamp (show i8 + 2 < 2 ^ 31 by omega), h82]
  refine lv_i2l hx hb zd_LassoFinderLaw_law_137 rfl ?_
  refine lv_topl (fun z5 ez5 => ?_)
  have hok := hok z5 ez5
  refine lv_ldc2 (v := 4294967295) hx hb hown (hts _ zq_353) zd_LassoFinderLaw_law_138 ?_
  refine lv_land hx hb zd_LassoFinderLaw_law_141 ?_
  refine lv_topl (fun z6 ez6 => ?_)
  have hok := hok z6 ez6
  refine lv_lor hx hb zd_LassoFinderLaw_law_142 ?_
  refine lv_topl (fun z7 ez7 => ?_)
  have hok := hok z7 ez7
  refine z_calli (w1 := fun (u : zS) => wX ad K Value.null u.1 u.2.1 u.2.2.1 u.2.2.2) (wr := ((ad 77, zJ K 1 (D 3)) :: wM am K I9 J9 B9 D9)) (z_runV (q0 := 1) (wc := (wX ad K Value.null I J B D)) (As := [.long z7]) (rest := []) ⟨hx, hb, hml, hown, hts⟩ (w_LassoFinder_write_N l G K ad I J B D z7 _ H.size hok) zf_LassoFinder_write zq_354 ⟨(Nat.le_of_ble_eq_true rfl), (Nat.le_of_ble_eq_true rfl)⟩ hK hw (List.range' 1 65) wLN_X wLN_ndX wLN_gx rfl rfl hl.1 rfl (Nat.le_of_ble_eq_true rfl) zd_LassoFinderLaw_law_143 ⟨(by first | omega | (dsimp only; omega)), (by first | omega | (dsimp only; omega))⟩) hw hA (List.range' 1 65) (0 :: List.range' 66 58) wLN_X wLN_R wLN_ndR wLN_disRX (fun r8 u H locs hok hw => ?_)
  obtain ⟨I8, J8, B8, D8⟩ := u
  dsimp only at hok
  have hw := wLN_bX hw
  have hw : zW G A s.heap (wLN ad am K I8 J8 B8 (zmix 3 D8 D) I9 J9 B9 D9) H locs := hw
  refine lv_aload_n hx hb zd_LassoFinderLaw_law_146 rfl (lv_at hl 2 rfl) ?_
  refine lv_aload_n hx hb zd_LassoFinderLaw_law_147 rfl (lv_at hl 4 rfl) ?_
  refine lv_iload hx hb zd_LassoFinderLaw_law_148 (lv_at hl 0 rfl) ?_
  refine lv_iconst (v := 1) hx hb zd_LassoFinderLaw_law_150 (by decide) ?_
  refine lv_iadd hx hb zd_LassoFinderLaw_law_151 ?_
  refine lv_topi (fun z9 ez9 => ?_)
  obtain rfl : z9 = nI (i8 + 1) := ez9.trans (nI_add i8 1)
  refine va_sld hx hb hX hbl hbA hw.2.2 (i := nI (i8 + 1)) (vp_in_nI (by omega) (by omega)) zd_LassoFinderLaw_law_152 ?_
  rw [nI_clamp (show i8 + 1 < 2 ^ 31 by omega), h81]
  refine lv_i2l hx hb zd_LassoFinderLaw_law_153 rfl ?_
  refine lv_topl (fun z10 ez10 => ?_)
  have hok := hok z10 ez10
  refine lv_bipush (v := 32) hx hb zd_LassoFinderLaw_law_154 (by decide) ?_
  refine lv_lshl hx hb zd_LassoFinderLaw_law_156 rfl ?_
  refine lv_topl (fun z11 ez11 => ?_)
  have hok := hok z11 ez11
  refine lv_aload_n hx hb zd_LassoFinderLaw_law_157 rfl (lv_at hl 4 rfl) ?_
  refine lv_iload hx hb zd_LassoFinderLaw_law_158 (lv_at hl 0 rfl) ?_
  refine lv_iconst (v := 2) hx hb zd_LassoFinderLaw_law_160 (by decide) ?_
  refine lv_iadd hx hb zd_LassoFinderLaw_law_161 ?_
  refine lv_topi (fun z12 ez12 => ?_)
  obtain rfl : z12 = nI (i8 + 2) := ez12.trans (nI_add i8 2)
  refine va_sld hx hb hX hbl hbA hw.2.2 (i := nI (i8 + 2)) (vp_in_nI (by omega) (by omega)) zd_LassoFinderLaw_law_162 ?_
  rw [nI_clamp (show i8 + 2 < 2 ^ 31 by omega), h82]
  refine lv_i2l hx hb zd_LassoFinderLaw_law_163 rfl ?_
  refine lv_topl (fun z13 ez13 => ?_)
  have hok := hok z13 ez13
  refine lv_ldc2 (v := 4294967295) hx hb hown (hts _ zq_353) zd_LassoFinderLaw_law_164 ?_
  refine lv_land hx hb zd_LassoFinderLaw_law_167 ?_
  refine lv_topl (fun z14 ez14 => ?_)
  have hok := hok z14 ez14
  refine lv_lor hx hb zd_LassoFinderLaw_law_168 ?_
  refine lv_topl (fun z15 ez15 => ?_)
  have hok := hok z15 ez15
  refine z_calli (w1 := fun (u : zS) => wM am K u.1 u.2.1 u.2.2.1 u.2.2.2) (wr := (wPN ad K I8 J8 B8 (zmix 3 D8 D))) (z_runV (q0 := 66) (wc := (wM am K I9 J9 B9 D9)) (As := [.long z15]) (rest := [.int r8]) ⟨hx, hb, hml, hown, hts⟩ (w_LassoFinderModel_write l G K am I9 J9 B9 D9 z15 _ H.size hok) zf_LassoFinderModel_write zq_355 ⟨(Nat.le_of_ble_eq_true rfl), (Nat.le_of_ble_eq_true rfl)⟩ hK hw (List.range' 66 58) wLN_M wLN_ndM wLN_gm rfl rfl hl.1 rfl (Nat.le_of_ble_eq_true rfl) zd_LassoFinderLaw_law_169 ⟨(by first | omega | (dsimp only; omega)), (by first | omega | (dsimp only; omega))⟩) hw hA (List.range' 66 58) (List.range 66) wLN_M wLN_P wLN_ndP wLN_disPM (fun r16 u H locs hok hw => ?_)
  obtain ⟨I16, J16, B16, D16⟩ := u
  dsimp only at hok
  have hw := wLN_bM hw
  have hw : zW G A s.heap (wLN ad am K I8 J8 B8 (zmix 3 D8 D) I16 J16 B16 D16) H locs := hw
  refine lv_icmp_eq (tgt := 704) hx hb zd_LassoFinderLaw_law_172 (by decide) (fun hc17 => ?_) (fun hc17 => ?_)
  · have hok := hok.1 hc17
    refine W.widen (k := c9 + 1) (n := s9 + 6) (by first | omega | (dsimp only; omega)) (by first | omega | (dsimp only; omega)) ?_
    exact kh I8 J8 B8 (zmix 3 D8 D) I16 J16 B16 D16 ls H locs hok (lv_sub hl [0, 1, 2, 3, 4] rfl) hw
  · have hok := hok.2 hc17
    exact hok.elim
set_option maxHeartbeats 8000000 in
set_option maxRecDepth 100000 in
theorem zc1_N {p : Program} {l : Launch} {e : Env} {s : State} {m : MethodId} {below : List Frame} {meth : Method} {c : Code} {A : Nat → Prop} {G : va_G} {K : Nat → ClassId} {b L : Nat} {xs : Nat → Int32} (C : zCL p l s m b L xs meth c A G K) {ad am : Nat → Nat} {i8 c9 s9 : Nat} (KN : ((Nat → Int32) → (Nat → Int64) → (Nat → Nat → Int32) → (Nat → Nat → Int64) → (Nat → Int32) → (Nat → Int64) → (Nat → Nat → Int32) → (Nat → Nat → Int64) → Prop)) (kh : ∀ (I : Nat → Int32) (J : Nat → Int64) (B : Nat → Nat → Int32) (D : Nat → Nat → Int64) (I9 : Nat → Int32) (J9 : Nat → Int64) (B9 : Nat → Nat → Int32) (D9 : Nat → Nat → Int64) (ls : Array Slot) (H : Heap) (locs : List Loc), KN I J B D I9 J9 B9 D9 → lv_has ls 7 [(4, .int (nI i8)), (3, .ref (ad 77)), (2, .ref (am 0)), (1, .ref (ad 0)), (0, .ref b)] → zW G A s.heap (wLN ad am K I J B D I9 J9 B9 D9) H locs → W p l e room_1 s m #[Value.ref b] below meth c H locs (c9 + 1) (s9 + 6) (lw_Z below #[Value.ref b] s) (F0 m 704 ls [])) (hi : i8 + 3 ≤ L) (hL : L ≤ 1536) {a8 b8 : Int32} (h81 : xs (i8 + 1) = a8) (h82 : xs (i8 + 2) = b8) (hrc : c9 + 1 ≤ 601024) (hrs : s9 + 6 ≤ 7293033) : ∀ (I : Nat → Int32) (J : Nat → Int64) (B : Nat → Nat → Int32) (D : Nat → Nat → Int64) (I9 : Nat → Int32) (J9 : Nat → Int64) (B9 : Nat → Nat → Int32) (D9 : Nat → Nat → Int64) (ls : Array Slot) (H : Heap) (locs : List Loc), lc1_N KN a8 b8 I J B D I9 J9 B9 D9 → lv_has ls 7 [(4, .int (nI i8)), (3, .ref (ad 77)), (2, .ref (am 0)), (1, .ref (ad 0)), (0, .ref b)] → zW G A s.heap (wLN ad am K I J B D I9 J9 B9 D9) H locs → W p l e room_1 s m #[Value.ref b] below meth c H locs c9 s9 (lw_Z below #[Value.ref b] s) (F0 m 177 ls []) := by
  intro I J B D I9 J9 B9 D9 ls H locs hok hl hw
  obtain ⟨hx, hb, hr, hml, hts, hown, hlocks, hA, hA9, hbA, hK, hT, hX, hbl, hlt⟩ := id C
  have hrc : c9 + 1 ≤ room_1.cells := hrc
  have hrs : s9 + 6 ≤ room_1.slots := hrs
  unfold lc1_N at hok
  have hl : lv_has ls 7 [(4, .int (nI i8)), (3, .ref (ad 77)), (2, .ref (am 0)), (1, .ref (ad 0)), (0, .ref b)] := hl
  have hw : zW G A s.heap (wLN ad am K I J B D I9 J9 B9 D9) H locs := hw
  refine lv_aload_n hx hb zd_LassoFinderLaw_law_177 rfl (lv_at hl 3 rfl) ?_
  refine lv_aload_n hx hb zd_LassoFinderLaw_law_178 rfl (lv_at hl 1 rfl) ?_
  refine z_calli (w1 := fun (u : zS) => wPN ad K u.1 u.2.1 u.2.2.1 u.2.2.2) (wr := (wM am K I9 J9 B9 D9)) (z_runSWY (wc := (wPN ad K I J B D)) (As := [.ref (ad 0), .ref (ad 77)]) (rest := []) ⟨hx, hb, hml, hown, hts⟩ (w_L_model_N l hlt G K ad I J B D  _ H.size hok) zf_LassoFinderLaw_model zq_356 ⟨(Nat.le_of_ble_eq_true rfl), (Nat.le_of_ble_eq_true rfl)⟩ hK hT hw hA (List.range 66) wLN_P wLN_ndP rfl hl.1 rfl (Nat.le_of_ble_eq_true rfl) zd_LassoFinderLaw_law_179 ⟨(by first | omega | (dsimp only; omega)), (by first | omega | (dsimp only; omega))⟩) hw hA (List.range 66) (List.range' 66 58) wLN_P wLN_M wLN_ndM wLN_disMP (fun r1 u H locs hok hw => ?_)
  obtain ⟨I1, J1, B1, D1⟩ := u
  dsimp only at hok
  have hw := wLN_bP hw
  have hw : zW G A s.heap (wLN ad am K I1 J1 B1 D1 I9 J9 B9 D9) H locs := hw
  refine lv_istore hx hb zd_LassoFinderLaw_law_182 hl (by decide) rfl (fun ls hl => ?_)
  have hl : lv_has ls 7 [(5, .int r1), (4, .int (nI i8)), (3, .ref (ad 77)), (2, .ref (am 0)), (1, .ref (ad 0)), (0, .ref b)] := hl
  refine lv_aload_n hx hb zd_LassoFinderLaw_law_184 rfl (lv_at hl 3 rfl) ?_
  refine z_calli (w1 := fun (u : zS) => wM am K u.1 u.2.1 u.2.2.1 u.2.2.2) (wr := (wPN ad K I1 J1 B1 D1)) (z_runV (q0 := 66) (wc := (wM am K I9 J9 B9 D9)) (As := []) (rest := []) ⟨hx, hb, hml, hown, hts⟩ (w_LassoFinderModel_model l G K am I9 J9 B9 D9  _ H.size hok) zf_LassoFinderModel_model zq_357 ⟨(Nat.le_of_ble_eq_true rfl), (Nat.le_of_ble_eq_true rfl)⟩ hK hw (List.range' 66 58) wLN_M wLN_ndM wLN_gm rfl rfl hl.1 rfl (Nat.le_of_ble_eq_true rfl) zd_LassoFinderLaw_law_185 ⟨(by first | omega | (dsimp only; omega)), (by first | omega | (dsimp only; omega))⟩) hw hA (List.range' 66 58) (List.range 66) wLN_M wLN_P wLN_ndP wLN_disPM (fun r2 u H locs hok hw => ?_)
  obtain ⟨I2, J2, B2, D2⟩ := u
  dsimp only at hok
  have hw := wLN_bM hw
  have hw : zW G A s.heap (wLN ad am K I1 J1 B1 D1 I2 J2 B2 D2) H locs := hw
  refine lv_istore hx hb zd_LassoFinderLaw_law_188 hl (by decide) rfl (fun ls hl => ?_)
  have hl : lv_has ls 7 [(6, .int r2), (5, .int r1), (4, .int (nI i8)), (3, .ref (ad 77)), (2, .ref (am 0)), (1, .ref (ad 0)), (0, .ref b)] := hl
  refine lv_aload_n hx hb zd_LassoFinderLaw_law_190 rfl (lv_at hl 4 rfl) ?_
  refine z_calli (w1 := fun (u : zS) => wM am K u.1 u.2.1 u.2.2.1 u.2.2.2) (wr := (wPN ad K I1 J1 B1 D1)) (z_runV (q0 := 66) (wc := (wM am K I2 J2 B2 D2)) (As := []) (rest := []) ⟨hx, hb, hml, hown, hts⟩ (w_LassoFinderModel_thrown l G K am I2 J2 B2 D2  _ H.size hok) zf_LassoFinderModel_thrown zq_358 ⟨(Nat.le_of_ble_eq_true rfl), (Nat.le_of_ble_eq_true rfl)⟩ hK hw (List.range' 66 58) wLN_M wLN_ndM wLN_gm rfl rfl hl.1 rfl (Nat.le_of_ble_eq_true rfl) zd_LassoFinderLaw_law_191 ⟨(by first | omega | (dsimp only; omega)), (by first | omega | (dsimp only; omega))⟩) hw hA (List.range' 66 58) (List.range 66) wLN_M wLN_P wLN_ndP wLN_disPM (fun r3 u H locs hok hw => ?_)
  obtain ⟨I3, J3, B3, D3⟩ := u
  dsimp only at hok
  have hw := wLN_bM hw
  have hw : zW G A s.heap (wLN ad am K I1 J1 B1 D1 I3 J3 B3 D3) H locs := hw
  refine lv_iload hx hb zd_LassoFinderLaw_law_194 (lv_at hl 1 rfl) ?_
  refine lv_icmp_eq (tgt := 201) hx hb zd_LassoFinderLaw_law_196 (by decide) (fun hc4 => ?_) (fun hc4 => ?_)
  · have hok := hok.1 hc4
    refine lv_iload hx hb zd_LassoFinderLaw_law_201 (lv_at hl 1 rfl) ?_
    refine lv_if_ne (tgt := 218) hx hb zd_LassoFinderLaw_law_203 (by decide) (fun hc5 => ?_) (fun hc5 => ?_)
    · have hok := hok.1 hc5
      refine lv_goto (tgt := 704) hx hb zd_LassoFinderLaw_law_218 (by decide) ?_
      refine W.widen (k := c9 + 1) (n := s9 + 6) (by first | omega | (dsimp only; omega)) (by first | omega | (dsimp only; omega)) ?_
      exact kh I1 J1 B1 D1 I3 J3 B3 D3 ls H locs hok (lv_sub hl [2, 3, 4, 5, 6] rfl) hw
    · have hok := hok.2 hc5
      refine lv_aload_n hx hb zd_LassoFinderLaw_law_206 rfl (lv_at hl 3 rfl) ?_
      refine lv_iconst (v := 0) hx hb zd_LassoFinderLaw_law_207 (by decide) ?_
      refine va_lald (f := D1 3) hx hb hK hw.1 0 1 wLN_a0 rfl z_in0 zd_LassoFinderLaw_law_208 ?_
      refine lv_topl (fun z6 ez6 => ?_)
      have hok := hok z6 ez6
      refine lv_iload hx hb zd_LassoFinderLaw_law_209 (lv_at hl 0 rfl) ?_
      refine lv_i2l hx hb zd_LassoFinderLaw_law_211 rfl ?_
      refine lv_topl (fun z7 ez7 => ?_)
      have hok := hok z7 ez7
      refine W.lcmp hx hb zd_LassoFinderLaw_law_212 ?_
      refine lv_topi (fun z8 ez8 => ?_)
      have hok := hok z8 ez8
      refine lv_if_eq (tgt := 218) hx hb zd_LassoFinderLaw_law_213 (by decide) (fun hc9 => ?_) (fun hc9 => ?_)
      · have hok := hok.1 hc9
        refine lv_goto (tgt := 704) hx hb zd_LassoFinderLaw_law_218 (by decide) ?_
        refine W.widen (k := c9 + 1) (n := s9 + 6) (by first | omega | (dsimp only; omega)) (by first | omega | (dsimp only; omega)) ?_
        exact kh I1 J1 B1 D1 I3 J3 B3 D3 ls H locs hok (lv_sub hl [2, 3, 4, 5, 6] rfl) hw
      · have hok := hok.2 hc9
        exact hok.elim
  · have hok := hok.2 hc4
    exact hok.elim
set_option maxHeartbeats 8000000 in
set_option maxRecDepth 100000 in
theorem zc2_N {p : Program} {l : Launch} {e : Env} {s : State} {m : MethodId} {below : List Frame} {meth : Method} {c : Code} {A : Nat → Prop} {G : va_G} {K : Nat → ClassId} {b L : Nat} {xs : Nat → Int32} (C : zCL p l s m b L xs meth c A G K) {ad am : Nat → Nat} {i8 c9 s9 : Nat} (KN : ((Nat → Int32) → (Nat → Int64) → (Nat → Nat → Int32) → (Nat → Nat → Int64) → (Nat → Int32) → (Nat → Int64) → (Nat → Nat → Int32) → (Nat → Nat → Int64) → Prop)) (kh : ∀ (I : Nat → Int32) (J : Nat → Int64) (B : Nat → Nat → Int32) (D : Nat → Nat → Int64) (I9 : Nat → Int32) (J9 : Nat → Int64) (B9 : Nat → Nat → Int32) (D9 : Nat → Nat → Int64) (ls : Array Slot) (H : Heap) (locs : List Loc), KN I J B D I9 J9 B9 D9 → lv_has ls 7 [(4, .int (nI i8)), (3, .ref (ad 77)), (2, .ref (am 0)), (1, .ref (ad 0)), (0, .ref b)] → zW G A s.heap (wLN ad am K I J B D I9 J9 B9 D9) H locs → W p l e room_1 s m #[Value.ref b] below meth c H locs (c9 + 1) (s9 + 6) (lw_Z below #[Value.ref b] s) (F0 m 704 ls [])) (hi : i8 + 3 ≤ L) (hL : L ≤ 1536) {a8 b8 : Int32} (h81 : xs (i8 + 1) = a8) (h82 : xs (i8 + 2) = b8) (hrc : c9 + 1 ≤ 601024) (hrs : s9 + 6 ≤ 7293033) : ∀ (I : Nat → Int32) (J : Nat → Int64) (B : Nat → Nat → Int32) (D : Nat → Nat → Int64) (I9 : Nat → Int32) (J9 : Nat → Int64) (B9 : Nat → Nat → Int32) (D9 : Nat → Nat → Int64) (ls : Array Slot) (H : Heap) (locs : List Loc), lc2_N KN a8 b8 I J B D I9 J9 B9 D9 → lv_has ls 7 [(4, .int (nI i8)), (3, .ref (ad 77)), (2, .ref (am 0)), (1, .ref (ad 0)), (0, .ref b)] → zW G A s.heap (wLN ad am K I J B D I9 J9 B9 D9) H locs → W p l e room_1 s m #[Value.ref b] below meth c H locs c9 s9 (lw_Z below #[Value.ref b] s) (F0 m 221 ls []) := by
  intro I J B D I9 J9 B9 D9 ls H locs hok hl hw
  obtain ⟨hx, hb, hr, hml, hts, hown, hlocks, hA, hA9, hbA, hK, hT, hX, hbl, hlt⟩ := id C
  have hrc : c9 + 1 ≤ room_1.cells := hrc
  have hrs : s9 + 6 ≤ room_1.slots := hrs
  unfold lc2_N at hok
  have hl : lv_has ls 7 [(4, .int (nI i8)), (3, .ref (ad 77)), (2, .ref (am 0)), (1, .ref (ad 0)), (0, .ref b)] := hl
  have hw : zW G A s.heap (wLN ad am K I J B D I9 J9 B9 D9) H locs := hw
  refine lv_aload_n hx hb zd_LassoFinderLaw_law_221 rfl (lv_at hl 3 rfl) ?_
  refine lv_aload_n hx hb zd_LassoFinderLaw_law_222 rfl (lv_at hl 1 rfl) ?_
  refine z_calli (w1 := fun (u : zS) => wPN ad K u.1 u.2.1 u.2.2.1 u.2.2.2) (wr := (wM am K I9 J9 B9 D9)) (z_runSWY (wc := (wPN ad K I J B D)) (As := [.ref (ad 0), .ref (ad 77)]) (rest := []) ⟨hx, hb, hml, hown, hts⟩ (w_L_formula_N l hlt G K ad I J B D  _ H.size hok) zf_LassoFinderLaw_formula zq_359 ⟨(Nat.le_of_ble_eq_true rfl), (Nat.le_of_ble_eq_true rfl)⟩ hK hT hw hA (List.range 66) wLN_P wLN_ndP rfl hl.1 rfl (Nat.le_of_ble_eq_true rfl) zd_LassoFinderLaw_law_223 ⟨(by first | omega | (dsimp only; omega)), (by first | omega | (dsimp only; omega))⟩) hw hA (List.range 66) (List.range' 66 58) wLN_P wLN_M wLN_ndM wLN_disMP (fun r1 u H locs hok hw => ?_)
  obtain ⟨I1, J1, B1, D1⟩ := u
  dsimp only at hok
  have hw := wLN_bP hw
  have hw : zW G A s.heap (wLN ad am K I1 J1 B1 D1 I9 J9 B9 D9) H locs := hw
  refine lv_istore hx hb zd_LassoFinderLaw_law_226 hl (by decide) rfl (fun ls hl => ?_)
  have hl : lv_has ls 7 [(5, .int r1), (4, .int (nI i8)), (3, .ref (ad 77)), (2, .ref (am 0)), (1, .ref (ad 0)), (0, .ref b)] := hl
  refine lv_aload_n hx hb zd_LassoFinderLaw_law_228 rfl (lv_at hl 3 rfl) ?_
  refine z_calli (w1 := fun (u : zS) => wM am K u.1 u.2.1 u.2.2.1 u.2.2.2) (wr := (wPN ad K I1 J1 B1 D1)) (z_runV (q0 := 66) (wc := (wM am K I9 J9 B9 D9)) (As := []) (rest := []) ⟨hx, hb, hml, hown, hts⟩ (w_LassoFinderModel_formula l G K am I9 J9 B9 D9  _ H.size hok) zf_LassoFinderModel_formula zq_360 ⟨(Nat.le_of_ble_eq_true rfl), (Nat.le_of_ble_eq_true rfl)⟩ hK hw (List.range' 66 58) wLN_M wLN_ndM wLN_gm rfl rfl hl.1 rfl (Nat.le_of_ble_eq_true rfl) zd_LassoFinderLaw_law_229 ⟨(by first | omega | (dsimp only; omega)), (by first | omega | (dsimp only; omega))⟩) hw hA (List.range' 66 58) (List.range 66) wLN_M wLN_P wLN_ndP wLN_disPM (fun r2 u H locs hok hw => ?_)
  obtain ⟨I2, J2, B2, D2⟩ := u
  dsimp only at hok
  have hw := wLN_bM hw
  have hw : zW G A s.heap (wLN ad am K I1 J1 B1 D1 I2 J2 B2 D2) H locs := hw
  refine lv_istore hx hb zd_LassoFinderLaw_law_232 hl (by decide) rfl (fun ls hl => ?_)
  have hl : lv_has ls 7 [(6, .int r2), (5, .int r1), (4, .int (nI i8)), (3, .ref (ad 77)), (2, .ref (am 0)), (1, .ref (ad 0)), (0, .ref b)] := hl
  refine lv_aload_n hx hb zd_LassoFinderLaw_law_234 rfl (lv_at hl 4 rfl) ?_
  refine z_calli (w1 := fun (u : zS) => wM am K u.1 u.2.1 u.2.2.1 u.2.2.2) (wr := (wPN ad K I1 J1 B1 D1)) (z_runV (q0 := 66) (wc := (wM am K I2 J2 B2 D2)) (As := []) (rest := []) ⟨hx, hb, hml, hown, hts⟩ (w_LassoFinderModel_thrown l G K am I2 J2 B2 D2  _ H.size hok) zf_LassoFinderModel_thrown zq_358 ⟨(Nat.le_of_ble_eq_true rfl), (Nat.le_of_ble_eq_true rfl)⟩ hK hw (List.range' 66 58) wLN_M wLN_ndM wLN_gm rfl rfl hl.1 rfl (Nat.le_of_ble_eq_true rfl) zd_LassoFinderLaw_law_235 ⟨(by first | omega | (dsimp only; omega)), (by first | omega | (dsimp only; omega))⟩) hw hA (List.range' 66 58) (List.range 66) wLN_M wLN_P wLN_ndP wLN_disPM (fun r3 u H locs hok hw => ?_)
  obtain ⟨I3, J3, B3, D3⟩ := u
  dsimp only at hok
  have hw := wLN_bM hw
  have hw : zW G A s.heap (wLN ad am K I1 J1 B1 D1 I3 J3 B3 D3) H locs := hw
  refine lv_iload hx hb zd_LassoFinderLaw_law_238 (lv_at hl 1 rfl) ?_
  refine lv_icmp_eq (tgt := 245) hx hb zd_LassoFinderLaw_law_240 (by decide) (fun hc4 => ?_) (fun hc4 => ?_)
  · have hok := hok.1 hc4
    refine lv_iload hx hb zd_LassoFinderLaw_law_245 (lv_at hl 1 rfl) ?_
    refine lv_if_ne (tgt := 262) hx hb zd_LassoFinderLaw_law_247 (by decide) (fun hc5 => ?_) (fun hc5 => ?_)
    · have hok := hok.1 hc5
      refine lv_goto (tgt := 704) hx hb zd_LassoFinderLaw_law_262 (by decide) ?_
      refine W.widen (k := c9 + 1) (n := s9 + 6) (by first | omega | (dsimp only; omega)) (by first | omega | (dsimp only; omega)) ?_
      exact kh I1 J1 B1 D1 I3 J3 B3 D3 ls H locs hok (lv_sub hl [2, 3, 4, 5, 6] rfl) hw
    · have hok := hok.2 hc5
      refine lv_aload_n hx hb zd_LassoFinderLaw_law_250 rfl (lv_at hl 3 rfl) ?_
      refine lv_iconst (v := 0) hx hb zd_LassoFinderLaw_law_251 (by decide) ?_
      refine va_lald (f := D1 3) hx hb hK hw.1 0 1 wLN_a0 rfl z_in0 zd_LassoFinderLaw_law_252 ?_
      refine lv_topl (fun z6 ez6 => ?_)
      have hok := hok z6 ez6
      refine lv_iload hx hb zd_LassoFinderLaw_law_253 (lv_at hl 0 rfl) ?_
      refine lv_i2l hx hb zd_LassoFinderLaw_law_255 rfl ?_
      refine lv_topl (fun z7 ez7 => ?_)
      have hok := hok z7 ez7
      refine W.lcmp hx hb zd_LassoFinderLaw_law_256 ?_
      refine lv_topi (fun z8 ez8 => ?_)
      have hok := hok z8 ez8
      refine lv_if_eq (tgt := 262) hx hb zd_LassoFinderLaw_law_257 (by decide) (fun hc9 => ?_) (fun hc9 => ?_)
      · have hok := hok.1 hc9
        refine lv_goto (tgt := 704) hx hb zd_LassoFinderLaw_law_262 (by decide) ?_
        refine W.widen (k := c9 + 1) (n := s9 + 6) (by first | omega | (dsimp only; omega)) (by first | omega | (dsimp only; omega)) ?_
        exact kh I1 J1 B1 D1 I3 J3 B3 D3 ls H locs hok (lv_sub hl [2, 3, 4, 5, 6] rfl) hw
      · have hok := hok.2 hc9
        exact hok.elim
  · have hok := hok.2 hc4
    exact hok.elim
set_option maxHeartbeats 8000000 in
set_option maxRecDepth 100000 in
theorem zc3_N {p : Program} {l : Launch} {e : Env} {s : State} {m : MethodId} {below : List Frame} {meth : Method} {c : Code} {A : Nat → Prop} {G : va_G} {K : Nat → ClassId} {b L : Nat} {xs : Nat → Int32} (C : zCL p l s m b L xs meth c A G K) {ad am : Nat → Nat} {i8 c9 s9 : Nat} (KN : ((Nat → Int32) → (Nat → Int64) → (Nat → Nat → Int32) → (Nat → Nat → Int64) → (Nat → Int32) → (Nat → Int64) → (Nat → Nat → Int32) → (Nat → Nat → Int64) → Prop)) (kh : ∀ (I : Nat → Int32) (J : Nat → Int64) (B : Nat → Nat → Int32) (D : Nat → Nat → Int64) (I9 : Nat → Int32) (J9 : Nat → Int64) (B9 : Nat → Nat → Int32) (D9 : Nat → Nat → Int64) (ls : Array Slot) (H : Heap) (locs : List Loc), KN I J B D I9 J9 B9 D9 → lv_has ls 7 [(4, .int (nI i8)), (3, .ref (ad 77)), (2, .ref (am 0)), (1, .ref (ad 0)), (0, .ref b)] → zW G A s.heap (wLN ad am K I J B D I9 J9 B9 D9) H locs → W p l e room_1 s m #[Value.ref b] below meth c H locs (c9 + 1) (s9 + 6) (lw_Z below #[Value.ref b] s) (F0 m 704 ls [])) (hi : i8 + 3 ≤ L) (hL : L ≤ 1536) {a8 b8 : Int32} (h81 : xs (i8 + 1) = a8) (h82 : xs (i8 + 2) = b8) (hrc : c9 + 1 ≤ 601024) (hrs : s9 + 6 ≤ 7293033) : ∀ (I : Nat → Int32) (J : Nat → Int64) (B : Nat → Nat → Int32) (D : Nat → Nat → Int64) (I9 : Nat → Int32) (J9 : Nat → Int64) (B9 : Nat → Nat → Int32) (D9 : Nat → Nat → Int64) (ls : Array Slot) (H : Heap) (locs : List Loc), lc3_N KN a8 b8 I J B D I9 J9 B9 D9 → lv_has ls 7 [(4, .int (nI i8)), (3, .ref (ad 77)), (2, .ref (am 0)), (1, .ref (ad 0)), (0, .ref b)] → zW G A s.heap (wLN ad am K I J B D I9 J9 B9 D9) H locs → W p l e room_1 s m #[Value.ref b] below meth c H locs c9 s9 (lw_Z below #[Value.ref b] s) (F0 m 265 ls []) := by
  intro I J B D I9 J9 B9 D9 ls H locs hok hl hw
  obtain ⟨hx, hb, hr, hml, hts, hown, hlocks, hA, hA9, hbA, hK, hT, hX, hbl, hlt⟩ := id C
  have hrc : c9 + 1 ≤ room_1.cells := hrc
  have hrs : s9 + 6 ≤ room_1.slots := hrs
  unfold lc3_N at hok
  have hl : lv_has ls 7 [(4, .int (nI i8)), (3, .ref (ad 77)), (2, .ref (am 0)), (1, .ref (ad 0)), (0, .ref b)] := hl
  have hw : zW G A s.heap (wLN ad am K I J B D I9 J9 B9 D9) H locs := hw
  refine lv_aload_n hx hb zd_LassoFinderLaw_law_265 rfl (lv_at hl 3 rfl) ?_
  refine z_calli (w1 := fun (u : zS) => wX ad K Value.null u.1 u.2.1 u.2.2.1 u.2.2.2) (wr := ((ad 77, zJ K 1 (D 3)) :: wM am K I9 J9 B9 D9)) (z_runV (q0 := 1) (wc := (wX ad K Value.null I J B D)) (As := []) (rest := []) ⟨hx, hb, hml, hown, hts⟩ (w_LassoFinder_place_N l G K ad I J B D  _ H.size hok) zf_LassoFinder_place zq_361 ⟨(Nat.le_of_ble_eq_true rfl), (Nat.le_of_ble_eq_true rfl)⟩ hK hw (List.range' 1 65) wLN_X wLN_ndX wLN_gx rfl rfl hl.1 rfl (Nat.le_of_ble_eq_true rfl) zd_LassoFinderLaw_law_266 ⟨(by first | omega | (dsimp only; omega)), (by first | omega | (dsimp only; omega))⟩) hw hA (List.range' 1 65) (0 :: List.range' 66 58) wLN_X wLN_R wLN_ndR wLN_disRX (fun r1 u H locs hok hw => ?_)
  obtain ⟨I1, J1, B1, D1⟩ := u
  dsimp only at hok
  have hw := wLN_bX hw
  have hw : zW G A s.heap (wLN ad am K I1 J1 B1 (zmix 3 D1 D) I9 J9 B9 D9) H locs := hw
  refine lv_aload_n hx hb zd_LassoFinderLaw_law_269 rfl (lv_at hl 2 rfl) ?_
  refine z_calli (w1 := fun (u : zS) => wM am K u.1 u.2.1 u.2.2.1 u.2.2.2) (wr := (wPN ad K I1 J1 B1 (zmix 3 D1 D))) (z_runV (q0 := 66) (wc := (wM am K I9 J9 B9 D9)) (As := []) (rest := [.int r1]) ⟨hx, hb, hml, hown, hts⟩ (w_LassoFinderModel_place l G K am I9 J9 B9 D9  _ H.size hok) zf_LassoFinderModel_place zq_362 ⟨(Nat.le_of_ble_eq_true rfl), (Nat.le_of_ble_eq_true rfl)⟩ hK hw (List.range' 66 58) wLN_M wLN_ndM wLN_gm rfl rfl hl.1 rfl (Nat.le_of_ble_eq_true rfl) zd_LassoFinderLaw_law_270 ⟨(by first | omega | (dsimp only; omega)), (by first | omega | (dsimp only; omega))⟩) hw hA (List.range' 66 58) (List.range 66) wLN_M wLN_P wLN_ndP wLN_disPM (fun r2 u H locs hok hw => ?_)
  obtain ⟨I2, J2, B2, D2⟩ := u
  dsimp only at hok
  have hw := wLN_bM hw
  have hw : zW G A s.heap (wLN ad am K I1 J1 B1 (zmix 3 D1 D) I2 J2 B2 D2) H locs := hw
  refine lv_icmp_eq (tgt := 704) hx hb zd_LassoFinderLaw_law_273 (by decide) (fun hc3 => ?_) (fun hc3 => ?_)
  · have hok := hok.1 hc3
    refine W.widen (k := c9 + 1) (n := s9 + 6) (by first | omega | (dsimp only; omega)) (by first | omega | (dsimp only; omega)) ?_
    exact kh I1 J1 B1 (zmix 3 D1 D) I2 J2 B2 D2 ls H locs hok (lv_sub hl [0, 1, 2, 3, 4] rfl) hw
  · have hok := hok.2 hc3
    exact hok.elim
set_option maxHeartbeats 8000000 in
set_option maxRecDepth 100000 in
theorem zc4_N {p : Program} {l : Launch} {e : Env} {s : State} {m : MethodId} {below : List Frame} {meth : Method} {c : Code} {A : Nat → Prop} {G : va_G} {K : Nat → ClassId} {b L : Nat} {xs : Nat → Int32} (C : zCL p l s m b L xs meth c A G K) {ad am : Nat → Nat} {i8 c9 s9 : Nat} (KN : ((Nat → Int32) → (Nat → Int64) → (Nat → Nat → Int32) → (Nat → Nat → Int64) → (Nat → Int32) → (Nat → Int64) → (Nat → Nat → Int32) → (Nat → Nat → Int64) → Prop)) (kh : ∀ (I : Nat → Int32) (J : Nat → Int64) (B : Nat → Nat → Int32) (D : Nat → Nat → Int64) (I9 : Nat → Int32) (J9 : Nat → Int64) (B9 : Nat → Nat → Int32) (D9 : Nat → Nat → Int64) (ls : Array Slot) (H : Heap) (locs : List Loc), KN I J B D I9 J9 B9 D9 → lv_has ls 7 [(4, .int (nI i8)), (3, .ref (ad 77)), (2, .ref (am 0)), (1, .ref (ad 0)), (0, .ref b)] → zW G A s.heap (wLN ad am K I J B D I9 J9 B9 D9) H locs → W p l e room_1 s m #[Value.ref b] below meth c H locs (c9 + 1) (s9 + 6) (lw_Z below #[Value.ref b] s) (F0 m 704 ls [])) (hi : i8 + 3 ≤ L) (hL : L ≤ 1536) {a8 b8 : Int32} (h81 : xs (i8 + 1) = a8) (h82 : xs (i8 + 2) = b8) (hrc : c9 + 1 ≤ 601024) (hrs : s9 + 6 ≤ 7293033) : ∀ (I : Nat → Int32) (J : Nat → Int64) (B : Nat → Nat → Int32) (D : Nat → Nat → Int64) (I9 : Nat → Int32) (J9 : Nat → Int64) (B9 : Nat → Nat → Int32) (D9 : Nat → Nat → Int64) (ls : Array Slot) (H : Heap) (locs : List Loc), lc4_N KN a8 b8 I J B D I9 J9 B9 D9 → lv_has ls 7 [(4, .int (nI i8)), (3, .ref (ad 77)), (2, .ref (am 0)), (1, .ref (ad 0)), (0, .ref b)] → zW G A s.heap (wLN ad am K I J B D I9 J9 B9 D9) H locs → W p l e room_1 s m #[Value.ref b] below meth c H locs c9 s9 (lw_Z below #[Value.ref b] s) (F0 m 278 ls []) := by
  intro I J B D I9 J9 B9 D9 ls H locs hok hl hw
  obtain ⟨hx, hb, hr, hml, hts, hown, hlocks, hA, hA9, hbA, hK, hT, hX, hbl, hlt⟩ := id C
  have hrc : c9 + 1 ≤ room_1.cells := hrc
  have hrs : s9 + 6 ≤ room_1.slots := hrs
  unfold lc4_N at hok
  have hl : lv_has ls 7 [(4, .int (nI i8)), (3, .ref (ad 77)), (2, .ref (am 0)), (1, .ref (ad 0)), (0, .ref b)] := hl
  have hw : zW G A s.heap (wLN ad am K I J B D I9 J9 B9 D9) H locs := hw
  refine lv_aload_n hx hb zd_LassoFinderLaw_law_278 rfl (lv_at hl 3 rfl) ?_
  refine lv_aload_n hx hb zd_LassoFinderLaw_law_279 rfl (lv_at hl 1 rfl) ?_
  refine z_calli (w1 := fun (u : zS) => wPN ad K u.1 u.2.1 u.2.2.1 u.2.2.2) (wr := (wM am K I9 J9 B9 D9)) (z_runSWY (wc := (wPN ad K I J B D)) (As := [.ref (ad 0), .ref (ad 77)]) (rest := []) ⟨hx, hb, hml, hown, hts⟩ (w_L_verify_N l hlt G K ad I J B D  _ H.size hok) zf_LassoFinderLaw_verify zq_363 ⟨(Nat.le_of_ble_eq_true rfl), (Nat.le_of_ble_eq_true rfl)⟩ hK hT hw hA (List.range 66) wLN_P wLN_ndP rfl hl.1 rfl (Nat.le_of_ble_eq_true rfl) zd_LassoFinderLaw_law_280 ⟨(by first | omega | (dsimp only; omega)), (by first | omega | (dsimp only; omega))⟩) hw hA (List.range 66) (List.range' 66 58) wLN_P wLN_M wLN_ndM wLN_disMP (fun r1 u H locs hok hw => ?_)
  obtain ⟨I1, J1, B1, D1⟩ := u
  dsimp only at hok
  have hw := wLN_bP hw
  have hw : zW G A s.heap (wLN ad am K I1 J1 B1 D1 I9 J9 B9 D9) H locs := hw
  refine lv_istore hx hb zd_LassoFinderLaw_law_283 hl (by decide) rfl (fun ls hl => ?_)
  have hl : lv_has ls 7 [(5, .int r1), (4, .int (nI i8)), (3, .ref (ad 77)), (2, .ref (am 0)), (1, .ref (ad 0)), (0, .ref b)] := hl
  refine lv_aload_n hx hb zd_LassoFinderLaw_law_285 rfl (lv_at hl 3 rfl) ?_
  refine z_calli (w1 := fun (u : zS) => wM am K u.1 u.2.1 u.2.2.1 u.2.2.2) (wr := (wPN ad K I1 J1 B1 D1)) (z_runV (q0 := 66) (wc := (wM am K I9 J9 B9 D9)) (As := []) (rest := []) ⟨hx, hb, hml, hown, hts⟩ (w_LassoFinderModel_verify l G K am I9 J9 B9 D9  _ H.size hok) zf_LassoFinderModel_verify zq_364 ⟨(Nat.le_of_ble_eq_true rfl), (Nat.le_of_ble_eq_true rfl)⟩ hK hw (List.range' 66 58) wLN_M wLN_ndM wLN_gm rfl rfl hl.1 rfl (Nat.le_of_ble_eq_true rfl) zd_LassoFinderLaw_law_286 ⟨(by first | omega | (dsimp only; omega)), (by first | omega | (dsimp only; omega))⟩) hw hA (List.range' 66 58) (List.range 66) wLN_M wLN_P wLN_ndP wLN_disPM (fun r2 u H locs hok hw => ?_)
  obtain ⟨I2, J2, B2, D2⟩ := u
  dsimp only at hok
  have hw := wLN_bM hw
  have hw : zW G A s.heap (wLN ad am K I1 J1 B1 D1 I2 J2 B2 D2) H locs := hw
  refine lv_istore hx hb zd_LassoFinderLaw_law_289 hl (by decide) rfl (fun ls hl => ?_)
  have hl : lv_has ls 7 [(6, .int r2), (5, .int r1), (4, .int (nI i8)), (3, .ref (ad 77)), (2, .ref (am 0)), (1, .ref (ad 0)), (0, .ref b)] := hl
  refine lv_aload_n hx hb zd_LassoFinderLaw_law_291 rfl (lv_at hl 4 rfl) ?_
  refine z_calli (w1 := fun (u : zS) => wM am K u.1 u.2.1 u.2.2.1 u.2.2.2) (wr := (wPN ad K I1 J1 B1 D1)) (z_runV (q0 := 66) (wc := (wM am K I2 J2 B2 D2)) (As := []) (rest := []) ⟨hx, hb, hml, hown, hts⟩ (w_LassoFinderModel_thrown l G K am I2 J2 B2 D2  _ H.size hok) zf_LassoFinderModel_thrown zq_358 ⟨(Nat.le_of_ble_eq_true rfl), (Nat.le_of_ble_eq_true rfl)⟩ hK hw (List.range' 66 58) wLN_M wLN_ndM wLN_gm rfl rfl hl.1 rfl (Nat.le_of_ble_eq_true rfl) zd_LassoFinderLaw_law_292 ⟨(by first | omega | (dsimp only; omega)), (by first | omega | (dsimp only; omega))⟩) hw hA (List.range' 66 58) (List.range 66) wLN_M wLN_P wLN_ndP wLN_disPM (fun r3 u H locs hok hw => ?_)
  obtain ⟨I3, J3, B3, D3⟩ := u
  dsimp only at hok
  have hw := wLN_bM hw
  have hw : zW G A s.heap (wLN ad am K I1 J1 B1 D1 I3 J3 B3 D3) H locs := hw
  refine lv_iload hx hb zd_LassoFinderLaw_law_295 (lv_at hl 1 rfl) ?_
  refine lv_icmp_eq (tgt := 302) hx hb zd_LassoFinderLaw_law_297 (by decide) (fun hc4 => ?_) (fun hc4 => ?_)
  · have hok := hok.1 hc4
    refine lv_iload hx hb zd_LassoFinderLaw_law_302 (lv_at hl 1 rfl) ?_
    refine lv_if_ne (tgt := 326) hx hb zd_LassoFinderLaw_law_304 (by decide) (fun hc5 => ?_) (fun hc5 => ?_)
    · have hok := hok.1 hc5
      refine lv_goto (tgt := 704) hx hb zd_LassoFinderLaw_law_326 (by decide) ?_
      refine W.widen (k := c9 + 1) (n := s9 + 6) (by first | omega | (dsimp only; omega)) (by first | omega | (dsimp only; omega)) ?_
      exact kh I1 J1 B1 D1 I3 J3 B3 D3 ls H locs hok (lv_sub hl [2, 3, 4, 5, 6] rfl) hw
    · have hok := hok.2 hc5
      refine lv_aload_n hx hb zd_LassoFinderLaw_law_307 rfl (lv_at hl 3 rfl) ?_
      refine lv_iconst (v := 0) hx hb zd_LassoFinderLaw_law_308 (by decide) ?_
      refine va_lald (f := D1 3) hx hb hK hw.1 0 1 wLN_a0 rfl z_in0 zd_LassoFinderLaw_law_309 ?_
      refine lv_topl (fun z6 ez6 => ?_)
      have hok := hok z6 ez6
      refine lv_iload hx hb zd_LassoFinderLaw_law_310 (lv_at hl 0 rfl) ?_
      refine lv_if_eq (tgt := 319) hx hb zd_LassoFinderLaw_law_312 (by decide) (fun hc7 => ?_) (fun hc7 => ?_)
      · have hok := hok.1 hc7
        refine lv_lconst (v := 0) hx hb zd_LassoFinderLaw_law_319 (by decide) ?_
        refine W.lcmp hx hb zd_LassoFinderLaw_law_320 ?_
        refine lv_topi (fun z8 ez8 => ?_)
        have hok := hok z8 ez8
        refine lv_if_eq (tgt := 326) hx hb zd_LassoFinderLaw_law_321 (by decide) (fun hc9 => ?_) (fun hc9 => ?_)
        · have hok := hok.1 hc9
          refine lv_goto (tgt := 704) hx hb zd_LassoFinderLaw_law_326 (by decide) ?_
          refine W.widen (k := c9 + 1) (n := s9 + 6) (by first | omega | (dsimp only; omega)) (by first | omega | (dsimp only; omega)) ?_
          exact kh I1 J1 B1 D1 I3 J3 B3 D3 ls H locs hok (lv_sub hl [2, 3, 4, 5, 6] rfl) hw
        · have hok := hok.2 hc9
          exact hok.elim
      · have hok := hok.2 hc7
        refine lv_lconst (v := 1) hx hb zd_LassoFinderLaw_law_315 (by decide) ?_
        refine lv_goto (tgt := 320) hx hb zd_LassoFinderLaw_law_316 (by decide) ?_
        refine W.lcmp hx hb zd_LassoFinderLaw_law_320 ?_
        refine lv_topi (fun z10 ez10 => ?_)
        have hok := hok z10 ez10
        refine lv_if_eq (tgt := 326) hx hb zd_LassoFinderLaw_law_321 (by decide) (fun hc11 => ?_) (fun hc11 => ?_)
        · have hok := hok.1 hc11
          refine lv_goto (tgt := 704) hx hb zd_LassoFinderLaw_law_326 (by decide) ?_
          refine W.widen (k := c9 + 1) (n := s9 + 6) (by first | omega | (dsimp only; omega)) (by first | omega | (dsimp only; omega)) ?_
          exact kh I1 J1 B1 D1 I3 J3 B3 D3 ls H locs hok (lv_sub hl [2, 3, 4, 5, 6] rfl) hw
        · have hok := hok.2 hc11
          exact hok.elim
  · have hok := hok.2 hc4
    exact hok.elim
