abbrev zy_LassoFinderModel_verify : MethodName := ⟨"LassoFinderModel", "verify", "()Z"⟩
abbrev zy_LassoFinderModel_stemOf : MethodName := ⟨"LassoFinderModel", "stemOf", "()I"⟩
theorem zm_365 : Cond.methodLink "LassoFinderModel" 455 ⟨"LassoFinderModel", "shortest", "()I"⟩ ∈ zTB := z_in (zt_8 _ (List.mem_of_getElem? (i := 67) rfl)) rfl
theorem zm_366 : Cond.methodLink "LassoFinderModel" 458 ⟨"LassoFinderModel", "stemOf", "()I"⟩ ∈ zTB := z_in (zt_8 _ (List.mem_of_getElem? (i := 103) rfl)) rfl
theorem zm_368 : Cond.methodLink "LassoFinderModel" 461 ⟨"LassoFinderModel", "round", "(II)I"⟩ ∈ zTB := z_in (zt_8 _ (List.mem_of_getElem? (i := 113) rfl)) rfl
theorem zm_369 : Cond.methodLink "LassoFinderModel" 464 ⟨"LassoFinderModel", "sooner", "(I)Z"⟩ ∈ zTB := z_in (zt_8 _ (List.mem_of_getElem? (i := 121) rfl)) rfl
theorem zm_492 : Cond.code ⟨"LassoFinderModel", "round", "(II)I"⟩ prog_14_method_64_code 12 (some .int) ∈ zTB := z_in (zt_8 _ (List.mem_of_getElem? (i := 116) rfl)) rfl
theorem zm_493 : Cond.instanceMethod ⟨"LassoFinderModel", "round", "(II)I"⟩ ∈ zTB := z_in (zt_8 _ (List.mem_of_getElem? (i := 115) rfl)) rfl
theorem zm_494 : Cond.code ⟨"LassoFinderModel", "sooner", "(I)Z"⟩ prog_14_method_65_code 3 (some .boolean) ∈ zTB := z_in (zt_8 _ (List.mem_of_getElem? (i := 124) rfl)) rfl
theorem zm_495 : Cond.instanceMethod ⟨"LassoFinderModel", "sooner", "(I)Z"⟩ ∈ zTB := z_in (zt_8 _ (List.mem_of_getElem? (i := 123) rfl)) rfl
theorem zm_496 : Cond.code ⟨"LassoFinderModel", "shortest", "()I"⟩ prog_14_method_61_code 8 (some .int) ∈ zTB := z_in (zt_8 _ (List.mem_of_getElem? (i := 70) rfl)) rfl
theorem zm_497 : Cond.instanceMethod ⟨"LassoFinderModel", "shortest", "()I"⟩ ∈ zTB := z_in (zt_8 _ (List.mem_of_getElem? (i := 69) rfl)) rfl
theorem zm_498 : Cond.code ⟨"LassoFinderModel", "stemOf", "()I"⟩ prog_14_method_62_code 9 (some .int) ∈ zTB := z_in (zt_8 _ (List.mem_of_getElem? (i := 106) rfl)) rfl
theorem zm_499 : Cond.instanceMethod ⟨"LassoFinderModel", "stemOf", "()I"⟩ ∈ zTB := z_in (zt_8 _ (List.mem_of_getElem? (i := 105) rfl)) rfl
theorem zf_LassoFinderModel_round : zFaceV zy_LassoFinderModel_round prog_14_method_64_code 12 (some .int) 2 := ⟨zm_493, (z_in (zp_8 _ (List.mem_of_getElem? (i := 11) rfl)) rfl), zm_25, zm_492, by decide +kernel, by decide +kernel, by decide +kernel⟩
theorem zf_LassoFinderModel_sooner : zFaceV zy_LassoFinderModel_sooner prog_14_method_65_code 3 (some .boolean) 1 := ⟨zm_495, (z_in (zp_8 _ (List.mem_of_getElem? (i := 13) rfl)) rfl), zm_25, zm_494, by decide +kernel, by decide +kernel, by decide +kernel⟩
theorem zf_LassoFinderModel_shortest : zFaceV zy_LassoFinderModel_shortest prog_14_method_61_code 8 (some .int) 0 := ⟨zm_497, (z_in (zp_8 _ (List.mem_of_getElem? (i := 1) rfl)) rfl), zm_25, zm_496, by decide +kernel, by decide +kernel, by decide +kernel⟩
theorem zf_LassoFinderModel_stemOf : zFaceV zy_LassoFinderModel_stemOf prog_14_method_62_code 9 (some .int) 0 := ⟨zm_499, (z_in (zp_8 _ (List.mem_of_getElem? (i := 10) rfl)) rfl), zm_25, zm_498, by decide +kernel, by decide +kernel, by decide +kernel⟩
theorem zd_LassoFinderModel_stemOf_0 : decode prog_14_method_62_code 0 = .ok (.iconst 0, 1) := by decide +kernel
theorem zd_LassoFinderModel_stemOf_1 : decode prog_14_method_62_code 1 = .ok (.istore_n 1, 1) := by decide +kernel
theorem zd_LassoFinderModel_stemOf_2 : decode prog_14_method_62_code 2 = .ok (.iconst 0, 1) := by decide +kernel
theorem zd_LassoFinderModel_stemOf_3 : decode prog_14_method_62_code 3 = .ok (.istore_n 2, 1) := by decide +kernel
theorem zd_LassoFinderModel_stemOf_4 : decode prog_14_method_62_code 4 = .ok (.iconst 0, 1) := by decide +kernel
theorem zd_LassoFinderModel_stemOf_5 : decode prog_14_method_62_code 5 = .ok (.istore_n 3, 1) := by decide +kernel
theorem zd_LassoFinderModel_stemOf_6 : decode prog_14_method_62_code 6 = .ok (.iload_n 3, 1) := by decide +kernel
theorem zd_LassoFinderModel_stemOf_7 : decode prog_14_method_62_code 7 = .ok (.iconst 1, 1) := by decide +kernel
theorem zd_LassoFinderModel_stemOf_8 : decode prog_14_method_62_code 8 = .ok (.aload_n 0, 1) := by decide +kernel
theorem zd_LassoFinderModel_stemOf_9 : decode prog_14_method_62_code 9 = .ok (.getfield 376, 3) := by decide +kernel
theorem zd_LassoFinderModel_stemOf_12 : decode prog_14_method_62_code 12 = .ok (.ishl, 1) := by decide +kernel
theorem zd_LassoFinderModel_stemOf_13 : decode prog_14_method_62_code 13 = .ok (.if_icmp .ge 37, 3) := by decide +kernel
theorem zd_LassoFinderModel_stemOf_16 : decode prog_14_method_62_code 16 = .ok (.iload_n 2, 1) := by decide +kernel
theorem zd_LassoFinderModel_stemOf_17 : decode prog_14_method_62_code 17 = .ok (.aload_n 0, 1) := by decide +kernel
theorem zd_LassoFinderModel_stemOf_18 : decode prog_14_method_62_code 18 = .ok (.getfield 169, 3) := by decide +kernel
theorem zd_LassoFinderModel_stemOf_21 : decode prog_14_method_62_code 21 = .ok (.iload_n 3, 1) := by decide +kernel
theorem zd_LassoFinderModel_stemOf_22 : decode prog_14_method_62_code 22 = .ok (.iaload, 1) := by decide +kernel
theorem zd_LassoFinderModel_stemOf_23 : decode prog_14_method_62_code 23 = .ok (.ifCond .ne 18, 3) := by decide +kernel
theorem zd_LassoFinderModel_stemOf_26 : decode prog_14_method_62_code 26 = .ok (.aload_n 0, 1) := by decide +kernel
theorem zd_LassoFinderModel_stemOf_27 : decode prog_14_method_62_code 27 = .ok (.getfield 172, 3) := by decide +kernel
theorem zd_LassoFinderModel_stemOf_30 : decode prog_14_method_62_code 30 = .ok (.iload_n 3, 1) := by decide +kernel
theorem zd_LassoFinderModel_stemOf_31 : decode prog_14_method_62_code 31 = .ok (.baload, 1) := by decide +kernel
theorem zd_LassoFinderModel_stemOf_32 : decode prog_14_method_62_code 32 = .ok (.ifCond .eq 9, 3) := by decide +kernel
theorem zd_LassoFinderModel_stemOf_35 : decode prog_14_method_62_code 35 = .ok (.iconst 1, 1) := by decide +kernel
theorem zd_LassoFinderModel_stemOf_36 : decode prog_14_method_62_code 36 = .ok (.iload_n 3, 1) := by decide +kernel
theorem zd_LassoFinderModel_stemOf_37 : decode prog_14_method_62_code 37 = .ok (.ishl, 1) := by decide +kernel
theorem zd_LassoFinderModel_stemOf_38 : decode prog_14_method_62_code 38 = .ok (.goto 4, 3) := by decide +kernel
theorem zd_LassoFinderModel_stemOf_41 : decode prog_14_method_62_code 41 = .ok (.iconst 0, 1) := by decide +kernel
theorem zd_LassoFinderModel_stemOf_42 : decode prog_14_method_62_code 42 = .ok (.ior, 1) := by decide +kernel
theorem zd_LassoFinderModel_stemOf_43 : decode prog_14_method_62_code 43 = .ok (.istore_n 2, 1) := by decide +kernel
theorem zd_LassoFinderModel_stemOf_44 : decode prog_14_method_62_code 44 = .ok (.iinc 3 1, 3) := by decide +kernel
theorem zd_LassoFinderModel_stemOf_47 : decode prog_14_method_62_code 47 = .ok (.goto (-41), 3) := by decide +kernel
theorem zd_LassoFinderModel_stemOf_50 : decode prog_14_method_62_code 50 = .ok (.iconst 1, 1) := by decide +kernel
theorem zd_LassoFinderModel_stemOf_51 : decode prog_14_method_62_code 51 = .ok (.istore_n 3, 1) := by decide +kernel
theorem zd_LassoFinderModel_stemOf_52 : decode prog_14_method_62_code 52 = .ok (.iload_n 3, 1) := by decide +kernel
theorem zd_LassoFinderModel_stemOf_53 : decode prog_14_method_62_code 53 = .ok (.aload_n 0, 1) := by decide +kernel
theorem zd_LassoFinderModel_stemOf_54 : decode prog_14_method_62_code 54 = .ok (.getfield 178, 3) := by decide +kernel
theorem zd_LassoFinderModel_stemOf_57 : decode prog_14_method_62_code 57 = .ok (.if_icmp .gt 167, 3) := by decide +kernel
theorem zd_LassoFinderModel_stemOf_60 : decode prog_14_method_62_code 60 = .ok (.iconst (-1), 1) := by decide +kernel
theorem zd_LassoFinderModel_stemOf_61 : decode prog_14_method_62_code 61 = .ok (.istore 4, 2) := by decide +kernel
theorem zd_LassoFinderModel_stemOf_63 : decode prog_14_method_62_code 63 = .ok (.iconst 0, 1) := by decide +kernel
theorem zd_LassoFinderModel_stemOf_64 : decode prog_14_method_62_code 64 = .ok (.istore 5, 2) := by decide +kernel
theorem zd_LassoFinderModel_stemOf_66 : decode prog_14_method_62_code 66 = .ok (.aload_n 0, 1) := by decide +kernel
theorem zd_LassoFinderModel_stemOf_67 : decode prog_14_method_62_code 67 = .ok (.getfield 109, 3) := by decide +kernel
theorem zd_LassoFinderModel_stemOf_70 : decode prog_14_method_62_code 70 = .ok (.iload_n 1, 1) := by decide +kernel
theorem zd_LassoFinderModel_stemOf_71 : decode prog_14_method_62_code 71 = .ok (.iaload, 1) := by decide +kernel
theorem zd_LassoFinderModel_stemOf_72 : decode prog_14_method_62_code 72 = .ok (.istore 6, 2) := by decide +kernel
theorem zd_LassoFinderModel_stemOf_74 : decode prog_14_method_62_code 74 = .ok (.iload 6, 2) := by decide +kernel
theorem zd_LassoFinderModel_stemOf_76 : decode prog_14_method_62_code 76 = .ok (.aload_n 0, 1) := by decide +kernel
theorem zd_LassoFinderModel_stemOf_77 : decode prog_14_method_62_code 77 = .ok (.getfield 109, 3) := by decide +kernel
theorem zd_LassoFinderModel_stemOf_80 : decode prog_14_method_62_code 80 = .ok (.iload_n 1, 1) := by decide +kernel
theorem zd_LassoFinderModel_stemOf_81 : decode prog_14_method_62_code 81 = .ok (.iconst 1, 1) := by decide +kernel
theorem zd_LassoFinderModel_stemOf_82 : decode prog_14_method_62_code 82 = .ok (.iadd, 1) := by decide +kernel
theorem zd_LassoFinderModel_stemOf_83 : decode prog_14_method_62_code 83 = .ok (.iaload, 1) := by decide +kernel
theorem zd_LassoFinderModel_stemOf_84 : decode prog_14_method_62_code 84 = .ok (.if_icmp .ge 111, 3) := by decide +kernel
theorem zd_LassoFinderModel_stemOf_87 : decode prog_14_method_62_code 87 = .ok (.iload 4, 2) := by decide +kernel
theorem zd_LassoFinderModel_stemOf_89 : decode prog_14_method_62_code 89 = .ok (.ifCond .ge 106, 3) := by decide +kernel
theorem zd_LassoFinderModel_stemOf_92 : decode prog_14_method_62_code 92 = .ok (.iconst 0, 1) := by decide +kernel
theorem zd_LassoFinderModel_stemOf_93 : decode prog_14_method_62_code 93 = .ok (.istore 5, 2) := by decide +kernel
theorem zd_LassoFinderModel_stemOf_95 : decode prog_14_method_62_code 95 = .ok (.iconst 0, 1) := by decide +kernel
theorem zd_LassoFinderModel_stemOf_96 : decode prog_14_method_62_code 96 = .ok (.istore 7, 2) := by decide +kernel
theorem zd_LassoFinderModel_stemOf_98 : decode prog_14_method_62_code 98 = .ok (.iload 7, 2) := by decide +kernel
theorem zd_LassoFinderModel_stemOf_100 : decode prog_14_method_62_code 100 = .ok (.iconst 1, 1) := by decide +kernel
theorem zd_LassoFinderModel_stemOf_101 : decode prog_14_method_62_code 101 = .ok (.aload_n 0, 1) := by decide +kernel
theorem zd_LassoFinderModel_stemOf_102 : decode prog_14_method_62_code 102 = .ok (.getfield 376, 3) := by decide +kernel
theorem zd_LassoFinderModel_stemOf_105 : decode prog_14_method_62_code 105 = .ok (.ishl, 1) := by decide +kernel
theorem zd_LassoFinderModel_stemOf_106 : decode prog_14_method_62_code 106 = .ok (.if_icmp .ge 69, 3) := by decide +kernel
theorem zd_LassoFinderModel_stemOf_109 : decode prog_14_method_62_code 109 = .ok (.bipush 8, 2) := by decide +kernel
theorem zd_LassoFinderModel_stemOf_111 : decode prog_14_method_62_code 111 = .ok (.aload_n 0, 1) := by decide +kernel
theorem zd_LassoFinderModel_stemOf_112 : decode prog_14_method_62_code 112 = .ok (.getfield 112, 3) := by decide +kernel
theorem zd_LassoFinderModel_stemOf_115 : decode prog_14_method_62_code 115 = .ok (.iload 6, 2) := by decide +kernel
theorem zd_LassoFinderModel_stemOf_117 : decode prog_14_method_62_code 117 = .ok (.iaload, 1) := by decide +kernel
theorem zd_LassoFinderModel_stemOf_118 : decode prog_14_method_62_code 118 = .ok (.imul, 1) := by decide +kernel
theorem zd_LassoFinderModel_stemOf_119 : decode prog_14_method_62_code 119 = .ok (.iload 7, 2) := by decide +kernel
theorem zd_LassoFinderModel_stemOf_121 : decode prog_14_method_62_code 121 = .ok (.iadd, 1) := by decide +kernel
theorem zd_LassoFinderModel_stemOf_122 : decode prog_14_method_62_code 122 = .ok (.istore 8, 2) := by decide +kernel
theorem zd_LassoFinderModel_stemOf_124 : decode prog_14_method_62_code 124 = .ok (.aload_n 0, 1) := by decide +kernel
theorem zd_LassoFinderModel_stemOf_125 : decode prog_14_method_62_code 125 = .ok (.getfield 169, 3) := by decide +kernel
theorem zd_LassoFinderModel_stemOf_128 : decode prog_14_method_62_code 128 = .ok (.iload 8, 2) := by decide +kernel
theorem zd_LassoFinderModel_stemOf_130 : decode prog_14_method_62_code 130 = .ok (.iaload, 1) := by decide +kernel
theorem zd_LassoFinderModel_stemOf_131 : decode prog_14_method_62_code 131 = .ok (.iload_n 3, 1) := by decide +kernel
theorem zd_LassoFinderModel_stemOf_132 : decode prog_14_method_62_code 132 = .ok (.if_icmp .ne 37, 3) := by decide +kernel
theorem zd_LassoFinderModel_stemOf_135 : decode prog_14_method_62_code 135 = .ok (.aload_n 0, 1) := by decide +kernel
theorem zd_LassoFinderModel_stemOf_136 : decode prog_14_method_62_code 136 = .ok (.getfield 172, 3) := by decide +kernel
theorem zd_LassoFinderModel_stemOf_139 : decode prog_14_method_62_code 139 = .ok (.iload 8, 2) := by decide +kernel
theorem zd_LassoFinderModel_stemOf_141 : decode prog_14_method_62_code 141 = .ok (.baload, 1) := by decide +kernel
theorem zd_LassoFinderModel_stemOf_142 : decode prog_14_method_62_code 142 = .ok (.ifCond .eq 27, 3) := by decide +kernel
theorem zd_LassoFinderModel_stemOf_145 : decode prog_14_method_62_code 145 = .ok (.iload_n 2, 1) := by decide +kernel
theorem zd_LassoFinderModel_stemOf_146 : decode prog_14_method_62_code 146 = .ok (.aload_n 0, 1) := by decide +kernel
theorem zd_LassoFinderModel_stemOf_147 : decode prog_14_method_62_code 147 = .ok (.iload_n 1, 1) := by decide +kernel
theorem zd_LassoFinderModel_stemOf_148 : decode prog_14_method_62_code 148 = .ok (.iload 7, 2) := by decide +kernel
theorem zd_LassoFinderModel_stemOf_150 : decode prog_14_method_62_code 150 = .ok (.invokevirtual 422, 3) := by decide +kernel
theorem zd_LassoFinderModel_stemOf_153 : decode prog_14_method_62_code 153 = .ok (.ishr, 1) := by decide +kernel
theorem zd_LassoFinderModel_stemOf_154 : decode prog_14_method_62_code 154 = .ok (.iconst 1, 1) := by decide +kernel
theorem zd_LassoFinderModel_stemOf_155 : decode prog_14_method_62_code 155 = .ok (.iand, 1) := by decide +kernel
theorem zd_LassoFinderModel_stemOf_156 : decode prog_14_method_62_code 156 = .ok (.iconst 1, 1) := by decide +kernel
theorem zd_LassoFinderModel_stemOf_157 : decode prog_14_method_62_code 157 = .ok (.if_icmp .ne 12, 3) := by decide +kernel
theorem zd_LassoFinderModel_stemOf_160 : decode prog_14_method_62_code 160 = .ok (.iload 5, 2) := by decide +kernel
theorem zd_LassoFinderModel_stemOf_162 : decode prog_14_method_62_code 162 = .ok (.iconst 1, 1) := by decide +kernel
theorem zd_LassoFinderModel_stemOf_163 : decode prog_14_method_62_code 163 = .ok (.iload 7, 2) := by decide +kernel
theorem zd_LassoFinderModel_stemOf_165 : decode prog_14_method_62_code 165 = .ok (.ishl, 1) := by decide +kernel
theorem zd_LassoFinderModel_stemOf_166 : decode prog_14_method_62_code 166 = .ok (.ior, 1) := by decide +kernel
theorem zd_LassoFinderModel_stemOf_167 : decode prog_14_method_62_code 167 = .ok (.istore 5, 2) := by decide +kernel
theorem zd_LassoFinderModel_stemOf_169 : decode prog_14_method_62_code 169 = .ok (.iinc 7 1, 3) := by decide +kernel
theorem zd_LassoFinderModel_stemOf_172 : decode prog_14_method_62_code 172 = .ok (.goto (-74), 3) := by decide +kernel
theorem zd_LassoFinderModel_stemOf_175 : decode prog_14_method_62_code 175 = .ok (.iload 5, 2) := by decide +kernel
theorem zd_LassoFinderModel_stemOf_177 : decode prog_14_method_62_code 177 = .ok (.ifCond .eq 8, 3) := by decide +kernel
theorem zd_LassoFinderModel_stemOf_180 : decode prog_14_method_62_code 180 = .ok (.iload 6, 2) := by decide +kernel
theorem zd_LassoFinderModel_stemOf_182 : decode prog_14_method_62_code 182 = .ok (.goto 5, 3) := by decide +kernel
theorem zd_LassoFinderModel_stemOf_185 : decode prog_14_method_62_code 185 = .ok (.iload 4, 2) := by decide +kernel
theorem zd_LassoFinderModel_stemOf_187 : decode prog_14_method_62_code 187 = .ok (.istore 4, 2) := by decide +kernel
theorem zd_LassoFinderModel_stemOf_189 : decode prog_14_method_62_code 189 = .ok (.iinc 6 1, 3) := by decide +kernel
theorem zd_LassoFinderModel_stemOf_192 : decode prog_14_method_62_code 192 = .ok (.goto (-118), 3) := by decide +kernel
theorem zd_LassoFinderModel_stemOf_195 : decode prog_14_method_62_code 195 = .ok (.aload_n 0, 1) := by decide +kernel
theorem zd_LassoFinderModel_stemOf_196 : decode prog_14_method_62_code 196 = .ok (.getfield 181, 3) := by decide +kernel
theorem zd_LassoFinderModel_stemOf_199 : decode prog_14_method_62_code 199 = .ok (.iload_n 3, 1) := by decide +kernel
theorem zd_LassoFinderModel_stemOf_200 : decode prog_14_method_62_code 200 = .ok (.iconst 1, 1) := by decide +kernel
theorem zd_LassoFinderModel_stemOf_201 : decode prog_14_method_62_code 201 = .ok (.isub, 1) := by decide +kernel
theorem zd_LassoFinderModel_stemOf_202 : decode prog_14_method_62_code 202 = .ok (.iload 4, 2) := by decide +kernel
theorem zd_LassoFinderModel_stemOf_204 : decode prog_14_method_62_code 204 = .ok (.invokestatic 440, 3) := by decide +kernel
theorem zd_LassoFinderModel_stemOf_207 : decode prog_14_method_62_code 207 = .ok (.aload_n 0, 1) := by decide +kernel
theorem zd_LassoFinderModel_stemOf_208 : decode prog_14_method_62_code 208 = .ok (.getfield 112, 3) := by decide +kernel
theorem zd_LassoFinderModel_stemOf_211 : decode prog_14_method_62_code 211 = .ok (.iload 4, 2) := by decide +kernel
theorem zd_LassoFinderModel_stemOf_213 : decode prog_14_method_62_code 213 = .ok (.iaload, 1) := by decide +kernel
theorem zd_LassoFinderModel_stemOf_214 : decode prog_14_method_62_code 214 = .ok (.istore_n 1, 1) := by decide +kernel
theorem zd_LassoFinderModel_stemOf_215 : decode prog_14_method_62_code 215 = .ok (.iload 5, 2) := by decide +kernel
theorem zd_LassoFinderModel_stemOf_217 : decode prog_14_method_62_code 217 = .ok (.istore_n 2, 1) := by decide +kernel
theorem zd_LassoFinderModel_stemOf_218 : decode prog_14_method_62_code 218 = .ok (.iinc 3 1, 3) := by decide +kernel
theorem zd_LassoFinderModel_stemOf_221 : decode prog_14_method_62_code 221 = .ok (.goto (-169), 3) := by decide +kernel
theorem zd_LassoFinderModel_stemOf_224 : decode prog_14_method_62_code 224 = .ok (.iload_n 2, 1) := by decide +kernel
theorem zd_LassoFinderModel_stemOf_225 : decode prog_14_method_62_code 225 = .ok (.ireturn, 1) := by decide +kernel
theorem zd_LassoFinderModel_verify_0 : decode prog_14_method_66_code 0 = .ok (.aload_n 0, 1) := by decide +kernel
theorem zd_LassoFinderModel_verify_1 : decode prog_14_method_66_code 1 = .ok (.aload_n 0, 1) := by decide +kernel
theorem zd_LassoFinderModel_verify_2 : decode prog_14_method_66_code 2 = .ok (.getfield 358, 3) := by decide +kernel
theorem zd_LassoFinderModel_verify_5 : decode prog_14_method_66_code 5 = .ok (.ifCond .eq 7, 3) := by decide +kernel
theorem zd_LassoFinderModel_verify_8 : decode prog_14_method_66_code 8 = .ok (.iconst 0, 1) := by decide +kernel
theorem zd_LassoFinderModel_verify_9 : decode prog_14_method_66_code 9 = .ok (.goto 4, 3) := by decide +kernel
theorem zd_LassoFinderModel_verify_12 : decode prog_14_method_66_code 12 = .ok (.iconst 1, 1) := by decide +kernel
theorem zd_LassoFinderModel_verify_13 : decode prog_14_method_66_code 13 = .ok (.putfield 193, 3) := by decide +kernel
theorem zd_LassoFinderModel_verify_16 : decode prog_14_method_66_code 16 = .ok (.aload_n 0, 1) := by decide +kernel
theorem zd_LassoFinderModel_verify_17 : decode prog_14_method_66_code 17 = .ok (.getfield 358, 3) := by decide +kernel
theorem zd_LassoFinderModel_verify_20 : decode prog_14_method_66_code 20 = .ok (.ifCond .ne 5, 3) := by decide +kernel
theorem zd_LassoFinderModel_verify_23 : decode prog_14_method_66_code 23 = .ok (.iconst 0, 1) := by decide +kernel
theorem zd_LassoFinderModel_verify_24 : decode prog_14_method_66_code 24 = .ok (.ireturn, 1) := by decide +kernel
theorem zd_LassoFinderModel_verify_25 : decode prog_14_method_66_code 25 = .ok (.aload_n 0, 1) := by decide +kernel
theorem zd_LassoFinderModel_verify_26 : decode prog_14_method_66_code 26 = .ok (.iconst 0, 1) := by decide +kernel
theorem zd_LassoFinderModel_verify_27 : decode prog_14_method_66_code 27 = .ok (.putfield 448, 3) := by decide +kernel
theorem zd_LassoFinderModel_verify_30 : decode prog_14_method_66_code 30 = .ok (.aload_n 0, 1) := by decide +kernel
theorem zd_LassoFinderModel_verify_31 : decode prog_14_method_66_code 31 = .ok (.aload_n 0, 1) := by decide +kernel
theorem zd_LassoFinderModel_verify_32 : decode prog_14_method_66_code 32 = .ok (.invokevirtual 455, 3) := by decide +kernel
theorem zd_LassoFinderModel_verify_35 : decode prog_14_method_66_code 35 = .ok (.putfield 178, 3) := by decide +kernel
theorem zd_LassoFinderModel_verify_38 : decode prog_14_method_66_code 38 = .ok (.aload_n 0, 1) := by decide +kernel
theorem zd_LassoFinderModel_verify_39 : decode prog_14_method_66_code 39 = .ok (.getfield 178, 3) := by decide +kernel
theorem zd_LassoFinderModel_verify_42 : decode prog_14_method_66_code 42 = .ok (.ifCond .ge 5, 3) := by decide +kernel
theorem zd_LassoFinderModel_verify_45 : decode prog_14_method_66_code 45 = .ok (.iconst 1, 1) := by decide +kernel
theorem zd_LassoFinderModel_verify_46 : decode prog_14_method_66_code 46 = .ok (.ireturn, 1) := by decide +kernel
theorem zd_LassoFinderModel_verify_47 : decode prog_14_method_66_code 47 = .ok (.aload_n 0, 1) := by decide +kernel
theorem zd_LassoFinderModel_verify_48 : decode prog_14_method_66_code 48 = .ok (.invokevirtual 458, 3) := by decide +kernel
theorem zd_LassoFinderModel_verify_51 : decode prog_14_method_66_code 51 = .ok (.istore_n 1, 1) := by decide +kernel
theorem zd_LassoFinderModel_verify_52 : decode prog_14_method_66_code 52 = .ok (.aload_n 0, 1) := by decide +kernel
theorem zd_LassoFinderModel_verify_53 : decode prog_14_method_66_code 53 = .ok (.getfield 178, 3) := by decide +kernel
theorem zd_LassoFinderModel_verify_56 : decode prog_14_method_66_code 56 = .ok (.ifCond .le 24, 3) := by decide +kernel
theorem zd_LassoFinderModel_verify_59 : decode prog_14_method_66_code 59 = .ok (.aload_n 0, 1) := by decide +kernel
theorem zd_LassoFinderModel_verify_60 : decode prog_14_method_66_code 60 = .ok (.getfield 112, 3) := by decide +kernel
theorem zd_LassoFinderModel_verify_63 : decode prog_14_method_66_code 63 = .ok (.aload_n 0, 1) := by decide +kernel
theorem zd_LassoFinderModel_verify_64 : decode prog_14_method_66_code 64 = .ok (.getfield 181, 3) := by decide +kernel
theorem zd_LassoFinderModel_verify_67 : decode prog_14_method_66_code 67 = .ok (.aload_n 0, 1) := by decide +kernel
theorem zd_LassoFinderModel_verify_68 : decode prog_14_method_66_code 68 = .ok (.getfield 178, 3) := by decide +kernel
theorem zd_LassoFinderModel_verify_71 : decode prog_14_method_66_code 71 = .ok (.iconst 1, 1) := by decide +kernel
theorem zd_LassoFinderModel_verify_72 : decode prog_14_method_66_code 72 = .ok (.isub, 1) := by decide +kernel
theorem zd_LassoFinderModel_verify_73 : decode prog_14_method_66_code 73 = .ok (.invokestatic 451, 3) := by decide +kernel
theorem zd_LassoFinderModel_verify_76 : decode prog_14_method_66_code 76 = .ok (.iaload, 1) := by decide +kernel
theorem zd_LassoFinderModel_verify_77 : decode prog_14_method_66_code 77 = .ok (.goto 4, 3) := by decide +kernel
theorem zd_LassoFinderModel_verify_80 : decode prog_14_method_66_code 80 = .ok (.iconst 0, 1) := by decide +kernel
theorem zd_LassoFinderModel_verify_81 : decode prog_14_method_66_code 81 = .ok (.istore_n 2, 1) := by decide +kernel
theorem zd_LassoFinderModel_verify_82 : decode prog_14_method_66_code 82 = .ok (.iconst 0, 1) := by decide +kernel
theorem zd_LassoFinderModel_verify_83 : decode prog_14_method_66_code 83 = .ok (.istore_n 3, 1) := by decide +kernel
theorem zd_LassoFinderModel_verify_84 : decode prog_14_method_66_code 84 = .ok (.iload_n 3, 1) := by decide +kernel
theorem zd_LassoFinderModel_verify_85 : decode prog_14_method_66_code 85 = .ok (.iconst 1, 1) := by decide +kernel
theorem zd_LassoFinderModel_verify_86 : decode prog_14_method_66_code 86 = .ok (.aload_n 0, 1) := by decide +kernel
theorem zd_LassoFinderModel_verify_87 : decode prog_14_method_66_code 87 = .ok (.getfield 376, 3) := by decide +kernel
theorem zd_LassoFinderModel_verify_90 : decode prog_14_method_66_code 90 = .ok (.ishl, 1) := by decide +kernel
theorem zd_LassoFinderModel_verify_91 : decode prog_14_method_66_code 91 = .ok (.if_icmp .ge 85, 3) := by decide +kernel
theorem zd_LassoFinderModel_verify_94 : decode prog_14_method_66_code 94 = .ok (.iload_n 1, 1) := by decide +kernel
theorem zd_LassoFinderModel_verify_95 : decode prog_14_method_66_code 95 = .ok (.iload_n 3, 1) := by decide +kernel
theorem zd_LassoFinderModel_verify_96 : decode prog_14_method_66_code 96 = .ok (.ishr, 1) := by decide +kernel
theorem zd_LassoFinderModel_verify_97 : decode prog_14_method_66_code 97 = .ok (.iconst 1, 1) := by decide +kernel
theorem zd_LassoFinderModel_verify_98 : decode prog_14_method_66_code 98 = .ok (.iand, 1) := by decide +kernel
theorem zd_LassoFinderModel_verify_99 : decode prog_14_method_66_code 99 = .ok (.ifCond .ne 6, 3) := by decide +kernel
theorem zd_LassoFinderModel_verify_102 : decode prog_14_method_66_code 102 = .ok (.goto 68, 3) := by decide +kernel
theorem zd_LassoFinderModel_verify_105 : decode prog_14_method_66_code 105 = .ok (.aload_n 0, 1) := by decide +kernel
theorem zd_LassoFinderModel_verify_106 : decode prog_14_method_66_code 106 = .ok (.iload_n 2, 1) := by decide +kernel
theorem zd_LassoFinderModel_verify_107 : decode prog_14_method_66_code 107 = .ok (.iload_n 3, 1) := by decide +kernel
theorem zd_LassoFinderModel_verify_108 : decode prog_14_method_66_code 108 = .ok (.invokevirtual 461, 3) := by decide +kernel
theorem zd_LassoFinderModel_verify_111 : decode prog_14_method_66_code 111 = .ok (.istore 4, 2) := by decide +kernel
theorem zd_LassoFinderModel_verify_113 : decode prog_14_method_66_code 113 = .ok (.aload_n 0, 1) := by decide +kernel
theorem zd_LassoFinderModel_verify_114 : decode prog_14_method_66_code 114 = .ok (.iload 4, 2) := by decide +kernel
theorem zd_LassoFinderModel_verify_116 : decode prog_14_method_66_code 116 = .ok (.invokevirtual 464, 3) := by decide +kernel
theorem zd_LassoFinderModel_verify_119 : decode prog_14_method_66_code 119 = .ok (.ifCond .ne 6, 3) := by decide +kernel
theorem zd_LassoFinderModel_verify_122 : decode prog_14_method_66_code 122 = .ok (.goto 48, 3) := by decide +kernel
theorem zd_LassoFinderModel_verify_125 : decode prog_14_method_66_code 125 = .ok (.iconst 0, 1) := by decide +kernel
theorem zd_LassoFinderModel_verify_126 : decode prog_14_method_66_code 126 = .ok (.istore 5, 2) := by decide +kernel
theorem zd_LassoFinderModel_verify_128 : decode prog_14_method_66_code 128 = .ok (.iload 5, 2) := by decide +kernel
theorem zd_LassoFinderModel_verify_130 : decode prog_14_method_66_code 130 = .ok (.iload 4, 2) := by decide +kernel
theorem zd_LassoFinderModel_verify_132 : decode prog_14_method_66_code 132 = .ok (.if_icmp .ge 32, 3) := by decide +kernel
theorem zd_LassoFinderModel_verify_135 : decode prog_14_method_66_code 135 = .ok (.aload_n 0, 1) := by decide +kernel
theorem zd_LassoFinderModel_verify_136 : decode prog_14_method_66_code 136 = .ok (.getfield 181, 3) := by decide +kernel
theorem zd_LassoFinderModel_verify_139 : decode prog_14_method_66_code 139 = .ok (.aload_n 0, 1) := by decide +kernel
theorem zd_LassoFinderModel_verify_140 : decode prog_14_method_66_code 140 = .ok (.getfield 178, 3) := by decide +kernel
theorem zd_LassoFinderModel_verify_143 : decode prog_14_method_66_code 143 = .ok (.iload 5, 2) := by decide +kernel
theorem zd_LassoFinderModel_verify_145 : decode prog_14_method_66_code 145 = .ok (.iadd, 1) := by decide +kernel
theorem zd_LassoFinderModel_verify_146 : decode prog_14_method_66_code 146 = .ok (.aload_n 0, 1) := by decide +kernel
theorem zd_LassoFinderModel_verify_147 : decode prog_14_method_66_code 147 = .ok (.getfield 184, 3) := by decide +kernel
theorem zd_LassoFinderModel_verify_150 : decode prog_14_method_66_code 150 = .ok (.iload 5, 2) := by decide +kernel
theorem zd_LassoFinderModel_verify_152 : decode prog_14_method_66_code 152 = .ok (.invokestatic 451, 3) := by decide +kernel
theorem zd_LassoFinderModel_verify_155 : decode prog_14_method_66_code 155 = .ok (.invokestatic 440, 3) := by decide +kernel
theorem zd_LassoFinderModel_verify_158 : decode prog_14_method_66_code 158 = .ok (.iinc 5 1, 3) := by decide +kernel
theorem zd_LassoFinderModel_verify_161 : decode prog_14_method_66_code 161 = .ok (.goto (-33), 3) := by decide +kernel
theorem zd_LassoFinderModel_verify_164 : decode prog_14_method_66_code 164 = .ok (.aload_n 0, 1) := by decide +kernel
theorem zd_LassoFinderModel_verify_165 : decode prog_14_method_66_code 165 = .ok (.iload 4, 2) := by decide +kernel
theorem zd_LassoFinderModel_verify_167 : decode prog_14_method_66_code 167 = .ok (.putfield 448, 3) := by decide +kernel
theorem zd_LassoFinderModel_verify_170 : decode prog_14_method_66_code 170 = .ok (.iinc 3 1, 3) := by decide +kernel
theorem zd_LassoFinderModel_verify_173 : decode prog_14_method_66_code 173 = .ok (.goto (-89), 3) := by decide +kernel
theorem zd_LassoFinderModel_verify_176 : decode prog_14_method_66_code 176 = .ok (.iconst 0, 1) := by decide +kernel
theorem zd_LassoFinderModel_verify_177 : decode prog_14_method_66_code 177 = .ok (.ireturn, 1) := by decide +kernel
def wc_LassoFinderModel_stemOf_195 (K52 : Int32 → Int32 → Int32 → (Nat → Int32) → (Nat → Int64) → (Nat → Nat → Int32) → (Nat → Nat → Int64) → Prop) (Post : Int32 → (Nat → Int32) → (Nat → Int64) → (Nat → Nat → Int32) → (Nat → Nat → Int64) → Prop) (x3 : Int32) (x4 : Int32) (x5 : Int32) (I : Nat → Int32) (J : Nat → Int64) (B : Nat → Nat → Int32) (D : Nat → Nat → Int64) : Prop :=
  ∀ z1 : Int32, z1 = (x3 - 1) → wp_LassoFinderModel_keep_ad55 I J B D z1 x4 (fun I2 J2 B2 D2 => vp_in x4 401 ∧ ∀ z3 : Int32, z3 = ((B2 30) x4.toNatClampNeg) → ∀ z4 : Int32, z4 = (x3 + 1) → K52 z3 x5 z4 I2 J2 B2 D2)
def wc_LassoFinderModel_stemOf_187 (K52 : Int32 → Int32 → Int32 → (Nat → Int32) → (Nat → Int64) → (Nat → Nat → Int32) → (Nat → Nat → Int64) → Prop) (K74 : Int32 → Int32 → Int32 → Int32 → Int32 → Int32 → (Nat → Int32) → (Nat → Int64) → (Nat → Nat → Int32) → (Nat → Nat → Int64) → Prop) (Post : Int32 → (Nat → Int32) → (Nat → Int64) → (Nat → Nat → Int32) → (Nat → Nat → Int64) → Prop) (x1 : Int32) (x2 : Int32) (x3 : Int32) (x5 : Int32) (x6 : Int32) (y0 : Int32) (I : Nat → Int32) (J : Nat → Int64) (B : Nat → Nat → Int32) (D : Nat → Nat → Int64) : Prop :=
  ∀ z5 : Int32, z5 = (x6 + 1) → K74 x1 x2 x3 y0 x5 z5 I J B D
def wc_LassoFinderModel_stemOf_169 (K52 : Int32 → Int32 → Int32 → (Nat → Int32) → (Nat → Int64) → (Nat → Nat → Int32) → (Nat → Nat → Int64) → Prop) (K74 : Int32 → Int32 → Int32 → Int32 → Int32 → Int32 → (Nat → Int32) → (Nat → Int64) → (Nat → Nat → Int32) → (Nat → Nat → Int64) → Prop) (K98 : Int32 → Int32 → Int32 → Int32 → Int32 → Int32 → Int32 → (Nat → Int32) → (Nat → Int64) → (Nat → Nat → Int32) → (Nat → Nat → Int64) → Prop) (Post : Int32 → (Nat → Int32) → (Nat → Int64) → (Nat → Nat → Int32) → (Nat → Nat → Int64) → Prop) (x1 : Int32) (x2 : Int32) (x3 : Int32) (x4 : Int32) (x5 : Int32) (x6 : Int32) (x7 : Int32) (I : Nat → Int32) (J : Nat → Int64) (B : Nat → Nat → Int32) (D : Nat → Nat → Int64) : Prop :=
  ∀ z6 : Int32, z6 = (x7 + 1) → K98 x1 x2 x3 x4 x5 x6 z6 I J B D
def wb_LassoFinderModel_stemOf_98 (K98 : Int32 → Int32 → Int32 → Int32 → Int32 → Int32 → Int32 → (Nat → Int32) → (Nat → Int64) → (Nat → Nat → Int32) → (Nat → Nat → Int64) → Prop) (K52 : Int32 → Int32 → Int32 → (Nat → Int32) → (Nat → Int64) → (Nat → Nat → Int32) → (Nat → Nat → Int64) → Prop) (K74 : Int32 → Int32 → Int32 → Int32 → Int32 → Int32 → (Nat → Int32) → (Nat → Int64) → (Nat → Nat → Int32) → (Nat → Nat → Int64) → Prop) (Post : Int32 → (Nat → Int32) → (Nat → Int64) → (Nat → Nat → Int32) → (Nat → Nat → Int64) → Prop) (x1 : Int32) (x2 : Int32) (x3 : Int32) (x4 : Int32) (x5 : Int32) (x6 : Int32) (x7 : Int32) (I : Nat → Int32) (J : Nat → Int64) (B : Nat → Nat → Int32) (D : Nat → Nat → Int64) : Prop :=
  ∀ z7 : Int32, z7 = (1 <<< ((I 20) &&& 31)) → ((z7 ≤ x7 → ((x5 = 0 → wc_LassoFinderModel_stemOf_187  K52 K74 Post x1 x2 x3 x5 x6 x4 I J B D) ∧ (¬ x5 = 0 → wc_LassoFinderModel_stemOf_187  K52 K74 Post x1 x2 x3 x5 x6 x6 I J B D))) ∧ (¬ z7 ≤ x7 → vp_in x6 401 ∧ ∀ z10 : Int32, z10 = ((B 30) x6.toNatClampNeg) → ∀ z11 : Int32, z11 = (8 * z10) → ∀ z12 : Int32, z12 = (z11 + x7) → vp_in z12 768 ∧ ∀ z13 : Int32, z13 = ((B 49) z12.toNatClampNeg) → ((¬ z13 = x3 → wc_LassoFinderModel_stemOf_169  K52 K74 K98 Post x1 x2 x3 x4 x5 x6 x7 I J B D) ∧ (z13 = x3 → vp_in z12 768 ∧ ∀ z15 : Int32, z15 = ((B 50) z12.toNatClampNeg) → ((z15 = 0 → wc_LassoFinderModel_stemOf_169  K52 K74 K98 Post x1 x2 x3 x4 x5 x6 x7 I J B D) ∧ (¬ z15 = 0 → wp_LassoFinderModel_truthAt I J B D x1 x7 (fun r17 I17 J17 B17 D17 => ∀ z18 : Int32, z18 = (x2 >>> (r17 &&& 31)) → ∀ z19 : Int32, z19 = (z18 &&& 1) → ((¬ z19 = 1 → wc_LassoFinderModel_stemOf_169  K52 K74 K98 Post x1 x2 x3 x4 x5 x6 x7 I17 J17 B17 D17) ∧ (z19 = 1 → ∀ z21 : Int32, z21 = (1 <<< (x7 &&& 31)) → ∀ z22 : Int32, z22 = (x5 ||| z21) → wc_LassoFinderModel_stemOf_169  K52 K74 K98 Post x1 x2 x3 x4 z22 x6 x7 I17 J17 B17 D17)))))))))
def wl_LassoFinderModel_stemOf_98 (K52 : Int32 → Int32 → Int32 → (Nat → Int32) → (Nat → Int64) → (Nat → Nat → Int32) → (Nat → Nat → Int64) → Prop) (K74 : Int32 → Int32 → Int32 → Int32 → Int32 → Int32 → (Nat → Int32) → (Nat → Int64) → (Nat → Nat → Int32) → (Nat → Nat → Int64) → Prop) (Post : Int32 → (Nat → Int32) → (Nat → Int64) → (Nat → Nat → Int32) → (Nat → Nat → Int64) → Prop) (n : Nat) : Int32 → Int32 → Int32 → Int32 → Int32 → Int32 → Int32 → (Nat → Int32) → (Nat → Int64) → (Nat → Nat → Int32) → (Nat → Nat → Int64) → Prop := Nat.rec (fun _ _ _ _ _ _ _ _ _ _ _ => False) (fun _ r => wb_LassoFinderModel_stemOf_98  r K52 K74 Post) n
def wb_LassoFinderModel_stemOf_74 (K74 : Int32 → Int32 → Int32 → Int32 → Int32 → Int32 → (Nat → Int32) → (Nat → Int64) → (Nat → Nat → Int32) → (Nat → Nat → Int64) → Prop) (K52 : Int32 → Int32 → Int32 → (Nat → Int32) → (Nat → Int64) → (Nat → Nat → Int32) → (Nat → Nat → Int64) → Prop) (Post : Int32 → (Nat → Int32) → (Nat → Int64) → (Nat → Nat → Int32) → (Nat → Nat → Int64) → Prop) (x1 : Int32) (x2 : Int32) (x3 : Int32) (x4 : Int32) (x5 : Int32) (x6 : Int32) (I : Nat → Int32) (J : Nat → Int64) (B : Nat → Nat → Int32) (D : Nat → Nat → Int64) : Prop :=
  ∀ z23 : Int32, z23 = (x1 + 1) → vp_in z23 98 ∧ ∀ z24 : Int32, z24 = ((B 29) z23.toNatClampNeg) → ((z24 ≤ x6 → wc_LassoFinderModel_stemOf_195  K52 Post x3 x4 x5 I J B D) ∧ (¬ z24 ≤ x6 → (((0 : Int32) ≤ x4 → wc_LassoFinderModel_stemOf_195  K52 Post x3 x4 x5 I J B D) ∧ (¬ (0 : Int32) ≤ x4 → ∃ n : Nat, wl_LassoFinderModel_stemOf_98  K52 K74 Post n x1 x2 x3 x4 0 x6 0 I J B D))))
def wl_LassoFinderModel_stemOf_74 (K52 : Int32 → Int32 → Int32 → (Nat → Int32) → (Nat → Int64) → (Nat → Nat → Int32) → (Nat → Nat → Int64) → Prop) (Post : Int32 → (Nat → Int32) → (Nat → Int64) → (Nat → Nat → Int32) → (Nat → Nat → Int64) → Prop) (n : Nat) : Int32 → Int32 → Int32 → Int32 → Int32 → Int32 → (Nat → Int32) → (Nat → Int64) → (Nat → Nat → Int32) → (Nat → Nat → Int64) → Prop := Nat.rec (fun _ _ _ _ _ _ _ _ _ _ => False) (fun _ r => wb_LassoFinderModel_stemOf_74  r K52 Post) n
def wb_LassoFinderModel_stemOf_52 (K52 : Int32 → Int32 → Int32 → (Nat → Int32) → (Nat → Int64) → (Nat → Nat → Int32) → (Nat → Nat → Int64) → Prop) (Post : Int32 → (Nat → Int32) → (Nat → Int64) → (Nat → Nat → Int32) → (Nat → Nat → Int64) → Prop) (x1 : Int32) (x2 : Int32) (x3 : Int32) (I : Nat → Int32) (J : Nat → Int64) (B : Nat → Nat → Int32) (D : Nat → Nat → Int64) : Prop :=
  (((I 24) < x3 → Post x2 I J B D) ∧ (¬ (I 24) < x3 → vp_in x1 98 ∧ ∀ z28 : Int32, z28 = ((B 29) x1.toNatClampNeg) → ∃ n : Nat, wl_LassoFinderModel_stemOf_74  K52 Post n x1 x2 x3 (-1) 0 z28 I J B D))
def wl_LassoFinderModel_stemOf_52 (Post : Int32 → (Nat → Int32) → (Nat → Int64) → (Nat → Nat → Int32) → (Nat → Nat → Int64) → Prop) (n : Nat) : Int32 → Int32 → Int32 → (Nat → Int32) → (Nat → Int64) → (Nat → Nat → Int32) → (Nat → Nat → Int64) → Prop := Nat.rec (fun _ _ _ _ _ _ _ => False) (fun _ r => wb_LassoFinderModel_stemOf_52  r Post) n
def wc_LassoFinderModel_stemOf_42 (K6 : Int32 → Int32 → Int32 → (Nat → Int32) → (Nat → Int64) → (Nat → Nat → Int32) → (Nat → Nat → Int64) → Prop) (Post : Int32 → (Nat → Int32) → (Nat → Int64) → (Nat → Nat → Int32) → (Nat → Nat → Int64) → Prop) (x1 : Int32) (x3 : Int32) (y0 : Int32) (y1 : Int32) (I : Nat → Int32) (J : Nat → Int64) (B : Nat → Nat → Int32) (D : Nat → Nat → Int64) : Prop :=
  ∀ z29 : Int32, z29 = (y1 ||| y0) → ∀ z30 : Int32, z30 = (x3 + 1) → K6 x1 z29 z30 I J B D
def wc_LassoFinderModel_stemOf_41 (K6 : Int32 → Int32 → Int32 → (Nat → Int32) → (Nat → Int64) → (Nat → Nat → Int32) → (Nat → Nat → Int64) → Prop) (Post : Int32 → (Nat → Int32) → (Nat → Int64) → (Nat → Nat → Int32) → (Nat → Nat → Int64) → Prop) (x1 : Int32) (x3 : Int32) (y0 : Int32) (I : Nat → Int32) (J : Nat → Int64) (B : Nat → Nat → Int32) (D : Nat → Nat → Int64) : Prop :=
  wc_LassoFinderModel_stemOf_42  K6 Post x1 x3 0 y0 I J B D
def wb_LassoFinderModel_stemOf_6 (K6 : Int32 → Int32 → Int32 → (Nat → Int32) → (Nat → Int64) → (Nat → Nat → Int32) → (Nat → Nat → Int64) → Prop) (Post : Int32 → (Nat → Int32) → (Nat → Int64) → (Nat → Nat → Int32) → (Nat → Nat → Int64) → Prop) (x1 : Int32) (x2 : Int32) (x3 : Int32) (I : Nat → Int32) (J : Nat → Int64) (B : Nat → Nat → Int32) (D : Nat → Nat → Int64) : Prop :=
  ∀ z31 : Int32, z31 = (1 <<< ((I 20) &&& 31)) → ((z31 ≤ x3 → ∃ n : Nat, wl_LassoFinderModel_stemOf_52  Post n x1 x2 1 I J B D) ∧ (¬ z31 ≤ x3 → vp_in x3 768 ∧ ∀ z33 : Int32, z33 = ((B 49) x3.toNatClampNeg) → ((¬ z33 = 0 → wc_LassoFinderModel_stemOf_41  K6 Post x1 x3 x2 I J B D) ∧ (z33 = 0 → vp_in x3 768 ∧ ∀ z35 : Int32, z35 = ((B 50) x3.toNatClampNeg) → ((z35 = 0 → wc_LassoFinderModel_stemOf_41  K6 Post x1 x3 x2 I J B D) ∧ (¬ z35 = 0 → ∀ z37 : Int32, z37 = (1 <<< (x3 &&& 31)) → wc_LassoFinderModel_stemOf_42  K6 Post x1 x3 z37 x2 I J B D))))))
def wl_LassoFinderModel_stemOf_6 (Post : Int32 → (Nat → Int32) → (Nat → Int64) → (Nat → Nat → Int32) → (Nat → Nat → Int64) → Prop) (n : Nat) : Int32 → Int32 → Int32 → (Nat → Int32) → (Nat → Int64) → (Nat → Nat → Int32) → (Nat → Nat → Int64) → Prop := Nat.rec (fun _ _ _ _ _ _ _ => False) (fun _ r => wb_LassoFinderModel_stemOf_6  r Post) n
def wp_LassoFinderModel_stemOf (I : Nat → Int32) (J : Nat → Int64) (B : Nat → Nat → Int32) (D : Nat → Nat → Int64) (Post : Int32 → (Nat → Int32) → (Nat → Int64) → (Nat → Nat → Int32) → (Nat → Nat → Int64) → Prop) : Prop :=
  ∃ n : Nat, wl_LassoFinderModel_stemOf_6  Post n 0 0 0 I J B D
set_option maxHeartbeats 8000000 in
set_option maxRecDepth 100000 in
theorem wJ_LassoFinderModel_stemOf_195 {p : Program} {l : Launch} {e : Env} {s : State} {m : MethodId} {below : List Frame} {meth : Method} {c : Code} {A : Nat → Prop} (G : va_G) (K : Nat → ClassId) (ad : Nat → Nat) (Post : Int32 → (Nat → Int32) → (Nat → Int64) → (Nat → Nat → Int32) → (Nat → Nat → Int64) → Prop) (C : zCx p s m ([.ref (ad 0)] : List Value).toArray meth c A G K prog_14_method_62_code (some .int) 9 "LassoFinderModel") (K52 : Int32 → Int32 → Int32 → (Nat → Int32) → (Nat → Int64) → (Nat → Nat → Int32) → (Nat → Nat → Int64) → Prop) (kh52 : ∀ (x1 : Int32) (x2 : Int32) (x3 : Int32) (I : Nat → Int32) (J : Nat → Int64) (B : Nat → Nat → Int32) (D : Nat → Nat → Int64) (ls : Array Slot) (H : Heap) (locs : List Loc), K52 x1 x2 x3 I J B D → lv_has ls 9 [(0, .ref (ad 0)), (1, .int x1), (2, .int x2), (3, .int x3)] → zW G A s.heap (wM ad K I J B D) H locs → W p l e { frames := 2, cells := 0, slots := 0, locals := 50 } s m ([.ref (ad 0)] : List Value).toArray below meth c H locs 0 0 (MQ below (va_Qi (fun (r : Int32) (u : zS) => Post r u.1 u.2.1 u.2.2.1 u.2.2.2) (fun u t => zPost G K A (wM ad K u.1 u.2.1 u.2.2.1 u.2.2.2) t) A) ([.ref (ad 0)] : List Value).toArray s 0 0 A) (F0 m 52 ls [])) : ∀ (x3 : Int32) (x4 : Int32) (x5 : Int32) (I : Nat → Int32) (J : Nat → Int64) (B : Nat → Nat → Int32) (D : Nat → Nat → Int64) (ls : Array Slot) (H : Heap) (locs : List Loc), wc_LassoFinderModel_stemOf_195  K52 Post x3 x4 x5 I J B D → lv_has ls 9 [(0, .ref (ad 0)), (3, .int x3), (4, .int x4), (5, .int x5)] → zW G A s.heap (wM ad K I J B D) H locs → W p l e { frames := 2, cells := 0, slots := 0, locals := 50 } s m ([.ref (ad 0)] : List Value).toArray below meth c H locs 0 0 (MQ below (va_Qi (fun (r : Int32) (u : zS) => Post r u.1 u.2.1 u.2.2.1 u.2.2.2) (fun u t => zPost G K A (wM ad K u.1 u.2.1 u.2.2.1 u.2.2.2) t) A) ([.ref (ad 0)] : List Value).toArray s 0 0 A) (F0 m 195 ls []) := by
  obtain ⟨hx, hb, hr, hml, hts, hown, hlocks, hA, hK⟩ := id C
  intro x3 x4 x5 I J B D ls H locs hok hl hw
  unfold wc_LassoFinderModel_stemOf_195 at hok
  refine lv_aload_n hx hb zd_LassoFinderModel_stemOf_195 rfl (lv_at hl 0 rfl) ?_
  refine z_get (v := .ref (ad 55)) hx hb hts hown hK hw zZ12 0 wM_g0 80 (by decide) zm_289 rfl zd_LassoFinderModel_stemOf_196 ?_
  refine lv_iload_n hx hb zd_LassoFinderModel_stemOf_199 rfl (lv_at hl 1 rfl) ?_
  refine lv_iconst (v := 1) hx hb zd_LassoFinderModel_stemOf_200 (by decide) ?_
  refine lv_isub hx hb zd_LassoFinderModel_stemOf_201 ?_
  refine lv_topi (fun z1 ez1 => ?_)
  have hok := hok z1 ez1
  refine lv_iload hx hb zd_LassoFinderModel_stemOf_202 (lv_at hl 2 rfl) ?_
  refine z_callv (w1 := fun (u : zS) => wM ad K u.1 u.2.1 u.2.2.1 u.2.2.2) (wr := []) (z_runS (wc := (wM ad K I J B D)) (As := [.ref (ad 55), .int z1, .int x4]) (rest := []) ⟨hx, hb, hml, hown, hts⟩ (w_LassoFinderModel_keep_ad55 l G K ad I J B D z1 x4 _ H.size hok) zf_LassoFinderModel_keep zm_370 ⟨Nat.le_of_ble_eq_true rfl, Nat.le_of_ble_eq_true rfl⟩ hK hw (List.range 58) wM_all wM_nd rfl hl.1 rfl (Nat.le_of_ble_eq_true rfl) zd_LassoFinderModel_stemOf_204 ⟨Nat.le_of_ble_eq_true rfl, Nat.le_of_ble_eq_true rfl⟩) hw hA (List.range 58) [] wM_all rfl (by decide) (fun i hi => by cases hi) (fun u H locs hok hw => ?_)
  obtain ⟨I2, J2, B2, D2⟩ := u
  dsimp only at hok
  have hw : zW G A s.heap (wM ad K I2 J2 B2 D2) H locs := hw
  refine lv_aload_n hx hb zd_LassoFinderModel_stemOf_207 rfl (lv_at hl 0 rfl) ?_
  refine z_get (v := .ref (ad 33)) hx hb hts hown hK hw zZ12 0 wM_g0 49 (by decide) zm_267 rfl zd_LassoFinderModel_stemOf_208 ?_
  refine lv_iload hx hb zd_LassoFinderModel_stemOf_211 (lv_at hl 2 rfl) ?_
  refine va_iald (f := (B2 30)) hx hb hK hw.1 33 0 wM_a33 rfl hok.1 zd_LassoFinderModel_stemOf_213 ?_
  have hok := hok.2
  refine lv_topi (fun z3 ez3 => ?_)
  have hok := hok z3 ez3
  refine lv_istore_n hx hb zd_LassoFinderModel_stemOf_214 rfl hl (by decide) rfl (fun ls hl => ?_)
  have hl : lv_has ls 9 [(1, .int z3), (0, .ref (ad 0)), (3, .int x3), (4, .int x4), (5, .int x5)] := hl
  refine lv_iload hx hb zd_LassoFinderModel_stemOf_215 (lv_at hl 4 rfl) ?_
  refine lv_istore_n hx hb zd_LassoFinderModel_stemOf_217 rfl hl (by decide) rfl (fun ls hl => ?_)
  have hl : lv_has ls 9 [(2, .int x5), (1, .int z3), (0, .ref (ad 0)), (3, .int x3), (4, .int x4), (5, .int x5)] := hl
  obtain ⟨z4, ez4⟩ : ∃ z : Int32, z = (x3 + 1) := ⟨_, rfl⟩
  have hok := hok z4 ez4
  refine lv_iinc (v := z4) hx hb zd_LassoFinderModel_stemOf_218 hl (k := 3) rfl ez4.symm (by decide) rfl (fun ls hl => ?_)
  have hl : lv_has ls 9 [(3, .int z4), (2, .int x5), (1, .int z3), (0, .ref (ad 0)), (4, .int x4), (5, .int x5)] := hl
  refine lv_goto (tgt := 52) hx hb zd_LassoFinderModel_stemOf_221 (by decide) ?_
  exact kh52 z3 x5 z4 I2 J2 B2 D2 ls H locs hok (lv_sub hl [3, 2, 1, 0] rfl) hw
set_option maxHeartbeats 8000000 in
set_option maxRecDepth 100000 in
theorem wJ_LassoFinderModel_stemOf_187 {p : Program} {l : Launch} {e : Env} {s : State} {m : MethodId} {below : List Frame} {meth : Method} {c : Code} {A : Nat → Prop} (G : va_G) (K : Nat → ClassId) (ad : Nat → Nat) (Post : Int32 → (Nat → Int32) → (Nat → Int64) → (Nat → Nat → Int32) → (Nat → Nat → Int64) → Prop) (C : zCx p s m ([.ref (ad 0)] : List Value).toArray meth c A G K prog_14_method_62_code (some .int) 9 "LassoFinderModel") (K52 : Int32 → Int32 → Int32 → (Nat → Int32) → (Nat → Int64) → (Nat → Nat → Int32) → (Nat → Nat → Int64) → Prop) (kh52 : ∀ (x1 : Int32) (x2 : Int32) (x3 : Int32) (I : Nat → Int32) (J : Nat → Int64) (B : Nat → Nat → Int32) (D : Nat → Nat → Int64) (ls : Array Slot) (H : Heap) (locs : List Loc), K52 x1 x2 x3 I J B D → lv_has ls 9 [(0, .ref (ad 0)), (1, .int x1), (2, .int x2), (3, .int x3)] → zW G A s.heap (wM ad K I J B D) H locs → W p l e { frames := 2, cells := 0, slots := 0, locals := 50 } s m ([.ref (ad 0)] : List Value).toArray below meth c H locs 0 0 (MQ below (va_Qi (fun (r : Int32) (u : zS) => Post r u.1 u.2.1 u.2.2.1 u.2.2.2) (fun u t => zPost G K A (wM ad K u.1 u.2.1 u.2.2.1 u.2.2.2) t) A) ([.ref (ad 0)] : List Value).toArray s 0 0 A) (F0 m 52 ls [])) (K74 : Int32 → Int32 → Int32 → Int32 → Int32 → Int32 → (Nat → Int32) → (Nat → Int64) → (Nat → Nat → Int32) → (Nat → Nat → Int64) → Prop) (kh74 : ∀ (x1 : Int32) (x2 : Int32) (x3 : Int32) (x4 : Int32) (x5 : Int32) (x6 : Int32) (I : Nat → Int32) (J : Nat → Int64) (B : Nat → Nat → Int32) (D : Nat → Nat → Int64) (ls : Array Slot) (H : Heap) (locs : List Loc), K74 x1 x2 x3 x4 x5 x6 I J B D → lv_has ls 9 [(0, .ref (ad 0)), (1, .int x1), (2, .int x2), (3, .int x3), (4, .int x4), (5, .int x5), (6, .int x6)] → zW G A s.heap (wM ad K I J B D) H locs → W p l e { frames := 2, cells := 0, slots := 0, locals := 50 } s m ([.ref (ad 0)] : List Value).toArray below meth c H locs 0 0 (MQ below (va_Qi (fun (r : Int32) (u : zS) => Post r u.1 u.2.1 u.2.2.1 u.2.2.2) (fun u t => zPost G K A (wM ad K u.1 u.2.1 u.2.2.1 u.2.2.2) t) A) ([.ref (ad 0)] : List Value).toArray s 0 0 A) (F0 m 74 ls [])) : ∀ (x1 : Int32) (x2 : Int32) (x3 : Int32) (x5 : Int32) (x6 : Int32) (y0 : Int32) (I : Nat → Int32) (J : Nat → Int64) (B : Nat → Nat → Int32) (D : Nat → Nat → Int64) (ls : Array Slot) (H : Heap) (locs : List Loc), wc_LassoFinderModel_stemOf_187  K52 K74 Post x1 x2 x3 x5 x6 y0 I J B D → lv_has ls 9 [(0, .ref (ad 0)), (1, .int x1), (2, .int x2), (3, .int x3), (5, .int x5), (6, .int x6)] → zW G A s.heap (wM ad K I J B D) H locs → W p l e { frames := 2, cells := 0, slots := 0, locals := 50 } s m ([.ref (ad 0)] : List Value).toArray below meth c H locs 0 0 (MQ below (va_Qi (fun (r : Int32) (u : zS) => Post r u.1 u.2.1 u.2.2.1 u.2.2.2) (fun u t => zPost G K A (wM ad K u.1 u.2.1 u.2.2.1 u.2.2.2) t) A) ([.ref (ad 0)] : List Value).toArray s 0 0 A) (F0 m 187 ls [.int y0]) := by
  obtain ⟨hx, hb, hr, hml, hts, hown, hlocks, hA, hK⟩ := id C
  intro x1 x2 x3 x5 x6 y0 I J B D ls H locs hok hl hw
  unfold wc_LassoFinderModel_stemOf_187 at hok
  refine lv_istore hx hb zd_LassoFinderModel_stemOf_187 hl (by decide) rfl (fun ls hl => ?_)
  have hl : lv_has ls 9 [(4, .int y0), (0, .ref (ad 0)), (1, .int x1), (2, .int x2), (3, .int x3), (5, .int x5), (6, .int x6)] := hl
  obtain ⟨z5, ez5⟩ : ∃ z : Int32, z = (x6 + 1) := ⟨_, rfl⟩
  have hok := hok z5 ez5
  refine lv_iinc (v := z5) hx hb zd_LassoFinderModel_stemOf_189 hl (k := 6) rfl ez5.symm (by decide) rfl (fun ls hl => ?_)
  have hl : lv_has ls 9 [(6, .int z5), (4, .int y0), (0, .ref (ad 0)), (1, .int x1), (2, .int x2), (3, .int x3), (5, .int x5)] := hl
  refine lv_goto (tgt := 74) hx hb zd_LassoFinderModel_stemOf_192 (by decide) ?_
  exact kh74 x1 x2 x3 y0 x5 z5 I J B D ls H locs hok (lv_sub hl [2, 3, 4, 5, 1, 6, 0] rfl) hw
set_option maxHeartbeats 8000000 in
set_option maxRecDepth 100000 in
theorem wJ_LassoFinderModel_stemOf_169 {p : Program} {l : Launch} {e : Env} {s : State} {m : MethodId} {below : List Frame} {meth : Method} {c : Code} {A : Nat → Prop} (G : va_G) (K : Nat → ClassId) (ad : Nat → Nat) (Post : Int32 → (Nat → Int32) → (Nat → Int64) → (Nat → Nat → Int32) → (Nat → Nat → Int64) → Prop) (C : zCx p s m ([.ref (ad 0)] : List Value).toArray meth c A G K prog_14_method_62_code (some .int) 9 "LassoFinderModel") (K52 : Int32 → Int32 → Int32 → (Nat → Int32) → (Nat → Int64) → (Nat → Nat → Int32) → (Nat → Nat → Int64) → Prop) (kh52 : ∀ (x1 : Int32) (x2 : Int32) (x3 : Int32) (I : Nat → Int32) (J : Nat → Int64) (B : Nat → Nat → Int32) (D : Nat → Nat → Int64) (ls : Array Slot) (H : Heap) (locs : List Loc), K52 x1 x2 x3 I J B D → lv_has ls 9 [(0, .ref (ad 0)), (1, .int x1), (2, .int x2), (3, .int x3)] → zW G A s.heap (wM ad K I J B D) H locs → W p l e { frames := 2, cells := 0, slots := 0, locals := 50 } s m ([.ref (ad 0)] : List Value).toArray below meth c H locs 0 0 (MQ below (va_Qi (fun (r : Int32) (u : zS) => Post r u.1 u.2.1 u.2.2.1 u.2.2.2) (fun u t => zPost G K A (wM ad K u.1 u.2.1 u.2.2.1 u.2.2.2) t) A) ([.ref (ad 0)] : List Value).toArray s 0 0 A) (F0 m 52 ls [])) (K74 : Int32 → Int32 → Int32 → Int32 → Int32 → Int32 → (Nat → Int32) → (Nat → Int64) → (Nat → Nat → Int32) → (Nat → Nat → Int64) → Prop) (kh74 : ∀ (x1 : Int32) (x2 : Int32) (x3 : Int32) (x4 : Int32) (x5 : Int32) (x6 : Int32) (I : Nat → Int32) (J : Nat → Int64) (B : Nat → Nat → Int32) (D : Nat → Nat → Int64) (ls : Array Slot) (H : Heap) (locs : List Loc), K74 x1 x2 x3 x4 x5 x6 I J B D → lv_has ls 9 [(0, .ref (ad 0)), (1, .int x1), (2, .int x2), (3, .int x3), (4, .int x4), (5, .int x5), (6, .int x6)] → zW G A s.heap (wM ad K I J B D) H locs → W p l e { frames := 2, cells := 0, slots := 0, locals := 50 } s m ([.ref (ad 0)] : List Value).toArray below meth c H locs 0 0 (MQ below (va_Qi (fun (r : Int32) (u : zS) => Post r u.1 u.2.1 u.2.2.1 u.2.2.2) (fun u t => zPost G K A (wM ad K u.1 u.2.1 u.2.2.1 u.2.2.2) t) A) ([.ref (ad 0)] : List Value).toArray s 0 0 A) (F0 m 74 ls [])) (K98 : Int32 → Int32 → Int32 → Int32 → Int32 → Int32 → Int32 → (Nat → Int32) → (Nat → Int64) → (Nat → Nat → Int32) → (Nat → Nat → Int64) → Prop) (kh98 : ∀ (x1 : Int32) (x2 : Int32) (x3 : Int32) (x4 : Int32) (x5 : Int32) (x6 : Int32) (x7 : Int32) (I : Nat → Int32) (J : Nat → Int64) (B : Nat → Nat → Int32) (D : Nat → Nat → Int64) (ls : Array Slot) (H : Heap) (locs : List Loc), K98 x1 x2 x3 x4 x5 x6 x7 I J B D → lv_has ls 9 [(0, .ref (ad 0)), (1, .int x1), (2, .int x2), (3, .int x3), (4, .int x4), (5, .int x5), (6, .int x6), (7, .int x7)] → zW G A s.heap (wM ad K I J B D) H locs → W p l e { frames := 2, cells := 0, slots := 0, locals := 50 } s m ([.ref (ad 0)] : List Value).toArray below meth c H locs 0 0 (MQ below (va_Qi (fun (r : Int32) (u : zS) => Post r u.1 u.2.1 u.2.2.1 u.2.2.2) (fun u t => zPost G K A (wM ad K u.1 u.2.1 u.2.2.1 u.2.2.2) t) A) ([.ref (ad 0)] : List Value).toArray s 0 0 A) (F0 m 98 ls [])) : ∀ (x1 : Int32) (x2 : Int32) (x3 : Int32) (x4 : Int32) (x5 : Int32) (x6 : Int32) (x7 : Int32) (I : Nat → Int32) (J : Nat → Int64) (B : Nat → Nat → Int32) (D : Nat → Nat → Int64) (ls : Array Slot) (H : Heap) (locs : List Loc), wc_LassoFinderModel_stemOf_169  K52 K74 K98 Post x1 x2 x3 x4 x5 x6 x7 I J B D → lv_has ls 9 [(0, .ref (ad 0)), (1, .int x1), (2, .int x2), (3, .int x3), (4, .int x4), (5, .int x5), (6, .int x6), (7, .int x7)] → zW G A s.heap (wM ad K I J B D) H locs → W p l e { frames := 2, cells := 0, slots := 0, locals := 50 } s m ([.ref (ad 0)] : List Value).toArray below meth c H locs 0 0 (MQ below (va_Qi (fun (r : Int32) (u : zS) => Post r u.1 u.2.1 u.2.2.1 u.2.2.2) (fun u t => zPost G K A (wM ad K u.1 u.2.1 u.2.2.1 u.2.2.2) t) A) ([.ref (ad 0)] : List Value).toArray s 0 0 A) (F0 m 169 ls []) := by
  obtain ⟨hx, hb, hr, hml, hts, hown, hlocks, hA, hK⟩ := id C
  intro x1 x2 x3 x4 x5 x6 x7 I J B D ls H locs hok hl hw
  unfold wc_LassoFinderModel_stemOf_169 at hok
  obtain ⟨z6, ez6⟩ : ∃ z : Int32, z = (x7 + 1) := ⟨_, rfl⟩
  have hok := hok z6 ez6
  refine lv_iinc (v := z6) hx hb zd_LassoFinderModel_stemOf_169 hl (k := 7) rfl ez6.symm (by decide) rfl (fun ls hl => ?_)
  have hl : lv_has ls 9 [(7, .int z6), (0, .ref (ad 0)), (1, .int x1), (2, .int x2), (3, .int x3), (4, .int x4), (5, .int x5), (6, .int x6)] := hl
  refine lv_goto (tgt := 98) hx hb zd_LassoFinderModel_stemOf_172 (by decide) ?_
  exact kh98 x1 x2 x3 x4 x5 x6 z6 I J B D ls H locs hok (lv_sub hl [1, 2, 3, 4, 5, 6, 7, 0] rfl) hw
set_option maxHeartbeats 8000000 in
set_option maxRecDepth 100000 in
theorem wB_LassoFinderModel_stemOf_98 {p : Program} {l : Launch} {e : Env} {s : State} {m : MethodId} {below : List Frame} {meth : Method} {c : Code} {A : Nat → Prop} (G : va_G) (K : Nat → ClassId) (ad : Nat → Nat) (Post : Int32 → (Nat → Int32) → (Nat → Int64) → (Nat → Nat → Int32) → (Nat → Nat → Int64) → Prop) (C : zCx p s m ([.ref (ad 0)] : List Value).toArray meth c A G K prog_14_method_62_code (some .int) 9 "LassoFinderModel") (K52 : Int32 → Int32 → Int32 → (Nat → Int32) → (Nat → Int64) → (Nat → Nat → Int32) → (Nat → Nat → Int64) → Prop) (kh52 : ∀ (x1 : Int32) (x2 : Int32) (x3 : Int32) (I : Nat → Int32) (J : Nat → Int64) (B : Nat → Nat → Int32) (D : Nat → Nat → Int64) (ls : Array Slot) (H : Heap) (locs : List Loc), K52 x1 x2 x3 I J B D → lv_has ls 9 [(0, .ref (ad 0)), (1, .int x1), (2, .int x2), (3, .int x3)] → zW G A s.heap (wM ad K I J B D) H locs → W p l e { frames := 2, cells := 0, slots := 0, locals := 50 } s m ([.ref (ad 0)] : List Value).toArray below meth c H locs 0 0 (MQ below (va_Qi (fun (r : Int32) (u : zS) => Post r u.1 u.2.1 u.2.2.1 u.2.2.2) (fun u t => zPost G K A (wM ad K u.1 u.2.1 u.2.2.1 u.2.2.2) t) A) ([.ref (ad 0)] : List Value).toArray s 0 0 A) (F0 m 52 ls [])) (K74 : Int32 → Int32 → Int32 → Int32 → Int32 → Int32 → (Nat → Int32) → (Nat → Int64) → (Nat → Nat → Int32) → (Nat → Nat → Int64) → Prop) (kh74 : ∀ (x1 : Int32) (x2 : Int32) (x3 : Int32) (x4 : Int32) (x5 : Int32) (x6 : Int32) (I : Nat → Int32) (J : Nat → Int64) (B : Nat → Nat → Int32) (D : Nat → Nat → Int64) (ls : Array Slot) (H : Heap) (locs : List Loc), K74 x1 x2 x3 x4 x5 x6 I J B D → lv_has ls 9 [(0, .ref (ad 0)), (1, .int x1), (2, .int x2), (3, .int x3), (4, .int x4), (5, .int x5), (6, .int x6)] → zW G A s.heap (wM ad K I J B D) H locs → W p l e { frames := 2, cells := 0, slots := 0, locals := 50 } s m ([.ref (ad 0)] : List Value).toArray below meth c H locs 0 0 (MQ below (va_Qi (fun (r : Int32) (u : zS) => Post r u.1 u.2.1 u.2.2.1 u.2.2.2) (fun u t => zPost G K A (wM ad K u.1 u.2.1 u.2.2.1 u.2.2.2) t) A) ([.ref (ad 0)] : List Value).toArray s 0 0 A) (F0 m 74 ls [])) (K98 : Int32 → Int32 → Int32 → Int32 → Int32 → Int32 → Int32 → (Nat → Int32) → (Nat → Int64) → (Nat → Nat → Int32) → (Nat → Nat → Int64) → Prop) (kh98 : ∀ (x1 : Int32) (x2 : Int32) (x3 : Int32) (x4 : Int32) (x5 : Int32) (x6 : Int32) (x7 : Int32) (I : Nat → Int32) (J : Nat → Int64) (B : Nat → Nat → Int32) (D : Nat → Nat → Int64) (ls : Array Slot) (H : Heap) (locs : List Loc), K98 x1 x2 x3 x4 x5 x6 x7 I J B D → lv_has ls 9 [(0, .ref (ad 0)), (1, .int x1), (2, .int x2), (3, .int x3), (4, .int x4), (5, .int x5), (6, .int x6), (7, .int x7)] → zW G A s.heap (wM ad K I J B D) H locs → W p l e { frames := 2, cells := 0, slots := 0, locals := 50 } s m ([.ref (ad 0)] : List Value).toArray below meth c H locs 0 0 (MQ below (va_Qi (fun (r : Int32) (u : zS) => Post r u.1 u.2.1 u.2.2.1 u.2.2.2) (fun u t => zPost G K A (wM ad K u.1 u.2.1 u.2.2.1 u.2.2.2) t) A) ([.ref (ad 0)] : List Value).toArray s 0 0 A) (F0 m 98 ls [])) : ∀ (x1 : Int32) (x2 : Int32) (x3 : Int32) (x4 : Int32) (x5 : Int32) (x6 : Int32) (x7 : Int32) (I : Nat → Int32) (J : Nat → Int64) (B : Nat → Nat → Int32) (D : Nat → Nat → Int64) (ls : Array Slot) (H : Heap) (locs : List Loc), wb_LassoFinderModel_stemOf_98  K98 K52 K74 Post x1 x2 x3 x4 x5 x6 x7 I J B D → lv_has ls 9 [(0, .ref (ad 0)), (1, .int x1), (2, .int x2), (3, .int x3), (4, .int x4), (5, .int x5), (6, .int x6), (7, .int x7)] → zW G A s.heap (wM ad K I J B D) H locs → W p l e { frames := 2, cells := 0, slots := 0, locals := 50 } s m ([.ref (ad 0)] : List Value).toArray below meth c H locs 0 0 (MQ below (va_Qi (fun (r : Int32) (u : zS) => Post r u.1 u.2.1 u.2.2.1 u.2.2.2) (fun u t => zPost G K A (wM ad K u.1 u.2.1 u.2.2.1 u.2.2.2) t) A) ([.ref (ad 0)] : List Value).toArray s 0 0 A) (F0 m 98 ls []) := by
  obtain ⟨hx, hb, hr, hml, hts, hown, hlocks, hA, hK⟩ := id C
  intro x1 x2 x3 x4 x5 x6 x7 I J B D ls H locs hok hl hw
  unfold wb_LassoFinderModel_stemOf_98 at hok
  refine lv_iload hx hb zd_LassoFinderModel_stemOf_98 (lv_at hl 7 rfl) ?_
  refine lv_iconst (v := 1) hx hb zd_LassoFinderModel_stemOf_100 (by decide) ?_
  refine lv_aload_n hx hb zd_LassoFinderModel_stemOf_101 rfl (lv_at hl 0 rfl) ?_
  refine z_get (v := .int (I 20)) hx hb hts hown hK hw zZ12 0 wM_g0 64 (by decide) zm_356 rfl zd_LassoFinderModel_stemOf_102 ?_
  refine lv_ishl hx hb zd_LassoFinderModel_stemOf_105 ?_
  refine lv_topi (fun z7 ez7 => ?_)
  have hok := hok z7 ez7
  refine lv_icmp_ge (tgt := 175) hx hb zd_LassoFinderModel_stemOf_106 (by decide) (fun hc8 => ?_) (fun hc8 => ?_)
  · have hok := hok.1 hc8
    refine lv_iload hx hb zd_LassoFinderModel_stemOf_175 (lv_at hl 5 rfl) ?_
    refine lv_if_eq (tgt := 185) hx hb zd_LassoFinderModel_stemOf_177 (by decide) (fun hc9 => ?_) (fun hc9 => ?_)
    · have hok := hok.1 hc9
      refine lv_iload hx hb zd_LassoFinderModel_stemOf_185 (lv_at hl 4 rfl) ?_
      exact wJ_LassoFinderModel_stemOf_187 G K ad  Post C K52 kh52 K74 kh74 x1 x2 x3 x5 x6 x4 I J B D ls H locs hok (lv_sub hl [0, 1, 2, 3, 5, 6] rfl) hw
    · have hok := hok.2 hc9
      refine lv_iload hx hb zd_LassoFinderModel_stemOf_180 (lv_at hl 6 rfl) ?_
      refine lv_goto (tgt := 187) hx hb zd_LassoFinderModel_stemOf_182 (by decide) ?_
      exact wJ_LassoFinderModel_stemOf_187 G K ad  Post C K52 kh52 K74 kh74 x1 x2 x3 x5 x6 x6 I J B D ls H locs hok (lv_sub hl [0, 1, 2, 3, 5, 6] rfl) hw
  · have hok := hok.2 hc8
    refine lv_bipush (v := 8) hx hb zd_LassoFinderModel_stemOf_109 (by decide) ?_
    refine lv_aload_n hx hb zd_LassoFinderModel_stemOf_111 rfl (lv_at hl 0 rfl) ?_
    refine z_get (v := .ref (ad 33)) hx hb hts hown hK hw zZ12 0 wM_g0 49 (by decide) zm_267 rfl zd_LassoFinderModel_stemOf_112 ?_
    refine lv_iload hx hb zd_LassoFinderModel_stemOf_115 (lv_at hl 6 rfl) ?_
    refine va_iald (f := (B 30)) hx hb hK hw.1 33 0 wM_a33 rfl hok.1 zd_LassoFinderModel_stemOf_117 ?_
    have hok := hok.2
    refine lv_topi (fun z10 ez10 => ?_)
    have hok := hok z10 ez10
    refine lv_imul hx hb zd_LassoFinderModel_stemOf_118 ?_
    refine lv_topi (fun z11 ez11 => ?_)
    have hok := hok z11 ez11
    refine lv_iload hx hb zd_LassoFinderModel_stemOf_119 (lv_at hl 7 rfl) ?_
    refine lv_iadd hx hb zd_LassoFinderModel_stemOf_121 ?_
    refine lv_topi (fun z12 ez12 => ?_)
    have hok := hok z12 ez12
    refine lv_istore hx hb zd_LassoFinderModel_stemOf_122 hl (by decide) rfl (fun ls hl => ?_)
    have hl : lv_has ls 9 [(8, .int z12), (0, .ref (ad 0)), (1, .int x1), (2, .int x2), (3, .int x3), (4, .int x4), (5, .int x5), (6, .int x6), (7, .int x7)] := hl
    refine lv_aload_n hx hb zd_LassoFinderModel_stemOf_124 rfl (lv_at hl 1 rfl) ?_
    refine z_get (v := .ref (ad 52)) hx hb hts hown hK hw zZ12 0 wM_g0 75 (by decide) zm_286 rfl zd_LassoFinderModel_stemOf_125 ?_
    refine lv_iload hx hb zd_LassoFinderModel_stemOf_128 (lv_at hl 0 rfl) ?_
    refine va_iald (f := (B 49)) hx hb hK hw.1 52 0 wM_a52 rfl hok.1 zd_LassoFinderModel_stemOf_130 ?_
    have hok := hok.2
    refine lv_topi (fun z13 ez13 => ?_)
    have hok := hok z13 ez13
    refine lv_iload_n hx hb zd_LassoFinderModel_stemOf_131 rfl (lv_at hl 4 rfl) ?_
    refine lv_icmp_ne (tgt := 169) hx hb zd_LassoFinderModel_stemOf_132 (by decide) (fun hc14 => ?_) (fun hc14 => ?_)
    · have hok := hok.1 hc14
      exact wJ_LassoFinderModel_stemOf_169 G K ad  Post C K52 kh52 K74 kh74 K98 kh98 x1 x2 x3 x4 x5 x6 x7 I J B D ls H locs hok (lv_sub hl [1, 2, 3, 4, 5, 6, 7, 8] rfl) hw
    · have hok := hok.2 hc14
      refine lv_aload_n hx hb zd_LassoFinderModel_stemOf_135 rfl (lv_at hl 1 rfl) ?_
      refine z_get (v := .ref (ad 53)) hx hb hts hown hK hw zZ12 0 wM_g0 76 (by decide) zm_287 rfl zd_LassoFinderModel_stemOf_136 ?_
      refine lv_iload hx hb zd_LassoFinderModel_stemOf_139 (lv_at hl 0 rfl) ?_
      refine va_zald (f := (B 50)) hx hb hK hw.1 53 2 wM_a53 rfl hok.1 zd_LassoFinderModel_stemOf_141 ?_
      have hok := hok.2
      refine lv_topi (fun z15 ez15 => ?_)
      have hok := hok z15 ez15
      refine lv_if_eq (tgt := 169) hx hb zd_LassoFinderModel_stemOf_142 (by decide) (fun hc16 => ?_) (fun hc16 => ?_)
      · have hok := hok.1 hc16
        exact wJ_LassoFinderModel_stemOf_169 G K ad  Post C K52 kh52 K74 kh74 K98 kh98 x1 x2 x3 x4 x5 x6 x7 I J B D ls H locs hok (lv_sub hl [1, 2, 3, 4, 5, 6, 7, 8] rfl) hw
      · have hok := hok.2 hc16
        refine lv_iload_n hx hb zd_LassoFinderModel_stemOf_145 rfl (lv_at hl 3 rfl) ?_
        refine lv_aload_n hx hb zd_LassoFinderModel_stemOf_146 rfl (lv_at hl 1 rfl) ?_
        refine lv_iload_n hx hb zd_LassoFinderModel_stemOf_147 rfl (lv_at hl 2 rfl) ?_
        refine lv_iload hx hb zd_LassoFinderModel_stemOf_148 (lv_at hl 8 rfl) ?_
        refine z_calli (w1 := fun (u : zS) => wM ad K u.1 u.2.1 u.2.2.1 u.2.2.2) (wr := []) (z_runV (q0 := 0) (wc := (wM ad K I J B D)) (As := [.int x1, .int x7]) (rest := [.int x2]) ⟨hx, hb, hml, hown, hts⟩ (w_LassoFinderModel_truthAt l G K ad I J B D x1 x7 _ H.size hok) zf_LassoFinderModel_truthAt zm_375 ⟨Nat.le_of_ble_eq_true rfl, Nat.le_of_ble_eq_true rfl⟩ hK hw (List.range 58) wM_all wM_nd wM_g0 rfl rfl hl.1 rfl (Nat.le_of_ble_eq_true rfl) zd_LassoFinderModel_stemOf_150 ⟨Nat.le_of_ble_eq_true rfl, Nat.le_of_ble_eq_true rfl⟩) hw hA (List.range 58) [] wM_all rfl (by decide) (fun i hi => by cases hi) (fun r17 u H locs hok hw => ?_)
        obtain ⟨I17, J17, B17, D17⟩ := u
        dsimp only at hok
        have hw : zW G A s.heap (wM ad K I17 J17 B17 D17) H locs := hw
        refine lv_ishr hx hb zd_LassoFinderModel_stemOf_153 ?_
        refine lv_topi (fun z18 ez18 => ?_)
        have hok := hok z18 ez18
        refine lv_iconst (v := 1) hx hb zd_LassoFinderModel_stemOf_154 (by decide) ?_
        refine lv_iand hx hb zd_LassoFinderModel_stemOf_155 ?_
        refine lv_topi (fun z19 ez19 => ?_)
        have hok := hok z19 ez19
        refine lv_iconst (v := 1) hx hb zd_LassoFinderModel_stemOf_156 (by decide) ?_
        refine lv_icmp_ne (tgt := 169) hx hb zd_LassoFinderModel_stemOf_157 (by decide) (fun hc20 => ?_) (fun hc20 => ?_)
        · have hok := hok.1 hc20
          exact wJ_LassoFinderModel_stemOf_169 G K ad  Post C K52 kh52 K74 kh74 K98 kh98 x1 x2 x3 x4 x5 x6 x7 I17 J17 B17 D17 ls H locs hok (lv_sub hl [1, 2, 3, 4, 5, 6, 7, 8] rfl) hw
        · have hok := hok.2 hc20
          refine lv_iload hx hb zd_LassoFinderModel_stemOf_160 (lv_at hl 6 rfl) ?_
          refine lv_iconst (v := 1) hx hb zd_LassoFinderModel_stemOf_162 (by decide) ?_
          refine lv_iload hx hb zd_LassoFinderModel_stemOf_163 (lv_at hl 8 rfl) ?_
          refine lv_ishl hx hb zd_LassoFinderModel_stemOf_165 ?_
          refine lv_topi (fun z21 ez21 => ?_)
          have hok := hok z21 ez21
          refine lv_ior hx hb zd_LassoFinderModel_stemOf_166 ?_
          refine lv_topi (fun z22 ez22 => ?_)
          have hok := hok z22 ez22
          refine lv_istore hx hb zd_LassoFinderModel_stemOf_167 hl (by decide) rfl (fun ls hl => ?_)
          have hl : lv_has ls 9 [(5, .int z22), (8, .int z12), (0, .ref (ad 0)), (1, .int x1), (2, .int x2), (3, .int x3), (4, .int x4), (6, .int x6), (7, .int x7)] := hl
          exact wJ_LassoFinderModel_stemOf_169 G K ad  Post C K52 kh52 K74 kh74 K98 kh98 x1 x2 x3 x4 z22 x6 x7 I17 J17 B17 D17 ls H locs hok (lv_sub hl [2, 3, 4, 5, 6, 0, 7, 8] rfl) hw
theorem wL_LassoFinderModel_stemOf_98 {p : Program} {l : Launch} {e : Env} {s : State} {m : MethodId} {below : List Frame} {meth : Method} {c : Code} {A : Nat → Prop} (G : va_G) (K : Nat → ClassId) (ad : Nat → Nat) (Post : Int32 → (Nat → Int32) → (Nat → Int64) → (Nat → Nat → Int32) → (Nat → Nat → Int64) → Prop) (C : zCx p s m ([.ref (ad 0)] : List Value).toArray meth c A G K prog_14_method_62_code (some .int) 9 "LassoFinderModel") (K52 : Int32 → Int32 → Int32 → (Nat → Int32) → (Nat → Int64) → (Nat → Nat → Int32) → (Nat → Nat → Int64) → Prop) (kh52 : ∀ (x1 : Int32) (x2 : Int32) (x3 : Int32) (I : Nat → Int32) (J : Nat → Int64) (B : Nat → Nat → Int32) (D : Nat → Nat → Int64) (ls : Array Slot) (H : Heap) (locs : List Loc), K52 x1 x2 x3 I J B D → lv_has ls 9 [(0, .ref (ad 0)), (1, .int x1), (2, .int x2), (3, .int x3)] → zW G A s.heap (wM ad K I J B D) H locs → W p l e { frames := 2, cells := 0, slots := 0, locals := 50 } s m ([.ref (ad 0)] : List Value).toArray below meth c H locs 0 0 (MQ below (va_Qi (fun (r : Int32) (u : zS) => Post r u.1 u.2.1 u.2.2.1 u.2.2.2) (fun u t => zPost G K A (wM ad K u.1 u.2.1 u.2.2.1 u.2.2.2) t) A) ([.ref (ad 0)] : List Value).toArray s 0 0 A) (F0 m 52 ls [])) (K74 : Int32 → Int32 → Int32 → Int32 → Int32 → Int32 → (Nat → Int32) → (Nat → Int64) → (Nat → Nat → Int32) → (Nat → Nat → Int64) → Prop) (kh74 : ∀ (x1 : Int32) (x2 : Int32) (x3 : Int32) (x4 : Int32) (x5 : Int32) (x6 : Int32) (I : Nat → Int32) (J : Nat → Int64) (B : Nat → Nat → Int32) (D : Nat → Nat → Int64) (ls : Array Slot) (H : Heap) (locs : List Loc), K74 x1 x2 x3 x4 x5 x6 I J B D → lv_has ls 9 [(0, .ref (ad 0)), (1, .int x1), (2, .int x2), (3, .int x3), (4, .int x4), (5, .int x5), (6, .int x6)] → zW G A s.heap (wM ad K I J B D) H locs → W p l e { frames := 2, cells := 0, slots := 0, locals := 50 } s m ([.ref (ad 0)] : List Value).toArray below meth c H locs 0 0 (MQ below (va_Qi (fun (r : Int32) (u : zS) => Post r u.1 u.2.1 u.2.2.1 u.2.2.2) (fun u t => zPost G K A (wM ad K u.1 u.2.1 u.2.2.1 u.2.2.2) t) A) ([.ref (ad 0)] : List Value).toArray s 0 0 A) (F0 m 74 ls [])) : ∀ (n : Nat) (x1 : Int32) (x2 : Int32) (x3 : Int32) (x4 : Int32) (x5 : Int32) (x6 : Int32) (x7 : Int32) (I : Nat → Int32) (J : Nat → Int64) (B : Nat → Nat → Int32) (D : Nat → Nat → Int64) (ls : Array Slot) (H : Heap) (locs : List Loc), wl_LassoFinderModel_stemOf_98  K52 K74 Post n x1 x2 x3 x4 x5 x6 x7 I J B D → lv_has ls 9 [(0, .ref (ad 0)), (1, .int x1), (2, .int x2), (3, .int x3), (4, .int x4), (5, .int x5), (6, .int x6), (7, .int x7)] → zW G A s.heap (wM ad K I J B D) H locs → W p l e { frames := 2, cells := 0, slots := 0, locals := 50 } s m ([.ref (ad 0)] : List Value).toArray below meth c H locs 0 0 (MQ below (va_Qi (fun (r : Int32) (u : zS) => Post r u.1 u.2.1 u.2.2.1 u.2.2.2) (fun u t => zPost G K A (wM ad K u.1 u.2.1 u.2.2.1 u.2.2.2) t) A) ([.ref (ad 0)] : List Value).toArray s 0 0 A) (F0 m 98 ls []) := by
  intro n
  induction n with
  | zero => intro x1 x2 x3 x4 x5 x6 x7 I J B D ls H locs hok; exact hok.elim
  | succ n ih => exact wB_LassoFinderModel_stemOf_98 G K ad  Post C K52 kh52 K74 kh74 (wl_LassoFinderModel_stemOf_98  K52 K74 Post n) ih
set_option maxHeartbeats 8000000 in
set_option maxRecDepth 100000 in
theorem wB_LassoFinderModel_stemOf_74 {p : Program} {l : Launch} {e : Env} {s : State} {m : MethodId} {below : List Frame} {meth : Method} {c : Code} {A : Nat → Prop} (G : va_G) (K : Nat → ClassId) (ad : Nat → Nat) (Post : Int32 → (Nat → Int32) → (Nat → Int64) → (Nat → Nat → Int32) → (Nat → Nat → Int64) → Prop) (C : zCx p s m ([.ref (ad 0)] : List Value).toArray meth c A G K prog_14_method_62_code (some .int) 9 "LassoFinderModel") (K52 : Int32 → Int32 → Int32 → (Nat → Int32) → (Nat → Int64) → (Nat → Nat → Int32) → (Nat → Nat → Int64) → Prop) (kh52 : ∀ (x1 : Int32) (x2 : Int32) (x3 : Int32) (I : Nat → Int32) (J : Nat → Int64) (B : Nat → Nat → Int32) (D : Nat → Nat → Int64) (ls : Array Slot) (H : Heap) (locs : List Loc), K52 x1 x2 x3 I J B D → lv_has ls 9 [(0, .ref (ad 0)), (1, .int x1), (2, .int x2), (3, .int x3)] → zW G A s.heap (wM ad K I J B D) H locs → W p l e { frames := 2, cells := 0, slots := 0, locals := 50 } s m ([.ref (ad 0)] : List Value).toArray below meth c H locs 0 0 (MQ below (va_Qi (fun (r : Int32) (u : zS) => Post r u.1 u.2.1 u.2.2.1 u.2.2.2) (fun u t => zPost G K A (wM ad K u.1 u.2.1 u.2.2.1 u.2.2.2) t) A) ([.ref (ad 0)] : List Value).toArray s 0 0 A) (F0 m 52 ls [])) (K74 : Int32 → Int32 → Int32 → Int32 → Int32 → Int32 → (Nat → Int32) → (Nat → Int64) → (Nat → Nat → Int32) → (Nat → Nat → Int64) → Prop) (kh74 : ∀ (x1 : Int32) (x2 : Int32) (x3 : Int32) (x4 : Int32) (x5 : Int32) (x6 : Int32) (I : Nat → Int32) (J : Nat → Int64) (B : Nat → Nat → Int32) (D : Nat → Nat → Int64) (ls : Array Slot) (H : Heap) (locs : List Loc), K74 x1 x2 x3 x4 x5 x6 I J B D → lv_has ls 9 [(0, .ref (ad 0)), (1, .int x1), (2, .int x2), (3, .int x3), (4, .int x4), (5, .int x5), (6, .int x6)] → zW G A s.heap (wM ad K I J B D) H locs → W p l e { frames := 2, cells := 0, slots := 0, locals := 50 } s m ([.ref (ad 0)] : List Value).toArray below meth c H locs 0 0 (MQ below (va_Qi (fun (r : Int32) (u : zS) => Post r u.1 u.2.1 u.2.2.1 u.2.2.2) (fun u t => zPost G K A (wM ad K u.1 u.2.1 u.2.2.1 u.2.2.2) t) A) ([.ref (ad 0)] : List Value).toArray s 0 0 A) (F0 m 74 ls [])) : ∀ (x1 : Int32) (x2 : Int32) (x3 : Int32) (x4 : Int32) (x5 : Int32) (x6 : Int32) (I : Nat → Int32) (J : Nat → Int64) (B : Nat → Nat → Int32) (D : Nat → Nat → Int64) (ls : Array Slot) (H : Heap) (locs : List Loc), wb_LassoFinderModel_stemOf_74  K74 K52 Post x1 x2 x3 x4 x5 x6 I J B D → lv_has ls 9 [(0, .ref (ad 0)), (1, .int x1), (2, .int x2), (3, .int x3), (4, .int x4), (5, .int x5), (6, .int x6)] → zW G A s.heap (wM ad K I J B D) H locs → W p l e { frames := 2, cells := 0, slots := 0, locals := 50 } s m ([.ref (ad 0)] : List Value).toArray below meth c H locs 0 0 (MQ below (va_Qi (fun (r : Int32) (u : zS) => Post r u.1 u.2.1 u.2.2.1 u.2.2.2) (fun u t => zPost G K A (wM ad K u.1 u.2.1 u.2.2.1 u.2.2.2) t) A) ([.ref (ad 0)] : List Value).toArray s 0 0 A) (F0 m 74 ls []) := by
  obtain ⟨hx, hb, hr, hml, hts, hown, hlocks, hA, hK⟩ := id C
  intro x1 x2 x3 x4 x5 x6 I J B D ls H locs hok hl hw
  unfold wb_LassoFinderModel_stemOf_74 at hok
  refine lv_iload hx hb zd_LassoFinderModel_stemOf_74 (lv_at hl 6 rfl) ?_
  refine lv_aload_n hx hb zd_LassoFinderModel_stemOf_76 rfl (lv_at hl 0 rfl) ?_
  refine z_get (v := .ref (ad 32)) hx hb hts hown hK hw zZ12 0 wM_g0 48 (by decide) zm_266 rfl zd_LassoFinderModel_stemOf_77 ?_
  refine lv_iload_n hx hb zd_LassoFinderModel_stemOf_80 rfl (lv_at hl 1 rfl) ?_
  refine lv_iconst (v := 1) hx hb zd_LassoFinderModel_stemOf_81 (by decide) ?_
  refine lv_iadd hx hb zd_LassoFinderModel_stemOf_82 ?_
  refine lv_topi (fun z23 ez23 => ?_)
  have hok := hok z23 ez23
  refine va_iald (f := (B 29)) hx hb hK hw.1 32 0 wM_a32 rfl hok.1 zd_LassoFinderModel_stemOf_83 ?_
  have hok := hok.2
  refine lv_topi (fun z24 ez24 => ?_)
  have hok := hok z24 ez24
  refine lv_icmp_ge (tgt := 195) hx hb zd_LassoFinderModel_stemOf_84 (by decide) (fun hc25 => ?_) (fun hc25 => ?_)
  · have hok := hok.1 hc25
    exact wJ_LassoFinderModel_stemOf_195 G K ad  Post C K52 kh52 x3 x4 x5 I J B D ls H locs hok (lv_sub hl [0, 3, 4, 5] rfl) hw
  · have hok := hok.2 hc25
    refine lv_iload hx hb zd_LassoFinderModel_stemOf_87 (lv_at hl 4 rfl) ?_
    refine lv_if_ge (tgt := 195) hx hb zd_LassoFinderModel_stemOf_89 (by decide) (fun hc26 => ?_) (fun hc26 => ?_)
    · have hok := hok.1 hc26
      exact wJ_LassoFinderModel_stemOf_195 G K ad  Post C K52 kh52 x3 x4 x5 I J B D ls H locs hok (lv_sub hl [0, 3, 4, 5] rfl) hw
    · have hok := hok.2 hc26
      refine lv_iconst (v := 0) hx hb zd_LassoFinderModel_stemOf_92 (by decide) ?_
      refine lv_istore hx hb zd_LassoFinderModel_stemOf_93 hl (by decide) rfl (fun ls hl => ?_)
      have hl : lv_has ls 9 [(5, .int 0), (0, .ref (ad 0)), (1, .int x1), (2, .int x2), (3, .int x3), (4, .int x4), (6, .int x6)] := hl
      refine lv_iconst (v := 0) hx hb zd_LassoFinderModel_stemOf_95 (by decide) ?_
      refine lv_istore hx hb zd_LassoFinderModel_stemOf_96 hl (by decide) rfl (fun ls hl => ?_)
      have hl : lv_has ls 9 [(7, .int 0), (5, .int 0), (0, .ref (ad 0)), (1, .int x1), (2, .int x2), (3, .int x3), (4, .int x4), (6, .int x6)] := hl
      obtain ⟨n9, hok⟩ := hok
      exact wL_LassoFinderModel_stemOf_98 G K ad  Post C K52 kh52 K74 kh74 n9 x1 x2 x3 x4 0 x6 0 I J B D ls H locs hok (lv_sub hl [2, 3, 4, 5, 6, 1, 7, 0] rfl) hw
theorem wL_LassoFinderModel_stemOf_74 {p : Program} {l : Launch} {e : Env} {s : State} {m : MethodId} {below : List Frame} {meth : Method} {c : Code} {A : Nat → Prop} (G : va_G) (K : Nat → ClassId) (ad : Nat → Nat) (Post : Int32 → (Nat → Int32) → (Nat → Int64) → (Nat → Nat → Int32) → (Nat → Nat → Int64) → Prop) (C : zCx p s m ([.ref (ad 0)] : List Value).toArray meth c A G K prog_14_method_62_code (some .int) 9 "LassoFinderModel") (K52 : Int32 → Int32 → Int32 → (Nat → Int32) → (Nat → Int64) → (Nat → Nat → Int32) → (Nat → Nat → Int64) → Prop) (kh52 : ∀ (x1 : Int32) (x2 : Int32) (x3 : Int32) (I : Nat → Int32) (J : Nat → Int64) (B : Nat → Nat → Int32) (D : Nat → Nat → Int64) (ls : Array Slot) (H : Heap) (locs : List Loc), K52 x1 x2 x3 I J B D → lv_has ls 9 [(0, .ref (ad 0)), (1, .int x1), (2, .int x2), (3, .int x3)] → zW G A s.heap (wM ad K I J B D) H locs → W p l e { frames := 2, cells := 0, slots := 0, locals := 50 } s m ([.ref (ad 0)] : List Value).toArray below meth c H locs 0 0 (MQ below (va_Qi (fun (r : Int32) (u : zS) => Post r u.1 u.2.1 u.2.2.1 u.2.2.2) (fun u t => zPost G K A (wM ad K u.1 u.2.1 u.2.2.1 u.2.2.2) t) A) ([.ref (ad 0)] : List Value).toArray s 0 0 A) (F0 m 52 ls [])) : ∀ (n : Nat) (x1 : Int32) (x2 : Int32) (x3 : Int32) (x4 : Int32) (x5 : Int32) (x6 : Int32) (I : Nat → Int32) (J : Nat → Int64) (B : Nat → Nat → Int32) (D : Nat → Nat → Int64) (ls : Array Slot) (H : Heap) (locs : List Loc), wl_LassoFinderModel_stemOf_74  K52 Post n x1 x2 x3 x4 x5 x6 I J B D → lv_has ls 9 [(0, .ref (ad 0)), (1, .int x1), (2, .int x2), (3, .int x3), (4, .int x4), (5, .int x5), (6, .int x6)] → zW G A s.heap (wM ad K I J B D) H locs → W p l e { frames := 2, cells := 0, slots := 0, locals := 50 } s m ([.ref (ad 0)] : List Value).toArray below meth c H locs 0 0 (MQ below (va_Qi (fun (r : Int32) (u : zS) => Post r u.1 u.2.1 u.2.2.1 u.2.2.2) (fun u t => zPost G K A (wM ad K u.1 u.2.1 u.2.2.1 u.2.2.2) t) A) ([.ref (ad 0)] : List Value).toArray s 0 0 A) (F0 m 74 ls []) := by
  intro n
  induction n with
  | zero => intro x1 x2 x3 x4 x5 x6 I J B D ls H locs hok; exact hok.elim
  | succ n ih => exact wB_LassoFinderModel_stemOf_74 G K ad  Post C K52 kh52 (wl_LassoFinderModel_stemOf_74  K52 Post n) ih
set_option maxHeartbeats 8000000 in
set_option maxRecDepth 100000 in
theorem wB_LassoFinderModel_stemOf_52 {p : Program} {l : Launch} {e : Env} {s : State} {m : MethodId} {below : List Frame} {meth : Method} {c : Code} {A : Nat → Prop} (G : va_G) (K : Nat → ClassId) (ad : Nat → Nat) (Post : Int32 → (Nat → Int32) → (Nat → Int64) → (Nat → Nat → Int32) → (Nat → Nat → Int64) → Prop) (C : zCx p s m ([.ref (ad 0)] : List Value).toArray meth c A G K prog_14_method_62_code (some .int) 9 "LassoFinderModel") (K52 : Int32 → Int32 → Int32 → (Nat → Int32) → (Nat → Int64) → (Nat → Nat → Int32) → (Nat → Nat → Int64) → Prop) (kh52 : ∀ (x1 : Int32) (x2 : Int32) (x3 : Int32) (I : Nat → Int32) (J : Nat → Int64) (B : Nat → Nat → Int32) (D : Nat → Nat → Int64) (ls : Array Slot) (H : Heap) (locs : List Loc), K52 x1 x2 x3 I J B D → lv_has ls 9 [(0, .ref (ad 0)), (1, .int x1), (2, .int x2), (3, .int x3)] → zW G A s.heap (wM ad K I J B D) H locs → W p l e { frames := 2, cells := 0, slots := 0, locals := 50 } s m ([.ref (ad 0)] : List Value).toArray below meth c H locs 0 0 (MQ below (va_Qi (fun (r : Int32) (u : zS) => Post r u.1 u.2.1 u.2.2.1 u.2.2.2) (fun u t => zPost G K A (wM ad K u.1 u.2.1 u.2.2.1 u.2.2.2) t) A) ([.ref (ad 0)] : List Value).toArray s 0 0 A) (F0 m 52 ls [])) : ∀ (x1 : Int32) (x2 : Int32) (x3 : Int32) (I : Nat → Int32) (J : Nat → Int64) (B : Nat → Nat → Int32) (D : Nat → Nat → Int64) (ls : Array Slot) (H : Heap) (locs : List Loc), wb_LassoFinderModel_stemOf_52  K52 Post x1 x2 x3 I J B D → lv_has ls 9 [(0, .ref (ad 0)), (1, .int x1), (2, .int x2), (3, .int x3)] → zW G A s.heap (wM ad K I J B D) H locs → W p l e { frames := 2, cells := 0, slots := 0, locals := 50 } s m ([.ref (ad 0)] : List Value).toArray below meth c H locs 0 0 (MQ below (va_Qi (fun (r : Int32) (u : zS) => Post r u.1 u.2.1 u.2.2.1 u.2.2.2) (fun u t => zPost G K A (wM ad K u.1 u.2.1 u.2.2.1 u.2.2.2) t) A) ([.ref (ad 0)] : List Value).toArray s 0 0 A) (F0 m 52 ls []) := by
  obtain ⟨hx, hb, hr, hml, hts, hown, hlocks, hA, hK⟩ := id C
  intro x1 x2 x3 I J B D ls H locs hok hl hw
  unfold wb_LassoFinderModel_stemOf_52 at hok
  refine lv_iload_n hx hb zd_LassoFinderModel_stemOf_52 rfl (lv_at hl 3 rfl) ?_
  refine lv_aload_n hx hb zd_LassoFinderModel_stemOf_53 rfl (lv_at hl 0 rfl) ?_
  refine z_get (v := .int (I 24)) hx hb hts hown hK hw zZ12 0 wM_g0 78 (by decide) zm_330 rfl zd_LassoFinderModel_stemOf_54 ?_
  refine lv_icmp_gt (tgt := 224) hx hb zd_LassoFinderModel_stemOf_57 (by decide) (fun hc27 => ?_) (fun hc27 => ?_)
  · have hok := hok.1 hc27
    refine lv_iload_n hx hb zd_LassoFinderModel_stemOf_224 rfl (lv_at hl 2 rfl) ?_
    exact (z_iret (u := (I, J, B, D)) hx hb hr hlocks rfl hw (List.range 58) wM_all wM_nd hok (Nat.le_of_ble_eq_true rfl) (Nat.le_of_ble_eq_true rfl) zd_LassoFinderModel_stemOf_225)
  · have hok := hok.2 hc27
    refine lv_iconst (v := (-1)) hx hb zd_LassoFinderModel_stemOf_60 (by decide) ?_
    refine lv_istore hx hb zd_LassoFinderModel_stemOf_61 hl (by decide) rfl (fun ls hl => ?_)
    have hl : lv_has ls 9 [(4, .int (-1)), (0, .ref (ad 0)), (1, .int x1), (2, .int x2), (3, .int x3)] := hl
    refine lv_iconst (v := 0) hx hb zd_LassoFinderModel_stemOf_63 (by decide) ?_
    refine lv_istore hx hb zd_LassoFinderModel_stemOf_64 hl (by decide) rfl (fun ls hl => ?_)
    have hl : lv_has ls 9 [(5, .int 0), (4, .int (-1)), (0, .ref (ad 0)), (1, .int x1), (2, .int x2), (3, .int x3)] := hl
    refine lv_aload_n hx hb zd_LassoFinderModel_stemOf_66 rfl (lv_at hl 2 rfl) ?_
    refine z_get (v := .ref (ad 32)) hx hb hts hown hK hw zZ12 0 wM_g0 48 (by decide) zm_266 rfl zd_LassoFinderModel_stemOf_67 ?_
    refine lv_iload_n hx hb zd_LassoFinderModel_stemOf_70 rfl (lv_at hl 3 rfl) ?_
    refine va_iald (f := (B 29)) hx hb hK hw.1 32 0 wM_a32 rfl hok.1 zd_LassoFinderModel_stemOf_71 ?_
    have hok := hok.2
    refine lv_topi (fun z28 ez28 => ?_)
    have hok := hok z28 ez28
    refine lv_istore hx hb zd_LassoFinderModel_stemOf_72 hl (by decide) rfl (fun ls hl => ?_)
    have hl : lv_has ls 9 [(6, .int z28), (5, .int 0), (4, .int (-1)), (0, .ref (ad 0)), (1, .int x1), (2, .int x2), (3, .int x3)] := hl
    obtain ⟨n9, hok⟩ := hok
    exact wL_LassoFinderModel_stemOf_74 G K ad  Post C K52 kh52 n9 x1 x2 x3 (-1) 0 z28 I J B D ls H locs hok (lv_sub hl [3, 4, 5, 6, 2, 1, 0] rfl) hw
theorem wL_LassoFinderModel_stemOf_52 {p : Program} {l : Launch} {e : Env} {s : State} {m : MethodId} {below : List Frame} {meth : Method} {c : Code} {A : Nat → Prop} (G : va_G) (K : Nat → ClassId) (ad : Nat → Nat) (Post : Int32 → (Nat → Int32) → (Nat → Int64) → (Nat → Nat → Int32) → (Nat → Nat → Int64) → Prop) (C : zCx p s m ([.ref (ad 0)] : List Value).toArray meth c A G K prog_14_method_62_code (some .int) 9 "LassoFinderModel") : ∀ (n : Nat) (x1 : Int32) (x2 : Int32) (x3 : Int32) (I : Nat → Int32) (J : Nat → Int64) (B : Nat → Nat → Int32) (D : Nat → Nat → Int64) (ls : Array Slot) (H : Heap) (locs : List Loc), wl_LassoFinderModel_stemOf_52  Post n x1 x2 x3 I J B D → lv_has ls 9 [(0, .ref (ad 0)), (1, .int x1), (2, .int x2), (3, .int x3)] → zW G A s.heap (wM ad K I J B D) H locs → W p l e { frames := 2, cells := 0, slots := 0, locals := 50 } s m ([.ref (ad 0)] : List Value).toArray below meth c H locs 0 0 (MQ below (va_Qi (fun (r : Int32) (u : zS) => Post r u.1 u.2.1 u.2.2.1 u.2.2.2) (fun u t => zPost G K A (wM ad K u.1 u.2.1 u.2.2.1 u.2.2.2) t) A) ([.ref (ad 0)] : List Value).toArray s 0 0 A) (F0 m 52 ls []) := by
  intro n
  induction n with
  | zero => intro x1 x2 x3 I J B D ls H locs hok; exact hok.elim
  | succ n ih => exact wB_LassoFinderModel_stemOf_52 G K ad  Post C (wl_LassoFinderModel_stemOf_52  Post n) ih
set_option maxHeartbeats 8000000 in
set_option maxRecDepth 100000 in
theorem wJ_LassoFinderModel_stemOf_42 {p : Program} {l : Launch} {e : Env} {s : State} {m : MethodId} {below : List Frame} {meth : Method} {c : Code} {A : Nat → Prop} (G : va_G) (K : Nat → ClassId) (ad : Nat → Nat) (Post : Int32 → (Nat → Int32) → (Nat → Int64) → (Nat → Nat → Int32) → (Nat → Nat → Int64) → Prop) (C : zCx p s m ([.ref (ad 0)] : List Value).toArray meth c A G K prog_14_method_62_code (some .int) 9 "LassoFinderModel") (K6 : Int32 → Int32 → Int32 → (Nat → Int32) → (Nat → Int64) → (Nat → Nat → Int32) → (Nat → Nat → Int64) → Prop) (kh6 : ∀ (x1 : Int32) (x2 : Int32) (x3 : Int32) (I : Nat → Int32) (J : Nat → Int64) (B : Nat → Nat → Int32) (D : Nat → Nat → Int64) (ls : Array Slot) (H : Heap) (locs : List Loc), K6 x1 x2 x3 I J B D → lv_has ls 9 [(0, .ref (ad 0)), (1, .int x1), (2, .int x2), (3, .int x3)] → zW G A s.heap (wM ad K I J B D) H locs → W p l e { frames := 2, cells := 0, slots := 0, locals := 50 } s m ([.ref (ad 0)] : List Value).toArray below meth c H locs 0 0 (MQ below (va_Qi (fun (r : Int32) (u : zS) => Post r u.1 u.2.1 u.2.2.1 u.2.2.2) (fun u t => zPost G K A (wM ad K u.1 u.2.1 u.2.2.1 u.2.2.2) t) A) ([.ref (ad 0)] : List Value).toArray s 0 0 A) (F0 m 6 ls [])) : ∀ (x1 : Int32) (x3 : Int32) (y0 : Int32) (y1 : Int32) (I : Nat → Int32) (J : Nat → Int64) (B : Nat → Nat → Int32) (D : Nat → Nat → Int64) (ls : Array Slot) (H : Heap) (locs : List Loc), wc_LassoFinderModel_stemOf_42  K6 Post x1 x3 y0 y1 I J B D → lv_has ls 9 [(0, .ref (ad 0)), (1, .int x1), (3, .int x3)] → zW G A s.heap (wM ad K I J B D) H locs → W p l e { frames := 2, cells := 0, slots := 0, locals := 50 } s m ([.ref (ad 0)] : List Value).toArray below meth c H locs 0 0 (MQ below (va_Qi (fun (r : Int32) (u : zS) => Post r u.1 u.2.1 u.2.2.1 u.2.2.2) (fun u t => zPost G K A (wM ad K u.1 u.2.1 u.2.2.1 u.2.2.2) t) A) ([.ref (ad 0)] : List Value).toArray s 0 0 A) (F0 m 42 ls [.int y0, .int y1]) := by
  obtain ⟨hx, hb, hr, hml, hts, hown, hlocks, hA, hK⟩ := id C
  intro x1 x3 y0 y1 I J B D ls H locs hok hl hw
  unfold wc_LassoFinderModel_stemOf_42 at hok
  refine lv_ior hx hb zd_LassoFinderModel_stemOf_42 ?_
  refine lv_topi (fun z29 ez29 => ?_)
  have hok := hok z29 ez29
  refine lv_istore_n hx hb zd_LassoFinderModel_stemOf_43 rfl hl (by decide) rfl (fun ls hl => ?_)
  have hl : lv_has ls 9 [(2, .int z29), (0, .ref (ad 0)), (1, .int x1), (3, .int x3)] := hl
  obtain ⟨z30, ez30⟩ : ∃ z : Int32, z = (x3 + 1) := ⟨_, rfl⟩
  have hok := hok z30 ez30
  refine lv_iinc (v := z30) hx hb zd_LassoFinderModel_stemOf_44 hl (k := 3) rfl ez30.symm (by decide) rfl (fun ls hl => ?_)
  have hl : lv_has ls 9 [(3, .int z30), (2, .int z29), (0, .ref (ad 0)), (1, .int x1)] := hl
  refine lv_goto (tgt := 6) hx hb zd_LassoFinderModel_stemOf_47 (by decide) ?_
  exact kh6 x1 z29 z30 I J B D ls H locs hok (lv_sub hl [2, 3, 1, 0] rfl) hw
set_option maxHeartbeats 8000000 in
set_option maxRecDepth 100000 in
theorem wJ_LassoFinderModel_stemOf_41 {p : Program} {l : Launch} {e : Env} {s : State} {m : MethodId} {below : List Frame} {meth : Method} {c : Code} {A : Nat → Prop} (G : va_G) (K : Nat → ClassId) (ad : Nat → Nat) (Post : Int32 → (Nat → Int32) → (Nat → Int64) → (Nat → Nat → Int32) → (Nat → Nat → Int64) → Prop) (C : zCx p s m ([.ref (ad 0)] : List Value).toArray meth c A G K prog_14_method_62_code (some .int) 9 "LassoFinderModel") (K6 : Int32 → Int32 → Int32 → (Nat → Int32) → (Nat → Int64) → (Nat → Nat → Int32) → (Nat → Nat → Int64) → Prop) (kh6 : ∀ (x1 : Int32) (x2 : Int32) (x3 : Int32) (I : Nat → Int32) (J : Nat → Int64) (B : Nat → Nat → Int32) (D : Nat → Nat → Int64) (ls : Array Slot) (H : Heap) (locs : List Loc), K6 x1 x2 x3 I J B D → lv_has ls 9 [(0, .ref (ad 0)), (1, .int x1), (2, .int x2), (3, .int x3)] → zW G A s.heap (wM ad K I J B D) H locs → W p l e { frames := 2, cells := 0, slots := 0, locals := 50 } s m ([.ref (ad 0)] : List Value).toArray below meth c H locs 0 0 (MQ below (va_Qi (fun (r : Int32) (u : zS) => Post r u.1 u.2.1 u.2.2.1 u.2.2.2) (fun u t => zPost G K A (wM ad K u.1 u.2.1 u.2.2.1 u.2.2.2) t) A) ([.ref (ad 0)] : List Value).toArray s 0 0 A) (F0 m 6 ls [])) : ∀ (x1 : Int32) (x3 : Int32) (y0 : Int32) (I : Nat → Int32) (J : Nat → Int64) (B : Nat → Nat → Int32) (D : Nat → Nat → Int64) (ls : Array Slot) (H : Heap) (locs : List Loc), wc_LassoFinderModel_stemOf_41  K6 Post x1 x3 y0 I J B D → lv_has ls 9 [(0, .ref (ad 0)), (1, .int x1), (3, .int x3)] → zW G A s.heap (wM ad K I J B D) H locs → W p l e { frames := 2, cells := 0, slots := 0, locals := 50 } s m ([.ref (ad 0)] : List Value).toArray below meth c H locs 0 0 (MQ below (va_Qi (fun (r : Int32) (u : zS) => Post r u.1 u.2.1 u.2.2.1 u.2.2.2) (fun u t => zPost G K A (wM ad K u.1 u.2.1 u.2.2.1 u.2.2.2) t) A) ([.ref (ad 0)] : List Value).toArray s 0 0 A) (F0 m 41 ls [.int y0]) := by
  obtain ⟨hx, hb, hr, hml, hts, hown, hlocks, hA, hK⟩ := id C
  intro x1 x3 y0 I J B D ls H locs hok hl hw
  unfold wc_LassoFinderModel_stemOf_41 at hok
  refine lv_iconst (v := 0) hx hb zd_LassoFinderModel_stemOf_41 (by decide) ?_
  exact wJ_LassoFinderModel_stemOf_42 G K ad  Post C K6 kh6 x1 x3 0 y0 I J B D ls H locs hok (lv_sub hl [0, 1, 2] rfl) hw
set_option maxHeartbeats 8000000 in
set_option maxRecDepth 100000 in
theorem wB_LassoFinderModel_stemOf_6 {p : Program} {l : Launch} {e : Env} {s : State} {m : MethodId} {below : List Frame} {meth : Method} {c : Code} {A : Nat → Prop} (G : va_G) (K : Nat → ClassId) (ad : Nat → Nat) (Post : Int32 → (Nat → Int32) → (Nat → Int64) → (Nat → Nat → Int32) → (Nat → Nat → Int64) → Prop) (C : zCx p s m ([.ref (ad 0)] : List Value).toArray meth c A G K prog_14_method_62_code (some .int) 9 "LassoFinderModel") (K6 : Int32 → Int32 → Int32 → (Nat → Int32) → (Nat → Int64) → (Nat → Nat → Int32) → (Nat → Nat → Int64) → Prop) (kh6 : ∀ (x1 : Int32) (x2 : Int32) (x3 : Int32) (I : Nat → Int32) (J : Nat → Int64) (B : Nat → Nat → Int32) (D : Nat → Nat → Int64) (ls : Array Slot) (H : Heap) (locs : List Loc), K6 x1 x2 x3 I J B D → lv_has ls 9 [(0, .ref (ad 0)), (1, .int x1), (2, .int x2), (3, .int x3)] → zW G A s.heap (wM ad K I J B D) H locs → W p l e { frames := 2, cells := 0, slots := 0, locals := 50 } s m ([.ref (ad 0)] : List Value).toArray below meth c H locs 0 0 (MQ below (va_Qi (fun (r : Int32) (u : zS) => Post r u.1 u.2.1 u.2.2.1 u.2.2.2) (fun u t => zPost G K A (wM ad K u.1 u.2.1 u.2.2.1 u.2.2.2) t) A) ([.ref (ad 0)] : List Value).toArray s 0 0 A) (F0 m 6 ls [])) : ∀ (x1 : Int32) (x2 : Int32) (x3 : Int32) (I : Nat → Int32) (J : Nat → Int64) (B : Nat → Nat → Int32) (D : Nat → Nat → Int64) (ls : Array Slot) (H : Heap) (locs : List Loc), wb_LassoFinderModel_stemOf_6  K6 Post x1 x2 x3 I J B D → lv_has ls 9 [(0, .ref (ad 0)), (1, .int x1), (2, .int x2), (3, .int x3)] → zW G A s.heap (wM ad K I J B D) H locs → W p l e { frames := 2, cells := 0, slots := 0, locals := 50 } s m ([.ref (ad 0)] : List Value).toArray below meth c H locs 0 0 (MQ below (va_Qi (fun (r : Int32) (u : zS) => Post r u.1 u.2.1 u.2.2.1 u.2.2.2) (fun u t => zPost G K A (wM ad K u.1 u.2.1 u.2.2.1 u.2.2.2) t) A) ([.ref (ad 0)] : List Value).toArray s 0 0 A) (F0 m 6 ls []) := by
  obtain ⟨hx, hb, hr, hml, hts, hown, hlocks, hA, hK⟩ := id C
  intro x1 x2 x3 I J B D ls H locs hok hl hw
  unfold wb_LassoFinderModel_stemOf_6 at hok
  refine lv_iload_n hx hb zd_LassoFinderModel_stemOf_6 rfl (lv_at hl 3 rfl) ?_
  refine lv_iconst (v := 1) hx hb zd_LassoFinderModel_stemOf_7 (by decide) ?_
  refine lv_aload_n hx hb zd_LassoFinderModel_stemOf_8 rfl (lv_at hl 0 rfl) ?_
  refine z_get (v := .int (I 20)) hx hb hts hown hK hw zZ12 0 wM_g0 64 (by decide) zm_356 rfl zd_LassoFinderModel_stemOf_9 ?_
  refine lv_ishl hx hb zd_LassoFinderModel_stemOf_12 ?_
  refine lv_topi (fun z31 ez31 => ?_)
  have hok := hok z31 ez31
  refine lv_icmp_ge (tgt := 50) hx hb zd_LassoFinderModel_stemOf_13 (by decide) (fun hc32 => ?_) (fun hc32 => ?_)
  · have hok := hok.1 hc32
    refine lv_iconst (v := 1) hx hb zd_LassoFinderModel_stemOf_50 (by decide) ?_
    refine lv_istore_n hx hb zd_LassoFinderModel_stemOf_51 rfl hl (by decide) rfl (fun ls hl => ?_)
    have hl : lv_has ls 9 [(3, .int 1), (0, .ref (ad 0)), (1, .int x1), (2, .int x2)] := hl
    obtain ⟨n9, hok⟩ := hok
    exact wL_LassoFinderModel_stemOf_52 G K ad  Post C n9 x1 x2 1 I J B D ls H locs hok (lv_sub hl [1, 2, 3, 0] rfl) hw
  · have hok := hok.2 hc32
    refine lv_iload_n hx hb zd_LassoFinderModel_stemOf_16 rfl (lv_at hl 2 rfl) ?_
    refine lv_aload_n hx hb zd_LassoFinderModel_stemOf_17 rfl (lv_at hl 0 rfl) ?_
    refine z_get (v := .ref (ad 52)) hx hb hts hown hK hw zZ12 0 wM_g0 75 (by decide) zm_286 rfl zd_LassoFinderModel_stemOf_18 ?_
    refine lv_iload_n hx hb zd_LassoFinderModel_stemOf_21 rfl (lv_at hl 3 rfl) ?_
    refine va_iald (f := (B 49)) hx hb hK hw.1 52 0 wM_a52 rfl hok.1 zd_LassoFinderModel_stemOf_22 ?_
    have hok := hok.2
    refine lv_topi (fun z33 ez33 => ?_)
    have hok := hok z33 ez33
    refine lv_if_ne (tgt := 41) hx hb zd_LassoFinderModel_stemOf_23 (by decide) (fun hc34 => ?_) (fun hc34 => ?_)
    · have hok := hok.1 hc34
      exact wJ_LassoFinderModel_stemOf_41 G K ad  Post C K6 kh6 x1 x3 x2 I J B D ls H locs hok (lv_sub hl [0, 1, 3] rfl) hw
    · have hok := hok.2 hc34
      refine lv_aload_n hx hb zd_LassoFinderModel_stemOf_26 rfl (lv_at hl 0 rfl) ?_
      refine z_get (v := .ref (ad 53)) hx hb hts hown hK hw zZ12 0 wM_g0 76 (by decide) zm_287 rfl zd_LassoFinderModel_stemOf_27 ?_
      refine lv_iload_n hx hb zd_LassoFinderModel_stemOf_30 rfl (lv_at hl 3 rfl) ?_
      refine va_zald (f := (B 50)) hx hb hK hw.1 53 2 wM_a53 rfl hok.1 zd_LassoFinderModel_stemOf_31 ?_
      have hok := hok.2
      refine lv_topi (fun z35 ez35 => ?_)
      have hok := hok z35 ez35
      refine lv_if_eq (tgt := 41) hx hb zd_LassoFinderModel_stemOf_32 (by decide) (fun hc36 => ?_) (fun hc36 => ?_)
      · have hok := hok.1 hc36
        exact wJ_LassoFinderModel_stemOf_41 G K ad  Post C K6 kh6 x1 x3 x2 I J B D ls H locs hok (lv_sub hl [0, 1, 3] rfl) hw
      · have hok := hok.2 hc36
        refine lv_iconst (v := 1) hx hb zd_LassoFinderModel_stemOf_35 (by decide) ?_
        refine lv_iload_n hx hb zd_LassoFinderModel_stemOf_36 rfl (lv_at hl 3 rfl) ?_
        refine lv_ishl hx hb zd_LassoFinderModel_stemOf_37 ?_
        refine lv_topi (fun z37 ez37 => ?_)
        have hok := hok z37 ez37
        refine lv_goto (tgt := 42) hx hb zd_LassoFinderModel_stemOf_38 (by decide) ?_
        exact wJ_LassoFinderModel_stemOf_42 G K ad  Post C K6 kh6 x1 x3 z37 x2 I J B D ls H locs hok (lv_sub hl [0, 1, 3] rfl) hw
theorem wL_LassoFinderModel_stemOf_6 {p : Program} {l : Launch} {e : Env} {s : State} {m : MethodId} {below : List Frame} {meth : Method} {c : Code} {A : Nat → Prop} (G : va_G) (K : Nat → ClassId) (ad : Nat → Nat) (Post : Int32 → (Nat → Int32) → (Nat → Int64) → (Nat → Nat → Int32) → (Nat → Nat → Int64) → Prop) (C : zCx p s m ([.ref (ad 0)] : List Value).toArray meth c A G K prog_14_method_62_code (some .int) 9 "LassoFinderModel") : ∀ (n : Nat) (x1 : Int32) (x2 : Int32) (x3 : Int32) (I : Nat → Int32) (J : Nat → Int64) (B : Nat → Nat → Int32) (D : Nat → Nat → Int64) (ls : Array Slot) (H : Heap) (locs : List Loc), wl_LassoFinderModel_stemOf_6  Post n x1 x2 x3 I J B D → lv_has ls 9 [(0, .ref (ad 0)), (1, .int x1), (2, .int x2), (3, .int x3)] → zW G A s.heap (wM ad K I J B D) H locs → W p l e { frames := 2, cells := 0, slots := 0, locals := 50 } s m ([.ref (ad 0)] : List Value).toArray below meth c H locs 0 0 (MQ below (va_Qi (fun (r : Int32) (u : zS) => Post r u.1 u.2.1 u.2.2.1 u.2.2.2) (fun u t => zPost G K A (wM ad K u.1 u.2.1 u.2.2.1 u.2.2.2) t) A) ([.ref (ad 0)] : List Value).toArray s 0 0 A) (F0 m 6 ls []) := by
  intro n
  induction n with
  | zero => intro x1 x2 x3 I J B D ls H locs hok; exact hok.elim
  | succ n ih => exact wB_LassoFinderModel_stemOf_6 G K ad  Post C (wl_LassoFinderModel_stemOf_6  Post n) ih
set_option maxHeartbeats 8000000 in
set_option maxRecDepth 100000 in
theorem w_LassoFinderModel_stemOf (l : Launch) (G : va_G) (K : Nat → ClassId) (ad : Nat → Nat) (I : Nat → Int32) (J : Nat → Int64) (B : Nat → Nat → Int32) (D : Nat → Nat → Int64) (Post : Int32 → (Nat → Int32) → (Nat → Int64) → (Nat → Nat → Int32) → (Nat → Nat → Int64) → Prop) (sz : Nat) (hok : wp_LassoFinderModel_stemOf I J B D  Post) : Met l zy_LassoFinderModel_stemOf (Cond.code zy_LassoFinderModel_stemOf prog_14_method_62_code 9 (some .int) :: zTB) { frames := 2, cells := 0, slots := 0, locals := 50 } (va_Pc [.ref (ad 0)] (zPre G K (wM ad K I J B D) sz)) (va_Qi (fun (r : Int32) (u : zS) => Post r u.1 u.2.1 u.2.2.1 u.2.2.2) (fun u t => zPost G K (va_A (wM ad K I J B D) sz) (wM ad K u.1 u.2.1 u.2.2.1 u.2.2.2) t) (va_A (wM ad K I J B D) sz)) 0 0 (va_A (wM ad K I J B D) sz) := by
  refine zMet (y := zy_LassoFinderModel_stemOf) (av := [.ref (ad 0)]) (maxL := 9) (cc := prog_14_method_62_code) (ret := (some .int)) (W0 := (wM ad K I J B D)) (sz := sz) (G := G) (K := K) (wt := zTB) (mc := 0) (ms := 0) (Qf := fun A => va_Qi (fun (r : Int32) (u : zS) => Post r u.1 u.2.1 u.2.2.1 u.2.2.2) (fun u t => zPost G K A (wM ad K u.1 u.2.1 u.2.2.1 u.2.2.2) t) A) (by decide) (Nat.le_of_ble_eq_true rfl) ?_
  intro p e s m below meth c ls A hx hb hr hml hts hown hlocks hin hA hK H locs hw hsz hl
  clear hsz
  have hown : s.vm.findClass "LassoFinderModel" = some m.cls := hown
  have C : zCx p s m ([.ref (ad 0)] : List Value).toArray meth c A G K prog_14_method_62_code (some .int) 9 "LassoFinderModel" := ⟨hx, hb, hr, hml, hts, hown, hlocks, hA, hK⟩
  have hl : lv_has ls 9 [(0, .ref (ad 0))] := hl
  have hw : zW G A s.heap (wM ad K I J B D) H locs := hw
  unfold wp_LassoFinderModel_stemOf at hok
  refine lv_iconst (v := 0) hx hb zd_LassoFinderModel_stemOf_0 (by decide) ?_
  refine lv_istore_n hx hb zd_LassoFinderModel_stemOf_1 rfl hl (by decide) rfl (fun ls hl => ?_)
  have hl : lv_has ls 9 [(1, .int 0), (0, .ref (ad 0))] := hl
  refine lv_iconst (v := 0) hx hb zd_LassoFinderModel_stemOf_2 (by decide) ?_
  refine lv_istore_n hx hb zd_LassoFinderModel_stemOf_3 rfl hl (by decide) rfl (fun ls hl => ?_)
  have hl : lv_has ls 9 [(2, .int 0), (1, .int 0), (0, .ref (ad 0))] := hl
  refine lv_iconst (v := 0) hx hb zd_LassoFinderModel_stemOf_4 (by decide) ?_
  refine lv_istore_n hx hb zd_LassoFinderModel_stemOf_5 rfl hl (by decide) rfl (fun ls hl => ?_)
  have hl : lv_has ls 9 [(3, .int 0), (2, .int 0), (1, .int 0), (0, .ref (ad 0))] := hl
  obtain ⟨n9, hok⟩ := hok
  exact wL_LassoFinderModel_stemOf_6 G K ad  Post C n9 0 0 0 I J B D ls H locs hok (lv_sub hl [3, 2, 1, 0] rfl) hw
def wc_LassoFinderModel_verify_170 (K84 : Int32 → Int32 → Int32 → (Nat → Int32) → (Nat → Int64) → (Nat → Nat → Int32) → (Nat → Nat → Int64) → Prop) (Post : Int32 → (Nat → Int32) → (Nat → Int64) → (Nat → Nat → Int32) → (Nat → Nat → Int64) → Prop) (x1 : Int32) (x2 : Int32) (x3 : Int32) (I : Nat → Int32) (J : Nat → Int64) (B : Nat → Nat → Int32) (D : Nat → Nat → Int64) : Prop :=
  ∀ z1 : Int32, z1 = (x3 + 1) → K84 x1 x2 z1 I J B D
def wb_LassoFinderModel_verify_128 (K128 : Int32 → Int32 → Int32 → Int32 → Int32 → (Nat → Int32) → (Nat → Int64) → (Nat → Nat → Int32) → (Nat → Nat → Int64) → Prop) (K84 : Int32 → Int32 → Int32 → (Nat → Int32) → (Nat → Int64) → (Nat → Nat → Int32) → (Nat → Nat → Int64) → Prop) (Post : Int32 → (Nat → Int32) → (Nat → Int64) → (Nat → Nat → Int32) → (Nat → Nat → Int64) → Prop) (x1 : Int32) (x2 : Int32) (x3 : Int32) (x4 : Int32) (x5 : Int32) (I : Nat → Int32) (J : Nat → Int64) (B : Nat → Nat → Int32) (D : Nat → Nat → Int64) : Prop :=
  ((x4 ≤ x5 → wc_LassoFinderModel_verify_170  K84 Post x1 x2 x3 (upd I 25 x4) J B D) ∧ (¬ x4 ≤ x5 → ∀ z3 : Int32, z3 = ((I 24) + x5) → wp_LassoFinderModel_stepOf_ad56 I J B D x5 (fun r4 I4 J4 B4 D4 => wp_LassoFinderModel_keep_ad55 I4 J4 B4 D4 z3 r4 (fun I5 J5 B5 D5 => ∀ z6 : Int32, z6 = (x5 + 1) → K128 x1 x2 x3 x4 z6 I5 J5 B5 D5))))
def wl_LassoFinderModel_verify_128 (K84 : Int32 → Int32 → Int32 → (Nat → Int32) → (Nat → Int64) → (Nat → Nat → Int32) → (Nat → Nat → Int64) → Prop) (Post : Int32 → (Nat → Int32) → (Nat → Int64) → (Nat → Nat → Int32) → (Nat → Nat → Int64) → Prop) (n : Nat) : Int32 → Int32 → Int32 → Int32 → Int32 → (Nat → Int32) → (Nat → Int64) → (Nat → Nat → Int32) → (Nat → Nat → Int64) → Prop := Nat.rec (fun _ _ _ _ _ _ _ _ _ => False) (fun _ r => wb_LassoFinderModel_verify_128  r K84 Post) n
def wb_LassoFinderModel_verify_84 (K84 : Int32 → Int32 → Int32 → (Nat → Int32) → (Nat → Int64) → (Nat → Nat → Int32) → (Nat → Nat → Int64) → Prop) (Post : Int32 → (Nat → Int32) → (Nat → Int64) → (Nat → Nat → Int32) → (Nat → Nat → Int64) → Prop) (x1 : Int32) (x2 : Int32) (x3 : Int32) (I : Nat → Int32) (J : Nat → Int64) (B : Nat → Nat → Int32) (D : Nat → Nat → Int64) : Prop :=
  ∀ z7 : Int32, z7 = (1 <<< ((I 20) &&& 31)) → ((z7 ≤ x3 → Post 0 I J B D) ∧ (¬ z7 ≤ x3 → ∀ z9 : Int32, z9 = (x1 >>> (x3 &&& 31)) → ∀ z10 : Int32, z10 = (z9 &&& 1) → ((¬ z10 = 0 → wp_LassoFinderModel_round I J B D x2 x3 (fun r12 I12 J12 B12 D12 => wp_LassoFinderModel_sooner I12 J12 B12 D12 r12 (fun r13 I13 J13 B13 D13 => ((¬ r13 = 0 → ∃ n : Nat, wl_LassoFinderModel_verify_128  K84 Post n x1 x2 x3 r12 0 I13 J13 B13 D13) ∧ (r13 = 0 → wc_LassoFinderModel_verify_170  K84 Post x1 x2 x3 I13 J13 B13 D13))))) ∧ (z10 = 0 → wc_LassoFinderModel_verify_170  K84 Post x1 x2 x3 I J B D))))
def wl_LassoFinderModel_verify_84 (Post : Int32 → (Nat → Int32) → (Nat → Int64) → (Nat → Nat → Int32) → (Nat → Nat → Int64) → Prop) (n : Nat) : Int32 → Int32 → Int32 → (Nat → Int32) → (Nat → Int64) → (Nat → Nat → Int32) → (Nat → Nat → Int64) → Prop := Nat.rec (fun _ _ _ _ _ _ _ => False) (fun _ r => wb_LassoFinderModel_verify_84  r Post) n
def wc_LassoFinderModel_verify_81 (Post : Int32 → (Nat → Int32) → (Nat → Int64) → (Nat → Nat → Int32) → (Nat → Nat → Int64) → Prop) (x1 : Int32) (y0 : Int32) (I : Nat → Int32) (J : Nat → Int64) (B : Nat → Nat → Int32) (D : Nat → Nat → Int64) : Prop :=
  ∃ n : Nat, wl_LassoFinderModel_verify_84  Post n x1 y0 0 I J B D
def wc_LassoFinderModel_verify_13 (Post : Int32 → (Nat → Int32) → (Nat → Int64) → (Nat → Nat → Int32) → (Nat → Nat → Int64) → Prop) (y0 : Int32) (I : Nat → Int32) (J : Nat → Int64) (B : Nat → Nat → Int32) (D : Nat → Nat → Int64) : Prop :=
  ((¬ (I 18) = 0 → wp_LassoFinderModel_shortest (upd (upd I 0 y0) 25 0) J B D  (fun r16 I16 J16 B16 D16 => (((0 : Int32) ≤ r16 → wp_LassoFinderModel_stemOf (upd I16 24 r16) J16 B16 D16  (fun r18 I18 J18 B18 D18 => (((I18 24) ≤ 0 → wc_LassoFinderModel_verify_81  Post r18 0 I18 J18 B18 D18) ∧ (¬ (I18 24) ≤ 0 → ∀ z20 : Int32, z20 = ((I18 24) - 1) → wp_LassoFinderModel_stepOf_ad55 I18 J18 B18 D18 z20 (fun r21 I21 J21 B21 D21 => vp_in r21 401 ∧ ∀ z22 : Int32, z22 = ((B21 30) r21.toNatClampNeg) → wc_LassoFinderModel_verify_81  Post r18 z22 I21 J21 B21 D21))))) ∧ (¬ (0 : Int32) ≤ r16 → Post 1 (upd I16 24 r16) J16 B16 D16)))) ∧ ((I 18) = 0 → Post 0 (upd I 0 y0) J B D))
def wp_LassoFinderModel_verify (I : Nat → Int32) (J : Nat → Int64) (B : Nat → Nat → Int32) (D : Nat → Nat → Int64) (Post : Int32 → (Nat → Int32) → (Nat → Int64) → (Nat → Nat → Int32) → (Nat → Nat → Int64) → Prop) : Prop :=
  (((I 18) = 0 → wc_LassoFinderModel_verify_13  Post 1 I J B D) ∧ (¬ (I 18) = 0 → wc_LassoFinderModel_verify_13  Post 0 I J B D))
set_option maxHeartbeats 8000000 in
set_option maxRecDepth 100000 in
theorem wJ_LassoFinderModel_verify_170 {p : Program} {l : Launch} {e : Env} {s : State} {m : MethodId} {below : List Frame} {meth : Method} {c : Code} {A : Nat → Prop} (G : va_G) (K : Nat → ClassId) (ad : Nat → Nat) (Post : Int32 → (Nat → Int32) → (Nat → Int64) → (Nat → Nat → Int32) → (Nat → Nat → Int64) → Prop) (C : zCx p s m ([.ref (ad 0)] : List Value).toArray meth c A G K prog_14_method_66_code (some .boolean) 6 "LassoFinderModel") (K84 : Int32 → Int32 → Int32 → (Nat → Int32) → (Nat → Int64) → (Nat → Nat → Int32) → (Nat → Nat → Int64) → Prop) (kh84 : ∀ (x1 : Int32) (x2 : Int32) (x3 : Int32) (I : Nat → Int32) (J : Nat → Int64) (B : Nat → Nat → Int32) (D : Nat → Nat → Int64) (ls : Array Slot) (H : Heap) (locs : List Loc), K84 x1 x2 x3 I J B D → lv_has ls 6 [(0, .ref (ad 0)), (1, .int x1), (2, .int x2), (3, .int x3)] → zW G A s.heap (wM ad K I J B D) H locs → W p l e { frames := 5, cells := 0, slots := 0, locals := 143 } s m ([.ref (ad 0)] : List Value).toArray below meth c H locs 0 0 (MQ below (va_Qi (fun (r : Int32) (u : zS) => Post r u.1 u.2.1 u.2.2.1 u.2.2.2) (fun u t => zPost G K A (wM ad K u.1 u.2.1 u.2.2.1 u.2.2.2) t) A) ([.ref (ad 0)] : List Value).toArray s 0 0 A) (F0 m 84 ls [])) : ∀ (x1 : Int32) (x2 : Int32) (x3 : Int32) (I : Nat → Int32) (J : Nat → Int64) (B : Nat → Nat → Int32) (D : Nat → Nat → Int64) (ls : Array Slot) (H : Heap) (locs : List Loc), wc_LassoFinderModel_verify_170  K84 Post x1 x2 x3 I J B D → lv_has ls 6 [(0, .ref (ad 0)), (1, .int x1), (2, .int x2), (3, .int x3)] → zW G A s.heap (wM ad K I J B D) H locs → W p l e { frames := 5, cells := 0, slots := 0, locals := 143 } s m ([.ref (ad 0)] : List Value).toArray below meth c H locs 0 0 (MQ below (va_Qi (fun (r : Int32) (u : zS) => Post r u.1 u.2.1 u.2.2.1 u.2.2.2) (fun u t => zPost G K A (wM ad K u.1 u.2.1 u.2.2.1 u.2.2.2) t) A) ([.ref (ad 0)] : List Value).toArray s 0 0 A) (F0 m 170 ls []) := by
  obtain ⟨hx, hb, hr, hml, hts, hown, hlocks, hA, hK⟩ := id C
  intro x1 x2 x3 I J B D ls H locs hok hl hw
  unfold wc_LassoFinderModel_verify_170 at hok
  obtain ⟨z1, ez1⟩ : ∃ z : Int32, z = (x3 + 1) := ⟨_, rfl⟩
  have hok := hok z1 ez1
  refine lv_iinc (v := z1) hx hb zd_LassoFinderModel_verify_170 hl (k := 3) rfl ez1.symm (by decide) rfl (fun ls hl => ?_)
  have hl : lv_has ls 6 [(3, .int z1), (0, .ref (ad 0)), (1, .int x1), (2, .int x2)] := hl
  refine lv_goto (tgt := 84) hx hb zd_LassoFinderModel_verify_173 (by decide) ?_
  exact kh84 x1 x2 z1 I J B D ls H locs hok (lv_sub hl [1, 2, 3, 0] rfl) hw
set_option maxHeartbeats 8000000 in
set_option maxRecDepth 100000 in
theorem wB_LassoFinderModel_verify_128 {p : Program} {l : Launch} {e : Env} {s : State} {m : MethodId} {below : List Frame} {meth : Method} {c : Code} {A : Nat → Prop} (G : va_G) (K : Nat → ClassId) (ad : Nat → Nat) (Post : Int32 → (Nat → Int32) → (Nat → Int64) → (Nat → Nat → Int32) → (Nat → Nat → Int64) → Prop) (C : zCx p s m ([.ref (ad 0)] : List Value).toArray meth c A G K prog_14_method_66_code (some .boolean) 6 "LassoFinderModel") (K84 : Int32 → Int32 → Int32 → (Nat → Int32) → (Nat → Int64) → (Nat → Nat → Int32) → (Nat → Nat → Int64) → Prop) (kh84 : ∀ (x1 : Int32) (x2 : Int32) (x3 : Int32) (I : Nat → Int32) (J : Nat → Int64) (B : Nat → Nat → Int32) (D : Nat → Nat → Int64) (ls : Array Slot) (H : Heap) (locs : List Loc), K84 x1 x2 x3 I J B D → lv_has ls 6 [(0, .ref (ad 0)), (1, .int x1), (2, .int x2), (3, .int x3)] → zW G A s.heap (wM ad K I J B D) H locs → W p l e { frames := 5, cells := 0, slots := 0, locals := 143 } s m ([.ref (ad 0)] : List Value).toArray below meth c H locs 0 0 (MQ below (va_Qi (fun (r : Int32) (u : zS) => Post r u.1 u.2.1 u.2.2.1 u.2.2.2) (fun u t => zPost G K A (wM ad K u.1 u.2.1 u.2.2.1 u.2.2.2) t) A) ([.ref (ad 0)] : List Value).toArray s 0 0 A) (F0 m 84 ls [])) (K128 : Int32 → Int32 → Int32 → Int32 → Int32 → (Nat → Int32) → (Nat → Int64) → (Nat → Nat → Int32) → (Nat → Nat → Int64) → Prop) (kh128 : ∀ (x1 : Int32) (x2 : Int32) (x3 : Int32) (x4 : Int32) (x5 : Int32) (I : Nat → Int32) (J : Nat → Int64) (B : Nat → Nat → Int32) (D : Nat → Nat → Int64) (ls : Array Slot) (H : Heap) (locs : List Loc), K128 x1 x2 x3 x4 x5 I J B D → lv_has ls 6 [(0, .ref (ad 0)), (1, .int x1), (2, .int x2), (3, .int x3), (4, .int x4), (5, .int x5)] → zW G A s.heap (wM ad K I J B D) H locs → W p l e { frames := 5, cells := 0, slots := 0, locals := 143 } s m ([.ref (ad 0)] : List Value).toArray below meth c H locs 0 0 (MQ below (va_Qi (fun (r : Int32) (u : zS) => Post r u.1 u.2.1 u.2.2.1 u.2.2.2) (fun u t => zPost G K A (wM ad K u.1 u.2.1 u.2.2.1 u.2.2.2) t) A) ([.ref (ad 0)] : List Value).toArray s 0 0 A) (F0 m 128 ls [])) : ∀ (x1 : Int32) (x2 : Int32) (x3 : Int32) (x4 : Int32) (x5 : Int32) (I : Nat → Int32) (J : Nat → Int64) (B : Nat → Nat → Int32) (D : Nat → Nat → Int64) (ls : Array Slot) (H : Heap) (locs : List Loc), wb_LassoFinderModel_verify_128  K128 K84 Post x1 x2 x3 x4 x5 I J B D → lv_has ls 6 [(0, .ref (ad 0)), (1, .int x1), (2, .int x2), (3, .int x3), (4, .int x4), (5, .int x5)] → zW G A s.heap (wM ad K I J B D) H locs → W p l e { frames := 5, cells := 0, slots := 0, locals := 143 } s m ([.ref (ad 0)] : List Value).toArray below meth c H locs 0 0 (MQ below (va_Qi (fun (r : Int32) (u : zS) => Post r u.1 u.2.1 u.2.2.1 u.2.2.2) (fun u t => zPost G K A (wM ad K u.1 u.2.1 u.2.2.1 u.2.2.2) t) A) ([.ref (ad 0)] : List Value).toArray s 0 0 A) (F0 m 128 ls []) := by
  obtain ⟨hx, hb, hr, hml, hts, hown, hlocks, hA, hK⟩ := id C
  intro x1 x2 x3 x4 x5 I J B D ls H locs hok hl hw
  unfold wb_LassoFinderModel_verify_128 at hok
  refine lv_iload hx hb zd_LassoFinderModel_verify_128 (lv_at hl 5 rfl) ?_
  refine lv_iload hx hb zd_LassoFinderModel_verify_130 (lv_at hl 4 rfl) ?_
  refine lv_icmp_ge (tgt := 164) hx hb zd_LassoFinderModel_verify_132 (by decide) (fun hc2 => ?_) (fun hc2 => ?_)
  · have hok := hok.1 hc2
    refine lv_aload_n hx hb zd_LassoFinderModel_verify_164 rfl (lv_at hl 0 rfl) ?_
    refine lv_iload hx hb zd_LassoFinderModel_verify_165 (lv_at hl 4 rfl) ?_
    refine z_put (v := .int x4) hx hb hts hown hK hw zZ12 0 wM_g0 79 (by decide) zm_371 rfl rfl rfl (Nat.le_of_ble_eq_true rfl) zd_LassoFinderModel_verify_167 (fun H locs hw => ?_)
    have hw := wM_sI25 hw
    exact wJ_LassoFinderModel_verify_170 G K ad  Post C K84 kh84 x1 x2 x3 (upd I 25 x4) J B D ls H locs hok (lv_sub hl [0, 1, 2, 3] rfl) hw
  · have hok := hok.2 hc2
    refine lv_aload_n hx hb zd_LassoFinderModel_verify_135 rfl (lv_at hl 0 rfl) ?_
    refine z_get (v := .ref (ad 55)) hx hb hts hown hK hw zZ12 0 wM_g0 80 (by decide) zm_289 rfl zd_LassoFinderModel_verify_136 ?_
    refine lv_aload_n hx hb zd_LassoFinderModel_verify_139 rfl (lv_at hl 0 rfl) ?_
    refine z_get (v := .int (I 24)) hx hb hts hown hK hw zZ12 0 wM_g0 78 (by decide) zm_330 rfl zd_LassoFinderModel_verify_140 ?_
    refine lv_iload hx hb zd_LassoFinderModel_verify_143 (lv_at hl 5 rfl) ?_
    refine lv_iadd hx hb zd_LassoFinderModel_verify_145 ?_
    refine lv_topi (fun z3 ez3 => ?_)
    have hok := hok z3 ez3
    refine lv_aload_n hx hb zd_LassoFinderModel_verify_146 rfl (lv_at hl 0 rfl) ?_
    refine z_get (v := .ref (ad 56)) hx hb hts hown hK hw zZ12 0 wM_g0 81 (by decide) zm_290 rfl zd_LassoFinderModel_verify_147 ?_
    refine lv_iload hx hb zd_LassoFinderModel_verify_150 (lv_at hl 5 rfl) ?_
    refine z_calli (w1 := fun (u : zS) => wM ad K u.1 u.2.1 u.2.2.1 u.2.2.2) (wr := []) (z_runS (wc := (wM ad K I J B D)) (As := [.ref (ad 56), .int x5]) (rest := [.int z3, .ref (ad 55)]) ⟨hx, hb, hml, hown, hts⟩ (w_LassoFinderModel_stepOf_ad56 l G K ad I J B D x5 _ H.size hok) zf_LassoFinderModel_stepOf zm_367 ⟨Nat.le_of_ble_eq_true rfl, Nat.le_of_ble_eq_true rfl⟩ hK hw (List.range 58) wM_all wM_nd rfl hl.1 rfl (Nat.le_of_ble_eq_true rfl) zd_LassoFinderModel_verify_152 ⟨Nat.le_of_ble_eq_true rfl, Nat.le_of_ble_eq_true rfl⟩) hw hA (List.range 58) [] wM_all rfl (by decide) (fun i hi => by cases hi) (fun r4 u H locs hok hw => ?_)
    obtain ⟨I4, J4, B4, D4⟩ := u
    dsimp only at hok
    have hw : zW G A s.heap (wM ad K I4 J4 B4 D4) H locs := hw
    refine z_callv (w1 := fun (u : zS) => wM ad K u.1 u.2.1 u.2.2.1 u.2.2.2) (wr := []) (z_runS (wc := (wM ad K I4 J4 B4 D4)) (As := [.ref (ad 55), .int z3, .int r4]) (rest := []) ⟨hx, hb, hml, hown, hts⟩ (w_LassoFinderModel_keep_ad55 l G K ad I4 J4 B4 D4 z3 r4 _ H.size hok) zf_LassoFinderModel_keep zm_370 ⟨Nat.le_of_ble_eq_true rfl, Nat.le_of_ble_eq_true rfl⟩ hK hw (List.range 58) wM_all wM_nd rfl hl.1 rfl (Nat.le_of_ble_eq_true rfl) zd_LassoFinderModel_verify_155 ⟨Nat.le_of_ble_eq_true rfl, Nat.le_of_ble_eq_true rfl⟩) hw hA (List.range 58) [] wM_all rfl (by decide) (fun i hi => by cases hi) (fun u H locs hok hw => ?_)
    obtain ⟨I5, J5, B5, D5⟩ := u
    dsimp only at hok
    have hw : zW G A s.heap (wM ad K I5 J5 B5 D5) H locs := hw
    obtain ⟨z6, ez6⟩ : ∃ z : Int32, z = (x5 + 1) := ⟨_, rfl⟩
    have hok := hok z6 ez6
    refine lv_iinc (v := z6) hx hb zd_LassoFinderModel_verify_158 hl (k := 5) rfl ez6.symm (by decide) rfl (fun ls hl => ?_)
    have hl : lv_has ls 6 [(5, .int z6), (0, .ref (ad 0)), (1, .int x1), (2, .int x2), (3, .int x3), (4, .int x4)] := hl
    refine lv_goto (tgt := 128) hx hb zd_LassoFinderModel_verify_161 (by decide) ?_
    exact kh128 x1 x2 x3 x4 z6 I5 J5 B5 D5 ls H locs hok (lv_sub hl [1, 2, 3, 4, 5, 0] rfl) hw
theorem wL_LassoFinderModel_verify_128 {p : Program} {l : Launch} {e : Env} {s : State} {m : MethodId} {below : List Frame} {meth : Method} {c : Code} {A : Nat → Prop} (G : va_G) (K : Nat → ClassId) (ad : Nat → Nat) (Post : Int32 → (Nat → Int32) → (Nat → Int64) → (Nat → Nat → Int32) → (Nat → Nat → Int64) → Prop) (C : zCx p s m ([.ref (ad 0)] : List Value).toArray meth c A G K prog_14_method_66_code (some .boolean) 6 "LassoFinderModel") (K84 : Int32 → Int32 → Int32 → (Nat → Int32) → (Nat → Int64) → (Nat → Nat → Int32) → (Nat → Nat → Int64) → Prop) (kh84 : ∀ (x1 : Int32) (x2 : Int32) (x3 : Int32) (I : Nat → Int32) (J : Nat → Int64) (B : Nat → Nat → Int32) (D : Nat → Nat → Int64) (ls : Array Slot) (H : Heap) (locs : List Loc), K84 x1 x2 x3 I J B D → lv_has ls 6 [(0, .ref (ad 0)), (1, .int x1), (2, .int x2), (3, .int x3)] → zW G A s.heap (wM ad K I J B D) H locs → W p l e { frames := 5, cells := 0, slots := 0, locals := 143 } s m ([.ref (ad 0)] : List Value).toArray below meth c H locs 0 0 (MQ below (va_Qi (fun (r : Int32) (u : zS) => Post r u.1 u.2.1 u.2.2.1 u.2.2.2) (fun u t => zPost G K A (wM ad K u.1 u.2.1 u.2.2.1 u.2.2.2) t) A) ([.ref (ad 0)] : List Value).toArray s 0 0 A) (F0 m 84 ls [])) : ∀ (n : Nat) (x1 : Int32) (x2 : Int32) (x3 : Int32) (x4 : Int32) (x5 : Int32) (I : Nat → Int32) (J : Nat → Int64) (B : Nat → Nat → Int32) (D : Nat → Nat → Int64) (ls : Array Slot) (H : Heap) (locs : List Loc), wl_LassoFinderModel_verify_128  K84 Post n x1 x2 x3 x4 x5 I J B D → lv_has ls 6 [(0, .ref (ad 0)), (1, .int x1), (2, .int x2), (3, .int x3), (4, .int x4), (5, .int x5)] → zW G A s.heap (wM ad K I J B D) H locs → W p l e { frames := 5, cells := 0, slots := 0, locals := 143 } s m ([.ref (ad 0)] : List Value).toArray below meth c H locs 0 0 (MQ below (va_Qi (fun (r : Int32) (u : zS) => Post r u.1 u.2.1 u.2.2.1 u.2.2.2) (fun u t => zPost G K A (wM ad K u.1 u.2.1 u.2.2.1 u.2.2.2) t) A) ([.ref (ad 0)] : List Value).toArray s 0 0 A) (F0 m 128 ls []) := by
  intro n
  induction n with
  | zero => intro x1 x2 x3 x4 x5 I J B D ls H locs hok; exact hok.elim
  | succ n ih => exact wB_LassoFinderModel_verify_128 G K ad  Post C K84 kh84 (wl_LassoFinderModel_verify_128  K84 Post n) ih
set_option maxHeartbeats 8000000 in
set_option maxRecDepth 100000 in
theorem wB_LassoFinderModel_verify_84 {p : Program} {l : Launch} {e : Env} {s : State} {m : MethodId} {below : List Frame} {meth : Method} {c : Code} {A : Nat → Prop} (G : va_G) (K : Nat → ClassId) (ad : Nat → Nat) (Post : Int32 → (Nat → Int32) → (Nat → Int64) → (Nat → Nat → Int32) → (Nat → Nat → Int64) → Prop) (C : zCx p s m ([.ref (ad 0)] : List Value).toArray meth c A G K prog_14_method_66_code (some .boolean) 6 "LassoFinderModel") (K84 : Int32 → Int32 → Int32 → (Nat → Int32) → (Nat → Int64) → (Nat → Nat → Int32) → (Nat → Nat → Int64) → Prop) (kh84 : ∀ (x1 : Int32) (x2 : Int32) (x3 : Int32) (I : Nat → Int32) (J : Nat → Int64) (B : Nat → Nat → Int32) (D : Nat → Nat → Int64) (ls : Array Slot) (H : Heap) (locs : List Loc), K84 x1 x2 x3 I J B D → lv_has ls 6 [(0, .ref (ad 0)), (1, .int x1), (2, .int x2), (3, .int x3)] → zW G A s.heap (wM ad K I J B D) H locs → W p l e { frames := 5, cells := 0, slots := 0, locals := 143 } s m ([.ref (ad 0)] : List Value).toArray below meth c H locs 0 0 (MQ below (va_Qi (fun (r : Int32) (u : zS) => Post r u.1 u.2.1 u.2.2.1 u.2.2.2) (fun u t => zPost G K A (wM ad K u.1 u.2.1 u.2.2.1 u.2.2.2) t) A) ([.ref (ad 0)] : List Value).toArray s 0 0 A) (F0 m 84 ls [])) : ∀ (x1 : Int32) (x2 : Int32) (x3 : Int32) (I : Nat → Int32) (J : Nat → Int64) (B : Nat → Nat → Int32) (D : Nat → Nat → Int64) (ls : Array Slot) (H : Heap) (locs : List Loc), wb_LassoFinderModel_verify_84  K84 Post x1 x2 x3 I J B D → lv_has ls 6 [(0, .ref (ad 0)), (1, .int x1), (2, .int x2), (3, .int x3)] → zW G A s.heap (wM ad K I J B D) H locs → W p l e { frames := 5, cells := 0, slots := 0, locals := 143 } s m ([.ref (ad 0)] : List Value).toArray below meth c H locs 0 0 (MQ below (va_Qi (fun (r : Int32) (u : zS) => Post r u.1 u.2.1 u.2.2.1 u.2.2.2) (fun u t => zPost G K A (wM ad K u.1 u.2.1 u.2.2.1 u.2.2.2) t) A) ([.ref (ad 0)] : List Value).toArray s 0 0 A) (F0 m 84 ls []) := by
  obtain ⟨hx, hb, hr, hml, hts, hown, hlocks, hA, hK⟩ := id C
  intro x1 x2 x3 I J B D ls H locs hok hl hw
  unfold wb_LassoFinderModel_verify_84 at hok
  refine lv_iload_n hx hb zd_LassoFinderModel_verify_84 rfl (lv_at hl 3 rfl) ?_
  refine lv_iconst (v := 1) hx hb zd_LassoFinderModel_verify_85 (by decide) ?_
  refine lv_aload_n hx hb zd_LassoFinderModel_verify_86 rfl (lv_at hl 0 rfl) ?_
  refine z_get (v := .int (I 20)) hx hb hts hown hK hw zZ12 0 wM_g0 64 (by decide) zm_356 rfl zd_LassoFinderModel_verify_87 ?_
  refine lv_ishl hx hb zd_LassoFinderModel_verify_90 ?_
  refine lv_topi (fun z7 ez7 => ?_)
  have hok := hok z7 ez7
  refine lv_icmp_ge (tgt := 176) hx hb zd_LassoFinderModel_verify_91 (by decide) (fun hc8 => ?_) (fun hc8 => ?_)
  · have hok := hok.1 hc8
    refine lv_iconst (v := 0) hx hb zd_LassoFinderModel_verify_176 (by decide) ?_
    exact (z_iret (u := (I, J, B, D)) hx hb hr hlocks rfl hw (List.range 58) wM_all wM_nd hok (Nat.le_of_ble_eq_true rfl) (Nat.le_of_ble_eq_true rfl) zd_LassoFinderModel_verify_177)
  · have hok := hok.2 hc8
    refine lv_iload_n hx hb zd_LassoFinderModel_verify_94 rfl (lv_at hl 1 rfl) ?_
    refine lv_iload_n hx hb zd_LassoFinderModel_verify_95 rfl (lv_at hl 3 rfl) ?_
    refine lv_ishr hx hb zd_LassoFinderModel_verify_96 ?_
    refine lv_topi (fun z9 ez9 => ?_)
    have hok := hok z9 ez9
    refine lv_iconst (v := 1) hx hb zd_LassoFinderModel_verify_97 (by decide) ?_
    refine lv_iand hx hb zd_LassoFinderModel_verify_98 ?_
    refine lv_topi (fun z10 ez10 => ?_)
    have hok := hok z10 ez10
    refine lv_if_ne (tgt := 105) hx hb zd_LassoFinderModel_verify_99 (by decide) (fun hc11 => ?_) (fun hc11 => ?_)
    · have hok := hok.1 hc11
      refine lv_aload_n hx hb zd_LassoFinderModel_verify_105 rfl (lv_at hl 0 rfl) ?_
      refine lv_iload_n hx hb zd_LassoFinderModel_verify_106 rfl (lv_at hl 2 rfl) ?_
      refine lv_iload_n hx hb zd_LassoFinderModel_verify_107 rfl (lv_at hl 3 rfl) ?_
      refine z_calli (w1 := fun (u : zS) => wM ad K u.1 u.2.1 u.2.2.1 u.2.2.2) (wr := []) (z_runV (q0 := 0) (wc := (wM ad K I J B D)) (As := [.int x2, .int x3]) (rest := []) ⟨hx, hb, hml, hown, hts⟩ (w_LassoFinderModel_round l G K ad I J B D x2 x3 _ H.size hok) zf_LassoFinderModel_round zm_368 ⟨Nat.le_of_ble_eq_true rfl, Nat.le_of_ble_eq_true rfl⟩ hK hw (List.range 58) wM_all wM_nd wM_g0 rfl rfl hl.1 rfl (Nat.le_of_ble_eq_true rfl) zd_LassoFinderModel_verify_108 ⟨Nat.le_of_ble_eq_true rfl, Nat.le_of_ble_eq_true rfl⟩) hw hA (List.range 58) [] wM_all rfl (by decide) (fun i hi => by cases hi) (fun r12 u H locs hok hw => ?_)
      obtain ⟨I12, J12, B12, D12⟩ := u
      dsimp only at hok
      have hw : zW G A s.heap (wM ad K I12 J12 B12 D12) H locs := hw
      refine lv_istore hx hb zd_LassoFinderModel_verify_111 hl (by decide) rfl (fun ls hl => ?_)
      have hl : lv_has ls 6 [(4, .int r12), (0, .ref (ad 0)), (1, .int x1), (2, .int x2), (3, .int x3)] := hl
      refine lv_aload_n hx hb zd_LassoFinderModel_verify_113 rfl (lv_at hl 1 rfl) ?_
      refine lv_iload hx hb zd_LassoFinderModel_verify_114 (lv_at hl 0 rfl) ?_
      refine z_calli (w1 := fun (u : zS) => wM ad K u.1 u.2.1 u.2.2.1 u.2.2.2) (wr := []) (z_runV (q0 := 0) (wc := (wM ad K I12 J12 B12 D12)) (As := [.int r12]) (rest := []) ⟨hx, hb, hml, hown, hts⟩ (w_LassoFinderModel_sooner l G K ad I12 J12 B12 D12 r12 _ H.size hok) zf_LassoFinderModel_sooner zm_369 ⟨Nat.le_of_ble_eq_true rfl, Nat.le_of_ble_eq_true rfl⟩ hK hw (List.range 58) wM_all wM_nd wM_g0 rfl rfl hl.1 rfl (Nat.le_of_ble_eq_true rfl) zd_LassoFinderModel_verify_116 ⟨Nat.le_of_ble_eq_true rfl, Nat.le_of_ble_eq_true rfl⟩) hw hA (List.range 58) [] wM_all rfl (by decide) (fun i hi => by cases hi) (fun r13 u H locs hok hw => ?_)
      obtain ⟨I13, J13, B13, D13⟩ := u
      dsimp only at hok
      have hw : zW G A s.heap (wM ad K I13 J13 B13 D13) H locs := hw
      refine lv_if_ne (tgt := 125) hx hb zd_LassoFinderModel_verify_119 (by decide) (fun hc14 => ?_) (fun hc14 => ?_)
      · have hok := hok.1 hc14
        refine lv_iconst (v := 0) hx hb zd_LassoFinderModel_verify_125 (by decide) ?_
        refine lv_istore hx hb zd_LassoFinderModel_verify_126 hl (by decide) rfl (fun ls hl => ?_)
        have hl : lv_has ls 6 [(5, .int 0), (4, .int r12), (0, .ref (ad 0)), (1, .int x1), (2, .int x2), (3, .int x3)] := hl
        obtain ⟨n9, hok⟩ := hok
        exact wL_LassoFinderModel_verify_128 G K ad  Post C K84 kh84 n9 x1 x2 x3 r12 0 I13 J13 B13 D13 ls H locs hok (lv_sub hl [2, 3, 4, 5, 1, 0] rfl) hw
      · have hok := hok.2 hc14
        refine lv_goto (tgt := 170) hx hb zd_LassoFinderModel_verify_122 (by decide) ?_
        exact wJ_LassoFinderModel_verify_170 G K ad  Post C K84 kh84 x1 x2 x3 I13 J13 B13 D13 ls H locs hok (lv_sub hl [1, 2, 3, 4] rfl) hw
    · have hok := hok.2 hc11
      refine lv_goto (tgt := 170) hx hb zd_LassoFinderModel_verify_102 (by decide) ?_
      exact wJ_LassoFinderModel_verify_170 G K ad  Post C K84 kh84 x1 x2 x3 I J B D ls H locs hok (lv_sub hl [0, 1, 2, 3] rfl) hw
theorem wL_LassoFinderModel_verify_84 {p : Program} {l : Launch} {e : Env} {s : State} {m : MethodId} {below : List Frame} {meth : Method} {c : Code} {A : Nat → Prop} (G : va_G) (K : Nat → ClassId) (ad : Nat → Nat) (Post : Int32 → (Nat → Int32) → (Nat → Int64) → (Nat → Nat → Int32) → (Nat → Nat → Int64) → Prop) (C : zCx p s m ([.ref (ad 0)] : List Value).toArray meth c A G K prog_14_method_66_code (some .boolean) 6 "LassoFinderModel") : ∀ (n : Nat) (x1 : Int32) (x2 : Int32) (x3 : Int32) (I : Nat → Int32) (J : Nat → Int64) (B : Nat → Nat → Int32) (D : Nat → Nat → Int64) (ls : Array Slot) (H : Heap) (locs : List Loc), wl_LassoFinderModel_verify_84  Post n x1 x2 x3 I J B D → lv_has ls 6 [(0, .ref (ad 0)), (1, .int x1), (2, .int x2), (3, .int x3)] → zW G A s.heap (wM ad K I J B D) H locs → W p l e { frames := 5, cells := 0, slots := 0, locals := 143 } s m ([.ref (ad 0)] : List Value).toArray below meth c H locs 0 0 (MQ below (va_Qi (fun (r : Int32) (u : zS) => Post r u.1 u.2.1 u.2.2.1 u.2.2.2) (fun u t => zPost G K A (wM ad K u.1 u.2.1 u.2.2.1 u.2.2.2) t) A) ([.ref (ad 0)] : List Value).toArray s 0 0 A) (F0 m 84 ls []) := by
  intro n
  induction n with
  | zero => intro x1 x2 x3 I J B D ls H locs hok; exact hok.elim
  | succ n ih => exact wB_LassoFinderModel_verify_84 G K ad  Post C (wl_LassoFinderModel_verify_84  Post n) ih
set_option maxHeartbeats 8000000 in
set_option maxRecDepth 100000 in
theorem wJ_LassoFinderModel_verify_81 {p : Program} {l : Launch} {e : Env} {s : State} {m : MethodId} {below : List Frame} {meth : Method} {c : Code} {A : Nat → Prop} (G : va_G) (K : Nat → ClassId) (ad : Nat → Nat) (Post : Int32 → (Nat → Int32) → (Nat → Int64) → (Nat → Nat → Int32) → (Nat → Nat → Int64) → Prop) (C : zCx p s m ([.ref (ad 0)] : List Value).toArray meth c A G K prog_14_method_66_code (some .boolean) 6 "LassoFinderModel") : ∀ (x1 : Int32) (y0 : Int32) (I : Nat → Int32) (J : Nat → Int64) (B : Nat → Nat → Int32) (D : Nat → Nat → Int64) (ls : Array Slot) (H : Heap) (locs : List Loc), wc_LassoFinderModel_verify_81  Post x1 y0 I J B D → lv_has ls 6 [(0, .ref (ad 0)), (1, .int x1)] → zW G A s.heap (wM ad K I J B D) H locs → W p l e { frames := 5, cells := 0, slots := 0, locals := 143 } s m ([.ref (ad 0)] : List Value).toArray below meth c H locs 0 0 (MQ below (va_Qi (fun (r : Int32) (u : zS) => Post r u.1 u.2.1 u.2.2.1 u.2.2.2) (fun u t => zPost G K A (wM ad K u.1 u.2.1 u.2.2.1 u.2.2.2) t) A) ([.ref (ad 0)] : List Value).toArray s 0 0 A) (F0 m 81 ls [.int y0]) := by
  obtain ⟨hx, hb, hr, hml, hts, hown, hlocks, hA, hK⟩ := id C
  intro x1 y0 I J B D ls H locs hok hl hw
  unfold wc_LassoFinderModel_verify_81 at hok
  refine lv_istore_n hx hb zd_LassoFinderModel_verify_81 rfl hl (by decide) rfl (fun ls hl => ?_)
  have hl : lv_has ls 6 [(2, .int y0), (0, .ref (ad 0)), (1, .int x1)] := hl
  refine lv_iconst (v := 0) hx hb zd_LassoFinderModel_verify_82 (by decide) ?_
  refine lv_istore_n hx hb zd_LassoFinderModel_verify_83 rfl hl (by decide) rfl (fun ls hl => ?_)
  have hl : lv_has ls 6 [(3, .int 0), (2, .int y0), (0, .ref (ad 0)), (1, .int x1)] := hl
  obtain ⟨n9, hok⟩ := hok
  exact wL_LassoFinderModel_verify_84 G K ad  Post C n9 x1 y0 0 I J B D ls H locs hok (lv_sub hl [2, 3, 1, 0] rfl) hw
set_option maxHeartbeats 8000000 in
set_option maxRecDepth 100000 in
theorem wJ_LassoFinderModel_verify_13 {p : Program} {l : Launch} {e : Env} {s : State} {m : MethodId} {below : List Frame} {meth : Method} {c : Code} {A : Nat → Prop} (G : va_G) (K : Nat → ClassId) (ad : Nat → Nat) (Post : Int32 → (Nat → Int32) → (Nat → Int64) → (Nat → Nat → Int32) → (Nat → Nat → Int64) → Prop) (C : zCx p s m ([.ref (ad 0)] : List Value).toArray meth c A G K prog_14_method_66_code (some .boolean) 6 "LassoFinderModel") : ∀ (y0 : Int32) (I : Nat → Int32) (J : Nat → Int64) (B : Nat → Nat → Int32) (D : Nat → Nat → Int64) (ls : Array Slot) (H : Heap) (locs : List Loc), wc_LassoFinderModel_verify_13  Post y0 I J B D → lv_has ls 6 [(0, .ref (ad 0))] → zW G A s.heap (wM ad K I J B D) H locs → W p l e { frames := 5, cells := 0, slots := 0, locals := 143 } s m ([.ref (ad 0)] : List Value).toArray below meth c H locs 0 0 (MQ below (va_Qi (fun (r : Int32) (u : zS) => Post r u.1 u.2.1 u.2.2.1 u.2.2.2) (fun u t => zPost G K A (wM ad K u.1 u.2.1 u.2.2.1 u.2.2.2) t) A) ([.ref (ad 0)] : List Value).toArray s 0 0 A) (F0 m 13 ls [.int y0, .ref (ad 0)]) := by
  obtain ⟨hx, hb, hr, hml, hts, hown, hlocks, hA, hK⟩ := id C
  intro y0 I J B D ls H locs hok hl hw
  unfold wc_LassoFinderModel_verify_13 at hok
  refine z_put (v := .int y0) hx hb hts hown hK hw zZ12 0 wM_g0 0 (by decide) zm_292 rfl rfl rfl (Nat.le_of_ble_eq_true rfl) zd_LassoFinderModel_verify_13 (fun H locs hw => ?_)
  have hw := wM_sI0 hw
  refine lv_aload_n hx hb zd_LassoFinderModel_verify_16 rfl (lv_at hl 0 rfl) ?_
  refine z_get (v := .int (I 18)) hx hb hts hown hK hw zZ12 0 wM_g0 61 (by decide) zm_329 rfl zd_LassoFinderModel_verify_17 ?_
  refine lv_if_ne (tgt := 25) hx hb zd_LassoFinderModel_verify_20 (by decide) (fun hc15 => ?_) (fun hc15 => ?_)
  · have hok := hok.1 hc15
    refine lv_aload_n hx hb zd_LassoFinderModel_verify_25 rfl (lv_at hl 0 rfl) ?_
    refine lv_iconst (v := 0) hx hb zd_LassoFinderModel_verify_26 (by decide) ?_
    refine z_put (v := .int 0) hx hb hts hown hK hw zZ12 0 wM_g0 79 (by decide) zm_371 rfl rfl rfl (Nat.le_of_ble_eq_true rfl) zd_LassoFinderModel_verify_27 (fun H locs hw => ?_)
    have hw := wM_sI25 hw
    refine lv_aload_n hx hb zd_LassoFinderModel_verify_30 rfl (lv_at hl 0 rfl) ?_
    refine lv_aload_n hx hb zd_LassoFinderModel_verify_31 rfl (lv_at hl 0 rfl) ?_
    refine z_calli (w1 := fun (u : zS) => wM ad K u.1 u.2.1 u.2.2.1 u.2.2.2) (wr := []) (z_runV (q0 := 0) (wc := (wM ad K (upd (upd I 0 y0) 25 0) J B D)) (As := []) (rest := [.ref (ad 0)]) ⟨hx, hb, hml, hown, hts⟩ (w_LassoFinderModel_shortest l G K ad (upd (upd I 0 y0) 25 0) J B D  _ H.size hok) zf_LassoFinderModel_shortest zm_365 ⟨Nat.le_of_ble_eq_true rfl, Nat.le_of_ble_eq_true rfl⟩ hK hw (List.range 58) wM_all wM_nd wM_g0 rfl rfl hl.1 rfl (Nat.le_of_ble_eq_true rfl) zd_LassoFinderModel_verify_32 ⟨Nat.le_of_ble_eq_true rfl, Nat.le_of_ble_eq_true rfl⟩) hw hA (List.range 58) [] wM_all rfl (by decide) (fun i hi => by cases hi) (fun r16 u H locs hok hw => ?_)
    obtain ⟨I16, J16, B16, D16⟩ := u
    dsimp only at hok
    have hw : zW G A s.heap (wM ad K I16 J16 B16 D16) H locs := hw
    refine z_put (v := .int r16) hx hb hts hown hK hw zZ12 0 wM_g0 78 (by decide) zm_330 rfl rfl rfl (Nat.le_of_ble_eq_true rfl) zd_LassoFinderModel_verify_35 (fun H locs hw => ?_)
    have hw := wM_sI24 hw
    refine lv_aload_n hx hb zd_LassoFinderModel_verify_38 rfl (lv_at hl 0 rfl) ?_
    refine z_get (v := .int r16) hx hb hts hown hK hw zZ12 0 wM_g0 78 (by decide) zm_330 rfl zd_LassoFinderModel_verify_39 ?_
    refine lv_if_ge (tgt := 47) hx hb zd_LassoFinderModel_verify_42 (by decide) (fun hc17 => ?_) (fun hc17 => ?_)
    · have hok := hok.1 hc17
      refine lv_aload_n hx hb zd_LassoFinderModel_verify_47 rfl (lv_at hl 0 rfl) ?_
      refine z_calli (w1 := fun (u : zS) => wM ad K u.1 u.2.1 u.2.2.1 u.2.2.2) (wr := []) (z_runV (q0 := 0) (wc := (wM ad K (upd I16 24 r16) J16 B16 D16)) (As := []) (rest := []) ⟨hx, hb, hml, hown, hts⟩ (w_LassoFinderModel_stemOf l G K ad (upd I16 24 r16) J16 B16 D16  _ H.size hok) zf_LassoFinderModel_stemOf zm_366 ⟨Nat.le_of_ble_eq_true rfl, Nat.le_of_ble_eq_true rfl⟩ hK hw (List.range 58) wM_all wM_nd wM_g0 rfl rfl hl.1 rfl (Nat.le_of_ble_eq_true rfl) zd_LassoFinderModel_verify_48 ⟨Nat.le_of_ble_eq_true rfl, Nat.le_of_ble_eq_true rfl⟩) hw hA (List.range 58) [] wM_all rfl (by decide) (fun i hi => by cases hi) (fun r18 u H locs hok hw => ?_)
      obtain ⟨I18, J18, B18, D18⟩ := u
      dsimp only at hok
      have hw : zW G A s.heap (wM ad K I18 J18 B18 D18) H locs := hw
      refine lv_istore_n hx hb zd_LassoFinderModel_verify_51 rfl hl (by decide) rfl (fun ls hl => ?_)
      have hl : lv_has ls 6 [(1, .int r18), (0, .ref (ad 0))] := hl
      refine lv_aload_n hx hb zd_LassoFinderModel_verify_52 rfl (lv_at hl 1 rfl) ?_
      refine z_get (v := .int (I18 24)) hx hb hts hown hK hw zZ12 0 wM_g0 78 (by decide) zm_330 rfl zd_LassoFinderModel_verify_53 ?_
      refine lv_if_le (tgt := 80) hx hb zd_LassoFinderModel_verify_56 (by decide) (fun hc19 => ?_) (fun hc19 => ?_)
      · have hok := hok.1 hc19
        refine lv_iconst (v := 0) hx hb zd_LassoFinderModel_verify_80 (by decide) ?_
        exact wJ_LassoFinderModel_verify_81 G K ad  Post C r18 0 I18 J18 B18 D18 ls H locs hok (lv_sub hl [1, 0] rfl) hw
      · have hok := hok.2 hc19
        refine lv_aload_n hx hb zd_LassoFinderModel_verify_59 rfl (lv_at hl 1 rfl) ?_
        refine z_get (v := .ref (ad 33)) hx hb hts hown hK hw zZ12 0 wM_g0 49 (by decide) zm_267 rfl zd_LassoFinderModel_verify_60 ?_
        refine lv_aload_n hx hb zd_LassoFinderModel_verify_63 rfl (lv_at hl 1 rfl) ?_
        refine z_get (v := .ref (ad 55)) hx hb hts hown hK hw zZ12 0 wM_g0 80 (by decide) zm_289 rfl zd_LassoFinderModel_verify_64 ?_
        refine lv_aload_n hx hb zd_LassoFinderModel_verify_67 rfl (lv_at hl 1 rfl) ?_
        refine z_get (v := .int (I18 24)) hx hb hts hown hK hw zZ12 0 wM_g0 78 (by decide) zm_330 rfl zd_LassoFinderModel_verify_68 ?_
        refine lv_iconst (v := 1) hx hb zd_LassoFinderModel_verify_71 (by decide) ?_
        refine lv_isub hx hb zd_LassoFinderModel_verify_72 ?_
        refine lv_topi (fun z20 ez20 => ?_)
        have hok := hok z20 ez20
        refine z_calli (w1 := fun (u : zS) => wM ad K u.1 u.2.1 u.2.2.1 u.2.2.2) (wr := []) (z_runS (wc := (wM ad K I18 J18 B18 D18)) (As := [.ref (ad 55), .int z20]) (rest := [.ref (ad 33)]) ⟨hx, hb, hml, hown, hts⟩ (w_LassoFinderModel_stepOf_ad55 l G K ad I18 J18 B18 D18 z20 _ H.size hok) zf_LassoFinderModel_stepOf zm_367 ⟨Nat.le_of_ble_eq_true rfl, Nat.le_of_ble_eq_true rfl⟩ hK hw (List.range 58) wM_all wM_nd rfl hl.1 rfl (Nat.le_of_ble_eq_true rfl) zd_LassoFinderModel_verify_73 ⟨Nat.le_of_ble_eq_true rfl, Nat.le_of_ble_eq_true rfl⟩) hw hA (List.range 58) [] wM_all rfl (by decide) (fun i hi => by cases hi) (fun r21 u H locs hok hw => ?_)
        obtain ⟨I21, J21, B21, D21⟩ := u
        dsimp only at hok
        have hw : zW G A s.heap (wM ad K I21 J21 B21 D21) H locs := hw
        refine va_iald (f := (B21 30)) hx hb hK hw.1 33 0 wM_a33 rfl hok.1 zd_LassoFinderModel_verify_76 ?_
        have hok := hok.2
        refine lv_topi (fun z22 ez22 => ?_)
        have hok := hok z22 ez22
        refine lv_goto (tgt := 81) hx hb zd_LassoFinderModel_verify_77 (by decide) ?_
        exact wJ_LassoFinderModel_verify_81 G K ad  Post C r18 z22 I21 J21 B21 D21 ls H locs hok (lv_sub hl [1, 0] rfl) hw
    · have hok := hok.2 hc17
      refine lv_iconst (v := 1) hx hb zd_LassoFinderModel_verify_45 (by decide) ?_
      exact (z_iret (u := ((upd I16 24 r16), J16, B16, D16)) hx hb hr hlocks rfl hw (List.range 58) wM_all wM_nd hok (Nat.le_of_ble_eq_true rfl) (Nat.le_of_ble_eq_true rfl) zd_LassoFinderModel_verify_46)
  · have hok := hok.2 hc15
    refine lv_iconst (v := 0) hx hb zd_LassoFinderModel_verify_23 (by decide) ?_
    exact (z_iret (u := ((upd I 0 y0), J, B, D)) hx hb hr hlocks rfl hw (List.range 58) wM_all wM_nd hok (Nat.le_of_ble_eq_true rfl) (Nat.le_of_ble_eq_true rfl) zd_LassoFinderModel_verify_24)
set_option maxHeartbeats 8000000 in
set_option maxRecDepth 100000 in
theorem w_LassoFinderModel_verify (l : Launch) (G : va_G) (K : Nat → ClassId) (ad : Nat → Nat) (I : Nat → Int32) (J : Nat → Int64) (B : Nat → Nat → Int32) (D : Nat → Nat → Int64) (Post : Int32 → (Nat → Int32) → (Nat → Int64) → (Nat → Nat → Int32) → (Nat → Nat → Int64) → Prop) (sz : Nat) (hok : wp_LassoFinderModel_verify I J B D  Post) : Met l zy_LassoFinderModel_verify (Cond.code zy_LassoFinderModel_verify prog_14_method_66_code 6 (some .boolean) :: zTB) { frames := 5, cells := 0, slots := 0, locals := 143 } (va_Pc [.ref (ad 0)] (zPre G K (wM ad K I J B D) sz)) (va_Qi (fun (r : Int32) (u : zS) => Post r u.1 u.2.1 u.2.2.1 u.2.2.2) (fun u t => zPost G K (va_A (wM ad K I J B D) sz) (wM ad K u.1 u.2.1 u.2.2.1 u.2.2.2) t) (va_A (wM ad K I J B D) sz)) 0 0 (va_A (wM ad K I J B D) sz) := by
  refine zMet (y := zy_LassoFinderModel_verify) (av := [.ref (ad 0)]) (maxL := 6) (cc := prog_14_method_66_code) (ret := (some .boolean)) (W0 := (wM ad K I J B D)) (sz := sz) (G := G) (K := K) (wt := zTB) (mc := 0) (ms := 0) (Qf := fun A => va_Qi (fun (r : Int32) (u : zS) => Post r u.1 u.2.1 u.2.2.1 u.2.2.2) (fun u t => zPost G K A (wM ad K u.1 u.2.1 u.2.2.1 u.2.2.2) t) A) (by decide) (Nat.le_of_ble_eq_true rfl) ?_
  intro p e s m below meth c ls A hx hb hr hml hts hown hlocks hin hA hK H locs hw hsz hl
  clear hsz
  have hown : s.vm.findClass "LassoFinderModel" = some m.cls := hown
  have C : zCx p s m ([.ref (ad 0)] : List Value).toArray meth c A G K prog_14_method_66_code (some .boolean) 6 "LassoFinderModel" := ⟨hx, hb, hr, hml, hts, hown, hlocks, hA, hK⟩
  have hl : lv_has ls 6 [(0, .ref (ad 0))] := hl
  have hw : zW G A s.heap (wM ad K I J B D) H locs := hw
  unfold wp_LassoFinderModel_verify at hok
  refine lv_aload_n hx hb zd_LassoFinderModel_verify_0 rfl (lv_at hl 0 rfl) ?_
  refine lv_aload_n hx hb zd_LassoFinderModel_verify_1 rfl (lv_at hl 0 rfl) ?_
  refine z_get (v := .int (I 18)) hx hb hts hown hK hw zZ12 0 wM_g0 61 (by decide) zm_329 rfl zd_LassoFinderModel_verify_2 ?_
  refine lv_if_eq (tgt := 12) hx hb zd_LassoFinderModel_verify_5 (by decide) (fun hc23 => ?_) (fun hc23 => ?_)
  · have hok := hok.1 hc23
    refine lv_iconst (v := 1) hx hb zd_LassoFinderModel_verify_12 (by decide) ?_
    exact wJ_LassoFinderModel_verify_13 G K ad  Post C 1 I J B D ls H locs hok (lv_sub hl [0] rfl) hw
  · have hok := hok.2 hc23
    refine lv_iconst (v := 0) hx hb zd_LassoFinderModel_verify_8 (by decide) ?_
    refine lv_goto (tgt := 13) hx hb zd_LassoFinderModel_verify_9 (by decide) ?_
    exact wJ_LassoFinderModel_verify_13 G K ad  Post C 0 I J B D ls H locs hok (lv_sub hl [0] rfl) hw
