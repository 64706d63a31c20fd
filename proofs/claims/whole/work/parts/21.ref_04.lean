abbrev zy_LassoFinderModel_reach : MethodName := ⟨"LassoFinderModel", "reach", "()Z"⟩
abbrev zy_LassoFinderModel_expand : MethodName := ⟨"LassoFinderModel", "expand", "(I)V"⟩
theorem zm_238 : Cond.fieldLink "LassoFinderModel" 23 "LassoFinderModel" "initial" "[I" ∈ zTB := z_in (zt_6 _ (List.mem_of_getElem? (i := 105) rfl)) rfl
theorem zm_256 : Cond.fieldLink "LassoFinderModel" 78 "LassoFinderModel" "firstNode" "[I" ∈ zTB := z_in (zt_6 _ (List.mem_of_getElem? (i := 126) rfl)) rfl
theorem zm_266 : Cond.fieldLink "LassoFinderModel" 109 "LassoFinderModel" "first" "[I" ∈ zTB := z_in (zt_6 _ (List.mem_of_getElem? (i := 142) rfl)) rfl
theorem zm_271 : Cond.fieldLink "LassoFinderModel" 124 "LassoFinderModel" "firstInto" "[I" ∈ zTB := z_in (zt_6 _ (List.mem_of_getElem? (i := 147) rfl)) rfl
theorem zm_272 : Cond.fieldLink "LassoFinderModel" 127 "LassoFinderModel" "stepInto" "[I" ∈ zTB := z_in (zt_6 _ (List.mem_of_getElem? (i := 148) rfl)) rfl
theorem zm_313 : Cond.methodLink "LassoFinderModel" 355 ⟨"LassoFinderModel", "expand", "(I)V"⟩ ∈ zTB := z_in (zt_7 _ (List.mem_of_getElem? (i := 217) rfl)) rfl
theorem zm_316 : Cond.methodLink "LassoFinderModel" 348 ⟨"LassoFinderModel", "doable", "()J"⟩ ∈ zTB := z_in (zt_7 _ (List.mem_of_getElem? (i := 228) rfl)) rfl
theorem zm_317 : Cond.methodLink "LassoFinderModel" 351 ⟨"LassoFinderModel", "step", "(III)V"⟩ ∈ zTB := z_in (zt_8 _ (List.mem_of_getElem? (i := 8) rfl)) rfl
theorem zm_406 : Cond.code ⟨"LassoFinderModel", "step", "(III)V"⟩ prog_14_method_36_code 7 none ∈ zTB := z_in (zt_8 _ (List.mem_of_getElem? (i := 11) rfl)) rfl
theorem zm_407 : Cond.instanceMethod ⟨"LassoFinderModel", "step", "(III)V"⟩ ∈ zTB := z_in (zt_8 _ (List.mem_of_getElem? (i := 10) rfl)) rfl
theorem zm_408 : Cond.code ⟨"LassoFinderModel", "doable", "()J"⟩ prog_14_method_33_code 10 (some .long) ∈ zTB := z_in (zt_7 _ (List.mem_of_getElem? (i := 231) rfl)) rfl
theorem zm_409 : Cond.instanceMethod ⟨"LassoFinderModel", "doable", "()J"⟩ ∈ zTB := z_in (zt_7 _ (List.mem_of_getElem? (i := 230) rfl)) rfl
theorem zm_410 : Cond.code ⟨"LassoFinderModel", "expand", "(I)V"⟩ prog_14_method_37_code 8 none ∈ zTB := z_in (zt_7 _ (List.mem_of_getElem? (i := 220) rfl)) rfl
theorem zm_411 : Cond.instanceMethod ⟨"LassoFinderModel", "expand", "(I)V"⟩ ∈ zTB := z_in (zt_7 _ (List.mem_of_getElem? (i := 219) rfl)) rfl
theorem zf_LassoFinderModel_step : zFaceV zy_LassoFinderModel_step prog_14_method_36_code 7 none 3 := ⟨zm_407, (z_in (zp_7 _ (List.mem_of_getElem? (i := 6) rfl)) rfl), zm_25, zm_406, by decide +kernel, by decide +kernel, by decide +kernel⟩
theorem zf_LassoFinderModel_doable : zFaceV zy_LassoFinderModel_doable prog_14_method_33_code 10 (some .long) 0 := ⟨zm_409, (z_in (zp_7 _ (List.mem_of_getElem? (i := 1) rfl)) rfl), zm_25, zm_408, by decide +kernel, by decide +kernel, by decide +kernel⟩
theorem zf_LassoFinderModel_expand : zFaceV zy_LassoFinderModel_expand prog_14_method_37_code 8 none 1 := ⟨zm_411, (z_in (zp_6 _ (List.mem_of_getElem? (i := 15) rfl)) rfl), zm_25, zm_410, by decide +kernel, by decide +kernel, by decide +kernel⟩
theorem zd_LassoFinderModel_expand_0 : decode prog_14_method_37_code 0 = .ok (.aload_n 0, 1) := by decide +kernel
theorem zd_LassoFinderModel_expand_1 : decode prog_14_method_37_code 1 = .ok (.getfield 109, 3) := by decide +kernel
theorem zd_LassoFinderModel_expand_4 : decode prog_14_method_37_code 4 = .ok (.iload_n 1, 1) := by decide +kernel
theorem zd_LassoFinderModel_expand_5 : decode prog_14_method_37_code 5 = .ok (.aload_n 0, 1) := by decide +kernel
theorem zd_LassoFinderModel_expand_6 : decode prog_14_method_37_code 6 = .ok (.getfield 327, 3) := by decide +kernel
theorem zd_LassoFinderModel_expand_9 : decode prog_14_method_37_code 9 = .ok (.iastore, 1) := by decide +kernel
theorem zd_LassoFinderModel_expand_10 : decode prog_14_method_37_code 10 = .ok (.aload_n 0, 1) := by decide +kernel
theorem zd_LassoFinderModel_expand_11 : decode prog_14_method_37_code 11 = .ok (.aload_n 0, 1) := by decide +kernel
theorem zd_LassoFinderModel_expand_12 : decode prog_14_method_37_code 12 = .ok (.getfield 106, 3) := by decide +kernel
theorem zd_LassoFinderModel_expand_15 : decode prog_14_method_37_code 15 = .ok (.iload_n 1, 1) := by decide +kernel
theorem zd_LassoFinderModel_expand_16 : decode prog_14_method_37_code 16 = .ok (.laload, 1) := by decide +kernel
theorem zd_LassoFinderModel_expand_17 : decode prog_14_method_37_code 17 = .ok (.invokevirtual 334, 3) := by decide +kernel
theorem zd_LassoFinderModel_expand_20 : decode prog_14_method_37_code 20 = .ok (.aload_n 0, 1) := by decide +kernel
theorem zd_LassoFinderModel_expand_21 : decode prog_14_method_37_code 21 = .ok (.invokevirtual 348, 3) := by decide +kernel
theorem zd_LassoFinderModel_expand_24 : decode prog_14_method_37_code 24 = .ok (.lstore_n 2, 1) := by decide +kernel
theorem zd_LassoFinderModel_expand_25 : decode prog_14_method_37_code 25 = .ok (.iconst 0, 1) := by decide +kernel
theorem zd_LassoFinderModel_expand_26 : decode prog_14_method_37_code 26 = .ok (.istore 4, 2) := by decide +kernel
theorem zd_LassoFinderModel_expand_28 : decode prog_14_method_37_code 28 = .ok (.iload 4, 2) := by decide +kernel
theorem zd_LassoFinderModel_expand_30 : decode prog_14_method_37_code 30 = .ok (.aload_n 0, 1) := by decide +kernel
theorem zd_LassoFinderModel_expand_31 : decode prog_14_method_37_code 31 = .ok (.getfield 257, 3) := by decide +kernel
theorem zd_LassoFinderModel_expand_34 : decode prog_14_method_37_code 34 = .ok (.if_icmp .ge 145, 3) := by decide +kernel
theorem zd_LassoFinderModel_expand_37 : decode prog_14_method_37_code 37 = .ok (.aload_n 0, 1) := by decide +kernel
theorem zd_LassoFinderModel_expand_38 : decode prog_14_method_37_code 38 = .ok (.getfield 330, 3) := by decide +kernel
theorem zd_LassoFinderModel_expand_41 : decode prog_14_method_37_code 41 = .ok (.ifCond .ne 138, 3) := by decide +kernel
theorem zd_LassoFinderModel_expand_44 : decode prog_14_method_37_code 44 = .ok (.lload_n 2, 1) := by decide +kernel
theorem zd_LassoFinderModel_expand_45 : decode prog_14_method_37_code 45 = .ok (.iload 4, 2) := by decide +kernel
theorem zd_LassoFinderModel_expand_47 : decode prog_14_method_37_code 47 = .ok (.lshr, 1) := by decide +kernel
theorem zd_LassoFinderModel_expand_48 : decode prog_14_method_37_code 48 = .ok (.lconst 1, 1) := by decide +kernel
theorem zd_LassoFinderModel_expand_49 : decode prog_14_method_37_code 49 = .ok (.land, 1) := by decide +kernel
theorem zd_LassoFinderModel_expand_50 : decode prog_14_method_37_code 50 = .ok (.lconst 0, 1) := by decide +kernel
theorem zd_LassoFinderModel_expand_51 : decode prog_14_method_37_code 51 = .ok (.lcmp, 1) := by decide +kernel
theorem zd_LassoFinderModel_expand_52 : decode prog_14_method_37_code 52 = .ok (.ifCond .ne 6, 3) := by decide +kernel
theorem zd_LassoFinderModel_expand_55 : decode prog_14_method_37_code 55 = .ok (.goto 118, 3) := by decide +kernel
theorem zd_LassoFinderModel_expand_58 : decode prog_14_method_37_code 58 = .ok (.aload_n 0, 1) := by decide +kernel
theorem zd_LassoFinderModel_expand_59 : decode prog_14_method_37_code 59 = .ok (.getfield 69, 3) := by decide +kernel
theorem zd_LassoFinderModel_expand_62 : decode prog_14_method_37_code 62 = .ok (.iload 4, 2) := by decide +kernel
theorem zd_LassoFinderModel_expand_64 : decode prog_14_method_37_code 64 = .ok (.iaload, 1) := by decide +kernel
theorem zd_LassoFinderModel_expand_65 : decode prog_14_method_37_code 65 = .ok (.istore 5, 2) := by decide +kernel
theorem zd_LassoFinderModel_expand_67 : decode prog_14_method_37_code 67 = .ok (.aload_n 0, 1) := by decide +kernel
theorem zd_LassoFinderModel_expand_68 : decode prog_14_method_37_code 68 = .ok (.getfield 29, 3) := by decide +kernel
theorem zd_LassoFinderModel_expand_71 : decode prog_14_method_37_code 71 = .ok (.iload 5, 2) := by decide +kernel
theorem zd_LassoFinderModel_expand_73 : decode prog_14_method_37_code 73 = .ok (.iaload, 1) := by decide +kernel
theorem zd_LassoFinderModel_expand_74 : decode prog_14_method_37_code 74 = .ok (.iconst 2, 1) := by decide +kernel
theorem zd_LassoFinderModel_expand_75 : decode prog_14_method_37_code 75 = .ok (.if_icmp .ne 22, 3) := by decide +kernel
theorem zd_LassoFinderModel_expand_78 : decode prog_14_method_37_code 78 = .ok (.aload_n 0, 1) := by decide +kernel
theorem zd_LassoFinderModel_expand_79 : decode prog_14_method_37_code 79 = .ok (.getfield 26, 3) := by decide +kernel
theorem zd_LassoFinderModel_expand_82 : decode prog_14_method_37_code 82 = .ok (.aload_n 0, 1) := by decide +kernel
theorem zd_LassoFinderModel_expand_83 : decode prog_14_method_37_code 83 = .ok (.getfield 51, 3) := by decide +kernel
theorem zd_LassoFinderModel_expand_86 : decode prog_14_method_37_code 86 = .ok (.iload 5, 2) := by decide +kernel
theorem zd_LassoFinderModel_expand_88 : decode prog_14_method_37_code 88 = .ok (.iaload, 1) := by decide +kernel
theorem zd_LassoFinderModel_expand_89 : decode prog_14_method_37_code 89 = .ok (.iaload, 1) := by decide +kernel
theorem zd_LassoFinderModel_expand_90 : decode prog_14_method_37_code 90 = .ok (.ifCond .ne 7, 3) := by decide +kernel
theorem zd_LassoFinderModel_expand_93 : decode prog_14_method_37_code 93 = .ok (.iconst 1, 1) := by decide +kernel
theorem zd_LassoFinderModel_expand_94 : decode prog_14_method_37_code 94 = .ok (.goto 4, 3) := by decide +kernel
theorem zd_LassoFinderModel_expand_97 : decode prog_14_method_37_code 97 = .ok (.iconst 0, 1) := by decide +kernel
theorem zd_LassoFinderModel_expand_98 : decode prog_14_method_37_code 98 = .ok (.istore 6, 2) := by decide +kernel
theorem zd_LassoFinderModel_expand_100 : decode prog_14_method_37_code 100 = .ok (.iload 6, 2) := by decide +kernel
theorem zd_LassoFinderModel_expand_102 : decode prog_14_method_37_code 102 = .ok (.ifCond .ne 11, 3) := by decide +kernel
theorem zd_LassoFinderModel_expand_105 : decode prog_14_method_37_code 105 = .ok (.aload_n 0, 1) := by decide +kernel
theorem zd_LassoFinderModel_expand_106 : decode prog_14_method_37_code 106 = .ok (.iload_n 1, 1) := by decide +kernel
theorem zd_LassoFinderModel_expand_107 : decode prog_14_method_37_code 107 = .ok (.iload 4, 2) := by decide +kernel
theorem zd_LassoFinderModel_expand_109 : decode prog_14_method_37_code 109 = .ok (.iconst (-1), 1) := by decide +kernel
theorem zd_LassoFinderModel_expand_110 : decode prog_14_method_37_code 110 = .ok (.invokevirtual 351, 3) := by decide +kernel
theorem zd_LassoFinderModel_expand_113 : decode prog_14_method_37_code 113 = .ok (.iconst 0, 1) := by decide +kernel
theorem zd_LassoFinderModel_expand_114 : decode prog_14_method_37_code 114 = .ok (.istore 7, 2) := by decide +kernel
theorem zd_LassoFinderModel_expand_116 : decode prog_14_method_37_code 116 = .ok (.iload 7, 2) := by decide +kernel
theorem zd_LassoFinderModel_expand_118 : decode prog_14_method_37_code 118 = .ok (.aload_n 0, 1) := by decide +kernel
theorem zd_LassoFinderModel_expand_119 : decode prog_14_method_37_code 119 = .ok (.getfield 257, 3) := by decide +kernel
theorem zd_LassoFinderModel_expand_122 : decode prog_14_method_37_code 122 = .ok (.if_icmp .ge 51, 3) := by decide +kernel
theorem zd_LassoFinderModel_expand_125 : decode prog_14_method_37_code 125 = .ok (.iload 6, 2) := by decide +kernel
theorem zd_LassoFinderModel_expand_127 : decode prog_14_method_37_code 127 = .ok (.ifCond .eq 46, 3) := by decide +kernel
theorem zd_LassoFinderModel_expand_130 : decode prog_14_method_37_code 130 = .ok (.aload_n 0, 1) := by decide +kernel
theorem zd_LassoFinderModel_expand_131 : decode prog_14_method_37_code 131 = .ok (.getfield 330, 3) := by decide +kernel
theorem zd_LassoFinderModel_expand_134 : decode prog_14_method_37_code 134 = .ok (.ifCond .ne 39, 3) := by decide +kernel
theorem zd_LassoFinderModel_expand_137 : decode prog_14_method_37_code 137 = .ok (.aload_n 0, 1) := by decide +kernel
theorem zd_LassoFinderModel_expand_138 : decode prog_14_method_37_code 138 = .ok (.aload_n 0, 1) := by decide +kernel
theorem zd_LassoFinderModel_expand_139 : decode prog_14_method_37_code 139 = .ok (.getfield 106, 3) := by decide +kernel
theorem zd_LassoFinderModel_expand_142 : decode prog_14_method_37_code 142 = .ok (.iload_n 1, 1) := by decide +kernel
theorem zd_LassoFinderModel_expand_143 : decode prog_14_method_37_code 143 = .ok (.laload, 1) := by decide +kernel
theorem zd_LassoFinderModel_expand_144 : decode prog_14_method_37_code 144 = .ok (.invokevirtual 334, 3) := by decide +kernel
theorem zd_LassoFinderModel_expand_147 : decode prog_14_method_37_code 147 = .ok (.aload_n 0, 1) := by decide +kernel
theorem zd_LassoFinderModel_expand_148 : decode prog_14_method_37_code 148 = .ok (.iload 5, 2) := by decide +kernel
theorem zd_LassoFinderModel_expand_150 : decode prog_14_method_37_code 150 = .ok (.iload 7, 2) := by decide +kernel
theorem zd_LassoFinderModel_expand_152 : decode prog_14_method_37_code 152 = .ok (.invokevirtual 317, 3) := by decide +kernel
theorem zd_LassoFinderModel_expand_155 : decode prog_14_method_37_code 155 = .ok (.ifCond .eq 12, 3) := by decide +kernel
theorem zd_LassoFinderModel_expand_158 : decode prog_14_method_37_code 158 = .ok (.aload_n 0, 1) := by decide +kernel
theorem zd_LassoFinderModel_expand_159 : decode prog_14_method_37_code 159 = .ok (.iload_n 1, 1) := by decide +kernel
theorem zd_LassoFinderModel_expand_160 : decode prog_14_method_37_code 160 = .ok (.iload 4, 2) := by decide +kernel
theorem zd_LassoFinderModel_expand_162 : decode prog_14_method_37_code 162 = .ok (.iload 7, 2) := by decide +kernel
theorem zd_LassoFinderModel_expand_164 : decode prog_14_method_37_code 164 = .ok (.invokevirtual 351, 3) := by decide +kernel
theorem zd_LassoFinderModel_expand_167 : decode prog_14_method_37_code 167 = .ok (.iinc 7 1, 3) := by decide +kernel
theorem zd_LassoFinderModel_expand_170 : decode prog_14_method_37_code 170 = .ok (.goto (-54), 3) := by decide +kernel
theorem zd_LassoFinderModel_expand_173 : decode prog_14_method_37_code 173 = .ok (.iinc 4 1, 3) := by decide +kernel
theorem zd_LassoFinderModel_expand_176 : decode prog_14_method_37_code 176 = .ok (.goto (-148), 3) := by decide +kernel
theorem zd_LassoFinderModel_expand_179 : decode prog_14_method_37_code 179 = .ok (.lload_n 2, 1) := by decide +kernel
theorem zd_LassoFinderModel_expand_180 : decode prog_14_method_37_code 180 = .ok (.lconst 0, 1) := by decide +kernel
theorem zd_LassoFinderModel_expand_181 : decode prog_14_method_37_code 181 = .ok (.lcmp, 1) := by decide +kernel
theorem zd_LassoFinderModel_expand_182 : decode prog_14_method_37_code 182 = .ok (.ifCond .ne 10, 3) := by decide +kernel
theorem zd_LassoFinderModel_expand_185 : decode prog_14_method_37_code 185 = .ok (.aload_n 0, 1) := by decide +kernel
theorem zd_LassoFinderModel_expand_186 : decode prog_14_method_37_code 186 = .ok (.iload_n 1, 1) := by decide +kernel
theorem zd_LassoFinderModel_expand_187 : decode prog_14_method_37_code 187 = .ok (.iconst (-1), 1) := by decide +kernel
theorem zd_LassoFinderModel_expand_188 : decode prog_14_method_37_code 188 = .ok (.iconst (-1), 1) := by decide +kernel
theorem zd_LassoFinderModel_expand_189 : decode prog_14_method_37_code 189 = .ok (.invokevirtual 351, 3) := by decide +kernel
theorem zd_LassoFinderModel_expand_192 : decode prog_14_method_37_code 192 = .ok (.return_, 1) := by decide +kernel
theorem zd_LassoFinderModel_reach_0 : decode prog_14_method_38_code 0 = .ok (.iconst 0, 1) := by decide +kernel
theorem zd_LassoFinderModel_reach_1 : decode prog_14_method_38_code 1 = .ok (.istore_n 1, 1) := by decide +kernel
theorem zd_LassoFinderModel_reach_2 : decode prog_14_method_38_code 2 = .ok (.iload_n 1, 1) := by decide +kernel
theorem zd_LassoFinderModel_reach_3 : decode prog_14_method_38_code 3 = .ok (.aload_n 0, 1) := by decide +kernel
theorem zd_LassoFinderModel_reach_4 : decode prog_14_method_38_code 4 = .ok (.getfield 241, 3) := by decide +kernel
theorem zd_LassoFinderModel_reach_7 : decode prog_14_method_38_code 7 = .ok (.if_icmp .ge 21, 3) := by decide +kernel
theorem zd_LassoFinderModel_reach_10 : decode prog_14_method_38_code 10 = .ok (.aload_n 0, 1) := by decide +kernel
theorem zd_LassoFinderModel_reach_11 : decode prog_14_method_38_code 11 = .ok (.getfield 130, 3) := by decide +kernel
theorem zd_LassoFinderModel_reach_14 : decode prog_14_method_38_code 14 = .ok (.iload_n 1, 1) := by decide +kernel
theorem zd_LassoFinderModel_reach_15 : decode prog_14_method_38_code 15 = .ok (.aload_n 0, 1) := by decide +kernel
theorem zd_LassoFinderModel_reach_16 : decode prog_14_method_38_code 16 = .ok (.getfield 23, 3) := by decide +kernel
theorem zd_LassoFinderModel_reach_19 : decode prog_14_method_38_code 19 = .ok (.iload_n 1, 1) := by decide +kernel
theorem zd_LassoFinderModel_reach_20 : decode prog_14_method_38_code 20 = .ok (.iaload, 1) := by decide +kernel
theorem zd_LassoFinderModel_reach_21 : decode prog_14_method_38_code 21 = .ok (.iastore, 1) := by decide +kernel
theorem zd_LassoFinderModel_reach_22 : decode prog_14_method_38_code 22 = .ok (.iinc 1 1, 3) := by decide +kernel
theorem zd_LassoFinderModel_reach_25 : decode prog_14_method_38_code 25 = .ok (.goto (-23), 3) := by decide +kernel
theorem zd_LassoFinderModel_reach_28 : decode prog_14_method_38_code 28 = .ok (.iconst 0, 1) := by decide +kernel
theorem zd_LassoFinderModel_reach_29 : decode prog_14_method_38_code 29 = .ok (.istore_n 1, 1) := by decide +kernel
theorem zd_LassoFinderModel_reach_30 : decode prog_14_method_38_code 30 = .ok (.iload_n 1, 1) := by decide +kernel
theorem zd_LassoFinderModel_reach_31 : decode prog_14_method_38_code 31 = .ok (.aload_n 0, 1) := by decide +kernel
theorem zd_LassoFinderModel_reach_32 : decode prog_14_method_38_code 32 = .ok (.getfield 238, 3) := by decide +kernel
theorem zd_LassoFinderModel_reach_35 : decode prog_14_method_38_code 35 = .ok (.if_icmp .ge 16, 3) := by decide +kernel
theorem zd_LassoFinderModel_reach_38 : decode prog_14_method_38_code 38 = .ok (.aload_n 0, 1) := by decide +kernel
theorem zd_LassoFinderModel_reach_39 : decode prog_14_method_38_code 39 = .ok (.getfield 133, 3) := by decide +kernel
theorem zd_LassoFinderModel_reach_42 : decode prog_14_method_38_code 42 = .ok (.iload_n 1, 1) := by decide +kernel
theorem zd_LassoFinderModel_reach_43 : decode prog_14_method_38_code 43 = .ok (.iconst 0, 1) := by decide +kernel
theorem zd_LassoFinderModel_reach_44 : decode prog_14_method_38_code 44 = .ok (.iastore, 1) := by decide +kernel
theorem zd_LassoFinderModel_reach_45 : decode prog_14_method_38_code 45 = .ok (.iinc 1 1, 3) := by decide +kernel
theorem zd_LassoFinderModel_reach_48 : decode prog_14_method_38_code 48 = .ok (.goto (-18), 3) := by decide +kernel
theorem zd_LassoFinderModel_reach_51 : decode prog_14_method_38_code 51 = .ok (.iconst 0, 1) := by decide +kernel
theorem zd_LassoFinderModel_reach_52 : decode prog_14_method_38_code 52 = .ok (.istore_n 1, 1) := by decide +kernel
theorem zd_LassoFinderModel_reach_53 : decode prog_14_method_38_code 53 = .ok (.iload_n 1, 1) := by decide +kernel
theorem zd_LassoFinderModel_reach_54 : decode prog_14_method_38_code 54 = .ok (.aload_n 0, 1) := by decide +kernel
theorem zd_LassoFinderModel_reach_55 : decode prog_14_method_38_code 55 = .ok (.getfield 254, 3) := by decide +kernel
theorem zd_LassoFinderModel_reach_58 : decode prog_14_method_38_code 58 = .ok (.if_icmp .ge 30, 3) := by decide +kernel
theorem zd_LassoFinderModel_reach_61 : decode prog_14_method_38_code 61 = .ok (.aload_n 0, 1) := by decide +kernel
theorem zd_LassoFinderModel_reach_62 : decode prog_14_method_38_code 62 = .ok (.getfield 139, 3) := by decide +kernel
theorem zd_LassoFinderModel_reach_65 : decode prog_14_method_38_code 65 = .ok (.iload_n 1, 1) := by decide +kernel
theorem zd_LassoFinderModel_reach_66 : decode prog_14_method_38_code 66 = .ok (.aload_n 0, 1) := by decide +kernel
theorem zd_LassoFinderModel_reach_67 : decode prog_14_method_38_code 67 = .ok (.iload_n 1, 1) := by decide +kernel
theorem zd_LassoFinderModel_reach_68 : decode prog_14_method_38_code 68 = .ok (.aload_n 0, 1) := by decide +kernel
theorem zd_LassoFinderModel_reach_69 : decode prog_14_method_38_code 69 = .ok (.aload_n 0, 1) := by decide +kernel
theorem zd_LassoFinderModel_reach_70 : decode prog_14_method_38_code 70 = .ok (.getfield 78, 3) := by decide +kernel
theorem zd_LassoFinderModel_reach_73 : decode prog_14_method_38_code 73 = .ok (.iload_n 1, 1) := by decide +kernel
theorem zd_LassoFinderModel_reach_74 : decode prog_14_method_38_code 74 = .ok (.iaload, 1) := by decide +kernel
theorem zd_LassoFinderModel_reach_75 : decode prog_14_method_38_code 75 = .ok (.invokevirtual 280, 3) := by decide +kernel
theorem zd_LassoFinderModel_reach_78 : decode prog_14_method_38_code 78 = .ok (.invokevirtual 298, 3) := by decide +kernel
theorem zd_LassoFinderModel_reach_81 : decode prog_14_method_38_code 81 = .ok (.iastore, 1) := by decide +kernel
theorem zd_LassoFinderModel_reach_82 : decode prog_14_method_38_code 82 = .ok (.iinc 1 1, 3) := by decide +kernel
theorem zd_LassoFinderModel_reach_85 : decode prog_14_method_38_code 85 = .ok (.goto (-32), 3) := by decide +kernel
theorem zd_LassoFinderModel_reach_88 : decode prog_14_method_38_code 88 = .ok (.aload_n 0, 1) := by decide +kernel
theorem zd_LassoFinderModel_reach_89 : decode prog_14_method_38_code 89 = .ok (.iconst (-1), 1) := by decide +kernel
theorem zd_LassoFinderModel_reach_90 : decode prog_14_method_38_code 90 = .ok (.putfield 301, 3) := by decide +kernel
theorem zd_LassoFinderModel_reach_93 : decode prog_14_method_38_code 93 = .ok (.aload_n 0, 1) := by decide +kernel
theorem zd_LassoFinderModel_reach_94 : decode prog_14_method_38_code 94 = .ok (.getfield 106, 3) := by decide +kernel
theorem zd_LassoFinderModel_reach_97 : decode prog_14_method_38_code 97 = .ok (.iconst 0, 1) := by decide +kernel
theorem zd_LassoFinderModel_reach_98 : decode prog_14_method_38_code 98 = .ok (.aload_n 0, 1) := by decide +kernel
theorem zd_LassoFinderModel_reach_99 : decode prog_14_method_38_code 99 = .ok (.invokevirtual 341, 3) := by decide +kernel
theorem zd_LassoFinderModel_reach_102 : decode prog_14_method_38_code 102 = .ok (.lastore, 1) := by decide +kernel
theorem zd_LassoFinderModel_reach_103 : decode prog_14_method_38_code 103 = .ok (.aload_n 0, 1) := by decide +kernel
theorem zd_LassoFinderModel_reach_104 : decode prog_14_method_38_code 104 = .ok (.iconst 1, 1) := by decide +kernel
theorem zd_LassoFinderModel_reach_105 : decode prog_14_method_38_code 105 = .ok (.putfield 345, 3) := by decide +kernel
theorem zd_LassoFinderModel_reach_108 : decode prog_14_method_38_code 108 = .ok (.aload_n 0, 1) := by decide +kernel
theorem zd_LassoFinderModel_reach_109 : decode prog_14_method_38_code 109 = .ok (.iconst 0, 1) := by decide +kernel
theorem zd_LassoFinderModel_reach_110 : decode prog_14_method_38_code 110 = .ok (.putfield 327, 3) := by decide +kernel
theorem zd_LassoFinderModel_reach_113 : decode prog_14_method_38_code 113 = .ok (.aload_n 0, 1) := by decide +kernel
theorem zd_LassoFinderModel_reach_114 : decode prog_14_method_38_code 114 = .ok (.iconst 0, 1) := by decide +kernel
theorem zd_LassoFinderModel_reach_115 : decode prog_14_method_38_code 115 = .ok (.putfield 330, 3) := by decide +kernel
theorem zd_LassoFinderModel_reach_118 : decode prog_14_method_38_code 118 = .ok (.iconst 0, 1) := by decide +kernel
theorem zd_LassoFinderModel_reach_119 : decode prog_14_method_38_code 119 = .ok (.istore_n 1, 1) := by decide +kernel
theorem zd_LassoFinderModel_reach_120 : decode prog_14_method_38_code 120 = .ok (.iload_n 1, 1) := by decide +kernel
theorem zd_LassoFinderModel_reach_121 : decode prog_14_method_38_code 121 = .ok (.aload_n 0, 1) := by decide +kernel
theorem zd_LassoFinderModel_reach_122 : decode prog_14_method_38_code 122 = .ok (.getfield 345, 3) := by decide +kernel
theorem zd_LassoFinderModel_reach_125 : decode prog_14_method_38_code 125 = .ok (.if_icmp .ge 21, 3) := by decide +kernel
theorem zd_LassoFinderModel_reach_128 : decode prog_14_method_38_code 128 = .ok (.aload_n 0, 1) := by decide +kernel
theorem zd_LassoFinderModel_reach_129 : decode prog_14_method_38_code 129 = .ok (.getfield 330, 3) := by decide +kernel
theorem zd_LassoFinderModel_reach_132 : decode prog_14_method_38_code 132 = .ok (.ifCond .ne 14, 3) := by decide +kernel
theorem zd_LassoFinderModel_reach_135 : decode prog_14_method_38_code 135 = .ok (.aload_n 0, 1) := by decide +kernel
theorem zd_LassoFinderModel_reach_136 : decode prog_14_method_38_code 136 = .ok (.iload_n 1, 1) := by decide +kernel
theorem zd_LassoFinderModel_reach_137 : decode prog_14_method_38_code 137 = .ok (.invokevirtual 355, 3) := by decide +kernel
theorem zd_LassoFinderModel_reach_140 : decode prog_14_method_38_code 140 = .ok (.iinc 1 1, 3) := by decide +kernel
theorem zd_LassoFinderModel_reach_143 : decode prog_14_method_38_code 143 = .ok (.goto (-23), 3) := by decide +kernel
theorem zd_LassoFinderModel_reach_146 : decode prog_14_method_38_code 146 = .ok (.aload_n 0, 1) := by decide +kernel
theorem zd_LassoFinderModel_reach_147 : decode prog_14_method_38_code 147 = .ok (.getfield 109, 3) := by decide +kernel
theorem zd_LassoFinderModel_reach_150 : decode prog_14_method_38_code 150 = .ok (.aload_n 0, 1) := by decide +kernel
theorem zd_LassoFinderModel_reach_151 : decode prog_14_method_38_code 151 = .ok (.getfield 345, 3) := by decide +kernel
theorem zd_LassoFinderModel_reach_154 : decode prog_14_method_38_code 154 = .ok (.aload_n 0, 1) := by decide +kernel
theorem zd_LassoFinderModel_reach_155 : decode prog_14_method_38_code 155 = .ok (.getfield 327, 3) := by decide +kernel
theorem zd_LassoFinderModel_reach_158 : decode prog_14_method_38_code 158 = .ok (.iastore, 1) := by decide +kernel
theorem zd_LassoFinderModel_reach_159 : decode prog_14_method_38_code 159 = .ok (.iconst 0, 1) := by decide +kernel
theorem zd_LassoFinderModel_reach_160 : decode prog_14_method_38_code 160 = .ok (.istore_n 1, 1) := by decide +kernel
theorem zd_LassoFinderModel_reach_161 : decode prog_14_method_38_code 161 = .ok (.iconst 0, 1) := by decide +kernel
theorem zd_LassoFinderModel_reach_162 : decode prog_14_method_38_code 162 = .ok (.istore_n 2, 1) := by decide +kernel
theorem zd_LassoFinderModel_reach_163 : decode prog_14_method_38_code 163 = .ok (.iload_n 2, 1) := by decide +kernel
theorem zd_LassoFinderModel_reach_164 : decode prog_14_method_38_code 164 = .ok (.aload_n 0, 1) := by decide +kernel
theorem zd_LassoFinderModel_reach_165 : decode prog_14_method_38_code 165 = .ok (.getfield 345, 3) := by decide +kernel
theorem zd_LassoFinderModel_reach_168 : decode prog_14_method_38_code 168 = .ok (.if_icmp .ge 52, 3) := by decide +kernel
theorem zd_LassoFinderModel_reach_171 : decode prog_14_method_38_code 171 = .ok (.aload_n 0, 1) := by decide +kernel
theorem zd_LassoFinderModel_reach_172 : decode prog_14_method_38_code 172 = .ok (.getfield 124, 3) := by decide +kernel
theorem zd_LassoFinderModel_reach_175 : decode prog_14_method_38_code 175 = .ok (.iload_n 2, 1) := by decide +kernel
theorem zd_LassoFinderModel_reach_176 : decode prog_14_method_38_code 176 = .ok (.iload_n 1, 1) := by decide +kernel
theorem zd_LassoFinderModel_reach_177 : decode prog_14_method_38_code 177 = .ok (.iastore, 1) := by decide +kernel
theorem zd_LassoFinderModel_reach_178 : decode prog_14_method_38_code 178 = .ok (.iconst 0, 1) := by decide +kernel
theorem zd_LassoFinderModel_reach_179 : decode prog_14_method_38_code 179 = .ok (.istore_n 3, 1) := by decide +kernel
theorem zd_LassoFinderModel_reach_180 : decode prog_14_method_38_code 180 = .ok (.iload_n 3, 1) := by decide +kernel
theorem zd_LassoFinderModel_reach_181 : decode prog_14_method_38_code 181 = .ok (.aload_n 0, 1) := by decide +kernel
theorem zd_LassoFinderModel_reach_182 : decode prog_14_method_38_code 182 = .ok (.getfield 327, 3) := by decide +kernel
theorem zd_LassoFinderModel_reach_185 : decode prog_14_method_38_code 185 = .ok (.if_icmp .ge 29, 3) := by decide +kernel
theorem zd_LassoFinderModel_reach_188 : decode prog_14_method_38_code 188 = .ok (.aload_n 0, 1) := by decide +kernel
theorem zd_LassoFinderModel_reach_189 : decode prog_14_method_38_code 189 = .ok (.getfield 112, 3) := by decide +kernel
theorem zd_LassoFinderModel_reach_192 : decode prog_14_method_38_code 192 = .ok (.iload_n 3, 1) := by decide +kernel
theorem zd_LassoFinderModel_reach_193 : decode prog_14_method_38_code 193 = .ok (.iaload, 1) := by decide +kernel
theorem zd_LassoFinderModel_reach_194 : decode prog_14_method_38_code 194 = .ok (.iload_n 2, 1) := by decide +kernel
theorem zd_LassoFinderModel_reach_195 : decode prog_14_method_38_code 195 = .ok (.if_icmp .ne 13, 3) := by decide +kernel
theorem zd_LassoFinderModel_reach_198 : decode prog_14_method_38_code 198 = .ok (.aload_n 0, 1) := by decide +kernel
theorem zd_LassoFinderModel_reach_199 : decode prog_14_method_38_code 199 = .ok (.getfield 127, 3) := by decide +kernel
theorem zd_LassoFinderModel_reach_202 : decode prog_14_method_38_code 202 = .ok (.iload_n 1, 1) := by decide +kernel
theorem zd_LassoFinderModel_reach_203 : decode prog_14_method_38_code 203 = .ok (.iload_n 3, 1) := by decide +kernel
theorem zd_LassoFinderModel_reach_204 : decode prog_14_method_38_code 204 = .ok (.iastore, 1) := by decide +kernel
theorem zd_LassoFinderModel_reach_205 : decode prog_14_method_38_code 205 = .ok (.iinc 1 1, 3) := by decide +kernel
theorem zd_LassoFinderModel_reach_208 : decode prog_14_method_38_code 208 = .ok (.iinc 3 1, 3) := by decide +kernel
theorem zd_LassoFinderModel_reach_211 : decode prog_14_method_38_code 211 = .ok (.goto (-31), 3) := by decide +kernel
theorem zd_LassoFinderModel_reach_214 : decode prog_14_method_38_code 214 = .ok (.iinc 2 1, 3) := by decide +kernel
theorem zd_LassoFinderModel_reach_217 : decode prog_14_method_38_code 217 = .ok (.goto (-54), 3) := by decide +kernel
theorem zd_LassoFinderModel_reach_220 : decode prog_14_method_38_code 220 = .ok (.aload_n 0, 1) := by decide +kernel
theorem zd_LassoFinderModel_reach_221 : decode prog_14_method_38_code 221 = .ok (.getfield 124, 3) := by decide +kernel
theorem zd_LassoFinderModel_reach_224 : decode prog_14_method_38_code 224 = .ok (.aload_n 0, 1) := by decide +kernel
theorem zd_LassoFinderModel_reach_225 : decode prog_14_method_38_code 225 = .ok (.getfield 345, 3) := by decide +kernel
theorem zd_LassoFinderModel_reach_228 : decode prog_14_method_38_code 228 = .ok (.iload_n 1, 1) := by decide +kernel
theorem zd_LassoFinderModel_reach_229 : decode prog_14_method_38_code 229 = .ok (.iastore, 1) := by decide +kernel
theorem zd_LassoFinderModel_reach_230 : decode prog_14_method_38_code 230 = .ok (.aload_n 0, 1) := by decide +kernel
theorem zd_LassoFinderModel_reach_231 : decode prog_14_method_38_code 231 = .ok (.getfield 330, 3) := by decide +kernel
theorem zd_LassoFinderModel_reach_234 : decode prog_14_method_38_code 234 = .ok (.ifCond .ne 7, 3) := by decide +kernel
theorem zd_LassoFinderModel_reach_237 : decode prog_14_method_38_code 237 = .ok (.iconst 1, 1) := by decide +kernel
theorem zd_LassoFinderModel_reach_238 : decode prog_14_method_38_code 238 = .ok (.goto 4, 3) := by decide +kernel
theorem zd_LassoFinderModel_reach_241 : decode prog_14_method_38_code 241 = .ok (.iconst 0, 1) := by decide +kernel
theorem zd_LassoFinderModel_reach_242 : decode prog_14_method_38_code 242 = .ok (.ireturn, 1) := by decide +kernel
def wc_LassoFinderModel_expand_192 (a0 : Int32) (Post : (Nat → Int32) → (Nat → Int64) → (Nat → Nat → Int32) → (Nat → Nat → Int64) → Prop)  (I : Nat → Int32) (J : Nat → Int64) (B : Nat → Nat → Int32) (D : Nat → Nat → Int64) : Prop :=
  Post I J B D
def wc_LassoFinderModel_expand_179 (a0 : Int32) (Post : (Nat → Int32) → (Nat → Int64) → (Nat → Nat → Int32) → (Nat → Nat → Int64) → Prop) (x1 : Int32) (x2 : Int64) (I : Nat → Int32) (J : Nat → Int64) (B : Nat → Nat → Int32) (D : Nat → Nat → Int64) : Prop :=
  ∀ z1 : Int32, z1 = (lg_cmp x2 0) → ((¬ z1 = 0 → wc_LassoFinderModel_expand_192 a0 Post I J B D) ∧ (z1 = 0 → wp_LassoFinderModel_step I J B D x1 (-1) (-1) (fun I3 J3 B3 D3 => wc_LassoFinderModel_expand_192 a0 Post I3 J3 B3 D3)))
def wc_LassoFinderModel_expand_173 (a0 : Int32) (K28 : Int32 → Int64 → Int32 → (Nat → Int32) → (Nat → Int64) → (Nat → Nat → Int32) → (Nat → Nat → Int64) → Prop) (Post : (Nat → Int32) → (Nat → Int64) → (Nat → Nat → Int32) → (Nat → Nat → Int64) → Prop) (x1 : Int32) (x2 : Int64) (x4 : Int32) (I : Nat → Int32) (J : Nat → Int64) (B : Nat → Nat → Int32) (D : Nat → Nat → Int64) : Prop :=
  ∀ z4 : Int32, z4 = (x4 + 1) → K28 x1 x2 z4 I J B D
def wc_LassoFinderModel_expand_167 (a0 : Int32) (K28 : Int32 → Int64 → Int32 → (Nat → Int32) → (Nat → Int64) → (Nat → Nat → Int32) → (Nat → Nat → Int64) → Prop) (K116 : Int32 → Int64 → Int32 → Int32 → Int32 → Int32 → (Nat → Int32) → (Nat → Int64) → (Nat → Nat → Int32) → (Nat → Nat → Int64) → Prop) (Post : (Nat → Int32) → (Nat → Int64) → (Nat → Nat → Int32) → (Nat → Nat → Int64) → Prop) (x1 : Int32) (x2 : Int64) (x4 : Int32) (x5 : Int32) (x6 : Int32) (x7 : Int32) (I : Nat → Int32) (J : Nat → Int64) (B : Nat → Nat → Int32) (D : Nat → Nat → Int64) : Prop :=
  ∀ z5 : Int32, z5 = (x7 + 1) → K116 x1 x2 x4 x5 x6 z5 I J B D
def wb_LassoFinderModel_expand_116 (a0 : Int32) (K116 : Int32 → Int64 → Int32 → Int32 → Int32 → Int32 → (Nat → Int32) → (Nat → Int64) → (Nat → Nat → Int32) → (Nat → Nat → Int64) → Prop) (K28 : Int32 → Int64 → Int32 → (Nat → Int32) → (Nat → Int64) → (Nat → Nat → Int32) → (Nat → Nat → Int64) → Prop) (Post : (Nat → Int32) → (Nat → Int64) → (Nat → Nat → Int32) → (Nat → Nat → Int64) → Prop) (x1 : Int32) (x2 : Int64) (x4 : Int32) (x5 : Int32) (x6 : Int32) (x7 : Int32) (I : Nat → Int32) (J : Nat → Int64) (B : Nat → Nat → Int32) (D : Nat → Nat → Int64) : Prop :=
  (((I 9) ≤ x7 → wc_LassoFinderModel_expand_173 a0 K28 Post x1 x2 x4 I J B D) ∧ (¬ (I 9) ≤ x7 → ((x6 = 0 → wc_LassoFinderModel_expand_173 a0 K28 Post x1 x2 x4 I J B D) ∧ (¬ x6 = 0 → ((¬ (I 16) = 0 → wc_LassoFinderModel_expand_173 a0 K28 Post x1 x2 x4 I J B D) ∧ ((I 16) = 0 → vp_in x1 97 ∧ ∀ z9 : Int64, z9 = ((D 1) x1.toNatClampNeg) → wp_LassoFinderModel_unpack I J B D z9 (fun I10 J10 B10 D10 => wp_LassoFinderModel_meets I10 J10 B10 D10 x5 x7 (fun r11 I11 J11 B11 D11 => ((r11 = 0 → wc_LassoFinderModel_expand_167 a0 K28 K116 Post x1 x2 x4 x5 x6 x7 I11 J11 B11 D11) ∧ (¬ r11 = 0 → wp_LassoFinderModel_step I11 J11 B11 D11 x1 x4 x7 (fun I13 J13 B13 D13 => wc_LassoFinderModel_expand_167 a0 K28 K116 Post x1 x2 x4 x5 x6 x7 I13 J13 B13 D13)))))))))))
def wl_LassoFinderModel_expand_116 (a0 : Int32) (K28 : Int32 → Int64 → Int32 → (Nat → Int32) → (Nat → Int64) → (Nat → Nat → Int32) → (Nat → Nat → Int64) → Prop) (Post : (Nat → Int32) → (Nat → Int64) → (Nat → Nat → Int32) → (Nat → Nat → Int64) → Prop) (n : Nat) : Int32 → Int64 → Int32 → Int32 → Int32 → Int32 → (Nat → Int32) → (Nat → Int64) → (Nat → Nat → Int32) → (Nat → Nat → Int64) → Prop := Nat.rec (fun _ _ _ _ _ _ _ _ _ _ => False) (fun _ r => wb_LassoFinderModel_expand_116 a0 r K28 Post) n
def wc_LassoFinderModel_expand_113 (a0 : Int32) (K28 : Int32 → Int64 → Int32 → (Nat → Int32) → (Nat → Int64) → (Nat → Nat → Int32) → (Nat → Nat → Int64) → Prop) (Post : (Nat → Int32) → (Nat → Int64) → (Nat → Nat → Int32) → (Nat → Nat → Int64) → Prop) (x1 : Int32) (x2 : Int64) (x4 : Int32) (x5 : Int32) (x6 : Int32) (I : Nat → Int32) (J : Nat → Int64) (B : Nat → Nat → Int32) (D : Nat → Nat → Int64) : Prop :=
  ∃ n : Nat, wl_LassoFinderModel_expand_116 a0 K28 Post n x1 x2 x4 x5 x6 0 I J B D
def wc_LassoFinderModel_expand_98 (a0 : Int32) (K28 : Int32 → Int64 → Int32 → (Nat → Int32) → (Nat → Int64) → (Nat → Nat → Int32) → (Nat → Nat → Int64) → Prop) (Post : (Nat → Int32) → (Nat → Int64) → (Nat → Nat → Int32) → (Nat → Nat → Int64) → Prop) (x1 : Int32) (x2 : Int64) (x4 : Int32) (x5 : Int32) (y0 : Int32) (I : Nat → Int32) (J : Nat → Int64) (B : Nat → Nat → Int32) (D : Nat → Nat → Int64) : Prop :=
  ((¬ y0 = 0 → wc_LassoFinderModel_expand_113 a0 K28 Post x1 x2 x4 x5 y0 I J B D) ∧ (y0 = 0 → wp_LassoFinderModel_step I J B D x1 x4 (-1) (fun I15 J15 B15 D15 => wc_LassoFinderModel_expand_113 a0 K28 Post x1 x2 x4 x5 y0 I15 J15 B15 D15)))
def wc_LassoFinderModel_expand_97 (a0 : Int32) (K28 : Int32 → Int64 → Int32 → (Nat → Int32) → (Nat → Int64) → (Nat → Nat → Int32) → (Nat → Nat → Int64) → Prop) (Post : (Nat → Int32) → (Nat → Int64) → (Nat → Nat → Int32) → (Nat → Nat → Int64) → Prop) (x1 : Int32) (x2 : Int64) (x4 : Int32) (x5 : Int32) (I : Nat → Int32) (J : Nat → Int64) (B : Nat → Nat → Int32) (D : Nat → Nat → Int64) : Prop :=
  wc_LassoFinderModel_expand_98 a0 K28 Post x1 x2 x4 x5 0 I J B D
def wb_LassoFinderModel_expand_28 (a0 : Int32) (K28 : Int32 → Int64 → Int32 → (Nat → Int32) → (Nat → Int64) → (Nat → Nat → Int32) → (Nat → Nat → Int64) → Prop) (Post : (Nat → Int32) → (Nat → Int64) → (Nat → Nat → Int32) → (Nat → Nat → Int64) → Prop) (x1 : Int32) (x2 : Int64) (x4 : Int32) (I : Nat → Int32) (J : Nat → Int64) (B : Nat → Nat → Int32) (D : Nat → Nat → Int64) : Prop :=
  (((I 9) ≤ x4 → wc_LassoFinderModel_expand_179 a0 Post x1 x2 I J B D) ∧ (¬ (I 9) ≤ x4 → ((¬ (I 16) = 0 → wc_LassoFinderModel_expand_179 a0 Post x1 x2 I J B D) ∧ ((I 16) = 0 → ∀ z18 : Int64, z18 = (x2 >>> (x4.toInt64 &&& 63)) → ∀ z19 : Int64, z19 = (z18 &&& 1) → ∀ z20 : Int32, z20 = (lg_cmp z19 0) → ((¬ z20 = 0 → vp_in x4 48 ∧ ∀ z22 : Int32, z22 = ((B 18) x4.toNatClampNeg) → vp_in z22 140 ∧ ∀ z23 : Int32, z23 = ((B 5) z22.toNatClampNeg) → ((¬ z23 = 2 → wc_LassoFinderModel_expand_97 a0 K28 Post x1 x2 x4 z22 I J B D) ∧ (z23 = 2 → vp_in z22 140 ∧ ∀ z25 : Int32, z25 = ((B 12) z22.toNatClampNeg) → vp_in z25 2 ∧ ∀ z26 : Int32, z26 = ((B 4) z25.toNatClampNeg) → ((¬ z26 = 0 → wc_LassoFinderModel_expand_97 a0 K28 Post x1 x2 x4 z22 I J B D) ∧ (z26 = 0 → wc_LassoFinderModel_expand_98 a0 K28 Post x1 x2 x4 z22 1 I J B D))))) ∧ (z20 = 0 → wc_LassoFinderModel_expand_173 a0 K28 Post x1 x2 x4 I J B D))))))
def wl_LassoFinderModel_expand_28 (a0 : Int32) (Post : (Nat → Int32) → (Nat → Int64) → (Nat → Nat → Int32) → (Nat → Nat → Int64) → Prop) (n : Nat) : Int32 → Int64 → Int32 → (Nat → Int32) → (Nat → Int64) → (Nat → Nat → Int32) → (Nat → Nat → Int64) → Prop := Nat.rec (fun _ _ _ _ _ _ _ => False) (fun _ r => wb_LassoFinderModel_expand_28 a0 r Post) n
def wp_LassoFinderModel_expand (I : Nat → Int32) (J : Nat → Int64) (B : Nat → Nat → Int32) (D : Nat → Nat → Int64) (a0 : Int32) (Post : (Nat → Int32) → (Nat → Int64) → (Nat → Nat → Int32) → (Nat → Nat → Int64) → Prop) : Prop :=
  vp_in a0 98 ∧ vp_in a0 97 ∧ ∀ z28 : Int64, z28 = ((D 1) a0.toNatClampNeg) → wp_LassoFinderModel_unpack I J (va_up B 29 (upd (B 29) a0.toNatClampNeg (I 15))) D z28 (fun I29 J29 B29 D29 => wp_LassoFinderModel_doable I29 J29 B29 D29  (fun r30 I30 J30 B30 D30 => ∃ n : Nat, wl_LassoFinderModel_expand_28 a0 Post n a0 r30 0 I30 J30 B30 D30))
set_option maxHeartbeats 8000000 in
set_option maxRecDepth 100000 in
theorem wJ_LassoFinderModel_expand_192 {p : Program} {l : Launch} {e : Env} {s : State} {m : MethodId} {below : List Frame} {meth : Method} {c : Code} {A : Nat → Prop} (G : va_G) (K : Nat → ClassId) (ad : Nat → Nat) (a0 : Int32) (Post : (Nat → Int32) → (Nat → Int64) → (Nat → Nat → Int32) → (Nat → Nat → Int64) → Prop) (C : zCx p s m ([.ref (ad 0), .int a0] : List Value).toArray meth c A G K prog_14_method_37_code none 8 "LassoFinderModel") : ∀  (I : Nat → Int32) (J : Nat → Int64) (B : Nat → Nat → Int32) (D : Nat → Nat → Int64) (ls : Array Slot) (H : Heap) (locs : List Loc), wc_LassoFinderModel_expand_192 a0 Post  I J B D → lv_has ls 8 [] → zW G A s.heap (wM ad K I J B D) H locs → W p l e { frames := 4, cells := 0, slots := 0, locals := 96 } s m ([.ref (ad 0), .int a0] : List Value).toArray below meth c H locs 0 0 (MQ below (va_Qv (fun u : zS => Post u.1 u.2.1 u.2.2.1 u.2.2.2) (fun u t => zPost G K A (wM ad K u.1 u.2.1 u.2.2.1 u.2.2.2) t) A) ([.ref (ad 0), .int a0] : List Value).toArray s 0 0 A) (F0 m 192 ls []) := by
  obtain ⟨hx, hb, hr, hml, hts, hown, hlocks, hA, hK⟩ := id C
  intro  I J B D ls H locs hok hl hw
  unfold wc_LassoFinderModel_expand_192 at hok
  exact (z_vret (u := (I, J, B, D)) hx hb hr hlocks hw (List.range 58) wM_all wM_nd hok (Nat.le_of_ble_eq_true rfl) (Nat.le_of_ble_eq_true rfl) zd_LassoFinderModel_expand_192)
set_option maxHeartbeats 8000000 in
set_option maxRecDepth 100000 in
theorem wJ_LassoFinderModel_expand_179 {p : Program} {l : Launch} {e : Env} {s : State} {m : MethodId} {below : List Frame} {meth : Method} {c : Code} {A : Nat → Prop} (G : va_G) (K : Nat → ClassId) (ad : Nat → Nat) (a0 : Int32) (Post : (Nat → Int32) → (Nat → Int64) → (Nat → Nat → Int32) → (Nat → Nat → Int64) → Prop) (C : zCx p s m ([.ref (ad 0), .int a0] : List Value).toArray meth c A G K prog_14_method_37_code none 8 "LassoFinderModel") : ∀ (x1 : Int32) (x2 : Int64) (I : Nat → Int32) (J : Nat → Int64) (B : Nat → Nat → Int32) (D : Nat → Nat → Int64) (ls : Array Slot) (H : Heap) (locs : List Loc), wc_LassoFinderModel_expand_179 a0 Post x1 x2 I J B D → lv_has ls 8 [(0, .ref (ad 0)), (1, .int x1), (2, .long x2)] → zW G A s.heap (wM ad K I J B D) H locs → W p l e { frames := 4, cells := 0, slots := 0, locals := 96 } s m ([.ref (ad 0), .int a0] : List Value).toArray below meth c H locs 0 0 (MQ below (va_Qv (fun u : zS => Post u.1 u.2.1 u.2.2.1 u.2.2.2) (fun u t => zPost G K A (wM ad K u.1 u.2.1 u.2.2.1 u.2.2.2) t) A) ([.ref (ad 0), .int a0] : List Value).toArray s 0 0 A) (F0 m 179 ls []) := by
  obtain ⟨hx, hb, hr, hml, hts, hown, hlocks, hA, hK⟩ := id C
  intro x1 x2 I J B D ls H locs hok hl hw
  unfold wc_LassoFinderModel_expand_179 at hok
  refine lv_lload_n hx hb zd_LassoFinderModel_expand_179 rfl (lv_at hl 2 rfl) ?_
  refine lv_lconst (v := 0) hx hb zd_LassoFinderModel_expand_180 (by decide) ?_
  refine W.lcmp hx hb zd_LassoFinderModel_expand_181 ?_
  refine lv_topi (fun z1 ez1 => ?_)
  have hok := hok z1 ez1
  refine lv_if_ne (tgt := 192) hx hb zd_LassoFinderModel_expand_182 (by decide) (fun hc2 => ?_) (fun hc2 => ?_)
  · have hok := hok.1 hc2
    exact wJ_LassoFinderModel_expand_192 G K ad a0 Post C I J B D ls H locs hok (lv_sub hl [] rfl) hw
  · have hok := hok.2 hc2
    refine lv_aload_n hx hb zd_LassoFinderModel_expand_185 rfl (lv_at hl 0 rfl) ?_
    refine lv_iload_n hx hb zd_LassoFinderModel_expand_186 rfl (lv_at hl 1 rfl) ?_
    refine lv_iconst (v := (-1)) hx hb zd_LassoFinderModel_expand_187 (by decide) ?_
    refine lv_iconst (v := (-1)) hx hb zd_LassoFinderModel_expand_188 (by decide) ?_
    refine z_callv (w1 := fun (u : zS) => wM ad K u.1 u.2.1 u.2.2.1 u.2.2.2) (wr := []) (z_runV (q0 := 0) (wc := (wM ad K I J B D)) (As := [.int x1, .int (-1), .int (-1)]) (rest := []) ⟨hx, hb, hml, hown, hts⟩ (w_LassoFinderModel_step l G K ad I J B D x1 (-1) (-1) _ H.size hok) zf_LassoFinderModel_step zm_317 ⟨Nat.le_of_ble_eq_true rfl, Nat.le_of_ble_eq_true rfl⟩ hK hw (List.range 58) wM_all wM_nd wM_g0 rfl rfl hl.1 rfl (Nat.le_of_ble_eq_true rfl) zd_LassoFinderModel_expand_189 ⟨Nat.le_of_ble_eq_true rfl, Nat.le_of_ble_eq_true rfl⟩) hw hA (List.range 58) [] wM_all rfl (by decide) (fun i hi => by cases hi) (fun u H locs hok hw => ?_)
    obtain ⟨I3, J3, B3, D3⟩ := u
    dsimp only at hok
    have hw : zW G A s.heap (wM ad K I3 J3 B3 D3) H locs := hw
    exact wJ_LassoFinderModel_expand_192 G K ad a0 Post C I3 J3 B3 D3 ls H locs hok (lv_sub hl [] rfl) hw
set_option maxHeartbeats 8000000 in
set_option maxRecDepth 100000 in
theorem wJ_LassoFinderModel_expand_173 {p : Program} {l : Launch} {e : Env} {s : State} {m : MethodId} {below : List Frame} {meth : Method} {c : Code} {A : Nat → Prop} (G : va_G) (K : Nat → ClassId) (ad : Nat → Nat) (a0 : Int32) (Post : (Nat → Int32) → (Nat → Int64) → (Nat → Nat → Int32) → (Nat → Nat → Int64) → Prop) (C : zCx p s m ([.ref (ad 0), .int a0] : List Value).toArray meth c A G K prog_14_method_37_code none 8 "LassoFinderModel") (K28 : Int32 → Int64 → Int32 → (Nat → Int32) → (Nat → Int64) → (Nat → Nat → Int32) → (Nat → Nat → Int64) → Prop) (kh28 : ∀ (x1 : Int32) (x2 : Int64) (x4 : Int32) (I : Nat → Int32) (J : Nat → Int64) (B : Nat → Nat → Int32) (D : Nat → Nat → Int64) (ls : Array Slot) (H : Heap) (locs : List Loc), K28 x1 x2 x4 I J B D → lv_has ls 8 [(0, .ref (ad 0)), (1, .int x1), (2, .long x2), (4, .int x4)] → zW G A s.heap (wM ad K I J B D) H locs → W p l e { frames := 4, cells := 0, slots := 0, locals := 96 } s m ([.ref (ad 0), .int a0] : List Value).toArray below meth c H locs 0 0 (MQ below (va_Qv (fun u : zS => Post u.1 u.2.1 u.2.2.1 u.2.2.2) (fun u t => zPost G K A (wM ad K u.1 u.2.1 u.2.2.1 u.2.2.2) t) A) ([.ref (ad 0), .int a0] : List Value).toArray s 0 0 A) (F0 m 28 ls [])) : ∀ (x1 : Int32) (x2 : Int64) (x4 : Int32) (I : Nat → Int32) (J : Nat → Int64) (B : Nat → Nat → Int32) (D : Nat → Nat → Int64) (ls : Array Slot) (H : Heap) (locs : List Loc), wc_LassoFinderModel_expand_173 a0 K28 Post x1 x2 x4 I J B D → lv_has ls 8 [(0, .ref (ad 0)), (1, .int x1), (2, .long x2), (4, .int x4)] → zW G A s.heap (wM ad K I J B D) H locs → W p l e { frames := 4, cells := 0, slots := 0, locals := 96 } s m ([.ref (ad 0), .int a0] : List Value).toArray below meth c H locs 0 0 (MQ below (va_Qv (fun u : zS => Post u.1 u.2.1 u.2.2.1 u.2.2.2) (fun u t => zPost G K A (wM ad K u.1 u.2.1 u.2.2.1 u.2.2.2) t) A) ([.ref (ad 0), .int a0] : List Value).toArray s 0 0 A) (F0 m 173 ls []) := by
  obtain ⟨hx, hb, hr, hml, hts, hown, hlocks, hA, hK⟩ := id C
  intro x1 x2 x4 I J B D ls H locs hok hl hw
  unfold wc_LassoFinderModel_expand_173 at hok
  obtain ⟨z4, ez4⟩ : ∃ z : Int32, z = (x4 + 1) := ⟨_, rfl⟩
  have hok := hok z4 ez4
  refine lv_iinc (v := z4) hx hb zd_LassoFinderModel_expand_173 hl (k := 3) rfl ez4.symm (by decide) rfl (fun ls hl => ?_)
  have hl : lv_has ls 8 [(4, .int z4), (0, .ref (ad 0)), (1, .int x1), (2, .long x2)] := hl
  refine lv_goto (tgt := 28) hx hb zd_LassoFinderModel_expand_176 (by decide) ?_
  exact kh28 x1 x2 z4 I J B D ls H locs hok (lv_sub hl [1, 2, 3, 0] rfl) hw
set_option maxHeartbeats 8000000 in
set_option maxRecDepth 100000 in
theorem wJ_LassoFinderModel_expand_167 {p : Program} {l : Launch} {e : Env} {s : State} {m : MethodId} {below : List Frame} {meth : Method} {c : Code} {A : Nat → Prop} (G : va_G) (K : Nat → ClassId) (ad : Nat → Nat) (a0 : Int32) (Post : (Nat → Int32) → (Nat → Int64) → (Nat → Nat → Int32) → (Nat → Nat → Int64) → Prop) (C : zCx p s m ([.ref (ad 0), .int a0] : List Value).toArray meth c A G K prog_14_method_37_code none 8 "LassoFinderModel") (K28 : Int32 → Int64 → Int32 → (Nat → Int32) → (Nat → Int64) → (Nat → Nat → Int32) → (Nat → Nat → Int64) → Prop) (kh28 : ∀ (x1 : Int32) (x2 : Int64) (x4 : Int32) (I : Nat → Int32) (J : Nat → Int64) (B : Nat → Nat → Int32) (D : Nat → Nat → Int64) (ls : Array Slot) (H : Heap) (locs : List Loc), K28 x1 x2 x4 I J B D → lv_has ls 8 [(0, .ref (ad 0)), (1, .int x1), (2, .long x2), (4, .int x4)] → zW G A s.heap (wM ad K I J B D) H locs → W p l e { frames := 4, cells := 0, slots := 0, locals := 96 } s m ([.ref (ad 0), .int a0] : List Value).toArray below meth c H locs 0 0 (MQ below (va_Qv (fun u : zS => Post u.1 u.2.1 u.2.2.1 u.2.2.2) (fun u t => zPost G K A (wM ad K u.1 u.2.1 u.2.2.1 u.2.2.2) t) A) ([.ref (ad 0), .int a0] : List Value).toArray s 0 0 A) (F0 m 28 ls [])) (K116 : Int32 → Int64 → Int32 → Int32 → Int32 → Int32 → (Nat → Int32) → (Nat → Int64) → (Nat → Nat → Int32) → (Nat → Nat → Int64) → Prop) (kh116 : ∀ (x1 : Int32) (x2 : Int64) (x4 : Int32) (x5 : Int32) (x6 : Int32) (x7 : Int32) (I : Nat → Int32) (J : Nat → Int64) (B : Nat → Nat → Int32) (D : Nat → Nat → Int64) (ls : Array Slot) (H : Heap) (locs : List Loc), K116 x1 x2 x4 x5 x6 x7 I J B D → lv_has ls 8 [(0, .ref (ad 0)), (1, .int x1), (2, .long x2), (4, .int x4), (5, .int x5), (6, .int x6), (7, .int x7)] → zW G A s.heap (wM ad K I J B D) H locs → W p l e { frames := 4, cells := 0, slots := 0, locals := 96 } s m ([.ref (ad 0), .int a0] : List Value).toArray below meth c H locs 0 0 (MQ below (va_Qv (fun u : zS => Post u.1 u.2.1 u.2.2.1 u.2.2.2) (fun u t => zPost G K A (wM ad K u.1 u.2.1 u.2.2.1 u.2.2.2) t) A) ([.ref (ad 0), .int a0] : List Value).toArray s 0 0 A) (F0 m 116 ls [])) : ∀ (x1 : Int32) (x2 : Int64) (x4 : Int32) (x5 : Int32) (x6 : Int32) (x7 : Int32) (I : Nat → Int32) (J : Nat → Int64) (B : Nat → Nat → Int32) (D : Nat → Nat → Int64) (ls : Array Slot) (H : Heap) (locs : List Loc), wc_LassoFinderModel_expand_167 a0 K28 K116 Post x1 x2 x4 x5 x6 x7 I J B D → lv_has ls 8 [(0, .ref (ad 0)), (1, .int x1), (2, .long x2), (4, .int x4), (5, .int x5), (6, .int x6), (7, .int x7)] → zW G A s.heap (wM ad K I J B D) H locs → W p l e { frames := 4, cells := 0, slots := 0, locals := 96 } s m ([.ref (ad 0), .int a0] : List Value).toArray below meth c H locs 0 0 (MQ below (va_Qv (fun u : zS => Post u.1 u.2.1 u.2.2.1 u.2.2.2) (fun u t => zPost G K A (wM ad K u.1 u.2.1 u.2.2.1 u.2.2.2) t) A) ([.ref (ad 0), .int a0] : List Value).toArray s 0 0 A) (F0 m 167 ls []) := by
  obtain ⟨hx, hb, hr, hml, hts, hown, hlocks, hA, hK⟩ := id C
  intro x1 x2 x4 x5 x6 x7 I J B D ls H locs hok hl hw
  unfold wc_LassoFinderModel_expand_167 at hok
  obtain ⟨z5, ez5⟩ : ∃ z : Int32, z = (x7 + 1) := ⟨_, rfl⟩
  have hok := hok z5 ez5
  refine lv_iinc (v := z5) hx hb zd_LassoFinderModel_expand_167 hl (k := 6) rfl ez5.symm (by decide) rfl (fun ls hl => ?_)
  have hl : lv_has ls 8 [(7, .int z5), (0, .ref (ad 0)), (1, .int x1), (2, .long x2), (4, .int x4), (5, .int x5), (6, .int x6)] := hl
  refine lv_goto (tgt := 116) hx hb zd_LassoFinderModel_expand_170 (by decide) ?_
  exact kh116 x1 x2 x4 x5 x6 z5 I J B D ls H locs hok (lv_sub hl [1, 2, 3, 4, 5, 6, 0] rfl) hw
set_option maxHeartbeats 8000000 in
set_option maxRecDepth 100000 in
theorem wB_LassoFinderModel_expand_116 {p : Program} {l : Launch} {e : Env} {s : State} {m : MethodId} {below : List Frame} {meth : Method} {c : Code} {A : Nat → Prop} (G : va_G) (K : Nat → ClassId) (ad : Nat → Nat) (a0 : Int32) (Post : (Nat → Int32) → (Nat → Int64) → (Nat → Nat → Int32) → (Nat → Nat → Int64) → Prop) (C : zCx p s m ([.ref (ad 0), .int a0] : List Value).toArray meth c A G K prog_14_method_37_code none 8 "LassoFinderModel") (K28 : Int32 → Int64 → Int32 → (Nat → Int32) → (Nat → Int64) → (Nat → Nat → Int32) → (Nat → Nat → Int64) → Prop) (kh28 : ∀ (x1 : Int32) (x2 : Int64) (x4 : Int32) (I : Nat → Int32) (J : Nat → Int64) (B : Nat → Nat → Int32) (D : Nat → Nat → Int64) (ls : Array Slot) (H : Heap) (locs : List Loc), K28 x1 x2 x4 I J B D → lv_has ls 8 [(0, .ref (ad 0)), (1, .int x1), (2, .long x2), (4, .int x4)] → zW G A s.heap (wM ad K I J B D) H locs → W p l e { frames := 4, cells := 0, slots := 0, locals := 96 } s m ([.ref (ad 0), .int a0] : List Value).toArray below meth c H locs 0 0 (MQ below (va_Qv (fun u : zS => Post u.1 u.2.1 u.2.2.1 u.2.2.2) (fun u t => zPost G K A (wM ad K u.1 u.2.1 u.2.2.1 u.2.2.2) t) A) ([.ref (ad 0), .int a0] : List Value).toArray s 0 0 A) (F0 m 28 ls [])) (K116 : Int32 → Int64 → Int32 → Int32 → Int32 → Int32 → (Nat → Int32) → (Nat → Int64) → (Nat → Nat → Int32) → (Nat → Nat → Int64) → Prop) (kh116 : ∀ (x1 : Int32) (x2 : Int64) (x4 : Int32) (x5 : Int32) (x6 : Int32) (x7 : Int32) (I : Nat → Int32) (J : Nat → Int64) (B : Nat → Nat → Int32) (D : Nat → Nat → Int64) (ls : Array Slot) (H : Heap) (locs : List Loc), K116 x1 x2 x4 x5 x6 x7 I J B D → lv_has ls 8 [(0, .ref (ad 0)), (1, .int x1), (2, .long x2), (4, .int x4), (5, .int x5), (6, .int x6), (7, .int x7)] → zW G A s.heap (wM ad K I J B D) H locs → W p l e { frames := 4, cells := 0, slots := 0, locals := 96 } s m ([.ref (ad 0), .int a0] : List Value).toArray below meth c H locs 0 0 (MQ below (va_Qv (fun u : zS => Post u.1 u.2.1 u.2.2.1 u.2.2.2) (fun u t => zPost G K A (wM ad K u.1 u.2.1 u.2.2.1 u.2.2.2) t) A) ([.ref (ad 0), .int a0] : List Value).toArray s 0 0 A) (F0 m 116 ls [])) : ∀ (x1 : Int32) (x2 : Int64) (x4 : Int32) (x5 : Int32) (x6 : Int32) (x7 : Int32) (I : Nat → Int32) (J : Nat → Int64) (B : Nat → Nat → Int32) (D : Nat → Nat → Int64) (ls : Array Slot) (H : Heap) (locs : List Loc), wb_LassoFinderModel_expand_116 a0 K116 K28 Post x1 x2 x4 x5 x6 x7 I J B D → lv_has ls 8 [(0, .ref (ad 0)), (1, .int x1), (2, .long x2), (4, .int x4), (5, .int x5), (6, .int x6), (7, .int x7)] → zW G A s.heap (wM ad K I J B D) H locs → W p l e { frames := 4, cells := 0, slots := 0, locals := 96 } s m ([.ref (ad 0), .int a0] : List Value).toArray below meth c H locs 0 0 (MQ below (va_Qv (fun u : zS => Post u.1 u.2.1 u.2.2.1 u.2.2.2) (fun u t => zPost G K A (wM ad K u.1 u.2.1 u.2.2.1 u.2.2.2) t) A) ([.ref (ad 0), .int a0] : List Value).toArray s 0 0 A) (F0 m 116 ls []) := by
  obtain ⟨hx, hb, hr, hml, hts, hown, hlocks, hA, hK⟩ := id C
  intro x1 x2 x4 x5 x6 x7 I J B D ls H locs hok hl hw
  unfold wb_LassoFinderModel_expand_116 at hok
  refine lv_iload hx hb zd_LassoFinderModel_expand_116 (lv_at hl 6 rfl) ?_
  refine lv_aload_n hx hb zd_LassoFinderModel_expand_118 rfl (lv_at hl 0 rfl) ?_
  refine z_get (v := .int (I 9)) hx hb hts hown hK hw zZ12 0 wM_g0 27 (by decide) zm_303 rfl zd_LassoFinderModel_expand_119 ?_
  refine lv_icmp_ge (tgt := 173) hx hb zd_LassoFinderModel_expand_122 (by decide) (fun hc6 => ?_) (fun hc6 => ?_)
  · have hok := hok.1 hc6
    exact wJ_LassoFinderModel_expand_173 G K ad a0 Post C K28 kh28 x1 x2 x4 I J B D ls H locs hok (lv_sub hl [0, 1, 2, 3] rfl) hw
  · have hok := hok.2 hc6
    refine lv_iload hx hb zd_LassoFinderModel_expand_125 (lv_at hl 5 rfl) ?_
    refine lv_if_eq (tgt := 173) hx hb zd_LassoFinderModel_expand_127 (by decide) (fun hc7 => ?_) (fun hc7 => ?_)
    · have hok := hok.1 hc7
      exact wJ_LassoFinderModel_expand_173 G K ad a0 Post C K28 kh28 x1 x2 x4 I J B D ls H locs hok (lv_sub hl [0, 1, 2, 3] rfl) hw
    · have hok := hok.2 hc7
      refine lv_aload_n hx hb zd_LassoFinderModel_expand_130 rfl (lv_at hl 0 rfl) ?_
      refine z_get (v := .int (I 16)) hx hb hts hown hK hw zZ12 0 wM_g0 46 (by decide) zm_312 rfl zd_LassoFinderModel_expand_131 ?_
      refine lv_if_ne (tgt := 173) hx hb zd_LassoFinderModel_expand_134 (by decide) (fun hc8 => ?_) (fun hc8 => ?_)
      · have hok := hok.1 hc8
        exact wJ_LassoFinderModel_expand_173 G K ad a0 Post C K28 kh28 x1 x2 x4 I J B D ls H locs hok (lv_sub hl [0, 1, 2, 3] rfl) hw
      · have hok := hok.2 hc8
        refine lv_aload_n hx hb zd_LassoFinderModel_expand_137 rfl (lv_at hl 0 rfl) ?_
        refine lv_aload_n hx hb zd_LassoFinderModel_expand_138 rfl (lv_at hl 0 rfl) ?_
        refine z_get (v := .ref (ad 31)) hx hb hts hown hK hw zZ12 0 wM_g0 47 (by decide) zm_265 rfl zd_LassoFinderModel_expand_139 ?_
        refine lv_iload_n hx hb zd_LassoFinderModel_expand_142 rfl (lv_at hl 1 rfl) ?_
        refine va_lald (f := (D 1)) hx hb hK hw.1 31 1 wM_a31 rfl hok.1 zd_LassoFinderModel_expand_143 ?_
        have hok := hok.2
        refine lv_topl (fun z9 ez9 => ?_)
        have hok := hok z9 ez9
        refine z_callv (w1 := fun (u : zS) => wM ad K u.1 u.2.1 u.2.2.1 u.2.2.2) (wr := []) (z_runV (q0 := 0) (wc := (wM ad K I J B D)) (As := [.long z9]) (rest := []) ⟨hx, hb, hml, hown, hts⟩ (w_LassoFinderModel_unpack l G K ad I J B D z9 _ H.size hok) zf_LassoFinderModel_unpack zm_315 ⟨Nat.le_of_ble_eq_true rfl, Nat.le_of_ble_eq_true rfl⟩ hK hw (List.range 58) wM_all wM_nd wM_g0 rfl rfl hl.1 rfl (Nat.le_of_ble_eq_true rfl) zd_LassoFinderModel_expand_144 ⟨Nat.le_of_ble_eq_true rfl, Nat.le_of_ble_eq_true rfl⟩) hw hA (List.range 58) [] wM_all rfl (by decide) (fun i hi => by cases hi) (fun u H locs hok hw => ?_)
        obtain ⟨I10, J10, B10, D10⟩ := u
        dsimp only at hok
        have hw : zW G A s.heap (wM ad K I10 J10 B10 D10) H locs := hw
        refine lv_aload_n hx hb zd_LassoFinderModel_expand_147 rfl (lv_at hl 0 rfl) ?_
        refine lv_iload hx hb zd_LassoFinderModel_expand_148 (lv_at hl 4 rfl) ?_
        refine lv_iload hx hb zd_LassoFinderModel_expand_150 (lv_at hl 6 rfl) ?_
        refine z_calli (w1 := fun (u : zS) => wM ad K u.1 u.2.1 u.2.2.1 u.2.2.2) (wr := []) (z_runV (q0 := 0) (wc := (wM ad K I10 J10 B10 D10)) (As := [.int x5, .int x7]) (rest := []) ⟨hx, hb, hml, hown, hts⟩ (w_LassoFinderModel_meets l G K ad I10 J10 B10 D10 x5 x7 _ H.size hok) zf_LassoFinderModel_meets zm_318 ⟨Nat.le_of_ble_eq_true rfl, Nat.le_of_ble_eq_true rfl⟩ hK hw (List.range 58) wM_all wM_nd wM_g0 rfl rfl hl.1 rfl (Nat.le_of_ble_eq_true rfl) zd_LassoFinderModel_expand_152 ⟨Nat.le_of_ble_eq_true rfl, Nat.le_of_ble_eq_true rfl⟩) hw hA (List.range 58) [] wM_all rfl (by decide) (fun i hi => by cases hi) (fun r11 u H locs hok hw => ?_)
        obtain ⟨I11, J11, B11, D11⟩ := u
        dsimp only at hok
        have hw : zW G A s.heap (wM ad K I11 J11 B11 D11) H locs := hw
        refine lv_if_eq (tgt := 167) hx hb zd_LassoFinderModel_expand_155 (by decide) (fun hc12 => ?_) (fun hc12 => ?_)
        · have hok := hok.1 hc12
          exact wJ_LassoFinderModel_expand_167 G K ad a0 Post C K28 kh28 K116 kh116 x1 x2 x4 x5 x6 x7 I11 J11 B11 D11 ls H locs hok (lv_sub hl [0, 1, 2, 3, 4, 5, 6] rfl) hw
        · have hok := hok.2 hc12
          refine lv_aload_n hx hb zd_LassoFinderModel_expand_158 rfl (lv_at hl 0 rfl) ?_
          refine lv_iload_n hx hb zd_LassoFinderModel_expand_159 rfl (lv_at hl 1 rfl) ?_
          refine lv_iload hx hb zd_LassoFinderModel_expand_160 (lv_at hl 3 rfl) ?_
          refine lv_iload hx hb zd_LassoFinderModel_expand_162 (lv_at hl 6 rfl) ?_
          refine z_callv (w1 := fun (u : zS) => wM ad K u.1 u.2.1 u.2.2.1 u.2.2.2) (wr := []) (z_runV (q0 := 0) (wc := (wM ad K I11 J11 B11 D11)) (As := [.int x1, .int x4, .int x7]) (rest := []) ⟨hx, hb, hml, hown, hts⟩ (w_LassoFinderModel_step l G K ad I11 J11 B11 D11 x1 x4 x7 _ H.size hok) zf_LassoFinderModel_step zm_317 ⟨Nat.le_of_ble_eq_true rfl, Nat.le_of_ble_eq_true rfl⟩ hK hw (List.range 58) wM_all wM_nd wM_g0 rfl rfl hl.1 rfl (Nat.le_of_ble_eq_true rfl) zd_LassoFinderModel_expand_164 ⟨Nat.le_of_ble_eq_true rfl, Nat.le_of_ble_eq_true rfl⟩) hw hA (List.range 58) [] wM_all rfl (by decide) (fun i hi => by cases hi) (fun u H locs hok hw => ?_)
          obtain ⟨I13, J13, B13, D13⟩ := u
          dsimp only at hok
          have hw : zW G A s.heap (wM ad K I13 J13 B13 D13) H locs := hw
          exact wJ_LassoFinderModel_expand_167 G K ad a0 Post C K28 kh28 K116 kh116 x1 x2 x4 x5 x6 x7 I13 J13 B13 D13 ls H locs hok (lv_sub hl [0, 1, 2, 3, 4, 5, 6] rfl) hw
theorem wL_LassoFinderModel_expand_116 {p : Program} {l : Launch} {e : Env} {s : State} {m : MethodId} {below : List Frame} {meth : Method} {c : Code} {A : Nat → Prop} (G : va_G) (K : Nat → ClassId) (ad : Nat → Nat) (a0 : Int32) (Post : (Nat → Int32) → (Nat → Int64) → (Nat → Nat → Int32) → (Nat → Nat → Int64) → Prop) (C : zCx p s m ([.ref (ad 0), .int a0] : List Value).toArray meth c A G K prog_14_method_37_code none 8 "LassoFinderModel") (K28 : Int32 → Int64 → Int32 → (Nat → Int32) → (Nat → Int64) → (Nat → Nat → Int32) → (Nat → Nat → Int64) → Prop) (kh28 : ∀ (x1 : Int32) (x2 : Int64) (x4 : Int32) (I : Nat → Int32) (J : Nat → Int64) (B : Nat → Nat → Int32) (D : Nat → Nat → Int64) (ls : Array Slot) (H : Heap) (locs : List Loc), K28 x1 x2 x4 I J B D → lv_has ls 8 [(0, .ref (ad 0)), (1, .int x1), (2, .long x2), (4, .int x4)] → zW G A s.heap (wM ad K I J B D) H locs → W p l e { frames := 4, cells := 0, slots := 0, locals := 96 } s m ([.ref (ad 0), .int a0] : List Value).toArray below meth c H locs 0 0 (MQ below (va_Qv (fun u : zS => Post u.1 u.2.1 u.2.2.1 u.2.2.2) (fun u t => zPost G K A (wM ad K u.1 u.2.1 u.2.2.1 u.2.2.2) t) A) ([.ref (ad 0), .int a0] : List Value).toArray s 0 0 A) (F0 m 28 ls [])) : ∀ (n : Nat) (x1 : Int32) (x2 : Int64) (x4 : Int32) (x5 : Int32) (x6 : Int32) (x7 : Int32) (I : Nat → Int32) (J : Nat → Int64) (B : Nat → Nat → Int32) (D : Nat → Nat → Int64) (ls : Array Slot) (H : Heap) (locs : List Loc), wl_LassoFinderModel_expand_116 a0 K28 Post n x1 x2 x4 x5 x6 x7 I J B D → lv_has ls 8 [(0, .ref (ad 0)), (1, .int x1), (2, .long x2), (4, .int x4), (5, .int x5), (6, .int x6), (7, .int x7)] → zW G A s.heap (wM ad K I J B D) H locs → W p l e { frames := 4, cells := 0, slots := 0, locals := 96 } s m ([.ref (ad 0), .int a0] : List Value).toArray below meth c H locs 0 0 (MQ below (va_Qv (fun u : zS => Post u.1 u.2.1 u.2.2.1 u.2.2.2) (fun u t => zPost G K A (wM ad K u.1 u.2.1 u.2.2.1 u.2.2.2) t) A) ([.ref (ad 0), .int a0] : List Value).toArray s 0 0 A) (F0 m 116 ls []) := by
  intro n
  induction n with
  | zero => intro x1 x2 x4 x5 x6 x7 I J B D ls H locs hok; exact hok.elim
  | succ n ih => exact wB_LassoFinderModel_expand_116 G K ad a0 Post C K28 kh28 (wl_LassoFinderModel_expand_116 a0 K28 Post n) ih
set_option maxHeartbeats 8000000 in
set_option maxRecDepth 100000 in
theorem wJ_LassoFinderModel_expand_113 {p : Program} {l : Launch} {e : Env} {s : State} {m : MethodId} {below : List Frame} {meth : Method} {c : Code} {A : Nat → Prop} (G : va_G) (K : Nat → ClassId) (ad : Nat → Nat) (a0 : Int32) (Post : (Nat → Int32) → (Nat → Int64) → (Nat → Nat → Int32) → (Nat → Nat → Int64) → Prop) (C : zCx p s m ([.ref (ad 0), .int a0] : List Value).toArray meth c A G K prog_14_method_37_code none 8 "LassoFinderModel") (K28 : Int32 → Int64 → Int32 → (Nat → Int32) → (Nat → Int64) → (Nat → Nat → Int32) → (Nat → Nat → Int64) → Prop) (kh28 : ∀ (x1 : Int32) (x2 : Int64) (x4 : Int32) (I : Nat → Int32) (J : Nat → Int64) (B : Nat → Nat → Int32) (D : Nat → Nat → Int64) (ls : Array Slot) (H : Heap) (locs : List Loc), K28 x1 x2 x4 I J B D → lv_has ls 8 [(0, .ref (ad 0)), (1, .int x1), (2, .long x2), (4, .int x4)] → zW G A s.heap (wM ad K I J B D) H locs → W p l e { frames := 4, cells := 0, slots := 0, locals := 96 } s m ([.ref (ad 0), .int a0] : List Value).toArray below meth c H locs 0 0 (MQ below (va_Qv (fun u : zS => Post u.1 u.2.1 u.2.2.1 u.2.2.2) (fun u t => zPost G K A (wM ad K u.1 u.2.1 u.2.2.1 u.2.2.2) t) A) ([.ref (ad 0), .int a0] : List Value).toArray s 0 0 A) (F0 m 28 ls [])) : ∀ (x1 : Int32) (x2 : Int64) (x4 : Int32) (x5 : Int32) (x6 : Int32) (I : Nat → Int32) (J : Nat → Int64) (B : Nat → Nat → Int32) (D : Nat → Nat → Int64) (ls : Array Slot) (H : Heap) (locs : List Loc), wc_LassoFinderModel_expand_113 a0 K28 Post x1 x2 x4 x5 x6 I J B D → lv_has ls 8 [(0, .ref (ad 0)), (1, .int x1), (2, .long x2), (4, .int x4), (5, .int x5), (6, .int x6)] → zW G A s.heap (wM ad K I J B D) H locs → W p l e { frames := 4, cells := 0, slots := 0, locals := 96 } s m ([.ref (ad 0), .int a0] : List Value).toArray below meth c H locs 0 0 (MQ below (va_Qv (fun u : zS => Post u.1 u.2.1 u.2.2.1 u.2.2.2) (fun u t => zPost G K A (wM ad K u.1 u.2.1 u.2.2.1 u.2.2.2) t) A) ([.ref (ad 0), .int a0] : List Value).toArray s 0 0 A) (F0 m 113 ls []) := by
  obtain ⟨hx, hb, hr, hml, hts, hown, hlocks, hA, hK⟩ := id C
  intro x1 x2 x4 x5 x6 I J B D ls H locs hok hl hw
  unfold wc_LassoFinderModel_expand_113 at hok
  refine lv_iconst (v := 0) hx hb zd_LassoFinderModel_expand_113 (by decide) ?_
  refine lv_istore hx hb zd_LassoFinderModel_expand_114 hl (by decide) rfl (fun ls hl => ?_)
  have hl : lv_has ls 8 [(7, .int 0), (0, .ref (ad 0)), (1, .int x1), (2, .long x2), (4, .int x4), (5, .int x5), (6, .int x6)] := hl
  obtain ⟨n9, hok⟩ := hok
  exact wL_LassoFinderModel_expand_116 G K ad a0 Post C K28 kh28 n9 x1 x2 x4 x5 x6 0 I J B D ls H locs hok (lv_sub hl [1, 2, 3, 4, 5, 6, 0] rfl) hw
set_option maxHeartbeats 8000000 in
set_option maxRecDepth 100000 in
theorem wJ_LassoFinderModel_expand_98 {p : Program} {l : Launch} {e : Env} {s : State} {m : MethodId} {below : List Frame} {meth : Method} {c : Code} {A : Nat → Prop} (G : va_G) (K : Nat → ClassId) (ad : Nat → Nat) (a0 : Int32) (Post : (Nat → Int32) → (Nat → Int64) → (Nat → Nat → Int32) → (Nat → Nat → Int64) → Prop) (C : zCx p s m ([.ref (ad 0), .int a0] : List Value).toArray meth c A G K prog_14_method_37_code none 8 "LassoFinderModel") (K28 : Int32 → Int64 → Int32 → (Nat → Int32) → (Nat → Int64) → (Nat → Nat → Int32) → (Nat → Nat → Int64) → Prop) (kh28 : ∀ (x1 : Int32) (x2 : Int64) (x4 : Int32) (I : Nat → Int32) (J : Nat → Int64) (B : Nat → Nat → Int32) (D : Nat → Nat → Int64) (ls : Array Slot) (H : Heap) (locs : List Loc), K28 x1 x2 x4 I J B D → lv_has ls 8 [(0, .ref (ad 0)), (1, .int x1), (2, .long x2), (4, .int x4)] → zW G A s.heap (wM ad K I J B D) H locs → W p l e { frames := 4, cells := 0, slots := 0, locals := 96 } s m ([.ref (ad 0), .int a0] : List Value).toArray below meth c H locs 0 0 (MQ below (va_Qv (fun u : zS => Post u.1 u.2.1 u.2.2.1 u.2.2.2) (fun u t => zPost G K A (wM ad K u.1 u.2.1 u.2.2.1 u.2.2.2) t) A) ([.ref (ad 0), .int a0] : List Value).toArray s 0 0 A) (F0 m 28 ls [])) : ∀ (x1 : Int32) (x2 : Int64) (x4 : Int32) (x5 : Int32) (y0 : Int32) (I : Nat → Int32) (J : Nat → Int64) (B : Nat → Nat → Int32) (D : Nat → Nat → Int64) (ls : Array Slot) (H : Heap) (locs : List Loc), wc_LassoFinderModel_expand_98 a0 K28 Post x1 x2 x4 x5 y0 I J B D → lv_has ls 8 [(0, .ref (ad 0)), (1, .int x1), (2, .long x2), (4, .int x4), (5, .int x5)] → zW G A s.heap (wM ad K I J B D) H locs → W p l e { frames := 4, cells := 0, slots := 0, locals := 96 } s m ([.ref (ad 0), .int a0] : List Value).toArray below meth c H locs 0 0 (MQ below (va_Qv (fun u : zS => Post u.1 u.2.1 u.2.2.1 u.2.2.2) (fun u t => zPost G K A (wM ad K u.1 u.2.1 u.2.2.1 u.2.2.2) t) A) ([.ref (ad 0), .int a0] : List Value).toArray s 0 0 A) (F0 m 98 ls [.int y0]) := by
  obtain ⟨hx, hb, hr, hml, hts, hown, hlocks, hA, hK⟩ := id C
  intro x1 x2 x4 x5 y0 I J B D ls H locs hok hl hw
  unfold wc_LassoFinderModel_expand_98 at hok
  refine lv_istore hx hb zd_LassoFinderModel_expand_98 hl (by decide) rfl (fun ls hl => ?_)
  have hl : lv_has ls 8 [(6, .int y0), (0, .ref (ad 0)), (1, .int x1), (2, .long x2), (4, .int x4), (5, .int x5)] := hl
  refine lv_iload hx hb zd_LassoFinderModel_expand_100 (lv_at hl 0 rfl) ?_
  refine lv_if_ne (tgt := 113) hx hb zd_LassoFinderModel_expand_102 (by decide) (fun hc14 => ?_) (fun hc14 => ?_)
  · have hok := hok.1 hc14
    exact wJ_LassoFinderModel_expand_113 G K ad a0 Post C K28 kh28 x1 x2 x4 x5 y0 I J B D ls H locs hok (lv_sub hl [1, 2, 3, 4, 5, 0] rfl) hw
  · have hok := hok.2 hc14
    refine lv_aload_n hx hb zd_LassoFinderModel_expand_105 rfl (lv_at hl 1 rfl) ?_
    refine lv_iload_n hx hb zd_LassoFinderModel_expand_106 rfl (lv_at hl 2 rfl) ?_
    refine lv_iload hx hb zd_LassoFinderModel_expand_107 (lv_at hl 4 rfl) ?_
    refine lv_iconst (v := (-1)) hx hb zd_LassoFinderModel_expand_109 (by decide) ?_
    refine z_callv (w1 := fun (u : zS) => wM ad K u.1 u.2.1 u.2.2.1 u.2.2.2) (wr := []) (z_runV (q0 := 0) (wc := (wM ad K I J B D)) (As := [.int x1, .int x4, .int (-1)]) (rest := []) ⟨hx, hb, hml, hown, hts⟩ (w_LassoFinderModel_step l G K ad I J B D x1 x4 (-1) _ H.size hok) zf_LassoFinderModel_step zm_317 ⟨Nat.le_of_ble_eq_true rfl, Nat.le_of_ble_eq_true rfl⟩ hK hw (List.range 58) wM_all wM_nd wM_g0 rfl rfl hl.1 rfl (Nat.le_of_ble_eq_true rfl) zd_LassoFinderModel_expand_110 ⟨Nat.le_of_ble_eq_true rfl, Nat.le_of_ble_eq_true rfl⟩) hw hA (List.range 58) [] wM_all rfl (by decide) (fun i hi => by cases hi) (fun u H locs hok hw => ?_)
    obtain ⟨I15, J15, B15, D15⟩ := u
    dsimp only at hok
    have hw : zW G A s.heap (wM ad K I15 J15 B15 D15) H locs := hw
    exact wJ_LassoFinderModel_expand_113 G K ad a0 Post C K28 kh28 x1 x2 x4 x5 y0 I15 J15 B15 D15 ls H locs hok (lv_sub hl [1, 2, 3, 4, 5, 0] rfl) hw
set_option maxHeartbeats 8000000 in
set_option maxRecDepth 100000 in
theorem wJ_LassoFinderModel_expand_97 {p : Program} {l : Launch} {e : Env} {s : State} {m : MethodId} {below : List Frame} {meth : Method} {c : Code} {A : Nat → Prop} (G : va_G) (K : Nat → ClassId) (ad : Nat → Nat) (a0 : Int32) (Post : (Nat → Int32) → (Nat → Int64) → (Nat → Nat → Int32) → (Nat → Nat → Int64) → Prop) (C : zCx p s m ([.ref (ad 0), .int a0] : List Value).toArray meth c A G K prog_14_method_37_code none 8 "LassoFinderModel") (K28 : Int32 → Int64 → Int32 → (Nat → Int32) → (Nat → Int64) → (Nat → Nat → Int32) → (Nat → Nat → Int64) → Prop) (kh28 : ∀ (x1 : Int32) (x2 : Int64) (x4 : Int32) (I : Nat → Int32) (J : Nat → Int64) (B : Nat → Nat → Int32) (D : Nat → Nat → Int64) (ls : Array Slot) (H : Heap) (locs : List Loc), K28 x1 x2 x4 I J B D → lv_has ls 8 [(0, .ref (ad 0)), (1, .int x1), (2, .long x2), (4, .int x4)] → zW G A s.heap (wM ad K I J B D) H locs → W p l e { frames := 4, cells := 0, slots := 0, locals := 96 } s m ([.ref (ad 0), .int a0] : List Value).toArray below meth c H locs 0 0 (MQ below (va_Qv (fun u : zS => Post u.1 u.2.1 u.2.2.1 u.2.2.2) (fun u t => zPost G K A (wM ad K u.1 u.2.1 u.2.2.1 u.2.2.2) t) A) ([.ref (ad 0), .int a0] : List Value).toArray s 0 0 A) (F0 m 28 ls [])) : ∀ (x1 : Int32) (x2 : Int64) (x4 : Int32) (x5 : Int32) (I : Nat → Int32) (J : Nat → Int64) (B : Nat → Nat → Int32) (D : Nat → Nat → Int64) (ls : Array Slot) (H : Heap) (locs : List Loc), wc_LassoFinderModel_expand_97 a0 K28 Post x1 x2 x4 x5 I J B D → lv_has ls 8 [(0, .ref (ad 0)), (1, .int x1), (2, .long x2), (4, .int x4), (5, .int x5)] → zW G A s.heap (wM ad K I J B D) H locs → W p l e { frames := 4, cells := 0, slots := 0, locals := 96 } s m ([.ref (ad 0), .int a0] : List Value).toArray below meth c H locs 0 0 (MQ below (va_Qv (fun u : zS => Post u.1 u.2.1 u.2.2.1 u.2.2.2) (fun u t => zPost G K A (wM ad K u.1 u.2.1 u.2.2.1 u.2.2.2) t) A) ([.ref (ad 0), .int a0] : List Value).toArray s 0 0 A) (F0 m 97 ls []) := by
  obtain ⟨hx, hb, hr, hml, hts, hown, hlocks, hA, hK⟩ := id C
  intro x1 x2 x4 x5 I J B D ls H locs hok hl hw
  unfold wc_LassoFinderModel_expand_97 at hok
  refine lv_iconst (v := 0) hx hb zd_LassoFinderModel_expand_97 (by decide) ?_
  exact wJ_LassoFinderModel_expand_98 G K ad a0 Post C K28 kh28 x1 x2 x4 x5 0 I J B D ls H locs hok (lv_sub hl [0, 1, 2, 3, 4] rfl) hw
set_option maxHeartbeats 8000000 in
set_option maxRecDepth 100000 in
theorem wB_LassoFinderModel_expand_28 {p : Program} {l : Launch} {e : Env} {s : State} {m : MethodId} {below : List Frame} {meth : Method} {c : Code} {A : Nat → Prop} (G : va_G) (K : Nat → ClassId) (ad : Nat → Nat) (a0 : Int32) (Post : (Nat → Int32) → (Nat → Int64) → (Nat → Nat → Int32) → (Nat → Nat → Int64) → Prop) (C : zCx p s m ([.ref (ad 0), .int a0] : List Value).toArray meth c A G K prog_14_method_37_code none 8 "LassoFinderModel") (K28 : Int32 → Int64 → Int32 → (Nat → Int32) → (Nat → Int64) → (Nat → Nat → Int32) → (Nat → Nat → Int64) → Prop) (kh28 : ∀ (x1 : Int32) (x2 : Int64) (x4 : Int32) (I : Nat → Int32) (J : Nat → Int64) (B : Nat → Nat → Int32) (D : Nat → Nat → Int64) (ls : Array Slot) (H : Heap) (locs : List Loc), K28 x1 x2 x4 I J B D → lv_has ls 8 [(0, .ref (ad 0)), (1, .int x1), (2, .long x2), (4, .int x4)] → zW G A s.heap (wM ad K I J B D) H locs → W p l e { frames := 4, cells := 0, slots := 0, locals := 96 } s m ([.ref (ad 0), .int a0] : List Value).toArray below meth c H locs 0 0 (MQ below (va_Qv (fun u : zS => Post u.1 u.2.1 u.2.2.1 u.2.2.2) (fun u t => zPost G K A (wM ad K u.1 u.2.1 u.2.2.1 u.2.2.2) t) A) ([.ref (ad 0), .int a0] : List Value).toArray s 0 0 A) (F0 m 28 ls [])) : ∀ (x1 : Int32) (x2 : Int64) (x4 : Int32) (I : Nat → Int32) (J : Nat → Int64) (B : Nat → Nat → Int32) (D : Nat → Nat → Int64) (ls : Array Slot) (H : Heap) (locs : List Loc), wb_LassoFinderModel_expand_28 a0 K28 Post x1 x2 x4 I J B D → lv_has ls 8 [(0, .ref (ad 0)), (1, .int x1), (2, .long x2), (4, .int x4)] → zW G A s.heap (wM ad K I J B D) H locs → W p l e { frames := 4, cells := 0, slots := 0, locals := 96 } s m ([.ref (ad 0), .int a0] : List Value).toArray below meth c H locs 0 0 (MQ below (va_Qv (fun u : zS => Post u.1 u.2.1 u.2.2.1 u.2.2.2) (fun u t => zPost G K A (wM ad K u.1 u.2.1 u.2.2.1 u.2.2.2) t) A) ([.ref (ad 0), .int a0] : List Value).toArray s 0 0 A) (F0 m 28 ls []) := by
  obtain ⟨hx, hb, hr, hml, hts, hown, hlocks, hA, hK⟩ := id C
  intro x1 x2 x4 I J B D ls H locs hok hl hw
  unfold wb_LassoFinderModel_expand_28 at hok
  refine lv_iload hx hb zd_LassoFinderModel_expand_28 (lv_at hl 3 rfl) ?_
  refine lv_aload_n hx hb zd_LassoFinderModel_expand_30 rfl (lv_at hl 0 rfl) ?_
  refine z_get (v := .int (I 9)) hx hb hts hown hK hw zZ12 0 wM_g0 27 (by decide) zm_303 rfl zd_LassoFinderModel_expand_31 ?_
  refine lv_icmp_ge (tgt := 179) hx hb zd_LassoFinderModel_expand_34 (by decide) (fun hc16 => ?_) (fun hc16 => ?_)
  · have hok := hok.1 hc16
    exact wJ_LassoFinderModel_expand_179 G K ad a0 Post C x1 x2 I J B D ls H locs hok (lv_sub hl [0, 1, 2] rfl) hw
  · have hok := hok.2 hc16
    refine lv_aload_n hx hb zd_LassoFinderModel_expand_37 rfl (lv_at hl 0 rfl) ?_
    refine z_get (v := .int (I 16)) hx hb hts hown hK hw zZ12 0 wM_g0 46 (by decide) zm_312 rfl zd_LassoFinderModel_expand_38 ?_
    refine lv_if_ne (tgt := 179) hx hb zd_LassoFinderModel_expand_41 (by decide) (fun hc17 => ?_) (fun hc17 => ?_)
    · have hok := hok.1 hc17
      exact wJ_LassoFinderModel_expand_179 G K ad a0 Post C x1 x2 I J B D ls H locs hok (lv_sub hl [0, 1, 2] rfl) hw
    · have hok := hok.2 hc17
      refine lv_lload_n hx hb zd_LassoFinderModel_expand_44 rfl (lv_at hl 2 rfl) ?_
      refine lv_iload hx hb zd_LassoFinderModel_expand_45 (lv_at hl 3 rfl) ?_
      refine lv_lshr hx hb zd_LassoFinderModel_expand_47 rfl ?_
      refine lv_topl (fun z18 ez18 => ?_)
      have hok := hok z18 ez18
      refine lv_lconst (v := 1) hx hb zd_LassoFinderModel_expand_48 (by decide) ?_
      refine lv_land hx hb zd_LassoFinderModel_expand_49 ?_
      refine lv_topl (fun z19 ez19 => ?_)
      have hok := hok z19 ez19
      refine lv_lconst (v := 0) hx hb zd_LassoFinderModel_expand_50 (by decide) ?_
      refine W.lcmp hx hb zd_LassoFinderModel_expand_51 ?_
      refine lv_topi (fun z20 ez20 => ?_)
      have hok := hok z20 ez20
      refine lv_if_ne (tgt := 58) hx hb zd_LassoFinderModel_expand_52 (by decide) (fun hc21 => ?_) (fun hc21 => ?_)
      · have hok := hok.1 hc21
        refine lv_aload_n hx hb zd_LassoFinderModel_expand_58 rfl (lv_at hl 0 rfl) ?_
        refine z_get (v := .ref (ad 19)) hx hb hts hown hK hw zZ12 0 wM_g0 28 (by decide) zm_253 rfl zd_LassoFinderModel_expand_59 ?_
        refine lv_iload hx hb zd_LassoFinderModel_expand_62 (lv_at hl 3 rfl) ?_
        refine va_iald (f := (B 18)) hx hb hK hw.1 19 0 wM_a19 rfl hok.1 zd_LassoFinderModel_expand_64 ?_
        have hok := hok.2
        refine lv_topi (fun z22 ez22 => ?_)
        have hok := hok z22 ez22
        refine lv_istore hx hb zd_LassoFinderModel_expand_65 hl (by decide) rfl (fun ls hl => ?_)
        have hl : lv_has ls 8 [(5, .int z22), (0, .ref (ad 0)), (1, .int x1), (2, .long x2), (4, .int x4)] := hl
        refine lv_aload_n hx hb zd_LassoFinderModel_expand_67 rfl (lv_at hl 1 rfl) ?_
        refine z_get (v := .ref (ad 6)) hx hb hts hown hK hw zZ12 0 wM_g0 14 (by decide) zm_240 rfl zd_LassoFinderModel_expand_68 ?_
        refine lv_iload hx hb zd_LassoFinderModel_expand_71 (lv_at hl 0 rfl) ?_
        refine va_iald (f := (B 5)) hx hb hK hw.1 6 0 wM_a6 rfl hok.1 zd_LassoFinderModel_expand_73 ?_
        have hok := hok.2
        refine lv_topi (fun z23 ez23 => ?_)
        have hok := hok z23 ez23
        refine lv_iconst (v := 2) hx hb zd_LassoFinderModel_expand_74 (by decide) ?_
        refine lv_icmp_ne (tgt := 97) hx hb zd_LassoFinderModel_expand_75 (by decide) (fun hc24 => ?_) (fun hc24 => ?_)
        · have hok := hok.1 hc24
          exact wJ_LassoFinderModel_expand_97 G K ad a0 Post C K28 kh28 x1 x2 x4 z22 I J B D ls H locs hok (lv_sub hl [1, 2, 3, 4, 0] rfl) hw
        · have hok := hok.2 hc24
          refine lv_aload_n hx hb zd_LassoFinderModel_expand_78 rfl (lv_at hl 1 rfl) ?_
          refine z_get (v := .ref (ad 5)) hx hb hts hown hK hw zZ12 0 wM_g0 12 (by decide) zm_239 rfl zd_LassoFinderModel_expand_79 ?_
          refine lv_aload_n hx hb zd_LassoFinderModel_expand_82 rfl (lv_at hl 1 rfl) ?_
          refine z_get (v := .ref (ad 13)) hx hb hts hown hK hw zZ12 0 wM_g0 21 (by decide) zm_247 rfl zd_LassoFinderModel_expand_83 ?_
          refine lv_iload hx hb zd_LassoFinderModel_expand_86 (lv_at hl 0 rfl) ?_
          refine va_iald (f := (B 12)) hx hb hK hw.1 13 0 wM_a13 rfl hok.1 zd_LassoFinderModel_expand_88 ?_
          have hok := hok.2
          refine lv_topi (fun z25 ez25 => ?_)
          have hok := hok z25 ez25
          refine va_iald (f := (B 4)) hx hb hK hw.1 5 0 wM_a5 rfl hok.1 zd_LassoFinderModel_expand_89 ?_
          have hok := hok.2
          refine lv_topi (fun z26 ez26 => ?_)
          have hok := hok z26 ez26
          refine lv_if_ne (tgt := 97) hx hb zd_LassoFinderModel_expand_90 (by decide) (fun hc27 => ?_) (fun hc27 => ?_)
          · have hok := hok.1 hc27
            exact wJ_LassoFinderModel_expand_97 G K ad a0 Post C K28 kh28 x1 x2 x4 z22 I J B D ls H locs hok (lv_sub hl [1, 2, 3, 4, 0] rfl) hw
          · have hok := hok.2 hc27
            refine lv_iconst (v := 1) hx hb zd_LassoFinderModel_expand_93 (by decide) ?_
            refine lv_goto (tgt := 98) hx hb zd_LassoFinderModel_expand_94 (by decide) ?_
            exact wJ_LassoFinderModel_expand_98 G K ad a0 Post C K28 kh28 x1 x2 x4 z22 1 I J B D ls H locs hok (lv_sub hl [1, 2, 3, 4, 0] rfl) hw
      · have hok := hok.2 hc21
        refine lv_goto (tgt := 173) hx hb zd_LassoFinderModel_expand_55 (by decide) ?_
        exact wJ_LassoFinderModel_expand_173 G K ad a0 Post C K28 kh28 x1 x2 x4 I J B D ls H locs hok (lv_sub hl [0, 1, 2, 3] rfl) hw
theorem wL_LassoFinderModel_expand_28 {p : Program} {l : Launch} {e : Env} {s : State} {m : MethodId} {below : List Frame} {meth : Method} {c : Code} {A : Nat → Prop} (G : va_G) (K : Nat → ClassId) (ad : Nat → Nat) (a0 : Int32) (Post : (Nat → Int32) → (Nat → Int64) → (Nat → Nat → Int32) → (Nat → Nat → Int64) → Prop) (C : zCx p s m ([.ref (ad 0), .int a0] : List Value).toArray meth c A G K prog_14_method_37_code none 8 "LassoFinderModel") : ∀ (n : Nat) (x1 : Int32) (x2 : Int64) (x4 : Int32) (I : Nat → Int32) (J : Nat → Int64) (B : Nat → Nat → Int32) (D : Nat → Nat → Int64) (ls : Array Slot) (H : Heap) (locs : List Loc), wl_LassoFinderModel_expand_28 a0 Post n x1 x2 x4 I J B D → lv_has ls 8 [(0, .ref (ad 0)), (1, .int x1), (2, .long x2), (4, .int x4)] → zW G A s.heap (wM ad K I J B D) H locs → W p l e { frames := 4, cells := 0, slots := 0, locals := 96 } s m ([.ref (ad 0), .int a0] : List Value).toArray below meth c H locs 0 0 (MQ below (va_Qv (fun u : zS => Post u.1 u.2.1 u.2.2.1 u.2.2.2) (fun u t => zPost G K A (wM ad K u.1 u.2.1 u.2.2.1 u.2.2.2) t) A) ([.ref (ad 0), .int a0] : List Value).toArray s 0 0 A) (F0 m 28 ls []) := by
  intro n
  induction n with
  | zero => intro x1 x2 x4 I J B D ls H locs hok; exact hok.elim
  | succ n ih => exact wB_LassoFinderModel_expand_28 G K ad a0 Post C (wl_LassoFinderModel_expand_28 a0 Post n) ih
set_option maxHeartbeats 8000000 in
set_option maxRecDepth 100000 in
theorem w_LassoFinderModel_expand (l : Launch) (G : va_G) (K : Nat → ClassId) (ad : Nat → Nat) (I : Nat → Int32) (J : Nat → Int64) (B : Nat → Nat → Int32) (D : Nat → Nat → Int64) (a0 : Int32) (Post : (Nat → Int32) → (Nat → Int64) → (Nat → Nat → Int32) → (Nat → Nat → Int64) → Prop) (sz : Nat) (hok : wp_LassoFinderModel_expand I J B D a0 Post) : Met l zy_LassoFinderModel_expand (Cond.code zy_LassoFinderModel_expand prog_14_method_37_code 8 none :: zTB) { frames := 4, cells := 0, slots := 0, locals := 96 } (va_Pc [.ref (ad 0), .int a0] (zPre G K (wM ad K I J B D) sz)) (va_Qv (fun u : zS => Post u.1 u.2.1 u.2.2.1 u.2.2.2) (fun u t => zPost G K (va_A (wM ad K I J B D) sz) (wM ad K u.1 u.2.1 u.2.2.1 u.2.2.2) t) (va_A (wM ad K I J B D) sz)) 0 0 (va_A (wM ad K I J B D) sz) := by
  refine zMet (y := zy_LassoFinderModel_expand) (av := [.ref (ad 0), .int a0]) (maxL := 8) (cc := prog_14_method_37_code) (ret := none) (W0 := (wM ad K I J B D)) (sz := sz) (G := G) (K := K) (wt := zTB) (mc := 0) (ms := 0) (Qf := fun A => va_Qv (fun u : zS => Post u.1 u.2.1 u.2.2.1 u.2.2.2) (fun u t => zPost G K A (wM ad K u.1 u.2.1 u.2.2.1 u.2.2.2) t) A) (by decide) (Nat.le_of_ble_eq_true rfl) ?_
  intro p e s m below meth c ls A hx hb hr hml hts hown hlocks hin hA hK H locs hw hsz hl
  clear hsz
  have hown : s.vm.findClass "LassoFinderModel" = some m.cls := hown
  have C : zCx p s m ([.ref (ad 0), .int a0] : List Value).toArray meth c A G K prog_14_method_37_code none 8 "LassoFinderModel" := ⟨hx, hb, hr, hml, hts, hown, hlocks, hA, hK⟩
  have hl : lv_has ls 8 [(0, .ref (ad 0)), (1, .int a0)] := hl
  have hw : zW G A s.heap (wM ad K I J B D) H locs := hw
  unfold wp_LassoFinderModel_expand at hok
  refine lv_aload_n hx hb zd_LassoFinderModel_expand_0 rfl (lv_at hl 0 rfl) ?_
  refine z_get (v := .ref (ad 32)) hx hb hts hown hK hw zZ12 0 wM_g0 48 (by decide) zm_266 rfl zd_LassoFinderModel_expand_1 ?_
  refine lv_iload_n hx hb zd_LassoFinderModel_expand_4 rfl (lv_at hl 1 rfl) ?_
  refine lv_aload_n hx hb zd_LassoFinderModel_expand_5 rfl (lv_at hl 0 rfl) ?_
  refine z_get (v := .int (I 15)) hx hb hts hown hK hw zZ12 0 wM_g0 45 (by decide) zm_314 rfl zd_LassoFinderModel_expand_6 ?_
  refine va_iast (f := (B 29)) hx hb hK hw.1 hw.2.1 hw.2.2 32 0 wM_a32 rfl hok.1 zd_LassoFinderModel_expand_9 (fun H locs w91 w92 w93 => ?_)
  have hok := hok.2
  have hw := wM_t32 ⟨w91, w92, w93⟩
  refine lv_aload_n hx hb zd_LassoFinderModel_expand_10 rfl (lv_at hl 0 rfl) ?_
  refine lv_aload_n hx hb zd_LassoFinderModel_expand_11 rfl (lv_at hl 0 rfl) ?_
  refine z_get (v := .ref (ad 31)) hx hb hts hown hK hw zZ12 0 wM_g0 47 (by decide) zm_265 rfl zd_LassoFinderModel_expand_12 ?_
  refine lv_iload_n hx hb zd_LassoFinderModel_expand_15 rfl (lv_at hl 1 rfl) ?_
  refine va_lald (f := (D 1)) hx hb hK hw.1 31 1 wM_a31 rfl hok.1 zd_LassoFinderModel_expand_16 ?_
  have hok := hok.2
  refine lv_topl (fun z28 ez28 => ?_)
  have hok := hok z28 ez28
  refine z_callv (w1 := fun (u : zS) => wM ad K u.1 u.2.1 u.2.2.1 u.2.2.2) (wr := []) (z_runV (q0 := 0) (wc := (wM ad K I J (va_up B 29 (upd (B 29) a0.toNatClampNeg (I 15))) D)) (As := [.long z28]) (rest := []) ⟨hx, hb, hml, hown, hts⟩ (w_LassoFinderModel_unpack l G K ad I J (va_up B 29 (upd (B 29) a0.toNatClampNeg (I 15))) D z28 _ H.size hok) zf_LassoFinderModel_unpack zm_315 ⟨Nat.le_of_ble_eq_true rfl, Nat.le_of_ble_eq_true rfl⟩ hK hw (List.range 58) wM_all wM_nd wM_g0 rfl rfl hl.1 rfl (Nat.le_of_ble_eq_true rfl) zd_LassoFinderModel_expand_17 ⟨Nat.le_of_ble_eq_true rfl, Nat.le_of_ble_eq_true rfl⟩) hw hA (List.range 58) [] wM_all rfl (by decide) (fun i hi => by cases hi) (fun u H locs hok hw => ?_)
  obtain ⟨I29, J29, B29, D29⟩ := u
  dsimp only at hok
  have hw : zW G A s.heap (wM ad K I29 J29 B29 D29) H locs := hw
  refine lv_aload_n hx hb zd_LassoFinderModel_expand_20 rfl (lv_at hl 0 rfl) ?_
  refine z_calll (w1 := fun (u : zS) => wM ad K u.1 u.2.1 u.2.2.1 u.2.2.2) (wr := []) (z_runV (q0 := 0) (wc := (wM ad K I29 J29 B29 D29)) (As := []) (rest := []) ⟨hx, hb, hml, hown, hts⟩ (w_LassoFinderModel_doable l G K ad I29 J29 B29 D29  _ H.size hok) zf_LassoFinderModel_doable zm_316 ⟨Nat.le_of_ble_eq_true rfl, Nat.le_of_ble_eq_true rfl⟩ hK hw (List.range 58) wM_all wM_nd wM_g0 rfl rfl hl.1 rfl (Nat.le_of_ble_eq_true rfl) zd_LassoFinderModel_expand_21 ⟨Nat.le_of_ble_eq_true rfl, Nat.le_of_ble_eq_true rfl⟩) hw hA (List.range 58) [] wM_all rfl (by decide) (fun i hi => by cases hi) (fun r30 u H locs hok hw => ?_)
  obtain ⟨I30, J30, B30, D30⟩ := u
  dsimp only at hok
  have hw : zW G A s.heap (wM ad K I30 J30 B30 D30) H locs := hw
  refine lv_lstore_n hx hb zd_LassoFinderModel_expand_24 rfl hl (by decide) rfl (fun ls hl => ?_)
  have hl : lv_has ls 8 [(2, .long r30), (0, .ref (ad 0)), (1, .int a0)] := hl
  refine lv_iconst (v := 0) hx hb zd_LassoFinderModel_expand_25 (by decide) ?_
  refine lv_istore hx hb zd_LassoFinderModel_expand_26 hl (by decide) rfl (fun ls hl => ?_)
  have hl : lv_has ls 8 [(4, .int 0), (2, .long r30), (0, .ref (ad 0)), (1, .int a0)] := hl
  obtain ⟨n9, hok⟩ := hok
  exact wL_LassoFinderModel_expand_28 G K ad a0 Post C n9 a0 r30 0 I30 J30 B30 D30 ls H locs hok (lv_sub hl [2, 3, 1, 0] rfl) hw
def wc_LassoFinderModel_reach_242 (Post : Int32 → (Nat → Int32) → (Nat → Int64) → (Nat → Nat → Int32) → (Nat → Nat → Int64) → Prop) (y0 : Int32) (I : Nat → Int32) (J : Nat → Int64) (B : Nat → Nat → Int32) (D : Nat → Nat → Int64) : Prop :=
  (y0 = 0 ∨ y0 = 1) ∧ Post y0 I J B D
def wc_LassoFinderModel_reach_208 (K163 : Int32 → Int32 → (Nat → Int32) → (Nat → Int64) → (Nat → Nat → Int32) → (Nat → Nat → Int64) → Prop) (K180 : Int32 → Int32 → Int32 → (Nat → Int32) → (Nat → Int64) → (Nat → Nat → Int32) → (Nat → Nat → Int64) → Prop) (Post : Int32 → (Nat → Int32) → (Nat → Int64) → (Nat → Nat → Int32) → (Nat → Nat → Int64) → Prop) (x1 : Int32) (x2 : Int32) (x3 : Int32) (I : Nat → Int32) (J : Nat → Int64) (B : Nat → Nat → Int32) (D : Nat → Nat → Int64) : Prop :=
  ∀ z1 : Int32, z1 = (x3 + 1) → K180 x1 x2 z1 I J B D
def wb_LassoFinderModel_reach_180 (K180 : Int32 → Int32 → Int32 → (Nat → Int32) → (Nat → Int64) → (Nat → Nat → Int32) → (Nat → Nat → Int64) → Prop) (K163 : Int32 → Int32 → (Nat → Int32) → (Nat → Int64) → (Nat → Nat → Int32) → (Nat → Nat → Int64) → Prop) (Post : Int32 → (Nat → Int32) → (Nat → Int64) → (Nat → Nat → Int32) → (Nat → Nat → Int64) → Prop) (x1 : Int32) (x2 : Int32) (x3 : Int32) (I : Nat → Int32) (J : Nat → Int64) (B : Nat → Nat → Int32) (D : Nat → Nat → Int64) : Prop :=
  (((I 15) ≤ x3 → ∀ z3 : Int32, z3 = (x2 + 1) → K163 x1 z3 I J B D) ∧ (¬ (I 15) ≤ x3 → vp_in x3 401 ∧ ∀ z4 : Int32, z4 = ((B 30) x3.toNatClampNeg) → ((¬ z4 = x2 → wc_LassoFinderModel_reach_208  K163 K180 Post x1 x2 x3 I J B D) ∧ (z4 = x2 → vp_in x1 401 ∧ ∀ z6 : Int32, z6 = (x1 + 1) → wc_LassoFinderModel_reach_208  K163 K180 Post z6 x2 x3 I J (va_up B 35 (upd (B 35) x1.toNatClampNeg x3)) D))))
def wl_LassoFinderModel_reach_180 (K163 : Int32 → Int32 → (Nat → Int32) → (Nat → Int64) → (Nat → Nat → Int32) → (Nat → Nat → Int64) → Prop) (Post : Int32 → (Nat → Int32) → (Nat → Int64) → (Nat → Nat → Int32) → (Nat → Nat → Int64) → Prop) (n : Nat) : Int32 → Int32 → Int32 → (Nat → Int32) → (Nat → Int64) → (Nat → Nat → Int32) → (Nat → Nat → Int64) → Prop := Nat.rec (fun _ _ _ _ _ _ _ => False) (fun _ r => wb_LassoFinderModel_reach_180  r K163 Post) n
def wb_LassoFinderModel_reach_163 (K163 : Int32 → Int32 → (Nat → Int32) → (Nat → Int64) → (Nat → Nat → Int32) → (Nat → Nat → Int64) → Prop) (Post : Int32 → (Nat → Int32) → (Nat → Int64) → (Nat → Nat → Int32) → (Nat → Nat → Int64) → Prop) (x1 : Int32) (x2 : Int32) (I : Nat → Int32) (J : Nat → Int64) (B : Nat → Nat → Int32) (D : Nat → Nat → Int64) : Prop :=
  (((I 14) ≤ x2 → vp_in (I 14) 98 ∧ ((¬ (I 16) = 0 → wc_LassoFinderModel_reach_242  Post 0 I J (va_up B 34 (upd (B 34) (I 14).toNatClampNeg x1)) D) ∧ ((I 16) = 0 → wc_LassoFinderModel_reach_242  Post 1 I J (va_up B 34 (upd (B 34) (I 14).toNatClampNeg x1)) D))) ∧ (¬ (I 14) ≤ x2 → vp_in x2 98 ∧ ∃ n : Nat, wl_LassoFinderModel_reach_180  K163 Post n x1 x2 0 I J (va_up B 34 (upd (B 34) x2.toNatClampNeg x1)) D))
def wl_LassoFinderModel_reach_163 (Post : Int32 → (Nat → Int32) → (Nat → Int64) → (Nat → Nat → Int32) → (Nat → Nat → Int64) → Prop) (n : Nat) : Int32 → Int32 → (Nat → Int32) → (Nat → Int64) → (Nat → Nat → Int32) → (Nat → Nat → Int64) → Prop := Nat.rec (fun _ _ _ _ _ _ => False) (fun _ r => wb_LassoFinderModel_reach_163  r Post) n
def wc_LassoFinderModel_reach_146 (Post : Int32 → (Nat → Int32) → (Nat → Int64) → (Nat → Nat → Int32) → (Nat → Nat → Int64) → Prop)  (I : Nat → Int32) (J : Nat → Int64) (B : Nat → Nat → Int32) (D : Nat → Nat → Int64) : Prop :=
  vp_in (I 14) 98 ∧ ∃ n : Nat, wl_LassoFinderModel_reach_163  Post n 0 0 I J (va_up B 29 (upd (B 29) (I 14).toNatClampNeg (I 15))) D
def wb_LassoFinderModel_reach_120 (K120 : Int32 → (Nat → Int32) → (Nat → Int64) → (Nat → Nat → Int32) → (Nat → Nat → Int64) → Prop) (Post : Int32 → (Nat → Int32) → (Nat → Int64) → (Nat → Nat → Int32) → (Nat → Nat → Int64) → Prop) (x1 : Int32) (I : Nat → Int32) (J : Nat → Int64) (B : Nat → Nat → Int32) (D : Nat → Nat → Int64) : Prop :=
  (((I 14) ≤ x1 → wc_LassoFinderModel_reach_146  Post I J B D) ∧ (¬ (I 14) ≤ x1 → ((¬ (I 16) = 0 → wc_LassoFinderModel_reach_146  Post I J B D) ∧ ((I 16) = 0 → wp_LassoFinderModel_expand I J B D x1 (fun I11 J11 B11 D11 => ∀ z12 : Int32, z12 = (x1 + 1) → K120 z12 I11 J11 B11 D11)))))
def wl_LassoFinderModel_reach_120 (Post : Int32 → (Nat → Int32) → (Nat → Int64) → (Nat → Nat → Int32) → (Nat → Nat → Int64) → Prop) (n : Nat) : Int32 → (Nat → Int32) → (Nat → Int64) → (Nat → Nat → Int32) → (Nat → Nat → Int64) → Prop := Nat.rec (fun _ _ _ _ _ => False) (fun _ r => wb_LassoFinderModel_reach_120  r Post) n
def wb_LassoFinderModel_reach_53 (K53 : Int32 → (Nat → Int32) → (Nat → Int64) → (Nat → Nat → Int32) → (Nat → Nat → Int64) → Prop) (Post : Int32 → (Nat → Int32) → (Nat → Int64) → (Nat → Nat → Int32) → (Nat → Nat → Int64) → Prop) (x1 : Int32) (I : Nat → Int32) (J : Nat → Int64) (B : Nat → Nat → Int32) (D : Nat → Nat → Int64) : Prop :=
  (((I 10) ≤ x1 → wp_LassoFinderModel_packed (upd I 17 (-1)) J B D  (fun r14 I14 J14 B14 D14 => vp_in 0 97 ∧ ∃ n : Nat, wl_LassoFinderModel_reach_120  Post n 0 (upd (upd (upd I14 14 1) 15 0) 16 0) J14 B14 (va_up D14 1 (vp_updL (D14 1) (0 : Int32).toNatClampNeg r14)))) ∧ (¬ (I 10) ≤ x1 → vp_in x1 5 ∧ ∀ z15 : Int32, z15 = ((B 21) x1.toNatClampNeg) → wp_LassoFinderModel_instead I J B D z15 (fun r16 I16 J16 B16 D16 => wp_LassoFinderModel_pointOf I16 J16 B16 D16 x1 r16 (fun r17 I17 J17 B17 D17 => vp_in x1 4 ∧ ∀ z18 : Int32, z18 = (x1 + 1) → K53 z18 I17 J17 (va_up B17 39 (upd (B17 39) x1.toNatClampNeg r17)) D17))))
def wl_LassoFinderModel_reach_53 (Post : Int32 → (Nat → Int32) → (Nat → Int64) → (Nat → Nat → Int32) → (Nat → Nat → Int64) → Prop) (n : Nat) : Int32 → (Nat → Int32) → (Nat → Int64) → (Nat → Nat → Int32) → (Nat → Nat → Int64) → Prop := Nat.rec (fun _ _ _ _ _ => False) (fun _ r => wb_LassoFinderModel_reach_53  r Post) n
def wb_LassoFinderModel_reach_30 (K30 : Int32 → (Nat → Int32) → (Nat → Int64) → (Nat → Nat → Int32) → (Nat → Nat → Int64) → Prop) (Post : Int32 → (Nat → Int32) → (Nat → Int64) → (Nat → Nat → Int32) → (Nat → Nat → Int64) → Prop) (x1 : Int32) (I : Nat → Int32) (J : Nat → Int64) (B : Nat → Nat → Int32) (D : Nat → Nat → Int64) : Prop :=
  (((I 7) ≤ x1 → ∃ n : Nat, wl_LassoFinderModel_reach_53  Post n 0 I J B D) ∧ (¬ (I 7) ≤ x1 → vp_in x1 2 ∧ ∀ z20 : Int32, z20 = (x1 + 1) → K30 z20 I J (va_up B 37 (upd (B 37) x1.toNatClampNeg 0)) D))
def wl_LassoFinderModel_reach_30 (Post : Int32 → (Nat → Int32) → (Nat → Int64) → (Nat → Nat → Int32) → (Nat → Nat → Int64) → Prop) (n : Nat) : Int32 → (Nat → Int32) → (Nat → Int64) → (Nat → Nat → Int32) → (Nat → Nat → Int64) → Prop := Nat.rec (fun _ _ _ _ _ => False) (fun _ r => wb_LassoFinderModel_reach_30  r Post) n
def wb_LassoFinderModel_reach_2 (K2 : Int32 → (Nat → Int32) → (Nat → Int64) → (Nat → Nat → Int32) → (Nat → Nat → Int64) → Prop) (Post : Int32 → (Nat → Int32) → (Nat → Int64) → (Nat → Nat → Int32) → (Nat → Nat → Int64) → Prop) (x1 : Int32) (I : Nat → Int32) (J : Nat → Int64) (B : Nat → Nat → Int32) (D : Nat → Nat → Int64) : Prop :=
  (((I 6) ≤ x1 → ∃ n : Nat, wl_LassoFinderModel_reach_30  Post n 0 I J B D) ∧ (¬ (I 6) ≤ x1 → vp_in x1 6 ∧ ∀ z22 : Int32, z22 = ((B 3) x1.toNatClampNeg) → vp_in x1 6 ∧ ∀ z23 : Int32, z23 = (x1 + 1) → K2 z23 I J (va_up B 36 (upd (B 36) x1.toNatClampNeg z22)) D))
def wl_LassoFinderModel_reach_2 (Post : Int32 → (Nat → Int32) → (Nat → Int64) → (Nat → Nat → Int32) → (Nat → Nat → Int64) → Prop) (n : Nat) : Int32 → (Nat → Int32) → (Nat → Int64) → (Nat → Nat → Int32) → (Nat → Nat → Int64) → Prop := Nat.rec (fun _ _ _ _ _ => False) (fun _ r => wb_LassoFinderModel_reach_2  r Post) n
def wp_LassoFinderModel_reach (I : Nat → Int32) (J : Nat → Int64) (B : Nat → Nat → Int32) (D : Nat → Nat → Int64) (Post : Int32 → (Nat → Int32) → (Nat → Int64) → (Nat → Nat → Int32) → (Nat → Nat → Int64) → Prop) : Prop :=
  ∃ n : Nat, wl_LassoFinderModel_reach_2  Post n 0 I J B D
set_option maxHeartbeats 8000000 in
set_option maxRecDepth 100000 in
theorem wJ_LassoFinderModel_reach_242 {p : Program} {l : Launch} {e : Env} {s : State} {m : MethodId} {below : List Frame} {meth : Method} {c : Code} {A : Nat → Prop} (G : va_G) (K : Nat → ClassId) (ad : Nat → Nat) (Post : Int32 → (Nat → Int32) → (Nat → Int64) → (Nat → Nat → Int32) → (Nat → Nat → Int64) → Prop) (C : zCx p s m ([.ref (ad 0)] : List Value).toArray meth c A G K prog_14_method_38_code (some .boolean) 4 "LassoFinderModel") : ∀ (y0 : Int32) (I : Nat → Int32) (J : Nat → Int64) (B : Nat → Nat → Int32) (D : Nat → Nat → Int64) (ls : Array Slot) (H : Heap) (locs : List Loc), wc_LassoFinderModel_reach_242  Post y0 I J B D → lv_has ls 4 [] → zW G A s.heap (wM ad K I J B D) H locs → W p l e { frames := 5, cells := 0, slots := 0, locals := 123 } s m ([.ref (ad 0)] : List Value).toArray below meth c H locs 0 0 (MQ below (va_Qi (fun (r : Int32) (u : zS) => Post r u.1 u.2.1 u.2.2.1 u.2.2.2) (fun u t => zPost G K A (wM ad K u.1 u.2.1 u.2.2.1 u.2.2.2) t) A) ([.ref (ad 0)] : List Value).toArray s 0 0 A) (F0 m 242 ls [.int y0]) := by
  obtain ⟨hx, hb, hr, hml, hts, hown, hlocks, hA, hK⟩ := id C
  intro y0 I J B D ls H locs hok hl hw
  unfold wc_LassoFinderModel_reach_242 at hok
  have hbo := hok.1
  have hok := hok.2
  exact (z_iret (u := (I, J, B, D)) hx hb hr hlocks (z_nar hbo) hw (List.range 58) wM_all wM_nd hok (Nat.le_of_ble_eq_true rfl) (Nat.le_of_ble_eq_true rfl) zd_LassoFinderModel_reach_242)
set_option maxHeartbeats 8000000 in
set_option maxRecDepth 100000 in
theorem wJ_LassoFinderModel_reach_208 {p : Program} {l : Launch} {e : Env} {s : State} {m : MethodId} {below : List Frame} {meth : Method} {c : Code} {A : Nat → Prop} (G : va_G) (K : Nat → ClassId) (ad : Nat → Nat) (Post : Int32 → (Nat → Int32) → (Nat → Int64) → (Nat → Nat → Int32) → (Nat → Nat → Int64) → Prop) (C : zCx p s m ([.ref (ad 0)] : List Value).toArray meth c A G K prog_14_method_38_code (some .boolean) 4 "LassoFinderModel") (K163 : Int32 → Int32 → (Nat → Int32) → (Nat → Int64) → (Nat → Nat → Int32) → (Nat → Nat → Int64) → Prop) (kh163 : ∀ (x1 : Int32) (x2 : Int32) (I : Nat → Int32) (J : Nat → Int64) (B : Nat → Nat → Int32) (D : Nat → Nat → Int64) (ls : Array Slot) (H : Heap) (locs : List Loc), K163 x1 x2 I J B D → lv_has ls 4 [(0, .ref (ad 0)), (1, .int x1), (2, .int x2)] → zW G A s.heap (wM ad K I J B D) H locs → W p l e { frames := 5, cells := 0, slots := 0, locals := 123 } s m ([.ref (ad 0)] : List Value).toArray below meth c H locs 0 0 (MQ below (va_Qi (fun (r : Int32) (u : zS) => Post r u.1 u.2.1 u.2.2.1 u.2.2.2) (fun u t => zPost G K A (wM ad K u.1 u.2.1 u.2.2.1 u.2.2.2) t) A) ([.ref (ad 0)] : List Value).toArray s 0 0 A) (F0 m 163 ls [])) (K180 : Int32 → Int32 → Int32 → (Nat → Int32) → (Nat → Int64) → (Nat → Nat → Int32) → (Nat → Nat → Int64) → Prop) (kh180 : ∀ (x1 : Int32) (x2 : Int32) (x3 : Int32) (I : Nat → Int32) (J : Nat → Int64) (B : Nat → Nat → Int32) (D : Nat → Nat → Int64) (ls : Array Slot) (H : Heap) (locs : List Loc), K180 x1 x2 x3 I J B D → lv_has ls 4 [(0, .ref (ad 0)), (1, .int x1), (2, .int x2), (3, .int x3)] → zW G A s.heap (wM ad K I J B D) H locs → W p l e { frames := 5, cells := 0, slots := 0, locals := 123 } s m ([.ref (ad 0)] : List Value).toArray below meth c H locs 0 0 (MQ below (va_Qi (fun (r : Int32) (u : zS) => Post r u.1 u.2.1 u.2.2.1 u.2.2.2) (fun u t => zPost G K A (wM ad K u.1 u.2.1 u.2.2.1 u.2.2.2) t) A) ([.ref (ad 0)] : List Value).toArray s 0 0 A) (F0 m 180 ls [])) : ∀ (x1 : Int32) (x2 : Int32) (x3 : Int32) (I : Nat → Int32) (J : Nat → Int64) (B : Nat → Nat → Int32) (D : Nat → Nat → Int64) (ls : Array Slot) (H : Heap) (locs : List Loc), wc_LassoFinderModel_reach_208  K163 K180 Post x1 x2 x3 I J B D → lv_has ls 4 [(0, .ref (ad 0)), (1, .int x1), (2, .int x2), (3, .int x3)] → zW G A s.heap (wM ad K I J B D) H locs → W p l e { frames := 5, cells := 0, slots := 0, locals := 123 } s m ([.ref (ad 0)] : List Value).toArray below meth c H locs 0 0 (MQ below (va_Qi (fun (r : Int32) (u : zS) => Post r u.1 u.2.1 u.2.2.1 u.2.2.2) (fun u t => zPost G K A (wM ad K u.1 u.2.1 u.2.2.1 u.2.2.2) t) A) ([.ref (ad 0)] : List Value).toArray s 0 0 A) (F0 m 208 ls []) := by
  obtain ⟨hx, hb, hr, hml, hts, hown, hlocks, hA, hK⟩ := id C
  intro x1 x2 x3 I J B D ls H locs hok hl hw
  unfold wc_LassoFinderModel_reach_208 at hok
  obtain ⟨z1, ez1⟩ : ∃ z : Int32, z = (x3 + 1) := ⟨_, rfl⟩
  have hok := hok z1 ez1
  refine lv_iinc (v := z1) hx hb zd_LassoFinderModel_reach_208 hl (k := 3) rfl ez1.symm (by decide) rfl (fun ls hl => ?_)
  have hl : lv_has ls 4 [(3, .int z1), (0, .ref (ad 0)), (1, .int x1), (2, .int x2)] := hl
  refine lv_goto (tgt := 180) hx hb zd_LassoFinderModel_reach_211 (by decide) ?_
  exact kh180 x1 x2 z1 I J B D ls H locs hok (lv_sub hl [1, 2, 3, 0] rfl) hw
set_option maxHeartbeats 8000000 in
set_option maxRecDepth 100000 in
theorem wB_LassoFinderModel_reach_180 {p : Program} {l : Launch} {e : Env} {s : State} {m : MethodId} {below : List Frame} {meth : Method} {c : Code} {A : Nat → Prop} (G : va_G) (K : Nat → ClassId) (ad : Nat → Nat) (Post : Int32 → (Nat → Int32) → (Nat → Int64) → (Nat → Nat → Int32) → (Nat → Nat → Int64) → Prop) (C : zCx p s m ([.ref (ad 0)] : List Value).toArray meth c A G K prog_14_method_38_code (some .boolean) 4 "LassoFinderModel") (K163 : Int32 → Int32 → (Nat → Int32) → (Nat → Int64) → (Nat → Nat → Int32) → (Nat → Nat → Int64) → Prop) (kh163 : ∀ (x1 : Int32) (x2 : Int32) (I : Nat → Int32) (J : Nat → Int64) (B : Nat → Nat → Int32) (D : Nat → Nat → Int64) (ls : Array Slot) (H : Heap) (locs : List Loc), K163 x1 x2 I J B D → lv_has ls 4 [(0, .ref (ad 0)), (1, .int x1), (2, .int x2)] → zW G A s.heap (wM ad K I J B D) H locs → W p l e { frames := 5, cells := 0, slots := 0, locals := 123 } s m ([.ref (ad 0)] : List Value).toArray below meth c H locs 0 0 (MQ below (va_Qi (fun (r : Int32) (u : zS) => Post r u.1 u.2.1 u.2.2.1 u.2.2.2) (fun u t => zPost G K A (wM ad K u.1 u.2.1 u.2.2.1 u.2.2.2) t) A) ([.ref (ad 0)] : List Value).toArray s 0 0 A) (F0 m 163 ls [])) (K180 : Int32 → Int32 → Int32 → (Nat → Int32) → (Nat → Int64) → (Nat → Nat → Int32) → (Nat → Nat → Int64) → Prop) (kh180 : ∀ (x1 : Int32) (x2 : Int32) (x3 : Int32) (I : Nat → Int32) (J : Nat → Int64) (B : Nat → Nat → Int32) (D : Nat → Nat → Int64) (ls : Array Slot) (H : Heap) (locs : List Loc), K180 x1 x2 x3 I J B D → lv_has ls 4 [(0, .ref (ad 0)), (1, .int x1), (2, .int x2), (3, .int x3)] → zW G A s.heap (wM ad K I J B D) H locs → W p l e { frames := 5, cells := 0, slots := 0, locals := 123 } s m ([.ref (ad 0)] : List Value).toArray below meth c H locs 0 0 (MQ below (va_Qi (fun (r : Int32) (u : zS) => Post r u.1 u.2.1 u.2.2.1 u.2.2.2) (fun u t => zPost G K A (wM ad K u.1 u.2.1 u.2.2.1 u.2.2.2) t) A) ([.ref (ad 0)] : List Value).toArray s 0 0 A) (F0 m 180 ls [])) : ∀ (x1 : Int32) (x2 : Int32) (x3 : Int32) (I : Nat → Int32) (J : Nat → Int64) (B : Nat → Nat → Int32) (D : Nat → Nat → Int64) (ls : Array Slot) (H : Heap) (locs : List Loc), wb_LassoFinderModel_reach_180  K180 K163 Post x1 x2 x3 I J B D → lv_has ls 4 [(0, .ref (ad 0)), (1, .int x1), (2, .int x2), (3, .int x3)] → zW G A s.heap (wM ad K I J B D) H locs → W p l e { frames := 5, cells := 0, slots := 0, locals := 123 } s m ([.ref (ad 0)] : List Value).toArray below meth c H locs 0 0 (MQ below (va_Qi (fun (r : Int32) (u : zS) => Post r u.1 u.2.1 u.2.2.1 u.2.2.2) (fun u t => zPost G K A (wM ad K u.1 u.2.1 u.2.2.1 u.2.2.2) t) A) ([.ref (ad 0)] : List Value).toArray s 0 0 A) (F0 m 180 ls []) := by
  obtain ⟨hx, hb, hr, hml, hts, hown, hlocks, hA, hK⟩ := id C
  intro x1 x2 x3 I J B D ls H locs hok hl hw
  unfold wb_LassoFinderModel_reach_180 at hok
  refine lv_iload_n hx hb zd_LassoFinderModel_reach_180 rfl (lv_at hl 3 rfl) ?_
  refine lv_aload_n hx hb zd_LassoFinderModel_reach_181 rfl (lv_at hl 0 rfl) ?_
  refine z_get (v := .int (I 15)) hx hb hts hown hK hw zZ12 0 wM_g0 45 (by decide) zm_314 rfl zd_LassoFinderModel_reach_182 ?_
  refine lv_icmp_ge (tgt := 214) hx hb zd_LassoFinderModel_reach_185 (by decide) (fun hc2 => ?_) (fun hc2 => ?_)
  · have hok := hok.1 hc2
    obtain ⟨z3, ez3⟩ : ∃ z : Int32, z = (x2 + 1) := ⟨_, rfl⟩
    have hok := hok z3 ez3
    refine lv_iinc (v := z3) hx hb zd_LassoFinderModel_reach_214 hl (k := 2) rfl ez3.symm (by decide) rfl (fun ls hl => ?_)
    have hl : lv_has ls 4 [(2, .int z3), (0, .ref (ad 0)), (1, .int x1), (3, .int x3)] := hl
    refine lv_goto (tgt := 163) hx hb zd_LassoFinderModel_reach_217 (by decide) ?_
    exact kh163 x1 z3 I J B D ls H locs hok (lv_sub hl [1, 2, 0] rfl) hw
  · have hok := hok.2 hc2
    refine lv_aload_n hx hb zd_LassoFinderModel_reach_188 rfl (lv_at hl 0 rfl) ?_
    refine z_get (v := .ref (ad 33)) hx hb hts hown hK hw zZ12 0 wM_g0 49 (by decide) zm_267 rfl zd_LassoFinderModel_reach_189 ?_
    refine lv_iload_n hx hb zd_LassoFinderModel_reach_192 rfl (lv_at hl 3 rfl) ?_
    refine va_iald (f := (B 30)) hx hb hK hw.1 33 0 wM_a33 rfl hok.1 zd_LassoFinderModel_reach_193 ?_
    have hok := hok.2
    refine lv_topi (fun z4 ez4 => ?_)
    have hok := hok z4 ez4
    refine lv_iload_n hx hb zd_LassoFinderModel_reach_194 rfl (lv_at hl 2 rfl) ?_
    refine lv_icmp_ne (tgt := 208) hx hb zd_LassoFinderModel_reach_195 (by decide) (fun hc5 => ?_) (fun hc5 => ?_)
    · have hok := hok.1 hc5
      exact wJ_LassoFinderModel_reach_208 G K ad  Post C K163 kh163 K180 kh180 x1 x2 x3 I J B D ls H locs hok (lv_sub hl [0, 1, 2, 3] rfl) hw
    · have hok := hok.2 hc5
      refine lv_aload_n hx hb zd_LassoFinderModel_reach_198 rfl (lv_at hl 0 rfl) ?_
      refine z_get (v := .ref (ad 38)) hx hb hts hown hK hw zZ12 0 wM_g0 54 (by decide) zm_272 rfl zd_LassoFinderModel_reach_199 ?_
      refine lv_iload_n hx hb zd_LassoFinderModel_reach_202 rfl (lv_at hl 1 rfl) ?_
      refine lv_iload_n hx hb zd_LassoFinderModel_reach_203 rfl (lv_at hl 3 rfl) ?_
      refine va_iast (f := (B 35)) hx hb hK hw.1 hw.2.1 hw.2.2 38 0 wM_a38 rfl hok.1 zd_LassoFinderModel_reach_204 (fun H locs w91 w92 w93 => ?_)
      have hok := hok.2
      have hw := wM_t38 ⟨w91, w92, w93⟩
      obtain ⟨z6, ez6⟩ : ∃ z : Int32, z = (x1 + 1) := ⟨_, rfl⟩
      have hok := hok z6 ez6
      refine lv_iinc (v := z6) hx hb zd_LassoFinderModel_reach_205 hl (k := 1) rfl ez6.symm (by decide) rfl (fun ls hl => ?_)
      have hl : lv_has ls 4 [(1, .int z6), (0, .ref (ad 0)), (2, .int x2), (3, .int x3)] := hl
      exact wJ_LassoFinderModel_reach_208 G K ad  Post C K163 kh163 K180 kh180 z6 x2 x3 I J (va_up B 35 (upd (B 35) x1.toNatClampNeg x3)) D ls H locs hok (lv_sub hl [1, 0, 2, 3] rfl) hw
theorem wL_LassoFinderModel_reach_180 {p : Program} {l : Launch} {e : Env} {s : State} {m : MethodId} {below : List Frame} {meth : Method} {c : Code} {A : Nat → Prop} (G : va_G) (K : Nat → ClassId) (ad : Nat → Nat) (Post : Int32 → (Nat → Int32) → (Nat → Int64) → (Nat → Nat → Int32) → (Nat → Nat → Int64) → Prop) (C : zCx p s m ([.ref (ad 0)] : List Value).toArray meth c A G K prog_14_method_38_code (some .boolean) 4 "LassoFinderModel") (K163 : Int32 → Int32 → (Nat → Int32) → (Nat → Int64) → (Nat → Nat → Int32) → (Nat → Nat → Int64) → Prop) (kh163 : ∀ (x1 : Int32) (x2 : Int32) (I : Nat → Int32) (J : Nat → Int64) (B : Nat → Nat → Int32) (D : Nat → Nat → Int64) (ls : Array Slot) (H : Heap) (locs : List Loc), K163 x1 x2 I J B D → lv_has ls 4 [(0, .ref (ad 0)), (1, .int x1), (2, .int x2)] → zW G A s.heap (wM ad K I J B D) H locs → W p l e { frames := 5, cells := 0, slots := 0, locals := 123 } s m ([.ref (ad 0)] : List Value).toArray below meth c H locs 0 0 (MQ below (va_Qi (fun (r : Int32) (u : zS) => Post r u.1 u.2.1 u.2.2.1 u.2.2.2) (fun u t => zPost G K A (wM ad K u.1 u.2.1 u.2.2.1 u.2.2.2) t) A) ([.ref (ad 0)] : List Value).toArray s 0 0 A) (F0 m 163 ls [])) : ∀ (n : Nat) (x1 : Int32) (x2 : Int32) (x3 : Int32) (I : Nat → Int32) (J : Nat → Int64) (B : Nat → Nat → Int32) (D : Nat → Nat → Int64) (ls : Array Slot) (H : Heap) (locs : List Loc), wl_LassoFinderModel_reach_180  K163 Post n x1 x2 x3 I J B D → lv_has ls 4 [(0, .ref (ad 0)), (1, .int x1), (2, .int x2), (3, .int x3)] → zW G A s.heap (wM ad K I J B D) H locs → W p l e { frames := 5, cells := 0, slots := 0, locals := 123 } s m ([.ref (ad 0)] : List Value).toArray below meth c H locs 0 0 (MQ below (va_Qi (fun (r : Int32) (u : zS) => Post r u.1 u.2.1 u.2.2.1 u.2.2.2) (fun u t => zPost G K A (wM ad K u.1 u.2.1 u.2.2.1 u.2.2.2) t) A) ([.ref (ad 0)] : List Value).toArray s 0 0 A) (F0 m 180 ls []) := by
  intro n
  induction n with
  | zero => intro x1 x2 x3 I J B D ls H locs hok; exact hok.elim
  | succ n ih => exact wB_LassoFinderModel_reach_180 G K ad  Post C K163 kh163 (wl_LassoFinderModel_reach_180  K163 Post n) ih
set_option maxHeartbeats 8000000 in
set_option maxRecDepth 100000 in
theorem wB_LassoFinderModel_reach_163 {p : Program} {l : Launch} {e : Env} {s : State} {m : MethodId} {below : List Frame} {meth : Method} {c : Code} {A : Nat → Prop} (G : va_G) (K : Nat → ClassId) (ad : Nat → Nat) (Post : Int32 → (Nat → Int32) → (Nat → Int64) → (Nat → Nat → Int32) → (Nat → Nat → Int64) → Prop) (C : zCx p s m ([.ref (ad 0)] : List Value).toArray meth c A G K prog_14_method_38_code (some .boolean) 4 "LassoFinderModel") (K163 : Int32 → Int32 → (Nat → Int32) → (Nat → Int64) → (Nat → Nat → Int32) → (Nat → Nat → Int64) → Prop) (kh163 : ∀ (x1 : Int32) (x2 : Int32) (I : Nat → Int32) (J : Nat → Int64) (B : Nat → Nat → Int32) (D : Nat → Nat → Int64) (ls : Array Slot) (H : Heap) (locs : List Loc), K163 x1 x2 I J B D → lv_has ls 4 [(0, .ref (ad 0)), (1, .int x1), (2, .int x2)] → zW G A s.heap (wM ad K I J B D) H locs → W p l e { frames := 5, cells := 0, slots := 0, locals := 123 } s m ([.ref (ad 0)] : List Value).toArray below meth c H locs 0 0 (MQ below (va_Qi (fun (r : Int32) (u : zS) => Post r u.1 u.2.1 u.2.2.1 u.2.2.2) (fun u t => zPost G K A (wM ad K u.1 u.2.1 u.2.2.1 u.2.2.2) t) A) ([.ref (ad 0)] : List Value).toArray s 0 0 A) (F0 m 163 ls [])) : ∀ (x1 : Int32) (x2 : Int32) (I : Nat → Int32) (J : Nat → Int64) (B : Nat → Nat → Int32) (D : Nat → Nat → Int64) (ls : Array Slot) (H : Heap) (locs : List Loc), wb_LassoFinderModel_reach_163  K163 Post x1 x2 I J B D → lv_has ls 4 [(0, .ref (ad 0)), (1, .int x1), (2, .int x2)] → zW G A s.heap (wM ad K I J B D) H locs → W p l e { frames := 5, cells := 0, slots := 0, locals := 123 } s m ([.ref (ad 0)] : List Value).toArray below meth c H locs 0 0 (MQ below (va_Qi (fun (r : Int32) (u : zS) => Post r u.1 u.2.1 u.2.2.1 u.2.2.2) (fun u t => zPost G K A (wM ad K u.1 u.2.1 u.2.2.1 u.2.2.2) t) A) ([.ref (ad 0)] : List Value).toArray s 0 0 A) (F0 m 163 ls []) := by
  obtain ⟨hx, hb, hr, hml, hts, hown, hlocks, hA, hK⟩ := id C
  intro x1 x2 I J B D ls H locs hok hl hw
  unfold wb_LassoFinderModel_reach_163 at hok
  refine lv_iload_n hx hb zd_LassoFinderModel_reach_163 rfl (lv_at hl 2 rfl) ?_
  refine lv_aload_n hx hb zd_LassoFinderModel_reach_164 rfl (lv_at hl 0 rfl) ?_
  refine z_get (v := .int (I 14)) hx hb hts hown hK hw zZ12 0 wM_g0 44 (by decide) zm_300 rfl zd_LassoFinderModel_reach_165 ?_
  refine lv_icmp_ge (tgt := 220) hx hb zd_LassoFinderModel_reach_168 (by decide) (fun hc7 => ?_) (fun hc7 => ?_)
  · have hok := hok.1 hc7
    refine lv_aload_n hx hb zd_LassoFinderModel_reach_220 rfl (lv_at hl 0 rfl) ?_
    refine z_get (v := .ref (ad 37)) hx hb hts hown hK hw zZ12 0 wM_g0 53 (by decide) zm_271 rfl zd_LassoFinderModel_reach_221 ?_
    refine lv_aload_n hx hb zd_LassoFinderModel_reach_224 rfl (lv_at hl 0 rfl) ?_
    refine z_get (v := .int (I 14)) hx hb hts hown hK hw zZ12 0 wM_g0 44 (by decide) zm_300 rfl zd_LassoFinderModel_reach_225 ?_
    refine lv_iload_n hx hb zd_LassoFinderModel_reach_228 rfl (lv_at hl 1 rfl) ?_
    refine va_iast (f := (B 34)) hx hb hK hw.1 hw.2.1 hw.2.2 37 0 wM_a37 rfl hok.1 zd_LassoFinderModel_reach_229 (fun H locs w91 w92 w93 => ?_)
    have hok := hok.2
    have hw := wM_t37 ⟨w91, w92, w93⟩
    refine lv_aload_n hx hb zd_LassoFinderModel_reach_230 rfl (lv_at hl 0 rfl) ?_
    refine z_get (v := .int (I 16)) hx hb hts hown hK hw zZ12 0 wM_g0 46 (by decide) zm_312 rfl zd_LassoFinderModel_reach_231 ?_
    refine lv_if_ne (tgt := 241) hx hb zd_LassoFinderModel_reach_234 (by decide) (fun hc8 => ?_) (fun hc8 => ?_)
    · have hok := hok.1 hc8
      refine lv_iconst (v := 0) hx hb zd_LassoFinderModel_reach_241 (by decide) ?_
      exact wJ_LassoFinderModel_reach_242 G K ad  Post C 0 I J (va_up B 34 (upd (B 34) (I 14).toNatClampNeg x1)) D ls H locs hok (lv_sub hl [] rfl) hw
    · have hok := hok.2 hc8
      refine lv_iconst (v := 1) hx hb zd_LassoFinderModel_reach_237 (by decide) ?_
      refine lv_goto (tgt := 242) hx hb zd_LassoFinderModel_reach_238 (by decide) ?_
      exact wJ_LassoFinderModel_reach_242 G K ad  Post C 1 I J (va_up B 34 (upd (B 34) (I 14).toNatClampNeg x1)) D ls H locs hok (lv_sub hl [] rfl) hw
  · have hok := hok.2 hc7
    refine lv_aload_n hx hb zd_LassoFinderModel_reach_171 rfl (lv_at hl 0 rfl) ?_
    refine z_get (v := .ref (ad 37)) hx hb hts hown hK hw zZ12 0 wM_g0 53 (by decide) zm_271 rfl zd_LassoFinderModel_reach_172 ?_
    refine lv_iload_n hx hb zd_LassoFinderModel_reach_175 rfl (lv_at hl 2 rfl) ?_
    refine lv_iload_n hx hb zd_LassoFinderModel_reach_176 rfl (lv_at hl 1 rfl) ?_
    refine va_iast (f := (B 34)) hx hb hK hw.1 hw.2.1 hw.2.2 37 0 wM_a37 rfl hok.1 zd_LassoFinderModel_reach_177 (fun H locs w91 w92 w93 => ?_)
    have hok := hok.2
    have hw := wM_t37 ⟨w91, w92, w93⟩
    refine lv_iconst (v := 0) hx hb zd_LassoFinderModel_reach_178 (by decide) ?_
    refine lv_istore_n hx hb zd_LassoFinderModel_reach_179 rfl hl (by decide) rfl (fun ls hl => ?_)
    have hl : lv_has ls 4 [(3, .int 0), (0, .ref (ad 0)), (1, .int x1), (2, .int x2)] := hl
    obtain ⟨n9, hok⟩ := hok
    exact wL_LassoFinderModel_reach_180 G K ad  Post C K163 kh163 n9 x1 x2 0 I J (va_up B 34 (upd (B 34) x2.toNatClampNeg x1)) D ls H locs hok (lv_sub hl [1, 2, 3, 0] rfl) hw
theorem wL_LassoFinderModel_reach_163 {p : Program} {l : Launch} {e : Env} {s : State} {m : MethodId} {below : List Frame} {meth : Method} {c : Code} {A : Nat → Prop} (G : va_G) (K : Nat → ClassId) (ad : Nat → Nat) (Post : Int32 → (Nat → Int32) → (Nat → Int64) → (Nat → Nat → Int32) → (Nat → Nat → Int64) → Prop) (C : zCx p s m ([.ref (ad 0)] : List Value).toArray meth c A G K prog_14_method_38_code (some .boolean) 4 "LassoFinderModel") : ∀ (n : Nat) (x1 : Int32) (x2 : Int32) (I : Nat → Int32) (J : Nat → Int64) (B : Nat → Nat → Int32) (D : Nat → Nat → Int64) (ls : Array Slot) (H : Heap) (locs : List Loc), wl_LassoFinderModel_reach_163  Post n x1 x2 I J B D → lv_has ls 4 [(0, .ref (ad 0)), (1, .int x1), (2, .int x2)] → zW G A s.heap (wM ad K I J B D) H locs → W p l e { frames := 5, cells := 0, slots := 0, locals := 123 } s m ([.ref (ad 0)] : List Value).toArray below meth c H locs 0 0 (MQ below (va_Qi (fun (r : Int32) (u : zS) => Post r u.1 u.2.1 u.2.2.1 u.2.2.2) (fun u t => zPost G K A (wM ad K u.1 u.2.1 u.2.2.1 u.2.2.2) t) A) ([.ref (ad 0)] : List Value).toArray s 0 0 A) (F0 m 163 ls []) := by
  intro n
  induction n with
  | zero => intro x1 x2 I J B D ls H locs hok; exact hok.elim
  | succ n ih => exact wB_LassoFinderModel_reach_163 G K ad  Post C (wl_LassoFinderModel_reach_163  Post n) ih
set_option maxHeartbeats 8000000 in
set_option maxRecDepth 100000 in
theorem wJ_LassoFinderModel_reach_146 {p : Program} {l : Launch} {e : Env} {s : State} {m : MethodId} {below : List Frame} {meth : Method} {c : Code} {A : Nat → Prop} (G : va_G) (K : Nat → ClassId) (ad : Nat → Nat) (Post : Int32 → (Nat → Int32) → (Nat → Int64) → (Nat → Nat → Int32) → (Nat → Nat → Int64) → Prop) (C : zCx p s m ([.ref (ad 0)] : List Value).toArray meth c A G K prog_14_method_38_code (some .boolean) 4 "LassoFinderModel") : ∀  (I : Nat → Int32) (J : Nat → Int64) (B : Nat → Nat → Int32) (D : Nat → Nat → Int64) (ls : Array Slot) (H : Heap) (locs : List Loc), wc_LassoFinderModel_reach_146  Post  I J B D → lv_has ls 4 [(0, .ref (ad 0))] → zW G A s.heap (wM ad K I J B D) H locs → W p l e { frames := 5, cells := 0, slots := 0, locals := 123 } s m ([.ref (ad 0)] : List Value).toArray below meth c H locs 0 0 (MQ below (va_Qi (fun (r : Int32) (u : zS) => Post r u.1 u.2.1 u.2.2.1 u.2.2.2) (fun u t => zPost G K A (wM ad K u.1 u.2.1 u.2.2.1 u.2.2.2) t) A) ([.ref (ad 0)] : List Value).toArray s 0 0 A) (F0 m 146 ls []) := by
  obtain ⟨hx, hb, hr, hml, hts, hown, hlocks, hA, hK⟩ := id C
  intro  I J B D ls H locs hok hl hw
  unfold wc_LassoFinderModel_reach_146 at hok
  refine lv_aload_n hx hb zd_LassoFinderModel_reach_146 rfl (lv_at hl 0 rfl) ?_
  refine z_get (v := .ref (ad 32)) hx hb hts hown hK hw zZ12 0 wM_g0 48 (by decide) zm_266 rfl zd_LassoFinderModel_reach_147 ?_
  refine lv_aload_n hx hb zd_LassoFinderModel_reach_150 rfl (lv_at hl 0 rfl) ?_
  refine z_get (v := .int (I 14)) hx hb hts hown hK hw zZ12 0 wM_g0 44 (by decide) zm_300 rfl zd_LassoFinderModel_reach_151 ?_
  refine lv_aload_n hx hb zd_LassoFinderModel_reach_154 rfl (lv_at hl 0 rfl) ?_
  refine z_get (v := .int (I 15)) hx hb hts hown hK hw zZ12 0 wM_g0 45 (by decide) zm_314 rfl zd_LassoFinderModel_reach_155 ?_
  refine va_iast (f := (B 29)) hx hb hK hw.1 hw.2.1 hw.2.2 32 0 wM_a32 rfl hok.1 zd_LassoFinderModel_reach_158 (fun H locs w91 w92 w93 => ?_)
  have hok := hok.2
  have hw := wM_t32 ⟨w91, w92, w93⟩
  refine lv_iconst (v := 0) hx hb zd_LassoFinderModel_reach_159 (by decide) ?_
  refine lv_istore_n hx hb zd_LassoFinderModel_reach_160 rfl hl (by decide) rfl (fun ls hl => ?_)
  have hl : lv_has ls 4 [(1, .int 0), (0, .ref (ad 0))] := hl
  refine lv_iconst (v := 0) hx hb zd_LassoFinderModel_reach_161 (by decide) ?_
  refine lv_istore_n hx hb zd_LassoFinderModel_reach_162 rfl hl (by decide) rfl (fun ls hl => ?_)
  have hl : lv_has ls 4 [(2, .int 0), (1, .int 0), (0, .ref (ad 0))] := hl
  obtain ⟨n9, hok⟩ := hok
  exact wL_LassoFinderModel_reach_163 G K ad  Post C n9 0 0 I J (va_up B 29 (upd (B 29) (I 14).toNatClampNeg (I 15))) D ls H locs hok (lv_sub hl [2, 1, 0] rfl) hw
set_option maxHeartbeats 8000000 in
set_option maxRecDepth 100000 in
theorem wB_LassoFinderModel_reach_120 {p : Program} {l : Launch} {e : Env} {s : State} {m : MethodId} {below : List Frame} {meth : Method} {c : Code} {A : Nat → Prop} (G : va_G) (K : Nat → ClassId) (ad : Nat → Nat) (Post : Int32 → (Nat → Int32) → (Nat → Int64) → (Nat → Nat → Int32) → (Nat → Nat → Int64) → Prop) (C : zCx p s m ([.ref (ad 0)] : List Value).toArray meth c A G K prog_14_method_38_code (some .boolean) 4 "LassoFinderModel") (K120 : Int32 → (Nat → Int32) → (Nat → Int64) → (Nat → Nat → Int32) → (Nat → Nat → Int64) → Prop) (kh120 : ∀ (x1 : Int32) (I : Nat → Int32) (J : Nat → Int64) (B : Nat → Nat → Int32) (D : Nat → Nat → Int64) (ls : Array Slot) (H : Heap) (locs : List Loc), K120 x1 I J B D → lv_has ls 4 [(0, .ref (ad 0)), (1, .int x1)] → zW G A s.heap (wM ad K I J B D) H locs → W p l e { frames := 5, cells := 0, slots := 0, locals := 123 } s m ([.ref (ad 0)] : List Value).toArray below meth c H locs 0 0 (MQ below (va_Qi (fun (r : Int32) (u : zS) => Post r u.1 u.2.1 u.2.2.1 u.2.2.2) (fun u t => zPost G K A (wM ad K u.1 u.2.1 u.2.2.1 u.2.2.2) t) A) ([.ref (ad 0)] : List Value).toArray s 0 0 A) (F0 m 120 ls [])) : ∀ (x1 : Int32) (I : Nat → Int32) (J : Nat → Int64) (B : Nat → Nat → Int32) (D : Nat → Nat → Int64) (ls : Array Slot) (H : Heap) (locs : List Loc), wb_LassoFinderModel_reach_120  K120 Post x1 I J B D → lv_has ls 4 [(0, .ref (ad 0)), (1, .int x1)] → zW G A s.heap (wM ad K I J B D) H locs → W p l e { frames := 5, cells := 0, slots := 0, locals := 123 } s m ([.ref (ad 0)] : List Value).toArray below meth c H locs 0 0 (MQ below (va_Qi (fun (r : Int32) (u : zS) => Post r u.1 u.2.1 u.2.2.1 u.2.2.2) (fun u t => zPost G K A (wM ad K u.1 u.2.1 u.2.2.1 u.2.2.2) t) A) ([.ref (ad 0)] : List Value).toArray s 0 0 A) (F0 m 120 ls []) := by
  obtain ⟨hx, hb, hr, hml, hts, hown, hlocks, hA, hK⟩ := id C
  intro x1 I J B D ls H locs hok hl hw
  unfold wb_LassoFinderModel_reach_120 at hok
  refine lv_iload_n hx hb zd_LassoFinderModel_reach_120 rfl (lv_at hl 1 rfl) ?_
  refine lv_aload_n hx hb zd_LassoFinderModel_reach_121 rfl (lv_at hl 0 rfl) ?_
  refine z_get (v := .int (I 14)) hx hb hts hown hK hw zZ12 0 wM_g0 44 (by decide) zm_300 rfl zd_LassoFinderModel_reach_122 ?_
  refine lv_icmp_ge (tgt := 146) hx hb zd_LassoFinderModel_reach_125 (by decide) (fun hc9 => ?_) (fun hc9 => ?_)
  · have hok := hok.1 hc9
    exact wJ_LassoFinderModel_reach_146 G K ad  Post C I J B D ls H locs hok (lv_sub hl [0] rfl) hw
  · have hok := hok.2 hc9
    refine lv_aload_n hx hb zd_LassoFinderModel_reach_128 rfl (lv_at hl 0 rfl) ?_
    refine z_get (v := .int (I 16)) hx hb hts hown hK hw zZ12 0 wM_g0 46 (by decide) zm_312 rfl zd_LassoFinderModel_reach_129 ?_
    refine lv_if_ne (tgt := 146) hx hb zd_LassoFinderModel_reach_132 (by decide) (fun hc10 => ?_) (fun hc10 => ?_)
    · have hok := hok.1 hc10
      exact wJ_LassoFinderModel_reach_146 G K ad  Post C I J B D ls H locs hok (lv_sub hl [0] rfl) hw
    · have hok := hok.2 hc10
      refine lv_aload_n hx hb zd_LassoFinderModel_reach_135 rfl (lv_at hl 0 rfl) ?_
      refine lv_iload_n hx hb zd_LassoFinderModel_reach_136 rfl (lv_at hl 1 rfl) ?_
      refine z_callv (w1 := fun (u : zS) => wM ad K u.1 u.2.1 u.2.2.1 u.2.2.2) (wr := []) (z_runV (q0 := 0) (wc := (wM ad K I J B D)) (As := [.int x1]) (rest := []) ⟨hx, hb, hml, hown, hts⟩ (w_LassoFinderModel_expand l G K ad I J B D x1 _ H.size hok) zf_LassoFinderModel_expand zm_313 ⟨Nat.le_of_ble_eq_true rfl, Nat.le_of_ble_eq_true rfl⟩ hK hw (List.range 58) wM_all wM_nd wM_g0 rfl rfl hl.1 rfl (Nat.le_of_ble_eq_true rfl) zd_LassoFinderModel_reach_137 ⟨Nat.le_of_ble_eq_true rfl, Nat.le_of_ble_eq_true rfl⟩) hw hA (List.range 58) [] wM_all rfl (by decide) (fun i hi => by cases hi) (fun u H locs hok hw => ?_)
      obtain ⟨I11, J11, B11, D11⟩ := u
      dsimp only at hok
      have hw : zW G A s.heap (wM ad K I11 J11 B11 D11) H locs := hw
      obtain ⟨z12, ez12⟩ : ∃ z : Int32, z = (x1 + 1) := ⟨_, rfl⟩
      have hok := hok z12 ez12
      refine lv_iinc (v := z12) hx hb zd_LassoFinderModel_reach_140 hl (k := 1) rfl ez12.symm (by decide) rfl (fun ls hl => ?_)
      have hl : lv_has ls 4 [(1, .int z12), (0, .ref (ad 0))] := hl
      refine lv_goto (tgt := 120) hx hb zd_LassoFinderModel_reach_143 (by decide) ?_
      exact kh120 z12 I11 J11 B11 D11 ls H locs hok (lv_sub hl [1, 0] rfl) hw
theorem wL_LassoFinderModel_reach_120 {p : Program} {l : Launch} {e : Env} {s : State} {m : MethodId} {below : List Frame} {meth : Method} {c : Code} {A : Nat → Prop} (G : va_G) (K : Nat → ClassId) (ad : Nat → Nat) (Post : Int32 → (Nat → Int32) → (Nat → Int64) → (Nat → Nat → Int32) → (Nat → Nat → Int64) → Prop) (C : zCx p s m ([.ref (ad 0)] : List Value).toArray meth c A G K prog_14_method_38_code (some .boolean) 4 "LassoFinderModel") : ∀ (n : Nat) (x1 : Int32) (I : Nat → Int32) (J : Nat → Int64) (B : Nat → Nat → Int32) (D : Nat → Nat → Int64) (ls : Array Slot) (H : Heap) (locs : List Loc), wl_LassoFinderModel_reach_120  Post n x1 I J B D → lv_has ls 4 [(0, .ref (ad 0)), (1, .int x1)] → zW G A s.heap (wM ad K I J B D) H locs → W p l e { frames := 5, cells := 0, slots := 0, locals := 123 } s m ([.ref (ad 0)] : List Value).toArray below meth c H locs 0 0 (MQ below (va_Qi (fun (r : Int32) (u : zS) => Post r u.1 u.2.1 u.2.2.1 u.2.2.2) (fun u t => zPost G K A (wM ad K u.1 u.2.1 u.2.2.1 u.2.2.2) t) A) ([.ref (ad 0)] : List Value).toArray s 0 0 A) (F0 m 120 ls []) := by
  intro n
  induction n with
  | zero => intro x1 I J B D ls H locs hok; exact hok.elim
  | succ n ih => exact wB_LassoFinderModel_reach_120 G K ad  Post C (wl_LassoFinderModel_reach_120  Post n) ih
set_option maxHeartbeats 8000000 in
set_option maxRecDepth 100000 in
theorem wB_LassoFinderModel_reach_53 {p : Program} {l : Launch} {e : Env} {s : State} {m : MethodId} {below : List Frame} {meth : Method} {c : Code} {A : Nat → Prop} (G : va_G) (K : Nat → ClassId) (ad : Nat → Nat) (Post : Int32 → (Nat → Int32) → (Nat → Int64) → (Nat → Nat → Int32) → (Nat → Nat → Int64) → Prop) (C : zCx p s m ([.ref (ad 0)] : List Value).toArray meth c A G K prog_14_method_38_code (some .boolean) 4 "LassoFinderModel") (K53 : Int32 → (Nat → Int32) → (Nat → Int64) → (Nat → Nat → Int32) → (Nat → Nat → Int64) → Prop) (kh53 : ∀ (x1 : Int32) (I : Nat → Int32) (J : Nat → Int64) (B : Nat → Nat → Int32) (D : Nat → Nat → Int64) (ls : Array Slot) (H : Heap) (locs : List Loc), K53 x1 I J B D → lv_has ls 4 [(0, .ref (ad 0)), (1, .int x1)] → zW G A s.heap (wM ad K I J B D) H locs → W p l e { frames := 5, cells := 0, slots := 0, locals := 123 } s m ([.ref (ad 0)] : List Value).toArray below meth c H locs 0 0 (MQ below (va_Qi (fun (r : Int32) (u : zS) => Post r u.1 u.2.1 u.2.2.1 u.2.2.2) (fun u t => zPost G K A (wM ad K u.1 u.2.1 u.2.2.1 u.2.2.2) t) A) ([.ref (ad 0)] : List Value).toArray s 0 0 A) (F0 m 53 ls [])) : ∀ (x1 : Int32) (I : Nat → Int32) (J : Nat → Int64) (B : Nat → Nat → Int32) (D : Nat → Nat → Int64) (ls : Array Slot) (H : Heap) (locs : List Loc), wb_LassoFinderModel_reach_53  K53 Post x1 I J B D → lv_has ls 4 [(0, .ref (ad 0)), (1, .int x1)] → zW G A s.heap (wM ad K I J B D) H locs → W p l e { frames := 5, cells := 0, slots := 0, locals := 123 } s m ([.ref (ad 0)] : List Value).toArray below meth c H locs 0 0 (MQ below (va_Qi (fun (r : Int32) (u : zS) => Post r u.1 u.2.1 u.2.2.1 u.2.2.2) (fun u t => zPost G K A (wM ad K u.1 u.2.1 u.2.2.1 u.2.2.2) t) A) ([.ref (ad 0)] : List Value).toArray s 0 0 A) (F0 m 53 ls []) := by
  obtain ⟨hx, hb, hr, hml, hts, hown, hlocks, hA, hK⟩ := id C
  intro x1 I J B D ls H locs hok hl hw
  unfold wb_LassoFinderModel_reach_53 at hok
  refine lv_iload_n hx hb zd_LassoFinderModel_reach_53 rfl (lv_at hl 1 rfl) ?_
  refine lv_aload_n hx hb zd_LassoFinderModel_reach_54 rfl (lv_at hl 0 rfl) ?_
  refine z_get (v := .int (I 10)) hx hb hts hown hK hw zZ12 0 wM_g0 30 (by decide) zm_310 rfl zd_LassoFinderModel_reach_55 ?_
  refine lv_icmp_ge (tgt := 88) hx hb zd_LassoFinderModel_reach_58 (by decide) (fun hc13 => ?_) (fun hc13 => ?_)
  · have hok := hok.1 hc13
    refine lv_aload_n hx hb zd_LassoFinderModel_reach_88 rfl (lv_at hl 0 rfl) ?_
    refine lv_iconst (v := (-1)) hx hb zd_LassoFinderModel_reach_89 (by decide) ?_
    refine z_put (v := .int (-1)) hx hb hts hown hK hw zZ12 0 wM_g0 59 (by decide) zm_320 rfl rfl rfl (Nat.le_of_ble_eq_true rfl) zd_LassoFinderModel_reach_90 (fun H locs hw => ?_)
    have hw := wM_sI17 hw
    refine lv_aload_n hx hb zd_LassoFinderModel_reach_93 rfl (lv_at hl 0 rfl) ?_
    refine z_get (v := .ref (ad 31)) hx hb hts hown hK hw zZ12 0 wM_g0 47 (by decide) zm_265 rfl zd_LassoFinderModel_reach_94 ?_
    refine lv_iconst (v := 0) hx hb zd_LassoFinderModel_reach_97 (by decide) ?_
    refine lv_aload_n hx hb zd_LassoFinderModel_reach_98 rfl (lv_at hl 0 rfl) ?_
    refine z_calll (w1 := fun (u : zS) => wM ad K u.1 u.2.1 u.2.2.1 u.2.2.2) (wr := []) (z_runV (q0 := 0) (wc := (wM ad K (upd I 17 (-1)) J B D)) (As := []) (rest := [.int 0, .ref (ad 31)]) ⟨hx, hb, hml, hown, hts⟩ (w_LassoFinderModel_packed l G K ad (upd I 17 (-1)) J B D  _ H.size hok) zf_LassoFinderModel_packed zm_311 ⟨Nat.le_of_ble_eq_true rfl, Nat.le_of_ble_eq_true rfl⟩ hK hw (List.range 58) wM_all wM_nd wM_g0 rfl rfl hl.1 rfl (Nat.le_of_ble_eq_true rfl) zd_LassoFinderModel_reach_99 ⟨Nat.le_of_ble_eq_true rfl, Nat.le_of_ble_eq_true rfl⟩) hw hA (List.range 58) [] wM_all rfl (by decide) (fun i hi => by cases hi) (fun r14 u H locs hok hw => ?_)
    obtain ⟨I14, J14, B14, D14⟩ := u
    dsimp only at hok
    have hw : zW G A s.heap (wM ad K I14 J14 B14 D14) H locs := hw
    refine va_last (f := (D14 1)) hx hb hK hw.1 hw.2.1 hw.2.2 31 1 wM_a31 rfl hok.1 zd_LassoFinderModel_reach_102 (fun H locs w91 w92 w93 => ?_)
    have hok := hok.2
    have hw := wM_t31 ⟨w91, w92, w93⟩
    refine lv_aload_n hx hb zd_LassoFinderModel_reach_103 rfl (lv_at hl 0 rfl) ?_
    refine lv_iconst (v := 1) hx hb zd_LassoFinderModel_reach_104 (by decide) ?_
    refine z_put (v := .int 1) hx hb hts hown hK hw zZ12 0 wM_g0 44 (by decide) zm_300 rfl rfl rfl (Nat.le_of_ble_eq_true rfl) zd_LassoFinderModel_reach_105 (fun H locs hw => ?_)
    have hw := wM_sI14 hw
    refine lv_aload_n hx hb zd_LassoFinderModel_reach_108 rfl (lv_at hl 0 rfl) ?_
    refine lv_iconst (v := 0) hx hb zd_LassoFinderModel_reach_109 (by decide) ?_
    refine z_put (v := .int 0) hx hb hts hown hK hw zZ12 0 wM_g0 45 (by decide) zm_314 rfl rfl rfl (Nat.le_of_ble_eq_true rfl) zd_LassoFinderModel_reach_110 (fun H locs hw => ?_)
    have hw := wM_sI15 hw
    refine lv_aload_n hx hb zd_LassoFinderModel_reach_113 rfl (lv_at hl 0 rfl) ?_
    refine lv_iconst (v := 0) hx hb zd_LassoFinderModel_reach_114 (by decide) ?_
    refine z_put (v := .int 0) hx hb hts hown hK hw zZ12 0 wM_g0 46 (by decide) zm_312 rfl rfl rfl (Nat.le_of_ble_eq_true rfl) zd_LassoFinderModel_reach_115 (fun H locs hw => ?_)
    have hw := wM_sI16 hw
    refine lv_iconst (v := 0) hx hb zd_LassoFinderModel_reach_118 (by decide) ?_
    refine lv_istore_n hx hb zd_LassoFinderModel_reach_119 rfl hl (by decide) rfl (fun ls hl => ?_)
    have hl : lv_has ls 4 [(1, .int 0), (0, .ref (ad 0))] := hl
    obtain ⟨n9, hok⟩ := hok
    exact wL_LassoFinderModel_reach_120 G K ad  Post C n9 0 (upd (upd (upd I14 14 1) 15 0) 16 0) J14 B14 (va_up D14 1 (vp_updL (D14 1) (0 : Int32).toNatClampNeg r14)) ls H locs hok (lv_sub hl [1, 0] rfl) hw
  · have hok := hok.2 hc13
    refine lv_aload_n hx hb zd_LassoFinderModel_reach_61 rfl (lv_at hl 0 rfl) ?_
    refine z_get (v := .ref (ad 42)) hx hb hts hown hK hw zZ12 0 wM_g0 58 (by decide) zm_276 rfl zd_LassoFinderModel_reach_62 ?_
    refine lv_iload_n hx hb zd_LassoFinderModel_reach_65 rfl (lv_at hl 1 rfl) ?_
    refine lv_aload_n hx hb zd_LassoFinderModel_reach_66 rfl (lv_at hl 0 rfl) ?_
    refine lv_iload_n hx hb zd_LassoFinderModel_reach_67 rfl (lv_at hl 1 rfl) ?_
    refine lv_aload_n hx hb zd_LassoFinderModel_reach_68 rfl (lv_at hl 0 rfl) ?_
    refine lv_aload_n hx hb zd_LassoFinderModel_reach_69 rfl (lv_at hl 0 rfl) ?_
    refine z_get (v := .ref (ad 22)) hx hb hts hown hK hw zZ12 0 wM_g0 32 (by decide) zm_256 rfl zd_LassoFinderModel_reach_70 ?_
    refine lv_iload_n hx hb zd_LassoFinderModel_reach_73 rfl (lv_at hl 1 rfl) ?_
    refine va_iald (f := (B 21)) hx hb hK hw.1 22 0 wM_a22 rfl hok.1 zd_LassoFinderModel_reach_74 ?_
    have hok := hok.2
    refine lv_topi (fun z15 ez15 => ?_)
    have hok := hok z15 ez15
    refine z_calli (w1 := fun (u : zS) => wM ad K u.1 u.2.1 u.2.2.1 u.2.2.2) (wr := []) (z_runV (q0 := 0) (wc := (wM ad K I J B D)) (As := [.int z15]) (rest := [.int x1, .ref (ad 0), .int x1, .ref (ad 42)]) ⟨hx, hb, hml, hown, hts⟩ (w_LassoFinderModel_instead l G K ad I J B D z15 _ H.size hok) zf_LassoFinderModel_instead zm_305 ⟨Nat.le_of_ble_eq_true rfl, Nat.le_of_ble_eq_true rfl⟩ hK hw (List.range 58) wM_all wM_nd wM_g0 rfl rfl hl.1 rfl (Nat.le_of_ble_eq_true rfl) zd_LassoFinderModel_reach_75 ⟨Nat.le_of_ble_eq_true rfl, Nat.le_of_ble_eq_true rfl⟩) hw hA (List.range 58) [] wM_all rfl (by decide) (fun i hi => by cases hi) (fun r16 u H locs hok hw => ?_)
    obtain ⟨I16, J16, B16, D16⟩ := u
    dsimp only at hok
    have hw : zW G A s.heap (wM ad K I16 J16 B16 D16) H locs := hw
    refine z_calli (w1 := fun (u : zS) => wM ad K u.1 u.2.1 u.2.2.1 u.2.2.2) (wr := []) (z_runV (q0 := 0) (wc := (wM ad K I16 J16 B16 D16)) (As := [.int x1, .int r16]) (rest := [.int x1, .ref (ad 42)]) ⟨hx, hb, hml, hown, hts⟩ (w_LassoFinderModel_pointOf l G K ad I16 J16 B16 D16 x1 r16 _ H.size hok) zf_LassoFinderModel_pointOf zm_306 ⟨Nat.le_of_ble_eq_true rfl, Nat.le_of_ble_eq_true rfl⟩ hK hw (List.range 58) wM_all wM_nd wM_g0 rfl rfl hl.1 rfl (Nat.le_of_ble_eq_true rfl) zd_LassoFinderModel_reach_78 ⟨Nat.le_of_ble_eq_true rfl, Nat.le_of_ble_eq_true rfl⟩) hw hA (List.range 58) [] wM_all rfl (by decide) (fun i hi => by cases hi) (fun r17 u H locs hok hw => ?_)
    obtain ⟨I17, J17, B17, D17⟩ := u
    dsimp only at hok
    have hw : zW G A s.heap (wM ad K I17 J17 B17 D17) H locs := hw
    refine va_iast (f := (B17 39)) hx hb hK hw.1 hw.2.1 hw.2.2 42 0 wM_a42 rfl hok.1 zd_LassoFinderModel_reach_81 (fun H locs w91 w92 w93 => ?_)
    have hok := hok.2
    have hw := wM_t42 ⟨w91, w92, w93⟩
    obtain ⟨z18, ez18⟩ : ∃ z : Int32, z = (x1 + 1) := ⟨_, rfl⟩
    have hok := hok z18 ez18
    refine lv_iinc (v := z18) hx hb zd_LassoFinderModel_reach_82 hl (k := 1) rfl ez18.symm (by decide) rfl (fun ls hl => ?_)
    have hl : lv_has ls 4 [(1, .int z18), (0, .ref (ad 0))] := hl
    refine lv_goto (tgt := 53) hx hb zd_LassoFinderModel_reach_85 (by decide) ?_
    exact kh53 z18 I17 J17 (va_up B17 39 (upd (B17 39) x1.toNatClampNeg r17)) D17 ls H locs hok (lv_sub hl [1, 0] rfl) hw
theorem wL_LassoFinderModel_reach_53 {p : Program} {l : Launch} {e : Env} {s : State} {m : MethodId} {below : List Frame} {meth : Method} {c : Code} {A : Nat → Prop} (G : va_G) (K : Nat → ClassId) (ad : Nat → Nat) (Post : Int32 → (Nat → Int32) → (Nat → Int64) → (Nat → Nat → Int32) → (Nat → Nat → Int64) → Prop) (C : zCx p s m ([.ref (ad 0)] : List Value).toArray meth c A G K prog_14_method_38_code (some .boolean) 4 "LassoFinderModel") : ∀ (n : Nat) (x1 : Int32) (I : Nat → Int32) (J : Nat → Int64) (B : Nat → Nat → Int32) (D : Nat → Nat → Int64) (ls : Array Slot) (H : Heap) (locs : List Loc), wl_LassoFinderModel_reach_53  Post n x1 I J B D → lv_has ls 4 [(0, .ref (ad 0)), (1, .int x1)] → zW G A s.heap (wM ad K I J B D) H locs → W p l e { frames := 5, cells := 0, slots := 0, locals := 123 } s m ([.ref (ad 0)] : List Value).toArray below meth c H locs 0 0 (MQ below (va_Qi (fun (r : Int32) (u : zS) => Post r u.1 u.2.1 u.2.2.1 u.2.2.2) (fun u t => zPost G K A (wM ad K u.1 u.2.1 u.2.2.1 u.2.2.2) t) A) ([.ref (ad 0)] : List Value).toArray s 0 0 A) (F0 m 53 ls []) := by
  intro n
  induction n with
  | zero => intro x1 I J B D ls H locs hok; exact hok.elim
  | succ n ih => exact wB_LassoFinderModel_reach_53 G K ad  Post C (wl_LassoFinderModel_reach_53  Post n) ih
set_option maxHeartbeats 8000000 in
set_option maxRecDepth 100000 in
theorem wB_LassoFinderModel_reach_30 {p : Program} {l : Launch} {e : Env} {s : State} {m : MethodId} {below : List Frame} {meth : Method} {c : Code} {A : Nat → Prop} (G : va_G) (K : Nat → ClassId) (ad : Nat → Nat) (Post : Int32 → (Nat → Int32) → (Nat → Int64) → (Nat → Nat → Int32) → (Nat → Nat → Int64) → Prop) (C : zCx p s m ([.ref (ad 0)] : List Value).toArray meth c A G K prog_14_method_38_code (some .boolean) 4 "LassoFinderModel") (K30 : Int32 → (Nat → Int32) → (Nat → Int64) → (Nat → Nat → Int32) → (Nat → Nat → Int64) → Prop) (kh30 : ∀ (x1 : Int32) (I : Nat → Int32) (J : Nat → Int64) (B : Nat → Nat → Int32) (D : Nat → Nat → Int64) (ls : Array Slot) (H : Heap) (locs : List Loc), K30 x1 I J B D → lv_has ls 4 [(0, .ref (ad 0)), (1, .int x1)] → zW G A s.heap (wM ad K I J B D) H locs → W p l e { frames := 5, cells := 0, slots := 0, locals := 123 } s m ([.ref (ad 0)] : List Value).toArray below meth c H locs 0 0 (MQ below (va_Qi (fun (r : Int32) (u : zS) => Post r u.1 u.2.1 u.2.2.1 u.2.2.2) (fun u t => zPost G K A (wM ad K u.1 u.2.1 u.2.2.1 u.2.2.2) t) A) ([.ref (ad 0)] : List Value).toArray s 0 0 A) (F0 m 30 ls [])) : ∀ (x1 : Int32) (I : Nat → Int32) (J : Nat → Int64) (B : Nat → Nat → Int32) (D : Nat → Nat → Int64) (ls : Array Slot) (H : Heap) (locs : List Loc), wb_LassoFinderModel_reach_30  K30 Post x1 I J B D → lv_has ls 4 [(0, .ref (ad 0)), (1, .int x1)] → zW G A s.heap (wM ad K I J B D) H locs → W p l e { frames := 5, cells := 0, slots := 0, locals := 123 } s m ([.ref (ad 0)] : List Value).toArray below meth c H locs 0 0 (MQ below (va_Qi (fun (r : Int32) (u : zS) => Post r u.1 u.2.1 u.2.2.1 u.2.2.2) (fun u t => zPost G K A (wM ad K u.1 u.2.1 u.2.2.1 u.2.2.2) t) A) ([.ref (ad 0)] : List Value).toArray s 0 0 A) (F0 m 30 ls []) := by
  obtain ⟨hx, hb, hr, hml, hts, hown, hlocks, hA, hK⟩ := id C
  intro x1 I J B D ls H locs hok hl hw
  unfold wb_LassoFinderModel_reach_30 at hok
  refine lv_iload_n hx hb zd_LassoFinderModel_reach_30 rfl (lv_at hl 1 rfl) ?_
  refine lv_aload_n hx hb zd_LassoFinderModel_reach_31 rfl (lv_at hl 0 rfl) ?_
  refine z_get (v := .int (I 7)) hx hb hts hown hK hw zZ12 0 wM_g0 8 (by decide) zm_309 rfl zd_LassoFinderModel_reach_32 ?_
  refine lv_icmp_ge (tgt := 51) hx hb zd_LassoFinderModel_reach_35 (by decide) (fun hc19 => ?_) (fun hc19 => ?_)
  · have hok := hok.1 hc19
    refine lv_iconst (v := 0) hx hb zd_LassoFinderModel_reach_51 (by decide) ?_
    refine lv_istore_n hx hb zd_LassoFinderModel_reach_52 rfl hl (by decide) rfl (fun ls hl => ?_)
    have hl : lv_has ls 4 [(1, .int 0), (0, .ref (ad 0))] := hl
    obtain ⟨n9, hok⟩ := hok
    exact wL_LassoFinderModel_reach_53 G K ad  Post C n9 0 I J B D ls H locs hok (lv_sub hl [1, 0] rfl) hw
  · have hok := hok.2 hc19
    refine lv_aload_n hx hb zd_LassoFinderModel_reach_38 rfl (lv_at hl 0 rfl) ?_
    refine z_get (v := .ref (ad 40)) hx hb hts hown hK hw zZ12 0 wM_g0 56 (by decide) zm_274 rfl zd_LassoFinderModel_reach_39 ?_
    refine lv_iload_n hx hb zd_LassoFinderModel_reach_42 rfl (lv_at hl 1 rfl) ?_
    refine lv_iconst (v := 0) hx hb zd_LassoFinderModel_reach_43 (by decide) ?_
    refine va_iast (f := (B 37)) hx hb hK hw.1 hw.2.1 hw.2.2 40 0 wM_a40 rfl hok.1 zd_LassoFinderModel_reach_44 (fun H locs w91 w92 w93 => ?_)
    have hok := hok.2
    have hw := wM_t40 ⟨w91, w92, w93⟩
    obtain ⟨z20, ez20⟩ : ∃ z : Int32, z = (x1 + 1) := ⟨_, rfl⟩
    have hok := hok z20 ez20
    refine lv_iinc (v := z20) hx hb zd_LassoFinderModel_reach_45 hl (k := 1) rfl ez20.symm (by decide) rfl (fun ls hl => ?_)
    have hl : lv_has ls 4 [(1, .int z20), (0, .ref (ad 0))] := hl
    refine lv_goto (tgt := 30) hx hb zd_LassoFinderModel_reach_48 (by decide) ?_
    exact kh30 z20 I J (va_up B 37 (upd (B 37) x1.toNatClampNeg 0)) D ls H locs hok (lv_sub hl [1, 0] rfl) hw
theorem wL_LassoFinderModel_reach_30 {p : Program} {l : Launch} {e : Env} {s : State} {m : MethodId} {below : List Frame} {meth : Method} {c : Code} {A : Nat → Prop} (G : va_G) (K : Nat → ClassId) (ad : Nat → Nat) (Post : Int32 → (Nat → Int32) → (Nat → Int64) → (Nat → Nat → Int32) → (Nat → Nat → Int64) → Prop) (C : zCx p s m ([.ref (ad 0)] : List Value).toArray meth c A G K prog_14_method_38_code (some .boolean) 4 "LassoFinderModel") : ∀ (n : Nat) (x1 : Int32) (I : Nat → Int32) (J : Nat → Int64) (B : Nat → Nat → Int32) (D : Nat → Nat → Int64) (ls : Array Slot) (H : Heap) (locs : List Loc), wl_LassoFinderModel_reach_30  Post n x1 I J B D → lv_has ls 4 [(0, .ref (ad 0)), (1, .int x1)] → zW G A s.heap (wM ad K I J B D) H locs → W p l e { frames := 5, cells := 0, slots := 0, locals := 123 } s m ([.ref (ad 0)] : List Value).toArray below meth c H locs 0 0 (MQ below (va_Qi (fun (r : Int32) (u : zS) => Post r u.1 u.2.1 u.2.2.1 u.2.2.2) (fun u t => zPost G K A (wM ad K u.1 u.2.1 u.2.2.1 u.2.2.2) t) A) ([.ref (ad 0)] : List Value).toArray s 0 0 A) (F0 m 30 ls []) := by
  intro n
  induction n with
  | zero => intro x1 I J B D ls H locs hok; exact hok.elim
  | succ n ih => exact wB_LassoFinderModel_reach_30 G K ad  Post C (wl_LassoFinderModel_reach_30  Post n) ih
set_option maxHeartbeats 8000000 in
set_option maxRecDepth 100000 in
theorem wB_LassoFinderModel_reach_2 {p : Program} {l : Launch} {e : Env} {s : State} {m : MethodId} {below : List Frame} {meth : Method} {c : Code} {A : Nat → Prop} (G : va_G) (K : Nat → ClassId) (ad : Nat → Nat) (Post : Int32 → (Nat → Int32) → (Nat → Int64) → (Nat → Nat → Int32) → (Nat → Nat → Int64) → Prop) (C : zCx p s m ([.ref (ad 0)] : List Value).toArray meth c A G K prog_14_method_38_code (some .boolean) 4 "LassoFinderModel") (K2 : Int32 → (Nat → Int32) → (Nat → Int64) → (Nat → Nat → Int32) → (Nat → Nat → Int64) → Prop) (kh2 : ∀ (x1 : Int32) (I : Nat → Int32) (J : Nat → Int64) (B : Nat → Nat → Int32) (D : Nat → Nat → Int64) (ls : Array Slot) (H : Heap) (locs : List Loc), K2 x1 I J B D → lv_has ls 4 [(0, .ref (ad 0)), (1, .int x1)] → zW G A s.heap (wM ad K I J B D) H locs → W p l e { frames := 5, cells := 0, slots := 0, locals := 123 } s m ([.ref (ad 0)] : List Value).toArray below meth c H locs 0 0 (MQ below (va_Qi (fun (r : Int32) (u : zS) => Post r u.1 u.2.1 u.2.2.1 u.2.2.2) (fun u t => zPost G K A (wM ad K u.1 u.2.1 u.2.2.1 u.2.2.2) t) A) ([.ref (ad 0)] : List Value).toArray s 0 0 A) (F0 m 2 ls [])) : ∀ (x1 : Int32) (I : Nat → Int32) (J : Nat → Int64) (B : Nat → Nat → Int32) (D : Nat → Nat → Int64) (ls : Array Slot) (H : Heap) (locs : List Loc), wb_LassoFinderModel_reach_2  K2 Post x1 I J B D → lv_has ls 4 [(0, .ref (ad 0)), (1, .int x1)] → zW G A s.heap (wM ad K I J B D) H locs → W p l e { frames := 5, cells := 0, slots := 0, locals := 123 } s m ([.ref (ad 0)] : List Value).toArray below meth c H locs 0 0 (MQ below (va_Qi (fun (r : Int32) (u : zS) => Post r u.1 u.2.1 u.2.2.1 u.2.2.2) (fun u t => zPost G K A (wM ad K u.1 u.2.1 u.2.2.1 u.2.2.2) t) A) ([.ref (ad 0)] : List Value).toArray s 0 0 A) (F0 m 2 ls []) := by
  obtain ⟨hx, hb, hr, hml, hts, hown, hlocks, hA, hK⟩ := id C
  intro x1 I J B D ls H locs hok hl hw
  unfold wb_LassoFinderModel_reach_2 at hok
  refine lv_iload_n hx hb zd_LassoFinderModel_reach_2 rfl (lv_at hl 1 rfl) ?_
  refine lv_aload_n hx hb zd_LassoFinderModel_reach_3 rfl (lv_at hl 0 rfl) ?_
  refine z_get (v := .int (I 6)) hx hb hts hown hK hw zZ12 0 wM_g0 7 (by decide) zm_308 rfl zd_LassoFinderModel_reach_4 ?_
  refine lv_icmp_ge (tgt := 28) hx hb zd_LassoFinderModel_reach_7 (by decide) (fun hc21 => ?_) (fun hc21 => ?_)
  · have hok := hok.1 hc21
    refine lv_iconst (v := 0) hx hb zd_LassoFinderModel_reach_28 (by decide) ?_
    refine lv_istore_n hx hb zd_LassoFinderModel_reach_29 rfl hl (by decide) rfl (fun ls hl => ?_)
    have hl : lv_has ls 4 [(1, .int 0), (0, .ref (ad 0))] := hl
    obtain ⟨n9, hok⟩ := hok
    exact wL_LassoFinderModel_reach_30 G K ad  Post C n9 0 I J B D ls H locs hok (lv_sub hl [1, 0] rfl) hw
  · have hok := hok.2 hc21
    refine lv_aload_n hx hb zd_LassoFinderModel_reach_10 rfl (lv_at hl 0 rfl) ?_
    refine z_get (v := .ref (ad 39)) hx hb hts hown hK hw zZ12 0 wM_g0 55 (by decide) zm_273 rfl zd_LassoFinderModel_reach_11 ?_
    refine lv_iload_n hx hb zd_LassoFinderModel_reach_14 rfl (lv_at hl 1 rfl) ?_
    refine lv_aload_n hx hb zd_LassoFinderModel_reach_15 rfl (lv_at hl 0 rfl) ?_
    refine z_get (v := .ref (ad 4)) hx hb hts hown hK hw zZ12 0 wM_g0 11 (by decide) zm_238 rfl zd_LassoFinderModel_reach_16 ?_
    refine lv_iload_n hx hb zd_LassoFinderModel_reach_19 rfl (lv_at hl 1 rfl) ?_
    refine va_iald (f := (B 3)) hx hb hK hw.1 4 0 wM_a4 rfl hok.1 zd_LassoFinderModel_reach_20 ?_
    have hok := hok.2
    refine lv_topi (fun z22 ez22 => ?_)
    have hok := hok z22 ez22
    refine va_iast (f := (B 36)) hx hb hK hw.1 hw.2.1 hw.2.2 39 0 wM_a39 rfl hok.1 zd_LassoFinderModel_reach_21 (fun H locs w91 w92 w93 => ?_)
    have hok := hok.2
    have hw := wM_t39 ⟨w91, w92, w93⟩
    obtain ⟨z23, ez23⟩ : ∃ z : Int32, z = (x1 + 1) := ⟨_, rfl⟩
    have hok := hok z23 ez23
    refine lv_iinc (v := z23) hx hb zd_LassoFinderModel_reach_22 hl (k := 1) rfl ez23.symm (by decide) rfl (fun ls hl => ?_)
    have hl : lv_has ls 4 [(1, .int z23), (0, .ref (ad 0))] := hl
    refine lv_goto (tgt := 2) hx hb zd_LassoFinderModel_reach_25 (by decide) ?_
    exact kh2 z23 I J (va_up B 36 (upd (B 36) x1.toNatClampNeg z22)) D ls H locs hok (lv_sub hl [1, 0] rfl) hw
theorem wL_LassoFinderModel_reach_2 {p : Program} {l : Launch} {e : Env} {s : State} {m : MethodId} {below : List Frame} {meth : Method} {c : Code} {A : Nat → Prop} (G : va_G) (K : Nat → ClassId) (ad : Nat → Nat) (Post : Int32 → (Nat → Int32) → (Nat → Int64) → (Nat → Nat → Int32) → (Nat → Nat → Int64) → Prop) (C : zCx p s m ([.ref (ad 0)] : List Value).toArray meth c A G K prog_14_method_38_code (some .boolean) 4 "LassoFinderModel") : ∀ (n : Nat) (x1 : Int32) (I : Nat → Int32) (J : Nat → Int64) (B : Nat → Nat → Int32) (D : Nat → Nat → Int64) (ls : Array Slot) (H : Heap) (locs : List Loc), wl_LassoFinderModel_reach_2  Post n x1 I J B D → lv_has ls 4 [(0, .ref (ad 0)), (1, .int x1)] → zW G A s.heap (wM ad K I J B D) H locs → W p l e { frames := 5, cells := 0, slots := 0, locals := 123 } s m ([.ref (ad 0)] : List Value).toArray below meth c H locs 0 0 (MQ below (va_Qi (fun (r : Int32) (u : zS) => Post r u.1 u.2.1 u.2.2.1 u.2.2.2) (fun u t => zPost G K A (wM ad K u.1 u.2.1 u.2.2.1 u.2.2.2) t) A) ([.ref (ad 0)] : List Value).toArray s 0 0 A) (F0 m 2 ls []) := by
  intro n
  induction n with
  | zero => intro x1 I J B D ls H locs hok; exact hok.elim
  | succ n ih => exact wB_LassoFinderModel_reach_2 G K ad  Post C (wl_LassoFinderModel_reach_2  Post n) ih
set_option maxHeartbeats 8000000 in
set_option maxRecDepth 100000 in
theorem w_LassoFinderModel_reach (l : Launch) (G : va_G) (K : Nat → ClassId) (ad : Nat → Nat) (I : Nat → Int32) (J : Nat → Int64) (B : Nat → Nat → Int32) (D : Nat → Nat → Int64) (Post : Int32 → (Nat → Int32) → (Nat → Int64) → (Nat → Nat → Int32) → (Nat → Nat → Int64) → Prop) (sz : Nat) (hok : wp_LassoFinderModel_reach I J B D  Post) : Met l zy_LassoFinderModel_reach (Cond.code zy_LassoFinderModel_reach prog_14_method_38_code 4 (some .boolean) :: zTB) { frames := 5, cells := 0, slots := 0, locals := 123 } (va_Pc [.ref (ad 0)] (zPre G K (wM ad K I J B D) sz)) (va_Qi (fun (r : Int32) (u : zS) => Post r u.1 u.2.1 u.2.2.1 u.2.2.2) (fun u t => zPost G K (va_A (wM ad K I J B D) sz) (wM ad K u.1 u.2.1 u.2.2.1 u.2.2.2) t) (va_A (wM ad K I J B D) sz)) 0 0 (va_A (wM ad K I J B D) sz) := by
  refine zMet (y := zy_LassoFinderModel_reach) (av := [.ref (ad 0)]) (maxL := 4) (cc := prog_14_method_38_code) (ret := (some .boolean)) (W0 := (wM ad K I J B D)) (sz := sz) (G := G) (K := K) (wt := zTB) (mc := 0) (ms := 0) (Qf := fun A => va_Qi (fun (r : Int32) (u : zS) => Post r u.1 u.2.1 u.2.2.1 u.2.2.2) (fun u t => zPost G K A (wM ad K u.1 u.2.1 u.2.2.1 u.2.2.2) t) A) (by decide) (Nat.le_of_ble_eq_true rfl) ?_
  intro p e s m below meth c ls A hx hb hr hml hts hown hlocks hin hA hK H locs hw hsz hl
  clear hsz
  have hown : s.vm.findClass "LassoFinderModel" = some m.cls := hown
  have C : zCx p s m ([.ref (ad 0)] : List Value).toArray meth c A G K prog_14_method_38_code (some .boolean) 4 "LassoFinderModel" := ⟨hx, hb, hr, hml, hts, hown, hlocks, hA, hK⟩
  have hl : lv_has ls 4 [(0, .ref (ad 0))] := hl
  have hw : zW G A s.heap (wM ad K I J B D) H locs := hw
  unfold wp_LassoFinderModel_reach at hok
  refine lv_iconst (v := 0) hx hb zd_LassoFinderModel_reach_0 (by decide) ?_
  refine lv_istore_n hx hb zd_LassoFinderModel_reach_1 rfl hl (by decide) rfl (fun ls hl => ?_)
  have hl : lv_has ls 4 [(1, .int 0), (0, .ref (ad 0))] := hl
  obtain ⟨n9, hok⟩ := hok
  exact wL_LassoFinderModel_reach_2 G K ad  Post C n9 0 I J B D ls H locs hok (lv_sub hl [1, 0] rfl) hw
