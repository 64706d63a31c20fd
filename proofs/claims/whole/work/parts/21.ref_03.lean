abbrev zy_LassoFinderModel_doable : MethodName := ⟨"LassoFinderModel", "doable", "()J"⟩
abbrev zy_LassoFinderModel_maskOf : MethodName := ⟨"LassoFinderModel", "maskOf", "(I)J"⟩
abbrev zy_LassoFinderModel_can : MethodName := ⟨"LassoFinderModel", "can", "(I)Z"⟩
abbrev zy_LassoFinderModel_meets : MethodName := ⟨"LassoFinderModel", "meets", "(II)Z"⟩
abbrev zy_LassoFinderModel_step : MethodName := ⟨"LassoFinderModel", "step", "(III)V"⟩
theorem zm_239 : Cond.fieldLink "LassoFinderModel" 26 "LassoFinderModel" "slots" "[I" ∈ zTB := z_in (zt_6 _ (List.mem_of_getElem? (i := 106) rfl)) rfl
theorem zm_265 : Cond.fieldLink "LassoFinderModel" 106 "LassoFinderModel" "key" "[J" ∈ zTB := z_in (zt_6 _ (List.mem_of_getElem? (i := 141) rfl)) rfl
theorem zm_267 : Cond.fieldLink "LassoFinderModel" 112 "LassoFinderModel" "target" "[I" ∈ zTB := z_in (zt_6 _ (List.mem_of_getElem? (i := 143) rfl)) rfl
theorem zm_268 : Cond.fieldLink "LassoFinderModel" 115 "LassoFinderModel" "source" "[I" ∈ zTB := z_in (zt_6 _ (List.mem_of_getElem? (i := 144) rfl)) rfl
theorem zm_269 : Cond.fieldLink "LassoFinderModel" 118 "LassoFinderModel" "doer" "[I" ∈ zTB := z_in (zt_6 _ (List.mem_of_getElem? (i := 145) rfl)) rfl
theorem zm_270 : Cond.fieldLink "LassoFinderModel" 121 "LassoFinderModel" "receiver" "[I" ∈ zTB := z_in (zt_6 _ (List.mem_of_getElem? (i := 146) rfl)) rfl
theorem zm_300 : Cond.fieldLink "LassoFinderModel" 345 "LassoFinderModel" "states" "I" ∈ zTB := z_in (zt_6 _ (List.mem_of_getElem? (i := 138) rfl)) rfl
theorem zm_311 : Cond.methodLink "LassoFinderModel" 341 ⟨"LassoFinderModel", "packed", "()J"⟩ ∈ zTB := z_in (zt_7 _ (List.mem_of_getElem? (i := 213) rfl)) rfl
theorem zm_312 : Cond.fieldLink "LassoFinderModel" 330 "LassoFinderModel" "over" "Z" ∈ zTB := z_in (zt_6 _ (List.mem_of_getElem? (i := 140) rfl)) rfl
theorem zm_314 : Cond.fieldLink "LassoFinderModel" 327 "LassoFinderModel" "steps" "I" ∈ zTB := z_in (zt_6 _ (List.mem_of_getElem? (i := 139) rfl)) rfl
theorem zm_315 : Cond.methodLink "LassoFinderModel" 334 ⟨"LassoFinderModel", "unpack", "(J)V"⟩ ∈ zTB := z_in (zt_7 _ (List.mem_of_getElem? (i := 221) rfl)) rfl
theorem zm_318 : Cond.methodLink "LassoFinderModel" 317 ⟨"LassoFinderModel", "meets", "(II)Z"⟩ ∈ zTB := z_in (zt_8 _ (List.mem_of_getElem? (i := 4) rfl)) rfl
theorem zm_319 : Cond.methodLink "LassoFinderModel" 338 ⟨"LassoFinderModel", "act", "(II)V"⟩ ∈ zTB := z_in (zt_8 _ (List.mem_of_getElem? (i := 12) rfl)) rfl
theorem zm_326 : Cond.methodLink "LassoFinderModel" 310 ⟨"LassoFinderModel", "maskOf", "(I)J"⟩ ∈ zTB := z_in (zt_7 _ (List.mem_of_getElem? (i := 232) rfl)) rfl
theorem zm_327 : Cond.methodLink "LassoFinderModel" 321 ⟨"LassoFinderModel", "can", "(I)Z"⟩ ∈ zTB := z_in (zt_7 _ (List.mem_of_getElem? (i := 236) rfl)) rfl
theorem zm_394 : Cond.code ⟨"LassoFinderModel", "packed", "()J"⟩ prog_14_method_28_code 5 (some .long) ∈ zTB := z_in (zt_7 _ (List.mem_of_getElem? (i := 216) rfl)) rfl
theorem zm_395 : Cond.instanceMethod ⟨"LassoFinderModel", "packed", "()J"⟩ ∈ zTB := z_in (zt_7 _ (List.mem_of_getElem? (i := 215) rfl)) rfl
theorem zm_396 : Cond.code ⟨"LassoFinderModel", "unpack", "(J)V"⟩ prog_14_method_29_code 5 none ∈ zTB := z_in (zt_7 _ (List.mem_of_getElem? (i := 224) rfl)) rfl
theorem zm_397 : Cond.instanceMethod ⟨"LassoFinderModel", "unpack", "(J)V"⟩ ∈ zTB := z_in (zt_7 _ (List.mem_of_getElem? (i := 223) rfl)) rfl
theorem zm_398 : Cond.code ⟨"LassoFinderModel", "act", "(II)V"⟩ prog_14_method_35_code 9 none ∈ zTB := z_in (zt_8 _ (List.mem_of_getElem? (i := 15) rfl)) rfl
theorem zm_399 : Cond.instanceMethod ⟨"LassoFinderModel", "act", "(II)V"⟩ ∈ zTB := z_in (zt_8 _ (List.mem_of_getElem? (i := 14) rfl)) rfl
theorem zm_400 : Cond.code ⟨"LassoFinderModel", "maskOf", "(I)J"⟩ prog_14_method_30_code 2 (some .long) ∈ zTB := z_in (zt_7 _ (List.mem_of_getElem? (i := 235) rfl)) rfl
theorem zm_401 : Cond.instanceMethod ⟨"LassoFinderModel", "maskOf", "(I)J"⟩ ∈ zTB := z_in (zt_7 _ (List.mem_of_getElem? (i := 234) rfl)) rfl
theorem zm_402 : Cond.code ⟨"LassoFinderModel", "meets", "(II)Z"⟩ prog_14_method_31_code 4 (some .boolean) ∈ zTB := z_in (zt_8 _ (List.mem_of_getElem? (i := 7) rfl)) rfl
theorem zm_403 : Cond.instanceMethod ⟨"LassoFinderModel", "meets", "(II)Z"⟩ ∈ zTB := z_in (zt_8 _ (List.mem_of_getElem? (i := 6) rfl)) rfl
theorem zm_404 : Cond.code ⟨"LassoFinderModel", "can", "(I)Z"⟩ prog_14_method_32_code 4 (some .boolean) ∈ zTB := z_in (zt_7 _ (List.mem_of_getElem? (i := 239) rfl)) rfl
theorem zm_405 : Cond.instanceMethod ⟨"LassoFinderModel", "can", "(I)Z"⟩ ∈ zTB := z_in (zt_7 _ (List.mem_of_getElem? (i := 238) rfl)) rfl
theorem zf_LassoFinderModel_packed : zFaceV zy_LassoFinderModel_packed prog_14_method_28_code 5 (some .long) 0 := ⟨zm_395, (z_in (zp_6 _ (List.mem_of_getElem? (i := 14) rfl)) rfl), zm_25, zm_394, by decide +kernel, by decide +kernel, by decide +kernel⟩
theorem zf_LassoFinderModel_unpack : zFaceV zy_LassoFinderModel_unpack prog_14_method_29_code 5 none 1 := ⟨zm_397, (z_in (zp_7 _ (List.mem_of_getElem? (i := 0) rfl)) rfl), zm_25, zm_396, by decide +kernel, by decide +kernel, by decide +kernel⟩
theorem zf_LassoFinderModel_act : zFaceV zy_LassoFinderModel_act prog_14_method_35_code 9 none 2 := ⟨zm_399, (z_in (zp_7 _ (List.mem_of_getElem? (i := 7) rfl)) rfl), zm_25, zm_398, by decide +kernel, by decide +kernel, by decide +kernel⟩
theorem zf_LassoFinderModel_maskOf : zFaceV zy_LassoFinderModel_maskOf prog_14_method_30_code 2 (some .long) 1 := ⟨zm_401, (z_in (zp_7 _ (List.mem_of_getElem? (i := 2) rfl)) rfl), zm_25, zm_400, by decide +kernel, by decide +kernel, by decide +kernel⟩
theorem zf_LassoFinderModel_meets : zFaceV zy_LassoFinderModel_meets prog_14_method_31_code 4 (some .boolean) 2 := ⟨zm_403, (z_in (zp_7 _ (List.mem_of_getElem? (i := 5) rfl)) rfl), zm_25, zm_402, by decide +kernel, by decide +kernel, by decide +kernel⟩
theorem zf_LassoFinderModel_can : zFaceV zy_LassoFinderModel_can prog_14_method_32_code 4 (some .boolean) 1 := ⟨zm_405, (z_in (zp_7 _ (List.mem_of_getElem? (i := 3) rfl)) rfl), zm_25, zm_404, by decide +kernel, by decide +kernel, by decide +kernel⟩
theorem zd_LassoFinderModel_can_0 : decode prog_14_method_32_code 0 = .ok (.aload_n 0, 1) := by decide +kernel
theorem zd_LassoFinderModel_can_1 : decode prog_14_method_32_code 1 = .ok (.getfield 29, 3) := by decide +kernel
theorem zd_LassoFinderModel_can_4 : decode prog_14_method_32_code 4 = .ok (.iload_n 1, 1) := by decide +kernel
theorem zd_LassoFinderModel_can_5 : decode prog_14_method_32_code 5 = .ok (.iaload, 1) := by decide +kernel
theorem zd_LassoFinderModel_can_6 : decode prog_14_method_32_code 6 = .ok (.iconst 1, 1) := by decide +kernel
theorem zd_LassoFinderModel_can_7 : decode prog_14_method_32_code 7 = .ok (.if_icmp .ne 28, 3) := by decide +kernel
theorem zd_LassoFinderModel_can_10 : decode prog_14_method_32_code 10 = .ok (.aload_n 0, 1) := by decide +kernel
theorem zd_LassoFinderModel_can_11 : decode prog_14_method_32_code 11 = .ok (.aload_n 0, 1) := by decide +kernel
theorem zd_LassoFinderModel_can_12 : decode prog_14_method_32_code 12 = .ok (.getfield 57, 3) := by decide +kernel
theorem zd_LassoFinderModel_can_15 : decode prog_14_method_32_code 15 = .ok (.iload_n 1, 1) := by decide +kernel
theorem zd_LassoFinderModel_can_16 : decode prog_14_method_32_code 16 = .ok (.iaload, 1) := by decide +kernel
theorem zd_LassoFinderModel_can_17 : decode prog_14_method_32_code 17 = .ok (.aload_n 0, 1) := by decide +kernel
theorem zd_LassoFinderModel_can_18 : decode prog_14_method_32_code 18 = .ok (.getfield 60, 3) := by decide +kernel
theorem zd_LassoFinderModel_can_21 : decode prog_14_method_32_code 21 = .ok (.iload_n 1, 1) := by decide +kernel
theorem zd_LassoFinderModel_can_22 : decode prog_14_method_32_code 22 = .ok (.iaload, 1) := by decide +kernel
theorem zd_LassoFinderModel_can_23 : decode prog_14_method_32_code 23 = .ok (.invokevirtual 314, 3) := by decide +kernel
theorem zd_LassoFinderModel_can_26 : decode prog_14_method_32_code 26 = .ok (.ifCond .eq 7, 3) := by decide +kernel
theorem zd_LassoFinderModel_can_29 : decode prog_14_method_32_code 29 = .ok (.iconst 1, 1) := by decide +kernel
theorem zd_LassoFinderModel_can_30 : decode prog_14_method_32_code 30 = .ok (.goto 4, 3) := by decide +kernel
theorem zd_LassoFinderModel_can_33 : decode prog_14_method_32_code 33 = .ok (.iconst 0, 1) := by decide +kernel
theorem zd_LassoFinderModel_can_34 : decode prog_14_method_32_code 34 = .ok (.ireturn, 1) := by decide +kernel
theorem zd_LassoFinderModel_can_35 : decode prog_14_method_32_code 35 = .ok (.aload_n 0, 1) := by decide +kernel
theorem zd_LassoFinderModel_can_36 : decode prog_14_method_32_code 36 = .ok (.getfield 29, 3) := by decide +kernel
theorem zd_LassoFinderModel_can_39 : decode prog_14_method_32_code 39 = .ok (.iload_n 1, 1) := by decide +kernel
theorem zd_LassoFinderModel_can_40 : decode prog_14_method_32_code 40 = .ok (.iaload, 1) := by decide +kernel
theorem zd_LassoFinderModel_can_41 : decode prog_14_method_32_code 41 = .ok (.iconst 3, 1) := by decide +kernel
theorem zd_LassoFinderModel_can_42 : decode prog_14_method_32_code 42 = .ok (.if_icmp .ne 23, 3) := by decide +kernel
theorem zd_LassoFinderModel_can_45 : decode prog_14_method_32_code 45 = .ok (.aload_n 0, 1) := by decide +kernel
theorem zd_LassoFinderModel_can_46 : decode prog_14_method_32_code 46 = .ok (.getfield 133, 3) := by decide +kernel
theorem zd_LassoFinderModel_can_49 : decode prog_14_method_32_code 49 = .ok (.aload_n 0, 1) := by decide +kernel
theorem zd_LassoFinderModel_can_50 : decode prog_14_method_32_code 50 = .ok (.getfield 51, 3) := by decide +kernel
theorem zd_LassoFinderModel_can_53 : decode prog_14_method_32_code 53 = .ok (.iload_n 1, 1) := by decide +kernel
theorem zd_LassoFinderModel_can_54 : decode prog_14_method_32_code 54 = .ok (.iaload, 1) := by decide +kernel
theorem zd_LassoFinderModel_can_55 : decode prog_14_method_32_code 55 = .ok (.iaload, 1) := by decide +kernel
theorem zd_LassoFinderModel_can_56 : decode prog_14_method_32_code 56 = .ok (.ifCond .le 7, 3) := by decide +kernel
theorem zd_LassoFinderModel_can_59 : decode prog_14_method_32_code 59 = .ok (.iconst 1, 1) := by decide +kernel
theorem zd_LassoFinderModel_can_60 : decode prog_14_method_32_code 60 = .ok (.goto 4, 3) := by decide +kernel
theorem zd_LassoFinderModel_can_63 : decode prog_14_method_32_code 63 = .ok (.iconst 0, 1) := by decide +kernel
theorem zd_LassoFinderModel_can_64 : decode prog_14_method_32_code 64 = .ok (.ireturn, 1) := by decide +kernel
theorem zd_LassoFinderModel_can_65 : decode prog_14_method_32_code 65 = .ok (.aload_n 0, 1) := by decide +kernel
theorem zd_LassoFinderModel_can_66 : decode prog_14_method_32_code 66 = .ok (.getfield 29, 3) := by decide +kernel
theorem zd_LassoFinderModel_can_69 : decode prog_14_method_32_code 69 = .ok (.iload_n 1, 1) := by decide +kernel
theorem zd_LassoFinderModel_can_70 : decode prog_14_method_32_code 70 = .ok (.iaload, 1) := by decide +kernel
theorem zd_LassoFinderModel_can_71 : decode prog_14_method_32_code 71 = .ok (.iconst 2, 1) := by decide +kernel
theorem zd_LassoFinderModel_can_72 : decode prog_14_method_32_code 72 = .ok (.if_icmp .eq 19, 3) := by decide +kernel
theorem zd_LassoFinderModel_can_75 : decode prog_14_method_32_code 75 = .ok (.aload_n 0, 1) := by decide +kernel
theorem zd_LassoFinderModel_can_76 : decode prog_14_method_32_code 76 = .ok (.getfield 29, 3) := by decide +kernel
theorem zd_LassoFinderModel_can_79 : decode prog_14_method_32_code 79 = .ok (.iload_n 1, 1) := by decide +kernel
theorem zd_LassoFinderModel_can_80 : decode prog_14_method_32_code 80 = .ok (.iaload, 1) := by decide +kernel
theorem zd_LassoFinderModel_can_81 : decode prog_14_method_32_code 81 = .ok (.iconst 5, 1) := by decide +kernel
theorem zd_LassoFinderModel_can_82 : decode prog_14_method_32_code 82 = .ok (.if_icmp .eq 7, 3) := by decide +kernel
theorem zd_LassoFinderModel_can_85 : decode prog_14_method_32_code 85 = .ok (.iconst 1, 1) := by decide +kernel
theorem zd_LassoFinderModel_can_86 : decode prog_14_method_32_code 86 = .ok (.goto 4, 3) := by decide +kernel
theorem zd_LassoFinderModel_can_89 : decode prog_14_method_32_code 89 = .ok (.iconst 0, 1) := by decide +kernel
theorem zd_LassoFinderModel_can_90 : decode prog_14_method_32_code 90 = .ok (.ireturn, 1) := by decide +kernel
theorem zd_LassoFinderModel_can_91 : decode prog_14_method_32_code 91 = .ok (.aload_n 0, 1) := by decide +kernel
theorem zd_LassoFinderModel_can_92 : decode prog_14_method_32_code 92 = .ok (.getfield 26, 3) := by decide +kernel
theorem zd_LassoFinderModel_can_95 : decode prog_14_method_32_code 95 = .ok (.aload_n 0, 1) := by decide +kernel
theorem zd_LassoFinderModel_can_96 : decode prog_14_method_32_code 96 = .ok (.getfield 51, 3) := by decide +kernel
theorem zd_LassoFinderModel_can_99 : decode prog_14_method_32_code 99 = .ok (.iload_n 1, 1) := by decide +kernel
theorem zd_LassoFinderModel_can_100 : decode prog_14_method_32_code 100 = .ok (.iaload, 1) := by decide +kernel
theorem zd_LassoFinderModel_can_101 : decode prog_14_method_32_code 101 = .ok (.iaload, 1) := by decide +kernel
theorem zd_LassoFinderModel_can_102 : decode prog_14_method_32_code 102 = .ok (.ifCond .le 34, 3) := by decide +kernel
theorem zd_LassoFinderModel_can_105 : decode prog_14_method_32_code 105 = .ok (.aload_n 0, 1) := by decide +kernel
theorem zd_LassoFinderModel_can_106 : decode prog_14_method_32_code 106 = .ok (.getfield 133, 3) := by decide +kernel
theorem zd_LassoFinderModel_can_109 : decode prog_14_method_32_code 109 = .ok (.aload_n 0, 1) := by decide +kernel
theorem zd_LassoFinderModel_can_110 : decode prog_14_method_32_code 110 = .ok (.getfield 51, 3) := by decide +kernel
theorem zd_LassoFinderModel_can_113 : decode prog_14_method_32_code 113 = .ok (.iload_n 1, 1) := by decide +kernel
theorem zd_LassoFinderModel_can_114 : decode prog_14_method_32_code 114 = .ok (.iaload, 1) := by decide +kernel
theorem zd_LassoFinderModel_can_115 : decode prog_14_method_32_code 115 = .ok (.iaload, 1) := by decide +kernel
theorem zd_LassoFinderModel_can_116 : decode prog_14_method_32_code 116 = .ok (.aload_n 0, 1) := by decide +kernel
theorem zd_LassoFinderModel_can_117 : decode prog_14_method_32_code 117 = .ok (.getfield 26, 3) := by decide +kernel
theorem zd_LassoFinderModel_can_120 : decode prog_14_method_32_code 120 = .ok (.aload_n 0, 1) := by decide +kernel
theorem zd_LassoFinderModel_can_121 : decode prog_14_method_32_code 121 = .ok (.getfield 51, 3) := by decide +kernel
theorem zd_LassoFinderModel_can_124 : decode prog_14_method_32_code 124 = .ok (.iload_n 1, 1) := by decide +kernel
theorem zd_LassoFinderModel_can_125 : decode prog_14_method_32_code 125 = .ok (.iaload, 1) := by decide +kernel
theorem zd_LassoFinderModel_can_126 : decode prog_14_method_32_code 126 = .ok (.iaload, 1) := by decide +kernel
theorem zd_LassoFinderModel_can_127 : decode prog_14_method_32_code 127 = .ok (.if_icmp .ge 7, 3) := by decide +kernel
theorem zd_LassoFinderModel_can_130 : decode prog_14_method_32_code 130 = .ok (.iconst 1, 1) := by decide +kernel
theorem zd_LassoFinderModel_can_131 : decode prog_14_method_32_code 131 = .ok (.goto 4, 3) := by decide +kernel
theorem zd_LassoFinderModel_can_134 : decode prog_14_method_32_code 134 = .ok (.iconst 0, 1) := by decide +kernel
theorem zd_LassoFinderModel_can_135 : decode prog_14_method_32_code 135 = .ok (.ireturn, 1) := by decide +kernel
theorem zd_LassoFinderModel_can_136 : decode prog_14_method_32_code 136 = .ok (.iconst 0, 1) := by decide +kernel
theorem zd_LassoFinderModel_can_137 : decode prog_14_method_32_code 137 = .ok (.istore_n 2, 1) := by decide +kernel
theorem zd_LassoFinderModel_can_138 : decode prog_14_method_32_code 138 = .ok (.iconst 0, 1) := by decide +kernel
theorem zd_LassoFinderModel_can_139 : decode prog_14_method_32_code 139 = .ok (.istore_n 3, 1) := by decide +kernel
theorem zd_LassoFinderModel_can_140 : decode prog_14_method_32_code 140 = .ok (.iload_n 3, 1) := by decide +kernel
theorem zd_LassoFinderModel_can_141 : decode prog_14_method_32_code 141 = .ok (.aload_n 0, 1) := by decide +kernel
theorem zd_LassoFinderModel_can_142 : decode prog_14_method_32_code 142 = .ok (.getfield 257, 3) := by decide +kernel
theorem zd_LassoFinderModel_can_145 : decode prog_14_method_32_code 145 = .ok (.if_icmp .ge 28, 3) := by decide +kernel
theorem zd_LassoFinderModel_can_148 : decode prog_14_method_32_code 148 = .ok (.iload_n 2, 1) := by decide +kernel
theorem zd_LassoFinderModel_can_149 : decode prog_14_method_32_code 149 = .ok (.ifCond .ne 12, 3) := by decide +kernel
theorem zd_LassoFinderModel_can_152 : decode prog_14_method_32_code 152 = .ok (.aload_n 0, 1) := by decide +kernel
theorem zd_LassoFinderModel_can_153 : decode prog_14_method_32_code 153 = .ok (.iload_n 1, 1) := by decide +kernel
theorem zd_LassoFinderModel_can_154 : decode prog_14_method_32_code 154 = .ok (.iload_n 3, 1) := by decide +kernel
theorem zd_LassoFinderModel_can_155 : decode prog_14_method_32_code 155 = .ok (.invokevirtual 317, 3) := by decide +kernel
theorem zd_LassoFinderModel_can_158 : decode prog_14_method_32_code 158 = .ok (.ifCond .eq 7, 3) := by decide +kernel
theorem zd_LassoFinderModel_can_161 : decode prog_14_method_32_code 161 = .ok (.iconst 1, 1) := by decide +kernel
theorem zd_LassoFinderModel_can_162 : decode prog_14_method_32_code 162 = .ok (.goto 4, 3) := by decide +kernel
theorem zd_LassoFinderModel_can_165 : decode prog_14_method_32_code 165 = .ok (.iconst 0, 1) := by decide +kernel
theorem zd_LassoFinderModel_can_166 : decode prog_14_method_32_code 166 = .ok (.istore_n 2, 1) := by decide +kernel
theorem zd_LassoFinderModel_can_167 : decode prog_14_method_32_code 167 = .ok (.iinc 3 1, 3) := by decide +kernel
theorem zd_LassoFinderModel_can_170 : decode prog_14_method_32_code 170 = .ok (.goto (-30), 3) := by decide +kernel
theorem zd_LassoFinderModel_can_173 : decode prog_14_method_32_code 173 = .ok (.iload_n 2, 1) := by decide +kernel
theorem zd_LassoFinderModel_can_174 : decode prog_14_method_32_code 174 = .ok (.ireturn, 1) := by decide +kernel
theorem zd_LassoFinderModel_doable_0 : decode prog_14_method_33_code 0 = .ok (.lconst 0, 1) := by decide +kernel
theorem zd_LassoFinderModel_doable_1 : decode prog_14_method_33_code 1 = .ok (.lstore_n 1, 1) := by decide +kernel
theorem zd_LassoFinderModel_doable_2 : decode prog_14_method_33_code 2 = .ok (.iconst 0, 1) := by decide +kernel
theorem zd_LassoFinderModel_doable_3 : decode prog_14_method_33_code 3 = .ok (.istore_n 3, 1) := by decide +kernel
theorem zd_LassoFinderModel_doable_4 : decode prog_14_method_33_code 4 = .ok (.iload_n 3, 1) := by decide +kernel
theorem zd_LassoFinderModel_doable_5 : decode prog_14_method_33_code 5 = .ok (.aload_n 0, 1) := by decide +kernel
theorem zd_LassoFinderModel_doable_6 : decode prog_14_method_33_code 6 = .ok (.getfield 254, 3) := by decide +kernel
theorem zd_LassoFinderModel_doable_9 : decode prog_14_method_33_code 9 = .ok (.if_icmp .ge 118, 3) := by decide +kernel
theorem zd_LassoFinderModel_doable_12 : decode prog_14_method_33_code 12 = .ok (.lconst 0, 1) := by decide +kernel
theorem zd_LassoFinderModel_doable_13 : decode prog_14_method_33_code 13 = .ok (.lstore 4, 2) := by decide +kernel
theorem zd_LassoFinderModel_doable_15 : decode prog_14_method_33_code 15 = .ok (.lconst 0, 1) := by decide +kernel
theorem zd_LassoFinderModel_doable_16 : decode prog_14_method_33_code 16 = .ok (.lstore 6, 2) := by decide +kernel
theorem zd_LassoFinderModel_doable_18 : decode prog_14_method_33_code 18 = .ok (.iconst 0, 1) := by decide +kernel
theorem zd_LassoFinderModel_doable_19 : decode prog_14_method_33_code 19 = .ok (.istore 8, 2) := by decide +kernel
theorem zd_LassoFinderModel_doable_21 : decode prog_14_method_33_code 21 = .ok (.iload 8, 2) := by decide +kernel
theorem zd_LassoFinderModel_doable_23 : decode prog_14_method_33_code 23 = .ok (.aload_n 0, 1) := by decide +kernel
theorem zd_LassoFinderModel_doable_24 : decode prog_14_method_33_code 24 = .ok (.getfield 257, 3) := by decide +kernel
theorem zd_LassoFinderModel_doable_27 : decode prog_14_method_33_code 27 = .ok (.if_icmp .ge 77, 3) := by decide +kernel
theorem zd_LassoFinderModel_doable_30 : decode prog_14_method_33_code 30 = .ok (.aload_n 0, 1) := by decide +kernel
theorem zd_LassoFinderModel_doable_31 : decode prog_14_method_33_code 31 = .ok (.iload_n 3, 1) := by decide +kernel
theorem zd_LassoFinderModel_doable_32 : decode prog_14_method_33_code 32 = .ok (.invokevirtual 310, 3) := by decide +kernel
theorem zd_LassoFinderModel_doable_35 : decode prog_14_method_33_code 35 = .ok (.iload 8, 2) := by decide +kernel
theorem zd_LassoFinderModel_doable_37 : decode prog_14_method_33_code 37 = .ok (.lshr, 1) := by decide +kernel
theorem zd_LassoFinderModel_doable_38 : decode prog_14_method_33_code 38 = .ok (.lconst 1, 1) := by decide +kernel
theorem zd_LassoFinderModel_doable_39 : decode prog_14_method_33_code 39 = .ok (.land, 1) := by decide +kernel
theorem zd_LassoFinderModel_doable_40 : decode prog_14_method_33_code 40 = .ok (.lconst 0, 1) := by decide +kernel
theorem zd_LassoFinderModel_doable_41 : decode prog_14_method_33_code 41 = .ok (.lcmp, 1) := by decide +kernel
theorem zd_LassoFinderModel_doable_42 : decode prog_14_method_33_code 42 = .ok (.ifCond .ne 6, 3) := by decide +kernel
theorem zd_LassoFinderModel_doable_45 : decode prog_14_method_33_code 45 = .ok (.goto 53, 3) := by decide +kernel
theorem zd_LassoFinderModel_doable_48 : decode prog_14_method_33_code 48 = .ok (.aload_n 0, 1) := by decide +kernel
theorem zd_LassoFinderModel_doable_49 : decode prog_14_method_33_code 49 = .ok (.getfield 69, 3) := by decide +kernel
theorem zd_LassoFinderModel_doable_52 : decode prog_14_method_33_code 52 = .ok (.iload 8, 2) := by decide +kernel
theorem zd_LassoFinderModel_doable_54 : decode prog_14_method_33_code 54 = .ok (.iaload, 1) := by decide +kernel
theorem zd_LassoFinderModel_doable_55 : decode prog_14_method_33_code 55 = .ok (.istore 9, 2) := by decide +kernel
theorem zd_LassoFinderModel_doable_57 : decode prog_14_method_33_code 57 = .ok (.aload_n 0, 1) := by decide +kernel
theorem zd_LassoFinderModel_doable_58 : decode prog_14_method_33_code 58 = .ok (.getfield 29, 3) := by decide +kernel
theorem zd_LassoFinderModel_doable_61 : decode prog_14_method_33_code 61 = .ok (.iload 9, 2) := by decide +kernel
theorem zd_LassoFinderModel_doable_63 : decode prog_14_method_33_code 63 = .ok (.iaload, 1) := by decide +kernel
theorem zd_LassoFinderModel_doable_64 : decode prog_14_method_33_code 64 = .ok (.iconst 5, 1) := by decide +kernel
theorem zd_LassoFinderModel_doable_65 : decode prog_14_method_33_code 65 = .ok (.if_icmp .ne 15, 3) := by decide +kernel
theorem zd_LassoFinderModel_doable_68 : decode prog_14_method_33_code 68 = .ok (.lload 6, 2) := by decide +kernel
theorem zd_LassoFinderModel_doable_70 : decode prog_14_method_33_code 70 = .ok (.lconst 1, 1) := by decide +kernel
theorem zd_LassoFinderModel_doable_71 : decode prog_14_method_33_code 71 = .ok (.iload 8, 2) := by decide +kernel
theorem zd_LassoFinderModel_doable_73 : decode prog_14_method_33_code 73 = .ok (.lshl, 1) := by decide +kernel
theorem zd_LassoFinderModel_doable_74 : decode prog_14_method_33_code 74 = .ok (.lor, 1) := by decide +kernel
theorem zd_LassoFinderModel_doable_75 : decode prog_14_method_33_code 75 = .ok (.lstore 6, 2) := by decide +kernel
theorem zd_LassoFinderModel_doable_77 : decode prog_14_method_33_code 77 = .ok (.goto 21, 3) := by decide +kernel
theorem zd_LassoFinderModel_doable_80 : decode prog_14_method_33_code 80 = .ok (.aload_n 0, 1) := by decide +kernel
theorem zd_LassoFinderModel_doable_81 : decode prog_14_method_33_code 81 = .ok (.iload 9, 2) := by decide +kernel
theorem zd_LassoFinderModel_doable_83 : decode prog_14_method_33_code 83 = .ok (.invokevirtual 321, 3) := by decide +kernel
theorem zd_LassoFinderModel_doable_86 : decode prog_14_method_33_code 86 = .ok (.ifCond .eq 12, 3) := by decide +kernel
theorem zd_LassoFinderModel_doable_89 : decode prog_14_method_33_code 89 = .ok (.lload 4, 2) := by decide +kernel
theorem zd_LassoFinderModel_doable_91 : decode prog_14_method_33_code 91 = .ok (.lconst 1, 1) := by decide +kernel
theorem zd_LassoFinderModel_doable_92 : decode prog_14_method_33_code 92 = .ok (.iload 8, 2) := by decide +kernel
theorem zd_LassoFinderModel_doable_94 : decode prog_14_method_33_code 94 = .ok (.lshl, 1) := by decide +kernel
theorem zd_LassoFinderModel_doable_95 : decode prog_14_method_33_code 95 = .ok (.lor, 1) := by decide +kernel
theorem zd_LassoFinderModel_doable_96 : decode prog_14_method_33_code 96 = .ok (.lstore 4, 2) := by decide +kernel
theorem zd_LassoFinderModel_doable_98 : decode prog_14_method_33_code 98 = .ok (.iinc 8 1, 3) := by decide +kernel
theorem zd_LassoFinderModel_doable_101 : decode prog_14_method_33_code 101 = .ok (.goto (-80), 3) := by decide +kernel
theorem zd_LassoFinderModel_doable_104 : decode prog_14_method_33_code 104 = .ok (.lload_n 1, 1) := by decide +kernel
theorem zd_LassoFinderModel_doable_105 : decode prog_14_method_33_code 105 = .ok (.lload 4, 2) := by decide +kernel
theorem zd_LassoFinderModel_doable_107 : decode prog_14_method_33_code 107 = .ok (.lconst 0, 1) := by decide +kernel
theorem zd_LassoFinderModel_doable_108 : decode prog_14_method_33_code 108 = .ok (.lcmp, 1) := by decide +kernel
theorem zd_LassoFinderModel_doable_109 : decode prog_14_method_33_code 109 = .ok (.ifCond .ne 8, 3) := by decide +kernel
theorem zd_LassoFinderModel_doable_112 : decode prog_14_method_33_code 112 = .ok (.lload 6, 2) := by decide +kernel
theorem zd_LassoFinderModel_doable_114 : decode prog_14_method_33_code 114 = .ok (.goto 5, 3) := by decide +kernel
theorem zd_LassoFinderModel_doable_117 : decode prog_14_method_33_code 117 = .ok (.lload 4, 2) := by decide +kernel
theorem zd_LassoFinderModel_doable_119 : decode prog_14_method_33_code 119 = .ok (.lor, 1) := by decide +kernel
theorem zd_LassoFinderModel_doable_120 : decode prog_14_method_33_code 120 = .ok (.lstore_n 1, 1) := by decide +kernel
theorem zd_LassoFinderModel_doable_121 : decode prog_14_method_33_code 121 = .ok (.iinc 3 1, 3) := by decide +kernel
theorem zd_LassoFinderModel_doable_124 : decode prog_14_method_33_code 124 = .ok (.goto (-120), 3) := by decide +kernel
theorem zd_LassoFinderModel_doable_127 : decode prog_14_method_33_code 127 = .ok (.aload_n 0, 1) := by decide +kernel
theorem zd_LassoFinderModel_doable_128 : decode prog_14_method_33_code 128 = .ok (.getfield 301, 3) := by decide +kernel
theorem zd_LassoFinderModel_doable_131 : decode prog_14_method_33_code 131 = .ok (.ifCond .lt 31, 3) := by decide +kernel
theorem zd_LassoFinderModel_doable_134 : decode prog_14_method_33_code 134 = .ok (.lload_n 1, 1) := by decide +kernel
theorem zd_LassoFinderModel_doable_135 : decode prog_14_method_33_code 135 = .ok (.aload_n 0, 1) := by decide +kernel
theorem zd_LassoFinderModel_doable_136 : decode prog_14_method_33_code 136 = .ok (.aload_n 0, 1) := by decide +kernel
theorem zd_LassoFinderModel_doable_137 : decode prog_14_method_33_code 137 = .ok (.getfield 301, 3) := by decide +kernel
theorem zd_LassoFinderModel_doable_140 : decode prog_14_method_33_code 140 = .ok (.invokevirtual 310, 3) := by decide +kernel
theorem zd_LassoFinderModel_doable_143 : decode prog_14_method_33_code 143 = .ok (.land, 1) := by decide +kernel
theorem zd_LassoFinderModel_doable_144 : decode prog_14_method_33_code 144 = .ok (.lconst 0, 1) := by decide +kernel
theorem zd_LassoFinderModel_doable_145 : decode prog_14_method_33_code 145 = .ok (.lcmp, 1) := by decide +kernel
theorem zd_LassoFinderModel_doable_146 : decode prog_14_method_33_code 146 = .ok (.ifCond .eq 16, 3) := by decide +kernel
theorem zd_LassoFinderModel_doable_149 : decode prog_14_method_33_code 149 = .ok (.lload_n 1, 1) := by decide +kernel
theorem zd_LassoFinderModel_doable_150 : decode prog_14_method_33_code 150 = .ok (.aload_n 0, 1) := by decide +kernel
theorem zd_LassoFinderModel_doable_151 : decode prog_14_method_33_code 151 = .ok (.aload_n 0, 1) := by decide +kernel
theorem zd_LassoFinderModel_doable_152 : decode prog_14_method_33_code 152 = .ok (.getfield 301, 3) := by decide +kernel
theorem zd_LassoFinderModel_doable_155 : decode prog_14_method_33_code 155 = .ok (.invokevirtual 310, 3) := by decide +kernel
theorem zd_LassoFinderModel_doable_158 : decode prog_14_method_33_code 158 = .ok (.land, 1) := by decide +kernel
theorem zd_LassoFinderModel_doable_159 : decode prog_14_method_33_code 159 = .ok (.goto 4, 3) := by decide +kernel
theorem zd_LassoFinderModel_doable_162 : decode prog_14_method_33_code 162 = .ok (.lload_n 1, 1) := by decide +kernel
theorem zd_LassoFinderModel_doable_163 : decode prog_14_method_33_code 163 = .ok (.lreturn, 1) := by decide +kernel
theorem zd_LassoFinderModel_maskOf_0 : decode prog_14_method_30_code 0 = .ok (.aload_n 0, 1) := by decide +kernel
theorem zd_LassoFinderModel_maskOf_1 : decode prog_14_method_30_code 1 = .ok (.getfield 139, 3) := by decide +kernel
theorem zd_LassoFinderModel_maskOf_4 : decode prog_14_method_30_code 4 = .ok (.iload_n 1, 1) := by decide +kernel
theorem zd_LassoFinderModel_maskOf_5 : decode prog_14_method_30_code 5 = .ok (.iaload, 1) := by decide +kernel
theorem zd_LassoFinderModel_maskOf_6 : decode prog_14_method_30_code 6 = .ok (.aload_n 0, 1) := by decide +kernel
theorem zd_LassoFinderModel_maskOf_7 : decode prog_14_method_30_code 7 = .ok (.getfield 75, 3) := by decide +kernel
theorem zd_LassoFinderModel_maskOf_10 : decode prog_14_method_30_code 10 = .ok (.iload_n 1, 1) := by decide +kernel
theorem zd_LassoFinderModel_maskOf_11 : decode prog_14_method_30_code 11 = .ok (.iaload, 1) := by decide +kernel
theorem zd_LassoFinderModel_maskOf_12 : decode prog_14_method_30_code 12 = .ok (.if_icmp .ne 7, 3) := by decide +kernel
theorem zd_LassoFinderModel_maskOf_15 : decode prog_14_method_30_code 15 = .ok (.lconst 0, 1) := by decide +kernel
theorem zd_LassoFinderModel_maskOf_16 : decode prog_14_method_30_code 16 = .ok (.goto 19, 3) := by decide +kernel
theorem zd_LassoFinderModel_maskOf_19 : decode prog_14_method_30_code 19 = .ok (.aload_n 0, 1) := by decide +kernel
theorem zd_LassoFinderModel_maskOf_20 : decode prog_14_method_30_code 20 = .ok (.getfield 87, 3) := by decide +kernel
theorem zd_LassoFinderModel_maskOf_23 : decode prog_14_method_30_code 23 = .ok (.bipush 31, 2) := by decide +kernel
theorem zd_LassoFinderModel_maskOf_25 : decode prog_14_method_30_code 25 = .ok (.iload_n 1, 1) := by decide +kernel
theorem zd_LassoFinderModel_maskOf_26 : decode prog_14_method_30_code 26 = .ok (.imul, 1) := by decide +kernel
theorem zd_LassoFinderModel_maskOf_27 : decode prog_14_method_30_code 27 = .ok (.aload_n 0, 1) := by decide +kernel
theorem zd_LassoFinderModel_maskOf_28 : decode prog_14_method_30_code 28 = .ok (.getfield 139, 3) := by decide +kernel
theorem zd_LassoFinderModel_maskOf_31 : decode prog_14_method_30_code 31 = .ok (.iload_n 1, 1) := by decide +kernel
theorem zd_LassoFinderModel_maskOf_32 : decode prog_14_method_30_code 32 = .ok (.iaload, 1) := by decide +kernel
theorem zd_LassoFinderModel_maskOf_33 : decode prog_14_method_30_code 33 = .ok (.iadd, 1) := by decide +kernel
theorem zd_LassoFinderModel_maskOf_34 : decode prog_14_method_30_code 34 = .ok (.laload, 1) := by decide +kernel
theorem zd_LassoFinderModel_maskOf_35 : decode prog_14_method_30_code 35 = .ok (.lreturn, 1) := by decide +kernel
theorem zd_LassoFinderModel_meets_0 : decode prog_14_method_31_code 0 = .ok (.aload_n 0, 1) := by decide +kernel
theorem zd_LassoFinderModel_meets_1 : decode prog_14_method_31_code 1 = .ok (.getfield 69, 3) := by decide +kernel
theorem zd_LassoFinderModel_meets_4 : decode prog_14_method_31_code 4 = .ok (.iload_n 2, 1) := by decide +kernel
theorem zd_LassoFinderModel_meets_5 : decode prog_14_method_31_code 5 = .ok (.iaload, 1) := by decide +kernel
theorem zd_LassoFinderModel_meets_6 : decode prog_14_method_31_code 6 = .ok (.istore_n 3, 1) := by decide +kernel
theorem zd_LassoFinderModel_meets_7 : decode prog_14_method_31_code 7 = .ok (.aload_n 0, 1) := by decide +kernel
theorem zd_LassoFinderModel_meets_8 : decode prog_14_method_31_code 8 = .ok (.getfield 29, 3) := by decide +kernel
theorem zd_LassoFinderModel_meets_11 : decode prog_14_method_31_code 11 = .ok (.iload_n 3, 1) := by decide +kernel
theorem zd_LassoFinderModel_meets_12 : decode prog_14_method_31_code 12 = .ok (.iaload, 1) := by decide +kernel
theorem zd_LassoFinderModel_meets_13 : decode prog_14_method_31_code 13 = .ok (.iconst 3, 1) := by decide +kernel
theorem zd_LassoFinderModel_meets_14 : decode prog_14_method_31_code 14 = .ok (.if_icmp .ne 56, 3) := by decide +kernel
theorem zd_LassoFinderModel_meets_17 : decode prog_14_method_31_code 17 = .ok (.aload_n 0, 1) := by decide +kernel
theorem zd_LassoFinderModel_meets_18 : decode prog_14_method_31_code 18 = .ok (.getfield 51, 3) := by decide +kernel
theorem zd_LassoFinderModel_meets_21 : decode prog_14_method_31_code 21 = .ok (.iload_n 3, 1) := by decide +kernel
theorem zd_LassoFinderModel_meets_22 : decode prog_14_method_31_code 22 = .ok (.iaload, 1) := by decide +kernel
theorem zd_LassoFinderModel_meets_23 : decode prog_14_method_31_code 23 = .ok (.aload_n 0, 1) := by decide +kernel
theorem zd_LassoFinderModel_meets_24 : decode prog_14_method_31_code 24 = .ok (.getfield 51, 3) := by decide +kernel
theorem zd_LassoFinderModel_meets_27 : decode prog_14_method_31_code 27 = .ok (.iload_n 1, 1) := by decide +kernel
theorem zd_LassoFinderModel_meets_28 : decode prog_14_method_31_code 28 = .ok (.iaload, 1) := by decide +kernel
theorem zd_LassoFinderModel_meets_29 : decode prog_14_method_31_code 29 = .ok (.if_icmp .ne 41, 3) := by decide +kernel
theorem zd_LassoFinderModel_meets_32 : decode prog_14_method_31_code 32 = .ok (.aload_n 0, 1) := by decide +kernel
theorem zd_LassoFinderModel_meets_33 : decode prog_14_method_31_code 33 = .ok (.getfield 32, 3) := by decide +kernel
theorem zd_LassoFinderModel_meets_36 : decode prog_14_method_31_code 36 = .ok (.iload_n 3, 1) := by decide +kernel
theorem zd_LassoFinderModel_meets_37 : decode prog_14_method_31_code 37 = .ok (.iaload, 1) := by decide +kernel
theorem zd_LassoFinderModel_meets_38 : decode prog_14_method_31_code 38 = .ok (.aload_n 0, 1) := by decide +kernel
theorem zd_LassoFinderModel_meets_39 : decode prog_14_method_31_code 39 = .ok (.getfield 32, 3) := by decide +kernel
theorem zd_LassoFinderModel_meets_42 : decode prog_14_method_31_code 42 = .ok (.iload_n 1, 1) := by decide +kernel
theorem zd_LassoFinderModel_meets_43 : decode prog_14_method_31_code 43 = .ok (.iaload, 1) := by decide +kernel
theorem zd_LassoFinderModel_meets_44 : decode prog_14_method_31_code 44 = .ok (.if_icmp .eq 26, 3) := by decide +kernel
theorem zd_LassoFinderModel_meets_47 : decode prog_14_method_31_code 47 = .ok (.aload_n 0, 1) := by decide +kernel
theorem zd_LassoFinderModel_meets_48 : decode prog_14_method_31_code 48 = .ok (.aload_n 0, 1) := by decide +kernel
theorem zd_LassoFinderModel_meets_49 : decode prog_14_method_31_code 49 = .ok (.getfield 32, 3) := by decide +kernel
theorem zd_LassoFinderModel_meets_52 : decode prog_14_method_31_code 52 = .ok (.iload_n 3, 1) := by decide +kernel
theorem zd_LassoFinderModel_meets_53 : decode prog_14_method_31_code 53 = .ok (.iaload, 1) := by decide +kernel
theorem zd_LassoFinderModel_meets_54 : decode prog_14_method_31_code 54 = .ok (.invokevirtual 310, 3) := by decide +kernel
theorem zd_LassoFinderModel_meets_57 : decode prog_14_method_31_code 57 = .ok (.iload_n 2, 1) := by decide +kernel
theorem zd_LassoFinderModel_meets_58 : decode prog_14_method_31_code 58 = .ok (.lshr, 1) := by decide +kernel
theorem zd_LassoFinderModel_meets_59 : decode prog_14_method_31_code 59 = .ok (.lconst 1, 1) := by decide +kernel
theorem zd_LassoFinderModel_meets_60 : decode prog_14_method_31_code 60 = .ok (.land, 1) := by decide +kernel
theorem zd_LassoFinderModel_meets_61 : decode prog_14_method_31_code 61 = .ok (.lconst 1, 1) := by decide +kernel
theorem zd_LassoFinderModel_meets_62 : decode prog_14_method_31_code 62 = .ok (.lcmp, 1) := by decide +kernel
theorem zd_LassoFinderModel_meets_63 : decode prog_14_method_31_code 63 = .ok (.ifCond .ne 7, 3) := by decide +kernel
theorem zd_LassoFinderModel_meets_66 : decode prog_14_method_31_code 66 = .ok (.iconst 1, 1) := by decide +kernel
theorem zd_LassoFinderModel_meets_67 : decode prog_14_method_31_code 67 = .ok (.goto 4, 3) := by decide +kernel
theorem zd_LassoFinderModel_meets_70 : decode prog_14_method_31_code 70 = .ok (.iconst 0, 1) := by decide +kernel
theorem zd_LassoFinderModel_meets_71 : decode prog_14_method_31_code 71 = .ok (.ireturn, 1) := by decide +kernel
theorem zd_LassoFinderModel_step_0 : decode prog_14_method_36_code 0 = .ok (.aload_n 0, 1) := by decide +kernel
theorem zd_LassoFinderModel_step_1 : decode prog_14_method_36_code 1 = .ok (.getfield 327, 3) := by decide +kernel
theorem zd_LassoFinderModel_step_4 : decode prog_14_method_36_code 4 = .ok (.sipush 400, 3) := by decide +kernel
theorem zd_LassoFinderModel_step_7 : decode prog_14_method_36_code 7 = .ok (.if_icmp .ne 8, 3) := by decide +kernel
theorem zd_LassoFinderModel_step_10 : decode prog_14_method_36_code 10 = .ok (.aload_n 0, 1) := by decide +kernel
theorem zd_LassoFinderModel_step_11 : decode prog_14_method_36_code 11 = .ok (.iconst 1, 1) := by decide +kernel
theorem zd_LassoFinderModel_step_12 : decode prog_14_method_36_code 12 = .ok (.putfield 330, 3) := by decide +kernel
theorem zd_LassoFinderModel_step_15 : decode prog_14_method_36_code 15 = .ok (.aload_n 0, 1) := by decide +kernel
theorem zd_LassoFinderModel_step_16 : decode prog_14_method_36_code 16 = .ok (.getfield 330, 3) := by decide +kernel
theorem zd_LassoFinderModel_step_19 : decode prog_14_method_36_code 19 = .ok (.ifCond .eq 4, 3) := by decide +kernel
theorem zd_LassoFinderModel_step_22 : decode prog_14_method_36_code 22 = .ok (.return_, 1) := by decide +kernel
theorem zd_LassoFinderModel_step_23 : decode prog_14_method_36_code 23 = .ok (.aload_n 0, 1) := by decide +kernel
theorem zd_LassoFinderModel_step_24 : decode prog_14_method_36_code 24 = .ok (.aload_n 0, 1) := by decide +kernel
theorem zd_LassoFinderModel_step_25 : decode prog_14_method_36_code 25 = .ok (.getfield 106, 3) := by decide +kernel
theorem zd_LassoFinderModel_step_28 : decode prog_14_method_36_code 28 = .ok (.iload_n 1, 1) := by decide +kernel
theorem zd_LassoFinderModel_step_29 : decode prog_14_method_36_code 29 = .ok (.laload, 1) := by decide +kernel
theorem zd_LassoFinderModel_step_30 : decode prog_14_method_36_code 30 = .ok (.invokevirtual 334, 3) := by decide +kernel
theorem zd_LassoFinderModel_step_33 : decode prog_14_method_36_code 33 = .ok (.iload_n 2, 1) := by decide +kernel
theorem zd_LassoFinderModel_step_34 : decode prog_14_method_36_code 34 = .ok (.ifCond .lt 9, 3) := by decide +kernel
theorem zd_LassoFinderModel_step_37 : decode prog_14_method_36_code 37 = .ok (.aload_n 0, 1) := by decide +kernel
theorem zd_LassoFinderModel_step_38 : decode prog_14_method_36_code 38 = .ok (.iload_n 2, 1) := by decide +kernel
theorem zd_LassoFinderModel_step_39 : decode prog_14_method_36_code 39 = .ok (.iload_n 3, 1) := by decide +kernel
theorem zd_LassoFinderModel_step_40 : decode prog_14_method_36_code 40 = .ok (.invokevirtual 338, 3) := by decide +kernel
theorem zd_LassoFinderModel_step_43 : decode prog_14_method_36_code 43 = .ok (.aload_n 0, 1) := by decide +kernel
theorem zd_LassoFinderModel_step_44 : decode prog_14_method_36_code 44 = .ok (.invokevirtual 341, 3) := by decide +kernel
theorem zd_LassoFinderModel_step_47 : decode prog_14_method_36_code 47 = .ok (.lstore 4, 2) := by decide +kernel
theorem zd_LassoFinderModel_step_49 : decode prog_14_method_36_code 49 = .ok (.iconst 0, 1) := by decide +kernel
theorem zd_LassoFinderModel_step_50 : decode prog_14_method_36_code 50 = .ok (.istore 6, 2) := by decide +kernel
theorem zd_LassoFinderModel_step_52 : decode prog_14_method_36_code 52 = .ok (.iload 6, 2) := by decide +kernel
theorem zd_LassoFinderModel_step_54 : decode prog_14_method_36_code 54 = .ok (.aload_n 0, 1) := by decide +kernel
theorem zd_LassoFinderModel_step_55 : decode prog_14_method_36_code 55 = .ok (.getfield 345, 3) := by decide +kernel
theorem zd_LassoFinderModel_step_58 : decode prog_14_method_36_code 58 = .ok (.if_icmp .ge 22, 3) := by decide +kernel
theorem zd_LassoFinderModel_step_61 : decode prog_14_method_36_code 61 = .ok (.aload_n 0, 1) := by decide +kernel
theorem zd_LassoFinderModel_step_62 : decode prog_14_method_36_code 62 = .ok (.getfield 106, 3) := by decide +kernel
theorem zd_LassoFinderModel_step_65 : decode prog_14_method_36_code 65 = .ok (.iload 6, 2) := by decide +kernel
theorem zd_LassoFinderModel_step_67 : decode prog_14_method_36_code 67 = .ok (.laload, 1) := by decide +kernel
theorem zd_LassoFinderModel_step_68 : decode prog_14_method_36_code 68 = .ok (.lload 4, 2) := by decide +kernel
theorem zd_LassoFinderModel_step_70 : decode prog_14_method_36_code 70 = .ok (.lcmp, 1) := by decide +kernel
theorem zd_LassoFinderModel_step_71 : decode prog_14_method_36_code 71 = .ok (.ifCond .eq 9, 3) := by decide +kernel
theorem zd_LassoFinderModel_step_74 : decode prog_14_method_36_code 74 = .ok (.iinc 6 1, 3) := by decide +kernel
theorem zd_LassoFinderModel_step_77 : decode prog_14_method_36_code 77 = .ok (.goto (-25), 3) := by decide +kernel
theorem zd_LassoFinderModel_step_80 : decode prog_14_method_36_code 80 = .ok (.iload 6, 2) := by decide +kernel
theorem zd_LassoFinderModel_step_82 : decode prog_14_method_36_code 82 = .ok (.bipush 96, 2) := by decide +kernel
theorem zd_LassoFinderModel_step_84 : decode prog_14_method_36_code 84 = .ok (.if_icmp .ne 9, 3) := by decide +kernel
theorem zd_LassoFinderModel_step_87 : decode prog_14_method_36_code 87 = .ok (.aload_n 0, 1) := by decide +kernel
theorem zd_LassoFinderModel_step_88 : decode prog_14_method_36_code 88 = .ok (.iconst 1, 1) := by decide +kernel
theorem zd_LassoFinderModel_step_89 : decode prog_14_method_36_code 89 = .ok (.putfield 330, 3) := by decide +kernel
theorem zd_LassoFinderModel_step_92 : decode prog_14_method_36_code 92 = .ok (.return_, 1) := by decide +kernel
theorem zd_LassoFinderModel_step_93 : decode prog_14_method_36_code 93 = .ok (.aload_n 0, 1) := by decide +kernel
theorem zd_LassoFinderModel_step_94 : decode prog_14_method_36_code 94 = .ok (.getfield 106, 3) := by decide +kernel
theorem zd_LassoFinderModel_step_97 : decode prog_14_method_36_code 97 = .ok (.iload 6, 2) := by decide +kernel
theorem zd_LassoFinderModel_step_99 : decode prog_14_method_36_code 99 = .ok (.lload 4, 2) := by decide +kernel
theorem zd_LassoFinderModel_step_101 : decode prog_14_method_36_code 101 = .ok (.lastore, 1) := by decide +kernel
theorem zd_LassoFinderModel_step_102 : decode prog_14_method_36_code 102 = .ok (.aload_n 0, 1) := by decide +kernel
theorem zd_LassoFinderModel_step_103 : decode prog_14_method_36_code 103 = .ok (.iload 6, 2) := by decide +kernel
theorem zd_LassoFinderModel_step_105 : decode prog_14_method_36_code 105 = .ok (.aload_n 0, 1) := by decide +kernel
theorem zd_LassoFinderModel_step_106 : decode prog_14_method_36_code 106 = .ok (.getfield 345, 3) := by decide +kernel
theorem zd_LassoFinderModel_step_109 : decode prog_14_method_36_code 109 = .ok (.if_icmp .ne 12, 3) := by decide +kernel
theorem zd_LassoFinderModel_step_112 : decode prog_14_method_36_code 112 = .ok (.aload_n 0, 1) := by decide +kernel
theorem zd_LassoFinderModel_step_113 : decode prog_14_method_36_code 113 = .ok (.getfield 345, 3) := by decide +kernel
theorem zd_LassoFinderModel_step_116 : decode prog_14_method_36_code 116 = .ok (.iconst 1, 1) := by decide +kernel
theorem zd_LassoFinderModel_step_117 : decode prog_14_method_36_code 117 = .ok (.iadd, 1) := by decide +kernel
theorem zd_LassoFinderModel_step_118 : decode prog_14_method_36_code 118 = .ok (.goto 7, 3) := by decide +kernel
theorem zd_LassoFinderModel_step_121 : decode prog_14_method_36_code 121 = .ok (.aload_n 0, 1) := by decide +kernel
theorem zd_LassoFinderModel_step_122 : decode prog_14_method_36_code 122 = .ok (.getfield 345, 3) := by decide +kernel
theorem zd_LassoFinderModel_step_125 : decode prog_14_method_36_code 125 = .ok (.putfield 345, 3) := by decide +kernel
theorem zd_LassoFinderModel_step_128 : decode prog_14_method_36_code 128 = .ok (.aload_n 0, 1) := by decide +kernel
theorem zd_LassoFinderModel_step_129 : decode prog_14_method_36_code 129 = .ok (.getfield 115, 3) := by decide +kernel
theorem zd_LassoFinderModel_step_132 : decode prog_14_method_36_code 132 = .ok (.aload_n 0, 1) := by decide +kernel
theorem zd_LassoFinderModel_step_133 : decode prog_14_method_36_code 133 = .ok (.getfield 327, 3) := by decide +kernel
theorem zd_LassoFinderModel_step_136 : decode prog_14_method_36_code 136 = .ok (.iload_n 1, 1) := by decide +kernel
theorem zd_LassoFinderModel_step_137 : decode prog_14_method_36_code 137 = .ok (.iastore, 1) := by decide +kernel
theorem zd_LassoFinderModel_step_138 : decode prog_14_method_36_code 138 = .ok (.aload_n 0, 1) := by decide +kernel
theorem zd_LassoFinderModel_step_139 : decode prog_14_method_36_code 139 = .ok (.getfield 112, 3) := by decide +kernel
theorem zd_LassoFinderModel_step_142 : decode prog_14_method_36_code 142 = .ok (.aload_n 0, 1) := by decide +kernel
theorem zd_LassoFinderModel_step_143 : decode prog_14_method_36_code 143 = .ok (.getfield 327, 3) := by decide +kernel
theorem zd_LassoFinderModel_step_146 : decode prog_14_method_36_code 146 = .ok (.iload 6, 2) := by decide +kernel
theorem zd_LassoFinderModel_step_148 : decode prog_14_method_36_code 148 = .ok (.iastore, 1) := by decide +kernel
theorem zd_LassoFinderModel_step_149 : decode prog_14_method_36_code 149 = .ok (.aload_n 0, 1) := by decide +kernel
theorem zd_LassoFinderModel_step_150 : decode prog_14_method_36_code 150 = .ok (.getfield 118, 3) := by decide +kernel
theorem zd_LassoFinderModel_step_153 : decode prog_14_method_36_code 153 = .ok (.aload_n 0, 1) := by decide +kernel
theorem zd_LassoFinderModel_step_154 : decode prog_14_method_36_code 154 = .ok (.getfield 327, 3) := by decide +kernel
theorem zd_LassoFinderModel_step_157 : decode prog_14_method_36_code 157 = .ok (.iload_n 2, 1) := by decide +kernel
theorem zd_LassoFinderModel_step_158 : decode prog_14_method_36_code 158 = .ok (.iastore, 1) := by decide +kernel
theorem zd_LassoFinderModel_step_159 : decode prog_14_method_36_code 159 = .ok (.aload_n 0, 1) := by decide +kernel
theorem zd_LassoFinderModel_step_160 : decode prog_14_method_36_code 160 = .ok (.getfield 121, 3) := by decide +kernel
theorem zd_LassoFinderModel_step_163 : decode prog_14_method_36_code 163 = .ok (.aload_n 0, 1) := by decide +kernel
theorem zd_LassoFinderModel_step_164 : decode prog_14_method_36_code 164 = .ok (.getfield 327, 3) := by decide +kernel
theorem zd_LassoFinderModel_step_167 : decode prog_14_method_36_code 167 = .ok (.iload_n 3, 1) := by decide +kernel
theorem zd_LassoFinderModel_step_168 : decode prog_14_method_36_code 168 = .ok (.iastore, 1) := by decide +kernel
theorem zd_LassoFinderModel_step_169 : decode prog_14_method_36_code 169 = .ok (.aload_n 0, 1) := by decide +kernel
theorem zd_LassoFinderModel_step_170 : decode prog_14_method_36_code 170 = .ok (.dup, 1) := by decide +kernel
theorem zd_LassoFinderModel_step_171 : decode prog_14_method_36_code 171 = .ok (.getfield 327, 3) := by decide +kernel
theorem zd_LassoFinderModel_step_174 : decode prog_14_method_36_code 174 = .ok (.iconst 1, 1) := by decide +kernel
theorem zd_LassoFinderModel_step_175 : decode prog_14_method_36_code 175 = .ok (.iadd, 1) := by decide +kernel
theorem zd_LassoFinderModel_step_176 : decode prog_14_method_36_code 176 = .ok (.putfield 327, 3) := by decide +kernel
theorem zd_LassoFinderModel_step_179 : decode prog_14_method_36_code 179 = .ok (.return_, 1) := by decide +kernel
def wc_LassoFinderModel_step_125 (a0 : Int32) (a1 : Int32) (a2 : Int32) (Post : (Nat → Int32) → (Nat → Int64) → (Nat → Nat → Int32) → (Nat → Nat → Int64) → Prop) (x1 : Int32) (x2 : Int32) (x3 : Int32) (x6 : Int32) (y0 : Int32) (I : Nat → Int32) (J : Nat → Int64) (B : Nat → Nat → Int32) (D : Nat → Nat → Int64) : Prop :=
  vp_in (I 15) 401 ∧ vp_in (I 15) 401 ∧ vp_in (I 15) 401 ∧ vp_in (I 15) 401 ∧ ∀ z1 : Int32, z1 = ((I 15) + 1) → Post (upd (upd I 14 y0) 15 z1) J (va_up (va_up (va_up (va_up B 31 (upd (B 31) (I 15).toNatClampNeg x1)) 30 (upd (B 30) (I 15).toNatClampNeg x6)) 32 (upd (B 32) (I 15).toNatClampNeg x2)) 33 (upd (B 33) (I 15).toNatClampNeg x3)) D
def wc_LassoFinderModel_step_80 (a0 : Int32) (a1 : Int32) (a2 : Int32) (Post : (Nat → Int32) → (Nat → Int64) → (Nat → Nat → Int32) → (Nat → Nat → Int64) → Prop) (x1 : Int32) (x2 : Int32) (x3 : Int32) (x4 : Int64) (x6 : Int32) (I : Nat → Int32) (J : Nat → Int64) (B : Nat → Nat → Int32) (D : Nat → Nat → Int64) : Prop :=
  ((¬ x6 = 96 → vp_in x6 97 ∧ ((¬ x6 = (I 14) → wc_LassoFinderModel_step_125 a0 a1 a2 Post x1 x2 x3 x6 (I 14) I J B (va_up D 1 (vp_updL (D 1) x6.toNatClampNeg x4))) ∧ (x6 = (I 14) → ∀ z4 : Int32, z4 = ((I 14) + 1) → wc_LassoFinderModel_step_125 a0 a1 a2 Post x1 x2 x3 x6 z4 I J B (va_up D 1 (vp_updL (D 1) x6.toNatClampNeg x4))))) ∧ (x6 = 96 → Post (upd I 16 1) J B D))
def wb_LassoFinderModel_step_52 (a0 : Int32) (a1 : Int32) (a2 : Int32) (K52 : Int32 → Int32 → Int32 → Int64 → Int32 → (Nat → Int32) → (Nat → Int64) → (Nat → Nat → Int32) → (Nat → Nat → Int64) → Prop) (Post : (Nat → Int32) → (Nat → Int64) → (Nat → Nat → Int32) → (Nat → Nat → Int64) → Prop) (x1 : Int32) (x2 : Int32) (x3 : Int32) (x4 : Int64) (x6 : Int32) (I : Nat → Int32) (J : Nat → Int64) (B : Nat → Nat → Int32) (D : Nat → Nat → Int64) : Prop :=
  (((I 14) ≤ x6 → wc_LassoFinderModel_step_80 a0 a1 a2 Post x1 x2 x3 x4 x6 I J B D) ∧ (¬ (I 14) ≤ x6 → vp_in x6 97 ∧ ∀ z6 : Int64, z6 = ((D 1) x6.toNatClampNeg) → ∀ z7 : Int32, z7 = (lg_cmp z6 x4) → ((z7 = 0 → wc_LassoFinderModel_step_80 a0 a1 a2 Post x1 x2 x3 x4 x6 I J B D) ∧ (¬ z7 = 0 → ∀ z9 : Int32, z9 = (x6 + 1) → K52 x1 x2 x3 x4 z9 I J B D))))
def wl_LassoFinderModel_step_52 (a0 : Int32) (a1 : Int32) (a2 : Int32) (Post : (Nat → Int32) → (Nat → Int64) → (Nat → Nat → Int32) → (Nat → Nat → Int64) → Prop) (n : Nat) : Int32 → Int32 → Int32 → Int64 → Int32 → (Nat → Int32) → (Nat → Int64) → (Nat → Nat → Int32) → (Nat → Nat → Int64) → Prop := Nat.rec (fun _ _ _ _ _ _ _ _ _ => False) (fun _ r => wb_LassoFinderModel_step_52 a0 a1 a2 r Post) n
def wc_LassoFinderModel_step_43 (a0 : Int32) (a1 : Int32) (a2 : Int32) (Post : (Nat → Int32) → (Nat → Int64) → (Nat → Nat → Int32) → (Nat → Nat → Int64) → Prop) (x1 : Int32) (x2 : Int32) (x3 : Int32) (I : Nat → Int32) (J : Nat → Int64) (B : Nat → Nat → Int32) (D : Nat → Nat → Int64) : Prop :=
  wp_LassoFinderModel_packed I J B D  (fun r10 I10 J10 B10 D10 => ∃ n : Nat, wl_LassoFinderModel_step_52 a0 a1 a2 Post n x1 x2 x3 r10 0 I10 J10 B10 D10)
def wc_LassoFinderModel_step_15 (a0 : Int32) (a1 : Int32) (a2 : Int32) (Post : (Nat → Int32) → (Nat → Int64) → (Nat → Nat → Int32) → (Nat → Nat → Int64) → Prop) (x1 : Int32) (x2 : Int32) (x3 : Int32) (I : Nat → Int32) (J : Nat → Int64) (B : Nat → Nat → Int32) (D : Nat → Nat → Int64) : Prop :=
  (((I 16) = 0 → vp_in x1 97 ∧ ∀ z12 : Int64, z12 = ((D 1) x1.toNatClampNeg) → wp_LassoFinderModel_unpack I J B D z12 (fun I13 J13 B13 D13 => ((x2 < 0 → wc_LassoFinderModel_step_43 a0 a1 a2 Post x1 x2 x3 I13 J13 B13 D13) ∧ (¬ x2 < 0 → wp_LassoFinderModel_act I13 J13 B13 D13 x2 x3 (fun I15 J15 B15 D15 => wc_LassoFinderModel_step_43 a0 a1 a2 Post x1 x2 x3 I15 J15 B15 D15))))) ∧ (¬ (I 16) = 0 → Post I J B D))
def wp_LassoFinderModel_step (I : Nat → Int32) (J : Nat → Int64) (B : Nat → Nat → Int32) (D : Nat → Nat → Int64) (a0 : Int32) (a1 : Int32) (a2 : Int32) (Post : (Nat → Int32) → (Nat → Int64) → (Nat → Nat → Int32) → (Nat → Nat → Int64) → Prop) : Prop :=
  ((¬ (I 15) = 400 → wc_LassoFinderModel_step_15 a0 a1 a2 Post a0 a1 a2 I J B D) ∧ ((I 15) = 400 → wc_LassoFinderModel_step_15 a0 a1 a2 Post a0 a1 a2 (upd I 16 1) J B D))
set_option maxHeartbeats 8000000 in
set_option maxRecDepth 100000 in
theorem wJ_LassoFinderModel_step_125 {p : Program} {l : Launch} {e : Env} {s : State} {m : MethodId} {below : List Frame} {meth : Method} {c : Code} {A : Nat → Prop} (G : va_G) (K : Nat → ClassId) (ad : Nat → Nat) (a0 : Int32) (a1 : Int32) (a2 : Int32) (Post : (Nat → Int32) → (Nat → Int64) → (Nat → Nat → Int32) → (Nat → Nat → Int64) → Prop) (C : zCx p s m ([.ref (ad 0), .int a0, .int a1, .int a2] : List Value).toArray meth c A G K prog_14_method_36_code none 7 "LassoFinderModel") : ∀ (x1 : Int32) (x2 : Int32) (x3 : Int32) (x6 : Int32) (y0 : Int32) (I : Nat → Int32) (J : Nat → Int64) (B : Nat → Nat → Int32) (D : Nat → Nat → Int64) (ls : Array Slot) (H : Heap) (locs : List Loc), wc_LassoFinderModel_step_125 a0 a1 a2 Post x1 x2 x3 x6 y0 I J B D → lv_has ls 7 [(0, .ref (ad 0)), (1, .int x1), (2, .int x2), (3, .int x3), (6, .int x6)] → zW G A s.heap (wM ad K I J B D) H locs → W p l e { frames := 2, cells := 0, slots := 0, locals := 55 } s m ([.ref (ad 0), .int a0, .int a1, .int a2] : List Value).toArray below meth c H locs 0 0 (MQ below (va_Qv (fun u : zS => Post u.1 u.2.1 u.2.2.1 u.2.2.2) (fun u t => zPost G K A (wM ad K u.1 u.2.1 u.2.2.1 u.2.2.2) t) A) ([.ref (ad 0), .int a0, .int a1, .int a2] : List Value).toArray s 0 0 A) (F0 m 125 ls [.int y0, .ref (ad 0)]) := by
  obtain ⟨hx, hb, hr, hml, hts, hown, hlocks, hA, hK⟩ := id C
  intro x1 x2 x3 x6 y0 I J B D ls H locs hok hl hw
  unfold wc_LassoFinderModel_step_125 at hok
  refine z_put (v := .int y0) hx hb hts hown hK hw zZ12 0 wM_g0 44 (by decide) zm_300 rfl rfl rfl (Nat.le_of_ble_eq_true rfl) zd_LassoFinderModel_step_125 (fun H locs hw => ?_)
  have hw := wM_sI14 hw
  refine lv_aload_n hx hb zd_LassoFinderModel_step_128 rfl (lv_at hl 0 rfl) ?_
  refine z_get (v := .ref (ad 34)) hx hb hts hown hK hw zZ12 0 wM_g0 50 (by decide) zm_268 rfl zd_LassoFinderModel_step_129 ?_
  refine lv_aload_n hx hb zd_LassoFinderModel_step_132 rfl (lv_at hl 0 rfl) ?_
  refine z_get (v := .int (I 15)) hx hb hts hown hK hw zZ12 0 wM_g0 45 (by decide) zm_314 rfl zd_LassoFinderModel_step_133 ?_
  refine lv_iload_n hx hb zd_LassoFinderModel_step_136 rfl (lv_at hl 1 rfl) ?_
  refine va_iast (f := (B 31)) hx hb hK hw.1 hw.2.1 hw.2.2 34 0 wM_a34 rfl hok.1 zd_LassoFinderModel_step_137 (fun H locs w91 w92 w93 => ?_)
  have hok := hok.2
  have hw := wM_t34 ⟨w91, w92, w93⟩
  refine lv_aload_n hx hb zd_LassoFinderModel_step_138 rfl (lv_at hl 0 rfl) ?_
  refine z_get (v := .ref (ad 33)) hx hb hts hown hK hw zZ12 0 wM_g0 49 (by decide) zm_267 rfl zd_LassoFinderModel_step_139 ?_
  refine lv_aload_n hx hb zd_LassoFinderModel_step_142 rfl (lv_at hl 0 rfl) ?_
  refine z_get (v := .int (I 15)) hx hb hts hown hK hw zZ12 0 wM_g0 45 (by decide) zm_314 rfl zd_LassoFinderModel_step_143 ?_
  refine lv_iload hx hb zd_LassoFinderModel_step_146 (lv_at hl 4 rfl) ?_
  refine va_iast (f := (B 30)) hx hb hK hw.1 hw.2.1 hw.2.2 33 0 wM_a33 rfl hok.1 zd_LassoFinderModel_step_148 (fun H locs w91 w92 w93 => ?_)
  have hok := hok.2
  have hw := wM_t33 ⟨w91, w92, w93⟩
  refine lv_aload_n hx hb zd_LassoFinderModel_step_149 rfl (lv_at hl 0 rfl) ?_
  refine z_get (v := .ref (ad 35)) hx hb hts hown hK hw zZ12 0 wM_g0 51 (by decide) zm_269 rfl zd_LassoFinderModel_step_150 ?_
  refine lv_aload_n hx hb zd_LassoFinderModel_step_153 rfl (lv_at hl 0 rfl) ?_
  refine z_get (v := .int (I 15)) hx hb hts hown hK hw zZ12 0 wM_g0 45 (by decide) zm_314 rfl zd_LassoFinderModel_step_154 ?_
  refine lv_iload_n hx hb zd_LassoFinderModel_step_157 rfl (lv_at hl 2 rfl) ?_
  refine va_iast (f := (B 32)) hx hb hK hw.1 hw.2.1 hw.2.2 35 0 wM_a35 rfl hok.1 zd_LassoFinderModel_step_158 (fun H locs w91 w92 w93 => ?_)
  have hok := hok.2
  have hw := wM_t35 ⟨w91, w92, w93⟩
  refine lv_aload_n hx hb zd_LassoFinderModel_step_159 rfl (lv_at hl 0 rfl) ?_
  refine z_get (v := .ref (ad 36)) hx hb hts hown hK hw zZ12 0 wM_g0 52 (by decide) zm_270 rfl zd_LassoFinderModel_step_160 ?_
  refine lv_aload_n hx hb zd_LassoFinderModel_step_163 rfl (lv_at hl 0 rfl) ?_
  refine z_get (v := .int (I 15)) hx hb hts hown hK hw zZ12 0 wM_g0 45 (by decide) zm_314 rfl zd_LassoFinderModel_step_164 ?_
  refine lv_iload_n hx hb zd_LassoFinderModel_step_167 rfl (lv_at hl 3 rfl) ?_
  refine va_iast (f := (B 33)) hx hb hK hw.1 hw.2.1 hw.2.2 36 0 wM_a36 rfl hok.1 zd_LassoFinderModel_step_168 (fun H locs w91 w92 w93 => ?_)
  have hok := hok.2
  have hw := wM_t36 ⟨w91, w92, w93⟩
  refine lv_aload_n hx hb zd_LassoFinderModel_step_169 rfl (lv_at hl 0 rfl) ?_
  refine lv_dup hx hb zd_LassoFinderModel_step_170 rfl ?_
  refine z_get (v := .int (I 15)) hx hb hts hown hK hw zZ12 0 wM_g0 45 (by decide) zm_314 rfl zd_LassoFinderModel_step_171 ?_
  refine lv_iconst (v := 1) hx hb zd_LassoFinderModel_step_174 (by decide) ?_
  refine lv_iadd hx hb zd_LassoFinderModel_step_175 ?_
  refine lv_topi (fun z1 ez1 => ?_)
  have hok := hok z1 ez1
  refine z_put (v := .int z1) hx hb hts hown hK hw zZ12 0 wM_g0 45 (by decide) zm_314 rfl rfl rfl (Nat.le_of_ble_eq_true rfl) zd_LassoFinderModel_step_176 (fun H locs hw => ?_)
  have hw := wM_sI15 hw
  exact (z_vret (u := ((upd (upd I 14 y0) 15 z1), J, (va_up (va_up (va_up (va_up B 31 (upd (B 31) (I 15).toNatClampNeg x1)) 30 (upd (B 30) (I 15).toNatClampNeg x6)) 32 (upd (B 32) (I 15).toNatClampNeg x2)) 33 (upd (B 33) (I 15).toNatClampNeg x3)), D)) hx hb hr hlocks hw (List.range 58) wM_all wM_nd hok (Nat.le_of_ble_eq_true rfl) (Nat.le_of_ble_eq_true rfl) zd_LassoFinderModel_step_179)
set_option maxHeartbeats 8000000 in
set_option maxRecDepth 100000 in
theorem wJ_LassoFinderModel_step_80 {p : Program} {l : Launch} {e : Env} {s : State} {m : MethodId} {below : List Frame} {meth : Method} {c : Code} {A : Nat → Prop} (G : va_G) (K : Nat → ClassId) (ad : Nat → Nat) (a0 : Int32) (a1 : Int32) (a2 : Int32) (Post : (Nat → Int32) → (Nat → Int64) → (Nat → Nat → Int32) → (Nat → Nat → Int64) → Prop) (C : zCx p s m ([.ref (ad 0), .int a0, .int a1, .int a2] : List Value).toArray meth c A G K prog_14_method_36_code none 7 "LassoFinderModel") : ∀ (x1 : Int32) (x2 : Int32) (x3 : Int32) (x4 : Int64) (x6 : Int32) (I : Nat → Int32) (J : Nat → Int64) (B : Nat → Nat → Int32) (D : Nat → Nat → Int64) (ls : Array Slot) (H : Heap) (locs : List Loc), wc_LassoFinderModel_step_80 a0 a1 a2 Post x1 x2 x3 x4 x6 I J B D → lv_has ls 7 [(0, .ref (ad 0)), (1, .int x1), (2, .int x2), (3, .int x3), (4, .long x4), (6, .int x6)] → zW G A s.heap (wM ad K I J B D) H locs → W p l e { frames := 2, cells := 0, slots := 0, locals := 55 } s m ([.ref (ad 0), .int a0, .int a1, .int a2] : List Value).toArray below meth c H locs 0 0 (MQ below (va_Qv (fun u : zS => Post u.1 u.2.1 u.2.2.1 u.2.2.2) (fun u t => zPost G K A (wM ad K u.1 u.2.1 u.2.2.1 u.2.2.2) t) A) ([.ref (ad 0), .int a0, .int a1, .int a2] : List Value).toArray s 0 0 A) (F0 m 80 ls []) := by
  obtain ⟨hx, hb, hr, hml, hts, hown, hlocks, hA, hK⟩ := id C
  intro x1 x2 x3 x4 x6 I J B D ls H locs hok hl hw
  unfold wc_LassoFinderModel_step_80 at hok
  refine lv_iload hx hb zd_LassoFinderModel_step_80 (lv_at hl 5 rfl) ?_
  refine lv_bipush (v := 96) hx hb zd_LassoFinderModel_step_82 (by decide) ?_
  refine lv_icmp_ne (tgt := 93) hx hb zd_LassoFinderModel_step_84 (by decide) (fun hc2 => ?_) (fun hc2 => ?_)
  · have hok := hok.1 hc2
    refine lv_aload_n hx hb zd_LassoFinderModel_step_93 rfl (lv_at hl 0 rfl) ?_
    refine z_get (v := .ref (ad 31)) hx hb hts hown hK hw zZ12 0 wM_g0 47 (by decide) zm_265 rfl zd_LassoFinderModel_step_94 ?_
    refine lv_iload hx hb zd_LassoFinderModel_step_97 (lv_at hl 5 rfl) ?_
    refine lv_lload hx hb zd_LassoFinderModel_step_99 (lv_at hl 4 rfl) ?_
    refine va_last (f := (D 1)) hx hb hK hw.1 hw.2.1 hw.2.2 31 1 wM_a31 rfl hok.1 zd_LassoFinderModel_step_101 (fun H locs w91 w92 w93 => ?_)
    have hok := hok.2
    have hw := wM_t31 ⟨w91, w92, w93⟩
    refine lv_aload_n hx hb zd_LassoFinderModel_step_102 rfl (lv_at hl 0 rfl) ?_
    refine lv_iload hx hb zd_LassoFinderModel_step_103 (lv_at hl 5 rfl) ?_
    refine lv_aload_n hx hb zd_LassoFinderModel_step_105 rfl (lv_at hl 0 rfl) ?_
    refine z_get (v := .int (I 14)) hx hb hts hown hK hw zZ12 0 wM_g0 44 (by decide) zm_300 rfl zd_LassoFinderModel_step_106 ?_
    refine lv_icmp_ne (tgt := 121) hx hb zd_LassoFinderModel_step_109 (by decide) (fun hc3 => ?_) (fun hc3 => ?_)
    · have hok := hok.1 hc3
      refine lv_aload_n hx hb zd_LassoFinderModel_step_121 rfl (lv_at hl 0 rfl) ?_
      refine z_get (v := .int (I 14)) hx hb hts hown hK hw zZ12 0 wM_g0 44 (by decide) zm_300 rfl zd_LassoFinderModel_step_122 ?_
      exact wJ_LassoFinderModel_step_125 G K ad a0 a1 a2 Post C x1 x2 x3 x6 (I 14) I J B (va_up D 1 (vp_updL (D 1) x6.toNatClampNeg x4)) ls H locs hok (lv_sub hl [0, 1, 2, 3, 5] rfl) hw
    · have hok := hok.2 hc3
      refine lv_aload_n hx hb zd_LassoFinderModel_step_112 rfl (lv_at hl 0 rfl) ?_
      refine z_get (v := .int (I 14)) hx hb hts hown hK hw zZ12 0 wM_g0 44 (by decide) zm_300 rfl zd_LassoFinderModel_step_113 ?_
      refine lv_iconst (v := 1) hx hb zd_LassoFinderModel_step_116 (by decide) ?_
      refine lv_iadd hx hb zd_LassoFinderModel_step_117 ?_
      refine lv_topi (fun z4 ez4 => ?_)
      have hok := hok z4 ez4
      refine lv_goto (tgt := 125) hx hb zd_LassoFinderModel_step_118 (by decide) ?_
      exact wJ_LassoFinderModel_step_125 G K ad a0 a1 a2 Post C x1 x2 x3 x6 z4 I J B (va_up D 1 (vp_updL (D 1) x6.toNatClampNeg x4)) ls H locs hok (lv_sub hl [0, 1, 2, 3, 5] rfl) hw
  · have hok := hok.2 hc2
    refine lv_aload_n hx hb zd_LassoFinderModel_step_87 rfl (lv_at hl 0 rfl) ?_
    refine lv_iconst (v := 1) hx hb zd_LassoFinderModel_step_88 (by decide) ?_
    refine z_put (v := .int 1) hx hb hts hown hK hw zZ12 0 wM_g0 46 (by decide) zm_312 rfl rfl rfl (Nat.le_of_ble_eq_true rfl) zd_LassoFinderModel_step_89 (fun H locs hw => ?_)
    have hw := wM_sI16 hw
    exact (z_vret (u := ((upd I 16 1), J, B, D)) hx hb hr hlocks hw (List.range 58) wM_all wM_nd hok (Nat.le_of_ble_eq_true rfl) (Nat.le_of_ble_eq_true rfl) zd_LassoFinderModel_step_92)
set_option maxHeartbeats 8000000 in
set_option maxRecDepth 100000 in
theorem wB_LassoFinderModel_step_52 {p : Program} {l : Launch} {e : Env} {s : State} {m : MethodId} {below : List Frame} {meth : Method} {c : Code} {A : Nat → Prop} (G : va_G) (K : Nat → ClassId) (ad : Nat → Nat) (a0 : Int32) (a1 : Int32) (a2 : Int32) (Post : (Nat → Int32) → (Nat → Int64) → (Nat → Nat → Int32) → (Nat → Nat → Int64) → Prop) (C : zCx p s m ([.ref (ad 0), .int a0, .int a1, .int a2] : List Value).toArray meth c A G K prog_14_method_36_code none 7 "LassoFinderModel") (K52 : Int32 → Int32 → Int32 → Int64 → Int32 → (Nat → Int32) → (Nat → Int64) → (Nat → Nat → Int32) → (Nat → Nat → Int64) → Prop) (kh52 : ∀ (x1 : Int32) (x2 : Int32) (x3 : Int32) (x4 : Int64) (x6 : Int32) (I : Nat → Int32) (J : Nat → Int64) (B : Nat → Nat → Int32) (D : Nat → Nat → Int64) (ls : Array Slot) (H : Heap) (locs : List Loc), K52 x1 x2 x3 x4 x6 I J B D → lv_has ls 7 [(0, .ref (ad 0)), (1, .int x1), (2, .int x2), (3, .int x3), (4, .long x4), (6, .int x6)] → zW G A s.heap (wM ad K I J B D) H locs → W p l e { frames := 2, cells := 0, slots := 0, locals := 55 } s m ([.ref (ad 0), .int a0, .int a1, .int a2] : List Value).toArray below meth c H locs 0 0 (MQ below (va_Qv (fun u : zS => Post u.1 u.2.1 u.2.2.1 u.2.2.2) (fun u t => zPost G K A (wM ad K u.1 u.2.1 u.2.2.1 u.2.2.2) t) A) ([.ref (ad 0), .int a0, .int a1, .int a2] : List Value).toArray s 0 0 A) (F0 m 52 ls [])) : ∀ (x1 : Int32) (x2 : Int32) (x3 : Int32) (x4 : Int64) (x6 : Int32) (I : Nat → Int32) (J : Nat → Int64) (B : Nat → Nat → Int32) (D : Nat → Nat → Int64) (ls : Array Slot) (H : Heap) (locs : List Loc), wb_LassoFinderModel_step_52 a0 a1 a2 K52 Post x1 x2 x3 x4 x6 I J B D → lv_has ls 7 [(0, .ref (ad 0)), (1, .int x1), (2, .int x2), (3, .int x3), (4, .long x4), (6, .int x6)] → zW G A s.heap (wM ad K I J B D) H locs → W p l e { frames := 2, cells := 0, slots := 0, locals := 55 } s m ([.ref (ad 0), .int a0, .int a1, .int a2] : List Value).toArray below meth c H locs 0 0 (MQ below (va_Qv (fun u : zS => Post u.1 u.2.1 u.2.2.1 u.2.2.2) (fun u t => zPost G K A (wM ad K u.1 u.2.1 u.2.2.1 u.2.2.2) t) A) ([.ref (ad 0), .int a0, .int a1, .int a2] : List Value).toArray s 0 0 A) (F0 m 52 ls []) := by
  obtain ⟨hx, hb, hr, hml, hts, hown, hlocks, hA, hK⟩ := id C
  intro x1 x2 x3 x4 x6 I J B D ls H locs hok hl hw
  unfold wb_LassoFinderModel_step_52 at hok
  refine lv_iload hx hb zd_LassoFinderModel_step_52 (lv_at hl 5 rfl) ?_
  refine lv_aload_n hx hb zd_LassoFinderModel_step_54 rfl (lv_at hl 0 rfl) ?_
  refine z_get (v := .int (I 14)) hx hb hts hown hK hw zZ12 0 wM_g0 44 (by decide) zm_300 rfl zd_LassoFinderModel_step_55 ?_
  refine lv_icmp_ge (tgt := 80) hx hb zd_LassoFinderModel_step_58 (by decide) (fun hc5 => ?_) (fun hc5 => ?_)
  · have hok := hok.1 hc5
    exact wJ_LassoFinderModel_step_80 G K ad a0 a1 a2 Post C x1 x2 x3 x4 x6 I J B D ls H locs hok (lv_sub hl [0, 1, 2, 3, 4, 5] rfl) hw
  · have hok := hok.2 hc5
    refine lv_aload_n hx hb zd_LassoFinderModel_step_61 rfl (lv_at hl 0 rfl) ?_
    refine z_get (v := .ref (ad 31)) hx hb hts hown hK hw zZ12 0 wM_g0 47 (by decide) zm_265 rfl zd_LassoFinderModel_step_62 ?_
    refine lv_iload hx hb zd_LassoFinderModel_step_65 (lv_at hl 5 rfl) ?_
    refine va_lald (f := (D 1)) hx hb hK hw.1 31 1 wM_a31 rfl hok.1 zd_LassoFinderModel_step_67 ?_
    have hok := hok.2
    refine lv_topl (fun z6 ez6 => ?_)
    have hok := hok z6 ez6
    refine lv_lload hx hb zd_LassoFinderModel_step_68 (lv_at hl 4 rfl) ?_
    refine W.lcmp hx hb zd_LassoFinderModel_step_70 ?_
    refine lv_topi (fun z7 ez7 => ?_)
    have hok := hok z7 ez7
    refine lv_if_eq (tgt := 80) hx hb zd_LassoFinderModel_step_71 (by decide) (fun hc8 => ?_) (fun hc8 => ?_)
    · have hok := hok.1 hc8
      exact wJ_LassoFinderModel_step_80 G K ad a0 a1 a2 Post C x1 x2 x3 x4 x6 I J B D ls H locs hok (lv_sub hl [0, 1, 2, 3, 4, 5] rfl) hw
    · have hok := hok.2 hc8
      obtain ⟨z9, ez9⟩ : ∃ z : Int32, z = (x6 + 1) := ⟨_, rfl⟩
      have hok := hok z9 ez9
      refine lv_iinc (v := z9) hx hb zd_LassoFinderModel_step_74 hl (k := 5) rfl ez9.symm (by decide) rfl (fun ls hl => ?_)
      have hl : lv_has ls 7 [(6, .int z9), (0, .ref (ad 0)), (1, .int x1), (2, .int x2), (3, .int x3), (4, .long x4)] := hl
      refine lv_goto (tgt := 52) hx hb zd_LassoFinderModel_step_77 (by decide) ?_
      exact kh52 x1 x2 x3 x4 z9 I J B D ls H locs hok (lv_sub hl [1, 2, 3, 4, 5, 0] rfl) hw
theorem wL_LassoFinderModel_step_52 {p : Program} {l : Launch} {e : Env} {s : State} {m : MethodId} {below : List Frame} {meth : Method} {c : Code} {A : Nat → Prop} (G : va_G) (K : Nat → ClassId) (ad : Nat → Nat) (a0 : Int32) (a1 : Int32) (a2 : Int32) (Post : (Nat → Int32) → (Nat → Int64) → (Nat → Nat → Int32) → (Nat → Nat → Int64) → Prop) (C : zCx p s m ([.ref (ad 0), .int a0, .int a1, .int a2] : List Value).toArray meth c A G K prog_14_method_36_code none 7 "LassoFinderModel") : ∀ (n : Nat) (x1 : Int32) (x2 : Int32) (x3 : Int32) (x4 : Int64) (x6 : Int32) (I : Nat → Int32) (J : Nat → Int64) (B : Nat → Nat → Int32) (D : Nat → Nat → Int64) (ls : Array Slot) (H : Heap) (locs : List Loc), wl_LassoFinderModel_step_52 a0 a1 a2 Post n x1 x2 x3 x4 x6 I J B D → lv_has ls 7 [(0, .ref (ad 0)), (1, .int x1), (2, .int x2), (3, .int x3), (4, .long x4), (6, .int x6)] → zW G A s.heap (wM ad K I J B D) H locs → W p l e { frames := 2, cells := 0, slots := 0, locals := 55 } s m ([.ref (ad 0), .int a0, .int a1, .int a2] : List Value).toArray below meth c H locs 0 0 (MQ below (va_Qv (fun u : zS => Post u.1 u.2.1 u.2.2.1 u.2.2.2) (fun u t => zPost G K A (wM ad K u.1 u.2.1 u.2.2.1 u.2.2.2) t) A) ([.ref (ad 0), .int a0, .int a1, .int a2] : List Value).toArray s 0 0 A) (F0 m 52 ls []) := by
  intro n
  induction n with
  | zero => intro x1 x2 x3 x4 x6 I J B D ls H locs hok; exact hok.elim
  | succ n ih => exact wB_LassoFinderModel_step_52 G K ad a0 a1 a2 Post C (wl_LassoFinderModel_step_52 a0 a1 a2 Post n) ih
set_option maxHeartbeats 8000000 in
set_option maxRecDepth 100000 in
theorem wJ_LassoFinderModel_step_43 {p : Program} {l : Launch} {e : Env} {s : State} {m : MethodId} {below : List Frame} {meth : Method} {c : Code} {A : Nat → Prop} (G : va_G) (K : Nat → ClassId) (ad : Nat → Nat) (a0 : Int32) (a1 : Int32) (a2 : Int32) (Post : (Nat → Int32) → (Nat → Int64) → (Nat → Nat → Int32) → (Nat → Nat → Int64) → Prop) (C : zCx p s m ([.ref (ad 0), .int a0, .int a1, .int a2] : List Value).toArray meth c A G K prog_14_method_36_code none 7 "LassoFinderModel") : ∀ (x1 : Int32) (x2 : Int32) (x3 : Int32) (I : Nat → Int32) (J : Nat → Int64) (B : Nat → Nat → Int32) (D : Nat → Nat → Int64) (ls : Array Slot) (H : Heap) (locs : List Loc), wc_LassoFinderModel_step_43 a0 a1 a2 Post x1 x2 x3 I J B D → lv_has ls 7 [(0, .ref (ad 0)), (1, .int x1), (2, .int x2), (3, .int x3)] → zW G A s.heap (wM ad K I J B D) H locs → W p l e { frames := 2, cells := 0, slots := 0, locals := 55 } s m ([.ref (ad 0), .int a0, .int a1, .int a2] : List Value).toArray below meth c H locs 0 0 (MQ below (va_Qv (fun u : zS => Post u.1 u.2.1 u.2.2.1 u.2.2.2) (fun u t => zPost G K A (wM ad K u.1 u.2.1 u.2.2.1 u.2.2.2) t) A) ([.ref (ad 0), .int a0, .int a1, .int a2] : List Value).toArray s 0 0 A) (F0 m 43 ls []) := by
  obtain ⟨hx, hb, hr, hml, hts, hown, hlocks, hA, hK⟩ := id C
  intro x1 x2 x3 I J B D ls H locs hok hl hw
  unfold wc_LassoFinderModel_step_43 at hok
  refine lv_aload_n hx hb zd_LassoFinderModel_step_43 rfl (lv_at hl 0 rfl) ?_
  refine z_calll (w1 := fun (u : zS) => wM ad K u.1 u.2.1 u.2.2.1 u.2.2.2) (wr := []) (z_runV (q0 := 0) (wc := (wM ad K I J B D)) (As := []) (rest := []) ⟨hx, hb, hml, hown, hts⟩ (w_LassoFinderModel_packed l G K ad I J B D  _ H.size hok) zf_LassoFinderModel_packed zm_311 ⟨Nat.le_of_ble_eq_true rfl, Nat.le_of_ble_eq_true rfl⟩ hK hw (List.range 58) wM_all wM_nd wM_g0 rfl rfl hl.1 rfl (Nat.le_of_ble_eq_true rfl) zd_LassoFinderModel_step_44 ⟨Nat.le_of_ble_eq_true rfl, Nat.le_of_ble_eq_true rfl⟩) hw hA (List.range 58) [] wM_all rfl (by decide) (fun i hi => by cases hi) (fun r10 u H locs hok hw => ?_)
  obtain ⟨I10, J10, B10, D10⟩ := u
  dsimp only at hok
  have hw : zW G A s.heap (wM ad K I10 J10 B10 D10) H locs := hw
  refine lv_lstore hx hb zd_LassoFinderModel_step_47 hl (by decide) rfl (fun ls hl => ?_)
  have hl : lv_has ls 7 [(4, .long r10), (0, .ref (ad 0)), (1, .int x1), (2, .int x2), (3, .int x3)] := hl
  refine lv_iconst (v := 0) hx hb zd_LassoFinderModel_step_49 (by decide) ?_
  refine lv_istore hx hb zd_LassoFinderModel_step_50 hl (by decide) rfl (fun ls hl => ?_)
  have hl : lv_has ls 7 [(6, .int 0), (4, .long r10), (0, .ref (ad 0)), (1, .int x1), (2, .int x2), (3, .int x3)] := hl
  obtain ⟨n9, hok⟩ := hok
  exact wL_LassoFinderModel_step_52 G K ad a0 a1 a2 Post C n9 x1 x2 x3 r10 0 I10 J10 B10 D10 ls H locs hok (lv_sub hl [2, 3, 4, 5, 1, 0] rfl) hw
set_option maxHeartbeats 8000000 in
set_option maxRecDepth 100000 in
theorem wJ_LassoFinderModel_step_15 {p : Program} {l : Launch} {e : Env} {s : State} {m : MethodId} {below : List Frame} {meth : Method} {c : Code} {A : Nat → Prop} (G : va_G) (K : Nat → ClassId) (ad : Nat → Nat) (a0 : Int32) (a1 : Int32) (a2 : Int32) (Post : (Nat → Int32) → (Nat → Int64) → (Nat → Nat → Int32) → (Nat → Nat → Int64) → Prop) (C : zCx p s m ([.ref (ad 0), .int a0, .int a1, .int a2] : List Value).toArray meth c A G K prog_14_method_36_code none 7 "LassoFinderModel") : ∀ (x1 : Int32) (x2 : Int32) (x3 : Int32) (I : Nat → Int32) (J : Nat → Int64) (B : Nat → Nat → Int32) (D : Nat → Nat → Int64) (ls : Array Slot) (H : Heap) (locs : List Loc), wc_LassoFinderModel_step_15 a0 a1 a2 Post x1 x2 x3 I J B D → lv_has ls 7 [(0, .ref (ad 0)), (1, .int x1), (2, .int x2), (3, .int x3)] → zW G A s.heap (wM ad K I J B D) H locs → W p l e { frames := 2, cells := 0, slots := 0, locals := 55 } s m ([.ref (ad 0), .int a0, .int a1, .int a2] : List Value).toArray below meth c H locs 0 0 (MQ below (va_Qv (fun u : zS => Post u.1 u.2.1 u.2.2.1 u.2.2.2) (fun u t => zPost G K A (wM ad K u.1 u.2.1 u.2.2.1 u.2.2.2) t) A) ([.ref (ad 0), .int a0, .int a1, .int a2] : List Value).toArray s 0 0 A) (F0 m 15 ls []) := by
  obtain ⟨hx, hb, hr, hml, hts, hown, hlocks, hA, hK⟩ := id C
  intro x1 x2 x3 I J B D ls H locs hok hl hw
  unfold wc_LassoFinderModel_step_15 at hok
  refine lv_aload_n hx hb zd_LassoFinderModel_step_15 rfl (lv_at hl 0 rfl) ?_
  refine z_get (v := .int (I 16)) hx hb hts hown hK hw zZ12 0 wM_g0 46 (by decide) zm_312 rfl zd_LassoFinderModel_step_16 ?_
  refine lv_if_eq (tgt := 23) hx hb zd_LassoFinderModel_step_19 (by decide) (fun hc11 => ?_) (fun hc11 => ?_)
  · have hok := hok.1 hc11
    refine lv_aload_n hx hb zd_LassoFinderModel_step_23 rfl (lv_at hl 0 rfl) ?_
    refine lv_aload_n hx hb zd_LassoFinderModel_step_24 rfl (lv_at hl 0 rfl) ?_
    refine z_get (v := .ref (ad 31)) hx hb hts hown hK hw zZ12 0 wM_g0 47 (by decide) zm_265 rfl zd_LassoFinderModel_step_25 ?_
    refine lv_iload_n hx hb zd_LassoFinderModel_step_28 rfl (lv_at hl 1 rfl) ?_
    refine va_lald (f := (D 1)) hx hb hK hw.1 31 1 wM_a31 rfl hok.1 zd_LassoFinderModel_step_29 ?_
    have hok := hok.2
    refine lv_topl (fun z12 ez12 => ?_)
    have hok := hok z12 ez12
    refine z_callv (w1 := fun (u : zS) => wM ad K u.1 u.2.1 u.2.2.1 u.2.2.2) (wr := []) (z_runV (q0 := 0) (wc := (wM ad K I J B D)) (As := [.long z12]) (rest := []) ⟨hx, hb, hml, hown, hts⟩ (w_LassoFinderModel_unpack l G K ad I J B D z12 _ H.size hok) zf_LassoFinderModel_unpack zm_315 ⟨Nat.le_of_ble_eq_true rfl, Nat.le_of_ble_eq_true rfl⟩ hK hw (List.range 58) wM_all wM_nd wM_g0 rfl rfl hl.1 rfl (Nat.le_of_ble_eq_true rfl) zd_LassoFinderModel_step_30 ⟨Nat.le_of_ble_eq_true rfl, Nat.le_of_ble_eq_true rfl⟩) hw hA (List.range 58) [] wM_all rfl (by decide) (fun i hi => by cases hi) (fun u H locs hok hw => ?_)
    obtain ⟨I13, J13, B13, D13⟩ := u
    dsimp only at hok
    have hw : zW G A s.heap (wM ad K I13 J13 B13 D13) H locs := hw
    refine lv_iload_n hx hb zd_LassoFinderModel_step_33 rfl (lv_at hl 2 rfl) ?_
    refine lv_if_lt (tgt := 43) hx hb zd_LassoFinderModel_step_34 (by decide) (fun hc14 => ?_) (fun hc14 => ?_)
    · have hok := hok.1 hc14
      exact wJ_LassoFinderModel_step_43 G K ad a0 a1 a2 Post C x1 x2 x3 I13 J13 B13 D13 ls H locs hok (lv_sub hl [0, 1, 2, 3] rfl) hw
    · have hok := hok.2 hc14
      refine lv_aload_n hx hb zd_LassoFinderModel_step_37 rfl (lv_at hl 0 rfl) ?_
      refine lv_iload_n hx hb zd_LassoFinderModel_step_38 rfl (lv_at hl 2 rfl) ?_
      refine lv_iload_n hx hb zd_LassoFinderModel_step_39 rfl (lv_at hl 3 rfl) ?_
      refine z_callv (w1 := fun (u : zS) => wM ad K u.1 u.2.1 u.2.2.1 u.2.2.2) (wr := []) (z_runV (q0 := 0) (wc := (wM ad K I13 J13 B13 D13)) (As := [.int x2, .int x3]) (rest := []) ⟨hx, hb, hml, hown, hts⟩ (w_LassoFinderModel_act l G K ad I13 J13 B13 D13 x2 x3 _ H.size hok) zf_LassoFinderModel_act zm_319 ⟨Nat.le_of_ble_eq_true rfl, Nat.le_of_ble_eq_true rfl⟩ hK hw (List.range 58) wM_all wM_nd wM_g0 rfl rfl hl.1 rfl (Nat.le_of_ble_eq_true rfl) zd_LassoFinderModel_step_40 ⟨Nat.le_of_ble_eq_true rfl, Nat.le_of_ble_eq_true rfl⟩) hw hA (List.range 58) [] wM_all rfl (by decide) (fun i hi => by cases hi) (fun u H locs hok hw => ?_)
      obtain ⟨I15, J15, B15, D15⟩ := u
      dsimp only at hok
      have hw : zW G A s.heap (wM ad K I15 J15 B15 D15) H locs := hw
      exact wJ_LassoFinderModel_step_43 G K ad a0 a1 a2 Post C x1 x2 x3 I15 J15 B15 D15 ls H locs hok (lv_sub hl [0, 1, 2, 3] rfl) hw
  · have hok := hok.2 hc11
    exact (z_vret (u := (I, J, B, D)) hx hb hr hlocks hw (List.range 58) wM_all wM_nd hok (Nat.le_of_ble_eq_true rfl) (Nat.le_of_ble_eq_true rfl) zd_LassoFinderModel_step_22)
set_option maxHeartbeats 8000000 in
set_option maxRecDepth 100000 in
theorem w_LassoFinderModel_step (l : Launch) (G : va_G) (K : Nat → ClassId) (ad : Nat → Nat) (I : Nat → Int32) (J : Nat → Int64) (B : Nat → Nat → Int32) (D : Nat → Nat → Int64) (a0 : Int32) (a1 : Int32) (a2 : Int32) (Post : (Nat → Int32) → (Nat → Int64) → (Nat → Nat → Int32) → (Nat → Nat → Int64) → Prop) (sz : Nat) (hok : wp_LassoFinderModel_step I J B D a0 a1 a2 Post) : Met l zy_LassoFinderModel_step (Cond.code zy_LassoFinderModel_step prog_14_method_36_code 7 none :: zTB) { frames := 2, cells := 0, slots := 0, locals := 55 } (va_Pc [.ref (ad 0), .int a0, .int a1, .int a2] (zPre G K (wM ad K I J B D) sz)) (va_Qv (fun u : zS => Post u.1 u.2.1 u.2.2.1 u.2.2.2) (fun u t => zPost G K (va_A (wM ad K I J B D) sz) (wM ad K u.1 u.2.1 u.2.2.1 u.2.2.2) t) (va_A (wM ad K I J B D) sz)) 0 0 (va_A (wM ad K I J B D) sz) := by
  refine zMet (y := zy_LassoFinderModel_step) (av := [.ref (ad 0), .int a0, .int a1, .int a2]) (maxL := 7) (cc := prog_14_method_36_code) (ret := none) (W0 := (wM ad K I J B D)) (sz := sz) (G := G) (K := K) (wt := zTB) (mc := 0) (ms := 0) (Qf := fun A => va_Qv (fun u : zS => Post u.1 u.2.1 u.2.2.1 u.2.2.2) (fun u t => zPost G K A (wM ad K u.1 u.2.1 u.2.2.1 u.2.2.2) t) A) (by decide) (Nat.le_of_ble_eq_true rfl) ?_
  intro p e s m below meth c ls A hx hb hr hml hts hown hlocks hin hA hK H locs hw hsz hl
  clear hsz
  have hown : s.vm.findClass "LassoFinderModel" = some m.cls := hown
  have C : zCx p s m ([.ref (ad 0), .int a0, .int a1, .int a2] : List Value).toArray meth c A G K prog_14_method_36_code none 7 "LassoFinderModel" := ⟨hx, hb, hr, hml, hts, hown, hlocks, hA, hK⟩
  have hl : lv_has ls 7 [(0, .ref (ad 0)), (1, .int a0), (2, .int a1), (3, .int a2)] := hl
  have hw : zW G A s.heap (wM ad K I J B D) H locs := hw
  unfold wp_LassoFinderModel_step at hok
  refine lv_aload_n hx hb zd_LassoFinderModel_step_0 rfl (lv_at hl 0 rfl) ?_
  refine z_get (v := .int (I 15)) hx hb hts hown hK hw zZ12 0 wM_g0 45 (by decide) zm_314 rfl zd_LassoFinderModel_step_1 ?_
  refine lv_sipush (v := 400) hx hb zd_LassoFinderModel_step_4 (by decide) ?_
  refine lv_icmp_ne (tgt := 15) hx hb zd_LassoFinderModel_step_7 (by decide) (fun hc16 => ?_) (fun hc16 => ?_)
  · have hok := hok.1 hc16
    exact wJ_LassoFinderModel_step_15 G K ad a0 a1 a2 Post C a0 a1 a2 I J B D ls H locs hok (lv_sub hl [0, 1, 2, 3] rfl) hw
  · have hok := hok.2 hc16
    refine lv_aload_n hx hb zd_LassoFinderModel_step_10 rfl (lv_at hl 0 rfl) ?_
    refine lv_iconst (v := 1) hx hb zd_LassoFinderModel_step_11 (by decide) ?_
    refine z_put (v := .int 1) hx hb hts hown hK hw zZ12 0 wM_g0 46 (by decide) zm_312 rfl rfl rfl (Nat.le_of_ble_eq_true rfl) zd_LassoFinderModel_step_12 (fun H locs hw => ?_)
    have hw := wM_sI16 hw
    exact wJ_LassoFinderModel_step_15 G K ad a0 a1 a2 Post C a0 a1 a2 (upd I 16 1) J B D ls H locs hok (lv_sub hl [0, 1, 2, 3] rfl) hw
def wc_LassoFinderModel_maskOf_35 (a0 : Int32) (Post : Int64 → (Nat → Int32) → (Nat → Int64) → (Nat → Nat → Int32) → (Nat → Nat → Int64) → Prop) (y0 : Int64) (I : Nat → Int32) (J : Nat → Int64) (B : Nat → Nat → Int32) (D : Nat → Nat → Int64) : Prop :=
  Post y0 I J B D
def wp_LassoFinderModel_maskOf (I : Nat → Int32) (J : Nat → Int64) (B : Nat → Nat → Int32) (D : Nat → Nat → Int64) (a0 : Int32) (Post : Int64 → (Nat → Int32) → (Nat → Int64) → (Nat → Nat → Int32) → (Nat → Nat → Int64) → Prop) : Prop :=
  vp_in a0 4 ∧ ∀ z1 : Int32, z1 = ((B 39) a0.toNatClampNeg) → vp_in a0 5 ∧ ∀ z2 : Int32, z2 = ((B 20) a0.toNatClampNeg) → ((¬ z1 = z2 → ∀ z4 : Int32, z4 = (31 * a0) → vp_in a0 4 ∧ ∀ z5 : Int32, z5 = ((B 39) a0.toNatClampNeg) → ∀ z6 : Int32, z6 = (z4 + z5) → vp_in z6 124 ∧ ∀ z7 : Int64, z7 = ((D 0) z6.toNatClampNeg) → wc_LassoFinderModel_maskOf_35 a0 Post z7 I J B D) ∧ (z1 = z2 → wc_LassoFinderModel_maskOf_35 a0 Post 0 I J B D))
set_option maxHeartbeats 8000000 in
set_option maxRecDepth 100000 in
theorem wJ_LassoFinderModel_maskOf_35 {p : Program} {l : Launch} {e : Env} {s : State} {m : MethodId} {below : List Frame} {meth : Method} {c : Code} {A : Nat → Prop} (G : va_G) (K : Nat → ClassId) (ad : Nat → Nat) (a0 : Int32) (Post : Int64 → (Nat → Int32) → (Nat → Int64) → (Nat → Nat → Int32) → (Nat → Nat → Int64) → Prop) (C : zCx p s m ([.ref (ad 0), .int a0] : List Value).toArray meth c A G K prog_14_method_30_code (some .long) 2 "LassoFinderModel") : ∀ (y0 : Int64) (I : Nat → Int32) (J : Nat → Int64) (B : Nat → Nat → Int32) (D : Nat → Nat → Int64) (ls : Array Slot) (H : Heap) (locs : List Loc), wc_LassoFinderModel_maskOf_35 a0 Post y0 I J B D → lv_has ls 2 [] → zW G A s.heap (wM ad K I J B D) H locs → W p l e { frames := 0, cells := 0, slots := 0, locals := 0 } s m ([.ref (ad 0), .int a0] : List Value).toArray below meth c H locs 0 0 (MQ below (va_Ql (fun (r : Int64) (u : zS) => Post r u.1 u.2.1 u.2.2.1 u.2.2.2) (fun u t => zPost G K A (wM ad K u.1 u.2.1 u.2.2.1 u.2.2.2) t) A) ([.ref (ad 0), .int a0] : List Value).toArray s 0 0 A) (F0 m 35 ls [.long y0]) := by
  obtain ⟨hx, hb, hr, hml, hts, hown, hlocks, hA, hK⟩ := id C
  intro y0 I J B D ls H locs hok hl hw
  unfold wc_LassoFinderModel_maskOf_35 at hok
  exact (z_lret (u := (I, J, B, D)) hx hb hr hlocks hw (List.range 58) wM_all wM_nd hok (Nat.le_of_ble_eq_true rfl) (Nat.le_of_ble_eq_true rfl) zd_LassoFinderModel_maskOf_35)
set_option maxHeartbeats 8000000 in
set_option maxRecDepth 100000 in
theorem w_LassoFinderModel_maskOf (l : Launch) (G : va_G) (K : Nat → ClassId) (ad : Nat → Nat) (I : Nat → Int32) (J : Nat → Int64) (B : Nat → Nat → Int32) (D : Nat → Nat → Int64) (a0 : Int32) (Post : Int64 → (Nat → Int32) → (Nat → Int64) → (Nat → Nat → Int32) → (Nat → Nat → Int64) → Prop) (sz : Nat) (hok : wp_LassoFinderModel_maskOf I J B D a0 Post) : Met l zy_LassoFinderModel_maskOf (Cond.code zy_LassoFinderModel_maskOf prog_14_method_30_code 2 (some .long) :: zTB) { frames := 0, cells := 0, slots := 0, locals := 0 } (va_Pc [.ref (ad 0), .int a0] (zPre G K (wM ad K I J B D) sz)) (va_Ql (fun (r : Int64) (u : zS) => Post r u.1 u.2.1 u.2.2.1 u.2.2.2) (fun u t => zPost G K (va_A (wM ad K I J B D) sz) (wM ad K u.1 u.2.1 u.2.2.1 u.2.2.2) t) (va_A (wM ad K I J B D) sz)) 0 0 (va_A (wM ad K I J B D) sz) := by
  refine zMet (y := zy_LassoFinderModel_maskOf) (av := [.ref (ad 0), .int a0]) (maxL := 2) (cc := prog_14_method_30_code) (ret := (some .long)) (W0 := (wM ad K I J B D)) (sz := sz) (G := G) (K := K) (wt := zTB) (mc := 0) (ms := 0) (Qf := fun A => va_Ql (fun (r : Int64) (u : zS) => Post r u.1 u.2.1 u.2.2.1 u.2.2.2) (fun u t => zPost G K A (wM ad K u.1 u.2.1 u.2.2.1 u.2.2.2) t) A) (by decide) (Nat.le_of_ble_eq_true rfl) ?_
  intro p e s m below meth c ls A hx hb hr hml hts hown hlocks hin hA hK H locs hw hsz hl
  clear hsz
  have hown : s.vm.findClass "LassoFinderModel" = some m.cls := hown
  have C : zCx p s m ([.ref (ad 0), .int a0] : List Value).toArray meth c A G K prog_14_method_30_code (some .long) 2 "LassoFinderModel" := ⟨hx, hb, hr, hml, hts, hown, hlocks, hA, hK⟩
  have hl : lv_has ls 2 [(0, .ref (ad 0)), (1, .int a0)] := hl
  have hw : zW G A s.heap (wM ad K I J B D) H locs := hw
  unfold wp_LassoFinderModel_maskOf at hok
  refine lv_aload_n hx hb zd_LassoFinderModel_maskOf_0 rfl (lv_at hl 0 rfl) ?_
  refine z_get (v := .ref (ad 42)) hx hb hts hown hK hw zZ12 0 wM_g0 58 (by decide) zm_276 rfl zd_LassoFinderModel_maskOf_1 ?_
  refine lv_iload_n hx hb zd_LassoFinderModel_maskOf_4 rfl (lv_at hl 1 rfl) ?_
  refine va_iald (f := (B 39)) hx hb hK hw.1 42 0 wM_a42 rfl hok.1 zd_LassoFinderModel_maskOf_5 ?_
  have hok := hok.2
  refine lv_topi (fun z1 ez1 => ?_)
  have hok := hok z1 ez1
  refine lv_aload_n hx hb zd_LassoFinderModel_maskOf_6 rfl (lv_at hl 0 rfl) ?_
  refine z_get (v := .ref (ad 21)) hx hb hts hown hK hw zZ12 0 wM_g0 31 (by decide) zm_255 rfl zd_LassoFinderModel_maskOf_7 ?_
  refine lv_iload_n hx hb zd_LassoFinderModel_maskOf_10 rfl (lv_at hl 1 rfl) ?_
  refine va_iald (f := (B 20)) hx hb hK hw.1 21 0 wM_a21 rfl hok.1 zd_LassoFinderModel_maskOf_11 ?_
  have hok := hok.2
  refine lv_topi (fun z2 ez2 => ?_)
  have hok := hok z2 ez2
  refine lv_icmp_ne (tgt := 19) hx hb zd_LassoFinderModel_maskOf_12 (by decide) (fun hc3 => ?_) (fun hc3 => ?_)
  · have hok := hok.1 hc3
    refine lv_aload_n hx hb zd_LassoFinderModel_maskOf_19 rfl (lv_at hl 0 rfl) ?_
    refine z_get (v := .ref (ad 25)) hx hb hts hown hK hw zZ12 0 wM_g0 35 (by decide) zm_259 rfl zd_LassoFinderModel_maskOf_20 ?_
    refine lv_bipush (v := 31) hx hb zd_LassoFinderModel_maskOf_23 (by decide) ?_
    refine lv_iload_n hx hb zd_LassoFinderModel_maskOf_25 rfl (lv_at hl 1 rfl) ?_
    refine lv_imul hx hb zd_LassoFinderModel_maskOf_26 ?_
    refine lv_topi (fun z4 ez4 => ?_)
    have hok := hok z4 ez4
    refine lv_aload_n hx hb zd_LassoFinderModel_maskOf_27 rfl (lv_at hl 0 rfl) ?_
    refine z_get (v := .ref (ad 42)) hx hb hts hown hK hw zZ12 0 wM_g0 58 (by decide) zm_276 rfl zd_LassoFinderModel_maskOf_28 ?_
    refine lv_iload_n hx hb zd_LassoFinderModel_maskOf_31 rfl (lv_at hl 1 rfl) ?_
    refine va_iald (f := (B 39)) hx hb hK hw.1 42 0 wM_a42 rfl hok.1 zd_LassoFinderModel_maskOf_32 ?_
    have hok := hok.2
    refine lv_topi (fun z5 ez5 => ?_)
    have hok := hok z5 ez5
    refine lv_iadd hx hb zd_LassoFinderModel_maskOf_33 ?_
    refine lv_topi (fun z6 ez6 => ?_)
    have hok := hok z6 ez6
    refine va_lald (f := (D 0)) hx hb hK hw.1 25 1 wM_a25 rfl hok.1 zd_LassoFinderModel_maskOf_34 ?_
    have hok := hok.2
    refine lv_topl (fun z7 ez7 => ?_)
    have hok := hok z7 ez7
    exact wJ_LassoFinderModel_maskOf_35 G K ad a0 Post C z7 I J B D ls H locs hok (lv_sub hl [] rfl) hw
  · have hok := hok.2 hc3
    refine lv_lconst (v := 0) hx hb zd_LassoFinderModel_maskOf_15 (by decide) ?_
    refine lv_goto (tgt := 35) hx hb zd_LassoFinderModel_maskOf_16 (by decide) ?_
    exact wJ_LassoFinderModel_maskOf_35 G K ad a0 Post C 0 I J B D ls H locs hok (lv_sub hl [] rfl) hw
def wc_LassoFinderModel_meets_71 (a0 : Int32) (a1 : Int32) (Post : Int32 → (Nat → Int32) → (Nat → Int64) → (Nat → Nat → Int32) → (Nat → Nat → Int64) → Prop) (y0 : Int32) (I : Nat → Int32) (J : Nat → Int64) (B : Nat → Nat → Int32) (D : Nat → Nat → Int64) : Prop :=
  (y0 = 0 ∨ y0 = 1) ∧ Post y0 I J B D
def wc_LassoFinderModel_meets_70 (a0 : Int32) (a1 : Int32) (Post : Int32 → (Nat → Int32) → (Nat → Int64) → (Nat → Nat → Int32) → (Nat → Nat → Int64) → Prop)  (I : Nat → Int32) (J : Nat → Int64) (B : Nat → Nat → Int32) (D : Nat → Nat → Int64) : Prop :=
  wc_LassoFinderModel_meets_71 a0 a1 Post 0 I J B D
def wp_LassoFinderModel_meets (I : Nat → Int32) (J : Nat → Int64) (B : Nat → Nat → Int32) (D : Nat → Nat → Int64) (a0 : Int32) (a1 : Int32) (Post : Int32 → (Nat → Int32) → (Nat → Int64) → (Nat → Nat → Int32) → (Nat → Nat → Int64) → Prop) : Prop :=
  vp_in a1 48 ∧ ∀ z1 : Int32, z1 = ((B 18) a1.toNatClampNeg) → vp_in z1 140 ∧ ∀ z2 : Int32, z2 = ((B 5) z1.toNatClampNeg) → ((¬ z2 = 3 → wc_LassoFinderModel_meets_70 a0 a1 Post I J B D) ∧ (z2 = 3 → vp_in z1 140 ∧ ∀ z4 : Int32, z4 = ((B 12) z1.toNatClampNeg) → vp_in a0 140 ∧ ∀ z5 : Int32, z5 = ((B 12) a0.toNatClampNeg) → ((¬ z4 = z5 → wc_LassoFinderModel_meets_70 a0 a1 Post I J B D) ∧ (z4 = z5 → vp_in z1 140 ∧ ∀ z7 : Int32, z7 = ((B 6) z1.toNatClampNeg) → vp_in a0 140 ∧ ∀ z8 : Int32, z8 = ((B 6) a0.toNatClampNeg) → ((z7 = z8 → wc_LassoFinderModel_meets_70 a0 a1 Post I J B D) ∧ (¬ z7 = z8 → vp_in z1 140 ∧ ∀ z10 : Int32, z10 = ((B 6) z1.toNatClampNeg) → wp_LassoFinderModel_maskOf I J B D z10 (fun r11 I11 J11 B11 D11 => ∀ z12 : Int64, z12 = (r11 >>> (a1.toInt64 &&& 63)) → ∀ z13 : Int64, z13 = (z12 &&& 1) → ∀ z14 : Int32, z14 = (lg_cmp z13 1) → ((¬ z14 = 0 → wc_LassoFinderModel_meets_70 a0 a1 Post I11 J11 B11 D11) ∧ (z14 = 0 → wc_LassoFinderModel_meets_71 a0 a1 Post 1 I11 J11 B11 D11)))))))))
set_option maxHeartbeats 8000000 in
set_option maxRecDepth 100000 in
theorem wJ_LassoFinderModel_meets_71 {p : Program} {l : Launch} {e : Env} {s : State} {m : MethodId} {below : List Frame} {meth : Method} {c : Code} {A : Nat → Prop} (G : va_G) (K : Nat → ClassId) (ad : Nat → Nat) (a0 : Int32) (a1 : Int32) (Post : Int32 → (Nat → Int32) → (Nat → Int64) → (Nat → Nat → Int32) → (Nat → Nat → Int64) → Prop) (C : zCx p s m ([.ref (ad 0), .int a0, .int a1] : List Value).toArray meth c A G K prog_14_method_31_code (some .boolean) 4 "LassoFinderModel") : ∀ (y0 : Int32) (I : Nat → Int32) (J : Nat → Int64) (B : Nat → Nat → Int32) (D : Nat → Nat → Int64) (ls : Array Slot) (H : Heap) (locs : List Loc), wc_LassoFinderModel_meets_71 a0 a1 Post y0 I J B D → lv_has ls 4 [] → zW G A s.heap (wM ad K I J B D) H locs → W p l e { frames := 1, cells := 0, slots := 0, locals := 21 } s m ([.ref (ad 0), .int a0, .int a1] : List Value).toArray below meth c H locs 0 0 (MQ below (va_Qi (fun (r : Int32) (u : zS) => Post r u.1 u.2.1 u.2.2.1 u.2.2.2) (fun u t => zPost G K A (wM ad K u.1 u.2.1 u.2.2.1 u.2.2.2) t) A) ([.ref (ad 0), .int a0, .int a1] : List Value).toArray s 0 0 A) (F0 m 71 ls [.int y0]) := by
  obtain ⟨hx, hb, hr, hml, hts, hown, hlocks, hA, hK⟩ := id C
  intro y0 I J B D ls H locs hok hl hw
  unfold wc_LassoFinderModel_meets_71 at hok
  have hbo := hok.1
  have hok := hok.2
  exact (z_iret (u := (I, J, B, D)) hx hb hr hlocks (z_nar hbo) hw (List.range 58) wM_all wM_nd hok (Nat.le_of_ble_eq_true rfl) (Nat.le_of_ble_eq_true rfl) zd_LassoFinderModel_meets_71)
set_option maxHeartbeats 8000000 in
set_option maxRecDepth 100000 in
theorem wJ_LassoFinderModel_meets_70 {p : Program} {l : Launch} {e : Env} {s : State} {m : MethodId} {below : List Frame} {meth : Method} {c : Code} {A : Nat → Prop} (G : va_G) (K : Nat → ClassId) (ad : Nat → Nat) (a0 : Int32) (a1 : Int32) (Post : Int32 → (Nat → Int32) → (Nat → Int64) → (Nat → Nat → Int32) → (Nat → Nat → Int64) → Prop) (C : zCx p s m ([.ref (ad 0), .int a0, .int a1] : List Value).toArray meth c A G K prog_14_method_31_code (some .boolean) 4 "LassoFinderModel") : ∀  (I : Nat → Int32) (J : Nat → Int64) (B : Nat → Nat → Int32) (D : Nat → Nat → Int64) (ls : Array Slot) (H : Heap) (locs : List Loc), wc_LassoFinderModel_meets_70 a0 a1 Post  I J B D → lv_has ls 4 [] → zW G A s.heap (wM ad K I J B D) H locs → W p l e { frames := 1, cells := 0, slots := 0, locals := 21 } s m ([.ref (ad 0), .int a0, .int a1] : List Value).toArray below meth c H locs 0 0 (MQ below (va_Qi (fun (r : Int32) (u : zS) => Post r u.1 u.2.1 u.2.2.1 u.2.2.2) (fun u t => zPost G K A (wM ad K u.1 u.2.1 u.2.2.1 u.2.2.2) t) A) ([.ref (ad 0), .int a0, .int a1] : List Value).toArray s 0 0 A) (F0 m 70 ls []) := by
  obtain ⟨hx, hb, hr, hml, hts, hown, hlocks, hA, hK⟩ := id C
  intro  I J B D ls H locs hok hl hw
  unfold wc_LassoFinderModel_meets_70 at hok
  refine lv_iconst (v := 0) hx hb zd_LassoFinderModel_meets_70 (by decide) ?_
  exact wJ_LassoFinderModel_meets_71 G K ad a0 a1 Post C 0 I J B D ls H locs hok (lv_sub hl [] rfl) hw
set_option maxHeartbeats 8000000 in
set_option maxRecDepth 100000 in
theorem w_LassoFinderModel_meets (l : Launch) (G : va_G) (K : Nat → ClassId) (ad : Nat → Nat) (I : Nat → Int32) (J : Nat → Int64) (B : Nat → Nat → Int32) (D : Nat → Nat → Int64) (a0 : Int32) (a1 : Int32) (Post : Int32 → (Nat → Int32) → (Nat → Int64) → (Nat → Nat → Int32) → (Nat → Nat → Int64) → Prop) (sz : Nat) (hok : wp_LassoFinderModel_meets I J B D a0 a1 Post) : Met l zy_LassoFinderModel_meets (Cond.code zy_LassoFinderModel_meets prog_14_method_31_code 4 (some .boolean) :: zTB) { frames := 1, cells := 0, slots := 0, locals := 21 } (va_Pc [.ref (ad 0), .int a0, .int a1] (zPre G K (wM ad K I J B D) sz)) (va_Qi (fun (r : Int32) (u : zS) => Post r u.1 u.2.1 u.2.2.1 u.2.2.2) (fun u t => zPost G K (va_A (wM ad K I J B D) sz) (wM ad K u.1 u.2.1 u.2.2.1 u.2.2.2) t) (va_A (wM ad K I J B D) sz)) 0 0 (va_A (wM ad K I J B D) sz) := by
  refine zMet (y := zy_LassoFinderModel_meets) (av := [.ref (ad 0), .int a0, .int a1]) (maxL := 4) (cc := prog_14_method_31_code) (ret := (some .boolean)) (W0 := (wM ad K I J B D)) (sz := sz) (G := G) (K := K) (wt := zTB) (mc := 0) (ms := 0) (Qf := fun A => va_Qi (fun (r : Int32) (u : zS) => Post r u.1 u.2.1 u.2.2.1 u.2.2.2) (fun u t => zPost G K A (wM ad K u.1 u.2.1 u.2.2.1 u.2.2.2) t) A) (by decide) (Nat.le_of_ble_eq_true rfl) ?_
  intro p e s m below meth c ls A hx hb hr hml hts hown hlocks hin hA hK H locs hw hsz hl
  clear hsz
  have hown : s.vm.findClass "LassoFinderModel" = some m.cls := hown
  have C : zCx p s m ([.ref (ad 0), .int a0, .int a1] : List Value).toArray meth c A G K prog_14_method_31_code (some .boolean) 4 "LassoFinderModel" := ⟨hx, hb, hr, hml, hts, hown, hlocks, hA, hK⟩
  have hl : lv_has ls 4 [(0, .ref (ad 0)), (1, .int a0), (2, .int a1)] := hl
  have hw : zW G A s.heap (wM ad K I J B D) H locs := hw
  unfold wp_LassoFinderModel_meets at hok
  refine lv_aload_n hx hb zd_LassoFinderModel_meets_0 rfl (lv_at hl 0 rfl) ?_
  refine z_get (v := .ref (ad 19)) hx hb hts hown hK hw zZ12 0 wM_g0 28 (by decide) zm_253 rfl zd_LassoFinderModel_meets_1 ?_
  refine lv_iload_n hx hb zd_LassoFinderModel_meets_4 rfl (lv_at hl 2 rfl) ?_
  refine va_iald (f := (B 18)) hx hb hK hw.1 19 0 wM_a19 rfl hok.1 zd_LassoFinderModel_meets_5 ?_
  have hok := hok.2
  refine lv_topi (fun z1 ez1 => ?_)
  have hok := hok z1 ez1
  refine lv_istore_n hx hb zd_LassoFinderModel_meets_6 rfl hl (by decide) rfl (fun ls hl => ?_)
  have hl : lv_has ls 4 [(3, .int z1), (0, .ref (ad 0)), (1, .int a0), (2, .int a1)] := hl
  refine lv_aload_n hx hb zd_LassoFinderModel_meets_7 rfl (lv_at hl 1 rfl) ?_
  refine z_get (v := .ref (ad 6)) hx hb hts hown hK hw zZ12 0 wM_g0 14 (by decide) zm_240 rfl zd_LassoFinderModel_meets_8 ?_
  refine lv_iload_n hx hb zd_LassoFinderModel_meets_11 rfl (lv_at hl 0 rfl) ?_
  refine va_iald (f := (B 5)) hx hb hK hw.1 6 0 wM_a6 rfl hok.1 zd_LassoFinderModel_meets_12 ?_
  have hok := hok.2
  refine lv_topi (fun z2 ez2 => ?_)
  have hok := hok z2 ez2
  refine lv_iconst (v := 3) hx hb zd_LassoFinderModel_meets_13 (by decide) ?_
  refine lv_icmp_ne (tgt := 70) hx hb zd_LassoFinderModel_meets_14 (by decide) (fun hc3 => ?_) (fun hc3 => ?_)
  · have hok := hok.1 hc3
    exact wJ_LassoFinderModel_meets_70 G K ad a0 a1 Post C I J B D ls H locs hok (lv_sub hl [] rfl) hw
  · have hok := hok.2 hc3
    refine lv_aload_n hx hb zd_LassoFinderModel_meets_17 rfl (lv_at hl 1 rfl) ?_
    refine z_get (v := .ref (ad 13)) hx hb hts hown hK hw zZ12 0 wM_g0 21 (by decide) zm_247 rfl zd_LassoFinderModel_meets_18 ?_
    refine lv_iload_n hx hb zd_LassoFinderModel_meets_21 rfl (lv_at hl 0 rfl) ?_
    refine va_iald (f := (B 12)) hx hb hK hw.1 13 0 wM_a13 rfl hok.1 zd_LassoFinderModel_meets_22 ?_
    have hok := hok.2
    refine lv_topi (fun z4 ez4 => ?_)
    have hok := hok z4 ez4
    refine lv_aload_n hx hb zd_LassoFinderModel_meets_23 rfl (lv_at hl 1 rfl) ?_
    refine z_get (v := .ref (ad 13)) hx hb hts hown hK hw zZ12 0 wM_g0 21 (by decide) zm_247 rfl zd_LassoFinderModel_meets_24 ?_
    refine lv_iload_n hx hb zd_LassoFinderModel_meets_27 rfl (lv_at hl 2 rfl) ?_
    refine va_iald (f := (B 12)) hx hb hK hw.1 13 0 wM_a13 rfl hok.1 zd_LassoFinderModel_meets_28 ?_
    have hok := hok.2
    refine lv_topi (fun z5 ez5 => ?_)
    have hok := hok z5 ez5
    refine lv_icmp_ne (tgt := 70) hx hb zd_LassoFinderModel_meets_29 (by decide) (fun hc6 => ?_) (fun hc6 => ?_)
    · have hok := hok.1 hc6
      exact wJ_LassoFinderModel_meets_70 G K ad a0 a1 Post C I J B D ls H locs hok (lv_sub hl [] rfl) hw
    · have hok := hok.2 hc6
      refine lv_aload_n hx hb zd_LassoFinderModel_meets_32 rfl (lv_at hl 1 rfl) ?_
      refine z_get (v := .ref (ad 7)) hx hb hts hown hK hw zZ12 0 wM_g0 15 (by decide) zm_241 rfl zd_LassoFinderModel_meets_33 ?_
      refine lv_iload_n hx hb zd_LassoFinderModel_meets_36 rfl (lv_at hl 0 rfl) ?_
      refine va_iald (f := (B 6)) hx hb hK hw.1 7 0 wM_a7 rfl hok.1 zd_LassoFinderModel_meets_37 ?_
      have hok := hok.2
      refine lv_topi (fun z7 ez7 => ?_)
      have hok := hok z7 ez7
      refine lv_aload_n hx hb zd_LassoFinderModel_meets_38 rfl (lv_at hl 1 rfl) ?_
      refine z_get (v := .ref (ad 7)) hx hb hts hown hK hw zZ12 0 wM_g0 15 (by decide) zm_241 rfl zd_LassoFinderModel_meets_39 ?_
      refine lv_iload_n hx hb zd_LassoFinderModel_meets_42 rfl (lv_at hl 2 rfl) ?_
      refine va_iald (f := (B 6)) hx hb hK hw.1 7 0 wM_a7 rfl hok.1 zd_LassoFinderModel_meets_43 ?_
      have hok := hok.2
      refine lv_topi (fun z8 ez8 => ?_)
      have hok := hok z8 ez8
      refine lv_icmp_eq (tgt := 70) hx hb zd_LassoFinderModel_meets_44 (by decide) (fun hc9 => ?_) (fun hc9 => ?_)
      · have hok := hok.1 hc9
        exact wJ_LassoFinderModel_meets_70 G K ad a0 a1 Post C I J B D ls H locs hok (lv_sub hl [] rfl) hw
      · have hok := hok.2 hc9
        refine lv_aload_n hx hb zd_LassoFinderModel_meets_47 rfl (lv_at hl 1 rfl) ?_
        refine lv_aload_n hx hb zd_LassoFinderModel_meets_48 rfl (lv_at hl 1 rfl) ?_
        refine z_get (v := .ref (ad 7)) hx hb hts hown hK hw zZ12 0 wM_g0 15 (by decide) zm_241 rfl zd_LassoFinderModel_meets_49 ?_
        refine lv_iload_n hx hb zd_LassoFinderModel_meets_52 rfl (lv_at hl 0 rfl) ?_
        refine va_iald (f := (B 6)) hx hb hK hw.1 7 0 wM_a7 rfl hok.1 zd_LassoFinderModel_meets_53 ?_
        have hok := hok.2
        refine lv_topi (fun z10 ez10 => ?_)
        have hok := hok z10 ez10
        refine z_calll (w1 := fun (u : zS) => wM ad K u.1 u.2.1 u.2.2.1 u.2.2.2) (wr := []) (z_runV (q0 := 0) (wc := (wM ad K I J B D)) (As := [.int z10]) (rest := []) ⟨hx, hb, hml, hown, hts⟩ (w_LassoFinderModel_maskOf l G K ad I J B D z10 _ H.size hok) zf_LassoFinderModel_maskOf zm_326 ⟨Nat.le_of_ble_eq_true rfl, Nat.le_of_ble_eq_true rfl⟩ hK hw (List.range 58) wM_all wM_nd wM_g0 rfl rfl hl.1 rfl (Nat.le_of_ble_eq_true rfl) zd_LassoFinderModel_meets_54 ⟨Nat.le_of_ble_eq_true rfl, Nat.le_of_ble_eq_true rfl⟩) hw hA (List.range 58) [] wM_all rfl (by decide) (fun i hi => by cases hi) (fun r11 u H locs hok hw => ?_)
        obtain ⟨I11, J11, B11, D11⟩ := u
        dsimp only at hok
        have hw : zW G A s.heap (wM ad K I11 J11 B11 D11) H locs := hw
        refine lv_iload_n hx hb zd_LassoFinderModel_meets_57 rfl (lv_at hl 3 rfl) ?_
        refine lv_lshr hx hb zd_LassoFinderModel_meets_58 rfl ?_
        refine lv_topl (fun z12 ez12 => ?_)
        have hok := hok z12 ez12
        refine lv_lconst (v := 1) hx hb zd_LassoFinderModel_meets_59 (by decide) ?_
        refine lv_land hx hb zd_LassoFinderModel_meets_60 ?_
        refine lv_topl (fun z13 ez13 => ?_)
        have hok := hok z13 ez13
        refine lv_lconst (v := 1) hx hb zd_LassoFinderModel_meets_61 (by decide) ?_
        refine W.lcmp hx hb zd_LassoFinderModel_meets_62 ?_
        refine lv_topi (fun z14 ez14 => ?_)
        have hok := hok z14 ez14
        refine lv_if_ne (tgt := 70) hx hb zd_LassoFinderModel_meets_63 (by decide) (fun hc15 => ?_) (fun hc15 => ?_)
        · have hok := hok.1 hc15
          exact wJ_LassoFinderModel_meets_70 G K ad a0 a1 Post C I11 J11 B11 D11 ls H locs hok (lv_sub hl [] rfl) hw
        · have hok := hok.2 hc15
          refine lv_iconst (v := 1) hx hb zd_LassoFinderModel_meets_66 (by decide) ?_
          refine lv_goto (tgt := 71) hx hb zd_LassoFinderModel_meets_67 (by decide) ?_
          exact wJ_LassoFinderModel_meets_71 G K ad a0 a1 Post C 1 I11 J11 B11 D11 ls H locs hok (lv_sub hl [] rfl) hw
def wc_LassoFinderModel_can_166 (a0 : Int32) (K140 : Int32 → Int32 → Int32 → (Nat → Int32) → (Nat → Int64) → (Nat → Nat → Int32) → (Nat → Nat → Int64) → Prop) (Post : Int32 → (Nat → Int32) → (Nat → Int64) → (Nat → Nat → Int32) → (Nat → Nat → Int64) → Prop) (x1 : Int32) (x3 : Int32) (y0 : Int32) (I : Nat → Int32) (J : Nat → Int64) (B : Nat → Nat → Int32) (D : Nat → Nat → Int64) : Prop :=
  ∀ z1 : Int32, z1 = (x3 + 1) → K140 x1 y0 z1 I J B D
def wc_LassoFinderModel_can_161 (a0 : Int32) (K140 : Int32 → Int32 → Int32 → (Nat → Int32) → (Nat → Int64) → (Nat → Nat → Int32) → (Nat → Nat → Int64) → Prop) (Post : Int32 → (Nat → Int32) → (Nat → Int64) → (Nat → Nat → Int32) → (Nat → Nat → Int64) → Prop) (x1 : Int32) (x3 : Int32) (I : Nat → Int32) (J : Nat → Int64) (B : Nat → Nat → Int32) (D : Nat → Nat → Int64) : Prop :=
  wc_LassoFinderModel_can_166 a0 K140 Post x1 x3 1 I J B D
def wb_LassoFinderModel_can_140 (a0 : Int32) (K140 : Int32 → Int32 → Int32 → (Nat → Int32) → (Nat → Int64) → (Nat → Nat → Int32) → (Nat → Nat → Int64) → Prop) (Post : Int32 → (Nat → Int32) → (Nat → Int64) → (Nat → Nat → Int32) → (Nat → Nat → Int64) → Prop) (x1 : Int32) (x2 : Int32) (x3 : Int32) (I : Nat → Int32) (J : Nat → Int64) (B : Nat → Nat → Int32) (D : Nat → Nat → Int64) : Prop :=
  (((I 9) ≤ x3 → (x2 = 0 ∨ x2 = 1) ∧ Post x2 I J B D) ∧ (¬ (I 9) ≤ x3 → ((¬ x2 = 0 → wc_LassoFinderModel_can_161 a0 K140 Post x1 x3 I J B D) ∧ (x2 = 0 → wp_LassoFinderModel_meets I J B D x1 x3 (fun r4 I4 J4 B4 D4 => ((r4 = 0 → wc_LassoFinderModel_can_166 a0 K140 Post x1 x3 0 I4 J4 B4 D4) ∧ (¬ r4 = 0 → wc_LassoFinderModel_can_161 a0 K140 Post x1 x3 I4 J4 B4 D4)))))))
def wl_LassoFinderModel_can_140 (a0 : Int32) (Post : Int32 → (Nat → Int32) → (Nat → Int64) → (Nat → Nat → Int32) → (Nat → Nat → Int64) → Prop) (n : Nat) : Int32 → Int32 → Int32 → (Nat → Int32) → (Nat → Int64) → (Nat → Nat → Int32) → (Nat → Nat → Int64) → Prop := Nat.rec (fun _ _ _ _ _ _ _ => False) (fun _ r => wb_LassoFinderModel_can_140 a0 r Post) n
def wc_LassoFinderModel_can_135 (a0 : Int32) (Post : Int32 → (Nat → Int32) → (Nat → Int64) → (Nat → Nat → Int32) → (Nat → Nat → Int64) → Prop) (y0 : Int32) (I : Nat → Int32) (J : Nat → Int64) (B : Nat → Nat → Int32) (D : Nat → Nat → Int64) : Prop :=
  (y0 = 0 ∨ y0 = 1) ∧ Post y0 I J B D
def wc_LassoFinderModel_can_90 (a0 : Int32) (Post : Int32 → (Nat → Int32) → (Nat → Int64) → (Nat → Nat → Int32) → (Nat → Nat → Int64) → Prop) (y0 : Int32) (I : Nat → Int32) (J : Nat → Int64) (B : Nat → Nat → Int32) (D : Nat → Nat → Int64) : Prop :=
  (y0 = 0 ∨ y0 = 1) ∧ Post y0 I J B D
def wc_LassoFinderModel_can_64 (a0 : Int32) (Post : Int32 → (Nat → Int32) → (Nat → Int64) → (Nat → Nat → Int32) → (Nat → Nat → Int64) → Prop) (y0 : Int32) (I : Nat → Int32) (J : Nat → Int64) (B : Nat → Nat → Int32) (D : Nat → Nat → Int64) : Prop :=
  (y0 = 0 ∨ y0 = 1) ∧ Post y0 I J B D
def wc_LassoFinderModel_can_34 (a0 : Int32) (Post : Int32 → (Nat → Int32) → (Nat → Int64) → (Nat → Nat → Int32) → (Nat → Nat → Int64) → Prop) (y0 : Int32) (I : Nat → Int32) (J : Nat → Int64) (B : Nat → Nat → Int32) (D : Nat → Nat → Int64) : Prop :=
  (y0 = 0 ∨ y0 = 1) ∧ Post y0 I J B D
def wp_LassoFinderModel_can (I : Nat → Int32) (J : Nat → Int64) (B : Nat → Nat → Int32) (D : Nat → Nat → Int64) (a0 : Int32) (Post : Int32 → (Nat → Int32) → (Nat → Int64) → (Nat → Nat → Int32) → (Nat → Nat → Int64) → Prop) : Prop :=
  vp_in a0 140 ∧ ∀ z6 : Int32, z6 = ((B 5) a0.toNatClampNeg) → ((¬ z6 = 1 → vp_in a0 140 ∧ ∀ z8 : Int32, z8 = ((B 5) a0.toNatClampNeg) → ((¬ z8 = 3 → vp_in a0 140 ∧ ∀ z10 : Int32, z10 = ((B 5) a0.toNatClampNeg) → ((z10 = 2 → vp_in a0 140 ∧ ∀ z12 : Int32, z12 = ((B 12) a0.toNatClampNeg) → vp_in z12 2 ∧ ∀ z13 : Int32, z13 = ((B 4) z12.toNatClampNeg) → ((z13 ≤ 0 → ∃ n : Nat, wl_LassoFinderModel_can_140 a0 Post n a0 0 0 I J B D) ∧ (¬ z13 ≤ 0 → vp_in a0 140 ∧ ∀ z15 : Int32, z15 = ((B 12) a0.toNatClampNeg) → vp_in z15 2 ∧ ∀ z16 : Int32, z16 = ((B 37) z15.toNatClampNeg) → vp_in a0 140 ∧ ∀ z17 : Int32, z17 = ((B 12) a0.toNatClampNeg) → vp_in z17 2 ∧ ∀ z18 : Int32, z18 = ((B 4) z17.toNatClampNeg) → ((z18 ≤ z16 → wc_LassoFinderModel_can_135 a0 Post 0 I J B D) ∧ (¬ z18 ≤ z16 → wc_LassoFinderModel_can_135 a0 Post 1 I J B D))))) ∧ (¬ z10 = 2 → vp_in a0 140 ∧ ∀ z20 : Int32, z20 = ((B 5) a0.toNatClampNeg) → ((z20 = 5 → wc_LassoFinderModel_can_90 a0 Post 0 I J B D) ∧ (¬ z20 = 5 → wc_LassoFinderModel_can_90 a0 Post 1 I J B D))))) ∧ (z8 = 3 → vp_in a0 140 ∧ ∀ z22 : Int32, z22 = ((B 12) a0.toNatClampNeg) → vp_in z22 2 ∧ ∀ z23 : Int32, z23 = ((B 37) z22.toNatClampNeg) → ((z23 ≤ 0 → wc_LassoFinderModel_can_64 a0 Post 0 I J B D) ∧ (¬ z23 ≤ 0 → wc_LassoFinderModel_can_64 a0 Post 1 I J B D))))) ∧ (z6 = 1 → vp_in a0 140 ∧ ∀ z25 : Int32, z25 = ((B 14) a0.toNatClampNeg) → vp_in a0 140 ∧ ∀ z26 : Int32, z26 = ((B 15) a0.toNatClampNeg) → wp_LassoFinderModel_worth I J B D z25 z26 (fun r27 I27 J27 B27 D27 => ((r27 = 0 → wc_LassoFinderModel_can_34 a0 Post 0 I27 J27 B27 D27) ∧ (¬ r27 = 0 → wc_LassoFinderModel_can_34 a0 Post 1 I27 J27 B27 D27)))))
set_option maxHeartbeats 8000000 in
set_option maxRecDepth 100000 in
theorem wJ_LassoFinderModel_can_166 {p : Program} {l : Launch} {e : Env} {s : State} {m : MethodId} {below : List Frame} {meth : Method} {c : Code} {A : Nat → Prop} (G : va_G) (K : Nat → ClassId) (ad : Nat → Nat) (a0 : Int32) (Post : Int32 → (Nat → Int32) → (Nat → Int64) → (Nat → Nat → Int32) → (Nat → Nat → Int64) → Prop) (C : zCx p s m ([.ref (ad 0), .int a0] : List Value).toArray meth c A G K prog_14_method_32_code (some .boolean) 4 "LassoFinderModel") (K140 : Int32 → Int32 → Int32 → (Nat → Int32) → (Nat → Int64) → (Nat → Nat → Int32) → (Nat → Nat → Int64) → Prop) (kh140 : ∀ (x1 : Int32) (x2 : Int32) (x3 : Int32) (I : Nat → Int32) (J : Nat → Int64) (B : Nat → Nat → Int32) (D : Nat → Nat → Int64) (ls : Array Slot) (H : Heap) (locs : List Loc), K140 x1 x2 x3 I J B D → lv_has ls 4 [(0, .ref (ad 0)), (1, .int x1), (2, .int x2), (3, .int x3)] → zW G A s.heap (wM ad K I J B D) H locs → W p l e { frames := 2, cells := 0, slots := 0, locals := 44 } s m ([.ref (ad 0), .int a0] : List Value).toArray below meth c H locs 0 0 (MQ below (va_Qi (fun (r : Int32) (u : zS) => Post r u.1 u.2.1 u.2.2.1 u.2.2.2) (fun u t => zPost G K A (wM ad K u.1 u.2.1 u.2.2.1 u.2.2.2) t) A) ([.ref (ad 0), .int a0] : List Value).toArray s 0 0 A) (F0 m 140 ls [])) : ∀ (x1 : Int32) (x3 : Int32) (y0 : Int32) (I : Nat → Int32) (J : Nat → Int64) (B : Nat → Nat → Int32) (D : Nat → Nat → Int64) (ls : Array Slot) (H : Heap) (locs : List Loc), wc_LassoFinderModel_can_166 a0 K140 Post x1 x3 y0 I J B D → lv_has ls 4 [(0, .ref (ad 0)), (1, .int x1), (3, .int x3)] → zW G A s.heap (wM ad K I J B D) H locs → W p l e { frames := 2, cells := 0, slots := 0, locals := 44 } s m ([.ref (ad 0), .int a0] : List Value).toArray below meth c H locs 0 0 (MQ below (va_Qi (fun (r : Int32) (u : zS) => Post r u.1 u.2.1 u.2.2.1 u.2.2.2) (fun u t => zPost G K A (wM ad K u.1 u.2.1 u.2.2.1 u.2.2.2) t) A) ([.ref (ad 0), .int a0] : List Value).toArray s 0 0 A) (F0 m 166 ls [.int y0]) := by
  obtain ⟨hx, hb, hr, hml, hts, hown, hlocks, hA, hK⟩ := id C
  intro x1 x3 y0 I J B D ls H locs hok hl hw
  unfold wc_LassoFinderModel_can_166 at hok
  refine lv_istore_n hx hb zd_LassoFinderModel_can_166 rfl hl (by decide) rfl (fun ls hl => ?_)
  have hl : lv_has ls 4 [(2, .int y0), (0, .ref (ad 0)), (1, .int x1), (3, .int x3)] := hl
  obtain ⟨z1, ez1⟩ : ∃ z : Int32, z = (x3 + 1) := ⟨_, rfl⟩
  have hok := hok z1 ez1
  refine lv_iinc (v := z1) hx hb zd_LassoFinderModel_can_167 hl (k := 3) rfl ez1.symm (by decide) rfl (fun ls hl => ?_)
  have hl : lv_has ls 4 [(3, .int z1), (2, .int y0), (0, .ref (ad 0)), (1, .int x1)] := hl
  refine lv_goto (tgt := 140) hx hb zd_LassoFinderModel_can_170 (by decide) ?_
  exact kh140 x1 y0 z1 I J B D ls H locs hok (lv_sub hl [2, 3, 1, 0] rfl) hw
set_option maxHeartbeats 8000000 in
set_option maxRecDepth 100000 in
theorem wJ_LassoFinderModel_can_161 {p : Program} {l : Launch} {e : Env} {s : State} {m : MethodId} {below : List Frame} {meth : Method} {c : Code} {A : Nat → Prop} (G : va_G) (K : Nat → ClassId) (ad : Nat → Nat) (a0 : Int32) (Post : Int32 → (Nat → Int32) → (Nat → Int64) → (Nat → Nat → Int32) → (Nat → Nat → Int64) → Prop) (C : zCx p s m ([.ref (ad 0), .int a0] : List Value).toArray meth c A G K prog_14_method_32_code (some .boolean) 4 "LassoFinderModel") (K140 : Int32 → Int32 → Int32 → (Nat → Int32) → (Nat → Int64) → (Nat → Nat → Int32) → (Nat → Nat → Int64) → Prop) (kh140 : ∀ (x1 : Int32) (x2 : Int32) (x3 : Int32) (I : Nat → Int32) (J : Nat → Int64) (B : Nat → Nat → Int32) (D : Nat → Nat → Int64) (ls : Array Slot) (H : Heap) (locs : List Loc), K140 x1 x2 x3 I J B D → lv_has ls 4 [(0, .ref (ad 0)), (1, .int x1), (2, .int x2), (3, .int x3)] → zW G A s.heap (wM ad K I J B D) H locs → W p l e { frames := 2, cells := 0, slots := 0, locals := 44 } s m ([.ref (ad 0), .int a0] : List Value).toArray below meth c H locs 0 0 (MQ below (va_Qi (fun (r : Int32) (u : zS) => Post r u.1 u.2.1 u.2.2.1 u.2.2.2) (fun u t => zPost G K A (wM ad K u.1 u.2.1 u.2.2.1 u.2.2.2) t) A) ([.ref (ad 0), .int a0] : List Value).toArray s 0 0 A) (F0 m 140 ls [])) : ∀ (x1 : Int32) (x3 : Int32) (I : Nat → Int32) (J : Nat → Int64) (B : Nat → Nat → Int32) (D : Nat → Nat → Int64) (ls : Array Slot) (H : Heap) (locs : List Loc), wc_LassoFinderModel_can_161 a0 K140 Post x1 x3 I J B D → lv_has ls 4 [(0, .ref (ad 0)), (1, .int x1), (3, .int x3)] → zW G A s.heap (wM ad K I J B D) H locs → W p l e { frames := 2, cells := 0, slots := 0, locals := 44 } s m ([.ref (ad 0), .int a0] : List Value).toArray below meth c H locs 0 0 (MQ below (va_Qi (fun (r : Int32) (u : zS) => Post r u.1 u.2.1 u.2.2.1 u.2.2.2) (fun u t => zPost G K A (wM ad K u.1 u.2.1 u.2.2.1 u.2.2.2) t) A) ([.ref (ad 0), .int a0] : List Value).toArray s 0 0 A) (F0 m 161 ls []) := by
  obtain ⟨hx, hb, hr, hml, hts, hown, hlocks, hA, hK⟩ := id C
  intro x1 x3 I J B D ls H locs hok hl hw
  unfold wc_LassoFinderModel_can_161 at hok
  refine lv_iconst (v := 1) hx hb zd_LassoFinderModel_can_161 (by decide) ?_
  refine lv_goto (tgt := 166) hx hb zd_LassoFinderModel_can_162 (by decide) ?_
  exact wJ_LassoFinderModel_can_166 G K ad a0 Post C K140 kh140 x1 x3 1 I J B D ls H locs hok (lv_sub hl [0, 1, 2] rfl) hw
set_option maxHeartbeats 8000000 in
set_option maxRecDepth 100000 in
theorem wB_LassoFinderModel_can_140 {p : Program} {l : Launch} {e : Env} {s : State} {m : MethodId} {below : List Frame} {meth : Method} {c : Code} {A : Nat → Prop} (G : va_G) (K : Nat → ClassId) (ad : Nat → Nat) (a0 : Int32) (Post : Int32 → (Nat → Int32) → (Nat → Int64) → (Nat → Nat → Int32) → (Nat → Nat → Int64) → Prop) (C : zCx p s m ([.ref (ad 0), .int a0] : List Value).toArray meth c A G K prog_14_method_32_code (some .boolean) 4 "LassoFinderModel") (K140 : Int32 → Int32 → Int32 → (Nat → Int32) → (Nat → Int64) → (Nat → Nat → Int32) → (Nat → Nat → Int64) → Prop) (kh140 : ∀ (x1 : Int32) (x2 : Int32) (x3 : Int32) (I : Nat → Int32) (J : Nat → Int64) (B : Nat → Nat → Int32) (D : Nat → Nat → Int64) (ls : Array Slot) (H : Heap) (locs : List Loc), K140 x1 x2 x3 I J B D → lv_has ls 4 [(0, .ref (ad 0)), (1, .int x1), (2, .int x2), (3, .int x3)] → zW G A s.heap (wM ad K I J B D) H locs → W p l e { frames := 2, cells := 0, slots := 0, locals := 44 } s m ([.ref (ad 0), .int a0] : List Value).toArray below meth c H locs 0 0 (MQ below (va_Qi (fun (r : Int32) (u : zS) => Post r u.1 u.2.1 u.2.2.1 u.2.2.2) (fun u t => zPost G K A (wM ad K u.1 u.2.1 u.2.2.1 u.2.2.2) t) A) ([.ref (ad 0), .int a0] : List Value).toArray s 0 0 A) (F0 m 140 ls [])) : ∀ (x1 : Int32) (x2 : Int32) (x3 : Int32) (I : Nat → Int32) (J : Nat → Int64) (B : Nat → Nat → Int32) (D : Nat → Nat → Int64) (ls : Array Slot) (H : Heap) (locs : List Loc), wb_LassoFinderModel_can_140 a0 K140 Post x1 x2 x3 I J B D → lv_has ls 4 [(0, .ref (ad 0)), (1, .int x1), (2, .int x2), (3, .int x3)] → zW G A s.heap (wM ad K I J B D) H locs → W p l e { frames := 2, cells := 0, slots := 0, locals := 44 } s m ([.ref (ad 0), .int a0] : List Value).toArray below meth c H locs 0 0 (MQ below (va_Qi (fun (r : Int32) (u : zS) => Post r u.1 u.2.1 u.2.2.1 u.2.2.2) (fun u t => zPost G K A (wM ad K u.1 u.2.1 u.2.2.1 u.2.2.2) t) A) ([.ref (ad 0), .int a0] : List Value).toArray s 0 0 A) (F0 m 140 ls []) := by
  obtain ⟨hx, hb, hr, hml, hts, hown, hlocks, hA, hK⟩ := id C
  intro x1 x2 x3 I J B D ls H locs hok hl hw
  unfold wb_LassoFinderModel_can_140 at hok
  refine lv_iload_n hx hb zd_LassoFinderModel_can_140 rfl (lv_at hl 3 rfl) ?_
  refine lv_aload_n hx hb zd_LassoFinderModel_can_141 rfl (lv_at hl 0 rfl) ?_
  refine z_get (v := .int (I 9)) hx hb hts hown hK hw zZ12 0 wM_g0 27 (by decide) zm_303 rfl zd_LassoFinderModel_can_142 ?_
  refine lv_icmp_ge (tgt := 173) hx hb zd_LassoFinderModel_can_145 (by decide) (fun hc2 => ?_) (fun hc2 => ?_)
  · have hok := hok.1 hc2
    refine lv_iload_n hx hb zd_LassoFinderModel_can_173 rfl (lv_at hl 2 rfl) ?_
    have hbo := hok.1
    have hok := hok.2
    exact (z_iret (u := (I, J, B, D)) hx hb hr hlocks (z_nar hbo) hw (List.range 58) wM_all wM_nd hok (Nat.le_of_ble_eq_true rfl) (Nat.le_of_ble_eq_true rfl) zd_LassoFinderModel_can_174)
  · have hok := hok.2 hc2
    refine lv_iload_n hx hb zd_LassoFinderModel_can_148 rfl (lv_at hl 2 rfl) ?_
    refine lv_if_ne (tgt := 161) hx hb zd_LassoFinderModel_can_149 (by decide) (fun hc3 => ?_) (fun hc3 => ?_)
    · have hok := hok.1 hc3
      exact wJ_LassoFinderModel_can_161 G K ad a0 Post C K140 kh140 x1 x3 I J B D ls H locs hok (lv_sub hl [0, 1, 3] rfl) hw
    · have hok := hok.2 hc3
      refine lv_aload_n hx hb zd_LassoFinderModel_can_152 rfl (lv_at hl 0 rfl) ?_
      refine lv_iload_n hx hb zd_LassoFinderModel_can_153 rfl (lv_at hl 1 rfl) ?_
      refine lv_iload_n hx hb zd_LassoFinderModel_can_154 rfl (lv_at hl 3 rfl) ?_
      refine z_calli (w1 := fun (u : zS) => wM ad K u.1 u.2.1 u.2.2.1 u.2.2.2) (wr := []) (z_runV (q0 := 0) (wc := (wM ad K I J B D)) (As := [.int x1, .int x3]) (rest := []) ⟨hx, hb, hml, hown, hts⟩ (w_LassoFinderModel_meets l G K ad I J B D x1 x3 _ H.size hok) zf_LassoFinderModel_meets zm_318 ⟨Nat.le_of_ble_eq_true rfl, Nat.le_of_ble_eq_true rfl⟩ hK hw (List.range 58) wM_all wM_nd wM_g0 rfl rfl hl.1 rfl (Nat.le_of_ble_eq_true rfl) zd_LassoFinderModel_can_155 ⟨Nat.le_of_ble_eq_true rfl, Nat.le_of_ble_eq_true rfl⟩) hw hA (List.range 58) [] wM_all rfl (by decide) (fun i hi => by cases hi) (fun r4 u H locs hok hw => ?_)
      obtain ⟨I4, J4, B4, D4⟩ := u
      dsimp only at hok
      have hw : zW G A s.heap (wM ad K I4 J4 B4 D4) H locs := hw
      refine lv_if_eq (tgt := 165) hx hb zd_LassoFinderModel_can_158 (by decide) (fun hc5 => ?_) (fun hc5 => ?_)
      · have hok := hok.1 hc5
        refine lv_iconst (v := 0) hx hb zd_LassoFinderModel_can_165 (by decide) ?_
        exact wJ_LassoFinderModel_can_166 G K ad a0 Post C K140 kh140 x1 x3 0 I4 J4 B4 D4 ls H locs hok (lv_sub hl [0, 1, 3] rfl) hw
      · have hok := hok.2 hc5
        exact wJ_LassoFinderModel_can_161 G K ad a0 Post C K140 kh140 x1 x3 I4 J4 B4 D4 ls H locs hok (lv_sub hl [0, 1, 3] rfl) hw
theorem wL_LassoFinderModel_can_140 {p : Program} {l : Launch} {e : Env} {s : State} {m : MethodId} {below : List Frame} {meth : Method} {c : Code} {A : Nat → Prop} (G : va_G) (K : Nat → ClassId) (ad : Nat → Nat) (a0 : Int32) (Post : Int32 → (Nat → Int32) → (Nat → Int64) → (Nat → Nat → Int32) → (Nat → Nat → Int64) → Prop) (C : zCx p s m ([.ref (ad 0), .int a0] : List Value).toArray meth c A G K prog_14_method_32_code (some .boolean) 4 "LassoFinderModel") : ∀ (n : Nat) (x1 : Int32) (x2 : Int32) (x3 : Int32) (I : Nat → Int32) (J : Nat → Int64) (B : Nat → Nat → Int32) (D : Nat → Nat → Int64) (ls : Array Slot) (H : Heap) (locs : List Loc), wl_LassoFinderModel_can_140 a0 Post n x1 x2 x3 I J B D → lv_has ls 4 [(0, .ref (ad 0)), (1, .int x1), (2, .int x2), (3, .int x3)] → zW G A s.heap (wM ad K I J B D) H locs → W p l e { frames := 2, cells := 0, slots := 0, locals := 44 } s m ([.ref (ad 0), .int a0] : List Value).toArray below meth c H locs 0 0 (MQ below (va_Qi (fun (r : Int32) (u : zS) => Post r u.1 u.2.1 u.2.2.1 u.2.2.2) (fun u t => zPost G K A (wM ad K u.1 u.2.1 u.2.2.1 u.2.2.2) t) A) ([.ref (ad 0), .int a0] : List Value).toArray s 0 0 A) (F0 m 140 ls []) := by
  intro n
  induction n with
  | zero => intro x1 x2 x3 I J B D ls H locs hok; exact hok.elim
  | succ n ih => exact wB_LassoFinderModel_can_140 G K ad a0 Post C (wl_LassoFinderModel_can_140 a0 Post n) ih
set_option maxHeartbeats 8000000 in
set_option maxRecDepth 100000 in
theorem wJ_LassoFinderModel_can_135 {p : Program} {l : Launch} {e : Env} {s : State} {m : MethodId} {below : List Frame} {meth : Method} {c : Code} {A : Nat → Prop} (G : va_G) (K : Nat → ClassId) (ad : Nat → Nat) (a0 : Int32) (Post : Int32 → (Nat → Int32) → (Nat → Int64) → (Nat → Nat → Int32) → (Nat → Nat → Int64) → Prop) (C : zCx p s m ([.ref (ad 0), .int a0] : List Value).toArray meth c A G K prog_14_method_32_code (some .boolean) 4 "LassoFinderModel") : ∀ (y0 : Int32) (I : Nat → Int32) (J : Nat → Int64) (B : Nat → Nat → Int32) (D : Nat → Nat → Int64) (ls : Array Slot) (H : Heap) (locs : List Loc), wc_LassoFinderModel_can_135 a0 Post y0 I J B D → lv_has ls 4 [] → zW G A s.heap (wM ad K I J B D) H locs → W p l e { frames := 2, cells := 0, slots := 0, locals := 44 } s m ([.ref (ad 0), .int a0] : List Value).toArray below meth c H locs 0 0 (MQ below (va_Qi (fun (r : Int32) (u : zS) => Post r u.1 u.2.1 u.2.2.1 u.2.2.2) (fun u t => zPost G K A (wM ad K u.1 u.2.1 u.2.2.1 u.2.2.2) t) A) ([.ref (ad 0), .int a0] : List Value).toArray s 0 0 A) (F0 m 135 ls [.int y0]) := by
  obtain ⟨hx, hb, hr, hml, hts, hown, hlocks, hA, hK⟩ := id C
  intro y0 I J B D ls H locs hok hl hw
  unfold wc_LassoFinderModel_can_135 at hok
  have hbo := hok.1
  have hok := hok.2
  exact (z_iret (u := (I, J, B, D)) hx hb hr hlocks (z_nar hbo) hw (List.range 58) wM_all wM_nd hok (Nat.le_of_ble_eq_true rfl) (Nat.le_of_ble_eq_true rfl) zd_LassoFinderModel_can_135)
set_option maxHeartbeats 8000000 in
set_option maxRecDepth 100000 in
theorem wJ_LassoFinderModel_can_90 {p : Program} {l : Launch} {e : Env} {s : State} {m : MethodId} {below : List Frame} {meth : Method} {c : Code} {A : Nat → Prop} (G : va_G) (K : Nat → ClassId) (ad : Nat → Nat) (a0 : Int32) (Post : Int32 → (Nat → Int32) → (Nat → Int64) → (Nat → Nat → Int32) → (Nat → Nat → Int64) → Prop) (C : zCx p s m ([.ref (ad 0), .int a0] : List Value).toArray meth c A G K prog_14_method_32_code (some .boolean) 4 "LassoFinderModel") : ∀ (y0 : Int32) (I : Nat → Int32) (J : Nat → Int64) (B : Nat → Nat → Int32) (D : Nat → Nat → Int64) (ls : Array Slot) (H : Heap) (locs : List Loc), wc_LassoFinderModel_can_90 a0 Post y0 I J B D → lv_has ls 4 [] → zW G A s.heap (wM ad K I J B D) H locs → W p l e { frames := 2, cells := 0, slots := 0, locals := 44 } s m ([.ref (ad 0), .int a0] : List Value).toArray below meth c H locs 0 0 (MQ below (va_Qi (fun (r : Int32) (u : zS) => Post r u.1 u.2.1 u.2.2.1 u.2.2.2) (fun u t => zPost G K A (wM ad K u.1 u.2.1 u.2.2.1 u.2.2.2) t) A) ([.ref (ad 0), .int a0] : List Value).toArray s 0 0 A) (F0 m 90 ls [.int y0]) := by
  obtain ⟨hx, hb, hr, hml, hts, hown, hlocks, hA, hK⟩ := id C
  intro y0 I J B D ls H locs hok hl hw
  unfold wc_LassoFinderModel_can_90 at hok
  have hbo := hok.1
  have hok := hok.2
  exact (z_iret (u := (I, J, B, D)) hx hb hr hlocks (z_nar hbo) hw (List.range 58) wM_all wM_nd hok (Nat.le_of_ble_eq_true rfl) (Nat.le_of_ble_eq_true rfl) zd_LassoFinderModel_can_90)
set_option maxHeartbeats 8000000 in
set_option maxRecDepth 100000 in
theorem wJ_LassoFinderModel_can_64 {p : Program} {l : Launch} {e : Env} {s : State} {m : MethodId} {below : List Frame} {meth : Method} {c : Code} {A : Nat → Prop} (G : va_G) (K : Nat → ClassId) (ad : Nat → Nat) (a0 : Int32) (Post : Int32 → (Nat → Int32) → (Nat → Int64) → (Nat → Nat → Int32) → (Nat → Nat → Int64) → Prop) (C : zCx p s m ([.ref (ad 0), .int a0] : List Value).toArray meth c A G K prog_14_method_32_code (some .boolean) 4 "LassoFinderModel") : ∀ (y0 : Int32) (I : Nat → Int32) (J : Nat → Int64) (B : Nat → Nat → Int32) (D : Nat → Nat → Int64) (ls : Array Slot) (H : Heap) (locs : List Loc), wc_LassoFinderModel_can_64 a0 Post y0 I J B D → lv_has ls 4 [] → zW G A s.heap (wM ad K I J B D) H locs → W p l e { frames := 2, cells := 0, slots := 0, locals := 44 } s m ([.ref (ad 0), .int a0] : List Value).toArray below meth c H locs 0 0 (MQ below (va_Qi (fun (r : Int32) (u : zS) => Post r u.1 u.2.1 u.2.2.1 u.2.2.2) (fun u t => zPost G K A (wM ad K u.1 u.2.1 u.2.2.1 u.2.2.2) t) A) ([.ref (ad 0), .int a0] : List Value).toArray s 0 0 A) (F0 m 64 ls [.int y0]) := by
  obtain ⟨hx, hb, hr, hml, hts, hown, hlocks, hA, hK⟩ := id C
  intro y0 I J B D ls H locs hok hl hw
  unfold wc_LassoFinderModel_can_64 at hok
  have hbo := hok.1
  have hok := hok.2
  exact (z_iret (u := (I, J, B, D)) hx hb hr hlocks (z_nar hbo) hw (List.range 58) wM_all wM_nd hok (Nat.le_of_ble_eq_true rfl) (Nat.le_of_ble_eq_true rfl) zd_LassoFinderModel_can_64)
set_option maxHeartbeats 8000000 in
set_option maxRecDepth 100000 in
theorem wJ_LassoFinderModel_can_34 {p : Program} {l : Launch} {e : Env} {s : State} {m : MethodId} {below : List Frame} {meth : Method} {c : Code} {A : Nat → Prop} (G : va_G) (K : Nat → ClassId) (ad : Nat → Nat) (a0 : Int32) (Post : Int32 → (Nat → Int32) → (Nat → Int64) → (Nat → Nat → Int32) → (Nat → Nat → Int64) → Prop) (C : zCx p s m ([.ref (ad 0), .int a0] : List Value).toArray meth c A G K prog_14_method_32_code (some .boolean) 4 "LassoFinderModel") : ∀ (y0 : Int32) (I : Nat → Int32) (J : Nat → Int64) (B : Nat → Nat → Int32) (D : Nat → Nat → Int64) (ls : Array Slot) (H : Heap) (locs : List Loc), wc_LassoFinderModel_can_34 a0 Post y0 I J B D → lv_has ls 4 [] → zW G A s.heap (wM ad K I J B D) H locs → W p l e { frames := 2, cells := 0, slots := 0, locals := 44 } s m ([.ref (ad 0), .int a0] : List Value).toArray below meth c H locs 0 0 (MQ below (va_Qi (fun (r : Int32) (u : zS) => Post r u.1 u.2.1 u.2.2.1 u.2.2.2) (fun u t => zPost G K A (wM ad K u.1 u.2.1 u.2.2.1 u.2.2.2) t) A) ([.ref (ad 0), .int a0] : List Value).toArray s 0 0 A) (F0 m 34 ls [.int y0]) := by
  obtain ⟨hx, hb, hr, hml, hts, hown, hlocks, hA, hK⟩ := id C
  intro y0 I J B D ls H locs hok hl hw
  unfold wc_LassoFinderModel_can_34 at hok
  have hbo := hok.1
  have hok := hok.2
  exact (z_iret (u := (I, J, B, D)) hx hb hr hlocks (z_nar hbo) hw (List.range 58) wM_all wM_nd hok (Nat.le_of_ble_eq_true rfl) (Nat.le_of_ble_eq_true rfl) zd_LassoFinderModel_can_34)
set_option maxHeartbeats 8000000 in
set_option maxRecDepth 100000 in
theorem w_LassoFinderModel_can (l : Launch) (G : va_G) (K : Nat → ClassId) (ad : Nat → Nat) (I : Nat → Int32) (J : Nat → Int64) (B : Nat → Nat → Int32) (D : Nat → Nat → Int64) (a0 : Int32) (Post : Int32 → (Nat → Int32) → (Nat → Int64) → (Nat → Nat → Int32) → (Nat → Nat → Int64) → Prop) (sz : Nat) (hok : wp_LassoFinderModel_can I J B D a0 Post) : Met l zy_LassoFinderModel_can (Cond.code zy_LassoFinderModel_can prog_14_method_32_code 4 (some .boolean) :: zTB) { frames := 2, cells := 0, slots := 0, locals := 44 } (va_Pc [.ref (ad 0), .int a0] (zPre G K (wM ad K I J B D) sz)) (va_Qi (fun (r : Int32) (u : zS) => Post r u.1 u.2.1 u.2.2.1 u.2.2.2) (fun u t => zPost G K (va_A (wM ad K I J B D) sz) (wM ad K u.1 u.2.1 u.2.2.1 u.2.2.2) t) (va_A (wM ad K I J B D) sz)) 0 0 (va_A (wM ad K I J B D) sz) := by
  refine zMet (y := zy_LassoFinderModel_can) (av := [.ref (ad 0), .int a0]) (maxL := 4) (cc := prog_14_method_32_code) (ret := (some .boolean)) (W0 := (wM ad K I J B D)) (sz := sz) (G := G) (K := K) (wt := zTB) (mc := 0) (ms := 0) (Qf := fun A => va_Qi (fun (r : Int32) (u : zS) => Post r u.1 u.2.1 u.2.2.1 u.2.2.2) (fun u t => zPost G K A (wM ad K u.1 u.2.1 u.2.2.1 u.2.2.2) t) A) (by decide) (Nat.le_of_ble_eq_true rfl) ?_
  intro p e s m below meth c ls A hx hb hr hml hts hown hlocks hin hA hK H locs hw hsz hl
  clear hsz
  have hown : s.vm.findClass "LassoFinderModel" = some m.cls := hown
  have C : zCx p s m ([.ref (ad 0), .int a0] : List Value).toArray meth c A G K prog_14_method_32_code (some .boolean) 4 "LassoFinderModel" := ⟨hx, hb, hr, hml, hts, hown, hlocks, hA, hK⟩
  have hl : lv_has ls 4 [(0, .ref (ad 0)), (1, .int a0)] := hl
  have hw : zW G A s.heap (wM ad K I J B D) H locs := hw
  unfold wp_LassoFinderModel_can at hok
  refine lv_aload_n hx hb zd_LassoFinderModel_can_0 rfl (lv_at hl 0 rfl) ?_
  refine z_get (v := .ref (ad 6)) hx hb hts hown hK hw zZ12 0 wM_g0 14 (by decide) zm_240 rfl zd_LassoFinderModel_can_1 ?_
  refine lv_iload_n hx hb zd_LassoFinderModel_can_4 rfl (lv_at hl 1 rfl) ?_
  refine va_iald (f := (B 5)) hx hb hK hw.1 6 0 wM_a6 rfl hok.1 zd_LassoFinderModel_can_5 ?_
  have hok := hok.2
  refine lv_topi (fun z6 ez6 => ?_)
  have hok := hok z6 ez6
  refine lv_iconst (v := 1) hx hb zd_LassoFinderModel_can_6 (by decide) ?_
  refine lv_icmp_ne (tgt := 35) hx hb zd_LassoFinderModel_can_7 (by decide) (fun hc7 => ?_) (fun hc7 => ?_)
  · have hok := hok.1 hc7
    refine lv_aload_n hx hb zd_LassoFinderModel_can_35 rfl (lv_at hl 0 rfl) ?_
    refine z_get (v := .ref (ad 6)) hx hb hts hown hK hw zZ12 0 wM_g0 14 (by decide) zm_240 rfl zd_LassoFinderModel_can_36 ?_
    refine lv_iload_n hx hb zd_LassoFinderModel_can_39 rfl (lv_at hl 1 rfl) ?_
    refine va_iald (f := (B 5)) hx hb hK hw.1 6 0 wM_a6 rfl hok.1 zd_LassoFinderModel_can_40 ?_
    have hok := hok.2
    refine lv_topi (fun z8 ez8 => ?_)
    have hok := hok z8 ez8
    refine lv_iconst (v := 3) hx hb zd_LassoFinderModel_can_41 (by decide) ?_
    refine lv_icmp_ne (tgt := 65) hx hb zd_LassoFinderModel_can_42 (by decide) (fun hc9 => ?_) (fun hc9 => ?_)
    · have hok := hok.1 hc9
      refine lv_aload_n hx hb zd_LassoFinderModel_can_65 rfl (lv_at hl 0 rfl) ?_
      refine z_get (v := .ref (ad 6)) hx hb hts hown hK hw zZ12 0 wM_g0 14 (by decide) zm_240 rfl zd_LassoFinderModel_can_66 ?_
      refine lv_iload_n hx hb zd_LassoFinderModel_can_69 rfl (lv_at hl 1 rfl) ?_
      refine va_iald (f := (B 5)) hx hb hK hw.1 6 0 wM_a6 rfl hok.1 zd_LassoFinderModel_can_70 ?_
      have hok := hok.2
      refine lv_topi (fun z10 ez10 => ?_)
      have hok := hok z10 ez10
      refine lv_iconst (v := 2) hx hb zd_LassoFinderModel_can_71 (by decide) ?_
      refine lv_icmp_eq (tgt := 91) hx hb zd_LassoFinderModel_can_72 (by decide) (fun hc11 => ?_) (fun hc11 => ?_)
      · have hok := hok.1 hc11
        refine lv_aload_n hx hb zd_LassoFinderModel_can_91 rfl (lv_at hl 0 rfl) ?_
        refine z_get (v := .ref (ad 5)) hx hb hts hown hK hw zZ12 0 wM_g0 12 (by decide) zm_239 rfl zd_LassoFinderModel_can_92 ?_
        refine lv_aload_n hx hb zd_LassoFinderModel_can_95 rfl (lv_at hl 0 rfl) ?_
        refine z_get (v := .ref (ad 13)) hx hb hts hown hK hw zZ12 0 wM_g0 21 (by decide) zm_247 rfl zd_LassoFinderModel_can_96 ?_
        refine lv_iload_n hx hb zd_LassoFinderModel_can_99 rfl (lv_at hl 1 rfl) ?_
        refine va_iald (f := (B 12)) hx hb hK hw.1 13 0 wM_a13 rfl hok.1 zd_LassoFinderModel_can_100 ?_
        have hok := hok.2
        refine lv_topi (fun z12 ez12 => ?_)
        have hok := hok z12 ez12
        refine va_iald (f := (B 4)) hx hb hK hw.1 5 0 wM_a5 rfl hok.1 zd_LassoFinderModel_can_101 ?_
        have hok := hok.2
        refine lv_topi (fun z13 ez13 => ?_)
        have hok := hok z13 ez13
        refine lv_if_le (tgt := 136) hx hb zd_LassoFinderModel_can_102 (by decide) (fun hc14 => ?_) (fun hc14 => ?_)
        · have hok := hok.1 hc14
          refine lv_iconst (v := 0) hx hb zd_LassoFinderModel_can_136 (by decide) ?_
          refine lv_istore_n hx hb zd_LassoFinderModel_can_137 rfl hl (by decide) rfl (fun ls hl => ?_)
          have hl : lv_has ls 4 [(2, .int 0), (0, .ref (ad 0)), (1, .int a0)] := hl
          refine lv_iconst (v := 0) hx hb zd_LassoFinderModel_can_138 (by decide) ?_
          refine lv_istore_n hx hb zd_LassoFinderModel_can_139 rfl hl (by decide) rfl (fun ls hl => ?_)
          have hl : lv_has ls 4 [(3, .int 0), (2, .int 0), (0, .ref (ad 0)), (1, .int a0)] := hl
          obtain ⟨n9, hok⟩ := hok
          exact wL_LassoFinderModel_can_140 G K ad a0 Post C n9 a0 0 0 I J B D ls H locs hok (lv_sub hl [2, 3, 1, 0] rfl) hw
        · have hok := hok.2 hc14
          refine lv_aload_n hx hb zd_LassoFinderModel_can_105 rfl (lv_at hl 0 rfl) ?_
          refine z_get (v := .ref (ad 40)) hx hb hts hown hK hw zZ12 0 wM_g0 56 (by decide) zm_274 rfl zd_LassoFinderModel_can_106 ?_
          refine lv_aload_n hx hb zd_LassoFinderModel_can_109 rfl (lv_at hl 0 rfl) ?_
          refine z_get (v := .ref (ad 13)) hx hb hts hown hK hw zZ12 0 wM_g0 21 (by decide) zm_247 rfl zd_LassoFinderModel_can_110 ?_
          refine lv_iload_n hx hb zd_LassoFinderModel_can_113 rfl (lv_at hl 1 rfl) ?_
          refine va_iald (f := (B 12)) hx hb hK hw.1 13 0 wM_a13 rfl hok.1 zd_LassoFinderModel_can_114 ?_
          have hok := hok.2
          refine lv_topi (fun z15 ez15 => ?_)
          have hok := hok z15 ez15
          refine va_iald (f := (B 37)) hx hb hK hw.1 40 0 wM_a40 rfl hok.1 zd_LassoFinderModel_can_115 ?_
          have hok := hok.2
          refine lv_topi (fun z16 ez16 => ?_)
          have hok := hok z16 ez16
          refine lv_aload_n hx hb zd_LassoFinderModel_can_116 rfl (lv_at hl 0 rfl) ?_
          refine z_get (v := .ref (ad 5)) hx hb hts hown hK hw zZ12 0 wM_g0 12 (by decide) zm_239 rfl zd_LassoFinderModel_can_117 ?_
          refine lv_aload_n hx hb zd_LassoFinderModel_can_120 rfl (lv_at hl 0 rfl) ?_
          refine z_get (v := .ref (ad 13)) hx hb hts hown hK hw zZ12 0 wM_g0 21 (by decide) zm_247 rfl zd_LassoFinderModel_can_121 ?_
          refine lv_iload_n hx hb zd_LassoFinderModel_can_124 rfl (lv_at hl 1 rfl) ?_
          refine va_iald (f := (B 12)) hx hb hK hw.1 13 0 wM_a13 rfl hok.1 zd_LassoFinderModel_can_125 ?_
          have hok := hok.2
          refine lv_topi (fun z17 ez17 => ?_)
          have hok := hok z17 ez17
          refine va_iald (f := (B 4)) hx hb hK hw.1 5 0 wM_a5 rfl hok.1 zd_LassoFinderModel_can_126 ?_
          have hok := hok.2
          refine lv_topi (fun z18 ez18 => ?_)
          have hok := hok z18 ez18
          refine lv_icmp_ge (tgt := 134) hx hb zd_LassoFinderModel_can_127 (by decide) (fun hc19 => ?_) (fun hc19 => ?_)
          · have hok := hok.1 hc19
            refine lv_iconst (v := 0) hx hb zd_LassoFinderModel_can_134 (by decide) ?_
            exact wJ_LassoFinderModel_can_135 G K ad a0 Post C 0 I J B D ls H locs hok (lv_sub hl [] rfl) hw
          · have hok := hok.2 hc19
            refine lv_iconst (v := 1) hx hb zd_LassoFinderModel_can_130 (by decide) ?_
            refine lv_goto (tgt := 135) hx hb zd_LassoFinderModel_can_131 (by decide) ?_
            exact wJ_LassoFinderModel_can_135 G K ad a0 Post C 1 I J B D ls H locs hok (lv_sub hl [] rfl) hw
      · have hok := hok.2 hc11
        refine lv_aload_n hx hb zd_LassoFinderModel_can_75 rfl (lv_at hl 0 rfl) ?_
        refine z_get (v := .ref (ad 6)) hx hb hts hown hK hw zZ12 0 wM_g0 14 (by decide) zm_240 rfl zd_LassoFinderModel_can_76 ?_
        refine lv_iload_n hx hb zd_LassoFinderModel_can_79 rfl (lv_at hl 1 rfl) ?_
        refine va_iald (f := (B 5)) hx hb hK hw.1 6 0 wM_a6 rfl hok.1 zd_LassoFinderModel_can_80 ?_
        have hok := hok.2
        refine lv_topi (fun z20 ez20 => ?_)
        have hok := hok z20 ez20
        refine lv_iconst (v := 5) hx hb zd_LassoFinderModel_can_81 (by decide) ?_
        refine lv_icmp_eq (tgt := 89) hx hb zd_LassoFinderModel_can_82 (by decide) (fun hc21 => ?_) (fun hc21 => ?_)
        · have hok := hok.1 hc21
          refine lv_iconst (v := 0) hx hb zd_LassoFinderModel_can_89 (by decide) ?_
          exact wJ_LassoFinderModel_can_90 G K ad a0 Post C 0 I J B D ls H locs hok (lv_sub hl [] rfl) hw
        · have hok := hok.2 hc21
          refine lv_iconst (v := 1) hx hb zd_LassoFinderModel_can_85 (by decide) ?_
          refine lv_goto (tgt := 90) hx hb zd_LassoFinderModel_can_86 (by decide) ?_
          exact wJ_LassoFinderModel_can_90 G K ad a0 Post C 1 I J B D ls H locs hok (lv_sub hl [] rfl) hw
    · have hok := hok.2 hc9
      refine lv_aload_n hx hb zd_LassoFinderModel_can_45 rfl (lv_at hl 0 rfl) ?_
      refine z_get (v := .ref (ad 40)) hx hb hts hown hK hw zZ12 0 wM_g0 56 (by decide) zm_274 rfl zd_LassoFinderModel_can_46 ?_
      refine lv_aload_n hx hb zd_LassoFinderModel_can_49 rfl (lv_at hl 0 rfl) ?_
      refine z_get (v := .ref (ad 13)) hx hb hts hown hK hw zZ12 0 wM_g0 21 (by decide) zm_247 rfl zd_LassoFinderModel_can_50 ?_
      refine lv_iload_n hx hb zd_LassoFinderModel_can_53 rfl (lv_at hl 1 rfl) ?_
      refine va_iald (f := (B 12)) hx hb hK hw.1 13 0 wM_a13 rfl hok.1 zd_LassoFinderModel_can_54 ?_
      have hok := hok.2
      refine lv_topi (fun z22 ez22 => ?_)
      have hok := hok z22 ez22
      refine va_iald (f := (B 37)) hx hb hK hw.1 40 0 wM_a40 rfl hok.1 zd_LassoFinderModel_can_55 ?_
      have hok := hok.2
      refine lv_topi (fun z23 ez23 => ?_)
      have hok := hok z23 ez23
      refine lv_if_le (tgt := 63) hx hb zd_LassoFinderModel_can_56 (by decide) (fun hc24 => ?_) (fun hc24 => ?_)
      · have hok := hok.1 hc24
        refine lv_iconst (v := 0) hx hb zd_LassoFinderModel_can_63 (by decide) ?_
        exact wJ_LassoFinderModel_can_64 G K ad a0 Post C 0 I J B D ls H locs hok (lv_sub hl [] rfl) hw
      · have hok := hok.2 hc24
        refine lv_iconst (v := 1) hx hb zd_LassoFinderModel_can_59 (by decide) ?_
        refine lv_goto (tgt := 64) hx hb zd_LassoFinderModel_can_60 (by decide) ?_
        exact wJ_LassoFinderModel_can_64 G K ad a0 Post C 1 I J B D ls H locs hok (lv_sub hl [] rfl) hw
  · have hok := hok.2 hc7
    refine lv_aload_n hx hb zd_LassoFinderModel_can_10 rfl (lv_at hl 0 rfl) ?_
    refine lv_aload_n hx hb zd_LassoFinderModel_can_11 rfl (lv_at hl 0 rfl) ?_
    refine z_get (v := .ref (ad 15)) hx hb hts hown hK hw zZ12 0 wM_g0 23 (by decide) zm_249 rfl zd_LassoFinderModel_can_12 ?_
    refine lv_iload_n hx hb zd_LassoFinderModel_can_15 rfl (lv_at hl 1 rfl) ?_
    refine va_iald (f := (B 14)) hx hb hK hw.1 15 0 wM_a15 rfl hok.1 zd_LassoFinderModel_can_16 ?_
    have hok := hok.2
    refine lv_topi (fun z25 ez25 => ?_)
    have hok := hok z25 ez25
    refine lv_aload_n hx hb zd_LassoFinderModel_can_17 rfl (lv_at hl 0 rfl) ?_
    refine z_get (v := .ref (ad 16)) hx hb hts hown hK hw zZ12 0 wM_g0 24 (by decide) zm_250 rfl zd_LassoFinderModel_can_18 ?_
    refine lv_iload_n hx hb zd_LassoFinderModel_can_21 rfl (lv_at hl 1 rfl) ?_
    refine va_iald (f := (B 15)) hx hb hK hw.1 16 0 wM_a16 rfl hok.1 zd_LassoFinderModel_can_22 ?_
    have hok := hok.2
    refine lv_topi (fun z26 ez26 => ?_)
    have hok := hok z26 ez26
    refine z_calli (w1 := fun (u : zS) => wM ad K u.1 u.2.1 u.2.2.1 u.2.2.2) (wr := []) (z_runV (q0 := 0) (wc := (wM ad K I J B D)) (As := [.int z25, .int z26]) (rest := []) ⟨hx, hb, hml, hown, hts⟩ (w_LassoFinderModel_worth l G K ad I J B D z25 z26 _ H.size hok) zf_LassoFinderModel_worth zm_324 ⟨Nat.le_of_ble_eq_true rfl, Nat.le_of_ble_eq_true rfl⟩ hK hw (List.range 58) wM_all wM_nd wM_g0 rfl rfl hl.1 rfl (Nat.le_of_ble_eq_true rfl) zd_LassoFinderModel_can_23 ⟨Nat.le_of_ble_eq_true rfl, Nat.le_of_ble_eq_true rfl⟩) hw hA (List.range 58) [] wM_all rfl (by decide) (fun i hi => by cases hi) (fun r27 u H locs hok hw => ?_)
    obtain ⟨I27, J27, B27, D27⟩ := u
    dsimp only at hok
    have hw : zW G A s.heap (wM ad K I27 J27 B27 D27) H locs := hw
    refine lv_if_eq (tgt := 33) hx hb zd_LassoFinderModel_can_26 (by decide) (fun hc28 => ?_) (fun hc28 => ?_)
    · have hok := hok.1 hc28
      refine lv_iconst (v := 0) hx hb zd_LassoFinderModel_can_33 (by decide) ?_
      exact wJ_LassoFinderModel_can_34 G K ad a0 Post C 0 I27 J27 B27 D27 ls H locs hok (lv_sub hl [] rfl) hw
    · have hok := hok.2 hc28
      refine lv_iconst (v := 1) hx hb zd_LassoFinderModel_can_29 (by decide) ?_
      refine lv_goto (tgt := 34) hx hb zd_LassoFinderModel_can_30 (by decide) ?_
      exact wJ_LassoFinderModel_can_34 G K ad a0 Post C 1 I27 J27 B27 D27 ls H locs hok (lv_sub hl [] rfl) hw
def wc_LassoFinderModel_doable_163 (Post : Int64 → (Nat → Int32) → (Nat → Int64) → (Nat → Nat → Int32) → (Nat → Nat → Int64) → Prop) (y0 : Int64) (I : Nat → Int32) (J : Nat → Int64) (B : Nat → Nat → Int32) (D : Nat → Nat → Int64) : Prop :=
  Post y0 I J B D
def wc_LassoFinderModel_doable_162 (Post : Int64 → (Nat → Int32) → (Nat → Int64) → (Nat → Nat → Int32) → (Nat → Nat → Int64) → Prop) (x1 : Int64) (I : Nat → Int32) (J : Nat → Int64) (B : Nat → Nat → Int32) (D : Nat → Nat → Int64) : Prop :=
  wc_LassoFinderModel_doable_163  Post x1 I J B D
def wc_LassoFinderModel_doable_119 (K4 : Int64 → Int32 → (Nat → Int32) → (Nat → Int64) → (Nat → Nat → Int32) → (Nat → Nat → Int64) → Prop) (Post : Int64 → (Nat → Int32) → (Nat → Int64) → (Nat → Nat → Int32) → (Nat → Nat → Int64) → Prop) (x3 : Int32) (y0 : Int64) (y1 : Int64) (I : Nat → Int32) (J : Nat → Int64) (B : Nat → Nat → Int32) (D : Nat → Nat → Int64) : Prop :=
  ∀ z1 : Int64, z1 = (y1 ||| y0) → ∀ z2 : Int32, z2 = (x3 + 1) → K4 z1 z2 I J B D
def wc_LassoFinderModel_doable_98 (K4 : Int64 → Int32 → (Nat → Int32) → (Nat → Int64) → (Nat → Nat → Int32) → (Nat → Nat → Int64) → Prop) (K21 : Int64 → Int32 → Int64 → Int64 → Int32 → (Nat → Int32) → (Nat → Int64) → (Nat → Nat → Int32) → (Nat → Nat → Int64) → Prop) (Post : Int64 → (Nat → Int32) → (Nat → Int64) → (Nat → Nat → Int32) → (Nat → Nat → Int64) → Prop) (x1 : Int64) (x3 : Int32) (x4 : Int64) (x6 : Int64) (x8 : Int32) (I : Nat → Int32) (J : Nat → Int64) (B : Nat → Nat → Int32) (D : Nat → Nat → Int64) : Prop :=
  ∀ z3 : Int32, z3 = (x8 + 1) → K21 x1 x3 x4 x6 z3 I J B D
def wb_LassoFinderModel_doable_21 (K21 : Int64 → Int32 → Int64 → Int64 → Int32 → (Nat → Int32) → (Nat → Int64) → (Nat → Nat → Int32) → (Nat → Nat → Int64) → Prop) (K4 : Int64 → Int32 → (Nat → Int32) → (Nat → Int64) → (Nat → Nat → Int32) → (Nat → Nat → Int64) → Prop) (Post : Int64 → (Nat → Int32) → (Nat → Int64) → (Nat → Nat → Int32) → (Nat → Nat → Int64) → Prop) (x1 : Int64) (x3 : Int32) (x4 : Int64) (x6 : Int64) (x8 : Int32) (I : Nat → Int32) (J : Nat → Int64) (B : Nat → Nat → Int32) (D : Nat → Nat → Int64) : Prop :=
  (((I 9) ≤ x8 → ∀ z5 : Int32, z5 = (lg_cmp x4 0) → ((¬ z5 = 0 → wc_LassoFinderModel_doable_119  K4 Post x3 x4 x1 I J B D) ∧ (z5 = 0 → wc_LassoFinderModel_doable_119  K4 Post x3 x6 x1 I J B D))) ∧ (¬ (I 9) ≤ x8 → wp_LassoFinderModel_maskOf I J B D x3 (fun r7 I7 J7 B7 D7 => ∀ z8 : Int64, z8 = (r7 >>> (x8.toInt64 &&& 63)) → ∀ z9 : Int64, z9 = (z8 &&& 1) → ∀ z10 : Int32, z10 = (lg_cmp z9 0) → ((¬ z10 = 0 → vp_in x8 48 ∧ ∀ z12 : Int32, z12 = ((B7 18) x8.toNatClampNeg) → vp_in z12 140 ∧ ∀ z13 : Int32, z13 = ((B7 5) z12.toNatClampNeg) → ((¬ z13 = 5 → wp_LassoFinderModel_can I7 J7 B7 D7 z12 (fun r15 I15 J15 B15 D15 => ((r15 = 0 → wc_LassoFinderModel_doable_98  K4 K21 Post x1 x3 x4 x6 x8 I15 J15 B15 D15) ∧ (¬ r15 = 0 → ∀ z17 : Int64, z17 = ((1 : Int64) <<< (x8.toInt64 &&& 63)) → ∀ z18 : Int64, z18 = (x4 ||| z17) → wc_LassoFinderModel_doable_98  K4 K21 Post x1 x3 z18 x6 x8 I15 J15 B15 D15)))) ∧ (z13 = 5 → ∀ z19 : Int64, z19 = ((1 : Int64) <<< (x8.toInt64 &&& 63)) → ∀ z20 : Int64, z20 = (x6 ||| z19) → wc_LassoFinderModel_doable_98  K4 K21 Post x1 x3 x4 z20 x8 I7 J7 B7 D7))) ∧ (z10 = 0 → wc_LassoFinderModel_doable_98  K4 K21 Post x1 x3 x4 x6 x8 I7 J7 B7 D7)))))
def wl_LassoFinderModel_doable_21 (K4 : Int64 → Int32 → (Nat → Int32) → (Nat → Int64) → (Nat → Nat → Int32) → (Nat → Nat → Int64) → Prop) (Post : Int64 → (Nat → Int32) → (Nat → Int64) → (Nat → Nat → Int32) → (Nat → Nat → Int64) → Prop) (n : Nat) : Int64 → Int32 → Int64 → Int64 → Int32 → (Nat → Int32) → (Nat → Int64) → (Nat → Nat → Int32) → (Nat → Nat → Int64) → Prop := Nat.rec (fun _ _ _ _ _ _ _ _ _ => False) (fun _ r => wb_LassoFinderModel_doable_21  r K4 Post) n
def wb_LassoFinderModel_doable_4 (K4 : Int64 → Int32 → (Nat → Int32) → (Nat → Int64) → (Nat → Nat → Int32) → (Nat → Nat → Int64) → Prop) (Post : Int64 → (Nat → Int32) → (Nat → Int64) → (Nat → Nat → Int32) → (Nat → Nat → Int64) → Prop) (x1 : Int64) (x3 : Int32) (I : Nat → Int32) (J : Nat → Int64) (B : Nat → Nat → Int32) (D : Nat → Nat → Int64) : Prop :=
  (((I 10) ≤ x3 → (((I 17) < 0 → wc_LassoFinderModel_doable_162  Post x1 I J B D) ∧ (¬ (I 17) < 0 → wp_LassoFinderModel_maskOf I J B D (I 17) (fun r23 I23 J23 B23 D23 => ∀ z24 : Int64, z24 = (x1 &&& r23) → ∀ z25 : Int32, z25 = (lg_cmp z24 0) → ((z25 = 0 → wc_LassoFinderModel_doable_162  Post x1 I23 J23 B23 D23) ∧ (¬ z25 = 0 → wp_LassoFinderModel_maskOf I23 J23 B23 D23 (I23 17) (fun r27 I27 J27 B27 D27 => ∀ z28 : Int64, z28 = (x1 &&& r27) → wc_LassoFinderModel_doable_163  Post z28 I27 J27 B27 D27))))))) ∧ (¬ (I 10) ≤ x3 → ∃ n : Nat, wl_LassoFinderModel_doable_21  K4 Post n x1 x3 0 0 0 I J B D))
def wl_LassoFinderModel_doable_4 (Post : Int64 → (Nat → Int32) → (Nat → Int64) → (Nat → Nat → Int32) → (Nat → Nat → Int64) → Prop) (n : Nat) : Int64 → Int32 → (Nat → Int32) → (Nat → Int64) → (Nat → Nat → Int32) → (Nat → Nat → Int64) → Prop := Nat.rec (fun _ _ _ _ _ _ => False) (fun _ r => wb_LassoFinderModel_doable_4  r Post) n
def wp_LassoFinderModel_doable (I : Nat → Int32) (J : Nat → Int64) (B : Nat → Nat → Int32) (D : Nat → Nat → Int64) (Post : Int64 → (Nat → Int32) → (Nat → Int64) → (Nat → Nat → Int32) → (Nat → Nat → Int64) → Prop) : Prop :=
  ∃ n : Nat, wl_LassoFinderModel_doable_4  Post n 0 0 I J B D
set_option maxHeartbeats 8000000 in
set_option maxRecDepth 100000 in
theorem wJ_LassoFinderModel_doable_163 {p : Program} {l : Launch} {e : Env} {s : State} {m : MethodId} {below : List Frame} {meth : Method} {c : Code} {A : Nat → Prop} (G : va_G) (K : Nat → ClassId) (ad : Nat → Nat) (Post : Int64 → (Nat → Int32) → (Nat → Int64) → (Nat → Nat → Int32) → (Nat → Nat → Int64) → Prop) (C : zCx p s m ([.ref (ad 0)] : List Value).toArray meth c A G K prog_14_method_33_code (some .long) 10 "LassoFinderModel") : ∀ (y0 : Int64) (I : Nat → Int32) (J : Nat → Int64) (B : Nat → Nat → Int32) (D : Nat → Nat → Int64) (ls : Array Slot) (H : Heap) (locs : List Loc), wc_LassoFinderModel_doable_163  Post y0 I J B D → lv_has ls 10 [] → zW G A s.heap (wM ad K I J B D) H locs → W p l e { frames := 3, cells := 0, slots := 0, locals := 67 } s m ([.ref (ad 0)] : List Value).toArray below meth c H locs 0 0 (MQ below (va_Ql (fun (r : Int64) (u : zS) => Post r u.1 u.2.1 u.2.2.1 u.2.2.2) (fun u t => zPost G K A (wM ad K u.1 u.2.1 u.2.2.1 u.2.2.2) t) A) ([.ref (ad 0)] : List Value).toArray s 0 0 A) (F0 m 163 ls [.long y0]) := by
  obtain ⟨hx, hb, hr, hml, hts, hown, hlocks, hA, hK⟩ := id C
  intro y0 I J B D ls H locs hok hl hw
  unfold wc_LassoFinderModel_doable_163 at hok
  exact (z_lret (u := (I, J, B, D)) hx hb hr hlocks hw (List.range 58) wM_all wM_nd hok (Nat.le_of_ble_eq_true rfl) (Nat.le_of_ble_eq_true rfl) zd_LassoFinderModel_doable_163)
set_option maxHeartbeats 8000000 in
set_option maxRecDepth 100000 in
theorem wJ_LassoFinderModel_doable_162 {p : Program} {l : Launch} {e : Env} {s : State} {m : MethodId} {below : List Frame} {meth : Method} {c : Code} {A : Nat → Prop} (G : va_G) (K : Nat → ClassId) (ad : Nat → Nat) (Post : Int64 → (Nat → Int32) → (Nat → Int64) → (Nat → Nat → Int32) → (Nat → Nat → Int64) → Prop) (C : zCx p s m ([.ref (ad 0)] : List Value).toArray meth c A G K prog_14_method_33_code (some .long) 10 "LassoFinderModel") : ∀ (x1 : Int64) (I : Nat → Int32) (J : Nat → Int64) (B : Nat → Nat → Int32) (D : Nat → Nat → Int64) (ls : Array Slot) (H : Heap) (locs : List Loc), wc_LassoFinderModel_doable_162  Post x1 I J B D → lv_has ls 10 [(1, .long x1)] → zW G A s.heap (wM ad K I J B D) H locs → W p l e { frames := 3, cells := 0, slots := 0, locals := 67 } s m ([.ref (ad 0)] : List Value).toArray below meth c H locs 0 0 (MQ below (va_Ql (fun (r : Int64) (u : zS) => Post r u.1 u.2.1 u.2.2.1 u.2.2.2) (fun u t => zPost G K A (wM ad K u.1 u.2.1 u.2.2.1 u.2.2.2) t) A) ([.ref (ad 0)] : List Value).toArray s 0 0 A) (F0 m 162 ls []) := by
  obtain ⟨hx, hb, hr, hml, hts, hown, hlocks, hA, hK⟩ := id C
  intro x1 I J B D ls H locs hok hl hw
  unfold wc_LassoFinderModel_doable_162 at hok
  refine lv_lload_n hx hb zd_LassoFinderModel_doable_162 rfl (lv_at hl 0 rfl) ?_
  exact wJ_LassoFinderModel_doable_163 G K ad  Post C x1 I J B D ls H locs hok (lv_sub hl [] rfl) hw
set_option maxHeartbeats 8000000 in
set_option maxRecDepth 100000 in
theorem wJ_LassoFinderModel_doable_119 {p : Program} {l : Launch} {e : Env} {s : State} {m : MethodId} {below : List Frame} {meth : Method} {c : Code} {A : Nat → Prop} (G : va_G) (K : Nat → ClassId) (ad : Nat → Nat) (Post : Int64 → (Nat → Int32) → (Nat → Int64) → (Nat → Nat → Int32) → (Nat → Nat → Int64) → Prop) (C : zCx p s m ([.ref (ad 0)] : List Value).toArray meth c A G K prog_14_method_33_code (some .long) 10 "LassoFinderModel") (K4 : Int64 → Int32 → (Nat → Int32) → (Nat → Int64) → (Nat → Nat → Int32) → (Nat → Nat → Int64) → Prop) (kh4 : ∀ (x1 : Int64) (x3 : Int32) (I : Nat → Int32) (J : Nat → Int64) (B : Nat → Nat → Int32) (D : Nat → Nat → Int64) (ls : Array Slot) (H : Heap) (locs : List Loc), K4 x1 x3 I J B D → lv_has ls 10 [(0, .ref (ad 0)), (1, .long x1), (3, .int x3)] → zW G A s.heap (wM ad K I J B D) H locs → W p l e { frames := 3, cells := 0, slots := 0, locals := 67 } s m ([.ref (ad 0)] : List Value).toArray below meth c H locs 0 0 (MQ below (va_Ql (fun (r : Int64) (u : zS) => Post r u.1 u.2.1 u.2.2.1 u.2.2.2) (fun u t => zPost G K A (wM ad K u.1 u.2.1 u.2.2.1 u.2.2.2) t) A) ([.ref (ad 0)] : List Value).toArray s 0 0 A) (F0 m 4 ls [])) : ∀ (x3 : Int32) (y0 : Int64) (y1 : Int64) (I : Nat → Int32) (J : Nat → Int64) (B : Nat → Nat → Int32) (D : Nat → Nat → Int64) (ls : Array Slot) (H : Heap) (locs : List Loc), wc_LassoFinderModel_doable_119  K4 Post x3 y0 y1 I J B D → lv_has ls 10 [(0, .ref (ad 0)), (3, .int x3)] → zW G A s.heap (wM ad K I J B D) H locs → W p l e { frames := 3, cells := 0, slots := 0, locals := 67 } s m ([.ref (ad 0)] : List Value).toArray below meth c H locs 0 0 (MQ below (va_Ql (fun (r : Int64) (u : zS) => Post r u.1 u.2.1 u.2.2.1 u.2.2.2) (fun u t => zPost G K A (wM ad K u.1 u.2.1 u.2.2.1 u.2.2.2) t) A) ([.ref (ad 0)] : List Value).toArray s 0 0 A) (F0 m 119 ls [.long y0, .long y1]) := by
  obtain ⟨hx, hb, hr, hml, hts, hown, hlocks, hA, hK⟩ := id C
  intro x3 y0 y1 I J B D ls H locs hok hl hw
  unfold wc_LassoFinderModel_doable_119 at hok
  refine lv_lor hx hb zd_LassoFinderModel_doable_119 ?_
  refine lv_topl (fun z1 ez1 => ?_)
  have hok := hok z1 ez1
  refine lv_lstore_n hx hb zd_LassoFinderModel_doable_120 rfl hl (by decide) rfl (fun ls hl => ?_)
  have hl : lv_has ls 10 [(1, .long z1), (0, .ref (ad 0)), (3, .int x3)] := hl
  obtain ⟨z2, ez2⟩ : ∃ z : Int32, z = (x3 + 1) := ⟨_, rfl⟩
  have hok := hok z2 ez2
  refine lv_iinc (v := z2) hx hb zd_LassoFinderModel_doable_121 hl (k := 2) rfl ez2.symm (by decide) rfl (fun ls hl => ?_)
  have hl : lv_has ls 10 [(3, .int z2), (1, .long z1), (0, .ref (ad 0))] := hl
  refine lv_goto (tgt := 4) hx hb zd_LassoFinderModel_doable_124 (by decide) ?_
  exact kh4 z1 z2 I J B D ls H locs hok (lv_sub hl [2, 1, 0] rfl) hw
set_option maxHeartbeats 8000000 in
set_option maxRecDepth 100000 in
theorem wJ_LassoFinderModel_doable_98 {p : Program} {l : Launch} {e : Env} {s : State} {m : MethodId} {below : List Frame} {meth : Method} {c : Code} {A : Nat → Prop} (G : va_G) (K : Nat → ClassId) (ad : Nat → Nat) (Post : Int64 → (Nat → Int32) → (Nat → Int64) → (Nat → Nat → Int32) → (Nat → Nat → Int64) → Prop) (C : zCx p s m ([.ref (ad 0)] : List Value).toArray meth c A G K prog_14_method_33_code (some .long) 10 "LassoFinderModel") (K4 : Int64 → Int32 → (Nat → Int32) → (Nat → Int64) → (Nat → Nat → Int32) → (Nat → Nat → Int64) → Prop) (kh4 : ∀ (x1 : Int64) (x3 : Int32) (I : Nat → Int32) (J : Nat → Int64) (B : Nat → Nat → Int32) (D : Nat → Nat → Int64) (ls : Array Slot) (H : Heap) (locs : List Loc), K4 x1 x3 I J B D → lv_has ls 10 [(0, .ref (ad 0)), (1, .long x1), (3, .int x3)] → zW G A s.heap (wM ad K I J B D) H locs → W p l e { frames := 3, cells := 0, slots := 0, locals := 67 } s m ([.ref (ad 0)] : List Value).toArray below meth c H locs 0 0 (MQ below (va_Ql (fun (r : Int64) (u : zS) => Post r u.1 u.2.1 u.2.2.1 u.2.2.2) (fun u t => zPost G K A (wM ad K u.1 u.2.1 u.2.2.1 u.2.2.2) t) A) ([.ref (ad 0)] : List Value).toArray s 0 0 A) (F0 m 4 ls [])) (K21 : Int64 → Int32 → Int64 → Int64 → Int32 → (Nat → Int32) → (Nat → Int64) → (Nat → Nat → Int32) → (Nat → Nat → Int64) → Prop) (kh21 : ∀ (x1 : Int64) (x3 : Int32) (x4 : Int64) (x6 : Int64) (x8 : Int32) (I : Nat → Int32) (J : Nat → Int64) (B : Nat → Nat → Int32) (D : Nat → Nat → Int64) (ls : Array Slot) (H : Heap) (locs : List Loc), K21 x1 x3 x4 x6 x8 I J B D → lv_has ls 10 [(0, .ref (ad 0)), (1, .long x1), (3, .int x3), (4, .long x4), (6, .long x6), (8, .int x8)] → zW G A s.heap (wM ad K I J B D) H locs → W p l e { frames := 3, cells := 0, slots := 0, locals := 67 } s m ([.ref (ad 0)] : List Value).toArray below meth c H locs 0 0 (MQ below (va_Ql (fun (r : Int64) (u : zS) => Post r u.1 u.2.1 u.2.2.1 u.2.2.2) (fun u t => zPost G K A (wM ad K u.1 u.2.1 u.2.2.1 u.2.2.2) t) A) ([.ref (ad 0)] : List Value).toArray s 0 0 A) (F0 m 21 ls [])) : ∀ (x1 : Int64) (x3 : Int32) (x4 : Int64) (x6 : Int64) (x8 : Int32) (I : Nat → Int32) (J : Nat → Int64) (B : Nat → Nat → Int32) (D : Nat → Nat → Int64) (ls : Array Slot) (H : Heap) (locs : List Loc), wc_LassoFinderModel_doable_98  K4 K21 Post x1 x3 x4 x6 x8 I J B D → lv_has ls 10 [(0, .ref (ad 0)), (1, .long x1), (3, .int x3), (4, .long x4), (6, .long x6), (8, .int x8)] → zW G A s.heap (wM ad K I J B D) H locs → W p l e { frames := 3, cells := 0, slots := 0, locals := 67 } s m ([.ref (ad 0)] : List Value).toArray below meth c H locs 0 0 (MQ below (va_Ql (fun (r : Int64) (u : zS) => Post r u.1 u.2.1 u.2.2.1 u.2.2.2) (fun u t => zPost G K A (wM ad K u.1 u.2.1 u.2.2.1 u.2.2.2) t) A) ([.ref (ad 0)] : List Value).toArray s 0 0 A) (F0 m 98 ls []) := by
  obtain ⟨hx, hb, hr, hml, hts, hown, hlocks, hA, hK⟩ := id C
  intro x1 x3 x4 x6 x8 I J B D ls H locs hok hl hw
  unfold wc_LassoFinderModel_doable_98 at hok
  obtain ⟨z3, ez3⟩ : ∃ z : Int32, z = (x8 + 1) := ⟨_, rfl⟩
  have hok := hok z3 ez3
  refine lv_iinc (v := z3) hx hb zd_LassoFinderModel_doable_98 hl (k := 5) rfl ez3.symm (by decide) rfl (fun ls hl => ?_)
  have hl : lv_has ls 10 [(8, .int z3), (0, .ref (ad 0)), (1, .long x1), (3, .int x3), (4, .long x4), (6, .long x6)] := hl
  refine lv_goto (tgt := 21) hx hb zd_LassoFinderModel_doable_101 (by decide) ?_
  exact kh21 x1 x3 x4 x6 z3 I J B D ls H locs hok (lv_sub hl [1, 2, 3, 4, 5, 0] rfl) hw
set_option maxHeartbeats 8000000 in
set_option maxRecDepth 100000 in
theorem wB_LassoFinderModel_doable_21 {p : Program} {l : Launch} {e : Env} {s : State} {m : MethodId} {below : List Frame} {meth : Method} {c : Code} {A : Nat → Prop} (G : va_G) (K : Nat → ClassId) (ad : Nat → Nat) (Post : Int64 → (Nat → Int32) → (Nat → Int64) → (Nat → Nat → Int32) → (Nat → Nat → Int64) → Prop) (C : zCx p s m ([.ref (ad 0)] : List Value).toArray meth c A G K prog_14_method_33_code (some .long) 10 "LassoFinderModel") (K4 : Int64 → Int32 → (Nat → Int32) → (Nat → Int64) → (Nat → Nat → Int32) → (Nat → Nat → Int64) → Prop) (kh4 : ∀ (x1 : Int64) (x3 : Int32) (I : Nat → Int32) (J : Nat → Int64) (B : Nat → Nat → Int32) (D : Nat → Nat → Int64) (ls : Array Slot) (H : Heap) (locs : List Loc), K4 x1 x3 I J B D → lv_has ls 10 [(0, .ref (ad 0)), (1, .long x1), (3, .int x3)] → zW G A s.heap (wM ad K I J B D) H locs → W p l e { frames := 3, cells := 0, slots := 0, locals := 67 } s m ([.ref (ad 0)] : List Value).toArray below meth c H locs 0 0 (MQ below (va_Ql (fun (r : Int64) (u : zS) => Post r u.1 u.2.1 u.2.2.1 u.2.2.2) (fun u t => zPost G K A (wM ad K u.1 u.2.1 u.2.2.1 u.2.2.2) t) A) ([.ref (ad 0)] : List Value).toArray s 0 0 A) (F0 m 4 ls [])) (K21 : Int64 → Int32 → Int64 → Int64 → Int32 → (Nat → Int32) → (Nat → Int64) → (Nat → Nat → Int32) → (Nat → Nat → Int64) → Prop) (kh21 : ∀ (x1 : Int64) (x3 : Int32) (x4 : Int64) (x6 : Int64) (x8 : Int32) (I : Nat → Int32) (J : Nat → Int64) (B : Nat → Nat → Int32) (D : Nat → Nat → Int64) (ls : Array Slot) (H : Heap) (locs : List Loc), K21 x1 x3 x4 x6 x8 I J B D → lv_has ls 10 [(0, .ref (ad 0)), (1, .long x1), (3, .int x3), (4, .long x4), (6, .long x6), (8, .int x8)] → zW G A s.heap (wM ad K I J B D) H locs → W p l e { frames := 3, cells := 0, slots := 0, locals := 67 } s m ([.ref (ad 0)] : List Value).toArray below meth c H locs 0 0 (MQ below (va_Ql (fun (r : Int64) (u : zS) => Post r u.1 u.2.1 u.2.2.1 u.2.2.2) (fun u t => zPost G K A (wM ad K u.1 u.2.1 u.2.2.1 u.2.2.2) t) A) ([.ref (ad 0)] : List Value).toArray s 0 0 A) (F0 m 21 ls [])) : ∀ (x1 : Int64) (x3 : Int32) (x4 : Int64) (x6 : Int64) (x8 : Int32) (I : Nat → Int32) (J : Nat → Int64) (B : Nat → Nat → Int32) (D : Nat → Nat → Int64) (ls : Array Slot) (H : Heap) (locs : List Loc), wb_LassoFinderModel_doable_21  K21 K4 Post x1 x3 x4 x6 x8 I J B D → lv_has ls 10 [(0, .ref (ad 0)), (1, .long x1), (3, .int x3), (4, .long x4), (6, .long x6), (8, .int x8)] → zW G A s.heap (wM ad K I J B D) H locs → W p l e { frames := 3, cells := 0, slots := 0, locals := 67 } s m ([.ref (ad 0)] : List Value).toArray below meth c H locs 0 0 (MQ below (va_Ql (fun (r : Int64) (u : zS) => Post r u.1 u.2.1 u.2.2.1 u.2.2.2) (fun u t => zPost G K A (wM ad K u.1 u.2.1 u.2.2.1 u.2.2.2) t) A) ([.ref (ad 0)] : List Value).toArray s 0 0 A) (F0 m 21 ls []) := by
  obtain ⟨hx, hb, hr, hml, hts, hown, hlocks, hA, hK⟩ := id C
  intro x1 x3 x4 x6 x8 I J B D ls H locs hok hl hw
  unfold wb_LassoFinderModel_doable_21 at hok
  refine lv_iload hx hb zd_LassoFinderModel_doable_21 (lv_at hl 5 rfl) ?_
  refine lv_aload_n hx hb zd_LassoFinderModel_doable_23 rfl (lv_at hl 0 rfl) ?_
  refine z_get (v := .int (I 9)) hx hb hts hown hK hw zZ12 0 wM_g0 27 (by decide) zm_303 rfl zd_LassoFinderModel_doable_24 ?_
  refine lv_icmp_ge (tgt := 104) hx hb zd_LassoFinderModel_doable_27 (by decide) (fun hc4 => ?_) (fun hc4 => ?_)
  · have hok := hok.1 hc4
    refine lv_lload_n hx hb zd_LassoFinderModel_doable_104 rfl (lv_at hl 1 rfl) ?_
    refine lv_lload hx hb zd_LassoFinderModel_doable_105 (lv_at hl 3 rfl) ?_
    refine lv_lconst (v := 0) hx hb zd_LassoFinderModel_doable_107 (by decide) ?_
    refine W.lcmp hx hb zd_LassoFinderModel_doable_108 ?_
    refine lv_topi (fun z5 ez5 => ?_)
    have hok := hok z5 ez5
    refine lv_if_ne (tgt := 117) hx hb zd_LassoFinderModel_doable_109 (by decide) (fun hc6 => ?_) (fun hc6 => ?_)
    · have hok := hok.1 hc6
      refine lv_lload hx hb zd_LassoFinderModel_doable_117 (lv_at hl 3 rfl) ?_
      exact wJ_LassoFinderModel_doable_119 G K ad  Post C K4 kh4 x3 x4 x1 I J B D ls H locs hok (lv_sub hl [0, 2] rfl) hw
    · have hok := hok.2 hc6
      refine lv_lload hx hb zd_LassoFinderModel_doable_112 (lv_at hl 4 rfl) ?_
      refine lv_goto (tgt := 119) hx hb zd_LassoFinderModel_doable_114 (by decide) ?_
      exact wJ_LassoFinderModel_doable_119 G K ad  Post C K4 kh4 x3 x6 x1 I J B D ls H locs hok (lv_sub hl [0, 2] rfl) hw
  · have hok := hok.2 hc4
    refine lv_aload_n hx hb zd_LassoFinderModel_doable_30 rfl (lv_at hl 0 rfl) ?_
    refine lv_iload_n hx hb zd_LassoFinderModel_doable_31 rfl (lv_at hl 2 rfl) ?_
    refine z_calll (w1 := fun (u : zS) => wM ad K u.1 u.2.1 u.2.2.1 u.2.2.2) (wr := []) (z_runV (q0 := 0) (wc := (wM ad K I J B D)) (As := [.int x3]) (rest := []) ⟨hx, hb, hml, hown, hts⟩ (w_LassoFinderModel_maskOf l G K ad I J B D x3 _ H.size hok) zf_LassoFinderModel_maskOf zm_326 ⟨Nat.le_of_ble_eq_true rfl, Nat.le_of_ble_eq_true rfl⟩ hK hw (List.range 58) wM_all wM_nd wM_g0 rfl rfl hl.1 rfl (Nat.le_of_ble_eq_true rfl) zd_LassoFinderModel_doable_32 ⟨Nat.le_of_ble_eq_true rfl, Nat.le_of_ble_eq_true rfl⟩) hw hA (List.range 58) [] wM_all rfl (by decide) (fun i hi => by cases hi) (fun r7 u H locs hok hw => ?_)
    obtain ⟨I7, J7, B7, D7⟩ := u
    dsimp only at hok
    have hw : zW G A s.heap (wM ad K I7 J7 B7 D7) H locs := hw
    refine lv_iload hx hb zd_LassoFinderModel_doable_35 (lv_at hl 5 rfl) ?_
    refine lv_lshr hx hb zd_LassoFinderModel_doable_37 rfl ?_
    refine lv_topl (fun z8 ez8 => ?_)
    have hok := hok z8 ez8
    refine lv_lconst (v := 1) hx hb zd_LassoFinderModel_doable_38 (by decide) ?_
    refine lv_land hx hb zd_LassoFinderModel_doable_39 ?_
    refine lv_topl (fun z9 ez9 => ?_)
    have hok := hok z9 ez9
    refine lv_lconst (v := 0) hx hb zd_LassoFinderModel_doable_40 (by decide) ?_
    refine W.lcmp hx hb zd_LassoFinderModel_doable_41 ?_
    refine lv_topi (fun z10 ez10 => ?_)
    have hok := hok z10 ez10
    refine lv_if_ne (tgt := 48) hx hb zd_LassoFinderModel_doable_42 (by decide) (fun hc11 => ?_) (fun hc11 => ?_)
    · have hok := hok.1 hc11
      refine lv_aload_n hx hb zd_LassoFinderModel_doable_48 rfl (lv_at hl 0 rfl) ?_
      refine z_get (v := .ref (ad 19)) hx hb hts hown hK hw zZ12 0 wM_g0 28 (by decide) zm_253 rfl zd_LassoFinderModel_doable_49 ?_
      refine lv_iload hx hb zd_LassoFinderModel_doable_52 (lv_at hl 5 rfl) ?_
      refine va_iald (f := (B7 18)) hx hb hK hw.1 19 0 wM_a19 rfl hok.1 zd_LassoFinderModel_doable_54 ?_
      have hok := hok.2
      refine lv_topi (fun z12 ez12 => ?_)
      have hok := hok z12 ez12
      refine lv_istore hx hb zd_LassoFinderModel_doable_55 hl (by decide) rfl (fun ls hl => ?_)
      have hl : lv_has ls 10 [(9, .int z12), (0, .ref (ad 0)), (1, .long x1), (3, .int x3), (4, .long x4), (6, .long x6), (8, .int x8)] := hl
      refine lv_aload_n hx hb zd_LassoFinderModel_doable_57 rfl (lv_at hl 1 rfl) ?_
      refine z_get (v := .ref (ad 6)) hx hb hts hown hK hw zZ12 0 wM_g0 14 (by decide) zm_240 rfl zd_LassoFinderModel_doable_58 ?_
      refine lv_iload hx hb zd_LassoFinderModel_doable_61 (lv_at hl 0 rfl) ?_
      refine va_iald (f := (B7 5)) hx hb hK hw.1 6 0 wM_a6 rfl hok.1 zd_LassoFinderModel_doable_63 ?_
      have hok := hok.2
      refine lv_topi (fun z13 ez13 => ?_)
      have hok := hok z13 ez13
      refine lv_iconst (v := 5) hx hb zd_LassoFinderModel_doable_64 (by decide) ?_
      refine lv_icmp_ne (tgt := 80) hx hb zd_LassoFinderModel_doable_65 (by decide) (fun hc14 => ?_) (fun hc14 => ?_)
      · have hok := hok.1 hc14
        refine lv_aload_n hx hb zd_LassoFinderModel_doable_80 rfl (lv_at hl 1 rfl) ?_
        refine lv_iload hx hb zd_LassoFinderModel_doable_81 (lv_at hl 0 rfl) ?_
        refine z_calli (w1 := fun (u : zS) => wM ad K u.1 u.2.1 u.2.2.1 u.2.2.2) (wr := []) (z_runV (q0 := 0) (wc := (wM ad K I7 J7 B7 D7)) (As := [.int z12]) (rest := []) ⟨hx, hb, hml, hown, hts⟩ (w_LassoFinderModel_can l G K ad I7 J7 B7 D7 z12 _ H.size hok) zf_LassoFinderModel_can zm_327 ⟨Nat.le_of_ble_eq_true rfl, Nat.le_of_ble_eq_true rfl⟩ hK hw (List.range 58) wM_all wM_nd wM_g0 rfl rfl hl.1 rfl (Nat.le_of_ble_eq_true rfl) zd_LassoFinderModel_doable_83 ⟨Nat.le_of_ble_eq_true rfl, Nat.le_of_ble_eq_true rfl⟩) hw hA (List.range 58) [] wM_all rfl (by decide) (fun i hi => by cases hi) (fun r15 u H locs hok hw => ?_)
        obtain ⟨I15, J15, B15, D15⟩ := u
        dsimp only at hok
        have hw : zW G A s.heap (wM ad K I15 J15 B15 D15) H locs := hw
        refine lv_if_eq (tgt := 98) hx hb zd_LassoFinderModel_doable_86 (by decide) (fun hc16 => ?_) (fun hc16 => ?_)
        · have hok := hok.1 hc16
          exact wJ_LassoFinderModel_doable_98 G K ad  Post C K4 kh4 K21 kh21 x1 x3 x4 x6 x8 I15 J15 B15 D15 ls H locs hok (lv_sub hl [1, 2, 3, 4, 5, 6] rfl) hw
        · have hok := hok.2 hc16
          refine lv_lload hx hb zd_LassoFinderModel_doable_89 (lv_at hl 4 rfl) ?_
          refine lv_lconst (v := 1) hx hb zd_LassoFinderModel_doable_91 (by decide) ?_
          refine lv_iload hx hb zd_LassoFinderModel_doable_92 (lv_at hl 6 rfl) ?_
          refine lv_lshl hx hb zd_LassoFinderModel_doable_94 rfl ?_
          refine lv_topl (fun z17 ez17 => ?_)
          have hok := hok z17 ez17
          refine lv_lor hx hb zd_LassoFinderModel_doable_95 ?_
          refine lv_topl (fun z18 ez18 => ?_)
          have hok := hok z18 ez18
          refine lv_lstore hx hb zd_LassoFinderModel_doable_96 hl (by decide) rfl (fun ls hl => ?_)
          have hl : lv_has ls 10 [(4, .long z18), (9, .int z12), (0, .ref (ad 0)), (1, .long x1), (3, .int x3), (6, .long x6), (8, .int x8)] := hl
          exact wJ_LassoFinderModel_doable_98 G K ad  Post C K4 kh4 K21 kh21 x1 x3 z18 x6 x8 I15 J15 B15 D15 ls H locs hok (lv_sub hl [2, 3, 4, 0, 5, 6] rfl) hw
      · have hok := hok.2 hc14
        refine lv_lload hx hb zd_LassoFinderModel_doable_68 (lv_at hl 5 rfl) ?_
        refine lv_lconst (v := 1) hx hb zd_LassoFinderModel_doable_70 (by decide) ?_
        refine lv_iload hx hb zd_LassoFinderModel_doable_71 (lv_at hl 6 rfl) ?_
        refine lv_lshl hx hb zd_LassoFinderModel_doable_73 rfl ?_
        refine lv_topl (fun z19 ez19 => ?_)
        have hok := hok z19 ez19
        refine lv_lor hx hb zd_LassoFinderModel_doable_74 ?_
        refine lv_topl (fun z20 ez20 => ?_)
        have hok := hok z20 ez20
        refine lv_lstore hx hb zd_LassoFinderModel_doable_75 hl (by decide) rfl (fun ls hl => ?_)
        have hl : lv_has ls 10 [(6, .long z20), (9, .int z12), (0, .ref (ad 0)), (1, .long x1), (3, .int x3), (4, .long x4), (8, .int x8)] := hl
        refine lv_goto (tgt := 98) hx hb zd_LassoFinderModel_doable_77 (by decide) ?_
        exact wJ_LassoFinderModel_doable_98 G K ad  Post C K4 kh4 K21 kh21 x1 x3 x4 z20 x8 I7 J7 B7 D7 ls H locs hok (lv_sub hl [2, 3, 4, 5, 0, 6] rfl) hw
    · have hok := hok.2 hc11
      refine lv_goto (tgt := 98) hx hb zd_LassoFinderModel_doable_45 (by decide) ?_
      exact wJ_LassoFinderModel_doable_98 G K ad  Post C K4 kh4 K21 kh21 x1 x3 x4 x6 x8 I7 J7 B7 D7 ls H locs hok (lv_sub hl [0, 1, 2, 3, 4, 5] rfl) hw
theorem wL_LassoFinderModel_doable_21 {p : Program} {l : Launch} {e : Env} {s : State} {m : MethodId} {below : List Frame} {meth : Method} {c : Code} {A : Nat → Prop} (G : va_G) (K : Nat → ClassId) (ad : Nat → Nat) (Post : Int64 → (Nat → Int32) → (Nat → Int64) → (Nat → Nat → Int32) → (Nat → Nat → Int64) → Prop) (C : zCx p s m ([.ref (ad 0)] : List Value).toArray meth c A G K prog_14_method_33_code (some .long) 10 "LassoFinderModel") (K4 : Int64 → Int32 → (Nat → Int32) → (Nat → Int64) → (Nat → Nat → Int32) → (Nat → Nat → Int64) → Prop) (kh4 : ∀ (x1 : Int64) (x3 : Int32) (I : Nat → Int32) (J : Nat → Int64) (B : Nat → Nat → Int32) (D : Nat → Nat → Int64) (ls : Array Slot) (H : Heap) (locs : List Loc), K4 x1 x3 I J B D → lv_has ls 10 [(0, .ref (ad 0)), (1, .long x1), (3, .int x3)] → zW G A s.heap (wM ad K I J B D) H locs → W p l e { frames := 3, cells := 0, slots := 0, locals := 67 } s m ([.ref (ad 0)] : List Value).toArray below meth c H locs 0 0 (MQ below (va_Ql (fun (r : Int64) (u : zS) => Post r u.1 u.2.1 u.2.2.1 u.2.2.2) (fun u t => zPost G K A (wM ad K u.1 u.2.1 u.2.2.1 u.2.2.2) t) A) ([.ref (ad 0)] : List Value).toArray s 0 0 A) (F0 m 4 ls [])) : ∀ (n : Nat) (x1 : Int64) (x3 : Int32) (x4 : Int64) (x6 : Int64) (x8 : Int32) (I : Nat → Int32) (J : Nat → Int64) (B : Nat → Nat → Int32) (D : Nat → Nat → Int64) (ls : Array Slot) (H : Heap) (locs : List Loc), wl_LassoFinderModel_doable_21  K4 Post n x1 x3 x4 x6 x8 I J B D → lv_has ls 10 [(0, .ref (ad 0)), (1, .long x1), (3, .int x3), (4, .long x4), (6, .long x6), (8, .int x8)] → zW G A s.heap (wM ad K I J B D) H locs → W p l e { frames := 3, cells := 0, slots := 0, locals := 67 } s m ([.ref (ad 0)] : List Value).toArray below meth c H locs 0 0 (MQ below (va_Ql (fun (r : Int64) (u : zS) => Post r u.1 u.2.1 u.2.2.1 u.2.2.2) (fun u t => zPost G K A (wM ad K u.1 u.2.1 u.2.2.1 u.2.2.2) t) A) ([.ref (ad 0)] : List Value).toArray s 0 0 A) (F0 m 21 ls []) := by
  intro n
  induction n with
  | zero => intro x1 x3 x4 x6 x8 I J B D ls H locs hok; exact hok.elim
  | succ n ih => exact wB_LassoFinderModel_doable_21 G K ad  Post C K4 kh4 (wl_LassoFinderModel_doable_21  K4 Post n) ih
set_option maxHeartbeats 8000000 in
set_option maxRecDepth 100000 in
theorem wB_LassoFinderModel_doable_4 {p : Program} {l : Launch} {e : Env} {s : State} {m : MethodId} {below : List Frame} {meth : Method} {c : Code} {A : Nat → Prop} (G : va_G) (K : Nat → ClassId) (ad : Nat → Nat) (Post : Int64 → (Nat → Int32) → (Nat → Int64) → (Nat → Nat → Int32) → (Nat → Nat → Int64) → Prop) (C : zCx p s m ([.ref (ad 0)] : List Value).toArray meth c A G K prog_14_method_33_code (some .long) 10 "LassoFinderModel") (K4 : Int64 → Int32 → (Nat → Int32) → (Nat → Int64) → (Nat → Nat → Int32) → (Nat → Nat → Int64) → Prop) (kh4 : ∀ (x1 : Int64) (x3 : Int32) (I : Nat → Int32) (J : Nat → Int64) (B : Nat → Nat → Int32) (D : Nat → Nat → Int64) (ls : Array Slot) (H : Heap) (locs : List Loc), K4 x1 x3 I J B D → lv_has ls 10 [(0, .ref (ad 0)), (1, .long x1), (3, .int x3)] → zW G A s.heap (wM ad K I J B D) H locs → W p l e { frames := 3, cells := 0, slots := 0, locals := 67 } s m ([.ref (ad 0)] : List Value).toArray below meth c H locs 0 0 (MQ below (va_Ql (fun (r : Int64) (u : zS) => Post r u.1 u.2.1 u.2.2.1 u.2.2.2) (fun u t => zPost G K A (wM ad K u.1 u.2.1 u.2.2.1 u.2.2.2) t) A) ([.ref (ad 0)] : List Value).toArray s 0 0 A) (F0 m 4 ls [])) : ∀ (x1 : Int64) (x3 : Int32) (I : Nat → Int32) (J : Nat → Int64) (B : Nat → Nat → Int32) (D : Nat → Nat → Int64) (ls : Array Slot) (H : Heap) (locs : List Loc), wb_LassoFinderModel_doable_4  K4 Post x1 x3 I J B D → lv_has ls 10 [(0, .ref (ad 0)), (1, .long x1), (3, .int x3)] → zW G A s.heap (wM ad K I J B D) H locs → W p l e { frames := 3, cells := 0, slots := 0, locals := 67 } s m ([.ref (ad 0)] : List Value).toArray below meth c H locs 0 0 (MQ below (va_Ql (fun (r : Int64) (u : zS) => Post r u.1 u.2.1 u.2.2.1 u.2.2.2) (fun u t => zPost G K A (wM ad K u.1 u.2.1 u.2.2.1 u.2.2.2) t) A) ([.ref (ad 0)] : List Value).toArray s 0 0 A) (F0 m 4 ls []) := by
  obtain ⟨hx, hb, hr, hml, hts, hown, hlocks, hA, hK⟩ := id C
  intro x1 x3 I J B D ls H locs hok hl hw
  unfold wb_LassoFinderModel_doable_4 at hok
  refine lv_iload_n hx hb zd_LassoFinderModel_doable_4 rfl (lv_at hl 2 rfl) ?_
  refine lv_aload_n hx hb zd_LassoFinderModel_doable_5 rfl (lv_at hl 0 rfl) ?_
  refine z_get (v := .int (I 10)) hx hb hts hown hK hw zZ12 0 wM_g0 30 (by decide) zm_310 rfl zd_LassoFinderModel_doable_6 ?_
  refine lv_icmp_ge (tgt := 127) hx hb zd_LassoFinderModel_doable_9 (by decide) (fun hc21 => ?_) (fun hc21 => ?_)
  · have hok := hok.1 hc21
    refine lv_aload_n hx hb zd_LassoFinderModel_doable_127 rfl (lv_at hl 0 rfl) ?_
    refine z_get (v := .int (I 17)) hx hb hts hown hK hw zZ12 0 wM_g0 59 (by decide) zm_320 rfl zd_LassoFinderModel_doable_128 ?_
    refine lv_if_lt (tgt := 162) hx hb zd_LassoFinderModel_doable_131 (by decide) (fun hc22 => ?_) (fun hc22 => ?_)
    · have hok := hok.1 hc22
      exact wJ_LassoFinderModel_doable_162 G K ad  Post C x1 I J B D ls H locs hok (lv_sub hl [1] rfl) hw
    · have hok := hok.2 hc22
      refine lv_lload_n hx hb zd_LassoFinderModel_doable_134 rfl (lv_at hl 1 rfl) ?_
      refine lv_aload_n hx hb zd_LassoFinderModel_doable_135 rfl (lv_at hl 0 rfl) ?_
      refine lv_aload_n hx hb zd_LassoFinderModel_doable_136 rfl (lv_at hl 0 rfl) ?_
      refine z_get (v := .int (I 17)) hx hb hts hown hK hw zZ12 0 wM_g0 59 (by decide) zm_320 rfl zd_LassoFinderModel_doable_137 ?_
      refine z_calll (w1 := fun (u : zS) => wM ad K u.1 u.2.1 u.2.2.1 u.2.2.2) (wr := []) (z_runV (q0 := 0) (wc := (wM ad K I J B D)) (As := [.int (I 17)]) (rest := [.long x1]) ⟨hx, hb, hml, hown, hts⟩ (w_LassoFinderModel_maskOf l G K ad I J B D (I 17) _ H.size hok) zf_LassoFinderModel_maskOf zm_326 ⟨Nat.le_of_ble_eq_true rfl, Nat.le_of_ble_eq_true rfl⟩ hK hw (List.range 58) wM_all wM_nd wM_g0 rfl rfl hl.1 rfl (Nat.le_of_ble_eq_true rfl) zd_LassoFinderModel_doable_140 ⟨Nat.le_of_ble_eq_true rfl, Nat.le_of_ble_eq_true rfl⟩) hw hA (List.range 58) [] wM_all rfl (by decide) (fun i hi => by cases hi) (fun r23 u H locs hok hw => ?_)
      obtain ⟨I23, J23, B23, D23⟩ := u
      dsimp only at hok
      have hw : zW G A s.heap (wM ad K I23 J23 B23 D23) H locs := hw
      refine lv_land hx hb zd_LassoFinderModel_doable_143 ?_
      refine lv_topl (fun z24 ez24 => ?_)
      have hok := hok z24 ez24
      refine lv_lconst (v := 0) hx hb zd_LassoFinderModel_doable_144 (by decide) ?_
      refine W.lcmp hx hb zd_LassoFinderModel_doable_145 ?_
      refine lv_topi (fun z25 ez25 => ?_)
      have hok := hok z25 ez25
      refine lv_if_eq (tgt := 162) hx hb zd_LassoFinderModel_doable_146 (by decide) (fun hc26 => ?_) (fun hc26 => ?_)
      · have hok := hok.1 hc26
        exact wJ_LassoFinderModel_doable_162 G K ad  Post C x1 I23 J23 B23 D23 ls H locs hok (lv_sub hl [1] rfl) hw
      · have hok := hok.2 hc26
        refine lv_lload_n hx hb zd_LassoFinderModel_doable_149 rfl (lv_at hl 1 rfl) ?_
        refine lv_aload_n hx hb zd_LassoFinderModel_doable_150 rfl (lv_at hl 0 rfl) ?_
        refine lv_aload_n hx hb zd_LassoFinderModel_doable_151 rfl (lv_at hl 0 rfl) ?_
        refine z_get (v := .int (I23 17)) hx hb hts hown hK hw zZ12 0 wM_g0 59 (by decide) zm_320 rfl zd_LassoFinderModel_doable_152 ?_
        refine z_calll (w1 := fun (u : zS) => wM ad K u.1 u.2.1 u.2.2.1 u.2.2.2) (wr := []) (z_runV (q0 := 0) (wc := (wM ad K I23 J23 B23 D23)) (As := [.int (I23 17)]) (rest := [.long x1]) ⟨hx, hb, hml, hown, hts⟩ (w_LassoFinderModel_maskOf l G K ad I23 J23 B23 D23 (I23 17) _ H.size hok) zf_LassoFinderModel_maskOf zm_326 ⟨Nat.le_of_ble_eq_true rfl, Nat.le_of_ble_eq_true rfl⟩ hK hw (List.range 58) wM_all wM_nd wM_g0 rfl rfl hl.1 rfl (Nat.le_of_ble_eq_true rfl) zd_LassoFinderModel_doable_155 ⟨Nat.le_of_ble_eq_true rfl, Nat.le_of_ble_eq_true rfl⟩) hw hA (List.range 58) [] wM_all rfl (by decide) (fun i hi => by cases hi) (fun r27 u H locs hok hw => ?_)
        obtain ⟨I27, J27, B27, D27⟩ := u
        dsimp only at hok
        have hw : zW G A s.heap (wM ad K I27 J27 B27 D27) H locs := hw
        refine lv_land hx hb zd_LassoFinderModel_doable_158 ?_
        refine lv_topl (fun z28 ez28 => ?_)
        have hok := hok z28 ez28
        refine lv_goto (tgt := 163) hx hb zd_LassoFinderModel_doable_159 (by decide) ?_
        exact wJ_LassoFinderModel_doable_163 G K ad  Post C z28 I27 J27 B27 D27 ls H locs hok (lv_sub hl [] rfl) hw
  · have hok := hok.2 hc21
    refine lv_lconst (v := 0) hx hb zd_LassoFinderModel_doable_12 (by decide) ?_
    refine lv_lstore hx hb zd_LassoFinderModel_doable_13 hl (by decide) rfl (fun ls hl => ?_)
    have hl : lv_has ls 10 [(4, .long 0), (0, .ref (ad 0)), (1, .long x1), (3, .int x3)] := hl
    refine lv_lconst (v := 0) hx hb zd_LassoFinderModel_doable_15 (by decide) ?_
    refine lv_lstore hx hb zd_LassoFinderModel_doable_16 hl (by decide) rfl (fun ls hl => ?_)
    have hl : lv_has ls 10 [(6, .long 0), (4, .long 0), (0, .ref (ad 0)), (1, .long x1), (3, .int x3)] := hl
    refine lv_iconst (v := 0) hx hb zd_LassoFinderModel_doable_18 (by decide) ?_
    refine lv_istore hx hb zd_LassoFinderModel_doable_19 hl (by decide) rfl (fun ls hl => ?_)
    have hl : lv_has ls 10 [(8, .int 0), (6, .long 0), (4, .long 0), (0, .ref (ad 0)), (1, .long x1), (3, .int x3)] := hl
    obtain ⟨n9, hok⟩ := hok
    exact wL_LassoFinderModel_doable_21 G K ad  Post C K4 kh4 n9 x1 x3 0 0 0 I J B D ls H locs hok (lv_sub hl [3, 4, 5, 2, 1, 0] rfl) hw
theorem wL_LassoFinderModel_doable_4 {p : Program} {l : Launch} {e : Env} {s : State} {m : MethodId} {below : List Frame} {meth : Method} {c : Code} {A : Nat → Prop} (G : va_G) (K : Nat → ClassId) (ad : Nat → Nat) (Post : Int64 → (Nat → Int32) → (Nat → Int64) → (Nat → Nat → Int32) → (Nat → Nat → Int64) → Prop) (C : zCx p s m ([.ref (ad 0)] : List Value).toArray meth c A G K prog_14_method_33_code (some .long) 10 "LassoFinderModel") : ∀ (n : Nat) (x1 : Int64) (x3 : Int32) (I : Nat → Int32) (J : Nat → Int64) (B : Nat → Nat → Int32) (D : Nat → Nat → Int64) (ls : Array Slot) (H : Heap) (locs : List Loc), wl_LassoFinderModel_doable_4  Post n x1 x3 I J B D → lv_has ls 10 [(0, .ref (ad 0)), (1, .long x1), (3, .int x3)] → zW G A s.heap (wM ad K I J B D) H locs → W p l e { frames := 3, cells := 0, slots := 0, locals := 67 } s m ([.ref (ad 0)] : List Value).toArray below meth c H locs 0 0 (MQ below (va_Ql (fun (r : Int64) (u : zS) => Post r u.1 u.2.1 u.2.2.1 u.2.2.2) (fun u t => zPost G K A (wM ad K u.1 u.2.1 u.2.2.1 u.2.2.2) t) A) ([.ref (ad 0)] : List Value).toArray s 0 0 A) (F0 m 4 ls []) := by
  intro n
  induction n with
  | zero => intro x1 x3 I J B D ls H locs hok; exact hok.elim
  | succ n ih => exact wB_LassoFinderModel_doable_4 G K ad  Post C (wl_LassoFinderModel_doable_4  Post n) ih
set_option maxHeartbeats 8000000 in
set_option maxRecDepth 100000 in
theorem w_LassoFinderModel_doable (l : Launch) (G : va_G) (K : Nat → ClassId) (ad : Nat → Nat) (I : Nat → Int32) (J : Nat → Int64) (B : Nat → Nat → Int32) (D : Nat → Nat → Int64) (Post : Int64 → (Nat → Int32) → (Nat → Int64) → (Nat → Nat → Int32) → (Nat → Nat → Int64) → Prop) (sz : Nat) (hok : wp_LassoFinderModel_doable I J B D  Post) : Met l zy_LassoFinderModel_doable (Cond.code zy_LassoFinderModel_doable prog_14_method_33_code 10 (some .long) :: zTB) { frames := 3, cells := 0, slots := 0, locals := 67 } (va_Pc [.ref (ad 0)] (zPre G K (wM ad K I J B D) sz)) (va_Ql (fun (r : Int64) (u : zS) => Post r u.1 u.2.1 u.2.2.1 u.2.2.2) (fun u t => zPost G K (va_A (wM ad K I J B D) sz) (wM ad K u.1 u.2.1 u.2.2.1 u.2.2.2) t) (va_A (wM ad K I J B D) sz)) 0 0 (va_A (wM ad K I J B D) sz) := by
  refine zMet (y := zy_LassoFinderModel_doable) (av := [.ref (ad 0)]) (maxL := 10) (cc := prog_14_method_33_code) (ret := (some .long)) (W0 := (wM ad K I J B D)) (sz := sz) (G := G) (K := K) (wt := zTB) (mc := 0) (ms := 0) (Qf := fun A => va_Ql (fun (r : Int64) (u : zS) => Post r u.1 u.2.1 u.2.2.1 u.2.2.2) (fun u t => zPost G K A (wM ad K u.1 u.2.1 u.2.2.1 u.2.2.2) t) A) (by decide) (Nat.le_of_ble_eq_true rfl) ?_
  intro p e s m below meth c ls A hx hb hr hml hts hown hlocks hin hA hK H locs hw hsz hl
  clear hsz
  have hown : s.vm.findClass "LassoFinderModel" = some m.cls := hown
  have C : zCx p s m ([.ref (ad 0)] : List Value).toArray meth c A G K prog_14_method_33_code (some .long) 10 "LassoFinderModel" := ⟨hx, hb, hr, hml, hts, hown, hlocks, hA, hK⟩
  have hl : lv_has ls 10 [(0, .ref (ad 0))] := hl
  have hw : zW G A s.heap (wM ad K I J B D) H locs := hw
  unfold wp_LassoFinderModel_doable at hok
  refine lv_lconst (v := 0) hx hb zd_LassoFinderModel_doable_0 (by decide) ?_
  refine lv_lstore_n hx hb zd_LassoFinderModel_doable_1 rfl hl (by decide) rfl (fun ls hl => ?_)
  have hl : lv_has ls 10 [(1, .long 0), (0, .ref (ad 0))] := hl
  refine lv_iconst (v := 0) hx hb zd_LassoFinderModel_doable_2 (by decide) ?_
  refine lv_istore_n hx hb zd_LassoFinderModel_doable_3 rfl hl (by decide) rfl (fun ls hl => ?_)
  have hl : lv_has ls 10 [(3, .int 0), (1, .long 0), (0, .ref (ad 0))] := hl
  obtain ⟨n9, hok⟩ := hok
  exact wL_LassoFinderModel_doable_4 G K ad  Post C n9 0 0 I J B D ls H locs hok (lv_sub hl [2, 1, 0] rfl) hw
