abbrev zy_LassoFinderModel_formula : MethodName := ⟨"LassoFinderModel", "formula", "()I"⟩
abbrev zy_LassoFinderModel_wholeFormula : MethodName := ⟨"LassoFinderModel", "wholeFormula", "()Z"⟩
theorem zm_285 : Cond.fieldLink "LassoFinderModel" 166 "LassoFinderModel" "look" "[I" ∈ zTB := z_in (zt_6 _ (List.mem_of_getElem? (i := 168) rfl)) rfl
theorem zm_352 : Cond.methodLink "LassoFinderModel" 406 ⟨"LassoFinderModel", "wholeFormula", "()Z"⟩ ∈ zTB := z_in (zt_8 _ (List.mem_of_getElem? (i := 28) rfl)) rfl
theorem zm_354 : Cond.methodLink "LassoFinderModel" 409 ⟨"LassoFinderModel", "holdsAt", "(I)Z"⟩ ∈ zTB := z_in (zt_8 _ (List.mem_of_getElem? (i := 55) rfl)) rfl
theorem zm_355 : Cond.methodLink "LassoFinderModel" 412 ⟨"LassoFinderModel", "looked", "(II)I"⟩ ∈ zTB := z_in (zt_8 _ (List.mem_of_getElem? (i := 59) rfl)) rfl
theorem zm_358 : Cond.methodLink "LassoFinderModel" 403 ⟨"LassoFinderModel", "putAll", "(I)V"⟩ ∈ zTB := z_in (zt_8 _ (List.mem_of_getElem? (i := 51) rfl)) rfl
theorem zm_359 : Cond.methodLink "LassoFinderModel" 397 ⟨"LassoFinderModel", "push", "(I)Z"⟩ ∈ zTB := z_in (zt_8 _ (List.mem_of_getElem? (i := 32) rfl)) rfl
theorem zm_360 : Cond.methodLink "LassoFinderModel" 400 ⟨"LassoFinderModel", "atom", "()Z"⟩ ∈ zTB := z_in (zt_8 _ (List.mem_of_getElem? (i := 43) rfl)) rfl
theorem zm_458 : Cond.code ⟨"LassoFinderModel", "looked", "(II)I"⟩ prog_14_method_49_code 10 (some .int) ∈ zTB := z_in (zt_8 _ (List.mem_of_getElem? (i := 62) rfl)) rfl
theorem zm_459 : Cond.instanceMethod ⟨"LassoFinderModel", "looked", "(II)I"⟩ ∈ zTB := z_in (zt_8 _ (List.mem_of_getElem? (i := 61) rfl)) rfl
theorem zm_460 : Cond.code ⟨"LassoFinderModel", "holdsAt", "(I)Z"⟩ prog_14_method_48_code 2 (some .boolean) ∈ zTB := z_in (zt_8 _ (List.mem_of_getElem? (i := 58) rfl)) rfl
theorem zm_461 : Cond.instanceMethod ⟨"LassoFinderModel", "holdsAt", "(I)Z"⟩ ∈ zTB := z_in (zt_8 _ (List.mem_of_getElem? (i := 57) rfl)) rfl
theorem zm_462 : Cond.code ⟨"LassoFinderModel", "push", "(I)Z"⟩ prog_14_method_46_code 2 (some .boolean) ∈ zTB := z_in (zt_8 _ (List.mem_of_getElem? (i := 35) rfl)) rfl
theorem zm_463 : Cond.instanceMethod ⟨"LassoFinderModel", "push", "(I)Z"⟩ ∈ zTB := z_in (zt_8 _ (List.mem_of_getElem? (i := 34) rfl)) rfl
theorem zm_464 : Cond.code ⟨"LassoFinderModel", "putAll", "(I)V"⟩ prog_14_method_44_code 2 none ∈ zTB := z_in (zt_8 _ (List.mem_of_getElem? (i := 54) rfl)) rfl
theorem zm_465 : Cond.instanceMethod ⟨"LassoFinderModel", "putAll", "(I)V"⟩ ∈ zTB := z_in (zt_8 _ (List.mem_of_getElem? (i := 53) rfl)) rfl
theorem zm_466 : Cond.code ⟨"LassoFinderModel", "atom", "()Z"⟩ prog_14_method_45_code 4 (some .boolean) ∈ zTB := z_in (zt_8 _ (List.mem_of_getElem? (i := 46) rfl)) rfl
theorem zm_467 : Cond.instanceMethod ⟨"LassoFinderModel", "atom", "()Z"⟩ ∈ zTB := z_in (zt_8 _ (List.mem_of_getElem? (i := 45) rfl)) rfl
theorem zm_468 : Cond.code ⟨"LassoFinderModel", "wholeFormula", "()Z"⟩ prog_14_method_47_code 5 (some .boolean) ∈ zTB := z_in (zt_8 _ (List.mem_of_getElem? (i := 31) rfl)) rfl
theorem zm_469 : Cond.instanceMethod ⟨"LassoFinderModel", "wholeFormula", "()Z"⟩ ∈ zTB := z_in (zt_8 _ (List.mem_of_getElem? (i := 30) rfl)) rfl
theorem zf_LassoFinderModel_looked : zFaceV zy_LassoFinderModel_looked prog_14_method_49_code 10 (some .int) 2 := ⟨zm_459, (z_in (zp_8 _ (List.mem_of_getElem? (i := 0) rfl)) rfl), zm_25, zm_458, by decide +kernel, by decide +kernel, by decide +kernel⟩
theorem zf_LassoFinderModel_holdsAt : zFaceV zy_LassoFinderModel_holdsAt prog_14_method_48_code 2 (some .boolean) 1 := ⟨zm_461, (z_in (zp_7 _ (List.mem_of_getElem? (i := 15) rfl)) rfl), zm_25, zm_460, by decide +kernel, by decide +kernel, by decide +kernel⟩
theorem zf_LassoFinderModel_push : zFaceV zy_LassoFinderModel_push prog_14_method_46_code 2 (some .boolean) 1 := ⟨zm_463, (z_in (zp_7 _ (List.mem_of_getElem? (i := 10) rfl)) rfl), zm_25, zm_462, by decide +kernel, by decide +kernel, by decide +kernel⟩
theorem zf_LassoFinderModel_putAll : zFaceV zy_LassoFinderModel_putAll prog_14_method_44_code 2 none 1 := ⟨zm_465, (z_in (zp_7 _ (List.mem_of_getElem? (i := 14) rfl)) rfl), zm_25, zm_464, by decide +kernel, by decide +kernel, by decide +kernel⟩
theorem zf_LassoFinderModel_atom : zFaceV zy_LassoFinderModel_atom prog_14_method_45_code 4 (some .boolean) 0 := ⟨zm_467, (z_in (zp_7 _ (List.mem_of_getElem? (i := 12) rfl)) rfl), zm_25, zm_466, by decide +kernel, by decide +kernel, by decide +kernel⟩
theorem zf_LassoFinderModel_wholeFormula : zFaceV zy_LassoFinderModel_wholeFormula prog_14_method_47_code 5 (some .boolean) 0 := ⟨zm_469, (z_in (zp_7 _ (List.mem_of_getElem? (i := 9) rfl)) rfl), zm_25, zm_468, by decide +kernel, by decide +kernel, by decide +kernel⟩
theorem zd_LassoFinderModel_formula_0 : decode prog_14_method_50_code 0 = .ok (.aload_n 0, 1) := by decide +kernel
theorem zd_LassoFinderModel_formula_1 : decode prog_14_method_50_code 1 = .ok (.iconst 0, 1) := by decide +kernel
theorem zd_LassoFinderModel_formula_2 : decode prog_14_method_50_code 2 = .ok (.putfield 358, 3) := by decide +kernel
theorem zd_LassoFinderModel_formula_5 : decode prog_14_method_50_code 5 = .ok (.aload_n 0, 1) := by decide +kernel
theorem zd_LassoFinderModel_formula_6 : decode prog_14_method_50_code 6 = .ok (.iconst (-1), 1) := by decide +kernel
theorem zd_LassoFinderModel_formula_7 : decode prog_14_method_50_code 7 = .ok (.putfield 178, 3) := by decide +kernel
theorem zd_LassoFinderModel_formula_10 : decode prog_14_method_50_code 10 = .ok (.aload_n 0, 1) := by decide +kernel
theorem zd_LassoFinderModel_formula_11 : decode prog_14_method_50_code 11 = .ok (.iconst (-1), 1) := by decide +kernel
theorem zd_LassoFinderModel_formula_12 : decode prog_14_method_50_code 12 = .ok (.putfield 13, 3) := by decide +kernel
theorem zd_LassoFinderModel_formula_15 : decode prog_14_method_50_code 15 = .ok (.aload_n 0, 1) := by decide +kernel
theorem zd_LassoFinderModel_formula_16 : decode prog_14_method_50_code 16 = .ok (.iconst 1, 1) := by decide +kernel
theorem zd_LassoFinderModel_formula_17 : decode prog_14_method_50_code 17 = .ok (.putfield 193, 3) := by decide +kernel
theorem zd_LassoFinderModel_formula_20 : decode prog_14_method_50_code 20 = .ok (.aload_n 0, 1) := by decide +kernel
theorem zd_LassoFinderModel_formula_21 : decode prog_14_method_50_code 21 = .ok (.getfield 361, 3) := by decide +kernel
theorem zd_LassoFinderModel_formula_24 : decode prog_14_method_50_code 24 = .ok (.ifCond .eq 14, 3) := by decide +kernel
theorem zd_LassoFinderModel_formula_27 : decode prog_14_method_50_code 27 = .ok (.aload_n 0, 1) := by decide +kernel
theorem zd_LassoFinderModel_formula_28 : decode prog_14_method_50_code 28 = .ok (.invokevirtual 406, 3) := by decide +kernel
theorem zd_LassoFinderModel_formula_31 : decode prog_14_method_50_code 31 = .ok (.ifCond .eq 7, 3) := by decide +kernel
theorem zd_LassoFinderModel_formula_34 : decode prog_14_method_50_code 34 = .ok (.iconst 1, 1) := by decide +kernel
theorem zd_LassoFinderModel_formula_35 : decode prog_14_method_50_code 35 = .ok (.goto 4, 3) := by decide +kernel
theorem zd_LassoFinderModel_formula_38 : decode prog_14_method_50_code 38 = .ok (.iconst 0, 1) := by decide +kernel
theorem zd_LassoFinderModel_formula_39 : decode prog_14_method_50_code 39 = .ok (.istore_n 1, 1) := by decide +kernel
theorem zd_LassoFinderModel_formula_40 : decode prog_14_method_50_code 40 = .ok (.aload_n 0, 1) := by decide +kernel
theorem zd_LassoFinderModel_formula_41 : decode prog_14_method_50_code 41 = .ok (.iconst 0, 1) := by decide +kernel
theorem zd_LassoFinderModel_formula_42 : decode prog_14_method_50_code 42 = .ok (.putfield 200, 3) := by decide +kernel
theorem zd_LassoFinderModel_formula_45 : decode prog_14_method_50_code 45 = .ok (.aload_n 0, 1) := by decide +kernel
theorem zd_LassoFinderModel_formula_46 : decode prog_14_method_50_code 46 = .ok (.getfield 361, 3) := by decide +kernel
theorem zd_LassoFinderModel_formula_49 : decode prog_14_method_50_code 49 = .ok (.ifCond .ne 5, 3) := by decide +kernel
theorem zd_LassoFinderModel_formula_52 : decode prog_14_method_50_code 52 = .ok (.iconst 0, 1) := by decide +kernel
theorem zd_LassoFinderModel_formula_53 : decode prog_14_method_50_code 53 = .ok (.ireturn, 1) := by decide +kernel
theorem zd_LassoFinderModel_formula_54 : decode prog_14_method_50_code 54 = .ok (.aload_n 0, 1) := by decide +kernel
theorem zd_LassoFinderModel_formula_55 : decode prog_14_method_50_code 55 = .ok (.iload_n 1, 1) := by decide +kernel
theorem zd_LassoFinderModel_formula_56 : decode prog_14_method_50_code 56 = .ok (.ifCond .eq 7, 3) := by decide +kernel
theorem zd_LassoFinderModel_formula_59 : decode prog_14_method_50_code 59 = .ok (.iconst (-1), 1) := by decide +kernel
theorem zd_LassoFinderModel_formula_60 : decode prog_14_method_50_code 60 = .ok (.goto 7, 3) := by decide +kernel
theorem zd_LassoFinderModel_formula_63 : decode prog_14_method_50_code 63 = .ok (.aload_n 0, 1) := by decide +kernel
theorem zd_LassoFinderModel_formula_64 : decode prog_14_method_50_code 64 = .ok (.getfield 206, 3) := by decide +kernel
theorem zd_LassoFinderModel_formula_67 : decode prog_14_method_50_code 67 = .ok (.putfield 13, 3) := by decide +kernel
theorem zd_LassoFinderModel_formula_70 : decode prog_14_method_50_code 70 = .ok (.aload_n 0, 1) := by decide +kernel
theorem zd_LassoFinderModel_formula_71 : decode prog_14_method_50_code 71 = .ok (.iload_n 1, 1) := by decide +kernel
theorem zd_LassoFinderModel_formula_72 : decode prog_14_method_50_code 72 = .ok (.ifCond .eq 7, 3) := by decide +kernel
theorem zd_LassoFinderModel_formula_75 : decode prog_14_method_50_code 75 = .ok (.iconst 0, 1) := by decide +kernel
theorem zd_LassoFinderModel_formula_76 : decode prog_14_method_50_code 76 = .ok (.goto 4, 3) := by decide +kernel
theorem zd_LassoFinderModel_formula_79 : decode prog_14_method_50_code 79 = .ok (.iconst 2, 1) := by decide +kernel
theorem zd_LassoFinderModel_formula_80 : decode prog_14_method_50_code 80 = .ok (.putfield 193, 3) := by decide +kernel
theorem zd_LassoFinderModel_formula_83 : decode prog_14_method_50_code 83 = .ok (.iload_n 1, 1) := by decide +kernel
theorem zd_LassoFinderModel_formula_84 : decode prog_14_method_50_code 84 = .ok (.ifCond .ne 5, 3) := by decide +kernel
theorem zd_LassoFinderModel_formula_87 : decode prog_14_method_50_code 87 = .ok (.iconst 0, 1) := by decide +kernel
theorem zd_LassoFinderModel_formula_88 : decode prog_14_method_50_code 88 = .ok (.ireturn, 1) := by decide +kernel
theorem zd_LassoFinderModel_formula_89 : decode prog_14_method_50_code 89 = .ok (.iconst 0, 1) := by decide +kernel
theorem zd_LassoFinderModel_formula_90 : decode prog_14_method_50_code 90 = .ok (.istore_n 2, 1) := by decide +kernel
theorem zd_LassoFinderModel_formula_91 : decode prog_14_method_50_code 91 = .ok (.iload_n 2, 1) := by decide +kernel
theorem zd_LassoFinderModel_formula_92 : decode prog_14_method_50_code 92 = .ok (.aload_n 0, 1) := by decide +kernel
theorem zd_LassoFinderModel_formula_93 : decode prog_14_method_50_code 93 = .ok (.getfield 345, 3) := by decide +kernel
theorem zd_LassoFinderModel_formula_96 : decode prog_14_method_50_code 96 = .ok (.if_icmp .ge 94, 3) := by decide +kernel
theorem zd_LassoFinderModel_formula_99 : decode prog_14_method_50_code 99 = .ok (.aload_n 0, 1) := by decide +kernel
theorem zd_LassoFinderModel_formula_100 : decode prog_14_method_50_code 100 = .ok (.aload_n 0, 1) := by decide +kernel
theorem zd_LassoFinderModel_formula_101 : decode prog_14_method_50_code 101 = .ok (.getfield 106, 3) := by decide +kernel
theorem zd_LassoFinderModel_formula_104 : decode prog_14_method_50_code 104 = .ok (.iload_n 2, 1) := by decide +kernel
theorem zd_LassoFinderModel_formula_105 : decode prog_14_method_50_code 105 = .ok (.laload, 1) := by decide +kernel
theorem zd_LassoFinderModel_formula_106 : decode prog_14_method_50_code 106 = .ok (.invokevirtual 334, 3) := by decide +kernel
theorem zd_LassoFinderModel_formula_109 : decode prog_14_method_50_code 109 = .ok (.iconst 0, 1) := by decide +kernel
theorem zd_LassoFinderModel_formula_110 : decode prog_14_method_50_code 110 = .ok (.istore_n 3, 1) := by decide +kernel
theorem zd_LassoFinderModel_formula_111 : decode prog_14_method_50_code 111 = .ok (.iconst 0, 1) := by decide +kernel
theorem zd_LassoFinderModel_formula_112 : decode prog_14_method_50_code 112 = .ok (.istore 4, 2) := by decide +kernel
theorem zd_LassoFinderModel_formula_114 : decode prog_14_method_50_code 114 = .ok (.iload 4, 2) := by decide +kernel
theorem zd_LassoFinderModel_formula_116 : decode prog_14_method_50_code 116 = .ok (.aload_n 0, 1) := by decide +kernel
theorem zd_LassoFinderModel_formula_117 : decode prog_14_method_50_code 117 = .ok (.getfield 388, 3) := by decide +kernel
theorem zd_LassoFinderModel_formula_120 : decode prog_14_method_50_code 120 = .ok (.if_icmp .ge 29, 3) := by decide +kernel
theorem zd_LassoFinderModel_formula_123 : decode prog_14_method_50_code 123 = .ok (.iload_n 3, 1) := by decide +kernel
theorem zd_LassoFinderModel_formula_124 : decode prog_14_method_50_code 124 = .ok (.aload_n 0, 1) := by decide +kernel
theorem zd_LassoFinderModel_formula_125 : decode prog_14_method_50_code 125 = .ok (.iload 4, 2) := by decide +kernel
theorem zd_LassoFinderModel_formula_127 : decode prog_14_method_50_code 127 = .ok (.invokevirtual 409, 3) := by decide +kernel
theorem zd_LassoFinderModel_formula_130 : decode prog_14_method_50_code 130 = .ok (.ifCond .eq 10, 3) := by decide +kernel
theorem zd_LassoFinderModel_formula_133 : decode prog_14_method_50_code 133 = .ok (.iconst 1, 1) := by decide +kernel
theorem zd_LassoFinderModel_formula_134 : decode prog_14_method_50_code 134 = .ok (.iload 4, 2) := by decide +kernel
theorem zd_LassoFinderModel_formula_136 : decode prog_14_method_50_code 136 = .ok (.ishl, 1) := by decide +kernel
theorem zd_LassoFinderModel_formula_137 : decode prog_14_method_50_code 137 = .ok (.goto 4, 3) := by decide +kernel
theorem zd_LassoFinderModel_formula_140 : decode prog_14_method_50_code 140 = .ok (.iconst 0, 1) := by decide +kernel
theorem zd_LassoFinderModel_formula_141 : decode prog_14_method_50_code 141 = .ok (.ior, 1) := by decide +kernel
theorem zd_LassoFinderModel_formula_142 : decode prog_14_method_50_code 142 = .ok (.istore_n 3, 1) := by decide +kernel
theorem zd_LassoFinderModel_formula_143 : decode prog_14_method_50_code 143 = .ok (.iinc 4 1, 3) := by decide +kernel
theorem zd_LassoFinderModel_formula_146 : decode prog_14_method_50_code 146 = .ok (.goto (-32), 3) := by decide +kernel
theorem zd_LassoFinderModel_formula_149 : decode prog_14_method_50_code 149 = .ok (.iconst 0, 1) := by decide +kernel
theorem zd_LassoFinderModel_formula_150 : decode prog_14_method_50_code 150 = .ok (.istore 4, 2) := by decide +kernel
theorem zd_LassoFinderModel_formula_152 : decode prog_14_method_50_code 152 = .ok (.iload 4, 2) := by decide +kernel
theorem zd_LassoFinderModel_formula_154 : decode prog_14_method_50_code 154 = .ok (.bipush 8, 2) := by decide +kernel
theorem zd_LassoFinderModel_formula_156 : decode prog_14_method_50_code 156 = .ok (.if_icmp .ge 28, 3) := by decide +kernel
theorem zd_LassoFinderModel_formula_159 : decode prog_14_method_50_code 159 = .ok (.aload_n 0, 1) := by decide +kernel
theorem zd_LassoFinderModel_formula_160 : decode prog_14_method_50_code 160 = .ok (.getfield 166, 3) := by decide +kernel
theorem zd_LassoFinderModel_formula_163 : decode prog_14_method_50_code 163 = .ok (.bipush 8, 2) := by decide +kernel
theorem zd_LassoFinderModel_formula_165 : decode prog_14_method_50_code 165 = .ok (.iload_n 2, 1) := by decide +kernel
theorem zd_LassoFinderModel_formula_166 : decode prog_14_method_50_code 166 = .ok (.imul, 1) := by decide +kernel
theorem zd_LassoFinderModel_formula_167 : decode prog_14_method_50_code 167 = .ok (.iload 4, 2) := by decide +kernel
theorem zd_LassoFinderModel_formula_169 : decode prog_14_method_50_code 169 = .ok (.iadd, 1) := by decide +kernel
theorem zd_LassoFinderModel_formula_170 : decode prog_14_method_50_code 170 = .ok (.aload_n 0, 1) := by decide +kernel
theorem zd_LassoFinderModel_formula_171 : decode prog_14_method_50_code 171 = .ok (.iload_n 3, 1) := by decide +kernel
theorem zd_LassoFinderModel_formula_172 : decode prog_14_method_50_code 172 = .ok (.iload 4, 2) := by decide +kernel
theorem zd_LassoFinderModel_formula_174 : decode prog_14_method_50_code 174 = .ok (.invokevirtual 412, 3) := by decide +kernel
theorem zd_LassoFinderModel_formula_177 : decode prog_14_method_50_code 177 = .ok (.iastore, 1) := by decide +kernel
theorem zd_LassoFinderModel_formula_178 : decode prog_14_method_50_code 178 = .ok (.iinc 4 1, 3) := by decide +kernel
theorem zd_LassoFinderModel_formula_181 : decode prog_14_method_50_code 181 = .ok (.goto (-29), 3) := by decide +kernel
theorem zd_LassoFinderModel_formula_184 : decode prog_14_method_50_code 184 = .ok (.iinc 2 1, 3) := by decide +kernel
theorem zd_LassoFinderModel_formula_187 : decode prog_14_method_50_code 187 = .ok (.goto (-96), 3) := by decide +kernel
theorem zd_LassoFinderModel_formula_190 : decode prog_14_method_50_code 190 = .ok (.aload_n 0, 1) := by decide +kernel
theorem zd_LassoFinderModel_formula_191 : decode prog_14_method_50_code 191 = .ok (.iconst 1, 1) := by decide +kernel
theorem zd_LassoFinderModel_formula_192 : decode prog_14_method_50_code 192 = .ok (.putfield 358, 3) := by decide +kernel
theorem zd_LassoFinderModel_formula_195 : decode prog_14_method_50_code 195 = .ok (.aload_n 0, 1) := by decide +kernel
theorem zd_LassoFinderModel_formula_196 : decode prog_14_method_50_code 196 = .ok (.getfield 376, 3) := by decide +kernel
theorem zd_LassoFinderModel_formula_199 : decode prog_14_method_50_code 199 = .ok (.ireturn, 1) := by decide +kernel
theorem zd_LassoFinderModel_wholeFormula_0 : decode prog_14_method_47_code 0 = .ok (.aload_n 0, 1) := by decide +kernel
theorem zd_LassoFinderModel_wholeFormula_1 : decode prog_14_method_47_code 1 = .ok (.iconst 0, 1) := by decide +kernel
theorem zd_LassoFinderModel_wholeFormula_2 : decode prog_14_method_47_code 2 = .ok (.putfield 203, 3) := by decide +kernel
theorem zd_LassoFinderModel_wholeFormula_5 : decode prog_14_method_47_code 5 = .ok (.aload_n 0, 1) := by decide +kernel
theorem zd_LassoFinderModel_wholeFormula_6 : decode prog_14_method_47_code 6 = .ok (.iconst (-1), 1) := by decide +kernel
theorem zd_LassoFinderModel_wholeFormula_7 : decode prog_14_method_47_code 7 = .ok (.putfield 206, 3) := by decide +kernel
theorem zd_LassoFinderModel_wholeFormula_10 : decode prog_14_method_47_code 10 = .ok (.aload_n 0, 1) := by decide +kernel
theorem zd_LassoFinderModel_wholeFormula_11 : decode prog_14_method_47_code 11 = .ok (.aload_n 0, 1) := by decide +kernel
theorem zd_LassoFinderModel_wholeFormula_12 : decode prog_14_method_47_code 12 = .ok (.getfield 367, 3) := by decide +kernel
theorem zd_LassoFinderModel_wholeFormula_15 : decode prog_14_method_47_code 15 = .ok (.putfield 217, 3) := by decide +kernel
theorem zd_LassoFinderModel_wholeFormula_18 : decode prog_14_method_47_code 18 = .ok (.aload_n 0, 1) := by decide +kernel
theorem zd_LassoFinderModel_wholeFormula_19 : decode prog_14_method_47_code 19 = .ok (.iconst 0, 1) := by decide +kernel
theorem zd_LassoFinderModel_wholeFormula_20 : decode prog_14_method_47_code 20 = .ok (.putfield 379, 3) := by decide +kernel
theorem zd_LassoFinderModel_wholeFormula_23 : decode prog_14_method_47_code 23 = .ok (.aload_n 0, 1) := by decide +kernel
theorem zd_LassoFinderModel_wholeFormula_24 : decode prog_14_method_47_code 24 = .ok (.iconst 0, 1) := by decide +kernel
theorem zd_LassoFinderModel_wholeFormula_25 : decode prog_14_method_47_code 25 = .ok (.putfield 376, 3) := by decide +kernel
theorem zd_LassoFinderModel_wholeFormula_28 : decode prog_14_method_47_code 28 = .ok (.aload_n 0, 1) := by decide +kernel
theorem zd_LassoFinderModel_wholeFormula_29 : decode prog_14_method_47_code 29 = .ok (.iconst 0, 1) := by decide +kernel
theorem zd_LassoFinderModel_wholeFormula_30 : decode prog_14_method_47_code 30 = .ok (.putfield 388, 3) := by decide +kernel
theorem zd_LassoFinderModel_wholeFormula_33 : decode prog_14_method_47_code 33 = .ok (.aload_n 0, 1) := by decide +kernel
theorem zd_LassoFinderModel_wholeFormula_34 : decode prog_14_method_47_code 34 = .ok (.iconst 0, 1) := by decide +kernel
theorem zd_LassoFinderModel_wholeFormula_35 : decode prog_14_method_47_code 35 = .ok (.putfield 391, 3) := by decide +kernel
theorem zd_LassoFinderModel_wholeFormula_38 : decode prog_14_method_47_code 38 = .ok (.aload_n 0, 1) := by decide +kernel
theorem zd_LassoFinderModel_wholeFormula_39 : decode prog_14_method_47_code 39 = .ok (.iconst 0, 1) := by decide +kernel
theorem zd_LassoFinderModel_wholeFormula_40 : decode prog_14_method_47_code 40 = .ok (.putfield 220, 3) := by decide +kernel
theorem zd_LassoFinderModel_wholeFormula_43 : decode prog_14_method_47_code 43 = .ok (.iconst 0, 1) := by decide +kernel
theorem zd_LassoFinderModel_wholeFormula_44 : decode prog_14_method_47_code 44 = .ok (.istore_n 1, 1) := by decide +kernel
theorem zd_LassoFinderModel_wholeFormula_45 : decode prog_14_method_47_code 45 = .ok (.iconst 1, 1) := by decide +kernel
theorem zd_LassoFinderModel_wholeFormula_46 : decode prog_14_method_47_code 46 = .ok (.istore_n 2, 1) := by decide +kernel
theorem zd_LassoFinderModel_wholeFormula_47 : decode prog_14_method_47_code 47 = .ok (.iload_n 2, 1) := by decide +kernel
theorem zd_LassoFinderModel_wholeFormula_48 : decode prog_14_method_47_code 48 = .ok (.ifCond .ne 14, 3) := by decide +kernel
theorem zd_LassoFinderModel_wholeFormula_51 : decode prog_14_method_47_code 51 = .ok (.aload_n 0, 1) := by decide +kernel
theorem zd_LassoFinderModel_wholeFormula_52 : decode prog_14_method_47_code 52 = .ok (.getfield 203, 3) := by decide +kernel
theorem zd_LassoFinderModel_wholeFormula_55 : decode prog_14_method_47_code 55 = .ok (.aload_n 0, 1) := by decide +kernel
theorem zd_LassoFinderModel_wholeFormula_56 : decode prog_14_method_47_code 56 = .ok (.getfield 200, 3) := by decide +kernel
theorem zd_LassoFinderModel_wholeFormula_59 : decode prog_14_method_47_code 59 = .ok (.if_icmp .ge 293, 3) := by decide +kernel
theorem zd_LassoFinderModel_wholeFormula_62 : decode prog_14_method_47_code 62 = .ok (.aload_n 0, 1) := by decide +kernel
theorem zd_LassoFinderModel_wholeFormula_63 : decode prog_14_method_47_code 63 = .ok (.invokevirtual 209, 3) := by decide +kernel
theorem zd_LassoFinderModel_wholeFormula_66 : decode prog_14_method_47_code 66 = .ok (.istore_n 3, 1) := by decide +kernel
theorem zd_LassoFinderModel_wholeFormula_67 : decode prog_14_method_47_code 67 = .ok (.iload_n 2, 1) := by decide +kernel
theorem zd_LassoFinderModel_wholeFormula_68 : decode prog_14_method_47_code 68 = .ok (.ifCond .eq 120, 3) := by decide +kernel
theorem zd_LassoFinderModel_wholeFormula_71 : decode prog_14_method_47_code 71 = .ok (.iload_n 3, 1) := by decide +kernel
theorem zd_LassoFinderModel_wholeFormula_72 : decode prog_14_method_47_code 72 = .ok (.bipush 33, 2) := by decide +kernel
theorem zd_LassoFinderModel_wholeFormula_74 : decode prog_14_method_47_code 74 = .ok (.if_icmp .ne 8, 3) := by decide +kernel
theorem zd_LassoFinderModel_wholeFormula_77 : decode prog_14_method_47_code 77 = .ok (.bipush 8, 2) := by decide +kernel
theorem zd_LassoFinderModel_wholeFormula_79 : decode prog_14_method_47_code 79 = .ok (.goto 37, 3) := by decide +kernel
theorem zd_LassoFinderModel_wholeFormula_82 : decode prog_14_method_47_code 82 = .ok (.iload_n 3, 1) := by decide +kernel
theorem zd_LassoFinderModel_wholeFormula_83 : decode prog_14_method_47_code 83 = .ok (.bipush 71, 2) := by decide +kernel
theorem zd_LassoFinderModel_wholeFormula_85 : decode prog_14_method_47_code 85 = .ok (.if_icmp .ne 8, 3) := by decide +kernel
theorem zd_LassoFinderModel_wholeFormula_88 : decode prog_14_method_47_code 88 = .ok (.bipush 14, 2) := by decide +kernel
theorem zd_LassoFinderModel_wholeFormula_90 : decode prog_14_method_47_code 90 = .ok (.goto 26, 3) := by decide +kernel
theorem zd_LassoFinderModel_wholeFormula_93 : decode prog_14_method_47_code 93 = .ok (.iload_n 3, 1) := by decide +kernel
theorem zd_LassoFinderModel_wholeFormula_94 : decode prog_14_method_47_code 94 = .ok (.bipush 70, 2) := by decide +kernel
theorem zd_LassoFinderModel_wholeFormula_96 : decode prog_14_method_47_code 96 = .ok (.if_icmp .ne 8, 3) := by decide +kernel
theorem zd_LassoFinderModel_wholeFormula_99 : decode prog_14_method_47_code 99 = .ok (.bipush 15, 2) := by decide +kernel
theorem zd_LassoFinderModel_wholeFormula_101 : decode prog_14_method_47_code 101 = .ok (.goto 15, 3) := by decide +kernel
theorem zd_LassoFinderModel_wholeFormula_104 : decode prog_14_method_47_code 104 = .ok (.iload_n 3, 1) := by decide +kernel
theorem zd_LassoFinderModel_wholeFormula_105 : decode prog_14_method_47_code 105 = .ok (.bipush 40, 2) := by decide +kernel
theorem zd_LassoFinderModel_wholeFormula_107 : decode prog_14_method_47_code 107 = .ok (.if_icmp .ne 8, 3) := by decide +kernel
theorem zd_LassoFinderModel_wholeFormula_110 : decode prog_14_method_47_code 110 = .ok (.bipush 16, 2) := by decide +kernel
theorem zd_LassoFinderModel_wholeFormula_112 : decode prog_14_method_47_code 112 = .ok (.goto 4, 3) := by decide +kernel
theorem zd_LassoFinderModel_wholeFormula_115 : decode prog_14_method_47_code 115 = .ok (.iconst (-1), 1) := by decide +kernel
theorem zd_LassoFinderModel_wholeFormula_116 : decode prog_14_method_47_code 116 = .ok (.istore 4, 2) := by decide +kernel
theorem zd_LassoFinderModel_wholeFormula_118 : decode prog_14_method_47_code 118 = .ok (.iload 4, 2) := by decide +kernel
theorem zd_LassoFinderModel_wholeFormula_120 : decode prog_14_method_47_code 120 = .ok (.ifCond .lt 32, 3) := by decide +kernel
theorem zd_LassoFinderModel_wholeFormula_123 : decode prog_14_method_47_code 123 = .ok (.aload_n 0, 1) := by decide +kernel
theorem zd_LassoFinderModel_wholeFormula_124 : decode prog_14_method_47_code 124 = .ok (.iload 4, 2) := by decide +kernel
theorem zd_LassoFinderModel_wholeFormula_126 : decode prog_14_method_47_code 126 = .ok (.invokevirtual 397, 3) := by decide +kernel
theorem zd_LassoFinderModel_wholeFormula_129 : decode prog_14_method_47_code 129 = .ok (.ifCond .ne 5, 3) := by decide +kernel
theorem zd_LassoFinderModel_wholeFormula_132 : decode prog_14_method_47_code 132 = .ok (.iconst 0, 1) := by decide +kernel
theorem zd_LassoFinderModel_wholeFormula_133 : decode prog_14_method_47_code 133 = .ok (.ireturn, 1) := by decide +kernel
theorem zd_LassoFinderModel_wholeFormula_134 : decode prog_14_method_47_code 134 = .ok (.iload_n 1, 1) := by decide +kernel
theorem zd_LassoFinderModel_wholeFormula_135 : decode prog_14_method_47_code 135 = .ok (.iload 4, 2) := by decide +kernel
theorem zd_LassoFinderModel_wholeFormula_137 : decode prog_14_method_47_code 137 = .ok (.bipush 16, 2) := by decide +kernel
theorem zd_LassoFinderModel_wholeFormula_139 : decode prog_14_method_47_code 139 = .ok (.if_icmp .ne 7, 3) := by decide +kernel
theorem zd_LassoFinderModel_wholeFormula_142 : decode prog_14_method_47_code 142 = .ok (.iconst 1, 1) := by decide +kernel
theorem zd_LassoFinderModel_wholeFormula_143 : decode prog_14_method_47_code 143 = .ok (.goto 4, 3) := by decide +kernel
theorem zd_LassoFinderModel_wholeFormula_146 : decode prog_14_method_47_code 146 = .ok (.iconst 0, 1) := by decide +kernel
theorem zd_LassoFinderModel_wholeFormula_147 : decode prog_14_method_47_code 147 = .ok (.iadd, 1) := by decide +kernel
theorem zd_LassoFinderModel_wholeFormula_148 : decode prog_14_method_47_code 148 = .ok (.istore_n 1, 1) := by decide +kernel
theorem zd_LassoFinderModel_wholeFormula_149 : decode prog_14_method_47_code 149 = .ok (.goto 36, 3) := by decide +kernel
theorem zd_LassoFinderModel_wholeFormula_152 : decode prog_14_method_47_code 152 = .ok (.iload_n 3, 1) := by decide +kernel
theorem zd_LassoFinderModel_wholeFormula_153 : decode prog_14_method_47_code 153 = .ok (.bipush 123, 2) := by decide +kernel
theorem zd_LassoFinderModel_wholeFormula_155 : decode prog_14_method_47_code 155 = .ok (.if_icmp .eq 14, 3) := by decide +kernel
theorem zd_LassoFinderModel_wholeFormula_158 : decode prog_14_method_47_code 158 = .ok (.iload_n 3, 1) := by decide +kernel
theorem zd_LassoFinderModel_wholeFormula_159 : decode prog_14_method_47_code 159 = .ok (.bipush 64, 2) := by decide +kernel
theorem zd_LassoFinderModel_wholeFormula_161 : decode prog_14_method_47_code 161 = .ok (.if_icmp .eq 8, 3) := by decide +kernel
theorem zd_LassoFinderModel_wholeFormula_164 : decode prog_14_method_47_code 164 = .ok (.aload_n 0, 1) := by decide +kernel
theorem zd_LassoFinderModel_wholeFormula_165 : decode prog_14_method_47_code 165 = .ok (.invokevirtual 213, 3) := by decide +kernel
theorem zd_LassoFinderModel_wholeFormula_168 : decode prog_14_method_47_code 168 = .ok (.ireturn, 1) := by decide +kernel
theorem zd_LassoFinderModel_wholeFormula_169 : decode prog_14_method_47_code 169 = .ok (.aload_n 0, 1) := by decide +kernel
theorem zd_LassoFinderModel_wholeFormula_170 : decode prog_14_method_47_code 170 = .ok (.invokevirtual 400, 3) := by decide +kernel
theorem zd_LassoFinderModel_wholeFormula_173 : decode prog_14_method_47_code 173 = .ok (.ifCond .ne 5, 3) := by decide +kernel
theorem zd_LassoFinderModel_wholeFormula_176 : decode prog_14_method_47_code 176 = .ok (.iconst 0, 1) := by decide +kernel
theorem zd_LassoFinderModel_wholeFormula_177 : decode prog_14_method_47_code 177 = .ok (.ireturn, 1) := by decide +kernel
theorem zd_LassoFinderModel_wholeFormula_178 : decode prog_14_method_47_code 178 = .ok (.aload_n 0, 1) := by decide +kernel
theorem zd_LassoFinderModel_wholeFormula_179 : decode prog_14_method_47_code 179 = .ok (.iconst 5, 1) := by decide +kernel
theorem zd_LassoFinderModel_wholeFormula_180 : decode prog_14_method_47_code 180 = .ok (.invokevirtual 403, 3) := by decide +kernel
theorem zd_LassoFinderModel_wholeFormula_183 : decode prog_14_method_47_code 183 = .ok (.iconst 0, 1) := by decide +kernel
theorem zd_LassoFinderModel_wholeFormula_184 : decode prog_14_method_47_code 184 = .ok (.istore_n 2, 1) := by decide +kernel
theorem zd_LassoFinderModel_wholeFormula_185 : decode prog_14_method_47_code 185 = .ok (.goto 164, 3) := by decide +kernel
theorem zd_LassoFinderModel_wholeFormula_188 : decode prog_14_method_47_code 188 = .ok (.iload_n 3, 1) := by decide +kernel
theorem zd_LassoFinderModel_wholeFormula_189 : decode prog_14_method_47_code 189 = .ok (.bipush 41, 2) := by decide +kernel
theorem zd_LassoFinderModel_wholeFormula_191 : decode prog_14_method_47_code 191 = .ok (.if_icmp .ne 48, 3) := by decide +kernel
theorem zd_LassoFinderModel_wholeFormula_194 : decode prog_14_method_47_code 194 = .ok (.iload_n 1, 1) := by decide +kernel
theorem zd_LassoFinderModel_wholeFormula_195 : decode prog_14_method_47_code 195 = .ok (.ifCond .ne 8, 3) := by decide +kernel
theorem zd_LassoFinderModel_wholeFormula_198 : decode prog_14_method_47_code 198 = .ok (.aload_n 0, 1) := by decide +kernel
theorem zd_LassoFinderModel_wholeFormula_199 : decode prog_14_method_47_code 199 = .ok (.invokevirtual 213, 3) := by decide +kernel
theorem zd_LassoFinderModel_wholeFormula_202 : decode prog_14_method_47_code 202 = .ok (.ireturn, 1) := by decide +kernel
theorem zd_LassoFinderModel_wholeFormula_203 : decode prog_14_method_47_code 203 = .ok (.aload_n 0, 1) := by decide +kernel
theorem zd_LassoFinderModel_wholeFormula_204 : decode prog_14_method_47_code 204 = .ok (.iconst 1, 1) := by decide +kernel
theorem zd_LassoFinderModel_wholeFormula_205 : decode prog_14_method_47_code 205 = .ok (.invokevirtual 403, 3) := by decide +kernel
theorem zd_LassoFinderModel_wholeFormula_208 : decode prog_14_method_47_code 208 = .ok (.aload_n 0, 1) := by decide +kernel
theorem zd_LassoFinderModel_wholeFormula_209 : decode prog_14_method_47_code 209 = .ok (.dup, 1) := by decide +kernel
theorem zd_LassoFinderModel_wholeFormula_210 : decode prog_14_method_47_code 210 = .ok (.getfield 220, 3) := by decide +kernel
theorem zd_LassoFinderModel_wholeFormula_213 : decode prog_14_method_47_code 213 = .ok (.iconst 1, 1) := by decide +kernel
theorem zd_LassoFinderModel_wholeFormula_214 : decode prog_14_method_47_code 214 = .ok (.isub, 1) := by decide +kernel
theorem zd_LassoFinderModel_wholeFormula_215 : decode prog_14_method_47_code 215 = .ok (.putfield 220, 3) := by decide +kernel
theorem zd_LassoFinderModel_wholeFormula_218 : decode prog_14_method_47_code 218 = .ok (.iinc 1 (-1), 3) := by decide +kernel
theorem zd_LassoFinderModel_wholeFormula_221 : decode prog_14_method_47_code 221 = .ok (.aload_n 0, 1) := by decide +kernel
theorem zd_LassoFinderModel_wholeFormula_222 : decode prog_14_method_47_code 222 = .ok (.dup, 1) := by decide +kernel
theorem zd_LassoFinderModel_wholeFormula_223 : decode prog_14_method_47_code 223 = .ok (.getfield 203, 3) := by decide +kernel
theorem zd_LassoFinderModel_wholeFormula_226 : decode prog_14_method_47_code 226 = .ok (.iconst 1, 1) := by decide +kernel
theorem zd_LassoFinderModel_wholeFormula_227 : decode prog_14_method_47_code 227 = .ok (.iadd, 1) := by decide +kernel
theorem zd_LassoFinderModel_wholeFormula_228 : decode prog_14_method_47_code 228 = .ok (.putfield 203, 3) := by decide +kernel
theorem zd_LassoFinderModel_wholeFormula_231 : decode prog_14_method_47_code 231 = .ok (.aload_n 0, 1) := by decide +kernel
theorem zd_LassoFinderModel_wholeFormula_232 : decode prog_14_method_47_code 232 = .ok (.iconst 5, 1) := by decide +kernel
theorem zd_LassoFinderModel_wholeFormula_233 : decode prog_14_method_47_code 233 = .ok (.invokevirtual 403, 3) := by decide +kernel
theorem zd_LassoFinderModel_wholeFormula_236 : decode prog_14_method_47_code 236 = .ok (.goto 113, 3) := by decide +kernel
theorem zd_LassoFinderModel_wholeFormula_239 : decode prog_14_method_47_code 239 = .ok (.iload_n 3, 1) := by decide +kernel
theorem zd_LassoFinderModel_wholeFormula_240 : decode prog_14_method_47_code 240 = .ok (.bipush 62, 2) := by decide +kernel
theorem zd_LassoFinderModel_wholeFormula_242 : decode prog_14_method_47_code 242 = .ok (.if_icmp .ne 8, 3) := by decide +kernel
theorem zd_LassoFinderModel_wholeFormula_245 : decode prog_14_method_47_code 245 = .ok (.bipush 11, 2) := by decide +kernel
theorem zd_LassoFinderModel_wholeFormula_247 : decode prog_14_method_47_code 247 = .ok (.goto 48, 3) := by decide +kernel
theorem zd_LassoFinderModel_wholeFormula_250 : decode prog_14_method_47_code 250 = .ok (.iload_n 3, 1) := by decide +kernel
theorem zd_LassoFinderModel_wholeFormula_251 : decode prog_14_method_47_code 251 = .ok (.bipush 124, 2) := by decide +kernel
theorem zd_LassoFinderModel_wholeFormula_253 : decode prog_14_method_47_code 253 = .ok (.if_icmp .ne 8, 3) := by decide +kernel
theorem zd_LassoFinderModel_wholeFormula_256 : decode prog_14_method_47_code 256 = .ok (.bipush 10, 2) := by decide +kernel
theorem zd_LassoFinderModel_wholeFormula_258 : decode prog_14_method_47_code 258 = .ok (.goto 37, 3) := by decide +kernel
theorem zd_LassoFinderModel_wholeFormula_261 : decode prog_14_method_47_code 261 = .ok (.iload_n 3, 1) := by decide +kernel
theorem zd_LassoFinderModel_wholeFormula_262 : decode prog_14_method_47_code 262 = .ok (.bipush 38, 2) := by decide +kernel
theorem zd_LassoFinderModel_wholeFormula_264 : decode prog_14_method_47_code 264 = .ok (.if_icmp .ne 8, 3) := by decide +kernel
theorem zd_LassoFinderModel_wholeFormula_267 : decode prog_14_method_47_code 267 = .ok (.bipush 9, 2) := by decide +kernel
theorem zd_LassoFinderModel_wholeFormula_269 : decode prog_14_method_47_code 269 = .ok (.goto 26, 3) := by decide +kernel
theorem zd_LassoFinderModel_wholeFormula_272 : decode prog_14_method_47_code 272 = .ok (.iload_n 3, 1) := by decide +kernel
theorem zd_LassoFinderModel_wholeFormula_273 : decode prog_14_method_47_code 273 = .ok (.bipush 85, 2) := by decide +kernel
theorem zd_LassoFinderModel_wholeFormula_275 : decode prog_14_method_47_code 275 = .ok (.if_icmp .ne 8, 3) := by decide +kernel
theorem zd_LassoFinderModel_wholeFormula_278 : decode prog_14_method_47_code 278 = .ok (.bipush 12, 2) := by decide +kernel
theorem zd_LassoFinderModel_wholeFormula_280 : decode prog_14_method_47_code 280 = .ok (.goto 15, 3) := by decide +kernel
theorem zd_LassoFinderModel_wholeFormula_283 : decode prog_14_method_47_code 283 = .ok (.iload_n 3, 1) := by decide +kernel
theorem zd_LassoFinderModel_wholeFormula_284 : decode prog_14_method_47_code 284 = .ok (.bipush 82, 2) := by decide +kernel
theorem zd_LassoFinderModel_wholeFormula_286 : decode prog_14_method_47_code 286 = .ok (.if_icmp .ne 8, 3) := by decide +kernel
theorem zd_LassoFinderModel_wholeFormula_289 : decode prog_14_method_47_code 289 = .ok (.bipush 13, 2) := by decide +kernel
theorem zd_LassoFinderModel_wholeFormula_291 : decode prog_14_method_47_code 291 = .ok (.goto 4, 3) := by decide +kernel
theorem zd_LassoFinderModel_wholeFormula_294 : decode prog_14_method_47_code 294 = .ok (.iconst (-1), 1) := by decide +kernel
theorem zd_LassoFinderModel_wholeFormula_295 : decode prog_14_method_47_code 295 = .ok (.istore 4, 2) := by decide +kernel
theorem zd_LassoFinderModel_wholeFormula_297 : decode prog_14_method_47_code 297 = .ok (.iload 4, 2) := by decide +kernel
theorem zd_LassoFinderModel_wholeFormula_299 : decode prog_14_method_47_code 299 = .ok (.ifCond .ge 8, 3) := by decide +kernel
theorem zd_LassoFinderModel_wholeFormula_302 : decode prog_14_method_47_code 302 = .ok (.aload_n 0, 1) := by decide +kernel
theorem zd_LassoFinderModel_wholeFormula_303 : decode prog_14_method_47_code 303 = .ok (.invokevirtual 213, 3) := by decide +kernel
theorem zd_LassoFinderModel_wholeFormula_306 : decode prog_14_method_47_code 306 = .ok (.ireturn, 1) := by decide +kernel
theorem zd_LassoFinderModel_wholeFormula_307 : decode prog_14_method_47_code 307 = .ok (.iload 4, 2) := by decide +kernel
theorem zd_LassoFinderModel_wholeFormula_309 : decode prog_14_method_47_code 309 = .ok (.invokestatic 382, 3) := by decide +kernel
theorem zd_LassoFinderModel_wholeFormula_312 : decode prog_14_method_47_code 312 = .ok (.iconst 4, 1) := by decide +kernel
theorem zd_LassoFinderModel_wholeFormula_313 : decode prog_14_method_47_code 313 = .ok (.if_icmp .ge 23, 3) := by decide +kernel
theorem zd_LassoFinderModel_wholeFormula_316 : decode prog_14_method_47_code 316 = .ok (.aload_n 0, 1) := by decide +kernel
theorem zd_LassoFinderModel_wholeFormula_317 : decode prog_14_method_47_code 317 = .ok (.iload 4, 2) := by decide +kernel
theorem zd_LassoFinderModel_wholeFormula_319 : decode prog_14_method_47_code 319 = .ok (.bipush 11, 2) := by decide +kernel
theorem zd_LassoFinderModel_wholeFormula_321 : decode prog_14_method_47_code 321 = .ok (.if_icmp .ne 7, 3) := by decide +kernel
theorem zd_LassoFinderModel_wholeFormula_324 : decode prog_14_method_47_code 324 = .ok (.iconst 2, 1) := by decide +kernel
theorem zd_LassoFinderModel_wholeFormula_325 : decode prog_14_method_47_code 325 = .ok (.goto 8, 3) := by decide +kernel
theorem zd_LassoFinderModel_wholeFormula_328 : decode prog_14_method_47_code 328 = .ok (.iload 4, 2) := by decide +kernel
theorem zd_LassoFinderModel_wholeFormula_330 : decode prog_14_method_47_code 330 = .ok (.invokestatic 382, 3) := by decide +kernel
theorem zd_LassoFinderModel_wholeFormula_333 : decode prog_14_method_47_code 333 = .ok (.invokevirtual 403, 3) := by decide +kernel
theorem zd_LassoFinderModel_wholeFormula_336 : decode prog_14_method_47_code 336 = .ok (.aload_n 0, 1) := by decide +kernel
theorem zd_LassoFinderModel_wholeFormula_337 : decode prog_14_method_47_code 337 = .ok (.iload 4, 2) := by decide +kernel
theorem zd_LassoFinderModel_wholeFormula_339 : decode prog_14_method_47_code 339 = .ok (.invokevirtual 397, 3) := by decide +kernel
theorem zd_LassoFinderModel_wholeFormula_342 : decode prog_14_method_47_code 342 = .ok (.ifCond .ne 5, 3) := by decide +kernel
theorem zd_LassoFinderModel_wholeFormula_345 : decode prog_14_method_47_code 345 = .ok (.iconst 0, 1) := by decide +kernel
theorem zd_LassoFinderModel_wholeFormula_346 : decode prog_14_method_47_code 346 = .ok (.ireturn, 1) := by decide +kernel
theorem zd_LassoFinderModel_wholeFormula_347 : decode prog_14_method_47_code 347 = .ok (.iconst 1, 1) := by decide +kernel
theorem zd_LassoFinderModel_wholeFormula_348 : decode prog_14_method_47_code 348 = .ok (.istore_n 2, 1) := by decide +kernel
theorem zd_LassoFinderModel_wholeFormula_349 : decode prog_14_method_47_code 349 = .ok (.goto (-302), 3) := by decide +kernel
theorem zd_LassoFinderModel_wholeFormula_352 : decode prog_14_method_47_code 352 = .ok (.iload_n 1, 1) := by decide +kernel
theorem zd_LassoFinderModel_wholeFormula_353 : decode prog_14_method_47_code 353 = .ok (.ifCond .le 8, 3) := by decide +kernel
theorem zd_LassoFinderModel_wholeFormula_356 : decode prog_14_method_47_code 356 = .ok (.aload_n 0, 1) := by decide +kernel
theorem zd_LassoFinderModel_wholeFormula_357 : decode prog_14_method_47_code 357 = .ok (.invokevirtual 213, 3) := by decide +kernel
theorem zd_LassoFinderModel_wholeFormula_360 : decode prog_14_method_47_code 360 = .ok (.ireturn, 1) := by decide +kernel
theorem zd_LassoFinderModel_wholeFormula_361 : decode prog_14_method_47_code 361 = .ok (.aload_n 0, 1) := by decide +kernel
theorem zd_LassoFinderModel_wholeFormula_362 : decode prog_14_method_47_code 362 = .ok (.iconst 1, 1) := by decide +kernel
theorem zd_LassoFinderModel_wholeFormula_363 : decode prog_14_method_47_code 363 = .ok (.invokevirtual 403, 3) := by decide +kernel
theorem zd_LassoFinderModel_wholeFormula_366 : decode prog_14_method_47_code 366 = .ok (.iconst 1, 1) := by decide +kernel
theorem zd_LassoFinderModel_wholeFormula_367 : decode prog_14_method_47_code 367 = .ok (.ireturn, 1) := by decide +kernel
def wc_LassoFinderModel_wholeFormula_349 (K47 : Int32 → Int32 → (Nat → Int32) → (Nat → Int64) → (Nat → Nat → Int32) → (Nat → Nat → Int64) → Prop) (Post : Int32 → (Nat → Int32) → (Nat → Int64) → (Nat → Nat → Int32) → (Nat → Nat → Int64) → Prop) (x1 : Int32) (x2 : Int32) (I : Nat → Int32) (J : Nat → Int64) (B : Nat → Nat → Int32) (D : Nat → Nat → Int64) : Prop :=
  K47 x1 x2 I J B D
def wc_LassoFinderModel_wholeFormula_336 (K47 : Int32 → Int32 → (Nat → Int32) → (Nat → Int64) → (Nat → Nat → Int32) → (Nat → Nat → Int64) → Prop) (Post : Int32 → (Nat → Int32) → (Nat → Int64) → (Nat → Nat → Int32) → (Nat → Nat → Int64) → Prop) (x1 : Int32) (x4 : Int32) (I : Nat → Int32) (J : Nat → Int64) (B : Nat → Nat → Int32) (D : Nat → Nat → Int64) : Prop :=
  wp_LassoFinderModel_push I J B D x4 (fun r1 I1 J1 B1 D1 => ((¬ r1 = 0 → wc_LassoFinderModel_wholeFormula_349  K47 Post x1 1 I1 J1 B1 D1) ∧ (r1 = 0 → Post 0 I1 J1 B1 D1)))
def wc_LassoFinderModel_wholeFormula_333 (K47 : Int32 → Int32 → (Nat → Int32) → (Nat → Int64) → (Nat → Nat → Int32) → (Nat → Nat → Int64) → Prop) (Post : Int32 → (Nat → Int32) → (Nat → Int64) → (Nat → Nat → Int32) → (Nat → Nat → Int64) → Prop) (x1 : Int32) (x4 : Int32) (y0 : Int32) (I : Nat → Int32) (J : Nat → Int64) (B : Nat → Nat → Int32) (D : Nat → Nat → Int64) : Prop :=
  wp_LassoFinderModel_putAll I J B D y0 (fun I3 J3 B3 D3 => wc_LassoFinderModel_wholeFormula_336  K47 Post x1 x4 I3 J3 B3 D3)
def wc_LassoFinderModel_wholeFormula_295 (K47 : Int32 → Int32 → (Nat → Int32) → (Nat → Int64) → (Nat → Nat → Int32) → (Nat → Nat → Int64) → Prop) (Post : Int32 → (Nat → Int32) → (Nat → Int64) → (Nat → Nat → Int32) → (Nat → Nat → Int64) → Prop) (x1 : Int32) (y0 : Int32) (I : Nat → Int32) (J : Nat → Int64) (B : Nat → Nat → Int32) (D : Nat → Nat → Int64) : Prop :=
  (((0 : Int32) ≤ y0 → wp_LassoFinderModel_binds I J B D y0 (fun r5 I5 J5 B5 D5 => (((4 : Int32) ≤ r5 → wc_LassoFinderModel_wholeFormula_336  K47 Post x1 y0 I5 J5 B5 D5) ∧ (¬ (4 : Int32) ≤ r5 → ((¬ y0 = 11 → wp_LassoFinderModel_binds I5 J5 B5 D5 y0 (fun r8 I8 J8 B8 D8 => wc_LassoFinderModel_wholeFormula_333  K47 Post x1 y0 r8 I8 J8 B8 D8)) ∧ (y0 = 11 → wc_LassoFinderModel_wholeFormula_333  K47 Post x1 y0 2 I5 J5 B5 D5)))))) ∧ (¬ (0 : Int32) ≤ y0 → wp_LassoFinderModel_fail I J B D  (fun r9 I9 J9 B9 D9 => (r9 = 0 ∨ r9 = 1) ∧ Post r9 I9 J9 B9 D9)))
def wc_LassoFinderModel_wholeFormula_185 (K47 : Int32 → Int32 → (Nat → Int32) → (Nat → Int64) → (Nat → Nat → Int32) → (Nat → Nat → Int64) → Prop) (Post : Int32 → (Nat → Int32) → (Nat → Int64) → (Nat → Nat → Int32) → (Nat → Nat → Int64) → Prop) (x1 : Int32) (x2 : Int32) (I : Nat → Int32) (J : Nat → Int64) (B : Nat → Nat → Int32) (D : Nat → Nat → Int64) : Prop :=
  wc_LassoFinderModel_wholeFormula_349  K47 Post x1 x2 I J B D
def wc_LassoFinderModel_wholeFormula_169 (K47 : Int32 → Int32 → (Nat → Int32) → (Nat → Int64) → (Nat → Nat → Int32) → (Nat → Nat → Int64) → Prop) (Post : Int32 → (Nat → Int32) → (Nat → Int64) → (Nat → Nat → Int32) → (Nat → Nat → Int64) → Prop) (x1 : Int32) (I : Nat → Int32) (J : Nat → Int64) (B : Nat → Nat → Int32) (D : Nat → Nat → Int64) : Prop :=
  wp_LassoFinderModel_atom I J B D  (fun r10 I10 J10 B10 D10 => ((¬ r10 = 0 → wp_LassoFinderModel_putAll I10 J10 B10 D10 5 (fun I12 J12 B12 D12 => wc_LassoFinderModel_wholeFormula_185  K47 Post x1 0 I12 J12 B12 D12)) ∧ (r10 = 0 → Post 0 I10 J10 B10 D10)))
def wc_LassoFinderModel_wholeFormula_147 (K47 : Int32 → Int32 → (Nat → Int32) → (Nat → Int64) → (Nat → Nat → Int32) → (Nat → Nat → Int64) → Prop) (Post : Int32 → (Nat → Int32) → (Nat → Int64) → (Nat → Nat → Int32) → (Nat → Nat → Int64) → Prop) (x2 : Int32) (y0 : Int32) (y1 : Int32) (I : Nat → Int32) (J : Nat → Int64) (B : Nat → Nat → Int32) (D : Nat → Nat → Int64) : Prop :=
  ∀ z13 : Int32, z13 = (y1 + y0) → wc_LassoFinderModel_wholeFormula_185  K47 Post z13 x2 I J B D
def wc_LassoFinderModel_wholeFormula_116 (K47 : Int32 → Int32 → (Nat → Int32) → (Nat → Int64) → (Nat → Nat → Int32) → (Nat → Nat → Int64) → Prop) (Post : Int32 → (Nat → Int32) → (Nat → Int64) → (Nat → Nat → Int32) → (Nat → Nat → Int64) → Prop) (x1 : Int32) (x2 : Int32) (x3 : Int32) (y0 : Int32) (I : Nat → Int32) (J : Nat → Int64) (B : Nat → Nat → Int32) (D : Nat → Nat → Int64) : Prop :=
  ((y0 < 0 → ((x3 = 123 → wc_LassoFinderModel_wholeFormula_169  K47 Post x1 I J B D) ∧ (¬ x3 = 123 → ((x3 = 64 → wc_LassoFinderModel_wholeFormula_169  K47 Post x1 I J B D) ∧ (¬ x3 = 64 → wp_LassoFinderModel_fail I J B D  (fun r17 I17 J17 B17 D17 => (r17 = 0 ∨ r17 = 1) ∧ Post r17 I17 J17 B17 D17)))))) ∧ (¬ y0 < 0 → wp_LassoFinderModel_push I J B D y0 (fun r18 I18 J18 B18 D18 => ((¬ r18 = 0 → ((¬ y0 = 16 → wc_LassoFinderModel_wholeFormula_147  K47 Post x2 0 x1 I18 J18 B18 D18) ∧ (y0 = 16 → wc_LassoFinderModel_wholeFormula_147  K47 Post x2 1 x1 I18 J18 B18 D18))) ∧ (r18 = 0 → Post 0 I18 J18 B18 D18)))))
def wc_LassoFinderModel_wholeFormula_62 (K47 : Int32 → Int32 → (Nat → Int32) → (Nat → Int64) → (Nat → Nat → Int32) → (Nat → Nat → Int64) → Prop) (Post : Int32 → (Nat → Int32) → (Nat → Int64) → (Nat → Nat → Int32) → (Nat → Nat → Int64) → Prop) (x1 : Int32) (x2 : Int32) (I : Nat → Int32) (J : Nat → Int64) (B : Nat → Nat → Int32) (D : Nat → Nat → Int64) : Prop :=
  wp_LassoFinderModel_here I J B D  (fun r21 I21 J21 B21 D21 => ((x2 = 0 → ((¬ r21 = 41 → ((¬ r21 = 62 → ((¬ r21 = 124 → ((¬ r21 = 38 → ((¬ r21 = 85 → ((¬ r21 = 82 → wc_LassoFinderModel_wholeFormula_295  K47 Post x1 (-1) I21 J21 B21 D21) ∧ (r21 = 82 → wc_LassoFinderModel_wholeFormula_295  K47 Post x1 13 I21 J21 B21 D21))) ∧ (r21 = 85 → wc_LassoFinderModel_wholeFormula_295  K47 Post x1 12 I21 J21 B21 D21))) ∧ (r21 = 38 → wc_LassoFinderModel_wholeFormula_295  K47 Post x1 9 I21 J21 B21 D21))) ∧ (r21 = 124 → wc_LassoFinderModel_wholeFormula_295  K47 Post x1 10 I21 J21 B21 D21))) ∧ (r21 = 62 → wc_LassoFinderModel_wholeFormula_295  K47 Post x1 11 I21 J21 B21 D21))) ∧ (r21 = 41 → ((¬ x1 = 0 → wp_LassoFinderModel_putAll I21 J21 B21 D21 1 (fun I30 J30 B30 D30 => ∀ z31 : Int32, z31 = ((I30 13) - 1) → ∀ z32 : Int32, z32 = (x1 + (-1)) → ∀ z33 : Int32, z33 = ((I30 2) + 1) → wp_LassoFinderModel_putAll (upd (upd I30 13 z31) 2 z33) J30 B30 D30 5 (fun I34 J34 B34 D34 => wc_LassoFinderModel_wholeFormula_349  K47 Post z32 x2 I34 J34 B34 D34))) ∧ (x1 = 0 → wp_LassoFinderModel_fail I21 J21 B21 D21  (fun r35 I35 J35 B35 D35 => (r35 = 0 ∨ r35 = 1) ∧ Post r35 I35 J35 B35 D35)))))) ∧ (¬ x2 = 0 → ((¬ r21 = 33 → ((¬ r21 = 71 → ((¬ r21 = 70 → ((¬ r21 = 40 → wc_LassoFinderModel_wholeFormula_116  K47 Post x1 x2 r21 (-1) I21 J21 B21 D21) ∧ (r21 = 40 → wc_LassoFinderModel_wholeFormula_116  K47 Post x1 x2 r21 16 I21 J21 B21 D21))) ∧ (r21 = 70 → wc_LassoFinderModel_wholeFormula_116  K47 Post x1 x2 r21 15 I21 J21 B21 D21))) ∧ (r21 = 71 → wc_LassoFinderModel_wholeFormula_116  K47 Post x1 x2 r21 14 I21 J21 B21 D21))) ∧ (r21 = 33 → wc_LassoFinderModel_wholeFormula_116  K47 Post x1 x2 r21 8 I21 J21 B21 D21)))))
def wb_LassoFinderModel_wholeFormula_47 (K47 : Int32 → Int32 → (Nat → Int32) → (Nat → Int64) → (Nat → Nat → Int32) → (Nat → Nat → Int64) → Prop) (Post : Int32 → (Nat → Int32) → (Nat → Int64) → (Nat → Nat → Int32) → (Nat → Nat → Int64) → Prop) (x1 : Int32) (x2 : Int32) (I : Nat → Int32) (J : Nat → Int64) (B : Nat → Nat → Int32) (D : Nat → Nat → Int64) : Prop :=
  ((¬ x2 = 0 → wc_LassoFinderModel_wholeFormula_62  K47 Post x1 x2 I J B D) ∧ (x2 = 0 → (((I 1) ≤ (I 2) → ((x1 ≤ 0 → wp_LassoFinderModel_putAll I J B D 1 (fun I43 J43 B43 D43 => Post 1 I43 J43 B43 D43)) ∧ (¬ x1 ≤ 0 → wp_LassoFinderModel_fail I J B D  (fun r44 I44 J44 B44 D44 => (r44 = 0 ∨ r44 = 1) ∧ Post r44 I44 J44 B44 D44)))) ∧ (¬ (I 1) ≤ (I 2) → wc_LassoFinderModel_wholeFormula_62  K47 Post x1 x2 I J B D))))
def wl_LassoFinderModel_wholeFormula_47 (Post : Int32 → (Nat → Int32) → (Nat → Int64) → (Nat → Nat → Int32) → (Nat → Nat → Int64) → Prop) (n : Nat) : Int32 → Int32 → (Nat → Int32) → (Nat → Int64) → (Nat → Nat → Int32) → (Nat → Nat → Int64) → Prop := Nat.rec (fun _ _ _ _ _ _ => False) (fun _ r => wb_LassoFinderModel_wholeFormula_47  r Post) n
def wp_LassoFinderModel_wholeFormula (I : Nat → Int32) (J : Nat → Int64) (B : Nat → Nat → Int32) (D : Nat → Nat → Int64) (Post : Int32 → (Nat → Int32) → (Nat → Int64) → (Nat → Nat → Int32) → (Nat → Nat → Int64) → Prop) : Prop :=
  ∃ n : Nat, wl_LassoFinderModel_wholeFormula_47  Post n 0 1 (upd (upd (upd (upd (upd (upd (upd (upd I 2 0) 3 (-1)) 11 (I 22)) 19 0) 20 0) 23 0) 21 0) 13 0) J B D
set_option maxHeartbeats 8000000 in
set_option maxRecDepth 100000 in
theorem wJ_LassoFinderModel_wholeFormula_349 {p : Program} {l : Launch} {e : Env} {s : State} {m : MethodId} {below : List Frame} {meth : Method} {c : Code} {A : Nat → Prop} (G : va_G) (K : Nat → ClassId) (ad : Nat → Nat) (Post : Int32 → (Nat → Int32) → (Nat → Int64) → (Nat → Nat → Int32) → (Nat → Nat → Int64) → Prop) (C : zCx p s m ([.ref (ad 0)] : List Value).toArray meth c A G K prog_14_method_47_code (some .boolean) 5 "LassoFinderModel") (K47 : Int32 → Int32 → (Nat → Int32) → (Nat → Int64) → (Nat → Nat → Int32) → (Nat → Nat → Int64) → Prop) (kh47 : ∀ (x1 : Int32) (x2 : Int32) (I : Nat → Int32) (J : Nat → Int64) (B : Nat → Nat → Int32) (D : Nat → Nat → Int64) (ls : Array Slot) (H : Heap) (locs : List Loc), K47 x1 x2 I J B D → lv_has ls 5 [(0, .ref (ad 0)), (1, .int x1), (2, .int x2)] → zW G A s.heap (wM ad K I J B D) H locs → W p l e { frames := 4, cells := 0, slots := 0, locals := 95 } s m ([.ref (ad 0)] : List Value).toArray below meth c H locs 0 0 (MQ below (va_Qi (fun (r : Int32) (u : zS) => Post r u.1 u.2.1 u.2.2.1 u.2.2.2) (fun u t => zPost G K A (wM ad K u.1 u.2.1 u.2.2.1 u.2.2.2) t) A) ([.ref (ad 0)] : List Value).toArray s 0 0 A) (F0 m 47 ls [])) : ∀ (x1 : Int32) (x2 : Int32) (I : Nat → Int32) (J : Nat → Int64) (B : Nat → Nat → Int32) (D : Nat → Nat → Int64) (ls : Array Slot) (H : Heap) (locs : List Loc), wc_LassoFinderModel_wholeFormula_349  K47 Post x1 x2 I J B D → lv_has ls 5 [(0, .ref (ad 0)), (1, .int x1), (2, .int x2)] → zW G A s.heap (wM ad K I J B D) H locs → W p l e { frames := 4, cells := 0, slots := 0, locals := 95 } s m ([.ref (ad 0)] : List Value).toArray below meth c H locs 0 0 (MQ below (va_Qi (fun (r : Int32) (u : zS) => Post r u.1 u.2.1 u.2.2.1 u.2.2.2) (fun u t => zPost G K A (wM ad K u.1 u.2.1 u.2.2.1 u.2.2.2) t) A) ([.ref (ad 0)] : List Value).toArray s 0 0 A) (F0 m 349 ls []) := by
  obtain ⟨hx, hb, hr, hml, hts, hown, hlocks, hA, hK⟩ := id C
  intro x1 x2 I J B D ls H locs hok hl hw
  unfold wc_LassoFinderModel_wholeFormula_349 at hok
  refine lv_goto (tgt := 47) hx hb zd_LassoFinderModel_wholeFormula_349 (by decide) ?_
  exact kh47 x1 x2 I J B D ls H locs hok (lv_sub hl [0, 1, 2] rfl) hw
set_option maxHeartbeats 8000000 in
set_option maxRecDepth 100000 in
theorem wJ_LassoFinderModel_wholeFormula_336 {p : Program} {l : Launch} {e : Env} {s : State} {m : MethodId} {below : List Frame} {meth : Method} {c : Code} {A : Nat → Prop} (G : va_G) (K : Nat → ClassId) (ad : Nat → Nat) (Post : Int32 → (Nat → Int32) → (Nat → Int64) → (Nat → Nat → Int32) → (Nat → Nat → Int64) → Prop) (C : zCx p s m ([.ref (ad 0)] : List Value).toArray meth c A G K prog_14_method_47_code (some .boolean) 5 "LassoFinderModel") (K47 : Int32 → Int32 → (Nat → Int32) → (Nat → Int64) → (Nat → Nat → Int32) → (Nat → Nat → Int64) → Prop) (kh47 : ∀ (x1 : Int32) (x2 : Int32) (I : Nat → Int32) (J : Nat → Int64) (B : Nat → Nat → Int32) (D : Nat → Nat → Int64) (ls : Array Slot) (H : Heap) (locs : List Loc), K47 x1 x2 I J B D → lv_has ls 5 [(0, .ref (ad 0)), (1, .int x1), (2, .int x2)] → zW G A s.heap (wM ad K I J B D) H locs → W p l e { frames := 4, cells := 0, slots := 0, locals := 95 } s m ([.ref (ad 0)] : List Value).toArray below meth c H locs 0 0 (MQ below (va_Qi (fun (r : Int32) (u : zS) => Post r u.1 u.2.1 u.2.2.1 u.2.2.2) (fun u t => zPost G K A (wM ad K u.1 u.2.1 u.2.2.1 u.2.2.2) t) A) ([.ref (ad 0)] : List Value).toArray s 0 0 A) (F0 m 47 ls [])) : ∀ (x1 : Int32) (x4 : Int32) (I : Nat → Int32) (J : Nat → Int64) (B : Nat → Nat → Int32) (D : Nat → Nat → Int64) (ls : Array Slot) (H : Heap) (locs : List Loc), wc_LassoFinderModel_wholeFormula_336  K47 Post x1 x4 I J B D → lv_has ls 5 [(0, .ref (ad 0)), (1, .int x1), (4, .int x4)] → zW G A s.heap (wM ad K I J B D) H locs → W p l e { frames := 4, cells := 0, slots := 0, locals := 95 } s m ([.ref (ad 0)] : List Value).toArray below meth c H locs 0 0 (MQ below (va_Qi (fun (r : Int32) (u : zS) => Post r u.1 u.2.1 u.2.2.1 u.2.2.2) (fun u t => zPost G K A (wM ad K u.1 u.2.1 u.2.2.1 u.2.2.2) t) A) ([.ref (ad 0)] : List Value).toArray s 0 0 A) (F0 m 336 ls []) := by
  obtain ⟨hx, hb, hr, hml, hts, hown, hlocks, hA, hK⟩ := id C
  intro x1 x4 I J B D ls H locs hok hl hw
  unfold wc_LassoFinderModel_wholeFormula_336 at hok
  refine lv_aload_n hx hb zd_LassoFinderModel_wholeFormula_336 rfl (lv_at hl 0 rfl) ?_
  refine lv_iload hx hb zd_LassoFinderModel_wholeFormula_337 (lv_at hl 2 rfl) ?_
  refine z_calli (w1 := fun (u : zS) => wM ad K u.1 u.2.1 u.2.2.1 u.2.2.2) (wr := []) (z_runV (q0 := 0) (wc := (wM ad K I J B D)) (As := [.int x4]) (rest := []) ⟨hx, hb, hml, hown, hts⟩ (w_LassoFinderModel_push l G K ad I J B D x4 _ H.size hok) zf_LassoFinderModel_push zm_359 ⟨Nat.le_of_ble_eq_true rfl, Nat.le_of_ble_eq_true rfl⟩ hK hw [0, 1, 2, 3, 4, 5, 6, 7, 8, 9, 10, 11, 12, 13, 14, 15, 16, 17, 18, 19, 20, 21, 22, 23, 24, 25, 26, 27, 28, 29, 30, 31, 32, 33, 34, 35, 36, 37, 38, 39, 40, 41, 42, 43, 44, 45, 46, 47, 48, 49, 50, 51, 52, 53, 54, 55, 56, 57] rfl (by decide) rfl rfl rfl hl.1 rfl (Nat.le_of_ble_eq_true rfl) zd_LassoFinderModel_wholeFormula_339 ⟨Nat.le_of_ble_eq_true rfl, Nat.le_of_ble_eq_true rfl⟩) hw hA [0, 1, 2, 3, 4, 5, 6, 7, 8, 9, 10, 11, 12, 13, 14, 15, 16, 17, 18, 19, 20, 21, 22, 23, 24, 25, 26, 27, 28, 29, 30, 31, 32, 33, 34, 35, 36, 37, 38, 39, 40, 41, 42, 43, 44, 45, 46, 47, 48, 49, 50, 51, 52, 53, 54, 55, 56, 57] [] rfl rfl (by decide) (by decide) (fun r1 u H locs hok hw => ?_)
  obtain ⟨I1, J1, B1, D1⟩ := u
  dsimp only at hok
  have hw : zW G A s.heap (wM ad K I1 J1 B1 D1) H locs := hw
  refine lv_if_ne (tgt := 347) hx hb zd_LassoFinderModel_wholeFormula_342 (by decide) (fun hc2 => ?_) (fun hc2 => ?_)
  · have hok := hok.1 hc2
    refine lv_iconst (v := 1) hx hb zd_LassoFinderModel_wholeFormula_347 (by decide) ?_
    refine lv_istore_n hx hb zd_LassoFinderModel_wholeFormula_348 rfl hl (by decide) rfl (fun ls hl => ?_)
    have hl : lv_has ls 5 [(2, .int 1), (0, .ref (ad 0)), (1, .int x1), (4, .int x4)] := hl
    exact wJ_LassoFinderModel_wholeFormula_349 G K ad  Post C K47 kh47 x1 1 I1 J1 B1 D1 ls H locs hok (lv_sub hl [1, 2, 0] rfl) hw
  · have hok := hok.2 hc2
    refine lv_iconst (v := 0) hx hb zd_LassoFinderModel_wholeFormula_345 (by decide) ?_
    exact z_iret (u := (I1, J1, B1, D1)) hx hb hr hlocks rfl hw [0, 1, 2, 3, 4, 5, 6, 7, 8, 9, 10, 11, 12, 13, 14, 15, 16, 17, 18, 19, 20, 21, 22, 23, 24, 25, 26, 27, 28, 29, 30, 31, 32, 33, 34, 35, 36, 37, 38, 39, 40, 41, 42, 43, 44, 45, 46, 47, 48, 49, 50, 51, 52, 53, 54, 55, 56, 57] rfl (by decide) hok (Nat.le_of_ble_eq_true rfl) (Nat.le_of_ble_eq_true rfl) zd_LassoFinderModel_wholeFormula_346
set_option maxHeartbeats 8000000 in
set_option maxRecDepth 100000 in
theorem wJ_LassoFinderModel_wholeFormula_333 {p : Program} {l : Launch} {e : Env} {s : State} {m : MethodId} {below : List Frame} {meth : Method} {c : Code} {A : Nat → Prop} (G : va_G) (K : Nat → ClassId) (ad : Nat → Nat) (Post : Int32 → (Nat → Int32) → (Nat → Int64) → (Nat → Nat → Int32) → (Nat → Nat → Int64) → Prop) (C : zCx p s m ([.ref (ad 0)] : List Value).toArray meth c A G K prog_14_method_47_code (some .boolean) 5 "LassoFinderModel") (K47 : Int32 → Int32 → (Nat → Int32) → (Nat → Int64) → (Nat → Nat → Int32) → (Nat → Nat → Int64) → Prop) (kh47 : ∀ (x1 : Int32) (x2 : Int32) (I : Nat → Int32) (J : Nat → Int64) (B : Nat → Nat → Int32) (D : Nat → Nat → Int64) (ls : Array Slot) (H : Heap) (locs : List Loc), K47 x1 x2 I J B D → lv_has ls 5 [(0, .ref (ad 0)), (1, .int x1), (2, .int x2)] → zW G A s.heap (wM ad K I J B D) H locs → W p l e { frames := 4, cells := 0, slots := 0, locals := 95 } s m ([.ref (ad 0)] : List Value).toArray below meth c H locs 0 0 (MQ below (va_Qi (fun (r : Int32) (u : zS) => Post r u.1 u.2.1 u.2.2.1 u.2.2.2) (fun u t => zPost G K A (wM ad K u.1 u.2.1 u.2.2.1 u.2.2.2) t) A) ([.ref (ad 0)] : List Value).toArray s 0 0 A) (F0 m 47 ls [])) : ∀ (x1 : Int32) (x4 : Int32) (y0 : Int32) (I : Nat → Int32) (J : Nat → Int64) (B : Nat → Nat → Int32) (D : Nat → Nat → Int64) (ls : Array Slot) (H : Heap) (locs : List Loc), wc_LassoFinderModel_wholeFormula_333  K47 Post x1 x4 y0 I J B D → lv_has ls 5 [(0, .ref (ad 0)), (1, .int x1), (4, .int x4)] → zW G A s.heap (wM ad K I J B D) H locs → W p l e { frames := 4, cells := 0, slots := 0, locals := 95 } s m ([.ref (ad 0)] : List Value).toArray below meth c H locs 0 0 (MQ below (va_Qi (fun (r : Int32) (u : zS) => Post r u.1 u.2.1 u.2.2.1 u.2.2.2) (fun u t => zPost G K A (wM ad K u.1 u.2.1 u.2.2.1 u.2.2.2) t) A) ([.ref (ad 0)] : List Value).toArray s 0 0 A) (F0 m 333 ls [.int y0, .ref (ad 0)]) := by
  obtain ⟨hx, hb, hr, hml, hts, hown, hlocks, hA, hK⟩ := id C
  intro x1 x4 y0 I J B D ls H locs hok hl hw
  unfold wc_LassoFinderModel_wholeFormula_333 at hok
  refine z_callv (w1 := fun (u : zS) => wM ad K u.1 u.2.1 u.2.2.1 u.2.2.2) (wr := []) (z_runV (q0 := 0) (wc := (wM ad K I J B D)) (As := [.int y0]) (rest := []) ⟨hx, hb, hml, hown, hts⟩ (w_LassoFinderModel_putAll l G K ad I J B D y0 _ H.size hok) zf_LassoFinderModel_putAll zm_358 ⟨Nat.le_of_ble_eq_true rfl, Nat.le_of_ble_eq_true rfl⟩ hK hw [0, 1, 2, 3, 4, 5, 6, 7, 8, 9, 10, 11, 12, 13, 14, 15, 16, 17, 18, 19, 20, 21, 22, 23, 24, 25, 26, 27, 28, 29, 30, 31, 32, 33, 34, 35, 36, 37, 38, 39, 40, 41, 42, 43, 44, 45, 46, 47, 48, 49, 50, 51, 52, 53, 54, 55, 56, 57] rfl (by decide) rfl rfl rfl hl.1 rfl (Nat.le_of_ble_eq_true rfl) zd_LassoFinderModel_wholeFormula_333 ⟨Nat.le_of_ble_eq_true rfl, Nat.le_of_ble_eq_true rfl⟩) hw hA [0, 1, 2, 3, 4, 5, 6, 7, 8, 9, 10, 11, 12, 13, 14, 15, 16, 17, 18, 19, 20, 21, 22, 23, 24, 25, 26, 27, 28, 29, 30, 31, 32, 33, 34, 35, 36, 37, 38, 39, 40, 41, 42, 43, 44, 45, 46, 47, 48, 49, 50, 51, 52, 53, 54, 55, 56, 57] [] rfl rfl (by decide) (by decide) (fun u H locs hok hw => ?_)
  obtain ⟨I3, J3, B3, D3⟩ := u
  dsimp only at hok
  have hw : zW G A s.heap (wM ad K I3 J3 B3 D3) H locs := hw
  exact wJ_LassoFinderModel_wholeFormula_336 G K ad  Post C K47 kh47 x1 x4 I3 J3 B3 D3 ls H locs hok (lv_sub hl [0, 1, 2] rfl) hw
set_option maxHeartbeats 8000000 in
set_option maxRecDepth 100000 in
theorem wJ_LassoFinderModel_wholeFormula_295 {p : Program} {l : Launch} {e : Env} {s : State} {m : MethodId} {below : List Frame} {meth : Method} {c : Code} {A : Nat → Prop} (G : va_G) (K : Nat → ClassId) (ad : Nat → Nat) (Post : Int32 → (Nat → Int32) → (Nat → Int64) → (Nat → Nat → Int32) → (Nat → Nat → Int64) → Prop) (C : zCx p s m ([.ref (ad 0)] : List Value).toArray meth c A G K prog_14_method_47_code (some .boolean) 5 "LassoFinderModel") (K47 : Int32 → Int32 → (Nat → Int32) → (Nat → Int64) → (Nat → Nat → Int32) → (Nat → Nat → Int64) → Prop) (kh47 : ∀ (x1 : Int32) (x2 : Int32) (I : Nat → Int32) (J : Nat → Int64) (B : Nat → Nat → Int32) (D : Nat → Nat → Int64) (ls : Array Slot) (H : Heap) (locs : List Loc), K47 x1 x2 I J B D → lv_has ls 5 [(0, .ref (ad 0)), (1, .int x1), (2, .int x2)] → zW G A s.heap (wM ad K I J B D) H locs → W p l e { frames := 4, cells := 0, slots := 0, locals := 95 } s m ([.ref (ad 0)] : List Value).toArray below meth c H locs 0 0 (MQ below (va_Qi (fun (r : Int32) (u : zS) => Post r u.1 u.2.1 u.2.2.1 u.2.2.2) (fun u t => zPost G K A (wM ad K u.1 u.2.1 u.2.2.1 u.2.2.2) t) A) ([.ref (ad 0)] : List Value).toArray s 0 0 A) (F0 m 47 ls [])) : ∀ (x1 : Int32) (y0 : Int32) (I : Nat → Int32) (J : Nat → Int64) (B : Nat → Nat → Int32) (D : Nat → Nat → Int64) (ls : Array Slot) (H : Heap) (locs : List Loc), wc_LassoFinderModel_wholeFormula_295  K47 Post x1 y0 I J B D → lv_has ls 5 [(0, .ref (ad 0)), (1, .int x1)] → zW G A s.heap (wM ad K I J B D) H locs → W p l e { frames := 4, cells := 0, slots := 0, locals := 95 } s m ([.ref (ad 0)] : List Value).toArray below meth c H locs 0 0 (MQ below (va_Qi (fun (r : Int32) (u : zS) => Post r u.1 u.2.1 u.2.2.1 u.2.2.2) (fun u t => zPost G K A (wM ad K u.1 u.2.1 u.2.2.1 u.2.2.2) t) A) ([.ref (ad 0)] : List Value).toArray s 0 0 A) (F0 m 295 ls [.int y0]) := by
  obtain ⟨hx, hb, hr, hml, hts, hown, hlocks, hA, hK⟩ := id C
  intro x1 y0 I J B D ls H locs hok hl hw
  unfold wc_LassoFinderModel_wholeFormula_295 at hok
  refine lv_istore hx hb zd_LassoFinderModel_wholeFormula_295 hl (by decide) rfl (fun ls hl => ?_)
  have hl : lv_has ls 5 [(4, .int y0), (0, .ref (ad 0)), (1, .int x1)] := hl
  refine lv_iload hx hb zd_LassoFinderModel_wholeFormula_297 (lv_at hl 0 rfl) ?_
  refine lv_if_ge (tgt := 307) hx hb zd_LassoFinderModel_wholeFormula_299 (by decide) (fun hc4 => ?_) (fun hc4 => ?_)
  · have hok := hok.1 hc4
    refine lv_iload hx hb zd_LassoFinderModel_wholeFormula_307 (lv_at hl 0 rfl) ?_
    refine z_calli (w1 := fun (u : zS) => wM ad K u.1 u.2.1 u.2.2.1 u.2.2.2) (wr := []) (z_runS (wc := (wM ad K I J B D)) (As := [.int y0]) (rest := []) ⟨hx, hb, hml, hown, hts⟩ (w_LassoFinderModel_binds l G K ad I J B D y0 _ H.size hok) zf_LassoFinderModel_binds zm_361 ⟨Nat.le_of_ble_eq_true rfl, Nat.le_of_ble_eq_true rfl⟩ hK hw [0, 1, 2, 3, 4, 5, 6, 7, 8, 9, 10, 11, 12, 13, 14, 15, 16, 17, 18, 19, 20, 21, 22, 23, 24, 25, 26, 27, 28, 29, 30, 31, 32, 33, 34, 35, 36, 37, 38, 39, 40, 41, 42, 43, 44, 45, 46, 47, 48, 49, 50, 51, 52, 53, 54, 55, 56, 57] rfl (by decide) rfl hl.1 rfl (Nat.le_of_ble_eq_true rfl) zd_LassoFinderModel_wholeFormula_309 ⟨Nat.le_of_ble_eq_true rfl, Nat.le_of_ble_eq_true rfl⟩) hw hA [0, 1, 2, 3, 4, 5, 6, 7, 8, 9, 10, 11, 12, 13, 14, 15, 16, 17, 18, 19, 20, 21, 22, 23, 24, 25, 26, 27, 28, 29, 30, 31, 32, 33, 34, 35, 36, 37, 38, 39, 40, 41, 42, 43, 44, 45, 46, 47, 48, 49, 50, 51, 52, 53, 54, 55, 56, 57] [] rfl rfl (by decide) (by decide) (fun r5 u H locs hok hw => ?_)
    obtain ⟨I5, J5, B5, D5⟩ := u
    dsimp only at hok
    have hw : zW G A s.heap (wM ad K I5 J5 B5 D5) H locs := hw
    refine lv_iconst (v := 4) hx hb zd_LassoFinderModel_wholeFormula_312 (by decide) ?_
    refine lv_icmp_ge (tgt := 336) hx hb zd_LassoFinderModel_wholeFormula_313 (by decide) (fun hc6 => ?_) (fun hc6 => ?_)
    · have hok := hok.1 hc6
      exact wJ_LassoFinderModel_wholeFormula_336 G K ad  Post C K47 kh47 x1 y0 I5 J5 B5 D5 ls H locs hok (lv_sub hl [1, 2, 0] rfl) hw
    · have hok := hok.2 hc6
      refine lv_aload_n hx hb zd_LassoFinderModel_wholeFormula_316 rfl (lv_at hl 1 rfl) ?_
      refine lv_iload hx hb zd_LassoFinderModel_wholeFormula_317 (lv_at hl 0 rfl) ?_
      refine lv_bipush (v := 11) hx hb zd_LassoFinderModel_wholeFormula_319 (by decide) ?_
      refine lv_icmp_ne (tgt := 328) hx hb zd_LassoFinderModel_wholeFormula_321 (by decide) (fun hc7 => ?_) (fun hc7 => ?_)
      · have hok := hok.1 hc7
        refine lv_iload hx hb zd_LassoFinderModel_wholeFormula_328 (lv_at hl 0 rfl) ?_
        refine z_calli (w1 := fun (u : zS) => wM ad K u.1 u.2.1 u.2.2.1 u.2.2.2) (wr := []) (z_runS (wc := (wM ad K I5 J5 B5 D5)) (As := [.int y0]) (rest := [.ref (ad 0)]) ⟨hx, hb, hml, hown, hts⟩ (w_LassoFinderModel_binds l G K ad I5 J5 B5 D5 y0 _ H.size hok) zf_LassoFinderModel_binds zm_361 ⟨Nat.le_of_ble_eq_true rfl, Nat.le_of_ble_eq_true rfl⟩ hK hw [0, 1, 2, 3, 4, 5, 6, 7, 8, 9, 10, 11, 12, 13, 14, 15, 16, 17, 18, 19, 20, 21, 22, 23, 24, 25, 26, 27, 28, 29, 30, 31, 32, 33, 34, 35, 36, 37, 38, 39, 40, 41, 42, 43, 44, 45, 46, 47, 48, 49, 50, 51, 52, 53, 54, 55, 56, 57] rfl (by decide) rfl hl.1 rfl (Nat.le_of_ble_eq_true rfl) zd_LassoFinderModel_wholeFormula_330 ⟨Nat.le_of_ble_eq_true rfl, Nat.le_of_ble_eq_true rfl⟩) hw hA [0, 1, 2, 3, 4, 5, 6, 7, 8, 9, 10, 11, 12, 13, 14, 15, 16, 17, 18, 19, 20, 21, 22, 23, 24, 25, 26, 27, 28, 29, 30, 31, 32, 33, 34, 35, 36, 37, 38, 39, 40, 41, 42, 43, 44, 45, 46, 47, 48, 49, 50, 51, 52, 53, 54, 55, 56, 57] [] rfl rfl (by decide) (by decide) (fun r8 u H locs hok hw => ?_)
        obtain ⟨I8, J8, B8, D8⟩ := u
        dsimp only at hok
        have hw : zW G A s.heap (wM ad K I8 J8 B8 D8) H locs := hw
        exact wJ_LassoFinderModel_wholeFormula_333 G K ad  Post C K47 kh47 x1 y0 r8 I8 J8 B8 D8 ls H locs hok (lv_sub hl [1, 2, 0] rfl) hw
      · have hok := hok.2 hc7
        refine lv_iconst (v := 2) hx hb zd_LassoFinderModel_wholeFormula_324 (by decide) ?_
        refine lv_goto (tgt := 333) hx hb zd_LassoFinderModel_wholeFormula_325 (by decide) ?_
        exact wJ_LassoFinderModel_wholeFormula_333 G K ad  Post C K47 kh47 x1 y0 2 I5 J5 B5 D5 ls H locs hok (lv_sub hl [1, 2, 0] rfl) hw
  · have hok := hok.2 hc4
    refine lv_aload_n hx hb zd_LassoFinderModel_wholeFormula_302 rfl (lv_at hl 1 rfl) ?_
    refine z_calli (w1 := fun (u : zS) => wM ad K u.1 u.2.1 u.2.2.1 u.2.2.2) (wr := []) (z_runV (q0 := 0) (wc := (wM ad K I J B D)) (As := []) (rest := []) ⟨hx, hb, hml, hown, hts⟩ (w_LassoFinderModel_fail l G K ad I J B D  _ H.size hok) zf_LassoFinderModel_fail zm_334 ⟨Nat.le_of_ble_eq_true rfl, Nat.le_of_ble_eq_true rfl⟩ hK hw [0, 1, 2, 3, 4, 5, 6, 7, 8, 9, 10, 11, 12, 13, 14, 15, 16, 17, 18, 19, 20, 21, 22, 23, 24, 25, 26, 27, 28, 29, 30, 31, 32, 33, 34, 35, 36, 37, 38, 39, 40, 41, 42, 43, 44, 45, 46, 47, 48, 49, 50, 51, 52, 53, 54, 55, 56, 57] rfl (by decide) rfl rfl rfl hl.1 rfl (Nat.le_of_ble_eq_true rfl) zd_LassoFinderModel_wholeFormula_303 ⟨Nat.le_of_ble_eq_true rfl, Nat.le_of_ble_eq_true rfl⟩) hw hA [0, 1, 2, 3, 4, 5, 6, 7, 8, 9, 10, 11, 12, 13, 14, 15, 16, 17, 18, 19, 20, 21, 22, 23, 24, 25, 26, 27, 28, 29, 30, 31, 32, 33, 34, 35, 36, 37, 38, 39, 40, 41, 42, 43, 44, 45, 46, 47, 48, 49, 50, 51, 52, 53, 54, 55, 56, 57] [] rfl rfl (by decide) (by decide) (fun r9 u H locs hok hw => ?_)
    obtain ⟨I9, J9, B9, D9⟩ := u
    dsimp only at hok
    have hw : zW G A s.heap (wM ad K I9 J9 B9 D9) H locs := hw
    have hbo := hok.1
    have hok := hok.2
    exact z_iret (u := (I9, J9, B9, D9)) hx hb hr hlocks (z_nar hbo) hw [0, 1, 2, 3, 4, 5, 6, 7, 8, 9, 10, 11, 12, 13, 14, 15, 16, 17, 18, 19, 20, 21, 22, 23, 24, 25, 26, 27, 28, 29, 30, 31, 32, 33, 34, 35, 36, 37, 38, 39, 40, 41, 42, 43, 44, 45, 46, 47, 48, 49, 50, 51, 52, 53, 54, 55, 56, 57] rfl (by decide) hok (Nat.le_of_ble_eq_true rfl) (Nat.le_of_ble_eq_true rfl) zd_LassoFinderModel_wholeFormula_306
set_option maxHeartbeats 8000000 in
set_option maxRecDepth 100000 in
theorem wJ_LassoFinderModel_wholeFormula_185 {p : Program} {l : Launch} {e : Env} {s : State} {m : MethodId} {below : List Frame} {meth : Method} {c : Code} {A : Nat → Prop} (G : va_G) (K : Nat → ClassId) (ad : Nat → Nat) (Post : Int32 → (Nat → Int32) → (Nat → Int64) → (Nat → Nat → Int32) → (Nat → Nat → Int64) → Prop) (C : zCx p s m ([.ref (ad 0)] : List Value).toArray meth c A G K prog_14_method_47_code (some .boolean) 5 "LassoFinderModel") (K47 : Int32 → Int32 → (Nat → Int32) → (Nat → Int64) → (Nat → Nat → Int32) → (Nat → Nat → Int64) → Prop) (kh47 : ∀ (x1 : Int32) (x2 : Int32) (I : Nat → Int32) (J : Nat → Int64) (B : Nat → Nat → Int32) (D : Nat → Nat → Int64) (ls : Array Slot) (H : Heap) (locs : List Loc), K47 x1 x2 I J B D → lv_has ls 5 [(0, .ref (ad 0)), (1, .int x1), (2, .int x2)] → zW G A s.heap (wM ad K I J B D) H locs → W p l e { frames := 4, cells := 0, slots := 0, locals := 95 } s m ([.ref (ad 0)] : List Value).toArray below meth c H locs 0 0 (MQ below (va_Qi (fun (r : Int32) (u : zS) => Post r u.1 u.2.1 u.2.2.1 u.2.2.2) (fun u t => zPost G K A (wM ad K u.1 u.2.1 u.2.2.1 u.2.2.2) t) A) ([.ref (ad 0)] : List Value).toArray s 0 0 A) (F0 m 47 ls [])) : ∀ (x1 : Int32) (x2 : Int32) (I : Nat → Int32) (J : Nat → Int64) (B : Nat → Nat → Int32) (D : Nat → Nat → Int64) (ls : Array Slot) (H : Heap) (locs : List Loc), wc_LassoFinderModel_wholeFormula_185  K47 Post x1 x2 I J B D → lv_has ls 5 [(0, .ref (ad 0)), (1, .int x1), (2, .int x2)] → zW G A s.heap (wM ad K I J B D) H locs → W p l e { frames := 4, cells := 0, slots := 0, locals := 95 } s m ([.ref (ad 0)] : List Value).toArray below meth c H locs 0 0 (MQ below (va_Qi (fun (r : Int32) (u : zS) => Post r u.1 u.2.1 u.2.2.1 u.2.2.2) (fun u t => zPost G K A (wM ad K u.1 u.2.1 u.2.2.1 u.2.2.2) t) A) ([.ref (ad 0)] : List Value).toArray s 0 0 A) (F0 m 185 ls []) := by
  obtain ⟨hx, hb, hr, hml, hts, hown, hlocks, hA, hK⟩ := id C
  intro x1 x2 I J B D ls H locs hok hl hw
  unfold wc_LassoFinderModel_wholeFormula_185 at hok
  refine lv_goto (tgt := 349) hx hb zd_LassoFinderModel_wholeFormula_185 (by decide) ?_
  exact wJ_LassoFinderModel_wholeFormula_349 G K ad  Post C K47 kh47 x1 x2 I J B D ls H locs hok (lv_sub hl [0, 1, 2] rfl) hw
set_option maxHeartbeats 8000000 in
set_option maxRecDepth 100000 in
theorem wJ_LassoFinderModel_wholeFormula_169 {p : Program} {l : Launch} {e : Env} {s : State} {m : MethodId} {below : List Frame} {meth : Method} {c : Code} {A : Nat → Prop} (G : va_G) (K : Nat → ClassId) (ad : Nat → Nat) (Post : Int32 → (Nat → Int32) → (Nat → Int64) → (Nat → Nat → Int32) → (Nat → Nat → Int64) → Prop) (C : zCx p s m ([.ref (ad 0)] : List Value).toArray meth c A G K prog_14_method_47_code (some .boolean) 5 "LassoFinderModel") (K47 : Int32 → Int32 → (Nat → Int32) → (Nat → Int64) → (Nat → Nat → Int32) → (Nat → Nat → Int64) → Prop) (kh47 : ∀ (x1 : Int32) (x2 : Int32) (I : Nat → Int32) (J : Nat → Int64) (B : Nat → Nat → Int32) (D : Nat → Nat → Int64) (ls : Array Slot) (H : Heap) (locs : List Loc), K47 x1 x2 I J B D → lv_has ls 5 [(0, .ref (ad 0)), (1, .int x1), (2, .int x2)] → zW G A s.heap (wM ad K I J B D) H locs → W p l e { frames := 4, cells := 0, slots := 0, locals := 95 } s m ([.ref (ad 0)] : List Value).toArray below meth c H locs 0 0 (MQ below (va_Qi (fun (r : Int32) (u : zS) => Post r u.1 u.2.1 u.2.2.1 u.2.2.2) (fun u t => zPost G K A (wM ad K u.1 u.2.1 u.2.2.1 u.2.2.2) t) A) ([.ref (ad 0)] : List Value).toArray s 0 0 A) (F0 m 47 ls [])) : ∀ (x1 : Int32) (I : Nat → Int32) (J : Nat → Int64) (B : Nat → Nat → Int32) (D : Nat → Nat → Int64) (ls : Array Slot) (H : Heap) (locs : List Loc), wc_LassoFinderModel_wholeFormula_169  K47 Post x1 I J B D → lv_has ls 5 [(0, .ref (ad 0)), (1, .int x1)] → zW G A s.heap (wM ad K I J B D) H locs → W p l e { frames := 4, cells := 0, slots := 0, locals := 95 } s m ([.ref (ad 0)] : List Value).toArray below meth c H locs 0 0 (MQ below (va_Qi (fun (r : Int32) (u : zS) => Post r u.1 u.2.1 u.2.2.1 u.2.2.2) (fun u t => zPost G K A (wM ad K u.1 u.2.1 u.2.2.1 u.2.2.2) t) A) ([.ref (ad 0)] : List Value).toArray s 0 0 A) (F0 m 169 ls []) := by
  obtain ⟨hx, hb, hr, hml, hts, hown, hlocks, hA, hK⟩ := id C
  intro x1 I J B D ls H locs hok hl hw
  unfold wc_LassoFinderModel_wholeFormula_169 at hok
  refine lv_aload_n hx hb zd_LassoFinderModel_wholeFormula_169 rfl (lv_at hl 0 rfl) ?_
  refine z_calli (w1 := fun (u : zS) => wM ad K u.1 u.2.1 u.2.2.1 u.2.2.2) (wr := []) (z_runV (q0 := 0) (wc := (wM ad K I J B D)) (As := []) (rest := []) ⟨hx, hb, hml, hown, hts⟩ (w_LassoFinderModel_atom l G K ad I J B D  _ H.size hok) zf_LassoFinderModel_atom zm_360 ⟨Nat.le_of_ble_eq_true rfl, Nat.le_of_ble_eq_true rfl⟩ hK hw [0, 1, 2, 3, 4, 5, 6, 7, 8, 9, 10, 11, 12, 13, 14, 15, 16, 17, 18, 19, 20, 21, 22, 23, 24, 25, 26, 27, 28, 29, 30, 31, 32, 33, 34, 35, 36, 37, 38, 39, 40, 41, 42, 43, 44, 45, 46, 47, 48, 49, 50, 51, 52, 53, 54, 55, 56, 57] rfl (by decide) rfl rfl rfl hl.1 rfl (Nat.le_of_ble_eq_true rfl) zd_LassoFinderModel_wholeFormula_170 ⟨Nat.le_of_ble_eq_true rfl, Nat.le_of_ble_eq_true rfl⟩) hw hA [0, 1, 2, 3, 4, 5, 6, 7, 8, 9, 10, 11, 12, 13, 14, 15, 16, 17, 18, 19, 20, 21, 22, 23, 24, 25, 26, 27, 28, 29, 30, 31, 32, 33, 34, 35, 36, 37, 38, 39, 40, 41, 42, 43, 44, 45, 46, 47, 48, 49, 50, 51, 52, 53, 54, 55, 56, 57] [] rfl rfl (by decide) (by decide) (fun r10 u H locs hok hw => ?_)
  obtain ⟨I10, J10, B10, D10⟩ := u
  dsimp only at hok
  have hw : zW G A s.heap (wM ad K I10 J10 B10 D10) H locs := hw
  refine lv_if_ne (tgt := 178) hx hb zd_LassoFinderModel_wholeFormula_173 (by decide) (fun hc11 => ?_) (fun hc11 => ?_)
  · have hok := hok.1 hc11
    refine lv_aload_n hx hb zd_LassoFinderModel_wholeFormula_178 rfl (lv_at hl 0 rfl) ?_
    refine lv_iconst (v := 5) hx hb zd_LassoFinderModel_wholeFormula_179 (by decide) ?_
    refine z_callv (w1 := fun (u : zS) => wM ad K u.1 u.2.1 u.2.2.1 u.2.2.2) (wr := []) (z_runV (q0 := 0) (wc := (wM ad K I10 J10 B10 D10)) (As := [.int 5]) (rest := []) ⟨hx, hb, hml, hown, hts⟩ (w_LassoFinderModel_putAll l G K ad I10 J10 B10 D10 5 _ H.size hok) zf_LassoFinderModel_putAll zm_358 ⟨Nat.le_of_ble_eq_true rfl, Nat.le_of_ble_eq_true rfl⟩ hK hw [0, 1, 2, 3, 4, 5, 6, 7, 8, 9, 10, 11, 12, 13, 14, 15, 16, 17, 18, 19, 20, 21, 22, 23, 24, 25, 26, 27, 28, 29, 30, 31, 32, 33, 34, 35, 36, 37, 38, 39, 40, 41, 42, 43, 44, 45, 46, 47, 48, 49, 50, 51, 52, 53, 54, 55, 56, 57] rfl (by decide) rfl rfl rfl hl.1 rfl (Nat.le_of_ble_eq_true rfl) zd_LassoFinderModel_wholeFormula_180 ⟨Nat.le_of_ble_eq_true rfl, Nat.le_of_ble_eq_true rfl⟩) hw hA [0, 1, 2, 3, 4, 5, 6, 7, 8, 9, 10, 11, 12, 13, 14, 15, 16, 17, 18, 19, 20, 21, 22, 23, 24, 25, 26, 27, 28, 29, 30, 31, 32, 33, 34, 35, 36, 37, 38, 39, 40, 41, 42, 43, 44, 45, 46, 47, 48, 49, 50, 51, 52, 53, 54, 55, 56, 57] [] rfl rfl (by decide) (by decide) (fun u H locs hok hw => ?_)
    obtain ⟨I12, J12, B12, D12⟩ := u
    dsimp only at hok
    have hw : zW G A s.heap (wM ad K I12 J12 B12 D12) H locs := hw
    refine lv_iconst (v := 0) hx hb zd_LassoFinderModel_wholeFormula_183 (by decide) ?_
    refine lv_istore_n hx hb zd_LassoFinderModel_wholeFormula_184 rfl hl (by decide) rfl (fun ls hl => ?_)
    have hl : lv_has ls 5 [(2, .int 0), (0, .ref (ad 0)), (1, .int x1)] := hl
    exact wJ_LassoFinderModel_wholeFormula_185 G K ad  Post C K47 kh47 x1 0 I12 J12 B12 D12 ls H locs hok (lv_sub hl [1, 2, 0] rfl) hw
  · have hok := hok.2 hc11
    refine lv_iconst (v := 0) hx hb zd_LassoFinderModel_wholeFormula_176 (by decide) ?_
    exact z_iret (u := (I10, J10, B10, D10)) hx hb hr hlocks rfl hw [0, 1, 2, 3, 4, 5, 6, 7, 8, 9, 10, 11, 12, 13, 14, 15, 16, 17, 18, 19, 20, 21, 22, 23, 24, 25, 26, 27, 28, 29, 30, 31, 32, 33, 34, 35, 36, 37, 38, 39, 40, 41, 42, 43, 44, 45, 46, 47, 48, 49, 50, 51, 52, 53, 54, 55, 56, 57] rfl (by decide) hok (Nat.le_of_ble_eq_true rfl) (Nat.le_of_ble_eq_true rfl) zd_LassoFinderModel_wholeFormula_177
set_option maxHeartbeats 8000000 in
set_option maxRecDepth 100000 in
theorem wJ_LassoFinderModel_wholeFormula_147 {p : Program} {l : Launch} {e : Env} {s : State} {m : MethodId} {below : List Frame} {meth : Method} {c : Code} {A : Nat → Prop} (G : va_G) (K : Nat → ClassId) (ad : Nat → Nat) (Post : Int32 → (Nat → Int32) → (Nat → Int64) → (Nat → Nat → Int32) → (Nat → Nat → Int64) → Prop) (C : zCx p s m ([.ref (ad 0)] : List Value).toArray meth c A G K prog_14_method_47_code (some .boolean) 5 "LassoFinderModel") (K47 : Int32 → Int32 → (Nat → Int32) → (Nat → Int64) → (Nat → Nat → Int32) → (Nat → Nat → Int64) → Prop) (kh47 : ∀ (x1 : Int32) (x2 : Int32) (I : Nat → Int32) (J : Nat → Int64) (B : Nat → Nat → Int32) (D : Nat → Nat → Int64) (ls : Array Slot) (H : Heap) (locs : List Loc), K47 x1 x2 I J B D → lv_has ls 5 [(0, .ref (ad 0)), (1, .int x1), (2, .int x2)] → zW G A s.heap (wM ad K I J B D) H locs → W p l e { frames := 4, cells := 0, slots := 0, locals := 95 } s m ([.ref (ad 0)] : List Value).toArray below meth c H locs 0 0 (MQ below (va_Qi (fun (r : Int32) (u : zS) => Post r u.1 u.2.1 u.2.2.1 u.2.2.2) (fun u t => zPost G K A (wM ad K u.1 u.2.1 u.2.2.1 u.2.2.2) t) A) ([.ref (ad 0)] : List Value).toArray s 0 0 A) (F0 m 47 ls [])) : ∀ (x2 : Int32) (y0 : Int32) (y1 : Int32) (I : Nat → Int32) (J : Nat → Int64) (B : Nat → Nat → Int32) (D : Nat → Nat → Int64) (ls : Array Slot) (H : Heap) (locs : List Loc), wc_LassoFinderModel_wholeFormula_147  K47 Post x2 y0 y1 I J B D → lv_has ls 5 [(0, .ref (ad 0)), (2, .int x2)] → zW G A s.heap (wM ad K I J B D) H locs → W p l e { frames := 4, cells := 0, slots := 0, locals := 95 } s m ([.ref (ad 0)] : List Value).toArray below meth c H locs 0 0 (MQ below (va_Qi (fun (r : Int32) (u : zS) => Post r u.1 u.2.1 u.2.2.1 u.2.2.2) (fun u t => zPost G K A (wM ad K u.1 u.2.1 u.2.2.1 u.2.2.2) t) A) ([.ref (ad 0)] : List Value).toArray s 0 0 A) (F0 m 147 ls [.int y0, .int y1]) := by
  obtain ⟨hx, hb, hr, hml, hts, hown, hlocks, hA, hK⟩ := id C
  intro x2 y0 y1 I J B D ls H locs hok hl hw
  unfold wc_LassoFinderModel_wholeFormula_147 at hok
  refine lv_iadd hx hb zd_LassoFinderModel_wholeFormula_147 ?_
  refine lv_topi (fun z13 ez13 => ?_)
  have hok := hok z13 ez13
  refine lv_istore_n hx hb zd_LassoFinderModel_wholeFormula_148 rfl hl (by decide) rfl (fun ls hl => ?_)
  have hl : lv_has ls 5 [(1, .int z13), (0, .ref (ad 0)), (2, .int x2)] := hl
  refine lv_goto (tgt := 185) hx hb zd_LassoFinderModel_wholeFormula_149 (by decide) ?_
  exact wJ_LassoFinderModel_wholeFormula_185 G K ad  Post C K47 kh47 z13 x2 I J B D ls H locs hok (lv_sub hl [1, 0, 2] rfl) hw
set_option maxHeartbeats 8000000 in
set_option maxRecDepth 100000 in
theorem wJ_LassoFinderModel_wholeFormula_116 {p : Program} {l : Launch} {e : Env} {s : State} {m : MethodId} {below : List Frame} {meth : Method} {c : Code} {A : Nat → Prop} (G : va_G) (K : Nat → ClassId) (ad : Nat → Nat) (Post : Int32 → (Nat → Int32) → (Nat → Int64) → (Nat → Nat → Int32) → (Nat → Nat → Int64) → Prop) (C : zCx p s m ([.ref (ad 0)] : List Value).toArray meth c A G K prog_14_method_47_code (some .boolean) 5 "LassoFinderModel") (K47 : Int32 → Int32 → (Nat → Int32) → (Nat → Int64) → (Nat → Nat → Int32) → (Nat → Nat → Int64) → Prop) (kh47 : ∀ (x1 : Int32) (x2 : Int32) (I : Nat → Int32) (J : Nat → Int64) (B : Nat → Nat → Int32) (D : Nat → Nat → Int64) (ls : Array Slot) (H : Heap) (locs : List Loc), K47 x1 x2 I J B D → lv_has ls 5 [(0, .ref (ad 0)), (1, .int x1), (2, .int x2)] → zW G A s.heap (wM ad K I J B D) H locs → W p l e { frames := 4, cells := 0, slots := 0, locals := 95 } s m ([.ref (ad 0)] : List Value).toArray below meth c H locs 0 0 (MQ below (va_Qi (fun (r : Int32) (u : zS) => Post r u.1 u.2.1 u.2.2.1 u.2.2.2) (fun u t => zPost G K A (wM ad K u.1 u.2.1 u.2.2.1 u.2.2.2) t) A) ([.ref (ad 0)] : List Value).toArray s 0 0 A) (F0 m 47 ls [])) : ∀ (x1 : Int32) (x2 : Int32) (x3 : Int32) (y0 : Int32) (I : Nat → Int32) (J : Nat → Int64) (B : Nat → Nat → Int32) (D : Nat → Nat → Int64) (ls : Array Slot) (H : Heap) (locs : List Loc), wc_LassoFinderModel_wholeFormula_116  K47 Post x1 x2 x3 y0 I J B D → lv_has ls 5 [(0, .ref (ad 0)), (1, .int x1), (2, .int x2), (3, .int x3)] → zW G A s.heap (wM ad K I J B D) H locs → W p l e { frames := 4, cells := 0, slots := 0, locals := 95 } s m ([.ref (ad 0)] : List Value).toArray below meth c H locs 0 0 (MQ below (va_Qi (fun (r : Int32) (u : zS) => Post r u.1 u.2.1 u.2.2.1 u.2.2.2) (fun u t => zPost G K A (wM ad K u.1 u.2.1 u.2.2.1 u.2.2.2) t) A) ([.ref (ad 0)] : List Value).toArray s 0 0 A) (F0 m 116 ls [.int y0]) := by
  obtain ⟨hx, hb, hr, hml, hts, hown, hlocks, hA, hK⟩ := id C
  intro x1 x2 x3 y0 I J B D ls H locs hok hl hw
  unfold wc_LassoFinderModel_wholeFormula_116 at hok
  refine lv_istore hx hb zd_LassoFinderModel_wholeFormula_116 hl (by decide) rfl (fun ls hl => ?_)
  have hl : lv_has ls 5 [(4, .int y0), (0, .ref (ad 0)), (1, .int x1), (2, .int x2), (3, .int x3)] := hl
  refine lv_iload hx hb zd_LassoFinderModel_wholeFormula_118 (lv_at hl 0 rfl) ?_
  refine lv_if_lt (tgt := 152) hx hb zd_LassoFinderModel_wholeFormula_120 (by decide) (fun hc14 => ?_) (fun hc14 => ?_)
  · have hok := hok.1 hc14
    refine lv_iload_n hx hb zd_LassoFinderModel_wholeFormula_152 rfl (lv_at hl 4 rfl) ?_
    refine lv_bipush (v := 123) hx hb zd_LassoFinderModel_wholeFormula_153 (by decide) ?_
    refine lv_icmp_eq (tgt := 169) hx hb zd_LassoFinderModel_wholeFormula_155 (by decide) (fun hc15 => ?_) (fun hc15 => ?_)
    · have hok := hok.1 hc15
      exact wJ_LassoFinderModel_wholeFormula_169 G K ad  Post C K47 kh47 x1 I J B D ls H locs hok (lv_sub hl [1, 2] rfl) hw
    · have hok := hok.2 hc15
      refine lv_iload_n hx hb zd_LassoFinderModel_wholeFormula_158 rfl (lv_at hl 4 rfl) ?_
      refine lv_bipush (v := 64) hx hb zd_LassoFinderModel_wholeFormula_159 (by decide) ?_
      refine lv_icmp_eq (tgt := 169) hx hb zd_LassoFinderModel_wholeFormula_161 (by decide) (fun hc16 => ?_) (fun hc16 => ?_)
      · have hok := hok.1 hc16
        exact wJ_LassoFinderModel_wholeFormula_169 G K ad  Post C K47 kh47 x1 I J B D ls H locs hok (lv_sub hl [1, 2] rfl) hw
      · have hok := hok.2 hc16
        refine lv_aload_n hx hb zd_LassoFinderModel_wholeFormula_164 rfl (lv_at hl 1 rfl) ?_
        refine z_calli (w1 := fun (u : zS) => wM ad K u.1 u.2.1 u.2.2.1 u.2.2.2) (wr := []) (z_runV (q0 := 0) (wc := (wM ad K I J B D)) (As := []) (rest := []) ⟨hx, hb, hml, hown, hts⟩ (w_LassoFinderModel_fail l G K ad I J B D  _ H.size hok) zf_LassoFinderModel_fail zm_334 ⟨Nat.le_of_ble_eq_true rfl, Nat.le_of_ble_eq_true rfl⟩ hK hw [0, 1, 2, 3, 4, 5, 6, 7, 8, 9, 10, 11, 12, 13, 14, 15, 16, 17, 18, 19, 20, 21, 22, 23, 24, 25, 26, 27, 28, 29, 30, 31, 32, 33, 34, 35, 36, 37, 38, 39, 40, 41, 42, 43, 44, 45, 46, 47, 48, 49, 50, 51, 52, 53, 54, 55, 56, 57] rfl (by decide) rfl rfl rfl hl.1 rfl (Nat.le_of_ble_eq_true rfl) zd_LassoFinderModel_wholeFormula_165 ⟨Nat.le_of_ble_eq_true rfl, Nat.le_of_ble_eq_true rfl⟩) hw hA [0, 1, 2, 3, 4, 5, 6, 7, 8, 9, 10, 11, 12, 13, 14, 15, 16, 17, 18, 19, 20, 21, 22, 23, 24, 25, 26, 27, 28, 29, 30, 31, 32, 33, 34, 35, 36, 37, 38, 39, 40, 41, 42, 43, 44, 45, 46, 47, 48, 49, 50, 51, 52, 53, 54, 55, 56, 57] [] rfl rfl (by decide) (by decide) (fun r17 u H locs hok hw => ?_)
        obtain ⟨I17, J17, B17, D17⟩ := u
        dsimp only at hok
        have hw : zW G A s.heap (wM ad K I17 J17 B17 D17) H locs := hw
        have hbo := hok.1
        have hok := hok.2
        exact z_iret (u := (I17, J17, B17, D17)) hx hb hr hlocks (z_nar hbo) hw [0, 1, 2, 3, 4, 5, 6, 7, 8, 9, 10, 11, 12, 13, 14, 15, 16, 17, 18, 19, 20, 21, 22, 23, 24, 25, 26, 27, 28, 29, 30, 31, 32, 33, 34, 35, 36, 37, 38, 39, 40, 41, 42, 43, 44, 45, 46, 47, 48, 49, 50, 51, 52, 53, 54, 55, 56, 57] rfl (by decide) hok (Nat.le_of_ble_eq_true rfl) (Nat.le_of_ble_eq_true rfl) zd_LassoFinderModel_wholeFormula_168
  · have hok := hok.2 hc14
    refine lv_aload_n hx hb zd_LassoFinderModel_wholeFormula_123 rfl (lv_at hl 1 rfl) ?_
    refine lv_iload hx hb zd_LassoFinderModel_wholeFormula_124 (lv_at hl 0 rfl) ?_
    refine z_calli (w1 := fun (u : zS) => wM ad K u.1 u.2.1 u.2.2.1 u.2.2.2) (wr := []) (z_runV (q0 := 0) (wc := (wM ad K I J B D)) (As := [.int y0]) (rest := []) ⟨hx, hb, hml, hown, hts⟩ (w_LassoFinderModel_push l G K ad I J B D y0 _ H.size hok) zf_LassoFinderModel_push zm_359 ⟨Nat.le_of_ble_eq_true rfl, Nat.le_of_ble_eq_true rfl⟩ hK hw [0, 1, 2, 3, 4, 5, 6, 7, 8, 9, 10, 11, 12, 13, 14, 15, 16, 17, 18, 19, 20, 21, 22, 23, 24, 25, 26, 27, 28, 29, 30, 31, 32, 33, 34, 35, 36, 37, 38, 39, 40, 41, 42, 43, 44, 45, 46, 47, 48, 49, 50, 51, 52, 53, 54, 55, 56, 57] rfl (by decide) rfl rfl rfl hl.1 rfl (Nat.le_of_ble_eq_true rfl) zd_LassoFinderModel_wholeFormula_126 ⟨Nat.le_of_ble_eq_true rfl, Nat.le_of_ble_eq_true rfl⟩) hw hA [0, 1, 2, 3, 4, 5, 6, 7, 8, 9, 10, 11, 12, 13, 14, 15, 16, 17, 18, 19, 20, 21, 22, 23, 24, 25, 26, 27, 28, 29, 30, 31, 32, 33, 34, 35, 36, 37, 38, 39, 40, 41, 42, 43, 44, 45, 46, 47, 48, 49, 50, 51, 52, 53, 54, 55, 56, 57] [] rfl rfl (by decide) (by decide) (fun r18 u H locs hok hw => ?_)
    obtain ⟨I18, J18, B18, D18⟩ := u
    dsimp only at hok
    have hw : zW G A s.heap (wM ad K I18 J18 B18 D18) H locs := hw
    refine lv_if_ne (tgt := 134) hx hb zd_LassoFinderModel_wholeFormula_129 (by decide) (fun hc19 => ?_) (fun hc19 => ?_)
    · have hok := hok.1 hc19
      refine lv_iload_n hx hb zd_LassoFinderModel_wholeFormula_134 rfl (lv_at hl 2 rfl) ?_
      refine lv_iload hx hb zd_LassoFinderModel_wholeFormula_135 (lv_at hl 0 rfl) ?_
      refine lv_bipush (v := 16) hx hb zd_LassoFinderModel_wholeFormula_137 (by decide) ?_
      refine lv_icmp_ne (tgt := 146) hx hb zd_LassoFinderModel_wholeFormula_139 (by decide) (fun hc20 => ?_) (fun hc20 => ?_)
      · have hok := hok.1 hc20
        refine lv_iconst (v := 0) hx hb zd_LassoFinderModel_wholeFormula_146 (by decide) ?_
        exact wJ_LassoFinderModel_wholeFormula_147 G K ad  Post C K47 kh47 x2 0 x1 I18 J18 B18 D18 ls H locs hok (lv_sub hl [1, 3] rfl) hw
      · have hok := hok.2 hc20
        refine lv_iconst (v := 1) hx hb zd_LassoFinderModel_wholeFormula_142 (by decide) ?_
        refine lv_goto (tgt := 147) hx hb zd_LassoFinderModel_wholeFormula_143 (by decide) ?_
        exact wJ_LassoFinderModel_wholeFormula_147 G K ad  Post C K47 kh47 x2 1 x1 I18 J18 B18 D18 ls H locs hok (lv_sub hl [1, 3] rfl) hw
    · have hok := hok.2 hc19
      refine lv_iconst (v := 0) hx hb zd_LassoFinderModel_wholeFormula_132 (by decide) ?_
      exact z_iret (u := (I18, J18, B18, D18)) hx hb hr hlocks rfl hw [0, 1, 2, 3, 4, 5, 6, 7, 8, 9, 10, 11, 12, 13, 14, 15, 16, 17, 18, 19, 20, 21, 22, 23, 24, 25, 26, 27, 28, 29, 30, 31, 32, 33, 34, 35, 36, 37, 38, 39, 40, 41, 42, 43, 44, 45, 46, 47, 48, 49, 50, 51, 52, 53, 54, 55, 56, 57] rfl (by decide) hok (Nat.le_of_ble_eq_true rfl) (Nat.le_of_ble_eq_true rfl) zd_LassoFinderModel_wholeFormula_133
set_option maxHeartbeats 8000000 in
set_option maxRecDepth 100000 in
theorem wJ_LassoFinderModel_wholeFormula_62 {p : Program} {l : Launch} {e : Env} {s : State} {m : MethodId} {below : List Frame} {meth : Method} {c : Code} {A : Nat → Prop} (G : va_G) (K : Nat → ClassId) (ad : Nat → Nat) (Post : Int32 → (Nat → Int32) → (Nat → Int64) → (Nat → Nat → Int32) → (Nat → Nat → Int64) → Prop) (C : zCx p s m ([.ref (ad 0)] : List Value).toArray meth c A G K prog_14_method_47_code (some .boolean) 5 "LassoFinderModel") (K47 : Int32 → Int32 → (Nat → Int32) → (Nat → Int64) → (Nat → Nat → Int32) → (Nat → Nat → Int64) → Prop) (kh47 : ∀ (x1 : Int32) (x2 : Int32) (I : Nat → Int32) (J : Nat → Int64) (B : Nat → Nat → Int32) (D : Nat → Nat → Int64) (ls : Array Slot) (H : Heap) (locs : List Loc), K47 x1 x2 I J B D → lv_has ls 5 [(0, .ref (ad 0)), (1, .int x1), (2, .int x2)] → zW G A s.heap (wM ad K I J B D) H locs → W p l e { frames := 4, cells := 0, slots := 0, locals := 95 } s m ([.ref (ad 0)] : List Value).toArray below meth c H locs 0 0 (MQ below (va_Qi (fun (r : Int32) (u : zS) => Post r u.1 u.2.1 u.2.2.1 u.2.2.2) (fun u t => zPost G K A (wM ad K u.1 u.2.1 u.2.2.1 u.2.2.2) t) A) ([.ref (ad 0)] : List Value).toArray s 0 0 A) (F0 m 47 ls [])) : ∀ (x1 : Int32) (x2 : Int32) (I : Nat → Int32) (J : Nat → Int64) (B : Nat → Nat → Int32) (D : Nat → Nat → Int64) (ls : Array Slot) (H : Heap) (locs : List Loc), wc_LassoFinderModel_wholeFormula_62  K47 Post x1 x2 I J B D → lv_has ls 5 [(0, .ref (ad 0)), (1, .int x1), (2, .int x2)] → zW G A s.heap (wM ad K I J B D) H locs → W p l e { frames := 4, cells := 0, slots := 0, locals := 95 } s m ([.ref (ad 0)] : List Value).toArray below meth c H locs 0 0 (MQ below (va_Qi (fun (r : Int32) (u : zS) => Post r u.1 u.2.1 u.2.2.1 u.2.2.2) (fun u t => zPost G K A (wM ad K u.1 u.2.1 u.2.2.1 u.2.2.2) t) A) ([.ref (ad 0)] : List Value).toArray s 0 0 A) (F0 m 62 ls []) := by
  obtain ⟨hx, hb, hr, hml, hts, hown, hlocks, hA, hK⟩ := id C
  intro x1 x2 I J B D ls H locs hok hl hw
  unfold wc_LassoFinderModel_wholeFormula_62 at hok
  refine lv_aload_n hx hb zd_LassoFinderModel_wholeFormula_62 rfl (lv_at hl 0 rfl) ?_
  refine z_calli (w1 := fun (u : zS) => wM ad K u.1 u.2.1 u.2.2.1 u.2.2.2) (wr := []) (z_runV (q0 := 0) (wc := (wM ad K I J B D)) (As := []) (rest := []) ⟨hx, hb, hml, hown, hts⟩ (w_LassoFinderModel_here l G K ad I J B D  _ H.size hok) zf_LassoFinderModel_here zm_332 ⟨Nat.le_of_ble_eq_true rfl, Nat.le_of_ble_eq_true rfl⟩ hK hw [0, 1, 2, 3, 4, 5, 6, 7, 8, 9, 10, 11, 12, 13, 14, 15, 16, 17, 18, 19, 20, 21, 22, 23, 24, 25, 26, 27, 28, 29, 30, 31, 32, 33, 34, 35, 36, 37, 38, 39, 40, 41, 42, 43, 44, 45, 46, 47, 48, 49, 50, 51, 52, 53, 54, 55, 56, 57] rfl (by decide) rfl rfl rfl hl.1 rfl (Nat.le_of_ble_eq_true rfl) zd_LassoFinderModel_wholeFormula_63 ⟨Nat.le_of_ble_eq_true rfl, Nat.le_of_ble_eq_true rfl⟩) hw hA [0, 1, 2, 3, 4, 5, 6, 7, 8, 9, 10, 11, 12, 13, 14, 15, 16, 17, 18, 19, 20, 21, 22, 23, 24, 25, 26, 27, 28, 29, 30, 31, 32, 33, 34, 35, 36, 37, 38, 39, 40, 41, 42, 43, 44, 45, 46, 47, 48, 49, 50, 51, 52, 53, 54, 55, 56, 57] [] rfl rfl (by decide) (by decide) (fun r21 u H locs hok hw => ?_)
  obtain ⟨I21, J21, B21, D21⟩ := u
  dsimp only at hok
  have hw : zW G A s.heap (wM ad K I21 J21 B21 D21) H locs := hw
  refine lv_istore_n hx hb zd_LassoFinderModel_wholeFormula_66 rfl hl (by decide) rfl (fun ls hl => ?_)
  have hl : lv_has ls 5 [(3, .int r21), (0, .ref (ad 0)), (1, .int x1), (2, .int x2)] := hl
  refine lv_iload_n hx hb zd_LassoFinderModel_wholeFormula_67 rfl (lv_at hl 3 rfl) ?_
  refine lv_if_eq (tgt := 188) hx hb zd_LassoFinderModel_wholeFormula_68 (by decide) (fun hc22 => ?_) (fun hc22 => ?_)
  · have hok := hok.1 hc22
    refine lv_iload_n hx hb zd_LassoFinderModel_wholeFormula_188 rfl (lv_at hl 0 rfl) ?_
    refine lv_bipush (v := 41) hx hb zd_LassoFinderModel_wholeFormula_189 (by decide) ?_
    refine lv_icmp_ne (tgt := 239) hx hb zd_LassoFinderModel_wholeFormula_191 (by decide) (fun hc23 => ?_) (fun hc23 => ?_)
    · have hok := hok.1 hc23
      refine lv_iload_n hx hb zd_LassoFinderModel_wholeFormula_239 rfl (lv_at hl 0 rfl) ?_
      refine lv_bipush (v := 62) hx hb zd_LassoFinderModel_wholeFormula_240 (by decide) ?_
      refine lv_icmp_ne (tgt := 250) hx hb zd_LassoFinderModel_wholeFormula_242 (by decide) (fun hc24 => ?_) (fun hc24 => ?_)
      · have hok := hok.1 hc24
        refine lv_iload_n hx hb zd_LassoFinderModel_wholeFormula_250 rfl (lv_at hl 0 rfl) ?_
        refine lv_bipush (v := 124) hx hb zd_LassoFinderModel_wholeFormula_251 (by decide) ?_
        refine lv_icmp_ne (tgt := 261) hx hb zd_LassoFinderModel_wholeFormula_253 (by decide) (fun hc25 => ?_) (fun hc25 => ?_)
        · have hok := hok.1 hc25
          refine lv_iload_n hx hb zd_LassoFinderModel_wholeFormula_261 rfl (lv_at hl 0 rfl) ?_
          refine lv_bipush (v := 38) hx hb zd_LassoFinderModel_wholeFormula_262 (by decide) ?_
          refine lv_icmp_ne (tgt := 272) hx hb zd_LassoFinderModel_wholeFormula_264 (by decide) (fun hc26 => ?_) (fun hc26 => ?_)
          · have hok := hok.1 hc26
            refine lv_iload_n hx hb zd_LassoFinderModel_wholeFormula_272 rfl (lv_at hl 0 rfl) ?_
            refine lv_bipush (v := 85) hx hb zd_LassoFinderModel_wholeFormula_273 (by decide) ?_
            refine lv_icmp_ne (tgt := 283) hx hb zd_LassoFinderModel_wholeFormula_275 (by decide) (fun hc27 => ?_) (fun hc27 => ?_)
            · have hok := hok.1 hc27
              refine lv_iload_n hx hb zd_LassoFinderModel_wholeFormula_283 rfl (lv_at hl 0 rfl) ?_
              refine lv_bipush (v := 82) hx hb zd_LassoFinderModel_wholeFormula_284 (by decide) ?_
              refine lv_icmp_ne (tgt := 294) hx hb zd_LassoFinderModel_wholeFormula_286 (by decide) (fun hc28 => ?_) (fun hc28 => ?_)
              · have hok := hok.1 hc28
                refine lv_iconst (v := (-1)) hx hb zd_LassoFinderModel_wholeFormula_294 (by decide) ?_
                exact wJ_LassoFinderModel_wholeFormula_295 G K ad  Post C K47 kh47 x1 (-1) I21 J21 B21 D21 ls H locs hok (lv_sub hl [1, 2] rfl) hw
              · have hok := hok.2 hc28
                refine lv_bipush (v := 13) hx hb zd_LassoFinderModel_wholeFormula_289 (by decide) ?_
                refine lv_goto (tgt := 295) hx hb zd_LassoFinderModel_wholeFormula_291 (by decide) ?_
                exact wJ_LassoFinderModel_wholeFormula_295 G K ad  Post C K47 kh47 x1 13 I21 J21 B21 D21 ls H locs hok (lv_sub hl [1, 2] rfl) hw
            · have hok := hok.2 hc27
              refine lv_bipush (v := 12) hx hb zd_LassoFinderModel_wholeFormula_278 (by decide) ?_
              refine lv_goto (tgt := 295) hx hb zd_LassoFinderModel_wholeFormula_280 (by decide) ?_
              exact wJ_LassoFinderModel_wholeFormula_295 G K ad  Post C K47 kh47 x1 12 I21 J21 B21 D21 ls H locs hok (lv_sub hl [1, 2] rfl) hw
          · have hok := hok.2 hc26
            refine lv_bipush (v := 9) hx hb zd_LassoFinderModel_wholeFormula_267 (by decide) ?_
            refine lv_goto (tgt := 295) hx hb zd_LassoFinderModel_wholeFormula_269 (by decide) ?_
            exact wJ_LassoFinderModel_wholeFormula_295 G K ad  Post C K47 kh47 x1 9 I21 J21 B21 D21 ls H locs hok (lv_sub hl [1, 2] rfl) hw
        · have hok := hok.2 hc25
          refine lv_bipush (v := 10) hx hb zd_LassoFinderModel_wholeFormula_256 (by decide) ?_
          refine lv_goto (tgt := 295) hx hb zd_LassoFinderModel_wholeFormula_258 (by decide) ?_
          exact wJ_LassoFinderModel_wholeFormula_295 G K ad  Post C K47 kh47 x1 10 I21 J21 B21 D21 ls H locs hok (lv_sub hl [1, 2] rfl) hw
      · have hok := hok.2 hc24
        refine lv_bipush (v := 11) hx hb zd_LassoFinderModel_wholeFormula_245 (by decide) ?_
        refine lv_goto (tgt := 295) hx hb zd_LassoFinderModel_wholeFormula_247 (by decide) ?_
        exact wJ_LassoFinderModel_wholeFormula_295 G K ad  Post C K47 kh47 x1 11 I21 J21 B21 D21 ls H locs hok (lv_sub hl [1, 2] rfl) hw
    · have hok := hok.2 hc23
      refine lv_iload_n hx hb zd_LassoFinderModel_wholeFormula_194 rfl (lv_at hl 2 rfl) ?_
      refine lv_if_ne (tgt := 203) hx hb zd_LassoFinderModel_wholeFormula_195 (by decide) (fun hc29 => ?_) (fun hc29 => ?_)
      · have hok := hok.1 hc29
        refine lv_aload_n hx hb zd_LassoFinderModel_wholeFormula_203 rfl (lv_at hl 1 rfl) ?_
        refine lv_iconst (v := 1) hx hb zd_LassoFinderModel_wholeFormula_204 (by decide) ?_
        refine z_callv (w1 := fun (u : zS) => wM ad K u.1 u.2.1 u.2.2.1 u.2.2.2) (wr := []) (z_runV (q0 := 0) (wc := (wM ad K I21 J21 B21 D21)) (As := [.int 1]) (rest := []) ⟨hx, hb, hml, hown, hts⟩ (w_LassoFinderModel_putAll l G K ad I21 J21 B21 D21 1 _ H.size hok) zf_LassoFinderModel_putAll zm_358 ⟨Nat.le_of_ble_eq_true rfl, Nat.le_of_ble_eq_true rfl⟩ hK hw [0, 1, 2, 3, 4, 5, 6, 7, 8, 9, 10, 11, 12, 13, 14, 15, 16, 17, 18, 19, 20, 21, 22, 23, 24, 25, 26, 27, 28, 29, 30, 31, 32, 33, 34, 35, 36, 37, 38, 39, 40, 41, 42, 43, 44, 45, 46, 47, 48, 49, 50, 51, 52, 53, 54, 55, 56, 57] rfl (by decide) rfl rfl rfl hl.1 rfl (Nat.le_of_ble_eq_true rfl) zd_LassoFinderModel_wholeFormula_205 ⟨Nat.le_of_ble_eq_true rfl, Nat.le_of_ble_eq_true rfl⟩) hw hA [0, 1, 2, 3, 4, 5, 6, 7, 8, 9, 10, 11, 12, 13, 14, 15, 16, 17, 18, 19, 20, 21, 22, 23, 24, 25, 26, 27, 28, 29, 30, 31, 32, 33, 34, 35, 36, 37, 38, 39, 40, 41, 42, 43, 44, 45, 46, 47, 48, 49, 50, 51, 52, 53, 54, 55, 56, 57] [] rfl rfl (by decide) (by decide) (fun u H locs hok hw => ?_)
        obtain ⟨I30, J30, B30, D30⟩ := u
        dsimp only at hok
        have hw : zW G A s.heap (wM ad K I30 J30 B30 D30) H locs := hw
        refine lv_aload_n hx hb zd_LassoFinderModel_wholeFormula_208 rfl (lv_at hl 1 rfl) ?_
        refine lv_dup hx hb zd_LassoFinderModel_wholeFormula_209 rfl ?_
        refine z_get (v := .int (I30 13)) hx hb hts hown hK hw zZ12 0 rfl 42 (by decide) zm_348 rfl zd_LassoFinderModel_wholeFormula_210 ?_
        refine lv_iconst (v := 1) hx hb zd_LassoFinderModel_wholeFormula_213 (by decide) ?_
        refine lv_isub hx hb zd_LassoFinderModel_wholeFormula_214 ?_
        refine lv_topi (fun z31 ez31 => ?_)
        have hok := hok z31 ez31
        refine z_put (v := .int z31) hx hb hts hown hK hw zZ12 0 rfl 42 (by decide) zm_348 rfl rfl rfl (Nat.le_of_ble_eq_true rfl) zd_LassoFinderModel_wholeFormula_215 (fun H locs hw => ?_)
        have hw : zW G A s.heap (wM ad K (upd I30 13 z31) J30 B30 D30) H locs := hw
        obtain ⟨z32, ez32⟩ : ∃ z : Int32, z = (x1 + (-1)) := ⟨_, rfl⟩
        have hok := hok z32 ez32
        refine lv_iinc (v := z32) hx hb zd_LassoFinderModel_wholeFormula_218 hl (k := 2) rfl ez32.symm (by decide) rfl (fun ls hl => ?_)
        have hl : lv_has ls 5 [(1, .int z32), (3, .int r21), (0, .ref (ad 0)), (2, .int x2)] := hl
        refine lv_aload_n hx hb zd_LassoFinderModel_wholeFormula_221 rfl (lv_at hl 2 rfl) ?_
        refine lv_dup hx hb zd_LassoFinderModel_wholeFormula_222 rfl ?_
        refine z_get (v := .int (I30 2)) hx hb hts hown hK hw zZ12 0 rfl 3 (by decide) zm_335 rfl zd_LassoFinderModel_wholeFormula_223 ?_
        refine lv_iconst (v := 1) hx hb zd_LassoFinderModel_wholeFormula_226 (by decide) ?_
        refine lv_iadd hx hb zd_LassoFinderModel_wholeFormula_227 ?_
        refine lv_topi (fun z33 ez33 => ?_)
        have hok := hok z33 ez33
        refine z_put (v := .int z33) hx hb hts hown hK hw zZ12 0 rfl 3 (by decide) zm_335 rfl rfl rfl (Nat.le_of_ble_eq_true rfl) zd_LassoFinderModel_wholeFormula_228 (fun H locs hw => ?_)
        have hw : zW G A s.heap (wM ad K (upd (upd I30 13 z31) 2 z33) J30 B30 D30) H locs := hw
        refine lv_aload_n hx hb zd_LassoFinderModel_wholeFormula_231 rfl (lv_at hl 2 rfl) ?_
        refine lv_iconst (v := 5) hx hb zd_LassoFinderModel_wholeFormula_232 (by decide) ?_
        refine z_callv (w1 := fun (u : zS) => wM ad K u.1 u.2.1 u.2.2.1 u.2.2.2) (wr := []) (z_runV (q0 := 0) (wc := (wM ad K (upd (upd I30 13 z31) 2 z33) J30 B30 D30)) (As := [.int 5]) (rest := []) ⟨hx, hb, hml, hown, hts⟩ (w_LassoFinderModel_putAll l G K ad (upd (upd I30 13 z31) 2 z33) J30 B30 D30 5 _ H.size hok) zf_LassoFinderModel_putAll zm_358 ⟨Nat.le_of_ble_eq_true rfl, Nat.le_of_ble_eq_true rfl⟩ hK hw [0, 1, 2, 3, 4, 5, 6, 7, 8, 9, 10, 11, 12, 13, 14, 15, 16, 17, 18, 19, 20, 21, 22, 23, 24, 25, 26, 27, 28, 29, 30, 31, 32, 33, 34, 35, 36, 37, 38, 39, 40, 41, 42, 43, 44, 45, 46, 47, 48, 49, 50, 51, 52, 53, 54, 55, 56, 57] rfl (by decide) rfl rfl rfl hl.1 rfl (Nat.le_of_ble_eq_true rfl) zd_LassoFinderModel_wholeFormula_233 ⟨Nat.le_of_ble_eq_true rfl, Nat.le_of_ble_eq_true rfl⟩) hw hA [0, 1, 2, 3, 4, 5, 6, 7, 8, 9, 10, 11, 12, 13, 14, 15, 16, 17, 18, 19, 20, 21, 22, 23, 24, 25, 26, 27, 28, 29, 30, 31, 32, 33, 34, 35, 36, 37, 38, 39, 40, 41, 42, 43, 44, 45, 46, 47, 48, 49, 50, 51, 52, 53, 54, 55, 56, 57] [] rfl rfl (by decide) (by decide) (fun u H locs hok hw => ?_)
        obtain ⟨I34, J34, B34, D34⟩ := u
        dsimp only at hok
        have hw : zW G A s.heap (wM ad K I34 J34 B34 D34) H locs := hw
        refine lv_goto (tgt := 349) hx hb zd_LassoFinderModel_wholeFormula_236 (by decide) ?_
        exact wJ_LassoFinderModel_wholeFormula_349 G K ad  Post C K47 kh47 z32 x2 I34 J34 B34 D34 ls H locs hok (lv_sub hl [2, 0, 3] rfl) hw
      · have hok := hok.2 hc29
        refine lv_aload_n hx hb zd_LassoFinderModel_wholeFormula_198 rfl (lv_at hl 1 rfl) ?_
        refine z_calli (w1 := fun (u : zS) => wM ad K u.1 u.2.1 u.2.2.1 u.2.2.2) (wr := []) (z_runV (q0 := 0) (wc := (wM ad K I21 J21 B21 D21)) (As := []) (rest := []) ⟨hx, hb, hml, hown, hts⟩ (w_LassoFinderModel_fail l G K ad I21 J21 B21 D21  _ H.size hok) zf_LassoFinderModel_fail zm_334 ⟨Nat.le_of_ble_eq_true rfl, Nat.le_of_ble_eq_true rfl⟩ hK hw [0, 1, 2, 3, 4, 5, 6, 7, 8, 9, 10, 11, 12, 13, 14, 15, 16, 17, 18, 19, 20, 21, 22, 23, 24, 25, 26, 27, 28, 29, 30, 31, 32, 33, 34, 35, 36, 37, 38, 39, 40, 41, 42, 43, 44, 45, 46, 47, 48, 49, 50, 51, 52, 53, 54, 55, 56, 57] rfl (by decide) rfl rfl rfl hl.1 rfl (Nat.le_of_ble_eq_true rfl) zd_LassoFinderModel_wholeFormula_199 ⟨Nat.le_of_ble_eq_true rfl, Nat.le_of_ble_eq_true rfl⟩) hw hA [0, 1, 2, 3, 4, 5, 6, 7, 8, 9, 10, 11, 12, 13, 14, 15, 16, 17, 18, 19, 20, 21, 22, 23, 24, 25, 26, 27, 28, 29, 30, 31, 32, 33, 34, 35, 36, 37, 38, 39, 40, 41, 42, 43, 44, 45, 46, 47, 48, 49, 50, 51, 52, 53, 54, 55, 56, 57] [] rfl rfl (by decide) (by decide) (fun r35 u H locs hok hw => ?_)
        obtain ⟨I35, J35, B35, D35⟩ := u
        dsimp only at hok
        have hw : zW G A s.heap (wM ad K I35 J35 B35 D35) H locs := hw
        have hbo := hok.1
        have hok := hok.2
        exact z_iret (u := (I35, J35, B35, D35)) hx hb hr hlocks (z_nar hbo) hw [0, 1, 2, 3, 4, 5, 6, 7, 8, 9, 10, 11, 12, 13, 14, 15, 16, 17, 18, 19, 20, 21, 22, 23, 24, 25, 26, 27, 28, 29, 30, 31, 32, 33, 34, 35, 36, 37, 38, 39, 40, 41, 42, 43, 44, 45, 46, 47, 48, 49, 50, 51, 52, 53, 54, 55, 56, 57] rfl (by decide) hok (Nat.le_of_ble_eq_true rfl) (Nat.le_of_ble_eq_true rfl) zd_LassoFinderModel_wholeFormula_202
  · have hok := hok.2 hc22
    refine lv_iload_n hx hb zd_LassoFinderModel_wholeFormula_71 rfl (lv_at hl 0 rfl) ?_
    refine lv_bipush (v := 33) hx hb zd_LassoFinderModel_wholeFormula_72 (by decide) ?_
    refine lv_icmp_ne (tgt := 82) hx hb zd_LassoFinderModel_wholeFormula_74 (by decide) (fun hc36 => ?_) (fun hc36 => ?_)
    · have hok := hok.1 hc36
      refine lv_iload_n hx hb zd_LassoFinderModel_wholeFormula_82 rfl (lv_at hl 0 rfl) ?_
      refine lv_bipush (v := 71) hx hb zd_LassoFinderModel_wholeFormula_83 (by decide) ?_
      refine lv_icmp_ne (tgt := 93) hx hb zd_LassoFinderModel_wholeFormula_85 (by decide) (fun hc37 => ?_) (fun hc37 => ?_)
      · have hok := hok.1 hc37
        refine lv_iload_n hx hb zd_LassoFinderModel_wholeFormula_93 rfl (lv_at hl 0 rfl) ?_
        refine lv_bipush (v := 70) hx hb zd_LassoFinderModel_wholeFormula_94 (by decide) ?_
        refine lv_icmp_ne (tgt := 104) hx hb zd_LassoFinderModel_wholeFormula_96 (by decide) (fun hc38 => ?_) (fun hc38 => ?_)
        · have hok := hok.1 hc38
          refine lv_iload_n hx hb zd_LassoFinderModel_wholeFormula_104 rfl (lv_at hl 0 rfl) ?_
          refine lv_bipush (v := 40) hx hb zd_LassoFinderModel_wholeFormula_105 (by decide) ?_
          refine lv_icmp_ne (tgt := 115) hx hb zd_LassoFinderModel_wholeFormula_107 (by decide) (fun hc39 => ?_) (fun hc39 => ?_)
          · have hok := hok.1 hc39
            refine lv_iconst (v := (-1)) hx hb zd_LassoFinderModel_wholeFormula_115 (by decide) ?_
            exact wJ_LassoFinderModel_wholeFormula_116 G K ad  Post C K47 kh47 x1 x2 r21 (-1) I21 J21 B21 D21 ls H locs hok (lv_sub hl [1, 2, 3, 0] rfl) hw
          · have hok := hok.2 hc39
            refine lv_bipush (v := 16) hx hb zd_LassoFinderModel_wholeFormula_110 (by decide) ?_
            refine lv_goto (tgt := 116) hx hb zd_LassoFinderModel_wholeFormula_112 (by decide) ?_
            exact wJ_LassoFinderModel_wholeFormula_116 G K ad  Post C K47 kh47 x1 x2 r21 16 I21 J21 B21 D21 ls H locs hok (lv_sub hl [1, 2, 3, 0] rfl) hw
        · have hok := hok.2 hc38
          refine lv_bipush (v := 15) hx hb zd_LassoFinderModel_wholeFormula_99 (by decide) ?_
          refine lv_goto (tgt := 116) hx hb zd_LassoFinderModel_wholeFormula_101 (by decide) ?_
          exact wJ_LassoFinderModel_wholeFormula_116 G K ad  Post C K47 kh47 x1 x2 r21 15 I21 J21 B21 D21 ls H locs hok (lv_sub hl [1, 2, 3, 0] rfl) hw
      · have hok := hok.2 hc37
        refine lv_bipush (v := 14) hx hb zd_LassoFinderModel_wholeFormula_88 (by decide) ?_
        refine lv_goto (tgt := 116) hx hb zd_LassoFinderModel_wholeFormula_90 (by decide) ?_
        exact wJ_LassoFinderModel_wholeFormula_116 G K ad  Post C K47 kh47 x1 x2 r21 14 I21 J21 B21 D21 ls H locs hok (lv_sub hl [1, 2, 3, 0] rfl) hw
    · have hok := hok.2 hc36
      refine lv_bipush (v := 8) hx hb zd_LassoFinderModel_wholeFormula_77 (by decide) ?_
      refine lv_goto (tgt := 116) hx hb zd_LassoFinderModel_wholeFormula_79 (by decide) ?_
      exact wJ_LassoFinderModel_wholeFormula_116 G K ad  Post C K47 kh47 x1 x2 r21 8 I21 J21 B21 D21 ls H locs hok (lv_sub hl [1, 2, 3, 0] rfl) hw
set_option maxHeartbeats 8000000 in
set_option maxRecDepth 100000 in
theorem wB_LassoFinderModel_wholeFormula_47 {p : Program} {l : Launch} {e : Env} {s : State} {m : MethodId} {below : List Frame} {meth : Method} {c : Code} {A : Nat → Prop} (G : va_G) (K : Nat → ClassId) (ad : Nat → Nat) (Post : Int32 → (Nat → Int32) → (Nat → Int64) → (Nat → Nat → Int32) → (Nat → Nat → Int64) → Prop) (C : zCx p s m ([.ref (ad 0)] : List Value).toArray meth c A G K prog_14_method_47_code (some .boolean) 5 "LassoFinderModel") (K47 : Int32 → Int32 → (Nat → Int32) → (Nat → Int64) → (Nat → Nat → Int32) → (Nat → Nat → Int64) → Prop) (kh47 : ∀ (x1 : Int32) (x2 : Int32) (I : Nat → Int32) (J : Nat → Int64) (B : Nat → Nat → Int32) (D : Nat → Nat → Int64) (ls : Array Slot) (H : Heap) (locs : List Loc), K47 x1 x2 I J B D → lv_has ls 5 [(0, .ref (ad 0)), (1, .int x1), (2, .int x2)] → zW G A s.heap (wM ad K I J B D) H locs → W p l e { frames := 4, cells := 0, slots := 0, locals := 95 } s m ([.ref (ad 0)] : List Value).toArray below meth c H locs 0 0 (MQ below (va_Qi (fun (r : Int32) (u : zS) => Post r u.1 u.2.1 u.2.2.1 u.2.2.2) (fun u t => zPost G K A (wM ad K u.1 u.2.1 u.2.2.1 u.2.2.2) t) A) ([.ref (ad 0)] : List Value).toArray s 0 0 A) (F0 m 47 ls [])) : ∀ (x1 : Int32) (x2 : Int32) (I : Nat → Int32) (J : Nat → Int64) (B : Nat → Nat → Int32) (D : Nat → Nat → Int64) (ls : Array Slot) (H : Heap) (locs : List Loc), wb_LassoFinderModel_wholeFormula_47  K47 Post x1 x2 I J B D → lv_has ls 5 [(0, .ref (ad 0)), (1, .int x1), (2, .int x2)] → zW G A s.heap (wM ad K I J B D) H locs → W p l e { frames := 4, cells := 0, slots := 0, locals := 95 } s m ([.ref (ad 0)] : List Value).toArray below meth c H locs 0 0 (MQ below (va_Qi (fun (r : Int32) (u : zS) => Post r u.1 u.2.1 u.2.2.1 u.2.2.2) (fun u t => zPost G K A (wM ad K u.1 u.2.1 u.2.2.1 u.2.2.2) t) A) ([.ref (ad 0)] : List Value).toArray s 0 0 A) (F0 m 47 ls []) := by
  obtain ⟨hx, hb, hr, hml, hts, hown, hlocks, hA, hK⟩ := id C
  intro x1 x2 I J B D ls H locs hok hl hw
  unfold wb_LassoFinderModel_wholeFormula_47 at hok
  refine lv_iload_n hx hb zd_LassoFinderModel_wholeFormula_47 rfl (lv_at hl 2 rfl) ?_
  refine lv_if_ne (tgt := 62) hx hb zd_LassoFinderModel_wholeFormula_48 (by decide) (fun hc40 => ?_) (fun hc40 => ?_)
  · have hok := hok.1 hc40
    exact wJ_LassoFinderModel_wholeFormula_62 G K ad  Post C K47 kh47 x1 x2 I J B D ls H locs hok (lv_sub hl [0, 1, 2] rfl) hw
  · have hok := hok.2 hc40
    refine lv_aload_n hx hb zd_LassoFinderModel_wholeFormula_51 rfl (lv_at hl 0 rfl) ?_
    refine z_get (v := .int (I 2)) hx hb hts hown hK hw zZ12 0 rfl 3 (by decide) zm_335 rfl zd_LassoFinderModel_wholeFormula_52 ?_
    refine lv_aload_n hx hb zd_LassoFinderModel_wholeFormula_55 rfl (lv_at hl 0 rfl) ?_
    refine z_get (v := .int (I 1)) hx hb hts hown hK hw zZ12 0 rfl 1 (by decide) zm_294 rfl zd_LassoFinderModel_wholeFormula_56 ?_
    refine lv_icmp_ge (tgt := 352) hx hb zd_LassoFinderModel_wholeFormula_59 (by decide) (fun hc41 => ?_) (fun hc41 => ?_)
    · have hok := hok.1 hc41
      refine lv_iload_n hx hb zd_LassoFinderModel_wholeFormula_352 rfl (lv_at hl 1 rfl) ?_
      refine lv_if_le (tgt := 361) hx hb zd_LassoFinderModel_wholeFormula_353 (by decide) (fun hc42 => ?_) (fun hc42 => ?_)
      · have hok := hok.1 hc42
        refine lv_aload_n hx hb zd_LassoFinderModel_wholeFormula_361 rfl (lv_at hl 0 rfl) ?_
        refine lv_iconst (v := 1) hx hb zd_LassoFinderModel_wholeFormula_362 (by decide) ?_
        refine z_callv (w1 := fun (u : zS) => wM ad K u.1 u.2.1 u.2.2.1 u.2.2.2) (wr := []) (z_runV (q0 := 0) (wc := (wM ad K I J B D)) (As := [.int 1]) (rest := []) ⟨hx, hb, hml, hown, hts⟩ (w_LassoFinderModel_putAll l G K ad I J B D 1 _ H.size hok) zf_LassoFinderModel_putAll zm_358 ⟨Nat.le_of_ble_eq_true rfl, Nat.le_of_ble_eq_true rfl⟩ hK hw [0, 1, 2, 3, 4, 5, 6, 7, 8, 9, 10, 11, 12, 13, 14, 15, 16, 17, 18, 19, 20, 21, 22, 23, 24, 25, 26, 27, 28, 29, 30, 31, 32, 33, 34, 35, 36, 37, 38, 39, 40, 41, 42, 43, 44, 45, 46, 47, 48, 49, 50, 51, 52, 53, 54, 55, 56, 57] rfl (by decide) rfl rfl rfl hl.1 rfl (Nat.le_of_ble_eq_true rfl) zd_LassoFinderModel_wholeFormula_363 ⟨Nat.le_of_ble_eq_true rfl, Nat.le_of_ble_eq_true rfl⟩) hw hA [0, 1, 2, 3, 4, 5, 6, 7, 8, 9, 10, 11, 12, 13, 14, 15, 16, 17, 18, 19, 20, 21, 22, 23, 24, 25, 26, 27, 28, 29, 30, 31, 32, 33, 34, 35, 36, 37, 38, 39, 40, 41, 42, 43, 44, 45, 46, 47, 48, 49, 50, 51, 52, 53, 54, 55, 56, 57] [] rfl rfl (by decide) (by decide) (fun u H locs hok hw => ?_)
        obtain ⟨I43, J43, B43, D43⟩ := u
        dsimp only at hok
        have hw : zW G A s.heap (wM ad K I43 J43 B43 D43) H locs := hw
        refine lv_iconst (v := 1) hx hb zd_LassoFinderModel_wholeFormula_366 (by decide) ?_
        exact z_iret (u := (I43, J43, B43, D43)) hx hb hr hlocks rfl hw [0, 1, 2, 3, 4, 5, 6, 7, 8, 9, 10, 11, 12, 13, 14, 15, 16, 17, 18, 19, 20, 21, 22, 23, 24, 25, 26, 27, 28, 29, 30, 31, 32, 33, 34, 35, 36, 37, 38, 39, 40, 41, 42, 43, 44, 45, 46, 47, 48, 49, 50, 51, 52, 53, 54, 55, 56, 57] rfl (by decide) hok (Nat.le_of_ble_eq_true rfl) (Nat.le_of_ble_eq_true rfl) zd_LassoFinderModel_wholeFormula_367
      · have hok := hok.2 hc42
        refine lv_aload_n hx hb zd_LassoFinderModel_wholeFormula_356 rfl (lv_at hl 0 rfl) ?_
        refine z_calli (w1 := fun (u : zS) => wM ad K u.1 u.2.1 u.2.2.1 u.2.2.2) (wr := []) (z_runV (q0 := 0) (wc := (wM ad K I J B D)) (As := []) (rest := []) ⟨hx, hb, hml, hown, hts⟩ (w_LassoFinderModel_fail l G K ad I J B D  _ H.size hok) zf_LassoFinderModel_fail zm_334 ⟨Nat.le_of_ble_eq_true rfl, Nat.le_of_ble_eq_true rfl⟩ hK hw [0, 1, 2, 3, 4, 5, 6, 7, 8, 9, 10, 11, 12, 13, 14, 15, 16, 17, 18, 19, 20, 21, 22, 23, 24, 25, 26, 27, 28, 29, 30, 31, 32, 33, 34, 35, 36, 37, 38, 39, 40, 41, 42, 43, 44, 45, 46, 47, 48, 49, 50, 51, 52, 53, 54, 55, 56, 57] rfl (by decide) rfl rfl rfl hl.1 rfl (Nat.le_of_ble_eq_true rfl) zd_LassoFinderModel_wholeFormula_357 ⟨Nat.le_of_ble_eq_true rfl, Nat.le_of_ble_eq_true rfl⟩) hw hA [0, 1, 2, 3, 4, 5, 6, 7, 8, 9, 10, 11, 12, 13, 14, 15, 16, 17, 18, 19, 20, 21, 22, 23, 24, 25, 26, 27, 28, 29, 30, 31, 32, 33, 34, 35, 36, 37, 38, 39, 40, 41, 42, 43, 44, 45, 46, 47, 48, 49, 50, 51, 52, 53, 54, 55, 56, 57] [] rfl rfl (by decide) (by decide) (fun r44 u H locs hok hw => ?_)
        obtain ⟨I44, J44, B44, D44⟩ := u
        dsimp only at hok
        have hw : zW G A s.heap (wM ad K I44 J44 B44 D44) H locs := hw
        have hbo := hok.1
        have hok := hok.2
        exact z_iret (u := (I44, J44, B44, D44)) hx hb hr hlocks (z_nar hbo) hw [0, 1, 2, 3, 4, 5, 6, 7, 8, 9, 10, 11, 12, 13, 14, 15, 16, 17, 18, 19, 20, 21, 22, 23, 24, 25, 26, 27, 28, 29, 30, 31, 32, 33, 34, 35, 36, 37, 38, 39, 40, 41, 42, 43, 44, 45, 46, 47, 48, 49, 50, 51, 52, 53, 54, 55, 56, 57] rfl (by decide) hok (Nat.le_of_ble_eq_true rfl) (Nat.le_of_ble_eq_true rfl) zd_LassoFinderModel_wholeFormula_360
    · have hok := hok.2 hc41
      exact wJ_LassoFinderModel_wholeFormula_62 G K ad  Post C K47 kh47 x1 x2 I J B D ls H locs hok (lv_sub hl [0, 1, 2] rfl) hw
theorem wL_LassoFinderModel_wholeFormula_47 {p : Program} {l : Launch} {e : Env} {s : State} {m : MethodId} {below : List Frame} {meth : Method} {c : Code} {A : Nat → Prop} (G : va_G) (K : Nat → ClassId) (ad : Nat → Nat) (Post : Int32 → (Nat → Int32) → (Nat → Int64) → (Nat → Nat → Int32) → (Nat → Nat → Int64) → Prop) (C : zCx p s m ([.ref (ad 0)] : List Value).toArray meth c A G K prog_14_method_47_code (some .boolean) 5 "LassoFinderModel") : ∀ (n : Nat) (x1 : Int32) (x2 : Int32) (I : Nat → Int32) (J : Nat → Int64) (B : Nat → Nat → Int32) (D : Nat → Nat → Int64) (ls : Array Slot) (H : Heap) (locs : List Loc), wl_LassoFinderModel_wholeFormula_47  Post n x1 x2 I J B D → lv_has ls 5 [(0, .ref (ad 0)), (1, .int x1), (2, .int x2)] → zW G A s.heap (wM ad K I J B D) H locs → W p l e { frames := 4, cells := 0, slots := 0, locals := 95 } s m ([.ref (ad 0)] : List Value).toArray below meth c H locs 0 0 (MQ below (va_Qi (fun (r : Int32) (u : zS) => Post r u.1 u.2.1 u.2.2.1 u.2.2.2) (fun u t => zPost G K A (wM ad K u.1 u.2.1 u.2.2.1 u.2.2.2) t) A) ([.ref (ad 0)] : List Value).toArray s 0 0 A) (F0 m 47 ls []) := by
  intro n
  induction n with
  | zero => intro x1 x2 I J B D ls H locs hok; exact hok.elim
  | succ n ih => exact wB_LassoFinderModel_wholeFormula_47 G K ad  Post C (wl_LassoFinderModel_wholeFormula_47  Post n) ih
set_option maxHeartbeats 8000000 in
set_option maxRecDepth 100000 in
theorem w_LassoFinderModel_wholeFormula (l : Launch) (G : va_G) (K : Nat → ClassId) (ad : Nat → Nat) (I : Nat → Int32) (J : Nat → Int64) (B : Nat → Nat → Int32) (D : Nat → Nat → Int64) (Post : Int32 → (Nat → Int32) → (Nat → Int64) → (Nat → Nat → Int32) → (Nat → Nat → Int64) → Prop) (sz : Nat) (hok : wp_LassoFinderModel_wholeFormula I J B D  Post) : Met l zy_LassoFinderModel_wholeFormula (Cond.code zy_LassoFinderModel_wholeFormula prog_14_method_47_code 5 (some .boolean) :: zTB) { frames := 4, cells := 0, slots := 0, locals := 95 } (va_Pc [.ref (ad 0)] (zPre G K (wM ad K I J B D) sz)) (va_Qi (fun (r : Int32) (u : zS) => Post r u.1 u.2.1 u.2.2.1 u.2.2.2) (fun u t => zPost G K (va_A (wM ad K I J B D) sz) (wM ad K u.1 u.2.1 u.2.2.1 u.2.2.2) t) (va_A (wM ad K I J B D) sz)) 0 0 (va_A (wM ad K I J B D) sz) := by
  refine zMet (y := zy_LassoFinderModel_wholeFormula) (av := [.ref (ad 0)]) (maxL := 5) (cc := prog_14_method_47_code) (ret := (some .boolean)) (W0 := (wM ad K I J B D)) (sz := sz) (G := G) (K := K) (wt := zTB) (mc := 0) (ms := 0) (Qf := fun A => va_Qi (fun (r : Int32) (u : zS) => Post r u.1 u.2.1 u.2.2.1 u.2.2.2) (fun u t => zPost G K A (wM ad K u.1 u.2.1 u.2.2.1 u.2.2.2) t) A) (by decide) (Nat.le_of_ble_eq_true rfl) ?_
  intro p e s m below meth c ls A hx hb hr hml hts hown hlocks hin hA hK H locs hw hsz hl
  clear hsz
  have hown : s.vm.findClass "LassoFinderModel" = some m.cls := hown
  have C : zCx p s m ([.ref (ad 0)] : List Value).toArray meth c A G K prog_14_method_47_code (some .boolean) 5 "LassoFinderModel" := ⟨hx, hb, hr, hml, hts, hown, hlocks, hA, hK⟩
  have hl : lv_has ls 5 [(0, .ref (ad 0))] := hl
  have hw : zW G A s.heap (wM ad K I J B D) H locs := hw
  unfold wp_LassoFinderModel_wholeFormula at hok
  refine lv_aload_n hx hb zd_LassoFinderModel_wholeFormula_0 rfl (lv_at hl 0 rfl) ?_
  refine lv_iconst (v := 0) hx hb zd_LassoFinderModel_wholeFormula_1 (by decide) ?_
  refine z_put (v := .int 0) hx hb hts hown hK hw zZ12 0 rfl 3 (by decide) zm_335 rfl rfl rfl (Nat.le_of_ble_eq_true rfl) zd_LassoFinderModel_wholeFormula_2 (fun H locs hw => ?_)
  have hw : zW G A s.heap (wM ad K (upd I 2 0) J B D) H locs := hw
  refine lv_aload_n hx hb zd_LassoFinderModel_wholeFormula_5 rfl (lv_at hl 0 rfl) ?_
  refine lv_iconst (v := (-1)) hx hb zd_LassoFinderModel_wholeFormula_6 (by decide) ?_
  refine z_put (v := .int (-1)) hx hb hts hown hK hw zZ12 0 rfl 4 (by decide) zm_301 rfl rfl rfl (Nat.le_of_ble_eq_true rfl) zd_LassoFinderModel_wholeFormula_7 (fun H locs hw => ?_)
  have hw : zW G A s.heap (wM ad K (upd (upd I 2 0) 3 (-1)) J B D) H locs := hw
  refine lv_aload_n hx hb zd_LassoFinderModel_wholeFormula_10 rfl (lv_at hl 0 rfl) ?_
  refine lv_aload_n hx hb zd_LassoFinderModel_wholeFormula_11 rfl (lv_at hl 0 rfl) ?_
  refine z_get (v := .int (I 22)) hx hb hts hown hK hw zZ12 0 rfl 67 (by decide) zm_302 rfl zd_LassoFinderModel_wholeFormula_12 ?_
  refine z_put (v := .int (I 22)) hx hb hts hown hK hw zZ12 0 rfl 36 (by decide) zm_296 rfl rfl rfl (Nat.le_of_ble_eq_true rfl) zd_LassoFinderModel_wholeFormula_15 (fun H locs hw => ?_)
  have hw : zW G A s.heap (wM ad K (upd (upd (upd I 2 0) 3 (-1)) 11 (I 22)) J B D) H locs := hw
  refine lv_aload_n hx hb zd_LassoFinderModel_wholeFormula_18 rfl (lv_at hl 0 rfl) ?_
  refine lv_iconst (v := 0) hx hb zd_LassoFinderModel_wholeFormula_19 (by decide) ?_
  refine z_put (v := .int 0) hx hb hts hown hK hw zZ12 0 rfl 62 (by decide) zm_357 rfl rfl rfl (Nat.le_of_ble_eq_true rfl) zd_LassoFinderModel_wholeFormula_20 (fun H locs hw => ?_)
  have hw : zW G A s.heap (wM ad K (upd (upd (upd (upd I 2 0) 3 (-1)) 11 (I 22)) 19 0) J B D) H locs := hw
  refine lv_aload_n hx hb zd_LassoFinderModel_wholeFormula_23 rfl (lv_at hl 0 rfl) ?_
  refine lv_iconst (v := 0) hx hb zd_LassoFinderModel_wholeFormula_24 (by decide) ?_
  refine z_put (v := .int 0) hx hb hts hown hK hw zZ12 0 rfl 64 (by decide) zm_356 rfl rfl rfl (Nat.le_of_ble_eq_true rfl) zd_LassoFinderModel_wholeFormula_25 (fun H locs hw => ?_)
  have hw : zW G A s.heap (wM ad K (upd (upd (upd (upd (upd I 2 0) 3 (-1)) 11 (I 22)) 19 0) 20 0) J B D) H locs := hw
  refine lv_aload_n hx hb zd_LassoFinderModel_wholeFormula_28 rfl (lv_at hl 0 rfl) ?_
  refine lv_iconst (v := 0) hx hb zd_LassoFinderModel_wholeFormula_29 (by decide) ?_
  refine z_put (v := .int 0) hx hb hts hown hK hw zZ12 0 rfl 69 (by decide) zm_353 rfl rfl rfl (Nat.le_of_ble_eq_true rfl) zd_LassoFinderModel_wholeFormula_30 (fun H locs hw => ?_)
  have hw : zW G A s.heap (wM ad K (upd (upd (upd (upd (upd (upd I 2 0) 3 (-1)) 11 (I 22)) 19 0) 20 0) 23 0) J B D) H locs := hw
  refine lv_aload_n hx hb zd_LassoFinderModel_wholeFormula_33 rfl (lv_at hl 0 rfl) ?_
  refine lv_iconst (v := 0) hx hb zd_LassoFinderModel_wholeFormula_34 (by decide) ?_
  refine z_put (v := .int 0) hx hb hts hown hK hw zZ12 0 rfl 65 (by decide) zm_362 rfl rfl rfl (Nat.le_of_ble_eq_true rfl) zd_LassoFinderModel_wholeFormula_35 (fun H locs hw => ?_)
  have hw : zW G A s.heap (wM ad K (upd (upd (upd (upd (upd (upd (upd I 2 0) 3 (-1)) 11 (I 22)) 19 0) 20 0) 23 0) 21 0) J B D) H locs := hw
  refine lv_aload_n hx hb zd_LassoFinderModel_wholeFormula_38 rfl (lv_at hl 0 rfl) ?_
  refine lv_iconst (v := 0) hx hb zd_LassoFinderModel_wholeFormula_39 (by decide) ?_
  refine z_put (v := .int 0) hx hb hts hown hK hw zZ12 0 rfl 42 (by decide) zm_348 rfl rfl rfl (Nat.le_of_ble_eq_true rfl) zd_LassoFinderModel_wholeFormula_40 (fun H locs hw => ?_)
  have hw : zW G A s.heap (wM ad K (upd (upd (upd (upd (upd (upd (upd (upd I 2 0) 3 (-1)) 11 (I 22)) 19 0) 20 0) 23 0) 21 0) 13 0) J B D) H locs := hw
  refine lv_iconst (v := 0) hx hb zd_LassoFinderModel_wholeFormula_43 (by decide) ?_
  refine lv_istore_n hx hb zd_LassoFinderModel_wholeFormula_44 rfl hl (by decide) rfl (fun ls hl => ?_)
  have hl : lv_has ls 5 [(1, .int 0), (0, .ref (ad 0))] := hl
  refine lv_iconst (v := 1) hx hb zd_LassoFinderModel_wholeFormula_45 (by decide) ?_
  refine lv_istore_n hx hb zd_LassoFinderModel_wholeFormula_46 rfl hl (by decide) rfl (fun ls hl => ?_)
  have hl : lv_has ls 5 [(2, .int 1), (1, .int 0), (0, .ref (ad 0))] := hl
  obtain ⟨n9, hok⟩ := hok
  exact wL_LassoFinderModel_wholeFormula_47 G K ad  Post C n9 0 1 (upd (upd (upd (upd (upd (upd (upd (upd I 2 0) 3 (-1)) 11 (I 22)) 19 0) 20 0) 23 0) 21 0) 13 0) J B D ls H locs hok (lv_sub hl [2, 1, 0] rfl) hw
def wb_LassoFinderModel_formula_152 (K152 : Int32 → Int32 → Int32 → (Nat → Int32) → (Nat → Int64) → (Nat → Nat → Int32) → (Nat → Nat → Int64) → Prop) (K91 : Int32 → (Nat → Int32) → (Nat → Int64) → (Nat → Nat → Int32) → (Nat → Nat → Int64) → Prop) (Post : Int32 → (Nat → Int32) → (Nat → Int64) → (Nat → Nat → Int32) → (Nat → Nat → Int64) → Prop) (x2 : Int32) (x3 : Int32) (x4 : Int32) (I : Nat → Int32) (J : Nat → Int64) (B : Nat → Nat → Int32) (D : Nat → Nat → Int64) : Prop :=
  (((8 : Int32) ≤ x4 → ∀ z2 : Int32, z2 = (x2 + 1) → K91 z2 I J B D) ∧ (¬ (8 : Int32) ≤ x4 → ∀ z3 : Int32, z3 = (8 * x2) → ∀ z4 : Int32, z4 = (z3 + x4) → wp_LassoFinderModel_looked I J B D x3 x4 (fun r5 I5 J5 B5 D5 => vp_in z4 768 ∧ ∀ z6 : Int32, z6 = (x4 + 1) → K152 x2 x3 z6 I5 J5 (va_up B5 48 (upd (B5 48) z4.toNatClampNeg r5)) D5)))
def wl_LassoFinderModel_formula_152 (K91 : Int32 → (Nat → Int32) → (Nat → Int64) → (Nat → Nat → Int32) → (Nat → Nat → Int64) → Prop) (Post : Int32 → (Nat → Int32) → (Nat → Int64) → (Nat → Nat → Int32) → (Nat → Nat → Int64) → Prop) (n : Nat) : Int32 → Int32 → Int32 → (Nat → Int32) → (Nat → Int64) → (Nat → Nat → Int32) → (Nat → Nat → Int64) → Prop := Nat.rec (fun _ _ _ _ _ _ _ => False) (fun _ r => wb_LassoFinderModel_formula_152  r K91 Post) n
def wc_LassoFinderModel_formula_141 (K91 : Int32 → (Nat → Int32) → (Nat → Int64) → (Nat → Nat → Int32) → (Nat → Nat → Int64) → Prop) (K114 : Int32 → Int32 → Int32 → (Nat → Int32) → (Nat → Int64) → (Nat → Nat → Int32) → (Nat → Nat → Int64) → Prop) (Post : Int32 → (Nat → Int32) → (Nat → Int64) → (Nat → Nat → Int32) → (Nat → Nat → Int64) → Prop) (x2 : Int32) (x4 : Int32) (y0 : Int32) (y1 : Int32) (I : Nat → Int32) (J : Nat → Int64) (B : Nat → Nat → Int32) (D : Nat → Nat → Int64) : Prop :=
  ∀ z7 : Int32, z7 = (y1 ||| y0) → ∀ z8 : Int32, z8 = (x4 + 1) → K114 x2 z7 z8 I J B D
def wb_LassoFinderModel_formula_114 (K114 : Int32 → Int32 → Int32 → (Nat → Int32) → (Nat → Int64) → (Nat → Nat → Int32) → (Nat → Nat → Int64) → Prop) (K91 : Int32 → (Nat → Int32) → (Nat → Int64) → (Nat → Nat → Int32) → (Nat → Nat → Int64) → Prop) (Post : Int32 → (Nat → Int32) → (Nat → Int64) → (Nat → Nat → Int32) → (Nat → Nat → Int64) → Prop) (x2 : Int32) (x3 : Int32) (x4 : Int32) (I : Nat → Int32) (J : Nat → Int64) (B : Nat → Nat → Int32) (D : Nat → Nat → Int64) : Prop :=
  (((I 23) ≤ x4 → ∃ n : Nat, wl_LassoFinderModel_formula_152  K91 Post n x2 x3 0 I J B D) ∧ (¬ (I 23) ≤ x4 → wp_LassoFinderModel_holdsAt I J B D x4 (fun r10 I10 J10 B10 D10 => ((r10 = 0 → wc_LassoFinderModel_formula_141  K91 K114 Post x2 x4 0 x3 I10 J10 B10 D10) ∧ (¬ r10 = 0 → ∀ z12 : Int32, z12 = (1 <<< (x4 &&& 31)) → wc_LassoFinderModel_formula_141  K91 K114 Post x2 x4 z12 x3 I10 J10 B10 D10)))))
def wl_LassoFinderModel_formula_114 (K91 : Int32 → (Nat → Int32) → (Nat → Int64) → (Nat → Nat → Int32) → (Nat → Nat → Int64) → Prop) (Post : Int32 → (Nat → Int32) → (Nat → Int64) → (Nat → Nat → Int32) → (Nat → Nat → Int64) → Prop) (n : Nat) : Int32 → Int32 → Int32 → (Nat → Int32) → (Nat → Int64) → (Nat → Nat → Int32) → (Nat → Nat → Int64) → Prop := Nat.rec (fun _ _ _ _ _ _ _ => False) (fun _ r => wb_LassoFinderModel_formula_114  r K91 Post) n
def wb_LassoFinderModel_formula_91 (K91 : Int32 → (Nat → Int32) → (Nat → Int64) → (Nat → Nat → Int32) → (Nat → Nat → Int64) → Prop) (Post : Int32 → (Nat → Int32) → (Nat → Int64) → (Nat → Nat → Int32) → (Nat → Nat → Int64) → Prop) (x2 : Int32) (I : Nat → Int32) (J : Nat → Int64) (B : Nat → Nat → Int32) (D : Nat → Nat → Int64) : Prop :=
  (((I 14) ≤ x2 → Post (I 20) (upd I 18 1) J B D) ∧ (¬ (I 14) ≤ x2 → vp_in x2 97 ∧ ∀ z14 : Int64, z14 = ((D 1) x2.toNatClampNeg) → wp_LassoFinderModel_unpack I J B D z14 (fun I15 J15 B15 D15 => ∃ n : Nat, wl_LassoFinderModel_formula_114  K91 Post n x2 0 0 I15 J15 B15 D15)))
def wl_LassoFinderModel_formula_91 (Post : Int32 → (Nat → Int32) → (Nat → Int64) → (Nat → Nat → Int32) → (Nat → Nat → Int64) → Prop) (n : Nat) : Int32 → (Nat → Int32) → (Nat → Int64) → (Nat → Nat → Int32) → (Nat → Nat → Int64) → Prop := Nat.rec (fun _ _ _ _ _ => False) (fun _ r => wb_LassoFinderModel_formula_91  r Post) n
def wc_LassoFinderModel_formula_80 (Post : Int32 → (Nat → Int32) → (Nat → Int64) → (Nat → Nat → Int32) → (Nat → Nat → Int64) → Prop) (x1 : Int32) (y0 : Int32) (I : Nat → Int32) (J : Nat → Int64) (B : Nat → Nat → Int32) (D : Nat → Nat → Int64) : Prop :=
  ((¬ x1 = 0 → ∃ n : Nat, wl_LassoFinderModel_formula_91  Post n 0 (upd I 0 y0) J B D) ∧ (x1 = 0 → Post 0 (upd I 0 y0) J B D))
def wc_LassoFinderModel_formula_67 (Post : Int32 → (Nat → Int32) → (Nat → Int64) → (Nat → Nat → Int32) → (Nat → Nat → Int64) → Prop) (x1 : Int32) (y0 : Int32) (I : Nat → Int32) (J : Nat → Int64) (B : Nat → Nat → Int32) (D : Nat → Nat → Int64) : Prop :=
  ((x1 = 0 → wc_LassoFinderModel_formula_80  Post x1 2 (upd I 4 y0) J B D) ∧ (¬ x1 = 0 → wc_LassoFinderModel_formula_80  Post x1 0 (upd I 4 y0) J B D))
def wc_LassoFinderModel_formula_39 (Post : Int32 → (Nat → Int32) → (Nat → Int64) → (Nat → Nat → Int32) → (Nat → Nat → Int64) → Prop) (y0 : Int32) (I : Nat → Int32) (J : Nat → Int64) (B : Nat → Nat → Int32) (D : Nat → Nat → Int64) : Prop :=
  ((¬ (I 5) = 0 → ((y0 = 0 → wc_LassoFinderModel_formula_67  Post y0 (I 3) (upd I 1 0) J B D) ∧ (¬ y0 = 0 → wc_LassoFinderModel_formula_67  Post y0 (-1) (upd I 1 0) J B D))) ∧ ((I 5) = 0 → Post 0 (upd I 1 0) J B D))
def wc_LassoFinderModel_formula_38 (Post : Int32 → (Nat → Int32) → (Nat → Int64) → (Nat → Nat → Int32) → (Nat → Nat → Int64) → Prop)  (I : Nat → Int32) (J : Nat → Int64) (B : Nat → Nat → Int32) (D : Nat → Nat → Int64) : Prop :=
  wc_LassoFinderModel_formula_39  Post 0 I J B D
def wp_LassoFinderModel_formula (I : Nat → Int32) (J : Nat → Int64) (B : Nat → Nat → Int32) (D : Nat → Nat → Int64) (Post : Int32 → (Nat → Int32) → (Nat → Int64) → (Nat → Nat → Int32) → (Nat → Nat → Int64) → Prop) : Prop :=
  (((I 5) = 0 → wc_LassoFinderModel_formula_38  Post (upd (upd (upd (upd I 18 0) 24 (-1)) 4 (-1)) 0 1) J B D) ∧ (¬ (I 5) = 0 → wp_LassoFinderModel_wholeFormula (upd (upd (upd (upd I 18 0) 24 (-1)) 4 (-1)) 0 1) J B D  (fun r21 I21 J21 B21 D21 => ((r21 = 0 → wc_LassoFinderModel_formula_38  Post I21 J21 B21 D21) ∧ (¬ r21 = 0 → wc_LassoFinderModel_formula_39  Post 1 I21 J21 B21 D21)))))
set_option maxHeartbeats 8000000 in
set_option maxRecDepth 100000 in
theorem wB_LassoFinderModel_formula_152 {p : Program} {l : Launch} {e : Env} {s : State} {m : MethodId} {below : List Frame} {meth : Method} {c : Code} {A : Nat → Prop} (G : va_G) (K : Nat → ClassId) (ad : Nat → Nat) (Post : Int32 → (Nat → Int32) → (Nat → Int64) → (Nat → Nat → Int32) → (Nat → Nat → Int64) → Prop) (C : zCx p s m ([.ref (ad 0)] : List Value).toArray meth c A G K prog_14_method_50_code (some .int) 5 "LassoFinderModel") (K91 : Int32 → (Nat → Int32) → (Nat → Int64) → (Nat → Nat → Int32) → (Nat → Nat → Int64) → Prop) (kh91 : ∀ (x2 : Int32) (I : Nat → Int32) (J : Nat → Int64) (B : Nat → Nat → Int32) (D : Nat → Nat → Int64) (ls : Array Slot) (H : Heap) (locs : List Loc), K91 x2 I J B D → lv_has ls 5 [(0, .ref (ad 0)), (2, .int x2)] → zW G A s.heap (wM ad K I J B D) H locs → W p l e { frames := 5, cells := 0, slots := 0, locals := 119 } s m ([.ref (ad 0)] : List Value).toArray below meth c H locs 0 0 (MQ below (va_Qi (fun (r : Int32) (u : zS) => Post r u.1 u.2.1 u.2.2.1 u.2.2.2) (fun u t => zPost G K A (wM ad K u.1 u.2.1 u.2.2.1 u.2.2.2) t) A) ([.ref (ad 0)] : List Value).toArray s 0 0 A) (F0 m 91 ls [])) (K152 : Int32 → Int32 → Int32 → (Nat → Int32) → (Nat → Int64) → (Nat → Nat → Int32) → (Nat → Nat → Int64) → Prop) (kh152 : ∀ (x2 : Int32) (x3 : Int32) (x4 : Int32) (I : Nat → Int32) (J : Nat → Int64) (B : Nat → Nat → Int32) (D : Nat → Nat → Int64) (ls : Array Slot) (H : Heap) (locs : List Loc), K152 x2 x3 x4 I J B D → lv_has ls 5 [(0, .ref (ad 0)), (2, .int x2), (3, .int x3), (4, .int x4)] → zW G A s.heap (wM ad K I J B D) H locs → W p l e { frames := 5, cells := 0, slots := 0, locals := 119 } s m ([.ref (ad 0)] : List Value).toArray below meth c H locs 0 0 (MQ below (va_Qi (fun (r : Int32) (u : zS) => Post r u.1 u.2.1 u.2.2.1 u.2.2.2) (fun u t => zPost G K A (wM ad K u.1 u.2.1 u.2.2.1 u.2.2.2) t) A) ([.ref (ad 0)] : List Value).toArray s 0 0 A) (F0 m 152 ls [])) : ∀ (x2 : Int32) (x3 : Int32) (x4 : Int32) (I : Nat → Int32) (J : Nat → Int64) (B : Nat → Nat → Int32) (D : Nat → Nat → Int64) (ls : Array Slot) (H : Heap) (locs : List Loc), wb_LassoFinderModel_formula_152  K152 K91 Post x2 x3 x4 I J B D → lv_has ls 5 [(0, .ref (ad 0)), (2, .int x2), (3, .int x3), (4, .int x4)] → zW G A s.heap (wM ad K I J B D) H locs → W p l e { frames := 5, cells := 0, slots := 0, locals := 119 } s m ([.ref (ad 0)] : List Value).toArray below meth c H locs 0 0 (MQ below (va_Qi (fun (r : Int32) (u : zS) => Post r u.1 u.2.1 u.2.2.1 u.2.2.2) (fun u t => zPost G K A (wM ad K u.1 u.2.1 u.2.2.1 u.2.2.2) t) A) ([.ref (ad 0)] : List Value).toArray s 0 0 A) (F0 m 152 ls []) := by
  obtain ⟨hx, hb, hr, hml, hts, hown, hlocks, hA, hK⟩ := id C
  intro x2 x3 x4 I J B D ls H locs hok hl hw
  unfold wb_LassoFinderModel_formula_152 at hok
  refine lv_iload hx hb zd_LassoFinderModel_formula_152 (lv_at hl 3 rfl) ?_
  refine lv_bipush (v := 8) hx hb zd_LassoFinderModel_formula_154 (by decide) ?_
  refine lv_icmp_ge (tgt := 184) hx hb zd_LassoFinderModel_formula_156 (by decide) (fun hc1 => ?_) (fun hc1 => ?_)
  · have hok := hok.1 hc1
    obtain ⟨z2, ez2⟩ : ∃ z : Int32, z = (x2 + 1) := ⟨_, rfl⟩
    have hok := hok z2 ez2
    refine lv_iinc (v := z2) hx hb zd_LassoFinderModel_formula_184 hl (k := 1) rfl ez2.symm (by decide) rfl (fun ls hl => ?_)
    have hl : lv_has ls 5 [(2, .int z2), (0, .ref (ad 0)), (3, .int x3), (4, .int x4)] := hl
    refine lv_goto (tgt := 91) hx hb zd_LassoFinderModel_formula_187 (by decide) ?_
    exact kh91 z2 I J B D ls H locs hok (lv_sub hl [1, 0] rfl) hw
  · have hok := hok.2 hc1
    refine lv_aload_n hx hb zd_LassoFinderModel_formula_159 rfl (lv_at hl 0 rfl) ?_
    refine z_get (v := .ref (ad 51)) hx hb hts hown hK hw zZ12 0 rfl 74 (by decide) zm_285 rfl zd_LassoFinderModel_formula_160 ?_
    refine lv_bipush (v := 8) hx hb zd_LassoFinderModel_formula_163 (by decide) ?_
    refine lv_iload_n hx hb zd_LassoFinderModel_formula_165 rfl (lv_at hl 1 rfl) ?_
    refine lv_imul hx hb zd_LassoFinderModel_formula_166 ?_
    refine lv_topi (fun z3 ez3 => ?_)
    have hok := hok z3 ez3
    refine lv_iload hx hb zd_LassoFinderModel_formula_167 (lv_at hl 3 rfl) ?_
    refine lv_iadd hx hb zd_LassoFinderModel_formula_169 ?_
    refine lv_topi (fun z4 ez4 => ?_)
    have hok := hok z4 ez4
    refine lv_aload_n hx hb zd_LassoFinderModel_formula_170 rfl (lv_at hl 0 rfl) ?_
    refine lv_iload_n hx hb zd_LassoFinderModel_formula_171 rfl (lv_at hl 2 rfl) ?_
    refine lv_iload hx hb zd_LassoFinderModel_formula_172 (lv_at hl 3 rfl) ?_
    refine z_calli (w1 := fun (u : zS) => wM ad K u.1 u.2.1 u.2.2.1 u.2.2.2) (wr := []) (z_runV (q0 := 0) (wc := (wM ad K I J B D)) (As := [.int x3, .int x4]) (rest := [.int z4, .ref (ad 51)]) ⟨hx, hb, hml, hown, hts⟩ (w_LassoFinderModel_looked l G K ad I J B D x3 x4 _ H.size hok) zf_LassoFinderModel_looked zm_355 ⟨Nat.le_of_ble_eq_true rfl, Nat.le_of_ble_eq_true rfl⟩ hK hw [0, 1, 2, 3, 4, 5, 6, 7, 8, 9, 10, 11, 12, 13, 14, 15, 16, 17, 18, 19, 20, 21, 22, 23, 24, 25, 26, 27, 28, 29, 30, 31, 32, 33, 34, 35, 36, 37, 38, 39, 40, 41, 42, 43, 44, 45, 46, 47, 48, 49, 50, 51, 52, 53, 54, 55, 56, 57] rfl (by decide) rfl rfl rfl hl.1 rfl (Nat.le_of_ble_eq_true rfl) zd_LassoFinderModel_formula_174 ⟨Nat.le_of_ble_eq_true rfl, Nat.le_of_ble_eq_true rfl⟩) hw hA [0, 1, 2, 3, 4, 5, 6, 7, 8, 9, 10, 11, 12, 13, 14, 15, 16, 17, 18, 19, 20, 21, 22, 23, 24, 25, 26, 27, 28, 29, 30, 31, 32, 33, 34, 35, 36, 37, 38, 39, 40, 41, 42, 43, 44, 45, 46, 47, 48, 49, 50, 51, 52, 53, 54, 55, 56, 57] [] rfl rfl (by decide) (by decide) (fun r5 u H locs hok hw => ?_)
    obtain ⟨I5, J5, B5, D5⟩ := u
    dsimp only at hok
    have hw : zW G A s.heap (wM ad K I5 J5 B5 D5) H locs := hw
    refine va_iast (f := (B5 48)) hx hb hK hw.1 hw.2.1 hw.2.2 51 0 rfl rfl hok.1 zd_LassoFinderModel_formula_177 (fun H locs w91 w92 w93 => ?_)
    have hok := hok.2
    have hw : zW G A s.heap _ H locs := ⟨w91, w92, w93⟩
    have hw : zW G A s.heap (wM ad K I5 J5 (va_up B5 48 (upd (B5 48) z4.toNatClampNeg r5)) D5) H locs := hw
    obtain ⟨z6, ez6⟩ : ∃ z : Int32, z = (x4 + 1) := ⟨_, rfl⟩
    have hok := hok z6 ez6
    refine lv_iinc (v := z6) hx hb zd_LassoFinderModel_formula_178 hl (k := 3) rfl ez6.symm (by decide) rfl (fun ls hl => ?_)
    have hl : lv_has ls 5 [(4, .int z6), (0, .ref (ad 0)), (2, .int x2), (3, .int x3)] := hl
    refine lv_goto (tgt := 152) hx hb zd_LassoFinderModel_formula_181 (by decide) ?_
    exact kh152 x2 x3 z6 I5 J5 (va_up B5 48 (upd (B5 48) z4.toNatClampNeg r5)) D5 ls H locs hok (lv_sub hl [1, 2, 3, 0] rfl) hw
theorem wL_LassoFinderModel_formula_152 {p : Program} {l : Launch} {e : Env} {s : State} {m : MethodId} {below : List Frame} {meth : Method} {c : Code} {A : Nat → Prop} (G : va_G) (K : Nat → ClassId) (ad : Nat → Nat) (Post : Int32 → (Nat → Int32) → (Nat → Int64) → (Nat → Nat → Int32) → (Nat → Nat → Int64) → Prop) (C : zCx p s m ([.ref (ad 0)] : List Value).toArray meth c A G K prog_14_method_50_code (some .int) 5 "LassoFinderModel") (K91 : Int32 → (Nat → Int32) → (Nat → Int64) → (Nat → Nat → Int32) → (Nat → Nat → Int64) → Prop) (kh91 : ∀ (x2 : Int32) (I : Nat → Int32) (J : Nat → Int64) (B : Nat → Nat → Int32) (D : Nat → Nat → Int64) (ls : Array Slot) (H : Heap) (locs : List Loc), K91 x2 I J B D → lv_has ls 5 [(0, .ref (ad 0)), (2, .int x2)] → zW G A s.heap (wM ad K I J B D) H locs → W p l e { frames := 5, cells := 0, slots := 0, locals := 119 } s m ([.ref (ad 0)] : List Value).toArray below meth c H locs 0 0 (MQ below (va_Qi (fun (r : Int32) (u : zS) => Post r u.1 u.2.1 u.2.2.1 u.2.2.2) (fun u t => zPost G K A (wM ad K u.1 u.2.1 u.2.2.1 u.2.2.2) t) A) ([.ref (ad 0)] : List Value).toArray s 0 0 A) (F0 m 91 ls [])) : ∀ (n : Nat) (x2 : Int32) (x3 : Int32) (x4 : Int32) (I : Nat → Int32) (J : Nat → Int64) (B : Nat → Nat → Int32) (D : Nat → Nat → Int64) (ls : Array Slot) (H : Heap) (locs : List Loc), wl_LassoFinderModel_formula_152  K91 Post n x2 x3 x4 I J B D → lv_has ls 5 [(0, .ref (ad 0)), (2, .int x2), (3, .int x3), (4, .int x4)] → zW G A s.heap (wM ad K I J B D) H locs → W p l e { frames := 5, cells := 0, slots := 0, locals := 119 } s m ([.ref (ad 0)] : List Value).toArray below meth c H locs 0 0 (MQ below (va_Qi (fun (r : Int32) (u : zS) => Post r u.1 u.2.1 u.2.2.1 u.2.2.2) (fun u t => zPost G K A (wM ad K u.1 u.2.1 u.2.2.1 u.2.2.2) t) A) ([.ref (ad 0)] : List Value).toArray s 0 0 A) (F0 m 152 ls []) := by
  intro n
  induction n with
  | zero => intro x2 x3 x4 I J B D ls H locs hok; exact hok.elim
  | succ n ih => exact wB_LassoFinderModel_formula_152 G K ad  Post C K91 kh91 (wl_LassoFinderModel_formula_152  K91 Post n) ih
set_option maxHeartbeats 8000000 in
set_option maxRecDepth 100000 in
theorem wJ_LassoFinderModel_formula_141 {p : Program} {l : Launch} {e : Env} {s : State} {m : MethodId} {below : List Frame} {meth : Method} {c : Code} {A : Nat → Prop} (G : va_G) (K : Nat → ClassId) (ad : Nat → Nat) (Post : Int32 → (Nat → Int32) → (Nat → Int64) → (Nat → Nat → Int32) → (Nat → Nat → Int64) → Prop) (C : zCx p s m ([.ref (ad 0)] : List Value).toArray meth c A G K prog_14_method_50_code (some .int) 5 "LassoFinderModel") (K91 : Int32 → (Nat → Int32) → (Nat → Int64) → (Nat → Nat → Int32) → (Nat → Nat → Int64) → Prop) (kh91 : ∀ (x2 : Int32) (I : Nat → Int32) (J : Nat → Int64) (B : Nat → Nat → Int32) (D : Nat → Nat → Int64) (ls : Array Slot) (H : Heap) (locs : List Loc), K91 x2 I J B D → lv_has ls 5 [(0, .ref (ad 0)), (2, .int x2)] → zW G A s.heap (wM ad K I J B D) H locs → W p l e { frames := 5, cells := 0, slots := 0, locals := 119 } s m ([.ref (ad 0)] : List Value).toArray below meth c H locs 0 0 (MQ below (va_Qi (fun (r : Int32) (u : zS) => Post r u.1 u.2.1 u.2.2.1 u.2.2.2) (fun u t => zPost G K A (wM ad K u.1 u.2.1 u.2.2.1 u.2.2.2) t) A) ([.ref (ad 0)] : List Value).toArray s 0 0 A) (F0 m 91 ls [])) (K114 : Int32 → Int32 → Int32 → (Nat → Int32) → (Nat → Int64) → (Nat → Nat → Int32) → (Nat → Nat → Int64) → Prop) (kh114 : ∀ (x2 : Int32) (x3 : Int32) (x4 : Int32) (I : Nat → Int32) (J : Nat → Int64) (B : Nat → Nat → Int32) (D : Nat → Nat → Int64) (ls : Array Slot) (H : Heap) (locs : List Loc), K114 x2 x3 x4 I J B D → lv_has ls 5 [(0, .ref (ad 0)), (2, .int x2), (3, .int x3), (4, .int x4)] → zW G A s.heap (wM ad K I J B D) H locs → W p l e { frames := 5, cells := 0, slots := 0, locals := 119 } s m ([.ref (ad 0)] : List Value).toArray below meth c H locs 0 0 (MQ below (va_Qi (fun (r : Int32) (u : zS) => Post r u.1 u.2.1 u.2.2.1 u.2.2.2) (fun u t => zPost G K A (wM ad K u.1 u.2.1 u.2.2.1 u.2.2.2) t) A) ([.ref (ad 0)] : List Value).toArray s 0 0 A) (F0 m 114 ls [])) : ∀ (x2 : Int32) (x4 : Int32) (y0 : Int32) (y1 : Int32) (I : Nat → Int32) (J : Nat → Int64) (B : Nat → Nat → Int32) (D : Nat → Nat → Int64) (ls : Array Slot) (H : Heap) (locs : List Loc), wc_LassoFinderModel_formula_141  K91 K114 Post x2 x4 y0 y1 I J B D → lv_has ls 5 [(0, .ref (ad 0)), (2, .int x2), (4, .int x4)] → zW G A s.heap (wM ad K I J B D) H locs → W p l e { frames := 5, cells := 0, slots := 0, locals := 119 } s m ([.ref (ad 0)] : List Value).toArray below meth c H locs 0 0 (MQ below (va_Qi (fun (r : Int32) (u : zS) => Post r u.1 u.2.1 u.2.2.1 u.2.2.2) (fun u t => zPost G K A (wM ad K u.1 u.2.1 u.2.2.1 u.2.2.2) t) A) ([.ref (ad 0)] : List Value).toArray s 0 0 A) (F0 m 141 ls [.int y0, .int y1]) := by
  obtain ⟨hx, hb, hr, hml, hts, hown, hlocks, hA, hK⟩ := id C
  intro x2 x4 y0 y1 I J B D ls H locs hok hl hw
  unfold wc_LassoFinderModel_formula_141 at hok
  refine lv_ior hx hb zd_LassoFinderModel_formula_141 ?_
  refine lv_topi (fun z7 ez7 => ?_)
  have hok := hok z7 ez7
  refine lv_istore_n hx hb zd_LassoFinderModel_formula_142 rfl hl (by decide) rfl (fun ls hl => ?_)
  have hl : lv_has ls 5 [(3, .int z7), (0, .ref (ad 0)), (2, .int x2), (4, .int x4)] := hl
  obtain ⟨z8, ez8⟩ : ∃ z : Int32, z = (x4 + 1) := ⟨_, rfl⟩
  have hok := hok z8 ez8
  refine lv_iinc (v := z8) hx hb zd_LassoFinderModel_formula_143 hl (k := 3) rfl ez8.symm (by decide) rfl (fun ls hl => ?_)
  have hl : lv_has ls 5 [(4, .int z8), (3, .int z7), (0, .ref (ad 0)), (2, .int x2)] := hl
  refine lv_goto (tgt := 114) hx hb zd_LassoFinderModel_formula_146 (by decide) ?_
  exact kh114 x2 z7 z8 I J B D ls H locs hok (lv_sub hl [2, 3, 1, 0] rfl) hw
set_option maxHeartbeats 8000000 in
set_option maxRecDepth 100000 in
theorem wB_LassoFinderModel_formula_114 {p : Program} {l : Launch} {e : Env} {s : State} {m : MethodId} {below : List Frame} {meth : Method} {c : Code} {A : Nat → Prop} (G : va_G) (K : Nat → ClassId) (ad : Nat → Nat) (Post : Int32 → (Nat → Int32) → (Nat → Int64) → (Nat → Nat → Int32) → (Nat → Nat → Int64) → Prop) (C : zCx p s m ([.ref (ad 0)] : List Value).toArray meth c A G K prog_14_method_50_code (some .int) 5 "LassoFinderModel") (K91 : Int32 → (Nat → Int32) → (Nat → Int64) → (Nat → Nat → Int32) → (Nat → Nat → Int64) → Prop) (kh91 : ∀ (x2 : Int32) (I : Nat → Int32) (J : Nat → Int64) (B : Nat → Nat → Int32) (D : Nat → Nat → Int64) (ls : Array Slot) (H : Heap) (locs : List Loc), K91 x2 I J B D → lv_has ls 5 [(0, .ref (ad 0)), (2, .int x2)] → zW G A s.heap (wM ad K I J B D) H locs → W p l e { frames := 5, cells := 0, slots := 0, locals := 119 } s m ([.ref (ad 0)] : List Value).toArray below meth c H locs 0 0 (MQ below (va_Qi (fun (r : Int32) (u : zS) => Post r u.1 u.2.1 u.2.2.1 u.2.2.2) (fun u t => zPost G K A (wM ad K u.1 u.2.1 u.2.2.1 u.2.2.2) t) A) ([.ref (ad 0)] : List Value).toArray s 0 0 A) (F0 m 91 ls [])) (K114 : Int32 → Int32 → Int32 → (Nat → Int32) → (Nat → Int64) → (Nat → Nat → Int32) → (Nat → Nat → Int64) → Prop) (kh114 : ∀ (x2 : Int32) (x3 : Int32) (x4 : Int32) (I : Nat → Int32) (J : Nat → Int64) (B : Nat → Nat → Int32) (D : Nat → Nat → Int64) (ls : Array Slot) (H : Heap) (locs : List Loc), K114 x2 x3 x4 I J B D → lv_has ls 5 [(0, .ref (ad 0)), (2, .int x2), (3, .int x3), (4, .int x4)] → zW G A s.heap (wM ad K I J B D) H locs → W p l e { frames := 5, cells := 0, slots := 0, locals := 119 } s m ([.ref (ad 0)] : List Value).toArray below meth c H locs 0 0 (MQ below (va_Qi (fun (r : Int32) (u : zS) => Post r u.1 u.2.1 u.2.2.1 u.2.2.2) (fun u t => zPost G K A (wM ad K u.1 u.2.1 u.2.2.1 u.2.2.2) t) A) ([.ref (ad 0)] : List Value).toArray s 0 0 A) (F0 m 114 ls [])) : ∀ (x2 : Int32) (x3 : Int32) (x4 : Int32) (I : Nat → Int32) (J : Nat → Int64) (B : Nat → Nat → Int32) (D : Nat → Nat → Int64) (ls : Array Slot) (H : Heap) (locs : List Loc), wb_LassoFinderModel_formula_114  K114 K91 Post x2 x3 x4 I J B D → lv_has ls 5 [(0, .ref (ad 0)), (2, .int x2), (3, .int x3), (4, .int x4)] → zW G A s.heap (wM ad K I J B D) H locs → W p l e { frames := 5, cells := 0, slots := 0, locals := 119 } s m ([.ref (ad 0)] : List Value).toArray below meth c H locs 0 0 (MQ below (va_Qi (fun (r : Int32) (u : zS) => Post r u.1 u.2.1 u.2.2.1 u.2.2.2) (fun u t => zPost G K A (wM ad K u.1 u.2.1 u.2.2.1 u.2.2.2) t) A) ([.ref (ad 0)] : List Value).toArray s 0 0 A) (F0 m 114 ls []) := by
  obtain ⟨hx, hb, hr, hml, hts, hown, hlocks, hA, hK⟩ := id C
  intro x2 x3 x4 I J B D ls H locs hok hl hw
  unfold wb_LassoFinderModel_formula_114 at hok
  refine lv_iload hx hb zd_LassoFinderModel_formula_114 (lv_at hl 3 rfl) ?_
  refine lv_aload_n hx hb zd_LassoFinderModel_formula_116 rfl (lv_at hl 0 rfl) ?_
  refine z_get (v := .int (I 23)) hx hb hts hown hK hw zZ12 0 rfl 69 (by decide) zm_353 rfl zd_LassoFinderModel_formula_117 ?_
  refine lv_icmp_ge (tgt := 149) hx hb zd_LassoFinderModel_formula_120 (by decide) (fun hc9 => ?_) (fun hc9 => ?_)
  · have hok := hok.1 hc9
    refine lv_iconst (v := 0) hx hb zd_LassoFinderModel_formula_149 (by decide) ?_
    refine lv_istore hx hb zd_LassoFinderModel_formula_150 hl (by decide) rfl (fun ls hl => ?_)
    have hl : lv_has ls 5 [(4, .int 0), (0, .ref (ad 0)), (2, .int x2), (3, .int x3)] := hl
    obtain ⟨n9, hok⟩ := hok
    exact wL_LassoFinderModel_formula_152 G K ad  Post C K91 kh91 n9 x2 x3 0 I J B D ls H locs hok (lv_sub hl [1, 2, 3, 0] rfl) hw
  · have hok := hok.2 hc9
    refine lv_iload_n hx hb zd_LassoFinderModel_formula_123 rfl (lv_at hl 2 rfl) ?_
    refine lv_aload_n hx hb zd_LassoFinderModel_formula_124 rfl (lv_at hl 0 rfl) ?_
    refine lv_iload hx hb zd_LassoFinderModel_formula_125 (lv_at hl 3 rfl) ?_
    refine z_calli (w1 := fun (u : zS) => wM ad K u.1 u.2.1 u.2.2.1 u.2.2.2) (wr := []) (z_runV (q0 := 0) (wc := (wM ad K I J B D)) (As := [.int x4]) (rest := [.int x3]) ⟨hx, hb, hml, hown, hts⟩ (w_LassoFinderModel_holdsAt l G K ad I J B D x4 _ H.size hok) zf_LassoFinderModel_holdsAt zm_354 ⟨Nat.le_of_ble_eq_true rfl, Nat.le_of_ble_eq_true rfl⟩ hK hw [0, 1, 2, 3, 4, 5, 6, 7, 8, 9, 10, 11, 12, 13, 14, 15, 16, 17, 18, 19, 20, 21, 22, 23, 24, 25, 26, 27, 28, 29, 30, 31, 32, 33, 34, 35, 36, 37, 38, 39, 40, 41, 42, 43, 44, 45, 46, 47, 48, 49, 50, 51, 52, 53, 54, 55, 56, 57] rfl (by decide) rfl rfl rfl hl.1 rfl (Nat.le_of_ble_eq_true rfl) zd_LassoFinderModel_formula_127 ⟨Nat.le_of_ble_eq_true rfl, Nat.le_of_ble_eq_true rfl⟩) hw hA [0, 1, 2, 3, 4, 5, 6, 7, 8, 9, 10, 11, 12, 13, 14, 15, 16, 17, 18, 19, 20, 21, 22, 23, 24, 25, 26, 27, 28, 29, 30, 31, 32, 33, 34, 35, 36, 37, 38, 39, 40, 41, 42, 43, 44, 45, 46, 47, 48, 49, 50, 51, 52, 53, 54, 55, 56, 57] [] rfl rfl (by decide) (by decide) (fun r10 u H locs hok hw => ?_)
    obtain ⟨I10, J10, B10, D10⟩ := u
    dsimp only at hok
    have hw : zW G A s.heap (wM ad K I10 J10 B10 D10) H locs := hw
    refine lv_if_eq (tgt := 140) hx hb zd_LassoFinderModel_formula_130 (by decide) (fun hc11 => ?_) (fun hc11 => ?_)
    · have hok := hok.1 hc11
      refine lv_iconst (v := 0) hx hb zd_LassoFinderModel_formula_140 (by decide) ?_
      exact wJ_LassoFinderModel_formula_141 G K ad  Post C K91 kh91 K114 kh114 x2 x4 0 x3 I10 J10 B10 D10 ls H locs hok (lv_sub hl [0, 1, 3] rfl) hw
    · have hok := hok.2 hc11
      refine lv_iconst (v := 1) hx hb zd_LassoFinderModel_formula_133 (by decide) ?_
      refine lv_iload hx hb zd_LassoFinderModel_formula_134 (lv_at hl 3 rfl) ?_
      refine lv_ishl hx hb zd_LassoFinderModel_formula_136 ?_
      refine lv_topi (fun z12 ez12 => ?_)
      have hok := hok z12 ez12
      refine lv_goto (tgt := 141) hx hb zd_LassoFinderModel_formula_137 (by decide) ?_
      exact wJ_LassoFinderModel_formula_141 G K ad  Post C K91 kh91 K114 kh114 x2 x4 z12 x3 I10 J10 B10 D10 ls H locs hok (lv_sub hl [0, 1, 3] rfl) hw
theorem wL_LassoFinderModel_formula_114 {p : Program} {l : Launch} {e : Env} {s : State} {m : MethodId} {below : List Frame} {meth : Method} {c : Code} {A : Nat → Prop} (G : va_G) (K : Nat → ClassId) (ad : Nat → Nat) (Post : Int32 → (Nat → Int32) → (Nat → Int64) → (Nat → Nat → Int32) → (Nat → Nat → Int64) → Prop) (C : zCx p s m ([.ref (ad 0)] : List Value).toArray meth c A G K prog_14_method_50_code (some .int) 5 "LassoFinderModel") (K91 : Int32 → (Nat → Int32) → (Nat → Int64) → (Nat → Nat → Int32) → (Nat → Nat → Int64) → Prop) (kh91 : ∀ (x2 : Int32) (I : Nat → Int32) (J : Nat → Int64) (B : Nat → Nat → Int32) (D : Nat → Nat → Int64) (ls : Array Slot) (H : Heap) (locs : List Loc), K91 x2 I J B D → lv_has ls 5 [(0, .ref (ad 0)), (2, .int x2)] → zW G A s.heap (wM ad K I J B D) H locs → W p l e { frames := 5, cells := 0, slots := 0, locals := 119 } s m ([.ref (ad 0)] : List Value).toArray below meth c H locs 0 0 (MQ below (va_Qi (fun (r : Int32) (u : zS) => Post r u.1 u.2.1 u.2.2.1 u.2.2.2) (fun u t => zPost G K A (wM ad K u.1 u.2.1 u.2.2.1 u.2.2.2) t) A) ([.ref (ad 0)] : List Value).toArray s 0 0 A) (F0 m 91 ls [])) : ∀ (n : Nat) (x2 : Int32) (x3 : Int32) (x4 : Int32) (I : Nat → Int32) (J : Nat → Int64) (B : Nat → Nat → Int32) (D : Nat → Nat → Int64) (ls : Array Slot) (H : Heap) (locs : List Loc), wl_LassoFinderModel_formula_114  K91 Post n x2 x3 x4 I J B D → lv_has ls 5 [(0, .ref (ad 0)), (2, .int x2), (3, .int x3), (4, .int x4)] → zW G A s.heap (wM ad K I J B D) H locs → W p l e { frames := 5, cells := 0, slots := 0, locals := 119 } s m ([.ref (ad 0)] : List Value).toArray below meth c H locs 0 0 (MQ below (va_Qi (fun (r : Int32) (u : zS) => Post r u.1 u.2.1 u.2.2.1 u.2.2.2) (fun u t => zPost G K A (wM ad K u.1 u.2.1 u.2.2.1 u.2.2.2) t) A) ([.ref (ad 0)] : List Value).toArray s 0 0 A) (F0 m 114 ls []) := by
  intro n
  induction n with
  | zero => intro x2 x3 x4 I J B D ls H locs hok; exact hok.elim
  | succ n ih => exact wB_LassoFinderModel_formula_114 G K ad  Post C K91 kh91 (wl_LassoFinderModel_formula_114  K91 Post n) ih
set_option maxHeartbeats 8000000 in
set_option maxRecDepth 100000 in
theorem wB_LassoFinderModel_formula_91 {p : Program} {l : Launch} {e : Env} {s : State} {m : MethodId} {below : List Frame} {meth : Method} {c : Code} {A : Nat → Prop} (G : va_G) (K : Nat → ClassId) (ad : Nat → Nat) (Post : Int32 → (Nat → Int32) → (Nat → Int64) → (Nat → Nat → Int32) → (Nat → Nat → Int64) → Prop) (C : zCx p s m ([.ref (ad 0)] : List Value).toArray meth c A G K prog_14_method_50_code (some .int) 5 "LassoFinderModel") (K91 : Int32 → (Nat → Int32) → (Nat → Int64) → (Nat → Nat → Int32) → (Nat → Nat → Int64) → Prop) (kh91 : ∀ (x2 : Int32) (I : Nat → Int32) (J : Nat → Int64) (B : Nat → Nat → Int32) (D : Nat → Nat → Int64) (ls : Array Slot) (H : Heap) (locs : List Loc), K91 x2 I J B D → lv_has ls 5 [(0, .ref (ad 0)), (2, .int x2)] → zW G A s.heap (wM ad K I J B D) H locs → W p l e { frames := 5, cells := 0, slots := 0, locals := 119 } s m ([.ref (ad 0)] : List Value).toArray below meth c H locs 0 0 (MQ below (va_Qi (fun (r : Int32) (u : zS) => Post r u.1 u.2.1 u.2.2.1 u.2.2.2) (fun u t => zPost G K A (wM ad K u.1 u.2.1 u.2.2.1 u.2.2.2) t) A) ([.ref (ad 0)] : List Value).toArray s 0 0 A) (F0 m 91 ls [])) : ∀ (x2 : Int32) (I : Nat → Int32) (J : Nat → Int64) (B : Nat → Nat → Int32) (D : Nat → Nat → Int64) (ls : Array Slot) (H : Heap) (locs : List Loc), wb_LassoFinderModel_formula_91  K91 Post x2 I J B D → lv_has ls 5 [(0, .ref (ad 0)), (2, .int x2)] → zW G A s.heap (wM ad K I J B D) H locs → W p l e { frames := 5, cells := 0, slots := 0, locals := 119 } s m ([.ref (ad 0)] : List Value).toArray below meth c H locs 0 0 (MQ below (va_Qi (fun (r : Int32) (u : zS) => Post r u.1 u.2.1 u.2.2.1 u.2.2.2) (fun u t => zPost G K A (wM ad K u.1 u.2.1 u.2.2.1 u.2.2.2) t) A) ([.ref (ad 0)] : List Value).toArray s 0 0 A) (F0 m 91 ls []) := by
  obtain ⟨hx, hb, hr, hml, hts, hown, hlocks, hA, hK⟩ := id C
  intro x2 I J B D ls H locs hok hl hw
  unfold wb_LassoFinderModel_formula_91 at hok
  refine lv_iload_n hx hb zd_LassoFinderModel_formula_91 rfl (lv_at hl 1 rfl) ?_
  refine lv_aload_n hx hb zd_LassoFinderModel_formula_92 rfl (lv_at hl 0 rfl) ?_
  refine z_get (v := .int (I 14)) hx hb hts hown hK hw zZ12 0 rfl 44 (by decide) zm_300 rfl zd_LassoFinderModel_formula_93 ?_
  refine lv_icmp_ge (tgt := 190) hx hb zd_LassoFinderModel_formula_96 (by decide) (fun hc13 => ?_) (fun hc13 => ?_)
  · have hok := hok.1 hc13
    refine lv_aload_n hx hb zd_LassoFinderModel_formula_190 rfl (lv_at hl 0 rfl) ?_
    refine lv_iconst (v := 1) hx hb zd_LassoFinderModel_formula_191 (by decide) ?_
    refine z_put (v := .int 1) hx hb hts hown hK hw zZ12 0 rfl 61 (by decide) zm_329 rfl rfl rfl (Nat.le_of_ble_eq_true rfl) zd_LassoFinderModel_formula_192 (fun H locs hw => ?_)
    have hw : zW G A s.heap (wM ad K (upd I 18 1) J B D) H locs := hw
    refine lv_aload_n hx hb zd_LassoFinderModel_formula_195 rfl (lv_at hl 0 rfl) ?_
    refine z_get (v := .int (I 20)) hx hb hts hown hK hw zZ12 0 rfl 64 (by decide) zm_356 rfl zd_LassoFinderModel_formula_196 ?_
    exact z_iret (u := ((upd I 18 1), J, B, D)) hx hb hr hlocks rfl hw [0, 1, 2, 3, 4, 5, 6, 7, 8, 9, 10, 11, 12, 13, 14, 15, 16, 17, 18, 19, 20, 21, 22, 23, 24, 25, 26, 27, 28, 29, 30, 31, 32, 33, 34, 35, 36, 37, 38, 39, 40, 41, 42, 43, 44, 45, 46, 47, 48, 49, 50, 51, 52, 53, 54, 55, 56, 57] rfl (by decide) hok (Nat.le_of_ble_eq_true rfl) (Nat.le_of_ble_eq_true rfl) zd_LassoFinderModel_formula_199
  · have hok := hok.2 hc13
    refine lv_aload_n hx hb zd_LassoFinderModel_formula_99 rfl (lv_at hl 0 rfl) ?_
    refine lv_aload_n hx hb zd_LassoFinderModel_formula_100 rfl (lv_at hl 0 rfl) ?_
    refine z_get (v := .ref (ad 31)) hx hb hts hown hK hw zZ12 0 rfl 47 (by decide) zm_265 rfl zd_LassoFinderModel_formula_101 ?_
    refine lv_iload_n hx hb zd_LassoFinderModel_formula_104 rfl (lv_at hl 1 rfl) ?_
    refine va_lald (f := (D 1)) hx hb hK hw.1 31 1 rfl rfl hok.1 zd_LassoFinderModel_formula_105 ?_
    have hok := hok.2
    refine lv_topl (fun z14 ez14 => ?_)
    have hok := hok z14 ez14
    refine z_callv (w1 := fun (u : zS) => wM ad K u.1 u.2.1 u.2.2.1 u.2.2.2) (wr := []) (z_runV (q0 := 0) (wc := (wM ad K I J B D)) (As := [.long z14]) (rest := []) ⟨hx, hb, hml, hown, hts⟩ (w_LassoFinderModel_unpack l G K ad I J B D z14 _ H.size hok) zf_LassoFinderModel_unpack zm_315 ⟨Nat.le_of_ble_eq_true rfl, Nat.le_of_ble_eq_true rfl⟩ hK hw [0, 1, 2, 3, 4, 5, 6, 7, 8, 9, 10, 11, 12, 13, 14, 15, 16, 17, 18, 19, 20, 21, 22, 23, 24, 25, 26, 27, 28, 29, 30, 31, 32, 33, 34, 35, 36, 37, 38, 39, 40, 41, 42, 43, 44, 45, 46, 47, 48, 49, 50, 51, 52, 53, 54, 55, 56, 57] rfl (by decide) rfl rfl rfl hl.1 rfl (Nat.le_of_ble_eq_true rfl) zd_LassoFinderModel_formula_106 ⟨Nat.le_of_ble_eq_true rfl, Nat.le_of_ble_eq_true rfl⟩) hw hA [0, 1, 2, 3, 4, 5, 6, 7, 8, 9, 10, 11, 12, 13, 14, 15, 16, 17, 18, 19, 20, 21, 22, 23, 24, 25, 26, 27, 28, 29, 30, 31, 32, 33, 34, 35, 36, 37, 38, 39, 40, 41, 42, 43, 44, 45, 46, 47, 48, 49, 50, 51, 52, 53, 54, 55, 56, 57] [] rfl rfl (by decide) (by decide) (fun u H locs hok hw => ?_)
    obtain ⟨I15, J15, B15, D15⟩ := u
    dsimp only at hok
    have hw : zW G A s.heap (wM ad K I15 J15 B15 D15) H locs := hw
    refine lv_iconst (v := 0) hx hb zd_LassoFinderModel_formula_109 (by decide) ?_
    refine lv_istore_n hx hb zd_LassoFinderModel_formula_110 rfl hl (by decide) rfl (fun ls hl => ?_)
    have hl : lv_has ls 5 [(3, .int 0), (0, .ref (ad 0)), (2, .int x2)] := hl
    refine lv_iconst (v := 0) hx hb zd_LassoFinderModel_formula_111 (by decide) ?_
    refine lv_istore hx hb zd_LassoFinderModel_formula_112 hl (by decide) rfl (fun ls hl => ?_)
    have hl : lv_has ls 5 [(4, .int 0), (3, .int 0), (0, .ref (ad 0)), (2, .int x2)] := hl
    obtain ⟨n9, hok⟩ := hok
    exact wL_LassoFinderModel_formula_114 G K ad  Post C K91 kh91 n9 x2 0 0 I15 J15 B15 D15 ls H locs hok (lv_sub hl [2, 3, 1, 0] rfl) hw
theorem wL_LassoFinderModel_formula_91 {p : Program} {l : Launch} {e : Env} {s : State} {m : MethodId} {below : List Frame} {meth : Method} {c : Code} {A : Nat → Prop} (G : va_G) (K : Nat → ClassId) (ad : Nat → Nat) (Post : Int32 → (Nat → Int32) → (Nat → Int64) → (Nat → Nat → Int32) → (Nat → Nat → Int64) → Prop) (C : zCx p s m ([.ref (ad 0)] : List Value).toArray meth c A G K prog_14_method_50_code (some .int) 5 "LassoFinderModel") : ∀ (n : Nat) (x2 : Int32) (I : Nat → Int32) (J : Nat → Int64) (B : Nat → Nat → Int32) (D : Nat → Nat → Int64) (ls : Array Slot) (H : Heap) (locs : List Loc), wl_LassoFinderModel_formula_91  Post n x2 I J B D → lv_has ls 5 [(0, .ref (ad 0)), (2, .int x2)] → zW G A s.heap (wM ad K I J B D) H locs → W p l e { frames := 5, cells := 0, slots := 0, locals := 119 } s m ([.ref (ad 0)] : List Value).toArray below meth c H locs 0 0 (MQ below (va_Qi (fun (r : Int32) (u : zS) => Post r u.1 u.2.1 u.2.2.1 u.2.2.2) (fun u t => zPost G K A (wM ad K u.1 u.2.1 u.2.2.1 u.2.2.2) t) A) ([.ref (ad 0)] : List Value).toArray s 0 0 A) (F0 m 91 ls []) := by
  intro n
  induction n with
  | zero => intro x2 I J B D ls H locs hok; exact hok.elim
  | succ n ih => exact wB_LassoFinderModel_formula_91 G K ad  Post C (wl_LassoFinderModel_formula_91  Post n) ih
set_option maxHeartbeats 8000000 in
set_option maxRecDepth 100000 in
theorem wJ_LassoFinderModel_formula_80 {p : Program} {l : Launch} {e : Env} {s : State} {m : MethodId} {below : List Frame} {meth : Method} {c : Code} {A : Nat → Prop} (G : va_G) (K : Nat → ClassId) (ad : Nat → Nat) (Post : Int32 → (Nat → Int32) → (Nat → Int64) → (Nat → Nat → Int32) → (Nat → Nat → Int64) → Prop) (C : zCx p s m ([.ref (ad 0)] : List Value).toArray meth c A G K prog_14_method_50_code (some .int) 5 "LassoFinderModel") : ∀ (x1 : Int32) (y0 : Int32) (I : Nat → Int32) (J : Nat → Int64) (B : Nat → Nat → Int32) (D : Nat → Nat → Int64) (ls : Array Slot) (H : Heap) (locs : List Loc), wc_LassoFinderModel_formula_80  Post x1 y0 I J B D → lv_has ls 5 [(0, .ref (ad 0)), (1, .int x1)] → zW G A s.heap (wM ad K I J B D) H locs → W p l e { frames := 5, cells := 0, slots := 0, locals := 119 } s m ([.ref (ad 0)] : List Value).toArray below meth c H locs 0 0 (MQ below (va_Qi (fun (r : Int32) (u : zS) => Post r u.1 u.2.1 u.2.2.1 u.2.2.2) (fun u t => zPost G K A (wM ad K u.1 u.2.1 u.2.2.1 u.2.2.2) t) A) ([.ref (ad 0)] : List Value).toArray s 0 0 A) (F0 m 80 ls [.int y0, .ref (ad 0)]) := by
  obtain ⟨hx, hb, hr, hml, hts, hown, hlocks, hA, hK⟩ := id C
  intro x1 y0 I J B D ls H locs hok hl hw
  unfold wc_LassoFinderModel_formula_80 at hok
  refine z_put (v := .int y0) hx hb hts hown hK hw zZ12 0 rfl 0 (by decide) zm_292 rfl rfl rfl (Nat.le_of_ble_eq_true rfl) zd_LassoFinderModel_formula_80 (fun H locs hw => ?_)
  have hw : zW G A s.heap (wM ad K (upd I 0 y0) J B D) H locs := hw
  refine lv_iload_n hx hb zd_LassoFinderModel_formula_83 rfl (lv_at hl 1 rfl) ?_
  refine lv_if_ne (tgt := 89) hx hb zd_LassoFinderModel_formula_84 (by decide) (fun hc16 => ?_) (fun hc16 => ?_)
  · have hok := hok.1 hc16
    refine lv_iconst (v := 0) hx hb zd_LassoFinderModel_formula_89 (by decide) ?_
    refine lv_istore_n hx hb zd_LassoFinderModel_formula_90 rfl hl (by decide) rfl (fun ls hl => ?_)
    have hl : lv_has ls 5 [(2, .int 0), (0, .ref (ad 0)), (1, .int x1)] := hl
    obtain ⟨n9, hok⟩ := hok
    exact wL_LassoFinderModel_formula_91 G K ad  Post C n9 0 (upd I 0 y0) J B D ls H locs hok (lv_sub hl [1, 0] rfl) hw
  · have hok := hok.2 hc16
    refine lv_iconst (v := 0) hx hb zd_LassoFinderModel_formula_87 (by decide) ?_
    exact z_iret (u := ((upd I 0 y0), J, B, D)) hx hb hr hlocks rfl hw [0, 1, 2, 3, 4, 5, 6, 7, 8, 9, 10, 11, 12, 13, 14, 15, 16, 17, 18, 19, 20, 21, 22, 23, 24, 25, 26, 27, 28, 29, 30, 31, 32, 33, 34, 35, 36, 37, 38, 39, 40, 41, 42, 43, 44, 45, 46, 47, 48, 49, 50, 51, 52, 53, 54, 55, 56, 57] rfl (by decide) hok (Nat.le_of_ble_eq_true rfl) (Nat.le_of_ble_eq_true rfl) zd_LassoFinderModel_formula_88
set_option maxHeartbeats 8000000 in
set_option maxRecDepth 100000 in
theorem wJ_LassoFinderModel_formula_67 {p : Program} {l : Launch} {e : Env} {s : State} {m : MethodId} {below : List Frame} {meth : Method} {c : Code} {A : Nat → Prop} (G : va_G) (K : Nat → ClassId) (ad : Nat → Nat) (Post : Int32 → (Nat → Int32) → (Nat → Int64) → (Nat → Nat → Int32) → (Nat → Nat → Int64) → Prop) (C : zCx p s m ([.ref (ad 0)] : List Value).toArray meth c A G K prog_14_method_50_code (some .int) 5 "LassoFinderModel") : ∀ (x1 : Int32) (y0 : Int32) (I : Nat → Int32) (J : Nat → Int64) (B : Nat → Nat → Int32) (D : Nat → Nat → Int64) (ls : Array Slot) (H : Heap) (locs : List Loc), wc_LassoFinderModel_formula_67  Post x1 y0 I J B D → lv_has ls 5 [(0, .ref (ad 0)), (1, .int x1)] → zW G A s.heap (wM ad K I J B D) H locs → W p l e { frames := 5, cells := 0, slots := 0, locals := 119 } s m ([.ref (ad 0)] : List Value).toArray below meth c H locs 0 0 (MQ below (va_Qi (fun (r : Int32) (u : zS) => Post r u.1 u.2.1 u.2.2.1 u.2.2.2) (fun u t => zPost G K A (wM ad K u.1 u.2.1 u.2.2.1 u.2.2.2) t) A) ([.ref (ad 0)] : List Value).toArray s 0 0 A) (F0 m 67 ls [.int y0, .ref (ad 0)]) := by
  obtain ⟨hx, hb, hr, hml, hts, hown, hlocks, hA, hK⟩ := id C
  intro x1 y0 I J B D ls H locs hok hl hw
  unfold wc_LassoFinderModel_formula_67 at hok
  refine z_put (v := .int y0) hx hb hts hown hK hw zZ12 0 rfl 5 (by decide) zm_328 rfl rfl rfl (Nat.le_of_ble_eq_true rfl) zd_LassoFinderModel_formula_67 (fun H locs hw => ?_)
  have hw : zW G A s.heap (wM ad K (upd I 4 y0) J B D) H locs := hw
  refine lv_aload_n hx hb zd_LassoFinderModel_formula_70 rfl (lv_at hl 0 rfl) ?_
  refine lv_iload_n hx hb zd_LassoFinderModel_formula_71 rfl (lv_at hl 1 rfl) ?_
  refine lv_if_eq (tgt := 79) hx hb zd_LassoFinderModel_formula_72 (by decide) (fun hc17 => ?_) (fun hc17 => ?_)
  · have hok := hok.1 hc17
    refine lv_iconst (v := 2) hx hb zd_LassoFinderModel_formula_79 (by decide) ?_
    exact wJ_LassoFinderModel_formula_80 G K ad  Post C x1 2 (upd I 4 y0) J B D ls H locs hok (lv_sub hl [0, 1] rfl) hw
  · have hok := hok.2 hc17
    refine lv_iconst (v := 0) hx hb zd_LassoFinderModel_formula_75 (by decide) ?_
    refine lv_goto (tgt := 80) hx hb zd_LassoFinderModel_formula_76 (by decide) ?_
    exact wJ_LassoFinderModel_formula_80 G K ad  Post C x1 0 (upd I 4 y0) J B D ls H locs hok (lv_sub hl [0, 1] rfl) hw
set_option maxHeartbeats 8000000 in
set_option maxRecDepth 100000 in
theorem wJ_LassoFinderModel_formula_39 {p : Program} {l : Launch} {e : Env} {s : State} {m : MethodId} {below : List Frame} {meth : Method} {c : Code} {A : Nat → Prop} (G : va_G) (K : Nat → ClassId) (ad : Nat → Nat) (Post : Int32 → (Nat → Int32) → (Nat → Int64) → (Nat → Nat → Int32) → (Nat → Nat → Int64) → Prop) (C : zCx p s m ([.ref (ad 0)] : List Value).toArray meth c A G K prog_14_method_50_code (some .int) 5 "LassoFinderModel") : ∀ (y0 : Int32) (I : Nat → Int32) (J : Nat → Int64) (B : Nat → Nat → Int32) (D : Nat → Nat → Int64) (ls : Array Slot) (H : Heap) (locs : List Loc), wc_LassoFinderModel_formula_39  Post y0 I J B D → lv_has ls 5 [(0, .ref (ad 0))] → zW G A s.heap (wM ad K I J B D) H locs → W p l e { frames := 5, cells := 0, slots := 0, locals := 119 } s m ([.ref (ad 0)] : List Value).toArray below meth c H locs 0 0 (MQ below (va_Qi (fun (r : Int32) (u : zS) => Post r u.1 u.2.1 u.2.2.1 u.2.2.2) (fun u t => zPost G K A (wM ad K u.1 u.2.1 u.2.2.1 u.2.2.2) t) A) ([.ref (ad 0)] : List Value).toArray s 0 0 A) (F0 m 39 ls [.int y0]) := by
  obtain ⟨hx, hb, hr, hml, hts, hown, hlocks, hA, hK⟩ := id C
  intro y0 I J B D ls H locs hok hl hw
  unfold wc_LassoFinderModel_formula_39 at hok
  refine lv_istore_n hx hb zd_LassoFinderModel_formula_39 rfl hl (by decide) rfl (fun ls hl => ?_)
  have hl : lv_has ls 5 [(1, .int y0), (0, .ref (ad 0))] := hl
  refine lv_aload_n hx hb zd_LassoFinderModel_formula_40 rfl (lv_at hl 1 rfl) ?_
  refine lv_iconst (v := 0) hx hb zd_LassoFinderModel_formula_41 (by decide) ?_
  refine z_put (v := .int 0) hx hb hts hown hK hw zZ12 0 rfl 1 (by decide) zm_294 rfl rfl rfl (Nat.le_of_ble_eq_true rfl) zd_LassoFinderModel_formula_42 (fun H locs hw => ?_)
  have hw : zW G A s.heap (wM ad K (upd I 1 0) J B D) H locs := hw
  refine lv_aload_n hx hb zd_LassoFinderModel_formula_45 rfl (lv_at hl 1 rfl) ?_
  refine z_get (v := .int (I 5)) hx hb hts hown hK hw zZ12 0 rfl 6 (by decide) zm_299 rfl zd_LassoFinderModel_formula_46 ?_
  refine lv_if_ne (tgt := 54) hx hb zd_LassoFinderModel_formula_49 (by decide) (fun hc18 => ?_) (fun hc18 => ?_)
  · have hok := hok.1 hc18
    refine lv_aload_n hx hb zd_LassoFinderModel_formula_54 rfl (lv_at hl 1 rfl) ?_
    refine lv_iload_n hx hb zd_LassoFinderModel_formula_55 rfl (lv_at hl 0 rfl) ?_
    refine lv_if_eq (tgt := 63) hx hb zd_LassoFinderModel_formula_56 (by decide) (fun hc19 => ?_) (fun hc19 => ?_)
    · have hok := hok.1 hc19
      refine lv_aload_n hx hb zd_LassoFinderModel_formula_63 rfl (lv_at hl 1 rfl) ?_
      refine z_get (v := .int (I 3)) hx hb hts hown hK hw zZ12 0 rfl 4 (by decide) zm_301 rfl zd_LassoFinderModel_formula_64 ?_
      exact wJ_LassoFinderModel_formula_67 G K ad  Post C y0 (I 3) (upd I 1 0) J B D ls H locs hok (lv_sub hl [1, 0] rfl) hw
    · have hok := hok.2 hc19
      refine lv_iconst (v := (-1)) hx hb zd_LassoFinderModel_formula_59 (by decide) ?_
      refine lv_goto (tgt := 67) hx hb zd_LassoFinderModel_formula_60 (by decide) ?_
      exact wJ_LassoFinderModel_formula_67 G K ad  Post C y0 (-1) (upd I 1 0) J B D ls H locs hok (lv_sub hl [1, 0] rfl) hw
  · have hok := hok.2 hc18
    refine lv_iconst (v := 0) hx hb zd_LassoFinderModel_formula_52 (by decide) ?_
    exact z_iret (u := ((upd I 1 0), J, B, D)) hx hb hr hlocks rfl hw [0, 1, 2, 3, 4, 5, 6, 7, 8, 9, 10, 11, 12, 13, 14, 15, 16, 17, 18, 19, 20, 21, 22, 23, 24, 25, 26, 27, 28, 29, 30, 31, 32, 33, 34, 35, 36, 37, 38, 39, 40, 41, 42, 43, 44, 45, 46, 47, 48, 49, 50, 51, 52, 53, 54, 55, 56, 57] rfl (by decide) hok (Nat.le_of_ble_eq_true rfl) (Nat.le_of_ble_eq_true rfl) zd_LassoFinderModel_formula_53
set_option maxHeartbeats 8000000 in
set_option maxRecDepth 100000 in
theorem wJ_LassoFinderModel_formula_38 {p : Program} {l : Launch} {e : Env} {s : State} {m : MethodId} {below : List Frame} {meth : Method} {c : Code} {A : Nat → Prop} (G : va_G) (K : Nat → ClassId) (ad : Nat → Nat) (Post : Int32 → (Nat → Int32) → (Nat → Int64) → (Nat → Nat → Int32) → (Nat → Nat → Int64) → Prop) (C : zCx p s m ([.ref (ad 0)] : List Value).toArray meth c A G K prog_14_method_50_code (some .int) 5 "LassoFinderModel") : ∀  (I : Nat → Int32) (J : Nat → Int64) (B : Nat → Nat → Int32) (D : Nat → Nat → Int64) (ls : Array Slot) (H : Heap) (locs : List Loc), wc_LassoFinderModel_formula_38  Post  I J B D → lv_has ls 5 [(0, .ref (ad 0))] → zW G A s.heap (wM ad K I J B D) H locs → W p l e { frames := 5, cells := 0, slots := 0, locals := 119 } s m ([.ref (ad 0)] : List Value).toArray below meth c H locs 0 0 (MQ below (va_Qi (fun (r : Int32) (u : zS) => Post r u.1 u.2.1 u.2.2.1 u.2.2.2) (fun u t => zPost G K A (wM ad K u.1 u.2.1 u.2.2.1 u.2.2.2) t) A) ([.ref (ad 0)] : List Value).toArray s 0 0 A) (F0 m 38 ls []) := by
  obtain ⟨hx, hb, hr, hml, hts, hown, hlocks, hA, hK⟩ := id C
  intro  I J B D ls H locs hok hl hw
  unfold wc_LassoFinderModel_formula_38 at hok
  refine lv_iconst (v := 0) hx hb zd_LassoFinderModel_formula_38 (by decide) ?_
  exact wJ_LassoFinderModel_formula_39 G K ad  Post C 0 I J B D ls H locs hok (lv_sub hl [0] rfl) hw
set_option maxHeartbeats 8000000 in
set_option maxRecDepth 100000 in
theorem w_LassoFinderModel_formula (l : Launch) (G : va_G) (K : Nat → ClassId) (ad : Nat → Nat) (I : Nat → Int32) (J : Nat → Int64) (B : Nat → Nat → Int32) (D : Nat → Nat → Int64) (Post : Int32 → (Nat → Int32) → (Nat → Int64) → (Nat → Nat → Int32) → (Nat → Nat → Int64) → Prop) (sz : Nat) (hok : wp_LassoFinderModel_formula I J B D  Post) : Met l zy_LassoFinderModel_formula (Cond.code zy_LassoFinderModel_formula prog_14_method_50_code 5 (some .int) :: zTB) { frames := 5, cells := 0, slots := 0, locals := 119 } (va_Pc [.ref (ad 0)] (zPre G K (wM ad K I J B D) sz)) (va_Qi (fun (r : Int32) (u : zS) => Post r u.1 u.2.1 u.2.2.1 u.2.2.2) (fun u t => zPost G K (va_A (wM ad K I J B D) sz) (wM ad K u.1 u.2.1 u.2.2.1 u.2.2.2) t) (va_A (wM ad K I J B D) sz)) 0 0 (va_A (wM ad K I J B D) sz) := by
  refine zMet (y := zy_LassoFinderModel_formula) (av := [.ref (ad 0)]) (maxL := 5) (cc := prog_14_method_50_code) (ret := (some .int)) (W0 := (wM ad K I J B D)) (sz := sz) (G := G) (K := K) (wt := zTB) (mc := 0) (ms := 0) (Qf := fun A => va_Qi (fun (r : Int32) (u : zS) => Post r u.1 u.2.1 u.2.2.1 u.2.2.2) (fun u t => zPost G K A (wM ad K u.1 u.2.1 u.2.2.1 u.2.2.2) t) A) (by decide) (Nat.le_of_ble_eq_true rfl) ?_
  intro p e s m below meth c ls A hx hb hr hml hts hown hlocks hin hA hK H locs hw hsz hl
  clear hsz
  have hown : s.vm.findClass "LassoFinderModel" = some m.cls := hown
  have C : zCx p s m ([.ref (ad 0)] : List Value).toArray meth c A G K prog_14_method_50_code (some .int) 5 "LassoFinderModel" := ⟨hx, hb, hr, hml, hts, hown, hlocks, hA, hK⟩
  have hl : lv_has ls 5 [(0, .ref (ad 0))] := hl
  have hw : zW G A s.heap (wM ad K I J B D) H locs := hw
  unfold wp_LassoFinderModel_formula at hok
  refine lv_aload_n hx hb zd_LassoFinderModel_formula_0 rfl (lv_at hl 0 rfl) ?_
  refine lv_iconst (v := 0) hx hb zd_LassoFinderModel_formula_1 (by decide) ?_
  refine z_put (v := .int 0) hx hb hts hown hK hw zZ12 0 rfl 61 (by decide) zm_329 rfl rfl rfl (Nat.le_of_ble_eq_true rfl) zd_LassoFinderModel_formula_2 (fun H locs hw => ?_)
  have hw : zW G A s.heap (wM ad K (upd I 18 0) J B D) H locs := hw
  refine lv_aload_n hx hb zd_LassoFinderModel_formula_5 rfl (lv_at hl 0 rfl) ?_
  refine lv_iconst (v := (-1)) hx hb zd_LassoFinderModel_formula_6 (by decide) ?_
  refine z_put (v := .int (-1)) hx hb hts hown hK hw zZ12 0 rfl 78 (by decide) zm_330 rfl rfl rfl (Nat.le_of_ble_eq_true rfl) zd_LassoFinderModel_formula_7 (fun H locs hw => ?_)
  have hw : zW G A s.heap (wM ad K (upd (upd I 18 0) 24 (-1)) J B D) H locs := hw
  refine lv_aload_n hx hb zd_LassoFinderModel_formula_10 rfl (lv_at hl 0 rfl) ?_
  refine lv_iconst (v := (-1)) hx hb zd_LassoFinderModel_formula_11 (by decide) ?_
  refine z_put (v := .int (-1)) hx hb hts hown hK hw zZ12 0 rfl 5 (by decide) zm_328 rfl rfl rfl (Nat.le_of_ble_eq_true rfl) zd_LassoFinderModel_formula_12 (fun H locs hw => ?_)
  have hw : zW G A s.heap (wM ad K (upd (upd (upd I 18 0) 24 (-1)) 4 (-1)) J B D) H locs := hw
  refine lv_aload_n hx hb zd_LassoFinderModel_formula_15 rfl (lv_at hl 0 rfl) ?_
  refine lv_iconst (v := 1) hx hb zd_LassoFinderModel_formula_16 (by decide) ?_
  refine z_put (v := .int 1) hx hb hts hown hK hw zZ12 0 rfl 0 (by decide) zm_292 rfl rfl rfl (Nat.le_of_ble_eq_true rfl) zd_LassoFinderModel_formula_17 (fun H locs hw => ?_)
  have hw : zW G A s.heap (wM ad K (upd (upd (upd (upd I 18 0) 24 (-1)) 4 (-1)) 0 1) J B D) H locs := hw
  refine lv_aload_n hx hb zd_LassoFinderModel_formula_20 rfl (lv_at hl 0 rfl) ?_
  refine z_get (v := .int (I 5)) hx hb hts hown hK hw zZ12 0 rfl 6 (by decide) zm_299 rfl zd_LassoFinderModel_formula_21 ?_
  refine lv_if_eq (tgt := 38) hx hb zd_LassoFinderModel_formula_24 (by decide) (fun hc20 => ?_) (fun hc20 => ?_)
  · have hok := hok.1 hc20
    exact wJ_LassoFinderModel_formula_38 G K ad  Post C (upd (upd (upd (upd I 18 0) 24 (-1)) 4 (-1)) 0 1) J B D ls H locs hok (lv_sub hl [0] rfl) hw
  · have hok := hok.2 hc20
    refine lv_aload_n hx hb zd_LassoFinderModel_formula_27 rfl (lv_at hl 0 rfl) ?_
    refine z_calli (w1 := fun (u : zS) => wM ad K u.1 u.2.1 u.2.2.1 u.2.2.2) (wr := []) (z_runV (q0 := 0) (wc := (wM ad K (upd (upd (upd (upd I 18 0) 24 (-1)) 4 (-1)) 0 1) J B D)) (As := []) (rest := []) ⟨hx, hb, hml, hown, hts⟩ (w_LassoFinderModel_wholeFormula l G K ad (upd (upd (upd (upd I 18 0) 24 (-1)) 4 (-1)) 0 1) J B D  _ H.size hok) zf_LassoFinderModel_wholeFormula zm_352 ⟨Nat.le_of_ble_eq_true rfl, Nat.le_of_ble_eq_true rfl⟩ hK hw [0, 1, 2, 3, 4, 5, 6, 7, 8, 9, 10, 11, 12, 13, 14, 15, 16, 17, 18, 19, 20, 21, 22, 23, 24, 25, 26, 27, 28, 29, 30, 31, 32, 33, 34, 35, 36, 37, 38, 39, 40, 41, 42, 43, 44, 45, 46, 47, 48, 49, 50, 51, 52, 53, 54, 55, 56, 57] rfl (by decide) rfl rfl rfl hl.1 rfl (Nat.le_of_ble_eq_true rfl) zd_LassoFinderModel_formula_28 ⟨Nat.le_of_ble_eq_true rfl, Nat.le_of_ble_eq_true rfl⟩) hw hA [0, 1, 2, 3, 4, 5, 6, 7, 8, 9, 10, 11, 12, 13, 14, 15, 16, 17, 18, 19, 20, 21, 22, 23, 24, 25, 26, 27, 28, 29, 30, 31, 32, 33, 34, 35, 36, 37, 38, 39, 40, 41, 42, 43, 44, 45, 46, 47, 48, 49, 50, 51, 52, 53, 54, 55, 56, 57] [] rfl rfl (by decide) (by decide) (fun r21 u H locs hok hw => ?_)
    obtain ⟨I21, J21, B21, D21⟩ := u
    dsimp only at hok
    have hw : zW G A s.heap (wM ad K I21 J21 B21 D21) H locs := hw
    refine lv_if_eq (tgt := 38) hx hb zd_LassoFinderModel_formula_31 (by decide) (fun hc22 => ?_) (fun hc22 => ?_)
    · have hok := hok.1 hc22
      exact wJ_LassoFinderModel_formula_38 G K ad  Post C I21 J21 B21 D21 ls H locs hok (lv_sub hl [0] rfl) hw
    · have hok := hok.2 hc22
      refine lv_iconst (v := 1) hx hb zd_LassoFinderModel_formula_34 (by decide) ?_
      refine lv_goto (tgt := 39) hx hb zd_LassoFinderModel_formula_35 (by decide) ?_
      exact wJ_LassoFinderModel_formula_39 G K ad  Post C 1 I21 J21 B21 D21 ls H locs hok (lv_sub hl [0] rfl) hw
