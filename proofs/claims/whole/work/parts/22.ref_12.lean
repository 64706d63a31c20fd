abbrev zy_LassoFinderModel_formula : MethodName := ⟨"LassoFinderModel", "formula", "()I"⟩
abbrev zy_LassoFinderModel_truthAt : MethodName := ⟨"LassoFinderModel", "truthAt", "(II)I"⟩
abbrev zy_LassoFinderModel_before : MethodName := ⟨"LassoFinderModel", "before", "(IIII)I"⟩
abbrev zy_LassoFinderModel_away : MethodName := ⟨"LassoFinderModel", "away", "(I)I"⟩
abbrev zy_LassoFinderModel_keep : MethodName := ⟨"LassoFinderModel", "keep", "([III)V"⟩
abbrev zy_LassoFinderModel_stepOf : MethodName := ⟨"LassoFinderModel", "stepOf", "([II)I"⟩
theorem zm_285 : Cond.fieldLink "LassoFinderModel" 166 "LassoFinderModel" "look" "[I" ∈ zTB := z_in (zt_6 _ (List.mem_of_getElem? (i := 168) rfl)) rfl
theorem zm_288 : Cond.fieldLink "LassoFinderModel" 175 "LassoFinderModel" "far" "[I" ∈ zTB := z_in (zt_6 _ (List.mem_of_getElem? (i := 171) rfl)) rfl
theorem zm_352 : Cond.methodLink "LassoFinderModel" 406 ⟨"LassoFinderModel", "wholeFormula", "()Z"⟩ ∈ zTB := z_in (zt_8 _ (List.mem_of_getElem? (i := 28) rfl)) rfl
theorem zm_354 : Cond.methodLink "LassoFinderModel" 409 ⟨"LassoFinderModel", "holdsAt", "(I)Z"⟩ ∈ zTB := z_in (zt_8 _ (List.mem_of_getElem? (i := 55) rfl)) rfl
theorem zm_355 : Cond.methodLink "LassoFinderModel" 412 ⟨"LassoFinderModel", "looked", "(II)I"⟩ ∈ zTB := z_in (zt_8 _ (List.mem_of_getElem? (i := 59) rfl)) rfl
theorem zm_377 : Cond.methodLink "LassoFinderModel" 415 ⟨"LassoFinderModel", "before", "(IIII)I"⟩ ∈ zTB := z_in (zt_8 _ (List.mem_of_getElem? (i := 91) rfl)) rfl
theorem zm_464 : Cond.code ⟨"LassoFinderModel", "looked", "(II)I"⟩ prog_14_method_49_code 10 (some .int) ∈ zTB := z_in (zt_8 _ (List.mem_of_getElem? (i := 62) rfl)) rfl
theorem zm_465 : Cond.instanceMethod ⟨"LassoFinderModel", "looked", "(II)I"⟩ ∈ zTB := z_in (zt_8 _ (List.mem_of_getElem? (i := 61) rfl)) rfl
theorem zm_466 : Cond.code ⟨"LassoFinderModel", "holdsAt", "(I)Z"⟩ prog_14_method_48_code 2 (some .boolean) ∈ zTB := z_in (zt_8 _ (List.mem_of_getElem? (i := 58) rfl)) rfl
theorem zm_467 : Cond.instanceMethod ⟨"LassoFinderModel", "holdsAt", "(I)Z"⟩ ∈ zTB := z_in (zt_8 _ (List.mem_of_getElem? (i := 57) rfl)) rfl
theorem zm_468 : Cond.code ⟨"LassoFinderModel", "wholeFormula", "()Z"⟩ prog_14_method_47_code 5 (some .boolean) ∈ zTB := z_in (zt_8 _ (List.mem_of_getElem? (i := 31) rfl)) rfl
theorem zm_469 : Cond.instanceMethod ⟨"LassoFinderModel", "wholeFormula", "()Z"⟩ ∈ zTB := z_in (zt_8 _ (List.mem_of_getElem? (i := 30) rfl)) rfl
theorem zm_470 : Cond.code ⟨"LassoFinderModel", "before", "(IIII)I"⟩ prog_14_method_51_code 6 (some .int) ∈ zTB := z_in (zt_8 _ (List.mem_of_getElem? (i := 94) rfl)) rfl
theorem zm_471 : Cond.instanceMethod ⟨"LassoFinderModel", "before", "(IIII)I"⟩ ∈ zTB := z_in (zt_8 _ (List.mem_of_getElem? (i := 93) rfl)) rfl
theorem zf_LassoFinderModel_looked : zFaceV zy_LassoFinderModel_looked prog_14_method_49_code 10 (some .int) 2 := ⟨zm_465, (z_in (zp_8 _ (List.mem_of_getElem? (i := 0) rfl)) rfl), zm_25, zm_464, by decide +kernel, by decide +kernel, by decide +kernel⟩
theorem zf_LassoFinderModel_holdsAt : zFaceV zy_LassoFinderModel_holdsAt prog_14_method_48_code 2 (some .boolean) 1 := ⟨zm_467, (z_in (zp_7 _ (List.mem_of_getElem? (i := 15) rfl)) rfl), zm_25, zm_466, by decide +kernel, by decide +kernel, by decide +kernel⟩
theorem zf_LassoFinderModel_wholeFormula : zFaceV zy_LassoFinderModel_wholeFormula prog_14_method_47_code 5 (some .boolean) 0 := ⟨zm_469, (z_in (zp_7 _ (List.mem_of_getElem? (i := 9) rfl)) rfl), zm_25, zm_468, by decide +kernel, by decide +kernel, by decide +kernel⟩
theorem zf_LassoFinderModel_before : zFaceV zy_LassoFinderModel_before prog_14_method_51_code 6 (some .int) 4 := ⟨zm_471, (z_in (zp_8 _ (List.mem_of_getElem? (i := 7) rfl)) rfl), zm_25, zm_470, by decide +kernel, by decide +kernel, by decide +kernel⟩
theorem zd_LassoFinderModel_away_0 : decode prog_14_method_55_code 0 = .ok (.aload_n 0, 1) := by decide +kernel
theorem zd_LassoFinderModel_away_1 : decode prog_14_method_55_code 1 = .ok (.getfield 175, 3) := by decide +kernel
theorem zd_LassoFinderModel_away_4 : decode prog_14_method_55_code 4 = .ok (.iload_n 1, 1) := by decide +kernel
theorem zd_LassoFinderModel_away_5 : decode prog_14_method_55_code 5 = .ok (.iaload, 1) := by decide +kernel
theorem zd_LassoFinderModel_away_6 : decode prog_14_method_55_code 6 = .ok (.ifCond .ge 7, 3) := by decide +kernel
theorem zd_LassoFinderModel_away_9 : decode prog_14_method_55_code 9 = .ok (.iconst (-1), 1) := by decide +kernel
theorem zd_LassoFinderModel_away_10 : decode prog_14_method_55_code 10 = .ok (.goto 13, 3) := by decide +kernel
theorem zd_LassoFinderModel_away_13 : decode prog_14_method_55_code 13 = .ok (.aload_n 0, 1) := by decide +kernel
theorem zd_LassoFinderModel_away_14 : decode prog_14_method_55_code 14 = .ok (.getfield 175, 3) := by decide +kernel
theorem zd_LassoFinderModel_away_17 : decode prog_14_method_55_code 17 = .ok (.iload_n 1, 1) := by decide +kernel
theorem zd_LassoFinderModel_away_18 : decode prog_14_method_55_code 18 = .ok (.iaload, 1) := by decide +kernel
theorem zd_LassoFinderModel_away_19 : decode prog_14_method_55_code 19 = .ok (.sipush 4095, 3) := by decide +kernel
theorem zd_LassoFinderModel_away_22 : decode prog_14_method_55_code 22 = .ok (.iand, 1) := by decide +kernel
theorem zd_LassoFinderModel_away_23 : decode prog_14_method_55_code 23 = .ok (.ireturn, 1) := by decide +kernel
theorem zd_LassoFinderModel_before_0 : decode prog_14_method_51_code 0 = .ok (.aload_n 0, 1) := by decide +kernel
theorem zd_LassoFinderModel_before_1 : decode prog_14_method_51_code 1 = .ok (.getfield 145, 3) := by decide +kernel
theorem zd_LassoFinderModel_before_4 : decode prog_14_method_51_code 4 = .ok (.aload_n 0, 1) := by decide +kernel
theorem zd_LassoFinderModel_before_5 : decode prog_14_method_51_code 5 = .ok (.getfield 151, 3) := by decide +kernel
theorem zd_LassoFinderModel_before_8 : decode prog_14_method_51_code 8 = .ok (.iload_n 1, 1) := by decide +kernel
theorem zd_LassoFinderModel_before_9 : decode prog_14_method_51_code 9 = .ok (.iaload, 1) := by decide +kernel
theorem zd_LassoFinderModel_before_10 : decode prog_14_method_51_code 10 = .ok (.iaload, 1) := by decide +kernel
theorem zd_LassoFinderModel_before_11 : decode prog_14_method_51_code 11 = .ok (.istore 5, 2) := by decide +kernel
theorem zd_LassoFinderModel_before_13 : decode prog_14_method_51_code 13 = .ok (.iload 5, 2) := by decide +kernel
theorem zd_LassoFinderModel_before_15 : decode prog_14_method_51_code 15 = .ok (.bipush 14, 2) := by decide +kernel
theorem zd_LassoFinderModel_before_17 : decode prog_14_method_51_code 17 = .ok (.if_icmp .ne 10, 3) := by decide +kernel
theorem zd_LassoFinderModel_before_20 : decode prog_14_method_51_code 20 = .ok (.iload_n 2, 1) := by decide +kernel
theorem zd_LassoFinderModel_before_21 : decode prog_14_method_51_code 21 = .ok (.iload 4, 2) := by decide +kernel
theorem zd_LassoFinderModel_before_23 : decode prog_14_method_51_code 23 = .ok (.iand, 1) := by decide +kernel
theorem zd_LassoFinderModel_before_24 : decode prog_14_method_51_code 24 = .ok (.goto 39, 3) := by decide +kernel
theorem zd_LassoFinderModel_before_27 : decode prog_14_method_51_code 27 = .ok (.iload 5, 2) := by decide +kernel
theorem zd_LassoFinderModel_before_29 : decode prog_14_method_51_code 29 = .ok (.bipush 15, 2) := by decide +kernel
theorem zd_LassoFinderModel_before_31 : decode prog_14_method_51_code 31 = .ok (.if_icmp .ne 10, 3) := by decide +kernel
theorem zd_LassoFinderModel_before_34 : decode prog_14_method_51_code 34 = .ok (.iload_n 2, 1) := by decide +kernel
theorem zd_LassoFinderModel_before_35 : decode prog_14_method_51_code 35 = .ok (.iload 4, 2) := by decide +kernel
theorem zd_LassoFinderModel_before_37 : decode prog_14_method_51_code 37 = .ok (.ior, 1) := by decide +kernel
theorem zd_LassoFinderModel_before_38 : decode prog_14_method_51_code 38 = .ok (.goto 25, 3) := by decide +kernel
theorem zd_LassoFinderModel_before_41 : decode prog_14_method_51_code 41 = .ok (.iload 5, 2) := by decide +kernel
theorem zd_LassoFinderModel_before_43 : decode prog_14_method_51_code 43 = .ok (.bipush 12, 2) := by decide +kernel
theorem zd_LassoFinderModel_before_45 : decode prog_14_method_51_code 45 = .ok (.if_icmp .ne 12, 3) := by decide +kernel
theorem zd_LassoFinderModel_before_48 : decode prog_14_method_51_code 48 = .ok (.iload_n 3, 1) := by decide +kernel
theorem zd_LassoFinderModel_before_49 : decode prog_14_method_51_code 49 = .ok (.iload_n 2, 1) := by decide +kernel
theorem zd_LassoFinderModel_before_50 : decode prog_14_method_51_code 50 = .ok (.iload 4, 2) := by decide +kernel
theorem zd_LassoFinderModel_before_52 : decode prog_14_method_51_code 52 = .ok (.iand, 1) := by decide +kernel
theorem zd_LassoFinderModel_before_53 : decode prog_14_method_51_code 53 = .ok (.ior, 1) := by decide +kernel
theorem zd_LassoFinderModel_before_54 : decode prog_14_method_51_code 54 = .ok (.goto 9, 3) := by decide +kernel
theorem zd_LassoFinderModel_before_57 : decode prog_14_method_51_code 57 = .ok (.iload_n 3, 1) := by decide +kernel
theorem zd_LassoFinderModel_before_58 : decode prog_14_method_51_code 58 = .ok (.iload_n 2, 1) := by decide +kernel
theorem zd_LassoFinderModel_before_59 : decode prog_14_method_51_code 59 = .ok (.iload 4, 2) := by decide +kernel
theorem zd_LassoFinderModel_before_61 : decode prog_14_method_51_code 61 = .ok (.ior, 1) := by decide +kernel
theorem zd_LassoFinderModel_before_62 : decode prog_14_method_51_code 62 = .ok (.iand, 1) := by decide +kernel
theorem zd_LassoFinderModel_before_63 : decode prog_14_method_51_code 63 = .ok (.ireturn, 1) := by decide +kernel
theorem zd_LassoFinderModel_formula_0 : decode prog_14_method_50_code 0 = .ok (.aload_n 0, 1) := by decide +kernel
theorem zd_LassoFinderModel_formula_1 : decode prog_14_method_50_code 1 = .ok (.iconst 0, 1) := by decide +kernel
theorem zd_LassoFinderModel_formula_2 : decode prog_14_method_50_code 2 = .ok (.putfield 358, 3) := by decide +kernel
theorem zd_LassoFinderModel_formula_5 : decode prog_14_method_50_code 5 = .ok (.aload_n 0, 1) := by decide +kernel
theorem zd_LassoFinderModel_formula_6 : decode prog_14_method_50_code 6 = .ok (.iconst (-1), 1) := by decide +kernel
theorem zd_LassoFinderModel_formula_7 : decode prog_14_method_50_code 7 = .ok (.putfield 178, 3) := by decide +kernel
theorem zd_LassoFinderModel_formula_10 : decode prog_14_method_50_code 10 = .ok (.aload_n 0, 1) := by decide +kernel
theorem zd_LassoFinderModel_formula_11 : decode prog_14_method_50_code 11 = .ok (.iconst (-1), 1) := by decide +kernel
theorem zd_LassoFinderModel_formula_12 : decode prog_14_method_50_code 12 = .ok (.putfield 13, 3) := by decide +kernel
theorem zd_LassoFinderModel_formula_15 : decode prog_14_method_50_code 15 = .ok (.aload_n 0, 1) := by decide +kernel
theorem zd_LassoFinderModel_formula_16 : decode prog_14_method_50_code 16 = .ok (.iconst 1, 1) := by decide +kernel
theorem zd_LassoFinderModel_formula_17 : decode prog_14_method_50_code 17 = .ok (.putfield 193, 3) := by decide +kernel
theorem zd_LassoFinderModel_formula_20 : decode prog_14_method_50_code 20 = .ok (.aload_n 0, 1) := by decide +kernel
theorem zd_LassoFinderModel_formula_21 : decode prog_14_method_50_code 21 = .ok (.getfield 361, 3) := by decide +kernel
theorem zd_LassoFinderModel_formula_24 : decode prog_14_method_50_code 24 = .ok (.ifCond .eq 14, 3) := by decide +kernel
theorem zd_LassoFinderModel_formula_27 : decode prog_14_method_50_code 27 = .ok (.aload_n 0, 1) := by decide +kernel
theorem zd_LassoFinderModel_formula_28 : decode prog_14_method_50_code 28 = .ok (.invokevirtual 406, 3) := by decide +kernel
theorem zd_LassoFinderModel_formula_31 : decode prog_14_method_50_code 31 = .ok (.ifCond .eq 7, 3) := by decide +kernel
theorem zd_LassoFinderModel_formula_34 : decode prog_14_method_50_code 34 = .ok (.iconst 1, 1) := by decide +kernel
theorem zd_LassoFinderModel_formula_35 : decode prog_14_method_50_code 35 = .ok (.goto 4, 3) := by decide +kernel
theorem zd_LassoFinderModel_formula_38 : decode prog_14_method_50_code 38 = .ok (.iconst 0, 1) := by decide +kernel
theorem zd_LassoFinderModel_formula_39 : decode prog_14_method_50_code 39 = .ok (.istore_n 1, 1) := by decide +kernel
theorem zd_LassoFinderModel_formula_40 : decode prog_14_method_50_code 40 = .ok (.aload_n 0, 1) := by decide +kernel
theorem zd_LassoFinderModel_formula_41 : decode prog_14_method_50_code 41 = .ok (.iconst 0, 1) := by decide +kernel
theorem zd_LassoFinderModel_formula_42 : decode prog_14_method_50_code 42 = .ok (.putfield 200, 3) := by decide +kernel
theorem zd_LassoFinderModel_formula_45 : decode prog_14_method_50_code 45 = .ok (.aload_n 0, 1) := by decide +kernel
theorem zd_LassoFinderModel_formula_46 : decode prog_14_method_50_code 46 = .ok (.getfield 361, 3) := by decide +kernel
theorem zd_LassoFinderModel_formula_49 : decode prog_14_method_50_code 49 = .ok (.ifCond .ne 5, 3) := by decide +kernel
theorem zd_LassoFinderModel_formula_52 : decode prog_14_method_50_code 52 = .ok (.iconst 0, 1) := by decide +kernel
theorem zd_LassoFinderModel_formula_53 : decode prog_14_method_50_code 53 = .ok (.ireturn, 1) := by decide +kernel
theorem zd_LassoFinderModel_formula_54 : decode prog_14_method_50_code 54 = .ok (.aload_n 0, 1) := by decide +kernel
theorem zd_LassoFinderModel_formula_55 : decode prog_14_method_50_code 55 = .ok (.iload_n 1, 1) := by decide +kernel
theorem zd_LassoFinderModel_formula_56 : decode prog_14_method_50_code 56 = .ok (.ifCond .eq 7, 3) := by decide +kernel
theorem zd_LassoFinderModel_formula_59 : decode prog_14_method_50_code 59 = .ok (.iconst (-1), 1) := by decide +kernel
theorem zd_LassoFinderModel_formula_60 : decode prog_14_method_50_code 60 = .ok (.goto 7, 3) := by decide +kernel
theorem zd_LassoFinderModel_formula_63 : decode prog_14_method_50_code 63 = .ok (.aload_n 0, 1) := by decide +kernel
theorem zd_LassoFinderModel_formula_64 : decode prog_14_method_50_code 64 = .ok (.getfield 206, 3) := by decide +kernel
theorem zd_LassoFinderModel_formula_67 : decode prog_14_method_50_code 67 = .ok (.putfield 13, 3) := by decide +kernel
theorem zd_LassoFinderModel_formula_70 : decode prog_14_method_50_code 70 = .ok (.aload_n 0, 1) := by decide +kernel
theorem zd_LassoFinderModel_formula_71 : decode prog_14_method_50_code 71 = .ok (.iload_n 1, 1) := by decide +kernel
theorem zd_LassoFinderModel_formula_72 : decode prog_14_method_50_code 72 = .ok (.ifCond .eq 7, 3) := by decide +kernel
theorem zd_LassoFinderModel_formula_75 : decode prog_14_method_50_code 75 = .ok (.iconst 0, 1) := by decide +kernel
theorem zd_LassoFinderModel_formula_76 : decode prog_14_method_50_code 76 = .ok (.goto 4, 3) := by decide +kernel
theorem zd_LassoFinderModel_formula_79 : decode prog_14_method_50_code 79 = .ok (.iconst 2, 1) := by decide +kernel
theorem zd_LassoFinderModel_formula_80 : decode prog_14_method_50_code 80 = .ok (.putfield 193, 3) := by decide +kernel
theorem zd_LassoFinderModel_formula_83 : decode prog_14_method_50_code 83 = .ok (.iload_n 1, 1) := by decide +kernel
theorem zd_LassoFinderModel_formula_84 : decode prog_14_method_50_code 84 = .ok (.ifCond .ne 5, 3) := by decide +kernel
theorem zd_LassoFinderModel_formula_87 : decode prog_14_method_50_code 87 = .ok (.iconst 0, 1) := by decide +kernel
theorem zd_LassoFinderModel_formula_88 : decode prog_14_method_50_code 88 = .ok (.ireturn, 1) := by decide +kernel
theorem zd_LassoFinderModel_formula_89 : decode prog_14_method_50_code 89 = .ok (.iconst 0, 1) := by decide +kernel
theorem zd_LassoFinderModel_formula_90 : decode prog_14_method_50_code 90 = .ok (.istore_n 2, 1) := by decide +kernel
theorem zd_LassoFinderModel_formula_91 : decode prog_14_method_50_code 91 = .ok (.iload_n 2, 1) := by decide +kernel
theorem zd_LassoFinderModel_formula_92 : decode prog_14_method_50_code 92 = .ok (.aload_n 0, 1) := by decide +kernel
theorem zd_LassoFinderModel_formula_93 : decode prog_14_method_50_code 93 = .ok (.getfield 345, 3) := by decide +kernel
theorem zd_LassoFinderModel_formula_96 : decode prog_14_method_50_code 96 = .ok (.if_icmp .ge 94, 3) := by decide +kernel
theorem zd_LassoFinderModel_formula_99 : decode prog_14_method_50_code 99 = .ok (.aload_n 0, 1) := by decide +kernel
theorem zd_LassoFinderModel_formula_100 : decode prog_14_method_50_code 100 = .ok (.aload_n 0, 1) := by decide +kernel
theorem zd_LassoFinderModel_formula_101 : decode prog_14_method_50_code 101 = .ok (.getfield 106, 3) := by decide +kernel
theorem zd_LassoFinderModel_formula_104 : decode prog_14_method_50_code 104 = .ok (.iload_n 2, 1) := by decide +kernel
theorem zd_LassoFinderModel_formula_105 : decode prog_14_method_50_code 105 = .ok (.laload, 1) := by decide +kernel
theorem zd_LassoFinderModel_formula_106 : decode prog_14_method_50_code 106 = .ok (.invokevirtual 334, 3) := by decide +kernel
theorem zd_LassoFinderModel_formula_109 : decode prog_14_method_50_code 109 = .ok (.iconst 0, 1) := by decide +kernel
theorem zd_LassoFinderModel_formula_110 : decode prog_14_method_50_code 110 = .ok (.istore_n 3, 1) := by decide +kernel
theorem zd_LassoFinderModel_formula_111 : decode prog_14_method_50_code 111 = .ok (.iconst 0, 1) := by decide +kernel
theorem zd_LassoFinderModel_formula_112 : decode prog_14_method_50_code 112 = .ok (.istore 4, 2) := by decide +kernel
theorem zd_LassoFinderModel_formula_114 : decode prog_14_method_50_code 114 = .ok (.iload 4, 2) := by decide +kernel
theorem zd_LassoFinderModel_formula_116 : decode prog_14_method_50_code 116 = .ok (.aload_n 0, 1) := by decide +kernel
theorem zd_LassoFinderModel_formula_117 : decode prog_14_method_50_code 117 = .ok (.getfield 388, 3) := by decide +kernel
theorem zd_LassoFinderModel_formula_120 : decode prog_14_method_50_code 120 = .ok (.if_icmp .ge 29, 3) := by decide +kernel
theorem zd_LassoFinderModel_formula_123 : decode prog_14_method_50_code 123 = .ok (.iload_n 3, 1) := by decide +kernel
theorem zd_LassoFinderModel_formula_124 : decode prog_14_method_50_code 124 = .ok (.aload_n 0, 1) := by decide +kernel
theorem zd_LassoFinderModel_formula_125 : decode prog_14_method_50_code 125 = .ok (.iload 4, 2) := by decide +kernel
theorem zd_LassoFinderModel_formula_127 : decode prog_14_method_50_code 127 = .ok (.invokevirtual 409, 3) := by decide +kernel
theorem zd_LassoFinderModel_formula_130 : decode prog_14_method_50_code 130 = .ok (.ifCond .eq 10, 3) := by decide +kernel
theorem zd_LassoFinderModel_formula_133 : decode prog_14_method_50_code 133 = .ok (.iconst 1, 1) := by decide +kernel
theorem zd_LassoFinderModel_formula_134 : decode prog_14_method_50_code 134 = .ok (.iload 4, 2) := by decide +kernel
theorem zd_LassoFinderModel_formula_136 : decode prog_14_method_50_code 136 = .ok (.ishl, 1) := by decide +kernel
theorem zd_LassoFinderModel_formula_137 : decode prog_14_method_50_code 137 = .ok (.goto 4, 3) := by decide +kernel
theorem zd_LassoFinderModel_formula_140 : decode prog_14_method_50_code 140 = .ok (.iconst 0, 1) := by decide +kernel
theorem zd_LassoFinderModel_formula_141 : decode prog_14_method_50_code 141 = .ok (.ior, 1) := by decide +kernel
theorem zd_LassoFinderModel_formula_142 : decode prog_14_method_50_code 142 = .ok (.istore_n 3, 1) := by decide +kernel
theorem zd_LassoFinderModel_formula_143 : decode prog_14_method_50_code 143 = .ok (.iinc 4 1, 3) := by decide +kernel
theorem zd_LassoFinderModel_formula_146 : decode prog_14_method_50_code 146 = .ok (.goto (-32), 3) := by decide +kernel
theorem zd_LassoFinderModel_formula_149 : decode prog_14_method_50_code 149 = .ok (.iconst 0, 1) := by decide +kernel
theorem zd_LassoFinderModel_formula_150 : decode prog_14_method_50_code 150 = .ok (.istore 4, 2) := by decide +kernel
theorem zd_LassoFinderModel_formula_152 : decode prog_14_method_50_code 152 = .ok (.iload 4, 2) := by decide +kernel
theorem zd_LassoFinderModel_formula_154 : decode prog_14_method_50_code 154 = .ok (.bipush 8, 2) := by decide +kernel
theorem zd_LassoFinderModel_formula_156 : decode prog_14_method_50_code 156 = .ok (.if_icmp .ge 28, 3) := by decide +kernel
theorem zd_LassoFinderModel_formula_159 : decode prog_14_method_50_code 159 = .ok (.aload_n 0, 1) := by decide +kernel
theorem zd_LassoFinderModel_formula_160 : decode prog_14_method_50_code 160 = .ok (.getfield 166, 3) := by decide +kernel
theorem zd_LassoFinderModel_formula_163 : decode prog_14_method_50_code 163 = .ok (.bipush 8, 2) := by decide +kernel
theorem zd_LassoFinderModel_formula_165 : decode prog_14_method_50_code 165 = .ok (.iload_n 2, 1) := by decide +kernel
theorem zd_LassoFinderModel_formula_166 : decode prog_14_method_50_code 166 = .ok (.imul, 1) := by decide +kernel
theorem zd_LassoFinderModel_formula_167 : decode prog_14_method_50_code 167 = .ok (.iload 4, 2) := by decide +kernel
theorem zd_LassoFinderModel_formula_169 : decode prog_14_method_50_code 169 = .ok (.iadd, 1) := by decide +kernel
theorem zd_LassoFinderModel_formula_170 : decode prog_14_method_50_code 170 = .ok (.aload_n 0, 1) := by decide +kernel
theorem zd_LassoFinderModel_formula_171 : decode prog_14_method_50_code 171 = .ok (.iload_n 3, 1) := by decide +kernel
theorem zd_LassoFinderModel_formula_172 : decode prog_14_method_50_code 172 = .ok (.iload 4, 2) := by decide +kernel
theorem zd_LassoFinderModel_formula_174 : decode prog_14_method_50_code 174 = .ok (.invokevirtual 412, 3) := by decide +kernel
theorem zd_LassoFinderModel_formula_177 : decode prog_14_method_50_code 177 = .ok (.iastore, 1) := by decide +kernel
theorem zd_LassoFinderModel_formula_178 : decode prog_14_method_50_code 178 = .ok (.iinc 4 1, 3) := by decide +kernel
theorem zd_LassoFinderModel_formula_181 : decode prog_14_method_50_code 181 = .ok (.goto (-29), 3) := by decide +kernel
theorem zd_LassoFinderModel_formula_184 : decode prog_14_method_50_code 184 = .ok (.iinc 2 1, 3) := by decide +kernel
theorem zd_LassoFinderModel_formula_187 : decode prog_14_method_50_code 187 = .ok (.goto (-96), 3) := by decide +kernel
theorem zd_LassoFinderModel_formula_190 : decode prog_14_method_50_code 190 = .ok (.aload_n 0, 1) := by decide +kernel
theorem zd_LassoFinderModel_formula_191 : decode prog_14_method_50_code 191 = .ok (.iconst 1, 1) := by decide +kernel
theorem zd_LassoFinderModel_formula_192 : decode prog_14_method_50_code 192 = .ok (.putfield 358, 3) := by decide +kernel
theorem zd_LassoFinderModel_formula_195 : decode prog_14_method_50_code 195 = .ok (.aload_n 0, 1) := by decide +kernel
theorem zd_LassoFinderModel_formula_196 : decode prog_14_method_50_code 196 = .ok (.getfield 376, 3) := by decide +kernel
theorem zd_LassoFinderModel_formula_199 : decode prog_14_method_50_code 199 = .ok (.ireturn, 1) := by decide +kernel
theorem zd_LassoFinderModel_keep_0 : decode prog_14_method_59_code 0 = .ok (.bipush 9, 2) := by decide +kernel
theorem zd_LassoFinderModel_keep_2 : decode prog_14_method_59_code 2 = .ok (.iload_n 1, 1) := by decide +kernel
theorem zd_LassoFinderModel_keep_3 : decode prog_14_method_59_code 3 = .ok (.iconst 3, 1) := by decide +kernel
theorem zd_LassoFinderModel_keep_4 : decode prog_14_method_59_code 4 = .ok (.irem, 1) := by decide +kernel
theorem zd_LassoFinderModel_keep_5 : decode prog_14_method_59_code 5 = .ok (.imul, 1) := by decide +kernel
theorem zd_LassoFinderModel_keep_6 : decode prog_14_method_59_code 6 = .ok (.istore_n 3, 1) := by decide +kernel
theorem zd_LassoFinderModel_keep_7 : decode prog_14_method_59_code 7 = .ok (.aload_n 0, 1) := by decide +kernel
theorem zd_LassoFinderModel_keep_8 : decode prog_14_method_59_code 8 = .ok (.iload_n 1, 1) := by decide +kernel
theorem zd_LassoFinderModel_keep_9 : decode prog_14_method_59_code 9 = .ok (.iconst 3, 1) := by decide +kernel
theorem zd_LassoFinderModel_keep_10 : decode prog_14_method_59_code 10 = .ok (.idiv, 1) := by decide +kernel
theorem zd_LassoFinderModel_keep_11 : decode prog_14_method_59_code 11 = .ok (.aload_n 0, 1) := by decide +kernel
theorem zd_LassoFinderModel_keep_12 : decode prog_14_method_59_code 12 = .ok (.iload_n 1, 1) := by decide +kernel
theorem zd_LassoFinderModel_keep_13 : decode prog_14_method_59_code 13 = .ok (.iconst 3, 1) := by decide +kernel
theorem zd_LassoFinderModel_keep_14 : decode prog_14_method_59_code 14 = .ok (.idiv, 1) := by decide +kernel
theorem zd_LassoFinderModel_keep_15 : decode prog_14_method_59_code 15 = .ok (.iaload, 1) := by decide +kernel
theorem zd_LassoFinderModel_keep_16 : decode prog_14_method_59_code 16 = .ok (.sipush 511, 3) := by decide +kernel
theorem zd_LassoFinderModel_keep_19 : decode prog_14_method_59_code 19 = .ok (.iload_n 3, 1) := by decide +kernel
theorem zd_LassoFinderModel_keep_20 : decode prog_14_method_59_code 20 = .ok (.ishl, 1) := by decide +kernel
theorem zd_LassoFinderModel_keep_21 : decode prog_14_method_59_code 21 = .ok (.iconst (-1), 1) := by decide +kernel
theorem zd_LassoFinderModel_keep_22 : decode prog_14_method_59_code 22 = .ok (.ixor, 1) := by decide +kernel
theorem zd_LassoFinderModel_keep_23 : decode prog_14_method_59_code 23 = .ok (.iand, 1) := by decide +kernel
theorem zd_LassoFinderModel_keep_24 : decode prog_14_method_59_code 24 = .ok (.iload_n 2, 1) := by decide +kernel
theorem zd_LassoFinderModel_keep_25 : decode prog_14_method_59_code 25 = .ok (.iload_n 3, 1) := by decide +kernel
theorem zd_LassoFinderModel_keep_26 : decode prog_14_method_59_code 26 = .ok (.ishl, 1) := by decide +kernel
theorem zd_LassoFinderModel_keep_27 : decode prog_14_method_59_code 27 = .ok (.ior, 1) := by decide +kernel
theorem zd_LassoFinderModel_keep_28 : decode prog_14_method_59_code 28 = .ok (.iastore, 1) := by decide +kernel
theorem zd_LassoFinderModel_keep_29 : decode prog_14_method_59_code 29 = .ok (.return_, 1) := by decide +kernel
theorem zd_LassoFinderModel_stepOf_0 : decode prog_14_method_58_code 0 = .ok (.aload_n 0, 1) := by decide +kernel
theorem zd_LassoFinderModel_stepOf_1 : decode prog_14_method_58_code 1 = .ok (.iload_n 1, 1) := by decide +kernel
theorem zd_LassoFinderModel_stepOf_2 : decode prog_14_method_58_code 2 = .ok (.iconst 3, 1) := by decide +kernel
theorem zd_LassoFinderModel_stepOf_3 : decode prog_14_method_58_code 3 = .ok (.idiv, 1) := by decide +kernel
theorem zd_LassoFinderModel_stepOf_4 : decode prog_14_method_58_code 4 = .ok (.iaload, 1) := by decide +kernel
theorem zd_LassoFinderModel_stepOf_5 : decode prog_14_method_58_code 5 = .ok (.bipush 9, 2) := by decide +kernel
theorem zd_LassoFinderModel_stepOf_7 : decode prog_14_method_58_code 7 = .ok (.iload_n 1, 1) := by decide +kernel
theorem zd_LassoFinderModel_stepOf_8 : decode prog_14_method_58_code 8 = .ok (.iconst 3, 1) := by decide +kernel
theorem zd_LassoFinderModel_stepOf_9 : decode prog_14_method_58_code 9 = .ok (.irem, 1) := by decide +kernel
theorem zd_LassoFinderModel_stepOf_10 : decode prog_14_method_58_code 10 = .ok (.imul, 1) := by decide +kernel
theorem zd_LassoFinderModel_stepOf_11 : decode prog_14_method_58_code 11 = .ok (.ishr, 1) := by decide +kernel
theorem zd_LassoFinderModel_stepOf_12 : decode prog_14_method_58_code 12 = .ok (.sipush 511, 3) := by decide +kernel
theorem zd_LassoFinderModel_stepOf_15 : decode prog_14_method_58_code 15 = .ok (.iand, 1) := by decide +kernel
theorem zd_LassoFinderModel_stepOf_16 : decode prog_14_method_58_code 16 = .ok (.ireturn, 1) := by decide +kernel
theorem zd_LassoFinderModel_truthAt_0 : decode prog_14_method_52_code 0 = .ok (.iconst 0, 1) := by decide +kernel
theorem zd_LassoFinderModel_truthAt_1 : decode prog_14_method_52_code 1 = .ok (.istore_n 3, 1) := by decide +kernel
theorem zd_LassoFinderModel_truthAt_2 : decode prog_14_method_52_code 2 = .ok (.iconst 0, 1) := by decide +kernel
theorem zd_LassoFinderModel_truthAt_3 : decode prog_14_method_52_code 3 = .ok (.istore 4, 2) := by decide +kernel
theorem zd_LassoFinderModel_truthAt_5 : decode prog_14_method_52_code 5 = .ok (.iload 4, 2) := by decide +kernel
theorem zd_LassoFinderModel_truthAt_7 : decode prog_14_method_52_code 7 = .ok (.aload_n 0, 1) := by decide +kernel
theorem zd_LassoFinderModel_truthAt_8 : decode prog_14_method_52_code 8 = .ok (.getfield 376, 3) := by decide +kernel
theorem zd_LassoFinderModel_truthAt_11 : decode prog_14_method_52_code 11 = .ok (.if_icmp .ge 60, 3) := by decide +kernel
theorem zd_LassoFinderModel_truthAt_14 : decode prog_14_method_52_code 14 = .ok (.aload_n 0, 1) := by decide +kernel
theorem zd_LassoFinderModel_truthAt_15 : decode prog_14_method_52_code 15 = .ok (.getfield 166, 3) := by decide +kernel
theorem zd_LassoFinderModel_truthAt_18 : decode prog_14_method_52_code 18 = .ok (.bipush 8, 2) := by decide +kernel
theorem zd_LassoFinderModel_truthAt_20 : decode prog_14_method_52_code 20 = .ok (.iload_n 1, 1) := by decide +kernel
theorem zd_LassoFinderModel_truthAt_21 : decode prog_14_method_52_code 21 = .ok (.imul, 1) := by decide +kernel
theorem zd_LassoFinderModel_truthAt_22 : decode prog_14_method_52_code 22 = .ok (.iload_n 3, 1) := by decide +kernel
theorem zd_LassoFinderModel_truthAt_23 : decode prog_14_method_52_code 23 = .ok (.iadd, 1) := by decide +kernel
theorem zd_LassoFinderModel_truthAt_24 : decode prog_14_method_52_code 24 = .ok (.iaload, 1) := by decide +kernel
theorem zd_LassoFinderModel_truthAt_25 : decode prog_14_method_52_code 25 = .ok (.istore 5, 2) := by decide +kernel
theorem zd_LassoFinderModel_truthAt_27 : decode prog_14_method_52_code 27 = .ok (.iload_n 3, 1) := by decide +kernel
theorem zd_LassoFinderModel_truthAt_28 : decode prog_14_method_52_code 28 = .ok (.aload_n 0, 1) := by decide +kernel
theorem zd_LassoFinderModel_truthAt_29 : decode prog_14_method_52_code 29 = .ok (.iload 4, 2) := by decide +kernel
theorem zd_LassoFinderModel_truthAt_31 : decode prog_14_method_52_code 31 = .ok (.iload 5, 2) := by decide +kernel
theorem zd_LassoFinderModel_truthAt_33 : decode prog_14_method_52_code 33 = .ok (.iconst 2, 1) := by decide +kernel
theorem zd_LassoFinderModel_truthAt_34 : decode prog_14_method_52_code 34 = .ok (.iload 4, 2) := by decide +kernel
theorem zd_LassoFinderModel_truthAt_36 : decode prog_14_method_52_code 36 = .ok (.imul, 1) := by decide +kernel
theorem zd_LassoFinderModel_truthAt_37 : decode prog_14_method_52_code 37 = .ok (.ishr, 1) := by decide +kernel
theorem zd_LassoFinderModel_truthAt_38 : decode prog_14_method_52_code 38 = .ok (.iconst 1, 1) := by decide +kernel
theorem zd_LassoFinderModel_truthAt_39 : decode prog_14_method_52_code 39 = .ok (.iand, 1) := by decide +kernel
theorem zd_LassoFinderModel_truthAt_40 : decode prog_14_method_52_code 40 = .ok (.iload 5, 2) := by decide +kernel
theorem zd_LassoFinderModel_truthAt_42 : decode prog_14_method_52_code 42 = .ok (.iconst 2, 1) := by decide +kernel
theorem zd_LassoFinderModel_truthAt_43 : decode prog_14_method_52_code 43 = .ok (.iload 4, 2) := by decide +kernel
theorem zd_LassoFinderModel_truthAt_45 : decode prog_14_method_52_code 45 = .ok (.imul, 1) := by decide +kernel
theorem zd_LassoFinderModel_truthAt_46 : decode prog_14_method_52_code 46 = .ok (.iconst 1, 1) := by decide +kernel
theorem zd_LassoFinderModel_truthAt_47 : decode prog_14_method_52_code 47 = .ok (.iadd, 1) := by decide +kernel
theorem zd_LassoFinderModel_truthAt_48 : decode prog_14_method_52_code 48 = .ok (.ishr, 1) := by decide +kernel
theorem zd_LassoFinderModel_truthAt_49 : decode prog_14_method_52_code 49 = .ok (.iconst 1, 1) := by decide +kernel
theorem zd_LassoFinderModel_truthAt_50 : decode prog_14_method_52_code 50 = .ok (.iand, 1) := by decide +kernel
theorem zd_LassoFinderModel_truthAt_51 : decode prog_14_method_52_code 51 = .ok (.iload_n 2, 1) := by decide +kernel
theorem zd_LassoFinderModel_truthAt_52 : decode prog_14_method_52_code 52 = .ok (.iload 4, 2) := by decide +kernel
theorem zd_LassoFinderModel_truthAt_54 : decode prog_14_method_52_code 54 = .ok (.ishr, 1) := by decide +kernel
theorem zd_LassoFinderModel_truthAt_55 : decode prog_14_method_52_code 55 = .ok (.iconst 1, 1) := by decide +kernel
theorem zd_LassoFinderModel_truthAt_56 : decode prog_14_method_52_code 56 = .ok (.iand, 1) := by decide +kernel
theorem zd_LassoFinderModel_truthAt_57 : decode prog_14_method_52_code 57 = .ok (.invokevirtual 415, 3) := by decide +kernel
theorem zd_LassoFinderModel_truthAt_60 : decode prog_14_method_52_code 60 = .ok (.iload 4, 2) := by decide +kernel
theorem zd_LassoFinderModel_truthAt_62 : decode prog_14_method_52_code 62 = .ok (.ishl, 1) := by decide +kernel
theorem zd_LassoFinderModel_truthAt_63 : decode prog_14_method_52_code 63 = .ok (.ior, 1) := by decide +kernel
theorem zd_LassoFinderModel_truthAt_64 : decode prog_14_method_52_code 64 = .ok (.istore_n 3, 1) := by decide +kernel
theorem zd_LassoFinderModel_truthAt_65 : decode prog_14_method_52_code 65 = .ok (.iinc 4 1, 3) := by decide +kernel
theorem zd_LassoFinderModel_truthAt_68 : decode prog_14_method_52_code 68 = .ok (.goto (-63), 3) := by decide +kernel
theorem zd_LassoFinderModel_truthAt_71 : decode prog_14_method_52_code 71 = .ok (.iload_n 3, 1) := by decide +kernel
theorem zd_LassoFinderModel_truthAt_72 : decode prog_14_method_52_code 72 = .ok (.ireturn, 1) := by decide +kernel
def wb_LassoFinderModel_formula_152 (K152 : Int32 → Int32 → Int32 → (Nat → Int32) → (Nat → Int64) → (Nat → Nat → Int32) → (Nat → Nat → Int64) → Prop) (K91 : Int32 → (Nat → Int32) → (Nat → Int64) → (Nat → Nat → Int32) → (Nat → Nat → Int64) → Prop) (Post : Int32 → (Nat → Int32) → (Nat → Int64) → (Nat → Nat → Int32) → (Nat → Nat → Int64) → Prop) (x2 : Int32) (x3 : Int32) (x4 : Int32) (I : Nat → Int32) (J : Nat → Int64) (B : Nat → Nat → Int32) (D : Nat → Nat → Int64) : Prop :=
  (((8 : Int32) ≤ x4 → ∀ z2 : Int32, z2 = (x2 + 1) → K91 z2 I J B D) ∧ (¬ (8 : Int32) ≤ x4 → ∀ z3 : Int32, z3 = (8 * x2) → ∀ z4 : Int32, z4 = (z3 + x4) → wp_LassoFinderModel_looked I J B D x3 x4 (fun r5 I5 J5 B5 D5 => vp_in z4 768 ∧ ∀ z6 : Int32, z6 = (x4 + 1) → K152 x2 x3 z6 I5 J5 (va_up B5 48 (upd (B5 48) z4.toNatClampNeg r5)) D5)))
def wl_LassoFinderModel_formula_152 (K91 : Int32 → (Nat → Int32) → (Nat → Int64) → (Nat → Nat → Int32) → (Nat → Nat → Int64) → Prop) (Post : Int32 → (Nat → Int32) → (Nat → Int64) → (Nat → Nat → Int32) → (Nat → Nat → Int64) → Prop) (n : Nat) : Int32 → Int32 → Int32 → (Nat → Int32) → (Nat → Int64) → (Nat → Nat → Int32) → (Nat → Nat → Int64) → Prop := Nat.rec (fun _ _ _ _ _ _ _ => False) (fun _ r => wb_LassoFinderModel_formula_152  r K91 Post) n
def wc_LassoFinderModel_formula_141 (K91 : Int32 → (Nat → Int32) → (Nat → Int64) → (Nat → Nat → Int32) → (Nat → Nat → Int64) → Prop) (K114 : Int32 → Int32 → Int32 → (Nat → Int32) → (Nat → Int64) → (Nat → Nat → Int32) → (Nat → Nat → Int64) → Prop) (Post : Int32 → (Nat → Int32) → (Nat → Int64) → (Nat → Nat → Int32) → (Nat → Nat → Int64) → Prop) (x2 : Int32) (x4 : Int32) (y0 : Int32) (y1 : Int32) (I : Nat → Int32) (J : Nat → Int64) (B : Nat → Nat → Int32) (D : Nat → Nat → Int64) : Prop :=
  ∀ z7 : Int32, z7 = (y1 ||| y0) → ∀ z8 : Int32, z8 = (x4 + 1) → K114 x2 z7 z8 I J B D
def wb_LassoFinderModel_formula_114 (K114 : Int32 → Int32 → Int32 → (Nat → Int32) → (Nat → Int64) → (Nat → Nat → Int32) → (Nat → Nat → Int64) → Prop) (K91 : Int32 → (Nat → Int32) → (Nat → Int64) → (Nat → Nat → Int32) → (Nat → Nat → Int64) → Prop) (Post : Int32 → (Nat → Int32) → (Nat → Int64) → (Nat → Nat → Int32) → (Nat → Nat → Int64) → Prop) (x2 : Int32) (x3 : Int32) (x4 : Int32) (I : Nat → Int32) (J : Nat → Int64) (B : Nat → Nat → Int32) (D : Nat → Nat → Int64) : Prop :=
  (((I 23) ≤ x4 → ∃ n : Nat, wl_LassoFinderModel_formula_152  K91 Post n x2 x3 0 I J B D) ∧ (¬ (I 23) ≤ x4 → wp_LassoFinderModel_holdsAt I J B D x4 (fun r10 I10 J10 B10 D10 => ((r10 = 0 → wc_LassoFinderModel_formula_141  K91 K114 Post x2 x4 0 x3 I10 J10 B10 D10) ∧ (¬ r10 = 0 → ∀ z12 : Int32, z12 = (1 <<< (x4 &&& 31)) → wc_LassoFinderModel_formula_141  K91 K114 Post x2 x4 z12 x3 I10 J10 B10 D10)))))
def wl_LassoFinderModel_formula_114 (K91 : Int32 → (Nat → Int32) → (Nat → Int64) → (Nat → Nat → Int32) → (Nat → Nat → Int64) → Prop) (Post : Int32 → (Nat → Int32) → (Nat → Int64) → (Nat → Nat → Int32) → (Nat → Nat → Int64) → Prop) (n : Nat) : Int32 → Int32 → Int32 → (Nat → Int32) → (Nat → Int64) → (Nat → Nat → Int32) → (Nat → Nat → Int64) → Prop := Nat.rec (fun _ _ _ _ _ _ _ => False) (fun _ r => wb_LassoFinderModel_formula_114  r K91 Post) n
def wb_LassoFinderModel_formula_91 (K91 : Int32 → (Nat → Int32) → (Nat → Int64) → (Nat → Nat → Int32) → (Nat → Nat → Int64) → Prop) (Post : Int32 → (Nat → Int32) → (Nat → Int64) → (Nat → Nat → Int32) → (Nat → Nat → Int64) → Prop) (x2 : Int32) (I : Nat → Int32) (J : Nat → Int64) (B : Nat → Nat → Int32) (D : Nat → Nat → Int64) : Prop :=
  (((I 14) ≤ x2 → Post (I 20) (upd I 18 1) J B D) ∧ (¬ (I 14) ≤ x2 → vp_in x2 97 ∧ ∀ z14 : Int64, z14 = ((D 1) x2.toNatClampNeg) → wp_LassoFinderModel_unpack I J B D z14 (fun I15 J15 B15 D15 => ∃ n : Nat, wl_LassoFinderModel_formula_114  K91 Post n x2 0 0 I15 J15 B15 D15)))
def wl_LassoFinderModel_formula_91 (Post : Int32 → (Nat → Int32) → (Nat → Int64) → (Nat → Nat → Int32) → (Nat → Nat → Int64) → Prop) (n : Nat) : Int32 → (Nat → Int32) → (Nat → Int64) → (Nat → Nat → Int32) → (Nat → Nat → Int64) → Prop := Nat.rec (fun _ _ _ _ _ => False) (fun _ r => wb_LassoFinderModel_formula_91  r Post) n
def wc_LassoFinderModel_formula_80 (Post : Int32 → (Nat → Int32) → (Nat → Int64) → (Nat → Nat → Int32) → (Nat → Nat → Int64) → Prop) (x1 : Int32) (y0 : Int32) (I : Nat → Int32) (J : Nat → Int64) (B : Nat → Nat → Int32) (D : Nat → Nat → Int64) : Prop :=
  ((¬ x1 = 0 → ∃ n : Nat, wl_LassoFinderModel_formula_91  Post n 0 (upd I 0 y0) J B D) ∧ (x1 = 0 → Post 0 (upd I 0 y0) J B D))
def wc_LassoFinderModel_formula_67 (Post : Int32 → (Nat → Int32) → (Nat → Int64) → (Nat → Nat → Int32) → (Nat → Nat → Int64) → Prop) (x1 : Int32) (y0 : Int32) (I : Nat → Int32) (J : Nat → Int64) (B : Nat → Nat → Int32) (D : Nat → Nat → Int64) : Prop :=
  ((x1 = 0 → wc_LassoFinderModel_formula_80  Post x1 2 (upd I 4 y0) J B D) ∧ (¬ x1 = 0 → wc_LassoFinderModel_formula_80  Post x1 0 (upd I 4 y0) J B D))
def wc_LassoFinderModel_formula_39 (Post : Int32 → (Nat → Int32) → (Nat → Int64) → (Nat → Nat → Int32) → (Nat → Nat → Int64) → Prop) (y0 : Int32) (I : Nat → Int32) (J : Nat → Int64) (B : Nat → Nat → Int32) (D : Nat → Nat → Int64) : Prop :=
  ((¬ (I 5) = 0 → ((y0 = 0 → wc_LassoFinderModel_formula_67  Post y0 (I 3) (upd I 1 0) J B D) ∧ (¬ y0 = 0 → wc_LassoFinderModel_formula_67  Post y0 (-1) (upd I 1 0) J B D))) ∧ ((I 5) = 0 → Post 0 (upd I 1 0) J B D))
def wc_LassoFinderModel_formula_38 (Post : Int32 → (Nat → Int32) → (Nat → Int64) → (Nat → Nat → Int32) → (Nat → Nat → Int64) → Prop)  (I : Nat → Int32) (J : Nat → Int64) (B : Nat → Nat → Int32) (D : Nat → Nat → Int64) : Prop :=
  wc_LassoFinderModel_formula_39  Post 0 I J B D
def wp_LassoFinderModel_formula (I : Nat → Int32) (J : Nat → Int64) (B : Nat → Nat → Int32) (D : Nat → Nat → Int64) (Post : Int32 → (Nat → Int32) → (Nat → Int64) → (Nat → Nat → Int32) → (Nat → Nat → Int64) → Prop) : Prop :=
  (((I 5) = 0 → wc_LassoFinderModel_formula_38  Post (upd (upd (upd (upd I 18 0) 24 (-1)) 4 (-1)) 0 1) J B D) ∧ (¬ (I 5) = 0 → wp_LassoFinderModel_wholeFormula (upd (upd (upd (upd I 18 0) 24 (-1)) 4 (-1)) 0 1) J B D  (fun r21 I21 J21 B21 D21 => ((r21 = 0 → wc_LassoFinderModel_formula_38  Post I21 J21 B21 D21) ∧ (¬ r21 = 0 → wc_LassoFinderModel_formula_39  Post 1 I21 J21 B21 D21)))))
set_option maxHeartbeats 8000000 in
set_option maxRecDepth 100000 in
theorem wB_LassoFinderModel_formula_152 {p : Program} {l : Launch} {e : Env} {s : State} {m : MethodId} {below : List Frame} {meth : Method} {c : Code} {A : Nat → Prop} (G : va_G) (K : Nat → ClassId) (ad : Nat → Nat) (Post : Int32 → (Nat → Int32) → (Nat → Int64) → (Nat → Nat → Int32) → (Nat → Nat → Int64) → Prop) (C : zCx p s m ([.ref (ad 0)] : List Value).toArray meth c A G K prog_14_method_50_code (some .int) 5 "LassoFinderModel") (K91 : Int32 → (Nat → Int32) → (Nat → Int64) → (Nat → Nat → Int32) → (Nat → Nat → Int64) → Prop) (kh91 : ∀ (x2 : Int32) (I : Nat → Int32) (J : Nat → Int64) (B : Nat → Nat → Int32) (D : Nat → Nat → Int64) (ls : Array Slot) (H : Heap) (locs : List Loc), K91 x2 I J B D → lv_has ls 5 [(0, .ref (ad 0)), (2, .int x2)] → zW G A s.heap (wM ad K I J B D) H locs → W p l e { frames := 5, cells := 0, slots := 0, locals := 119 } s m ([.ref (ad 0)] : List Value).toArray below meth c H locs 0 0 (MQ below (va_Qi (fun (r : Int32) (u : zS) => Post r u.1 u.2.1 u.2.2.1 u.2.2.2) (fun u t => zPost G K A (wM ad K u.1 u.2.1 u.2.2.1 u.2.2.2) t) A) ([.ref (ad 0)] : List Value).toArray s 0 0 A) (F0 m 91 ls [])) (K152 : Int32 → Int32 → Int32 → (Nat → Int32) → (Nat → Int64) → (Nat → Nat → Int32) → (Nat → Nat → Int64) → Prop) (kh152 : ∀ (x2 : Int32) (x3 : Int32) (x4 : Int32) (I : Nat → Int32) (J : Nat → Int64) (B : Nat → Nat → Int32) (D : Nat → Nat → Int64) (ls : Array Slot) (H : Heap) (locs : List Loc), K152 x2 x3 x4 I J B D → lv_has ls 5 [(0, .ref (ad 0)), (2, .int x2), (3, .int x3), (4, .int x4)] → zW G A s.heap (wM ad K I J B D) H locs → W p l e { frames := 5, cells := 0, slots := 0, locals := 119 } s m ([.ref (ad 0)] : List Value).toArray below meth c H locs 0 0 (MQ below (va_Qi (fun (r : Int32) (u : zS) => Post r u.1 u.2.1 u.2.2.1 u.2.2.2) (fun u t => zPost G K A (wM ad K u.1 u.2.1 u.2.2.1 u.2.2.2) t) A) ([.ref (ad 0)] : List Value).toArray s 0 0 A) (F0 m 152 ls [])) : ∀ (x2 : Int32) (x3 : Int32) (x4 : Int32) (I : Nat → Int32) (J : Nat → Int64) (B : Nat → Nat → Int32) (D : Nat → Nat → Int64) (ls : Array Slot) (H : Heap) (locs : List Loc), wb_LassoFinderModel_formula_152  K152 K91 Post x2 x3 x4 I J B D → lv_has ls 5 [(0, .ref (ad 0)), (2, .int x2), (3, .int x3), (4, .int x4)] → zW G A s.heap (wM ad K I J B D) H locs → W p l e { frames := 5, cells := 0, slots := 0, locals := 119 } s m ([.ref (ad 0)] : List Value).toArray below meth c H locs 0 0 (MQ below (va_Qi (fun (r : Int32) (u : zS) => Post r u.1 u.2.1 u.2.2.1 u.2.2.2) (fun u t => zPost G K A (wM ad K u.1 u.2.1 u.2.2.1 u.2.2.2) t) A) ([.ref (ad 0)] : List Value).toArray s 0 0 A) (F0 m 152 ls []) := by
  obtain ⟨hx, hb, hr, hml, hts, hown, hlocks, hA, hK⟩ := id C
  intro x2 x3 x4 I J B D ls H locs hok hl hw
  unfold wb_LassoFinderModel_formula_152 at hok
  refine lv_iload hx hb zd_LassoFinderModel_formula_152 (lv_at hl 3 rfl) ?_
  refine lv_bipush (v := 8) hx hb zd_LassoFinderModel_formula_154 (by decide) ?_
  refine lv_icmp_ge (tgt := 184) hx hb zd_LassoFinderModel_formula_156 (by decide) (fun hc1 => ?_) (fun hc1 => ?_)
  · have hok := hok.1 hc1
    obtain ⟨z2, ez2⟩ : ∃ z : Int32, z = (x2 + 1) := ⟨_, rfl⟩
    have hok := hok z2 ez2
    refine lv_iinc (v := z2) hx hb zd_LassoFinderModel_formula_184 hl (k := 1) rfl ez2.symm (by decide) rfl (fun ls hl => ?_)
    have hl : lv_has ls 5 [(2, .int z2), (0, .ref (ad 0)), (3, .int x3), (4, .int x4)] := hl
    refine lv_goto (tgt := 91) hx hb zd_LassoFinderModel_formula_187 (by decide) ?_
    exact kh91 z2 I J B D ls H locs hok (lv_sub hl [1, 0] rfl) hw
  · have hok := hok.2 hc1
    refine lv_aload_n hx hb zd_LassoFinderModel_formula_159 rfl (lv_at hl 0 rfl) ?_
    refine z_get (v := .ref (ad 51)) hx hb hts hown hK hw zZ12 0 wM_g0 74 (by decide) zm_285 rfl zd_LassoFinderModel_formula_160 ?_
    refine lv_bipush (v := 8) hx hb zd_LassoFinderModel_formula_163 (by decide) ?_
    refine lv_iload_n hx hb zd_LassoFinderModel_formula_165 rfl (lv_at hl 1 rfl) ?_
    refine lv_imul hx hb zd_LassoFinderModel_formula_166 ?_
    refine lv_topi (fun z3 ez3 => ?_)
    have hok := hok z3 ez3
    refine lv_iload hx hb zd_LassoFinderModel_formula_167 (lv_at hl 3 rfl) ?_
    refine lv_iadd hx hb zd_LassoFinderModel_formula_169 ?_
    refine lv_topi (fun z4 ez4 => ?_)
    have hok := hok z4 ez4
    refine lv_aload_n hx hb zd_LassoFinderModel_formula_170 rfl (lv_at hl 0 rfl) ?_
    refine lv_iload_n hx hb zd_LassoFinderModel_formula_171 rfl (lv_at hl 2 rfl) ?_
    refine lv_iload hx hb zd_LassoFinderModel_formula_172 (lv_at hl 3 rfl) ?_
    refine z_calli (w1 := fun (u : zS) => wM ad K u.1 u.2.1 u.2.2.1 u.2.2.2) (wr := []) (z_runV (q0 := 0) (wc := (wM ad K I J B D)) (As := [.int x3, .int x4]) (rest := [.int z4, .ref (ad 51)]) ⟨hx, hb, hml, hown, hts⟩ (w_LassoFinderModel_looked l G K ad I J B D x3 x4 _ H.size hok) zf_LassoFinderModel_looked zm_355 ⟨Nat.le_of_ble_eq_true rfl, Nat.le_of_ble_eq_true rfl⟩ hK hw (List.range 58) wM_all wM_nd wM_g0 rfl rfl hl.1 rfl (Nat.le_of_ble_eq_true rfl) zd_LassoFinderModel_formula_174 ⟨Nat.le_of_ble_eq_true rfl, Nat.le_of_ble_eq_true rfl⟩) hw hA (List.range 58) [] wM_all rfl (by decide) (fun i hi => by cases hi) (fun r5 u H locs hok hw => ?_)
    obtain ⟨I5, J5, B5, D5⟩ := u
    dsimp only at hok
    have hw : zW G A s.heap (wM ad K I5 J5 B5 D5) H locs := hw
    refine va_iast (f := (B5 48)) hx hb hK hw.1 hw.2.1 hw.2.2 51 0 wM_a51 rfl hok.1 zd_LassoFinderModel_formula_177 (fun H locs w91 w92 w93 => ?_)
    have hok := hok.2
    have hw := wM_t51 ⟨w91, w92, w93⟩
    obtain ⟨z6, ez6⟩ : ∃ z : Int32, z = (x4 + 1) := ⟨_, rfl⟩
    have hok := hok z6 ez6
    refine lv_iinc (v := z6) hx hb zd_LassoFinderModel_formula_178 hl (k := 3) rfl ez6.symm (by decide) rfl (fun ls hl => ?_)
    have hl : lv_has ls 5 [(4, .int z6), (0, .ref (ad 0)), (2, .int x2), (3, .int x3)] := hl
    refine lv_goto (tgt := 152) hx hb zd_LassoFinderModel_formula_181 (by decide) ?_
    exact kh152 x2 x3 z6 I5 J5 (va_up B5 48 (upd (B5 48) z4.toNatClampNeg r5)) D5 ls H locs hok (lv_sub hl [1, 2, 3, 0] rfl) hw
theorem wL_LassoFinderModel_formula_152 {p : Program} {l : Launch} {e : Env} {s : State} {m : MethodId} {below : List Frame} {meth : Method} {c : Code} {A : Nat → Prop} (G : va_G) (K : Nat → ClassId) (ad : Nat → Nat) (Post : Int32 → (Nat → Int32) → (Nat → Int64) → (Nat → Nat → Int32) → (Nat → Nat → Int64) → Prop) (C : zCx p s m ([.ref (ad 0)] : List Value).toArray meth c A G K prog_14_method_50_code (some .int) 5 "LassoFinderModel") (K91 : Int32 → (Nat → Int32) → (Nat → Int64) → (Nat → Nat → Int32) → (Nat → Nat → Int64) → Prop) (kh91 : ∀ (x2 : Int32) (I : Nat → Int32) (J : Nat → Int64) (B : Nat → Nat → Int32) (D : Nat → Nat → Int64) (ls : Array Slot) (H : Heap) (locs : List Loc), K91 x2 I J B D → lv_has ls 5 [(0, .ref (ad 0)), (2, .int x2)] → zW G A s.heap (wM ad K I J B D) H locs → W p l e { frames := 5, cells := 0, slots := 0, locals := 119 } s m ([.ref (ad 0)] : List Value).toArray below meth c H locs 0 0 (MQ below (va_Qi (fun (r : Int32) (u : zS) => Post r u.1 u.2.1 u.2.2.1 u.2.2.2) (fun u t => zPost G K A (wM ad K u.1 u.2.1 u.2.2.1 u.2.2.2) t) A) ([.ref (ad 0)] : List Value).toArray s 0 0 A) (F0 m 91 ls [])) : ∀ (n : Nat) (x2 : Int32) (x3 : Int32) (x4 : Int32) (I : Nat → Int32) (J : Nat → Int64) (B : Nat → Nat → Int32) (D : Nat → Nat → Int64) (ls : Array Slot) (H : Heap) (locs : List Loc), wl_LassoFinderModel_formula_152  K91 Post n x2 x3 x4 I J B D → lv_has ls 5 [(0, .ref (ad 0)), (2, .int x2), (3, .int x3), (4, .int x4)] → zW G A s.heap (wM ad K I J B D) H locs → W p l e { frames := 5, cells := 0, slots := 0, locals := 119 } s m ([.ref (ad 0)] : List Value).toArray below meth c H locs 0 0 (MQ below (va_Qi (fun (r : Int32) (u : zS) => Post r u.1 u.2.1 u.2.2.1 u.2.2.2) (fun u t => zPost G K A (wM ad K u.1 u.2.1 u.2.2.1 u.2.2.2) t) A) ([.ref (ad 0)] : List Value).toArray s 0 0 A) (F0 m 152 ls []) := by
  intro n
  induction n with
  | zero => intro x2 x3 x4 I J B D ls H locs hok; exact hok.elim
  | succ n ih => exact wB_LassoFinderModel_formula_152 G K ad  Post C K91 kh91 (wl_LassoFinderModel_formula_152  K91 Post n) ih
set_option maxHeartbeats 8000000 in
set_option maxRecDepth 100000 in
theorem wJ_LassoFinderModel_formula_141 {p : Program} {l : Launch} {e : Env} {s : State} {m : MethodId} {below : List Frame} {meth : Method} {c : Code} {A : Nat → Prop} (G : va_G) (K : Nat → ClassId) (ad : Nat → Nat) (Post : Int32 → (Nat → Int32) → (Nat → Int64) → (Nat → Nat → Int32) → (Nat → Nat → Int64) → Prop) (C : zCx p s m ([.ref (ad 0)] : List Value).toArray meth c A G K prog_14_method_50_code (some .int) 5 "LassoFinderModel") (K91 : Int32 → (Nat → Int32) → (Nat → Int64) → (Nat → Nat → Int32) → (Nat → Nat → Int64) → Prop) (kh91 : ∀ (x2 : Int32) (I : Nat → Int32) (J : Nat → Int64) (B : Nat → Nat → Int32) (D : Nat → Nat → Int64) (ls : Array Slot) (H : Heap) (locs : List Loc), K91 x2 I J B D → lv_has ls 5 [(0, .ref (ad 0)), (2, .int x2)] → zW G A s.heap (wM ad K I J B D) H locs → W p l e { frames := 5, cells := 0, slots := 0, locals := 119 } s m ([.ref (ad 0)] : List Value).toArray below meth c H locs 0 0 (MQ below (va_Qi (fun (r : Int32) (u : zS) => Post r u.1 u.2.1 u.2.2.1 u.2.2.2) (fun u t => zPost G K A (wM ad K u.1 u.2.1 u.2.2.1 u.2.2.2) t) A) ([.ref (ad 0)] : List Value).toArray s 0 0 A) (F0 m 91 ls [])) (K114 : Int32 → Int32 → Int32 → (Nat → Int32) → (Nat → Int64) → (Nat → Nat → Int32) → (Nat → Nat → Int64) → Prop) (kh114 : ∀ (x2 : Int32) (x3 : Int32) (x4 : Int32) (I : Nat → Int32) (J : Nat → Int64) (B : Nat → Nat → Int32) (D : Nat → Nat → Int64) (ls : Array Slot) (H : Heap) (locs : List Loc), K114 x2 x3 x4 I J B D → lv_has ls 5 [(0, .ref (ad 0)), (2, .int x2), (3, .int x3), (4, .int x4)] → zW G A s.heap (wM ad K I J B D) H locs → W p l e { frames := 5, cells := 0, slots := 0, locals := 119 } s m ([.ref (ad 0)] : List Value).toArray below meth c H locs 0 0 (MQ below (va_Qi (fun (r : Int32) (u : zS) => Post r u.1 u.2.1 u.2.2.1 u.2.2.2) (fun u t => zPost G K A (wM ad K u.1 u.2.1 u.2.2.1 u.2.2.2) t) A) ([.ref (ad 0)] : List Value).toArray s 0 0 A) (F0 m 114 ls [])) : ∀ (x2 : Int32) (x4 : Int32) (y0 : Int32) (y1 : Int32) (I : Nat → Int32) (J : Nat → Int64) (B : Nat → Nat → Int32) (D : Nat → Nat → Int64) (ls : Array Slot) (H : Heap) (locs : List Loc), wc_LassoFinderModel_formula_141  K91 K114 Post x2 x4 y0 y1 I J B D → lv_has ls 5 [(0, .ref (ad 0)), (2, .int x2), (4, .int x4)] → zW G A s.heap (wM ad K I J B D) H locs → W p l e { frames := 5, cells := 0, slots := 0, locals := 119 } s m ([.ref (ad 0)] : List Value).toArray below meth c H locs 0 0 (MQ below (va_Qi (fun (r : Int32) (u : zS) => Post r u.1 u.2.1 u.2.2.1 u.2.2.2) (fun u t => zPost G K A (wM ad K u.1 u.2.1 u.2.2.1 u.2.2.2) t) A) ([.ref (ad 0)] : List Value).toArray s 0 0 A) (F0 m 141 ls [.int y0, .int y1]) := by
  obtain ⟨hx, hb, hr, hml, hts, hown, hlocks, hA, hK⟩ := id C
  intro x2 x4 y0 y1 I J B D ls H locs hok hl hw
  unfold wc_LassoFinderModel_formula_141 at hok
  refine lv_ior hx hb zd_LassoFinderModel_formula_141 ?_
  refine lv_topi (fun z7 ez7 => ?_)
  have hok := hok z7 ez7
  refine lv_istore_n hx hb zd_LassoFinderModel_formula_142 rfl hl (by decide) rfl (fun ls hl => ?_)
  have hl : lv_has ls 5 [(3, .int z7), (0, .ref (ad 0)), (2, .int x2), (4, .int x4)] := hl
  obtain ⟨z8, ez8⟩ : ∃ z : Int32, z = (x4 + 1) := ⟨_, rfl⟩
  have hok := hok z8 ez8
  refine lv_iinc (v := z8) hx hb zd_LassoFinderModel_formula_143 hl (k := 3) rfl ez8.symm (by decide) rfl (fun ls hl => ?_)
  have hl : lv_has ls 5 [(4, .int z8), (3, .int z7), (0, .ref (ad 0)), (2, .int x2)] := hl
  refine lv_goto (tgt := 114) hx hb zd_LassoFinderModel_formula_146 (by decide) ?_
  exact kh114 x2 z7 z8 I J B D ls H locs hok (lv_sub hl [2, 3, 1, 0] rfl) hw
set_option maxHeartbeats 8000000 in
set_option maxRecDepth 100000 in
theorem wB_LassoFinderModel_formula_114 {p : Program} {l : Launch} {e : Env} {s : State} {m : MethodId} {below : List Frame} {meth : Method} {c : Code} {A : Nat → Prop} (G : va_G) (K : Nat → ClassId) (ad : Nat → Nat) (Post : Int32 → (Nat → Int32) → (Nat → Int64) → (Nat → Nat → Int32) → (Nat → Nat → Int64) → Prop) (C : zCx p s m ([.ref (ad 0)] : List Value).toArray meth c A G K prog_14_method_50_code (some .int) 5 "LassoFinderModel") (K91 : Int32 → (Nat → Int32) → (Nat → Int64) → (Nat → Nat → Int32) → (Nat → Nat → Int64) → Prop) (kh91 : ∀ (x2 : Int32) (I : Nat → Int32) (J : Nat → Int64) (B : Nat → Nat → Int32) (D : Nat → Nat → Int64) (ls : Array Slot) (H : Heap) (locs : List Loc), K91 x2 I J B D → lv_has ls 5 [(0, .ref (ad 0)), (2, .int x2)] → zW G A s.heap (wM ad K I J B D) H locs → W p l e { frames := 5, cells := 0, slots := 0, locals := 119 } s m ([.ref (ad 0)] : List Value).toArray below meth c H locs 0 0 (MQ below (va_Qi (fun (r : Int32) (u : zS) => Post r u.1 u.2.1 u.2.2.1 u.2.2.2) (fun u t => zPost G K A (wM ad K u.1 u.2.1 u.2.2.1 u.2.2.2) t) A) ([.ref (ad 0)] : List Value).toArray s 0 0 A) (F0 m 91 ls [])) (K114 : Int32 → Int32 → Int32 → (Nat → Int32) → (Nat → Int64) → (Nat → Nat → Int32) → (Nat → Nat → Int64) → Prop) (kh114 : ∀ (x2 : Int32) (x3 : Int32) (x4 : Int32) (I : Nat → Int32) (J : Nat → Int64) (B : Nat → Nat → Int32) (D : Nat → Nat → Int64) (ls : Array Slot) (H : Heap) (locs : List Loc), K114 x2 x3 x4 I J B D → lv_has ls 5 [(0, .ref (ad 0)), (2, .int x2), (3, .int x3), (4, .int x4)] → zW G A s.heap (wM ad K I J B D) H locs → W p l e { frames := 5, cells := 0, slots := 0, locals := 119 } s m ([.ref (ad 0)] : List Value).toArray below meth c H locs 0 0 (MQ below (va_Qi (fun (r : Int32) (u : zS) => Post r u.1 u.2.1 u.2.2.1 u.2.2.2) (fun u t => zPost G K A (wM ad K u.1 u.2.1 u.2.2.1 u.2.2.2) t) A) ([.ref (ad 0)] : List Value).toArray s 0 0 A) (F0 m 114 ls [])) : ∀ (x2 : Int32) (x3 : Int32) (x4 : Int32) (I : Nat → Int32) (J : Nat → Int64) (B : Nat → Nat → Int32) (D : Nat → Nat → Int64) (ls : Array Slot) (H : Heap) (locs : List Loc), wb_LassoFinderModel_formula_114  K114 K91 Post x2 x3 x4 I J B D → lv_has ls 5 [(0, .ref (ad 0)), (2, .int x2), (3, .int x3), (4, .int x4)] → zW G A s.heap (wM ad K I J B D) H locs → W p l e { frames := 5, cells := 0, slots := 0, locals := 119 } s m ([.ref (ad 0)] : List Value).toArray below meth c H locs 0 0 (MQ below (va_Qi (fun (r : Int32) (u : zS) => Post r u.1 u.2.1 u.2.2.1 u.2.2.2) (fun u t => zPost G K A (wM ad K u.1 u.2.1 u.2.2.1 u.2.2.2) t) A) ([.ref (ad 0)] : List Value).toArray s 0 0 A) (F0 m 114 ls []) := by
  obtain ⟨hx, hb, hr, hml, hts, hown, hlocks, hA, hK⟩ := id C
  intro x2 x3 x4 I J B D ls H locs hok hl hw
  unfold wb_LassoFinderModel_formula_114 at hok
  refine lv_iload hx hb zd_LassoFinderModel_formula_114 (lv_at hl 3 rfl) ?_
  refine lv_aload_n hx hb zd_LassoFinderModel_formula_116 rfl (lv_at hl 0 rfl) ?_
  refine z_get (v := .int (I 23)) hx hb hts hown hK hw zZ12 0 wM_g0 69 (by decide) zm_353 rfl zd_LassoFinderModel_formula_117 ?_
  refine lv_icmp_ge (tgt := 149) hx hb zd_LassoFinderModel_formula_120 (by decide) (fun hc9 => ?_) (fun hc9 => ?_)
  · have hok := hok.1 hc9
    refine lv_iconst (v := 0) hx hb zd_LassoFinderModel_formula_149 (by decide) ?_
    refine lv_istore hx hb zd_LassoFinderModel_formula_150 hl (by decide) rfl (fun ls hl => ?_)
    have hl : lv_has ls 5 [(4, .int 0), (0, .ref (ad 0)), (2, .int x2), (3, .int x3)] := hl
    obtain ⟨n9, hok⟩ := hok
    exact wL_LassoFinderModel_formula_152 G K ad  Post C K91 kh91 n9 x2 x3 0 I J B D ls H locs hok (lv_sub hl [1, 2, 3, 0] rfl) hw
  · have hok := hok.2 hc9
    refine lv_iload_n hx hb zd_LassoFinderModel_formula_123 rfl (lv_at hl 2 rfl) ?_
    refine lv_aload_n hx hb zd_LassoFinderModel_formula_124 rfl (lv_at hl 0 rfl) ?_
    refine lv_iload hx hb zd_LassoFinderModel_formula_125 (lv_at hl 3 rfl) ?_
    refine z_calli (w1 := fun (u : zS) => wM ad K u.1 u.2.1 u.2.2.1 u.2.2.2) (wr := []) (z_runV (q0 := 0) (wc := (wM ad K I J B D)) (As := [.int x4]) (rest := [.int x3]) ⟨hx, hb, hml, hown, hts⟩ (w_LassoFinderModel_holdsAt l G K ad I J B D x4 _ H.size hok) zf_LassoFinderModel_holdsAt zm_354 ⟨Nat.le_of_ble_eq_true rfl, Nat.le_of_ble_eq_true rfl⟩ hK hw (List.range 58) wM_all wM_nd wM_g0 rfl rfl hl.1 rfl (Nat.le_of_ble_eq_true rfl) zd_LassoFinderModel_formula_127 ⟨Nat.le_of_ble_eq_true rfl, Nat.le_of_ble_eq_true rfl⟩) hw hA (List.range 58) [] wM_all rfl (by decide) (fun i hi => by cases hi) (fun r10 u H locs hok hw => ?_)
    obtain ⟨I10, J10, B10, D10⟩ := u
    dsimp only at hok
    have hw : zW G A s.heap (wM ad K I10 J10 B10 D10) H locs := hw
    refine lv_if_eq (tgt := 140) hx hb zd_LassoFinderModel_formula_130 (by decide) (fun hc11 => ?_) (fun hc11 => ?_)
    · have hok := hok.1 hc11
      refine lv_iconst (v := 0) hx hb zd_LassoFinderModel_formula_140 (by decide) ?_
      exact wJ_LassoFinderModel_formula_141 G K ad  Post C K91 kh91 K114 kh114 x2 x4 0 x3 I10 J10 B10 D10 ls H locs hok (lv_sub hl [0, 1, 3] rfl) hw
    · have hok := hok.2 hc11
      refine lv_iconst (v := 1) hx hb zd_LassoFinderModel_formula_133 (by decide) ?_
      refine lv_iload hx hb zd_LassoFinderModel_formula_134 (lv_at hl 3 rfl) ?_
      refine lv_ishl hx hb zd_LassoFinderModel_formula_136 ?_
      refine lv_topi (fun z12 ez12 => ?_)
      have hok := hok z12 ez12
      refine lv_goto (tgt := 141) hx hb zd_LassoFinderModel_formula_137 (by decide) ?_
      exact wJ_LassoFinderModel_formula_141 G K ad  Post C K91 kh91 K114 kh114 x2 x4 z12 x3 I10 J10 B10 D10 ls H locs hok (lv_sub hl [0, 1, 3] rfl) hw
theorem wL_LassoFinderModel_formula_114 {p : Program} {l : Launch} {e : Env} {s : State} {m : MethodId} {below : List Frame} {meth : Method} {c : Code} {A : Nat → Prop} (G : va_G) (K : Nat → ClassId) (ad : Nat → Nat) (Post : Int32 → (Nat → Int32) → (Nat → Int64) → (Nat → Nat → Int32) → (Nat → Nat → Int64) → Prop) (C : zCx p s m ([.ref (ad 0)] : List Value).toArray meth c A G K prog_14_method_50_code (some .int) 5 "LassoFinderModel") (K91 : Int32 → (Nat → Int32) → (Nat → Int64) → (Nat → Nat → Int32) → (Nat → Nat → Int64) → Prop) (kh91 : ∀ (x2 : Int32) (I : Nat → Int32) (J : Nat → Int64) (B : Nat → Nat → Int32) (D : Nat → Nat → Int64) (ls : Array Slot) (H : Heap) (locs : List Loc), K91 x2 I J B D → lv_has ls 5 [(0, .ref (ad 0)), (2, .int x2)] → zW G A s.heap (wM ad K I J B D) H locs → W p l e { frames := 5, cells := 0, slots := 0, locals := 119 } s m ([.ref (ad 0)] : List Value).toArray below meth c H locs 0 0 (MQ below (va_Qi (fun (r : Int32) (u : zS) => Post r u.1 u.2.1 u.2.2.1 u.2.2.2) (fun u t => zPost G K A (wM ad K u.1 u.2.1 u.2.2.1 u.2.2.2) t) A) ([.ref (ad 0)] : List Value).toArray s 0 0 A) (F0 m 91 ls [])) : ∀ (n : Nat) (x2 : Int32) (x3 : Int32) (x4 : Int32) (I : Nat → Int32) (J : Nat → Int64) (B : Nat → Nat → Int32) (D : Nat → Nat → Int64) (ls : Array Slot) (H : Heap) (locs : List Loc), wl_LassoFinderModel_formula_114  K91 Post n x2 x3 x4 I J B D → lv_has ls 5 [(0, .ref (ad 0)), (2, .int x2), (3, .int x3), (4, .int x4)] → zW G A s.heap (wM ad K I J B D) H locs → W p l e { frames := 5, cells := 0, slots := 0, locals := 119 } s m ([.ref (ad 0)] : List Value).toArray below meth c H locs 0 0 (MQ below (va_Qi (fun (r : Int32) (u : zS) => Post r u.1 u.2.1 u.2.2.1 u.2.2.2) (fun u t => zPost G K A (wM ad K u.1 u.2.1 u.2.2.1 u.2.2.2) t) A) ([.ref (ad 0)] : List Value).toArray s 0 0 A) (F0 m 114 ls []) := by
  intro n
  induction n with
  | zero => intro x2 x3 x4 I J B D ls H locs hok; exact hok.elim
  | succ n ih => exact wB_LassoFinderModel_formula_114 G K ad  Post C K91 kh91 (wl_LassoFinderModel_formula_114  K91 Post n) ih
set_option maxHeartbeats 8000000 in
set_option maxRecDepth 100000 in
theorem wB_LassoFinderModel_formula_91 {p : Program} {l : Launch} {e : Env} {s : State} {m : MethodId} {below : List Frame} {meth : Method} {c : Code} {A : Nat → Prop} (G : va_G) (K : Nat → ClassId) (ad : Nat → Nat) (Post : Int32 → (Nat → Int32) → (Nat → Int64) → (Nat → Nat → Int32) → (Nat → Nat → Int64) → Prop) (C : zCx p s m ([.ref (ad 0)] : List Value).toArray meth c A G K prog_14_method_50_code (some .int) 5 "LassoFinderModel") (K91 : Int32 → (Nat → Int32) → (Nat → Int64) → (Nat → Nat → Int32) → (Nat → Nat → Int64) → Prop) (kh91 : ∀ (x2 : Int32) (I : Nat → Int32) (J : Nat → Int64) (B : Nat → Nat → Int32) (D : Nat → Nat → Int64) (ls : Array Slot) (H : Heap) (locs : List Loc), K91 x2 I J B D → lv_has ls 5 [(0, .ref (ad 0)), (2, .int x2)] → zW G A s.heap (wM ad K I J B D) H locs → W p l e { frames := 5, cells := 0, slots := 0, locals := 119 } s m ([.ref (ad 0)] : List Value).toArray below meth c H locs 0 0 (MQ below (va_Qi (fun (r : Int32) (u : zS) => Post r u.1 u.2.1 u.2.2.1 u.2.2.2) (fun u t => zPost G K A (wM ad K u.1 u.2.1 u.2.2.1 u.2.2.2) t) A) ([.ref (ad 0)] : List Value).toArray s 0 0 A) (F0 m 91 ls [])) : ∀ (x2 : Int32) (I : Nat → Int32) (J : Nat → Int64) (B : Nat → Nat → Int32) (D : Nat → Nat → Int64) (ls : Array Slot) (H : Heap) (locs : List Loc), wb_LassoFinderModel_formula_91  K91 Post x2 I J B D → lv_has ls 5 [(0, .ref (ad 0)), (2, .int x2)] → zW G A s.heap (wM ad K I J B D) H locs → W p l e { frames := 5, cells := 0, slots := 0, locals := 119 } s m ([.ref (ad 0)] : List Value).toArray below meth c H locs 0 0 (MQ below (va_Qi (fun (r : Int32) (u : zS) => Post r u.1 u.2.1 u.2.2.1 u.2.2.2) (fun u t => zPost G K A (wM ad K u.1 u.2.1 u.2.2.1 u.2.2.2) t) A) ([.ref (ad 0)] : List Value).toArray s 0 0 A) (F0 m 91 ls []) := by
  obtain ⟨hx, hb, hr, hml, hts, hown, hlocks, hA, hK⟩ := id C
  intro x2 I J B D ls H locs hok hl hw
  unfold wb_LassoFinderModel_formula_91 at hok
  refine lv_iload_n hx hb zd_LassoFinderModel_formula_91 rfl (lv_at hl 1 rfl) ?_
  refine lv_aload_n hx hb zd_LassoFinderModel_formula_92 rfl (lv_at hl 0 rfl) ?_
  refine z_get (v := .int (I 14)) hx hb hts hown hK hw zZ12 0 wM_g0 44 (by decide) zm_300 rfl zd_LassoFinderModel_formula_93 ?_
  refine lv_icmp_ge (tgt := 190) hx hb zd_LassoFinderModel_formula_96 (by decide) (fun hc13 => ?_) (fun hc13 => ?_)
  · have hok := hok.1 hc13
    refine lv_aload_n hx hb zd_LassoFinderModel_formula_190 rfl (lv_at hl 0 rfl) ?_
    refine lv_iconst (v := 1) hx hb zd_LassoFinderModel_formula_191 (by decide) ?_
    refine z_put (v := .int 1) hx hb hts hown hK hw zZ12 0 wM_g0 61 (by decide) zm_329 rfl rfl rfl (Nat.le_of_ble_eq_true rfl) zd_LassoFinderModel_formula_192 (fun H locs hw => ?_)
    have hw := wM_sI18 hw
    refine lv_aload_n hx hb zd_LassoFinderModel_formula_195 rfl (lv_at hl 0 rfl) ?_
    refine z_get (v := .int (I 20)) hx hb hts hown hK hw zZ12 0 wM_g0 64 (by decide) zm_356 rfl zd_LassoFinderModel_formula_196 ?_
    exact (z_iret (u := ((upd I 18 1), J, B, D)) hx hb hr hlocks rfl hw (List.range 58) wM_all wM_nd hok (Nat.le_of_ble_eq_true rfl) (Nat.le_of_ble_eq_true rfl) zd_LassoFinderModel_formula_199)
  · have hok := hok.2 hc13
    refine lv_aload_n hx hb zd_LassoFinderModel_formula_99 rfl (lv_at hl 0 rfl) ?_
    refine lv_aload_n hx hb zd_LassoFinderModel_formula_100 rfl (lv_at hl 0 rfl) ?_
    refine z_get (v := .ref (ad 31)) hx hb hts hown hK hw zZ12 0 wM_g0 47 (by decide) zm_265 rfl zd_LassoFinderModel_formula_101 ?_
    refine lv_iload_n hx hb zd_LassoFinderModel_formula_104 rfl (lv_at hl 1 rfl) ?_
    refine va_lald (f := (D 1)) hx hb hK hw.1 31 1 wM_a31 rfl hok.1 zd_LassoFinderModel_formula_105 ?_
    have hok := hok.2
    refine lv_topl (fun z14 ez14 => ?_)
    have hok := hok z14 ez14
    refine z_callv (w1 := fun (u : zS) => wM ad K u.1 u.2.1 u.2.2.1 u.2.2.2) (wr := []) (z_runV (q0 := 0) (wc := (wM ad K I J B D)) (As := [.long z14]) (rest := []) ⟨hx, hb, hml, hown, hts⟩ (w_LassoFinderModel_unpack l G K ad I J B D z14 _ H.size hok) zf_LassoFinderModel_unpack zm_315 ⟨Nat.le_of_ble_eq_true rfl, Nat.le_of_ble_eq_true rfl⟩ hK hw (List.range 58) wM_all wM_nd wM_g0 rfl rfl hl.1 rfl (Nat.le_of_ble_eq_true rfl) zd_LassoFinderModel_formula_106 ⟨Nat.le_of_ble_eq_true rfl, Nat.le_of_ble_eq_true rfl⟩) hw hA (List.range 58) [] wM_all rfl (by decide) (fun i hi => by cases hi) (fun u H locs hok hw => ?_)
    obtain ⟨I15, J15, B15, D15⟩ := u
    dsimp only at hok
    have hw : zW G A s.heap (wM ad K I15 J15 B15 D15) H locs := hw
    refine lv_iconst (v := 0) hx hb zd_LassoFinderModel_formula_109 (by decide) ?_
    refine lv_istore_n hx hb zd_LassoFinderModel_formula_110 rfl hl (by decide) rfl (fun ls hl => ?_)
    have hl : lv_has ls 5 [(3, .int 0), (0, .ref (ad 0)), (2, .int x2)] := hl
    refine lv_iconst (v := 0) hx hb zd_LassoFinderModel_formula_111 (by decide) ?_
    refine lv_istore hx hb zd_LassoFinderModel_formula_112 hl (by decide) rfl (fun ls hl => ?_)
    have hl : lv_has ls 5 [(4, .int 0), (3, .int 0), (0, .ref (ad 0)), (2, .int x2)] := hl
    obtain ⟨n9, hok⟩ := hok
    exact wL_LassoFinderModel_formula_114 G K ad  Post C K91 kh91 n9 x2 0 0 I15 J15 B15 D15 ls H locs hok (lv_sub hl [2, 3, 1, 0] rfl) hw
theorem wL_LassoFinderModel_formula_91 {p : Program} {l : Launch} {e : Env} {s : State} {m : MethodId} {below : List Frame} {meth : Method} {c : Code} {A : Nat → Prop} (G : va_G) (K : Nat → ClassId) (ad : Nat → Nat) (Post : Int32 → (Nat → Int32) → (Nat → Int64) → (Nat → Nat → Int32) → (Nat → Nat → Int64) → Prop) (C : zCx p s m ([.ref (ad 0)] : List Value).toArray meth c A G K prog_14_method_50_code (some .int) 5 "LassoFinderModel") : ∀ (n : Nat) (x2 : Int32) (I : Nat → Int32) (J : Nat → Int64) (B : Nat → Nat → Int32) (D : Nat → Nat → Int64) (ls : Array Slot) (H : Heap) (locs : List Loc), wl_LassoFinderModel_formula_91  Post n x2 I J B D → lv_has ls 5 [(0, .ref (ad 0)), (2, .int x2)] → zW G A s.heap (wM ad K I J B D) H locs → W p l e { frames := 5, cells := 0, slots := 0, locals := 119 } s m ([.ref (ad 0)] : List Value).toArray below meth c H locs 0 0 (MQ below (va_Qi (fun (r : Int32) (u : zS) => Post r u.1 u.2.1 u.2.2.1 u.2.2.2) (fun u t => zPost G K A (wM ad K u.1 u.2.1 u.2.2.1 u.2.2.2) t) A) ([.ref (ad 0)] : List Value).toArray s 0 0 A) (F0 m 91 ls []) := by
  intro n
  induction n with
  | zero => intro x2 I J B D ls H locs hok; exact hok.elim
  | succ n ih => exact wB_LassoFinderModel_formula_91 G K ad  Post C (wl_LassoFinderModel_formula_91  Post n) ih
set_option maxHeartbeats 8000000 in
set_option maxRecDepth 100000 in
theorem wJ_LassoFinderModel_formula_80 {p : Program} {l : Launch} {e : Env} {s : State} {m : MethodId} {below : List Frame} {meth : Method} {c : Code} {A : Nat → Prop} (G : va_G) (K : Nat → ClassId) (ad : Nat → Nat) (Post : Int32 → (Nat → Int32) → (Nat → Int64) → (Nat → Nat → Int32) → (Nat → Nat → Int64) → Prop) (C : zCx p s m ([.ref (ad 0)] : List Value).toArray meth c A G K prog_14_method_50_code (some .int) 5 "LassoFinderModel") : ∀ (x1 : Int32) (y0 : Int32) (I : Nat → Int32) (J : Nat → Int64) (B : Nat → Nat → Int32) (D : Nat → Nat → Int64) (ls : Array Slot) (H : Heap) (locs : List Loc), wc_LassoFinderModel_formula_80  Post x1 y0 I J B D → lv_has ls 5 [(0, .ref (ad 0)), (1, .int x1)] → zW G A s.heap (wM ad K I J B D) H locs → W p l e { frames := 5, cells := 0, slots := 0, locals := 119 } s m ([.ref (ad 0)] : List Value).toArray below meth c H locs 0 0 (MQ below (va_Qi (fun (r : Int32) (u : zS) => Post r u.1 u.2.1 u.2.2.1 u.2.2.2) (fun u t => zPost G K A (wM ad K u.1 u.2.1 u.2.2.1 u.2.2.2) t) A) ([.ref (ad 0)] : List Value).toArray s 0 0 A) (F0 m 80 ls [.int y0, .ref (ad 0)]) := by
  obtain ⟨hx, hb, hr, hml, hts, hown, hlocks, hA, hK⟩ := id C
  intro x1 y0 I J B D ls H locs hok hl hw
  unfold wc_LassoFinderModel_formula_80 at hok
  refine z_put (v := .int y0) hx hb hts hown hK hw zZ12 0 wM_g0 0 (by decide) zm_292 rfl rfl rfl (Nat.le_of_ble_eq_true rfl) zd_LassoFinderModel_formula_80 (fun H locs hw => ?_)
  have hw := wM_sI0 hw
  refine lv_iload_n hx hb zd_LassoFinderModel_formula_83 rfl (lv_at hl 1 rfl) ?_
  refine lv_if_ne (tgt := 89) hx hb zd_LassoFinderModel_formula_84 (by decide) (fun hc16 => ?_) (fun hc16 => ?_)
  · have hok := hok.1 hc16
    refine lv_iconst (v := 0) hx hb zd_LassoFinderModel_formula_89 (by decide) ?_
    refine lv_istore_n hx hb zd_LassoFinderModel_formula_90 rfl hl (by decide) rfl (fun ls hl => ?_)
    have hl : lv_has ls 5 [(2, .int 0), (0, .ref (ad 0)), (1, .int x1)] := hl
    obtain ⟨n9, hok⟩ := hok
    exact wL_LassoFinderModel_formula_91 G K ad  Post C n9 0 (upd I 0 y0) J B D ls H locs hok (lv_sub hl [1, 0] rfl) hw
  · have hok := hok.2 hc16
    refine lv_iconst (v := 0) hx hb zd_LassoFinderModel_formula_87 (by decide) ?_
    exact (z_iret (u := ((upd I 0 y0), J, B, D)) hx hb hr hlocks rfl hw (List.range 58) wM_all wM_nd hok (Nat.le_of_ble_eq_true rfl) (Nat.le_of_ble_eq_true rfl) zd_LassoFinderModel_formula_88)
set_option maxHeartbeats 8000000 in
set_option maxRecDepth 100000 in
theorem wJ_LassoFinderModel_formula_67 {p : Program} {l : Launch} {e : Env} {s : State} {m : MethodId} {below : List Frame} {meth : Method} {c : Code} {A : Nat → Prop} (G : va_G) (K : Nat → ClassId) (ad : Nat → Nat) (Post : Int32 → (Nat → Int32) → (Nat → Int64) → (Nat → Nat → Int32) → (Nat → Nat → Int64) → Prop) (C : zCx p s m ([.ref (ad 0)] : List Value).toArray meth c A G K prog_14_method_50_code (some .int) 5 "LassoFinderModel") : ∀ (x1 : Int32) (y0 : Int32) (I : Nat → Int32) (J : Nat → Int64) (B : Nat → Nat → Int32) (D : Nat → Nat → Int64) (ls : Array Slot) (H : Heap) (locs : List Loc), wc_LassoFinderModel_formula_67  Post x1 y0 I J B D → lv_has ls 5 [(0, .ref (ad 0)), (1, .int x1)] → zW G A s.heap (wM ad K I J B D) H locs → W p l e { frames := 5, cells := 0, slots := 0, locals := 119 } s m ([.ref (ad 0)] : List Value).toArray below meth c H locs 0 0 (MQ below (va_Qi (fun (r : Int32) (u : zS) => Post r u.1 u.2.1 u.2.2.1 u.2.2.2) (fun u t => zPost G K A (wM ad K u.1 u.2.1 u.2.2.1 u.2.2.2) t) A) ([.ref (ad 0)] : List Value).toArray s 0 0 A) (F0 m 67 ls [.int y0, .ref (ad 0)]) := by
  obtain ⟨hx, hb, hr, hml, hts, hown, hlocks, hA, hK⟩ := id C
  intro x1 y0 I J B D ls H locs hok hl hw
  unfold wc_LassoFinderModel_formula_67 at hok
  refine z_put (v := .int y0) hx hb hts hown hK hw zZ12 0 wM_g0 5 (by decide) zm_328 rfl rfl rfl (Nat.le_of_ble_eq_true rfl) zd_LassoFinderModel_formula_67 (fun H locs hw => ?_)
  have hw := wM_sI4 hw
  refine lv_aload_n hx hb zd_LassoFinderModel_formula_70 rfl (lv_at hl 0 rfl) ?_
  refine lv_iload_n hx hb zd_LassoFinderModel_formula_71 rfl (lv_at hl 1 rfl) ?_
  refine lv_if_eq (tgt := 79) hx hb zd_LassoFinderModel_formula_72 (by decide) (fun hc17 => ?_) (fun hc17 => ?_)
  · have hok := hok.1 hc17
    refine lv_iconst (v := 2) hx hb zd_LassoFinderModel_formula_79 (by decide) ?_
    exact wJ_LassoFinderModel_formula_80 G K ad  Post C x1 2 (upd I 4 y0) J B D ls H locs hok (lv_sub hl [0, 1] rfl) hw
  · have hok := hok.2 hc17
    refine lv_iconst (v := 0) hx hb zd_LassoFinderModel_formula_75 (by decide) ?_
    refine lv_goto (tgt := 80) hx hb zd_LassoFinderModel_formula_76 (by decide) ?_
    exact wJ_LassoFinderModel_formula_80 G K ad  Post C x1 0 (upd I 4 y0) J B D ls H locs hok (lv_sub hl [0, 1] rfl) hw
set_option maxHeartbeats 8000000 in
set_option maxRecDepth 100000 in
theorem wJ_LassoFinderModel_formula_39 {p : Program} {l : Launch} {e : Env} {s : State} {m : MethodId} {below : List Frame} {meth : Method} {c : Code} {A : Nat → Prop} (G : va_G) (K : Nat → ClassId) (ad : Nat → Nat) (Post : Int32 → (Nat → Int32) → (Nat → Int64) → (Nat → Nat → Int32) → (Nat → Nat → Int64) → Prop) (C : zCx p s m ([.ref (ad 0)] : List Value).toArray meth c A G K prog_14_method_50_code (some .int) 5 "LassoFinderModel") : ∀ (y0 : Int32) (I : Nat → Int32) (J : Nat → Int64) (B : Nat → Nat → Int32) (D : Nat → Nat → Int64) (ls : Array Slot) (H : Heap) (locs : List Loc), wc_LassoFinderModel_formula_39  Post y0 I J B D → lv_has ls 5 [(0, .ref (ad 0))] → zW G A s.heap (wM ad K I J B D) H locs → W p l e { frames := 5, cells := 0, slots := 0, locals := 119 } s m ([.ref (ad 0)] : List Value).toArray below meth c H locs 0 0 (MQ below (va_Qi (fun (r : Int32) (u : zS) => Post r u.1 u.2.1 u.2.2.1 u.2.2.2) (fun u t => zPost G K A (wM ad K u.1 u.2.1 u.2.2.1 u.2.2.2) t) A) ([.ref (ad 0)] : List Value).toArray s 0 0 A) (F0 m 39 ls [.int y0]) := by
  obtain ⟨hx, hb, hr, hml, hts, hown, hlocks, hA, hK⟩ := id C
  intro y0 I J B D ls H locs hok hl hw
  unfold wc_LassoFinderModel_formula_39 at hok
  refine lv_istore_n hx hb zd_LassoFinderModel_formula_39 rfl hl (by decide) rfl (fun ls hl => ?_)
  have hl : lv_has ls 5 [(1, .int y0), (0, .ref (ad 0))] := hl
  refine lv_aload_n hx hb zd_LassoFinderModel_formula_40 rfl (lv_at hl 1 rfl) ?_
  refine lv_iconst (v := 0) hx hb zd_LassoFinderModel_formula_41 (by decide) ?_
  refine z_put (v := .int 0) hx hb hts hown hK hw zZ12 0 wM_g0 1 (by decide) zm_294 rfl rfl rfl (Nat.le_of_ble_eq_true rfl) zd_LassoFinderModel_formula_42 (fun H locs hw => ?_)
  have hw := wM_sI1 hw
  refine lv_aload_n hx hb zd_LassoFinderModel_formula_45 rfl (lv_at hl 1 rfl) ?_
  refine z_get (v := .int (I 5)) hx hb hts hown hK hw zZ12 0 wM_g0 6 (by decide) zm_299 rfl zd_LassoFinderModel_formula_46 ?_
  refine lv_if_ne (tgt := 54) hx hb zd_LassoFinderModel_formula_49 (by decide) (fun hc18 => ?_) (fun hc18 => ?_)
  · have hok := hok.1 hc18
    refine lv_aload_n hx hb zd_LassoFinderModel_formula_54 rfl (lv_at hl 1 rfl) ?_
    refine lv_iload_n hx hb zd_LassoFinderModel_formula_55 rfl (lv_at hl 0 rfl) ?_
    refine lv_if_eq (tgt := 63) hx hb zd_LassoFinderModel_formula_56 (by decide) (fun hc19 => ?_) (fun hc19 => ?_)
    · have hok := hok.1 hc19
      refine lv_aload_n hx hb zd_LassoFinderModel_formula_63 rfl (lv_at hl 1 rfl) ?_
      refine z_get (v := .int (I 3)) hx hb hts hown hK hw zZ12 0 wM_g0 4 (by decide) zm_301 rfl zd_LassoFinderModel_formula_64 ?_
      exact wJ_LassoFinderModel_formula_67 G K ad  Post C y0 (I 3) (upd I 1 0) J B D ls H locs hok (lv_sub hl [1, 0] rfl) hw
    · have hok := hok.2 hc19
      refine lv_iconst (v := (-1)) hx hb zd_LassoFinderModel_formula_59 (by decide) ?_
      refine lv_goto (tgt := 67) hx hb zd_LassoFinderModel_formula_60 (by decide) ?_
      exact wJ_LassoFinderModel_formula_67 G K ad  Post C y0 (-1) (upd I 1 0) J B D ls H locs hok (lv_sub hl [1, 0] rfl) hw
  · have hok := hok.2 hc18
    refine lv_iconst (v := 0) hx hb zd_LassoFinderModel_formula_52 (by decide) ?_
    exact (z_iret (u := ((upd I 1 0), J, B, D)) hx hb hr hlocks rfl hw (List.range 58) wM_all wM_nd hok (Nat.le_of_ble_eq_true rfl) (Nat.le_of_ble_eq_true rfl) zd_LassoFinderModel_formula_53)
set_option maxHeartbeats 8000000 in
set_option maxRecDepth 100000 in
theorem wJ_LassoFinderModel_formula_38 {p : Program} {l : Launch} {e : Env} {s : State} {m : MethodId} {below : List Frame} {meth : Method} {c : Code} {A : Nat → Prop} (G : va_G) (K : Nat → ClassId) (ad : Nat → Nat) (Post : Int32 → (Nat → Int32) → (Nat → Int64) → (Nat → Nat → Int32) → (Nat → Nat → Int64) → Prop) (C : zCx p s m ([.ref (ad 0)] : List Value).toArray meth c A G K prog_14_method_50_code (some .int) 5 "LassoFinderModel") : ∀  (I : Nat → Int32) (J : Nat → Int64) (B : Nat → Nat → Int32) (D : Nat → Nat → Int64) (ls : Array Slot) (H : Heap) (locs : List Loc), wc_LassoFinderModel_formula_38  Post  I J B D → lv_has ls 5 [(0, .ref (ad 0))] → zW G A s.heap (wM ad K I J B D) H locs → W p l e { frames := 5, cells := 0, slots := 0, locals := 119 } s m ([.ref (ad 0)] : List Value).toArray below meth c H locs 0 0 (MQ below (va_Qi (fun (r : Int32) (u : zS) => Post r u.1 u.2.1 u.2.2.1 u.2.2.2) (fun u t => zPost G K A (wM ad K u.1 u.2.1 u.2.2.1 u.2.2.2) t) A) ([.ref (ad 0)] : List Value).toArray s 0 0 A) (F0 m 38 ls []) := by
  obtain ⟨hx, hb, hr, hml, hts, hown, hlocks, hA, hK⟩ := id C
  intro  I J B D ls H locs hok hl hw
  unfold wc_LassoFinderModel_formula_38 at hok
  refine lv_iconst (v := 0) hx hb zd_LassoFinderModel_formula_38 (by decide) ?_
  exact wJ_LassoFinderModel_formula_39 G K ad  Post C 0 I J B D ls H locs hok (lv_sub hl [0] rfl) hw
set_option maxHeartbeats 8000000 in
set_option maxRecDepth 100000 in
theorem w_LassoFinderModel_formula (l : Launch) (G : va_G) (K : Nat → ClassId) (ad : Nat → Nat) (I : Nat → Int32) (J : Nat → Int64) (B : Nat → Nat → Int32) (D : Nat → Nat → Int64) (Post : Int32 → (Nat → Int32) → (Nat → Int64) → (Nat → Nat → Int32) → (Nat → Nat → Int64) → Prop) (sz : Nat) (hok : wp_LassoFinderModel_formula I J B D  Post) : Met l zy_LassoFinderModel_formula (Cond.code zy_LassoFinderModel_formula prog_14_method_50_code 5 (some .int) :: zTB) { frames := 5, cells := 0, slots := 0, locals := 119 } (va_Pc [.ref (ad 0)] (zPre G K (wM ad K I J B D) sz)) (va_Qi (fun (r : Int32) (u : zS) => Post r u.1 u.2.1 u.2.2.1 u.2.2.2) (fun u t => zPost G K (va_A (wM ad K I J B D) sz) (wM ad K u.1 u.2.1 u.2.2.1 u.2.2.2) t) (va_A (wM ad K I J B D) sz)) 0 0 (va_A (wM ad K I J B D) sz) := by
  refine zMet (y := zy_LassoFinderModel_formula) (av := [.ref (ad 0)]) (maxL := 5) (cc := prog_14_method_50_code) (ret := (some .int)) (W0 := (wM ad K I J B D)) (sz := sz) (G := G) (K := K) (wt := zTB) (mc := 0) (ms := 0) (Qf := fun A => va_Qi (fun (r : Int32) (u : zS) => Post r u.1 u.2.1 u.2.2.1 u.2.2.2) (fun u t => zPost G K A (wM ad K u.1 u.2.1 u.2.2.1 u.2.2.2) t) A) (by decide) (Nat.le_of_ble_eq_true rfl) ?_
  intro p e s m below meth c ls A hx hb hr hml hts hown hlocks hin hA hK H locs hw hsz hl
  clear hsz
  have hown : s.vm.findClass "LassoFinderModel" = some m.cls := hown
  have C : zCx p s m ([.ref (ad 0)] : List Value).toArray meth c A G K prog_14_method_50_code (some .int) 5 "LassoFinderModel" := ⟨hx, hb, hr, hml, hts, hown, hlocks, hA, hK⟩
  have hl : lv_has ls 5 [(0, .ref (ad 0))] := hl
  have hw : zW G A s.heap (wM ad K I J B D) H locs := hw
  unfold wp_LassoFinderModel_formula at hok
  refine lv_aload_n hx hb zd_LassoFinderModel_formula_0 rfl (lv_at hl 0 rfl) ?_
  refine lv_iconst (v := 0) hx hb zd_LassoFinderModel_formula_1 (by decide) ?_
  refine z_put (v := .int 0) hx hb hts hown hK hw zZ12 0 wM_g0 61 (by decide) zm_329 rfl rfl rfl (Nat.le_of_ble_eq_true rfl) zd_LassoFinderModel_formula_2 (fun H locs hw => ?_)
  have hw := wM_sI18 hw
  refine lv_aload_n hx hb zd_LassoFinderModel_formula_5 rfl (lv_at hl 0 rfl) ?_
  refine lv_iconst (v := (-1)) hx hb zd_LassoFinderModel_formula_6 (by decide) ?_
  refine z_put (v := .int (-1)) hx hb hts hown hK hw zZ12 0 wM_g0 78 (by decide) zm_330 rfl rfl rfl (Nat.le_of_ble_eq_true rfl) zd_LassoFinderModel_formula_7 (fun H locs hw => ?_)
  have hw := wM_sI24 hw
  refine lv_aload_n hx hb zd_LassoFinderModel_formula_10 rfl (lv_at hl 0 rfl) ?_
  refine lv_iconst (v := (-1)) hx hb zd_LassoFinderModel_formula_11 (by decide) ?_
  refine z_put (v := .int (-1)) hx hb hts hown hK hw zZ12 0 wM_g0 5 (by decide) zm_328 rfl rfl rfl (Nat.le_of_ble_eq_true rfl) zd_LassoFinderModel_formula_12 (fun H locs hw => ?_)
  have hw := wM_sI4 hw
  refine lv_aload_n hx hb zd_LassoFinderModel_formula_15 rfl (lv_at hl 0 rfl) ?_
  refine lv_iconst (v := 1) hx hb zd_LassoFinderModel_formula_16 (by decide) ?_
  refine z_put (v := .int 1) hx hb hts hown hK hw zZ12 0 wM_g0 0 (by decide) zm_292 rfl rfl rfl (Nat.le_of_ble_eq_true rfl) zd_LassoFinderModel_formula_17 (fun H locs hw => ?_)
  have hw := wM_sI0 hw
  refine lv_aload_n hx hb zd_LassoFinderModel_formula_20 rfl (lv_at hl 0 rfl) ?_
  refine z_get (v := .int (I 5)) hx hb hts hown hK hw zZ12 0 wM_g0 6 (by decide) zm_299 rfl zd_LassoFinderModel_formula_21 ?_
  refine lv_if_eq (tgt := 38) hx hb zd_LassoFinderModel_formula_24 (by decide) (fun hc20 => ?_) (fun hc20 => ?_)
  · have hok := hok.1 hc20
    exact wJ_LassoFinderModel_formula_38 G K ad  Post C (upd (upd (upd (upd I 18 0) 24 (-1)) 4 (-1)) 0 1) J B D ls H locs hok (lv_sub hl [0] rfl) hw
  · have hok := hok.2 hc20
    refine lv_aload_n hx hb zd_LassoFinderModel_formula_27 rfl (lv_at hl 0 rfl) ?_
    refine z_calli (w1 := fun (u : zS) => wM ad K u.1 u.2.1 u.2.2.1 u.2.2.2) (wr := []) (z_runV (q0 := 0) (wc := (wM ad K (upd (upd (upd (upd I 18 0) 24 (-1)) 4 (-1)) 0 1) J B D)) (As := []) (rest := []) ⟨hx, hb, hml, hown, hts⟩ (w_LassoFinderModel_wholeFormula l G K ad (upd (upd (upd (upd I 18 0) 24 (-1)) 4 (-1)) 0 1) J B D  _ H.size hok) zf_LassoFinderModel_wholeFormula zm_352 ⟨Nat.le_of_ble_eq_true rfl, Nat.le_of_ble_eq_true rfl⟩ hK hw (List.range 58) wM_all wM_nd wM_g0 rfl rfl hl.1 rfl (Nat.le_of_ble_eq_true rfl) zd_LassoFinderModel_formula_28 ⟨Nat.le_of_ble_eq_true rfl, Nat.le_of_ble_eq_true rfl⟩) hw hA (List.range 58) [] wM_all rfl (by decide) (fun i hi => by cases hi) (fun r21 u H locs hok hw => ?_)
    obtain ⟨I21, J21, B21, D21⟩ := u
    dsimp only at hok
    have hw : zW G A s.heap (wM ad K I21 J21 B21 D21) H locs := hw
    refine lv_if_eq (tgt := 38) hx hb zd_LassoFinderModel_formula_31 (by decide) (fun hc22 => ?_) (fun hc22 => ?_)
    · have hok := hok.1 hc22
      exact wJ_LassoFinderModel_formula_38 G K ad  Post C I21 J21 B21 D21 ls H locs hok (lv_sub hl [0] rfl) hw
    · have hok := hok.2 hc22
      refine lv_iconst (v := 1) hx hb zd_LassoFinderModel_formula_34 (by decide) ?_
      refine lv_goto (tgt := 39) hx hb zd_LassoFinderModel_formula_35 (by decide) ?_
      exact wJ_LassoFinderModel_formula_39 G K ad  Post C 1 I21 J21 B21 D21 ls H locs hok (lv_sub hl [0] rfl) hw
def wp_LassoFinderModel_stepOf_ad56 (I : Nat → Int32) (J : Nat → Int64) (B : Nat → Nat → Int32) (D : Nat → Nat → Int64) (a1 : Int32) (Post : Int32 → (Nat → Int32) → (Nat → Int64) → (Nat → Nat → Int32) → (Nat → Nat → Int64) → Prop) : Prop :=
  ∀ z1 : Int32, z1 = (a1 / 3) → vp_in z1 1024 ∧ ∀ z2 : Int32, z2 = ((B 53) z1.toNatClampNeg) → ∀ z3 : Int32, z3 = (a1 - a1 / 3 * 3) → ∀ z4 : Int32, z4 = (9 * z3) → ∀ z5 : Int32, z5 = (z2 >>> (z4 &&& 31)) → ∀ z6 : Int32, z6 = (z5 &&& 511) → Post z6 I J B D
set_option maxHeartbeats 8000000 in
set_option maxRecDepth 100000 in
theorem w_LassoFinderModel_stepOf_ad56 (l : Launch) (G : va_G) (K : Nat → ClassId) (ad : Nat → Nat) (I : Nat → Int32) (J : Nat → Int64) (B : Nat → Nat → Int32) (D : Nat → Nat → Int64) (a1 : Int32) (Post : Int32 → (Nat → Int32) → (Nat → Int64) → (Nat → Nat → Int32) → (Nat → Nat → Int64) → Prop) (sz : Nat) (hok : wp_LassoFinderModel_stepOf_ad56 I J B D a1 Post) : Met l zy_LassoFinderModel_stepOf (Cond.code zy_LassoFinderModel_stepOf prog_14_method_58_code 2 (some .int) :: zTB) { frames := 0, cells := 0, slots := 0, locals := 0 } (va_Pc [.ref (ad 56), .int a1] (zPre G K (wM ad K I J B D) sz)) (va_Qi (fun (r : Int32) (u : zS) => Post r u.1 u.2.1 u.2.2.1 u.2.2.2) (fun u t => zPost G K (va_A (wM ad K I J B D) sz) (wM ad K u.1 u.2.1 u.2.2.1 u.2.2.2) t) (va_A (wM ad K I J B D) sz)) 0 0 (va_A (wM ad K I J B D) sz) := by
  refine zMet (y := zy_LassoFinderModel_stepOf) (av := [.ref (ad 56), .int a1]) (maxL := 2) (cc := prog_14_method_58_code) (ret := (some .int)) (W0 := (wM ad K I J B D)) (sz := sz) (G := G) (K := K) (wt := zTB) (mc := 0) (ms := 0) (Qf := fun A => va_Qi (fun (r : Int32) (u : zS) => Post r u.1 u.2.1 u.2.2.1 u.2.2.2) (fun u t => zPost G K A (wM ad K u.1 u.2.1 u.2.2.1 u.2.2.2) t) A) (by decide) (Nat.le_of_ble_eq_true rfl) ?_
  intro p e s m below meth c ls A hx hb hr hml hts hown hlocks hin hA hK H locs hw hsz hl
  clear hsz
  have hown : s.vm.findClass "LassoFinderModel" = some m.cls := hown
  have C : zCx p s m ([.ref (ad 56), .int a1] : List Value).toArray meth c A G K prog_14_method_58_code (some .int) 2 "LassoFinderModel" := ⟨hx, hb, hr, hml, hts, hown, hlocks, hA, hK⟩
  have hl : lv_has ls 2 [(0, .ref (ad 56)), (1, .int a1)] := hl
  have hw : zW G A s.heap (wM ad K I J B D) H locs := hw
  unfold wp_LassoFinderModel_stepOf_ad56 at hok
  refine lv_aload_n hx hb zd_LassoFinderModel_stepOf_0 rfl (lv_at hl 0 rfl) ?_
  refine lv_iload_n hx hb zd_LassoFinderModel_stepOf_1 rfl (lv_at hl 1 rfl) ?_
  refine lv_iconst (v := 3) hx hb zd_LassoFinderModel_stepOf_2 (by decide) ?_
  refine lv_idiv hx hb zd_LassoFinderModel_stepOf_3 (by decide) ?_
  refine lv_topi (fun z1 ez1 => ?_)
  have hok := hok z1 ez1
  refine va_iald (f := (B 53)) hx hb hK hw.1 56 0 wM_a56 rfl hok.1 zd_LassoFinderModel_stepOf_4 ?_
  have hok := hok.2
  refine lv_topi (fun z2 ez2 => ?_)
  have hok := hok z2 ez2
  refine lv_bipush (v := 9) hx hb zd_LassoFinderModel_stepOf_5 (by decide) ?_
  refine lv_iload_n hx hb zd_LassoFinderModel_stepOf_7 rfl (lv_at hl 1 rfl) ?_
  refine lv_iconst (v := 3) hx hb zd_LassoFinderModel_stepOf_8 (by decide) ?_
  refine lv_irem hx hb zd_LassoFinderModel_stepOf_9 (by decide) ?_
  refine lv_topi (fun z3 ez3 => ?_)
  have hok := hok z3 ez3
  refine lv_imul hx hb zd_LassoFinderModel_stepOf_10 ?_
  refine lv_topi (fun z4 ez4 => ?_)
  have hok := hok z4 ez4
  refine lv_ishr hx hb zd_LassoFinderModel_stepOf_11 ?_
  refine lv_topi (fun z5 ez5 => ?_)
  have hok := hok z5 ez5
  refine lv_sipush (v := 511) hx hb zd_LassoFinderModel_stepOf_12 (by decide) ?_
  refine lv_iand hx hb zd_LassoFinderModel_stepOf_15 ?_
  refine lv_topi (fun z6 ez6 => ?_)
  have hok := hok z6 ez6
  exact (z_iret (u := (I, J, B, D)) hx hb hr hlocks rfl hw (List.range 58) wM_all wM_nd hok (Nat.le_of_ble_eq_true rfl) (Nat.le_of_ble_eq_true rfl) zd_LassoFinderModel_stepOf_16)
def wp_LassoFinderModel_keep_ad55 (I : Nat → Int32) (J : Nat → Int64) (B : Nat → Nat → Int32) (D : Nat → Nat → Int64) (a1 : Int32) (a2 : Int32) (Post : (Nat → Int32) → (Nat → Int64) → (Nat → Nat → Int32) → (Nat → Nat → Int64) → Prop) : Prop :=
  ∀ z1 : Int32, z1 = (a1 - a1 / 3 * 3) → ∀ z2 : Int32, z2 = (9 * z1) → ∀ z3 : Int32, z3 = (a1 / 3) → ∀ z4 : Int32, z4 = (a1 / 3) → vp_in z4 1280 ∧ ∀ z5 : Int32, z5 = ((B 52) z4.toNatClampNeg) → ∀ z6 : Int32, z6 = (511 <<< (z2 &&& 31)) → ∀ z7 : Int32, z7 = (z6 ^^^ (-1)) → ∀ z8 : Int32, z8 = (z5 &&& z7) → ∀ z9 : Int32, z9 = (a2 <<< (z2 &&& 31)) → ∀ z10 : Int32, z10 = (z8 ||| z9) → vp_in z3 1280 ∧ Post I J (va_up B 52 (upd (B 52) z3.toNatClampNeg z10)) D
set_option maxHeartbeats 8000000 in
set_option maxRecDepth 100000 in
theorem w_LassoFinderModel_keep_ad55 (l : Launch) (G : va_G) (K : Nat → ClassId) (ad : Nat → Nat) (I : Nat → Int32) (J : Nat → Int64) (B : Nat → Nat → Int32) (D : Nat → Nat → Int64) (a1 : Int32) (a2 : Int32) (Post : (Nat → Int32) → (Nat → Int64) → (Nat → Nat → Int32) → (Nat → Nat → Int64) → Prop) (sz : Nat) (hok : wp_LassoFinderModel_keep_ad55 I J B D a1 a2 Post) : Met l zy_LassoFinderModel_keep (Cond.code zy_LassoFinderModel_keep prog_14_method_59_code 4 none :: zTB) { frames := 0, cells := 0, slots := 0, locals := 0 } (va_Pc [.ref (ad 55), .int a1, .int a2] (zPre G K (wM ad K I J B D) sz)) (va_Qv (fun u : zS => Post u.1 u.2.1 u.2.2.1 u.2.2.2) (fun u t => zPost G K (va_A (wM ad K I J B D) sz) (wM ad K u.1 u.2.1 u.2.2.1 u.2.2.2) t) (va_A (wM ad K I J B D) sz)) 0 0 (va_A (wM ad K I J B D) sz) := by
  refine zMet (y := zy_LassoFinderModel_keep) (av := [.ref (ad 55), .int a1, .int a2]) (maxL := 4) (cc := prog_14_method_59_code) (ret := none) (W0 := (wM ad K I J B D)) (sz := sz) (G := G) (K := K) (wt := zTB) (mc := 0) (ms := 0) (Qf := fun A => va_Qv (fun u : zS => Post u.1 u.2.1 u.2.2.1 u.2.2.2) (fun u t => zPost G K A (wM ad K u.1 u.2.1 u.2.2.1 u.2.2.2) t) A) (by decide) (Nat.le_of_ble_eq_true rfl) ?_
  intro p e s m below meth c ls A hx hb hr hml hts hown hlocks hin hA hK H locs hw hsz hl
  clear hsz
  have hown : s.vm.findClass "LassoFinderModel" = some m.cls := hown
  have C : zCx p s m ([.ref (ad 55), .int a1, .int a2] : List Value).toArray meth c A G K prog_14_method_59_code none 4 "LassoFinderModel" := ⟨hx, hb, hr, hml, hts, hown, hlocks, hA, hK⟩
  have hl : lv_has ls 4 [(0, .ref (ad 55)), (1, .int a1), (2, .int a2)] := hl
  have hw : zW G A s.heap (wM ad K I J B D) H locs := hw
  unfold wp_LassoFinderModel_keep_ad55 at hok
  refine lv_bipush (v := 9) hx hb zd_LassoFinderModel_keep_0 (by decide) ?_
  refine lv_iload_n hx hb zd_LassoFinderModel_keep_2 rfl (lv_at hl 1 rfl) ?_
  refine lv_iconst (v := 3) hx hb zd_LassoFinderModel_keep_3 (by decide) ?_
  refine lv_irem hx hb zd_LassoFinderModel_keep_4 (by decide) ?_
  refine lv_topi (fun z1 ez1 => ?_)
  have hok := hok z1 ez1
  refine lv_imul hx hb zd_LassoFinderModel_keep_5 ?_
  refine lv_topi (fun z2 ez2 => ?_)
  have hok := hok z2 ez2
  refine lv_istore_n hx hb zd_LassoFinderModel_keep_6 rfl hl (by decide) rfl (fun ls hl => ?_)
  have hl : lv_has ls 4 [(3, .int z2), (0, .ref (ad 55)), (1, .int a1), (2, .int a2)] := hl
  refine lv_aload_n hx hb zd_LassoFinderModel_keep_7 rfl (lv_at hl 1 rfl) ?_
  refine lv_iload_n hx hb zd_LassoFinderModel_keep_8 rfl (lv_at hl 2 rfl) ?_
  refine lv_iconst (v := 3) hx hb zd_LassoFinderModel_keep_9 (by decide) ?_
  refine lv_idiv hx hb zd_LassoFinderModel_keep_10 (by decide) ?_
  refine lv_topi (fun z3 ez3 => ?_)
  have hok := hok z3 ez3
  refine lv_aload_n hx hb zd_LassoFinderModel_keep_11 rfl (lv_at hl 1 rfl) ?_
  refine lv_iload_n hx hb zd_LassoFinderModel_keep_12 rfl (lv_at hl 2 rfl) ?_
  refine lv_iconst (v := 3) hx hb zd_LassoFinderModel_keep_13 (by decide) ?_
  refine lv_idiv hx hb zd_LassoFinderModel_keep_14 (by decide) ?_
  refine lv_topi (fun z4 ez4 => ?_)
  have hok := hok z4 ez4
  refine va_iald (f := (B 52)) hx hb hK hw.1 55 0 wM_a55 rfl hok.1 zd_LassoFinderModel_keep_15 ?_
  have hok := hok.2
  refine lv_topi (fun z5 ez5 => ?_)
  have hok := hok z5 ez5
  refine lv_sipush (v := 511) hx hb zd_LassoFinderModel_keep_16 (by decide) ?_
  refine lv_iload_n hx hb zd_LassoFinderModel_keep_19 rfl (lv_at hl 0 rfl) ?_
  refine lv_ishl hx hb zd_LassoFinderModel_keep_20 ?_
  refine lv_topi (fun z6 ez6 => ?_)
  have hok := hok z6 ez6
  refine lv_iconst (v := (-1)) hx hb zd_LassoFinderModel_keep_21 (by decide) ?_
  refine lv_ixor hx hb zd_LassoFinderModel_keep_22 ?_
  refine lv_topi (fun z7 ez7 => ?_)
  have hok := hok z7 ez7
  refine lv_iand hx hb zd_LassoFinderModel_keep_23 ?_
  refine lv_topi (fun z8 ez8 => ?_)
  have hok := hok z8 ez8
  refine lv_iload_n hx hb zd_LassoFinderModel_keep_24 rfl (lv_at hl 3 rfl) ?_
  refine lv_iload_n hx hb zd_LassoFinderModel_keep_25 rfl (lv_at hl 0 rfl) ?_
  refine lv_ishl hx hb zd_LassoFinderModel_keep_26 ?_
  refine lv_topi (fun z9 ez9 => ?_)
  have hok := hok z9 ez9
  refine lv_ior hx hb zd_LassoFinderModel_keep_27 ?_
  refine lv_topi (fun z10 ez10 => ?_)
  have hok := hok z10 ez10
  refine va_iast (f := (B 52)) hx hb hK hw.1 hw.2.1 hw.2.2 55 0 wM_a55 rfl hok.1 zd_LassoFinderModel_keep_28 (fun H locs w91 w92 w93 => ?_)
  have hok := hok.2
  have hw := wM_t55 ⟨w91, w92, w93⟩
  exact (z_vret (u := (I, J, (va_up B 52 (upd (B 52) z3.toNatClampNeg z10)), D)) hx hb hr hlocks hw (List.range 58) wM_all wM_nd hok (Nat.le_of_ble_eq_true rfl) (Nat.le_of_ble_eq_true rfl) zd_LassoFinderModel_keep_29)
def wp_LassoFinderModel_keep_ad56 (I : Nat → Int32) (J : Nat → Int64) (B : Nat → Nat → Int32) (D : Nat → Nat → Int64) (a1 : Int32) (a2 : Int32) (Post : (Nat → Int32) → (Nat → Int64) → (Nat → Nat → Int32) → (Nat → Nat → Int64) → Prop) : Prop :=
  ∀ z1 : Int32, z1 = (a1 - a1 / 3 * 3) → ∀ z2 : Int32, z2 = (9 * z1) → ∀ z3 : Int32, z3 = (a1 / 3) → ∀ z4 : Int32, z4 = (a1 / 3) → vp_in z4 1024 ∧ ∀ z5 : Int32, z5 = ((B 53) z4.toNatClampNeg) → ∀ z6 : Int32, z6 = (511 <<< (z2 &&& 31)) → ∀ z7 : Int32, z7 = (z6 ^^^ (-1)) → ∀ z8 : Int32, z8 = (z5 &&& z7) → ∀ z9 : Int32, z9 = (a2 <<< (z2 &&& 31)) → ∀ z10 : Int32, z10 = (z8 ||| z9) → vp_in z3 1024 ∧ Post I J (va_up B 53 (upd (B 53) z3.toNatClampNeg z10)) D
set_option maxHeartbeats 8000000 in
set_option maxRecDepth 100000 in
theorem w_LassoFinderModel_keep_ad56 (l : Launch) (G : va_G) (K : Nat → ClassId) (ad : Nat → Nat) (I : Nat → Int32) (J : Nat → Int64) (B : Nat → Nat → Int32) (D : Nat → Nat → Int64) (a1 : Int32) (a2 : Int32) (Post : (Nat → Int32) → (Nat → Int64) → (Nat → Nat → Int32) → (Nat → Nat → Int64) → Prop) (sz : Nat) (hok : wp_LassoFinderModel_keep_ad56 I J B D a1 a2 Post) : Met l zy_LassoFinderModel_keep (Cond.code zy_LassoFinderModel_keep prog_14_method_59_code 4 none :: zTB) { frames := 0, cells := 0, slots := 0, locals := 0 } (va_Pc [.ref (ad 56), .int a1, .int a2] (zPre G K (wM ad K I J B D) sz)) (va_Qv (fun u : zS => Post u.1 u.2.1 u.2.2.1 u.2.2.2) (fun u t => zPost G K (va_A (wM ad K I J B D) sz) (wM ad K u.1 u.2.1 u.2.2.1 u.2.2.2) t) (va_A (wM ad K I J B D) sz)) 0 0 (va_A (wM ad K I J B D) sz) := by
  refine zMet (y := zy_LassoFinderModel_keep) (av := [.ref (ad 56), .int a1, .int a2]) (maxL := 4) (cc := prog_14_method_59_code) (ret := none) (W0 := (wM ad K I J B D)) (sz := sz) (G := G) (K := K) (wt := zTB) (mc := 0) (ms := 0) (Qf := fun A => va_Qv (fun u : zS => Post u.1 u.2.1 u.2.2.1 u.2.2.2) (fun u t => zPost G K A (wM ad K u.1 u.2.1 u.2.2.1 u.2.2.2) t) A) (by decide) (Nat.le_of_ble_eq_true rfl) ?_
  intro p e s m below meth c ls A hx hb hr hml hts hown hlocks hin hA hK H locs hw hsz hl
  clear hsz
  have hown : s.vm.findClass "LassoFinderModel" = some m.cls := hown
  have C : zCx p s m ([.ref (ad 56), .int a1, .int a2] : List Value).toArray meth c A G K prog_14_method_59_code none 4 "LassoFinderModel" := ⟨hx, hb, hr, hml, hts, hown, hlocks, hA, hK⟩
  have hl : lv_has ls 4 [(0, .ref (ad 56)), (1, .int a1), (2, .int a2)] := hl
  have hw : zW G A s.heap (wM ad K I J B D) H locs := hw
  unfold wp_LassoFinderModel_keep_ad56 at hok
  refine lv_bipush (v := 9) hx hb zd_LassoFinderModel_keep_0 (by decide) ?_
  refine lv_iload_n hx hb zd_LassoFinderModel_keep_2 rfl (lv_at hl 1 rfl) ?_
  refine lv_iconst (v := 3) hx hb zd_LassoFinderModel_keep_3 (by decide) ?_
  refine lv_irem hx hb zd_LassoFinderModel_keep_4 (by decide) ?_
  refine lv_topi (fun z1 ez1 => ?_)
  have hok := hok z1 ez1
  refine lv_imul hx hb zd_LassoFinderModel_keep_5 ?_
  refine lv_topi (fun z2 ez2 => ?_)
  have hok := hok z2 ez2
  refine lv_istore_n hx hb zd_LassoFinderModel_keep_6 rfl hl (by decide) rfl (fun ls hl => ?_)
  have hl : lv_has ls 4 [(3, .int z2), (0, .ref (ad 56)), (1, .int a1), (2, .int a2)] := hl
  refine lv_aload_n hx hb zd_LassoFinderModel_keep_7 rfl (lv_at hl 1 rfl) ?_
  refine lv_iload_n hx hb zd_LassoFinderModel_keep_8 rfl (lv_at hl 2 rfl) ?_
  refine lv_iconst (v := 3) hx hb zd_LassoFinderModel_keep_9 (by decide) ?_
  refine lv_idiv hx hb zd_LassoFinderModel_keep_10 (by decide) ?_
  refine lv_topi (fun z3 ez3 => ?_)
  have hok := hok z3 ez3
  refine lv_aload_n hx hb zd_LassoFinderModel_keep_11 rfl (lv_at hl 1 rfl) ?_
  refine lv_iload_n hx hb zd_LassoFinderModel_keep_12 rfl (lv_at hl 2 rfl) ?_
  refine lv_iconst (v := 3) hx hb zd_LassoFinderModel_keep_13 (by decide) ?_
  refine lv_idiv hx hb zd_LassoFinderModel_keep_14 (by decide) ?_
  refine lv_topi (fun z4 ez4 => ?_)
  have hok := hok z4 ez4
  refine va_iald (f := (B 53)) hx hb hK hw.1 56 0 wM_a56 rfl hok.1 zd_LassoFinderModel_keep_15 ?_
  have hok := hok.2
  refine lv_topi (fun z5 ez5 => ?_)
  have hok := hok z5 ez5
  refine lv_sipush (v := 511) hx hb zd_LassoFinderModel_keep_16 (by decide) ?_
  refine lv_iload_n hx hb zd_LassoFinderModel_keep_19 rfl (lv_at hl 0 rfl) ?_
  refine lv_ishl hx hb zd_LassoFinderModel_keep_20 ?_
  refine lv_topi (fun z6 ez6 => ?_)
  have hok := hok z6 ez6
  refine lv_iconst (v := (-1)) hx hb zd_LassoFinderModel_keep_21 (by decide) ?_
  refine lv_ixor hx hb zd_LassoFinderModel_keep_22 ?_
  refine lv_topi (fun z7 ez7 => ?_)
  have hok := hok z7 ez7
  refine lv_iand hx hb zd_LassoFinderModel_keep_23 ?_
  refine lv_topi (fun z8 ez8 => ?_)
  have hok := hok z8 ez8
  refine lv_iload_n hx hb zd_LassoFinderModel_keep_24 rfl (lv_at hl 3 rfl) ?_
  refine lv_iload_n hx hb zd_LassoFinderModel_keep_25 rfl (lv_at hl 0 rfl) ?_
  refine lv_ishl hx hb zd_LassoFinderModel_keep_26 ?_
  refine lv_topi (fun z9 ez9 => ?_)
  have hok := hok z9 ez9
  refine lv_ior hx hb zd_LassoFinderModel_keep_27 ?_
  refine lv_topi (fun z10 ez10 => ?_)
  have hok := hok z10 ez10
  refine va_iast (f := (B 53)) hx hb hK hw.1 hw.2.1 hw.2.2 56 0 wM_a56 rfl hok.1 zd_LassoFinderModel_keep_28 (fun H locs w91 w92 w93 => ?_)
  have hok := hok.2
  have hw := wM_t56 ⟨w91, w92, w93⟩
  exact (z_vret (u := (I, J, (va_up B 53 (upd (B 53) z3.toNatClampNeg z10)), D)) hx hb hr hlocks hw (List.range 58) wM_all wM_nd hok (Nat.le_of_ble_eq_true rfl) (Nat.le_of_ble_eq_true rfl) zd_LassoFinderModel_keep_29)
def wc_LassoFinderModel_away_23 (a0 : Int32) (Post : Int32 → (Nat → Int32) → (Nat → Int64) → (Nat → Nat → Int32) → (Nat → Nat → Int64) → Prop) (y0 : Int32) (I : Nat → Int32) (J : Nat → Int64) (B : Nat → Nat → Int32) (D : Nat → Nat → Int64) : Prop :=
  Post y0 I J B D
def wp_LassoFinderModel_away (I : Nat → Int32) (J : Nat → Int64) (B : Nat → Nat → Int32) (D : Nat → Nat → Int64) (a0 : Int32) (Post : Int32 → (Nat → Int32) → (Nat → Int64) → (Nat → Nat → Int32) → (Nat → Nat → Int64) → Prop) : Prop :=
  vp_in a0 6144 ∧ ∀ z1 : Int32, z1 = ((B 51) a0.toNatClampNeg) → (((0 : Int32) ≤ z1 → vp_in a0 6144 ∧ ∀ z3 : Int32, z3 = ((B 51) a0.toNatClampNeg) → ∀ z4 : Int32, z4 = (z3 &&& 4095) → wc_LassoFinderModel_away_23 a0 Post z4 I J B D) ∧ (¬ (0 : Int32) ≤ z1 → wc_LassoFinderModel_away_23 a0 Post (-1) I J B D))
set_option maxHeartbeats 8000000 in
set_option maxRecDepth 100000 in
theorem wJ_LassoFinderModel_away_23 {p : Program} {l : Launch} {e : Env} {s : State} {m : MethodId} {below : List Frame} {meth : Method} {c : Code} {A : Nat → Prop} (G : va_G) (K : Nat → ClassId) (ad : Nat → Nat) (a0 : Int32) (Post : Int32 → (Nat → Int32) → (Nat → Int64) → (Nat → Nat → Int32) → (Nat → Nat → Int64) → Prop) (C : zCx p s m ([.ref (ad 0), .int a0] : List Value).toArray meth c A G K prog_14_method_55_code (some .int) 2 "LassoFinderModel") : ∀ (y0 : Int32) (I : Nat → Int32) (J : Nat → Int64) (B : Nat → Nat → Int32) (D : Nat → Nat → Int64) (ls : Array Slot) (H : Heap) (locs : List Loc), wc_LassoFinderModel_away_23 a0 Post y0 I J B D → lv_has ls 2 [] → zW G A s.heap (wM ad K I J B D) H locs → W p l e { frames := 0, cells := 0, slots := 0, locals := 0 } s m ([.ref (ad 0), .int a0] : List Value).toArray below meth c H locs 0 0 (MQ below (va_Qi (fun (r : Int32) (u : zS) => Post r u.1 u.2.1 u.2.2.1 u.2.2.2) (fun u t => zPost G K A (wM ad K u.1 u.2.1 u.2.2.1 u.2.2.2) t) A) ([.ref (ad 0), .int a0] : List Value).toArray s 0 0 A) (F0 m 23 ls [.int y0]) := by
  obtain ⟨hx, hb, hr, hml, hts, hown, hlocks, hA, hK⟩ := id C
  intro y0 I J B D ls H locs hok hl hw
  unfold wc_LassoFinderModel_away_23 at hok
  exact (z_iret (u := (I, J, B, D)) hx hb hr hlocks rfl hw (List.range 58) wM_all wM_nd hok (Nat.le_of_ble_eq_true rfl) (Nat.le_of_ble_eq_true rfl) zd_LassoFinderModel_away_23)
set_option maxHeartbeats 8000000 in
set_option maxRecDepth 100000 in
theorem w_LassoFinderModel_away (l : Launch) (G : va_G) (K : Nat → ClassId) (ad : Nat → Nat) (I : Nat → Int32) (J : Nat → Int64) (B : Nat → Nat → Int32) (D : Nat → Nat → Int64) (a0 : Int32) (Post : Int32 → (Nat → Int32) → (Nat → Int64) → (Nat → Nat → Int32) → (Nat → Nat → Int64) → Prop) (sz : Nat) (hok : wp_LassoFinderModel_away I J B D a0 Post) : Met l zy_LassoFinderModel_away (Cond.code zy_LassoFinderModel_away prog_14_method_55_code 2 (some .int) :: zTB) { frames := 0, cells := 0, slots := 0, locals := 0 } (va_Pc [.ref (ad 0), .int a0] (zPre G K (wM ad K I J B D) sz)) (va_Qi (fun (r : Int32) (u : zS) => Post r u.1 u.2.1 u.2.2.1 u.2.2.2) (fun u t => zPost G K (va_A (wM ad K I J B D) sz) (wM ad K u.1 u.2.1 u.2.2.1 u.2.2.2) t) (va_A (wM ad K I J B D) sz)) 0 0 (va_A (wM ad K I J B D) sz) := by
  refine zMet (y := zy_LassoFinderModel_away) (av := [.ref (ad 0), .int a0]) (maxL := 2) (cc := prog_14_method_55_code) (ret := (some .int)) (W0 := (wM ad K I J B D)) (sz := sz) (G := G) (K := K) (wt := zTB) (mc := 0) (ms := 0) (Qf := fun A => va_Qi (fun (r : Int32) (u : zS) => Post r u.1 u.2.1 u.2.2.1 u.2.2.2) (fun u t => zPost G K A (wM ad K u.1 u.2.1 u.2.2.1 u.2.2.2) t) A) (by decide) (Nat.le_of_ble_eq_true rfl) ?_
  intro p e s m below meth c ls A hx hb hr hml hts hown hlocks hin hA hK H locs hw hsz hl
  clear hsz
  have hown : s.vm.findClass "LassoFinderModel" = some m.cls := hown
  have C : zCx p s m ([.ref (ad 0), .int a0] : List Value).toArray meth c A G K prog_14_method_55_code (some .int) 2 "LassoFinderModel" := ⟨hx, hb, hr, hml, hts, hown, hlocks, hA, hK⟩
  have hl : lv_has ls 2 [(0, .ref (ad 0)), (1, .int a0)] := hl
  have hw : zW G A s.heap (wM ad K I J B D) H locs := hw
  unfold wp_LassoFinderModel_away at hok
  refine lv_aload_n hx hb zd_LassoFinderModel_away_0 rfl (lv_at hl 0 rfl) ?_
  refine z_get (v := .ref (ad 54)) hx hb hts hown hK hw zZ12 0 wM_g0 77 (by decide) zm_288 rfl zd_LassoFinderModel_away_1 ?_
  refine lv_iload_n hx hb zd_LassoFinderModel_away_4 rfl (lv_at hl 1 rfl) ?_
  refine va_iald (f := (B 51)) hx hb hK hw.1 54 0 wM_a54 rfl hok.1 zd_LassoFinderModel_away_5 ?_
  have hok := hok.2
  refine lv_topi (fun z1 ez1 => ?_)
  have hok := hok z1 ez1
  refine lv_if_ge (tgt := 13) hx hb zd_LassoFinderModel_away_6 (by decide) (fun hc2 => ?_) (fun hc2 => ?_)
  · have hok := hok.1 hc2
    refine lv_aload_n hx hb zd_LassoFinderModel_away_13 rfl (lv_at hl 0 rfl) ?_
    refine z_get (v := .ref (ad 54)) hx hb hts hown hK hw zZ12 0 wM_g0 77 (by decide) zm_288 rfl zd_LassoFinderModel_away_14 ?_
    refine lv_iload_n hx hb zd_LassoFinderModel_away_17 rfl (lv_at hl 1 rfl) ?_
    refine va_iald (f := (B 51)) hx hb hK hw.1 54 0 wM_a54 rfl hok.1 zd_LassoFinderModel_away_18 ?_
    have hok := hok.2
    refine lv_topi (fun z3 ez3 => ?_)
    have hok := hok z3 ez3
    refine lv_sipush (v := 4095) hx hb zd_LassoFinderModel_away_19 (by decide) ?_
    refine lv_iand hx hb zd_LassoFinderModel_away_22 ?_
    refine lv_topi (fun z4 ez4 => ?_)
    have hok := hok z4 ez4
    exact wJ_LassoFinderModel_away_23 G K ad a0 Post C z4 I J B D ls H locs hok (lv_sub hl [] rfl) hw
  · have hok := hok.2 hc2
    refine lv_iconst (v := (-1)) hx hb zd_LassoFinderModel_away_9 (by decide) ?_
    refine lv_goto (tgt := 23) hx hb zd_LassoFinderModel_away_10 (by decide) ?_
    exact wJ_LassoFinderModel_away_23 G K ad a0 Post C (-1) I J B D ls H locs hok (lv_sub hl [] rfl) hw
def wc_LassoFinderModel_before_63 (a0 : Int32) (a1 : Int32) (a2 : Int32) (a3 : Int32) (Post : Int32 → (Nat → Int32) → (Nat → Int64) → (Nat → Nat → Int32) → (Nat → Nat → Int64) → Prop) (y0 : Int32) (I : Nat → Int32) (J : Nat → Int64) (B : Nat → Nat → Int32) (D : Nat → Nat → Int64) : Prop :=
  Post y0 I J B D
def wp_LassoFinderModel_before (I : Nat → Int32) (J : Nat → Int64) (B : Nat → Nat → Int32) (D : Nat → Nat → Int64) (a0 : Int32) (a1 : Int32) (a2 : Int32) (a3 : Int32) (Post : Int32 → (Nat → Int32) → (Nat → Int64) → (Nat → Nat → Int32) → (Nat → Nat → Int64) → Prop) : Prop :=
  vp_in a0 3 ∧ ∀ z1 : Int32, z1 = ((B 43) a0.toNatClampNeg) → vp_in z1 240 ∧ ∀ z2 : Int32, z2 = ((B 41) z1.toNatClampNeg) → ((¬ z2 = 14 → ((¬ z2 = 15 → ((¬ z2 = 12 → ∀ z6 : Int32, z6 = (a1 ||| a3) → ∀ z7 : Int32, z7 = (a2 &&& z6) → wc_LassoFinderModel_before_63 a0 a1 a2 a3 Post z7 I J B D) ∧ (z2 = 12 → ∀ z8 : Int32, z8 = (a1 &&& a3) → ∀ z9 : Int32, z9 = (a2 ||| z8) → wc_LassoFinderModel_before_63 a0 a1 a2 a3 Post z9 I J B D))) ∧ (z2 = 15 → ∀ z10 : Int32, z10 = (a1 ||| a3) → wc_LassoFinderModel_before_63 a0 a1 a2 a3 Post z10 I J B D))) ∧ (z2 = 14 → ∀ z11 : Int32, z11 = (a1 &&& a3) → wc_LassoFinderModel_before_63 a0 a1 a2 a3 Post z11 I J B D))
set_option maxHeartbeats 8000000 in
set_option maxRecDepth 100000 in
theorem wJ_LassoFinderModel_before_63 {p : Program} {l : Launch} {e : Env} {s : State} {m : MethodId} {below : List Frame} {meth : Method} {c : Code} {A : Nat → Prop} (G : va_G) (K : Nat → ClassId) (ad : Nat → Nat) (a0 : Int32) (a1 : Int32) (a2 : Int32) (a3 : Int32) (Post : Int32 → (Nat → Int32) → (Nat → Int64) → (Nat → Nat → Int32) → (Nat → Nat → Int64) → Prop) (C : zCx p s m ([.ref (ad 0), .int a0, .int a1, .int a2, .int a3] : List Value).toArray meth c A G K prog_14_method_51_code (some .int) 6 "LassoFinderModel") : ∀ (y0 : Int32) (I : Nat → Int32) (J : Nat → Int64) (B : Nat → Nat → Int32) (D : Nat → Nat → Int64) (ls : Array Slot) (H : Heap) (locs : List Loc), wc_LassoFinderModel_before_63 a0 a1 a2 a3 Post y0 I J B D → lv_has ls 6 [] → zW G A s.heap (wM ad K I J B D) H locs → W p l e { frames := 0, cells := 0, slots := 0, locals := 0 } s m ([.ref (ad 0), .int a0, .int a1, .int a2, .int a3] : List Value).toArray below meth c H locs 0 0 (MQ below (va_Qi (fun (r : Int32) (u : zS) => Post r u.1 u.2.1 u.2.2.1 u.2.2.2) (fun u t => zPost G K A (wM ad K u.1 u.2.1 u.2.2.1 u.2.2.2) t) A) ([.ref (ad 0), .int a0, .int a1, .int a2, .int a3] : List Value).toArray s 0 0 A) (F0 m 63 ls [.int y0]) := by
  obtain ⟨hx, hb, hr, hml, hts, hown, hlocks, hA, hK⟩ := id C
  intro y0 I J B D ls H locs hok hl hw
  unfold wc_LassoFinderModel_before_63 at hok
  exact (z_iret (u := (I, J, B, D)) hx hb hr hlocks rfl hw (List.range 58) wM_all wM_nd hok (Nat.le_of_ble_eq_true rfl) (Nat.le_of_ble_eq_true rfl) zd_LassoFinderModel_before_63)
set_option maxHeartbeats 8000000 in
set_option maxRecDepth 100000 in
theorem w_LassoFinderModel_before (l : Launch) (G : va_G) (K : Nat → ClassId) (ad : Nat → Nat) (I : Nat → Int32) (J : Nat → Int64) (B : Nat → Nat → Int32) (D : Nat → Nat → Int64) (a0 : Int32) (a1 : Int32) (a2 : Int32) (a3 : Int32) (Post : Int32 → (Nat → Int32) → (Nat → Int64) → (Nat → Nat → Int32) → (Nat → Nat → Int64) → Prop) (sz : Nat) (hok : wp_LassoFinderModel_before I J B D a0 a1 a2 a3 Post) : Met l zy_LassoFinderModel_before (Cond.code zy_LassoFinderModel_before prog_14_method_51_code 6 (some .int) :: zTB) { frames := 0, cells := 0, slots := 0, locals := 0 } (va_Pc [.ref (ad 0), .int a0, .int a1, .int a2, .int a3] (zPre G K (wM ad K I J B D) sz)) (va_Qi (fun (r : Int32) (u : zS) => Post r u.1 u.2.1 u.2.2.1 u.2.2.2) (fun u t => zPost G K (va_A (wM ad K I J B D) sz) (wM ad K u.1 u.2.1 u.2.2.1 u.2.2.2) t) (va_A (wM ad K I J B D) sz)) 0 0 (va_A (wM ad K I J B D) sz) := by
  refine zMet (y := zy_LassoFinderModel_before) (av := [.ref (ad 0), .int a0, .int a1, .int a2, .int a3]) (maxL := 6) (cc := prog_14_method_51_code) (ret := (some .int)) (W0 := (wM ad K I J B D)) (sz := sz) (G := G) (K := K) (wt := zTB) (mc := 0) (ms := 0) (Qf := fun A => va_Qi (fun (r : Int32) (u : zS) => Post r u.1 u.2.1 u.2.2.1 u.2.2.2) (fun u t => zPost G K A (wM ad K u.1 u.2.1 u.2.2.1 u.2.2.2) t) A) (by decide) (Nat.le_of_ble_eq_true rfl) ?_
  intro p e s m below meth c ls A hx hb hr hml hts hown hlocks hin hA hK H locs hw hsz hl
  clear hsz
  have hown : s.vm.findClass "LassoFinderModel" = some m.cls := hown
  have C : zCx p s m ([.ref (ad 0), .int a0, .int a1, .int a2, .int a3] : List Value).toArray meth c A G K prog_14_method_51_code (some .int) 6 "LassoFinderModel" := ⟨hx, hb, hr, hml, hts, hown, hlocks, hA, hK⟩
  have hl : lv_has ls 6 [(0, .ref (ad 0)), (1, .int a0), (2, .int a1), (3, .int a2), (4, .int a3)] := hl
  have hw : zW G A s.heap (wM ad K I J B D) H locs := hw
  unfold wp_LassoFinderModel_before at hok
  refine lv_aload_n hx hb zd_LassoFinderModel_before_0 rfl (lv_at hl 0 rfl) ?_
  refine z_get (v := .ref (ad 44)) hx hb hts hown hK hw zZ12 0 wM_g0 63 (by decide) zm_278 rfl zd_LassoFinderModel_before_1 ?_
  refine lv_aload_n hx hb zd_LassoFinderModel_before_4 rfl (lv_at hl 0 rfl) ?_
  refine z_get (v := .ref (ad 46)) hx hb hts hown hK hw zZ12 0 wM_g0 68 (by decide) zm_280 rfl zd_LassoFinderModel_before_5 ?_
  refine lv_iload_n hx hb zd_LassoFinderModel_before_8 rfl (lv_at hl 1 rfl) ?_
  refine va_iald (f := (B 43)) hx hb hK hw.1 46 0 wM_a46 rfl hok.1 zd_LassoFinderModel_before_9 ?_
  have hok := hok.2
  refine lv_topi (fun z1 ez1 => ?_)
  have hok := hok z1 ez1
  refine va_iald (f := (B 41)) hx hb hK hw.1 44 0 wM_a44 rfl hok.1 zd_LassoFinderModel_before_10 ?_
  have hok := hok.2
  refine lv_topi (fun z2 ez2 => ?_)
  have hok := hok z2 ez2
  refine lv_istore hx hb zd_LassoFinderModel_before_11 hl (by decide) rfl (fun ls hl => ?_)
  have hl : lv_has ls 6 [(5, .int z2), (0, .ref (ad 0)), (1, .int a0), (2, .int a1), (3, .int a2), (4, .int a3)] := hl
  refine lv_iload hx hb zd_LassoFinderModel_before_13 (lv_at hl 0 rfl) ?_
  refine lv_bipush (v := 14) hx hb zd_LassoFinderModel_before_15 (by decide) ?_
  refine lv_icmp_ne (tgt := 27) hx hb zd_LassoFinderModel_before_17 (by decide) (fun hc3 => ?_) (fun hc3 => ?_)
  · have hok := hok.1 hc3
    refine lv_iload hx hb zd_LassoFinderModel_before_27 (lv_at hl 0 rfl) ?_
    refine lv_bipush (v := 15) hx hb zd_LassoFinderModel_before_29 (by decide) ?_
    refine lv_icmp_ne (tgt := 41) hx hb zd_LassoFinderModel_before_31 (by decide) (fun hc4 => ?_) (fun hc4 => ?_)
    · have hok := hok.1 hc4
      refine lv_iload hx hb zd_LassoFinderModel_before_41 (lv_at hl 0 rfl) ?_
      refine lv_bipush (v := 12) hx hb zd_LassoFinderModel_before_43 (by decide) ?_
      refine lv_icmp_ne (tgt := 57) hx hb zd_LassoFinderModel_before_45 (by decide) (fun hc5 => ?_) (fun hc5 => ?_)
      · have hok := hok.1 hc5
        refine lv_iload_n hx hb zd_LassoFinderModel_before_57 rfl (lv_at hl 4 rfl) ?_
        refine lv_iload_n hx hb zd_LassoFinderModel_before_58 rfl (lv_at hl 3 rfl) ?_
        refine lv_iload hx hb zd_LassoFinderModel_before_59 (lv_at hl 5 rfl) ?_
        refine lv_ior hx hb zd_LassoFinderModel_before_61 ?_
        refine lv_topi (fun z6 ez6 => ?_)
        have hok := hok z6 ez6
        refine lv_iand hx hb zd_LassoFinderModel_before_62 ?_
        refine lv_topi (fun z7 ez7 => ?_)
        have hok := hok z7 ez7
        exact wJ_LassoFinderModel_before_63 G K ad a0 a1 a2 a3 Post C z7 I J B D ls H locs hok (lv_sub hl [] rfl) hw
      · have hok := hok.2 hc5
        refine lv_iload_n hx hb zd_LassoFinderModel_before_48 rfl (lv_at hl 4 rfl) ?_
        refine lv_iload_n hx hb zd_LassoFinderModel_before_49 rfl (lv_at hl 3 rfl) ?_
        refine lv_iload hx hb zd_LassoFinderModel_before_50 (lv_at hl 5 rfl) ?_
        refine lv_iand hx hb zd_LassoFinderModel_before_52 ?_
        refine lv_topi (fun z8 ez8 => ?_)
        have hok := hok z8 ez8
        refine lv_ior hx hb zd_LassoFinderModel_before_53 ?_
        refine lv_topi (fun z9 ez9 => ?_)
        have hok := hok z9 ez9
        refine lv_goto (tgt := 63) hx hb zd_LassoFinderModel_before_54 (by decide) ?_
        exact wJ_LassoFinderModel_before_63 G K ad a0 a1 a2 a3 Post C z9 I J B D ls H locs hok (lv_sub hl [] rfl) hw
    · have hok := hok.2 hc4
      refine lv_iload_n hx hb zd_LassoFinderModel_before_34 rfl (lv_at hl 3 rfl) ?_
      refine lv_iload hx hb zd_LassoFinderModel_before_35 (lv_at hl 5 rfl) ?_
      refine lv_ior hx hb zd_LassoFinderModel_before_37 ?_
      refine lv_topi (fun z10 ez10 => ?_)
      have hok := hok z10 ez10
      refine lv_goto (tgt := 63) hx hb zd_LassoFinderModel_before_38 (by decide) ?_
      exact wJ_LassoFinderModel_before_63 G K ad a0 a1 a2 a3 Post C z10 I J B D ls H locs hok (lv_sub hl [] rfl) hw
  · have hok := hok.2 hc3
    refine lv_iload_n hx hb zd_LassoFinderModel_before_20 rfl (lv_at hl 3 rfl) ?_
    refine lv_iload hx hb zd_LassoFinderModel_before_21 (lv_at hl 5 rfl) ?_
    refine lv_iand hx hb zd_LassoFinderModel_before_23 ?_
    refine lv_topi (fun z11 ez11 => ?_)
    have hok := hok z11 ez11
    refine lv_goto (tgt := 63) hx hb zd_LassoFinderModel_before_24 (by decide) ?_
    exact wJ_LassoFinderModel_before_63 G K ad a0 a1 a2 a3 Post C z11 I J B D ls H locs hok (lv_sub hl [] rfl) hw
def wb_LassoFinderModel_truthAt_5 (a0 : Int32) (a1 : Int32) (K5 : Int32 → Int32 → Int32 → Int32 → (Nat → Int32) → (Nat → Int64) → (Nat → Nat → Int32) → (Nat → Nat → Int64) → Prop) (Post : Int32 → (Nat → Int32) → (Nat → Int64) → (Nat → Nat → Int32) → (Nat → Nat → Int64) → Prop) (x1 : Int32) (x2 : Int32) (x3 : Int32) (x4 : Int32) (I : Nat → Int32) (J : Nat → Int64) (B : Nat → Nat → Int32) (D : Nat → Nat → Int64) : Prop :=
  (((I 20) ≤ x4 → Post x3 I J B D) ∧ (¬ (I 20) ≤ x4 → ∀ z2 : Int32, z2 = (8 * x1) → ∀ z3 : Int32, z3 = (z2 + x3) → vp_in z3 768 ∧ ∀ z4 : Int32, z4 = ((B 48) z3.toNatClampNeg) → ∀ z5 : Int32, z5 = (2 * x4) → ∀ z6 : Int32, z6 = (z4 >>> (z5 &&& 31)) → ∀ z7 : Int32, z7 = (z6 &&& 1) → ∀ z8 : Int32, z8 = (2 * x4) → ∀ z9 : Int32, z9 = (z8 + 1) → ∀ z10 : Int32, z10 = (z4 >>> (z9 &&& 31)) → ∀ z11 : Int32, z11 = (z10 &&& 1) → ∀ z12 : Int32, z12 = (x2 >>> (x4 &&& 31)) → ∀ z13 : Int32, z13 = (z12 &&& 1) → wp_LassoFinderModel_before I J B D x4 z7 z11 z13 (fun r14 I14 J14 B14 D14 => ∀ z15 : Int32, z15 = (r14 <<< (x4 &&& 31)) → ∀ z16 : Int32, z16 = (x3 ||| z15) → ∀ z17 : Int32, z17 = (x4 + 1) → K5 x1 x2 z16 z17 I14 J14 B14 D14)))
def wl_LassoFinderModel_truthAt_5 (a0 : Int32) (a1 : Int32) (Post : Int32 → (Nat → Int32) → (Nat → Int64) → (Nat → Nat → Int32) → (Nat → Nat → Int64) → Prop) (n : Nat) : Int32 → Int32 → Int32 → Int32 → (Nat → Int32) → (Nat → Int64) → (Nat → Nat → Int32) → (Nat → Nat → Int64) → Prop := Nat.rec (fun _ _ _ _ _ _ _ _ => False) (fun _ r => wb_LassoFinderModel_truthAt_5 a0 a1 r Post) n
def wp_LassoFinderModel_truthAt (I : Nat → Int32) (J : Nat → Int64) (B : Nat → Nat → Int32) (D : Nat → Nat → Int64) (a0 : Int32) (a1 : Int32) (Post : Int32 → (Nat → Int32) → (Nat → Int64) → (Nat → Nat → Int32) → (Nat → Nat → Int64) → Prop) : Prop :=
  ∃ n : Nat, wl_LassoFinderModel_truthAt_5 a0 a1 Post n a0 a1 0 0 I J B D
set_option maxHeartbeats 8000000 in
set_option maxRecDepth 100000 in
theorem wB_LassoFinderModel_truthAt_5 {p : Program} {l : Launch} {e : Env} {s : State} {m : MethodId} {below : List Frame} {meth : Method} {c : Code} {A : Nat → Prop} (G : va_G) (K : Nat → ClassId) (ad : Nat → Nat) (a0 : Int32) (a1 : Int32) (Post : Int32 → (Nat → Int32) → (Nat → Int64) → (Nat → Nat → Int32) → (Nat → Nat → Int64) → Prop) (C : zCx p s m ([.ref (ad 0), .int a0, .int a1] : List Value).toArray meth c A G K prog_14_method_52_code (some .int) 6 "LassoFinderModel") (K5 : Int32 → Int32 → Int32 → Int32 → (Nat → Int32) → (Nat → Int64) → (Nat → Nat → Int32) → (Nat → Nat → Int64) → Prop) (kh5 : ∀ (x1 : Int32) (x2 : Int32) (x3 : Int32) (x4 : Int32) (I : Nat → Int32) (J : Nat → Int64) (B : Nat → Nat → Int32) (D : Nat → Nat → Int64) (ls : Array Slot) (H : Heap) (locs : List Loc), K5 x1 x2 x3 x4 I J B D → lv_has ls 6 [(0, .ref (ad 0)), (1, .int x1), (2, .int x2), (3, .int x3), (4, .int x4)] → zW G A s.heap (wM ad K I J B D) H locs → W p l e { frames := 1, cells := 0, slots := 0, locals := 25 } s m ([.ref (ad 0), .int a0, .int a1] : List Value).toArray below meth c H locs 0 0 (MQ below (va_Qi (fun (r : Int32) (u : zS) => Post r u.1 u.2.1 u.2.2.1 u.2.2.2) (fun u t => zPost G K A (wM ad K u.1 u.2.1 u.2.2.1 u.2.2.2) t) A) ([.ref (ad 0), .int a0, .int a1] : List Value).toArray s 0 0 A) (F0 m 5 ls [])) : ∀ (x1 : Int32) (x2 : Int32) (x3 : Int32) (x4 : Int32) (I : Nat → Int32) (J : Nat → Int64) (B : Nat → Nat → Int32) (D : Nat → Nat → Int64) (ls : Array Slot) (H : Heap) (locs : List Loc), wb_LassoFinderModel_truthAt_5 a0 a1 K5 Post x1 x2 x3 x4 I J B D → lv_has ls 6 [(0, .ref (ad 0)), (1, .int x1), (2, .int x2), (3, .int x3), (4, .int x4)] → zW G A s.heap (wM ad K I J B D) H locs → W p l e { frames := 1, cells := 0, slots := 0, locals := 25 } s m ([.ref (ad 0), .int a0, .int a1] : List Value).toArray below meth c H locs 0 0 (MQ below (va_Qi (fun (r : Int32) (u : zS) => Post r u.1 u.2.1 u.2.2.1 u.2.2.2) (fun u t => zPost G K A (wM ad K u.1 u.2.1 u.2.2.1 u.2.2.2) t) A) ([.ref (ad 0), .int a0, .int a1] : List Value).toArray s 0 0 A) (F0 m 5 ls []) := by
  obtain ⟨hx, hb, hr, hml, hts, hown, hlocks, hA, hK⟩ := id C
  intro x1 x2 x3 x4 I J B D ls H locs hok hl hw
  unfold wb_LassoFinderModel_truthAt_5 at hok
  refine lv_iload hx hb zd_LassoFinderModel_truthAt_5 (lv_at hl 4 rfl) ?_
  refine lv_aload_n hx hb zd_LassoFinderModel_truthAt_7 rfl (lv_at hl 0 rfl) ?_
  refine z_get (v := .int (I 20)) hx hb hts hown hK hw zZ12 0 wM_g0 64 (by decide) zm_356 rfl zd_LassoFinderModel_truthAt_8 ?_
  refine lv_icmp_ge (tgt := 71) hx hb zd_LassoFinderModel_truthAt_11 (by decide) (fun hc1 => ?_) (fun hc1 => ?_)
  · have hok := hok.1 hc1
    refine lv_iload_n hx hb zd_LassoFinderModel_truthAt_71 rfl (lv_at hl 3 rfl) ?_
    exact (z_iret (u := (I, J, B, D)) hx hb hr hlocks rfl hw (List.range 58) wM_all wM_nd hok (Nat.le_of_ble_eq_true rfl) (Nat.le_of_ble_eq_true rfl) zd_LassoFinderModel_truthAt_72)
  · have hok := hok.2 hc1
    refine lv_aload_n hx hb zd_LassoFinderModel_truthAt_14 rfl (lv_at hl 0 rfl) ?_
    refine z_get (v := .ref (ad 51)) hx hb hts hown hK hw zZ12 0 wM_g0 74 (by decide) zm_285 rfl zd_LassoFinderModel_truthAt_15 ?_
    refine lv_bipush (v := 8) hx hb zd_LassoFinderModel_truthAt_18 (by decide) ?_
    refine lv_iload_n hx hb zd_LassoFinderModel_truthAt_20 rfl (lv_at hl 1 rfl) ?_
    refine lv_imul hx hb zd_LassoFinderModel_truthAt_21 ?_
    refine lv_topi (fun z2 ez2 => ?_)
    have hok := hok z2 ez2
    refine lv_iload_n hx hb zd_LassoFinderModel_truthAt_22 rfl (lv_at hl 3 rfl) ?_
    refine lv_iadd hx hb zd_LassoFinderModel_truthAt_23 ?_
    refine lv_topi (fun z3 ez3 => ?_)
    have hok := hok z3 ez3
    refine va_iald (f := (B 48)) hx hb hK hw.1 51 0 wM_a51 rfl hok.1 zd_LassoFinderModel_truthAt_24 ?_
    have hok := hok.2
    refine lv_topi (fun z4 ez4 => ?_)
    have hok := hok z4 ez4
    refine lv_istore hx hb zd_LassoFinderModel_truthAt_25 hl (by decide) rfl (fun ls hl => ?_)
    have hl : lv_has ls 6 [(5, .int z4), (0, .ref (ad 0)), (1, .int x1), (2, .int x2), (3, .int x3), (4, .int x4)] := hl
    refine lv_iload_n hx hb zd_LassoFinderModel_truthAt_27 rfl (lv_at hl 4 rfl) ?_
    refine lv_aload_n hx hb zd_LassoFinderModel_truthAt_28 rfl (lv_at hl 1 rfl) ?_
    refine lv_iload hx hb zd_LassoFinderModel_truthAt_29 (lv_at hl 5 rfl) ?_
    refine lv_iload hx hb zd_LassoFinderModel_truthAt_31 (lv_at hl 0 rfl) ?_
    refine lv_iconst (v := 2) hx hb zd_LassoFinderModel_truthAt_33 (by decide) ?_
    refine lv_iload hx hb zd_LassoFinderModel_truthAt_34 (lv_at hl 5 rfl) ?_
    refine lv_imul hx hb zd_LassoFinderModel_truthAt_36 ?_
    refine lv_topi (fun z5 ez5 => ?_)
    have hok := hok z5 ez5
    refine lv_ishr hx hb zd_LassoFinderModel_truthAt_37 ?_
    refine lv_topi (fun z6 ez6 => ?_)
    have hok := hok z6 ez6
    refine lv_iconst (v := 1) hx hb zd_LassoFinderModel_truthAt_38 (by decide) ?_
    refine lv_iand hx hb zd_LassoFinderModel_truthAt_39 ?_
    refine lv_topi (fun z7 ez7 => ?_)
    have hok := hok z7 ez7
    refine lv_iload hx hb zd_LassoFinderModel_truthAt_40 (lv_at hl 0 rfl) ?_
    refine lv_iconst (v := 2) hx hb zd_LassoFinderModel_truthAt_42 (by decide) ?_
    refine lv_iload hx hb zd_LassoFinderModel_truthAt_43 (lv_at hl 5 rfl) ?_
    refine lv_imul hx hb zd_LassoFinderModel_truthAt_45 ?_
    refine lv_topi (fun z8 ez8 => ?_)
    have hok := hok z8 ez8
    refine lv_iconst (v := 1) hx hb zd_LassoFinderModel_truthAt_46 (by decide) ?_
    refine lv_iadd hx hb zd_LassoFinderModel_truthAt_47 ?_
    refine lv_topi (fun z9 ez9 => ?_)
    have hok := hok z9 ez9
    refine lv_ishr hx hb zd_LassoFinderModel_truthAt_48 ?_
    refine lv_topi (fun z10 ez10 => ?_)
    have hok := hok z10 ez10
    refine lv_iconst (v := 1) hx hb zd_LassoFinderModel_truthAt_49 (by decide) ?_
    refine lv_iand hx hb zd_LassoFinderModel_truthAt_50 ?_
    refine lv_topi (fun z11 ez11 => ?_)
    have hok := hok z11 ez11
    refine lv_iload_n hx hb zd_LassoFinderModel_truthAt_51 rfl (lv_at hl 3 rfl) ?_
    refine lv_iload hx hb zd_LassoFinderModel_truthAt_52 (lv_at hl 5 rfl) ?_
    refine lv_ishr hx hb zd_LassoFinderModel_truthAt_54 ?_
    refine lv_topi (fun z12 ez12 => ?_)
    have hok := hok z12 ez12
    refine lv_iconst (v := 1) hx hb zd_LassoFinderModel_truthAt_55 (by decide) ?_
    refine lv_iand hx hb zd_LassoFinderModel_truthAt_56 ?_
    refine lv_topi (fun z13 ez13 => ?_)
    have hok := hok z13 ez13
    refine z_calli (w1 := fun (u : zS) => wM ad K u.1 u.2.1 u.2.2.1 u.2.2.2) (wr := []) (z_runV (q0 := 0) (wc := (wM ad K I J B D)) (As := [.int x4, .int z7, .int z11, .int z13]) (rest := [.int x3]) ⟨hx, hb, hml, hown, hts⟩ (w_LassoFinderModel_before l G K ad I J B D x4 z7 z11 z13 _ H.size hok) zf_LassoFinderModel_before zm_377 ⟨Nat.le_of_ble_eq_true rfl, Nat.le_of_ble_eq_true rfl⟩ hK hw (List.range 58) wM_all wM_nd wM_g0 rfl rfl hl.1 rfl (Nat.le_of_ble_eq_true rfl) zd_LassoFinderModel_truthAt_57 ⟨Nat.le_of_ble_eq_true rfl, Nat.le_of_ble_eq_true rfl⟩) hw hA (List.range 58) [] wM_all rfl (by decide) (fun i hi => by cases hi) (fun r14 u H locs hok hw => ?_)
    obtain ⟨I14, J14, B14, D14⟩ := u
    dsimp only at hok
    have hw : zW G A s.heap (wM ad K I14 J14 B14 D14) H locs := hw
    refine lv_iload hx hb zd_LassoFinderModel_truthAt_60 (lv_at hl 5 rfl) ?_
    refine lv_ishl hx hb zd_LassoFinderModel_truthAt_62 ?_
    refine lv_topi (fun z15 ez15 => ?_)
    have hok := hok z15 ez15
    refine lv_ior hx hb zd_LassoFinderModel_truthAt_63 ?_
    refine lv_topi (fun z16 ez16 => ?_)
    have hok := hok z16 ez16
    refine lv_istore_n hx hb zd_LassoFinderModel_truthAt_64 rfl hl (by decide) rfl (fun ls hl => ?_)
    have hl : lv_has ls 6 [(3, .int z16), (5, .int z4), (0, .ref (ad 0)), (1, .int x1), (2, .int x2), (4, .int x4)] := hl
    obtain ⟨z17, ez17⟩ : ∃ z : Int32, z = (x4 + 1) := ⟨_, rfl⟩
    have hok := hok z17 ez17
    refine lv_iinc (v := z17) hx hb zd_LassoFinderModel_truthAt_65 hl (k := 5) rfl ez17.symm (by decide) rfl (fun ls hl => ?_)
    have hl : lv_has ls 6 [(4, .int z17), (3, .int z16), (5, .int z4), (0, .ref (ad 0)), (1, .int x1), (2, .int x2)] := hl
    refine lv_goto (tgt := 5) hx hb zd_LassoFinderModel_truthAt_68 (by decide) ?_
    exact kh5 x1 x2 z16 z17 I14 J14 B14 D14 ls H locs hok (lv_sub hl [3, 4, 5, 1, 0] rfl) hw
theorem wL_LassoFinderModel_truthAt_5 {p : Program} {l : Launch} {e : Env} {s : State} {m : MethodId} {below : List Frame} {meth : Method} {c : Code} {A : Nat → Prop} (G : va_G) (K : Nat → ClassId) (ad : Nat → Nat) (a0 : Int32) (a1 : Int32) (Post : Int32 → (Nat → Int32) → (Nat → Int64) → (Nat → Nat → Int32) → (Nat → Nat → Int64) → Prop) (C : zCx p s m ([.ref (ad 0), .int a0, .int a1] : List Value).toArray meth c A G K prog_14_method_52_code (some .int) 6 "LassoFinderModel") : ∀ (n : Nat) (x1 : Int32) (x2 : Int32) (x3 : Int32) (x4 : Int32) (I : Nat → Int32) (J : Nat → Int64) (B : Nat → Nat → Int32) (D : Nat → Nat → Int64) (ls : Array Slot) (H : Heap) (locs : List Loc), wl_LassoFinderModel_truthAt_5 a0 a1 Post n x1 x2 x3 x4 I J B D → lv_has ls 6 [(0, .ref (ad 0)), (1, .int x1), (2, .int x2), (3, .int x3), (4, .int x4)] → zW G A s.heap (wM ad K I J B D) H locs → W p l e { frames := 1, cells := 0, slots := 0, locals := 25 } s m ([.ref (ad 0), .int a0, .int a1] : List Value).toArray below meth c H locs 0 0 (MQ below (va_Qi (fun (r : Int32) (u : zS) => Post r u.1 u.2.1 u.2.2.1 u.2.2.2) (fun u t => zPost G K A (wM ad K u.1 u.2.1 u.2.2.1 u.2.2.2) t) A) ([.ref (ad 0), .int a0, .int a1] : List Value).toArray s 0 0 A) (F0 m 5 ls []) := by
  intro n
  induction n with
  | zero => intro x1 x2 x3 x4 I J B D ls H locs hok; exact hok.elim
  | succ n ih => exact wB_LassoFinderModel_truthAt_5 G K ad a0 a1 Post C (wl_LassoFinderModel_truthAt_5 a0 a1 Post n) ih
set_option maxHeartbeats 8000000 in
set_option maxRecDepth 100000 in
theorem w_LassoFinderModel_truthAt (l : Launch) (G : va_G) (K : Nat → ClassId) (ad : Nat → Nat) (I : Nat → Int32) (J : Nat → Int64) (B : Nat → Nat → Int32) (D : Nat → Nat → Int64) (a0 : Int32) (a1 : Int32) (Post : Int32 → (Nat → Int32) → (Nat → Int64) → (Nat → Nat → Int32) → (Nat → Nat → Int64) → Prop) (sz : Nat) (hok : wp_LassoFinderModel_truthAt I J B D a0 a1 Post) : Met l zy_LassoFinderModel_truthAt (Cond.code zy_LassoFinderModel_truthAt prog_14_method_52_code 6 (some .int) :: zTB) { frames := 1, cells := 0, slots := 0, locals := 25 } (va_Pc [.ref (ad 0), .int a0, .int a1] (zPre G K (wM ad K I J B D) sz)) (va_Qi (fun (r : Int32) (u : zS) => Post r u.1 u.2.1 u.2.2.1 u.2.2.2) (fun u t => zPost G K (va_A (wM ad K I J B D) sz) (wM ad K u.1 u.2.1 u.2.2.1 u.2.2.2) t) (va_A (wM ad K I J B D) sz)) 0 0 (va_A (wM ad K I J B D) sz) := by
  refine zMet (y := zy_LassoFinderModel_truthAt) (av := [.ref (ad 0), .int a0, .int a1]) (maxL := 6) (cc := prog_14_method_52_code) (ret := (some .int)) (W0 := (wM ad K I J B D)) (sz := sz) (G := G) (K := K) (wt := zTB) (mc := 0) (ms := 0) (Qf := fun A => va_Qi (fun (r : Int32) (u : zS) => Post r u.1 u.2.1 u.2.2.1 u.2.2.2) (fun u t => zPost G K A (wM ad K u.1 u.2.1 u.2.2.1 u.2.2.2) t) A) (by decide) (Nat.le_of_ble_eq_true rfl) ?_
  intro p e s m below meth c ls A hx hb hr hml hts hown hlocks hin hA hK H locs hw hsz hl
  clear hsz
  have hown : s.vm.findClass "LassoFinderModel" = some m.cls := hown
  have C : zCx p s m ([.ref (ad 0), .int a0, .int a1] : List Value).toArray meth c A G K prog_14_method_52_code (some .int) 6 "LassoFinderModel" := ⟨hx, hb, hr, hml, hts, hown, hlocks, hA, hK⟩
  have hl : lv_has ls 6 [(0, .ref (ad 0)), (1, .int a0), (2, .int a1)] := hl
  have hw : zW G A s.heap (wM ad K I J B D) H locs := hw
  unfold wp_LassoFinderModel_truthAt at hok
  refine lv_iconst (v := 0) hx hb zd_LassoFinderModel_truthAt_0 (by decide) ?_
  refine lv_istore_n hx hb zd_LassoFinderModel_truthAt_1 rfl hl (by decide) rfl (fun ls hl => ?_)
  have hl : lv_has ls 6 [(3, .int 0), (0, .ref (ad 0)), (1, .int a0), (2, .int a1)] := hl
  refine lv_iconst (v := 0) hx hb zd_LassoFinderModel_truthAt_2 (by decide) ?_
  refine lv_istore hx hb zd_LassoFinderModel_truthAt_3 hl (by decide) rfl (fun ls hl => ?_)
  have hl : lv_has ls 6 [(4, .int 0), (3, .int 0), (0, .ref (ad 0)), (1, .int a0), (2, .int a1)] := hl
  obtain ⟨n9, hok⟩ := hok
  exact wL_LassoFinderModel_truthAt_5 G K ad a0 a1 Post C n9 a0 a1 0 0 I J B D ls H locs hok (lv_sub hl [2, 3, 4, 1, 0] rfl) hw
