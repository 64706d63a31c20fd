abbrev zy_LassoFinder_stem : MethodName := ⟨"LassoFinder", "stem", "()I"⟩
abbrev zy_LassoFinder_hasLasso : MethodName := ⟨"LassoFinder", "hasLasso", "()Z"⟩
abbrev zy_LassoFinder_cycle : MethodName := ⟨"LassoFinder", "cycle", "()I"⟩
abbrev zy_LassoFinder_model : MethodName := ⟨"LassoFinder", "model", "()I"⟩
abbrev zy_LassoFinder_dropFormula : MethodName := ⟨"LassoFinder", "dropFormula", "()V"⟩
abbrev zy_LassoFinder_formula : MethodName := ⟨"LassoFinder", "formula", "()I"⟩
abbrev zy_LassoSearch_spotBefore : MethodName := ⟨"LassoFinder$LassoSearch", "spotBefore", "(II)I"⟩
abbrev zy_LassoSearch_followStem : MethodName := ⟨"LassoFinder$LassoSearch", "followStem", "()I"⟩
abbrev zy_LassoSearch_allowedBehind : MethodName := ⟨"LassoFinder$LassoSearch", "allowedBehind", "(III)I"⟩
theorem zn_294 : Cond.methodLink "LassoFinder" 143 ⟨"LassoFinder", "hasLasso", "()Z"⟩ ∈ zTB := z_in (zt_3 _ (List.mem_of_getElem? (i := 34) rfl)) rfl
theorem zn_295 : Cond.fieldLink "LassoFinder" 131 "LassoFinder" "search" "LLassoFinder$LassoSearch;" ∈ zTB := z_in (zt_2 _ (List.mem_of_getElem? (i := 226) rfl)) rfl
theorem zn_321 : Cond.methodLink "LassoFinder" 96 ⟨"LassoFinder", "dropFormula", "()V"⟩ ∈ zTB := z_in (zt_3 _ (List.mem_of_getElem? (i := 91) rfl)) rfl
theorem zn_322 : Cond.methodLink "LassoFinder" 99 ⟨"LassoFinder$Text", "open", "()V"⟩ ∈ zTB := z_in (zt_3 _ (List.mem_of_getElem? (i := 95) rfl)) rfl
theorem zn_323 : Cond.methodLink "LassoFinder" 102 ⟨"LassoFinder$ModelReader", "readAll", "()V"⟩ ∈ zTB := z_in (zt_3 _ (List.mem_of_getElem? (i := 99) rfl)) rfl
theorem zn_387 : Cond.methodLink "LassoFinder" 105 ⟨"LassoFinder$Graph", "explore", "()Z"⟩ ∈ zTB := z_in (zt_4 _ (List.mem_of_getElem? (i := 134) rfl)) rfl
theorem zn_414 : Cond.fieldLink "LassoFinder" 40 "LassoFinder" "reader" "LLassoFinder$ModelReader;" ∈ zTB := z_in (zt_2 _ (List.mem_of_getElem? (i := 221) rfl)) rfl
theorem zn_484 : Cond.methodLink "LassoFinder" 118 ⟨"LassoFinder$Formula", "readAll", "()V"⟩ ∈ zTB := z_in (zt_5 _ (List.mem_of_getElem? (i := 23) rfl)) rfl
theorem zn_504 : Cond.methodLink "LassoFinder" 119 ⟨"LassoFinder$Truths", "fill", "()V"⟩ ∈ zTB := z_in (zt_5 _ (List.mem_of_getElem? (i := 77) rfl)) rfl
theorem zn_514 : Cond.fieldLink "LassoFinder" 67 "LassoFinder" "asked" "LLassoFinder$Formula;" ∈ zTB := z_in (zt_2 _ (List.mem_of_getElem? (i := 224) rfl)) rfl
theorem zn_516 : Cond.fieldLink "LassoFinder" 125 "LassoFinder$Formula" "temporals" "I" ∈ zTB := z_in (zt_2 _ (List.mem_of_getElem? (i := 152) rfl)) rfl
theorem zn_553 : Cond.methodLink "LassoFinder$LassoSearch" 125 ⟨"LassoFinder$LassoSearch", "spotBefore", "(II)I"⟩ ∈ zTB := z_in (zt_5 _ (List.mem_of_getElem? (i := 222) rfl)) rfl
theorem zn_558 : Cond.methodLink "LassoFinder$LassoSearch" 157 ⟨"LassoFinder$LassoSearch", "allowedBehind", "(III)I"⟩ ∈ zTB := z_in (zt_6 _ (List.mem_of_getElem? (i := 2) rfl)) rfl
theorem zn_809 : Cond.fieldLink "LassoFinder$LassoSearch" 43 "LassoFinder$LassoSearch" "distance" "[I" ∈ zTB := z_in (zt_5 _ (List.mem_of_getElem? (i := 137) rfl)) rfl
theorem zn_811 : Cond.fieldLink "LassoFinder$LassoSearch" 49 "LassoFinder$LassoSearch" "stemSteps" "[I" ∈ zTB := z_in (zt_5 _ (List.mem_of_getElem? (i := 140) rfl)) rfl
theorem zn_814 : Cond.fieldLink "LassoFinder" 146 "LassoFinder$LassoSearch" "stemLength" "I" ∈ zTB := z_in (zt_5 _ (List.mem_of_getElem? (i := 144) rfl)) rfl
theorem zn_815 : Cond.fieldLink "LassoFinder" 212 "LassoFinder$LassoSearch" "found" "Z" ∈ zTB := z_in (zt_5 _ (List.mem_of_getElem? (i := 148) rfl)) rfl
theorem zn_816 : Cond.fieldLink "LassoFinder" 149 "LassoFinder$LassoSearch" "cycleLength" "I" ∈ zTB := z_in (zt_5 _ (List.mem_of_getElem? (i := 145) rfl)) rfl
theorem zn_817 : Cond.fieldLink "LassoFinder$LassoSearch" 58 "LassoFinder$LassoSearch" "stemLength" "I" ∈ zTB := z_in (zt_5 _ (List.mem_of_getElem? (i := 143) rfl)) rfl
theorem zn_819 : Cond.fieldLink "LassoFinder$LassoSearch" 19 "LassoFinder$LassoSearch" "truths" "LLassoFinder$Truths;" ∈ zTB := z_in (zt_5 _ (List.mem_of_getElem? (i := 127) rfl)) rfl
theorem zn_820 : Cond.fieldLink "LassoFinder$LassoSearch" 104 "LassoFinder$Truths" "guesses" "I" ∈ zTB := z_in (zt_2 _ (List.mem_of_getElem? (i := 197) rfl)) rfl
theorem zn_821 : Cond.fieldLink "LassoFinder$LassoSearch" 154 "LassoFinder$Truths" "satisfied" "[Z" ∈ zTB := z_in (zt_2 _ (List.mem_of_getElem? (i := 195) rfl)) rfl
theorem zn_822 : Cond.fieldLink "LassoFinder$LassoSearch" 15 "LassoFinder$LassoSearch" "graph" "LLassoFinder$Graph;" ∈ zTB := z_in (zt_5 _ (List.mem_of_getElem? (i := 126) rfl)) rfl
theorem zn_823 : Cond.fieldLink "LassoFinder$LassoSearch" 148 "LassoFinder$Graph" "firstStep" "[I" ∈ zTB := z_in (zt_2 _ (List.mem_of_getElem? (i := 86) rfl)) rfl
theorem zn_824 : Cond.fieldLink "LassoFinder$LassoSearch" 151 "LassoFinder$Graph" "stepTo" "[I" ∈ zTB := z_in (zt_2 _ (List.mem_of_getElem? (i := 91) rfl)) rfl
theorem zn_825 : Cond.fieldLink "LassoFinder$LassoSearch" 161 "LassoFinder$Graph" "stepFrom" "[I" ∈ zTB := z_in (zt_2 _ (List.mem_of_getElem? (i := 89) rfl)) rfl
theorem zn_826 : Cond.fieldLink "LassoFinder$LassoSearch" 92 "LassoFinder$Truths" "before" "[I" ∈ zTB := z_in (zt_2 _ (List.mem_of_getElem? (i := 191) rfl)) rfl
theorem zn_842 : Cond.code ⟨"LassoFinder", "hasLasso", "()Z"⟩ prog_1_method_20_code 1 (some .boolean) ∈ zTB := z_in (zt_3 _ (List.mem_of_getElem? (i := 37) rfl)) rfl
theorem zn_843 : Cond.instanceMethod ⟨"LassoFinder", "hasLasso", "()Z"⟩ ∈ zTB := z_in (zt_3 _ (List.mem_of_getElem? (i := 36) rfl)) rfl
theorem zn_844 : Cond.code ⟨"LassoFinder", "dropFormula", "()V"⟩ prog_1_method_19_code 1 none ∈ zTB := z_in (zt_3 _ (List.mem_of_getElem? (i := 94) rfl)) rfl
theorem zn_845 : Cond.instanceMethod ⟨"LassoFinder", "dropFormula", "()V"⟩ ∈ zTB := z_in (zt_3 _ (List.mem_of_getElem? (i := 93) rfl)) rfl
theorem zn_846 : Cond.code ⟨"LassoFinder$Text", "open", "()V"⟩ prog_10_method_3_code 1 none ∈ zTB := z_in (zt_3 _ (List.mem_of_getElem? (i := 98) rfl)) rfl
theorem zn_847 : Cond.selects "LassoFinder$Text" ⟨"LassoFinder$Text", "open", "()V"⟩ ⟨"LassoFinder$Text", "open", "()V"⟩ ∈ zTB := z_in (zt_3 _ (List.mem_of_getElem? (i := 97) rfl)) rfl
theorem zn_848 : Cond.instanceMethod ⟨"LassoFinder$Text", "open", "()V"⟩ ∈ zTB := z_in (zt_3 _ (List.mem_of_getElem? (i := 96) rfl)) rfl
theorem zn_849 : Cond.code ⟨"LassoFinder$ModelReader", "readAll", "()V"⟩ prog_5_method_2_code 2 none ∈ zTB := z_in (zt_3 _ (List.mem_of_getElem? (i := 102) rfl)) rfl
theorem zn_850 : Cond.selects "LassoFinder$ModelReader" ⟨"LassoFinder$ModelReader", "readAll", "()V"⟩ ⟨"LassoFinder$ModelReader", "readAll", "()V"⟩ ∈ zTB := z_in (zt_3 _ (List.mem_of_getElem? (i := 101) rfl)) rfl
theorem zn_851 : Cond.instanceMethod ⟨"LassoFinder$ModelReader", "readAll", "()V"⟩ ∈ zTB := z_in (zt_3 _ (List.mem_of_getElem? (i := 100) rfl)) rfl
theorem zn_852 : Cond.code ⟨"LassoFinder$Graph", "explore", "()Z"⟩ prog_3_method_3_code 3 (some .boolean) ∈ zTB := z_in (zt_4 _ (List.mem_of_getElem? (i := 137) rfl)) rfl
theorem zn_853 : Cond.selects "LassoFinder$Graph" ⟨"LassoFinder$Graph", "explore", "()Z"⟩ ⟨"LassoFinder$Graph", "explore", "()Z"⟩ ∈ zTB := z_in (zt_4 _ (List.mem_of_getElem? (i := 136) rfl)) rfl
theorem zn_854 : Cond.instanceMethod ⟨"LassoFinder$Graph", "explore", "()Z"⟩ ∈ zTB := z_in (zt_4 _ (List.mem_of_getElem? (i := 135) rfl)) rfl
theorem zn_855 : Cond.code ⟨"LassoFinder$Formula", "readAll", "()V"⟩ prog_2_method_2_code 1 none ∈ zTB := z_in (zt_5 _ (List.mem_of_getElem? (i := 26) rfl)) rfl
theorem zn_856 : Cond.selects "LassoFinder$Formula" ⟨"LassoFinder$Formula", "readAll", "()V"⟩ ⟨"LassoFinder$Formula", "readAll", "()V"⟩ ∈ zTB := z_in (zt_5 _ (List.mem_of_getElem? (i := 25) rfl)) rfl
theorem zn_857 : Cond.instanceMethod ⟨"LassoFinder$Formula", "readAll", "()V"⟩ ∈ zTB := z_in (zt_5 _ (List.mem_of_getElem? (i := 24) rfl)) rfl
theorem zn_858 : Cond.code ⟨"LassoFinder$Truths", "fill", "()V"⟩ prog_12_method_2_code 3 none ∈ zTB := z_in (zt_5 _ (List.mem_of_getElem? (i := 80) rfl)) rfl
theorem zn_859 : Cond.selects "LassoFinder$Truths" ⟨"LassoFinder$Truths", "fill", "()V"⟩ ⟨"LassoFinder$Truths", "fill", "()V"⟩ ∈ zTB := z_in (zt_5 _ (List.mem_of_getElem? (i := 79) rfl)) rfl
theorem zn_860 : Cond.instanceMethod ⟨"LassoFinder$Truths", "fill", "()V"⟩ ∈ zTB := z_in (zt_5 _ (List.mem_of_getElem? (i := 78) rfl)) rfl
theorem zn_861 : Cond.code ⟨"LassoFinder$LassoSearch", "spotBefore", "(II)I"⟩ prog_4_method_4_code 3 (some .int) ∈ zTB := z_in (zt_5 _ (List.mem_of_getElem? (i := 225) rfl)) rfl
theorem zn_862 : Cond.instanceMethod ⟨"LassoFinder$LassoSearch", "spotBefore", "(II)I"⟩ ∈ zTB := z_in (zt_5 _ (List.mem_of_getElem? (i := 224) rfl)) rfl
theorem zn_863 : Cond.code ⟨"LassoFinder$LassoSearch", "allowedBehind", "(III)I"⟩ prog_4_method_15_code 7 (some .int) ∈ zTB := z_in (zt_6 _ (List.mem_of_getElem? (i := 5) rfl)) rfl
theorem zn_864 : Cond.instanceMethod ⟨"LassoFinder$LassoSearch", "allowedBehind", "(III)I"⟩ ∈ zTB := z_in (zt_6 _ (List.mem_of_getElem? (i := 4) rfl)) rfl
theorem zf_LassoFinder_hasLasso : zFaceV zy_LassoFinder_hasLasso prog_1_method_20_code 1 (some .boolean) 0 := ⟨zn_843, (z_in (zp_1 _ (List.mem_of_getElem? (i := 0) rfl)) rfl), zm_1, zn_842, by decide +kernel, by decide +kernel, by decide +kernel⟩
theorem zf_LassoFinder_dropFormula : zFaceV zy_LassoFinder_dropFormula prog_1_method_19_code 1 none 0 := ⟨zn_845, (z_in (zp_1 _ (List.mem_of_getElem? (i := 2) rfl)) rfl), zm_1, zn_844, by decide +kernel, by decide +kernel, by decide +kernel⟩
theorem zf_Text_open : zFaceV zy_Text_open prog_10_method_3_code 1 none 0 := ⟨zn_848, zn_847, zm_19, zn_846, by decide +kernel, by decide +kernel, by decide +kernel⟩
theorem zf_ModelReader_readAll : zFaceV zy_ModelReader_readAll prog_5_method_2_code 2 none 0 := ⟨zn_851, zn_850, zm_9, zn_849, by decide +kernel, by decide +kernel, by decide +kernel⟩
theorem zf_Graph_explore : zFaceV zy_Graph_explore prog_3_method_3_code 3 (some .boolean) 0 := ⟨zn_854, zn_853, zm_5, zn_852, by decide +kernel, by decide +kernel, by decide +kernel⟩
theorem zf_Formula_readAll : zFaceV zy_Formula_readAll prog_2_method_2_code 1 none 0 := ⟨zn_857, zn_856, zm_3, zn_855, by decide +kernel, by decide +kernel, by decide +kernel⟩
theorem zf_Truths_fill : zFaceV zy_Truths_fill prog_12_method_2_code 3 none 0 := ⟨zn_860, zn_859, zm_23, zn_858, by decide +kernel, by decide +kernel, by decide +kernel⟩
theorem zf_LassoSearch_spotBefore : zFaceV zy_LassoSearch_spotBefore prog_4_method_4_code 3 (some .int) 2 := ⟨zn_862, (z_in (zp_4 _ (List.mem_of_getElem? (i := 11) rfl)) rfl), zm_7, zn_861, by decide +kernel, by decide +kernel, by decide +kernel⟩
theorem zf_LassoSearch_allowedBehind : zFaceV zy_LassoSearch_allowedBehind prog_4_method_15_code 7 (some .int) 3 := ⟨zn_864, (z_in (zp_5 _ (List.mem_of_getElem? (i := 0) rfl)) rfl), zm_7, zn_863, by decide +kernel, by decide +kernel, by decide +kernel⟩
theorem zd_LassoFinder_cycle_0 : decode prog_1_method_8_code 0 = .ok (.aload_n 0, 1) := by decide +kernel
theorem zd_LassoFinder_cycle_1 : decode prog_1_method_8_code 1 = .ok (.invokevirtual 143, 3) := by decide +kernel
theorem zd_LassoFinder_cycle_4 : decode prog_1_method_8_code 4 = .ok (.ifCond .eq 13, 3) := by decide +kernel
theorem zd_LassoFinder_cycle_7 : decode prog_1_method_8_code 7 = .ok (.aload_n 0, 1) := by decide +kernel
theorem zd_LassoFinder_cycle_8 : decode prog_1_method_8_code 8 = .ok (.getfield 131, 3) := by decide +kernel
theorem zd_LassoFinder_cycle_11 : decode prog_1_method_8_code 11 = .ok (.getfield 149, 3) := by decide +kernel
theorem zd_LassoFinder_cycle_14 : decode prog_1_method_8_code 14 = .ok (.goto 4, 3) := by decide +kernel
theorem zd_LassoFinder_cycle_17 : decode prog_1_method_8_code 17 = .ok (.iconst 0, 1) := by decide +kernel
theorem zd_LassoFinder_cycle_18 : decode prog_1_method_8_code 18 = .ok (.ireturn, 1) := by decide +kernel
theorem zd_LassoFinder_dropFormula_0 : decode prog_1_method_19_code 0 = .ok (.aload_n 0, 1) := by decide +kernel
theorem zd_LassoFinder_dropFormula_1 : decode prog_1_method_19_code 1 = .ok (.iconst 0, 1) := by decide +kernel
theorem zd_LassoFinder_dropFormula_2 : decode prog_1_method_19_code 2 = .ok (.putfield 122, 3) := by decide +kernel
theorem zd_LassoFinder_dropFormula_5 : decode prog_1_method_19_code 5 = .ok (.aload_n 0, 1) := by decide +kernel
theorem zd_LassoFinder_dropFormula_6 : decode prog_1_method_19_code 6 = .ok (.getfield 131, 3) := by decide +kernel
theorem zd_LassoFinder_dropFormula_9 : decode prog_1_method_19_code 9 = .ok (.ifnull 11, 3) := by decide +kernel
theorem zd_LassoFinder_dropFormula_12 : decode prog_1_method_19_code 12 = .ok (.aload_n 0, 1) := by decide +kernel
theorem zd_LassoFinder_dropFormula_13 : decode prog_1_method_19_code 13 = .ok (.getfield 131, 3) := by decide +kernel
theorem zd_LassoFinder_dropFormula_16 : decode prog_1_method_19_code 16 = .ok (.iconst 0, 1) := by decide +kernel
theorem zd_LassoFinder_dropFormula_17 : decode prog_1_method_19_code 17 = .ok (.putfield 212, 3) := by decide +kernel
theorem zd_LassoFinder_dropFormula_20 : decode prog_1_method_19_code 20 = .ok (.return_, 1) := by decide +kernel
theorem zd_LassoFinder_formula_0 : decode prog_1_method_4_code 0 = .ok (.aload_n 0, 1) := by decide +kernel
theorem zd_LassoFinder_formula_1 : decode prog_1_method_4_code 1 = .ok (.invokevirtual 96, 3) := by decide +kernel
theorem zd_LassoFinder_formula_4 : decode prog_1_method_4_code 4 = .ok (.aload_n 0, 1) := by decide +kernel
theorem zd_LassoFinder_formula_5 : decode prog_1_method_4_code 5 = .ok (.getfield 10, 3) := by decide +kernel
theorem zd_LassoFinder_formula_8 : decode prog_1_method_4_code 8 = .ok (.invokevirtual 99, 3) := by decide +kernel
theorem zd_LassoFinder_formula_11 : decode prog_1_method_4_code 11 = .ok (.aload_n 0, 1) := by decide +kernel
theorem zd_LassoFinder_formula_12 : decode prog_1_method_4_code 12 = .ok (.getfield 92, 3) := by decide +kernel
theorem zd_LassoFinder_formula_15 : decode prog_1_method_4_code 15 = .ok (.ifCond .ne 11, 3) := by decide +kernel
theorem zd_LassoFinder_formula_18 : decode prog_1_method_4_code 18 = .ok (.new 115, 3) := by decide +kernel
theorem zd_LassoFinder_formula_21 : decode prog_1_method_4_code 21 = .ok (.dup, 1) := by decide +kernel
theorem zd_LassoFinder_formula_22 : decode prog_1_method_4_code 22 = .ok (.invokespecial 117, 3) := by decide +kernel
theorem zd_LassoFinder_formula_25 : decode prog_1_method_4_code 25 = .ok (.athrow, 1) := by decide +kernel
theorem zd_LassoFinder_formula_26 : decode prog_1_method_4_code 26 = .ok (.aload_n 0, 1) := by decide +kernel
theorem zd_LassoFinder_formula_27 : decode prog_1_method_4_code 27 = .ok (.getfield 67, 3) := by decide +kernel
theorem zd_LassoFinder_formula_30 : decode prog_1_method_4_code 30 = .ok (.invokevirtual 118, 3) := by decide +kernel
theorem zd_LassoFinder_formula_33 : decode prog_1_method_4_code 33 = .ok (.aload_n 0, 1) := by decide +kernel
theorem zd_LassoFinder_formula_34 : decode prog_1_method_4_code 34 = .ok (.getfield 76, 3) := by decide +kernel
theorem zd_LassoFinder_formula_37 : decode prog_1_method_4_code 37 = .ok (.invokevirtual 119, 3) := by decide +kernel
theorem zd_LassoFinder_formula_40 : decode prog_1_method_4_code 40 = .ok (.aload_n 0, 1) := by decide +kernel
theorem zd_LassoFinder_formula_41 : decode prog_1_method_4_code 41 = .ok (.iconst 1, 1) := by decide +kernel
theorem zd_LassoFinder_formula_42 : decode prog_1_method_4_code 42 = .ok (.putfield 122, 3) := by decide +kernel
theorem zd_LassoFinder_formula_45 : decode prog_1_method_4_code 45 = .ok (.aload_n 0, 1) := by decide +kernel
theorem zd_LassoFinder_formula_46 : decode prog_1_method_4_code 46 = .ok (.getfield 67, 3) := by decide +kernel
theorem zd_LassoFinder_formula_49 : decode prog_1_method_4_code 49 = .ok (.getfield 125, 3) := by decide +kernel
theorem zd_LassoFinder_formula_52 : decode prog_1_method_4_code 52 = .ok (.ireturn, 1) := by decide +kernel
theorem zd_LassoFinder_hasLasso_0 : decode prog_1_method_20_code 0 = .ok (.aload_n 0, 1) := by decide +kernel
theorem zd_LassoFinder_hasLasso_1 : decode prog_1_method_20_code 1 = .ok (.getfield 131, 3) := by decide +kernel
theorem zd_LassoFinder_hasLasso_4 : decode prog_1_method_20_code 4 = .ok (.ifnull 17, 3) := by decide +kernel
theorem zd_LassoFinder_hasLasso_7 : decode prog_1_method_20_code 7 = .ok (.aload_n 0, 1) := by decide +kernel
theorem zd_LassoFinder_hasLasso_8 : decode prog_1_method_20_code 8 = .ok (.getfield 131, 3) := by decide +kernel
theorem zd_LassoFinder_hasLasso_11 : decode prog_1_method_20_code 11 = .ok (.getfield 212, 3) := by decide +kernel
theorem zd_LassoFinder_hasLasso_14 : decode prog_1_method_20_code 14 = .ok (.ifCond .eq 7, 3) := by decide +kernel
theorem zd_LassoFinder_hasLasso_17 : decode prog_1_method_20_code 17 = .ok (.iconst 1, 1) := by decide +kernel
theorem zd_LassoFinder_hasLasso_18 : decode prog_1_method_20_code 18 = .ok (.goto 4, 3) := by decide +kernel
theorem zd_LassoFinder_hasLasso_21 : decode prog_1_method_20_code 21 = .ok (.iconst 0, 1) := by decide +kernel
theorem zd_LassoFinder_hasLasso_22 : decode prog_1_method_20_code 22 = .ok (.ireturn, 1) := by decide +kernel
theorem zd_LassoFinder_model_0 : decode prog_1_method_3_code 0 = .ok (.aload_n 0, 1) := by decide +kernel
theorem zd_LassoFinder_model_1 : decode prog_1_method_3_code 1 = .ok (.iconst 0, 1) := by decide +kernel
theorem zd_LassoFinder_model_2 : decode prog_1_method_3_code 2 = .ok (.putfield 92, 3) := by decide +kernel
theorem zd_LassoFinder_model_5 : decode prog_1_method_3_code 5 = .ok (.aload_n 0, 1) := by decide +kernel
theorem zd_LassoFinder_model_6 : decode prog_1_method_3_code 6 = .ok (.iconst (-1), 1) := by decide +kernel
theorem zd_LassoFinder_model_7 : decode prog_1_method_3_code 7 = .ok (.putfield 84, 3) := by decide +kernel
theorem zd_LassoFinder_model_10 : decode prog_1_method_3_code 10 = .ok (.aload_n 0, 1) := by decide +kernel
theorem zd_LassoFinder_model_11 : decode prog_1_method_3_code 11 = .ok (.invokevirtual 96, 3) := by decide +kernel
theorem zd_LassoFinder_model_14 : decode prog_1_method_3_code 14 = .ok (.aload_n 0, 1) := by decide +kernel
theorem zd_LassoFinder_model_15 : decode prog_1_method_3_code 15 = .ok (.getfield 10, 3) := by decide +kernel
theorem zd_LassoFinder_model_18 : decode prog_1_method_3_code 18 = .ok (.invokevirtual 99, 3) := by decide +kernel
theorem zd_LassoFinder_model_21 : decode prog_1_method_3_code 21 = .ok (.aload_n 0, 1) := by decide +kernel
theorem zd_LassoFinder_model_22 : decode prog_1_method_3_code 22 = .ok (.getfield 40, 3) := by decide +kernel
theorem zd_LassoFinder_model_25 : decode prog_1_method_3_code 25 = .ok (.invokevirtual 102, 3) := by decide +kernel
theorem zd_LassoFinder_model_28 : decode prog_1_method_3_code 28 = .ok (.aload_n 0, 1) := by decide +kernel
theorem zd_LassoFinder_model_29 : decode prog_1_method_3_code 29 = .ok (.getfield 58, 3) := by decide +kernel
theorem zd_LassoFinder_model_32 : decode prog_1_method_3_code 32 = .ok (.invokevirtual 105, 3) := by decide +kernel
theorem zd_LassoFinder_model_35 : decode prog_1_method_3_code 35 = .ok (.ifCond .ne 11, 3) := by decide +kernel
theorem zd_LassoFinder_model_38 : decode prog_1_method_3_code 38 = .ok (.new 109, 3) := by decide +kernel
theorem zd_LassoFinder_model_41 : decode prog_1_method_3_code 41 = .ok (.dup, 1) := by decide +kernel
theorem zd_LassoFinder_model_42 : decode prog_1_method_3_code 42 = .ok (.invokespecial 111, 3) := by decide +kernel
theorem zd_LassoFinder_model_45 : decode prog_1_method_3_code 45 = .ok (.athrow, 1) := by decide +kernel
theorem zd_LassoFinder_model_46 : decode prog_1_method_3_code 46 = .ok (.aload_n 0, 1) := by decide +kernel
theorem zd_LassoFinder_model_47 : decode prog_1_method_3_code 47 = .ok (.iconst 1, 1) := by decide +kernel
theorem zd_LassoFinder_model_48 : decode prog_1_method_3_code 48 = .ok (.putfield 92, 3) := by decide +kernel
theorem zd_LassoFinder_model_51 : decode prog_1_method_3_code 51 = .ok (.aload_n 0, 1) := by decide +kernel
theorem zd_LassoFinder_model_52 : decode prog_1_method_3_code 52 = .ok (.getfield 58, 3) := by decide +kernel
theorem zd_LassoFinder_model_55 : decode prog_1_method_3_code 55 = .ok (.getfield 112, 3) := by decide +kernel
theorem zd_LassoFinder_model_58 : decode prog_1_method_3_code 58 = .ok (.ireturn, 1) := by decide +kernel
theorem zd_LassoFinder_stem_0 : decode prog_1_method_7_code 0 = .ok (.aload_n 0, 1) := by decide +kernel
theorem zd_LassoFinder_stem_1 : decode prog_1_method_7_code 1 = .ok (.invokevirtual 143, 3) := by decide +kernel
theorem zd_LassoFinder_stem_4 : decode prog_1_method_7_code 4 = .ok (.ifCond .eq 13, 3) := by decide +kernel
theorem zd_LassoFinder_stem_7 : decode prog_1_method_7_code 7 = .ok (.aload_n 0, 1) := by decide +kernel
theorem zd_LassoFinder_stem_8 : decode prog_1_method_7_code 8 = .ok (.getfield 131, 3) := by decide +kernel
theorem zd_LassoFinder_stem_11 : decode prog_1_method_7_code 11 = .ok (.getfield 146, 3) := by decide +kernel
theorem zd_LassoFinder_stem_14 : decode prog_1_method_7_code 14 = .ok (.goto 4, 3) := by decide +kernel
theorem zd_LassoFinder_stem_17 : decode prog_1_method_7_code 17 = .ok (.iconst (-1), 1) := by decide +kernel
theorem zd_LassoFinder_stem_18 : decode prog_1_method_7_code 18 = .ok (.ireturn, 1) := by decide +kernel
theorem zd_LassoSearch_allowedBehind_0 : decode prog_4_method_15_code 0 = .ok (.iconst 0, 1) := by decide +kernel
theorem zd_LassoSearch_allowedBehind_1 : decode prog_4_method_15_code 1 = .ok (.istore 4, 2) := by decide +kernel
theorem zd_LassoSearch_allowedBehind_3 : decode prog_4_method_15_code 3 = .ok (.iconst 0, 1) := by decide +kernel
theorem zd_LassoSearch_allowedBehind_4 : decode prog_4_method_15_code 4 = .ok (.istore 5, 2) := by decide +kernel
theorem zd_LassoSearch_allowedBehind_6 : decode prog_4_method_15_code 6 = .ok (.iload 5, 2) := by decide +kernel
theorem zd_LassoSearch_allowedBehind_8 : decode prog_4_method_15_code 8 = .ok (.aload_n 0, 1) := by decide +kernel
theorem zd_LassoSearch_allowedBehind_9 : decode prog_4_method_15_code 9 = .ok (.getfield 19, 3) := by decide +kernel
theorem zd_LassoSearch_allowedBehind_12 : decode prog_4_method_15_code 12 = .ok (.getfield 104, 3) := by decide +kernel
theorem zd_LassoSearch_allowedBehind_15 : decode prog_4_method_15_code 15 = .ok (.if_icmp .ge 71, 3) := by decide +kernel
theorem zd_LassoSearch_allowedBehind_18 : decode prog_4_method_15_code 18 = .ok (.aload_n 0, 1) := by decide +kernel
theorem zd_LassoSearch_allowedBehind_19 : decode prog_4_method_15_code 19 = .ok (.aload_n 0, 1) := by decide +kernel
theorem zd_LassoSearch_allowedBehind_20 : decode prog_4_method_15_code 20 = .ok (.getfield 15, 3) := by decide +kernel
theorem zd_LassoSearch_allowedBehind_23 : decode prog_4_method_15_code 23 = .ok (.getfield 161, 3) := by decide +kernel
theorem zd_LassoSearch_allowedBehind_26 : decode prog_4_method_15_code 26 = .ok (.iload_n 2, 1) := by decide +kernel
theorem zd_LassoSearch_allowedBehind_27 : decode prog_4_method_15_code 27 = .ok (.iaload, 1) := by decide +kernel
theorem zd_LassoSearch_allowedBehind_28 : decode prog_4_method_15_code 28 = .ok (.iload 5, 2) := by decide +kernel
theorem zd_LassoSearch_allowedBehind_30 : decode prog_4_method_15_code 30 = .ok (.invokevirtual 125, 3) := by decide +kernel
theorem zd_LassoSearch_allowedBehind_33 : decode prog_4_method_15_code 33 = .ok (.bipush 8, 2) := by decide +kernel
theorem zd_LassoSearch_allowedBehind_35 : decode prog_4_method_15_code 35 = .ok (.irem, 1) := by decide +kernel
theorem zd_LassoSearch_allowedBehind_36 : decode prog_4_method_15_code 36 = .ok (.istore 6, 2) := by decide +kernel
theorem zd_LassoSearch_allowedBehind_38 : decode prog_4_method_15_code 38 = .ok (.iload_n 1, 1) := by decide +kernel
theorem zd_LassoSearch_allowedBehind_39 : decode prog_4_method_15_code 39 = .ok (.iload 6, 2) := by decide +kernel
theorem zd_LassoSearch_allowedBehind_41 : decode prog_4_method_15_code 41 = .ok (.ishr, 1) := by decide +kernel
theorem zd_LassoSearch_allowedBehind_42 : decode prog_4_method_15_code 42 = .ok (.iconst 1, 1) := by decide +kernel
theorem zd_LassoSearch_allowedBehind_43 : decode prog_4_method_15_code 43 = .ok (.iand, 1) := by decide +kernel
theorem zd_LassoSearch_allowedBehind_44 : decode prog_4_method_15_code 44 = .ok (.ifCond .eq 36, 3) := by decide +kernel
theorem zd_LassoSearch_allowedBehind_47 : decode prog_4_method_15_code 47 = .ok (.aload_n 0, 1) := by decide +kernel
theorem zd_LassoSearch_allowedBehind_48 : decode prog_4_method_15_code 48 = .ok (.getfield 43, 3) := by decide +kernel
theorem zd_LassoSearch_allowedBehind_51 : decode prog_4_method_15_code 51 = .ok (.aload_n 0, 1) := by decide +kernel
theorem zd_LassoSearch_allowedBehind_52 : decode prog_4_method_15_code 52 = .ok (.getfield 15, 3) := by decide +kernel
theorem zd_LassoSearch_allowedBehind_55 : decode prog_4_method_15_code 55 = .ok (.getfield 151, 3) := by decide +kernel
theorem zd_LassoSearch_allowedBehind_58 : decode prog_4_method_15_code 58 = .ok (.iload_n 2, 1) := by decide +kernel
theorem zd_LassoSearch_allowedBehind_59 : decode prog_4_method_15_code 59 = .ok (.iaload, 1) := by decide +kernel
theorem zd_LassoSearch_allowedBehind_60 : decode prog_4_method_15_code 60 = .ok (.bipush 8, 2) := by decide +kernel
theorem zd_LassoSearch_allowedBehind_62 : decode prog_4_method_15_code 62 = .ok (.imul, 1) := by decide +kernel
theorem zd_LassoSearch_allowedBehind_63 : decode prog_4_method_15_code 63 = .ok (.iload 5, 2) := by decide +kernel
theorem zd_LassoSearch_allowedBehind_65 : decode prog_4_method_15_code 65 = .ok (.iadd, 1) := by decide +kernel
theorem zd_LassoSearch_allowedBehind_66 : decode prog_4_method_15_code 66 = .ok (.iaload, 1) := by decide +kernel
theorem zd_LassoSearch_allowedBehind_67 : decode prog_4_method_15_code 67 = .ok (.iload_n 3, 1) := by decide +kernel
theorem zd_LassoSearch_allowedBehind_68 : decode prog_4_method_15_code 68 = .ok (.if_icmp .ne 12, 3) := by decide +kernel
theorem zd_LassoSearch_allowedBehind_71 : decode prog_4_method_15_code 71 = .ok (.iload 4, 2) := by decide +kernel
theorem zd_LassoSearch_allowedBehind_73 : decode prog_4_method_15_code 73 = .ok (.iconst 1, 1) := by decide +kernel
theorem zd_LassoSearch_allowedBehind_74 : decode prog_4_method_15_code 74 = .ok (.iload 5, 2) := by decide +kernel
theorem zd_LassoSearch_allowedBehind_76 : decode prog_4_method_15_code 76 = .ok (.ishl, 1) := by decide +kernel
theorem zd_LassoSearch_allowedBehind_77 : decode prog_4_method_15_code 77 = .ok (.ior, 1) := by decide +kernel
theorem zd_LassoSearch_allowedBehind_78 : decode prog_4_method_15_code 78 = .ok (.istore 4, 2) := by decide +kernel
theorem zd_LassoSearch_allowedBehind_80 : decode prog_4_method_15_code 80 = .ok (.iinc 5 1, 3) := by decide +kernel
theorem zd_LassoSearch_allowedBehind_83 : decode prog_4_method_15_code 83 = .ok (.goto (-77), 3) := by decide +kernel
theorem zd_LassoSearch_allowedBehind_86 : decode prog_4_method_15_code 86 = .ok (.iload 4, 2) := by decide +kernel
theorem zd_LassoSearch_allowedBehind_88 : decode prog_4_method_15_code 88 = .ok (.ireturn, 1) := by decide +kernel
theorem zd_LassoSearch_followStem_0 : decode prog_4_method_14_code 0 = .ok (.iconst 0, 1) := by decide +kernel
theorem zd_LassoSearch_followStem_1 : decode prog_4_method_14_code 1 = .ok (.istore_n 1, 1) := by decide +kernel
theorem zd_LassoSearch_followStem_2 : decode prog_4_method_14_code 2 = .ok (.iconst 0, 1) := by decide +kernel
theorem zd_LassoSearch_followStem_3 : decode prog_4_method_14_code 3 = .ok (.istore_n 2, 1) := by decide +kernel
theorem zd_LassoSearch_followStem_4 : decode prog_4_method_14_code 4 = .ok (.iload_n 2, 1) := by decide +kernel
theorem zd_LassoSearch_followStem_5 : decode prog_4_method_14_code 5 = .ok (.aload_n 0, 1) := by decide +kernel
theorem zd_LassoSearch_followStem_6 : decode prog_4_method_14_code 6 = .ok (.getfield 19, 3) := by decide +kernel
theorem zd_LassoSearch_followStem_9 : decode prog_4_method_14_code 9 = .ok (.getfield 104, 3) := by decide +kernel
theorem zd_LassoSearch_followStem_12 : decode prog_4_method_14_code 12 = .ok (.if_icmp .ge 40, 3) := by decide +kernel
theorem zd_LassoSearch_followStem_15 : decode prog_4_method_14_code 15 = .ok (.aload_n 0, 1) := by decide +kernel
theorem zd_LassoSearch_followStem_16 : decode prog_4_method_14_code 16 = .ok (.getfield 19, 3) := by decide +kernel
theorem zd_LassoSearch_followStem_19 : decode prog_4_method_14_code 19 = .ok (.getfield 154, 3) := by decide +kernel
theorem zd_LassoSearch_followStem_22 : decode prog_4_method_14_code 22 = .ok (.iload_n 2, 1) := by decide +kernel
theorem zd_LassoSearch_followStem_23 : decode prog_4_method_14_code 23 = .ok (.baload, 1) := by decide +kernel
theorem zd_LassoSearch_followStem_24 : decode prog_4_method_14_code 24 = .ok (.ifCond .ne 22, 3) := by decide +kernel
theorem zd_LassoSearch_followStem_27 : decode prog_4_method_14_code 27 = .ok (.aload_n 0, 1) := by decide +kernel
theorem zd_LassoSearch_followStem_28 : decode prog_4_method_14_code 28 = .ok (.getfield 43, 3) := by decide +kernel
theorem zd_LassoSearch_followStem_31 : decode prog_4_method_14_code 31 = .ok (.iload_n 2, 1) := by decide +kernel
theorem zd_LassoSearch_followStem_32 : decode prog_4_method_14_code 32 = .ok (.iaload, 1) := by decide +kernel
theorem zd_LassoSearch_followStem_33 : decode prog_4_method_14_code 33 = .ok (.aload_n 0, 1) := by decide +kernel
theorem zd_LassoSearch_followStem_34 : decode prog_4_method_14_code 34 = .ok (.getfield 58, 3) := by decide +kernel
theorem zd_LassoSearch_followStem_37 : decode prog_4_method_14_code 37 = .ok (.if_icmp .ne 9, 3) := by decide +kernel
theorem zd_LassoSearch_followStem_40 : decode prog_4_method_14_code 40 = .ok (.iload_n 1, 1) := by decide +kernel
theorem zd_LassoSearch_followStem_41 : decode prog_4_method_14_code 41 = .ok (.iconst 1, 1) := by decide +kernel
theorem zd_LassoSearch_followStem_42 : decode prog_4_method_14_code 42 = .ok (.iload_n 2, 1) := by decide +kernel
theorem zd_LassoSearch_followStem_43 : decode prog_4_method_14_code 43 = .ok (.ishl, 1) := by decide +kernel
theorem zd_LassoSearch_followStem_44 : decode prog_4_method_14_code 44 = .ok (.ior, 1) := by decide +kernel
theorem zd_LassoSearch_followStem_45 : decode prog_4_method_14_code 45 = .ok (.istore_n 1, 1) := by decide +kernel
theorem zd_LassoSearch_followStem_46 : decode prog_4_method_14_code 46 = .ok (.iinc 2 1, 3) := by decide +kernel
theorem zd_LassoSearch_followStem_49 : decode prog_4_method_14_code 49 = .ok (.goto (-45), 3) := by decide +kernel
theorem zd_LassoSearch_followStem_52 : decode prog_4_method_14_code 52 = .ok (.iconst 0, 1) := by decide +kernel
theorem zd_LassoSearch_followStem_53 : decode prog_4_method_14_code 53 = .ok (.istore_n 2, 1) := by decide +kernel
theorem zd_LassoSearch_followStem_54 : decode prog_4_method_14_code 54 = .ok (.iconst 0, 1) := by decide +kernel
theorem zd_LassoSearch_followStem_55 : decode prog_4_method_14_code 55 = .ok (.istore_n 3, 1) := by decide +kernel
theorem zd_LassoSearch_followStem_56 : decode prog_4_method_14_code 56 = .ok (.iload_n 3, 1) := by decide +kernel
theorem zd_LassoSearch_followStem_57 : decode prog_4_method_14_code 57 = .ok (.aload_n 0, 1) := by decide +kernel
theorem zd_LassoSearch_followStem_58 : decode prog_4_method_14_code 58 = .ok (.getfield 58, 3) := by decide +kernel
theorem zd_LassoSearch_followStem_61 : decode prog_4_method_14_code 61 = .ok (.if_icmp .ge 93, 3) := by decide +kernel
theorem zd_LassoSearch_followStem_64 : decode prog_4_method_14_code 64 = .ok (.iconst 0, 1) := by decide +kernel
theorem zd_LassoSearch_followStem_65 : decode prog_4_method_14_code 65 = .ok (.istore 4, 2) := by decide +kernel
theorem zd_LassoSearch_followStem_67 : decode prog_4_method_14_code 67 = .ok (.aload_n 0, 1) := by decide +kernel
theorem zd_LassoSearch_followStem_68 : decode prog_4_method_14_code 68 = .ok (.getfield 15, 3) := by decide +kernel
theorem zd_LassoSearch_followStem_71 : decode prog_4_method_14_code 71 = .ok (.getfield 148, 3) := by decide +kernel
theorem zd_LassoSearch_followStem_74 : decode prog_4_method_14_code 74 = .ok (.iload_n 2, 1) := by decide +kernel
theorem zd_LassoSearch_followStem_75 : decode prog_4_method_14_code 75 = .ok (.iaload, 1) := by decide +kernel
theorem zd_LassoSearch_followStem_76 : decode prog_4_method_14_code 76 = .ok (.istore 5, 2) := by decide +kernel
theorem zd_LassoSearch_followStem_78 : decode prog_4_method_14_code 78 = .ok (.iload 5, 2) := by decide +kernel
theorem zd_LassoSearch_followStem_80 : decode prog_4_method_14_code 80 = .ok (.aload_n 0, 1) := by decide +kernel
theorem zd_LassoSearch_followStem_81 : decode prog_4_method_14_code 81 = .ok (.getfield 15, 3) := by decide +kernel
theorem zd_LassoSearch_followStem_84 : decode prog_4_method_14_code 84 = .ok (.getfield 148, 3) := by decide +kernel
theorem zd_LassoSearch_followStem_87 : decode prog_4_method_14_code 87 = .ok (.iload_n 2, 1) := by decide +kernel
theorem zd_LassoSearch_followStem_88 : decode prog_4_method_14_code 88 = .ok (.iconst 1, 1) := by decide +kernel
theorem zd_LassoSearch_followStem_89 : decode prog_4_method_14_code 89 = .ok (.iadd, 1) := by decide +kernel
theorem zd_LassoSearch_followStem_90 : decode prog_4_method_14_code 90 = .ok (.iaload, 1) := by decide +kernel
theorem zd_LassoSearch_followStem_91 : decode prog_4_method_14_code 91 = .ok (.if_icmp .ge 39, 3) := by decide +kernel
theorem zd_LassoSearch_followStem_94 : decode prog_4_method_14_code 94 = .ok (.iload 4, 2) := by decide +kernel
theorem zd_LassoSearch_followStem_96 : decode prog_4_method_14_code 96 = .ok (.ifCond .ne 34, 3) := by decide +kernel
theorem zd_LassoSearch_followStem_99 : decode prog_4_method_14_code 99 = .ok (.aload_n 0, 1) := by decide +kernel
theorem zd_LassoSearch_followStem_100 : decode prog_4_method_14_code 100 = .ok (.iload_n 1, 1) := by decide +kernel
theorem zd_LassoSearch_followStem_101 : decode prog_4_method_14_code 101 = .ok (.iload 5, 2) := by decide +kernel
theorem zd_LassoSearch_followStem_103 : decode prog_4_method_14_code 103 = .ok (.aload_n 0, 1) := by decide +kernel
theorem zd_LassoSearch_followStem_104 : decode prog_4_method_14_code 104 = .ok (.getfield 58, 3) := by decide +kernel
theorem zd_LassoSearch_followStem_107 : decode prog_4_method_14_code 107 = .ok (.iload_n 3, 1) := by decide +kernel
theorem zd_LassoSearch_followStem_108 : decode prog_4_method_14_code 108 = .ok (.isub, 1) := by decide +kernel
theorem zd_LassoSearch_followStem_109 : decode prog_4_method_14_code 109 = .ok (.iconst 1, 1) := by decide +kernel
theorem zd_LassoSearch_followStem_110 : decode prog_4_method_14_code 110 = .ok (.isub, 1) := by decide +kernel
theorem zd_LassoSearch_followStem_111 : decode prog_4_method_14_code 111 = .ok (.invokevirtual 157, 3) := by decide +kernel
theorem zd_LassoSearch_followStem_114 : decode prog_4_method_14_code 114 = .ok (.istore 4, 2) := by decide +kernel
theorem zd_LassoSearch_followStem_116 : decode prog_4_method_14_code 116 = .ok (.aload_n 0, 1) := by decide +kernel
theorem zd_LassoSearch_followStem_117 : decode prog_4_method_14_code 117 = .ok (.getfield 49, 3) := by decide +kernel
theorem zd_LassoSearch_followStem_120 : decode prog_4_method_14_code 120 = .ok (.iload_n 3, 1) := by decide +kernel
theorem zd_LassoSearch_followStem_121 : decode prog_4_method_14_code 121 = .ok (.iload 5, 2) := by decide +kernel
theorem zd_LassoSearch_followStem_123 : decode prog_4_method_14_code 123 = .ok (.iastore, 1) := by decide +kernel
theorem zd_LassoSearch_followStem_124 : decode prog_4_method_14_code 124 = .ok (.iinc 5 1, 3) := by decide +kernel
theorem zd_LassoSearch_followStem_127 : decode prog_4_method_14_code 127 = .ok (.goto (-49), 3) := by decide +kernel
theorem zd_LassoSearch_followStem_130 : decode prog_4_method_14_code 130 = .ok (.iload 4, 2) := by decide +kernel
theorem zd_LassoSearch_followStem_132 : decode prog_4_method_14_code 132 = .ok (.istore_n 1, 1) := by decide +kernel
theorem zd_LassoSearch_followStem_133 : decode prog_4_method_14_code 133 = .ok (.aload_n 0, 1) := by decide +kernel
theorem zd_LassoSearch_followStem_134 : decode prog_4_method_14_code 134 = .ok (.getfield 15, 3) := by decide +kernel
theorem zd_LassoSearch_followStem_137 : decode prog_4_method_14_code 137 = .ok (.getfield 151, 3) := by decide +kernel
theorem zd_LassoSearch_followStem_140 : decode prog_4_method_14_code 140 = .ok (.aload_n 0, 1) := by decide +kernel
theorem zd_LassoSearch_followStem_141 : decode prog_4_method_14_code 141 = .ok (.getfield 49, 3) := by decide +kernel
theorem zd_LassoSearch_followStem_144 : decode prog_4_method_14_code 144 = .ok (.iload_n 3, 1) := by decide +kernel
theorem zd_LassoSearch_followStem_145 : decode prog_4_method_14_code 145 = .ok (.iaload, 1) := by decide +kernel
theorem zd_LassoSearch_followStem_146 : decode prog_4_method_14_code 146 = .ok (.iaload, 1) := by decide +kernel
theorem zd_LassoSearch_followStem_147 : decode prog_4_method_14_code 147 = .ok (.istore_n 2, 1) := by decide +kernel
theorem zd_LassoSearch_followStem_148 : decode prog_4_method_14_code 148 = .ok (.iinc 3 1, 3) := by decide +kernel
theorem zd_LassoSearch_followStem_151 : decode prog_4_method_14_code 151 = .ok (.goto (-95), 3) := by decide +kernel
theorem zd_LassoSearch_followStem_154 : decode prog_4_method_14_code 154 = .ok (.iload_n 1, 1) := by decide +kernel
theorem zd_LassoSearch_followStem_155 : decode prog_4_method_14_code 155 = .ok (.ireturn, 1) := by decide +kernel
theorem zd_LassoSearch_spotBefore_0 : decode prog_4_method_4_code 0 = .ok (.iload_n 1, 1) := by decide +kernel
theorem zd_LassoSearch_spotBefore_1 : decode prog_4_method_4_code 1 = .ok (.bipush 8, 2) := by decide +kernel
theorem zd_LassoSearch_spotBefore_3 : decode prog_4_method_4_code 3 = .ok (.imul, 1) := by decide +kernel
theorem zd_LassoSearch_spotBefore_4 : decode prog_4_method_4_code 4 = .ok (.aload_n 0, 1) := by decide +kernel
theorem zd_LassoSearch_spotBefore_5 : decode prog_4_method_4_code 5 = .ok (.getfield 19, 3) := by decide +kernel
theorem zd_LassoSearch_spotBefore_8 : decode prog_4_method_4_code 8 = .ok (.getfield 92, 3) := by decide +kernel
theorem zd_LassoSearch_spotBefore_11 : decode prog_4_method_4_code 11 = .ok (.iload_n 1, 1) := by decide +kernel
theorem zd_LassoSearch_spotBefore_12 : decode prog_4_method_4_code 12 = .ok (.bipush 8, 2) := by decide +kernel
theorem zd_LassoSearch_spotBefore_14 : decode prog_4_method_4_code 14 = .ok (.imul, 1) := by decide +kernel
theorem zd_LassoSearch_spotBefore_15 : decode prog_4_method_4_code 15 = .ok (.iload_n 2, 1) := by decide +kernel
theorem zd_LassoSearch_spotBefore_16 : decode prog_4_method_4_code 16 = .ok (.iadd, 1) := by decide +kernel
theorem zd_LassoSearch_spotBefore_17 : decode prog_4_method_4_code 17 = .ok (.iaload, 1) := by decide +kernel
theorem zd_LassoSearch_spotBefore_18 : decode prog_4_method_4_code 18 = .ok (.iadd, 1) := by decide +kernel
theorem zd_LassoSearch_spotBefore_19 : decode prog_4_method_4_code 19 = .ok (.ireturn, 1) := by decide +kernel
def wc_LassoFinder_hasLasso_S_22 (Post : Int32 → (Nat → Int32) → (Nat → Int64) → (Nat → Nat → Int32) → (Nat → Nat → Int64) → Prop) (y0 : Int32) (I : Nat → Int32) (J : Nat → Int64) (B : Nat → Nat → Int32) (D : Nat → Nat → Int64) : Prop :=
  (y0 = 0 ∨ y0 = 1) ∧ Post y0 I J B D
def wp_LassoFinder_hasLasso_S (I : Nat → Int32) (J : Nat → Int64) (B : Nat → Nat → Int32) (D : Nat → Nat → Int64) (Post : Int32 → (Nat → Int32) → (Nat → Int64) → (Nat → Nat → Int32) → (Nat → Nat → Int64) → Prop) : Prop :=
  (((I 38) = 0 → wc_LassoFinder_hasLasso_S_22  Post 0 I J B D) ∧ (¬ (I 38) = 0 → wc_LassoFinder_hasLasso_S_22  Post 1 I J B D))
set_option maxHeartbeats 8000000 in
set_option maxRecDepth 100000 in
theorem wJ_LassoFinder_hasLasso_S_22 {p : Program} {l : Launch} {e : Env} {s : State} {m : MethodId} {below : List Frame} {meth : Method} {c : Code} {A : Nat → Prop} (G : va_G) (K : Nat → ClassId) (ad : Nat → Nat) (Post : Int32 → (Nat → Int32) → (Nat → Int64) → (Nat → Nat → Int32) → (Nat → Nat → Int64) → Prop) (C : zCx p s m ([.ref (ad 0)] : List Value).toArray meth c A G K prog_1_method_20_code (some .boolean) 1 "LassoFinder") : ∀ (y0 : Int32) (I : Nat → Int32) (J : Nat → Int64) (B : Nat → Nat → Int32) (D : Nat → Nat → Int64) (ls : Array Slot) (H : Heap) (locs : List Loc), wc_LassoFinder_hasLasso_S_22  Post y0 I J B D → lv_has ls 1 [] → zW G A s.heap (wS ad K I J B D) H locs → W p l e { frames := 0, cells := 0, slots := 0, locals := 0 } s m ([.ref (ad 0)] : List Value).toArray below meth c H locs 0 0 (MQ below (va_Qi (fun (r : Int32) (u : zS) => Post r u.1 u.2.1 u.2.2.1 u.2.2.2) (fun u t => zPost G K A (wS ad K u.1 u.2.1 u.2.2.1 u.2.2.2) t) A) ([.ref (ad 0)] : List Value).toArray s 0 0 A) (F0 m 22 ls [.int y0]) := by
  obtain ⟨hx, hb, hr, hml, hts, hown, hlocks, hA, hK⟩ := id C
  intro y0 I J B D ls H locs hok hl hw
  unfold wc_LassoFinder_hasLasso_S_22 at hok
  have hbo := hok.1
  have hok := hok.2
  exact (z_iret (u := (I, J, B, D)) hx hb hr hlocks (z_nar hbo) hw (List.range 77) wS_all wS_nd hok (Nat.le_of_ble_eq_true rfl) (Nat.le_of_ble_eq_true rfl) zd_LassoFinder_hasLasso_22)
set_option maxHeartbeats 8000000 in
set_option maxRecDepth 100000 in
theorem w_LassoFinder_hasLasso_S (l : Launch) (G : va_G) (K : Nat → ClassId) (ad : Nat → Nat) (I : Nat → Int32) (J : Nat → Int64) (B : Nat → Nat → Int32) (D : Nat → Nat → Int64) (Post : Int32 → (Nat → Int32) → (Nat → Int64) → (Nat → Nat → Int32) → (Nat → Nat → Int64) → Prop) (sz : Nat) (hok : wp_LassoFinder_hasLasso_S I J B D  Post) : Met l zy_LassoFinder_hasLasso (Cond.code zy_LassoFinder_hasLasso prog_1_method_20_code 1 (some .boolean) :: zTB) { frames := 0, cells := 0, slots := 0, locals := 0 } (va_Pc [.ref (ad 0)] (zPre G K (wS ad K I J B D) sz)) (va_Qi (fun (r : Int32) (u : zS) => Post r u.1 u.2.1 u.2.2.1 u.2.2.2) (fun u t => zPost G K (va_A (wS ad K I J B D) sz) (wS ad K u.1 u.2.1 u.2.2.1 u.2.2.2) t) (va_A (wS ad K I J B D) sz)) 0 0 (va_A (wS ad K I J B D) sz) := by
  refine zMet (y := zy_LassoFinder_hasLasso) (av := [.ref (ad 0)]) (maxL := 1) (cc := prog_1_method_20_code) (ret := (some .boolean)) (W0 := (wS ad K I J B D)) (sz := sz) (G := G) (K := K) (wt := zTB) (mc := 0) (ms := 0) (Qf := fun A => va_Qi (fun (r : Int32) (u : zS) => Post r u.1 u.2.1 u.2.2.1 u.2.2.2) (fun u t => zPost G K A (wS ad K u.1 u.2.1 u.2.2.1 u.2.2.2) t) A) (by decide) (Nat.le_of_ble_eq_true rfl) ?_
  intro p e s m below meth c ls A hx hb hr hml hts hown hlocks hin hA hK H locs hw hsz hl
  clear hsz
  have hown : s.vm.findClass "LassoFinder" = some m.cls := hown
  have C : zCx p s m ([.ref (ad 0)] : List Value).toArray meth c A G K prog_1_method_20_code (some .boolean) 1 "LassoFinder" := ⟨hx, hb, hr, hml, hts, hown, hlocks, hA, hK⟩
  have hl : lv_has ls 1 [(0, .ref (ad 0))] := hl
  have hw : zW G A s.heap (wS ad K I J B D) H locs := hw
  unfold wp_LassoFinder_hasLasso_S at hok
  refine lv_aload_n hx hb zd_LassoFinder_hasLasso_0 rfl (lv_at hl 0 rfl) ?_
  refine z_get (v := .ref (ad 65)) hx hb hts hown hK hw zZ0 12 wS_g12 8 (by decide) zn_295 rfl zd_LassoFinder_hasLasso_1 ?_
  refine lv_ifnull hx hb zd_LassoFinder_hasLasso_4 ?_
  refine lv_aload_n hx hb zd_LassoFinder_hasLasso_7 rfl (lv_at hl 0 rfl) ?_
  refine z_get (v := .ref (ad 65)) hx hb hts hown hK hw zZ0 12 wS_g12 8 (by decide) zn_295 rfl zd_LassoFinder_hasLasso_8 ?_
  refine z_get (v := .int (I 38)) hx hb hts hown hK hw zZ3 0 wS_g0 19 (by decide) zn_815 rfl zd_LassoFinder_hasLasso_11 ?_
  refine lv_if_eq (tgt := 21) hx hb zd_LassoFinder_hasLasso_14 (by decide) (fun hc1 => ?_) (fun hc1 => ?_)
  · have hok := hok.1 hc1
    refine lv_iconst (v := 0) hx hb zd_LassoFinder_hasLasso_21 (by decide) ?_
    exact wJ_LassoFinder_hasLasso_S_22 G K ad  Post C 0 I J B D ls H locs hok (lv_sub hl [] rfl) hw
  · have hok := hok.2 hc1
    refine lv_iconst (v := 1) hx hb zd_LassoFinder_hasLasso_17 (by decide) ?_
    refine lv_goto (tgt := 22) hx hb zd_LassoFinder_hasLasso_18 (by decide) ?_
    exact wJ_LassoFinder_hasLasso_S_22 G K ad  Post C 1 I J B D ls H locs hok (lv_sub hl [] rfl) hw
def wc_LassoFinder_stem_S_18 (Post : Int32 → (Nat → Int32) → (Nat → Int64) → (Nat → Nat → Int32) → (Nat → Nat → Int64) → Prop) (y0 : Int32) (I : Nat → Int32) (J : Nat → Int64) (B : Nat → Nat → Int32) (D : Nat → Nat → Int64) : Prop :=
  Post y0 I J B D
def wp_LassoFinder_stem_S (I : Nat → Int32) (J : Nat → Int64) (B : Nat → Nat → Int32) (D : Nat → Nat → Int64) (Post : Int32 → (Nat → Int32) → (Nat → Int64) → (Nat → Nat → Int32) → (Nat → Nat → Int64) → Prop) : Prop :=
  wp_LassoFinder_hasLasso_S I J B D  (fun r1 I1 J1 B1 D1 => ((r1 = 0 → wc_LassoFinder_stem_S_18  Post (-1) I1 J1 B1 D1) ∧ (¬ r1 = 0 → wc_LassoFinder_stem_S_18  Post (I1 36) I1 J1 B1 D1)))
set_option maxHeartbeats 8000000 in
set_option maxRecDepth 100000 in
theorem wJ_LassoFinder_stem_S_18 {p : Program} {l : Launch} {e : Env} {s : State} {m : MethodId} {below : List Frame} {meth : Method} {c : Code} {A : Nat → Prop} (G : va_G) (K : Nat → ClassId) (ad : Nat → Nat) (Post : Int32 → (Nat → Int32) → (Nat → Int64) → (Nat → Nat → Int32) → (Nat → Nat → Int64) → Prop) (C : zCx p s m ([.ref (ad 0)] : List Value).toArray meth c A G K prog_1_method_7_code (some .int) 1 "LassoFinder") : ∀ (y0 : Int32) (I : Nat → Int32) (J : Nat → Int64) (B : Nat → Nat → Int32) (D : Nat → Nat → Int64) (ls : Array Slot) (H : Heap) (locs : List Loc), wc_LassoFinder_stem_S_18  Post y0 I J B D → lv_has ls 1 [] → zW G A s.heap (wS ad K I J B D) H locs → W p l e { frames := 1, cells := 0, slots := 0, locals := 20 } s m ([.ref (ad 0)] : List Value).toArray below meth c H locs 0 0 (MQ below (va_Qi (fun (r : Int32) (u : zS) => Post r u.1 u.2.1 u.2.2.1 u.2.2.2) (fun u t => zPost G K A (wS ad K u.1 u.2.1 u.2.2.1 u.2.2.2) t) A) ([.ref (ad 0)] : List Value).toArray s 0 0 A) (F0 m 18 ls [.int y0]) := by
  obtain ⟨hx, hb, hr, hml, hts, hown, hlocks, hA, hK⟩ := id C
  intro y0 I J B D ls H locs hok hl hw
  unfold wc_LassoFinder_stem_S_18 at hok
  exact (z_iret (u := (I, J, B, D)) hx hb hr hlocks rfl hw (List.range 77) wS_all wS_nd hok (Nat.le_of_ble_eq_true rfl) (Nat.le_of_ble_eq_true rfl) zd_LassoFinder_stem_18)
set_option maxHeartbeats 8000000 in
set_option maxRecDepth 100000 in
theorem w_LassoFinder_stem_S (l : Launch) (G : va_G) (K : Nat → ClassId) (ad : Nat → Nat) (I : Nat → Int32) (J : Nat → Int64) (B : Nat → Nat → Int32) (D : Nat → Nat → Int64) (Post : Int32 → (Nat → Int32) → (Nat → Int64) → (Nat → Nat → Int32) → (Nat → Nat → Int64) → Prop) (sz : Nat) (hok : wp_LassoFinder_stem_S I J B D  Post) : Met l zy_LassoFinder_stem (Cond.code zy_LassoFinder_stem prog_1_method_7_code 1 (some .int) :: zTB) { frames := 1, cells := 0, slots := 0, locals := 20 } (va_Pc [.ref (ad 0)] (zPre G K (wS ad K I J B D) sz)) (va_Qi (fun (r : Int32) (u : zS) => Post r u.1 u.2.1 u.2.2.1 u.2.2.2) (fun u t => zPost G K (va_A (wS ad K I J B D) sz) (wS ad K u.1 u.2.1 u.2.2.1 u.2.2.2) t) (va_A (wS ad K I J B D) sz)) 0 0 (va_A (wS ad K I J B D) sz) := by
  refine zMet (y := zy_LassoFinder_stem) (av := [.ref (ad 0)]) (maxL := 1) (cc := prog_1_method_7_code) (ret := (some .int)) (W0 := (wS ad K I J B D)) (sz := sz) (G := G) (K := K) (wt := zTB) (mc := 0) (ms := 0) (Qf := fun A => va_Qi (fun (r : Int32) (u : zS) => Post r u.1 u.2.1 u.2.2.1 u.2.2.2) (fun u t => zPost G K A (wS ad K u.1 u.2.1 u.2.2.1 u.2.2.2) t) A) (by decide) (Nat.le_of_ble_eq_true rfl) ?_
  intro p e s m below meth c ls A hx hb hr hml hts hown hlocks hin hA hK H locs hw hsz hl
  clear hsz
  have hown : s.vm.findClass "LassoFinder" = some m.cls := hown
  have C : zCx p s m ([.ref (ad 0)] : List Value).toArray meth c A G K prog_1_method_7_code (some .int) 1 "LassoFinder" := ⟨hx, hb, hr, hml, hts, hown, hlocks, hA, hK⟩
  have hl : lv_has ls 1 [(0, .ref (ad 0))] := hl
  have hw : zW G A s.heap (wS ad K I J B D) H locs := hw
  unfold wp_LassoFinder_stem_S at hok
  refine lv_aload_n hx hb zd_LassoFinder_stem_0 rfl (lv_at hl 0 rfl) ?_
  refine z_calli (w1 := fun (u : zS) => wS ad K u.1 u.2.1 u.2.2.1 u.2.2.2) (wr := []) (z_runV (q0 := 12) (wc := (wS ad K I J B D)) (As := []) (rest := []) ⟨hx, hb, hml, hown, hts⟩ (w_LassoFinder_hasLasso_S l G K ad I J B D  _ H.size hok) zf_LassoFinder_hasLasso zn_294 ⟨Nat.le_of_ble_eq_true rfl, Nat.le_of_ble_eq_true rfl⟩ hK hw (List.range 77) wS_all wS_nd wS_g12 rfl rfl hl.1 rfl (Nat.le_of_ble_eq_true rfl) zd_LassoFinder_stem_1 ⟨Nat.le_of_ble_eq_true rfl, Nat.le_of_ble_eq_true rfl⟩) hw hA (List.range 77) [] wS_all rfl (by decide) (fun i hi => by cases hi) (fun r1 u H locs hok hw => ?_)
  obtain ⟨I1, J1, B1, D1⟩ := u
  dsimp only at hok
  have hw : zW G A s.heap (wS ad K I1 J1 B1 D1) H locs := hw
  refine lv_if_eq (tgt := 17) hx hb zd_LassoFinder_stem_4 (by decide) (fun hc2 => ?_) (fun hc2 => ?_)
  · have hok := hok.1 hc2
    refine lv_iconst (v := (-1)) hx hb zd_LassoFinder_stem_17 (by decide) ?_
    exact wJ_LassoFinder_stem_S_18 G K ad  Post C (-1) I1 J1 B1 D1 ls H locs hok (lv_sub hl [] rfl) hw
  · have hok := hok.2 hc2
    refine lv_aload_n hx hb zd_LassoFinder_stem_7 rfl (lv_at hl 0 rfl) ?_
    refine z_get (v := .ref (ad 65)) hx hb hts hown hK hw zZ0 12 wS_g12 8 (by decide) zn_295 rfl zd_LassoFinder_stem_8 ?_
    refine z_get (v := .int (I1 36)) hx hb hts hown hK hw zZ3 0 wS_g0 17 (by decide) zn_814 rfl zd_LassoFinder_stem_11 ?_
    refine lv_goto (tgt := 18) hx hb zd_LassoFinder_stem_14 (by decide) ?_
    exact wJ_LassoFinder_stem_S_18 G K ad  Post C (I1 36) I1 J1 B1 D1 ls H locs hok (lv_sub hl [] rfl) hw
def wc_LassoFinder_cycle_S_18 (Post : Int32 → (Nat → Int32) → (Nat → Int64) → (Nat → Nat → Int32) → (Nat → Nat → Int64) → Prop) (y0 : Int32) (I : Nat → Int32) (J : Nat → Int64) (B : Nat → Nat → Int32) (D : Nat → Nat → Int64) : Prop :=
  Post y0 I J B D
def wp_LassoFinder_cycle_S (I : Nat → Int32) (J : Nat → Int64) (B : Nat → Nat → Int32) (D : Nat → Nat → Int64) (Post : Int32 → (Nat → Int32) → (Nat → Int64) → (Nat → Nat → Int32) → (Nat → Nat → Int64) → Prop) : Prop :=
  wp_LassoFinder_hasLasso_S I J B D  (fun r1 I1 J1 B1 D1 => ((r1 = 0 → wc_LassoFinder_cycle_S_18  Post 0 I1 J1 B1 D1) ∧ (¬ r1 = 0 → wc_LassoFinder_cycle_S_18  Post (I1 37) I1 J1 B1 D1)))
set_option maxHeartbeats 8000000 in
set_option maxRecDepth 100000 in
theorem wJ_LassoFinder_cycle_S_18 {p : Program} {l : Launch} {e : Env} {s : State} {m : MethodId} {below : List Frame} {meth : Method} {c : Code} {A : Nat → Prop} (G : va_G) (K : Nat → ClassId) (ad : Nat → Nat) (Post : Int32 → (Nat → Int32) → (Nat → Int64) → (Nat → Nat → Int32) → (Nat → Nat → Int64) → Prop) (C : zCx p s m ([.ref (ad 0)] : List Value).toArray meth c A G K prog_1_method_8_code (some .int) 1 "LassoFinder") : ∀ (y0 : Int32) (I : Nat → Int32) (J : Nat → Int64) (B : Nat → Nat → Int32) (D : Nat → Nat → Int64) (ls : Array Slot) (H : Heap) (locs : List Loc), wc_LassoFinder_cycle_S_18  Post y0 I J B D → lv_has ls 1 [] → zW G A s.heap (wS ad K I J B D) H locs → W p l e { frames := 1, cells := 0, slots := 0, locals := 20 } s m ([.ref (ad 0)] : List Value).toArray below meth c H locs 0 0 (MQ below (va_Qi (fun (r : Int32) (u : zS) => Post r u.1 u.2.1 u.2.2.1 u.2.2.2) (fun u t => zPost G K A (wS ad K u.1 u.2.1 u.2.2.1 u.2.2.2) t) A) ([.ref (ad 0)] : List Value).toArray s 0 0 A) (F0 m 18 ls [.int y0]) := by
  obtain ⟨hx, hb, hr, hml, hts, hown, hlocks, hA, hK⟩ := id C
  intro y0 I J B D ls H locs hok hl hw
  unfold wc_LassoFinder_cycle_S_18 at hok
  exact (z_iret (u := (I, J, B, D)) hx hb hr hlocks rfl hw (List.range 77) wS_all wS_nd hok (Nat.le_of_ble_eq_true rfl) (Nat.le_of_ble_eq_true rfl) zd_LassoFinder_cycle_18)
set_option maxHeartbeats 8000000 in
set_option maxRecDepth 100000 in
theorem w_LassoFinder_cycle_S (l : Launch) (G : va_G) (K : Nat → ClassId) (ad : Nat → Nat) (I : Nat → Int32) (J : Nat → Int64) (B : Nat → Nat → Int32) (D : Nat → Nat → Int64) (Post : Int32 → (Nat → Int32) → (Nat → Int64) → (Nat → Nat → Int32) → (Nat → Nat → Int64) → Prop) (sz : Nat) (hok : wp_LassoFinder_cycle_S I J B D  Post) : Met l zy_LassoFinder_cycle (Cond.code zy_LassoFinder_cycle prog_1_method_8_code 1 (some .int) :: zTB) { frames := 1, cells := 0, slots := 0, locals := 20 } (va_Pc [.ref (ad 0)] (zPre G K (wS ad K I J B D) sz)) (va_Qi (fun (r : Int32) (u : zS) => Post r u.1 u.2.1 u.2.2.1 u.2.2.2) (fun u t => zPost G K (va_A (wS ad K I J B D) sz) (wS ad K u.1 u.2.1 u.2.2.1 u.2.2.2) t) (va_A (wS ad K I J B D) sz)) 0 0 (va_A (wS ad K I J B D) sz) := by
  refine zMet (y := zy_LassoFinder_cycle) (av := [.ref (ad 0)]) (maxL := 1) (cc := prog_1_method_8_code) (ret := (some .int)) (W0 := (wS ad K I J B D)) (sz := sz) (G := G) (K := K) (wt := zTB) (mc := 0) (ms := 0) (Qf := fun A => va_Qi (fun (r : Int32) (u : zS) => Post r u.1 u.2.1 u.2.2.1 u.2.2.2) (fun u t => zPost G K A (wS ad K u.1 u.2.1 u.2.2.1 u.2.2.2) t) A) (by decide) (Nat.le_of_ble_eq_true rfl) ?_
  intro p e s m below meth c ls A hx hb hr hml hts hown hlocks hin hA hK H locs hw hsz hl
  clear hsz
  have hown : s.vm.findClass "LassoFinder" = some m.cls := hown
  have C : zCx p s m ([.ref (ad 0)] : List Value).toArray meth c A G K prog_1_method_8_code (some .int) 1 "LassoFinder" := ⟨hx, hb, hr, hml, hts, hown, hlocks, hA, hK⟩
  have hl : lv_has ls 1 [(0, .ref (ad 0))] := hl
  have hw : zW G A s.heap (wS ad K I J B D) H locs := hw
  unfold wp_LassoFinder_cycle_S at hok
  refine lv_aload_n hx hb zd_LassoFinder_cycle_0 rfl (lv_at hl 0 rfl) ?_
  refine z_calli (w1 := fun (u : zS) => wS ad K u.1 u.2.1 u.2.2.1 u.2.2.2) (wr := []) (z_runV (q0 := 12) (wc := (wS ad K I J B D)) (As := []) (rest := []) ⟨hx, hb, hml, hown, hts⟩ (w_LassoFinder_hasLasso_S l G K ad I J B D  _ H.size hok) zf_LassoFinder_hasLasso zn_294 ⟨Nat.le_of_ble_eq_true rfl, Nat.le_of_ble_eq_true rfl⟩ hK hw (List.range 77) wS_all wS_nd wS_g12 rfl rfl hl.1 rfl (Nat.le_of_ble_eq_true rfl) zd_LassoFinder_cycle_1 ⟨Nat.le_of_ble_eq_true rfl, Nat.le_of_ble_eq_true rfl⟩) hw hA (List.range 77) [] wS_all rfl (by decide) (fun i hi => by cases hi) (fun r1 u H locs hok hw => ?_)
  obtain ⟨I1, J1, B1, D1⟩ := u
  dsimp only at hok
  have hw : zW G A s.heap (wS ad K I1 J1 B1 D1) H locs := hw
  refine lv_if_eq (tgt := 17) hx hb zd_LassoFinder_cycle_4 (by decide) (fun hc2 => ?_) (fun hc2 => ?_)
  · have hok := hok.1 hc2
    refine lv_iconst (v := 0) hx hb zd_LassoFinder_cycle_17 (by decide) ?_
    exact wJ_LassoFinder_cycle_S_18 G K ad  Post C 0 I1 J1 B1 D1 ls H locs hok (lv_sub hl [] rfl) hw
  · have hok := hok.2 hc2
    refine lv_aload_n hx hb zd_LassoFinder_cycle_7 rfl (lv_at hl 0 rfl) ?_
    refine z_get (v := .ref (ad 65)) hx hb hts hown hK hw zZ0 12 wS_g12 8 (by decide) zn_295 rfl zd_LassoFinder_cycle_8 ?_
    refine z_get (v := .int (I1 37)) hx hb hts hown hK hw zZ3 0 wS_g0 18 (by decide) zn_816 rfl zd_LassoFinder_cycle_11 ?_
    refine lv_goto (tgt := 18) hx hb zd_LassoFinder_cycle_14 (by decide) ?_
    exact wJ_LassoFinder_cycle_S_18 G K ad  Post C (I1 37) I1 J1 B1 D1 ls H locs hok (lv_sub hl [] rfl) hw
def wp_LassoFinder_dropFormula_S (I : Nat → Int32) (J : Nat → Int64) (B : Nat → Nat → Int32) (D : Nat → Nat → Int64) (Post : (Nat → Int32) → (Nat → Int64) → (Nat → Nat → Int32) → (Nat → Nat → Int64) → Prop) : Prop :=
  Post (upd (upd I 2 0) 38 0) J B D
set_option maxHeartbeats 8000000 in
set_option maxRecDepth 100000 in
theorem w_LassoFinder_dropFormula_S (l : Launch) (G : va_G) (K : Nat → ClassId) (ad : Nat → Nat) (I : Nat → Int32) (J : Nat → Int64) (B : Nat → Nat → Int32) (D : Nat → Nat → Int64) (Post : (Nat → Int32) → (Nat → Int64) → (Nat → Nat → Int32) → (Nat → Nat → Int64) → Prop) (sz : Nat) (hok : wp_LassoFinder_dropFormula_S I J B D  Post) : Met l zy_LassoFinder_dropFormula (Cond.code zy_LassoFinder_dropFormula prog_1_method_19_code 1 none :: zTB) { frames := 0, cells := 0, slots := 0, locals := 0 } (va_Pc [.ref (ad 0)] (zPre G K (wS ad K I J B D) sz)) (va_Qv (fun u : zS => Post u.1 u.2.1 u.2.2.1 u.2.2.2) (fun u t => zPost G K (va_A (wS ad K I J B D) sz) (wS ad K u.1 u.2.1 u.2.2.1 u.2.2.2) t) (va_A (wS ad K I J B D) sz)) 0 0 (va_A (wS ad K I J B D) sz) := by
  refine zMet (y := zy_LassoFinder_dropFormula) (av := [.ref (ad 0)]) (maxL := 1) (cc := prog_1_method_19_code) (ret := none) (W0 := (wS ad K I J B D)) (sz := sz) (G := G) (K := K) (wt := zTB) (mc := 0) (ms := 0) (Qf := fun A => va_Qv (fun u : zS => Post u.1 u.2.1 u.2.2.1 u.2.2.2) (fun u t => zPost G K A (wS ad K u.1 u.2.1 u.2.2.1 u.2.2.2) t) A) (by decide) (Nat.le_of_ble_eq_true rfl) ?_
  intro p e s m below meth c ls A hx hb hr hml hts hown hlocks hin hA hK H locs hw hsz hl
  clear hsz
  have hown : s.vm.findClass "LassoFinder" = some m.cls := hown
  have C : zCx p s m ([.ref (ad 0)] : List Value).toArray meth c A G K prog_1_method_19_code none 1 "LassoFinder" := ⟨hx, hb, hr, hml, hts, hown, hlocks, hA, hK⟩
  have hl : lv_has ls 1 [(0, .ref (ad 0))] := hl
  have hw : zW G A s.heap (wS ad K I J B D) H locs := hw
  unfold wp_LassoFinder_dropFormula_S at hok
  refine lv_aload_n hx hb zd_LassoFinder_dropFormula_0 rfl (lv_at hl 0 rfl) ?_
  refine lv_iconst (v := 0) hx hb zd_LassoFinder_dropFormula_1 (by decide) ?_
  refine z_put (v := .int 0) hx hb hts hown hK hw zZ0 12 wS_g12 12 (by decide) zn_415 rfl rfl rfl (Nat.le_of_ble_eq_true rfl) zd_LassoFinder_dropFormula_2 (fun H locs hw => ?_)
  have hw := wS_sI2 hw
  refine lv_aload_n hx hb zd_LassoFinder_dropFormula_5 rfl (lv_at hl 0 rfl) ?_
  refine z_get (v := .ref (ad 65)) hx hb hts hown hK hw zZ0 12 wS_g12 8 (by decide) zn_295 rfl zd_LassoFinder_dropFormula_6 ?_
  refine lv_ifnull hx hb zd_LassoFinder_dropFormula_9 ?_
  refine lv_aload_n hx hb zd_LassoFinder_dropFormula_12 rfl (lv_at hl 0 rfl) ?_
  refine z_get (v := .ref (ad 65)) hx hb hts hown hK hw zZ0 12 wS_g12 8 (by decide) zn_295 rfl zd_LassoFinder_dropFormula_13 ?_
  refine lv_iconst (v := 0) hx hb zd_LassoFinder_dropFormula_16 (by decide) ?_
  refine z_put (v := .int 0) hx hb hts hown hK hw zZ3 0 wS_g0 19 (by decide) zn_815 rfl rfl rfl (Nat.le_of_ble_eq_true rfl) zd_LassoFinder_dropFormula_17 (fun H locs hw => ?_)
  have hw := wS_sI38 hw
  exact (z_vret (u := ((upd (upd I 2 0) 38 0), J, B, D)) hx hb hr hlocks hw (List.range 77) wS_all wS_nd hok (Nat.le_of_ble_eq_true rfl) (Nat.le_of_ble_eq_true rfl) zd_LassoFinder_dropFormula_20)
def wp_LassoFinder_model_S (I : Nat → Int32) (J : Nat → Int64) (B : Nat → Nat → Int32) (D : Nat → Nat → Int64) (Post : Int32 → (Nat → Int32) → (Nat → Int64) → (Nat → Nat → Int32) → (Nat → Nat → Int64) → Prop) (PX : String → (Nat → Int32) → (Nat → Int64) → (Nat → Nat → Int32) → (Nat → Nat → Int64) → Prop) : Prop :=
  wp_LassoFinder_dropFormula_S (upd (upd I 1 0) 0 (-1)) J B D  (fun I1 J1 B1 D1 => wp_Text_open I1 J1 B1 D1  (fun I2 J2 B2 D2 => wp_ModelReader_readAll (zmix 32 I2 I1) J2 (zmix 50 B2 B1) D2  (fun I3 J3 B3 D3 => wp_Graph_explore (zmix 32 I3 (zmix 32 I2 I1)) J3 (zmix 50 B3 (zmix 50 B2 B1)) D3  (fun r4 I4 J4 B4 D4 => ((¬ r4 = 0 → Post ((zmix 32 I4 (zmix 32 I3 (zmix 32 I2 I1))) 19) (upd (zmix 32 I4 (zmix 32 I3 (zmix 32 I2 I1))) 1 1) J4 (zmix 50 B4 (zmix 50 B3 (zmix 50 B2 B1))) D4) ∧ (r4 = 0 → PX "java/lang/UnsupportedOperationException" (zmix 32 I4 (zmix 32 I3 (zmix 32 I2 I1))) J4 (zmix 50 B4 (zmix 50 B3 (zmix 50 B2 B1))) D4)))) (fun E I8 J8 B8 D8 => PX E (zmix 32 I8 (zmix 32 I2 I1)) J8 (zmix 50 B8 (zmix 50 B2 B1)) D8)))
set_option maxHeartbeats 8000000 in
set_option maxRecDepth 100000 in
theorem w_LassoFinder_model_S (l : Launch) (hlt : l.stackTraces = false) (G : va_G) (K : Nat → ClassId) (ad : Nat → Nat) (I : Nat → Int32) (J : Nat → Int64) (B : Nat → Nat → Int32) (D : Nat → Nat → Int64) (Post : Int32 → (Nat → Int32) → (Nat → Int64) → (Nat → Nat → Int32) → (Nat → Nat → Int64) → Prop) (PX : String → (Nat → Int32) → (Nat → Int64) → (Nat → Nat → Int32) → (Nat → Nat → Int64) → Prop) (sz : Nat) (hok : wp_LassoFinder_model_S I J B D  Post PX) : zyMet l zy_LassoFinder_model (Cond.code zy_LassoFinder_model prog_1_method_3_code 1 (some .int) :: zTB) { frames := 36, cells := 1, slots := 6, locals := 838 } (va_Pc [.ref (ad 0)] (zPreY G K (wS ad K I J B D) sz)) (va_Qi (fun (r : Int32) (u : zS) => Post r u.1 u.2.1 u.2.2.1 u.2.2.2) (fun u t => zPost G K (va_A (wS ad K I J B D) sz) (wS ad K u.1 u.2.1 u.2.2.1 u.2.2.2) t) (va_A (wS ad K I J B D) sz)) (zYC (fun E (u : zS) => PX E u.1 u.2.1 u.2.2.1 u.2.2.2) (fun u => wS ad K u.1 u.2.1 u.2.2.1 u.2.2.2) G K (va_A (wS ad K I J B D) sz)) 1 6 (va_A (wS ad K I J B D) sz) := by
  refine zMetY (y := zy_LassoFinder_model) (av := [.ref (ad 0)]) (maxL := 1) (cc := prog_1_method_3_code) (ret := (some .int)) (W0 := (wS ad K I J B D)) (sz := sz) (G := G) (K := K) (wt := zTB) (mc := 1) (ms := 6) (Qf := fun A => va_Qi (fun (r : Int32) (u : zS) => Post r u.1 u.2.1 u.2.2.1 u.2.2.2) (fun u t => zPost G K A (wS ad K u.1 u.2.1 u.2.2.1 u.2.2.2) t) A) (Xf := fun A => (zYC (fun E (u : zS) => PX E u.1 u.2.1 u.2.2.1 u.2.2.2) (fun u => wS ad K u.1 u.2.1 u.2.2.1 u.2.2.2) G K A)) (by decide) (Nat.le_of_ble_eq_true rfl) ?_
  intro p e s m below meth c ls A hx hb hr hml hts hown hlocks hin hA hK H locs hw hsz hl hT hnt
  clear hsz
  have hown : s.vm.findClass "LassoFinder" = some m.cls := hown
  have C : zCy p l s m ([.ref (ad 0)] : List Value).toArray meth c A G K prog_1_method_3_code (some .int) 1 "LassoFinder" := ⟨hx, hb, hr, hml, hts, hown, hlocks, hA, hK, hT, hnt, hlt⟩
  have hl : lv_has ls 1 [(0, .ref (ad 0))] := hl
  have hw : zW G A s.heap (wS ad K I J B D) H locs := hw
  unfold wp_LassoFinder_model_S at hok
  refine lv_aload_n hx hb zd_LassoFinder_model_0 rfl (lv_at hl 0 rfl) ?_
  refine lv_iconst (v := 0) hx hb zd_LassoFinder_model_1 (by decide) ?_
  refine z_put (v := .int 0) hx hb hts hown hK hw zZ0 12 wS_g12 11 (by decide) zn_317 rfl rfl rfl (Nat.le_of_ble_eq_true rfl) zd_LassoFinder_model_2 (fun H locs hw => ?_)
  have hw := wS_sI1 hw
  refine lv_aload_n hx hb zd_LassoFinder_model_5 rfl (lv_at hl 0 rfl) ?_
  refine lv_iconst (v := (-1)) hx hb zd_LassoFinder_model_6 (by decide) ?_
  refine z_put (v := .int (-1)) hx hb hts hown hK hw zZ0 12 wS_g12 10 (by decide) zn_297 rfl rfl rfl (Nat.le_of_ble_eq_true rfl) zd_LassoFinder_model_7 (fun H locs hw => ?_)
  have hw := wS_sI0 hw
  refine lv_aload_n hx hb zd_LassoFinder_model_10 rfl (lv_at hl 0 rfl) ?_
  refine z_callv (w1 := fun (u : zS) => wS ad K u.1 u.2.1 u.2.2.1 u.2.2.2) (wr := []) (z_runV (q0 := 12) (wc := (wS ad K (upd (upd I 1 0) 0 (-1)) J B D)) (As := []) (rest := []) ⟨hx, hb, hml, hown, hts⟩ (w_LassoFinder_dropFormula_S l G K ad (upd (upd I 1 0) 0 (-1)) J B D  _ H.size hok) zf_LassoFinder_dropFormula zn_321 ⟨Nat.le_of_ble_eq_true rfl, Nat.le_of_ble_eq_true rfl⟩ hK hw (List.range 77) wS_all wS_nd wS_g12 rfl rfl hl.1 rfl (Nat.le_of_ble_eq_true rfl) zd_LassoFinder_model_11 ⟨Nat.le_of_ble_eq_true rfl, Nat.le_of_ble_eq_true rfl⟩) hw hA (List.range 77) [] wS_all rfl (by decide) (fun i hi => by cases hi) (fun u H locs hok hw => ?_)
  obtain ⟨I1, J1, B1, D1⟩ := u
  dsimp only at hok
  have hw : zW G A s.heap (wS ad K I1 J1 B1 D1) H locs := hw
  refine lv_aload_n hx hb zd_LassoFinder_model_14 rfl (lv_at hl 0 rfl) ?_
  refine z_get (v := .ref (ad 1)) hx hb hts hown hK hw zZ0 12 wS_g12 0 (by decide) zn_291 rfl zd_LassoFinder_model_15 ?_
  refine z_callv (w1 := fun (u : zS) => wX ad K (.ref (ad 65)) u.1 u.2.1 u.2.2.1 u.2.2.2) (wr := (wSl ad K I1 J1 B1 D1)) (z_runV (q0 := 13) (wc := (wX ad K (.ref (ad 65)) I1 J1 B1 D1)) (As := []) (rest := []) ⟨hx, hb, hml, hown, hts⟩ (w_Text_open l G K ad (.ref (ad 65)) I1 J1 B1 D1  _ H.size hok) zf_Text_open zn_322 ⟨Nat.le_of_ble_eq_true rfl, Nat.le_of_ble_eq_true rfl⟩ hK hw (List.range' 12 65) wS_allX wS_ndX wS_g13 rfl rfl hl.1 rfl (Nat.le_of_ble_eq_true rfl) zd_LassoFinder_model_18 ⟨Nat.le_of_ble_eq_true rfl, Nat.le_of_ble_eq_true rfl⟩) hw hA (List.range' 12 65) (List.range 12) wS_allX wS_allL (by decide +kernel) wS_dis (fun u H locs hok hw => ?_)
  obtain ⟨I2, J2, B2, D2⟩ := u
  dsimp only at hok
  have hw := wS_mix hw
  have hw : zW G A s.heap (wS ad K (zmix 32 I2 I1) J2 (zmix 50 B2 B1) D2) H locs := hw
  refine lv_aload_n hx hb zd_LassoFinder_model_21 rfl (lv_at hl 0 rfl) ?_
  refine z_get (v := .ref (ad 5)) hx hb hts hown hK hw zZ0 12 wS_g12 3 (by decide) zn_414 rfl zd_LassoFinder_model_22 ?_
  refine z_yV (q0 := 17) (wc := (wX ad K (.ref (ad 65)) (zmix 32 I2 I1) J2 (zmix 50 B2 B1) D2)) (wr := (wSl ad K (zmix 32 I2 I1) J2 (zmix 50 B2 B1) D2)) (w1 := fun (u : zS) => wX ad K (.ref (ad 65)) u.1 u.2.1 u.2.2.1 u.2.2.2) (As := []) (rest := []) ⟨hx, hb, hml, hown, hts⟩ (w_ModelReader_readAll l hlt G K ad (.ref (ad 65)) (zmix 32 I2 I1) J2 (zmix 50 B2 B1) D2  _ _ H.size hok) zf_ModelReader_readAll zn_323 ⟨Nat.le_of_ble_eq_true rfl, Nat.le_of_ble_eq_true rfl⟩ hK hT hw hA (List.range' 12 65) (List.range 12) wS_allX wS_allL wS_ndX (by decide +kernel) wS_dis wS_g17 rfl rfl hl.1 rfl (Nat.le_of_ble_eq_true rfl) zd_LassoFinder_model_25 ⟨Nat.le_of_ble_eq_true rfl, Nat.le_of_ble_eq_true rfl⟩ (fun v st9 t9 L9 h0 hq hL => ?_) (fun E ce q9 u H locs hu hw hce hcv hcl => z_yout (u := ((zmix 32 u.1 (zmix 32 I2 I1)), u.2.1, (zmix 50 u.2.2.1 (zmix 50 B2 B1)), u.2.2.2)) hnt hlocks hce hcv hcl (wS_mix hw) (List.range 77) wS_all wS_nd hu (Nat.le_of_ble_eq_true rfl) (Nat.le_of_ble_eq_true rfl))
  obtain ⟨⟨u, hv9, hok, hB9⟩, hF9⟩ := hq
  cases hv9
  have hw := z_back (wr := (wSl ad K (zmix 32 I2 I1) J2 (zmix 50 B2 B1) D2)) hw hA (List.range' 12 65) (List.range 12) wS_allX wS_allL (by decide +kernel) wS_dis h0 hL hB9 hF9
  obtain ⟨I3, J3, B3, D3⟩ := u
  dsimp only at hok
  generalize t9.heap = H at hw ⊢
  generalize locs ++ L9 = locs at hw ⊢
  have hw := wS_mix hw
  have hw : zW G A s.heap (wS ad K (zmix 32 I3 (zmix 32 I2 I1)) J3 (zmix 50 B3 (zmix 50 B2 B1)) D3) H locs := hw
  refine W.eq (g2 := F0 m 28 ls []) rfl ?_
  refine lv_aload_n hx hb zd_LassoFinder_model_28 rfl (lv_at hl 0 rfl) ?_
  refine z_get (v := .ref (ad 8)) hx hb hts hown hK hw zZ0 12 wS_g12 5 (by decide) zn_298 rfl zd_LassoFinder_model_29 ?_
  refine z_calli (w1 := fun (u : zS) => wX ad K (.ref (ad 65)) u.1 u.2.1 u.2.2.1 u.2.2.2) (wr := (wSl ad K (zmix 32 I3 (zmix 32 I2 I1)) J3 (zmix 50 B3 (zmix 50 B2 B1)) D3)) (z_runV (q0 := 20) (wc := (wX ad K (.ref (ad 65)) (zmix 32 I3 (zmix 32 I2 I1)) J3 (zmix 50 B3 (zmix 50 B2 B1)) D3)) (As := []) (rest := []) ⟨hx, hb, hml, hown, hts⟩ (w_Graph_explore l G K ad (.ref (ad 65)) (zmix 32 I3 (zmix 32 I2 I1)) J3 (zmix 50 B3 (zmix 50 B2 B1)) D3  _ H.size hok) zf_Graph_explore zn_387 ⟨Nat.le_of_ble_eq_true rfl, Nat.le_of_ble_eq_true rfl⟩ hK hw (List.range' 12 65) wS_allX wS_ndX wS_g20 rfl rfl hl.1 rfl (Nat.le_of_ble_eq_true rfl) zd_LassoFinder_model_32 ⟨Nat.le_of_ble_eq_true rfl, Nat.le_of_ble_eq_true rfl⟩) hw hA (List.range' 12 65) (List.range 12) wS_allX wS_allL (by decide +kernel) wS_dis (fun r4 u H locs hok hw => ?_)
  obtain ⟨I4, J4, B4, D4⟩ := u
  dsimp only at hok
  have hw := wS_mix hw
  have hw : zW G A s.heap (wS ad K (zmix 32 I4 (zmix 32 I3 (zmix 32 I2 I1))) J4 (zmix 50 B4 (zmix 50 B3 (zmix 50 B2 B1))) D4) H locs := hw
  refine lv_if_ne (tgt := 46) hx hb zd_LassoFinder_model_35 (by decide) (fun hc5 => ?_) (fun hc5 => ?_)
  · have hok := hok.1 hc5
    refine lv_aload_n hx hb zd_LassoFinder_model_46 rfl (lv_at hl 0 rfl) ?_
    refine lv_iconst (v := 1) hx hb zd_LassoFinder_model_47 (by decide) ?_
    refine z_put (v := .int 1) hx hb hts hown hK hw zZ0 12 wS_g12 11 (by decide) zn_317 rfl rfl rfl (Nat.le_of_ble_eq_true rfl) zd_LassoFinder_model_48 (fun H locs hw => ?_)
    have hw := wS_sI1 hw
    refine lv_aload_n hx hb zd_LassoFinder_model_51 rfl (lv_at hl 0 rfl) ?_
    refine z_get (v := .ref (ad 8)) hx hb hts hown hK hw zZ0 12 wS_g12 5 (by decide) zn_298 rfl zd_LassoFinder_model_52 ?_
    refine z_get (v := .int ((zmix 32 I4 (zmix 32 I3 (zmix 32 I2 I1))) 19)) hx hb hts hown hK hw zZ2 20 wS_g20 9 (by decide) zn_320 rfl zd_LassoFinder_model_55 ?_
    exact zy_ret (z_iret (u := ((upd (zmix 32 I4 (zmix 32 I3 (zmix 32 I2 I1))) 1 1), J4, (zmix 50 B4 (zmix 50 B3 (zmix 50 B2 B1))), D4)) hx hb hr hlocks rfl hw (List.range 77) wS_all wS_nd hok (Nat.le_of_ble_eq_true rfl) (Nat.le_of_ble_eq_true rfl) zd_LassoFinder_model_58)
  · have hok := hok.2 hc5
    exact z_ythrow (u := ((zmix 32 I4 (zmix 32 I3 (zmix 32 I2 I1))), J4, (zmix 50 B4 (zmix 50 B3 (zmix 50 B2 B1))), D4)) (names := ["java/lang/RuntimeException", "java/lang/Exception"]) hx hb hlt hts hown hnt hlocks hT (by rw [hml]; exact hl.1) (by decide +kernel) (by decide +kernel) zn_576 zn_577 zn_578 zx_3 hw (List.range 77) wS_all wS_nd hok zd_LassoFinder_model_38 zd_LassoFinder_model_41 zd_LassoFinder_model_42 zd_LassoFinder_model_45 (Nat.le_of_ble_eq_true rfl) (Nat.le_of_ble_eq_true rfl) (Nat.le_of_ble_eq_true rfl) (Nat.le_of_ble_eq_true rfl) (Nat.le_of_ble_eq_true rfl) (Nat.le_of_ble_eq_true rfl)
def wp_LassoFinder_formula_S (I : Nat → Int32) (J : Nat → Int64) (B : Nat → Nat → Int32) (D : Nat → Nat → Int64) (Post : Int32 → (Nat → Int32) → (Nat → Int64) → (Nat → Nat → Int32) → (Nat → Nat → Int64) → Prop) (PX : String → (Nat → Int32) → (Nat → Int64) → (Nat → Nat → Int32) → (Nat → Nat → Int64) → Prop) : Prop :=
  wp_LassoFinder_dropFormula_S I J B D  (fun I1 J1 B1 D1 => wp_Text_open I1 J1 B1 D1  (fun I2 J2 B2 D2 => ((¬ ((zmix 32 I2 I1) 1) = 0 → wp_Formula_readAll (zmix 32 I2 I1) J2 (zmix 50 B2 B1) D2  (fun I4 J4 B4 D4 => wp_Truths_fill (zmix 32 I4 (zmix 32 I2 I1)) J4 (zmix 50 B4 (zmix 50 B2 B1)) D4  (fun I5 J5 B5 D5 => Post ((zmix 32 I5 (zmix 32 I4 (zmix 32 I2 I1))) 21) (upd (zmix 32 I5 (zmix 32 I4 (zmix 32 I2 I1))) 2 1) J5 (zmix 50 B5 (zmix 50 B4 (zmix 50 B2 B1))) D5) (fun E I8 J8 B8 D8 => PX E (zmix 32 I8 (zmix 32 I4 (zmix 32 I2 I1))) J8 (zmix 50 B8 (zmix 50 B4 (zmix 50 B2 B1))) D8)) (fun E I8 J8 B8 D8 => PX E (zmix 32 I8 (zmix 32 I2 I1)) J8 (zmix 50 B8 (zmix 50 B2 B1)) D8)) ∧ (((zmix 32 I2 I1) 1) = 0 → PX "java/lang/IllegalStateException" (zmix 32 I2 I1) J2 (zmix 50 B2 B1) D2))))
set_option maxHeartbeats 8000000 in
set_option maxRecDepth 100000 in
theorem w_LassoFinder_formula_S (l : Launch) (hlt : l.stackTraces = false) (G : va_G) (K : Nat → ClassId) (ad : Nat → Nat) (I : Nat → Int32) (J : Nat → Int64) (B : Nat → Nat → Int32) (D : Nat → Nat → Int64) (Post : Int32 → (Nat → Int32) → (Nat → Int64) → (Nat → Nat → Int32) → (Nat → Nat → Int64) → Prop) (PX : String → (Nat → Int32) → (Nat → Int64) → (Nat → Nat → Int32) → (Nat → Nat → Int64) → Prop) (sz : Nat) (hok : wp_LassoFinder_formula_S I J B D  Post PX) : zyMet l zy_LassoFinder_formula (Cond.code zy_LassoFinder_formula prog_1_method_4_code 1 (some .int) :: zTB) { frames := 112, cells := 1, slots := 6, locals := 2716 } (va_Pc [.ref (ad 0)] (zPreY G K (wS ad K I J B D) sz)) (va_Qi (fun (r : Int32) (u : zS) => Post r u.1 u.2.1 u.2.2.1 u.2.2.2) (fun u t => zPost G K (va_A (wS ad K I J B D) sz) (wS ad K u.1 u.2.1 u.2.2.1 u.2.2.2) t) (va_A (wS ad K I J B D) sz)) (zYC (fun E (u : zS) => PX E u.1 u.2.1 u.2.2.1 u.2.2.2) (fun u => wS ad K u.1 u.2.1 u.2.2.1 u.2.2.2) G K (va_A (wS ad K I J B D) sz)) 1 6 (va_A (wS ad K I J B D) sz) := by
  refine zMetY (y := zy_LassoFinder_formula) (av := [.ref (ad 0)]) (maxL := 1) (cc := prog_1_method_4_code) (ret := (some .int)) (W0 := (wS ad K I J B D)) (sz := sz) (G := G) (K := K) (wt := zTB) (mc := 1) (ms := 6) (Qf := fun A => va_Qi (fun (r : Int32) (u : zS) => Post r u.1 u.2.1 u.2.2.1 u.2.2.2) (fun u t => zPost G K A (wS ad K u.1 u.2.1 u.2.2.1 u.2.2.2) t) A) (Xf := fun A => (zYC (fun E (u : zS) => PX E u.1 u.2.1 u.2.2.1 u.2.2.2) (fun u => wS ad K u.1 u.2.1 u.2.2.1 u.2.2.2) G K A)) (by decide) (Nat.le_of_ble_eq_true rfl) ?_
  intro p e s m below meth c ls A hx hb hr hml hts hown hlocks hin hA hK H locs hw hsz hl hT hnt
  clear hsz
  have hown : s.vm.findClass "LassoFinder" = some m.cls := hown
  have C : zCy p l s m ([.ref (ad 0)] : List Value).toArray meth c A G K prog_1_method_4_code (some .int) 1 "LassoFinder" := ⟨hx, hb, hr, hml, hts, hown, hlocks, hA, hK, hT, hnt, hlt⟩
  have hl : lv_has ls 1 [(0, .ref (ad 0))] := hl
  have hw : zW G A s.heap (wS ad K I J B D) H locs := hw
  unfold wp_LassoFinder_formula_S at hok
  refine lv_aload_n hx hb zd_LassoFinder_formula_0 rfl (lv_at hl 0 rfl) ?_
  refine z_callv (w1 := fun (u : zS) => wS ad K u.1 u.2.1 u.2.2.1 u.2.2.2) (wr := []) (z_runV (q0 := 12) (wc := (wS ad K I J B D)) (As := []) (rest := []) ⟨hx, hb, hml, hown, hts⟩ (w_LassoFinder_dropFormula_S l G K ad I J B D  _ H.size hok) zf_LassoFinder_dropFormula zn_321 ⟨Nat.le_of_ble_eq_true rfl, Nat.le_of_ble_eq_true rfl⟩ hK hw (List.range 77) wS_all wS_nd wS_g12 rfl rfl hl.1 rfl (Nat.le_of_ble_eq_true rfl) zd_LassoFinder_formula_1 ⟨Nat.le_of_ble_eq_true rfl, Nat.le_of_ble_eq_true rfl⟩) hw hA (List.range 77) [] wS_all rfl (by decide) (fun i hi => by cases hi) (fun u H locs hok hw => ?_)
  obtain ⟨I1, J1, B1, D1⟩ := u
  dsimp only at hok
  have hw : zW G A s.heap (wS ad K I1 J1 B1 D1) H locs := hw
  refine lv_aload_n hx hb zd_LassoFinder_formula_4 rfl (lv_at hl 0 rfl) ?_
  refine z_get (v := .ref (ad 1)) hx hb hts hown hK hw zZ0 12 wS_g12 0 (by decide) zn_291 rfl zd_LassoFinder_formula_5 ?_
  refine z_callv (w1 := fun (u : zS) => wX ad K (.ref (ad 65)) u.1 u.2.1 u.2.2.1 u.2.2.2) (wr := (wSl ad K I1 J1 B1 D1)) (z_runV (q0 := 13) (wc := (wX ad K (.ref (ad 65)) I1 J1 B1 D1)) (As := []) (rest := []) ⟨hx, hb, hml, hown, hts⟩ (w_Text_open l G K ad (.ref (ad 65)) I1 J1 B1 D1  _ H.size hok) zf_Text_open zn_322 ⟨Nat.le_of_ble_eq_true rfl, Nat.le_of_ble_eq_true rfl⟩ hK hw (List.range' 12 65) wS_allX wS_ndX wS_g13 rfl rfl hl.1 rfl (Nat.le_of_ble_eq_true rfl) zd_LassoFinder_formula_8 ⟨Nat.le_of_ble_eq_true rfl, Nat.le_of_ble_eq_true rfl⟩) hw hA (List.range' 12 65) (List.range 12) wS_allX wS_allL (by decide +kernel) wS_dis (fun u H locs hok hw => ?_)
  obtain ⟨I2, J2, B2, D2⟩ := u
  dsimp only at hok
  have hw := wS_mix hw
  have hw : zW G A s.heap (wS ad K (zmix 32 I2 I1) J2 (zmix 50 B2 B1) D2) H locs := hw
  refine lv_aload_n hx hb zd_LassoFinder_formula_11 rfl (lv_at hl 0 rfl) ?_
  refine z_get (v := .int ((zmix 32 I2 I1) 1)) hx hb hts hown hK hw zZ0 12 wS_g12 11 (by decide) zn_317 rfl zd_LassoFinder_formula_12 ?_
  refine lv_if_ne (tgt := 26) hx hb zd_LassoFinder_formula_15 (by decide) (fun hc3 => ?_) (fun hc3 => ?_)
  · have hok := hok.1 hc3
    refine lv_aload_n hx hb zd_LassoFinder_formula_26 rfl (lv_at hl 0 rfl) ?_
    refine z_get (v := .ref (ad 9)) hx hb hts hown hK hw zZ0 12 wS_g12 6 (by decide) zn_514 rfl zd_LassoFinder_formula_27 ?_
    refine z_yV (q0 := 21) (wc := (wX ad K (.ref (ad 65)) (zmix 32 I2 I1) J2 (zmix 50 B2 B1) D2)) (wr := (wSl ad K (zmix 32 I2 I1) J2 (zmix 50 B2 B1) D2)) (w1 := fun (u : zS) => wX ad K (.ref (ad 65)) u.1 u.2.1 u.2.2.1 u.2.2.2) (As := []) (rest := []) ⟨hx, hb, hml, hown, hts⟩ (w_Formula_readAll l hlt G K ad (.ref (ad 65)) (zmix 32 I2 I1) J2 (zmix 50 B2 B1) D2  _ _ H.size hok) zf_Formula_readAll zn_484 ⟨Nat.le_of_ble_eq_true rfl, Nat.le_of_ble_eq_true rfl⟩ hK hT hw hA (List.range' 12 65) (List.range 12) wS_allX wS_allL wS_ndX (by decide +kernel) wS_dis wS_g21 rfl rfl hl.1 rfl (Nat.le_of_ble_eq_true rfl) zd_LassoFinder_formula_30 ⟨Nat.le_of_ble_eq_true rfl, Nat.le_of_ble_eq_true rfl⟩ (fun v st9 t9 L9 h0 hq hL => ?_) (fun E ce q9 u H locs hu hw hce hcv hcl => z_yout (u := ((zmix 32 u.1 (zmix 32 I2 I1)), u.2.1, (zmix 50 u.2.2.1 (zmix 50 B2 B1)), u.2.2.2)) hnt hlocks hce hcv hcl (wS_mix hw) (List.range 77) wS_all wS_nd hu (Nat.le_of_ble_eq_true rfl) (Nat.le_of_ble_eq_true rfl))
    obtain ⟨⟨u, hv9, hok, hB9⟩, hF9⟩ := hq
    cases hv9
    have hw := z_back (wr := (wSl ad K (zmix 32 I2 I1) J2 (zmix 50 B2 B1) D2)) hw hA (List.range' 12 65) (List.range 12) wS_allX wS_allL (by decide +kernel) wS_dis h0 hL hB9 hF9
    obtain ⟨I4, J4, B4, D4⟩ := u
    dsimp only at hok
    generalize t9.heap = H at hw ⊢
    generalize locs ++ L9 = locs at hw ⊢
    have hw := wS_mix hw
    have hw : zW G A s.heap (wS ad K (zmix 32 I4 (zmix 32 I2 I1)) J4 (zmix 50 B4 (zmix 50 B2 B1)) D4) H locs := hw
    refine W.eq (g2 := F0 m 33 ls []) rfl ?_
    refine lv_aload_n hx hb zd_LassoFinder_formula_33 rfl (lv_at hl 0 rfl) ?_
    refine z_get (v := .ref (ad 11)) hx hb hts hown hK hw zZ0 12 wS_g12 7 (by decide) zn_515 rfl zd_LassoFinder_formula_34 ?_
    refine z_yV (q0 := 23) (wc := (wX ad K (.ref (ad 65)) (zmix 32 I4 (zmix 32 I2 I1)) J4 (zmix 50 B4 (zmix 50 B2 B1)) D4)) (wr := (wSl ad K (zmix 32 I4 (zmix 32 I2 I1)) J4 (zmix 50 B4 (zmix 50 B2 B1)) D4)) (w1 := fun (u : zS) => wX ad K (.ref (ad 65)) u.1 u.2.1 u.2.2.1 u.2.2.2) (As := []) (rest := []) ⟨hx, hb, hml, hown, hts⟩ (w_Truths_fill l hlt G K ad (.ref (ad 65)) (zmix 32 I4 (zmix 32 I2 I1)) J4 (zmix 50 B4 (zmix 50 B2 B1)) D4  _ _ H.size hok) zf_Truths_fill zn_504 ⟨Nat.le_of_ble_eq_true rfl, Nat.le_of_ble_eq_true rfl⟩ hK hT hw hA (List.range' 12 65) (List.range 12) wS_allX wS_allL wS_ndX (by decide +kernel) wS_dis wS_g23 rfl rfl hl.1 rfl (Nat.le_of_ble_eq_true rfl) zd_LassoFinder_formula_37 ⟨Nat.le_of_ble_eq_true rfl, Nat.le_of_ble_eq_true rfl⟩ (fun v st9 t9 L9 h0 hq hL => ?_) (fun E ce q9 u H locs hu hw hce hcv hcl => z_yout (u := ((zmix 32 u.1 (zmix 32 I4 (zmix 32 I2 I1))), u.2.1, (zmix 50 u.2.2.1 (zmix 50 B4 (zmix 50 B2 B1))), u.2.2.2)) hnt hlocks hce hcv hcl (wS_mix hw) (List.range 77) wS_all wS_nd hu (Nat.le_of_ble_eq_true rfl) (Nat.le_of_ble_eq_true rfl))
    obtain ⟨⟨u, hv9, hok, hB9⟩, hF9⟩ := hq
    cases hv9
    have hw := z_back (wr := (wSl ad K (zmix 32 I4 (zmix 32 I2 I1)) J4 (zmix 50 B4 (zmix 50 B2 B1)) D4)) hw hA (List.range' 12 65) (List.range 12) wS_allX wS_allL (by decide +kernel) wS_dis h0 hL hB9 hF9
    obtain ⟨I5, J5, B5, D5⟩ := u
    dsimp only at hok
    generalize t9.heap = H at hw ⊢
    generalize locs ++ L9 = locs at hw ⊢
    have hw := wS_mix hw
    have hw : zW G A s.heap (wS ad K (zmix 32 I5 (zmix 32 I4 (zmix 32 I2 I1))) J5 (zmix 50 B5 (zmix 50 B4 (zmix 50 B2 B1))) D5) H locs := hw
    refine W.eq (g2 := F0 m 40 ls []) rfl ?_
    refine lv_aload_n hx hb zd_LassoFinder_formula_40 rfl (lv_at hl 0 rfl) ?_
    refine lv_iconst (v := 1) hx hb zd_LassoFinder_formula_41 (by decide) ?_
    refine z_put (v := .int 1) hx hb hts hown hK hw zZ0 12 wS_g12 12 (by decide) zn_415 rfl rfl rfl (Nat.le_of_ble_eq_true rfl) zd_LassoFinder_formula_42 (fun H locs hw => ?_)
    have hw := wS_sI2 hw
    refine lv_aload_n hx hb zd_LassoFinder_formula_45 rfl (lv_at hl 0 rfl) ?_
    refine z_get (v := .ref (ad 9)) hx hb hts hown hK hw zZ0 12 wS_g12 6 (by decide) zn_514 rfl zd_LassoFinder_formula_46 ?_
    refine z_get (v := .int ((zmix 32 I5 (zmix 32 I4 (zmix 32 I2 I1))) 21)) hx hb hts hown hK hw zZ1 21 wS_g21 7 (by decide) zn_516 rfl zd_LassoFinder_formula_49 ?_
    exact zy_ret (z_iret (u := ((upd (zmix 32 I5 (zmix 32 I4 (zmix 32 I2 I1))) 2 1), J5, (zmix 50 B5 (zmix 50 B4 (zmix 50 B2 B1))), D5)) hx hb hr hlocks rfl hw (List.range 77) wS_all wS_nd hok (Nat.le_of_ble_eq_true rfl) (Nat.le_of_ble_eq_true rfl) zd_LassoFinder_formula_52)
  · have hok := hok.2 hc3
    exact z_ythrow (u := ((zmix 32 I2 I1), J2, (zmix 50 B2 B1), D2)) (names := ["java/lang/RuntimeException", "java/lang/Exception"]) hx hb hlt hts hown hnt hlocks hT (by rw [hml]; exact hl.1) (by decide +kernel) (by decide +kernel) zn_567 zn_568 zn_569 zx_1 hw (List.range 77) wS_all wS_nd hok zd_LassoFinder_formula_18 zd_LassoFinder_formula_21 zd_LassoFinder_formula_22 zd_LassoFinder_formula_25 (Nat.le_of_ble_eq_true rfl) (Nat.le_of_ble_eq_true rfl) (Nat.le_of_ble_eq_true rfl) (Nat.le_of_ble_eq_true rfl) (Nat.le_of_ble_eq_true rfl) (Nat.le_of_ble_eq_true rfl)
def wp_LassoSearch_spotBefore (I : Nat → Int32) (J : Nat → Int64) (B : Nat → Nat → Int32) (D : Nat → Nat → Int64) (a0 : Int32) (a1 : Int32) (Post : Int32 → (Nat → Int32) → (Nat → Int64) → (Nat → Nat → Int32) → (Nat → Nat → Int64) → Prop) : Prop :=
  ∀ z1 : Int32, z1 = (a0 * 8) → ∀ z2 : Int32, z2 = (a0 * 8) → ∀ z3 : Int32, z3 = (z2 + a1) → vp_in z3 768 ∧ ∀ z4 : Int32, z4 = ((B 47) z3.toNatClampNeg) → ∀ z5 : Int32, z5 = (z1 + z4) → Post z5 I J B D
set_option maxHeartbeats 8000000 in
set_option maxRecDepth 100000 in
theorem w_LassoSearch_spotBefore (l : Launch) (G : va_G) (K : Nat → ClassId) (ad : Nat → Nat) (I : Nat → Int32) (J : Nat → Int64) (B : Nat → Nat → Int32) (D : Nat → Nat → Int64) (a0 : Int32) (a1 : Int32) (Post : Int32 → (Nat → Int32) → (Nat → Int64) → (Nat → Nat → Int32) → (Nat → Nat → Int64) → Prop) (sz : Nat) (hok : wp_LassoSearch_spotBefore I J B D a0 a1 Post) : Met l zy_LassoSearch_spotBefore (Cond.code zy_LassoSearch_spotBefore prog_4_method_4_code 3 (some .int) :: zTB) { frames := 0, cells := 0, slots := 0, locals := 0 } (va_Pc [.ref (ad 65), .int a0, .int a1] (zPre G K (wS ad K I J B D) sz)) (va_Qi (fun (r : Int32) (u : zS) => Post r u.1 u.2.1 u.2.2.1 u.2.2.2) (fun u t => zPost G K (va_A (wS ad K I J B D) sz) (wS ad K u.1 u.2.1 u.2.2.1 u.2.2.2) t) (va_A (wS ad K I J B D) sz)) 0 0 (va_A (wS ad K I J B D) sz) := by
  refine zMet (y := zy_LassoSearch_spotBefore) (av := [.ref (ad 65), .int a0, .int a1]) (maxL := 3) (cc := prog_4_method_4_code) (ret := (some .int)) (W0 := (wS ad K I J B D)) (sz := sz) (G := G) (K := K) (wt := zTB) (mc := 0) (ms := 0) (Qf := fun A => va_Qi (fun (r : Int32) (u : zS) => Post r u.1 u.2.1 u.2.2.1 u.2.2.2) (fun u t => zPost G K A (wS ad K u.1 u.2.1 u.2.2.1 u.2.2.2) t) A) (by decide) (Nat.le_of_ble_eq_true rfl) ?_
  intro p e s m below meth c ls A hx hb hr hml hts hown hlocks hin hA hK H locs hw hsz hl
  clear hsz
  have hown : s.vm.findClass "LassoFinder$LassoSearch" = some m.cls := hown
  have C : zCx p s m ([.ref (ad 65), .int a0, .int a1] : List Value).toArray meth c A G K prog_4_method_4_code (some .int) 3 "LassoFinder$LassoSearch" := ⟨hx, hb, hr, hml, hts, hown, hlocks, hA, hK⟩
  have hl : lv_has ls 3 [(0, .ref (ad 65)), (1, .int a0), (2, .int a1)] := hl
  have hw : zW G A s.heap (wS ad K I J B D) H locs := hw
  unfold wp_LassoSearch_spotBefore at hok
  refine lv_iload_n hx hb zd_LassoSearch_spotBefore_0 rfl (lv_at hl 1 rfl) ?_
  refine lv_bipush (v := 8) hx hb zd_LassoSearch_spotBefore_1 (by decide) ?_
  refine lv_imul hx hb zd_LassoSearch_spotBefore_3 ?_
  refine lv_topi (fun z1 ez1 => ?_)
  have hok := hok z1 ez1
  refine lv_aload_n hx hb zd_LassoSearch_spotBefore_4 rfl (lv_at hl 0 rfl) ?_
  refine z_get (v := .ref (ad 11)) hx hb hts hown hK hw zZ3 0 wS_g0 1 (by decide) zn_819 rfl zd_LassoSearch_spotBefore_5 ?_
  refine z_get (v := .ref (ad 62)) hx hb hts hown hK hw zZ11 23 wS_g23 4 (by decide) zn_826 rfl zd_LassoSearch_spotBefore_8 ?_
  refine lv_iload_n hx hb zd_LassoSearch_spotBefore_11 rfl (lv_at hl 1 rfl) ?_
  refine lv_bipush (v := 8) hx hb zd_LassoSearch_spotBefore_12 (by decide) ?_
  refine lv_imul hx hb zd_LassoSearch_spotBefore_14 ?_
  refine lv_topi (fun z2 ez2 => ?_)
  have hok := hok z2 ez2
  refine lv_iload_n hx hb zd_LassoSearch_spotBefore_15 rfl (lv_at hl 2 rfl) ?_
  refine lv_iadd hx hb zd_LassoSearch_spotBefore_16 ?_
  refine lv_topi (fun z3 ez3 => ?_)
  have hok := hok z3 ez3
  refine va_iald (f := (B 47)) hx hb hK hw.1 74 0 wS_a74 rfl hok.1 zd_LassoSearch_spotBefore_17 ?_
  have hok := hok.2
  refine lv_topi (fun z4 ez4 => ?_)
  have hok := hok z4 ez4
  refine lv_iadd hx hb zd_LassoSearch_spotBefore_18 ?_
  refine lv_topi (fun z5 ez5 => ?_)
  have hok := hok z5 ez5
  exact (z_iret (u := (I, J, B, D)) hx hb hr hlocks rfl hw (List.range 77) wS_all wS_nd hok (Nat.le_of_ble_eq_true rfl) (Nat.le_of_ble_eq_true rfl) zd_LassoSearch_spotBefore_19)
def wc_LassoSearch_allowedBehind_80 (a0 : Int32) (a1 : Int32) (a2 : Int32) (K6 : Int32 → Int32 → Int32 → Int32 → Int32 → (Nat → Int32) → (Nat → Int64) → (Nat → Nat → Int32) → (Nat → Nat → Int64) → Prop) (Post : Int32 → (Nat → Int32) → (Nat → Int64) → (Nat → Nat → Int32) → (Nat → Nat → Int64) → Prop) (x1 : Int32) (x2 : Int32) (x3 : Int32) (x4 : Int32) (x5 : Int32) (I : Nat → Int32) (J : Nat → Int64) (B : Nat → Nat → Int32) (D : Nat → Nat → Int64) : Prop :=
  ∀ z1 : Int32, z1 = (x5 + 1) → K6 x1 x2 x3 x4 z1 I J B D
def wb_LassoSearch_allowedBehind_6 (a0 : Int32) (a1 : Int32) (a2 : Int32) (K6 : Int32 → Int32 → Int32 → Int32 → Int32 → (Nat → Int32) → (Nat → Int64) → (Nat → Nat → Int32) → (Nat → Nat → Int64) → Prop) (Post : Int32 → (Nat → Int32) → (Nat → Int64) → (Nat → Nat → Int32) → (Nat → Nat → Int64) → Prop) (x1 : Int32) (x2 : Int32) (x3 : Int32) (x4 : Int32) (x5 : Int32) (I : Nat → Int32) (J : Nat → Int64) (B : Nat → Nat → Int32) (D : Nat → Nat → Int64) : Prop :=
  (((I 30) ≤ x5 → Post x4 I J B D) ∧ (¬ (I 30) ≤ x5 → vp_in x2 400 ∧ ∀ z3 : Int32, z3 = ((B 33) x2.toNatClampNeg) → wp_LassoSearch_spotBefore I J B D z3 x5 (fun r4 I4 J4 B4 D4 => ∀ z5 : Int32, z5 = (r4 - r4 / 8 * 8) → ∀ z6 : Int32, z6 = (x1 >>> (z5 &&& 31)) → ∀ z7 : Int32, z7 = (z6 &&& 1) → ((z7 = 0 → wc_LassoSearch_allowedBehind_80 a0 a1 a2 K6 Post x1 x2 x3 x4 x5 I4 J4 B4 D4) ∧ (¬ z7 = 0 → vp_in x2 400 ∧ ∀ z9 : Int32, z9 = ((B4 34) x2.toNatClampNeg) → ∀ z10 : Int32, z10 = (z9 * 8) → ∀ z11 : Int32, z11 = (z10 + x5) → vp_in z11 6144 ∧ ∀ z12 : Int32, z12 = ((B4 56) z11.toNatClampNeg) → ((¬ z12 = x3 → wc_LassoSearch_allowedBehind_80 a0 a1 a2 K6 Post x1 x2 x3 x4 x5 I4 J4 B4 D4) ∧ (z12 = x3 → ∀ z14 : Int32, z14 = (1 <<< (x5 &&& 31)) → ∀ z15 : Int32, z15 = (x4 ||| z14) → wc_LassoSearch_allowedBehind_80 a0 a1 a2 K6 Post x1 x2 x3 z15 x5 I4 J4 B4 D4)))))))
def wl_LassoSearch_allowedBehind_6 (a0 : Int32) (a1 : Int32) (a2 : Int32) (Post : Int32 → (Nat → Int32) → (Nat → Int64) → (Nat → Nat → Int32) → (Nat → Nat → Int64) → Prop) (n : Nat) : Int32 → Int32 → Int32 → Int32 → Int32 → (Nat → Int32) → (Nat → Int64) → (Nat → Nat → Int32) → (Nat → Nat → Int64) → Prop := Nat.rec (fun _ _ _ _ _ _ _ _ _ => False) (fun _ r => wb_LassoSearch_allowedBehind_6 a0 a1 a2 r Post) n
def wp_LassoSearch_allowedBehind (I : Nat → Int32) (J : Nat → Int64) (B : Nat → Nat → Int32) (D : Nat → Nat → Int64) (a0 : Int32) (a1 : Int32) (a2 : Int32) (Post : Int32 → (Nat → Int32) → (Nat → Int64) → (Nat → Nat → Int32) → (Nat → Nat → Int64) → Prop) : Prop :=
  ∃ n : Nat, wl_LassoSearch_allowedBehind_6 a0 a1 a2 Post n a0 a1 a2 0 0 I J B D
set_option maxHeartbeats 8000000 in
set_option maxRecDepth 100000 in
theorem wJ_LassoSearch_allowedBehind_80 {p : Program} {l : Launch} {e : Env} {s : State} {m : MethodId} {below : List Frame} {meth : Method} {c : Code} {A : Nat → Prop} (G : va_G) (K : Nat → ClassId) (ad : Nat → Nat) (a0 : Int32) (a1 : Int32) (a2 : Int32) (Post : Int32 → (Nat → Int32) → (Nat → Int64) → (Nat → Nat → Int32) → (Nat → Nat → Int64) → Prop) (C : zCx p s m ([.ref (ad 65), .int a0, .int a1, .int a2] : List Value).toArray meth c A G K prog_4_method_15_code (some .int) 7 "LassoFinder$LassoSearch") (K6 : Int32 → Int32 → Int32 → Int32 → Int32 → (Nat → Int32) → (Nat → Int64) → (Nat → Nat → Int32) → (Nat → Nat → Int64) → Prop) (kh6 : ∀ (x1 : Int32) (x2 : Int32) (x3 : Int32) (x4 : Int32) (x5 : Int32) (I : Nat → Int32) (J : Nat → Int64) (B : Nat → Nat → Int32) (D : Nat → Nat → Int64) (ls : Array Slot) (H : Heap) (locs : List Loc), K6 x1 x2 x3 x4 x5 I J B D → lv_has ls 7 [(0, .ref (ad 65)), (1, .int x1), (2, .int x2), (3, .int x3), (4, .int x4), (5, .int x5)] → zW G A s.heap (wS ad K I J B D) H locs → W p l e { frames := 1, cells := 0, slots := 0, locals := 22 } s m ([.ref (ad 65), .int a0, .int a1, .int a2] : List Value).toArray below meth c H locs 0 0 (MQ below (va_Qi (fun (r : Int32) (u : zS) => Post r u.1 u.2.1 u.2.2.1 u.2.2.2) (fun u t => zPost G K A (wS ad K u.1 u.2.1 u.2.2.1 u.2.2.2) t) A) ([.ref (ad 65), .int a0, .int a1, .int a2] : List Value).toArray s 0 0 A) (F0 m 6 ls [])) : ∀ (x1 : Int32) (x2 : Int32) (x3 : Int32) (x4 : Int32) (x5 : Int32) (I : Nat → Int32) (J : Nat → Int64) (B : Nat → Nat → Int32) (D : Nat → Nat → Int64) (ls : Array Slot) (H : Heap) (locs : List Loc), wc_LassoSearch_allowedBehind_80 a0 a1 a2 K6 Post x1 x2 x3 x4 x5 I J B D → lv_has ls 7 [(0, .ref (ad 65)), (1, .int x1), (2, .int x2), (3, .int x3), (4, .int x4), (5, .int x5)] → zW G A s.heap (wS ad K I J B D) H locs → W p l e { frames := 1, cells := 0, slots := 0, locals := 22 } s m ([.ref (ad 65), .int a0, .int a1, .int a2] : List Value).toArray below meth c H locs 0 0 (MQ below (va_Qi (fun (r : Int32) (u : zS) => Post r u.1 u.2.1 u.2.2.1 u.2.2.2) (fun u t => zPost G K A (wS ad K u.1 u.2.1 u.2.2.1 u.2.2.2) t) A) ([.ref (ad 65), .int a0, .int a1, .int a2] : List Value).toArray s 0 0 A) (F0 m 80 ls []) := by
  obtain ⟨hx, hb, hr, hml, hts, hown, hlocks, hA, hK⟩ := id C
  intro x1 x2 x3 x4 x5 I J B D ls H locs hok hl hw
  unfold wc_LassoSearch_allowedBehind_80 at hok
  obtain ⟨z1, ez1⟩ : ∃ z : Int32, z = (x5 + 1) := ⟨_, rfl⟩
  have hok := hok z1 ez1
  refine lv_iinc (v := z1) hx hb zd_LassoSearch_allowedBehind_80 hl (k := 5) rfl ez1.symm (by decide) rfl (fun ls hl => ?_)
  have hl : lv_has ls 7 [(5, .int z1), (0, .ref (ad 65)), (1, .int x1), (2, .int x2), (3, .int x3), (4, .int x4)] := hl
  refine lv_goto (tgt := 6) hx hb zd_LassoSearch_allowedBehind_83 (by decide) ?_
  exact kh6 x1 x2 x3 x4 z1 I J B D ls H locs hok (lv_sub hl [1, 2, 3, 4, 5, 0] rfl) hw
set_option maxHeartbeats 8000000 in
set_option maxRecDepth 100000 in
theorem wB_LassoSearch_allowedBehind_6 {p : Program} {l : Launch} {e : Env} {s : State} {m : MethodId} {below : List Frame} {meth : Method} {c : Code} {A : Nat → Prop} (G : va_G) (K : Nat → ClassId) (ad : Nat → Nat) (a0 : Int32) (a1 : Int32) (a2 : Int32) (Post : Int32 → (Nat → Int32) → (Nat → Int64) → (Nat → Nat → Int32) → (Nat → Nat → Int64) → Prop) (C : zCx p s m ([.ref (ad 65), .int a0, .int a1, .int a2] : List Value).toArray meth c A G K prog_4_method_15_code (some .int) 7 "LassoFinder$LassoSearch") (K6 : Int32 → Int32 → Int32 → Int32 → Int32 → (Nat → Int32) → (Nat → Int64) → (Nat → Nat → Int32) → (Nat → Nat → Int64) → Prop) (kh6 : ∀ (x1 : Int32) (x2 : Int32) (x3 : Int32) (x4 : Int32) (x5 : Int32) (I : Nat → Int32) (J : Nat → Int64) (B : Nat → Nat → Int32) (D : Nat → Nat → Int64) (ls : Array Slot) (H : Heap) (locs : List Loc), K6 x1 x2 x3 x4 x5 I J B D → lv_has ls 7 [(0, .ref (ad 65)), (1, .int x1), (2, .int x2), (3, .int x3), (4, .int x4), (5, .int x5)] → zW G A s.heap (wS ad K I J B D) H locs → W p l e { frames := 1, cells := 0, slots := 0, locals := 22 } s m ([.ref (ad 65), .int a0, .int a1, .int a2] : List Value).toArray below meth c H locs 0 0 (MQ below (va_Qi (fun (r : Int32) (u : zS) => Post r u.1 u.2.1 u.2.2.1 u.2.2.2) (fun u t => zPost G K A (wS ad K u.1 u.2.1 u.2.2.1 u.2.2.2) t) A) ([.ref (ad 65), .int a0, .int a1, .int a2] : List Value).toArray s 0 0 A) (F0 m 6 ls [])) : ∀ (x1 : Int32) (x2 : Int32) (x3 : Int32) (x4 : Int32) (x5 : Int32) (I : Nat → Int32) (J : Nat → Int64) (B : Nat → Nat → Int32) (D : Nat → Nat → Int64) (ls : Array Slot) (H : Heap) (locs : List Loc), wb_LassoSearch_allowedBehind_6 a0 a1 a2 K6 Post x1 x2 x3 x4 x5 I J B D → lv_has ls 7 [(0, .ref (ad 65)), (1, .int x1), (2, .int x2), (3, .int x3), (4, .int x4), (5, .int x5)] → zW G A s.heap (wS ad K I J B D) H locs → W p l e { frames := 1, cells := 0, slots := 0, locals := 22 } s m ([.ref (ad 65), .int a0, .int a1, .int a2] : List Value).toArray below meth c H locs 0 0 (MQ below (va_Qi (fun (r : Int32) (u : zS) => Post r u.1 u.2.1 u.2.2.1 u.2.2.2) (fun u t => zPost G K A (wS ad K u.1 u.2.1 u.2.2.1 u.2.2.2) t) A) ([.ref (ad 65), .int a0, .int a1, .int a2] : List Value).toArray s 0 0 A) (F0 m 6 ls []) := by
  obtain ⟨hx, hb, hr, hml, hts, hown, hlocks, hA, hK⟩ := id C
  intro x1 x2 x3 x4 x5 I J B D ls H locs hok hl hw
  unfold wb_LassoSearch_allowedBehind_6 at hok
  refine lv_iload hx hb zd_LassoSearch_allowedBehind_6 (lv_at hl 5 rfl) ?_
  refine lv_aload_n hx hb zd_LassoSearch_allowedBehind_8 rfl (lv_at hl 0 rfl) ?_
  refine z_get (v := .ref (ad 11)) hx hb hts hown hK hw zZ3 0 wS_g0 1 (by decide) zn_819 rfl zd_LassoSearch_allowedBehind_9 ?_
  refine z_get (v := .int (I 30)) hx hb hts hown hK hw zZ11 23 wS_g23 7 (by decide) zn_820 rfl zd_LassoSearch_allowedBehind_12 ?_
  refine lv_icmp_ge (tgt := 86) hx hb zd_LassoSearch_allowedBehind_15 (by decide) (fun hc2 => ?_) (fun hc2 => ?_)
  · have hok := hok.1 hc2
    refine lv_iload hx hb zd_LassoSearch_allowedBehind_86 (lv_at hl 4 rfl) ?_
    exact (z_iret (u := (I, J, B, D)) hx hb hr hlocks rfl hw (List.range 77) wS_all wS_nd hok (Nat.le_of_ble_eq_true rfl) (Nat.le_of_ble_eq_true rfl) zd_LassoSearch_allowedBehind_88)
  · have hok := hok.2 hc2
    refine lv_aload_n hx hb zd_LassoSearch_allowedBehind_18 rfl (lv_at hl 0 rfl) ?_
    refine lv_aload_n hx hb zd_LassoSearch_allowedBehind_19 rfl (lv_at hl 0 rfl) ?_
    refine z_get (v := .ref (ad 8)) hx hb hts hown hK hw zZ3 0 wS_g0 0 (by decide) zn_822 rfl zd_LassoSearch_allowedBehind_20 ?_
    refine z_get (v := .ref (ad 48)) hx hb hts hown hK hw zZ2 20 wS_g20 3 (by decide) zn_825 rfl zd_LassoSearch_allowedBehind_23 ?_
    refine lv_iload_n hx hb zd_LassoSearch_allowedBehind_26 rfl (lv_at hl 2 rfl) ?_
    refine va_iald (f := (B 33)) hx hb hK hw.1 60 0 wS_a60 rfl hok.1 zd_LassoSearch_allowedBehind_27 ?_
    have hok := hok.2
    refine lv_topi (fun z3 ez3 => ?_)
    have hok := hok z3 ez3
    refine lv_iload hx hb zd_LassoSearch_allowedBehind_28 (lv_at hl 5 rfl) ?_
    refine z_calli (w1 := fun (u : zS) => wS ad K u.1 u.2.1 u.2.2.1 u.2.2.2) (wr := []) (z_runV (q0 := 0) (wc := (wS ad K I J B D)) (As := [.int z3, .int x5]) (rest := []) ⟨hx, hb, hml, hown, hts⟩ (w_LassoSearch_spotBefore l G K ad I J B D z3 x5 _ H.size hok) zf_LassoSearch_spotBefore zn_553 ⟨Nat.le_of_ble_eq_true rfl, Nat.le_of_ble_eq_true rfl⟩ hK hw (List.range 77) wS_all wS_nd wS_g0 rfl rfl hl.1 rfl (Nat.le_of_ble_eq_true rfl) zd_LassoSearch_allowedBehind_30 ⟨Nat.le_of_ble_eq_true rfl, Nat.le_of_ble_eq_true rfl⟩) hw hA (List.range 77) [] wS_all rfl (by decide) (fun i hi => by cases hi) (fun r4 u H locs hok hw => ?_)
    obtain ⟨I4, J4, B4, D4⟩ := u
    dsimp only at hok
    have hw : zW G A s.heap (wS ad K I4 J4 B4 D4) H locs := hw
    refine lv_bipush (v := 8) hx hb zd_LassoSearch_allowedBehind_33 (by decide) ?_
    refine lv_irem hx hb zd_LassoSearch_allowedBehind_35 (by decide) ?_
    refine lv_topi (fun z5 ez5 => ?_)
    have hok := hok z5 ez5
    refine lv_istore hx hb zd_LassoSearch_allowedBehind_36 hl (by decide) rfl (fun ls hl => ?_)
    have hl : lv_has ls 7 [(6, .int z5), (0, .ref (ad 65)), (1, .int x1), (2, .int x2), (3, .int x3), (4, .int x4), (5, .int x5)] := hl
    refine lv_iload_n hx hb zd_LassoSearch_allowedBehind_38 rfl (lv_at hl 2 rfl) ?_
    refine lv_iload hx hb zd_LassoSearch_allowedBehind_39 (lv_at hl 0 rfl) ?_
    refine lv_ishr hx hb zd_LassoSearch_allowedBehind_41 ?_
    refine lv_topi (fun z6 ez6 => ?_)
    have hok := hok z6 ez6
    refine lv_iconst (v := 1) hx hb zd_LassoSearch_allowedBehind_42 (by decide) ?_
    refine lv_iand hx hb zd_LassoSearch_allowedBehind_43 ?_
    refine lv_topi (fun z7 ez7 => ?_)
    have hok := hok z7 ez7
    refine lv_if_eq (tgt := 80) hx hb zd_LassoSearch_allowedBehind_44 (by decide) (fun hc8 => ?_) (fun hc8 => ?_)
    · have hok := hok.1 hc8
      exact wJ_LassoSearch_allowedBehind_80 G K ad a0 a1 a2 Post C K6 kh6 x1 x2 x3 x4 x5 I4 J4 B4 D4 ls H locs hok (lv_sub hl [1, 2, 3, 4, 5, 6] rfl) hw
    · have hok := hok.2 hc8
      refine lv_aload_n hx hb zd_LassoSearch_allowedBehind_47 rfl (lv_at hl 1 rfl) ?_
      refine z_get (v := .ref (ad 72)) hx hb hts hown hK hw zZ3 0 wS_g0 11 (by decide) zn_809 rfl zd_LassoSearch_allowedBehind_48 ?_
      refine lv_aload_n hx hb zd_LassoSearch_allowedBehind_51 rfl (lv_at hl 1 rfl) ?_
      refine z_get (v := .ref (ad 8)) hx hb hts hown hK hw zZ3 0 wS_g0 0 (by decide) zn_822 rfl zd_LassoSearch_allowedBehind_52 ?_
      refine z_get (v := .ref (ad 49)) hx hb hts hown hK hw zZ2 20 wS_g20 4 (by decide) zn_824 rfl zd_LassoSearch_allowedBehind_55 ?_
      refine lv_iload_n hx hb zd_LassoSearch_allowedBehind_58 rfl (lv_at hl 3 rfl) ?_
      refine va_iald (f := (B4 34)) hx hb hK hw.1 61 0 wS_a61 rfl hok.1 zd_LassoSearch_allowedBehind_59 ?_
      have hok := hok.2
      refine lv_topi (fun z9 ez9 => ?_)
      have hok := hok z9 ez9
      refine lv_bipush (v := 8) hx hb zd_LassoSearch_allowedBehind_60 (by decide) ?_
      refine lv_imul hx hb zd_LassoSearch_allowedBehind_62 ?_
      refine lv_topi (fun z10 ez10 => ?_)
      have hok := hok z10 ez10
      refine lv_iload hx hb zd_LassoSearch_allowedBehind_63 (lv_at hl 6 rfl) ?_
      refine lv_iadd hx hb zd_LassoSearch_allowedBehind_65 ?_
      refine lv_topi (fun z11 ez11 => ?_)
      have hok := hok z11 ez11
      refine va_iald (f := (B4 56)) hx hb hK hw.1 7 0 wS_a7 rfl hok.1 zd_LassoSearch_allowedBehind_66 ?_
      have hok := hok.2
      refine lv_topi (fun z12 ez12 => ?_)
      have hok := hok z12 ez12
      refine lv_iload_n hx hb zd_LassoSearch_allowedBehind_67 rfl (lv_at hl 4 rfl) ?_
      refine lv_icmp_ne (tgt := 80) hx hb zd_LassoSearch_allowedBehind_68 (by decide) (fun hc13 => ?_) (fun hc13 => ?_)
      · have hok := hok.1 hc13
        exact wJ_LassoSearch_allowedBehind_80 G K ad a0 a1 a2 Post C K6 kh6 x1 x2 x3 x4 x5 I4 J4 B4 D4 ls H locs hok (lv_sub hl [1, 2, 3, 4, 5, 6] rfl) hw
      · have hok := hok.2 hc13
        refine lv_iload hx hb zd_LassoSearch_allowedBehind_71 (lv_at hl 5 rfl) ?_
        refine lv_iconst (v := 1) hx hb zd_LassoSearch_allowedBehind_73 (by decide) ?_
        refine lv_iload hx hb zd_LassoSearch_allowedBehind_74 (lv_at hl 6 rfl) ?_
        refine lv_ishl hx hb zd_LassoSearch_allowedBehind_76 ?_
        refine lv_topi (fun z14 ez14 => ?_)
        have hok := hok z14 ez14
        refine lv_ior hx hb zd_LassoSearch_allowedBehind_77 ?_
        refine lv_topi (fun z15 ez15 => ?_)
        have hok := hok z15 ez15
        refine lv_istore hx hb zd_LassoSearch_allowedBehind_78 hl (by decide) rfl (fun ls hl => ?_)
        have hl : lv_has ls 7 [(4, .int z15), (6, .int z5), (0, .ref (ad 65)), (1, .int x1), (2, .int x2), (3, .int x3), (5, .int x5)] := hl
        exact wJ_LassoSearch_allowedBehind_80 G K ad a0 a1 a2 Post C K6 kh6 x1 x2 x3 z15 x5 I4 J4 B4 D4 ls H locs hok (lv_sub hl [2, 3, 4, 5, 0, 6] rfl) hw
theorem wL_LassoSearch_allowedBehind_6 {p : Program} {l : Launch} {e : Env} {s : State} {m : MethodId} {below : List Frame} {meth : Method} {c : Code} {A : Nat → Prop} (G : va_G) (K : Nat → ClassId) (ad : Nat → Nat) (a0 : Int32) (a1 : Int32) (a2 : Int32) (Post : Int32 → (Nat → Int32) → (Nat → Int64) → (Nat → Nat → Int32) → (Nat → Nat → Int64) → Prop) (C : zCx p s m ([.ref (ad 65), .int a0, .int a1, .int a2] : List Value).toArray meth c A G K prog_4_method_15_code (some .int) 7 "LassoFinder$LassoSearch") : ∀ (n : Nat) (x1 : Int32) (x2 : Int32) (x3 : Int32) (x4 : Int32) (x5 : Int32) (I : Nat → Int32) (J : Nat → Int64) (B : Nat → Nat → Int32) (D : Nat → Nat → Int64) (ls : Array Slot) (H : Heap) (locs : List Loc), wl_LassoSearch_allowedBehind_6 a0 a1 a2 Post n x1 x2 x3 x4 x5 I J B D → lv_has ls 7 [(0, .ref (ad 65)), (1, .int x1), (2, .int x2), (3, .int x3), (4, .int x4), (5, .int x5)] → zW G A s.heap (wS ad K I J B D) H locs → W p l e { frames := 1, cells := 0, slots := 0, locals := 22 } s m ([.ref (ad 65), .int a0, .int a1, .int a2] : List Value).toArray below meth c H locs 0 0 (MQ below (va_Qi (fun (r : Int32) (u : zS) => Post r u.1 u.2.1 u.2.2.1 u.2.2.2) (fun u t => zPost G K A (wS ad K u.1 u.2.1 u.2.2.1 u.2.2.2) t) A) ([.ref (ad 65), .int a0, .int a1, .int a2] : List Value).toArray s 0 0 A) (F0 m 6 ls []) := by
  intro n
  induction n with
  | zero => intro x1 x2 x3 x4 x5 I J B D ls H locs hok; exact hok.elim
  | succ n ih => exact wB_LassoSearch_allowedBehind_6 G K ad a0 a1 a2 Post C (wl_LassoSearch_allowedBehind_6 a0 a1 a2 Post n) ih
set_option maxHeartbeats 8000000 in
set_option maxRecDepth 100000 in
theorem w_LassoSearch_allowedBehind (l : Launch) (G : va_G) (K : Nat → ClassId) (ad : Nat → Nat) (I : Nat → Int32) (J : Nat → Int64) (B : Nat → Nat → Int32) (D : Nat → Nat → Int64) (a0 : Int32) (a1 : Int32) (a2 : Int32) (Post : Int32 → (Nat → Int32) → (Nat → Int64) → (Nat → Nat → Int32) → (Nat → Nat → Int64) → Prop) (sz : Nat) (hok : wp_LassoSearch_allowedBehind I J B D a0 a1 a2 Post) : Met l zy_LassoSearch_allowedBehind (Cond.code zy_LassoSearch_allowedBehind prog_4_method_15_code 7 (some .int) :: zTB) { frames := 1, cells := 0, slots := 0, locals := 22 } (va_Pc [.ref (ad 65), .int a0, .int a1, .int a2] (zPre G K (wS ad K I J B D) sz)) (va_Qi (fun (r : Int32) (u : zS) => Post r u.1 u.2.1 u.2.2.1 u.2.2.2) (fun u t => zPost G K (va_A (wS ad K I J B D) sz) (wS ad K u.1 u.2.1 u.2.2.1 u.2.2.2) t) (va_A (wS ad K I J B D) sz)) 0 0 (va_A (wS ad K I J B D) sz) := by
  refine zMet (y := zy_LassoSearch_allowedBehind) (av := [.ref (ad 65), .int a0, .int a1, .int a2]) (maxL := 7) (cc := prog_4_method_15_code) (ret := (some .int)) (W0 := (wS ad K I J B D)) (sz := sz) (G := G) (K := K) (wt := zTB) (mc := 0) (ms := 0) (Qf := fun A => va_Qi (fun (r : Int32) (u : zS) => Post r u.1 u.2.1 u.2.2.1 u.2.2.2) (fun u t => zPost G K A (wS ad K u.1 u.2.1 u.2.2.1 u.2.2.2) t) A) (by decide) (Nat.le_of_ble_eq_true rfl) ?_
  intro p e s m below meth c ls A hx hb hr hml hts hown hlocks hin hA hK H locs hw hsz hl
  clear hsz
  have hown : s.vm.findClass "LassoFinder$LassoSearch" = some m.cls := hown
  have C : zCx p s m ([.ref (ad 65), .int a0, .int a1, .int a2] : List Value).toArray meth c A G K prog_4_method_15_code (some .int) 7 "LassoFinder$LassoSearch" := ⟨hx, hb, hr, hml, hts, hown, hlocks, hA, hK⟩
  have hl : lv_has ls 7 [(0, .ref (ad 65)), (1, .int a0), (2, .int a1), (3, .int a2)] := hl
  have hw : zW G A s.heap (wS ad K I J B D) H locs := hw
  unfold wp_LassoSearch_allowedBehind at hok
  refine lv_iconst (v := 0) hx hb zd_LassoSearch_allowedBehind_0 (by decide) ?_
  refine lv_istore hx hb zd_LassoSearch_allowedBehind_1 hl (by decide) rfl (fun ls hl => ?_)
  have hl : lv_has ls 7 [(4, .int 0), (0, .ref (ad 65)), (1, .int a0), (2, .int a1), (3, .int a2)] := hl
  refine lv_iconst (v := 0) hx hb zd_LassoSearch_allowedBehind_3 (by decide) ?_
  refine lv_istore hx hb zd_LassoSearch_allowedBehind_4 hl (by decide) rfl (fun ls hl => ?_)
  have hl : lv_has ls 7 [(5, .int 0), (4, .int 0), (0, .ref (ad 65)), (1, .int a0), (2, .int a1), (3, .int a2)] := hl
  obtain ⟨n9, hok⟩ := hok
  exact wL_LassoSearch_allowedBehind_6 G K ad a0 a1 a2 Post C n9 a0 a1 a2 0 0 I J B D ls H locs hok (lv_sub hl [2, 3, 4, 5, 1, 0] rfl) hw
def wc_LassoSearch_followStem_130 (K56 : Int32 → Int32 → Int32 → (Nat → Int32) → (Nat → Int64) → (Nat → Nat → Int32) → (Nat → Nat → Int64) → Prop) (Post : Int32 → (Nat → Int32) → (Nat → Int64) → (Nat → Nat → Int32) → (Nat → Nat → Int64) → Prop) (x3 : Int32) (x4 : Int32) (I : Nat → Int32) (J : Nat → Int64) (B : Nat → Nat → Int32) (D : Nat → Nat → Int64) : Prop :=
  vp_in x3 768 ∧ ∀ z1 : Int32, z1 = ((B 58) x3.toNatClampNeg) → vp_in z1 400 ∧ ∀ z2 : Int32, z2 = ((B 34) z1.toNatClampNeg) → ∀ z3 : Int32, z3 = (x3 + 1) → K56 x4 z2 z3 I J B D
def wb_LassoSearch_followStem_78 (K78 : Int32 → Int32 → Int32 → Int32 → Int32 → (Nat → Int32) → (Nat → Int64) → (Nat → Nat → Int32) → (Nat → Nat → Int64) → Prop) (K56 : Int32 → Int32 → Int32 → (Nat → Int32) → (Nat → Int64) → (Nat → Nat → Int32) → (Nat → Nat → Int64) → Prop) (Post : Int32 → (Nat → Int32) → (Nat → Int64) → (Nat → Nat → Int32) → (Nat → Nat → Int64) → Prop) (x1 : Int32) (x2 : Int32) (x3 : Int32) (x4 : Int32) (x5 : Int32) (I : Nat → Int32) (J : Nat → Int64) (B : Nat → Nat → Int32) (D : Nat → Nat → Int64) : Prop :=
  ∀ z4 : Int32, z4 = (x2 + 1) → vp_in z4 97 ∧ ∀ z5 : Int32, z5 = ((B 32) z4.toNatClampNeg) → ((z5 ≤ x5 → wc_LassoSearch_followStem_130  K56 Post x3 x4 I J B D) ∧ (¬ z5 ≤ x5 → ((¬ x4 = 0 → wc_LassoSearch_followStem_130  K56 Post x3 x4 I J B D) ∧ (x4 = 0 → ∀ z8 : Int32, z8 = ((I 36) - x3) → ∀ z9 : Int32, z9 = (z8 - 1) → wp_LassoSearch_allowedBehind I J B D x1 x5 z9 (fun r10 I10 J10 B10 D10 => vp_in x3 768 ∧ ∀ z11 : Int32, z11 = (x5 + 1) → K78 x1 x2 x3 r10 z11 I10 J10 (va_up B10 58 (upd (B10 58) x3.toNatClampNeg x5)) D10)))))
def wl_LassoSearch_followStem_78 (K56 : Int32 → Int32 → Int32 → (Nat → Int32) → (Nat → Int64) → (Nat → Nat → Int32) → (Nat → Nat → Int64) → Prop) (Post : Int32 → (Nat → Int32) → (Nat → Int64) → (Nat → Nat → Int32) → (Nat → Nat → Int64) → Prop) (n : Nat) : Int32 → Int32 → Int32 → Int32 → Int32 → (Nat → Int32) → (Nat → Int64) → (Nat → Nat → Int32) → (Nat → Nat → Int64) → Prop := Nat.rec (fun _ _ _ _ _ _ _ _ _ => False) (fun _ r => wb_LassoSearch_followStem_78  r K56 Post) n
def wb_LassoSearch_followStem_56 (K56 : Int32 → Int32 → Int32 → (Nat → Int32) → (Nat → Int64) → (Nat → Nat → Int32) → (Nat → Nat → Int64) → Prop) (Post : Int32 → (Nat → Int32) → (Nat → Int64) → (Nat → Nat → Int32) → (Nat → Nat → Int64) → Prop) (x1 : Int32) (x2 : Int32) (x3 : Int32) (I : Nat → Int32) (J : Nat → Int64) (B : Nat → Nat → Int32) (D : Nat → Nat → Int64) : Prop :=
  (((I 36) ≤ x3 → Post x1 I J B D) ∧ (¬ (I 36) ≤ x3 → vp_in x2 97 ∧ ∀ z13 : Int32, z13 = ((B 32) x2.toNatClampNeg) → ∃ n : Nat, wl_LassoSearch_followStem_78  K56 Post n x1 x2 x3 0 z13 I J B D))
def wl_LassoSearch_followStem_56 (Post : Int32 → (Nat → Int32) → (Nat → Int64) → (Nat → Nat → Int32) → (Nat → Nat → Int64) → Prop) (n : Nat) : Int32 → Int32 → Int32 → (Nat → Int32) → (Nat → Int64) → (Nat → Nat → Int32) → (Nat → Nat → Int64) → Prop := Nat.rec (fun _ _ _ _ _ _ _ => False) (fun _ r => wb_LassoSearch_followStem_56  r Post) n
def wc_LassoSearch_followStem_46 (K4 : Int32 → Int32 → (Nat → Int32) → (Nat → Int64) → (Nat → Nat → Int32) → (Nat → Nat → Int64) → Prop) (Post : Int32 → (Nat → Int32) → (Nat → Int64) → (Nat → Nat → Int32) → (Nat → Nat → Int64) → Prop) (x1 : Int32) (x2 : Int32) (I : Nat → Int32) (J : Nat → Int64) (B : Nat → Nat → Int32) (D : Nat → Nat → Int64) : Prop :=
  ∀ z14 : Int32, z14 = (x2 + 1) → K4 x1 z14 I J B D
def wb_LassoSearch_followStem_4 (K4 : Int32 → Int32 → (Nat → Int32) → (Nat → Int64) → (Nat → Nat → Int32) → (Nat → Nat → Int64) → Prop) (Post : Int32 → (Nat → Int32) → (Nat → Int64) → (Nat → Nat → Int32) → (Nat → Nat → Int64) → Prop) (x1 : Int32) (x2 : Int32) (I : Nat → Int32) (J : Nat → Int64) (B : Nat → Nat → Int32) (D : Nat → Nat → Int64) : Prop :=
  (((I 30) ≤ x2 → ∃ n : Nat, wl_LassoSearch_followStem_56  Post n x1 0 0 I J B D) ∧ (¬ (I 30) ≤ x2 → vp_in x2 768 ∧ ∀ z16 : Int32, z16 = ((B 49) x2.toNatClampNeg) → ((¬ z16 = 0 → wc_LassoSearch_followStem_46  K4 Post x1 x2 I J B D) ∧ (z16 = 0 → vp_in x2 6144 ∧ ∀ z18 : Int32, z18 = ((B 56) x2.toNatClampNeg) → ((¬ z18 = (I 36) → wc_LassoSearch_followStem_46  K4 Post x1 x2 I J B D) ∧ (z18 = (I 36) → ∀ z20 : Int32, z20 = (1 <<< (x2 &&& 31)) → ∀ z21 : Int32, z21 = (x1 ||| z20) → wc_LassoSearch_followStem_46  K4 Post z21 x2 I J B D))))))
def wl_LassoSearch_followStem_4 (Post : Int32 → (Nat → Int32) → (Nat → Int64) → (Nat → Nat → Int32) → (Nat → Nat → Int64) → Prop) (n : Nat) : Int32 → Int32 → (Nat → Int32) → (Nat → Int64) → (Nat → Nat → Int32) → (Nat → Nat → Int64) → Prop := Nat.rec (fun _ _ _ _ _ _ => False) (fun _ r => wb_LassoSearch_followStem_4  r Post) n
def wp_LassoSearch_followStem (I : Nat → Int32) (J : Nat → Int64) (B : Nat → Nat → Int32) (D : Nat → Nat → Int64) (Post : Int32 → (Nat → Int32) → (Nat → Int64) → (Nat → Nat → Int32) → (Nat → Nat → Int64) → Prop) : Prop :=
  ∃ n : Nat, wl_LassoSearch_followStem_4  Post n 0 0 I J B D
set_option maxHeartbeats 8000000 in
set_option maxRecDepth 100000 in
theorem wJ_LassoSearch_followStem_130 {p : Program} {l : Launch} {e : Env} {s : State} {m : MethodId} {below : List Frame} {meth : Method} {c : Code} {A : Nat → Prop} (G : va_G) (K : Nat → ClassId) (ad : Nat → Nat) (Post : Int32 → (Nat → Int32) → (Nat → Int64) → (Nat → Nat → Int32) → (Nat → Nat → Int64) → Prop) (C : zCx p s m ([.ref (ad 65)] : List Value).toArray meth c A G K prog_4_method_14_code (some .int) 6 "LassoFinder$LassoSearch") (K56 : Int32 → Int32 → Int32 → (Nat → Int32) → (Nat → Int64) → (Nat → Nat → Int32) → (Nat → Nat → Int64) → Prop) (kh56 : ∀ (x1 : Int32) (x2 : Int32) (x3 : Int32) (I : Nat → Int32) (J : Nat → Int64) (B : Nat → Nat → Int32) (D : Nat → Nat → Int64) (ls : Array Slot) (H : Heap) (locs : List Loc), K56 x1 x2 x3 I J B D → lv_has ls 6 [(0, .ref (ad 65)), (1, .int x1), (2, .int x2), (3, .int x3)] → zW G A s.heap (wS ad K I J B D) H locs → W p l e { frames := 2, cells := 0, slots := 0, locals := 48 } s m ([.ref (ad 65)] : List Value).toArray below meth c H locs 0 0 (MQ below (va_Qi (fun (r : Int32) (u : zS) => Post r u.1 u.2.1 u.2.2.1 u.2.2.2) (fun u t => zPost G K A (wS ad K u.1 u.2.1 u.2.2.1 u.2.2.2) t) A) ([.ref (ad 65)] : List Value).toArray s 0 0 A) (F0 m 56 ls [])) : ∀ (x3 : Int32) (x4 : Int32) (I : Nat → Int32) (J : Nat → Int64) (B : Nat → Nat → Int32) (D : Nat → Nat → Int64) (ls : Array Slot) (H : Heap) (locs : List Loc), wc_LassoSearch_followStem_130  K56 Post x3 x4 I J B D → lv_has ls 6 [(0, .ref (ad 65)), (3, .int x3), (4, .int x4)] → zW G A s.heap (wS ad K I J B D) H locs → W p l e { frames := 2, cells := 0, slots := 0, locals := 48 } s m ([.ref (ad 65)] : List Value).toArray below meth c H locs 0 0 (MQ below (va_Qi (fun (r : Int32) (u : zS) => Post r u.1 u.2.1 u.2.2.1 u.2.2.2) (fun u t => zPost G K A (wS ad K u.1 u.2.1 u.2.2.1 u.2.2.2) t) A) ([.ref (ad 65)] : List Value).toArray s 0 0 A) (F0 m 130 ls []) := by
  obtain ⟨hx, hb, hr, hml, hts, hown, hlocks, hA, hK⟩ := id C
  intro x3 x4 I J B D ls H locs hok hl hw
  unfold wc_LassoSearch_followStem_130 at hok
  refine lv_iload hx hb zd_LassoSearch_followStem_130 (lv_at hl 2 rfl) ?_
  refine lv_istore_n hx hb zd_LassoSearch_followStem_132 rfl hl (by decide) rfl (fun ls hl => ?_)
  have hl : lv_has ls 6 [(1, .int x4), (0, .ref (ad 65)), (3, .int x3), (4, .int x4)] := hl
  refine lv_aload_n hx hb zd_LassoSearch_followStem_133 rfl (lv_at hl 1 rfl) ?_
  refine z_get (v := .ref (ad 8)) hx hb hts hown hK hw zZ3 0 wS_g0 0 (by decide) zn_822 rfl zd_LassoSearch_followStem_134 ?_
  refine z_get (v := .ref (ad 49)) hx hb hts hown hK hw zZ2 20 wS_g20 4 (by decide) zn_824 rfl zd_LassoSearch_followStem_137 ?_
  refine lv_aload_n hx hb zd_LassoSearch_followStem_140 rfl (lv_at hl 1 rfl) ?_
  refine z_get (v := .ref (ad 74)) hx hb hts hown hK hw zZ3 0 wS_g0 14 (by decide) zn_811 rfl zd_LassoSearch_followStem_141 ?_
  refine lv_iload_n hx hb zd_LassoSearch_followStem_144 rfl (lv_at hl 2 rfl) ?_
  refine va_iald (f := (B 58)) hx hb hK hw.1 9 0 wS_a9 rfl hok.1 zd_LassoSearch_followStem_145 ?_
  have hok := hok.2
  refine lv_topi (fun z1 ez1 => ?_)
  have hok := hok z1 ez1
  refine va_iald (f := (B 34)) hx hb hK hw.1 61 0 wS_a61 rfl hok.1 zd_LassoSearch_followStem_146 ?_
  have hok := hok.2
  refine lv_topi (fun z2 ez2 => ?_)
  have hok := hok z2 ez2
  refine lv_istore_n hx hb zd_LassoSearch_followStem_147 rfl hl (by decide) rfl (fun ls hl => ?_)
  have hl : lv_has ls 6 [(2, .int z2), (1, .int x4), (0, .ref (ad 65)), (3, .int x3), (4, .int x4)] := hl
  obtain ⟨z3, ez3⟩ : ∃ z : Int32, z = (x3 + 1) := ⟨_, rfl⟩
  have hok := hok z3 ez3
  refine lv_iinc (v := z3) hx hb zd_LassoSearch_followStem_148 hl (k := 3) rfl ez3.symm (by decide) rfl (fun ls hl => ?_)
  have hl : lv_has ls 6 [(3, .int z3), (2, .int z2), (1, .int x4), (0, .ref (ad 65)), (4, .int x4)] := hl
  refine lv_goto (tgt := 56) hx hb zd_LassoSearch_followStem_151 (by decide) ?_
  exact kh56 x4 z2 z3 I J B D ls H locs hok (lv_sub hl [3, 2, 1, 0] rfl) hw
set_option maxHeartbeats 8000000 in
set_option maxRecDepth 100000 in
theorem wB_LassoSearch_followStem_78 {p : Program} {l : Launch} {e : Env} {s : State} {m : MethodId} {below : List Frame} {meth : Method} {c : Code} {A : Nat → Prop} (G : va_G) (K : Nat → ClassId) (ad : Nat → Nat) (Post : Int32 → (Nat → Int32) → (Nat → Int64) → (Nat → Nat → Int32) → (Nat → Nat → Int64) → Prop) (C : zCx p s m ([.ref (ad 65)] : List Value).toArray meth c A G K prog_4_method_14_code (some .int) 6 "LassoFinder$LassoSearch") (K56 : Int32 → Int32 → Int32 → (Nat → Int32) → (Nat → Int64) → (Nat → Nat → Int32) → (Nat → Nat → Int64) → Prop) (kh56 : ∀ (x1 : Int32) (x2 : Int32) (x3 : Int32) (I : Nat → Int32) (J : Nat → Int64) (B : Nat → Nat → Int32) (D : Nat → Nat → Int64) (ls : Array Slot) (H : Heap) (locs : List Loc), K56 x1 x2 x3 I J B D → lv_has ls 6 [(0, .ref (ad 65)), (1, .int x1), (2, .int x2), (3, .int x3)] → zW G A s.heap (wS ad K I J B D) H locs → W p l e { frames := 2, cells := 0, slots := 0, locals := 48 } s m ([.ref (ad 65)] : List Value).toArray below meth c H locs 0 0 (MQ below (va_Qi (fun (r : Int32) (u : zS) => Post r u.1 u.2.1 u.2.2.1 u.2.2.2) (fun u t => zPost G K A (wS ad K u.1 u.2.1 u.2.2.1 u.2.2.2) t) A) ([.ref (ad 65)] : List Value).toArray s 0 0 A) (F0 m 56 ls [])) (K78 : Int32 → Int32 → Int32 → Int32 → Int32 → (Nat → Int32) → (Nat → Int64) → (Nat → Nat → Int32) → (Nat → Nat → Int64) → Prop) (kh78 : ∀ (x1 : Int32) (x2 : Int32) (x3 : Int32) (x4 : Int32) (x5 : Int32) (I : Nat → Int32) (J : Nat → Int64) (B : Nat → Nat → Int32) (D : Nat → Nat → Int64) (ls : Array Slot) (H : Heap) (locs : List Loc), K78 x1 x2 x3 x4 x5 I J B D → lv_has ls 6 [(0, .ref (ad 65)), (1, .int x1), (2, .int x2), (3, .int x3), (4, .int x4), (5, .int x5)] → zW G A s.heap (wS ad K I J B D) H locs → W p l e { frames := 2, cells := 0, slots := 0, locals := 48 } s m ([.ref (ad 65)] : List Value).toArray below meth c H locs 0 0 (MQ below (va_Qi (fun (r : Int32) (u : zS) => Post r u.1 u.2.1 u.2.2.1 u.2.2.2) (fun u t => zPost G K A (wS ad K u.1 u.2.1 u.2.2.1 u.2.2.2) t) A) ([.ref (ad 65)] : List Value).toArray s 0 0 A) (F0 m 78 ls [])) : ∀ (x1 : Int32) (x2 : Int32) (x3 : Int32) (x4 : Int32) (x5 : Int32) (I : Nat → Int32) (J : Nat → Int64) (B : Nat → Nat → Int32) (D : Nat → Nat → Int64) (ls : Array Slot) (H : Heap) (locs : List Loc), wb_LassoSearch_followStem_78  K78 K56 Post x1 x2 x3 x4 x5 I J B D → lv_has ls 6 [(0, .ref (ad 65)), (1, .int x1), (2, .int x2), (3, .int x3), (4, .int x4), (5, .int x5)] → zW G A s.heap (wS ad K I J B D) H locs → W p l e { frames := 2, cells := 0, slots := 0, locals := 48 } s m ([.ref (ad 65)] : List Value).toArray below meth c H locs 0 0 (MQ below (va_Qi (fun (r : Int32) (u : zS) => Post r u.1 u.2.1 u.2.2.1 u.2.2.2) (fun u t => zPost G K A (wS ad K u.1 u.2.1 u.2.2.1 u.2.2.2) t) A) ([.ref (ad 65)] : List Value).toArray s 0 0 A) (F0 m 78 ls []) := by
  obtain ⟨hx, hb, hr, hml, hts, hown, hlocks, hA, hK⟩ := id C
  intro x1 x2 x3 x4 x5 I J B D ls H locs hok hl hw
  unfold wb_LassoSearch_followStem_78 at hok
  refine lv_iload hx hb zd_LassoSearch_followStem_78 (lv_at hl 5 rfl) ?_
  refine lv_aload_n hx hb zd_LassoSearch_followStem_80 rfl (lv_at hl 0 rfl) ?_
  refine z_get (v := .ref (ad 8)) hx hb hts hown hK hw zZ3 0 wS_g0 0 (by decide) zn_822 rfl zd_LassoSearch_followStem_81 ?_
  refine z_get (v := .ref (ad 47)) hx hb hts hown hK hw zZ2 20 wS_g20 2 (by decide) zn_823 rfl zd_LassoSearch_followStem_84 ?_
  refine lv_iload_n hx hb zd_LassoSearch_followStem_87 rfl (lv_at hl 2 rfl) ?_
  refine lv_iconst (v := 1) hx hb zd_LassoSearch_followStem_88 (by decide) ?_
  refine lv_iadd hx hb zd_LassoSearch_followStem_89 ?_
  refine lv_topi (fun z4 ez4 => ?_)
  have hok := hok z4 ez4
  refine va_iald (f := (B 32)) hx hb hK hw.1 59 0 wS_a59 rfl hok.1 zd_LassoSearch_followStem_90 ?_
  have hok := hok.2
  refine lv_topi (fun z5 ez5 => ?_)
  have hok := hok z5 ez5
  refine lv_icmp_ge (tgt := 130) hx hb zd_LassoSearch_followStem_91 (by decide) (fun hc6 => ?_) (fun hc6 => ?_)
  · have hok := hok.1 hc6
    exact wJ_LassoSearch_followStem_130 G K ad  Post C K56 kh56 x3 x4 I J B D ls H locs hok (lv_sub hl [0, 3, 4] rfl) hw
  · have hok := hok.2 hc6
    refine lv_iload hx hb zd_LassoSearch_followStem_94 (lv_at hl 4 rfl) ?_
    refine lv_if_ne (tgt := 130) hx hb zd_LassoSearch_followStem_96 (by decide) (fun hc7 => ?_) (fun hc7 => ?_)
    · have hok := hok.1 hc7
      exact wJ_LassoSearch_followStem_130 G K ad  Post C K56 kh56 x3 x4 I J B D ls H locs hok (lv_sub hl [0, 3, 4] rfl) hw
    · have hok := hok.2 hc7
      refine lv_aload_n hx hb zd_LassoSearch_followStem_99 rfl (lv_at hl 0 rfl) ?_
      refine lv_iload_n hx hb zd_LassoSearch_followStem_100 rfl (lv_at hl 1 rfl) ?_
      refine lv_iload hx hb zd_LassoSearch_followStem_101 (lv_at hl 5 rfl) ?_
      refine lv_aload_n hx hb zd_LassoSearch_followStem_103 rfl (lv_at hl 0 rfl) ?_
      refine z_get (v := .int (I 36)) hx hb hts hown hK hw zZ3 0 wS_g0 17 (by decide) zn_817 rfl zd_LassoSearch_followStem_104 ?_
      refine lv_iload_n hx hb zd_LassoSearch_followStem_107 rfl (lv_at hl 3 rfl) ?_
      refine lv_isub hx hb zd_LassoSearch_followStem_108 ?_
      refine lv_topi (fun z8 ez8 => ?_)
      have hok := hok z8 ez8
      refine lv_iconst (v := 1) hx hb zd_LassoSearch_followStem_109 (by decide) ?_
      refine lv_isub hx hb zd_LassoSearch_followStem_110 ?_
      refine lv_topi (fun z9 ez9 => ?_)
      have hok := hok z9 ez9
      refine z_calli (w1 := fun (u : zS) => wS ad K u.1 u.2.1 u.2.2.1 u.2.2.2) (wr := []) (z_runV (q0 := 0) (wc := (wS ad K I J B D)) (As := [.int x1, .int x5, .int z9]) (rest := []) ⟨hx, hb, hml, hown, hts⟩ (w_LassoSearch_allowedBehind l G K ad I J B D x1 x5 z9 _ H.size hok) zf_LassoSearch_allowedBehind zn_558 ⟨Nat.le_of_ble_eq_true rfl, Nat.le_of_ble_eq_true rfl⟩ hK hw (List.range 77) wS_all wS_nd wS_g0 rfl rfl hl.1 rfl (Nat.le_of_ble_eq_true rfl) zd_LassoSearch_followStem_111 ⟨Nat.le_of_ble_eq_true rfl, Nat.le_of_ble_eq_true rfl⟩) hw hA (List.range 77) [] wS_all rfl (by decide) (fun i hi => by cases hi) (fun r10 u H locs hok hw => ?_)
      obtain ⟨I10, J10, B10, D10⟩ := u
      dsimp only at hok
      have hw : zW G A s.heap (wS ad K I10 J10 B10 D10) H locs := hw
      refine lv_istore hx hb zd_LassoSearch_followStem_114 hl (by decide) rfl (fun ls hl => ?_)
      have hl : lv_has ls 6 [(4, .int r10), (0, .ref (ad 65)), (1, .int x1), (2, .int x2), (3, .int x3), (5, .int x5)] := hl
      refine lv_aload_n hx hb zd_LassoSearch_followStem_116 rfl (lv_at hl 1 rfl) ?_
      refine z_get (v := .ref (ad 74)) hx hb hts hown hK hw zZ3 0 wS_g0 14 (by decide) zn_811 rfl zd_LassoSearch_followStem_117 ?_
      refine lv_iload_n hx hb zd_LassoSearch_followStem_120 rfl (lv_at hl 4 rfl) ?_
      refine lv_iload hx hb zd_LassoSearch_followStem_121 (lv_at hl 5 rfl) ?_
      refine va_iast (f := (B10 58)) hx hb hK hw.1 hw.2.1 hw.2.2 9 0 wS_a9 rfl hok.1 zd_LassoSearch_followStem_123 (fun H locs w91 w92 w93 => ?_)
      have hok := hok.2
      have hw := wS_t9 ⟨w91, w92, w93⟩
      obtain ⟨z11, ez11⟩ : ∃ z : Int32, z = (x5 + 1) := ⟨_, rfl⟩
      have hok := hok z11 ez11
      refine lv_iinc (v := z11) hx hb zd_LassoSearch_followStem_124 hl (k := 5) rfl ez11.symm (by decide) rfl (fun ls hl => ?_)
      have hl : lv_has ls 6 [(5, .int z11), (4, .int r10), (0, .ref (ad 65)), (1, .int x1), (2, .int x2), (3, .int x3)] := hl
      refine lv_goto (tgt := 78) hx hb zd_LassoSearch_followStem_127 (by decide) ?_
      exact kh78 x1 x2 x3 r10 z11 I10 J10 (va_up B10 58 (upd (B10 58) x3.toNatClampNeg x5)) D10 ls H locs hok (lv_sub hl [2, 3, 4, 5, 1, 0] rfl) hw
theorem wL_LassoSearch_followStem_78 {p : Program} {l : Launch} {e : Env} {s : State} {m : MethodId} {below : List Frame} {meth : Method} {c : Code} {A : Nat → Prop} (G : va_G) (K : Nat → ClassId) (ad : Nat → Nat) (Post : Int32 → (Nat → Int32) → (Nat → Int64) → (Nat → Nat → Int32) → (Nat → Nat → Int64) → Prop) (C : zCx p s m ([.ref (ad 65)] : List Value).toArray meth c A G K prog_4_method_14_code (some .int) 6 "LassoFinder$LassoSearch") (K56 : Int32 → Int32 → Int32 → (Nat → Int32) → (Nat → Int64) → (Nat → Nat → Int32) → (Nat → Nat → Int64) → Prop) (kh56 : ∀ (x1 : Int32) (x2 : Int32) (x3 : Int32) (I : Nat → Int32) (J : Nat → Int64) (B : Nat → Nat → Int32) (D : Nat → Nat → Int64) (ls : Array Slot) (H : Heap) (locs : List Loc), K56 x1 x2 x3 I J B D → lv_has ls 6 [(0, .ref (ad 65)), (1, .int x1), (2, .int x2), (3, .int x3)] → zW G A s.heap (wS ad K I J B D) H locs → W p l e { frames := 2, cells := 0, slots := 0, locals := 48 } s m ([.ref (ad 65)] : List Value).toArray below meth c H locs 0 0 (MQ below (va_Qi (fun (r : Int32) (u : zS) => Post r u.1 u.2.1 u.2.2.1 u.2.2.2) (fun u t => zPost G K A (wS ad K u.1 u.2.1 u.2.2.1 u.2.2.2) t) A) ([.ref (ad 65)] : List Value).toArray s 0 0 A) (F0 m 56 ls [])) : ∀ (n : Nat) (x1 : Int32) (x2 : Int32) (x3 : Int32) (x4 : Int32) (x5 : Int32) (I : Nat → Int32) (J : Nat → Int64) (B : Nat → Nat → Int32) (D : Nat → Nat → Int64) (ls : Array Slot) (H : Heap) (locs : List Loc), wl_LassoSearch_followStem_78  K56 Post n x1 x2 x3 x4 x5 I J B D → lv_has ls 6 [(0, .ref (ad 65)), (1, .int x1), (2, .int x2), (3, .int x3), (4, .int x4), (5, .int x5)] → zW G A s.heap (wS ad K I J B D) H locs → W p l e { frames := 2, cells := 0, slots := 0, locals := 48 } s m ([.ref (ad 65)] : List Value).toArray below meth c H locs 0 0 (MQ below (va_Qi (fun (r : Int32) (u : zS) => Post r u.1 u.2.1 u.2.2.1 u.2.2.2) (fun u t => zPost G K A (wS ad K u.1 u.2.1 u.2.2.1 u.2.2.2) t) A) ([.ref (ad 65)] : List Value).toArray s 0 0 A) (F0 m 78 ls []) := by
  intro n
  induction n with
  | zero => intro x1 x2 x3 x4 x5 I J B D ls H locs hok; exact hok.elim
  | succ n ih => exact wB_LassoSearch_followStem_78 G K ad  Post C K56 kh56 (wl_LassoSearch_followStem_78  K56 Post n) ih
set_option maxHeartbeats 8000000 in
set_option maxRecDepth 100000 in
theorem wB_LassoSearch_followStem_56 {p : Program} {l : Launch} {e : Env} {s : State} {m : MethodId} {below : List Frame} {meth : Method} {c : Code} {A : Nat → Prop} (G : va_G) (K : Nat → ClassId) (ad : Nat → Nat) (Post : Int32 → (Nat → Int32) → (Nat → Int64) → (Nat → Nat → Int32) → (Nat → Nat → Int64) → Prop) (C : zCx p s m ([.ref (ad 65)] : List Value).toArray meth c A G K prog_4_method_14_code (some .int) 6 "LassoFinder$LassoSearch") (K56 : Int32 → Int32 → Int32 → (Nat → Int32) → (Nat → Int64) → (Nat → Nat → Int32) → (Nat → Nat → Int64) → Prop) (kh56 : ∀ (x1 : Int32) (x2 : Int32) (x3 : Int32) (I : Nat → Int32) (J : Nat → Int64) (B : Nat → Nat → Int32) (D : Nat → Nat → Int64) (ls : Array Slot) (H : Heap) (locs : List Loc), K56 x1 x2 x3 I J B D → lv_has ls 6 [(0, .ref (ad 65)), (1, .int x1), (2, .int x2), (3, .int x3)] → zW G A s.heap (wS ad K I J B D) H locs → W p l e { frames := 2, cells := 0, slots := 0, locals := 48 } s m ([.ref (ad 65)] : List Value).toArray below meth c H locs 0 0 (MQ below (va_Qi (fun (r : Int32) (u : zS) => Post r u.1 u.2.1 u.2.2.1 u.2.2.2) (fun u t => zPost G K A (wS ad K u.1 u.2.1 u.2.2.1 u.2.2.2) t) A) ([.ref (ad 65)] : List Value).toArray s 0 0 A) (F0 m 56 ls [])) : ∀ (x1 : Int32) (x2 : Int32) (x3 : Int32) (I : Nat → Int32) (J : Nat → Int64) (B : Nat → Nat → Int32) (D : Nat → Nat → Int64) (ls : Array Slot) (H : Heap) (locs : List Loc), wb_LassoSearch_followStem_56  K56 Post x1 x2 x3 I J B D → lv_has ls 6 [(0, .ref (ad 65)), (1, .int x1), (2, .int x2), (3, .int x3)] → zW G A s.heap (wS ad K I J B D) H locs → W p l e { frames := 2, cells := 0, slots := 0, locals := 48 } s m ([.ref (ad 65)] : List Value).toArray below meth c H locs 0 0 (MQ below (va_Qi (fun (r : Int32) (u : zS) => Post r u.1 u.2.1 u.2.2.1 u.2.2.2) (fun u t => zPost G K A (wS ad K u.1 u.2.1 u.2.2.1 u.2.2.2) t) A) ([.ref (ad 65)] : List Value).toArray s 0 0 A) (F0 m 56 ls []) := by
  obtain ⟨hx, hb, hr, hml, hts, hown, hlocks, hA, hK⟩ := id C
  intro x1 x2 x3 I J B D ls H locs hok hl hw
  unfold wb_LassoSearch_followStem_56 at hok
  refine lv_iload_n hx hb zd_LassoSearch_followStem_56 rfl (lv_at hl 3 rfl) ?_
  refine lv_aload_n hx hb zd_LassoSearch_followStem_57 rfl (lv_at hl 0 rfl) ?_
  refine z_get (v := .int (I 36)) hx hb hts hown hK hw zZ3 0 wS_g0 17 (by decide) zn_817 rfl zd_LassoSearch_followStem_58 ?_
  refine lv_icmp_ge (tgt := 154) hx hb zd_LassoSearch_followStem_61 (by decide) (fun hc12 => ?_) (fun hc12 => ?_)
  · have hok := hok.1 hc12
    refine lv_iload_n hx hb zd_LassoSearch_followStem_154 rfl (lv_at hl 1 rfl) ?_
    exact (z_iret (u := (I, J, B, D)) hx hb hr hlocks rfl hw (List.range 77) wS_all wS_nd hok (Nat.le_of_ble_eq_true rfl) (Nat.le_of_ble_eq_true rfl) zd_LassoSearch_followStem_155)
  · have hok := hok.2 hc12
    refine lv_iconst (v := 0) hx hb zd_LassoSearch_followStem_64 (by decide) ?_
    refine lv_istore hx hb zd_LassoSearch_followStem_65 hl (by decide) rfl (fun ls hl => ?_)
    have hl : lv_has ls 6 [(4, .int 0), (0, .ref (ad 65)), (1, .int x1), (2, .int x2), (3, .int x3)] := hl
    refine lv_aload_n hx hb zd_LassoSearch_followStem_67 rfl (lv_at hl 1 rfl) ?_
    refine z_get (v := .ref (ad 8)) hx hb hts hown hK hw zZ3 0 wS_g0 0 (by decide) zn_822 rfl zd_LassoSearch_followStem_68 ?_
    refine z_get (v := .ref (ad 47)) hx hb hts hown hK hw zZ2 20 wS_g20 2 (by decide) zn_823 rfl zd_LassoSearch_followStem_71 ?_
    refine lv_iload_n hx hb zd_LassoSearch_followStem_74 rfl (lv_at hl 3 rfl) ?_
    refine va_iald (f := (B 32)) hx hb hK hw.1 59 0 wS_a59 rfl hok.1 zd_LassoSearch_followStem_75 ?_
    have hok := hok.2
    refine lv_topi (fun z13 ez13 => ?_)
    have hok := hok z13 ez13
    refine lv_istore hx hb zd_LassoSearch_followStem_76 hl (by decide) rfl (fun ls hl => ?_)
    have hl : lv_has ls 6 [(5, .int z13), (4, .int 0), (0, .ref (ad 65)), (1, .int x1), (2, .int x2), (3, .int x3)] := hl
    obtain ⟨n9, hok⟩ := hok
    exact wL_LassoSearch_followStem_78 G K ad  Post C K56 kh56 n9 x1 x2 x3 0 z13 I J B D ls H locs hok (lv_sub hl [2, 3, 4, 5, 1, 0] rfl) hw
theorem wL_LassoSearch_followStem_56 {p : Program} {l : Launch} {e : Env} {s : State} {m : MethodId} {below : List Frame} {meth : Method} {c : Code} {A : Nat → Prop} (G : va_G) (K : Nat → ClassId) (ad : Nat → Nat) (Post : Int32 → (Nat → Int32) → (Nat → Int64) → (Nat → Nat → Int32) → (Nat → Nat → Int64) → Prop) (C : zCx p s m ([.ref (ad 65)] : List Value).toArray meth c A G K prog_4_method_14_code (some .int) 6 "LassoFinder$LassoSearch") : ∀ (n : Nat) (x1 : Int32) (x2 : Int32) (x3 : Int32) (I : Nat → Int32) (J : Nat → Int64) (B : Nat → Nat → Int32) (D : Nat → Nat → Int64) (ls : Array Slot) (H : Heap) (locs : List Loc), wl_LassoSearch_followStem_56  Post n x1 x2 x3 I J B D → lv_has ls 6 [(0, .ref (ad 65)), (1, .int x1), (2, .int x2), (3, .int x3)] → zW G A s.heap (wS ad K I J B D) H locs → W p l e { frames := 2, cells := 0, slots := 0, locals := 48 } s m ([.ref (ad 65)] : List Value).toArray below meth c H locs 0 0 (MQ below (va_Qi (fun (r : Int32) (u : zS) => Post r u.1 u.2.1 u.2.2.1 u.2.2.2) (fun u t => zPost G K A (wS ad K u.1 u.2.1 u.2.2.1 u.2.2.2) t) A) ([.ref (ad 65)] : List Value).toArray s 0 0 A) (F0 m 56 ls []) := by
  intro n
  induction n with
  | zero => intro x1 x2 x3 I J B D ls H locs hok; exact hok.elim
  | succ n ih => exact wB_LassoSearch_followStem_56 G K ad  Post C (wl_LassoSearch_followStem_56  Post n) ih
set_option maxHeartbeats 8000000 in
set_option maxRecDepth 100000 in
theorem wJ_LassoSearch_followStem_46 {p : Program} {l : Launch} {e : Env} {s : State} {m : MethodId} {below : List Frame} {meth : Method} {c : Code} {A : Nat → Prop} (G : va_G) (K : Nat → ClassId) (ad : Nat → Nat) (Post : Int32 → (Nat → Int32) → (Nat → Int64) → (Nat → Nat → Int32) → (Nat → Nat → Int64) → Prop) (C : zCx p s m ([.ref (ad 65)] : List Value).toArray meth c A G K prog_4_method_14_code (some .int) 6 "LassoFinder$LassoSearch") (K4 : Int32 → Int32 → (Nat → Int32) → (Nat → Int64) → (Nat → Nat → Int32) → (Nat → Nat → Int64) → Prop) (kh4 : ∀ (x1 : Int32) (x2 : Int32) (I : Nat → Int32) (J : Nat → Int64) (B : Nat → Nat → Int32) (D : Nat → Nat → Int64) (ls : Array Slot) (H : Heap) (locs : List Loc), K4 x1 x2 I J B D → lv_has ls 6 [(0, .ref (ad 65)), (1, .int x1), (2, .int x2)] → zW G A s.heap (wS ad K I J B D) H locs → W p l e { frames := 2, cells := 0, slots := 0, locals := 48 } s m ([.ref (ad 65)] : List Value).toArray below meth c H locs 0 0 (MQ below (va_Qi (fun (r : Int32) (u : zS) => Post r u.1 u.2.1 u.2.2.1 u.2.2.2) (fun u t => zPost G K A (wS ad K u.1 u.2.1 u.2.2.1 u.2.2.2) t) A) ([.ref (ad 65)] : List Value).toArray s 0 0 A) (F0 m 4 ls [])) : ∀ (x1 : Int32) (x2 : Int32) (I : Nat → Int32) (J : Nat → Int64) (B : Nat → Nat → Int32) (D : Nat → Nat → Int64) (ls : Array Slot) (H : Heap) (locs : List Loc), wc_LassoSearch_followStem_46  K4 Post x1 x2 I J B D → lv_has ls 6 [(0, .ref (ad 65)), (1, .int x1), (2, .int x2)] → zW G A s.heap (wS ad K I J B D) H locs → W p l e { frames := 2, cells := 0, slots := 0, locals := 48 } s m ([.ref (ad 65)] : List Value).toArray below meth c H locs 0 0 (MQ below (va_Qi (fun (r : Int32) (u : zS) => Post r u.1 u.2.1 u.2.2.1 u.2.2.2) (fun u t => zPost G K A (wS ad K u.1 u.2.1 u.2.2.1 u.2.2.2) t) A) ([.ref (ad 65)] : List Value).toArray s 0 0 A) (F0 m 46 ls []) := by
  obtain ⟨hx, hb, hr, hml, hts, hown, hlocks, hA, hK⟩ := id C
  intro x1 x2 I J B D ls H locs hok hl hw
  unfold wc_LassoSearch_followStem_46 at hok
  obtain ⟨z14, ez14⟩ : ∃ z : Int32, z = (x2 + 1) := ⟨_, rfl⟩
  have hok := hok z14 ez14
  refine lv_iinc (v := z14) hx hb zd_LassoSearch_followStem_46 hl (k := 2) rfl ez14.symm (by decide) rfl (fun ls hl => ?_)
  have hl : lv_has ls 6 [(2, .int z14), (0, .ref (ad 65)), (1, .int x1)] := hl
  refine lv_goto (tgt := 4) hx hb zd_LassoSearch_followStem_49 (by decide) ?_
  exact kh4 x1 z14 I J B D ls H locs hok (lv_sub hl [1, 2, 0] rfl) hw
set_option maxHeartbeats 8000000 in
set_option maxRecDepth 100000 in
theorem wB_LassoSearch_followStem_4 {p : Program} {l : Launch} {e : Env} {s : State} {m : MethodId} {below : List Frame} {meth : Method} {c : Code} {A : Nat → Prop} (G : va_G) (K : Nat → ClassId) (ad : Nat → Nat) (Post : Int32 → (Nat → Int32) → (Nat → Int64) → (Nat → Nat → Int32) → (Nat → Nat → Int64) → Prop) (C : zCx p s m ([.ref (ad 65)] : List Value).toArray meth c A G K prog_4_method_14_code (some .int) 6 "LassoFinder$LassoSearch") (K4 : Int32 → Int32 → (Nat → Int32) → (Nat → Int64) → (Nat → Nat → Int32) → (Nat → Nat → Int64) → Prop) (kh4 : ∀ (x1 : Int32) (x2 : Int32) (I : Nat → Int32) (J : Nat → Int64) (B : Nat → Nat → Int32) (D : Nat → Nat → Int64) (ls : Array Slot) (H : Heap) (locs : List Loc), K4 x1 x2 I J B D → lv_has ls 6 [(0, .ref (ad 65)), (1, .int x1), (2, .int x2)] → zW G A s.heap (wS ad K I J B D) H locs → W p l e { frames := 2, cells := 0, slots := 0, locals := 48 } s m ([.ref (ad 65)] : List Value).toArray below meth c H locs 0 0 (MQ below (va_Qi (fun (r : Int32) (u : zS) => Post r u.1 u.2.1 u.2.2.1 u.2.2.2) (fun u t => zPost G K A (wS ad K u.1 u.2.1 u.2.2.1 u.2.2.2) t) A) ([.ref (ad 65)] : List Value).toArray s 0 0 A) (F0 m 4 ls [])) : ∀ (x1 : Int32) (x2 : Int32) (I : Nat → Int32) (J : Nat → Int64) (B : Nat → Nat → Int32) (D : Nat → Nat → Int64) (ls : Array Slot) (H : Heap) (locs : List Loc), wb_LassoSearch_followStem_4  K4 Post x1 x2 I J B D → lv_has ls 6 [(0, .ref (ad 65)), (1, .int x1), (2, .int x2)] → zW G A s.heap (wS ad K I J B D) H locs → W p l e { frames := 2, cells := 0, slots := 0, locals := 48 } s m ([.ref (ad 65)] : List Value).toArray below meth c H locs 0 0 (MQ below (va_Qi (fun (r : Int32) (u : zS) => Post r u.1 u.2.1 u.2.2.1 u.2.2.2) (fun u t => zPost G K A (wS ad K u.1 u.2.1 u.2.2.1 u.2.2.2) t) A) ([.ref (ad 65)] : List Value).toArray s 0 0 A) (F0 m 4 ls []) := by
  obtain ⟨hx, hb, hr, hml, hts, hown, hlocks, hA, hK⟩ := id C
  intro x1 x2 I J B D ls H locs hok hl hw
  unfold wb_LassoSearch_followStem_4 at hok
  refine lv_iload_n hx hb zd_LassoSearch_followStem_4 rfl (lv_at hl 2 rfl) ?_
  refine lv_aload_n hx hb zd_LassoSearch_followStem_5 rfl (lv_at hl 0 rfl) ?_
  refine z_get (v := .ref (ad 11)) hx hb hts hown hK hw zZ3 0 wS_g0 1 (by decide) zn_819 rfl zd_LassoSearch_followStem_6 ?_
  refine z_get (v := .int (I 30)) hx hb hts hown hK hw zZ11 23 wS_g23 7 (by decide) zn_820 rfl zd_LassoSearch_followStem_9 ?_
  refine lv_icmp_ge (tgt := 52) hx hb zd_LassoSearch_followStem_12 (by decide) (fun hc15 => ?_) (fun hc15 => ?_)
  · have hok := hok.1 hc15
    refine lv_iconst (v := 0) hx hb zd_LassoSearch_followStem_52 (by decide) ?_
    refine lv_istore_n hx hb zd_LassoSearch_followStem_53 rfl hl (by decide) rfl (fun ls hl => ?_)
    have hl : lv_has ls 6 [(2, .int 0), (0, .ref (ad 65)), (1, .int x1)] := hl
    refine lv_iconst (v := 0) hx hb zd_LassoSearch_followStem_54 (by decide) ?_
    refine lv_istore_n hx hb zd_LassoSearch_followStem_55 rfl hl (by decide) rfl (fun ls hl => ?_)
    have hl : lv_has ls 6 [(3, .int 0), (2, .int 0), (0, .ref (ad 65)), (1, .int x1)] := hl
    obtain ⟨n9, hok⟩ := hok
    exact wL_LassoSearch_followStem_56 G K ad  Post C n9 x1 0 0 I J B D ls H locs hok (lv_sub hl [2, 3, 1, 0] rfl) hw
  · have hok := hok.2 hc15
    refine lv_aload_n hx hb zd_LassoSearch_followStem_15 rfl (lv_at hl 0 rfl) ?_
    refine z_get (v := .ref (ad 11)) hx hb hts hown hK hw zZ3 0 wS_g0 1 (by decide) zn_819 rfl zd_LassoSearch_followStem_16 ?_
    refine z_get (v := .ref (ad 64)) hx hb hts hown hK hw zZ11 23 wS_g23 6 (by decide) zn_821 rfl zd_LassoSearch_followStem_19 ?_
    refine lv_iload_n hx hb zd_LassoSearch_followStem_22 rfl (lv_at hl 2 rfl) ?_
    refine va_zald (f := (B 49)) hx hb hK hw.1 76 2 wS_a76 rfl hok.1 zd_LassoSearch_followStem_23 ?_
    have hok := hok.2
    refine lv_topi (fun z16 ez16 => ?_)
    have hok := hok z16 ez16
    refine lv_if_ne (tgt := 46) hx hb zd_LassoSearch_followStem_24 (by decide) (fun hc17 => ?_) (fun hc17 => ?_)
    · have hok := hok.1 hc17
      exact wJ_LassoSearch_followStem_46 G K ad  Post C K4 kh4 x1 x2 I J B D ls H locs hok (lv_sub hl [0, 1, 2] rfl) hw
    · have hok := hok.2 hc17
      refine lv_aload_n hx hb zd_LassoSearch_followStem_27 rfl (lv_at hl 0 rfl) ?_
      refine z_get (v := .ref (ad 72)) hx hb hts hown hK hw zZ3 0 wS_g0 11 (by decide) zn_809 rfl zd_LassoSearch_followStem_28 ?_
      refine lv_iload_n hx hb zd_LassoSearch_followStem_31 rfl (lv_at hl 2 rfl) ?_
      refine va_iald (f := (B 56)) hx hb hK hw.1 7 0 wS_a7 rfl hok.1 zd_LassoSearch_followStem_32 ?_
      have hok := hok.2
      refine lv_topi (fun z18 ez18 => ?_)
      have hok := hok z18 ez18
      refine lv_aload_n hx hb zd_LassoSearch_followStem_33 rfl (lv_at hl 0 rfl) ?_
      refine z_get (v := .int (I 36)) hx hb hts hown hK hw zZ3 0 wS_g0 17 (by decide) zn_817 rfl zd_LassoSearch_followStem_34 ?_
      refine lv_icmp_ne (tgt := 46) hx hb zd_LassoSearch_followStem_37 (by decide) (fun hc19 => ?_) (fun hc19 => ?_)
      · have hok := hok.1 hc19
        exact wJ_LassoSearch_followStem_46 G K ad  Post C K4 kh4 x1 x2 I J B D ls H locs hok (lv_sub hl [0, 1, 2] rfl) hw
      · have hok := hok.2 hc19
        refine lv_iload_n hx hb zd_LassoSearch_followStem_40 rfl (lv_at hl 1 rfl) ?_
        refine lv_iconst (v := 1) hx hb zd_LassoSearch_followStem_41 (by decide) ?_
        refine lv_iload_n hx hb zd_LassoSearch_followStem_42 rfl (lv_at hl 2 rfl) ?_
        refine lv_ishl hx hb zd_LassoSearch_followStem_43 ?_
        refine lv_topi (fun z20 ez20 => ?_)
        have hok := hok z20 ez20
        refine lv_ior hx hb zd_LassoSearch_followStem_44 ?_
        refine lv_topi (fun z21 ez21 => ?_)
        have hok := hok z21 ez21
        refine lv_istore_n hx hb zd_LassoSearch_followStem_45 rfl hl (by decide) rfl (fun ls hl => ?_)
        have hl : lv_has ls 6 [(1, .int z21), (0, .ref (ad 65)), (2, .int x2)] := hl
        exact wJ_LassoSearch_followStem_46 G K ad  Post C K4 kh4 z21 x2 I J B D ls H locs hok (lv_sub hl [1, 0, 2] rfl) hw
theorem wL_LassoSearch_followStem_4 {p : Program} {l : Launch} {e : Env} {s : State} {m : MethodId} {below : List Frame} {meth : Method} {c : Code} {A : Nat → Prop} (G : va_G) (K : Nat → ClassId) (ad : Nat → Nat) (Post : Int32 → (Nat → Int32) → (Nat → Int64) → (Nat → Nat → Int32) → (Nat → Nat → Int64) → Prop) (C : zCx p s m ([.ref (ad 65)] : List Value).toArray meth c A G K prog_4_method_14_code (some .int) 6 "LassoFinder$LassoSearch") : ∀ (n : Nat) (x1 : Int32) (x2 : Int32) (I : Nat → Int32) (J : Nat → Int64) (B : Nat → Nat → Int32) (D : Nat → Nat → Int64) (ls : Array Slot) (H : Heap) (locs : List Loc), wl_LassoSearch_followStem_4  Post n x1 x2 I J B D → lv_has ls 6 [(0, .ref (ad 65)), (1, .int x1), (2, .int x2)] → zW G A s.heap (wS ad K I J B D) H locs → W p l e { frames := 2, cells := 0, slots := 0, locals := 48 } s m ([.ref (ad 65)] : List Value).toArray below meth c H locs 0 0 (MQ below (va_Qi (fun (r : Int32) (u : zS) => Post r u.1 u.2.1 u.2.2.1 u.2.2.2) (fun u t => zPost G K A (wS ad K u.1 u.2.1 u.2.2.1 u.2.2.2) t) A) ([.ref (ad 65)] : List Value).toArray s 0 0 A) (F0 m 4 ls []) := by
  intro n
  induction n with
  | zero => intro x1 x2 I J B D ls H locs hok; exact hok.elim
  | succ n ih => exact wB_LassoSearch_followStem_4 G K ad  Post C (wl_LassoSearch_followStem_4  Post n) ih
set_option maxHeartbeats 8000000 in
set_option maxRecDepth 100000 in
theorem w_LassoSearch_followStem (l : Launch) (G : va_G) (K : Nat → ClassId) (ad : Nat → Nat) (I : Nat → Int32) (J : Nat → Int64) (B : Nat → Nat → Int32) (D : Nat → Nat → Int64) (Post : Int32 → (Nat → Int32) → (Nat → Int64) → (Nat → Nat → Int32) → (Nat → Nat → Int64) → Prop) (sz : Nat) (hok : wp_LassoSearch_followStem I J B D  Post) : Met l zy_LassoSearch_followStem (Cond.code zy_LassoSearch_followStem prog_4_method_14_code 6 (some .int) :: zTB) { frames := 2, cells := 0, slots := 0, locals := 48 } (va_Pc [.ref (ad 65)] (zPre G K (wS ad K I J B D) sz)) (va_Qi (fun (r : Int32) (u : zS) => Post r u.1 u.2.1 u.2.2.1 u.2.2.2) (fun u t => zPost G K (va_A (wS ad K I J B D) sz) (wS ad K u.1 u.2.1 u.2.2.1 u.2.2.2) t) (va_A (wS ad K I J B D) sz)) 0 0 (va_A (wS ad K I J B D) sz) := by
  refine zMet (y := zy_LassoSearch_followStem) (av := [.ref (ad 65)]) (maxL := 6) (cc := prog_4_method_14_code) (ret := (some .int)) (W0 := (wS ad K I J B D)) (sz := sz) (G := G) (K := K) (wt := zTB) (mc := 0) (ms := 0) (Qf := fun A => va_Qi (fun (r : Int32) (u : zS) => Post r u.1 u.2.1 u.2.2.1 u.2.2.2) (fun u t => zPost G K A (wS ad K u.1 u.2.1 u.2.2.1 u.2.2.2) t) A) (by decide) (Nat.le_of_ble_eq_true rfl) ?_
  intro p e s m below meth c ls A hx hb hr hml hts hown hlocks hin hA hK H locs hw hsz hl
  clear hsz
  have hown : s.vm.findClass "LassoFinder$LassoSearch" = some m.cls := hown
  have C : zCx p s m ([.ref (ad 65)] : List Value).toArray meth c A G K prog_4_method_14_code (some .int) 6 "LassoFinder$LassoSearch" := ⟨hx, hb, hr, hml, hts, hown, hlocks, hA, hK⟩
  have hl : lv_has ls 6 [(0, .ref (ad 65))] := hl
  have hw : zW G A s.heap (wS ad K I J B D) H locs := hw
  unfold wp_LassoSearch_followStem at hok
  refine lv_iconst (v := 0) hx hb zd_LassoSearch_followStem_0 (by decide) ?_
  refine lv_istore_n hx hb zd_LassoSearch_followStem_1 rfl hl (by decide) rfl (fun ls hl => ?_)
  have hl : lv_has ls 6 [(1, .int 0), (0, .ref (ad 65))] := hl
  refine lv_iconst (v := 0) hx hb zd_LassoSearch_followStem_2 (by decide) ?_
  refine lv_istore_n hx hb zd_LassoSearch_followStem_3 rfl hl (by decide) rfl (fun ls hl => ?_)
  have hl : lv_has ls 6 [(2, .int 0), (1, .int 0), (0, .ref (ad 65))] := hl
  obtain ⟨n9, hok⟩ := hok
  exact wL_LassoSearch_followStem_4 G K ad  Post C n9 0 0 I J B D ls H locs hok (lv_sub hl [2, 1, 0] rfl) hw
