abbrev zy_LassoFinderLaw_model : MethodName := ⟨"LassoFinderLaw", "model", "(LLassoFinder;[J)I"⟩
abbrev zy_LassoFinderLaw_formula : MethodName := ⟨"LassoFinderLaw", "formula", "(LLassoFinder;[J)I"⟩
abbrev zy_LassoFinderLaw_verify : MethodName := ⟨"LassoFinderLaw", "verify", "(LLassoFinder;[J)I"⟩
abbrev zy_LassoFinderLaw_lasso : MethodName := ⟨"LassoFinderLaw", "lasso", "(LLassoFinder;II[J)I"⟩
abbrev zy_LassoFinderLaw_walk : MethodName := ⟨"LassoFinderLaw", "walk", "(LLassoFinder;)I"⟩
abbrev zy_LassoFinderLaw_go : MethodName := ⟨"LassoFinderLaw", "go", "(LLassoFinder;I[J)I"⟩
abbrev zy_LassoFinderLaw_truth : MethodName := ⟨"LassoFinderLaw", "truth", "(LLassoFinder;I[J)I"⟩
theorem zn_905 : Cond.methodLink "LassoFinderLaw" 7 ⟨"LassoFinder", "model", "()I"⟩ ∈ zTB := z_in (zt_3 _ (List.mem_of_getElem? (i := 87) rfl)) rfl
theorem zn_906 : Cond.classLink "LassoFinderLaw" 13 "java/lang/IllegalArgumentException" ∈ zTB := z_in (zt_3 _ (List.mem_of_getElem? (i := 85) rfl)) rfl
theorem zn_907 : Cond.classLink "LassoFinderLaw" 15 "java/lang/UnsupportedOperationException" ∈ zTB := z_in (zt_3 _ (List.mem_of_getElem? (i := 86) rfl)) rfl
theorem zn_908 : Cond.methodLink "LassoFinderLaw" 17 ⟨"LassoFinder", "formula", "()I"⟩ ∈ zTB := z_in (zt_5 _ (List.mem_of_getElem? (i := 4) rfl)) rfl
theorem zn_909 : Cond.classLink "LassoFinderLaw" 20 "java/lang/IllegalStateException" ∈ zTB := z_in (zt_5 _ (List.mem_of_getElem? (i := 3) rfl)) rfl
theorem zn_910 : Cond.methodLink "LassoFinderLaw" 22 ⟨"LassoFinder", "verify", "()Z"⟩ ∈ zTB := z_in (zt_5 _ (List.mem_of_getElem? (i := 116) rfl)) rfl
theorem zn_911 : Cond.methodLink "LassoFinderLaw" 26 ⟨"LassoFinder", "lasso", "(II)I"⟩ ∈ zTB := z_in (zt_6 _ (List.mem_of_getElem? (i := 34) rfl)) rfl
theorem zn_912 : Cond.classLink "LassoFinderLaw" 30 "java/lang/IndexOutOfBoundsException" ∈ zTB := z_in (zt_6 _ (List.mem_of_getElem? (i := 33) rfl)) rfl
theorem zn_913 : Cond.methodLink "LassoFinderLaw" 32 ⟨"LassoFinder", "walk", "()V"⟩ ∈ zTB := z_in (zt_6 _ (List.mem_of_getElem? (i := 60) rfl)) rfl
theorem zn_914 : Cond.methodLink "LassoFinderLaw" 35 ⟨"LassoFinder", "go", "(I)I"⟩ ∈ zTB := z_in (zt_6 _ (List.mem_of_getElem? (i := 67) rfl)) rfl
theorem zn_915 : Cond.methodLink "LassoFinderLaw" 39 ⟨"LassoFinder", "truth", "(I)Z"⟩ ∈ zTB := z_in (zt_6 _ (List.mem_of_getElem? (i := 74) rfl)) rfl
theorem zn_916 : Cond.code ⟨"LassoFinder", "model", "()I"⟩ prog_1_method_3_code 1 (some .int) ∈ zTB := z_in (zt_3 _ (List.mem_of_getElem? (i := 90) rfl)) rfl
theorem zn_917 : Cond.selects "LassoFinder" ⟨"LassoFinder", "model", "()I"⟩ ⟨"LassoFinder", "model", "()I"⟩ ∈ zTB := z_in (zt_3 _ (List.mem_of_getElem? (i := 89) rfl)) rfl
theorem zn_918 : Cond.instanceMethod ⟨"LassoFinder", "model", "()I"⟩ ∈ zTB := z_in (zt_3 _ (List.mem_of_getElem? (i := 88) rfl)) rfl
theorem zn_919 : Cond.code ⟨"LassoFinder", "formula", "()I"⟩ prog_1_method_4_code 1 (some .int) ∈ zTB := z_in (zt_5 _ (List.mem_of_getElem? (i := 7) rfl)) rfl
theorem zn_920 : Cond.selects "LassoFinder" ⟨"LassoFinder", "formula", "()I"⟩ ⟨"LassoFinder", "formula", "()I"⟩ ∈ zTB := z_in (zt_5 _ (List.mem_of_getElem? (i := 6) rfl)) rfl
theorem zn_921 : Cond.instanceMethod ⟨"LassoFinder", "formula", "()I"⟩ ∈ zTB := z_in (zt_5 _ (List.mem_of_getElem? (i := 5) rfl)) rfl
theorem zn_922 : Cond.code ⟨"LassoFinder", "verify", "()Z"⟩ prog_1_method_6_code 1 (some .boolean) ∈ zTB := z_in (zt_5 _ (List.mem_of_getElem? (i := 119) rfl)) rfl
theorem zn_923 : Cond.selects "LassoFinder" ⟨"LassoFinder", "verify", "()Z"⟩ ⟨"LassoFinder", "verify", "()Z"⟩ ∈ zTB := z_in (zt_5 _ (List.mem_of_getElem? (i := 118) rfl)) rfl
theorem zn_924 : Cond.instanceMethod ⟨"LassoFinder", "verify", "()Z"⟩ ∈ zTB := z_in (zt_5 _ (List.mem_of_getElem? (i := 117) rfl)) rfl
theorem zn_925 : Cond.code ⟨"LassoFinder", "lasso", "(II)I"⟩ prog_1_method_9_code 4 (some .int) ∈ zTB := z_in (zt_6 _ (List.mem_of_getElem? (i := 37) rfl)) rfl
theorem zn_926 : Cond.selects "LassoFinder" ⟨"LassoFinder", "lasso", "(II)I"⟩ ⟨"LassoFinder", "lasso", "(II)I"⟩ ∈ zTB := z_in (zt_6 _ (List.mem_of_getElem? (i := 36) rfl)) rfl
theorem zn_927 : Cond.instanceMethod ⟨"LassoFinder", "lasso", "(II)I"⟩ ∈ zTB := z_in (zt_6 _ (List.mem_of_getElem? (i := 35) rfl)) rfl
theorem zn_928 : Cond.code ⟨"LassoFinder", "walk", "()V"⟩ prog_1_method_10_code 1 none ∈ zTB := z_in (zt_6 _ (List.mem_of_getElem? (i := 63) rfl)) rfl
theorem zn_929 : Cond.selects "LassoFinder" ⟨"LassoFinder", "walk", "()V"⟩ ⟨"LassoFinder", "walk", "()V"⟩ ∈ zTB := z_in (zt_6 _ (List.mem_of_getElem? (i := 62) rfl)) rfl
theorem zn_930 : Cond.instanceMethod ⟨"LassoFinder", "walk", "()V"⟩ ∈ zTB := z_in (zt_6 _ (List.mem_of_getElem? (i := 61) rfl)) rfl
theorem zn_931 : Cond.code ⟨"LassoFinder", "go", "(I)I"⟩ prog_1_method_12_code 4 (some .int) ∈ zTB := z_in (zt_6 _ (List.mem_of_getElem? (i := 70) rfl)) rfl
theorem zn_932 : Cond.selects "LassoFinder" ⟨"LassoFinder", "go", "(I)I"⟩ ⟨"LassoFinder", "go", "(I)I"⟩ ∈ zTB := z_in (zt_6 _ (List.mem_of_getElem? (i := 69) rfl)) rfl
theorem zn_933 : Cond.instanceMethod ⟨"LassoFinder", "go", "(I)I"⟩ ∈ zTB := z_in (zt_6 _ (List.mem_of_getElem? (i := 68) rfl)) rfl
theorem zn_934 : Cond.code ⟨"LassoFinder", "truth", "(I)Z"⟩ prog_1_method_17_code 2 (some .boolean) ∈ zTB := z_in (zt_6 _ (List.mem_of_getElem? (i := 77) rfl)) rfl
theorem zn_935 : Cond.selects "LassoFinder" ⟨"LassoFinder", "truth", "(I)Z"⟩ ⟨"LassoFinder", "truth", "(I)Z"⟩ ∈ zTB := z_in (zt_6 _ (List.mem_of_getElem? (i := 76) rfl)) rfl
theorem zn_936 : Cond.instanceMethod ⟨"LassoFinder", "truth", "(I)Z"⟩ ∈ zTB := z_in (zt_6 _ (List.mem_of_getElem? (i := 75) rfl)) rfl
theorem zf_LassoFinder_model : zFaceV zy_LassoFinder_model prog_1_method_3_code 1 (some .int) 0 := ⟨zn_918, zn_917, zm_1, zn_916, by decide +kernel, by decide +kernel, by decide +kernel⟩
theorem zf_LassoFinder_formula : zFaceV zy_LassoFinder_formula prog_1_method_4_code 1 (some .int) 0 := ⟨zn_921, zn_920, zm_1, zn_919, by decide +kernel, by decide +kernel, by decide +kernel⟩
theorem zf_LassoFinder_verify : zFaceV zy_LassoFinder_verify prog_1_method_6_code 1 (some .boolean) 0 := ⟨zn_924, zn_923, zm_1, zn_922, by decide +kernel, by decide +kernel, by decide +kernel⟩
theorem zf_LassoFinder_lasso : zFaceV zy_LassoFinder_lasso prog_1_method_9_code 4 (some .int) 2 := ⟨zn_927, zn_926, zm_1, zn_925, by decide +kernel, by decide +kernel, by decide +kernel⟩
theorem zf_LassoFinder_walk : zFaceV zy_LassoFinder_walk prog_1_method_10_code 1 none 0 := ⟨zn_930, zn_929, zm_1, zn_928, by decide +kernel, by decide +kernel, by decide +kernel⟩
theorem zf_LassoFinder_go : zFaceV zy_LassoFinder_go prog_1_method_12_code 4 (some .int) 1 := ⟨zn_933, zn_932, zm_1, zn_931, by decide +kernel, by decide +kernel, by decide +kernel⟩
theorem zf_LassoFinder_truth : zFaceV zy_LassoFinder_truth prog_1_method_17_code 2 (some .boolean) 1 := ⟨zn_936, zn_935, zm_1, zn_934, by decide +kernel, by decide +kernel, by decide +kernel⟩
theorem zd_LassoFinderLaw_formula_0 : decode method_4_code 0 = .ok (.aload_n 1, 1) := by decide +kernel
theorem zd_LassoFinderLaw_formula_1 : decode method_4_code 1 = .ok (.iconst 0, 1) := by decide +kernel
theorem zd_LassoFinderLaw_formula_2 : decode method_4_code 2 = .ok (.aload_n 0, 1) := by decide +kernel
theorem zd_LassoFinderLaw_formula_3 : decode method_4_code 3 = .ok (.invokevirtual 17, 3) := by decide +kernel
theorem zd_LassoFinderLaw_formula_6 : decode method_4_code 6 = .ok (.i2l, 1) := by decide +kernel
theorem zd_LassoFinderLaw_formula_7 : decode method_4_code 7 = .ok (.lastore, 1) := by decide +kernel
theorem zd_LassoFinderLaw_formula_8 : decode method_4_code 8 = .ok (.goto 9, 3) := by decide +kernel
theorem zd_LassoFinderLaw_formula_11 : decode method_4_code 11 = .ok (.astore_n 2, 1) := by decide +kernel
theorem zd_LassoFinderLaw_formula_12 : decode method_4_code 12 = .ok (.iconst 1, 1) := by decide +kernel
theorem zd_LassoFinderLaw_formula_13 : decode method_4_code 13 = .ok (.ireturn, 1) := by decide +kernel
theorem zd_LassoFinderLaw_formula_14 : decode method_4_code 14 = .ok (.astore_n 2, 1) := by decide +kernel
theorem zd_LassoFinderLaw_formula_15 : decode method_4_code 15 = .ok (.iconst 2, 1) := by decide +kernel
theorem zd_LassoFinderLaw_formula_16 : decode method_4_code 16 = .ok (.ireturn, 1) := by decide +kernel
theorem zd_LassoFinderLaw_formula_17 : decode method_4_code 17 = .ok (.iconst 0, 1) := by decide +kernel
theorem zd_LassoFinderLaw_formula_18 : decode method_4_code 18 = .ok (.ireturn, 1) := by decide +kernel
theorem zd_LassoFinderLaw_go_0 : decode method_8_code 0 = .ok (.aload_n 2, 1) := by decide +kernel
theorem zd_LassoFinderLaw_go_1 : decode method_8_code 1 = .ok (.iconst 0, 1) := by decide +kernel
theorem zd_LassoFinderLaw_go_2 : decode method_8_code 2 = .ok (.aload_n 0, 1) := by decide +kernel
theorem zd_LassoFinderLaw_go_3 : decode method_8_code 3 = .ok (.iload_n 1, 1) := by decide +kernel
theorem zd_LassoFinderLaw_go_4 : decode method_8_code 4 = .ok (.invokevirtual 35, 3) := by decide +kernel
theorem zd_LassoFinderLaw_go_7 : decode method_8_code 7 = .ok (.i2l, 1) := by decide +kernel
theorem zd_LassoFinderLaw_go_8 : decode method_8_code 8 = .ok (.lastore, 1) := by decide +kernel
theorem zd_LassoFinderLaw_go_9 : decode method_8_code 9 = .ok (.goto 12, 3) := by decide +kernel
theorem zd_LassoFinderLaw_go_12 : decode method_8_code 12 = .ok (.astore_n 3, 1) := by decide +kernel
theorem zd_LassoFinderLaw_go_13 : decode method_8_code 13 = .ok (.iconst 1, 1) := by decide +kernel
theorem zd_LassoFinderLaw_go_14 : decode method_8_code 14 = .ok (.ireturn, 1) := by decide +kernel
theorem zd_LassoFinderLaw_go_15 : decode method_8_code 15 = .ok (.astore_n 3, 1) := by decide +kernel
theorem zd_LassoFinderLaw_go_16 : decode method_8_code 16 = .ok (.iconst 2, 1) := by decide +kernel
theorem zd_LassoFinderLaw_go_17 : decode method_8_code 17 = .ok (.ireturn, 1) := by decide +kernel
theorem zd_LassoFinderLaw_go_18 : decode method_8_code 18 = .ok (.astore_n 3, 1) := by decide +kernel
theorem zd_LassoFinderLaw_go_19 : decode method_8_code 19 = .ok (.iconst 3, 1) := by decide +kernel
theorem zd_LassoFinderLaw_go_20 : decode method_8_code 20 = .ok (.ireturn, 1) := by decide +kernel
theorem zd_LassoFinderLaw_go_21 : decode method_8_code 21 = .ok (.iconst 0, 1) := by decide +kernel
theorem zd_LassoFinderLaw_go_22 : decode method_8_code 22 = .ok (.ireturn, 1) := by decide +kernel
theorem zd_LassoFinderLaw_lasso_0 : decode method_6_code 0 = .ok (.aload_n 3, 1) := by decide +kernel
theorem zd_LassoFinderLaw_lasso_1 : decode method_6_code 1 = .ok (.iconst 0, 1) := by decide +kernel
theorem zd_LassoFinderLaw_lasso_2 : decode method_6_code 2 = .ok (.aload_n 0, 1) := by decide +kernel
theorem zd_LassoFinderLaw_lasso_3 : decode method_6_code 3 = .ok (.iload_n 1, 1) := by decide +kernel
theorem zd_LassoFinderLaw_lasso_4 : decode method_6_code 4 = .ok (.iload_n 2, 1) := by decide +kernel
theorem zd_LassoFinderLaw_lasso_5 : decode method_6_code 5 = .ok (.invokevirtual 26, 3) := by decide +kernel
theorem zd_LassoFinderLaw_lasso_8 : decode method_6_code 8 = .ok (.i2l, 1) := by decide +kernel
theorem zd_LassoFinderLaw_lasso_9 : decode method_6_code 9 = .ok (.lastore, 1) := by decide +kernel
theorem zd_LassoFinderLaw_lasso_10 : decode method_6_code 10 = .ok (.goto 7, 3) := by decide +kernel
theorem zd_LassoFinderLaw_lasso_13 : decode method_6_code 13 = .ok (.astore 4, 2) := by decide +kernel
theorem zd_LassoFinderLaw_lasso_15 : decode method_6_code 15 = .ok (.iconst 1, 1) := by decide +kernel
theorem zd_LassoFinderLaw_lasso_16 : decode method_6_code 16 = .ok (.ireturn, 1) := by decide +kernel
theorem zd_LassoFinderLaw_lasso_17 : decode method_6_code 17 = .ok (.iconst 0, 1) := by decide +kernel
theorem zd_LassoFinderLaw_lasso_18 : decode method_6_code 18 = .ok (.ireturn, 1) := by decide +kernel
theorem zd_LassoFinderLaw_model_0 : decode method_3_code 0 = .ok (.aload_n 1, 1) := by decide +kernel
theorem zd_LassoFinderLaw_model_1 : decode method_3_code 1 = .ok (.iconst 0, 1) := by decide +kernel
theorem zd_LassoFinderLaw_model_2 : decode method_3_code 2 = .ok (.aload_n 0, 1) := by decide +kernel
theorem zd_LassoFinderLaw_model_3 : decode method_3_code 3 = .ok (.invokevirtual 7, 3) := by decide +kernel
theorem zd_LassoFinderLaw_model_6 : decode method_3_code 6 = .ok (.i2l, 1) := by decide +kernel
theorem zd_LassoFinderLaw_model_7 : decode method_3_code 7 = .ok (.lastore, 1) := by decide +kernel
theorem zd_LassoFinderLaw_model_8 : decode method_3_code 8 = .ok (.goto 9, 3) := by decide +kernel
theorem zd_LassoFinderLaw_model_11 : decode method_3_code 11 = .ok (.astore_n 2, 1) := by decide +kernel
theorem zd_LassoFinderLaw_model_12 : decode method_3_code 12 = .ok (.iconst 1, 1) := by decide +kernel
theorem zd_LassoFinderLaw_model_13 : decode method_3_code 13 = .ok (.ireturn, 1) := by decide +kernel
theorem zd_LassoFinderLaw_model_14 : decode method_3_code 14 = .ok (.astore_n 2, 1) := by decide +kernel
theorem zd_LassoFinderLaw_model_15 : decode method_3_code 15 = .ok (.iconst 2, 1) := by decide +kernel
theorem zd_LassoFinderLaw_model_16 : decode method_3_code 16 = .ok (.ireturn, 1) := by decide +kernel
theorem zd_LassoFinderLaw_model_17 : decode method_3_code 17 = .ok (.iconst 0, 1) := by decide +kernel
theorem zd_LassoFinderLaw_model_18 : decode method_3_code 18 = .ok (.ireturn, 1) := by decide +kernel
theorem zd_LassoFinderLaw_truth_0 : decode method_9_code 0 = .ok (.aload_n 2, 1) := by decide +kernel
theorem zd_LassoFinderLaw_truth_1 : decode method_9_code 1 = .ok (.iconst 0, 1) := by decide +kernel
theorem zd_LassoFinderLaw_truth_2 : decode method_9_code 2 = .ok (.aload_n 0, 1) := by decide +kernel
theorem zd_LassoFinderLaw_truth_3 : decode method_9_code 3 = .ok (.iload_n 1, 1) := by decide +kernel
theorem zd_LassoFinderLaw_truth_4 : decode method_9_code 4 = .ok (.invokevirtual 39, 3) := by decide +kernel
theorem zd_LassoFinderLaw_truth_7 : decode method_9_code 7 = .ok (.ifCond .eq 7, 3) := by decide +kernel
theorem zd_LassoFinderLaw_truth_10 : decode method_9_code 10 = .ok (.lconst 1, 1) := by decide +kernel
theorem zd_LassoFinderLaw_truth_11 : decode method_9_code 11 = .ok (.goto 4, 3) := by decide +kernel
theorem zd_LassoFinderLaw_truth_14 : decode method_9_code 14 = .ok (.lconst 0, 1) := by decide +kernel
theorem zd_LassoFinderLaw_truth_15 : decode method_9_code 15 = .ok (.lastore, 1) := by decide +kernel
theorem zd_LassoFinderLaw_truth_16 : decode method_9_code 16 = .ok (.goto 9, 3) := by decide +kernel
theorem zd_LassoFinderLaw_truth_19 : decode method_9_code 19 = .ok (.astore_n 3, 1) := by decide +kernel
theorem zd_LassoFinderLaw_truth_20 : decode method_9_code 20 = .ok (.iconst 1, 1) := by decide +kernel
theorem zd_LassoFinderLaw_truth_21 : decode method_9_code 21 = .ok (.ireturn, 1) := by decide +kernel
theorem zd_LassoFinderLaw_truth_22 : decode method_9_code 22 = .ok (.astore_n 3, 1) := by decide +kernel
theorem zd_LassoFinderLaw_truth_23 : decode method_9_code 23 = .ok (.iconst 2, 1) := by decide +kernel
theorem zd_LassoFinderLaw_truth_24 : decode method_9_code 24 = .ok (.ireturn, 1) := by decide +kernel
theorem zd_LassoFinderLaw_truth_25 : decode method_9_code 25 = .ok (.iconst 0, 1) := by decide +kernel
theorem zd_LassoFinderLaw_truth_26 : decode method_9_code 26 = .ok (.ireturn, 1) := by decide +kernel
theorem zd_LassoFinderLaw_verify_0 : decode method_5_code 0 = .ok (.aload_n 1, 1) := by decide +kernel
theorem zd_LassoFinderLaw_verify_1 : decode method_5_code 1 = .ok (.iconst 0, 1) := by decide +kernel
theorem zd_LassoFinderLaw_verify_2 : decode method_5_code 2 = .ok (.aload_n 0, 1) := by decide +kernel
theorem zd_LassoFinderLaw_verify_3 : decode method_5_code 3 = .ok (.invokevirtual 22, 3) := by decide +kernel
theorem zd_LassoFinderLaw_verify_6 : decode method_5_code 6 = .ok (.ifCond .eq 7, 3) := by decide +kernel
theorem zd_LassoFinderLaw_verify_9 : decode method_5_code 9 = .ok (.lconst 1, 1) := by decide +kernel
theorem zd_LassoFinderLaw_verify_10 : decode method_5_code 10 = .ok (.goto 4, 3) := by decide +kernel
theorem zd_LassoFinderLaw_verify_13 : decode method_5_code 13 = .ok (.lconst 0, 1) := by decide +kernel
theorem zd_LassoFinderLaw_verify_14 : decode method_5_code 14 = .ok (.lastore, 1) := by decide +kernel
theorem zd_LassoFinderLaw_verify_15 : decode method_5_code 15 = .ok (.goto 6, 3) := by decide +kernel
theorem zd_LassoFinderLaw_verify_18 : decode method_5_code 18 = .ok (.astore_n 2, 1) := by decide +kernel
theorem zd_LassoFinderLaw_verify_19 : decode method_5_code 19 = .ok (.iconst 1, 1) := by decide +kernel
theorem zd_LassoFinderLaw_verify_20 : decode method_5_code 20 = .ok (.ireturn, 1) := by decide +kernel
theorem zd_LassoFinderLaw_verify_21 : decode method_5_code 21 = .ok (.iconst 0, 1) := by decide +kernel
theorem zd_LassoFinderLaw_verify_22 : decode method_5_code 22 = .ok (.ireturn, 1) := by decide +kernel
theorem zd_LassoFinderLaw_walk_0 : decode method_7_code 0 = .ok (.aload_n 0, 1) := by decide +kernel
theorem zd_LassoFinderLaw_walk_1 : decode method_7_code 1 = .ok (.invokevirtual 32, 3) := by decide +kernel
theorem zd_LassoFinderLaw_walk_4 : decode method_7_code 4 = .ok (.goto 6, 3) := by decide +kernel
theorem zd_LassoFinderLaw_walk_7 : decode method_7_code 7 = .ok (.astore_n 1, 1) := by decide +kernel
theorem zd_LassoFinderLaw_walk_8 : decode method_7_code 8 = .ok (.iconst 1, 1) := by decide +kernel
theorem zd_LassoFinderLaw_walk_9 : decode method_7_code 9 = .ok (.ireturn, 1) := by decide +kernel
theorem zd_LassoFinderLaw_walk_10 : decode method_7_code 10 = .ok (.iconst 0, 1) := by decide +kernel
theorem zd_LassoFinderLaw_walk_11 : decode method_7_code 11 = .ok (.ireturn, 1) := by decide +kernel
def wp_L_model_S (I : Nat → Int32) (J : Nat → Int64) (B : Nat → Nat → Int32) (D : Nat → Nat → Int64) (Post : Int32 → (Nat → Int32) → (Nat → Int64) → (Nat → Nat → Int32) → (Nat → Nat → Int64) → Prop) : Prop :=
  wp_LassoFinder_model_S I J B D  (fun r1 I1 J1 B1 D1 => ∀ z2 : Int64, z2 = r1.toInt64 → vp_in 0 1 ∧ Post 0 I1 J1 B1 (va_up (zmix 3 D1 D) 3 (vp_updL ((zmix 3 D1 D) 3) (0 : Int32).toNatClampNeg z2))) (fun E I8 J8 B8 D8 => (E = "java/lang/IllegalArgumentException" → Post 1 I8 J8 B8 (zmix 3 D8 D)) ∧ (E = "java/lang/UnsupportedOperationException" → Post 2 I8 J8 B8 (zmix 3 D8 D)) ∧ (E = "java/lang/IllegalArgumentException" ∨ E = "java/lang/UnsupportedOperationException"))
set_option maxHeartbeats 8000000 in
set_option maxRecDepth 100000 in
theorem w_L_model_S (l : Launch) (hlt : l.stackTraces = false) (G : va_G) (K : Nat → ClassId) (ad : Nat → Nat) (I : Nat → Int32) (J : Nat → Int64) (B : Nat → Nat → Int32) (D : Nat → Nat → Int64) (Post : Int32 → (Nat → Int32) → (Nat → Int64) → (Nat → Nat → Int32) → (Nat → Nat → Int64) → Prop) (sz : Nat) (hok : wp_L_model_S I J B D  Post) : Met l zy_LassoFinderLaw_model (Cond.codeWith zy_LassoFinderLaw_model method_3_code 3 (some .int) [(0, 8, 11, 13), (0, 8, 14, 15)] :: zTB) { frames := 37, cells := 1, slots := 6, locals := 858 } (va_Pc [.ref (ad 0), .ref (ad 77)] (zPreY G K (wPS ad K I J B D) sz)) (va_Qi (fun (r : Int32) (u : zS) => Post r u.1 u.2.1 u.2.2.1 u.2.2.2) (fun u t => zPost G K (va_A (wPS ad K I J B D) sz) (wPS ad K u.1 u.2.1 u.2.2.1 u.2.2.2) t) (va_A (wPS ad K I J B D) sz)) 1 6 (va_A (wPS ad K I J B D) sz) := by
  refine zMetWY (y := zy_LassoFinderLaw_model) (av := [.ref (ad 0), .ref (ad 77)]) (maxL := 3) (cc := method_3_code) (ret := (some .int)) (hh := [(0, 8, 11, 13), (0, 8, 14, 15)]) (W0 := (wPS ad K I J B D)) (sz := sz) (G := G) (K := K) (wt := zTB) (mc := 1) (ms := 6) (Qf := fun A => va_Qi (fun (r : Int32) (u : zS) => Post r u.1 u.2.1 u.2.2.1 u.2.2.2) (fun u t => zPost G K A (wPS ad K u.1 u.2.1 u.2.2.1 u.2.2.2) t) A) (by decide) (Nat.le_of_ble_eq_true rfl) ?_
  intro p e s m below meth c ls A hx hb hr hml hts hown hlocks hin hA hK H locs hw hsz hl hT htab
  clear hsz
  have hown : s.vm.findClass "LassoFinderLaw" = some m.cls := hown
  have C : zCw p l [(0, 8, 11, 13), (0, 8, 14, 15)] s m ([.ref (ad 0), .ref (ad 77)] : List Value).toArray meth c A G K method_3_code (some .int) 3 "LassoFinderLaw" := ⟨hx, hb, hr, hml, hts, hown, hlocks, hA, hK, hT, htab, hlt⟩
  have hl : lv_has ls 3 [(0, .ref (ad 0)), (1, .ref (ad 77))] := hl
  have hw : zW G A s.heap (wPS ad K I J B D) H locs := hw
  unfold wp_L_model_S at hok
  refine lv_aload_n hx hb zd_LassoFinderLaw_model_0 rfl (lv_at hl 1 rfl) ?_
  refine lv_iconst (v := 0) hx hb zd_LassoFinderLaw_model_1 (by decide) ?_
  refine lv_aload_n hx hb zd_LassoFinderLaw_model_2 rfl (lv_at hl 0 rfl) ?_
  refine z_yV (q0 := 13) (wc := (wS ad K I J B D)) (wr := [(ad 77, zJ K 1 (D 3))]) (w1 := fun (u : zS) => wS ad K u.1 u.2.1 u.2.2.1 u.2.2.2) (As := []) (rest := [.int 0, .ref (ad 77)]) ⟨hx, hb, hml, hown, hts⟩ (w_LassoFinder_model_S l hlt G K ad I J B D  _ _ H.size hok) zf_LassoFinder_model zn_905 ⟨Nat.le_of_ble_eq_true rfl, Nat.le_of_ble_eq_true rfl⟩ hK hT hw hA (List.range' 1 77) [0] wPS_allX rfl wPS_ndX (by decide +kernel) wPS_dis wPS_g13 rfl rfl hl.1 rfl (Nat.le_of_ble_eq_true rfl) zd_LassoFinderLaw_model_3 ⟨Nat.le_of_ble_eq_true rfl, Nat.le_of_ble_eq_true rfl⟩ (fun v st9 t9 L9 h0 hq hL => ?_) (fun E ce q9 u H locs hu hw hce hcv hcl => ?_)
  · skip
    obtain ⟨⟨r1, u, hv9, hok, hB9⟩, hF9⟩ := hq
    cases hv9
    have hw := z_back (wr := [(ad 77, zJ K 1 (D 3))]) hw hA (List.range' 1 77) [0] wPS_allX rfl (by decide +kernel) wPS_dis h0 hL hB9 hF9
    obtain ⟨I1, J1, B1, D1⟩ := u
    dsimp only at hok
    generalize t9.heap = H at hw ⊢
    generalize locs ++ L9 = locs at hw ⊢
    have hw := wPS_mix hw
    have hw : zW G A s.heap (wPS ad K I1 J1 B1 (zmix 3 D1 D)) H locs := hw
    refine W.eq (g2 := F0 m 6 ls [.int r1, .int 0, .ref (ad 77)]) rfl ?_
    refine lv_i2l hx hb zd_LassoFinderLaw_model_6 rfl ?_
    refine lv_topl (fun z2 ez2 => ?_)
    have hok := hok z2 ez2
    refine va_last (f := ((zmix 3 D1 D) 3)) hx hb hK hw.1 hw.2.1 hw.2.2 0 1 wPS_a0 rfl hok.1 zd_LassoFinderLaw_model_7 (fun H locs w91 w92 w93 => ?_)
    have hok := hok.2
    have hw := wPS_t0 ⟨w91, w92, w93⟩
    refine lv_goto (tgt := 17) hx hb zd_LassoFinderLaw_model_8 (by decide) ?_
    refine lv_iconst (v := 0) hx hb zd_LassoFinderLaw_model_17 (by decide) ?_
    exact (z_iret (u := (I1, J1, B1, (va_up (zmix 3 D1 D) 3 (vp_updL ((zmix 3 D1 D) 3) (0 : Int32).toNatClampNeg z2)))) hx hb hr hlocks rfl hw (List.range 78) wPS_all wPS_nd hok (Nat.le_of_ble_eq_true rfl) (Nat.le_of_ble_eq_true rfl) zd_LassoFinderLaw_model_18)
  · obtain ⟨I8, J8, B8, D8⟩ := u
    dsimp only at hu
    have hw := wPS_mix hw
    obtain ⟨hu0, hu1, hE⟩ := hu
    rcases hE with rfl | rfl
    · have hok := hu0 rfl
      refine z_catchP hown hts [] ⟨0, 8, 11, 13⟩ [⟨0, 8, 14, 15⟩] htab (fun y9 hy9 => by cases hy9) (by decide) (by decide) zn_906 hT.1 (List.mem_filter.mpr ⟨zt_3 _ (List.mem_of_getElem? (i := 149) rfl), rfl⟩) hce hcv hcl ?_
      refine W.eq (g2 := F0 m 11 ls [.ref q9]) rfl ?_
      refine lv_astore_n hx hb zd_LassoFinderLaw_model_11 rfl hl (by decide) rfl (fun ls hl => ?_)
      have hl : lv_has ls 3 [(2, .ref q9), (0, .ref (ad 0)), (1, .ref (ad 77))] := hl
      refine lv_iconst (v := 1) hx hb zd_LassoFinderLaw_model_12 (by decide) ?_
      exact (z_iret (u := (I8, J8, B8, (zmix 3 D8 D))) hx hb hr hlocks rfl hw (List.range 78) wPS_all wPS_nd hok (Nat.le_of_ble_eq_true rfl) (Nat.le_of_ble_eq_true rfl) zd_LassoFinderLaw_model_13)
    · have hok := hu1 rfl
      refine z_catchP hown hts [⟨0, 8, 11, 13⟩] ⟨0, 8, 14, 15⟩ [] htab (List.forall_mem_singleton.mpr ⟨by decide, _, zn_906, hT.2.2.2.1⟩) (by decide) (by decide) zn_907 hT.1 (List.mem_filter.mpr ⟨zt_4 _ (List.mem_of_getElem? (i := 227) rfl), rfl⟩) hce hcv hcl ?_
      refine W.eq (g2 := F0 m 14 ls [.ref q9]) rfl ?_
      refine lv_astore_n hx hb zd_LassoFinderLaw_model_14 rfl hl (by decide) rfl (fun ls hl => ?_)
      have hl : lv_has ls 3 [(2, .ref q9), (0, .ref (ad 0)), (1, .ref (ad 77))] := hl
      refine lv_iconst (v := 2) hx hb zd_LassoFinderLaw_model_15 (by decide) ?_
      exact (z_iret (u := (I8, J8, B8, (zmix 3 D8 D))) hx hb hr hlocks rfl hw (List.range 78) wPS_all wPS_nd hok (Nat.le_of_ble_eq_true rfl) (Nat.le_of_ble_eq_true rfl) zd_LassoFinderLaw_model_16)
def wp_L_formula_S (I : Nat → Int32) (J : Nat → Int64) (B : Nat → Nat → Int32) (D : Nat → Nat → Int64) (Post : Int32 → (Nat → Int32) → (Nat → Int64) → (Nat → Nat → Int32) → (Nat → Nat → Int64) → Prop) : Prop :=
  wp_LassoFinder_formula_S I J B D  (fun r1 I1 J1 B1 D1 => ∀ z2 : Int64, z2 = r1.toInt64 → vp_in 0 1 ∧ Post 0 I1 J1 B1 (va_up (zmix 3 D1 D) 3 (vp_updL ((zmix 3 D1 D) 3) (0 : Int32).toNatClampNeg z2))) (fun E I8 J8 B8 D8 => (E = "java/lang/IllegalStateException" → Post 1 I8 J8 B8 (zmix 3 D8 D)) ∧ (E = "java/lang/IllegalArgumentException" → Post 2 I8 J8 B8 (zmix 3 D8 D)) ∧ (E = "java/lang/IllegalStateException" ∨ E = "java/lang/IllegalArgumentException"))
set_option maxHeartbeats 8000000 in
set_option maxRecDepth 100000 in
theorem w_L_formula_S (l : Launch) (hlt : l.stackTraces = false) (G : va_G) (K : Nat → ClassId) (ad : Nat → Nat) (I : Nat → Int32) (J : Nat → Int64) (B : Nat → Nat → Int32) (D : Nat → Nat → Int64) (Post : Int32 → (Nat → Int32) → (Nat → Int64) → (Nat → Nat → Int32) → (Nat → Nat → Int64) → Prop) (sz : Nat) (hok : wp_L_formula_S I J B D  Post) : Met l zy_LassoFinderLaw_formula (Cond.codeWith zy_LassoFinderLaw_formula method_4_code 3 (some .int) [(0, 8, 11, 20), (0, 8, 14, 13)] :: zTB) { frames := 113, cells := 1, slots := 6, locals := 2736 } (va_Pc [.ref (ad 0), .ref (ad 77)] (zPreY G K (wPS ad K I J B D) sz)) (va_Qi (fun (r : Int32) (u : zS) => Post r u.1 u.2.1 u.2.2.1 u.2.2.2) (fun u t => zPost G K (va_A (wPS ad K I J B D) sz) (wPS ad K u.1 u.2.1 u.2.2.1 u.2.2.2) t) (va_A (wPS ad K I J B D) sz)) 1 6 (va_A (wPS ad K I J B D) sz) := by
  refine zMetWY (y := zy_LassoFinderLaw_formula) (av := [.ref (ad 0), .ref (ad 77)]) (maxL := 3) (cc := method_4_code) (ret := (some .int)) (hh := [(0, 8, 11, 20), (0, 8, 14, 13)]) (W0 := (wPS ad K I J B D)) (sz := sz) (G := G) (K := K) (wt := zTB) (mc := 1) (ms := 6) (Qf := fun A => va_Qi (fun (r : Int32) (u : zS) => Post r u.1 u.2.1 u.2.2.1 u.2.2.2) (fun u t => zPost G K A (wPS ad K u.1 u.2.1 u.2.2.1 u.2.2.2) t) A) (by decide) (Nat.le_of_ble_eq_true rfl) ?_
  intro p e s m below meth c ls A hx hb hr hml hts hown hlocks hin hA hK H locs hw hsz hl hT htab
  clear hsz
  have hown : s.vm.findClass "LassoFinderLaw" = some m.cls := hown
  have C : zCw p l [(0, 8, 11, 20), (0, 8, 14, 13)] s m ([.ref (ad 0), .ref (ad 77)] : List Value).toArray meth c A G K method_4_code (some .int) 3 "LassoFinderLaw" := ⟨hx, hb, hr, hml, hts, hown, hlocks, hA, hK, hT, htab, hlt⟩
  have hl : lv_has ls 3 [(0, .ref (ad 0)), (1, .ref (ad 77))] := hl
  have hw : zW G A s.heap (wPS ad K I J B D) H locs := hw
  unfold wp_L_formula_S at hok
  refine lv_aload_n hx hb zd_LassoFinderLaw_formula_0 rfl (lv_at hl 1 rfl) ?_
  refine lv_iconst (v := 0) hx hb zd_LassoFinderLaw_formula_1 (by decide) ?_
  refine lv_aload_n hx hb zd_LassoFinderLaw_formula_2 rfl (lv_at hl 0 rfl) ?_
  refine z_yV (q0 := 13) (wc := (wS ad K I J B D)) (wr := [(ad 77, zJ K 1 (D 3))]) (w1 := fun (u : zS) => wS ad K u.1 u.2.1 u.2.2.1 u.2.2.2) (As := []) (rest := [.int 0, .ref (ad 77)]) ⟨hx, hb, hml, hown, hts⟩ (w_LassoFinder_formula_S l hlt G K ad I J B D  _ _ H.size hok) zf_LassoFinder_formula zn_908 ⟨Nat.le_of_ble_eq_true rfl, Nat.le_of_ble_eq_true rfl⟩ hK hT hw hA (List.range' 1 77) [0] wPS_allX rfl wPS_ndX (by decide +kernel) wPS_dis wPS_g13 rfl rfl hl.1 rfl (Nat.le_of_ble_eq_true rfl) zd_LassoFinderLaw_formula_3 ⟨Nat.le_of_ble_eq_true rfl, Nat.le_of_ble_eq_true rfl⟩ (fun v st9 t9 L9 h0 hq hL => ?_) (fun E ce q9 u H locs hu hw hce hcv hcl => ?_)
  · skip
    obtain ⟨⟨r1, u, hv9, hok, hB9⟩, hF9⟩ := hq
    cases hv9
    have hw := z_back (wr := [(ad 77, zJ K 1 (D 3))]) hw hA (List.range' 1 77) [0] wPS_allX rfl (by decide +kernel) wPS_dis h0 hL hB9 hF9
    obtain ⟨I1, J1, B1, D1⟩ := u
    dsimp only at hok
    generalize t9.heap = H at hw ⊢
    generalize locs ++ L9 = locs at hw ⊢
    have hw := wPS_mix hw
    have hw : zW G A s.heap (wPS ad K I1 J1 B1 (zmix 3 D1 D)) H locs := hw
    refine W.eq (g2 := F0 m 6 ls [.int r1, .int 0, .ref (ad 77)]) rfl ?_
    refine lv_i2l hx hb zd_LassoFinderLaw_formula_6 rfl ?_
    refine lv_topl (fun z2 ez2 => ?_)
    have hok := hok z2 ez2
    refine va_last (f := ((zmix 3 D1 D) 3)) hx hb hK hw.1 hw.2.1 hw.2.2 0 1 wPS_a0 rfl hok.1 zd_LassoFinderLaw_formula_7 (fun H locs w91 w92 w93 => ?_)
    have hok := hok.2
    have hw := wPS_t0 ⟨w91, w92, w93⟩
    refine lv_goto (tgt := 17) hx hb zd_LassoFinderLaw_formula_8 (by decide) ?_
    refine lv_iconst (v := 0) hx hb zd_LassoFinderLaw_formula_17 (by decide) ?_
    exact (z_iret (u := (I1, J1, B1, (va_up (zmix 3 D1 D) 3 (vp_updL ((zmix 3 D1 D) 3) (0 : Int32).toNatClampNeg z2)))) hx hb hr hlocks rfl hw (List.range 78) wPS_all wPS_nd hok (Nat.le_of_ble_eq_true rfl) (Nat.le_of_ble_eq_true rfl) zd_LassoFinderLaw_formula_18)
  · obtain ⟨I8, J8, B8, D8⟩ := u
    dsimp only at hu
    have hw := wPS_mix hw
    obtain ⟨hu0, hu1, hE⟩ := hu
    rcases hE with rfl | rfl
    · have hok := hu0 rfl
      refine z_catchP hown hts [] ⟨0, 8, 11, 20⟩ [⟨0, 8, 14, 13⟩] htab (fun y9 hy9 => by cases hy9) (by decide) (by decide) zn_909 hT.1 (List.mem_filter.mpr ⟨zt_5 _ (List.mem_of_getElem? (i := 10) rfl), rfl⟩) hce hcv hcl ?_
      refine W.eq (g2 := F0 m 11 ls [.ref q9]) rfl ?_
      refine lv_astore_n hx hb zd_LassoFinderLaw_formula_11 rfl hl (by decide) rfl (fun ls hl => ?_)
      have hl : lv_has ls 3 [(2, .ref q9), (0, .ref (ad 0)), (1, .ref (ad 77))] := hl
      refine lv_iconst (v := 1) hx hb zd_LassoFinderLaw_formula_12 (by decide) ?_
      exact (z_iret (u := (I8, J8, B8, (zmix 3 D8 D))) hx hb hr hlocks rfl hw (List.range 78) wPS_all wPS_nd hok (Nat.le_of_ble_eq_true rfl) (Nat.le_of_ble_eq_true rfl) zd_LassoFinderLaw_formula_13)
    · have hok := hu1 rfl
      refine z_catchP hown hts [⟨0, 8, 11, 20⟩] ⟨0, 8, 14, 13⟩ [] htab (List.forall_mem_singleton.mpr ⟨by decide, _, zn_909, hT.2.2.2.2.1⟩) (by decide) (by decide) zn_906 hT.1 (List.mem_filter.mpr ⟨zt_3 _ (List.mem_of_getElem? (i := 149) rfl), rfl⟩) hce hcv hcl ?_
      refine W.eq (g2 := F0 m 14 ls [.ref q9]) rfl ?_
      refine lv_astore_n hx hb zd_LassoFinderLaw_formula_14 rfl hl (by decide) rfl (fun ls hl => ?_)
      have hl : lv_has ls 3 [(2, .ref q9), (0, .ref (ad 0)), (1, .ref (ad 77))] := hl
      refine lv_iconst (v := 2) hx hb zd_LassoFinderLaw_formula_15 (by decide) ?_
      exact (z_iret (u := (I8, J8, B8, (zmix 3 D8 D))) hx hb hr hlocks rfl hw (List.range 78) wPS_all wPS_nd hok (Nat.le_of_ble_eq_true rfl) (Nat.le_of_ble_eq_true rfl) zd_LassoFinderLaw_formula_16)
def wc_L_verify_S_14 (Post : Int32 → (Nat → Int32) → (Nat → Int64) → (Nat → Nat → Int32) → (Nat → Nat → Int64) → Prop) (y0 : Int64) (y1 : Int32) (I : Nat → Int32) (J : Nat → Int64) (B : Nat → Nat → Int32) (D : Nat → Nat → Int64) : Prop :=
  vp_in y1 1 ∧ Post 0 I J B (va_up D 3 (vp_updL (D 3) y1.toNatClampNeg y0))
def wp_L_verify_S (I : Nat → Int32) (J : Nat → Int64) (B : Nat → Nat → Int32) (D : Nat → Nat → Int64) (Post : Int32 → (Nat → Int32) → (Nat → Int64) → (Nat → Nat → Int32) → (Nat → Nat → Int64) → Prop) : Prop :=
  wp_LassoFinder_verify_S I J B D  (fun r1 I1 J1 B1 D1 => ((r1 = 0 → wc_L_verify_S_14  Post 0 0 I1 J1 B1 (zmix 3 D1 D)) ∧ (¬ r1 = 0 → wc_L_verify_S_14  Post 1 0 I1 J1 B1 (zmix 3 D1 D)))) (fun E I8 J8 B8 D8 => (E = "java/lang/IllegalStateException" → Post 1 I8 J8 B8 (zmix 3 D8 D)) ∧ (E = "java/lang/IllegalStateException"))
set_option maxHeartbeats 8000000 in
set_option maxRecDepth 100000 in
theorem wJ_L_verify_S_14 {p : Program} {l : Launch} {e : Env} {s : State} {m : MethodId} {below : List Frame} {meth : Method} {c : Code} {A : Nat → Prop} (G : va_G) (K : Nat → ClassId) (ad : Nat → Nat) (Post : Int32 → (Nat → Int32) → (Nat → Int64) → (Nat → Nat → Int32) → (Nat → Nat → Int64) → Prop) (C : zCw p l [(0, 15, 18, 20)] s m ([.ref (ad 0), .ref (ad 77)] : List Value).toArray meth c A G K method_5_code (some .int) 3 "LassoFinderLaw") : ∀ (y0 : Int64) (y1 : Int32) (I : Nat → Int32) (J : Nat → Int64) (B : Nat → Nat → Int32) (D : Nat → Nat → Int64) (ls : Array Slot) (H : Heap) (locs : List Loc), wc_L_verify_S_14  Post y0 y1 I J B D → lv_has ls 3 [] → zW G A s.heap (wPS ad K I J B D) H locs → W p l e { frames := 8, cells := 1, slots := 6, locals := 178 } s m ([.ref (ad 0), .ref (ad 77)] : List Value).toArray below meth c H locs 0 0 (MQ below (va_Qi (fun (r : Int32) (u : zS) => Post r u.1 u.2.1 u.2.2.1 u.2.2.2) (fun u t => zPost G K A (wPS ad K u.1 u.2.1 u.2.2.1 u.2.2.2) t) A) ([.ref (ad 0), .ref (ad 77)] : List Value).toArray s 1 6 A) (F0 m 14 ls [.long y0, .int y1, .ref (ad 77)]) := by
  obtain ⟨hx, hb, hr, hml, hts, hown, hlocks, hA, hK, hT, htab, hlt⟩ := id C
  intro y0 y1 I J B D ls H locs hok hl hw
  unfold wc_L_verify_S_14 at hok
  refine va_last (f := (D 3)) hx hb hK hw.1 hw.2.1 hw.2.2 0 1 wPS_a0 rfl hok.1 zd_LassoFinderLaw_verify_14 (fun H locs w91 w92 w93 => ?_)
  have hok := hok.2
  have hw := wPS_t0 ⟨w91, w92, w93⟩
  refine lv_goto (tgt := 21) hx hb zd_LassoFinderLaw_verify_15 (by decide) ?_
  refine lv_iconst (v := 0) hx hb zd_LassoFinderLaw_verify_21 (by decide) ?_
  exact (z_iret (u := (I, J, B, (va_up D 3 (vp_updL (D 3) y1.toNatClampNeg y0)))) hx hb hr hlocks rfl hw (List.range 78) wPS_all wPS_nd hok (Nat.le_of_ble_eq_true rfl) (Nat.le_of_ble_eq_true rfl) zd_LassoFinderLaw_verify_22)
set_option maxHeartbeats 8000000 in
set_option maxRecDepth 100000 in
theorem w_L_verify_S (l : Launch) (hlt : l.stackTraces = false) (G : va_G) (K : Nat → ClassId) (ad : Nat → Nat) (I : Nat → Int32) (J : Nat → Int64) (B : Nat → Nat → Int32) (D : Nat → Nat → Int64) (Post : Int32 → (Nat → Int32) → (Nat → Int64) → (Nat → Nat → Int32) → (Nat → Nat → Int64) → Prop) (sz : Nat) (hok : wp_L_verify_S I J B D  Post) : Met l zy_LassoFinderLaw_verify (Cond.codeWith zy_LassoFinderLaw_verify method_5_code 3 (some .int) [(0, 15, 18, 20)] :: zTB) { frames := 8, cells := 1, slots := 6, locals := 178 } (va_Pc [.ref (ad 0), .ref (ad 77)] (zPreY G K (wPS ad K I J B D) sz)) (va_Qi (fun (r : Int32) (u : zS) => Post r u.1 u.2.1 u.2.2.1 u.2.2.2) (fun u t => zPost G K (va_A (wPS ad K I J B D) sz) (wPS ad K u.1 u.2.1 u.2.2.1 u.2.2.2) t) (va_A (wPS ad K I J B D) sz)) 1 6 (va_A (wPS ad K I J B D) sz) := by
  refine zMetWY (y := zy_LassoFinderLaw_verify) (av := [.ref (ad 0), .ref (ad 77)]) (maxL := 3) (cc := method_5_code) (ret := (some .int)) (hh := [(0, 15, 18, 20)]) (W0 := (wPS ad K I J B D)) (sz := sz) (G := G) (K := K) (wt := zTB) (mc := 1) (ms := 6) (Qf := fun A => va_Qi (fun (r : Int32) (u : zS) => Post r u.1 u.2.1 u.2.2.1 u.2.2.2) (fun u t => zPost G K A (wPS ad K u.1 u.2.1 u.2.2.1 u.2.2.2) t) A) (by decide) (Nat.le_of_ble_eq_true rfl) ?_
  intro p e s m below meth c ls A hx hb hr hml hts hown hlocks hin hA hK H locs hw hsz hl hT htab
  clear hsz
  have hown : s.vm.findClass "LassoFinderLaw" = some m.cls := hown
  have C : zCw p l [(0, 15, 18, 20)] s m ([.ref (ad 0), .ref (ad 77)] : List Value).toArray meth c A G K method_5_code (some .int) 3 "LassoFinderLaw" := ⟨hx, hb, hr, hml, hts, hown, hlocks, hA, hK, hT, htab, hlt⟩
  have hl : lv_has ls 3 [(0, .ref (ad 0)), (1, .ref (ad 77))] := hl
  have hw : zW G A s.heap (wPS ad K I J B D) H locs := hw
  unfold wp_L_verify_S at hok
  refine lv_aload_n hx hb zd_LassoFinderLaw_verify_0 rfl (lv_at hl 1 rfl) ?_
  refine lv_iconst (v := 0) hx hb zd_LassoFinderLaw_verify_1 (by decide) ?_
  refine lv_aload_n hx hb zd_LassoFinderLaw_verify_2 rfl (lv_at hl 0 rfl) ?_
  refine z_yV (q0 := 13) (wc := (wS ad K I J B D)) (wr := [(ad 77, zJ K 1 (D 3))]) (w1 := fun (u : zS) => wS ad K u.1 u.2.1 u.2.2.1 u.2.2.2) (As := []) (rest := [.int 0, .ref (ad 77)]) ⟨hx, hb, hml, hown, hts⟩ (w_LassoFinder_verify_S l hlt G K ad I J B D  _ _ H.size hok) zf_LassoFinder_verify zn_910 ⟨Nat.le_of_ble_eq_true rfl, Nat.le_of_ble_eq_true rfl⟩ hK hT hw hA (List.range' 1 77) [0] wPS_allX rfl wPS_ndX (by decide +kernel) wPS_dis wPS_g13 rfl rfl hl.1 rfl (Nat.le_of_ble_eq_true rfl) zd_LassoFinderLaw_verify_3 ⟨Nat.le_of_ble_eq_true rfl, Nat.le_of_ble_eq_true rfl⟩ (fun v st9 t9 L9 h0 hq hL => ?_) (fun E ce q9 u H locs hu hw hce hcv hcl => ?_)
  · skip
    obtain ⟨⟨r1, u, hv9, hok, hB9⟩, hF9⟩ := hq
    cases hv9
    have hw := z_back (wr := [(ad 77, zJ K 1 (D 3))]) hw hA (List.range' 1 77) [0] wPS_allX rfl (by decide +kernel) wPS_dis h0 hL hB9 hF9
    obtain ⟨I1, J1, B1, D1⟩ := u
    dsimp only at hok
    generalize t9.heap = H at hw ⊢
    generalize locs ++ L9 = locs at hw ⊢
    have hw := wPS_mix hw
    have hw : zW G A s.heap (wPS ad K I1 J1 B1 (zmix 3 D1 D)) H locs := hw
    refine W.eq (g2 := F0 m 6 ls [.int r1, .int 0, .ref (ad 77)]) rfl ?_
    refine lv_if_eq (tgt := 13) hx hb zd_LassoFinderLaw_verify_6 (by decide) (fun hc2 => ?_) (fun hc2 => ?_)
    · have hok := hok.1 hc2
      refine lv_lconst (v := 0) hx hb zd_LassoFinderLaw_verify_13 (by decide) ?_
      exact wJ_L_verify_S_14 G K ad  Post C 0 0 I1 J1 B1 (zmix 3 D1 D) ls H locs hok (lv_sub hl [] rfl) hw
    · have hok := hok.2 hc2
      refine lv_lconst (v := 1) hx hb zd_LassoFinderLaw_verify_9 (by decide) ?_
      refine lv_goto (tgt := 14) hx hb zd_LassoFinderLaw_verify_10 (by decide) ?_
      exact wJ_L_verify_S_14 G K ad  Post C 1 0 I1 J1 B1 (zmix 3 D1 D) ls H locs hok (lv_sub hl [] rfl) hw
  · obtain ⟨I8, J8, B8, D8⟩ := u
    dsimp only at hu
    have hw := wPS_mix hw
    obtain ⟨hu0, hE⟩ := hu
    rcases hE with rfl
    · have hok := hu0 rfl
      refine z_catchP hown hts [] ⟨0, 15, 18, 20⟩ [] htab (fun y9 hy9 => by cases hy9) (by decide) (by decide) zn_909 hT.1 (List.mem_filter.mpr ⟨zt_5 _ (List.mem_of_getElem? (i := 10) rfl), rfl⟩) hce hcv hcl ?_
      refine W.eq (g2 := F0 m 18 ls [.ref q9]) rfl ?_
      refine lv_astore_n hx hb zd_LassoFinderLaw_verify_18 rfl hl (by decide) rfl (fun ls hl => ?_)
      have hl : lv_has ls 3 [(2, .ref q9), (0, .ref (ad 0)), (1, .ref (ad 77))] := hl
      refine lv_iconst (v := 1) hx hb zd_LassoFinderLaw_verify_19 (by decide) ?_
      exact (z_iret (u := (I8, J8, B8, (zmix 3 D8 D))) hx hb hr hlocks rfl hw (List.range 78) wPS_all wPS_nd hok (Nat.le_of_ble_eq_true rfl) (Nat.le_of_ble_eq_true rfl) zd_LassoFinderLaw_verify_20)
def wp_L_lasso_S (I : Nat → Int32) (J : Nat → Int64) (B : Nat → Nat → Int32) (D : Nat → Nat → Int64) (a1 : Int32) (a2 : Int32) (Post : Int32 → (Nat → Int32) → (Nat → Int64) → (Nat → Nat → Int32) → (Nat → Nat → Int64) → Prop) : Prop :=
  wp_LassoFinder_lasso_S I J B D a1 a2 (fun r1 I1 J1 B1 D1 => ∀ z2 : Int64, z2 = r1.toInt64 → vp_in 0 1 ∧ Post 0 I1 J1 B1 (va_up (zmix 3 D1 D) 3 (vp_updL ((zmix 3 D1 D) 3) (0 : Int32).toNatClampNeg z2))) (fun E I8 J8 B8 D8 => (E = "java/lang/IndexOutOfBoundsException" → Post 1 I8 J8 B8 (zmix 3 D8 D)) ∧ (E = "java/lang/IndexOutOfBoundsException"))
set_option maxHeartbeats 8000000 in
set_option maxRecDepth 100000 in
theorem w_L_lasso_S (l : Launch) (hlt : l.stackTraces = false) (G : va_G) (K : Nat → ClassId) (ad : Nat → Nat) (I : Nat → Int32) (J : Nat → Int64) (B : Nat → Nat → Int32) (D : Nat → Nat → Int64) (a1 : Int32) (a2 : Int32) (Post : Int32 → (Nat → Int32) → (Nat → Int64) → (Nat → Nat → Int32) → (Nat → Nat → Int64) → Prop) (sz : Nat) (hok : wp_L_lasso_S I J B D a1 a2 Post) : Met l zy_LassoFinderLaw_lasso (Cond.codeWith zy_LassoFinderLaw_lasso method_6_code 5 (some .int) [(0, 10, 13, 30)] :: zTB) { frames := 7, cells := 1, slots := 6, locals := 104 } (va_Pc [.ref (ad 0), .int a1, .int a2, .ref (ad 77)] (zPreY G K (wPS ad K I J B D) sz)) (va_Qi (fun (r : Int32) (u : zS) => Post r u.1 u.2.1 u.2.2.1 u.2.2.2) (fun u t => zPost G K (va_A (wPS ad K I J B D) sz) (wPS ad K u.1 u.2.1 u.2.2.1 u.2.2.2) t) (va_A (wPS ad K I J B D) sz)) 1 6 (va_A (wPS ad K I J B D) sz) := by
  refine zMetWY (y := zy_LassoFinderLaw_lasso) (av := [.ref (ad 0), .int a1, .int a2, .ref (ad 77)]) (maxL := 5) (cc := method_6_code) (ret := (some .int)) (hh := [(0, 10, 13, 30)]) (W0 := (wPS ad K I J B D)) (sz := sz) (G := G) (K := K) (wt := zTB) (mc := 1) (ms := 6) (Qf := fun A => va_Qi (fun (r : Int32) (u : zS) => Post r u.1 u.2.1 u.2.2.1 u.2.2.2) (fun u t => zPost G K A (wPS ad K u.1 u.2.1 u.2.2.1 u.2.2.2) t) A) (by decide) (Nat.le_of_ble_eq_true rfl) ?_
  intro p e s m below meth c ls A hx hb hr hml hts hown hlocks hin hA hK H locs hw hsz hl hT htab
  clear hsz
  have hown : s.vm.findClass "LassoFinderLaw" = some m.cls := hown
  have C : zCw p l [(0, 10, 13, 30)] s m ([.ref (ad 0), .int a1, .int a2, .ref (ad 77)] : List Value).toArray meth c A G K method_6_code (some .int) 5 "LassoFinderLaw" := ⟨hx, hb, hr, hml, hts, hown, hlocks, hA, hK, hT, htab, hlt⟩
  have hl : lv_has ls 5 [(0, .ref (ad 0)), (1, .int a1), (2, .int a2), (3, .ref (ad 77))] := hl
  have hw : zW G A s.heap (wPS ad K I J B D) H locs := hw
  unfold wp_L_lasso_S at hok
  refine lv_aload_n hx hb zd_LassoFinderLaw_lasso_0 rfl (lv_at hl 3 rfl) ?_
  refine lv_iconst (v := 0) hx hb zd_LassoFinderLaw_lasso_1 (by decide) ?_
  refine lv_aload_n hx hb zd_LassoFinderLaw_lasso_2 rfl (lv_at hl 0 rfl) ?_
  refine lv_iload_n hx hb zd_LassoFinderLaw_lasso_3 rfl (lv_at hl 1 rfl) ?_
  refine lv_iload_n hx hb zd_LassoFinderLaw_lasso_4 rfl (lv_at hl 2 rfl) ?_
  refine z_yV (q0 := 13) (wc := (wS ad K I J B D)) (wr := [(ad 77, zJ K 1 (D 3))]) (w1 := fun (u : zS) => wS ad K u.1 u.2.1 u.2.2.1 u.2.2.2) (As := [.int a1, .int a2]) (rest := [.int 0, .ref (ad 77)]) ⟨hx, hb, hml, hown, hts⟩ (w_LassoFinder_lasso_S l hlt G K ad I J B D a1 a2 _ _ H.size hok) zf_LassoFinder_lasso zn_911 ⟨Nat.le_of_ble_eq_true rfl, Nat.le_of_ble_eq_true rfl⟩ hK hT hw hA (List.range' 1 77) [0] wPS_allX rfl wPS_ndX (by decide +kernel) wPS_dis wPS_g13 rfl rfl hl.1 rfl (Nat.le_of_ble_eq_true rfl) zd_LassoFinderLaw_lasso_5 ⟨Nat.le_of_ble_eq_true rfl, Nat.le_of_ble_eq_true rfl⟩ (fun v st9 t9 L9 h0 hq hL => ?_) (fun E ce q9 u H locs hu hw hce hcv hcl => ?_)
  · skip
    obtain ⟨⟨r1, u, hv9, hok, hB9⟩, hF9⟩ := hq
    cases hv9
    have hw := z_back (wr := [(ad 77, zJ K 1 (D 3))]) hw hA (List.range' 1 77) [0] wPS_allX rfl (by decide +kernel) wPS_dis h0 hL hB9 hF9
    obtain ⟨I1, J1, B1, D1⟩ := u
    dsimp only at hok
    generalize t9.heap = H at hw ⊢
    generalize locs ++ L9 = locs at hw ⊢
    have hw := wPS_mix hw
    have hw : zW G A s.heap (wPS ad K I1 J1 B1 (zmix 3 D1 D)) H locs := hw
    refine W.eq (g2 := F0 m 8 ls [.int r1, .int 0, .ref (ad 77)]) rfl ?_
    refine lv_i2l hx hb zd_LassoFinderLaw_lasso_8 rfl ?_
    refine lv_topl (fun z2 ez2 => ?_)
    have hok := hok z2 ez2
    refine va_last (f := ((zmix 3 D1 D) 3)) hx hb hK hw.1 hw.2.1 hw.2.2 0 1 wPS_a0 rfl hok.1 zd_LassoFinderLaw_lasso_9 (fun H locs w91 w92 w93 => ?_)
    have hok := hok.2
    have hw := wPS_t0 ⟨w91, w92, w93⟩
    refine lv_goto (tgt := 17) hx hb zd_LassoFinderLaw_lasso_10 (by decide) ?_
    refine lv_iconst (v := 0) hx hb zd_LassoFinderLaw_lasso_17 (by decide) ?_
    exact (z_iret (u := (I1, J1, B1, (va_up (zmix 3 D1 D) 3 (vp_updL ((zmix 3 D1 D) 3) (0 : Int32).toNatClampNeg z2)))) hx hb hr hlocks rfl hw (List.range 78) wPS_all wPS_nd hok (Nat.le_of_ble_eq_true rfl) (Nat.le_of_ble_eq_true rfl) zd_LassoFinderLaw_lasso_18)
  · obtain ⟨I8, J8, B8, D8⟩ := u
    dsimp only at hu
    have hw := wPS_mix hw
    obtain ⟨hu0, hE⟩ := hu
    rcases hE with rfl
    · have hok := hu0 rfl
      refine z_catchP hown hts [] ⟨0, 10, 13, 30⟩ [] htab (fun y9 hy9 => by cases hy9) (by decide) (by decide) zn_912 hT.1 (List.mem_filter.mpr ⟨zt_6 _ (List.mem_of_getElem? (i := 40) rfl), rfl⟩) hce hcv hcl ?_
      refine W.eq (g2 := F0 m 13 ls [.ref q9]) rfl ?_
      refine lv_astore hx hb zd_LassoFinderLaw_lasso_13 hl (by decide) rfl (fun ls hl => ?_)
      have hl : lv_has ls 5 [(4, .ref q9), (0, .ref (ad 0)), (1, .int a1), (2, .int a2), (3, .ref (ad 77))] := hl
      refine lv_iconst (v := 1) hx hb zd_LassoFinderLaw_lasso_15 (by decide) ?_
      exact (z_iret (u := (I8, J8, B8, (zmix 3 D8 D))) hx hb hr hlocks rfl hw (List.range 78) wPS_all wPS_nd hok (Nat.le_of_ble_eq_true rfl) (Nat.le_of_ble_eq_true rfl) zd_LassoFinderLaw_lasso_16)
def wp_L_walk_S (I : Nat → Int32) (J : Nat → Int64) (B : Nat → Nat → Int32) (D : Nat → Nat → Int64) (Post : Int32 → (Nat → Int32) → (Nat → Int64) → (Nat → Nat → Int32) → (Nat → Nat → Int64) → Prop) : Prop :=
  wp_LassoFinder_walk_S I J B D  (fun I1 J1 B1 D1 => Post 0 I1 J1 B1 (zmix 3 D1 D)) (fun E I8 J8 B8 D8 => (E = "java/lang/IllegalStateException" → Post 1 I8 J8 B8 (zmix 3 D8 D)) ∧ (E = "java/lang/IllegalStateException"))
set_option maxHeartbeats 8000000 in
set_option maxRecDepth 100000 in
theorem w_L_walk_S (l : Launch) (hlt : l.stackTraces = false) (G : va_G) (K : Nat → ClassId) (ad : Nat → Nat) (I : Nat → Int32) (J : Nat → Int64) (B : Nat → Nat → Int32) (D : Nat → Nat → Int64) (Post : Int32 → (Nat → Int32) → (Nat → Int64) → (Nat → Nat → Int32) → (Nat → Nat → Int64) → Prop) (sz : Nat) (hok : wp_L_walk_S I J B D  Post) : Met l zy_LassoFinderLaw_walk (Cond.codeWith zy_LassoFinderLaw_walk method_7_code 2 (some .int) [(0, 4, 7, 20)] :: zTB) { frames := 7, cells := 1, slots := 6, locals := 101 } (va_Pc [.ref (ad 0)] (zPreY G K (wPS ad K I J B D) sz)) (va_Qi (fun (r : Int32) (u : zS) => Post r u.1 u.2.1 u.2.2.1 u.2.2.2) (fun u t => zPost G K (va_A (wPS ad K I J B D) sz) (wPS ad K u.1 u.2.1 u.2.2.1 u.2.2.2) t) (va_A (wPS ad K I J B D) sz)) 1 6 (va_A (wPS ad K I J B D) sz) := by
  refine zMetWY (y := zy_LassoFinderLaw_walk) (av := [.ref (ad 0)]) (maxL := 2) (cc := method_7_code) (ret := (some .int)) (hh := [(0, 4, 7, 20)]) (W0 := (wPS ad K I J B D)) (sz := sz) (G := G) (K := K) (wt := zTB) (mc := 1) (ms := 6) (Qf := fun A => va_Qi (fun (r : Int32) (u : zS) => Post r u.1 u.2.1 u.2.2.1 u.2.2.2) (fun u t => zPost G K A (wPS ad K u.1 u.2.1 u.2.2.1 u.2.2.2) t) A) (by decide) (Nat.le_of_ble_eq_true rfl) ?_
  intro p e s m below meth c ls A hx hb hr hml hts hown hlocks hin hA hK H locs hw hsz hl hT htab
  clear hsz
  have hown : s.vm.findClass "LassoFinderLaw" = some m.cls := hown
  have C : zCw p l [(0, 4, 7, 20)] s m ([.ref (ad 0)] : List Value).toArray meth c A G K method_7_code (some .int) 2 "LassoFinderLaw" := ⟨hx, hb, hr, hml, hts, hown, hlocks, hA, hK, hT, htab, hlt⟩
  have hl : lv_has ls 2 [(0, .ref (ad 0))] := hl
  have hw : zW G A s.heap (wPS ad K I J B D) H locs := hw
  unfold wp_L_walk_S at hok
  refine lv_aload_n hx hb zd_LassoFinderLaw_walk_0 rfl (lv_at hl 0 rfl) ?_
  refine z_yV (q0 := 13) (wc := (wS ad K I J B D)) (wr := [(ad 77, zJ K 1 (D 3))]) (w1 := fun (u : zS) => wS ad K u.1 u.2.1 u.2.2.1 u.2.2.2) (As := []) (rest := []) ⟨hx, hb, hml, hown, hts⟩ (w_LassoFinder_walk_S l hlt G K ad I J B D  _ _ H.size hok) zf_LassoFinder_walk zn_913 ⟨Nat.le_of_ble_eq_true rfl, Nat.le_of_ble_eq_true rfl⟩ hK hT hw hA (List.range' 1 77) [0] wPS_allX rfl wPS_ndX (by decide +kernel) wPS_dis wPS_g13 rfl rfl hl.1 rfl (Nat.le_of_ble_eq_true rfl) zd_LassoFinderLaw_walk_1 ⟨Nat.le_of_ble_eq_true rfl, Nat.le_of_ble_eq_true rfl⟩ (fun v st9 t9 L9 h0 hq hL => ?_) (fun E ce q9 u H locs hu hw hce hcv hcl => ?_)
  · skip
    obtain ⟨⟨u, hv9, hok, hB9⟩, hF9⟩ := hq
    cases hv9
    have hw := z_back (wr := [(ad 77, zJ K 1 (D 3))]) hw hA (List.range' 1 77) [0] wPS_allX rfl (by decide +kernel) wPS_dis h0 hL hB9 hF9
    obtain ⟨I1, J1, B1, D1⟩ := u
    dsimp only at hok
    generalize t9.heap = H at hw ⊢
    generalize locs ++ L9 = locs at hw ⊢
    have hw := wPS_mix hw
    have hw : zW G A s.heap (wPS ad K I1 J1 B1 (zmix 3 D1 D)) H locs := hw
    refine W.eq (g2 := F0 m 4 ls []) rfl ?_
    refine lv_goto (tgt := 10) hx hb zd_LassoFinderLaw_walk_4 (by decide) ?_
    refine lv_iconst (v := 0) hx hb zd_LassoFinderLaw_walk_10 (by decide) ?_
    exact (z_iret (u := (I1, J1, B1, (zmix 3 D1 D))) hx hb hr hlocks rfl hw (List.range 78) wPS_all wPS_nd hok (Nat.le_of_ble_eq_true rfl) (Nat.le_of_ble_eq_true rfl) zd_LassoFinderLaw_walk_11)
  · obtain ⟨I8, J8, B8, D8⟩ := u
    dsimp only at hu
    have hw := wPS_mix hw
    obtain ⟨hu0, hE⟩ := hu
    rcases hE with rfl
    · have hok := hu0 rfl
      refine z_catchP hown hts [] ⟨0, 4, 7, 20⟩ [] htab (fun y9 hy9 => by cases hy9) (by decide) (by decide) zn_909 hT.1 (List.mem_filter.mpr ⟨zt_5 _ (List.mem_of_getElem? (i := 10) rfl), rfl⟩) hce hcv hcl ?_
      refine W.eq (g2 := F0 m 7 ls [.ref q9]) rfl ?_
      refine lv_astore_n hx hb zd_LassoFinderLaw_walk_7 rfl hl (by decide) rfl (fun ls hl => ?_)
      have hl : lv_has ls 2 [(1, .ref q9), (0, .ref (ad 0))] := hl
      refine lv_iconst (v := 1) hx hb zd_LassoFinderLaw_walk_8 (by decide) ?_
      exact (z_iret (u := (I8, J8, B8, (zmix 3 D8 D))) hx hb hr hlocks rfl hw (List.range 78) wPS_all wPS_nd hok (Nat.le_of_ble_eq_true rfl) (Nat.le_of_ble_eq_true rfl) zd_LassoFinderLaw_walk_9)
def wp_L_go_S (I : Nat → Int32) (J : Nat → Int64) (B : Nat → Nat → Int32) (D : Nat → Nat → Int64) (a1 : Int32) (Post : Int32 → (Nat → Int32) → (Nat → Int64) → (Nat → Nat → Int32) → (Nat → Nat → Int64) → Prop) : Prop :=
  wp_LassoFinder_go_S I J B D a1 (fun r1 I1 J1 B1 D1 => ∀ z2 : Int64, z2 = r1.toInt64 → vp_in 0 1 ∧ Post 0 I1 J1 B1 (va_up (zmix 3 D1 D) 3 (vp_updL ((zmix 3 D1 D) 3) (0 : Int32).toNatClampNeg z2))) (fun E I8 J8 B8 D8 => (E = "java/lang/IllegalStateException" → Post 1 I8 J8 B8 (zmix 3 D8 D)) ∧ (E = "java/lang/IndexOutOfBoundsException" → Post 2 I8 J8 B8 (zmix 3 D8 D)) ∧ (E = "java/lang/UnsupportedOperationException" → Post 3 I8 J8 B8 (zmix 3 D8 D)) ∧ (E = "java/lang/IllegalStateException" ∨ E = "java/lang/IndexOutOfBoundsException" ∨ E = "java/lang/UnsupportedOperationException"))
set_option maxHeartbeats 8000000 in
set_option maxRecDepth 100000 in
theorem w_L_go_S (l : Launch) (hlt : l.stackTraces = false) (G : va_G) (K : Nat → ClassId) (ad : Nat → Nat) (I : Nat → Int32) (J : Nat → Int64) (B : Nat → Nat → Int32) (D : Nat → Nat → Int64) (a1 : Int32) (Post : Int32 → (Nat → Int32) → (Nat → Int64) → (Nat → Nat → Int32) → (Nat → Nat → Int64) → Prop) (sz : Nat) (hok : wp_L_go_S I J B D a1 Post) : Met l zy_LassoFinderLaw_go (Cond.codeWith zy_LassoFinderLaw_go method_8_code 4 (some .int) [(0, 9, 12, 20), (0, 9, 15, 30), (0, 9, 18, 15)] :: zTB) { frames := 7, cells := 1, slots := 6, locals := 104 } (va_Pc [.ref (ad 0), .int a1, .ref (ad 77)] (zPreY G K (wPS ad K I J B D) sz)) (va_Qi (fun (r : Int32) (u : zS) => Post r u.1 u.2.1 u.2.2.1 u.2.2.2) (fun u t => zPost G K (va_A (wPS ad K I J B D) sz) (wPS ad K u.1 u.2.1 u.2.2.1 u.2.2.2) t) (va_A (wPS ad K I J B D) sz)) 1 6 (va_A (wPS ad K I J B D) sz) := by
  refine zMetWY (y := zy_LassoFinderLaw_go) (av := [.ref (ad 0), .int a1, .ref (ad 77)]) (maxL := 4) (cc := method_8_code) (ret := (some .int)) (hh := [(0, 9, 12, 20), (0, 9, 15, 30), (0, 9, 18, 15)]) (W0 := (wPS ad K I J B D)) (sz := sz) (G := G) (K := K) (wt := zTB) (mc := 1) (ms := 6) (Qf := fun A => va_Qi (fun (r : Int32) (u : zS) => Post r u.1 u.2.1 u.2.2.1 u.2.2.2) (fun u t => zPost G K A (wPS ad K u.1 u.2.1 u.2.2.1 u.2.2.2) t) A) (by decide) (Nat.le_of_ble_eq_true rfl) ?_
  intro p e s m below meth c ls A hx hb hr hml hts hown hlocks hin hA hK H locs hw hsz hl hT htab
  clear hsz
  have hown : s.vm.findClass "LassoFinderLaw" = some m.cls := hown
  have C : zCw p l [(0, 9, 12, 20), (0, 9, 15, 30), (0, 9, 18, 15)] s m ([.ref (ad 0), .int a1, .ref (ad 77)] : List Value).toArray meth c A G K method_8_code (some .int) 4 "LassoFinderLaw" := ⟨hx, hb, hr, hml, hts, hown, hlocks, hA, hK, hT, htab, hlt⟩
  have hl : lv_has ls 4 [(0, .ref (ad 0)), (1, .int a1), (2, .ref (ad 77))] := hl
  have hw : zW G A s.heap (wPS ad K I J B D) H locs := hw
  unfold wp_L_go_S at hok
  refine lv_aload_n hx hb zd_LassoFinderLaw_go_0 rfl (lv_at hl 2 rfl) ?_
  refine lv_iconst (v := 0) hx hb zd_LassoFinderLaw_go_1 (by decide) ?_
  refine lv_aload_n hx hb zd_LassoFinderLaw_go_2 rfl (lv_at hl 0 rfl) ?_
  refine lv_iload_n hx hb zd_LassoFinderLaw_go_3 rfl (lv_at hl 1 rfl) ?_
  refine z_yV (q0 := 13) (wc := (wS ad K I J B D)) (wr := [(ad 77, zJ K 1 (D 3))]) (w1 := fun (u : zS) => wS ad K u.1 u.2.1 u.2.2.1 u.2.2.2) (As := [.int a1]) (rest := [.int 0, .ref (ad 77)]) ⟨hx, hb, hml, hown, hts⟩ (w_LassoFinder_go_S l hlt G K ad I J B D a1 _ _ H.size hok) zf_LassoFinder_go zn_914 ⟨Nat.le_of_ble_eq_true rfl, Nat.le_of_ble_eq_true rfl⟩ hK hT hw hA (List.range' 1 77) [0] wPS_allX rfl wPS_ndX (by decide +kernel) wPS_dis wPS_g13 rfl rfl hl.1 rfl (Nat.le_of_ble_eq_true rfl) zd_LassoFinderLaw_go_4 ⟨Nat.le_of_ble_eq_true rfl, Nat.le_of_ble_eq_true rfl⟩ (fun v st9 t9 L9 h0 hq hL => ?_) (fun E ce q9 u H locs hu hw hce hcv hcl => ?_)
  · skip
    obtain ⟨⟨r1, u, hv9, hok, hB9⟩, hF9⟩ := hq
    cases hv9
    have hw := z_back (wr := [(ad 77, zJ K 1 (D 3))]) hw hA (List.range' 1 77) [0] wPS_allX rfl (by decide +kernel) wPS_dis h0 hL hB9 hF9
    obtain ⟨I1, J1, B1, D1⟩ := u
    dsimp only at hok
    generalize t9.heap = H at hw ⊢
    generalize locs ++ L9 = locs at hw ⊢
    have hw := wPS_mix hw
    have hw : zW G A s.heap (wPS ad K I1 J1 B1 (zmix 3 D1 D)) H locs := hw
    refine W.eq (g2 := F0 m 7 ls [.int r1, .int 0, .ref (ad 77)]) rfl ?_
    refine lv_i2l hx hb zd_LassoFinderLaw_go_7 rfl ?_
    refine lv_topl (fun z2 ez2 => ?_)
    have hok := hok z2 ez2
    refine va_last (f := ((zmix 3 D1 D) 3)) hx hb hK hw.1 hw.2.1 hw.2.2 0 1 wPS_a0 rfl hok.1 zd_LassoFinderLaw_go_8 (fun H locs w91 w92 w93 => ?_)
    have hok := hok.2
    have hw := wPS_t0 ⟨w91, w92, w93⟩
    refine lv_goto (tgt := 21) hx hb zd_LassoFinderLaw_go_9 (by decide) ?_
    refine lv_iconst (v := 0) hx hb zd_LassoFinderLaw_go_21 (by decide) ?_
    exact (z_iret (u := (I1, J1, B1, (va_up (zmix 3 D1 D) 3 (vp_updL ((zmix 3 D1 D) 3) (0 : Int32).toNatClampNeg z2)))) hx hb hr hlocks rfl hw (List.range 78) wPS_all wPS_nd hok (Nat.le_of_ble_eq_true rfl) (Nat.le_of_ble_eq_true rfl) zd_LassoFinderLaw_go_22)
  · obtain ⟨I8, J8, B8, D8⟩ := u
    dsimp only at hu
    have hw := wPS_mix hw
    obtain ⟨hu0, hu1, hu2, hE⟩ := hu
    rcases hE with rfl | rfl | rfl
    · have hok := hu0 rfl
      refine z_catchP hown hts [] ⟨0, 9, 12, 20⟩ [⟨0, 9, 15, 30⟩, ⟨0, 9, 18, 15⟩] htab (fun y9 hy9 => by cases hy9) (by decide) (by decide) zn_909 hT.1 (List.mem_filter.mpr ⟨zt_5 _ (List.mem_of_getElem? (i := 10) rfl), rfl⟩) hce hcv hcl ?_
      refine W.eq (g2 := F0 m 12 ls [.ref q9]) rfl ?_
      refine lv_astore_n hx hb zd_LassoFinderLaw_go_12 rfl hl (by decide) rfl (fun ls hl => ?_)
      have hl : lv_has ls 4 [(3, .ref q9), (0, .ref (ad 0)), (1, .int a1), (2, .ref (ad 77))] := hl
      refine lv_iconst (v := 1) hx hb zd_LassoFinderLaw_go_13 (by decide) ?_
      exact (z_iret (u := (I8, J8, B8, (zmix 3 D8 D))) hx hb hr hlocks rfl hw (List.range 78) wPS_all wPS_nd hok (Nat.le_of_ble_eq_true rfl) (Nat.le_of_ble_eq_true rfl) zd_LassoFinderLaw_go_14)
    · have hok := hu1 rfl
      refine z_catchP hown hts [⟨0, 9, 12, 20⟩] ⟨0, 9, 15, 30⟩ [⟨0, 9, 18, 15⟩] htab (List.forall_mem_singleton.mpr ⟨by decide, _, zn_909, hT.2.2.2.2.2.1⟩) (by decide) (by decide) zn_912 hT.1 (List.mem_filter.mpr ⟨zt_6 _ (List.mem_of_getElem? (i := 40) rfl), rfl⟩) hce hcv hcl ?_
      refine W.eq (g2 := F0 m 15 ls [.ref q9]) rfl ?_
      refine lv_astore_n hx hb zd_LassoFinderLaw_go_15 rfl hl (by decide) rfl (fun ls hl => ?_)
      have hl : lv_has ls 4 [(3, .ref q9), (0, .ref (ad 0)), (1, .int a1), (2, .ref (ad 77))] := hl
      refine lv_iconst (v := 2) hx hb zd_LassoFinderLaw_go_16 (by decide) ?_
      exact (z_iret (u := (I8, J8, B8, (zmix 3 D8 D))) hx hb hr hlocks rfl hw (List.range 78) wPS_all wPS_nd hok (Nat.le_of_ble_eq_true rfl) (Nat.le_of_ble_eq_true rfl) zd_LassoFinderLaw_go_17)
    · have hok := hu2 rfl
      refine z_catchP hown hts [⟨0, 9, 12, 20⟩, ⟨0, 9, 15, 30⟩] ⟨0, 9, 18, 15⟩ [] htab (List.forall_mem_cons.mpr ⟨⟨by decide, _, zn_909, hT.2.2.2.2.2.2.1⟩, List.forall_mem_singleton.mpr ⟨by decide, _, zn_912, hT.2.2.2.2.2.2.2⟩⟩) (by decide) (by decide) zn_907 hT.1 (List.mem_filter.mpr ⟨zt_4 _ (List.mem_of_getElem? (i := 227) rfl), rfl⟩) hce hcv hcl ?_
      refine W.eq (g2 := F0 m 18 ls [.ref q9]) rfl ?_
      refine lv_astore_n hx hb zd_LassoFinderLaw_go_18 rfl hl (by decide) rfl (fun ls hl => ?_)
      have hl : lv_has ls 4 [(3, .ref q9), (0, .ref (ad 0)), (1, .int a1), (2, .ref (ad 77))] := hl
      refine lv_iconst (v := 3) hx hb zd_LassoFinderLaw_go_19 (by decide) ?_
      exact (z_iret (u := (I8, J8, B8, (zmix 3 D8 D))) hx hb hr hlocks rfl hw (List.range 78) wPS_all wPS_nd hok (Nat.le_of_ble_eq_true rfl) (Nat.le_of_ble_eq_true rfl) zd_LassoFinderLaw_go_20)
def wc_L_truth_S_15 (a1 : Int32) (Post : Int32 → (Nat → Int32) → (Nat → Int64) → (Nat → Nat → Int32) → (Nat → Nat → Int64) → Prop) (y0 : Int64) (y1 : Int32) (I : Nat → Int32) (J : Nat → Int64) (B : Nat → Nat → Int32) (D : Nat → Nat → Int64) : Prop :=
  vp_in y1 1 ∧ Post 0 I J B (va_up D 3 (vp_updL (D 3) y1.toNatClampNeg y0))
def wp_L_truth_S (I : Nat → Int32) (J : Nat → Int64) (B : Nat → Nat → Int32) (D : Nat → Nat → Int64) (a1 : Int32) (Post : Int32 → (Nat → Int32) → (Nat → Int64) → (Nat → Nat → Int32) → (Nat → Nat → Int64) → Prop) : Prop :=
  wp_LassoFinder_truth_S I J B D a1 (fun r1 I1 J1 B1 D1 => ((r1 = 0 → wc_L_truth_S_15 a1 Post 0 0 I1 J1 B1 (zmix 3 D1 D)) ∧ (¬ r1 = 0 → wc_L_truth_S_15 a1 Post 1 0 I1 J1 B1 (zmix 3 D1 D)))) (fun E I8 J8 B8 D8 => (E = "java/lang/IllegalStateException" → Post 1 I8 J8 B8 (zmix 3 D8 D)) ∧ (E = "java/lang/IllegalArgumentException" → Post 2 I8 J8 B8 (zmix 3 D8 D)) ∧ (E = "java/lang/IllegalStateException" ∨ E = "java/lang/IllegalArgumentException"))
set_option maxHeartbeats 8000000 in
set_option maxRecDepth 100000 in
theorem wJ_L_truth_S_15 {p : Program} {l : Launch} {e : Env} {s : State} {m : MethodId} {below : List Frame} {meth : Method} {c : Code} {A : Nat → Prop} (G : va_G) (K : Nat → ClassId) (ad : Nat → Nat) (a1 : Int32) (Post : Int32 → (Nat → Int32) → (Nat → Int64) → (Nat → Nat → Int32) → (Nat → Nat → Int64) → Prop) (C : zCw p l [(0, 16, 19, 20), (0, 16, 22, 13)] s m ([.ref (ad 0), .int a1, .ref (ad 77)] : List Value).toArray meth c A G K method_9_code (some .int) 4 "LassoFinderLaw") : ∀ (y0 : Int64) (y1 : Int32) (I : Nat → Int32) (J : Nat → Int64) (B : Nat → Nat → Int32) (D : Nat → Nat → Int64) (ls : Array Slot) (H : Heap) (locs : List Loc), wc_L_truth_S_15 a1 Post y0 y1 I J B D → lv_has ls 4 [] → zW G A s.heap (wPS ad K I J B D) H locs → W p l e { frames := 7, cells := 1, slots := 6, locals := 102 } s m ([.ref (ad 0), .int a1, .ref (ad 77)] : List Value).toArray below meth c H locs 0 0 (MQ below (va_Qi (fun (r : Int32) (u : zS) => Post r u.1 u.2.1 u.2.2.1 u.2.2.2) (fun u t => zPost G K A (wPS ad K u.1 u.2.1 u.2.2.1 u.2.2.2) t) A) ([.ref (ad 0), .int a1, .ref (ad 77)] : List Value).toArray s 1 6 A) (F0 m 15 ls [.long y0, .int y1, .ref (ad 77)]) := by
  obtain ⟨hx, hb, hr, hml, hts, hown, hlocks, hA, hK, hT, htab, hlt⟩ := id C
  intro y0 y1 I J B D ls H locs hok hl hw
  unfold wc_L_truth_S_15 at hok
  refine va_last (f := (D 3)) hx hb hK hw.1 hw.2.1 hw.2.2 0 1 wPS_a0 rfl hok.1 zd_LassoFinderLaw_truth_15 (fun H locs w91 w92 w93 => ?_)
  have hok := hok.2
  have hw := wPS_t0 ⟨w91, w92, w93⟩
  refine lv_goto (tgt := 25) hx hb zd_LassoFinderLaw_truth_16 (by decide) ?_
  refine lv_iconst (v := 0) hx hb zd_LassoFinderLaw_truth_25 (by decide) ?_
  exact (z_iret (u := (I, J, B, (va_up D 3 (vp_updL (D 3) y1.toNatClampNeg y0)))) hx hb hr hlocks rfl hw (List.range 78) wPS_all wPS_nd hok (Nat.le_of_ble_eq_true rfl) (Nat.le_of_ble_eq_true rfl) zd_LassoFinderLaw_truth_26)
set_option maxHeartbeats 8000000 in
set_option maxRecDepth 100000 in
theorem w_L_truth_S (l : Launch) (hlt : l.stackTraces = false) (G : va_G) (K : Nat → ClassId) (ad : Nat → Nat) (I : Nat → Int32) (J : Nat → Int64) (B : Nat → Nat → Int32) (D : Nat → Nat → Int64) (a1 : Int32) (Post : Int32 → (Nat → Int32) → (Nat → Int64) → (Nat → Nat → Int32) → (Nat → Nat → Int64) → Prop) (sz : Nat) (hok : wp_L_truth_S I J B D a1 Post) : Met l zy_LassoFinderLaw_truth (Cond.codeWith zy_LassoFinderLaw_truth method_9_code 4 (some .int) [(0, 16, 19, 20), (0, 16, 22, 13)] :: zTB) { frames := 7, cells := 1, slots := 6, locals := 102 } (va_Pc [.ref (ad 0), .int a1, .ref (ad 77)] (zPreY G K (wPS ad K I J B D) sz)) (va_Qi (fun (r : Int32) (u : zS) => Post r u.1 u.2.1 u.2.2.1 u.2.2.2) (fun u t => zPost G K (va_A (wPS ad K I J B D) sz) (wPS ad K u.1 u.2.1 u.2.2.1 u.2.2.2) t) (va_A (wPS ad K I J B D) sz)) 1 6 (va_A (wPS ad K I J B D) sz) := by
  refine zMetWY (y := zy_LassoFinderLaw_truth) (av := [.ref (ad 0), .int a1, .ref (ad 77)]) (maxL := 4) (cc := method_9_code) (ret := (some .int)) (hh := [(0, 16, 19, 20), (0, 16, 22, 13)]) (W0 := (wPS ad K I J B D)) (sz := sz) (G := G) (K := K) (wt := zTB) (mc := 1) (ms := 6) (Qf := fun A => va_Qi (fun (r : Int32) (u : zS) => Post r u.1 u.2.1 u.2.2.1 u.2.2.2) (fun u t => zPost G K A (wPS ad K u.1 u.2.1 u.2.2.1 u.2.2.2) t) A) (by decide) (Nat.le_of_ble_eq_true rfl) ?_
  intro p e s m below meth c ls A hx hb hr hml hts hown hlocks hin hA hK H locs hw hsz hl hT htab
  clear hsz
  have hown : s.vm.findClass "LassoFinderLaw" = some m.cls := hown
  have C : zCw p l [(0, 16, 19, 20), (0, 16, 22, 13)] s m ([.ref (ad 0), .int a1, .ref (ad 77)] : List Value).toArray meth c A G K method_9_code (some .int) 4 "LassoFinderLaw" := ⟨hx, hb, hr, hml, hts, hown, hlocks, hA, hK, hT, htab, hlt⟩
  have hl : lv_has ls 4 [(0, .ref (ad 0)), (1, .int a1), (2, .ref (ad 77))] := hl
  have hw : zW G A s.heap (wPS ad K I J B D) H locs := hw
  unfold wp_L_truth_S at hok
  refine lv_aload_n hx hb zd_LassoFinderLaw_truth_0 rfl (lv_at hl 2 rfl) ?_
  refine lv_iconst (v := 0) hx hb zd_LassoFinderLaw_truth_1 (by decide) ?_
  refine lv_aload_n hx hb zd_LassoFinderLaw_truth_2 rfl (lv_at hl 0 rfl) ?_
  refine lv_iload_n hx hb zd_LassoFinderLaw_truth_3 rfl (lv_at hl 1 rfl) ?_
  refine z_yV (q0 := 13) (wc := (wS ad K I J B D)) (wr := [(ad 77, zJ K 1 (D 3))]) (w1 := fun (u : zS) => wS ad K u.1 u.2.1 u.2.2.1 u.2.2.2) (As := [.int a1]) (rest := [.int 0, .ref (ad 77)]) ⟨hx, hb, hml, hown, hts⟩ (w_LassoFinder_truth_S l hlt G K ad I J B D a1 _ _ H.size hok) zf_LassoFinder_truth zn_915 ⟨Nat.le_of_ble_eq_true rfl, Nat.le_of_ble_eq_true rfl⟩ hK hT hw hA (List.range' 1 77) [0] wPS_allX rfl wPS_ndX (by decide +kernel) wPS_dis wPS_g13 rfl rfl hl.1 rfl (Nat.le_of_ble_eq_true rfl) zd_LassoFinderLaw_truth_4 ⟨Nat.le_of_ble_eq_true rfl, Nat.le_of_ble_eq_true rfl⟩ (fun v st9 t9 L9 h0 hq hL => ?_) (fun E ce q9 u H locs hu hw hce hcv hcl => ?_)
  · skip
    obtain ⟨⟨r1, u, hv9, hok, hB9⟩, hF9⟩ := hq
    cases hv9
    have hw := z_back (wr := [(ad 77, zJ K 1 (D 3))]) hw hA (List.range' 1 77) [0] wPS_allX rfl (by decide +kernel) wPS_dis h0 hL hB9 hF9
    obtain ⟨I1, J1, B1, D1⟩ := u
    dsimp only at hok
    generalize t9.heap = H at hw ⊢
    generalize locs ++ L9 = locs at hw ⊢
    have hw := wPS_mix hw
    have hw : zW G A s.heap (wPS ad K I1 J1 B1 (zmix 3 D1 D)) H locs := hw
    refine W.eq (g2 := F0 m 7 ls [.int r1, .int 0, .ref (ad 77)]) rfl ?_
    refine lv_if_eq (tgt := 14) hx hb zd_LassoFinderLaw_truth_7 (by decide) (fun hc2 => ?_) (fun hc2 => ?_)
    · have hok := hok.1 hc2
      refine lv_lconst (v := 0) hx hb zd_LassoFinderLaw_truth_14 (by decide) ?_
      exact wJ_L_truth_S_15 G K ad a1 Post C 0 0 I1 J1 B1 (zmix 3 D1 D) ls H locs hok (lv_sub hl [] rfl) hw
    · have hok := hok.2 hc2
      refine lv_lconst (v := 1) hx hb zd_LassoFinderLaw_truth_10 (by decide) ?_
      refine lv_goto (tgt := 15) hx hb zd_LassoFinderLaw_truth_11 (by decide) ?_
      exact wJ_L_truth_S_15 G K ad a1 Post C 1 0 I1 J1 B1 (zmix 3 D1 D) ls H locs hok (lv_sub hl [] rfl) hw
  · obtain ⟨I8, J8, B8, D8⟩ := u
    dsimp only at hu
    have hw := wPS_mix hw
    obtain ⟨hu0, hu1, hE⟩ := hu
    rcases hE with rfl | rfl
    · have hok := hu0 rfl
      refine z_catchP hown hts [] ⟨0, 16, 19, 20⟩ [⟨0, 16, 22, 13⟩] htab (fun y9 hy9 => by cases hy9) (by decide) (by decide) zn_909 hT.1 (List.mem_filter.mpr ⟨zt_5 _ (List.mem_of_getElem? (i := 10) rfl), rfl⟩) hce hcv hcl ?_
      refine W.eq (g2 := F0 m 19 ls [.ref q9]) rfl ?_
      refine lv_astore_n hx hb zd_LassoFinderLaw_truth_19 rfl hl (by decide) rfl (fun ls hl => ?_)
      have hl : lv_has ls 4 [(3, .ref q9), (0, .ref (ad 0)), (1, .int a1), (2, .ref (ad 77))] := hl
      refine lv_iconst (v := 1) hx hb zd_LassoFinderLaw_truth_20 (by decide) ?_
      exact (z_iret (u := (I8, J8, B8, (zmix 3 D8 D))) hx hb hr hlocks rfl hw (List.range 78) wPS_all wPS_nd hok (Nat.le_of_ble_eq_true rfl) (Nat.le_of_ble_eq_true rfl) zd_LassoFinderLaw_truth_21)
    · have hok := hu1 rfl
      refine z_catchP hown hts [⟨0, 16, 19, 20⟩] ⟨0, 16, 22, 13⟩ [] htab (List.forall_mem_singleton.mpr ⟨by decide, _, zn_909, hT.2.2.2.2.1⟩) (by decide) (by decide) zn_906 hT.1 (List.mem_filter.mpr ⟨zt_3 _ (List.mem_of_getElem? (i := 149) rfl), rfl⟩) hce hcv hcl ?_
      refine W.eq (g2 := F0 m 22 ls [.ref q9]) rfl ?_
      refine lv_astore_n hx hb zd_LassoFinderLaw_truth_22 rfl hl (by decide) rfl (fun ls hl => ?_)
      have hl : lv_has ls 4 [(3, .ref q9), (0, .ref (ad 0)), (1, .int a1), (2, .ref (ad 77))] := hl
      refine lv_iconst (v := 2) hx hb zd_LassoFinderLaw_truth_23 (by decide) ?_
      exact (z_iret (u := (I8, J8, B8, (zmix 3 D8 D))) hx hb hr hlocks rfl hw (List.range 78) wPS_all wPS_nd hok (Nat.le_of_ble_eq_true rfl) (Nat.le_of_ble_eq_true rfl) zd_LassoFinderLaw_truth_24)
def wp_L_model_N (I : Nat → Int32) (J : Nat → Int64) (B : Nat → Nat → Int32) (D : Nat → Nat → Int64) (Post : Int32 → (Nat → Int32) → (Nat → Int64) → (Nat → Nat → Int32) → (Nat → Nat → Int64) → Prop) : Prop :=
  wp_LassoFinder_model_N I J B D  (fun r1 I1 J1 B1 D1 => ∀ z2 : Int64, z2 = r1.toInt64 → vp_in 0 1 ∧ Post 0 I1 J1 B1 (va_up (zmix 3 D1 D) 3 (vp_updL ((zmix 3 D1 D) 3) (0 : Int32).toNatClampNeg z2))) (fun E I8 J8 B8 D8 => (E = "java/lang/IllegalArgumentException" → Post 1 I8 J8 B8 (zmix 3 D8 D)) ∧ (E = "java/lang/UnsupportedOperationException" → Post 2 I8 J8 B8 (zmix 3 D8 D)) ∧ (E = "java/lang/IllegalArgumentException" ∨ E = "java/lang/UnsupportedOperationException"))
set_option maxHeartbeats 8000000 in
set_option maxRecDepth 100000 in
theorem w_L_model_N (l : Launch) (hlt : l.stackTraces = false) (G : va_G) (K : Nat → ClassId) (ad : Nat → Nat) (I : Nat → Int32) (J : Nat → Int64) (B : Nat → Nat → Int32) (D : Nat → Nat → Int64) (Post : Int32 → (Nat → Int32) → (Nat → Int64) → (Nat → Nat → Int32) → (Nat → Nat → Int64) → Prop) (sz : Nat) (hok : wp_L_model_N I J B D  Post) : Met l zy_LassoFinderLaw_model (Cond.codeWith zy_LassoFinderLaw_model method_3_code 3 (some .int) [(0, 8, 11, 13), (0, 8, 14, 15)] :: zTB) { frames := 37, cells := 1, slots := 6, locals := 858 } (va_Pc [.ref (ad 0), .ref (ad 77)] (zPreY G K (wPN ad K I J B D) sz)) (va_Qi (fun (r : Int32) (u : zS) => Post r u.1 u.2.1 u.2.2.1 u.2.2.2) (fun u t => zPost G K (va_A (wPN ad K I J B D) sz) (wPN ad K u.1 u.2.1 u.2.2.1 u.2.2.2) t) (va_A (wPN ad K I J B D) sz)) 1 6 (va_A (wPN ad K I J B D) sz) := by
  refine zMetWY (y := zy_LassoFinderLaw_model) (av := [.ref (ad 0), .ref (ad 77)]) (maxL := 3) (cc := method_3_code) (ret := (some .int)) (hh := [(0, 8, 11, 13), (0, 8, 14, 15)]) (W0 := (wPN ad K I J B D)) (sz := sz) (G := G) (K := K) (wt := zTB) (mc := 1) (ms := 6) (Qf := fun A => va_Qi (fun (r : Int32) (u : zS) => Post r u.1 u.2.1 u.2.2.1 u.2.2.2) (fun u t => zPost G K A (wPN ad K u.1 u.2.1 u.2.2.1 u.2.2.2) t) A) (by decide) (Nat.le_of_ble_eq_true rfl) ?_
  intro p e s m below meth c ls A hx hb hr hml hts hown hlocks hin hA hK H locs hw hsz hl hT htab
  clear hsz
  have hown : s.vm.findClass "LassoFinderLaw" = some m.cls := hown
  have C : zCw p l [(0, 8, 11, 13), (0, 8, 14, 15)] s m ([.ref (ad 0), .ref (ad 77)] : List Value).toArray meth c A G K method_3_code (some .int) 3 "LassoFinderLaw" := ⟨hx, hb, hr, hml, hts, hown, hlocks, hA, hK, hT, htab, hlt⟩
  have hl : lv_has ls 3 [(0, .ref (ad 0)), (1, .ref (ad 77))] := hl
  have hw : zW G A s.heap (wPN ad K I J B D) H locs := hw
  unfold wp_L_model_N at hok
  refine lv_aload_n hx hb zd_LassoFinderLaw_model_0 rfl (lv_at hl 1 rfl) ?_
  refine lv_iconst (v := 0) hx hb zd_LassoFinderLaw_model_1 (by decide) ?_
  refine lv_aload_n hx hb zd_LassoFinderLaw_model_2 rfl (lv_at hl 0 rfl) ?_
  refine z_yV (q0 := 1) (wc := (wX ad K Value.null I J B D)) (wr := [(ad 77, zJ K 1 (D 3))]) (w1 := fun (u : zS) => wX ad K Value.null u.1 u.2.1 u.2.2.1 u.2.2.2) (As := []) (rest := [.int 0, .ref (ad 77)]) ⟨hx, hb, hml, hown, hts⟩ (w_LassoFinder_model_N l hlt G K ad I J B D  _ _ H.size hok) zf_LassoFinder_model zn_905 ⟨Nat.le_of_ble_eq_true rfl, Nat.le_of_ble_eq_true rfl⟩ hK hT hw hA (List.range' 1 65) [0] wPN_allX rfl wPN_ndX (by decide +kernel) wPN_dis wPN_g1 rfl rfl hl.1 rfl (Nat.le_of_ble_eq_true rfl) zd_LassoFinderLaw_model_3 ⟨Nat.le_of_ble_eq_true rfl, Nat.le_of_ble_eq_true rfl⟩ (fun v st9 t9 L9 h0 hq hL => ?_) (fun E ce q9 u H locs hu hw hce hcv hcl => ?_)
  · skip
    obtain ⟨⟨r1, u, hv9, hok, hB9⟩, hF9⟩ := hq
    cases hv9
    have hw := z_back (wr := [(ad 77, zJ K 1 (D 3))]) hw hA (List.range' 1 65) [0] wPN_allX rfl (by decide +kernel) wPN_dis h0 hL hB9 hF9
    obtain ⟨I1, J1, B1, D1⟩ := u
    dsimp only at hok
    generalize t9.heap = H at hw ⊢
    generalize locs ++ L9 = locs at hw ⊢
    have hw := wPN_mix hw
    have hw : zW G A s.heap (wPN ad K I1 J1 B1 (zmix 3 D1 D)) H locs := hw
    refine W.eq (g2 := F0 m 6 ls [.int r1, .int 0, .ref (ad 77)]) rfl ?_
    refine lv_i2l hx hb zd_LassoFinderLaw_model_6 rfl ?_
    refine lv_topl (fun z2 ez2 => ?_)
    have hok := hok z2 ez2
    refine va_last (f := ((zmix 3 D1 D) 3)) hx hb hK hw.1 hw.2.1 hw.2.2 0 1 wPN_a0 rfl hok.1 zd_LassoFinderLaw_model_7 (fun H locs w91 w92 w93 => ?_)
    have hok := hok.2
    have hw := wPN_t0 ⟨w91, w92, w93⟩
    refine lv_goto (tgt := 17) hx hb zd_LassoFinderLaw_model_8 (by decide) ?_
    refine lv_iconst (v := 0) hx hb zd_LassoFinderLaw_model_17 (by decide) ?_
    exact (z_iret (u := (I1, J1, B1, (va_up (zmix 3 D1 D) 3 (vp_updL ((zmix 3 D1 D) 3) (0 : Int32).toNatClampNeg z2)))) hx hb hr hlocks rfl hw (List.range 66) wPN_all wPN_nd hok (Nat.le_of_ble_eq_true rfl) (Nat.le_of_ble_eq_true rfl) zd_LassoFinderLaw_model_18)
  · obtain ⟨I8, J8, B8, D8⟩ := u
    dsimp only at hu
    have hw := wPN_mix hw
    obtain ⟨hu0, hu1, hE⟩ := hu
    rcases hE with rfl | rfl
    · have hok := hu0 rfl
      refine z_catchP hown hts [] ⟨0, 8, 11, 13⟩ [⟨0, 8, 14, 15⟩] htab (fun y9 hy9 => by cases hy9) (by decide) (by decide) zn_906 hT.1 (List.mem_filter.mpr ⟨zt_3 _ (List.mem_of_getElem? (i := 149) rfl), rfl⟩) hce hcv hcl ?_
      refine W.eq (g2 := F0 m 11 ls [.ref q9]) rfl ?_
      refine lv_astore_n hx hb zd_LassoFinderLaw_model_11 rfl hl (by decide) rfl (fun ls hl => ?_)
      have hl : lv_has ls 3 [(2, .ref q9), (0, .ref (ad 0)), (1, .ref (ad 77))] := hl
      refine lv_iconst (v := 1) hx hb zd_LassoFinderLaw_model_12 (by decide) ?_
      exact (z_iret (u := (I8, J8, B8, (zmix 3 D8 D))) hx hb hr hlocks rfl hw (List.range 66) wPN_all wPN_nd hok (Nat.le_of_ble_eq_true rfl) (Nat.le_of_ble_eq_true rfl) zd_LassoFinderLaw_model_13)
    · have hok := hu1 rfl
      refine z_catchP hown hts [⟨0, 8, 11, 13⟩] ⟨0, 8, 14, 15⟩ [] htab (List.forall_mem_singleton.mpr ⟨by decide, _, zn_906, hT.2.2.2.1⟩) (by decide) (by decide) zn_907 hT.1 (List.mem_filter.mpr ⟨zt_4 _ (List.mem_of_getElem? (i := 227) rfl), rfl⟩) hce hcv hcl ?_
      refine W.eq (g2 := F0 m 14 ls [.ref q9]) rfl ?_
      refine lv_astore_n hx hb zd_LassoFinderLaw_model_14 rfl hl (by decide) rfl (fun ls hl => ?_)
      have hl : lv_has ls 3 [(2, .ref q9), (0, .ref (ad 0)), (1, .ref (ad 77))] := hl
      refine lv_iconst (v := 2) hx hb zd_LassoFinderLaw_model_15 (by decide) ?_
      exact (z_iret (u := (I8, J8, B8, (zmix 3 D8 D))) hx hb hr hlocks rfl hw (List.range 66) wPN_all wPN_nd hok (Nat.le_of_ble_eq_true rfl) (Nat.le_of_ble_eq_true rfl) zd_LassoFinderLaw_model_16)
def wp_L_formula_N (I : Nat → Int32) (J : Nat → Int64) (B : Nat → Nat → Int32) (D : Nat → Nat → Int64) (Post : Int32 → (Nat → Int32) → (Nat → Int64) → (Nat → Nat → Int32) → (Nat → Nat → Int64) → Prop) : Prop :=
  wp_LassoFinder_formula_N I J B D  (fun r1 I1 J1 B1 D1 => ∀ z2 : Int64, z2 = r1.toInt64 → vp_in 0 1 ∧ Post 0 I1 J1 B1 (va_up (zmix 3 D1 D) 3 (vp_updL ((zmix 3 D1 D) 3) (0 : Int32).toNatClampNeg z2))) (fun E I8 J8 B8 D8 => (E = "java/lang/IllegalStateException" → Post 1 I8 J8 B8 (zmix 3 D8 D)) ∧ (E = "java/lang/IllegalArgumentException" → Post 2 I8 J8 B8 (zmix 3 D8 D)) ∧ (E = "java/lang/IllegalStateException" ∨ E = "java/lang/IllegalArgumentException"))
set_option maxHeartbeats 8000000 in
set_option maxRecDepth 100000 in
theorem w_L_formula_N (l : Launch) (hlt : l.stackTraces = false) (G : va_G) (K : Nat → ClassId) (ad : Nat → Nat) (I : Nat → Int32) (J : Nat → Int64) (B : Nat → Nat → Int32) (D : Nat → Nat → Int64) (Post : Int32 → (Nat → Int32) → (Nat → Int64) → (Nat → Nat → Int32) → (Nat → Nat → Int64) → Prop) (sz : Nat) (hok : wp_L_formula_N I J B D  Post) : Met l zy_LassoFinderLaw_formula (Cond.codeWith zy_LassoFinderLaw_formula method_4_code 3 (some .int) [(0, 8, 11, 20), (0, 8, 14, 13)] :: zTB) { frames := 113, cells := 1, slots := 6, locals := 2736 } (va_Pc [.ref (ad 0), .ref (ad 77)] (zPreY G K (wPN ad K I J B D) sz)) (va_Qi (fun (r : Int32) (u : zS) => Post r u.1 u.2.1 u.2.2.1 u.2.2.2) (fun u t => zPost G K (va_A (wPN ad K I J B D) sz) (wPN ad K u.1 u.2.1 u.2.2.1 u.2.2.2) t) (va_A (wPN ad K I J B D) sz)) 1 6 (va_A (wPN ad K I J B D) sz) := by
  refine zMetWY (y := zy_LassoFinderLaw_formula) (av := [.ref (ad 0), .ref (ad 77)]) (maxL := 3) (cc := method_4_code) (ret := (some .int)) (hh := [(0, 8, 11, 20), (0, 8, 14, 13)]) (W0 := (wPN ad K I J B D)) (sz := sz) (G := G) (K := K) (wt := zTB) (mc := 1) (ms := 6) (Qf := fun A => va_Qi (fun (r : Int32) (u : zS) => Post r u.1 u.2.1 u.2.2.1 u.2.2.2) (fun u t => zPost G K A (wPN ad K u.1 u.2.1 u.2.2.1 u.2.2.2) t) A) (by decide) (Nat.le_of_ble_eq_true rfl) ?_
  intro p e s m below meth c ls A hx hb hr hml hts hown hlocks hin hA hK H locs hw hsz hl hT htab
  clear hsz
  have hown : s.vm.findClass "LassoFinderLaw" = some m.cls := hown
  have C : zCw p l [(0, 8, 11, 20), (0, 8, 14, 13)] s m ([.ref (ad 0), .ref (ad 77)] : List Value).toArray meth c A G K method_4_code (some .int) 3 "LassoFinderLaw" := ⟨hx, hb, hr, hml, hts, hown, hlocks, hA, hK, hT, htab, hlt⟩
  have hl : lv_has ls 3 [(0, .ref (ad 0)), (1, .ref (ad 77))] := hl
  have hw : zW G A s.heap (wPN ad K I J B D) H locs := hw
  unfold wp_L_formula_N at hok
  refine lv_aload_n hx hb zd_LassoFinderLaw_formula_0 rfl (lv_at hl 1 rfl) ?_
  refine lv_iconst (v := 0) hx hb zd_LassoFinderLaw_formula_1 (by decide) ?_
  refine lv_aload_n hx hb zd_LassoFinderLaw_formula_2 rfl (lv_at hl 0 rfl) ?_
  refine z_yV (q0 := 1) (wc := (wX ad K Value.null I J B D)) (wr := [(ad 77, zJ K 1 (D 3))]) (w1 := fun (u : zS) => wX ad K Value.null u.1 u.2.1 u.2.2.1 u.2.2.2) (As := []) (rest := [.int 0, .ref (ad 77)]) ⟨hx, hb, hml, hown, hts⟩ (w_LassoFinder_formula_N l hlt G K ad I J B D  _ _ H.size hok) zf_LassoFinder_formula zn_908 ⟨Nat.le_of_ble_eq_true rfl, Nat.le_of_ble_eq_true rfl⟩ hK hT hw hA (List.range' 1 65) [0] wPN_allX rfl wPN_ndX (by decide +kernel) wPN_dis wPN_g1 rfl rfl hl.1 rfl (Nat.le_of_ble_eq_true rfl) zd_LassoFinderLaw_formula_3 ⟨Nat.le_of_ble_eq_true rfl, Nat.le_of_ble_eq_true rfl⟩ (fun v st9 t9 L9 h0 hq hL => ?_) (fun E ce q9 u H locs hu hw hce hcv hcl => ?_)
  · skip
    obtain ⟨⟨r1, u, hv9, hok, hB9⟩, hF9⟩ := hq
    cases hv9
    have hw := z_back (wr := [(ad 77, zJ K 1 (D 3))]) hw hA (List.range' 1 65) [0] wPN_allX rfl (by decide +kernel) wPN_dis h0 hL hB9 hF9
    obtain ⟨I1, J1, B1, D1⟩ := u
    dsimp only at hok
    generalize t9.heap = H at hw ⊢
    generalize locs ++ L9 = locs at hw ⊢
    have hw := wPN_mix hw
    have hw : zW G A s.heap (wPN ad K I1 J1 B1 (zmix 3 D1 D)) H locs := hw
    refine W.eq (g2 := F0 m 6 ls [.int r1, .int 0, .ref (ad 77)]) rfl ?_
    refine lv_i2l hx hb zd_LassoFinderLaw_formula_6 rfl ?_
    refine lv_topl (fun z2 ez2 => ?_)
    have hok := hok z2 ez2
    refine va_last (f := ((zmix 3 D1 D) 3)) hx hb hK hw.1 hw.2.1 hw.2.2 0 1 wPN_a0 rfl hok.1 zd_LassoFinderLaw_formula_7 (fun H locs w91 w92 w93 => ?_)
    have hok := hok.2
    have hw := wPN_t0 ⟨w91, w92, w93⟩
    refine lv_goto (tgt := 17) hx hb zd_LassoFinderLaw_formula_8 (by decide) ?_
    refine lv_iconst (v := 0) hx hb zd_LassoFinderLaw_formula_17 (by decide) ?_
    exact (z_iret (u := (I1, J1, B1, (va_up (zmix 3 D1 D) 3 (vp_updL ((zmix 3 D1 D) 3) (0 : Int32).toNatClampNeg z2)))) hx hb hr hlocks rfl hw (List.range 66) wPN_all wPN_nd hok (Nat.le_of_ble_eq_true rfl) (Nat.le_of_ble_eq_true rfl) zd_LassoFinderLaw_formula_18)
  · obtain ⟨I8, J8, B8, D8⟩ := u
    dsimp only at hu
    have hw := wPN_mix hw
    obtain ⟨hu0, hu1, hE⟩ := hu
    rcases hE with rfl | rfl
    · have hok := hu0 rfl
      refine z_catchP hown hts [] ⟨0, 8, 11, 20⟩ [⟨0, 8, 14, 13⟩] htab (fun y9 hy9 => by cases hy9) (by decide) (by decide) zn_909 hT.1 (List.mem_filter.mpr ⟨zt_5 _ (List.mem_of_getElem? (i := 10) rfl), rfl⟩) hce hcv hcl ?_
      refine W.eq (g2 := F0 m 11 ls [.ref q9]) rfl ?_
      refine lv_astore_n hx hb zd_LassoFinderLaw_formula_11 rfl hl (by decide) rfl (fun ls hl => ?_)
      have hl : lv_has ls 3 [(2, .ref q9), (0, .ref (ad 0)), (1, .ref (ad 77))] := hl
      refine lv_iconst (v := 1) hx hb zd_LassoFinderLaw_formula_12 (by decide) ?_
      exact (z_iret (u := (I8, J8, B8, (zmix 3 D8 D))) hx hb hr hlocks rfl hw (List.range 66) wPN_all wPN_nd hok (Nat.le_of_ble_eq_true rfl) (Nat.le_of_ble_eq_true rfl) zd_LassoFinderLaw_formula_13)
    · have hok := hu1 rfl
      refine z_catchP hown hts [⟨0, 8, 11, 20⟩] ⟨0, 8, 14, 13⟩ [] htab (List.forall_mem_singleton.mpr ⟨by decide, _, zn_909, hT.2.2.2.2.1⟩) (by decide) (by decide) zn_906 hT.1 (List.mem_filter.mpr ⟨zt_3 _ (List.mem_of_getElem? (i := 149) rfl), rfl⟩) hce hcv hcl ?_
      refine W.eq (g2 := F0 m 14 ls [.ref q9]) rfl ?_
      refine lv_astore_n hx hb zd_LassoFinderLaw_formula_14 rfl hl (by decide) rfl (fun ls hl => ?_)
      have hl : lv_has ls 3 [(2, .ref q9), (0, .ref (ad 0)), (1, .ref (ad 77))] := hl
      refine lv_iconst (v := 2) hx hb zd_LassoFinderLaw_formula_15 (by decide) ?_
      exact (z_iret (u := (I8, J8, B8, (zmix 3 D8 D))) hx hb hr hlocks rfl hw (List.range 66) wPN_all wPN_nd hok (Nat.le_of_ble_eq_true rfl) (Nat.le_of_ble_eq_true rfl) zd_LassoFinderLaw_formula_16)
def wc_L_verify_N_14 (Post : Int32 → (Nat → Int32) → (Nat → Int64) → (Nat → Nat → Int32) → (Nat → Nat → Int64) → Prop) (y0 : Int64) (y1 : Int32) (I : Nat → Int32) (J : Nat → Int64) (B : Nat → Nat → Int32) (D : Nat → Nat → Int64) : Prop :=
  vp_in y1 1 ∧ Post 0 I J B (va_up D 3 (vp_updL (D 3) y1.toNatClampNeg y0))
def wp_L_verify_N (I : Nat → Int32) (J : Nat → Int64) (B : Nat → Nat → Int32) (D : Nat → Nat → Int64) (Post : Int32 → (Nat → Int32) → (Nat → Int64) → (Nat → Nat → Int32) → (Nat → Nat → Int64) → Prop) : Prop :=
  wp_LassoFinder_verify_N I J B D  (fun r1 I1 J1 B1 D1 => ((r1 = 0 → wc_L_verify_N_14  Post 0 0 I1 J1 B1 (zmix 3 D1 D)) ∧ (¬ r1 = 0 → wc_L_verify_N_14  Post 1 0 I1 J1 B1 (zmix 3 D1 D)))) (fun E I8 J8 B8 D8 => (E = "java/lang/IllegalStateException" → Post 1 I8 J8 B8 (zmix 3 D8 D)) ∧ (E = "java/lang/IllegalStateException"))
set_option maxHeartbeats 8000000 in
set_option maxRecDepth 100000 in
theorem wJ_L_verify_N_14 {p : Program} {l : Launch} {e : Env} {s : State} {m : MethodId} {below : List Frame} {meth : Method} {c : Code} {A : Nat → Prop} (G : va_G) (K : Nat → ClassId) (ad : Nat → Nat) (Post : Int32 → (Nat → Int32) → (Nat → Int64) → (Nat → Nat → Int32) → (Nat → Nat → Int64) → Prop) (C : zCw p l [(0, 15, 18, 20)] s m ([.ref (ad 0), .ref (ad 77)] : List Value).toArray meth c A G K method_5_code (some .int) 3 "LassoFinderLaw") : ∀ (y0 : Int64) (y1 : Int32) (I : Nat → Int32) (J : Nat → Int64) (B : Nat → Nat → Int32) (D : Nat → Nat → Int64) (ls : Array Slot) (H : Heap) (locs : List Loc), wc_L_verify_N_14  Post y0 y1 I J B D → lv_has ls 3 [] → zW G A s.heap (wPN ad K I J B D) H locs → W p l e { frames := 7, cells := 1, slots := 6, locals := 101 } s m ([.ref (ad 0), .ref (ad 77)] : List Value).toArray below meth c H locs 0 0 (MQ below (va_Qi (fun (r : Int32) (u : zS) => Post r u.1 u.2.1 u.2.2.1 u.2.2.2) (fun u t => zPost G K A (wPN ad K u.1 u.2.1 u.2.2.1 u.2.2.2) t) A) ([.ref (ad 0), .ref (ad 77)] : List Value).toArray s 1 6 A) (F0 m 14 ls [.long y0, .int y1, .ref (ad 77)]) := by
  obtain ⟨hx, hb, hr, hml, hts, hown, hlocks, hA, hK, hT, htab, hlt⟩ := id C
  intro y0 y1 I J B D ls H locs hok hl hw
  unfold wc_L_verify_N_14 at hok
  refine va_last (f := (D 3)) hx hb hK hw.1 hw.2.1 hw.2.2 0 1 wPN_a0 rfl hok.1 zd_LassoFinderLaw_verify_14 (fun H locs w91 w92 w93 => ?_)
  have hok := hok.2
  have hw := wPN_t0 ⟨w91, w92, w93⟩
  refine lv_goto (tgt := 21) hx hb zd_LassoFinderLaw_verify_15 (by decide) ?_
  refine lv_iconst (v := 0) hx hb zd_LassoFinderLaw_verify_21 (by decide) ?_
  exact (z_iret (u := (I, J, B, (va_up D 3 (vp_updL (D 3) y1.toNatClampNeg y0)))) hx hb hr hlocks rfl hw (List.range 66) wPN_all wPN_nd hok (Nat.le_of_ble_eq_true rfl) (Nat.le_of_ble_eq_true rfl) zd_LassoFinderLaw_verify_22)
set_option maxHeartbeats 8000000 in
set_option maxRecDepth 100000 in
theorem w_L_verify_N (l : Launch) (hlt : l.stackTraces = false) (G : va_G) (K : Nat → ClassId) (ad : Nat → Nat) (I : Nat → Int32) (J : Nat → Int64) (B : Nat → Nat → Int32) (D : Nat → Nat → Int64) (Post : Int32 → (Nat → Int32) → (Nat → Int64) → (Nat → Nat → Int32) → (Nat → Nat → Int64) → Prop) (sz : Nat) (hok : wp_L_verify_N I J B D  Post) : Met l zy_LassoFinderLaw_verify (Cond.codeWith zy_LassoFinderLaw_verify method_5_code 3 (some .int) [(0, 15, 18, 20)] :: zTB) { frames := 7, cells := 1, slots := 6, locals := 101 } (va_Pc [.ref (ad 0), .ref (ad 77)] (zPreY G K (wPN ad K I J B D) sz)) (va_Qi (fun (r : Int32) (u : zS) => Post r u.1 u.2.1 u.2.2.1 u.2.2.2) (fun u t => zPost G K (va_A (wPN ad K I J B D) sz) (wPN ad K u.1 u.2.1 u.2.2.1 u.2.2.2) t) (va_A (wPN ad K I J B D) sz)) 1 6 (va_A (wPN ad K I J B D) sz) := by
  refine zMetWY (y := zy_LassoFinderLaw_verify) (av := [.ref (ad 0), .ref (ad 77)]) (maxL := 3) (cc := method_5_code) (ret := (some .int)) (hh := [(0, 15, 18, 20)]) (W0 := (wPN ad K I J B D)) (sz := sz) (G := G) (K := K) (wt := zTB) (mc := 1) (ms := 6) (Qf := fun A => va_Qi (fun (r : Int32) (u : zS) => Post r u.1 u.2.1 u.2.2.1 u.2.2.2) (fun u t => zPost G K A (wPN ad K u.1 u.2.1 u.2.2.1 u.2.2.2) t) A) (by decide) (Nat.le_of_ble_eq_true rfl) ?_
  intro p e s m below meth c ls A hx hb hr hml hts hown hlocks hin hA hK H locs hw hsz hl hT htab
  clear hsz
  have hown : s.vm.findClass "LassoFinderLaw" = some m.cls := hown
  have C : zCw p l [(0, 15, 18, 20)] s m ([.ref (ad 0), .ref (ad 77)] : List Value).toArray meth c A G K method_5_code (some .int) 3 "LassoFinderLaw" := ⟨hx, hb, hr, hml, hts, hown, hlocks, hA, hK, hT, htab, hlt⟩
  have hl : lv_has ls 3 [(0, .ref (ad 0)), (1, .ref (ad 77))] := hl
  have hw : zW G A s.heap (wPN ad K I J B D) H locs := hw
  unfold wp_L_verify_N at hok
  refine lv_aload_n hx hb zd_LassoFinderLaw_verify_0 rfl (lv_at hl 1 rfl) ?_
  refine lv_iconst (v := 0) hx hb zd_LassoFinderLaw_verify_1 (by decide) ?_
  refine lv_aload_n hx hb zd_LassoFinderLaw_verify_2 rfl (lv_at hl 0 rfl) ?_
  refine z_yV (q0 := 1) (wc := (wX ad K Value.null I J B D)) (wr := [(ad 77, zJ K 1 (D 3))]) (w1 := fun (u : zS) => wX ad K Value.null u.1 u.2.1 u.2.2.1 u.2.2.2) (As := []) (rest := [.int 0, .ref (ad 77)]) ⟨hx, hb, hml, hown, hts⟩ (w_LassoFinder_verify_N l hlt G K ad I J B D  _ _ H.size hok) zf_LassoFinder_verify zn_910 ⟨Nat.le_of_ble_eq_true rfl, Nat.le_of_ble_eq_true rfl⟩ hK hT hw hA (List.range' 1 65) [0] wPN_allX rfl wPN_ndX (by decide +kernel) wPN_dis wPN_g1 rfl rfl hl.1 rfl (Nat.le_of_ble_eq_true rfl) zd_LassoFinderLaw_verify_3 ⟨Nat.le_of_ble_eq_true rfl, Nat.le_of_ble_eq_true rfl⟩ (fun v st9 t9 L9 h0 hq hL => ?_) (fun E ce q9 u H locs hu hw hce hcv hcl => ?_)
  · skip
    obtain ⟨⟨r1, u, hv9, hok, hB9⟩, hF9⟩ := hq
    cases hv9
    have hw := z_back (wr := [(ad 77, zJ K 1 (D 3))]) hw hA (List.range' 1 65) [0] wPN_allX rfl (by decide +kernel) wPN_dis h0 hL hB9 hF9
    obtain ⟨I1, J1, B1, D1⟩ := u
    dsimp only at hok
    generalize t9.heap = H at hw ⊢
    generalize locs ++ L9 = locs at hw ⊢
    have hw := wPN_mix hw
    have hw : zW G A s.heap (wPN ad K I1 J1 B1 (zmix 3 D1 D)) H locs := hw
    refine W.eq (g2 := F0 m 6 ls [.int r1, .int 0, .ref (ad 77)]) rfl ?_
    refine lv_if_eq (tgt := 13) hx hb zd_LassoFinderLaw_verify_6 (by decide) (fun hc2 => ?_) (fun hc2 => ?_)
    · have hok := hok.1 hc2
      refine lv_lconst (v := 0) hx hb zd_LassoFinderLaw_verify_13 (by decide) ?_
      exact wJ_L_verify_N_14 G K ad  Post C 0 0 I1 J1 B1 (zmix 3 D1 D) ls H locs hok (lv_sub hl [] rfl) hw
    · have hok := hok.2 hc2
      refine lv_lconst (v := 1) hx hb zd_LassoFinderLaw_verify_9 (by decide) ?_
      refine lv_goto (tgt := 14) hx hb zd_LassoFinderLaw_verify_10 (by decide) ?_
      exact wJ_L_verify_N_14 G K ad  Post C 1 0 I1 J1 B1 (zmix 3 D1 D) ls H locs hok (lv_sub hl [] rfl) hw
  · obtain ⟨I8, J8, B8, D8⟩ := u
    dsimp only at hu
    have hw := wPN_mix hw
    obtain ⟨hu0, hE⟩ := hu
    rcases hE with rfl
    · have hok := hu0 rfl
      refine z_catchP hown hts [] ⟨0, 15, 18, 20⟩ [] htab (fun y9 hy9 => by cases hy9) (by decide) (by decide) zn_909 hT.1 (List.mem_filter.mpr ⟨zt_5 _ (List.mem_of_getElem? (i := 10) rfl), rfl⟩) hce hcv hcl ?_
      refine W.eq (g2 := F0 m 18 ls [.ref q9]) rfl ?_
      refine lv_astore_n hx hb zd_LassoFinderLaw_verify_18 rfl hl (by decide) rfl (fun ls hl => ?_)
      have hl : lv_has ls 3 [(2, .ref q9), (0, .ref (ad 0)), (1, .ref (ad 77))] := hl
      refine lv_iconst (v := 1) hx hb zd_LassoFinderLaw_verify_19 (by decide) ?_
      exact (z_iret (u := (I8, J8, B8, (zmix 3 D8 D))) hx hb hr hlocks rfl hw (List.range 66) wPN_all wPN_nd hok (Nat.le_of_ble_eq_true rfl) (Nat.le_of_ble_eq_true rfl) zd_LassoFinderLaw_verify_20)
def wp_L_lasso_N (I : Nat → Int32) (J : Nat → Int64) (B : Nat → Nat → Int32) (D : Nat → Nat → Int64) (a1 : Int32) (a2 : Int32) (Post : Int32 → (Nat → Int32) → (Nat → Int64) → (Nat → Nat → Int32) → (Nat → Nat → Int64) → Prop) : Prop :=
  wp_LassoFinder_lasso_N I J B D a1 a2 (fun r1 I1 J1 B1 D1 => ∀ z2 : Int64, z2 = r1.toInt64 → vp_in 0 1 ∧ Post 0 I1 J1 B1 (va_up (zmix 3 D1 D) 3 (vp_updL ((zmix 3 D1 D) 3) (0 : Int32).toNatClampNeg z2))) (fun E I8 J8 B8 D8 => (E = "java/lang/IndexOutOfBoundsException" → Post 1 I8 J8 B8 (zmix 3 D8 D)) ∧ (E = "java/lang/IndexOutOfBoundsException"))
set_option maxHeartbeats 8000000 in
set_option maxRecDepth 100000 in
theorem w_L_lasso_N (l : Launch) (hlt : l.stackTraces = false) (G : va_G) (K : Nat → ClassId) (ad : Nat → Nat) (I : Nat → Int32) (J : Nat → Int64) (B : Nat → Nat → Int32) (D : Nat → Nat → Int64) (a1 : Int32) (a2 : Int32) (Post : Int32 → (Nat → Int32) → (Nat → Int64) → (Nat → Nat → Int32) → (Nat → Nat → Int64) → Prop) (sz : Nat) (hok : wp_L_lasso_N I J B D a1 a2 Post) : Met l zy_LassoFinderLaw_lasso (Cond.codeWith zy_LassoFinderLaw_lasso method_6_code 5 (some .int) [(0, 10, 13, 30)] :: zTB) { frames := 7, cells := 1, slots := 6, locals := 104 } (va_Pc [.ref (ad 0), .int a1, .int a2, .ref (ad 77)] (zPreY G K (wPN ad K I J B D) sz)) (va_Qi (fun (r : Int32) (u : zS) => Post r u.1 u.2.1 u.2.2.1 u.2.2.2) (fun u t => zPost G K (va_A (wPN ad K I J B D) sz) (wPN ad K u.1 u.2.1 u.2.2.1 u.2.2.2) t) (va_A (wPN ad K I J B D) sz)) 1 6 (va_A (wPN ad K I J B D) sz) := by
  refine zMetWY (y := zy_LassoFinderLaw_lasso) (av := [.ref (ad 0), .int a1, .int a2, .ref (ad 77)]) (maxL := 5) (cc := method_6_code) (ret := (some .int)) (hh := [(0, 10, 13, 30)]) (W0 := (wPN ad K I J B D)) (sz := sz) (G := G) (K := K) (wt := zTB) (mc := 1) (ms := 6) (Qf := fun A => va_Qi (fun (r : Int32) (u : zS) => Post r u.1 u.2.1 u.2.2.1 u.2.2.2) (fun u t => zPost G K A (wPN ad K u.1 u.2.1 u.2.2.1 u.2.2.2) t) A) (by decide) (Nat.le_of_ble_eq_true rfl) ?_
  intro p e s m below meth c ls A hx hb hr hml hts hown hlocks hin hA hK H locs hw hsz hl hT htab
  clear hsz
  have hown : s.vm.findClass "LassoFinderLaw" = some m.cls := hown
  have C : zCw p l [(0, 10, 13, 30)] s m ([.ref (ad 0), .int a1, .int a2, .ref (ad 77)] : List Value).toArray meth c A G K method_6_code (some .int) 5 "LassoFinderLaw" := ⟨hx, hb, hr, hml, hts, hown, hlocks, hA, hK, hT, htab, hlt⟩
  have hl : lv_has ls 5 [(0, .ref (ad 0)), (1, .int a1), (2, .int a2), (3, .ref (ad 77))] := hl
  have hw : zW G A s.heap (wPN ad K I J B D) H locs := hw
  unfold wp_L_lasso_N at hok
  refine lv_aload_n hx hb zd_LassoFinderLaw_lasso_0 rfl (lv_at hl 3 rfl) ?_
  refine lv_iconst (v := 0) hx hb zd_LassoFinderLaw_lasso_1 (by decide) ?_
  refine lv_aload_n hx hb zd_LassoFinderLaw_lasso_2 rfl (lv_at hl 0 rfl) ?_
  refine lv_iload_n hx hb zd_LassoFinderLaw_lasso_3 rfl (lv_at hl 1 rfl) ?_
  refine lv_iload_n hx hb zd_LassoFinderLaw_lasso_4 rfl (lv_at hl 2 rfl) ?_
  refine z_yV (q0 := 1) (wc := (wX ad K Value.null I J B D)) (wr := [(ad 77, zJ K 1 (D 3))]) (w1 := fun (u : zS) => wX ad K Value.null u.1 u.2.1 u.2.2.1 u.2.2.2) (As := [.int a1, .int a2]) (rest := [.int 0, .ref (ad 77)]) ⟨hx, hb, hml, hown, hts⟩ (w_LassoFinder_lasso_N l hlt G K ad I J B D a1 a2 _ _ H.size hok) zf_LassoFinder_lasso zn_911 ⟨Nat.le_of_ble_eq_true rfl, Nat.le_of_ble_eq_true rfl⟩ hK hT hw hA (List.range' 1 65) [0] wPN_allX rfl wPN_ndX (by decide +kernel) wPN_dis wPN_g1 rfl rfl hl.1 rfl (Nat.le_of_ble_eq_true rfl) zd_LassoFinderLaw_lasso_5 ⟨Nat.le_of_ble_eq_true rfl, Nat.le_of_ble_eq_true rfl⟩ (fun v st9 t9 L9 h0 hq hL => ?_) (fun E ce q9 u H locs hu hw hce hcv hcl => ?_)
  · skip
    obtain ⟨⟨r1, u, hv9, hok, hB9⟩, hF9⟩ := hq
    cases hv9
    have hw := z_back (wr := [(ad 77, zJ K 1 (D 3))]) hw hA (List.range' 1 65) [0] wPN_allX rfl (by decide +kernel) wPN_dis h0 hL hB9 hF9
    obtain ⟨I1, J1, B1, D1⟩ := u
    dsimp only at hok
    generalize t9.heap = H at hw ⊢
    generalize locs ++ L9 = locs at hw ⊢
    have hw := wPN_mix hw
    have hw : zW G A s.heap (wPN ad K I1 J1 B1 (zmix 3 D1 D)) H locs := hw
    refine W.eq (g2 := F0 m 8 ls [.int r1, .int 0, .ref (ad 77)]) rfl ?_
    refine lv_i2l hx hb zd_LassoFinderLaw_lasso_8 rfl ?_
    refine lv_topl (fun z2 ez2 => ?_)
    have hok := hok z2 ez2
    refine va_last (f := ((zmix 3 D1 D) 3)) hx hb hK hw.1 hw.2.1 hw.2.2 0 1 wPN_a0 rfl hok.1 zd_LassoFinderLaw_lasso_9 (fun H locs w91 w92 w93 => ?_)
    have hok := hok.2
    have hw := wPN_t0 ⟨w91, w92, w93⟩
    refine lv_goto (tgt := 17) hx hb zd_LassoFinderLaw_lasso_10 (by decide) ?_
    refine lv_iconst (v := 0) hx hb zd_LassoFinderLaw_lasso_17 (by decide) ?_
    exact (z_iret (u := (I1, J1, B1, (va_up (zmix 3 D1 D) 3 (vp_updL ((zmix 3 D1 D) 3) (0 : Int32).toNatClampNeg z2)))) hx hb hr hlocks rfl hw (List.range 66) wPN_all wPN_nd hok (Nat.le_of_ble_eq_true rfl) (Nat.le_of_ble_eq_true rfl) zd_LassoFinderLaw_lasso_18)
  · obtain ⟨I8, J8, B8, D8⟩ := u
    dsimp only at hu
    have hw := wPN_mix hw
    obtain ⟨hu0, hE⟩ := hu
    rcases hE with rfl
    · have hok := hu0 rfl
      refine z_catchP hown hts [] ⟨0, 10, 13, 30⟩ [] htab (fun y9 hy9 => by cases hy9) (by decide) (by decide) zn_912 hT.1 (List.mem_filter.mpr ⟨zt_6 _ (List.mem_of_getElem? (i := 40) rfl), rfl⟩) hce hcv hcl ?_
      refine W.eq (g2 := F0 m 13 ls [.ref q9]) rfl ?_
      refine lv_astore hx hb zd_LassoFinderLaw_lasso_13 hl (by decide) rfl (fun ls hl => ?_)
      have hl : lv_has ls 5 [(4, .ref q9), (0, .ref (ad 0)), (1, .int a1), (2, .int a2), (3, .ref (ad 77))] := hl
      refine lv_iconst (v := 1) hx hb zd_LassoFinderLaw_lasso_15 (by decide) ?_
      exact (z_iret (u := (I8, J8, B8, (zmix 3 D8 D))) hx hb hr hlocks rfl hw (List.range 66) wPN_all wPN_nd hok (Nat.le_of_ble_eq_true rfl) (Nat.le_of_ble_eq_true rfl) zd_LassoFinderLaw_lasso_16)
def wp_L_walk_N (I : Nat → Int32) (J : Nat → Int64) (B : Nat → Nat → Int32) (D : Nat → Nat → Int64) (Post : Int32 → (Nat → Int32) → (Nat → Int64) → (Nat → Nat → Int32) → (Nat → Nat → Int64) → Prop) : Prop :=
  wp_LassoFinder_walk_N I J B D  (fun I1 J1 B1 D1 => Post 0 I1 J1 B1 (zmix 3 D1 D)) (fun E I8 J8 B8 D8 => (E = "java/lang/IllegalStateException" → Post 1 I8 J8 B8 (zmix 3 D8 D)) ∧ (E = "java/lang/IllegalStateException"))
set_option maxHeartbeats 8000000 in
set_option maxRecDepth 100000 in
theorem w_L_walk_N (l : Launch) (hlt : l.stackTraces = false) (G : va_G) (K : Nat → ClassId) (ad : Nat → Nat) (I : Nat → Int32) (J : Nat → Int64) (B : Nat → Nat → Int32) (D : Nat → Nat → Int64) (Post : Int32 → (Nat → Int32) → (Nat → Int64) → (Nat → Nat → Int32) → (Nat → Nat → Int64) → Prop) (sz : Nat) (hok : wp_L_walk_N I J B D  Post) : Met l zy_LassoFinderLaw_walk (Cond.codeWith zy_LassoFinderLaw_walk method_7_code 2 (some .int) [(0, 4, 7, 20)] :: zTB) { frames := 7, cells := 1, slots := 6, locals := 101 } (va_Pc [.ref (ad 0)] (zPreY G K (wPN ad K I J B D) sz)) (va_Qi (fun (r : Int32) (u : zS) => Post r u.1 u.2.1 u.2.2.1 u.2.2.2) (fun u t => zPost G K (va_A (wPN ad K I J B D) sz) (wPN ad K u.1 u.2.1 u.2.2.1 u.2.2.2) t) (va_A (wPN ad K I J B D) sz)) 1 6 (va_A (wPN ad K I J B D) sz) := by
  refine zMetWY (y := zy_LassoFinderLaw_walk) (av := [.ref (ad 0)]) (maxL := 2) (cc := method_7_code) (ret := (some .int)) (hh := [(0, 4, 7, 20)]) (W0 := (wPN ad K I J B D)) (sz := sz) (G := G) (K := K) (wt := zTB) (mc := 1) (ms := 6) (Qf := fun A => va_Qi (fun (r : Int32) (u : zS) => Post r u.1 u.2.1 u.2.2.1 u.2.2.2) (fun u t => zPost G K A (wPN ad K u.1 u.2.1 u.2.2.1 u.2.2.2) t) A) (by decide) (Nat.le_of_ble_eq_true rfl) ?_
  intro p e s m below meth c ls A hx hb hr hml hts hown hlocks hin hA hK H locs hw hsz hl hT htab
  clear hsz
  have hown : s.vm.findClass "LassoFinderLaw" = some m.cls := hown
  have C : zCw p l [(0, 4, 7, 20)] s m ([.ref (ad 0)] : List Value).toArray meth c A G K method_7_code (some .int) 2 "LassoFinderLaw" := ⟨hx, hb, hr, hml, hts, hown, hlocks, hA, hK, hT, htab, hlt⟩
  have hl : lv_has ls 2 [(0, .ref (ad 0))] := hl
  have hw : zW G A s.heap (wPN ad K I J B D) H locs := hw
  unfold wp_L_walk_N at hok
  refine lv_aload_n hx hb zd_LassoFinderLaw_walk_0 rfl (lv_at hl 0 rfl) ?_
  refine z_yV (q0 := 1) (wc := (wX ad K Value.null I J B D)) (wr := [(ad 77, zJ K 1 (D 3))]) (w1 := fun (u : zS) => wX ad K Value.null u.1 u.2.1 u.2.2.1 u.2.2.2) (As := []) (rest := []) ⟨hx, hb, hml, hown, hts⟩ (w_LassoFinder_walk_N l hlt G K ad I J B D  _ _ H.size hok) zf_LassoFinder_walk zn_913 ⟨Nat.le_of_ble_eq_true rfl, Nat.le_of_ble_eq_true rfl⟩ hK hT hw hA (List.range' 1 65) [0] wPN_allX rfl wPN_ndX (by decide +kernel) wPN_dis wPN_g1 rfl rfl hl.1 rfl (Nat.le_of_ble_eq_true rfl) zd_LassoFinderLaw_walk_1 ⟨Nat.le_of_ble_eq_true rfl, Nat.le_of_ble_eq_true rfl⟩ (fun v st9 t9 L9 h0 hq hL => ?_) (fun E ce q9 u H locs hu hw hce hcv hcl => ?_)
  · skip
    obtain ⟨⟨u, hv9, hok, hB9⟩, hF9⟩ := hq
    cases hv9
    have hw := z_back (wr := [(ad 77, zJ K 1 (D 3))]) hw hA (List.range' 1 65) [0] wPN_allX rfl (by decide +kernel) wPN_dis h0 hL hB9 hF9
    obtain ⟨I1, J1, B1, D1⟩ := u
    dsimp only at hok
    generalize t9.heap = H at hw ⊢
    generalize locs ++ L9 = locs at hw ⊢
    have hw := wPN_mix hw
    have hw : zW G A s.heap (wPN ad K I1 J1 B1 (zmix 3 D1 D)) H locs := hw
    refine W.eq (g2 := F0 m 4 ls []) rfl ?_
    refine lv_goto (tgt := 10) hx hb zd_LassoFinderLaw_walk_4 (by decide) ?_
    refine lv_iconst (v := 0) hx hb zd_LassoFinderLaw_walk_10 (by decide) ?_
    exact (z_iret (u := (I1, J1, B1, (zmix 3 D1 D))) hx hb hr hlocks rfl hw (List.range 66) wPN_all wPN_nd hok (Nat.le_of_ble_eq_true rfl) (Nat.le_of_ble_eq_true rfl) zd_LassoFinderLaw_walk_11)
  · obtain ⟨I8, J8, B8, D8⟩ := u
    dsimp only at hu
    have hw := wPN_mix hw
    obtain ⟨hu0, hE⟩ := hu
    rcases hE with rfl
    · have hok := hu0 rfl
      refine z_catchP hown hts [] ⟨0, 4, 7, 20⟩ [] htab (fun y9 hy9 => by cases hy9) (by decide) (by decide) zn_909 hT.1 (List.mem_filter.mpr ⟨zt_5 _ (List.mem_of_getElem? (i := 10) rfl), rfl⟩) hce hcv hcl ?_
      refine W.eq (g2 := F0 m 7 ls [.ref q9]) rfl ?_
      refine lv_astore_n hx hb zd_LassoFinderLaw_walk_7 rfl hl (by decide) rfl (fun ls hl => ?_)
      have hl : lv_has ls 2 [(1, .ref q9), (0, .ref (ad 0))] := hl
      refine lv_iconst (v := 1) hx hb zd_LassoFinderLaw_walk_8 (by decide) ?_
      exact (z_iret (u := (I8, J8, B8, (zmix 3 D8 D))) hx hb hr hlocks rfl hw (List.range 66) wPN_all wPN_nd hok (Nat.le_of_ble_eq_true rfl) (Nat.le_of_ble_eq_true rfl) zd_LassoFinderLaw_walk_9)
def wp_L_go_N (I : Nat → Int32) (J : Nat → Int64) (B : Nat → Nat → Int32) (D : Nat → Nat → Int64) (a1 : Int32) (Post : Int32 → (Nat → Int32) → (Nat → Int64) → (Nat → Nat → Int32) → (Nat → Nat → Int64) → Prop) : Prop :=
  wp_LassoFinder_go_N I J B D a1 (fun r1 I1 J1 B1 D1 => ∀ z2 : Int64, z2 = r1.toInt64 → vp_in 0 1 ∧ Post 0 I1 J1 B1 (va_up (zmix 3 D1 D) 3 (vp_updL ((zmix 3 D1 D) 3) (0 : Int32).toNatClampNeg z2))) (fun E I8 J8 B8 D8 => (E = "java/lang/IllegalStateException" → Post 1 I8 J8 B8 (zmix 3 D8 D)) ∧ (E = "java/lang/IndexOutOfBoundsException" → Post 2 I8 J8 B8 (zmix 3 D8 D)) ∧ (E = "java/lang/UnsupportedOperationException" → Post 3 I8 J8 B8 (zmix 3 D8 D)) ∧ (E = "java/lang/IllegalStateException" ∨ E = "java/lang/IndexOutOfBoundsException" ∨ E = "java/lang/UnsupportedOperationException"))
set_option maxHeartbeats 8000000 in
set_option maxRecDepth 100000 in
theorem w_L_go_N (l : Launch) (hlt : l.stackTraces = false) (G : va_G) (K : Nat → ClassId) (ad : Nat → Nat) (I : Nat → Int32) (J : Nat → Int64) (B : Nat → Nat → Int32) (D : Nat → Nat → Int64) (a1 : Int32) (Post : Int32 → (Nat → Int32) → (Nat → Int64) → (Nat → Nat → Int32) → (Nat → Nat → Int64) → Prop) (sz : Nat) (hok : wp_L_go_N I J B D a1 Post) : Met l zy_LassoFinderLaw_go (Cond.codeWith zy_LassoFinderLaw_go method_8_code 4 (some .int) [(0, 9, 12, 20), (0, 9, 15, 30), (0, 9, 18, 15)] :: zTB) { frames := 7, cells := 1, slots := 6, locals := 104 } (va_Pc [.ref (ad 0), .int a1, .ref (ad 77)] (zPreY G K (wPN ad K I J B D) sz)) (va_Qi (fun (r : Int32) (u : zS) => Post r u.1 u.2.1 u.2.2.1 u.2.2.2) (fun u t => zPost G K (va_A (wPN ad K I J B D) sz) (wPN ad K u.1 u.2.1 u.2.2.1 u.2.2.2) t) (va_A (wPN ad K I J B D) sz)) 1 6 (va_A (wPN ad K I J B D) sz) := by
  refine zMetWY (y := zy_LassoFinderLaw_go) (av := [.ref (ad 0), .int a1, .ref (ad 77)]) (maxL := 4) (cc := method_8_code) (ret := (some .int)) (hh := [(0, 9, 12, 20), (0, 9, 15, 30), (0, 9, 18, 15)]) (W0 := (wPN ad K I J B D)) (sz := sz) (G := G) (K := K) (wt := zTB) (mc := 1) (ms := 6) (Qf := fun A => va_Qi (fun (r : Int32) (u : zS) => Post r u.1 u.2.1 u.2.2.1 u.2.2.2) (fun u t => zPost G K A (wPN ad K u.1 u.2.1 u.2.2.1 u.2.2.2) t) A) (by decide) (Nat.le_of_ble_eq_true rfl) ?_
  intro p e s m below meth c ls A hx hb hr hml hts hown hlocks hin hA hK H locs hw hsz hl hT htab
  clear hsz
  have hown : s.vm.findClass "LassoFinderLaw" = some m.cls := hown
  have C : zCw p l [(0, 9, 12, 20), (0, 9, 15, 30), (0, 9, 18, 15)] s m ([.ref (ad 0), .int a1, .ref (ad 77)] : List Value).toArray meth c A G K method_8_code (some .int) 4 "LassoFinderLaw" := ⟨hx, hb, hr, hml, hts, hown, hlocks, hA, hK, hT, htab, hlt⟩
  have hl : lv_has ls 4 [(0, .ref (ad 0)), (1, .int a1), (2, .ref (ad 77))] := hl
  have hw : zW G A s.heap (wPN ad K I J B D) H locs := hw
  unfold wp_L_go_N at hok
  refine lv_aload_n hx hb zd_LassoFinderLaw_go_0 rfl (lv_at hl 2 rfl) ?_
  refine lv_iconst (v := 0) hx hb zd_LassoFinderLaw_go_1 (by decide) ?_
  refine lv_aload_n hx hb zd_LassoFinderLaw_go_2 rfl (lv_at hl 0 rfl) ?_
  refine lv_iload_n hx hb zd_LassoFinderLaw_go_3 rfl (lv_at hl 1 rfl) ?_
  refine z_yV (q0 := 1) (wc := (wX ad K Value.null I J B D)) (wr := [(ad 77, zJ K 1 (D 3))]) (w1 := fun (u : zS) => wX ad K Value.null u.1 u.2.1 u.2.2.1 u.2.2.2) (As := [.int a1]) (rest := [.int 0, .ref (ad 77)]) ⟨hx, hb, hml, hown, hts⟩ (w_LassoFinder_go_N l hlt G K ad I J B D a1 _ _ H.size hok) zf_LassoFinder_go zn_914 ⟨Nat.le_of_ble_eq_true rfl, Nat.le_of_ble_eq_true rfl⟩ hK hT hw hA (List.range' 1 65) [0] wPN_allX rfl wPN_ndX (by decide +kernel) wPN_dis wPN_g1 rfl rfl hl.1 rfl (Nat.le_of_ble_eq_true rfl) zd_LassoFinderLaw_go_4 ⟨Nat.le_of_ble_eq_true rfl, Nat.le_of_ble_eq_true rfl⟩ (fun v st9 t9 L9 h0 hq hL => ?_) (fun E ce q9 u H locs hu hw hce hcv hcl => ?_)
  · skip
    obtain ⟨⟨r1, u, hv9, hok, hB9⟩, hF9⟩ := hq
    cases hv9
    have hw := z_back (wr := [(ad 77, zJ K 1 (D 3))]) hw hA (List.range' 1 65) [0] wPN_allX rfl (by decide +kernel) wPN_dis h0 hL hB9 hF9
    obtain ⟨I1, J1, B1, D1⟩ := u
    dsimp only at hok
    generalize t9.heap = H at hw ⊢
    generalize locs ++ L9 = locs at hw ⊢
    have hw := wPN_mix hw
    have hw : zW G A s.heap (wPN ad K I1 J1 B1 (zmix 3 D1 D)) H locs := hw
    refine W.eq (g2 := F0 m 7 ls [.int r1, .int 0, .ref (ad 77)]) rfl ?_
    refine lv_i2l hx hb zd_LassoFinderLaw_go_7 rfl ?_
    refine lv_topl (fun z2 ez2 => ?_)
    have hok := hok z2 ez2
    refine va_last (f := ((zmix 3 D1 D) 3)) hx hb hK hw.1 hw.2.1 hw.2.2 0 1 wPN_a0 rfl hok.1 zd_LassoFinderLaw_go_8 (fun H locs w91 w92 w93 => ?_)
    have hok := hok.2
    have hw := wPN_t0 ⟨w91, w92, w93⟩
    refine lv_goto (tgt := 21) hx hb zd_LassoFinderLaw_go_9 (by decide) ?_
    refine lv_iconst (v := 0) hx hb zd_LassoFinderLaw_go_21 (by decide) ?_
    exact (z_iret (u := (I1, J1, B1, (va_up (zmix 3 D1 D) 3 (vp_updL ((zmix 3 D1 D) 3) (0 : Int32).toNatClampNeg z2)))) hx hb hr hlocks rfl hw (List.range 66) wPN_all wPN_nd hok (Nat.le_of_ble_eq_true rfl) (Nat.le_of_ble_eq_true rfl) zd_LassoFinderLaw_go_22)
  · obtain ⟨I8, J8, B8, D8⟩ := u
    dsimp only at hu
    have hw := wPN_mix hw
    obtain ⟨hu0, hu1, hu2, hE⟩ := hu
    rcases hE with rfl | rfl | rfl
    · have hok := hu0 rfl
      refine z_catchP hown hts [] ⟨0, 9, 12, 20⟩ [⟨0, 9, 15, 30⟩, ⟨0, 9, 18, 15⟩] htab (fun y9 hy9 => by cases hy9) (by decide) (by decide) zn_909 hT.1 (List.mem_filter.mpr ⟨zt_5 _ (List.mem_of_getElem? (i := 10) rfl), rfl⟩) hce hcv hcl ?_
      refine W.eq (g2 := F0 m 12 ls [.ref q9]) rfl ?_
      refine lv_astore_n hx hb zd_LassoFinderLaw_go_12 rfl hl (by decide) rfl (fun ls hl => ?_)
      have hl : lv_has ls 4 [(3, .ref q9), (0, .ref (ad 0)), (1, .int a1), (2, .ref (ad 77))] := hl
      refine lv_iconst (v := 1) hx hb zd_LassoFinderLaw_go_13 (by decide) ?_
      exact (z_iret (u := (I8, J8, B8, (zmix 3 D8 D))) hx hb hr hlocks rfl hw (List.range 66) wPN_all wPN_nd hok (Nat.le_of_ble_eq_true rfl) (Nat.le_of_ble_eq_true rfl) zd_LassoFinderLaw_go_14)
    · have hok := hu1 rfl
      refine z_catchP hown hts [⟨0, 9, 12, 20⟩] ⟨0, 9, 15, 30⟩ [⟨0, 9, 18, 15⟩] htab (List.forall_mem_singleton.mpr ⟨by decide, _, zn_909, hT.2.2.2.2.2.1⟩) (by decide) (by decide) zn_912 hT.1 (List.mem_filter.mpr ⟨zt_6 _ (List.mem_of_getElem? (i := 40) rfl), rfl⟩) hce hcv hcl ?_
      refine W.eq (g2 := F0 m 15 ls [.ref q9]) rfl ?_
      refine lv_astore_n hx hb zd_LassoFinderLaw_go_15 rfl hl (by decide) rfl (fun ls hl => ?_)
      have hl : lv_has ls 4 [(3, .ref q9), (0, .ref (ad 0)), (1, .int a1), (2, .ref (ad 77))] := hl
      refine lv_iconst (v := 2) hx hb zd_LassoFinderLaw_go_16 (by decide) ?_
      exact (z_iret (u := (I8, J8, B8, (zmix 3 D8 D))) hx hb hr hlocks rfl hw (List.range 66) wPN_all wPN_nd hok (Nat.le_of_ble_eq_true rfl) (Nat.le_of_ble_eq_true rfl) zd_LassoFinderLaw_go_17)
    · have hok := hu2 rfl
      refine z_catchP hown hts [⟨0, 9, 12, 20⟩, ⟨0, 9, 15, 30⟩] ⟨0, 9, 18, 15⟩ [] htab (List.forall_mem_cons.mpr ⟨⟨by decide, _, zn_909, hT.2.2.2.2.2.2.1⟩, List.forall_mem_singleton.mpr ⟨by decide, _, zn_912, hT.2.2.2.2.2.2.2⟩⟩) (by decide) (by decide) zn_907 hT.1 (List.mem_filter.mpr ⟨zt_4 _ (List.mem_of_getElem? (i := 227) rfl), rfl⟩) hce hcv hcl ?_
      refine W.eq (g2 := F0 m 18 ls [.ref q9]) rfl ?_
      refine lv_astore_n hx hb zd_LassoFinderLaw_go_18 rfl hl (by decide) rfl (fun ls hl => ?_)
      have hl : lv_has ls 4 [(3, .ref q9), (0, .ref (ad 0)), (1, .int a1), (2, .ref (ad 77))] := hl
      refine lv_iconst (v := 3) hx hb zd_LassoFinderLaw_go_19 (by decide) ?_
      exact (z_iret (u := (I8, J8, B8, (zmix 3 D8 D))) hx hb hr hlocks rfl hw (List.range 66) wPN_all wPN_nd hok (Nat.le_of_ble_eq_true rfl) (Nat.le_of_ble_eq_true rfl) zd_LassoFinderLaw_go_20)
def wc_L_truth_N_15 (a1 : Int32) (Post : Int32 → (Nat → Int32) → (Nat → Int64) → (Nat → Nat → Int32) → (Nat → Nat → Int64) → Prop) (y0 : Int64) (y1 : Int32) (I : Nat → Int32) (J : Nat → Int64) (B : Nat → Nat → Int32) (D : Nat → Nat → Int64) : Prop :=
  vp_in y1 1 ∧ Post 0 I J B (va_up D 3 (vp_updL (D 3) y1.toNatClampNeg y0))
def wp_L_truth_N (I : Nat → Int32) (J : Nat → Int64) (B : Nat → Nat → Int32) (D : Nat → Nat → Int64) (a1 : Int32) (Post : Int32 → (Nat → Int32) → (Nat → Int64) → (Nat → Nat → Int32) → (Nat → Nat → Int64) → Prop) : Prop :=
  wp_LassoFinder_truth_N I J B D a1 (fun r1 I1 J1 B1 D1 => ((r1 = 0 → wc_L_truth_N_15 a1 Post 0 0 I1 J1 B1 (zmix 3 D1 D)) ∧ (¬ r1 = 0 → wc_L_truth_N_15 a1 Post 1 0 I1 J1 B1 (zmix 3 D1 D)))) (fun E I8 J8 B8 D8 => (E = "java/lang/IllegalStateException" → Post 1 I8 J8 B8 (zmix 3 D8 D)) ∧ (E = "java/lang/IllegalArgumentException" → Post 2 I8 J8 B8 (zmix 3 D8 D)) ∧ (E = "java/lang/IllegalStateException" ∨ E = "java/lang/IllegalArgumentException"))
set_option maxHeartbeats 8000000 in
set_option maxRecDepth 100000 in
theorem wJ_L_truth_N_15 {p : Program} {l : Launch} {e : Env} {s : State} {m : MethodId} {below : List Frame} {meth : Method} {c : Code} {A : Nat → Prop} (G : va_G) (K : Nat → ClassId) (ad : Nat → Nat) (a1 : Int32) (Post : Int32 → (Nat → Int32) → (Nat → Int64) → (Nat → Nat → Int32) → (Nat → Nat → Int64) → Prop) (C : zCw p l [(0, 16, 19, 20), (0, 16, 22, 13)] s m ([.ref (ad 0), .int a1, .ref (ad 77)] : List Value).toArray meth c A G K method_9_code (some .int) 4 "LassoFinderLaw") : ∀ (y0 : Int64) (y1 : Int32) (I : Nat → Int32) (J : Nat → Int64) (B : Nat → Nat → Int32) (D : Nat → Nat → Int64) (ls : Array Slot) (H : Heap) (locs : List Loc), wc_L_truth_N_15 a1 Post y0 y1 I J B D → lv_has ls 4 [] → zW G A s.heap (wPN ad K I J B D) H locs → W p l e { frames := 7, cells := 1, slots := 6, locals := 102 } s m ([.ref (ad 0), .int a1, .ref (ad 77)] : List Value).toArray below meth c H locs 0 0 (MQ below (va_Qi (fun (r : Int32) (u : zS) => Post r u.1 u.2.1 u.2.2.1 u.2.2.2) (fun u t => zPost G K A (wPN ad K u.1 u.2.1 u.2.2.1 u.2.2.2) t) A) ([.ref (ad 0), .int a1, .ref (ad 77)] : List Value).toArray s 1 6 A) (F0 m 15 ls [.long y0, .int y1, .ref (ad 77)]) := by
  obtain ⟨hx, hb, hr, hml, hts, hown, hlocks, hA, hK, hT, htab, hlt⟩ := id C
  intro y0 y1 I J B D ls H locs hok hl hw
  unfold wc_L_truth_N_15 at hok
  refine va_last (f := (D 3)) hx hb hK hw.1 hw.2.1 hw.2.2 0 1 wPN_a0 rfl hok.1 zd_LassoFinderLaw_truth_15 (fun H locs w91 w92 w93 => ?_)
  have hok := hok.2
  have hw := wPN_t0 ⟨w91, w92, w93⟩
  refine lv_goto (tgt := 25) hx hb zd_LassoFinderLaw_truth_16 (by decide) ?_
  refine lv_iconst (v := 0) hx hb zd_LassoFinderLaw_truth_25 (by decide) ?_
  exact (z_iret (u := (I, J, B, (va_up D 3 (vp_updL (D 3) y1.toNatClampNeg y0)))) hx hb hr hlocks rfl hw (List.range 66) wPN_all wPN_nd hok (Nat.le_of_ble_eq_true rfl) (Nat.le_of_ble_eq_true rfl) zd_LassoFinderLaw_truth_26)
set_option maxHeartbeats 8000000 in
set_option maxRecDepth 100000 in
theorem w_L_truth_N (l : Launch) (hlt : l.stackTraces = false) (G : va_G) (K : Nat → ClassId) (ad : Nat → Nat) (I : Nat → Int32) (J : Nat → Int64) (B : Nat → Nat → Int32) (D : Nat → Nat → Int64) (a1 : Int32) (Post : Int32 → (Nat → Int32) → (Nat → Int64) → (Nat → Nat → Int32) → (Nat → Nat → Int64) → Prop) (sz : Nat) (hok : wp_L_truth_N I J B D a1 Post) : Met l zy_LassoFinderLaw_truth (Cond.codeWith zy_LassoFinderLaw_truth method_9_code 4 (some .int) [(0, 16, 19, 20), (0, 16, 22, 13)] :: zTB) { frames := 7, cells := 1, slots := 6, locals := 102 } (va_Pc [.ref (ad 0), .int a1, .ref (ad 77)] (zPreY G K (wPN ad K I J B D) sz)) (va_Qi (fun (r : Int32) (u : zS) => Post r u.1 u.2.1 u.2.2.1 u.2.2.2) (fun u t => zPost G K (va_A (wPN ad K I J B D) sz) (wPN ad K u.1 u.2.1 u.2.2.1 u.2.2.2) t) (va_A (wPN ad K I J B D) sz)) 1 6 (va_A (wPN ad K I J B D) sz) := by
  refine zMetWY (y := zy_LassoFinderLaw_truth) (av := [.ref (ad 0), .int a1, .ref (ad 77)]) (maxL := 4) (cc := method_9_code) (ret := (some .int)) (hh := [(0, 16, 19, 20), (0, 16, 22, 13)]) (W0 := (wPN ad K I J B D)) (sz := sz) (G := G) (K := K) (wt := zTB) (mc := 1) (ms := 6) (Qf := fun A => va_Qi (fun (r : Int32) (u : zS) => Post r u.1 u.2.1 u.2.2.1 u.2.2.2) (fun u t => zPost G K A (wPN ad K u.1 u.2.1 u.2.2.1 u.2.2.2) t) A) (by decide) (Nat.le_of_ble_eq_true rfl) ?_
  intro p e s m below meth c ls A hx hb hr hml hts hown hlocks hin hA hK H locs hw hsz hl hT htab
  clear hsz
  have hown : s.vm.findClass "LassoFinderLaw" = some m.cls := hown
  have C : zCw p l [(0, 16, 19, 20), (0, 16, 22, 13)] s m ([.ref (ad 0), .int a1, .ref (ad 77)] : List Value).toArray meth c A G K method_9_code (some .int) 4 "LassoFinderLaw" := ⟨hx, hb, hr, hml, hts, hown, hlocks, hA, hK, hT, htab, hlt⟩
  have hl : lv_has ls 4 [(0, .ref (ad 0)), (1, .int a1), (2, .ref (ad 77))] := hl
  have hw : zW G A s.heap (wPN ad K I J B D) H locs := hw
  unfold wp_L_truth_N at hok
  refine lv_aload_n hx hb zd_LassoFinderLaw_truth_0 rfl (lv_at hl 2 rfl) ?_
  refine lv_iconst (v := 0) hx hb zd_LassoFinderLaw_truth_1 (by decide) ?_
  refine lv_aload_n hx hb zd_LassoFinderLaw_truth_2 rfl (lv_at hl 0 rfl) ?_
  refine lv_iload_n hx hb zd_LassoFinderLaw_truth_3 rfl (lv_at hl 1 rfl) ?_
  refine z_yV (q0 := 1) (wc := (wX ad K Value.null I J B D)) (wr := [(ad 77, zJ K 1 (D 3))]) (w1 := fun (u : zS) => wX ad K Value.null u.1 u.2.1 u.2.2.1 u.2.2.2) (As := [.int a1]) (rest := [.int 0, .ref (ad 77)]) ⟨hx, hb, hml, hown, hts⟩ (w_LassoFinder_truth_N l hlt G K ad I J B D a1 _ _ H.size hok) zf_LassoFinder_truth zn_915 ⟨Nat.le_of_ble_eq_true rfl, Nat.le_of_ble_eq_true rfl⟩ hK hT hw hA (List.range' 1 65) [0] wPN_allX rfl wPN_ndX (by decide +kernel) wPN_dis wPN_g1 rfl rfl hl.1 rfl (Nat.le_of_ble_eq_true rfl) zd_LassoFinderLaw_truth_4 ⟨Nat.le_of_ble_eq_true rfl, Nat.le_of_ble_eq_true rfl⟩ (fun v st9 t9 L9 h0 hq hL => ?_) (fun E ce q9 u H locs hu hw hce hcv hcl => ?_)
  · skip
    obtain ⟨⟨r1, u, hv9, hok, hB9⟩, hF9⟩ := hq
    cases hv9
    have hw := z_back (wr := [(ad 77, zJ K 1 (D 3))]) hw hA (List.range' 1 65) [0] wPN_allX rfl (by decide +kernel) wPN_dis h0 hL hB9 hF9
    obtain ⟨I1, J1, B1, D1⟩ := u
    dsimp only at hok
    generalize t9.heap = H at hw ⊢
    generalize locs ++ L9 = locs at hw ⊢
    have hw := wPN_mix hw
    have hw : zW G A s.heap (wPN ad K I1 J1 B1 (zmix 3 D1 D)) H locs := hw
    refine W.eq (g2 := F0 m 7 ls [.int r1, .int 0, .ref (ad 77)]) rfl ?_
    refine lv_if_eq (tgt := 14) hx hb zd_LassoFinderLaw_truth_7 (by decide) (fun hc2 => ?_) (fun hc2 => ?_)
    · have hok := hok.1 hc2
      refine lv_lconst (v := 0) hx hb zd_LassoFinderLaw_truth_14 (by decide) ?_
      exact wJ_L_truth_N_15 G K ad a1 Post C 0 0 I1 J1 B1 (zmix 3 D1 D) ls H locs hok (lv_sub hl [] rfl) hw
    · have hok := hok.2 hc2
      refine lv_lconst (v := 1) hx hb zd_LassoFinderLaw_truth_10 (by decide) ?_
      refine lv_goto (tgt := 15) hx hb zd_LassoFinderLaw_truth_11 (by decide) ?_
      exact wJ_L_truth_N_15 G K ad a1 Post C 1 0 I1 J1 B1 (zmix 3 D1 D) ls H locs hok (lv_sub hl [] rfl) hw
  · obtain ⟨I8, J8, B8, D8⟩ := u
    dsimp only at hu
    have hw := wPN_mix hw
    obtain ⟨hu0, hu1, hE⟩ := hu
    rcases hE with rfl | rfl
    · have hok := hu0 rfl
      refine z_catchP hown hts [] ⟨0, 16, 19, 20⟩ [⟨0, 16, 22, 13⟩] htab (fun y9 hy9 => by cases hy9) (by decide) (by decide) zn_909 hT.1 (List.mem_filter.mpr ⟨zt_5 _ (List.mem_of_getElem? (i := 10) rfl), rfl⟩) hce hcv hcl ?_
      refine W.eq (g2 := F0 m 19 ls [.ref q9]) rfl ?_
      refine lv_astore_n hx hb zd_LassoFinderLaw_truth_19 rfl hl (by decide) rfl (fun ls hl => ?_)
      have hl : lv_has ls 4 [(3, .ref q9), (0, .ref (ad 0)), (1, .int a1), (2, .ref (ad 77))] := hl
      refine lv_iconst (v := 1) hx hb zd_LassoFinderLaw_truth_20 (by decide) ?_
      exact (z_iret (u := (I8, J8, B8, (zmix 3 D8 D))) hx hb hr hlocks rfl hw (List.range 66) wPN_all wPN_nd hok (Nat.le_of_ble_eq_true rfl) (Nat.le_of_ble_eq_true rfl) zd_LassoFinderLaw_truth_21)
    · have hok := hu1 rfl
      refine z_catchP hown hts [⟨0, 16, 19, 20⟩] ⟨0, 16, 22, 13⟩ [] htab (List.forall_mem_singleton.mpr ⟨by decide, _, zn_909, hT.2.2.2.2.1⟩) (by decide) (by decide) zn_906 hT.1 (List.mem_filter.mpr ⟨zt_3 _ (List.mem_of_getElem? (i := 149) rfl), rfl⟩) hce hcv hcl ?_
      refine W.eq (g2 := F0 m 22 ls [.ref q9]) rfl ?_
      refine lv_astore_n hx hb zd_LassoFinderLaw_truth_22 rfl hl (by decide) rfl (fun ls hl => ?_)
      have hl : lv_has ls 4 [(3, .ref q9), (0, .ref (ad 0)), (1, .int a1), (2, .ref (ad 77))] := hl
      refine lv_iconst (v := 2) hx hb zd_LassoFinderLaw_truth_23 (by decide) ?_
      exact (z_iret (u := (I8, J8, B8, (zmix 3 D8 D))) hx hb hr hlocks rfl hw (List.range 66) wPN_all wPN_nd hok (Nat.le_of_ble_eq_true rfl) (Nat.le_of_ble_eq_true rfl) zd_LassoFinderLaw_truth_24)
