abbrev zy_LassoFinderLaw_model : MethodName := ⟨"LassoFinderLaw", "model", "(LLassoFinder;[J)I"⟩
abbrev zy_LassoFinderLaw_formula : MethodName := ⟨"LassoFinderLaw", "formula", "(LLassoFinder;[J)I"⟩
abbrev zy_LassoFinderLaw_verify : MethodName := ⟨"LassoFinderLaw", "verify", "(LLassoFinder;[J)I"⟩
abbrev zy_LassoFinderLaw_lasso : MethodName := ⟨"LassoFinderLaw", "lasso", "(LLassoFinder;II[J)I"⟩
abbrev zy_LassoFinderLaw_walk : MethodName := ⟨"LassoFinderLaw", "walk", "(LLassoFinder;)I"⟩
abbrev zy_LassoFinderLaw_go : MethodName := ⟨"LassoFinderLaw", "go", "(LLassoFinder;I[J)I"⟩
abbrev zy_LassoFinderLaw_truth : MethodName := ⟨"LassoFinderLaw", "truth", "(LLassoFinder;I[J)I"⟩
theorem zm_549 : Cond.methodLink "LassoFinderLaw" 7 ⟨"LassoFinder", "model", "()I"⟩ ∈ zTB := z_in (zt_3 _ (List.mem_of_getElem? (i := 87) rfl)) rfl
theorem zm_550 : Cond.classLink "LassoFinderLaw" 13 "java/lang/IllegalArgumentException" ∈ zTB := z_in (zt_3 _ (List.mem_of_getElem? (i := 85) rfl)) rfl
theorem zm_551 : Cond.methodLink "LassoFinderLaw" 17 ⟨"LassoFinder", "formula", "()I"⟩ ∈ zTB := z_in (zt_5 _ (List.mem_of_getElem? (i := 4) rfl)) rfl
theorem zm_552 : Cond.classLink "LassoFinderLaw" 20 "java/lang/IllegalStateException" ∈ zTB := z_in (zt_5 _ (List.mem_of_getElem? (i := 3) rfl)) rfl
theorem zm_553 : Cond.methodLink "LassoFinderLaw" 22 ⟨"LassoFinder", "verify", "()Z"⟩ ∈ zTB := z_in (zt_5 _ (List.mem_of_getElem? (i := 116) rfl)) rfl
theorem zm_554 : Cond.methodLink "LassoFinderLaw" 26 ⟨"LassoFinder", "lasso", "(II)I"⟩ ∈ zTB := z_in (zt_6 _ (List.mem_of_getElem? (i := 34) rfl)) rfl
theorem zm_555 : Cond.classLink "LassoFinderLaw" 30 "java/lang/IndexOutOfBoundsException" ∈ zTB := z_in (zt_6 _ (List.mem_of_getElem? (i := 33) rfl)) rfl
theorem zm_556 : Cond.methodLink "LassoFinderLaw" 32 ⟨"LassoFinder", "walk", "()V"⟩ ∈ zTB := z_in (zt_6 _ (List.mem_of_getElem? (i := 60) rfl)) rfl
theorem zm_557 : Cond.methodLink "LassoFinderLaw" 35 ⟨"LassoFinder", "go", "(I)I"⟩ ∈ zTB := z_in (zt_6 _ (List.mem_of_getElem? (i := 67) rfl)) rfl
theorem zm_558 : Cond.methodLink "LassoFinderLaw" 39 ⟨"LassoFinder", "truth", "(I)Z"⟩ ∈ zTB := z_in (zt_6 _ (List.mem_of_getElem? (i := 74) rfl)) rfl
theorem zm_559 : Cond.code ⟨"LassoFinder", "model", "()I"⟩ prog_1_method_3_code 1 (some .int) ∈ zTB := z_in (zt_3 _ (List.mem_of_getElem? (i := 90) rfl)) rfl
theorem zm_560 : Cond.selects "LassoFinder" ⟨"LassoFinder", "model", "()I"⟩ ⟨"LassoFinder", "model", "()I"⟩ ∈ zTB := z_in (zt_3 _ (List.mem_of_getElem? (i := 89) rfl)) rfl
theorem zm_561 : Cond.instanceMethod ⟨"LassoFinder", "model", "()I"⟩ ∈ zTB := z_in (zt_3 _ (List.mem_of_getElem? (i := 88) rfl)) rfl
theorem zm_562 : Cond.code ⟨"LassoFinder", "formula", "()I"⟩ prog_1_method_4_code 1 (some .int) ∈ zTB := z_in (zt_5 _ (List.mem_of_getElem? (i := 7) rfl)) rfl
theorem zm_563 : Cond.selects "LassoFinder" ⟨"LassoFinder", "formula", "()I"⟩ ⟨"LassoFinder", "formula", "()I"⟩ ∈ zTB := z_in (zt_5 _ (List.mem_of_getElem? (i := 6) rfl)) rfl
theorem zm_564 : Cond.instanceMethod ⟨"LassoFinder", "formula", "()I"⟩ ∈ zTB := z_in (zt_5 _ (List.mem_of_getElem? (i := 5) rfl)) rfl
theorem zm_565 : Cond.code ⟨"LassoFinder", "verify", "()Z"⟩ prog_1_method_6_code 1 (some .boolean) ∈ zTB := z_in (zt_5 _ (List.mem_of_getElem? (i := 119) rfl)) rfl
theorem zm_566 : Cond.selects "LassoFinder" ⟨"LassoFinder", "verify", "()Z"⟩ ⟨"LassoFinder", "verify", "()Z"⟩ ∈ zTB := z_in (zt_5 _ (List.mem_of_getElem? (i := 118) rfl)) rfl
theorem zm_567 : Cond.instanceMethod ⟨"LassoFinder", "verify", "()Z"⟩ ∈ zTB := z_in (zt_5 _ (List.mem_of_getElem? (i := 117) rfl)) rfl
theorem zm_568 : Cond.code ⟨"LassoFinder", "lasso", "(II)I"⟩ prog_1_method_9_code 4 (some .int) ∈ zTB := z_in (zt_6 _ (List.mem_of_getElem? (i := 37) rfl)) rfl
theorem zm_569 : Cond.selects "LassoFinder" ⟨"LassoFinder", "lasso", "(II)I"⟩ ⟨"LassoFinder", "lasso", "(II)I"⟩ ∈ zTB := z_in (zt_6 _ (List.mem_of_getElem? (i := 36) rfl)) rfl
theorem zm_570 : Cond.instanceMethod ⟨"LassoFinder", "lasso", "(II)I"⟩ ∈ zTB := z_in (zt_6 _ (List.mem_of_getElem? (i := 35) rfl)) rfl
theorem zm_571 : Cond.code ⟨"LassoFinder", "walk", "()V"⟩ prog_1_method_10_code 1 none ∈ zTB := z_in (zt_6 _ (List.mem_of_getElem? (i := 63) rfl)) rfl
theorem zm_572 : Cond.selects "LassoFinder" ⟨"LassoFinder", "walk", "()V"⟩ ⟨"LassoFinder", "walk", "()V"⟩ ∈ zTB := z_in (zt_6 _ (List.mem_of_getElem? (i := 62) rfl)) rfl
theorem zm_573 : Cond.instanceMethod ⟨"LassoFinder", "walk", "()V"⟩ ∈ zTB := z_in (zt_6 _ (List.mem_of_getElem? (i := 61) rfl)) rfl
theorem zm_574 : Cond.code ⟨"LassoFinder", "go", "(I)I"⟩ prog_1_method_12_code 4 (some .int) ∈ zTB := z_in (zt_6 _ (List.mem_of_getElem? (i := 70) rfl)) rfl
theorem zm_575 : Cond.selects "LassoFinder" ⟨"LassoFinder", "go", "(I)I"⟩ ⟨"LassoFinder", "go", "(I)I"⟩ ∈ zTB := z_in (zt_6 _ (List.mem_of_getElem? (i := 69) rfl)) rfl
theorem zm_576 : Cond.instanceMethod ⟨"LassoFinder", "go", "(I)I"⟩ ∈ zTB := z_in (zt_6 _ (List.mem_of_getElem? (i := 68) rfl)) rfl
theorem zm_577 : Cond.code ⟨"LassoFinder", "truth", "(I)Z"⟩ prog_1_method_17_code 2 (some .boolean) ∈ zTB := z_in (zt_6 _ (List.mem_of_getElem? (i := 77) rfl)) rfl
theorem zm_578 : Cond.selects "LassoFinder" ⟨"LassoFinder", "truth", "(I)Z"⟩ ⟨"LassoFinder", "truth", "(I)Z"⟩ ∈ zTB := z_in (zt_6 _ (List.mem_of_getElem? (i := 76) rfl)) rfl
theorem zm_579 : Cond.instanceMethod ⟨"LassoFinder", "truth", "(I)Z"⟩ ∈ zTB := z_in (zt_6 _ (List.mem_of_getElem? (i := 75) rfl)) rfl
theorem zf_LassoFinder_model : zFaceV zy_LassoFinder_model prog_1_method_3_code 1 (some .int) 0 := ⟨zm_561, zm_560, zm_1, zm_559, by decide +kernel, by decide +kernel, by decide +kernel⟩
theorem zf_LassoFinder_formula : zFaceV zy_LassoFinder_formula prog_1_method_4_code 1 (some .int) 0 := ⟨zm_564, zm_563, zm_1, zm_562, by decide +kernel, by decide +kernel, by decide +kernel⟩
theorem zf_LassoFinder_verify : zFaceV zy_LassoFinder_verify prog_1_method_6_code 1 (some .boolean) 0 := ⟨zm_567, zm_566, zm_1, zm_565, by decide +kernel, by decide +kernel, by decide +kernel⟩
theorem zf_LassoFinder_lasso : zFaceV zy_LassoFinder_lasso prog_1_method_9_code 4 (some .int) 2 := ⟨zm_570, zm_569, zm_1, zm_568, by decide +kernel, by decide +kernel, by decide +kernel⟩
theorem zf_LassoFinder_walk : zFaceV zy_LassoFinder_walk prog_1_method_10_code 1 none 0 := ⟨zm_573, zm_572, zm_1, zm_571, by decide +kernel, by decide +kernel, by decide +kernel⟩
theorem zf_LassoFinder_go : zFaceV zy_LassoFinder_go prog_1_method_12_code 4 (some .int) 1 := ⟨zm_576, zm_575, zm_1, zm_574, by decide +kernel, by decide +kernel, by decide +kernel⟩
theorem zf_LassoFinder_truth : zFaceV zy_LassoFinder_truth prog_1_method_17_code 2 (some .boolean) 1 := ⟨zm_579, zm_578, zm_1, zm_577, by decide +kernel, by decide +kernel, by decide +kernel⟩
theorem zd_LassoFinderLaw_formula_0 : decode method_4_code 0 = .ok (.aload_n 1, 1) := by decide +kernel
theorem zd_LassoFinderLaw_formula_1 : decode method_4_code 1 = .ok (.iconst 0, 1) := by decide +kernel
theorem zd_LassoFinderLaw_formula_2 : decode method_4_code 2 = .ok (.aload_n 0, 1) := by decide +kernel
theorem zd_LassoFinderLaw_formula_3 : decode method_4_code 3 = .ok (.invokevirtual 17, 3) := by decide +kernel
theorem zd_LassoFinderLaw_formula_11 : decode method_4_code 11 = .ok (.astore_n 2, 1) := by decide +kernel
theorem zd_LassoFinderLaw_formula_12 : decode method_4_code 12 = .ok (.iconst 1, 1) := by decide +kernel
theorem zd_LassoFinderLaw_formula_13 : decode method_4_code 13 = .ok (.ireturn, 1) := by decide +kernel
theorem zd_LassoFinderLaw_go_0 : decode method_8_code 0 = .ok (.aload_n 2, 1) := by decide +kernel
theorem zd_LassoFinderLaw_go_1 : decode method_8_code 1 = .ok (.iconst 0, 1) := by decide +kernel
theorem zd_LassoFinderLaw_go_2 : decode method_8_code 2 = .ok (.aload_n 0, 1) := by decide +kernel
theorem zd_LassoFinderLaw_go_3 : decode method_8_code 3 = .ok (.iload_n 1, 1) := by decide +kernel
theorem zd_LassoFinderLaw_go_4 : decode method_8_code 4 = .ok (.invokevirtual 35, 3) := by decide +kernel
theorem zd_LassoFinderLaw_go_12 : decode method_8_code 12 = .ok (.astore_n 3, 1) := by decide +kernel
theorem zd_LassoFinderLaw_go_13 : decode method_8_code 13 = .ok (.iconst 1, 1) := by decide +kernel
theorem zd_LassoFinderLaw_go_14 : decode method_8_code 14 = .ok (.ireturn, 1) := by decide +kernel
theorem zd_LassoFinderLaw_lasso_0 : decode method_6_code 0 = .ok (.aload_n 3, 1) := by decide +kernel
theorem zd_LassoFinderLaw_lasso_1 : decode method_6_code 1 = .ok (.iconst 0, 1) := by decide +kernel
theorem zd_LassoFinderLaw_lasso_2 : decode method_6_code 2 = .ok (.aload_n 0, 1) := by decide +kernel
theorem zd_LassoFinderLaw_lasso_3 : decode method_6_code 3 = .ok (.iload_n 1, 1) := by decide +kernel
theorem zd_LassoFinderLaw_lasso_4 : decode method_6_code 4 = .ok (.iload_n 2, 1) := by decide +kernel
theorem zd_LassoFinderLaw_lasso_5 : decode method_6_code 5 = .ok (.invokevirtual 26, 3) := by decide +kernel
theorem zd_LassoFinderLaw_lasso_13 : decode method_6_code 13 = .ok (.astore 4, 2) := by decide +kernel
theorem zd_LassoFinderLaw_lasso_15 : decode method_6_code 15 = .ok (.iconst 1, 1) := by decide +kernel
theorem zd_LassoFinderLaw_lasso_16 : decode method_6_code 16 = .ok (.ireturn, 1) := by decide +kernel
theorem zd_LassoFinderLaw_model_0 : decode method_3_code 0 = .ok (.aload_n 1, 1) := by decide +kernel
theorem zd_LassoFinderLaw_model_1 : decode method_3_code 1 = .ok (.iconst 0, 1) := by decide +kernel
theorem zd_LassoFinderLaw_model_2 : decode method_3_code 2 = .ok (.aload_n 0, 1) := by decide +kernel
theorem zd_LassoFinderLaw_model_3 : decode method_3_code 3 = .ok (.invokevirtual 7, 3) := by decide +kernel
theorem zd_LassoFinderLaw_model_11 : decode method_3_code 11 = .ok (.astore_n 2, 1) := by decide +kernel
theorem zd_LassoFinderLaw_model_12 : decode method_3_code 12 = .ok (.iconst 1, 1) := by decide +kernel
theorem zd_LassoFinderLaw_model_13 : decode method_3_code 13 = .ok (.ireturn, 1) := by decide +kernel
theorem zd_LassoFinderLaw_truth_0 : decode method_9_code 0 = .ok (.aload_n 2, 1) := by decide +kernel
theorem zd_LassoFinderLaw_truth_1 : decode method_9_code 1 = .ok (.iconst 0, 1) := by decide +kernel
theorem zd_LassoFinderLaw_truth_2 : decode method_9_code 2 = .ok (.aload_n 0, 1) := by decide +kernel
theorem zd_LassoFinderLaw_truth_3 : decode method_9_code 3 = .ok (.iload_n 1, 1) := by decide +kernel
theorem zd_LassoFinderLaw_truth_4 : decode method_9_code 4 = .ok (.invokevirtual 39, 3) := by decide +kernel
theorem zd_LassoFinderLaw_truth_19 : decode method_9_code 19 = .ok (.astore_n 3, 1) := by decide +kernel
theorem zd_LassoFinderLaw_truth_20 : decode method_9_code 20 = .ok (.iconst 1, 1) := by decide +kernel
theorem zd_LassoFinderLaw_truth_21 : decode method_9_code 21 = .ok (.ireturn, 1) := by decide +kernel
theorem zd_LassoFinderLaw_verify_0 : decode method_5_code 0 = .ok (.aload_n 1, 1) := by decide +kernel
theorem zd_LassoFinderLaw_verify_1 : decode method_5_code 1 = .ok (.iconst 0, 1) := by decide +kernel
theorem zd_LassoFinderLaw_verify_2 : decode method_5_code 2 = .ok (.aload_n 0, 1) := by decide +kernel
theorem zd_LassoFinderLaw_verify_3 : decode method_5_code 3 = .ok (.invokevirtual 22, 3) := by decide +kernel
theorem zd_LassoFinderLaw_verify_18 : decode method_5_code 18 = .ok (.astore_n 2, 1) := by decide +kernel
theorem zd_LassoFinderLaw_verify_19 : decode method_5_code 19 = .ok (.iconst 1, 1) := by decide +kernel
theorem zd_LassoFinderLaw_verify_20 : decode method_5_code 20 = .ok (.ireturn, 1) := by decide +kernel
theorem zd_LassoFinderLaw_walk_0 : decode method_7_code 0 = .ok (.aload_n 0, 1) := by decide +kernel
theorem zd_LassoFinderLaw_walk_1 : decode method_7_code 1 = .ok (.invokevirtual 32, 3) := by decide +kernel
theorem zd_LassoFinderLaw_walk_7 : decode method_7_code 7 = .ok (.astore_n 1, 1) := by decide +kernel
theorem zd_LassoFinderLaw_walk_8 : decode method_7_code 8 = .ok (.iconst 1, 1) := by decide +kernel
theorem zd_LassoFinderLaw_walk_9 : decode method_7_code 9 = .ok (.ireturn, 1) := by decide +kernel
set_option maxHeartbeats 4000000 in
set_option maxRecDepth 100000 in
theorem c_L_model (l : Launch) (hlt : l.stackTraces = false) (G : va_G) (K : Nat → ClassId) (x9 : Nat) (r9 : Nat) (t9 : Nat) (n9 : Nat) (k9 : Nat) (e9 : Nat) (p9 : Nat) (pr : Nat) (ps : Nat) (pl : Nat) (pb : Nat) (x9_names : Value) (x9_program : Value) (x9_situation : Value) (x9_graph : Value) (x9_asked : Value) (x9_truths : Value) (x9_walked : Value) (x9_walkLength : Int32) (x9_hasModel : Int32) (x9_hasFormula : Int32) (r9_tree : Value) (t9_signs : Value) (t9_end : Int32) (t9_at : Int32) (t9_wrongAt : Int32) (n9_digits : Value) (n9_variableNames : Value) (n9_channelNames : Value) (n9_variables : Int32) (n9_channels : Int32) (fk : Nat → Int32) (e9_text : Value) (e9_names : Value) (e9_codes : Value) (e9_length : Int32) (e9_waiting : Value) (e9_waitingSigns : Int32) (e9_sides : Value) (e9_parts : Int32) (e9_open : Int32) (e9_compared : Int32) (p9_kinds : Value) (p9_channel : Value) (p9_variable : Value) (p9_expression : Value) (p9_actor : Value) (p9_after : Value) (p9_keeps : Value) (p9_elses : Int64) (p9_basics : Int32) (p9_processes : Int32) (fr : Nat → Int64) (fs : Nat → Int32) (fl : Nat → Int32) (fb : Nat → Int64) (o9 : Nat) (sz : Nat) : Met l zy_LassoFinderLaw_model (Cond.codeWith zy_LassoFinderLaw_model method_3_code 3 (some .int) [(0, 8, 11, 13), (0, 8, 14, 15)] :: zTB) { frames := 10, cells := 1, slots := 6, locals := 166 } (va_Pc [.ref x9, .ref o9] (zPreX G K [(x9, zO 0 [.ref t9, x9_names, x9_program, .ref r9, x9_situation, x9_graph, x9_asked, x9_truths, .null, x9_walked, .int x9_walkLength, .int x9_hasModel, .int x9_hasFormula]), (r9, zO 4 [.ref t9, .ref n9, .ref e9, .ref p9, r9_tree]), (t9, zO 9 [t9_signs, .int 0, .int t9_end, .int t9_at, .int t9_wrongAt]), (n9, zO 5 [.ref k9, n9_digits, n9_variableNames, n9_channelNames, .int n9_variables, .int n9_channels]), (k9, zI K 8 fk), (e9, zO 8 [e9_text, e9_names, e9_codes, .int e9_length, e9_waiting, .int e9_waitingSigns, e9_sides, .int e9_parts, .int e9_open, .int e9_compared]), (p9, zO 6 [p9_kinds, p9_channel, p9_variable, p9_expression, p9_actor, p9_after, p9_keeps, .ref pr, .ref ps, .ref pl, .ref pb, .long p9_elses, .int p9_basics, .int p9_processes]), (pr, zJ K 8 fr), (ps, zI K 4 fs), (pl, zI K 32 fl), (pb, zJ K 124 fb)] sz)) (va_Qi (fun (r : Int32) (u : Unit) => r = 1) (fun u t => zPost G K (va_A [(x9, zO 0 [.ref t9, x9_names, x9_program, .ref r9, x9_situation, x9_graph, x9_asked, x9_truths, .null, x9_walked, .int x9_walkLength, .int x9_hasModel, .int x9_hasFormula]), (r9, zO 4 [.ref t9, .ref n9, .ref e9, .ref p9, r9_tree]), (t9, zO 9 [t9_signs, .int 0, .int t9_end, .int t9_at, .int t9_wrongAt]), (n9, zO 5 [.ref k9, n9_digits, n9_variableNames, n9_channelNames, .int n9_variables, .int n9_channels]), (k9, zI K 8 fk), (e9, zO 8 [e9_text, e9_names, e9_codes, .int e9_length, e9_waiting, .int e9_waitingSigns, e9_sides, .int e9_parts, .int e9_open, .int e9_compared]), (p9, zO 6 [p9_kinds, p9_channel, p9_variable, p9_expression, p9_actor, p9_after, p9_keeps, .ref pr, .ref ps, .ref pl, .ref pb, .long p9_elses, .int p9_basics, .int p9_processes]), (pr, zJ K 8 fr), (ps, zI K 4 fs), (pl, zI K 32 fl), (pb, zJ K 124 fb)] sz) [] t) (va_A [(x9, zO 0 [.ref t9, x9_names, x9_program, .ref r9, x9_situation, x9_graph, x9_asked, x9_truths, .null, x9_walked, .int x9_walkLength, .int x9_hasModel, .int x9_hasFormula]), (r9, zO 4 [.ref t9, .ref n9, .ref e9, .ref p9, r9_tree]), (t9, zO 9 [t9_signs, .int 0, .int t9_end, .int t9_at, .int t9_wrongAt]), (n9, zO 5 [.ref k9, n9_digits, n9_variableNames, n9_channelNames, .int n9_variables, .int n9_channels]), (k9, zI K 8 fk), (e9, zO 8 [e9_text, e9_names, e9_codes, .int e9_length, e9_waiting, .int e9_waitingSigns, e9_sides, .int e9_parts, .int e9_open, .int e9_compared]), (p9, zO 6 [p9_kinds, p9_channel, p9_variable, p9_expression, p9_actor, p9_after, p9_keeps, .ref pr, .ref ps, .ref pl, .ref pb, .long p9_elses, .int p9_basics, .int p9_processes]), (pr, zJ K 8 fr), (ps, zI K 4 fs), (pl, zI K 32 fl), (pb, zJ K 124 fb)] sz)) 1 6 (va_A [(x9, zO 0 [.ref t9, x9_names, x9_program, .ref r9, x9_situation, x9_graph, x9_asked, x9_truths, .null, x9_walked, .int x9_walkLength, .int x9_hasModel, .int x9_hasFormula]), (r9, zO 4 [.ref t9, .ref n9, .ref e9, .ref p9, r9_tree]), (t9, zO 9 [t9_signs, .int 0, .int t9_end, .int t9_at, .int t9_wrongAt]), (n9, zO 5 [.ref k9, n9_digits, n9_variableNames, n9_channelNames, .int n9_variables, .int n9_channels]), (k9, zI K 8 fk), (e9, zO 8 [e9_text, e9_names, e9_codes, .int e9_length, e9_waiting, .int e9_waitingSigns, e9_sides, .int e9_parts, .int e9_open, .int e9_compared]), (p9, zO 6 [p9_kinds, p9_channel, p9_variable, p9_expression, p9_actor, p9_after, p9_keeps, .ref pr, .ref ps, .ref pl, .ref pb, .long p9_elses, .int p9_basics, .int p9_processes]), (pr, zJ K 8 fr), (ps, zI K 4 fs), (pl, zI K 32 fl), (pb, zJ K 124 fb)] sz) := by
  refine zMetW (Qf := fun A => va_Qi (fun (r : Int32) (u : Unit) => r = 1) (fun u t => zPost G K A [] t) A) (by decide) (Nat.le_of_ble_eq_true rfl) ?_
  intro p e s m below meth c ls A hx hb hr hml hts hown hlocks hin hA hK H locs hw hsz hl hT htab
  clear hsz
  have hown : s.vm.findClass "LassoFinderLaw" = some m.cls := hown
  have hl : lv_has ls 3 [(0, .ref x9), (1, .ref o9)] := hl
  have hw : zW G A s.heap [(x9, zO 0 [.ref t9, x9_names, x9_program, .ref r9, x9_situation, x9_graph, x9_asked, x9_truths, .null, x9_walked, .int x9_walkLength, .int x9_hasModel, .int x9_hasFormula]), (r9, zO 4 [.ref t9, .ref n9, .ref e9, .ref p9, r9_tree]), (t9, zO 9 [t9_signs, .int 0, .int t9_end, .int t9_at, .int t9_wrongAt]), (n9, zO 5 [.ref k9, n9_digits, n9_variableNames, n9_channelNames, .int n9_variables, .int n9_channels]), (k9, zI K 8 fk), (e9, zO 8 [e9_text, e9_names, e9_codes, .int e9_length, e9_waiting, .int e9_waitingSigns, e9_sides, .int e9_parts, .int e9_open, .int e9_compared]), (p9, zO 6 [p9_kinds, p9_channel, p9_variable, p9_expression, p9_actor, p9_after, p9_keeps, .ref pr, .ref ps, .ref pl, .ref pb, .long p9_elses, .int p9_basics, .int p9_processes]), (pr, zJ K 8 fr), (ps, zI K 4 fs), (pl, zI K 32 fl), (pb, zJ K 124 fb)] H locs := hw
  refine lv_aload_n hx hb zd_LassoFinderLaw_model_0 rfl (lv_at hl 1 rfl) ?_
  refine lv_iconst (v := 0) hx hb zd_LassoFinderLaw_model_1 (by decide) ?_
  refine lv_aload_n hx hb zd_LassoFinderLaw_model_2 rfl (lv_at hl 0 rfl) ?_
  refine z_xV (px := fun _ : Unit => True) (w1 := fun _ => []) (q0 := 0) (wc := [(x9, zO 0 [.ref t9, x9_names, x9_program, .ref r9, x9_situation, x9_graph, x9_asked, x9_truths, .null, x9_walked, .int x9_walkLength, .int x9_hasModel, .int x9_hasFormula]), (r9, zO 4 [.ref t9, .ref n9, .ref e9, .ref p9, r9_tree]), (t9, zO 9 [t9_signs, .int 0, .int t9_end, .int t9_at, .int t9_wrongAt]), (n9, zO 5 [.ref k9, n9_digits, n9_variableNames, n9_channelNames, .int n9_variables, .int n9_channels]), (k9, zI K 8 fk), (e9, zO 8 [e9_text, e9_names, e9_codes, .int e9_length, e9_waiting, .int e9_waitingSigns, e9_sides, .int e9_parts, .int e9_open, .int e9_compared]), (p9, zO 6 [p9_kinds, p9_channel, p9_variable, p9_expression, p9_actor, p9_after, p9_keeps, .ref pr, .ref ps, .ref pl, .ref pb, .long p9_elses, .int p9_basics, .int p9_processes]), (pr, zJ K 8 fr), (ps, zI K 4 fs), (pl, zI K 32 fl), (pb, zJ K 124 fb)]) (wr := []) (As := []) (rest := [.int 0, .ref o9]) ⟨hx, hb, hml, hown, hts⟩ (c_model_0 l hlt G K x9 r9 t9 n9 k9 e9 p9 pr ps pl pb x9_names x9_program x9_situation x9_graph x9_asked x9_truths x9_walked x9_walkLength x9_hasModel x9_hasFormula r9_tree t9_signs t9_end t9_at t9_wrongAt n9_digits n9_variableNames n9_channelNames n9_variables n9_channels fk e9_text e9_names e9_codes e9_length e9_waiting e9_waitingSigns e9_sides e9_parts e9_open e9_compared p9_kinds p9_channel p9_variable p9_expression p9_actor p9_after p9_keeps p9_elses p9_basics p9_processes fr fs fl fb H.size ) zf_LassoFinder_model zm_549 ⟨Nat.le_of_ble_eq_true rfl, Nat.le_of_ble_eq_true rfl⟩ hK hT hw hA [0, 1, 2, 3, 4, 5, 6, 7, 8, 9, 10] [] rfl rfl (by decide) (by decide) (by decide) rfl rfl rfl hl.1 rfl (Nat.le_of_ble_eq_true rfl) zd_LassoFinderLaw_model_3 ⟨Nat.le_of_ble_eq_true rfl, Nat.le_of_ble_eq_true rfl⟩ (fun ce q9 _ H locs hu hw hce hcv hcl => ?_)
  have hw : zW G A s.heap [] H locs := hw
  refine z_catch hown hts _ _ htab (by decide) (by decide) zm_550 hT (List.mem_filter.mpr ⟨zt_3 _ (List.mem_of_getElem? (i := 149) rfl), rfl⟩) hce hcv hcl ?_
  refine W.eq (g2 := F0 m 11 ls [.ref q9]) rfl ?_
  refine lv_astore_n hx hb zd_LassoFinderLaw_model_11 rfl hl (by decide) rfl (fun ls hl => ?_)
  have hl : lv_has ls 3 [(2, .ref q9), (0, .ref x9), (1, .ref o9)] := hl
  refine lv_iconst (v := 1) hx hb zd_LassoFinderLaw_model_12 (by decide) ?_
  exact z_iret (u := ()) hx hb hr hlocks rfl hw [] rfl (by decide) rfl (Nat.le_of_ble_eq_true rfl) (Nat.le_of_ble_eq_true rfl) zd_LassoFinderLaw_model_13
set_option maxHeartbeats 4000000 in
set_option maxRecDepth 100000 in
theorem c_L_formula (l : Launch) (hlt : l.stackTraces = false) (G : va_G) (K : Nat → ClassId) (x9 : Nat) (t9 : Nat) (x9_names : Value) (x9_program : Value) (x9_reader : Value) (x9_situation : Value) (x9_graph : Value) (x9_asked : Value) (x9_truths : Value) (x9_walked : Value) (x9_walkLength : Int32) (x9_hasFormula : Int32) (t9_signs : Value) (t9_written : Int32) (t9_end : Int32) (t9_at : Int32) (t9_wrongAt : Int32) (o9 : Nat) (sz : Nat) : Met l zy_LassoFinderLaw_formula (Cond.codeWith zy_LassoFinderLaw_formula method_4_code 3 (some .int) [(0, 8, 11, 20), (0, 8, 14, 13)] :: zTB) { frames := 7, cells := 1, slots := 6, locals := 101 } (va_Pc [.ref x9, .ref o9] (zPreX G K [(x9, zO 0 [.ref t9, x9_names, x9_program, x9_reader, x9_situation, x9_graph, x9_asked, x9_truths, .null, x9_walked, .int x9_walkLength, .int 0, .int x9_hasFormula]), (t9, zO 9 [t9_signs, .int t9_written, .int t9_end, .int t9_at, .int t9_wrongAt])] sz)) (va_Qi (fun (r : Int32) (u : Unit) => r = 1) (fun u t => zPost G K (va_A [(x9, zO 0 [.ref t9, x9_names, x9_program, x9_reader, x9_situation, x9_graph, x9_asked, x9_truths, .null, x9_walked, .int x9_walkLength, .int 0, .int x9_hasFormula]), (t9, zO 9 [t9_signs, .int t9_written, .int t9_end, .int t9_at, .int t9_wrongAt])] sz) [] t) (va_A [(x9, zO 0 [.ref t9, x9_names, x9_program, x9_reader, x9_situation, x9_graph, x9_asked, x9_truths, .null, x9_walked, .int x9_walkLength, .int 0, .int x9_hasFormula]), (t9, zO 9 [t9_signs, .int t9_written, .int t9_end, .int t9_at, .int t9_wrongAt])] sz)) 1 6 (va_A [(x9, zO 0 [.ref t9, x9_names, x9_program, x9_reader, x9_situation, x9_graph, x9_asked, x9_truths, .null, x9_walked, .int x9_walkLength, .int 0, .int x9_hasFormula]), (t9, zO 9 [t9_signs, .int t9_written, .int t9_end, .int t9_at, .int t9_wrongAt])] sz) := by
  refine zMetW (Qf := fun A => va_Qi (fun (r : Int32) (u : Unit) => r = 1) (fun u t => zPost G K A [] t) A) (by decide) (Nat.le_of_ble_eq_true rfl) ?_
  intro p e s m below meth c ls A hx hb hr hml hts hown hlocks hin hA hK H locs hw hsz hl hT htab
  clear hsz
  have hown : s.vm.findClass "LassoFinderLaw" = some m.cls := hown
  have hl : lv_has ls 3 [(0, .ref x9), (1, .ref o9)] := hl
  have hw : zW G A s.heap [(x9, zO 0 [.ref t9, x9_names, x9_program, x9_reader, x9_situation, x9_graph, x9_asked, x9_truths, .null, x9_walked, .int x9_walkLength, .int 0, .int x9_hasFormula]), (t9, zO 9 [t9_signs, .int t9_written, .int t9_end, .int t9_at, .int t9_wrongAt])] H locs := hw
  refine lv_aload_n hx hb zd_LassoFinderLaw_formula_0 rfl (lv_at hl 1 rfl) ?_
  refine lv_iconst (v := 0) hx hb zd_LassoFinderLaw_formula_1 (by decide) ?_
  refine lv_aload_n hx hb zd_LassoFinderLaw_formula_2 rfl (lv_at hl 0 rfl) ?_
  refine z_xV (px := fun _ : Unit => True) (w1 := fun _ => []) (q0 := 0) (wc := [(x9, zO 0 [.ref t9, x9_names, x9_program, x9_reader, x9_situation, x9_graph, x9_asked, x9_truths, .null, x9_walked, .int x9_walkLength, .int 0, .int x9_hasFormula]), (t9, zO 9 [t9_signs, .int t9_written, .int t9_end, .int t9_at, .int t9_wrongAt])]) (wr := []) (As := []) (rest := [.int 0, .ref o9]) ⟨hx, hb, hml, hown, hts⟩ (c_formula_0 l hlt G K x9 t9 x9_names x9_program x9_reader x9_situation x9_graph x9_asked x9_truths x9_walked x9_walkLength x9_hasFormula t9_signs t9_written t9_end t9_at t9_wrongAt H.size ) zf_LassoFinder_formula zm_551 ⟨Nat.le_of_ble_eq_true rfl, Nat.le_of_ble_eq_true rfl⟩ hK hT hw hA [0, 1] [] rfl rfl (by decide) (by decide) (by decide) rfl rfl rfl hl.1 rfl (Nat.le_of_ble_eq_true rfl) zd_LassoFinderLaw_formula_3 ⟨Nat.le_of_ble_eq_true rfl, Nat.le_of_ble_eq_true rfl⟩ (fun ce q9 _ H locs hu hw hce hcv hcl => ?_)
  have hw : zW G A s.heap [] H locs := hw
  refine z_catch hown hts _ _ htab (by decide) (by decide) zm_552 hT (List.mem_filter.mpr ⟨zt_5 _ (List.mem_of_getElem? (i := 10) rfl), rfl⟩) hce hcv hcl ?_
  refine W.eq (g2 := F0 m 11 ls [.ref q9]) rfl ?_
  refine lv_astore_n hx hb zd_LassoFinderLaw_formula_11 rfl hl (by decide) rfl (fun ls hl => ?_)
  have hl : lv_has ls 3 [(2, .ref q9), (0, .ref x9), (1, .ref o9)] := hl
  refine lv_iconst (v := 1) hx hb zd_LassoFinderLaw_formula_12 (by decide) ?_
  exact z_iret (u := ()) hx hb hr hlocks rfl hw [] rfl (by decide) rfl (Nat.le_of_ble_eq_true rfl) (Nat.le_of_ble_eq_true rfl) zd_LassoFinderLaw_formula_13
set_option maxHeartbeats 4000000 in
set_option maxRecDepth 100000 in
theorem c_L_verify (l : Launch) (hlt : l.stackTraces = false) (G : va_G) (K : Nat → ClassId) (x9 : Nat) (x9_text : Value) (x9_names : Value) (x9_program : Value) (x9_reader : Value) (x9_situation : Value) (x9_graph : Value) (x9_asked : Value) (x9_truths : Value) (x9_search : Value) (x9_walked : Value) (x9_walkLength : Int32) (x9_hasModel : Int32) (o9 : Nat) (sz : Nat) : Met l zy_LassoFinderLaw_verify (Cond.codeWith zy_LassoFinderLaw_verify method_5_code 3 (some .int) [(0, 15, 18, 20)] :: zTB) { frames := 7, cells := 1, slots := 6, locals := 101 } (va_Pc [.ref x9, .ref o9] (zPreX G K [(x9, zO 0 [x9_text, x9_names, x9_program, x9_reader, x9_situation, x9_graph, x9_asked, x9_truths, x9_search, x9_walked, .int x9_walkLength, .int x9_hasModel, .int 0])] sz)) (va_Qi (fun (r : Int32) (u : Unit) => r = 1) (fun u t => zPost G K (va_A [(x9, zO 0 [x9_text, x9_names, x9_program, x9_reader, x9_situation, x9_graph, x9_asked, x9_truths, x9_search, x9_walked, .int x9_walkLength, .int x9_hasModel, .int 0])] sz) [] t) (va_A [(x9, zO 0 [x9_text, x9_names, x9_program, x9_reader, x9_situation, x9_graph, x9_asked, x9_truths, x9_search, x9_walked, .int x9_walkLength, .int x9_hasModel, .int 0])] sz)) 1 6 (va_A [(x9, zO 0 [x9_text, x9_names, x9_program, x9_reader, x9_situation, x9_graph, x9_asked, x9_truths, x9_search, x9_walked, .int x9_walkLength, .int x9_hasModel, .int 0])] sz) := by
  refine zMetW (Qf := fun A => va_Qi (fun (r : Int32) (u : Unit) => r = 1) (fun u t => zPost G K A [] t) A) (by decide) (Nat.le_of_ble_eq_true rfl) ?_
  intro p e s m below meth c ls A hx hb hr hml hts hown hlocks hin hA hK H locs hw hsz hl hT htab
  clear hsz
  have hown : s.vm.findClass "LassoFinderLaw" = some m.cls := hown
  have hl : lv_has ls 3 [(0, .ref x9), (1, .ref o9)] := hl
  have hw : zW G A s.heap [(x9, zO 0 [x9_text, x9_names, x9_program, x9_reader, x9_situation, x9_graph, x9_asked, x9_truths, x9_search, x9_walked, .int x9_walkLength, .int x9_hasModel, .int 0])] H locs := hw
  refine lv_aload_n hx hb zd_LassoFinderLaw_verify_0 rfl (lv_at hl 1 rfl) ?_
  refine lv_iconst (v := 0) hx hb zd_LassoFinderLaw_verify_1 (by decide) ?_
  refine lv_aload_n hx hb zd_LassoFinderLaw_verify_2 rfl (lv_at hl 0 rfl) ?_
  refine z_xV (px := fun _ : Unit => True) (w1 := fun _ => []) (q0 := 0) (wc := [(x9, zO 0 [x9_text, x9_names, x9_program, x9_reader, x9_situation, x9_graph, x9_asked, x9_truths, x9_search, x9_walked, .int x9_walkLength, .int x9_hasModel, .int 0])]) (wr := []) (As := []) (rest := [.int 0, .ref o9]) ⟨hx, hb, hml, hown, hts⟩ (c_verify_0 l hlt G K x9 x9_text x9_names x9_program x9_reader x9_situation x9_graph x9_asked x9_truths x9_search x9_walked x9_walkLength x9_hasModel H.size ) zf_LassoFinder_verify zm_553 ⟨Nat.le_of_ble_eq_true rfl, Nat.le_of_ble_eq_true rfl⟩ hK hT hw hA [0] [] rfl rfl (by decide) (by decide) (by decide) rfl rfl rfl hl.1 rfl (Nat.le_of_ble_eq_true rfl) zd_LassoFinderLaw_verify_3 ⟨Nat.le_of_ble_eq_true rfl, Nat.le_of_ble_eq_true rfl⟩ (fun ce q9 _ H locs hu hw hce hcv hcl => ?_)
  have hw : zW G A s.heap [] H locs := hw
  refine z_catch hown hts _ _ htab (by decide) (by decide) zm_552 hT (List.mem_filter.mpr ⟨zt_5 _ (List.mem_of_getElem? (i := 10) rfl), rfl⟩) hce hcv hcl ?_
  refine W.eq (g2 := F0 m 18 ls [.ref q9]) rfl ?_
  refine lv_astore_n hx hb zd_LassoFinderLaw_verify_18 rfl hl (by decide) rfl (fun ls hl => ?_)
  have hl : lv_has ls 3 [(2, .ref q9), (0, .ref x9), (1, .ref o9)] := hl
  refine lv_iconst (v := 1) hx hb zd_LassoFinderLaw_verify_19 (by decide) ?_
  exact z_iret (u := ()) hx hb hr hlocks rfl hw [] rfl (by decide) rfl (Nat.le_of_ble_eq_true rfl) (Nat.le_of_ble_eq_true rfl) zd_LassoFinderLaw_verify_20
set_option maxHeartbeats 4000000 in
set_option maxRecDepth 100000 in
theorem c_L_lasso (l : Launch) (hlt : l.stackTraces = false) (G : va_G) (K : Nat → ClassId) (x9 : Nat) (x9_text : Value) (x9_names : Value) (x9_program : Value) (x9_reader : Value) (x9_situation : Value) (x9_graph : Value) (x9_asked : Value) (x9_truths : Value) (x9_walked : Value) (x9_walkLength : Int32) (x9_hasModel : Int32) (x9_hasFormula : Int32) (i : Int32) (what : Int32) (o9 : Nat) (sz : Nat) : Met l zy_LassoFinderLaw_lasso (Cond.codeWith zy_LassoFinderLaw_lasso method_6_code 5 (some .int) [(0, 10, 13, 30)] :: zTB) { frames := 7, cells := 1, slots := 6, locals := 104 } (va_Pc [.ref x9, .int i, .int what, .ref o9] (zPreX G K [(x9, zO 0 [x9_text, x9_names, x9_program, x9_reader, x9_situation, x9_graph, x9_asked, x9_truths, .null, x9_walked, .int x9_walkLength, .int x9_hasModel, .int x9_hasFormula])] sz)) (va_Qi (fun (r : Int32) (u : Unit) => r = 1) (fun u t => zPost G K (va_A [(x9, zO 0 [x9_text, x9_names, x9_program, x9_reader, x9_situation, x9_graph, x9_asked, x9_truths, .null, x9_walked, .int x9_walkLength, .int x9_hasModel, .int x9_hasFormula])] sz) [] t) (va_A [(x9, zO 0 [x9_text, x9_names, x9_program, x9_reader, x9_situation, x9_graph, x9_asked, x9_truths, .null, x9_walked, .int x9_walkLength, .int x9_hasModel, .int x9_hasFormula])] sz)) 1 6 (va_A [(x9, zO 0 [x9_text, x9_names, x9_program, x9_reader, x9_situation, x9_graph, x9_asked, x9_truths, .null, x9_walked, .int x9_walkLength, .int x9_hasModel, .int x9_hasFormula])] sz) := by
  refine zMetW (Qf := fun A => va_Qi (fun (r : Int32) (u : Unit) => r = 1) (fun u t => zPost G K A [] t) A) (by decide) (Nat.le_of_ble_eq_true rfl) ?_
  intro p e s m below meth c ls A hx hb hr hml hts hown hlocks hin hA hK H locs hw hsz hl hT htab
  clear hsz
  have hown : s.vm.findClass "LassoFinderLaw" = some m.cls := hown
  have hl : lv_has ls 5 [(0, .ref x9), (1, .int i), (2, .int what), (3, .ref o9)] := hl
  have hw : zW G A s.heap [(x9, zO 0 [x9_text, x9_names, x9_program, x9_reader, x9_situation, x9_graph, x9_asked, x9_truths, .null, x9_walked, .int x9_walkLength, .int x9_hasModel, .int x9_hasFormula])] H locs := hw
  refine lv_aload_n hx hb zd_LassoFinderLaw_lasso_0 rfl (lv_at hl 3 rfl) ?_
  refine lv_iconst (v := 0) hx hb zd_LassoFinderLaw_lasso_1 (by decide) ?_
  refine lv_aload_n hx hb zd_LassoFinderLaw_lasso_2 rfl (lv_at hl 0 rfl) ?_
  refine lv_iload_n hx hb zd_LassoFinderLaw_lasso_3 rfl (lv_at hl 1 rfl) ?_
  refine lv_iload_n hx hb zd_LassoFinderLaw_lasso_4 rfl (lv_at hl 2 rfl) ?_
  refine z_xV (px := fun _ : Unit => True) (w1 := fun _ => []) (q0 := 0) (wc := [(x9, zO 0 [x9_text, x9_names, x9_program, x9_reader, x9_situation, x9_graph, x9_asked, x9_truths, .null, x9_walked, .int x9_walkLength, .int x9_hasModel, .int x9_hasFormula])]) (wr := []) (As := [.int i, .int what]) (rest := [.int 0, .ref o9]) ⟨hx, hb, hml, hown, hts⟩ (c_lasso_0 l hlt G K x9 x9_text x9_names x9_program x9_reader x9_situation x9_graph x9_asked x9_truths x9_walked x9_walkLength x9_hasModel x9_hasFormula i what H.size ) zf_LassoFinder_lasso zm_554 ⟨Nat.le_of_ble_eq_true rfl, Nat.le_of_ble_eq_true rfl⟩ hK hT hw hA [0] [] rfl rfl (by decide) (by decide) (by decide) rfl rfl rfl hl.1 rfl (Nat.le_of_ble_eq_true rfl) zd_LassoFinderLaw_lasso_5 ⟨Nat.le_of_ble_eq_true rfl, Nat.le_of_ble_eq_true rfl⟩ (fun ce q9 _ H locs hu hw hce hcv hcl => ?_)
  have hw : zW G A s.heap [] H locs := hw
  refine z_catch hown hts _ _ htab (by decide) (by decide) zm_555 hT (List.mem_filter.mpr ⟨zt_6 _ (List.mem_of_getElem? (i := 40) rfl), rfl⟩) hce hcv hcl ?_
  refine W.eq (g2 := F0 m 13 ls [.ref q9]) rfl ?_
  refine lv_astore hx hb zd_LassoFinderLaw_lasso_13 hl (by decide) rfl (fun ls hl => ?_)
  have hl : lv_has ls 5 [(4, .ref q9), (0, .ref x9), (1, .int i), (2, .int what), (3, .ref o9)] := hl
  refine lv_iconst (v := 1) hx hb zd_LassoFinderLaw_lasso_15 (by decide) ?_
  exact z_iret (u := ()) hx hb hr hlocks rfl hw [] rfl (by decide) rfl (Nat.le_of_ble_eq_true rfl) (Nat.le_of_ble_eq_true rfl) zd_LassoFinderLaw_lasso_16
set_option maxHeartbeats 4000000 in
set_option maxRecDepth 100000 in
theorem c_L_walk (l : Launch) (hlt : l.stackTraces = false) (G : va_G) (K : Nat → ClassId) (x9 : Nat) (x9_text : Value) (x9_names : Value) (x9_program : Value) (x9_reader : Value) (x9_situation : Value) (x9_graph : Value) (x9_asked : Value) (x9_truths : Value) (x9_search : Value) (x9_walked : Value) (x9_walkLength : Int32) (x9_hasFormula : Int32) (sz : Nat) : Met l zy_LassoFinderLaw_walk (Cond.codeWith zy_LassoFinderLaw_walk method_7_code 2 (some .int) [(0, 4, 7, 20)] :: zTB) { frames := 7, cells := 1, slots := 6, locals := 101 } (va_Pc [.ref x9] (zPreX G K [(x9, zO 0 [x9_text, x9_names, x9_program, x9_reader, x9_situation, x9_graph, x9_asked, x9_truths, x9_search, x9_walked, .int x9_walkLength, .int 0, .int x9_hasFormula])] sz)) (va_Qi (fun (r : Int32) (u : Unit) => r = 1) (fun u t => zPost G K (va_A [(x9, zO 0 [x9_text, x9_names, x9_program, x9_reader, x9_situation, x9_graph, x9_asked, x9_truths, x9_search, x9_walked, .int x9_walkLength, .int 0, .int x9_hasFormula])] sz) [] t) (va_A [(x9, zO 0 [x9_text, x9_names, x9_program, x9_reader, x9_situation, x9_graph, x9_asked, x9_truths, x9_search, x9_walked, .int x9_walkLength, .int 0, .int x9_hasFormula])] sz)) 1 6 (va_A [(x9, zO 0 [x9_text, x9_names, x9_program, x9_reader, x9_situation, x9_graph, x9_asked, x9_truths, x9_search, x9_walked, .int x9_walkLength, .int 0, .int x9_hasFormula])] sz) := by
  refine zMetW (Qf := fun A => va_Qi (fun (r : Int32) (u : Unit) => r = 1) (fun u t => zPost G K A [] t) A) (by decide) (Nat.le_of_ble_eq_true rfl) ?_
  intro p e s m below meth c ls A hx hb hr hml hts hown hlocks hin hA hK H locs hw hsz hl hT htab
  clear hsz
  have hown : s.vm.findClass "LassoFinderLaw" = some m.cls := hown
  have hl : lv_has ls 2 [(0, .ref x9)] := hl
  have hw : zW G A s.heap [(x9, zO 0 [x9_text, x9_names, x9_program, x9_reader, x9_situation, x9_graph, x9_asked, x9_truths, x9_search, x9_walked, .int x9_walkLength, .int 0, .int x9_hasFormula])] H locs := hw
  refine lv_aload_n hx hb zd_LassoFinderLaw_walk_0 rfl (lv_at hl 0 rfl) ?_
  refine z_xV (px := fun _ : Unit => True) (w1 := fun _ => []) (q0 := 0) (wc := [(x9, zO 0 [x9_text, x9_names, x9_program, x9_reader, x9_situation, x9_graph, x9_asked, x9_truths, x9_search, x9_walked, .int x9_walkLength, .int 0, .int x9_hasFormula])]) (wr := []) (As := []) (rest := []) ⟨hx, hb, hml, hown, hts⟩ (c_walk_0 l hlt G K x9 x9_text x9_names x9_program x9_reader x9_situation x9_graph x9_asked x9_truths x9_search x9_walked x9_walkLength x9_hasFormula H.size ) zf_LassoFinder_walk zm_556 ⟨Nat.le_of_ble_eq_true rfl, Nat.le_of_ble_eq_true rfl⟩ hK hT hw hA [0] [] rfl rfl (by decide) (by decide) (by decide) rfl rfl rfl hl.1 rfl (Nat.le_of_ble_eq_true rfl) zd_LassoFinderLaw_walk_1 ⟨Nat.le_of_ble_eq_true rfl, Nat.le_of_ble_eq_true rfl⟩ (fun ce q9 _ H locs hu hw hce hcv hcl => ?_)
  have hw : zW G A s.heap [] H locs := hw
  refine z_catch hown hts _ _ htab (by decide) (by decide) zm_552 hT (List.mem_filter.mpr ⟨zt_5 _ (List.mem_of_getElem? (i := 10) rfl), rfl⟩) hce hcv hcl ?_
  refine W.eq (g2 := F0 m 7 ls [.ref q9]) rfl ?_
  refine lv_astore_n hx hb zd_LassoFinderLaw_walk_7 rfl hl (by decide) rfl (fun ls hl => ?_)
  have hl : lv_has ls 2 [(1, .ref q9), (0, .ref x9)] := hl
  refine lv_iconst (v := 1) hx hb zd_LassoFinderLaw_walk_8 (by decide) ?_
  exact z_iret (u := ()) hx hb hr hlocks rfl hw [] rfl (by decide) rfl (Nat.le_of_ble_eq_true rfl) (Nat.le_of_ble_eq_true rfl) zd_LassoFinderLaw_walk_9
set_option maxHeartbeats 4000000 in
set_option maxRecDepth 100000 in
theorem c_L_go (l : Launch) (hlt : l.stackTraces = false) (G : va_G) (K : Nat → ClassId) (x9 : Nat) (x9_text : Value) (x9_names : Value) (x9_program : Value) (x9_reader : Value) (x9_situation : Value) (x9_graph : Value) (x9_asked : Value) (x9_truths : Value) (x9_search : Value) (x9_walked : Value) (x9_hasModel : Int32) (x9_hasFormula : Int32) (step : Int32) (o9 : Nat) (sz : Nat) : Met l zy_LassoFinderLaw_go (Cond.codeWith zy_LassoFinderLaw_go method_8_code 4 (some .int) [(0, 9, 12, 20), (0, 9, 15, 30), (0, 9, 18, 15)] :: zTB) { frames := 7, cells := 1, slots := 6, locals := 104 } (va_Pc [.ref x9, .int step, .ref o9] (zPreX G K [(x9, zO 0 [x9_text, x9_names, x9_program, x9_reader, x9_situation, x9_graph, x9_asked, x9_truths, x9_search, x9_walked, .int (-1), .int x9_hasModel, .int x9_hasFormula])] sz)) (va_Qi (fun (r : Int32) (u : Unit) => r = 1) (fun u t => zPost G K (va_A [(x9, zO 0 [x9_text, x9_names, x9_program, x9_reader, x9_situation, x9_graph, x9_asked, x9_truths, x9_search, x9_walked, .int (-1), .int x9_hasModel, .int x9_hasFormula])] sz) [] t) (va_A [(x9, zO 0 [x9_text, x9_names, x9_program, x9_reader, x9_situation, x9_graph, x9_asked, x9_truths, x9_search, x9_walked, .int (-1), .int x9_hasModel, .int x9_hasFormula])] sz)) 1 6 (va_A [(x9, zO 0 [x9_text, x9_names, x9_program, x9_reader, x9_situation, x9_graph, x9_asked, x9_truths, x9_search, x9_walked, .int (-1), .int x9_hasModel, .int x9_hasFormula])] sz) := by
  refine zMetW (Qf := fun A => va_Qi (fun (r : Int32) (u : Unit) => r = 1) (fun u t => zPost G K A [] t) A) (by decide) (Nat.le_of_ble_eq_true rfl) ?_
  intro p e s m below meth c ls A hx hb hr hml hts hown hlocks hin hA hK H locs hw hsz hl hT htab
  clear hsz
  have hown : s.vm.findClass "LassoFinderLaw" = some m.cls := hown
  have hl : lv_has ls 4 [(0, .ref x9), (1, .int step), (2, .ref o9)] := hl
  have hw : zW G A s.heap [(x9, zO 0 [x9_text, x9_names, x9_program, x9_reader, x9_situation, x9_graph, x9_asked, x9_truths, x9_search, x9_walked, .int (-1), .int x9_hasModel, .int x9_hasFormula])] H locs := hw
  refine lv_aload_n hx hb zd_LassoFinderLaw_go_0 rfl (lv_at hl 2 rfl) ?_
  refine lv_iconst (v := 0) hx hb zd_LassoFinderLaw_go_1 (by decide) ?_
  refine lv_aload_n hx hb zd_LassoFinderLaw_go_2 rfl (lv_at hl 0 rfl) ?_
  refine lv_iload_n hx hb zd_LassoFinderLaw_go_3 rfl (lv_at hl 1 rfl) ?_
  refine z_xV (px := fun _ : Unit => True) (w1 := fun _ => []) (q0 := 0) (wc := [(x9, zO 0 [x9_text, x9_names, x9_program, x9_reader, x9_situation, x9_graph, x9_asked, x9_truths, x9_search, x9_walked, .int (-1), .int x9_hasModel, .int x9_hasFormula])]) (wr := []) (As := [.int step]) (rest := [.int 0, .ref o9]) ⟨hx, hb, hml, hown, hts⟩ (c_go_0 l hlt G K x9 x9_text x9_names x9_program x9_reader x9_situation x9_graph x9_asked x9_truths x9_search x9_walked x9_hasModel x9_hasFormula step H.size ) zf_LassoFinder_go zm_557 ⟨Nat.le_of_ble_eq_true rfl, Nat.le_of_ble_eq_true rfl⟩ hK hT hw hA [0] [] rfl rfl (by decide) (by decide) (by decide) rfl rfl rfl hl.1 rfl (Nat.le_of_ble_eq_true rfl) zd_LassoFinderLaw_go_4 ⟨Nat.le_of_ble_eq_true rfl, Nat.le_of_ble_eq_true rfl⟩ (fun ce q9 _ H locs hu hw hce hcv hcl => ?_)
  have hw : zW G A s.heap [] H locs := hw
  refine z_catch hown hts _ _ htab (by decide) (by decide) zm_552 hT (List.mem_filter.mpr ⟨zt_5 _ (List.mem_of_getElem? (i := 10) rfl), rfl⟩) hce hcv hcl ?_
  refine W.eq (g2 := F0 m 12 ls [.ref q9]) rfl ?_
  refine lv_astore_n hx hb zd_LassoFinderLaw_go_12 rfl hl (by decide) rfl (fun ls hl => ?_)
  have hl : lv_has ls 4 [(3, .ref q9), (0, .ref x9), (1, .int step), (2, .ref o9)] := hl
  refine lv_iconst (v := 1) hx hb zd_LassoFinderLaw_go_13 (by decide) ?_
  exact z_iret (u := ()) hx hb hr hlocks rfl hw [] rfl (by decide) rfl (Nat.le_of_ble_eq_true rfl) (Nat.le_of_ble_eq_true rfl) zd_LassoFinderLaw_go_14
set_option maxHeartbeats 4000000 in
set_option maxRecDepth 100000 in
theorem c_L_truth (l : Launch) (hlt : l.stackTraces = false) (G : va_G) (K : Nat → ClassId) (x9 : Nat) (x9_text : Value) (x9_names : Value) (x9_program : Value) (x9_reader : Value) (x9_situation : Value) (x9_graph : Value) (x9_asked : Value) (x9_truths : Value) (x9_search : Value) (x9_walked : Value) (x9_hasModel : Int32) (x9_hasFormula : Int32) (kk : Int32) (o9 : Nat) (sz : Nat) : Met l zy_LassoFinderLaw_truth (Cond.codeWith zy_LassoFinderLaw_truth method_9_code 4 (some .int) [(0, 16, 19, 20), (0, 16, 22, 13)] :: zTB) { frames := 7, cells := 1, slots := 6, locals := 102 } (va_Pc [.ref x9, .int kk, .ref o9] (zPreX G K [(x9, zO 0 [x9_text, x9_names, x9_program, x9_reader, x9_situation, x9_graph, x9_asked, x9_truths, x9_search, x9_walked, .int (-1), .int x9_hasModel, .int x9_hasFormula])] sz)) (va_Qi (fun (r : Int32) (u : Unit) => r = 1) (fun u t => zPost G K (va_A [(x9, zO 0 [x9_text, x9_names, x9_program, x9_reader, x9_situation, x9_graph, x9_asked, x9_truths, x9_search, x9_walked, .int (-1), .int x9_hasModel, .int x9_hasFormula])] sz) [] t) (va_A [(x9, zO 0 [x9_text, x9_names, x9_program, x9_reader, x9_situation, x9_graph, x9_asked, x9_truths, x9_search, x9_walked, .int (-1), .int x9_hasModel, .int x9_hasFormula])] sz)) 1 6 (va_A [(x9, zO 0 [x9_text, x9_names, x9_program, x9_reader, x9_situation, x9_graph, x9_asked, x9_truths, x9_search, x9_walked, .int (-1), .int x9_hasModel, .int x9_hasFormula])] sz) := by
  refine zMetW (Qf := fun A => va_Qi (fun (r : Int32) (u : Unit) => r = 1) (fun u t => zPost G K A [] t) A) (by decide) (Nat.le_of_ble_eq_true rfl) ?_
  intro p e s m below meth c ls A hx hb hr hml hts hown hlocks hin hA hK H locs hw hsz hl hT htab
  clear hsz
  have hown : s.vm.findClass "LassoFinderLaw" = some m.cls := hown
  have hl : lv_has ls 4 [(0, .ref x9), (1, .int kk), (2, .ref o9)] := hl
  have hw : zW G A s.heap [(x9, zO 0 [x9_text, x9_names, x9_program, x9_reader, x9_situation, x9_graph, x9_asked, x9_truths, x9_search, x9_walked, .int (-1), .int x9_hasModel, .int x9_hasFormula])] H locs := hw
  refine lv_aload_n hx hb zd_LassoFinderLaw_truth_0 rfl (lv_at hl 2 rfl) ?_
  refine lv_iconst (v := 0) hx hb zd_LassoFinderLaw_truth_1 (by decide) ?_
  refine lv_aload_n hx hb zd_LassoFinderLaw_truth_2 rfl (lv_at hl 0 rfl) ?_
  refine lv_iload_n hx hb zd_LassoFinderLaw_truth_3 rfl (lv_at hl 1 rfl) ?_
  refine z_xV (px := fun _ : Unit => True) (w1 := fun _ => []) (q0 := 0) (wc := [(x9, zO 0 [x9_text, x9_names, x9_program, x9_reader, x9_situation, x9_graph, x9_asked, x9_truths, x9_search, x9_walked, .int (-1), .int x9_hasModel, .int x9_hasFormula])]) (wr := []) (As := [.int kk]) (rest := [.int 0, .ref o9]) ⟨hx, hb, hml, hown, hts⟩ (c_truth_0 l hlt G K x9 x9_text x9_names x9_program x9_reader x9_situation x9_graph x9_asked x9_truths x9_search x9_walked x9_hasModel x9_hasFormula kk H.size ) zf_LassoFinder_truth zm_558 ⟨Nat.le_of_ble_eq_true rfl, Nat.le_of_ble_eq_true rfl⟩ hK hT hw hA [0] [] rfl rfl (by decide) (by decide) (by decide) rfl rfl rfl hl.1 rfl (Nat.le_of_ble_eq_true rfl) zd_LassoFinderLaw_truth_4 ⟨Nat.le_of_ble_eq_true rfl, Nat.le_of_ble_eq_true rfl⟩ (fun ce q9 _ H locs hu hw hce hcv hcl => ?_)
  have hw : zW G A s.heap [] H locs := hw
  refine z_catch hown hts _ _ htab (by decide) (by decide) zm_552 hT (List.mem_filter.mpr ⟨zt_5 _ (List.mem_of_getElem? (i := 10) rfl), rfl⟩) hce hcv hcl ?_
  refine W.eq (g2 := F0 m 19 ls [.ref q9]) rfl ?_
  refine lv_astore_n hx hb zd_LassoFinderLaw_truth_19 rfl hl (by decide) rfl (fun ls hl => ?_)
  have hl : lv_has ls 4 [(3, .ref q9), (0, .ref x9), (1, .int kk), (2, .ref o9)] := hl
  refine lv_iconst (v := 1) hx hb zd_LassoFinderLaw_truth_20 (by decide) ?_
  exact z_iret (u := ()) hx hb hr hlocks rfl hw [] rfl (by decide) rfl (Nat.le_of_ble_eq_true rfl) (Nat.le_of_ble_eq_true rfl) zd_LassoFinderLaw_truth_21
