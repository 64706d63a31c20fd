abbrev zy_LassoFinderModel_here : MethodName := ⟨"LassoFinderModel", "here", "()I"⟩
abbrev zy_LassoFinderModel_fail : MethodName := ⟨"LassoFinderModel", "fail", "()Z"⟩
abbrev zy_LassoFinderModel_node : MethodName := ⟨"LassoFinderModel", "node", "(I)I"⟩
abbrev zy_LassoFinderModel_enter : MethodName := ⟨"LassoFinderModel", "enter", "(II)V"⟩
abbrev zy_LassoFinderModel_emit : MethodName := ⟨"LassoFinderModel", "emit", "(I)V"⟩
abbrev zy_LassoFinderModel_settle : MethodName := ⟨"LassoFinderModel", "settle", "(I)V"⟩
abbrev zy_LassoFinderModel_strength : MethodName := ⟨"LassoFinderModel", "strength", "(I)I"⟩
abbrev zy_LassoFinderModel_jumps : MethodName := ⟨"LassoFinderModel", "jumps", "(I)Z"⟩
theorem zm_251 : Cond.fieldLink "LassoFinderModel" 63 "LassoFinderModel" "where" "[I" ∈ zTB := z_in (zt_6 _ (List.mem_of_getElem? (i := 119) rfl)) rfl
theorem zm_254 : Cond.fieldLink "LassoFinderModel" 72 "LassoFinderModel" "basicOf" "[I" ∈ zTB := z_in (zt_6 _ (List.mem_of_getElem? (i := 123) rfl)) rfl
theorem zm_261 : Cond.fieldLink "LassoFinderModel" 94 "LassoFinderModel" "block" "[I" ∈ zTB := z_in (zt_6 _ (List.mem_of_getElem? (i := 133) rfl)) rfl
theorem zm_262 : Cond.fieldLink "LassoFinderModel" 97 "LassoFinderModel" "blockNode" "[I" ∈ zTB := z_in (zt_6 _ (List.mem_of_getElem? (i := 134) rfl)) rfl
theorem zm_263 : Cond.fieldLink "LassoFinderModel" 100 "LassoFinderModel" "latest" "[I" ∈ zTB := z_in (zt_6 _ (List.mem_of_getElem? (i := 135) rfl)) rfl
theorem zm_264 : Cond.fieldLink "LassoFinderModel" 103 "LassoFinderModel" "signs" "[I" ∈ zTB := z_in (zt_6 _ (List.mem_of_getElem? (i := 137) rfl)) rfl
theorem zm_296 : Cond.fieldLink "LassoFinderModel" 217 "LassoFinderModel" "codes" "I" ∈ zTB := z_in (zt_6 _ (List.mem_of_getElem? (i := 130) rfl)) rfl
theorem zm_301 : Cond.fieldLink "LassoFinderModel" 206 "LassoFinderModel" "bad" "I" ∈ zTB := z_in (zt_6 _ (List.mem_of_getElem? (i := 98) rfl)) rfl
theorem zm_335 : Cond.fieldLink "LassoFinderModel" 203 "LassoFinderModel" "at" "I" ∈ zTB := z_in (zt_6 _ (List.mem_of_getElem? (i := 97) rfl)) rfl
theorem zm_338 : Cond.fieldLink "LassoFinderModel" 248 "LassoFinderModel" "open" "I" ∈ zTB := z_in (zt_6 _ (List.mem_of_getElem? (i := 132) rfl)) rfl
theorem zm_348 : Cond.fieldLink "LassoFinderModel" 220 "LassoFinderModel" "waiting" "I" ∈ zTB := z_in (zt_6 _ (List.mem_of_getElem? (i := 136) rfl)) rfl
theorem zm_349 : Cond.methodLink "LassoFinderModel" 227 ⟨"LassoFinderModel", "emit", "(I)V"⟩ ∈ zTB := z_in (zt_7 _ (List.mem_of_getElem? (i := 178) rfl)) rfl
theorem zm_351 : Cond.methodLink "LassoFinderModel" 223 ⟨"LassoFinderModel", "strength", "(I)I"⟩ ∈ zTB := z_in (zt_7 _ (List.mem_of_getElem? (i := 186) rfl)) rfl
theorem zm_412 : Cond.code ⟨"LassoFinderModel", "strength", "(I)I"⟩ prog_14_method_9_code 1 (some .int) ∈ zTB := z_in (zt_7 _ (List.mem_of_getElem? (i := 188) rfl)) rfl
theorem zm_413 : Cond.static ⟨"LassoFinderModel", "strength", "(I)I"⟩ ∈ zTB := z_in (zt_7 _ (List.mem_of_getElem? (i := 187) rfl)) rfl
theorem zm_414 : Cond.code ⟨"LassoFinderModel", "emit", "(I)V"⟩ prog_14_method_10_code 2 none ∈ zTB := z_in (zt_7 _ (List.mem_of_getElem? (i := 181) rfl)) rfl
theorem zm_415 : Cond.instanceMethod ⟨"LassoFinderModel", "emit", "(I)V"⟩ ∈ zTB := z_in (zt_7 _ (List.mem_of_getElem? (i := 180) rfl)) rfl
theorem zf_LassoFinderModel_strength : zFaceS zy_LassoFinderModel_strength prog_14_method_9_code 1 (some .int) 1 := ⟨zm_413, zm_25, zm_412, by decide +kernel, by decide +kernel, by decide +kernel⟩
theorem zf_LassoFinderModel_emit : zFaceV zy_LassoFinderModel_emit prog_14_method_10_code 2 none 1 := ⟨zm_415, (z_in (zp_6 _ (List.mem_of_getElem? (i := 6) rfl)) rfl), zm_25, zm_414, by decide +kernel, by decide +kernel, by decide +kernel⟩
theorem zd_LassoFinderModel_emit_0 : decode prog_14_method_10_code 0 = .ok (.aload_n 0, 1) := by decide +kernel
theorem zd_LassoFinderModel_emit_1 : decode prog_14_method_10_code 1 = .ok (.getfield 91, 3) := by decide +kernel
theorem zd_LassoFinderModel_emit_4 : decode prog_14_method_10_code 4 = .ok (.aload_n 0, 1) := by decide +kernel
theorem zd_LassoFinderModel_emit_5 : decode prog_14_method_10_code 5 = .ok (.getfield 217, 3) := by decide +kernel
theorem zd_LassoFinderModel_emit_8 : decode prog_14_method_10_code 8 = .ok (.iload_n 1, 1) := by decide +kernel
theorem zd_LassoFinderModel_emit_9 : decode prog_14_method_10_code 9 = .ok (.iastore, 1) := by decide +kernel
theorem zd_LassoFinderModel_emit_10 : decode prog_14_method_10_code 10 = .ok (.aload_n 0, 1) := by decide +kernel
theorem zd_LassoFinderModel_emit_11 : decode prog_14_method_10_code 11 = .ok (.dup, 1) := by decide +kernel
theorem zd_LassoFinderModel_emit_12 : decode prog_14_method_10_code 12 = .ok (.getfield 217, 3) := by decide +kernel
theorem zd_LassoFinderModel_emit_15 : decode prog_14_method_10_code 15 = .ok (.iconst 1, 1) := by decide +kernel
theorem zd_LassoFinderModel_emit_16 : decode prog_14_method_10_code 16 = .ok (.iadd, 1) := by decide +kernel
theorem zd_LassoFinderModel_emit_17 : decode prog_14_method_10_code 17 = .ok (.putfield 217, 3) := by decide +kernel
theorem zd_LassoFinderModel_emit_20 : decode prog_14_method_10_code 20 = .ok (.return_, 1) := by decide +kernel
theorem zd_LassoFinderModel_enter_0 : decode prog_14_method_17_code 0 = .ok (.aload_n 0, 1) := by decide +kernel
theorem zd_LassoFinderModel_enter_1 : decode prog_14_method_17_code 1 = .ok (.dup, 1) := by decide +kernel
theorem zd_LassoFinderModel_enter_2 : decode prog_14_method_17_code 2 = .ok (.getfield 248, 3) := by decide +kernel
theorem zd_LassoFinderModel_enter_5 : decode prog_14_method_17_code 5 = .ok (.iconst 1, 1) := by decide +kernel
theorem zd_LassoFinderModel_enter_6 : decode prog_14_method_17_code 6 = .ok (.iadd, 1) := by decide +kernel
theorem zd_LassoFinderModel_enter_7 : decode prog_14_method_17_code 7 = .ok (.putfield 248, 3) := by decide +kernel
theorem zd_LassoFinderModel_enter_10 : decode prog_14_method_17_code 10 = .ok (.aload_n 0, 1) := by decide +kernel
theorem zd_LassoFinderModel_enter_11 : decode prog_14_method_17_code 11 = .ok (.getfield 94, 3) := by decide +kernel
theorem zd_LassoFinderModel_enter_14 : decode prog_14_method_17_code 14 = .ok (.aload_n 0, 1) := by decide +kernel
theorem zd_LassoFinderModel_enter_15 : decode prog_14_method_17_code 15 = .ok (.getfield 248, 3) := by decide +kernel
theorem zd_LassoFinderModel_enter_18 : decode prog_14_method_17_code 18 = .ok (.iload_n 1, 1) := by decide +kernel
theorem zd_LassoFinderModel_enter_19 : decode prog_14_method_17_code 19 = .ok (.iastore, 1) := by decide +kernel
theorem zd_LassoFinderModel_enter_20 : decode prog_14_method_17_code 20 = .ok (.aload_n 0, 1) := by decide +kernel
theorem zd_LassoFinderModel_enter_21 : decode prog_14_method_17_code 21 = .ok (.getfield 97, 3) := by decide +kernel
theorem zd_LassoFinderModel_enter_24 : decode prog_14_method_17_code 24 = .ok (.aload_n 0, 1) := by decide +kernel
theorem zd_LassoFinderModel_enter_25 : decode prog_14_method_17_code 25 = .ok (.getfield 248, 3) := by decide +kernel
theorem zd_LassoFinderModel_enter_28 : decode prog_14_method_17_code 28 = .ok (.iload_n 2, 1) := by decide +kernel
theorem zd_LassoFinderModel_enter_29 : decode prog_14_method_17_code 29 = .ok (.iastore, 1) := by decide +kernel
theorem zd_LassoFinderModel_enter_30 : decode prog_14_method_17_code 30 = .ok (.aload_n 0, 1) := by decide +kernel
theorem zd_LassoFinderModel_enter_31 : decode prog_14_method_17_code 31 = .ok (.getfield 100, 3) := by decide +kernel
theorem zd_LassoFinderModel_enter_34 : decode prog_14_method_17_code 34 = .ok (.aload_n 0, 1) := by decide +kernel
theorem zd_LassoFinderModel_enter_35 : decode prog_14_method_17_code 35 = .ok (.getfield 248, 3) := by decide +kernel
theorem zd_LassoFinderModel_enter_38 : decode prog_14_method_17_code 38 = .ok (.iconst (-1), 1) := by decide +kernel
theorem zd_LassoFinderModel_enter_39 : decode prog_14_method_17_code 39 = .ok (.iastore, 1) := by decide +kernel
theorem zd_LassoFinderModel_enter_40 : decode prog_14_method_17_code 40 = .ok (.aload_n 0, 1) := by decide +kernel
theorem zd_LassoFinderModel_enter_41 : decode prog_14_method_17_code 41 = .ok (.dup, 1) := by decide +kernel
theorem zd_LassoFinderModel_enter_42 : decode prog_14_method_17_code 42 = .ok (.getfield 203, 3) := by decide +kernel
theorem zd_LassoFinderModel_enter_45 : decode prog_14_method_17_code 45 = .ok (.iconst 1, 1) := by decide +kernel
theorem zd_LassoFinderModel_enter_46 : decode prog_14_method_17_code 46 = .ok (.iadd, 1) := by decide +kernel
theorem zd_LassoFinderModel_enter_47 : decode prog_14_method_17_code 47 = .ok (.putfield 203, 3) := by decide +kernel
theorem zd_LassoFinderModel_enter_50 : decode prog_14_method_17_code 50 = .ok (.return_, 1) := by decide +kernel
theorem zd_LassoFinderModel_fail_0 : decode prog_14_method_6_code 0 = .ok (.aload_n 0, 1) := by decide +kernel
theorem zd_LassoFinderModel_fail_1 : decode prog_14_method_6_code 1 = .ok (.aload_n 0, 1) := by decide +kernel
theorem zd_LassoFinderModel_fail_2 : decode prog_14_method_6_code 2 = .ok (.getfield 203, 3) := by decide +kernel
theorem zd_LassoFinderModel_fail_5 : decode prog_14_method_6_code 5 = .ok (.putfield 206, 3) := by decide +kernel
theorem zd_LassoFinderModel_fail_8 : decode prog_14_method_6_code 8 = .ok (.iconst 0, 1) := by decide +kernel
theorem zd_LassoFinderModel_fail_9 : decode prog_14_method_6_code 9 = .ok (.ireturn, 1) := by decide +kernel
theorem zd_LassoFinderModel_here_0 : decode prog_14_method_5_code 0 = .ok (.aload_n 0, 1) := by decide +kernel
theorem zd_LassoFinderModel_here_1 : decode prog_14_method_5_code 1 = .ok (.getfield 203, 3) := by decide +kernel
theorem zd_LassoFinderModel_here_4 : decode prog_14_method_5_code 4 = .ok (.aload_n 0, 1) := by decide +kernel
theorem zd_LassoFinderModel_here_5 : decode prog_14_method_5_code 5 = .ok (.getfield 200, 3) := by decide +kernel
theorem zd_LassoFinderModel_here_8 : decode prog_14_method_5_code 8 = .ok (.if_icmp .ge 15, 3) := by decide +kernel
theorem zd_LassoFinderModel_here_11 : decode prog_14_method_5_code 11 = .ok (.aload_n 0, 1) := by decide +kernel
theorem zd_LassoFinderModel_here_12 : decode prog_14_method_5_code 12 = .ok (.getfield 7, 3) := by decide +kernel
theorem zd_LassoFinderModel_here_15 : decode prog_14_method_5_code 15 = .ok (.aload_n 0, 1) := by decide +kernel
theorem zd_LassoFinderModel_here_16 : decode prog_14_method_5_code 16 = .ok (.getfield 203, 3) := by decide +kernel
theorem zd_LassoFinderModel_here_19 : decode prog_14_method_5_code 19 = .ok (.iaload, 1) := by decide +kernel
theorem zd_LassoFinderModel_here_20 : decode prog_14_method_5_code 20 = .ok (.goto 4, 3) := by decide +kernel
theorem zd_LassoFinderModel_here_23 : decode prog_14_method_5_code 23 = .ok (.iconst 0, 1) := by decide +kernel
theorem zd_LassoFinderModel_here_24 : decode prog_14_method_5_code 24 = .ok (.ireturn, 1) := by decide +kernel
theorem zd_LassoFinderModel_jumps_0 : decode prog_14_method_23_code 0 = .ok (.iload_n 1, 1) := by decide +kernel
theorem zd_LassoFinderModel_jumps_1 : decode prog_14_method_23_code 1 = .ok (.istore_n 2, 1) := by decide +kernel
theorem zd_LassoFinderModel_jumps_2 : decode prog_14_method_23_code 2 = .ok (.iload_n 2, 1) := by decide +kernel
theorem zd_LassoFinderModel_jumps_3 : decode prog_14_method_23_code 3 = .ok (.aload_n 0, 1) := by decide +kernel
theorem zd_LassoFinderModel_jumps_4 : decode prog_14_method_23_code 4 = .ok (.getfield 251, 3) := by decide +kernel
theorem zd_LassoFinderModel_jumps_7 : decode prog_14_method_23_code 7 = .ok (.if_icmp .ge 69, 3) := by decide +kernel
theorem zd_LassoFinderModel_jumps_10 : decode prog_14_method_23_code 10 = .ok (.aload_n 0, 1) := by decide +kernel
theorem zd_LassoFinderModel_jumps_11 : decode prog_14_method_23_code 11 = .ok (.getfield 29, 3) := by decide +kernel
theorem zd_LassoFinderModel_jumps_14 : decode prog_14_method_23_code 14 = .ok (.iload_n 2, 1) := by decide +kernel
theorem zd_LassoFinderModel_jumps_15 : decode prog_14_method_23_code 15 = .ok (.iaload, 1) := by decide +kernel
theorem zd_LassoFinderModel_jumps_16 : decode prog_14_method_23_code 16 = .ok (.bipush 10, 2) := by decide +kernel
theorem zd_LassoFinderModel_jumps_18 : decode prog_14_method_23_code 18 = .ok (.if_icmp .eq 6, 3) := by decide +kernel
theorem zd_LassoFinderModel_jumps_21 : decode prog_14_method_23_code 21 = .ok (.goto 49, 3) := by decide +kernel
theorem zd_LassoFinderModel_jumps_24 : decode prog_14_method_23_code 24 = .ok (.aload_n 0, 1) := by decide +kernel
theorem zd_LassoFinderModel_jumps_25 : decode prog_14_method_23_code 25 = .ok (.getfield 81, 3) := by decide +kernel
theorem zd_LassoFinderModel_jumps_28 : decode prog_14_method_23_code 28 = .ok (.bipush 8, 2) := by decide +kernel
theorem zd_LassoFinderModel_jumps_30 : decode prog_14_method_23_code 30 = .ok (.aload_n 0, 1) := by decide +kernel
theorem zd_LassoFinderModel_jumps_31 : decode prog_14_method_23_code 31 = .ok (.getfield 254, 3) := by decide +kernel
theorem zd_LassoFinderModel_jumps_34 : decode prog_14_method_23_code 34 = .ok (.imul, 1) := by decide +kernel
theorem zd_LassoFinderModel_jumps_35 : decode prog_14_method_23_code 35 = .ok (.aload_n 0, 1) := by decide +kernel
theorem zd_LassoFinderModel_jumps_36 : decode prog_14_method_23_code 36 = .ok (.getfield 51, 3) := by decide +kernel
theorem zd_LassoFinderModel_jumps_39 : decode prog_14_method_23_code 39 = .ok (.iload_n 2, 1) := by decide +kernel
theorem zd_LassoFinderModel_jumps_40 : decode prog_14_method_23_code 40 = .ok (.iaload, 1) := by decide +kernel
theorem zd_LassoFinderModel_jumps_41 : decode prog_14_method_23_code 41 = .ok (.iadd, 1) := by decide +kernel
theorem zd_LassoFinderModel_jumps_42 : decode prog_14_method_23_code 42 = .ok (.iaload, 1) := by decide +kernel
theorem zd_LassoFinderModel_jumps_43 : decode prog_14_method_23_code 43 = .ok (.istore_n 3, 1) := by decide +kernel
theorem zd_LassoFinderModel_jumps_44 : decode prog_14_method_23_code 44 = .ok (.iload_n 3, 1) := by decide +kernel
theorem zd_LassoFinderModel_jumps_45 : decode prog_14_method_23_code 45 = .ok (.ifCond .lt 13, 3) := by decide +kernel
theorem zd_LassoFinderModel_jumps_48 : decode prog_14_method_23_code 48 = .ok (.aload_n 0, 1) := by decide +kernel
theorem zd_LassoFinderModel_jumps_49 : decode prog_14_method_23_code 49 = .ok (.iload_n 3, 1) := by decide +kernel
theorem zd_LassoFinderModel_jumps_50 : decode prog_14_method_23_code 50 = .ok (.invokevirtual 280, 3) := by decide +kernel
theorem zd_LassoFinderModel_jumps_53 : decode prog_14_method_23_code 53 = .ok (.bipush (-3), 2) := by decide +kernel
theorem zd_LassoFinderModel_jumps_55 : decode prog_14_method_23_code 55 = .ok (.if_icmp .ne 15, 3) := by decide +kernel
theorem zd_LassoFinderModel_jumps_58 : decode prog_14_method_23_code 58 = .ok (.aload_n 0, 1) := by decide +kernel
theorem zd_LassoFinderModel_jumps_59 : decode prog_14_method_23_code 59 = .ok (.aload_n 0, 1) := by decide +kernel
theorem zd_LassoFinderModel_jumps_60 : decode prog_14_method_23_code 60 = .ok (.getfield 63, 3) := by decide +kernel
theorem zd_LassoFinderModel_jumps_63 : decode prog_14_method_23_code 63 = .ok (.iload_n 2, 1) := by decide +kernel
theorem zd_LassoFinderModel_jumps_64 : decode prog_14_method_23_code 64 = .ok (.iaload, 1) := by decide +kernel
theorem zd_LassoFinderModel_jumps_65 : decode prog_14_method_23_code 65 = .ok (.putfield 206, 3) := by decide +kernel
theorem zd_LassoFinderModel_jumps_68 : decode prog_14_method_23_code 68 = .ok (.iconst 0, 1) := by decide +kernel
theorem zd_LassoFinderModel_jumps_69 : decode prog_14_method_23_code 69 = .ok (.ireturn, 1) := by decide +kernel
theorem zd_LassoFinderModel_jumps_70 : decode prog_14_method_23_code 70 = .ok (.iinc 2 1, 3) := by decide +kernel
theorem zd_LassoFinderModel_jumps_73 : decode prog_14_method_23_code 73 = .ok (.goto (-71), 3) := by decide +kernel
theorem zd_LassoFinderModel_jumps_76 : decode prog_14_method_23_code 76 = .ok (.iconst 1, 1) := by decide +kernel
theorem zd_LassoFinderModel_jumps_77 : decode prog_14_method_23_code 77 = .ok (.ireturn, 1) := by decide +kernel
theorem zd_LassoFinderModel_node_0 : decode prog_14_method_16_code 0 = .ok (.aload_n 0, 1) := by decide +kernel
theorem zd_LassoFinderModel_node_1 : decode prog_14_method_16_code 1 = .ok (.getfield 251, 3) := by decide +kernel
theorem zd_LassoFinderModel_node_4 : decode prog_14_method_16_code 4 = .ok (.istore_n 2, 1) := by decide +kernel
theorem zd_LassoFinderModel_node_5 : decode prog_14_method_16_code 5 = .ok (.aload_n 0, 1) := by decide +kernel
theorem zd_LassoFinderModel_node_6 : decode prog_14_method_16_code 6 = .ok (.dup, 1) := by decide +kernel
theorem zd_LassoFinderModel_node_7 : decode prog_14_method_16_code 7 = .ok (.getfield 251, 3) := by decide +kernel
theorem zd_LassoFinderModel_node_10 : decode prog_14_method_16_code 10 = .ok (.iconst 1, 1) := by decide +kernel
theorem zd_LassoFinderModel_node_11 : decode prog_14_method_16_code 11 = .ok (.iadd, 1) := by decide +kernel
theorem zd_LassoFinderModel_node_12 : decode prog_14_method_16_code 12 = .ok (.putfield 251, 3) := by decide +kernel
theorem zd_LassoFinderModel_node_15 : decode prog_14_method_16_code 15 = .ok (.aload_n 0, 1) := by decide +kernel
theorem zd_LassoFinderModel_node_16 : decode prog_14_method_16_code 16 = .ok (.getfield 29, 3) := by decide +kernel
theorem zd_LassoFinderModel_node_19 : decode prog_14_method_16_code 19 = .ok (.iload_n 2, 1) := by decide +kernel
theorem zd_LassoFinderModel_node_20 : decode prog_14_method_16_code 20 = .ok (.iload_n 1, 1) := by decide +kernel
theorem zd_LassoFinderModel_node_21 : decode prog_14_method_16_code 21 = .ok (.iastore, 1) := by decide +kernel
theorem zd_LassoFinderModel_node_22 : decode prog_14_method_16_code 22 = .ok (.aload_n 0, 1) := by decide +kernel
theorem zd_LassoFinderModel_node_23 : decode prog_14_method_16_code 23 = .ok (.getfield 32, 3) := by decide +kernel
theorem zd_LassoFinderModel_node_26 : decode prog_14_method_16_code 26 = .ok (.iload_n 2, 1) := by decide +kernel
theorem zd_LassoFinderModel_node_27 : decode prog_14_method_16_code 27 = .ok (.aload_n 0, 1) := by decide +kernel
theorem zd_LassoFinderModel_node_28 : decode prog_14_method_16_code 28 = .ok (.getfield 254, 3) := by decide +kernel
theorem zd_LassoFinderModel_node_31 : decode prog_14_method_16_code 31 = .ok (.iastore, 1) := by decide +kernel
theorem zd_LassoFinderModel_node_32 : decode prog_14_method_16_code 32 = .ok (.aload_n 0, 1) := by decide +kernel
theorem zd_LassoFinderModel_node_33 : decode prog_14_method_16_code 33 = .ok (.getfield 35, 3) := by decide +kernel
theorem zd_LassoFinderModel_node_36 : decode prog_14_method_16_code 36 = .ok (.iload_n 2, 1) := by decide +kernel
theorem zd_LassoFinderModel_node_37 : decode prog_14_method_16_code 37 = .ok (.aload_n 0, 1) := by decide +kernel
theorem zd_LassoFinderModel_node_38 : decode prog_14_method_16_code 38 = .ok (.getfield 97, 3) := by decide +kernel
theorem zd_LassoFinderModel_node_41 : decode prog_14_method_16_code 41 = .ok (.aload_n 0, 1) := by decide +kernel
theorem zd_LassoFinderModel_node_42 : decode prog_14_method_16_code 42 = .ok (.getfield 248, 3) := by decide +kernel
theorem zd_LassoFinderModel_node_45 : decode prog_14_method_16_code 45 = .ok (.iaload, 1) := by decide +kernel
theorem zd_LassoFinderModel_node_46 : decode prog_14_method_16_code 46 = .ok (.iastore, 1) := by decide +kernel
theorem zd_LassoFinderModel_node_47 : decode prog_14_method_16_code 47 = .ok (.aload_n 0, 1) := by decide +kernel
theorem zd_LassoFinderModel_node_48 : decode prog_14_method_16_code 48 = .ok (.getfield 38, 3) := by decide +kernel
theorem zd_LassoFinderModel_node_51 : decode prog_14_method_16_code 51 = .ok (.iload_n 2, 1) := by decide +kernel
theorem zd_LassoFinderModel_node_52 : decode prog_14_method_16_code 52 = .ok (.iconst (-1), 1) := by decide +kernel
theorem zd_LassoFinderModel_node_53 : decode prog_14_method_16_code 53 = .ok (.iastore, 1) := by decide +kernel
theorem zd_LassoFinderModel_node_54 : decode prog_14_method_16_code 54 = .ok (.aload_n 0, 1) := by decide +kernel
theorem zd_LassoFinderModel_node_55 : decode prog_14_method_16_code 55 = .ok (.getfield 41, 3) := by decide +kernel
theorem zd_LassoFinderModel_node_58 : decode prog_14_method_16_code 58 = .ok (.iload_n 2, 1) := by decide +kernel
theorem zd_LassoFinderModel_node_59 : decode prog_14_method_16_code 59 = .ok (.aload_n 0, 1) := by decide +kernel
theorem zd_LassoFinderModel_node_60 : decode prog_14_method_16_code 60 = .ok (.getfield 100, 3) := by decide +kernel
theorem zd_LassoFinderModel_node_63 : decode prog_14_method_16_code 63 = .ok (.aload_n 0, 1) := by decide +kernel
theorem zd_LassoFinderModel_node_64 : decode prog_14_method_16_code 64 = .ok (.getfield 248, 3) := by decide +kernel
theorem zd_LassoFinderModel_node_67 : decode prog_14_method_16_code 67 = .ok (.iaload, 1) := by decide +kernel
theorem zd_LassoFinderModel_node_68 : decode prog_14_method_16_code 68 = .ok (.ifCond .ge 7, 3) := by decide +kernel
theorem zd_LassoFinderModel_node_71 : decode prog_14_method_16_code 71 = .ok (.iconst 1, 1) := by decide +kernel
theorem zd_LassoFinderModel_node_72 : decode prog_14_method_16_code 72 = .ok (.goto 4, 3) := by decide +kernel
theorem zd_LassoFinderModel_node_75 : decode prog_14_method_16_code 75 = .ok (.iconst 0, 1) := by decide +kernel
theorem zd_LassoFinderModel_node_76 : decode prog_14_method_16_code 76 = .ok (.bastore, 1) := by decide +kernel
theorem zd_LassoFinderModel_node_77 : decode prog_14_method_16_code 77 = .ok (.aload_n 0, 1) := by decide +kernel
theorem zd_LassoFinderModel_node_78 : decode prog_14_method_16_code 78 = .ok (.getfield 100, 3) := by decide +kernel
theorem zd_LassoFinderModel_node_81 : decode prog_14_method_16_code 81 = .ok (.aload_n 0, 1) := by decide +kernel
theorem zd_LassoFinderModel_node_82 : decode prog_14_method_16_code 82 = .ok (.getfield 248, 3) := by decide +kernel
theorem zd_LassoFinderModel_node_85 : decode prog_14_method_16_code 85 = .ok (.iaload, 1) := by decide +kernel
theorem zd_LassoFinderModel_node_86 : decode prog_14_method_16_code 86 = .ok (.ifCond .lt 18, 3) := by decide +kernel
theorem zd_LassoFinderModel_node_89 : decode prog_14_method_16_code 89 = .ok (.aload_n 0, 1) := by decide +kernel
theorem zd_LassoFinderModel_node_90 : decode prog_14_method_16_code 90 = .ok (.getfield 38, 3) := by decide +kernel
theorem zd_LassoFinderModel_node_93 : decode prog_14_method_16_code 93 = .ok (.aload_n 0, 1) := by decide +kernel
theorem zd_LassoFinderModel_node_94 : decode prog_14_method_16_code 94 = .ok (.getfield 100, 3) := by decide +kernel
theorem zd_LassoFinderModel_node_97 : decode prog_14_method_16_code 97 = .ok (.aload_n 0, 1) := by decide +kernel
theorem zd_LassoFinderModel_node_98 : decode prog_14_method_16_code 98 = .ok (.getfield 248, 3) := by decide +kernel
theorem zd_LassoFinderModel_node_101 : decode prog_14_method_16_code 101 = .ok (.iaload, 1) := by decide +kernel
theorem zd_LassoFinderModel_node_102 : decode prog_14_method_16_code 102 = .ok (.iload_n 2, 1) := by decide +kernel
theorem zd_LassoFinderModel_node_103 : decode prog_14_method_16_code 103 = .ok (.iastore, 1) := by decide +kernel
theorem zd_LassoFinderModel_node_104 : decode prog_14_method_16_code 104 = .ok (.aload_n 0, 1) := by decide +kernel
theorem zd_LassoFinderModel_node_105 : decode prog_14_method_16_code 105 = .ok (.getfield 100, 3) := by decide +kernel
theorem zd_LassoFinderModel_node_108 : decode prog_14_method_16_code 108 = .ok (.aload_n 0, 1) := by decide +kernel
theorem zd_LassoFinderModel_node_109 : decode prog_14_method_16_code 109 = .ok (.getfield 248, 3) := by decide +kernel
theorem zd_LassoFinderModel_node_112 : decode prog_14_method_16_code 112 = .ok (.iload_n 2, 1) := by decide +kernel
theorem zd_LassoFinderModel_node_113 : decode prog_14_method_16_code 113 = .ok (.iastore, 1) := by decide +kernel
theorem zd_LassoFinderModel_node_114 : decode prog_14_method_16_code 114 = .ok (.aload_n 0, 1) := by decide +kernel
theorem zd_LassoFinderModel_node_115 : decode prog_14_method_16_code 115 = .ok (.getfield 45, 3) := by decide +kernel
theorem zd_LassoFinderModel_node_118 : decode prog_14_method_16_code 118 = .ok (.iload_n 2, 1) := by decide +kernel
theorem zd_LassoFinderModel_node_119 : decode prog_14_method_16_code 119 = .ok (.iconst (-1), 1) := by decide +kernel
theorem zd_LassoFinderModel_node_120 : decode prog_14_method_16_code 120 = .ok (.iastore, 1) := by decide +kernel
theorem zd_LassoFinderModel_node_121 : decode prog_14_method_16_code 121 = .ok (.iconst 1, 1) := by decide +kernel
theorem zd_LassoFinderModel_node_122 : decode prog_14_method_16_code 122 = .ok (.istore_n 3, 1) := by decide +kernel
theorem zd_LassoFinderModel_node_123 : decode prog_14_method_16_code 123 = .ok (.iload_n 3, 1) := by decide +kernel
theorem zd_LassoFinderModel_node_124 : decode prog_14_method_16_code 124 = .ok (.aload_n 0, 1) := by decide +kernel
theorem zd_LassoFinderModel_node_125 : decode prog_14_method_16_code 125 = .ok (.getfield 248, 3) := by decide +kernel
theorem zd_LassoFinderModel_node_128 : decode prog_14_method_16_code 128 = .ok (.if_icmp .gt 31, 3) := by decide +kernel
theorem zd_LassoFinderModel_node_131 : decode prog_14_method_16_code 131 = .ok (.aload_n 0, 1) := by decide +kernel
theorem zd_LassoFinderModel_node_132 : decode prog_14_method_16_code 132 = .ok (.getfield 94, 3) := by decide +kernel
theorem zd_LassoFinderModel_node_135 : decode prog_14_method_16_code 135 = .ok (.iload_n 3, 1) := by decide +kernel
theorem zd_LassoFinderModel_node_136 : decode prog_14_method_16_code 136 = .ok (.iaload, 1) := by decide +kernel
theorem zd_LassoFinderModel_node_137 : decode prog_14_method_16_code 137 = .ok (.iconst 3, 1) := by decide +kernel
theorem zd_LassoFinderModel_node_138 : decode prog_14_method_16_code 138 = .ok (.if_icmp .ne 15, 3) := by decide +kernel
theorem zd_LassoFinderModel_node_141 : decode prog_14_method_16_code 141 = .ok (.aload_n 0, 1) := by decide +kernel
theorem zd_LassoFinderModel_node_142 : decode prog_14_method_16_code 142 = .ok (.getfield 45, 3) := by decide +kernel
theorem zd_LassoFinderModel_node_145 : decode prog_14_method_16_code 145 = .ok (.iload_n 2, 1) := by decide +kernel
theorem zd_LassoFinderModel_node_146 : decode prog_14_method_16_code 146 = .ok (.aload_n 0, 1) := by decide +kernel
theorem zd_LassoFinderModel_node_147 : decode prog_14_method_16_code 147 = .ok (.getfield 97, 3) := by decide +kernel
theorem zd_LassoFinderModel_node_150 : decode prog_14_method_16_code 150 = .ok (.iload_n 3, 1) := by decide +kernel
theorem zd_LassoFinderModel_node_151 : decode prog_14_method_16_code 151 = .ok (.iaload, 1) := by decide +kernel
theorem zd_LassoFinderModel_node_152 : decode prog_14_method_16_code 152 = .ok (.iastore, 1) := by decide +kernel
theorem zd_LassoFinderModel_node_153 : decode prog_14_method_16_code 153 = .ok (.iinc 3 1, 3) := by decide +kernel
theorem zd_LassoFinderModel_node_156 : decode prog_14_method_16_code 156 = .ok (.goto (-33), 3) := by decide +kernel
theorem zd_LassoFinderModel_node_159 : decode prog_14_method_16_code 159 = .ok (.aload_n 0, 1) := by decide +kernel
theorem zd_LassoFinderModel_node_160 : decode prog_14_method_16_code 160 = .ok (.getfield 48, 3) := by decide +kernel
theorem zd_LassoFinderModel_node_163 : decode prog_14_method_16_code 163 = .ok (.iload_n 2, 1) := by decide +kernel
theorem zd_LassoFinderModel_node_164 : decode prog_14_method_16_code 164 = .ok (.iconst (-1), 1) := by decide +kernel
theorem zd_LassoFinderModel_node_165 : decode prog_14_method_16_code 165 = .ok (.iastore, 1) := by decide +kernel
theorem zd_LassoFinderModel_node_166 : decode prog_14_method_16_code 166 = .ok (.iload_n 1, 1) := by decide +kernel
theorem zd_LassoFinderModel_node_167 : decode prog_14_method_16_code 167 = .ok (.bipush 7, 2) := by decide +kernel
theorem zd_LassoFinderModel_node_169 : decode prog_14_method_16_code 169 = .ok (.if_icmp .gt 54, 3) := by decide +kernel
theorem zd_LassoFinderModel_node_172 : decode prog_14_method_16_code 172 = .ok (.aload_n 0, 1) := by decide +kernel
theorem zd_LassoFinderModel_node_173 : decode prog_14_method_16_code 173 = .ok (.getfield 48, 3) := by decide +kernel
theorem zd_LassoFinderModel_node_176 : decode prog_14_method_16_code 176 = .ok (.iload_n 2, 1) := by decide +kernel
theorem zd_LassoFinderModel_node_177 : decode prog_14_method_16_code 177 = .ok (.aload_n 0, 1) := by decide +kernel
theorem zd_LassoFinderModel_node_178 : decode prog_14_method_16_code 178 = .ok (.getfield 75, 3) := by decide +kernel
theorem zd_LassoFinderModel_node_181 : decode prog_14_method_16_code 181 = .ok (.aload_n 0, 1) := by decide +kernel
theorem zd_LassoFinderModel_node_182 : decode prog_14_method_16_code 182 = .ok (.getfield 254, 3) := by decide +kernel
theorem zd_LassoFinderModel_node_185 : decode prog_14_method_16_code 185 = .ok (.iaload, 1) := by decide +kernel
theorem zd_LassoFinderModel_node_186 : decode prog_14_method_16_code 186 = .ok (.iastore, 1) := by decide +kernel
theorem zd_LassoFinderModel_node_187 : decode prog_14_method_16_code 187 = .ok (.aload_n 0, 1) := by decide +kernel
theorem zd_LassoFinderModel_node_188 : decode prog_14_method_16_code 188 = .ok (.getfield 84, 3) := by decide +kernel
theorem zd_LassoFinderModel_node_191 : decode prog_14_method_16_code 191 = .ok (.bipush 31, 2) := by decide +kernel
theorem zd_LassoFinderModel_node_193 : decode prog_14_method_16_code 193 = .ok (.aload_n 0, 1) := by decide +kernel
theorem zd_LassoFinderModel_node_194 : decode prog_14_method_16_code 194 = .ok (.getfield 254, 3) := by decide +kernel
theorem zd_LassoFinderModel_node_197 : decode prog_14_method_16_code 197 = .ok (.imul, 1) := by decide +kernel
theorem zd_LassoFinderModel_node_198 : decode prog_14_method_16_code 198 = .ok (.aload_n 0, 1) := by decide +kernel
theorem zd_LassoFinderModel_node_199 : decode prog_14_method_16_code 199 = .ok (.getfield 75, 3) := by decide +kernel
theorem zd_LassoFinderModel_node_202 : decode prog_14_method_16_code 202 = .ok (.aload_n 0, 1) := by decide +kernel
theorem zd_LassoFinderModel_node_203 : decode prog_14_method_16_code 203 = .ok (.getfield 254, 3) := by decide +kernel
theorem zd_LassoFinderModel_node_206 : decode prog_14_method_16_code 206 = .ok (.iaload, 1) := by decide +kernel
theorem zd_LassoFinderModel_node_207 : decode prog_14_method_16_code 207 = .ok (.iadd, 1) := by decide +kernel
theorem zd_LassoFinderModel_node_208 : decode prog_14_method_16_code 208 = .ok (.iload_n 2, 1) := by decide +kernel
theorem zd_LassoFinderModel_node_209 : decode prog_14_method_16_code 209 = .ok (.iastore, 1) := by decide +kernel
theorem zd_LassoFinderModel_node_210 : decode prog_14_method_16_code 210 = .ok (.aload_n 0, 1) := by decide +kernel
theorem zd_LassoFinderModel_node_211 : decode prog_14_method_16_code 211 = .ok (.getfield 75, 3) := by decide +kernel
theorem zd_LassoFinderModel_node_214 : decode prog_14_method_16_code 214 = .ok (.aload_n 0, 1) := by decide +kernel
theorem zd_LassoFinderModel_node_215 : decode prog_14_method_16_code 215 = .ok (.getfield 254, 3) := by decide +kernel
theorem zd_LassoFinderModel_node_218 : decode prog_14_method_16_code 218 = .ok (.dup2, 1) := by decide +kernel
theorem zd_LassoFinderModel_node_219 : decode prog_14_method_16_code 219 = .ok (.iaload, 1) := by decide +kernel
theorem zd_LassoFinderModel_node_220 : decode prog_14_method_16_code 220 = .ok (.iconst 1, 1) := by decide +kernel
theorem zd_LassoFinderModel_node_221 : decode prog_14_method_16_code 221 = .ok (.iadd, 1) := by decide +kernel
theorem zd_LassoFinderModel_node_222 : decode prog_14_method_16_code 222 = .ok (.iastore, 1) := by decide +kernel
theorem zd_LassoFinderModel_node_223 : decode prog_14_method_16_code 223 = .ok (.iload_n 1, 1) := by decide +kernel
theorem zd_LassoFinderModel_node_224 : decode prog_14_method_16_code 224 = .ok (.iconst 5, 1) := by decide +kernel
theorem zd_LassoFinderModel_node_225 : decode prog_14_method_16_code 225 = .ok (.if_icmp .gt 33, 3) := by decide +kernel
theorem zd_LassoFinderModel_node_228 : decode prog_14_method_16_code 228 = .ok (.aload_n 0, 1) := by decide +kernel
theorem zd_LassoFinderModel_node_229 : decode prog_14_method_16_code 229 = .ok (.getfield 72, 3) := by decide +kernel
theorem zd_LassoFinderModel_node_232 : decode prog_14_method_16_code 232 = .ok (.iload_n 2, 1) := by decide +kernel
theorem zd_LassoFinderModel_node_233 : decode prog_14_method_16_code 233 = .ok (.aload_n 0, 1) := by decide +kernel
theorem zd_LassoFinderModel_node_234 : decode prog_14_method_16_code 234 = .ok (.getfield 257, 3) := by decide +kernel
theorem zd_LassoFinderModel_node_237 : decode prog_14_method_16_code 237 = .ok (.iastore, 1) := by decide +kernel
theorem zd_LassoFinderModel_node_238 : decode prog_14_method_16_code 238 = .ok (.aload_n 0, 1) := by decide +kernel
theorem zd_LassoFinderModel_node_239 : decode prog_14_method_16_code 239 = .ok (.getfield 69, 3) := by decide +kernel
theorem zd_LassoFinderModel_node_242 : decode prog_14_method_16_code 242 = .ok (.aload_n 0, 1) := by decide +kernel
theorem zd_LassoFinderModel_node_243 : decode prog_14_method_16_code 243 = .ok (.getfield 257, 3) := by decide +kernel
theorem zd_LassoFinderModel_node_246 : decode prog_14_method_16_code 246 = .ok (.iload_n 2, 1) := by decide +kernel
theorem zd_LassoFinderModel_node_247 : decode prog_14_method_16_code 247 = .ok (.iastore, 1) := by decide +kernel
theorem zd_LassoFinderModel_node_248 : decode prog_14_method_16_code 248 = .ok (.aload_n 0, 1) := by decide +kernel
theorem zd_LassoFinderModel_node_249 : decode prog_14_method_16_code 249 = .ok (.dup, 1) := by decide +kernel
theorem zd_LassoFinderModel_node_250 : decode prog_14_method_16_code 250 = .ok (.getfield 257, 3) := by decide +kernel
theorem zd_LassoFinderModel_node_253 : decode prog_14_method_16_code 253 = .ok (.iconst 1, 1) := by decide +kernel
theorem zd_LassoFinderModel_node_254 : decode prog_14_method_16_code 254 = .ok (.iadd, 1) := by decide +kernel
theorem zd_LassoFinderModel_node_255 : decode prog_14_method_16_code 255 = .ok (.putfield 257, 3) := by decide +kernel
theorem zd_LassoFinderModel_node_258 : decode prog_14_method_16_code 258 = .ok (.iload_n 2, 1) := by decide +kernel
theorem zd_LassoFinderModel_node_259 : decode prog_14_method_16_code 259 = .ok (.ireturn, 1) := by decide +kernel
theorem zd_LassoFinderModel_settle_0 : decode prog_14_method_11_code 0 = .ok (.aload_n 0, 1) := by decide +kernel
theorem zd_LassoFinderModel_settle_1 : decode prog_14_method_11_code 1 = .ok (.getfield 220, 3) := by decide +kernel
theorem zd_LassoFinderModel_settle_4 : decode prog_14_method_11_code 4 = .ok (.ifCond .le 47, 3) := by decide +kernel
theorem zd_LassoFinderModel_settle_7 : decode prog_14_method_11_code 7 = .ok (.aload_n 0, 1) := by decide +kernel
theorem zd_LassoFinderModel_settle_8 : decode prog_14_method_11_code 8 = .ok (.getfield 103, 3) := by decide +kernel
theorem zd_LassoFinderModel_settle_11 : decode prog_14_method_11_code 11 = .ok (.aload_n 0, 1) := by decide +kernel
theorem zd_LassoFinderModel_settle_12 : decode prog_14_method_11_code 12 = .ok (.getfield 220, 3) := by decide +kernel
theorem zd_LassoFinderModel_settle_15 : decode prog_14_method_11_code 15 = .ok (.iconst 1, 1) := by decide +kernel
theorem zd_LassoFinderModel_settle_16 : decode prog_14_method_11_code 16 = .ok (.isub, 1) := by decide +kernel
theorem zd_LassoFinderModel_settle_17 : decode prog_14_method_11_code 17 = .ok (.iaload, 1) := by decide +kernel
theorem zd_LassoFinderModel_settle_18 : decode prog_14_method_11_code 18 = .ok (.invokestatic 223, 3) := by decide +kernel
theorem zd_LassoFinderModel_settle_21 : decode prog_14_method_11_code 21 = .ok (.iload_n 1, 1) := by decide +kernel
theorem zd_LassoFinderModel_settle_22 : decode prog_14_method_11_code 22 = .ok (.if_icmp .lt 29, 3) := by decide +kernel
theorem zd_LassoFinderModel_settle_25 : decode prog_14_method_11_code 25 = .ok (.aload_n 0, 1) := by decide +kernel
theorem zd_LassoFinderModel_settle_26 : decode prog_14_method_11_code 26 = .ok (.dup, 1) := by decide +kernel
theorem zd_LassoFinderModel_settle_27 : decode prog_14_method_11_code 27 = .ok (.getfield 220, 3) := by decide +kernel
theorem zd_LassoFinderModel_settle_30 : decode prog_14_method_11_code 30 = .ok (.iconst 1, 1) := by decide +kernel
theorem zd_LassoFinderModel_settle_31 : decode prog_14_method_11_code 31 = .ok (.isub, 1) := by decide +kernel
theorem zd_LassoFinderModel_settle_32 : decode prog_14_method_11_code 32 = .ok (.putfield 220, 3) := by decide +kernel
theorem zd_LassoFinderModel_settle_35 : decode prog_14_method_11_code 35 = .ok (.aload_n 0, 1) := by decide +kernel
theorem zd_LassoFinderModel_settle_36 : decode prog_14_method_11_code 36 = .ok (.aload_n 0, 1) := by decide +kernel
theorem zd_LassoFinderModel_settle_37 : decode prog_14_method_11_code 37 = .ok (.getfield 103, 3) := by decide +kernel
theorem zd_LassoFinderModel_settle_40 : decode prog_14_method_11_code 40 = .ok (.aload_n 0, 1) := by decide +kernel
theorem zd_LassoFinderModel_settle_41 : decode prog_14_method_11_code 41 = .ok (.getfield 220, 3) := by decide +kernel
theorem zd_LassoFinderModel_settle_44 : decode prog_14_method_11_code 44 = .ok (.iaload, 1) := by decide +kernel
theorem zd_LassoFinderModel_settle_45 : decode prog_14_method_11_code 45 = .ok (.invokevirtual 227, 3) := by decide +kernel
theorem zd_LassoFinderModel_settle_48 : decode prog_14_method_11_code 48 = .ok (.goto (-48), 3) := by decide +kernel
theorem zd_LassoFinderModel_settle_51 : decode prog_14_method_11_code 51 = .ok (.return_, 1) := by decide +kernel
theorem zd_LassoFinderModel_strength_0 : decode prog_14_method_9_code 0 = .ok (.iload_n 0, 1) := by decide +kernel
theorem zd_LassoFinderModel_strength_1 : decode prog_14_method_9_code 1 = .ok (.bipush 18, 2) := by decide +kernel
theorem zd_LassoFinderModel_strength_3 : decode prog_14_method_9_code 3 = .ok (.if_icmp .ne 7, 3) := by decide +kernel
theorem zd_LassoFinderModel_strength_6 : decode prog_14_method_9_code 6 = .ok (.iconst 3, 1) := by decide +kernel
theorem zd_LassoFinderModel_strength_7 : decode prog_14_method_9_code 7 = .ok (.goto 36, 3) := by decide +kernel
theorem zd_LassoFinderModel_strength_10 : decode prog_14_method_9_code 10 = .ok (.iload_n 0, 1) := by decide +kernel
theorem zd_LassoFinderModel_strength_11 : decode prog_14_method_9_code 11 = .ok (.bipush 16, 2) := by decide +kernel
theorem zd_LassoFinderModel_strength_13 : decode prog_14_method_9_code 13 = .ok (.if_icmp .eq 9, 3) := by decide +kernel
theorem zd_LassoFinderModel_strength_16 : decode prog_14_method_9_code 16 = .ok (.iload_n 0, 1) := by decide +kernel
theorem zd_LassoFinderModel_strength_17 : decode prog_14_method_9_code 17 = .ok (.bipush 17, 2) := by decide +kernel
theorem zd_LassoFinderModel_strength_19 : decode prog_14_method_9_code 19 = .ok (.if_icmp .ne 7, 3) := by decide +kernel
theorem zd_LassoFinderModel_strength_22 : decode prog_14_method_9_code 22 = .ok (.iconst 2, 1) := by decide +kernel
theorem zd_LassoFinderModel_strength_23 : decode prog_14_method_9_code 23 = .ok (.goto 20, 3) := by decide +kernel
theorem zd_LassoFinderModel_strength_26 : decode prog_14_method_9_code 26 = .ok (.iload_n 0, 1) := by decide +kernel
theorem zd_LassoFinderModel_strength_27 : decode prog_14_method_9_code 27 = .ok (.bipush 19, 2) := by decide +kernel
theorem zd_LassoFinderModel_strength_29 : decode prog_14_method_9_code 29 = .ok (.if_icmp .eq 9, 3) := by decide +kernel
theorem zd_LassoFinderModel_strength_32 : decode prog_14_method_9_code 32 = .ok (.iload_n 0, 1) := by decide +kernel
theorem zd_LassoFinderModel_strength_33 : decode prog_14_method_9_code 33 = .ok (.bipush 20, 2) := by decide +kernel
theorem zd_LassoFinderModel_strength_35 : decode prog_14_method_9_code 35 = .ok (.if_icmp .ne 7, 3) := by decide +kernel
theorem zd_LassoFinderModel_strength_38 : decode prog_14_method_9_code 38 = .ok (.iconst 1, 1) := by decide +kernel
theorem zd_LassoFinderModel_strength_39 : decode prog_14_method_9_code 39 = .ok (.goto 4, 3) := by decide +kernel
theorem zd_LassoFinderModel_strength_42 : decode prog_14_method_9_code 42 = .ok (.iconst 0, 1) := by decide +kernel
theorem zd_LassoFinderModel_strength_43 : decode prog_14_method_9_code 43 = .ok (.ireturn, 1) := by decide +kernel
def wc_LassoFinderModel_here_24 (Post : Int32 → (Nat → Int32) → (Nat → Int64) → (Nat → Nat → Int32) → (Nat → Nat → Int64) → Prop) (y0 : Int32) (I : Nat → Int32) (J : Nat → Int64) (B : Nat → Nat → Int32) (D : Nat → Nat → Int64) : Prop :=
  Post y0 I J B D
def wp_LassoFinderModel_here (I : Nat → Int32) (J : Nat → Int64) (B : Nat → Nat → Int32) (D : Nat → Nat → Int64) (Post : Int32 → (Nat → Int32) → (Nat → Int64) → (Nat → Nat → Int32) → (Nat → Nat → Int64) → Prop) : Prop :=
  (((I 1) ≤ (I 2) → wc_LassoFinderModel_here_24  Post 0 I J B D) ∧ (¬ (I 1) ≤ (I 2) → vp_in (I 2) 240 ∧ ∀ z2 : Int32, z2 = ((B 0) (I 2).toNatClampNeg) → wc_LassoFinderModel_here_24  Post z2 I J B D))
set_option maxHeartbeats 8000000 in
set_option maxRecDepth 100000 in
theorem wJ_LassoFinderModel_here_24 {p : Program} {l : Launch} {e : Env} {s : State} {m : MethodId} {below : List Frame} {meth : Method} {c : Code} {A : Nat → Prop} (G : va_G) (K : Nat → ClassId) (ad : Nat → Nat) (Post : Int32 → (Nat → Int32) → (Nat → Int64) → (Nat → Nat → Int32) → (Nat → Nat → Int64) → Prop) (C : zCx p s m ([.ref (ad 0)] : List Value).toArray meth c A G K prog_14_method_5_code (some .int) 1 "LassoFinderModel") : ∀ (y0 : Int32) (I : Nat → Int32) (J : Nat → Int64) (B : Nat → Nat → Int32) (D : Nat → Nat → Int64) (ls : Array Slot) (H : Heap) (locs : List Loc), wc_LassoFinderModel_here_24  Post y0 I J B D → lv_has ls 1 [] → zW G A s.heap (wM ad K I J B D) H locs → W p l e { frames := 0, cells := 0, slots := 0, locals := 0 } s m ([.ref (ad 0)] : List Value).toArray below meth c H locs 0 0 (MQ below (va_Qi (fun (r : Int32) (u : zS) => Post r u.1 u.2.1 u.2.2.1 u.2.2.2) (fun u t => zPost G K A (wM ad K u.1 u.2.1 u.2.2.1 u.2.2.2) t) A) ([.ref (ad 0)] : List Value).toArray s 0 0 A) (F0 m 24 ls [.int y0]) := by
  obtain ⟨hx, hb, hr, hml, hts, hown, hlocks, hA, hK⟩ := id C
  intro y0 I J B D ls H locs hok hl hw
  unfold wc_LassoFinderModel_here_24 at hok
  exact (z_iret (u := (I, J, B, D)) hx hb hr hlocks rfl hw (List.range 58) wM_all wM_nd hok (Nat.le_of_ble_eq_true rfl) (Nat.le_of_ble_eq_true rfl) zd_LassoFinderModel_here_24)
set_option maxHeartbeats 8000000 in
set_option maxRecDepth 100000 in
theorem w_LassoFinderModel_here (l : Launch) (G : va_G) (K : Nat → ClassId) (ad : Nat → Nat) (I : Nat → Int32) (J : Nat → Int64) (B : Nat → Nat → Int32) (D : Nat → Nat → Int64) (Post : Int32 → (Nat → Int32) → (Nat → Int64) → (Nat → Nat → Int32) → (Nat → Nat → Int64) → Prop) (sz : Nat) (hok : wp_LassoFinderModel_here I J B D  Post) : Met l zy_LassoFinderModel_here (Cond.code zy_LassoFinderModel_here prog_14_method_5_code 1 (some .int) :: zTB) { frames := 0, cells := 0, slots := 0, locals := 0 } (va_Pc [.ref (ad 0)] (zPre G K (wM ad K I J B D) sz)) (va_Qi (fun (r : Int32) (u : zS) => Post r u.1 u.2.1 u.2.2.1 u.2.2.2) (fun u t => zPost G K (va_A (wM ad K I J B D) sz) (wM ad K u.1 u.2.1 u.2.2.1 u.2.2.2) t) (va_A (wM ad K I J B D) sz)) 0 0 (va_A (wM ad K I J B D) sz) := by
  refine zMet (y := zy_LassoFinderModel_here) (av := [.ref (ad 0)]) (maxL := 1) (cc := prog_14_method_5_code) (ret := (some .int)) (W0 := (wM ad K I J B D)) (sz := sz) (G := G) (K := K) (wt := zTB) (mc := 0) (ms := 0) (Qf := fun A => va_Qi (fun (r : Int32) (u : zS) => Post r u.1 u.2.1 u.2.2.1 u.2.2.2) (fun u t => zPost G K A (wM ad K u.1 u.2.1 u.2.2.1 u.2.2.2) t) A) (by decide) (Nat.le_of_ble_eq_true rfl) ?_
  intro p e s m below meth c ls A hx hb hr hml hts hown hlocks hin hA hK H locs hw hsz hl
  clear hsz
  have hown : s.vm.findClass "LassoFinderModel" = some m.cls := hown
  have C : zCx p s m ([.ref (ad 0)] : List Value).toArray meth c A G K prog_14_method_5_code (some .int) 1 "LassoFinderModel" := ⟨hx, hb, hr, hml, hts, hown, hlocks, hA, hK⟩
  have hl : lv_has ls 1 [(0, .ref (ad 0))] := hl
  have hw : zW G A s.heap (wM ad K I J B D) H locs := hw
  unfold wp_LassoFinderModel_here at hok
  refine lv_aload_n hx hb zd_LassoFinderModel_here_0 rfl (lv_at hl 0 rfl) ?_
  refine z_get (v := .int (I 2)) hx hb hts hown hK hw zZ12 0 wM_g0 3 (by decide) zm_335 rfl zd_LassoFinderModel_here_1 ?_
  refine lv_aload_n hx hb zd_LassoFinderModel_here_4 rfl (lv_at hl 0 rfl) ?_
  refine z_get (v := .int (I 1)) hx hb hts hown hK hw zZ12 0 wM_g0 1 (by decide) zm_294 rfl zd_LassoFinderModel_here_5 ?_
  refine lv_icmp_ge (tgt := 23) hx hb zd_LassoFinderModel_here_8 (by decide) (fun hc1 => ?_) (fun hc1 => ?_)
  · have hok := hok.1 hc1
    refine lv_iconst (v := 0) hx hb zd_LassoFinderModel_here_23 (by decide) ?_
    exact wJ_LassoFinderModel_here_24 G K ad  Post C 0 I J B D ls H locs hok (lv_sub hl [] rfl) hw
  · have hok := hok.2 hc1
    refine lv_aload_n hx hb zd_LassoFinderModel_here_11 rfl (lv_at hl 0 rfl) ?_
    refine z_get (v := .ref (ad 1)) hx hb hts hown hK hw zZ12 0 wM_g0 2 (by decide) zm_235 rfl zd_LassoFinderModel_here_12 ?_
    refine lv_aload_n hx hb zd_LassoFinderModel_here_15 rfl (lv_at hl 0 rfl) ?_
    refine z_get (v := .int (I 2)) hx hb hts hown hK hw zZ12 0 wM_g0 3 (by decide) zm_335 rfl zd_LassoFinderModel_here_16 ?_
    refine va_iald (f := (B 0)) hx hb hK hw.1 1 0 wM_a1 rfl hok.1 zd_LassoFinderModel_here_19 ?_
    have hok := hok.2
    refine lv_topi (fun z2 ez2 => ?_)
    have hok := hok z2 ez2
    refine lv_goto (tgt := 24) hx hb zd_LassoFinderModel_here_20 (by decide) ?_
    exact wJ_LassoFinderModel_here_24 G K ad  Post C z2 I J B D ls H locs hok (lv_sub hl [] rfl) hw
def wp_LassoFinderModel_fail (I : Nat → Int32) (J : Nat → Int64) (B : Nat → Nat → Int32) (D : Nat → Nat → Int64) (Post : Int32 → (Nat → Int32) → (Nat → Int64) → (Nat → Nat → Int32) → (Nat → Nat → Int64) → Prop) : Prop :=
  Post 0 (upd I 3 (I 2)) J B D
set_option maxHeartbeats 8000000 in
set_option maxRecDepth 100000 in
theorem w_LassoFinderModel_fail (l : Launch) (G : va_G) (K : Nat → ClassId) (ad : Nat → Nat) (I : Nat → Int32) (J : Nat → Int64) (B : Nat → Nat → Int32) (D : Nat → Nat → Int64) (Post : Int32 → (Nat → Int32) → (Nat → Int64) → (Nat → Nat → Int32) → (Nat → Nat → Int64) → Prop) (sz : Nat) (hok : wp_LassoFinderModel_fail I J B D  Post) : Met l zy_LassoFinderModel_fail (Cond.code zy_LassoFinderModel_fail prog_14_method_6_code 1 (some .boolean) :: zTB) { frames := 0, cells := 0, slots := 0, locals := 0 } (va_Pc [.ref (ad 0)] (zPre G K (wM ad K I J B D) sz)) (va_Qi (fun (r : Int32) (u : zS) => Post r u.1 u.2.1 u.2.2.1 u.2.2.2) (fun u t => zPost G K (va_A (wM ad K I J B D) sz) (wM ad K u.1 u.2.1 u.2.2.1 u.2.2.2) t) (va_A (wM ad K I J B D) sz)) 0 0 (va_A (wM ad K I J B D) sz) := by
  refine zMet (y := zy_LassoFinderModel_fail) (av := [.ref (ad 0)]) (maxL := 1) (cc := prog_14_method_6_code) (ret := (some .boolean)) (W0 := (wM ad K I J B D)) (sz := sz) (G := G) (K := K) (wt := zTB) (mc := 0) (ms := 0) (Qf := fun A => va_Qi (fun (r : Int32) (u : zS) => Post r u.1 u.2.1 u.2.2.1 u.2.2.2) (fun u t => zPost G K A (wM ad K u.1 u.2.1 u.2.2.1 u.2.2.2) t) A) (by decide) (Nat.le_of_ble_eq_true rfl) ?_
  intro p e s m below meth c ls A hx hb hr hml hts hown hlocks hin hA hK H locs hw hsz hl
  clear hsz
  have hown : s.vm.findClass "LassoFinderModel" = some m.cls := hown
  have C : zCx p s m ([.ref (ad 0)] : List Value).toArray meth c A G K prog_14_method_6_code (some .boolean) 1 "LassoFinderModel" := ⟨hx, hb, hr, hml, hts, hown, hlocks, hA, hK⟩
  have hl : lv_has ls 1 [(0, .ref (ad 0))] := hl
  have hw : zW G A s.heap (wM ad K I J B D) H locs := hw
  unfold wp_LassoFinderModel_fail at hok
  refine lv_aload_n hx hb zd_LassoFinderModel_fail_0 rfl (lv_at hl 0 rfl) ?_
  refine lv_aload_n hx hb zd_LassoFinderModel_fail_1 rfl (lv_at hl 0 rfl) ?_
  refine z_get (v := .int (I 2)) hx hb hts hown hK hw zZ12 0 wM_g0 3 (by decide) zm_335 rfl zd_LassoFinderModel_fail_2 ?_
  refine z_put (v := .int (I 2)) hx hb hts hown hK hw zZ12 0 wM_g0 4 (by decide) zm_301 rfl rfl rfl (Nat.le_of_ble_eq_true rfl) zd_LassoFinderModel_fail_5 (fun H locs hw => ?_)
  have hw := wM_sI3 hw
  refine lv_iconst (v := 0) hx hb zd_LassoFinderModel_fail_8 (by decide) ?_
  exact (z_iret (u := ((upd I 3 (I 2)), J, B, D)) hx hb hr hlocks rfl hw (List.range 58) wM_all wM_nd hok (Nat.le_of_ble_eq_true rfl) (Nat.le_of_ble_eq_true rfl) zd_LassoFinderModel_fail_9)
def wc_LassoFinderModel_jumps_58 (a0 : Int32) (Post : Int32 → (Nat → Int32) → (Nat → Int64) → (Nat → Nat → Int32) → (Nat → Nat → Int64) → Prop) (x2 : Int32) (I : Nat → Int32) (J : Nat → Int64) (B : Nat → Nat → Int32) (D : Nat → Nat → Int64) : Prop :=
  vp_in x2 140 ∧ ∀ z1 : Int32, z1 = ((B 16) x2.toNatClampNeg) → Post 0 (upd I 3 z1) J B D
def wc_LassoFinderModel_jumps_70 (a0 : Int32) (K2 : Int32 → (Nat → Int32) → (Nat → Int64) → (Nat → Nat → Int32) → (Nat → Nat → Int64) → Prop) (Post : Int32 → (Nat → Int32) → (Nat → Int64) → (Nat → Nat → Int32) → (Nat → Nat → Int64) → Prop) (x2 : Int32) (I : Nat → Int32) (J : Nat → Int64) (B : Nat → Nat → Int32) (D : Nat → Nat → Int64) : Prop :=
  ∀ z2 : Int32, z2 = (x2 + 1) → K2 z2 I J B D
def wb_LassoFinderModel_jumps_2 (a0 : Int32) (K2 : Int32 → (Nat → Int32) → (Nat → Int64) → (Nat → Nat → Int32) → (Nat → Nat → Int64) → Prop) (Post : Int32 → (Nat → Int32) → (Nat → Int64) → (Nat → Nat → Int32) → (Nat → Nat → Int64) → Prop) (x2 : Int32) (I : Nat → Int32) (J : Nat → Int64) (B : Nat → Nat → Int32) (D : Nat → Nat → Int64) : Prop :=
  (((I 8) ≤ x2 → Post 1 I J B D) ∧ (¬ (I 8) ≤ x2 → vp_in x2 140 ∧ ∀ z4 : Int32, z4 = ((B 5) x2.toNatClampNeg) → ((z4 = 10 → ∀ z6 : Int32, z6 = (8 * (I 10)) → vp_in x2 140 ∧ ∀ z7 : Int32, z7 = ((B 12) x2.toNatClampNeg) → ∀ z8 : Int32, z8 = (z6 + z7) → vp_in z8 32 ∧ ∀ z9 : Int32, z9 = ((B 22) z8.toNatClampNeg) → ((z9 < 0 → wc_LassoFinderModel_jumps_58 a0 Post x2 I J B D) ∧ (¬ z9 < 0 → wp_LassoFinderModel_instead I J B D z9 (fun r11 I11 J11 B11 D11 => ((¬ r11 = (-3) → wc_LassoFinderModel_jumps_70 a0 K2 Post x2 I11 J11 B11 D11) ∧ (r11 = (-3) → wc_LassoFinderModel_jumps_58 a0 Post x2 I11 J11 B11 D11)))))) ∧ (¬ z4 = 10 → wc_LassoFinderModel_jumps_70 a0 K2 Post x2 I J B D))))
def wl_LassoFinderModel_jumps_2 (a0 : Int32) (Post : Int32 → (Nat → Int32) → (Nat → Int64) → (Nat → Nat → Int32) → (Nat → Nat → Int64) → Prop) (n : Nat) : Int32 → (Nat → Int32) → (Nat → Int64) → (Nat → Nat → Int32) → (Nat → Nat → Int64) → Prop := Nat.rec (fun _ _ _ _ _ => False) (fun _ r => wb_LassoFinderModel_jumps_2 a0 r Post) n
def wp_LassoFinderModel_jumps (I : Nat → Int32) (J : Nat → Int64) (B : Nat → Nat → Int32) (D : Nat → Nat → Int64) (a0 : Int32) (Post : Int32 → (Nat → Int32) → (Nat → Int64) → (Nat → Nat → Int32) → (Nat → Nat → Int64) → Prop) : Prop :=
  ∃ n : Nat, wl_LassoFinderModel_jumps_2 a0 Post n a0 I J B D
set_option maxHeartbeats 8000000 in
set_option maxRecDepth 100000 in
theorem wJ_LassoFinderModel_jumps_58 {p : Program} {l : Launch} {e : Env} {s : State} {m : MethodId} {below : List Frame} {meth : Method} {c : Code} {A : Nat → Prop} (G : va_G) (K : Nat → ClassId) (ad : Nat → Nat) (a0 : Int32) (Post : Int32 → (Nat → Int32) → (Nat → Int64) → (Nat → Nat → Int32) → (Nat → Nat → Int64) → Prop) (C : zCx p s m ([.ref (ad 0), .int a0] : List Value).toArray meth c A G K prog_14_method_23_code (some .boolean) 4 "LassoFinderModel") : ∀ (x2 : Int32) (I : Nat → Int32) (J : Nat → Int64) (B : Nat → Nat → Int32) (D : Nat → Nat → Int64) (ls : Array Slot) (H : Heap) (locs : List Loc), wc_LassoFinderModel_jumps_58 a0 Post x2 I J B D → lv_has ls 4 [(0, .ref (ad 0)), (2, .int x2)] → zW G A s.heap (wM ad K I J B D) H locs → W p l e { frames := 2, cells := 0, slots := 0, locals := 47 } s m ([.ref (ad 0), .int a0] : List Value).toArray below meth c H locs 0 0 (MQ below (va_Qi (fun (r : Int32) (u : zS) => Post r u.1 u.2.1 u.2.2.1 u.2.2.2) (fun u t => zPost G K A (wM ad K u.1 u.2.1 u.2.2.1 u.2.2.2) t) A) ([.ref (ad 0), .int a0] : List Value).toArray s 0 0 A) (F0 m 58 ls []) := by
  obtain ⟨hx, hb, hr, hml, hts, hown, hlocks, hA, hK⟩ := id C
  intro x2 I J B D ls H locs hok hl hw
  unfold wc_LassoFinderModel_jumps_58 at hok
  refine lv_aload_n hx hb zd_LassoFinderModel_jumps_58 rfl (lv_at hl 0 rfl) ?_
  refine lv_aload_n hx hb zd_LassoFinderModel_jumps_59 rfl (lv_at hl 0 rfl) ?_
  refine z_get (v := .ref (ad 17)) hx hb hts hown hK hw zZ12 0 wM_g0 25 (by decide) zm_251 rfl zd_LassoFinderModel_jumps_60 ?_
  refine lv_iload_n hx hb zd_LassoFinderModel_jumps_63 rfl (lv_at hl 1 rfl) ?_
  refine va_iald (f := (B 16)) hx hb hK hw.1 17 0 wM_a17 rfl hok.1 zd_LassoFinderModel_jumps_64 ?_
  have hok := hok.2
  refine lv_topi (fun z1 ez1 => ?_)
  have hok := hok z1 ez1
  refine z_put (v := .int z1) hx hb hts hown hK hw zZ12 0 wM_g0 4 (by decide) zm_301 rfl rfl rfl (Nat.le_of_ble_eq_true rfl) zd_LassoFinderModel_jumps_65 (fun H locs hw => ?_)
  have hw := wM_sI3 hw
  refine lv_iconst (v := 0) hx hb zd_LassoFinderModel_jumps_68 (by decide) ?_
  exact (z_iret (u := ((upd I 3 z1), J, B, D)) hx hb hr hlocks rfl hw (List.range 58) wM_all wM_nd hok (Nat.le_of_ble_eq_true rfl) (Nat.le_of_ble_eq_true rfl) zd_LassoFinderModel_jumps_69)
set_option maxHeartbeats 8000000 in
set_option maxRecDepth 100000 in
theorem wJ_LassoFinderModel_jumps_70 {p : Program} {l : Launch} {e : Env} {s : State} {m : MethodId} {below : List Frame} {meth : Method} {c : Code} {A : Nat → Prop} (G : va_G) (K : Nat → ClassId) (ad : Nat → Nat) (a0 : Int32) (Post : Int32 → (Nat → Int32) → (Nat → Int64) → (Nat → Nat → Int32) → (Nat → Nat → Int64) → Prop) (C : zCx p s m ([.ref (ad 0), .int a0] : List Value).toArray meth c A G K prog_14_method_23_code (some .boolean) 4 "LassoFinderModel") (K2 : Int32 → (Nat → Int32) → (Nat → Int64) → (Nat → Nat → Int32) → (Nat → Nat → Int64) → Prop) (kh2 : ∀ (x2 : Int32) (I : Nat → Int32) (J : Nat → Int64) (B : Nat → Nat → Int32) (D : Nat → Nat → Int64) (ls : Array Slot) (H : Heap) (locs : List Loc), K2 x2 I J B D → lv_has ls 4 [(0, .ref (ad 0)), (2, .int x2)] → zW G A s.heap (wM ad K I J B D) H locs → W p l e { frames := 2, cells := 0, slots := 0, locals := 47 } s m ([.ref (ad 0), .int a0] : List Value).toArray below meth c H locs 0 0 (MQ below (va_Qi (fun (r : Int32) (u : zS) => Post r u.1 u.2.1 u.2.2.1 u.2.2.2) (fun u t => zPost G K A (wM ad K u.1 u.2.1 u.2.2.1 u.2.2.2) t) A) ([.ref (ad 0), .int a0] : List Value).toArray s 0 0 A) (F0 m 2 ls [])) : ∀ (x2 : Int32) (I : Nat → Int32) (J : Nat → Int64) (B : Nat → Nat → Int32) (D : Nat → Nat → Int64) (ls : Array Slot) (H : Heap) (locs : List Loc), wc_LassoFinderModel_jumps_70 a0 K2 Post x2 I J B D → lv_has ls 4 [(0, .ref (ad 0)), (2, .int x2)] → zW G A s.heap (wM ad K I J B D) H locs → W p l e { frames := 2, cells := 0, slots := 0, locals := 47 } s m ([.ref (ad 0), .int a0] : List Value).toArray below meth c H locs 0 0 (MQ below (va_Qi (fun (r : Int32) (u : zS) => Post r u.1 u.2.1 u.2.2.1 u.2.2.2) (fun u t => zPost G K A (wM ad K u.1 u.2.1 u.2.2.1 u.2.2.2) t) A) ([.ref (ad 0), .int a0] : List Value).toArray s 0 0 A) (F0 m 70 ls []) := by
  obtain ⟨hx, hb, hr, hml, hts, hown, hlocks, hA, hK⟩ := id C
  intro x2 I J B D ls H locs hok hl hw
  unfold wc_LassoFinderModel_jumps_70 at hok
  obtain ⟨z2, ez2⟩ : ∃ z : Int32, z = (x2 + 1) := ⟨_, rfl⟩
  have hok := hok z2 ez2
  refine lv_iinc (v := z2) hx hb zd_LassoFinderModel_jumps_70 hl (k := 1) rfl ez2.symm (by decide) rfl (fun ls hl => ?_)
  have hl : lv_has ls 4 [(2, .int z2), (0, .ref (ad 0))] := hl
  refine lv_goto (tgt := 2) hx hb zd_LassoFinderModel_jumps_73 (by decide) ?_
  exact kh2 z2 I J B D ls H locs hok (lv_sub hl [1, 0] rfl) hw
set_option maxHeartbeats 8000000 in
set_option maxRecDepth 100000 in
theorem wB_LassoFinderModel_jumps_2 {p : Program} {l : Launch} {e : Env} {s : State} {m : MethodId} {below : List Frame} {meth : Method} {c : Code} {A : Nat → Prop} (G : va_G) (K : Nat → ClassId) (ad : Nat → Nat) (a0 : Int32) (Post : Int32 → (Nat → Int32) → (Nat → Int64) → (Nat → Nat → Int32) → (Nat → Nat → Int64) → Prop) (C : zCx p s m ([.ref (ad 0), .int a0] : List Value).toArray meth c A G K prog_14_method_23_code (some .boolean) 4 "LassoFinderModel") (K2 : Int32 → (Nat → Int32) → (Nat → Int64) → (Nat → Nat → Int32) → (Nat → Nat → Int64) → Prop) (kh2 : ∀ (x2 : Int32) (I : Nat → Int32) (J : Nat → Int64) (B : Nat → Nat → Int32) (D : Nat → Nat → Int64) (ls : Array Slot) (H : Heap) (locs : List Loc), K2 x2 I J B D → lv_has ls 4 [(0, .ref (ad 0)), (2, .int x2)] → zW G A s.heap (wM ad K I J B D) H locs → W p l e { frames := 2, cells := 0, slots := 0, locals := 47 } s m ([.ref (ad 0), .int a0] : List Value).toArray below meth c H locs 0 0 (MQ below (va_Qi (fun (r : Int32) (u : zS) => Post r u.1 u.2.1 u.2.2.1 u.2.2.2) (fun u t => zPost G K A (wM ad K u.1 u.2.1 u.2.2.1 u.2.2.2) t) A) ([.ref (ad 0), .int a0] : List Value).toArray s 0 0 A) (F0 m 2 ls [])) : ∀ (x2 : Int32) (I : Nat → Int32) (J : Nat → Int64) (B : Nat → Nat → Int32) (D : Nat → Nat → Int64) (ls : Array Slot) (H : Heap) (locs : List Loc), wb_LassoFinderModel_jumps_2 a0 K2 Post x2 I J B D → lv_has ls 4 [(0, .ref (ad 0)), (2, .int x2)] → zW G A s.heap (wM ad K I J B D) H locs → W p l e { frames := 2, cells := 0, slots := 0, locals := 47 } s m ([.ref (ad 0), .int a0] : List Value).toArray below meth c H locs 0 0 (MQ below (va_Qi (fun (r : Int32) (u : zS) => Post r u.1 u.2.1 u.2.2.1 u.2.2.2) (fun u t => zPost G K A (wM ad K u.1 u.2.1 u.2.2.1 u.2.2.2) t) A) ([.ref (ad 0), .int a0] : List Value).toArray s 0 0 A) (F0 m 2 ls []) := by
  obtain ⟨hx, hb, hr, hml, hts, hown, hlocks, hA, hK⟩ := id C
  intro x2 I J B D ls H locs hok hl hw
  unfold wb_LassoFinderModel_jumps_2 at hok
  refine lv_iload_n hx hb zd_LassoFinderModel_jumps_2 rfl (lv_at hl 1 rfl) ?_
  refine lv_aload_n hx hb zd_LassoFinderModel_jumps_3 rfl (lv_at hl 0 rfl) ?_
  refine z_get (v := .int (I 8)) hx hb hts hown hK hw zZ12 0 wM_g0 13 (by decide) zm_307 rfl zd_LassoFinderModel_jumps_4 ?_
  refine lv_icmp_ge (tgt := 76) hx hb zd_LassoFinderModel_jumps_7 (by decide) (fun hc3 => ?_) (fun hc3 => ?_)
  · have hok := hok.1 hc3
    refine lv_iconst (v := 1) hx hb zd_LassoFinderModel_jumps_76 (by decide) ?_
    exact (z_iret (u := (I, J, B, D)) hx hb hr hlocks rfl hw (List.range 58) wM_all wM_nd hok (Nat.le_of_ble_eq_true rfl) (Nat.le_of_ble_eq_true rfl) zd_LassoFinderModel_jumps_77)
  · have hok := hok.2 hc3
    refine lv_aload_n hx hb zd_LassoFinderModel_jumps_10 rfl (lv_at hl 0 rfl) ?_
    refine z_get (v := .ref (ad 6)) hx hb hts hown hK hw zZ12 0 wM_g0 14 (by decide) zm_240 rfl zd_LassoFinderModel_jumps_11 ?_
    refine lv_iload_n hx hb zd_LassoFinderModel_jumps_14 rfl (lv_at hl 1 rfl) ?_
    refine va_iald (f := (B 5)) hx hb hK hw.1 6 0 wM_a6 rfl hok.1 zd_LassoFinderModel_jumps_15 ?_
    have hok := hok.2
    refine lv_topi (fun z4 ez4 => ?_)
    have hok := hok z4 ez4
    refine lv_bipush (v := 10) hx hb zd_LassoFinderModel_jumps_16 (by decide) ?_
    refine lv_icmp_eq (tgt := 24) hx hb zd_LassoFinderModel_jumps_18 (by decide) (fun hc5 => ?_) (fun hc5 => ?_)
    · have hok := hok.1 hc5
      refine lv_aload_n hx hb zd_LassoFinderModel_jumps_24 rfl (lv_at hl 0 rfl) ?_
      refine z_get (v := .ref (ad 23)) hx hb hts hown hK hw zZ12 0 wM_g0 33 (by decide) zm_257 rfl zd_LassoFinderModel_jumps_25 ?_
      refine lv_bipush (v := 8) hx hb zd_LassoFinderModel_jumps_28 (by decide) ?_
      refine lv_aload_n hx hb zd_LassoFinderModel_jumps_30 rfl (lv_at hl 0 rfl) ?_
      refine z_get (v := .int (I 10)) hx hb hts hown hK hw zZ12 0 wM_g0 30 (by decide) zm_310 rfl zd_LassoFinderModel_jumps_31 ?_
      refine lv_imul hx hb zd_LassoFinderModel_jumps_34 ?_
      refine lv_topi (fun z6 ez6 => ?_)
      have hok := hok z6 ez6
      refine lv_aload_n hx hb zd_LassoFinderModel_jumps_35 rfl (lv_at hl 0 rfl) ?_
      refine z_get (v := .ref (ad 13)) hx hb hts hown hK hw zZ12 0 wM_g0 21 (by decide) zm_247 rfl zd_LassoFinderModel_jumps_36 ?_
      refine lv_iload_n hx hb zd_LassoFinderModel_jumps_39 rfl (lv_at hl 1 rfl) ?_
      refine va_iald (f := (B 12)) hx hb hK hw.1 13 0 wM_a13 rfl hok.1 zd_LassoFinderModel_jumps_40 ?_
      have hok := hok.2
      refine lv_topi (fun z7 ez7 => ?_)
      have hok := hok z7 ez7
      refine lv_iadd hx hb zd_LassoFinderModel_jumps_41 ?_
      refine lv_topi (fun z8 ez8 => ?_)
      have hok := hok z8 ez8
      refine va_iald (f := (B 22)) hx hb hK hw.1 23 0 wM_a23 rfl hok.1 zd_LassoFinderModel_jumps_42 ?_
      have hok := hok.2
      refine lv_topi (fun z9 ez9 => ?_)
      have hok := hok z9 ez9
      refine lv_istore_n hx hb zd_LassoFinderModel_jumps_43 rfl hl (by decide) rfl (fun ls hl => ?_)
      have hl : lv_has ls 4 [(3, .int z9), (0, .ref (ad 0)), (2, .int x2)] := hl
      refine lv_iload_n hx hb zd_LassoFinderModel_jumps_44 rfl (lv_at hl 0 rfl) ?_
      refine lv_if_lt (tgt := 58) hx hb zd_LassoFinderModel_jumps_45 (by decide) (fun hc10 => ?_) (fun hc10 => ?_)
      · have hok := hok.1 hc10
        exact wJ_LassoFinderModel_jumps_58 G K ad a0 Post C x2 I J B D ls H locs hok (lv_sub hl [1, 2] rfl) hw
      · have hok := hok.2 hc10
        refine lv_aload_n hx hb zd_LassoFinderModel_jumps_48 rfl (lv_at hl 1 rfl) ?_
        refine lv_iload_n hx hb zd_LassoFinderModel_jumps_49 rfl (lv_at hl 0 rfl) ?_
        refine z_calli (w1 := fun (u : zS) => wM ad K u.1 u.2.1 u.2.2.1 u.2.2.2) (wr := []) (z_runV (q0 := 0) (wc := (wM ad K I J B D)) (As := [.int z9]) (rest := []) ⟨hx, hb, hml, hown, hts⟩ (w_LassoFinderModel_instead l G K ad I J B D z9 _ H.size hok) zf_LassoFinderModel_instead zm_305 ⟨Nat.le_of_ble_eq_true rfl, Nat.le_of_ble_eq_true rfl⟩ hK hw (List.range 58) wM_all wM_nd wM_g0 rfl rfl hl.1 rfl (Nat.le_of_ble_eq_true rfl) zd_LassoFinderModel_jumps_50 ⟨Nat.le_of_ble_eq_true rfl, Nat.le_of_ble_eq_true rfl⟩) hw hA (List.range 58) [] wM_all rfl (by decide) (fun i hi => by cases hi) (fun r11 u H locs hok hw => ?_)
        obtain ⟨I11, J11, B11, D11⟩ := u
        dsimp only at hok
        have hw : zW G A s.heap (wM ad K I11 J11 B11 D11) H locs := hw
        refine lv_bipush (v := (-3)) hx hb zd_LassoFinderModel_jumps_53 (by decide) ?_
        refine lv_icmp_ne (tgt := 70) hx hb zd_LassoFinderModel_jumps_55 (by decide) (fun hc12 => ?_) (fun hc12 => ?_)
        · have hok := hok.1 hc12
          exact wJ_LassoFinderModel_jumps_70 G K ad a0 Post C K2 kh2 x2 I11 J11 B11 D11 ls H locs hok (lv_sub hl [1, 2] rfl) hw
        · have hok := hok.2 hc12
          exact wJ_LassoFinderModel_jumps_58 G K ad a0 Post C x2 I11 J11 B11 D11 ls H locs hok (lv_sub hl [1, 2] rfl) hw
    · have hok := hok.2 hc5
      refine lv_goto (tgt := 70) hx hb zd_LassoFinderModel_jumps_21 (by decide) ?_
      exact wJ_LassoFinderModel_jumps_70 G K ad a0 Post C K2 kh2 x2 I J B D ls H locs hok (lv_sub hl [0, 1] rfl) hw
theorem wL_LassoFinderModel_jumps_2 {p : Program} {l : Launch} {e : Env} {s : State} {m : MethodId} {below : List Frame} {meth : Method} {c : Code} {A : Nat → Prop} (G : va_G) (K : Nat → ClassId) (ad : Nat → Nat) (a0 : Int32) (Post : Int32 → (Nat → Int32) → (Nat → Int64) → (Nat → Nat → Int32) → (Nat → Nat → Int64) → Prop) (C : zCx p s m ([.ref (ad 0), .int a0] : List Value).toArray meth c A G K prog_14_method_23_code (some .boolean) 4 "LassoFinderModel") : ∀ (n : Nat) (x2 : Int32) (I : Nat → Int32) (J : Nat → Int64) (B : Nat → Nat → Int32) (D : Nat → Nat → Int64) (ls : Array Slot) (H : Heap) (locs : List Loc), wl_LassoFinderModel_jumps_2 a0 Post n x2 I J B D → lv_has ls 4 [(0, .ref (ad 0)), (2, .int x2)] → zW G A s.heap (wM ad K I J B D) H locs → W p l e { frames := 2, cells := 0, slots := 0, locals := 47 } s m ([.ref (ad 0), .int a0] : List Value).toArray below meth c H locs 0 0 (MQ below (va_Qi (fun (r : Int32) (u : zS) => Post r u.1 u.2.1 u.2.2.1 u.2.2.2) (fun u t => zPost G K A (wM ad K u.1 u.2.1 u.2.2.1 u.2.2.2) t) A) ([.ref (ad 0), .int a0] : List Value).toArray s 0 0 A) (F0 m 2 ls []) := by
  intro n
  induction n with
  | zero => intro x2 I J B D ls H locs hok; exact hok.elim
  | succ n ih => exact wB_LassoFinderModel_jumps_2 G K ad a0 Post C (wl_LassoFinderModel_jumps_2 a0 Post n) ih
set_option maxHeartbeats 8000000 in
set_option maxRecDepth 100000 in
theorem w_LassoFinderModel_jumps (l : Launch) (G : va_G) (K : Nat → ClassId) (ad : Nat → Nat) (I : Nat → Int32) (J : Nat → Int64) (B : Nat → Nat → Int32) (D : Nat → Nat → Int64) (a0 : Int32) (Post : Int32 → (Nat → Int32) → (Nat → Int64) → (Nat → Nat → Int32) → (Nat → Nat → Int64) → Prop) (sz : Nat) (hok : wp_LassoFinderModel_jumps I J B D a0 Post) : Met l zy_LassoFinderModel_jumps (Cond.code zy_LassoFinderModel_jumps prog_14_method_23_code 4 (some .boolean) :: zTB) { frames := 2, cells := 0, slots := 0, locals := 47 } (va_Pc [.ref (ad 0), .int a0] (zPre G K (wM ad K I J B D) sz)) (va_Qi (fun (r : Int32) (u : zS) => Post r u.1 u.2.1 u.2.2.1 u.2.2.2) (fun u t => zPost G K (va_A (wM ad K I J B D) sz) (wM ad K u.1 u.2.1 u.2.2.1 u.2.2.2) t) (va_A (wM ad K I J B D) sz)) 0 0 (va_A (wM ad K I J B D) sz) := by
  refine zMet (y := zy_LassoFinderModel_jumps) (av := [.ref (ad 0), .int a0]) (maxL := 4) (cc := prog_14_method_23_code) (ret := (some .boolean)) (W0 := (wM ad K I J B D)) (sz := sz) (G := G) (K := K) (wt := zTB) (mc := 0) (ms := 0) (Qf := fun A => va_Qi (fun (r : Int32) (u : zS) => Post r u.1 u.2.1 u.2.2.1 u.2.2.2) (fun u t => zPost G K A (wM ad K u.1 u.2.1 u.2.2.1 u.2.2.2) t) A) (by decide) (Nat.le_of_ble_eq_true rfl) ?_
  intro p e s m below meth c ls A hx hb hr hml hts hown hlocks hin hA hK H locs hw hsz hl
  clear hsz
  have hown : s.vm.findClass "LassoFinderModel" = some m.cls := hown
  have C : zCx p s m ([.ref (ad 0), .int a0] : List Value).toArray meth c A G K prog_14_method_23_code (some .boolean) 4 "LassoFinderModel" := ⟨hx, hb, hr, hml, hts, hown, hlocks, hA, hK⟩
  have hl : lv_has ls 4 [(0, .ref (ad 0)), (1, .int a0)] := hl
  have hw : zW G A s.heap (wM ad K I J B D) H locs := hw
  unfold wp_LassoFinderModel_jumps at hok
  refine lv_iload_n hx hb zd_LassoFinderModel_jumps_0 rfl (lv_at hl 1 rfl) ?_
  refine lv_istore_n hx hb zd_LassoFinderModel_jumps_1 rfl hl (by decide) rfl (fun ls hl => ?_)
  have hl : lv_has ls 4 [(2, .int a0), (0, .ref (ad 0)), (1, .int a0)] := hl
  obtain ⟨n9, hok⟩ := hok
  exact wL_LassoFinderModel_jumps_2 G K ad a0 Post C n9 a0 I J B D ls H locs hok (lv_sub hl [1, 0] rfl) hw
def wp_LassoFinderModel_enter (I : Nat → Int32) (J : Nat → Int64) (B : Nat → Nat → Int32) (D : Nat → Nat → Int64) (a0 : Int32) (a1 : Int32) (Post : (Nat → Int32) → (Nat → Int64) → (Nat → Nat → Int32) → (Nat → Nat → Int64) → Prop) : Prop :=
  ∀ z1 : Int32, z1 = ((I 12) + 1) → vp_in z1 8 ∧ vp_in z1 8 ∧ vp_in z1 8 ∧ ∀ z2 : Int32, z2 = ((I 2) + 1) → Post (upd (upd I 12 z1) 2 z2) J (va_up (va_up (va_up B 25 (upd (B 25) z1.toNatClampNeg a0)) 26 (upd (B 26) z1.toNatClampNeg a1)) 27 (upd (B 27) z1.toNatClampNeg (-1))) D
set_option maxHeartbeats 8000000 in
set_option maxRecDepth 100000 in
theorem w_LassoFinderModel_enter (l : Launch) (G : va_G) (K : Nat → ClassId) (ad : Nat → Nat) (I : Nat → Int32) (J : Nat → Int64) (B : Nat → Nat → Int32) (D : Nat → Nat → Int64) (a0 : Int32) (a1 : Int32) (Post : (Nat → Int32) → (Nat → Int64) → (Nat → Nat → Int32) → (Nat → Nat → Int64) → Prop) (sz : Nat) (hok : wp_LassoFinderModel_enter I J B D a0 a1 Post) : Met l zy_LassoFinderModel_enter (Cond.code zy_LassoFinderModel_enter prog_14_method_17_code 3 none :: zTB) { frames := 0, cells := 0, slots := 0, locals := 0 } (va_Pc [.ref (ad 0), .int a0, .int a1] (zPre G K (wM ad K I J B D) sz)) (va_Qv (fun u : zS => Post u.1 u.2.1 u.2.2.1 u.2.2.2) (fun u t => zPost G K (va_A (wM ad K I J B D) sz) (wM ad K u.1 u.2.1 u.2.2.1 u.2.2.2) t) (va_A (wM ad K I J B D) sz)) 0 0 (va_A (wM ad K I J B D) sz) := by
  refine zMet (y := zy_LassoFinderModel_enter) (av := [.ref (ad 0), .int a0, .int a1]) (maxL := 3) (cc := prog_14_method_17_code) (ret := none) (W0 := (wM ad K I J B D)) (sz := sz) (G := G) (K := K) (wt := zTB) (mc := 0) (ms := 0) (Qf := fun A => va_Qv (fun u : zS => Post u.1 u.2.1 u.2.2.1 u.2.2.2) (fun u t => zPost G K A (wM ad K u.1 u.2.1 u.2.2.1 u.2.2.2) t) A) (by decide) (Nat.le_of_ble_eq_true rfl) ?_
  intro p e s m below meth c ls A hx hb hr hml hts hown hlocks hin hA hK H locs hw hsz hl
  clear hsz
  have hown : s.vm.findClass "LassoFinderModel" = some m.cls := hown
  have C : zCx p s m ([.ref (ad 0), .int a0, .int a1] : List Value).toArray meth c A G K prog_14_method_17_code none 3 "LassoFinderModel" := ⟨hx, hb, hr, hml, hts, hown, hlocks, hA, hK⟩
  have hl : lv_has ls 3 [(0, .ref (ad 0)), (1, .int a0), (2, .int a1)] := hl
  have hw : zW G A s.heap (wM ad K I J B D) H locs := hw
  unfold wp_LassoFinderModel_enter at hok
  refine lv_aload_n hx hb zd_LassoFinderModel_enter_0 rfl (lv_at hl 0 rfl) ?_
  refine lv_dup hx hb zd_LassoFinderModel_enter_1 rfl ?_
  refine z_get (v := .int (I 12)) hx hb hts hown hK hw zZ12 0 wM_g0 38 (by decide) zm_338 rfl zd_LassoFinderModel_enter_2 ?_
  refine lv_iconst (v := 1) hx hb zd_LassoFinderModel_enter_5 (by decide) ?_
  refine lv_iadd hx hb zd_LassoFinderModel_enter_6 ?_
  refine lv_topi (fun z1 ez1 => ?_)
  have hok := hok z1 ez1
  refine z_put (v := .int z1) hx hb hts hown hK hw zZ12 0 wM_g0 38 (by decide) zm_338 rfl rfl rfl (Nat.le_of_ble_eq_true rfl) zd_LassoFinderModel_enter_7 (fun H locs hw => ?_)
  have hw := wM_sI12 hw
  refine lv_aload_n hx hb zd_LassoFinderModel_enter_10 rfl (lv_at hl 0 rfl) ?_
  refine z_get (v := .ref (ad 27)) hx hb hts hown hK hw zZ12 0 wM_g0 39 (by decide) zm_261 rfl zd_LassoFinderModel_enter_11 ?_
  refine lv_aload_n hx hb zd_LassoFinderModel_enter_14 rfl (lv_at hl 0 rfl) ?_
  refine z_get (v := .int z1) hx hb hts hown hK hw zZ12 0 wM_g0 38 (by decide) zm_338 rfl zd_LassoFinderModel_enter_15 ?_
  refine lv_iload_n hx hb zd_LassoFinderModel_enter_18 rfl (lv_at hl 1 rfl) ?_
  refine va_iast (f := (B 25)) hx hb hK hw.1 hw.2.1 hw.2.2 27 0 wM_a27 rfl hok.1 zd_LassoFinderModel_enter_19 (fun H locs w91 w92 w93 => ?_)
  have hok := hok.2
  have hw := wM_t27 ⟨w91, w92, w93⟩
  refine lv_aload_n hx hb zd_LassoFinderModel_enter_20 rfl (lv_at hl 0 rfl) ?_
  refine z_get (v := .ref (ad 28)) hx hb hts hown hK hw zZ12 0 wM_g0 40 (by decide) zm_262 rfl zd_LassoFinderModel_enter_21 ?_
  refine lv_aload_n hx hb zd_LassoFinderModel_enter_24 rfl (lv_at hl 0 rfl) ?_
  refine z_get (v := .int z1) hx hb hts hown hK hw zZ12 0 wM_g0 38 (by decide) zm_338 rfl zd_LassoFinderModel_enter_25 ?_
  refine lv_iload_n hx hb zd_LassoFinderModel_enter_28 rfl (lv_at hl 2 rfl) ?_
  refine va_iast (f := (B 26)) hx hb hK hw.1 hw.2.1 hw.2.2 28 0 wM_a28 rfl hok.1 zd_LassoFinderModel_enter_29 (fun H locs w91 w92 w93 => ?_)
  have hok := hok.2
  have hw := wM_t28 ⟨w91, w92, w93⟩
  refine lv_aload_n hx hb zd_LassoFinderModel_enter_30 rfl (lv_at hl 0 rfl) ?_
  refine z_get (v := .ref (ad 29)) hx hb hts hown hK hw zZ12 0 wM_g0 41 (by decide) zm_263 rfl zd_LassoFinderModel_enter_31 ?_
  refine lv_aload_n hx hb zd_LassoFinderModel_enter_34 rfl (lv_at hl 0 rfl) ?_
  refine z_get (v := .int z1) hx hb hts hown hK hw zZ12 0 wM_g0 38 (by decide) zm_338 rfl zd_LassoFinderModel_enter_35 ?_
  refine lv_iconst (v := (-1)) hx hb zd_LassoFinderModel_enter_38 (by decide) ?_
  refine va_iast (f := (B 27)) hx hb hK hw.1 hw.2.1 hw.2.2 29 0 wM_a29 rfl hok.1 zd_LassoFinderModel_enter_39 (fun H locs w91 w92 w93 => ?_)
  have hok := hok.2
  have hw := wM_t29 ⟨w91, w92, w93⟩
  refine lv_aload_n hx hb zd_LassoFinderModel_enter_40 rfl (lv_at hl 0 rfl) ?_
  refine lv_dup hx hb zd_LassoFinderModel_enter_41 rfl ?_
  refine z_get (v := .int (I 2)) hx hb hts hown hK hw zZ12 0 wM_g0 3 (by decide) zm_335 rfl zd_LassoFinderModel_enter_42 ?_
  refine lv_iconst (v := 1) hx hb zd_LassoFinderModel_enter_45 (by decide) ?_
  refine lv_iadd hx hb zd_LassoFinderModel_enter_46 ?_
  refine lv_topi (fun z2 ez2 => ?_)
  have hok := hok z2 ez2
  refine z_put (v := .int z2) hx hb hts hown hK hw zZ12 0 wM_g0 3 (by decide) zm_335 rfl rfl rfl (Nat.le_of_ble_eq_true rfl) zd_LassoFinderModel_enter_47 (fun H locs hw => ?_)
  have hw := wM_sI2 hw
  exact (z_vret (u := ((upd (upd I 12 z1) 2 z2), J, (va_up (va_up (va_up B 25 (upd (B 25) z1.toNatClampNeg a0)) 26 (upd (B 26) z1.toNatClampNeg a1)) 27 (upd (B 27) z1.toNatClampNeg (-1))), D)) hx hb hr hlocks hw (List.range 58) wM_all wM_nd hok (Nat.le_of_ble_eq_true rfl) (Nat.le_of_ble_eq_true rfl) zd_LassoFinderModel_enter_50)
def wc_LassoFinderModel_node_258 (a0 : Int32) (Post : Int32 → (Nat → Int32) → (Nat → Int64) → (Nat → Nat → Int32) → (Nat → Nat → Int64) → Prop) (x2 : Int32) (I : Nat → Int32) (J : Nat → Int64) (B : Nat → Nat → Int32) (D : Nat → Nat → Int64) : Prop :=
  Post x2 I J B D
def wc_LassoFinderModel_node_223 (a0 : Int32) (Post : Int32 → (Nat → Int32) → (Nat → Int64) → (Nat → Nat → Int32) → (Nat → Nat → Int64) → Prop) (x1 : Int32) (x2 : Int32) (I : Nat → Int32) (J : Nat → Int64) (B : Nat → Nat → Int32) (D : Nat → Nat → Int64) : Prop :=
  (((5 : Int32) < x1 → wc_LassoFinderModel_node_258 a0 Post x2 I J B D) ∧ (¬ (5 : Int32) < x1 → vp_in x2 140 ∧ vp_in (I 9) 48 ∧ ∀ z2 : Int32, z2 = ((I 9) + 1) → wc_LassoFinderModel_node_258 a0 Post x2 (upd I 9 z2) J (va_up (va_up B 19 (upd (B 19) x2.toNatClampNeg (I 9))) 18 (upd (B 18) (I 9).toNatClampNeg x2)) D))
def wc_LassoFinderModel_node_153 (a0 : Int32) (K123 : Int32 → Int32 → Int32 → (Nat → Int32) → (Nat → Int64) → (Nat → Nat → Int32) → (Nat → Nat → Int64) → Prop) (Post : Int32 → (Nat → Int32) → (Nat → Int64) → (Nat → Nat → Int32) → (Nat → Nat → Int64) → Prop) (x1 : Int32) (x2 : Int32) (x3 : Int32) (I : Nat → Int32) (J : Nat → Int64) (B : Nat → Nat → Int32) (D : Nat → Nat → Int64) : Prop :=
  ∀ z3 : Int32, z3 = (x3 + 1) → K123 x1 x2 z3 I J B D
def wb_LassoFinderModel_node_123 (a0 : Int32) (K123 : Int32 → Int32 → Int32 → (Nat → Int32) → (Nat → Int64) → (Nat → Nat → Int32) → (Nat → Nat → Int64) → Prop) (Post : Int32 → (Nat → Int32) → (Nat → Int64) → (Nat → Nat → Int32) → (Nat → Nat → Int64) → Prop) (x1 : Int32) (x2 : Int32) (x3 : Int32) (I : Nat → Int32) (J : Nat → Int64) (B : Nat → Nat → Int32) (D : Nat → Nat → Int64) : Prop :=
  (((I 12) < x3 → vp_in x2 140 ∧ (((7 : Int32) < x1 → wc_LassoFinderModel_node_223 a0 Post x1 x2 I J (va_up B 11 (upd (B 11) x2.toNatClampNeg (-1))) D) ∧ (¬ (7 : Int32) < x1 → vp_in (I 10) 5 ∧ ∀ z6 : Int32, z6 = ((B 20) (I 10).toNatClampNeg) → vp_in x2 140 ∧ ∀ z7 : Int32, z7 = (31 * (I 10)) → vp_in (I 10) 5 ∧ ∀ z8 : Int32, z8 = ((B 20) (I 10).toNatClampNeg) → ∀ z9 : Int32, z9 = (z7 + z8) → vp_in z9 124 ∧ vp_in (I 10) 5 ∧ ∀ z10 : Int32, z10 = ((B 20) (I 10).toNatClampNeg) → ∀ z11 : Int32, z11 = (z10 + 1) → vp_in (I 10) 5 ∧ wc_LassoFinderModel_node_223 a0 Post x1 x2 I J (va_up (va_up (va_up (va_up B 11 (upd (B 11) x2.toNatClampNeg (-1))) 11 (upd (upd (B 11) x2.toNatClampNeg (-1)) x2.toNatClampNeg z6)) 23 (upd (B 23) z9.toNatClampNeg x2)) 20 (upd (B 20) (I 10).toNatClampNeg z11)) D))) ∧ (¬ (I 12) < x3 → vp_in x3 8 ∧ ∀ z12 : Int32, z12 = ((B 25) x3.toNatClampNeg) → ((¬ z12 = 3 → wc_LassoFinderModel_node_153 a0 K123 Post x1 x2 x3 I J B D) ∧ (z12 = 3 → vp_in x3 8 ∧ ∀ z14 : Int32, z14 = ((B 26) x3.toNatClampNeg) → vp_in x2 140 ∧ wc_LassoFinderModel_node_153 a0 K123 Post x1 x2 x3 I J (va_up B 10 (upd (B 10) x2.toNatClampNeg z14)) D))))
def wl_LassoFinderModel_node_123 (a0 : Int32) (Post : Int32 → (Nat → Int32) → (Nat → Int64) → (Nat → Nat → Int32) → (Nat → Nat → Int64) → Prop) (n : Nat) : Int32 → Int32 → Int32 → (Nat → Int32) → (Nat → Int64) → (Nat → Nat → Int32) → (Nat → Nat → Int64) → Prop := Nat.rec (fun _ _ _ _ _ _ _ => False) (fun _ r => wb_LassoFinderModel_node_123 a0 r Post) n
def wc_LassoFinderModel_node_104 (a0 : Int32) (Post : Int32 → (Nat → Int32) → (Nat → Int64) → (Nat → Nat → Int32) → (Nat → Nat → Int64) → Prop) (x1 : Int32) (x2 : Int32) (I : Nat → Int32) (J : Nat → Int64) (B : Nat → Nat → Int32) (D : Nat → Nat → Int64) : Prop :=
  vp_in (I 12) 8 ∧ vp_in x2 140 ∧ ∃ n : Nat, wl_LassoFinderModel_node_123 a0 Post n x1 x2 1 I J (va_up (va_up B 27 (upd (B 27) (I 12).toNatClampNeg x2)) 10 (upd (B 10) x2.toNatClampNeg (-1))) D
def wc_LassoFinderModel_node_76 (a0 : Int32) (Post : Int32 → (Nat → Int32) → (Nat → Int64) → (Nat → Nat → Int32) → (Nat → Nat → Int64) → Prop) (x1 : Int32) (x2 : Int32) (y0 : Int32) (y1 : Int32) (I : Nat → Int32) (J : Nat → Int64) (B : Nat → Nat → Int32) (D : Nat → Nat → Int64) : Prop :=
  vp_in y1 140 ∧ vp_in (I 12) 8 ∧ ∀ z15 : Int32, z15 = ((B 27) (I 12).toNatClampNeg) → ((z15 < 0 → wc_LassoFinderModel_node_104 a0 Post x1 x2 I J (va_up B 9 (upd (B 9) y1.toNatClampNeg (vp_nar .boolean y0))) D) ∧ (¬ z15 < 0 → vp_in (I 12) 8 ∧ ∀ z17 : Int32, z17 = ((B 27) (I 12).toNatClampNeg) → vp_in z17 140 ∧ wc_LassoFinderModel_node_104 a0 Post x1 x2 I J (va_up (va_up B 9 (upd (B 9) y1.toNatClampNeg (vp_nar .boolean y0))) 8 (upd (B 8) z17.toNatClampNeg x2)) D))
def wp_LassoFinderModel_node (I : Nat → Int32) (J : Nat → Int64) (B : Nat → Nat → Int32) (D : Nat → Nat → Int64) (a0 : Int32) (Post : Int32 → (Nat → Int32) → (Nat → Int64) → (Nat → Nat → Int32) → (Nat → Nat → Int64) → Prop) : Prop :=
  ∀ z18 : Int32, z18 = ((I 8) + 1) → vp_in (I 8) 140 ∧ vp_in (I 8) 140 ∧ vp_in (I 12) 8 ∧ ∀ z19 : Int32, z19 = ((B 26) (I 12).toNatClampNeg) → vp_in (I 8) 140 ∧ vp_in (I 8) 140 ∧ vp_in (I 12) 8 ∧ ∀ z20 : Int32, z20 = ((B 27) (I 12).toNatClampNeg) → (((0 : Int32) ≤ z20 → wc_LassoFinderModel_node_76 a0 Post a0 (I 8) 0 (I 8) (upd I 8 z18) J (va_up (va_up (va_up (va_up B 5 (upd (B 5) (I 8).toNatClampNeg a0)) 6 (upd (B 6) (I 8).toNatClampNeg (I 10))) 7 (upd (B 7) (I 8).toNatClampNeg z19)) 8 (upd (B 8) (I 8).toNatClampNeg (-1))) D) ∧ (¬ (0 : Int32) ≤ z20 → wc_LassoFinderModel_node_76 a0 Post a0 (I 8) 1 (I 8) (upd I 8 z18) J (va_up (va_up (va_up (va_up B 5 (upd (B 5) (I 8).toNatClampNeg a0)) 6 (upd (B 6) (I 8).toNatClampNeg (I 10))) 7 (upd (B 7) (I 8).toNatClampNeg z19)) 8 (upd (B 8) (I 8).toNatClampNeg (-1))) D))
set_option maxHeartbeats 8000000 in
set_option maxRecDepth 100000 in
theorem wJ_LassoFinderModel_node_258 {p : Program} {l : Launch} {e : Env} {s : State} {m : MethodId} {below : List Frame} {meth : Method} {c : Code} {A : Nat → Prop} (G : va_G) (K : Nat → ClassId) (ad : Nat → Nat) (a0 : Int32) (Post : Int32 → (Nat → Int32) → (Nat → Int64) → (Nat → Nat → Int32) → (Nat → Nat → Int64) → Prop) (C : zCx p s m ([.ref (ad 0), .int a0] : List Value).toArray meth c A G K prog_14_method_16_code (some .int) 4 "LassoFinderModel") : ∀ (x2 : Int32) (I : Nat → Int32) (J : Nat → Int64) (B : Nat → Nat → Int32) (D : Nat → Nat → Int64) (ls : Array Slot) (H : Heap) (locs : List Loc), wc_LassoFinderModel_node_258 a0 Post x2 I J B D → lv_has ls 4 [(2, .int x2)] → zW G A s.heap (wM ad K I J B D) H locs → W p l e { frames := 0, cells := 0, slots := 0, locals := 0 } s m ([.ref (ad 0), .int a0] : List Value).toArray below meth c H locs 0 0 (MQ below (va_Qi (fun (r : Int32) (u : zS) => Post r u.1 u.2.1 u.2.2.1 u.2.2.2) (fun u t => zPost G K A (wM ad K u.1 u.2.1 u.2.2.1 u.2.2.2) t) A) ([.ref (ad 0), .int a0] : List Value).toArray s 0 0 A) (F0 m 258 ls []) := by
  obtain ⟨hx, hb, hr, hml, hts, hown, hlocks, hA, hK⟩ := id C
  intro x2 I J B D ls H locs hok hl hw
  unfold wc_LassoFinderModel_node_258 at hok
  refine lv_iload_n hx hb zd_LassoFinderModel_node_258 rfl (lv_at hl 0 rfl) ?_
  exact (z_iret (u := (I, J, B, D)) hx hb hr hlocks rfl hw (List.range 58) wM_all wM_nd hok (Nat.le_of_ble_eq_true rfl) (Nat.le_of_ble_eq_true rfl) zd_LassoFinderModel_node_259)
set_option maxHeartbeats 8000000 in
set_option maxRecDepth 100000 in
theorem wJ_LassoFinderModel_node_223 {p : Program} {l : Launch} {e : Env} {s : State} {m : MethodId} {below : List Frame} {meth : Method} {c : Code} {A : Nat → Prop} (G : va_G) (K : Nat → ClassId) (ad : Nat → Nat) (a0 : Int32) (Post : Int32 → (Nat → Int32) → (Nat → Int64) → (Nat → Nat → Int32) → (Nat → Nat → Int64) → Prop) (C : zCx p s m ([.ref (ad 0), .int a0] : List Value).toArray meth c A G K prog_14_method_16_code (some .int) 4 "LassoFinderModel") : ∀ (x1 : Int32) (x2 : Int32) (I : Nat → Int32) (J : Nat → Int64) (B : Nat → Nat → Int32) (D : Nat → Nat → Int64) (ls : Array Slot) (H : Heap) (locs : List Loc), wc_LassoFinderModel_node_223 a0 Post x1 x2 I J B D → lv_has ls 4 [(0, .ref (ad 0)), (1, .int x1), (2, .int x2)] → zW G A s.heap (wM ad K I J B D) H locs → W p l e { frames := 0, cells := 0, slots := 0, locals := 0 } s m ([.ref (ad 0), .int a0] : List Value).toArray below meth c H locs 0 0 (MQ below (va_Qi (fun (r : Int32) (u : zS) => Post r u.1 u.2.1 u.2.2.1 u.2.2.2) (fun u t => zPost G K A (wM ad K u.1 u.2.1 u.2.2.1 u.2.2.2) t) A) ([.ref (ad 0), .int a0] : List Value).toArray s 0 0 A) (F0 m 223 ls []) := by
  obtain ⟨hx, hb, hr, hml, hts, hown, hlocks, hA, hK⟩ := id C
  intro x1 x2 I J B D ls H locs hok hl hw
  unfold wc_LassoFinderModel_node_223 at hok
  refine lv_iload_n hx hb zd_LassoFinderModel_node_223 rfl (lv_at hl 1 rfl) ?_
  refine lv_iconst (v := 5) hx hb zd_LassoFinderModel_node_224 (by decide) ?_
  refine lv_icmp_gt (tgt := 258) hx hb zd_LassoFinderModel_node_225 (by decide) (fun hc1 => ?_) (fun hc1 => ?_)
  · have hok := hok.1 hc1
    exact wJ_LassoFinderModel_node_258 G K ad a0 Post C x2 I J B D ls H locs hok (lv_sub hl [2] rfl) hw
  · have hok := hok.2 hc1
    refine lv_aload_n hx hb zd_LassoFinderModel_node_228 rfl (lv_at hl 0 rfl) ?_
    refine z_get (v := .ref (ad 20)) hx hb hts hown hK hw zZ12 0 wM_g0 29 (by decide) zm_254 rfl zd_LassoFinderModel_node_229 ?_
    refine lv_iload_n hx hb zd_LassoFinderModel_node_232 rfl (lv_at hl 2 rfl) ?_
    refine lv_aload_n hx hb zd_LassoFinderModel_node_233 rfl (lv_at hl 0 rfl) ?_
    refine z_get (v := .int (I 9)) hx hb hts hown hK hw zZ12 0 wM_g0 27 (by decide) zm_303 rfl zd_LassoFinderModel_node_234 ?_
    refine va_iast (f := (B 19)) hx hb hK hw.1 hw.2.1 hw.2.2 20 0 wM_a20 rfl hok.1 zd_LassoFinderModel_node_237 (fun H locs w91 w92 w93 => ?_)
    have hok := hok.2
    have hw := wM_t20 ⟨w91, w92, w93⟩
    refine lv_aload_n hx hb zd_LassoFinderModel_node_238 rfl (lv_at hl 0 rfl) ?_
    refine z_get (v := .ref (ad 19)) hx hb hts hown hK hw zZ12 0 wM_g0 28 (by decide) zm_253 rfl zd_LassoFinderModel_node_239 ?_
    refine lv_aload_n hx hb zd_LassoFinderModel_node_242 rfl (lv_at hl 0 rfl) ?_
    refine z_get (v := .int (I 9)) hx hb hts hown hK hw zZ12 0 wM_g0 27 (by decide) zm_303 rfl zd_LassoFinderModel_node_243 ?_
    refine lv_iload_n hx hb zd_LassoFinderModel_node_246 rfl (lv_at hl 2 rfl) ?_
    refine va_iast (f := (B 18)) hx hb hK hw.1 hw.2.1 hw.2.2 19 0 wM_a19 rfl hok.1 zd_LassoFinderModel_node_247 (fun H locs w91 w92 w93 => ?_)
    have hok := hok.2
    have hw := wM_t19 ⟨w91, w92, w93⟩
    refine lv_aload_n hx hb zd_LassoFinderModel_node_248 rfl (lv_at hl 0 rfl) ?_
    refine lv_dup hx hb zd_LassoFinderModel_node_249 rfl ?_
    refine z_get (v := .int (I 9)) hx hb hts hown hK hw zZ12 0 wM_g0 27 (by decide) zm_303 rfl zd_LassoFinderModel_node_250 ?_
    refine lv_iconst (v := 1) hx hb zd_LassoFinderModel_node_253 (by decide) ?_
    refine lv_iadd hx hb zd_LassoFinderModel_node_254 ?_
    refine lv_topi (fun z2 ez2 => ?_)
    have hok := hok z2 ez2
    refine z_put (v := .int z2) hx hb hts hown hK hw zZ12 0 wM_g0 27 (by decide) zm_303 rfl rfl rfl (Nat.le_of_ble_eq_true rfl) zd_LassoFinderModel_node_255 (fun H locs hw => ?_)
    have hw := wM_sI9 hw
    exact wJ_LassoFinderModel_node_258 G K ad a0 Post C x2 (upd I 9 z2) J (va_up (va_up B 19 (upd (B 19) x2.toNatClampNeg (I 9))) 18 (upd (B 18) (I 9).toNatClampNeg x2)) D ls H locs hok (lv_sub hl [2] rfl) hw
set_option maxHeartbeats 8000000 in
set_option maxRecDepth 100000 in
theorem wJ_LassoFinderModel_node_153 {p : Program} {l : Launch} {e : Env} {s : State} {m : MethodId} {below : List Frame} {meth : Method} {c : Code} {A : Nat → Prop} (G : va_G) (K : Nat → ClassId) (ad : Nat → Nat) (a0 : Int32) (Post : Int32 → (Nat → Int32) → (Nat → Int64) → (Nat → Nat → Int32) → (Nat → Nat → Int64) → Prop) (C : zCx p s m ([.ref (ad 0), .int a0] : List Value).toArray meth c A G K prog_14_method_16_code (some .int) 4 "LassoFinderModel") (K123 : Int32 → Int32 → Int32 → (Nat → Int32) → (Nat → Int64) → (Nat → Nat → Int32) → (Nat → Nat → Int64) → Prop) (kh123 : ∀ (x1 : Int32) (x2 : Int32) (x3 : Int32) (I : Nat → Int32) (J : Nat → Int64) (B : Nat → Nat → Int32) (D : Nat → Nat → Int64) (ls : Array Slot) (H : Heap) (locs : List Loc), K123 x1 x2 x3 I J B D → lv_has ls 4 [(0, .ref (ad 0)), (1, .int x1), (2, .int x2), (3, .int x3)] → zW G A s.heap (wM ad K I J B D) H locs → W p l e { frames := 0, cells := 0, slots := 0, locals := 0 } s m ([.ref (ad 0), .int a0] : List Value).toArray below meth c H locs 0 0 (MQ below (va_Qi (fun (r : Int32) (u : zS) => Post r u.1 u.2.1 u.2.2.1 u.2.2.2) (fun u t => zPost G K A (wM ad K u.1 u.2.1 u.2.2.1 u.2.2.2) t) A) ([.ref (ad 0), .int a0] : List Value).toArray s 0 0 A) (F0 m 123 ls [])) : ∀ (x1 : Int32) (x2 : Int32) (x3 : Int32) (I : Nat → Int32) (J : Nat → Int64) (B : Nat → Nat → Int32) (D : Nat → Nat → Int64) (ls : Array Slot) (H : Heap) (locs : List Loc), wc_LassoFinderModel_node_153 a0 K123 Post x1 x2 x3 I J B D → lv_has ls 4 [(0, .ref (ad 0)), (1, .int x1), (2, .int x2), (3, .int x3)] → zW G A s.heap (wM ad K I J B D) H locs → W p l e { frames := 0, cells := 0, slots := 0, locals := 0 } s m ([.ref (ad 0), .int a0] : List Value).toArray below meth c H locs 0 0 (MQ below (va_Qi (fun (r : Int32) (u : zS) => Post r u.1 u.2.1 u.2.2.1 u.2.2.2) (fun u t => zPost G K A (wM ad K u.1 u.2.1 u.2.2.1 u.2.2.2) t) A) ([.ref (ad 0), .int a0] : List Value).toArray s 0 0 A) (F0 m 153 ls []) := by
  obtain ⟨hx, hb, hr, hml, hts, hown, hlocks, hA, hK⟩ := id C
  intro x1 x2 x3 I J B D ls H locs hok hl hw
  unfold wc_LassoFinderModel_node_153 at hok
  obtain ⟨z3, ez3⟩ : ∃ z : Int32, z = (x3 + 1) := ⟨_, rfl⟩
  have hok := hok z3 ez3
  refine lv_iinc (v := z3) hx hb zd_LassoFinderModel_node_153 hl (k := 3) rfl ez3.symm (by decide) rfl (fun ls hl => ?_)
  have hl : lv_has ls 4 [(3, .int z3), (0, .ref (ad 0)), (1, .int x1), (2, .int x2)] := hl
  refine lv_goto (tgt := 123) hx hb zd_LassoFinderModel_node_156 (by decide) ?_
  exact kh123 x1 x2 z3 I J B D ls H locs hok (lv_sub hl [1, 2, 3, 0] rfl) hw
set_option maxHeartbeats 8000000 in
set_option maxRecDepth 100000 in
theorem wB_LassoFinderModel_node_123 {p : Program} {l : Launch} {e : Env} {s : State} {m : MethodId} {below : List Frame} {meth : Method} {c : Code} {A : Nat → Prop} (G : va_G) (K : Nat → ClassId) (ad : Nat → Nat) (a0 : Int32) (Post : Int32 → (Nat → Int32) → (Nat → Int64) → (Nat → Nat → Int32) → (Nat → Nat → Int64) → Prop) (C : zCx p s m ([.ref (ad 0), .int a0] : List Value).toArray meth c A G K prog_14_method_16_code (some .int) 4 "LassoFinderModel") (K123 : Int32 → Int32 → Int32 → (Nat → Int32) → (Nat → Int64) → (Nat → Nat → Int32) → (Nat → Nat → Int64) → Prop) (kh123 : ∀ (x1 : Int32) (x2 : Int32) (x3 : Int32) (I : Nat → Int32) (J : Nat → Int64) (B : Nat → Nat → Int32) (D : Nat → Nat → Int64) (ls : Array Slot) (H : Heap) (locs : List Loc), K123 x1 x2 x3 I J B D → lv_has ls 4 [(0, .ref (ad 0)), (1, .int x1), (2, .int x2), (3, .int x3)] → zW G A s.heap (wM ad K I J B D) H locs → W p l e { frames := 0, cells := 0, slots := 0, locals := 0 } s m ([.ref (ad 0), .int a0] : List Value).toArray below meth c H locs 0 0 (MQ below (va_Qi (fun (r : Int32) (u : zS) => Post r u.1 u.2.1 u.2.2.1 u.2.2.2) (fun u t => zPost G K A (wM ad K u.1 u.2.1 u.2.2.1 u.2.2.2) t) A) ([.ref (ad 0), .int a0] : List Value).toArray s 0 0 A) (F0 m 123 ls [])) : ∀ (x1 : Int32) (x2 : Int32) (x3 : Int32) (I : Nat → Int32) (J : Nat → Int64) (B : Nat → Nat → Int32) (D : Nat → Nat → Int64) (ls : Array Slot) (H : Heap) (locs : List Loc), wb_LassoFinderModel_node_123 a0 K123 Post x1 x2 x3 I J B D → lv_has ls 4 [(0, .ref (ad 0)), (1, .int x1), (2, .int x2), (3, .int x3)] → zW G A s.heap (wM ad K I J B D) H locs → W p l e { frames := 0, cells := 0, slots := 0, locals := 0 } s m ([.ref (ad 0), .int a0] : List Value).toArray below meth c H locs 0 0 (MQ below (va_Qi (fun (r : Int32) (u : zS) => Post r u.1 u.2.1 u.2.2.1 u.2.2.2) (fun u t => zPost G K A (wM ad K u.1 u.2.1 u.2.2.1 u.2.2.2) t) A) ([.ref (ad 0), .int a0] : List Value).toArray s 0 0 A) (F0 m 123 ls []) := by
  obtain ⟨hx, hb, hr, hml, hts, hown, hlocks, hA, hK⟩ := id C
  intro x1 x2 x3 I J B D ls H locs hok hl hw
  unfold wb_LassoFinderModel_node_123 at hok
  refine lv_iload_n hx hb zd_LassoFinderModel_node_123 rfl (lv_at hl 3 rfl) ?_
  refine lv_aload_n hx hb zd_LassoFinderModel_node_124 rfl (lv_at hl 0 rfl) ?_
  refine z_get (v := .int (I 12)) hx hb hts hown hK hw zZ12 0 wM_g0 38 (by decide) zm_338 rfl zd_LassoFinderModel_node_125 ?_
  refine lv_icmp_gt (tgt := 159) hx hb zd_LassoFinderModel_node_128 (by decide) (fun hc4 => ?_) (fun hc4 => ?_)
  · have hok := hok.1 hc4
    refine lv_aload_n hx hb zd_LassoFinderModel_node_159 rfl (lv_at hl 0 rfl) ?_
    refine z_get (v := .ref (ad 12)) hx hb hts hown hK hw zZ12 0 wM_g0 20 (by decide) zm_246 rfl zd_LassoFinderModel_node_160 ?_
    refine lv_iload_n hx hb zd_LassoFinderModel_node_163 rfl (lv_at hl 2 rfl) ?_
    refine lv_iconst (v := (-1)) hx hb zd_LassoFinderModel_node_164 (by decide) ?_
    refine va_iast (f := (B 11)) hx hb hK hw.1 hw.2.1 hw.2.2 12 0 wM_a12 rfl hok.1 zd_LassoFinderModel_node_165 (fun H locs w91 w92 w93 => ?_)
    have hok := hok.2
    have hw := wM_t12 ⟨w91, w92, w93⟩
    refine lv_iload_n hx hb zd_LassoFinderModel_node_166 rfl (lv_at hl 1 rfl) ?_
    refine lv_bipush (v := 7) hx hb zd_LassoFinderModel_node_167 (by decide) ?_
    refine lv_icmp_gt (tgt := 223) hx hb zd_LassoFinderModel_node_169 (by decide) (fun hc5 => ?_) (fun hc5 => ?_)
    · have hok := hok.1 hc5
      exact wJ_LassoFinderModel_node_223 G K ad a0 Post C x1 x2 I J (va_up B 11 (upd (B 11) x2.toNatClampNeg (-1))) D ls H locs hok (lv_sub hl [0, 1, 2] rfl) hw
    · have hok := hok.2 hc5
      refine lv_aload_n hx hb zd_LassoFinderModel_node_172 rfl (lv_at hl 0 rfl) ?_
      refine z_get (v := .ref (ad 12)) hx hb hts hown hK hw zZ12 0 wM_g0 20 (by decide) zm_246 rfl zd_LassoFinderModel_node_173 ?_
      refine lv_iload_n hx hb zd_LassoFinderModel_node_176 rfl (lv_at hl 2 rfl) ?_
      refine lv_aload_n hx hb zd_LassoFinderModel_node_177 rfl (lv_at hl 0 rfl) ?_
      refine z_get (v := .ref (ad 21)) hx hb hts hown hK hw zZ12 0 wM_g0 31 (by decide) zm_255 rfl zd_LassoFinderModel_node_178 ?_
      refine lv_aload_n hx hb zd_LassoFinderModel_node_181 rfl (lv_at hl 0 rfl) ?_
      refine z_get (v := .int (I 10)) hx hb hts hown hK hw zZ12 0 wM_g0 30 (by decide) zm_310 rfl zd_LassoFinderModel_node_182 ?_
      refine va_iald (f := (B 20)) hx hb hK hw.1 21 0 wM_a21 rfl hok.1 zd_LassoFinderModel_node_185 ?_
      have hok := hok.2
      refine lv_topi (fun z6 ez6 => ?_)
      have hok := hok z6 ez6
      refine va_iast (f := (upd (B 11) x2.toNatClampNeg (-1))) hx hb hK hw.1 hw.2.1 hw.2.2 12 0 wM_a12 rfl hok.1 zd_LassoFinderModel_node_186 (fun H locs w91 w92 w93 => ?_)
      have hok := hok.2
      have hw := wM_t12 ⟨w91, w92, w93⟩
      refine lv_aload_n hx hb zd_LassoFinderModel_node_187 rfl (lv_at hl 0 rfl) ?_
      refine z_get (v := .ref (ad 24)) hx hb hts hown hK hw zZ12 0 wM_g0 34 (by decide) zm_258 rfl zd_LassoFinderModel_node_188 ?_
      refine lv_bipush (v := 31) hx hb zd_LassoFinderModel_node_191 (by decide) ?_
      refine lv_aload_n hx hb zd_LassoFinderModel_node_193 rfl (lv_at hl 0 rfl) ?_
      refine z_get (v := .int (I 10)) hx hb hts hown hK hw zZ12 0 wM_g0 30 (by decide) zm_310 rfl zd_LassoFinderModel_node_194 ?_
      refine lv_imul hx hb zd_LassoFinderModel_node_197 ?_
      refine lv_topi (fun z7 ez7 => ?_)
      have hok := hok z7 ez7
      refine lv_aload_n hx hb zd_LassoFinderModel_node_198 rfl (lv_at hl 0 rfl) ?_
      refine z_get (v := .ref (ad 21)) hx hb hts hown hK hw zZ12 0 wM_g0 31 (by decide) zm_255 rfl zd_LassoFinderModel_node_199 ?_
      refine lv_aload_n hx hb zd_LassoFinderModel_node_202 rfl (lv_at hl 0 rfl) ?_
      refine z_get (v := .int (I 10)) hx hb hts hown hK hw zZ12 0 wM_g0 30 (by decide) zm_310 rfl zd_LassoFinderModel_node_203 ?_
      refine va_iald (f := (B 20)) hx hb hK hw.1 21 0 wM_a21 rfl hok.1 zd_LassoFinderModel_node_206 ?_
      have hok := hok.2
      refine lv_topi (fun z8 ez8 => ?_)
      have hok := hok z8 ez8
      refine lv_iadd hx hb zd_LassoFinderModel_node_207 ?_
      refine lv_topi (fun z9 ez9 => ?_)
      have hok := hok z9 ez9
      refine lv_iload_n hx hb zd_LassoFinderModel_node_208 rfl (lv_at hl 2 rfl) ?_
      refine va_iast (f := (B 23)) hx hb hK hw.1 hw.2.1 hw.2.2 24 0 wM_a24 rfl hok.1 zd_LassoFinderModel_node_209 (fun H locs w91 w92 w93 => ?_)
      have hok := hok.2
      have hw := wM_t24 ⟨w91, w92, w93⟩
      refine lv_aload_n hx hb zd_LassoFinderModel_node_210 rfl (lv_at hl 0 rfl) ?_
      refine z_get (v := .ref (ad 21)) hx hb hts hown hK hw zZ12 0 wM_g0 31 (by decide) zm_255 rfl zd_LassoFinderModel_node_211 ?_
      refine lv_aload_n hx hb zd_LassoFinderModel_node_214 rfl (lv_at hl 0 rfl) ?_
      refine z_get (v := .int (I 10)) hx hb hts hown hK hw zZ12 0 wM_g0 30 (by decide) zm_310 rfl zd_LassoFinderModel_node_215 ?_
      refine lv_dup2_11 hx hb zd_LassoFinderModel_node_218 rfl rfl ?_
      refine va_iald (f := (B 20)) hx hb hK hw.1 21 0 wM_a21 rfl hok.1 zd_LassoFinderModel_node_219 ?_
      have hok := hok.2
      refine lv_topi (fun z10 ez10 => ?_)
      have hok := hok z10 ez10
      refine lv_iconst (v := 1) hx hb zd_LassoFinderModel_node_220 (by decide) ?_
      refine lv_iadd hx hb zd_LassoFinderModel_node_221 ?_
      refine lv_topi (fun z11 ez11 => ?_)
      have hok := hok z11 ez11
      refine va_iast (f := (B 20)) hx hb hK hw.1 hw.2.1 hw.2.2 21 0 wM_a21 rfl hok.1 zd_LassoFinderModel_node_222 (fun H locs w91 w92 w93 => ?_)
      have hok := hok.2
      have hw := wM_t21 ⟨w91, w92, w93⟩
      exact wJ_LassoFinderModel_node_223 G K ad a0 Post C x1 x2 I J (va_up (va_up (va_up (va_up B 11 (upd (B 11) x2.toNatClampNeg (-1))) 11 (upd (upd (B 11) x2.toNatClampNeg (-1)) x2.toNatClampNeg z6)) 23 (upd (B 23) z9.toNatClampNeg x2)) 20 (upd (B 20) (I 10).toNatClampNeg z11)) D ls H locs hok (lv_sub hl [0, 1, 2] rfl) hw
  · have hok := hok.2 hc4
    refine lv_aload_n hx hb zd_LassoFinderModel_node_131 rfl (lv_at hl 0 rfl) ?_
    refine z_get (v := .ref (ad 27)) hx hb hts hown hK hw zZ12 0 wM_g0 39 (by decide) zm_261 rfl zd_LassoFinderModel_node_132 ?_
    refine lv_iload_n hx hb zd_LassoFinderModel_node_135 rfl (lv_at hl 3 rfl) ?_
    refine va_iald (f := (B 25)) hx hb hK hw.1 27 0 wM_a27 rfl hok.1 zd_LassoFinderModel_node_136 ?_
    have hok := hok.2
    refine lv_topi (fun z12 ez12 => ?_)
    have hok := hok z12 ez12
    refine lv_iconst (v := 3) hx hb zd_LassoFinderModel_node_137 (by decide) ?_
    refine lv_icmp_ne (tgt := 153) hx hb zd_LassoFinderModel_node_138 (by decide) (fun hc13 => ?_) (fun hc13 => ?_)
    · have hok := hok.1 hc13
      exact wJ_LassoFinderModel_node_153 G K ad a0 Post C K123 kh123 x1 x2 x3 I J B D ls H locs hok (lv_sub hl [0, 1, 2, 3] rfl) hw
    · have hok := hok.2 hc13
      refine lv_aload_n hx hb zd_LassoFinderModel_node_141 rfl (lv_at hl 0 rfl) ?_
      refine z_get (v := .ref (ad 11)) hx hb hts hown hK hw zZ12 0 wM_g0 19 (by decide) zm_245 rfl zd_LassoFinderModel_node_142 ?_
      refine lv_iload_n hx hb zd_LassoFinderModel_node_145 rfl (lv_at hl 2 rfl) ?_
      refine lv_aload_n hx hb zd_LassoFinderModel_node_146 rfl (lv_at hl 0 rfl) ?_
      refine z_get (v := .ref (ad 28)) hx hb hts hown hK hw zZ12 0 wM_g0 40 (by decide) zm_262 rfl zd_LassoFinderModel_node_147 ?_
      refine lv_iload_n hx hb zd_LassoFinderModel_node_150 rfl (lv_at hl 3 rfl) ?_
      refine va_iald (f := (B 26)) hx hb hK hw.1 28 0 wM_a28 rfl hok.1 zd_LassoFinderModel_node_151 ?_
      have hok := hok.2
      refine lv_topi (fun z14 ez14 => ?_)
      have hok := hok z14 ez14
      refine va_iast (f := (B 10)) hx hb hK hw.1 hw.2.1 hw.2.2 11 0 wM_a11 rfl hok.1 zd_LassoFinderModel_node_152 (fun H locs w91 w92 w93 => ?_)
      have hok := hok.2
      have hw := wM_t11 ⟨w91, w92, w93⟩
      exact wJ_LassoFinderModel_node_153 G K ad a0 Post C K123 kh123 x1 x2 x3 I J (va_up B 10 (upd (B 10) x2.toNatClampNeg z14)) D ls H locs hok (lv_sub hl [0, 1, 2, 3] rfl) hw
theorem wL_LassoFinderModel_node_123 {p : Program} {l : Launch} {e : Env} {s : State} {m : MethodId} {below : List Frame} {meth : Method} {c : Code} {A : Nat → Prop} (G : va_G) (K : Nat → ClassId) (ad : Nat → Nat) (a0 : Int32) (Post : Int32 → (Nat → Int32) → (Nat → Int64) → (Nat → Nat → Int32) → (Nat → Nat → Int64) → Prop) (C : zCx p s m ([.ref (ad 0), .int a0] : List Value).toArray meth c A G K prog_14_method_16_code (some .int) 4 "LassoFinderModel") : ∀ (n : Nat) (x1 : Int32) (x2 : Int32) (x3 : Int32) (I : Nat → Int32) (J : Nat → Int64) (B : Nat → Nat → Int32) (D : Nat → Nat → Int64) (ls : Array Slot) (H : Heap) (locs : List Loc), wl_LassoFinderModel_node_123 a0 Post n x1 x2 x3 I J B D → lv_has ls 4 [(0, .ref (ad 0)), (1, .int x1), (2, .int x2), (3, .int x3)] → zW G A s.heap (wM ad K I J B D) H locs → W p l e { frames := 0, cells := 0, slots := 0, locals := 0 } s m ([.ref (ad 0), .int a0] : List Value).toArray below meth c H locs 0 0 (MQ below (va_Qi (fun (r : Int32) (u : zS) => Post r u.1 u.2.1 u.2.2.1 u.2.2.2) (fun u t => zPost G K A (wM ad K u.1 u.2.1 u.2.2.1 u.2.2.2) t) A) ([.ref (ad 0), .int a0] : List Value).toArray s 0 0 A) (F0 m 123 ls []) := by
  intro n
  induction n with
  | zero => intro x1 x2 x3 I J B D ls H locs hok; exact hok.elim
  | succ n ih => exact wB_LassoFinderModel_node_123 G K ad a0 Post C (wl_LassoFinderModel_node_123 a0 Post n) ih
set_option maxHeartbeats 8000000 in
set_option maxRecDepth 100000 in
theorem wJ_LassoFinderModel_node_104 {p : Program} {l : Launch} {e : Env} {s : State} {m : MethodId} {below : List Frame} {meth : Method} {c : Code} {A : Nat → Prop} (G : va_G) (K : Nat → ClassId) (ad : Nat → Nat) (a0 : Int32) (Post : Int32 → (Nat → Int32) → (Nat → Int64) → (Nat → Nat → Int32) → (Nat → Nat → Int64) → Prop) (C : zCx p s m ([.ref (ad 0), .int a0] : List Value).toArray meth c A G K prog_14_method_16_code (some .int) 4 "LassoFinderModel") : ∀ (x1 : Int32) (x2 : Int32) (I : Nat → Int32) (J : Nat → Int64) (B : Nat → Nat → Int32) (D : Nat → Nat → Int64) (ls : Array Slot) (H : Heap) (locs : List Loc), wc_LassoFinderModel_node_104 a0 Post x1 x2 I J B D → lv_has ls 4 [(0, .ref (ad 0)), (1, .int x1), (2, .int x2)] → zW G A s.heap (wM ad K I J B D) H locs → W p l e { frames := 0, cells := 0, slots := 0, locals := 0 } s m ([.ref (ad 0), .int a0] : List Value).toArray below meth c H locs 0 0 (MQ below (va_Qi (fun (r : Int32) (u : zS) => Post r u.1 u.2.1 u.2.2.1 u.2.2.2) (fun u t => zPost G K A (wM ad K u.1 u.2.1 u.2.2.1 u.2.2.2) t) A) ([.ref (ad 0), .int a0] : List Value).toArray s 0 0 A) (F0 m 104 ls []) := by
  obtain ⟨hx, hb, hr, hml, hts, hown, hlocks, hA, hK⟩ := id C
  intro x1 x2 I J B D ls H locs hok hl hw
  unfold wc_LassoFinderModel_node_104 at hok
  refine lv_aload_n hx hb zd_LassoFinderModel_node_104 rfl (lv_at hl 0 rfl) ?_
  refine z_get (v := .ref (ad 29)) hx hb hts hown hK hw zZ12 0 wM_g0 41 (by decide) zm_263 rfl zd_LassoFinderModel_node_105 ?_
  refine lv_aload_n hx hb zd_LassoFinderModel_node_108 rfl (lv_at hl 0 rfl) ?_
  refine z_get (v := .int (I 12)) hx hb hts hown hK hw zZ12 0 wM_g0 38 (by decide) zm_338 rfl zd_LassoFinderModel_node_109 ?_
  refine lv_iload_n hx hb zd_LassoFinderModel_node_112 rfl (lv_at hl 2 rfl) ?_
  refine va_iast (f := (B 27)) hx hb hK hw.1 hw.2.1 hw.2.2 29 0 wM_a29 rfl hok.1 zd_LassoFinderModel_node_113 (fun H locs w91 w92 w93 => ?_)
  have hok := hok.2
  have hw := wM_t29 ⟨w91, w92, w93⟩
  refine lv_aload_n hx hb zd_LassoFinderModel_node_114 rfl (lv_at hl 0 rfl) ?_
  refine z_get (v := .ref (ad 11)) hx hb hts hown hK hw zZ12 0 wM_g0 19 (by decide) zm_245 rfl zd_LassoFinderModel_node_115 ?_
  refine lv_iload_n hx hb zd_LassoFinderModel_node_118 rfl (lv_at hl 2 rfl) ?_
  refine lv_iconst (v := (-1)) hx hb zd_LassoFinderModel_node_119 (by decide) ?_
  refine va_iast (f := (B 10)) hx hb hK hw.1 hw.2.1 hw.2.2 11 0 wM_a11 rfl hok.1 zd_LassoFinderModel_node_120 (fun H locs w91 w92 w93 => ?_)
  have hok := hok.2
  have hw := wM_t11 ⟨w91, w92, w93⟩
  refine lv_iconst (v := 1) hx hb zd_LassoFinderModel_node_121 (by decide) ?_
  refine lv_istore_n hx hb zd_LassoFinderModel_node_122 rfl hl (by decide) rfl (fun ls hl => ?_)
  have hl : lv_has ls 4 [(3, .int 1), (0, .ref (ad 0)), (1, .int x1), (2, .int x2)] := hl
  obtain ⟨n9, hok⟩ := hok
  exact wL_LassoFinderModel_node_123 G K ad a0 Post C n9 x1 x2 1 I J (va_up (va_up B 27 (upd (B 27) (I 12).toNatClampNeg x2)) 10 (upd (B 10) x2.toNatClampNeg (-1))) D ls H locs hok (lv_sub hl [1, 2, 3, 0] rfl) hw
set_option maxHeartbeats 8000000 in
set_option maxRecDepth 100000 in
theorem wJ_LassoFinderModel_node_76 {p : Program} {l : Launch} {e : Env} {s : State} {m : MethodId} {below : List Frame} {meth : Method} {c : Code} {A : Nat → Prop} (G : va_G) (K : Nat → ClassId) (ad : Nat → Nat) (a0 : Int32) (Post : Int32 → (Nat → Int32) → (Nat → Int64) → (Nat → Nat → Int32) → (Nat → Nat → Int64) → Prop) (C : zCx p s m ([.ref (ad 0), .int a0] : List Value).toArray meth c A G K prog_14_method_16_code (some .int) 4 "LassoFinderModel") : ∀ (x1 : Int32) (x2 : Int32) (y0 : Int32) (y1 : Int32) (I : Nat → Int32) (J : Nat → Int64) (B : Nat → Nat → Int32) (D : Nat → Nat → Int64) (ls : Array Slot) (H : Heap) (locs : List Loc), wc_LassoFinderModel_node_76 a0 Post x1 x2 y0 y1 I J B D → lv_has ls 4 [(0, .ref (ad 0)), (1, .int x1), (2, .int x2)] → zW G A s.heap (wM ad K I J B D) H locs → W p l e { frames := 0, cells := 0, slots := 0, locals := 0 } s m ([.ref (ad 0), .int a0] : List Value).toArray below meth c H locs 0 0 (MQ below (va_Qi (fun (r : Int32) (u : zS) => Post r u.1 u.2.1 u.2.2.1 u.2.2.2) (fun u t => zPost G K A (wM ad K u.1 u.2.1 u.2.2.1 u.2.2.2) t) A) ([.ref (ad 0), .int a0] : List Value).toArray s 0 0 A) (F0 m 76 ls [.int y0, .int y1, .ref (ad 10)]) := by
  obtain ⟨hx, hb, hr, hml, hts, hown, hlocks, hA, hK⟩ := id C
  intro x1 x2 y0 y1 I J B D ls H locs hok hl hw
  unfold wc_LassoFinderModel_node_76 at hok
  refine va_zast (f := (B 9)) hx hb hK hw.1 hw.2.1 hw.2.2 10 2 wM_a10 rfl hok.1 zd_LassoFinderModel_node_76 (fun H locs w91 w92 w93 => ?_)
  have hok := hok.2
  have hw := wM_t10 ⟨w91, w92, w93⟩
  refine lv_aload_n hx hb zd_LassoFinderModel_node_77 rfl (lv_at hl 0 rfl) ?_
  refine z_get (v := .ref (ad 29)) hx hb hts hown hK hw zZ12 0 wM_g0 41 (by decide) zm_263 rfl zd_LassoFinderModel_node_78 ?_
  refine lv_aload_n hx hb zd_LassoFinderModel_node_81 rfl (lv_at hl 0 rfl) ?_
  refine z_get (v := .int (I 12)) hx hb hts hown hK hw zZ12 0 wM_g0 38 (by decide) zm_338 rfl zd_LassoFinderModel_node_82 ?_
  refine va_iald (f := (B 27)) hx hb hK hw.1 29 0 wM_a29 rfl hok.1 zd_LassoFinderModel_node_85 ?_
  have hok := hok.2
  refine lv_topi (fun z15 ez15 => ?_)
  have hok := hok z15 ez15
  refine lv_if_lt (tgt := 104) hx hb zd_LassoFinderModel_node_86 (by decide) (fun hc16 => ?_) (fun hc16 => ?_)
  · have hok := hok.1 hc16
    exact wJ_LassoFinderModel_node_104 G K ad a0 Post C x1 x2 I J (va_up B 9 (upd (B 9) y1.toNatClampNeg (vp_nar .boolean y0))) D ls H locs hok (lv_sub hl [0, 1, 2] rfl) hw
  · have hok := hok.2 hc16
    refine lv_aload_n hx hb zd_LassoFinderModel_node_89 rfl (lv_at hl 0 rfl) ?_
    refine z_get (v := .ref (ad 9)) hx hb hts hown hK hw zZ12 0 wM_g0 17 (by decide) zm_243 rfl zd_LassoFinderModel_node_90 ?_
    refine lv_aload_n hx hb zd_LassoFinderModel_node_93 rfl (lv_at hl 0 rfl) ?_
    refine z_get (v := .ref (ad 29)) hx hb hts hown hK hw zZ12 0 wM_g0 41 (by decide) zm_263 rfl zd_LassoFinderModel_node_94 ?_
    refine lv_aload_n hx hb zd_LassoFinderModel_node_97 rfl (lv_at hl 0 rfl) ?_
    refine z_get (v := .int (I 12)) hx hb hts hown hK hw zZ12 0 wM_g0 38 (by decide) zm_338 rfl zd_LassoFinderModel_node_98 ?_
    refine va_iald (f := (B 27)) hx hb hK hw.1 29 0 wM_a29 rfl hok.1 zd_LassoFinderModel_node_101 ?_
    have hok := hok.2
    refine lv_topi (fun z17 ez17 => ?_)
    have hok := hok z17 ez17
    refine lv_iload_n hx hb zd_LassoFinderModel_node_102 rfl (lv_at hl 2 rfl) ?_
    refine va_iast (f := (B 8)) hx hb hK hw.1 hw.2.1 hw.2.2 9 0 wM_a9 rfl hok.1 zd_LassoFinderModel_node_103 (fun H locs w91 w92 w93 => ?_)
    have hok := hok.2
    have hw := wM_t9 ⟨w91, w92, w93⟩
    exact wJ_LassoFinderModel_node_104 G K ad a0 Post C x1 x2 I J (va_up (va_up B 9 (upd (B 9) y1.toNatClampNeg (vp_nar .boolean y0))) 8 (upd (B 8) z17.toNatClampNeg x2)) D ls H locs hok (lv_sub hl [0, 1, 2] rfl) hw
set_option maxHeartbeats 8000000 in
set_option maxRecDepth 100000 in
theorem w_LassoFinderModel_node (l : Launch) (G : va_G) (K : Nat → ClassId) (ad : Nat → Nat) (I : Nat → Int32) (J : Nat → Int64) (B : Nat → Nat → Int32) (D : Nat → Nat → Int64) (a0 : Int32) (Post : Int32 → (Nat → Int32) → (Nat → Int64) → (Nat → Nat → Int32) → (Nat → Nat → Int64) → Prop) (sz : Nat) (hok : wp_LassoFinderModel_node I J B D a0 Post) : Met l zy_LassoFinderModel_node (Cond.code zy_LassoFinderModel_node prog_14_method_16_code 4 (some .int) :: zTB) { frames := 0, cells := 0, slots := 0, locals := 0 } (va_Pc [.ref (ad 0), .int a0] (zPre G K (wM ad K I J B D) sz)) (va_Qi (fun (r : Int32) (u : zS) => Post r u.1 u.2.1 u.2.2.1 u.2.2.2) (fun u t => zPost G K (va_A (wM ad K I J B D) sz) (wM ad K u.1 u.2.1 u.2.2.1 u.2.2.2) t) (va_A (wM ad K I J B D) sz)) 0 0 (va_A (wM ad K I J B D) sz) := by
  refine zMet (y := zy_LassoFinderModel_node) (av := [.ref (ad 0), .int a0]) (maxL := 4) (cc := prog_14_method_16_code) (ret := (some .int)) (W0 := (wM ad K I J B D)) (sz := sz) (G := G) (K := K) (wt := zTB) (mc := 0) (ms := 0) (Qf := fun A => va_Qi (fun (r : Int32) (u : zS) => Post r u.1 u.2.1 u.2.2.1 u.2.2.2) (fun u t => zPost G K A (wM ad K u.1 u.2.1 u.2.2.1 u.2.2.2) t) A) (by decide) (Nat.le_of_ble_eq_true rfl) ?_
  intro p e s m below meth c ls A hx hb hr hml hts hown hlocks hin hA hK H locs hw hsz hl
  clear hsz
  have hown : s.vm.findClass "LassoFinderModel" = some m.cls := hown
  have C : zCx p s m ([.ref (ad 0), .int a0] : List Value).toArray meth c A G K prog_14_method_16_code (some .int) 4 "LassoFinderModel" := ⟨hx, hb, hr, hml, hts, hown, hlocks, hA, hK⟩
  have hl : lv_has ls 4 [(0, .ref (ad 0)), (1, .int a0)] := hl
  have hw : zW G A s.heap (wM ad K I J B D) H locs := hw
  unfold wp_LassoFinderModel_node at hok
  refine lv_aload_n hx hb zd_LassoFinderModel_node_0 rfl (lv_at hl 0 rfl) ?_
  refine z_get (v := .int (I 8)) hx hb hts hown hK hw zZ12 0 wM_g0 13 (by decide) zm_307 rfl zd_LassoFinderModel_node_1 ?_
  refine lv_istore_n hx hb zd_LassoFinderModel_node_4 rfl hl (by decide) rfl (fun ls hl => ?_)
  have hl : lv_has ls 4 [(2, .int (I 8)), (0, .ref (ad 0)), (1, .int a0)] := hl
  refine lv_aload_n hx hb zd_LassoFinderModel_node_5 rfl (lv_at hl 1 rfl) ?_
  refine lv_dup hx hb zd_LassoFinderModel_node_6 rfl ?_
  refine z_get (v := .int (I 8)) hx hb hts hown hK hw zZ12 0 wM_g0 13 (by decide) zm_307 rfl zd_LassoFinderModel_node_7 ?_
  refine lv_iconst (v := 1) hx hb zd_LassoFinderModel_node_10 (by decide) ?_
  refine lv_iadd hx hb zd_LassoFinderModel_node_11 ?_
  refine lv_topi (fun z18 ez18 => ?_)
  have hok := hok z18 ez18
  refine z_put (v := .int z18) hx hb hts hown hK hw zZ12 0 wM_g0 13 (by decide) zm_307 rfl rfl rfl (Nat.le_of_ble_eq_true rfl) zd_LassoFinderModel_node_12 (fun H locs hw => ?_)
  have hw := wM_sI8 hw
  refine lv_aload_n hx hb zd_LassoFinderModel_node_15 rfl (lv_at hl 1 rfl) ?_
  refine z_get (v := .ref (ad 6)) hx hb hts hown hK hw zZ12 0 wM_g0 14 (by decide) zm_240 rfl zd_LassoFinderModel_node_16 ?_
  refine lv_iload_n hx hb zd_LassoFinderModel_node_19 rfl (lv_at hl 0 rfl) ?_
  refine lv_iload_n hx hb zd_LassoFinderModel_node_20 rfl (lv_at hl 2 rfl) ?_
  refine va_iast (f := (B 5)) hx hb hK hw.1 hw.2.1 hw.2.2 6 0 wM_a6 rfl hok.1 zd_LassoFinderModel_node_21 (fun H locs w91 w92 w93 => ?_)
  have hok := hok.2
  have hw := wM_t6 ⟨w91, w92, w93⟩
  refine lv_aload_n hx hb zd_LassoFinderModel_node_22 rfl (lv_at hl 1 rfl) ?_
  refine z_get (v := .ref (ad 7)) hx hb hts hown hK hw zZ12 0 wM_g0 15 (by decide) zm_241 rfl zd_LassoFinderModel_node_23 ?_
  refine lv_iload_n hx hb zd_LassoFinderModel_node_26 rfl (lv_at hl 0 rfl) ?_
  refine lv_aload_n hx hb zd_LassoFinderModel_node_27 rfl (lv_at hl 1 rfl) ?_
  refine z_get (v := .int (I 10)) hx hb hts hown hK hw zZ12 0 wM_g0 30 (by decide) zm_310 rfl zd_LassoFinderModel_node_28 ?_
  refine va_iast (f := (B 6)) hx hb hK hw.1 hw.2.1 hw.2.2 7 0 wM_a7 rfl hok.1 zd_LassoFinderModel_node_31 (fun H locs w91 w92 w93 => ?_)
  have hok := hok.2
  have hw := wM_t7 ⟨w91, w92, w93⟩
  refine lv_aload_n hx hb zd_LassoFinderModel_node_32 rfl (lv_at hl 1 rfl) ?_
  refine z_get (v := .ref (ad 8)) hx hb hts hown hK hw zZ12 0 wM_g0 16 (by decide) zm_242 rfl zd_LassoFinderModel_node_33 ?_
  refine lv_iload_n hx hb zd_LassoFinderModel_node_36 rfl (lv_at hl 0 rfl) ?_
  refine lv_aload_n hx hb zd_LassoFinderModel_node_37 rfl (lv_at hl 1 rfl) ?_
  refine z_get (v := .ref (ad 28)) hx hb hts hown hK hw zZ12 0 wM_g0 40 (by decide) zm_262 rfl zd_LassoFinderModel_node_38 ?_
  refine lv_aload_n hx hb zd_LassoFinderModel_node_41 rfl (lv_at hl 1 rfl) ?_
  refine z_get (v := .int (I 12)) hx hb hts hown hK hw zZ12 0 wM_g0 38 (by decide) zm_338 rfl zd_LassoFinderModel_node_42 ?_
  refine va_iald (f := (B 26)) hx hb hK hw.1 28 0 wM_a28 rfl hok.1 zd_LassoFinderModel_node_45 ?_
  have hok := hok.2
  refine lv_topi (fun z19 ez19 => ?_)
  have hok := hok z19 ez19
  refine va_iast (f := (B 7)) hx hb hK hw.1 hw.2.1 hw.2.2 8 0 wM_a8 rfl hok.1 zd_LassoFinderModel_node_46 (fun H locs w91 w92 w93 => ?_)
  have hok := hok.2
  have hw := wM_t8 ⟨w91, w92, w93⟩
  refine lv_aload_n hx hb zd_LassoFinderModel_node_47 rfl (lv_at hl 1 rfl) ?_
  refine z_get (v := .ref (ad 9)) hx hb hts hown hK hw zZ12 0 wM_g0 17 (by decide) zm_243 rfl zd_LassoFinderModel_node_48 ?_
  refine lv_iload_n hx hb zd_LassoFinderModel_node_51 rfl (lv_at hl 0 rfl) ?_
  refine lv_iconst (v := (-1)) hx hb zd_LassoFinderModel_node_52 (by decide) ?_
  refine va_iast (f := (B 8)) hx hb hK hw.1 hw.2.1 hw.2.2 9 0 wM_a9 rfl hok.1 zd_LassoFinderModel_node_53 (fun H locs w91 w92 w93 => ?_)
  have hok := hok.2
  have hw := wM_t9 ⟨w91, w92, w93⟩
  refine lv_aload_n hx hb zd_LassoFinderModel_node_54 rfl (lv_at hl 1 rfl) ?_
  refine z_get (v := .ref (ad 10)) hx hb hts hown hK hw zZ12 0 wM_g0 18 (by decide) zm_244 rfl zd_LassoFinderModel_node_55 ?_
  refine lv_iload_n hx hb zd_LassoFinderModel_node_58 rfl (lv_at hl 0 rfl) ?_
  refine lv_aload_n hx hb zd_LassoFinderModel_node_59 rfl (lv_at hl 1 rfl) ?_
  refine z_get (v := .ref (ad 29)) hx hb hts hown hK hw zZ12 0 wM_g0 41 (by decide) zm_263 rfl zd_LassoFinderModel_node_60 ?_
  refine lv_aload_n hx hb zd_LassoFinderModel_node_63 rfl (lv_at hl 1 rfl) ?_
  refine z_get (v := .int (I 12)) hx hb hts hown hK hw zZ12 0 wM_g0 38 (by decide) zm_338 rfl zd_LassoFinderModel_node_64 ?_
  refine va_iald (f := (B 27)) hx hb hK hw.1 29 0 wM_a29 rfl hok.1 zd_LassoFinderModel_node_67 ?_
  have hok := hok.2
  refine lv_topi (fun z20 ez20 => ?_)
  have hok := hok z20 ez20
  refine lv_if_ge (tgt := 75) hx hb zd_LassoFinderModel_node_68 (by decide) (fun hc21 => ?_) (fun hc21 => ?_)
  · have hok := hok.1 hc21
    refine lv_iconst (v := 0) hx hb zd_LassoFinderModel_node_75 (by decide) ?_
    exact wJ_LassoFinderModel_node_76 G K ad a0 Post C a0 (I 8) 0 (I 8) (upd I 8 z18) J (va_up (va_up (va_up (va_up B 5 (upd (B 5) (I 8).toNatClampNeg a0)) 6 (upd (B 6) (I 8).toNatClampNeg (I 10))) 7 (upd (B 7) (I 8).toNatClampNeg z19)) 8 (upd (B 8) (I 8).toNatClampNeg (-1))) D ls H locs hok (lv_sub hl [1, 2, 0] rfl) hw
  · have hok := hok.2 hc21
    refine lv_iconst (v := 1) hx hb zd_LassoFinderModel_node_71 (by decide) ?_
    refine lv_goto (tgt := 76) hx hb zd_LassoFinderModel_node_72 (by decide) ?_
    exact wJ_LassoFinderModel_node_76 G K ad a0 Post C a0 (I 8) 1 (I 8) (upd I 8 z18) J (va_up (va_up (va_up (va_up B 5 (upd (B 5) (I 8).toNatClampNeg a0)) 6 (upd (B 6) (I 8).toNatClampNeg (I 10))) 7 (upd (B 7) (I 8).toNatClampNeg z19)) 8 (upd (B 8) (I 8).toNatClampNeg (-1))) D ls H locs hok (lv_sub hl [1, 2, 0] rfl) hw
def wc_LassoFinderModel_strength_43 (a0 : Int32) (Post : Int32 → (Nat → Int32) → (Nat → Int64) → (Nat → Nat → Int32) → (Nat → Nat → Int64) → Prop) (y0 : Int32) (I : Nat → Int32) (J : Nat → Int64) (B : Nat → Nat → Int32) (D : Nat → Nat → Int64) : Prop :=
  Post y0 I J B D
def wc_LassoFinderModel_strength_22 (a0 : Int32) (Post : Int32 → (Nat → Int32) → (Nat → Int64) → (Nat → Nat → Int32) → (Nat → Nat → Int64) → Prop)  (I : Nat → Int32) (J : Nat → Int64) (B : Nat → Nat → Int32) (D : Nat → Nat → Int64) : Prop :=
  wc_LassoFinderModel_strength_43 a0 Post 2 I J B D
def wc_LassoFinderModel_strength_38 (a0 : Int32) (Post : Int32 → (Nat → Int32) → (Nat → Int64) → (Nat → Nat → Int32) → (Nat → Nat → Int64) → Prop)  (I : Nat → Int32) (J : Nat → Int64) (B : Nat → Nat → Int32) (D : Nat → Nat → Int64) : Prop :=
  wc_LassoFinderModel_strength_43 a0 Post 1 I J B D
def wp_LassoFinderModel_strength (I : Nat → Int32) (J : Nat → Int64) (B : Nat → Nat → Int32) (D : Nat → Nat → Int64) (a0 : Int32) (Post : Int32 → (Nat → Int32) → (Nat → Int64) → (Nat → Nat → Int32) → (Nat → Nat → Int64) → Prop) : Prop :=
  ((¬ a0 = 18 → ((a0 = 16 → wc_LassoFinderModel_strength_22 a0 Post I J B D) ∧ (¬ a0 = 16 → ((¬ a0 = 17 → ((a0 = 19 → wc_LassoFinderModel_strength_38 a0 Post I J B D) ∧ (¬ a0 = 19 → ((¬ a0 = 20 → wc_LassoFinderModel_strength_43 a0 Post 0 I J B D) ∧ (a0 = 20 → wc_LassoFinderModel_strength_38 a0 Post I J B D))))) ∧ (a0 = 17 → wc_LassoFinderModel_strength_22 a0 Post I J B D))))) ∧ (a0 = 18 → wc_LassoFinderModel_strength_43 a0 Post 3 I J B D))
set_option maxHeartbeats 8000000 in
set_option maxRecDepth 100000 in
theorem wJ_LassoFinderModel_strength_43 {p : Program} {l : Launch} {e : Env} {s : State} {m : MethodId} {below : List Frame} {meth : Method} {c : Code} {A : Nat → Prop} (G : va_G) (K : Nat → ClassId) (ad : Nat → Nat) (a0 : Int32) (Post : Int32 → (Nat → Int32) → (Nat → Int64) → (Nat → Nat → Int32) → (Nat → Nat → Int64) → Prop) (C : zCx p s m ([.int a0] : List Value).toArray meth c A G K prog_14_method_9_code (some .int) 1 "LassoFinderModel") : ∀ (y0 : Int32) (I : Nat → Int32) (J : Nat → Int64) (B : Nat → Nat → Int32) (D : Nat → Nat → Int64) (ls : Array Slot) (H : Heap) (locs : List Loc), wc_LassoFinderModel_strength_43 a0 Post y0 I J B D → lv_has ls 1 [] → zW G A s.heap (wM ad K I J B D) H locs → W p l e { frames := 0, cells := 0, slots := 0, locals := 0 } s m ([.int a0] : List Value).toArray below meth c H locs 0 0 (MQ below (va_Qi (fun (r : Int32) (u : zS) => Post r u.1 u.2.1 u.2.2.1 u.2.2.2) (fun u t => zPost G K A (wM ad K u.1 u.2.1 u.2.2.1 u.2.2.2) t) A) ([.int a0] : List Value).toArray s 0 0 A) (F0 m 43 ls [.int y0]) := by
  obtain ⟨hx, hb, hr, hml, hts, hown, hlocks, hA, hK⟩ := id C
  intro y0 I J B D ls H locs hok hl hw
  unfold wc_LassoFinderModel_strength_43 at hok
  exact (z_iret (u := (I, J, B, D)) hx hb hr hlocks rfl hw (List.range 58) wM_all wM_nd hok (Nat.le_of_ble_eq_true rfl) (Nat.le_of_ble_eq_true rfl) zd_LassoFinderModel_strength_43)
set_option maxHeartbeats 8000000 in
set_option maxRecDepth 100000 in
theorem wJ_LassoFinderModel_strength_22 {p : Program} {l : Launch} {e : Env} {s : State} {m : MethodId} {below : List Frame} {meth : Method} {c : Code} {A : Nat → Prop} (G : va_G) (K : Nat → ClassId) (ad : Nat → Nat) (a0 : Int32) (Post : Int32 → (Nat → Int32) → (Nat → Int64) → (Nat → Nat → Int32) → (Nat → Nat → Int64) → Prop) (C : zCx p s m ([.int a0] : List Value).toArray meth c A G K prog_14_method_9_code (some .int) 1 "LassoFinderModel") : ∀  (I : Nat → Int32) (J : Nat → Int64) (B : Nat → Nat → Int32) (D : Nat → Nat → Int64) (ls : Array Slot) (H : Heap) (locs : List Loc), wc_LassoFinderModel_strength_22 a0 Post  I J B D → lv_has ls 1 [] → zW G A s.heap (wM ad K I J B D) H locs → W p l e { frames := 0, cells := 0, slots := 0, locals := 0 } s m ([.int a0] : List Value).toArray below meth c H locs 0 0 (MQ below (va_Qi (fun (r : Int32) (u : zS) => Post r u.1 u.2.1 u.2.2.1 u.2.2.2) (fun u t => zPost G K A (wM ad K u.1 u.2.1 u.2.2.1 u.2.2.2) t) A) ([.int a0] : List Value).toArray s 0 0 A) (F0 m 22 ls []) := by
  obtain ⟨hx, hb, hr, hml, hts, hown, hlocks, hA, hK⟩ := id C
  intro  I J B D ls H locs hok hl hw
  unfold wc_LassoFinderModel_strength_22 at hok
  refine lv_iconst (v := 2) hx hb zd_LassoFinderModel_strength_22 (by decide) ?_
  refine lv_goto (tgt := 43) hx hb zd_LassoFinderModel_strength_23 (by decide) ?_
  exact wJ_LassoFinderModel_strength_43 G K ad a0 Post C 2 I J B D ls H locs hok (lv_sub hl [] rfl) hw
set_option maxHeartbeats 8000000 in
set_option maxRecDepth 100000 in
theorem wJ_LassoFinderModel_strength_38 {p : Program} {l : Launch} {e : Env} {s : State} {m : MethodId} {below : List Frame} {meth : Method} {c : Code} {A : Nat → Prop} (G : va_G) (K : Nat → ClassId) (ad : Nat → Nat) (a0 : Int32) (Post : Int32 → (Nat → Int32) → (Nat → Int64) → (Nat → Nat → Int32) → (Nat → Nat → Int64) → Prop) (C : zCx p s m ([.int a0] : List Value).toArray meth c A G K prog_14_method_9_code (some .int) 1 "LassoFinderModel") : ∀  (I : Nat → Int32) (J : Nat → Int64) (B : Nat → Nat → Int32) (D : Nat → Nat → Int64) (ls : Array Slot) (H : Heap) (locs : List Loc), wc_LassoFinderModel_strength_38 a0 Post  I J B D → lv_has ls 1 [] → zW G A s.heap (wM ad K I J B D) H locs → W p l e { frames := 0, cells := 0, slots := 0, locals := 0 } s m ([.int a0] : List Value).toArray below meth c H locs 0 0 (MQ below (va_Qi (fun (r : Int32) (u : zS) => Post r u.1 u.2.1 u.2.2.1 u.2.2.2) (fun u t => zPost G K A (wM ad K u.1 u.2.1 u.2.2.1 u.2.2.2) t) A) ([.int a0] : List Value).toArray s 0 0 A) (F0 m 38 ls []) := by
  obtain ⟨hx, hb, hr, hml, hts, hown, hlocks, hA, hK⟩ := id C
  intro  I J B D ls H locs hok hl hw
  unfold wc_LassoFinderModel_strength_38 at hok
  refine lv_iconst (v := 1) hx hb zd_LassoFinderModel_strength_38 (by decide) ?_
  refine lv_goto (tgt := 43) hx hb zd_LassoFinderModel_strength_39 (by decide) ?_
  exact wJ_LassoFinderModel_strength_43 G K ad a0 Post C 1 I J B D ls H locs hok (lv_sub hl [] rfl) hw
set_option maxHeartbeats 8000000 in
set_option maxRecDepth 100000 in
theorem w_LassoFinderModel_strength (l : Launch) (G : va_G) (K : Nat → ClassId) (ad : Nat → Nat) (I : Nat → Int32) (J : Nat → Int64) (B : Nat → Nat → Int32) (D : Nat → Nat → Int64) (a0 : Int32) (Post : Int32 → (Nat → Int32) → (Nat → Int64) → (Nat → Nat → Int32) → (Nat → Nat → Int64) → Prop) (sz : Nat) (hok : wp_LassoFinderModel_strength I J B D a0 Post) : Met l zy_LassoFinderModel_strength (Cond.code zy_LassoFinderModel_strength prog_14_method_9_code 1 (some .int) :: zTB) { frames := 0, cells := 0, slots := 0, locals := 0 } (va_Pc [.int a0] (zPre G K (wM ad K I J B D) sz)) (va_Qi (fun (r : Int32) (u : zS) => Post r u.1 u.2.1 u.2.2.1 u.2.2.2) (fun u t => zPost G K (va_A (wM ad K I J B D) sz) (wM ad K u.1 u.2.1 u.2.2.1 u.2.2.2) t) (va_A (wM ad K I J B D) sz)) 0 0 (va_A (wM ad K I J B D) sz) := by
  refine zMet (y := zy_LassoFinderModel_strength) (av := [.int a0]) (maxL := 1) (cc := prog_14_method_9_code) (ret := (some .int)) (W0 := (wM ad K I J B D)) (sz := sz) (G := G) (K := K) (wt := zTB) (mc := 0) (ms := 0) (Qf := fun A => va_Qi (fun (r : Int32) (u : zS) => Post r u.1 u.2.1 u.2.2.1 u.2.2.2) (fun u t => zPost G K A (wM ad K u.1 u.2.1 u.2.2.1 u.2.2.2) t) A) (by decide) (Nat.le_of_ble_eq_true rfl) ?_
  intro p e s m below meth c ls A hx hb hr hml hts hown hlocks hin hA hK H locs hw hsz hl
  clear hsz
  have hown : s.vm.findClass "LassoFinderModel" = some m.cls := hown
  have C : zCx p s m ([.int a0] : List Value).toArray meth c A G K prog_14_method_9_code (some .int) 1 "LassoFinderModel" := ⟨hx, hb, hr, hml, hts, hown, hlocks, hA, hK⟩
  have hl : lv_has ls 1 [(0, .int a0)] := hl
  have hw : zW G A s.heap (wM ad K I J B D) H locs := hw
  unfold wp_LassoFinderModel_strength at hok
  refine lv_iload_n hx hb zd_LassoFinderModel_strength_0 rfl (lv_at hl 0 rfl) ?_
  refine lv_bipush (v := 18) hx hb zd_LassoFinderModel_strength_1 (by decide) ?_
  refine lv_icmp_ne (tgt := 10) hx hb zd_LassoFinderModel_strength_3 (by decide) (fun hc1 => ?_) (fun hc1 => ?_)
  · have hok := hok.1 hc1
    refine lv_iload_n hx hb zd_LassoFinderModel_strength_10 rfl (lv_at hl 0 rfl) ?_
    refine lv_bipush (v := 16) hx hb zd_LassoFinderModel_strength_11 (by decide) ?_
    refine lv_icmp_eq (tgt := 22) hx hb zd_LassoFinderModel_strength_13 (by decide) (fun hc2 => ?_) (fun hc2 => ?_)
    · have hok := hok.1 hc2
      exact wJ_LassoFinderModel_strength_22 G K ad a0 Post C I J B D ls H locs hok (lv_sub hl [] rfl) hw
    · have hok := hok.2 hc2
      refine lv_iload_n hx hb zd_LassoFinderModel_strength_16 rfl (lv_at hl 0 rfl) ?_
      refine lv_bipush (v := 17) hx hb zd_LassoFinderModel_strength_17 (by decide) ?_
      refine lv_icmp_ne (tgt := 26) hx hb zd_LassoFinderModel_strength_19 (by decide) (fun hc3 => ?_) (fun hc3 => ?_)
      · have hok := hok.1 hc3
        refine lv_iload_n hx hb zd_LassoFinderModel_strength_26 rfl (lv_at hl 0 rfl) ?_
        refine lv_bipush (v := 19) hx hb zd_LassoFinderModel_strength_27 (by decide) ?_
        refine lv_icmp_eq (tgt := 38) hx hb zd_LassoFinderModel_strength_29 (by decide) (fun hc4 => ?_) (fun hc4 => ?_)
        · have hok := hok.1 hc4
          exact wJ_LassoFinderModel_strength_38 G K ad a0 Post C I J B D ls H locs hok (lv_sub hl [] rfl) hw
        · have hok := hok.2 hc4
          refine lv_iload_n hx hb zd_LassoFinderModel_strength_32 rfl (lv_at hl 0 rfl) ?_
          refine lv_bipush (v := 20) hx hb zd_LassoFinderModel_strength_33 (by decide) ?_
          refine lv_icmp_ne (tgt := 42) hx hb zd_LassoFinderModel_strength_35 (by decide) (fun hc5 => ?_) (fun hc5 => ?_)
          · have hok := hok.1 hc5
            refine lv_iconst (v := 0) hx hb zd_LassoFinderModel_strength_42 (by decide) ?_
            exact wJ_LassoFinderModel_strength_43 G K ad a0 Post C 0 I J B D ls H locs hok (lv_sub hl [] rfl) hw
          · have hok := hok.2 hc5
            exact wJ_LassoFinderModel_strength_38 G K ad a0 Post C I J B D ls H locs hok (lv_sub hl [] rfl) hw
      · have hok := hok.2 hc3
        exact wJ_LassoFinderModel_strength_22 G K ad a0 Post C I J B D ls H locs hok (lv_sub hl [] rfl) hw
  · have hok := hok.2 hc1
    refine lv_iconst (v := 3) hx hb zd_LassoFinderModel_strength_6 (by decide) ?_
    refine lv_goto (tgt := 43) hx hb zd_LassoFinderModel_strength_7 (by decide) ?_
    exact wJ_LassoFinderModel_strength_43 G K ad a0 Post C 3 I J B D ls H locs hok (lv_sub hl [] rfl) hw
def wp_LassoFinderModel_emit (I : Nat → Int32) (J : Nat → Int64) (B : Nat → Nat → Int32) (D : Nat → Nat → Int64) (a0 : Int32) (Post : (Nat → Int32) → (Nat → Int64) → (Nat → Nat → Int32) → (Nat → Nat → Int64) → Prop) : Prop :=
  vp_in (I 11) 480 ∧ ∀ z1 : Int32, z1 = ((I 11) + 1) → Post (upd I 11 z1) J (va_up B 24 (upd (B 24) (I 11).toNatClampNeg a0)) D
set_option maxHeartbeats 8000000 in
set_option maxRecDepth 100000 in
theorem w_LassoFinderModel_emit (l : Launch) (G : va_G) (K : Nat → ClassId) (ad : Nat → Nat) (I : Nat → Int32) (J : Nat → Int64) (B : Nat → Nat → Int32) (D : Nat → Nat → Int64) (a0 : Int32) (Post : (Nat → Int32) → (Nat → Int64) → (Nat → Nat → Int32) → (Nat → Nat → Int64) → Prop) (sz : Nat) (hok : wp_LassoFinderModel_emit I J B D a0 Post) : Met l zy_LassoFinderModel_emit (Cond.code zy_LassoFinderModel_emit prog_14_method_10_code 2 none :: zTB) { frames := 0, cells := 0, slots := 0, locals := 0 } (va_Pc [.ref (ad 0), .int a0] (zPre G K (wM ad K I J B D) sz)) (va_Qv (fun u : zS => Post u.1 u.2.1 u.2.2.1 u.2.2.2) (fun u t => zPost G K (va_A (wM ad K I J B D) sz) (wM ad K u.1 u.2.1 u.2.2.1 u.2.2.2) t) (va_A (wM ad K I J B D) sz)) 0 0 (va_A (wM ad K I J B D) sz) := by
  refine zMet (y := zy_LassoFinderModel_emit) (av := [.ref (ad 0), .int a0]) (maxL := 2) (cc := prog_14_method_10_code) (ret := none) (W0 := (wM ad K I J B D)) (sz := sz) (G := G) (K := K) (wt := zTB) (mc := 0) (ms := 0) (Qf := fun A => va_Qv (fun u : zS => Post u.1 u.2.1 u.2.2.1 u.2.2.2) (fun u t => zPost G K A (wM ad K u.1 u.2.1 u.2.2.1 u.2.2.2) t) A) (by decide) (Nat.le_of_ble_eq_true rfl) ?_
  intro p e s m below meth c ls A hx hb hr hml hts hown hlocks hin hA hK H locs hw hsz hl
  clear hsz
  have hown : s.vm.findClass "LassoFinderModel" = some m.cls := hown
  have C : zCx p s m ([.ref (ad 0), .int a0] : List Value).toArray meth c A G K prog_14_method_10_code none 2 "LassoFinderModel" := ⟨hx, hb, hr, hml, hts, hown, hlocks, hA, hK⟩
  have hl : lv_has ls 2 [(0, .ref (ad 0)), (1, .int a0)] := hl
  have hw : zW G A s.heap (wM ad K I J B D) H locs := hw
  unfold wp_LassoFinderModel_emit at hok
  refine lv_aload_n hx hb zd_LassoFinderModel_emit_0 rfl (lv_at hl 0 rfl) ?_
  refine z_get (v := .ref (ad 26)) hx hb hts hown hK hw zZ12 0 wM_g0 37 (by decide) zm_260 rfl zd_LassoFinderModel_emit_1 ?_
  refine lv_aload_n hx hb zd_LassoFinderModel_emit_4 rfl (lv_at hl 0 rfl) ?_
  refine z_get (v := .int (I 11)) hx hb hts hown hK hw zZ12 0 wM_g0 36 (by decide) zm_296 rfl zd_LassoFinderModel_emit_5 ?_
  refine lv_iload_n hx hb zd_LassoFinderModel_emit_8 rfl (lv_at hl 1 rfl) ?_
  refine va_iast (f := (B 24)) hx hb hK hw.1 hw.2.1 hw.2.2 26 0 wM_a26 rfl hok.1 zd_LassoFinderModel_emit_9 (fun H locs w91 w92 w93 => ?_)
  have hok := hok.2
  have hw := wM_t26 ⟨w91, w92, w93⟩
  refine lv_aload_n hx hb zd_LassoFinderModel_emit_10 rfl (lv_at hl 0 rfl) ?_
  refine lv_dup hx hb zd_LassoFinderModel_emit_11 rfl ?_
  refine z_get (v := .int (I 11)) hx hb hts hown hK hw zZ12 0 wM_g0 36 (by decide) zm_296 rfl zd_LassoFinderModel_emit_12 ?_
  refine lv_iconst (v := 1) hx hb zd_LassoFinderModel_emit_15 (by decide) ?_
  refine lv_iadd hx hb zd_LassoFinderModel_emit_16 ?_
  refine lv_topi (fun z1 ez1 => ?_)
  have hok := hok z1 ez1
  refine z_put (v := .int z1) hx hb hts hown hK hw zZ12 0 wM_g0 36 (by decide) zm_296 rfl rfl rfl (Nat.le_of_ble_eq_true rfl) zd_LassoFinderModel_emit_17 (fun H locs hw => ?_)
  have hw := wM_sI11 hw
  exact (z_vret (u := ((upd I 11 z1), J, (va_up B 24 (upd (B 24) (I 11).toNatClampNeg a0)), D)) hx hb hr hlocks hw (List.range 58) wM_all wM_nd hok (Nat.le_of_ble_eq_true rfl) (Nat.le_of_ble_eq_true rfl) zd_LassoFinderModel_emit_20)
def wc_LassoFinderModel_settle_51 (a0 : Int32) (Post : (Nat → Int32) → (Nat → Int64) → (Nat → Nat → Int32) → (Nat → Nat → Int64) → Prop)  (I : Nat → Int32) (J : Nat → Int64) (B : Nat → Nat → Int32) (D : Nat → Nat → Int64) : Prop :=
  Post I J B D
def wb_LassoFinderModel_settle_0 (a0 : Int32) (K0 : Int32 → (Nat → Int32) → (Nat → Int64) → (Nat → Nat → Int32) → (Nat → Nat → Int64) → Prop) (Post : (Nat → Int32) → (Nat → Int64) → (Nat → Nat → Int32) → (Nat → Nat → Int64) → Prop) (x1 : Int32) (I : Nat → Int32) (J : Nat → Int64) (B : Nat → Nat → Int32) (D : Nat → Nat → Int64) : Prop :=
  (((I 13) ≤ 0 → wc_LassoFinderModel_settle_51 a0 Post I J B D) ∧ (¬ (I 13) ≤ 0 → ∀ z2 : Int32, z2 = ((I 13) - 1) → vp_in z2 240 ∧ ∀ z3 : Int32, z3 = ((B 28) z2.toNatClampNeg) → wp_LassoFinderModel_strength I J B D z3 (fun r4 I4 J4 B4 D4 => ((r4 < x1 → wc_LassoFinderModel_settle_51 a0 Post I4 J4 B4 D4) ∧ (¬ r4 < x1 → ∀ z6 : Int32, z6 = ((I4 13) - 1) → vp_in z6 240 ∧ ∀ z7 : Int32, z7 = ((B4 28) z6.toNatClampNeg) → wp_LassoFinderModel_emit (upd I4 13 z6) J4 B4 D4 z7 (fun I8 J8 B8 D8 => K0 x1 I8 J8 B8 D8))))))
def wl_LassoFinderModel_settle_0 (a0 : Int32) (Post : (Nat → Int32) → (Nat → Int64) → (Nat → Nat → Int32) → (Nat → Nat → Int64) → Prop) (n : Nat) : Int32 → (Nat → Int32) → (Nat → Int64) → (Nat → Nat → Int32) → (Nat → Nat → Int64) → Prop := Nat.rec (fun _ _ _ _ _ => False) (fun _ r => wb_LassoFinderModel_settle_0 a0 r Post) n
def wp_LassoFinderModel_settle (I : Nat → Int32) (J : Nat → Int64) (B : Nat → Nat → Int32) (D : Nat → Nat → Int64) (a0 : Int32) (Post : (Nat → Int32) → (Nat → Int64) → (Nat → Nat → Int32) → (Nat → Nat → Int64) → Prop) : Prop :=
  ∃ n : Nat, wl_LassoFinderModel_settle_0 a0 Post n a0 I J B D
set_option maxHeartbeats 8000000 in
set_option maxRecDepth 100000 in
theorem wJ_LassoFinderModel_settle_51 {p : Program} {l : Launch} {e : Env} {s : State} {m : MethodId} {below : List Frame} {meth : Method} {c : Code} {A : Nat → Prop} (G : va_G) (K : Nat → ClassId) (ad : Nat → Nat) (a0 : Int32) (Post : (Nat → Int32) → (Nat → Int64) → (Nat → Nat → Int32) → (Nat → Nat → Int64) → Prop) (C : zCx p s m ([.ref (ad 0), .int a0] : List Value).toArray meth c A G K prog_14_method_11_code none 2 "LassoFinderModel") : ∀  (I : Nat → Int32) (J : Nat → Int64) (B : Nat → Nat → Int32) (D : Nat → Nat → Int64) (ls : Array Slot) (H : Heap) (locs : List Loc), wc_LassoFinderModel_settle_51 a0 Post  I J B D → lv_has ls 2 [] → zW G A s.heap (wM ad K I J B D) H locs → W p l e { frames := 1, cells := 0, slots := 0, locals := 21 } s m ([.ref (ad 0), .int a0] : List Value).toArray below meth c H locs 0 0 (MQ below (va_Qv (fun u : zS => Post u.1 u.2.1 u.2.2.1 u.2.2.2) (fun u t => zPost G K A (wM ad K u.1 u.2.1 u.2.2.1 u.2.2.2) t) A) ([.ref (ad 0), .int a0] : List Value).toArray s 0 0 A) (F0 m 51 ls []) := by
  obtain ⟨hx, hb, hr, hml, hts, hown, hlocks, hA, hK⟩ := id C
  intro  I J B D ls H locs hok hl hw
  unfold wc_LassoFinderModel_settle_51 at hok
  exact (z_vret (u := (I, J, B, D)) hx hb hr hlocks hw (List.range 58) wM_all wM_nd hok (Nat.le_of_ble_eq_true rfl) (Nat.le_of_ble_eq_true rfl) zd_LassoFinderModel_settle_51)
set_option maxHeartbeats 8000000 in
set_option maxRecDepth 100000 in
theorem wB_LassoFinderModel_settle_0 {p : Program} {l : Launch} {e : Env} {s : State} {m : MethodId} {below : List Frame} {meth : Method} {c : Code} {A : Nat → Prop} (G : va_G) (K : Nat → ClassId) (ad : Nat → Nat) (a0 : Int32) (Post : (Nat → Int32) → (Nat → Int64) → (Nat → Nat → Int32) → (Nat → Nat → Int64) → Prop) (C : zCx p s m ([.ref (ad 0), .int a0] : List Value).toArray meth c A G K prog_14_method_11_code none 2 "LassoFinderModel") (K0 : Int32 → (Nat → Int32) → (Nat → Int64) → (Nat → Nat → Int32) → (Nat → Nat → Int64) → Prop) (kh0 : ∀ (x1 : Int32) (I : Nat → Int32) (J : Nat → Int64) (B : Nat → Nat → Int32) (D : Nat → Nat → Int64) (ls : Array Slot) (H : Heap) (locs : List Loc), K0 x1 I J B D → lv_has ls 2 [(0, .ref (ad 0)), (1, .int x1)] → zW G A s.heap (wM ad K I J B D) H locs → W p l e { frames := 1, cells := 0, slots := 0, locals := 21 } s m ([.ref (ad 0), .int a0] : List Value).toArray below meth c H locs 0 0 (MQ below (va_Qv (fun u : zS => Post u.1 u.2.1 u.2.2.1 u.2.2.2) (fun u t => zPost G K A (wM ad K u.1 u.2.1 u.2.2.1 u.2.2.2) t) A) ([.ref (ad 0), .int a0] : List Value).toArray s 0 0 A) (F0 m 0 ls [])) : ∀ (x1 : Int32) (I : Nat → Int32) (J : Nat → Int64) (B : Nat → Nat → Int32) (D : Nat → Nat → Int64) (ls : Array Slot) (H : Heap) (locs : List Loc), wb_LassoFinderModel_settle_0 a0 K0 Post x1 I J B D → lv_has ls 2 [(0, .ref (ad 0)), (1, .int x1)] → zW G A s.heap (wM ad K I J B D) H locs → W p l e { frames := 1, cells := 0, slots := 0, locals := 21 } s m ([.ref (ad 0), .int a0] : List Value).toArray below meth c H locs 0 0 (MQ below (va_Qv (fun u : zS => Post u.1 u.2.1 u.2.2.1 u.2.2.2) (fun u t => zPost G K A (wM ad K u.1 u.2.1 u.2.2.1 u.2.2.2) t) A) ([.ref (ad 0), .int a0] : List Value).toArray s 0 0 A) (F0 m 0 ls []) := by
  obtain ⟨hx, hb, hr, hml, hts, hown, hlocks, hA, hK⟩ := id C
  intro x1 I J B D ls H locs hok hl hw
  unfold wb_LassoFinderModel_settle_0 at hok
  refine lv_aload_n hx hb zd_LassoFinderModel_settle_0 rfl (lv_at hl 0 rfl) ?_
  refine z_get (v := .int (I 13)) hx hb hts hown hK hw zZ12 0 wM_g0 42 (by decide) zm_348 rfl zd_LassoFinderModel_settle_1 ?_
  refine lv_if_le (tgt := 51) hx hb zd_LassoFinderModel_settle_4 (by decide) (fun hc1 => ?_) (fun hc1 => ?_)
  · have hok := hok.1 hc1
    exact wJ_LassoFinderModel_settle_51 G K ad a0 Post C I J B D ls H locs hok (lv_sub hl [] rfl) hw
  · have hok := hok.2 hc1
    refine lv_aload_n hx hb zd_LassoFinderModel_settle_7 rfl (lv_at hl 0 rfl) ?_
    refine z_get (v := .ref (ad 30)) hx hb hts hown hK hw zZ12 0 wM_g0 43 (by decide) zm_264 rfl zd_LassoFinderModel_settle_8 ?_
    refine lv_aload_n hx hb zd_LassoFinderModel_settle_11 rfl (lv_at hl 0 rfl) ?_
    refine z_get (v := .int (I 13)) hx hb hts hown hK hw zZ12 0 wM_g0 42 (by decide) zm_348 rfl zd_LassoFinderModel_settle_12 ?_
    refine lv_iconst (v := 1) hx hb zd_LassoFinderModel_settle_15 (by decide) ?_
    refine lv_isub hx hb zd_LassoFinderModel_settle_16 ?_
    refine lv_topi (fun z2 ez2 => ?_)
    have hok := hok z2 ez2
    refine va_iald (f := (B 28)) hx hb hK hw.1 30 0 wM_a30 rfl hok.1 zd_LassoFinderModel_settle_17 ?_
    have hok := hok.2
    refine lv_topi (fun z3 ez3 => ?_)
    have hok := hok z3 ez3
    refine z_calli (w1 := fun (u : zS) => wM ad K u.1 u.2.1 u.2.2.1 u.2.2.2) (wr := []) (z_runS (wc := (wM ad K I J B D)) (As := [.int z3]) (rest := []) ⟨hx, hb, hml, hown, hts⟩ (w_LassoFinderModel_strength l G K ad I J B D z3 _ H.size hok) zf_LassoFinderModel_strength zm_351 ⟨Nat.le_of_ble_eq_true rfl, Nat.le_of_ble_eq_true rfl⟩ hK hw (List.range 58) wM_all wM_nd rfl hl.1 rfl (Nat.le_of_ble_eq_true rfl) zd_LassoFinderModel_settle_18 ⟨Nat.le_of_ble_eq_true rfl, Nat.le_of_ble_eq_true rfl⟩) hw hA (List.range 58) [] wM_all rfl (by decide) (fun i hi => by cases hi) (fun r4 u H locs hok hw => ?_)
    obtain ⟨I4, J4, B4, D4⟩ := u
    dsimp only at hok
    have hw : zW G A s.heap (wM ad K I4 J4 B4 D4) H locs := hw
    refine lv_iload_n hx hb zd_LassoFinderModel_settle_21 rfl (lv_at hl 1 rfl) ?_
    refine lv_icmp_lt (tgt := 51) hx hb zd_LassoFinderModel_settle_22 (by decide) (fun hc5 => ?_) (fun hc5 => ?_)
    · have hok := hok.1 hc5
      exact wJ_LassoFinderModel_settle_51 G K ad a0 Post C I4 J4 B4 D4 ls H locs hok (lv_sub hl [] rfl) hw
    · have hok := hok.2 hc5
      refine lv_aload_n hx hb zd_LassoFinderModel_settle_25 rfl (lv_at hl 0 rfl) ?_
      refine lv_dup hx hb zd_LassoFinderModel_settle_26 rfl ?_
      refine z_get (v := .int (I4 13)) hx hb hts hown hK hw zZ12 0 wM_g0 42 (by decide) zm_348 rfl zd_LassoFinderModel_settle_27 ?_
      refine lv_iconst (v := 1) hx hb zd_LassoFinderModel_settle_30 (by decide) ?_
      refine lv_isub hx hb zd_LassoFinderModel_settle_31 ?_
      refine lv_topi (fun z6 ez6 => ?_)
      have hok := hok z6 ez6
      refine z_put (v := .int z6) hx hb hts hown hK hw zZ12 0 wM_g0 42 (by decide) zm_348 rfl rfl rfl (Nat.le_of_ble_eq_true rfl) zd_LassoFinderModel_settle_32 (fun H locs hw => ?_)
      have hw := wM_sI13 hw
      refine lv_aload_n hx hb zd_LassoFinderModel_settle_35 rfl (lv_at hl 0 rfl) ?_
      refine lv_aload_n hx hb zd_LassoFinderModel_settle_36 rfl (lv_at hl 0 rfl) ?_
      refine z_get (v := .ref (ad 30)) hx hb hts hown hK hw zZ12 0 wM_g0 43 (by decide) zm_264 rfl zd_LassoFinderModel_settle_37 ?_
      refine lv_aload_n hx hb zd_LassoFinderModel_settle_40 rfl (lv_at hl 0 rfl) ?_
      refine z_get (v := .int z6) hx hb hts hown hK hw zZ12 0 wM_g0 42 (by decide) zm_348 rfl zd_LassoFinderModel_settle_41 ?_
      refine va_iald (f := (B4 28)) hx hb hK hw.1 30 0 wM_a30 rfl hok.1 zd_LassoFinderModel_settle_44 ?_
      have hok := hok.2
      refine lv_topi (fun z7 ez7 => ?_)
      have hok := hok z7 ez7
      refine z_callv (w1 := fun (u : zS) => wM ad K u.1 u.2.1 u.2.2.1 u.2.2.2) (wr := []) (z_runV (q0 := 0) (wc := (wM ad K (upd I4 13 z6) J4 B4 D4)) (As := [.int z7]) (rest := []) ⟨hx, hb, hml, hown, hts⟩ (w_LassoFinderModel_emit l G K ad (upd I4 13 z6) J4 B4 D4 z7 _ H.size hok) zf_LassoFinderModel_emit zm_349 ⟨Nat.le_of_ble_eq_true rfl, Nat.le_of_ble_eq_true rfl⟩ hK hw (List.range 58) wM_all wM_nd wM_g0 rfl rfl hl.1 rfl (Nat.le_of_ble_eq_true rfl) zd_LassoFinderModel_settle_45 ⟨Nat.le_of_ble_eq_true rfl, Nat.le_of_ble_eq_true rfl⟩) hw hA (List.range 58) [] wM_all rfl (by decide) (fun i hi => by cases hi) (fun u H locs hok hw => ?_)
      obtain ⟨I8, J8, B8, D8⟩ := u
      dsimp only at hok
      have hw : zW G A s.heap (wM ad K I8 J8 B8 D8) H locs := hw
      refine lv_goto (tgt := 0) hx hb zd_LassoFinderModel_settle_48 (by decide) ?_
      exact kh0 x1 I8 J8 B8 D8 ls H locs hok (lv_sub hl [0, 1] rfl) hw
theorem wL_LassoFinderModel_settle_0 {p : Program} {l : Launch} {e : Env} {s : State} {m : MethodId} {below : List Frame} {meth : Method} {c : Code} {A : Nat → Prop} (G : va_G) (K : Nat → ClassId) (ad : Nat → Nat) (a0 : Int32) (Post : (Nat → Int32) → (Nat → Int64) → (Nat → Nat → Int32) → (Nat → Nat → Int64) → Prop) (C : zCx p s m ([.ref (ad 0), .int a0] : List Value).toArray meth c A G K prog_14_method_11_code none 2 "LassoFinderModel") : ∀ (n : Nat) (x1 : Int32) (I : Nat → Int32) (J : Nat → Int64) (B : Nat → Nat → Int32) (D : Nat → Nat → Int64) (ls : Array Slot) (H : Heap) (locs : List Loc), wl_LassoFinderModel_settle_0 a0 Post n x1 I J B D → lv_has ls 2 [(0, .ref (ad 0)), (1, .int x1)] → zW G A s.heap (wM ad K I J B D) H locs → W p l e { frames := 1, cells := 0, slots := 0, locals := 21 } s m ([.ref (ad 0), .int a0] : List Value).toArray below meth c H locs 0 0 (MQ below (va_Qv (fun u : zS => Post u.1 u.2.1 u.2.2.1 u.2.2.2) (fun u t => zPost G K A (wM ad K u.1 u.2.1 u.2.2.1 u.2.2.2) t) A) ([.ref (ad 0), .int a0] : List Value).toArray s 0 0 A) (F0 m 0 ls []) := by
  intro n
  induction n with
  | zero => intro x1 I J B D ls H locs hok; exact hok.elim
  | succ n ih => exact wB_LassoFinderModel_settle_0 G K ad a0 Post C (wl_LassoFinderModel_settle_0 a0 Post n) ih
set_option maxHeartbeats 8000000 in
set_option maxRecDepth 100000 in
theorem w_LassoFinderModel_settle (l : Launch) (G : va_G) (K : Nat → ClassId) (ad : Nat → Nat) (I : Nat → Int32) (J : Nat → Int64) (B : Nat → Nat → Int32) (D : Nat → Nat → Int64) (a0 : Int32) (Post : (Nat → Int32) → (Nat → Int64) → (Nat → Nat → Int32) → (Nat → Nat → Int64) → Prop) (sz : Nat) (hok : wp_LassoFinderModel_settle I J B D a0 Post) : Met l zy_LassoFinderModel_settle (Cond.code zy_LassoFinderModel_settle prog_14_method_11_code 2 none :: zTB) { frames := 1, cells := 0, slots := 0, locals := 21 } (va_Pc [.ref (ad 0), .int a0] (zPre G K (wM ad K I J B D) sz)) (va_Qv (fun u : zS => Post u.1 u.2.1 u.2.2.1 u.2.2.2) (fun u t => zPost G K (va_A (wM ad K I J B D) sz) (wM ad K u.1 u.2.1 u.2.2.1 u.2.2.2) t) (va_A (wM ad K I J B D) sz)) 0 0 (va_A (wM ad K I J B D) sz) := by
  refine zMet (y := zy_LassoFinderModel_settle) (av := [.ref (ad 0), .int a0]) (maxL := 2) (cc := prog_14_method_11_code) (ret := none) (W0 := (wM ad K I J B D)) (sz := sz) (G := G) (K := K) (wt := zTB) (mc := 0) (ms := 0) (Qf := fun A => va_Qv (fun u : zS => Post u.1 u.2.1 u.2.2.1 u.2.2.2) (fun u t => zPost G K A (wM ad K u.1 u.2.1 u.2.2.1 u.2.2.2) t) A) (by decide) (Nat.le_of_ble_eq_true rfl) ?_
  intro p e s m below meth c ls A hx hb hr hml hts hown hlocks hin hA hK H locs hw hsz hl
  clear hsz
  have hown : s.vm.findClass "LassoFinderModel" = some m.cls := hown
  have C : zCx p s m ([.ref (ad 0), .int a0] : List Value).toArray meth c A G K prog_14_method_11_code none 2 "LassoFinderModel" := ⟨hx, hb, hr, hml, hts, hown, hlocks, hA, hK⟩
  have hl : lv_has ls 2 [(0, .ref (ad 0)), (1, .int a0)] := hl
  have hw : zW G A s.heap (wM ad K I J B D) H locs := hw
  unfold wp_LassoFinderModel_settle at hok
  obtain ⟨n9, hok⟩ := hok
  exact wL_LassoFinderModel_settle_0 G K ad a0 Post C n9 a0 I J B D ls H locs hok (lv_sub hl [0, 1] rfl) hw
