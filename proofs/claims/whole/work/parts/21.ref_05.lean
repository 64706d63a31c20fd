abbrev zy_LassoFinderModel_here : MethodName := ⟨"LassoFinderModel", "here", "()I"⟩
abbrev zy_LassoFinderModel_fail : MethodName := ⟨"LassoFinderModel", "fail", "()Z"⟩
abbrev zy_LassoFinderModel_enter : MethodName := ⟨"LassoFinderModel", "enter", "(II)V"⟩
abbrev zy_LassoFinderModel_jumps : MethodName := ⟨"LassoFinderModel", "jumps", "(I)Z"⟩
abbrev zy_LassoFinderModel_reach : MethodName := ⟨"LassoFinderModel", "reach", "()Z"⟩
theorem zm_238 : Cond.fieldLink "LassoFinderModel" 23 "LassoFinderModel" "initial" "[I" ∈ zTB := z_in (zt_6 _ (List.mem_of_getElem? (i := 105) rfl)) rfl
theorem zm_251 : Cond.fieldLink "LassoFinderModel" 63 "LassoFinderModel" "where" "[I" ∈ zTB := z_in (zt_6 _ (List.mem_of_getElem? (i := 119) rfl)) rfl
theorem zm_256 : Cond.fieldLink "LassoFinderModel" 78 "LassoFinderModel" "firstNode" "[I" ∈ zTB := z_in (zt_6 _ (List.mem_of_getElem? (i := 126) rfl)) rfl
theorem zm_261 : Cond.fieldLink "LassoFinderModel" 94 "LassoFinderModel" "block" "[I" ∈ zTB := z_in (zt_6 _ (List.mem_of_getElem? (i := 133) rfl)) rfl
theorem zm_262 : Cond.fieldLink "LassoFinderModel" 97 "LassoFinderModel" "blockNode" "[I" ∈ zTB := z_in (zt_6 _ (List.mem_of_getElem? (i := 134) rfl)) rfl
theorem zm_263 : Cond.fieldLink "LassoFinderModel" 100 "LassoFinderModel" "latest" "[I" ∈ zTB := z_in (zt_6 _ (List.mem_of_getElem? (i := 135) rfl)) rfl
theorem zm_271 : Cond.fieldLink "LassoFinderModel" 124 "LassoFinderModel" "firstInto" "[I" ∈ zTB := z_in (zt_6 _ (List.mem_of_getElem? (i := 147) rfl)) rfl
theorem zm_272 : Cond.fieldLink "LassoFinderModel" 127 "LassoFinderModel" "stepInto" "[I" ∈ zTB := z_in (zt_6 _ (List.mem_of_getElem? (i := 148) rfl)) rfl
theorem zm_301 : Cond.fieldLink "LassoFinderModel" 206 "LassoFinderModel" "bad" "I" ∈ zTB := z_in (zt_6 _ (List.mem_of_getElem? (i := 98) rfl)) rfl
theorem zm_313 : Cond.methodLink "LassoFinderModel" 355 ⟨"LassoFinderModel", "expand", "(I)V"⟩ ∈ zTB := z_in (zt_7 _ (List.mem_of_getElem? (i := 217) rfl)) rfl
theorem zm_335 : Cond.fieldLink "LassoFinderModel" 203 "LassoFinderModel" "at" "I" ∈ zTB := z_in (zt_6 _ (List.mem_of_getElem? (i := 97) rfl)) rfl
theorem zm_338 : Cond.fieldLink "LassoFinderModel" 248 "LassoFinderModel" "open" "I" ∈ zTB := z_in (zt_6 _ (List.mem_of_getElem? (i := 132) rfl)) rfl
theorem zm_410 : Cond.code ⟨"LassoFinderModel", "expand", "(I)V"⟩ prog_14_method_37_code 8 none ∈ zTB := z_in (zt_7 _ (List.mem_of_getElem? (i := 220) rfl)) rfl
theorem zm_411 : Cond.instanceMethod ⟨"LassoFinderModel", "expand", "(I)V"⟩ ∈ zTB := z_in (zt_7 _ (List.mem_of_getElem? (i := 219) rfl)) rfl
theorem zf_LassoFinderModel_expand : zFaceV zy_LassoFinderModel_expand prog_14_method_37_code 8 none 1 := ⟨zm_411, (z_in (zp_6 _ (List.mem_of_getElem? (i := 15) rfl)) rfl), zm_25, zm_410, by decide +kernel, by decide +kernel, by decide +kernel⟩
theorem zd_LassoFinderModel_enter_0 : decode prog_14_method_17_code 0 = .ok (.aload_n 0, 1) := by decide +kernel
theorem zd_LassoFinderModel_enter_1 : decode prog_14_method_17_code 1 = .ok (.dup, 1) := by decide +kernel
theorem zd_LassoFinderModel_enter_2 : decode prog_14_method_17_code 2 = .ok (.getfield 248, 3) := by decide +kernel
theorem zd_LassoFinderModel_enter_5 : decode prog_14_method_17_code 5 = .ok (.iconst 1, 1) := by decide +kernel
theorem zd_LassoFinderModel_enter_6 : decode prog_14_method_17_code 6 = .ok (.iadd, 1) := by decide +kernel
theorem zd_LassoFinderModel_enter_7 : decode prog_14_method_17_code 7 = .ok (.putfield 248, 3) := by decide +kernel
theorem zd_LassoFinderModel_enter_10 : decode prog_14_method_17_code 10 = .ok (.aload_n 0, 1) := by decide +kernel
theorem zd_LassoFinderModel_enter_11 : decode prog_14_method_17_code 11 = .ok (.getfield 94, 3) := by decide +kernel
theorem zd_LassoFinderModel_enter_14 : decode prog_14_method_17_code 14 = .ok (.aload_n 0, 1) := by decide +kernel
theorem zd_LassoFinderModel_enter_15 : decode prog_14_method_17_code 15 = .ok (.getfield 248, 3) := by decide +kernel
theorem zd_LassoFinderModel_enter_18 : decode prog_14_method_17_code 18 = .ok (.iload_n 1, 1) := by decide +kernel
theorem zd_LassoFinderModel_enter_19 : decode prog_14_method_17_code 19 = .ok (.iastore, 1) := by decide +kernel
theorem zd_LassoFinderModel_enter_20 : decode prog_14_method_17_code 20 = .ok (.aload_n 0, 1) := by decide +kernel
theorem zd_LassoFinderModel_enter_21 : decode prog_14_method_17_code 21 = .ok (.getfield 97, 3) := by decide +kernel
theorem zd_LassoFinderModel_enter_24 : decode prog_14_method_17_code 24 = .ok (.aload_n 0, 1) := by decide +kernel
theorem zd_LassoFinderModel_enter_25 : decode prog_14_method_17_code 25 = .ok (.getfield 248, 3) := by decide +kernel
theorem zd_LassoFinderModel_enter_28 : decode prog_14_method_17_code 28 = .ok (.iload_n 2, 1) := by decide +kernel
theorem zd_LassoFinderModel_enter_29 : decode prog_14_method_17_code 29 = .ok (.iastore, 1) := by decide +kernel
theorem zd_LassoFinderModel_enter_30 : decode prog_14_method_17_code 30 = .ok (.aload_n 0, 1) := by decide +kernel
theorem zd_LassoFinderModel_enter_31 : decode prog_14_method_17_code 31 = .ok (.getfield 100, 3) := by decide +kernel
theorem zd_LassoFinderModel_enter_34 : decode prog_14_method_17_code 34 = .ok (.aload_n 0, 1) := by decide +kernel
theorem zd_LassoFinderModel_enter_35 : decode prog_14_method_17_code 35 = .ok (.getfield 248, 3) := by decide +kernel
theorem zd_LassoFinderModel_enter_38 : decode prog_14_method_17_code 38 = .ok (.iconst (-1), 1) := by decide +kernel
theorem zd_LassoFinderModel_enter_39 : decode prog_14_method_17_code 39 = .ok (.iastore, 1) := by decide +kernel
theorem zd_LassoFinderModel_enter_40 : decode prog_14_method_17_code 40 = .ok (.aload_n 0, 1) := by decide +kernel
theorem zd_LassoFinderModel_enter_41 : decode prog_14_method_17_code 41 = .ok (.dup, 1) := by decide +kernel
theorem zd_LassoFinderModel_enter_42 : decode prog_14_method_17_code 42 = .ok (.getfield 203, 3) := by decide +kernel
theorem zd_LassoFinderModel_enter_45 : decode prog_14_method_17_code 45 = .ok (.iconst 1, 1) := by decide +kernel
theorem zd_LassoFinderModel_enter_46 : decode prog_14_method_17_code 46 = .ok (.iadd, 1) := by decide +kernel
theorem zd_LassoFinderModel_enter_47 : decode prog_14_method_17_code 47 = .ok (.putfield 203, 3) := by decide +kernel
theorem zd_LassoFinderModel_enter_50 : decode prog_14_method_17_code 50 = .ok (.return_, 1) := by decide +kernel
theorem zd_LassoFinderModel_fail_0 : decode prog_14_method_6_code 0 = .ok (.aload_n 0, 1) := by decide +kernel
theorem zd_LassoFinderModel_fail_1 : decode prog_14_method_6_code 1 = .ok (.aload_n 0, 1) := by decide +kernel
theorem zd_LassoFinderModel_fail_2 : decode prog_14_method_6_code 2 = .ok (.getfield 203, 3) := by decide +kernel
theorem zd_LassoFinderModel_fail_5 : decode prog_14_method_6_code 5 = .ok (.putfield 206, 3) := by decide +kernel
theorem zd_LassoFinderModel_fail_8 : decode prog_14_method_6_code 8 = .ok (.iconst 0, 1) := by decide +kernel
theorem zd_LassoFinderModel_fail_9 : decode prog_14_method_6_code 9 = .ok (.ireturn, 1) := by decide +kernel
theorem zd_LassoFinderModel_here_0 : decode prog_14_method_5_code 0 = .ok (.aload_n 0, 1) := by decide +kernel
theorem zd_LassoFinderModel_here_1 : decode prog_14_method_5_code 1 = .ok (.getfield 203, 3) := by decide +kernel
theorem zd_LassoFinderModel_here_4 : decode prog_14_method_5_code 4 = .ok (.aload_n 0, 1) := by decide +kernel
theorem zd_LassoFinderModel_here_5 : decode prog_14_method_5_code 5 = .ok (.getfield 200, 3) := by decide +kernel
theorem zd_LassoFinderModel_here_8 : decode prog_14_method_5_code 8 = .ok (.if_icmp .ge 15, 3) := by decide +kernel
theorem zd_LassoFinderModel_here_11 : decode prog_14_method_5_code 11 = .ok (.aload_n 0, 1) := by decide +kernel
theorem zd_LassoFinderModel_here_12 : decode prog_14_method_5_code 12 = .ok (.getfield 7, 3) := by decide +kernel
theorem zd_LassoFinderModel_here_15 : decode prog_14_method_5_code 15 = .ok (.aload_n 0, 1) := by decide +kernel
theorem zd_LassoFinderModel_here_16 : decode prog_14_method_5_code 16 = .ok (.getfield 203, 3) := by decide +kernel
theorem zd_LassoFinderModel_here_19 : decode prog_14_method_5_code 19 = .ok (.iaload, 1) := by decide +kernel
theorem zd_LassoFinderModel_here_20 : decode prog_14_method_5_code 20 = .ok (.goto 4, 3) := by decide +kernel
theorem zd_LassoFinderModel_here_23 : decode prog_14_method_5_code 23 = .ok (.iconst 0, 1) := by decide +kernel
theorem zd_LassoFinderModel_here_24 : decode prog_14_method_5_code 24 = .ok (.ireturn, 1) := by decide +kernel
theorem zd_LassoFinderModel_jumps_0 : decode prog_14_method_23_code 0 = .ok (.iload_n 1, 1) := by decide +kernel
theorem zd_LassoFinderModel_jumps_1 : decode prog_14_method_23_code 1 = .ok (.istore_n 2, 1) := by decide +kernel
theorem zd_LassoFinderModel_jumps_2 : decode prog_14_method_23_code 2 = .ok (.iload_n 2, 1) := by decide +kernel
theorem zd_LassoFinderModel_jumps_3 : decode prog_14_method_23_code 3 = .ok (.aload_n 0, 1) := by decide +kernel
theorem zd_LassoFinderModel_jumps_4 : decode prog_14_method_23_code 4 = .ok (.getfield 251, 3) := by decide +kernel
theorem zd_LassoFinderModel_jumps_7 : decode prog_14_method_23_code 7 = .ok (.if_icmp .ge 69, 3) := by decide +kernel
theorem zd_LassoFinderModel_jumps_10 : decode prog_14_method_23_code 10 = .ok (.aload_n 0, 1) := by decide +kernel
theorem zd_LassoFinderModel_jumps_11 : decode prog_14_method_23_code 11 = .ok (.getfield 29, 3) := by decide +kernel
theorem zd_LassoFinderModel_jumps_14 : decode prog_14_method_23_code 14 = .ok (.iload_n 2, 1) := by decide +kernel
theorem zd_LassoFinderModel_jumps_15 : decode prog_14_method_23_code 15 = .ok (.iaload, 1) := by decide +kernel
theorem zd_LassoFinderModel_jumps_16 : decode prog_14_method_23_code 16 = .ok (.bipush 10, 2) := by decide +kernel
theorem zd_LassoFinderModel_jumps_18 : decode prog_14_method_23_code 18 = .ok (.if_icmp .eq 6, 3) := by decide +kernel
theorem zd_LassoFinderModel_jumps_21 : decode prog_14_method_23_code 21 = .ok (.goto 49, 3) := by decide +kernel
theorem zd_LassoFinderModel_jumps_24 : decode prog_14_method_23_code 24 = .ok (.aload_n 0, 1) := by decide +kernel
theorem zd_LassoFinderModel_jumps_25 : decode prog_14_method_23_code 25 = .ok (.getfield 81, 3) := by decide +kernel
theorem zd_LassoFinderModel_jumps_28 : decode prog_14_method_23_code 28 = .ok (.bipush 8, 2) := by decide +kernel
theorem zd_LassoFinderModel_jumps_30 : decode prog_14_method_23_code 30 = .ok (.aload_n 0, 1) := by decide +kernel
theorem zd_LassoFinderModel_jumps_31 : decode prog_14_method_23_code 31 = .ok (.getfield 254, 3) := by decide +kernel
theorem zd_LassoFinderModel_jumps_34 : decode prog_14_method_23_code 34 = .ok (.imul, 1) := by decide +kernel
theorem zd_LassoFinderModel_jumps_35 : decode prog_14_method_23_code 35 = .ok (.aload_n 0, 1) := by decide +kernel
theorem zd_LassoFinderModel_jumps_36 : decode prog_14_method_23_code 36 = .ok (.getfield 51, 3) := by decide +kernel
theorem zd_LassoFinderModel_jumps_39 : decode prog_14_method_23_code 39 = .ok (.iload_n 2, 1) := by decide +kernel
theorem zd_LassoFinderModel_jumps_40 : decode prog_14_method_23_code 40 = .ok (.iaload, 1) := by decide +kernel
theorem zd_LassoFinderModel_jumps_41 : decode prog_14_method_23_code 41 = .ok (.iadd, 1) := by decide +kernel
theorem zd_LassoFinderModel_jumps_42 : decode prog_14_method_23_code 42 = .ok (.iaload, 1) := by decide +kernel
theorem zd_LassoFinderModel_jumps_43 : decode prog_14_method_23_code 43 = .ok (.istore_n 3, 1) := by decide +kernel
theorem zd_LassoFinderModel_jumps_44 : decode prog_14_method_23_code 44 = .ok (.iload_n 3, 1) := by decide +kernel
theorem zd_LassoFinderModel_jumps_45 : decode prog_14_method_23_code 45 = .ok (.ifCond .lt 13, 3) := by decide +kernel
theorem zd_LassoFinderModel_jumps_48 : decode prog_14_method_23_code 48 = .ok (.aload_n 0, 1) := by decide +kernel
theorem zd_LassoFinderModel_jumps_49 : decode prog_14_method_23_code 49 = .ok (.iload_n 3, 1) := by decide +kernel
theorem zd_LassoFinderModel_jumps_50 : decode prog_14_method_23_code 50 = .ok (.invokevirtual 280, 3) := by decide +kernel
theorem zd_LassoFinderModel_jumps_53 : decode prog_14_method_23_code 53 = .ok (.bipush (-3), 2) := by decide +kernel
theorem zd_LassoFinderModel_jumps_55 : decode prog_14_method_23_code 55 = .ok (.if_icmp .ne 15, 3) := by decide +kernel
theorem zd_LassoFinderModel_jumps_58 : decode prog_14_method_23_code 58 = .ok (.aload_n 0, 1) := by decide +kernel
theorem zd_LassoFinderModel_jumps_59 : decode prog_14_method_23_code 59 = .ok (.aload_n 0, 1) := by decide +kernel
theorem zd_LassoFinderModel_jumps_60 : decode prog_14_method_23_code 60 = .ok (.getfield 63, 3) := by decide +kernel
theorem zd_LassoFinderModel_jumps_63 : decode prog_14_method_23_code 63 = .ok (.iload_n 2, 1) := by decide +kernel
theorem zd_LassoFinderModel_jumps_64 : decode prog_14_method_23_code 64 = .ok (.iaload, 1) := by decide +kernel
theorem zd_LassoFinderModel_jumps_65 : decode prog_14_method_23_code 65 = .ok (.putfield 206, 3) := by decide +kernel
theorem zd_LassoFinderModel_jumps_68 : decode prog_14_method_23_code 68 = .ok (.iconst 0, 1) := by decide +kernel
theorem zd_LassoFinderModel_jumps_69 : decode prog_14_method_23_code 69 = .ok (.ireturn, 1) := by decide +kernel
theorem zd_LassoFinderModel_jumps_70 : decode prog_14_method_23_code 70 = .ok (.iinc 2 1, 3) := by decide +kernel
theorem zd_LassoFinderModel_jumps_73 : decode prog_14_method_23_code 73 = .ok (.goto (-71), 3) := by decide +kernel
theorem zd_LassoFinderModel_jumps_76 : decode prog_14_method_23_code 76 = .ok (.iconst 1, 1) := by decide +kernel
theorem zd_LassoFinderModel_jumps_77 : decode prog_14_method_23_code 77 = .ok (.ireturn, 1) := by decide +kernel
theorem zd_LassoFinderModel_reach_0 : decode prog_14_method_38_code 0 = .ok (.iconst 0, 1) := by decide +kernel
theorem zd_LassoFinderModel_reach_1 : decode prog_14_method_38_code 1 = .ok (.istore_n 1, 1) := by decide +kernel
theorem zd_LassoFinderModel_reach_2 : decode prog_14_method_38_code 2 = .ok (.iload_n 1, 1) := by decide +kernel
theorem zd_LassoFinderModel_reach_3 : decode prog_14_method_38_code 3 = .ok (.aload_n 0, 1) := by decide +kernel
theorem zd_LassoFinderModel_reach_4 : decode prog_14_method_38_code 4 = .ok (.getfield 241, 3) := by decide +kernel
theorem zd_LassoFinderModel_reach_7 : decode prog_14_method_38_code 7 = .ok (.if_icmp .ge 21, 3) := by decide +kernel
theorem zd_LassoFinderModel_reach_10 : decode prog_14_method_38_code 10 = .ok (.aload_n 0, 1) := by decide +kernel
theorem zd_LassoFinderModel_reach_11 : decode prog_14_method_38_code 11 = .ok (.getfield 130, 3) := by decide +kernel
theorem zd_LassoFinderModel_reach_14 : decode prog_14_method_38_code 14 = .ok (.iload_n 1, 1) := by decide +kernel
theorem zd_LassoFinderModel_reach_15 : decode prog_14_method_38_code 15 = .ok (.aload_n 0, 1) := by decide +kernel
theorem zd_LassoFinderModel_reach_16 : decode prog_14_method_38_code 16 = .ok (.getfield 23, 3) := by decide +kernel
theorem zd_LassoFinderModel_reach_19 : decode prog_14_method_38_code 19 = .ok (.iload_n 1, 1) := by decide +kernel
theorem zd_LassoFinderModel_reach_20 : decode prog_14_method_38_code 20 = .ok (.iaload, 1) := by decide +kernel
theorem zd_LassoFinderModel_reach_21 : decode prog_14_method_38_code 21 = .ok (.iastore, 1) := by decide +kernel
theorem zd_LassoFinderModel_reach_22 : decode prog_14_method_38_code 22 = .ok (.iinc 1 1, 3) := by decide +kernel
theorem zd_LassoFinderModel_reach_25 : decode prog_14_method_38_code 25 = .ok (.goto (-23), 3) := by decide +kernel
theorem zd_LassoFinderModel_reach_28 : decode prog_14_method_38_code 28 = .ok (.iconst 0, 1) := by decide +kernel
theorem zd_LassoFinderModel_reach_29 : decode prog_14_method_38_code 29 = .ok (.istore_n 1, 1) := by decide +kernel
theorem zd_LassoFinderModel_reach_30 : decode prog_14_method_38_code 30 = .ok (.iload_n 1, 1) := by decide +kernel
theorem zd_LassoFinderModel_reach_31 : decode prog_14_method_38_code 31 = .ok (.aload_n 0, 1) := by decide +kernel
theorem zd_LassoFinderModel_reach_32 : decode prog_14_method_38_code 32 = .ok (.getfield 238, 3) := by decide +kernel
theorem zd_LassoFinderModel_reach_35 : decode prog_14_method_38_code 35 = .ok (.if_icmp .ge 16, 3) := by decide +kernel
theorem zd_LassoFinderModel_reach_38 : decode prog_14_method_38_code 38 = .ok (.aload_n 0, 1) := by decide +kernel
theorem zd_LassoFinderModel_reach_39 : decode prog_14_method_38_code 39 = .ok (.getfield 133, 3) := by decide +kernel
theorem zd_LassoFinderModel_reach_42 : decode prog_14_method_38_code 42 = .ok (.iload_n 1, 1) := by decide +kernel
theorem zd_LassoFinderModel_reach_43 : decode prog_14_method_38_code 43 = .ok (.iconst 0, 1) := by decide +kernel
theorem zd_LassoFinderModel_reach_44 : decode prog_14_method_38_code 44 = .ok (.iastore, 1) := by decide +kernel
theorem zd_LassoFinderModel_reach_45 : decode prog_14_method_38_code 45 = .ok (.iinc 1 1, 3) := by decide +kernel
theorem zd_LassoFinderModel_reach_48 : decode prog_14_method_38_code 48 = .ok (.goto (-18), 3) := by decide +kernel
theorem zd_LassoFinderModel_reach_51 : decode prog_14_method_38_code 51 = .ok (.iconst 0, 1) := by decide +kernel
theorem zd_LassoFinderModel_reach_52 : decode prog_14_method_38_code 52 = .ok (.istore_n 1, 1) := by decide +kernel
theorem zd_LassoFinderModel_reach_53 : decode prog_14_method_38_code 53 = .ok (.iload_n 1, 1) := by decide +kernel
theorem zd_LassoFinderModel_reach_54 : decode prog_14_method_38_code 54 = .ok (.aload_n 0, 1) := by decide +kernel
theorem zd_LassoFinderModel_reach_55 : decode prog_14_method_38_code 55 = .ok (.getfield 254, 3) := by decide +kernel
theorem zd_LassoFinderModel_reach_58 : decode prog_14_method_38_code 58 = .ok (.if_icmp .ge 30, 3) := by decide +kernel
theorem zd_LassoFinderModel_reach_61 : decode prog_14_method_38_code 61 = .ok (.aload_n 0, 1) := by decide +kernel
theorem zd_LassoFinderModel_reach_62 : decode prog_14_method_38_code 62 = .ok (.getfield 139, 3) := by decide +kernel
theorem zd_LassoFinderModel_reach_65 : decode prog_14_method_38_code 65 = .ok (.iload_n 1, 1) := by decide +kernel
theorem zd_LassoFinderModel_reach_66 : decode prog_14_method_38_code 66 = .ok (.aload_n 0, 1) := by decide +kernel
theorem zd_LassoFinderModel_reach_67 : decode prog_14_method_38_code 67 = .ok (.iload_n 1, 1) := by decide +kernel
theorem zd_LassoFinderModel_reach_68 : decode prog_14_method_38_code 68 = .ok (.aload_n 0, 1) := by decide +kernel
theorem zd_LassoFinderModel_reach_69 : decode prog_14_method_38_code 69 = .ok (.aload_n 0, 1) := by decide +kernel
theorem zd_LassoFinderModel_reach_70 : decode prog_14_method_38_code 70 = .ok (.getfield 78, 3) := by decide +kernel
theorem zd_LassoFinderModel_reach_73 : decode prog_14_method_38_code 73 = .ok (.iload_n 1, 1) := by decide +kernel
theorem zd_LassoFinderModel_reach_74 : decode prog_14_method_38_code 74 = .ok (.iaload, 1) := by decide +kernel
theorem zd_LassoFinderModel_reach_75 : decode prog_14_method_38_code 75 = .ok (.invokevirtual 280, 3) := by decide +kernel
theorem zd_LassoFinderModel_reach_78 : decode prog_14_method_38_code 78 = .ok (.invokevirtual 298, 3) := by decide +kernel
theorem zd_LassoFinderModel_reach_81 : decode prog_14_method_38_code 81 = .ok (.iastore, 1) := by decide +kernel
theorem zd_LassoFinderModel_reach_82 : decode prog_14_method_38_code 82 = .ok (.iinc 1 1, 3) := by decide +kernel
theorem zd_LassoFinderModel_reach_85 : decode prog_14_method_38_code 85 = .ok (.goto (-32), 3) := by decide +kernel
theorem zd_LassoFinderModel_reach_88 : decode prog_14_method_38_code 88 = .ok (.aload_n 0, 1) := by decide +kernel
theorem zd_LassoFinderModel_reach_89 : decode prog_14_method_38_code 89 = .ok (.iconst (-1), 1) := by decide +kernel
theorem zd_LassoFinderModel_reach_90 : decode prog_14_method_38_code 90 = .ok (.putfield 301, 3) := by decide +kernel
theorem zd_LassoFinderModel_reach_93 : decode prog_14_method_38_code 93 = .ok (.aload_n 0, 1) := by decide +kernel
theorem zd_LassoFinderModel_reach_94 : decode prog_14_method_38_code 94 = .ok (.getfield 106, 3) := by decide +kernel
theorem zd_LassoFinderModel_reach_97 : decode prog_14_method_38_code 97 = .ok (.iconst 0, 1) := by decide +kernel
theorem zd_LassoFinderModel_reach_98 : decode prog_14_method_38_code 98 = .ok (.aload_n 0, 1) := by decide +kernel
theorem zd_LassoFinderModel_reach_99 : decode prog_14_method_38_code 99 = .ok (.invokevirtual 341, 3) := by decide +kernel
theorem zd_LassoFinderModel_reach_102 : decode prog_14_method_38_code 102 = .ok (.lastore, 1) := by decide +kernel
theorem zd_LassoFinderModel_reach_103 : decode prog_14_method_38_code 103 = .ok (.aload_n 0, 1) := by decide +kernel
theorem zd_LassoFinderModel_reach_104 : decode prog_14_method_38_code 104 = .ok (.iconst 1, 1) := by decide +kernel
theorem zd_LassoFinderModel_reach_105 : decode prog_14_method_38_code 105 = .ok (.putfield 345, 3) := by decide +kernel
theorem zd_LassoFinderModel_reach_108 : decode prog_14_method_38_code 108 = .ok (.aload_n 0, 1) := by decide +kernel
theorem zd_LassoFinderModel_reach_109 : decode prog_14_method_38_code 109 = .ok (.iconst 0, 1) := by decide +kernel
theorem zd_LassoFinderModel_reach_110 : decode prog_14_method_38_code 110 = .ok (.putfield 327, 3) := by decide +kernel
theorem zd_LassoFinderModel_reach_113 : decode prog_14_method_38_code 113 = .ok (.aload_n 0, 1) := by decide +kernel
theorem zd_LassoFinderModel_reach_114 : decode prog_14_method_38_code 114 = .ok (.iconst 0, 1) := by decide +kernel
theorem zd_LassoFinderModel_reach_115 : decode prog_14_method_38_code 115 = .ok (.putfield 330, 3) := by decide +kernel
theorem zd_LassoFinderModel_reach_118 : decode prog_14_method_38_code 118 = .ok (.iconst 0, 1) := by decide +kernel
theorem zd_LassoFinderModel_reach_119 : decode prog_14_method_38_code 119 = .ok (.istore_n 1, 1) := by decide +kernel
theorem zd_LassoFinderModel_reach_120 : decode prog_14_method_38_code 120 = .ok (.iload_n 1, 1) := by decide +kernel
theorem zd_LassoFinderModel_reach_121 : decode prog_14_method_38_code 121 = .ok (.aload_n 0, 1) := by decide +kernel
theorem zd_LassoFinderModel_reach_122 : decode prog_14_method_38_code 122 = .ok (.getfield 345, 3) := by decide +kernel
theorem zd_LassoFinderModel_reach_125 : decode prog_14_method_38_code 125 = .ok (.if_icmp .ge 21, 3) := by decide +kernel
theorem zd_LassoFinderModel_reach_128 : decode prog_14_method_38_code 128 = .ok (.aload_n 0, 1) := by decide +kernel
theorem zd_LassoFinderModel_reach_129 : decode prog_14_method_38_code 129 = .ok (.getfield 330, 3) := by decide +kernel
theorem zd_LassoFinderModel_reach_132 : decode prog_14_method_38_code 132 = .ok (.ifCond .ne 14, 3) := by decide +kernel
theorem zd_LassoFinderModel_reach_135 : decode prog_14_method_38_code 135 = .ok (.aload_n 0, 1) := by decide +kernel
theorem zd_LassoFinderModel_reach_136 : decode prog_14_method_38_code 136 = .ok (.iload_n 1, 1) := by decide +kernel
theorem zd_LassoFinderModel_reach_137 : decode prog_14_method_38_code 137 = .ok (.invokevirtual 355, 3) := by decide +kernel
theorem zd_LassoFinderModel_reach_140 : decode prog_14_method_38_code 140 = .ok (.iinc 1 1, 3) := by decide +kernel
theorem zd_LassoFinderModel_reach_143 : decode prog_14_method_38_code 143 = .ok (.goto (-23), 3) := by decide +kernel
theorem zd_LassoFinderModel_reach_146 : decode prog_14_method_38_code 146 = .ok (.aload_n 0, 1) := by decide +kernel
theorem zd_LassoFinderModel_reach_147 : decode prog_14_method_38_code 147 = .ok (.getfield 109, 3) := by decide +kernel
theorem zd_LassoFinderModel_reach_150 : decode prog_14_method_38_code 150 = .ok (.aload_n 0, 1) := by decide +kernel
theorem zd_LassoFinderModel_reach_151 : decode prog_14_method_38_code 151 = .ok (.getfield 345, 3) := by decide +kernel
theorem zd_LassoFinderModel_reach_154 : decode prog_14_method_38_code 154 = .ok (.aload_n 0, 1) := by decide +kernel
theorem zd_LassoFinderModel_reach_155 : decode prog_14_method_38_code 155 = .ok (.getfield 327, 3) := by decide +kernel
theorem zd_LassoFinderModel_reach_158 : decode prog_14_method_38_code 158 = .ok (.iastore, 1) := by decide +kernel
theorem zd_LassoFinderModel_reach_159 : decode prog_14_method_38_code 159 = .ok (.iconst 0, 1) := by decide +kernel
theorem zd_LassoFinderModel_reach_160 : decode prog_14_method_38_code 160 = .ok (.istore_n 1, 1) := by decide +kernel
theorem zd_LassoFinderModel_reach_161 : decode prog_14_method_38_code 161 = .ok (.iconst 0, 1) := by decide +kernel
theorem zd_LassoFinderModel_reach_162 : decode prog_14_method_38_code 162 = .ok (.istore_n 2, 1) := by decide +kernel
theorem zd_LassoFinderModel_reach_163 : decode prog_14_method_38_code 163 = .ok (.iload_n 2, 1) := by decide +kernel
theorem zd_LassoFinderModel_reach_164 : decode prog_14_method_38_code 164 = .ok (.aload_n 0, 1) := by decide +kernel
theorem zd_LassoFinderModel_reach_165 : decode prog_14_method_38_code 165 = .ok (.getfield 345, 3) := by decide +kernel
theorem zd_LassoFinderModel_reach_168 : decode prog_14_method_38_code 168 = .ok (.if_icmp .ge 52, 3) := by decide +kernel
theorem zd_LassoFinderModel_reach_171 : decode prog_14_method_38_code 171 = .ok (.aload_n 0, 1) := by decide +kernel
theorem zd_LassoFinderModel_reach_172 : decode prog_14_method_38_code 172 = .ok (.getfield 124, 3) := by decide +kernel
theorem zd_LassoFinderModel_reach_175 : decode prog_14_method_38_code 175 = .ok (.iload_n 2, 1) := by decide +kernel
theorem zd_LassoFinderModel_reach_176 : decode prog_14_method_38_code 176 = .ok (.iload_n 1, 1) := by decide +kernel
theorem zd_LassoFinderModel_reach_177 : decode prog_14_method_38_code 177 = .ok (.iastore, 1) := by decide +kernel
theorem zd_LassoFinderModel_reach_178 : decode prog_14_method_38_code 178 = .ok (.iconst 0, 1) := by decide +kernel
theorem zd_LassoFinderModel_reach_179 : decode prog_14_method_38_code 179 = .ok (.istore_n 3, 1) := by decide +kernel
theorem zd_LassoFinderModel_reach_180 : decode prog_14_method_38_code 180 = .ok (.iload_n 3, 1) := by decide +kernel
theorem zd_LassoFinderModel_reach_181 : decode prog_14_method_38_code 181 = .ok (.aload_n 0, 1) := by decide +kernel
theorem zd_LassoFinderModel_reach_182 : decode prog_14_method_38_code 182 = .ok (.getfield 327, 3) := by decide +kernel
theorem zd_LassoFinderModel_reach_185 : decode prog_14_method_38_code 185 = .ok (.if_icmp .ge 29, 3) := by decide +kernel
theorem zd_LassoFinderModel_reach_188 : decode prog_14_method_38_code 188 = .ok (.aload_n 0, 1) := by decide +kernel
theorem zd_LassoFinderModel_reach_189 : decode prog_14_method_38_code 189 = .ok (.getfield 112, 3) := by decide +kernel
theorem zd_LassoFinderModel_reach_192 : decode prog_14_method_38_code 192 = .ok (.iload_n 3, 1) := by decide +kernel
theorem zd_LassoFinderModel_reach_193 : decode prog_14_method_38_code 193 = .ok (.iaload, 1) := by decide +kernel
theorem zd_LassoFinderModel_reach_194 : decode prog_14_method_38_code 194 = .ok (.iload_n 2, 1) := by decide +kernel
theorem zd_LassoFinderModel_reach_195 : decode prog_14_method_38_code 195 = .ok (.if_icmp .ne 13, 3) := by decide +kernel
theorem zd_LassoFinderModel_reach_198 : decode prog_14_method_38_code 198 = .ok (.aload_n 0, 1) := by decide +kernel
theorem zd_LassoFinderModel_reach_199 : decode prog_14_method_38_code 199 = .ok (.getfield 127, 3) := by decide +kernel
theorem zd_LassoFinderModel_reach_202 : decode prog_14_method_38_code 202 = .ok (.iload_n 1, 1) := by decide +kernel
theorem zd_LassoFinderModel_reach_203 : decode prog_14_method_38_code 203 = .ok (.iload_n 3, 1) := by decide +kernel
theorem zd_LassoFinderModel_reach_204 : decode prog_14_method_38_code 204 = .ok (.iastore, 1) := by decide +kernel
theorem zd_LassoFinderModel_reach_205 : decode prog_14_method_38_code 205 = .ok (.iinc 1 1, 3) := by decide +kernel
theorem zd_LassoFinderModel_reach_208 : decode prog_14_method_38_code 208 = .ok (.iinc 3 1, 3) := by decide +kernel
theorem zd_LassoFinderModel_reach_211 : decode prog_14_method_38_code 211 = .ok (.goto (-31), 3) := by decide +kernel
theorem zd_LassoFinderModel_reach_214 : decode prog_14_method_38_code 214 = .ok (.iinc 2 1, 3) := by decide +kernel
theorem zd_LassoFinderModel_reach_217 : decode prog_14_method_38_code 217 = .ok (.goto (-54), 3) := by decide +kernel
theorem zd_LassoFinderModel_reach_220 : decode prog_14_method_38_code 220 = .ok (.aload_n 0, 1) := by decide +kernel
theorem zd_LassoFinderModel_reach_221 : decode prog_14_method_38_code 221 = .ok (.getfield 124, 3) := by decide +kernel
theorem zd_LassoFinderModel_reach_224 : decode prog_14_method_38_code 224 = .ok (.aload_n 0, 1) := by decide +kernel
theorem zd_LassoFinderModel_reach_225 : decode prog_14_method_38_code 225 = .ok (.getfield 345, 3) := by decide +kernel
theorem zd_LassoFinderModel_reach_228 : decode prog_14_method_38_code 228 = .ok (.iload_n 1, 1) := by decide +kernel
theorem zd_LassoFinderModel_reach_229 : decode prog_14_method_38_code 229 = .ok (.iastore, 1) := by decide +kernel
theorem zd_LassoFinderModel_reach_230 : decode prog_14_method_38_code 230 = .ok (.aload_n 0, 1) := by decide +kernel
theorem zd_LassoFinderModel_reach_231 : decode prog_14_method_38_code 231 = .ok (.getfield 330, 3) := by decide +kernel
theorem zd_LassoFinderModel_reach_234 : decode prog_14_method_38_code 234 = .ok (.ifCond .ne 7, 3) := by decide +kernel
theorem zd_LassoFinderModel_reach_237 : decode prog_14_method_38_code 237 = .ok (.iconst 1, 1) := by decide +kernel
theorem zd_LassoFinderModel_reach_238 : decode prog_14_method_38_code 238 = .ok (.goto 4, 3) := by decide +kernel
theorem zd_LassoFinderModel_reach_241 : decode prog_14_method_38_code 241 = .ok (.iconst 0, 1) := by decide +kernel
theorem zd_LassoFinderModel_reach_242 : decode prog_14_method_38_code 242 = .ok (.ireturn, 1) := by decide +kernel
def wc_LassoFinderModel_reach_242 (Post : Int32 → (Nat → Int32) → (Nat → Int64) → (Nat → Nat → Int32) → (Nat → Nat → Int64) → Prop) (y0 : Int32) (I : Nat → Int32) (J : Nat → Int64) (B : Nat → Nat → Int32) (D : Nat → Nat → Int64) : Prop :=
  (y0 = 0 ∨ y0 = 1) ∧ Post y0 I J B D
def wc_LassoFinderModel_reach_208 (K163 : Int32 → Int32 → (Nat → Int32) → (Nat → Int64) → (Nat → Nat → Int32) → (Nat → Nat → Int64) → Prop) (K180 : Int32 → Int32 → Int32 → (Nat → Int32) → (Nat → Int64) → (Nat → Nat → Int32) → (Nat → Nat → Int64) → Prop) (Post : Int32 → (Nat → Int32) → (Nat → Int64) → (Nat → Nat → Int32) → (Nat → Nat → Int64) → Prop) (x1 : Int32) (x2 : Int32) (x3 : Int32) (I : Nat → Int32) (J : Nat → Int64) (B : Nat → Nat → Int32) (D : Nat → Nat → Int64) : Prop :=
  ∀ z1 : Int32, z1 = (x3 + 1) → K180 x1 x2 z1 I J B D
def wb_LassoFinderModel_reach_180 (K180 : Int32 → Int32 → Int32 → (Nat → Int32) → (Nat → Int64) → (Nat → Nat → Int32) → (Nat → Nat → Int64) → Prop) (K163 : Int32 → Int32 → (Nat → Int32) → (Nat → Int64) → (Nat → Nat → Int32) → (Nat → Nat → Int64) → Prop) (Post : Int32 → (Nat → Int32) → (Nat → Int64) → (Nat → Nat → Int32) → (Nat → Nat → Int64) → Prop) (x1 : Int32) (x2 : Int32) (x3 : Int32) (I : Nat → Int32) (J : Nat → Int64) (B : Nat → Nat → Int32) (D : Nat → Nat → Int64) : Prop :=
  (((I 15) ≤ x3 → ∀ z3 : Int32, z3 = (x2 + 1) → K163 x1 z3 I J B D) ∧ (¬ (I 15) ≤ x3 → vp_in x3 401 ∧ ∀ z4 : Int32, z4 = ((B 30) x3.toNatClampNeg) → ((¬ z4 = x2 → wc_LassoFinderModel_reach_208  K163 K180 Post x1 x2 x3 I J B D) ∧ (z4 = x2 → vp_in x1 401 ∧ ∀ z6 : Int32, z6 = (x1 + 1) → wc_LassoFinderModel_reach_208  K163 K180 Post z6 x2 x3 I J (va_up B 35 (upd (B 35) x1.toNatClampNeg x3)) D))))
def wl_LassoFinderModel_reach_180 (K163 : Int32 → Int32 → (Nat → Int32) → (Nat → Int64) → (Nat → Nat → Int32) → (Nat → Nat → Int64) → Prop) (Post : Int32 → (Nat → Int32) → (Nat → Int64) → (Nat → Nat → Int32) → (Nat → Nat → Int64) → Prop) (n : Nat) : Int32 → Int32 → Int32 → (Nat → Int32) → (Nat → Int64) → (Nat → Nat → Int32) → (Nat → Nat → Int64) → Prop := Nat.rec (fun _ _ _ _ _ _ _ => False) (fun _ r => wb_LassoFinderModel_reach_180  r K163 Post) n
def wb_LassoFinderModel_reach_163 (K163 : Int32 → Int32 → (Nat → Int32) → (Nat → Int64) → (Nat → Nat → Int32) → (Nat → Nat → Int64) → Prop) (Post : Int32 → (Nat → Int32) → (Nat → Int64) → (Nat → Nat → Int32) → (Nat → Nat → Int64) → Prop) (x1 : Int32) (x2 : Int32) (I : Nat → Int32) (J : Nat → Int64) (B : Nat → Nat → Int32) (D : Nat → Nat → Int64) : Prop :=
  (((I 14) ≤ x2 → vp_in (I 14) 98 ∧ ((¬ (I 16) = 0 → wc_LassoFinderModel_reach_242  Post 0 I J (va_up B 34 (upd (B 34) (I 14).toNatClampNeg x1)) D) ∧ ((I 16) = 0 → wc_LassoFinderModel_reach_242  Post 1 I J (va_up B 34 (upd (B 34) (I 14).toNatClampNeg x1)) D))) ∧ (¬ (I 14) ≤ x2 → vp_in x2 98 ∧ ∃ n : Nat, wl_LassoFinderModel_reach_180  K163 Post n x1 x2 0 I J (va_up B 34 (upd (B 34) x2.toNatClampNeg x1)) D))
def wl_LassoFinderModel_reach_163 (Post : Int32 → (Nat → Int32) → (Nat → Int64) → (Nat → Nat → Int32) → (Nat → Nat → Int64) → Prop) (n : Nat) : Int32 → Int32 → (Nat → Int32) → (Nat → Int64) → (Nat → Nat → Int32) → (Nat → Nat → Int64) → Prop := Nat.rec (fun _ _ _ _ _ _ => False) (fun _ r => wb_LassoFinderModel_reach_163  r Post) n
def wc_LassoFinderModel_reach_146 (Post : Int32 → (Nat → Int32) → (Nat → Int64) → (Nat → Nat → Int32) → (Nat → Nat → Int64) → Prop)  (I : Nat → Int32) (J : Nat → Int64) (B : Nat → Nat → Int32) (D : Nat → Nat → Int64) : Prop :=
  vp_in (I 14) 98 ∧ ∃ n : Nat, wl_LassoFinderModel_reach_163  Post n 0 0 I J (va_up B 29 (upd (B 29) (I 14).toNatClampNeg (I 15))) D
def wb_LassoFinderModel_reach_120 (K120 : Int32 → (Nat → Int32) → (Nat → Int64) → (Nat → Nat → Int32) → (Nat → Nat → Int64) → Prop) (Post : Int32 → (Nat → Int32) → (Nat → Int64) → (Nat → Nat → Int32) → (Nat → Nat → Int64) → Prop) (x1 : Int32) (I : Nat → Int32) (J : Nat → Int64) (B : Nat → Nat → Int32) (D : Nat → Nat → Int64) : Prop :=
  (((I 14) ≤ x1 → wc_LassoFinderModel_reach_146  Post I J B D) ∧ (¬ (I 14) ≤ x1 → ((¬ (I 16) = 0 → wc_LassoFinderModel_reach_146  Post I J B D) ∧ ((I 16) = 0 → wp_LassoFinderModel_expand I J B D x1 (fun I11 J11 B11 D11 => ∀ z12 : Int32, z12 = (x1 + 1) → K120 z12 I11 J11 B11 D11)))))
def wl_LassoFinderModel_reach_120 (Post : Int32 → (Nat → Int32) → (Nat → Int64) → (Nat → Nat → Int32) → (Nat → Nat → Int64) → Prop) (n : Nat) : Int32 → (Nat → Int32) → (Nat → Int64) → (Nat → Nat → Int32) → (Nat → Nat → Int64) → Prop := Nat.rec (fun _ _ _ _ _ => False) (fun _ r => wb_LassoFinderModel_reach_120  r Post) n
def wb_LassoFinderModel_reach_53 (K53 : Int32 → (Nat → Int32) → (Nat → Int64) → (Nat → Nat → Int32) → (Nat → Nat → Int64) → Prop) (Post : Int32 → (Nat → Int32) → (Nat → Int64) → (Nat → Nat → Int32) → (Nat → Nat → Int64) → Prop) (x1 : Int32) (I : Nat → Int32) (J : Nat → Int64) (B : Nat → Nat → Int32) (D : Nat → Nat → Int64) : Prop :=
  (((I 10) ≤ x1 → wp_LassoFinderModel_packed (upd I 17 (-1)) J B D  (fun r14 I14 J14 B14 D14 => vp_in 0 97 ∧ ∃ n : Nat, wl_LassoFinderModel_reach_120  Post n 0 (upd (upd (upd I14 14 1) 15 0) 16 0) J14 B14 (va_up D14 1 (vp_updL (D14 1) (0 : Int32).toNatClampNeg r14)))) ∧ (¬ (I 10) ≤ x1 → vp_in x1 5 ∧ ∀ z15 : Int32, z15 = ((B 21) x1.toNatClampNeg) → wp_LassoFinderModel_instead I J B D z15 (fun r16 I16 J16 B16 D16 => wp_LassoFinderModel_pointOf I16 J16 B16 D16 x1 r16 (fun r17 I17 J17 B17 D17 => vp_in x1 4 ∧ ∀ z18 : Int32, z18 = (x1 + 1) → K53 z18 I17 J17 (va_up B17 39 (upd (B17 39) x1.toNatClampNeg r17)) D17))))
def wl_LassoFinderModel_reach_53 (Post : Int32 → (Nat → Int32) → (Nat → Int64) → (Nat → Nat → Int32) → (Nat → Nat → Int64) → Prop) (n : Nat) : Int32 → (Nat → Int32) → (Nat → Int64) → (Nat → Nat → Int32) → (Nat → Nat → Int64) → Prop := Nat.rec (fun _ _ _ _ _ => False) (fun _ r => wb_LassoFinderModel_reach_53  r Post) n
def wb_LassoFinderModel_reach_30 (K30 : Int32 → (Nat → Int32) → (Nat → Int64) → (Nat → Nat → Int32) → (Nat → Nat → Int64) → Prop) (Post : Int32 → (Nat → Int32) → (Nat → Int64) → (Nat → Nat → Int32) → (Nat → Nat → Int64) → Prop) (x1 : Int32) (I : Nat → Int32) (J : Nat → Int64) (B : Nat → Nat → Int32) (D : Nat → Nat → Int64) : Prop :=
  (((I 7) ≤ x1 → ∃ n : Nat, wl_LassoFinderModel_reach_53  Post n 0 I J B D) ∧ (¬ (I 7) ≤ x1 → vp_in x1 2 ∧ ∀ z20 : Int32, z20 = (x1 + 1) → K30 z20 I J (va_up B 37 (upd (B 37) x1.toNatClampNeg 0)) D))
def wl_LassoFinderModel_reach_30 (Post : Int32 → (Nat → Int32) → (Nat → Int64) → (Nat → Nat → Int32) → (Nat → Nat → Int64) → Prop) (n : Nat) : Int32 → (Nat → Int32) → (Nat → Int64) → (Nat → Nat → Int32) → (Nat → Nat → Int64) → Prop := Nat.rec (fun _ _ _ _ _ => False) (fun _ r => wb_LassoFinderModel_reach_30  r Post) n
def wb_LassoFinderModel_reach_2 (K2 : Int32 → (Nat → Int32) → (Nat → Int64) → (Nat → Nat → Int32) → (Nat → Nat → Int64) → Prop) (Post : Int32 → (Nat → Int32) → (Nat → Int64) → (Nat → Nat → Int32) → (Nat → Nat → Int64) → Prop) (x1 : Int32) (I : Nat → Int32) (J : Nat → Int64) (B : Nat → Nat → Int32) (D : Nat → Nat → Int64) : Prop :=
  (((I 6) ≤ x1 → ∃ n : Nat, wl_LassoFinderModel_reach_30  Post n 0 I J B D) ∧ (¬ (I 6) ≤ x1 → vp_in x1 6 ∧ ∀ z22 : Int32, z22 = ((B 3) x1.toNatClampNeg) → vp_in x1 6 ∧ ∀ z23 : Int32, z23 = (x1 + 1) → K2 z23 I J (va_up B 36 (upd (B 36) x1.toNatClampNeg z22)) D))
def wl_LassoFinderModel_reach_2 (Post : Int32 → (Nat → Int32) → (Nat → Int64) → (Nat → Nat → Int32) → (Nat → Nat → Int64) → Prop) (n : Nat) : Int32 → (Nat → Int32) → (Nat → Int64) → (Nat → Nat → Int32) → (Nat → Nat → Int64) → Prop := Nat.rec (fun _ _ _ _ _ => False) (fun _ r => wb_LassoFinderModel_reach_2  r Post) n
def wp_LassoFinderModel_reach (I : Nat → Int32) (J : Nat → Int64) (B : Nat → Nat → Int32) (D : Nat → Nat → Int64) (Post : Int32 → (Nat → Int32) → (Nat → Int64) → (Nat → Nat → Int32) → (Nat → Nat → Int64) → Prop) : Prop :=
  ∃ n : Nat, wl_LassoFinderModel_reach_2  Post n 0 I J B D
set_option maxHeartbeats 8000000 in
set_option maxRecDepth 100000 in
theorem wJ_LassoFinderModel_reach_242 {p : Program} {l : Launch} {e : Env} {s : State} {m : MethodId} {below : List Frame} {meth : Method} {c : Code} {A : Nat → Prop} (G : va_G) (K : Nat → ClassId) (ad : Nat → Nat) (Post : Int32 → (Nat → Int32) → (Nat → Int64) → (Nat → Nat → Int32) → (Nat → Nat → Int64) → Prop) (C : zCx p s m ([.ref (ad 0)] : List Value).toArray meth c A G K prog_14_method_38_code (some .boolean) 4 "LassoFinderModel") : ∀ (y0 : Int32) (I : Nat → Int32) (J : Nat → Int64) (B : Nat → Nat → Int32) (D : Nat → Nat → Int64) (ls : Array Slot) (H : Heap) (locs : List Loc), wc_LassoFinderModel_reach_242  Post y0 I J B D → lv_has ls 4 [] → zW G A s.heap (wM ad K I J B D) H locs → W p l e { frames := 5, cells := 0, slots := 0, locals := 123 } s m ([.ref (ad 0)] : List Value).toArray below meth c H locs 0 0 (MQ below (va_Qi (fun (r : Int32) (u : zS) => Post r u.1 u.2.1 u.2.2.1 u.2.2.2) (fun u t => zPost G K A (wM ad K u.1 u.2.1 u.2.2.1 u.2.2.2) t) A) ([.ref (ad 0)] : List Value).toArray s 0 0 A) (F0 m 242 ls [.int y0]) := by
  obtain ⟨hx, hb, hr, hml, hts, hown, hlocks, hA, hK⟩ := id C
  intro y0 I J B D ls H locs hok hl hw
  unfold wc_LassoFinderModel_reach_242 at hok
  have hbo := hok.1
  have hok := hok.2
  exact z_iret (u := (I, J, B, D)) hx hb hr hlocks (z_nar hbo) hw [0, 1, 2, 3, 4, 5, 6, 7, 8, 9, 10, 11, 12, 13, 14, 15, 16, 17, 18, 19, 20, 21, 22, 23, 24, 25, 26, 27, 28, 29, 30, 31, 32, 33, 34, 35, 36, 37, 38, 39, 40, 41, 42, 43, 44, 45, 46, 47, 48, 49, 50, 51, 52, 53, 54, 55, 56, 57] rfl (by decide) hok (Nat.le_of_ble_eq_true rfl) (Nat.le_of_ble_eq_true rfl) zd_LassoFinderModel_reach_242
set_option maxHeartbeats 8000000 in
set_option maxRecDepth 100000 in
theorem wJ_LassoFinderModel_reach_208 {p : Program} {l : Launch} {e : Env} {s : State} {m : MethodId} {below : List Frame} {meth : Method} {c : Code} {A : Nat → Prop} (G : va_G) (K : Nat → ClassId) (ad : Nat → Nat) (Post : Int32 → (Nat → Int32) → (Nat → Int64) → (Nat → Nat → Int32) → (Nat → Nat → Int64) → Prop) (C : zCx p s m ([.ref (ad 0)] : List Value).toArray meth c A G K prog_14_method_38_code (some .boolean) 4 "LassoFinderModel") (K163 : Int32 → Int32 → (Nat → Int32) → (Nat → Int64) → (Nat → Nat → Int32) → (Nat → Nat → Int64) → Prop) (kh163 : ∀ (x1 : Int32) (x2 : Int32) (I : Nat → Int32) (J : Nat → Int64) (B : Nat → Nat → Int32) (D : Nat → Nat → Int64) (ls : Array Slot) (H : Heap) (locs : List Loc), K163 x1 x2 I J B D → lv_has ls 4 [(0, .ref (ad 0)), (1, .int x1), (2, .int x2)] → zW G A s.heap (wM ad K I J B D) H locs → W p l e { frames := 5, cells := 0, slots := 0, locals := 123 } s m ([.ref (ad 0)] : List Value).toArray below meth c H locs 0 0 (MQ below (va_Qi (fun (r : Int32) (u : zS) => Post r u.1 u.2.1 u.2.2.1 u.2.2.2) (fun u t => zPost G K A (wM ad K u.1 u.2.1 u.2.2.1 u.2.2.2) t) A) ([.ref (ad 0)] : List Value).toArray s 0 0 A) (F0 m 163 ls [])) (K180 : Int32 → Int32 → Int32 → (Nat → Int32) → (Nat → Int64) → (Nat → Nat → Int32) → (Nat → Nat → Int64) → Prop) (kh180 : ∀ (x1 : Int32) (x2 : Int32) (x3 : Int32) (I : Nat → Int32) (J : Nat → Int64) (B : Nat → Nat → Int32) (D : Nat → Nat → Int64) (ls : Array Slot) (H : Heap) (locs : List Loc), K180 x1 x2 x3 I J B D → lv_has ls 4 [(0, .ref (ad 0)), (1, .int x1), (2, .int x2), (3, .int x3)] → zW G A s.heap (wM ad K I J B D) H locs → W p l e { frames := 5, cells := 0, slots := 0, locals := 123 } s m ([.ref (ad 0)] : List Value).toArray below meth c H locs 0 0 (MQ below (va_Qi (fun (r : Int32) (u : zS) => Post r u.1 u.2.1 u.2.2.1 u.2.2.2) (fun u t => zPost G K A (wM ad K u.1 u.2.1 u.2.2.1 u.2.2.2) t) A) ([.ref (ad 0)] : List Value).toArray s 0 0 A) (F0 m 180 ls [])) : ∀ (x1 : Int32) (x2 : Int32) (x3 : Int32) (I : Nat → Int32) (J : Nat → Int64) (B : Nat → Nat → Int32) (D : Nat → Nat → Int64) (ls : Array Slot) (H : Heap) (locs : List Loc), wc_LassoFinderModel_reach_208  K163 K180 Post x1 x2 x3 I J B D → lv_has ls 4 [(0, .ref (ad 0)), (1, .int x1), (2, .int x2), (3, .int x3)] → zW G A s.heap (wM ad K I J B D) H locs → W p l e { frames := 5, cells := 0, slots := 0, locals := 123 } s m ([.ref (ad 0)] : List Value).toArray below meth c H locs 0 0 (MQ below (va_Qi (fun (r : Int32) (u : zS) => Post r u.1 u.2.1 u.2.2.1 u.2.2.2) (fun u t => zPost G K A (wM ad K u.1 u.2.1 u.2.2.1 u.2.2.2) t) A) ([.ref (ad 0)] : List Value).toArray s 0 0 A) (F0 m 208 ls []) := by
  obtain ⟨hx, hb, hr, hml, hts, hown, hlocks, hA, hK⟩ := id C
  intro x1 x2 x3 I J B D ls H locs hok hl hw
  unfold wc_LassoFinderModel_reach_208 at hok
  obtain ⟨z1, ez1⟩ : ∃ z : Int32, z = (x3 + 1) := ⟨_, rfl⟩
  have hok := hok z1 ez1
  refine lv_iinc (v := z1) hx hb zd_LassoFinderModel_reach_208 hl (k := 3) rfl ez1.symm (by decide) rfl (fun ls hl => ?_)
  have hl : lv_has ls 4 [(3, .int z1), (0, .ref (ad 0)), (1, .int x1), (2, .int x2)] := hl
  refine lv_goto (tgt := 180) hx hb zd_LassoFinderModel_reach_211 (by decide) ?_
  exact kh180 x1 x2 z1 I J B D ls H locs hok (lv_sub hl [1, 2, 3, 0] rfl) hw
set_option maxHeartbeats 8000000 in
set_option maxRecDepth 100000 in
theorem wB_LassoFinderModel_reach_180 {p : Program} {l : Launch} {e : Env} {s : State} {m : MethodId} {below : List Frame} {meth : Method} {c : Code} {A : Nat → Prop} (G : va_G) (K : Nat → ClassId) (ad : Nat → Nat) (Post : Int32 → (Nat → Int32) → (Nat → Int64) → (Nat → Nat → Int32) → (Nat → Nat → Int64) → Prop) (C : zCx p s m ([.ref (ad 0)] : List Value).toArray meth c A G K prog_14_method_38_code (some .boolean) 4 "LassoFinderModel") (K163 : Int32 → Int32 → (Nat → Int32) → (Nat → Int64) → (Nat → Nat → Int32) → (Nat → Nat → Int64) → Prop) (kh163 : ∀ (x1 : Int32) (x2 : Int32) (I : Nat → Int32) (J : Nat → Int64) (B : Nat → Nat → Int32) (D : Nat → Nat → Int64) (ls : Array Slot) (H : Heap) (locs : List Loc), K163 x1 x2 I J B D → lv_has ls 4 [(0, .ref (ad 0)), (1, .int x1), (2, .int x2)] → zW G A s.heap (wM ad K I J B D) H locs → W p l e { frames := 5, cells := 0, slots := 0, locals := 123 } s m ([.ref (ad 0)] : List Value).toArray below meth c H locs 0 0 (MQ below (va_Qi (fun (r : Int32) (u : zS) => Post r u.1 u.2.1 u.2.2.1 u.2.2.2) (fun u t => zPost G K A (wM ad K u.1 u.2.1 u.2.2.1 u.2.2.2) t) A) ([.ref (ad 0)] : List Value).toArray s 0 0 A) (F0 m 163 ls [])) (K180 : Int32 → Int32 → Int32 → (Nat → Int32) → (Nat → Int64) → (Nat → Nat → Int32) → (Nat → Nat → Int64) → Prop) (kh180 : ∀ (x1 : Int32) (x2 : Int32) (x3 : Int32) (I : Nat → Int32) (J : Nat → Int64) (B : Nat → Nat → Int32) (D : Nat → Nat → Int64) (ls : Array Slot) (H : Heap) (locs : List Loc), K180 x1 x2 x3 I J B D → lv_has ls 4 [(0, .ref (ad 0)), (1, .int x1), (2, .int x2), (3, .int x3)] → zW G A s.heap (wM ad K I J B D) H locs → W p l e { frames := 5, cells := 0, slots := 0, locals := 123 } s m ([.ref (ad 0)] : List Value).toArray below meth c H locs 0 0 (MQ below (va_Qi (fun (r : Int32) (u : zS) => Post r u.1 u.2.1 u.2.2.1 u.2.2.2) (fun u t => zPost G K A (wM ad K u.1 u.2.1 u.2.2.1 u.2.2.2) t) A) ([.ref (ad 0)] : List Value).toArray s 0 0 A) (F0 m 180 ls [])) : ∀ (x1 : Int32) (x2 : Int32) (x3 : Int32) (I : Nat → Int32) (J : Nat → Int64) (B : Nat → Nat → Int32) (D : Nat → Nat → Int64) (ls : Array Slot) (H : Heap) (locs : List Loc), wb_LassoFinderModel_reach_180  K180 K163 Post x1 x2 x3 I J B D → lv_has ls 4 [(0, .ref (ad 0)), (1, .int x1), (2, .int x2), (3, .int x3)] → zW G A s.heap (wM ad K I J B D) H locs → W p l e { frames := 5, cells := 0, slots := 0, locals := 123 } s m ([.ref (ad 0)] : List Value).toArray below meth c H locs 0 0 (MQ below (va_Qi (fun (r : Int32) (u : zS) => Post r u.1 u.2.1 u.2.2.1 u.2.2.2) (fun u t => zPost G K A (wM ad K u.1 u.2.1 u.2.2.1 u.2.2.2) t) A) ([.ref (ad 0)] : List Value).toArray s 0 0 A) (F0 m 180 ls []) := by
  obtain ⟨hx, hb, hr, hml, hts, hown, hlocks, hA, hK⟩ := id C
  intro x1 x2 x3 I J B D ls H locs hok hl hw
  unfold wb_LassoFinderModel_reach_180 at hok
  refine lv_iload_n hx hb zd_LassoFinderModel_reach_180 rfl (lv_at hl 3 rfl) ?_
  refine lv_aload_n hx hb zd_LassoFinderModel_reach_181 rfl (lv_at hl 0 rfl) ?_
  refine z_get (v := .int (I 15)) hx hb hts hown hK hw zZ12 0 rfl 45 (by decide) zm_314 rfl zd_LassoFinderModel_reach_182 ?_
  refine lv_icmp_ge (tgt := 214) hx hb zd_LassoFinderModel_reach_185 (by decide) (fun hc2 => ?_) (fun hc2 => ?_)
  · have hok := hok.1 hc2
    obtain ⟨z3, ez3⟩ : ∃ z : Int32, z = (x2 + 1) := ⟨_, rfl⟩
    have hok := hok z3 ez3
    refine lv_iinc (v := z3) hx hb zd_LassoFinderModel_reach_214 hl (k := 2) rfl ez3.symm (by decide) rfl (fun ls hl => ?_)
    have hl : lv_has ls 4 [(2, .int z3), (0, .ref (ad 0)), (1, .int x1), (3, .int x3)] := hl
    refine lv_goto (tgt := 163) hx hb zd_LassoFinderModel_reach_217 (by decide) ?_
    exact kh163 x1 z3 I J B D ls H locs hok (lv_sub hl [1, 2, 0] rfl) hw
  · have hok := hok.2 hc2
    refine lv_aload_n hx hb zd_LassoFinderModel_reach_188 rfl (lv_at hl 0 rfl) ?_
    refine z_get (v := .ref (ad 33)) hx hb hts hown hK hw zZ12 0 rfl 49 (by decide) zm_267 rfl zd_LassoFinderModel_reach_189 ?_
    refine lv_iload_n hx hb zd_LassoFinderModel_reach_192 rfl (lv_at hl 3 rfl) ?_
    refine va_iald (f := (B 30)) hx hb hK hw.1 33 0 rfl rfl hok.1 zd_LassoFinderModel_reach_193 ?_
    have hok := hok.2
    refine lv_topi (fun z4 ez4 => ?_)
    have hok := hok z4 ez4
    refine lv_iload_n hx hb zd_LassoFinderModel_reach_194 rfl (lv_at hl 2 rfl) ?_
    refine lv_icmp_ne (tgt := 208) hx hb zd_LassoFinderModel_reach_195 (by decide) (fun hc5 => ?_) (fun hc5 => ?_)
    · have hok := hok.1 hc5
      exact wJ_LassoFinderModel_reach_208 G K ad  Post C K163 kh163 K180 kh180 x1 x2 x3 I J B D ls H locs hok (lv_sub hl [0, 1, 2, 3] rfl) hw
    · have hok := hok.2 hc5
      refine lv_aload_n hx hb zd_LassoFinderModel_reach_198 rfl (lv_at hl 0 rfl) ?_
      refine z_get (v := .ref (ad 38)) hx hb hts hown hK hw zZ12 0 rfl 54 (by decide) zm_272 rfl zd_LassoFinderModel_reach_199 ?_
      refine lv_iload_n hx hb zd_LassoFinderModel_reach_202 rfl (lv_at hl 1 rfl) ?_
      refine lv_iload_n hx hb zd_LassoFinderModel_reach_203 rfl (lv_at hl 3 rfl) ?_
      refine va_iast (f := (B 35)) hx hb hK hw.1 hw.2.1 hw.2.2 38 0 rfl rfl hok.1 zd_LassoFinderModel_reach_204 (fun H locs w91 w92 w93 => ?_)
      have hok := hok.2
      have hw : zW G A s.heap _ H locs := ⟨w91, w92, w93⟩
      have hw : zW G A s.heap (wM ad K I J (va_up B 35 (upd (B 35) x1.toNatClampNeg x3)) D) H locs := hw
      obtain ⟨z6, ez6⟩ : ∃ z : Int32, z = (x1 + 1) := ⟨_, rfl⟩
      have hok := hok z6 ez6
      refine lv_iinc (v := z6) hx hb zd_LassoFinderModel_reach_205 hl (k := 1) rfl ez6.symm (by decide) rfl (fun ls hl => ?_)
      have hl : lv_has ls 4 [(1, .int z6), (0, .ref (ad 0)), (2, .int x2), (3, .int x3)] := hl
      exact wJ_LassoFinderModel_reach_208 G K ad  Post C K163 kh163 K180 kh180 z6 x2 x3 I J (va_up B 35 (upd (B 35) x1.toNatClampNeg x3)) D ls H locs hok (lv_sub hl [1, 0, 2, 3] rfl) hw
theorem wL_LassoFinderModel_reach_180 {p : Program} {l : Launch} {e : Env} {s : State} {m : MethodId} {below : List Frame} {meth : Method} {c : Code} {A : Nat → Prop} (G : va_G) (K : Nat → ClassId) (ad : Nat → Nat) (Post : Int32 → (Nat → Int32) → (Nat → Int64) → (Nat → Nat → Int32) → (Nat → Nat → Int64) → Prop) (C : zCx p s m ([.ref (ad 0)] : List Value).toArray meth c A G K prog_14_method_38_code (some .boolean) 4 "LassoFinderModel") (K163 : Int32 → Int32 → (Nat → Int32) → (Nat → Int64) → (Nat → Nat → Int32) → (Nat → Nat → Int64) → Prop) (kh163 : ∀ (x1 : Int32) (x2 : Int32) (I : Nat → Int32) (J : Nat → Int64) (B : Nat → Nat → Int32) (D : Nat → Nat → Int64) (ls : Array Slot) (H : Heap) (locs : List Loc), K163 x1 x2 I J B D → lv_has ls 4 [(0, .ref (ad 0)), (1, .int x1), (2, .int x2)] → zW G A s.heap (wM ad K I J B D) H locs → W p l e { frames := 5, cells := 0, slots := 0, locals := 123 } s m ([.ref (ad 0)] : List Value).toArray below meth c H locs 0 0 (MQ below (va_Qi (fun (r : Int32) (u : zS) => Post r u.1 u.2.1 u.2.2.1 u.2.2.2) (fun u t => zPost G K A (wM ad K u.1 u.2.1 u.2.2.1 u.2.2.2) t) A) ([.ref (ad 0)] : List Value).toArray s 0 0 A) (F0 m 163 ls [])) : ∀ (n : Nat) (x1 : Int32) (x2 : Int32) (x3 : Int32) (I : Nat → Int32) (J : Nat → Int64) (B : Nat → Nat → Int32) (D : Nat → Nat → Int64) (ls : Array Slot) (H : Heap) (locs : List Loc), wl_LassoFinderModel_reach_180  K163 Post n x1 x2 x3 I J B D → lv_has ls 4 [(0, .ref (ad 0)), (1, .int x1), (2, .int x2), (3, .int x3)] → zW G A s.heap (wM ad K I J B D) H locs → W p l e { frames := 5, cells := 0, slots := 0, locals := 123 } s m ([.ref (ad 0)] : List Value).toArray below meth c H locs 0 0 (MQ below (va_Qi (fun (r : Int32) (u : zS) => Post r u.1 u.2.1 u.2.2.1 u.2.2.2) (fun u t => zPost G K A (wM ad K u.1 u.2.1 u.2.2.1 u.2.2.2) t) A) ([.ref (ad 0)] : List Value).toArray s 0 0 A) (F0 m 180 ls []) := by
  intro n
  induction n with
  | zero => intro x1 x2 x3 I J B D ls H locs hok; exact hok.elim
  | succ n ih => exact wB_LassoFinderModel_reach_180 G K ad  Post C K163 kh163 (wl_LassoFinderModel_reach_180  K163 Post n) ih
set_option maxHeartbeats 8000000 in
set_option maxRecDepth 100000 in
theorem wB_LassoFinderModel_reach_163 {p : Program} {l : Launch} {e : Env} {s : State} {m : MethodId} {below : List Frame} {meth : Method} {c : Code} {A : Nat → Prop} (G : va_G) (K : Nat → ClassId) (ad : Nat → Nat) (Post : Int32 → (Nat → Int32) → (Nat → Int64) → (Nat → Nat → Int32) → (Nat → Nat → Int64) → Prop) (C : zCx p s m ([.ref (ad 0)] : List Value).toArray meth c A G K prog_14_method_38_code (some .boolean) 4 "LassoFinderModel") (K163 : Int32 → Int32 → (Nat → Int32) → (Nat → Int64) → (Nat → Nat → Int32) → (Nat → Nat → Int64) → Prop) (kh163 : ∀ (x1 : Int32) (x2 : Int32) (I : Nat → Int32) (J : Nat → Int64) (B : Nat → Nat → Int32) (D : Nat → Nat → Int64) (ls : Array Slot) (H : Heap) (locs : List Loc), K163 x1 x2 I J B D → lv_has ls 4 [(0, .ref (ad 0)), (1, .int x1), (2, .int x2)] → zW G A s.heap (wM ad K I J B D) H locs → W p l e { frames := 5, cells := 0, slots := 0, locals := 123 } s m ([.ref (ad 0)] : List Value).toArray below meth c H locs 0 0 (MQ below (va_Qi (fun (r : Int32) (u : zS) => Post r u.1 u.2.1 u.2.2.1 u.2.2.2) (fun u t => zPost G K A (wM ad K u.1 u.2.1 u.2.2.1 u.2.2.2) t) A) ([.ref (ad 0)] : List Value).toArray s 0 0 A) (F0 m 163 ls [])) : ∀ (x1 : Int32) (x2 : Int32) (I : Nat → Int32) (J : Nat → Int64) (B : Nat → Nat → Int32) (D : Nat → Nat → Int64) (ls : Array Slot) (H : Heap) (locs : List Loc), wb_LassoFinderModel_reach_163  K163 Post x1 x2 I J B D → lv_has ls 4 [(0, .ref (ad 0)), (1, .int x1), (2, .int x2)] → zW G A s.heap (wM ad K I J B D) H locs → W p l e { frames := 5, cells := 0, slots := 0, locals := 123 } s m ([.ref (ad 0)] : List Value).toArray below meth c H locs 0 0 (MQ below (va_Qi (fun (r : Int32) (u : zS) => Post r u.1 u.2.1 u.2.2.1 u.2.2.2) (fun u t => zPost G K A (wM ad K u.1 u.2.1 u.2.2.1 u.2.2.2) t) A) ([.ref (ad 0)] : List Value).toArray s 0 0 A) (F0 m 163 ls []) := by
  obtain ⟨hx, hb, hr, hml, hts, hown, hlocks, hA, hK⟩ := id C
  intro x1 x2 I J B D ls H locs hok hl hw
  unfold wb_LassoFinderModel_reach_163 at hok
  refine lv_iload_n hx hb zd_LassoFinderModel_reach_163 rfl (lv_at hl 2 rfl) ?_
  refine lv_aload_n hx hb zd_LassoFinderModel_reach_164 rfl (lv_at hl 0 rfl) ?_
  refine z_get (v := .int (I 14)) hx hb hts hown hK hw zZ12 0 rfl 44 (by decide) zm_300 rfl zd_LassoFinderModel_reach_165 ?_
  refine lv_icmp_ge (tgt := 220) hx hb zd_LassoFinderModel_reach_168 (by decide) (fun hc7 => ?_) (fun hc7 => ?_)
  · have hok := hok.1 hc7
    refine lv_aload_n hx hb zd_LassoFinderModel_reach_220 rfl (lv_at hl 0 rfl) ?_
    refine z_get (v := .ref (ad 37)) hx hb hts hown hK hw zZ12 0 rfl 53 (by decide) zm_271 rfl zd_LassoFinderModel_reach_221 ?_
    refine lv_aload_n hx hb zd_LassoFinderModel_reach_224 rfl (lv_at hl 0 rfl) ?_
    refine z_get (v := .int (I 14)) hx hb hts hown hK hw zZ12 0 rfl 44 (by decide) zm_300 rfl zd_LassoFinderModel_reach_225 ?_
    refine lv_iload_n hx hb zd_LassoFinderModel_reach_228 rfl (lv_at hl 1 rfl) ?_
    refine va_iast (f := (B 34)) hx hb hK hw.1 hw.2.1 hw.2.2 37 0 rfl rfl hok.1 zd_LassoFinderModel_reach_229 (fun H locs w91 w92 w93 => ?_)
    have hok := hok.2
    have hw : zW G A s.heap _ H locs := ⟨w91, w92, w93⟩
    have hw : zW G A s.heap (wM ad K I J (va_up B 34 (upd (B 34) (I 14).toNatClampNeg x1)) D) H locs := hw
    refine lv_aload_n hx hb zd_LassoFinderModel_reach_230 rfl (lv_at hl 0 rfl) ?_
    refine z_get (v := .int (I 16)) hx hb hts hown hK hw zZ12 0 rfl 46 (by decide) zm_312 rfl zd_LassoFinderModel_reach_231 ?_
    refine lv_if_ne (tgt := 241) hx hb zd_LassoFinderModel_reach_234 (by decide) (fun hc8 => ?_) (fun hc8 => ?_)
    · have hok := hok.1 hc8
      refine lv_iconst (v := 0) hx hb zd_LassoFinderModel_reach_241 (by decide) ?_
      exact wJ_LassoFinderModel_reach_242 G K ad  Post C 0 I J (va_up B 34 (upd (B 34) (I 14).toNatClampNeg x1)) D ls H locs hok (lv_sub hl [] rfl) hw
    · have hok := hok.2 hc8
      refine lv_iconst (v := 1) hx hb zd_LassoFinderModel_reach_237 (by decide) ?_
      refine lv_goto (tgt := 242) hx hb zd_LassoFinderModel_reach_238 (by decide) ?_
      exact wJ_LassoFinderModel_reach_242 G K ad  Post C 1 I J (va_up B 34 (upd (B 34) (I 14).toNatClampNeg x1)) D ls H locs hok (lv_sub hl [] rfl) hw
  · have hok := hok.2 hc7
    refine lv_aload_n hx hb zd_LassoFinderModel_reach_171 rfl (lv_at hl 0 rfl) ?_
    refine z_get (v := .ref (ad 37)) hx hb hts hown hK hw zZ12 0 rfl 53 (by decide) zm_271 rfl zd_LassoFinderModel_reach_172 ?_
    refine lv_iload_n hx hb zd_LassoFinderModel_reach_175 rfl (lv_at hl 2 rfl) ?_
    refine lv_iload_n hx hb zd_LassoFinderModel_reach_176 rfl (lv_at hl 1 rfl) ?_
    refine va_iast (f := (B 34)) hx hb hK hw.1 hw.2.1 hw.2.2 37 0 rfl rfl hok.1 zd_LassoFinderModel_reach_177 (fun H locs w91 w92 w93 => ?_)
    have hok := hok.2
    have hw : zW G A s.heap _ H locs := ⟨w91, w92, w93⟩
    have hw : zW G A s.heap (wM ad K I J (va_up B 34 (upd (B 34) x2.toNatClampNeg x1)) D) H locs := hw
    refine lv_iconst (v := 0) hx hb zd_LassoFinderModel_reach_178 (by decide) ?_
    refine lv_istore_n hx hb zd_LassoFinderModel_reach_179 rfl hl (by decide) rfl (fun ls hl => ?_)
    have hl : lv_has ls 4 [(3, .int 0), (0, .ref (ad 0)), (1, .int x1), (2, .int x2)] := hl
    obtain ⟨n9, hok⟩ := hok
    exact wL_LassoFinderModel_reach_180 G K ad  Post C K163 kh163 n9 x1 x2 0 I J (va_up B 34 (upd (B 34) x2.toNatClampNeg x1)) D ls H locs hok (lv_sub hl [1, 2, 3, 0] rfl) hw
theorem wL_LassoFinderModel_reach_163 {p : Program} {l : Launch} {e : Env} {s : State} {m : MethodId} {below : List Frame} {meth : Method} {c : Code} {A : Nat → Prop} (G : va_G) (K : Nat → ClassId) (ad : Nat → Nat) (Post : Int32 → (Nat → Int32) → (Nat → Int64) → (Nat → Nat → Int32) → (Nat → Nat → Int64) → Prop) (C : zCx p s m ([.ref (ad 0)] : List Value).toArray meth c A G K prog_14_method_38_code (some .boolean) 4 "LassoFinderModel") : ∀ (n : Nat) (x1 : Int32) (x2 : Int32) (I : Nat → Int32) (J : Nat → Int64) (B : Nat → Nat → Int32) (D : Nat → Nat → Int64) (ls : Array Slot) (H : Heap) (locs : List Loc), wl_LassoFinderModel_reach_163  Post n x1 x2 I J B D → lv_has ls 4 [(0, .ref (ad 0)), (1, .int x1), (2, .int x2)] → zW G A s.heap (wM ad K I J B D) H locs → W p l e { frames := 5, cells := 0, slots := 0, locals := 123 } s m ([.ref (ad 0)] : List Value).toArray below meth c H locs 0 0 (MQ below (va_Qi (fun (r : Int32) (u : zS) => Post r u.1 u.2.1 u.2.2.1 u.2.2.2) (fun u t => zPost G K A (wM ad K u.1 u.2.1 u.2.2.1 u.2.2.2) t) A) ([.ref (ad 0)] : List Value).toArray s 0 0 A) (F0 m 163 ls []) := by
  intro n
  induction n with
  | zero => intro x1 x2 I J B D ls H locs hok; exact hok.elim
  | succ n ih => exact wB_LassoFinderModel_reach_163 G K ad  Post C (wl_LassoFinderModel_reach_163  Post n) ih
set_option maxHeartbeats 8000000 in
set_option maxRecDepth 100000 in
theorem wJ_LassoFinderModel_reach_146 {p : Program} {l : Launch} {e : Env} {s : State} {m : MethodId} {below : List Frame} {meth : Method} {c : Code} {A : Nat → Prop} (G : va_G) (K : Nat → ClassId) (ad : Nat → Nat) (Post : Int32 → (Nat → Int32) → (Nat → Int64) → (Nat → Nat → Int32) → (Nat → Nat → Int64) → Prop) (C : zCx p s m ([.ref (ad 0)] : List Value).toArray meth c A G K prog_14_method_38_code (some .boolean) 4 "LassoFinderModel") : ∀  (I : Nat → Int32) (J : Nat → Int64) (B : Nat → Nat → Int32) (D : Nat → Nat → Int64) (ls : Array Slot) (H : Heap) (locs : List Loc), wc_LassoFinderModel_reach_146  Post  I J B D → lv_has ls 4 [(0, .ref (ad 0))] → zW G A s.heap (wM ad K I J B D) H locs → W p l e { frames := 5, cells := 0, slots := 0, locals := 123 } s m ([.ref (ad 0)] : List Value).toArray below meth c H locs 0 0 (MQ below (va_Qi (fun (r : Int32) (u : zS) => Post r u.1 u.2.1 u.2.2.1 u.2.2.2) (fun u t => zPost G K A (wM ad K u.1 u.2.1 u.2.2.1 u.2.2.2) t) A) ([.ref (ad 0)] : List Value).toArray s 0 0 A) (F0 m 146 ls []) := by
  obtain ⟨hx, hb, hr, hml, hts, hown, hlocks, hA, hK⟩ := id C
  intro  I J B D ls H locs hok hl hw
  unfold wc_LassoFinderModel_reach_146 at hok
  refine lv_aload_n hx hb zd_LassoFinderModel_reach_146 rfl (lv_at hl 0 rfl) ?_
  refine z_get (v := .ref (ad 32)) hx hb hts hown hK hw zZ12 0 rfl 48 (by decide) zm_266 rfl zd_LassoFinderModel_reach_147 ?_
  refine lv_aload_n hx hb zd_LassoFinderModel_reach_150 rfl (lv_at hl 0 rfl) ?_
  refine z_get (v := .int (I 14)) hx hb hts hown hK hw zZ12 0 rfl 44 (by decide) zm_300 rfl zd_LassoFinderModel_reach_151 ?_
  refine lv_aload_n hx hb zd_LassoFinderModel_reach_154 rfl (lv_at hl 0 rfl) ?_
  refine z_get (v := .int (I 15)) hx hb hts hown hK hw zZ12 0 rfl 45 (by decide) zm_314 rfl zd_LassoFinderModel_reach_155 ?_
  refine va_iast (f := (B 29)) hx hb hK hw.1 hw.2.1 hw.2.2 32 0 rfl rfl hok.1 zd_LassoFinderModel_reach_158 (fun H locs w91 w92 w93 => ?_)
  have hok := hok.2
  have hw : zW G A s.heap _ H locs := ⟨w91, w92, w93⟩
  have hw : zW G A s.heap (wM ad K I J (va_up B 29 (upd (B 29) (I 14).toNatClampNeg (I 15))) D) H locs := hw
  refine lv_iconst (v := 0) hx hb zd_LassoFinderModel_reach_159 (by decide) ?_
  refine lv_istore_n hx hb zd_LassoFinderModel_reach_160 rfl hl (by decide) rfl (fun ls hl => ?_)
  have hl : lv_has ls 4 [(1, .int 0), (0, .ref (ad 0))] := hl
  refine lv_iconst (v := 0) hx hb zd_LassoFinderModel_reach_161 (by decide) ?_
  refine lv_istore_n hx hb zd_LassoFinderModel_reach_162 rfl hl (by decide) rfl (fun ls hl => ?_)
  have hl : lv_has ls 4 [(2, .int 0), (1, .int 0), (0, .ref (ad 0))] := hl
  obtain ⟨n9, hok⟩ := hok
  exact wL_LassoFinderModel_reach_163 G K ad  Post C n9 0 0 I J (va_up B 29 (upd (B 29) (I 14).toNatClampNeg (I 15))) D ls H locs hok (lv_sub hl [2, 1, 0] rfl) hw
set_option maxHeartbeats 8000000 in
set_option maxRecDepth 100000 in
theorem wB_LassoFinderModel_reach_120 {p : Program} {l : Launch} {e : Env} {s : State} {m : MethodId} {below : List Frame} {meth : Method} {c : Code} {A : Nat → Prop} (G : va_G) (K : Nat → ClassId) (ad : Nat → Nat) (Post : Int32 → (Nat → Int32) → (Nat → Int64) → (Nat → Nat → Int32) → (Nat → Nat → Int64) → Prop) (C : zCx p s m ([.ref (ad 0)] : List Value).toArray meth c A G K prog_14_method_38_code (some .boolean) 4 "LassoFinderModel") (K120 : Int32 → (Nat → Int32) → (Nat → Int64) → (Nat → Nat → Int32) → (Nat → Nat → Int64) → Prop) (kh120 : ∀ (x1 : Int32) (I : Nat → Int32) (J : Nat → Int64) (B : Nat → Nat → Int32) (D : Nat → Nat → Int64) (ls : Array Slot) (H : Heap) (locs : List Loc), K120 x1 I J B D → lv_has ls 4 [(0, .ref (ad 0)), (1, .int x1)] → zW G A s.heap (wM ad K I J B D) H locs → W p l e { frames := 5, cells := 0, slots := 0, locals := 123 } s m ([.ref (ad 0)] : List Value).toArray below meth c H locs 0 0 (MQ below (va_Qi (fun (r : Int32) (u : zS) => Post r u.1 u.2.1 u.2.2.1 u.2.2.2) (fun u t => zPost G K A (wM ad K u.1 u.2.1 u.2.2.1 u.2.2.2) t) A) ([.ref (ad 0)] : List Value).toArray s 0 0 A) (F0 m 120 ls [])) : ∀ (x1 : Int32) (I : Nat → Int32) (J : Nat → Int64) (B : Nat → Nat → Int32) (D : Nat → Nat → Int64) (ls : Array Slot) (H : Heap) (locs : List Loc), wb_LassoFinderModel_reach_120  K120 Post x1 I J B D → lv_has ls 4 [(0, .ref (ad 0)), (1, .int x1)] → zW G A s.heap (wM ad K I J B D) H locs → W p l e { frames := 5, cells := 0, slots := 0, locals := 123 } s m ([.ref (ad 0)] : List Value).toArray below meth c H locs 0 0 (MQ below (va_Qi (fun (r : Int32) (u : zS) => Post r u.1 u.2.1 u.2.2.1 u.2.2.2) (fun u t => zPost G K A (wM ad K u.1 u.2.1 u.2.2.1 u.2.2.2) t) A) ([.ref (ad 0)] : List Value).toArray s 0 0 A) (F0 m 120 ls []) := by
  obtain ⟨hx, hb, hr, hml, hts, hown, hlocks, hA, hK⟩ := id C
  intro x1 I J B D ls H locs hok hl hw
  unfold wb_LassoFinderModel_reach_120 at hok
  refine lv_iload_n hx hb zd_LassoFinderModel_reach_120 rfl (lv_at hl 1 rfl) ?_
  refine lv_aload_n hx hb zd_LassoFinderModel_reach_121 rfl (lv_at hl 0 rfl) ?_
  refine z_get (v := .int (I 14)) hx hb hts hown hK hw zZ12 0 rfl 44 (by decide) zm_300 rfl zd_LassoFinderModel_reach_122 ?_
  refine lv_icmp_ge (tgt := 146) hx hb zd_LassoFinderModel_reach_125 (by decide) (fun hc9 => ?_) (fun hc9 => ?_)
  · have hok := hok.1 hc9
    exact wJ_LassoFinderModel_reach_146 G K ad  Post C I J B D ls H locs hok (lv_sub hl [0] rfl) hw
  · have hok := hok.2 hc9
    refine lv_aload_n hx hb zd_LassoFinderModel_reach_128 rfl (lv_at hl 0 rfl) ?_
    refine z_get (v := .int (I 16)) hx hb hts hown hK hw zZ12 0 rfl 46 (by decide) zm_312 rfl zd_LassoFinderModel_reach_129 ?_
    refine lv_if_ne (tgt := 146) hx hb zd_LassoFinderModel_reach_132 (by decide) (fun hc10 => ?_) (fun hc10 => ?_)
    · have hok := hok.1 hc10
      exact wJ_LassoFinderModel_reach_146 G K ad  Post C I J B D ls H locs hok (lv_sub hl [0] rfl) hw
    · have hok := hok.2 hc10
      refine lv_aload_n hx hb zd_LassoFinderModel_reach_135 rfl (lv_at hl 0 rfl) ?_
      refine lv_iload_n hx hb zd_LassoFinderModel_reach_136 rfl (lv_at hl 1 rfl) ?_
      refine z_callv (w1 := fun (u : zS) => wM ad K u.1 u.2.1 u.2.2.1 u.2.2.2) (wr := []) (z_runV (q0 := 0) (wc := (wM ad K I J B D)) (As := [.int x1]) (rest := []) ⟨hx, hb, hml, hown, hts⟩ (w_LassoFinderModel_expand l G K ad I J B D x1 _ H.size hok) zf_LassoFinderModel_expand zm_313 ⟨Nat.le_of_ble_eq_true rfl, Nat.le_of_ble_eq_true rfl⟩ hK hw [0, 1, 2, 3, 4, 5, 6, 7, 8, 9, 10, 11, 12, 13, 14, 15, 16, 17, 18, 19, 20, 21, 22, 23, 24, 25, 26, 27, 28, 29, 30, 31, 32, 33, 34, 35, 36, 37, 38, 39, 40, 41, 42, 43, 44, 45, 46, 47, 48, 49, 50, 51, 52, 53, 54, 55, 56, 57] rfl (by decide) rfl rfl rfl hl.1 rfl (Nat.le_of_ble_eq_true rfl) zd_LassoFinderModel_reach_137 ⟨Nat.le_of_ble_eq_true rfl, Nat.le_of_ble_eq_true rfl⟩) hw hA [0, 1, 2, 3, 4, 5, 6, 7, 8, 9, 10, 11, 12, 13, 14, 15, 16, 17, 18, 19, 20, 21, 22, 23, 24, 25, 26, 27, 28, 29, 30, 31, 32, 33, 34, 35, 36, 37, 38, 39, 40, 41, 42, 43, 44, 45, 46, 47, 48, 49, 50, 51, 52, 53, 54, 55, 56, 57] [] rfl rfl (by decide) (by decide) (fun u H locs hok hw => ?_)
      obtain ⟨I11, J11, B11, D11⟩ := u
      dsimp only at hok
      have hw : zW G A s.heap (wM ad K I11 J11 B11 D11) H locs := hw
      obtain ⟨z12, ez12⟩ : ∃ z : Int32, z = (x1 + 1) := ⟨_, rfl⟩
      have hok := hok z12 ez12
      refine lv_iinc (v := z12) hx hb zd_LassoFinderModel_reach_140 hl (k := 1) rfl ez12.symm (by decide) rfl (fun ls hl => ?_)
      have hl : lv_has ls 4 [(1, .int z12), (0, .ref (ad 0))] := hl
      refine lv_goto (tgt := 120) hx hb zd_LassoFinderModel_reach_143 (by decide) ?_
      exact kh120 z12 I11 J11 B11 D11 ls H locs hok (lv_sub hl [1, 0] rfl) hw
theorem wL_LassoFinderModel_reach_120 {p : Program} {l : Launch} {e : Env} {s : State} {m : MethodId} {below : List Frame} {meth : Method} {c : Code} {A : Nat → Prop} (G : va_G) (K : Nat → ClassId) (ad : Nat → Nat) (Post : Int32 → (Nat → Int32) → (Nat → Int64) → (Nat → Nat → Int32) → (Nat → Nat → Int64) → Prop) (C : zCx p s m ([.ref (ad 0)] : List Value).toArray meth c A G K prog_14_method_38_code (some .boolean) 4 "LassoFinderModel") : ∀ (n : Nat) (x1 : Int32) (I : Nat → Int32) (J : Nat → Int64) (B : Nat → Nat → Int32) (D : Nat → Nat → Int64) (ls : Array Slot) (H : Heap) (locs : List Loc), wl_LassoFinderModel_reach_120  Post n x1 I J B D → lv_has ls 4 [(0, .ref (ad 0)), (1, .int x1)] → zW G A s.heap (wM ad K I J B D) H locs → W p l e { frames := 5, cells := 0, slots := 0, locals := 123 } s m ([.ref (ad 0)] : List Value).toArray below meth c H locs 0 0 (MQ below (va_Qi (fun (r : Int32) (u : zS) => Post r u.1 u.2.1 u.2.2.1 u.2.2.2) (fun u t => zPost G K A (wM ad K u.1 u.2.1 u.2.2.1 u.2.2.2) t) A) ([.ref (ad 0)] : List Value).toArray s 0 0 A) (F0 m 120 ls []) := by
  intro n
  induction n with
  | zero => intro x1 I J B D ls H locs hok; exact hok.elim
  | succ n ih => exact wB_LassoFinderModel_reach_120 G K ad  Post C (wl_LassoFinderModel_reach_120  Post n) ih
set_option maxHeartbeats 8000000 in
set_option maxRecDepth 100000 in
theorem wB_LassoFinderModel_reach_53 {p : Program} {l : Launch} {e : Env} {s : State} {m : MethodId} {below : List Frame} {meth : Method} {c : Code} {A : Nat → Prop} (G : va_G) (K : Nat → ClassId) (ad : Nat → Nat) (Post : Int32 → (Nat → Int32) → (Nat → Int64) → (Nat → Nat → Int32) → (Nat → Nat → Int64) → Prop) (C : zCx p s m ([.ref (ad 0)] : List Value).toArray meth c A G K prog_14_method_38_code (some .boolean) 4 "LassoFinderModel") (K53 : Int32 → (Nat → Int32) → (Nat → Int64) → (Nat → Nat → Int32) → (Nat → Nat → Int64) → Prop) (kh53 : ∀ (x1 : Int32) (I : Nat → Int32) (J : Nat → Int64) (B : Nat → Nat → Int32) (D : Nat → Nat → Int64) (ls : Array Slot) (H : Heap) (locs : List Loc), K53 x1 I J B D → lv_has ls 4 [(0, .ref (ad 0)), (1, .int x1)] → zW G A s.heap (wM ad K I J B D) H locs → W p l e { frames := 5, cells := 0, slots := 0, locals := 123 } s m ([.ref (ad 0)] : List Value).toArray below meth c H locs 0 0 (MQ below (va_Qi (fun (r : Int32) (u : zS) => Post r u.1 u.2.1 u.2.2.1 u.2.2.2) (fun u t => zPost G K A (wM ad K u.1 u.2.1 u.2.2.1 u.2.2.2) t) A) ([.ref (ad 0)] : List Value).toArray s 0 0 A) (F0 m 53 ls [])) : ∀ (x1 : Int32) (I : Nat → Int32) (J : Nat → Int64) (B : Nat → Nat → Int32) (D : Nat → Nat → Int64) (ls : Array Slot) (H : Heap) (locs : List Loc), wb_LassoFinderModel_reach_53  K53 Post x1 I J B D → lv_has ls 4 [(0, .ref (ad 0)), (1, .int x1)] → zW G A s.heap (wM ad K I J B D) H locs → W p l e { frames := 5, cells := 0, slots := 0, locals := 123 } s m ([.ref (ad 0)] : List Value).toArray below meth c H locs 0 0 (MQ below (va_Qi (fun (r : Int32) (u : zS) => Post r u.1 u.2.1 u.2.2.1 u.2.2.2) (fun u t => zPost G K A (wM ad K u.1 u.2.1 u.2.2.1 u.2.2.2) t) A) ([.ref (ad 0)] : List Value).toArray s 0 0 A) (F0 m 53 ls []) := by
  obtain ⟨hx, hb, hr, hml, hts, hown, hlocks, hA, hK⟩ := id C
  intro x1 I J B D ls H locs hok hl hw
  unfold wb_LassoFinderModel_reach_53 at hok
  refine lv_iload_n hx hb zd_LassoFinderModel_reach_53 rfl (lv_at hl 1 rfl) ?_
  refine lv_aload_n hx hb zd_LassoFinderModel_reach_54 rfl (lv_at hl 0 rfl) ?_
  refine z_get (v := .int (I 10)) hx hb hts hown hK hw zZ12 0 rfl 30 (by decide) zm_310 rfl zd_LassoFinderModel_reach_55 ?_
  refine lv_icmp_ge (tgt := 88) hx hb zd_LassoFinderModel_reach_58 (by decide) (fun hc13 => ?_) (fun hc13 => ?_)
  · have hok := hok.1 hc13
    refine lv_aload_n hx hb zd_LassoFinderModel_reach_88 rfl (lv_at hl 0 rfl) ?_
    refine lv_iconst (v := (-1)) hx hb zd_LassoFinderModel_reach_89 (by decide) ?_
    refine z_put (v := .int (-1)) hx hb hts hown hK hw zZ12 0 rfl 59 (by decide) zm_320 rfl rfl rfl (Nat.le_of_ble_eq_true rfl) zd_LassoFinderModel_reach_90 (fun H locs hw => ?_)
    have hw : zW G A s.heap (wM ad K (upd I 17 (-1)) J B D) H locs := hw
    refine lv_aload_n hx hb zd_LassoFinderModel_reach_93 rfl (lv_at hl 0 rfl) ?_
    refine z_get (v := .ref (ad 31)) hx hb hts hown hK hw zZ12 0 rfl 47 (by decide) zm_265 rfl zd_LassoFinderModel_reach_94 ?_
    refine lv_iconst (v := 0) hx hb zd_LassoFinderModel_reach_97 (by decide) ?_
    refine lv_aload_n hx hb zd_LassoFinderModel_reach_98 rfl (lv_at hl 0 rfl) ?_
    refine z_calll (w1 := fun (u : zS) => wM ad K u.1 u.2.1 u.2.2.1 u.2.2.2) (wr := []) (z_runV (q0 := 0) (wc := (wM ad K (upd I 17 (-1)) J B D)) (As := []) (rest := [.int 0, .ref (ad 31)]) ⟨hx, hb, hml, hown, hts⟩ (w_LassoFinderModel_packed l G K ad (upd I 17 (-1)) J B D  _ H.size hok) zf_LassoFinderModel_packed zm_311 ⟨Nat.le_of_ble_eq_true rfl, Nat.le_of_ble_eq_true rfl⟩ hK hw [0, 1, 2, 3, 4, 5, 6, 7, 8, 9, 10, 11, 12, 13, 14, 15, 16, 17, 18, 19, 20, 21, 22, 23, 24, 25, 26, 27, 28, 29, 30, 31, 32, 33, 34, 35, 36, 37, 38, 39, 40, 41, 42, 43, 44, 45, 46, 47, 48, 49, 50, 51, 52, 53, 54, 55, 56, 57] rfl (by decide) rfl rfl rfl hl.1 rfl (Nat.le_of_ble_eq_true rfl) zd_LassoFinderModel_reach_99 ⟨Nat.le_of_ble_eq_true rfl, Nat.le_of_ble_eq_true rfl⟩) hw hA [0, 1, 2, 3, 4, 5, 6, 7, 8, 9, 10, 11, 12, 13, 14, 15, 16, 17, 18, 19, 20, 21, 22, 23, 24, 25, 26, 27, 28, 29, 30, 31, 32, 33, 34, 35, 36, 37, 38, 39, 40, 41, 42, 43, 44, 45, 46, 47, 48, 49, 50, 51, 52, 53, 54, 55, 56, 57] [] rfl rfl (by decide) (by decide) (fun r14 u H locs hok hw => ?_)
    obtain ⟨I14, J14, B14, D14⟩ := u
    dsimp only at hok
    have hw : zW G A s.heap (wM ad K I14 J14 B14 D14) H locs := hw
    refine va_last (f := (D14 1)) hx hb hK hw.1 hw.2.1 hw.2.2 31 1 rfl rfl hok.1 zd_LassoFinderModel_reach_102 (fun H locs w91 w92 w93 => ?_)
    have hok := hok.2
    have hw : zW G A s.heap _ H locs := ⟨w91, w92, w93⟩
    have hw : zW G A s.heap (wM ad K I14 J14 B14 (va_up D14 1 (vp_updL (D14 1) (0 : Int32).toNatClampNeg r14))) H locs := hw
    refine lv_aload_n hx hb zd_LassoFinderModel_reach_103 rfl (lv_at hl 0 rfl) ?_
    refine lv_iconst (v := 1) hx hb zd_LassoFinderModel_reach_104 (by decide) ?_
    refine z_put (v := .int 1) hx hb hts hown hK hw zZ12 0 rfl 44 (by decide) zm_300 rfl rfl rfl (Nat.le_of_ble_eq_true rfl) zd_LassoFinderModel_reach_105 (fun H locs hw => ?_)
    have hw : zW G A s.heap (wM ad K (upd I14 14 1) J14 B14 (va_up D14 1 (vp_updL (D14 1) (0 : Int32).toNatClampNeg r14))) H locs := hw
    refine lv_aload_n hx hb zd_LassoFinderModel_reach_108 rfl (lv_at hl 0 rfl) ?_
    refine lv_iconst (v := 0) hx hb zd_LassoFinderModel_reach_109 (by decide) ?_
    refine z_put (v := .int 0) hx hb hts hown hK hw zZ12 0 rfl 45 (by decide) zm_314 rfl rfl rfl (Nat.le_of_ble_eq_true rfl) zd_LassoFinderModel_reach_110 (fun H locs hw => ?_)
    have hw : zW G A s.heap (wM ad K (upd (upd I14 14 1) 15 0) J14 B14 (va_up D14 1 (vp_updL (D14 1) (0 : Int32).toNatClampNeg r14))) H locs := hw
    refine lv_aload_n hx hb zd_LassoFinderModel_reach_113 rfl (lv_at hl 0 rfl) ?_
    refine lv_iconst (v := 0) hx hb zd_LassoFinderModel_reach_114 (by decide) ?_
    refine z_put (v := .int 0) hx hb hts hown hK hw zZ12 0 rfl 46 (by decide) zm_312 rfl rfl rfl (Nat.le_of_ble_eq_true rfl) zd_LassoFinderModel_reach_115 (fun H locs hw => ?_)
    have hw : zW G A s.heap (wM ad K (upd (upd (upd I14 14 1) 15 0) 16 0) J14 B14 (va_up D14 1 (vp_updL (D14 1) (0 : Int32).toNatClampNeg r14))) H locs := hw
    refine lv_iconst (v := 0) hx hb zd_LassoFinderModel_reach_118 (by decide) ?_
    refine lv_istore_n hx hb zd_LassoFinderModel_reach_119 rfl hl (by decide) rfl (fun ls hl => ?_)
    have hl : lv_has ls 4 [(1, .int 0), (0, .ref (ad 0))] := hl
    obtain ⟨n9, hok⟩ := hok
    exact wL_LassoFinderModel_reach_120 G K ad  Post C n9 0 (upd (upd (upd I14 14 1) 15 0) 16 0) J14 B14 (va_up D14 1 (vp_updL (D14 1) (0 : Int32).toNatClampNeg r14)) ls H locs hok (lv_sub hl [1, 0] rfl) hw
  · have hok := hok.2 hc13
    refine lv_aload_n hx hb zd_LassoFinderModel_reach_61 rfl (lv_at hl 0 rfl) ?_
    refine z_get (v := .ref (ad 42)) hx hb hts hown hK hw zZ12 0 rfl 58 (by decide) zm_276 rfl zd_LassoFinderModel_reach_62 ?_
    refine lv_iload_n hx hb zd_LassoFinderModel_reach_65 rfl (lv_at hl 1 rfl) ?_
    refine lv_aload_n hx hb zd_LassoFinderModel_reach_66 rfl (lv_at hl 0 rfl) ?_
    refine lv_iload_n hx hb zd_LassoFinderModel_reach_67 rfl (lv_at hl 1 rfl) ?_
    refine lv_aload_n hx hb zd_LassoFinderModel_reach_68 rfl (lv_at hl 0 rfl) ?_
    refine lv_aload_n hx hb zd_LassoFinderModel_reach_69 rfl (lv_at hl 0 rfl) ?_
    refine z_get (v := .ref (ad 22)) hx hb hts hown hK hw zZ12 0 rfl 32 (by decide) zm_256 rfl zd_LassoFinderModel_reach_70 ?_
    refine lv_iload_n hx hb zd_LassoFinderModel_reach_73 rfl (lv_at hl 1 rfl) ?_
    refine va_iald (f := (B 21)) hx hb hK hw.1 22 0 rfl rfl hok.1 zd_LassoFinderModel_reach_74 ?_
    have hok := hok.2
    refine lv_topi (fun z15 ez15 => ?_)
    have hok := hok z15 ez15
    refine z_calli (w1 := fun (u : zS) => wM ad K u.1 u.2.1 u.2.2.1 u.2.2.2) (wr := []) (z_runV (q0 := 0) (wc := (wM ad K I J B D)) (As := [.int z15]) (rest := [.int x1, .ref (ad 0), .int x1, .ref (ad 42)]) ⟨hx, hb, hml, hown, hts⟩ (w_LassoFinderModel_instead l G K ad I J B D z15 _ H.size hok) zf_LassoFinderModel_instead zm_305 ⟨Nat.le_of_ble_eq_true rfl, Nat.le_of_ble_eq_true rfl⟩ hK hw [0, 1, 2, 3, 4, 5, 6, 7, 8, 9, 10, 11, 12, 13, 14, 15, 16, 17, 18, 19, 20, 21, 22, 23, 24, 25, 26, 27, 28, 29, 30, 31, 32, 33, 34, 35, 36, 37, 38, 39, 40, 41, 42, 43, 44, 45, 46, 47, 48, 49, 50, 51, 52, 53, 54, 55, 56, 57] rfl (by decide) rfl rfl rfl hl.1 rfl (Nat.le_of_ble_eq_true rfl) zd_LassoFinderModel_reach_75 ⟨Nat.le_of_ble_eq_true rfl, Nat.le_of_ble_eq_true rfl⟩) hw hA [0, 1, 2, 3, 4, 5, 6, 7, 8, 9, 10, 11, 12, 13, 14, 15, 16, 17, 18, 19, 20, 21, 22, 23, 24, 25, 26, 27, 28, 29, 30, 31, 32, 33, 34, 35, 36, 37, 38, 39, 40, 41, 42, 43, 44, 45, 46, 47, 48, 49, 50, 51, 52, 53, 54, 55, 56, 57] [] rfl rfl (by decide) (by decide) (fun r16 u H locs hok hw => ?_)
    obtain ⟨I16, J16, B16, D16⟩ := u
    dsimp only at hok
    have hw : zW G A s.heap (wM ad K I16 J16 B16 D16) H locs := hw
    refine z_calli (w1 := fun (u : zS) => wM ad K u.1 u.2.1 u.2.2.1 u.2.2.2) (wr := []) (z_runV (q0 := 0) (wc := (wM ad K I16 J16 B16 D16)) (As := [.int x1, .int r16]) (rest := [.int x1, .ref (ad 42)]) ⟨hx, hb, hml, hown, hts⟩ (w_LassoFinderModel_pointOf l G K ad I16 J16 B16 D16 x1 r16 _ H.size hok) zf_LassoFinderModel_pointOf zm_306 ⟨Nat.le_of_ble_eq_true rfl, Nat.le_of_ble_eq_true rfl⟩ hK hw [0, 1, 2, 3, 4, 5, 6, 7, 8, 9, 10, 11, 12, 13, 14, 15, 16, 17, 18, 19, 20, 21, 22, 23, 24, 25, 26, 27, 28, 29, 30, 31, 32, 33, 34, 35, 36, 37, 38, 39, 40, 41, 42, 43, 44, 45, 46, 47, 48, 49, 50, 51, 52, 53, 54, 55, 56, 57] rfl (by decide) rfl rfl rfl hl.1 rfl (Nat.le_of_ble_eq_true rfl) zd_LassoFinderModel_reach_78 ⟨Nat.le_of_ble_eq_true rfl, Nat.le_of_ble_eq_true rfl⟩) hw hA [0, 1, 2, 3, 4, 5, 6, 7, 8, 9, 10, 11, 12, 13, 14, 15, 16, 17, 18, 19, 20, 21, 22, 23, 24, 25, 26, 27, 28, 29, 30, 31, 32, 33, 34, 35, 36, 37, 38, 39, 40, 41, 42, 43, 44, 45, 46, 47, 48, 49, 50, 51, 52, 53, 54, 55, 56, 57] [] rfl rfl (by decide) (by decide) (fun r17 u H locs hok hw => ?_)
    obtain ⟨I17, J17, B17, D17⟩ := u
    dsimp only at hok
    have hw : zW G A s.heap (wM ad K I17 J17 B17 D17) H locs := hw
    refine va_iast (f := (B17 39)) hx hb hK hw.1 hw.2.1 hw.2.2 42 0 rfl rfl hok.1 zd_LassoFinderModel_reach_81 (fun H locs w91 w92 w93 => ?_)
    have hok := hok.2
    have hw : zW G A s.heap _ H locs := ⟨w91, w92, w93⟩
    have hw : zW G A s.heap (wM ad K I17 J17 (va_up B17 39 (upd (B17 39) x1.toNatClampNeg r17)) D17) H locs := hw
    obtain ⟨z18, ez18⟩ : ∃ z : Int32, z = (x1 + 1) := ⟨_, rfl⟩
    have hok := hok z18 ez18
    refine lv_iinc (v := z18) hx hb zd_LassoFinderModel_reach_82 hl (k := 1) rfl ez18.symm (by decide) rfl (fun ls hl => ?_)
    have hl : lv_has ls 4 [(1, .int z18), (0, .ref (ad 0))] := hl
    refine lv_goto (tgt := 53) hx hb zd_LassoFinderModel_reach_85 (by decide) ?_
    exact kh53 z18 I17 J17 (va_up B17 39 (upd (B17 39) x1.toNatClampNeg r17)) D17 ls H locs hok (lv_sub hl [1, 0] rfl) hw
theorem wL_LassoFinderModel_reach_53 {p : Program} {l : Launch} {e : Env} {s : State} {m : MethodId} {below : List Frame} {meth : Method} {c : Code} {A : Nat → Prop} (G : va_G) (K : Nat → ClassId) (ad : Nat → Nat) (Post : Int32 → (Nat → Int32) → (Nat → Int64) → (Nat → Nat → Int32) → (Nat → Nat → Int64) → Prop) (C : zCx p s m ([.ref (ad 0)] : List Value).toArray meth c A G K prog_14_method_38_code (some .boolean) 4 "LassoFinderModel") : ∀ (n : Nat) (x1 : Int32) (I : Nat → Int32) (J : Nat → Int64) (B : Nat → Nat → Int32) (D : Nat → Nat → Int64) (ls : Array Slot) (H : Heap) (locs : List Loc), wl_LassoFinderModel_reach_53  Post n x1 I J B D → lv_has ls 4 [(0, .ref (ad 0)), (1, .int x1)] → zW G A s.heap (wM ad K I J B D) H locs → W p l e { frames := 5, cells := 0, slots := 0, locals := 123 } s m ([.ref (ad 0)] : List Value).toArray below meth c H locs 0 0 (MQ below (va_Qi (fun (r : Int32) (u : zS) => Post r u.1 u.2.1 u.2.2.1 u.2.2.2) (fun u t => zPost G K A (wM ad K u.1 u.2.1 u.2.2.1 u.2.2.2) t) A) ([.ref (ad 0)] : List Value).toArray s 0 0 A) (F0 m 53 ls []) := by
  intro n
  induction n with
  | zero => intro x1 I J B D ls H locs hok; exact hok.elim
  | succ n ih => exact wB_LassoFinderModel_reach_53 G K ad  Post C (wl_LassoFinderModel_reach_53  Post n) ih
set_option maxHeartbeats 8000000 in
set_option maxRecDepth 100000 in
theorem wB_LassoFinderModel_reach_30 {p : Program} {l : Launch} {e : Env} {s : State} {m : MethodId} {below : List Frame} {meth : Method} {c : Code} {A : Nat → Prop} (G : va_G) (K : Nat → ClassId) (ad : Nat → Nat) (Post : Int32 → (Nat → Int32) → (Nat → Int64) → (Nat → Nat → Int32) → (Nat → Nat → Int64) → Prop) (C : zCx p s m ([.ref (ad 0)] : List Value).toArray meth c A G K prog_14_method_38_code (some .boolean) 4 "LassoFinderModel") (K30 : Int32 → (Nat → Int32) → (Nat → Int64) → (Nat → Nat → Int32) → (Nat → Nat → Int64) → Prop) (kh30 : ∀ (x1 : Int32) (I : Nat → Int32) (J : Nat → Int64) (B : Nat → Nat → Int32) (D : Nat → Nat → Int64) (ls : Array Slot) (H : Heap) (locs : List Loc), K30 x1 I J B D → lv_has ls 4 [(0, .ref (ad 0)), (1, .int x1)] → zW G A s.heap (wM ad K I J B D) H locs → W p l e { frames := 5, cells := 0, slots := 0, locals := 123 } s m ([.ref (ad 0)] : List Value).toArray below meth c H locs 0 0 (MQ below (va_Qi (fun (r : Int32) (u : zS) => Post r u.1 u.2.1 u.2.2.1 u.2.2.2) (fun u t => zPost G K A (wM ad K u.1 u.2.1 u.2.2.1 u.2.2.2) t) A) ([.ref (ad 0)] : List Value).toArray s 0 0 A) (F0 m 30 ls [])) : ∀ (x1 : Int32) (I : Nat → Int32) (J : Nat → Int64) (B : Nat → Nat → Int32) (D : Nat → Nat → Int64) (ls : Array Slot) (H : Heap) (locs : List Loc), wb_LassoFinderModel_reach_30  K30 Post x1 I J B D → lv_has ls 4 [(0, .ref (ad 0)), (1, .int x1)] → zW G A s.heap (wM ad K I J B D) H locs → W p l e { frames := 5, cells := 0, slots := 0, locals := 123 } s m ([.ref (ad 0)] : List Value).toArray below meth c H locs 0 0 (MQ below (va_Qi (fun (r : Int32) (u : zS) => Post r u.1 u.2.1 u.2.2.1 u.2.2.2) (fun u t => zPost G K A (wM ad K u.1 u.2.1 u.2.2.1 u.2.2.2) t) A) ([.ref (ad 0)] : List Value).toArray s 0 0 A) (F0 m 30 ls []) := by
  obtain ⟨hx, hb, hr, hml, hts, hown, hlocks, hA, hK⟩ := id C
  intro x1 I J B D ls H locs hok hl hw
  unfold wb_LassoFinderModel_reach_30 at hok
  refine lv_iload_n hx hb zd_LassoFinderModel_reach_30 rfl (lv_at hl 1 rfl) ?_
  refine lv_aload_n hx hb zd_LassoFinderModel_reach_31 rfl (lv_at hl 0 rfl) ?_
  refine z_get (v := .int (I 7)) hx hb hts hown hK hw zZ12 0 rfl 8 (by decide) zm_309 rfl zd_LassoFinderModel_reach_32 ?_
  refine lv_icmp_ge (tgt := 51) hx hb zd_LassoFinderModel_reach_35 (by decide) (fun hc19 => ?_) (fun hc19 => ?_)
  · have hok := hok.1 hc19
    refine lv_iconst (v := 0) hx hb zd_LassoFinderModel_reach_51 (by decide) ?_
    refine lv_istore_n hx hb zd_LassoFinderModel_reach_52 rfl hl (by decide) rfl (fun ls hl => ?_)
    have hl : lv_has ls 4 [(1, .int 0), (0, .ref (ad 0))] := hl
    obtain ⟨n9, hok⟩ := hok
    exact wL_LassoFinderModel_reach_53 G K ad  Post C n9 0 I J B D ls H locs hok (lv_sub hl [1, 0] rfl) hw
  · have hok := hok.2 hc19
    refine lv_aload_n hx hb zd_LassoFinderModel_reach_38 rfl (lv_at hl 0 rfl) ?_
    refine z_get (v := .ref (ad 40)) hx hb hts hown hK hw zZ12 0 rfl 56 (by decide) zm_274 rfl zd_LassoFinderModel_reach_39 ?_
    refine lv_iload_n hx hb zd_LassoFinderModel_reach_42 rfl (lv_at hl 1 rfl) ?_
    refine lv_iconst (v := 0) hx hb zd_LassoFinderModel_reach_43 (by decide) ?_
    refine va_iast (f := (B 37)) hx hb hK hw.1 hw.2.1 hw.2.2 40 0 rfl rfl hok.1 zd_LassoFinderModel_reach_44 (fun H locs w91 w92 w93 => ?_)
    have hok := hok.2
    have hw : zW G A s.heap _ H locs := ⟨w91, w92, w93⟩
    have hw : zW G A s.heap (wM ad K I J (va_up B 37 (upd (B 37) x1.toNatClampNeg 0)) D) H locs := hw
    obtain ⟨z20, ez20⟩ : ∃ z : Int32, z = (x1 + 1) := ⟨_, rfl⟩
    have hok := hok z20 ez20
    refine lv_iinc (v := z20) hx hb zd_LassoFinderModel_reach_45 hl (k := 1) rfl ez20.symm (by decide) rfl (fun ls hl => ?_)
    have hl : lv_has ls 4 [(1, .int z20), (0, .ref (ad 0))] := hl
    refine lv_goto (tgt := 30) hx hb zd_LassoFinderModel_reach_48 (by decide) ?_
    exact kh30 z20 I J (va_up B 37 (upd (B 37) x1.toNatClampNeg 0)) D ls H locs hok (lv_sub hl [1, 0] rfl) hw
theorem wL_LassoFinderModel_reach_30 {p : Program} {l : Launch} {e : Env} {s : State} {m : MethodId} {below : List Frame} {meth : Method} {c : Code} {A : Nat → Prop} (G : va_G) (K : Nat → ClassId) (ad : Nat → Nat) (Post : Int32 → (Nat → Int32) → (Nat → Int64) → (Nat → Nat → Int32) → (Nat → Nat → Int64) → Prop) (C : zCx p s m ([.ref (ad 0)] : List Value).toArray meth c A G K prog_14_method_38_code (some .boolean) 4 "LassoFinderModel") : ∀ (n : Nat) (x1 : Int32) (I : Nat → Int32) (J : Nat → Int64) (B : Nat → Nat → Int32) (D : Nat → Nat → Int64) (ls : Array Slot) (H : Heap) (locs : List Loc), wl_LassoFinderModel_reach_30  Post n x1 I J B D → lv_has ls 4 [(0, .ref (ad 0)), (1, .int x1)] → zW G A s.heap (wM ad K I J B D) H locs → W p l e { frames := 5, cells := 0, slots := 0, locals := 123 } s m ([.ref (ad 0)] : List Value).toArray below meth c H locs 0 0 (MQ below (va_Qi (fun (r : Int32) (u : zS) => Post r u.1 u.2.1 u.2.2.1 u.2.2.2) (fun u t => zPost G K A (wM ad K u.1 u.2.1 u.2.2.1 u.2.2.2) t) A) ([.ref (ad 0)] : List Value).toArray s 0 0 A) (F0 m 30 ls []) := by
  intro n
  induction n with
  | zero => intro x1 I J B D ls H locs hok; exact hok.elim
  | succ n ih => exact wB_LassoFinderModel_reach_30 G K ad  Post C (wl_LassoFinderModel_reach_30  Post n) ih
set_option maxHeartbeats 8000000 in
set_option maxRecDepth 100000 in
theorem wB_LassoFinderModel_reach_2 {p : Program} {l : Launch} {e : Env} {s : State} {m : MethodId} {below : List Frame} {meth : Method} {c : Code} {A : Nat → Prop} (G : va_G) (K : Nat → ClassId) (ad : Nat → Nat) (Post : Int32 → (Nat → Int32) → (Nat → Int64) → (Nat → Nat → Int32) → (Nat → Nat → Int64) → Prop) (C : zCx p s m ([.ref (ad 0)] : List Value).toArray meth c A G K prog_14_method_38_code (some .boolean) 4 "LassoFinderModel") (K2 : Int32 → (Nat → Int32) → (Nat → Int64) → (Nat → Nat → Int32) → (Nat → Nat → Int64) → Prop) (kh2 : ∀ (x1 : Int32) (I : Nat → Int32) (J : Nat → Int64) (B : Nat → Nat → Int32) (D : Nat → Nat → Int64) (ls : Array Slot) (H : Heap) (locs : List Loc), K2 x1 I J B D → lv_has ls 4 [(0, .ref (ad 0)), (1, .int x1)] → zW G A s.heap (wM ad K I J B D) H locs → W p l e { frames := 5, cells := 0, slots := 0, locals := 123 } s m ([.ref (ad 0)] : List Value).toArray below meth c H locs 0 0 (MQ below (va_Qi (fun (r : Int32) (u : zS) => Post r u.1 u.2.1 u.2.2.1 u.2.2.2) (fun u t => zPost G K A (wM ad K u.1 u.2.1 u.2.2.1 u.2.2.2) t) A) ([.ref (ad 0)] : List Value).toArray s 0 0 A) (F0 m 2 ls [])) : ∀ (x1 : Int32) (I : Nat → Int32) (J : Nat → Int64) (B : Nat → Nat → Int32) (D : Nat → Nat → Int64) (ls : Array Slot) (H : Heap) (locs : List Loc), wb_LassoFinderModel_reach_2  K2 Post x1 I J B D → lv_has ls 4 [(0, .ref (ad 0)), (1, .int x1)] → zW G A s.heap (wM ad K I J B D) H locs → W p l e { frames := 5, cells := 0, slots := 0, locals := 123 } s m ([.ref (ad 0)] : List Value).toArray below meth c H locs 0 0 (MQ below (va_Qi (fun (r : Int32) (u : zS) => Post r u.1 u.2.1 u.2.2.1 u.2.2.2) (fun u t => zPost G K A (wM ad K u.1 u.2.1 u.2.2.1 u.2.2.2) t) A) ([.ref (ad 0)] : List Value).toArray s 0 0 A) (F0 m 2 ls []) := by
  obtain ⟨hx, hb, hr, hml, hts, hown, hlocks, hA, hK⟩ := id C
  intro x1 I J B D ls H locs hok hl hw
  unfold wb_LassoFinderModel_reach_2 at hok
  refine lv_iload_n hx hb zd_LassoFinderModel_reach_2 rfl (lv_at hl 1 rfl) ?_
  refine lv_aload_n hx hb zd_LassoFinderModel_reach_3 rfl (lv_at hl 0 rfl) ?_
  refine z_get (v := .int (I 6)) hx hb hts hown hK hw zZ12 0 rfl 7 (by decide) zm_308 rfl zd_LassoFinderModel_reach_4 ?_
  refine lv_icmp_ge (tgt := 28) hx hb zd_LassoFinderModel_reach_7 (by decide) (fun hc21 => ?_) (fun hc21 => ?_)
  · have hok := hok.1 hc21
    refine lv_iconst (v := 0) hx hb zd_LassoFinderModel_reach_28 (by decide) ?_
    refine lv_istore_n hx hb zd_LassoFinderModel_reach_29 rfl hl (by decide) rfl (fun ls hl => ?_)
    have hl : lv_has ls 4 [(1, .int 0), (0, .ref (ad 0))] := hl
    obtain ⟨n9, hok⟩ := hok
    exact wL_LassoFinderModel_reach_30 G K ad  Post C n9 0 I J B D ls H locs hok (lv_sub hl [1, 0] rfl) hw
  · have hok := hok.2 hc21
    refine lv_aload_n hx hb zd_LassoFinderModel_reach_10 rfl (lv_at hl 0 rfl) ?_
    refine z_get (v := .ref (ad 39)) hx hb hts hown hK hw zZ12 0 rfl 55 (by decide) zm_273 rfl zd_LassoFinderModel_reach_11 ?_
    refine lv_iload_n hx hb zd_LassoFinderModel_reach_14 rfl (lv_at hl 1 rfl) ?_
    refine lv_aload_n hx hb zd_LassoFinderModel_reach_15 rfl (lv_at hl 0 rfl) ?_
    refine z_get (v := .ref (ad 4)) hx hb hts hown hK hw zZ12 0 rfl 11 (by decide) zm_238 rfl zd_LassoFinderModel_reach_16 ?_
    refine lv_iload_n hx hb zd_LassoFinderModel_reach_19 rfl (lv_at hl 1 rfl) ?_
    refine va_iald (f := (B 3)) hx hb hK hw.1 4 0 rfl rfl hok.1 zd_LassoFinderModel_reach_20 ?_
    have hok := hok.2
    refine lv_topi (fun z22 ez22 => ?_)
    have hok := hok z22 ez22
    refine va_iast (f := (B 36)) hx hb hK hw.1 hw.2.1 hw.2.2 39 0 rfl rfl hok.1 zd_LassoFinderModel_reach_21 (fun H locs w91 w92 w93 => ?_)
    have hok := hok.2
    have hw : zW G A s.heap _ H locs := ⟨w91, w92, w93⟩
    have hw : zW G A s.heap (wM ad K I J (va_up B 36 (upd (B 36) x1.toNatClampNeg z22)) D) H locs := hw
    obtain ⟨z23, ez23⟩ : ∃ z : Int32, z = (x1 + 1) := ⟨_, rfl⟩
    have hok := hok z23 ez23
    refine lv_iinc (v := z23) hx hb zd_LassoFinderModel_reach_22 hl (k := 1) rfl ez23.symm (by decide) rfl (fun ls hl => ?_)
    have hl : lv_has ls 4 [(1, .int z23), (0, .ref (ad 0))] := hl
    refine lv_goto (tgt := 2) hx hb zd_LassoFinderModel_reach_25 (by decide) ?_
    exact kh2 z23 I J (va_up B 36 (upd (B 36) x1.toNatClampNeg z22)) D ls H locs hok (lv_sub hl [1, 0] rfl) hw
theorem wL_LassoFinderModel_reach_2 {p : Program} {l : Launch} {e : Env} {s : State} {m : MethodId} {below : List Frame} {meth : Method} {c : Code} {A : Nat → Prop} (G : va_G) (K : Nat → ClassId) (ad : Nat → Nat) (Post : Int32 → (Nat → Int32) → (Nat → Int64) → (Nat → Nat → Int32) → (Nat → Nat → Int64) → Prop) (C : zCx p s m ([.ref (ad 0)] : List Value).toArray meth c A G K prog_14_method_38_code (some .boolean) 4 "LassoFinderModel") : ∀ (n : Nat) (x1 : Int32) (I : Nat → Int32) (J : Nat → Int64) (B : Nat → Nat → Int32) (D : Nat → Nat → Int64) (ls : Array Slot) (H : Heap) (locs : List Loc), wl_LassoFinderModel_reach_2  Post n x1 I J B D → lv_has ls 4 [(0, .ref (ad 0)), (1, .int x1)] → zW G A s.heap (wM ad K I J B D) H locs → W p l e { frames := 5, cells := 0, slots := 0, locals := 123 } s m ([.ref (ad 0)] : List Value).toArray below meth c H locs 0 0 (MQ below (va_Qi (fun (r : Int32) (u : zS) => Post r u.1 u.2.1 u.2.2.1 u.2.2.2) (fun u t => zPost G K A (wM ad K u.1 u.2.1 u.2.2.1 u.2.2.2) t) A) ([.ref (ad 0)] : List Value).toArray s 0 0 A) (F0 m 2 ls []) := by
  intro n
  induction n with
  | zero => intro x1 I J B D ls H locs hok; exact hok.elim
  | succ n ih => exact wB_LassoFinderModel_reach_2 G K ad  Post C (wl_LassoFinderModel_reach_2  Post n) ih
set_option maxHeartbeats 8000000 in
set_option maxRecDepth 100000 in
theorem w_LassoFinderModel_reach (l : Launch) (G : va_G) (K : Nat → ClassId) (ad : Nat → Nat) (I : Nat → Int32) (J : Nat → Int64) (B : Nat → Nat → Int32) (D : Nat → Nat → Int64) (Post : Int32 → (Nat → Int32) → (Nat → Int64) → (Nat → Nat → Int32) → (Nat → Nat → Int64) → Prop) (sz : Nat) (hok : wp_LassoFinderModel_reach I J B D  Post) : Met l zy_LassoFinderModel_reach (Cond.code zy_LassoFinderModel_reach prog_14_method_38_code 4 (some .boolean) :: zTB) { frames := 5, cells := 0, slots := 0, locals := 123 } (va_Pc [.ref (ad 0)] (zPre G K (wM ad K I J B D) sz)) (va_Qi (fun (r : Int32) (u : zS) => Post r u.1 u.2.1 u.2.2.1 u.2.2.2) (fun u t => zPost G K (va_A (wM ad K I J B D) sz) (wM ad K u.1 u.2.1 u.2.2.1 u.2.2.2) t) (va_A (wM ad K I J B D) sz)) 0 0 (va_A (wM ad K I J B D) sz) := by
  refine zMet (y := zy_LassoFinderModel_reach) (av := [.ref (ad 0)]) (maxL := 4) (cc := prog_14_method_38_code) (ret := (some .boolean)) (W0 := (wM ad K I J B D)) (sz := sz) (G := G) (K := K) (wt := zTB) (mc := 0) (ms := 0) (Qf := fun A => va_Qi (fun (r : Int32) (u : zS) => Post r u.1 u.2.1 u.2.2.1 u.2.2.2) (fun u t => zPost G K A (wM ad K u.1 u.2.1 u.2.2.1 u.2.2.2) t) A) (by decide) (Nat.le_of_ble_eq_true rfl) ?_
  intro p e s m below meth c ls A hx hb hr hml hts hown hlocks hin hA hK H locs hw hsz hl
  clear hsz
  have hown : s.vm.findClass "LassoFinderModel" = some m.cls := hown
  have C : zCx p s m ([.ref (ad 0)] : List Value).toArray meth c A G K prog_14_method_38_code (some .boolean) 4 "LassoFinderModel" := ⟨hx, hb, hr, hml, hts, hown, hlocks, hA, hK⟩
  have hl : lv_has ls 4 [(0, .ref (ad 0))] := hl
  have hw : zW G A s.heap (wM ad K I J B D) H locs := hw
  unfold wp_LassoFinderModel_reach at hok
  refine lv_iconst (v := 0) hx hb zd_LassoFinderModel_reach_0 (by decide) ?_
  refine lv_istore_n hx hb zd_LassoFinderModel_reach_1 rfl hl (by decide) rfl (fun ls hl => ?_)
  have hl : lv_has ls 4 [(1, .int 0), (0, .ref (ad 0))] := hl
  obtain ⟨n9, hok⟩ := hok
  exact wL_LassoFinderModel_reach_2 G K ad  Post C n9 0 I J B D ls H locs hok (lv_sub hl [1, 0] rfl) hw
def wc_LassoFinderModel_here_24 (Post : Int32 → (Nat → Int32) → (Nat → Int64) → (Nat → Nat → Int32) → (Nat → Nat → Int64) → Prop) (y0 : Int32) (I : Nat → Int32) (J : Nat → Int64) (B : Nat → Nat → Int32) (D : Nat → Nat → Int64) : Prop :=
  Post y0 I J B D
def wp_LassoFinderModel_here (I : Nat → Int32) (J : Nat → Int64) (B : Nat → Nat → Int32) (D : Nat → Nat → Int64) (Post : Int32 → (Nat → Int32) → (Nat → Int64) → (Nat → Nat → Int32) → (Nat → Nat → Int64) → Prop) : Prop :=
  (((I 1) ≤ (I 2) → wc_LassoFinderModel_here_24  Post 0 I J B D) ∧ (¬ (I 1) ≤ (I 2) → vp_in (I 2) 240 ∧ ∀ z2 : Int32, z2 = ((B 0) (I 2).toNatClampNeg) → wc_LassoFinderModel_here_24  Post z2 I J B D))
set_option maxHeartbeats 8000000 in
set_option maxRecDepth 100000 in
theorem wJ_LassoFinderModel_here_24 {p : Program} {l : Launch} {e : Env} {s : State} {m : MethodId} {below : List Frame} {meth : Method} {c : Code} {A : Nat → Prop} (G : va_G) (K : Nat → ClassId) (ad : Nat → Nat) (Post : Int32 → (Nat → Int32) → (Nat → Int64) → (Nat → Nat → Int32) → (Nat → Nat → Int64) → Prop) (C : zCx p s m ([.ref (ad 0)] : List Value).toArray meth c A G K prog_14_method_5_code (some .int) 1 "LassoFinderModel") : ∀ (y0 : Int32) (I : Nat → Int32) (J : Nat → Int64) (B : Nat → Nat → Int32) (D : Nat → Nat → Int64) (ls : Array Slot) (H : Heap) (locs : List Loc), wc_LassoFinderModel_here_24  Post y0 I J B D → lv_has ls 1 [] → zW G A s.heap (wM ad K I J B D) H locs → W p l e { frames := 0, cells := 0, slots := 0, locals := 0 } s m ([.ref (ad 0)] : List Value).toArray below meth c H locs 0 0 (MQ below (va_Qi (fun (r : Int32) (u : zS) => Post r u.1 u.2.1 u.2.2.1 u.2.2.2) (fun u t => zPost G K A (wM ad K u.1 u.2.1 u.2.2.1 u.2.2.2) t) A) ([.ref (ad 0)] : List Value).toArray s 0 0 A) (F0 m 24 ls [.int y0]) := by
  obtain ⟨hx, hb, hr, hml, hts, hown, hlocks, hA, hK⟩ := id C
  intro y0 I J B D ls H locs hok hl hw
  unfold wc_LassoFinderModel_here_24 at hok
  exact z_iret (u := (I, J, B, D)) hx hb hr hlocks rfl hw [0, 1, 2, 3, 4, 5, 6, 7, 8, 9, 10, 11, 12, 13, 14, 15, 16, 17, 18, 19, 20, 21, 22, 23, 24, 25, 26, 27, 28, 29, 30, 31, 32, 33, 34, 35, 36, 37, 38, 39, 40, 41, 42, 43, 44, 45, 46, 47, 48, 49, 50, 51, 52, 53, 54, 55, 56, 57] rfl (by decide) hok (Nat.le_of_ble_eq_true rfl) (Nat.le_of_ble_eq_true rfl) zd_LassoFinderModel_here_24
set_option maxHeartbeats 8000000 in
set_option maxRecDepth 100000 in
theorem w_LassoFinderModel_here (l : Launch) (G : va_G) (K : Nat → ClassId) (ad : Nat → Nat) (I : Nat → Int32) (J : Nat → Int64) (B : Nat → Nat → Int32) (D : Nat → Nat → Int64) (Post : Int32 → (Nat → Int32) → (Nat → Int64) → (Nat → Nat → Int32) → (Nat → Nat → Int64) → Prop) (sz : Nat) (hok : wp_LassoFinderModel_here I J B D  Post) : Met l zy_LassoFinderModel_here (Cond.code zy_LassoFinderModel_here prog_14_method_5_code 1 (some .int) :: zTB) { frames := 0, cells := 0, slots := 0, locals := 0 } (va_Pc [.ref (ad 0)] (zPre G K (wM ad K I J B D) sz)) (va_Qi (fun (r : Int32) (u : zS) => Post r u.1 u.2.1 u.2.2.1 u.2.2.2) (fun u t => zPost G K (va_A (wM ad K I J B D) sz) (wM ad K u.1 u.2.1 u.2.2.1 u.2.2.2) t) (va_A (wM ad K I J B D) sz)) 0 0 (va_A (wM ad K I J B D) sz) := by
  refine zMet (y := zy_LassoFinderModel_here) (av := [.ref (ad 0)]) (maxL := 1) (cc := prog_14_method_5_code) (ret := (some .int)) (W0 := (wM ad K I J B D)) (sz := sz) (G := G) (K := K) (wt := zTB) (mc := 0) (ms := 0) (Qf := fun A => va_Qi (fun (r : Int32) (u : zS) => Post r u.1 u.2.1 u.2.2.1 u.2.2.2) (fun u t => zPost G K A (wM ad K u.1 u.2.1 u.2.2.1 u.2.2.2) t) A) (by decide) (Nat.le_of_ble_eq_true rfl) ?_
  intro p e s m below meth c ls A hx hb hr hml hts hown hlocks hin hA hK H locs hw hsz hl
  clear hsz
  have hown : s.vm.findClass "LassoFinderModel" = some m.cls := hown
  have C : zCx p s m ([.ref (ad 0)] : List Value).toArray meth c A G K prog_14_method_5_code (some .int) 1 "LassoFinderModel" := ⟨hx, hb, hr, hml, hts, hown, hlocks, hA, hK⟩
  have hl : lv_has ls 1 [(0, .ref (ad 0))] := hl
  have hw : zW G A s.heap (wM ad K I J B D) H locs := hw
  unfold wp_LassoFinderModel_here at hok
  refine lv_aload_n hx hb zd_LassoFinderModel_here_0 rfl (lv_at hl 0 rfl) ?_
  refine z_get (v := .int (I 2)) hx hb hts hown hK hw zZ12 0 rfl 3 (by decide) zm_335 rfl zd_LassoFinderModel_here_1 ?_
  refine lv_aload_n hx hb zd_LassoFinderModel_here_4 rfl (lv_at hl 0 rfl) ?_
  refine z_get (v := .int (I 1)) hx hb hts hown hK hw zZ12 0 rfl 1 (by decide) zm_294 rfl zd_LassoFinderModel_here_5 ?_
  refine lv_icmp_ge (tgt := 23) hx hb zd_LassoFinderModel_here_8 (by decide) (fun hc1 => ?_) (fun hc1 => ?_)
  · have hok := hok.1 hc1
    refine lv_iconst (v := 0) hx hb zd_LassoFinderModel_here_23 (by decide) ?_
    exact wJ_LassoFinderModel_here_24 G K ad  Post C 0 I J B D ls H locs hok (lv_sub hl [] rfl) hw
  · have hok := hok.2 hc1
    refine lv_aload_n hx hb zd_LassoFinderModel_here_11 rfl (lv_at hl 0 rfl) ?_
    refine z_get (v := .ref (ad 1)) hx hb hts hown hK hw zZ12 0 rfl 2 (by decide) zm_235 rfl zd_LassoFinderModel_here_12 ?_
    refine lv_aload_n hx hb zd_LassoFinderModel_here_15 rfl (lv_at hl 0 rfl) ?_
    refine z_get (v := .int (I 2)) hx hb hts hown hK hw zZ12 0 rfl 3 (by decide) zm_335 rfl zd_LassoFinderModel_here_16 ?_
    refine va_iald (f := (B 0)) hx hb hK hw.1 1 0 rfl rfl hok.1 zd_LassoFinderModel_here_19 ?_
    have hok := hok.2
    refine lv_topi (fun z2 ez2 => ?_)
    have hok := hok z2 ez2
    refine lv_goto (tgt := 24) hx hb zd_LassoFinderModel_here_20 (by decide) ?_
    exact wJ_LassoFinderModel_here_24 G K ad  Post C z2 I J B D ls H locs hok (lv_sub hl [] rfl) hw
def wp_LassoFinderModel_fail (I : Nat → Int32) (J : Nat → Int64) (B : Nat → Nat → Int32) (D : Nat → Nat → Int64) (Post : Int32 → (Nat → Int32) → (Nat → Int64) → (Nat → Nat → Int32) → (Nat → Nat → Int64) → Prop) : Prop :=
  Post 0 (upd I 3 (I 2)) J B D
set_option maxHeartbeats 8000000 in
set_option maxRecDepth 100000 in
theorem w_LassoFinderModel_fail (l : Launch) (G : va_G) (K : Nat → ClassId) (ad : Nat → Nat) (I : Nat → Int32) (J : Nat → Int64) (B : Nat → Nat → Int32) (D : Nat → Nat → Int64) (Post : Int32 → (Nat → Int32) → (Nat → Int64) → (Nat → Nat → Int32) → (Nat → Nat → Int64) → Prop) (sz : Nat) (hok : wp_LassoFinderModel_fail I J B D  Post) : Met l zy_LassoFinderModel_fail (Cond.code zy_LassoFinderModel_fail prog_14_method_6_code 1 (some .boolean) :: zTB) { frames := 0, cells := 0, slots := 0, locals := 0 } (va_Pc [.ref (ad 0)] (zPre G K (wM ad K I J B D) sz)) (va_Qi (fun (r : Int32) (u : zS) => Post r u.1 u.2.1 u.2.2.1 u.2.2.2) (fun u t => zPost G K (va_A (wM ad K I J B D) sz) (wM ad K u.1 u.2.1 u.2.2.1 u.2.2.2) t) (va_A (wM ad K I J B D) sz)) 0 0 (va_A (wM ad K I J B D) sz) := by
  refine zMet (y := zy_LassoFinderModel_fail) (av := [.ref (ad 0)]) (maxL := 1) (cc := prog_14_method_6_code) (ret := (some .boolean)) (W0 := (wM ad K I J B D)) (sz := sz) (G := G) (K := K) (wt := zTB) (mc := 0) (ms := 0) (Qf := fun A => va_Qi (fun (r : Int32) (u : zS) => Post r u.1 u.2.1 u.2.2.1 u.2.2.2) (fun u t => zPost G K A (wM ad K u.1 u.2.1 u.2.2.1 u.2.2.2) t) A) (by decide) (Nat.le_of_ble_eq_true rfl) ?_
  intro p e s m below meth c ls A hx hb hr hml hts hown hlocks hin hA hK H locs hw hsz hl
  clear hsz
  have hown : s.vm.findClass "LassoFinderModel" = some m.cls := hown
  have C : zCx p s m ([.ref (ad 0)] : List Value).toArray meth c A G K prog_14_method_6_code (some .boolean) 1 "LassoFinderModel" := ⟨hx, hb, hr, hml, hts, hown, hlocks, hA, hK⟩
  have hl : lv_has ls 1 [(0, .ref (ad 0))] := hl
  have hw : zW G A s.heap (wM ad K I J B D) H locs := hw
  unfold wp_LassoFinderModel_fail at hok
  refine lv_aload_n hx hb zd_LassoFinderModel_fail_0 rfl (lv_at hl 0 rfl) ?_
  refine lv_aload_n hx hb zd_LassoFinderModel_fail_1 rfl (lv_at hl 0 rfl) ?_
  refine z_get (v := .int (I 2)) hx hb hts hown hK hw zZ12 0 rfl 3 (by decide) zm_335 rfl zd_LassoFinderModel_fail_2 ?_
  refine z_put (v := .int (I 2)) hx hb hts hown hK hw zZ12 0 rfl 4 (by decide) zm_301 rfl rfl rfl (Nat.le_of_ble_eq_true rfl) zd_LassoFinderModel_fail_5 (fun H locs hw => ?_)
  have hw : zW G A s.heap (wM ad K (upd I 3 (I 2)) J B D) H locs := hw
  refine lv_iconst (v := 0) hx hb zd_LassoFinderModel_fail_8 (by decide) ?_
  exact z_iret (u := ((upd I 3 (I 2)), J, B, D)) hx hb hr hlocks rfl hw [0, 1, 2, 3, 4, 5, 6, 7, 8, 9, 10, 11, 12, 13, 14, 15, 16, 17, 18, 19, 20, 21, 22, 23, 24, 25, 26, 27, 28, 29, 30, 31, 32, 33, 34, 35, 36, 37, 38, 39, 40, 41, 42, 43, 44, 45, 46, 47, 48, 49, 50, 51, 52, 53, 54, 55, 56, 57] rfl (by decide) hok (Nat.le_of_ble_eq_true rfl) (Nat.le_of_ble_eq_true rfl) zd_LassoFinderModel_fail_9
def wc_LassoFinderModel_jumps_58 (a0 : Int32) (Post : Int32 → (Nat → Int32) → (Nat → Int64) → (Nat → Nat → Int32) → (Nat → Nat → Int64) → Prop) (x2 : Int32) (I : Nat → Int32) (J : Nat → Int64) (B : Nat → Nat → Int32) (D : Nat → Nat → Int64) : Prop :=
  vp_in x2 140 ∧ ∀ z1 : Int32, z1 = ((B 16) x2.toNatClampNeg) → Post 0 (upd I 3 z1) J B D
def wc_LassoFinderModel_jumps_70 (a0 : Int32) (K2 : Int32 → (Nat → Int32) → (Nat → Int64) → (Nat → Nat → Int32) → (Nat → Nat → Int64) → Prop) (Post : Int32 → (Nat → Int32) → (Nat → Int64) → (Nat → Nat → Int32) → (Nat → Nat → Int64) → Prop) (x2 : Int32) (I : Nat → Int32) (J : Nat → Int64) (B : Nat → Nat → Int32) (D : Nat → Nat → Int64) : Prop :=
  ∀ z2 : Int32, z2 = (x2 + 1) → K2 z2 I J B D
def wb_LassoFinderModel_jumps_2 (a0 : Int32) (K2 : Int32 → (Nat → Int32) → (Nat → Int64) → (Nat → Nat → Int32) → (Nat → Nat → Int64) → Prop) (Post : Int32 → (Nat → Int32) → (Nat → Int64) → (Nat → Nat → Int32) → (Nat → Nat → Int64) → Prop) (x2 : Int32) (I : Nat → Int32) (J : Nat → Int64) (B : Nat → Nat → Int32) (D : Nat → Nat → Int64) : Prop :=
  (((I 8) ≤ x2 → Post 1 I J B D) ∧ (¬ (I 8) ≤ x2 → vp_in x2 140 ∧ ∀ z4 : Int32, z4 = ((B 5) x2.toNatClampNeg) → ((z4 = 10 → ∀ z6 : Int32, z6 = (8 * (I 10)) → vp_in x2 140 ∧ ∀ z7 : Int32, z7 = ((B 12) x2.toNatClampNeg) → ∀ z8 : Int32, z8 = (z6 + z7) → vp_in z8 32 ∧ ∀ z9 : Int32, z9 = ((B 22) z8.toNatClampNeg) → ((z9 < 0 → wc_LassoFinderModel_jumps_58 a0 Post x2 I J B D) ∧ (¬ z9 < 0 → wp_LassoFinderModel_instead I J B D z9 (fun r11 I11 J11 B11 D11 => ((¬ r11 = (-3) → wc_LassoFinderModel_jumps_70 a0 K2 Post x2 I11 J11 B11 D11) ∧ (r11 = (-3) → wc_LassoFinderModel_jumps_58 a0 Post x2 I11 J11 B11 D11)))))) ∧ (¬ z4 = 10 → wc_LassoFinderModel_jumps_70 a0 K2 Post x2 I J B D))))
def wl_LassoFinderModel_jumps_2 (a0 : Int32) (Post : Int32 → (Nat → Int32) → (Nat → Int64) → (Nat → Nat → Int32) → (Nat → Nat → Int64) → Prop) (n : Nat) : Int32 → (Nat → Int32) → (Nat → Int64) → (Nat → Nat → Int32) → (Nat → Nat → Int64) → Prop := Nat.rec (fun _ _ _ _ _ => False) (fun _ r => wb_LassoFinderModel_jumps_2 a0 r Post) n
def wp_LassoFinderModel_jumps (I : Nat → Int32) (J : Nat → Int64) (B : Nat → Nat → Int32) (D : Nat → Nat → Int64) (a0 : Int32) (Post : Int32 → (Nat → Int32) → (Nat → Int64) → (Nat → Nat → Int32) → (Nat → Nat → Int64) → Prop) : Prop :=
  ∃ n : Nat, wl_LassoFinderModel_jumps_2 a0 Post n a0 I J B D
set_option maxHeartbeats 8000000 in
set_option maxRecDepth 100000 in
theorem wJ_LassoFinderModel_jumps_58 {p : Program} {l : Launch} {e : Env} {s : State} {m : MethodId} {below : List Frame} {meth : Method} {c : Code} {A : Nat → Prop} (G : va_G) (K : Nat → ClassId) (ad : Nat → Nat) (a0 : Int32) (Post : Int32 → (Nat → Int32) → (Nat → Int64) → (Nat → Nat → Int32) → (Nat → Nat → Int64) → Prop) (C : zCx p s m ([.ref (ad 0), .int a0] : List Value).toArray meth c A G K prog_14_method_23_code (some .boolean) 4 "LassoFinderModel") : ∀ (x2 : Int32) (I : Nat → Int32) (J : Nat → Int64) (B : Nat → Nat → Int32) (D : Nat → Nat → Int64) (ls : Array Slot) (H : Heap) (locs : List Loc), wc_LassoFinderModel_jumps_58 a0 Post x2 I J B D → lv_has ls 4 [(0, .ref (ad 0)), (2, .int x2)] → zW G A s.heap (wM ad K I J B D) H locs → W p l e { frames := 2, cells := 0, slots := 0, locals := 47 } s m ([.ref (ad 0), .int a0] : List Value).toArray below meth c H locs 0 0 (MQ below (va_Qi (fun (r : Int32) (u : zS) => Post r u.1 u.2.1 u.2.2.1 u.2.2.2) (fun u t => zPost G K A (wM ad K u.1 u.2.1 u.2.2.1 u.2.2.2) t) A) ([.ref (ad 0), .int a0] : List Value).toArray s 0 0 A) (F0 m 58 ls []) := by
  obtain ⟨hx, hb, hr, hml, hts, hown, hlocks, hA, hK⟩ := id C
  intro x2 I J B D ls H locs hok hl hw
  unfold wc_LassoFinderModel_jumps_58 at hok
  refine lv_aload_n hx hb zd_LassoFinderModel_jumps_58 rfl (lv_at hl 0 rfl) ?_
  refine lv_aload_n hx hb zd_LassoFinderModel_jumps_59 rfl (lv_at hl 0 rfl) ?_
  refine z_get (v := .ref (ad 17)) hx hb hts hown hK hw zZ12 0 rfl 25 (by decide) zm_251 rfl zd_LassoFinderModel_jumps_60 ?_
  refine lv_iload_n hx hb zd_LassoFinderModel_jumps_63 rfl (lv_at hl 1 rfl) ?_
  refine va_iald (f := (B 16)) hx hb hK hw.1 17 0 rfl rfl hok.1 zd_LassoFinderModel_jumps_64 ?_
  have hok := hok.2
  refine lv_topi (fun z1 ez1 => ?_)
  have hok := hok z1 ez1
  refine z_put (v := .int z1) hx hb hts hown hK hw zZ12 0 rfl 4 (by decide) zm_301 rfl rfl rfl (Nat.le_of_ble_eq_true rfl) zd_LassoFinderModel_jumps_65 (fun H locs hw => ?_)
  have hw : zW G A s.heap (wM ad K (upd I 3 z1) J B D) H locs := hw
  refine lv_iconst (v := 0) hx hb zd_LassoFinderModel_jumps_68 (by decide) ?_
  exact z_iret (u := ((upd I 3 z1), J, B, D)) hx hb hr hlocks rfl hw [0, 1, 2, 3, 4, 5, 6, 7, 8, 9, 10, 11, 12, 13, 14, 15, 16, 17, 18, 19, 20, 21, 22, 23, 24, 25, 26, 27, 28, 29, 30, 31, 32, 33, 34, 35, 36, 37, 38, 39, 40, 41, 42, 43, 44, 45, 46, 47, 48, 49, 50, 51, 52, 53, 54, 55, 56, 57] rfl (by decide) hok (Nat.le_of_ble_eq_true rfl) (Nat.le_of_ble_eq_true rfl) zd_LassoFinderModel_jumps_69
set_option maxHeartbeats 8000000 in
set_option maxRecDepth 100000 in
theorem wJ_LassoFinderModel_jumps_70 {p : Program} {l : Launch} {e : Env} {s : State} {m : MethodId} {below : List Frame} {meth : Method} {c : Code} {A : Nat → Prop} (G : va_G) (K : Nat → ClassId) (ad : Nat → Nat) (a0 : Int32) (Post : Int32 → (Nat → Int32) → (Nat → Int64) → (Nat → Nat → Int32) → (Nat → Nat → Int64) → Prop) (C : zCx p s m ([.ref (ad 0), .int a0] : List Value).toArray meth c A G K prog_14_method_23_code (some .boolean) 4 "LassoFinderModel") (K2 : Int32 → (Nat → Int32) → (Nat → Int64) → (Nat → Nat → Int32) → (Nat → Nat → Int64) → Prop) (kh2 : ∀ (x2 : Int32) (I : Nat → Int32) (J : Nat → Int64) (B : Nat → Nat → Int32) (D : Nat → Nat → Int64) (ls : Array Slot) (H : Heap) (locs : List Loc), K2 x2 I J B D → lv_has ls 4 [(0, .ref (ad 0)), (2, .int x2)] → zW G A s.heap (wM ad K I J B D) H locs → W p l e { frames := 2, cells := 0, slots := 0, locals := 47 } s m ([.ref (ad 0), .int a0] : List Value).toArray below meth c H locs 0 0 (MQ below (va_Qi (fun (r : Int32) (u : zS) => Post r u.1 u.2.1 u.2.2.1 u.2.2.2) (fun u t => zPost G K A (wM ad K u.1 u.2.1 u.2.2.1 u.2.2.2) t) A) ([.ref (ad 0), .int a0] : List Value).toArray s 0 0 A) (F0 m 2 ls [])) : ∀ (x2 : Int32) (I : Nat → Int32) (J : Nat → Int64) (B : Nat → Nat → Int32) (D : Nat → Nat → Int64) (ls : Array Slot) (H : Heap) (locs : List Loc), wc_LassoFinderModel_jumps_70 a0 K2 Post x2 I J B D → lv_has ls 4 [(0, .ref (ad 0)), (2, .int x2)] → zW G A s.heap (wM ad K I J B D) H locs → W p l e { frames := 2, cells := 0, slots := 0, locals := 47 } s m ([.ref (ad 0), .int a0] : List Value).toArray below meth c H locs 0 0 (MQ below (va_Qi (fun (r : Int32) (u : zS) => Post r u.1 u.2.1 u.2.2.1 u.2.2.2) (fun u t => zPost G K A (wM ad K u.1 u.2.1 u.2.2.1 u.2.2.2) t) A) ([.ref (ad 0), .int a0] : List Value).toArray s 0 0 A) (F0 m 70 ls []) := by
  obtain ⟨hx, hb, hr, hml, hts, hown, hlocks, hA, hK⟩ := id C
  intro x2 I J B D ls H locs hok hl hw
  unfold wc_LassoFinderModel_jumps_70 at hok
  obtain ⟨z2, ez2⟩ : ∃ z : Int32, z = (x2 + 1) := ⟨_, rfl⟩
  have hok := hok z2 ez2
  refine lv_iinc (v := z2) hx hb zd_LassoFinderModel_jumps_70 hl (k := 1) rfl ez2.symm (by decide) rfl (fun ls hl => ?_)
  have hl : lv_has ls 4 [(2, .int z2), (0, .ref (ad 0))] := hl
  refine lv_goto (tgt := 2) hx hb zd_LassoFinderModel_jumps_73 (by decide) ?_
  exact kh2 z2 I J B D ls H locs hok (lv_sub hl [1, 0] rfl) hw
set_option maxHeartbeats 8000000 in
set_option maxRecDepth 100000 in
theorem wB_LassoFinderModel_jumps_2 {p : Program} {l : Launch} {e : Env} {s : State} {m : MethodId} {below : List Frame} {meth : Method} {c : Code} {A : Nat → Prop} (G : va_G) (K : Nat → ClassId) (ad : Nat → Nat) (a0 : Int32) (Post : Int32 → (Nat → Int32) → (Nat → Int64) → (Nat → Nat → Int32) → (Nat → Nat → Int64) → Prop) (C : zCx p s m ([.ref (ad 0), .int a0] : List Value).toArray meth c A G K prog_14_method_23_code (some .boolean) 4 "LassoFinderModel") (K2 : Int32 → (Nat → Int32) → (Nat → Int64) → (Nat → Nat → Int32) → (Nat → Nat → Int64) → Prop) (kh2 : ∀ (x2 : Int32) (I : Nat → Int32) (J : Nat → Int64) (B : Nat → Nat → Int32) (D : Nat → Nat → Int64) (ls : Array Slot) (H : Heap) (locs : List Loc), K2 x2 I J B D → lv_has ls 4 [(0, .ref (ad 0)), (2, .int x2)] → zW G A s.heap (wM ad K I J B D) H locs → W p l e { frames := 2, cells := 0, slots := 0, locals := 47 } s m ([.ref (ad 0), .int a0] : List Value).toArray below meth c H locs 0 0 (MQ below (va_Qi (fun (r : Int32) (u : zS) => Post r u.1 u.2.1 u.2.2.1 u.2.2.2) (fun u t => zPost G K A (wM ad K u.1 u.2.1 u.2.2.1 u.2.2.2) t) A) ([.ref (ad 0), .int a0] : List Value).toArray s 0 0 A) (F0 m 2 ls [])) : ∀ (x2 : Int32) (I : Nat → Int32) (J : Nat → Int64) (B : Nat → Nat → Int32) (D : Nat → Nat → Int64) (ls : Array Slot) (H : Heap) (locs : List Loc), wb_LassoFinderModel_jumps_2 a0 K2 Post x2 I J B D → lv_has ls 4 [(0, .ref (ad 0)), (2, .int x2)] → zW G A s.heap (wM ad K I J B D) H locs → W p l e { frames := 2, cells := 0, slots := 0, locals := 47 } s m ([.ref (ad 0), .int a0] : List Value).toArray below meth c H locs 0 0 (MQ below (va_Qi (fun (r : Int32) (u : zS) => Post r u.1 u.2.1 u.2.2.1 u.2.2.2) (fun u t => zPost G K A (wM ad K u.1 u.2.1 u.2.2.1 u.2.2.2) t) A) ([.ref (ad 0), .int a0] : List Value).toArray s 0 0 A) (F0 m 2 ls []) := by
  obtain ⟨hx, hb, hr, hml, hts, hown, hlocks, hA, hK⟩ := id C
  intro x2 I J B D ls H locs hok hl hw
  unfold wb_LassoFinderModel_jumps_2 at hok
  refine lv_iload_n hx hb zd_LassoFinderModel_jumps_2 rfl (lv_at hl 1 rfl) ?_
  refine lv_aload_n hx hb zd_LassoFinderModel_jumps_3 rfl (lv_at hl 0 rfl) ?_
  refine z_get (v := .int (I 8)) hx hb hts hown hK hw zZ12 0 rfl 13 (by decide) zm_307 rfl zd_LassoFinderModel_jumps_4 ?_
  refine lv_icmp_ge (tgt := 76) hx hb zd_LassoFinderModel_jumps_7 (by decide) (fun hc3 => ?_) (fun hc3 => ?_)
  · have hok := hok.1 hc3
    refine lv_iconst (v := 1) hx hb zd_LassoFinderModel_jumps_76 (by decide) ?_
    exact z_iret (u := (I, J, B, D)) hx hb hr hlocks rfl hw [0, 1, 2, 3, 4, 5, 6, 7, 8, 9, 10, 11, 12, 13, 14, 15, 16, 17, 18, 19, 20, 21, 22, 23, 24, 25, 26, 27, 28, 29, 30, 31, 32, 33, 34, 35, 36, 37, 38, 39, 40, 41, 42, 43, 44, 45, 46, 47, 48, 49, 50, 51, 52, 53, 54, 55, 56, 57] rfl (by decide) hok (Nat.le_of_ble_eq_true rfl) (Nat.le_of_ble_eq_true rfl) zd_LassoFinderModel_jumps_77
  · have hok := hok.2 hc3
    refine lv_aload_n hx hb zd_LassoFinderModel_jumps_10 rfl (lv_at hl 0 rfl) ?_
    refine z_get (v := .ref (ad 6)) hx hb hts hown hK hw zZ12 0 rfl 14 (by decide) zm_240 rfl zd_LassoFinderModel_jumps_11 ?_
    refine lv_iload_n hx hb zd_LassoFinderModel_jumps_14 rfl (lv_at hl 1 rfl) ?_
    refine va_iald (f := (B 5)) hx hb hK hw.1 6 0 rfl rfl hok.1 zd_LassoFinderModel_jumps_15 ?_
    have hok := hok.2
    refine lv_topi (fun z4 ez4 => ?_)
    have hok := hok z4 ez4
    refine lv_bipush (v := 10) hx hb zd_LassoFinderModel_jumps_16 (by decide) ?_
    refine lv_icmp_eq (tgt := 24) hx hb zd_LassoFinderModel_jumps_18 (by decide) (fun hc5 => ?_) (fun hc5 => ?_)
    · have hok := hok.1 hc5
      refine lv_aload_n hx hb zd_LassoFinderModel_jumps_24 rfl (lv_at hl 0 rfl) ?_
      refine z_get (v := .ref (ad 23)) hx hb hts hown hK hw zZ12 0 rfl 33 (by decide) zm_257 rfl zd_LassoFinderModel_jumps_25 ?_
      refine lv_bipush (v := 8) hx hb zd_LassoFinderModel_jumps_28 (by decide) ?_
      refine lv_aload_n hx hb zd_LassoFinderModel_jumps_30 rfl (lv_at hl 0 rfl) ?_
      refine z_get (v := .int (I 10)) hx hb hts hown hK hw zZ12 0 rfl 30 (by decide) zm_310 rfl zd_LassoFinderModel_jumps_31 ?_
      refine lv_imul hx hb zd_LassoFinderModel_jumps_34 ?_
      refine lv_topi (fun z6 ez6 => ?_)
      have hok := hok z6 ez6
      refine lv_aload_n hx hb zd_LassoFinderModel_jumps_35 rfl (lv_at hl 0 rfl) ?_
      refine z_get (v := .ref (ad 13)) hx hb hts hown hK hw zZ12 0 rfl 21 (by decide) zm_247 rfl zd_LassoFinderModel_jumps_36 ?_
      refine lv_iload_n hx hb zd_LassoFinderModel_jumps_39 rfl (lv_at hl 1 rfl) ?_
      refine va_iald (f := (B 12)) hx hb hK hw.1 13 0 rfl rfl hok.1 zd_LassoFinderModel_jumps_40 ?_
      have hok := hok.2
      refine lv_topi (fun z7 ez7 => ?_)
      have hok := hok z7 ez7
      refine lv_iadd hx hb zd_LassoFinderModel_jumps_41 ?_
      refine lv_topi (fun z8 ez8 => ?_)
      have hok := hok z8 ez8
      refine va_iald (f := (B 22)) hx hb hK hw.1 23 0 rfl rfl hok.1 zd_LassoFinderModel_jumps_42 ?_
      have hok := hok.2
      refine lv_topi (fun z9 ez9 => ?_)
      have hok := hok z9 ez9
      refine lv_istore_n hx hb zd_LassoFinderModel_jumps_43 rfl hl (by decide) rfl (fun ls hl => ?_)
      have hl : lv_has ls 4 [(3, .int z9), (0, .ref (ad 0)), (2, .int x2)] := hl
      refine lv_iload_n hx hb zd_LassoFinderModel_jumps_44 rfl (lv_at hl 0 rfl) ?_
      refine lv_if_lt (tgt := 58) hx hb zd_LassoFinderModel_jumps_45 (by decide) (fun hc10 => ?_) (fun hc10 => ?_)
      · have hok := hok.1 hc10
        exact wJ_LassoFinderModel_jumps_58 G K ad a0 Post C x2 I J B D ls H locs hok (lv_sub hl [1, 2] rfl) hw
      · have hok := hok.2 hc10
        refine lv_aload_n hx hb zd_LassoFinderModel_jumps_48 rfl (lv_at hl 1 rfl) ?_
        refine lv_iload_n hx hb zd_LassoFinderModel_jumps_49 rfl (lv_at hl 0 rfl) ?_
        refine z_calli (w1 := fun (u : zS) => wM ad K u.1 u.2.1 u.2.2.1 u.2.2.2) (wr := []) (z_runV (q0 := 0) (wc := (wM ad K I J B D)) (As := [.int z9]) (rest := []) ⟨hx, hb, hml, hown, hts⟩ (w_LassoFinderModel_instead l G K ad I J B D z9 _ H.size hok) zf_LassoFinderModel_instead zm_305 ⟨Nat.le_of_ble_eq_true rfl, Nat.le_of_ble_eq_true rfl⟩ hK hw [0, 1, 2, 3, 4, 5, 6, 7, 8, 9, 10, 11, 12, 13, 14, 15, 16, 17, 18, 19, 20, 21, 22, 23, 24, 25, 26, 27, 28, 29, 30, 31, 32, 33, 34, 35, 36, 37, 38, 39, 40, 41, 42, 43, 44, 45, 46, 47, 48, 49, 50, 51, 52, 53, 54, 55, 56, 57] rfl (by decide) rfl rfl rfl hl.1 rfl (Nat.le_of_ble_eq_true rfl) zd_LassoFinderModel_jumps_50 ⟨Nat.le_of_ble_eq_true rfl, Nat.le_of_ble_eq_true rfl⟩) hw hA [0, 1, 2, 3, 4, 5, 6, 7, 8, 9, 10, 11, 12, 13, 14, 15, 16, 17, 18, 19, 20, 21, 22, 23, 24, 25, 26, 27, 28, 29, 30, 31, 32, 33, 34, 35, 36, 37, 38, 39, 40, 41, 42, 43, 44, 45, 46, 47, 48, 49, 50, 51, 52, 53, 54, 55, 56, 57] [] rfl rfl (by decide) (by decide) (fun r11 u H locs hok hw => ?_)
        obtain ⟨I11, J11, B11, D11⟩ := u
        dsimp only at hok
        have hw : zW G A s.heap (wM ad K I11 J11 B11 D11) H locs := hw
        refine lv_bipush (v := (-3)) hx hb zd_LassoFinderModel_jumps_53 (by decide) ?_
        refine lv_icmp_ne (tgt := 70) hx hb zd_LassoFinderModel_jumps_55 (by decide) (fun hc12 => ?_) (fun hc12 => ?_)
        · have hok := hok.1 hc12
          exact wJ_LassoFinderModel_jumps_70 G K ad a0 Post C K2 kh2 x2 I11 J11 B11 D11 ls H locs hok (lv_sub hl [1, 2] rfl) hw
        · have hok := hok.2 hc12
          exact wJ_LassoFinderModel_jumps_58 G K ad a0 Post C x2 I11 J11 B11 D11 ls H locs hok (lv_sub hl [1, 2] rfl) hw
    · have hok := hok.2 hc5
      refine lv_goto (tgt := 70) hx hb zd_LassoFinderModel_jumps_21 (by decide) ?_
      exact wJ_LassoFinderModel_jumps_70 G K ad a0 Post C K2 kh2 x2 I J B D ls H locs hok (lv_sub hl [0, 1] rfl) hw
theorem wL_LassoFinderModel_jumps_2 {p : Program} {l : Launch} {e : Env} {s : State} {m : MethodId} {below : List Frame} {meth : Method} {c : Code} {A : Nat → Prop} (G : va_G) (K : Nat → ClassId) (ad : Nat → Nat) (a0 : Int32) (Post : Int32 → (Nat → Int32) → (Nat → Int64) → (Nat → Nat → Int32) → (Nat → Nat → Int64) → Prop) (C : zCx p s m ([.ref (ad 0), .int a0] : List Value).toArray meth c A G K prog_14_method_23_code (some .boolean) 4 "LassoFinderModel") : ∀ (n : Nat) (x2 : Int32) (I : Nat → Int32) (J : Nat → Int64) (B : Nat → Nat → Int32) (D : Nat → Nat → Int64) (ls : Array Slot) (H : Heap) (locs : List Loc), wl_LassoFinderModel_jumps_2 a0 Post n x2 I J B D → lv_has ls 4 [(0, .ref (ad 0)), (2, .int x2)] → zW G A s.heap (wM ad K I J B D) H locs → W p l e { frames := 2, cells := 0, slots := 0, locals := 47 } s m ([.ref (ad 0), .int a0] : List Value).toArray below meth c H locs 0 0 (MQ below (va_Qi (fun (r : Int32) (u : zS) => Post r u.1 u.2.1 u.2.2.1 u.2.2.2) (fun u t => zPost G K A (wM ad K u.1 u.2.1 u.2.2.1 u.2.2.2) t) A) ([.ref (ad 0), .int a0] : List Value).toArray s 0 0 A) (F0 m 2 ls []) := by
  intro n
  induction n with
  | zero => intro x2 I J B D ls H locs hok; exact hok.elim
  | succ n ih => exact wB_LassoFinderModel_jumps_2 G K ad a0 Post C (wl_LassoFinderModel_jumps_2 a0 Post n) ih
set_option maxHeartbeats 8000000 in
set_option maxRecDepth 100000 in
theorem w_LassoFinderModel_jumps (l : Launch) (G : va_G) (K : Nat → ClassId) (ad : Nat → Nat) (I : Nat → Int32) (J : Nat → Int64) (B : Nat → Nat → Int32) (D : Nat → Nat → Int64) (a0 : Int32) (Post : Int32 → (Nat → Int32) → (Nat → Int64) → (Nat → Nat → Int32) → (Nat → Nat → Int64) → Prop) (sz : Nat) (hok : wp_LassoFinderModel_jumps I J B D a0 Post) : Met l zy_LassoFinderModel_jumps (Cond.code zy_LassoFinderModel_jumps prog_14_method_23_code 4 (some .boolean) :: zTB) { frames := 2, cells := 0, slots := 0, locals := 47 } (va_Pc [.ref (ad 0), .int a0] (zPre G K (wM ad K I J B D) sz)) (va_Qi (fun (r : Int32) (u : zS) => Post r u.1 u.2.1 u.2.2.1 u.2.2.2) (fun u t => zPost G K (va_A (wM ad K I J B D) sz) (wM ad K u.1 u.2.1 u.2.2.1 u.2.2.2) t) (va_A (wM ad K I J B D) sz)) 0 0 (va_A (wM ad K I J B D) sz) := by
  refine zMet (y := zy_LassoFinderModel_jumps) (av := [.ref (ad 0), .int a0]) (maxL := 4) (cc := prog_14_method_23_code) (ret := (some .boolean)) (W0 := (wM ad K I J B D)) (sz := sz) (G := G) (K := K) (wt := zTB) (mc := 0) (ms := 0) (Qf := fun A => va_Qi (fun (r : Int32) (u : zS) => Post r u.1 u.2.1 u.2.2.1 u.2.2.2) (fun u t => zPost G K A (wM ad K u.1 u.2.1 u.2.2.1 u.2.2.2) t) A) (by decide) (Nat.le_of_ble_eq_true rfl) ?_
  intro p e s m below meth c ls A hx hb hr hml hts hown hlocks hin hA hK H locs hw hsz hl
  clear hsz
  have hown : s.vm.findClass "LassoFinderModel" = some m.cls := hown
  have C : zCx p s m ([.ref (ad 0), .int a0] : List Value).toArray meth c A G K prog_14_method_23_code (some .boolean) 4 "LassoFinderModel" := ⟨hx, hb, hr, hml, hts, hown, hlocks, hA, hK⟩
  have hl : lv_has ls 4 [(0, .ref (ad 0)), (1, .int a0)] := hl
  have hw : zW G A s.heap (wM ad K I J B D) H locs := hw
  unfold wp_LassoFinderModel_jumps at hok
  refine lv_iload_n hx hb zd_LassoFinderModel_jumps_0 rfl (lv_at hl 1 rfl) ?_
  refine lv_istore_n hx hb zd_LassoFinderModel_jumps_1 rfl hl (by decide) rfl (fun ls hl => ?_)
  have hl : lv_has ls 4 [(2, .int a0), (0, .ref (ad 0)), (1, .int a0)] := hl
  obtain ⟨n9, hok⟩ := hok
  exact wL_LassoFinderModel_jumps_2 G K ad a0 Post C n9 a0 I J B D ls H locs hok (lv_sub hl [1, 0] rfl) hw
def wp_LassoFinderModel_enter (I : Nat → Int32) (J : Nat → Int64) (B : Nat → Nat → Int32) (D : Nat → Nat → Int64) (a0 : Int32) (a1 : Int32) (Post : (Nat → Int32) → (Nat → Int64) → (Nat → Nat → Int32) → (Nat → Nat → Int64) → Prop) : Prop :=
  ∀ z1 : Int32, z1 = ((I 12) + 1) → vp_in z1 8 ∧ vp_in z1 8 ∧ vp_in z1 8 ∧ ∀ z2 : Int32, z2 = ((I 2) + 1) → Post (upd (upd I 12 z1) 2 z2) J (va_up (va_up (va_up B 25 (upd (B 25) z1.toNatClampNeg a0)) 26 (upd (B 26) z1.toNatClampNeg a1)) 27 (upd (B 27) z1.toNatClampNeg (-1))) D
set_option maxHeartbeats 8000000 in
set_option maxRecDepth 100000 in
theorem w_LassoFinderModel_enter (l : Launch) (G : va_G) (K : Nat → ClassId) (ad : Nat → Nat) (I : Nat → Int32) (J : Nat → Int64) (B : Nat → Nat → Int32) (D : Nat → Nat → Int64) (a0 : Int32) (a1 : Int32) (Post : (Nat → Int32) → (Nat → Int64) → (Nat → Nat → Int32) → (Nat → Nat → Int64) → Prop) (sz : Nat) (hok : wp_LassoFinderModel_enter I J B D a0 a1 Post) : Met l zy_LassoFinderModel_enter (Cond.code zy_LassoFinderModel_enter prog_14_method_17_code 3 none :: zTB) { frames := 0, cells := 0, slots := 0, locals := 0 } (va_Pc [.ref (ad 0), .int a0, .int a1] (zPre G K (wM ad K I J B D) sz)) (va_Qv (fun u : zS => Post u.1 u.2.1 u.2.2.1 u.2.2.2) (fun u t => zPost G K (va_A (wM ad K I J B D) sz) (wM ad K u.1 u.2.1 u.2.2.1 u.2.2.2) t) (va_A (wM ad K I J B D) sz)) 0 0 (va_A (wM ad K I J B D) sz) := by
  refine zMet (y := zy_LassoFinderModel_enter) (av := [.ref (ad 0), .int a0, .int a1]) (maxL := 3) (cc := prog_14_method_17_code) (ret := none) (W0 := (wM ad K I J B D)) (sz := sz) (G := G) (K := K) (wt := zTB) (mc := 0) (ms := 0) (Qf := fun A => va_Qv (fun u : zS => Post u.1 u.2.1 u.2.2.1 u.2.2.2) (fun u t => zPost G K A (wM ad K u.1 u.2.1 u.2.2.1 u.2.2.2) t) A) (by decide) (Nat.le_of_ble_eq_true rfl) ?_
  intro p e s m below meth c ls A hx hb hr hml hts hown hlocks hin hA hK H locs hw hsz hl
  clear hsz
  have hown : s.vm.findClass "LassoFinderModel" = some m.cls := hown
  have C : zCx p s m ([.ref (ad 0), .int a0, .int a1] : List Value).toArray meth c A G K prog_14_method_17_code none 3 "LassoFinderModel" := ⟨hx, hb, hr, hml, hts, hown, hlocks, hA, hK⟩
  have hl : lv_has ls 3 [(0, .ref (ad 0)), (1, .int a0), (2, .int a1)] := hl
  have hw : zW G A s.heap (wM ad K I J B D) H locs := hw
  unfold wp_LassoFinderModel_enter at hok
  refine lv_aload_n hx hb zd_LassoFinderModel_enter_0 rfl (lv_at hl 0 rfl) ?_
  refine lv_dup hx hb zd_LassoFinderModel_enter_1 rfl ?_
  refine z_get (v := .int (I 12)) hx hb hts hown hK hw zZ12 0 rfl 38 (by decide) zm_338 rfl zd_LassoFinderModel_enter_2 ?_
  refine lv_iconst (v := 1) hx hb zd_LassoFinderModel_enter_5 (by decide) ?_
  refine lv_iadd hx hb zd_LassoFinderModel_enter_6 ?_
  refine lv_topi (fun z1 ez1 => ?_)
  have hok := hok z1 ez1
  refine z_put (v := .int z1) hx hb hts hown hK hw zZ12 0 rfl 38 (by decide) zm_338 rfl rfl rfl (Nat.le_of_ble_eq_true rfl) zd_LassoFinderModel_enter_7 (fun H locs hw => ?_)
  have hw : zW G A s.heap (wM ad K (upd I 12 z1) J B D) H locs := hw
  refine lv_aload_n hx hb zd_LassoFinderModel_enter_10 rfl (lv_at hl 0 rfl) ?_
  refine z_get (v := .ref (ad 27)) hx hb hts hown hK hw zZ12 0 rfl 39 (by decide) zm_261 rfl zd_LassoFinderModel_enter_11 ?_
  refine lv_aload_n hx hb zd_LassoFinderModel_enter_14 rfl (lv_at hl 0 rfl) ?_
  refine z_get (v := .int z1) hx hb hts hown hK hw zZ12 0 rfl 38 (by decide) zm_338 rfl zd_LassoFinderModel_enter_15 ?_
  refine lv_iload_n hx hb zd_LassoFinderModel_enter_18 rfl (lv_at hl 1 rfl) ?_
  refine va_iast (f := (B 25)) hx hb hK hw.1 hw.2.1 hw.2.2 27 0 rfl rfl hok.1 zd_LassoFinderModel_enter_19 (fun H locs w91 w92 w93 => ?_)
  have hok := hok.2
  have hw : zW G A s.heap _ H locs := ⟨w91, w92, w93⟩
  have hw : zW G A s.heap (wM ad K (upd I 12 z1) J (va_up B 25 (upd (B 25) z1.toNatClampNeg a0)) D) H locs := hw
  refine lv_aload_n hx hb zd_LassoFinderModel_enter_20 rfl (lv_at hl 0 rfl) ?_
  refine z_get (v := .ref (ad 28)) hx hb hts hown hK hw zZ12 0 rfl 40 (by decide) zm_262 rfl zd_LassoFinderModel_enter_21 ?_
  refine lv_aload_n hx hb zd_LassoFinderModel_enter_24 rfl (lv_at hl 0 rfl) ?_
  refine z_get (v := .int z1) hx hb hts hown hK hw zZ12 0 rfl 38 (by decide) zm_338 rfl zd_LassoFinderModel_enter_25 ?_
  refine lv_iload_n hx hb zd_LassoFinderModel_enter_28 rfl (lv_at hl 2 rfl) ?_
  refine va_iast (f := (B 26)) hx hb hK hw.1 hw.2.1 hw.2.2 28 0 rfl rfl hok.1 zd_LassoFinderModel_enter_29 (fun H locs w91 w92 w93 => ?_)
  have hok := hok.2
  have hw : zW G A s.heap _ H locs := ⟨w91, w92, w93⟩
  have hw : zW G A s.heap (wM ad K (upd I 12 z1) J (va_up (va_up B 25 (upd (B 25) z1.toNatClampNeg a0)) 26 (upd (B 26) z1.toNatClampNeg a1)) D) H locs := hw
  refine lv_aload_n hx hb zd_LassoFinderModel_enter_30 rfl (lv_at hl 0 rfl) ?_
  refine z_get (v := .ref (ad 29)) hx hb hts hown hK hw zZ12 0 rfl 41 (by decide) zm_263 rfl zd_LassoFinderModel_enter_31 ?_
  refine lv_aload_n hx hb zd_LassoFinderModel_enter_34 rfl (lv_at hl 0 rfl) ?_
  refine z_get (v := .int z1) hx hb hts hown hK hw zZ12 0 rfl 38 (by decide) zm_338 rfl zd_LassoFinderModel_enter_35 ?_
  refine lv_iconst (v := (-1)) hx hb zd_LassoFinderModel_enter_38 (by decide) ?_
  refine va_iast (f := (B 27)) hx hb hK hw.1 hw.2.1 hw.2.2 29 0 rfl rfl hok.1 zd_LassoFinderModel_enter_39 (fun H locs w91 w92 w93 => ?_)
  have hok := hok.2
  have hw : zW G A s.heap _ H locs := ⟨w91, w92, w93⟩
  have hw : zW G A s.heap (wM ad K (upd I 12 z1) J (va_up (va_up (va_up B 25 (upd (B 25) z1.toNatClampNeg a0)) 26 (upd (B 26) z1.toNatClampNeg a1)) 27 (upd (B 27) z1.toNatClampNeg (-1))) D) H locs := hw
  refine lv_aload_n hx hb zd_LassoFinderModel_enter_40 rfl (lv_at hl 0 rfl) ?_
  refine lv_dup hx hb zd_LassoFinderModel_enter_41 rfl ?_
  refine z_get (v := .int (I 2)) hx hb hts hown hK hw zZ12 0 rfl 3 (by decide) zm_335 rfl zd_LassoFinderModel_enter_42 ?_
  refine lv_iconst (v := 1) hx hb zd_LassoFinderModel_enter_45 (by decide) ?_
  refine lv_iadd hx hb zd_LassoFinderModel_enter_46 ?_
  refine lv_topi (fun z2 ez2 => ?_)
  have hok := hok z2 ez2
  refine z_put (v := .int z2) hx hb hts hown hK hw zZ12 0 rfl 3 (by decide) zm_335 rfl rfl rfl (Nat.le_of_ble_eq_true rfl) zd_LassoFinderModel_enter_47 (fun H locs hw => ?_)
  have hw : zW G A s.heap (wM ad K (upd (upd I 12 z1) 2 z2) J (va_up (va_up (va_up B 25 (upd (B 25) z1.toNatClampNeg a0)) 26 (upd (B 26) z1.toNatClampNeg a1)) 27 (upd (B 27) z1.toNatClampNeg (-1))) D) H locs := hw
  exact z_vret (u := ((upd (upd I 12 z1) 2 z2), J, (va_up (va_up (va_up B 25 (upd (B 25) z1.toNatClampNeg a0)) 26 (upd (B 26) z1.toNatClampNeg a1)) 27 (upd (B 27) z1.toNatClampNeg (-1))), D)) hx hb hr hlocks hw [0, 1, 2, 3, 4, 5, 6, 7, 8, 9, 10, 11, 12, 13, 14, 15, 16, 17, 18, 19, 20, 21, 22, 23, 24, 25, 26, 27, 28, 29, 30, 31, 32, 33, 34, 35, 36, 37, 38, 39, 40, 41, 42, 43, 44, 45, 46, 47, 48, 49, 50, 51, 52, 53, 54, 55, 56, 57] rfl (by decide) hok (Nat.le_of_ble_eq_true rfl) (Nat.le_of_ble_eq_true rfl) zd_LassoFinderModel_enter_50
