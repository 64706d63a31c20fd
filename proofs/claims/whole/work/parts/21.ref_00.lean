abbrev zy_LassoFinderModel_thrown : MethodName := ⟨"LassoFinderModel", "thrown", "()I"⟩
abbrev zy_LassoFinderModel_write : MethodName := ⟨"LassoFinderModel", "write", "(J)Z"⟩
abbrev zy_LassoFinderModel_in : MethodName := ⟨"LassoFinderModel", "in", "(III)Z"⟩
abbrev zy_LassoFinderModel_instead : MethodName := ⟨"LassoFinderModel", "instead", "(I)I"⟩
abbrev zy_LassoFinderModel_next : MethodName := ⟨"LassoFinderModel", "next", "(I)I"⟩
abbrev zy_LassoFinderModel_pointOf : MethodName := ⟨"LassoFinderModel", "pointOf", "(II)I"⟩
theorem zm_235 : Cond.fieldLink "LassoFinderModel" 7 "LassoFinderModel" "text" "[I" ∈ zTB := z_in (zt_6 _ (List.mem_of_getElem? (i := 96) rfl)) rfl
theorem zm_240 : Cond.fieldLink "LassoFinderModel" 29 "LassoFinderModel" "kind" "[I" ∈ zTB := z_in (zt_6 _ (List.mem_of_getElem? (i := 108) rfl)) rfl
theorem zm_241 : Cond.fieldLink "LassoFinderModel" 32 "LassoFinderModel" "process" "[I" ∈ zTB := z_in (zt_6 _ (List.mem_of_getElem? (i := 109) rfl)) rfl
theorem zm_242 : Cond.fieldLink "LassoFinderModel" 35 "LassoFinderModel" "parent" "[I" ∈ zTB := z_in (zt_6 _ (List.mem_of_getElem? (i := 110) rfl)) rfl
theorem zm_243 : Cond.fieldLink "LassoFinderModel" 38 "LassoFinderModel" "sibling" "[I" ∈ zTB := z_in (zt_6 _ (List.mem_of_getElem? (i := 111) rfl)) rfl
theorem zm_246 : Cond.fieldLink "LassoFinderModel" 48 "LassoFinderModel" "point" "[I" ∈ zTB := z_in (zt_6 _ (List.mem_of_getElem? (i := 114) rfl)) rfl
theorem zm_247 : Cond.fieldLink "LassoFinderModel" 51 "LassoFinderModel" "arg" "[I" ∈ zTB := z_in (zt_6 _ (List.mem_of_getElem? (i := 115) rfl)) rfl
theorem zm_255 : Cond.fieldLink "LassoFinderModel" 75 "LassoFinderModel" "points" "[I" ∈ zTB := z_in (zt_6 _ (List.mem_of_getElem? (i := 125) rfl)) rfl
theorem zm_257 : Cond.fieldLink "LassoFinderModel" 81 "LassoFinderModel" "labels" "[I" ∈ zTB := z_in (zt_6 _ (List.mem_of_getElem? (i := 127) rfl)) rfl
theorem zm_292 : Cond.fieldLink "LassoFinderModel" 193 "LassoFinderModel" "thrown" "I" ∈ zTB := z_in (zt_6 _ (List.mem_of_getElem? (i := 94) rfl)) rfl
theorem zm_293 : Cond.methodLink "LassoFinderModel" 196 ⟨"LassoFinderModel", "in", "(III)Z"⟩ ∈ zTB := z_in (zt_7 _ (List.mem_of_getElem? (i := 115) rfl)) rfl
theorem zm_294 : Cond.fieldLink "LassoFinderModel" 200 "LassoFinderModel" "length" "I" ∈ zTB := z_in (zt_6 _ (List.mem_of_getElem? (i := 95) rfl)) rfl
theorem zm_304 : Cond.methodLink "LassoFinderModel" 277 ⟨"LassoFinderModel", "next", "(I)I"⟩ ∈ zTB := z_in (zt_7 _ (List.mem_of_getElem? (i := 197) rfl)) rfl
theorem zm_307 : Cond.fieldLink "LassoFinderModel" 251 "LassoFinderModel" "nodes" "I" ∈ zTB := z_in (zt_6 _ (List.mem_of_getElem? (i := 107) rfl)) rfl
theorem zm_382 : Cond.code ⟨"LassoFinderModel", "in", "(III)Z"⟩ prog_14_method_3_code 3 (some .boolean) ∈ zTB := z_in (zt_7 _ (List.mem_of_getElem? (i := 117) rfl)) rfl
theorem zm_383 : Cond.static ⟨"LassoFinderModel", "in", "(III)Z"⟩ ∈ zTB := z_in (zt_7 _ (List.mem_of_getElem? (i := 116) rfl)) rfl
theorem zm_384 : Cond.code ⟨"LassoFinderModel", "next", "(I)I"⟩ prog_14_method_21_code 4 (some .int) ∈ zTB := z_in (zt_7 _ (List.mem_of_getElem? (i := 200) rfl)) rfl
theorem zm_385 : Cond.instanceMethod ⟨"LassoFinderModel", "next", "(I)I"⟩ ∈ zTB := z_in (zt_7 _ (List.mem_of_getElem? (i := 199) rfl)) rfl
theorem zf_LassoFinderModel_in : zFaceS zy_LassoFinderModel_in prog_14_method_3_code 3 (some .boolean) 3 := ⟨zm_383, zm_25, zm_382, by decide +kernel, by decide +kernel, by decide +kernel⟩
theorem zf_LassoFinderModel_next : zFaceV zy_LassoFinderModel_next prog_14_method_21_code 4 (some .int) 1 := ⟨zm_385, (z_in (zp_6 _ (List.mem_of_getElem? (i := 10) rfl)) rfl), zm_25, zm_384, by decide +kernel, by decide +kernel, by decide +kernel⟩
theorem zd_LassoFinderModel_in_0 : decode prog_14_method_3_code 0 = .ok (.iload_n 0, 1) := by decide +kernel
theorem zd_LassoFinderModel_in_1 : decode prog_14_method_3_code 1 = .ok (.iload_n 1, 1) := by decide +kernel
theorem zd_LassoFinderModel_in_2 : decode prog_14_method_3_code 2 = .ok (.if_icmp .lt 12, 3) := by decide +kernel
theorem zd_LassoFinderModel_in_5 : decode prog_14_method_3_code 5 = .ok (.iload_n 0, 1) := by decide +kernel
theorem zd_LassoFinderModel_in_6 : decode prog_14_method_3_code 6 = .ok (.iload_n 2, 1) := by decide +kernel
theorem zd_LassoFinderModel_in_7 : decode prog_14_method_3_code 7 = .ok (.if_icmp .gt 7, 3) := by decide +kernel
theorem zd_LassoFinderModel_in_10 : decode prog_14_method_3_code 10 = .ok (.iconst 1, 1) := by decide +kernel
theorem zd_LassoFinderModel_in_11 : decode prog_14_method_3_code 11 = .ok (.goto 4, 3) := by decide +kernel
theorem zd_LassoFinderModel_in_14 : decode prog_14_method_3_code 14 = .ok (.iconst 0, 1) := by decide +kernel
theorem zd_LassoFinderModel_in_15 : decode prog_14_method_3_code 15 = .ok (.ireturn, 1) := by decide +kernel
theorem zd_LassoFinderModel_instead_0 : decode prog_14_method_22_code 0 = .ok (.iload_n 1, 1) := by decide +kernel
theorem zd_LassoFinderModel_instead_1 : decode prog_14_method_22_code 1 = .ok (.istore_n 2, 1) := by decide +kernel
theorem zd_LassoFinderModel_instead_2 : decode prog_14_method_22_code 2 = .ok (.iconst 0, 1) := by decide +kernel
theorem zd_LassoFinderModel_instead_3 : decode prog_14_method_22_code 3 = .ok (.istore_n 3, 1) := by decide +kernel
theorem zd_LassoFinderModel_instead_4 : decode prog_14_method_22_code 4 = .ok (.iload_n 3, 1) := by decide +kernel
theorem zd_LassoFinderModel_instead_5 : decode prog_14_method_22_code 5 = .ok (.iconst 2, 1) := by decide +kernel
theorem zd_LassoFinderModel_instead_6 : decode prog_14_method_22_code 6 = .ok (.aload_n 0, 1) := by decide +kernel
theorem zd_LassoFinderModel_instead_7 : decode prog_14_method_22_code 7 = .ok (.getfield 251, 3) := by decide +kernel
theorem zd_LassoFinderModel_instead_10 : decode prog_14_method_22_code 10 = .ok (.imul, 1) := by decide +kernel
theorem zd_LassoFinderModel_instead_11 : decode prog_14_method_22_code 11 = .ok (.if_icmp .gt 124, 3) := by decide +kernel
theorem zd_LassoFinderModel_instead_14 : decode prog_14_method_22_code 14 = .ok (.iload_n 2, 1) := by decide +kernel
theorem zd_LassoFinderModel_instead_15 : decode prog_14_method_22_code 15 = .ok (.ifCond .lt 14, 3) := by decide +kernel
theorem zd_LassoFinderModel_instead_18 : decode prog_14_method_22_code 18 = .ok (.aload_n 0, 1) := by decide +kernel
theorem zd_LassoFinderModel_instead_19 : decode prog_14_method_22_code 19 = .ok (.getfield 29, 3) := by decide +kernel
theorem zd_LassoFinderModel_instead_22 : decode prog_14_method_22_code 22 = .ok (.iload_n 2, 1) := by decide +kernel
theorem zd_LassoFinderModel_instead_23 : decode prog_14_method_22_code 23 = .ok (.iaload, 1) := by decide +kernel
theorem zd_LassoFinderModel_instead_24 : decode prog_14_method_22_code 24 = .ok (.bipush 8, 2) := by decide +kernel
theorem zd_LassoFinderModel_instead_26 : decode prog_14_method_22_code 26 = .ok (.if_icmp .ge 5, 3) := by decide +kernel
theorem zd_LassoFinderModel_instead_29 : decode prog_14_method_22_code 29 = .ok (.iload_n 2, 1) := by decide +kernel
theorem zd_LassoFinderModel_instead_30 : decode prog_14_method_22_code 30 = .ok (.ireturn, 1) := by decide +kernel
theorem zd_LassoFinderModel_instead_31 : decode prog_14_method_22_code 31 = .ok (.aload_n 0, 1) := by decide +kernel
theorem zd_LassoFinderModel_instead_32 : decode prog_14_method_22_code 32 = .ok (.getfield 29, 3) := by decide +kernel
theorem zd_LassoFinderModel_instead_35 : decode prog_14_method_22_code 35 = .ok (.iload_n 2, 1) := by decide +kernel
theorem zd_LassoFinderModel_instead_36 : decode prog_14_method_22_code 36 = .ok (.iaload, 1) := by decide +kernel
theorem zd_LassoFinderModel_instead_37 : decode prog_14_method_22_code 37 = .ok (.bipush 8, 2) := by decide +kernel
theorem zd_LassoFinderModel_instead_39 : decode prog_14_method_22_code 39 = .ok (.if_icmp .ne 10, 3) := by decide +kernel
theorem zd_LassoFinderModel_instead_42 : decode prog_14_method_22_code 42 = .ok (.iload_n 2, 1) := by decide +kernel
theorem zd_LassoFinderModel_instead_43 : decode prog_14_method_22_code 43 = .ok (.iconst 1, 1) := by decide +kernel
theorem zd_LassoFinderModel_instead_44 : decode prog_14_method_22_code 44 = .ok (.iadd, 1) := by decide +kernel
theorem zd_LassoFinderModel_instead_45 : decode prog_14_method_22_code 45 = .ok (.istore_n 2, 1) := by decide +kernel
theorem zd_LassoFinderModel_instead_46 : decode prog_14_method_22_code 46 = .ok (.goto 83, 3) := by decide +kernel
theorem zd_LassoFinderModel_instead_49 : decode prog_14_method_22_code 49 = .ok (.aload_n 0, 1) := by decide +kernel
theorem zd_LassoFinderModel_instead_50 : decode prog_14_method_22_code 50 = .ok (.getfield 29, 3) := by decide +kernel
theorem zd_LassoFinderModel_instead_53 : decode prog_14_method_22_code 53 = .ok (.iload_n 2, 1) := by decide +kernel
theorem zd_LassoFinderModel_instead_54 : decode prog_14_method_22_code 54 = .ok (.iaload, 1) := by decide +kernel
theorem zd_LassoFinderModel_instead_55 : decode prog_14_method_22_code 55 = .ok (.bipush 10, 2) := by decide +kernel
theorem zd_LassoFinderModel_instead_57 : decode prog_14_method_22_code 57 = .ok (.if_icmp .ne 32, 3) := by decide +kernel
theorem zd_LassoFinderModel_instead_60 : decode prog_14_method_22_code 60 = .ok (.aload_n 0, 1) := by decide +kernel
theorem zd_LassoFinderModel_instead_61 : decode prog_14_method_22_code 61 = .ok (.getfield 81, 3) := by decide +kernel
theorem zd_LassoFinderModel_instead_64 : decode prog_14_method_22_code 64 = .ok (.bipush 8, 2) := by decide +kernel
theorem zd_LassoFinderModel_instead_66 : decode prog_14_method_22_code 66 = .ok (.aload_n 0, 1) := by decide +kernel
theorem zd_LassoFinderModel_instead_67 : decode prog_14_method_22_code 67 = .ok (.getfield 32, 3) := by decide +kernel
theorem zd_LassoFinderModel_instead_70 : decode prog_14_method_22_code 70 = .ok (.iload_n 2, 1) := by decide +kernel
theorem zd_LassoFinderModel_instead_71 : decode prog_14_method_22_code 71 = .ok (.iaload, 1) := by decide +kernel
theorem zd_LassoFinderModel_instead_72 : decode prog_14_method_22_code 72 = .ok (.imul, 1) := by decide +kernel
theorem zd_LassoFinderModel_instead_73 : decode prog_14_method_22_code 73 = .ok (.aload_n 0, 1) := by decide +kernel
theorem zd_LassoFinderModel_instead_74 : decode prog_14_method_22_code 74 = .ok (.getfield 51, 3) := by decide +kernel
theorem zd_LassoFinderModel_instead_77 : decode prog_14_method_22_code 77 = .ok (.iload_n 2, 1) := by decide +kernel
theorem zd_LassoFinderModel_instead_78 : decode prog_14_method_22_code 78 = .ok (.iaload, 1) := by decide +kernel
theorem zd_LassoFinderModel_instead_79 : decode prog_14_method_22_code 79 = .ok (.iadd, 1) := by decide +kernel
theorem zd_LassoFinderModel_instead_80 : decode prog_14_method_22_code 80 = .ok (.iaload, 1) := by decide +kernel
theorem zd_LassoFinderModel_instead_81 : decode prog_14_method_22_code 81 = .ok (.istore_n 2, 1) := by decide +kernel
theorem zd_LassoFinderModel_instead_82 : decode prog_14_method_22_code 82 = .ok (.iload_n 2, 1) := by decide +kernel
theorem zd_LassoFinderModel_instead_83 : decode prog_14_method_22_code 83 = .ok (.ifCond .ge 46, 3) := by decide +kernel
theorem zd_LassoFinderModel_instead_86 : decode prog_14_method_22_code 86 = .ok (.bipush (-2), 2) := by decide +kernel
theorem zd_LassoFinderModel_instead_88 : decode prog_14_method_22_code 88 = .ok (.ireturn, 1) := by decide +kernel
theorem zd_LassoFinderModel_instead_89 : decode prog_14_method_22_code 89 = .ok (.iconst 0, 1) := by decide +kernel
theorem zd_LassoFinderModel_instead_90 : decode prog_14_method_22_code 90 = .ok (.istore 4, 2) := by decide +kernel
theorem zd_LassoFinderModel_instead_92 : decode prog_14_method_22_code 92 = .ok (.iload 4, 2) := by decide +kernel
theorem zd_LassoFinderModel_instead_94 : decode prog_14_method_22_code 94 = .ok (.bipush 8, 2) := by decide +kernel
theorem zd_LassoFinderModel_instead_96 : decode prog_14_method_22_code 96 = .ok (.if_icmp .ge 27, 3) := by decide +kernel
theorem zd_LassoFinderModel_instead_99 : decode prog_14_method_22_code 99 = .ok (.aload_n 0, 1) := by decide +kernel
theorem zd_LassoFinderModel_instead_100 : decode prog_14_method_22_code 100 = .ok (.getfield 29, 3) := by decide +kernel
theorem zd_LassoFinderModel_instead_103 : decode prog_14_method_22_code 103 = .ok (.iload_n 2, 1) := by decide +kernel
theorem zd_LassoFinderModel_instead_104 : decode prog_14_method_22_code 104 = .ok (.iaload, 1) := by decide +kernel
theorem zd_LassoFinderModel_instead_105 : decode prog_14_method_22_code 105 = .ok (.bipush 7, 2) := by decide +kernel
theorem zd_LassoFinderModel_instead_107 : decode prog_14_method_22_code 107 = .ok (.if_icmp .eq 16, 3) := by decide +kernel
theorem zd_LassoFinderModel_instead_110 : decode prog_14_method_22_code 110 = .ok (.aload_n 0, 1) := by decide +kernel
theorem zd_LassoFinderModel_instead_111 : decode prog_14_method_22_code 111 = .ok (.getfield 35, 3) := by decide +kernel
theorem zd_LassoFinderModel_instead_114 : decode prog_14_method_22_code 114 = .ok (.iload_n 2, 1) := by decide +kernel
theorem zd_LassoFinderModel_instead_115 : decode prog_14_method_22_code 115 = .ok (.iaload, 1) := by decide +kernel
theorem zd_LassoFinderModel_instead_116 : decode prog_14_method_22_code 116 = .ok (.istore_n 2, 1) := by decide +kernel
theorem zd_LassoFinderModel_instead_117 : decode prog_14_method_22_code 117 = .ok (.iinc 4 1, 3) := by decide +kernel
theorem zd_LassoFinderModel_instead_120 : decode prog_14_method_22_code 120 = .ok (.goto (-28), 3) := by decide +kernel
theorem zd_LassoFinderModel_instead_123 : decode prog_14_method_22_code 123 = .ok (.aload_n 0, 1) := by decide +kernel
theorem zd_LassoFinderModel_instead_124 : decode prog_14_method_22_code 124 = .ok (.iload_n 2, 1) := by decide +kernel
theorem zd_LassoFinderModel_instead_125 : decode prog_14_method_22_code 125 = .ok (.invokevirtual 277, 3) := by decide +kernel
theorem zd_LassoFinderModel_instead_128 : decode prog_14_method_22_code 128 = .ok (.istore_n 2, 1) := by decide +kernel
theorem zd_LassoFinderModel_instead_129 : decode prog_14_method_22_code 129 = .ok (.iinc 3 1, 3) := by decide +kernel
theorem zd_LassoFinderModel_instead_132 : decode prog_14_method_22_code 132 = .ok (.goto (-128), 3) := by decide +kernel
theorem zd_LassoFinderModel_instead_135 : decode prog_14_method_22_code 135 = .ok (.bipush (-3), 2) := by decide +kernel
theorem zd_LassoFinderModel_instead_137 : decode prog_14_method_22_code 137 = .ok (.ireturn, 1) := by decide +kernel
theorem zd_LassoFinderModel_next_0 : decode prog_14_method_21_code 0 = .ok (.iload_n 1, 1) := by decide +kernel
theorem zd_LassoFinderModel_next_1 : decode prog_14_method_21_code 1 = .ok (.istore_n 2, 1) := by decide +kernel
theorem zd_LassoFinderModel_next_2 : decode prog_14_method_21_code 2 = .ok (.iconst 0, 1) := by decide +kernel
theorem zd_LassoFinderModel_next_3 : decode prog_14_method_21_code 3 = .ok (.istore_n 3, 1) := by decide +kernel
theorem zd_LassoFinderModel_next_4 : decode prog_14_method_21_code 4 = .ok (.iload_n 3, 1) := by decide +kernel
theorem zd_LassoFinderModel_next_5 : decode prog_14_method_21_code 5 = .ok (.bipush 8, 2) := by decide +kernel
theorem zd_LassoFinderModel_next_7 : decode prog_14_method_21_code 7 = .ok (.if_icmp .ge 53, 3) := by decide +kernel
theorem zd_LassoFinderModel_next_10 : decode prog_14_method_21_code 10 = .ok (.iload_n 2, 1) := by decide +kernel
theorem zd_LassoFinderModel_next_11 : decode prog_14_method_21_code 11 = .ok (.ifCond .lt 49, 3) := by decide +kernel
theorem zd_LassoFinderModel_next_14 : decode prog_14_method_21_code 14 = .ok (.aload_n 0, 1) := by decide +kernel
theorem zd_LassoFinderModel_next_15 : decode prog_14_method_21_code 15 = .ok (.getfield 38, 3) := by decide +kernel
theorem zd_LassoFinderModel_next_18 : decode prog_14_method_21_code 18 = .ok (.iload_n 2, 1) := by decide +kernel
theorem zd_LassoFinderModel_next_19 : decode prog_14_method_21_code 19 = .ok (.iaload, 1) := by decide +kernel
theorem zd_LassoFinderModel_next_20 : decode prog_14_method_21_code 20 = .ok (.ifCond .lt 10, 3) := by decide +kernel
theorem zd_LassoFinderModel_next_23 : decode prog_14_method_21_code 23 = .ok (.aload_n 0, 1) := by decide +kernel
theorem zd_LassoFinderModel_next_24 : decode prog_14_method_21_code 24 = .ok (.getfield 38, 3) := by decide +kernel
theorem zd_LassoFinderModel_next_27 : decode prog_14_method_21_code 27 = .ok (.iload_n 2, 1) := by decide +kernel
theorem zd_LassoFinderModel_next_28 : decode prog_14_method_21_code 28 = .ok (.iaload, 1) := by decide +kernel
theorem zd_LassoFinderModel_next_29 : decode prog_14_method_21_code 29 = .ok (.ireturn, 1) := by decide +kernel
theorem zd_LassoFinderModel_next_30 : decode prog_14_method_21_code 30 = .ok (.aload_n 0, 1) := by decide +kernel
theorem zd_LassoFinderModel_next_31 : decode prog_14_method_21_code 31 = .ok (.getfield 35, 3) := by decide +kernel
theorem zd_LassoFinderModel_next_34 : decode prog_14_method_21_code 34 = .ok (.iload_n 2, 1) := by decide +kernel
theorem zd_LassoFinderModel_next_35 : decode prog_14_method_21_code 35 = .ok (.iaload, 1) := by decide +kernel
theorem zd_LassoFinderModel_next_36 : decode prog_14_method_21_code 36 = .ok (.istore_n 2, 1) := by decide +kernel
theorem zd_LassoFinderModel_next_37 : decode prog_14_method_21_code 37 = .ok (.iload_n 2, 1) := by decide +kernel
theorem zd_LassoFinderModel_next_38 : decode prog_14_method_21_code 38 = .ok (.ifCond .lt 16, 3) := by decide +kernel
theorem zd_LassoFinderModel_next_41 : decode prog_14_method_21_code 41 = .ok (.aload_n 0, 1) := by decide +kernel
theorem zd_LassoFinderModel_next_42 : decode prog_14_method_21_code 42 = .ok (.getfield 29, 3) := by decide +kernel
theorem zd_LassoFinderModel_next_45 : decode prog_14_method_21_code 45 = .ok (.iload_n 2, 1) := by decide +kernel
theorem zd_LassoFinderModel_next_46 : decode prog_14_method_21_code 46 = .ok (.iaload, 1) := by decide +kernel
theorem zd_LassoFinderModel_next_47 : decode prog_14_method_21_code 47 = .ok (.bipush 7, 2) := by decide +kernel
theorem zd_LassoFinderModel_next_49 : decode prog_14_method_21_code 49 = .ok (.if_icmp .ne 5, 3) := by decide +kernel
theorem zd_LassoFinderModel_next_52 : decode prog_14_method_21_code 52 = .ok (.iload_n 2, 1) := by decide +kernel
theorem zd_LassoFinderModel_next_53 : decode prog_14_method_21_code 53 = .ok (.ireturn, 1) := by decide +kernel
theorem zd_LassoFinderModel_next_54 : decode prog_14_method_21_code 54 = .ok (.iinc 3 1, 3) := by decide +kernel
theorem zd_LassoFinderModel_next_57 : decode prog_14_method_21_code 57 = .ok (.goto (-53), 3) := by decide +kernel
theorem zd_LassoFinderModel_next_60 : decode prog_14_method_21_code 60 = .ok (.iconst (-1), 1) := by decide +kernel
theorem zd_LassoFinderModel_next_61 : decode prog_14_method_21_code 61 = .ok (.ireturn, 1) := by decide +kernel
theorem zd_LassoFinderModel_pointOf_0 : decode prog_14_method_26_code 0 = .ok (.iload_n 2, 1) := by decide +kernel
theorem zd_LassoFinderModel_pointOf_1 : decode prog_14_method_26_code 1 = .ok (.ifCond .ge 12, 3) := by decide +kernel
theorem zd_LassoFinderModel_pointOf_4 : decode prog_14_method_26_code 4 = .ok (.aload_n 0, 1) := by decide +kernel
theorem zd_LassoFinderModel_pointOf_5 : decode prog_14_method_26_code 5 = .ok (.getfield 75, 3) := by decide +kernel
theorem zd_LassoFinderModel_pointOf_8 : decode prog_14_method_26_code 8 = .ok (.iload_n 1, 1) := by decide +kernel
theorem zd_LassoFinderModel_pointOf_9 : decode prog_14_method_26_code 9 = .ok (.iaload, 1) := by decide +kernel
theorem zd_LassoFinderModel_pointOf_10 : decode prog_14_method_26_code 10 = .ok (.goto 9, 3) := by decide +kernel
theorem zd_LassoFinderModel_pointOf_13 : decode prog_14_method_26_code 13 = .ok (.aload_n 0, 1) := by decide +kernel
theorem zd_LassoFinderModel_pointOf_14 : decode prog_14_method_26_code 14 = .ok (.getfield 48, 3) := by decide +kernel
theorem zd_LassoFinderModel_pointOf_17 : decode prog_14_method_26_code 17 = .ok (.iload_n 2, 1) := by decide +kernel
theorem zd_LassoFinderModel_pointOf_18 : decode prog_14_method_26_code 18 = .ok (.iaload, 1) := by decide +kernel
theorem zd_LassoFinderModel_pointOf_19 : decode prog_14_method_26_code 19 = .ok (.ireturn, 1) := by decide +kernel
theorem zd_LassoFinderModel_thrown_0 : decode prog_14_method_2_code 0 = .ok (.aload_n 0, 1) := by decide +kernel
theorem zd_LassoFinderModel_thrown_1 : decode prog_14_method_2_code 1 = .ok (.getfield 193, 3) := by decide +kernel
theorem zd_LassoFinderModel_thrown_4 : decode prog_14_method_2_code 4 = .ok (.ireturn, 1) := by decide +kernel
theorem zd_LassoFinderModel_write_0 : decode prog_14_method_4_code 0 = .ok (.aload_n 0, 1) := by decide +kernel
theorem zd_LassoFinderModel_write_1 : decode prog_14_method_4_code 1 = .ok (.iconst 0, 1) := by decide +kernel
theorem zd_LassoFinderModel_write_2 : decode prog_14_method_4_code 2 = .ok (.putfield 193, 3) := by decide +kernel
theorem zd_LassoFinderModel_write_5 : decode prog_14_method_4_code 5 = .ok (.iconst 0, 1) := by decide +kernel
theorem zd_LassoFinderModel_write_6 : decode prog_14_method_4_code 6 = .ok (.istore_n 3, 1) := by decide +kernel
theorem zd_LassoFinderModel_write_7 : decode prog_14_method_4_code 7 = .ok (.bipush 56, 2) := by decide +kernel
theorem zd_LassoFinderModel_write_9 : decode prog_14_method_4_code 9 = .ok (.istore 4, 2) := by decide +kernel
theorem zd_LassoFinderModel_write_11 : decode prog_14_method_4_code 11 = .ok (.iload 4, 2) := by decide +kernel
theorem zd_LassoFinderModel_write_13 : decode prog_14_method_4_code 13 = .ok (.ifCond .lt 52, 3) := by decide +kernel
theorem zd_LassoFinderModel_write_16 : decode prog_14_method_4_code 16 = .ok (.lload_n 1, 1) := by decide +kernel
theorem zd_LassoFinderModel_write_17 : decode prog_14_method_4_code 17 = .ok (.iload 4, 2) := by decide +kernel
theorem zd_LassoFinderModel_write_19 : decode prog_14_method_4_code 19 = .ok (.lushr, 1) := by decide +kernel
theorem zd_LassoFinderModel_write_20 : decode prog_14_method_4_code 20 = .ok (.l2i, 1) := by decide +kernel
theorem zd_LassoFinderModel_write_21 : decode prog_14_method_4_code 21 = .ok (.sipush 255, 3) := by decide +kernel
theorem zd_LassoFinderModel_write_24 : decode prog_14_method_4_code 24 = .ok (.iand, 1) := by decide +kernel
theorem zd_LassoFinderModel_write_25 : decode prog_14_method_4_code 25 = .ok (.istore 5, 2) := by decide +kernel
theorem zd_LassoFinderModel_write_27 : decode prog_14_method_4_code 27 = .ok (.iload 5, 2) := by decide +kernel
theorem zd_LassoFinderModel_write_29 : decode prog_14_method_4_code 29 = .ok (.ifCond .eq 17, 3) := by decide +kernel
theorem zd_LassoFinderModel_write_32 : decode prog_14_method_4_code 32 = .ok (.iload 5, 2) := by decide +kernel
theorem zd_LassoFinderModel_write_34 : decode prog_14_method_4_code 34 = .ok (.bipush 33, 2) := by decide +kernel
theorem zd_LassoFinderModel_write_36 : decode prog_14_method_4_code 36 = .ok (.bipush 126, 2) := by decide +kernel
theorem zd_LassoFinderModel_write_38 : decode prog_14_method_4_code 38 = .ok (.invokestatic 196, 3) := by decide +kernel
theorem zd_LassoFinderModel_write_41 : decode prog_14_method_4_code 41 = .ok (.ifCond .ne 5, 3) := by decide +kernel
theorem zd_LassoFinderModel_write_44 : decode prog_14_method_4_code 44 = .ok (.iconst 0, 1) := by decide +kernel
theorem zd_LassoFinderModel_write_45 : decode prog_14_method_4_code 45 = .ok (.ireturn, 1) := by decide +kernel
theorem zd_LassoFinderModel_write_46 : decode prog_14_method_4_code 46 = .ok (.iload_n 3, 1) := by decide +kernel
theorem zd_LassoFinderModel_write_47 : decode prog_14_method_4_code 47 = .ok (.iload 5, 2) := by decide +kernel
theorem zd_LassoFinderModel_write_49 : decode prog_14_method_4_code 49 = .ok (.ifCond .eq 7, 3) := by decide +kernel
theorem zd_LassoFinderModel_write_52 : decode prog_14_method_4_code 52 = .ok (.iconst 1, 1) := by decide +kernel
theorem zd_LassoFinderModel_write_53 : decode prog_14_method_4_code 53 = .ok (.goto 4, 3) := by decide +kernel
theorem zd_LassoFinderModel_write_56 : decode prog_14_method_4_code 56 = .ok (.iconst 0, 1) := by decide +kernel
theorem zd_LassoFinderModel_write_57 : decode prog_14_method_4_code 57 = .ok (.iadd, 1) := by decide +kernel
theorem zd_LassoFinderModel_write_58 : decode prog_14_method_4_code 58 = .ok (.istore_n 3, 1) := by decide +kernel
theorem zd_LassoFinderModel_write_59 : decode prog_14_method_4_code 59 = .ok (.iinc 4 (-8), 3) := by decide +kernel
theorem zd_LassoFinderModel_write_62 : decode prog_14_method_4_code 62 = .ok (.goto (-51), 3) := by decide +kernel
theorem zd_LassoFinderModel_write_65 : decode prog_14_method_4_code 65 = .ok (.aload_n 0, 1) := by decide +kernel
theorem zd_LassoFinderModel_write_66 : decode prog_14_method_4_code 66 = .ok (.getfield 200, 3) := by decide +kernel
theorem zd_LassoFinderModel_write_69 : decode prog_14_method_4_code 69 = .ok (.iload_n 3, 1) := by decide +kernel
theorem zd_LassoFinderModel_write_70 : decode prog_14_method_4_code 70 = .ok (.iadd, 1) := by decide +kernel
theorem zd_LassoFinderModel_write_71 : decode prog_14_method_4_code 71 = .ok (.sipush 240, 3) := by decide +kernel
theorem zd_LassoFinderModel_write_74 : decode prog_14_method_4_code 74 = .ok (.if_icmp .le 5, 3) := by decide +kernel
theorem zd_LassoFinderModel_write_77 : decode prog_14_method_4_code 77 = .ok (.iconst 0, 1) := by decide +kernel
theorem zd_LassoFinderModel_write_78 : decode prog_14_method_4_code 78 = .ok (.ireturn, 1) := by decide +kernel
theorem zd_LassoFinderModel_write_79 : decode prog_14_method_4_code 79 = .ok (.bipush 56, 2) := by decide +kernel
theorem zd_LassoFinderModel_write_81 : decode prog_14_method_4_code 81 = .ok (.istore 4, 2) := by decide +kernel
theorem zd_LassoFinderModel_write_83 : decode prog_14_method_4_code 83 = .ok (.iload 4, 2) := by decide +kernel
theorem zd_LassoFinderModel_write_85 : decode prog_14_method_4_code 85 = .ok (.ifCond .lt 46, 3) := by decide +kernel
theorem zd_LassoFinderModel_write_88 : decode prog_14_method_4_code 88 = .ok (.lload_n 1, 1) := by decide +kernel
theorem zd_LassoFinderModel_write_89 : decode prog_14_method_4_code 89 = .ok (.iload 4, 2) := by decide +kernel
theorem zd_LassoFinderModel_write_91 : decode prog_14_method_4_code 91 = .ok (.lushr, 1) := by decide +kernel
theorem zd_LassoFinderModel_write_92 : decode prog_14_method_4_code 92 = .ok (.l2i, 1) := by decide +kernel
theorem zd_LassoFinderModel_write_93 : decode prog_14_method_4_code 93 = .ok (.sipush 255, 3) := by decide +kernel
theorem zd_LassoFinderModel_write_96 : decode prog_14_method_4_code 96 = .ok (.iand, 1) := by decide +kernel
theorem zd_LassoFinderModel_write_97 : decode prog_14_method_4_code 97 = .ok (.istore 5, 2) := by decide +kernel
theorem zd_LassoFinderModel_write_99 : decode prog_14_method_4_code 99 = .ok (.iload 5, 2) := by decide +kernel
theorem zd_LassoFinderModel_write_101 : decode prog_14_method_4_code 101 = .ok (.ifCond .eq 24, 3) := by decide +kernel
theorem zd_LassoFinderModel_write_104 : decode prog_14_method_4_code 104 = .ok (.aload_n 0, 1) := by decide +kernel
theorem zd_LassoFinderModel_write_105 : decode prog_14_method_4_code 105 = .ok (.getfield 7, 3) := by decide +kernel
theorem zd_LassoFinderModel_write_108 : decode prog_14_method_4_code 108 = .ok (.aload_n 0, 1) := by decide +kernel
theorem zd_LassoFinderModel_write_109 : decode prog_14_method_4_code 109 = .ok (.getfield 200, 3) := by decide +kernel
theorem zd_LassoFinderModel_write_112 : decode prog_14_method_4_code 112 = .ok (.iload 5, 2) := by decide +kernel
theorem zd_LassoFinderModel_write_114 : decode prog_14_method_4_code 114 = .ok (.iastore, 1) := by decide +kernel
theorem zd_LassoFinderModel_write_115 : decode prog_14_method_4_code 115 = .ok (.aload_n 0, 1) := by decide +kernel
theorem zd_LassoFinderModel_write_116 : decode prog_14_method_4_code 116 = .ok (.dup, 1) := by decide +kernel
theorem zd_LassoFinderModel_write_117 : decode prog_14_method_4_code 117 = .ok (.getfield 200, 3) := by decide +kernel
theorem zd_LassoFinderModel_write_120 : decode prog_14_method_4_code 120 = .ok (.iconst 1, 1) := by decide +kernel
theorem zd_LassoFinderModel_write_121 : decode prog_14_method_4_code 121 = .ok (.iadd, 1) := by decide +kernel
theorem zd_LassoFinderModel_write_122 : decode prog_14_method_4_code 122 = .ok (.putfield 200, 3) := by decide +kernel
theorem zd_LassoFinderModel_write_125 : decode prog_14_method_4_code 125 = .ok (.iinc 4 (-8), 3) := by decide +kernel
theorem zd_LassoFinderModel_write_128 : decode prog_14_method_4_code 128 = .ok (.goto (-45), 3) := by decide +kernel
theorem zd_LassoFinderModel_write_131 : decode prog_14_method_4_code 131 = .ok (.iconst 1, 1) := by decide +kernel
theorem zd_LassoFinderModel_write_132 : decode prog_14_method_4_code 132 = .ok (.ireturn, 1) := by decide +kernel
def wp_LassoFinderModel_thrown (I : Nat → Int32) (J : Nat → Int64) (B : Nat → Nat → Int32) (D : Nat → Nat → Int64) (Post : Int32 → (Nat → Int32) → (Nat → Int64) → (Nat → Nat → Int32) → (Nat → Nat → Int64) → Prop) : Prop :=
  Post (I 0) I J B D
set_option maxHeartbeats 8000000 in
set_option maxRecDepth 100000 in
theorem w_LassoFinderModel_thrown (l : Launch) (G : va_G) (K : Nat → ClassId) (ad : Nat → Nat) (I : Nat → Int32) (J : Nat → Int64) (B : Nat → Nat → Int32) (D : Nat → Nat → Int64) (Post : Int32 → (Nat → Int32) → (Nat → Int64) → (Nat → Nat → Int32) → (Nat → Nat → Int64) → Prop) (sz : Nat) (hok : wp_LassoFinderModel_thrown I J B D  Post) : Met l zy_LassoFinderModel_thrown (Cond.code zy_LassoFinderModel_thrown prog_14_method_2_code 1 (some .int) :: zTB) { frames := 0, cells := 0, slots := 0, locals := 0 } (va_Pc [.ref (ad 0)] (zPre G K (wM ad K I J B D) sz)) (va_Qi (fun (r : Int32) (u : zS) => Post r u.1 u.2.1 u.2.2.1 u.2.2.2) (fun u t => zPost G K (va_A (wM ad K I J B D) sz) (wM ad K u.1 u.2.1 u.2.2.1 u.2.2.2) t) (va_A (wM ad K I J B D) sz)) 0 0 (va_A (wM ad K I J B D) sz) := by
  refine zMet (y := zy_LassoFinderModel_thrown) (av := [.ref (ad 0)]) (maxL := 1) (cc := prog_14_method_2_code) (ret := (some .int)) (W0 := (wM ad K I J B D)) (sz := sz) (G := G) (K := K) (wt := zTB) (mc := 0) (ms := 0) (Qf := fun A => va_Qi (fun (r : Int32) (u : zS) => Post r u.1 u.2.1 u.2.2.1 u.2.2.2) (fun u t => zPost G K A (wM ad K u.1 u.2.1 u.2.2.1 u.2.2.2) t) A) (by decide) (Nat.le_of_ble_eq_true rfl) ?_
  intro p e s m below meth c ls A hx hb hr hml hts hown hlocks hin hA hK H locs hw hsz hl
  clear hsz
  have hown : s.vm.findClass "LassoFinderModel" = some m.cls := hown
  have C : zCx p s m ([.ref (ad 0)] : List Value).toArray meth c A G K prog_14_method_2_code (some .int) 1 "LassoFinderModel" := ⟨hx, hb, hr, hml, hts, hown, hlocks, hA, hK⟩
  have hl : lv_has ls 1 [(0, .ref (ad 0))] := hl
  have hw : zW G A s.heap (wM ad K I J B D) H locs := hw
  unfold wp_LassoFinderModel_thrown at hok
  refine lv_aload_n hx hb zd_LassoFinderModel_thrown_0 rfl (lv_at hl 0 rfl) ?_
  refine z_get (v := .int (I 0)) hx hb hts hown hK hw zZ12 0 wM_g0 0 (by decide) zm_292 rfl zd_LassoFinderModel_thrown_1 ?_
  exact (z_iret (u := (I, J, B, D)) hx hb hr hlocks rfl hw (List.range 58) wM_all wM_nd hok (Nat.le_of_ble_eq_true rfl) (Nat.le_of_ble_eq_true rfl) zd_LassoFinderModel_thrown_4)
def wc_LassoFinderModel_in_15 (a0 : Int32) (a1 : Int32) (a2 : Int32) (Post : Int32 → (Nat → Int32) → (Nat → Int64) → (Nat → Nat → Int32) → (Nat → Nat → Int64) → Prop) (y0 : Int32) (I : Nat → Int32) (J : Nat → Int64) (B : Nat → Nat → Int32) (D : Nat → Nat → Int64) : Prop :=
  (y0 = 0 ∨ y0 = 1) ∧ Post y0 I J B D
def wc_LassoFinderModel_in_14 (a0 : Int32) (a1 : Int32) (a2 : Int32) (Post : Int32 → (Nat → Int32) → (Nat → Int64) → (Nat → Nat → Int32) → (Nat → Nat → Int64) → Prop)  (I : Nat → Int32) (J : Nat → Int64) (B : Nat → Nat → Int32) (D : Nat → Nat → Int64) : Prop :=
  wc_LassoFinderModel_in_15 a0 a1 a2 Post 0 I J B D
def wp_LassoFinderModel_in (I : Nat → Int32) (J : Nat → Int64) (B : Nat → Nat → Int32) (D : Nat → Nat → Int64) (a0 : Int32) (a1 : Int32) (a2 : Int32) (Post : Int32 → (Nat → Int32) → (Nat → Int64) → (Nat → Nat → Int32) → (Nat → Nat → Int64) → Prop) : Prop :=
  ((a0 < a1 → wc_LassoFinderModel_in_14 a0 a1 a2 Post I J B D) ∧ (¬ a0 < a1 → ((a2 < a0 → wc_LassoFinderModel_in_14 a0 a1 a2 Post I J B D) ∧ (¬ a2 < a0 → wc_LassoFinderModel_in_15 a0 a1 a2 Post 1 I J B D))))
set_option maxHeartbeats 8000000 in
set_option maxRecDepth 100000 in
theorem wJ_LassoFinderModel_in_15 {p : Program} {l : Launch} {e : Env} {s : State} {m : MethodId} {below : List Frame} {meth : Method} {c : Code} {A : Nat → Prop} (G : va_G) (K : Nat → ClassId) (ad : Nat → Nat) (a0 : Int32) (a1 : Int32) (a2 : Int32) (Post : Int32 → (Nat → Int32) → (Nat → Int64) → (Nat → Nat → Int32) → (Nat → Nat → Int64) → Prop) (C : zCx p s m ([.int a0, .int a1, .int a2] : List Value).toArray meth c A G K prog_14_method_3_code (some .boolean) 3 "LassoFinderModel") : ∀ (y0 : Int32) (I : Nat → Int32) (J : Nat → Int64) (B : Nat → Nat → Int32) (D : Nat → Nat → Int64) (ls : Array Slot) (H : Heap) (locs : List Loc), wc_LassoFinderModel_in_15 a0 a1 a2 Post y0 I J B D → lv_has ls 3 [] → zW G A s.heap (wM ad K I J B D) H locs → W p l e { frames := 0, cells := 0, slots := 0, locals := 0 } s m ([.int a0, .int a1, .int a2] : List Value).toArray below meth c H locs 0 0 (MQ below (va_Qi (fun (r : Int32) (u : zS) => Post r u.1 u.2.1 u.2.2.1 u.2.2.2) (fun u t => zPost G K A (wM ad K u.1 u.2.1 u.2.2.1 u.2.2.2) t) A) ([.int a0, .int a1, .int a2] : List Value).toArray s 0 0 A) (F0 m 15 ls [.int y0]) := by
  obtain ⟨hx, hb, hr, hml, hts, hown, hlocks, hA, hK⟩ := id C
  intro y0 I J B D ls H locs hok hl hw
  unfold wc_LassoFinderModel_in_15 at hok
  have hbo := hok.1
  have hok := hok.2
  exact (z_iret (u := (I, J, B, D)) hx hb hr hlocks (z_nar hbo) hw (List.range 58) wM_all wM_nd hok (Nat.le_of_ble_eq_true rfl) (Nat.le_of_ble_eq_true rfl) zd_LassoFinderModel_in_15)
set_option maxHeartbeats 8000000 in
set_option maxRecDepth 100000 in
theorem wJ_LassoFinderModel_in_14 {p : Program} {l : Launch} {e : Env} {s : State} {m : MethodId} {below : List Frame} {meth : Method} {c : Code} {A : Nat → Prop} (G : va_G) (K : Nat → ClassId) (ad : Nat → Nat) (a0 : Int32) (a1 : Int32) (a2 : Int32) (Post : Int32 → (Nat → Int32) → (Nat → Int64) → (Nat → Nat → Int32) → (Nat → Nat → Int64) → Prop) (C : zCx p s m ([.int a0, .int a1, .int a2] : List Value).toArray meth c A G K prog_14_method_3_code (some .boolean) 3 "LassoFinderModel") : ∀  (I : Nat → Int32) (J : Nat → Int64) (B : Nat → Nat → Int32) (D : Nat → Nat → Int64) (ls : Array Slot) (H : Heap) (locs : List Loc), wc_LassoFinderModel_in_14 a0 a1 a2 Post  I J B D → lv_has ls 3 [] → zW G A s.heap (wM ad K I J B D) H locs → W p l e { frames := 0, cells := 0, slots := 0, locals := 0 } s m ([.int a0, .int a1, .int a2] : List Value).toArray below meth c H locs 0 0 (MQ below (va_Qi (fun (r : Int32) (u : zS) => Post r u.1 u.2.1 u.2.2.1 u.2.2.2) (fun u t => zPost G K A (wM ad K u.1 u.2.1 u.2.2.1 u.2.2.2) t) A) ([.int a0, .int a1, .int a2] : List Value).toArray s 0 0 A) (F0 m 14 ls []) := by
  obtain ⟨hx, hb, hr, hml, hts, hown, hlocks, hA, hK⟩ := id C
  intro  I J B D ls H locs hok hl hw
  unfold wc_LassoFinderModel_in_14 at hok
  refine lv_iconst (v := 0) hx hb zd_LassoFinderModel_in_14 (by decide) ?_
  exact wJ_LassoFinderModel_in_15 G K ad a0 a1 a2 Post C 0 I J B D ls H locs hok (lv_sub hl [] rfl) hw
set_option maxHeartbeats 8000000 in
set_option maxRecDepth 100000 in
theorem w_LassoFinderModel_in (l : Launch) (G : va_G) (K : Nat → ClassId) (ad : Nat → Nat) (I : Nat → Int32) (J : Nat → Int64) (B : Nat → Nat → Int32) (D : Nat → Nat → Int64) (a0 : Int32) (a1 : Int32) (a2 : Int32) (Post : Int32 → (Nat → Int32) → (Nat → Int64) → (Nat → Nat → Int32) → (Nat → Nat → Int64) → Prop) (sz : Nat) (hok : wp_LassoFinderModel_in I J B D a0 a1 a2 Post) : Met l zy_LassoFinderModel_in (Cond.code zy_LassoFinderModel_in prog_14_method_3_code 3 (some .boolean) :: zTB) { frames := 0, cells := 0, slots := 0, locals := 0 } (va_Pc [.int a0, .int a1, .int a2] (zPre G K (wM ad K I J B D) sz)) (va_Qi (fun (r : Int32) (u : zS) => Post r u.1 u.2.1 u.2.2.1 u.2.2.2) (fun u t => zPost G K (va_A (wM ad K I J B D) sz) (wM ad K u.1 u.2.1 u.2.2.1 u.2.2.2) t) (va_A (wM ad K I J B D) sz)) 0 0 (va_A (wM ad K I J B D) sz) := by
  refine zMet (y := zy_LassoFinderModel_in) (av := [.int a0, .int a1, .int a2]) (maxL := 3) (cc := prog_14_method_3_code) (ret := (some .boolean)) (W0 := (wM ad K I J B D)) (sz := sz) (G := G) (K := K) (wt := zTB) (mc := 0) (ms := 0) (Qf := fun A => va_Qi (fun (r : Int32) (u : zS) => Post r u.1 u.2.1 u.2.2.1 u.2.2.2) (fun u t => zPost G K A (wM ad K u.1 u.2.1 u.2.2.1 u.2.2.2) t) A) (by decide) (Nat.le_of_ble_eq_true rfl) ?_
  intro p e s m below meth c ls A hx hb hr hml hts hown hlocks hin hA hK H locs hw hsz hl
  clear hsz
  have hown : s.vm.findClass "LassoFinderModel" = some m.cls := hown
  have C : zCx p s m ([.int a0, .int a1, .int a2] : List Value).toArray meth c A G K prog_14_method_3_code (some .boolean) 3 "LassoFinderModel" := ⟨hx, hb, hr, hml, hts, hown, hlocks, hA, hK⟩
  have hl : lv_has ls 3 [(0, .int a0), (1, .int a1), (2, .int a2)] := hl
  have hw : zW G A s.heap (wM ad K I J B D) H locs := hw
  unfold wp_LassoFinderModel_in at hok
  refine lv_iload_n hx hb zd_LassoFinderModel_in_0 rfl (lv_at hl 0 rfl) ?_
  refine lv_iload_n hx hb zd_LassoFinderModel_in_1 rfl (lv_at hl 1 rfl) ?_
  refine lv_icmp_lt (tgt := 14) hx hb zd_LassoFinderModel_in_2 (by decide) (fun hc1 => ?_) (fun hc1 => ?_)
  · have hok := hok.1 hc1
    exact wJ_LassoFinderModel_in_14 G K ad a0 a1 a2 Post C I J B D ls H locs hok (lv_sub hl [] rfl) hw
  · have hok := hok.2 hc1
    refine lv_iload_n hx hb zd_LassoFinderModel_in_5 rfl (lv_at hl 0 rfl) ?_
    refine lv_iload_n hx hb zd_LassoFinderModel_in_6 rfl (lv_at hl 2 rfl) ?_
    refine lv_icmp_gt (tgt := 14) hx hb zd_LassoFinderModel_in_7 (by decide) (fun hc2 => ?_) (fun hc2 => ?_)
    · have hok := hok.1 hc2
      exact wJ_LassoFinderModel_in_14 G K ad a0 a1 a2 Post C I J B D ls H locs hok (lv_sub hl [] rfl) hw
    · have hok := hok.2 hc2
      refine lv_iconst (v := 1) hx hb zd_LassoFinderModel_in_10 (by decide) ?_
      refine lv_goto (tgt := 15) hx hb zd_LassoFinderModel_in_11 (by decide) ?_
      exact wJ_LassoFinderModel_in_15 G K ad a0 a1 a2 Post C 1 I J B D ls H locs hok (lv_sub hl [] rfl) hw
def wc_LassoFinderModel_write_125 (a0 : Int64) (K83 : Int64 → Int32 → (Nat → Int32) → (Nat → Int64) → (Nat → Nat → Int32) → (Nat → Nat → Int64) → Prop) (Post : Int32 → (Nat → Int32) → (Nat → Int64) → (Nat → Nat → Int32) → (Nat → Nat → Int64) → Prop) (x1 : Int64) (x4 : Int32) (I : Nat → Int32) (J : Nat → Int64) (B : Nat → Nat → Int32) (D : Nat → Nat → Int64) : Prop :=
  ∀ z1 : Int32, z1 = (x4 + (-8)) → K83 x1 z1 I J B D
def wb_LassoFinderModel_write_83 (a0 : Int64) (K83 : Int64 → Int32 → (Nat → Int32) → (Nat → Int64) → (Nat → Nat → Int32) → (Nat → Nat → Int64) → Prop) (Post : Int32 → (Nat → Int32) → (Nat → Int64) → (Nat → Nat → Int32) → (Nat → Nat → Int64) → Prop) (x1 : Int64) (x4 : Int32) (I : Nat → Int32) (J : Nat → Int64) (B : Nat → Nat → Int32) (D : Nat → Nat → Int64) : Prop :=
  ((x4 < 0 → Post 1 I J B D) ∧ (¬ x4 < 0 → ∀ z3 : Int64, z3 = (x1.toUInt64 >>> (x4.toInt64.toUInt64 &&& Int64.toUInt64 63)).toInt64 → ∀ z4 : Int32, z4 = z3.toInt32 → ∀ z5 : Int32, z5 = (z4 &&& 255) → ((z5 = 0 → wc_LassoFinderModel_write_125 a0 K83 Post x1 x4 I J B D) ∧ (¬ z5 = 0 → vp_in (I 1) 240 ∧ ∀ z7 : Int32, z7 = ((I 1) + 1) → wc_LassoFinderModel_write_125 a0 K83 Post x1 x4 (upd I 1 z7) J (va_up B 0 (upd (B 0) (I 1).toNatClampNeg z5)) D))))
def wl_LassoFinderModel_write_83 (a0 : Int64) (Post : Int32 → (Nat → Int32) → (Nat → Int64) → (Nat → Nat → Int32) → (Nat → Nat → Int64) → Prop) (n : Nat) : Int64 → Int32 → (Nat → Int32) → (Nat → Int64) → (Nat → Nat → Int32) → (Nat → Nat → Int64) → Prop := Nat.rec (fun _ _ _ _ _ _ => False) (fun _ r => wb_LassoFinderModel_write_83 a0 r Post) n
def wc_LassoFinderModel_write_57 (a0 : Int64) (K11 : Int64 → Int32 → Int32 → (Nat → Int32) → (Nat → Int64) → (Nat → Nat → Int32) → (Nat → Nat → Int64) → Prop) (Post : Int32 → (Nat → Int32) → (Nat → Int64) → (Nat → Nat → Int32) → (Nat → Nat → Int64) → Prop) (x1 : Int64) (x4 : Int32) (y0 : Int32) (y1 : Int32) (I : Nat → Int32) (J : Nat → Int64) (B : Nat → Nat → Int32) (D : Nat → Nat → Int64) : Prop :=
  ∀ z8 : Int32, z8 = (y1 + y0) → ∀ z9 : Int32, z9 = (x4 + (-8)) → K11 x1 z8 z9 I J B D
def wc_LassoFinderModel_write_46 (a0 : Int64) (K11 : Int64 → Int32 → Int32 → (Nat → Int32) → (Nat → Int64) → (Nat → Nat → Int32) → (Nat → Nat → Int64) → Prop) (Post : Int32 → (Nat → Int32) → (Nat → Int64) → (Nat → Nat → Int32) → (Nat → Nat → Int64) → Prop) (x1 : Int64) (x3 : Int32) (x4 : Int32) (x5 : Int32) (I : Nat → Int32) (J : Nat → Int64) (B : Nat → Nat → Int32) (D : Nat → Nat → Int64) : Prop :=
  ((x5 = 0 → wc_LassoFinderModel_write_57 a0 K11 Post x1 x4 0 x3 I J B D) ∧ (¬ x5 = 0 → wc_LassoFinderModel_write_57 a0 K11 Post x1 x4 1 x3 I J B D))
def wb_LassoFinderModel_write_11 (a0 : Int64) (K11 : Int64 → Int32 → Int32 → (Nat → Int32) → (Nat → Int64) → (Nat → Nat → Int32) → (Nat → Nat → Int64) → Prop) (Post : Int32 → (Nat → Int32) → (Nat → Int64) → (Nat → Nat → Int32) → (Nat → Nat → Int64) → Prop) (x1 : Int64) (x3 : Int32) (x4 : Int32) (I : Nat → Int32) (J : Nat → Int64) (B : Nat → Nat → Int32) (D : Nat → Nat → Int64) : Prop :=
  ((x4 < 0 → ∀ z12 : Int32, z12 = ((I 1) + x3) → ((z12 ≤ 240 → ∃ n : Nat, wl_LassoFinderModel_write_83 a0 Post n x1 56 I J B D) ∧ (¬ z12 ≤ 240 → Post 0 I J B D))) ∧ (¬ x4 < 0 → ∀ z14 : Int64, z14 = (x1.toUInt64 >>> (x4.toInt64.toUInt64 &&& Int64.toUInt64 63)).toInt64 → ∀ z15 : Int32, z15 = z14.toInt32 → ∀ z16 : Int32, z16 = (z15 &&& 255) → ((z16 = 0 → wc_LassoFinderModel_write_46 a0 K11 Post x1 x3 x4 z16 I J B D) ∧ (¬ z16 = 0 → wp_LassoFinderModel_in I J B D z16 33 126 (fun r18 I18 J18 B18 D18 => ((¬ r18 = 0 → wc_LassoFinderModel_write_46 a0 K11 Post x1 x3 x4 z16 I18 J18 B18 D18) ∧ (r18 = 0 → Post 0 I18 J18 B18 D18)))))))
def wl_LassoFinderModel_write_11 (a0 : Int64) (Post : Int32 → (Nat → Int32) → (Nat → Int64) → (Nat → Nat → Int32) → (Nat → Nat → Int64) → Prop) (n : Nat) : Int64 → Int32 → Int32 → (Nat → Int32) → (Nat → Int64) → (Nat → Nat → Int32) → (Nat → Nat → Int64) → Prop := Nat.rec (fun _ _ _ _ _ _ _ => False) (fun _ r => wb_LassoFinderModel_write_11 a0 r Post) n
def wp_LassoFinderModel_write (I : Nat → Int32) (J : Nat → Int64) (B : Nat → Nat → Int32) (D : Nat → Nat → Int64) (a0 : Int64) (Post : Int32 → (Nat → Int32) → (Nat → Int64) → (Nat → Nat → Int32) → (Nat → Nat → Int64) → Prop) : Prop :=
  ∃ n : Nat, wl_LassoFinderModel_write_11 a0 Post n a0 0 56 (upd I 0 0) J B D
set_option maxHeartbeats 8000000 in
set_option maxRecDepth 100000 in
theorem wJ_LassoFinderModel_write_125 {p : Program} {l : Launch} {e : Env} {s : State} {m : MethodId} {below : List Frame} {meth : Method} {c : Code} {A : Nat → Prop} (G : va_G) (K : Nat → ClassId) (ad : Nat → Nat) (a0 : Int64) (Post : Int32 → (Nat → Int32) → (Nat → Int64) → (Nat → Nat → Int32) → (Nat → Nat → Int64) → Prop) (C : zCx p s m ([.ref (ad 0), .long a0] : List Value).toArray meth c A G K prog_14_method_4_code (some .boolean) 6 "LassoFinderModel") (K83 : Int64 → Int32 → (Nat → Int32) → (Nat → Int64) → (Nat → Nat → Int32) → (Nat → Nat → Int64) → Prop) (kh83 : ∀ (x1 : Int64) (x4 : Int32) (I : Nat → Int32) (J : Nat → Int64) (B : Nat → Nat → Int32) (D : Nat → Nat → Int64) (ls : Array Slot) (H : Heap) (locs : List Loc), K83 x1 x4 I J B D → lv_has ls 6 [(0, .ref (ad 0)), (1, .long x1), (4, .int x4)] → zW G A s.heap (wM ad K I J B D) H locs → W p l e { frames := 1, cells := 0, slots := 0, locals := 22 } s m ([.ref (ad 0), .long a0] : List Value).toArray below meth c H locs 0 0 (MQ below (va_Qi (fun (r : Int32) (u : zS) => Post r u.1 u.2.1 u.2.2.1 u.2.2.2) (fun u t => zPost G K A (wM ad K u.1 u.2.1 u.2.2.1 u.2.2.2) t) A) ([.ref (ad 0), .long a0] : List Value).toArray s 0 0 A) (F0 m 83 ls [])) : ∀ (x1 : Int64) (x4 : Int32) (I : Nat → Int32) (J : Nat → Int64) (B : Nat → Nat → Int32) (D : Nat → Nat → Int64) (ls : Array Slot) (H : Heap) (locs : List Loc), wc_LassoFinderModel_write_125 a0 K83 Post x1 x4 I J B D → lv_has ls 6 [(0, .ref (ad 0)), (1, .long x1), (4, .int x4)] → zW G A s.heap (wM ad K I J B D) H locs → W p l e { frames := 1, cells := 0, slots := 0, locals := 22 } s m ([.ref (ad 0), .long a0] : List Value).toArray below meth c H locs 0 0 (MQ below (va_Qi (fun (r : Int32) (u : zS) => Post r u.1 u.2.1 u.2.2.1 u.2.2.2) (fun u t => zPost G K A (wM ad K u.1 u.2.1 u.2.2.1 u.2.2.2) t) A) ([.ref (ad 0), .long a0] : List Value).toArray s 0 0 A) (F0 m 125 ls []) := by
  obtain ⟨hx, hb, hr, hml, hts, hown, hlocks, hA, hK⟩ := id C
  intro x1 x4 I J B D ls H locs hok hl hw
  unfold wc_LassoFinderModel_write_125 at hok
  obtain ⟨z1, ez1⟩ : ∃ z : Int32, z = (x4 + (-8)) := ⟨_, rfl⟩
  have hok := hok z1 ez1
  refine lv_iinc (v := z1) hx hb zd_LassoFinderModel_write_125 hl (k := 2) rfl ez1.symm (by decide) rfl (fun ls hl => ?_)
  have hl : lv_has ls 6 [(4, .int z1), (0, .ref (ad 0)), (1, .long x1)] := hl
  refine lv_goto (tgt := 83) hx hb zd_LassoFinderModel_write_128 (by decide) ?_
  exact kh83 x1 z1 I J B D ls H locs hok (lv_sub hl [1, 2, 0] rfl) hw
set_option maxHeartbeats 8000000 in
set_option maxRecDepth 100000 in
theorem wB_LassoFinderModel_write_83 {p : Program} {l : Launch} {e : Env} {s : State} {m : MethodId} {below : List Frame} {meth : Method} {c : Code} {A : Nat → Prop} (G : va_G) (K : Nat → ClassId) (ad : Nat → Nat) (a0 : Int64) (Post : Int32 → (Nat → Int32) → (Nat → Int64) → (Nat → Nat → Int32) → (Nat → Nat → Int64) → Prop) (C : zCx p s m ([.ref (ad 0), .long a0] : List Value).toArray meth c A G K prog_14_method_4_code (some .boolean) 6 "LassoFinderModel") (K83 : Int64 → Int32 → (Nat → Int32) → (Nat → Int64) → (Nat → Nat → Int32) → (Nat → Nat → Int64) → Prop) (kh83 : ∀ (x1 : Int64) (x4 : Int32) (I : Nat → Int32) (J : Nat → Int64) (B : Nat → Nat → Int32) (D : Nat → Nat → Int64) (ls : Array Slot) (H : Heap) (locs : List Loc), K83 x1 x4 I J B D → lv_has ls 6 [(0, .ref (ad 0)), (1, .long x1), (4, .int x4)] → zW G A s.heap (wM ad K I J B D) H locs → W p l e { frames := 1, cells := 0, slots := 0, locals := 22 } s m ([.ref (ad 0), .long a0] : List Value).toArray below meth c H locs 0 0 (MQ below (va_Qi (fun (r : Int32) (u : zS) => Post r u.1 u.2.1 u.2.2.1 u.2.2.2) (fun u t => zPost G K A (wM ad K u.1 u.2.1 u.2.2.1 u.2.2.2) t) A) ([.ref (ad 0), .long a0] : List Value).toArray s 0 0 A) (F0 m 83 ls [])) : ∀ (x1 : Int64) (x4 : Int32) (I : Nat → Int32) (J : Nat → Int64) (B : Nat → Nat → Int32) (D : Nat → Nat → Int64) (ls : Array Slot) (H : Heap) (locs : List Loc), wb_LassoFinderModel_write_83 a0 K83 Post x1 x4 I J B D → lv_has ls 6 [(0, .ref (ad 0)), (1, .long x1), (4, .int x4)] → zW G A s.heap (wM ad K I J B D) H locs → W p l e { frames := 1, cells := 0, slots := 0, locals := 22 } s m ([.ref (ad 0), .long a0] : List Value).toArray below meth c H locs 0 0 (MQ below (va_Qi (fun (r : Int32) (u : zS) => Post r u.1 u.2.1 u.2.2.1 u.2.2.2) (fun u t => zPost G K A (wM ad K u.1 u.2.1 u.2.2.1 u.2.2.2) t) A) ([.ref (ad 0), .long a0] : List Value).toArray s 0 0 A) (F0 m 83 ls []) := by
  obtain ⟨hx, hb, hr, hml, hts, hown, hlocks, hA, hK⟩ := id C
  intro x1 x4 I J B D ls H locs hok hl hw
  unfold wb_LassoFinderModel_write_83 at hok
  refine lv_iload hx hb zd_LassoFinderModel_write_83 (lv_at hl 2 rfl) ?_
  refine lv_if_lt (tgt := 131) hx hb zd_LassoFinderModel_write_85 (by decide) (fun hc2 => ?_) (fun hc2 => ?_)
  · have hok := hok.1 hc2
    refine lv_iconst (v := 1) hx hb zd_LassoFinderModel_write_131 (by decide) ?_
    exact (z_iret (u := (I, J, B, D)) hx hb hr hlocks rfl hw (List.range 58) wM_all wM_nd hok (Nat.le_of_ble_eq_true rfl) (Nat.le_of_ble_eq_true rfl) zd_LassoFinderModel_write_132)
  · have hok := hok.2 hc2
    refine lv_lload_n hx hb zd_LassoFinderModel_write_88 rfl (lv_at hl 1 rfl) ?_
    refine lv_iload hx hb zd_LassoFinderModel_write_89 (lv_at hl 2 rfl) ?_
    refine lv_lushr hx hb zd_LassoFinderModel_write_91 rfl ?_
    refine lv_topl (fun z3 ez3 => ?_)
    have hok := hok z3 ez3
    refine lv_l2i hx hb zd_LassoFinderModel_write_92 rfl ?_
    refine lv_topi (fun z4 ez4 => ?_)
    have hok := hok z4 ez4
    refine lv_sipush (v := 255) hx hb zd_LassoFinderModel_write_93 (by decide) ?_
    refine lv_iand hx hb zd_LassoFinderModel_write_96 ?_
    refine lv_topi (fun z5 ez5 => ?_)
    have hok := hok z5 ez5
    refine lv_istore hx hb zd_LassoFinderModel_write_97 hl (by decide) rfl (fun ls hl => ?_)
    have hl : lv_has ls 6 [(5, .int z5), (0, .ref (ad 0)), (1, .long x1), (4, .int x4)] := hl
    refine lv_iload hx hb zd_LassoFinderModel_write_99 (lv_at hl 0 rfl) ?_
    refine lv_if_eq (tgt := 125) hx hb zd_LassoFinderModel_write_101 (by decide) (fun hc6 => ?_) (fun hc6 => ?_)
    · have hok := hok.1 hc6
      exact wJ_LassoFinderModel_write_125 G K ad a0 Post C K83 kh83 x1 x4 I J B D ls H locs hok (lv_sub hl [1, 2, 3] rfl) hw
    · have hok := hok.2 hc6
      refine lv_aload_n hx hb zd_LassoFinderModel_write_104 rfl (lv_at hl 1 rfl) ?_
      refine z_get (v := .ref (ad 1)) hx hb hts hown hK hw zZ12 0 wM_g0 2 (by decide) zm_235 rfl zd_LassoFinderModel_write_105 ?_
      refine lv_aload_n hx hb zd_LassoFinderModel_write_108 rfl (lv_at hl 1 rfl) ?_
      refine z_get (v := .int (I 1)) hx hb hts hown hK hw zZ12 0 wM_g0 1 (by decide) zm_294 rfl zd_LassoFinderModel_write_109 ?_
      refine lv_iload hx hb zd_LassoFinderModel_write_112 (lv_at hl 0 rfl) ?_
      refine va_iast (f := (B 0)) hx hb hK hw.1 hw.2.1 hw.2.2 1 0 wM_a1 rfl hok.1 zd_LassoFinderModel_write_114 (fun H locs w91 w92 w93 => ?_)
      have hok := hok.2
      have hw := wM_t1 ⟨w91, w92, w93⟩
      refine lv_aload_n hx hb zd_LassoFinderModel_write_115 rfl (lv_at hl 1 rfl) ?_
      refine lv_dup hx hb zd_LassoFinderModel_write_116 rfl ?_
      refine z_get (v := .int (I 1)) hx hb hts hown hK hw zZ12 0 wM_g0 1 (by decide) zm_294 rfl zd_LassoFinderModel_write_117 ?_
      refine lv_iconst (v := 1) hx hb zd_LassoFinderModel_write_120 (by decide) ?_
      refine lv_iadd hx hb zd_LassoFinderModel_write_121 ?_
      refine lv_topi (fun z7 ez7 => ?_)
      have hok := hok z7 ez7
      refine z_put (v := .int z7) hx hb hts hown hK hw zZ12 0 wM_g0 1 (by decide) zm_294 rfl rfl rfl (Nat.le_of_ble_eq_true rfl) zd_LassoFinderModel_write_122 (fun H locs hw => ?_)
      have hw := wM_sI1 hw
      exact wJ_LassoFinderModel_write_125 G K ad a0 Post C K83 kh83 x1 x4 (upd I 1 z7) J (va_up B 0 (upd (B 0) (I 1).toNatClampNeg z5)) D ls H locs hok (lv_sub hl [1, 2, 3] rfl) hw
theorem wL_LassoFinderModel_write_83 {p : Program} {l : Launch} {e : Env} {s : State} {m : MethodId} {below : List Frame} {meth : Method} {c : Code} {A : Nat → Prop} (G : va_G) (K : Nat → ClassId) (ad : Nat → Nat) (a0 : Int64) (Post : Int32 → (Nat → Int32) → (Nat → Int64) → (Nat → Nat → Int32) → (Nat → Nat → Int64) → Prop) (C : zCx p s m ([.ref (ad 0), .long a0] : List Value).toArray meth c A G K prog_14_method_4_code (some .boolean) 6 "LassoFinderModel") : ∀ (n : Nat) (x1 : Int64) (x4 : Int32) (I : Nat → Int32) (J : Nat → Int64) (B : Nat → Nat → Int32) (D : Nat → Nat → Int64) (ls : Array Slot) (H : Heap) (locs : List Loc), wl_LassoFinderModel_write_83 a0 Post n x1 x4 I J B D → lv_has ls 6 [(0, .ref (ad 0)), (1, .long x1), (4, .int x4)] → zW G A s.heap (wM ad K I J B D) H locs → W p l e { frames := 1, cells := 0, slots := 0, locals := 22 } s m ([.ref (ad 0), .long a0] : List Value).toArray below meth c H locs 0 0 (MQ below (va_Qi (fun (r : Int32) (u : zS) => Post r u.1 u.2.1 u.2.2.1 u.2.2.2) (fun u t => zPost G K A (wM ad K u.1 u.2.1 u.2.2.1 u.2.2.2) t) A) ([.ref (ad 0), .long a0] : List Value).toArray s 0 0 A) (F0 m 83 ls []) := by
  intro n
  induction n with
  | zero => intro x1 x4 I J B D ls H locs hok; exact hok.elim
  | succ n ih => exact wB_LassoFinderModel_write_83 G K ad a0 Post C (wl_LassoFinderModel_write_83 a0 Post n) ih
set_option maxHeartbeats 8000000 in
set_option maxRecDepth 100000 in
theorem wJ_LassoFinderModel_write_57 {p : Program} {l : Launch} {e : Env} {s : State} {m : MethodId} {below : List Frame} {meth : Method} {c : Code} {A : Nat → Prop} (G : va_G) (K : Nat → ClassId) (ad : Nat → Nat) (a0 : Int64) (Post : Int32 → (Nat → Int32) → (Nat → Int64) → (Nat → Nat → Int32) → (Nat → Nat → Int64) → Prop) (C : zCx p s m ([.ref (ad 0), .long a0] : List Value).toArray meth c A G K prog_14_method_4_code (some .boolean) 6 "LassoFinderModel") (K11 : Int64 → Int32 → Int32 → (Nat → Int32) → (Nat → Int64) → (Nat → Nat → Int32) → (Nat → Nat → Int64) → Prop) (kh11 : ∀ (x1 : Int64) (x3 : Int32) (x4 : Int32) (I : Nat → Int32) (J : Nat → Int64) (B : Nat → Nat → Int32) (D : Nat → Nat → Int64) (ls : Array Slot) (H : Heap) (locs : List Loc), K11 x1 x3 x4 I J B D → lv_has ls 6 [(0, .ref (ad 0)), (1, .long x1), (3, .int x3), (4, .int x4)] → zW G A s.heap (wM ad K I J B D) H locs → W p l e { frames := 1, cells := 0, slots := 0, locals := 22 } s m ([.ref (ad 0), .long a0] : List Value).toArray below meth c H locs 0 0 (MQ below (va_Qi (fun (r : Int32) (u : zS) => Post r u.1 u.2.1 u.2.2.1 u.2.2.2) (fun u t => zPost G K A (wM ad K u.1 u.2.1 u.2.2.1 u.2.2.2) t) A) ([.ref (ad 0), .long a0] : List Value).toArray s 0 0 A) (F0 m 11 ls [])) : ∀ (x1 : Int64) (x4 : Int32) (y0 : Int32) (y1 : Int32) (I : Nat → Int32) (J : Nat → Int64) (B : Nat → Nat → Int32) (D : Nat → Nat → Int64) (ls : Array Slot) (H : Heap) (locs : List Loc), wc_LassoFinderModel_write_57 a0 K11 Post x1 x4 y0 y1 I J B D → lv_has ls 6 [(0, .ref (ad 0)), (1, .long x1), (4, .int x4)] → zW G A s.heap (wM ad K I J B D) H locs → W p l e { frames := 1, cells := 0, slots := 0, locals := 22 } s m ([.ref (ad 0), .long a0] : List Value).toArray below meth c H locs 0 0 (MQ below (va_Qi (fun (r : Int32) (u : zS) => Post r u.1 u.2.1 u.2.2.1 u.2.2.2) (fun u t => zPost G K A (wM ad K u.1 u.2.1 u.2.2.1 u.2.2.2) t) A) ([.ref (ad 0), .long a0] : List Value).toArray s 0 0 A) (F0 m 57 ls [.int y0, .int y1]) := by
  obtain ⟨hx, hb, hr, hml, hts, hown, hlocks, hA, hK⟩ := id C
  intro x1 x4 y0 y1 I J B D ls H locs hok hl hw
  unfold wc_LassoFinderModel_write_57 at hok
  refine lv_iadd hx hb zd_LassoFinderModel_write_57 ?_
  refine lv_topi (fun z8 ez8 => ?_)
  have hok := hok z8 ez8
  refine lv_istore_n hx hb zd_LassoFinderModel_write_58 rfl hl (by decide) rfl (fun ls hl => ?_)
  have hl : lv_has ls 6 [(3, .int z8), (0, .ref (ad 0)), (1, .long x1), (4, .int x4)] := hl
  obtain ⟨z9, ez9⟩ : ∃ z : Int32, z = (x4 + (-8)) := ⟨_, rfl⟩
  have hok := hok z9 ez9
  refine lv_iinc (v := z9) hx hb zd_LassoFinderModel_write_59 hl (k := 3) rfl ez9.symm (by decide) rfl (fun ls hl => ?_)
  have hl : lv_has ls 6 [(4, .int z9), (3, .int z8), (0, .ref (ad 0)), (1, .long x1)] := hl
  refine lv_goto (tgt := 11) hx hb zd_LassoFinderModel_write_62 (by decide) ?_
  exact kh11 x1 z8 z9 I J B D ls H locs hok (lv_sub hl [2, 3, 1, 0] rfl) hw
set_option maxHeartbeats 8000000 in
set_option maxRecDepth 100000 in
theorem wJ_LassoFinderModel_write_46 {p : Program} {l : Launch} {e : Env} {s : State} {m : MethodId} {below : List Frame} {meth : Method} {c : Code} {A : Nat → Prop} (G : va_G) (K : Nat → ClassId) (ad : Nat → Nat) (a0 : Int64) (Post : Int32 → (Nat → Int32) → (Nat → Int64) → (Nat → Nat → Int32) → (Nat → Nat → Int64) → Prop) (C : zCx p s m ([.ref (ad 0), .long a0] : List Value).toArray meth c A G K prog_14_method_4_code (some .boolean) 6 "LassoFinderModel") (K11 : Int64 → Int32 → Int32 → (Nat → Int32) → (Nat → Int64) → (Nat → Nat → Int32) → (Nat → Nat → Int64) → Prop) (kh11 : ∀ (x1 : Int64) (x3 : Int32) (x4 : Int32) (I : Nat → Int32) (J : Nat → Int64) (B : Nat → Nat → Int32) (D : Nat → Nat → Int64) (ls : Array Slot) (H : Heap) (locs : List Loc), K11 x1 x3 x4 I J B D → lv_has ls 6 [(0, .ref (ad 0)), (1, .long x1), (3, .int x3), (4, .int x4)] → zW G A s.heap (wM ad K I J B D) H locs → W p l e { frames := 1, cells := 0, slots := 0, locals := 22 } s m ([.ref (ad 0), .long a0] : List Value).toArray below meth c H locs 0 0 (MQ below (va_Qi (fun (r : Int32) (u : zS) => Post r u.1 u.2.1 u.2.2.1 u.2.2.2) (fun u t => zPost G K A (wM ad K u.1 u.2.1 u.2.2.1 u.2.2.2) t) A) ([.ref (ad 0), .long a0] : List Value).toArray s 0 0 A) (F0 m 11 ls [])) : ∀ (x1 : Int64) (x3 : Int32) (x4 : Int32) (x5 : Int32) (I : Nat → Int32) (J : Nat → Int64) (B : Nat → Nat → Int32) (D : Nat → Nat → Int64) (ls : Array Slot) (H : Heap) (locs : List Loc), wc_LassoFinderModel_write_46 a0 K11 Post x1 x3 x4 x5 I J B D → lv_has ls 6 [(0, .ref (ad 0)), (1, .long x1), (3, .int x3), (4, .int x4), (5, .int x5)] → zW G A s.heap (wM ad K I J B D) H locs → W p l e { frames := 1, cells := 0, slots := 0, locals := 22 } s m ([.ref (ad 0), .long a0] : List Value).toArray below meth c H locs 0 0 (MQ below (va_Qi (fun (r : Int32) (u : zS) => Post r u.1 u.2.1 u.2.2.1 u.2.2.2) (fun u t => zPost G K A (wM ad K u.1 u.2.1 u.2.2.1 u.2.2.2) t) A) ([.ref (ad 0), .long a0] : List Value).toArray s 0 0 A) (F0 m 46 ls []) := by
  obtain ⟨hx, hb, hr, hml, hts, hown, hlocks, hA, hK⟩ := id C
  intro x1 x3 x4 x5 I J B D ls H locs hok hl hw
  unfold wc_LassoFinderModel_write_46 at hok
  refine lv_iload_n hx hb zd_LassoFinderModel_write_46 rfl (lv_at hl 2 rfl) ?_
  refine lv_iload hx hb zd_LassoFinderModel_write_47 (lv_at hl 4 rfl) ?_
  refine lv_if_eq (tgt := 56) hx hb zd_LassoFinderModel_write_49 (by decide) (fun hc10 => ?_) (fun hc10 => ?_)
  · have hok := hok.1 hc10
    refine lv_iconst (v := 0) hx hb zd_LassoFinderModel_write_56 (by decide) ?_
    exact wJ_LassoFinderModel_write_57 G K ad a0 Post C K11 kh11 x1 x4 0 x3 I J B D ls H locs hok (lv_sub hl [0, 1, 3] rfl) hw
  · have hok := hok.2 hc10
    refine lv_iconst (v := 1) hx hb zd_LassoFinderModel_write_52 (by decide) ?_
    refine lv_goto (tgt := 57) hx hb zd_LassoFinderModel_write_53 (by decide) ?_
    exact wJ_LassoFinderModel_write_57 G K ad a0 Post C K11 kh11 x1 x4 1 x3 I J B D ls H locs hok (lv_sub hl [0, 1, 3] rfl) hw
set_option maxHeartbeats 8000000 in
set_option maxRecDepth 100000 in
theorem wB_LassoFinderModel_write_11 {p : Program} {l : Launch} {e : Env} {s : State} {m : MethodId} {below : List Frame} {meth : Method} {c : Code} {A : Nat → Prop} (G : va_G) (K : Nat → ClassId) (ad : Nat → Nat) (a0 : Int64) (Post : Int32 → (Nat → Int32) → (Nat → Int64) → (Nat → Nat → Int32) → (Nat → Nat → Int64) → Prop) (C : zCx p s m ([.ref (ad 0), .long a0] : List Value).toArray meth c A G K prog_14_method_4_code (some .boolean) 6 "LassoFinderModel") (K11 : Int64 → Int32 → Int32 → (Nat → Int32) → (Nat → Int64) → (Nat → Nat → Int32) → (Nat → Nat → Int64) → Prop) (kh11 : ∀ (x1 : Int64) (x3 : Int32) (x4 : Int32) (I : Nat → Int32) (J : Nat → Int64) (B : Nat → Nat → Int32) (D : Nat → Nat → Int64) (ls : Array Slot) (H : Heap) (locs : List Loc), K11 x1 x3 x4 I J B D → lv_has ls 6 [(0, .ref (ad 0)), (1, .long x1), (3, .int x3), (4, .int x4)] → zW G A s.heap (wM ad K I J B D) H locs → W p l e { frames := 1, cells := 0, slots := 0, locals := 22 } s m ([.ref (ad 0), .long a0] : List Value).toArray below meth c H locs 0 0 (MQ below (va_Qi (fun (r : Int32) (u : zS) => Post r u.1 u.2.1 u.2.2.1 u.2.2.2) (fun u t => zPost G K A (wM ad K u.1 u.2.1 u.2.2.1 u.2.2.2) t) A) ([.ref (ad 0), .long a0] : List Value).toArray s 0 0 A) (F0 m 11 ls [])) : ∀ (x1 : Int64) (x3 : Int32) (x4 : Int32) (I : Nat → Int32) (J : Nat → Int64) (B : Nat → Nat → Int32) (D : Nat → Nat → Int64) (ls : Array Slot) (H : Heap) (locs : List Loc), wb_LassoFinderModel_write_11 a0 K11 Post x1 x3 x4 I J B D → lv_has ls 6 [(0, .ref (ad 0)), (1, .long x1), (3, .int x3), (4, .int x4)] → zW G A s.heap (wM ad K I J B D) H locs → W p l e { frames := 1, cells := 0, slots := 0, locals := 22 } s m ([.ref (ad 0), .long a0] : List Value).toArray below meth c H locs 0 0 (MQ below (va_Qi (fun (r : Int32) (u : zS) => Post r u.1 u.2.1 u.2.2.1 u.2.2.2) (fun u t => zPost G K A (wM ad K u.1 u.2.1 u.2.2.1 u.2.2.2) t) A) ([.ref (ad 0), .long a0] : List Value).toArray s 0 0 A) (F0 m 11 ls []) := by
  obtain ⟨hx, hb, hr, hml, hts, hown, hlocks, hA, hK⟩ := id C
  intro x1 x3 x4 I J B D ls H locs hok hl hw
  unfold wb_LassoFinderModel_write_11 at hok
  refine lv_iload hx hb zd_LassoFinderModel_write_11 (lv_at hl 3 rfl) ?_
  refine lv_if_lt (tgt := 65) hx hb zd_LassoFinderModel_write_13 (by decide) (fun hc11 => ?_) (fun hc11 => ?_)
  · have hok := hok.1 hc11
    refine lv_aload_n hx hb zd_LassoFinderModel_write_65 rfl (lv_at hl 0 rfl) ?_
    refine z_get (v := .int (I 1)) hx hb hts hown hK hw zZ12 0 wM_g0 1 (by decide) zm_294 rfl zd_LassoFinderModel_write_66 ?_
    refine lv_iload_n hx hb zd_LassoFinderModel_write_69 rfl (lv_at hl 2 rfl) ?_
    refine lv_iadd hx hb zd_LassoFinderModel_write_70 ?_
    refine lv_topi (fun z12 ez12 => ?_)
    have hok := hok z12 ez12
    refine lv_sipush (v := 240) hx hb zd_LassoFinderModel_write_71 (by decide) ?_
    refine lv_icmp_le (tgt := 79) hx hb zd_LassoFinderModel_write_74 (by decide) (fun hc13 => ?_) (fun hc13 => ?_)
    · have hok := hok.1 hc13
      refine lv_bipush (v := 56) hx hb zd_LassoFinderModel_write_79 (by decide) ?_
      refine lv_istore hx hb zd_LassoFinderModel_write_81 hl (by decide) rfl (fun ls hl => ?_)
      have hl : lv_has ls 6 [(4, .int 56), (0, .ref (ad 0)), (1, .long x1), (3, .int x3)] := hl
      obtain ⟨n9, hok⟩ := hok
      exact wL_LassoFinderModel_write_83 G K ad a0 Post C n9 x1 56 I J B D ls H locs hok (lv_sub hl [1, 2, 0] rfl) hw
    · have hok := hok.2 hc13
      refine lv_iconst (v := 0) hx hb zd_LassoFinderModel_write_77 (by decide) ?_
      exact (z_iret (u := (I, J, B, D)) hx hb hr hlocks rfl hw (List.range 58) wM_all wM_nd hok (Nat.le_of_ble_eq_true rfl) (Nat.le_of_ble_eq_true rfl) zd_LassoFinderModel_write_78)
  · have hok := hok.2 hc11
    refine lv_lload_n hx hb zd_LassoFinderModel_write_16 rfl (lv_at hl 1 rfl) ?_
    refine lv_iload hx hb zd_LassoFinderModel_write_17 (lv_at hl 3 rfl) ?_
    refine lv_lushr hx hb zd_LassoFinderModel_write_19 rfl ?_
    refine lv_topl (fun z14 ez14 => ?_)
    have hok := hok z14 ez14
    refine lv_l2i hx hb zd_LassoFinderModel_write_20 rfl ?_
    refine lv_topi (fun z15 ez15 => ?_)
    have hok := hok z15 ez15
    refine lv_sipush (v := 255) hx hb zd_LassoFinderModel_write_21 (by decide) ?_
    refine lv_iand hx hb zd_LassoFinderModel_write_24 ?_
    refine lv_topi (fun z16 ez16 => ?_)
    have hok := hok z16 ez16
    refine lv_istore hx hb zd_LassoFinderModel_write_25 hl (by decide) rfl (fun ls hl => ?_)
    have hl : lv_has ls 6 [(5, .int z16), (0, .ref (ad 0)), (1, .long x1), (3, .int x3), (4, .int x4)] := hl
    refine lv_iload hx hb zd_LassoFinderModel_write_27 (lv_at hl 0 rfl) ?_
    refine lv_if_eq (tgt := 46) hx hb zd_LassoFinderModel_write_29 (by decide) (fun hc17 => ?_) (fun hc17 => ?_)
    · have hok := hok.1 hc17
      exact wJ_LassoFinderModel_write_46 G K ad a0 Post C K11 kh11 x1 x3 x4 z16 I J B D ls H locs hok (lv_sub hl [1, 2, 3, 4, 0] rfl) hw
    · have hok := hok.2 hc17
      refine lv_iload hx hb zd_LassoFinderModel_write_32 (lv_at hl 0 rfl) ?_
      refine lv_bipush (v := 33) hx hb zd_LassoFinderModel_write_34 (by decide) ?_
      refine lv_bipush (v := 126) hx hb zd_LassoFinderModel_write_36 (by decide) ?_
      refine z_calli (w1 := fun (u : zS) => wM ad K u.1 u.2.1 u.2.2.1 u.2.2.2) (wr := []) (z_runS (wc := (wM ad K I J B D)) (As := [.int z16, .int 33, .int 126]) (rest := []) ⟨hx, hb, hml, hown, hts⟩ (w_LassoFinderModel_in l G K ad I J B D z16 33 126 _ H.size hok) zf_LassoFinderModel_in zm_293 ⟨Nat.le_of_ble_eq_true rfl, Nat.le_of_ble_eq_true rfl⟩ hK hw (List.range 58) wM_all wM_nd rfl hl.1 rfl (Nat.le_of_ble_eq_true rfl) zd_LassoFinderModel_write_38 ⟨Nat.le_of_ble_eq_true rfl, Nat.le_of_ble_eq_true rfl⟩) hw hA (List.range 58) [] wM_all rfl (by decide) (fun i hi => by cases hi) (fun r18 u H locs hok hw => ?_)
      obtain ⟨I18, J18, B18, D18⟩ := u
      dsimp only at hok
      have hw : zW G A s.heap (wM ad K I18 J18 B18 D18) H locs := hw
      refine lv_if_ne (tgt := 46) hx hb zd_LassoFinderModel_write_41 (by decide) (fun hc19 => ?_) (fun hc19 => ?_)
      · have hok := hok.1 hc19
        exact wJ_LassoFinderModel_write_46 G K ad a0 Post C K11 kh11 x1 x3 x4 z16 I18 J18 B18 D18 ls H locs hok (lv_sub hl [1, 2, 3, 4, 0] rfl) hw
      · have hok := hok.2 hc19
        refine lv_iconst (v := 0) hx hb zd_LassoFinderModel_write_44 (by decide) ?_
        exact (z_iret (u := (I18, J18, B18, D18)) hx hb hr hlocks rfl hw (List.range 58) wM_all wM_nd hok (Nat.le_of_ble_eq_true rfl) (Nat.le_of_ble_eq_true rfl) zd_LassoFinderModel_write_45)
theorem wL_LassoFinderModel_write_11 {p : Program} {l : Launch} {e : Env} {s : State} {m : MethodId} {below : List Frame} {meth : Method} {c : Code} {A : Nat → Prop} (G : va_G) (K : Nat → ClassId) (ad : Nat → Nat) (a0 : Int64) (Post : Int32 → (Nat → Int32) → (Nat → Int64) → (Nat → Nat → Int32) → (Nat → Nat → Int64) → Prop) (C : zCx p s m ([.ref (ad 0), .long a0] : List Value).toArray meth c A G K prog_14_method_4_code (some .boolean) 6 "LassoFinderModel") : ∀ (n : Nat) (x1 : Int64) (x3 : Int32) (x4 : Int32) (I : Nat → Int32) (J : Nat → Int64) (B : Nat → Nat → Int32) (D : Nat → Nat → Int64) (ls : Array Slot) (H : Heap) (locs : List Loc), wl_LassoFinderModel_write_11 a0 Post n x1 x3 x4 I J B D → lv_has ls 6 [(0, .ref (ad 0)), (1, .long x1), (3, .int x3), (4, .int x4)] → zW G A s.heap (wM ad K I J B D) H locs → W p l e { frames := 1, cells := 0, slots := 0, locals := 22 } s m ([.ref (ad 0), .long a0] : List Value).toArray below meth c H locs 0 0 (MQ below (va_Qi (fun (r : Int32) (u : zS) => Post r u.1 u.2.1 u.2.2.1 u.2.2.2) (fun u t => zPost G K A (wM ad K u.1 u.2.1 u.2.2.1 u.2.2.2) t) A) ([.ref (ad 0), .long a0] : List Value).toArray s 0 0 A) (F0 m 11 ls []) := by
  intro n
  induction n with
  | zero => intro x1 x3 x4 I J B D ls H locs hok; exact hok.elim
  | succ n ih => exact wB_LassoFinderModel_write_11 G K ad a0 Post C (wl_LassoFinderModel_write_11 a0 Post n) ih
set_option maxHeartbeats 8000000 in
set_option maxRecDepth 100000 in
theorem w_LassoFinderModel_write (l : Launch) (G : va_G) (K : Nat → ClassId) (ad : Nat → Nat) (I : Nat → Int32) (J : Nat → Int64) (B : Nat → Nat → Int32) (D : Nat → Nat → Int64) (a0 : Int64) (Post : Int32 → (Nat → Int32) → (Nat → Int64) → (Nat → Nat → Int32) → (Nat → Nat → Int64) → Prop) (sz : Nat) (hok : wp_LassoFinderModel_write I J B D a0 Post) : Met l zy_LassoFinderModel_write (Cond.code zy_LassoFinderModel_write prog_14_method_4_code 6 (some .boolean) :: zTB) { frames := 1, cells := 0, slots := 0, locals := 22 } (va_Pc [.ref (ad 0), .long a0] (zPre G K (wM ad K I J B D) sz)) (va_Qi (fun (r : Int32) (u : zS) => Post r u.1 u.2.1 u.2.2.1 u.2.2.2) (fun u t => zPost G K (va_A (wM ad K I J B D) sz) (wM ad K u.1 u.2.1 u.2.2.1 u.2.2.2) t) (va_A (wM ad K I J B D) sz)) 0 0 (va_A (wM ad K I J B D) sz) := by
  refine zMet (y := zy_LassoFinderModel_write) (av := [.ref (ad 0), .long a0]) (maxL := 6) (cc := prog_14_method_4_code) (ret := (some .boolean)) (W0 := (wM ad K I J B D)) (sz := sz) (G := G) (K := K) (wt := zTB) (mc := 0) (ms := 0) (Qf := fun A => va_Qi (fun (r : Int32) (u : zS) => Post r u.1 u.2.1 u.2.2.1 u.2.2.2) (fun u t => zPost G K A (wM ad K u.1 u.2.1 u.2.2.1 u.2.2.2) t) A) (by decide) (Nat.le_of_ble_eq_true rfl) ?_
  intro p e s m below meth c ls A hx hb hr hml hts hown hlocks hin hA hK H locs hw hsz hl
  clear hsz
  have hown : s.vm.findClass "LassoFinderModel" = some m.cls := hown
  have C : zCx p s m ([.ref (ad 0), .long a0] : List Value).toArray meth c A G K prog_14_method_4_code (some .boolean) 6 "LassoFinderModel" := ⟨hx, hb, hr, hml, hts, hown, hlocks, hA, hK⟩
  have hl : lv_has ls 6 [(0, .ref (ad 0)), (1, .long a0)] := hl
  have hw : zW G A s.heap (wM ad K I J B D) H locs := hw
  unfold wp_LassoFinderModel_write at hok
  refine lv_aload_n hx hb zd_LassoFinderModel_write_0 rfl (lv_at hl 0 rfl) ?_
  refine lv_iconst (v := 0) hx hb zd_LassoFinderModel_write_1 (by decide) ?_
  refine z_put (v := .int 0) hx hb hts hown hK hw zZ12 0 wM_g0 0 (by decide) zm_292 rfl rfl rfl (Nat.le_of_ble_eq_true rfl) zd_LassoFinderModel_write_2 (fun H locs hw => ?_)
  have hw := wM_sI0 hw
  refine lv_iconst (v := 0) hx hb zd_LassoFinderModel_write_5 (by decide) ?_
  refine lv_istore_n hx hb zd_LassoFinderModel_write_6 rfl hl (by decide) rfl (fun ls hl => ?_)
  have hl : lv_has ls 6 [(3, .int 0), (0, .ref (ad 0)), (1, .long a0)] := hl
  refine lv_bipush (v := 56) hx hb zd_LassoFinderModel_write_7 (by decide) ?_
  refine lv_istore hx hb zd_LassoFinderModel_write_9 hl (by decide) rfl (fun ls hl => ?_)
  have hl : lv_has ls 6 [(4, .int 56), (3, .int 0), (0, .ref (ad 0)), (1, .long a0)] := hl
  obtain ⟨n9, hok⟩ := hok
  exact wL_LassoFinderModel_write_11 G K ad a0 Post C n9 a0 0 56 (upd I 0 0) J B D ls H locs hok (lv_sub hl [2, 3, 1, 0] rfl) hw
def wc_LassoFinderModel_next_60 (a0 : Int32) (Post : Int32 → (Nat → Int32) → (Nat → Int64) → (Nat → Nat → Int32) → (Nat → Nat → Int64) → Prop)  (I : Nat → Int32) (J : Nat → Int64) (B : Nat → Nat → Int32) (D : Nat → Nat → Int64) : Prop :=
  Post (-1) I J B D
def wc_LassoFinderModel_next_54 (a0 : Int32) (K4 : Int32 → Int32 → (Nat → Int32) → (Nat → Int64) → (Nat → Nat → Int32) → (Nat → Nat → Int64) → Prop) (Post : Int32 → (Nat → Int32) → (Nat → Int64) → (Nat → Nat → Int32) → (Nat → Nat → Int64) → Prop) (x2 : Int32) (x3 : Int32) (I : Nat → Int32) (J : Nat → Int64) (B : Nat → Nat → Int32) (D : Nat → Nat → Int64) : Prop :=
  ∀ z1 : Int32, z1 = (x3 + 1) → K4 x2 z1 I J B D
def wb_LassoFinderModel_next_4 (a0 : Int32) (K4 : Int32 → Int32 → (Nat → Int32) → (Nat → Int64) → (Nat → Nat → Int32) → (Nat → Nat → Int64) → Prop) (Post : Int32 → (Nat → Int32) → (Nat → Int64) → (Nat → Nat → Int32) → (Nat → Nat → Int64) → Prop) (x2 : Int32) (x3 : Int32) (I : Nat → Int32) (J : Nat → Int64) (B : Nat → Nat → Int32) (D : Nat → Nat → Int64) : Prop :=
  (((8 : Int32) ≤ x3 → wc_LassoFinderModel_next_60 a0 Post I J B D) ∧ (¬ (8 : Int32) ≤ x3 → ((x2 < 0 → wc_LassoFinderModel_next_60 a0 Post I J B D) ∧ (¬ x2 < 0 → vp_in x2 140 ∧ ∀ z4 : Int32, z4 = ((B 8) x2.toNatClampNeg) → ((z4 < 0 → vp_in x2 140 ∧ ∀ z6 : Int32, z6 = ((B 7) x2.toNatClampNeg) → ((z6 < 0 → wc_LassoFinderModel_next_54 a0 K4 Post z6 x3 I J B D) ∧ (¬ z6 < 0 → vp_in z6 140 ∧ ∀ z8 : Int32, z8 = ((B 5) z6.toNatClampNeg) → ((¬ z8 = 7 → wc_LassoFinderModel_next_54 a0 K4 Post z6 x3 I J B D) ∧ (z8 = 7 → Post z6 I J B D))))) ∧ (¬ z4 < 0 → vp_in x2 140 ∧ ∀ z10 : Int32, z10 = ((B 8) x2.toNatClampNeg) → Post z10 I J B D))))))
def wl_LassoFinderModel_next_4 (a0 : Int32) (Post : Int32 → (Nat → Int32) → (Nat → Int64) → (Nat → Nat → Int32) → (Nat → Nat → Int64) → Prop) (n : Nat) : Int32 → Int32 → (Nat → Int32) → (Nat → Int64) → (Nat → Nat → Int32) → (Nat → Nat → Int64) → Prop := Nat.rec (fun _ _ _ _ _ _ => False) (fun _ r => wb_LassoFinderModel_next_4 a0 r Post) n
def wp_LassoFinderModel_next (I : Nat → Int32) (J : Nat → Int64) (B : Nat → Nat → Int32) (D : Nat → Nat → Int64) (a0 : Int32) (Post : Int32 → (Nat → Int32) → (Nat → Int64) → (Nat → Nat → Int32) → (Nat → Nat → Int64) → Prop) : Prop :=
  ∃ n : Nat, wl_LassoFinderModel_next_4 a0 Post n a0 0 I J B D
set_option maxHeartbeats 8000000 in
set_option maxRecDepth 100000 in
theorem wJ_LassoFinderModel_next_60 {p : Program} {l : Launch} {e : Env} {s : State} {m : MethodId} {below : List Frame} {meth : Method} {c : Code} {A : Nat → Prop} (G : va_G) (K : Nat → ClassId) (ad : Nat → Nat) (a0 : Int32) (Post : Int32 → (Nat → Int32) → (Nat → Int64) → (Nat → Nat → Int32) → (Nat → Nat → Int64) → Prop) (C : zCx p s m ([.ref (ad 0), .int a0] : List Value).toArray meth c A G K prog_14_method_21_code (some .int) 4 "LassoFinderModel") : ∀  (I : Nat → Int32) (J : Nat → Int64) (B : Nat → Nat → Int32) (D : Nat → Nat → Int64) (ls : Array Slot) (H : Heap) (locs : List Loc), wc_LassoFinderModel_next_60 a0 Post  I J B D → lv_has ls 4 [] → zW G A s.heap (wM ad K I J B D) H locs → W p l e { frames := 0, cells := 0, slots := 0, locals := 0 } s m ([.ref (ad 0), .int a0] : List Value).toArray below meth c H locs 0 0 (MQ below (va_Qi (fun (r : Int32) (u : zS) => Post r u.1 u.2.1 u.2.2.1 u.2.2.2) (fun u t => zPost G K A (wM ad K u.1 u.2.1 u.2.2.1 u.2.2.2) t) A) ([.ref (ad 0), .int a0] : List Value).toArray s 0 0 A) (F0 m 60 ls []) := by
  obtain ⟨hx, hb, hr, hml, hts, hown, hlocks, hA, hK⟩ := id C
  intro  I J B D ls H locs hok hl hw
  unfold wc_LassoFinderModel_next_60 at hok
  refine lv_iconst (v := (-1)) hx hb zd_LassoFinderModel_next_60 (by decide) ?_
  exact (z_iret (u := (I, J, B, D)) hx hb hr hlocks rfl hw (List.range 58) wM_all wM_nd hok (Nat.le_of_ble_eq_true rfl) (Nat.le_of_ble_eq_true rfl) zd_LassoFinderModel_next_61)
set_option maxHeartbeats 8000000 in
set_option maxRecDepth 100000 in
theorem wJ_LassoFinderModel_next_54 {p : Program} {l : Launch} {e : Env} {s : State} {m : MethodId} {below : List Frame} {meth : Method} {c : Code} {A : Nat → Prop} (G : va_G) (K : Nat → ClassId) (ad : Nat → Nat) (a0 : Int32) (Post : Int32 → (Nat → Int32) → (Nat → Int64) → (Nat → Nat → Int32) → (Nat → Nat → Int64) → Prop) (C : zCx p s m ([.ref (ad 0), .int a0] : List Value).toArray meth c A G K prog_14_method_21_code (some .int) 4 "LassoFinderModel") (K4 : Int32 → Int32 → (Nat → Int32) → (Nat → Int64) → (Nat → Nat → Int32) → (Nat → Nat → Int64) → Prop) (kh4 : ∀ (x2 : Int32) (x3 : Int32) (I : Nat → Int32) (J : Nat → Int64) (B : Nat → Nat → Int32) (D : Nat → Nat → Int64) (ls : Array Slot) (H : Heap) (locs : List Loc), K4 x2 x3 I J B D → lv_has ls 4 [(0, .ref (ad 0)), (2, .int x2), (3, .int x3)] → zW G A s.heap (wM ad K I J B D) H locs → W p l e { frames := 0, cells := 0, slots := 0, locals := 0 } s m ([.ref (ad 0), .int a0] : List Value).toArray below meth c H locs 0 0 (MQ below (va_Qi (fun (r : Int32) (u : zS) => Post r u.1 u.2.1 u.2.2.1 u.2.2.2) (fun u t => zPost G K A (wM ad K u.1 u.2.1 u.2.2.1 u.2.2.2) t) A) ([.ref (ad 0), .int a0] : List Value).toArray s 0 0 A) (F0 m 4 ls [])) : ∀ (x2 : Int32) (x3 : Int32) (I : Nat → Int32) (J : Nat → Int64) (B : Nat → Nat → Int32) (D : Nat → Nat → Int64) (ls : Array Slot) (H : Heap) (locs : List Loc), wc_LassoFinderModel_next_54 a0 K4 Post x2 x3 I J B D → lv_has ls 4 [(0, .ref (ad 0)), (2, .int x2), (3, .int x3)] → zW G A s.heap (wM ad K I J B D) H locs → W p l e { frames := 0, cells := 0, slots := 0, locals := 0 } s m ([.ref (ad 0), .int a0] : List Value).toArray below meth c H locs 0 0 (MQ below (va_Qi (fun (r : Int32) (u : zS) => Post r u.1 u.2.1 u.2.2.1 u.2.2.2) (fun u t => zPost G K A (wM ad K u.1 u.2.1 u.2.2.1 u.2.2.2) t) A) ([.ref (ad 0), .int a0] : List Value).toArray s 0 0 A) (F0 m 54 ls []) := by
  obtain ⟨hx, hb, hr, hml, hts, hown, hlocks, hA, hK⟩ := id C
  intro x2 x3 I J B D ls H locs hok hl hw
  unfold wc_LassoFinderModel_next_54 at hok
  obtain ⟨z1, ez1⟩ : ∃ z : Int32, z = (x3 + 1) := ⟨_, rfl⟩
  have hok := hok z1 ez1
  refine lv_iinc (v := z1) hx hb zd_LassoFinderModel_next_54 hl (k := 2) rfl ez1.symm (by decide) rfl (fun ls hl => ?_)
  have hl : lv_has ls 4 [(3, .int z1), (0, .ref (ad 0)), (2, .int x2)] := hl
  refine lv_goto (tgt := 4) hx hb zd_LassoFinderModel_next_57 (by decide) ?_
  exact kh4 x2 z1 I J B D ls H locs hok (lv_sub hl [1, 2, 0] rfl) hw
set_option maxHeartbeats 8000000 in
set_option maxRecDepth 100000 in
theorem wB_LassoFinderModel_next_4 {p : Program} {l : Launch} {e : Env} {s : State} {m : MethodId} {below : List Frame} {meth : Method} {c : Code} {A : Nat → Prop} (G : va_G) (K : Nat → ClassId) (ad : Nat → Nat) (a0 : Int32) (Post : Int32 → (Nat → Int32) → (Nat → Int64) → (Nat → Nat → Int32) → (Nat → Nat → Int64) → Prop) (C : zCx p s m ([.ref (ad 0), .int a0] : List Value).toArray meth c A G K prog_14_method_21_code (some .int) 4 "LassoFinderModel") (K4 : Int32 → Int32 → (Nat → Int32) → (Nat → Int64) → (Nat → Nat → Int32) → (Nat → Nat → Int64) → Prop) (kh4 : ∀ (x2 : Int32) (x3 : Int32) (I : Nat → Int32) (J : Nat → Int64) (B : Nat → Nat → Int32) (D : Nat → Nat → Int64) (ls : Array Slot) (H : Heap) (locs : List Loc), K4 x2 x3 I J B D → lv_has ls 4 [(0, .ref (ad 0)), (2, .int x2), (3, .int x3)] → zW G A s.heap (wM ad K I J B D) H locs → W p l e { frames := 0, cells := 0, slots := 0, locals := 0 } s m ([.ref (ad 0), .int a0] : List Value).toArray below meth c H locs 0 0 (MQ below (va_Qi (fun (r : Int32) (u : zS) => Post r u.1 u.2.1 u.2.2.1 u.2.2.2) (fun u t => zPost G K A (wM ad K u.1 u.2.1 u.2.2.1 u.2.2.2) t) A) ([.ref (ad 0), .int a0] : List Value).toArray s 0 0 A) (F0 m 4 ls [])) : ∀ (x2 : Int32) (x3 : Int32) (I : Nat → Int32) (J : Nat → Int64) (B : Nat → Nat → Int32) (D : Nat → Nat → Int64) (ls : Array Slot) (H : Heap) (locs : List Loc), wb_LassoFinderModel_next_4 a0 K4 Post x2 x3 I J B D → lv_has ls 4 [(0, .ref (ad 0)), (2, .int x2), (3, .int x3)] → zW G A s.heap (wM ad K I J B D) H locs → W p l e { frames := 0, cells := 0, slots := 0, locals := 0 } s m ([.ref (ad 0), .int a0] : List Value).toArray below meth c H locs 0 0 (MQ below (va_Qi (fun (r : Int32) (u : zS) => Post r u.1 u.2.1 u.2.2.1 u.2.2.2) (fun u t => zPost G K A (wM ad K u.1 u.2.1 u.2.2.1 u.2.2.2) t) A) ([.ref (ad 0), .int a0] : List Value).toArray s 0 0 A) (F0 m 4 ls []) := by
  obtain ⟨hx, hb, hr, hml, hts, hown, hlocks, hA, hK⟩ := id C
  intro x2 x3 I J B D ls H locs hok hl hw
  unfold wb_LassoFinderModel_next_4 at hok
  refine lv_iload_n hx hb zd_LassoFinderModel_next_4 rfl (lv_at hl 2 rfl) ?_
  refine lv_bipush (v := 8) hx hb zd_LassoFinderModel_next_5 (by decide) ?_
  refine lv_icmp_ge (tgt := 60) hx hb zd_LassoFinderModel_next_7 (by decide) (fun hc2 => ?_) (fun hc2 => ?_)
  · have hok := hok.1 hc2
    exact wJ_LassoFinderModel_next_60 G K ad a0 Post C I J B D ls H locs hok (lv_sub hl [] rfl) hw
  · have hok := hok.2 hc2
    refine lv_iload_n hx hb zd_LassoFinderModel_next_10 rfl (lv_at hl 1 rfl) ?_
    refine lv_if_lt (tgt := 60) hx hb zd_LassoFinderModel_next_11 (by decide) (fun hc3 => ?_) (fun hc3 => ?_)
    · have hok := hok.1 hc3
      exact wJ_LassoFinderModel_next_60 G K ad a0 Post C I J B D ls H locs hok (lv_sub hl [] rfl) hw
    · have hok := hok.2 hc3
      refine lv_aload_n hx hb zd_LassoFinderModel_next_14 rfl (lv_at hl 0 rfl) ?_
      refine z_get (v := .ref (ad 9)) hx hb hts hown hK hw zZ12 0 wM_g0 17 (by decide) zm_243 rfl zd_LassoFinderModel_next_15 ?_
      refine lv_iload_n hx hb zd_LassoFinderModel_next_18 rfl (lv_at hl 1 rfl) ?_
      refine va_iald (f := (B 8)) hx hb hK hw.1 9 0 wM_a9 rfl hok.1 zd_LassoFinderModel_next_19 ?_
      have hok := hok.2
      refine lv_topi (fun z4 ez4 => ?_)
      have hok := hok z4 ez4
      refine lv_if_lt (tgt := 30) hx hb zd_LassoFinderModel_next_20 (by decide) (fun hc5 => ?_) (fun hc5 => ?_)
      · have hok := hok.1 hc5
        refine lv_aload_n hx hb zd_LassoFinderModel_next_30 rfl (lv_at hl 0 rfl) ?_
        refine z_get (v := .ref (ad 8)) hx hb hts hown hK hw zZ12 0 wM_g0 16 (by decide) zm_242 rfl zd_LassoFinderModel_next_31 ?_
        refine lv_iload_n hx hb zd_LassoFinderModel_next_34 rfl (lv_at hl 1 rfl) ?_
        refine va_iald (f := (B 7)) hx hb hK hw.1 8 0 wM_a8 rfl hok.1 zd_LassoFinderModel_next_35 ?_
        have hok := hok.2
        refine lv_topi (fun z6 ez6 => ?_)
        have hok := hok z6 ez6
        refine lv_istore_n hx hb zd_LassoFinderModel_next_36 rfl hl (by decide) rfl (fun ls hl => ?_)
        have hl : lv_has ls 4 [(2, .int z6), (0, .ref (ad 0)), (3, .int x3)] := hl
        refine lv_iload_n hx hb zd_LassoFinderModel_next_37 rfl (lv_at hl 0 rfl) ?_
        refine lv_if_lt (tgt := 54) hx hb zd_LassoFinderModel_next_38 (by decide) (fun hc7 => ?_) (fun hc7 => ?_)
        · have hok := hok.1 hc7
          exact wJ_LassoFinderModel_next_54 G K ad a0 Post C K4 kh4 z6 x3 I J B D ls H locs hok (lv_sub hl [1, 0, 2] rfl) hw
        · have hok := hok.2 hc7
          refine lv_aload_n hx hb zd_LassoFinderModel_next_41 rfl (lv_at hl 1 rfl) ?_
          refine z_get (v := .ref (ad 6)) hx hb hts hown hK hw zZ12 0 wM_g0 14 (by decide) zm_240 rfl zd_LassoFinderModel_next_42 ?_
          refine lv_iload_n hx hb zd_LassoFinderModel_next_45 rfl (lv_at hl 0 rfl) ?_
          refine va_iald (f := (B 5)) hx hb hK hw.1 6 0 wM_a6 rfl hok.1 zd_LassoFinderModel_next_46 ?_
          have hok := hok.2
          refine lv_topi (fun z8 ez8 => ?_)
          have hok := hok z8 ez8
          refine lv_bipush (v := 7) hx hb zd_LassoFinderModel_next_47 (by decide) ?_
          refine lv_icmp_ne (tgt := 54) hx hb zd_LassoFinderModel_next_49 (by decide) (fun hc9 => ?_) (fun hc9 => ?_)
          · have hok := hok.1 hc9
            exact wJ_LassoFinderModel_next_54 G K ad a0 Post C K4 kh4 z6 x3 I J B D ls H locs hok (lv_sub hl [1, 0, 2] rfl) hw
          · have hok := hok.2 hc9
            refine lv_iload_n hx hb zd_LassoFinderModel_next_52 rfl (lv_at hl 0 rfl) ?_
            exact (z_iret (u := (I, J, B, D)) hx hb hr hlocks rfl hw (List.range 58) wM_all wM_nd hok (Nat.le_of_ble_eq_true rfl) (Nat.le_of_ble_eq_true rfl) zd_LassoFinderModel_next_53)
      · have hok := hok.2 hc5
        refine lv_aload_n hx hb zd_LassoFinderModel_next_23 rfl (lv_at hl 0 rfl) ?_
        refine z_get (v := .ref (ad 9)) hx hb hts hown hK hw zZ12 0 wM_g0 17 (by decide) zm_243 rfl zd_LassoFinderModel_next_24 ?_
        refine lv_iload_n hx hb zd_LassoFinderModel_next_27 rfl (lv_at hl 1 rfl) ?_
        refine va_iald (f := (B 8)) hx hb hK hw.1 9 0 wM_a9 rfl hok.1 zd_LassoFinderModel_next_28 ?_
        have hok := hok.2
        refine lv_topi (fun z10 ez10 => ?_)
        have hok := hok z10 ez10
        exact (z_iret (u := (I, J, B, D)) hx hb hr hlocks rfl hw (List.range 58) wM_all wM_nd hok (Nat.le_of_ble_eq_true rfl) (Nat.le_of_ble_eq_true rfl) zd_LassoFinderModel_next_29)
theorem wL_LassoFinderModel_next_4 {p : Program} {l : Launch} {e : Env} {s : State} {m : MethodId} {below : List Frame} {meth : Method} {c : Code} {A : Nat → Prop} (G : va_G) (K : Nat → ClassId) (ad : Nat → Nat) (a0 : Int32) (Post : Int32 → (Nat → Int32) → (Nat → Int64) → (Nat → Nat → Int32) → (Nat → Nat → Int64) → Prop) (C : zCx p s m ([.ref (ad 0), .int a0] : List Value).toArray meth c A G K prog_14_method_21_code (some .int) 4 "LassoFinderModel") : ∀ (n : Nat) (x2 : Int32) (x3 : Int32) (I : Nat → Int32) (J : Nat → Int64) (B : Nat → Nat → Int32) (D : Nat → Nat → Int64) (ls : Array Slot) (H : Heap) (locs : List Loc), wl_LassoFinderModel_next_4 a0 Post n x2 x3 I J B D → lv_has ls 4 [(0, .ref (ad 0)), (2, .int x2), (3, .int x3)] → zW G A s.heap (wM ad K I J B D) H locs → W p l e { frames := 0, cells := 0, slots := 0, locals := 0 } s m ([.ref (ad 0), .int a0] : List Value).toArray below meth c H locs 0 0 (MQ below (va_Qi (fun (r : Int32) (u : zS) => Post r u.1 u.2.1 u.2.2.1 u.2.2.2) (fun u t => zPost G K A (wM ad K u.1 u.2.1 u.2.2.1 u.2.2.2) t) A) ([.ref (ad 0), .int a0] : List Value).toArray s 0 0 A) (F0 m 4 ls []) := by
  intro n
  induction n with
  | zero => intro x2 x3 I J B D ls H locs hok; exact hok.elim
  | succ n ih => exact wB_LassoFinderModel_next_4 G K ad a0 Post C (wl_LassoFinderModel_next_4 a0 Post n) ih
set_option maxHeartbeats 8000000 in
set_option maxRecDepth 100000 in
theorem w_LassoFinderModel_next (l : Launch) (G : va_G) (K : Nat → ClassId) (ad : Nat → Nat) (I : Nat → Int32) (J : Nat → Int64) (B : Nat → Nat → Int32) (D : Nat → Nat → Int64) (a0 : Int32) (Post : Int32 → (Nat → Int32) → (Nat → Int64) → (Nat → Nat → Int32) → (Nat → Nat → Int64) → Prop) (sz : Nat) (hok : wp_LassoFinderModel_next I J B D a0 Post) : Met l zy_LassoFinderModel_next (Cond.code zy_LassoFinderModel_next prog_14_method_21_code 4 (some .int) :: zTB) { frames := 0, cells := 0, slots := 0, locals := 0 } (va_Pc [.ref (ad 0), .int a0] (zPre G K (wM ad K I J B D) sz)) (va_Qi (fun (r : Int32) (u : zS) => Post r u.1 u.2.1 u.2.2.1 u.2.2.2) (fun u t => zPost G K (va_A (wM ad K I J B D) sz) (wM ad K u.1 u.2.1 u.2.2.1 u.2.2.2) t) (va_A (wM ad K I J B D) sz)) 0 0 (va_A (wM ad K I J B D) sz) := by
  refine zMet (y := zy_LassoFinderModel_next) (av := [.ref (ad 0), .int a0]) (maxL := 4) (cc := prog_14_method_21_code) (ret := (some .int)) (W0 := (wM ad K I J B D)) (sz := sz) (G := G) (K := K) (wt := zTB) (mc := 0) (ms := 0) (Qf := fun A => va_Qi (fun (r : Int32) (u : zS) => Post r u.1 u.2.1 u.2.2.1 u.2.2.2) (fun u t => zPost G K A (wM ad K u.1 u.2.1 u.2.2.1 u.2.2.2) t) A) (by decide) (Nat.le_of_ble_eq_true rfl) ?_
  intro p e s m below meth c ls A hx hb hr hml hts hown hlocks hin hA hK H locs hw hsz hl
  clear hsz
  have hown : s.vm.findClass "LassoFinderModel" = some m.cls := hown
  have C : zCx p s m ([.ref (ad 0), .int a0] : List Value).toArray meth c A G K prog_14_method_21_code (some .int) 4 "LassoFinderModel" := ⟨hx, hb, hr, hml, hts, hown, hlocks, hA, hK⟩
  have hl : lv_has ls 4 [(0, .ref (ad 0)), (1, .int a0)] := hl
  have hw : zW G A s.heap (wM ad K I J B D) H locs := hw
  unfold wp_LassoFinderModel_next at hok
  refine lv_iload_n hx hb zd_LassoFinderModel_next_0 rfl (lv_at hl 1 rfl) ?_
  refine lv_istore_n hx hb zd_LassoFinderModel_next_1 rfl hl (by decide) rfl (fun ls hl => ?_)
  have hl : lv_has ls 4 [(2, .int a0), (0, .ref (ad 0)), (1, .int a0)] := hl
  refine lv_iconst (v := 0) hx hb zd_LassoFinderModel_next_2 (by decide) ?_
  refine lv_istore_n hx hb zd_LassoFinderModel_next_3 rfl hl (by decide) rfl (fun ls hl => ?_)
  have hl : lv_has ls 4 [(3, .int 0), (2, .int a0), (0, .ref (ad 0)), (1, .int a0)] := hl
  obtain ⟨n9, hok⟩ := hok
  exact wL_LassoFinderModel_next_4 G K ad a0 Post C n9 a0 0 I J B D ls H locs hok (lv_sub hl [2, 1, 0] rfl) hw
def wc_LassoFinderModel_instead_29 (a0 : Int32) (Post : Int32 → (Nat → Int32) → (Nat → Int64) → (Nat → Nat → Int32) → (Nat → Nat → Int64) → Prop) (x2 : Int32) (I : Nat → Int32) (J : Nat → Int64) (B : Nat → Nat → Int32) (D : Nat → Nat → Int64) : Prop :=
  Post x2 I J B D
def wc_LassoFinderModel_instead_129 (a0 : Int32) (K4 : Int32 → Int32 → (Nat → Int32) → (Nat → Int64) → (Nat → Nat → Int32) → (Nat → Nat → Int64) → Prop) (Post : Int32 → (Nat → Int32) → (Nat → Int64) → (Nat → Nat → Int32) → (Nat → Nat → Int64) → Prop) (x2 : Int32) (x3 : Int32) (I : Nat → Int32) (J : Nat → Int64) (B : Nat → Nat → Int32) (D : Nat → Nat → Int64) : Prop :=
  ∀ z1 : Int32, z1 = (x3 + 1) → K4 x2 z1 I J B D
def wc_LassoFinderModel_instead_123 (a0 : Int32) (K4 : Int32 → Int32 → (Nat → Int32) → (Nat → Int64) → (Nat → Nat → Int32) → (Nat → Nat → Int64) → Prop) (Post : Int32 → (Nat → Int32) → (Nat → Int64) → (Nat → Nat → Int32) → (Nat → Nat → Int64) → Prop) (x2 : Int32) (x3 : Int32) (I : Nat → Int32) (J : Nat → Int64) (B : Nat → Nat → Int32) (D : Nat → Nat → Int64) : Prop :=
  wp_LassoFinderModel_next I J B D x2 (fun r2 I2 J2 B2 D2 => wc_LassoFinderModel_instead_129 a0 K4 Post r2 x3 I2 J2 B2 D2)
def wb_LassoFinderModel_instead_92 (a0 : Int32) (K92 : Int32 → Int32 → Int32 → (Nat → Int32) → (Nat → Int64) → (Nat → Nat → Int32) → (Nat → Nat → Int64) → Prop) (K4 : Int32 → Int32 → (Nat → Int32) → (Nat → Int64) → (Nat → Nat → Int32) → (Nat → Nat → Int64) → Prop) (Post : Int32 → (Nat → Int32) → (Nat → Int64) → (Nat → Nat → Int32) → (Nat → Nat → Int64) → Prop) (x2 : Int32) (x3 : Int32) (x4 : Int32) (I : Nat → Int32) (J : Nat → Int64) (B : Nat → Nat → Int32) (D : Nat → Nat → Int64) : Prop :=
  (((8 : Int32) ≤ x4 → wc_LassoFinderModel_instead_123 a0 K4 Post x2 x3 I J B D) ∧ (¬ (8 : Int32) ≤ x4 → vp_in x2 140 ∧ ∀ z4 : Int32, z4 = ((B 5) x2.toNatClampNeg) → ((z4 = 7 → wc_LassoFinderModel_instead_123 a0 K4 Post x2 x3 I J B D) ∧ (¬ z4 = 7 → vp_in x2 140 ∧ ∀ z6 : Int32, z6 = ((B 7) x2.toNatClampNeg) → ∀ z7 : Int32, z7 = (x4 + 1) → K92 z6 x3 z7 I J B D))))
def wl_LassoFinderModel_instead_92 (a0 : Int32) (K4 : Int32 → Int32 → (Nat → Int32) → (Nat → Int64) → (Nat → Nat → Int32) → (Nat → Nat → Int64) → Prop) (Post : Int32 → (Nat → Int32) → (Nat → Int64) → (Nat → Nat → Int32) → (Nat → Nat → Int64) → Prop) (n : Nat) : Int32 → Int32 → Int32 → (Nat → Int32) → (Nat → Int64) → (Nat → Nat → Int32) → (Nat → Nat → Int64) → Prop := Nat.rec (fun _ _ _ _ _ _ _ => False) (fun _ r => wb_LassoFinderModel_instead_92 a0 r K4 Post) n
def wb_LassoFinderModel_instead_4 (a0 : Int32) (K4 : Int32 → Int32 → (Nat → Int32) → (Nat → Int64) → (Nat → Nat → Int32) → (Nat → Nat → Int64) → Prop) (Post : Int32 → (Nat → Int32) → (Nat → Int64) → (Nat → Nat → Int32) → (Nat → Nat → Int64) → Prop) (x2 : Int32) (x3 : Int32) (I : Nat → Int32) (J : Nat → Int64) (B : Nat → Nat → Int32) (D : Nat → Nat → Int64) : Prop :=
  ∀ z8 : Int32, z8 = (2 * (I 8)) → ((z8 < x3 → Post (-3) I J B D) ∧ (¬ z8 < x3 → ((x2 < 0 → wc_LassoFinderModel_instead_29 a0 Post x2 I J B D) ∧ (¬ x2 < 0 → vp_in x2 140 ∧ ∀ z11 : Int32, z11 = ((B 5) x2.toNatClampNeg) → (((8 : Int32) ≤ z11 → vp_in x2 140 ∧ ∀ z13 : Int32, z13 = ((B 5) x2.toNatClampNeg) → ((¬ z13 = 8 → vp_in x2 140 ∧ ∀ z15 : Int32, z15 = ((B 5) x2.toNatClampNeg) → ((¬ z15 = 10 → ∃ n : Nat, wl_LassoFinderModel_instead_92 a0 K4 Post n x2 x3 0 I J B D) ∧ (z15 = 10 → vp_in x2 140 ∧ ∀ z17 : Int32, z17 = ((B 6) x2.toNatClampNeg) → ∀ z18 : Int32, z18 = (8 * z17) → vp_in x2 140 ∧ ∀ z19 : Int32, z19 = ((B 12) x2.toNatClampNeg) → ∀ z20 : Int32, z20 = (z18 + z19) → vp_in z20 32 ∧ ∀ z21 : Int32, z21 = ((B 22) z20.toNatClampNeg) → (((0 : Int32) ≤ z21 → wc_LassoFinderModel_instead_129 a0 K4 Post z21 x3 I J B D) ∧ (¬ (0 : Int32) ≤ z21 → Post (-2) I J B D))))) ∧ (z13 = 8 → ∀ z23 : Int32, z23 = (x2 + 1) → wc_LassoFinderModel_instead_129 a0 K4 Post z23 x3 I J B D))) ∧ (¬ (8 : Int32) ≤ z11 → wc_LassoFinderModel_instead_29 a0 Post x2 I J B D))))))
def wl_LassoFinderModel_instead_4 (a0 : Int32) (Post : Int32 → (Nat → Int32) → (Nat → Int64) → (Nat → Nat → Int32) → (Nat → Nat → Int64) → Prop) (n : Nat) : Int32 → Int32 → (Nat → Int32) → (Nat → Int64) → (Nat → Nat → Int32) → (Nat → Nat → Int64) → Prop := Nat.rec (fun _ _ _ _ _ _ => False) (fun _ r => wb_LassoFinderModel_instead_4 a0 r Post) n
def wp_LassoFinderModel_instead (I : Nat → Int32) (J : Nat → Int64) (B : Nat → Nat → Int32) (D : Nat → Nat → Int64) (a0 : Int32) (Post : Int32 → (Nat → Int32) → (Nat → Int64) → (Nat → Nat → Int32) → (Nat → Nat → Int64) → Prop) : Prop :=
  ∃ n : Nat, wl_LassoFinderModel_instead_4 a0 Post n a0 0 I J B D
set_option maxHeartbeats 8000000 in
set_option maxRecDepth 100000 in
theorem wJ_LassoFinderModel_instead_29 {p : Program} {l : Launch} {e : Env} {s : State} {m : MethodId} {below : List Frame} {meth : Method} {c : Code} {A : Nat → Prop} (G : va_G) (K : Nat → ClassId) (ad : Nat → Nat) (a0 : Int32) (Post : Int32 → (Nat → Int32) → (Nat → Int64) → (Nat → Nat → Int32) → (Nat → Nat → Int64) → Prop) (C : zCx p s m ([.ref (ad 0), .int a0] : List Value).toArray meth c A G K prog_14_method_22_code (some .int) 5 "LassoFinderModel") : ∀ (x2 : Int32) (I : Nat → Int32) (J : Nat → Int64) (B : Nat → Nat → Int32) (D : Nat → Nat → Int64) (ls : Array Slot) (H : Heap) (locs : List Loc), wc_LassoFinderModel_instead_29 a0 Post x2 I J B D → lv_has ls 5 [(2, .int x2)] → zW G A s.heap (wM ad K I J B D) H locs → W p l e { frames := 1, cells := 0, slots := 0, locals := 23 } s m ([.ref (ad 0), .int a0] : List Value).toArray below meth c H locs 0 0 (MQ below (va_Qi (fun (r : Int32) (u : zS) => Post r u.1 u.2.1 u.2.2.1 u.2.2.2) (fun u t => zPost G K A (wM ad K u.1 u.2.1 u.2.2.1 u.2.2.2) t) A) ([.ref (ad 0), .int a0] : List Value).toArray s 0 0 A) (F0 m 29 ls []) := by
  obtain ⟨hx, hb, hr, hml, hts, hown, hlocks, hA, hK⟩ := id C
  intro x2 I J B D ls H locs hok hl hw
  unfold wc_LassoFinderModel_instead_29 at hok
  refine lv_iload_n hx hb zd_LassoFinderModel_instead_29 rfl (lv_at hl 0 rfl) ?_
  exact (z_iret (u := (I, J, B, D)) hx hb hr hlocks rfl hw (List.range 58) wM_all wM_nd hok (Nat.le_of_ble_eq_true rfl) (Nat.le_of_ble_eq_true rfl) zd_LassoFinderModel_instead_30)
set_option maxHeartbeats 8000000 in
set_option maxRecDepth 100000 in
theorem wJ_LassoFinderModel_instead_129 {p : Program} {l : Launch} {e : Env} {s : State} {m : MethodId} {below : List Frame} {meth : Method} {c : Code} {A : Nat → Prop} (G : va_G) (K : Nat → ClassId) (ad : Nat → Nat) (a0 : Int32) (Post : Int32 → (Nat → Int32) → (Nat → Int64) → (Nat → Nat → Int32) → (Nat → Nat → Int64) → Prop) (C : zCx p s m ([.ref (ad 0), .int a0] : List Value).toArray meth c A G K prog_14_method_22_code (some .int) 5 "LassoFinderModel") (K4 : Int32 → Int32 → (Nat → Int32) → (Nat → Int64) → (Nat → Nat → Int32) → (Nat → Nat → Int64) → Prop) (kh4 : ∀ (x2 : Int32) (x3 : Int32) (I : Nat → Int32) (J : Nat → Int64) (B : Nat → Nat → Int32) (D : Nat → Nat → Int64) (ls : Array Slot) (H : Heap) (locs : List Loc), K4 x2 x3 I J B D → lv_has ls 5 [(0, .ref (ad 0)), (2, .int x2), (3, .int x3)] → zW G A s.heap (wM ad K I J B D) H locs → W p l e { frames := 1, cells := 0, slots := 0, locals := 23 } s m ([.ref (ad 0), .int a0] : List Value).toArray below meth c H locs 0 0 (MQ below (va_Qi (fun (r : Int32) (u : zS) => Post r u.1 u.2.1 u.2.2.1 u.2.2.2) (fun u t => zPost G K A (wM ad K u.1 u.2.1 u.2.2.1 u.2.2.2) t) A) ([.ref (ad 0), .int a0] : List Value).toArray s 0 0 A) (F0 m 4 ls [])) : ∀ (x2 : Int32) (x3 : Int32) (I : Nat → Int32) (J : Nat → Int64) (B : Nat → Nat → Int32) (D : Nat → Nat → Int64) (ls : Array Slot) (H : Heap) (locs : List Loc), wc_LassoFinderModel_instead_129 a0 K4 Post x2 x3 I J B D → lv_has ls 5 [(0, .ref (ad 0)), (2, .int x2), (3, .int x3)] → zW G A s.heap (wM ad K I J B D) H locs → W p l e { frames := 1, cells := 0, slots := 0, locals := 23 } s m ([.ref (ad 0), .int a0] : List Value).toArray below meth c H locs 0 0 (MQ below (va_Qi (fun (r : Int32) (u : zS) => Post r u.1 u.2.1 u.2.2.1 u.2.2.2) (fun u t => zPost G K A (wM ad K u.1 u.2.1 u.2.2.1 u.2.2.2) t) A) ([.ref (ad 0), .int a0] : List Value).toArray s 0 0 A) (F0 m 129 ls []) := by
  obtain ⟨hx, hb, hr, hml, hts, hown, hlocks, hA, hK⟩ := id C
  intro x2 x3 I J B D ls H locs hok hl hw
  unfold wc_LassoFinderModel_instead_129 at hok
  obtain ⟨z1, ez1⟩ : ∃ z : Int32, z = (x3 + 1) := ⟨_, rfl⟩
  have hok := hok z1 ez1
  refine lv_iinc (v := z1) hx hb zd_LassoFinderModel_instead_129 hl (k := 2) rfl ez1.symm (by decide) rfl (fun ls hl => ?_)
  have hl : lv_has ls 5 [(3, .int z1), (0, .ref (ad 0)), (2, .int x2)] := hl
  refine lv_goto (tgt := 4) hx hb zd_LassoFinderModel_instead_132 (by decide) ?_
  exact kh4 x2 z1 I J B D ls H locs hok (lv_sub hl [1, 2, 0] rfl) hw
set_option maxHeartbeats 8000000 in
set_option maxRecDepth 100000 in
theorem wJ_LassoFinderModel_instead_123 {p : Program} {l : Launch} {e : Env} {s : State} {m : MethodId} {below : List Frame} {meth : Method} {c : Code} {A : Nat → Prop} (G : va_G) (K : Nat → ClassId) (ad : Nat → Nat) (a0 : Int32) (Post : Int32 → (Nat → Int32) → (Nat → Int64) → (Nat → Nat → Int32) → (Nat → Nat → Int64) → Prop) (C : zCx p s m ([.ref (ad 0), .int a0] : List Value).toArray meth c A G K prog_14_method_22_code (some .int) 5 "LassoFinderModel") (K4 : Int32 → Int32 → (Nat → Int32) → (Nat → Int64) → (Nat → Nat → Int32) → (Nat → Nat → Int64) → Prop) (kh4 : ∀ (x2 : Int32) (x3 : Int32) (I : Nat → Int32) (J : Nat → Int64) (B : Nat → Nat → Int32) (D : Nat → Nat → Int64) (ls : Array Slot) (H : Heap) (locs : List Loc), K4 x2 x3 I J B D → lv_has ls 5 [(0, .ref (ad 0)), (2, .int x2), (3, .int x3)] → zW G A s.heap (wM ad K I J B D) H locs → W p l e { frames := 1, cells := 0, slots := 0, locals := 23 } s m ([.ref (ad 0), .int a0] : List Value).toArray below meth c H locs 0 0 (MQ below (va_Qi (fun (r : Int32) (u : zS) => Post r u.1 u.2.1 u.2.2.1 u.2.2.2) (fun u t => zPost G K A (wM ad K u.1 u.2.1 u.2.2.1 u.2.2.2) t) A) ([.ref (ad 0), .int a0] : List Value).toArray s 0 0 A) (F0 m 4 ls [])) : ∀ (x2 : Int32) (x3 : Int32) (I : Nat → Int32) (J : Nat → Int64) (B : Nat → Nat → Int32) (D : Nat → Nat → Int64) (ls : Array Slot) (H : Heap) (locs : List Loc), wc_LassoFinderModel_instead_123 a0 K4 Post x2 x3 I J B D → lv_has ls 5 [(0, .ref (ad 0)), (2, .int x2), (3, .int x3)] → zW G A s.heap (wM ad K I J B D) H locs → W p l e { frames := 1, cells := 0, slots := 0, locals := 23 } s m ([.ref (ad 0), .int a0] : List Value).toArray below meth c H locs 0 0 (MQ below (va_Qi (fun (r : Int32) (u : zS) => Post r u.1 u.2.1 u.2.2.1 u.2.2.2) (fun u t => zPost G K A (wM ad K u.1 u.2.1 u.2.2.1 u.2.2.2) t) A) ([.ref (ad 0), .int a0] : List Value).toArray s 0 0 A) (F0 m 123 ls []) := by
  obtain ⟨hx, hb, hr, hml, hts, hown, hlocks, hA, hK⟩ := id C
  intro x2 x3 I J B D ls H locs hok hl hw
  unfold wc_LassoFinderModel_instead_123 at hok
  refine lv_aload_n hx hb zd_LassoFinderModel_instead_123 rfl (lv_at hl 0 rfl) ?_
  refine lv_iload_n hx hb zd_LassoFinderModel_instead_124 rfl (lv_at hl 1 rfl) ?_
  refine z_calli (w1 := fun (u : zS) => wM ad K u.1 u.2.1 u.2.2.1 u.2.2.2) (wr := []) (z_runV (q0 := 0) (wc := (wM ad K I J B D)) (As := [.int x2]) (rest := []) ⟨hx, hb, hml, hown, hts⟩ (w_LassoFinderModel_next l G K ad I J B D x2 _ H.size hok) zf_LassoFinderModel_next zm_304 ⟨Nat.le_of_ble_eq_true rfl, Nat.le_of_ble_eq_true rfl⟩ hK hw (List.range 58) wM_all wM_nd wM_g0 rfl rfl hl.1 rfl (Nat.le_of_ble_eq_true rfl) zd_LassoFinderModel_instead_125 ⟨Nat.le_of_ble_eq_true rfl, Nat.le_of_ble_eq_true rfl⟩) hw hA (List.range 58) [] wM_all rfl (by decide) (fun i hi => by cases hi) (fun r2 u H locs hok hw => ?_)
  obtain ⟨I2, J2, B2, D2⟩ := u
  dsimp only at hok
  have hw : zW G A s.heap (wM ad K I2 J2 B2 D2) H locs := hw
  refine lv_istore_n hx hb zd_LassoFinderModel_instead_128 rfl hl (by decide) rfl (fun ls hl => ?_)
  have hl : lv_has ls 5 [(2, .int r2), (0, .ref (ad 0)), (3, .int x3)] := hl
  exact wJ_LassoFinderModel_instead_129 G K ad a0 Post C K4 kh4 r2 x3 I2 J2 B2 D2 ls H locs hok (lv_sub hl [1, 0, 2] rfl) hw
set_option maxHeartbeats 8000000 in
set_option maxRecDepth 100000 in
theorem wB_LassoFinderModel_instead_92 {p : Program} {l : Launch} {e : Env} {s : State} {m : MethodId} {below : List Frame} {meth : Method} {c : Code} {A : Nat → Prop} (G : va_G) (K : Nat → ClassId) (ad : Nat → Nat) (a0 : Int32) (Post : Int32 → (Nat → Int32) → (Nat → Int64) → (Nat → Nat → Int32) → (Nat → Nat → Int64) → Prop) (C : zCx p s m ([.ref (ad 0), .int a0] : List Value).toArray meth c A G K prog_14_method_22_code (some .int) 5 "LassoFinderModel") (K4 : Int32 → Int32 → (Nat → Int32) → (Nat → Int64) → (Nat → Nat → Int32) → (Nat → Nat → Int64) → Prop) (kh4 : ∀ (x2 : Int32) (x3 : Int32) (I : Nat → Int32) (J : Nat → Int64) (B : Nat → Nat → Int32) (D : Nat → Nat → Int64) (ls : Array Slot) (H : Heap) (locs : List Loc), K4 x2 x3 I J B D → lv_has ls 5 [(0, .ref (ad 0)), (2, .int x2), (3, .int x3)] → zW G A s.heap (wM ad K I J B D) H locs → W p l e { frames := 1, cells := 0, slots := 0, locals := 23 } s m ([.ref (ad 0), .int a0] : List Value).toArray below meth c H locs 0 0 (MQ below (va_Qi (fun (r : Int32) (u : zS) => Post r u.1 u.2.1 u.2.2.1 u.2.2.2) (fun u t => zPost G K A (wM ad K u.1 u.2.1 u.2.2.1 u.2.2.2) t) A) ([.ref (ad 0), .int a0] : List Value).toArray s 0 0 A) (F0 m 4 ls [])) (K92 : Int32 → Int32 → Int32 → (Nat → Int32) → (Nat → Int64) → (Nat → Nat → Int32) → (Nat → Nat → Int64) → Prop) (kh92 : ∀ (x2 : Int32) (x3 : Int32) (x4 : Int32) (I : Nat → Int32) (J : Nat → Int64) (B : Nat → Nat → Int32) (D : Nat → Nat → Int64) (ls : Array Slot) (H : Heap) (locs : List Loc), K92 x2 x3 x4 I J B D → lv_has ls 5 [(0, .ref (ad 0)), (2, .int x2), (3, .int x3), (4, .int x4)] → zW G A s.heap (wM ad K I J B D) H locs → W p l e { frames := 1, cells := 0, slots := 0, locals := 23 } s m ([.ref (ad 0), .int a0] : List Value).toArray below meth c H locs 0 0 (MQ below (va_Qi (fun (r : Int32) (u : zS) => Post r u.1 u.2.1 u.2.2.1 u.2.2.2) (fun u t => zPost G K A (wM ad K u.1 u.2.1 u.2.2.1 u.2.2.2) t) A) ([.ref (ad 0), .int a0] : List Value).toArray s 0 0 A) (F0 m 92 ls [])) : ∀ (x2 : Int32) (x3 : Int32) (x4 : Int32) (I : Nat → Int32) (J : Nat → Int64) (B : Nat → Nat → Int32) (D : Nat → Nat → Int64) (ls : Array Slot) (H : Heap) (locs : List Loc), wb_LassoFinderModel_instead_92 a0 K92 K4 Post x2 x3 x4 I J B D → lv_has ls 5 [(0, .ref (ad 0)), (2, .int x2), (3, .int x3), (4, .int x4)] → zW G A s.heap (wM ad K I J B D) H locs → W p l e { frames := 1, cells := 0, slots := 0, locals := 23 } s m ([.ref (ad 0), .int a0] : List Value).toArray below meth c H locs 0 0 (MQ below (va_Qi (fun (r : Int32) (u : zS) => Post r u.1 u.2.1 u.2.2.1 u.2.2.2) (fun u t => zPost G K A (wM ad K u.1 u.2.1 u.2.2.1 u.2.2.2) t) A) ([.ref (ad 0), .int a0] : List Value).toArray s 0 0 A) (F0 m 92 ls []) := by
  obtain ⟨hx, hb, hr, hml, hts, hown, hlocks, hA, hK⟩ := id C
  intro x2 x3 x4 I J B D ls H locs hok hl hw
  unfold wb_LassoFinderModel_instead_92 at hok
  refine lv_iload hx hb zd_LassoFinderModel_instead_92 (lv_at hl 3 rfl) ?_
  refine lv_bipush (v := 8) hx hb zd_LassoFinderModel_instead_94 (by decide) ?_
  refine lv_icmp_ge (tgt := 123) hx hb zd_LassoFinderModel_instead_96 (by decide) (fun hc3 => ?_) (fun hc3 => ?_)
  · have hok := hok.1 hc3
    exact wJ_LassoFinderModel_instead_123 G K ad a0 Post C K4 kh4 x2 x3 I J B D ls H locs hok (lv_sub hl [0, 1, 2] rfl) hw
  · have hok := hok.2 hc3
    refine lv_aload_n hx hb zd_LassoFinderModel_instead_99 rfl (lv_at hl 0 rfl) ?_
    refine z_get (v := .ref (ad 6)) hx hb hts hown hK hw zZ12 0 wM_g0 14 (by decide) zm_240 rfl zd_LassoFinderModel_instead_100 ?_
    refine lv_iload_n hx hb zd_LassoFinderModel_instead_103 rfl (lv_at hl 1 rfl) ?_
    refine va_iald (f := (B 5)) hx hb hK hw.1 6 0 wM_a6 rfl hok.1 zd_LassoFinderModel_instead_104 ?_
    have hok := hok.2
    refine lv_topi (fun z4 ez4 => ?_)
    have hok := hok z4 ez4
    refine lv_bipush (v := 7) hx hb zd_LassoFinderModel_instead_105 (by decide) ?_
    refine lv_icmp_eq (tgt := 123) hx hb zd_LassoFinderModel_instead_107 (by decide) (fun hc5 => ?_) (fun hc5 => ?_)
    · have hok := hok.1 hc5
      exact wJ_LassoFinderModel_instead_123 G K ad a0 Post C K4 kh4 x2 x3 I J B D ls H locs hok (lv_sub hl [0, 1, 2] rfl) hw
    · have hok := hok.2 hc5
      refine lv_aload_n hx hb zd_LassoFinderModel_instead_110 rfl (lv_at hl 0 rfl) ?_
      refine z_get (v := .ref (ad 8)) hx hb hts hown hK hw zZ12 0 wM_g0 16 (by decide) zm_242 rfl zd_LassoFinderModel_instead_111 ?_
      refine lv_iload_n hx hb zd_LassoFinderModel_instead_114 rfl (lv_at hl 1 rfl) ?_
      refine va_iald (f := (B 7)) hx hb hK hw.1 8 0 wM_a8 rfl hok.1 zd_LassoFinderModel_instead_115 ?_
      have hok := hok.2
      refine lv_topi (fun z6 ez6 => ?_)
      have hok := hok z6 ez6
      refine lv_istore_n hx hb zd_LassoFinderModel_instead_116 rfl hl (by decide) rfl (fun ls hl => ?_)
      have hl : lv_has ls 5 [(2, .int z6), (0, .ref (ad 0)), (3, .int x3), (4, .int x4)] := hl
      obtain ⟨z7, ez7⟩ : ∃ z : Int32, z = (x4 + 1) := ⟨_, rfl⟩
      have hok := hok z7 ez7
      refine lv_iinc (v := z7) hx hb zd_LassoFinderModel_instead_117 hl (k := 3) rfl ez7.symm (by decide) rfl (fun ls hl => ?_)
      have hl : lv_has ls 5 [(4, .int z7), (2, .int z6), (0, .ref (ad 0)), (3, .int x3)] := hl
      refine lv_goto (tgt := 92) hx hb zd_LassoFinderModel_instead_120 (by decide) ?_
      exact kh92 z6 x3 z7 I J B D ls H locs hok (lv_sub hl [2, 1, 3, 0] rfl) hw
theorem wL_LassoFinderModel_instead_92 {p : Program} {l : Launch} {e : Env} {s : State} {m : MethodId} {below : List Frame} {meth : Method} {c : Code} {A : Nat → Prop} (G : va_G) (K : Nat → ClassId) (ad : Nat → Nat) (a0 : Int32) (Post : Int32 → (Nat → Int32) → (Nat → Int64) → (Nat → Nat → Int32) → (Nat → Nat → Int64) → Prop) (C : zCx p s m ([.ref (ad 0), .int a0] : List Value).toArray meth c A G K prog_14_method_22_code (some .int) 5 "LassoFinderModel") (K4 : Int32 → Int32 → (Nat → Int32) → (Nat → Int64) → (Nat → Nat → Int32) → (Nat → Nat → Int64) → Prop) (kh4 : ∀ (x2 : Int32) (x3 : Int32) (I : Nat → Int32) (J : Nat → Int64) (B : Nat → Nat → Int32) (D : Nat → Nat → Int64) (ls : Array Slot) (H : Heap) (locs : List Loc), K4 x2 x3 I J B D → lv_has ls 5 [(0, .ref (ad 0)), (2, .int x2), (3, .int x3)] → zW G A s.heap (wM ad K I J B D) H locs → W p l e { frames := 1, cells := 0, slots := 0, locals := 23 } s m ([.ref (ad 0), .int a0] : List Value).toArray below meth c H locs 0 0 (MQ below (va_Qi (fun (r : Int32) (u : zS) => Post r u.1 u.2.1 u.2.2.1 u.2.2.2) (fun u t => zPost G K A (wM ad K u.1 u.2.1 u.2.2.1 u.2.2.2) t) A) ([.ref (ad 0), .int a0] : List Value).toArray s 0 0 A) (F0 m 4 ls [])) : ∀ (n : Nat) (x2 : Int32) (x3 : Int32) (x4 : Int32) (I : Nat → Int32) (J : Nat → Int64) (B : Nat → Nat → Int32) (D : Nat → Nat → Int64) (ls : Array Slot) (H : Heap) (locs : List Loc), wl_LassoFinderModel_instead_92 a0 K4 Post n x2 x3 x4 I J B D → lv_has ls 5 [(0, .ref (ad 0)), (2, .int x2), (3, .int x3), (4, .int x4)] → zW G A s.heap (wM ad K I J B D) H locs → W p l e { frames := 1, cells := 0, slots := 0, locals := 23 } s m ([.ref (ad 0), .int a0] : List Value).toArray below meth c H locs 0 0 (MQ below (va_Qi (fun (r : Int32) (u : zS) => Post r u.1 u.2.1 u.2.2.1 u.2.2.2) (fun u t => zPost G K A (wM ad K u.1 u.2.1 u.2.2.1 u.2.2.2) t) A) ([.ref (ad 0), .int a0] : List Value).toArray s 0 0 A) (F0 m 92 ls []) := by
  intro n
  induction n with
  | zero => intro x2 x3 x4 I J B D ls H locs hok; exact hok.elim
  | succ n ih => exact wB_LassoFinderModel_instead_92 G K ad a0 Post C K4 kh4 (wl_LassoFinderModel_instead_92 a0 K4 Post n) ih
set_option maxHeartbeats 8000000 in
set_option maxRecDepth 100000 in
theorem wB_LassoFinderModel_instead_4 {p : Program} {l : Launch} {e : Env} {s : State} {m : MethodId} {below : List Frame} {meth : Method} {c : Code} {A : Nat → Prop} (G : va_G) (K : Nat → ClassId) (ad : Nat → Nat) (a0 : Int32) (Post : Int32 → (Nat → Int32) → (Nat → Int64) → (Nat → Nat → Int32) → (Nat → Nat → Int64) → Prop) (C : zCx p s m ([.ref (ad 0), .int a0] : List Value).toArray meth c A G K prog_14_method_22_code (some .int) 5 "LassoFinderModel") (K4 : Int32 → Int32 → (Nat → Int32) → (Nat → Int64) → (Nat → Nat → Int32) → (Nat → Nat → Int64) → Prop) (kh4 : ∀ (x2 : Int32) (x3 : Int32) (I : Nat → Int32) (J : Nat → Int64) (B : Nat → Nat → Int32) (D : Nat → Nat → Int64) (ls : Array Slot) (H : Heap) (locs : List Loc), K4 x2 x3 I J B D → lv_has ls 5 [(0, .ref (ad 0)), (2, .int x2), (3, .int x3)] → zW G A s.heap (wM ad K I J B D) H locs → W p l e { frames := 1, cells := 0, slots := 0, locals := 23 } s m ([.ref (ad 0), .int a0] : List Value).toArray below meth c H locs 0 0 (MQ below (va_Qi (fun (r : Int32) (u : zS) => Post r u.1 u.2.1 u.2.2.1 u.2.2.2) (fun u t => zPost G K A (wM ad K u.1 u.2.1 u.2.2.1 u.2.2.2) t) A) ([.ref (ad 0), .int a0] : List Value).toArray s 0 0 A) (F0 m 4 ls [])) : ∀ (x2 : Int32) (x3 : Int32) (I : Nat → Int32) (J : Nat → Int64) (B : Nat → Nat → Int32) (D : Nat → Nat → Int64) (ls : Array Slot) (H : Heap) (locs : List Loc), wb_LassoFinderModel_instead_4 a0 K4 Post x2 x3 I J B D → lv_has ls 5 [(0, .ref (ad 0)), (2, .int x2), (3, .int x3)] → zW G A s.heap (wM ad K I J B D) H locs → W p l e { frames := 1, cells := 0, slots := 0, locals := 23 } s m ([.ref (ad 0), .int a0] : List Value).toArray below meth c H locs 0 0 (MQ below (va_Qi (fun (r : Int32) (u : zS) => Post r u.1 u.2.1 u.2.2.1 u.2.2.2) (fun u t => zPost G K A (wM ad K u.1 u.2.1 u.2.2.1 u.2.2.2) t) A) ([.ref (ad 0), .int a0] : List Value).toArray s 0 0 A) (F0 m 4 ls []) := by
  obtain ⟨hx, hb, hr, hml, hts, hown, hlocks, hA, hK⟩ := id C
  intro x2 x3 I J B D ls H locs hok hl hw
  unfold wb_LassoFinderModel_instead_4 at hok
  refine lv_iload_n hx hb zd_LassoFinderModel_instead_4 rfl (lv_at hl 2 rfl) ?_
  refine lv_iconst (v := 2) hx hb zd_LassoFinderModel_instead_5 (by decide) ?_
  refine lv_aload_n hx hb zd_LassoFinderModel_instead_6 rfl (lv_at hl 0 rfl) ?_
  refine z_get (v := .int (I 8)) hx hb hts hown hK hw zZ12 0 wM_g0 13 (by decide) zm_307 rfl zd_LassoFinderModel_instead_7 ?_
  refine lv_imul hx hb zd_LassoFinderModel_instead_10 ?_
  refine lv_topi (fun z8 ez8 => ?_)
  have hok := hok z8 ez8
  refine lv_icmp_gt (tgt := 135) hx hb zd_LassoFinderModel_instead_11 (by decide) (fun hc9 => ?_) (fun hc9 => ?_)
  · have hok := hok.1 hc9
    refine lv_bipush (v := (-3)) hx hb zd_LassoFinderModel_instead_135 (by decide) ?_
    exact (z_iret (u := (I, J, B, D)) hx hb hr hlocks rfl hw (List.range 58) wM_all wM_nd hok (Nat.le_of_ble_eq_true rfl) (Nat.le_of_ble_eq_true rfl) zd_LassoFinderModel_instead_137)
  · have hok := hok.2 hc9
    refine lv_iload_n hx hb zd_LassoFinderModel_instead_14 rfl (lv_at hl 1 rfl) ?_
    refine lv_if_lt (tgt := 29) hx hb zd_LassoFinderModel_instead_15 (by decide) (fun hc10 => ?_) (fun hc10 => ?_)
    · have hok := hok.1 hc10
      exact wJ_LassoFinderModel_instead_29 G K ad a0 Post C x2 I J B D ls H locs hok (lv_sub hl [1] rfl) hw
    · have hok := hok.2 hc10
      refine lv_aload_n hx hb zd_LassoFinderModel_instead_18 rfl (lv_at hl 0 rfl) ?_
      refine z_get (v := .ref (ad 6)) hx hb hts hown hK hw zZ12 0 wM_g0 14 (by decide) zm_240 rfl zd_LassoFinderModel_instead_19 ?_
      refine lv_iload_n hx hb zd_LassoFinderModel_instead_22 rfl (lv_at hl 1 rfl) ?_
      refine va_iald (f := (B 5)) hx hb hK hw.1 6 0 wM_a6 rfl hok.1 zd_LassoFinderModel_instead_23 ?_
      have hok := hok.2
      refine lv_topi (fun z11 ez11 => ?_)
      have hok := hok z11 ez11
      refine lv_bipush (v := 8) hx hb zd_LassoFinderModel_instead_24 (by decide) ?_
      refine lv_icmp_ge (tgt := 31) hx hb zd_LassoFinderModel_instead_26 (by decide) (fun hc12 => ?_) (fun hc12 => ?_)
      · have hok := hok.1 hc12
        refine lv_aload_n hx hb zd_LassoFinderModel_instead_31 rfl (lv_at hl 0 rfl) ?_
        refine z_get (v := .ref (ad 6)) hx hb hts hown hK hw zZ12 0 wM_g0 14 (by decide) zm_240 rfl zd_LassoFinderModel_instead_32 ?_
        refine lv_iload_n hx hb zd_LassoFinderModel_instead_35 rfl (lv_at hl 1 rfl) ?_
        refine va_iald (f := (B 5)) hx hb hK hw.1 6 0 wM_a6 rfl hok.1 zd_LassoFinderModel_instead_36 ?_
        have hok := hok.2
        refine lv_topi (fun z13 ez13 => ?_)
        have hok := hok z13 ez13
        refine lv_bipush (v := 8) hx hb zd_LassoFinderModel_instead_37 (by decide) ?_
        refine lv_icmp_ne (tgt := 49) hx hb zd_LassoFinderModel_instead_39 (by decide) (fun hc14 => ?_) (fun hc14 => ?_)
        · have hok := hok.1 hc14
          refine lv_aload_n hx hb zd_LassoFinderModel_instead_49 rfl (lv_at hl 0 rfl) ?_
          refine z_get (v := .ref (ad 6)) hx hb hts hown hK hw zZ12 0 wM_g0 14 (by decide) zm_240 rfl zd_LassoFinderModel_instead_50 ?_
          refine lv_iload_n hx hb zd_LassoFinderModel_instead_53 rfl (lv_at hl 1 rfl) ?_
          refine va_iald (f := (B 5)) hx hb hK hw.1 6 0 wM_a6 rfl hok.1 zd_LassoFinderModel_instead_54 ?_
          have hok := hok.2
          refine lv_topi (fun z15 ez15 => ?_)
          have hok := hok z15 ez15
          refine lv_bipush (v := 10) hx hb zd_LassoFinderModel_instead_55 (by decide) ?_
          refine lv_icmp_ne (tgt := 89) hx hb zd_LassoFinderModel_instead_57 (by decide) (fun hc16 => ?_) (fun hc16 => ?_)
          · have hok := hok.1 hc16
            refine lv_iconst (v := 0) hx hb zd_LassoFinderModel_instead_89 (by decide) ?_
            refine lv_istore hx hb zd_LassoFinderModel_instead_90 hl (by decide) rfl (fun ls hl => ?_)
            have hl : lv_has ls 5 [(4, .int 0), (0, .ref (ad 0)), (2, .int x2), (3, .int x3)] := hl
            obtain ⟨n9, hok⟩ := hok
            exact wL_LassoFinderModel_instead_92 G K ad a0 Post C K4 kh4 n9 x2 x3 0 I J B D ls H locs hok (lv_sub hl [1, 2, 3, 0] rfl) hw
          · have hok := hok.2 hc16
            refine lv_aload_n hx hb zd_LassoFinderModel_instead_60 rfl (lv_at hl 0 rfl) ?_
            refine z_get (v := .ref (ad 23)) hx hb hts hown hK hw zZ12 0 wM_g0 33 (by decide) zm_257 rfl zd_LassoFinderModel_instead_61 ?_
            refine lv_bipush (v := 8) hx hb zd_LassoFinderModel_instead_64 (by decide) ?_
            refine lv_aload_n hx hb zd_LassoFinderModel_instead_66 rfl (lv_at hl 0 rfl) ?_
            refine z_get (v := .ref (ad 7)) hx hb hts hown hK hw zZ12 0 wM_g0 15 (by decide) zm_241 rfl zd_LassoFinderModel_instead_67 ?_
            refine lv_iload_n hx hb zd_LassoFinderModel_instead_70 rfl (lv_at hl 1 rfl) ?_
            refine va_iald (f := (B 6)) hx hb hK hw.1 7 0 wM_a7 rfl hok.1 zd_LassoFinderModel_instead_71 ?_
            have hok := hok.2
            refine lv_topi (fun z17 ez17 => ?_)
            have hok := hok z17 ez17
            refine lv_imul hx hb zd_LassoFinderModel_instead_72 ?_
            refine lv_topi (fun z18 ez18 => ?_)
            have hok := hok z18 ez18
            refine lv_aload_n hx hb zd_LassoFinderModel_instead_73 rfl (lv_at hl 0 rfl) ?_
            refine z_get (v := .ref (ad 13)) hx hb hts hown hK hw zZ12 0 wM_g0 21 (by decide) zm_247 rfl zd_LassoFinderModel_instead_74 ?_
            refine lv_iload_n hx hb zd_LassoFinderModel_instead_77 rfl (lv_at hl 1 rfl) ?_
            refine va_iald (f := (B 12)) hx hb hK hw.1 13 0 wM_a13 rfl hok.1 zd_LassoFinderModel_instead_78 ?_
            have hok := hok.2
            refine lv_topi (fun z19 ez19 => ?_)
            have hok := hok z19 ez19
            refine lv_iadd hx hb zd_LassoFinderModel_instead_79 ?_
            refine lv_topi (fun z20 ez20 => ?_)
            have hok := hok z20 ez20
            refine va_iald (f := (B 22)) hx hb hK hw.1 23 0 wM_a23 rfl hok.1 zd_LassoFinderModel_instead_80 ?_
            have hok := hok.2
            refine lv_topi (fun z21 ez21 => ?_)
            have hok := hok z21 ez21
            refine lv_istore_n hx hb zd_LassoFinderModel_instead_81 rfl hl (by decide) rfl (fun ls hl => ?_)
            have hl : lv_has ls 5 [(2, .int z21), (0, .ref (ad 0)), (3, .int x3)] := hl
            refine lv_iload_n hx hb zd_LassoFinderModel_instead_82 rfl (lv_at hl 0 rfl) ?_
            refine lv_if_ge (tgt := 129) hx hb zd_LassoFinderModel_instead_83 (by decide) (fun hc22 => ?_) (fun hc22 => ?_)
            · have hok := hok.1 hc22
              exact wJ_LassoFinderModel_instead_129 G K ad a0 Post C K4 kh4 z21 x3 I J B D ls H locs hok (lv_sub hl [1, 0, 2] rfl) hw
            · have hok := hok.2 hc22
              refine lv_bipush (v := (-2)) hx hb zd_LassoFinderModel_instead_86 (by decide) ?_
              exact (z_iret (u := (I, J, B, D)) hx hb hr hlocks rfl hw (List.range 58) wM_all wM_nd hok (Nat.le_of_ble_eq_true rfl) (Nat.le_of_ble_eq_true rfl) zd_LassoFinderModel_instead_88)
        · have hok := hok.2 hc14
          refine lv_iload_n hx hb zd_LassoFinderModel_instead_42 rfl (lv_at hl 1 rfl) ?_
          refine lv_iconst (v := 1) hx hb zd_LassoFinderModel_instead_43 (by decide) ?_
          refine lv_iadd hx hb zd_LassoFinderModel_instead_44 ?_
          refine lv_topi (fun z23 ez23 => ?_)
          have hok := hok z23 ez23
          refine lv_istore_n hx hb zd_LassoFinderModel_instead_45 rfl hl (by decide) rfl (fun ls hl => ?_)
          have hl : lv_has ls 5 [(2, .int z23), (0, .ref (ad 0)), (3, .int x3)] := hl
          refine lv_goto (tgt := 129) hx hb zd_LassoFinderModel_instead_46 (by decide) ?_
          exact wJ_LassoFinderModel_instead_129 G K ad a0 Post C K4 kh4 z23 x3 I J B D ls H locs hok (lv_sub hl [1, 0, 2] rfl) hw
      · have hok := hok.2 hc12
        exact wJ_LassoFinderModel_instead_29 G K ad a0 Post C x2 I J B D ls H locs hok (lv_sub hl [1] rfl) hw
theorem wL_LassoFinderModel_instead_4 {p : Program} {l : Launch} {e : Env} {s : State} {m : MethodId} {below : List Frame} {meth : Method} {c : Code} {A : Nat → Prop} (G : va_G) (K : Nat → ClassId) (ad : Nat → Nat) (a0 : Int32) (Post : Int32 → (Nat → Int32) → (Nat → Int64) → (Nat → Nat → Int32) → (Nat → Nat → Int64) → Prop) (C : zCx p s m ([.ref (ad 0), .int a0] : List Value).toArray meth c A G K prog_14_method_22_code (some .int) 5 "LassoFinderModel") : ∀ (n : Nat) (x2 : Int32) (x3 : Int32) (I : Nat → Int32) (J : Nat → Int64) (B : Nat → Nat → Int32) (D : Nat → Nat → Int64) (ls : Array Slot) (H : Heap) (locs : List Loc), wl_LassoFinderModel_instead_4 a0 Post n x2 x3 I J B D → lv_has ls 5 [(0, .ref (ad 0)), (2, .int x2), (3, .int x3)] → zW G A s.heap (wM ad K I J B D) H locs → W p l e { frames := 1, cells := 0, slots := 0, locals := 23 } s m ([.ref (ad 0), .int a0] : List Value).toArray below meth c H locs 0 0 (MQ below (va_Qi (fun (r : Int32) (u : zS) => Post r u.1 u.2.1 u.2.2.1 u.2.2.2) (fun u t => zPost G K A (wM ad K u.1 u.2.1 u.2.2.1 u.2.2.2) t) A) ([.ref (ad 0), .int a0] : List Value).toArray s 0 0 A) (F0 m 4 ls []) := by
  intro n
  induction n with
  | zero => intro x2 x3 I J B D ls H locs hok; exact hok.elim
  | succ n ih => exact wB_LassoFinderModel_instead_4 G K ad a0 Post C (wl_LassoFinderModel_instead_4 a0 Post n) ih
set_option maxHeartbeats 8000000 in
set_option maxRecDepth 100000 in
theorem w_LassoFinderModel_instead (l : Launch) (G : va_G) (K : Nat → ClassId) (ad : Nat → Nat) (I : Nat → Int32) (J : Nat → Int64) (B : Nat → Nat → Int32) (D : Nat → Nat → Int64) (a0 : Int32) (Post : Int32 → (Nat → Int32) → (Nat → Int64) → (Nat → Nat → Int32) → (Nat → Nat → Int64) → Prop) (sz : Nat) (hok : wp_LassoFinderModel_instead I J B D a0 Post) : Met l zy_LassoFinderModel_instead (Cond.code zy_LassoFinderModel_instead prog_14_method_22_code 5 (some .int) :: zTB) { frames := 1, cells := 0, slots := 0, locals := 23 } (va_Pc [.ref (ad 0), .int a0] (zPre G K (wM ad K I J B D) sz)) (va_Qi (fun (r : Int32) (u : zS) => Post r u.1 u.2.1 u.2.2.1 u.2.2.2) (fun u t => zPost G K (va_A (wM ad K I J B D) sz) (wM ad K u.1 u.2.1 u.2.2.1 u.2.2.2) t) (va_A (wM ad K I J B D) sz)) 0 0 (va_A (wM ad K I J B D) sz) := by
  refine zMet (y := zy_LassoFinderModel_instead) (av := [.ref (ad 0), .int a0]) (maxL := 5) (cc := prog_14_method_22_code) (ret := (some .int)) (W0 := (wM ad K I J B D)) (sz := sz) (G := G) (K := K) (wt := zTB) (mc := 0) (ms := 0) (Qf := fun A => va_Qi (fun (r : Int32) (u : zS) => Post r u.1 u.2.1 u.2.2.1 u.2.2.2) (fun u t => zPost G K A (wM ad K u.1 u.2.1 u.2.2.1 u.2.2.2) t) A) (by decide) (Nat.le_of_ble_eq_true rfl) ?_
  intro p e s m below meth c ls A hx hb hr hml hts hown hlocks hin hA hK H locs hw hsz hl
  clear hsz
  have hown : s.vm.findClass "LassoFinderModel" = some m.cls := hown
  have C : zCx p s m ([.ref (ad 0), .int a0] : List Value).toArray meth c A G K prog_14_method_22_code (some .int) 5 "LassoFinderModel" := ⟨hx, hb, hr, hml, hts, hown, hlocks, hA, hK⟩
  have hl : lv_has ls 5 [(0, .ref (ad 0)), (1, .int a0)] := hl
  have hw : zW G A s.heap (wM ad K I J B D) H locs := hw
  unfold wp_LassoFinderModel_instead at hok
  refine lv_iload_n hx hb zd_LassoFinderModel_instead_0 rfl (lv_at hl 1 rfl) ?_
  refine lv_istore_n hx hb zd_LassoFinderModel_instead_1 rfl hl (by decide) rfl (fun ls hl => ?_)
  have hl : lv_has ls 5 [(2, .int a0), (0, .ref (ad 0)), (1, .int a0)] := hl
  refine lv_iconst (v := 0) hx hb zd_LassoFinderModel_instead_2 (by decide) ?_
  refine lv_istore_n hx hb zd_LassoFinderModel_instead_3 rfl hl (by decide) rfl (fun ls hl => ?_)
  have hl : lv_has ls 5 [(3, .int 0), (2, .int a0), (0, .ref (ad 0)), (1, .int a0)] := hl
  obtain ⟨n9, hok⟩ := hok
  exact wL_LassoFinderModel_instead_4 G K ad a0 Post C n9 a0 0 I J B D ls H locs hok (lv_sub hl [2, 1, 0] rfl) hw
def wc_LassoFinderModel_pointOf_19 (a0 : Int32) (a1 : Int32) (Post : Int32 → (Nat → Int32) → (Nat → Int64) → (Nat → Nat → Int32) → (Nat → Nat → Int64) → Prop) (y0 : Int32) (I : Nat → Int32) (J : Nat → Int64) (B : Nat → Nat → Int32) (D : Nat → Nat → Int64) : Prop :=
  Post y0 I J B D
def wp_LassoFinderModel_pointOf (I : Nat → Int32) (J : Nat → Int64) (B : Nat → Nat → Int32) (D : Nat → Nat → Int64) (a0 : Int32) (a1 : Int32) (Post : Int32 → (Nat → Int32) → (Nat → Int64) → (Nat → Nat → Int32) → (Nat → Nat → Int64) → Prop) : Prop :=
  (((0 : Int32) ≤ a1 → vp_in a1 140 ∧ ∀ z2 : Int32, z2 = ((B 11) a1.toNatClampNeg) → wc_LassoFinderModel_pointOf_19 a0 a1 Post z2 I J B D) ∧ (¬ (0 : Int32) ≤ a1 → vp_in a0 5 ∧ ∀ z3 : Int32, z3 = ((B 20) a0.toNatClampNeg) → wc_LassoFinderModel_pointOf_19 a0 a1 Post z3 I J B D))
set_option maxHeartbeats 8000000 in
set_option maxRecDepth 100000 in
theorem wJ_LassoFinderModel_pointOf_19 {p : Program} {l : Launch} {e : Env} {s : State} {m : MethodId} {below : List Frame} {meth : Method} {c : Code} {A : Nat → Prop} (G : va_G) (K : Nat → ClassId) (ad : Nat → Nat) (a0 : Int32) (a1 : Int32) (Post : Int32 → (Nat → Int32) → (Nat → Int64) → (Nat → Nat → Int32) → (Nat → Nat → Int64) → Prop) (C : zCx p s m ([.ref (ad 0), .int a0, .int a1] : List Value).toArray meth c A G K prog_14_method_26_code (some .int) 3 "LassoFinderModel") : ∀ (y0 : Int32) (I : Nat → Int32) (J : Nat → Int64) (B : Nat → Nat → Int32) (D : Nat → Nat → Int64) (ls : Array Slot) (H : Heap) (locs : List Loc), wc_LassoFinderModel_pointOf_19 a0 a1 Post y0 I J B D → lv_has ls 3 [] → zW G A s.heap (wM ad K I J B D) H locs → W p l e { frames := 0, cells := 0, slots := 0, locals := 0 } s m ([.ref (ad 0), .int a0, .int a1] : List Value).toArray below meth c H locs 0 0 (MQ below (va_Qi (fun (r : Int32) (u : zS) => Post r u.1 u.2.1 u.2.2.1 u.2.2.2) (fun u t => zPost G K A (wM ad K u.1 u.2.1 u.2.2.1 u.2.2.2) t) A) ([.ref (ad 0), .int a0, .int a1] : List Value).toArray s 0 0 A) (F0 m 19 ls [.int y0]) := by
  obtain ⟨hx, hb, hr, hml, hts, hown, hlocks, hA, hK⟩ := id C
  intro y0 I J B D ls H locs hok hl hw
  unfold wc_LassoFinderModel_pointOf_19 at hok
  exact (z_iret (u := (I, J, B, D)) hx hb hr hlocks rfl hw (List.range 58) wM_all wM_nd hok (Nat.le_of_ble_eq_true rfl) (Nat.le_of_ble_eq_true rfl) zd_LassoFinderModel_pointOf_19)
set_option maxHeartbeats 8000000 in
set_option maxRecDepth 100000 in
theorem w_LassoFinderModel_pointOf (l : Launch) (G : va_G) (K : Nat → ClassId) (ad : Nat → Nat) (I : Nat → Int32) (J : Nat → Int64) (B : Nat → Nat → Int32) (D : Nat → Nat → Int64) (a0 : Int32) (a1 : Int32) (Post : Int32 → (Nat → Int32) → (Nat → Int64) → (Nat → Nat → Int32) → (Nat → Nat → Int64) → Prop) (sz : Nat) (hok : wp_LassoFinderModel_pointOf I J B D a0 a1 Post) : Met l zy_LassoFinderModel_pointOf (Cond.code zy_LassoFinderModel_pointOf prog_14_method_26_code 3 (some .int) :: zTB) { frames := 0, cells := 0, slots := 0, locals := 0 } (va_Pc [.ref (ad 0), .int a0, .int a1] (zPre G K (wM ad K I J B D) sz)) (va_Qi (fun (r : Int32) (u : zS) => Post r u.1 u.2.1 u.2.2.1 u.2.2.2) (fun u t => zPost G K (va_A (wM ad K I J B D) sz) (wM ad K u.1 u.2.1 u.2.2.1 u.2.2.2) t) (va_A (wM ad K I J B D) sz)) 0 0 (va_A (wM ad K I J B D) sz) := by
  refine zMet (y := zy_LassoFinderModel_pointOf) (av := [.ref (ad 0), .int a0, .int a1]) (maxL := 3) (cc := prog_14_method_26_code) (ret := (some .int)) (W0 := (wM ad K I J B D)) (sz := sz) (G := G) (K := K) (wt := zTB) (mc := 0) (ms := 0) (Qf := fun A => va_Qi (fun (r : Int32) (u : zS) => Post r u.1 u.2.1 u.2.2.1 u.2.2.2) (fun u t => zPost G K A (wM ad K u.1 u.2.1 u.2.2.1 u.2.2.2) t) A) (by decide) (Nat.le_of_ble_eq_true rfl) ?_
  intro p e s m below meth c ls A hx hb hr hml hts hown hlocks hin hA hK H locs hw hsz hl
  clear hsz
  have hown : s.vm.findClass "LassoFinderModel" = some m.cls := hown
  have C : zCx p s m ([.ref (ad 0), .int a0, .int a1] : List Value).toArray meth c A G K prog_14_method_26_code (some .int) 3 "LassoFinderModel" := ⟨hx, hb, hr, hml, hts, hown, hlocks, hA, hK⟩
  have hl : lv_has ls 3 [(0, .ref (ad 0)), (1, .int a0), (2, .int a1)] := hl
  have hw : zW G A s.heap (wM ad K I J B D) H locs := hw
  unfold wp_LassoFinderModel_pointOf at hok
  refine lv_iload_n hx hb zd_LassoFinderModel_pointOf_0 rfl (lv_at hl 2 rfl) ?_
  refine lv_if_ge (tgt := 13) hx hb zd_LassoFinderModel_pointOf_1 (by decide) (fun hc1 => ?_) (fun hc1 => ?_)
  · have hok := hok.1 hc1
    refine lv_aload_n hx hb zd_LassoFinderModel_pointOf_13 rfl (lv_at hl 0 rfl) ?_
    refine z_get (v := .ref (ad 12)) hx hb hts hown hK hw zZ12 0 wM_g0 20 (by decide) zm_246 rfl zd_LassoFinderModel_pointOf_14 ?_
    refine lv_iload_n hx hb zd_LassoFinderModel_pointOf_17 rfl (lv_at hl 2 rfl) ?_
    refine va_iald (f := (B 11)) hx hb hK hw.1 12 0 wM_a12 rfl hok.1 zd_LassoFinderModel_pointOf_18 ?_
    have hok := hok.2
    refine lv_topi (fun z2 ez2 => ?_)
    have hok := hok z2 ez2
    exact wJ_LassoFinderModel_pointOf_19 G K ad a0 a1 Post C z2 I J B D ls H locs hok (lv_sub hl [] rfl) hw
  · have hok := hok.2 hc1
    refine lv_aload_n hx hb zd_LassoFinderModel_pointOf_4 rfl (lv_at hl 0 rfl) ?_
    refine z_get (v := .ref (ad 21)) hx hb hts hown hK hw zZ12 0 wM_g0 31 (by decide) zm_255 rfl zd_LassoFinderModel_pointOf_5 ?_
    refine lv_iload_n hx hb zd_LassoFinderModel_pointOf_8 rfl (lv_at hl 1 rfl) ?_
    refine va_iald (f := (B 20)) hx hb hK hw.1 21 0 wM_a21 rfl hok.1 zd_LassoFinderModel_pointOf_9 ?_
    have hok := hok.2
    refine lv_topi (fun z3 ez3 => ?_)
    have hok := hok z3 ez3
    refine lv_goto (tgt := 19) hx hb zd_LassoFinderModel_pointOf_10 (by decide) ?_
    exact wJ_LassoFinderModel_pointOf_19 G K ad a0 a1 Post C z3 I J B D ls H locs hok (lv_sub hl [] rfl) hw
