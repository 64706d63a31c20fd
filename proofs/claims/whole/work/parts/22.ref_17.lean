abbrev zy_LassoFinderModel_stem : MethodName := ⟨"LassoFinderModel", "stem", "()I"⟩
abbrev zy_LassoFinderModel_cycle : MethodName := ⟨"LassoFinderModel", "cycle", "()I"⟩
abbrev zy_LassoFinderModel_lasso : MethodName := ⟨"LassoFinderModel", "lasso", "(II)I"⟩
abbrev zy_LassoFinderModel_walk : MethodName := ⟨"LassoFinderModel", "walk", "()V"⟩
abbrev zy_LassoFinderModel_steps : MethodName := ⟨"LassoFinderModel", "steps", "()I"⟩
abbrev zy_LassoFinderModel_go : MethodName := ⟨"LassoFinderModel", "go", "(I)I"⟩
abbrev zy_LassoFinderModel_value : MethodName := ⟨"LassoFinderModel", "value", "(I)I"⟩
abbrev zy_LassoFinderModel_stood : MethodName := ⟨"LassoFinderModel", "stood", "()Z"⟩
abbrev zy_LassoFinderModel_message : MethodName := ⟨"LassoFinderModel", "message", "(II)I"⟩
theorem zm_291 : Cond.fieldLink "LassoFinderModel" 190 "LassoFinderModel" "path" "[I" ∈ zTB := z_in (zt_6 _ (List.mem_of_getElem? (i := 177) rfl)) rfl
theorem zm_381 : Cond.methodLink "LassoFinderModel" 467 ⟨"LassoFinderModel", "stood", "()Z"⟩ ∈ zTB := z_in (zt_8 _ (List.mem_of_getElem? (i := 153) rfl)) rfl
theorem zm_500 : Cond.code ⟨"LassoFinderModel", "stood", "()Z"⟩ prog_14_method_73_code 1 (some .boolean) ∈ zTB := z_in (zt_8 _ (List.mem_of_getElem? (i := 156) rfl)) rfl
theorem zm_501 : Cond.instanceMethod ⟨"LassoFinderModel", "stood", "()Z"⟩ ∈ zTB := z_in (zt_8 _ (List.mem_of_getElem? (i := 155) rfl)) rfl
theorem zf_LassoFinderModel_stood : zFaceV zy_LassoFinderModel_stood prog_14_method_73_code 1 (some .boolean) 0 := ⟨zm_501, (z_in (zp_8 _ (List.mem_of_getElem? (i := 14) rfl)) rfl), zm_25, zm_500, by decide +kernel, by decide +kernel, by decide +kernel⟩
theorem zd_LassoFinderModel_cycle_0 : decode prog_14_method_68_code 0 = .ok (.aload_n 0, 1) := by decide +kernel
theorem zd_LassoFinderModel_cycle_1 : decode prog_14_method_68_code 1 = .ok (.iconst 0, 1) := by decide +kernel
theorem zd_LassoFinderModel_cycle_2 : decode prog_14_method_68_code 2 = .ok (.putfield 193, 3) := by decide +kernel
theorem zd_LassoFinderModel_cycle_5 : decode prog_14_method_68_code 5 = .ok (.aload_n 0, 1) := by decide +kernel
theorem zd_LassoFinderModel_cycle_6 : decode prog_14_method_68_code 6 = .ok (.getfield 178, 3) := by decide +kernel
theorem zd_LassoFinderModel_cycle_9 : decode prog_14_method_68_code 9 = .ok (.ifCond .ge 7, 3) := by decide +kernel
theorem zd_LassoFinderModel_cycle_12 : decode prog_14_method_68_code 12 = .ok (.iconst 0, 1) := by decide +kernel
theorem zd_LassoFinderModel_cycle_13 : decode prog_14_method_68_code 13 = .ok (.goto 7, 3) := by decide +kernel
theorem zd_LassoFinderModel_cycle_16 : decode prog_14_method_68_code 16 = .ok (.aload_n 0, 1) := by decide +kernel
theorem zd_LassoFinderModel_cycle_17 : decode prog_14_method_68_code 17 = .ok (.getfield 448, 3) := by decide +kernel
theorem zd_LassoFinderModel_cycle_20 : decode prog_14_method_68_code 20 = .ok (.ireturn, 1) := by decide +kernel
theorem zd_LassoFinderModel_go_0 : decode prog_14_method_72_code 0 = .ok (.aload_n 0, 1) := by decide +kernel
theorem zd_LassoFinderModel_go_1 : decode prog_14_method_72_code 1 = .ok (.getfield 187, 3) := by decide +kernel
theorem zd_LassoFinderModel_go_4 : decode prog_14_method_72_code 4 = .ok (.ifCond .ge 7, 3) := by decide +kernel
theorem zd_LassoFinderModel_go_7 : decode prog_14_method_72_code 7 = .ok (.iconst 0, 1) := by decide +kernel
theorem zd_LassoFinderModel_go_8 : decode prog_14_method_72_code 8 = .ok (.goto 12, 3) := by decide +kernel
theorem zd_LassoFinderModel_go_11 : decode prog_14_method_72_code 11 = .ok (.aload_n 0, 1) := by decide +kernel
theorem zd_LassoFinderModel_go_12 : decode prog_14_method_72_code 12 = .ok (.getfield 190, 3) := by decide +kernel
theorem zd_LassoFinderModel_go_15 : decode prog_14_method_72_code 15 = .ok (.aload_n 0, 1) := by decide +kernel
theorem zd_LassoFinderModel_go_16 : decode prog_14_method_72_code 16 = .ok (.getfield 187, 3) := by decide +kernel
theorem zd_LassoFinderModel_go_19 : decode prog_14_method_72_code 19 = .ok (.iaload, 1) := by decide +kernel
theorem zd_LassoFinderModel_go_20 : decode prog_14_method_72_code 20 = .ok (.istore_n 2, 1) := by decide +kernel
theorem zd_LassoFinderModel_go_21 : decode prog_14_method_72_code 21 = .ok (.aload_n 0, 1) := by decide +kernel
theorem zd_LassoFinderModel_go_22 : decode prog_14_method_72_code 22 = .ok (.aload_n 0, 1) := by decide +kernel
theorem zd_LassoFinderModel_go_23 : decode prog_14_method_72_code 23 = .ok (.getfield 187, 3) := by decide +kernel
theorem zd_LassoFinderModel_go_26 : decode prog_14_method_72_code 26 = .ok (.ifCond .ge 7, 3) := by decide +kernel
theorem zd_LassoFinderModel_go_29 : decode prog_14_method_72_code 29 = .ok (.iconst 1, 1) := by decide +kernel
theorem zd_LassoFinderModel_go_30 : decode prog_14_method_72_code 30 = .ok (.goto 46, 3) := by decide +kernel
theorem zd_LassoFinderModel_go_33 : decode prog_14_method_72_code 33 = .ok (.iload_n 1, 1) := by decide +kernel
theorem zd_LassoFinderModel_go_34 : decode prog_14_method_72_code 34 = .ok (.iconst 0, 1) := by decide +kernel
theorem zd_LassoFinderModel_go_35 : decode prog_14_method_72_code 35 = .ok (.aload_n 0, 1) := by decide +kernel
theorem zd_LassoFinderModel_go_36 : decode prog_14_method_72_code 36 = .ok (.getfield 109, 3) := by decide +kernel
theorem zd_LassoFinderModel_go_39 : decode prog_14_method_72_code 39 = .ok (.iload_n 2, 1) := by decide +kernel
theorem zd_LassoFinderModel_go_40 : decode prog_14_method_72_code 40 = .ok (.iconst 1, 1) := by decide +kernel
theorem zd_LassoFinderModel_go_41 : decode prog_14_method_72_code 41 = .ok (.iadd, 1) := by decide +kernel
theorem zd_LassoFinderModel_go_42 : decode prog_14_method_72_code 42 = .ok (.iaload, 1) := by decide +kernel
theorem zd_LassoFinderModel_go_43 : decode prog_14_method_72_code 43 = .ok (.aload_n 0, 1) := by decide +kernel
theorem zd_LassoFinderModel_go_44 : decode prog_14_method_72_code 44 = .ok (.getfield 109, 3) := by decide +kernel
theorem zd_LassoFinderModel_go_47 : decode prog_14_method_72_code 47 = .ok (.iload_n 2, 1) := by decide +kernel
theorem zd_LassoFinderModel_go_48 : decode prog_14_method_72_code 48 = .ok (.iaload, 1) := by decide +kernel
theorem zd_LassoFinderModel_go_49 : decode prog_14_method_72_code 49 = .ok (.isub, 1) := by decide +kernel
theorem zd_LassoFinderModel_go_50 : decode prog_14_method_72_code 50 = .ok (.iconst 1, 1) := by decide +kernel
theorem zd_LassoFinderModel_go_51 : decode prog_14_method_72_code 51 = .ok (.isub, 1) := by decide +kernel
theorem zd_LassoFinderModel_go_52 : decode prog_14_method_72_code 52 = .ok (.invokestatic 196, 3) := by decide +kernel
theorem zd_LassoFinderModel_go_55 : decode prog_14_method_72_code 55 = .ok (.ifCond .ne 7, 3) := by decide +kernel
theorem zd_LassoFinderModel_go_58 : decode prog_14_method_72_code 58 = .ok (.iconst 2, 1) := by decide +kernel
theorem zd_LassoFinderModel_go_59 : decode prog_14_method_72_code 59 = .ok (.goto 17, 3) := by decide +kernel
theorem zd_LassoFinderModel_go_62 : decode prog_14_method_72_code 62 = .ok (.aload_n 0, 1) := by decide +kernel
theorem zd_LassoFinderModel_go_63 : decode prog_14_method_72_code 63 = .ok (.getfield 187, 3) := by decide +kernel
theorem zd_LassoFinderModel_go_66 : decode prog_14_method_72_code 66 = .ok (.bipush 60, 2) := by decide +kernel
theorem zd_LassoFinderModel_go_68 : decode prog_14_method_72_code 68 = .ok (.if_icmp .ne 7, 3) := by decide +kernel
theorem zd_LassoFinderModel_go_71 : decode prog_14_method_72_code 71 = .ok (.iconst 3, 1) := by decide +kernel
theorem zd_LassoFinderModel_go_72 : decode prog_14_method_72_code 72 = .ok (.goto 4, 3) := by decide +kernel
theorem zd_LassoFinderModel_go_75 : decode prog_14_method_72_code 75 = .ok (.iconst 0, 1) := by decide +kernel
theorem zd_LassoFinderModel_go_76 : decode prog_14_method_72_code 76 = .ok (.putfield 193, 3) := by decide +kernel
theorem zd_LassoFinderModel_go_79 : decode prog_14_method_72_code 79 = .ok (.aload_n 0, 1) := by decide +kernel
theorem zd_LassoFinderModel_go_80 : decode prog_14_method_72_code 80 = .ok (.getfield 193, 3) := by decide +kernel
theorem zd_LassoFinderModel_go_83 : decode prog_14_method_72_code 83 = .ok (.ifCond .le 5, 3) := by decide +kernel
theorem zd_LassoFinderModel_go_86 : decode prog_14_method_72_code 86 = .ok (.iconst 0, 1) := by decide +kernel
theorem zd_LassoFinderModel_go_87 : decode prog_14_method_72_code 87 = .ok (.ireturn, 1) := by decide +kernel
theorem zd_LassoFinderModel_go_88 : decode prog_14_method_72_code 88 = .ok (.aload_n 0, 1) := by decide +kernel
theorem zd_LassoFinderModel_go_89 : decode prog_14_method_72_code 89 = .ok (.dup, 1) := by decide +kernel
theorem zd_LassoFinderModel_go_90 : decode prog_14_method_72_code 90 = .ok (.getfield 187, 3) := by decide +kernel
theorem zd_LassoFinderModel_go_93 : decode prog_14_method_72_code 93 = .ok (.iconst 1, 1) := by decide +kernel
theorem zd_LassoFinderModel_go_94 : decode prog_14_method_72_code 94 = .ok (.iadd, 1) := by decide +kernel
theorem zd_LassoFinderModel_go_95 : decode prog_14_method_72_code 95 = .ok (.putfield 187, 3) := by decide +kernel
theorem zd_LassoFinderModel_go_98 : decode prog_14_method_72_code 98 = .ok (.aload_n 0, 1) := by decide +kernel
theorem zd_LassoFinderModel_go_99 : decode prog_14_method_72_code 99 = .ok (.getfield 190, 3) := by decide +kernel
theorem zd_LassoFinderModel_go_102 : decode prog_14_method_72_code 102 = .ok (.aload_n 0, 1) := by decide +kernel
theorem zd_LassoFinderModel_go_103 : decode prog_14_method_72_code 103 = .ok (.getfield 187, 3) := by decide +kernel
theorem zd_LassoFinderModel_go_106 : decode prog_14_method_72_code 106 = .ok (.aload_n 0, 1) := by decide +kernel
theorem zd_LassoFinderModel_go_107 : decode prog_14_method_72_code 107 = .ok (.getfield 112, 3) := by decide +kernel
theorem zd_LassoFinderModel_go_110 : decode prog_14_method_72_code 110 = .ok (.aload_n 0, 1) := by decide +kernel
theorem zd_LassoFinderModel_go_111 : decode prog_14_method_72_code 111 = .ok (.getfield 109, 3) := by decide +kernel
theorem zd_LassoFinderModel_go_114 : decode prog_14_method_72_code 114 = .ok (.iload_n 2, 1) := by decide +kernel
theorem zd_LassoFinderModel_go_115 : decode prog_14_method_72_code 115 = .ok (.iaload, 1) := by decide +kernel
theorem zd_LassoFinderModel_go_116 : decode prog_14_method_72_code 116 = .ok (.iload_n 1, 1) := by decide +kernel
theorem zd_LassoFinderModel_go_117 : decode prog_14_method_72_code 117 = .ok (.iadd, 1) := by decide +kernel
theorem zd_LassoFinderModel_go_118 : decode prog_14_method_72_code 118 = .ok (.iaload, 1) := by decide +kernel
theorem zd_LassoFinderModel_go_119 : decode prog_14_method_72_code 119 = .ok (.iastore, 1) := by decide +kernel
theorem zd_LassoFinderModel_go_120 : decode prog_14_method_72_code 120 = .ok (.aload_n 0, 1) := by decide +kernel
theorem zd_LassoFinderModel_go_121 : decode prog_14_method_72_code 121 = .ok (.getfield 118, 3) := by decide +kernel
theorem zd_LassoFinderModel_go_124 : decode prog_14_method_72_code 124 = .ok (.aload_n 0, 1) := by decide +kernel
theorem zd_LassoFinderModel_go_125 : decode prog_14_method_72_code 125 = .ok (.getfield 109, 3) := by decide +kernel
theorem zd_LassoFinderModel_go_128 : decode prog_14_method_72_code 128 = .ok (.iload_n 2, 1) := by decide +kernel
theorem zd_LassoFinderModel_go_129 : decode prog_14_method_72_code 129 = .ok (.iaload, 1) := by decide +kernel
theorem zd_LassoFinderModel_go_130 : decode prog_14_method_72_code 130 = .ok (.iload_n 1, 1) := by decide +kernel
theorem zd_LassoFinderModel_go_131 : decode prog_14_method_72_code 131 = .ok (.iadd, 1) := by decide +kernel
theorem zd_LassoFinderModel_go_132 : decode prog_14_method_72_code 132 = .ok (.iaload, 1) := by decide +kernel
theorem zd_LassoFinderModel_go_133 : decode prog_14_method_72_code 133 = .ok (.ireturn, 1) := by decide +kernel
theorem zd_LassoFinderModel_lasso_0 : decode prog_14_method_69_code 0 = .ok (.aload_n 0, 1) := by decide +kernel
theorem zd_LassoFinderModel_lasso_1 : decode prog_14_method_69_code 1 = .ok (.aload_n 0, 1) := by decide +kernel
theorem zd_LassoFinderModel_lasso_2 : decode prog_14_method_69_code 2 = .ok (.getfield 178, 3) := by decide +kernel
theorem zd_LassoFinderModel_lasso_5 : decode prog_14_method_69_code 5 = .ok (.ifCond .lt 31, 3) := by decide +kernel
theorem zd_LassoFinderModel_lasso_8 : decode prog_14_method_69_code 8 = .ok (.iload_n 1, 1) := by decide +kernel
theorem zd_LassoFinderModel_lasso_9 : decode prog_14_method_69_code 9 = .ok (.iconst 0, 1) := by decide +kernel
theorem zd_LassoFinderModel_lasso_10 : decode prog_14_method_69_code 10 = .ok (.aload_n 0, 1) := by decide +kernel
theorem zd_LassoFinderModel_lasso_11 : decode prog_14_method_69_code 11 = .ok (.getfield 178, 3) := by decide +kernel
theorem zd_LassoFinderModel_lasso_14 : decode prog_14_method_69_code 14 = .ok (.aload_n 0, 1) := by decide +kernel
theorem zd_LassoFinderModel_lasso_15 : decode prog_14_method_69_code 15 = .ok (.getfield 448, 3) := by decide +kernel
theorem zd_LassoFinderModel_lasso_18 : decode prog_14_method_69_code 18 = .ok (.iadd, 1) := by decide +kernel
theorem zd_LassoFinderModel_lasso_19 : decode prog_14_method_69_code 19 = .ok (.iconst 1, 1) := by decide +kernel
theorem zd_LassoFinderModel_lasso_20 : decode prog_14_method_69_code 20 = .ok (.isub, 1) := by decide +kernel
theorem zd_LassoFinderModel_lasso_21 : decode prog_14_method_69_code 21 = .ok (.invokestatic 196, 3) := by decide +kernel
theorem zd_LassoFinderModel_lasso_24 : decode prog_14_method_69_code 24 = .ok (.ifCond .eq 12, 3) := by decide +kernel
theorem zd_LassoFinderModel_lasso_27 : decode prog_14_method_69_code 27 = .ok (.iload_n 2, 1) := by decide +kernel
theorem zd_LassoFinderModel_lasso_28 : decode prog_14_method_69_code 28 = .ok (.iconst 0, 1) := by decide +kernel
theorem zd_LassoFinderModel_lasso_29 : decode prog_14_method_69_code 29 = .ok (.iconst 2, 1) := by decide +kernel
theorem zd_LassoFinderModel_lasso_30 : decode prog_14_method_69_code 30 = .ok (.invokestatic 196, 3) := by decide +kernel
theorem zd_LassoFinderModel_lasso_33 : decode prog_14_method_69_code 33 = .ok (.ifCond .ne 7, 3) := by decide +kernel
theorem zd_LassoFinderModel_lasso_36 : decode prog_14_method_69_code 36 = .ok (.iconst 1, 1) := by decide +kernel
theorem zd_LassoFinderModel_lasso_37 : decode prog_14_method_69_code 37 = .ok (.goto 4, 3) := by decide +kernel
theorem zd_LassoFinderModel_lasso_40 : decode prog_14_method_69_code 40 = .ok (.iconst 0, 1) := by decide +kernel
theorem zd_LassoFinderModel_lasso_41 : decode prog_14_method_69_code 41 = .ok (.putfield 193, 3) := by decide +kernel
theorem zd_LassoFinderModel_lasso_44 : decode prog_14_method_69_code 44 = .ok (.aload_n 0, 1) := by decide +kernel
theorem zd_LassoFinderModel_lasso_45 : decode prog_14_method_69_code 45 = .ok (.getfield 193, 3) := by decide +kernel
theorem zd_LassoFinderModel_lasso_48 : decode prog_14_method_69_code 48 = .ok (.ifCond .le 5, 3) := by decide +kernel
theorem zd_LassoFinderModel_lasso_51 : decode prog_14_method_69_code 51 = .ok (.iconst 0, 1) := by decide +kernel
theorem zd_LassoFinderModel_lasso_52 : decode prog_14_method_69_code 52 = .ok (.ireturn, 1) := by decide +kernel
theorem zd_LassoFinderModel_lasso_53 : decode prog_14_method_69_code 53 = .ok (.aload_n 0, 1) := by decide +kernel
theorem zd_LassoFinderModel_lasso_54 : decode prog_14_method_69_code 54 = .ok (.getfield 181, 3) := by decide +kernel
theorem zd_LassoFinderModel_lasso_57 : decode prog_14_method_69_code 57 = .ok (.iload_n 1, 1) := by decide +kernel
theorem zd_LassoFinderModel_lasso_58 : decode prog_14_method_69_code 58 = .ok (.invokestatic 451, 3) := by decide +kernel
theorem zd_LassoFinderModel_lasso_61 : decode prog_14_method_69_code 61 = .ok (.istore_n 3, 1) := by decide +kernel
theorem zd_LassoFinderModel_lasso_62 : decode prog_14_method_69_code 62 = .ok (.iload_n 2, 1) := by decide +kernel
theorem zd_LassoFinderModel_lasso_63 : decode prog_14_method_69_code 63 = .ok (.ifCond .ne 19, 3) := by decide +kernel
theorem zd_LassoFinderModel_lasso_66 : decode prog_14_method_69_code 66 = .ok (.iload_n 3, 1) := by decide +kernel
theorem zd_LassoFinderModel_lasso_67 : decode prog_14_method_69_code 67 = .ok (.aload_n 0, 1) := by decide +kernel
theorem zd_LassoFinderModel_lasso_68 : decode prog_14_method_69_code 68 = .ok (.getfield 109, 3) := by decide +kernel
theorem zd_LassoFinderModel_lasso_71 : decode prog_14_method_69_code 71 = .ok (.aload_n 0, 1) := by decide +kernel
theorem zd_LassoFinderModel_lasso_72 : decode prog_14_method_69_code 72 = .ok (.getfield 115, 3) := by decide +kernel
theorem zd_LassoFinderModel_lasso_75 : decode prog_14_method_69_code 75 = .ok (.iload_n 3, 1) := by decide +kernel
theorem zd_LassoFinderModel_lasso_76 : decode prog_14_method_69_code 76 = .ok (.iaload, 1) := by decide +kernel
theorem zd_LassoFinderModel_lasso_77 : decode prog_14_method_69_code 77 = .ok (.iaload, 1) := by decide +kernel
theorem zd_LassoFinderModel_lasso_78 : decode prog_14_method_69_code 78 = .ok (.isub, 1) := by decide +kernel
theorem zd_LassoFinderModel_lasso_79 : decode prog_14_method_69_code 79 = .ok (.goto 23, 3) := by decide +kernel
theorem zd_LassoFinderModel_lasso_82 : decode prog_14_method_69_code 82 = .ok (.iload_n 2, 1) := by decide +kernel
theorem zd_LassoFinderModel_lasso_83 : decode prog_14_method_69_code 83 = .ok (.iconst 1, 1) := by decide +kernel
theorem zd_LassoFinderModel_lasso_84 : decode prog_14_method_69_code 84 = .ok (.if_icmp .ne 12, 3) := by decide +kernel
theorem zd_LassoFinderModel_lasso_87 : decode prog_14_method_69_code 87 = .ok (.aload_n 0, 1) := by decide +kernel
theorem zd_LassoFinderModel_lasso_88 : decode prog_14_method_69_code 88 = .ok (.getfield 118, 3) := by decide +kernel
theorem zd_LassoFinderModel_lasso_91 : decode prog_14_method_69_code 91 = .ok (.iload_n 3, 1) := by decide +kernel
theorem zd_LassoFinderModel_lasso_92 : decode prog_14_method_69_code 92 = .ok (.iaload, 1) := by decide +kernel
theorem zd_LassoFinderModel_lasso_93 : decode prog_14_method_69_code 93 = .ok (.goto 9, 3) := by decide +kernel
theorem zd_LassoFinderModel_lasso_96 : decode prog_14_method_69_code 96 = .ok (.aload_n 0, 1) := by decide +kernel
theorem zd_LassoFinderModel_lasso_97 : decode prog_14_method_69_code 97 = .ok (.getfield 121, 3) := by decide +kernel
theorem zd_LassoFinderModel_lasso_100 : decode prog_14_method_69_code 100 = .ok (.iload_n 3, 1) := by decide +kernel
theorem zd_LassoFinderModel_lasso_101 : decode prog_14_method_69_code 101 = .ok (.iaload, 1) := by decide +kernel
theorem zd_LassoFinderModel_lasso_102 : decode prog_14_method_69_code 102 = .ok (.ireturn, 1) := by decide +kernel
theorem zd_LassoFinderModel_message_0 : decode prog_14_method_75_code 0 = .ok (.aload_n 0, 1) := by decide +kernel
theorem zd_LassoFinderModel_message_1 : decode prog_14_method_75_code 1 = .ok (.invokevirtual 467, 3) := by decide +kernel
theorem zd_LassoFinderModel_message_4 : decode prog_14_method_75_code 4 = .ok (.ifCond .eq 43, 3) := by decide +kernel
theorem zd_LassoFinderModel_message_7 : decode prog_14_method_75_code 7 = .ok (.iload_n 1, 1) := by decide +kernel
theorem zd_LassoFinderModel_message_8 : decode prog_14_method_75_code 8 = .ok (.iconst 0, 1) := by decide +kernel
theorem zd_LassoFinderModel_message_9 : decode prog_14_method_75_code 9 = .ok (.bipush 7, 2) := by decide +kernel
theorem zd_LassoFinderModel_message_11 : decode prog_14_method_75_code 11 = .ok (.invokestatic 196, 3) := by decide +kernel
theorem zd_LassoFinderModel_message_14 : decode prog_14_method_75_code 14 = .ok (.ifCond .eq 33, 3) := by decide +kernel
theorem zd_LassoFinderModel_message_17 : decode prog_14_method_75_code 17 = .ok (.aload_n 0, 1) := by decide +kernel
theorem zd_LassoFinderModel_message_18 : decode prog_14_method_75_code 18 = .ok (.getfield 20, 3) := by decide +kernel
theorem zd_LassoFinderModel_message_21 : decode prog_14_method_75_code 21 = .ok (.iload_n 1, 1) := by decide +kernel
theorem zd_LassoFinderModel_message_22 : decode prog_14_method_75_code 22 = .ok (.iaload, 1) := by decide +kernel
theorem zd_LassoFinderModel_message_23 : decode prog_14_method_75_code 23 = .ok (.ifCond .lt 24, 3) := by decide +kernel
theorem zd_LassoFinderModel_message_26 : decode prog_14_method_75_code 26 = .ok (.iload_n 2, 1) := by decide +kernel
theorem zd_LassoFinderModel_message_27 : decode prog_14_method_75_code 27 = .ok (.iconst 0, 1) := by decide +kernel
theorem zd_LassoFinderModel_message_28 : decode prog_14_method_75_code 28 = .ok (.aload_n 0, 1) := by decide +kernel
theorem zd_LassoFinderModel_message_29 : decode prog_14_method_75_code 29 = .ok (.getfield 133, 3) := by decide +kernel
theorem zd_LassoFinderModel_message_32 : decode prog_14_method_75_code 32 = .ok (.aload_n 0, 1) := by decide +kernel
theorem zd_LassoFinderModel_message_33 : decode prog_14_method_75_code 33 = .ok (.getfield 20, 3) := by decide +kernel
theorem zd_LassoFinderModel_message_36 : decode prog_14_method_75_code 36 = .ok (.iload_n 1, 1) := by decide +kernel
theorem zd_LassoFinderModel_message_37 : decode prog_14_method_75_code 37 = .ok (.iaload, 1) := by decide +kernel
theorem zd_LassoFinderModel_message_38 : decode prog_14_method_75_code 38 = .ok (.iaload, 1) := by decide +kernel
theorem zd_LassoFinderModel_message_39 : decode prog_14_method_75_code 39 = .ok (.iconst 1, 1) := by decide +kernel
theorem zd_LassoFinderModel_message_40 : decode prog_14_method_75_code 40 = .ok (.isub, 1) := by decide +kernel
theorem zd_LassoFinderModel_message_41 : decode prog_14_method_75_code 41 = .ok (.invokestatic 196, 3) := by decide +kernel
theorem zd_LassoFinderModel_message_44 : decode prog_14_method_75_code 44 = .ok (.ifCond .ne 5, 3) := by decide +kernel
theorem zd_LassoFinderModel_message_47 : decode prog_14_method_75_code 47 = .ok (.iconst (-1), 1) := by decide +kernel
theorem zd_LassoFinderModel_message_48 : decode prog_14_method_75_code 48 = .ok (.ireturn, 1) := by decide +kernel
theorem zd_LassoFinderModel_message_49 : decode prog_14_method_75_code 49 = .ok (.aload_n 0, 1) := by decide +kernel
theorem zd_LassoFinderModel_message_50 : decode prog_14_method_75_code 50 = .ok (.getfield 136, 3) := by decide +kernel
theorem zd_LassoFinderModel_message_53 : decode prog_14_method_75_code 53 = .ok (.iconst 3, 1) := by decide +kernel
theorem zd_LassoFinderModel_message_54 : decode prog_14_method_75_code 54 = .ok (.aload_n 0, 1) := by decide +kernel
theorem zd_LassoFinderModel_message_55 : decode prog_14_method_75_code 55 = .ok (.getfield 20, 3) := by decide +kernel
theorem zd_LassoFinderModel_message_58 : decode prog_14_method_75_code 58 = .ok (.iload_n 1, 1) := by decide +kernel
theorem zd_LassoFinderModel_message_59 : decode prog_14_method_75_code 59 = .ok (.iaload, 1) := by decide +kernel
theorem zd_LassoFinderModel_message_60 : decode prog_14_method_75_code 60 = .ok (.imul, 1) := by decide +kernel
theorem zd_LassoFinderModel_message_61 : decode prog_14_method_75_code 61 = .ok (.iload_n 2, 1) := by decide +kernel
theorem zd_LassoFinderModel_message_62 : decode prog_14_method_75_code 62 = .ok (.iadd, 1) := by decide +kernel
theorem zd_LassoFinderModel_message_63 : decode prog_14_method_75_code 63 = .ok (.iaload, 1) := by decide +kernel
theorem zd_LassoFinderModel_message_64 : decode prog_14_method_75_code 64 = .ok (.ireturn, 1) := by decide +kernel
theorem zd_LassoFinderModel_stem_0 : decode prog_14_method_67_code 0 = .ok (.aload_n 0, 1) := by decide +kernel
theorem zd_LassoFinderModel_stem_1 : decode prog_14_method_67_code 1 = .ok (.iconst 0, 1) := by decide +kernel
theorem zd_LassoFinderModel_stem_2 : decode prog_14_method_67_code 2 = .ok (.putfield 193, 3) := by decide +kernel
theorem zd_LassoFinderModel_stem_5 : decode prog_14_method_67_code 5 = .ok (.aload_n 0, 1) := by decide +kernel
theorem zd_LassoFinderModel_stem_6 : decode prog_14_method_67_code 6 = .ok (.getfield 178, 3) := by decide +kernel
theorem zd_LassoFinderModel_stem_9 : decode prog_14_method_67_code 9 = .ok (.ireturn, 1) := by decide +kernel
theorem zd_LassoFinderModel_steps_0 : decode prog_14_method_71_code 0 = .ok (.aload_n 0, 1) := by decide +kernel
theorem zd_LassoFinderModel_steps_1 : decode prog_14_method_71_code 1 = .ok (.iconst 0, 1) := by decide +kernel
theorem zd_LassoFinderModel_steps_2 : decode prog_14_method_71_code 2 = .ok (.putfield 193, 3) := by decide +kernel
theorem zd_LassoFinderModel_steps_5 : decode prog_14_method_71_code 5 = .ok (.aload_n 0, 1) := by decide +kernel
theorem zd_LassoFinderModel_steps_6 : decode prog_14_method_71_code 6 = .ok (.getfield 187, 3) := by decide +kernel
theorem zd_LassoFinderModel_steps_9 : decode prog_14_method_71_code 9 = .ok (.ifCond .ge 7, 3) := by decide +kernel
theorem zd_LassoFinderModel_steps_12 : decode prog_14_method_71_code 12 = .ok (.iconst 0, 1) := by decide +kernel
theorem zd_LassoFinderModel_steps_13 : decode prog_14_method_71_code 13 = .ok (.goto 34, 3) := by decide +kernel
theorem zd_LassoFinderModel_steps_16 : decode prog_14_method_71_code 16 = .ok (.aload_n 0, 1) := by decide +kernel
theorem zd_LassoFinderModel_steps_17 : decode prog_14_method_71_code 17 = .ok (.getfield 109, 3) := by decide +kernel
theorem zd_LassoFinderModel_steps_20 : decode prog_14_method_71_code 20 = .ok (.aload_n 0, 1) := by decide +kernel
theorem zd_LassoFinderModel_steps_21 : decode prog_14_method_71_code 21 = .ok (.getfield 190, 3) := by decide +kernel
theorem zd_LassoFinderModel_steps_24 : decode prog_14_method_71_code 24 = .ok (.aload_n 0, 1) := by decide +kernel
theorem zd_LassoFinderModel_steps_25 : decode prog_14_method_71_code 25 = .ok (.getfield 187, 3) := by decide +kernel
theorem zd_LassoFinderModel_steps_28 : decode prog_14_method_71_code 28 = .ok (.iaload, 1) := by decide +kernel
theorem zd_LassoFinderModel_steps_29 : decode prog_14_method_71_code 29 = .ok (.iconst 1, 1) := by decide +kernel
theorem zd_LassoFinderModel_steps_30 : decode prog_14_method_71_code 30 = .ok (.iadd, 1) := by decide +kernel
theorem zd_LassoFinderModel_steps_31 : decode prog_14_method_71_code 31 = .ok (.iaload, 1) := by decide +kernel
theorem zd_LassoFinderModel_steps_32 : decode prog_14_method_71_code 32 = .ok (.aload_n 0, 1) := by decide +kernel
theorem zd_LassoFinderModel_steps_33 : decode prog_14_method_71_code 33 = .ok (.getfield 109, 3) := by decide +kernel
theorem zd_LassoFinderModel_steps_36 : decode prog_14_method_71_code 36 = .ok (.aload_n 0, 1) := by decide +kernel
theorem zd_LassoFinderModel_steps_37 : decode prog_14_method_71_code 37 = .ok (.getfield 190, 3) := by decide +kernel
theorem zd_LassoFinderModel_steps_40 : decode prog_14_method_71_code 40 = .ok (.aload_n 0, 1) := by decide +kernel
theorem zd_LassoFinderModel_steps_41 : decode prog_14_method_71_code 41 = .ok (.getfield 187, 3) := by decide +kernel
theorem zd_LassoFinderModel_steps_44 : decode prog_14_method_71_code 44 = .ok (.iaload, 1) := by decide +kernel
theorem zd_LassoFinderModel_steps_45 : decode prog_14_method_71_code 45 = .ok (.iaload, 1) := by decide +kernel
theorem zd_LassoFinderModel_steps_46 : decode prog_14_method_71_code 46 = .ok (.isub, 1) := by decide +kernel
theorem zd_LassoFinderModel_steps_47 : decode prog_14_method_71_code 47 = .ok (.ireturn, 1) := by decide +kernel
theorem zd_LassoFinderModel_stood_0 : decode prog_14_method_73_code 0 = .ok (.aload_n 0, 1) := by decide +kernel
theorem zd_LassoFinderModel_stood_1 : decode prog_14_method_73_code 1 = .ok (.iconst 0, 1) := by decide +kernel
theorem zd_LassoFinderModel_stood_2 : decode prog_14_method_73_code 2 = .ok (.putfield 193, 3) := by decide +kernel
theorem zd_LassoFinderModel_stood_5 : decode prog_14_method_73_code 5 = .ok (.aload_n 0, 1) := by decide +kernel
theorem zd_LassoFinderModel_stood_6 : decode prog_14_method_73_code 6 = .ok (.getfield 187, 3) := by decide +kernel
theorem zd_LassoFinderModel_stood_9 : decode prog_14_method_73_code 9 = .ok (.ifCond .lt 21, 3) := by decide +kernel
theorem zd_LassoFinderModel_stood_12 : decode prog_14_method_73_code 12 = .ok (.aload_n 0, 1) := by decide +kernel
theorem zd_LassoFinderModel_stood_13 : decode prog_14_method_73_code 13 = .ok (.aload_n 0, 1) := by decide +kernel
theorem zd_LassoFinderModel_stood_14 : decode prog_14_method_73_code 14 = .ok (.getfield 106, 3) := by decide +kernel
theorem zd_LassoFinderModel_stood_17 : decode prog_14_method_73_code 17 = .ok (.aload_n 0, 1) := by decide +kernel
theorem zd_LassoFinderModel_stood_18 : decode prog_14_method_73_code 18 = .ok (.getfield 190, 3) := by decide +kernel
theorem zd_LassoFinderModel_stood_21 : decode prog_14_method_73_code 21 = .ok (.aload_n 0, 1) := by decide +kernel
theorem zd_LassoFinderModel_stood_22 : decode prog_14_method_73_code 22 = .ok (.getfield 187, 3) := by decide +kernel
theorem zd_LassoFinderModel_stood_25 : decode prog_14_method_73_code 25 = .ok (.iaload, 1) := by decide +kernel
theorem zd_LassoFinderModel_stood_26 : decode prog_14_method_73_code 26 = .ok (.laload, 1) := by decide +kernel
theorem zd_LassoFinderModel_stood_27 : decode prog_14_method_73_code 27 = .ok (.invokevirtual 334, 3) := by decide +kernel
theorem zd_LassoFinderModel_stood_30 : decode prog_14_method_73_code 30 = .ok (.aload_n 0, 1) := by decide +kernel
theorem zd_LassoFinderModel_stood_31 : decode prog_14_method_73_code 31 = .ok (.getfield 187, 3) := by decide +kernel
theorem zd_LassoFinderModel_stood_34 : decode prog_14_method_73_code 34 = .ok (.ifCond .lt 7, 3) := by decide +kernel
theorem zd_LassoFinderModel_stood_37 : decode prog_14_method_73_code 37 = .ok (.iconst 1, 1) := by decide +kernel
theorem zd_LassoFinderModel_stood_38 : decode prog_14_method_73_code 38 = .ok (.goto 4, 3) := by decide +kernel
theorem zd_LassoFinderModel_stood_41 : decode prog_14_method_73_code 41 = .ok (.iconst 0, 1) := by decide +kernel
theorem zd_LassoFinderModel_stood_42 : decode prog_14_method_73_code 42 = .ok (.ireturn, 1) := by decide +kernel
theorem zd_LassoFinderModel_value_0 : decode prog_14_method_74_code 0 = .ok (.aload_n 0, 1) := by decide +kernel
theorem zd_LassoFinderModel_value_1 : decode prog_14_method_74_code 1 = .ok (.invokevirtual 467, 3) := by decide +kernel
theorem zd_LassoFinderModel_value_4 : decode prog_14_method_74_code 4 = .ok (.ifCond .eq 13, 3) := by decide +kernel
theorem zd_LassoFinderModel_value_7 : decode prog_14_method_74_code 7 = .ok (.iload_n 1, 1) := by decide +kernel
theorem zd_LassoFinderModel_value_8 : decode prog_14_method_74_code 8 = .ok (.iconst 0, 1) := by decide +kernel
theorem zd_LassoFinderModel_value_9 : decode prog_14_method_74_code 9 = .ok (.bipush 7, 2) := by decide +kernel
theorem zd_LassoFinderModel_value_11 : decode prog_14_method_74_code 11 = .ok (.invokestatic 196, 3) := by decide +kernel
theorem zd_LassoFinderModel_value_14 : decode prog_14_method_74_code 14 = .ok (.ifCond .ne 5, 3) := by decide +kernel
theorem zd_LassoFinderModel_value_17 : decode prog_14_method_74_code 17 = .ok (.iconst (-1), 1) := by decide +kernel
theorem zd_LassoFinderModel_value_18 : decode prog_14_method_74_code 18 = .ok (.ireturn, 1) := by decide +kernel
theorem zd_LassoFinderModel_value_19 : decode prog_14_method_74_code 19 = .ok (.aload_n 0, 1) := by decide +kernel
theorem zd_LassoFinderModel_value_20 : decode prog_14_method_74_code 20 = .ok (.getfield 17, 3) := by decide +kernel
theorem zd_LassoFinderModel_value_23 : decode prog_14_method_74_code 23 = .ok (.iload_n 1, 1) := by decide +kernel
theorem zd_LassoFinderModel_value_24 : decode prog_14_method_74_code 24 = .ok (.iaload, 1) := by decide +kernel
theorem zd_LassoFinderModel_value_25 : decode prog_14_method_74_code 25 = .ok (.ifCond .lt 17, 3) := by decide +kernel
theorem zd_LassoFinderModel_value_28 : decode prog_14_method_74_code 28 = .ok (.aload_n 0, 1) := by decide +kernel
theorem zd_LassoFinderModel_value_29 : decode prog_14_method_74_code 29 = .ok (.getfield 130, 3) := by decide +kernel
theorem zd_LassoFinderModel_value_32 : decode prog_14_method_74_code 32 = .ok (.aload_n 0, 1) := by decide +kernel
theorem zd_LassoFinderModel_value_33 : decode prog_14_method_74_code 33 = .ok (.getfield 17, 3) := by decide +kernel
theorem zd_LassoFinderModel_value_36 : decode prog_14_method_74_code 36 = .ok (.iload_n 1, 1) := by decide +kernel
theorem zd_LassoFinderModel_value_37 : decode prog_14_method_74_code 37 = .ok (.iaload, 1) := by decide +kernel
theorem zd_LassoFinderModel_value_38 : decode prog_14_method_74_code 38 = .ok (.iaload, 1) := by decide +kernel
theorem zd_LassoFinderModel_value_39 : decode prog_14_method_74_code 39 = .ok (.goto 27, 3) := by decide +kernel
theorem zd_LassoFinderModel_value_42 : decode prog_14_method_74_code 42 = .ok (.aload_n 0, 1) := by decide +kernel
theorem zd_LassoFinderModel_value_43 : decode prog_14_method_74_code 43 = .ok (.getfield 20, 3) := by decide +kernel
theorem zd_LassoFinderModel_value_46 : decode prog_14_method_74_code 46 = .ok (.iload_n 1, 1) := by decide +kernel
theorem zd_LassoFinderModel_value_47 : decode prog_14_method_74_code 47 = .ok (.iaload, 1) := by decide +kernel
theorem zd_LassoFinderModel_value_48 : decode prog_14_method_74_code 48 = .ok (.ifCond .lt 17, 3) := by decide +kernel
theorem zd_LassoFinderModel_value_51 : decode prog_14_method_74_code 51 = .ok (.aload_n 0, 1) := by decide +kernel
theorem zd_LassoFinderModel_value_52 : decode prog_14_method_74_code 52 = .ok (.getfield 133, 3) := by decide +kernel
theorem zd_LassoFinderModel_value_55 : decode prog_14_method_74_code 55 = .ok (.aload_n 0, 1) := by decide +kernel
theorem zd_LassoFinderModel_value_56 : decode prog_14_method_74_code 56 = .ok (.getfield 20, 3) := by decide +kernel
theorem zd_LassoFinderModel_value_59 : decode prog_14_method_74_code 59 = .ok (.iload_n 1, 1) := by decide +kernel
theorem zd_LassoFinderModel_value_60 : decode prog_14_method_74_code 60 = .ok (.iaload, 1) := by decide +kernel
theorem zd_LassoFinderModel_value_61 : decode prog_14_method_74_code 61 = .ok (.iaload, 1) := by decide +kernel
theorem zd_LassoFinderModel_value_62 : decode prog_14_method_74_code 62 = .ok (.goto 4, 3) := by decide +kernel
theorem zd_LassoFinderModel_value_65 : decode prog_14_method_74_code 65 = .ok (.iconst (-1), 1) := by decide +kernel
theorem zd_LassoFinderModel_value_66 : decode prog_14_method_74_code 66 = .ok (.ireturn, 1) := by decide +kernel
theorem zd_LassoFinderModel_walk_0 : decode prog_14_method_70_code 0 = .ok (.aload_n 0, 1) := by decide +kernel
theorem zd_LassoFinderModel_walk_1 : decode prog_14_method_70_code 1 = .ok (.aload_n 0, 1) := by decide +kernel
theorem zd_LassoFinderModel_walk_2 : decode prog_14_method_70_code 2 = .ok (.getfield 361, 3) := by decide +kernel
theorem zd_LassoFinderModel_walk_5 : decode prog_14_method_70_code 5 = .ok (.ifCond .eq 7, 3) := by decide +kernel
theorem zd_LassoFinderModel_walk_8 : decode prog_14_method_70_code 8 = .ok (.iconst 0, 1) := by decide +kernel
theorem zd_LassoFinderModel_walk_9 : decode prog_14_method_70_code 9 = .ok (.goto 4, 3) := by decide +kernel
theorem zd_LassoFinderModel_walk_12 : decode prog_14_method_70_code 12 = .ok (.iconst 1, 1) := by decide +kernel
theorem zd_LassoFinderModel_walk_13 : decode prog_14_method_70_code 13 = .ok (.putfield 193, 3) := by decide +kernel
theorem zd_LassoFinderModel_walk_16 : decode prog_14_method_70_code 16 = .ok (.aload_n 0, 1) := by decide +kernel
theorem zd_LassoFinderModel_walk_17 : decode prog_14_method_70_code 17 = .ok (.getfield 361, 3) := by decide +kernel
theorem zd_LassoFinderModel_walk_20 : decode prog_14_method_70_code 20 = .ok (.ifCond .ne 4, 3) := by decide +kernel
theorem zd_LassoFinderModel_walk_23 : decode prog_14_method_70_code 23 = .ok (.return_, 1) := by decide +kernel
theorem zd_LassoFinderModel_walk_24 : decode prog_14_method_70_code 24 = .ok (.aload_n 0, 1) := by decide +kernel
theorem zd_LassoFinderModel_walk_25 : decode prog_14_method_70_code 25 = .ok (.iconst 0, 1) := by decide +kernel
theorem zd_LassoFinderModel_walk_26 : decode prog_14_method_70_code 26 = .ok (.putfield 187, 3) := by decide +kernel
theorem zd_LassoFinderModel_walk_29 : decode prog_14_method_70_code 29 = .ok (.aload_n 0, 1) := by decide +kernel
theorem zd_LassoFinderModel_walk_30 : decode prog_14_method_70_code 30 = .ok (.getfield 190, 3) := by decide +kernel
theorem zd_LassoFinderModel_walk_33 : decode prog_14_method_70_code 33 = .ok (.iconst 0, 1) := by decide +kernel
theorem zd_LassoFinderModel_walk_34 : decode prog_14_method_70_code 34 = .ok (.iconst 0, 1) := by decide +kernel
theorem zd_LassoFinderModel_walk_35 : decode prog_14_method_70_code 35 = .ok (.iastore, 1) := by decide +kernel
theorem zd_LassoFinderModel_walk_36 : decode prog_14_method_70_code 36 = .ok (.return_, 1) := by decide +kernel
def wp_LassoFinderModel_stem (I : Nat → Int32) (J : Nat → Int64) (B : Nat → Nat → Int32) (D : Nat → Nat → Int64) (Post : Int32 → (Nat → Int32) → (Nat → Int64) → (Nat → Nat → Int32) → (Nat → Nat → Int64) → Prop) : Prop :=
  Post (I 24) (upd I 0 0) J B D
set_option maxHeartbeats 8000000 in
set_option maxRecDepth 100000 in
theorem w_LassoFinderModel_stem (l : Launch) (G : va_G) (K : Nat → ClassId) (ad : Nat → Nat) (I : Nat → Int32) (J : Nat → Int64) (B : Nat → Nat → Int32) (D : Nat → Nat → Int64) (Post : Int32 → (Nat → Int32) → (Nat → Int64) → (Nat → Nat → Int32) → (Nat → Nat → Int64) → Prop) (sz : Nat) (hok : wp_LassoFinderModel_stem I J B D  Post) : Met l zy_LassoFinderModel_stem (Cond.code zy_LassoFinderModel_stem prog_14_method_67_code 1 (some .int) :: zTB) { frames := 0, cells := 0, slots := 0, locals := 0 } (va_Pc [.ref (ad 0)] (zPre G K (wM ad K I J B D) sz)) (va_Qi (fun (r : Int32) (u : zS) => Post r u.1 u.2.1 u.2.2.1 u.2.2.2) (fun u t => zPost G K (va_A (wM ad K I J B D) sz) (wM ad K u.1 u.2.1 u.2.2.1 u.2.2.2) t) (va_A (wM ad K I J B D) sz)) 0 0 (va_A (wM ad K I J B D) sz) := by
  refine zMet (y := zy_LassoFinderModel_stem) (av := [.ref (ad 0)]) (maxL := 1) (cc := prog_14_method_67_code) (ret := (some .int)) (W0 := (wM ad K I J B D)) (sz := sz) (G := G) (K := K) (wt := zTB) (mc := 0) (ms := 0) (Qf := fun A => va_Qi (fun (r : Int32) (u : zS) => Post r u.1 u.2.1 u.2.2.1 u.2.2.2) (fun u t => zPost G K A (wM ad K u.1 u.2.1 u.2.2.1 u.2.2.2) t) A) (by decide) (Nat.le_of_ble_eq_true rfl) ?_
  intro p e s m below meth c ls A hx hb hr hml hts hown hlocks hin hA hK H locs hw hsz hl
  clear hsz
  have hown : s.vm.findClass "LassoFinderModel" = some m.cls := hown
  have C : zCx p s m ([.ref (ad 0)] : List Value).toArray meth c A G K prog_14_method_67_code (some .int) 1 "LassoFinderModel" := ⟨hx, hb, hr, hml, hts, hown, hlocks, hA, hK⟩
  have hl : lv_has ls 1 [(0, .ref (ad 0))] := hl
  have hw : zW G A s.heap (wM ad K I J B D) H locs := hw
  unfold wp_LassoFinderModel_stem at hok
  refine lv_aload_n hx hb zd_LassoFinderModel_stem_0 rfl (lv_at hl 0 rfl) ?_
  refine lv_iconst (v := 0) hx hb zd_LassoFinderModel_stem_1 (by decide) ?_
  refine z_put (v := .int 0) hx hb hts hown hK hw zZ12 0 wM_g0 0 (by decide) zm_292 rfl rfl rfl (Nat.le_of_ble_eq_true rfl) zd_LassoFinderModel_stem_2 (fun H locs hw => ?_)
  have hw := wM_sI0 hw
  refine lv_aload_n hx hb zd_LassoFinderModel_stem_5 rfl (lv_at hl 0 rfl) ?_
  refine z_get (v := .int (I 24)) hx hb hts hown hK hw zZ12 0 wM_g0 78 (by decide) zm_330 rfl zd_LassoFinderModel_stem_6 ?_
  exact (z_iret (u := ((upd I 0 0), J, B, D)) hx hb hr hlocks rfl hw (List.range 58) wM_all wM_nd hok (Nat.le_of_ble_eq_true rfl) (Nat.le_of_ble_eq_true rfl) zd_LassoFinderModel_stem_9)
def wc_LassoFinderModel_cycle_20 (Post : Int32 → (Nat → Int32) → (Nat → Int64) → (Nat → Nat → Int32) → (Nat → Nat → Int64) → Prop) (y0 : Int32) (I : Nat → Int32) (J : Nat → Int64) (B : Nat → Nat → Int32) (D : Nat → Nat → Int64) : Prop :=
  Post y0 I J B D
def wp_LassoFinderModel_cycle (I : Nat → Int32) (J : Nat → Int64) (B : Nat → Nat → Int32) (D : Nat → Nat → Int64) (Post : Int32 → (Nat → Int32) → (Nat → Int64) → (Nat → Nat → Int32) → (Nat → Nat → Int64) → Prop) : Prop :=
  (((0 : Int32) ≤ (I 24) → wc_LassoFinderModel_cycle_20  Post (I 25) (upd I 0 0) J B D) ∧ (¬ (0 : Int32) ≤ (I 24) → wc_LassoFinderModel_cycle_20  Post 0 (upd I 0 0) J B D))
set_option maxHeartbeats 8000000 in
set_option maxRecDepth 100000 in
theorem wJ_LassoFinderModel_cycle_20 {p : Program} {l : Launch} {e : Env} {s : State} {m : MethodId} {below : List Frame} {meth : Method} {c : Code} {A : Nat → Prop} (G : va_G) (K : Nat → ClassId) (ad : Nat → Nat) (Post : Int32 → (Nat → Int32) → (Nat → Int64) → (Nat → Nat → Int32) → (Nat → Nat → Int64) → Prop) (C : zCx p s m ([.ref (ad 0)] : List Value).toArray meth c A G K prog_14_method_68_code (some .int) 1 "LassoFinderModel") : ∀ (y0 : Int32) (I : Nat → Int32) (J : Nat → Int64) (B : Nat → Nat → Int32) (D : Nat → Nat → Int64) (ls : Array Slot) (H : Heap) (locs : List Loc), wc_LassoFinderModel_cycle_20  Post y0 I J B D → lv_has ls 1 [] → zW G A s.heap (wM ad K I J B D) H locs → W p l e { frames := 0, cells := 0, slots := 0, locals := 0 } s m ([.ref (ad 0)] : List Value).toArray below meth c H locs 0 0 (MQ below (va_Qi (fun (r : Int32) (u : zS) => Post r u.1 u.2.1 u.2.2.1 u.2.2.2) (fun u t => zPost G K A (wM ad K u.1 u.2.1 u.2.2.1 u.2.2.2) t) A) ([.ref (ad 0)] : List Value).toArray s 0 0 A) (F0 m 20 ls [.int y0]) := by
  obtain ⟨hx, hb, hr, hml, hts, hown, hlocks, hA, hK⟩ := id C
  intro y0 I J B D ls H locs hok hl hw
  unfold wc_LassoFinderModel_cycle_20 at hok
  exact (z_iret (u := (I, J, B, D)) hx hb hr hlocks rfl hw (List.range 58) wM_all wM_nd hok (Nat.le_of_ble_eq_true rfl) (Nat.le_of_ble_eq_true rfl) zd_LassoFinderModel_cycle_20)
set_option maxHeartbeats 8000000 in
set_option maxRecDepth 100000 in
theorem w_LassoFinderModel_cycle (l : Launch) (G : va_G) (K : Nat → ClassId) (ad : Nat → Nat) (I : Nat → Int32) (J : Nat → Int64) (B : Nat → Nat → Int32) (D : Nat → Nat → Int64) (Post : Int32 → (Nat → Int32) → (Nat → Int64) → (Nat → Nat → Int32) → (Nat → Nat → Int64) → Prop) (sz : Nat) (hok : wp_LassoFinderModel_cycle I J B D  Post) : Met l zy_LassoFinderModel_cycle (Cond.code zy_LassoFinderModel_cycle prog_14_method_68_code 1 (some .int) :: zTB) { frames := 0, cells := 0, slots := 0, locals := 0 } (va_Pc [.ref (ad 0)] (zPre G K (wM ad K I J B D) sz)) (va_Qi (fun (r : Int32) (u : zS) => Post r u.1 u.2.1 u.2.2.1 u.2.2.2) (fun u t => zPost G K (va_A (wM ad K I J B D) sz) (wM ad K u.1 u.2.1 u.2.2.1 u.2.2.2) t) (va_A (wM ad K I J B D) sz)) 0 0 (va_A (wM ad K I J B D) sz) := by
  refine zMet (y := zy_LassoFinderModel_cycle) (av := [.ref (ad 0)]) (maxL := 1) (cc := prog_14_method_68_code) (ret := (some .int)) (W0 := (wM ad K I J B D)) (sz := sz) (G := G) (K := K) (wt := zTB) (mc := 0) (ms := 0) (Qf := fun A => va_Qi (fun (r : Int32) (u : zS) => Post r u.1 u.2.1 u.2.2.1 u.2.2.2) (fun u t => zPost G K A (wM ad K u.1 u.2.1 u.2.2.1 u.2.2.2) t) A) (by decide) (Nat.le_of_ble_eq_true rfl) ?_
  intro p e s m below meth c ls A hx hb hr hml hts hown hlocks hin hA hK H locs hw hsz hl
  clear hsz
  have hown : s.vm.findClass "LassoFinderModel" = some m.cls := hown
  have C : zCx p s m ([.ref (ad 0)] : List Value).toArray meth c A G K prog_14_method_68_code (some .int) 1 "LassoFinderModel" := ⟨hx, hb, hr, hml, hts, hown, hlocks, hA, hK⟩
  have hl : lv_has ls 1 [(0, .ref (ad 0))] := hl
  have hw : zW G A s.heap (wM ad K I J B D) H locs := hw
  unfold wp_LassoFinderModel_cycle at hok
  refine lv_aload_n hx hb zd_LassoFinderModel_cycle_0 rfl (lv_at hl 0 rfl) ?_
  refine lv_iconst (v := 0) hx hb zd_LassoFinderModel_cycle_1 (by decide) ?_
  refine z_put (v := .int 0) hx hb hts hown hK hw zZ12 0 wM_g0 0 (by decide) zm_292 rfl rfl rfl (Nat.le_of_ble_eq_true rfl) zd_LassoFinderModel_cycle_2 (fun H locs hw => ?_)
  have hw := wM_sI0 hw
  refine lv_aload_n hx hb zd_LassoFinderModel_cycle_5 rfl (lv_at hl 0 rfl) ?_
  refine z_get (v := .int (I 24)) hx hb hts hown hK hw zZ12 0 wM_g0 78 (by decide) zm_330 rfl zd_LassoFinderModel_cycle_6 ?_
  refine lv_if_ge (tgt := 16) hx hb zd_LassoFinderModel_cycle_9 (by decide) (fun hc1 => ?_) (fun hc1 => ?_)
  · have hok := hok.1 hc1
    refine lv_aload_n hx hb zd_LassoFinderModel_cycle_16 rfl (lv_at hl 0 rfl) ?_
    refine z_get (v := .int (I 25)) hx hb hts hown hK hw zZ12 0 wM_g0 79 (by decide) zm_371 rfl zd_LassoFinderModel_cycle_17 ?_
    exact wJ_LassoFinderModel_cycle_20 G K ad  Post C (I 25) (upd I 0 0) J B D ls H locs hok (lv_sub hl [] rfl) hw
  · have hok := hok.2 hc1
    refine lv_iconst (v := 0) hx hb zd_LassoFinderModel_cycle_12 (by decide) ?_
    refine lv_goto (tgt := 20) hx hb zd_LassoFinderModel_cycle_13 (by decide) ?_
    exact wJ_LassoFinderModel_cycle_20 G K ad  Post C 0 (upd I 0 0) J B D ls H locs hok (lv_sub hl [] rfl) hw
def wc_LassoFinderModel_lasso_102 (a0 : Int32) (a1 : Int32) (Post : Int32 → (Nat → Int32) → (Nat → Int64) → (Nat → Nat → Int32) → (Nat → Nat → Int64) → Prop) (y0 : Int32) (I : Nat → Int32) (J : Nat → Int64) (B : Nat → Nat → Int32) (D : Nat → Nat → Int64) : Prop :=
  Post y0 I J B D
def wc_LassoFinderModel_lasso_41 (a0 : Int32) (a1 : Int32) (Post : Int32 → (Nat → Int32) → (Nat → Int64) → (Nat → Nat → Int32) → (Nat → Nat → Int64) → Prop) (x1 : Int32) (x2 : Int32) (y0 : Int32) (I : Nat → Int32) (J : Nat → Int64) (B : Nat → Nat → Int32) (D : Nat → Nat → Int64) : Prop :=
  ((y0 ≤ 0 → wp_LassoFinderModel_stepOf_ad55 (upd I 0 y0) J B D x1 (fun r2 I2 J2 B2 D2 => ((¬ x2 = 0 → ((¬ x2 = 1 → vp_in r2 401 ∧ ∀ z5 : Int32, z5 = ((B2 33) r2.toNatClampNeg) → wc_LassoFinderModel_lasso_102 a0 a1 Post z5 I2 J2 B2 D2) ∧ (x2 = 1 → vp_in r2 401 ∧ ∀ z6 : Int32, z6 = ((B2 32) r2.toNatClampNeg) → wc_LassoFinderModel_lasso_102 a0 a1 Post z6 I2 J2 B2 D2))) ∧ (x2 = 0 → vp_in r2 401 ∧ ∀ z7 : Int32, z7 = ((B2 31) r2.toNatClampNeg) → vp_in z7 98 ∧ ∀ z8 : Int32, z8 = ((B2 29) z7.toNatClampNeg) → ∀ z9 : Int32, z9 = (r2 - z8) → wc_LassoFinderModel_lasso_102 a0 a1 Post z9 I2 J2 B2 D2)))) ∧ (¬ y0 ≤ 0 → Post 0 (upd I 0 y0) J B D))
def wc_LassoFinderModel_lasso_36 (a0 : Int32) (a1 : Int32) (Post : Int32 → (Nat → Int32) → (Nat → Int64) → (Nat → Nat → Int32) → (Nat → Nat → Int64) → Prop) (x1 : Int32) (x2 : Int32) (I : Nat → Int32) (J : Nat → Int64) (B : Nat → Nat → Int32) (D : Nat → Nat → Int64) : Prop :=
  wc_LassoFinderModel_lasso_41 a0 a1 Post x1 x2 1 I J B D
def wp_LassoFinderModel_lasso (I : Nat → Int32) (J : Nat → Int64) (B : Nat → Nat → Int32) (D : Nat → Nat → Int64) (a0 : Int32) (a1 : Int32) (Post : Int32 → (Nat → Int32) → (Nat → Int64) → (Nat → Nat → Int32) → (Nat → Nat → Int64) → Prop) : Prop :=
  (((I 24) < 0 → wc_LassoFinderModel_lasso_36 a0 a1 Post a0 a1 I J B D) ∧ (¬ (I 24) < 0 → ∀ z11 : Int32, z11 = ((I 24) + (I 25)) → ∀ z12 : Int32, z12 = (z11 - 1) → wp_LassoFinderModel_in I J B D a0 0 z12 (fun r13 I13 J13 B13 D13 => ((r13 = 0 → wc_LassoFinderModel_lasso_36 a0 a1 Post a0 a1 I13 J13 B13 D13) ∧ (¬ r13 = 0 → wp_LassoFinderModel_in I13 J13 B13 D13 a1 0 2 (fun r15 I15 J15 B15 D15 => ((¬ r15 = 0 → wc_LassoFinderModel_lasso_41 a0 a1 Post a0 a1 0 I15 J15 B15 D15) ∧ (r15 = 0 → wc_LassoFinderModel_lasso_36 a0 a1 Post a0 a1 I15 J15 B15 D15))))))))
set_option maxHeartbeats 8000000 in
set_option maxRecDepth 100000 in
theorem wJ_LassoFinderModel_lasso_102 {p : Program} {l : Launch} {e : Env} {s : State} {m : MethodId} {below : List Frame} {meth : Method} {c : Code} {A : Nat → Prop} (G : va_G) (K : Nat → ClassId) (ad : Nat → Nat) (a0 : Int32) (a1 : Int32) (Post : Int32 → (Nat → Int32) → (Nat → Int64) → (Nat → Nat → Int32) → (Nat → Nat → Int64) → Prop) (C : zCx p s m ([.ref (ad 0), .int a0, .int a1] : List Value).toArray meth c A G K prog_14_method_69_code (some .int) 4 "LassoFinderModel") : ∀ (y0 : Int32) (I : Nat → Int32) (J : Nat → Int64) (B : Nat → Nat → Int32) (D : Nat → Nat → Int64) (ls : Array Slot) (H : Heap) (locs : List Loc), wc_LassoFinderModel_lasso_102 a0 a1 Post y0 I J B D → lv_has ls 4 [] → zW G A s.heap (wM ad K I J B D) H locs → W p l e { frames := 1, cells := 0, slots := 0, locals := 22 } s m ([.ref (ad 0), .int a0, .int a1] : List Value).toArray below meth c H locs 0 0 (MQ below (va_Qi (fun (r : Int32) (u : zS) => Post r u.1 u.2.1 u.2.2.1 u.2.2.2) (fun u t => zPost G K A (wM ad K u.1 u.2.1 u.2.2.1 u.2.2.2) t) A) ([.ref (ad 0), .int a0, .int a1] : List Value).toArray s 0 0 A) (F0 m 102 ls [.int y0]) := by
  obtain ⟨hx, hb, hr, hml, hts, hown, hlocks, hA, hK⟩ := id C
  intro y0 I J B D ls H locs hok hl hw
  unfold wc_LassoFinderModel_lasso_102 at hok
  exact (z_iret (u := (I, J, B, D)) hx hb hr hlocks rfl hw (List.range 58) wM_all wM_nd hok (Nat.le_of_ble_eq_true rfl) (Nat.le_of_ble_eq_true rfl) zd_LassoFinderModel_lasso_102)
set_option maxHeartbeats 8000000 in
set_option maxRecDepth 100000 in
theorem wJ_LassoFinderModel_lasso_41 {p : Program} {l : Launch} {e : Env} {s : State} {m : MethodId} {below : List Frame} {meth : Method} {c : Code} {A : Nat → Prop} (G : va_G) (K : Nat → ClassId) (ad : Nat → Nat) (a0 : Int32) (a1 : Int32) (Post : Int32 → (Nat → Int32) → (Nat → Int64) → (Nat → Nat → Int32) → (Nat → Nat → Int64) → Prop) (C : zCx p s m ([.ref (ad 0), .int a0, .int a1] : List Value).toArray meth c A G K prog_14_method_69_code (some .int) 4 "LassoFinderModel") : ∀ (x1 : Int32) (x2 : Int32) (y0 : Int32) (I : Nat → Int32) (J : Nat → Int64) (B : Nat → Nat → Int32) (D : Nat → Nat → Int64) (ls : Array Slot) (H : Heap) (locs : List Loc), wc_LassoFinderModel_lasso_41 a0 a1 Post x1 x2 y0 I J B D → lv_has ls 4 [(0, .ref (ad 0)), (1, .int x1), (2, .int x2)] → zW G A s.heap (wM ad K I J B D) H locs → W p l e { frames := 1, cells := 0, slots := 0, locals := 22 } s m ([.ref (ad 0), .int a0, .int a1] : List Value).toArray below meth c H locs 0 0 (MQ below (va_Qi (fun (r : Int32) (u : zS) => Post r u.1 u.2.1 u.2.2.1 u.2.2.2) (fun u t => zPost G K A (wM ad K u.1 u.2.1 u.2.2.1 u.2.2.2) t) A) ([.ref (ad 0), .int a0, .int a1] : List Value).toArray s 0 0 A) (F0 m 41 ls [.int y0, .ref (ad 0)]) := by
  obtain ⟨hx, hb, hr, hml, hts, hown, hlocks, hA, hK⟩ := id C
  intro x1 x2 y0 I J B D ls H locs hok hl hw
  unfold wc_LassoFinderModel_lasso_41 at hok
  refine z_put (v := .int y0) hx hb hts hown hK hw zZ12 0 wM_g0 0 (by decide) zm_292 rfl rfl rfl (Nat.le_of_ble_eq_true rfl) zd_LassoFinderModel_lasso_41 (fun H locs hw => ?_)
  have hw := wM_sI0 hw
  refine lv_aload_n hx hb zd_LassoFinderModel_lasso_44 rfl (lv_at hl 0 rfl) ?_
  refine z_get (v := .int y0) hx hb hts hown hK hw zZ12 0 wM_g0 0 (by decide) zm_292 rfl zd_LassoFinderModel_lasso_45 ?_
  refine lv_if_le (tgt := 53) hx hb zd_LassoFinderModel_lasso_48 (by decide) (fun hc1 => ?_) (fun hc1 => ?_)
  · have hok := hok.1 hc1
    refine lv_aload_n hx hb zd_LassoFinderModel_lasso_53 rfl (lv_at hl 0 rfl) ?_
    refine z_get (v := .ref (ad 55)) hx hb hts hown hK hw zZ12 0 wM_g0 80 (by decide) zm_289 rfl zd_LassoFinderModel_lasso_54 ?_
    refine lv_iload_n hx hb zd_LassoFinderModel_lasso_57 rfl (lv_at hl 1 rfl) ?_
    refine z_calli (w1 := fun (u : zS) => wM ad K u.1 u.2.1 u.2.2.1 u.2.2.2) (wr := []) (z_runS (wc := (wM ad K (upd I 0 y0) J B D)) (As := [.ref (ad 55), .int x1]) (rest := []) ⟨hx, hb, hml, hown, hts⟩ (w_LassoFinderModel_stepOf_ad55 l G K ad (upd I 0 y0) J B D x1 _ H.size hok) zf_LassoFinderModel_stepOf zm_367 ⟨Nat.le_of_ble_eq_true rfl, Nat.le_of_ble_eq_true rfl⟩ hK hw (List.range 58) wM_all wM_nd rfl hl.1 rfl (Nat.le_of_ble_eq_true rfl) zd_LassoFinderModel_lasso_58 ⟨Nat.le_of_ble_eq_true rfl, Nat.le_of_ble_eq_true rfl⟩) hw hA (List.range 58) [] wM_all rfl (by decide) (fun i hi => by cases hi) (fun r2 u H locs hok hw => ?_)
    obtain ⟨I2, J2, B2, D2⟩ := u
    dsimp only at hok
    have hw : zW G A s.heap (wM ad K I2 J2 B2 D2) H locs := hw
    refine lv_istore_n hx hb zd_LassoFinderModel_lasso_61 rfl hl (by decide) rfl (fun ls hl => ?_)
    have hl : lv_has ls 4 [(3, .int r2), (0, .ref (ad 0)), (1, .int x1), (2, .int x2)] := hl
    refine lv_iload_n hx hb zd_LassoFinderModel_lasso_62 rfl (lv_at hl 3 rfl) ?_
    refine lv_if_ne (tgt := 82) hx hb zd_LassoFinderModel_lasso_63 (by decide) (fun hc3 => ?_) (fun hc3 => ?_)
    · have hok := hok.1 hc3
      refine lv_iload_n hx hb zd_LassoFinderModel_lasso_82 rfl (lv_at hl 3 rfl) ?_
      refine lv_iconst (v := 1) hx hb zd_LassoFinderModel_lasso_83 (by decide) ?_
      refine lv_icmp_ne (tgt := 96) hx hb zd_LassoFinderModel_lasso_84 (by decide) (fun hc4 => ?_) (fun hc4 => ?_)
      · have hok := hok.1 hc4
        refine lv_aload_n hx hb zd_LassoFinderModel_lasso_96 rfl (lv_at hl 1 rfl) ?_
        refine z_get (v := .ref (ad 36)) hx hb hts hown hK hw zZ12 0 wM_g0 52 (by decide) zm_270 rfl zd_LassoFinderModel_lasso_97 ?_
        refine lv_iload_n hx hb zd_LassoFinderModel_lasso_100 rfl (lv_at hl 0 rfl) ?_
        refine va_iald (f := (B2 33)) hx hb hK hw.1 36 0 wM_a36 rfl hok.1 zd_LassoFinderModel_lasso_101 ?_
        have hok := hok.2
        refine lv_topi (fun z5 ez5 => ?_)
        have hok := hok z5 ez5
        exact wJ_LassoFinderModel_lasso_102 G K ad a0 a1 Post C z5 I2 J2 B2 D2 ls H locs hok (lv_sub hl [] rfl) hw
      · have hok := hok.2 hc4
        refine lv_aload_n hx hb zd_LassoFinderModel_lasso_87 rfl (lv_at hl 1 rfl) ?_
        refine z_get (v := .ref (ad 35)) hx hb hts hown hK hw zZ12 0 wM_g0 51 (by decide) zm_269 rfl zd_LassoFinderModel_lasso_88 ?_
        refine lv_iload_n hx hb zd_LassoFinderModel_lasso_91 rfl (lv_at hl 0 rfl) ?_
        refine va_iald (f := (B2 32)) hx hb hK hw.1 35 0 wM_a35 rfl hok.1 zd_LassoFinderModel_lasso_92 ?_
        have hok := hok.2
        refine lv_topi (fun z6 ez6 => ?_)
        have hok := hok z6 ez6
        refine lv_goto (tgt := 102) hx hb zd_LassoFinderModel_lasso_93 (by decide) ?_
        exact wJ_LassoFinderModel_lasso_102 G K ad a0 a1 Post C z6 I2 J2 B2 D2 ls H locs hok (lv_sub hl [] rfl) hw
    · have hok := hok.2 hc3
      refine lv_iload_n hx hb zd_LassoFinderModel_lasso_66 rfl (lv_at hl 0 rfl) ?_
      refine lv_aload_n hx hb zd_LassoFinderModel_lasso_67 rfl (lv_at hl 1 rfl) ?_
      refine z_get (v := .ref (ad 32)) hx hb hts hown hK hw zZ12 0 wM_g0 48 (by decide) zm_266 rfl zd_LassoFinderModel_lasso_68 ?_
      refine lv_aload_n hx hb zd_LassoFinderModel_lasso_71 rfl (lv_at hl 1 rfl) ?_
      refine z_get (v := .ref (ad 34)) hx hb hts hown hK hw zZ12 0 wM_g0 50 (by decide) zm_268 rfl zd_LassoFinderModel_lasso_72 ?_
      refine lv_iload_n hx hb zd_LassoFinderModel_lasso_75 rfl (lv_at hl 0 rfl) ?_
      refine va_iald (f := (B2 31)) hx hb hK hw.1 34 0 wM_a34 rfl hok.1 zd_LassoFinderModel_lasso_76 ?_
      have hok := hok.2
      refine lv_topi (fun z7 ez7 => ?_)
      have hok := hok z7 ez7
      refine va_iald (f := (B2 29)) hx hb hK hw.1 32 0 wM_a32 rfl hok.1 zd_LassoFinderModel_lasso_77 ?_
      have hok := hok.2
      refine lv_topi (fun z8 ez8 => ?_)
      have hok := hok z8 ez8
      refine lv_isub hx hb zd_LassoFinderModel_lasso_78 ?_
      refine lv_topi (fun z9 ez9 => ?_)
      have hok := hok z9 ez9
      refine lv_goto (tgt := 102) hx hb zd_LassoFinderModel_lasso_79 (by decide) ?_
      exact wJ_LassoFinderModel_lasso_102 G K ad a0 a1 Post C z9 I2 J2 B2 D2 ls H locs hok (lv_sub hl [] rfl) hw
  · have hok := hok.2 hc1
    refine lv_iconst (v := 0) hx hb zd_LassoFinderModel_lasso_51 (by decide) ?_
    exact (z_iret (u := ((upd I 0 y0), J, B, D)) hx hb hr hlocks rfl hw (List.range 58) wM_all wM_nd hok (Nat.le_of_ble_eq_true rfl) (Nat.le_of_ble_eq_true rfl) zd_LassoFinderModel_lasso_52)
set_option maxHeartbeats 8000000 in
set_option maxRecDepth 100000 in
theorem wJ_LassoFinderModel_lasso_36 {p : Program} {l : Launch} {e : Env} {s : State} {m : MethodId} {below : List Frame} {meth : Method} {c : Code} {A : Nat → Prop} (G : va_G) (K : Nat → ClassId) (ad : Nat → Nat) (a0 : Int32) (a1 : Int32) (Post : Int32 → (Nat → Int32) → (Nat → Int64) → (Nat → Nat → Int32) → (Nat → Nat → Int64) → Prop) (C : zCx p s m ([.ref (ad 0), .int a0, .int a1] : List Value).toArray meth c A G K prog_14_method_69_code (some .int) 4 "LassoFinderModel") : ∀ (x1 : Int32) (x2 : Int32) (I : Nat → Int32) (J : Nat → Int64) (B : Nat → Nat → Int32) (D : Nat → Nat → Int64) (ls : Array Slot) (H : Heap) (locs : List Loc), wc_LassoFinderModel_lasso_36 a0 a1 Post x1 x2 I J B D → lv_has ls 4 [(0, .ref (ad 0)), (1, .int x1), (2, .int x2)] → zW G A s.heap (wM ad K I J B D) H locs → W p l e { frames := 1, cells := 0, slots := 0, locals := 22 } s m ([.ref (ad 0), .int a0, .int a1] : List Value).toArray below meth c H locs 0 0 (MQ below (va_Qi (fun (r : Int32) (u : zS) => Post r u.1 u.2.1 u.2.2.1 u.2.2.2) (fun u t => zPost G K A (wM ad K u.1 u.2.1 u.2.2.1 u.2.2.2) t) A) ([.ref (ad 0), .int a0, .int a1] : List Value).toArray s 0 0 A) (F0 m 36 ls [.ref (ad 0)]) := by
  obtain ⟨hx, hb, hr, hml, hts, hown, hlocks, hA, hK⟩ := id C
  intro x1 x2 I J B D ls H locs hok hl hw
  unfold wc_LassoFinderModel_lasso_36 at hok
  refine lv_iconst (v := 1) hx hb zd_LassoFinderModel_lasso_36 (by decide) ?_
  refine lv_goto (tgt := 41) hx hb zd_LassoFinderModel_lasso_37 (by decide) ?_
  exact wJ_LassoFinderModel_lasso_41 G K ad a0 a1 Post C x1 x2 1 I J B D ls H locs hok (lv_sub hl [0, 1, 2] rfl) hw
set_option maxHeartbeats 8000000 in
set_option maxRecDepth 100000 in
theorem w_LassoFinderModel_lasso (l : Launch) (G : va_G) (K : Nat → ClassId) (ad : Nat → Nat) (I : Nat → Int32) (J : Nat → Int64) (B : Nat → Nat → Int32) (D : Nat → Nat → Int64) (a0 : Int32) (a1 : Int32) (Post : Int32 → (Nat → Int32) → (Nat → Int64) → (Nat → Nat → Int32) → (Nat → Nat → Int64) → Prop) (sz : Nat) (hok : wp_LassoFinderModel_lasso I J B D a0 a1 Post) : Met l zy_LassoFinderModel_lasso (Cond.code zy_LassoFinderModel_lasso prog_14_method_69_code 4 (some .int) :: zTB) { frames := 1, cells := 0, slots := 0, locals := 22 } (va_Pc [.ref (ad 0), .int a0, .int a1] (zPre G K (wM ad K I J B D) sz)) (va_Qi (fun (r : Int32) (u : zS) => Post r u.1 u.2.1 u.2.2.1 u.2.2.2) (fun u t => zPost G K (va_A (wM ad K I J B D) sz) (wM ad K u.1 u.2.1 u.2.2.1 u.2.2.2) t) (va_A (wM ad K I J B D) sz)) 0 0 (va_A (wM ad K I J B D) sz) := by
  refine zMet (y := zy_LassoFinderModel_lasso) (av := [.ref (ad 0), .int a0, .int a1]) (maxL := 4) (cc := prog_14_method_69_code) (ret := (some .int)) (W0 := (wM ad K I J B D)) (sz := sz) (G := G) (K := K) (wt := zTB) (mc := 0) (ms := 0) (Qf := fun A => va_Qi (fun (r : Int32) (u : zS) => Post r u.1 u.2.1 u.2.2.1 u.2.2.2) (fun u t => zPost G K A (wM ad K u.1 u.2.1 u.2.2.1 u.2.2.2) t) A) (by decide) (Nat.le_of_ble_eq_true rfl) ?_
  intro p e s m below meth c ls A hx hb hr hml hts hown hlocks hin hA hK H locs hw hsz hl
  clear hsz
  have hown : s.vm.findClass "LassoFinderModel" = some m.cls := hown
  have C : zCx p s m ([.ref (ad 0), .int a0, .int a1] : List Value).toArray meth c A G K prog_14_method_69_code (some .int) 4 "LassoFinderModel" := ⟨hx, hb, hr, hml, hts, hown, hlocks, hA, hK⟩
  have hl : lv_has ls 4 [(0, .ref (ad 0)), (1, .int a0), (2, .int a1)] := hl
  have hw : zW G A s.heap (wM ad K I J B D) H locs := hw
  unfold wp_LassoFinderModel_lasso at hok
  refine lv_aload_n hx hb zd_LassoFinderModel_lasso_0 rfl (lv_at hl 0 rfl) ?_
  refine lv_aload_n hx hb zd_LassoFinderModel_lasso_1 rfl (lv_at hl 0 rfl) ?_
  refine z_get (v := .int (I 24)) hx hb hts hown hK hw zZ12 0 wM_g0 78 (by decide) zm_330 rfl zd_LassoFinderModel_lasso_2 ?_
  refine lv_if_lt (tgt := 36) hx hb zd_LassoFinderModel_lasso_5 (by decide) (fun hc10 => ?_) (fun hc10 => ?_)
  · have hok := hok.1 hc10
    exact wJ_LassoFinderModel_lasso_36 G K ad a0 a1 Post C a0 a1 I J B D ls H locs hok (lv_sub hl [0, 1, 2] rfl) hw
  · have hok := hok.2 hc10
    refine lv_iload_n hx hb zd_LassoFinderModel_lasso_8 rfl (lv_at hl 1 rfl) ?_
    refine lv_iconst (v := 0) hx hb zd_LassoFinderModel_lasso_9 (by decide) ?_
    refine lv_aload_n hx hb zd_LassoFinderModel_lasso_10 rfl (lv_at hl 0 rfl) ?_
    refine z_get (v := .int (I 24)) hx hb hts hown hK hw zZ12 0 wM_g0 78 (by decide) zm_330 rfl zd_LassoFinderModel_lasso_11 ?_
    refine lv_aload_n hx hb zd_LassoFinderModel_lasso_14 rfl (lv_at hl 0 rfl) ?_
    refine z_get (v := .int (I 25)) hx hb hts hown hK hw zZ12 0 wM_g0 79 (by decide) zm_371 rfl zd_LassoFinderModel_lasso_15 ?_
    refine lv_iadd hx hb zd_LassoFinderModel_lasso_18 ?_
    refine lv_topi (fun z11 ez11 => ?_)
    have hok := hok z11 ez11
    refine lv_iconst (v := 1) hx hb zd_LassoFinderModel_lasso_19 (by decide) ?_
    refine lv_isub hx hb zd_LassoFinderModel_lasso_20 ?_
    refine lv_topi (fun z12 ez12 => ?_)
    have hok := hok z12 ez12
    refine z_calli (w1 := fun (u : zS) => wM ad K u.1 u.2.1 u.2.2.1 u.2.2.2) (wr := []) (z_runS (wc := (wM ad K I J B D)) (As := [.int a0, .int 0, .int z12]) (rest := [.ref (ad 0)]) ⟨hx, hb, hml, hown, hts⟩ (w_LassoFinderModel_in l G K ad I J B D a0 0 z12 _ H.size hok) zf_LassoFinderModel_in zm_293 ⟨Nat.le_of_ble_eq_true rfl, Nat.le_of_ble_eq_true rfl⟩ hK hw (List.range 58) wM_all wM_nd rfl hl.1 rfl (Nat.le_of_ble_eq_true rfl) zd_LassoFinderModel_lasso_21 ⟨Nat.le_of_ble_eq_true rfl, Nat.le_of_ble_eq_true rfl⟩) hw hA (List.range 58) [] wM_all rfl (by decide) (fun i hi => by cases hi) (fun r13 u H locs hok hw => ?_)
    obtain ⟨I13, J13, B13, D13⟩ := u
    dsimp only at hok
    have hw : zW G A s.heap (wM ad K I13 J13 B13 D13) H locs := hw
    refine lv_if_eq (tgt := 36) hx hb zd_LassoFinderModel_lasso_24 (by decide) (fun hc14 => ?_) (fun hc14 => ?_)
    · have hok := hok.1 hc14
      exact wJ_LassoFinderModel_lasso_36 G K ad a0 a1 Post C a0 a1 I13 J13 B13 D13 ls H locs hok (lv_sub hl [0, 1, 2] rfl) hw
    · have hok := hok.2 hc14
      refine lv_iload_n hx hb zd_LassoFinderModel_lasso_27 rfl (lv_at hl 2 rfl) ?_
      refine lv_iconst (v := 0) hx hb zd_LassoFinderModel_lasso_28 (by decide) ?_
      refine lv_iconst (v := 2) hx hb zd_LassoFinderModel_lasso_29 (by decide) ?_
      refine z_calli (w1 := fun (u : zS) => wM ad K u.1 u.2.1 u.2.2.1 u.2.2.2) (wr := []) (z_runS (wc := (wM ad K I13 J13 B13 D13)) (As := [.int a1, .int 0, .int 2]) (rest := [.ref (ad 0)]) ⟨hx, hb, hml, hown, hts⟩ (w_LassoFinderModel_in l G K ad I13 J13 B13 D13 a1 0 2 _ H.size hok) zf_LassoFinderModel_in zm_293 ⟨Nat.le_of_ble_eq_true rfl, Nat.le_of_ble_eq_true rfl⟩ hK hw (List.range 58) wM_all wM_nd rfl hl.1 rfl (Nat.le_of_ble_eq_true rfl) zd_LassoFinderModel_lasso_30 ⟨Nat.le_of_ble_eq_true rfl, Nat.le_of_ble_eq_true rfl⟩) hw hA (List.range 58) [] wM_all rfl (by decide) (fun i hi => by cases hi) (fun r15 u H locs hok hw => ?_)
      obtain ⟨I15, J15, B15, D15⟩ := u
      dsimp only at hok
      have hw : zW G A s.heap (wM ad K I15 J15 B15 D15) H locs := hw
      refine lv_if_ne (tgt := 40) hx hb zd_LassoFinderModel_lasso_33 (by decide) (fun hc16 => ?_) (fun hc16 => ?_)
      · have hok := hok.1 hc16
        refine lv_iconst (v := 0) hx hb zd_LassoFinderModel_lasso_40 (by decide) ?_
        exact wJ_LassoFinderModel_lasso_41 G K ad a0 a1 Post C a0 a1 0 I15 J15 B15 D15 ls H locs hok (lv_sub hl [0, 1, 2] rfl) hw
      · have hok := hok.2 hc16
        exact wJ_LassoFinderModel_lasso_36 G K ad a0 a1 Post C a0 a1 I15 J15 B15 D15 ls H locs hok (lv_sub hl [0, 1, 2] rfl) hw
def wc_LassoFinderModel_walk_13 (Post : (Nat → Int32) → (Nat → Int64) → (Nat → Nat → Int32) → (Nat → Nat → Int64) → Prop) (y0 : Int32) (I : Nat → Int32) (J : Nat → Int64) (B : Nat → Nat → Int32) (D : Nat → Nat → Int64) : Prop :=
  ((¬ (I 5) = 0 → vp_in 0 61 ∧ Post (upd (upd I 0 y0) 26 0) J (va_up B 54 (upd (B 54) (0 : Int32).toNatClampNeg 0)) D) ∧ ((I 5) = 0 → Post (upd I 0 y0) J B D))
def wp_LassoFinderModel_walk (I : Nat → Int32) (J : Nat → Int64) (B : Nat → Nat → Int32) (D : Nat → Nat → Int64) (Post : (Nat → Int32) → (Nat → Int64) → (Nat → Nat → Int32) → (Nat → Nat → Int64) → Prop) : Prop :=
  (((I 5) = 0 → wc_LassoFinderModel_walk_13  Post 1 I J B D) ∧ (¬ (I 5) = 0 → wc_LassoFinderModel_walk_13  Post 0 I J B D))
set_option maxHeartbeats 8000000 in
set_option maxRecDepth 100000 in
theorem wJ_LassoFinderModel_walk_13 {p : Program} {l : Launch} {e : Env} {s : State} {m : MethodId} {below : List Frame} {meth : Method} {c : Code} {A : Nat → Prop} (G : va_G) (K : Nat → ClassId) (ad : Nat → Nat) (Post : (Nat → Int32) → (Nat → Int64) → (Nat → Nat → Int32) → (Nat → Nat → Int64) → Prop) (C : zCx p s m ([.ref (ad 0)] : List Value).toArray meth c A G K prog_14_method_70_code none 1 "LassoFinderModel") : ∀ (y0 : Int32) (I : Nat → Int32) (J : Nat → Int64) (B : Nat → Nat → Int32) (D : Nat → Nat → Int64) (ls : Array Slot) (H : Heap) (locs : List Loc), wc_LassoFinderModel_walk_13  Post y0 I J B D → lv_has ls 1 [(0, .ref (ad 0))] → zW G A s.heap (wM ad K I J B D) H locs → W p l e { frames := 0, cells := 0, slots := 0, locals := 0 } s m ([.ref (ad 0)] : List Value).toArray below meth c H locs 0 0 (MQ below (va_Qv (fun u : zS => Post u.1 u.2.1 u.2.2.1 u.2.2.2) (fun u t => zPost G K A (wM ad K u.1 u.2.1 u.2.2.1 u.2.2.2) t) A) ([.ref (ad 0)] : List Value).toArray s 0 0 A) (F0 m 13 ls [.int y0, .ref (ad 0)]) := by
  obtain ⟨hx, hb, hr, hml, hts, hown, hlocks, hA, hK⟩ := id C
  intro y0 I J B D ls H locs hok hl hw
  unfold wc_LassoFinderModel_walk_13 at hok
  refine z_put (v := .int y0) hx hb hts hown hK hw zZ12 0 wM_g0 0 (by decide) zm_292 rfl rfl rfl (Nat.le_of_ble_eq_true rfl) zd_LassoFinderModel_walk_13 (fun H locs hw => ?_)
  have hw := wM_sI0 hw
  refine lv_aload_n hx hb zd_LassoFinderModel_walk_16 rfl (lv_at hl 0 rfl) ?_
  refine z_get (v := .int (I 5)) hx hb hts hown hK hw zZ12 0 wM_g0 6 (by decide) zm_299 rfl zd_LassoFinderModel_walk_17 ?_
  refine lv_if_ne (tgt := 24) hx hb zd_LassoFinderModel_walk_20 (by decide) (fun hc1 => ?_) (fun hc1 => ?_)
  · have hok := hok.1 hc1
    refine lv_aload_n hx hb zd_LassoFinderModel_walk_24 rfl (lv_at hl 0 rfl) ?_
    refine lv_iconst (v := 0) hx hb zd_LassoFinderModel_walk_25 (by decide) ?_
    refine z_put (v := .int 0) hx hb hts hown hK hw zZ12 0 wM_g0 82 (by decide) zm_331 rfl rfl rfl (Nat.le_of_ble_eq_true rfl) zd_LassoFinderModel_walk_26 (fun H locs hw => ?_)
    have hw := wM_sI26 hw
    refine lv_aload_n hx hb zd_LassoFinderModel_walk_29 rfl (lv_at hl 0 rfl) ?_
    refine z_get (v := .ref (ad 57)) hx hb hts hown hK hw zZ12 0 wM_g0 83 (by decide) zm_291 rfl zd_LassoFinderModel_walk_30 ?_
    refine lv_iconst (v := 0) hx hb zd_LassoFinderModel_walk_33 (by decide) ?_
    refine lv_iconst (v := 0) hx hb zd_LassoFinderModel_walk_34 (by decide) ?_
    refine va_iast (f := (B 54)) hx hb hK hw.1 hw.2.1 hw.2.2 57 0 wM_a57 rfl hok.1 zd_LassoFinderModel_walk_35 (fun H locs w91 w92 w93 => ?_)
    have hok := hok.2
    have hw := wM_t57 ⟨w91, w92, w93⟩
    exact (z_vret (u := ((upd (upd I 0 y0) 26 0), J, (va_up B 54 (upd (B 54) (0 : Int32).toNatClampNeg 0)), D)) hx hb hr hlocks hw (List.range 58) wM_all wM_nd hok (Nat.le_of_ble_eq_true rfl) (Nat.le_of_ble_eq_true rfl) zd_LassoFinderModel_walk_36)
  · have hok := hok.2 hc1
    exact (z_vret (u := ((upd I 0 y0), J, B, D)) hx hb hr hlocks hw (List.range 58) wM_all wM_nd hok (Nat.le_of_ble_eq_true rfl) (Nat.le_of_ble_eq_true rfl) zd_LassoFinderModel_walk_23)
set_option maxHeartbeats 8000000 in
set_option maxRecDepth 100000 in
theorem w_LassoFinderModel_walk (l : Launch) (G : va_G) (K : Nat → ClassId) (ad : Nat → Nat) (I : Nat → Int32) (J : Nat → Int64) (B : Nat → Nat → Int32) (D : Nat → Nat → Int64) (Post : (Nat → Int32) → (Nat → Int64) → (Nat → Nat → Int32) → (Nat → Nat → Int64) → Prop) (sz : Nat) (hok : wp_LassoFinderModel_walk I J B D  Post) : Met l zy_LassoFinderModel_walk (Cond.code zy_LassoFinderModel_walk prog_14_method_70_code 1 none :: zTB) { frames := 0, cells := 0, slots := 0, locals := 0 } (va_Pc [.ref (ad 0)] (zPre G K (wM ad K I J B D) sz)) (va_Qv (fun u : zS => Post u.1 u.2.1 u.2.2.1 u.2.2.2) (fun u t => zPost G K (va_A (wM ad K I J B D) sz) (wM ad K u.1 u.2.1 u.2.2.1 u.2.2.2) t) (va_A (wM ad K I J B D) sz)) 0 0 (va_A (wM ad K I J B D) sz) := by
  refine zMet (y := zy_LassoFinderModel_walk) (av := [.ref (ad 0)]) (maxL := 1) (cc := prog_14_method_70_code) (ret := none) (W0 := (wM ad K I J B D)) (sz := sz) (G := G) (K := K) (wt := zTB) (mc := 0) (ms := 0) (Qf := fun A => va_Qv (fun u : zS => Post u.1 u.2.1 u.2.2.1 u.2.2.2) (fun u t => zPost G K A (wM ad K u.1 u.2.1 u.2.2.1 u.2.2.2) t) A) (by decide) (Nat.le_of_ble_eq_true rfl) ?_
  intro p e s m below meth c ls A hx hb hr hml hts hown hlocks hin hA hK H locs hw hsz hl
  clear hsz
  have hown : s.vm.findClass "LassoFinderModel" = some m.cls := hown
  have C : zCx p s m ([.ref (ad 0)] : List Value).toArray meth c A G K prog_14_method_70_code none 1 "LassoFinderModel" := ⟨hx, hb, hr, hml, hts, hown, hlocks, hA, hK⟩
  have hl : lv_has ls 1 [(0, .ref (ad 0))] := hl
  have hw : zW G A s.heap (wM ad K I J B D) H locs := hw
  unfold wp_LassoFinderModel_walk at hok
  refine lv_aload_n hx hb zd_LassoFinderModel_walk_0 rfl (lv_at hl 0 rfl) ?_
  refine lv_aload_n hx hb zd_LassoFinderModel_walk_1 rfl (lv_at hl 0 rfl) ?_
  refine z_get (v := .int (I 5)) hx hb hts hown hK hw zZ12 0 wM_g0 6 (by decide) zm_299 rfl zd_LassoFinderModel_walk_2 ?_
  refine lv_if_eq (tgt := 12) hx hb zd_LassoFinderModel_walk_5 (by decide) (fun hc2 => ?_) (fun hc2 => ?_)
  · have hok := hok.1 hc2
    refine lv_iconst (v := 1) hx hb zd_LassoFinderModel_walk_12 (by decide) ?_
    exact wJ_LassoFinderModel_walk_13 G K ad  Post C 1 I J B D ls H locs hok (lv_sub hl [0] rfl) hw
  · have hok := hok.2 hc2
    refine lv_iconst (v := 0) hx hb zd_LassoFinderModel_walk_8 (by decide) ?_
    refine lv_goto (tgt := 13) hx hb zd_LassoFinderModel_walk_9 (by decide) ?_
    exact wJ_LassoFinderModel_walk_13 G K ad  Post C 0 I J B D ls H locs hok (lv_sub hl [0] rfl) hw
def wc_LassoFinderModel_steps_47 (Post : Int32 → (Nat → Int32) → (Nat → Int64) → (Nat → Nat → Int32) → (Nat → Nat → Int64) → Prop) (y0 : Int32) (I : Nat → Int32) (J : Nat → Int64) (B : Nat → Nat → Int32) (D : Nat → Nat → Int64) : Prop :=
  Post y0 I J B D
def wp_LassoFinderModel_steps (I : Nat → Int32) (J : Nat → Int64) (B : Nat → Nat → Int32) (D : Nat → Nat → Int64) (Post : Int32 → (Nat → Int32) → (Nat → Int64) → (Nat → Nat → Int32) → (Nat → Nat → Int64) → Prop) : Prop :=
  (((0 : Int32) ≤ (I 26) → vp_in (I 26) 61 ∧ ∀ z2 : Int32, z2 = ((B 54) (I 26).toNatClampNeg) → ∀ z3 : Int32, z3 = (z2 + 1) → vp_in z3 98 ∧ ∀ z4 : Int32, z4 = ((B 29) z3.toNatClampNeg) → vp_in (I 26) 61 ∧ ∀ z5 : Int32, z5 = ((B 54) (I 26).toNatClampNeg) → vp_in z5 98 ∧ ∀ z6 : Int32, z6 = ((B 29) z5.toNatClampNeg) → ∀ z7 : Int32, z7 = (z4 - z6) → wc_LassoFinderModel_steps_47  Post z7 (upd I 0 0) J B D) ∧ (¬ (0 : Int32) ≤ (I 26) → wc_LassoFinderModel_steps_47  Post 0 (upd I 0 0) J B D))
set_option maxHeartbeats 8000000 in
set_option maxRecDepth 100000 in
theorem wJ_LassoFinderModel_steps_47 {p : Program} {l : Launch} {e : Env} {s : State} {m : MethodId} {below : List Frame} {meth : Method} {c : Code} {A : Nat → Prop} (G : va_G) (K : Nat → ClassId) (ad : Nat → Nat) (Post : Int32 → (Nat → Int32) → (Nat → Int64) → (Nat → Nat → Int32) → (Nat → Nat → Int64) → Prop) (C : zCx p s m ([.ref (ad 0)] : List Value).toArray meth c A G K prog_14_method_71_code (some .int) 1 "LassoFinderModel") : ∀ (y0 : Int32) (I : Nat → Int32) (J : Nat → Int64) (B : Nat → Nat → Int32) (D : Nat → Nat → Int64) (ls : Array Slot) (H : Heap) (locs : List Loc), wc_LassoFinderModel_steps_47  Post y0 I J B D → lv_has ls 1 [] → zW G A s.heap (wM ad K I J B D) H locs → W p l e { frames := 0, cells := 0, slots := 0, locals := 0 } s m ([.ref (ad 0)] : List Value).toArray below meth c H locs 0 0 (MQ below (va_Qi (fun (r : Int32) (u : zS) => Post r u.1 u.2.1 u.2.2.1 u.2.2.2) (fun u t => zPost G K A (wM ad K u.1 u.2.1 u.2.2.1 u.2.2.2) t) A) ([.ref (ad 0)] : List Value).toArray s 0 0 A) (F0 m 47 ls [.int y0]) := by
  obtain ⟨hx, hb, hr, hml, hts, hown, hlocks, hA, hK⟩ := id C
  intro y0 I J B D ls H locs hok hl hw
  unfold wc_LassoFinderModel_steps_47 at hok
  exact (z_iret (u := (I, J, B, D)) hx hb hr hlocks rfl hw (List.range 58) wM_all wM_nd hok (Nat.le_of_ble_eq_true rfl) (Nat.le_of_ble_eq_true rfl) zd_LassoFinderModel_steps_47)
set_option maxHeartbeats 8000000 in
set_option maxRecDepth 100000 in
theorem w_LassoFinderModel_steps (l : Launch) (G : va_G) (K : Nat → ClassId) (ad : Nat → Nat) (I : Nat → Int32) (J : Nat → Int64) (B : Nat → Nat → Int32) (D : Nat → Nat → Int64) (Post : Int32 → (Nat → Int32) → (Nat → Int64) → (Nat → Nat → Int32) → (Nat → Nat → Int64) → Prop) (sz : Nat) (hok : wp_LassoFinderModel_steps I J B D  Post) : Met l zy_LassoFinderModel_steps (Cond.code zy_LassoFinderModel_steps prog_14_method_71_code 1 (some .int) :: zTB) { frames := 0, cells := 0, slots := 0, locals := 0 } (va_Pc [.ref (ad 0)] (zPre G K (wM ad K I J B D) sz)) (va_Qi (fun (r : Int32) (u : zS) => Post r u.1 u.2.1 u.2.2.1 u.2.2.2) (fun u t => zPost G K (va_A (wM ad K I J B D) sz) (wM ad K u.1 u.2.1 u.2.2.1 u.2.2.2) t) (va_A (wM ad K I J B D) sz)) 0 0 (va_A (wM ad K I J B D) sz) := by
  refine zMet (y := zy_LassoFinderModel_steps) (av := [.ref (ad 0)]) (maxL := 1) (cc := prog_14_method_71_code) (ret := (some .int)) (W0 := (wM ad K I J B D)) (sz := sz) (G := G) (K := K) (wt := zTB) (mc := 0) (ms := 0) (Qf := fun A => va_Qi (fun (r : Int32) (u : zS) => Post r u.1 u.2.1 u.2.2.1 u.2.2.2) (fun u t => zPost G K A (wM ad K u.1 u.2.1 u.2.2.1 u.2.2.2) t) A) (by decide) (Nat.le_of_ble_eq_true rfl) ?_
  intro p e s m below meth c ls A hx hb hr hml hts hown hlocks hin hA hK H locs hw hsz hl
  clear hsz
  have hown : s.vm.findClass "LassoFinderModel" = some m.cls := hown
  have C : zCx p s m ([.ref (ad 0)] : List Value).toArray meth c A G K prog_14_method_71_code (some .int) 1 "LassoFinderModel" := ⟨hx, hb, hr, hml, hts, hown, hlocks, hA, hK⟩
  have hl : lv_has ls 1 [(0, .ref (ad 0))] := hl
  have hw : zW G A s.heap (wM ad K I J B D) H locs := hw
  unfold wp_LassoFinderModel_steps at hok
  refine lv_aload_n hx hb zd_LassoFinderModel_steps_0 rfl (lv_at hl 0 rfl) ?_
  refine lv_iconst (v := 0) hx hb zd_LassoFinderModel_steps_1 (by decide) ?_
  refine z_put (v := .int 0) hx hb hts hown hK hw zZ12 0 wM_g0 0 (by decide) zm_292 rfl rfl rfl (Nat.le_of_ble_eq_true rfl) zd_LassoFinderModel_steps_2 (fun H locs hw => ?_)
  have hw := wM_sI0 hw
  refine lv_aload_n hx hb zd_LassoFinderModel_steps_5 rfl (lv_at hl 0 rfl) ?_
  refine z_get (v := .int (I 26)) hx hb hts hown hK hw zZ12 0 wM_g0 82 (by decide) zm_331 rfl zd_LassoFinderModel_steps_6 ?_
  refine lv_if_ge (tgt := 16) hx hb zd_LassoFinderModel_steps_9 (by decide) (fun hc1 => ?_) (fun hc1 => ?_)
  · have hok := hok.1 hc1
    refine lv_aload_n hx hb zd_LassoFinderModel_steps_16 rfl (lv_at hl 0 rfl) ?_
    refine z_get (v := .ref (ad 32)) hx hb hts hown hK hw zZ12 0 wM_g0 48 (by decide) zm_266 rfl zd_LassoFinderModel_steps_17 ?_
    refine lv_aload_n hx hb zd_LassoFinderModel_steps_20 rfl (lv_at hl 0 rfl) ?_
    refine z_get (v := .ref (ad 57)) hx hb hts hown hK hw zZ12 0 wM_g0 83 (by decide) zm_291 rfl zd_LassoFinderModel_steps_21 ?_
    refine lv_aload_n hx hb zd_LassoFinderModel_steps_24 rfl (lv_at hl 0 rfl) ?_
    refine z_get (v := .int (I 26)) hx hb hts hown hK hw zZ12 0 wM_g0 82 (by decide) zm_331 rfl zd_LassoFinderModel_steps_25 ?_
    refine va_iald (f := (B 54)) hx hb hK hw.1 57 0 wM_a57 rfl hok.1 zd_LassoFinderModel_steps_28 ?_
    have hok := hok.2
    refine lv_topi (fun z2 ez2 => ?_)
    have hok := hok z2 ez2
    refine lv_iconst (v := 1) hx hb zd_LassoFinderModel_steps_29 (by decide) ?_
    refine lv_iadd hx hb zd_LassoFinderModel_steps_30 ?_
    refine lv_topi (fun z3 ez3 => ?_)
    have hok := hok z3 ez3
    refine va_iald (f := (B 29)) hx hb hK hw.1 32 0 wM_a32 rfl hok.1 zd_LassoFinderModel_steps_31 ?_
    have hok := hok.2
    refine lv_topi (fun z4 ez4 => ?_)
    have hok := hok z4 ez4
    refine lv_aload_n hx hb zd_LassoFinderModel_steps_32 rfl (lv_at hl 0 rfl) ?_
    refine z_get (v := .ref (ad 32)) hx hb hts hown hK hw zZ12 0 wM_g0 48 (by decide) zm_266 rfl zd_LassoFinderModel_steps_33 ?_
    refine lv_aload_n hx hb zd_LassoFinderModel_steps_36 rfl (lv_at hl 0 rfl) ?_
    refine z_get (v := .ref (ad 57)) hx hb hts hown hK hw zZ12 0 wM_g0 83 (by decide) zm_291 rfl zd_LassoFinderModel_steps_37 ?_
    refine lv_aload_n hx hb zd_LassoFinderModel_steps_40 rfl (lv_at hl 0 rfl) ?_
    refine z_get (v := .int (I 26)) hx hb hts hown hK hw zZ12 0 wM_g0 82 (by decide) zm_331 rfl zd_LassoFinderModel_steps_41 ?_
    refine va_iald (f := (B 54)) hx hb hK hw.1 57 0 wM_a57 rfl hok.1 zd_LassoFinderModel_steps_44 ?_
    have hok := hok.2
    refine lv_topi (fun z5 ez5 => ?_)
    have hok := hok z5 ez5
    refine va_iald (f := (B 29)) hx hb hK hw.1 32 0 wM_a32 rfl hok.1 zd_LassoFinderModel_steps_45 ?_
    have hok := hok.2
    refine lv_topi (fun z6 ez6 => ?_)
    have hok := hok z6 ez6
    refine lv_isub hx hb zd_LassoFinderModel_steps_46 ?_
    refine lv_topi (fun z7 ez7 => ?_)
    have hok := hok z7 ez7
    exact wJ_LassoFinderModel_steps_47 G K ad  Post C z7 (upd I 0 0) J B D ls H locs hok (lv_sub hl [] rfl) hw
  · have hok := hok.2 hc1
    refine lv_iconst (v := 0) hx hb zd_LassoFinderModel_steps_12 (by decide) ?_
    refine lv_goto (tgt := 47) hx hb zd_LassoFinderModel_steps_13 (by decide) ?_
    exact wJ_LassoFinderModel_steps_47 G K ad  Post C 0 (upd I 0 0) J B D ls H locs hok (lv_sub hl [] rfl) hw
def wc_LassoFinderModel_go_76 (a0 : Int32) (Post : Int32 → (Nat → Int32) → (Nat → Int64) → (Nat → Nat → Int32) → (Nat → Nat → Int64) → Prop) (x1 : Int32) (x2 : Int32) (y0 : Int32) (I : Nat → Int32) (J : Nat → Int64) (B : Nat → Nat → Int32) (D : Nat → Nat → Int64) : Prop :=
  ((y0 ≤ 0 → ∀ z2 : Int32, z2 = ((I 26) + 1) → vp_in x2 98 ∧ ∀ z3 : Int32, z3 = ((B 29) x2.toNatClampNeg) → ∀ z4 : Int32, z4 = (z3 + x1) → vp_in z4 401 ∧ ∀ z5 : Int32, z5 = ((B 30) z4.toNatClampNeg) → vp_in z2 61 ∧ vp_in x2 98 ∧ ∀ z6 : Int32, z6 = ((B 29) x2.toNatClampNeg) → ∀ z7 : Int32, z7 = (z6 + x1) → vp_in z7 401 ∧ ∀ z8 : Int32, z8 = ((B 32) z7.toNatClampNeg) → Post z8 (upd (upd I 0 y0) 26 z2) J (va_up B 54 (upd (B 54) z2.toNatClampNeg z5)) D) ∧ (¬ y0 ≤ 0 → Post 0 (upd I 0 y0) J B D))
def wc_LassoFinderModel_go_20 (a0 : Int32) (Post : Int32 → (Nat → Int32) → (Nat → Int64) → (Nat → Nat → Int32) → (Nat → Nat → Int64) → Prop) (x1 : Int32) (y0 : Int32) (I : Nat → Int32) (J : Nat → Int64) (B : Nat → Nat → Int32) (D : Nat → Nat → Int64) : Prop :=
  (((0 : Int32) ≤ (I 26) → ∀ z10 : Int32, z10 = (y0 + 1) → vp_in z10 98 ∧ ∀ z11 : Int32, z11 = ((B 29) z10.toNatClampNeg) → vp_in y0 98 ∧ ∀ z12 : Int32, z12 = ((B 29) y0.toNatClampNeg) → ∀ z13 : Int32, z13 = (z11 - z12) → ∀ z14 : Int32, z14 = (z13 - 1) → wp_LassoFinderModel_in I J B D x1 0 z14 (fun r15 I15 J15 B15 D15 => ((¬ r15 = 0 → ((¬ (I15 26) = 60 → wc_LassoFinderModel_go_76 a0 Post x1 y0 0 I15 J15 B15 D15) ∧ ((I15 26) = 60 → wc_LassoFinderModel_go_76 a0 Post x1 y0 3 I15 J15 B15 D15))) ∧ (r15 = 0 → wc_LassoFinderModel_go_76 a0 Post x1 y0 2 I15 J15 B15 D15)))) ∧ (¬ (0 : Int32) ≤ (I 26) → wc_LassoFinderModel_go_76 a0 Post x1 y0 1 I J B D))
def wp_LassoFinderModel_go (I : Nat → Int32) (J : Nat → Int64) (B : Nat → Nat → Int32) (D : Nat → Nat → Int64) (a0 : Int32) (Post : Int32 → (Nat → Int32) → (Nat → Int64) → (Nat → Nat → Int32) → (Nat → Nat → Int64) → Prop) : Prop :=
  (((0 : Int32) ≤ (I 26) → vp_in (I 26) 61 ∧ ∀ z19 : Int32, z19 = ((B 54) (I 26).toNatClampNeg) → wc_LassoFinderModel_go_20 a0 Post a0 z19 I J B D) ∧ (¬ (0 : Int32) ≤ (I 26) → wc_LassoFinderModel_go_20 a0 Post a0 0 I J B D))
set_option maxHeartbeats 8000000 in
set_option maxRecDepth 100000 in
theorem wJ_LassoFinderModel_go_76 {p : Program} {l : Launch} {e : Env} {s : State} {m : MethodId} {below : List Frame} {meth : Method} {c : Code} {A : Nat → Prop} (G : va_G) (K : Nat → ClassId) (ad : Nat → Nat) (a0 : Int32) (Post : Int32 → (Nat → Int32) → (Nat → Int64) → (Nat → Nat → Int32) → (Nat → Nat → Int64) → Prop) (C : zCx p s m ([.ref (ad 0), .int a0] : List Value).toArray meth c A G K prog_14_method_72_code (some .int) 3 "LassoFinderModel") : ∀ (x1 : Int32) (x2 : Int32) (y0 : Int32) (I : Nat → Int32) (J : Nat → Int64) (B : Nat → Nat → Int32) (D : Nat → Nat → Int64) (ls : Array Slot) (H : Heap) (locs : List Loc), wc_LassoFinderModel_go_76 a0 Post x1 x2 y0 I J B D → lv_has ls 3 [(0, .ref (ad 0)), (1, .int x1), (2, .int x2)] → zW G A s.heap (wM ad K I J B D) H locs → W p l e { frames := 1, cells := 0, slots := 0, locals := 22 } s m ([.ref (ad 0), .int a0] : List Value).toArray below meth c H locs 0 0 (MQ below (va_Qi (fun (r : Int32) (u : zS) => Post r u.1 u.2.1 u.2.2.1 u.2.2.2) (fun u t => zPost G K A (wM ad K u.1 u.2.1 u.2.2.1 u.2.2.2) t) A) ([.ref (ad 0), .int a0] : List Value).toArray s 0 0 A) (F0 m 76 ls [.int y0, .ref (ad 0)]) := by
  obtain ⟨hx, hb, hr, hml, hts, hown, hlocks, hA, hK⟩ := id C
  intro x1 x2 y0 I J B D ls H locs hok hl hw
  unfold wc_LassoFinderModel_go_76 at hok
  refine z_put (v := .int y0) hx hb hts hown hK hw zZ12 0 wM_g0 0 (by decide) zm_292 rfl rfl rfl (Nat.le_of_ble_eq_true rfl) zd_LassoFinderModel_go_76 (fun H locs hw => ?_)
  have hw := wM_sI0 hw
  refine lv_aload_n hx hb zd_LassoFinderModel_go_79 rfl (lv_at hl 0 rfl) ?_
  refine z_get (v := .int y0) hx hb hts hown hK hw zZ12 0 wM_g0 0 (by decide) zm_292 rfl zd_LassoFinderModel_go_80 ?_
  refine lv_if_le (tgt := 88) hx hb zd_LassoFinderModel_go_83 (by decide) (fun hc1 => ?_) (fun hc1 => ?_)
  · have hok := hok.1 hc1
    refine lv_aload_n hx hb zd_LassoFinderModel_go_88 rfl (lv_at hl 0 rfl) ?_
    refine lv_dup hx hb zd_LassoFinderModel_go_89 rfl ?_
    refine z_get (v := .int (I 26)) hx hb hts hown hK hw zZ12 0 wM_g0 82 (by decide) zm_331 rfl zd_LassoFinderModel_go_90 ?_
    refine lv_iconst (v := 1) hx hb zd_LassoFinderModel_go_93 (by decide) ?_
    refine lv_iadd hx hb zd_LassoFinderModel_go_94 ?_
    refine lv_topi (fun z2 ez2 => ?_)
    have hok := hok z2 ez2
    refine z_put (v := .int z2) hx hb hts hown hK hw zZ12 0 wM_g0 82 (by decide) zm_331 rfl rfl rfl (Nat.le_of_ble_eq_true rfl) zd_LassoFinderModel_go_95 (fun H locs hw => ?_)
    have hw := wM_sI26 hw
    refine lv_aload_n hx hb zd_LassoFinderModel_go_98 rfl (lv_at hl 0 rfl) ?_
    refine z_get (v := .ref (ad 57)) hx hb hts hown hK hw zZ12 0 wM_g0 83 (by decide) zm_291 rfl zd_LassoFinderModel_go_99 ?_
    refine lv_aload_n hx hb zd_LassoFinderModel_go_102 rfl (lv_at hl 0 rfl) ?_
    refine z_get (v := .int z2) hx hb hts hown hK hw zZ12 0 wM_g0 82 (by decide) zm_331 rfl zd_LassoFinderModel_go_103 ?_
    refine lv_aload_n hx hb zd_LassoFinderModel_go_106 rfl (lv_at hl 0 rfl) ?_
    refine z_get (v := .ref (ad 33)) hx hb hts hown hK hw zZ12 0 wM_g0 49 (by decide) zm_267 rfl zd_LassoFinderModel_go_107 ?_
    refine lv_aload_n hx hb zd_LassoFinderModel_go_110 rfl (lv_at hl 0 rfl) ?_
    refine z_get (v := .ref (ad 32)) hx hb hts hown hK hw zZ12 0 wM_g0 48 (by decide) zm_266 rfl zd_LassoFinderModel_go_111 ?_
    refine lv_iload_n hx hb zd_LassoFinderModel_go_114 rfl (lv_at hl 2 rfl) ?_
    refine va_iald (f := (B 29)) hx hb hK hw.1 32 0 wM_a32 rfl hok.1 zd_LassoFinderModel_go_115 ?_
    have hok := hok.2
    refine lv_topi (fun z3 ez3 => ?_)
    have hok := hok z3 ez3
    refine lv_iload_n hx hb zd_LassoFinderModel_go_116 rfl (lv_at hl 1 rfl) ?_
    refine lv_iadd hx hb zd_LassoFinderModel_go_117 ?_
    refine lv_topi (fun z4 ez4 => ?_)
    have hok := hok z4 ez4
    refine va_iald (f := (B 30)) hx hb hK hw.1 33 0 wM_a33 rfl hok.1 zd_LassoFinderModel_go_118 ?_
    have hok := hok.2
    refine lv_topi (fun z5 ez5 => ?_)
    have hok := hok z5 ez5
    refine va_iast (f := (B 54)) hx hb hK hw.1 hw.2.1 hw.2.2 57 0 wM_a57 rfl hok.1 zd_LassoFinderModel_go_119 (fun H locs w91 w92 w93 => ?_)
    have hok := hok.2
    have hw := wM_t57 ⟨w91, w92, w93⟩
    refine lv_aload_n hx hb zd_LassoFinderModel_go_120 rfl (lv_at hl 0 rfl) ?_
    refine z_get (v := .ref (ad 35)) hx hb hts hown hK hw zZ12 0 wM_g0 51 (by decide) zm_269 rfl zd_LassoFinderModel_go_121 ?_
    refine lv_aload_n hx hb zd_LassoFinderModel_go_124 rfl (lv_at hl 0 rfl) ?_
    refine z_get (v := .ref (ad 32)) hx hb hts hown hK hw zZ12 0 wM_g0 48 (by decide) zm_266 rfl zd_LassoFinderModel_go_125 ?_
    refine lv_iload_n hx hb zd_LassoFinderModel_go_128 rfl (lv_at hl 2 rfl) ?_
    refine va_iald (f := (B 29)) hx hb hK hw.1 32 0 wM_a32 rfl hok.1 zd_LassoFinderModel_go_129 ?_
    have hok := hok.2
    refine lv_topi (fun z6 ez6 => ?_)
    have hok := hok z6 ez6
    refine lv_iload_n hx hb zd_LassoFinderModel_go_130 rfl (lv_at hl 1 rfl) ?_
    refine lv_iadd hx hb zd_LassoFinderModel_go_131 ?_
    refine lv_topi (fun z7 ez7 => ?_)
    have hok := hok z7 ez7
    refine va_iald (f := (B 32)) hx hb hK hw.1 35 0 wM_a35 rfl hok.1 zd_LassoFinderModel_go_132 ?_
    have hok := hok.2
    refine lv_topi (fun z8 ez8 => ?_)
    have hok := hok z8 ez8
    exact (z_iret (u := ((upd (upd I 0 y0) 26 z2), J, (va_up B 54 (upd (B 54) z2.toNatClampNeg z5)), D)) hx hb hr hlocks rfl hw (List.range 58) wM_all wM_nd hok (Nat.le_of_ble_eq_true rfl) (Nat.le_of_ble_eq_true rfl) zd_LassoFinderModel_go_133)
  · have hok := hok.2 hc1
    refine lv_iconst (v := 0) hx hb zd_LassoFinderModel_go_86 (by decide) ?_
    exact (z_iret (u := ((upd I 0 y0), J, B, D)) hx hb hr hlocks rfl hw (List.range 58) wM_all wM_nd hok (Nat.le_of_ble_eq_true rfl) (Nat.le_of_ble_eq_true rfl) zd_LassoFinderModel_go_87)
set_option maxHeartbeats 8000000 in
set_option maxRecDepth 100000 in
theorem wJ_LassoFinderModel_go_20 {p : Program} {l : Launch} {e : Env} {s : State} {m : MethodId} {below : List Frame} {meth : Method} {c : Code} {A : Nat → Prop} (G : va_G) (K : Nat → ClassId) (ad : Nat → Nat) (a0 : Int32) (Post : Int32 → (Nat → Int32) → (Nat → Int64) → (Nat → Nat → Int32) → (Nat → Nat → Int64) → Prop) (C : zCx p s m ([.ref (ad 0), .int a0] : List Value).toArray meth c A G K prog_14_method_72_code (some .int) 3 "LassoFinderModel") : ∀ (x1 : Int32) (y0 : Int32) (I : Nat → Int32) (J : Nat → Int64) (B : Nat → Nat → Int32) (D : Nat → Nat → Int64) (ls : Array Slot) (H : Heap) (locs : List Loc), wc_LassoFinderModel_go_20 a0 Post x1 y0 I J B D → lv_has ls 3 [(0, .ref (ad 0)), (1, .int x1)] → zW G A s.heap (wM ad K I J B D) H locs → W p l e { frames := 1, cells := 0, slots := 0, locals := 22 } s m ([.ref (ad 0), .int a0] : List Value).toArray below meth c H locs 0 0 (MQ below (va_Qi (fun (r : Int32) (u : zS) => Post r u.1 u.2.1 u.2.2.1 u.2.2.2) (fun u t => zPost G K A (wM ad K u.1 u.2.1 u.2.2.1 u.2.2.2) t) A) ([.ref (ad 0), .int a0] : List Value).toArray s 0 0 A) (F0 m 20 ls [.int y0]) := by
  obtain ⟨hx, hb, hr, hml, hts, hown, hlocks, hA, hK⟩ := id C
  intro x1 y0 I J B D ls H locs hok hl hw
  unfold wc_LassoFinderModel_go_20 at hok
  refine lv_istore_n hx hb zd_LassoFinderModel_go_20 rfl hl (by decide) rfl (fun ls hl => ?_)
  have hl : lv_has ls 3 [(2, .int y0), (0, .ref (ad 0)), (1, .int x1)] := hl
  refine lv_aload_n hx hb zd_LassoFinderModel_go_21 rfl (lv_at hl 1 rfl) ?_
  refine lv_aload_n hx hb zd_LassoFinderModel_go_22 rfl (lv_at hl 1 rfl) ?_
  refine z_get (v := .int (I 26)) hx hb hts hown hK hw zZ12 0 wM_g0 82 (by decide) zm_331 rfl zd_LassoFinderModel_go_23 ?_
  refine lv_if_ge (tgt := 33) hx hb zd_LassoFinderModel_go_26 (by decide) (fun hc9 => ?_) (fun hc9 => ?_)
  · have hok := hok.1 hc9
    refine lv_iload_n hx hb zd_LassoFinderModel_go_33 rfl (lv_at hl 2 rfl) ?_
    refine lv_iconst (v := 0) hx hb zd_LassoFinderModel_go_34 (by decide) ?_
    refine lv_aload_n hx hb zd_LassoFinderModel_go_35 rfl (lv_at hl 1 rfl) ?_
    refine z_get (v := .ref (ad 32)) hx hb hts hown hK hw zZ12 0 wM_g0 48 (by decide) zm_266 rfl zd_LassoFinderModel_go_36 ?_
    refine lv_iload_n hx hb zd_LassoFinderModel_go_39 rfl (lv_at hl 0 rfl) ?_
    refine lv_iconst (v := 1) hx hb zd_LassoFinderModel_go_40 (by decide) ?_
    refine lv_iadd hx hb zd_LassoFinderModel_go_41 ?_
    refine lv_topi (fun z10 ez10 => ?_)
    have hok := hok z10 ez10
    refine va_iald (f := (B 29)) hx hb hK hw.1 32 0 wM_a32 rfl hok.1 zd_LassoFinderModel_go_42 ?_
    have hok := hok.2
    refine lv_topi (fun z11 ez11 => ?_)
    have hok := hok z11 ez11
    refine lv_aload_n hx hb zd_LassoFinderModel_go_43 rfl (lv_at hl 1 rfl) ?_
    refine z_get (v := .ref (ad 32)) hx hb hts hown hK hw zZ12 0 wM_g0 48 (by decide) zm_266 rfl zd_LassoFinderModel_go_44 ?_
    refine lv_iload_n hx hb zd_LassoFinderModel_go_47 rfl (lv_at hl 0 rfl) ?_
    refine va_iald (f := (B 29)) hx hb hK hw.1 32 0 wM_a32 rfl hok.1 zd_LassoFinderModel_go_48 ?_
    have hok := hok.2
    refine lv_topi (fun z12 ez12 => ?_)
    have hok := hok z12 ez12
    refine lv_isub hx hb zd_LassoFinderModel_go_49 ?_
    refine lv_topi (fun z13 ez13 => ?_)
    have hok := hok z13 ez13
    refine lv_iconst (v := 1) hx hb zd_LassoFinderModel_go_50 (by decide) ?_
    refine lv_isub hx hb zd_LassoFinderModel_go_51 ?_
    refine lv_topi (fun z14 ez14 => ?_)
    have hok := hok z14 ez14
    refine z_calli (w1 := fun (u : zS) => wM ad K u.1 u.2.1 u.2.2.1 u.2.2.2) (wr := []) (z_runS (wc := (wM ad K I J B D)) (As := [.int x1, .int 0, .int z14]) (rest := [.ref (ad 0)]) ⟨hx, hb, hml, hown, hts⟩ (w_LassoFinderModel_in l G K ad I J B D x1 0 z14 _ H.size hok) zf_LassoFinderModel_in zm_293 ⟨Nat.le_of_ble_eq_true rfl, Nat.le_of_ble_eq_true rfl⟩ hK hw (List.range 58) wM_all wM_nd rfl hl.1 rfl (Nat.le_of_ble_eq_true rfl) zd_LassoFinderModel_go_52 ⟨Nat.le_of_ble_eq_true rfl, Nat.le_of_ble_eq_true rfl⟩) hw hA (List.range 58) [] wM_all rfl (by decide) (fun i hi => by cases hi) (fun r15 u H locs hok hw => ?_)
    obtain ⟨I15, J15, B15, D15⟩ := u
    dsimp only at hok
    have hw : zW G A s.heap (wM ad K I15 J15 B15 D15) H locs := hw
    refine lv_if_ne (tgt := 62) hx hb zd_LassoFinderModel_go_55 (by decide) (fun hc16 => ?_) (fun hc16 => ?_)
    · have hok := hok.1 hc16
      refine lv_aload_n hx hb zd_LassoFinderModel_go_62 rfl (lv_at hl 1 rfl) ?_
      refine z_get (v := .int (I15 26)) hx hb hts hown hK hw zZ12 0 wM_g0 82 (by decide) zm_331 rfl zd_LassoFinderModel_go_63 ?_
      refine lv_bipush (v := 60) hx hb zd_LassoFinderModel_go_66 (by decide) ?_
      refine lv_icmp_ne (tgt := 75) hx hb zd_LassoFinderModel_go_68 (by decide) (fun hc17 => ?_) (fun hc17 => ?_)
      · have hok := hok.1 hc17
        refine lv_iconst (v := 0) hx hb zd_LassoFinderModel_go_75 (by decide) ?_
        exact wJ_LassoFinderModel_go_76 G K ad a0 Post C x1 y0 0 I15 J15 B15 D15 ls H locs hok (lv_sub hl [1, 2, 0] rfl) hw
      · have hok := hok.2 hc17
        refine lv_iconst (v := 3) hx hb zd_LassoFinderModel_go_71 (by decide) ?_
        refine lv_goto (tgt := 76) hx hb zd_LassoFinderModel_go_72 (by decide) ?_
        exact wJ_LassoFinderModel_go_76 G K ad a0 Post C x1 y0 3 I15 J15 B15 D15 ls H locs hok (lv_sub hl [1, 2, 0] rfl) hw
    · have hok := hok.2 hc16
      refine lv_iconst (v := 2) hx hb zd_LassoFinderModel_go_58 (by decide) ?_
      refine lv_goto (tgt := 76) hx hb zd_LassoFinderModel_go_59 (by decide) ?_
      exact wJ_LassoFinderModel_go_76 G K ad a0 Post C x1 y0 2 I15 J15 B15 D15 ls H locs hok (lv_sub hl [1, 2, 0] rfl) hw
  · have hok := hok.2 hc9
    refine lv_iconst (v := 1) hx hb zd_LassoFinderModel_go_29 (by decide) ?_
    refine lv_goto (tgt := 76) hx hb zd_LassoFinderModel_go_30 (by decide) ?_
    exact wJ_LassoFinderModel_go_76 G K ad a0 Post C x1 y0 1 I J B D ls H locs hok (lv_sub hl [1, 2, 0] rfl) hw
set_option maxHeartbeats 8000000 in
set_option maxRecDepth 100000 in
theorem w_LassoFinderModel_go (l : Launch) (G : va_G) (K : Nat → ClassId) (ad : Nat → Nat) (I : Nat → Int32) (J : Nat → Int64) (B : Nat → Nat → Int32) (D : Nat → Nat → Int64) (a0 : Int32) (Post : Int32 → (Nat → Int32) → (Nat → Int64) → (Nat → Nat → Int32) → (Nat → Nat → Int64) → Prop) (sz : Nat) (hok : wp_LassoFinderModel_go I J B D a0 Post) : Met l zy_LassoFinderModel_go (Cond.code zy_LassoFinderModel_go prog_14_method_72_code 3 (some .int) :: zTB) { frames := 1, cells := 0, slots := 0, locals := 22 } (va_Pc [.ref (ad 0), .int a0] (zPre G K (wM ad K I J B D) sz)) (va_Qi (fun (r : Int32) (u : zS) => Post r u.1 u.2.1 u.2.2.1 u.2.2.2) (fun u t => zPost G K (va_A (wM ad K I J B D) sz) (wM ad K u.1 u.2.1 u.2.2.1 u.2.2.2) t) (va_A (wM ad K I J B D) sz)) 0 0 (va_A (wM ad K I J B D) sz) := by
  refine zMet (y := zy_LassoFinderModel_go) (av := [.ref (ad 0), .int a0]) (maxL := 3) (cc := prog_14_method_72_code) (ret := (some .int)) (W0 := (wM ad K I J B D)) (sz := sz) (G := G) (K := K) (wt := zTB) (mc := 0) (ms := 0) (Qf := fun A => va_Qi (fun (r : Int32) (u : zS) => Post r u.1 u.2.1 u.2.2.1 u.2.2.2) (fun u t => zPost G K A (wM ad K u.1 u.2.1 u.2.2.1 u.2.2.2) t) A) (by decide) (Nat.le_of_ble_eq_true rfl) ?_
  intro p e s m below meth c ls A hx hb hr hml hts hown hlocks hin hA hK H locs hw hsz hl
  clear hsz
  have hown : s.vm.findClass "LassoFinderModel" = some m.cls := hown
  have C : zCx p s m ([.ref (ad 0), .int a0] : List Value).toArray meth c A G K prog_14_method_72_code (some .int) 3 "LassoFinderModel" := ⟨hx, hb, hr, hml, hts, hown, hlocks, hA, hK⟩
  have hl : lv_has ls 3 [(0, .ref (ad 0)), (1, .int a0)] := hl
  have hw : zW G A s.heap (wM ad K I J B D) H locs := hw
  unfold wp_LassoFinderModel_go at hok
  refine lv_aload_n hx hb zd_LassoFinderModel_go_0 rfl (lv_at hl 0 rfl) ?_
  refine z_get (v := .int (I 26)) hx hb hts hown hK hw zZ12 0 wM_g0 82 (by decide) zm_331 rfl zd_LassoFinderModel_go_1 ?_
  refine lv_if_ge (tgt := 11) hx hb zd_LassoFinderModel_go_4 (by decide) (fun hc18 => ?_) (fun hc18 => ?_)
  · have hok := hok.1 hc18
    refine lv_aload_n hx hb zd_LassoFinderModel_go_11 rfl (lv_at hl 0 rfl) ?_
    refine z_get (v := .ref (ad 57)) hx hb hts hown hK hw zZ12 0 wM_g0 83 (by decide) zm_291 rfl zd_LassoFinderModel_go_12 ?_
    refine lv_aload_n hx hb zd_LassoFinderModel_go_15 rfl (lv_at hl 0 rfl) ?_
    refine z_get (v := .int (I 26)) hx hb hts hown hK hw zZ12 0 wM_g0 82 (by decide) zm_331 rfl zd_LassoFinderModel_go_16 ?_
    refine va_iald (f := (B 54)) hx hb hK hw.1 57 0 wM_a57 rfl hok.1 zd_LassoFinderModel_go_19 ?_
    have hok := hok.2
    refine lv_topi (fun z19 ez19 => ?_)
    have hok := hok z19 ez19
    exact wJ_LassoFinderModel_go_20 G K ad a0 Post C a0 z19 I J B D ls H locs hok (lv_sub hl [0, 1] rfl) hw
  · have hok := hok.2 hc18
    refine lv_iconst (v := 0) hx hb zd_LassoFinderModel_go_7 (by decide) ?_
    refine lv_goto (tgt := 20) hx hb zd_LassoFinderModel_go_8 (by decide) ?_
    exact wJ_LassoFinderModel_go_20 G K ad a0 Post C a0 0 I J B D ls H locs hok (lv_sub hl [0, 1] rfl) hw
def wc_LassoFinderModel_stood_42 (Post : Int32 → (Nat → Int32) → (Nat → Int64) → (Nat → Nat → Int32) → (Nat → Nat → Int64) → Prop) (y0 : Int32) (I : Nat → Int32) (J : Nat → Int64) (B : Nat → Nat → Int32) (D : Nat → Nat → Int64) : Prop :=
  (y0 = 0 ∨ y0 = 1) ∧ Post y0 I J B D
def wc_LassoFinderModel_stood_30 (Post : Int32 → (Nat → Int32) → (Nat → Int64) → (Nat → Nat → Int32) → (Nat → Nat → Int64) → Prop)  (I : Nat → Int32) (J : Nat → Int64) (B : Nat → Nat → Int32) (D : Nat → Nat → Int64) : Prop :=
  (((I 26) < 0 → wc_LassoFinderModel_stood_42  Post 0 I J B D) ∧ (¬ (I 26) < 0 → wc_LassoFinderModel_stood_42  Post 1 I J B D))
def wp_LassoFinderModel_stood (I : Nat → Int32) (J : Nat → Int64) (B : Nat → Nat → Int32) (D : Nat → Nat → Int64) (Post : Int32 → (Nat → Int32) → (Nat → Int64) → (Nat → Nat → Int32) → (Nat → Nat → Int64) → Prop) : Prop :=
  (((I 26) < 0 → wc_LassoFinderModel_stood_30  Post (upd I 0 0) J B D) ∧ (¬ (I 26) < 0 → vp_in (I 26) 61 ∧ ∀ z3 : Int32, z3 = ((B 54) (I 26).toNatClampNeg) → vp_in z3 97 ∧ ∀ z4 : Int64, z4 = ((D 1) z3.toNatClampNeg) → wp_LassoFinderModel_unpack (upd I 0 0) J B D z4 (fun I5 J5 B5 D5 => wc_LassoFinderModel_stood_30  Post I5 J5 B5 D5)))
set_option maxHeartbeats 8000000 in
set_option maxRecDepth 100000 in
theorem wJ_LassoFinderModel_stood_42 {p : Program} {l : Launch} {e : Env} {s : State} {m : MethodId} {below : List Frame} {meth : Method} {c : Code} {A : Nat → Prop} (G : va_G) (K : Nat → ClassId) (ad : Nat → Nat) (Post : Int32 → (Nat → Int32) → (Nat → Int64) → (Nat → Nat → Int32) → (Nat → Nat → Int64) → Prop) (C : zCx p s m ([.ref (ad 0)] : List Value).toArray meth c A G K prog_14_method_73_code (some .boolean) 1 "LassoFinderModel") : ∀ (y0 : Int32) (I : Nat → Int32) (J : Nat → Int64) (B : Nat → Nat → Int32) (D : Nat → Nat → Int64) (ls : Array Slot) (H : Heap) (locs : List Loc), wc_LassoFinderModel_stood_42  Post y0 I J B D → lv_has ls 1 [] → zW G A s.heap (wM ad K I J B D) H locs → W p l e { frames := 1, cells := 0, slots := 0, locals := 24 } s m ([.ref (ad 0)] : List Value).toArray below meth c H locs 0 0 (MQ below (va_Qi (fun (r : Int32) (u : zS) => Post r u.1 u.2.1 u.2.2.1 u.2.2.2) (fun u t => zPost G K A (wM ad K u.1 u.2.1 u.2.2.1 u.2.2.2) t) A) ([.ref (ad 0)] : List Value).toArray s 0 0 A) (F0 m 42 ls [.int y0]) := by
  obtain ⟨hx, hb, hr, hml, hts, hown, hlocks, hA, hK⟩ := id C
  intro y0 I J B D ls H locs hok hl hw
  unfold wc_LassoFinderModel_stood_42 at hok
  have hbo := hok.1
  have hok := hok.2
  exact (z_iret (u := (I, J, B, D)) hx hb hr hlocks (z_nar hbo) hw (List.range 58) wM_all wM_nd hok (Nat.le_of_ble_eq_true rfl) (Nat.le_of_ble_eq_true rfl) zd_LassoFinderModel_stood_42)
set_option maxHeartbeats 8000000 in
set_option maxRecDepth 100000 in
theorem wJ_LassoFinderModel_stood_30 {p : Program} {l : Launch} {e : Env} {s : State} {m : MethodId} {below : List Frame} {meth : Method} {c : Code} {A : Nat → Prop} (G : va_G) (K : Nat → ClassId) (ad : Nat → Nat) (Post : Int32 → (Nat → Int32) → (Nat → Int64) → (Nat → Nat → Int32) → (Nat → Nat → Int64) → Prop) (C : zCx p s m ([.ref (ad 0)] : List Value).toArray meth c A G K prog_14_method_73_code (some .boolean) 1 "LassoFinderModel") : ∀  (I : Nat → Int32) (J : Nat → Int64) (B : Nat → Nat → Int32) (D : Nat → Nat → Int64) (ls : Array Slot) (H : Heap) (locs : List Loc), wc_LassoFinderModel_stood_30  Post  I J B D → lv_has ls 1 [(0, .ref (ad 0))] → zW G A s.heap (wM ad K I J B D) H locs → W p l e { frames := 1, cells := 0, slots := 0, locals := 24 } s m ([.ref (ad 0)] : List Value).toArray below meth c H locs 0 0 (MQ below (va_Qi (fun (r : Int32) (u : zS) => Post r u.1 u.2.1 u.2.2.1 u.2.2.2) (fun u t => zPost G K A (wM ad K u.1 u.2.1 u.2.2.1 u.2.2.2) t) A) ([.ref (ad 0)] : List Value).toArray s 0 0 A) (F0 m 30 ls []) := by
  obtain ⟨hx, hb, hr, hml, hts, hown, hlocks, hA, hK⟩ := id C
  intro  I J B D ls H locs hok hl hw
  unfold wc_LassoFinderModel_stood_30 at hok
  refine lv_aload_n hx hb zd_LassoFinderModel_stood_30 rfl (lv_at hl 0 rfl) ?_
  refine z_get (v := .int (I 26)) hx hb hts hown hK hw zZ12 0 wM_g0 82 (by decide) zm_331 rfl zd_LassoFinderModel_stood_31 ?_
  refine lv_if_lt (tgt := 41) hx hb zd_LassoFinderModel_stood_34 (by decide) (fun hc1 => ?_) (fun hc1 => ?_)
  · have hok := hok.1 hc1
    refine lv_iconst (v := 0) hx hb zd_LassoFinderModel_stood_41 (by decide) ?_
    exact wJ_LassoFinderModel_stood_42 G K ad  Post C 0 I J B D ls H locs hok (lv_sub hl [] rfl) hw
  · have hok := hok.2 hc1
    refine lv_iconst (v := 1) hx hb zd_LassoFinderModel_stood_37 (by decide) ?_
    refine lv_goto (tgt := 42) hx hb zd_LassoFinderModel_stood_38 (by decide) ?_
    exact wJ_LassoFinderModel_stood_42 G K ad  Post C 1 I J B D ls H locs hok (lv_sub hl [] rfl) hw
set_option maxHeartbeats 8000000 in
set_option maxRecDepth 100000 in
theorem w_LassoFinderModel_stood (l : Launch) (G : va_G) (K : Nat → ClassId) (ad : Nat → Nat) (I : Nat → Int32) (J : Nat → Int64) (B : Nat → Nat → Int32) (D : Nat → Nat → Int64) (Post : Int32 → (Nat → Int32) → (Nat → Int64) → (Nat → Nat → Int32) → (Nat → Nat → Int64) → Prop) (sz : Nat) (hok : wp_LassoFinderModel_stood I J B D  Post) : Met l zy_LassoFinderModel_stood (Cond.code zy_LassoFinderModel_stood prog_14_method_73_code 1 (some .boolean) :: zTB) { frames := 1, cells := 0, slots := 0, locals := 24 } (va_Pc [.ref (ad 0)] (zPre G K (wM ad K I J B D) sz)) (va_Qi (fun (r : Int32) (u : zS) => Post r u.1 u.2.1 u.2.2.1 u.2.2.2) (fun u t => zPost G K (va_A (wM ad K I J B D) sz) (wM ad K u.1 u.2.1 u.2.2.1 u.2.2.2) t) (va_A (wM ad K I J B D) sz)) 0 0 (va_A (wM ad K I J B D) sz) := by
  refine zMet (y := zy_LassoFinderModel_stood) (av := [.ref (ad 0)]) (maxL := 1) (cc := prog_14_method_73_code) (ret := (some .boolean)) (W0 := (wM ad K I J B D)) (sz := sz) (G := G) (K := K) (wt := zTB) (mc := 0) (ms := 0) (Qf := fun A => va_Qi (fun (r : Int32) (u : zS) => Post r u.1 u.2.1 u.2.2.1 u.2.2.2) (fun u t => zPost G K A (wM ad K u.1 u.2.1 u.2.2.1 u.2.2.2) t) A) (by decide) (Nat.le_of_ble_eq_true rfl) ?_
  intro p e s m below meth c ls A hx hb hr hml hts hown hlocks hin hA hK H locs hw hsz hl
  clear hsz
  have hown : s.vm.findClass "LassoFinderModel" = some m.cls := hown
  have C : zCx p s m ([.ref (ad 0)] : List Value).toArray meth c A G K prog_14_method_73_code (some .boolean) 1 "LassoFinderModel" := ⟨hx, hb, hr, hml, hts, hown, hlocks, hA, hK⟩
  have hl : lv_has ls 1 [(0, .ref (ad 0))] := hl
  have hw : zW G A s.heap (wM ad K I J B D) H locs := hw
  unfold wp_LassoFinderModel_stood at hok
  refine lv_aload_n hx hb zd_LassoFinderModel_stood_0 rfl (lv_at hl 0 rfl) ?_
  refine lv_iconst (v := 0) hx hb zd_LassoFinderModel_stood_1 (by decide) ?_
  refine z_put (v := .int 0) hx hb hts hown hK hw zZ12 0 wM_g0 0 (by decide) zm_292 rfl rfl rfl (Nat.le_of_ble_eq_true rfl) zd_LassoFinderModel_stood_2 (fun H locs hw => ?_)
  have hw := wM_sI0 hw
  refine lv_aload_n hx hb zd_LassoFinderModel_stood_5 rfl (lv_at hl 0 rfl) ?_
  refine z_get (v := .int (I 26)) hx hb hts hown hK hw zZ12 0 wM_g0 82 (by decide) zm_331 rfl zd_LassoFinderModel_stood_6 ?_
  refine lv_if_lt (tgt := 30) hx hb zd_LassoFinderModel_stood_9 (by decide) (fun hc2 => ?_) (fun hc2 => ?_)
  · have hok := hok.1 hc2
    exact wJ_LassoFinderModel_stood_30 G K ad  Post C (upd I 0 0) J B D ls H locs hok (lv_sub hl [0] rfl) hw
  · have hok := hok.2 hc2
    refine lv_aload_n hx hb zd_LassoFinderModel_stood_12 rfl (lv_at hl 0 rfl) ?_
    refine lv_aload_n hx hb zd_LassoFinderModel_stood_13 rfl (lv_at hl 0 rfl) ?_
    refine z_get (v := .ref (ad 31)) hx hb hts hown hK hw zZ12 0 wM_g0 47 (by decide) zm_265 rfl zd_LassoFinderModel_stood_14 ?_
    refine lv_aload_n hx hb zd_LassoFinderModel_stood_17 rfl (lv_at hl 0 rfl) ?_
    refine z_get (v := .ref (ad 57)) hx hb hts hown hK hw zZ12 0 wM_g0 83 (by decide) zm_291 rfl zd_LassoFinderModel_stood_18 ?_
    refine lv_aload_n hx hb zd_LassoFinderModel_stood_21 rfl (lv_at hl 0 rfl) ?_
    refine z_get (v := .int (I 26)) hx hb hts hown hK hw zZ12 0 wM_g0 82 (by decide) zm_331 rfl zd_LassoFinderModel_stood_22 ?_
    refine va_iald (f := (B 54)) hx hb hK hw.1 57 0 wM_a57 rfl hok.1 zd_LassoFinderModel_stood_25 ?_
    have hok := hok.2
    refine lv_topi (fun z3 ez3 => ?_)
    have hok := hok z3 ez3
    refine va_lald (f := (D 1)) hx hb hK hw.1 31 1 wM_a31 rfl hok.1 zd_LassoFinderModel_stood_26 ?_
    have hok := hok.2
    refine lv_topl (fun z4 ez4 => ?_)
    have hok := hok z4 ez4
    refine z_callv (w1 := fun (u : zS) => wM ad K u.1 u.2.1 u.2.2.1 u.2.2.2) (wr := []) (z_runV (q0 := 0) (wc := (wM ad K (upd I 0 0) J B D)) (As := [.long z4]) (rest := []) ⟨hx, hb, hml, hown, hts⟩ (w_LassoFinderModel_unpack l G K ad (upd I 0 0) J B D z4 _ H.size hok) zf_LassoFinderModel_unpack zm_315 ⟨Nat.le_of_ble_eq_true rfl, Nat.le_of_ble_eq_true rfl⟩ hK hw (List.range 58) wM_all wM_nd wM_g0 rfl rfl hl.1 rfl (Nat.le_of_ble_eq_true rfl) zd_LassoFinderModel_stood_27 ⟨Nat.le_of_ble_eq_true rfl, Nat.le_of_ble_eq_true rfl⟩) hw hA (List.range 58) [] wM_all rfl (by decide) (fun i hi => by cases hi) (fun u H locs hok hw => ?_)
    obtain ⟨I5, J5, B5, D5⟩ := u
    dsimp only at hok
    have hw : zW G A s.heap (wM ad K I5 J5 B5 D5) H locs := hw
    exact wJ_LassoFinderModel_stood_30 G K ad  Post C I5 J5 B5 D5 ls H locs hok (lv_sub hl [0] rfl) hw
def wc_LassoFinderModel_value_17 (a0 : Int32) (Post : Int32 → (Nat → Int32) → (Nat → Int64) → (Nat → Nat → Int32) → (Nat → Nat → Int64) → Prop)  (I : Nat → Int32) (J : Nat → Int64) (B : Nat → Nat → Int32) (D : Nat → Nat → Int64) : Prop :=
  Post (-1) I J B D
def wc_LassoFinderModel_value_66 (a0 : Int32) (Post : Int32 → (Nat → Int32) → (Nat → Int64) → (Nat → Nat → Int32) → (Nat → Nat → Int64) → Prop) (y0 : Int32) (I : Nat → Int32) (J : Nat → Int64) (B : Nat → Nat → Int32) (D : Nat → Nat → Int64) : Prop :=
  Post y0 I J B D
def wp_LassoFinderModel_value (I : Nat → Int32) (J : Nat → Int64) (B : Nat → Nat → Int32) (D : Nat → Nat → Int64) (a0 : Int32) (Post : Int32 → (Nat → Int32) → (Nat → Int64) → (Nat → Nat → Int32) → (Nat → Nat → Int64) → Prop) : Prop :=
  wp_LassoFinderModel_stood I J B D  (fun r1 I1 J1 B1 D1 => ((r1 = 0 → wc_LassoFinderModel_value_17 a0 Post I1 J1 B1 D1) ∧ (¬ r1 = 0 → wp_LassoFinderModel_in I1 J1 B1 D1 a0 0 7 (fun r3 I3 J3 B3 D3 => ((¬ r3 = 0 → vp_in a0 8 ∧ ∀ z5 : Int32, z5 = ((B3 1) a0.toNatClampNeg) → ((z5 < 0 → vp_in a0 8 ∧ ∀ z7 : Int32, z7 = ((B3 2) a0.toNatClampNeg) → ((z7 < 0 → wc_LassoFinderModel_value_66 a0 Post (-1) I3 J3 B3 D3) ∧ (¬ z7 < 0 → vp_in a0 8 ∧ ∀ z9 : Int32, z9 = ((B3 2) a0.toNatClampNeg) → vp_in z9 2 ∧ ∀ z10 : Int32, z10 = ((B3 37) z9.toNatClampNeg) → wc_LassoFinderModel_value_66 a0 Post z10 I3 J3 B3 D3))) ∧ (¬ z5 < 0 → vp_in a0 8 ∧ ∀ z11 : Int32, z11 = ((B3 1) a0.toNatClampNeg) → vp_in z11 6 ∧ ∀ z12 : Int32, z12 = ((B3 36) z11.toNatClampNeg) → wc_LassoFinderModel_value_66 a0 Post z12 I3 J3 B3 D3))) ∧ (r3 = 0 → wc_LassoFinderModel_value_17 a0 Post I3 J3 B3 D3))))))
set_option maxHeartbeats 8000000 in
set_option maxRecDepth 100000 in
theorem wJ_LassoFinderModel_value_17 {p : Program} {l : Launch} {e : Env} {s : State} {m : MethodId} {below : List Frame} {meth : Method} {c : Code} {A : Nat → Prop} (G : va_G) (K : Nat → ClassId) (ad : Nat → Nat) (a0 : Int32) (Post : Int32 → (Nat → Int32) → (Nat → Int64) → (Nat → Nat → Int32) → (Nat → Nat → Int64) → Prop) (C : zCx p s m ([.ref (ad 0), .int a0] : List Value).toArray meth c A G K prog_14_method_74_code (some .int) 2 "LassoFinderModel") : ∀  (I : Nat → Int32) (J : Nat → Int64) (B : Nat → Nat → Int32) (D : Nat → Nat → Int64) (ls : Array Slot) (H : Heap) (locs : List Loc), wc_LassoFinderModel_value_17 a0 Post  I J B D → lv_has ls 2 [] → zW G A s.heap (wM ad K I J B D) H locs → W p l e { frames := 2, cells := 0, slots := 0, locals := 44 } s m ([.ref (ad 0), .int a0] : List Value).toArray below meth c H locs 0 0 (MQ below (va_Qi (fun (r : Int32) (u : zS) => Post r u.1 u.2.1 u.2.2.1 u.2.2.2) (fun u t => zPost G K A (wM ad K u.1 u.2.1 u.2.2.1 u.2.2.2) t) A) ([.ref (ad 0), .int a0] : List Value).toArray s 0 0 A) (F0 m 17 ls []) := by
  obtain ⟨hx, hb, hr, hml, hts, hown, hlocks, hA, hK⟩ := id C
  intro  I J B D ls H locs hok hl hw
  unfold wc_LassoFinderModel_value_17 at hok
  refine lv_iconst (v := (-1)) hx hb zd_LassoFinderModel_value_17 (by decide) ?_
  exact (z_iret (u := (I, J, B, D)) hx hb hr hlocks rfl hw (List.range 58) wM_all wM_nd hok (Nat.le_of_ble_eq_true rfl) (Nat.le_of_ble_eq_true rfl) zd_LassoFinderModel_value_18)
set_option maxHeartbeats 8000000 in
set_option maxRecDepth 100000 in
theorem wJ_LassoFinderModel_value_66 {p : Program} {l : Launch} {e : Env} {s : State} {m : MethodId} {below : List Frame} {meth : Method} {c : Code} {A : Nat → Prop} (G : va_G) (K : Nat → ClassId) (ad : Nat → Nat) (a0 : Int32) (Post : Int32 → (Nat → Int32) → (Nat → Int64) → (Nat → Nat → Int32) → (Nat → Nat → Int64) → Prop) (C : zCx p s m ([.ref (ad 0), .int a0] : List Value).toArray meth c A G K prog_14_method_74_code (some .int) 2 "LassoFinderModel") : ∀ (y0 : Int32) (I : Nat → Int32) (J : Nat → Int64) (B : Nat → Nat → Int32) (D : Nat → Nat → Int64) (ls : Array Slot) (H : Heap) (locs : List Loc), wc_LassoFinderModel_value_66 a0 Post y0 I J B D → lv_has ls 2 [] → zW G A s.heap (wM ad K I J B D) H locs → W p l e { frames := 2, cells := 0, slots := 0, locals := 44 } s m ([.ref (ad 0), .int a0] : List Value).toArray below meth c H locs 0 0 (MQ below (va_Qi (fun (r : Int32) (u : zS) => Post r u.1 u.2.1 u.2.2.1 u.2.2.2) (fun u t => zPost G K A (wM ad K u.1 u.2.1 u.2.2.1 u.2.2.2) t) A) ([.ref (ad 0), .int a0] : List Value).toArray s 0 0 A) (F0 m 66 ls [.int y0]) := by
  obtain ⟨hx, hb, hr, hml, hts, hown, hlocks, hA, hK⟩ := id C
  intro y0 I J B D ls H locs hok hl hw
  unfold wc_LassoFinderModel_value_66 at hok
  exact (z_iret (u := (I, J, B, D)) hx hb hr hlocks rfl hw (List.range 58) wM_all wM_nd hok (Nat.le_of_ble_eq_true rfl) (Nat.le_of_ble_eq_true rfl) zd_LassoFinderModel_value_66)
set_option maxHeartbeats 8000000 in
set_option maxRecDepth 100000 in
theorem w_LassoFinderModel_value (l : Launch) (G : va_G) (K : Nat → ClassId) (ad : Nat → Nat) (I : Nat → Int32) (J : Nat → Int64) (B : Nat → Nat → Int32) (D : Nat → Nat → Int64) (a0 : Int32) (Post : Int32 → (Nat → Int32) → (Nat → Int64) → (Nat → Nat → Int32) → (Nat → Nat → Int64) → Prop) (sz : Nat) (hok : wp_LassoFinderModel_value I J B D a0 Post) : Met l zy_LassoFinderModel_value (Cond.code zy_LassoFinderModel_value prog_14_method_74_code 2 (some .int) :: zTB) { frames := 2, cells := 0, slots := 0, locals := 44 } (va_Pc [.ref (ad 0), .int a0] (zPre G K (wM ad K I J B D) sz)) (va_Qi (fun (r : Int32) (u : zS) => Post r u.1 u.2.1 u.2.2.1 u.2.2.2) (fun u t => zPost G K (va_A (wM ad K I J B D) sz) (wM ad K u.1 u.2.1 u.2.2.1 u.2.2.2) t) (va_A (wM ad K I J B D) sz)) 0 0 (va_A (wM ad K I J B D) sz) := by
  refine zMet (y := zy_LassoFinderModel_value) (av := [.ref (ad 0), .int a0]) (maxL := 2) (cc := prog_14_method_74_code) (ret := (some .int)) (W0 := (wM ad K I J B D)) (sz := sz) (G := G) (K := K) (wt := zTB) (mc := 0) (ms := 0) (Qf := fun A => va_Qi (fun (r : Int32) (u : zS) => Post r u.1 u.2.1 u.2.2.1 u.2.2.2) (fun u t => zPost G K A (wM ad K u.1 u.2.1 u.2.2.1 u.2.2.2) t) A) (by decide) (Nat.le_of_ble_eq_true rfl) ?_
  intro p e s m below meth c ls A hx hb hr hml hts hown hlocks hin hA hK H locs hw hsz hl
  clear hsz
  have hown : s.vm.findClass "LassoFinderModel" = some m.cls := hown
  have C : zCx p s m ([.ref (ad 0), .int a0] : List Value).toArray meth c A G K prog_14_method_74_code (some .int) 2 "LassoFinderModel" := ⟨hx, hb, hr, hml, hts, hown, hlocks, hA, hK⟩
  have hl : lv_has ls 2 [(0, .ref (ad 0)), (1, .int a0)] := hl
  have hw : zW G A s.heap (wM ad K I J B D) H locs := hw
  unfold wp_LassoFinderModel_value at hok
  refine lv_aload_n hx hb zd_LassoFinderModel_value_0 rfl (lv_at hl 0 rfl) ?_
  refine z_calli (w1 := fun (u : zS) => wM ad K u.1 u.2.1 u.2.2.1 u.2.2.2) (wr := []) (z_runV (q0 := 0) (wc := (wM ad K I J B D)) (As := []) (rest := []) ⟨hx, hb, hml, hown, hts⟩ (w_LassoFinderModel_stood l G K ad I J B D  _ H.size hok) zf_LassoFinderModel_stood zm_381 ⟨Nat.le_of_ble_eq_true rfl, Nat.le_of_ble_eq_true rfl⟩ hK hw (List.range 58) wM_all wM_nd wM_g0 rfl rfl hl.1 rfl (Nat.le_of_ble_eq_true rfl) zd_LassoFinderModel_value_1 ⟨Nat.le_of_ble_eq_true rfl, Nat.le_of_ble_eq_true rfl⟩) hw hA (List.range 58) [] wM_all rfl (by decide) (fun i hi => by cases hi) (fun r1 u H locs hok hw => ?_)
  obtain ⟨I1, J1, B1, D1⟩ := u
  dsimp only at hok
  have hw : zW G A s.heap (wM ad K I1 J1 B1 D1) H locs := hw
  refine lv_if_eq (tgt := 17) hx hb zd_LassoFinderModel_value_4 (by decide) (fun hc2 => ?_) (fun hc2 => ?_)
  · have hok := hok.1 hc2
    exact wJ_LassoFinderModel_value_17 G K ad a0 Post C I1 J1 B1 D1 ls H locs hok (lv_sub hl [] rfl) hw
  · have hok := hok.2 hc2
    refine lv_iload_n hx hb zd_LassoFinderModel_value_7 rfl (lv_at hl 1 rfl) ?_
    refine lv_iconst (v := 0) hx hb zd_LassoFinderModel_value_8 (by decide) ?_
    refine lv_bipush (v := 7) hx hb zd_LassoFinderModel_value_9 (by decide) ?_
    refine z_calli (w1 := fun (u : zS) => wM ad K u.1 u.2.1 u.2.2.1 u.2.2.2) (wr := []) (z_runS (wc := (wM ad K I1 J1 B1 D1)) (As := [.int a0, .int 0, .int 7]) (rest := []) ⟨hx, hb, hml, hown, hts⟩ (w_LassoFinderModel_in l G K ad I1 J1 B1 D1 a0 0 7 _ H.size hok) zf_LassoFinderModel_in zm_293 ⟨Nat.le_of_ble_eq_true rfl, Nat.le_of_ble_eq_true rfl⟩ hK hw (List.range 58) wM_all wM_nd rfl hl.1 rfl (Nat.le_of_ble_eq_true rfl) zd_LassoFinderModel_value_11 ⟨Nat.le_of_ble_eq_true rfl, Nat.le_of_ble_eq_true rfl⟩) hw hA (List.range 58) [] wM_all rfl (by decide) (fun i hi => by cases hi) (fun r3 u H locs hok hw => ?_)
    obtain ⟨I3, J3, B3, D3⟩ := u
    dsimp only at hok
    have hw : zW G A s.heap (wM ad K I3 J3 B3 D3) H locs := hw
    refine lv_if_ne (tgt := 19) hx hb zd_LassoFinderModel_value_14 (by decide) (fun hc4 => ?_) (fun hc4 => ?_)
    · have hok := hok.1 hc4
      refine lv_aload_n hx hb zd_LassoFinderModel_value_19 rfl (lv_at hl 0 rfl) ?_
      refine z_get (v := .ref (ad 2)) hx hb hts hown hK hw zZ12 0 wM_g0 9 (by decide) zm_236 rfl zd_LassoFinderModel_value_20 ?_
      refine lv_iload_n hx hb zd_LassoFinderModel_value_23 rfl (lv_at hl 1 rfl) ?_
      refine va_iald (f := (B3 1)) hx hb hK hw.1 2 0 wM_a2 rfl hok.1 zd_LassoFinderModel_value_24 ?_
      have hok := hok.2
      refine lv_topi (fun z5 ez5 => ?_)
      have hok := hok z5 ez5
      refine lv_if_lt (tgt := 42) hx hb zd_LassoFinderModel_value_25 (by decide) (fun hc6 => ?_) (fun hc6 => ?_)
      · have hok := hok.1 hc6
        refine lv_aload_n hx hb zd_LassoFinderModel_value_42 rfl (lv_at hl 0 rfl) ?_
        refine z_get (v := .ref (ad 3)) hx hb hts hown hK hw zZ12 0 wM_g0 10 (by decide) zm_237 rfl zd_LassoFinderModel_value_43 ?_
        refine lv_iload_n hx hb zd_LassoFinderModel_value_46 rfl (lv_at hl 1 rfl) ?_
        refine va_iald (f := (B3 2)) hx hb hK hw.1 3 0 wM_a3 rfl hok.1 zd_LassoFinderModel_value_47 ?_
        have hok := hok.2
        refine lv_topi (fun z7 ez7 => ?_)
        have hok := hok z7 ez7
        refine lv_if_lt (tgt := 65) hx hb zd_LassoFinderModel_value_48 (by decide) (fun hc8 => ?_) (fun hc8 => ?_)
        · have hok := hok.1 hc8
          refine lv_iconst (v := (-1)) hx hb zd_LassoFinderModel_value_65 (by decide) ?_
          exact wJ_LassoFinderModel_value_66 G K ad a0 Post C (-1) I3 J3 B3 D3 ls H locs hok (lv_sub hl [] rfl) hw
        · have hok := hok.2 hc8
          refine lv_aload_n hx hb zd_LassoFinderModel_value_51 rfl (lv_at hl 0 rfl) ?_
          refine z_get (v := .ref (ad 40)) hx hb hts hown hK hw zZ12 0 wM_g0 56 (by decide) zm_274 rfl zd_LassoFinderModel_value_52 ?_
          refine lv_aload_n hx hb zd_LassoFinderModel_value_55 rfl (lv_at hl 0 rfl) ?_
          refine z_get (v := .ref (ad 3)) hx hb hts hown hK hw zZ12 0 wM_g0 10 (by decide) zm_237 rfl zd_LassoFinderModel_value_56 ?_
          refine lv_iload_n hx hb zd_LassoFinderModel_value_59 rfl (lv_at hl 1 rfl) ?_
          refine va_iald (f := (B3 2)) hx hb hK hw.1 3 0 wM_a3 rfl hok.1 zd_LassoFinderModel_value_60 ?_
          have hok := hok.2
          refine lv_topi (fun z9 ez9 => ?_)
          have hok := hok z9 ez9
          refine va_iald (f := (B3 37)) hx hb hK hw.1 40 0 wM_a40 rfl hok.1 zd_LassoFinderModel_value_61 ?_
          have hok := hok.2
          refine lv_topi (fun z10 ez10 => ?_)
          have hok := hok z10 ez10
          refine lv_goto (tgt := 66) hx hb zd_LassoFinderModel_value_62 (by decide) ?_
          exact wJ_LassoFinderModel_value_66 G K ad a0 Post C z10 I3 J3 B3 D3 ls H locs hok (lv_sub hl [] rfl) hw
      · have hok := hok.2 hc6
        refine lv_aload_n hx hb zd_LassoFinderModel_value_28 rfl (lv_at hl 0 rfl) ?_
        refine z_get (v := .ref (ad 39)) hx hb hts hown hK hw zZ12 0 wM_g0 55 (by decide) zm_273 rfl zd_LassoFinderModel_value_29 ?_
        refine lv_aload_n hx hb zd_LassoFinderModel_value_32 rfl (lv_at hl 0 rfl) ?_
        refine z_get (v := .ref (ad 2)) hx hb hts hown hK hw zZ12 0 wM_g0 9 (by decide) zm_236 rfl zd_LassoFinderModel_value_33 ?_
        refine lv_iload_n hx hb zd_LassoFinderModel_value_36 rfl (lv_at hl 1 rfl) ?_
        refine va_iald (f := (B3 1)) hx hb hK hw.1 2 0 wM_a2 rfl hok.1 zd_LassoFinderModel_value_37 ?_
        have hok := hok.2
        refine lv_topi (fun z11 ez11 => ?_)
        have hok := hok z11 ez11
        refine va_iald (f := (B3 36)) hx hb hK hw.1 39 0 wM_a39 rfl hok.1 zd_LassoFinderModel_value_38 ?_
        have hok := hok.2
        refine lv_topi (fun z12 ez12 => ?_)
        have hok := hok z12 ez12
        refine lv_goto (tgt := 66) hx hb zd_LassoFinderModel_value_39 (by decide) ?_
        exact wJ_LassoFinderModel_value_66 G K ad a0 Post C z12 I3 J3 B3 D3 ls H locs hok (lv_sub hl [] rfl) hw
    · have hok := hok.2 hc4
      exact wJ_LassoFinderModel_value_17 G K ad a0 Post C I3 J3 B3 D3 ls H locs hok (lv_sub hl [] rfl) hw
def wc_LassoFinderModel_message_47 (a0 : Int32) (a1 : Int32) (Post : Int32 → (Nat → Int32) → (Nat → Int64) → (Nat → Nat → Int32) → (Nat → Nat → Int64) → Prop)  (I : Nat → Int32) (J : Nat → Int64) (B : Nat → Nat → Int32) (D : Nat → Nat → Int64) : Prop :=
  Post (-1) I J B D
def wp_LassoFinderModel_message (I : Nat → Int32) (J : Nat → Int64) (B : Nat → Nat → Int32) (D : Nat → Nat → Int64) (a0 : Int32) (a1 : Int32) (Post : Int32 → (Nat → Int32) → (Nat → Int64) → (Nat → Nat → Int32) → (Nat → Nat → Int64) → Prop) : Prop :=
  wp_LassoFinderModel_stood I J B D  (fun r1 I1 J1 B1 D1 => ((r1 = 0 → wc_LassoFinderModel_message_47 a0 a1 Post I1 J1 B1 D1) ∧ (¬ r1 = 0 → wp_LassoFinderModel_in I1 J1 B1 D1 a0 0 7 (fun r3 I3 J3 B3 D3 => ((r3 = 0 → wc_LassoFinderModel_message_47 a0 a1 Post I3 J3 B3 D3) ∧ (¬ r3 = 0 → vp_in a0 8 ∧ ∀ z5 : Int32, z5 = ((B3 2) a0.toNatClampNeg) → ((z5 < 0 → wc_LassoFinderModel_message_47 a0 a1 Post I3 J3 B3 D3) ∧ (¬ z5 < 0 → vp_in a0 8 ∧ ∀ z7 : Int32, z7 = ((B3 2) a0.toNatClampNeg) → vp_in z7 2 ∧ ∀ z8 : Int32, z8 = ((B3 37) z7.toNatClampNeg) → ∀ z9 : Int32, z9 = (z8 - 1) → wp_LassoFinderModel_in I3 J3 B3 D3 a1 0 z9 (fun r10 I10 J10 B10 D10 => ((¬ r10 = 0 → vp_in a0 8 ∧ ∀ z12 : Int32, z12 = ((B10 2) a0.toNatClampNeg) → ∀ z13 : Int32, z13 = (3 * z12) → ∀ z14 : Int32, z14 = (z13 + a1) → vp_in z14 6 ∧ ∀ z15 : Int32, z15 = ((B10 38) z14.toNatClampNeg) → Post z15 I10 J10 B10 D10) ∧ (r10 = 0 → wc_LassoFinderModel_message_47 a0 a1 Post I10 J10 B10 D10)))))))))))
set_option maxHeartbeats 8000000 in
set_option maxRecDepth 100000 in
theorem wJ_LassoFinderModel_message_47 {p : Program} {l : Launch} {e : Env} {s : State} {m : MethodId} {below : List Frame} {meth : Method} {c : Code} {A : Nat → Prop} (G : va_G) (K : Nat → ClassId) (ad : Nat → Nat) (a0 : Int32) (a1 : Int32) (Post : Int32 → (Nat → Int32) → (Nat → Int64) → (Nat → Nat → Int32) → (Nat → Nat → Int64) → Prop) (C : zCx p s m ([.ref (ad 0), .int a0, .int a1] : List Value).toArray meth c A G K prog_14_method_75_code (some .int) 3 "LassoFinderModel") : ∀  (I : Nat → Int32) (J : Nat → Int64) (B : Nat → Nat → Int32) (D : Nat → Nat → Int64) (ls : Array Slot) (H : Heap) (locs : List Loc), wc_LassoFinderModel_message_47 a0 a1 Post  I J B D → lv_has ls 3 [] → zW G A s.heap (wM ad K I J B D) H locs → W p l e { frames := 2, cells := 0, slots := 0, locals := 44 } s m ([.ref (ad 0), .int a0, .int a1] : List Value).toArray below meth c H locs 0 0 (MQ below (va_Qi (fun (r : Int32) (u : zS) => Post r u.1 u.2.1 u.2.2.1 u.2.2.2) (fun u t => zPost G K A (wM ad K u.1 u.2.1 u.2.2.1 u.2.2.2) t) A) ([.ref (ad 0), .int a0, .int a1] : List Value).toArray s 0 0 A) (F0 m 47 ls []) := by
  obtain ⟨hx, hb, hr, hml, hts, hown, hlocks, hA, hK⟩ := id C
  intro  I J B D ls H locs hok hl hw
  unfold wc_LassoFinderModel_message_47 at hok
  refine lv_iconst (v := (-1)) hx hb zd_LassoFinderModel_message_47 (by decide) ?_
  exact (z_iret (u := (I, J, B, D)) hx hb hr hlocks rfl hw (List.range 58) wM_all wM_nd hok (Nat.le_of_ble_eq_true rfl) (Nat.le_of_ble_eq_true rfl) zd_LassoFinderModel_message_48)
set_option maxHeartbeats 8000000 in
set_option maxRecDepth 100000 in
theorem w_LassoFinderModel_message (l : Launch) (G : va_G) (K : Nat → ClassId) (ad : Nat → Nat) (I : Nat → Int32) (J : Nat → Int64) (B : Nat → Nat → Int32) (D : Nat → Nat → Int64) (a0 : Int32) (a1 : Int32) (Post : Int32 → (Nat → Int32) → (Nat → Int64) → (Nat → Nat → Int32) → (Nat → Nat → Int64) → Prop) (sz : Nat) (hok : wp_LassoFinderModel_message I J B D a0 a1 Post) : Met l zy_LassoFinderModel_message (Cond.code zy_LassoFinderModel_message prog_14_method_75_code 3 (some .int) :: zTB) { frames := 2, cells := 0, slots := 0, locals := 44 } (va_Pc [.ref (ad 0), .int a0, .int a1] (zPre G K (wM ad K I J B D) sz)) (va_Qi (fun (r : Int32) (u : zS) => Post r u.1 u.2.1 u.2.2.1 u.2.2.2) (fun u t => zPost G K (va_A (wM ad K I J B D) sz) (wM ad K u.1 u.2.1 u.2.2.1 u.2.2.2) t) (va_A (wM ad K I J B D) sz)) 0 0 (va_A (wM ad K I J B D) sz) := by
  refine zMet (y := zy_LassoFinderModel_message) (av := [.ref (ad 0), .int a0, .int a1]) (maxL := 3) (cc := prog_14_method_75_code) (ret := (some .int)) (W0 := (wM ad K I J B D)) (sz := sz) (G := G) (K := K) (wt := zTB) (mc := 0) (ms := 0) (Qf := fun A => va_Qi (fun (r : Int32) (u : zS) => Post r u.1 u.2.1 u.2.2.1 u.2.2.2) (fun u t => zPost G K A (wM ad K u.1 u.2.1 u.2.2.1 u.2.2.2) t) A) (by decide) (Nat.le_of_ble_eq_true rfl) ?_
  intro p e s m below meth c ls A hx hb hr hml hts hown hlocks hin hA hK H locs hw hsz hl
  clear hsz
  have hown : s.vm.findClass "LassoFinderModel" = some m.cls := hown
  have C : zCx p s m ([.ref (ad 0), .int a0, .int a1] : List Value).toArray meth c A G K prog_14_method_75_code (some .int) 3 "LassoFinderModel" := ⟨hx, hb, hr, hml, hts, hown, hlocks, hA, hK⟩
  have hl : lv_has ls 3 [(0, .ref (ad 0)), (1, .int a0), (2, .int a1)] := hl
  have hw : zW G A s.heap (wM ad K I J B D) H locs := hw
  unfold wp_LassoFinderModel_message at hok
  refine lv_aload_n hx hb zd_LassoFinderModel_message_0 rfl (lv_at hl 0 rfl) ?_
  refine z_calli (w1 := fun (u : zS) => wM ad K u.1 u.2.1 u.2.2.1 u.2.2.2) (wr := []) (z_runV (q0 := 0) (wc := (wM ad K I J B D)) (As := []) (rest := []) ⟨hx, hb, hml, hown, hts⟩ (w_LassoFinderModel_stood l G K ad I J B D  _ H.size hok) zf_LassoFinderModel_stood zm_381 ⟨Nat.le_of_ble_eq_true rfl, Nat.le_of_ble_eq_true rfl⟩ hK hw (List.range 58) wM_all wM_nd wM_g0 rfl rfl hl.1 rfl (Nat.le_of_ble_eq_true rfl) zd_LassoFinderModel_message_1 ⟨Nat.le_of_ble_eq_true rfl, Nat.le_of_ble_eq_true rfl⟩) hw hA (List.range 58) [] wM_all rfl (by decide) (fun i hi => by cases hi) (fun r1 u H locs hok hw => ?_)
  obtain ⟨I1, J1, B1, D1⟩ := u
  dsimp only at hok
  have hw : zW G A s.heap (wM ad K I1 J1 B1 D1) H locs := hw
  refine lv_if_eq (tgt := 47) hx hb zd_LassoFinderModel_message_4 (by decide) (fun hc2 => ?_) (fun hc2 => ?_)
  · have hok := hok.1 hc2
    exact wJ_LassoFinderModel_message_47 G K ad a0 a1 Post C I1 J1 B1 D1 ls H locs hok (lv_sub hl [] rfl) hw
  · have hok := hok.2 hc2
    refine lv_iload_n hx hb zd_LassoFinderModel_message_7 rfl (lv_at hl 1 rfl) ?_
    refine lv_iconst (v := 0) hx hb zd_LassoFinderModel_message_8 (by decide) ?_
    refine lv_bipush (v := 7) hx hb zd_LassoFinderModel_message_9 (by decide) ?_
    refine z_calli (w1 := fun (u : zS) => wM ad K u.1 u.2.1 u.2.2.1 u.2.2.2) (wr := []) (z_runS (wc := (wM ad K I1 J1 B1 D1)) (As := [.int a0, .int 0, .int 7]) (rest := []) ⟨hx, hb, hml, hown, hts⟩ (w_LassoFinderModel_in l G K ad I1 J1 B1 D1 a0 0 7 _ H.size hok) zf_LassoFinderModel_in zm_293 ⟨Nat.le_of_ble_eq_true rfl, Nat.le_of_ble_eq_true rfl⟩ hK hw (List.range 58) wM_all wM_nd rfl hl.1 rfl (Nat.le_of_ble_eq_true rfl) zd_LassoFinderModel_message_11 ⟨Nat.le_of_ble_eq_true rfl, Nat.le_of_ble_eq_true rfl⟩) hw hA (List.range 58) [] wM_all rfl (by decide) (fun i hi => by cases hi) (fun r3 u H locs hok hw => ?_)
    obtain ⟨I3, J3, B3, D3⟩ := u
    dsimp only at hok
    have hw : zW G A s.heap (wM ad K I3 J3 B3 D3) H locs := hw
    refine lv_if_eq (tgt := 47) hx hb zd_LassoFinderModel_message_14 (by decide) (fun hc4 => ?_) (fun hc4 => ?_)
    · have hok := hok.1 hc4
      exact wJ_LassoFinderModel_message_47 G K ad a0 a1 Post C I3 J3 B3 D3 ls H locs hok (lv_sub hl [] rfl) hw
    · have hok := hok.2 hc4
      refine lv_aload_n hx hb zd_LassoFinderModel_message_17 rfl (lv_at hl 0 rfl) ?_
      refine z_get (v := .ref (ad 3)) hx hb hts hown hK hw zZ12 0 wM_g0 10 (by decide) zm_237 rfl zd_LassoFinderModel_message_18 ?_
      refine lv_iload_n hx hb zd_LassoFinderModel_message_21 rfl (lv_at hl 1 rfl) ?_
      refine va_iald (f := (B3 2)) hx hb hK hw.1 3 0 wM_a3 rfl hok.1 zd_LassoFinderModel_message_22 ?_
      have hok := hok.2
      refine lv_topi (fun z5 ez5 => ?_)
      have hok := hok z5 ez5
      refine lv_if_lt (tgt := 47) hx hb zd_LassoFinderModel_message_23 (by decide) (fun hc6 => ?_) (fun hc6 => ?_)
      · have hok := hok.1 hc6
        exact wJ_LassoFinderModel_message_47 G K ad a0 a1 Post C I3 J3 B3 D3 ls H locs hok (lv_sub hl [] rfl) hw
      · have hok := hok.2 hc6
        refine lv_iload_n hx hb zd_LassoFinderModel_message_26 rfl (lv_at hl 2 rfl) ?_
        refine lv_iconst (v := 0) hx hb zd_LassoFinderModel_message_27 (by decide) ?_
        refine lv_aload_n hx hb zd_LassoFinderModel_message_28 rfl (lv_at hl 0 rfl) ?_
        refine z_get (v := .ref (ad 40)) hx hb hts hown hK hw zZ12 0 wM_g0 56 (by decide) zm_274 rfl zd_LassoFinderModel_message_29 ?_
        refine lv_aload_n hx hb zd_LassoFinderModel_message_32 rfl (lv_at hl 0 rfl) ?_
        refine z_get (v := .ref (ad 3)) hx hb hts hown hK hw zZ12 0 wM_g0 10 (by decide) zm_237 rfl zd_LassoFinderModel_message_33 ?_
        refine lv_iload_n hx hb zd_LassoFinderModel_message_36 rfl (lv_at hl 1 rfl) ?_
        refine va_iald (f := (B3 2)) hx hb hK hw.1 3 0 wM_a3 rfl hok.1 zd_LassoFinderModel_message_37 ?_
        have hok := hok.2
        refine lv_topi (fun z7 ez7 => ?_)
        have hok := hok z7 ez7
        refine va_iald (f := (B3 37)) hx hb hK hw.1 40 0 wM_a40 rfl hok.1 zd_LassoFinderModel_message_38 ?_
        have hok := hok.2
        refine lv_topi (fun z8 ez8 => ?_)
        have hok := hok z8 ez8
        refine lv_iconst (v := 1) hx hb zd_LassoFinderModel_message_39 (by decide) ?_
        refine lv_isub hx hb zd_LassoFinderModel_message_40 ?_
        refine lv_topi (fun z9 ez9 => ?_)
        have hok := hok z9 ez9
        refine z_calli (w1 := fun (u : zS) => wM ad K u.1 u.2.1 u.2.2.1 u.2.2.2) (wr := []) (z_runS (wc := (wM ad K I3 J3 B3 D3)) (As := [.int a1, .int 0, .int z9]) (rest := []) ⟨hx, hb, hml, hown, hts⟩ (w_LassoFinderModel_in l G K ad I3 J3 B3 D3 a1 0 z9 _ H.size hok) zf_LassoFinderModel_in zm_293 ⟨Nat.le_of_ble_eq_true rfl, Nat.le_of_ble_eq_true rfl⟩ hK hw (List.range 58) wM_all wM_nd rfl hl.1 rfl (Nat.le_of_ble_eq_true rfl) zd_LassoFinderModel_message_41 ⟨Nat.le_of_ble_eq_true rfl, Nat.le_of_ble_eq_true rfl⟩) hw hA (List.range 58) [] wM_all rfl (by decide) (fun i hi => by cases hi) (fun r10 u H locs hok hw => ?_)
        obtain ⟨I10, J10, B10, D10⟩ := u
        dsimp only at hok
        have hw : zW G A s.heap (wM ad K I10 J10 B10 D10) H locs := hw
        refine lv_if_ne (tgt := 49) hx hb zd_LassoFinderModel_message_44 (by decide) (fun hc11 => ?_) (fun hc11 => ?_)
        · have hok := hok.1 hc11
          refine lv_aload_n hx hb zd_LassoFinderModel_message_49 rfl (lv_at hl 0 rfl) ?_
          refine z_get (v := .ref (ad 41)) hx hb hts hown hK hw zZ12 0 wM_g0 57 (by decide) zm_275 rfl zd_LassoFinderModel_message_50 ?_
          refine lv_iconst (v := 3) hx hb zd_LassoFinderModel_message_53 (by decide) ?_
          refine lv_aload_n hx hb zd_LassoFinderModel_message_54 rfl (lv_at hl 0 rfl) ?_
          refine z_get (v := .ref (ad 3)) hx hb hts hown hK hw zZ12 0 wM_g0 10 (by decide) zm_237 rfl zd_LassoFinderModel_message_55 ?_
          refine lv_iload_n hx hb zd_LassoFinderModel_message_58 rfl (lv_at hl 1 rfl) ?_
          refine va_iald (f := (B10 2)) hx hb hK hw.1 3 0 wM_a3 rfl hok.1 zd_LassoFinderModel_message_59 ?_
          have hok := hok.2
          refine lv_topi (fun z12 ez12 => ?_)
          have hok := hok z12 ez12
          refine lv_imul hx hb zd_LassoFinderModel_message_60 ?_
          refine lv_topi (fun z13 ez13 => ?_)
          have hok := hok z13 ez13
          refine lv_iload_n hx hb zd_LassoFinderModel_message_61 rfl (lv_at hl 2 rfl) ?_
          refine lv_iadd hx hb zd_LassoFinderModel_message_62 ?_
          refine lv_topi (fun z14 ez14 => ?_)
          have hok := hok z14 ez14
          refine va_iald (f := (B10 38)) hx hb hK hw.1 41 0 wM_a41 rfl hok.1 zd_LassoFinderModel_message_63 ?_
          have hok := hok.2
          refine lv_topi (fun z15 ez15 => ?_)
          have hok := hok z15 ez15
          exact (z_iret (u := (I10, J10, B10, D10)) hx hb hr hlocks rfl hw (List.range 58) wM_all wM_nd hok (Nat.le_of_ble_eq_true rfl) (Nat.le_of_ble_eq_true rfl) zd_LassoFinderModel_message_64)
        · have hok := hok.2 hc11
          exact wJ_LassoFinderModel_message_47 G K ad a0 a1 Post C I10 J10 B10 D10 ls H locs hok (lv_sub hl [] rfl) hw
