abbrev zy_LassoFinderModel_walk : MethodName := ⟨"LassoFinderModel", "walk", "()V"⟩
abbrev zy_LassoFinderModel_steps : MethodName := ⟨"LassoFinderModel", "steps", "()I"⟩
abbrev zy_LassoFinderModel_go : MethodName := ⟨"LassoFinderModel", "go", "(I)I"⟩
abbrev zy_LassoFinderModel_value : MethodName := ⟨"LassoFinderModel", "value", "(I)I"⟩
abbrev zy_LassoFinderModel_stood : MethodName := ⟨"LassoFinderModel", "stood", "()Z"⟩
abbrev zy_LassoFinderModel_message : MethodName := ⟨"LassoFinderModel", "message", "(II)I"⟩
abbrev zy_LassoFinderModel_point : MethodName := ⟨"LassoFinderModel", "point", "(I)I"⟩
abbrev zy_LassoFinderModel_holder : MethodName := ⟨"LassoFinderModel", "holder", "()I"⟩
abbrev zy_LassoFinderModel_truth : MethodName := ⟨"LassoFinderModel", "truth", "(I)Z"⟩
theorem zm_291 : Cond.fieldLink "LassoFinderModel" 190 "LassoFinderModel" "path" "[I" ∈ zTB := z_in (zt_6 _ (List.mem_of_getElem? (i := 177) rfl)) rfl
theorem zm_381 : Cond.methodLink "LassoFinderModel" 467 ⟨"LassoFinderModel", "stood", "()Z"⟩ ∈ zTB := z_in (zt_8 _ (List.mem_of_getElem? (i := 153) rfl)) rfl
theorem zm_500 : Cond.code ⟨"LassoFinderModel", "stood", "()Z"⟩ prog_14_method_73_code 1 (some .boolean) ∈ zTB := z_in (zt_8 _ (List.mem_of_getElem? (i := 156) rfl)) rfl
theorem zm_501 : Cond.instanceMethod ⟨"LassoFinderModel", "stood", "()Z"⟩ ∈ zTB := z_in (zt_8 _ (List.mem_of_getElem? (i := 155) rfl)) rfl
theorem zf_LassoFinderModel_stood : zFaceV zy_LassoFinderModel_stood prog_14_method_73_code 1 (some .boolean) 0 := ⟨zm_501, (z_in (zp_8 _ (List.mem_of_getElem? (i := 14) rfl)) rfl), zm_25, zm_500, by decide +kernel, by decide +kernel, by decide +kernel⟩
theorem zd_LassoFinderModel_go_0 : decode prog_14_method_72_code 0 = .ok (.aload_n 0, 1) := by decide +kernel
theorem zd_LassoFinderModel_go_1 : decode prog_14_method_72_code 1 = .ok (.getfield 187, 3) := by decide +kernel
theorem zd_LassoFinderModel_go_4 : decode prog_14_method_72_code 4 = .ok (.ifCond .ge 7, 3) := by decide +kernel
theorem zd_LassoFinderModel_go_7 : decode prog_14_method_72_code 7 = .ok (.iconst 0, 1) := by decide +kernel
theorem zd_LassoFinderModel_go_8 : decode prog_14_method_72_code 8 = .ok (.goto 12, 3) := by decide +kernel
theorem zd_LassoFinderModel_go_11 : decode prog_14_method_72_code 11 = .ok (.aload_n 0, 1) := by decide +kernel
theorem zd_LassoFinderModel_go_12 : decode prog_14_method_72_code 12 = .ok (.getfield 190, 3) := by decide +kernel
theorem zd_LassoFinderModel_go_15 : decode prog_14_method_72_code 15 = .ok (.aload_n 0, 1) := by decide +kernel
theorem zd_LassoFinderModel_go_16 : decode prog_14_method_72_code 16 = .ok (.getfield 187, 3) := by decide +kernel
theorem zd_LassoFinderModel_go_19 : decode prog_14_method_72_code 19 = .ok (.iaload, 1) := by decide +kernel
theorem zd_LassoFinderModel_go_20 : decode prog_14_method_72_code 20 = .ok (.istore_n 2, 1) := by decide +kernel
theorem zd_LassoFinderModel_go_21 : decode prog_14_method_72_code 21 = .ok (.aload_n 0, 1) := by decide +kernel
theorem zd_LassoFinderModel_go_22 : decode prog_14_method_72_code 22 = .ok (.aload_n 0, 1) := by decide +kernel
theorem zd_LassoFinderModel_go_23 : decode prog_14_method_72_code 23 = .ok (.getfield 187, 3) := by decide +kernel
theorem zd_LassoFinderModel_go_26 : decode prog_14_method_72_code 26 = .ok (.ifCond .ge 7, 3) := by decide +kernel
theorem zd_LassoFinderModel_go_29 : decode prog_14_method_72_code 29 = .ok (.iconst 1, 1) := by decide +kernel
theorem zd_LassoFinderModel_go_30 : decode prog_14_method_72_code 30 = .ok (.goto 46, 3) := by decide +kernel
theorem zd_LassoFinderModel_go_33 : decode prog_14_method_72_code 33 = .ok (.iload_n 1, 1) := by decide +kernel
theorem zd_LassoFinderModel_go_34 : decode prog_14_method_72_code 34 = .ok (.iconst 0, 1) := by decide +kernel
theorem zd_LassoFinderModel_go_35 : decode prog_14_method_72_code 35 = .ok (.aload_n 0, 1) := by decide +kernel
theorem zd_LassoFinderModel_go_36 : decode prog_14_method_72_code 36 = .ok (.getfield 109, 3) := by decide +kernel
theorem zd_LassoFinderModel_go_39 : decode prog_14_method_72_code 39 = .ok (.iload_n 2, 1) := by decide +kernel
theorem zd_LassoFinderModel_go_40 : decode prog_14_method_72_code 40 = .ok (.iconst 1, 1) := by decide +kernel
theorem zd_LassoFinderModel_go_41 : decode prog_14_method_72_code 41 = .ok (.iadd, 1) := by decide +kernel
theorem zd_LassoFinderModel_go_42 : decode prog_14_method_72_code 42 = .ok (.iaload, 1) := by decide +kernel
theorem zd_LassoFinderModel_go_43 : decode prog_14_method_72_code 43 = .ok (.aload_n 0, 1) := by decide +kernel
theorem zd_LassoFinderModel_go_44 : decode prog_14_method_72_code 44 = .ok (.getfield 109, 3) := by decide +kernel
theorem zd_LassoFinderModel_go_47 : decode prog_14_method_72_code 47 = .ok (.iload_n 2, 1) := by decide +kernel
theorem zd_LassoFinderModel_go_48 : decode prog_14_method_72_code 48 = .ok (.iaload, 1) := by decide +kernel
theorem zd_LassoFinderModel_go_49 : decode prog_14_method_72_code 49 = .ok (.isub, 1) := by decide +kernel
theorem zd_LassoFinderModel_go_50 : decode prog_14_method_72_code 50 = .ok (.iconst 1, 1) := by decide +kernel
theorem zd_LassoFinderModel_go_51 : decode prog_14_method_72_code 51 = .ok (.isub, 1) := by decide +kernel
theorem zd_LassoFinderModel_go_52 : decode prog_14_method_72_code 52 = .ok (.invokestatic 196, 3) := by decide +kernel
theorem zd_LassoFinderModel_go_55 : decode prog_14_method_72_code 55 = .ok (.ifCond .ne 7, 3) := by decide +kernel
theorem zd_LassoFinderModel_go_58 : decode prog_14_method_72_code 58 = .ok (.iconst 2, 1) := by decide +kernel
theorem zd_LassoFinderModel_go_59 : decode prog_14_method_72_code 59 = .ok (.goto 17, 3) := by decide +kernel
theorem zd_LassoFinderModel_go_62 : decode prog_14_method_72_code 62 = .ok (.aload_n 0, 1) := by decide +kernel
theorem zd_LassoFinderModel_go_63 : decode prog_14_method_72_code 63 = .ok (.getfield 187, 3) := by decide +kernel
theorem zd_LassoFinderModel_go_66 : decode prog_14_method_72_code 66 = .ok (.bipush 60, 2) := by decide +kernel
theorem zd_LassoFinderModel_go_68 : decode prog_14_method_72_code 68 = .ok (.if_icmp .ne 7, 3) := by decide +kernel
theorem zd_LassoFinderModel_go_71 : decode prog_14_method_72_code 71 = .ok (.iconst 3, 1) := by decide +kernel
theorem zd_LassoFinderModel_go_72 : decode prog_14_method_72_code 72 = .ok (.goto 4, 3) := by decide +kernel
theorem zd_LassoFinderModel_go_75 : decode prog_14_method_72_code 75 = .ok (.iconst 0, 1) := by decide +kernel
theorem zd_LassoFinderModel_go_76 : decode prog_14_method_72_code 76 = .ok (.putfield 193, 3) := by decide +kernel
theorem zd_LassoFinderModel_go_79 : decode prog_14_method_72_code 79 = .ok (.aload_n 0, 1) := by decide +kernel
theorem zd_LassoFinderModel_go_80 : decode prog_14_method_72_code 80 = .ok (.getfield 193, 3) := by decide +kernel
theorem zd_LassoFinderModel_go_83 : decode prog_14_method_72_code 83 = .ok (.ifCond .le 5, 3) := by decide +kernel
theorem zd_LassoFinderModel_go_86 : decode prog_14_method_72_code 86 = .ok (.iconst 0, 1) := by decide +kernel
theorem zd_LassoFinderModel_go_87 : decode prog_14_method_72_code 87 = .ok (.ireturn, 1) := by decide +kernel
theorem zd_LassoFinderModel_go_88 : decode prog_14_method_72_code 88 = .ok (.aload_n 0, 1) := by decide +kernel
theorem zd_LassoFinderModel_go_89 : decode prog_14_method_72_code 89 = .ok (.dup, 1) := by decide +kernel
theorem zd_LassoFinderModel_go_90 : decode prog_14_method_72_code 90 = .ok (.getfield 187, 3) := by decide +kernel
theorem zd_LassoFinderModel_go_93 : decode prog_14_method_72_code 93 = .ok (.iconst 1, 1) := by decide +kernel
theorem zd_LassoFinderModel_go_94 : decode prog_14_method_72_code 94 = .ok (.iadd, 1) := by decide +kernel
theorem zd_LassoFinderModel_go_95 : decode prog_14_method_72_code 95 = .ok (.putfield 187, 3) := by decide +kernel
theorem zd_LassoFinderModel_go_98 : decode prog_14_method_72_code 98 = .ok (.aload_n 0, 1) := by decide +kernel
theorem zd_LassoFinderModel_go_99 : decode prog_14_method_72_code 99 = .ok (.getfield 190, 3) := by decide +kernel
theorem zd_LassoFinderModel_go_102 : decode prog_14_method_72_code 102 = .ok (.aload_n 0, 1) := by decide +kernel
theorem zd_LassoFinderModel_go_103 : decode prog_14_method_72_code 103 = .ok (.getfield 187, 3) := by decide +kernel
theorem zd_LassoFinderModel_go_106 : decode prog_14_method_72_code 106 = .ok (.aload_n 0, 1) := by decide +kernel
theorem zd_LassoFinderModel_go_107 : decode prog_14_method_72_code 107 = .ok (.getfield 112, 3) := by decide +kernel
theorem zd_LassoFinderModel_go_110 : decode prog_14_method_72_code 110 = .ok (.aload_n 0, 1) := by decide +kernel
theorem zd_LassoFinderModel_go_111 : decode prog_14_method_72_code 111 = .ok (.getfield 109, 3) := by decide +kernel
theorem zd_LassoFinderModel_go_114 : decode prog_14_method_72_code 114 = .ok (.iload_n 2, 1) := by decide +kernel
theorem zd_LassoFinderModel_go_115 : decode prog_14_method_72_code 115 = .ok (.iaload, 1) := by decide +kernel
theorem zd_LassoFinderModel_go_116 : decode prog_14_method_72_code 116 = .ok (.iload_n 1, 1) := by decide +kernel
theorem zd_LassoFinderModel_go_117 : decode prog_14_method_72_code 117 = .ok (.iadd, 1) := by decide +kernel
theorem zd_LassoFinderModel_go_118 : decode prog_14_method_72_code 118 = .ok (.iaload, 1) := by decide +kernel
theorem zd_LassoFinderModel_go_119 : decode prog_14_method_72_code 119 = .ok (.iastore, 1) := by decide +kernel
theorem zd_LassoFinderModel_go_120 : decode prog_14_method_72_code 120 = .ok (.aload_n 0, 1) := by decide +kernel
theorem zd_LassoFinderModel_go_121 : decode prog_14_method_72_code 121 = .ok (.getfield 118, 3) := by decide +kernel
theorem zd_LassoFinderModel_go_124 : decode prog_14_method_72_code 124 = .ok (.aload_n 0, 1) := by decide +kernel
theorem zd_LassoFinderModel_go_125 : decode prog_14_method_72_code 125 = .ok (.getfield 109, 3) := by decide +kernel
theorem zd_LassoFinderModel_go_128 : decode prog_14_method_72_code 128 = .ok (.iload_n 2, 1) := by decide +kernel
theorem zd_LassoFinderModel_go_129 : decode prog_14_method_72_code 129 = .ok (.iaload, 1) := by decide +kernel
theorem zd_LassoFinderModel_go_130 : decode prog_14_method_72_code 130 = .ok (.iload_n 1, 1) := by decide +kernel
theorem zd_LassoFinderModel_go_131 : decode prog_14_method_72_code 131 = .ok (.iadd, 1) := by decide +kernel
theorem zd_LassoFinderModel_go_132 : decode prog_14_method_72_code 132 = .ok (.iaload, 1) := by decide +kernel
theorem zd_LassoFinderModel_go_133 : decode prog_14_method_72_code 133 = .ok (.ireturn, 1) := by decide +kernel
theorem zd_LassoFinderModel_holder_0 : decode prog_14_method_77_code 0 = .ok (.aload_n 0, 1) := by decide +kernel
theorem zd_LassoFinderModel_holder_1 : decode prog_14_method_77_code 1 = .ok (.invokevirtual 467, 3) := by decide +kernel
theorem zd_LassoFinderModel_holder_4 : decode prog_14_method_77_code 4 = .ok (.ifCond .eq 10, 3) := by decide +kernel
theorem zd_LassoFinderModel_holder_7 : decode prog_14_method_77_code 7 = .ok (.aload_n 0, 1) := by decide +kernel
theorem zd_LassoFinderModel_holder_8 : decode prog_14_method_77_code 8 = .ok (.getfield 301, 3) := by decide +kernel
theorem zd_LassoFinderModel_holder_11 : decode prog_14_method_77_code 11 = .ok (.goto 4, 3) := by decide +kernel
theorem zd_LassoFinderModel_holder_14 : decode prog_14_method_77_code 14 = .ok (.iconst (-1), 1) := by decide +kernel
theorem zd_LassoFinderModel_holder_15 : decode prog_14_method_77_code 15 = .ok (.ireturn, 1) := by decide +kernel
theorem zd_LassoFinderModel_message_0 : decode prog_14_method_75_code 0 = .ok (.aload_n 0, 1) := by decide +kernel
theorem zd_LassoFinderModel_message_1 : decode prog_14_method_75_code 1 = .ok (.invokevirtual 467, 3) := by decide +kernel
theorem zd_LassoFinderModel_message_4 : decode prog_14_method_75_code 4 = .ok (.ifCond .eq 43, 3) := by decide +kernel
theorem zd_LassoFinderModel_message_7 : decode prog_14_method_75_code 7 = .ok (.iload_n 1, 1) := by decide +kernel
theorem zd_LassoFinderModel_message_8 : decode prog_14_method_75_code 8 = .ok (.iconst 0, 1) := by decide +kernel
theorem zd_LassoFinderModel_message_9 : decode prog_14_method_75_code 9 = .ok (.bipush 7, 2) := by decide +kernel
theorem zd_LassoFinderModel_message_11 : decode prog_14_method_75_code 11 = .ok (.invokestatic 196, 3) := by decide +kernel
theorem zd_LassoFinderModel_message_14 : decode prog_14_method_75_code 14 = .ok (.ifCond .eq 33, 3) := by decide +kernel
theorem zd_LassoFinderModel_message_17 : decode prog_14_method_75_code 17 = .ok (.aload_n 0, 1) := by decide +kernel
theorem zd_LassoFinderModel_message_18 : decode prog_14_method_75_code 18 = .ok (.getfield 20, 3) := by decide +kernel
theorem zd_LassoFinderModel_message_21 : decode prog_14_method_75_code 21 = .ok (.iload_n 1, 1) := by decide +kernel
theorem zd_LassoFinderModel_message_22 : decode prog_14_method_75_code 22 = .ok (.iaload, 1) := by decide +kernel
theorem zd_LassoFinderModel_message_23 : decode prog_14_method_75_code 23 = .ok (.ifCond .lt 24, 3) := by decide +kernel
theorem zd_LassoFinderModel_message_26 : decode prog_14_method_75_code 26 = .ok (.iload_n 2, 1) := by decide +kernel
theorem zd_LassoFinderModel_message_27 : decode prog_14_method_75_code 27 = .ok (.iconst 0, 1) := by decide +kernel
theorem zd_LassoFinderModel_message_28 : decode prog_14_method_75_code 28 = .ok (.aload_n 0, 1) := by decide +kernel
theorem zd_LassoFinderModel_message_29 : decode prog_14_method_75_code 29 = .ok (.getfield 133, 3) := by decide +kernel
theorem zd_LassoFinderModel_message_32 : decode prog_14_method_75_code 32 = .ok (.aload_n 0, 1) := by decide +kernel
theorem zd_LassoFinderModel_message_33 : decode prog_14_method_75_code 33 = .ok (.getfield 20, 3) := by decide +kernel
theorem zd_LassoFinderModel_message_36 : decode prog_14_method_75_code 36 = .ok (.iload_n 1, 1) := by decide +kernel
theorem zd_LassoFinderModel_message_37 : decode prog_14_method_75_code 37 = .ok (.iaload, 1) := by decide +kernel
theorem zd_LassoFinderModel_message_38 : decode prog_14_method_75_code 38 = .ok (.iaload, 1) := by decide +kernel
theorem zd_LassoFinderModel_message_39 : decode prog_14_method_75_code 39 = .ok (.iconst 1, 1) := by decide +kernel
theorem zd_LassoFinderModel_message_40 : decode prog_14_method_75_code 40 = .ok (.isub, 1) := by decide +kernel
theorem zd_LassoFinderModel_message_41 : decode prog_14_method_75_code 41 = .ok (.invokestatic 196, 3) := by decide +kernel
theorem zd_LassoFinderModel_message_44 : decode prog_14_method_75_code 44 = .ok (.ifCond .ne 5, 3) := by decide +kernel
theorem zd_LassoFinderModel_message_47 : decode prog_14_method_75_code 47 = .ok (.iconst (-1), 1) := by decide +kernel
theorem zd_LassoFinderModel_message_48 : decode prog_14_method_75_code 48 = .ok (.ireturn, 1) := by decide +kernel
theorem zd_LassoFinderModel_message_49 : decode prog_14_method_75_code 49 = .ok (.aload_n 0, 1) := by decide +kernel
theorem zd_LassoFinderModel_message_50 : decode prog_14_method_75_code 50 = .ok (.getfield 136, 3) := by decide +kernel
theorem zd_LassoFinderModel_message_53 : decode prog_14_method_75_code 53 = .ok (.iconst 3, 1) := by decide +kernel
theorem zd_LassoFinderModel_message_54 : decode prog_14_method_75_code 54 = .ok (.aload_n 0, 1) := by decide +kernel
theorem zd_LassoFinderModel_message_55 : decode prog_14_method_75_code 55 = .ok (.getfield 20, 3) := by decide +kernel
theorem zd_LassoFinderModel_message_58 : decode prog_14_method_75_code 58 = .ok (.iload_n 1, 1) := by decide +kernel
theorem zd_LassoFinderModel_message_59 : decode prog_14_method_75_code 59 = .ok (.iaload, 1) := by decide +kernel
theorem zd_LassoFinderModel_message_60 : decode prog_14_method_75_code 60 = .ok (.imul, 1) := by decide +kernel
theorem zd_LassoFinderModel_message_61 : decode prog_14_method_75_code 61 = .ok (.iload_n 2, 1) := by decide +kernel
theorem zd_LassoFinderModel_message_62 : decode prog_14_method_75_code 62 = .ok (.iadd, 1) := by decide +kernel
theorem zd_LassoFinderModel_message_63 : decode prog_14_method_75_code 63 = .ok (.iaload, 1) := by decide +kernel
theorem zd_LassoFinderModel_message_64 : decode prog_14_method_75_code 64 = .ok (.ireturn, 1) := by decide +kernel
theorem zd_LassoFinderModel_point_0 : decode prog_14_method_76_code 0 = .ok (.aload_n 0, 1) := by decide +kernel
theorem zd_LassoFinderModel_point_1 : decode prog_14_method_76_code 1 = .ok (.invokevirtual 467, 3) := by decide +kernel
theorem zd_LassoFinderModel_point_4 : decode prog_14_method_76_code 4 = .ok (.ifCond .eq 26, 3) := by decide +kernel
theorem zd_LassoFinderModel_point_7 : decode prog_14_method_76_code 7 = .ok (.iload_n 1, 1) := by decide +kernel
theorem zd_LassoFinderModel_point_8 : decode prog_14_method_76_code 8 = .ok (.iconst 0, 1) := by decide +kernel
theorem zd_LassoFinderModel_point_9 : decode prog_14_method_76_code 9 = .ok (.aload_n 0, 1) := by decide +kernel
theorem zd_LassoFinderModel_point_10 : decode prog_14_method_76_code 10 = .ok (.getfield 254, 3) := by decide +kernel
theorem zd_LassoFinderModel_point_13 : decode prog_14_method_76_code 13 = .ok (.iconst 1, 1) := by decide +kernel
theorem zd_LassoFinderModel_point_14 : decode prog_14_method_76_code 14 = .ok (.isub, 1) := by decide +kernel
theorem zd_LassoFinderModel_point_15 : decode prog_14_method_76_code 15 = .ok (.invokestatic 196, 3) := by decide +kernel
theorem zd_LassoFinderModel_point_18 : decode prog_14_method_76_code 18 = .ok (.ifCond .eq 12, 3) := by decide +kernel
theorem zd_LassoFinderModel_point_21 : decode prog_14_method_76_code 21 = .ok (.aload_n 0, 1) := by decide +kernel
theorem zd_LassoFinderModel_point_22 : decode prog_14_method_76_code 22 = .ok (.getfield 139, 3) := by decide +kernel
theorem zd_LassoFinderModel_point_25 : decode prog_14_method_76_code 25 = .ok (.iload_n 1, 1) := by decide +kernel
theorem zd_LassoFinderModel_point_26 : decode prog_14_method_76_code 26 = .ok (.iaload, 1) := by decide +kernel
theorem zd_LassoFinderModel_point_27 : decode prog_14_method_76_code 27 = .ok (.goto 4, 3) := by decide +kernel
theorem zd_LassoFinderModel_point_30 : decode prog_14_method_76_code 30 = .ok (.iconst (-1), 1) := by decide +kernel
theorem zd_LassoFinderModel_point_31 : decode prog_14_method_76_code 31 = .ok (.ireturn, 1) := by decide +kernel
theorem zd_LassoFinderModel_steps_0 : decode prog_14_method_71_code 0 = .ok (.aload_n 0, 1) := by decide +kernel
theorem zd_LassoFinderModel_steps_1 : decode prog_14_method_71_code 1 = .ok (.iconst 0, 1) := by decide +kernel
theorem zd_LassoFinderModel_steps_2 : decode prog_14_method_71_code 2 = .ok (.putfield 193, 3) := by decide +kernel
theorem zd_LassoFinderModel_steps_5 : decode prog_14_method_71_code 5 = .ok (.aload_n 0, 1) := by decide +kernel
theorem zd_LassoFinderModel_steps_6 : decode prog_14_method_71_code 6 = .ok (.getfield 187, 3) := by decide +kernel
theorem zd_LassoFinderModel_steps_9 : decode prog_14_method_71_code 9 = .ok (.ifCond .ge 7, 3) := by decide +kernel
theorem zd_LassoFinderModel_steps_12 : decode prog_14_method_71_code 12 = .ok (.iconst 0, 1) := by decide +kernel
theorem zd_LassoFinderModel_steps_13 : decode prog_14_method_71_code 13 = .ok (.goto 34, 3) := by decide +kernel
theorem zd_LassoFinderModel_steps_16 : decode prog_14_method_71_code 16 = .ok (.aload_n 0, 1) := by decide +kernel
theorem zd_LassoFinderModel_steps_17 : decode prog_14_method_71_code 17 = .ok (.getfield 109, 3) := by decide +kernel
theorem zd_LassoFinderModel_steps_20 : decode prog_14_method_71_code 20 = .ok (.aload_n 0, 1) := by decide +kernel
theorem zd_LassoFinderModel_steps_21 : decode prog_14_method_71_code 21 = .ok (.getfield 190, 3) := by decide +kernel
theorem zd_LassoFinderModel_steps_24 : decode prog_14_method_71_code 24 = .ok (.aload_n 0, 1) := by decide +kernel
theorem zd_LassoFinderModel_steps_25 : decode prog_14_method_71_code 25 = .ok (.getfield 187, 3) := by decide +kernel
theorem zd_LassoFinderModel_steps_28 : decode prog_14_method_71_code 28 = .ok (.iaload, 1) := by decide +kernel
theorem zd_LassoFinderModel_steps_29 : decode prog_14_method_71_code 29 = .ok (.iconst 1, 1) := by decide +kernel
theorem zd_LassoFinderModel_steps_30 : decode prog_14_method_71_code 30 = .ok (.iadd, 1) := by decide +kernel
theorem zd_LassoFinderModel_steps_31 : decode prog_14_method_71_code 31 = .ok (.iaload, 1) := by decide +kernel
theorem zd_LassoFinderModel_steps_32 : decode prog_14_method_71_code 32 = .ok (.aload_n 0, 1) := by decide +kernel
theorem zd_LassoFinderModel_steps_33 : decode prog_14_method_71_code 33 = .ok (.getfield 109, 3) := by decide +kernel
theorem zd_LassoFinderModel_steps_36 : decode prog_14_method_71_code 36 = .ok (.aload_n 0, 1) := by decide +kernel
theorem zd_LassoFinderModel_steps_37 : decode prog_14_method_71_code 37 = .ok (.getfield 190, 3) := by decide +kernel
theorem zd_LassoFinderModel_steps_40 : decode prog_14_method_71_code 40 = .ok (.aload_n 0, 1) := by decide +kernel
theorem zd_LassoFinderModel_steps_41 : decode prog_14_method_71_code 41 = .ok (.getfield 187, 3) := by decide +kernel
theorem zd_LassoFinderModel_steps_44 : decode prog_14_method_71_code 44 = .ok (.iaload, 1) := by decide +kernel
theorem zd_LassoFinderModel_steps_45 : decode prog_14_method_71_code 45 = .ok (.iaload, 1) := by decide +kernel
theorem zd_LassoFinderModel_steps_46 : decode prog_14_method_71_code 46 = .ok (.isub, 1) := by decide +kernel
theorem zd_LassoFinderModel_steps_47 : decode prog_14_method_71_code 47 = .ok (.ireturn, 1) := by decide +kernel
theorem zd_LassoFinderModel_stood_0 : decode prog_14_method_73_code 0 = .ok (.aload_n 0, 1) := by decide +kernel
theorem zd_LassoFinderModel_stood_1 : decode prog_14_method_73_code 1 = .ok (.iconst 0, 1) := by decide +kernel
theorem zd_LassoFinderModel_stood_2 : decode prog_14_method_73_code 2 = .ok (.putfield 193, 3) := by decide +kernel
theorem zd_LassoFinderModel_stood_5 : decode prog_14_method_73_code 5 = .ok (.aload_n 0, 1) := by decide +kernel
theorem zd_LassoFinderModel_stood_6 : decode prog_14_method_73_code 6 = .ok (.getfield 187, 3) := by decide +kernel
theorem zd_LassoFinderModel_stood_9 : decode prog_14_method_73_code 9 = .ok (.ifCond .lt 21, 3) := by decide +kernel
theorem zd_LassoFinderModel_stood_12 : decode prog_14_method_73_code 12 = .ok (.aload_n 0, 1) := by decide +kernel
theorem zd_LassoFinderModel_stood_13 : decode prog_14_method_73_code 13 = .ok (.aload_n 0, 1) := by decide +kernel
theorem zd_LassoFinderModel_stood_14 : decode prog_14_method_73_code 14 = .ok (.getfield 106, 3) := by decide +kernel
theorem zd_LassoFinderModel_stood_17 : decode prog_14_method_73_code 17 = .ok (.aload_n 0, 1) := by decide +kernel
theorem zd_LassoFinderModel_stood_18 : decode prog_14_method_73_code 18 = .ok (.getfield 190, 3) := by decide +kernel
theorem zd_LassoFinderModel_stood_21 : decode prog_14_method_73_code 21 = .ok (.aload_n 0, 1) := by decide +kernel
theorem zd_LassoFinderModel_stood_22 : decode prog_14_method_73_code 22 = .ok (.getfield 187, 3) := by decide +kernel
theorem zd_LassoFinderModel_stood_25 : decode prog_14_method_73_code 25 = .ok (.iaload, 1) := by decide +kernel
theorem zd_LassoFinderModel_stood_26 : decode prog_14_method_73_code 26 = .ok (.laload, 1) := by decide +kernel
theorem zd_LassoFinderModel_stood_27 : decode prog_14_method_73_code 27 = .ok (.invokevirtual 334, 3) := by decide +kernel
theorem zd_LassoFinderModel_stood_30 : decode prog_14_method_73_code 30 = .ok (.aload_n 0, 1) := by decide +kernel
theorem zd_LassoFinderModel_stood_31 : decode prog_14_method_73_code 31 = .ok (.getfield 187, 3) := by decide +kernel
theorem zd_LassoFinderModel_stood_34 : decode prog_14_method_73_code 34 = .ok (.ifCond .lt 7, 3) := by decide +kernel
theorem zd_LassoFinderModel_stood_37 : decode prog_14_method_73_code 37 = .ok (.iconst 1, 1) := by decide +kernel
theorem zd_LassoFinderModel_stood_38 : decode prog_14_method_73_code 38 = .ok (.goto 4, 3) := by decide +kernel
theorem zd_LassoFinderModel_stood_41 : decode prog_14_method_73_code 41 = .ok (.iconst 0, 1) := by decide +kernel
theorem zd_LassoFinderModel_stood_42 : decode prog_14_method_73_code 42 = .ok (.ireturn, 1) := by decide +kernel
theorem zd_LassoFinderModel_truth_0 : decode prog_14_method_78_code 0 = .ok (.aload_n 0, 1) := by decide +kernel
theorem zd_LassoFinderModel_truth_1 : decode prog_14_method_78_code 1 = .ok (.aload_n 0, 1) := by decide +kernel
theorem zd_LassoFinderModel_truth_2 : decode prog_14_method_78_code 2 = .ok (.getfield 187, 3) := by decide +kernel
theorem zd_LassoFinderModel_truth_5 : decode prog_14_method_78_code 5 = .ok (.ifCond .lt 10, 3) := by decide +kernel
theorem zd_LassoFinderModel_truth_8 : decode prog_14_method_78_code 8 = .ok (.aload_n 0, 1) := by decide +kernel
theorem zd_LassoFinderModel_truth_9 : decode prog_14_method_78_code 9 = .ok (.getfield 358, 3) := by decide +kernel
theorem zd_LassoFinderModel_truth_12 : decode prog_14_method_78_code 12 = .ok (.ifCond .ne 7, 3) := by decide +kernel
theorem zd_LassoFinderModel_truth_15 : decode prog_14_method_78_code 15 = .ok (.iconst 1, 1) := by decide +kernel
theorem zd_LassoFinderModel_truth_16 : decode prog_14_method_78_code 16 = .ok (.goto 40, 3) := by decide +kernel
theorem zd_LassoFinderModel_truth_19 : decode prog_14_method_78_code 19 = .ok (.iload_n 1, 1) := by decide +kernel
theorem zd_LassoFinderModel_truth_20 : decode prog_14_method_78_code 20 = .ok (.iconst 0, 1) := by decide +kernel
theorem zd_LassoFinderModel_truth_21 : decode prog_14_method_78_code 21 = .ok (.aload_n 0, 1) := by decide +kernel
theorem zd_LassoFinderModel_truth_22 : decode prog_14_method_78_code 22 = .ok (.getfield 187, 3) := by decide +kernel
theorem zd_LassoFinderModel_truth_25 : decode prog_14_method_78_code 25 = .ok (.iconst 1, 1) := by decide +kernel
theorem zd_LassoFinderModel_truth_26 : decode prog_14_method_78_code 26 = .ok (.isub, 1) := by decide +kernel
theorem zd_LassoFinderModel_truth_27 : decode prog_14_method_78_code 27 = .ok (.invokestatic 196, 3) := by decide +kernel
theorem zd_LassoFinderModel_truth_30 : decode prog_14_method_78_code 30 = .ok (.ifCond .eq 21, 3) := by decide +kernel
theorem zd_LassoFinderModel_truth_33 : decode prog_14_method_78_code 33 = .ok (.aload_n 0, 1) := by decide +kernel
theorem zd_LassoFinderModel_truth_34 : decode prog_14_method_78_code 34 = .ok (.getfield 190, 3) := by decide +kernel
theorem zd_LassoFinderModel_truth_37 : decode prog_14_method_78_code 37 = .ok (.iload_n 1, 1) := by decide +kernel
theorem zd_LassoFinderModel_truth_38 : decode prog_14_method_78_code 38 = .ok (.iaload, 1) := by decide +kernel
theorem zd_LassoFinderModel_truth_39 : decode prog_14_method_78_code 39 = .ok (.aload_n 0, 1) := by decide +kernel
theorem zd_LassoFinderModel_truth_40 : decode prog_14_method_78_code 40 = .ok (.getfield 190, 3) := by decide +kernel
theorem zd_LassoFinderModel_truth_43 : decode prog_14_method_78_code 43 = .ok (.aload_n 0, 1) := by decide +kernel
theorem zd_LassoFinderModel_truth_44 : decode prog_14_method_78_code 44 = .ok (.getfield 187, 3) := by decide +kernel
theorem zd_LassoFinderModel_truth_47 : decode prog_14_method_78_code 47 = .ok (.iaload, 1) := by decide +kernel
theorem zd_LassoFinderModel_truth_48 : decode prog_14_method_78_code 48 = .ok (.if_icmp .eq 7, 3) := by decide +kernel
theorem zd_LassoFinderModel_truth_51 : decode prog_14_method_78_code 51 = .ok (.iconst 2, 1) := by decide +kernel
theorem zd_LassoFinderModel_truth_52 : decode prog_14_method_78_code 52 = .ok (.goto 4, 3) := by decide +kernel
theorem zd_LassoFinderModel_truth_55 : decode prog_14_method_78_code 55 = .ok (.iconst 0, 1) := by decide +kernel
theorem zd_LassoFinderModel_truth_56 : decode prog_14_method_78_code 56 = .ok (.putfield 193, 3) := by decide +kernel
theorem zd_LassoFinderModel_truth_59 : decode prog_14_method_78_code 59 = .ok (.aload_n 0, 1) := by decide +kernel
theorem zd_LassoFinderModel_truth_60 : decode prog_14_method_78_code 60 = .ok (.getfield 193, 3) := by decide +kernel
theorem zd_LassoFinderModel_truth_63 : decode prog_14_method_78_code 63 = .ok (.ifCond .le 5, 3) := by decide +kernel
theorem zd_LassoFinderModel_truth_66 : decode prog_14_method_78_code 66 = .ok (.iconst 0, 1) := by decide +kernel
theorem zd_LassoFinderModel_truth_67 : decode prog_14_method_78_code 67 = .ok (.ireturn, 1) := by decide +kernel
theorem zd_LassoFinderModel_truth_68 : decode prog_14_method_78_code 68 = .ok (.iconst 0, 1) := by decide +kernel
theorem zd_LassoFinderModel_truth_69 : decode prog_14_method_78_code 69 = .ok (.istore_n 2, 1) := by decide +kernel
theorem zd_LassoFinderModel_truth_70 : decode prog_14_method_78_code 70 = .ok (.iconst 0, 1) := by decide +kernel
theorem zd_LassoFinderModel_truth_71 : decode prog_14_method_78_code 71 = .ok (.istore_n 3, 1) := by decide +kernel
theorem zd_LassoFinderModel_truth_72 : decode prog_14_method_78_code 72 = .ok (.iload_n 3, 1) := by decide +kernel
theorem zd_LassoFinderModel_truth_73 : decode prog_14_method_78_code 73 = .ok (.aload_n 0, 1) := by decide +kernel
theorem zd_LassoFinderModel_truth_74 : decode prog_14_method_78_code 74 = .ok (.getfield 376, 3) := by decide +kernel
theorem zd_LassoFinderModel_truth_77 : decode prog_14_method_78_code 77 = .ok (.if_icmp .ge 117, 3) := by decide +kernel
theorem zd_LassoFinderModel_truth_80 : decode prog_14_method_78_code 80 = .ok (.aload_n 0, 1) := by decide +kernel
theorem zd_LassoFinderModel_truth_81 : decode prog_14_method_78_code 81 = .ok (.getfield 145, 3) := by decide +kernel
theorem zd_LassoFinderModel_truth_84 : decode prog_14_method_78_code 84 = .ok (.aload_n 0, 1) := by decide +kernel
theorem zd_LassoFinderModel_truth_85 : decode prog_14_method_78_code 85 = .ok (.getfield 151, 3) := by decide +kernel
theorem zd_LassoFinderModel_truth_88 : decode prog_14_method_78_code 88 = .ok (.iload_n 3, 1) := by decide +kernel
theorem zd_LassoFinderModel_truth_89 : decode prog_14_method_78_code 89 = .ok (.iaload, 1) := by decide +kernel
theorem zd_LassoFinderModel_truth_90 : decode prog_14_method_78_code 90 = .ok (.iaload, 1) := by decide +kernel
theorem zd_LassoFinderModel_truth_91 : decode prog_14_method_78_code 91 = .ok (.bipush 12, 2) := by decide +kernel
theorem zd_LassoFinderModel_truth_93 : decode prog_14_method_78_code 93 = .ok (.if_icmp .eq 19, 3) := by decide +kernel
theorem zd_LassoFinderModel_truth_96 : decode prog_14_method_78_code 96 = .ok (.aload_n 0, 1) := by decide +kernel
theorem zd_LassoFinderModel_truth_97 : decode prog_14_method_78_code 97 = .ok (.getfield 145, 3) := by decide +kernel
theorem zd_LassoFinderModel_truth_100 : decode prog_14_method_78_code 100 = .ok (.aload_n 0, 1) := by decide +kernel
theorem zd_LassoFinderModel_truth_101 : decode prog_14_method_78_code 101 = .ok (.getfield 151, 3) := by decide +kernel
theorem zd_LassoFinderModel_truth_104 : decode prog_14_method_78_code 104 = .ok (.iload_n 3, 1) := by decide +kernel
theorem zd_LassoFinderModel_truth_105 : decode prog_14_method_78_code 105 = .ok (.iaload, 1) := by decide +kernel
theorem zd_LassoFinderModel_truth_106 : decode prog_14_method_78_code 106 = .ok (.iaload, 1) := by decide +kernel
theorem zd_LassoFinderModel_truth_107 : decode prog_14_method_78_code 107 = .ok (.bipush 15, 2) := by decide +kernel
theorem zd_LassoFinderModel_truth_109 : decode prog_14_method_78_code 109 = .ok (.if_icmp .ne 7, 3) := by decide +kernel
theorem zd_LassoFinderModel_truth_112 : decode prog_14_method_78_code 112 = .ok (.iconst 1, 1) := by decide +kernel
theorem zd_LassoFinderModel_truth_113 : decode prog_14_method_78_code 113 = .ok (.goto 4, 3) := by decide +kernel
theorem zd_LassoFinderModel_truth_116 : decode prog_14_method_78_code 116 = .ok (.iconst 0, 1) := by decide +kernel
theorem zd_LassoFinderModel_truth_117 : decode prog_14_method_78_code 117 = .ok (.istore 4, 2) := by decide +kernel
theorem zd_LassoFinderModel_truth_119 : decode prog_14_method_78_code 119 = .ok (.iload 4, 2) := by decide +kernel
theorem zd_LassoFinderModel_truth_121 : decode prog_14_method_78_code 121 = .ok (.ifCond .eq 13, 3) := by decide +kernel
theorem zd_LassoFinderModel_truth_124 : decode prog_14_method_78_code 124 = .ok (.iload_n 2, 1) := by decide +kernel
theorem zd_LassoFinderModel_truth_125 : decode prog_14_method_78_code 125 = .ok (.iconst 1, 1) := by decide +kernel
theorem zd_LassoFinderModel_truth_126 : decode prog_14_method_78_code 126 = .ok (.iload_n 3, 1) := by decide +kernel
theorem zd_LassoFinderModel_truth_127 : decode prog_14_method_78_code 127 = .ok (.ishl, 1) := by decide +kernel
theorem zd_LassoFinderModel_truth_128 : decode prog_14_method_78_code 128 = .ok (.iconst (-1), 1) := by decide +kernel
theorem zd_LassoFinderModel_truth_129 : decode prog_14_method_78_code 129 = .ok (.ixor, 1) := by decide +kernel
theorem zd_LassoFinderModel_truth_130 : decode prog_14_method_78_code 130 = .ok (.iand, 1) := by decide +kernel
theorem zd_LassoFinderModel_truth_131 : decode prog_14_method_78_code 131 = .ok (.goto 8, 3) := by decide +kernel
theorem zd_LassoFinderModel_truth_134 : decode prog_14_method_78_code 134 = .ok (.iload_n 2, 1) := by decide +kernel
theorem zd_LassoFinderModel_truth_135 : decode prog_14_method_78_code 135 = .ok (.iconst 1, 1) := by decide +kernel
theorem zd_LassoFinderModel_truth_136 : decode prog_14_method_78_code 136 = .ok (.iload_n 3, 1) := by decide +kernel
theorem zd_LassoFinderModel_truth_137 : decode prog_14_method_78_code 137 = .ok (.ishl, 1) := by decide +kernel
theorem zd_LassoFinderModel_truth_138 : decode prog_14_method_78_code 138 = .ok (.ior, 1) := by decide +kernel
theorem zd_LassoFinderModel_truth_139 : decode prog_14_method_78_code 139 = .ok (.istore_n 2, 1) := by decide +kernel
theorem zd_LassoFinderModel_truth_140 : decode prog_14_method_78_code 140 = .ok (.iconst 0, 1) := by decide +kernel
theorem zd_LassoFinderModel_truth_141 : decode prog_14_method_78_code 141 = .ok (.istore 5, 2) := by decide +kernel
theorem zd_LassoFinderModel_truth_143 : decode prog_14_method_78_code 143 = .ok (.iload 5, 2) := by decide +kernel
theorem zd_LassoFinderModel_truth_145 : decode prog_14_method_78_code 145 = .ok (.iconst 2, 1) := by decide +kernel
theorem zd_LassoFinderModel_truth_146 : decode prog_14_method_78_code 146 = .ok (.if_icmp .ge 42, 3) := by decide +kernel
theorem zd_LassoFinderModel_truth_149 : decode prog_14_method_78_code 149 = .ok (.aload_n 0, 1) := by decide +kernel
theorem zd_LassoFinderModel_truth_150 : decode prog_14_method_78_code 150 = .ok (.getfield 187, 3) := by decide +kernel
theorem zd_LassoFinderModel_truth_153 : decode prog_14_method_78_code 153 = .ok (.iconst 1, 1) := by decide +kernel
theorem zd_LassoFinderModel_truth_154 : decode prog_14_method_78_code 154 = .ok (.isub, 1) := by decide +kernel
theorem zd_LassoFinderModel_truth_155 : decode prog_14_method_78_code 155 = .ok (.istore 6, 2) := by decide +kernel
theorem zd_LassoFinderModel_truth_157 : decode prog_14_method_78_code 157 = .ok (.iload 6, 2) := by decide +kernel
theorem zd_LassoFinderModel_truth_159 : decode prog_14_method_78_code 159 = .ok (.iload_n 1, 1) := by decide +kernel
theorem zd_LassoFinderModel_truth_160 : decode prog_14_method_78_code 160 = .ok (.if_icmp .lt 22, 3) := by decide +kernel
theorem zd_LassoFinderModel_truth_163 : decode prog_14_method_78_code 163 = .ok (.aload_n 0, 1) := by decide +kernel
theorem zd_LassoFinderModel_truth_164 : decode prog_14_method_78_code 164 = .ok (.aload_n 0, 1) := by decide +kernel
theorem zd_LassoFinderModel_truth_165 : decode prog_14_method_78_code 165 = .ok (.getfield 190, 3) := by decide +kernel
theorem zd_LassoFinderModel_truth_168 : decode prog_14_method_78_code 168 = .ok (.iload 6, 2) := by decide +kernel
theorem zd_LassoFinderModel_truth_170 : decode prog_14_method_78_code 170 = .ok (.iaload, 1) := by decide +kernel
theorem zd_LassoFinderModel_truth_171 : decode prog_14_method_78_code 171 = .ok (.iload_n 2, 1) := by decide +kernel
theorem zd_LassoFinderModel_truth_172 : decode prog_14_method_78_code 172 = .ok (.invokevirtual 422, 3) := by decide +kernel
theorem zd_LassoFinderModel_truth_175 : decode prog_14_method_78_code 175 = .ok (.istore_n 2, 1) := by decide +kernel
theorem zd_LassoFinderModel_truth_176 : decode prog_14_method_78_code 176 = .ok (.iinc 6 (-1), 3) := by decide +kernel
theorem zd_LassoFinderModel_truth_179 : decode prog_14_method_78_code 179 = .ok (.goto (-22), 3) := by decide +kernel
theorem zd_LassoFinderModel_truth_182 : decode prog_14_method_78_code 182 = .ok (.iinc 5 1, 3) := by decide +kernel
theorem zd_LassoFinderModel_truth_185 : decode prog_14_method_78_code 185 = .ok (.goto (-42), 3) := by decide +kernel
theorem zd_LassoFinderModel_truth_188 : decode prog_14_method_78_code 188 = .ok (.iinc 3 1, 3) := by decide +kernel
theorem zd_LassoFinderModel_truth_191 : decode prog_14_method_78_code 191 = .ok (.goto (-119), 3) := by decide +kernel
theorem zd_LassoFinderModel_truth_194 : decode prog_14_method_78_code 194 = .ok (.iload_n 1, 1) := by decide +kernel
theorem zd_LassoFinderModel_truth_195 : decode prog_14_method_78_code 195 = .ok (.iconst 1, 1) := by decide +kernel
theorem zd_LassoFinderModel_truth_196 : decode prog_14_method_78_code 196 = .ok (.isub, 1) := by decide +kernel
theorem zd_LassoFinderModel_truth_197 : decode prog_14_method_78_code 197 = .ok (.istore_n 3, 1) := by decide +kernel
theorem zd_LassoFinderModel_truth_198 : decode prog_14_method_78_code 198 = .ok (.iload_n 3, 1) := by decide +kernel
theorem zd_LassoFinderModel_truth_199 : decode prog_14_method_78_code 199 = .ok (.ifCond .lt 21, 3) := by decide +kernel
theorem zd_LassoFinderModel_truth_202 : decode prog_14_method_78_code 202 = .ok (.aload_n 0, 1) := by decide +kernel
theorem zd_LassoFinderModel_truth_203 : decode prog_14_method_78_code 203 = .ok (.aload_n 0, 1) := by decide +kernel
theorem zd_LassoFinderModel_truth_204 : decode prog_14_method_78_code 204 = .ok (.getfield 190, 3) := by decide +kernel
theorem zd_LassoFinderModel_truth_207 : decode prog_14_method_78_code 207 = .ok (.iload_n 3, 1) := by decide +kernel
theorem zd_LassoFinderModel_truth_208 : decode prog_14_method_78_code 208 = .ok (.iaload, 1) := by decide +kernel
theorem zd_LassoFinderModel_truth_209 : decode prog_14_method_78_code 209 = .ok (.iload_n 2, 1) := by decide +kernel
theorem zd_LassoFinderModel_truth_210 : decode prog_14_method_78_code 210 = .ok (.invokevirtual 422, 3) := by decide +kernel
theorem zd_LassoFinderModel_truth_213 : decode prog_14_method_78_code 213 = .ok (.istore_n 2, 1) := by decide +kernel
theorem zd_LassoFinderModel_truth_214 : decode prog_14_method_78_code 214 = .ok (.iinc 3 (-1), 3) := by decide +kernel
theorem zd_LassoFinderModel_truth_217 : decode prog_14_method_78_code 217 = .ok (.goto (-19), 3) := by decide +kernel
theorem zd_LassoFinderModel_truth_220 : decode prog_14_method_78_code 220 = .ok (.aload_n 0, 1) := by decide +kernel
theorem zd_LassoFinderModel_truth_221 : decode prog_14_method_78_code 221 = .ok (.aload_n 0, 1) := by decide +kernel
theorem zd_LassoFinderModel_truth_222 : decode prog_14_method_78_code 222 = .ok (.getfield 190, 3) := by decide +kernel
theorem zd_LassoFinderModel_truth_225 : decode prog_14_method_78_code 225 = .ok (.iconst 0, 1) := by decide +kernel
theorem zd_LassoFinderModel_truth_226 : decode prog_14_method_78_code 226 = .ok (.iaload, 1) := by decide +kernel
theorem zd_LassoFinderModel_truth_227 : decode prog_14_method_78_code 227 = .ok (.iload_n 2, 1) := by decide +kernel
theorem zd_LassoFinderModel_truth_228 : decode prog_14_method_78_code 228 = .ok (.invokevirtual 431, 3) := by decide +kernel
theorem zd_LassoFinderModel_truth_231 : decode prog_14_method_78_code 231 = .ok (.ireturn, 1) := by decide +kernel
theorem zd_LassoFinderModel_value_0 : decode prog_14_method_74_code 0 = .ok (.aload_n 0, 1) := by decide +kernel
theorem zd_LassoFinderModel_value_1 : decode prog_14_method_74_code 1 = .ok (.invokevirtual 467, 3) := by decide +kernel
theorem zd_LassoFinderModel_value_4 : decode prog_14_method_74_code 4 = .ok (.ifCond .eq 13, 3) := by decide +kernel
theorem zd_LassoFinderModel_value_7 : decode prog_14_method_74_code 7 = .ok (.iload_n 1, 1) := by decide +kernel
theorem zd_LassoFinderModel_value_8 : decode prog_14_method_74_code 8 = .ok (.iconst 0, 1) := by decide +kernel
theorem zd_LassoFinderModel_value_9 : decode prog_14_method_74_code 9 = .ok (.bipush 7, 2) := by decide +kernel
theorem zd_LassoFinderModel_value_11 : decode prog_14_method_74_code 11 = .ok (.invokestatic 196, 3) := by decide +kernel
theorem zd_LassoFinderModel_value_14 : decode prog_14_method_74_code 14 = .ok (.ifCond .ne 5, 3) := by decide +kernel
theorem zd_LassoFinderModel_value_17 : decode prog_14_method_74_code 17 = .ok (.iconst (-1), 1) := by decide +kernel
theorem zd_LassoFinderModel_value_18 : decode prog_14_method_74_code 18 = .ok (.ireturn, 1) := by decide +kernel
theorem zd_LassoFinderModel_value_19 : decode prog_14_method_74_code 19 = .ok (.aload_n 0, 1) := by decide +kernel
theorem zd_LassoFinderModel_value_20 : decode prog_14_method_74_code 20 = .ok (.getfield 17, 3) := by decide +kernel
theorem zd_LassoFinderModel_value_23 : decode prog_14_method_74_code 23 = .ok (.iload_n 1, 1) := by decide +kernel
theorem zd_LassoFinderModel_value_24 : decode prog_14_method_74_code 24 = .ok (.iaload, 1) := by decide +kernel
theorem zd_LassoFinderModel_value_25 : decode prog_14_method_74_code 25 = .ok (.ifCond .lt 17, 3) := by decide +kernel
theorem zd_LassoFinderModel_value_28 : decode prog_14_method_74_code 28 = .ok (.aload_n 0, 1) := by decide +kernel
theorem zd_LassoFinderModel_value_29 : decode prog_14_method_74_code 29 = .ok (.getfield 130, 3) := by decide +kernel
theorem zd_LassoFinderModel_value_32 : decode prog_14_method_74_code 32 = .ok (.aload_n 0, 1) := by decide +kernel
theorem zd_LassoFinderModel_value_33 : decode prog_14_method_74_code 33 = .ok (.getfield 17, 3) := by decide +kernel
theorem zd_LassoFinderModel_value_36 : decode prog_14_method_74_code 36 = .ok (.iload_n 1, 1) := by decide +kernel
theorem zd_LassoFinderModel_value_37 : decode prog_14_method_74_code 37 = .ok (.iaload, 1) := by decide +kernel
theorem zd_LassoFinderModel_value_38 : decode prog_14_method_74_code 38 = .ok (.iaload, 1) := by decide +kernel
theorem zd_LassoFinderModel_value_39 : decode prog_14_method_74_code 39 = .ok (.goto 27, 3) := by decide +kernel
theorem zd_LassoFinderModel_value_42 : decode prog_14_method_74_code 42 = .ok (.aload_n 0, 1) := by decide +kernel
theorem zd_LassoFinderModel_value_43 : decode prog_14_method_74_code 43 = .ok (.getfield 20, 3) := by decide +kernel
theorem zd_LassoFinderModel_value_46 : decode prog_14_method_74_code 46 = .ok (.iload_n 1, 1) := by decide +kernel
theorem zd_LassoFinderModel_value_47 : decode prog_14_method_74_code 47 = .ok (.iaload, 1) := by decide +kernel
theorem zd_LassoFinderModel_value_48 : decode prog_14_method_74_code 48 = .ok (.ifCond .lt 17, 3) := by decide +kernel
theorem zd_LassoFinderModel_value_51 : decode prog_14_method_74_code 51 = .ok (.aload_n 0, 1) := by decide +kernel
theorem zd_LassoFinderModel_value_52 : decode prog_14_method_74_code 52 = .ok (.getfield 133, 3) := by decide +kernel
theorem zd_LassoFinderModel_value_55 : decode prog_14_method_74_code 55 = .ok (.aload_n 0, 1) := by decide +kernel
theorem zd_LassoFinderModel_value_56 : decode prog_14_method_74_code 56 = .ok (.getfield 20, 3) := by decide +kernel
theorem zd_LassoFinderModel_value_59 : decode prog_14_method_74_code 59 = .ok (.iload_n 1, 1) := by decide +kernel
theorem zd_LassoFinderModel_value_60 : decode prog_14_method_74_code 60 = .ok (.iaload, 1) := by decide +kernel
theorem zd_LassoFinderModel_value_61 : decode prog_14_method_74_code 61 = .ok (.iaload, 1) := by decide +kernel
theorem zd_LassoFinderModel_value_62 : decode prog_14_method_74_code 62 = .ok (.goto 4, 3) := by decide +kernel
theorem zd_LassoFinderModel_value_65 : decode prog_14_method_74_code 65 = .ok (.iconst (-1), 1) := by decide +kernel
theorem zd_LassoFinderModel_value_66 : decode prog_14_method_74_code 66 = .ok (.ireturn, 1) := by decide +kernel
theorem zd_LassoFinderModel_walk_0 : decode prog_14_method_70_code 0 = .ok (.aload_n 0, 1) := by decide +kernel
theorem zd_LassoFinderModel_walk_1 : decode prog_14_method_70_code 1 = .ok (.aload_n 0, 1) := by decide +kernel
theorem zd_LassoFinderModel_walk_2 : decode prog_14_method_70_code 2 = .ok (.getfield 361, 3) := by decide +kernel
theorem zd_LassoFinderModel_walk_5 : decode prog_14_method_70_code 5 = .ok (.ifCond .eq 7, 3) := by decide +kernel
theorem zd_LassoFinderModel_walk_8 : decode prog_14_method_70_code 8 = .ok (.iconst 0, 1) := by decide +kernel
theorem zd_LassoFinderModel_walk_9 : decode prog_14_method_70_code 9 = .ok (.goto 4, 3) := by decide +kernel
theorem zd_LassoFinderModel_walk_12 : decode prog_14_method_70_code 12 = .ok (.iconst 1, 1) := by decide +kernel
theorem zd_LassoFinderModel_walk_13 : decode prog_14_method_70_code 13 = .ok (.putfield 193, 3) := by decide +kernel
theorem zd_LassoFinderModel_walk_16 : decode prog_14_method_70_code 16 = .ok (.aload_n 0, 1) := by decide +kernel
theorem zd_LassoFinderModel_walk_17 : decode prog_14_method_70_code 17 = .ok (.getfield 361, 3) := by decide +kernel
theorem zd_LassoFinderModel_walk_20 : decode prog_14_method_70_code 20 = .ok (.ifCond .ne 4, 3) := by decide +kernel
theorem zd_LassoFinderModel_walk_23 : decode prog_14_method_70_code 23 = .ok (.return_, 1) := by decide +kernel
theorem zd_LassoFinderModel_walk_24 : decode prog_14_method_70_code 24 = .ok (.aload_n 0, 1) := by decide +kernel
theorem zd_LassoFinderModel_walk_25 : decode prog_14_method_70_code 25 = .ok (.iconst 0, 1) := by decide +kernel
theorem zd_LassoFinderModel_walk_26 : decode prog_14_method_70_code 26 = .ok (.putfield 187, 3) := by decide +kernel
theorem zd_LassoFinderModel_walk_29 : decode prog_14_method_70_code 29 = .ok (.aload_n 0, 1) := by decide +kernel
theorem zd_LassoFinderModel_walk_30 : decode prog_14_method_70_code 30 = .ok (.getfield 190, 3) := by decide +kernel
theorem zd_LassoFinderModel_walk_33 : decode prog_14_method_70_code 33 = .ok (.iconst 0, 1) := by decide +kernel
theorem zd_LassoFinderModel_walk_34 : decode prog_14_method_70_code 34 = .ok (.iconst 0, 1) := by decide +kernel
theorem zd_LassoFinderModel_walk_35 : decode prog_14_method_70_code 35 = .ok (.iastore, 1) := by decide +kernel
theorem zd_LassoFinderModel_walk_36 : decode prog_14_method_70_code 36 = .ok (.return_, 1) := by decide +kernel
def wc_LassoFinderModel_walk_13 (Post : (Nat → Int32) → (Nat → Int64) → (Nat → Nat → Int32) → (Nat → Nat → Int64) → Prop) (y0 : Int32) (I : Nat → Int32) (J : Nat → Int64) (B : Nat → Nat → Int32) (D : Nat → Nat → Int64) : Prop :=
  ((¬ (I 5) = 0 → vp_in 0 61 ∧ Post (upd (upd I 0 y0) 26 0) J (va_up B 54 (upd (B 54) (0 : Int32).toNatClampNeg 0)) D) ∧ ((I 5) = 0 → Post (upd I 0 y0) J B D))
def wp_LassoFinderModel_walk (I : Nat → Int32) (J : Nat → Int64) (B : Nat → Nat → Int32) (D : Nat → Nat → Int64) (Post : (Nat → Int32) → (Nat → Int64) → (Nat → Nat → Int32) → (Nat → Nat → Int64) → Prop) : Prop :=
  (((I 5) = 0 → wc_LassoFinderModel_walk_13  Post 1 I J B D) ∧ (¬ (I 5) = 0 → wc_LassoFinderModel_walk_13  Post 0 I J B D))
set_option maxHeartbeats 8000000 in
set_option maxRecDepth 100000 in
theorem w_LassoFinderModel_walk (l : Launch) (G : va_G) (K : Nat → ClassId) (ad : Nat → Nat) (I : Nat → Int32) (J : Nat → Int64) (B : Nat → Nat → Int32) (D : Nat → Nat → Int64) (Post : (Nat → Int32) → (Nat → Int64) → (Nat → Nat → Int32) → (Nat → Nat → Int64) → Prop) (sz : Nat) (hok : wp_LassoFinderModel_walk I J B D  Post) : Met l zy_LassoFinderModel_walk (Cond.code zy_LassoFinderModel_walk prog_14_method_70_code 1 none :: zTB) { frames := 0, cells := 0, slots := 0, locals := 0 } (va_Pc [.ref (ad 0)] (zPre G K (wM ad K I J B D) sz)) (va_Qv (fun u : zS => Post u.1 u.2.1 u.2.2.1 u.2.2.2) (fun u t => zPost G K (va_A (wM ad K I J B D) sz) (wM ad K u.1 u.2.1 u.2.2.1 u.2.2.2) t) (va_A (wM ad K I J B D) sz)) 0 0 (va_A (wM ad K I J B D) sz) := by
  refine zMet (y := zy_LassoFinderModel_walk) (av := [.ref (ad 0)]) (maxL := 1) (cc := prog_14_method_70_code) (ret := none) (W0 := (wM ad K I J B D)) (sz := sz) (G := G) (K := K) (wt := zTB) (mc := 0) (ms := 0) (Qf := fun A => va_Qv (fun u : zS => Post u.1 u.2.1 u.2.2.1 u.2.2.2) (fun u t => zPost G K A (wM ad K u.1 u.2.1 u.2.2.1 u.2.2.2) t) A) (by decide) (Nat.le_of_ble_eq_true rfl) ?_
  intro p e s m below meth c ls A hx hb hr hml hts hown hlocks hin hA hK H locs hw hsz hl
  clear hsz
  have hown : s.vm.findClass "LassoFinderModel" = some m.cls := hown
  have hj_13 : ∀ (y0 : Int32) (I : Nat → Int32) (J : Nat → Int64) (B : Nat → Nat → Int32) (D : Nat → Nat → Int64) (ls : Array Slot) (H : Heap) (locs : List Loc), wc_LassoFinderModel_walk_13  Post y0 I J B D → lv_has ls 1 [(0, .ref (ad 0))] → zW G A s.heap (wM ad K I J B D) H locs → W p l e { frames := 0, cells := 0, slots := 0, locals := 0 } s m ([.ref (ad 0)] : List Value).toArray below meth c H locs 0 0 (MQ below (va_Qv (fun u : zS => Post u.1 u.2.1 u.2.2.1 u.2.2.2) (fun u t => zPost G K A (wM ad K u.1 u.2.1 u.2.2.1 u.2.2.2) t) A) ([.ref (ad 0)] : List Value).toArray s 0 0 A) (F0 m 13 ls [.int y0, .ref (ad 0)]) := by
    intro y0 I J B D ls H locs hok hl hw
    unfold wc_LassoFinderModel_walk_13 at hok
    refine z_put (v := .int y0) hx hb hts hown hK hw zZ12 0 rfl 0 (by decide) zm_292 rfl rfl rfl (Nat.le_of_ble_eq_true rfl) zd_LassoFinderModel_walk_13 (fun H locs hw => ?_)
    have hw : zW G A s.heap (wM ad K (upd I 0 y0) J B D) H locs := hw
    refine lv_aload_n hx hb zd_LassoFinderModel_walk_16 rfl (lv_at hl 0 rfl) ?_
    refine z_get (v := .int (I 5)) hx hb hts hown hK hw zZ12 0 rfl 6 (by decide) zm_299 rfl zd_LassoFinderModel_walk_17 ?_
    refine lv_if_ne (tgt := 24) hx hb zd_LassoFinderModel_walk_20 (by decide) (fun hc1 => ?_) (fun hc1 => ?_)
    · have hok := hok.1 hc1
      refine lv_aload_n hx hb zd_LassoFinderModel_walk_24 rfl (lv_at hl 0 rfl) ?_
      refine lv_iconst (v := 0) hx hb zd_LassoFinderModel_walk_25 (by decide) ?_
      refine z_put (v := .int 0) hx hb hts hown hK hw zZ12 0 rfl 82 (by decide) zm_331 rfl rfl rfl (Nat.le_of_ble_eq_true rfl) zd_LassoFinderModel_walk_26 (fun H locs hw => ?_)
      have hw : zW G A s.heap (wM ad K (upd (upd I 0 y0) 26 0) J B D) H locs := hw
      refine lv_aload_n hx hb zd_LassoFinderModel_walk_29 rfl (lv_at hl 0 rfl) ?_
      refine z_get (v := .ref (ad 57)) hx hb hts hown hK hw zZ12 0 rfl 83 (by decide) zm_291 rfl zd_LassoFinderModel_walk_30 ?_
      refine lv_iconst (v := 0) hx hb zd_LassoFinderModel_walk_33 (by decide) ?_
      refine lv_iconst (v := 0) hx hb zd_LassoFinderModel_walk_34 (by decide) ?_
      refine va_iast (f := (B 54)) hx hb hK hw.1 hw.2.1 hw.2.2 57 0 rfl rfl hok.1 zd_LassoFinderModel_walk_35 (fun H locs a1 a2 a3 => ?_)
      have hok := hok.2
      have hw : zW G A s.heap _ H locs := ⟨a1, a2, a3⟩
      have hw : zW G A s.heap (wM ad K (upd (upd I 0 y0) 26 0) J (va_up B 54 (upd (B 54) (0 : Int32).toNatClampNeg 0)) D) H locs := hw
      exact z_vret (u := ((upd (upd I 0 y0) 26 0), J, (va_up B 54 (upd (B 54) (0 : Int32).toNatClampNeg 0)), D)) hx hb hr hlocks hw [0, 1, 2, 3, 4, 5, 6, 7, 8, 9, 10, 11, 12, 13, 14, 15, 16, 17, 18, 19, 20, 21, 22, 23, 24, 25, 26, 27, 28, 29, 30, 31, 32, 33, 34, 35, 36, 37, 38, 39, 40, 41, 42, 43, 44, 45, 46, 47, 48, 49, 50, 51, 52, 53, 54, 55, 56, 57] rfl (by decide) hok (Nat.le_of_ble_eq_true rfl) (Nat.le_of_ble_eq_true rfl) zd_LassoFinderModel_walk_36
    · have hok := hok.2 hc1
      exact z_vret (u := ((upd I 0 y0), J, B, D)) hx hb hr hlocks hw [0, 1, 2, 3, 4, 5, 6, 7, 8, 9, 10, 11, 12, 13, 14, 15, 16, 17, 18, 19, 20, 21, 22, 23, 24, 25, 26, 27, 28, 29, 30, 31, 32, 33, 34, 35, 36, 37, 38, 39, 40, 41, 42, 43, 44, 45, 46, 47, 48, 49, 50, 51, 52, 53, 54, 55, 56, 57] rfl (by decide) hok (Nat.le_of_ble_eq_true rfl) (Nat.le_of_ble_eq_true rfl) zd_LassoFinderModel_walk_23
  have hl : lv_has ls 1 [(0, .ref (ad 0))] := hl
  have hw : zW G A s.heap (wM ad K I J B D) H locs := hw
  unfold wp_LassoFinderModel_walk at hok
  refine lv_aload_n hx hb zd_LassoFinderModel_walk_0 rfl (lv_at hl 0 rfl) ?_
  refine lv_aload_n hx hb zd_LassoFinderModel_walk_1 rfl (lv_at hl 0 rfl) ?_
  refine z_get (v := .int (I 5)) hx hb hts hown hK hw zZ12 0 rfl 6 (by decide) zm_299 rfl zd_LassoFinderModel_walk_2 ?_
  refine lv_if_eq (tgt := 12) hx hb zd_LassoFinderModel_walk_5 (by decide) (fun hc2 => ?_) (fun hc2 => ?_)
  · have hok := hok.1 hc2
    refine lv_iconst (v := 1) hx hb zd_LassoFinderModel_walk_12 (by decide) ?_
    exact hj_13 1 I J B D ls H locs hok (lv_sub hl [0] rfl) hw
  · have hok := hok.2 hc2
    refine lv_iconst (v := 0) hx hb zd_LassoFinderModel_walk_8 (by decide) ?_
    refine lv_goto (tgt := 13) hx hb zd_LassoFinderModel_walk_9 (by decide) ?_
    exact hj_13 0 I J B D ls H locs hok (lv_sub hl [0] rfl) hw
def wc_LassoFinderModel_steps_47 (Post : Int32 → (Nat → Int32) → (Nat → Int64) → (Nat → Nat → Int32) → (Nat → Nat → Int64) → Prop) (y0 : Int32) (I : Nat → Int32) (J : Nat → Int64) (B : Nat → Nat → Int32) (D : Nat → Nat → Int64) : Prop :=
  Post y0 I J B D
def wp_LassoFinderModel_steps (I : Nat → Int32) (J : Nat → Int64) (B : Nat → Nat → Int32) (D : Nat → Nat → Int64) (Post : Int32 → (Nat → Int32) → (Nat → Int64) → (Nat → Nat → Int32) → (Nat → Nat → Int64) → Prop) : Prop :=
  (((0 : Int32) ≤ (I 26) → vp_in (I 26) 61 ∧ ∀ z2 : Int32, z2 = ((B 54) (I 26).toNatClampNeg) → ∀ z3 : Int32, z3 = (z2 + 1) → vp_in z3 98 ∧ ∀ z4 : Int32, z4 = ((B 29) z3.toNatClampNeg) → vp_in (I 26) 61 ∧ ∀ z5 : Int32, z5 = ((B 54) (I 26).toNatClampNeg) → vp_in z5 98 ∧ ∀ z6 : Int32, z6 = ((B 29) z5.toNatClampNeg) → ∀ z7 : Int32, z7 = (z4 - z6) → wc_LassoFinderModel_steps_47  Post z7 (upd I 0 0) J B D) ∧ (¬ (0 : Int32) ≤ (I 26) → wc_LassoFinderModel_steps_47  Post 0 (upd I 0 0) J B D))
set_option maxHeartbeats 8000000 in
set_option maxRecDepth 100000 in
theorem w_LassoFinderModel_steps (l : Launch) (G : va_G) (K : Nat → ClassId) (ad : Nat → Nat) (I : Nat → Int32) (J : Nat → Int64) (B : Nat → Nat → Int32) (D : Nat → Nat → Int64) (Post : Int32 → (Nat → Int32) → (Nat → Int64) → (Nat → Nat → Int32) → (Nat → Nat → Int64) → Prop) (sz : Nat) (hok : wp_LassoFinderModel_steps I J B D  Post) : Met l zy_LassoFinderModel_steps (Cond.code zy_LassoFinderModel_steps prog_14_method_71_code 1 (some .int) :: zTB) { frames := 0, cells := 0, slots := 0, locals := 0 } (va_Pc [.ref (ad 0)] (zPre G K (wM ad K I J B D) sz)) (va_Qi (fun (r : Int32) (u : zS) => Post r u.1 u.2.1 u.2.2.1 u.2.2.2) (fun u t => zPost G K (va_A (wM ad K I J B D) sz) (wM ad K u.1 u.2.1 u.2.2.1 u.2.2.2) t) (va_A (wM ad K I J B D) sz)) 0 0 (va_A (wM ad K I J B D) sz) := by
  refine zMet (y := zy_LassoFinderModel_steps) (av := [.ref (ad 0)]) (maxL := 1) (cc := prog_14_method_71_code) (ret := (some .int)) (W0 := (wM ad K I J B D)) (sz := sz) (G := G) (K := K) (wt := zTB) (mc := 0) (ms := 0) (Qf := fun A => va_Qi (fun (r : Int32) (u : zS) => Post r u.1 u.2.1 u.2.2.1 u.2.2.2) (fun u t => zPost G K A (wM ad K u.1 u.2.1 u.2.2.1 u.2.2.2) t) A) (by decide) (Nat.le_of_ble_eq_true rfl) ?_
  intro p e s m below meth c ls A hx hb hr hml hts hown hlocks hin hA hK H locs hw hsz hl
  clear hsz
  have hown : s.vm.findClass "LassoFinderModel" = some m.cls := hown
  have hj_47 : ∀ (y0 : Int32) (I : Nat → Int32) (J : Nat → Int64) (B : Nat → Nat → Int32) (D : Nat → Nat → Int64) (ls : Array Slot) (H : Heap) (locs : List Loc), wc_LassoFinderModel_steps_47  Post y0 I J B D → lv_has ls 1 [] → zW G A s.heap (wM ad K I J B D) H locs → W p l e { frames := 0, cells := 0, slots := 0, locals := 0 } s m ([.ref (ad 0)] : List Value).toArray below meth c H locs 0 0 (MQ below (va_Qi (fun (r : Int32) (u : zS) => Post r u.1 u.2.1 u.2.2.1 u.2.2.2) (fun u t => zPost G K A (wM ad K u.1 u.2.1 u.2.2.1 u.2.2.2) t) A) ([.ref (ad 0)] : List Value).toArray s 0 0 A) (F0 m 47 ls [.int y0]) := by
    intro y0 I J B D ls H locs hok hl hw
    unfold wc_LassoFinderModel_steps_47 at hok
    exact z_iret (u := (I, J, B, D)) hx hb hr hlocks rfl hw [0, 1, 2, 3, 4, 5, 6, 7, 8, 9, 10, 11, 12, 13, 14, 15, 16, 17, 18, 19, 20, 21, 22, 23, 24, 25, 26, 27, 28, 29, 30, 31, 32, 33, 34, 35, 36, 37, 38, 39, 40, 41, 42, 43, 44, 45, 46, 47, 48, 49, 50, 51, 52, 53, 54, 55, 56, 57] rfl (by decide) hok (Nat.le_of_ble_eq_true rfl) (Nat.le_of_ble_eq_true rfl) zd_LassoFinderModel_steps_47
  have hl : lv_has ls 1 [(0, .ref (ad 0))] := hl
  have hw : zW G A s.heap (wM ad K I J B D) H locs := hw
  unfold wp_LassoFinderModel_steps at hok
  refine lv_aload_n hx hb zd_LassoFinderModel_steps_0 rfl (lv_at hl 0 rfl) ?_
  refine lv_iconst (v := 0) hx hb zd_LassoFinderModel_steps_1 (by decide) ?_
  refine z_put (v := .int 0) hx hb hts hown hK hw zZ12 0 rfl 0 (by decide) zm_292 rfl rfl rfl (Nat.le_of_ble_eq_true rfl) zd_LassoFinderModel_steps_2 (fun H locs hw => ?_)
  have hw : zW G A s.heap (wM ad K (upd I 0 0) J B D) H locs := hw
  refine lv_aload_n hx hb zd_LassoFinderModel_steps_5 rfl (lv_at hl 0 rfl) ?_
  refine z_get (v := .int (I 26)) hx hb hts hown hK hw zZ12 0 rfl 82 (by decide) zm_331 rfl zd_LassoFinderModel_steps_6 ?_
  refine lv_if_ge (tgt := 16) hx hb zd_LassoFinderModel_steps_9 (by decide) (fun hc1 => ?_) (fun hc1 => ?_)
  · have hok := hok.1 hc1
    refine lv_aload_n hx hb zd_LassoFinderModel_steps_16 rfl (lv_at hl 0 rfl) ?_
    refine z_get (v := .ref (ad 32)) hx hb hts hown hK hw zZ12 0 rfl 48 (by decide) zm_266 rfl zd_LassoFinderModel_steps_17 ?_
    refine lv_aload_n hx hb zd_LassoFinderModel_steps_20 rfl (lv_at hl 0 rfl) ?_
    refine z_get (v := .ref (ad 57)) hx hb hts hown hK hw zZ12 0 rfl 83 (by decide) zm_291 rfl zd_LassoFinderModel_steps_21 ?_
    refine lv_aload_n hx hb zd_LassoFinderModel_steps_24 rfl (lv_at hl 0 rfl) ?_
    refine z_get (v := .int (I 26)) hx hb hts hown hK hw zZ12 0 rfl 82 (by decide) zm_331 rfl zd_LassoFinderModel_steps_25 ?_
    refine va_iald (f := (B 54)) hx hb hK hw.1 57 0 rfl rfl hok.1 zd_LassoFinderModel_steps_28 ?_
    have hok := hok.2
    refine lv_topi (fun z2 ez2 => ?_)
    have hok := hok z2 ez2
    refine lv_iconst (v := 1) hx hb zd_LassoFinderModel_steps_29 (by decide) ?_
    refine lv_iadd hx hb zd_LassoFinderModel_steps_30 ?_
    refine lv_topi (fun z3 ez3 => ?_)
    have hok := hok z3 ez3
    refine va_iald (f := (B 29)) hx hb hK hw.1 32 0 rfl rfl hok.1 zd_LassoFinderModel_steps_31 ?_
    have hok := hok.2
    refine lv_topi (fun z4 ez4 => ?_)
    have hok := hok z4 ez4
    refine lv_aload_n hx hb zd_LassoFinderModel_steps_32 rfl (lv_at hl 0 rfl) ?_
    refine z_get (v := .ref (ad 32)) hx hb hts hown hK hw zZ12 0 rfl 48 (by decide) zm_266 rfl zd_LassoFinderModel_steps_33 ?_
    refine lv_aload_n hx hb zd_LassoFinderModel_steps_36 rfl (lv_at hl 0 rfl) ?_
    refine z_get (v := .ref (ad 57)) hx hb hts hown hK hw zZ12 0 rfl 83 (by decide) zm_291 rfl zd_LassoFinderModel_steps_37 ?_
    refine lv_aload_n hx hb zd_LassoFinderModel_steps_40 rfl (lv_at hl 0 rfl) ?_
    refine z_get (v := .int (I 26)) hx hb hts hown hK hw zZ12 0 rfl 82 (by decide) zm_331 rfl zd_LassoFinderModel_steps_41 ?_
    refine va_iald (f := (B 54)) hx hb hK hw.1 57 0 rfl rfl hok.1 zd_LassoFinderModel_steps_44 ?_
    have hok := hok.2
    refine lv_topi (fun z5 ez5 => ?_)
    have hok := hok z5 ez5
    refine va_iald (f := (B 29)) hx hb hK hw.1 32 0 rfl rfl hok.1 zd_LassoFinderModel_steps_45 ?_
    have hok := hok.2
    refine lv_topi (fun z6 ez6 => ?_)
    have hok := hok z6 ez6
    refine lv_isub hx hb zd_LassoFinderModel_steps_46 ?_
    refine lv_topi (fun z7 ez7 => ?_)
    have hok := hok z7 ez7
    exact hj_47 z7 (upd I 0 0) J B D ls H locs hok (lv_sub hl [] rfl) hw
  · have hok := hok.2 hc1
    refine lv_iconst (v := 0) hx hb zd_LassoFinderModel_steps_12 (by decide) ?_
    refine lv_goto (tgt := 47) hx hb zd_LassoFinderModel_steps_13 (by decide) ?_
    exact hj_47 0 (upd I 0 0) J B D ls H locs hok (lv_sub hl [] rfl) hw
def wc_LassoFinderModel_go_76 (a0 : Int32) (Post : Int32 → (Nat → Int32) → (Nat → Int64) → (Nat → Nat → Int32) → (Nat → Nat → Int64) → Prop) (x1 : Int32) (x2 : Int32) (y0 : Int32) (I : Nat → Int32) (J : Nat → Int64) (B : Nat → Nat → Int32) (D : Nat → Nat → Int64) : Prop :=
  ((y0 ≤ 0 → ∀ z2 : Int32, z2 = ((I 26) + 1) → vp_in x2 98 ∧ ∀ z3 : Int32, z3 = ((B 29) x2.toNatClampNeg) → ∀ z4 : Int32, z4 = (z3 + x1) → vp_in z4 401 ∧ ∀ z5 : Int32, z5 = ((B 30) z4.toNatClampNeg) → vp_in z2 61 ∧ vp_in x2 98 ∧ ∀ z6 : Int32, z6 = ((B 29) x2.toNatClampNeg) → ∀ z7 : Int32, z7 = (z6 + x1) → vp_in z7 401 ∧ ∀ z8 : Int32, z8 = ((B 32) z7.toNatClampNeg) → Post z8 (upd (upd I 0 y0) 26 z2) J (va_up B 54 (upd (B 54) z2.toNatClampNeg z5)) D) ∧ (¬ y0 ≤ 0 → Post 0 (upd I 0 y0) J B D))
def wc_LassoFinderModel_go_20 (a0 : Int32) (Post : Int32 → (Nat → Int32) → (Nat → Int64) → (Nat → Nat → Int32) → (Nat → Nat → Int64) → Prop) (x1 : Int32) (y0 : Int32) (I : Nat → Int32) (J : Nat → Int64) (B : Nat → Nat → Int32) (D : Nat → Nat → Int64) : Prop :=
  (((0 : Int32) ≤ (I 26) → ∀ z10 : Int32, z10 = (y0 + 1) → vp_in z10 98 ∧ ∀ z11 : Int32, z11 = ((B 29) z10.toNatClampNeg) → vp_in y0 98 ∧ ∀ z12 : Int32, z12 = ((B 29) y0.toNatClampNeg) → ∀ z13 : Int32, z13 = (z11 - z12) → ∀ z14 : Int32, z14 = (z13 - 1) → wp_LassoFinderModel_in I J B D x1 0 z14 (fun r15 I15 J15 B15 D15 => ((¬ r15 = 0 → ((¬ (I15 26) = 60 → wc_LassoFinderModel_go_76 a0 Post x1 y0 0 I15 J15 B15 D15) ∧ ((I15 26) = 60 → wc_LassoFinderModel_go_76 a0 Post x1 y0 3 I15 J15 B15 D15))) ∧ (r15 = 0 → wc_LassoFinderModel_go_76 a0 Post x1 y0 2 I15 J15 B15 D15)))) ∧ (¬ (0 : Int32) ≤ (I 26) → wc_LassoFinderModel_go_76 a0 Post x1 y0 1 I J B D))
def wp_LassoFinderModel_go (I : Nat → Int32) (J : Nat → Int64) (B : Nat → Nat → Int32) (D : Nat → Nat → Int64) (a0 : Int32) (Post : Int32 → (Nat → Int32) → (Nat → Int64) → (Nat → Nat → Int32) → (Nat → Nat → Int64) → Prop) : Prop :=
  (((0 : Int32) ≤ (I 26) → vp_in (I 26) 61 ∧ ∀ z19 : Int32, z19 = ((B 54) (I 26).toNatClampNeg) → wc_LassoFinderModel_go_20 a0 Post a0 z19 I J B D) ∧ (¬ (0 : Int32) ≤ (I 26) → wc_LassoFinderModel_go_20 a0 Post a0 0 I J B D))
set_option maxHeartbeats 8000000 in
set_option maxRecDepth 100000 in
theorem w_LassoFinderModel_go (l : Launch) (G : va_G) (K : Nat → ClassId) (ad : Nat → Nat) (I : Nat → Int32) (J : Nat → Int64) (B : Nat → Nat → Int32) (D : Nat → Nat → Int64) (a0 : Int32) (Post : Int32 → (Nat → Int32) → (Nat → Int64) → (Nat → Nat → Int32) → (Nat → Nat → Int64) → Prop) (sz : Nat) (hok : wp_LassoFinderModel_go I J B D a0 Post) : Met l zy_LassoFinderModel_go (Cond.code zy_LassoFinderModel_go prog_14_method_72_code 3 (some .int) :: zTB) { frames := 1, cells := 0, slots := 0, locals := 22 } (va_Pc [.ref (ad 0), .int a0] (zPre G K (wM ad K I J B D) sz)) (va_Qi (fun (r : Int32) (u : zS) => Post r u.1 u.2.1 u.2.2.1 u.2.2.2) (fun u t => zPost G K (va_A (wM ad K I J B D) sz) (wM ad K u.1 u.2.1 u.2.2.1 u.2.2.2) t) (va_A (wM ad K I J B D) sz)) 0 0 (va_A (wM ad K I J B D) sz) := by
  refine zMet (y := zy_LassoFinderModel_go) (av := [.ref (ad 0), .int a0]) (maxL := 3) (cc := prog_14_method_72_code) (ret := (some .int)) (W0 := (wM ad K I J B D)) (sz := sz) (G := G) (K := K) (wt := zTB) (mc := 0) (ms := 0) (Qf := fun A => va_Qi (fun (r : Int32) (u : zS) => Post r u.1 u.2.1 u.2.2.1 u.2.2.2) (fun u t => zPost G K A (wM ad K u.1 u.2.1 u.2.2.1 u.2.2.2) t) A) (by decide) (Nat.le_of_ble_eq_true rfl) ?_
  intro p e s m below meth c ls A hx hb hr hml hts hown hlocks hin hA hK H locs hw hsz hl
  clear hsz
  have hown : s.vm.findClass "LassoFinderModel" = some m.cls := hown
  have hj_76 : ∀ (x1 : Int32) (x2 : Int32) (y0 : Int32) (I : Nat → Int32) (J : Nat → Int64) (B : Nat → Nat → Int32) (D : Nat → Nat → Int64) (ls : Array Slot) (H : Heap) (locs : List Loc), wc_LassoFinderModel_go_76 a0 Post x1 x2 y0 I J B D → lv_has ls 3 [(0, .ref (ad 0)), (1, .int x1), (2, .int x2)] → zW G A s.heap (wM ad K I J B D) H locs → W p l e { frames := 1, cells := 0, slots := 0, locals := 22 } s m ([.ref (ad 0), .int a0] : List Value).toArray below meth c H locs 0 0 (MQ below (va_Qi (fun (r : Int32) (u : zS) => Post r u.1 u.2.1 u.2.2.1 u.2.2.2) (fun u t => zPost G K A (wM ad K u.1 u.2.1 u.2.2.1 u.2.2.2) t) A) ([.ref (ad 0), .int a0] : List Value).toArray s 0 0 A) (F0 m 76 ls [.int y0, .ref (ad 0)]) := by
    intro x1 x2 y0 I J B D ls H locs hok hl hw
    unfold wc_LassoFinderModel_go_76 at hok
    refine z_put (v := .int y0) hx hb hts hown hK hw zZ12 0 rfl 0 (by decide) zm_292 rfl rfl rfl (Nat.le_of_ble_eq_true rfl) zd_LassoFinderModel_go_76 (fun H locs hw => ?_)
    have hw : zW G A s.heap (wM ad K (upd I 0 y0) J B D) H locs := hw
    refine lv_aload_n hx hb zd_LassoFinderModel_go_79 rfl (lv_at hl 0 rfl) ?_
    refine z_get (v := .int y0) hx hb hts hown hK hw zZ12 0 rfl 0 (by decide) zm_292 rfl zd_LassoFinderModel_go_80 ?_
    refine lv_if_le (tgt := 88) hx hb zd_LassoFinderModel_go_83 (by decide) (fun hc1 => ?_) (fun hc1 => ?_)
    · have hok := hok.1 hc1
      refine lv_aload_n hx hb zd_LassoFinderModel_go_88 rfl (lv_at hl 0 rfl) ?_
      refine lv_dup hx hb zd_LassoFinderModel_go_89 rfl ?_
      refine z_get (v := .int (I 26)) hx hb hts hown hK hw zZ12 0 rfl 82 (by decide) zm_331 rfl zd_LassoFinderModel_go_90 ?_
      refine lv_iconst (v := 1) hx hb zd_LassoFinderModel_go_93 (by decide) ?_
      refine lv_iadd hx hb zd_LassoFinderModel_go_94 ?_
      refine lv_topi (fun z2 ez2 => ?_)
      have hok := hok z2 ez2
      refine z_put (v := .int z2) hx hb hts hown hK hw zZ12 0 rfl 82 (by decide) zm_331 rfl rfl rfl (Nat.le_of_ble_eq_true rfl) zd_LassoFinderModel_go_95 (fun H locs hw => ?_)
      have hw : zW G A s.heap (wM ad K (upd (upd I 0 y0) 26 z2) J B D) H locs := hw
      refine lv_aload_n hx hb zd_LassoFinderModel_go_98 rfl (lv_at hl 0 rfl) ?_
      refine z_get (v := .ref (ad 57)) hx hb hts hown hK hw zZ12 0 rfl 83 (by decide) zm_291 rfl zd_LassoFinderModel_go_99 ?_
      refine lv_aload_n hx hb zd_LassoFinderModel_go_102 rfl (lv_at hl 0 rfl) ?_
      refine z_get (v := .int z2) hx hb hts hown hK hw zZ12 0 rfl 82 (by decide) zm_331 rfl zd_LassoFinderModel_go_103 ?_
      refine lv_aload_n hx hb zd_LassoFinderModel_go_106 rfl (lv_at hl 0 rfl) ?_
      refine z_get (v := .ref (ad 33)) hx hb hts hown hK hw zZ12 0 rfl 49 (by decide) zm_267 rfl zd_LassoFinderModel_go_107 ?_
      refine lv_aload_n hx hb zd_LassoFinderModel_go_110 rfl (lv_at hl 0 rfl) ?_
      refine z_get (v := .ref (ad 32)) hx hb hts hown hK hw zZ12 0 rfl 48 (by decide) zm_266 rfl zd_LassoFinderModel_go_111 ?_
      refine lv_iload_n hx hb zd_LassoFinderModel_go_114 rfl (lv_at hl 2 rfl) ?_
      refine va_iald (f := (B 29)) hx hb hK hw.1 32 0 rfl rfl hok.1 zd_LassoFinderModel_go_115 ?_
      have hok := hok.2
      refine lv_topi (fun z3 ez3 => ?_)
      have hok := hok z3 ez3
      refine lv_iload_n hx hb zd_LassoFinderModel_go_116 rfl (lv_at hl 1 rfl) ?_
      refine lv_iadd hx hb zd_LassoFinderModel_go_117 ?_
      refine lv_topi (fun z4 ez4 => ?_)
      have hok := hok z4 ez4
      refine va_iald (f := (B 30)) hx hb hK hw.1 33 0 rfl rfl hok.1 zd_LassoFinderModel_go_118 ?_
      have hok := hok.2
      refine lv_topi (fun z5 ez5 => ?_)
      have hok := hok z5 ez5
      refine va_iast (f := (B 54)) hx hb hK hw.1 hw.2.1 hw.2.2 57 0 rfl rfl hok.1 zd_LassoFinderModel_go_119 (fun H locs a1 a2 a3 => ?_)
      have hok := hok.2
      have hw : zW G A s.heap _ H locs := ⟨a1, a2, a3⟩
      have hw : zW G A s.heap (wM ad K (upd (upd I 0 y0) 26 z2) J (va_up B 54 (upd (B 54) z2.toNatClampNeg z5)) D) H locs := hw
      refine lv_aload_n hx hb zd_LassoFinderModel_go_120 rfl (lv_at hl 0 rfl) ?_
      refine z_get (v := .ref (ad 35)) hx hb hts hown hK hw zZ12 0 rfl 51 (by decide) zm_269 rfl zd_LassoFinderModel_go_121 ?_
      refine lv_aload_n hx hb zd_LassoFinderModel_go_124 rfl (lv_at hl 0 rfl) ?_
      refine z_get (v := .ref (ad 32)) hx hb hts hown hK hw zZ12 0 rfl 48 (by decide) zm_266 rfl zd_LassoFinderModel_go_125 ?_
      refine lv_iload_n hx hb zd_LassoFinderModel_go_128 rfl (lv_at hl 2 rfl) ?_
      refine va_iald (f := (B 29)) hx hb hK hw.1 32 0 rfl rfl hok.1 zd_LassoFinderModel_go_129 ?_
      have hok := hok.2
      refine lv_topi (fun z6 ez6 => ?_)
      have hok := hok z6 ez6
      refine lv_iload_n hx hb zd_LassoFinderModel_go_130 rfl (lv_at hl 1 rfl) ?_
      refine lv_iadd hx hb zd_LassoFinderModel_go_131 ?_
      refine lv_topi (fun z7 ez7 => ?_)
      have hok := hok z7 ez7
      refine va_iald (f := (B 32)) hx hb hK hw.1 35 0 rfl rfl hok.1 zd_LassoFinderModel_go_132 ?_
      have hok := hok.2
      refine lv_topi (fun z8 ez8 => ?_)
      have hok := hok z8 ez8
      exact z_iret (u := ((upd (upd I 0 y0) 26 z2), J, (va_up B 54 (upd (B 54) z2.toNatClampNeg z5)), D)) hx hb hr hlocks rfl hw [0, 1, 2, 3, 4, 5, 6, 7, 8, 9, 10, 11, 12, 13, 14, 15, 16, 17, 18, 19, 20, 21, 22, 23, 24, 25, 26, 27, 28, 29, 30, 31, 32, 33, 34, 35, 36, 37, 38, 39, 40, 41, 42, 43, 44, 45, 46, 47, 48, 49, 50, 51, 52, 53, 54, 55, 56, 57] rfl (by decide) hok (Nat.le_of_ble_eq_true rfl) (Nat.le_of_ble_eq_true rfl) zd_LassoFinderModel_go_133
    · have hok := hok.2 hc1
      refine lv_iconst (v := 0) hx hb zd_LassoFinderModel_go_86 (by decide) ?_
      exact z_iret (u := ((upd I 0 y0), J, B, D)) hx hb hr hlocks rfl hw [0, 1, 2, 3, 4, 5, 6, 7, 8, 9, 10, 11, 12, 13, 14, 15, 16, 17, 18, 19, 20, 21, 22, 23, 24, 25, 26, 27, 28, 29, 30, 31, 32, 33, 34, 35, 36, 37, 38, 39, 40, 41, 42, 43, 44, 45, 46, 47, 48, 49, 50, 51, 52, 53, 54, 55, 56, 57] rfl (by decide) hok (Nat.le_of_ble_eq_true rfl) (Nat.le_of_ble_eq_true rfl) zd_LassoFinderModel_go_87
  have hj_20 : ∀ (x1 : Int32) (y0 : Int32) (I : Nat → Int32) (J : Nat → Int64) (B : Nat → Nat → Int32) (D : Nat → Nat → Int64) (ls : Array Slot) (H : Heap) (locs : List Loc), wc_LassoFinderModel_go_20 a0 Post x1 y0 I J B D → lv_has ls 3 [(0, .ref (ad 0)), (1, .int x1)] → zW G A s.heap (wM ad K I J B D) H locs → W p l e { frames := 1, cells := 0, slots := 0, locals := 22 } s m ([.ref (ad 0), .int a0] : List Value).toArray below meth c H locs 0 0 (MQ below (va_Qi (fun (r : Int32) (u : zS) => Post r u.1 u.2.1 u.2.2.1 u.2.2.2) (fun u t => zPost G K A (wM ad K u.1 u.2.1 u.2.2.1 u.2.2.2) t) A) ([.ref (ad 0), .int a0] : List Value).toArray s 0 0 A) (F0 m 20 ls [.int y0]) := by
    intro x1 y0 I J B D ls H locs hok hl hw
    unfold wc_LassoFinderModel_go_20 at hok
    refine lv_istore_n hx hb zd_LassoFinderModel_go_20 rfl hl (by decide) rfl (fun ls hl => ?_)
    have hl : lv_has ls 3 [(2, .int y0), (0, .ref (ad 0)), (1, .int x1)] := hl
    refine lv_aload_n hx hb zd_LassoFinderModel_go_21 rfl (lv_at hl 1 rfl) ?_
    refine lv_aload_n hx hb zd_LassoFinderModel_go_22 rfl (lv_at hl 1 rfl) ?_
    refine z_get (v := .int (I 26)) hx hb hts hown hK hw zZ12 0 rfl 82 (by decide) zm_331 rfl zd_LassoFinderModel_go_23 ?_
    refine lv_if_ge (tgt := 33) hx hb zd_LassoFinderModel_go_26 (by decide) (fun hc9 => ?_) (fun hc9 => ?_)
    · have hok := hok.1 hc9
      refine lv_iload_n hx hb zd_LassoFinderModel_go_33 rfl (lv_at hl 2 rfl) ?_
      refine lv_iconst (v := 0) hx hb zd_LassoFinderModel_go_34 (by decide) ?_
      refine lv_aload_n hx hb zd_LassoFinderModel_go_35 rfl (lv_at hl 1 rfl) ?_
      refine z_get (v := .ref (ad 32)) hx hb hts hown hK hw zZ12 0 rfl 48 (by decide) zm_266 rfl zd_LassoFinderModel_go_36 ?_
      refine lv_iload_n hx hb zd_LassoFinderModel_go_39 rfl (lv_at hl 0 rfl) ?_
      refine lv_iconst (v := 1) hx hb zd_LassoFinderModel_go_40 (by decide) ?_
      refine lv_iadd hx hb zd_LassoFinderModel_go_41 ?_
      refine lv_topi (fun z10 ez10 => ?_)
      have hok := hok z10 ez10
      refine va_iald (f := (B 29)) hx hb hK hw.1 32 0 rfl rfl hok.1 zd_LassoFinderModel_go_42 ?_
      have hok := hok.2
      refine lv_topi (fun z11 ez11 => ?_)
      have hok := hok z11 ez11
      refine lv_aload_n hx hb zd_LassoFinderModel_go_43 rfl (lv_at hl 1 rfl) ?_
      refine z_get (v := .ref (ad 32)) hx hb hts hown hK hw zZ12 0 rfl 48 (by decide) zm_266 rfl zd_LassoFinderModel_go_44 ?_
      refine lv_iload_n hx hb zd_LassoFinderModel_go_47 rfl (lv_at hl 0 rfl) ?_
      refine va_iald (f := (B 29)) hx hb hK hw.1 32 0 rfl rfl hok.1 zd_LassoFinderModel_go_48 ?_
      have hok := hok.2
      refine lv_topi (fun z12 ez12 => ?_)
      have hok := hok z12 ez12
      refine lv_isub hx hb zd_LassoFinderModel_go_49 ?_
      refine lv_topi (fun z13 ez13 => ?_)
      have hok := hok z13 ez13
      refine lv_iconst (v := 1) hx hb zd_LassoFinderModel_go_50 (by decide) ?_
      refine lv_isub hx hb zd_LassoFinderModel_go_51 ?_
      refine lv_topi (fun z14 ez14 => ?_)
      have hok := hok z14 ez14
      refine z_calli (w1 := fun (u : zS) => wM ad K u.1 u.2.1 u.2.2.1 u.2.2.2) (wr := []) (z_runS (wc := (wM ad K I J B D)) (As := [.int x1, .int 0, .int z14]) (rest := [.ref (ad 0)]) ⟨hx, hb, hml, hown, hts⟩ (w_LassoFinderModel_in l G K ad I J B D x1 0 z14 _ H.size hok) zf_LassoFinderModel_in zm_293 ⟨Nat.le_of_ble_eq_true rfl, Nat.le_of_ble_eq_true rfl⟩ hK hw [0, 1, 2, 3, 4, 5, 6, 7, 8, 9, 10, 11, 12, 13, 14, 15, 16, 17, 18, 19, 20, 21, 22, 23, 24, 25, 26, 27, 28, 29, 30, 31, 32, 33, 34, 35, 36, 37, 38, 39, 40, 41, 42, 43, 44, 45, 46, 47, 48, 49, 50, 51, 52, 53, 54, 55, 56, 57] rfl (by decide) rfl hl.1 rfl (Nat.le_of_ble_eq_true rfl) zd_LassoFinderModel_go_52 ⟨Nat.le_of_ble_eq_true rfl, Nat.le_of_ble_eq_true rfl⟩) hw hA [0, 1, 2, 3, 4, 5, 6, 7, 8, 9, 10, 11, 12, 13, 14, 15, 16, 17, 18, 19, 20, 21, 22, 23, 24, 25, 26, 27, 28, 29, 30, 31, 32, 33, 34, 35, 36, 37, 38, 39, 40, 41, 42, 43, 44, 45, 46, 47, 48, 49, 50, 51, 52, 53, 54, 55, 56, 57] [] rfl rfl (by decide) (by decide) (fun r15 u H locs hok hw => ?_)
      obtain ⟨I15, J15, B15, D15⟩ := u
      dsimp only at hok
      have hw : zW G A s.heap (wM ad K I15 J15 B15 D15) H locs := hw
      refine lv_if_ne (tgt := 62) hx hb zd_LassoFinderModel_go_55 (by decide) (fun hc16 => ?_) (fun hc16 => ?_)
      · have hok := hok.1 hc16
        refine lv_aload_n hx hb zd_LassoFinderModel_go_62 rfl (lv_at hl 1 rfl) ?_
        refine z_get (v := .int (I15 26)) hx hb hts hown hK hw zZ12 0 rfl 82 (by decide) zm_331 rfl zd_LassoFinderModel_go_63 ?_
        refine lv_bipush (v := 60) hx hb zd_LassoFinderModel_go_66 (by decide) ?_
        refine lv_icmp_ne (tgt := 75) hx hb zd_LassoFinderModel_go_68 (by decide) (fun hc17 => ?_) (fun hc17 => ?_)
        · have hok := hok.1 hc17
          refine lv_iconst (v := 0) hx hb zd_LassoFinderModel_go_75 (by decide) ?_
          exact hj_76 x1 y0 0 I15 J15 B15 D15 ls H locs hok (lv_sub hl [1, 2, 0] rfl) hw
        · have hok := hok.2 hc17
          refine lv_iconst (v := 3) hx hb zd_LassoFinderModel_go_71 (by decide) ?_
          refine lv_goto (tgt := 76) hx hb zd_LassoFinderModel_go_72 (by decide) ?_
          exact hj_76 x1 y0 3 I15 J15 B15 D15 ls H locs hok (lv_sub hl [1, 2, 0] rfl) hw
      · have hok := hok.2 hc16
        refine lv_iconst (v := 2) hx hb zd_LassoFinderModel_go_58 (by decide) ?_
        refine lv_goto (tgt := 76) hx hb zd_LassoFinderModel_go_59 (by decide) ?_
        exact hj_76 x1 y0 2 I15 J15 B15 D15 ls H locs hok (lv_sub hl [1, 2, 0] rfl) hw
    · have hok := hok.2 hc9
      refine lv_iconst (v := 1) hx hb zd_LassoFinderModel_go_29 (by decide) ?_
      refine lv_goto (tgt := 76) hx hb zd_LassoFinderModel_go_30 (by decide) ?_
      exact hj_76 x1 y0 1 I J B D ls H locs hok (lv_sub hl [1, 2, 0] rfl) hw
  have hl : lv_has ls 3 [(0, .ref (ad 0)), (1, .int a0)] := hl
  have hw : zW G A s.heap (wM ad K I J B D) H locs := hw
  unfold wp_LassoFinderModel_go at hok
  refine lv_aload_n hx hb zd_LassoFinderModel_go_0 rfl (lv_at hl 0 rfl) ?_
  refine z_get (v := .int (I 26)) hx hb hts hown hK hw zZ12 0 rfl 82 (by decide) zm_331 rfl zd_LassoFinderModel_go_1 ?_
  refine lv_if_ge (tgt := 11) hx hb zd_LassoFinderModel_go_4 (by decide) (fun hc18 => ?_) (fun hc18 => ?_)
  · have hok := hok.1 hc18
    refine lv_aload_n hx hb zd_LassoFinderModel_go_11 rfl (lv_at hl 0 rfl) ?_
    refine z_get (v := .ref (ad 57)) hx hb hts hown hK hw zZ12 0 rfl 83 (by decide) zm_291 rfl zd_LassoFinderModel_go_12 ?_
    refine lv_aload_n hx hb zd_LassoFinderModel_go_15 rfl (lv_at hl 0 rfl) ?_
    refine z_get (v := .int (I 26)) hx hb hts hown hK hw zZ12 0 rfl 82 (by decide) zm_331 rfl zd_LassoFinderModel_go_16 ?_
    refine va_iald (f := (B 54)) hx hb hK hw.1 57 0 rfl rfl hok.1 zd_LassoFinderModel_go_19 ?_
    have hok := hok.2
    refine lv_topi (fun z19 ez19 => ?_)
    have hok := hok z19 ez19
    exact hj_20 a0 z19 I J B D ls H locs hok (lv_sub hl [0, 1] rfl) hw
  · have hok := hok.2 hc18
    refine lv_iconst (v := 0) hx hb zd_LassoFinderModel_go_7 (by decide) ?_
    refine lv_goto (tgt := 20) hx hb zd_LassoFinderModel_go_8 (by decide) ?_
    exact hj_20 a0 0 I J B D ls H locs hok (lv_sub hl [0, 1] rfl) hw
def wc_LassoFinderModel_stood_42 (Post : Int32 → (Nat → Int32) → (Nat → Int64) → (Nat → Nat → Int32) → (Nat → Nat → Int64) → Prop) (y0 : Int32) (I : Nat → Int32) (J : Nat → Int64) (B : Nat → Nat → Int32) (D : Nat → Nat → Int64) : Prop :=
  (y0 = 0 ∨ y0 = 1) ∧ Post y0 I J B D
def wc_LassoFinderModel_stood_30 (Post : Int32 → (Nat → Int32) → (Nat → Int64) → (Nat → Nat → Int32) → (Nat → Nat → Int64) → Prop)  (I : Nat → Int32) (J : Nat → Int64) (B : Nat → Nat → Int32) (D : Nat → Nat → Int64) : Prop :=
  (((I 26) < 0 → wc_LassoFinderModel_stood_42  Post 0 I J B D) ∧ (¬ (I 26) < 0 → wc_LassoFinderModel_stood_42  Post 1 I J B D))
def wp_LassoFinderModel_stood (I : Nat → Int32) (J : Nat → Int64) (B : Nat → Nat → Int32) (D : Nat → Nat → Int64) (Post : Int32 → (Nat → Int32) → (Nat → Int64) → (Nat → Nat → Int32) → (Nat → Nat → Int64) → Prop) : Prop :=
  (((I 26) < 0 → wc_LassoFinderModel_stood_30  Post (upd I 0 0) J B D) ∧ (¬ (I 26) < 0 → vp_in (I 26) 61 ∧ ∀ z3 : Int32, z3 = ((B 54) (I 26).toNatClampNeg) → vp_in z3 97 ∧ ∀ z4 : Int64, z4 = ((D 1) z3.toNatClampNeg) → wp_LassoFinderModel_unpack (upd I 0 0) J B D z4 (fun I5 J5 B5 D5 => wc_LassoFinderModel_stood_30  Post I5 J5 B5 D5)))
set_option maxHeartbeats 8000000 in
set_option maxRecDepth 100000 in
theorem w_LassoFinderModel_stood (l : Launch) (G : va_G) (K : Nat → ClassId) (ad : Nat → Nat) (I : Nat → Int32) (J : Nat → Int64) (B : Nat → Nat → Int32) (D : Nat → Nat → Int64) (Post : Int32 → (Nat → Int32) → (Nat → Int64) → (Nat → Nat → Int32) → (Nat → Nat → Int64) → Prop) (sz : Nat) (hok : wp_LassoFinderModel_stood I J B D  Post) : Met l zy_LassoFinderModel_stood (Cond.code zy_LassoFinderModel_stood prog_14_method_73_code 1 (some .boolean) :: zTB) { frames := 1, cells := 0, slots := 0, locals := 24 } (va_Pc [.ref (ad 0)] (zPre G K (wM ad K I J B D) sz)) (va_Qi (fun (r : Int32) (u : zS) => Post r u.1 u.2.1 u.2.2.1 u.2.2.2) (fun u t => zPost G K (va_A (wM ad K I J B D) sz) (wM ad K u.1 u.2.1 u.2.2.1 u.2.2.2) t) (va_A (wM ad K I J B D) sz)) 0 0 (va_A (wM ad K I J B D) sz) := by
  refine zMet (y := zy_LassoFinderModel_stood) (av := [.ref (ad 0)]) (maxL := 1) (cc := prog_14_method_73_code) (ret := (some .boolean)) (W0 := (wM ad K I J B D)) (sz := sz) (G := G) (K := K) (wt := zTB) (mc := 0) (ms := 0) (Qf := fun A => va_Qi (fun (r : Int32) (u : zS) => Post r u.1 u.2.1 u.2.2.1 u.2.2.2) (fun u t => zPost G K A (wM ad K u.1 u.2.1 u.2.2.1 u.2.2.2) t) A) (by decide) (Nat.le_of_ble_eq_true rfl) ?_
  intro p e s m below meth c ls A hx hb hr hml hts hown hlocks hin hA hK H locs hw hsz hl
  clear hsz
  have hown : s.vm.findClass "LassoFinderModel" = some m.cls := hown
  have hj_42 : ∀ (y0 : Int32) (I : Nat → Int32) (J : Nat → Int64) (B : Nat → Nat → Int32) (D : Nat → Nat → Int64) (ls : Array Slot) (H : Heap) (locs : List Loc), wc_LassoFinderModel_stood_42  Post y0 I J B D → lv_has ls 1 [] → zW G A s.heap (wM ad K I J B D) H locs → W p l e { frames := 1, cells := 0, slots := 0, locals := 24 } s m ([.ref (ad 0)] : List Value).toArray below meth c H locs 0 0 (MQ below (va_Qi (fun (r : Int32) (u : zS) => Post r u.1 u.2.1 u.2.2.1 u.2.2.2) (fun u t => zPost G K A (wM ad K u.1 u.2.1 u.2.2.1 u.2.2.2) t) A) ([.ref (ad 0)] : List Value).toArray s 0 0 A) (F0 m 42 ls [.int y0]) := by
    intro y0 I J B D ls H locs hok hl hw
    unfold wc_LassoFinderModel_stood_42 at hok
    have hbo := hok.1
    have hok := hok.2
    exact z_iret (u := (I, J, B, D)) hx hb hr hlocks (z_nar hbo) hw [0, 1, 2, 3, 4, 5, 6, 7, 8, 9, 10, 11, 12, 13, 14, 15, 16, 17, 18, 19, 20, 21, 22, 23, 24, 25, 26, 27, 28, 29, 30, 31, 32, 33, 34, 35, 36, 37, 38, 39, 40, 41, 42, 43, 44, 45, 46, 47, 48, 49, 50, 51, 52, 53, 54, 55, 56, 57] rfl (by decide) hok (Nat.le_of_ble_eq_true rfl) (Nat.le_of_ble_eq_true rfl) zd_LassoFinderModel_stood_42
  have hj_30 : ∀  (I : Nat → Int32) (J : Nat → Int64) (B : Nat → Nat → Int32) (D : Nat → Nat → Int64) (ls : Array Slot) (H : Heap) (locs : List Loc), wc_LassoFinderModel_stood_30  Post  I J B D → lv_has ls 1 [(0, .ref (ad 0))] → zW G A s.heap (wM ad K I J B D) H locs → W p l e { frames := 1, cells := 0, slots := 0, locals := 24 } s m ([.ref (ad 0)] : List Value).toArray below meth c H locs 0 0 (MQ below (va_Qi (fun (r : Int32) (u : zS) => Post r u.1 u.2.1 u.2.2.1 u.2.2.2) (fun u t => zPost G K A (wM ad K u.1 u.2.1 u.2.2.1 u.2.2.2) t) A) ([.ref (ad 0)] : List Value).toArray s 0 0 A) (F0 m 30 ls []) := by
    intro  I J B D ls H locs hok hl hw
    unfold wc_LassoFinderModel_stood_30 at hok
    refine lv_aload_n hx hb zd_LassoFinderModel_stood_30 rfl (lv_at hl 0 rfl) ?_
    refine z_get (v := .int (I 26)) hx hb hts hown hK hw zZ12 0 rfl 82 (by decide) zm_331 rfl zd_LassoFinderModel_stood_31 ?_
    refine lv_if_lt (tgt := 41) hx hb zd_LassoFinderModel_stood_34 (by decide) (fun hc1 => ?_) (fun hc1 => ?_)
    · have hok := hok.1 hc1
      refine lv_iconst (v := 0) hx hb zd_LassoFinderModel_stood_41 (by decide) ?_
      exact hj_42 0 I J B D ls H locs hok (lv_sub hl [] rfl) hw
    · have hok := hok.2 hc1
      refine lv_iconst (v := 1) hx hb zd_LassoFinderModel_stood_37 (by decide) ?_
      refine lv_goto (tgt := 42) hx hb zd_LassoFinderModel_stood_38 (by decide) ?_
      exact hj_42 1 I J B D ls H locs hok (lv_sub hl [] rfl) hw
  have hl : lv_has ls 1 [(0, .ref (ad 0))] := hl
  have hw : zW G A s.heap (wM ad K I J B D) H locs := hw
  unfold wp_LassoFinderModel_stood at hok
  refine lv_aload_n hx hb zd_LassoFinderModel_stood_0 rfl (lv_at hl 0 rfl) ?_
  refine lv_iconst (v := 0) hx hb zd_LassoFinderModel_stood_1 (by decide) ?_
  refine z_put (v := .int 0) hx hb hts hown hK hw zZ12 0 rfl 0 (by decide) zm_292 rfl rfl rfl (Nat.le_of_ble_eq_true rfl) zd_LassoFinderModel_stood_2 (fun H locs hw => ?_)
  have hw : zW G A s.heap (wM ad K (upd I 0 0) J B D) H locs := hw
  refine lv_aload_n hx hb zd_LassoFinderModel_stood_5 rfl (lv_at hl 0 rfl) ?_
  refine z_get (v := .int (I 26)) hx hb hts hown hK hw zZ12 0 rfl 82 (by decide) zm_331 rfl zd_LassoFinderModel_stood_6 ?_
  refine lv_if_lt (tgt := 30) hx hb zd_LassoFinderModel_stood_9 (by decide) (fun hc2 => ?_) (fun hc2 => ?_)
  · have hok := hok.1 hc2
    exact hj_30 (upd I 0 0) J B D ls H locs hok (lv_sub hl [0] rfl) hw
  · have hok := hok.2 hc2
    refine lv_aload_n hx hb zd_LassoFinderModel_stood_12 rfl (lv_at hl 0 rfl) ?_
    refine lv_aload_n hx hb zd_LassoFinderModel_stood_13 rfl (lv_at hl 0 rfl) ?_
    refine z_get (v := .ref (ad 31)) hx hb hts hown hK hw zZ12 0 rfl 47 (by decide) zm_265 rfl zd_LassoFinderModel_stood_14 ?_
    refine lv_aload_n hx hb zd_LassoFinderModel_stood_17 rfl (lv_at hl 0 rfl) ?_
    refine z_get (v := .ref (ad 57)) hx hb hts hown hK hw zZ12 0 rfl 83 (by decide) zm_291 rfl zd_LassoFinderModel_stood_18 ?_
    refine lv_aload_n hx hb zd_LassoFinderModel_stood_21 rfl (lv_at hl 0 rfl) ?_
    refine z_get (v := .int (I 26)) hx hb hts hown hK hw zZ12 0 rfl 82 (by decide) zm_331 rfl zd_LassoFinderModel_stood_22 ?_
    refine va_iald (f := (B 54)) hx hb hK hw.1 57 0 rfl rfl hok.1 zd_LassoFinderModel_stood_25 ?_
    have hok := hok.2
    refine lv_topi (fun z3 ez3 => ?_)
    have hok := hok z3 ez3
    refine va_lald (f := (D 1)) hx hb hK hw.1 31 1 rfl rfl hok.1 zd_LassoFinderModel_stood_26 ?_
    have hok := hok.2
    refine lv_topl (fun z4 ez4 => ?_)
    have hok := hok z4 ez4
    refine z_callv (w1 := fun (u : zS) => wM ad K u.1 u.2.1 u.2.2.1 u.2.2.2) (wr := []) (z_runV (q0 := 0) (wc := (wM ad K (upd I 0 0) J B D)) (As := [.long z4]) (rest := []) ⟨hx, hb, hml, hown, hts⟩ (w_LassoFinderModel_unpack l G K ad (upd I 0 0) J B D z4 _ H.size hok) zf_LassoFinderModel_unpack zm_315 ⟨Nat.le_of_ble_eq_true rfl, Nat.le_of_ble_eq_true rfl⟩ hK hw [0, 1, 2, 3, 4, 5, 6, 7, 8, 9, 10, 11, 12, 13, 14, 15, 16, 17, 18, 19, 20, 21, 22, 23, 24, 25, 26, 27, 28, 29, 30, 31, 32, 33, 34, 35, 36, 37, 38, 39, 40, 41, 42, 43, 44, 45, 46, 47, 48, 49, 50, 51, 52, 53, 54, 55, 56, 57] rfl (by decide) rfl rfl rfl hl.1 rfl (Nat.le_of_ble_eq_true rfl) zd_LassoFinderModel_stood_27 ⟨Nat.le_of_ble_eq_true rfl, Nat.le_of_ble_eq_true rfl⟩) hw hA [0, 1, 2, 3, 4, 5, 6, 7, 8, 9, 10, 11, 12, 13, 14, 15, 16, 17, 18, 19, 20, 21, 22, 23, 24, 25, 26, 27, 28, 29, 30, 31, 32, 33, 34, 35, 36, 37, 38, 39, 40, 41, 42, 43, 44, 45, 46, 47, 48, 49, 50, 51, 52, 53, 54, 55, 56, 57] [] rfl rfl (by decide) (by decide) (fun u H locs hok hw => ?_)
    obtain ⟨I5, J5, B5, D5⟩ := u
    dsimp only at hok
    have hw : zW G A s.heap (wM ad K I5 J5 B5 D5) H locs := hw
    exact hj_30 I5 J5 B5 D5 ls H locs hok (lv_sub hl [0] rfl) hw
def wc_LassoFinderModel_value_17 (a0 : Int32) (Post : Int32 → (Nat → Int32) → (Nat → Int64) → (Nat → Nat → Int32) → (Nat → Nat → Int64) → Prop)  (I : Nat → Int32) (J : Nat → Int64) (B : Nat → Nat → Int32) (D : Nat → Nat → Int64) : Prop :=
  Post (-1) I J B D
def wc_LassoFinderModel_value_66 (a0 : Int32) (Post : Int32 → (Nat → Int32) → (Nat → Int64) → (Nat → Nat → Int32) → (Nat → Nat → Int64) → Prop) (y0 : Int32) (I : Nat → Int32) (J : Nat → Int64) (B : Nat → Nat → Int32) (D : Nat → Nat → Int64) : Prop :=
  Post y0 I J B D
def wp_LassoFinderModel_value (I : Nat → Int32) (J : Nat → Int64) (B : Nat → Nat → Int32) (D : Nat → Nat → Int64) (a0 : Int32) (Post : Int32 → (Nat → Int32) → (Nat → Int64) → (Nat → Nat → Int32) → (Nat → Nat → Int64) → Prop) : Prop :=
  wp_LassoFinderModel_stood I J B D  (fun r1 I1 J1 B1 D1 => ((r1 = 0 → wc_LassoFinderModel_value_17 a0 Post I1 J1 B1 D1) ∧ (¬ r1 = 0 → wp_LassoFinderModel_in I1 J1 B1 D1 a0 0 7 (fun r3 I3 J3 B3 D3 => ((¬ r3 = 0 → vp_in a0 8 ∧ ∀ z5 : Int32, z5 = ((B3 1) a0.toNatClampNeg) → ((z5 < 0 → vp_in a0 8 ∧ ∀ z7 : Int32, z7 = ((B3 2) a0.toNatClampNeg) → ((z7 < 0 → wc_LassoFinderModel_value_66 a0 Post (-1) I3 J3 B3 D3) ∧ (¬ z7 < 0 → vp_in a0 8 ∧ ∀ z9 : Int32, z9 = ((B3 2) a0.toNatClampNeg) → vp_in z9 2 ∧ ∀ z10 : Int32, z10 = ((B3 37) z9.toNatClampNeg) → wc_LassoFinderModel_value_66 a0 Post z10 I3 J3 B3 D3))) ∧ (¬ z5 < 0 → vp_in a0 8 ∧ ∀ z11 : Int32, z11 = ((B3 1) a0.toNatClampNeg) → vp_in z11 6 ∧ ∀ z12 : Int32, z12 = ((B3 36) z11.toNatClampNeg) → wc_LassoFinderModel_value_66 a0 Post z12 I3 J3 B3 D3))) ∧ (r3 = 0 → wc_LassoFinderModel_value_17 a0 Post I3 J3 B3 D3))))))
set_option maxHeartbeats 8000000 in
set_option maxRecDepth 100000 in
theorem w_LassoFinderModel_value (l : Launch) (G : va_G) (K : Nat → ClassId) (ad : Nat → Nat) (I : Nat → Int32) (J : Nat → Int64) (B : Nat → Nat → Int32) (D : Nat → Nat → Int64) (a0 : Int32) (Post : Int32 → (Nat → Int32) → (Nat → Int64) → (Nat → Nat → Int32) → (Nat → Nat → Int64) → Prop) (sz : Nat) (hok : wp_LassoFinderModel_value I J B D a0 Post) : Met l zy_LassoFinderModel_value (Cond.code zy_LassoFinderModel_value prog_14_method_74_code 2 (some .int) :: zTB) { frames := 2, cells := 0, slots := 0, locals := 44 } (va_Pc [.ref (ad 0), .int a0] (zPre G K (wM ad K I J B D) sz)) (va_Qi (fun (r : Int32) (u : zS) => Post r u.1 u.2.1 u.2.2.1 u.2.2.2) (fun u t => zPost G K (va_A (wM ad K I J B D) sz) (wM ad K u.1 u.2.1 u.2.2.1 u.2.2.2) t) (va_A (wM ad K I J B D) sz)) 0 0 (va_A (wM ad K I J B D) sz) := by
  refine zMet (y := zy_LassoFinderModel_value) (av := [.ref (ad 0), .int a0]) (maxL := 2) (cc := prog_14_method_74_code) (ret := (some .int)) (W0 := (wM ad K I J B D)) (sz := sz) (G := G) (K := K) (wt := zTB) (mc := 0) (ms := 0) (Qf := fun A => va_Qi (fun (r : Int32) (u : zS) => Post r u.1 u.2.1 u.2.2.1 u.2.2.2) (fun u t => zPost G K A (wM ad K u.1 u.2.1 u.2.2.1 u.2.2.2) t) A) (by decide) (Nat.le_of_ble_eq_true rfl) ?_
  intro p e s m below meth c ls A hx hb hr hml hts hown hlocks hin hA hK H locs hw hsz hl
  clear hsz
  have hown : s.vm.findClass "LassoFinderModel" = some m.cls := hown
  have hj_17 : ∀  (I : Nat → Int32) (J : Nat → Int64) (B : Nat → Nat → Int32) (D : Nat → Nat → Int64) (ls : Array Slot) (H : Heap) (locs : List Loc), wc_LassoFinderModel_value_17 a0 Post  I J B D → lv_has ls 2 [] → zW G A s.heap (wM ad K I J B D) H locs → W p l e { frames := 2, cells := 0, slots := 0, locals := 44 } s m ([.ref (ad 0), .int a0] : List Value).toArray below meth c H locs 0 0 (MQ below (va_Qi (fun (r : Int32) (u : zS) => Post r u.1 u.2.1 u.2.2.1 u.2.2.2) (fun u t => zPost G K A (wM ad K u.1 u.2.1 u.2.2.1 u.2.2.2) t) A) ([.ref (ad 0), .int a0] : List Value).toArray s 0 0 A) (F0 m 17 ls []) := by
    intro  I J B D ls H locs hok hl hw
    unfold wc_LassoFinderModel_value_17 at hok
    refine lv_iconst (v := (-1)) hx hb zd_LassoFinderModel_value_17 (by decide) ?_
    exact z_iret (u := (I, J, B, D)) hx hb hr hlocks rfl hw [0, 1, 2, 3, 4, 5, 6, 7, 8, 9, 10, 11, 12, 13, 14, 15, 16, 17, 18, 19, 20, 21, 22, 23, 24, 25, 26, 27, 28, 29, 30, 31, 32, 33, 34, 35, 36, 37, 38, 39, 40, 41, 42, 43, 44, 45, 46, 47, 48, 49, 50, 51, 52, 53, 54, 55, 56, 57] rfl (by decide) hok (Nat.le_of_ble_eq_true rfl) (Nat.le_of_ble_eq_true rfl) zd_LassoFinderModel_value_18
  have hj_66 : ∀ (y0 : Int32) (I : Nat → Int32) (J : Nat → Int64) (B : Nat → Nat → Int32) (D : Nat → Nat → Int64) (ls : Array Slot) (H : Heap) (locs : List Loc), wc_LassoFinderModel_value_66 a0 Post y0 I J B D → lv_has ls 2 [] → zW G A s.heap (wM ad K I J B D) H locs → W p l e { frames := 2, cells := 0, slots := 0, locals := 44 } s m ([.ref (ad 0), .int a0] : List Value).toArray below meth c H locs 0 0 (MQ below (va_Qi (fun (r : Int32) (u : zS) => Post r u.1 u.2.1 u.2.2.1 u.2.2.2) (fun u t => zPost G K A (wM ad K u.1 u.2.1 u.2.2.1 u.2.2.2) t) A) ([.ref (ad 0), .int a0] : List Value).toArray s 0 0 A) (F0 m 66 ls [.int y0]) := by
    intro y0 I J B D ls H locs hok hl hw
    unfold wc_LassoFinderModel_value_66 at hok
    exact z_iret (u := (I, J, B, D)) hx hb hr hlocks rfl hw [0, 1, 2, 3, 4, 5, 6, 7, 8, 9, 10, 11, 12, 13, 14, 15, 16, 17, 18, 19, 20, 21, 22, 23, 24, 25, 26, 27, 28, 29, 30, 31, 32, 33, 34, 35, 36, 37, 38, 39, 40, 41, 42, 43, 44, 45, 46, 47, 48, 49, 50, 51, 52, 53, 54, 55, 56, 57] rfl (by decide) hok (Nat.le_of_ble_eq_true rfl) (Nat.le_of_ble_eq_true rfl) zd_LassoFinderModel_value_66
  have hl : lv_has ls 2 [(0, .ref (ad 0)), (1, .int a0)] := hl
  have hw : zW G A s.heap (wM ad K I J B D) H locs := hw
  unfold wp_LassoFinderModel_value at hok
  refine lv_aload_n hx hb zd_LassoFinderModel_value_0 rfl (lv_at hl 0 rfl) ?_
  refine z_calli (w1 := fun (u : zS) => wM ad K u.1 u.2.1 u.2.2.1 u.2.2.2) (wr := []) (z_runV (q0 := 0) (wc := (wM ad K I J B D)) (As := []) (rest := []) ⟨hx, hb, hml, hown, hts⟩ (w_LassoFinderModel_stood l G K ad I J B D  _ H.size hok) zf_LassoFinderModel_stood zm_381 ⟨Nat.le_of_ble_eq_true rfl, Nat.le_of_ble_eq_true rfl⟩ hK hw [0, 1, 2, 3, 4, 5, 6, 7, 8, 9, 10, 11, 12, 13, 14, 15, 16, 17, 18, 19, 20, 21, 22, 23, 24, 25, 26, 27, 28, 29, 30, 31, 32, 33, 34, 35, 36, 37, 38, 39, 40, 41, 42, 43, 44, 45, 46, 47, 48, 49, 50, 51, 52, 53, 54, 55, 56, 57] rfl (by decide) rfl rfl rfl hl.1 rfl (Nat.le_of_ble_eq_true rfl) zd_LassoFinderModel_value_1 ⟨Nat.le_of_ble_eq_true rfl, Nat.le_of_ble_eq_true rfl⟩) hw hA [0, 1, 2, 3, 4, 5, 6, 7, 8, 9, 10, 11, 12, 13, 14, 15, 16, 17, 18, 19, 20, 21, 22, 23, 24, 25, 26, 27, 28, 29, 30, 31, 32, 33, 34, 35, 36, 37, 38, 39, 40, 41, 42, 43, 44, 45, 46, 47, 48, 49, 50, 51, 52, 53, 54, 55, 56, 57] [] rfl rfl (by decide) (by decide) (fun r1 u H locs hok hw => ?_)
  obtain ⟨I1, J1, B1, D1⟩ := u
  dsimp only at hok
  have hw : zW G A s.heap (wM ad K I1 J1 B1 D1) H locs := hw
  refine lv_if_eq (tgt := 17) hx hb zd_LassoFinderModel_value_4 (by decide) (fun hc2 => ?_) (fun hc2 => ?_)
  · have hok := hok.1 hc2
    exact hj_17 I1 J1 B1 D1 ls H locs hok (lv_sub hl [] rfl) hw
  · have hok := hok.2 hc2
    refine lv_iload_n hx hb zd_LassoFinderModel_value_7 rfl (lv_at hl 1 rfl) ?_
    refine lv_iconst (v := 0) hx hb zd_LassoFinderModel_value_8 (by decide) ?_
    refine lv_bipush (v := 7) hx hb zd_LassoFinderModel_value_9 (by decide) ?_
    refine z_calli (w1 := fun (u : zS) => wM ad K u.1 u.2.1 u.2.2.1 u.2.2.2) (wr := []) (z_runS (wc := (wM ad K I1 J1 B1 D1)) (As := [.int a0, .int 0, .int 7]) (rest := []) ⟨hx, hb, hml, hown, hts⟩ (w_LassoFinderModel_in l G K ad I1 J1 B1 D1 a0 0 7 _ H.size hok) zf_LassoFinderModel_in zm_293 ⟨Nat.le_of_ble_eq_true rfl, Nat.le_of_ble_eq_true rfl⟩ hK hw [0, 1, 2, 3, 4, 5, 6, 7, 8, 9, 10, 11, 12, 13, 14, 15, 16, 17, 18, 19, 20, 21, 22, 23, 24, 25, 26, 27, 28, 29, 30, 31, 32, 33, 34, 35, 36, 37, 38, 39, 40, 41, 42, 43, 44, 45, 46, 47, 48, 49, 50, 51, 52, 53, 54, 55, 56, 57] rfl (by decide) rfl hl.1 rfl (Nat.le_of_ble_eq_true rfl) zd_LassoFinderModel_value_11 ⟨Nat.le_of_ble_eq_true rfl, Nat.le_of_ble_eq_true rfl⟩) hw hA [0, 1, 2, 3, 4, 5, 6, 7, 8, 9, 10, 11, 12, 13, 14, 15, 16, 17, 18, 19, 20, 21, 22, 23, 24, 25, 26, 27, 28, 29, 30, 31, 32, 33, 34, 35, 36, 37, 38, 39, 40, 41, 42, 43, 44, 45, 46, 47, 48, 49, 50, 51, 52, 53, 54, 55, 56, 57] [] rfl rfl (by decide) (by decide) (fun r3 u H locs hok hw => ?_)
    obtain ⟨I3, J3, B3, D3⟩ := u
    dsimp only at hok
    have hw : zW G A s.heap (wM ad K I3 J3 B3 D3) H locs := hw
    refine lv_if_ne (tgt := 19) hx hb zd_LassoFinderModel_value_14 (by decide) (fun hc4 => ?_) (fun hc4 => ?_)
    · have hok := hok.1 hc4
      refine lv_aload_n hx hb zd_LassoFinderModel_value_19 rfl (lv_at hl 0 rfl) ?_
      refine z_get (v := .ref (ad 2)) hx hb hts hown hK hw zZ12 0 rfl 9 (by decide) zm_236 rfl zd_LassoFinderModel_value_20 ?_
      refine lv_iload_n hx hb zd_LassoFinderModel_value_23 rfl (lv_at hl 1 rfl) ?_
      refine va_iald (f := (B3 1)) hx hb hK hw.1 2 0 rfl rfl hok.1 zd_LassoFinderModel_value_24 ?_
      have hok := hok.2
      refine lv_topi (fun z5 ez5 => ?_)
      have hok := hok z5 ez5
      refine lv_if_lt (tgt := 42) hx hb zd_LassoFinderModel_value_25 (by decide) (fun hc6 => ?_) (fun hc6 => ?_)
      · have hok := hok.1 hc6
        refine lv_aload_n hx hb zd_LassoFinderModel_value_42 rfl (lv_at hl 0 rfl) ?_
        refine z_get (v := .ref (ad 3)) hx hb hts hown hK hw zZ12 0 rfl 10 (by decide) zm_237 rfl zd_LassoFinderModel_value_43 ?_
        refine lv_iload_n hx hb zd_LassoFinderModel_value_46 rfl (lv_at hl 1 rfl) ?_
        refine va_iald (f := (B3 2)) hx hb hK hw.1 3 0 rfl rfl hok.1 zd_LassoFinderModel_value_47 ?_
        have hok := hok.2
        refine lv_topi (fun z7 ez7 => ?_)
        have hok := hok z7 ez7
        refine lv_if_lt (tgt := 65) hx hb zd_LassoFinderModel_value_48 (by decide) (fun hc8 => ?_) (fun hc8 => ?_)
        · have hok := hok.1 hc8
          refine lv_iconst (v := (-1)) hx hb zd_LassoFinderModel_value_65 (by decide) ?_
          exact hj_66 (-1) I3 J3 B3 D3 ls H locs hok (lv_sub hl [] rfl) hw
        · have hok := hok.2 hc8
          refine lv_aload_n hx hb zd_LassoFinderModel_value_51 rfl (lv_at hl 0 rfl) ?_
          refine z_get (v := .ref (ad 40)) hx hb hts hown hK hw zZ12 0 rfl 56 (by decide) zm_274 rfl zd_LassoFinderModel_value_52 ?_
          refine lv_aload_n hx hb zd_LassoFinderModel_value_55 rfl (lv_at hl 0 rfl) ?_
          refine z_get (v := .ref (ad 3)) hx hb hts hown hK hw zZ12 0 rfl 10 (by decide) zm_237 rfl zd_LassoFinderModel_value_56 ?_
          refine lv_iload_n hx hb zd_LassoFinderModel_value_59 rfl (lv_at hl 1 rfl) ?_
          refine va_iald (f := (B3 2)) hx hb hK hw.1 3 0 rfl rfl hok.1 zd_LassoFinderModel_value_60 ?_
          have hok := hok.2
          refine lv_topi (fun z9 ez9 => ?_)
          have hok := hok z9 ez9
          refine va_iald (f := (B3 37)) hx hb hK hw.1 40 0 rfl rfl hok.1 zd_LassoFinderModel_value_61 ?_
          have hok := hok.2
          refine lv_topi (fun z10 ez10 => ?_)
          have hok := hok z10 ez10
          refine lv_goto (tgt := 66) hx hb zd_LassoFinderModel_value_62 (by decide) ?_
          exact hj_66 z10 I3 J3 B3 D3 ls H locs hok (lv_sub hl [] rfl) hw
      · have hok := hok.2 hc6
        refine lv_aload_n hx hb zd_LassoFinderModel_value_28 rfl (lv_at hl 0 rfl) ?_
        refine z_get (v := .ref (ad 39)) hx hb hts hown hK hw zZ12 0 rfl 55 (by decide) zm_273 rfl zd_LassoFinderModel_value_29 ?_
        refine lv_aload_n hx hb zd_LassoFinderModel_value_32 rfl (lv_at hl 0 rfl) ?_
        refine z_get (v := .ref (ad 2)) hx hb hts hown hK hw zZ12 0 rfl 9 (by decide) zm_236 rfl zd_LassoFinderModel_value_33 ?_
        refine lv_iload_n hx hb zd_LassoFinderModel_value_36 rfl (lv_at hl 1 rfl) ?_
        refine va_iald (f := (B3 1)) hx hb hK hw.1 2 0 rfl rfl hok.1 zd_LassoFinderModel_value_37 ?_
        have hok := hok.2
        refine lv_topi (fun z11 ez11 => ?_)
        have hok := hok z11 ez11
        refine va_iald (f := (B3 36)) hx hb hK hw.1 39 0 rfl rfl hok.1 zd_LassoFinderModel_value_38 ?_
        have hok := hok.2
        refine lv_topi (fun z12 ez12 => ?_)
        have hok := hok z12 ez12
        refine lv_goto (tgt := 66) hx hb zd_LassoFinderModel_value_39 (by decide) ?_
        exact hj_66 z12 I3 J3 B3 D3 ls H locs hok (lv_sub hl [] rfl) hw
    · have hok := hok.2 hc4
      exact hj_17 I3 J3 B3 D3 ls H locs hok (lv_sub hl [] rfl) hw
def wc_LassoFinderModel_message_47 (a0 : Int32) (a1 : Int32) (Post : Int32 → (Nat → Int32) → (Nat → Int64) → (Nat → Nat → Int32) → (Nat → Nat → Int64) → Prop)  (I : Nat → Int32) (J : Nat → Int64) (B : Nat → Nat → Int32) (D : Nat → Nat → Int64) : Prop :=
  Post (-1) I J B D
def wp_LassoFinderModel_message (I : Nat → Int32) (J : Nat → Int64) (B : Nat → Nat → Int32) (D : Nat → Nat → Int64) (a0 : Int32) (a1 : Int32) (Post : Int32 → (Nat → Int32) → (Nat → Int64) → (Nat → Nat → Int32) → (Nat → Nat → Int64) → Prop) : Prop :=
  wp_LassoFinderModel_stood I J B D  (fun r1 I1 J1 B1 D1 => ((r1 = 0 → wc_LassoFinderModel_message_47 a0 a1 Post I1 J1 B1 D1) ∧ (¬ r1 = 0 → wp_LassoFinderModel_in I1 J1 B1 D1 a0 0 7 (fun r3 I3 J3 B3 D3 => ((r3 = 0 → wc_LassoFinderModel_message_47 a0 a1 Post I3 J3 B3 D3) ∧ (¬ r3 = 0 → vp_in a0 8 ∧ ∀ z5 : Int32, z5 = ((B3 2) a0.toNatClampNeg) → ((z5 < 0 → wc_LassoFinderModel_message_47 a0 a1 Post I3 J3 B3 D3) ∧ (¬ z5 < 0 → vp_in a0 8 ∧ ∀ z7 : Int32, z7 = ((B3 2) a0.toNatClampNeg) → vp_in z7 2 ∧ ∀ z8 : Int32, z8 = ((B3 37) z7.toNatClampNeg) → ∀ z9 : Int32, z9 = (z8 - 1) → wp_LassoFinderModel_in I3 J3 B3 D3 a1 0 z9 (fun r10 I10 J10 B10 D10 => ((¬ r10 = 0 → vp_in a0 8 ∧ ∀ z12 : Int32, z12 = ((B10 2) a0.toNatClampNeg) → ∀ z13 : Int32, z13 = (3 * z12) → ∀ z14 : Int32, z14 = (z13 + a1) → vp_in z14 6 ∧ ∀ z15 : Int32, z15 = ((B10 38) z14.toNatClampNeg) → Post z15 I10 J10 B10 D10) ∧ (r10 = 0 → wc_LassoFinderModel_message_47 a0 a1 Post I10 J10 B10 D10)))))))))))
set_option maxHeartbeats 8000000 in
set_option maxRecDepth 100000 in
theorem w_LassoFinderModel_message (l : Launch) (G : va_G) (K : Nat → ClassId) (ad : Nat → Nat) (I : Nat → Int32) (J : Nat → Int64) (B : Nat → Nat → Int32) (D : Nat → Nat → Int64) (a0 : Int32) (a1 : Int32) (Post : Int32 → (Nat → Int32) → (Nat → Int64) → (Nat → Nat → Int32) → (Nat → Nat → Int64) → Prop) (sz : Nat) (hok : wp_LassoFinderModel_message I J B D a0 a1 Post) : Met l zy_LassoFinderModel_message (Cond.code zy_LassoFinderModel_message prog_14_method_75_code 3 (some .int) :: zTB) { frames := 2, cells := 0, slots := 0, locals := 44 } (va_Pc [.ref (ad 0), .int a0, .int a1] (zPre G K (wM ad K I J B D) sz)) (va_Qi (fun (r : Int32) (u : zS) => Post r u.1 u.2.1 u.2.2.1 u.2.2.2) (fun u t => zPost G K (va_A (wM ad K I J B D) sz) (wM ad K u.1 u.2.1 u.2.2.1 u.2.2.2) t) (va_A (wM ad K I J B D) sz)) 0 0 (va_A (wM ad K I J B D) sz) := by
  refine zMet (y := zy_LassoFinderModel_message) (av := [.ref (ad 0), .int a0, .int a1]) (maxL := 3) (cc := prog_14_method_75_code) (ret := (some .int)) (W0 := (wM ad K I J B D)) (sz := sz) (G := G) (K := K) (wt := zTB) (mc := 0) (ms := 0) (Qf := fun A => va_Qi (fun (r : Int32) (u : zS) => Post r u.1 u.2.1 u.2.2.1 u.2.2.2) (fun u t => zPost G K A (wM ad K u.1 u.2.1 u.2.2.1 u.2.2.2) t) A) (by decide) (Nat.le_of_ble_eq_true rfl) ?_
  intro p e s m below meth c ls A hx hb hr hml hts hown hlocks hin hA hK H locs hw hsz hl
  clear hsz
  have hown : s.vm.findClass "LassoFinderModel" = some m.cls := hown
  have hj_47 : ∀  (I : Nat → Int32) (J : Nat → Int64) (B : Nat → Nat → Int32) (D : Nat → Nat → Int64) (ls : Array Slot) (H : Heap) (locs : List Loc), wc_LassoFinderModel_message_47 a0 a1 Post  I J B D → lv_has ls 3 [] → zW G A s.heap (wM ad K I J B D) H locs → W p l e { frames := 2, cells := 0, slots := 0, locals := 44 } s m ([.ref (ad 0), .int a0, .int a1] : List Value).toArray below meth c H locs 0 0 (MQ below (va_Qi (fun (r : Int32) (u : zS) => Post r u.1 u.2.1 u.2.2.1 u.2.2.2) (fun u t => zPost G K A (wM ad K u.1 u.2.1 u.2.2.1 u.2.2.2) t) A) ([.ref (ad 0), .int a0, .int a1] : List Value).toArray s 0 0 A) (F0 m 47 ls []) := by
    intro  I J B D ls H locs hok hl hw
    unfold wc_LassoFinderModel_message_47 at hok
    refine lv_iconst (v := (-1)) hx hb zd_LassoFinderModel_message_47 (by decide) ?_
    exact z_iret (u := (I, J, B, D)) hx hb hr hlocks rfl hw [0, 1, 2, 3, 4, 5, 6, 7, 8, 9, 10, 11, 12, 13, 14, 15, 16, 17, 18, 19, 20, 21, 22, 23, 24, 25, 26, 27, 28, 29, 30, 31, 32, 33, 34, 35, 36, 37, 38, 39, 40, 41, 42, 43, 44, 45, 46, 47, 48, 49, 50, 51, 52, 53, 54, 55, 56, 57] rfl (by decide) hok (Nat.le_of_ble_eq_true rfl) (Nat.le_of_ble_eq_true rfl) zd_LassoFinderModel_message_48
  have hl : lv_has ls 3 [(0, .ref (ad 0)), (1, .int a0), (2, .int a1)] := hl
  have hw : zW G A s.heap (wM ad K I J B D) H locs := hw
  unfold wp_LassoFinderModel_message at hok
  refine lv_aload_n hx hb zd_LassoFinderModel_message_0 rfl (lv_at hl 0 rfl) ?_
  refine z_calli (w1 := fun (u : zS) => wM ad K u.1 u.2.1 u.2.2.1 u.2.2.2) (wr := []) (z_runV (q0 := 0) (wc := (wM ad K I J B D)) (As := []) (rest := []) ⟨hx, hb, hml, hown, hts⟩ (w_LassoFinderModel_stood l G K ad I J B D  _ H.size hok) zf_LassoFinderModel_stood zm_381 ⟨Nat.le_of_ble_eq_true rfl, Nat.le_of_ble_eq_true rfl⟩ hK hw [0, 1, 2, 3, 4, 5, 6, 7, 8, 9, 10, 11, 12, 13, 14, 15, 16, 17, 18, 19, 20, 21, 22, 23, 24, 25, 26, 27, 28, 29, 30, 31, 32, 33, 34, 35, 36, 37, 38, 39, 40, 41, 42, 43, 44, 45, 46, 47, 48, 49, 50, 51, 52, 53, 54, 55, 56, 57] rfl (by decide) rfl rfl rfl hl.1 rfl (Nat.le_of_ble_eq_true rfl) zd_LassoFinderModel_message_1 ⟨Nat.le_of_ble_eq_true rfl, Nat.le_of_ble_eq_true rfl⟩) hw hA [0, 1, 2, 3, 4, 5, 6, 7, 8, 9, 10, 11, 12, 13, 14, 15, 16, 17, 18, 19, 20, 21, 22, 23, 24, 25, 26, 27, 28, 29, 30, 31, 32, 33, 34, 35, 36, 37, 38, 39, 40, 41, 42, 43, 44, 45, 46, 47, 48, 49, 50, 51, 52, 53, 54, 55, 56, 57] [] rfl rfl (by decide) (by decide) (fun r1 u H locs hok hw => ?_)
  obtain ⟨I1, J1, B1, D1⟩ := u
  dsimp only at hok
  have hw : zW G A s.heap (wM ad K I1 J1 B1 D1) H locs := hw
  refine lv_if_eq (tgt := 47) hx hb zd_LassoFinderModel_message_4 (by decide) (fun hc2 => ?_) (fun hc2 => ?_)
  · have hok := hok.1 hc2
    exact hj_47 I1 J1 B1 D1 ls H locs hok (lv_sub hl [] rfl) hw
  · have hok := hok.2 hc2
    refine lv_iload_n hx hb zd_LassoFinderModel_message_7 rfl (lv_at hl 1 rfl) ?_
    refine lv_iconst (v := 0) hx hb zd_LassoFinderModel_message_8 (by decide) ?_
    refine lv_bipush (v := 7) hx hb zd_LassoFinderModel_message_9 (by decide) ?_
    refine z_calli (w1 := fun (u : zS) => wM ad K u.1 u.2.1 u.2.2.1 u.2.2.2) (wr := []) (z_runS (wc := (wM ad K I1 J1 B1 D1)) (As := [.int a0, .int 0, .int 7]) (rest := []) ⟨hx, hb, hml, hown, hts⟩ (w_LassoFinderModel_in l G K ad I1 J1 B1 D1 a0 0 7 _ H.size hok) zf_LassoFinderModel_in zm_293 ⟨Nat.le_of_ble_eq_true rfl, Nat.le_of_ble_eq_true rfl⟩ hK hw [0, 1, 2, 3, 4, 5, 6, 7, 8, 9, 10, 11, 12, 13, 14, 15, 16, 17, 18, 19, 20, 21, 22, 23, 24, 25, 26, 27, 28, 29, 30, 31, 32, 33, 34, 35, 36, 37, 38, 39, 40, 41, 42, 43, 44, 45, 46, 47, 48, 49, 50, 51, 52, 53, 54, 55, 56, 57] rfl (by decide) rfl hl.1 rfl (Nat.le_of_ble_eq_true rfl) zd_LassoFinderModel_message_11 ⟨Nat.le_of_ble_eq_true rfl, Nat.le_of_ble_eq_true rfl⟩) hw hA [0, 1, 2, 3, 4, 5, 6, 7, 8, 9, 10, 11, 12, 13, 14, 15, 16, 17, 18, 19, 20, 21, 22, 23, 24, 25, 26, 27, 28, 29, 30, 31, 32, 33, 34, 35, 36, 37, 38, 39, 40, 41, 42, 43, 44, 45, 46, 47, 48, 49, 50, 51, 52, 53, 54, 55, 56, 57] [] rfl rfl (by decide) (by decide) (fun r3 u H locs hok hw => ?_)
    obtain ⟨I3, J3, B3, D3⟩ := u
    dsimp only at hok
    have hw : zW G A s.heap (wM ad K I3 J3 B3 D3) H locs := hw
    refine lv_if_eq (tgt := 47) hx hb zd_LassoFinderModel_message_14 (by decide) (fun hc4 => ?_) (fun hc4 => ?_)
    · have hok := hok.1 hc4
      exact hj_47 I3 J3 B3 D3 ls H locs hok (lv_sub hl [] rfl) hw
    · have hok := hok.2 hc4
      refine lv_aload_n hx hb zd_LassoFinderModel_message_17 rfl (lv_at hl 0 rfl) ?_
      refine z_get (v := .ref (ad 3)) hx hb hts hown hK hw zZ12 0 rfl 10 (by decide) zm_237 rfl zd_LassoFinderModel_message_18 ?_
      refine lv_iload_n hx hb zd_LassoFinderModel_message_21 rfl (lv_at hl 1 rfl) ?_
      refine va_iald (f := (B3 2)) hx hb hK hw.1 3 0 rfl rfl hok.1 zd_LassoFinderModel_message_22 ?_
      have hok := hok.2
      refine lv_topi (fun z5 ez5 => ?_)
      have hok := hok z5 ez5
      refine lv_if_lt (tgt := 47) hx hb zd_LassoFinderModel_message_23 (by decide) (fun hc6 => ?_) (fun hc6 => ?_)
      · have hok := hok.1 hc6
        exact hj_47 I3 J3 B3 D3 ls H locs hok (lv_sub hl [] rfl) hw
      · have hok := hok.2 hc6
        refine lv_iload_n hx hb zd_LassoFinderModel_message_26 rfl (lv_at hl 2 rfl) ?_
        refine lv_iconst (v := 0) hx hb zd_LassoFinderModel_message_27 (by decide) ?_
        refine lv_aload_n hx hb zd_LassoFinderModel_message_28 rfl (lv_at hl 0 rfl) ?_
        refine z_get (v := .ref (ad 40)) hx hb hts hown hK hw zZ12 0 rfl 56 (by decide) zm_274 rfl zd_LassoFinderModel_message_29 ?_
        refine lv_aload_n hx hb zd_LassoFinderModel_message_32 rfl (lv_at hl 0 rfl) ?_
        refine z_get (v := .ref (ad 3)) hx hb hts hown hK hw zZ12 0 rfl 10 (by decide) zm_237 rfl zd_LassoFinderModel_message_33 ?_
        refine lv_iload_n hx hb zd_LassoFinderModel_message_36 rfl (lv_at hl 1 rfl) ?_
        refine va_iald (f := (B3 2)) hx hb hK hw.1 3 0 rfl rfl hok.1 zd_LassoFinderModel_message_37 ?_
        have hok := hok.2
        refine lv_topi (fun z7 ez7 => ?_)
        have hok := hok z7 ez7
        refine va_iald (f := (B3 37)) hx hb hK hw.1 40 0 rfl rfl hok.1 zd_LassoFinderModel_message_38 ?_
        have hok := hok.2
        refine lv_topi (fun z8 ez8 => ?_)
        have hok := hok z8 ez8
        refine lv_iconst (v := 1) hx hb zd_LassoFinderModel_message_39 (by decide) ?_
        refine lv_isub hx hb zd_LassoFinderModel_message_40 ?_
        refine lv_topi (fun z9 ez9 => ?_)
        have hok := hok z9 ez9
        refine z_calli (w1 := fun (u : zS) => wM ad K u.1 u.2.1 u.2.2.1 u.2.2.2) (wr := []) (z_runS (wc := (wM ad K I3 J3 B3 D3)) (As := [.int a1, .int 0, .int z9]) (rest := []) ⟨hx, hb, hml, hown, hts⟩ (w_LassoFinderModel_in l G K ad I3 J3 B3 D3 a1 0 z9 _ H.size hok) zf_LassoFinderModel_in zm_293 ⟨Nat.le_of_ble_eq_true rfl, Nat.le_of_ble_eq_true rfl⟩ hK hw [0, 1, 2, 3, 4, 5, 6, 7, 8, 9, 10, 11, 12, 13, 14, 15, 16, 17, 18, 19, 20, 21, 22, 23, 24, 25, 26, 27, 28, 29, 30, 31, 32, 33, 34, 35, 36, 37, 38, 39, 40, 41, 42, 43, 44, 45, 46, 47, 48, 49, 50, 51, 52, 53, 54, 55, 56, 57] rfl (by decide) rfl hl.1 rfl (Nat.le_of_ble_eq_true rfl) zd_LassoFinderModel_message_41 ⟨Nat.le_of_ble_eq_true rfl, Nat.le_of_ble_eq_true rfl⟩) hw hA [0, 1, 2, 3, 4, 5, 6, 7, 8, 9, 10, 11, 12, 13, 14, 15, 16, 17, 18, 19, 20, 21, 22, 23, 24, 25, 26, 27, 28, 29, 30, 31, 32, 33, 34, 35, 36, 37, 38, 39, 40, 41, 42, 43, 44, 45, 46, 47, 48, 49, 50, 51, 52, 53, 54, 55, 56, 57] [] rfl rfl (by decide) (by decide) (fun r10 u H locs hok hw => ?_)
        obtain ⟨I10, J10, B10, D10⟩ := u
        dsimp only at hok
        have hw : zW G A s.heap (wM ad K I10 J10 B10 D10) H locs := hw
        refine lv_if_ne (tgt := 49) hx hb zd_LassoFinderModel_message_44 (by decide) (fun hc11 => ?_) (fun hc11 => ?_)
        · have hok := hok.1 hc11
          refine lv_aload_n hx hb zd_LassoFinderModel_message_49 rfl (lv_at hl 0 rfl) ?_
          refine z_get (v := .ref (ad 41)) hx hb hts hown hK hw zZ12 0 rfl 57 (by decide) zm_275 rfl zd_LassoFinderModel_message_50 ?_
          refine lv_iconst (v := 3) hx hb zd_LassoFinderModel_message_53 (by decide) ?_
          refine lv_aload_n hx hb zd_LassoFinderModel_message_54 rfl (lv_at hl 0 rfl) ?_
          refine z_get (v := .ref (ad 3)) hx hb hts hown hK hw zZ12 0 rfl 10 (by decide) zm_237 rfl zd_LassoFinderModel_message_55 ?_
          refine lv_iload_n hx hb zd_LassoFinderModel_message_58 rfl (lv_at hl 1 rfl) ?_
          refine va_iald (f := (B10 2)) hx hb hK hw.1 3 0 rfl rfl hok.1 zd_LassoFinderModel_message_59 ?_
          have hok := hok.2
          refine lv_topi (fun z12 ez12 => ?_)
          have hok := hok z12 ez12
          refine lv_imul hx hb zd_LassoFinderModel_message_60 ?_
          refine lv_topi (fun z13 ez13 => ?_)
          have hok := hok z13 ez13
          refine lv_iload_n hx hb zd_LassoFinderModel_message_61 rfl (lv_at hl 2 rfl) ?_
          refine lv_iadd hx hb zd_LassoFinderModel_message_62 ?_
          refine lv_topi (fun z14 ez14 => ?_)
          have hok := hok z14 ez14
          refine va_iald (f := (B10 38)) hx hb hK hw.1 41 0 rfl rfl hok.1 zd_LassoFinderModel_message_63 ?_
          have hok := hok.2
          refine lv_topi (fun z15 ez15 => ?_)
          have hok := hok z15 ez15
          exact z_iret (u := (I10, J10, B10, D10)) hx hb hr hlocks rfl hw [0, 1, 2, 3, 4, 5, 6, 7, 8, 9, 10, 11, 12, 13, 14, 15, 16, 17, 18, 19, 20, 21, 22, 23, 24, 25, 26, 27, 28, 29, 30, 31, 32, 33, 34, 35, 36, 37, 38, 39, 40, 41, 42, 43, 44, 45, 46, 47, 48, 49, 50, 51, 52, 53, 54, 55, 56, 57] rfl (by decide) hok (Nat.le_of_ble_eq_true rfl) (Nat.le_of_ble_eq_true rfl) zd_LassoFinderModel_message_64
        · have hok := hok.2 hc11
          exact hj_47 I10 J10 B10 D10 ls H locs hok (lv_sub hl [] rfl) hw
def wc_LassoFinderModel_point_31 (a0 : Int32) (Post : Int32 → (Nat → Int32) → (Nat → Int64) → (Nat → Nat → Int32) → (Nat → Nat → Int64) → Prop) (y0 : Int32) (I : Nat → Int32) (J : Nat → Int64) (B : Nat → Nat → Int32) (D : Nat → Nat → Int64) : Prop :=
  Post y0 I J B D
def wc_LassoFinderModel_point_30 (a0 : Int32) (Post : Int32 → (Nat → Int32) → (Nat → Int64) → (Nat → Nat → Int32) → (Nat → Nat → Int64) → Prop)  (I : Nat → Int32) (J : Nat → Int64) (B : Nat → Nat → Int32) (D : Nat → Nat → Int64) : Prop :=
  wc_LassoFinderModel_point_31 a0 Post (-1) I J B D
def wp_LassoFinderModel_point (I : Nat → Int32) (J : Nat → Int64) (B : Nat → Nat → Int32) (D : Nat → Nat → Int64) (a0 : Int32) (Post : Int32 → (Nat → Int32) → (Nat → Int64) → (Nat → Nat → Int32) → (Nat → Nat → Int64) → Prop) : Prop :=
  wp_LassoFinderModel_stood I J B D  (fun r1 I1 J1 B1 D1 => ((r1 = 0 → wc_LassoFinderModel_point_30 a0 Post I1 J1 B1 D1) ∧ (¬ r1 = 0 → ∀ z3 : Int32, z3 = ((I1 10) - 1) → wp_LassoFinderModel_in I1 J1 B1 D1 a0 0 z3 (fun r4 I4 J4 B4 D4 => ((r4 = 0 → wc_LassoFinderModel_point_30 a0 Post I4 J4 B4 D4) ∧ (¬ r4 = 0 → vp_in a0 4 ∧ ∀ z6 : Int32, z6 = ((B4 39) a0.toNatClampNeg) → wc_LassoFinderModel_point_31 a0 Post z6 I4 J4 B4 D4))))))
set_option maxHeartbeats 8000000 in
set_option maxRecDepth 100000 in
theorem w_LassoFinderModel_point (l : Launch) (G : va_G) (K : Nat → ClassId) (ad : Nat → Nat) (I : Nat → Int32) (J : Nat → Int64) (B : Nat → Nat → Int32) (D : Nat → Nat → Int64) (a0 : Int32) (Post : Int32 → (Nat → Int32) → (Nat → Int64) → (Nat → Nat → Int32) → (Nat → Nat → Int64) → Prop) (sz : Nat) (hok : wp_LassoFinderModel_point I J B D a0 Post) : Met l zy_LassoFinderModel_point (Cond.code zy_LassoFinderModel_point prog_14_method_76_code 2 (some .int) :: zTB) { frames := 2, cells := 0, slots := 0, locals := 44 } (va_Pc [.ref (ad 0), .int a0] (zPre G K (wM ad K I J B D) sz)) (va_Qi (fun (r : Int32) (u : zS) => Post r u.1 u.2.1 u.2.2.1 u.2.2.2) (fun u t => zPost G K (va_A (wM ad K I J B D) sz) (wM ad K u.1 u.2.1 u.2.2.1 u.2.2.2) t) (va_A (wM ad K I J B D) sz)) 0 0 (va_A (wM ad K I J B D) sz) := by
  refine zMet (y := zy_LassoFinderModel_point) (av := [.ref (ad 0), .int a0]) (maxL := 2) (cc := prog_14_method_76_code) (ret := (some .int)) (W0 := (wM ad K I J B D)) (sz := sz) (G := G) (K := K) (wt := zTB) (mc := 0) (ms := 0) (Qf := fun A => va_Qi (fun (r : Int32) (u : zS) => Post r u.1 u.2.1 u.2.2.1 u.2.2.2) (fun u t => zPost G K A (wM ad K u.1 u.2.1 u.2.2.1 u.2.2.2) t) A) (by decide) (Nat.le_of_ble_eq_true rfl) ?_
  intro p e s m below meth c ls A hx hb hr hml hts hown hlocks hin hA hK H locs hw hsz hl
  clear hsz
  have hown : s.vm.findClass "LassoFinderModel" = some m.cls := hown
  have hj_31 : ∀ (y0 : Int32) (I : Nat → Int32) (J : Nat → Int64) (B : Nat → Nat → Int32) (D : Nat → Nat → Int64) (ls : Array Slot) (H : Heap) (locs : List Loc), wc_LassoFinderModel_point_31 a0 Post y0 I J B D → lv_has ls 2 [] → zW G A s.heap (wM ad K I J B D) H locs → W p l e { frames := 2, cells := 0, slots := 0, locals := 44 } s m ([.ref (ad 0), .int a0] : List Value).toArray below meth c H locs 0 0 (MQ below (va_Qi (fun (r : Int32) (u : zS) => Post r u.1 u.2.1 u.2.2.1 u.2.2.2) (fun u t => zPost G K A (wM ad K u.1 u.2.1 u.2.2.1 u.2.2.2) t) A) ([.ref (ad 0), .int a0] : List Value).toArray s 0 0 A) (F0 m 31 ls [.int y0]) := by
    intro y0 I J B D ls H locs hok hl hw
    unfold wc_LassoFinderModel_point_31 at hok
    exact z_iret (u := (I, J, B, D)) hx hb hr hlocks rfl hw [0, 1, 2, 3, 4, 5, 6, 7, 8, 9, 10, 11, 12, 13, 14, 15, 16, 17, 18, 19, 20, 21, 22, 23, 24, 25, 26, 27, 28, 29, 30, 31, 32, 33, 34, 35, 36, 37, 38, 39, 40, 41, 42, 43, 44, 45, 46, 47, 48, 49, 50, 51, 52, 53, 54, 55, 56, 57] rfl (by decide) hok (Nat.le_of_ble_eq_true rfl) (Nat.le_of_ble_eq_true rfl) zd_LassoFinderModel_point_31
  have hj_30 : ∀  (I : Nat → Int32) (J : Nat → Int64) (B : Nat → Nat → Int32) (D : Nat → Nat → Int64) (ls : Array Slot) (H : Heap) (locs : List Loc), wc_LassoFinderModel_point_30 a0 Post  I J B D → lv_has ls 2 [] → zW G A s.heap (wM ad K I J B D) H locs → W p l e { frames := 2, cells := 0, slots := 0, locals := 44 } s m ([.ref (ad 0), .int a0] : List Value).toArray below meth c H locs 0 0 (MQ below (va_Qi (fun (r : Int32) (u : zS) => Post r u.1 u.2.1 u.2.2.1 u.2.2.2) (fun u t => zPost G K A (wM ad K u.1 u.2.1 u.2.2.1 u.2.2.2) t) A) ([.ref (ad 0), .int a0] : List Value).toArray s 0 0 A) (F0 m 30 ls []) := by
    intro  I J B D ls H locs hok hl hw
    unfold wc_LassoFinderModel_point_30 at hok
    refine lv_iconst (v := (-1)) hx hb zd_LassoFinderModel_point_30 (by decide) ?_
    exact hj_31 (-1) I J B D ls H locs hok (lv_sub hl [] rfl) hw
  have hl : lv_has ls 2 [(0, .ref (ad 0)), (1, .int a0)] := hl
  have hw : zW G A s.heap (wM ad K I J B D) H locs := hw
  unfold wp_LassoFinderModel_point at hok
  refine lv_aload_n hx hb zd_LassoFinderModel_point_0 rfl (lv_at hl 0 rfl) ?_
  refine z_calli (w1 := fun (u : zS) => wM ad K u.1 u.2.1 u.2.2.1 u.2.2.2) (wr := []) (z_runV (q0 := 0) (wc := (wM ad K I J B D)) (As := []) (rest := []) ⟨hx, hb, hml, hown, hts⟩ (w_LassoFinderModel_stood l G K ad I J B D  _ H.size hok) zf_LassoFinderModel_stood zm_381 ⟨Nat.le_of_ble_eq_true rfl, Nat.le_of_ble_eq_true rfl⟩ hK hw [0, 1, 2, 3, 4, 5, 6, 7, 8, 9, 10, 11, 12, 13, 14, 15, 16, 17, 18, 19, 20, 21, 22, 23, 24, 25, 26, 27, 28, 29, 30, 31, 32, 33, 34, 35, 36, 37, 38, 39, 40, 41, 42, 43, 44, 45, 46, 47, 48, 49, 50, 51, 52, 53, 54, 55, 56, 57] rfl (by decide) rfl rfl rfl hl.1 rfl (Nat.le_of_ble_eq_true rfl) zd_LassoFinderModel_point_1 ⟨Nat.le_of_ble_eq_true rfl, Nat.le_of_ble_eq_true rfl⟩) hw hA [0, 1, 2, 3, 4, 5, 6, 7, 8, 9, 10, 11, 12, 13, 14, 15, 16, 17, 18, 19, 20, 21, 22, 23, 24, 25, 26, 27, 28, 29, 30, 31, 32, 33, 34, 35, 36, 37, 38, 39, 40, 41, 42, 43, 44, 45, 46, 47, 48, 49, 50, 51, 52, 53, 54, 55, 56, 57] [] rfl rfl (by decide) (by decide) (fun r1 u H locs hok hw => ?_)
  obtain ⟨I1, J1, B1, D1⟩ := u
  dsimp only at hok
  have hw : zW G A s.heap (wM ad K I1 J1 B1 D1) H locs := hw
  refine lv_if_eq (tgt := 30) hx hb zd_LassoFinderModel_point_4 (by decide) (fun hc2 => ?_) (fun hc2 => ?_)
  · have hok := hok.1 hc2
    exact hj_30 I1 J1 B1 D1 ls H locs hok (lv_sub hl [] rfl) hw
  · have hok := hok.2 hc2
    refine lv_iload_n hx hb zd_LassoFinderModel_point_7 rfl (lv_at hl 1 rfl) ?_
    refine lv_iconst (v := 0) hx hb zd_LassoFinderModel_point_8 (by decide) ?_
    refine lv_aload_n hx hb zd_LassoFinderModel_point_9 rfl (lv_at hl 0 rfl) ?_
    refine z_get (v := .int (I1 10)) hx hb hts hown hK hw zZ12 0 rfl 30 (by decide) zm_310 rfl zd_LassoFinderModel_point_10 ?_
    refine lv_iconst (v := 1) hx hb zd_LassoFinderModel_point_13 (by decide) ?_
    refine lv_isub hx hb zd_LassoFinderModel_point_14 ?_
    refine lv_topi (fun z3 ez3 => ?_)
    have hok := hok z3 ez3
    refine z_calli (w1 := fun (u : zS) => wM ad K u.1 u.2.1 u.2.2.1 u.2.2.2) (wr := []) (z_runS (wc := (wM ad K I1 J1 B1 D1)) (As := [.int a0, .int 0, .int z3]) (rest := []) ⟨hx, hb, hml, hown, hts⟩ (w_LassoFinderModel_in l G K ad I1 J1 B1 D1 a0 0 z3 _ H.size hok) zf_LassoFinderModel_in zm_293 ⟨Nat.le_of_ble_eq_true rfl, Nat.le_of_ble_eq_true rfl⟩ hK hw [0, 1, 2, 3, 4, 5, 6, 7, 8, 9, 10, 11, 12, 13, 14, 15, 16, 17, 18, 19, 20, 21, 22, 23, 24, 25, 26, 27, 28, 29, 30, 31, 32, 33, 34, 35, 36, 37, 38, 39, 40, 41, 42, 43, 44, 45, 46, 47, 48, 49, 50, 51, 52, 53, 54, 55, 56, 57] rfl (by decide) rfl hl.1 rfl (Nat.le_of_ble_eq_true rfl) zd_LassoFinderModel_point_15 ⟨Nat.le_of_ble_eq_true rfl, Nat.le_of_ble_eq_true rfl⟩) hw hA [0, 1, 2, 3, 4, 5, 6, 7, 8, 9, 10, 11, 12, 13, 14, 15, 16, 17, 18, 19, 20, 21, 22, 23, 24, 25, 26, 27, 28, 29, 30, 31, 32, 33, 34, 35, 36, 37, 38, 39, 40, 41, 42, 43, 44, 45, 46, 47, 48, 49, 50, 51, 52, 53, 54, 55, 56, 57] [] rfl rfl (by decide) (by decide) (fun r4 u H locs hok hw => ?_)
    obtain ⟨I4, J4, B4, D4⟩ := u
    dsimp only at hok
    have hw : zW G A s.heap (wM ad K I4 J4 B4 D4) H locs := hw
    refine lv_if_eq (tgt := 30) hx hb zd_LassoFinderModel_point_18 (by decide) (fun hc5 => ?_) (fun hc5 => ?_)
    · have hok := hok.1 hc5
      exact hj_30 I4 J4 B4 D4 ls H locs hok (lv_sub hl [] rfl) hw
    · have hok := hok.2 hc5
      refine lv_aload_n hx hb zd_LassoFinderModel_point_21 rfl (lv_at hl 0 rfl) ?_
      refine z_get (v := .ref (ad 42)) hx hb hts hown hK hw zZ12 0 rfl 58 (by decide) zm_276 rfl zd_LassoFinderModel_point_22 ?_
      refine lv_iload_n hx hb zd_LassoFinderModel_point_25 rfl (lv_at hl 1 rfl) ?_
      refine va_iald (f := (B4 39)) hx hb hK hw.1 42 0 rfl rfl hok.1 zd_LassoFinderModel_point_26 ?_
      have hok := hok.2
      refine lv_topi (fun z6 ez6 => ?_)
      have hok := hok z6 ez6
      refine lv_goto (tgt := 31) hx hb zd_LassoFinderModel_point_27 (by decide) ?_
      exact hj_31 z6 I4 J4 B4 D4 ls H locs hok (lv_sub hl [] rfl) hw
def wc_LassoFinderModel_holder_15 (Post : Int32 → (Nat → Int32) → (Nat → Int64) → (Nat → Nat → Int32) → (Nat → Nat → Int64) → Prop) (y0 : Int32) (I : Nat → Int32) (J : Nat → Int64) (B : Nat → Nat → Int32) (D : Nat → Nat → Int64) : Prop :=
  Post y0 I J B D
def wp_LassoFinderModel_holder (I : Nat → Int32) (J : Nat → Int64) (B : Nat → Nat → Int32) (D : Nat → Nat → Int64) (Post : Int32 → (Nat → Int32) → (Nat → Int64) → (Nat → Nat → Int32) → (Nat → Nat → Int64) → Prop) : Prop :=
  wp_LassoFinderModel_stood I J B D  (fun r1 I1 J1 B1 D1 => ((r1 = 0 → wc_LassoFinderModel_holder_15  Post (-1) I1 J1 B1 D1) ∧ (¬ r1 = 0 → wc_LassoFinderModel_holder_15  Post (I1 17) I1 J1 B1 D1)))
set_option maxHeartbeats 8000000 in
set_option maxRecDepth 100000 in
theorem w_LassoFinderModel_holder (l : Launch) (G : va_G) (K : Nat → ClassId) (ad : Nat → Nat) (I : Nat → Int32) (J : Nat → Int64) (B : Nat → Nat → Int32) (D : Nat → Nat → Int64) (Post : Int32 → (Nat → Int32) → (Nat → Int64) → (Nat → Nat → Int32) → (Nat → Nat → Int64) → Prop) (sz : Nat) (hok : wp_LassoFinderModel_holder I J B D  Post) : Met l zy_LassoFinderModel_holder (Cond.code zy_LassoFinderModel_holder prog_14_method_77_code 1 (some .int) :: zTB) { frames := 2, cells := 0, slots := 0, locals := 44 } (va_Pc [.ref (ad 0)] (zPre G K (wM ad K I J B D) sz)) (va_Qi (fun (r : Int32) (u : zS) => Post r u.1 u.2.1 u.2.2.1 u.2.2.2) (fun u t => zPost G K (va_A (wM ad K I J B D) sz) (wM ad K u.1 u.2.1 u.2.2.1 u.2.2.2) t) (va_A (wM ad K I J B D) sz)) 0 0 (va_A (wM ad K I J B D) sz) := by
  refine zMet (y := zy_LassoFinderModel_holder) (av := [.ref (ad 0)]) (maxL := 1) (cc := prog_14_method_77_code) (ret := (some .int)) (W0 := (wM ad K I J B D)) (sz := sz) (G := G) (K := K) (wt := zTB) (mc := 0) (ms := 0) (Qf := fun A => va_Qi (fun (r : Int32) (u : zS) => Post r u.1 u.2.1 u.2.2.1 u.2.2.2) (fun u t => zPost G K A (wM ad K u.1 u.2.1 u.2.2.1 u.2.2.2) t) A) (by decide) (Nat.le_of_ble_eq_true rfl) ?_
  intro p e s m below meth c ls A hx hb hr hml hts hown hlocks hin hA hK H locs hw hsz hl
  clear hsz
  have hown : s.vm.findClass "LassoFinderModel" = some m.cls := hown
  have hj_15 : ∀ (y0 : Int32) (I : Nat → Int32) (J : Nat → Int64) (B : Nat → Nat → Int32) (D : Nat → Nat → Int64) (ls : Array Slot) (H : Heap) (locs : List Loc), wc_LassoFinderModel_holder_15  Post y0 I J B D → lv_has ls 1 [] → zW G A s.heap (wM ad K I J B D) H locs → W p l e { frames := 2, cells := 0, slots := 0, locals := 44 } s m ([.ref (ad 0)] : List Value).toArray below meth c H locs 0 0 (MQ below (va_Qi (fun (r : Int32) (u : zS) => Post r u.1 u.2.1 u.2.2.1 u.2.2.2) (fun u t => zPost G K A (wM ad K u.1 u.2.1 u.2.2.1 u.2.2.2) t) A) ([.ref (ad 0)] : List Value).toArray s 0 0 A) (F0 m 15 ls [.int y0]) := by
    intro y0 I J B D ls H locs hok hl hw
    unfold wc_LassoFinderModel_holder_15 at hok
    exact z_iret (u := (I, J, B, D)) hx hb hr hlocks rfl hw [0, 1, 2, 3, 4, 5, 6, 7, 8, 9, 10, 11, 12, 13, 14, 15, 16, 17, 18, 19, 20, 21, 22, 23, 24, 25, 26, 27, 28, 29, 30, 31, 32, 33, 34, 35, 36, 37, 38, 39, 40, 41, 42, 43, 44, 45, 46, 47, 48, 49, 50, 51, 52, 53, 54, 55, 56, 57] rfl (by decide) hok (Nat.le_of_ble_eq_true rfl) (Nat.le_of_ble_eq_true rfl) zd_LassoFinderModel_holder_15
  have hl : lv_has ls 1 [(0, .ref (ad 0))] := hl
  have hw : zW G A s.heap (wM ad K I J B D) H locs := hw
  unfold wp_LassoFinderModel_holder at hok
  refine lv_aload_n hx hb zd_LassoFinderModel_holder_0 rfl (lv_at hl 0 rfl) ?_
  refine z_calli (w1 := fun (u : zS) => wM ad K u.1 u.2.1 u.2.2.1 u.2.2.2) (wr := []) (z_runV (q0 := 0) (wc := (wM ad K I J B D)) (As := []) (rest := []) ⟨hx, hb, hml, hown, hts⟩ (w_LassoFinderModel_stood l G K ad I J B D  _ H.size hok) zf_LassoFinderModel_stood zm_381 ⟨Nat.le_of_ble_eq_true rfl, Nat.le_of_ble_eq_true rfl⟩ hK hw [0, 1, 2, 3, 4, 5, 6, 7, 8, 9, 10, 11, 12, 13, 14, 15, 16, 17, 18, 19, 20, 21, 22, 23, 24, 25, 26, 27, 28, 29, 30, 31, 32, 33, 34, 35, 36, 37, 38, 39, 40, 41, 42, 43, 44, 45, 46, 47, 48, 49, 50, 51, 52, 53, 54, 55, 56, 57] rfl (by decide) rfl rfl rfl hl.1 rfl (Nat.le_of_ble_eq_true rfl) zd_LassoFinderModel_holder_1 ⟨Nat.le_of_ble_eq_true rfl, Nat.le_of_ble_eq_true rfl⟩) hw hA [0, 1, 2, 3, 4, 5, 6, 7, 8, 9, 10, 11, 12, 13, 14, 15, 16, 17, 18, 19, 20, 21, 22, 23, 24, 25, 26, 27, 28, 29, 30, 31, 32, 33, 34, 35, 36, 37, 38, 39, 40, 41, 42, 43, 44, 45, 46, 47, 48, 49, 50, 51, 52, 53, 54, 55, 56, 57] [] rfl rfl (by decide) (by decide) (fun r1 u H locs hok hw => ?_)
  obtain ⟨I1, J1, B1, D1⟩ := u
  dsimp only at hok
  have hw : zW G A s.heap (wM ad K I1 J1 B1 D1) H locs := hw
  refine lv_if_eq (tgt := 14) hx hb zd_LassoFinderModel_holder_4 (by decide) (fun hc2 => ?_) (fun hc2 => ?_)
  · have hok := hok.1 hc2
    refine lv_iconst (v := (-1)) hx hb zd_LassoFinderModel_holder_14 (by decide) ?_
    exact hj_15 (-1) I1 J1 B1 D1 ls H locs hok (lv_sub hl [] rfl) hw
  · have hok := hok.2 hc2
    refine lv_aload_n hx hb zd_LassoFinderModel_holder_7 rfl (lv_at hl 0 rfl) ?_
    refine z_get (v := .int (I1 17)) hx hb hts hown hK hw zZ12 0 rfl 59 (by decide) zm_320 rfl zd_LassoFinderModel_holder_8 ?_
    refine lv_goto (tgt := 15) hx hb zd_LassoFinderModel_holder_11 (by decide) ?_
    exact hj_15 (I1 17) I1 J1 B1 D1 ls H locs hok (lv_sub hl [] rfl) hw
def wb_LassoFinderModel_truth_198 (a0 : Int32) (K198 : Int32 → Int32 → (Nat → Int32) → (Nat → Int64) → (Nat → Nat → Int32) → (Nat → Nat → Int64) → Prop) (Post : Int32 → (Nat → Int32) → (Nat → Int64) → (Nat → Nat → Int32) → (Nat → Nat → Int64) → Prop) (x2 : Int32) (x3 : Int32) (I : Nat → Int32) (J : Nat → Int64) (B : Nat → Nat → Int32) (D : Nat → Nat → Int64) : Prop :=
  ((x3 < 0 → vp_in 0 61 ∧ ∀ z2 : Int32, z2 = ((B 54) (0 : Int32).toNatClampNeg) → wp_LassoFinderModel_isTrue I J B D z2 x2 (fun r3 I3 J3 B3 D3 => (r3 = 0 ∨ r3 = 1) ∧ Post r3 I3 J3 B3 D3)) ∧ (¬ x3 < 0 → vp_in x3 61 ∧ ∀ z4 : Int32, z4 = ((B 54) x3.toNatClampNeg) → wp_LassoFinderModel_truthAt I J B D z4 x2 (fun r5 I5 J5 B5 D5 => ∀ z6 : Int32, z6 = (x3 + (-1)) → K198 r5 z6 I5 J5 B5 D5)))
def wl_LassoFinderModel_truth_198 (a0 : Int32) (Post : Int32 → (Nat → Int32) → (Nat → Int64) → (Nat → Nat → Int32) → (Nat → Nat → Int64) → Prop) (n : Nat) : Int32 → Int32 → (Nat → Int32) → (Nat → Int64) → (Nat → Nat → Int32) → (Nat → Nat → Int64) → Prop := Nat.rec (fun _ _ _ _ _ _ => False) (fun _ r => wb_LassoFinderModel_truth_198 a0 r Post) n
def wb_LassoFinderModel_truth_157 (a0 : Int32) (K157 : Int32 → Int32 → Int32 → Int32 → Int32 → (Nat → Int32) → (Nat → Int64) → (Nat → Nat → Int32) → (Nat → Nat → Int64) → Prop) (K72 : Int32 → Int32 → Int32 → (Nat → Int32) → (Nat → Int64) → (Nat → Nat → Int32) → (Nat → Nat → Int64) → Prop) (K143 : Int32 → Int32 → Int32 → Int32 → (Nat → Int32) → (Nat → Int64) → (Nat → Nat → Int32) → (Nat → Nat → Int64) → Prop) (Post : Int32 → (Nat → Int32) → (Nat → Int64) → (Nat → Nat → Int32) → (Nat → Nat → Int64) → Prop) (x1 : Int32) (x2 : Int32) (x3 : Int32) (x5 : Int32) (x6 : Int32) (I : Nat → Int32) (J : Nat → Int64) (B : Nat → Nat → Int32) (D : Nat → Nat → Int64) : Prop :=
  ((x6 < x1 → ∀ z8 : Int32, z8 = (x5 + 1) → K143 x1 x2 x3 z8 I J B D) ∧ (¬ x6 < x1 → vp_in x6 61 ∧ ∀ z9 : Int32, z9 = ((B 54) x6.toNatClampNeg) → wp_LassoFinderModel_truthAt I J B D z9 x2 (fun r10 I10 J10 B10 D10 => ∀ z11 : Int32, z11 = (x6 + (-1)) → K157 x1 r10 x3 x5 z11 I10 J10 B10 D10)))
def wl_LassoFinderModel_truth_157 (a0 : Int32) (K72 : Int32 → Int32 → Int32 → (Nat → Int32) → (Nat → Int64) → (Nat → Nat → Int32) → (Nat → Nat → Int64) → Prop) (K143 : Int32 → Int32 → Int32 → Int32 → (Nat → Int32) → (Nat → Int64) → (Nat → Nat → Int32) → (Nat → Nat → Int64) → Prop) (Post : Int32 → (Nat → Int32) → (Nat → Int64) → (Nat → Nat → Int32) → (Nat → Nat → Int64) → Prop) (n : Nat) : Int32 → Int32 → Int32 → Int32 → Int32 → (Nat → Int32) → (Nat → Int64) → (Nat → Nat → Int32) → (Nat → Nat → Int64) → Prop := Nat.rec (fun _ _ _ _ _ _ _ _ _ => False) (fun _ r => wb_LassoFinderModel_truth_157 a0 r K72 K143 Post) n
def wb_LassoFinderModel_truth_143 (a0 : Int32) (K143 : Int32 → Int32 → Int32 → Int32 → (Nat → Int32) → (Nat → Int64) → (Nat → Nat → Int32) → (Nat → Nat → Int64) → Prop) (K72 : Int32 → Int32 → Int32 → (Nat → Int32) → (Nat → Int64) → (Nat → Nat → Int32) → (Nat → Nat → Int64) → Prop) (Post : Int32 → (Nat → Int32) → (Nat → Int64) → (Nat → Nat → Int32) → (Nat → Nat → Int64) → Prop) (x1 : Int32) (x2 : Int32) (x3 : Int32) (x5 : Int32) (I : Nat → Int32) (J : Nat → Int64) (B : Nat → Nat → Int32) (D : Nat → Nat → Int64) : Prop :=
  (((2 : Int32) ≤ x5 → ∀ z13 : Int32, z13 = (x3 + 1) → K72 x1 x2 z13 I J B D) ∧ (¬ (2 : Int32) ≤ x5 → ∀ z14 : Int32, z14 = ((I 26) - 1) → ∃ n : Nat, wl_LassoFinderModel_truth_157 a0 K72 K143 Post n x1 x2 x3 x5 z14 I J B D))
def wl_LassoFinderModel_truth_143 (a0 : Int32) (K72 : Int32 → Int32 → Int32 → (Nat → Int32) → (Nat → Int64) → (Nat → Nat → Int32) → (Nat → Nat → Int64) → Prop) (Post : Int32 → (Nat → Int32) → (Nat → Int64) → (Nat → Nat → Int32) → (Nat → Nat → Int64) → Prop) (n : Nat) : Int32 → Int32 → Int32 → Int32 → (Nat → Int32) → (Nat → Int64) → (Nat → Nat → Int32) → (Nat → Nat → Int64) → Prop := Nat.rec (fun _ _ _ _ _ _ _ _ => False) (fun _ r => wb_LassoFinderModel_truth_143 a0 r K72 Post) n
def wc_LassoFinderModel_truth_139 (a0 : Int32) (K72 : Int32 → Int32 → Int32 → (Nat → Int32) → (Nat → Int64) → (Nat → Nat → Int32) → (Nat → Nat → Int64) → Prop) (Post : Int32 → (Nat → Int32) → (Nat → Int64) → (Nat → Nat → Int32) → (Nat → Nat → Int64) → Prop) (x1 : Int32) (x3 : Int32) (y0 : Int32) (I : Nat → Int32) (J : Nat → Int64) (B : Nat → Nat → Int32) (D : Nat → Nat → Int64) : Prop :=
  ∃ n : Nat, wl_LassoFinderModel_truth_143 a0 K72 Post n x1 y0 x3 0 I J B D
def wc_LassoFinderModel_truth_117 (a0 : Int32) (K72 : Int32 → Int32 → Int32 → (Nat → Int32) → (Nat → Int64) → (Nat → Nat → Int32) → (Nat → Nat → Int64) → Prop) (Post : Int32 → (Nat → Int32) → (Nat → Int64) → (Nat → Nat → Int32) → (Nat → Nat → Int64) → Prop) (x1 : Int32) (x2 : Int32) (x3 : Int32) (y0 : Int32) (I : Nat → Int32) (J : Nat → Int64) (B : Nat → Nat → Int32) (D : Nat → Nat → Int64) : Prop :=
  ((y0 = 0 → ∀ z16 : Int32, z16 = (1 <<< (x3 &&& 31)) → ∀ z17 : Int32, z17 = (x2 ||| z16) → wc_LassoFinderModel_truth_139 a0 K72 Post x1 x3 z17 I J B D) ∧ (¬ y0 = 0 → ∀ z18 : Int32, z18 = (1 <<< (x3 &&& 31)) → ∀ z19 : Int32, z19 = (z18 ^^^ (-1)) → ∀ z20 : Int32, z20 = (x2 &&& z19) → wc_LassoFinderModel_truth_139 a0 K72 Post x1 x3 z20 I J B D))
def wc_LassoFinderModel_truth_112 (a0 : Int32) (K72 : Int32 → Int32 → Int32 → (Nat → Int32) → (Nat → Int64) → (Nat → Nat → Int32) → (Nat → Nat → Int64) → Prop) (Post : Int32 → (Nat → Int32) → (Nat → Int64) → (Nat → Nat → Int32) → (Nat → Nat → Int64) → Prop) (x1 : Int32) (x2 : Int32) (x3 : Int32) (I : Nat → Int32) (J : Nat → Int64) (B : Nat → Nat → Int32) (D : Nat → Nat → Int64) : Prop :=
  wc_LassoFinderModel_truth_117 a0 K72 Post x1 x2 x3 1 I J B D
def wb_LassoFinderModel_truth_72 (a0 : Int32) (K72 : Int32 → Int32 → Int32 → (Nat → Int32) → (Nat → Int64) → (Nat → Nat → Int32) → (Nat → Nat → Int64) → Prop) (Post : Int32 → (Nat → Int32) → (Nat → Int64) → (Nat → Nat → Int32) → (Nat → Nat → Int64) → Prop) (x1 : Int32) (x2 : Int32) (x3 : Int32) (I : Nat → Int32) (J : Nat → Int64) (B : Nat → Nat → Int32) (D : Nat → Nat → Int64) : Prop :=
  (((I 20) ≤ x3 → ∀ z22 : Int32, z22 = (x1 - 1) → ∃ n : Nat, wl_LassoFinderModel_truth_198 a0 Post n x2 z22 I J B D) ∧ (¬ (I 20) ≤ x3 → vp_in x3 3 ∧ ∀ z23 : Int32, z23 = ((B 43) x3.toNatClampNeg) → vp_in z23 240 ∧ ∀ z24 : Int32, z24 = ((B 41) z23.toNatClampNeg) → ((z24 = 12 → wc_LassoFinderModel_truth_112 a0 K72 Post x1 x2 x3 I J B D) ∧ (¬ z24 = 12 → vp_in x3 3 ∧ ∀ z26 : Int32, z26 = ((B 43) x3.toNatClampNeg) → vp_in z26 240 ∧ ∀ z27 : Int32, z27 = ((B 41) z26.toNatClampNeg) → ((¬ z27 = 15 → wc_LassoFinderModel_truth_117 a0 K72 Post x1 x2 x3 0 I J B D) ∧ (z27 = 15 → wc_LassoFinderModel_truth_112 a0 K72 Post x1 x2 x3 I J B D))))))
def wl_LassoFinderModel_truth_72 (a0 : Int32) (Post : Int32 → (Nat → Int32) → (Nat → Int64) → (Nat → Nat → Int32) → (Nat → Nat → Int64) → Prop) (n : Nat) : Int32 → Int32 → Int32 → (Nat → Int32) → (Nat → Int64) → (Nat → Nat → Int32) → (Nat → Nat → Int64) → Prop := Nat.rec (fun _ _ _ _ _ _ _ => False) (fun _ r => wb_LassoFinderModel_truth_72 a0 r Post) n
def wc_LassoFinderModel_truth_56 (a0 : Int32) (Post : Int32 → (Nat → Int32) → (Nat → Int64) → (Nat → Nat → Int32) → (Nat → Nat → Int64) → Prop) (x1 : Int32) (y0 : Int32) (I : Nat → Int32) (J : Nat → Int64) (B : Nat → Nat → Int32) (D : Nat → Nat → Int64) : Prop :=
  ((y0 ≤ 0 → ∃ n : Nat, wl_LassoFinderModel_truth_72 a0 Post n x1 0 0 (upd I 0 y0) J B D) ∧ (¬ y0 ≤ 0 → Post 0 (upd I 0 y0) J B D))
def wc_LassoFinderModel_truth_15 (a0 : Int32) (Post : Int32 → (Nat → Int32) → (Nat → Int64) → (Nat → Nat → Int32) → (Nat → Nat → Int64) → Prop) (x1 : Int32) (I : Nat → Int32) (J : Nat → Int64) (B : Nat → Nat → Int32) (D : Nat → Nat → Int64) : Prop :=
  wc_LassoFinderModel_truth_56 a0 Post x1 1 I J B D
def wc_LassoFinderModel_truth_51 (a0 : Int32) (Post : Int32 → (Nat → Int32) → (Nat → Int64) → (Nat → Nat → Int32) → (Nat → Nat → Int64) → Prop) (x1 : Int32) (I : Nat → Int32) (J : Nat → Int64) (B : Nat → Nat → Int32) (D : Nat → Nat → Int64) : Prop :=
  wc_LassoFinderModel_truth_56 a0 Post x1 2 I J B D
def wp_LassoFinderModel_truth (I : Nat → Int32) (J : Nat → Int64) (B : Nat → Nat → Int32) (D : Nat → Nat → Int64) (a0 : Int32) (Post : Int32 → (Nat → Int32) → (Nat → Int64) → (Nat → Nat → Int32) → (Nat → Nat → Int64) → Prop) : Prop :=
  (((I 26) < 0 → wc_LassoFinderModel_truth_15 a0 Post a0 I J B D) ∧ (¬ (I 26) < 0 → ((¬ (I 18) = 0 → ∀ z32 : Int32, z32 = ((I 26) - 1) → wp_LassoFinderModel_in I J B D a0 0 z32 (fun r33 I33 J33 B33 D33 => ((r33 = 0 → wc_LassoFinderModel_truth_51 a0 Post a0 I33 J33 B33 D33) ∧ (¬ r33 = 0 → vp_in a0 61 ∧ ∀ z35 : Int32, z35 = ((B33 54) a0.toNatClampNeg) → vp_in (I33 26) 61 ∧ ∀ z36 : Int32, z36 = ((B33 54) (I33 26).toNatClampNeg) → ((z35 = z36 → wc_LassoFinderModel_truth_56 a0 Post a0 0 I33 J33 B33 D33) ∧ (¬ z35 = z36 → wc_LassoFinderModel_truth_51 a0 Post a0 I33 J33 B33 D33)))))) ∧ ((I 18) = 0 → wc_LassoFinderModel_truth_15 a0 Post a0 I J B D))))
set_option maxHeartbeats 8000000 in
set_option maxRecDepth 100000 in
theorem w_LassoFinderModel_truth (l : Launch) (G : va_G) (K : Nat → ClassId) (ad : Nat → Nat) (I : Nat → Int32) (J : Nat → Int64) (B : Nat → Nat → Int32) (D : Nat → Nat → Int64) (a0 : Int32) (Post : Int32 → (Nat → Int32) → (Nat → Int64) → (Nat → Nat → Int32) → (Nat → Nat → Int64) → Prop) (sz : Nat) (hok : wp_LassoFinderModel_truth I J B D a0 Post) : Met l zy_LassoFinderModel_truth (Cond.code zy_LassoFinderModel_truth prog_14_method_78_code 7 (some .boolean) :: zTB) { frames := 2, cells := 0, slots := 0, locals := 50 } (va_Pc [.ref (ad 0), .int a0] (zPre G K (wM ad K I J B D) sz)) (va_Qi (fun (r : Int32) (u : zS) => Post r u.1 u.2.1 u.2.2.1 u.2.2.2) (fun u t => zPost G K (va_A (wM ad K I J B D) sz) (wM ad K u.1 u.2.1 u.2.2.1 u.2.2.2) t) (va_A (wM ad K I J B D) sz)) 0 0 (va_A (wM ad K I J B D) sz) := by
  refine zMet (y := zy_LassoFinderModel_truth) (av := [.ref (ad 0), .int a0]) (maxL := 7) (cc := prog_14_method_78_code) (ret := (some .boolean)) (W0 := (wM ad K I J B D)) (sz := sz) (G := G) (K := K) (wt := zTB) (mc := 0) (ms := 0) (Qf := fun A => va_Qi (fun (r : Int32) (u : zS) => Post r u.1 u.2.1 u.2.2.1 u.2.2.2) (fun u t => zPost G K A (wM ad K u.1 u.2.1 u.2.2.1 u.2.2.2) t) A) (by decide) (Nat.le_of_ble_eq_true rfl) ?_
  intro p e s m below meth c ls A hx hb hr hml hts hown hlocks hin hA hK H locs hw hsz hl
  clear hsz
  have hown : s.vm.findClass "LassoFinderModel" = some m.cls := hown
  have hl_198 : ∀ (n : Nat) (x2 : Int32) (x3 : Int32) (I : Nat → Int32) (J : Nat → Int64) (B : Nat → Nat → Int32) (D : Nat → Nat → Int64) (ls : Array Slot) (H : Heap) (locs : List Loc), wl_LassoFinderModel_truth_198 a0 Post n x2 x3 I J B D → lv_has ls 7 [(0, .ref (ad 0)), (2, .int x2), (3, .int x3)] → zW G A s.heap (wM ad K I J B D) H locs → W p l e { frames := 2, cells := 0, slots := 0, locals := 50 } s m ([.ref (ad 0), .int a0] : List Value).toArray below meth c H locs 0 0 (MQ below (va_Qi (fun (r : Int32) (u : zS) => Post r u.1 u.2.1 u.2.2.1 u.2.2.2) (fun u t => zPost G K A (wM ad K u.1 u.2.1 u.2.2.1 u.2.2.2) t) A) ([.ref (ad 0), .int a0] : List Value).toArray s 0 0 A) (F0 m 198 ls []) := by
    intro n
    induction n with
    | zero => intro x2 x3 I J B D ls H locs hok; exact hok.elim
    | succ n_198 ih_198 =>
      intro x2 x3 I J B D ls H locs hok hl hw
      have hok : wb_LassoFinderModel_truth_198 a0 (wl_LassoFinderModel_truth_198 a0 Post n_198) Post x2 x3 I J B D := hok
      unfold wb_LassoFinderModel_truth_198 at hok
      refine lv_iload_n hx hb zd_LassoFinderModel_truth_198 rfl (lv_at hl 2 rfl) ?_
      refine lv_if_lt (tgt := 220) hx hb zd_LassoFinderModel_truth_199 (by decide) (fun hc1 => ?_) (fun hc1 => ?_)
      · have hok := hok.1 hc1
        refine lv_aload_n hx hb zd_LassoFinderModel_truth_220 rfl (lv_at hl 0 rfl) ?_
        refine lv_aload_n hx hb zd_LassoFinderModel_truth_221 rfl (lv_at hl 0 rfl) ?_
        refine z_get (v := .ref (ad 57)) hx hb hts hown hK hw zZ12 0 rfl 83 (by decide) zm_291 rfl zd_LassoFinderModel_truth_222 ?_
        refine lv_iconst (v := 0) hx hb zd_LassoFinderModel_truth_225 (by decide) ?_
        refine va_iald (f := (B 54)) hx hb hK hw.1 57 0 rfl rfl hok.1 zd_LassoFinderModel_truth_226 ?_
        have hok := hok.2
        refine lv_topi (fun z2 ez2 => ?_)
        have hok := hok z2 ez2
        refine lv_iload_n hx hb zd_LassoFinderModel_truth_227 rfl (lv_at hl 1 rfl) ?_
        refine z_calli (w1 := fun (u : zS) => wM ad K u.1 u.2.1 u.2.2.1 u.2.2.2) (wr := []) (z_runV (q0 := 0) (wc := (wM ad K I J B D)) (As := [.int z2, .int x2]) (rest := []) ⟨hx, hb, hml, hown, hts⟩ (w_LassoFinderModel_isTrue l G K ad I J B D z2 x2 _ H.size hok) zf_LassoFinderModel_isTrue zm_379 ⟨Nat.le_of_ble_eq_true rfl, Nat.le_of_ble_eq_true rfl⟩ hK hw [0, 1, 2, 3, 4, 5, 6, 7, 8, 9, 10, 11, 12, 13, 14, 15, 16, 17, 18, 19, 20, 21, 22, 23, 24, 25, 26, 27, 28, 29, 30, 31, 32, 33, 34, 35, 36, 37, 38, 39, 40, 41, 42, 43, 44, 45, 46, 47, 48, 49, 50, 51, 52, 53, 54, 55, 56, 57] rfl (by decide) rfl rfl rfl hl.1 rfl (Nat.le_of_ble_eq_true rfl) zd_LassoFinderModel_truth_228 ⟨Nat.le_of_ble_eq_true rfl, Nat.le_of_ble_eq_true rfl⟩) hw hA [0, 1, 2, 3, 4, 5, 6, 7, 8, 9, 10, 11, 12, 13, 14, 15, 16, 17, 18, 19, 20, 21, 22, 23, 24, 25, 26, 27, 28, 29, 30, 31, 32, 33, 34, 35, 36, 37, 38, 39, 40, 41, 42, 43, 44, 45, 46, 47, 48, 49, 50, 51, 52, 53, 54, 55, 56, 57] [] rfl rfl (by decide) (by decide) (fun r3 u H locs hok hw => ?_)
        obtain ⟨I3, J3, B3, D3⟩ := u
        dsimp only at hok
        have hw : zW G A s.heap (wM ad K I3 J3 B3 D3) H locs := hw
        have hbo := hok.1
        have hok := hok.2
        exact z_iret (u := (I3, J3, B3, D3)) hx hb hr hlocks (z_nar hbo) hw [0, 1, 2, 3, 4, 5, 6, 7, 8, 9, 10, 11, 12, 13, 14, 15, 16, 17, 18, 19, 20, 21, 22, 23, 24, 25, 26, 27, 28, 29, 30, 31, 32, 33, 34, 35, 36, 37, 38, 39, 40, 41, 42, 43, 44, 45, 46, 47, 48, 49, 50, 51, 52, 53, 54, 55, 56, 57] rfl (by decide) hok (Nat.le_of_ble_eq_true rfl) (Nat.le_of_ble_eq_true rfl) zd_LassoFinderModel_truth_231
      · have hok := hok.2 hc1
        refine lv_aload_n hx hb zd_LassoFinderModel_truth_202 rfl (lv_at hl 0 rfl) ?_
        refine lv_aload_n hx hb zd_LassoFinderModel_truth_203 rfl (lv_at hl 0 rfl) ?_
        refine z_get (v := .ref (ad 57)) hx hb hts hown hK hw zZ12 0 rfl 83 (by decide) zm_291 rfl zd_LassoFinderModel_truth_204 ?_
        refine lv_iload_n hx hb zd_LassoFinderModel_truth_207 rfl (lv_at hl 2 rfl) ?_
        refine va_iald (f := (B 54)) hx hb hK hw.1 57 0 rfl rfl hok.1 zd_LassoFinderModel_truth_208 ?_
        have hok := hok.2
        refine lv_topi (fun z4 ez4 => ?_)
        have hok := hok z4 ez4
        refine lv_iload_n hx hb zd_LassoFinderModel_truth_209 rfl (lv_at hl 1 rfl) ?_
        refine z_calli (w1 := fun (u : zS) => wM ad K u.1 u.2.1 u.2.2.1 u.2.2.2) (wr := []) (z_runV (q0 := 0) (wc := (wM ad K I J B D)) (As := [.int z4, .int x2]) (rest := []) ⟨hx, hb, hml, hown, hts⟩ (w_LassoFinderModel_truthAt l G K ad I J B D z4 x2 _ H.size hok) zf_LassoFinderModel_truthAt zm_375 ⟨Nat.le_of_ble_eq_true rfl, Nat.le_of_ble_eq_true rfl⟩ hK hw [0, 1, 2, 3, 4, 5, 6, 7, 8, 9, 10, 11, 12, 13, 14, 15, 16, 17, 18, 19, 20, 21, 22, 23, 24, 25, 26, 27, 28, 29, 30, 31, 32, 33, 34, 35, 36, 37, 38, 39, 40, 41, 42, 43, 44, 45, 46, 47, 48, 49, 50, 51, 52, 53, 54, 55, 56, 57] rfl (by decide) rfl rfl rfl hl.1 rfl (Nat.le_of_ble_eq_true rfl) zd_LassoFinderModel_truth_210 ⟨Nat.le_of_ble_eq_true rfl, Nat.le_of_ble_eq_true rfl⟩) hw hA [0, 1, 2, 3, 4, 5, 6, 7, 8, 9, 10, 11, 12, 13, 14, 15, 16, 17, 18, 19, 20, 21, 22, 23, 24, 25, 26, 27, 28, 29, 30, 31, 32, 33, 34, 35, 36, 37, 38, 39, 40, 41, 42, 43, 44, 45, 46, 47, 48, 49, 50, 51, 52, 53, 54, 55, 56, 57] [] rfl rfl (by decide) (by decide) (fun r5 u H locs hok hw => ?_)
        obtain ⟨I5, J5, B5, D5⟩ := u
        dsimp only at hok
        have hw : zW G A s.heap (wM ad K I5 J5 B5 D5) H locs := hw
        refine lv_istore_n hx hb zd_LassoFinderModel_truth_213 rfl hl (by decide) rfl (fun ls hl => ?_)
        have hl : lv_has ls 7 [(2, .int r5), (0, .ref (ad 0)), (3, .int x3)] := hl
        obtain ⟨z6, ez6⟩ : ∃ z : Int32, z = (x3 + (-1)) := ⟨_, rfl⟩
        have hok := hok z6 ez6
        refine lv_iinc (v := z6) hx hb zd_LassoFinderModel_truth_214 hl (k := 2) rfl ez6.symm (by decide) rfl (fun ls hl => ?_)
        have hl : lv_has ls 7 [(3, .int z6), (2, .int r5), (0, .ref (ad 0))] := hl
        refine lv_goto (tgt := 198) hx hb zd_LassoFinderModel_truth_217 (by decide) ?_
        exact ih_198 r5 z6 I5 J5 B5 D5 ls H locs hok (lv_sub hl [2, 1, 0] rfl) hw
  have hl_72 : ∀ (n : Nat) (x1 : Int32) (x2 : Int32) (x3 : Int32) (I : Nat → Int32) (J : Nat → Int64) (B : Nat → Nat → Int32) (D : Nat → Nat → Int64) (ls : Array Slot) (H : Heap) (locs : List Loc), wl_LassoFinderModel_truth_72 a0 Post n x1 x2 x3 I J B D → lv_has ls 7 [(0, .ref (ad 0)), (1, .int x1), (2, .int x2), (3, .int x3)] → zW G A s.heap (wM ad K I J B D) H locs → W p l e { frames := 2, cells := 0, slots := 0, locals := 50 } s m ([.ref (ad 0), .int a0] : List Value).toArray below meth c H locs 0 0 (MQ below (va_Qi (fun (r : Int32) (u : zS) => Post r u.1 u.2.1 u.2.2.1 u.2.2.2) (fun u t => zPost G K A (wM ad K u.1 u.2.1 u.2.2.1 u.2.2.2) t) A) ([.ref (ad 0), .int a0] : List Value).toArray s 0 0 A) (F0 m 72 ls []) := by
    intro n
    induction n with
    | zero => intro x1 x2 x3 I J B D ls H locs hok; exact hok.elim
    | succ n_72 ih_72 =>
      have hl_143 : ∀ (n : Nat) (x1 : Int32) (x2 : Int32) (x3 : Int32) (x5 : Int32) (I : Nat → Int32) (J : Nat → Int64) (B : Nat → Nat → Int32) (D : Nat → Nat → Int64) (ls : Array Slot) (H : Heap) (locs : List Loc), wl_LassoFinderModel_truth_143 a0 (wl_LassoFinderModel_truth_72 a0 Post n_72) Post n x1 x2 x3 x5 I J B D → lv_has ls 7 [(0, .ref (ad 0)), (1, .int x1), (2, .int x2), (3, .int x3), (5, .int x5)] → zW G A s.heap (wM ad K I J B D) H locs → W p l e { frames := 2, cells := 0, slots := 0, locals := 50 } s m ([.ref (ad 0), .int a0] : List Value).toArray below meth c H locs 0 0 (MQ below (va_Qi (fun (r : Int32) (u : zS) => Post r u.1 u.2.1 u.2.2.1 u.2.2.2) (fun u t => zPost G K A (wM ad K u.1 u.2.1 u.2.2.1 u.2.2.2) t) A) ([.ref (ad 0), .int a0] : List Value).toArray s 0 0 A) (F0 m 143 ls []) := by
        intro n
        induction n with
        | zero => intro x1 x2 x3 x5 I J B D ls H locs hok; exact hok.elim
        | succ n_143 ih_143 =>
          have hl_157 : ∀ (n : Nat) (x1 : Int32) (x2 : Int32) (x3 : Int32) (x5 : Int32) (x6 : Int32) (I : Nat → Int32) (J : Nat → Int64) (B : Nat → Nat → Int32) (D : Nat → Nat → Int64) (ls : Array Slot) (H : Heap) (locs : List Loc), wl_LassoFinderModel_truth_157 a0 (wl_LassoFinderModel_truth_72 a0 Post n_72) (wl_LassoFinderModel_truth_143 a0 (wl_LassoFinderModel_truth_72 a0 Post n_72) Post n_143) Post n x1 x2 x3 x5 x6 I J B D → lv_has ls 7 [(0, .ref (ad 0)), (1, .int x1), (2, .int x2), (3, .int x3), (5, .int x5), (6, .int x6)] → zW G A s.heap (wM ad K I J B D) H locs → W p l e { frames := 2, cells := 0, slots := 0, locals := 50 } s m ([.ref (ad 0), .int a0] : List Value).toArray below meth c H locs 0 0 (MQ below (va_Qi (fun (r : Int32) (u : zS) => Post r u.1 u.2.1 u.2.2.1 u.2.2.2) (fun u t => zPost G K A (wM ad K u.1 u.2.1 u.2.2.1 u.2.2.2) t) A) ([.ref (ad 0), .int a0] : List Value).toArray s 0 0 A) (F0 m 157 ls []) := by
            intro n
            induction n with
            | zero => intro x1 x2 x3 x5 x6 I J B D ls H locs hok; exact hok.elim
            | succ n_157 ih_157 =>
              intro x1 x2 x3 x5 x6 I J B D ls H locs hok hl hw
              have hok : wb_LassoFinderModel_truth_157 a0 (wl_LassoFinderModel_truth_157 a0 (wl_LassoFinderModel_truth_72 a0 Post n_72) (wl_LassoFinderModel_truth_143 a0 (wl_LassoFinderModel_truth_72 a0 Post n_72) Post n_143) Post n_157) (wl_LassoFinderModel_truth_72 a0 Post n_72) (wl_LassoFinderModel_truth_143 a0 (wl_LassoFinderModel_truth_72 a0 Post n_72) Post n_143) Post x1 x2 x3 x5 x6 I J B D := hok
              unfold wb_LassoFinderModel_truth_157 at hok
              refine lv_iload hx hb zd_LassoFinderModel_truth_157 (lv_at hl 5 rfl) ?_
              refine lv_iload_n hx hb zd_LassoFinderModel_truth_159 rfl (lv_at hl 1 rfl) ?_
              refine lv_icmp_lt (tgt := 182) hx hb zd_LassoFinderModel_truth_160 (by decide) (fun hc7 => ?_) (fun hc7 => ?_)
              · have hok := hok.1 hc7
                obtain ⟨z8, ez8⟩ : ∃ z : Int32, z = (x5 + 1) := ⟨_, rfl⟩
                have hok := hok z8 ez8
                refine lv_iinc (v := z8) hx hb zd_LassoFinderModel_truth_182 hl (k := 4) rfl ez8.symm (by decide) rfl (fun ls hl => ?_)
                have hl : lv_has ls 7 [(5, .int z8), (0, .ref (ad 0)), (1, .int x1), (2, .int x2), (3, .int x3), (6, .int x6)] := hl
                refine lv_goto (tgt := 143) hx hb zd_LassoFinderModel_truth_185 (by decide) ?_
                exact ih_143 x1 x2 x3 z8 I J B D ls H locs hok (lv_sub hl [1, 2, 3, 4, 0] rfl) hw
              · have hok := hok.2 hc7
                refine lv_aload_n hx hb zd_LassoFinderModel_truth_163 rfl (lv_at hl 0 rfl) ?_
                refine lv_aload_n hx hb zd_LassoFinderModel_truth_164 rfl (lv_at hl 0 rfl) ?_
                refine z_get (v := .ref (ad 57)) hx hb hts hown hK hw zZ12 0 rfl 83 (by decide) zm_291 rfl zd_LassoFinderModel_truth_165 ?_
                refine lv_iload hx hb zd_LassoFinderModel_truth_168 (lv_at hl 5 rfl) ?_
                refine va_iald (f := (B 54)) hx hb hK hw.1 57 0 rfl rfl hok.1 zd_LassoFinderModel_truth_170 ?_
                have hok := hok.2
                refine lv_topi (fun z9 ez9 => ?_)
                have hok := hok z9 ez9
                refine lv_iload_n hx hb zd_LassoFinderModel_truth_171 rfl (lv_at hl 2 rfl) ?_
                refine z_calli (w1 := fun (u : zS) => wM ad K u.1 u.2.1 u.2.2.1 u.2.2.2) (wr := []) (z_runV (q0 := 0) (wc := (wM ad K I J B D)) (As := [.int z9, .int x2]) (rest := []) ⟨hx, hb, hml, hown, hts⟩ (w_LassoFinderModel_truthAt l G K ad I J B D z9 x2 _ H.size hok) zf_LassoFinderModel_truthAt zm_375 ⟨Nat.le_of_ble_eq_true rfl, Nat.le_of_ble_eq_true rfl⟩ hK hw [0, 1, 2, 3, 4, 5, 6, 7, 8, 9, 10, 11, 12, 13, 14, 15, 16, 17, 18, 19, 20, 21, 22, 23, 24, 25, 26, 27, 28, 29, 30, 31, 32, 33, 34, 35, 36, 37, 38, 39, 40, 41, 42, 43, 44, 45, 46, 47, 48, 49, 50, 51, 52, 53, 54, 55, 56, 57] rfl (by decide) rfl rfl rfl hl.1 rfl (Nat.le_of_ble_eq_true rfl) zd_LassoFinderModel_truth_172 ⟨Nat.le_of_ble_eq_true rfl, Nat.le_of_ble_eq_true rfl⟩) hw hA [0, 1, 2, 3, 4, 5, 6, 7, 8, 9, 10, 11, 12, 13, 14, 15, 16, 17, 18, 19, 20, 21, 22, 23, 24, 25, 26, 27, 28, 29, 30, 31, 32, 33, 34, 35, 36, 37, 38, 39, 40, 41, 42, 43, 44, 45, 46, 47, 48, 49, 50, 51, 52, 53, 54, 55, 56, 57] [] rfl rfl (by decide) (by decide) (fun r10 u H locs hok hw => ?_)
                obtain ⟨I10, J10, B10, D10⟩ := u
                dsimp only at hok
                have hw : zW G A s.heap (wM ad K I10 J10 B10 D10) H locs := hw
                refine lv_istore_n hx hb zd_LassoFinderModel_truth_175 rfl hl (by decide) rfl (fun ls hl => ?_)
                have hl : lv_has ls 7 [(2, .int r10), (0, .ref (ad 0)), (1, .int x1), (3, .int x3), (5, .int x5), (6, .int x6)] := hl
                obtain ⟨z11, ez11⟩ : ∃ z : Int32, z = (x6 + (-1)) := ⟨_, rfl⟩
                have hok := hok z11 ez11
                refine lv_iinc (v := z11) hx hb zd_LassoFinderModel_truth_176 hl (k := 5) rfl ez11.symm (by decide) rfl (fun ls hl => ?_)
                have hl : lv_has ls 7 [(6, .int z11), (2, .int r10), (0, .ref (ad 0)), (1, .int x1), (3, .int x3), (5, .int x5)] := hl
                refine lv_goto (tgt := 157) hx hb zd_LassoFinderModel_truth_179 (by decide) ?_
                exact ih_157 x1 r10 x3 x5 z11 I10 J10 B10 D10 ls H locs hok (lv_sub hl [2, 3, 1, 4, 5, 0] rfl) hw
          intro x1 x2 x3 x5 I J B D ls H locs hok hl hw
          have hok : wb_LassoFinderModel_truth_143 a0 (wl_LassoFinderModel_truth_143 a0 (wl_LassoFinderModel_truth_72 a0 Post n_72) Post n_143) (wl_LassoFinderModel_truth_72 a0 Post n_72) Post x1 x2 x3 x5 I J B D := hok
          unfold wb_LassoFinderModel_truth_143 at hok
          refine lv_iload hx hb zd_LassoFinderModel_truth_143 (lv_at hl 4 rfl) ?_
          refine lv_iconst (v := 2) hx hb zd_LassoFinderModel_truth_145 (by decide) ?_
          refine lv_icmp_ge (tgt := 188) hx hb zd_LassoFinderModel_truth_146 (by decide) (fun hc12 => ?_) (fun hc12 => ?_)
          · have hok := hok.1 hc12
            obtain ⟨z13, ez13⟩ : ∃ z : Int32, z = (x3 + 1) := ⟨_, rfl⟩
            have hok := hok z13 ez13
            refine lv_iinc (v := z13) hx hb zd_LassoFinderModel_truth_188 hl (k := 3) rfl ez13.symm (by decide) rfl (fun ls hl => ?_)
            have hl : lv_has ls 7 [(3, .int z13), (0, .ref (ad 0)), (1, .int x1), (2, .int x2), (5, .int x5)] := hl
            refine lv_goto (tgt := 72) hx hb zd_LassoFinderModel_truth_191 (by decide) ?_
            exact ih_72 x1 x2 z13 I J B D ls H locs hok (lv_sub hl [1, 2, 3, 0] rfl) hw
          · have hok := hok.2 hc12
            refine lv_aload_n hx hb zd_LassoFinderModel_truth_149 rfl (lv_at hl 0 rfl) ?_
            refine z_get (v := .int (I 26)) hx hb hts hown hK hw zZ12 0 rfl 82 (by decide) zm_331 rfl zd_LassoFinderModel_truth_150 ?_
            refine lv_iconst (v := 1) hx hb zd_LassoFinderModel_truth_153 (by decide) ?_
            refine lv_isub hx hb zd_LassoFinderModel_truth_154 ?_
            refine lv_topi (fun z14 ez14 => ?_)
            have hok := hok z14 ez14
            refine lv_istore hx hb zd_LassoFinderModel_truth_155 hl (by decide) rfl (fun ls hl => ?_)
            have hl : lv_has ls 7 [(6, .int z14), (0, .ref (ad 0)), (1, .int x1), (2, .int x2), (3, .int x3), (5, .int x5)] := hl
            obtain ⟨n9, hok⟩ := hok
            exact hl_157 n9 x1 x2 x3 x5 z14 I J B D ls H locs hok (lv_sub hl [1, 2, 3, 4, 5, 0] rfl) hw
      have hj_139 : ∀ (x1 : Int32) (x3 : Int32) (y0 : Int32) (I : Nat → Int32) (J : Nat → Int64) (B : Nat → Nat → Int32) (D : Nat → Nat → Int64) (ls : Array Slot) (H : Heap) (locs : List Loc), wc_LassoFinderModel_truth_139 a0 (wl_LassoFinderModel_truth_72 a0 Post n_72) Post x1 x3 y0 I J B D → lv_has ls 7 [(0, .ref (ad 0)), (1, .int x1), (3, .int x3)] → zW G A s.heap (wM ad K I J B D) H locs → W p l e { frames := 2, cells := 0, slots := 0, locals := 50 } s m ([.ref (ad 0), .int a0] : List Value).toArray below meth c H locs 0 0 (MQ below (va_Qi (fun (r : Int32) (u : zS) => Post r u.1 u.2.1 u.2.2.1 u.2.2.2) (fun u t => zPost G K A (wM ad K u.1 u.2.1 u.2.2.1 u.2.2.2) t) A) ([.ref (ad 0), .int a0] : List Value).toArray s 0 0 A) (F0 m 139 ls [.int y0]) := by
        intro x1 x3 y0 I J B D ls H locs hok hl hw
        unfold wc_LassoFinderModel_truth_139 at hok
        refine lv_istore_n hx hb zd_LassoFinderModel_truth_139 rfl hl (by decide) rfl (fun ls hl => ?_)
        have hl : lv_has ls 7 [(2, .int y0), (0, .ref (ad 0)), (1, .int x1), (3, .int x3)] := hl
        refine lv_iconst (v := 0) hx hb zd_LassoFinderModel_truth_140 (by decide) ?_
        refine lv_istore hx hb zd_LassoFinderModel_truth_141 hl (by decide) rfl (fun ls hl => ?_)
        have hl : lv_has ls 7 [(5, .int 0), (2, .int y0), (0, .ref (ad 0)), (1, .int x1), (3, .int x3)] := hl
        obtain ⟨n9, hok⟩ := hok
        exact hl_143 n9 x1 y0 x3 0 I J B D ls H locs hok (lv_sub hl [2, 3, 1, 4, 0] rfl) hw
      have hj_117 : ∀ (x1 : Int32) (x2 : Int32) (x3 : Int32) (y0 : Int32) (I : Nat → Int32) (J : Nat → Int64) (B : Nat → Nat → Int32) (D : Nat → Nat → Int64) (ls : Array Slot) (H : Heap) (locs : List Loc), wc_LassoFinderModel_truth_117 a0 (wl_LassoFinderModel_truth_72 a0 Post n_72) Post x1 x2 x3 y0 I J B D → lv_has ls 7 [(0, .ref (ad 0)), (1, .int x1), (2, .int x2), (3, .int x3)] → zW G A s.heap (wM ad K I J B D) H locs → W p l e { frames := 2, cells := 0, slots := 0, locals := 50 } s m ([.ref (ad 0), .int a0] : List Value).toArray below meth c H locs 0 0 (MQ below (va_Qi (fun (r : Int32) (u : zS) => Post r u.1 u.2.1 u.2.2.1 u.2.2.2) (fun u t => zPost G K A (wM ad K u.1 u.2.1 u.2.2.1 u.2.2.2) t) A) ([.ref (ad 0), .int a0] : List Value).toArray s 0 0 A) (F0 m 117 ls [.int y0]) := by
        intro x1 x2 x3 y0 I J B D ls H locs hok hl hw
        unfold wc_LassoFinderModel_truth_117 at hok
        refine lv_istore hx hb zd_LassoFinderModel_truth_117 hl (by decide) rfl (fun ls hl => ?_)
        have hl : lv_has ls 7 [(4, .int y0), (0, .ref (ad 0)), (1, .int x1), (2, .int x2), (3, .int x3)] := hl
        refine lv_iload hx hb zd_LassoFinderModel_truth_119 (lv_at hl 0 rfl) ?_
        refine lv_if_eq (tgt := 134) hx hb zd_LassoFinderModel_truth_121 (by decide) (fun hc15 => ?_) (fun hc15 => ?_)
        · have hok := hok.1 hc15
          refine lv_iload_n hx hb zd_LassoFinderModel_truth_134 rfl (lv_at hl 3 rfl) ?_
          refine lv_iconst (v := 1) hx hb zd_LassoFinderModel_truth_135 (by decide) ?_
          refine lv_iload_n hx hb zd_LassoFinderModel_truth_136 rfl (lv_at hl 4 rfl) ?_
          refine lv_ishl hx hb zd_LassoFinderModel_truth_137 ?_
          refine lv_topi (fun z16 ez16 => ?_)
          have hok := hok z16 ez16
          refine lv_ior hx hb zd_LassoFinderModel_truth_138 ?_
          refine lv_topi (fun z17 ez17 => ?_)
          have hok := hok z17 ez17
          exact hj_139 x1 x3 z17 I J B D ls H locs hok (lv_sub hl [1, 2, 4] rfl) hw
        · have hok := hok.2 hc15
          refine lv_iload_n hx hb zd_LassoFinderModel_truth_124 rfl (lv_at hl 3 rfl) ?_
          refine lv_iconst (v := 1) hx hb zd_LassoFinderModel_truth_125 (by decide) ?_
          refine lv_iload_n hx hb zd_LassoFinderModel_truth_126 rfl (lv_at hl 4 rfl) ?_
          refine lv_ishl hx hb zd_LassoFinderModel_truth_127 ?_
          refine lv_topi (fun z18 ez18 => ?_)
          have hok := hok z18 ez18
          refine lv_iconst (v := (-1)) hx hb zd_LassoFinderModel_truth_128 (by decide) ?_
          refine lv_ixor hx hb zd_LassoFinderModel_truth_129 ?_
          refine lv_topi (fun z19 ez19 => ?_)
          have hok := hok z19 ez19
          refine lv_iand hx hb zd_LassoFinderModel_truth_130 ?_
          refine lv_topi (fun z20 ez20 => ?_)
          have hok := hok z20 ez20
          refine lv_goto (tgt := 139) hx hb zd_LassoFinderModel_truth_131 (by decide) ?_
          exact hj_139 x1 x3 z20 I J B D ls H locs hok (lv_sub hl [1, 2, 4] rfl) hw
      have hj_112 : ∀ (x1 : Int32) (x2 : Int32) (x3 : Int32) (I : Nat → Int32) (J : Nat → Int64) (B : Nat → Nat → Int32) (D : Nat → Nat → Int64) (ls : Array Slot) (H : Heap) (locs : List Loc), wc_LassoFinderModel_truth_112 a0 (wl_LassoFinderModel_truth_72 a0 Post n_72) Post x1 x2 x3 I J B D → lv_has ls 7 [(0, .ref (ad 0)), (1, .int x1), (2, .int x2), (3, .int x3)] → zW G A s.heap (wM ad K I J B D) H locs → W p l e { frames := 2, cells := 0, slots := 0, locals := 50 } s m ([.ref (ad 0), .int a0] : List Value).toArray below meth c H locs 0 0 (MQ below (va_Qi (fun (r : Int32) (u : zS) => Post r u.1 u.2.1 u.2.2.1 u.2.2.2) (fun u t => zPost G K A (wM ad K u.1 u.2.1 u.2.2.1 u.2.2.2) t) A) ([.ref (ad 0), .int a0] : List Value).toArray s 0 0 A) (F0 m 112 ls []) := by
        intro x1 x2 x3 I J B D ls H locs hok hl hw
        unfold wc_LassoFinderModel_truth_112 at hok
        refine lv_iconst (v := 1) hx hb zd_LassoFinderModel_truth_112 (by decide) ?_
        refine lv_goto (tgt := 117) hx hb zd_LassoFinderModel_truth_113 (by decide) ?_
        exact hj_117 x1 x2 x3 1 I J B D ls H locs hok (lv_sub hl [0, 1, 2, 3] rfl) hw
      intro x1 x2 x3 I J B D ls H locs hok hl hw
      have hok : wb_LassoFinderModel_truth_72 a0 (wl_LassoFinderModel_truth_72 a0 Post n_72) Post x1 x2 x3 I J B D := hok
      unfold wb_LassoFinderModel_truth_72 at hok
      refine lv_iload_n hx hb zd_LassoFinderModel_truth_72 rfl (lv_at hl 3 rfl) ?_
      refine lv_aload_n hx hb zd_LassoFinderModel_truth_73 rfl (lv_at hl 0 rfl) ?_
      refine z_get (v := .int (I 20)) hx hb hts hown hK hw zZ12 0 rfl 64 (by decide) zm_356 rfl zd_LassoFinderModel_truth_74 ?_
      refine lv_icmp_ge (tgt := 194) hx hb zd_LassoFinderModel_truth_77 (by decide) (fun hc21 => ?_) (fun hc21 => ?_)
      · have hok := hok.1 hc21
        refine lv_iload_n hx hb zd_LassoFinderModel_truth_194 rfl (lv_at hl 1 rfl) ?_
        refine lv_iconst (v := 1) hx hb zd_LassoFinderModel_truth_195 (by decide) ?_
        refine lv_isub hx hb zd_LassoFinderModel_truth_196 ?_
        refine lv_topi (fun z22 ez22 => ?_)
        have hok := hok z22 ez22
        refine lv_istore_n hx hb zd_LassoFinderModel_truth_197 rfl hl (by decide) rfl (fun ls hl => ?_)
        have hl : lv_has ls 7 [(3, .int z22), (0, .ref (ad 0)), (1, .int x1), (2, .int x2)] := hl
        obtain ⟨n9, hok⟩ := hok
        exact hl_198 n9 x2 z22 I J B D ls H locs hok (lv_sub hl [1, 3, 0] rfl) hw
      · have hok := hok.2 hc21
        refine lv_aload_n hx hb zd_LassoFinderModel_truth_80 rfl (lv_at hl 0 rfl) ?_
        refine z_get (v := .ref (ad 44)) hx hb hts hown hK hw zZ12 0 rfl 63 (by decide) zm_278 rfl zd_LassoFinderModel_truth_81 ?_
        refine lv_aload_n hx hb zd_LassoFinderModel_truth_84 rfl (lv_at hl 0 rfl) ?_
        refine z_get (v := .ref (ad 46)) hx hb hts hown hK hw zZ12 0 rfl 68 (by decide) zm_280 rfl zd_LassoFinderModel_truth_85 ?_
        refine lv_iload_n hx hb zd_LassoFinderModel_truth_88 rfl (lv_at hl 3 rfl) ?_
        refine va_iald (f := (B 43)) hx hb hK hw.1 46 0 rfl rfl hok.1 zd_LassoFinderModel_truth_89 ?_
        have hok := hok.2
        refine lv_topi (fun z23 ez23 => ?_)
        have hok := hok z23 ez23
        refine va_iald (f := (B 41)) hx hb hK hw.1 44 0 rfl rfl hok.1 zd_LassoFinderModel_truth_90 ?_
        have hok := hok.2
        refine lv_topi (fun z24 ez24 => ?_)
        have hok := hok z24 ez24
        refine lv_bipush (v := 12) hx hb zd_LassoFinderModel_truth_91 (by decide) ?_
        refine lv_icmp_eq (tgt := 112) hx hb zd_LassoFinderModel_truth_93 (by decide) (fun hc25 => ?_) (fun hc25 => ?_)
        · have hok := hok.1 hc25
          exact hj_112 x1 x2 x3 I J B D ls H locs hok (lv_sub hl [0, 1, 2, 3] rfl) hw
        · have hok := hok.2 hc25
          refine lv_aload_n hx hb zd_LassoFinderModel_truth_96 rfl (lv_at hl 0 rfl) ?_
          refine z_get (v := .ref (ad 44)) hx hb hts hown hK hw zZ12 0 rfl 63 (by decide) zm_278 rfl zd_LassoFinderModel_truth_97 ?_
          refine lv_aload_n hx hb zd_LassoFinderModel_truth_100 rfl (lv_at hl 0 rfl) ?_
          refine z_get (v := .ref (ad 46)) hx hb hts hown hK hw zZ12 0 rfl 68 (by decide) zm_280 rfl zd_LassoFinderModel_truth_101 ?_
          refine lv_iload_n hx hb zd_LassoFinderModel_truth_104 rfl (lv_at hl 3 rfl) ?_
          refine va_iald (f := (B 43)) hx hb hK hw.1 46 0 rfl rfl hok.1 zd_LassoFinderModel_truth_105 ?_
          have hok := hok.2
          refine lv_topi (fun z26 ez26 => ?_)
          have hok := hok z26 ez26
          refine va_iald (f := (B 41)) hx hb hK hw.1 44 0 rfl rfl hok.1 zd_LassoFinderModel_truth_106 ?_
          have hok := hok.2
          refine lv_topi (fun z27 ez27 => ?_)
          have hok := hok z27 ez27
          refine lv_bipush (v := 15) hx hb zd_LassoFinderModel_truth_107 (by decide) ?_
          refine lv_icmp_ne (tgt := 116) hx hb zd_LassoFinderModel_truth_109 (by decide) (fun hc28 => ?_) (fun hc28 => ?_)
          · have hok := hok.1 hc28
            refine lv_iconst (v := 0) hx hb zd_LassoFinderModel_truth_116 (by decide) ?_
            exact hj_117 x1 x2 x3 0 I J B D ls H locs hok (lv_sub hl [0, 1, 2, 3] rfl) hw
          · have hok := hok.2 hc28
            exact hj_112 x1 x2 x3 I J B D ls H locs hok (lv_sub hl [0, 1, 2, 3] rfl) hw
  have hj_56 : ∀ (x1 : Int32) (y0 : Int32) (I : Nat → Int32) (J : Nat → Int64) (B : Nat → Nat → Int32) (D : Nat → Nat → Int64) (ls : Array Slot) (H : Heap) (locs : List Loc), wc_LassoFinderModel_truth_56 a0 Post x1 y0 I J B D → lv_has ls 7 [(0, .ref (ad 0)), (1, .int x1)] → zW G A s.heap (wM ad K I J B D) H locs → W p l e { frames := 2, cells := 0, slots := 0, locals := 50 } s m ([.ref (ad 0), .int a0] : List Value).toArray below meth c H locs 0 0 (MQ below (va_Qi (fun (r : Int32) (u : zS) => Post r u.1 u.2.1 u.2.2.1 u.2.2.2) (fun u t => zPost G K A (wM ad K u.1 u.2.1 u.2.2.1 u.2.2.2) t) A) ([.ref (ad 0), .int a0] : List Value).toArray s 0 0 A) (F0 m 56 ls [.int y0, .ref (ad 0)]) := by
    intro x1 y0 I J B D ls H locs hok hl hw
    unfold wc_LassoFinderModel_truth_56 at hok
    refine z_put (v := .int y0) hx hb hts hown hK hw zZ12 0 rfl 0 (by decide) zm_292 rfl rfl rfl (Nat.le_of_ble_eq_true rfl) zd_LassoFinderModel_truth_56 (fun H locs hw => ?_)
    have hw : zW G A s.heap (wM ad K (upd I 0 y0) J B D) H locs := hw
    refine lv_aload_n hx hb zd_LassoFinderModel_truth_59 rfl (lv_at hl 0 rfl) ?_
    refine z_get (v := .int y0) hx hb hts hown hK hw zZ12 0 rfl 0 (by decide) zm_292 rfl zd_LassoFinderModel_truth_60 ?_
    refine lv_if_le (tgt := 68) hx hb zd_LassoFinderModel_truth_63 (by decide) (fun hc29 => ?_) (fun hc29 => ?_)
    · have hok := hok.1 hc29
      refine lv_iconst (v := 0) hx hb zd_LassoFinderModel_truth_68 (by decide) ?_
      refine lv_istore_n hx hb zd_LassoFinderModel_truth_69 rfl hl (by decide) rfl (fun ls hl => ?_)
      have hl : lv_has ls 7 [(2, .int 0), (0, .ref (ad 0)), (1, .int x1)] := hl
      refine lv_iconst (v := 0) hx hb zd_LassoFinderModel_truth_70 (by decide) ?_
      refine lv_istore_n hx hb zd_LassoFinderModel_truth_71 rfl hl (by decide) rfl (fun ls hl => ?_)
      have hl : lv_has ls 7 [(3, .int 0), (2, .int 0), (0, .ref (ad 0)), (1, .int x1)] := hl
      obtain ⟨n9, hok⟩ := hok
      exact hl_72 n9 x1 0 0 (upd I 0 y0) J B D ls H locs hok (lv_sub hl [2, 3, 1, 0] rfl) hw
    · have hok := hok.2 hc29
      refine lv_iconst (v := 0) hx hb zd_LassoFinderModel_truth_66 (by decide) ?_
      exact z_iret (u := ((upd I 0 y0), J, B, D)) hx hb hr hlocks rfl hw [0, 1, 2, 3, 4, 5, 6, 7, 8, 9, 10, 11, 12, 13, 14, 15, 16, 17, 18, 19, 20, 21, 22, 23, 24, 25, 26, 27, 28, 29, 30, 31, 32, 33, 34, 35, 36, 37, 38, 39, 40, 41, 42, 43, 44, 45, 46, 47, 48, 49, 50, 51, 52, 53, 54, 55, 56, 57] rfl (by decide) hok (Nat.le_of_ble_eq_true rfl) (Nat.le_of_ble_eq_true rfl) zd_LassoFinderModel_truth_67
  have hj_15 : ∀ (x1 : Int32) (I : Nat → Int32) (J : Nat → Int64) (B : Nat → Nat → Int32) (D : Nat → Nat → Int64) (ls : Array Slot) (H : Heap) (locs : List Loc), wc_LassoFinderModel_truth_15 a0 Post x1 I J B D → lv_has ls 7 [(0, .ref (ad 0)), (1, .int x1)] → zW G A s.heap (wM ad K I J B D) H locs → W p l e { frames := 2, cells := 0, slots := 0, locals := 50 } s m ([.ref (ad 0), .int a0] : List Value).toArray below meth c H locs 0 0 (MQ below (va_Qi (fun (r : Int32) (u : zS) => Post r u.1 u.2.1 u.2.2.1 u.2.2.2) (fun u t => zPost G K A (wM ad K u.1 u.2.1 u.2.2.1 u.2.2.2) t) A) ([.ref (ad 0), .int a0] : List Value).toArray s 0 0 A) (F0 m 15 ls [.ref (ad 0)]) := by
    intro x1 I J B D ls H locs hok hl hw
    unfold wc_LassoFinderModel_truth_15 at hok
    refine lv_iconst (v := 1) hx hb zd_LassoFinderModel_truth_15 (by decide) ?_
    refine lv_goto (tgt := 56) hx hb zd_LassoFinderModel_truth_16 (by decide) ?_
    exact hj_56 x1 1 I J B D ls H locs hok (lv_sub hl [0, 1] rfl) hw
  have hj_51 : ∀ (x1 : Int32) (I : Nat → Int32) (J : Nat → Int64) (B : Nat → Nat → Int32) (D : Nat → Nat → Int64) (ls : Array Slot) (H : Heap) (locs : List Loc), wc_LassoFinderModel_truth_51 a0 Post x1 I J B D → lv_has ls 7 [(0, .ref (ad 0)), (1, .int x1)] → zW G A s.heap (wM ad K I J B D) H locs → W p l e { frames := 2, cells := 0, slots := 0, locals := 50 } s m ([.ref (ad 0), .int a0] : List Value).toArray below meth c H locs 0 0 (MQ below (va_Qi (fun (r : Int32) (u : zS) => Post r u.1 u.2.1 u.2.2.1 u.2.2.2) (fun u t => zPost G K A (wM ad K u.1 u.2.1 u.2.2.1 u.2.2.2) t) A) ([.ref (ad 0), .int a0] : List Value).toArray s 0 0 A) (F0 m 51 ls [.ref (ad 0)]) := by
    intro x1 I J B D ls H locs hok hl hw
    unfold wc_LassoFinderModel_truth_51 at hok
    refine lv_iconst (v := 2) hx hb zd_LassoFinderModel_truth_51 (by decide) ?_
    refine lv_goto (tgt := 56) hx hb zd_LassoFinderModel_truth_52 (by decide) ?_
    exact hj_56 x1 2 I J B D ls H locs hok (lv_sub hl [0, 1] rfl) hw
  have hl : lv_has ls 7 [(0, .ref (ad 0)), (1, .int a0)] := hl
  have hw : zW G A s.heap (wM ad K I J B D) H locs := hw
  unfold wp_LassoFinderModel_truth at hok
  refine lv_aload_n hx hb zd_LassoFinderModel_truth_0 rfl (lv_at hl 0 rfl) ?_
  refine lv_aload_n hx hb zd_LassoFinderModel_truth_1 rfl (lv_at hl 0 rfl) ?_
  refine z_get (v := .int (I 26)) hx hb hts hown hK hw zZ12 0 rfl 82 (by decide) zm_331 rfl zd_LassoFinderModel_truth_2 ?_
  refine lv_if_lt (tgt := 15) hx hb zd_LassoFinderModel_truth_5 (by decide) (fun hc30 => ?_) (fun hc30 => ?_)
  · have hok := hok.1 hc30
    exact hj_15 a0 I J B D ls H locs hok (lv_sub hl [0, 1] rfl) hw
  · have hok := hok.2 hc30
    refine lv_aload_n hx hb zd_LassoFinderModel_truth_8 rfl (lv_at hl 0 rfl) ?_
    refine z_get (v := .int (I 18)) hx hb hts hown hK hw zZ12 0 rfl 61 (by decide) zm_329 rfl zd_LassoFinderModel_truth_9 ?_
    refine lv_if_ne (tgt := 19) hx hb zd_LassoFinderModel_truth_12 (by decide) (fun hc31 => ?_) (fun hc31 => ?_)
    · have hok := hok.1 hc31
      refine lv_iload_n hx hb zd_LassoFinderModel_truth_19 rfl (lv_at hl 1 rfl) ?_
      refine lv_iconst (v := 0) hx hb zd_LassoFinderModel_truth_20 (by decide) ?_
      refine lv_aload_n hx hb zd_LassoFinderModel_truth_21 rfl (lv_at hl 0 rfl) ?_
      refine z_get (v := .int (I 26)) hx hb hts hown hK hw zZ12 0 rfl 82 (by decide) zm_331 rfl zd_LassoFinderModel_truth_22 ?_
      refine lv_iconst (v := 1) hx hb zd_LassoFinderModel_truth_25 (by decide) ?_
      refine lv_isub hx hb zd_LassoFinderModel_truth_26 ?_
      refine lv_topi (fun z32 ez32 => ?_)
      have hok := hok z32 ez32
      refine z_calli (w1 := fun (u : zS) => wM ad K u.1 u.2.1 u.2.2.1 u.2.2.2) (wr := []) (z_runS (wc := (wM ad K I J B D)) (As := [.int a0, .int 0, .int z32]) (rest := [.ref (ad 0)]) ⟨hx, hb, hml, hown, hts⟩ (w_LassoFinderModel_in l G K ad I J B D a0 0 z32 _ H.size hok) zf_LassoFinderModel_in zm_293 ⟨Nat.le_of_ble_eq_true rfl, Nat.le_of_ble_eq_true rfl⟩ hK hw [0, 1, 2, 3, 4, 5, 6, 7, 8, 9, 10, 11, 12, 13, 14, 15, 16, 17, 18, 19, 20, 21, 22, 23, 24, 25, 26, 27, 28, 29, 30, 31, 32, 33, 34, 35, 36, 37, 38, 39, 40, 41, 42, 43, 44, 45, 46, 47, 48, 49, 50, 51, 52, 53, 54, 55, 56, 57] rfl (by decide) rfl hl.1 rfl (Nat.le_of_ble_eq_true rfl) zd_LassoFinderModel_truth_27 ⟨Nat.le_of_ble_eq_true rfl, Nat.le_of_ble_eq_true rfl⟩) hw hA [0, 1, 2, 3, 4, 5, 6, 7, 8, 9, 10, 11, 12, 13, 14, 15, 16, 17, 18, 19, 20, 21, 22, 23, 24, 25, 26, 27, 28, 29, 30, 31, 32, 33, 34, 35, 36, 37, 38, 39, 40, 41, 42, 43, 44, 45, 46, 47, 48, 49, 50, 51, 52, 53, 54, 55, 56, 57] [] rfl rfl (by decide) (by decide) (fun r33 u H locs hok hw => ?_)
      obtain ⟨I33, J33, B33, D33⟩ := u
      dsimp only at hok
      have hw : zW G A s.heap (wM ad K I33 J33 B33 D33) H locs := hw
      refine lv_if_eq (tgt := 51) hx hb zd_LassoFinderModel_truth_30 (by decide) (fun hc34 => ?_) (fun hc34 => ?_)
      · have hok := hok.1 hc34
        exact hj_51 a0 I33 J33 B33 D33 ls H locs hok (lv_sub hl [0, 1] rfl) hw
      · have hok := hok.2 hc34
        refine lv_aload_n hx hb zd_LassoFinderModel_truth_33 rfl (lv_at hl 0 rfl) ?_
        refine z_get (v := .ref (ad 57)) hx hb hts hown hK hw zZ12 0 rfl 83 (by decide) zm_291 rfl zd_LassoFinderModel_truth_34 ?_
        refine lv_iload_n hx hb zd_LassoFinderModel_truth_37 rfl (lv_at hl 1 rfl) ?_
        refine va_iald (f := (B33 54)) hx hb hK hw.1 57 0 rfl rfl hok.1 zd_LassoFinderModel_truth_38 ?_
        have hok := hok.2
        refine lv_topi (fun z35 ez35 => ?_)
        have hok := hok z35 ez35
        refine lv_aload_n hx hb zd_LassoFinderModel_truth_39 rfl (lv_at hl 0 rfl) ?_
        refine z_get (v := .ref (ad 57)) hx hb hts hown hK hw zZ12 0 rfl 83 (by decide) zm_291 rfl zd_LassoFinderModel_truth_40 ?_
        refine lv_aload_n hx hb zd_LassoFinderModel_truth_43 rfl (lv_at hl 0 rfl) ?_
        refine z_get (v := .int (I33 26)) hx hb hts hown hK hw zZ12 0 rfl 82 (by decide) zm_331 rfl zd_LassoFinderModel_truth_44 ?_
        refine va_iald (f := (B33 54)) hx hb hK hw.1 57 0 rfl rfl hok.1 zd_LassoFinderModel_truth_47 ?_
        have hok := hok.2
        refine lv_topi (fun z36 ez36 => ?_)
        have hok := hok z36 ez36
        refine lv_icmp_eq (tgt := 55) hx hb zd_LassoFinderModel_truth_48 (by decide) (fun hc37 => ?_) (fun hc37 => ?_)
        · have hok := hok.1 hc37
          refine lv_iconst (v := 0) hx hb zd_LassoFinderModel_truth_55 (by decide) ?_
          exact hj_56 a0 0 I33 J33 B33 D33 ls H locs hok (lv_sub hl [0, 1] rfl) hw
        · have hok := hok.2 hc37
          exact hj_51 a0 I33 J33 B33 D33 ls H locs hok (lv_sub hl [0, 1] rfl) hw
    · have hok := hok.2 hc31
      exact hj_15 a0 I J B D ls H locs hok (lv_sub hl [0, 1] rfl) hw
