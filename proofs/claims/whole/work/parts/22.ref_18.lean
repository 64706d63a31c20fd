abbrev zy_LassoFinderModel_point : MethodName := ⟨"LassoFinderModel", "point", "(I)I"⟩
abbrev zy_LassoFinderModel_holder : MethodName := ⟨"LassoFinderModel", "holder", "()I"⟩
abbrev zy_LassoFinderModel_truth : MethodName := ⟨"LassoFinderModel", "truth", "(I)Z"⟩
abbrev zy_LassoFinderModel_count : MethodName := ⟨"LassoFinderModel", "count", "(I)I"⟩

theorem zd_LassoFinderModel_count_0 : decode prog_14_method_79_code 0 = .ok (.aload_n 0, 1) := by decide +kernel
theorem zd_LassoFinderModel_count_1 : decode prog_14_method_79_code 1 = .ok (.iconst 0, 1) := by decide +kernel
theorem zd_LassoFinderModel_count_2 : decode prog_14_method_79_code 2 = .ok (.putfield 193, 3) := by decide +kernel
theorem zd_LassoFinderModel_count_5 : decode prog_14_method_79_code 5 = .ok (.iload_n 1, 1) := by decide +kernel
theorem zd_LassoFinderModel_count_6 : decode prog_14_method_79_code 6 = .ok (.iconst 0, 1) := by decide +kernel
theorem zd_LassoFinderModel_count_7 : decode prog_14_method_79_code 7 = .ok (.iconst 3, 1) := by decide +kernel
theorem zd_LassoFinderModel_count_8 : decode prog_14_method_79_code 8 = .ok (.invokestatic 196, 3) := by decide +kernel
theorem zd_LassoFinderModel_count_11 : decode prog_14_method_79_code 11 = .ok (.ifCond .ne 5, 3) := by decide +kernel
theorem zd_LassoFinderModel_count_14 : decode prog_14_method_79_code 14 = .ok (.iconst (-1), 1) := by decide +kernel
theorem zd_LassoFinderModel_count_15 : decode prog_14_method_79_code 15 = .ok (.ireturn, 1) := by decide +kernel
theorem zd_LassoFinderModel_count_16 : decode prog_14_method_79_code 16 = .ok (.aload_n 0, 1) := by decide +kernel
theorem zd_LassoFinderModel_count_17 : decode prog_14_method_79_code 17 = .ok (.getfield 361, 3) := by decide +kernel
theorem zd_LassoFinderModel_count_20 : decode prog_14_method_79_code 20 = .ok (.ifCond .ne 7, 3) := by decide +kernel
theorem zd_LassoFinderModel_count_23 : decode prog_14_method_79_code 23 = .ok (.iconst 0, 1) := by decide +kernel
theorem zd_LassoFinderModel_count_24 : decode prog_14_method_79_code 24 = .ok (.goto 42, 3) := by decide +kernel
theorem zd_LassoFinderModel_count_27 : decode prog_14_method_79_code 27 = .ok (.iload_n 1, 1) := by decide +kernel
theorem zd_LassoFinderModel_count_28 : decode prog_14_method_79_code 28 = .ok (.ifCond .ne 10, 3) := by decide +kernel
theorem zd_LassoFinderModel_count_31 : decode prog_14_method_79_code 31 = .ok (.aload_n 0, 1) := by decide +kernel
theorem zd_LassoFinderModel_count_32 : decode prog_14_method_79_code 32 = .ok (.getfield 345, 3) := by decide +kernel
theorem zd_LassoFinderModel_count_35 : decode prog_14_method_79_code 35 = .ok (.goto 31, 3) := by decide +kernel
theorem zd_LassoFinderModel_count_38 : decode prog_14_method_79_code 38 = .ok (.iload_n 1, 1) := by decide +kernel
theorem zd_LassoFinderModel_count_39 : decode prog_14_method_79_code 39 = .ok (.iconst 1, 1) := by decide +kernel
theorem zd_LassoFinderModel_count_40 : decode prog_14_method_79_code 40 = .ok (.if_icmp .ne 10, 3) := by decide +kernel
theorem zd_LassoFinderModel_count_43 : decode prog_14_method_79_code 43 = .ok (.aload_n 0, 1) := by decide +kernel
theorem zd_LassoFinderModel_count_44 : decode prog_14_method_79_code 44 = .ok (.getfield 327, 3) := by decide +kernel
theorem zd_LassoFinderModel_count_47 : decode prog_14_method_79_code 47 = .ok (.goto 19, 3) := by decide +kernel
theorem zd_LassoFinderModel_count_50 : decode prog_14_method_79_code 50 = .ok (.iload_n 1, 1) := by decide +kernel
theorem zd_LassoFinderModel_count_51 : decode prog_14_method_79_code 51 = .ok (.iconst 2, 1) := by decide +kernel
theorem zd_LassoFinderModel_count_52 : decode prog_14_method_79_code 52 = .ok (.if_icmp .ne 10, 3) := by decide +kernel
theorem zd_LassoFinderModel_count_55 : decode prog_14_method_79_code 55 = .ok (.aload_n 0, 1) := by decide +kernel
theorem zd_LassoFinderModel_count_56 : decode prog_14_method_79_code 56 = .ok (.getfield 257, 3) := by decide +kernel
theorem zd_LassoFinderModel_count_59 : decode prog_14_method_79_code 59 = .ok (.goto 7, 3) := by decide +kernel
theorem zd_LassoFinderModel_count_62 : decode prog_14_method_79_code 62 = .ok (.aload_n 0, 1) := by decide +kernel
theorem zd_LassoFinderModel_count_63 : decode prog_14_method_79_code 63 = .ok (.getfield 254, 3) := by decide +kernel
theorem zd_LassoFinderModel_count_66 : decode prog_14_method_79_code 66 = .ok (.ireturn, 1) := by decide +kernel
theorem zd_LassoFinderModel_holder_0 : decode prog_14_method_77_code 0 = .ok (.aload_n 0, 1) := by decide +kernel
theorem zd_LassoFinderModel_holder_1 : decode prog_14_method_77_code 1 = .ok (.invokevirtual 467, 3) := by decide +kernel
theorem zd_LassoFinderModel_holder_4 : decode prog_14_method_77_code 4 = .ok (.ifCond .eq 10, 3) := by decide +kernel
theorem zd_LassoFinderModel_holder_7 : decode prog_14_method_77_code 7 = .ok (.aload_n 0, 1) := by decide +kernel
theorem zd_LassoFinderModel_holder_8 : decode prog_14_method_77_code 8 = .ok (.getfield 301, 3) := by decide +kernel
theorem zd_LassoFinderModel_holder_11 : decode prog_14_method_77_code 11 = .ok (.goto 4, 3) := by decide +kernel
theorem zd_LassoFinderModel_holder_14 : decode prog_14_method_77_code 14 = .ok (.iconst (-1), 1) := by decide +kernel
theorem zd_LassoFinderModel_holder_15 : decode prog_14_method_77_code 15 = .ok (.ireturn, 1) := by decide +kernel
theorem zd_LassoFinderModel_point_0 : decode prog_14_method_76_code 0 = .ok (.aload_n 0, 1) := by decide +kernel
theorem zd_LassoFinderModel_point_1 : decode prog_14_method_76_code 1 = .ok (.invokevirtual 467, 3) := by decide +kernel
theorem zd_LassoFinderModel_point_4 : decode prog_14_method_76_code 4 = .ok (.ifCond .eq 26, 3) := by decide +kernel
theorem zd_LassoFinderModel_point_7 : decode prog_14_method_76_code 7 = .ok (.iload_n 1, 1) := by decide +kernel
theorem zd_LassoFinderModel_point_8 : decode prog_14_method_76_code 8 = .ok (.iconst 0, 1) := by decide +kernel
theorem zd_LassoFinderModel_point_9 : decode prog_14_method_76_code 9 = .ok (.aload_n 0, 1) := by decide +kernel
theorem zd_LassoFinderModel_point_10 : decode prog_14_method_76_code 10 = .ok (.getfield 254, 3) := by decide +kernel
theorem zd_LassoFinderModel_point_13 : decode prog_14_method_76_code 13 = .ok (.iconst 1, 1) := by decide +kernel
theorem zd_LassoFinderModel_point_14 : decode prog_14_method_76_code 14 = .ok (.isub, 1) := by decide +kernel
theorem zd_LassoFinderModel_point_15 : decode prog_14_method_76_code 15 = .ok (.invokestatic 196, 3) := by decide +kernel
theorem zd_LassoFinderModel_point_18 : decode prog_14_method_76_code 18 = .ok (.ifCond .eq 12, 3) := by decide +kernel
theorem zd_LassoFinderModel_point_21 : decode prog_14_method_76_code 21 = .ok (.aload_n 0, 1) := by decide +kernel
theorem zd_LassoFinderModel_point_22 : decode prog_14_method_76_code 22 = .ok (.getfield 139, 3) := by decide +kernel
theorem zd_LassoFinderModel_point_25 : decode prog_14_method_76_code 25 = .ok (.iload_n 1, 1) := by decide +kernel
theorem zd_LassoFinderModel_point_26 : decode prog_14_method_76_code 26 = .ok (.iaload, 1) := by decide +kernel
theorem zd_LassoFinderModel_point_27 : decode prog_14_method_76_code 27 = .ok (.goto 4, 3) := by decide +kernel
theorem zd_LassoFinderModel_point_30 : decode prog_14_method_76_code 30 = .ok (.iconst (-1), 1) := by decide +kernel
theorem zd_LassoFinderModel_point_31 : decode prog_14_method_76_code 31 = .ok (.ireturn, 1) := by decide +kernel
theorem zd_LassoFinderModel_truth_0 : decode prog_14_method_78_code 0 = .ok (.aload_n 0, 1) := by decide +kernel
theorem zd_LassoFinderModel_truth_1 : decode prog_14_method_78_code 1 = .ok (.aload_n 0, 1) := by decide +kernel
theorem zd_LassoFinderModel_truth_2 : decode prog_14_method_78_code 2 = .ok (.getfield 187, 3) := by decide +kernel
theorem zd_LassoFinderModel_truth_5 : decode prog_14_method_78_code 5 = .ok (.ifCond .lt 10, 3) := by decide +kernel
theorem zd_LassoFinderModel_truth_8 : decode prog_14_method_78_code 8 = .ok (.aload_n 0, 1) := by decide +kernel
theorem zd_LassoFinderModel_truth_9 : decode prog_14_method_78_code 9 = .ok (.getfield 358, 3) := by decide +kernel
theorem zd_LassoFinderModel_truth_12 : decode prog_14_method_78_code 12 = .ok (.ifCond .ne 7, 3) := by decide +kernel
theorem zd_LassoFinderModel_truth_15 : decode prog_14_method_78_code 15 = .ok (.iconst 1, 1) := by decide +kernel
theorem zd_LassoFinderModel_truth_16 : decode prog_14_method_78_code 16 = .ok (.goto 40, 3) := by decide +kernel
theorem zd_LassoFinderModel_truth_19 : decode prog_14_method_78_code 19 = .ok (.iload_n 1, 1) := by decide +kernel
theorem zd_LassoFinderModel_truth_20 : decode prog_14_method_78_code 20 = .ok (.iconst 0, 1) := by decide +kernel
theorem zd_LassoFinderModel_truth_21 : decode prog_14_method_78_code 21 = .ok (.aload_n 0, 1) := by decide +kernel
theorem zd_LassoFinderModel_truth_22 : decode prog_14_method_78_code 22 = .ok (.getfield 187, 3) := by decide +kernel
theorem zd_LassoFinderModel_truth_25 : decode prog_14_method_78_code 25 = .ok (.iconst 1, 1) := by decide +kernel
theorem zd_LassoFinderModel_truth_26 : decode prog_14_method_78_code 26 = .ok (.isub, 1) := by decide +kernel
theorem zd_LassoFinderModel_truth_27 : decode prog_14_method_78_code 27 = .ok (.invokestatic 196, 3) := by decide +kernel
theorem zd_LassoFinderModel_truth_30 : decode prog_14_method_78_code 30 = .ok (.ifCond .eq 21, 3) := by decide +kernel
theorem zd_LassoFinderModel_truth_33 : decode prog_14_method_78_code 33 = .ok (.aload_n 0, 1) := by decide +kernel
theorem zd_LassoFinderModel_truth_34 : decode prog_14_method_78_code 34 = .ok (.getfield 190, 3) := by decide +kernel
theorem zd_LassoFinderModel_truth_37 : decode prog_14_method_78_code 37 = .ok (.iload_n 1, 1) := by decide +kernel
theorem zd_LassoFinderModel_truth_38 : decode prog_14_method_78_code 38 = .ok (.iaload, 1) := by decide +kernel
theorem zd_LassoFinderModel_truth_39 : decode prog_14_method_78_code 39 = .ok (.aload_n 0, 1) := by decide +kernel
theorem zd_LassoFinderModel_truth_40 : decode prog_14_method_78_code 40 = .ok (.getfield 190, 3) := by decide +kernel
theorem zd_LassoFinderModel_truth_43 : decode prog_14_method_78_code 43 = .ok (.aload_n 0, 1) := by decide +kernel
theorem zd_LassoFinderModel_truth_44 : decode prog_14_method_78_code 44 = .ok (.getfield 187, 3) := by decide +kernel
theorem zd_LassoFinderModel_truth_47 : decode prog_14_method_78_code 47 = .ok (.iaload, 1) := by decide +kernel
theorem zd_LassoFinderModel_truth_48 : decode prog_14_method_78_code 48 = .ok (.if_icmp .eq 7, 3) := by decide +kernel
theorem zd_LassoFinderModel_truth_51 : decode prog_14_method_78_code 51 = .ok (.iconst 2, 1) := by decide +kernel
theorem zd_LassoFinderModel_truth_52 : decode prog_14_method_78_code 52 = .ok (.goto 4, 3) := by decide +kernel
theorem zd_LassoFinderModel_truth_55 : decode prog_14_method_78_code 55 = .ok (.iconst 0, 1) := by decide +kernel
theorem zd_LassoFinderModel_truth_56 : decode prog_14_method_78_code 56 = .ok (.putfield 193, 3) := by decide +kernel
theorem zd_LassoFinderModel_truth_59 : decode prog_14_method_78_code 59 = .ok (.aload_n 0, 1) := by decide +kernel
theorem zd_LassoFinderModel_truth_60 : decode prog_14_method_78_code 60 = .ok (.getfield 193, 3) := by decide +kernel
theorem zd_LassoFinderModel_truth_63 : decode prog_14_method_78_code 63 = .ok (.ifCond .le 5, 3) := by decide +kernel
theorem zd_LassoFinderModel_truth_66 : decode prog_14_method_78_code 66 = .ok (.iconst 0, 1) := by decide +kernel
theorem zd_LassoFinderModel_truth_67 : decode prog_14_method_78_code 67 = .ok (.ireturn, 1) := by decide +kernel
theorem zd_LassoFinderModel_truth_68 : decode prog_14_method_78_code 68 = .ok (.iconst 0, 1) := by decide +kernel
theorem zd_LassoFinderModel_truth_69 : decode prog_14_method_78_code 69 = .ok (.istore_n 2, 1) := by decide +kernel
theorem zd_LassoFinderModel_truth_70 : decode prog_14_method_78_code 70 = .ok (.iconst 0, 1) := by decide +kernel
theorem zd_LassoFinderModel_truth_71 : decode prog_14_method_78_code 71 = .ok (.istore_n 3, 1) := by decide +kernel
theorem zd_LassoFinderModel_truth_72 : decode prog_14_method_78_code 72 = .ok (.iload_n 3, 1) := by decide +kernel
theorem zd_LassoFinderModel_truth_73 : decode prog_14_method_78_code 73 = .ok (.aload_n 0, 1) := by decide +kernel
theorem zd_LassoFinderModel_truth_74 : decode prog_14_method_78_code 74 = .ok (.getfield 376, 3) := by decide +kernel
theorem zd_LassoFinderModel_truth_77 : decode prog_14_method_78_code 77 = .ok (.if_icmp .ge 117, 3) := by decide +kernel
theorem zd_LassoFinderModel_truth_80 : decode prog_14_method_78_code 80 = .ok (.aload_n 0, 1) := by decide +kernel
theorem zd_LassoFinderModel_truth_81 : decode prog_14_method_78_code 81 = .ok (.getfield 145, 3) := by decide +kernel
theorem zd_LassoFinderModel_truth_84 : decode prog_14_method_78_code 84 = .ok (.aload_n 0, 1) := by decide +kernel
theorem zd_LassoFinderModel_truth_85 : decode prog_14_method_78_code 85 = .ok (.getfield 151, 3) := by decide +kernel
theorem zd_LassoFinderModel_truth_88 : decode prog_14_method_78_code 88 = .ok (.iload_n 3, 1) := by decide +kernel
theorem zd_LassoFinderModel_truth_89 : decode prog_14_method_78_code 89 = .ok (.iaload, 1) := by decide +kernel
theorem zd_LassoFinderModel_truth_90 : decode prog_14_method_78_code 90 = .ok (.iaload, 1) := by decide +kernel
theorem zd_LassoFinderModel_truth_91 : decode prog_14_method_78_code 91 = .ok (.bipush 12, 2) := by decide +kernel
theorem zd_LassoFinderModel_truth_93 : decode prog_14_method_78_code 93 = .ok (.if_icmp .eq 19, 3) := by decide +kernel
theorem zd_LassoFinderModel_truth_96 : decode prog_14_method_78_code 96 = .ok (.aload_n 0, 1) := by decide +kernel
theorem zd_LassoFinderModel_truth_97 : decode prog_14_method_78_code 97 = .ok (.getfield 145, 3) := by decide +kernel
theorem zd_LassoFinderModel_truth_100 : decode prog_14_method_78_code 100 = .ok (.aload_n 0, 1) := by decide +kernel
theorem zd_LassoFinderModel_truth_101 : decode prog_14_method_78_code 101 = .ok (.getfield 151, 3) := by decide +kernel
theorem zd_LassoFinderModel_truth_104 : decode prog_14_method_78_code 104 = .ok (.iload_n 3, 1) := by decide +kernel
theorem zd_LassoFinderModel_truth_105 : decode prog_14_method_78_code 105 = .ok (.iaload, 1) := by decide +kernel
theorem zd_LassoFinderModel_truth_106 : decode prog_14_method_78_code 106 = .ok (.iaload, 1) := by decide +kernel
theorem zd_LassoFinderModel_truth_107 : decode prog_14_method_78_code 107 = .ok (.bipush 15, 2) := by decide +kernel
theorem zd_LassoFinderModel_truth_109 : decode prog_14_method_78_code 109 = .ok (.if_icmp .ne 7, 3) := by decide +kernel
theorem zd_LassoFinderModel_truth_112 : decode prog_14_method_78_code 112 = .ok (.iconst 1, 1) := by decide +kernel
theorem zd_LassoFinderModel_truth_113 : decode prog_14_method_78_code 113 = .ok (.goto 4, 3) := by decide +kernel
theorem zd_LassoFinderModel_truth_116 : decode prog_14_method_78_code 116 = .ok (.iconst 0, 1) := by decide +kernel
theorem zd_LassoFinderModel_truth_117 : decode prog_14_method_78_code 117 = .ok (.istore 4, 2) := by decide +kernel
theorem zd_LassoFinderModel_truth_119 : decode prog_14_method_78_code 119 = .ok (.iload 4, 2) := by decide +kernel
theorem zd_LassoFinderModel_truth_121 : decode prog_14_method_78_code 121 = .ok (.ifCond .eq 13, 3) := by decide +kernel
theorem zd_LassoFinderModel_truth_124 : decode prog_14_method_78_code 124 = .ok (.iload_n 2, 1) := by decide +kernel
theorem zd_LassoFinderModel_truth_125 : decode prog_14_method_78_code 125 = .ok (.iconst 1, 1) := by decide +kernel
theorem zd_LassoFinderModel_truth_126 : decode prog_14_method_78_code 126 = .ok (.iload_n 3, 1) := by decide +kernel
theorem zd_LassoFinderModel_truth_127 : decode prog_14_method_78_code 127 = .ok (.ishl, 1) := by decide +kernel
theorem zd_LassoFinderModel_truth_128 : decode prog_14_method_78_code 128 = .ok (.iconst (-1), 1) := by decide +kernel
theorem zd_LassoFinderModel_truth_129 : decode prog_14_method_78_code 129 = .ok (.ixor, 1) := by decide +kernel
theorem zd_LassoFinderModel_truth_130 : decode prog_14_method_78_code 130 = .ok (.iand, 1) := by decide +kernel
theorem zd_LassoFinderModel_truth_131 : decode prog_14_method_78_code 131 = .ok (.goto 8, 3) := by decide +kernel
theorem zd_LassoFinderModel_truth_134 : decode prog_14_method_78_code 134 = .ok (.iload_n 2, 1) := by decide +kernel
theorem zd_LassoFinderModel_truth_135 : decode prog_14_method_78_code 135 = .ok (.iconst 1, 1) := by decide +kernel
theorem zd_LassoFinderModel_truth_136 : decode prog_14_method_78_code 136 = .ok (.iload_n 3, 1) := by decide +kernel
theorem zd_LassoFinderModel_truth_137 : decode prog_14_method_78_code 137 = .ok (.ishl, 1) := by decide +kernel
theorem zd_LassoFinderModel_truth_138 : decode prog_14_method_78_code 138 = .ok (.ior, 1) := by decide +kernel
theorem zd_LassoFinderModel_truth_139 : decode prog_14_method_78_code 139 = .ok (.istore_n 2, 1) := by decide +kernel
theorem zd_LassoFinderModel_truth_140 : decode prog_14_method_78_code 140 = .ok (.iconst 0, 1) := by decide +kernel
theorem zd_LassoFinderModel_truth_141 : decode prog_14_method_78_code 141 = .ok (.istore 5, 2) := by decide +kernel
theorem zd_LassoFinderModel_truth_143 : decode prog_14_method_78_code 143 = .ok (.iload 5, 2) := by decide +kernel
theorem zd_LassoFinderModel_truth_145 : decode prog_14_method_78_code 145 = .ok (.iconst 2, 1) := by decide +kernel
theorem zd_LassoFinderModel_truth_146 : decode prog_14_method_78_code 146 = .ok (.if_icmp .ge 42, 3) := by decide +kernel
theorem zd_LassoFinderModel_truth_149 : decode prog_14_method_78_code 149 = .ok (.aload_n 0, 1) := by decide +kernel
theorem zd_LassoFinderModel_truth_150 : decode prog_14_method_78_code 150 = .ok (.getfield 187, 3) := by decide +kernel
theorem zd_LassoFinderModel_truth_153 : decode prog_14_method_78_code 153 = .ok (.iconst 1, 1) := by decide +kernel
theorem zd_LassoFinderModel_truth_154 : decode prog_14_method_78_code 154 = .ok (.isub, 1) := by decide +kernel
theorem zd_LassoFinderModel_truth_155 : decode prog_14_method_78_code 155 = .ok (.istore 6, 2) := by decide +kernel
theorem zd_LassoFinderModel_truth_157 : decode prog_14_method_78_code 157 = .ok (.iload 6, 2) := by decide +kernel
theorem zd_LassoFinderModel_truth_159 : decode prog_14_method_78_code 159 = .ok (.iload_n 1, 1) := by decide +kernel
theorem zd_LassoFinderModel_truth_160 : decode prog_14_method_78_code 160 = .ok (.if_icmp .lt 22, 3) := by decide +kernel
theorem zd_LassoFinderModel_truth_163 : decode prog_14_method_78_code 163 = .ok (.aload_n 0, 1) := by decide +kernel
theorem zd_LassoFinderModel_truth_164 : decode prog_14_method_78_code 164 = .ok (.aload_n 0, 1) := by decide +kernel
theorem zd_LassoFinderModel_truth_165 : decode prog_14_method_78_code 165 = .ok (.getfield 190, 3) := by decide +kernel
theorem zd_LassoFinderModel_truth_168 : decode prog_14_method_78_code 168 = .ok (.iload 6, 2) := by decide +kernel
theorem zd_LassoFinderModel_truth_170 : decode prog_14_method_78_code 170 = .ok (.iaload, 1) := by decide +kernel
theorem zd_LassoFinderModel_truth_171 : decode prog_14_method_78_code 171 = .ok (.iload_n 2, 1) := by decide +kernel
theorem zd_LassoFinderModel_truth_172 : decode prog_14_method_78_code 172 = .ok (.invokevirtual 422, 3) := by decide +kernel
theorem zd_LassoFinderModel_truth_175 : decode prog_14_method_78_code 175 = .ok (.istore_n 2, 1) := by decide +kernel
theorem zd_LassoFinderModel_truth_176 : decode prog_14_method_78_code 176 = .ok (.iinc 6 (-1), 3) := by decide +kernel
theorem zd_LassoFinderModel_truth_179 : decode prog_14_method_78_code 179 = .ok (.goto (-22), 3) := by decide +kernel
theorem zd_LassoFinderModel_truth_182 : decode prog_14_method_78_code 182 = .ok (.iinc 5 1, 3) := by decide +kernel
theorem zd_LassoFinderModel_truth_185 : decode prog_14_method_78_code 185 = .ok (.goto (-42), 3) := by decide +kernel
theorem zd_LassoFinderModel_truth_188 : decode prog_14_method_78_code 188 = .ok (.iinc 3 1, 3) := by decide +kernel
theorem zd_LassoFinderModel_truth_191 : decode prog_14_method_78_code 191 = .ok (.goto (-119), 3) := by decide +kernel
theorem zd_LassoFinderModel_truth_194 : decode prog_14_method_78_code 194 = .ok (.iload_n 1, 1) := by decide +kernel
theorem zd_LassoFinderModel_truth_195 : decode prog_14_method_78_code 195 = .ok (.iconst 1, 1) := by decide +kernel
theorem zd_LassoFinderModel_truth_196 : decode prog_14_method_78_code 196 = .ok (.isub, 1) := by decide +kernel
theorem zd_LassoFinderModel_truth_197 : decode prog_14_method_78_code 197 = .ok (.istore_n 3, 1) := by decide +kernel
theorem zd_LassoFinderModel_truth_198 : decode prog_14_method_78_code 198 = .ok (.iload_n 3, 1) := by decide +kernel
theorem zd_LassoFinderModel_truth_199 : decode prog_14_method_78_code 199 = .ok (.ifCond .lt 21, 3) := by decide +kernel
theorem zd_LassoFinderModel_truth_202 : decode prog_14_method_78_code 202 = .ok (.aload_n 0, 1) := by decide +kernel
theorem zd_LassoFinderModel_truth_203 : decode prog_14_method_78_code 203 = .ok (.aload_n 0, 1) := by decide +kernel
theorem zd_LassoFinderModel_truth_204 : decode prog_14_method_78_code 204 = .ok (.getfield 190, 3) := by decide +kernel
theorem zd_LassoFinderModel_truth_207 : decode prog_14_method_78_code 207 = .ok (.iload_n 3, 1) := by decide +kernel
theorem zd_LassoFinderModel_truth_208 : decode prog_14_method_78_code 208 = .ok (.iaload, 1) := by decide +kernel
theorem zd_LassoFinderModel_truth_209 : decode prog_14_method_78_code 209 = .ok (.iload_n 2, 1) := by decide +kernel
theorem zd_LassoFinderModel_truth_210 : decode prog_14_method_78_code 210 = .ok (.invokevirtual 422, 3) := by decide +kernel
theorem zd_LassoFinderModel_truth_213 : decode prog_14_method_78_code 213 = .ok (.istore_n 2, 1) := by decide +kernel
theorem zd_LassoFinderModel_truth_214 : decode prog_14_method_78_code 214 = .ok (.iinc 3 (-1), 3) := by decide +kernel
theorem zd_LassoFinderModel_truth_217 : decode prog_14_method_78_code 217 = .ok (.goto (-19), 3) := by decide +kernel
theorem zd_LassoFinderModel_truth_220 : decode prog_14_method_78_code 220 = .ok (.aload_n 0, 1) := by decide +kernel
theorem zd_LassoFinderModel_truth_221 : decode prog_14_method_78_code 221 = .ok (.aload_n 0, 1) := by decide +kernel
theorem zd_LassoFinderModel_truth_222 : decode prog_14_method_78_code 222 = .ok (.getfield 190, 3) := by decide +kernel
theorem zd_LassoFinderModel_truth_225 : decode prog_14_method_78_code 225 = .ok (.iconst 0, 1) := by decide +kernel
theorem zd_LassoFinderModel_truth_226 : decode prog_14_method_78_code 226 = .ok (.iaload, 1) := by decide +kernel
theorem zd_LassoFinderModel_truth_227 : decode prog_14_method_78_code 227 = .ok (.iload_n 2, 1) := by decide +kernel
theorem zd_LassoFinderModel_truth_228 : decode prog_14_method_78_code 228 = .ok (.invokevirtual 431, 3) := by decide +kernel
theorem zd_LassoFinderModel_truth_231 : decode prog_14_method_78_code 231 = .ok (.ireturn, 1) := by decide +kernel
def wc_LassoFinderModel_point_31 (a0 : Int32) (Post : Int32 → (Nat → Int32) → (Nat → Int64) → (Nat → Nat → Int32) → (Nat → Nat → Int64) → Prop) (y0 : Int32) (I : Nat → Int32) (J : Nat → Int64) (B : Nat → Nat → Int32) (D : Nat → Nat → Int64) : Prop :=
  Post y0 I J B D
def wc_LassoFinderModel_point_30 (a0 : Int32) (Post : Int32 → (Nat → Int32) → (Nat → Int64) → (Nat → Nat → Int32) → (Nat → Nat → Int64) → Prop)  (I : Nat → Int32) (J : Nat → Int64) (B : Nat → Nat → Int32) (D : Nat → Nat → Int64) : Prop :=
  wc_LassoFinderModel_point_31 a0 Post (-1) I J B D
def wp_LassoFinderModel_point (I : Nat → Int32) (J : Nat → Int64) (B : Nat → Nat → Int32) (D : Nat → Nat → Int64) (a0 : Int32) (Post : Int32 → (Nat → Int32) → (Nat → Int64) → (Nat → Nat → Int32) → (Nat → Nat → Int64) → Prop) : Prop :=
  wp_LassoFinderModel_stood I J B D  (fun r1 I1 J1 B1 D1 => ((r1 = 0 → wc_LassoFinderModel_point_30 a0 Post I1 J1 B1 D1) ∧ (¬ r1 = 0 → ∀ z3 : Int32, z3 = ((I1 10) - 1) → wp_LassoFinderModel_in I1 J1 B1 D1 a0 0 z3 (fun r4 I4 J4 B4 D4 => ((r4 = 0 → wc_LassoFinderModel_point_30 a0 Post I4 J4 B4 D4) ∧ (¬ r4 = 0 → vp_in a0 4 ∧ ∀ z6 : Int32, z6 = ((B4 39) a0.toNatClampNeg) → wc_LassoFinderModel_point_31 a0 Post z6 I4 J4 B4 D4))))))
set_option maxHeartbeats 8000000 in
set_option maxRecDepth 100000 in
theorem wJ_LassoFinderModel_point_31 {p : Program} {l : Launch} {e : Env} {s : State} {m : MethodId} {below : List Frame} {meth : Method} {c : Code} {A : Nat → Prop} (G : va_G) (K : Nat → ClassId) (ad : Nat → Nat) (a0 : Int32) (Post : Int32 → (Nat → Int32) → (Nat → Int64) → (Nat → Nat → Int32) → (Nat → Nat → Int64) → Prop) (C : zCx p s m ([.ref (ad 0), .int a0] : List Value).toArray meth c A G K prog_14_method_76_code (some .int) 2 "LassoFinderModel") : ∀ (y0 : Int32) (I : Nat → Int32) (J : Nat → Int64) (B : Nat → Nat → Int32) (D : Nat → Nat → Int64) (ls : Array Slot) (H : Heap) (locs : List Loc), wc_LassoFinderModel_point_31 a0 Post y0 I J B D → lv_has ls 2 [] → zW G A s.heap (wM ad K I J B D) H locs → W p l e { frames := 2, cells := 0, slots := 0, locals := 44 } s m ([.ref (ad 0), .int a0] : List Value).toArray below meth c H locs 0 0 (MQ below (va_Qi (fun (r : Int32) (u : zS) => Post r u.1 u.2.1 u.2.2.1 u.2.2.2) (fun u t => zPost G K A (wM ad K u.1 u.2.1 u.2.2.1 u.2.2.2) t) A) ([.ref (ad 0), .int a0] : List Value).toArray s 0 0 A) (F0 m 31 ls [.int y0]) := by
  obtain ⟨hx, hb, hr, hml, hts, hown, hlocks, hA, hK⟩ := id C
  intro y0 I J B D ls H locs hok hl hw
  unfold wc_LassoFinderModel_point_31 at hok
  exact (z_iret (u := (I, J, B, D)) hx hb hr hlocks rfl hw (List.range 58) wM_all wM_nd hok (Nat.le_of_ble_eq_true rfl) (Nat.le_of_ble_eq_true rfl) zd_LassoFinderModel_point_31)
set_option maxHeartbeats 8000000 in
set_option maxRecDepth 100000 in
theorem wJ_LassoFinderModel_point_30 {p : Program} {l : Launch} {e : Env} {s : State} {m : MethodId} {below : List Frame} {meth : Method} {c : Code} {A : Nat → Prop} (G : va_G) (K : Nat → ClassId) (ad : Nat → Nat) (a0 : Int32) (Post : Int32 → (Nat → Int32) → (Nat → Int64) → (Nat → Nat → Int32) → (Nat → Nat → Int64) → Prop) (C : zCx p s m ([.ref (ad 0), .int a0] : List Value).toArray meth c A G K prog_14_method_76_code (some .int) 2 "LassoFinderModel") : ∀  (I : Nat → Int32) (J : Nat → Int64) (B : Nat → Nat → Int32) (D : Nat → Nat → Int64) (ls : Array Slot) (H : Heap) (locs : List Loc), wc_LassoFinderModel_point_30 a0 Post  I J B D → lv_has ls 2 [] → zW G A s.heap (wM ad K I J B D) H locs → W p l e { frames := 2, cells := 0, slots := 0, locals := 44 } s m ([.ref (ad 0), .int a0] : List Value).toArray below meth c H locs 0 0 (MQ below (va_Qi (fun (r : Int32) (u : zS) => Post r u.1 u.2.1 u.2.2.1 u.2.2.2) (fun u t => zPost G K A (wM ad K u.1 u.2.1 u.2.2.1 u.2.2.2) t) A) ([.ref (ad 0), .int a0] : List Value).toArray s 0 0 A) (F0 m 30 ls []) := by
  obtain ⟨hx, hb, hr, hml, hts, hown, hlocks, hA, hK⟩ := id C
  intro  I J B D ls H locs hok hl hw
  unfold wc_LassoFinderModel_point_30 at hok
  refine lv_iconst (v := (-1)) hx hb zd_LassoFinderModel_point_30 (by decide) ?_
  exact wJ_LassoFinderModel_point_31 G K ad a0 Post C (-1) I J B D ls H locs hok (lv_sub hl [] rfl) hw
set_option maxHeartbeats 8000000 in
set_option maxRecDepth 100000 in
theorem w_LassoFinderModel_point (l : Launch) (G : va_G) (K : Nat → ClassId) (ad : Nat → Nat) (I : Nat → Int32) (J : Nat → Int64) (B : Nat → Nat → Int32) (D : Nat → Nat → Int64) (a0 : Int32) (Post : Int32 → (Nat → Int32) → (Nat → Int64) → (Nat → Nat → Int32) → (Nat → Nat → Int64) → Prop) (sz : Nat) (hok : wp_LassoFinderModel_point I J B D a0 Post) : Met l zy_LassoFinderModel_point (Cond.code zy_LassoFinderModel_point prog_14_method_76_code 2 (some .int) :: zTB) { frames := 2, cells := 0, slots := 0, locals := 44 } (va_Pc [.ref (ad 0), .int a0] (zPre G K (wM ad K I J B D) sz)) (va_Qi (fun (r : Int32) (u : zS) => Post r u.1 u.2.1 u.2.2.1 u.2.2.2) (fun u t => zPost G K (va_A (wM ad K I J B D) sz) (wM ad K u.1 u.2.1 u.2.2.1 u.2.2.2) t) (va_A (wM ad K I J B D) sz)) 0 0 (va_A (wM ad K I J B D) sz) := by
  refine zMet (y := zy_LassoFinderModel_point) (av := [.ref (ad 0), .int a0]) (maxL := 2) (cc := prog_14_method_76_code) (ret := (some .int)) (W0 := (wM ad K I J B D)) (sz := sz) (G := G) (K := K) (wt := zTB) (mc := 0) (ms := 0) (Qf := fun A => va_Qi (fun (r : Int32) (u : zS) => Post r u.1 u.2.1 u.2.2.1 u.2.2.2) (fun u t => zPost G K A (wM ad K u.1 u.2.1 u.2.2.1 u.2.2.2) t) A) (by decide) (Nat.le_of_ble_eq_true rfl) ?_
  intro p e s m below meth c ls A hx hb hr hml hts hown hlocks hin hA hK H locs hw hsz hl
  clear hsz
  have hown : s.vm.findClass "LassoFinderModel" = some m.cls := hown
  have C : zCx p s m ([.ref (ad 0), .int a0] : List Value).toArray meth c A G K prog_14_method_76_code (some .int) 2 "LassoFinderModel" := ⟨hx, hb, hr, hml, hts, hown, hlocks, hA, hK⟩
  have hl : lv_has ls 2 [(0, .ref (ad 0)), (1, .int a0)] := hl
  have hw : zW G A s.heap (wM ad K I J B D) H locs := hw
  unfold wp_LassoFinderModel_point at hok
  refine lv_aload_n hx hb zd_LassoFinderModel_point_0 rfl (lv_at hl 0 rfl) ?_
  refine z_calli (w1 := fun (u : zS) => wM ad K u.1 u.2.1 u.2.2.1 u.2.2.2) (wr := []) (z_runV (q0 := 0) (wc := (wM ad K I J B D)) (As := []) (rest := []) ⟨hx, hb, hml, hown, hts⟩ (w_LassoFinderModel_stood l G K ad I J B D  _ H.size hok) zf_LassoFinderModel_stood zm_381 ⟨Nat.le_of_ble_eq_true rfl, Nat.le_of_ble_eq_true rfl⟩ hK hw (List.range 58) wM_all wM_nd wM_g0 rfl rfl hl.1 rfl (Nat.le_of_ble_eq_true rfl) zd_LassoFinderModel_point_1 ⟨Nat.le_of_ble_eq_true rfl, Nat.le_of_ble_eq_true rfl⟩) hw hA (List.range 58) [] wM_all rfl (by decide) (fun i hi => by cases hi) (fun r1 u H locs hok hw => ?_)
  obtain ⟨I1, J1, B1, D1⟩ := u
  dsimp only at hok
  have hw : zW G A s.heap (wM ad K I1 J1 B1 D1) H locs := hw
  refine lv_if_eq (tgt := 30) hx hb zd_LassoFinderModel_point_4 (by decide) (fun hc2 => ?_) (fun hc2 => ?_)
  · have hok := hok.1 hc2
    exact wJ_LassoFinderModel_point_30 G K ad a0 Post C I1 J1 B1 D1 ls H locs hok (lv_sub hl [] rfl) hw
  · have hok := hok.2 hc2
    refine lv_iload_n hx hb zd_LassoFinderModel_point_7 rfl (lv_at hl 1 rfl) ?_
    refine lv_iconst (v := 0) hx hb zd_LassoFinderModel_point_8 (by decide) ?_
    refine lv_aload_n hx hb zd_LassoFinderModel_point_9 rfl (lv_at hl 0 rfl) ?_
    refine z_get (v := .int (I1 10)) hx hb hts hown hK hw zZ12 0 wM_g0 30 (by decide) zm_310 rfl zd_LassoFinderModel_point_10 ?_
    refine lv_iconst (v := 1) hx hb zd_LassoFinderModel_point_13 (by decide) ?_
    refine lv_isub hx hb zd_LassoFinderModel_point_14 ?_
    refine lv_topi (fun z3 ez3 => ?_)
    have hok := hok z3 ez3
    refine z_calli (w1 := fun (u : zS) => wM ad K u.1 u.2.1 u.2.2.1 u.2.2.2) (wr := []) (z_runS (wc := (wM ad K I1 J1 B1 D1)) (As := [.int a0, .int 0, .int z3]) (rest := []) ⟨hx, hb, hml, hown, hts⟩ (w_LassoFinderModel_in l G K ad I1 J1 B1 D1 a0 0 z3 _ H.size hok) zf_LassoFinderModel_in zm_293 ⟨Nat.le_of_ble_eq_true rfl, Nat.le_of_ble_eq_true rfl⟩ hK hw (List.range 58) wM_all wM_nd rfl hl.1 rfl (Nat.le_of_ble_eq_true rfl) zd_LassoFinderModel_point_15 ⟨Nat.le_of_ble_eq_true rfl, Nat.le_of_ble_eq_true rfl⟩) hw hA (List.range 58) [] wM_all rfl (by decide) (fun i hi => by cases hi) (fun r4 u H locs hok hw => ?_)
    obtain ⟨I4, J4, B4, D4⟩ := u
    dsimp only at hok
    have hw : zW G A s.heap (wM ad K I4 J4 B4 D4) H locs := hw
    refine lv_if_eq (tgt := 30) hx hb zd_LassoFinderModel_point_18 (by decide) (fun hc5 => ?_) (fun hc5 => ?_)
    · have hok := hok.1 hc5
      exact wJ_LassoFinderModel_point_30 G K ad a0 Post C I4 J4 B4 D4 ls H locs hok (lv_sub hl [] rfl) hw
    · have hok := hok.2 hc5
      refine lv_aload_n hx hb zd_LassoFinderModel_point_21 rfl (lv_at hl 0 rfl) ?_
      refine z_get (v := .ref (ad 42)) hx hb hts hown hK hw zZ12 0 wM_g0 58 (by decide) zm_276 rfl zd_LassoFinderModel_point_22 ?_
      refine lv_iload_n hx hb zd_LassoFinderModel_point_25 rfl (lv_at hl 1 rfl) ?_
      refine va_iald (f := (B4 39)) hx hb hK hw.1 42 0 wM_a42 rfl hok.1 zd_LassoFinderModel_point_26 ?_
      have hok := hok.2
      refine lv_topi (fun z6 ez6 => ?_)
      have hok := hok z6 ez6
      refine lv_goto (tgt := 31) hx hb zd_LassoFinderModel_point_27 (by decide) ?_
      exact wJ_LassoFinderModel_point_31 G K ad a0 Post C z6 I4 J4 B4 D4 ls H locs hok (lv_sub hl [] rfl) hw
def wc_LassoFinderModel_holder_15 (Post : Int32 → (Nat → Int32) → (Nat → Int64) → (Nat → Nat → Int32) → (Nat → Nat → Int64) → Prop) (y0 : Int32) (I : Nat → Int32) (J : Nat → Int64) (B : Nat → Nat → Int32) (D : Nat → Nat → Int64) : Prop :=
  Post y0 I J B D
def wp_LassoFinderModel_holder (I : Nat → Int32) (J : Nat → Int64) (B : Nat → Nat → Int32) (D : Nat → Nat → Int64) (Post : Int32 → (Nat → Int32) → (Nat → Int64) → (Nat → Nat → Int32) → (Nat → Nat → Int64) → Prop) : Prop :=
  wp_LassoFinderModel_stood I J B D  (fun r1 I1 J1 B1 D1 => ((r1 = 0 → wc_LassoFinderModel_holder_15  Post (-1) I1 J1 B1 D1) ∧ (¬ r1 = 0 → wc_LassoFinderModel_holder_15  Post (I1 17) I1 J1 B1 D1)))
set_option maxHeartbeats 8000000 in
set_option maxRecDepth 100000 in
theorem wJ_LassoFinderModel_holder_15 {p : Program} {l : Launch} {e : Env} {s : State} {m : MethodId} {below : List Frame} {meth : Method} {c : Code} {A : Nat → Prop} (G : va_G) (K : Nat → ClassId) (ad : Nat → Nat) (Post : Int32 → (Nat → Int32) → (Nat → Int64) → (Nat → Nat → Int32) → (Nat → Nat → Int64) → Prop) (C : zCx p s m ([.ref (ad 0)] : List Value).toArray meth c A G K prog_14_method_77_code (some .int) 1 "LassoFinderModel") : ∀ (y0 : Int32) (I : Nat → Int32) (J : Nat → Int64) (B : Nat → Nat → Int32) (D : Nat → Nat → Int64) (ls : Array Slot) (H : Heap) (locs : List Loc), wc_LassoFinderModel_holder_15  Post y0 I J B D → lv_has ls 1 [] → zW G A s.heap (wM ad K I J B D) H locs → W p l e { frames := 2, cells := 0, slots := 0, locals := 44 } s m ([.ref (ad 0)] : List Value).toArray below meth c H locs 0 0 (MQ below (va_Qi (fun (r : Int32) (u : zS) => Post r u.1 u.2.1 u.2.2.1 u.2.2.2) (fun u t => zPost G K A (wM ad K u.1 u.2.1 u.2.2.1 u.2.2.2) t) A) ([.ref (ad 0)] : List Value).toArray s 0 0 A) (F0 m 15 ls [.int y0]) := by
  obtain ⟨hx, hb, hr, hml, hts, hown, hlocks, hA, hK⟩ := id C
  intro y0 I J B D ls H locs hok hl hw
  unfold wc_LassoFinderModel_holder_15 at hok
  exact (z_iret (u := (I, J, B, D)) hx hb hr hlocks rfl hw (List.range 58) wM_all wM_nd hok (Nat.le_of_ble_eq_true rfl) (Nat.le_of_ble_eq_true rfl) zd_LassoFinderModel_holder_15)
set_option maxHeartbeats 8000000 in
set_option maxRecDepth 100000 in
theorem w_LassoFinderModel_holder (l : Launch) (G : va_G) (K : Nat → ClassId) (ad : Nat → Nat) (I : Nat → Int32) (J : Nat → Int64) (B : Nat → Nat → Int32) (D : Nat → Nat → Int64) (Post : Int32 → (Nat → Int32) → (Nat → Int64) → (Nat → Nat → Int32) → (Nat → Nat → Int64) → Prop) (sz : Nat) (hok : wp_LassoFinderModel_holder I J B D  Post) : Met l zy_LassoFinderModel_holder (Cond.code zy_LassoFinderModel_holder prog_14_method_77_code 1 (some .int) :: zTB) { frames := 2, cells := 0, slots := 0, locals := 44 } (va_Pc [.ref (ad 0)] (zPre G K (wM ad K I J B D) sz)) (va_Qi (fun (r : Int32) (u : zS) => Post r u.1 u.2.1 u.2.2.1 u.2.2.2) (fun u t => zPost G K (va_A (wM ad K I J B D) sz) (wM ad K u.1 u.2.1 u.2.2.1 u.2.2.2) t) (va_A (wM ad K I J B D) sz)) 0 0 (va_A (wM ad K I J B D) sz) := by
  refine zMet (y := zy_LassoFinderModel_holder) (av := [.ref (ad 0)]) (maxL := 1) (cc := prog_14_method_77_code) (ret := (some .int)) (W0 := (wM ad K I J B D)) (sz := sz) (G := G) (K := K) (wt := zTB) (mc := 0) (ms := 0) (Qf := fun A => va_Qi (fun (r : Int32) (u : zS) => Post r u.1 u.2.1 u.2.2.1 u.2.2.2) (fun u t => zPost G K A (wM ad K u.1 u.2.1 u.2.2.1 u.2.2.2) t) A) (by decide) (Nat.le_of_ble_eq_true rfl) ?_
  intro p e s m below meth c ls A hx hb hr hml hts hown hlocks hin hA hK H locs hw hsz hl
  clear hsz
  have hown : s.vm.findClass "LassoFinderModel" = some m.cls := hown
  have C : zCx p s m ([.ref (ad 0)] : List Value).toArray meth c A G K prog_14_method_77_code (some .int) 1 "LassoFinderModel" := ⟨hx, hb, hr, hml, hts, hown, hlocks, hA, hK⟩
  have hl : lv_has ls 1 [(0, .ref (ad 0))] := hl
  have hw : zW G A s.heap (wM ad K I J B D) H locs := hw
  unfold wp_LassoFinderModel_holder at hok
  refine lv_aload_n hx hb zd_LassoFinderModel_holder_0 rfl (lv_at hl 0 rfl) ?_
  refine z_calli (w1 := fun (u : zS) => wM ad K u.1 u.2.1 u.2.2.1 u.2.2.2) (wr := []) (z_runV (q0 := 0) (wc := (wM ad K I J B D)) (As := []) (rest := []) ⟨hx, hb, hml, hown, hts⟩ (w_LassoFinderModel_stood l G K ad I J B D  _ H.size hok) zf_LassoFinderModel_stood zm_381 ⟨Nat.le_of_ble_eq_true rfl, Nat.le_of_ble_eq_true rfl⟩ hK hw (List.range 58) wM_all wM_nd wM_g0 rfl rfl hl.1 rfl (Nat.le_of_ble_eq_true rfl) zd_LassoFinderModel_holder_1 ⟨Nat.le_of_ble_eq_true rfl, Nat.le_of_ble_eq_true rfl⟩) hw hA (List.range 58) [] wM_all rfl (by decide) (fun i hi => by cases hi) (fun r1 u H locs hok hw => ?_)
  obtain ⟨I1, J1, B1, D1⟩ := u
  dsimp only at hok
  have hw : zW G A s.heap (wM ad K I1 J1 B1 D1) H locs := hw
  refine lv_if_eq (tgt := 14) hx hb zd_LassoFinderModel_holder_4 (by decide) (fun hc2 => ?_) (fun hc2 => ?_)
  · have hok := hok.1 hc2
    refine lv_iconst (v := (-1)) hx hb zd_LassoFinderModel_holder_14 (by decide) ?_
    exact wJ_LassoFinderModel_holder_15 G K ad  Post C (-1) I1 J1 B1 D1 ls H locs hok (lv_sub hl [] rfl) hw
  · have hok := hok.2 hc2
    refine lv_aload_n hx hb zd_LassoFinderModel_holder_7 rfl (lv_at hl 0 rfl) ?_
    refine z_get (v := .int (I1 17)) hx hb hts hown hK hw zZ12 0 wM_g0 59 (by decide) zm_320 rfl zd_LassoFinderModel_holder_8 ?_
    refine lv_goto (tgt := 15) hx hb zd_LassoFinderModel_holder_11 (by decide) ?_
    exact wJ_LassoFinderModel_holder_15 G K ad  Post C (I1 17) I1 J1 B1 D1 ls H locs hok (lv_sub hl [] rfl) hw
def wb_LassoFinderModel_truth_198 (a0 : Int32) (K198 : Int32 → Int32 → (Nat → Int32) → (Nat → Int64) → (Nat → Nat → Int32) → (Nat → Nat → Int64) → Prop) (Post : Int32 → (Nat → Int32) → (Nat → Int64) → (Nat → Nat → Int32) → (Nat → Nat → Int64) → Prop) (x2 : Int32) (x3 : Int32) (I : Nat → Int32) (J : Nat → Int64) (B : Nat → Nat → Int32) (D : Nat → Nat → Int64) : Prop :=
  ((x3 < 0 → vp_in 0 61 ∧ ∀ z2 : Int32, z2 = ((B 54) (0 : Int32).toNatClampNeg) → wp_LassoFinderModel_isTrue I J B D z2 x2 (fun r3 I3 J3 B3 D3 => (r3 = 0 ∨ r3 = 1) ∧ Post r3 I3 J3 B3 D3)) ∧ (¬ x3 < 0 → vp_in x3 61 ∧ ∀ z4 : Int32, z4 = ((B 54) x3.toNatClampNeg) → wp_LassoFinderModel_truthAt I J B D z4 x2 (fun r5 I5 J5 B5 D5 => ∀ z6 : Int32, z6 = (x3 + (-1)) → K198 r5 z6 I5 J5 B5 D5)))
def wl_LassoFinderModel_truth_198 (a0 : Int32) (Post : Int32 → (Nat → Int32) → (Nat → Int64) → (Nat → Nat → Int32) → (Nat → Nat → Int64) → Prop) (n : Nat) : Int32 → Int32 → (Nat → Int32) → (Nat → Int64) → (Nat → Nat → Int32) → (Nat → Nat → Int64) → Prop := Nat.rec (fun _ _ _ _ _ _ => False) (fun _ r => wb_LassoFinderModel_truth_198 a0 r Post) n
def wb_LassoFinderModel_truth_157 (a0 : Int32) (K157 : Int32 → Int32 → Int32 → Int32 → Int32 → (Nat → Int32) → (Nat → Int64) → (Nat → Nat → Int32) → (Nat → Nat → Int64) → Prop) (K72 : Int32 → Int32 → Int32 → (Nat → Int32) → (Nat → Int64) → (Nat → Nat → Int32) → (Nat → Nat → Int64) → Prop) (K143 : Int32 → Int32 → Int32 → Int32 → (Nat → Int32) → (Nat → Int64) → (Nat → Nat → Int32) → (Nat → Nat → Int64) → Prop) (Post : Int32 → (Nat → Int32) → (Nat → Int64) → (Nat → Nat → Int32) → (Nat → Nat → Int64) → Prop) (x1 : Int32) (x2 : Int32) (x3 : Int32) (x5 : Int32) (x6 : Int32) (I : Nat → Int32) (J : Nat → Int64) (B : Nat → Nat → Int32) (D : Nat → Nat → Int64) : Prop :=
  ((x6 < x1 → ∀ z8 : Int32, z8 = (x5 + 1) → K143 x1 x2 x3 z8 I J B D) ∧ (¬ x6 < x1 → vp_in x6 61 ∧ ∀ z9 : Int32, z9 = ((B 54) x6.toNatClampNeg) → wp_LassoFinderModel_truthAt I J B D z9 x2 (fun r10 I10 J10 B10 D10 => ∀ z11 : Int32, z11 = (x6 + (-1)) → K157 x1 r10 x3 x5 z11 I10 J10 B10 D10)))
def wl_LassoFinderModel_truth_157 (a0 : Int32) (K72 : Int32 → Int32 → Int32 → (Nat → Int32) → (Nat → Int64) → (Nat → Nat → Int32) → (Nat → Nat → Int64) → Prop) (K143 : Int32 → Int32 → Int32 → Int32 → (Nat → Int32) → (Nat → Int64) → (Nat → Nat → Int32) → (Nat → Nat → Int64) → Prop) (Post : Int32 → (Nat → Int32) → (Nat → Int64) → (Nat → Nat → Int32) → (Nat → Nat → Int64) → Prop) (n : Nat) : Int32 → Int32 → Int32 → Int32 → Int32 → (Nat → Int32) → (Nat → Int64) → (Nat → Nat → Int32) → (Nat → Nat → Int64) → Prop := Nat.rec (fun _ _ _ _ _ _ _ _ _ => False) (fun _ r => wb_LassoFinderModel_truth_157 a0 r K72 K143 Post) n
def wb_LassoFinderModel_truth_143 (a0 : Int32) (K143 : Int32 → Int32 → Int32 → Int32 → (Nat → Int32) → (Nat → Int64) → (Nat → Nat → Int32) → (Nat → Nat → Int64) → Prop) (K72 : Int32 → Int32 → Int32 → (Nat → Int32) → (Nat → Int64) → (Nat → Nat → Int32) → (Nat → Nat → Int64) → Prop) (Post : Int32 → (Nat → Int32) → (Nat → Int64) → (Nat → Nat → Int32) → (Nat → Nat → Int64) → Prop) (x1 : Int32) (x2 : Int32) (x3 : Int32) (x5 : Int32) (I : Nat → Int32) (J : Nat → Int64) (B : Nat → Nat → Int32) (D : Nat → Nat → Int64) : Prop :=
  (((2 : Int32) ≤ x5 → ∀ z13 : Int32, z13 = (x3 + 1) → K72 x1 x2 z13 I J B D) ∧ (¬ (2 : Int32) ≤ x5 → ∀ z14 : Int32, z14 = ((I 26) - 1) → ∃ n : Nat, wl_LassoFinderModel_truth_157 a0 K72 K143 Post n x1 x2 x3 x5 z14 I J B D))
def wl_LassoFinderModel_truth_143 (a0 : Int32) (K72 : Int32 → Int32 → Int32 → (Nat → Int32) → (Nat → Int64) → (Nat → Nat → Int32) → (Nat → Nat → Int64) → Prop) (Post : Int32 → (Nat → Int32) → (Nat → Int64) → (Nat → Nat → Int32) → (Nat → Nat → Int64) → Prop) (n : Nat) : Int32 → Int32 → Int32 → Int32 → (Nat → Int32) → (Nat → Int64) → (Nat → Nat → Int32) → (Nat → Nat → Int64) → Prop := Nat.rec (fun _ _ _ _ _ _ _ _ => False) (fun _ r => wb_LassoFinderModel_truth_143 a0 r K72 Post) n
def wc_LassoFinderModel_truth_139 (a0 : Int32) (K72 : Int32 → Int32 → Int32 → (Nat → Int32) → (Nat → Int64) → (Nat → Nat → Int32) → (Nat → Nat → Int64) → Prop) (Post : Int32 → (Nat → Int32) → (Nat → Int64) → (Nat → Nat → Int32) → (Nat → Nat → Int64) → Prop) (x1 : Int32) (x3 : Int32) (y0 : Int32) (I : Nat → Int32) (J : Nat → Int64) (B : Nat → Nat → Int32) (D : Nat → Nat → Int64) : Prop :=
  ∃ n : Nat, wl_LassoFinderModel_truth_143 a0 K72 Post n x1 y0 x3 0 I J B D
def wc_LassoFinderModel_truth_117 (a0 : Int32) (K72 : Int32 → Int32 → Int32 → (Nat → Int32) → (Nat → Int64) → (Nat → Nat → Int32) → (Nat → Nat → Int64) → Prop) (Post : Int32 → (Nat → Int32) → (Nat → Int64) → (Nat → Nat → Int32) → (Nat → Nat → Int64) → Prop) (x1 : Int32) (x2 : Int32) (x3 : Int32) (y0 : Int32) (I : Nat → Int32) (J : Nat → Int64) (B : Nat → Nat → Int32) (D : Nat → Nat → Int64) : Prop :=
  ((y0 = 0 → ∀ z16 : Int32, z16 = (1 <<< (x3 &&& 31)) → ∀ z17 : Int32, z17 = (x2 ||| z16) → wc_LassoFinderModel_truth_139 a0 K72 Post x1 x3 z17 I J B D) ∧ (¬ y0 = 0 → ∀ z18 : Int32, z18 = (1 <<< (x3 &&& 31)) → ∀ z19 : Int32, z19 = (z18 ^^^ (-1)) → ∀ z20 : Int32, z20 = (x2 &&& z19) → wc_LassoFinderModel_truth_139 a0 K72 Post x1 x3 z20 I J B D))
def wc_LassoFinderModel_truth_112 (a0 : Int32) (K72 : Int32 → Int32 → Int32 → (Nat → Int32) → (Nat → Int64) → (Nat → Nat → Int32) → (Nat → Nat → Int64) → Prop) (Post : Int32 → (Nat → Int32) → (Nat → Int64) → (Nat → Nat → Int32) → (Nat → Nat → Int64) → Prop) (x1 : Int32) (x2 : Int32) (x3 : Int32) (I : Nat → Int32) (J : Nat → Int64) (B : Nat → Nat → Int32) (D : Nat → Nat → Int64) : Prop :=
  wc_LassoFinderModel_truth_117 a0 K72 Post x1 x2 x3 1 I J B D
def wb_LassoFinderModel_truth_72 (a0 : Int32) (K72 : Int32 → Int32 → Int32 → (Nat → Int32) → (Nat → Int64) → (Nat → Nat → Int32) → (Nat → Nat → Int64) → Prop) (Post : Int32 → (Nat → Int32) → (Nat → Int64) → (Nat → Nat → Int32) → (Nat → Nat → Int64) → Prop) (x1 : Int32) (x2 : Int32) (x3 : Int32) (I : Nat → Int32) (J : Nat → Int64) (B : Nat → Nat → Int32) (D : Nat → Nat → Int64) : Prop :=
  (((I 20) ≤ x3 → ∀ z22 : Int32, z22 = (x1 - 1) → ∃ n : Nat, wl_LassoFinderModel_truth_198 a0 Post n x2 z22 I J B D) ∧ (¬ (I 20) ≤ x3 → vp_in x3 3 ∧ ∀ z23 : Int32, z23 = ((B 43) x3.toNatClampNeg) → vp_in z23 240 ∧ ∀ z24 : Int32, z24 = ((B 41) z23.toNatClampNeg) → ((z24 = 12 → wc_LassoFinderModel_truth_112 a0 K72 Post x1 x2 x3 I J B D) ∧ (¬ z24 = 12 → vp_in x3 3 ∧ ∀ z26 : Int32, z26 = ((B 43) x3.toNatClampNeg) → vp_in z26 240 ∧ ∀ z27 : Int32, z27 = ((B 41) z26.toNatClampNeg) → ((¬ z27 = 15 → wc_LassoFinderModel_truth_117 a0 K72 Post x1 x2 x3 0 I J B D) ∧ (z27 = 15 → wc_LassoFinderModel_truth_112 a0 K72 Post x1 x2 x3 I J B D))))))
def wl_LassoFinderModel_truth_72 (a0 : Int32) (Post : Int32 → (Nat → Int32) → (Nat → Int64) → (Nat → Nat → Int32) → (Nat → Nat → Int64) → Prop) (n : Nat) : Int32 → Int32 → Int32 → (Nat → Int32) → (Nat → Int64) → (Nat → Nat → Int32) → (Nat → Nat → Int64) → Prop := Nat.rec (fun _ _ _ _ _ _ _ => False) (fun _ r => wb_LassoFinderModel_truth_72 a0 r Post) n
def wc_LassoFinderModel_truth_56 (a0 : Int32) (Post : Int32 → (Nat → Int32) → (Nat → Int64) → (Nat → Nat → Int32) → (Nat → Nat → Int64) → Prop) (x1 : Int32) (y0 : Int32) (I : Nat → Int32) (J : Nat → Int64) (B : Nat → Nat → Int32) (D : Nat → Nat → Int64) : Prop :=
  ((y0 ≤ 0 → ∃ n : Nat, wl_LassoFinderModel_truth_72 a0 Post n x1 0 0 (upd I 0 y0) J B D) ∧ (¬ y0 ≤ 0 → Post 0 (upd I 0 y0) J B D))
def wc_LassoFinderModel_truth_15 (a0 : Int32) (Post : Int32 → (Nat → Int32) → (Nat → Int64) → (Nat → Nat → Int32) → (Nat → Nat → Int64) → Prop) (x1 : Int32) (I : Nat → Int32) (J : Nat → Int64) (B : Nat → Nat → Int32) (D : Nat → Nat → Int64) : Prop :=
  wc_LassoFinderModel_truth_56 a0 Post x1 1 I J B D
def wc_LassoFinderModel_truth_51 (a0 : Int32) (Post : Int32 → (Nat → Int32) → (Nat → Int64) → (Nat → Nat → Int32) → (Nat → Nat → Int64) → Prop) (x1 : Int32) (I : Nat → Int32) (J : Nat → Int64) (B : Nat → Nat → Int32) (D : Nat → Nat → Int64) : Prop :=
  wc_LassoFinderModel_truth_56 a0 Post x1 2 I J B D
def wp_LassoFinderModel_truth (I : Nat → Int32) (J : Nat → Int64) (B : Nat → Nat → Int32) (D : Nat → Nat → Int64) (a0 : Int32) (Post : Int32 → (Nat → Int32) → (Nat → Int64) → (Nat → Nat → Int32) → (Nat → Nat → Int64) → Prop) : Prop :=
  (((I 26) < 0 → wc_LassoFinderModel_truth_15 a0 Post a0 I J B D) ∧ (¬ (I 26) < 0 → ((¬ (I 18) = 0 → ∀ z32 : Int32, z32 = ((I 26) - 1) → wp_LassoFinderModel_in I J B D a0 0 z32 (fun r33 I33 J33 B33 D33 => ((r33 = 0 → wc_LassoFinderModel_truth_51 a0 Post a0 I33 J33 B33 D33) ∧ (¬ r33 = 0 → vp_in a0 61 ∧ ∀ z35 : Int32, z35 = ((B33 54) a0.toNatClampNeg) → vp_in (I33 26) 61 ∧ ∀ z36 : Int32, z36 = ((B33 54) (I33 26).toNatClampNeg) → ((z35 = z36 → wc_LassoFinderModel_truth_56 a0 Post a0 0 I33 J33 B33 D33) ∧ (¬ z35 = z36 → wc_LassoFinderModel_truth_51 a0 Post a0 I33 J33 B33 D33)))))) ∧ ((I 18) = 0 → wc_LassoFinderModel_truth_15 a0 Post a0 I J B D))))
set_option maxHeartbeats 8000000 in
set_option maxRecDepth 100000 in
theorem wB_LassoFinderModel_truth_198 {p : Program} {l : Launch} {e : Env} {s : State} {m : MethodId} {below : List Frame} {meth : Method} {c : Code} {A : Nat → Prop} (G : va_G) (K : Nat → ClassId) (ad : Nat → Nat) (a0 : Int32) (Post : Int32 → (Nat → Int32) → (Nat → Int64) → (Nat → Nat → Int32) → (Nat → Nat → Int64) → Prop) (C : zCx p s m ([.ref (ad 0), .int a0] : List Value).toArray meth c A G K prog_14_method_78_code (some .boolean) 7 "LassoFinderModel") (K198 : Int32 → Int32 → (Nat → Int32) → (Nat → Int64) → (Nat → Nat → Int32) → (Nat → Nat → Int64) → Prop) (kh198 : ∀ (x2 : Int32) (x3 : Int32) (I : Nat → Int32) (J : Nat → Int64) (B : Nat → Nat → Int32) (D : Nat → Nat → Int64) (ls : Array Slot) (H : Heap) (locs : List Loc), K198 x2 x3 I J B D → lv_has ls 7 [(0, .ref (ad 0)), (2, .int x2), (3, .int x3)] → zW G A s.heap (wM ad K I J B D) H locs → W p l e { frames := 2, cells := 0, slots := 0, locals := 50 } s m ([.ref (ad 0), .int a0] : List Value).toArray below meth c H locs 0 0 (MQ below (va_Qi (fun (r : Int32) (u : zS) => Post r u.1 u.2.1 u.2.2.1 u.2.2.2) (fun u t => zPost G K A (wM ad K u.1 u.2.1 u.2.2.1 u.2.2.2) t) A) ([.ref (ad 0), .int a0] : List Value).toArray s 0 0 A) (F0 m 198 ls [])) : ∀ (x2 : Int32) (x3 : Int32) (I : Nat → Int32) (J : Nat → Int64) (B : Nat → Nat → Int32) (D : Nat → Nat → Int64) (ls : Array Slot) (H : Heap) (locs : List Loc), wb_LassoFinderModel_truth_198 a0 K198 Post x2 x3 I J B D → lv_has ls 7 [(0, .ref (ad 0)), (2, .int x2), (3, .int x3)] → zW G A s.heap (wM ad K I J B D) H locs → W p l e { frames := 2, cells := 0, slots := 0, locals := 50 } s m ([.ref (ad 0), .int a0] : List Value).toArray below meth c H locs 0 0 (MQ below (va_Qi (fun (r : Int32) (u : zS) => Post r u.1 u.2.1 u.2.2.1 u.2.2.2) (fun u t => zPost G K A (wM ad K u.1 u.2.1 u.2.2.1 u.2.2.2) t) A) ([.ref (ad 0), .int a0] : List Value).toArray s 0 0 A) (F0 m 198 ls []) := by
  obtain ⟨hx, hb, hr, hml, hts, hown, hlocks, hA, hK⟩ := id C
  intro x2 x3 I J B D ls H locs hok hl hw
  unfold wb_LassoFinderModel_truth_198 at hok
  refine lv_iload_n hx hb zd_LassoFinderModel_truth_198 rfl (lv_at hl 2 rfl) ?_
  refine lv_if_lt (tgt := 220) hx hb zd_LassoFinderModel_truth_199 (by decide) (fun hc1 => ?_) (fun hc1 => ?_)
  · have hok := hok.1 hc1
    refine lv_aload_n hx hb zd_LassoFinderModel_truth_220 rfl (lv_at hl 0 rfl) ?_
    refine lv_aload_n hx hb zd_LassoFinderModel_truth_221 rfl (lv_at hl 0 rfl) ?_
    refine z_get (v := .ref (ad 57)) hx hb hts hown hK hw zZ12 0 wM_g0 83 (by decide) zm_291 rfl zd_LassoFinderModel_truth_222 ?_
    refine lv_iconst (v := 0) hx hb zd_LassoFinderModel_truth_225 (by decide) ?_
    refine va_iald (f := (B 54)) hx hb hK hw.1 57 0 wM_a57 rfl hok.1 zd_LassoFinderModel_truth_226 ?_
    have hok := hok.2
    refine lv_topi (fun z2 ez2 => ?_)
    have hok := hok z2 ez2
    refine lv_iload_n hx hb zd_LassoFinderModel_truth_227 rfl (lv_at hl 1 rfl) ?_
    refine z_calli (w1 := fun (u : zS) => wM ad K u.1 u.2.1 u.2.2.1 u.2.2.2) (wr := []) (z_runV (q0 := 0) (wc := (wM ad K I J B D)) (As := [.int z2, .int x2]) (rest := []) ⟨hx, hb, hml, hown, hts⟩ (w_LassoFinderModel_isTrue l G K ad I J B D z2 x2 _ H.size hok) zf_LassoFinderModel_isTrue zm_379 ⟨Nat.le_of_ble_eq_true rfl, Nat.le_of_ble_eq_true rfl⟩ hK hw (List.range 58) wM_all wM_nd wM_g0 rfl rfl hl.1 rfl (Nat.le_of_ble_eq_true rfl) zd_LassoFinderModel_truth_228 ⟨Nat.le_of_ble_eq_true rfl, Nat.le_of_ble_eq_true rfl⟩) hw hA (List.range 58) [] wM_all rfl (by decide) (fun i hi => by cases hi) (fun r3 u H locs hok hw => ?_)
    obtain ⟨I3, J3, B3, D3⟩ := u
    dsimp only at hok
    have hw : zW G A s.heap (wM ad K I3 J3 B3 D3) H locs := hw
    have hbo := hok.1
    have hok := hok.2
    exact (z_iret (u := (I3, J3, B3, D3)) hx hb hr hlocks (z_nar hbo) hw (List.range 58) wM_all wM_nd hok (Nat.le_of_ble_eq_true rfl) (Nat.le_of_ble_eq_true rfl) zd_LassoFinderModel_truth_231)
  · have hok := hok.2 hc1
    refine lv_aload_n hx hb zd_LassoFinderModel_truth_202 rfl (lv_at hl 0 rfl) ?_
    refine lv_aload_n hx hb zd_LassoFinderModel_truth_203 rfl (lv_at hl 0 rfl) ?_
    refine z_get (v := .ref (ad 57)) hx hb hts hown hK hw zZ12 0 wM_g0 83 (by decide) zm_291 rfl zd_LassoFinderModel_truth_204 ?_
    refine lv_iload_n hx hb zd_LassoFinderModel_truth_207 rfl (lv_at hl 2 rfl) ?_
    refine va_iald (f := (B 54)) hx hb hK hw.1 57 0 wM_a57 rfl hok.1 zd_LassoFinderModel_truth_208 ?_
    have hok := hok.2
    refine lv_topi (fun z4 ez4 => ?_)
    have hok := hok z4 ez4
    refine lv_iload_n hx hb zd_LassoFinderModel_truth_209 rfl (lv_at hl 1 rfl) ?_
    refine z_calli (w1 := fun (u : zS) => wM ad K u.1 u.2.1 u.2.2.1 u.2.2.2) (wr := []) (z_runV (q0 := 0) (wc := (wM ad K I J B D)) (As := [.int z4, .int x2]) (rest := []) ⟨hx, hb, hml, hown, hts⟩ (w_LassoFinderModel_truthAt l G K ad I J B D z4 x2 _ H.size hok) zf_LassoFinderModel_truthAt zm_375 ⟨Nat.le_of_ble_eq_true rfl, Nat.le_of_ble_eq_true rfl⟩ hK hw (List.range 58) wM_all wM_nd wM_g0 rfl rfl hl.1 rfl (Nat.le_of_ble_eq_true rfl) zd_LassoFinderModel_truth_210 ⟨Nat.le_of_ble_eq_true rfl, Nat.le_of_ble_eq_true rfl⟩) hw hA (List.range 58) [] wM_all rfl (by decide) (fun i hi => by cases hi) (fun r5 u H locs hok hw => ?_)
    obtain ⟨I5, J5, B5, D5⟩ := u
    dsimp only at hok
    have hw : zW G A s.heap (wM ad K I5 J5 B5 D5) H locs := hw
    refine lv_istore_n hx hb zd_LassoFinderModel_truth_213 rfl hl (by decide) rfl (fun ls hl => ?_)
    have hl : lv_has ls 7 [(2, .int r5), (0, .ref (ad 0)), (3, .int x3)] := hl
    obtain ⟨z6, ez6⟩ : ∃ z : Int32, z = (x3 + (-1)) := ⟨_, rfl⟩
    have hok := hok z6 ez6
    refine lv_iinc (v := z6) hx hb zd_LassoFinderModel_truth_214 hl (k := 2) rfl ez6.symm (by decide) rfl (fun ls hl => ?_)
    have hl : lv_has ls 7 [(3, .int z6), (2, .int r5), (0, .ref (ad 0))] := hl
    refine lv_goto (tgt := 198) hx hb zd_LassoFinderModel_truth_217 (by decide) ?_
    exact kh198 r5 z6 I5 J5 B5 D5 ls H locs hok (lv_sub hl [2, 1, 0] rfl) hw
theorem wL_LassoFinderModel_truth_198 {p : Program} {l : Launch} {e : Env} {s : State} {m : MethodId} {below : List Frame} {meth : Method} {c : Code} {A : Nat → Prop} (G : va_G) (K : Nat → ClassId) (ad : Nat → Nat) (a0 : Int32) (Post : Int32 → (Nat → Int32) → (Nat → Int64) → (Nat → Nat → Int32) → (Nat → Nat → Int64) → Prop) (C : zCx p s m ([.ref (ad 0), .int a0] : List Value).toArray meth c A G K prog_14_method_78_code (some .boolean) 7 "LassoFinderModel") : ∀ (n : Nat) (x2 : Int32) (x3 : Int32) (I : Nat → Int32) (J : Nat → Int64) (B : Nat → Nat → Int32) (D : Nat → Nat → Int64) (ls : Array Slot) (H : Heap) (locs : List Loc), wl_LassoFinderModel_truth_198 a0 Post n x2 x3 I J B D → lv_has ls 7 [(0, .ref (ad 0)), (2, .int x2), (3, .int x3)] → zW G A s.heap (wM ad K I J B D) H locs → W p l e { frames := 2, cells := 0, slots := 0, locals := 50 } s m ([.ref (ad 0), .int a0] : List Value).toArray below meth c H locs 0 0 (MQ below (va_Qi (fun (r : Int32) (u : zS) => Post r u.1 u.2.1 u.2.2.1 u.2.2.2) (fun u t => zPost G K A (wM ad K u.1 u.2.1 u.2.2.1 u.2.2.2) t) A) ([.ref (ad 0), .int a0] : List Value).toArray s 0 0 A) (F0 m 198 ls []) := by
  intro n
  induction n with
  | zero => intro x2 x3 I J B D ls H locs hok; exact hok.elim
  | succ n ih => exact wB_LassoFinderModel_truth_198 G K ad a0 Post C (wl_LassoFinderModel_truth_198 a0 Post n) ih
set_option maxHeartbeats 8000000 in
set_option maxRecDepth 100000 in
theorem wB_LassoFinderModel_truth_157 {p : Program} {l : Launch} {e : Env} {s : State} {m : MethodId} {below : List Frame} {meth : Method} {c : Code} {A : Nat → Prop} (G : va_G) (K : Nat → ClassId) (ad : Nat → Nat) (a0 : Int32) (Post : Int32 → (Nat → Int32) → (Nat → Int64) → (Nat → Nat → Int32) → (Nat → Nat → Int64) → Prop) (C : zCx p s m ([.ref (ad 0), .int a0] : List Value).toArray meth c A G K prog_14_method_78_code (some .boolean) 7 "LassoFinderModel") (K72 : Int32 → Int32 → Int32 → (Nat → Int32) → (Nat → Int64) → (Nat → Nat → Int32) → (Nat → Nat → Int64) → Prop) (kh72 : ∀ (x1 : Int32) (x2 : Int32) (x3 : Int32) (I : Nat → Int32) (J : Nat → Int64) (B : Nat → Nat → Int32) (D : Nat → Nat → Int64) (ls : Array Slot) (H : Heap) (locs : List Loc), K72 x1 x2 x3 I J B D → lv_has ls 7 [(0, .ref (ad 0)), (1, .int x1), (2, .int x2), (3, .int x3)] → zW G A s.heap (wM ad K I J B D) H locs → W p l e { frames := 2, cells := 0, slots := 0, locals := 50 } s m ([.ref (ad 0), .int a0] : List Value).toArray below meth c H locs 0 0 (MQ below (va_Qi (fun (r : Int32) (u : zS) => Post r u.1 u.2.1 u.2.2.1 u.2.2.2) (fun u t => zPost G K A (wM ad K u.1 u.2.1 u.2.2.1 u.2.2.2) t) A) ([.ref (ad 0), .int a0] : List Value).toArray s 0 0 A) (F0 m 72 ls [])) (K143 : Int32 → Int32 → Int32 → Int32 → (Nat → Int32) → (Nat → Int64) → (Nat → Nat → Int32) → (Nat → Nat → Int64) → Prop) (kh143 : ∀ (x1 : Int32) (x2 : Int32) (x3 : Int32) (x5 : Int32) (I : Nat → Int32) (J : Nat → Int64) (B : Nat → Nat → Int32) (D : Nat → Nat → Int64) (ls : Array Slot) (H : Heap) (locs : List Loc), K143 x1 x2 x3 x5 I J B D → lv_has ls 7 [(0, .ref (ad 0)), (1, .int x1), (2, .int x2), (3, .int x3), (5, .int x5)] → zW G A s.heap (wM ad K I J B D) H locs → W p l e { frames := 2, cells := 0, slots := 0, locals := 50 } s m ([.ref (ad 0), .int a0] : List Value).toArray below meth c H locs 0 0 (MQ below (va_Qi (fun (r : Int32) (u : zS) => Post r u.1 u.2.1 u.2.2.1 u.2.2.2) (fun u t => zPost G K A (wM ad K u.1 u.2.1 u.2.2.1 u.2.2.2) t) A) ([.ref (ad 0), .int a0] : List Value).toArray s 0 0 A) (F0 m 143 ls [])) (K157 : Int32 → Int32 → Int32 → Int32 → Int32 → (Nat → Int32) → (Nat → Int64) → (Nat → Nat → Int32) → (Nat → Nat → Int64) → Prop) (kh157 : ∀ (x1 : Int32) (x2 : Int32) (x3 : Int32) (x5 : Int32) (x6 : Int32) (I : Nat → Int32) (J : Nat → Int64) (B : Nat → Nat → Int32) (D : Nat → Nat → Int64) (ls : Array Slot) (H : Heap) (locs : List Loc), K157 x1 x2 x3 x5 x6 I J B D → lv_has ls 7 [(0, .ref (ad 0)), (1, .int x1), (2, .int x2), (3, .int x3), (5, .int x5), (6, .int x6)] → zW G A s.heap (wM ad K I J B D) H locs → W p l e { frames := 2, cells := 0, slots := 0, locals := 50 } s m ([.ref (ad 0), .int a0] : List Value).toArray below meth c H locs 0 0 (MQ below (va_Qi (fun (r : Int32) (u : zS) => Post r u.1 u.2.1 u.2.2.1 u.2.2.2) (fun u t => zPost G K A (wM ad K u.1 u.2.1 u.2.2.1 u.2.2.2) t) A) ([.ref (ad 0), .int a0] : List Value).toArray s 0 0 A) (F0 m 157 ls [])) : ∀ (x1 : Int32) (x2 : Int32) (x3 : Int32) (x5 : Int32) (x6 : Int32) (I : Nat → Int32) (J : Nat → Int64) (B : Nat → Nat → Int32) (D : Nat → Nat → Int64) (ls : Array Slot) (H : Heap) (locs : List Loc), wb_LassoFinderModel_truth_157 a0 K157 K72 K143 Post x1 x2 x3 x5 x6 I J B D → lv_has ls 7 [(0, .ref (ad 0)), (1, .int x1), (2, .int x2), (3, .int x3), (5, .int x5), (6, .int x6)] → zW G A s.heap (wM ad K I J B D) H locs → W p l e { frames := 2, cells := 0, slots := 0, locals := 50 } s m ([.ref (ad 0), .int a0] : List Value).toArray below meth c H locs 0 0 (MQ below (va_Qi (fun (r : Int32) (u : zS) => Post r u.1 u.2.1 u.2.2.1 u.2.2.2) (fun u t => zPost G K A (wM ad K u.1 u.2.1 u.2.2.1 u.2.2.2) t) A) ([.ref (ad 0), .int a0] : List Value).toArray s 0 0 A) (F0 m 157 ls []) := by
  obtain ⟨hx, hb, hr, hml, hts, hown, hlocks, hA, hK⟩ := id C
  intro x1 x2 x3 x5 x6 I J B D ls H locs hok hl hw
  unfold wb_LassoFinderModel_truth_157 at hok
  refine lv_iload hx hb zd_LassoFinderModel_truth_157 (lv_at hl 5 rfl) ?_
  refine lv_iload_n hx hb zd_LassoFinderModel_truth_159 rfl (lv_at hl 1 rfl) ?_
  refine lv_icmp_lt (tgt := 182) hx hb zd_LassoFinderModel_truth_160 (by decide) (fun hc7 => ?_) (fun hc7 => ?_)
  · have hok := hok.1 hc7
    obtain ⟨z8, ez8⟩ : ∃ z : Int32, z = (x5 + 1) := ⟨_, rfl⟩
    have hok := hok z8 ez8
    refine lv_iinc (v := z8) hx hb zd_LassoFinderModel_truth_182 hl (k := 4) rfl ez8.symm (by decide) rfl (fun ls hl => ?_)
    have hl : lv_has ls 7 [(5, .int z8), (0, .ref (ad 0)), (1, .int x1), (2, .int x2), (3, .int x3), (6, .int x6)] := hl
    refine lv_goto (tgt := 143) hx hb zd_LassoFinderModel_truth_185 (by decide) ?_
    exact kh143 x1 x2 x3 z8 I J B D ls H locs hok (lv_sub hl [1, 2, 3, 4, 0] rfl) hw
  · have hok := hok.2 hc7
    refine lv_aload_n hx hb zd_LassoFinderModel_truth_163 rfl (lv_at hl 0 rfl) ?_
    refine lv_aload_n hx hb zd_LassoFinderModel_truth_164 rfl (lv_at hl 0 rfl) ?_
    refine z_get (v := .ref (ad 57)) hx hb hts hown hK hw zZ12 0 wM_g0 83 (by decide) zm_291 rfl zd_LassoFinderModel_truth_165 ?_
    refine lv_iload hx hb zd_LassoFinderModel_truth_168 (lv_at hl 5 rfl) ?_
    refine va_iald (f := (B 54)) hx hb hK hw.1 57 0 wM_a57 rfl hok.1 zd_LassoFinderModel_truth_170 ?_
    have hok := hok.2
    refine lv_topi (fun z9 ez9 => ?_)
    have hok := hok z9 ez9
    refine lv_iload_n hx hb zd_LassoFinderModel_truth_171 rfl (lv_at hl 2 rfl) ?_
    refine z_calli (w1 := fun (u : zS) => wM ad K u.1 u.2.1 u.2.2.1 u.2.2.2) (wr := []) (z_runV (q0 := 0) (wc := (wM ad K I J B D)) (As := [.int z9, .int x2]) (rest := []) ⟨hx, hb, hml, hown, hts⟩ (w_LassoFinderModel_truthAt l G K ad I J B D z9 x2 _ H.size hok) zf_LassoFinderModel_truthAt zm_375 ⟨Nat.le_of_ble_eq_true rfl, Nat.le_of_ble_eq_true rfl⟩ hK hw (List.range 58) wM_all wM_nd wM_g0 rfl rfl hl.1 rfl (Nat.le_of_ble_eq_true rfl) zd_LassoFinderModel_truth_172 ⟨Nat.le_of_ble_eq_true rfl, Nat.le_of_ble_eq_true rfl⟩) hw hA (List.range 58) [] wM_all rfl (by decide) (fun i hi => by cases hi) (fun r10 u H locs hok hw => ?_)
    obtain ⟨I10, J10, B10, D10⟩ := u
    dsimp only at hok
    have hw : zW G A s.heap (wM ad K I10 J10 B10 D10) H locs := hw
    refine lv_istore_n hx hb zd_LassoFinderModel_truth_175 rfl hl (by decide) rfl (fun ls hl => ?_)
    have hl : lv_has ls 7 [(2, .int r10), (0, .ref (ad 0)), (1, .int x1), (3, .int x3), (5, .int x5), (6, .int x6)] := hl
    obtain ⟨z11, ez11⟩ : ∃ z : Int32, z = (x6 + (-1)) := ⟨_, rfl⟩
    have hok := hok z11 ez11
    refine lv_iinc (v := z11) hx hb zd_LassoFinderModel_truth_176 hl (k := 5) rfl ez11.symm (by decide) rfl (fun ls hl => ?_)
    have hl : lv_has ls 7 [(6, .int z11), (2, .int r10), (0, .ref (ad 0)), (1, .int x1), (3, .int x3), (5, .int x5)] := hl
    refine lv_goto (tgt := 157) hx hb zd_LassoFinderModel_truth_179 (by decide) ?_
    exact kh157 x1 r10 x3 x5 z11 I10 J10 B10 D10 ls H locs hok (lv_sub hl [2, 3, 1, 4, 5, 0] rfl) hw
theorem wL_LassoFinderModel_truth_157 {p : Program} {l : Launch} {e : Env} {s : State} {m : MethodId} {below : List Frame} {meth : Method} {c : Code} {A : Nat → Prop} (G : va_G) (K : Nat → ClassId) (ad : Nat → Nat) (a0 : Int32) (Post : Int32 → (Nat → Int32) → (Nat → Int64) → (Nat → Nat → Int32) → (Nat → Nat → Int64) → Prop) (C : zCx p s m ([.ref (ad 0), .int a0] : List Value).toArray meth c A G K prog_14_method_78_code (some .boolean) 7 "LassoFinderModel") (K72 : Int32 → Int32 → Int32 → (Nat → Int32) → (Nat → Int64) → (Nat → Nat → Int32) → (Nat → Nat → Int64) → Prop) (kh72 : ∀ (x1 : Int32) (x2 : Int32) (x3 : Int32) (I : Nat → Int32) (J : Nat → Int64) (B : Nat → Nat → Int32) (D : Nat → Nat → Int64) (ls : Array Slot) (H : Heap) (locs : List Loc), K72 x1 x2 x3 I J B D → lv_has ls 7 [(0, .ref (ad 0)), (1, .int x1), (2, .int x2), (3, .int x3)] → zW G A s.heap (wM ad K I J B D) H locs → W p l e { frames := 2, cells := 0, slots := 0, locals := 50 } s m ([.ref (ad 0), .int a0] : List Value).toArray below meth c H locs 0 0 (MQ below (va_Qi (fun (r : Int32) (u : zS) => Post r u.1 u.2.1 u.2.2.1 u.2.2.2) (fun u t => zPost G K A (wM ad K u.1 u.2.1 u.2.2.1 u.2.2.2) t) A) ([.ref (ad 0), .int a0] : List Value).toArray s 0 0 A) (F0 m 72 ls [])) (K143 : Int32 → Int32 → Int32 → Int32 → (Nat → Int32) → (Nat → Int64) → (Nat → Nat → Int32) → (Nat → Nat → Int64) → Prop) (kh143 : ∀ (x1 : Int32) (x2 : Int32) (x3 : Int32) (x5 : Int32) (I : Nat → Int32) (J : Nat → Int64) (B : Nat → Nat → Int32) (D : Nat → Nat → Int64) (ls : Array Slot) (H : Heap) (locs : List Loc), K143 x1 x2 x3 x5 I J B D → lv_has ls 7 [(0, .ref (ad 0)), (1, .int x1), (2, .int x2), (3, .int x3), (5, .int x5)] → zW G A s.heap (wM ad K I J B D) H locs → W p l e { frames := 2, cells := 0, slots := 0, locals := 50 } s m ([.ref (ad 0), .int a0] : List Value).toArray below meth c H locs 0 0 (MQ below (va_Qi (fun (r : Int32) (u : zS) => Post r u.1 u.2.1 u.2.2.1 u.2.2.2) (fun u t => zPost G K A (wM ad K u.1 u.2.1 u.2.2.1 u.2.2.2) t) A) ([.ref (ad 0), .int a0] : List Value).toArray s 0 0 A) (F0 m 143 ls [])) : ∀ (n : Nat) (x1 : Int32) (x2 : Int32) (x3 : Int32) (x5 : Int32) (x6 : Int32) (I : Nat → Int32) (J : Nat → Int64) (B : Nat → Nat → Int32) (D : Nat → Nat → Int64) (ls : Array Slot) (H : Heap) (locs : List Loc), wl_LassoFinderModel_truth_157 a0 K72 K143 Post n x1 x2 x3 x5 x6 I J B D → lv_has ls 7 [(0, .ref (ad 0)), (1, .int x1), (2, .int x2), (3, .int x3), (5, .int x5), (6, .int x6)] → zW G A s.heap (wM ad K I J B D) H locs → W p l e { frames := 2, cells := 0, slots := 0, locals := 50 } s m ([.ref (ad 0), .int a0] : List Value).toArray below meth c H locs 0 0 (MQ below (va_Qi (fun (r : Int32) (u : zS) => Post r u.1 u.2.1 u.2.2.1 u.2.2.2) (fun u t => zPost G K A (wM ad K u.1 u.2.1 u.2.2.1 u.2.2.2) t) A) ([.ref (ad 0), .int a0] : List Value).toArray s 0 0 A) (F0 m 157 ls []) := by
  intro n
  induction n with
  | zero => intro x1 x2 x3 x5 x6 I J B D ls H locs hok; exact hok.elim
  | succ n ih => exact wB_LassoFinderModel_truth_157 G K ad a0 Post C K72 kh72 K143 kh143 (wl_LassoFinderModel_truth_157 a0 K72 K143 Post n) ih
set_option maxHeartbeats 8000000 in
set_option maxRecDepth 100000 in
theorem wB_LassoFinderModel_truth_143 {p : Program} {l : Launch} {e : Env} {s : State} {m : MethodId} {below : List Frame} {meth : Method} {c : Code} {A : Nat → Prop} (G : va_G) (K : Nat → ClassId) (ad : Nat → Nat) (a0 : Int32) (Post : Int32 → (Nat → Int32) → (Nat → Int64) → (Nat → Nat → Int32) → (Nat → Nat → Int64) → Prop) (C : zCx p s m ([.ref (ad 0), .int a0] : List Value).toArray meth c A G K prog_14_method_78_code (some .boolean) 7 "LassoFinderModel") (K72 : Int32 → Int32 → Int32 → (Nat → Int32) → (Nat → Int64) → (Nat → Nat → Int32) → (Nat → Nat → Int64) → Prop) (kh72 : ∀ (x1 : Int32) (x2 : Int32) (x3 : Int32) (I : Nat → Int32) (J : Nat → Int64) (B : Nat → Nat → Int32) (D : Nat → Nat → Int64) (ls : Array Slot) (H : Heap) (locs : List Loc), K72 x1 x2 x3 I J B D → lv_has ls 7 [(0, .ref (ad 0)), (1, .int x1), (2, .int x2), (3, .int x3)] → zW G A s.heap (wM ad K I J B D) H locs → W p l e { frames := 2, cells := 0, slots := 0, locals := 50 } s m ([.ref (ad 0), .int a0] : List Value).toArray below meth c H locs 0 0 (MQ below (va_Qi (fun (r : Int32) (u : zS) => Post r u.1 u.2.1 u.2.2.1 u.2.2.2) (fun u t => zPost G K A (wM ad K u.1 u.2.1 u.2.2.1 u.2.2.2) t) A) ([.ref (ad 0), .int a0] : List Value).toArray s 0 0 A) (F0 m 72 ls [])) (K143 : Int32 → Int32 → Int32 → Int32 → (Nat → Int32) → (Nat → Int64) → (Nat → Nat → Int32) → (Nat → Nat → Int64) → Prop) (kh143 : ∀ (x1 : Int32) (x2 : Int32) (x3 : Int32) (x5 : Int32) (I : Nat → Int32) (J : Nat → Int64) (B : Nat → Nat → Int32) (D : Nat → Nat → Int64) (ls : Array Slot) (H : Heap) (locs : List Loc), K143 x1 x2 x3 x5 I J B D → lv_has ls 7 [(0, .ref (ad 0)), (1, .int x1), (2, .int x2), (3, .int x3), (5, .int x5)] → zW G A s.heap (wM ad K I J B D) H locs → W p l e { frames := 2, cells := 0, slots := 0, locals := 50 } s m ([.ref (ad 0), .int a0] : List Value).toArray below meth c H locs 0 0 (MQ below (va_Qi (fun (r : Int32) (u : zS) => Post r u.1 u.2.1 u.2.2.1 u.2.2.2) (fun u t => zPost G K A (wM ad K u.1 u.2.1 u.2.2.1 u.2.2.2) t) A) ([.ref (ad 0), .int a0] : List Value).toArray s 0 0 A) (F0 m 143 ls [])) : ∀ (x1 : Int32) (x2 : Int32) (x3 : Int32) (x5 : Int32) (I : Nat → Int32) (J : Nat → Int64) (B : Nat → Nat → Int32) (D : Nat → Nat → Int64) (ls : Array Slot) (H : Heap) (locs : List Loc), wb_LassoFinderModel_truth_143 a0 K143 K72 Post x1 x2 x3 x5 I J B D → lv_has ls 7 [(0, .ref (ad 0)), (1, .int x1), (2, .int x2), (3, .int x3), (5, .int x5)] → zW G A s.heap (wM ad K I J B D) H locs → W p l e { frames := 2, cells := 0, slots := 0, locals := 50 } s m ([.ref (ad 0), .int a0] : List Value).toArray below meth c H locs 0 0 (MQ below (va_Qi (fun (r : Int32) (u : zS) => Post r u.1 u.2.1 u.2.2.1 u.2.2.2) (fun u t => zPost G K A (wM ad K u.1 u.2.1 u.2.2.1 u.2.2.2) t) A) ([.ref (ad 0), .int a0] : List Value).toArray s 0 0 A) (F0 m 143 ls []) := by
  obtain ⟨hx, hb, hr, hml, hts, hown, hlocks, hA, hK⟩ := id C
  intro x1 x2 x3 x5 I J B D ls H locs hok hl hw
  unfold wb_LassoFinderModel_truth_143 at hok
  refine lv_iload hx hb zd_LassoFinderModel_truth_143 (lv_at hl 4 rfl) ?_
  refine lv_iconst (v := 2) hx hb zd_LassoFinderModel_truth_145 (by decide) ?_
  refine lv_icmp_ge (tgt := 188) hx hb zd_LassoFinderModel_truth_146 (by decide) (fun hc12 => ?_) (fun hc12 => ?_)
  · have hok := hok.1 hc12
    obtain ⟨z13, ez13⟩ : ∃ z : Int32, z = (x3 + 1) := ⟨_, rfl⟩
    have hok := hok z13 ez13
    refine lv_iinc (v := z13) hx hb zd_LassoFinderModel_truth_188 hl (k := 3) rfl ez13.symm (by decide) rfl (fun ls hl => ?_)
    have hl : lv_has ls 7 [(3, .int z13), (0, .ref (ad 0)), (1, .int x1), (2, .int x2), (5, .int x5)] := hl
    refine lv_goto (tgt := 72) hx hb zd_LassoFinderModel_truth_191 (by decide) ?_
    exact kh72 x1 x2 z13 I J B D ls H locs hok (lv_sub hl [1, 2, 3, 0] rfl) hw
  · have hok := hok.2 hc12
    refine lv_aload_n hx hb zd_LassoFinderModel_truth_149 rfl (lv_at hl 0 rfl) ?_
    refine z_get (v := .int (I 26)) hx hb hts hown hK hw zZ12 0 wM_g0 82 (by decide) zm_331 rfl zd_LassoFinderModel_truth_150 ?_
    refine lv_iconst (v := 1) hx hb zd_LassoFinderModel_truth_153 (by decide) ?_
    refine lv_isub hx hb zd_LassoFinderModel_truth_154 ?_
    refine lv_topi (fun z14 ez14 => ?_)
    have hok := hok z14 ez14
    refine lv_istore hx hb zd_LassoFinderModel_truth_155 hl (by decide) rfl (fun ls hl => ?_)
    have hl : lv_has ls 7 [(6, .int z14), (0, .ref (ad 0)), (1, .int x1), (2, .int x2), (3, .int x3), (5, .int x5)] := hl
    obtain ⟨n9, hok⟩ := hok
    exact wL_LassoFinderModel_truth_157 G K ad a0 Post C K72 kh72 K143 kh143 n9 x1 x2 x3 x5 z14 I J B D ls H locs hok (lv_sub hl [1, 2, 3, 4, 5, 0] rfl) hw
theorem wL_LassoFinderModel_truth_143 {p : Program} {l : Launch} {e : Env} {s : State} {m : MethodId} {below : List Frame} {meth : Method} {c : Code} {A : Nat → Prop} (G : va_G) (K : Nat → ClassId) (ad : Nat → Nat) (a0 : Int32) (Post : Int32 → (Nat → Int32) → (Nat → Int64) → (Nat → Nat → Int32) → (Nat → Nat → Int64) → Prop) (C : zCx p s m ([.ref (ad 0), .int a0] : List Value).toArray meth c A G K prog_14_method_78_code (some .boolean) 7 "LassoFinderModel") (K72 : Int32 → Int32 → Int32 → (Nat → Int32) → (Nat → Int64) → (Nat → Nat → Int32) → (Nat → Nat → Int64) → Prop) (kh72 : ∀ (x1 : Int32) (x2 : Int32) (x3 : Int32) (I : Nat → Int32) (J : Nat → Int64) (B : Nat → Nat → Int32) (D : Nat → Nat → Int64) (ls : Array Slot) (H : Heap) (locs : List Loc), K72 x1 x2 x3 I J B D → lv_has ls 7 [(0, .ref (ad 0)), (1, .int x1), (2, .int x2), (3, .int x3)] → zW G A s.heap (wM ad K I J B D) H locs → W p l e { frames := 2, cells := 0, slots := 0, locals := 50 } s m ([.ref (ad 0), .int a0] : List Value).toArray below meth c H locs 0 0 (MQ below (va_Qi (fun (r : Int32) (u : zS) => Post r u.1 u.2.1 u.2.2.1 u.2.2.2) (fun u t => zPost G K A (wM ad K u.1 u.2.1 u.2.2.1 u.2.2.2) t) A) ([.ref (ad 0), .int a0] : List Value).toArray s 0 0 A) (F0 m 72 ls [])) : ∀ (n : Nat) (x1 : Int32) (x2 : Int32) (x3 : Int32) (x5 : Int32) (I : Nat → Int32) (J : Nat → Int64) (B : Nat → Nat → Int32) (D : Nat → Nat → Int64) (ls : Array Slot) (H : Heap) (locs : List Loc), wl_LassoFinderModel_truth_143 a0 K72 Post n x1 x2 x3 x5 I J B D → lv_has ls 7 [(0, .ref (ad 0)), (1, .int x1), (2, .int x2), (3, .int x3), (5, .int x5)] → zW G A s.heap (wM ad K I J B D) H locs → W p l e { frames := 2, cells := 0, slots := 0, locals := 50 } s m ([.ref (ad 0), .int a0] : List Value).toArray below meth c H locs 0 0 (MQ below (va_Qi (fun (r : Int32) (u : zS) => Post r u.1 u.2.1 u.2.2.1 u.2.2.2) (fun u t => zPost G K A (wM ad K u.1 u.2.1 u.2.2.1 u.2.2.2) t) A) ([.ref (ad 0), .int a0] : List Value).toArray s 0 0 A) (F0 m 143 ls []) := by
  intro n
  induction n with
  | zero => intro x1 x2 x3 x5 I J B D ls H locs hok; exact hok.elim
  | succ n ih => exact wB_LassoFinderModel_truth_143 G K ad a0 Post C K72 kh72 (wl_LassoFinderModel_truth_143 a0 K72 Post n) ih
set_option maxHeartbeats 8000000 in
set_option maxRecDepth 100000 in
theorem wJ_LassoFinderModel_truth_139 {p : Program} {l : Launch} {e : Env} {s : State} {m : MethodId} {below : List Frame} {meth : Method} {c : Code} {A : Nat → Prop} (G : va_G) (K : Nat → ClassId) (ad : Nat → Nat) (a0 : Int32) (Post : Int32 → (Nat → Int32) → (Nat → Int64) → (Nat → Nat → Int32) → (Nat → Nat → Int64) → Prop) (C : zCx p s m ([.ref (ad 0), .int a0] : List Value).toArray meth c A G K prog_14_method_78_code (some .boolean) 7 "LassoFinderModel") (K72 : Int32 → Int32 → Int32 → (Nat → Int32) → (Nat → Int64) → (Nat → Nat → Int32) → (Nat → Nat → Int64) → Prop) (kh72 : ∀ (x1 : Int32) (x2 : Int32) (x3 : Int32) (I : Nat → Int32) (J : Nat → Int64) (B : Nat → Nat → Int32) (D : Nat → Nat → Int64) (ls : Array Slot) (H : Heap) (locs : List Loc), K72 x1 x2 x3 I J B D → lv_has ls 7 [(0, .ref (ad 0)), (1, .int x1), (2, .int x2), (3, .int x3)] → zW G A s.heap (wM ad K I J B D) H locs → W p l e { frames := 2, cells := 0, slots := 0, locals := 50 } s m ([.ref (ad 0), .int a0] : List Value).toArray below meth c H locs 0 0 (MQ below (va_Qi (fun (r : Int32) (u : zS) => Post r u.1 u.2.1 u.2.2.1 u.2.2.2) (fun u t => zPost G K A (wM ad K u.1 u.2.1 u.2.2.1 u.2.2.2) t) A) ([.ref (ad 0), .int a0] : List Value).toArray s 0 0 A) (F0 m 72 ls [])) : ∀ (x1 : Int32) (x3 : Int32) (y0 : Int32) (I : Nat → Int32) (J : Nat → Int64) (B : Nat → Nat → Int32) (D : Nat → Nat → Int64) (ls : Array Slot) (H : Heap) (locs : List Loc), wc_LassoFinderModel_truth_139 a0 K72 Post x1 x3 y0 I J B D → lv_has ls 7 [(0, .ref (ad 0)), (1, .int x1), (3, .int x3)] → zW G A s.heap (wM ad K I J B D) H locs → W p l e { frames := 2, cells := 0, slots := 0, locals := 50 } s m ([.ref (ad 0), .int a0] : List Value).toArray below meth c H locs 0 0 (MQ below (va_Qi (fun (r : Int32) (u : zS) => Post r u.1 u.2.1 u.2.2.1 u.2.2.2) (fun u t => zPost G K A (wM ad K u.1 u.2.1 u.2.2.1 u.2.2.2) t) A) ([.ref (ad 0), .int a0] : List Value).toArray s 0 0 A) (F0 m 139 ls [.int y0]) := by
  obtain ⟨hx, hb, hr, hml, hts, hown, hlocks, hA, hK⟩ := id C
  intro x1 x3 y0 I J B D ls H locs hok hl hw
  unfold wc_LassoFinderModel_truth_139 at hok
  refine lv_istore_n hx hb zd_LassoFinderModel_truth_139 rfl hl (by decide) rfl (fun ls hl => ?_)
  have hl : lv_has ls 7 [(2, .int y0), (0, .ref (ad 0)), (1, .int x1), (3, .int x3)] := hl
  refine lv_iconst (v := 0) hx hb zd_LassoFinderModel_truth_140 (by decide) ?_
  refine lv_istore hx hb zd_LassoFinderModel_truth_141 hl (by decide) rfl (fun ls hl => ?_)
  have hl : lv_has ls 7 [(5, .int 0), (2, .int y0), (0, .ref (ad 0)), (1, .int x1), (3, .int x3)] := hl
  obtain ⟨n9, hok⟩ := hok
  exact wL_LassoFinderModel_truth_143 G K ad a0 Post C K72 kh72 n9 x1 y0 x3 0 I J B D ls H locs hok (lv_sub hl [2, 3, 1, 4, 0] rfl) hw
set_option maxHeartbeats 8000000 in
set_option maxRecDepth 100000 in
theorem wJ_LassoFinderModel_truth_117 {p : Program} {l : Launch} {e : Env} {s : State} {m : MethodId} {below : List Frame} {meth : Method} {c : Code} {A : Nat → Prop} (G : va_G) (K : Nat → ClassId) (ad : Nat → Nat) (a0 : Int32) (Post : Int32 → (Nat → Int32) → (Nat → Int64) → (Nat → Nat → Int32) → (Nat → Nat → Int64) → Prop) (C : zCx p s m ([.ref (ad 0), .int a0] : List Value).toArray meth c A G K prog_14_method_78_code (some .boolean) 7 "LassoFinderModel") (K72 : Int32 → Int32 → Int32 → (Nat → Int32) → (Nat → Int64) → (Nat → Nat → Int32) → (Nat → Nat → Int64) → Prop) (kh72 : ∀ (x1 : Int32) (x2 : Int32) (x3 : Int32) (I : Nat → Int32) (J : Nat → Int64) (B : Nat → Nat → Int32) (D : Nat → Nat → Int64) (ls : Array Slot) (H : Heap) (locs : List Loc), K72 x1 x2 x3 I J B D → lv_has ls 7 [(0, .ref (ad 0)), (1, .int x1), (2, .int x2), (3, .int x3)] → zW G A s.heap (wM ad K I J B D) H locs → W p l e { frames := 2, cells := 0, slots := 0, locals := 50 } s m ([.ref (ad 0), .int a0] : List Value).toArray below meth c H locs 0 0 (MQ below (va_Qi (fun (r : Int32) (u : zS) => Post r u.1 u.2.1 u.2.2.1 u.2.2.2) (fun u t => zPost G K A (wM ad K u.1 u.2.1 u.2.2.1 u.2.2.2) t) A) ([.ref (ad 0), .int a0] : List Value).toArray s 0 0 A) (F0 m 72 ls [])) : ∀ (x1 : Int32) (x2 : Int32) (x3 : Int32) (y0 : Int32) (I : Nat → Int32) (J : Nat → Int64) (B : Nat → Nat → Int32) (D : Nat → Nat → Int64) (ls : Array Slot) (H : Heap) (locs : List Loc), wc_LassoFinderModel_truth_117 a0 K72 Post x1 x2 x3 y0 I J B D → lv_has ls 7 [(0, .ref (ad 0)), (1, .int x1), (2, .int x2), (3, .int x3)] → zW G A s.heap (wM ad K I J B D) H locs → W p l e { frames := 2, cells := 0, slots := 0, locals := 50 } s m ([.ref (ad 0), .int a0] : List Value).toArray below meth c H locs 0 0 (MQ below (va_Qi (fun (r : Int32) (u : zS) => Post r u.1 u.2.1 u.2.2.1 u.2.2.2) (fun u t => zPost G K A (wM ad K u.1 u.2.1 u.2.2.1 u.2.2.2) t) A) ([.ref (ad 0), .int a0] : List Value).toArray s 0 0 A) (F0 m 117 ls [.int y0]) := by
  obtain ⟨hx, hb, hr, hml, hts, hown, hlocks, hA, hK⟩ := id C
  intro x1 x2 x3 y0 I J B D ls H locs hok hl hw
  unfold wc_LassoFinderModel_truth_117 at hok
  refine lv_istore hx hb zd_LassoFinderModel_truth_117 hl (by decide) rfl (fun ls hl => ?_)
  have hl : lv_has ls 7 [(4, .int y0), (0, .ref (ad 0)), (1, .int x1), (2, .int x2), (3, .int x3)] := hl
  refine lv_iload hx hb zd_LassoFinderModel_truth_119 (lv_at hl 0 rfl) ?_
  refine lv_if_eq (tgt := 134) hx hb zd_LassoFinderModel_truth_121 (by decide) (fun hc15 => ?_) (fun hc15 => ?_)
  · have hok := hok.1 hc15
    refine lv_iload_n hx hb zd_LassoFinderModel_truth_134 rfl (lv_at hl 3 rfl) ?_
    refine lv_iconst (v := 1) hx hb zd_LassoFinderModel_truth_135 (by decide) ?_
    refine lv_iload_n hx hb zd_LassoFinderModel_truth_136 rfl (lv_at hl 4 rfl) ?_
    refine lv_ishl hx hb zd_LassoFinderModel_truth_137 ?_
    refine lv_topi (fun z16 ez16 => ?_)
    have hok := hok z16 ez16
    refine lv_ior hx hb zd_LassoFinderModel_truth_138 ?_
    refine lv_topi (fun z17 ez17 => ?_)
    have hok := hok z17 ez17
    exact wJ_LassoFinderModel_truth_139 G K ad a0 Post C K72 kh72 x1 x3 z17 I J B D ls H locs hok (lv_sub hl [1, 2, 4] rfl) hw
  · have hok := hok.2 hc15
    refine lv_iload_n hx hb zd_LassoFinderModel_truth_124 rfl (lv_at hl 3 rfl) ?_
    refine lv_iconst (v := 1) hx hb zd_LassoFinderModel_truth_125 (by decide) ?_
    refine lv_iload_n hx hb zd_LassoFinderModel_truth_126 rfl (lv_at hl 4 rfl) ?_
    refine lv_ishl hx hb zd_LassoFinderModel_truth_127 ?_
    refine lv_topi (fun z18 ez18 => ?_)
    have hok := hok z18 ez18
    refine lv_iconst (v := (-1)) hx hb zd_LassoFinderModel_truth_128 (by decide) ?_
    refine lv_ixor hx hb zd_LassoFinderModel_truth_129 ?_
    refine lv_topi (fun z19 ez19 => ?_)
    have hok := hok z19 ez19
    refine lv_iand hx hb zd_LassoFinderModel_truth_130 ?_
    refine lv_topi (fun z20 ez20 => ?_)
    have hok := hok z20 ez20
    refine lv_goto (tgt := 139) hx hb zd_LassoFinderModel_truth_131 (by decide) ?_
    exact wJ_LassoFinderModel_truth_139 G K ad a0 Post C K72 kh72 x1 x3 z20 I J B D ls H locs hok (lv_sub hl [1, 2, 4] rfl) hw
set_option maxHeartbeats 8000000 in
set_option maxRecDepth 100000 in
theorem wJ_LassoFinderModel_truth_112 {p : Program} {l : Launch} {e : Env} {s : State} {m : MethodId} {below : List Frame} {meth : Method} {c : Code} {A : Nat → Prop} (G : va_G) (K : Nat → ClassId) (ad : Nat → Nat) (a0 : Int32) (Post : Int32 → (Nat → Int32) → (Nat → Int64) → (Nat → Nat → Int32) → (Nat → Nat → Int64) → Prop) (C : zCx p s m ([.ref (ad 0), .int a0] : List Value).toArray meth c A G K prog_14_method_78_code (some .boolean) 7 "LassoFinderModel") (K72 : Int32 → Int32 → Int32 → (Nat → Int32) → (Nat → Int64) → (Nat → Nat → Int32) → (Nat → Nat → Int64) → Prop) (kh72 : ∀ (x1 : Int32) (x2 : Int32) (x3 : Int32) (I : Nat → Int32) (J : Nat → Int64) (B : Nat → Nat → Int32) (D : Nat → Nat → Int64) (ls : Array Slot) (H : Heap) (locs : List Loc), K72 x1 x2 x3 I J B D → lv_has ls 7 [(0, .ref (ad 0)), (1, .int x1), (2, .int x2), (3, .int x3)] → zW G A s.heap (wM ad K I J B D) H locs → W p l e { frames := 2, cells := 0, slots := 0, locals := 50 } s m ([.ref (ad 0), .int a0] : List Value).toArray below meth c H locs 0 0 (MQ below (va_Qi (fun (r : Int32) (u : zS) => Post r u.1 u.2.1 u.2.2.1 u.2.2.2) (fun u t => zPost G K A (wM ad K u.1 u.2.1 u.2.2.1 u.2.2.2) t) A) ([.ref (ad 0), .int a0] : List Value).toArray s 0 0 A) (F0 m 72 ls [])) : ∀ (x1 : Int32) (x2 : Int32) (x3 : Int32) (I : Nat → Int32) (J : Nat → Int64) (B : Nat → Nat → Int32) (D : Nat → Nat → Int64) (ls : Array Slot) (H : Heap) (locs : List Loc), wc_LassoFinderModel_truth_112 a0 K72 Post x1 x2 x3 I J B D → lv_has ls 7 [(0, .ref (ad 0)), (1, .int x1), (2, .int x2), (3, .int x3)] → zW G A s.heap (wM ad K I J B D) H locs → W p l e { frames := 2, cells := 0, slots := 0, locals := 50 } s m ([.ref (ad 0), .int a0] : List Value).toArray below meth c H locs 0 0 (MQ below (va_Qi (fun (r : Int32) (u : zS) => Post r u.1 u.2.1 u.2.2.1 u.2.2.2) (fun u t => zPost G K A (wM ad K u.1 u.2.1 u.2.2.1 u.2.2.2) t) A) ([.ref (ad 0), .int a0] : List Value).toArray s 0 0 A) (F0 m 112 ls []) := by
  obtain ⟨hx, hb, hr, hml, hts, hown, hlocks, hA, hK⟩ := id C
  intro x1 x2 x3 I J B D ls H locs hok hl hw
  unfold wc_LassoFinderModel_truth_112 at hok
  refine lv_iconst (v := 1) hx hb zd_LassoFinderModel_truth_112 (by decide) ?_
  refine lv_goto (tgt := 117) hx hb zd_LassoFinderModel_truth_113 (by decide) ?_
  exact wJ_LassoFinderModel_truth_117 G K ad a0 Post C K72 kh72 x1 x2 x3 1 I J B D ls H locs hok (lv_sub hl [0, 1, 2, 3] rfl) hw
set_option maxHeartbeats 8000000 in
set_option maxRecDepth 100000 in
theorem wB_LassoFinderModel_truth_72 {p : Program} {l : Launch} {e : Env} {s : State} {m : MethodId} {below : List Frame} {meth : Method} {c : Code} {A : Nat → Prop} (G : va_G) (K : Nat → ClassId) (ad : Nat → Nat) (a0 : Int32) (Post : Int32 → (Nat → Int32) → (Nat → Int64) → (Nat → Nat → Int32) → (Nat → Nat → Int64) → Prop) (C : zCx p s m ([.ref (ad 0), .int a0] : List Value).toArray meth c A G K prog_14_method_78_code (some .boolean) 7 "LassoFinderModel") (K72 : Int32 → Int32 → Int32 → (Nat → Int32) → (Nat → Int64) → (Nat → Nat → Int32) → (Nat → Nat → Int64) → Prop) (kh72 : ∀ (x1 : Int32) (x2 : Int32) (x3 : Int32) (I : Nat → Int32) (J : Nat → Int64) (B : Nat → Nat → Int32) (D : Nat → Nat → Int64) (ls : Array Slot) (H : Heap) (locs : List Loc), K72 x1 x2 x3 I J B D → lv_has ls 7 [(0, .ref (ad 0)), (1, .int x1), (2, .int x2), (3, .int x3)] → zW G A s.heap (wM ad K I J B D) H locs → W p l e { frames := 2, cells := 0, slots := 0, locals := 50 } s m ([.ref (ad 0), .int a0] : List Value).toArray below meth c H locs 0 0 (MQ below (va_Qi (fun (r : Int32) (u : zS) => Post r u.1 u.2.1 u.2.2.1 u.2.2.2) (fun u t => zPost G K A (wM ad K u.1 u.2.1 u.2.2.1 u.2.2.2) t) A) ([.ref (ad 0), .int a0] : List Value).toArray s 0 0 A) (F0 m 72 ls [])) : ∀ (x1 : Int32) (x2 : Int32) (x3 : Int32) (I : Nat → Int32) (J : Nat → Int64) (B : Nat → Nat → Int32) (D : Nat → Nat → Int64) (ls : Array Slot) (H : Heap) (locs : List Loc), wb_LassoFinderModel_truth_72 a0 K72 Post x1 x2 x3 I J B D → lv_has ls 7 [(0, .ref (ad 0)), (1, .int x1), (2, .int x2), (3, .int x3)] → zW G A s.heap (wM ad K I J B D) H locs → W p l e { frames := 2, cells := 0, slots := 0, locals := 50 } s m ([.ref (ad 0), .int a0] : List Value).toArray below meth c H locs 0 0 (MQ below (va_Qi (fun (r : Int32) (u : zS) => Post r u.1 u.2.1 u.2.2.1 u.2.2.2) (fun u t => zPost G K A (wM ad K u.1 u.2.1 u.2.2.1 u.2.2.2) t) A) ([.ref (ad 0), .int a0] : List Value).toArray s 0 0 A) (F0 m 72 ls []) := by
  obtain ⟨hx, hb, hr, hml, hts, hown, hlocks, hA, hK⟩ := id C
  intro x1 x2 x3 I J B D ls H locs hok hl hw
  unfold wb_LassoFinderModel_truth_72 at hok
  refine lv_iload_n hx hb zd_LassoFinderModel_truth_72 rfl (lv_at hl 3 rfl) ?_
  refine lv_aload_n hx hb zd_LassoFinderModel_truth_73 rfl (lv_at hl 0 rfl) ?_
  refine z_get (v := .int (I 20)) hx hb hts hown hK hw zZ12 0 wM_g0 64 (by decide) zm_356 rfl zd_LassoFinderModel_truth_74 ?_
  refine lv_icmp_ge (tgt := 194) hx hb zd_LassoFinderModel_truth_77 (by decide) (fun hc21 => ?_) (fun hc21 => ?_)
  · have hok := hok.1 hc21
    refine lv_iload_n hx hb zd_LassoFinderModel_truth_194 rfl (lv_at hl 1 rfl) ?_
    refine lv_iconst (v := 1) hx hb zd_LassoFinderModel_truth_195 (by decide) ?_
    refine lv_isub hx hb zd_LassoFinderModel_truth_196 ?_
    refine lv_topi (fun z22 ez22 => ?_)
    have hok := hok z22 ez22
    refine lv_istore_n hx hb zd_LassoFinderModel_truth_197 rfl hl (by decide) rfl (fun ls hl => ?_)
    have hl : lv_has ls 7 [(3, .int z22), (0, .ref (ad 0)), (1, .int x1), (2, .int x2)] := hl
    obtain ⟨n9, hok⟩ := hok
    exact wL_LassoFinderModel_truth_198 G K ad a0 Post C n9 x2 z22 I J B D ls H locs hok (lv_sub hl [1, 3, 0] rfl) hw
  · have hok := hok.2 hc21
    refine lv_aload_n hx hb zd_LassoFinderModel_truth_80 rfl (lv_at hl 0 rfl) ?_
    refine z_get (v := .ref (ad 44)) hx hb hts hown hK hw zZ12 0 wM_g0 63 (by decide) zm_278 rfl zd_LassoFinderModel_truth_81 ?_
    refine lv_aload_n hx hb zd_LassoFinderModel_truth_84 rfl (lv_at hl 0 rfl) ?_
    refine z_get (v := .ref (ad 46)) hx hb hts hown hK hw zZ12 0 wM_g0 68 (by decide) zm_280 rfl zd_LassoFinderModel_truth_85 ?_
    refine lv_iload_n hx hb zd_LassoFinderModel_truth_88 rfl (lv_at hl 3 rfl) ?_
    refine va_iald (f := (B 43)) hx hb hK hw.1 46 0 wM_a46 rfl hok.1 zd_LassoFinderModel_truth_89 ?_
    have hok := hok.2
    refine lv_topi (fun z23 ez23 => ?_)
    have hok := hok z23 ez23
    refine va_iald (f := (B 41)) hx hb hK hw.1 44 0 wM_a44 rfl hok.1 zd_LassoFinderModel_truth_90 ?_
    have hok := hok.2
    refine lv_topi (fun z24 ez24 => ?_)
    have hok := hok z24 ez24
    refine lv_bipush (v := 12) hx hb zd_LassoFinderModel_truth_91 (by decide) ?_
    refine lv_icmp_eq (tgt := 112) hx hb zd_LassoFinderModel_truth_93 (by decide) (fun hc25 => ?_) (fun hc25 => ?_)
    · have hok := hok.1 hc25
      exact wJ_LassoFinderModel_truth_112 G K ad a0 Post C K72 kh72 x1 x2 x3 I J B D ls H locs hok (lv_sub hl [0, 1, 2, 3] rfl) hw
    · have hok := hok.2 hc25
      refine lv_aload_n hx hb zd_LassoFinderModel_truth_96 rfl (lv_at hl 0 rfl) ?_
      refine z_get (v := .ref (ad 44)) hx hb hts hown hK hw zZ12 0 wM_g0 63 (by decide) zm_278 rfl zd_LassoFinderModel_truth_97 ?_
      refine lv_aload_n hx hb zd_LassoFinderModel_truth_100 rfl (lv_at hl 0 rfl) ?_
      refine z_get (v := .ref (ad 46)) hx hb hts hown hK hw zZ12 0 wM_g0 68 (by decide) zm_280 rfl zd_LassoFinderModel_truth_101 ?_
      refine lv_iload_n hx hb zd_LassoFinderModel_truth_104 rfl (lv_at hl 3 rfl) ?_
      refine va_iald (f := (B 43)) hx hb hK hw.1 46 0 wM_a46 rfl hok.1 zd_LassoFinderModel_truth_105 ?_
      have hok := hok.2
      refine lv_topi (fun z26 ez26 => ?_)
      have hok := hok z26 ez26
      refine va_iald (f := (B 41)) hx hb hK hw.1 44 0 wM_a44 rfl hok.1 zd_LassoFinderModel_truth_106 ?_
      have hok := hok.2
      refine lv_topi (fun z27 ez27 => ?_)
      have hok := hok z27 ez27
      refine lv_bipush (v := 15) hx hb zd_LassoFinderModel_truth_107 (by decide) ?_
      refine lv_icmp_ne (tgt := 116) hx hb zd_LassoFinderModel_truth_109 (by decide) (fun hc28 => ?_) (fun hc28 => ?_)
      · have hok := hok.1 hc28
        refine lv_iconst (v := 0) hx hb zd_LassoFinderModel_truth_116 (by decide) ?_
        exact wJ_LassoFinderModel_truth_117 G K ad a0 Post C K72 kh72 x1 x2 x3 0 I J B D ls H locs hok (lv_sub hl [0, 1, 2, 3] rfl) hw
      · have hok := hok.2 hc28
        exact wJ_LassoFinderModel_truth_112 G K ad a0 Post C K72 kh72 x1 x2 x3 I J B D ls H locs hok (lv_sub hl [0, 1, 2, 3] rfl) hw
theorem wL_LassoFinderModel_truth_72 {p : Program} {l : Launch} {e : Env} {s : State} {m : MethodId} {below : List Frame} {meth : Method} {c : Code} {A : Nat → Prop} (G : va_G) (K : Nat → ClassId) (ad : Nat → Nat) (a0 : Int32) (Post : Int32 → (Nat → Int32) → (Nat → Int64) → (Nat → Nat → Int32) → (Nat → Nat → Int64) → Prop) (C : zCx p s m ([.ref (ad 0), .int a0] : List Value).toArray meth c A G K prog_14_method_78_code (some .boolean) 7 "LassoFinderModel") : ∀ (n : Nat) (x1 : Int32) (x2 : Int32) (x3 : Int32) (I : Nat → Int32) (J : Nat → Int64) (B : Nat → Nat → Int32) (D : Nat → Nat → Int64) (ls : Array Slot) (H : Heap) (locs : List Loc), wl_LassoFinderModel_truth_72 a0 Post n x1 x2 x3 I J B D → lv_has ls 7 [(0, .ref (ad 0)), (1, .int x1), (2, .int x2), (3, .int x3)] → zW G A s.heap (wM ad K I J B D) H locs → W p l e { frames := 2, cells := 0, slots := 0, locals := 50 } s m ([.ref (ad 0), .int a0] : List Value).toArray below meth c H locs 0 0 (MQ below (va_Qi (fun (r : Int32) (u : zS) => Post r u.1 u.2.1 u.2.2.1 u.2.2.2) (fun u t => zPost G K A (wM ad K u.1 u.2.1 u.2.2.1 u.2.2.2) t) A) ([.ref (ad 0), .int a0] : List Value).toArray s 0 0 A) (F0 m 72 ls []) := by
  intro n
  induction n with
  | zero => intro x1 x2 x3 I J B D ls H locs hok; exact hok.elim
  | succ n ih => exact wB_LassoFinderModel_truth_72 G K ad a0 Post C (wl_LassoFinderModel_truth_72 a0 Post n) ih
set_option maxHeartbeats 8000000 in
set_option maxRecDepth 100000 in
theorem wJ_LassoFinderModel_truth_56 {p : Program} {l : Launch} {e : Env} {s : State} {m : MethodId} {below : List Frame} {meth : Method} {c : Code} {A : Nat → Prop} (G : va_G) (K : Nat → ClassId) (ad : Nat → Nat) (a0 : Int32) (Post : Int32 → (Nat → Int32) → (Nat → Int64) → (Nat → Nat → Int32) → (Nat → Nat → Int64) → Prop) (C : zCx p s m ([.ref (ad 0), .int a0] : List Value).toArray meth c A G K prog_14_method_78_code (some .boolean) 7 "LassoFinderModel") : ∀ (x1 : Int32) (y0 : Int32) (I : Nat → Int32) (J : Nat → Int64) (B : Nat → Nat → Int32) (D : Nat → Nat → Int64) (ls : Array Slot) (H : Heap) (locs : List Loc), wc_LassoFinderModel_truth_56 a0 Post x1 y0 I J B D → lv_has ls 7 [(0, .ref (ad 0)), (1, .int x1)] → zW G A s.heap (wM ad K I J B D) H locs → W p l e { frames := 2, cells := 0, slots := 0, locals := 50 } s m ([.ref (ad 0), .int a0] : List Value).toArray below meth c H locs 0 0 (MQ below (va_Qi (fun (r : Int32) (u : zS) => Post r u.1 u.2.1 u.2.2.1 u.2.2.2) (fun u t => zPost G K A (wM ad K u.1 u.2.1 u.2.2.1 u.2.2.2) t) A) ([.ref (ad 0), .int a0] : List Value).toArray s 0 0 A) (F0 m 56 ls [.int y0, .ref (ad 0)]) := by
  obtain ⟨hx, hb, hr, hml, hts, hown, hlocks, hA, hK⟩ := id C
  intro x1 y0 I J B D ls H locs hok hl hw
  unfold wc_LassoFinderModel_truth_56 at hok
  refine z_put (v := .int y0) hx hb hts hown hK hw zZ12 0 wM_g0 0 (by decide) zm_292 rfl rfl rfl (Nat.le_of_ble_eq_true rfl) zd_LassoFinderModel_truth_56 (fun H locs hw => ?_)
  have hw := wM_sI0 hw
  refine lv_aload_n hx hb zd_LassoFinderModel_truth_59 rfl (lv_at hl 0 rfl) ?_
  refine z_get (v := .int y0) hx hb hts hown hK hw zZ12 0 wM_g0 0 (by decide) zm_292 rfl zd_LassoFinderModel_truth_60 ?_
  refine lv_if_le (tgt := 68) hx hb zd_LassoFinderModel_truth_63 (by decide) (fun hc29 => ?_) (fun hc29 => ?_)
  · have hok := hok.1 hc29
    refine lv_iconst (v := 0) hx hb zd_LassoFinderModel_truth_68 (by decide) ?_
    refine lv_istore_n hx hb zd_LassoFinderModel_truth_69 rfl hl (by decide) rfl (fun ls hl => ?_)
    have hl : lv_has ls 7 [(2, .int 0), (0, .ref (ad 0)), (1, .int x1)] := hl
    refine lv_iconst (v := 0) hx hb zd_LassoFinderModel_truth_70 (by decide) ?_
    refine lv_istore_n hx hb zd_LassoFinderModel_truth_71 rfl hl (by decide) rfl (fun ls hl => ?_)
    have hl : lv_has ls 7 [(3, .int 0), (2, .int 0), (0, .ref (ad 0)), (1, .int x1)] := hl
    obtain ⟨n9, hok⟩ := hok
    exact wL_LassoFinderModel_truth_72 G K ad a0 Post C n9 x1 0 0 (upd I 0 y0) J B D ls H locs hok (lv_sub hl [2, 3, 1, 0] rfl) hw
  · have hok := hok.2 hc29
    refine lv_iconst (v := 0) hx hb zd_LassoFinderModel_truth_66 (by decide) ?_
    exact (z_iret (u := ((upd I 0 y0), J, B, D)) hx hb hr hlocks rfl hw (List.range 58) wM_all wM_nd hok (Nat.le_of_ble_eq_true rfl) (Nat.le_of_ble_eq_true rfl) zd_LassoFinderModel_truth_67)
set_option maxHeartbeats 8000000 in
set_option maxRecDepth 100000 in
theorem wJ_LassoFinderModel_truth_15 {p : Program} {l : Launch} {e : Env} {s : State} {m : MethodId} {below : List Frame} {meth : Method} {c : Code} {A : Nat → Prop} (G : va_G) (K : Nat → ClassId) (ad : Nat → Nat) (a0 : Int32) (Post : Int32 → (Nat → Int32) → (Nat → Int64) → (Nat → Nat → Int32) → (Nat → Nat → Int64) → Prop) (C : zCx p s m ([.ref (ad 0), .int a0] : List Value).toArray meth c A G K prog_14_method_78_code (some .boolean) 7 "LassoFinderModel") : ∀ (x1 : Int32) (I : Nat → Int32) (J : Nat → Int64) (B : Nat → Nat → Int32) (D : Nat → Nat → Int64) (ls : Array Slot) (H : Heap) (locs : List Loc), wc_LassoFinderModel_truth_15 a0 Post x1 I J B D → lv_has ls 7 [(0, .ref (ad 0)), (1, .int x1)] → zW G A s.heap (wM ad K I J B D) H locs → W p l e { frames := 2, cells := 0, slots := 0, locals := 50 } s m ([.ref (ad 0), .int a0] : List Value).toArray below meth c H locs 0 0 (MQ below (va_Qi (fun (r : Int32) (u : zS) => Post r u.1 u.2.1 u.2.2.1 u.2.2.2) (fun u t => zPost G K A (wM ad K u.1 u.2.1 u.2.2.1 u.2.2.2) t) A) ([.ref (ad 0), .int a0] : List Value).toArray s 0 0 A) (F0 m 15 ls [.ref (ad 0)]) := by
  obtain ⟨hx, hb, hr, hml, hts, hown, hlocks, hA, hK⟩ := id C
  intro x1 I J B D ls H locs hok hl hw
  unfold wc_LassoFinderModel_truth_15 at hok
  refine lv_iconst (v := 1) hx hb zd_LassoFinderModel_truth_15 (by decide) ?_
  refine lv_goto (tgt := 56) hx hb zd_LassoFinderModel_truth_16 (by decide) ?_
  exact wJ_LassoFinderModel_truth_56 G K ad a0 Post C x1 1 I J B D ls H locs hok (lv_sub hl [0, 1] rfl) hw
set_option maxHeartbeats 8000000 in
set_option maxRecDepth 100000 in
theorem wJ_LassoFinderModel_truth_51 {p : Program} {l : Launch} {e : Env} {s : State} {m : MethodId} {below : List Frame} {meth : Method} {c : Code} {A : Nat → Prop} (G : va_G) (K : Nat → ClassId) (ad : Nat → Nat) (a0 : Int32) (Post : Int32 → (Nat → Int32) → (Nat → Int64) → (Nat → Nat → Int32) → (Nat → Nat → Int64) → Prop) (C : zCx p s m ([.ref (ad 0), .int a0] : List Value).toArray meth c A G K prog_14_method_78_code (some .boolean) 7 "LassoFinderModel") : ∀ (x1 : Int32) (I : Nat → Int32) (J : Nat → Int64) (B : Nat → Nat → Int32) (D : Nat → Nat → Int64) (ls : Array Slot) (H : Heap) (locs : List Loc), wc_LassoFinderModel_truth_51 a0 Post x1 I J B D → lv_has ls 7 [(0, .ref (ad 0)), (1, .int x1)] → zW G A s.heap (wM ad K I J B D) H locs → W p l e { frames := 2, cells := 0, slots := 0, locals := 50 } s m ([.ref (ad 0), .int a0] : List Value).toArray below meth c H locs 0 0 (MQ below (va_Qi (fun (r : Int32) (u : zS) => Post r u.1 u.2.1 u.2.2.1 u.2.2.2) (fun u t => zPost G K A (wM ad K u.1 u.2.1 u.2.2.1 u.2.2.2) t) A) ([.ref (ad 0), .int a0] : List Value).toArray s 0 0 A) (F0 m 51 ls [.ref (ad 0)]) := by
  obtain ⟨hx, hb, hr, hml, hts, hown, hlocks, hA, hK⟩ := id C
  intro x1 I J B D ls H locs hok hl hw
  unfold wc_LassoFinderModel_truth_51 at hok
  refine lv_iconst (v := 2) hx hb zd_LassoFinderModel_truth_51 (by decide) ?_
  refine lv_goto (tgt := 56) hx hb zd_LassoFinderModel_truth_52 (by decide) ?_
  exact wJ_LassoFinderModel_truth_56 G K ad a0 Post C x1 2 I J B D ls H locs hok (lv_sub hl [0, 1] rfl) hw
set_option maxHeartbeats 8000000 in
set_option maxRecDepth 100000 in
theorem w_LassoFinderModel_truth (l : Launch) (G : va_G) (K : Nat → ClassId) (ad : Nat → Nat) (I : Nat → Int32) (J : Nat → Int64) (B : Nat → Nat → Int32) (D : Nat → Nat → Int64) (a0 : Int32) (Post : Int32 → (Nat → Int32) → (Nat → Int64) → (Nat → Nat → Int32) → (Nat → Nat → Int64) → Prop) (sz : Nat) (hok : wp_LassoFinderModel_truth I J B D a0 Post) : Met l zy_LassoFinderModel_truth (Cond.code zy_LassoFinderModel_truth prog_14_method_78_code 7 (some .boolean) :: zTB) { frames := 2, cells := 0, slots := 0, locals := 50 } (va_Pc [.ref (ad 0), .int a0] (zPre G K (wM ad K I J B D) sz)) (va_Qi (fun (r : Int32) (u : zS) => Post r u.1 u.2.1 u.2.2.1 u.2.2.2) (fun u t => zPost G K (va_A (wM ad K I J B D) sz) (wM ad K u.1 u.2.1 u.2.2.1 u.2.2.2) t) (va_A (wM ad K I J B D) sz)) 0 0 (va_A (wM ad K I J B D) sz) := by
  refine zMet (y := zy_LassoFinderModel_truth) (av := [.ref (ad 0), .int a0]) (maxL := 7) (cc := prog_14_method_78_code) (ret := (some .boolean)) (W0 := (wM ad K I J B D)) (sz := sz) (G := G) (K := K) (wt := zTB) (mc := 0) (ms := 0) (Qf := fun A => va_Qi (fun (r : Int32) (u : zS) => Post r u.1 u.2.1 u.2.2.1 u.2.2.2) (fun u t => zPost G K A (wM ad K u.1 u.2.1 u.2.2.1 u.2.2.2) t) A) (by decide) (Nat.le_of_ble_eq_true rfl) ?_
  intro p e s m below meth c ls A hx hb hr hml hts hown hlocks hin hA hK H locs hw hsz hl
  clear hsz
  have hown : s.vm.findClass "LassoFinderModel" = some m.cls := hown
  have C : zCx p s m ([.ref (ad 0), .int a0] : List Value).toArray meth c A G K prog_14_method_78_code (some .boolean) 7 "LassoFinderModel" := ⟨hx, hb, hr, hml, hts, hown, hlocks, hA, hK⟩
  have hl : lv_has ls 7 [(0, .ref (ad 0)), (1, .int a0)] := hl
  have hw : zW G A s.heap (wM ad K I J B D) H locs := hw
  unfold wp_LassoFinderModel_truth at hok
  refine lv_aload_n hx hb zd_LassoFinderModel_truth_0 rfl (lv_at hl 0 rfl) ?_
  refine lv_aload_n hx hb zd_LassoFinderModel_truth_1 rfl (lv_at hl 0 rfl) ?_
  refine z_get (v := .int (I 26)) hx hb hts hown hK hw zZ12 0 wM_g0 82 (by decide) zm_331 rfl zd_LassoFinderModel_truth_2 ?_
  refine lv_if_lt (tgt := 15) hx hb zd_LassoFinderModel_truth_5 (by decide) (fun hc30 => ?_) (fun hc30 => ?_)
  · have hok := hok.1 hc30
    exact wJ_LassoFinderModel_truth_15 G K ad a0 Post C a0 I J B D ls H locs hok (lv_sub hl [0, 1] rfl) hw
  · have hok := hok.2 hc30
    refine lv_aload_n hx hb zd_LassoFinderModel_truth_8 rfl (lv_at hl 0 rfl) ?_
    refine z_get (v := .int (I 18)) hx hb hts hown hK hw zZ12 0 wM_g0 61 (by decide) zm_329 rfl zd_LassoFinderModel_truth_9 ?_
    refine lv_if_ne (tgt := 19) hx hb zd_LassoFinderModel_truth_12 (by decide) (fun hc31 => ?_) (fun hc31 => ?_)
    · have hok := hok.1 hc31
      refine lv_iload_n hx hb zd_LassoFinderModel_truth_19 rfl (lv_at hl 1 rfl) ?_
      refine lv_iconst (v := 0) hx hb zd_LassoFinderModel_truth_20 (by decide) ?_
      refine lv_aload_n hx hb zd_LassoFinderModel_truth_21 rfl (lv_at hl 0 rfl) ?_
      refine z_get (v := .int (I 26)) hx hb hts hown hK hw zZ12 0 wM_g0 82 (by decide) zm_331 rfl zd_LassoFinderModel_truth_22 ?_
      refine lv_iconst (v := 1) hx hb zd_LassoFinderModel_truth_25 (by decide) ?_
      refine lv_isub hx hb zd_LassoFinderModel_truth_26 ?_
      refine lv_topi (fun z32 ez32 => ?_)
      have hok := hok z32 ez32
      refine z_calli (w1 := fun (u : zS) => wM ad K u.1 u.2.1 u.2.2.1 u.2.2.2) (wr := []) (z_runS (wc := (wM ad K I J B D)) (As := [.int a0, .int 0, .int z32]) (rest := [.ref (ad 0)]) ⟨hx, hb, hml, hown, hts⟩ (w_LassoFinderModel_in l G K ad I J B D a0 0 z32 _ H.size hok) zf_LassoFinderModel_in zm_293 ⟨Nat.le_of_ble_eq_true rfl, Nat.le_of_ble_eq_true rfl⟩ hK hw (List.range 58) wM_all wM_nd rfl hl.1 rfl (Nat.le_of_ble_eq_true rfl) zd_LassoFinderModel_truth_27 ⟨Nat.le_of_ble_eq_true rfl, Nat.le_of_ble_eq_true rfl⟩) hw hA (List.range 58) [] wM_all rfl (by decide) (fun i hi => by cases hi) (fun r33 u H locs hok hw => ?_)
      obtain ⟨I33, J33, B33, D33⟩ := u
      dsimp only at hok
      have hw : zW G A s.heap (wM ad K I33 J33 B33 D33) H locs := hw
      refine lv_if_eq (tgt := 51) hx hb zd_LassoFinderModel_truth_30 (by decide) (fun hc34 => ?_) (fun hc34 => ?_)
      · have hok := hok.1 hc34
        exact wJ_LassoFinderModel_truth_51 G K ad a0 Post C a0 I33 J33 B33 D33 ls H locs hok (lv_sub hl [0, 1] rfl) hw
      · have hok := hok.2 hc34
        refine lv_aload_n hx hb zd_LassoFinderModel_truth_33 rfl (lv_at hl 0 rfl) ?_
        refine z_get (v := .ref (ad 57)) hx hb hts hown hK hw zZ12 0 wM_g0 83 (by decide) zm_291 rfl zd_LassoFinderModel_truth_34 ?_
        refine lv_iload_n hx hb zd_LassoFinderModel_truth_37 rfl (lv_at hl 1 rfl) ?_
        refine va_iald (f := (B33 54)) hx hb hK hw.1 57 0 wM_a57 rfl hok.1 zd_LassoFinderModel_truth_38 ?_
        have hok := hok.2
        refine lv_topi (fun z35 ez35 => ?_)
        have hok := hok z35 ez35
        refine lv_aload_n hx hb zd_LassoFinderModel_truth_39 rfl (lv_at hl 0 rfl) ?_
        refine z_get (v := .ref (ad 57)) hx hb hts hown hK hw zZ12 0 wM_g0 83 (by decide) zm_291 rfl zd_LassoFinderModel_truth_40 ?_
        refine lv_aload_n hx hb zd_LassoFinderModel_truth_43 rfl (lv_at hl 0 rfl) ?_
        refine z_get (v := .int (I33 26)) hx hb hts hown hK hw zZ12 0 wM_g0 82 (by decide) zm_331 rfl zd_LassoFinderModel_truth_44 ?_
        refine va_iald (f := (B33 54)) hx hb hK hw.1 57 0 wM_a57 rfl hok.1 zd_LassoFinderModel_truth_47 ?_
        have hok := hok.2
        refine lv_topi (fun z36 ez36 => ?_)
        have hok := hok z36 ez36
        refine lv_icmp_eq (tgt := 55) hx hb zd_LassoFinderModel_truth_48 (by decide) (fun hc37 => ?_) (fun hc37 => ?_)
        · have hok := hok.1 hc37
          refine lv_iconst (v := 0) hx hb zd_LassoFinderModel_truth_55 (by decide) ?_
          exact wJ_LassoFinderModel_truth_56 G K ad a0 Post C a0 0 I33 J33 B33 D33 ls H locs hok (lv_sub hl [0, 1] rfl) hw
        · have hok := hok.2 hc37
          exact wJ_LassoFinderModel_truth_51 G K ad a0 Post C a0 I33 J33 B33 D33 ls H locs hok (lv_sub hl [0, 1] rfl) hw
    · have hok := hok.2 hc31
      exact wJ_LassoFinderModel_truth_15 G K ad a0 Post C a0 I J B D ls H locs hok (lv_sub hl [0, 1] rfl) hw
def wc_LassoFinderModel_count_66 (a0 : Int32) (Post : Int32 → (Nat → Int32) → (Nat → Int64) → (Nat → Nat → Int32) → (Nat → Nat → Int64) → Prop) (y0 : Int32) (I : Nat → Int32) (J : Nat → Int64) (B : Nat → Nat → Int32) (D : Nat → Nat → Int64) : Prop :=
  Post y0 I J B D
def wp_LassoFinderModel_count (I : Nat → Int32) (J : Nat → Int64) (B : Nat → Nat → Int32) (D : Nat → Nat → Int64) (a0 : Int32) (Post : Int32 → (Nat → Int32) → (Nat → Int64) → (Nat → Nat → Int32) → (Nat → Nat → Int64) → Prop) : Prop :=
  wp_LassoFinderModel_in (upd I 0 0) J B D a0 0 3 (fun r1 I1 J1 B1 D1 => ((¬ r1 = 0 → ((¬ (I1 5) = 0 → ((¬ a0 = 0 → ((¬ a0 = 1 → ((¬ a0 = 2 → wc_LassoFinderModel_count_66 a0 Post (I1 10) I1 J1 B1 D1) ∧ (a0 = 2 → wc_LassoFinderModel_count_66 a0 Post (I1 9) I1 J1 B1 D1))) ∧ (a0 = 1 → wc_LassoFinderModel_count_66 a0 Post (I1 15) I1 J1 B1 D1))) ∧ (a0 = 0 → wc_LassoFinderModel_count_66 a0 Post (I1 14) I1 J1 B1 D1))) ∧ ((I1 5) = 0 → wc_LassoFinderModel_count_66 a0 Post 0 I1 J1 B1 D1))) ∧ (r1 = 0 → Post (-1) I1 J1 B1 D1)))
set_option maxHeartbeats 8000000 in
set_option maxRecDepth 100000 in
theorem wJ_LassoFinderModel_count_66 {p : Program} {l : Launch} {e : Env} {s : State} {m : MethodId} {below : List Frame} {meth : Method} {c : Code} {A : Nat → Prop} (G : va_G) (K : Nat → ClassId) (ad : Nat → Nat) (a0 : Int32) (Post : Int32 → (Nat → Int32) → (Nat → Int64) → (Nat → Nat → Int32) → (Nat → Nat → Int64) → Prop) (C : zCx p s m ([.ref (ad 0), .int a0] : List Value).toArray meth c A G K prog_14_method_79_code (some .int) 2 "LassoFinderModel") : ∀ (y0 : Int32) (I : Nat → Int32) (J : Nat → Int64) (B : Nat → Nat → Int32) (D : Nat → Nat → Int64) (ls : Array Slot) (H : Heap) (locs : List Loc), wc_LassoFinderModel_count_66 a0 Post y0 I J B D → lv_has ls 2 [] → zW G A s.heap (wM ad K I J B D) H locs → W p l e { frames := 1, cells := 0, slots := 0, locals := 22 } s m ([.ref (ad 0), .int a0] : List Value).toArray below meth c H locs 0 0 (MQ below (va_Qi (fun (r : Int32) (u : zS) => Post r u.1 u.2.1 u.2.2.1 u.2.2.2) (fun u t => zPost G K A (wM ad K u.1 u.2.1 u.2.2.1 u.2.2.2) t) A) ([.ref (ad 0), .int a0] : List Value).toArray s 0 0 A) (F0 m 66 ls [.int y0]) := by
  obtain ⟨hx, hb, hr, hml, hts, hown, hlocks, hA, hK⟩ := id C
  intro y0 I J B D ls H locs hok hl hw
  unfold wc_LassoFinderModel_count_66 at hok
  exact (z_iret (u := (I, J, B, D)) hx hb hr hlocks rfl hw (List.range 58) wM_all wM_nd hok (Nat.le_of_ble_eq_true rfl) (Nat.le_of_ble_eq_true rfl) zd_LassoFinderModel_count_66)
set_option maxHeartbeats 8000000 in
set_option maxRecDepth 100000 in
theorem w_LassoFinderModel_count (l : Launch) (G : va_G) (K : Nat → ClassId) (ad : Nat → Nat) (I : Nat → Int32) (J : Nat → Int64) (B : Nat → Nat → Int32) (D : Nat → Nat → Int64) (a0 : Int32) (Post : Int32 → (Nat → Int32) → (Nat → Int64) → (Nat → Nat → Int32) → (Nat → Nat → Int64) → Prop) (sz : Nat) (hok : wp_LassoFinderModel_count I J B D a0 Post) : Met l zy_LassoFinderModel_count (Cond.code zy_LassoFinderModel_count prog_14_method_79_code 2 (some .int) :: zTB) { frames := 1, cells := 0, slots := 0, locals := 22 } (va_Pc [.ref (ad 0), .int a0] (zPre G K (wM ad K I J B D) sz)) (va_Qi (fun (r : Int32) (u : zS) => Post r u.1 u.2.1 u.2.2.1 u.2.2.2) (fun u t => zPost G K (va_A (wM ad K I J B D) sz) (wM ad K u.1 u.2.1 u.2.2.1 u.2.2.2) t) (va_A (wM ad K I J B D) sz)) 0 0 (va_A (wM ad K I J B D) sz) := by
  refine zMet (y := zy_LassoFinderModel_count) (av := [.ref (ad 0), .int a0]) (maxL := 2) (cc := prog_14_method_79_code) (ret := (some .int)) (W0 := (wM ad K I J B D)) (sz := sz) (G := G) (K := K) (wt := zTB) (mc := 0) (ms := 0) (Qf := fun A => va_Qi (fun (r : Int32) (u : zS) => Post r u.1 u.2.1 u.2.2.1 u.2.2.2) (fun u t => zPost G K A (wM ad K u.1 u.2.1 u.2.2.1 u.2.2.2) t) A) (by decide) (Nat.le_of_ble_eq_true rfl) ?_
  intro p e s m below meth c ls A hx hb hr hml hts hown hlocks hin hA hK H locs hw hsz hl
  clear hsz
  have hown : s.vm.findClass "LassoFinderModel" = some m.cls := hown
  have C : zCx p s m ([.ref (ad 0), .int a0] : List Value).toArray meth c A G K prog_14_method_79_code (some .int) 2 "LassoFinderModel" := ⟨hx, hb, hr, hml, hts, hown, hlocks, hA, hK⟩
  have hl : lv_has ls 2 [(0, .ref (ad 0)), (1, .int a0)] := hl
  have hw : zW G A s.heap (wM ad K I J B D) H locs := hw
  unfold wp_LassoFinderModel_count at hok
  refine lv_aload_n hx hb zd_LassoFinderModel_count_0 rfl (lv_at hl 0 rfl) ?_
  refine lv_iconst (v := 0) hx hb zd_LassoFinderModel_count_1 (by decide) ?_
  refine z_put (v := .int 0) hx hb hts hown hK hw zZ12 0 wM_g0 0 (by decide) zm_292 rfl rfl rfl (Nat.le_of_ble_eq_true rfl) zd_LassoFinderModel_count_2 (fun H locs hw => ?_)
  have hw := wM_sI0 hw
  refine lv_iload_n hx hb zd_LassoFinderModel_count_5 rfl (lv_at hl 1 rfl) ?_
  refine lv_iconst (v := 0) hx hb zd_LassoFinderModel_count_6 (by decide) ?_
  refine lv_iconst (v := 3) hx hb zd_LassoFinderModel_count_7 (by decide) ?_
  refine z_calli (w1 := fun (u : zS) => wM ad K u.1 u.2.1 u.2.2.1 u.2.2.2) (wr := []) (z_runS (wc := (wM ad K (upd I 0 0) J B D)) (As := [.int a0, .int 0, .int 3]) (rest := []) ⟨hx, hb, hml, hown, hts⟩ (w_LassoFinderModel_in l G K ad (upd I 0 0) J B D a0 0 3 _ H.size hok) zf_LassoFinderModel_in zm_293 ⟨Nat.le_of_ble_eq_true rfl, Nat.le_of_ble_eq_true rfl⟩ hK hw (List.range 58) wM_all wM_nd rfl hl.1 rfl (Nat.le_of_ble_eq_true rfl) zd_LassoFinderModel_count_8 ⟨Nat.le_of_ble_eq_true rfl, Nat.le_of_ble_eq_true rfl⟩) hw hA (List.range 58) [] wM_all rfl (by decide) (fun i hi => by cases hi) (fun r1 u H locs hok hw => ?_)
  obtain ⟨I1, J1, B1, D1⟩ := u
  dsimp only at hok
  have hw : zW G A s.heap (wM ad K I1 J1 B1 D1) H locs := hw
  refine lv_if_ne (tgt := 16) hx hb zd_LassoFinderModel_count_11 (by decide) (fun hc2 => ?_) (fun hc2 => ?_)
  · have hok := hok.1 hc2
    refine lv_aload_n hx hb zd_LassoFinderModel_count_16 rfl (lv_at hl 0 rfl) ?_
    refine z_get (v := .int (I1 5)) hx hb hts hown hK hw zZ12 0 wM_g0 6 (by decide) zm_299 rfl zd_LassoFinderModel_count_17 ?_
    refine lv_if_ne (tgt := 27) hx hb zd_LassoFinderModel_count_20 (by decide) (fun hc3 => ?_) (fun hc3 => ?_)
    · have hok := hok.1 hc3
      refine lv_iload_n hx hb zd_LassoFinderModel_count_27 rfl (lv_at hl 1 rfl) ?_
      refine lv_if_ne (tgt := 38) hx hb zd_LassoFinderModel_count_28 (by decide) (fun hc4 => ?_) (fun hc4 => ?_)
      · have hok := hok.1 hc4
        refine lv_iload_n hx hb zd_LassoFinderModel_count_38 rfl (lv_at hl 1 rfl) ?_
        refine lv_iconst (v := 1) hx hb zd_LassoFinderModel_count_39 (by decide) ?_
        refine lv_icmp_ne (tgt := 50) hx hb zd_LassoFinderModel_count_40 (by decide) (fun hc5 => ?_) (fun hc5 => ?_)
        · have hok := hok.1 hc5
          refine lv_iload_n hx hb zd_LassoFinderModel_count_50 rfl (lv_at hl 1 rfl) ?_
          refine lv_iconst (v := 2) hx hb zd_LassoFinderModel_count_51 (by decide) ?_
          refine lv_icmp_ne (tgt := 62) hx hb zd_LassoFinderModel_count_52 (by decide) (fun hc6 => ?_) (fun hc6 => ?_)
          · have hok := hok.1 hc6
            refine lv_aload_n hx hb zd_LassoFinderModel_count_62 rfl (lv_at hl 0 rfl) ?_
            refine z_get (v := .int (I1 10)) hx hb hts hown hK hw zZ12 0 wM_g0 30 (by decide) zm_310 rfl zd_LassoFinderModel_count_63 ?_
            exact wJ_LassoFinderModel_count_66 G K ad a0 Post C (I1 10) I1 J1 B1 D1 ls H locs hok (lv_sub hl [] rfl) hw
          · have hok := hok.2 hc6
            refine lv_aload_n hx hb zd_LassoFinderModel_count_55 rfl (lv_at hl 0 rfl) ?_
            refine z_get (v := .int (I1 9)) hx hb hts hown hK hw zZ12 0 wM_g0 27 (by decide) zm_303 rfl zd_LassoFinderModel_count_56 ?_
            refine lv_goto (tgt := 66) hx hb zd_LassoFinderModel_count_59 (by decide) ?_
            exact wJ_LassoFinderModel_count_66 G K ad a0 Post C (I1 9) I1 J1 B1 D1 ls H locs hok (lv_sub hl [] rfl) hw
        · have hok := hok.2 hc5
          refine lv_aload_n hx hb zd_LassoFinderModel_count_43 rfl (lv_at hl 0 rfl) ?_
          refine z_get (v := .int (I1 15)) hx hb hts hown hK hw zZ12 0 wM_g0 45 (by decide) zm_314 rfl zd_LassoFinderModel_count_44 ?_
          refine lv_goto (tgt := 66) hx hb zd_LassoFinderModel_count_47 (by decide) ?_
          exact wJ_LassoFinderModel_count_66 G K ad a0 Post C (I1 15) I1 J1 B1 D1 ls H locs hok (lv_sub hl [] rfl) hw
      · have hok := hok.2 hc4
        refine lv_aload_n hx hb zd_LassoFinderModel_count_31 rfl (lv_at hl 0 rfl) ?_
        refine z_get (v := .int (I1 14)) hx hb hts hown hK hw zZ12 0 wM_g0 44 (by decide) zm_300 rfl zd_LassoFinderModel_count_32 ?_
        refine lv_goto (tgt := 66) hx hb zd_LassoFinderModel_count_35 (by decide) ?_
        exact wJ_LassoFinderModel_count_66 G K ad a0 Post C (I1 14) I1 J1 B1 D1 ls H locs hok (lv_sub hl [] rfl) hw
    · have hok := hok.2 hc3
      refine lv_iconst (v := 0) hx hb zd_LassoFinderModel_count_23 (by decide) ?_
      refine lv_goto (tgt := 66) hx hb zd_LassoFinderModel_count_24 (by decide) ?_
      exact wJ_LassoFinderModel_count_66 G K ad a0 Post C 0 I1 J1 B1 D1 ls H locs hok (lv_sub hl [] rfl) hw
  · have hok := hok.2 hc2
    refine lv_iconst (v := (-1)) hx hb zd_LassoFinderModel_count_14 (by decide) ?_
    exact (z_iret (u := (I1, J1, B1, D1)) hx hb hr hlocks rfl hw (List.range 58) wM_all wM_nd hok (Nat.le_of_ble_eq_true rfl) (Nat.le_of_ble_eq_true rfl) zd_LassoFinderModel_count_15)
