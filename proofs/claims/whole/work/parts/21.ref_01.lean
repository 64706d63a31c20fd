abbrev zy_LassoFinderModel_packed : MethodName := ⟨"LassoFinderModel", "packed", "()J"⟩
abbrev zy_LassoFinderModel_unpack : MethodName := ⟨"LassoFinderModel", "unpack", "(J)V"⟩
abbrev zy_LassoFinderModel_worth : MethodName := ⟨"LassoFinderModel", "worth", "(II)I"⟩
abbrev zy_LassoFinderModel_goesOn : MethodName := ⟨"LassoFinderModel", "goesOn", "(II)Z"⟩
theorem zm_236 : Cond.fieldLink "LassoFinderModel" 17 "LassoFinderModel" "var" "[I" ∈ zTB := z_in (zt_6 _ (List.mem_of_getElem? (i := 103) rfl)) rfl
theorem zm_237 : Cond.fieldLink "LassoFinderModel" 20 "LassoFinderModel" "chan" "[I" ∈ zTB := z_in (zt_6 _ (List.mem_of_getElem? (i := 104) rfl)) rfl
theorem zm_245 : Cond.fieldLink "LassoFinderModel" 45 "LassoFinderModel" "atomic" "[I" ∈ zTB := z_in (zt_6 _ (List.mem_of_getElem? (i := 113) rfl)) rfl
theorem zm_258 : Cond.fieldLink "LassoFinderModel" 84 "LassoFinderModel" "nodeAt" "[I" ∈ zTB := z_in (zt_6 _ (List.mem_of_getElem? (i := 128) rfl)) rfl
theorem zm_260 : Cond.fieldLink "LassoFinderModel" 91 "LassoFinderModel" "code" "[I" ∈ zTB := z_in (zt_6 _ (List.mem_of_getElem? (i := 131) rfl)) rfl
theorem zm_273 : Cond.fieldLink "LassoFinderModel" 130 "LassoFinderModel" "value" "[I" ∈ zTB := z_in (zt_6 _ (List.mem_of_getElem? (i := 149) rfl)) rfl
theorem zm_274 : Cond.fieldLink "LassoFinderModel" 133 "LassoFinderModel" "many" "[I" ∈ zTB := z_in (zt_6 _ (List.mem_of_getElem? (i := 150) rfl)) rfl
theorem zm_275 : Cond.fieldLink "LassoFinderModel" 136 "LassoFinderModel" "message" "[I" ∈ zTB := z_in (zt_6 _ (List.mem_of_getElem? (i := 151) rfl)) rfl
theorem zm_276 : Cond.fieldLink "LassoFinderModel" 139 "LassoFinderModel" "stands" "[I" ∈ zTB := z_in (zt_6 _ (List.mem_of_getElem? (i := 152) rfl)) rfl
theorem zm_277 : Cond.fieldLink "LassoFinderModel" 142 "LassoFinderModel" "stack" "[I" ∈ zTB := z_in (zt_6 _ (List.mem_of_getElem? (i := 154) rfl)) rfl
theorem zm_308 : Cond.fieldLink "LassoFinderModel" 241 "LassoFinderModel" "vars" "I" ∈ zTB := z_in (zt_6 _ (List.mem_of_getElem? (i := 101) rfl)) rfl
theorem zm_309 : Cond.fieldLink "LassoFinderModel" 238 "LassoFinderModel" "chans" "I" ∈ zTB := z_in (zt_6 _ (List.mem_of_getElem? (i := 102) rfl)) rfl
theorem zm_310 : Cond.fieldLink "LassoFinderModel" 254 "LassoFinderModel" "processes" "I" ∈ zTB := z_in (zt_6 _ (List.mem_of_getElem? (i := 124) rfl)) rfl
theorem zm_320 : Cond.fieldLink "LassoFinderModel" 301 "LassoFinderModel" "holds" "I" ∈ zTB := z_in (zt_6 _ (List.mem_of_getElem? (i := 153) rfl)) rfl
theorem zm_321 : Cond.constantLong "LassoFinderModel" 304 (7 : Int64) ∈ zTB := z_in (zt_7 _ (List.mem_of_getElem? (i := 225) rfl)) rfl
theorem zm_322 : Cond.constantLong "LassoFinderModel" 308 (31 : Int64) ∈ zTB := z_in (zt_7 _ (List.mem_of_getElem? (i := 227) rfl)) rfl
theorem zm_323 : Cond.constantLong "LassoFinderModel" 306 (3 : Int64) ∈ zTB := z_in (zt_7 _ (List.mem_of_getElem? (i := 226) rfl)) rfl
theorem zd_LassoFinderModel_goesOn_0 : decode prog_14_method_34_code 0 = .ok (.aload_n 0, 1) := by decide +kernel
theorem zd_LassoFinderModel_goesOn_1 : decode prog_14_method_34_code 1 = .ok (.getfield 139, 3) := by decide +kernel
theorem zd_LassoFinderModel_goesOn_4 : decode prog_14_method_34_code 4 = .ok (.iload_n 1, 1) := by decide +kernel
theorem zd_LassoFinderModel_goesOn_5 : decode prog_14_method_34_code 5 = .ok (.aload_n 0, 1) := by decide +kernel
theorem zd_LassoFinderModel_goesOn_6 : decode prog_14_method_34_code 6 = .ok (.getfield 66, 3) := by decide +kernel
theorem zd_LassoFinderModel_goesOn_9 : decode prog_14_method_34_code 9 = .ok (.iload_n 2, 1) := by decide +kernel
theorem zd_LassoFinderModel_goesOn_10 : decode prog_14_method_34_code 10 = .ok (.iaload, 1) := by decide +kernel
theorem zd_LassoFinderModel_goesOn_11 : decode prog_14_method_34_code 11 = .ok (.iastore, 1) := by decide +kernel
theorem zd_LassoFinderModel_goesOn_12 : decode prog_14_method_34_code 12 = .ok (.aload_n 0, 1) := by decide +kernel
theorem zd_LassoFinderModel_goesOn_13 : decode prog_14_method_34_code 13 = .ok (.getfield 45, 3) := by decide +kernel
theorem zd_LassoFinderModel_goesOn_16 : decode prog_14_method_34_code 16 = .ok (.iload_n 2, 1) := by decide +kernel
theorem zd_LassoFinderModel_goesOn_17 : decode prog_14_method_34_code 17 = .ok (.iaload, 1) := by decide +kernel
theorem zd_LassoFinderModel_goesOn_18 : decode prog_14_method_34_code 18 = .ok (.ifCond .lt 52, 3) := by decide +kernel
theorem zd_LassoFinderModel_goesOn_21 : decode prog_14_method_34_code 21 = .ok (.aload_n 0, 1) := by decide +kernel
theorem zd_LassoFinderModel_goesOn_22 : decode prog_14_method_34_code 22 = .ok (.getfield 139, 3) := by decide +kernel
theorem zd_LassoFinderModel_goesOn_25 : decode prog_14_method_34_code 25 = .ok (.iload_n 1, 1) := by decide +kernel
theorem zd_LassoFinderModel_goesOn_26 : decode prog_14_method_34_code 26 = .ok (.iaload, 1) := by decide +kernel
theorem zd_LassoFinderModel_goesOn_27 : decode prog_14_method_34_code 27 = .ok (.aload_n 0, 1) := by decide +kernel
theorem zd_LassoFinderModel_goesOn_28 : decode prog_14_method_34_code 28 = .ok (.getfield 75, 3) := by decide +kernel
theorem zd_LassoFinderModel_goesOn_31 : decode prog_14_method_34_code 31 = .ok (.iload_n 1, 1) := by decide +kernel
theorem zd_LassoFinderModel_goesOn_32 : decode prog_14_method_34_code 32 = .ok (.iaload, 1) := by decide +kernel
theorem zd_LassoFinderModel_goesOn_33 : decode prog_14_method_34_code 33 = .ok (.if_icmp .ge 37, 3) := by decide +kernel
theorem zd_LassoFinderModel_goesOn_36 : decode prog_14_method_34_code 36 = .ok (.aload_n 0, 1) := by decide +kernel
theorem zd_LassoFinderModel_goesOn_37 : decode prog_14_method_34_code 37 = .ok (.getfield 45, 3) := by decide +kernel
theorem zd_LassoFinderModel_goesOn_40 : decode prog_14_method_34_code 40 = .ok (.aload_n 0, 1) := by decide +kernel
theorem zd_LassoFinderModel_goesOn_41 : decode prog_14_method_34_code 41 = .ok (.getfield 84, 3) := by decide +kernel
theorem zd_LassoFinderModel_goesOn_44 : decode prog_14_method_34_code 44 = .ok (.bipush 31, 2) := by decide +kernel
theorem zd_LassoFinderModel_goesOn_46 : decode prog_14_method_34_code 46 = .ok (.iload_n 1, 1) := by decide +kernel
theorem zd_LassoFinderModel_goesOn_47 : decode prog_14_method_34_code 47 = .ok (.imul, 1) := by decide +kernel
theorem zd_LassoFinderModel_goesOn_48 : decode prog_14_method_34_code 48 = .ok (.aload_n 0, 1) := by decide +kernel
theorem zd_LassoFinderModel_goesOn_49 : decode prog_14_method_34_code 49 = .ok (.getfield 139, 3) := by decide +kernel
theorem zd_LassoFinderModel_goesOn_52 : decode prog_14_method_34_code 52 = .ok (.iload_n 1, 1) := by decide +kernel
theorem zd_LassoFinderModel_goesOn_53 : decode prog_14_method_34_code 53 = .ok (.iaload, 1) := by decide +kernel
theorem zd_LassoFinderModel_goesOn_54 : decode prog_14_method_34_code 54 = .ok (.iadd, 1) := by decide +kernel
theorem zd_LassoFinderModel_goesOn_55 : decode prog_14_method_34_code 55 = .ok (.iaload, 1) := by decide +kernel
theorem zd_LassoFinderModel_goesOn_56 : decode prog_14_method_34_code 56 = .ok (.iaload, 1) := by decide +kernel
theorem zd_LassoFinderModel_goesOn_57 : decode prog_14_method_34_code 57 = .ok (.aload_n 0, 1) := by decide +kernel
theorem zd_LassoFinderModel_goesOn_58 : decode prog_14_method_34_code 58 = .ok (.getfield 45, 3) := by decide +kernel
theorem zd_LassoFinderModel_goesOn_61 : decode prog_14_method_34_code 61 = .ok (.iload_n 2, 1) := by decide +kernel
theorem zd_LassoFinderModel_goesOn_62 : decode prog_14_method_34_code 62 = .ok (.iaload, 1) := by decide +kernel
theorem zd_LassoFinderModel_goesOn_63 : decode prog_14_method_34_code 63 = .ok (.if_icmp .ne 7, 3) := by decide +kernel
theorem zd_LassoFinderModel_goesOn_66 : decode prog_14_method_34_code 66 = .ok (.iconst 1, 1) := by decide +kernel
theorem zd_LassoFinderModel_goesOn_67 : decode prog_14_method_34_code 67 = .ok (.goto 4, 3) := by decide +kernel
theorem zd_LassoFinderModel_goesOn_70 : decode prog_14_method_34_code 70 = .ok (.iconst 0, 1) := by decide +kernel
theorem zd_LassoFinderModel_goesOn_71 : decode prog_14_method_34_code 71 = .ok (.ireturn, 1) := by decide +kernel
theorem zd_LassoFinderModel_packed_0 : decode prog_14_method_28_code 0 = .ok (.lconst 0, 1) := by decide +kernel
theorem zd_LassoFinderModel_packed_1 : decode prog_14_method_28_code 1 = .ok (.lstore_n 1, 1) := by decide +kernel
theorem zd_LassoFinderModel_packed_2 : decode prog_14_method_28_code 2 = .ok (.iconst 0, 1) := by decide +kernel
theorem zd_LassoFinderModel_packed_3 : decode prog_14_method_28_code 3 = .ok (.istore_n 3, 1) := by decide +kernel
theorem zd_LassoFinderModel_packed_4 : decode prog_14_method_28_code 4 = .ok (.iload_n 3, 1) := by decide +kernel
theorem zd_LassoFinderModel_packed_5 : decode prog_14_method_28_code 5 = .ok (.aload_n 0, 1) := by decide +kernel
theorem zd_LassoFinderModel_packed_6 : decode prog_14_method_28_code 6 = .ok (.getfield 241, 3) := by decide +kernel
theorem zd_LassoFinderModel_packed_9 : decode prog_14_method_28_code 9 = .ok (.if_icmp .ge 23, 3) := by decide +kernel
theorem zd_LassoFinderModel_packed_12 : decode prog_14_method_28_code 12 = .ok (.lload_n 1, 1) := by decide +kernel
theorem zd_LassoFinderModel_packed_13 : decode prog_14_method_28_code 13 = .ok (.aload_n 0, 1) := by decide +kernel
theorem zd_LassoFinderModel_packed_14 : decode prog_14_method_28_code 14 = .ok (.getfield 130, 3) := by decide +kernel
theorem zd_LassoFinderModel_packed_17 : decode prog_14_method_28_code 17 = .ok (.iload_n 3, 1) := by decide +kernel
theorem zd_LassoFinderModel_packed_18 : decode prog_14_method_28_code 18 = .ok (.iaload, 1) := by decide +kernel
theorem zd_LassoFinderModel_packed_19 : decode prog_14_method_28_code 19 = .ok (.i2l, 1) := by decide +kernel
theorem zd_LassoFinderModel_packed_20 : decode prog_14_method_28_code 20 = .ok (.iconst 3, 1) := by decide +kernel
theorem zd_LassoFinderModel_packed_21 : decode prog_14_method_28_code 21 = .ok (.iload_n 3, 1) := by decide +kernel
theorem zd_LassoFinderModel_packed_22 : decode prog_14_method_28_code 22 = .ok (.imul, 1) := by decide +kernel
theorem zd_LassoFinderModel_packed_23 : decode prog_14_method_28_code 23 = .ok (.lshl, 1) := by decide +kernel
theorem zd_LassoFinderModel_packed_24 : decode prog_14_method_28_code 24 = .ok (.lor, 1) := by decide +kernel
theorem zd_LassoFinderModel_packed_25 : decode prog_14_method_28_code 25 = .ok (.lstore_n 1, 1) := by decide +kernel
theorem zd_LassoFinderModel_packed_26 : decode prog_14_method_28_code 26 = .ok (.iinc 3 1, 3) := by decide +kernel
theorem zd_LassoFinderModel_packed_29 : decode prog_14_method_28_code 29 = .ok (.goto (-25), 3) := by decide +kernel
theorem zd_LassoFinderModel_packed_32 : decode prog_14_method_28_code 32 = .ok (.iconst 0, 1) := by decide +kernel
theorem zd_LassoFinderModel_packed_33 : decode prog_14_method_28_code 33 = .ok (.istore_n 3, 1) := by decide +kernel
theorem zd_LassoFinderModel_packed_34 : decode prog_14_method_28_code 34 = .ok (.iload_n 3, 1) := by decide +kernel
theorem zd_LassoFinderModel_packed_35 : decode prog_14_method_28_code 35 = .ok (.aload_n 0, 1) := by decide +kernel
theorem zd_LassoFinderModel_packed_36 : decode prog_14_method_28_code 36 = .ok (.getfield 238, 3) := by decide +kernel
theorem zd_LassoFinderModel_packed_39 : decode prog_14_method_28_code 39 = .ok (.if_icmp .ge 75, 3) := by decide +kernel
theorem zd_LassoFinderModel_packed_42 : decode prog_14_method_28_code 42 = .ok (.lload_n 1, 1) := by decide +kernel
theorem zd_LassoFinderModel_packed_43 : decode prog_14_method_28_code 43 = .ok (.aload_n 0, 1) := by decide +kernel
theorem zd_LassoFinderModel_packed_44 : decode prog_14_method_28_code 44 = .ok (.getfield 133, 3) := by decide +kernel
theorem zd_LassoFinderModel_packed_47 : decode prog_14_method_28_code 47 = .ok (.iload_n 3, 1) := by decide +kernel
theorem zd_LassoFinderModel_packed_48 : decode prog_14_method_28_code 48 = .ok (.iaload, 1) := by decide +kernel
theorem zd_LassoFinderModel_packed_49 : decode prog_14_method_28_code 49 = .ok (.i2l, 1) := by decide +kernel
theorem zd_LassoFinderModel_packed_50 : decode prog_14_method_28_code 50 = .ok (.bipush 18, 2) := by decide +kernel
theorem zd_LassoFinderModel_packed_52 : decode prog_14_method_28_code 52 = .ok (.bipush 11, 2) := by decide +kernel
theorem zd_LassoFinderModel_packed_54 : decode prog_14_method_28_code 54 = .ok (.iload_n 3, 1) := by decide +kernel
theorem zd_LassoFinderModel_packed_55 : decode prog_14_method_28_code 55 = .ok (.imul, 1) := by decide +kernel
theorem zd_LassoFinderModel_packed_56 : decode prog_14_method_28_code 56 = .ok (.iadd, 1) := by decide +kernel
theorem zd_LassoFinderModel_packed_57 : decode prog_14_method_28_code 57 = .ok (.lshl, 1) := by decide +kernel
theorem zd_LassoFinderModel_packed_58 : decode prog_14_method_28_code 58 = .ok (.lor, 1) := by decide +kernel
theorem zd_LassoFinderModel_packed_59 : decode prog_14_method_28_code 59 = .ok (.lstore_n 1, 1) := by decide +kernel
theorem zd_LassoFinderModel_packed_60 : decode prog_14_method_28_code 60 = .ok (.iconst 0, 1) := by decide +kernel
theorem zd_LassoFinderModel_packed_61 : decode prog_14_method_28_code 61 = .ok (.istore 4, 2) := by decide +kernel
theorem zd_LassoFinderModel_packed_63 : decode prog_14_method_28_code 63 = .ok (.iload 4, 2) := by decide +kernel
theorem zd_LassoFinderModel_packed_65 : decode prog_14_method_28_code 65 = .ok (.aload_n 0, 1) := by decide +kernel
theorem zd_LassoFinderModel_packed_66 : decode prog_14_method_28_code 66 = .ok (.getfield 133, 3) := by decide +kernel
theorem zd_LassoFinderModel_packed_69 : decode prog_14_method_28_code 69 = .ok (.iload_n 3, 1) := by decide +kernel
theorem zd_LassoFinderModel_packed_70 : decode prog_14_method_28_code 70 = .ok (.iaload, 1) := by decide +kernel
theorem zd_LassoFinderModel_packed_71 : decode prog_14_method_28_code 71 = .ok (.if_icmp .ge 37, 3) := by decide +kernel
theorem zd_LassoFinderModel_packed_74 : decode prog_14_method_28_code 74 = .ok (.lload_n 1, 1) := by decide +kernel
theorem zd_LassoFinderModel_packed_75 : decode prog_14_method_28_code 75 = .ok (.aload_n 0, 1) := by decide +kernel
theorem zd_LassoFinderModel_packed_76 : decode prog_14_method_28_code 76 = .ok (.getfield 136, 3) := by decide +kernel
theorem zd_LassoFinderModel_packed_79 : decode prog_14_method_28_code 79 = .ok (.iconst 3, 1) := by decide +kernel
theorem zd_LassoFinderModel_packed_80 : decode prog_14_method_28_code 80 = .ok (.iload_n 3, 1) := by decide +kernel
theorem zd_LassoFinderModel_packed_81 : decode prog_14_method_28_code 81 = .ok (.imul, 1) := by decide +kernel
theorem zd_LassoFinderModel_packed_82 : decode prog_14_method_28_code 82 = .ok (.iload 4, 2) := by decide +kernel
theorem zd_LassoFinderModel_packed_84 : decode prog_14_method_28_code 84 = .ok (.iadd, 1) := by decide +kernel
theorem zd_LassoFinderModel_packed_85 : decode prog_14_method_28_code 85 = .ok (.iaload, 1) := by decide +kernel
theorem zd_LassoFinderModel_packed_86 : decode prog_14_method_28_code 86 = .ok (.i2l, 1) := by decide +kernel
theorem zd_LassoFinderModel_packed_87 : decode prog_14_method_28_code 87 = .ok (.bipush 20, 2) := by decide +kernel
theorem zd_LassoFinderModel_packed_89 : decode prog_14_method_28_code 89 = .ok (.bipush 11, 2) := by decide +kernel
theorem zd_LassoFinderModel_packed_91 : decode prog_14_method_28_code 91 = .ok (.iload_n 3, 1) := by decide +kernel
theorem zd_LassoFinderModel_packed_92 : decode prog_14_method_28_code 92 = .ok (.imul, 1) := by decide +kernel
theorem zd_LassoFinderModel_packed_93 : decode prog_14_method_28_code 93 = .ok (.iadd, 1) := by decide +kernel
theorem zd_LassoFinderModel_packed_94 : decode prog_14_method_28_code 94 = .ok (.iconst 3, 1) := by decide +kernel
theorem zd_LassoFinderModel_packed_95 : decode prog_14_method_28_code 95 = .ok (.iload 4, 2) := by decide +kernel
theorem zd_LassoFinderModel_packed_97 : decode prog_14_method_28_code 97 = .ok (.imul, 1) := by decide +kernel
theorem zd_LassoFinderModel_packed_98 : decode prog_14_method_28_code 98 = .ok (.iadd, 1) := by decide +kernel
theorem zd_LassoFinderModel_packed_99 : decode prog_14_method_28_code 99 = .ok (.lshl, 1) := by decide +kernel
theorem zd_LassoFinderModel_packed_100 : decode prog_14_method_28_code 100 = .ok (.lor, 1) := by decide +kernel
theorem zd_LassoFinderModel_packed_101 : decode prog_14_method_28_code 101 = .ok (.lstore_n 1, 1) := by decide +kernel
theorem zd_LassoFinderModel_packed_102 : decode prog_14_method_28_code 102 = .ok (.iinc 4 1, 3) := by decide +kernel
theorem zd_LassoFinderModel_packed_105 : decode prog_14_method_28_code 105 = .ok (.goto (-42), 3) := by decide +kernel
theorem zd_LassoFinderModel_packed_108 : decode prog_14_method_28_code 108 = .ok (.iinc 3 1, 3) := by decide +kernel
theorem zd_LassoFinderModel_packed_111 : decode prog_14_method_28_code 111 = .ok (.goto (-77), 3) := by decide +kernel
theorem zd_LassoFinderModel_packed_114 : decode prog_14_method_28_code 114 = .ok (.iconst 0, 1) := by decide +kernel
theorem zd_LassoFinderModel_packed_115 : decode prog_14_method_28_code 115 = .ok (.istore_n 3, 1) := by decide +kernel
theorem zd_LassoFinderModel_packed_116 : decode prog_14_method_28_code 116 = .ok (.iload_n 3, 1) := by decide +kernel
theorem zd_LassoFinderModel_packed_117 : decode prog_14_method_28_code 117 = .ok (.aload_n 0, 1) := by decide +kernel
theorem zd_LassoFinderModel_packed_118 : decode prog_14_method_28_code 118 = .ok (.getfield 254, 3) := by decide +kernel
theorem zd_LassoFinderModel_packed_121 : decode prog_14_method_28_code 121 = .ok (.if_icmp .ge 26, 3) := by decide +kernel
theorem zd_LassoFinderModel_packed_124 : decode prog_14_method_28_code 124 = .ok (.lload_n 1, 1) := by decide +kernel
theorem zd_LassoFinderModel_packed_125 : decode prog_14_method_28_code 125 = .ok (.aload_n 0, 1) := by decide +kernel
theorem zd_LassoFinderModel_packed_126 : decode prog_14_method_28_code 126 = .ok (.getfield 139, 3) := by decide +kernel
theorem zd_LassoFinderModel_packed_129 : decode prog_14_method_28_code 129 = .ok (.iload_n 3, 1) := by decide +kernel
theorem zd_LassoFinderModel_packed_130 : decode prog_14_method_28_code 130 = .ok (.iaload, 1) := by decide +kernel
theorem zd_LassoFinderModel_packed_131 : decode prog_14_method_28_code 131 = .ok (.i2l, 1) := by decide +kernel
theorem zd_LassoFinderModel_packed_132 : decode prog_14_method_28_code 132 = .ok (.bipush 40, 2) := by decide +kernel
theorem zd_LassoFinderModel_packed_134 : decode prog_14_method_28_code 134 = .ok (.iconst 5, 1) := by decide +kernel
theorem zd_LassoFinderModel_packed_135 : decode prog_14_method_28_code 135 = .ok (.iload_n 3, 1) := by decide +kernel
theorem zd_LassoFinderModel_packed_136 : decode prog_14_method_28_code 136 = .ok (.imul, 1) := by decide +kernel
theorem zd_LassoFinderModel_packed_137 : decode prog_14_method_28_code 137 = .ok (.iadd, 1) := by decide +kernel
theorem zd_LassoFinderModel_packed_138 : decode prog_14_method_28_code 138 = .ok (.lshl, 1) := by decide +kernel
theorem zd_LassoFinderModel_packed_139 : decode prog_14_method_28_code 139 = .ok (.lor, 1) := by decide +kernel
theorem zd_LassoFinderModel_packed_140 : decode prog_14_method_28_code 140 = .ok (.lstore_n 1, 1) := by decide +kernel
theorem zd_LassoFinderModel_packed_141 : decode prog_14_method_28_code 141 = .ok (.iinc 3 1, 3) := by decide +kernel
theorem zd_LassoFinderModel_packed_144 : decode prog_14_method_28_code 144 = .ok (.goto (-28), 3) := by decide +kernel
theorem zd_LassoFinderModel_packed_147 : decode prog_14_method_28_code 147 = .ok (.lload_n 1, 1) := by decide +kernel
theorem zd_LassoFinderModel_packed_148 : decode prog_14_method_28_code 148 = .ok (.aload_n 0, 1) := by decide +kernel
theorem zd_LassoFinderModel_packed_149 : decode prog_14_method_28_code 149 = .ok (.getfield 301, 3) := by decide +kernel
theorem zd_LassoFinderModel_packed_152 : decode prog_14_method_28_code 152 = .ok (.iconst 1, 1) := by decide +kernel
theorem zd_LassoFinderModel_packed_153 : decode prog_14_method_28_code 153 = .ok (.iadd, 1) := by decide +kernel
theorem zd_LassoFinderModel_packed_154 : decode prog_14_method_28_code 154 = .ok (.i2l, 1) := by decide +kernel
theorem zd_LassoFinderModel_packed_155 : decode prog_14_method_28_code 155 = .ok (.bipush 60, 2) := by decide +kernel
theorem zd_LassoFinderModel_packed_157 : decode prog_14_method_28_code 157 = .ok (.lshl, 1) := by decide +kernel
theorem zd_LassoFinderModel_packed_158 : decode prog_14_method_28_code 158 = .ok (.lor, 1) := by decide +kernel
theorem zd_LassoFinderModel_packed_159 : decode prog_14_method_28_code 159 = .ok (.lreturn, 1) := by decide +kernel
theorem zd_LassoFinderModel_unpack_0 : decode prog_14_method_29_code 0 = .ok (.iconst 0, 1) := by decide +kernel
theorem zd_LassoFinderModel_unpack_1 : decode prog_14_method_29_code 1 = .ok (.istore_n 3, 1) := by decide +kernel
theorem zd_LassoFinderModel_unpack_2 : decode prog_14_method_29_code 2 = .ok (.iload_n 3, 1) := by decide +kernel
theorem zd_LassoFinderModel_unpack_3 : decode prog_14_method_29_code 3 = .ok (.aload_n 0, 1) := by decide +kernel
theorem zd_LassoFinderModel_unpack_4 : decode prog_14_method_29_code 4 = .ok (.getfield 241, 3) := by decide +kernel
theorem zd_LassoFinderModel_unpack_7 : decode prog_14_method_29_code 7 = .ok (.if_icmp .ge 25, 3) := by decide +kernel
theorem zd_LassoFinderModel_unpack_10 : decode prog_14_method_29_code 10 = .ok (.aload_n 0, 1) := by decide +kernel
theorem zd_LassoFinderModel_unpack_11 : decode prog_14_method_29_code 11 = .ok (.getfield 130, 3) := by decide +kernel
theorem zd_LassoFinderModel_unpack_14 : decode prog_14_method_29_code 14 = .ok (.iload_n 3, 1) := by decide +kernel
theorem zd_LassoFinderModel_unpack_15 : decode prog_14_method_29_code 15 = .ok (.lload_n 1, 1) := by decide +kernel
theorem zd_LassoFinderModel_unpack_16 : decode prog_14_method_29_code 16 = .ok (.iconst 3, 1) := by decide +kernel
theorem zd_LassoFinderModel_unpack_17 : decode prog_14_method_29_code 17 = .ok (.iload_n 3, 1) := by decide +kernel
theorem zd_LassoFinderModel_unpack_18 : decode prog_14_method_29_code 18 = .ok (.imul, 1) := by decide +kernel
theorem zd_LassoFinderModel_unpack_19 : decode prog_14_method_29_code 19 = .ok (.lshr, 1) := by decide +kernel
theorem zd_LassoFinderModel_unpack_20 : decode prog_14_method_29_code 20 = .ok (.ldc2_w 304, 3) := by decide +kernel
theorem zd_LassoFinderModel_unpack_23 : decode prog_14_method_29_code 23 = .ok (.land, 1) := by decide +kernel
theorem zd_LassoFinderModel_unpack_24 : decode prog_14_method_29_code 24 = .ok (.l2i, 1) := by decide +kernel
theorem zd_LassoFinderModel_unpack_25 : decode prog_14_method_29_code 25 = .ok (.iastore, 1) := by decide +kernel
theorem zd_LassoFinderModel_unpack_26 : decode prog_14_method_29_code 26 = .ok (.iinc 3 1, 3) := by decide +kernel
theorem zd_LassoFinderModel_unpack_29 : decode prog_14_method_29_code 29 = .ok (.goto (-27), 3) := by decide +kernel
theorem zd_LassoFinderModel_unpack_32 : decode prog_14_method_29_code 32 = .ok (.iconst 0, 1) := by decide +kernel
theorem zd_LassoFinderModel_unpack_33 : decode prog_14_method_29_code 33 = .ok (.istore_n 3, 1) := by decide +kernel
theorem zd_LassoFinderModel_unpack_34 : decode prog_14_method_29_code 34 = .ok (.iload_n 3, 1) := by decide +kernel
theorem zd_LassoFinderModel_unpack_35 : decode prog_14_method_29_code 35 = .ok (.aload_n 0, 1) := by decide +kernel
theorem zd_LassoFinderModel_unpack_36 : decode prog_14_method_29_code 36 = .ok (.getfield 238, 3) := by decide +kernel
theorem zd_LassoFinderModel_unpack_39 : decode prog_14_method_29_code 39 = .ok (.if_icmp .ge 74, 3) := by decide +kernel
theorem zd_LassoFinderModel_unpack_42 : decode prog_14_method_29_code 42 = .ok (.aload_n 0, 1) := by decide +kernel
theorem zd_LassoFinderModel_unpack_43 : decode prog_14_method_29_code 43 = .ok (.getfield 133, 3) := by decide +kernel
theorem zd_LassoFinderModel_unpack_46 : decode prog_14_method_29_code 46 = .ok (.iload_n 3, 1) := by decide +kernel
theorem zd_LassoFinderModel_unpack_47 : decode prog_14_method_29_code 47 = .ok (.lload_n 1, 1) := by decide +kernel
theorem zd_LassoFinderModel_unpack_48 : decode prog_14_method_29_code 48 = .ok (.bipush 18, 2) := by decide +kernel
theorem zd_LassoFinderModel_unpack_50 : decode prog_14_method_29_code 50 = .ok (.bipush 11, 2) := by decide +kernel
theorem zd_LassoFinderModel_unpack_52 : decode prog_14_method_29_code 52 = .ok (.iload_n 3, 1) := by decide +kernel
theorem zd_LassoFinderModel_unpack_53 : decode prog_14_method_29_code 53 = .ok (.imul, 1) := by decide +kernel
theorem zd_LassoFinderModel_unpack_54 : decode prog_14_method_29_code 54 = .ok (.iadd, 1) := by decide +kernel
theorem zd_LassoFinderModel_unpack_55 : decode prog_14_method_29_code 55 = .ok (.lshr, 1) := by decide +kernel
theorem zd_LassoFinderModel_unpack_56 : decode prog_14_method_29_code 56 = .ok (.ldc2_w 306, 3) := by decide +kernel
theorem zd_LassoFinderModel_unpack_59 : decode prog_14_method_29_code 59 = .ok (.land, 1) := by decide +kernel
theorem zd_LassoFinderModel_unpack_60 : decode prog_14_method_29_code 60 = .ok (.l2i, 1) := by decide +kernel
theorem zd_LassoFinderModel_unpack_61 : decode prog_14_method_29_code 61 = .ok (.iastore, 1) := by decide +kernel
theorem zd_LassoFinderModel_unpack_62 : decode prog_14_method_29_code 62 = .ok (.iconst 0, 1) := by decide +kernel
theorem zd_LassoFinderModel_unpack_63 : decode prog_14_method_29_code 63 = .ok (.istore 4, 2) := by decide +kernel
theorem zd_LassoFinderModel_unpack_65 : decode prog_14_method_29_code 65 = .ok (.iload 4, 2) := by decide +kernel
theorem zd_LassoFinderModel_unpack_67 : decode prog_14_method_29_code 67 = .ok (.iconst 3, 1) := by decide +kernel
theorem zd_LassoFinderModel_unpack_68 : decode prog_14_method_29_code 68 = .ok (.if_icmp .ge 39, 3) := by decide +kernel
theorem zd_LassoFinderModel_unpack_71 : decode prog_14_method_29_code 71 = .ok (.aload_n 0, 1) := by decide +kernel
theorem zd_LassoFinderModel_unpack_72 : decode prog_14_method_29_code 72 = .ok (.getfield 136, 3) := by decide +kernel
theorem zd_LassoFinderModel_unpack_75 : decode prog_14_method_29_code 75 = .ok (.iconst 3, 1) := by decide +kernel
theorem zd_LassoFinderModel_unpack_76 : decode prog_14_method_29_code 76 = .ok (.iload_n 3, 1) := by decide +kernel
theorem zd_LassoFinderModel_unpack_77 : decode prog_14_method_29_code 77 = .ok (.imul, 1) := by decide +kernel
theorem zd_LassoFinderModel_unpack_78 : decode prog_14_method_29_code 78 = .ok (.iload 4, 2) := by decide +kernel
theorem zd_LassoFinderModel_unpack_80 : decode prog_14_method_29_code 80 = .ok (.iadd, 1) := by decide +kernel
theorem zd_LassoFinderModel_unpack_81 : decode prog_14_method_29_code 81 = .ok (.lload_n 1, 1) := by decide +kernel
theorem zd_LassoFinderModel_unpack_82 : decode prog_14_method_29_code 82 = .ok (.bipush 20, 2) := by decide +kernel
theorem zd_LassoFinderModel_unpack_84 : decode prog_14_method_29_code 84 = .ok (.bipush 11, 2) := by decide +kernel
theorem zd_LassoFinderModel_unpack_86 : decode prog_14_method_29_code 86 = .ok (.iload_n 3, 1) := by decide +kernel
theorem zd_LassoFinderModel_unpack_87 : decode prog_14_method_29_code 87 = .ok (.imul, 1) := by decide +kernel
theorem zd_LassoFinderModel_unpack_88 : decode prog_14_method_29_code 88 = .ok (.iadd, 1) := by decide +kernel
theorem zd_LassoFinderModel_unpack_89 : decode prog_14_method_29_code 89 = .ok (.iconst 3, 1) := by decide +kernel
theorem zd_LassoFinderModel_unpack_90 : decode prog_14_method_29_code 90 = .ok (.iload 4, 2) := by decide +kernel
theorem zd_LassoFinderModel_unpack_92 : decode prog_14_method_29_code 92 = .ok (.imul, 1) := by decide +kernel
theorem zd_LassoFinderModel_unpack_93 : decode prog_14_method_29_code 93 = .ok (.iadd, 1) := by decide +kernel
theorem zd_LassoFinderModel_unpack_94 : decode prog_14_method_29_code 94 = .ok (.lshr, 1) := by decide +kernel
theorem zd_LassoFinderModel_unpack_95 : decode prog_14_method_29_code 95 = .ok (.ldc2_w 304, 3) := by decide +kernel
theorem zd_LassoFinderModel_unpack_98 : decode prog_14_method_29_code 98 = .ok (.land, 1) := by decide +kernel
theorem zd_LassoFinderModel_unpack_99 : decode prog_14_method_29_code 99 = .ok (.l2i, 1) := by decide +kernel
theorem zd_LassoFinderModel_unpack_100 : decode prog_14_method_29_code 100 = .ok (.iastore, 1) := by decide +kernel
theorem zd_LassoFinderModel_unpack_101 : decode prog_14_method_29_code 101 = .ok (.iinc 4 1, 3) := by decide +kernel
theorem zd_LassoFinderModel_unpack_104 : decode prog_14_method_29_code 104 = .ok (.goto (-39), 3) := by decide +kernel
theorem zd_LassoFinderModel_unpack_107 : decode prog_14_method_29_code 107 = .ok (.iinc 3 1, 3) := by decide +kernel
theorem zd_LassoFinderModel_unpack_110 : decode prog_14_method_29_code 110 = .ok (.goto (-76), 3) := by decide +kernel
theorem zd_LassoFinderModel_unpack_113 : decode prog_14_method_29_code 113 = .ok (.iconst 0, 1) := by decide +kernel
theorem zd_LassoFinderModel_unpack_114 : decode prog_14_method_29_code 114 = .ok (.istore_n 3, 1) := by decide +kernel
theorem zd_LassoFinderModel_unpack_115 : decode prog_14_method_29_code 115 = .ok (.iload_n 3, 1) := by decide +kernel
theorem zd_LassoFinderModel_unpack_116 : decode prog_14_method_29_code 116 = .ok (.aload_n 0, 1) := by decide +kernel
theorem zd_LassoFinderModel_unpack_117 : decode prog_14_method_29_code 117 = .ok (.getfield 254, 3) := by decide +kernel
theorem zd_LassoFinderModel_unpack_120 : decode prog_14_method_29_code 120 = .ok (.if_icmp .ge 28, 3) := by decide +kernel
theorem zd_LassoFinderModel_unpack_123 : decode prog_14_method_29_code 123 = .ok (.aload_n 0, 1) := by decide +kernel
theorem zd_LassoFinderModel_unpack_124 : decode prog_14_method_29_code 124 = .ok (.getfield 139, 3) := by decide +kernel
theorem zd_LassoFinderModel_unpack_127 : decode prog_14_method_29_code 127 = .ok (.iload_n 3, 1) := by decide +kernel
theorem zd_LassoFinderModel_unpack_128 : decode prog_14_method_29_code 128 = .ok (.lload_n 1, 1) := by decide +kernel
theorem zd_LassoFinderModel_unpack_129 : decode prog_14_method_29_code 129 = .ok (.bipush 40, 2) := by decide +kernel
theorem zd_LassoFinderModel_unpack_131 : decode prog_14_method_29_code 131 = .ok (.iconst 5, 1) := by decide +kernel
theorem zd_LassoFinderModel_unpack_132 : decode prog_14_method_29_code 132 = .ok (.iload_n 3, 1) := by decide +kernel
theorem zd_LassoFinderModel_unpack_133 : decode prog_14_method_29_code 133 = .ok (.imul, 1) := by decide +kernel
theorem zd_LassoFinderModel_unpack_134 : decode prog_14_method_29_code 134 = .ok (.iadd, 1) := by decide +kernel
theorem zd_LassoFinderModel_unpack_135 : decode prog_14_method_29_code 135 = .ok (.lshr, 1) := by decide +kernel
theorem zd_LassoFinderModel_unpack_136 : decode prog_14_method_29_code 136 = .ok (.ldc2_w 308, 3) := by decide +kernel
theorem zd_LassoFinderModel_unpack_139 : decode prog_14_method_29_code 139 = .ok (.land, 1) := by decide +kernel
theorem zd_LassoFinderModel_unpack_140 : decode prog_14_method_29_code 140 = .ok (.l2i, 1) := by decide +kernel
theorem zd_LassoFinderModel_unpack_141 : decode prog_14_method_29_code 141 = .ok (.iastore, 1) := by decide +kernel
theorem zd_LassoFinderModel_unpack_142 : decode prog_14_method_29_code 142 = .ok (.iinc 3 1, 3) := by decide +kernel
theorem zd_LassoFinderModel_unpack_145 : decode prog_14_method_29_code 145 = .ok (.goto (-30), 3) := by decide +kernel
theorem zd_LassoFinderModel_unpack_148 : decode prog_14_method_29_code 148 = .ok (.aload_n 0, 1) := by decide +kernel
theorem zd_LassoFinderModel_unpack_149 : decode prog_14_method_29_code 149 = .ok (.lload_n 1, 1) := by decide +kernel
theorem zd_LassoFinderModel_unpack_150 : decode prog_14_method_29_code 150 = .ok (.bipush 60, 2) := by decide +kernel
theorem zd_LassoFinderModel_unpack_152 : decode prog_14_method_29_code 152 = .ok (.lshr, 1) := by decide +kernel
theorem zd_LassoFinderModel_unpack_153 : decode prog_14_method_29_code 153 = .ok (.ldc2_w 304, 3) := by decide +kernel
theorem zd_LassoFinderModel_unpack_156 : decode prog_14_method_29_code 156 = .ok (.land, 1) := by decide +kernel
theorem zd_LassoFinderModel_unpack_157 : decode prog_14_method_29_code 157 = .ok (.l2i, 1) := by decide +kernel
theorem zd_LassoFinderModel_unpack_158 : decode prog_14_method_29_code 158 = .ok (.iconst 1, 1) := by decide +kernel
theorem zd_LassoFinderModel_unpack_159 : decode prog_14_method_29_code 159 = .ok (.isub, 1) := by decide +kernel
theorem zd_LassoFinderModel_unpack_160 : decode prog_14_method_29_code 160 = .ok (.putfield 301, 3) := by decide +kernel
theorem zd_LassoFinderModel_unpack_163 : decode prog_14_method_29_code 163 = .ok (.return_, 1) := by decide +kernel
theorem zd_LassoFinderModel_worth_0 : decode prog_14_method_13_code 0 = .ok (.iconst 0, 1) := by decide +kernel
theorem zd_LassoFinderModel_worth_1 : decode prog_14_method_13_code 1 = .ok (.istore_n 3, 1) := by decide +kernel
theorem zd_LassoFinderModel_worth_2 : decode prog_14_method_13_code 2 = .ok (.iload_n 1, 1) := by decide +kernel
theorem zd_LassoFinderModel_worth_3 : decode prog_14_method_13_code 3 = .ok (.istore 4, 2) := by decide +kernel
theorem zd_LassoFinderModel_worth_5 : decode prog_14_method_13_code 5 = .ok (.iload 4, 2) := by decide +kernel
theorem zd_LassoFinderModel_worth_7 : decode prog_14_method_13_code 7 = .ok (.iload_n 2, 1) := by decide +kernel
theorem zd_LassoFinderModel_worth_8 : decode prog_14_method_13_code 8 = .ok (.if_icmp .ge 221, 3) := by decide +kernel
theorem zd_LassoFinderModel_worth_11 : decode prog_14_method_13_code 11 = .ok (.aload_n 0, 1) := by decide +kernel
theorem zd_LassoFinderModel_worth_12 : decode prog_14_method_13_code 12 = .ok (.getfield 91, 3) := by decide +kernel
theorem zd_LassoFinderModel_worth_15 : decode prog_14_method_13_code 15 = .ok (.iload 4, 2) := by decide +kernel
theorem zd_LassoFinderModel_worth_17 : decode prog_14_method_13_code 17 = .ok (.iaload, 1) := by decide +kernel
theorem zd_LassoFinderModel_worth_18 : decode prog_14_method_13_code 18 = .ok (.istore 5, 2) := by decide +kernel
theorem zd_LassoFinderModel_worth_20 : decode prog_14_method_13_code 20 = .ok (.iload 5, 2) := by decide +kernel
theorem zd_LassoFinderModel_worth_22 : decode prog_14_method_13_code 22 = .ok (.bipush 8, 2) := by decide +kernel
theorem zd_LassoFinderModel_worth_24 : decode prog_14_method_13_code 24 = .ok (.if_icmp .ge 17, 3) := by decide +kernel
theorem zd_LassoFinderModel_worth_27 : decode prog_14_method_13_code 27 = .ok (.aload_n 0, 1) := by decide +kernel
theorem zd_LassoFinderModel_worth_28 : decode prog_14_method_13_code 28 = .ok (.getfield 142, 3) := by decide +kernel
theorem zd_LassoFinderModel_worth_31 : decode prog_14_method_13_code 31 = .ok (.iload_n 3, 1) := by decide +kernel
theorem zd_LassoFinderModel_worth_32 : decode prog_14_method_13_code 32 = .ok (.iload 5, 2) := by decide +kernel
theorem zd_LassoFinderModel_worth_34 : decode prog_14_method_13_code 34 = .ok (.iastore, 1) := by decide +kernel
theorem zd_LassoFinderModel_worth_35 : decode prog_14_method_13_code 35 = .ok (.iinc 3 1, 3) := by decide +kernel
theorem zd_LassoFinderModel_worth_38 : decode prog_14_method_13_code 38 = .ok (.goto 185, 3) := by decide +kernel
theorem zd_LassoFinderModel_worth_41 : decode prog_14_method_13_code 41 = .ok (.iload 5, 2) := by decide +kernel
theorem zd_LassoFinderModel_worth_43 : decode prog_14_method_13_code 43 = .ok (.bipush 16, 2) := by decide +kernel
theorem zd_LassoFinderModel_worth_45 : decode prog_14_method_13_code 45 = .ok (.if_icmp .ge 61, 3) := by decide +kernel
theorem zd_LassoFinderModel_worth_48 : decode prog_14_method_13_code 48 = .ok (.aload_n 0, 1) := by decide +kernel
theorem zd_LassoFinderModel_worth_49 : decode prog_14_method_13_code 49 = .ok (.getfield 142, 3) := by decide +kernel
theorem zd_LassoFinderModel_worth_52 : decode prog_14_method_13_code 52 = .ok (.iload_n 3, 1) := by decide +kernel
theorem zd_LassoFinderModel_worth_53 : decode prog_14_method_13_code 53 = .ok (.aload_n 0, 1) := by decide +kernel
theorem zd_LassoFinderModel_worth_54 : decode prog_14_method_13_code 54 = .ok (.getfield 17, 3) := by decide +kernel
theorem zd_LassoFinderModel_worth_57 : decode prog_14_method_13_code 57 = .ok (.iload 5, 2) := by decide +kernel
theorem zd_LassoFinderModel_worth_59 : decode prog_14_method_13_code 59 = .ok (.bipush 8, 2) := by decide +kernel
theorem zd_LassoFinderModel_worth_61 : decode prog_14_method_13_code 61 = .ok (.isub, 1) := by decide +kernel
theorem zd_LassoFinderModel_worth_62 : decode prog_14_method_13_code 62 = .ok (.iaload, 1) := by decide +kernel
theorem zd_LassoFinderModel_worth_63 : decode prog_14_method_13_code 63 = .ok (.ifCond .lt 21, 3) := by decide +kernel
theorem zd_LassoFinderModel_worth_66 : decode prog_14_method_13_code 66 = .ok (.aload_n 0, 1) := by decide +kernel
theorem zd_LassoFinderModel_worth_67 : decode prog_14_method_13_code 67 = .ok (.getfield 130, 3) := by decide +kernel
theorem zd_LassoFinderModel_worth_70 : decode prog_14_method_13_code 70 = .ok (.aload_n 0, 1) := by decide +kernel
theorem zd_LassoFinderModel_worth_71 : decode prog_14_method_13_code 71 = .ok (.getfield 17, 3) := by decide +kernel
theorem zd_LassoFinderModel_worth_74 : decode prog_14_method_13_code 74 = .ok (.iload 5, 2) := by decide +kernel
theorem zd_LassoFinderModel_worth_76 : decode prog_14_method_13_code 76 = .ok (.bipush 8, 2) := by decide +kernel
theorem zd_LassoFinderModel_worth_78 : decode prog_14_method_13_code 78 = .ok (.isub, 1) := by decide +kernel
theorem zd_LassoFinderModel_worth_79 : decode prog_14_method_13_code 79 = .ok (.iaload, 1) := by decide +kernel
theorem zd_LassoFinderModel_worth_80 : decode prog_14_method_13_code 80 = .ok (.iaload, 1) := by decide +kernel
theorem zd_LassoFinderModel_worth_81 : decode prog_14_method_13_code 81 = .ok (.goto 18, 3) := by decide +kernel
theorem zd_LassoFinderModel_worth_84 : decode prog_14_method_13_code 84 = .ok (.aload_n 0, 1) := by decide +kernel
theorem zd_LassoFinderModel_worth_85 : decode prog_14_method_13_code 85 = .ok (.getfield 133, 3) := by decide +kernel
theorem zd_LassoFinderModel_worth_88 : decode prog_14_method_13_code 88 = .ok (.aload_n 0, 1) := by decide +kernel
theorem zd_LassoFinderModel_worth_89 : decode prog_14_method_13_code 89 = .ok (.getfield 20, 3) := by decide +kernel
theorem zd_LassoFinderModel_worth_92 : decode prog_14_method_13_code 92 = .ok (.iload 5, 2) := by decide +kernel
theorem zd_LassoFinderModel_worth_94 : decode prog_14_method_13_code 94 = .ok (.bipush 8, 2) := by decide +kernel
theorem zd_LassoFinderModel_worth_96 : decode prog_14_method_13_code 96 = .ok (.isub, 1) := by decide +kernel
theorem zd_LassoFinderModel_worth_97 : decode prog_14_method_13_code 97 = .ok (.iaload, 1) := by decide +kernel
theorem zd_LassoFinderModel_worth_98 : decode prog_14_method_13_code 98 = .ok (.iaload, 1) := by decide +kernel
theorem zd_LassoFinderModel_worth_99 : decode prog_14_method_13_code 99 = .ok (.iastore, 1) := by decide +kernel
theorem zd_LassoFinderModel_worth_100 : decode prog_14_method_13_code 100 = .ok (.iinc 3 1, 3) := by decide +kernel
theorem zd_LassoFinderModel_worth_103 : decode prog_14_method_13_code 103 = .ok (.goto 120, 3) := by decide +kernel
theorem zd_LassoFinderModel_worth_106 : decode prog_14_method_13_code 106 = .ok (.iinc 3 (-1), 3) := by decide +kernel
theorem zd_LassoFinderModel_worth_109 : decode prog_14_method_13_code 109 = .ok (.aload_n 0, 1) := by decide +kernel
theorem zd_LassoFinderModel_worth_110 : decode prog_14_method_13_code 110 = .ok (.getfield 142, 3) := by decide +kernel
theorem zd_LassoFinderModel_worth_113 : decode prog_14_method_13_code 113 = .ok (.iload_n 3, 1) := by decide +kernel
theorem zd_LassoFinderModel_worth_114 : decode prog_14_method_13_code 114 = .ok (.iconst 1, 1) := by decide +kernel
theorem zd_LassoFinderModel_worth_115 : decode prog_14_method_13_code 115 = .ok (.isub, 1) := by decide +kernel
theorem zd_LassoFinderModel_worth_116 : decode prog_14_method_13_code 116 = .ok (.iaload, 1) := by decide +kernel
theorem zd_LassoFinderModel_worth_117 : decode prog_14_method_13_code 117 = .ok (.istore 6, 2) := by decide +kernel
theorem zd_LassoFinderModel_worth_119 : decode prog_14_method_13_code 119 = .ok (.aload_n 0, 1) := by decide +kernel
theorem zd_LassoFinderModel_worth_120 : decode prog_14_method_13_code 120 = .ok (.getfield 142, 3) := by decide +kernel
theorem zd_LassoFinderModel_worth_123 : decode prog_14_method_13_code 123 = .ok (.iload_n 3, 1) := by decide +kernel
theorem zd_LassoFinderModel_worth_124 : decode prog_14_method_13_code 124 = .ok (.iaload, 1) := by decide +kernel
theorem zd_LassoFinderModel_worth_125 : decode prog_14_method_13_code 125 = .ok (.istore 7, 2) := by decide +kernel
theorem zd_LassoFinderModel_worth_127 : decode prog_14_method_13_code 127 = .ok (.aload_n 0, 1) := by decide +kernel
theorem zd_LassoFinderModel_worth_128 : decode prog_14_method_13_code 128 = .ok (.getfield 142, 3) := by decide +kernel
theorem zd_LassoFinderModel_worth_131 : decode prog_14_method_13_code 131 = .ok (.iload_n 3, 1) := by decide +kernel
theorem zd_LassoFinderModel_worth_132 : decode prog_14_method_13_code 132 = .ok (.iconst 1, 1) := by decide +kernel
theorem zd_LassoFinderModel_worth_133 : decode prog_14_method_13_code 133 = .ok (.isub, 1) := by decide +kernel
theorem zd_LassoFinderModel_worth_134 : decode prog_14_method_13_code 134 = .ok (.iload 5, 2) := by decide +kernel
theorem zd_LassoFinderModel_worth_136 : decode prog_14_method_13_code 136 = .ok (.bipush 16, 2) := by decide +kernel
theorem zd_LassoFinderModel_worth_138 : decode prog_14_method_13_code 138 = .ok (.if_icmp .ne 14, 3) := by decide +kernel
theorem zd_LassoFinderModel_worth_141 : decode prog_14_method_13_code 141 = .ok (.iload 6, 2) := by decide +kernel
theorem zd_LassoFinderModel_worth_143 : decode prog_14_method_13_code 143 = .ok (.iload 7, 2) := by decide +kernel
theorem zd_LassoFinderModel_worth_145 : decode prog_14_method_13_code 145 = .ok (.iadd, 1) := by decide +kernel
theorem zd_LassoFinderModel_worth_146 : decode prog_14_method_13_code 146 = .ok (.bipush 7, 2) := by decide +kernel
theorem zd_LassoFinderModel_worth_148 : decode prog_14_method_13_code 148 = .ok (.iand, 1) := by decide +kernel
theorem zd_LassoFinderModel_worth_149 : decode prog_14_method_13_code 149 = .ok (.goto 73, 3) := by decide +kernel
theorem zd_LassoFinderModel_worth_152 : decode prog_14_method_13_code 152 = .ok (.iload 5, 2) := by decide +kernel
theorem zd_LassoFinderModel_worth_154 : decode prog_14_method_13_code 154 = .ok (.bipush 17, 2) := by decide +kernel
theorem zd_LassoFinderModel_worth_156 : decode prog_14_method_13_code 156 = .ok (.if_icmp .ne 14, 3) := by decide +kernel
theorem zd_LassoFinderModel_worth_159 : decode prog_14_method_13_code 159 = .ok (.iload 6, 2) := by decide +kernel
theorem zd_LassoFinderModel_worth_161 : decode prog_14_method_13_code 161 = .ok (.iload 7, 2) := by decide +kernel
theorem zd_LassoFinderModel_worth_163 : decode prog_14_method_13_code 163 = .ok (.isub, 1) := by decide +kernel
theorem zd_LassoFinderModel_worth_164 : decode prog_14_method_13_code 164 = .ok (.bipush 7, 2) := by decide +kernel
theorem zd_LassoFinderModel_worth_166 : decode prog_14_method_13_code 166 = .ok (.iand, 1) := by decide +kernel
theorem zd_LassoFinderModel_worth_167 : decode prog_14_method_13_code 167 = .ok (.goto 55, 3) := by decide +kernel
theorem zd_LassoFinderModel_worth_170 : decode prog_14_method_13_code 170 = .ok (.iload 5, 2) := by decide +kernel
theorem zd_LassoFinderModel_worth_172 : decode prog_14_method_13_code 172 = .ok (.bipush 18, 2) := by decide +kernel
theorem zd_LassoFinderModel_worth_174 : decode prog_14_method_13_code 174 = .ok (.if_icmp .ne 14, 3) := by decide +kernel
theorem zd_LassoFinderModel_worth_177 : decode prog_14_method_13_code 177 = .ok (.iload 6, 2) := by decide +kernel
theorem zd_LassoFinderModel_worth_179 : decode prog_14_method_13_code 179 = .ok (.iload 7, 2) := by decide +kernel
theorem zd_LassoFinderModel_worth_181 : decode prog_14_method_13_code 181 = .ok (.imul, 1) := by decide +kernel
theorem zd_LassoFinderModel_worth_182 : decode prog_14_method_13_code 182 = .ok (.bipush 7, 2) := by decide +kernel
theorem zd_LassoFinderModel_worth_184 : decode prog_14_method_13_code 184 = .ok (.iand, 1) := by decide +kernel
theorem zd_LassoFinderModel_worth_185 : decode prog_14_method_13_code 185 = .ok (.goto 37, 3) := by decide +kernel
theorem zd_LassoFinderModel_worth_188 : decode prog_14_method_13_code 188 = .ok (.iload 5, 2) := by decide +kernel
theorem zd_LassoFinderModel_worth_190 : decode prog_14_method_13_code 190 = .ok (.bipush 19, 2) := by decide +kernel
theorem zd_LassoFinderModel_worth_192 : decode prog_14_method_13_code 192 = .ok (.if_icmp .ne 18, 3) := by decide +kernel
theorem zd_LassoFinderModel_worth_195 : decode prog_14_method_13_code 195 = .ok (.iload 6, 2) := by decide +kernel
theorem zd_LassoFinderModel_worth_197 : decode prog_14_method_13_code 197 = .ok (.iload 7, 2) := by decide +kernel
theorem zd_LassoFinderModel_worth_199 : decode prog_14_method_13_code 199 = .ok (.if_icmp .ne 7, 3) := by decide +kernel
theorem zd_LassoFinderModel_worth_202 : decode prog_14_method_13_code 202 = .ok (.iconst 1, 1) := by decide +kernel
theorem zd_LassoFinderModel_worth_203 : decode prog_14_method_13_code 203 = .ok (.goto 19, 3) := by decide +kernel
theorem zd_LassoFinderModel_worth_206 : decode prog_14_method_13_code 206 = .ok (.iconst 0, 1) := by decide +kernel
theorem zd_LassoFinderModel_worth_207 : decode prog_14_method_13_code 207 = .ok (.goto 15, 3) := by decide +kernel
theorem zd_LassoFinderModel_worth_210 : decode prog_14_method_13_code 210 = .ok (.iload 6, 2) := by decide +kernel
theorem zd_LassoFinderModel_worth_212 : decode prog_14_method_13_code 212 = .ok (.iload 7, 2) := by decide +kernel
theorem zd_LassoFinderModel_worth_214 : decode prog_14_method_13_code 214 = .ok (.if_icmp .ge 7, 3) := by decide +kernel
theorem zd_LassoFinderModel_worth_217 : decode prog_14_method_13_code 217 = .ok (.iconst 1, 1) := by decide +kernel
theorem zd_LassoFinderModel_worth_218 : decode prog_14_method_13_code 218 = .ok (.goto 4, 3) := by decide +kernel
theorem zd_LassoFinderModel_worth_221 : decode prog_14_method_13_code 221 = .ok (.iconst 0, 1) := by decide +kernel
theorem zd_LassoFinderModel_worth_222 : decode prog_14_method_13_code 222 = .ok (.iastore, 1) := by decide +kernel
theorem zd_LassoFinderModel_worth_223 : decode prog_14_method_13_code 223 = .ok (.iinc 4 1, 3) := by decide +kernel
theorem zd_LassoFinderModel_worth_226 : decode prog_14_method_13_code 226 = .ok (.goto (-221), 3) := by decide +kernel
theorem zd_LassoFinderModel_worth_229 : decode prog_14_method_13_code 229 = .ok (.aload_n 0, 1) := by decide +kernel
theorem zd_LassoFinderModel_worth_230 : decode prog_14_method_13_code 230 = .ok (.getfield 142, 3) := by decide +kernel
theorem zd_LassoFinderModel_worth_233 : decode prog_14_method_13_code 233 = .ok (.iconst 0, 1) := by decide +kernel
theorem zd_LassoFinderModel_worth_234 : decode prog_14_method_13_code 234 = .ok (.iaload, 1) := by decide +kernel
theorem zd_LassoFinderModel_worth_235 : decode prog_14_method_13_code 235 = .ok (.ireturn, 1) := by decide +kernel
def wb_LassoFinderModel_packed_116 (K116 : Int64 → Int32 → (Nat → Int32) → (Nat → Int64) → (Nat → Nat → Int32) → (Nat → Nat → Int64) → Prop) (Post : Int64 → (Nat → Int32) → (Nat → Int64) → (Nat → Nat → Int32) → (Nat → Nat → Int64) → Prop) (x1 : Int64) (x3 : Int32) (I : Nat → Int32) (J : Nat → Int64) (B : Nat → Nat → Int32) (D : Nat → Nat → Int64) : Prop :=
  (((I 10) ≤ x3 → ∀ z2 : Int32, z2 = ((I 17) + 1) → ∀ z3 : Int64, z3 = z2.toInt64 → ∀ z4 : Int64, z4 = (z3 <<< ((60 : Int32).toInt64 &&& 63)) → ∀ z5 : Int64, z5 = (x1 ||| z4) → Post z5 I J B D) ∧ (¬ (I 10) ≤ x3 → vp_in x3 4 ∧ ∀ z6 : Int32, z6 = ((B 39) x3.toNatClampNeg) → ∀ z7 : Int64, z7 = z6.toInt64 → ∀ z8 : Int32, z8 = (5 * x3) → ∀ z9 : Int32, z9 = (40 + z8) → ∀ z10 : Int64, z10 = (z7 <<< (z9.toInt64 &&& 63)) → ∀ z11 : Int64, z11 = (x1 ||| z10) → ∀ z12 : Int32, z12 = (x3 + 1) → K116 z11 z12 I J B D))
def wl_LassoFinderModel_packed_116 (Post : Int64 → (Nat → Int32) → (Nat → Int64) → (Nat → Nat → Int32) → (Nat → Nat → Int64) → Prop) (n : Nat) : Int64 → Int32 → (Nat → Int32) → (Nat → Int64) → (Nat → Nat → Int32) → (Nat → Nat → Int64) → Prop := Nat.rec (fun _ _ _ _ _ _ => False) (fun _ r => wb_LassoFinderModel_packed_116  r Post) n
def wb_LassoFinderModel_packed_63 (K63 : Int64 → Int32 → Int32 → (Nat → Int32) → (Nat → Int64) → (Nat → Nat → Int32) → (Nat → Nat → Int64) → Prop) (K34 : Int64 → Int32 → (Nat → Int32) → (Nat → Int64) → (Nat → Nat → Int32) → (Nat → Nat → Int64) → Prop) (Post : Int64 → (Nat → Int32) → (Nat → Int64) → (Nat → Nat → Int32) → (Nat → Nat → Int64) → Prop) (x1 : Int64) (x3 : Int32) (x4 : Int32) (I : Nat → Int32) (J : Nat → Int64) (B : Nat → Nat → Int32) (D : Nat → Nat → Int64) : Prop :=
  vp_in x3 2 ∧ ∀ z13 : Int32, z13 = ((B 37) x3.toNatClampNeg) → ((z13 ≤ x4 → ∀ z15 : Int32, z15 = (x3 + 1) → K34 x1 z15 I J B D) ∧ (¬ z13 ≤ x4 → ∀ z16 : Int32, z16 = (3 * x3) → ∀ z17 : Int32, z17 = (z16 + x4) → vp_in z17 6 ∧ ∀ z18 : Int32, z18 = ((B 38) z17.toNatClampNeg) → ∀ z19 : Int64, z19 = z18.toInt64 → ∀ z20 : Int32, z20 = (11 * x3) → ∀ z21 : Int32, z21 = (20 + z20) → ∀ z22 : Int32, z22 = (3 * x4) → ∀ z23 : Int32, z23 = (z21 + z22) → ∀ z24 : Int64, z24 = (z19 <<< (z23.toInt64 &&& 63)) → ∀ z25 : Int64, z25 = (x1 ||| z24) → ∀ z26 : Int32, z26 = (x4 + 1) → K63 z25 x3 z26 I J B D))
def wl_LassoFinderModel_packed_63 (K34 : Int64 → Int32 → (Nat → Int32) → (Nat → Int64) → (Nat → Nat → Int32) → (Nat → Nat → Int64) → Prop) (Post : Int64 → (Nat → Int32) → (Nat → Int64) → (Nat → Nat → Int32) → (Nat → Nat → Int64) → Prop) (n : Nat) : Int64 → Int32 → Int32 → (Nat → Int32) → (Nat → Int64) → (Nat → Nat → Int32) → (Nat → Nat → Int64) → Prop := Nat.rec (fun _ _ _ _ _ _ _ => False) (fun _ r => wb_LassoFinderModel_packed_63  r K34 Post) n
def wb_LassoFinderModel_packed_34 (K34 : Int64 → Int32 → (Nat → Int32) → (Nat → Int64) → (Nat → Nat → Int32) → (Nat → Nat → Int64) → Prop) (Post : Int64 → (Nat → Int32) → (Nat → Int64) → (Nat → Nat → Int32) → (Nat → Nat → Int64) → Prop) (x1 : Int64) (x3 : Int32) (I : Nat → Int32) (J : Nat → Int64) (B : Nat → Nat → Int32) (D : Nat → Nat → Int64) : Prop :=
  (((I 7) ≤ x3 → ∃ n : Nat, wl_LassoFinderModel_packed_116  Post n x1 0 I J B D) ∧ (¬ (I 7) ≤ x3 → vp_in x3 2 ∧ ∀ z28 : Int32, z28 = ((B 37) x3.toNatClampNeg) → ∀ z29 : Int64, z29 = z28.toInt64 → ∀ z30 : Int32, z30 = (11 * x3) → ∀ z31 : Int32, z31 = (18 + z30) → ∀ z32 : Int64, z32 = (z29 <<< (z31.toInt64 &&& 63)) → ∀ z33 : Int64, z33 = (x1 ||| z32) → ∃ n : Nat, wl_LassoFinderModel_packed_63  K34 Post n z33 x3 0 I J B D))
def wl_LassoFinderModel_packed_34 (Post : Int64 → (Nat → Int32) → (Nat → Int64) → (Nat → Nat → Int32) → (Nat → Nat → Int64) → Prop) (n : Nat) : Int64 → Int32 → (Nat → Int32) → (Nat → Int64) → (Nat → Nat → Int32) → (Nat → Nat → Int64) → Prop := Nat.rec (fun _ _ _ _ _ _ => False) (fun _ r => wb_LassoFinderModel_packed_34  r Post) n
def wb_LassoFinderModel_packed_4 (K4 : Int64 → Int32 → (Nat → Int32) → (Nat → Int64) → (Nat → Nat → Int32) → (Nat → Nat → Int64) → Prop) (Post : Int64 → (Nat → Int32) → (Nat → Int64) → (Nat → Nat → Int32) → (Nat → Nat → Int64) → Prop) (x1 : Int64) (x3 : Int32) (I : Nat → Int32) (J : Nat → Int64) (B : Nat → Nat → Int32) (D : Nat → Nat → Int64) : Prop :=
  (((I 6) ≤ x3 → ∃ n : Nat, wl_LassoFinderModel_packed_34  Post n x1 0 I J B D) ∧ (¬ (I 6) ≤ x3 → vp_in x3 6 ∧ ∀ z35 : Int32, z35 = ((B 36) x3.toNatClampNeg) → ∀ z36 : Int64, z36 = z35.toInt64 → ∀ z37 : Int32, z37 = (3 * x3) → ∀ z38 : Int64, z38 = (z36 <<< (z37.toInt64 &&& 63)) → ∀ z39 : Int64, z39 = (x1 ||| z38) → ∀ z40 : Int32, z40 = (x3 + 1) → K4 z39 z40 I J B D))
def wl_LassoFinderModel_packed_4 (Post : Int64 → (Nat → Int32) → (Nat → Int64) → (Nat → Nat → Int32) → (Nat → Nat → Int64) → Prop) (n : Nat) : Int64 → Int32 → (Nat → Int32) → (Nat → Int64) → (Nat → Nat → Int32) → (Nat → Nat → Int64) → Prop := Nat.rec (fun _ _ _ _ _ _ => False) (fun _ r => wb_LassoFinderModel_packed_4  r Post) n
def wp_LassoFinderModel_packed (I : Nat → Int32) (J : Nat → Int64) (B : Nat → Nat → Int32) (D : Nat → Nat → Int64) (Post : Int64 → (Nat → Int32) → (Nat → Int64) → (Nat → Nat → Int32) → (Nat → Nat → Int64) → Prop) : Prop :=
  ∃ n : Nat, wl_LassoFinderModel_packed_4  Post n 0 0 I J B D
set_option maxHeartbeats 8000000 in
set_option maxRecDepth 100000 in
theorem w_LassoFinderModel_packed (l : Launch) (G : va_G) (K : Nat → ClassId) (ad : Nat → Nat) (I : Nat → Int32) (J : Nat → Int64) (B : Nat → Nat → Int32) (D : Nat → Nat → Int64) (Post : Int64 → (Nat → Int32) → (Nat → Int64) → (Nat → Nat → Int32) → (Nat → Nat → Int64) → Prop) (sz : Nat) (hok : wp_LassoFinderModel_packed I J B D  Post) : Met l zy_LassoFinderModel_packed (Cond.code zy_LassoFinderModel_packed prog_14_method_28_code 5 (some .long) :: zTB) { frames := 0, cells := 0, slots := 0, locals := 0 } (va_Pc [.ref (ad 0)] (zPre G K (wM ad K I J B D) sz)) (va_Ql (fun (r : Int64) (u : zS) => Post r u.1 u.2.1 u.2.2.1 u.2.2.2) (fun u t => zPost G K (va_A (wM ad K I J B D) sz) (wM ad K u.1 u.2.1 u.2.2.1 u.2.2.2) t) (va_A (wM ad K I J B D) sz)) 0 0 (va_A (wM ad K I J B D) sz) := by
  refine zMet (y := zy_LassoFinderModel_packed) (av := [.ref (ad 0)]) (maxL := 5) (cc := prog_14_method_28_code) (ret := (some .long)) (W0 := (wM ad K I J B D)) (sz := sz) (G := G) (K := K) (wt := zTB) (mc := 0) (ms := 0) (Qf := fun A => va_Ql (fun (r : Int64) (u : zS) => Post r u.1 u.2.1 u.2.2.1 u.2.2.2) (fun u t => zPost G K A (wM ad K u.1 u.2.1 u.2.2.1 u.2.2.2) t) A) (by decide) (Nat.le_of_ble_eq_true rfl) ?_
  intro p e s m below meth c ls A hx hb hr hml hts hown hlocks hin hA hK H locs hw hsz hl
  clear hsz
  have hown : s.vm.findClass "LassoFinderModel" = some m.cls := hown
  have hl_116 : ∀ (n : Nat) (x1 : Int64) (x3 : Int32) (I : Nat → Int32) (J : Nat → Int64) (B : Nat → Nat → Int32) (D : Nat → Nat → Int64) (ls : Array Slot) (H : Heap) (locs : List Loc), wl_LassoFinderModel_packed_116  Post n x1 x3 I J B D → lv_has ls 5 [(0, .ref (ad 0)), (1, .long x1), (3, .int x3)] → zW G A s.heap (wM ad K I J B D) H locs → W p l e { frames := 0, cells := 0, slots := 0, locals := 0 } s m ([.ref (ad 0)] : List Value).toArray below meth c H locs 0 0 (MQ below (va_Ql (fun (r : Int64) (u : zS) => Post r u.1 u.2.1 u.2.2.1 u.2.2.2) (fun u t => zPost G K A (wM ad K u.1 u.2.1 u.2.2.1 u.2.2.2) t) A) ([.ref (ad 0)] : List Value).toArray s 0 0 A) (F0 m 116 ls []) := by
    intro n
    induction n with
    | zero => intro x1 x3 I J B D ls H locs hok; exact hok.elim
    | succ n_116 ih_116 =>
      intro x1 x3 I J B D ls H locs hok hl hw
      have hok : wb_LassoFinderModel_packed_116  (wl_LassoFinderModel_packed_116  Post n_116) Post x1 x3 I J B D := hok
      unfold wb_LassoFinderModel_packed_116 at hok
      refine lv_iload_n hx hb zd_LassoFinderModel_packed_116 rfl (lv_at hl 2 rfl) ?_
      refine lv_aload_n hx hb zd_LassoFinderModel_packed_117 rfl (lv_at hl 0 rfl) ?_
      refine z_get (v := .int (I 10)) hx hb hts hown hK hw zZ12 0 rfl 30 (by decide) zm_310 rfl zd_LassoFinderModel_packed_118 ?_
      refine lv_icmp_ge (tgt := 147) hx hb zd_LassoFinderModel_packed_121 (by decide) (fun hc1 => ?_) (fun hc1 => ?_)
      · have hok := hok.1 hc1
        refine lv_lload_n hx hb zd_LassoFinderModel_packed_147 rfl (lv_at hl 1 rfl) ?_
        refine lv_aload_n hx hb zd_LassoFinderModel_packed_148 rfl (lv_at hl 0 rfl) ?_
        refine z_get (v := .int (I 17)) hx hb hts hown hK hw zZ12 0 rfl 59 (by decide) zm_320 rfl zd_LassoFinderModel_packed_149 ?_
        refine lv_iconst (v := 1) hx hb zd_LassoFinderModel_packed_152 (by decide) ?_
        refine lv_iadd hx hb zd_LassoFinderModel_packed_153 ?_
        refine lv_topi (fun z2 ez2 => ?_)
        have hok := hok z2 ez2
        refine lv_i2l hx hb zd_LassoFinderModel_packed_154 rfl ?_
        refine lv_topl (fun z3 ez3 => ?_)
        have hok := hok z3 ez3
        refine lv_bipush (v := 60) hx hb zd_LassoFinderModel_packed_155 (by decide) ?_
        refine lv_lshl hx hb zd_LassoFinderModel_packed_157 rfl ?_
        refine lv_topl (fun z4 ez4 => ?_)
        have hok := hok z4 ez4
        refine lv_lor hx hb zd_LassoFinderModel_packed_158 ?_
        refine lv_topl (fun z5 ez5 => ?_)
        have hok := hok z5 ez5
        exact z_lret (u := (I, J, B, D)) hx hb hr hlocks hw [0, 1, 2, 3, 4, 5, 6, 7, 8, 9, 10, 11, 12, 13, 14, 15, 16, 17, 18, 19, 20, 21, 22, 23, 24, 25, 26, 27, 28, 29, 30, 31, 32, 33, 34, 35, 36, 37, 38, 39, 40, 41, 42, 43, 44, 45, 46, 47, 48, 49, 50, 51, 52, 53, 54, 55, 56, 57] rfl (by decide) hok (Nat.le_of_ble_eq_true rfl) (Nat.le_of_ble_eq_true rfl) zd_LassoFinderModel_packed_159
      · have hok := hok.2 hc1
        refine lv_lload_n hx hb zd_LassoFinderModel_packed_124 rfl (lv_at hl 1 rfl) ?_
        refine lv_aload_n hx hb zd_LassoFinderModel_packed_125 rfl (lv_at hl 0 rfl) ?_
        refine z_get (v := .ref (ad 42)) hx hb hts hown hK hw zZ12 0 rfl 58 (by decide) zm_276 rfl zd_LassoFinderModel_packed_126 ?_
        refine lv_iload_n hx hb zd_LassoFinderModel_packed_129 rfl (lv_at hl 2 rfl) ?_
        refine va_iald (f := (B 39)) hx hb hK hw.1 42 0 rfl rfl hok.1 zd_LassoFinderModel_packed_130 ?_
        have hok := hok.2
        refine lv_topi (fun z6 ez6 => ?_)
        have hok := hok z6 ez6
        refine lv_i2l hx hb zd_LassoFinderModel_packed_131 rfl ?_
        refine lv_topl (fun z7 ez7 => ?_)
        have hok := hok z7 ez7
        refine lv_bipush (v := 40) hx hb zd_LassoFinderModel_packed_132 (by decide) ?_
        refine lv_iconst (v := 5) hx hb zd_LassoFinderModel_packed_134 (by decide) ?_
        refine lv_iload_n hx hb zd_LassoFinderModel_packed_135 rfl (lv_at hl 2 rfl) ?_
        refine lv_imul hx hb zd_LassoFinderModel_packed_136 ?_
        refine lv_topi (fun z8 ez8 => ?_)
        have hok := hok z8 ez8
        refine lv_iadd hx hb zd_LassoFinderModel_packed_137 ?_
        refine lv_topi (fun z9 ez9 => ?_)
        have hok := hok z9 ez9
        refine lv_lshl hx hb zd_LassoFinderModel_packed_138 rfl ?_
        refine lv_topl (fun z10 ez10 => ?_)
        have hok := hok z10 ez10
        refine lv_lor hx hb zd_LassoFinderModel_packed_139 ?_
        refine lv_topl (fun z11 ez11 => ?_)
        have hok := hok z11 ez11
        refine lv_lstore_n hx hb zd_LassoFinderModel_packed_140 rfl hl (by decide) rfl (fun ls hl => ?_)
        have hl : lv_has ls 5 [(1, .long z11), (0, .ref (ad 0)), (3, .int x3)] := hl
        obtain ⟨z12, ez12⟩ : ∃ z : Int32, z = (x3 + 1) := ⟨_, rfl⟩
        have hok := hok z12 ez12
        refine lv_iinc (v := z12) hx hb zd_LassoFinderModel_packed_141 hl (k := 2) rfl ez12.symm (by decide) rfl (fun ls hl => ?_)
        have hl : lv_has ls 5 [(3, .int z12), (1, .long z11), (0, .ref (ad 0))] := hl
        refine lv_goto (tgt := 116) hx hb zd_LassoFinderModel_packed_144 (by decide) ?_
        exact ih_116 z11 z12 I J B D ls H locs hok (lv_sub hl [2, 1, 0] rfl) hw
  have hl_34 : ∀ (n : Nat) (x1 : Int64) (x3 : Int32) (I : Nat → Int32) (J : Nat → Int64) (B : Nat → Nat → Int32) (D : Nat → Nat → Int64) (ls : Array Slot) (H : Heap) (locs : List Loc), wl_LassoFinderModel_packed_34  Post n x1 x3 I J B D → lv_has ls 5 [(0, .ref (ad 0)), (1, .long x1), (3, .int x3)] → zW G A s.heap (wM ad K I J B D) H locs → W p l e { frames := 0, cells := 0, slots := 0, locals := 0 } s m ([.ref (ad 0)] : List Value).toArray below meth c H locs 0 0 (MQ below (va_Ql (fun (r : Int64) (u : zS) => Post r u.1 u.2.1 u.2.2.1 u.2.2.2) (fun u t => zPost G K A (wM ad K u.1 u.2.1 u.2.2.1 u.2.2.2) t) A) ([.ref (ad 0)] : List Value).toArray s 0 0 A) (F0 m 34 ls []) := by
    intro n
    induction n with
    | zero => intro x1 x3 I J B D ls H locs hok; exact hok.elim
    | succ n_34 ih_34 =>
      have hl_63 : ∀ (n : Nat) (x1 : Int64) (x3 : Int32) (x4 : Int32) (I : Nat → Int32) (J : Nat → Int64) (B : Nat → Nat → Int32) (D : Nat → Nat → Int64) (ls : Array Slot) (H : Heap) (locs : List Loc), wl_LassoFinderModel_packed_63  (wl_LassoFinderModel_packed_34  Post n_34) Post n x1 x3 x4 I J B D → lv_has ls 5 [(0, .ref (ad 0)), (1, .long x1), (3, .int x3), (4, .int x4)] → zW G A s.heap (wM ad K I J B D) H locs → W p l e { frames := 0, cells := 0, slots := 0, locals := 0 } s m ([.ref (ad 0)] : List Value).toArray below meth c H locs 0 0 (MQ below (va_Ql (fun (r : Int64) (u : zS) => Post r u.1 u.2.1 u.2.2.1 u.2.2.2) (fun u t => zPost G K A (wM ad K u.1 u.2.1 u.2.2.1 u.2.2.2) t) A) ([.ref (ad 0)] : List Value).toArray s 0 0 A) (F0 m 63 ls []) := by
        intro n
        induction n with
        | zero => intro x1 x3 x4 I J B D ls H locs hok; exact hok.elim
        | succ n_63 ih_63 =>
          intro x1 x3 x4 I J B D ls H locs hok hl hw
          have hok : wb_LassoFinderModel_packed_63  (wl_LassoFinderModel_packed_63  (wl_LassoFinderModel_packed_34  Post n_34) Post n_63) (wl_LassoFinderModel_packed_34  Post n_34) Post x1 x3 x4 I J B D := hok
          unfold wb_LassoFinderModel_packed_63 at hok
          refine lv_iload hx hb zd_LassoFinderModel_packed_63 (lv_at hl 3 rfl) ?_
          refine lv_aload_n hx hb zd_LassoFinderModel_packed_65 rfl (lv_at hl 0 rfl) ?_
          refine z_get (v := .ref (ad 40)) hx hb hts hown hK hw zZ12 0 rfl 56 (by decide) zm_274 rfl zd_LassoFinderModel_packed_66 ?_
          refine lv_iload_n hx hb zd_LassoFinderModel_packed_69 rfl (lv_at hl 2 rfl) ?_
          refine va_iald (f := (B 37)) hx hb hK hw.1 40 0 rfl rfl hok.1 zd_LassoFinderModel_packed_70 ?_
          have hok := hok.2
          refine lv_topi (fun z13 ez13 => ?_)
          have hok := hok z13 ez13
          refine lv_icmp_ge (tgt := 108) hx hb zd_LassoFinderModel_packed_71 (by decide) (fun hc14 => ?_) (fun hc14 => ?_)
          · have hok := hok.1 hc14
            obtain ⟨z15, ez15⟩ : ∃ z : Int32, z = (x3 + 1) := ⟨_, rfl⟩
            have hok := hok z15 ez15
            refine lv_iinc (v := z15) hx hb zd_LassoFinderModel_packed_108 hl (k := 2) rfl ez15.symm (by decide) rfl (fun ls hl => ?_)
            have hl : lv_has ls 5 [(3, .int z15), (0, .ref (ad 0)), (1, .long x1), (4, .int x4)] := hl
            refine lv_goto (tgt := 34) hx hb zd_LassoFinderModel_packed_111 (by decide) ?_
            exact ih_34 x1 z15 I J B D ls H locs hok (lv_sub hl [1, 2, 0] rfl) hw
          · have hok := hok.2 hc14
            refine lv_lload_n hx hb zd_LassoFinderModel_packed_74 rfl (lv_at hl 1 rfl) ?_
            refine lv_aload_n hx hb zd_LassoFinderModel_packed_75 rfl (lv_at hl 0 rfl) ?_
            refine z_get (v := .ref (ad 41)) hx hb hts hown hK hw zZ12 0 rfl 57 (by decide) zm_275 rfl zd_LassoFinderModel_packed_76 ?_
            refine lv_iconst (v := 3) hx hb zd_LassoFinderModel_packed_79 (by decide) ?_
            refine lv_iload_n hx hb zd_LassoFinderModel_packed_80 rfl (lv_at hl 2 rfl) ?_
            refine lv_imul hx hb zd_LassoFinderModel_packed_81 ?_
            refine lv_topi (fun z16 ez16 => ?_)
            have hok := hok z16 ez16
            refine lv_iload hx hb zd_LassoFinderModel_packed_82 (lv_at hl 3 rfl) ?_
            refine lv_iadd hx hb zd_LassoFinderModel_packed_84 ?_
            refine lv_topi (fun z17 ez17 => ?_)
            have hok := hok z17 ez17
            refine va_iald (f := (B 38)) hx hb hK hw.1 41 0 rfl rfl hok.1 zd_LassoFinderModel_packed_85 ?_
            have hok := hok.2
            refine lv_topi (fun z18 ez18 => ?_)
            have hok := hok z18 ez18
            refine lv_i2l hx hb zd_LassoFinderModel_packed_86 rfl ?_
            refine lv_topl (fun z19 ez19 => ?_)
            have hok := hok z19 ez19
            refine lv_bipush (v := 20) hx hb zd_LassoFinderModel_packed_87 (by decide) ?_
            refine lv_bipush (v := 11) hx hb zd_LassoFinderModel_packed_89 (by decide) ?_
            refine lv_iload_n hx hb zd_LassoFinderModel_packed_91 rfl (lv_at hl 2 rfl) ?_
            refine lv_imul hx hb zd_LassoFinderModel_packed_92 ?_
            refine lv_topi (fun z20 ez20 => ?_)
            have hok := hok z20 ez20
            refine lv_iadd hx hb zd_LassoFinderModel_packed_93 ?_
            refine lv_topi (fun z21 ez21 => ?_)
            have hok := hok z21 ez21
            refine lv_iconst (v := 3) hx hb zd_LassoFinderModel_packed_94 (by decide) ?_
            refine lv_iload hx hb zd_LassoFinderModel_packed_95 (lv_at hl 3 rfl) ?_
            refine lv_imul hx hb zd_LassoFinderModel_packed_97 ?_
            refine lv_topi (fun z22 ez22 => ?_)
            have hok := hok z22 ez22
            refine lv_iadd hx hb zd_LassoFinderModel_packed_98 ?_
            refine lv_topi (fun z23 ez23 => ?_)
            have hok := hok z23 ez23
            refine lv_lshl hx hb zd_LassoFinderModel_packed_99 rfl ?_
            refine lv_topl (fun z24 ez24 => ?_)
            have hok := hok z24 ez24
            refine lv_lor hx hb zd_LassoFinderModel_packed_100 ?_
            refine lv_topl (fun z25 ez25 => ?_)
            have hok := hok z25 ez25
            refine lv_lstore_n hx hb zd_LassoFinderModel_packed_101 rfl hl (by decide) rfl (fun ls hl => ?_)
            have hl : lv_has ls 5 [(1, .long z25), (0, .ref (ad 0)), (3, .int x3), (4, .int x4)] := hl
            obtain ⟨z26, ez26⟩ : ∃ z : Int32, z = (x4 + 1) := ⟨_, rfl⟩
            have hok := hok z26 ez26
            refine lv_iinc (v := z26) hx hb zd_LassoFinderModel_packed_102 hl (k := 3) rfl ez26.symm (by decide) rfl (fun ls hl => ?_)
            have hl : lv_has ls 5 [(4, .int z26), (1, .long z25), (0, .ref (ad 0)), (3, .int x3)] := hl
            refine lv_goto (tgt := 63) hx hb zd_LassoFinderModel_packed_105 (by decide) ?_
            exact ih_63 z25 x3 z26 I J B D ls H locs hok (lv_sub hl [2, 1, 3, 0] rfl) hw
      intro x1 x3 I J B D ls H locs hok hl hw
      have hok : wb_LassoFinderModel_packed_34  (wl_LassoFinderModel_packed_34  Post n_34) Post x1 x3 I J B D := hok
      unfold wb_LassoFinderModel_packed_34 at hok
      refine lv_iload_n hx hb zd_LassoFinderModel_packed_34 rfl (lv_at hl 2 rfl) ?_
      refine lv_aload_n hx hb zd_LassoFinderModel_packed_35 rfl (lv_at hl 0 rfl) ?_
      refine z_get (v := .int (I 7)) hx hb hts hown hK hw zZ12 0 rfl 8 (by decide) zm_309 rfl zd_LassoFinderModel_packed_36 ?_
      refine lv_icmp_ge (tgt := 114) hx hb zd_LassoFinderModel_packed_39 (by decide) (fun hc27 => ?_) (fun hc27 => ?_)
      · have hok := hok.1 hc27
        refine lv_iconst (v := 0) hx hb zd_LassoFinderModel_packed_114 (by decide) ?_
        refine lv_istore_n hx hb zd_LassoFinderModel_packed_115 rfl hl (by decide) rfl (fun ls hl => ?_)
        have hl : lv_has ls 5 [(3, .int 0), (0, .ref (ad 0)), (1, .long x1)] := hl
        obtain ⟨n9, hok⟩ := hok
        exact hl_116 n9 x1 0 I J B D ls H locs hok (lv_sub hl [1, 2, 0] rfl) hw
      · have hok := hok.2 hc27
        refine lv_lload_n hx hb zd_LassoFinderModel_packed_42 rfl (lv_at hl 1 rfl) ?_
        refine lv_aload_n hx hb zd_LassoFinderModel_packed_43 rfl (lv_at hl 0 rfl) ?_
        refine z_get (v := .ref (ad 40)) hx hb hts hown hK hw zZ12 0 rfl 56 (by decide) zm_274 rfl zd_LassoFinderModel_packed_44 ?_
        refine lv_iload_n hx hb zd_LassoFinderModel_packed_47 rfl (lv_at hl 2 rfl) ?_
        refine va_iald (f := (B 37)) hx hb hK hw.1 40 0 rfl rfl hok.1 zd_LassoFinderModel_packed_48 ?_
        have hok := hok.2
        refine lv_topi (fun z28 ez28 => ?_)
        have hok := hok z28 ez28
        refine lv_i2l hx hb zd_LassoFinderModel_packed_49 rfl ?_
        refine lv_topl (fun z29 ez29 => ?_)
        have hok := hok z29 ez29
        refine lv_bipush (v := 18) hx hb zd_LassoFinderModel_packed_50 (by decide) ?_
        refine lv_bipush (v := 11) hx hb zd_LassoFinderModel_packed_52 (by decide) ?_
        refine lv_iload_n hx hb zd_LassoFinderModel_packed_54 rfl (lv_at hl 2 rfl) ?_
        refine lv_imul hx hb zd_LassoFinderModel_packed_55 ?_
        refine lv_topi (fun z30 ez30 => ?_)
        have hok := hok z30 ez30
        refine lv_iadd hx hb zd_LassoFinderModel_packed_56 ?_
        refine lv_topi (fun z31 ez31 => ?_)
        have hok := hok z31 ez31
        refine lv_lshl hx hb zd_LassoFinderModel_packed_57 rfl ?_
        refine lv_topl (fun z32 ez32 => ?_)
        have hok := hok z32 ez32
        refine lv_lor hx hb zd_LassoFinderModel_packed_58 ?_
        refine lv_topl (fun z33 ez33 => ?_)
        have hok := hok z33 ez33
        refine lv_lstore_n hx hb zd_LassoFinderModel_packed_59 rfl hl (by decide) rfl (fun ls hl => ?_)
        have hl : lv_has ls 5 [(1, .long z33), (0, .ref (ad 0)), (3, .int x3)] := hl
        refine lv_iconst (v := 0) hx hb zd_LassoFinderModel_packed_60 (by decide) ?_
        refine lv_istore hx hb zd_LassoFinderModel_packed_61 hl (by decide) rfl (fun ls hl => ?_)
        have hl : lv_has ls 5 [(4, .int 0), (1, .long z33), (0, .ref (ad 0)), (3, .int x3)] := hl
        obtain ⟨n9, hok⟩ := hok
        exact hl_63 n9 z33 x3 0 I J B D ls H locs hok (lv_sub hl [2, 1, 3, 0] rfl) hw
  have hl_4 : ∀ (n : Nat) (x1 : Int64) (x3 : Int32) (I : Nat → Int32) (J : Nat → Int64) (B : Nat → Nat → Int32) (D : Nat → Nat → Int64) (ls : Array Slot) (H : Heap) (locs : List Loc), wl_LassoFinderModel_packed_4  Post n x1 x3 I J B D → lv_has ls 5 [(0, .ref (ad 0)), (1, .long x1), (3, .int x3)] → zW G A s.heap (wM ad K I J B D) H locs → W p l e { frames := 0, cells := 0, slots := 0, locals := 0 } s m ([.ref (ad 0)] : List Value).toArray below meth c H locs 0 0 (MQ below (va_Ql (fun (r : Int64) (u : zS) => Post r u.1 u.2.1 u.2.2.1 u.2.2.2) (fun u t => zPost G K A (wM ad K u.1 u.2.1 u.2.2.1 u.2.2.2) t) A) ([.ref (ad 0)] : List Value).toArray s 0 0 A) (F0 m 4 ls []) := by
    intro n
    induction n with
    | zero => intro x1 x3 I J B D ls H locs hok; exact hok.elim
    | succ n_4 ih_4 =>
      intro x1 x3 I J B D ls H locs hok hl hw
      have hok : wb_LassoFinderModel_packed_4  (wl_LassoFinderModel_packed_4  Post n_4) Post x1 x3 I J B D := hok
      unfold wb_LassoFinderModel_packed_4 at hok
      refine lv_iload_n hx hb zd_LassoFinderModel_packed_4 rfl (lv_at hl 2 rfl) ?_
      refine lv_aload_n hx hb zd_LassoFinderModel_packed_5 rfl (lv_at hl 0 rfl) ?_
      refine z_get (v := .int (I 6)) hx hb hts hown hK hw zZ12 0 rfl 7 (by decide) zm_308 rfl zd_LassoFinderModel_packed_6 ?_
      refine lv_icmp_ge (tgt := 32) hx hb zd_LassoFinderModel_packed_9 (by decide) (fun hc34 => ?_) (fun hc34 => ?_)
      · have hok := hok.1 hc34
        refine lv_iconst (v := 0) hx hb zd_LassoFinderModel_packed_32 (by decide) ?_
        refine lv_istore_n hx hb zd_LassoFinderModel_packed_33 rfl hl (by decide) rfl (fun ls hl => ?_)
        have hl : lv_has ls 5 [(3, .int 0), (0, .ref (ad 0)), (1, .long x1)] := hl
        obtain ⟨n9, hok⟩ := hok
        exact hl_34 n9 x1 0 I J B D ls H locs hok (lv_sub hl [1, 2, 0] rfl) hw
      · have hok := hok.2 hc34
        refine lv_lload_n hx hb zd_LassoFinderModel_packed_12 rfl (lv_at hl 1 rfl) ?_
        refine lv_aload_n hx hb zd_LassoFinderModel_packed_13 rfl (lv_at hl 0 rfl) ?_
        refine z_get (v := .ref (ad 39)) hx hb hts hown hK hw zZ12 0 rfl 55 (by decide) zm_273 rfl zd_LassoFinderModel_packed_14 ?_
        refine lv_iload_n hx hb zd_LassoFinderModel_packed_17 rfl (lv_at hl 2 rfl) ?_
        refine va_iald (f := (B 36)) hx hb hK hw.1 39 0 rfl rfl hok.1 zd_LassoFinderModel_packed_18 ?_
        have hok := hok.2
        refine lv_topi (fun z35 ez35 => ?_)
        have hok := hok z35 ez35
        refine lv_i2l hx hb zd_LassoFinderModel_packed_19 rfl ?_
        refine lv_topl (fun z36 ez36 => ?_)
        have hok := hok z36 ez36
        refine lv_iconst (v := 3) hx hb zd_LassoFinderModel_packed_20 (by decide) ?_
        refine lv_iload_n hx hb zd_LassoFinderModel_packed_21 rfl (lv_at hl 2 rfl) ?_
        refine lv_imul hx hb zd_LassoFinderModel_packed_22 ?_
        refine lv_topi (fun z37 ez37 => ?_)
        have hok := hok z37 ez37
        refine lv_lshl hx hb zd_LassoFinderModel_packed_23 rfl ?_
        refine lv_topl (fun z38 ez38 => ?_)
        have hok := hok z38 ez38
        refine lv_lor hx hb zd_LassoFinderModel_packed_24 ?_
        refine lv_topl (fun z39 ez39 => ?_)
        have hok := hok z39 ez39
        refine lv_lstore_n hx hb zd_LassoFinderModel_packed_25 rfl hl (by decide) rfl (fun ls hl => ?_)
        have hl : lv_has ls 5 [(1, .long z39), (0, .ref (ad 0)), (3, .int x3)] := hl
        obtain ⟨z40, ez40⟩ : ∃ z : Int32, z = (x3 + 1) := ⟨_, rfl⟩
        have hok := hok z40 ez40
        refine lv_iinc (v := z40) hx hb zd_LassoFinderModel_packed_26 hl (k := 2) rfl ez40.symm (by decide) rfl (fun ls hl => ?_)
        have hl : lv_has ls 5 [(3, .int z40), (1, .long z39), (0, .ref (ad 0))] := hl
        refine lv_goto (tgt := 4) hx hb zd_LassoFinderModel_packed_29 (by decide) ?_
        exact ih_4 z39 z40 I J B D ls H locs hok (lv_sub hl [2, 1, 0] rfl) hw
  have hl : lv_has ls 5 [(0, .ref (ad 0))] := hl
  have hw : zW G A s.heap (wM ad K I J B D) H locs := hw
  unfold wp_LassoFinderModel_packed at hok
  refine lv_lconst (v := 0) hx hb zd_LassoFinderModel_packed_0 (by decide) ?_
  refine lv_lstore_n hx hb zd_LassoFinderModel_packed_1 rfl hl (by decide) rfl (fun ls hl => ?_)
  have hl : lv_has ls 5 [(1, .long 0), (0, .ref (ad 0))] := hl
  refine lv_iconst (v := 0) hx hb zd_LassoFinderModel_packed_2 (by decide) ?_
  refine lv_istore_n hx hb zd_LassoFinderModel_packed_3 rfl hl (by decide) rfl (fun ls hl => ?_)
  have hl : lv_has ls 5 [(3, .int 0), (1, .long 0), (0, .ref (ad 0))] := hl
  obtain ⟨n9, hok⟩ := hok
  exact hl_4 n9 0 0 I J B D ls H locs hok (lv_sub hl [2, 1, 0] rfl) hw
def wb_LassoFinderModel_unpack_115 (a0 : Int64) (K115 : Int64 → Int32 → (Nat → Int32) → (Nat → Int64) → (Nat → Nat → Int32) → (Nat → Nat → Int64) → Prop) (Post : (Nat → Int32) → (Nat → Int64) → (Nat → Nat → Int32) → (Nat → Nat → Int64) → Prop) (x1 : Int64) (x3 : Int32) (I : Nat → Int32) (J : Nat → Int64) (B : Nat → Nat → Int32) (D : Nat → Nat → Int64) : Prop :=
  (((I 10) ≤ x3 → ∀ z2 : Int64, z2 = (x1 >>> ((60 : Int32).toInt64 &&& 63)) → ∀ z3 : Int64, z3 = (z2 &&& 7) → ∀ z4 : Int32, z4 = z3.toInt32 → ∀ z5 : Int32, z5 = (z4 - 1) → Post (upd I 17 z5) J B D) ∧ (¬ (I 10) ≤ x3 → ∀ z6 : Int32, z6 = (5 * x3) → ∀ z7 : Int32, z7 = (40 + z6) → ∀ z8 : Int64, z8 = (x1 >>> (z7.toInt64 &&& 63)) → ∀ z9 : Int64, z9 = (z8 &&& 31) → ∀ z10 : Int32, z10 = z9.toInt32 → vp_in x3 4 ∧ ∀ z11 : Int32, z11 = (x3 + 1) → K115 x1 z11 I J (va_up B 39 (upd (B 39) x3.toNatClampNeg z10)) D))
def wl_LassoFinderModel_unpack_115 (a0 : Int64) (Post : (Nat → Int32) → (Nat → Int64) → (Nat → Nat → Int32) → (Nat → Nat → Int64) → Prop) (n : Nat) : Int64 → Int32 → (Nat → Int32) → (Nat → Int64) → (Nat → Nat → Int32) → (Nat → Nat → Int64) → Prop := Nat.rec (fun _ _ _ _ _ _ => False) (fun _ r => wb_LassoFinderModel_unpack_115 a0 r Post) n
def wb_LassoFinderModel_unpack_65 (a0 : Int64) (K65 : Int64 → Int32 → Int32 → (Nat → Int32) → (Nat → Int64) → (Nat → Nat → Int32) → (Nat → Nat → Int64) → Prop) (K34 : Int64 → Int32 → (Nat → Int32) → (Nat → Int64) → (Nat → Nat → Int32) → (Nat → Nat → Int64) → Prop) (Post : (Nat → Int32) → (Nat → Int64) → (Nat → Nat → Int32) → (Nat → Nat → Int64) → Prop) (x1 : Int64) (x3 : Int32) (x4 : Int32) (I : Nat → Int32) (J : Nat → Int64) (B : Nat → Nat → Int32) (D : Nat → Nat → Int64) : Prop :=
  (((3 : Int32) ≤ x4 → ∀ z13 : Int32, z13 = (x3 + 1) → K34 x1 z13 I J B D) ∧ (¬ (3 : Int32) ≤ x4 → ∀ z14 : Int32, z14 = (3 * x3) → ∀ z15 : Int32, z15 = (z14 + x4) → ∀ z16 : Int32, z16 = (11 * x3) → ∀ z17 : Int32, z17 = (20 + z16) → ∀ z18 : Int32, z18 = (3 * x4) → ∀ z19 : Int32, z19 = (z17 + z18) → ∀ z20 : Int64, z20 = (x1 >>> (z19.toInt64 &&& 63)) → ∀ z21 : Int64, z21 = (z20 &&& 7) → ∀ z22 : Int32, z22 = z21.toInt32 → vp_in z15 6 ∧ ∀ z23 : Int32, z23 = (x4 + 1) → K65 x1 x3 z23 I J (va_up B 38 (upd (B 38) z15.toNatClampNeg z22)) D))
def wl_LassoFinderModel_unpack_65 (a0 : Int64) (K34 : Int64 → Int32 → (Nat → Int32) → (Nat → Int64) → (Nat → Nat → Int32) → (Nat → Nat → Int64) → Prop) (Post : (Nat → Int32) → (Nat → Int64) → (Nat → Nat → Int32) → (Nat → Nat → Int64) → Prop) (n : Nat) : Int64 → Int32 → Int32 → (Nat → Int32) → (Nat → Int64) → (Nat → Nat → Int32) → (Nat → Nat → Int64) → Prop := Nat.rec (fun _ _ _ _ _ _ _ => False) (fun _ r => wb_LassoFinderModel_unpack_65 a0 r K34 Post) n
def wb_LassoFinderModel_unpack_34 (a0 : Int64) (K34 : Int64 → Int32 → (Nat → Int32) → (Nat → Int64) → (Nat → Nat → Int32) → (Nat → Nat → Int64) → Prop) (Post : (Nat → Int32) → (Nat → Int64) → (Nat → Nat → Int32) → (Nat → Nat → Int64) → Prop) (x1 : Int64) (x3 : Int32) (I : Nat → Int32) (J : Nat → Int64) (B : Nat → Nat → Int32) (D : Nat → Nat → Int64) : Prop :=
  (((I 7) ≤ x3 → ∃ n : Nat, wl_LassoFinderModel_unpack_115 a0 Post n x1 0 I J B D) ∧ (¬ (I 7) ≤ x3 → ∀ z25 : Int32, z25 = (11 * x3) → ∀ z26 : Int32, z26 = (18 + z25) → ∀ z27 : Int64, z27 = (x1 >>> (z26.toInt64 &&& 63)) → ∀ z28 : Int64, z28 = (z27 &&& 3) → ∀ z29 : Int32, z29 = z28.toInt32 → vp_in x3 2 ∧ ∃ n : Nat, wl_LassoFinderModel_unpack_65 a0 K34 Post n x1 x3 0 I J (va_up B 37 (upd (B 37) x3.toNatClampNeg z29)) D))
def wl_LassoFinderModel_unpack_34 (a0 : Int64) (Post : (Nat → Int32) → (Nat → Int64) → (Nat → Nat → Int32) → (Nat → Nat → Int64) → Prop) (n : Nat) : Int64 → Int32 → (Nat → Int32) → (Nat → Int64) → (Nat → Nat → Int32) → (Nat → Nat → Int64) → Prop := Nat.rec (fun _ _ _ _ _ _ => False) (fun _ r => wb_LassoFinderModel_unpack_34 a0 r Post) n
def wb_LassoFinderModel_unpack_2 (a0 : Int64) (K2 : Int64 → Int32 → (Nat → Int32) → (Nat → Int64) → (Nat → Nat → Int32) → (Nat → Nat → Int64) → Prop) (Post : (Nat → Int32) → (Nat → Int64) → (Nat → Nat → Int32) → (Nat → Nat → Int64) → Prop) (x1 : Int64) (x3 : Int32) (I : Nat → Int32) (J : Nat → Int64) (B : Nat → Nat → Int32) (D : Nat → Nat → Int64) : Prop :=
  (((I 6) ≤ x3 → ∃ n : Nat, wl_LassoFinderModel_unpack_34 a0 Post n x1 0 I J B D) ∧ (¬ (I 6) ≤ x3 → ∀ z31 : Int32, z31 = (3 * x3) → ∀ z32 : Int64, z32 = (x1 >>> (z31.toInt64 &&& 63)) → ∀ z33 : Int64, z33 = (z32 &&& 7) → ∀ z34 : Int32, z34 = z33.toInt32 → vp_in x3 6 ∧ ∀ z35 : Int32, z35 = (x3 + 1) → K2 x1 z35 I J (va_up B 36 (upd (B 36) x3.toNatClampNeg z34)) D))
def wl_LassoFinderModel_unpack_2 (a0 : Int64) (Post : (Nat → Int32) → (Nat → Int64) → (Nat → Nat → Int32) → (Nat → Nat → Int64) → Prop) (n : Nat) : Int64 → Int32 → (Nat → Int32) → (Nat → Int64) → (Nat → Nat → Int32) → (Nat → Nat → Int64) → Prop := Nat.rec (fun _ _ _ _ _ _ => False) (fun _ r => wb_LassoFinderModel_unpack_2 a0 r Post) n
def wp_LassoFinderModel_unpack (I : Nat → Int32) (J : Nat → Int64) (B : Nat → Nat → Int32) (D : Nat → Nat → Int64) (a0 : Int64) (Post : (Nat → Int32) → (Nat → Int64) → (Nat → Nat → Int32) → (Nat → Nat → Int64) → Prop) : Prop :=
  ∃ n : Nat, wl_LassoFinderModel_unpack_2 a0 Post n a0 0 I J B D
set_option maxHeartbeats 8000000 in
set_option maxRecDepth 100000 in
theorem w_LassoFinderModel_unpack (l : Launch) (G : va_G) (K : Nat → ClassId) (ad : Nat → Nat) (I : Nat → Int32) (J : Nat → Int64) (B : Nat → Nat → Int32) (D : Nat → Nat → Int64) (a0 : Int64) (Post : (Nat → Int32) → (Nat → Int64) → (Nat → Nat → Int32) → (Nat → Nat → Int64) → Prop) (sz : Nat) (hok : wp_LassoFinderModel_unpack I J B D a0 Post) : Met l zy_LassoFinderModel_unpack (Cond.code zy_LassoFinderModel_unpack prog_14_method_29_code 5 none :: zTB) { frames := 0, cells := 0, slots := 0, locals := 0 } (va_Pc [.ref (ad 0), .long a0] (zPre G K (wM ad K I J B D) sz)) (va_Qv (fun u : zS => Post u.1 u.2.1 u.2.2.1 u.2.2.2) (fun u t => zPost G K (va_A (wM ad K I J B D) sz) (wM ad K u.1 u.2.1 u.2.2.1 u.2.2.2) t) (va_A (wM ad K I J B D) sz)) 0 0 (va_A (wM ad K I J B D) sz) := by
  refine zMet (y := zy_LassoFinderModel_unpack) (av := [.ref (ad 0), .long a0]) (maxL := 5) (cc := prog_14_method_29_code) (ret := none) (W0 := (wM ad K I J B D)) (sz := sz) (G := G) (K := K) (wt := zTB) (mc := 0) (ms := 0) (Qf := fun A => va_Qv (fun u : zS => Post u.1 u.2.1 u.2.2.1 u.2.2.2) (fun u t => zPost G K A (wM ad K u.1 u.2.1 u.2.2.1 u.2.2.2) t) A) (by decide) (Nat.le_of_ble_eq_true rfl) ?_
  intro p e s m below meth c ls A hx hb hr hml hts hown hlocks hin hA hK H locs hw hsz hl
  clear hsz
  have hown : s.vm.findClass "LassoFinderModel" = some m.cls := hown
  have hl_115 : ∀ (n : Nat) (x1 : Int64) (x3 : Int32) (I : Nat → Int32) (J : Nat → Int64) (B : Nat → Nat → Int32) (D : Nat → Nat → Int64) (ls : Array Slot) (H : Heap) (locs : List Loc), wl_LassoFinderModel_unpack_115 a0 Post n x1 x3 I J B D → lv_has ls 5 [(0, .ref (ad 0)), (1, .long x1), (3, .int x3)] → zW G A s.heap (wM ad K I J B D) H locs → W p l e { frames := 0, cells := 0, slots := 0, locals := 0 } s m ([.ref (ad 0), .long a0] : List Value).toArray below meth c H locs 0 0 (MQ below (va_Qv (fun u : zS => Post u.1 u.2.1 u.2.2.1 u.2.2.2) (fun u t => zPost G K A (wM ad K u.1 u.2.1 u.2.2.1 u.2.2.2) t) A) ([.ref (ad 0), .long a0] : List Value).toArray s 0 0 A) (F0 m 115 ls []) := by
    intro n
    induction n with
    | zero => intro x1 x3 I J B D ls H locs hok; exact hok.elim
    | succ n_115 ih_115 =>
      intro x1 x3 I J B D ls H locs hok hl hw
      have hok : wb_LassoFinderModel_unpack_115 a0 (wl_LassoFinderModel_unpack_115 a0 Post n_115) Post x1 x3 I J B D := hok
      unfold wb_LassoFinderModel_unpack_115 at hok
      refine lv_iload_n hx hb zd_LassoFinderModel_unpack_115 rfl (lv_at hl 2 rfl) ?_
      refine lv_aload_n hx hb zd_LassoFinderModel_unpack_116 rfl (lv_at hl 0 rfl) ?_
      refine z_get (v := .int (I 10)) hx hb hts hown hK hw zZ12 0 rfl 30 (by decide) zm_310 rfl zd_LassoFinderModel_unpack_117 ?_
      refine lv_icmp_ge (tgt := 148) hx hb zd_LassoFinderModel_unpack_120 (by decide) (fun hc1 => ?_) (fun hc1 => ?_)
      · have hok := hok.1 hc1
        refine lv_aload_n hx hb zd_LassoFinderModel_unpack_148 rfl (lv_at hl 0 rfl) ?_
        refine lv_lload_n hx hb zd_LassoFinderModel_unpack_149 rfl (lv_at hl 1 rfl) ?_
        refine lv_bipush (v := 60) hx hb zd_LassoFinderModel_unpack_150 (by decide) ?_
        refine lv_lshr hx hb zd_LassoFinderModel_unpack_152 rfl ?_
        refine lv_topl (fun z2 ez2 => ?_)
        have hok := hok z2 ez2
        refine lv_ldc2 (v := 7) hx hb hown (hts _ zm_321) zd_LassoFinderModel_unpack_153 ?_
        refine lv_land hx hb zd_LassoFinderModel_unpack_156 ?_
        refine lv_topl (fun z3 ez3 => ?_)
        have hok := hok z3 ez3
        refine lv_l2i hx hb zd_LassoFinderModel_unpack_157 rfl ?_
        refine lv_topi (fun z4 ez4 => ?_)
        have hok := hok z4 ez4
        refine lv_iconst (v := 1) hx hb zd_LassoFinderModel_unpack_158 (by decide) ?_
        refine lv_isub hx hb zd_LassoFinderModel_unpack_159 ?_
        refine lv_topi (fun z5 ez5 => ?_)
        have hok := hok z5 ez5
        refine z_put (v := .int z5) hx hb hts hown hK hw zZ12 0 rfl 59 (by decide) zm_320 rfl rfl rfl (Nat.le_of_ble_eq_true rfl) zd_LassoFinderModel_unpack_160 (fun H locs hw => ?_)
        have hw : zW G A s.heap (wM ad K (upd I 17 z5) J B D) H locs := hw
        exact z_vret (u := ((upd I 17 z5), J, B, D)) hx hb hr hlocks hw [0, 1, 2, 3, 4, 5, 6, 7, 8, 9, 10, 11, 12, 13, 14, 15, 16, 17, 18, 19, 20, 21, 22, 23, 24, 25, 26, 27, 28, 29, 30, 31, 32, 33, 34, 35, 36, 37, 38, 39, 40, 41, 42, 43, 44, 45, 46, 47, 48, 49, 50, 51, 52, 53, 54, 55, 56, 57] rfl (by decide) hok (Nat.le_of_ble_eq_true rfl) (Nat.le_of_ble_eq_true rfl) zd_LassoFinderModel_unpack_163
      · have hok := hok.2 hc1
        refine lv_aload_n hx hb zd_LassoFinderModel_unpack_123 rfl (lv_at hl 0 rfl) ?_
        refine z_get (v := .ref (ad 42)) hx hb hts hown hK hw zZ12 0 rfl 58 (by decide) zm_276 rfl zd_LassoFinderModel_unpack_124 ?_
        refine lv_iload_n hx hb zd_LassoFinderModel_unpack_127 rfl (lv_at hl 2 rfl) ?_
        refine lv_lload_n hx hb zd_LassoFinderModel_unpack_128 rfl (lv_at hl 1 rfl) ?_
        refine lv_bipush (v := 40) hx hb zd_LassoFinderModel_unpack_129 (by decide) ?_
        refine lv_iconst (v := 5) hx hb zd_LassoFinderModel_unpack_131 (by decide) ?_
        refine lv_iload_n hx hb zd_LassoFinderModel_unpack_132 rfl (lv_at hl 2 rfl) ?_
        refine lv_imul hx hb zd_LassoFinderModel_unpack_133 ?_
        refine lv_topi (fun z6 ez6 => ?_)
        have hok := hok z6 ez6
        refine lv_iadd hx hb zd_LassoFinderModel_unpack_134 ?_
        refine lv_topi (fun z7 ez7 => ?_)
        have hok := hok z7 ez7
        refine lv_lshr hx hb zd_LassoFinderModel_unpack_135 rfl ?_
        refine lv_topl (fun z8 ez8 => ?_)
        have hok := hok z8 ez8
        refine lv_ldc2 (v := 31) hx hb hown (hts _ zm_322) zd_LassoFinderModel_unpack_136 ?_
        refine lv_land hx hb zd_LassoFinderModel_unpack_139 ?_
        refine lv_topl (fun z9 ez9 => ?_)
        have hok := hok z9 ez9
        refine lv_l2i hx hb zd_LassoFinderModel_unpack_140 rfl ?_
        refine lv_topi (fun z10 ez10 => ?_)
        have hok := hok z10 ez10
        refine va_iast (f := (B 39)) hx hb hK hw.1 hw.2.1 hw.2.2 42 0 rfl rfl hok.1 zd_LassoFinderModel_unpack_141 (fun H locs a1 a2 a3 => ?_)
        have hok := hok.2
        have hw : zW G A s.heap _ H locs := ⟨a1, a2, a3⟩
        have hw : zW G A s.heap (wM ad K I J (va_up B 39 (upd (B 39) x3.toNatClampNeg z10)) D) H locs := hw
        obtain ⟨z11, ez11⟩ : ∃ z : Int32, z = (x3 + 1) := ⟨_, rfl⟩
        have hok := hok z11 ez11
        refine lv_iinc (v := z11) hx hb zd_LassoFinderModel_unpack_142 hl (k := 2) rfl ez11.symm (by decide) rfl (fun ls hl => ?_)
        have hl : lv_has ls 5 [(3, .int z11), (0, .ref (ad 0)), (1, .long x1)] := hl
        refine lv_goto (tgt := 115) hx hb zd_LassoFinderModel_unpack_145 (by decide) ?_
        exact ih_115 x1 z11 I J (va_up B 39 (upd (B 39) x3.toNatClampNeg z10)) D ls H locs hok (lv_sub hl [1, 2, 0] rfl) hw
  have hl_34 : ∀ (n : Nat) (x1 : Int64) (x3 : Int32) (I : Nat → Int32) (J : Nat → Int64) (B : Nat → Nat → Int32) (D : Nat → Nat → Int64) (ls : Array Slot) (H : Heap) (locs : List Loc), wl_LassoFinderModel_unpack_34 a0 Post n x1 x3 I J B D → lv_has ls 5 [(0, .ref (ad 0)), (1, .long x1), (3, .int x3)] → zW G A s.heap (wM ad K I J B D) H locs → W p l e { frames := 0, cells := 0, slots := 0, locals := 0 } s m ([.ref (ad 0), .long a0] : List Value).toArray below meth c H locs 0 0 (MQ below (va_Qv (fun u : zS => Post u.1 u.2.1 u.2.2.1 u.2.2.2) (fun u t => zPost G K A (wM ad K u.1 u.2.1 u.2.2.1 u.2.2.2) t) A) ([.ref (ad 0), .long a0] : List Value).toArray s 0 0 A) (F0 m 34 ls []) := by
    intro n
    induction n with
    | zero => intro x1 x3 I J B D ls H locs hok; exact hok.elim
    | succ n_34 ih_34 =>
      have hl_65 : ∀ (n : Nat) (x1 : Int64) (x3 : Int32) (x4 : Int32) (I : Nat → Int32) (J : Nat → Int64) (B : Nat → Nat → Int32) (D : Nat → Nat → Int64) (ls : Array Slot) (H : Heap) (locs : List Loc), wl_LassoFinderModel_unpack_65 a0 (wl_LassoFinderModel_unpack_34 a0 Post n_34) Post n x1 x3 x4 I J B D → lv_has ls 5 [(0, .ref (ad 0)), (1, .long x1), (3, .int x3), (4, .int x4)] → zW G A s.heap (wM ad K I J B D) H locs → W p l e { frames := 0, cells := 0, slots := 0, locals := 0 } s m ([.ref (ad 0), .long a0] : List Value).toArray below meth c H locs 0 0 (MQ below (va_Qv (fun u : zS => Post u.1 u.2.1 u.2.2.1 u.2.2.2) (fun u t => zPost G K A (wM ad K u.1 u.2.1 u.2.2.1 u.2.2.2) t) A) ([.ref (ad 0), .long a0] : List Value).toArray s 0 0 A) (F0 m 65 ls []) := by
        intro n
        induction n with
        | zero => intro x1 x3 x4 I J B D ls H locs hok; exact hok.elim
        | succ n_65 ih_65 =>
          intro x1 x3 x4 I J B D ls H locs hok hl hw
          have hok : wb_LassoFinderModel_unpack_65 a0 (wl_LassoFinderModel_unpack_65 a0 (wl_LassoFinderModel_unpack_34 a0 Post n_34) Post n_65) (wl_LassoFinderModel_unpack_34 a0 Post n_34) Post x1 x3 x4 I J B D := hok
          unfold wb_LassoFinderModel_unpack_65 at hok
          refine lv_iload hx hb zd_LassoFinderModel_unpack_65 (lv_at hl 3 rfl) ?_
          refine lv_iconst (v := 3) hx hb zd_LassoFinderModel_unpack_67 (by decide) ?_
          refine lv_icmp_ge (tgt := 107) hx hb zd_LassoFinderModel_unpack_68 (by decide) (fun hc12 => ?_) (fun hc12 => ?_)
          · have hok := hok.1 hc12
            obtain ⟨z13, ez13⟩ : ∃ z : Int32, z = (x3 + 1) := ⟨_, rfl⟩
            have hok := hok z13 ez13
            refine lv_iinc (v := z13) hx hb zd_LassoFinderModel_unpack_107 hl (k := 2) rfl ez13.symm (by decide) rfl (fun ls hl => ?_)
            have hl : lv_has ls 5 [(3, .int z13), (0, .ref (ad 0)), (1, .long x1), (4, .int x4)] := hl
            refine lv_goto (tgt := 34) hx hb zd_LassoFinderModel_unpack_110 (by decide) ?_
            exact ih_34 x1 z13 I J B D ls H locs hok (lv_sub hl [1, 2, 0] rfl) hw
          · have hok := hok.2 hc12
            refine lv_aload_n hx hb zd_LassoFinderModel_unpack_71 rfl (lv_at hl 0 rfl) ?_
            refine z_get (v := .ref (ad 41)) hx hb hts hown hK hw zZ12 0 rfl 57 (by decide) zm_275 rfl zd_LassoFinderModel_unpack_72 ?_
            refine lv_iconst (v := 3) hx hb zd_LassoFinderModel_unpack_75 (by decide) ?_
            refine lv_iload_n hx hb zd_LassoFinderModel_unpack_76 rfl (lv_at hl 2 rfl) ?_
            refine lv_imul hx hb zd_LassoFinderModel_unpack_77 ?_
            refine lv_topi (fun z14 ez14 => ?_)
            have hok := hok z14 ez14
            refine lv_iload hx hb zd_LassoFinderModel_unpack_78 (lv_at hl 3 rfl) ?_
            refine lv_iadd hx hb zd_LassoFinderModel_unpack_80 ?_
            refine lv_topi (fun z15 ez15 => ?_)
            have hok := hok z15 ez15
            refine lv_lload_n hx hb zd_LassoFinderModel_unpack_81 rfl (lv_at hl 1 rfl) ?_
            refine lv_bipush (v := 20) hx hb zd_LassoFinderModel_unpack_82 (by decide) ?_
            refine lv_bipush (v := 11) hx hb zd_LassoFinderModel_unpack_84 (by decide) ?_
            refine lv_iload_n hx hb zd_LassoFinderModel_unpack_86 rfl (lv_at hl 2 rfl) ?_
            refine lv_imul hx hb zd_LassoFinderModel_unpack_87 ?_
            refine lv_topi (fun z16 ez16 => ?_)
            have hok := hok z16 ez16
            refine lv_iadd hx hb zd_LassoFinderModel_unpack_88 ?_
            refine lv_topi (fun z17 ez17 => ?_)
            have hok := hok z17 ez17
            refine lv_iconst (v := 3) hx hb zd_LassoFinderModel_unpack_89 (by decide) ?_
            refine lv_iload hx hb zd_LassoFinderModel_unpack_90 (lv_at hl 3 rfl) ?_
            refine lv_imul hx hb zd_LassoFinderModel_unpack_92 ?_
            refine lv_topi (fun z18 ez18 => ?_)
            have hok := hok z18 ez18
            refine lv_iadd hx hb zd_LassoFinderModel_unpack_93 ?_
            refine lv_topi (fun z19 ez19 => ?_)
            have hok := hok z19 ez19
            refine lv_lshr hx hb zd_LassoFinderModel_unpack_94 rfl ?_
            refine lv_topl (fun z20 ez20 => ?_)
            have hok := hok z20 ez20
            refine lv_ldc2 (v := 7) hx hb hown (hts _ zm_321) zd_LassoFinderModel_unpack_95 ?_
            refine lv_land hx hb zd_LassoFinderModel_unpack_98 ?_
            refine lv_topl (fun z21 ez21 => ?_)
            have hok := hok z21 ez21
            refine lv_l2i hx hb zd_LassoFinderModel_unpack_99 rfl ?_
            refine lv_topi (fun z22 ez22 => ?_)
            have hok := hok z22 ez22
            refine va_iast (f := (B 38)) hx hb hK hw.1 hw.2.1 hw.2.2 41 0 rfl rfl hok.1 zd_LassoFinderModel_unpack_100 (fun H locs a1 a2 a3 => ?_)
            have hok := hok.2
            have hw : zW G A s.heap _ H locs := ⟨a1, a2, a3⟩
            have hw : zW G A s.heap (wM ad K I J (va_up B 38 (upd (B 38) z15.toNatClampNeg z22)) D) H locs := hw
            obtain ⟨z23, ez23⟩ : ∃ z : Int32, z = (x4 + 1) := ⟨_, rfl⟩
            have hok := hok z23 ez23
            refine lv_iinc (v := z23) hx hb zd_LassoFinderModel_unpack_101 hl (k := 3) rfl ez23.symm (by decide) rfl (fun ls hl => ?_)
            have hl : lv_has ls 5 [(4, .int z23), (0, .ref (ad 0)), (1, .long x1), (3, .int x3)] := hl
            refine lv_goto (tgt := 65) hx hb zd_LassoFinderModel_unpack_104 (by decide) ?_
            exact ih_65 x1 x3 z23 I J (va_up B 38 (upd (B 38) z15.toNatClampNeg z22)) D ls H locs hok (lv_sub hl [1, 2, 3, 0] rfl) hw
      intro x1 x3 I J B D ls H locs hok hl hw
      have hok : wb_LassoFinderModel_unpack_34 a0 (wl_LassoFinderModel_unpack_34 a0 Post n_34) Post x1 x3 I J B D := hok
      unfold wb_LassoFinderModel_unpack_34 at hok
      refine lv_iload_n hx hb zd_LassoFinderModel_unpack_34 rfl (lv_at hl 2 rfl) ?_
      refine lv_aload_n hx hb zd_LassoFinderModel_unpack_35 rfl (lv_at hl 0 rfl) ?_
      refine z_get (v := .int (I 7)) hx hb hts hown hK hw zZ12 0 rfl 8 (by decide) zm_309 rfl zd_LassoFinderModel_unpack_36 ?_
      refine lv_icmp_ge (tgt := 113) hx hb zd_LassoFinderModel_unpack_39 (by decide) (fun hc24 => ?_) (fun hc24 => ?_)
      · have hok := hok.1 hc24
        refine lv_iconst (v := 0) hx hb zd_LassoFinderModel_unpack_113 (by decide) ?_
        refine lv_istore_n hx hb zd_LassoFinderModel_unpack_114 rfl hl (by decide) rfl (fun ls hl => ?_)
        have hl : lv_has ls 5 [(3, .int 0), (0, .ref (ad 0)), (1, .long x1)] := hl
        obtain ⟨n9, hok⟩ := hok
        exact hl_115 n9 x1 0 I J B D ls H locs hok (lv_sub hl [1, 2, 0] rfl) hw
      · have hok := hok.2 hc24
        refine lv_aload_n hx hb zd_LassoFinderModel_unpack_42 rfl (lv_at hl 0 rfl) ?_
        refine z_get (v := .ref (ad 40)) hx hb hts hown hK hw zZ12 0 rfl 56 (by decide) zm_274 rfl zd_LassoFinderModel_unpack_43 ?_
        refine lv_iload_n hx hb zd_LassoFinderModel_unpack_46 rfl (lv_at hl 2 rfl) ?_
        refine lv_lload_n hx hb zd_LassoFinderModel_unpack_47 rfl (lv_at hl 1 rfl) ?_
        refine lv_bipush (v := 18) hx hb zd_LassoFinderModel_unpack_48 (by decide) ?_
        refine lv_bipush (v := 11) hx hb zd_LassoFinderModel_unpack_50 (by decide) ?_
        refine lv_iload_n hx hb zd_LassoFinderModel_unpack_52 rfl (lv_at hl 2 rfl) ?_
        refine lv_imul hx hb zd_LassoFinderModel_unpack_53 ?_
        refine lv_topi (fun z25 ez25 => ?_)
        have hok := hok z25 ez25
        refine lv_iadd hx hb zd_LassoFinderModel_unpack_54 ?_
        refine lv_topi (fun z26 ez26 => ?_)
        have hok := hok z26 ez26
        refine lv_lshr hx hb zd_LassoFinderModel_unpack_55 rfl ?_
        refine lv_topl (fun z27 ez27 => ?_)
        have hok := hok z27 ez27
        refine lv_ldc2 (v := 3) hx hb hown (hts _ zm_323) zd_LassoFinderModel_unpack_56 ?_
        refine lv_land hx hb zd_LassoFinderModel_unpack_59 ?_
        refine lv_topl (fun z28 ez28 => ?_)
        have hok := hok z28 ez28
        refine lv_l2i hx hb zd_LassoFinderModel_unpack_60 rfl ?_
        refine lv_topi (fun z29 ez29 => ?_)
        have hok := hok z29 ez29
        refine va_iast (f := (B 37)) hx hb hK hw.1 hw.2.1 hw.2.2 40 0 rfl rfl hok.1 zd_LassoFinderModel_unpack_61 (fun H locs a1 a2 a3 => ?_)
        have hok := hok.2
        have hw : zW G A s.heap _ H locs := ⟨a1, a2, a3⟩
        have hw : zW G A s.heap (wM ad K I J (va_up B 37 (upd (B 37) x3.toNatClampNeg z29)) D) H locs := hw
        refine lv_iconst (v := 0) hx hb zd_LassoFinderModel_unpack_62 (by decide) ?_
        refine lv_istore hx hb zd_LassoFinderModel_unpack_63 hl (by decide) rfl (fun ls hl => ?_)
        have hl : lv_has ls 5 [(4, .int 0), (0, .ref (ad 0)), (1, .long x1), (3, .int x3)] := hl
        obtain ⟨n9, hok⟩ := hok
        exact hl_65 n9 x1 x3 0 I J (va_up B 37 (upd (B 37) x3.toNatClampNeg z29)) D ls H locs hok (lv_sub hl [1, 2, 3, 0] rfl) hw
  have hl_2 : ∀ (n : Nat) (x1 : Int64) (x3 : Int32) (I : Nat → Int32) (J : Nat → Int64) (B : Nat → Nat → Int32) (D : Nat → Nat → Int64) (ls : Array Slot) (H : Heap) (locs : List Loc), wl_LassoFinderModel_unpack_2 a0 Post n x1 x3 I J B D → lv_has ls 5 [(0, .ref (ad 0)), (1, .long x1), (3, .int x3)] → zW G A s.heap (wM ad K I J B D) H locs → W p l e { frames := 0, cells := 0, slots := 0, locals := 0 } s m ([.ref (ad 0), .long a0] : List Value).toArray below meth c H locs 0 0 (MQ below (va_Qv (fun u : zS => Post u.1 u.2.1 u.2.2.1 u.2.2.2) (fun u t => zPost G K A (wM ad K u.1 u.2.1 u.2.2.1 u.2.2.2) t) A) ([.ref (ad 0), .long a0] : List Value).toArray s 0 0 A) (F0 m 2 ls []) := by
    intro n
    induction n with
    | zero => intro x1 x3 I J B D ls H locs hok; exact hok.elim
    | succ n_2 ih_2 =>
      intro x1 x3 I J B D ls H locs hok hl hw
      have hok : wb_LassoFinderModel_unpack_2 a0 (wl_LassoFinderModel_unpack_2 a0 Post n_2) Post x1 x3 I J B D := hok
      unfold wb_LassoFinderModel_unpack_2 at hok
      refine lv_iload_n hx hb zd_LassoFinderModel_unpack_2 rfl (lv_at hl 2 rfl) ?_
      refine lv_aload_n hx hb zd_LassoFinderModel_unpack_3 rfl (lv_at hl 0 rfl) ?_
      refine z_get (v := .int (I 6)) hx hb hts hown hK hw zZ12 0 rfl 7 (by decide) zm_308 rfl zd_LassoFinderModel_unpack_4 ?_
      refine lv_icmp_ge (tgt := 32) hx hb zd_LassoFinderModel_unpack_7 (by decide) (fun hc30 => ?_) (fun hc30 => ?_)
      · have hok := hok.1 hc30
        refine lv_iconst (v := 0) hx hb zd_LassoFinderModel_unpack_32 (by decide) ?_
        refine lv_istore_n hx hb zd_LassoFinderModel_unpack_33 rfl hl (by decide) rfl (fun ls hl => ?_)
        have hl : lv_has ls 5 [(3, .int 0), (0, .ref (ad 0)), (1, .long x1)] := hl
        obtain ⟨n9, hok⟩ := hok
        exact hl_34 n9 x1 0 I J B D ls H locs hok (lv_sub hl [1, 2, 0] rfl) hw
      · have hok := hok.2 hc30
        refine lv_aload_n hx hb zd_LassoFinderModel_unpack_10 rfl (lv_at hl 0 rfl) ?_
        refine z_get (v := .ref (ad 39)) hx hb hts hown hK hw zZ12 0 rfl 55 (by decide) zm_273 rfl zd_LassoFinderModel_unpack_11 ?_
        refine lv_iload_n hx hb zd_LassoFinderModel_unpack_14 rfl (lv_at hl 2 rfl) ?_
        refine lv_lload_n hx hb zd_LassoFinderModel_unpack_15 rfl (lv_at hl 1 rfl) ?_
        refine lv_iconst (v := 3) hx hb zd_LassoFinderModel_unpack_16 (by decide) ?_
        refine lv_iload_n hx hb zd_LassoFinderModel_unpack_17 rfl (lv_at hl 2 rfl) ?_
        refine lv_imul hx hb zd_LassoFinderModel_unpack_18 ?_
        refine lv_topi (fun z31 ez31 => ?_)
        have hok := hok z31 ez31
        refine lv_lshr hx hb zd_LassoFinderModel_unpack_19 rfl ?_
        refine lv_topl (fun z32 ez32 => ?_)
        have hok := hok z32 ez32
        refine lv_ldc2 (v := 7) hx hb hown (hts _ zm_321) zd_LassoFinderModel_unpack_20 ?_
        refine lv_land hx hb zd_LassoFinderModel_unpack_23 ?_
        refine lv_topl (fun z33 ez33 => ?_)
        have hok := hok z33 ez33
        refine lv_l2i hx hb zd_LassoFinderModel_unpack_24 rfl ?_
        refine lv_topi (fun z34 ez34 => ?_)
        have hok := hok z34 ez34
        refine va_iast (f := (B 36)) hx hb hK hw.1 hw.2.1 hw.2.2 39 0 rfl rfl hok.1 zd_LassoFinderModel_unpack_25 (fun H locs a1 a2 a3 => ?_)
        have hok := hok.2
        have hw : zW G A s.heap _ H locs := ⟨a1, a2, a3⟩
        have hw : zW G A s.heap (wM ad K I J (va_up B 36 (upd (B 36) x3.toNatClampNeg z34)) D) H locs := hw
        obtain ⟨z35, ez35⟩ : ∃ z : Int32, z = (x3 + 1) := ⟨_, rfl⟩
        have hok := hok z35 ez35
        refine lv_iinc (v := z35) hx hb zd_LassoFinderModel_unpack_26 hl (k := 2) rfl ez35.symm (by decide) rfl (fun ls hl => ?_)
        have hl : lv_has ls 5 [(3, .int z35), (0, .ref (ad 0)), (1, .long x1)] := hl
        refine lv_goto (tgt := 2) hx hb zd_LassoFinderModel_unpack_29 (by decide) ?_
        exact ih_2 x1 z35 I J (va_up B 36 (upd (B 36) x3.toNatClampNeg z34)) D ls H locs hok (lv_sub hl [1, 2, 0] rfl) hw
  have hl : lv_has ls 5 [(0, .ref (ad 0)), (1, .long a0)] := hl
  have hw : zW G A s.heap (wM ad K I J B D) H locs := hw
  unfold wp_LassoFinderModel_unpack at hok
  refine lv_iconst (v := 0) hx hb zd_LassoFinderModel_unpack_0 (by decide) ?_
  refine lv_istore_n hx hb zd_LassoFinderModel_unpack_1 rfl hl (by decide) rfl (fun ls hl => ?_)
  have hl : lv_has ls 5 [(3, .int 0), (0, .ref (ad 0)), (1, .long a0)] := hl
  obtain ⟨n9, hok⟩ := hok
  exact hl_2 n9 a0 0 I J B D ls H locs hok (lv_sub hl [1, 2, 0] rfl) hw
def wc_LassoFinderModel_goesOn_71 (a0 : Int32) (a1 : Int32) (Post : Int32 → (Nat → Int32) → (Nat → Int64) → (Nat → Nat → Int32) → (Nat → Nat → Int64) → Prop) (y0 : Int32) (I : Nat → Int32) (J : Nat → Int64) (B : Nat → Nat → Int32) (D : Nat → Nat → Int64) : Prop :=
  (y0 = 0 ∨ y0 = 1) ∧ Post y0 I J B D
def wc_LassoFinderModel_goesOn_70 (a0 : Int32) (a1 : Int32) (Post : Int32 → (Nat → Int32) → (Nat → Int64) → (Nat → Nat → Int32) → (Nat → Nat → Int64) → Prop)  (I : Nat → Int32) (J : Nat → Int64) (B : Nat → Nat → Int32) (D : Nat → Nat → Int64) : Prop :=
  wc_LassoFinderModel_goesOn_71 a0 a1 Post 0 I J B D
def wp_LassoFinderModel_goesOn (I : Nat → Int32) (J : Nat → Int64) (B : Nat → Nat → Int32) (D : Nat → Nat → Int64) (a0 : Int32) (a1 : Int32) (Post : Int32 → (Nat → Int32) → (Nat → Int64) → (Nat → Nat → Int32) → (Nat → Nat → Int64) → Prop) : Prop :=
  vp_in a1 140 ∧ ∀ z1 : Int32, z1 = ((B 17) a1.toNatClampNeg) → vp_in a0 4 ∧ vp_in a1 140 ∧ ∀ z2 : Int32, z2 = ((B 10) a1.toNatClampNeg) → ((z2 < 0 → wc_LassoFinderModel_goesOn_70 a0 a1 Post I J (va_up B 39 (upd (B 39) a0.toNatClampNeg z1)) D) ∧ (¬ z2 < 0 → vp_in a0 4 ∧ ∀ z4 : Int32, z4 = ((upd (B 39) a0.toNatClampNeg z1) a0.toNatClampNeg) → vp_in a0 5 ∧ ∀ z5 : Int32, z5 = ((B 20) a0.toNatClampNeg) → ((z5 ≤ z4 → wc_LassoFinderModel_goesOn_70 a0 a1 Post I J (va_up B 39 (upd (B 39) a0.toNatClampNeg z1)) D) ∧ (¬ z5 ≤ z4 → ∀ z7 : Int32, z7 = (31 * a0) → vp_in a0 4 ∧ ∀ z8 : Int32, z8 = ((upd (B 39) a0.toNatClampNeg z1) a0.toNatClampNeg) → ∀ z9 : Int32, z9 = (z7 + z8) → vp_in z9 124 ∧ ∀ z10 : Int32, z10 = ((B 23) z9.toNatClampNeg) → vp_in z10 140 ∧ ∀ z11 : Int32, z11 = ((B 10) z10.toNatClampNeg) → vp_in a1 140 ∧ ∀ z12 : Int32, z12 = ((B 10) a1.toNatClampNeg) → ((¬ z11 = z12 → wc_LassoFinderModel_goesOn_70 a0 a1 Post I J (va_up B 39 (upd (B 39) a0.toNatClampNeg z1)) D) ∧ (z11 = z12 → wc_LassoFinderModel_goesOn_71 a0 a1 Post 1 I J (va_up B 39 (upd (B 39) a0.toNatClampNeg z1)) D))))))
set_option maxHeartbeats 8000000 in
set_option maxRecDepth 100000 in
theorem w_LassoFinderModel_goesOn (l : Launch) (G : va_G) (K : Nat → ClassId) (ad : Nat → Nat) (I : Nat → Int32) (J : Nat → Int64) (B : Nat → Nat → Int32) (D : Nat → Nat → Int64) (a0 : Int32) (a1 : Int32) (Post : Int32 → (Nat → Int32) → (Nat → Int64) → (Nat → Nat → Int32) → (Nat → Nat → Int64) → Prop) (sz : Nat) (hok : wp_LassoFinderModel_goesOn I J B D a0 a1 Post) : Met l zy_LassoFinderModel_goesOn (Cond.code zy_LassoFinderModel_goesOn prog_14_method_34_code 3 (some .boolean) :: zTB) { frames := 0, cells := 0, slots := 0, locals := 0 } (va_Pc [.ref (ad 0), .int a0, .int a1] (zPre G K (wM ad K I J B D) sz)) (va_Qi (fun (r : Int32) (u : zS) => Post r u.1 u.2.1 u.2.2.1 u.2.2.2) (fun u t => zPost G K (va_A (wM ad K I J B D) sz) (wM ad K u.1 u.2.1 u.2.2.1 u.2.2.2) t) (va_A (wM ad K I J B D) sz)) 0 0 (va_A (wM ad K I J B D) sz) := by
  refine zMet (y := zy_LassoFinderModel_goesOn) (av := [.ref (ad 0), .int a0, .int a1]) (maxL := 3) (cc := prog_14_method_34_code) (ret := (some .boolean)) (W0 := (wM ad K I J B D)) (sz := sz) (G := G) (K := K) (wt := zTB) (mc := 0) (ms := 0) (Qf := fun A => va_Qi (fun (r : Int32) (u : zS) => Post r u.1 u.2.1 u.2.2.1 u.2.2.2) (fun u t => zPost G K A (wM ad K u.1 u.2.1 u.2.2.1 u.2.2.2) t) A) (by decide) (Nat.le_of_ble_eq_true rfl) ?_
  intro p e s m below meth c ls A hx hb hr hml hts hown hlocks hin hA hK H locs hw hsz hl
  clear hsz
  have hown : s.vm.findClass "LassoFinderModel" = some m.cls := hown
  have hj_71 : ∀ (y0 : Int32) (I : Nat → Int32) (J : Nat → Int64) (B : Nat → Nat → Int32) (D : Nat → Nat → Int64) (ls : Array Slot) (H : Heap) (locs : List Loc), wc_LassoFinderModel_goesOn_71 a0 a1 Post y0 I J B D → lv_has ls 3 [] → zW G A s.heap (wM ad K I J B D) H locs → W p l e { frames := 0, cells := 0, slots := 0, locals := 0 } s m ([.ref (ad 0), .int a0, .int a1] : List Value).toArray below meth c H locs 0 0 (MQ below (va_Qi (fun (r : Int32) (u : zS) => Post r u.1 u.2.1 u.2.2.1 u.2.2.2) (fun u t => zPost G K A (wM ad K u.1 u.2.1 u.2.2.1 u.2.2.2) t) A) ([.ref (ad 0), .int a0, .int a1] : List Value).toArray s 0 0 A) (F0 m 71 ls [.int y0]) := by
    intro y0 I J B D ls H locs hok hl hw
    unfold wc_LassoFinderModel_goesOn_71 at hok
    have hbo := hok.1
    have hok := hok.2
    exact z_iret (u := (I, J, B, D)) hx hb hr hlocks (z_nar hbo) hw [0, 1, 2, 3, 4, 5, 6, 7, 8, 9, 10, 11, 12, 13, 14, 15, 16, 17, 18, 19, 20, 21, 22, 23, 24, 25, 26, 27, 28, 29, 30, 31, 32, 33, 34, 35, 36, 37, 38, 39, 40, 41, 42, 43, 44, 45, 46, 47, 48, 49, 50, 51, 52, 53, 54, 55, 56, 57] rfl (by decide) hok (Nat.le_of_ble_eq_true rfl) (Nat.le_of_ble_eq_true rfl) zd_LassoFinderModel_goesOn_71
  have hj_70 : ∀  (I : Nat → Int32) (J : Nat → Int64) (B : Nat → Nat → Int32) (D : Nat → Nat → Int64) (ls : Array Slot) (H : Heap) (locs : List Loc), wc_LassoFinderModel_goesOn_70 a0 a1 Post  I J B D → lv_has ls 3 [] → zW G A s.heap (wM ad K I J B D) H locs → W p l e { frames := 0, cells := 0, slots := 0, locals := 0 } s m ([.ref (ad 0), .int a0, .int a1] : List Value).toArray below meth c H locs 0 0 (MQ below (va_Qi (fun (r : Int32) (u : zS) => Post r u.1 u.2.1 u.2.2.1 u.2.2.2) (fun u t => zPost G K A (wM ad K u.1 u.2.1 u.2.2.1 u.2.2.2) t) A) ([.ref (ad 0), .int a0, .int a1] : List Value).toArray s 0 0 A) (F0 m 70 ls []) := by
    intro  I J B D ls H locs hok hl hw
    unfold wc_LassoFinderModel_goesOn_70 at hok
    refine lv_iconst (v := 0) hx hb zd_LassoFinderModel_goesOn_70 (by decide) ?_
    exact hj_71 0 I J B D ls H locs hok (lv_sub hl [] rfl) hw
  have hl : lv_has ls 3 [(0, .ref (ad 0)), (1, .int a0), (2, .int a1)] := hl
  have hw : zW G A s.heap (wM ad K I J B D) H locs := hw
  unfold wp_LassoFinderModel_goesOn at hok
  refine lv_aload_n hx hb zd_LassoFinderModel_goesOn_0 rfl (lv_at hl 0 rfl) ?_
  refine z_get (v := .ref (ad 42)) hx hb hts hown hK hw zZ12 0 rfl 58 (by decide) zm_276 rfl zd_LassoFinderModel_goesOn_1 ?_
  refine lv_iload_n hx hb zd_LassoFinderModel_goesOn_4 rfl (lv_at hl 1 rfl) ?_
  refine lv_aload_n hx hb zd_LassoFinderModel_goesOn_5 rfl (lv_at hl 0 rfl) ?_
  refine z_get (v := .ref (ad 18)) hx hb hts hown hK hw zZ12 0 rfl 26 (by decide) zm_252 rfl zd_LassoFinderModel_goesOn_6 ?_
  refine lv_iload_n hx hb zd_LassoFinderModel_goesOn_9 rfl (lv_at hl 2 rfl) ?_
  refine va_iald (f := (B 17)) hx hb hK hw.1 18 0 rfl rfl hok.1 zd_LassoFinderModel_goesOn_10 ?_
  have hok := hok.2
  refine lv_topi (fun z1 ez1 => ?_)
  have hok := hok z1 ez1
  refine va_iast (f := (B 39)) hx hb hK hw.1 hw.2.1 hw.2.2 42 0 rfl rfl hok.1 zd_LassoFinderModel_goesOn_11 (fun H locs a1 a2 a3 => ?_)
  have hok := hok.2
  have hw : zW G A s.heap _ H locs := ⟨a1, a2, a3⟩
  have hw : zW G A s.heap (wM ad K I J (va_up B 39 (upd (B 39) a0.toNatClampNeg z1)) D) H locs := hw
  refine lv_aload_n hx hb zd_LassoFinderModel_goesOn_12 rfl (lv_at hl 0 rfl) ?_
  refine z_get (v := .ref (ad 11)) hx hb hts hown hK hw zZ12 0 rfl 19 (by decide) zm_245 rfl zd_LassoFinderModel_goesOn_13 ?_
  refine lv_iload_n hx hb zd_LassoFinderModel_goesOn_16 rfl (lv_at hl 2 rfl) ?_
  refine va_iald (f := (B 10)) hx hb hK hw.1 11 0 rfl rfl hok.1 zd_LassoFinderModel_goesOn_17 ?_
  have hok := hok.2
  refine lv_topi (fun z2 ez2 => ?_)
  have hok := hok z2 ez2
  refine lv_if_lt (tgt := 70) hx hb zd_LassoFinderModel_goesOn_18 (by decide) (fun hc3 => ?_) (fun hc3 => ?_)
  · have hok := hok.1 hc3
    exact hj_70 I J (va_up B 39 (upd (B 39) a0.toNatClampNeg z1)) D ls H locs hok (lv_sub hl [] rfl) hw
  · have hok := hok.2 hc3
    refine lv_aload_n hx hb zd_LassoFinderModel_goesOn_21 rfl (lv_at hl 0 rfl) ?_
    refine z_get (v := .ref (ad 42)) hx hb hts hown hK hw zZ12 0 rfl 58 (by decide) zm_276 rfl zd_LassoFinderModel_goesOn_22 ?_
    refine lv_iload_n hx hb zd_LassoFinderModel_goesOn_25 rfl (lv_at hl 1 rfl) ?_
    refine va_iald (f := (upd (B 39) a0.toNatClampNeg z1)) hx hb hK hw.1 42 0 rfl rfl hok.1 zd_LassoFinderModel_goesOn_26 ?_
    have hok := hok.2
    refine lv_topi (fun z4 ez4 => ?_)
    have hok := hok z4 ez4
    refine lv_aload_n hx hb zd_LassoFinderModel_goesOn_27 rfl (lv_at hl 0 rfl) ?_
    refine z_get (v := .ref (ad 21)) hx hb hts hown hK hw zZ12 0 rfl 31 (by decide) zm_255 rfl zd_LassoFinderModel_goesOn_28 ?_
    refine lv_iload_n hx hb zd_LassoFinderModel_goesOn_31 rfl (lv_at hl 1 rfl) ?_
    refine va_iald (f := (B 20)) hx hb hK hw.1 21 0 rfl rfl hok.1 zd_LassoFinderModel_goesOn_32 ?_
    have hok := hok.2
    refine lv_topi (fun z5 ez5 => ?_)
    have hok := hok z5 ez5
    refine lv_icmp_ge (tgt := 70) hx hb zd_LassoFinderModel_goesOn_33 (by decide) (fun hc6 => ?_) (fun hc6 => ?_)
    · have hok := hok.1 hc6
      exact hj_70 I J (va_up B 39 (upd (B 39) a0.toNatClampNeg z1)) D ls H locs hok (lv_sub hl [] rfl) hw
    · have hok := hok.2 hc6
      refine lv_aload_n hx hb zd_LassoFinderModel_goesOn_36 rfl (lv_at hl 0 rfl) ?_
      refine z_get (v := .ref (ad 11)) hx hb hts hown hK hw zZ12 0 rfl 19 (by decide) zm_245 rfl zd_LassoFinderModel_goesOn_37 ?_
      refine lv_aload_n hx hb zd_LassoFinderModel_goesOn_40 rfl (lv_at hl 0 rfl) ?_
      refine z_get (v := .ref (ad 24)) hx hb hts hown hK hw zZ12 0 rfl 34 (by decide) zm_258 rfl zd_LassoFinderModel_goesOn_41 ?_
      refine lv_bipush (v := 31) hx hb zd_LassoFinderModel_goesOn_44 (by decide) ?_
      refine lv_iload_n hx hb zd_LassoFinderModel_goesOn_46 rfl (lv_at hl 1 rfl) ?_
      refine lv_imul hx hb zd_LassoFinderModel_goesOn_47 ?_
      refine lv_topi (fun z7 ez7 => ?_)
      have hok := hok z7 ez7
      refine lv_aload_n hx hb zd_LassoFinderModel_goesOn_48 rfl (lv_at hl 0 rfl) ?_
      refine z_get (v := .ref (ad 42)) hx hb hts hown hK hw zZ12 0 rfl 58 (by decide) zm_276 rfl zd_LassoFinderModel_goesOn_49 ?_
      refine lv_iload_n hx hb zd_LassoFinderModel_goesOn_52 rfl (lv_at hl 1 rfl) ?_
      refine va_iald (f := (upd (B 39) a0.toNatClampNeg z1)) hx hb hK hw.1 42 0 rfl rfl hok.1 zd_LassoFinderModel_goesOn_53 ?_
      have hok := hok.2
      refine lv_topi (fun z8 ez8 => ?_)
      have hok := hok z8 ez8
      refine lv_iadd hx hb zd_LassoFinderModel_goesOn_54 ?_
      refine lv_topi (fun z9 ez9 => ?_)
      have hok := hok z9 ez9
      refine va_iald (f := (B 23)) hx hb hK hw.1 24 0 rfl rfl hok.1 zd_LassoFinderModel_goesOn_55 ?_
      have hok := hok.2
      refine lv_topi (fun z10 ez10 => ?_)
      have hok := hok z10 ez10
      refine va_iald (f := (B 10)) hx hb hK hw.1 11 0 rfl rfl hok.1 zd_LassoFinderModel_goesOn_56 ?_
      have hok := hok.2
      refine lv_topi (fun z11 ez11 => ?_)
      have hok := hok z11 ez11
      refine lv_aload_n hx hb zd_LassoFinderModel_goesOn_57 rfl (lv_at hl 0 rfl) ?_
      refine z_get (v := .ref (ad 11)) hx hb hts hown hK hw zZ12 0 rfl 19 (by decide) zm_245 rfl zd_LassoFinderModel_goesOn_58 ?_
      refine lv_iload_n hx hb zd_LassoFinderModel_goesOn_61 rfl (lv_at hl 2 rfl) ?_
      refine va_iald (f := (B 10)) hx hb hK hw.1 11 0 rfl rfl hok.1 zd_LassoFinderModel_goesOn_62 ?_
      have hok := hok.2
      refine lv_topi (fun z12 ez12 => ?_)
      have hok := hok z12 ez12
      refine lv_icmp_ne (tgt := 70) hx hb zd_LassoFinderModel_goesOn_63 (by decide) (fun hc13 => ?_) (fun hc13 => ?_)
      · have hok := hok.1 hc13
        exact hj_70 I J (va_up B 39 (upd (B 39) a0.toNatClampNeg z1)) D ls H locs hok (lv_sub hl [] rfl) hw
      · have hok := hok.2 hc13
        refine lv_iconst (v := 1) hx hb zd_LassoFinderModel_goesOn_66 (by decide) ?_
        refine lv_goto (tgt := 71) hx hb zd_LassoFinderModel_goesOn_67 (by decide) ?_
        exact hj_71 1 I J (va_up B 39 (upd (B 39) a0.toNatClampNeg z1)) D ls H locs hok (lv_sub hl [] rfl) hw
def wc_LassoFinderModel_worth_223 (a0 : Int32) (a1 : Int32) (K5 : Int32 → Int32 → Int32 → (Nat → Int32) → (Nat → Int64) → (Nat → Nat → Int32) → (Nat → Nat → Int64) → Prop) (Post : Int32 → (Nat → Int32) → (Nat → Int64) → (Nat → Nat → Int32) → (Nat → Nat → Int64) → Prop) (x2 : Int32) (x3 : Int32) (x4 : Int32) (I : Nat → Int32) (J : Nat → Int64) (B : Nat → Nat → Int32) (D : Nat → Nat → Int64) : Prop :=
  ∀ z1 : Int32, z1 = (x4 + 1) → K5 x2 x3 z1 I J B D
def wc_LassoFinderModel_worth_222 (a0 : Int32) (a1 : Int32) (K5 : Int32 → Int32 → Int32 → (Nat → Int32) → (Nat → Int64) → (Nat → Nat → Int32) → (Nat → Nat → Int64) → Prop) (Post : Int32 → (Nat → Int32) → (Nat → Int64) → (Nat → Nat → Int32) → (Nat → Nat → Int64) → Prop) (x2 : Int32) (x3 : Int32) (x4 : Int32) (y0 : Int32) (y1 : Int32) (I : Nat → Int32) (J : Nat → Int64) (B : Nat → Nat → Int32) (D : Nat → Nat → Int64) : Prop :=
  vp_in y1 240 ∧ wc_LassoFinderModel_worth_223 a0 a1 K5 Post x2 x3 x4 I J (va_up B 40 (upd (B 40) y1.toNatClampNeg y0)) D
def wc_LassoFinderModel_worth_99 (a0 : Int32) (a1 : Int32) (K5 : Int32 → Int32 → Int32 → (Nat → Int32) → (Nat → Int64) → (Nat → Nat → Int32) → (Nat → Nat → Int64) → Prop) (Post : Int32 → (Nat → Int32) → (Nat → Int64) → (Nat → Nat → Int32) → (Nat → Nat → Int64) → Prop) (x2 : Int32) (x3 : Int32) (x4 : Int32) (y0 : Int32) (y1 : Int32) (I : Nat → Int32) (J : Nat → Int64) (B : Nat → Nat → Int32) (D : Nat → Nat → Int64) : Prop :=
  vp_in y1 240 ∧ ∀ z2 : Int32, z2 = (x3 + 1) → wc_LassoFinderModel_worth_223 a0 a1 K5 Post x2 z2 x4 I J (va_up B 40 (upd (B 40) y1.toNatClampNeg y0)) D
def wb_LassoFinderModel_worth_5 (a0 : Int32) (a1 : Int32) (K5 : Int32 → Int32 → Int32 → (Nat → Int32) → (Nat → Int64) → (Nat → Nat → Int32) → (Nat → Nat → Int64) → Prop) (Post : Int32 → (Nat → Int32) → (Nat → Int64) → (Nat → Nat → Int32) → (Nat → Nat → Int64) → Prop) (x2 : Int32) (x3 : Int32) (x4 : Int32) (I : Nat → Int32) (J : Nat → Int64) (B : Nat → Nat → Int32) (D : Nat → Nat → Int64) : Prop :=
  ((x2 ≤ x4 → vp_in 0 240 ∧ ∀ z4 : Int32, z4 = ((B 40) (0 : Int32).toNatClampNeg) → Post z4 I J B D) ∧ (¬ x2 ≤ x4 → vp_in x4 480 ∧ ∀ z5 : Int32, z5 = ((B 24) x4.toNatClampNeg) → (((8 : Int32) ≤ z5 → (((16 : Int32) ≤ z5 → ∀ z8 : Int32, z8 = (x3 + (-1)) → ∀ z9 : Int32, z9 = (z8 - 1) → vp_in z9 240 ∧ ∀ z10 : Int32, z10 = ((B 40) z9.toNatClampNeg) → vp_in z8 240 ∧ ∀ z11 : Int32, z11 = ((B 40) z8.toNatClampNeg) → ∀ z12 : Int32, z12 = (z8 - 1) → ((¬ z5 = 16 → ((¬ z5 = 17 → ((¬ z5 = 18 → ((¬ z5 = 19 → ((z11 ≤ z10 → wc_LassoFinderModel_worth_222 a0 a1 K5 Post x2 z8 x4 0 z12 I J B D) ∧ (¬ z11 ≤ z10 → wc_LassoFinderModel_worth_222 a0 a1 K5 Post x2 z8 x4 1 z12 I J B D))) ∧ (z5 = 19 → ((¬ z10 = z11 → wc_LassoFinderModel_worth_222 a0 a1 K5 Post x2 z8 x4 0 z12 I J B D) ∧ (z10 = z11 → wc_LassoFinderModel_worth_222 a0 a1 K5 Post x2 z8 x4 1 z12 I J B D))))) ∧ (z5 = 18 → ∀ z19 : Int32, z19 = (z10 * z11) → ∀ z20 : Int32, z20 = (z19 &&& 7) → wc_LassoFinderModel_worth_222 a0 a1 K5 Post x2 z8 x4 z20 z12 I J B D))) ∧ (z5 = 17 → ∀ z21 : Int32, z21 = (z10 - z11) → ∀ z22 : Int32, z22 = (z21 &&& 7) → wc_LassoFinderModel_worth_222 a0 a1 K5 Post x2 z8 x4 z22 z12 I J B D))) ∧ (z5 = 16 → ∀ z23 : Int32, z23 = (z10 + z11) → ∀ z24 : Int32, z24 = (z23 &&& 7) → wc_LassoFinderModel_worth_222 a0 a1 K5 Post x2 z8 x4 z24 z12 I J B D))) ∧ (¬ (16 : Int32) ≤ z5 → ∀ z25 : Int32, z25 = (z5 - 8) → vp_in z25 8 ∧ ∀ z26 : Int32, z26 = ((B 1) z25.toNatClampNeg) → ((z26 < 0 → ∀ z28 : Int32, z28 = (z5 - 8) → vp_in z28 8 ∧ ∀ z29 : Int32, z29 = ((B 2) z28.toNatClampNeg) → vp_in z29 2 ∧ ∀ z30 : Int32, z30 = ((B 37) z29.toNatClampNeg) → wc_LassoFinderModel_worth_99 a0 a1 K5 Post x2 x3 x4 z30 x3 I J B D) ∧ (¬ z26 < 0 → ∀ z31 : Int32, z31 = (z5 - 8) → vp_in z31 8 ∧ ∀ z32 : Int32, z32 = ((B 1) z31.toNatClampNeg) → vp_in z32 6 ∧ ∀ z33 : Int32, z33 = ((B 36) z32.toNatClampNeg) → wc_LassoFinderModel_worth_99 a0 a1 K5 Post x2 x3 x4 z33 x3 I J B D))))) ∧ (¬ (8 : Int32) ≤ z5 → vp_in x3 240 ∧ ∀ z34 : Int32, z34 = (x3 + 1) → wc_LassoFinderModel_worth_223 a0 a1 K5 Post x2 z34 x4 I J (va_up B 40 (upd (B 40) x3.toNatClampNeg z5)) D))))
def wl_LassoFinderModel_worth_5 (a0 : Int32) (a1 : Int32) (Post : Int32 → (Nat → Int32) → (Nat → Int64) → (Nat → Nat → Int32) → (Nat → Nat → Int64) → Prop) (n : Nat) : Int32 → Int32 → Int32 → (Nat → Int32) → (Nat → Int64) → (Nat → Nat → Int32) → (Nat → Nat → Int64) → Prop := Nat.rec (fun _ _ _ _ _ _ _ => False) (fun _ r => wb_LassoFinderModel_worth_5 a0 a1 r Post) n
def wp_LassoFinderModel_worth (I : Nat → Int32) (J : Nat → Int64) (B : Nat → Nat → Int32) (D : Nat → Nat → Int64) (a0 : Int32) (a1 : Int32) (Post : Int32 → (Nat → Int32) → (Nat → Int64) → (Nat → Nat → Int32) → (Nat → Nat → Int64) → Prop) : Prop :=
  ∃ n : Nat, wl_LassoFinderModel_worth_5 a0 a1 Post n a1 0 a0 I J B D
set_option maxHeartbeats 8000000 in
set_option maxRecDepth 100000 in
theorem w_LassoFinderModel_worth (l : Launch) (G : va_G) (K : Nat → ClassId) (ad : Nat → Nat) (I : Nat → Int32) (J : Nat → Int64) (B : Nat → Nat → Int32) (D : Nat → Nat → Int64) (a0 : Int32) (a1 : Int32) (Post : Int32 → (Nat → Int32) → (Nat → Int64) → (Nat → Nat → Int32) → (Nat → Nat → Int64) → Prop) (sz : Nat) (hok : wp_LassoFinderModel_worth I J B D a0 a1 Post) : Met l zy_LassoFinderModel_worth (Cond.code zy_LassoFinderModel_worth prog_14_method_13_code 8 (some .int) :: zTB) { frames := 0, cells := 0, slots := 0, locals := 0 } (va_Pc [.ref (ad 0), .int a0, .int a1] (zPre G K (wM ad K I J B D) sz)) (va_Qi (fun (r : Int32) (u : zS) => Post r u.1 u.2.1 u.2.2.1 u.2.2.2) (fun u t => zPost G K (va_A (wM ad K I J B D) sz) (wM ad K u.1 u.2.1 u.2.2.1 u.2.2.2) t) (va_A (wM ad K I J B D) sz)) 0 0 (va_A (wM ad K I J B D) sz) := by
  refine zMet (y := zy_LassoFinderModel_worth) (av := [.ref (ad 0), .int a0, .int a1]) (maxL := 8) (cc := prog_14_method_13_code) (ret := (some .int)) (W0 := (wM ad K I J B D)) (sz := sz) (G := G) (K := K) (wt := zTB) (mc := 0) (ms := 0) (Qf := fun A => va_Qi (fun (r : Int32) (u : zS) => Post r u.1 u.2.1 u.2.2.1 u.2.2.2) (fun u t => zPost G K A (wM ad K u.1 u.2.1 u.2.2.1 u.2.2.2) t) A) (by decide) (Nat.le_of_ble_eq_true rfl) ?_
  intro p e s m below meth c ls A hx hb hr hml hts hown hlocks hin hA hK H locs hw hsz hl
  clear hsz
  have hown : s.vm.findClass "LassoFinderModel" = some m.cls := hown
  have hl_5 : ∀ (n : Nat) (x2 : Int32) (x3 : Int32) (x4 : Int32) (I : Nat → Int32) (J : Nat → Int64) (B : Nat → Nat → Int32) (D : Nat → Nat → Int64) (ls : Array Slot) (H : Heap) (locs : List Loc), wl_LassoFinderModel_worth_5 a0 a1 Post n x2 x3 x4 I J B D → lv_has ls 8 [(0, .ref (ad 0)), (2, .int x2), (3, .int x3), (4, .int x4)] → zW G A s.heap (wM ad K I J B D) H locs → W p l e { frames := 0, cells := 0, slots := 0, locals := 0 } s m ([.ref (ad 0), .int a0, .int a1] : List Value).toArray below meth c H locs 0 0 (MQ below (va_Qi (fun (r : Int32) (u : zS) => Post r u.1 u.2.1 u.2.2.1 u.2.2.2) (fun u t => zPost G K A (wM ad K u.1 u.2.1 u.2.2.1 u.2.2.2) t) A) ([.ref (ad 0), .int a0, .int a1] : List Value).toArray s 0 0 A) (F0 m 5 ls []) := by
    intro n
    induction n with
    | zero => intro x2 x3 x4 I J B D ls H locs hok; exact hok.elim
    | succ n_5 ih_5 =>
      have hj_223 : ∀ (x2 : Int32) (x3 : Int32) (x4 : Int32) (I : Nat → Int32) (J : Nat → Int64) (B : Nat → Nat → Int32) (D : Nat → Nat → Int64) (ls : Array Slot) (H : Heap) (locs : List Loc), wc_LassoFinderModel_worth_223 a0 a1 (wl_LassoFinderModel_worth_5 a0 a1 Post n_5) Post x2 x3 x4 I J B D → lv_has ls 8 [(0, .ref (ad 0)), (2, .int x2), (3, .int x3), (4, .int x4)] → zW G A s.heap (wM ad K I J B D) H locs → W p l e { frames := 0, cells := 0, slots := 0, locals := 0 } s m ([.ref (ad 0), .int a0, .int a1] : List Value).toArray below meth c H locs 0 0 (MQ below (va_Qi (fun (r : Int32) (u : zS) => Post r u.1 u.2.1 u.2.2.1 u.2.2.2) (fun u t => zPost G K A (wM ad K u.1 u.2.1 u.2.2.1 u.2.2.2) t) A) ([.ref (ad 0), .int a0, .int a1] : List Value).toArray s 0 0 A) (F0 m 223 ls []) := by
        intro x2 x3 x4 I J B D ls H locs hok hl hw
        unfold wc_LassoFinderModel_worth_223 at hok
        obtain ⟨z1, ez1⟩ : ∃ z : Int32, z = (x4 + 1) := ⟨_, rfl⟩
        have hok := hok z1 ez1
        refine lv_iinc (v := z1) hx hb zd_LassoFinderModel_worth_223 hl (k := 3) rfl ez1.symm (by decide) rfl (fun ls hl => ?_)
        have hl : lv_has ls 8 [(4, .int z1), (0, .ref (ad 0)), (2, .int x2), (3, .int x3)] := hl
        refine lv_goto (tgt := 5) hx hb zd_LassoFinderModel_worth_226 (by decide) ?_
        exact ih_5 x2 x3 z1 I J B D ls H locs hok (lv_sub hl [1, 2, 3, 0] rfl) hw
      have hj_222 : ∀ (x2 : Int32) (x3 : Int32) (x4 : Int32) (y0 : Int32) (y1 : Int32) (I : Nat → Int32) (J : Nat → Int64) (B : Nat → Nat → Int32) (D : Nat → Nat → Int64) (ls : Array Slot) (H : Heap) (locs : List Loc), wc_LassoFinderModel_worth_222 a0 a1 (wl_LassoFinderModel_worth_5 a0 a1 Post n_5) Post x2 x3 x4 y0 y1 I J B D → lv_has ls 8 [(0, .ref (ad 0)), (2, .int x2), (3, .int x3), (4, .int x4)] → zW G A s.heap (wM ad K I J B D) H locs → W p l e { frames := 0, cells := 0, slots := 0, locals := 0 } s m ([.ref (ad 0), .int a0, .int a1] : List Value).toArray below meth c H locs 0 0 (MQ below (va_Qi (fun (r : Int32) (u : zS) => Post r u.1 u.2.1 u.2.2.1 u.2.2.2) (fun u t => zPost G K A (wM ad K u.1 u.2.1 u.2.2.1 u.2.2.2) t) A) ([.ref (ad 0), .int a0, .int a1] : List Value).toArray s 0 0 A) (F0 m 222 ls [.int y0, .int y1, .ref (ad 43)]) := by
        intro x2 x3 x4 y0 y1 I J B D ls H locs hok hl hw
        unfold wc_LassoFinderModel_worth_222 at hok
        refine va_iast (f := (B 40)) hx hb hK hw.1 hw.2.1 hw.2.2 43 0 rfl rfl hok.1 zd_LassoFinderModel_worth_222 (fun H locs a1 a2 a3 => ?_)
        have hok := hok.2
        have hw : zW G A s.heap _ H locs := ⟨a1, a2, a3⟩
        have hw : zW G A s.heap (wM ad K I J (va_up B 40 (upd (B 40) y1.toNatClampNeg y0)) D) H locs := hw
        exact hj_223 x2 x3 x4 I J (va_up B 40 (upd (B 40) y1.toNatClampNeg y0)) D ls H locs hok (lv_sub hl [0, 1, 2, 3] rfl) hw
      have hj_99 : ∀ (x2 : Int32) (x3 : Int32) (x4 : Int32) (y0 : Int32) (y1 : Int32) (I : Nat → Int32) (J : Nat → Int64) (B : Nat → Nat → Int32) (D : Nat → Nat → Int64) (ls : Array Slot) (H : Heap) (locs : List Loc), wc_LassoFinderModel_worth_99 a0 a1 (wl_LassoFinderModel_worth_5 a0 a1 Post n_5) Post x2 x3 x4 y0 y1 I J B D → lv_has ls 8 [(0, .ref (ad 0)), (2, .int x2), (3, .int x3), (4, .int x4)] → zW G A s.heap (wM ad K I J B D) H locs → W p l e { frames := 0, cells := 0, slots := 0, locals := 0 } s m ([.ref (ad 0), .int a0, .int a1] : List Value).toArray below meth c H locs 0 0 (MQ below (va_Qi (fun (r : Int32) (u : zS) => Post r u.1 u.2.1 u.2.2.1 u.2.2.2) (fun u t => zPost G K A (wM ad K u.1 u.2.1 u.2.2.1 u.2.2.2) t) A) ([.ref (ad 0), .int a0, .int a1] : List Value).toArray s 0 0 A) (F0 m 99 ls [.int y0, .int y1, .ref (ad 43)]) := by
        intro x2 x3 x4 y0 y1 I J B D ls H locs hok hl hw
        unfold wc_LassoFinderModel_worth_99 at hok
        refine va_iast (f := (B 40)) hx hb hK hw.1 hw.2.1 hw.2.2 43 0 rfl rfl hok.1 zd_LassoFinderModel_worth_99 (fun H locs a1 a2 a3 => ?_)
        have hok := hok.2
        have hw : zW G A s.heap _ H locs := ⟨a1, a2, a3⟩
        have hw : zW G A s.heap (wM ad K I J (va_up B 40 (upd (B 40) y1.toNatClampNeg y0)) D) H locs := hw
        obtain ⟨z2, ez2⟩ : ∃ z : Int32, z = (x3 + 1) := ⟨_, rfl⟩
        have hok := hok z2 ez2
        refine lv_iinc (v := z2) hx hb zd_LassoFinderModel_worth_100 hl (k := 2) rfl ez2.symm (by decide) rfl (fun ls hl => ?_)
        have hl : lv_has ls 8 [(3, .int z2), (0, .ref (ad 0)), (2, .int x2), (4, .int x4)] := hl
        refine lv_goto (tgt := 223) hx hb zd_LassoFinderModel_worth_103 (by decide) ?_
        exact hj_223 x2 z2 x4 I J (va_up B 40 (upd (B 40) y1.toNatClampNeg y0)) D ls H locs hok (lv_sub hl [1, 2, 0, 3] rfl) hw
      intro x2 x3 x4 I J B D ls H locs hok hl hw
      have hok : wb_LassoFinderModel_worth_5 a0 a1 (wl_LassoFinderModel_worth_5 a0 a1 Post n_5) Post x2 x3 x4 I J B D := hok
      unfold wb_LassoFinderModel_worth_5 at hok
      refine lv_iload hx hb zd_LassoFinderModel_worth_5 (lv_at hl 3 rfl) ?_
      refine lv_iload_n hx hb zd_LassoFinderModel_worth_7 rfl (lv_at hl 1 rfl) ?_
      refine lv_icmp_ge (tgt := 229) hx hb zd_LassoFinderModel_worth_8 (by decide) (fun hc3 => ?_) (fun hc3 => ?_)
      · have hok := hok.1 hc3
        refine lv_aload_n hx hb zd_LassoFinderModel_worth_229 rfl (lv_at hl 0 rfl) ?_
        refine z_get (v := .ref (ad 43)) hx hb hts hown hK hw zZ12 0 rfl 60 (by decide) zm_277 rfl zd_LassoFinderModel_worth_230 ?_
        refine lv_iconst (v := 0) hx hb zd_LassoFinderModel_worth_233 (by decide) ?_
        refine va_iald (f := (B 40)) hx hb hK hw.1 43 0 rfl rfl hok.1 zd_LassoFinderModel_worth_234 ?_
        have hok := hok.2
        refine lv_topi (fun z4 ez4 => ?_)
        have hok := hok z4 ez4
        exact z_iret (u := (I, J, B, D)) hx hb hr hlocks rfl hw [0, 1, 2, 3, 4, 5, 6, 7, 8, 9, 10, 11, 12, 13, 14, 15, 16, 17, 18, 19, 20, 21, 22, 23, 24, 25, 26, 27, 28, 29, 30, 31, 32, 33, 34, 35, 36, 37, 38, 39, 40, 41, 42, 43, 44, 45, 46, 47, 48, 49, 50, 51, 52, 53, 54, 55, 56, 57] rfl (by decide) hok (Nat.le_of_ble_eq_true rfl) (Nat.le_of_ble_eq_true rfl) zd_LassoFinderModel_worth_235
      · have hok := hok.2 hc3
        refine lv_aload_n hx hb zd_LassoFinderModel_worth_11 rfl (lv_at hl 0 rfl) ?_
        refine z_get (v := .ref (ad 26)) hx hb hts hown hK hw zZ12 0 rfl 37 (by decide) zm_260 rfl zd_LassoFinderModel_worth_12 ?_
        refine lv_iload hx hb zd_LassoFinderModel_worth_15 (lv_at hl 3 rfl) ?_
        refine va_iald (f := (B 24)) hx hb hK hw.1 26 0 rfl rfl hok.1 zd_LassoFinderModel_worth_17 ?_
        have hok := hok.2
        refine lv_topi (fun z5 ez5 => ?_)
        have hok := hok z5 ez5
        refine lv_istore hx hb zd_LassoFinderModel_worth_18 hl (by decide) rfl (fun ls hl => ?_)
        have hl : lv_has ls 8 [(5, .int z5), (0, .ref (ad 0)), (2, .int x2), (3, .int x3), (4, .int x4)] := hl
        refine lv_iload hx hb zd_LassoFinderModel_worth_20 (lv_at hl 0 rfl) ?_
        refine lv_bipush (v := 8) hx hb zd_LassoFinderModel_worth_22 (by decide) ?_
        refine lv_icmp_ge (tgt := 41) hx hb zd_LassoFinderModel_worth_24 (by decide) (fun hc6 => ?_) (fun hc6 => ?_)
        · have hok := hok.1 hc6
          refine lv_iload hx hb zd_LassoFinderModel_worth_41 (lv_at hl 0 rfl) ?_
          refine lv_bipush (v := 16) hx hb zd_LassoFinderModel_worth_43 (by decide) ?_
          refine lv_icmp_ge (tgt := 106) hx hb zd_LassoFinderModel_worth_45 (by decide) (fun hc7 => ?_) (fun hc7 => ?_)
          · have hok := hok.1 hc7
            obtain ⟨z8, ez8⟩ : ∃ z : Int32, z = (x3 + (-1)) := ⟨_, rfl⟩
            have hok := hok z8 ez8
            refine lv_iinc (v := z8) hx hb zd_LassoFinderModel_worth_106 hl (k := 3) rfl ez8.symm (by decide) rfl (fun ls hl => ?_)
            have hl : lv_has ls 8 [(3, .int z8), (5, .int z5), (0, .ref (ad 0)), (2, .int x2), (4, .int x4)] := hl
            refine lv_aload_n hx hb zd_LassoFinderModel_worth_109 rfl (lv_at hl 2 rfl) ?_
            refine z_get (v := .ref (ad 43)) hx hb hts hown hK hw zZ12 0 rfl 60 (by decide) zm_277 rfl zd_LassoFinderModel_worth_110 ?_
            refine lv_iload_n hx hb zd_LassoFinderModel_worth_113 rfl (lv_at hl 0 rfl) ?_
            refine lv_iconst (v := 1) hx hb zd_LassoFinderModel_worth_114 (by decide) ?_
            refine lv_isub hx hb zd_LassoFinderModel_worth_115 ?_
            refine lv_topi (fun z9 ez9 => ?_)
            have hok := hok z9 ez9
            refine va_iald (f := (B 40)) hx hb hK hw.1 43 0 rfl rfl hok.1 zd_LassoFinderModel_worth_116 ?_
            have hok := hok.2
            refine lv_topi (fun z10 ez10 => ?_)
            have hok := hok z10 ez10
            refine lv_istore hx hb zd_LassoFinderModel_worth_117 hl (by decide) rfl (fun ls hl => ?_)
            have hl : lv_has ls 8 [(6, .int z10), (3, .int z8), (5, .int z5), (0, .ref (ad 0)), (2, .int x2), (4, .int x4)] := hl
            refine lv_aload_n hx hb zd_LassoFinderModel_worth_119 rfl (lv_at hl 3 rfl) ?_
            refine z_get (v := .ref (ad 43)) hx hb hts hown hK hw zZ12 0 rfl 60 (by decide) zm_277 rfl zd_LassoFinderModel_worth_120 ?_
            refine lv_iload_n hx hb zd_LassoFinderModel_worth_123 rfl (lv_at hl 1 rfl) ?_
            refine va_iald (f := (B 40)) hx hb hK hw.1 43 0 rfl rfl hok.1 zd_LassoFinderModel_worth_124 ?_
            have hok := hok.2
            refine lv_topi (fun z11 ez11 => ?_)
            have hok := hok z11 ez11
            refine lv_istore hx hb zd_LassoFinderModel_worth_125 hl (by decide) rfl (fun ls hl => ?_)
            have hl : lv_has ls 8 [(7, .int z11), (6, .int z10), (3, .int z8), (5, .int z5), (0, .ref (ad 0)), (2, .int x2), (4, .int x4)] := hl
            refine lv_aload_n hx hb zd_LassoFinderModel_worth_127 rfl (lv_at hl 4 rfl) ?_
            refine z_get (v := .ref (ad 43)) hx hb hts hown hK hw zZ12 0 rfl 60 (by decide) zm_277 rfl zd_LassoFinderModel_worth_128 ?_
            refine lv_iload_n hx hb zd_LassoFinderModel_worth_131 rfl (lv_at hl 2 rfl) ?_
            refine lv_iconst (v := 1) hx hb zd_LassoFinderModel_worth_132 (by decide) ?_
            refine lv_isub hx hb zd_LassoFinderModel_worth_133 ?_
            refine lv_topi (fun z12 ez12 => ?_)
            have hok := hok z12 ez12
            refine lv_iload hx hb zd_LassoFinderModel_worth_134 (lv_at hl 3 rfl) ?_
            refine lv_bipush (v := 16) hx hb zd_LassoFinderModel_worth_136 (by decide) ?_
            refine lv_icmp_ne (tgt := 152) hx hb zd_LassoFinderModel_worth_138 (by decide) (fun hc13 => ?_) (fun hc13 => ?_)
            · have hok := hok.1 hc13
              refine lv_iload hx hb zd_LassoFinderModel_worth_152 (lv_at hl 3 rfl) ?_
              refine lv_bipush (v := 17) hx hb zd_LassoFinderModel_worth_154 (by decide) ?_
              refine lv_icmp_ne (tgt := 170) hx hb zd_LassoFinderModel_worth_156 (by decide) (fun hc14 => ?_) (fun hc14 => ?_)
              · have hok := hok.1 hc14
                refine lv_iload hx hb zd_LassoFinderModel_worth_170 (lv_at hl 3 rfl) ?_
                refine lv_bipush (v := 18) hx hb zd_LassoFinderModel_worth_172 (by decide) ?_
                refine lv_icmp_ne (tgt := 188) hx hb zd_LassoFinderModel_worth_174 (by decide) (fun hc15 => ?_) (fun hc15 => ?_)
                · have hok := hok.1 hc15
                  refine lv_iload hx hb zd_LassoFinderModel_worth_188 (lv_at hl 3 rfl) ?_
                  refine lv_bipush (v := 19) hx hb zd_LassoFinderModel_worth_190 (by decide) ?_
                  refine lv_icmp_ne (tgt := 210) hx hb zd_LassoFinderModel_worth_192 (by decide) (fun hc16 => ?_) (fun hc16 => ?_)
                  · have hok := hok.1 hc16
                    refine lv_iload hx hb zd_LassoFinderModel_worth_210 (lv_at hl 1 rfl) ?_
                    refine lv_iload hx hb zd_LassoFinderModel_worth_212 (lv_at hl 0 rfl) ?_
                    refine lv_icmp_ge (tgt := 221) hx hb zd_LassoFinderModel_worth_214 (by decide) (fun hc17 => ?_) (fun hc17 => ?_)
                    · have hok := hok.1 hc17
                      refine lv_iconst (v := 0) hx hb zd_LassoFinderModel_worth_221 (by decide) ?_
                      exact hj_222 x2 z8 x4 0 z12 I J B D ls H locs hok (lv_sub hl [4, 5, 2, 6] rfl) hw
                    · have hok := hok.2 hc17
                      refine lv_iconst (v := 1) hx hb zd_LassoFinderModel_worth_217 (by decide) ?_
                      refine lv_goto (tgt := 222) hx hb zd_LassoFinderModel_worth_218 (by decide) ?_
                      exact hj_222 x2 z8 x4 1 z12 I J B D ls H locs hok (lv_sub hl [4, 5, 2, 6] rfl) hw
                  · have hok := hok.2 hc16
                    refine lv_iload hx hb zd_LassoFinderModel_worth_195 (lv_at hl 1 rfl) ?_
                    refine lv_iload hx hb zd_LassoFinderModel_worth_197 (lv_at hl 0 rfl) ?_
                    refine lv_icmp_ne (tgt := 206) hx hb zd_LassoFinderModel_worth_199 (by decide) (fun hc18 => ?_) (fun hc18 => ?_)
                    · have hok := hok.1 hc18
                      refine lv_iconst (v := 0) hx hb zd_LassoFinderModel_worth_206 (by decide) ?_
                      refine lv_goto (tgt := 222) hx hb zd_LassoFinderModel_worth_207 (by decide) ?_
                      exact hj_222 x2 z8 x4 0 z12 I J B D ls H locs hok (lv_sub hl [4, 5, 2, 6] rfl) hw
                    · have hok := hok.2 hc18
                      refine lv_iconst (v := 1) hx hb zd_LassoFinderModel_worth_202 (by decide) ?_
                      refine lv_goto (tgt := 222) hx hb zd_LassoFinderModel_worth_203 (by decide) ?_
                      exact hj_222 x2 z8 x4 1 z12 I J B D ls H locs hok (lv_sub hl [4, 5, 2, 6] rfl) hw
                · have hok := hok.2 hc15
                  refine lv_iload hx hb zd_LassoFinderModel_worth_177 (lv_at hl 1 rfl) ?_
                  refine lv_iload hx hb zd_LassoFinderModel_worth_179 (lv_at hl 0 rfl) ?_
                  refine lv_imul hx hb zd_LassoFinderModel_worth_181 ?_
                  refine lv_topi (fun z19 ez19 => ?_)
                  have hok := hok z19 ez19
                  refine lv_bipush (v := 7) hx hb zd_LassoFinderModel_worth_182 (by decide) ?_
                  refine lv_iand hx hb zd_LassoFinderModel_worth_184 ?_
                  refine lv_topi (fun z20 ez20 => ?_)
                  have hok := hok z20 ez20
                  refine lv_goto (tgt := 222) hx hb zd_LassoFinderModel_worth_185 (by decide) ?_
                  exact hj_222 x2 z8 x4 z20 z12 I J B D ls H locs hok (lv_sub hl [4, 5, 2, 6] rfl) hw
              · have hok := hok.2 hc14
                refine lv_iload hx hb zd_LassoFinderModel_worth_159 (lv_at hl 1 rfl) ?_
                refine lv_iload hx hb zd_LassoFinderModel_worth_161 (lv_at hl 0 rfl) ?_
                refine lv_isub hx hb zd_LassoFinderModel_worth_163 ?_
                refine lv_topi (fun z21 ez21 => ?_)
                have hok := hok z21 ez21
                refine lv_bipush (v := 7) hx hb zd_LassoFinderModel_worth_164 (by decide) ?_
                refine lv_iand hx hb zd_LassoFinderModel_worth_166 ?_
                refine lv_topi (fun z22 ez22 => ?_)
                have hok := hok z22 ez22
                refine lv_goto (tgt := 222) hx hb zd_LassoFinderModel_worth_167 (by decide) ?_
                exact hj_222 x2 z8 x4 z22 z12 I J B D ls H locs hok (lv_sub hl [4, 5, 2, 6] rfl) hw
            · have hok := hok.2 hc13
              refine lv_iload hx hb zd_LassoFinderModel_worth_141 (lv_at hl 1 rfl) ?_
              refine lv_iload hx hb zd_LassoFinderModel_worth_143 (lv_at hl 0 rfl) ?_
              refine lv_iadd hx hb zd_LassoFinderModel_worth_145 ?_
              refine lv_topi (fun z23 ez23 => ?_)
              have hok := hok z23 ez23
              refine lv_bipush (v := 7) hx hb zd_LassoFinderModel_worth_146 (by decide) ?_
              refine lv_iand hx hb zd_LassoFinderModel_worth_148 ?_
              refine lv_topi (fun z24 ez24 => ?_)
              have hok := hok z24 ez24
              refine lv_goto (tgt := 222) hx hb zd_LassoFinderModel_worth_149 (by decide) ?_
              exact hj_222 x2 z8 x4 z24 z12 I J B D ls H locs hok (lv_sub hl [4, 5, 2, 6] rfl) hw
          · have hok := hok.2 hc7
            refine lv_aload_n hx hb zd_LassoFinderModel_worth_48 rfl (lv_at hl 1 rfl) ?_
            refine z_get (v := .ref (ad 43)) hx hb hts hown hK hw zZ12 0 rfl 60 (by decide) zm_277 rfl zd_LassoFinderModel_worth_49 ?_
            refine lv_iload_n hx hb zd_LassoFinderModel_worth_52 rfl (lv_at hl 3 rfl) ?_
            refine lv_aload_n hx hb zd_LassoFinderModel_worth_53 rfl (lv_at hl 1 rfl) ?_
            refine z_get (v := .ref (ad 2)) hx hb hts hown hK hw zZ12 0 rfl 9 (by decide) zm_236 rfl zd_LassoFinderModel_worth_54 ?_
            refine lv_iload hx hb zd_LassoFinderModel_worth_57 (lv_at hl 0 rfl) ?_
            refine lv_bipush (v := 8) hx hb zd_LassoFinderModel_worth_59 (by decide) ?_
            refine lv_isub hx hb zd_LassoFinderModel_worth_61 ?_
            refine lv_topi (fun z25 ez25 => ?_)
            have hok := hok z25 ez25
            refine va_iald (f := (B 1)) hx hb hK hw.1 2 0 rfl rfl hok.1 zd_LassoFinderModel_worth_62 ?_
            have hok := hok.2
            refine lv_topi (fun z26 ez26 => ?_)
            have hok := hok z26 ez26
            refine lv_if_lt (tgt := 84) hx hb zd_LassoFinderModel_worth_63 (by decide) (fun hc27 => ?_) (fun hc27 => ?_)
            · have hok := hok.1 hc27
              refine lv_aload_n hx hb zd_LassoFinderModel_worth_84 rfl (lv_at hl 1 rfl) ?_
              refine z_get (v := .ref (ad 40)) hx hb hts hown hK hw zZ12 0 rfl 56 (by decide) zm_274 rfl zd_LassoFinderModel_worth_85 ?_
              refine lv_aload_n hx hb zd_LassoFinderModel_worth_88 rfl (lv_at hl 1 rfl) ?_
              refine z_get (v := .ref (ad 3)) hx hb hts hown hK hw zZ12 0 rfl 10 (by decide) zm_237 rfl zd_LassoFinderModel_worth_89 ?_
              refine lv_iload hx hb zd_LassoFinderModel_worth_92 (lv_at hl 0 rfl) ?_
              refine lv_bipush (v := 8) hx hb zd_LassoFinderModel_worth_94 (by decide) ?_
              refine lv_isub hx hb zd_LassoFinderModel_worth_96 ?_
              refine lv_topi (fun z28 ez28 => ?_)
              have hok := hok z28 ez28
              refine va_iald (f := (B 2)) hx hb hK hw.1 3 0 rfl rfl hok.1 zd_LassoFinderModel_worth_97 ?_
              have hok := hok.2
              refine lv_topi (fun z29 ez29 => ?_)
              have hok := hok z29 ez29
              refine va_iald (f := (B 37)) hx hb hK hw.1 40 0 rfl rfl hok.1 zd_LassoFinderModel_worth_98 ?_
              have hok := hok.2
              refine lv_topi (fun z30 ez30 => ?_)
              have hok := hok z30 ez30
              exact hj_99 x2 x3 x4 z30 x3 I J B D ls H locs hok (lv_sub hl [1, 2, 3, 4] rfl) hw
            · have hok := hok.2 hc27
              refine lv_aload_n hx hb zd_LassoFinderModel_worth_66 rfl (lv_at hl 1 rfl) ?_
              refine z_get (v := .ref (ad 39)) hx hb hts hown hK hw zZ12 0 rfl 55 (by decide) zm_273 rfl zd_LassoFinderModel_worth_67 ?_
              refine lv_aload_n hx hb zd_LassoFinderModel_worth_70 rfl (lv_at hl 1 rfl) ?_
              refine z_get (v := .ref (ad 2)) hx hb hts hown hK hw zZ12 0 rfl 9 (by decide) zm_236 rfl zd_LassoFinderModel_worth_71 ?_
              refine lv_iload hx hb zd_LassoFinderModel_worth_74 (lv_at hl 0 rfl) ?_
              refine lv_bipush (v := 8) hx hb zd_LassoFinderModel_worth_76 (by decide) ?_
              refine lv_isub hx hb zd_LassoFinderModel_worth_78 ?_
              refine lv_topi (fun z31 ez31 => ?_)
              have hok := hok z31 ez31
              refine va_iald (f := (B 1)) hx hb hK hw.1 2 0 rfl rfl hok.1 zd_LassoFinderModel_worth_79 ?_
              have hok := hok.2
              refine lv_topi (fun z32 ez32 => ?_)
              have hok := hok z32 ez32
              refine va_iald (f := (B 36)) hx hb hK hw.1 39 0 rfl rfl hok.1 zd_LassoFinderModel_worth_80 ?_
              have hok := hok.2
              refine lv_topi (fun z33 ez33 => ?_)
              have hok := hok z33 ez33
              refine lv_goto (tgt := 99) hx hb zd_LassoFinderModel_worth_81 (by decide) ?_
              exact hj_99 x2 x3 x4 z33 x3 I J B D ls H locs hok (lv_sub hl [1, 2, 3, 4] rfl) hw
        · have hok := hok.2 hc6
          refine lv_aload_n hx hb zd_LassoFinderModel_worth_27 rfl (lv_at hl 1 rfl) ?_
          refine z_get (v := .ref (ad 43)) hx hb hts hown hK hw zZ12 0 rfl 60 (by decide) zm_277 rfl zd_LassoFinderModel_worth_28 ?_
          refine lv_iload_n hx hb zd_LassoFinderModel_worth_31 rfl (lv_at hl 3 rfl) ?_
          refine lv_iload hx hb zd_LassoFinderModel_worth_32 (lv_at hl 0 rfl) ?_
          refine va_iast (f := (B 40)) hx hb hK hw.1 hw.2.1 hw.2.2 43 0 rfl rfl hok.1 zd_LassoFinderModel_worth_34 (fun H locs a1 a2 a3 => ?_)
          have hok := hok.2
          have hw : zW G A s.heap _ H locs := ⟨a1, a2, a3⟩
          have hw : zW G A s.heap (wM ad K I J (va_up B 40 (upd (B 40) x3.toNatClampNeg z5)) D) H locs := hw
          obtain ⟨z34, ez34⟩ : ∃ z : Int32, z = (x3 + 1) := ⟨_, rfl⟩
          have hok := hok z34 ez34
          refine lv_iinc (v := z34) hx hb zd_LassoFinderModel_worth_35 hl (k := 3) rfl ez34.symm (by decide) rfl (fun ls hl => ?_)
          have hl : lv_has ls 8 [(3, .int z34), (5, .int z5), (0, .ref (ad 0)), (2, .int x2), (4, .int x4)] := hl
          refine lv_goto (tgt := 223) hx hb zd_LassoFinderModel_worth_38 (by decide) ?_
          exact hj_223 x2 z34 x4 I J (va_up B 40 (upd (B 40) x3.toNatClampNeg z5)) D ls H locs hok (lv_sub hl [2, 3, 0, 4] rfl) hw
  have hl : lv_has ls 8 [(0, .ref (ad 0)), (1, .int a0), (2, .int a1)] := hl
  have hw : zW G A s.heap (wM ad K I J B D) H locs := hw
  unfold wp_LassoFinderModel_worth at hok
  refine lv_iconst (v := 0) hx hb zd_LassoFinderModel_worth_0 (by decide) ?_
  refine lv_istore_n hx hb zd_LassoFinderModel_worth_1 rfl hl (by decide) rfl (fun ls hl => ?_)
  have hl : lv_has ls 8 [(3, .int 0), (0, .ref (ad 0)), (1, .int a0), (2, .int a1)] := hl
  refine lv_iload_n hx hb zd_LassoFinderModel_worth_2 rfl (lv_at hl 2 rfl) ?_
  refine lv_istore hx hb zd_LassoFinderModel_worth_3 hl (by decide) rfl (fun ls hl => ?_)
  have hl : lv_has ls 8 [(4, .int a0), (3, .int 0), (0, .ref (ad 0)), (1, .int a0), (2, .int a1)] := hl
  obtain ⟨n9, hok⟩ := hok
  exact hl_5 n9 a1 0 a0 I J B D ls H locs hok (lv_sub hl [2, 4, 1, 0] rfl) hw
