abbrev zy_LassoFinderModel_link : MethodName := ⟨"LassoFinderModel", "link", "()V"⟩
abbrev zy_LassoFinderModel_packed : MethodName := ⟨"LassoFinderModel", "packed", "()J"⟩
abbrev zy_LassoFinderModel_unpack : MethodName := ⟨"LassoFinderModel", "unpack", "(J)V"⟩
theorem zm_244 : Cond.fieldLink "LassoFinderModel" 41 "LassoFinderModel" "firstOf" "[Z" ∈ zTB := z_in (zt_6 _ (List.mem_of_getElem? (i := 112) rfl)) rfl
theorem zm_252 : Cond.fieldLink "LassoFinderModel" 66 "LassoFinderModel" "behind" "[I" ∈ zTB := z_in (zt_6 _ (List.mem_of_getElem? (i := 120) rfl)) rfl
theorem zm_253 : Cond.fieldLink "LassoFinderModel" 69 "LassoFinderModel" "basicNode" "[I" ∈ zTB := z_in (zt_6 _ (List.mem_of_getElem? (i := 122) rfl)) rfl
theorem zm_259 : Cond.fieldLink "LassoFinderModel" 87 "LassoFinderModel" "mask" "[J" ∈ zTB := z_in (zt_6 _ (List.mem_of_getElem? (i := 129) rfl)) rfl
theorem zm_273 : Cond.fieldLink "LassoFinderModel" 130 "LassoFinderModel" "value" "[I" ∈ zTB := z_in (zt_6 _ (List.mem_of_getElem? (i := 149) rfl)) rfl
theorem zm_274 : Cond.fieldLink "LassoFinderModel" 133 "LassoFinderModel" "many" "[I" ∈ zTB := z_in (zt_6 _ (List.mem_of_getElem? (i := 150) rfl)) rfl
theorem zm_275 : Cond.fieldLink "LassoFinderModel" 136 "LassoFinderModel" "message" "[I" ∈ zTB := z_in (zt_6 _ (List.mem_of_getElem? (i := 151) rfl)) rfl
theorem zm_276 : Cond.fieldLink "LassoFinderModel" 139 "LassoFinderModel" "stands" "[I" ∈ zTB := z_in (zt_6 _ (List.mem_of_getElem? (i := 152) rfl)) rfl
theorem zm_303 : Cond.fieldLink "LassoFinderModel" 257 "LassoFinderModel" "basics" "I" ∈ zTB := z_in (zt_6 _ (List.mem_of_getElem? (i := 121) rfl)) rfl
theorem zm_305 : Cond.methodLink "LassoFinderModel" 280 ⟨"LassoFinderModel", "instead", "(I)I"⟩ ∈ zTB := z_in (zt_7 _ (List.mem_of_getElem? (i := 193) rfl)) rfl
theorem zm_306 : Cond.methodLink "LassoFinderModel" 298 ⟨"LassoFinderModel", "pointOf", "(II)I"⟩ ∈ zTB := z_in (zt_7 _ (List.mem_of_getElem? (i := 205) rfl)) rfl
theorem zm_308 : Cond.fieldLink "LassoFinderModel" 241 "LassoFinderModel" "vars" "I" ∈ zTB := z_in (zt_6 _ (List.mem_of_getElem? (i := 101) rfl)) rfl
theorem zm_309 : Cond.fieldLink "LassoFinderModel" 238 "LassoFinderModel" "chans" "I" ∈ zTB := z_in (zt_6 _ (List.mem_of_getElem? (i := 102) rfl)) rfl
theorem zm_310 : Cond.fieldLink "LassoFinderModel" 254 "LassoFinderModel" "processes" "I" ∈ zTB := z_in (zt_6 _ (List.mem_of_getElem? (i := 124) rfl)) rfl
theorem zm_320 : Cond.fieldLink "LassoFinderModel" 301 "LassoFinderModel" "holds" "I" ∈ zTB := z_in (zt_6 _ (List.mem_of_getElem? (i := 153) rfl)) rfl
theorem zm_321 : Cond.constantLong "LassoFinderModel" 304 (7 : Int64) ∈ zTB := z_in (zt_7 _ (List.mem_of_getElem? (i := 225) rfl)) rfl
theorem zm_322 : Cond.constantLong "LassoFinderModel" 308 (31 : Int64) ∈ zTB := z_in (zt_7 _ (List.mem_of_getElem? (i := 227) rfl)) rfl
theorem zm_323 : Cond.constantLong "LassoFinderModel" 306 (3 : Int64) ∈ zTB := z_in (zt_7 _ (List.mem_of_getElem? (i := 226) rfl)) rfl
theorem zm_386 : Cond.code ⟨"LassoFinderModel", "instead", "(I)I"⟩ prog_14_method_22_code 5 (some .int) ∈ zTB := z_in (zt_7 _ (List.mem_of_getElem? (i := 196) rfl)) rfl
theorem zm_387 : Cond.instanceMethod ⟨"LassoFinderModel", "instead", "(I)I"⟩ ∈ zTB := z_in (zt_7 _ (List.mem_of_getElem? (i := 195) rfl)) rfl
theorem zm_388 : Cond.code ⟨"LassoFinderModel", "pointOf", "(II)I"⟩ prog_14_method_26_code 3 (some .int) ∈ zTB := z_in (zt_7 _ (List.mem_of_getElem? (i := 208) rfl)) rfl
theorem zm_389 : Cond.instanceMethod ⟨"LassoFinderModel", "pointOf", "(II)I"⟩ ∈ zTB := z_in (zt_7 _ (List.mem_of_getElem? (i := 207) rfl)) rfl
theorem zf_LassoFinderModel_instead : zFaceV zy_LassoFinderModel_instead prog_14_method_22_code 5 (some .int) 1 := ⟨zm_387, (z_in (zp_6 _ (List.mem_of_getElem? (i := 9) rfl)) rfl), zm_25, zm_386, by decide +kernel, by decide +kernel, by decide +kernel⟩
theorem zf_LassoFinderModel_pointOf : zFaceV zy_LassoFinderModel_pointOf prog_14_method_26_code 3 (some .int) 2 := ⟨zm_389, (z_in (zp_6 _ (List.mem_of_getElem? (i := 12) rfl)) rfl), zm_25, zm_388, by decide +kernel, by decide +kernel, by decide +kernel⟩
theorem zd_LassoFinderModel_link_0 : decode prog_14_method_27_code 0 = .ok (.iconst 0, 1) := by decide +kernel
theorem zd_LassoFinderModel_link_1 : decode prog_14_method_27_code 1 = .ok (.istore_n 1, 1) := by decide +kernel
theorem zd_LassoFinderModel_link_2 : decode prog_14_method_27_code 2 = .ok (.iload_n 1, 1) := by decide +kernel
theorem zd_LassoFinderModel_link_3 : decode prog_14_method_27_code 3 = .ok (.bipush 124, 2) := by decide +kernel
theorem zd_LassoFinderModel_link_5 : decode prog_14_method_27_code 5 = .ok (.if_icmp .ge 16, 3) := by decide +kernel
theorem zd_LassoFinderModel_link_8 : decode prog_14_method_27_code 8 = .ok (.aload_n 0, 1) := by decide +kernel
theorem zd_LassoFinderModel_link_9 : decode prog_14_method_27_code 9 = .ok (.getfield 87, 3) := by decide +kernel
theorem zd_LassoFinderModel_link_12 : decode prog_14_method_27_code 12 = .ok (.iload_n 1, 1) := by decide +kernel
theorem zd_LassoFinderModel_link_13 : decode prog_14_method_27_code 13 = .ok (.lconst 0, 1) := by decide +kernel
theorem zd_LassoFinderModel_link_14 : decode prog_14_method_27_code 14 = .ok (.lastore, 1) := by decide +kernel
theorem zd_LassoFinderModel_link_15 : decode prog_14_method_27_code 15 = .ok (.iinc 1 1, 3) := by decide +kernel
theorem zd_LassoFinderModel_link_18 : decode prog_14_method_27_code 18 = .ok (.goto (-16), 3) := by decide +kernel
theorem zd_LassoFinderModel_link_21 : decode prog_14_method_27_code 21 = .ok (.iconst 0, 1) := by decide +kernel
theorem zd_LassoFinderModel_link_22 : decode prog_14_method_27_code 22 = .ok (.istore_n 1, 1) := by decide +kernel
theorem zd_LassoFinderModel_link_23 : decode prog_14_method_27_code 23 = .ok (.iload_n 1, 1) := by decide +kernel
theorem zd_LassoFinderModel_link_24 : decode prog_14_method_27_code 24 = .ok (.aload_n 0, 1) := by decide +kernel
theorem zd_LassoFinderModel_link_25 : decode prog_14_method_27_code 25 = .ok (.getfield 257, 3) := by decide +kernel
theorem zd_LassoFinderModel_link_28 : decode prog_14_method_27_code 28 = .ok (.if_icmp .ge 136, 3) := by decide +kernel
theorem zd_LassoFinderModel_link_31 : decode prog_14_method_27_code 31 = .ok (.aload_n 0, 1) := by decide +kernel
theorem zd_LassoFinderModel_link_32 : decode prog_14_method_27_code 32 = .ok (.getfield 69, 3) := by decide +kernel
theorem zd_LassoFinderModel_link_35 : decode prog_14_method_27_code 35 = .ok (.iload_n 1, 1) := by decide +kernel
theorem zd_LassoFinderModel_link_36 : decode prog_14_method_27_code 36 = .ok (.iaload, 1) := by decide +kernel
theorem zd_LassoFinderModel_link_37 : decode prog_14_method_27_code 37 = .ok (.istore_n 2, 1) := by decide +kernel
theorem zd_LassoFinderModel_link_38 : decode prog_14_method_27_code 38 = .ok (.aload_n 0, 1) := by decide +kernel
theorem zd_LassoFinderModel_link_39 : decode prog_14_method_27_code 39 = .ok (.getfield 66, 3) := by decide +kernel
theorem zd_LassoFinderModel_link_42 : decode prog_14_method_27_code 42 = .ok (.iload_n 2, 1) := by decide +kernel
theorem zd_LassoFinderModel_link_43 : decode prog_14_method_27_code 43 = .ok (.aload_n 0, 1) := by decide +kernel
theorem zd_LassoFinderModel_link_44 : decode prog_14_method_27_code 44 = .ok (.aload_n 0, 1) := by decide +kernel
theorem zd_LassoFinderModel_link_45 : decode prog_14_method_27_code 45 = .ok (.getfield 32, 3) := by decide +kernel
theorem zd_LassoFinderModel_link_48 : decode prog_14_method_27_code 48 = .ok (.iload_n 2, 1) := by decide +kernel
theorem zd_LassoFinderModel_link_49 : decode prog_14_method_27_code 49 = .ok (.iaload, 1) := by decide +kernel
theorem zd_LassoFinderModel_link_50 : decode prog_14_method_27_code 50 = .ok (.aload_n 0, 1) := by decide +kernel
theorem zd_LassoFinderModel_link_51 : decode prog_14_method_27_code 51 = .ok (.aload_n 0, 1) := by decide +kernel
theorem zd_LassoFinderModel_link_52 : decode prog_14_method_27_code 52 = .ok (.iload_n 2, 1) := by decide +kernel
theorem zd_LassoFinderModel_link_53 : decode prog_14_method_27_code 53 = .ok (.invokevirtual 277, 3) := by decide +kernel
theorem zd_LassoFinderModel_link_56 : decode prog_14_method_27_code 56 = .ok (.invokevirtual 280, 3) := by decide +kernel
theorem zd_LassoFinderModel_link_59 : decode prog_14_method_27_code 59 = .ok (.invokevirtual 298, 3) := by decide +kernel
theorem zd_LassoFinderModel_link_62 : decode prog_14_method_27_code 62 = .ok (.iastore, 1) := by decide +kernel
theorem zd_LassoFinderModel_link_63 : decode prog_14_method_27_code 63 = .ok (.iload_n 2, 1) := by decide +kernel
theorem zd_LassoFinderModel_link_64 : decode prog_14_method_27_code 64 = .ok (.istore_n 3, 1) := by decide +kernel
theorem zd_LassoFinderModel_link_65 : decode prog_14_method_27_code 65 = .ok (.aload_n 0, 1) := by decide +kernel
theorem zd_LassoFinderModel_link_66 : decode prog_14_method_27_code 66 = .ok (.getfield 87, 3) := by decide +kernel
theorem zd_LassoFinderModel_link_69 : decode prog_14_method_27_code 69 = .ok (.bipush 31, 2) := by decide +kernel
theorem zd_LassoFinderModel_link_71 : decode prog_14_method_27_code 71 = .ok (.aload_n 0, 1) := by decide +kernel
theorem zd_LassoFinderModel_link_72 : decode prog_14_method_27_code 72 = .ok (.getfield 32, 3) := by decide +kernel
theorem zd_LassoFinderModel_link_75 : decode prog_14_method_27_code 75 = .ok (.iload_n 2, 1) := by decide +kernel
theorem zd_LassoFinderModel_link_76 : decode prog_14_method_27_code 76 = .ok (.iaload, 1) := by decide +kernel
theorem zd_LassoFinderModel_link_77 : decode prog_14_method_27_code 77 = .ok (.imul, 1) := by decide +kernel
theorem zd_LassoFinderModel_link_78 : decode prog_14_method_27_code 78 = .ok (.aload_n 0, 1) := by decide +kernel
theorem zd_LassoFinderModel_link_79 : decode prog_14_method_27_code 79 = .ok (.getfield 48, 3) := by decide +kernel
theorem zd_LassoFinderModel_link_82 : decode prog_14_method_27_code 82 = .ok (.iload_n 3, 1) := by decide +kernel
theorem zd_LassoFinderModel_link_83 : decode prog_14_method_27_code 83 = .ok (.iaload, 1) := by decide +kernel
theorem zd_LassoFinderModel_link_84 : decode prog_14_method_27_code 84 = .ok (.iadd, 1) := by decide +kernel
theorem zd_LassoFinderModel_link_85 : decode prog_14_method_27_code 85 = .ok (.dup2, 1) := by decide +kernel
theorem zd_LassoFinderModel_link_86 : decode prog_14_method_27_code 86 = .ok (.laload, 1) := by decide +kernel
theorem zd_LassoFinderModel_link_87 : decode prog_14_method_27_code 87 = .ok (.lconst 1, 1) := by decide +kernel
theorem zd_LassoFinderModel_link_88 : decode prog_14_method_27_code 88 = .ok (.iload_n 1, 1) := by decide +kernel
theorem zd_LassoFinderModel_link_89 : decode prog_14_method_27_code 89 = .ok (.lshl, 1) := by decide +kernel
theorem zd_LassoFinderModel_link_90 : decode prog_14_method_27_code 90 = .ok (.lor, 1) := by decide +kernel
theorem zd_LassoFinderModel_link_91 : decode prog_14_method_27_code 91 = .ok (.lastore, 1) := by decide +kernel
theorem zd_LassoFinderModel_link_92 : decode prog_14_method_27_code 92 = .ok (.aload_n 0, 1) := by decide +kernel
theorem zd_LassoFinderModel_link_93 : decode prog_14_method_27_code 93 = .ok (.getfield 41, 3) := by decide +kernel
theorem zd_LassoFinderModel_link_96 : decode prog_14_method_27_code 96 = .ok (.iload_n 3, 1) := by decide +kernel
theorem zd_LassoFinderModel_link_97 : decode prog_14_method_27_code 97 = .ok (.baload, 1) := by decide +kernel
theorem zd_LassoFinderModel_link_98 : decode prog_14_method_27_code 98 = .ok (.ifCond .eq 60, 3) := by decide +kernel
theorem zd_LassoFinderModel_link_101 : decode prog_14_method_27_code 101 = .ok (.aload_n 0, 1) := by decide +kernel
theorem zd_LassoFinderModel_link_102 : decode prog_14_method_27_code 102 = .ok (.getfield 35, 3) := by decide +kernel
theorem zd_LassoFinderModel_link_105 : decode prog_14_method_27_code 105 = .ok (.iload_n 3, 1) := by decide +kernel
theorem zd_LassoFinderModel_link_106 : decode prog_14_method_27_code 106 = .ok (.iaload, 1) := by decide +kernel
theorem zd_LassoFinderModel_link_107 : decode prog_14_method_27_code 107 = .ok (.ifCond .lt 51, 3) := by decide +kernel
theorem zd_LassoFinderModel_link_110 : decode prog_14_method_27_code 110 = .ok (.aload_n 0, 1) := by decide +kernel
theorem zd_LassoFinderModel_link_111 : decode prog_14_method_27_code 111 = .ok (.getfield 35, 3) := by decide +kernel
theorem zd_LassoFinderModel_link_114 : decode prog_14_method_27_code 114 = .ok (.iload_n 3, 1) := by decide +kernel
theorem zd_LassoFinderModel_link_115 : decode prog_14_method_27_code 115 = .ok (.iaload, 1) := by decide +kernel
theorem zd_LassoFinderModel_link_116 : decode prog_14_method_27_code 116 = .ok (.istore_n 3, 1) := by decide +kernel
theorem zd_LassoFinderModel_link_117 : decode prog_14_method_27_code 117 = .ok (.aload_n 0, 1) := by decide +kernel
theorem zd_LassoFinderModel_link_118 : decode prog_14_method_27_code 118 = .ok (.getfield 29, 3) := by decide +kernel
theorem zd_LassoFinderModel_link_121 : decode prog_14_method_27_code 121 = .ok (.iload_n 3, 1) := by decide +kernel
theorem zd_LassoFinderModel_link_122 : decode prog_14_method_27_code 122 = .ok (.iaload, 1) := by decide +kernel
theorem zd_LassoFinderModel_link_123 : decode prog_14_method_27_code 123 = .ok (.bipush 8, 2) := by decide +kernel
theorem zd_LassoFinderModel_link_125 : decode prog_14_method_27_code 125 = .ok (.if_icmp .eq (-33), 3) := by decide +kernel
theorem zd_LassoFinderModel_link_128 : decode prog_14_method_27_code 128 = .ok (.aload_n 0, 1) := by decide +kernel
theorem zd_LassoFinderModel_link_129 : decode prog_14_method_27_code 129 = .ok (.getfield 87, 3) := by decide +kernel
theorem zd_LassoFinderModel_link_132 : decode prog_14_method_27_code 132 = .ok (.bipush 31, 2) := by decide +kernel
theorem zd_LassoFinderModel_link_134 : decode prog_14_method_27_code 134 = .ok (.aload_n 0, 1) := by decide +kernel
theorem zd_LassoFinderModel_link_135 : decode prog_14_method_27_code 135 = .ok (.getfield 32, 3) := by decide +kernel
theorem zd_LassoFinderModel_link_138 : decode prog_14_method_27_code 138 = .ok (.iload_n 2, 1) := by decide +kernel
theorem zd_LassoFinderModel_link_139 : decode prog_14_method_27_code 139 = .ok (.iaload, 1) := by decide +kernel
theorem zd_LassoFinderModel_link_140 : decode prog_14_method_27_code 140 = .ok (.imul, 1) := by decide +kernel
theorem zd_LassoFinderModel_link_141 : decode prog_14_method_27_code 141 = .ok (.aload_n 0, 1) := by decide +kernel
theorem zd_LassoFinderModel_link_142 : decode prog_14_method_27_code 142 = .ok (.getfield 48, 3) := by decide +kernel
theorem zd_LassoFinderModel_link_145 : decode prog_14_method_27_code 145 = .ok (.iload_n 3, 1) := by decide +kernel
theorem zd_LassoFinderModel_link_146 : decode prog_14_method_27_code 146 = .ok (.iaload, 1) := by decide +kernel
theorem zd_LassoFinderModel_link_147 : decode prog_14_method_27_code 147 = .ok (.iadd, 1) := by decide +kernel
theorem zd_LassoFinderModel_link_148 : decode prog_14_method_27_code 148 = .ok (.dup2, 1) := by decide +kernel
theorem zd_LassoFinderModel_link_149 : decode prog_14_method_27_code 149 = .ok (.laload, 1) := by decide +kernel
theorem zd_LassoFinderModel_link_150 : decode prog_14_method_27_code 150 = .ok (.lconst 1, 1) := by decide +kernel
theorem zd_LassoFinderModel_link_151 : decode prog_14_method_27_code 151 = .ok (.iload_n 1, 1) := by decide +kernel
theorem zd_LassoFinderModel_link_152 : decode prog_14_method_27_code 152 = .ok (.lshl, 1) := by decide +kernel
theorem zd_LassoFinderModel_link_153 : decode prog_14_method_27_code 153 = .ok (.lor, 1) := by decide +kernel
theorem zd_LassoFinderModel_link_154 : decode prog_14_method_27_code 154 = .ok (.lastore, 1) := by decide +kernel
theorem zd_LassoFinderModel_link_155 : decode prog_14_method_27_code 155 = .ok (.goto (-63), 3) := by decide +kernel
theorem zd_LassoFinderModel_link_158 : decode prog_14_method_27_code 158 = .ok (.iinc 1 1, 3) := by decide +kernel
theorem zd_LassoFinderModel_link_161 : decode prog_14_method_27_code 161 = .ok (.goto (-138), 3) := by decide +kernel
theorem zd_LassoFinderModel_link_164 : decode prog_14_method_27_code 164 = .ok (.return_, 1) := by decide +kernel
theorem zd_LassoFinderModel_packed_0 : decode prog_14_method_28_code 0 = .ok (.lconst 0, 1) := by decide +kernel
theorem zd_LassoFinderModel_packed_1 : decode prog_14_method_28_code 1 = .ok (.lstore_n 1, 1) := by decide +kernel
theorem zd_LassoFinderModel_packed_2 : decode prog_14_method_28_code 2 = .ok (.iconst 0, 1) := by decide +kernel
theorem zd_LassoFinderModel_packed_3 : decode prog_14_method_28_code 3 = .ok (.istore_n 3, 1) := by decide +kernel
theorem zd_LassoFinderModel_packed_4 : decode prog_14_method_28_code 4 = .ok (.iload_n 3, 1) := by decide +kernel
theorem zd_LassoFinderModel_packed_5 : decode prog_14_method_28_code 5 = .ok (.aload_n 0, 1) := by decide +kernel
theorem zd_LassoFinderModel_packed_6 : decode prog_14_method_28_code 6 = .ok (.getfield 241, 3) := by decide +kernel
theorem zd_LassoFinderModel_packed_9 : decode prog_14_method_28_code 9 = .ok (.if_icmp .ge 23, 3) := by decide +kernel
theorem zd_LassoFinderModel_packed_12 : decode prog_14_method_28_code 12 = .ok (.lload_n 1, 1) := by decide +kernel
theorem zd_LassoFinderModel_packed_13 : decode prog_14_method_28_code 13 = .ok (.aload_n 0, 1) := by decide +kernel
theorem zd_LassoFinderModel_packed_14 : decode prog_14_method_28_code 14 = .ok (.getfield 130, 3) := by decide +kernel
theorem zd_LassoFinderModel_packed_17 : decode prog_14_method_28_code 17 = .ok (.iload_n 3, 1) := by decide +kernel
theorem zd_LassoFinderModel_packed_18 : decode prog_14_method_28_code 18 = .ok (.iaload, 1) := by decide +kernel
theorem zd_LassoFinderModel_packed_19 : decode prog_14_method_28_code 19 = .ok (.i2l, 1) := by decide +kernel
theorem zd_LassoFinderModel_packed_20 : decode prog_14_method_28_code 20 = .ok (.iconst 3, 1) := by decide +kernel
theorem zd_LassoFinderModel_packed_21 : decode prog_14_method_28_code 21 = .ok (.iload_n 3, 1) := by decide +kernel
theorem zd_LassoFinderModel_packed_22 : decode prog_14_method_28_code 22 = .ok (.imul, 1) := by decide +kernel
theorem zd_LassoFinderModel_packed_23 : decode prog_14_method_28_code 23 = .ok (.lshl, 1) := by decide +kernel
theorem zd_LassoFinderModel_packed_24 : decode prog_14_method_28_code 24 = .ok (.lor, 1) := by decide +kernel
theorem zd_LassoFinderModel_packed_25 : decode prog_14_method_28_code 25 = .ok (.lstore_n 1, 1) := by decide +kernel
theorem zd_LassoFinderModel_packed_26 : decode prog_14_method_28_code 26 = .ok (.iinc 3 1, 3) := by decide +kernel
theorem zd_LassoFinderModel_packed_29 : decode prog_14_method_28_code 29 = .ok (.goto (-25), 3) := by decide +kernel
theorem zd_LassoFinderModel_packed_32 : decode prog_14_method_28_code 32 = .ok (.iconst 0, 1) := by decide +kernel
theorem zd_LassoFinderModel_packed_33 : decode prog_14_method_28_code 33 = .ok (.istore_n 3, 1) := by decide +kernel
theorem zd_LassoFinderModel_packed_34 : decode prog_14_method_28_code 34 = .ok (.iload_n 3, 1) := by decide +kernel
theorem zd_LassoFinderModel_packed_35 : decode prog_14_method_28_code 35 = .ok (.aload_n 0, 1) := by decide +kernel
theorem zd_LassoFinderModel_packed_36 : decode prog_14_method_28_code 36 = .ok (.getfield 238, 3) := by decide +kernel
theorem zd_LassoFinderModel_packed_39 : decode prog_14_method_28_code 39 = .ok (.if_icmp .ge 75, 3) := by decide +kernel
theorem zd_LassoFinderModel_packed_42 : decode prog_14_method_28_code 42 = .ok (.lload_n 1, 1) := by decide +kernel
theorem zd_LassoFinderModel_packed_43 : decode prog_14_method_28_code 43 = .ok (.aload_n 0, 1) := by decide +kernel
theorem zd_LassoFinderModel_packed_44 : decode prog_14_method_28_code 44 = .ok (.getfield 133, 3) := by decide +kernel
theorem zd_LassoFinderModel_packed_47 : decode prog_14_method_28_code 47 = .ok (.iload_n 3, 1) := by decide +kernel
theorem zd_LassoFinderModel_packed_48 : decode prog_14_method_28_code 48 = .ok (.iaload, 1) := by decide +kernel
theorem zd_LassoFinderModel_packed_49 : decode prog_14_method_28_code 49 = .ok (.i2l, 1) := by decide +kernel
theorem zd_LassoFinderModel_packed_50 : decode prog_14_method_28_code 50 = .ok (.bipush 18, 2) := by decide +kernel
theorem zd_LassoFinderModel_packed_52 : decode prog_14_method_28_code 52 = .ok (.bipush 11, 2) := by decide +kernel
theorem zd_LassoFinderModel_packed_54 : decode prog_14_method_28_code 54 = .ok (.iload_n 3, 1) := by decide +kernel
theorem zd_LassoFinderModel_packed_55 : decode prog_14_method_28_code 55 = .ok (.imul, 1) := by decide +kernel
theorem zd_LassoFinderModel_packed_56 : decode prog_14_method_28_code 56 = .ok (.iadd, 1) := by decide +kernel
theorem zd_LassoFinderModel_packed_57 : decode prog_14_method_28_code 57 = .ok (.lshl, 1) := by decide +kernel
theorem zd_LassoFinderModel_packed_58 : decode prog_14_method_28_code 58 = .ok (.lor, 1) := by decide +kernel
theorem zd_LassoFinderModel_packed_59 : decode prog_14_method_28_code 59 = .ok (.lstore_n 1, 1) := by decide +kernel
theorem zd_LassoFinderModel_packed_60 : decode prog_14_method_28_code 60 = .ok (.iconst 0, 1) := by decide +kernel
theorem zd_LassoFinderModel_packed_61 : decode prog_14_method_28_code 61 = .ok (.istore 4, 2) := by decide +kernel
theorem zd_LassoFinderModel_packed_63 : decode prog_14_method_28_code 63 = .ok (.iload 4, 2) := by decide +kernel
theorem zd_LassoFinderModel_packed_65 : decode prog_14_method_28_code 65 = .ok (.aload_n 0, 1) := by decide +kernel
theorem zd_LassoFinderModel_packed_66 : decode prog_14_method_28_code 66 = .ok (.getfield 133, 3) := by decide +kernel
theorem zd_LassoFinderModel_packed_69 : decode prog_14_method_28_code 69 = .ok (.iload_n 3, 1) := by decide +kernel
theorem zd_LassoFinderModel_packed_70 : decode prog_14_method_28_code 70 = .ok (.iaload, 1) := by decide +kernel
theorem zd_LassoFinderModel_packed_71 : decode prog_14_method_28_code 71 = .ok (.if_icmp .ge 37, 3) := by decide +kernel
theorem zd_LassoFinderModel_packed_74 : decode prog_14_method_28_code 74 = .ok (.lload_n 1, 1) := by decide +kernel
theorem zd_LassoFinderModel_packed_75 : decode prog_14_method_28_code 75 = .ok (.aload_n 0, 1) := by decide +kernel
theorem zd_LassoFinderModel_packed_76 : decode prog_14_method_28_code 76 = .ok (.getfield 136, 3) := by decide +kernel
theorem zd_LassoFinderModel_packed_79 : decode prog_14_method_28_code 79 = .ok (.iconst 3, 1) := by decide +kernel
theorem zd_LassoFinderModel_packed_80 : decode prog_14_method_28_code 80 = .ok (.iload_n 3, 1) := by decide +kernel
theorem zd_LassoFinderModel_packed_81 : decode prog_14_method_28_code 81 = .ok (.imul, 1) := by decide +kernel
theorem zd_LassoFinderModel_packed_82 : decode prog_14_method_28_code 82 = .ok (.iload 4, 2) := by decide +kernel
theorem zd_LassoFinderModel_packed_84 : decode prog_14_method_28_code 84 = .ok (.iadd, 1) := by decide +kernel
theorem zd_LassoFinderModel_packed_85 : decode prog_14_method_28_code 85 = .ok (.iaload, 1) := by decide +kernel
theorem zd_LassoFinderModel_packed_86 : decode prog_14_method_28_code 86 = .ok (.i2l, 1) := by decide +kernel
theorem zd_LassoFinderModel_packed_87 : decode prog_14_method_28_code 87 = .ok (.bipush 20, 2) := by decide +kernel
theorem zd_LassoFinderModel_packed_89 : decode prog_14_method_28_code 89 = .ok (.bipush 11, 2) := by decide +kernel
theorem zd_LassoFinderModel_packed_91 : decode prog_14_method_28_code 91 = .ok (.iload_n 3, 1) := by decide +kernel
theorem zd_LassoFinderModel_packed_92 : decode prog_14_method_28_code 92 = .ok (.imul, 1) := by decide +kernel
theorem zd_LassoFinderModel_packed_93 : decode prog_14_method_28_code 93 = .ok (.iadd, 1) := by decide +kernel
theorem zd_LassoFinderModel_packed_94 : decode prog_14_method_28_code 94 = .ok (.iconst 3, 1) := by decide +kernel
theorem zd_LassoFinderModel_packed_95 : decode prog_14_method_28_code 95 = .ok (.iload 4, 2) := by decide +kernel
theorem zd_LassoFinderModel_packed_97 : decode prog_14_method_28_code 97 = .ok (.imul, 1) := by decide +kernel
theorem zd_LassoFinderModel_packed_98 : decode prog_14_method_28_code 98 = .ok (.iadd, 1) := by decide +kernel
theorem zd_LassoFinderModel_packed_99 : decode prog_14_method_28_code 99 = .ok (.lshl, 1) := by decide +kernel
theorem zd_LassoFinderModel_packed_100 : decode prog_14_method_28_code 100 = .ok (.lor, 1) := by decide +kernel
theorem zd_LassoFinderModel_packed_101 : decode prog_14_method_28_code 101 = .ok (.lstore_n 1, 1) := by decide +kernel
theorem zd_LassoFinderModel_packed_102 : decode prog_14_method_28_code 102 = .ok (.iinc 4 1, 3) := by decide +kernel
theorem zd_LassoFinderModel_packed_105 : decode prog_14_method_28_code 105 = .ok (.goto (-42), 3) := by decide +kernel
theorem zd_LassoFinderModel_packed_108 : decode prog_14_method_28_code 108 = .ok (.iinc 3 1, 3) := by decide +kernel
theorem zd_LassoFinderModel_packed_111 : decode prog_14_method_28_code 111 = .ok (.goto (-77), 3) := by decide +kernel
theorem zd_LassoFinderModel_packed_114 : decode prog_14_method_28_code 114 = .ok (.iconst 0, 1) := by decide +kernel
theorem zd_LassoFinderModel_packed_115 : decode prog_14_method_28_code 115 = .ok (.istore_n 3, 1) := by decide +kernel
theorem zd_LassoFinderModel_packed_116 : decode prog_14_method_28_code 116 = .ok (.iload_n 3, 1) := by decide +kernel
theorem zd_LassoFinderModel_packed_117 : decode prog_14_method_28_code 117 = .ok (.aload_n 0, 1) := by decide +kernel
theorem zd_LassoFinderModel_packed_118 : decode prog_14_method_28_code 118 = .ok (.getfield 254, 3) := by decide +kernel
theorem zd_LassoFinderModel_packed_121 : decode prog_14_method_28_code 121 = .ok (.if_icmp .ge 26, 3) := by decide +kernel
theorem zd_LassoFinderModel_packed_124 : decode prog_14_method_28_code 124 = .ok (.lload_n 1, 1) := by decide +kernel
theorem zd_LassoFinderModel_packed_125 : decode prog_14_method_28_code 125 = .ok (.aload_n 0, 1) := by decide +kernel
theorem zd_LassoFinderModel_packed_126 : decode prog_14_method_28_code 126 = .ok (.getfield 139, 3) := by decide +kernel
theorem zd_LassoFinderModel_packed_129 : decode prog_14_method_28_code 129 = .ok (.iload_n 3, 1) := by decide +kernel
theorem zd_LassoFinderModel_packed_130 : decode prog_14_method_28_code 130 = .ok (.iaload, 1) := by decide +kernel
theorem zd_LassoFinderModel_packed_131 : decode prog_14_method_28_code 131 = .ok (.i2l, 1) := by decide +kernel
theorem zd_LassoFinderModel_packed_132 : decode prog_14_method_28_code 132 = .ok (.bipush 40, 2) := by decide +kernel
theorem zd_LassoFinderModel_packed_134 : decode prog_14_method_28_code 134 = .ok (.iconst 5, 1) := by decide +kernel
theorem zd_LassoFinderModel_packed_135 : decode prog_14_method_28_code 135 = .ok (.iload_n 3, 1) := by decide +kernel
theorem zd_LassoFinderModel_packed_136 : decode prog_14_method_28_code 136 = .ok (.imul, 1) := by decide +kernel
theorem zd_LassoFinderModel_packed_137 : decode prog_14_method_28_code 137 = .ok (.iadd, 1) := by decide +kernel
theorem zd_LassoFinderModel_packed_138 : decode prog_14_method_28_code 138 = .ok (.lshl, 1) := by decide +kernel
theorem zd_LassoFinderModel_packed_139 : decode prog_14_method_28_code 139 = .ok (.lor, 1) := by decide +kernel
theorem zd_LassoFinderModel_packed_140 : decode prog_14_method_28_code 140 = .ok (.lstore_n 1, 1) := by decide +kernel
theorem zd_LassoFinderModel_packed_141 : decode prog_14_method_28_code 141 = .ok (.iinc 3 1, 3) := by decide +kernel
theorem zd_LassoFinderModel_packed_144 : decode prog_14_method_28_code 144 = .ok (.goto (-28), 3) := by decide +kernel
theorem zd_LassoFinderModel_packed_147 : decode prog_14_method_28_code 147 = .ok (.lload_n 1, 1) := by decide +kernel
theorem zd_LassoFinderModel_packed_148 : decode prog_14_method_28_code 148 = .ok (.aload_n 0, 1) := by decide +kernel
theorem zd_LassoFinderModel_packed_149 : decode prog_14_method_28_code 149 = .ok (.getfield 301, 3) := by decide +kernel
theorem zd_LassoFinderModel_packed_152 : decode prog_14_method_28_code 152 = .ok (.iconst 1, 1) := by decide +kernel
theorem zd_LassoFinderModel_packed_153 : decode prog_14_method_28_code 153 = .ok (.iadd, 1) := by decide +kernel
theorem zd_LassoFinderModel_packed_154 : decode prog_14_method_28_code 154 = .ok (.i2l, 1) := by decide +kernel
theorem zd_LassoFinderModel_packed_155 : decode prog_14_method_28_code 155 = .ok (.bipush 60, 2) := by decide +kernel
theorem zd_LassoFinderModel_packed_157 : decode prog_14_method_28_code 157 = .ok (.lshl, 1) := by decide +kernel
theorem zd_LassoFinderModel_packed_158 : decode prog_14_method_28_code 158 = .ok (.lor, 1) := by decide +kernel
theorem zd_LassoFinderModel_packed_159 : decode prog_14_method_28_code 159 = .ok (.lreturn, 1) := by decide +kernel
theorem zd_LassoFinderModel_unpack_0 : decode prog_14_method_29_code 0 = .ok (.iconst 0, 1) := by decide +kernel
theorem zd_LassoFinderModel_unpack_1 : decode prog_14_method_29_code 1 = .ok (.istore_n 3, 1) := by decide +kernel
theorem zd_LassoFinderModel_unpack_2 : decode prog_14_method_29_code 2 = .ok (.iload_n 3, 1) := by decide +kernel
theorem zd_LassoFinderModel_unpack_3 : decode prog_14_method_29_code 3 = .ok (.aload_n 0, 1) := by decide +kernel
theorem zd_LassoFinderModel_unpack_4 : decode prog_14_method_29_code 4 = .ok (.getfield 241, 3) := by decide +kernel
theorem zd_LassoFinderModel_unpack_7 : decode prog_14_method_29_code 7 = .ok (.if_icmp .ge 25, 3) := by decide +kernel
theorem zd_LassoFinderModel_unpack_10 : decode prog_14_method_29_code 10 = .ok (.aload_n 0, 1) := by decide +kernel
theorem zd_LassoFinderModel_unpack_11 : decode prog_14_method_29_code 11 = .ok (.getfield 130, 3) := by decide +kernel
theorem zd_LassoFinderModel_unpack_14 : decode prog_14_method_29_code 14 = .ok (.iload_n 3, 1) := by decide +kernel
theorem zd_LassoFinderModel_unpack_15 : decode prog_14_method_29_code 15 = .ok (.lload_n 1, 1) := by decide +kernel
theorem zd_LassoFinderModel_unpack_16 : decode prog_14_method_29_code 16 = .ok (.iconst 3, 1) := by decide +kernel
theorem zd_LassoFinderModel_unpack_17 : decode prog_14_method_29_code 17 = .ok (.iload_n 3, 1) := by decide +kernel
theorem zd_LassoFinderModel_unpack_18 : decode prog_14_method_29_code 18 = .ok (.imul, 1) := by decide +kernel
theorem zd_LassoFinderModel_unpack_19 : decode prog_14_method_29_code 19 = .ok (.lshr, 1) := by decide +kernel
theorem zd_LassoFinderModel_unpack_20 : decode prog_14_method_29_code 20 = .ok (.ldc2_w 304, 3) := by decide +kernel
theorem zd_LassoFinderModel_unpack_23 : decode prog_14_method_29_code 23 = .ok (.land, 1) := by decide +kernel
theorem zd_LassoFinderModel_unpack_24 : decode prog_14_method_29_code 24 = .ok (.l2i, 1) := by decide +kernel
theorem zd_LassoFinderModel_unpack_25 : decode prog_14_method_29_code 25 = .ok (.iastore, 1) := by decide +kernel
theorem zd_LassoFinderModel_unpack_26 : decode prog_14_method_29_code 26 = .ok (.iinc 3 1, 3) := by decide +kernel
theorem zd_LassoFinderModel_unpack_29 : decode prog_14_method_29_code 29 = .ok (.goto (-27), 3) := by decide +kernel
theorem zd_LassoFinderModel_unpack_32 : decode prog_14_method_29_code 32 = .ok (.iconst 0, 1) := by decide +kernel
theorem zd_LassoFinderModel_unpack_33 : decode prog_14_method_29_code 33 = .ok (.istore_n 3, 1) := by decide +kernel
theorem zd_LassoFinderModel_unpack_34 : decode prog_14_method_29_code 34 = .ok (.iload_n 3, 1) := by decide +kernel
theorem zd_LassoFinderModel_unpack_35 : decode prog_14_method_29_code 35 = .ok (.aload_n 0, 1) := by decide +kernel
theorem zd_LassoFinderModel_unpack_36 : decode prog_14_method_29_code 36 = .ok (.getfield 238, 3) := by decide +kernel
theorem zd_LassoFinderModel_unpack_39 : decode prog_14_method_29_code 39 = .ok (.if_icmp .ge 74, 3) := by decide +kernel
theorem zd_LassoFinderModel_unpack_42 : decode prog_14_method_29_code 42 = .ok (.aload_n 0, 1) := by decide +kernel
theorem zd_LassoFinderModel_unpack_43 : decode prog_14_method_29_code 43 = .ok (.getfield 133, 3) := by decide +kernel
theorem zd_LassoFinderModel_unpack_46 : decode prog_14_method_29_code 46 = .ok (.iload_n 3, 1) := by decide +kernel
theorem zd_LassoFinderModel_unpack_47 : decode prog_14_method_29_code 47 = .ok (.lload_n 1, 1) := by decide +kernel
theorem zd_LassoFinderModel_unpack_48 : decode prog_14_method_29_code 48 = .ok (.bipush 18, 2) := by decide +kernel
theorem zd_LassoFinderModel_unpack_50 : decode prog_14_method_29_code 50 = .ok (.bipush 11, 2) := by decide +kernel
theorem zd_LassoFinderModel_unpack_52 : decode prog_14_method_29_code 52 = .ok (.iload_n 3, 1) := by decide +kernel
theorem zd_LassoFinderModel_unpack_53 : decode prog_14_method_29_code 53 = .ok (.imul, 1) := by decide +kernel
theorem zd_LassoFinderModel_unpack_54 : decode prog_14_method_29_code 54 = .ok (.iadd, 1) := by decide +kernel
theorem zd_LassoFinderModel_unpack_55 : decode prog_14_method_29_code 55 = .ok (.lshr, 1) := by decide +kernel
theorem zd_LassoFinderModel_unpack_56 : decode prog_14_method_29_code 56 = .ok (.ldc2_w 306, 3) := by decide +kernel
theorem zd_LassoFinderModel_unpack_59 : decode prog_14_method_29_code 59 = .ok (.land, 1) := by decide +kernel
theorem zd_LassoFinderModel_unpack_60 : decode prog_14_method_29_code 60 = .ok (.l2i, 1) := by decide +kernel
theorem zd_LassoFinderModel_unpack_61 : decode prog_14_method_29_code 61 = .ok (.iastore, 1) := by decide +kernel
theorem zd_LassoFinderModel_unpack_62 : decode prog_14_method_29_code 62 = .ok (.iconst 0, 1) := by decide +kernel
theorem zd_LassoFinderModel_unpack_63 : decode prog_14_method_29_code 63 = .ok (.istore 4, 2) := by decide +kernel
theorem zd_LassoFinderModel_unpack_65 : decode prog_14_method_29_code 65 = .ok (.iload 4, 2) := by decide +kernel
theorem zd_LassoFinderModel_unpack_67 : decode prog_14_method_29_code 67 = .ok (.iconst 3, 1) := by decide +kernel
theorem zd_LassoFinderModel_unpack_68 : decode prog_14_method_29_code 68 = .ok (.if_icmp .ge 39, 3) := by decide +kernel
theorem zd_LassoFinderModel_unpack_71 : decode prog_14_method_29_code 71 = .ok (.aload_n 0, 1) := by decide +kernel
theorem zd_LassoFinderModel_unpack_72 : decode prog_14_method_29_code 72 = .ok (.getfield 136, 3) := by decide +kernel
theorem zd_LassoFinderModel_unpack_75 : decode prog_14_method_29_code 75 = .ok (.iconst 3, 1) := by decide +kernel
theorem zd_LassoFinderModel_unpack_76 : decode prog_14_method_29_code 76 = .ok (.iload_n 3, 1) := by decide +kernel
theorem zd_LassoFinderModel_unpack_77 : decode prog_14_method_29_code 77 = .ok (.imul, 1) := by decide +kernel
theorem zd_LassoFinderModel_unpack_78 : decode prog_14_method_29_code 78 = .ok (.iload 4, 2) := by decide +kernel
theorem zd_LassoFinderModel_unpack_80 : decode prog_14_method_29_code 80 = .ok (.iadd, 1) := by decide +kernel
theorem zd_LassoFinderModel_unpack_81 : decode prog_14_method_29_code 81 = .ok (.lload_n 1, 1) := by decide +kernel
theorem zd_LassoFinderModel_unpack_82 : decode prog_14_method_29_code 82 = .ok (.bipush 20, 2) := by decide +kernel
theorem zd_LassoFinderModel_unpack_84 : decode prog_14_method_29_code 84 = .ok (.bipush 11, 2) := by decide +kernel
theorem zd_LassoFinderModel_unpack_86 : decode prog_14_method_29_code 86 = .ok (.iload_n 3, 1) := by decide +kernel
theorem zd_LassoFinderModel_unpack_87 : decode prog_14_method_29_code 87 = .ok (.imul, 1) := by decide +kernel
theorem zd_LassoFinderModel_unpack_88 : decode prog_14_method_29_code 88 = .ok (.iadd, 1) := by decide +kernel
theorem zd_LassoFinderModel_unpack_89 : decode prog_14_method_29_code 89 = .ok (.iconst 3, 1) := by decide +kernel
theorem zd_LassoFinderModel_unpack_90 : decode prog_14_method_29_code 90 = .ok (.iload 4, 2) := by decide +kernel
theorem zd_LassoFinderModel_unpack_92 : decode prog_14_method_29_code 92 = .ok (.imul, 1) := by decide +kernel
theorem zd_LassoFinderModel_unpack_93 : decode prog_14_method_29_code 93 = .ok (.iadd, 1) := by decide +kernel
theorem zd_LassoFinderModel_unpack_94 : decode prog_14_method_29_code 94 = .ok (.lshr, 1) := by decide +kernel
theorem zd_LassoFinderModel_unpack_95 : decode prog_14_method_29_code 95 = .ok (.ldc2_w 304, 3) := by decide +kernel
theorem zd_LassoFinderModel_unpack_98 : decode prog_14_method_29_code 98 = .ok (.land, 1) := by decide +kernel
theorem zd_LassoFinderModel_unpack_99 : decode prog_14_method_29_code 99 = .ok (.l2i, 1) := by decide +kernel
theorem zd_LassoFinderModel_unpack_100 : decode prog_14_method_29_code 100 = .ok (.iastore, 1) := by decide +kernel
theorem zd_LassoFinderModel_unpack_101 : decode prog_14_method_29_code 101 = .ok (.iinc 4 1, 3) := by decide +kernel
theorem zd_LassoFinderModel_unpack_104 : decode prog_14_method_29_code 104 = .ok (.goto (-39), 3) := by decide +kernel
theorem zd_LassoFinderModel_unpack_107 : decode prog_14_method_29_code 107 = .ok (.iinc 3 1, 3) := by decide +kernel
theorem zd_LassoFinderModel_unpack_110 : decode prog_14_method_29_code 110 = .ok (.goto (-76), 3) := by decide +kernel
theorem zd_LassoFinderModel_unpack_113 : decode prog_14_method_29_code 113 = .ok (.iconst 0, 1) := by decide +kernel
theorem zd_LassoFinderModel_unpack_114 : decode prog_14_method_29_code 114 = .ok (.istore_n 3, 1) := by decide +kernel
theorem zd_LassoFinderModel_unpack_115 : decode prog_14_method_29_code 115 = .ok (.iload_n 3, 1) := by decide +kernel
theorem zd_LassoFinderModel_unpack_116 : decode prog_14_method_29_code 116 = .ok (.aload_n 0, 1) := by decide +kernel
theorem zd_LassoFinderModel_unpack_117 : decode prog_14_method_29_code 117 = .ok (.getfield 254, 3) := by decide +kernel
theorem zd_LassoFinderModel_unpack_120 : decode prog_14_method_29_code 120 = .ok (.if_icmp .ge 28, 3) := by decide +kernel
theorem zd_LassoFinderModel_unpack_123 : decode prog_14_method_29_code 123 = .ok (.aload_n 0, 1) := by decide +kernel
theorem zd_LassoFinderModel_unpack_124 : decode prog_14_method_29_code 124 = .ok (.getfield 139, 3) := by decide +kernel
theorem zd_LassoFinderModel_unpack_127 : decode prog_14_method_29_code 127 = .ok (.iload_n 3, 1) := by decide +kernel
theorem zd_LassoFinderModel_unpack_128 : decode prog_14_method_29_code 128 = .ok (.lload_n 1, 1) := by decide +kernel
theorem zd_LassoFinderModel_unpack_129 : decode prog_14_method_29_code 129 = .ok (.bipush 40, 2) := by decide +kernel
theorem zd_LassoFinderModel_unpack_131 : decode prog_14_method_29_code 131 = .ok (.iconst 5, 1) := by decide +kernel
theorem zd_LassoFinderModel_unpack_132 : decode prog_14_method_29_code 132 = .ok (.iload_n 3, 1) := by decide +kernel
theorem zd_LassoFinderModel_unpack_133 : decode prog_14_method_29_code 133 = .ok (.imul, 1) := by decide +kernel
theorem zd_LassoFinderModel_unpack_134 : decode prog_14_method_29_code 134 = .ok (.iadd, 1) := by decide +kernel
theorem zd_LassoFinderModel_unpack_135 : decode prog_14_method_29_code 135 = .ok (.lshr, 1) := by decide +kernel
theorem zd_LassoFinderModel_unpack_136 : decode prog_14_method_29_code 136 = .ok (.ldc2_w 308, 3) := by decide +kernel
theorem zd_LassoFinderModel_unpack_139 : decode prog_14_method_29_code 139 = .ok (.land, 1) := by decide +kernel
theorem zd_LassoFinderModel_unpack_140 : decode prog_14_method_29_code 140 = .ok (.l2i, 1) := by decide +kernel
theorem zd_LassoFinderModel_unpack_141 : decode prog_14_method_29_code 141 = .ok (.iastore, 1) := by decide +kernel
theorem zd_LassoFinderModel_unpack_142 : decode prog_14_method_29_code 142 = .ok (.iinc 3 1, 3) := by decide +kernel
theorem zd_LassoFinderModel_unpack_145 : decode prog_14_method_29_code 145 = .ok (.goto (-30), 3) := by decide +kernel
theorem zd_LassoFinderModel_unpack_148 : decode prog_14_method_29_code 148 = .ok (.aload_n 0, 1) := by decide +kernel
theorem zd_LassoFinderModel_unpack_149 : decode prog_14_method_29_code 149 = .ok (.lload_n 1, 1) := by decide +kernel
theorem zd_LassoFinderModel_unpack_150 : decode prog_14_method_29_code 150 = .ok (.bipush 60, 2) := by decide +kernel
theorem zd_LassoFinderModel_unpack_152 : decode prog_14_method_29_code 152 = .ok (.lshr, 1) := by decide +kernel
theorem zd_LassoFinderModel_unpack_153 : decode prog_14_method_29_code 153 = .ok (.ldc2_w 304, 3) := by decide +kernel
theorem zd_LassoFinderModel_unpack_156 : decode prog_14_method_29_code 156 = .ok (.land, 1) := by decide +kernel
theorem zd_LassoFinderModel_unpack_157 : decode prog_14_method_29_code 157 = .ok (.l2i, 1) := by decide +kernel
theorem zd_LassoFinderModel_unpack_158 : decode prog_14_method_29_code 158 = .ok (.iconst 1, 1) := by decide +kernel
theorem zd_LassoFinderModel_unpack_159 : decode prog_14_method_29_code 159 = .ok (.isub, 1) := by decide +kernel
theorem zd_LassoFinderModel_unpack_160 : decode prog_14_method_29_code 160 = .ok (.putfield 301, 3) := by decide +kernel
theorem zd_LassoFinderModel_unpack_163 : decode prog_14_method_29_code 163 = .ok (.return_, 1) := by decide +kernel
def wc_LassoFinderModel_link_158 (K23 : Int32 → (Nat → Int32) → (Nat → Int64) → (Nat → Nat → Int32) → (Nat → Nat → Int64) → Prop) (Post : (Nat → Int32) → (Nat → Int64) → (Nat → Nat → Int32) → (Nat → Nat → Int64) → Prop) (x1 : Int32) (I : Nat → Int32) (J : Nat → Int64) (B : Nat → Nat → Int32) (D : Nat → Nat → Int64) : Prop :=
  ∀ z1 : Int32, z1 = (x1 + 1) → K23 z1 I J B D
def wb_LassoFinderModel_link_92 (K92 : Int32 → Int32 → Int32 → (Nat → Int32) → (Nat → Int64) → (Nat → Nat → Int32) → (Nat → Nat → Int64) → Prop) (K23 : Int32 → (Nat → Int32) → (Nat → Int64) → (Nat → Nat → Int32) → (Nat → Nat → Int64) → Prop) (Post : (Nat → Int32) → (Nat → Int64) → (Nat → Nat → Int32) → (Nat → Nat → Int64) → Prop) (x1 : Int32) (x2 : Int32) (x3 : Int32) (I : Nat → Int32) (J : Nat → Int64) (B : Nat → Nat → Int32) (D : Nat → Nat → Int64) : Prop :=
  vp_in x3 140 ∧ ∀ z2 : Int32, z2 = ((B 9) x3.toNatClampNeg) → ((z2 = 0 → wc_LassoFinderModel_link_158  K23 Post x1 I J B D) ∧ (¬ z2 = 0 → vp_in x3 140 ∧ ∀ z4 : Int32, z4 = ((B 7) x3.toNatClampNeg) → ((z4 < 0 → wc_LassoFinderModel_link_158  K23 Post x1 I J B D) ∧ (¬ z4 < 0 → vp_in x3 140 ∧ ∀ z6 : Int32, z6 = ((B 7) x3.toNatClampNeg) → vp_in z6 140 ∧ ∀ z7 : Int32, z7 = ((B 5) z6.toNatClampNeg) → ((z7 = 8 → K92 x1 x2 z6 I J B D) ∧ (¬ z7 = 8 → vp_in x2 140 ∧ ∀ z9 : Int32, z9 = ((B 6) x2.toNatClampNeg) → ∀ z10 : Int32, z10 = (31 * z9) → vp_in z6 140 ∧ ∀ z11 : Int32, z11 = ((B 11) z6.toNatClampNeg) → ∀ z12 : Int32, z12 = (z10 + z11) → vp_in z12 124 ∧ ∀ z13 : Int64, z13 = ((D 0) z12.toNatClampNeg) → ∀ z14 : Int64, z14 = ((1 : Int64) <<< (x1.toInt64 &&& 63)) → ∀ z15 : Int64, z15 = (z13 ||| z14) → vp_in z12 124 ∧ K92 x1 x2 z6 I J B (va_up D 0 (vp_updL (D 0) z12.toNatClampNeg z15))))))))
def wl_LassoFinderModel_link_92 (K23 : Int32 → (Nat → Int32) → (Nat → Int64) → (Nat → Nat → Int32) → (Nat → Nat → Int64) → Prop) (Post : (Nat → Int32) → (Nat → Int64) → (Nat → Nat → Int32) → (Nat → Nat → Int64) → Prop) (n : Nat) : Int32 → Int32 → Int32 → (Nat → Int32) → (Nat → Int64) → (Nat → Nat → Int32) → (Nat → Nat → Int64) → Prop := Nat.rec (fun _ _ _ _ _ _ _ => False) (fun _ r => wb_LassoFinderModel_link_92  r K23 Post) n
def wb_LassoFinderModel_link_23 (K23 : Int32 → (Nat → Int32) → (Nat → Int64) → (Nat → Nat → Int32) → (Nat → Nat → Int64) → Prop) (Post : (Nat → Int32) → (Nat → Int64) → (Nat → Nat → Int32) → (Nat → Nat → Int64) → Prop) (x1 : Int32) (I : Nat → Int32) (J : Nat → Int64) (B : Nat → Nat → Int32) (D : Nat → Nat → Int64) : Prop :=
  (((I 9) ≤ x1 → Post I J B D) ∧ (¬ (I 9) ≤ x1 → vp_in x1 48 ∧ ∀ z17 : Int32, z17 = ((B 18) x1.toNatClampNeg) → vp_in z17 140 ∧ ∀ z18 : Int32, z18 = ((B 6) z17.toNatClampNeg) → wp_LassoFinderModel_next I J B D z17 (fun r19 I19 J19 B19 D19 => wp_LassoFinderModel_instead I19 J19 B19 D19 r19 (fun r20 I20 J20 B20 D20 => wp_LassoFinderModel_pointOf I20 J20 B20 D20 z18 r20 (fun r21 I21 J21 B21 D21 => vp_in z17 140 ∧ vp_in z17 140 ∧ ∀ z22 : Int32, z22 = ((B21 6) z17.toNatClampNeg) → ∀ z23 : Int32, z23 = (31 * z22) → vp_in z17 140 ∧ ∀ z24 : Int32, z24 = ((B21 11) z17.toNatClampNeg) → ∀ z25 : Int32, z25 = (z23 + z24) → vp_in z25 124 ∧ ∀ z26 : Int64, z26 = ((D21 0) z25.toNatClampNeg) → ∀ z27 : Int64, z27 = ((1 : Int64) <<< (x1.toInt64 &&& 63)) → ∀ z28 : Int64, z28 = (z26 ||| z27) → vp_in z25 124 ∧ ∃ n : Nat, wl_LassoFinderModel_link_92  K23 Post n x1 z17 z17 I21 J21 (va_up B21 17 (upd (B21 17) z17.toNatClampNeg r21)) (va_up D21 0 (vp_updL (D21 0) z25.toNatClampNeg z28)))))))
def wl_LassoFinderModel_link_23 (Post : (Nat → Int32) → (Nat → Int64) → (Nat → Nat → Int32) → (Nat → Nat → Int64) → Prop) (n : Nat) : Int32 → (Nat → Int32) → (Nat → Int64) → (Nat → Nat → Int32) → (Nat → Nat → Int64) → Prop := Nat.rec (fun _ _ _ _ _ => False) (fun _ r => wb_LassoFinderModel_link_23  r Post) n
def wb_LassoFinderModel_link_2 (K2 : Int32 → (Nat → Int32) → (Nat → Int64) → (Nat → Nat → Int32) → (Nat → Nat → Int64) → Prop) (Post : (Nat → Int32) → (Nat → Int64) → (Nat → Nat → Int32) → (Nat → Nat → Int64) → Prop) (x1 : Int32) (I : Nat → Int32) (J : Nat → Int64) (B : Nat → Nat → Int32) (D : Nat → Nat → Int64) : Prop :=
  (((124 : Int32) ≤ x1 → ∃ n : Nat, wl_LassoFinderModel_link_23  Post n 0 I J B D) ∧ (¬ (124 : Int32) ≤ x1 → vp_in x1 124 ∧ ∀ z30 : Int32, z30 = (x1 + 1) → K2 z30 I J B (va_up D 0 (vp_updL (D 0) x1.toNatClampNeg 0))))
def wl_LassoFinderModel_link_2 (Post : (Nat → Int32) → (Nat → Int64) → (Nat → Nat → Int32) → (Nat → Nat → Int64) → Prop) (n : Nat) : Int32 → (Nat → Int32) → (Nat → Int64) → (Nat → Nat → Int32) → (Nat → Nat → Int64) → Prop := Nat.rec (fun _ _ _ _ _ => False) (fun _ r => wb_LassoFinderModel_link_2  r Post) n
def wp_LassoFinderModel_link (I : Nat → Int32) (J : Nat → Int64) (B : Nat → Nat → Int32) (D : Nat → Nat → Int64) (Post : (Nat → Int32) → (Nat → Int64) → (Nat → Nat → Int32) → (Nat → Nat → Int64) → Prop) : Prop :=
  ∃ n : Nat, wl_LassoFinderModel_link_2  Post n 0 I J B D
set_option maxHeartbeats 8000000 in
set_option maxRecDepth 100000 in
theorem wJ_LassoFinderModel_link_158 {p : Program} {l : Launch} {e : Env} {s : State} {m : MethodId} {below : List Frame} {meth : Method} {c : Code} {A : Nat → Prop} (G : va_G) (K : Nat → ClassId) (ad : Nat → Nat) (Post : (Nat → Int32) → (Nat → Int64) → (Nat → Nat → Int32) → (Nat → Nat → Int64) → Prop) (C : zCx p s m ([.ref (ad 0)] : List Value).toArray meth c A G K prog_14_method_27_code none 4 "LassoFinderModel") (K23 : Int32 → (Nat → Int32) → (Nat → Int64) → (Nat → Nat → Int32) → (Nat → Nat → Int64) → Prop) (kh23 : ∀ (x1 : Int32) (I : Nat → Int32) (J : Nat → Int64) (B : Nat → Nat → Int32) (D : Nat → Nat → Int64) (ls : Array Slot) (H : Heap) (locs : List Loc), K23 x1 I J B D → lv_has ls 4 [(0, .ref (ad 0)), (1, .int x1)] → zW G A s.heap (wM ad K I J B D) H locs → W p l e { frames := 2, cells := 0, slots := 0, locals := 47 } s m ([.ref (ad 0)] : List Value).toArray below meth c H locs 0 0 (MQ below (va_Qv (fun u : zS => Post u.1 u.2.1 u.2.2.1 u.2.2.2) (fun u t => zPost G K A (wM ad K u.1 u.2.1 u.2.2.1 u.2.2.2) t) A) ([.ref (ad 0)] : List Value).toArray s 0 0 A) (F0 m 23 ls [])) : ∀ (x1 : Int32) (I : Nat → Int32) (J : Nat → Int64) (B : Nat → Nat → Int32) (D : Nat → Nat → Int64) (ls : Array Slot) (H : Heap) (locs : List Loc), wc_LassoFinderModel_link_158  K23 Post x1 I J B D → lv_has ls 4 [(0, .ref (ad 0)), (1, .int x1)] → zW G A s.heap (wM ad K I J B D) H locs → W p l e { frames := 2, cells := 0, slots := 0, locals := 47 } s m ([.ref (ad 0)] : List Value).toArray below meth c H locs 0 0 (MQ below (va_Qv (fun u : zS => Post u.1 u.2.1 u.2.2.1 u.2.2.2) (fun u t => zPost G K A (wM ad K u.1 u.2.1 u.2.2.1 u.2.2.2) t) A) ([.ref (ad 0)] : List Value).toArray s 0 0 A) (F0 m 158 ls []) := by
  obtain ⟨hx, hb, hr, hml, hts, hown, hlocks, hA, hK⟩ := id C
  intro x1 I J B D ls H locs hok hl hw
  unfold wc_LassoFinderModel_link_158 at hok
  obtain ⟨z1, ez1⟩ : ∃ z : Int32, z = (x1 + 1) := ⟨_, rfl⟩
  have hok := hok z1 ez1
  refine lv_iinc (v := z1) hx hb zd_LassoFinderModel_link_158 hl (k := 1) rfl ez1.symm (by decide) rfl (fun ls hl => ?_)
  have hl : lv_has ls 4 [(1, .int z1), (0, .ref (ad 0))] := hl
  refine lv_goto (tgt := 23) hx hb zd_LassoFinderModel_link_161 (by decide) ?_
  exact kh23 z1 I J B D ls H locs hok (lv_sub hl [1, 0] rfl) hw
set_option maxHeartbeats 8000000 in
set_option maxRecDepth 100000 in
theorem wB_LassoFinderModel_link_92 {p : Program} {l : Launch} {e : Env} {s : State} {m : MethodId} {below : List Frame} {meth : Method} {c : Code} {A : Nat → Prop} (G : va_G) (K : Nat → ClassId) (ad : Nat → Nat) (Post : (Nat → Int32) → (Nat → Int64) → (Nat → Nat → Int32) → (Nat → Nat → Int64) → Prop) (C : zCx p s m ([.ref (ad 0)] : List Value).toArray meth c A G K prog_14_method_27_code none 4 "LassoFinderModel") (K23 : Int32 → (Nat → Int32) → (Nat → Int64) → (Nat → Nat → Int32) → (Nat → Nat → Int64) → Prop) (kh23 : ∀ (x1 : Int32) (I : Nat → Int32) (J : Nat → Int64) (B : Nat → Nat → Int32) (D : Nat → Nat → Int64) (ls : Array Slot) (H : Heap) (locs : List Loc), K23 x1 I J B D → lv_has ls 4 [(0, .ref (ad 0)), (1, .int x1)] → zW G A s.heap (wM ad K I J B D) H locs → W p l e { frames := 2, cells := 0, slots := 0, locals := 47 } s m ([.ref (ad 0)] : List Value).toArray below meth c H locs 0 0 (MQ below (va_Qv (fun u : zS => Post u.1 u.2.1 u.2.2.1 u.2.2.2) (fun u t => zPost G K A (wM ad K u.1 u.2.1 u.2.2.1 u.2.2.2) t) A) ([.ref (ad 0)] : List Value).toArray s 0 0 A) (F0 m 23 ls [])) (K92 : Int32 → Int32 → Int32 → (Nat → Int32) → (Nat → Int64) → (Nat → Nat → Int32) → (Nat → Nat → Int64) → Prop) (kh92 : ∀ (x1 : Int32) (x2 : Int32) (x3 : Int32) (I : Nat → Int32) (J : Nat → Int64) (B : Nat → Nat → Int32) (D : Nat → Nat → Int64) (ls : Array Slot) (H : Heap) (locs : List Loc), K92 x1 x2 x3 I J B D → lv_has ls 4 [(0, .ref (ad 0)), (1, .int x1), (2, .int x2), (3, .int x3)] → zW G A s.heap (wM ad K I J B D) H locs → W p l e { frames := 2, cells := 0, slots := 0, locals := 47 } s m ([.ref (ad 0)] : List Value).toArray below meth c H locs 0 0 (MQ below (va_Qv (fun u : zS => Post u.1 u.2.1 u.2.2.1 u.2.2.2) (fun u t => zPost G K A (wM ad K u.1 u.2.1 u.2.2.1 u.2.2.2) t) A) ([.ref (ad 0)] : List Value).toArray s 0 0 A) (F0 m 92 ls [])) : ∀ (x1 : Int32) (x2 : Int32) (x3 : Int32) (I : Nat → Int32) (J : Nat → Int64) (B : Nat → Nat → Int32) (D : Nat → Nat → Int64) (ls : Array Slot) (H : Heap) (locs : List Loc), wb_LassoFinderModel_link_92  K92 K23 Post x1 x2 x3 I J B D → lv_has ls 4 [(0, .ref (ad 0)), (1, .int x1), (2, .int x2), (3, .int x3)] → zW G A s.heap (wM ad K I J B D) H locs → W p l e { frames := 2, cells := 0, slots := 0, locals := 47 } s m ([.ref (ad 0)] : List Value).toArray below meth c H locs 0 0 (MQ below (va_Qv (fun u : zS => Post u.1 u.2.1 u.2.2.1 u.2.2.2) (fun u t => zPost G K A (wM ad K u.1 u.2.1 u.2.2.1 u.2.2.2) t) A) ([.ref (ad 0)] : List Value).toArray s 0 0 A) (F0 m 92 ls []) := by
  obtain ⟨hx, hb, hr, hml, hts, hown, hlocks, hA, hK⟩ := id C
  intro x1 x2 x3 I J B D ls H locs hok hl hw
  unfold wb_LassoFinderModel_link_92 at hok
  refine lv_aload_n hx hb zd_LassoFinderModel_link_92 rfl (lv_at hl 0 rfl) ?_
  refine z_get (v := .ref (ad 10)) hx hb hts hown hK hw zZ12 0 wM_g0 18 (by decide) zm_244 rfl zd_LassoFinderModel_link_93 ?_
  refine lv_iload_n hx hb zd_LassoFinderModel_link_96 rfl (lv_at hl 3 rfl) ?_
  refine va_zald (f := (B 9)) hx hb hK hw.1 10 2 wM_a10 rfl hok.1 zd_LassoFinderModel_link_97 ?_
  have hok := hok.2
  refine lv_topi (fun z2 ez2 => ?_)
  have hok := hok z2 ez2
  refine lv_if_eq (tgt := 158) hx hb zd_LassoFinderModel_link_98 (by decide) (fun hc3 => ?_) (fun hc3 => ?_)
  · have hok := hok.1 hc3
    exact wJ_LassoFinderModel_link_158 G K ad  Post C K23 kh23 x1 I J B D ls H locs hok (lv_sub hl [0, 1] rfl) hw
  · have hok := hok.2 hc3
    refine lv_aload_n hx hb zd_LassoFinderModel_link_101 rfl (lv_at hl 0 rfl) ?_
    refine z_get (v := .ref (ad 8)) hx hb hts hown hK hw zZ12 0 wM_g0 16 (by decide) zm_242 rfl zd_LassoFinderModel_link_102 ?_
    refine lv_iload_n hx hb zd_LassoFinderModel_link_105 rfl (lv_at hl 3 rfl) ?_
    refine va_iald (f := (B 7)) hx hb hK hw.1 8 0 wM_a8 rfl hok.1 zd_LassoFinderModel_link_106 ?_
    have hok := hok.2
    refine lv_topi (fun z4 ez4 => ?_)
    have hok := hok z4 ez4
    refine lv_if_lt (tgt := 158) hx hb zd_LassoFinderModel_link_107 (by decide) (fun hc5 => ?_) (fun hc5 => ?_)
    · have hok := hok.1 hc5
      exact wJ_LassoFinderModel_link_158 G K ad  Post C K23 kh23 x1 I J B D ls H locs hok (lv_sub hl [0, 1] rfl) hw
    · have hok := hok.2 hc5
      refine lv_aload_n hx hb zd_LassoFinderModel_link_110 rfl (lv_at hl 0 rfl) ?_
      refine z_get (v := .ref (ad 8)) hx hb hts hown hK hw zZ12 0 wM_g0 16 (by decide) zm_242 rfl zd_LassoFinderModel_link_111 ?_
      refine lv_iload_n hx hb zd_LassoFinderModel_link_114 rfl (lv_at hl 3 rfl) ?_
      refine va_iald (f := (B 7)) hx hb hK hw.1 8 0 wM_a8 rfl hok.1 zd_LassoFinderModel_link_115 ?_
      have hok := hok.2
      refine lv_topi (fun z6 ez6 => ?_)
      have hok := hok z6 ez6
      refine lv_istore_n hx hb zd_LassoFinderModel_link_116 rfl hl (by decide) rfl (fun ls hl => ?_)
      have hl : lv_has ls 4 [(3, .int z6), (0, .ref (ad 0)), (1, .int x1), (2, .int x2)] := hl
      refine lv_aload_n hx hb zd_LassoFinderModel_link_117 rfl (lv_at hl 1 rfl) ?_
      refine z_get (v := .ref (ad 6)) hx hb hts hown hK hw zZ12 0 wM_g0 14 (by decide) zm_240 rfl zd_LassoFinderModel_link_118 ?_
      refine lv_iload_n hx hb zd_LassoFinderModel_link_121 rfl (lv_at hl 0 rfl) ?_
      refine va_iald (f := (B 5)) hx hb hK hw.1 6 0 wM_a6 rfl hok.1 zd_LassoFinderModel_link_122 ?_
      have hok := hok.2
      refine lv_topi (fun z7 ez7 => ?_)
      have hok := hok z7 ez7
      refine lv_bipush (v := 8) hx hb zd_LassoFinderModel_link_123 (by decide) ?_
      refine lv_icmp_eq (tgt := 92) hx hb zd_LassoFinderModel_link_125 (by decide) (fun hc8 => ?_) (fun hc8 => ?_)
      · have hok := hok.1 hc8
        exact kh92 x1 x2 z6 I J B D ls H locs hok (lv_sub hl [1, 2, 3, 0] rfl) hw
      · have hok := hok.2 hc8
        refine lv_aload_n hx hb zd_LassoFinderModel_link_128 rfl (lv_at hl 1 rfl) ?_
        refine z_get (v := .ref (ad 25)) hx hb hts hown hK hw zZ12 0 wM_g0 35 (by decide) zm_259 rfl zd_LassoFinderModel_link_129 ?_
        refine lv_bipush (v := 31) hx hb zd_LassoFinderModel_link_132 (by decide) ?_
        refine lv_aload_n hx hb zd_LassoFinderModel_link_134 rfl (lv_at hl 1 rfl) ?_
        refine z_get (v := .ref (ad 7)) hx hb hts hown hK hw zZ12 0 wM_g0 15 (by decide) zm_241 rfl zd_LassoFinderModel_link_135 ?_
        refine lv_iload_n hx hb zd_LassoFinderModel_link_138 rfl (lv_at hl 3 rfl) ?_
        refine va_iald (f := (B 6)) hx hb hK hw.1 7 0 wM_a7 rfl hok.1 zd_LassoFinderModel_link_139 ?_
        have hok := hok.2
        refine lv_topi (fun z9 ez9 => ?_)
        have hok := hok z9 ez9
        refine lv_imul hx hb zd_LassoFinderModel_link_140 ?_
        refine lv_topi (fun z10 ez10 => ?_)
        have hok := hok z10 ez10
        refine lv_aload_n hx hb zd_LassoFinderModel_link_141 rfl (lv_at hl 1 rfl) ?_
        refine z_get (v := .ref (ad 12)) hx hb hts hown hK hw zZ12 0 wM_g0 20 (by decide) zm_246 rfl zd_LassoFinderModel_link_142 ?_
        refine lv_iload_n hx hb zd_LassoFinderModel_link_145 rfl (lv_at hl 0 rfl) ?_
        refine va_iald (f := (B 11)) hx hb hK hw.1 12 0 wM_a12 rfl hok.1 zd_LassoFinderModel_link_146 ?_
        have hok := hok.2
        refine lv_topi (fun z11 ez11 => ?_)
        have hok := hok z11 ez11
        refine lv_iadd hx hb zd_LassoFinderModel_link_147 ?_
        refine lv_topi (fun z12 ez12 => ?_)
        have hok := hok z12 ez12
        refine lv_dup2_11 hx hb zd_LassoFinderModel_link_148 rfl rfl ?_
        refine va_lald (f := (D 0)) hx hb hK hw.1 25 1 wM_a25 rfl hok.1 zd_LassoFinderModel_link_149 ?_
        have hok := hok.2
        refine lv_topl (fun z13 ez13 => ?_)
        have hok := hok z13 ez13
        refine lv_lconst (v := 1) hx hb zd_LassoFinderModel_link_150 (by decide) ?_
        refine lv_iload_n hx hb zd_LassoFinderModel_link_151 rfl (lv_at hl 2 rfl) ?_
        refine lv_lshl hx hb zd_LassoFinderModel_link_152 rfl ?_
        refine lv_topl (fun z14 ez14 => ?_)
        have hok := hok z14 ez14
        refine lv_lor hx hb zd_LassoFinderModel_link_153 ?_
        refine lv_topl (fun z15 ez15 => ?_)
        have hok := hok z15 ez15
        refine va_last (f := (D 0)) hx hb hK hw.1 hw.2.1 hw.2.2 25 1 wM_a25 rfl hok.1 zd_LassoFinderModel_link_154 (fun H locs w91 w92 w93 => ?_)
        have hok := hok.2
        have hw := wM_t25 ⟨w91, w92, w93⟩
        refine lv_goto (tgt := 92) hx hb zd_LassoFinderModel_link_155 (by decide) ?_
        exact kh92 x1 x2 z6 I J B (va_up D 0 (vp_updL (D 0) z12.toNatClampNeg z15)) ls H locs hok (lv_sub hl [1, 2, 3, 0] rfl) hw
theorem wL_LassoFinderModel_link_92 {p : Program} {l : Launch} {e : Env} {s : State} {m : MethodId} {below : List Frame} {meth : Method} {c : Code} {A : Nat → Prop} (G : va_G) (K : Nat → ClassId) (ad : Nat → Nat) (Post : (Nat → Int32) → (Nat → Int64) → (Nat → Nat → Int32) → (Nat → Nat → Int64) → Prop) (C : zCx p s m ([.ref (ad 0)] : List Value).toArray meth c A G K prog_14_method_27_code none 4 "LassoFinderModel") (K23 : Int32 → (Nat → Int32) → (Nat → Int64) → (Nat → Nat → Int32) → (Nat → Nat → Int64) → Prop) (kh23 : ∀ (x1 : Int32) (I : Nat → Int32) (J : Nat → Int64) (B : Nat → Nat → Int32) (D : Nat → Nat → Int64) (ls : Array Slot) (H : Heap) (locs : List Loc), K23 x1 I J B D → lv_has ls 4 [(0, .ref (ad 0)), (1, .int x1)] → zW G A s.heap (wM ad K I J B D) H locs → W p l e { frames := 2, cells := 0, slots := 0, locals := 47 } s m ([.ref (ad 0)] : List Value).toArray below meth c H locs 0 0 (MQ below (va_Qv (fun u : zS => Post u.1 u.2.1 u.2.2.1 u.2.2.2) (fun u t => zPost G K A (wM ad K u.1 u.2.1 u.2.2.1 u.2.2.2) t) A) ([.ref (ad 0)] : List Value).toArray s 0 0 A) (F0 m 23 ls [])) : ∀ (n : Nat) (x1 : Int32) (x2 : Int32) (x3 : Int32) (I : Nat → Int32) (J : Nat → Int64) (B : Nat → Nat → Int32) (D : Nat → Nat → Int64) (ls : Array Slot) (H : Heap) (locs : List Loc), wl_LassoFinderModel_link_92  K23 Post n x1 x2 x3 I J B D → lv_has ls 4 [(0, .ref (ad 0)), (1, .int x1), (2, .int x2), (3, .int x3)] → zW G A s.heap (wM ad K I J B D) H locs → W p l e { frames := 2, cells := 0, slots := 0, locals := 47 } s m ([.ref (ad 0)] : List Value).toArray below meth c H locs 0 0 (MQ below (va_Qv (fun u : zS => Post u.1 u.2.1 u.2.2.1 u.2.2.2) (fun u t => zPost G K A (wM ad K u.1 u.2.1 u.2.2.1 u.2.2.2) t) A) ([.ref (ad 0)] : List Value).toArray s 0 0 A) (F0 m 92 ls []) := by
  intro n
  induction n with
  | zero => intro x1 x2 x3 I J B D ls H locs hok; exact hok.elim
  | succ n ih => exact wB_LassoFinderModel_link_92 G K ad  Post C K23 kh23 (wl_LassoFinderModel_link_92  K23 Post n) ih
set_option maxHeartbeats 8000000 in
set_option maxRecDepth 100000 in
theorem wB_LassoFinderModel_link_23 {p : Program} {l : Launch} {e : Env} {s : State} {m : MethodId} {below : List Frame} {meth : Method} {c : Code} {A : Nat → Prop} (G : va_G) (K : Nat → ClassId) (ad : Nat → Nat) (Post : (Nat → Int32) → (Nat → Int64) → (Nat → Nat → Int32) → (Nat → Nat → Int64) → Prop) (C : zCx p s m ([.ref (ad 0)] : List Value).toArray meth c A G K prog_14_method_27_code none 4 "LassoFinderModel") (K23 : Int32 → (Nat → Int32) → (Nat → Int64) → (Nat → Nat → Int32) → (Nat → Nat → Int64) → Prop) (kh23 : ∀ (x1 : Int32) (I : Nat → Int32) (J : Nat → Int64) (B : Nat → Nat → Int32) (D : Nat → Nat → Int64) (ls : Array Slot) (H : Heap) (locs : List Loc), K23 x1 I J B D → lv_has ls 4 [(0, .ref (ad 0)), (1, .int x1)] → zW G A s.heap (wM ad K I J B D) H locs → W p l e { frames := 2, cells := 0, slots := 0, locals := 47 } s m ([.ref (ad 0)] : List Value).toArray below meth c H locs 0 0 (MQ below (va_Qv (fun u : zS => Post u.1 u.2.1 u.2.2.1 u.2.2.2) (fun u t => zPost G K A (wM ad K u.1 u.2.1 u.2.2.1 u.2.2.2) t) A) ([.ref (ad 0)] : List Value).toArray s 0 0 A) (F0 m 23 ls [])) : ∀ (x1 : Int32) (I : Nat → Int32) (J : Nat → Int64) (B : Nat → Nat → Int32) (D : Nat → Nat → Int64) (ls : Array Slot) (H : Heap) (locs : List Loc), wb_LassoFinderModel_link_23  K23 Post x1 I J B D → lv_has ls 4 [(0, .ref (ad 0)), (1, .int x1)] → zW G A s.heap (wM ad K I J B D) H locs → W p l e { frames := 2, cells := 0, slots := 0, locals := 47 } s m ([.ref (ad 0)] : List Value).toArray below meth c H locs 0 0 (MQ below (va_Qv (fun u : zS => Post u.1 u.2.1 u.2.2.1 u.2.2.2) (fun u t => zPost G K A (wM ad K u.1 u.2.1 u.2.2.1 u.2.2.2) t) A) ([.ref (ad 0)] : List Value).toArray s 0 0 A) (F0 m 23 ls []) := by
  obtain ⟨hx, hb, hr, hml, hts, hown, hlocks, hA, hK⟩ := id C
  intro x1 I J B D ls H locs hok hl hw
  unfold wb_LassoFinderModel_link_23 at hok
  refine lv_iload_n hx hb zd_LassoFinderModel_link_23 rfl (lv_at hl 1 rfl) ?_
  refine lv_aload_n hx hb zd_LassoFinderModel_link_24 rfl (lv_at hl 0 rfl) ?_
  refine z_get (v := .int (I 9)) hx hb hts hown hK hw zZ12 0 wM_g0 27 (by decide) zm_303 rfl zd_LassoFinderModel_link_25 ?_
  refine lv_icmp_ge (tgt := 164) hx hb zd_LassoFinderModel_link_28 (by decide) (fun hc16 => ?_) (fun hc16 => ?_)
  · have hok := hok.1 hc16
    exact (z_vret (u := (I, J, B, D)) hx hb hr hlocks hw (List.range 58) wM_all wM_nd hok (Nat.le_of_ble_eq_true rfl) (Nat.le_of_ble_eq_true rfl) zd_LassoFinderModel_link_164)
  · have hok := hok.2 hc16
    refine lv_aload_n hx hb zd_LassoFinderModel_link_31 rfl (lv_at hl 0 rfl) ?_
    refine z_get (v := .ref (ad 19)) hx hb hts hown hK hw zZ12 0 wM_g0 28 (by decide) zm_253 rfl zd_LassoFinderModel_link_32 ?_
    refine lv_iload_n hx hb zd_LassoFinderModel_link_35 rfl (lv_at hl 1 rfl) ?_
    refine va_iald (f := (B 18)) hx hb hK hw.1 19 0 wM_a19 rfl hok.1 zd_LassoFinderModel_link_36 ?_
    have hok := hok.2
    refine lv_topi (fun z17 ez17 => ?_)
    have hok := hok z17 ez17
    refine lv_istore_n hx hb zd_LassoFinderModel_link_37 rfl hl (by decide) rfl (fun ls hl => ?_)
    have hl : lv_has ls 4 [(2, .int z17), (0, .ref (ad 0)), (1, .int x1)] := hl
    refine lv_aload_n hx hb zd_LassoFinderModel_link_38 rfl (lv_at hl 1 rfl) ?_
    refine z_get (v := .ref (ad 18)) hx hb hts hown hK hw zZ12 0 wM_g0 26 (by decide) zm_252 rfl zd_LassoFinderModel_link_39 ?_
    refine lv_iload_n hx hb zd_LassoFinderModel_link_42 rfl (lv_at hl 0 rfl) ?_
    refine lv_aload_n hx hb zd_LassoFinderModel_link_43 rfl (lv_at hl 1 rfl) ?_
    refine lv_aload_n hx hb zd_LassoFinderModel_link_44 rfl (lv_at hl 1 rfl) ?_
    refine z_get (v := .ref (ad 7)) hx hb hts hown hK hw zZ12 0 wM_g0 15 (by decide) zm_241 rfl zd_LassoFinderModel_link_45 ?_
    refine lv_iload_n hx hb zd_LassoFinderModel_link_48 rfl (lv_at hl 0 rfl) ?_
    refine va_iald (f := (B 6)) hx hb hK hw.1 7 0 wM_a7 rfl hok.1 zd_LassoFinderModel_link_49 ?_
    have hok := hok.2
    refine lv_topi (fun z18 ez18 => ?_)
    have hok := hok z18 ez18
    refine lv_aload_n hx hb zd_LassoFinderModel_link_50 rfl (lv_at hl 1 rfl) ?_
    refine lv_aload_n hx hb zd_LassoFinderModel_link_51 rfl (lv_at hl 1 rfl) ?_
    refine lv_iload_n hx hb zd_LassoFinderModel_link_52 rfl (lv_at hl 0 rfl) ?_
    refine z_calli (w1 := fun (u : zS) => wM ad K u.1 u.2.1 u.2.2.1 u.2.2.2) (wr := []) (z_runV (q0 := 0) (wc := (wM ad K I J B D)) (As := [.int z17]) (rest := [.ref (ad 0), .int z18, .ref (ad 0), .int z17, .ref (ad 18)]) ⟨hx, hb, hml, hown, hts⟩ (w_LassoFinderModel_next l G K ad I J B D z17 _ H.size hok) zf_LassoFinderModel_next zm_304 ⟨Nat.le_of_ble_eq_true rfl, Nat.le_of_ble_eq_true rfl⟩ hK hw (List.range 58) wM_all wM_nd wM_g0 rfl rfl hl.1 rfl (Nat.le_of_ble_eq_true rfl) zd_LassoFinderModel_link_53 ⟨Nat.le_of_ble_eq_true rfl, Nat.le_of_ble_eq_true rfl⟩) hw hA (List.range 58) [] wM_all rfl (by decide) (fun i hi => by cases hi) (fun r19 u H locs hok hw => ?_)
    obtain ⟨I19, J19, B19, D19⟩ := u
    dsimp only at hok
    have hw : zW G A s.heap (wM ad K I19 J19 B19 D19) H locs := hw
    refine z_calli (w1 := fun (u : zS) => wM ad K u.1 u.2.1 u.2.2.1 u.2.2.2) (wr := []) (z_runV (q0 := 0) (wc := (wM ad K I19 J19 B19 D19)) (As := [.int r19]) (rest := [.int z18, .ref (ad 0), .int z17, .ref (ad 18)]) ⟨hx, hb, hml, hown, hts⟩ (w_LassoFinderModel_instead l G K ad I19 J19 B19 D19 r19 _ H.size hok) zf_LassoFinderModel_instead zm_305 ⟨Nat.le_of_ble_eq_true rfl, Nat.le_of_ble_eq_true rfl⟩ hK hw (List.range 58) wM_all wM_nd wM_g0 rfl rfl hl.1 rfl (Nat.le_of_ble_eq_true rfl) zd_LassoFinderModel_link_56 ⟨Nat.le_of_ble_eq_true rfl, Nat.le_of_ble_eq_true rfl⟩) hw hA (List.range 58) [] wM_all rfl (by decide) (fun i hi => by cases hi) (fun r20 u H locs hok hw => ?_)
    obtain ⟨I20, J20, B20, D20⟩ := u
    dsimp only at hok
    have hw : zW G A s.heap (wM ad K I20 J20 B20 D20) H locs := hw
    refine z_calli (w1 := fun (u : zS) => wM ad K u.1 u.2.1 u.2.2.1 u.2.2.2) (wr := []) (z_runV (q0 := 0) (wc := (wM ad K I20 J20 B20 D20)) (As := [.int z18, .int r20]) (rest := [.int z17, .ref (ad 18)]) ⟨hx, hb, hml, hown, hts⟩ (w_LassoFinderModel_pointOf l G K ad I20 J20 B20 D20 z18 r20 _ H.size hok) zf_LassoFinderModel_pointOf zm_306 ⟨Nat.le_of_ble_eq_true rfl, Nat.le_of_ble_eq_true rfl⟩ hK hw (List.range 58) wM_all wM_nd wM_g0 rfl rfl hl.1 rfl (Nat.le_of_ble_eq_true rfl) zd_LassoFinderModel_link_59 ⟨Nat.le_of_ble_eq_true rfl, Nat.le_of_ble_eq_true rfl⟩) hw hA (List.range 58) [] wM_all rfl (by decide) (fun i hi => by cases hi) (fun r21 u H locs hok hw => ?_)
    obtain ⟨I21, J21, B21, D21⟩ := u
    dsimp only at hok
    have hw : zW G A s.heap (wM ad K I21 J21 B21 D21) H locs := hw
    refine va_iast (f := (B21 17)) hx hb hK hw.1 hw.2.1 hw.2.2 18 0 wM_a18 rfl hok.1 zd_LassoFinderModel_link_62 (fun H locs w91 w92 w93 => ?_)
    have hok := hok.2
    have hw := wM_t18 ⟨w91, w92, w93⟩
    refine lv_iload_n hx hb zd_LassoFinderModel_link_63 rfl (lv_at hl 0 rfl) ?_
    refine lv_istore_n hx hb zd_LassoFinderModel_link_64 rfl hl (by decide) rfl (fun ls hl => ?_)
    have hl : lv_has ls 4 [(3, .int z17), (2, .int z17), (0, .ref (ad 0)), (1, .int x1)] := hl
    refine lv_aload_n hx hb zd_LassoFinderModel_link_65 rfl (lv_at hl 2 rfl) ?_
    refine z_get (v := .ref (ad 25)) hx hb hts hown hK hw zZ12 0 wM_g0 35 (by decide) zm_259 rfl zd_LassoFinderModel_link_66 ?_
    refine lv_bipush (v := 31) hx hb zd_LassoFinderModel_link_69 (by decide) ?_
    refine lv_aload_n hx hb zd_LassoFinderModel_link_71 rfl (lv_at hl 2 rfl) ?_
    refine z_get (v := .ref (ad 7)) hx hb hts hown hK hw zZ12 0 wM_g0 15 (by decide) zm_241 rfl zd_LassoFinderModel_link_72 ?_
    refine lv_iload_n hx hb zd_LassoFinderModel_link_75 rfl (lv_at hl 1 rfl) ?_
    refine va_iald (f := (B21 6)) hx hb hK hw.1 7 0 wM_a7 rfl hok.1 zd_LassoFinderModel_link_76 ?_
    have hok := hok.2
    refine lv_topi (fun z22 ez22 => ?_)
    have hok := hok z22 ez22
    refine lv_imul hx hb zd_LassoFinderModel_link_77 ?_
    refine lv_topi (fun z23 ez23 => ?_)
    have hok := hok z23 ez23
    refine lv_aload_n hx hb zd_LassoFinderModel_link_78 rfl (lv_at hl 2 rfl) ?_
    refine z_get (v := .ref (ad 12)) hx hb hts hown hK hw zZ12 0 wM_g0 20 (by decide) zm_246 rfl zd_LassoFinderModel_link_79 ?_
    refine lv_iload_n hx hb zd_LassoFinderModel_link_82 rfl (lv_at hl 0 rfl) ?_
    refine va_iald (f := (B21 11)) hx hb hK hw.1 12 0 wM_a12 rfl hok.1 zd_LassoFinderModel_link_83 ?_
    have hok := hok.2
    refine lv_topi (fun z24 ez24 => ?_)
    have hok := hok z24 ez24
    refine lv_iadd hx hb zd_LassoFinderModel_link_84 ?_
    refine lv_topi (fun z25 ez25 => ?_)
    have hok := hok z25 ez25
    refine lv_dup2_11 hx hb zd_LassoFinderModel_link_85 rfl rfl ?_
    refine va_lald (f := (D21 0)) hx hb hK hw.1 25 1 wM_a25 rfl hok.1 zd_LassoFinderModel_link_86 ?_
    have hok := hok.2
    refine lv_topl (fun z26 ez26 => ?_)
    have hok := hok z26 ez26
    refine lv_lconst (v := 1) hx hb zd_LassoFinderModel_link_87 (by decide) ?_
    refine lv_iload_n hx hb zd_LassoFinderModel_link_88 rfl (lv_at hl 3 rfl) ?_
    refine lv_lshl hx hb zd_LassoFinderModel_link_89 rfl ?_
    refine lv_topl (fun z27 ez27 => ?_)
    have hok := hok z27 ez27
    refine lv_lor hx hb zd_LassoFinderModel_link_90 ?_
    refine lv_topl (fun z28 ez28 => ?_)
    have hok := hok z28 ez28
    refine va_last (f := (D21 0)) hx hb hK hw.1 hw.2.1 hw.2.2 25 1 wM_a25 rfl hok.1 zd_LassoFinderModel_link_91 (fun H locs w91 w92 w93 => ?_)
    have hok := hok.2
    have hw := wM_t25 ⟨w91, w92, w93⟩
    obtain ⟨n9, hok⟩ := hok
    exact wL_LassoFinderModel_link_92 G K ad  Post C K23 kh23 n9 x1 z17 z17 I21 J21 (va_up B21 17 (upd (B21 17) z17.toNatClampNeg r21)) (va_up D21 0 (vp_updL (D21 0) z25.toNatClampNeg z28)) ls H locs hok (lv_sub hl [2, 3, 1, 0] rfl) hw
theorem wL_LassoFinderModel_link_23 {p : Program} {l : Launch} {e : Env} {s : State} {m : MethodId} {below : List Frame} {meth : Method} {c : Code} {A : Nat → Prop} (G : va_G) (K : Nat → ClassId) (ad : Nat → Nat) (Post : (Nat → Int32) → (Nat → Int64) → (Nat → Nat → Int32) → (Nat → Nat → Int64) → Prop) (C : zCx p s m ([.ref (ad 0)] : List Value).toArray meth c A G K prog_14_method_27_code none 4 "LassoFinderModel") : ∀ (n : Nat) (x1 : Int32) (I : Nat → Int32) (J : Nat → Int64) (B : Nat → Nat → Int32) (D : Nat → Nat → Int64) (ls : Array Slot) (H : Heap) (locs : List Loc), wl_LassoFinderModel_link_23  Post n x1 I J B D → lv_has ls 4 [(0, .ref (ad 0)), (1, .int x1)] → zW G A s.heap (wM ad K I J B D) H locs → W p l e { frames := 2, cells := 0, slots := 0, locals := 47 } s m ([.ref (ad 0)] : List Value).toArray below meth c H locs 0 0 (MQ below (va_Qv (fun u : zS => Post u.1 u.2.1 u.2.2.1 u.2.2.2) (fun u t => zPost G K A (wM ad K u.1 u.2.1 u.2.2.1 u.2.2.2) t) A) ([.ref (ad 0)] : List Value).toArray s 0 0 A) (F0 m 23 ls []) := by
  intro n
  induction n with
  | zero => intro x1 I J B D ls H locs hok; exact hok.elim
  | succ n ih => exact wB_LassoFinderModel_link_23 G K ad  Post C (wl_LassoFinderModel_link_23  Post n) ih
set_option maxHeartbeats 8000000 in
set_option maxRecDepth 100000 in
theorem wB_LassoFinderModel_link_2 {p : Program} {l : Launch} {e : Env} {s : State} {m : MethodId} {below : List Frame} {meth : Method} {c : Code} {A : Nat → Prop} (G : va_G) (K : Nat → ClassId) (ad : Nat → Nat) (Post : (Nat → Int32) → (Nat → Int64) → (Nat → Nat → Int32) → (Nat → Nat → Int64) → Prop) (C : zCx p s m ([.ref (ad 0)] : List Value).toArray meth c A G K prog_14_method_27_code none 4 "LassoFinderModel") (K2 : Int32 → (Nat → Int32) → (Nat → Int64) → (Nat → Nat → Int32) → (Nat → Nat → Int64) → Prop) (kh2 : ∀ (x1 : Int32) (I : Nat → Int32) (J : Nat → Int64) (B : Nat → Nat → Int32) (D : Nat → Nat → Int64) (ls : Array Slot) (H : Heap) (locs : List Loc), K2 x1 I J B D → lv_has ls 4 [(0, .ref (ad 0)), (1, .int x1)] → zW G A s.heap (wM ad K I J B D) H locs → W p l e { frames := 2, cells := 0, slots := 0, locals := 47 } s m ([.ref (ad 0)] : List Value).toArray below meth c H locs 0 0 (MQ below (va_Qv (fun u : zS => Post u.1 u.2.1 u.2.2.1 u.2.2.2) (fun u t => zPost G K A (wM ad K u.1 u.2.1 u.2.2.1 u.2.2.2) t) A) ([.ref (ad 0)] : List Value).toArray s 0 0 A) (F0 m 2 ls [])) : ∀ (x1 : Int32) (I : Nat → Int32) (J : Nat → Int64) (B : Nat → Nat → Int32) (D : Nat → Nat → Int64) (ls : Array Slot) (H : Heap) (locs : List Loc), wb_LassoFinderModel_link_2  K2 Post x1 I J B D → lv_has ls 4 [(0, .ref (ad 0)), (1, .int x1)] → zW G A s.heap (wM ad K I J B D) H locs → W p l e { frames := 2, cells := 0, slots := 0, locals := 47 } s m ([.ref (ad 0)] : List Value).toArray below meth c H locs 0 0 (MQ below (va_Qv (fun u : zS => Post u.1 u.2.1 u.2.2.1 u.2.2.2) (fun u t => zPost G K A (wM ad K u.1 u.2.1 u.2.2.1 u.2.2.2) t) A) ([.ref (ad 0)] : List Value).toArray s 0 0 A) (F0 m 2 ls []) := by
  obtain ⟨hx, hb, hr, hml, hts, hown, hlocks, hA, hK⟩ := id C
  intro x1 I J B D ls H locs hok hl hw
  unfold wb_LassoFinderModel_link_2 at hok
  refine lv_iload_n hx hb zd_LassoFinderModel_link_2 rfl (lv_at hl 1 rfl) ?_
  refine lv_bipush (v := 124) hx hb zd_LassoFinderModel_link_3 (by decide) ?_
  refine lv_icmp_ge (tgt := 21) hx hb zd_LassoFinderModel_link_5 (by decide) (fun hc29 => ?_) (fun hc29 => ?_)
  · have hok := hok.1 hc29
    refine lv_iconst (v := 0) hx hb zd_LassoFinderModel_link_21 (by decide) ?_
    refine lv_istore_n hx hb zd_LassoFinderModel_link_22 rfl hl (by decide) rfl (fun ls hl => ?_)
    have hl : lv_has ls 4 [(1, .int 0), (0, .ref (ad 0))] := hl
    obtain ⟨n9, hok⟩ := hok
    exact wL_LassoFinderModel_link_23 G K ad  Post C n9 0 I J B D ls H locs hok (lv_sub hl [1, 0] rfl) hw
  · have hok := hok.2 hc29
    refine lv_aload_n hx hb zd_LassoFinderModel_link_8 rfl (lv_at hl 0 rfl) ?_
    refine z_get (v := .ref (ad 25)) hx hb hts hown hK hw zZ12 0 wM_g0 35 (by decide) zm_259 rfl zd_LassoFinderModel_link_9 ?_
    refine lv_iload_n hx hb zd_LassoFinderModel_link_12 rfl (lv_at hl 1 rfl) ?_
    refine lv_lconst (v := 0) hx hb zd_LassoFinderModel_link_13 (by decide) ?_
    refine va_last (f := (D 0)) hx hb hK hw.1 hw.2.1 hw.2.2 25 1 wM_a25 rfl hok.1 zd_LassoFinderModel_link_14 (fun H locs w91 w92 w93 => ?_)
    have hok := hok.2
    have hw := wM_t25 ⟨w91, w92, w93⟩
    obtain ⟨z30, ez30⟩ : ∃ z : Int32, z = (x1 + 1) := ⟨_, rfl⟩
    have hok := hok z30 ez30
    refine lv_iinc (v := z30) hx hb zd_LassoFinderModel_link_15 hl (k := 1) rfl ez30.symm (by decide) rfl (fun ls hl => ?_)
    have hl : lv_has ls 4 [(1, .int z30), (0, .ref (ad 0))] := hl
    refine lv_goto (tgt := 2) hx hb zd_LassoFinderModel_link_18 (by decide) ?_
    exact kh2 z30 I J B (va_up D 0 (vp_updL (D 0) x1.toNatClampNeg 0)) ls H locs hok (lv_sub hl [1, 0] rfl) hw
theorem wL_LassoFinderModel_link_2 {p : Program} {l : Launch} {e : Env} {s : State} {m : MethodId} {below : List Frame} {meth : Method} {c : Code} {A : Nat → Prop} (G : va_G) (K : Nat → ClassId) (ad : Nat → Nat) (Post : (Nat → Int32) → (Nat → Int64) → (Nat → Nat → Int32) → (Nat → Nat → Int64) → Prop) (C : zCx p s m ([.ref (ad 0)] : List Value).toArray meth c A G K prog_14_method_27_code none 4 "LassoFinderModel") : ∀ (n : Nat) (x1 : Int32) (I : Nat → Int32) (J : Nat → Int64) (B : Nat → Nat → Int32) (D : Nat → Nat → Int64) (ls : Array Slot) (H : Heap) (locs : List Loc), wl_LassoFinderModel_link_2  Post n x1 I J B D → lv_has ls 4 [(0, .ref (ad 0)), (1, .int x1)] → zW G A s.heap (wM ad K I J B D) H locs → W p l e { frames := 2, cells := 0, slots := 0, locals := 47 } s m ([.ref (ad 0)] : List Value).toArray below meth c H locs 0 0 (MQ below (va_Qv (fun u : zS => Post u.1 u.2.1 u.2.2.1 u.2.2.2) (fun u t => zPost G K A (wM ad K u.1 u.2.1 u.2.2.1 u.2.2.2) t) A) ([.ref (ad 0)] : List Value).toArray s 0 0 A) (F0 m 2 ls []) := by
  intro n
  induction n with
  | zero => intro x1 I J B D ls H locs hok; exact hok.elim
  | succ n ih => exact wB_LassoFinderModel_link_2 G K ad  Post C (wl_LassoFinderModel_link_2  Post n) ih
set_option maxHeartbeats 8000000 in
set_option maxRecDepth 100000 in
theorem w_LassoFinderModel_link (l : Launch) (G : va_G) (K : Nat → ClassId) (ad : Nat → Nat) (I : Nat → Int32) (J : Nat → Int64) (B : Nat → Nat → Int32) (D : Nat → Nat → Int64) (Post : (Nat → Int32) → (Nat → Int64) → (Nat → Nat → Int32) → (Nat → Nat → Int64) → Prop) (sz : Nat) (hok : wp_LassoFinderModel_link I J B D  Post) : Met l zy_LassoFinderModel_link (Cond.code zy_LassoFinderModel_link prog_14_method_27_code 4 none :: zTB) { frames := 2, cells := 0, slots := 0, locals := 47 } (va_Pc [.ref (ad 0)] (zPre G K (wM ad K I J B D) sz)) (va_Qv (fun u : zS => Post u.1 u.2.1 u.2.2.1 u.2.2.2) (fun u t => zPost G K (va_A (wM ad K I J B D) sz) (wM ad K u.1 u.2.1 u.2.2.1 u.2.2.2) t) (va_A (wM ad K I J B D) sz)) 0 0 (va_A (wM ad K I J B D) sz) := by
  refine zMet (y := zy_LassoFinderModel_link) (av := [.ref (ad 0)]) (maxL := 4) (cc := prog_14_method_27_code) (ret := none) (W0 := (wM ad K I J B D)) (sz := sz) (G := G) (K := K) (wt := zTB) (mc := 0) (ms := 0) (Qf := fun A => va_Qv (fun u : zS => Post u.1 u.2.1 u.2.2.1 u.2.2.2) (fun u t => zPost G K A (wM ad K u.1 u.2.1 u.2.2.1 u.2.2.2) t) A) (by decide) (Nat.le_of_ble_eq_true rfl) ?_
  intro p e s m below meth c ls A hx hb hr hml hts hown hlocks hin hA hK H locs hw hsz hl
  clear hsz
  have hown : s.vm.findClass "LassoFinderModel" = some m.cls := hown
  have C : zCx p s m ([.ref (ad 0)] : List Value).toArray meth c A G K prog_14_method_27_code none 4 "LassoFinderModel" := ⟨hx, hb, hr, hml, hts, hown, hlocks, hA, hK⟩
  have hl : lv_has ls 4 [(0, .ref (ad 0))] := hl
  have hw : zW G A s.heap (wM ad K I J B D) H locs := hw
  unfold wp_LassoFinderModel_link at hok
  refine lv_iconst (v := 0) hx hb zd_LassoFinderModel_link_0 (by decide) ?_
  refine lv_istore_n hx hb zd_LassoFinderModel_link_1 rfl hl (by decide) rfl (fun ls hl => ?_)
  have hl : lv_has ls 4 [(1, .int 0), (0, .ref (ad 0))] := hl
  obtain ⟨n9, hok⟩ := hok
  exact wL_LassoFinderModel_link_2 G K ad  Post C n9 0 I J B D ls H locs hok (lv_sub hl [1, 0] rfl) hw
def wb_LassoFinderModel_packed_116 (K116 : Int64 → Int32 → (Nat → Int32) → (Nat → Int64) → (Nat → Nat → Int32) → (Nat → Nat → Int64) → Prop) (Post : Int64 → (Nat → Int32) → (Nat → Int64) → (Nat → Nat → Int32) → (Nat → Nat → Int64) → Prop) (x1 : Int64) (x3 : Int32) (I : Nat → Int32) (J : Nat → Int64) (B : Nat → Nat → Int32) (D : Nat → Nat → Int64) : Prop :=
  (((I 10) ≤ x3 → ∀ z2 : Int32, z2 = ((I 17) + 1) → ∀ z3 : Int64, z3 = z2.toInt64 → ∀ z4 : Int64, z4 = (z3 <<< ((60 : Int32).toInt64 &&& 63)) → ∀ z5 : Int64, z5 = (x1 ||| z4) → Post z5 I J B D) ∧ (¬ (I 10) ≤ x3 → vp_in x3 4 ∧ ∀ z6 : Int32, z6 = ((B 39) x3.toNatClampNeg) → ∀ z7 : Int64, z7 = z6.toInt64 → ∀ z8 : Int32, z8 = (5 * x3) → ∀ z9 : Int32, z9 = (40 + z8) → ∀ z10 : Int64, z10 = (z7 <<< (z9.toInt64 &&& 63)) → ∀ z11 : Int64, z11 = (x1 ||| z10) → ∀ z12 : Int32, z12 = (x3 + 1) → K116 z11 z12 I J B D))
def wl_LassoFinderModel_packed_116 (Post : Int64 → (Nat → Int32) → (Nat → Int64) → (Nat → Nat → Int32) → (Nat → Nat → Int64) → Prop) (n : Nat) : Int64 → Int32 → (Nat → Int32) → (Nat → Int64) → (Nat → Nat → Int32) → (Nat → Nat → Int64) → Prop := Nat.rec (fun _ _ _ _ _ _ => False) (fun _ r => wb_LassoFinderModel_packed_116  r Post) n
def wb_LassoFinderModel_packed_63 (K63 : Int64 → Int32 → Int32 → (Nat → Int32) → (Nat → Int64) → (Nat → Nat → Int32) → (Nat → Nat → Int64) → Prop) (K34 : Int64 → Int32 → (Nat → Int32) → (Nat → Int64) → (Nat → Nat → Int32) → (Nat → Nat → Int64) → Prop) (Post : Int64 → (Nat → Int32) → (Nat → Int64) → (Nat → Nat → Int32) → (Nat → Nat → Int64) → Prop) (x1 : Int64) (x3 : Int32) (x4 : Int32) (I : Nat → Int32) (J : Nat → Int64) (B : Nat → Nat → Int32) (D : Nat → Nat → Int64) : Prop :=
  vp_in x3 2 ∧ ∀ z13 : Int32, z13 = ((B 37) x3.toNatClampNeg) → ((z13 ≤ x4 → ∀ z15 : Int32, z15 = (x3 + 1) → K34 x1 z15 I J B D) ∧ (¬ z13 ≤ x4 → ∀ z16 : Int32, z16 = (3 * x3) → ∀ z17 : Int32, z17 = (z16 + x4) → vp_in z17 6 ∧ ∀ z18 : Int32, z18 = ((B 38) z17.toNatClampNeg) → ∀ z19 : Int64, z19 = z18.toInt64 → ∀ z20 : Int32, z20 = (11 * x3) → ∀ z21 : Int32, z21 = (20 + z20) → ∀ z22 : Int32, z22 = (3 * x4) → ∀ z23 : Int32, z23 = (z21 + z22) → ∀ z24 : Int64, z24 = (z19 <<< (z23.toInt64 &&& 63)) → ∀ z25 : Int64, z25 = (x1 ||| z24) → ∀ z26 : Int32, z26 = (x4 + 1) → K63 z25 x3 z26 I J B D))
def wl_LassoFinderModel_packed_63 (K34 : Int64 → Int32 → (Nat → Int32) → (Nat → Int64) → (Nat → Nat → Int32) → (Nat → Nat → Int64) → Prop) (Post : Int64 → (Nat → Int32) → (Nat → Int64) → (Nat → Nat → Int32) → (Nat → Nat → Int64) → Prop) (n : Nat) : Int64 → Int32 → Int32 → (Nat → Int32) → (Nat → Int64) → (Nat → Nat → Int32) → (Nat → Nat → Int64) → Prop := Nat.rec (fun _ _ _ _ _ _ _ => False) (fun _ r => wb_LassoFinderModel_packed_63  r K34 Post) n
def wb_LassoFinderModel_packed_34 (K34 : Int64 → Int32 → (Nat → Int32) → (Nat → Int64) → (Nat → Nat → Int32) → (Nat → Nat → Int64) → Prop) (Post : Int64 → (Nat → Int32) → (Nat → Int64) → (Nat → Nat → Int32) → (Nat → Nat → Int64) → Prop) (x1 : Int64) (x3 : Int32) (I : Nat → Int32) (J : Nat → Int64) (B : Nat → Nat → Int32) (D : Nat → Nat → Int64) : Prop :=
  (((I 7) ≤ x3 → ∃ n : Nat, wl_LassoFinderModel_packed_116  Post n x1 0 I J B D) ∧ (¬ (I 7) ≤ x3 → vp_in x3 2 ∧ ∀ z28 : Int32, z28 = ((B 37) x3.toNatClampNeg) → ∀ z29 : Int64, z29 = z28.toInt64 → ∀ z30 : Int32, z30 = (11 * x3) → ∀ z31 : Int32, z31 = (18 + z30) → ∀ z32 : Int64, z32 = (z29 <<< (z31.toInt64 &&& 63)) → ∀ z33 : Int64, z33 = (x1 ||| z32) → ∃ n : Nat, wl_LassoFinderModel_packed_63  K34 Post n z33 x3 0 I J B D))
def wl_LassoFinderModel_packed_34 (Post : Int64 → (Nat → Int32) → (Nat → Int64) → (Nat → Nat → Int32) → (Nat → Nat → Int64) → Prop) (n : Nat) : Int64 → Int32 → (Nat → Int32) → (Nat → Int64) → (Nat → Nat → Int32) → (Nat → Nat → Int64) → Prop := Nat.rec (fun _ _ _ _ _ _ => False) (fun _ r => wb_LassoFinderModel_packed_34  r Post) n
def wb_LassoFinderModel_packed_4 (K4 : Int64 → Int32 → (Nat → Int32) → (Nat → Int64) → (Nat → Nat → Int32) → (Nat → Nat → Int64) → Prop) (Post : Int64 → (Nat → Int32) → (Nat → Int64) → (Nat → Nat → Int32) → (Nat → Nat → Int64) → Prop) (x1 : Int64) (x3 : Int32) (I : Nat → Int32) (J : Nat → Int64) (B : Nat → Nat → Int32) (D : Nat → Nat → Int64) : Prop :=
  (((I 6) ≤ x3 → ∃ n : Nat, wl_LassoFinderModel_packed_34  Post n x1 0 I J B D) ∧ (¬ (I 6) ≤ x3 → vp_in x3 6 ∧ ∀ z35 : Int32, z35 = ((B 36) x3.toNatClampNeg) → ∀ z36 : Int64, z36 = z35.toInt64 → ∀ z37 : Int32, z37 = (3 * x3) → ∀ z38 : Int64, z38 = (z36 <<< (z37.toInt64 &&& 63)) → ∀ z39 : Int64, z39 = (x1 ||| z38) → ∀ z40 : Int32, z40 = (x3 + 1) → K4 z39 z40 I J B D))
def wl_LassoFinderModel_packed_4 (Post : Int64 → (Nat → Int32) → (Nat → Int64) → (Nat → Nat → Int32) → (Nat → Nat → Int64) → Prop) (n : Nat) : Int64 → Int32 → (Nat → Int32) → (Nat → Int64) → (Nat → Nat → Int32) → (Nat → Nat → Int64) → Prop := Nat.rec (fun _ _ _ _ _ _ => False) (fun _ r => wb_LassoFinderModel_packed_4  r Post) n
def wp_LassoFinderModel_packed (I : Nat → Int32) (J : Nat → Int64) (B : Nat → Nat → Int32) (D : Nat → Nat → Int64) (Post : Int64 → (Nat → Int32) → (Nat → Int64) → (Nat → Nat → Int32) → (Nat → Nat → Int64) → Prop) : Prop :=
  ∃ n : Nat, wl_LassoFinderModel_packed_4  Post n 0 0 I J B D
set_option maxHeartbeats 8000000 in
set_option maxRecDepth 100000 in
theorem wB_LassoFinderModel_packed_116 {p : Program} {l : Launch} {e : Env} {s : State} {m : MethodId} {below : List Frame} {meth : Method} {c : Code} {A : Nat → Prop} (G : va_G) (K : Nat → ClassId) (ad : Nat → Nat) (Post : Int64 → (Nat → Int32) → (Nat → Int64) → (Nat → Nat → Int32) → (Nat → Nat → Int64) → Prop) (C : zCx p s m ([.ref (ad 0)] : List Value).toArray meth c A G K prog_14_method_28_code (some .long) 5 "LassoFinderModel") (K116 : Int64 → Int32 → (Nat → Int32) → (Nat → Int64) → (Nat → Nat → Int32) → (Nat → Nat → Int64) → Prop) (kh116 : ∀ (x1 : Int64) (x3 : Int32) (I : Nat → Int32) (J : Nat → Int64) (B : Nat → Nat → Int32) (D : Nat → Nat → Int64) (ls : Array Slot) (H : Heap) (locs : List Loc), K116 x1 x3 I J B D → lv_has ls 5 [(0, .ref (ad 0)), (1, .long x1), (3, .int x3)] → zW G A s.heap (wM ad K I J B D) H locs → W p l e { frames := 0, cells := 0, slots := 0, locals := 0 } s m ([.ref (ad 0)] : List Value).toArray below meth c H locs 0 0 (MQ below (va_Ql (fun (r : Int64) (u : zS) => Post r u.1 u.2.1 u.2.2.1 u.2.2.2) (fun u t => zPost G K A (wM ad K u.1 u.2.1 u.2.2.1 u.2.2.2) t) A) ([.ref (ad 0)] : List Value).toArray s 0 0 A) (F0 m 116 ls [])) : ∀ (x1 : Int64) (x3 : Int32) (I : Nat → Int32) (J : Nat → Int64) (B : Nat → Nat → Int32) (D : Nat → Nat → Int64) (ls : Array Slot) (H : Heap) (locs : List Loc), wb_LassoFinderModel_packed_116  K116 Post x1 x3 I J B D → lv_has ls 5 [(0, .ref (ad 0)), (1, .long x1), (3, .int x3)] → zW G A s.heap (wM ad K I J B D) H locs → W p l e { frames := 0, cells := 0, slots := 0, locals := 0 } s m ([.ref (ad 0)] : List Value).toArray below meth c H locs 0 0 (MQ below (va_Ql (fun (r : Int64) (u : zS) => Post r u.1 u.2.1 u.2.2.1 u.2.2.2) (fun u t => zPost G K A (wM ad K u.1 u.2.1 u.2.2.1 u.2.2.2) t) A) ([.ref (ad 0)] : List Value).toArray s 0 0 A) (F0 m 116 ls []) := by
  obtain ⟨hx, hb, hr, hml, hts, hown, hlocks, hA, hK⟩ := id C
  intro x1 x3 I J B D ls H locs hok hl hw
  unfold wb_LassoFinderModel_packed_116 at hok
  refine lv_iload_n hx hb zd_LassoFinderModel_packed_116 rfl (lv_at hl 2 rfl) ?_
  refine lv_aload_n hx hb zd_LassoFinderModel_packed_117 rfl (lv_at hl 0 rfl) ?_
  refine z_get (v := .int (I 10)) hx hb hts hown hK hw zZ12 0 wM_g0 30 (by decide) zm_310 rfl zd_LassoFinderModel_packed_118 ?_
  refine lv_icmp_ge (tgt := 147) hx hb zd_LassoFinderModel_packed_121 (by decide) (fun hc1 => ?_) (fun hc1 => ?_)
  · have hok := hok.1 hc1
    refine lv_lload_n hx hb zd_LassoFinderModel_packed_147 rfl (lv_at hl 1 rfl) ?_
    refine lv_aload_n hx hb zd_LassoFinderModel_packed_148 rfl (lv_at hl 0 rfl) ?_
    refine z_get (v := .int (I 17)) hx hb hts hown hK hw zZ12 0 wM_g0 59 (by decide) zm_320 rfl zd_LassoFinderModel_packed_149 ?_
    refine lv_iconst (v := 1) hx hb zd_LassoFinderModel_packed_152 (by decide) ?_
    refine lv_iadd hx hb zd_LassoFinderModel_packed_153 ?_
    refine lv_topi (fun z2 ez2 => ?_)
    have hok := hok z2 ez2
    refine lv_i2l hx hb zd_LassoFinderModel_packed_154 rfl ?_
    refine lv_topl (fun z3 ez3 => ?_)
    have hok := hok z3 ez3
    refine lv_bipush (v := 60) hx hb zd_LassoFinderModel_packed_155 (by decide) ?_
    refine lv_lshl hx hb zd_LassoFinderModel_packed_157 rfl ?_
    refine lv_topl (fun z4 ez4 => ?_)
    have hok := hok z4 ez4
    refine lv_lor hx hb zd_LassoFinderModel_packed_158 ?_
    refine lv_topl (fun z5 ez5 => ?_)
    have hok := hok z5 ez5
    exact (z_lret (u := (I, J, B, D)) hx hb hr hlocks hw (List.range 58) wM_all wM_nd hok (Nat.le_of_ble_eq_true rfl) (Nat.le_of_ble_eq_true rfl) zd_LassoFinderModel_packed_159)
  · have hok := hok.2 hc1
    refine lv_lload_n hx hb zd_LassoFinderModel_packed_124 rfl (lv_at hl 1 rfl) ?_
    refine lv_aload_n hx hb zd_LassoFinderModel_packed_125 rfl (lv_at hl 0 rfl) ?_
    refine z_get (v := .ref (ad 42)) hx hb hts hown hK hw zZ12 0 wM_g0 58 (by decide) zm_276 rfl zd_LassoFinderModel_packed_126 ?_
    refine lv_iload_n hx hb zd_LassoFinderModel_packed_129 rfl (lv_at hl 2 rfl) ?_
    refine va_iald (f := (B 39)) hx hb hK hw.1 42 0 wM_a42 rfl hok.1 zd_LassoFinderModel_packed_130 ?_
    have hok := hok.2
    refine lv_topi (fun z6 ez6 => ?_)
    have hok := hok z6 ez6
    refine lv_i2l hx hb zd_LassoFinderModel_packed_131 rfl ?_
    refine lv_topl (fun z7 ez7 => ?_)
    have hok := hok z7 ez7
    refine lv_bipush (v := 40) hx hb zd_LassoFinderModel_packed_132 (by decide) ?_
    refine lv_iconst (v := 5) hx hb zd_LassoFinderModel_packed_134 (by decide) ?_
    refine lv_iload_n hx hb zd_LassoFinderModel_packed_135 rfl (lv_at hl 2 rfl) ?_
    refine lv_imul hx hb zd_LassoFinderModel_packed_136 ?_
    refine lv_topi (fun z8 ez8 => ?_)
    have hok := hok z8 ez8
    refine lv_iadd hx hb zd_LassoFinderModel_packed_137 ?_
    refine lv_topi (fun z9 ez9 => ?_)
    have hok := hok z9 ez9
    refine lv_lshl hx hb zd_LassoFinderModel_packed_138 rfl ?_
    refine lv_topl (fun z10 ez10 => ?_)
    have hok := hok z10 ez10
    refine lv_lor hx hb zd_LassoFinderModel_packed_139 ?_
    refine lv_topl (fun z11 ez11 => ?_)
    have hok := hok z11 ez11
    refine lv_lstore_n hx hb zd_LassoFinderModel_packed_140 rfl hl (by decide) rfl (fun ls hl => ?_)
    have hl : lv_has ls 5 [(1, .long z11), (0, .ref (ad 0)), (3, .int x3)] := hl
    obtain ⟨z12, ez12⟩ : ∃ z : Int32, z = (x3 + 1) := ⟨_, rfl⟩
    have hok := hok z12 ez12
    refine lv_iinc (v := z12) hx hb zd_LassoFinderModel_packed_141 hl (k := 2) rfl ez12.symm (by decide) rfl (fun ls hl => ?_)
    have hl : lv_has ls 5 [(3, .int z12), (1, .long z11), (0, .ref (ad 0))] := hl
    refine lv_goto (tgt := 116) hx hb zd_LassoFinderModel_packed_144 (by decide) ?_
    exact kh116 z11 z12 I J B D ls H locs hok (lv_sub hl [2, 1, 0] rfl) hw
theorem wL_LassoFinderModel_packed_116 {p : Program} {l : Launch} {e : Env} {s : State} {m : MethodId} {below : List Frame} {meth : Method} {c : Code} {A : Nat → Prop} (G : va_G) (K : Nat → ClassId) (ad : Nat → Nat) (Post : Int64 → (Nat → Int32) → (Nat → Int64) → (Nat → Nat → Int32) → (Nat → Nat → Int64) → Prop) (C : zCx p s m ([.ref (ad 0)] : List Value).toArray meth c A G K prog_14_method_28_code (some .long) 5 "LassoFinderModel") : ∀ (n : Nat) (x1 : Int64) (x3 : Int32) (I : Nat → Int32) (J : Nat → Int64) (B : Nat → Nat → Int32) (D : Nat → Nat → Int64) (ls : Array Slot) (H : Heap) (locs : List Loc), wl_LassoFinderModel_packed_116  Post n x1 x3 I J B D → lv_has ls 5 [(0, .ref (ad 0)), (1, .long x1), (3, .int x3)] → zW G A s.heap (wM ad K I J B D) H locs → W p l e { frames := 0, cells := 0, slots := 0, locals := 0 } s m ([.ref (ad 0)] : List Value).toArray below meth c H locs 0 0 (MQ below (va_Ql (fun (r : Int64) (u : zS) => Post r u.1 u.2.1 u.2.2.1 u.2.2.2) (fun u t => zPost G K A (wM ad K u.1 u.2.1 u.2.2.1 u.2.2.2) t) A) ([.ref (ad 0)] : List Value).toArray s 0 0 A) (F0 m 116 ls []) := by
  intro n
  induction n with
  | zero => intro x1 x3 I J B D ls H locs hok; exact hok.elim
  | succ n ih => exact wB_LassoFinderModel_packed_116 G K ad  Post C (wl_LassoFinderModel_packed_116  Post n) ih
set_option maxHeartbeats 8000000 in
set_option maxRecDepth 100000 in
theorem wB_LassoFinderModel_packed_63 {p : Program} {l : Launch} {e : Env} {s : State} {m : MethodId} {below : List Frame} {meth : Method} {c : Code} {A : Nat → Prop} (G : va_G) (K : Nat → ClassId) (ad : Nat → Nat) (Post : Int64 → (Nat → Int32) → (Nat → Int64) → (Nat → Nat → Int32) → (Nat → Nat → Int64) → Prop) (C : zCx p s m ([.ref (ad 0)] : List Value).toArray meth c A G K prog_14_method_28_code (some .long) 5 "LassoFinderModel") (K34 : Int64 → Int32 → (Nat → Int32) → (Nat → Int64) → (Nat → Nat → Int32) → (Nat → Nat → Int64) → Prop) (kh34 : ∀ (x1 : Int64) (x3 : Int32) (I : Nat → Int32) (J : Nat → Int64) (B : Nat → Nat → Int32) (D : Nat → Nat → Int64) (ls : Array Slot) (H : Heap) (locs : List Loc), K34 x1 x3 I J B D → lv_has ls 5 [(0, .ref (ad 0)), (1, .long x1), (3, .int x3)] → zW G A s.heap (wM ad K I J B D) H locs → W p l e { frames := 0, cells := 0, slots := 0, locals := 0 } s m ([.ref (ad 0)] : List Value).toArray below meth c H locs 0 0 (MQ below (va_Ql (fun (r : Int64) (u : zS) => Post r u.1 u.2.1 u.2.2.1 u.2.2.2) (fun u t => zPost G K A (wM ad K u.1 u.2.1 u.2.2.1 u.2.2.2) t) A) ([.ref (ad 0)] : List Value).toArray s 0 0 A) (F0 m 34 ls [])) (K63 : Int64 → Int32 → Int32 → (Nat → Int32) → (Nat → Int64) → (Nat → Nat → Int32) → (Nat → Nat → Int64) → Prop) (kh63 : ∀ (x1 : Int64) (x3 : Int32) (x4 : Int32) (I : Nat → Int32) (J : Nat → Int64) (B : Nat → Nat → Int32) (D : Nat → Nat → Int64) (ls : Array Slot) (H : Heap) (locs : List Loc), K63 x1 x3 x4 I J B D → lv_has ls 5 [(0, .ref (ad 0)), (1, .long x1), (3, .int x3), (4, .int x4)] → zW G A s.heap (wM ad K I J B D) H locs → W p l e { frames := 0, cells := 0, slots := 0, locals := 0 } s m ([.ref (ad 0)] : List Value).toArray below meth c H locs 0 0 (MQ below (va_Ql (fun (r : Int64) (u : zS) => Post r u.1 u.2.1 u.2.2.1 u.2.2.2) (fun u t => zPost G K A (wM ad K u.1 u.2.1 u.2.2.1 u.2.2.2) t) A) ([.ref (ad 0)] : List Value).toArray s 0 0 A) (F0 m 63 ls [])) : ∀ (x1 : Int64) (x3 : Int32) (x4 : Int32) (I : Nat → Int32) (J : Nat → Int64) (B : Nat → Nat → Int32) (D : Nat → Nat → Int64) (ls : Array Slot) (H : Heap) (locs : List Loc), wb_LassoFinderModel_packed_63  K63 K34 Post x1 x3 x4 I J B D → lv_has ls 5 [(0, .ref (ad 0)), (1, .long x1), (3, .int x3), (4, .int x4)] → zW G A s.heap (wM ad K I J B D) H locs → W p l e { frames := 0, cells := 0, slots := 0, locals := 0 } s m ([.ref (ad 0)] : List Value).toArray below meth c H locs 0 0 (MQ below (va_Ql (fun (r : Int64) (u : zS) => Post r u.1 u.2.1 u.2.2.1 u.2.2.2) (fun u t => zPost G K A (wM ad K u.1 u.2.1 u.2.2.1 u.2.2.2) t) A) ([.ref (ad 0)] : List Value).toArray s 0 0 A) (F0 m 63 ls []) := by
  obtain ⟨hx, hb, hr, hml, hts, hown, hlocks, hA, hK⟩ := id C
  intro x1 x3 x4 I J B D ls H locs hok hl hw
  unfold wb_LassoFinderModel_packed_63 at hok
  refine lv_iload hx hb zd_LassoFinderModel_packed_63 (lv_at hl 3 rfl) ?_
  refine lv_aload_n hx hb zd_LassoFinderModel_packed_65 rfl (lv_at hl 0 rfl) ?_
  refine z_get (v := .ref (ad 40)) hx hb hts hown hK hw zZ12 0 wM_g0 56 (by decide) zm_274 rfl zd_LassoFinderModel_packed_66 ?_
  refine lv_iload_n hx hb zd_LassoFinderModel_packed_69 rfl (lv_at hl 2 rfl) ?_
  refine va_iald (f := (B 37)) hx hb hK hw.1 40 0 wM_a40 rfl hok.1 zd_LassoFinderModel_packed_70 ?_
  have hok := hok.2
  refine lv_topi (fun z13 ez13 => ?_)
  have hok := hok z13 ez13
  refine lv_icmp_ge (tgt := 108) hx hb zd_LassoFinderModel_packed_71 (by decide) (fun hc14 => ?_) (fun hc14 => ?_)
  · have hok := hok.1 hc14
    obtain ⟨z15, ez15⟩ : ∃ z : Int32, z = (x3 + 1) := ⟨_, rfl⟩
    have hok := hok z15 ez15
    refine lv_iinc (v := z15) hx hb zd_LassoFinderModel_packed_108 hl (k := 2) rfl ez15.symm (by decide) rfl (fun ls hl => ?_)
    have hl : lv_has ls 5 [(3, .int z15), (0, .ref (ad 0)), (1, .long x1), (4, .int x4)] := hl
    refine lv_goto (tgt := 34) hx hb zd_LassoFinderModel_packed_111 (by decide) ?_
    exact kh34 x1 z15 I J B D ls H locs hok (lv_sub hl [1, 2, 0] rfl) hw
  · have hok := hok.2 hc14
    refine lv_lload_n hx hb zd_LassoFinderModel_packed_74 rfl (lv_at hl 1 rfl) ?_
    refine lv_aload_n hx hb zd_LassoFinderModel_packed_75 rfl (lv_at hl 0 rfl) ?_
    refine z_get (v := .ref (ad 41)) hx hb hts hown hK hw zZ12 0 wM_g0 57 (by decide) zm_275 rfl zd_LassoFinderModel_packed_76 ?_
    refine lv_iconst (v := 3) hx hb zd_LassoFinderModel_packed_79 (by decide) ?_
    refine lv_iload_n hx hb zd_LassoFinderModel_packed_80 rfl (lv_at hl 2 rfl) ?_
    refine lv_imul hx hb zd_LassoFinderModel_packed_81 ?_
    refine lv_topi (fun z16 ez16 => ?_)
    have hok := hok z16 ez16
    refine lv_iload hx hb zd_LassoFinderModel_packed_82 (lv_at hl 3 rfl) ?_
    refine lv_iadd hx hb zd_LassoFinderModel_packed_84 ?_
    refine lv_topi (fun z17 ez17 => ?_)
    have hok := hok z17 ez17
    refine va_iald (f := (B 38)) hx hb hK hw.1 41 0 wM_a41 rfl hok.1 zd_LassoFinderModel_packed_85 ?_
    have hok := hok.2
    refine lv_topi (fun z18 ez18 => ?_)
    have hok := hok z18 ez18
    refine lv_i2l hx hb zd_LassoFinderModel_packed_86 rfl ?_
    refine lv_topl (fun z19 ez19 => ?_)
    have hok := hok z19 ez19
    refine lv_bipush (v := 20) hx hb zd_LassoFinderModel_packed_87 (by decide) ?_
    refine lv_bipush (v := 11) hx hb zd_LassoFinderModel_packed_89 (by decide) ?_
    refine lv_iload_n hx hb zd_LassoFinderModel_packed_91 rfl (lv_at hl 2 rfl) ?_
    refine lv_imul hx hb zd_LassoFinderModel_packed_92 ?_
    refine lv_topi (fun z20 ez20 => ?_)
    have hok := hok z20 ez20
    refine lv_iadd hx hb zd_LassoFinderModel_packed_93 ?_
    refine lv_topi (fun z21 ez21 => ?_)
    have hok := hok z21 ez21
    refine lv_iconst (v := 3) hx hb zd_LassoFinderModel_packed_94 (by decide) ?_
    refine lv_iload hx hb zd_LassoFinderModel_packed_95 (lv_at hl 3 rfl) ?_
    refine lv_imul hx hb zd_LassoFinderModel_packed_97 ?_
    refine lv_topi (fun z22 ez22 => ?_)
    have hok := hok z22 ez22
    refine lv_iadd hx hb zd_LassoFinderModel_packed_98 ?_
    refine lv_topi (fun z23 ez23 => ?_)
    have hok := hok z23 ez23
    refine lv_lshl hx hb zd_LassoFinderModel_packed_99 rfl ?_
    refine lv_topl (fun z24 ez24 => ?_)
    have hok := hok z24 ez24
    refine lv_lor hx hb zd_LassoFinderModel_packed_100 ?_
    refine lv_topl (fun z25 ez25 => ?_)
    have hok := hok z25 ez25
    refine lv_lstore_n hx hb zd_LassoFinderModel_packed_101 rfl hl (by decide) rfl (fun ls hl => ?_)
    have hl : lv_has ls 5 [(1, .long z25), (0, .ref (ad 0)), (3, .int x3), (4, .int x4)] := hl
    obtain ⟨z26, ez26⟩ : ∃ z : Int32, z = (x4 + 1) := ⟨_, rfl⟩
    have hok := hok z26 ez26
    refine lv_iinc (v := z26) hx hb zd_LassoFinderModel_packed_102 hl (k := 3) rfl ez26.symm (by decide) rfl (fun ls hl => ?_)
    have hl : lv_has ls 5 [(4, .int z26), (1, .long z25), (0, .ref (ad 0)), (3, .int x3)] := hl
    refine lv_goto (tgt := 63) hx hb zd_LassoFinderModel_packed_105 (by decide) ?_
    exact kh63 z25 x3 z26 I J B D ls H locs hok (lv_sub hl [2, 1, 3, 0] rfl) hw
theorem wL_LassoFinderModel_packed_63 {p : Program} {l : Launch} {e : Env} {s : State} {m : MethodId} {below : List Frame} {meth : Method} {c : Code} {A : Nat → Prop} (G : va_G) (K : Nat → ClassId) (ad : Nat → Nat) (Post : Int64 → (Nat → Int32) → (Nat → Int64) → (Nat → Nat → Int32) → (Nat → Nat → Int64) → Prop) (C : zCx p s m ([.ref (ad 0)] : List Value).toArray meth c A G K prog_14_method_28_code (some .long) 5 "LassoFinderModel") (K34 : Int64 → Int32 → (Nat → Int32) → (Nat → Int64) → (Nat → Nat → Int32) → (Nat → Nat → Int64) → Prop) (kh34 : ∀ (x1 : Int64) (x3 : Int32) (I : Nat → Int32) (J : Nat → Int64) (B : Nat → Nat → Int32) (D : Nat → Nat → Int64) (ls : Array Slot) (H : Heap) (locs : List Loc), K34 x1 x3 I J B D → lv_has ls 5 [(0, .ref (ad 0)), (1, .long x1), (3, .int x3)] → zW G A s.heap (wM ad K I J B D) H locs → W p l e { frames := 0, cells := 0, slots := 0, locals := 0 } s m ([.ref (ad 0)] : List Value).toArray below meth c H locs 0 0 (MQ below (va_Ql (fun (r : Int64) (u : zS) => Post r u.1 u.2.1 u.2.2.1 u.2.2.2) (fun u t => zPost G K A (wM ad K u.1 u.2.1 u.2.2.1 u.2.2.2) t) A) ([.ref (ad 0)] : List Value).toArray s 0 0 A) (F0 m 34 ls [])) : ∀ (n : Nat) (x1 : Int64) (x3 : Int32) (x4 : Int32) (I : Nat → Int32) (J : Nat → Int64) (B : Nat → Nat → Int32) (D : Nat → Nat → Int64) (ls : Array Slot) (H : Heap) (locs : List Loc), wl_LassoFinderModel_packed_63  K34 Post n x1 x3 x4 I J B D → lv_has ls 5 [(0, .ref (ad 0)), (1, .long x1), (3, .int x3), (4, .int x4)] → zW G A s.heap (wM ad K I J B D) H locs → W p l e { frames := 0, cells := 0, slots := 0, locals := 0 } s m ([.ref (ad 0)] : List Value).toArray below meth c H locs 0 0 (MQ below (va_Ql (fun (r : Int64) (u : zS) => Post r u.1 u.2.1 u.2.2.1 u.2.2.2) (fun u t => zPost G K A (wM ad K u.1 u.2.1 u.2.2.1 u.2.2.2) t) A) ([.ref (ad 0)] : List Value).toArray s 0 0 A) (F0 m 63 ls []) := by
  intro n
  induction n with
  | zero => intro x1 x3 x4 I J B D ls H locs hok; exact hok.elim
  | succ n ih => exact wB_LassoFinderModel_packed_63 G K ad  Post C K34 kh34 (wl_LassoFinderModel_packed_63  K34 Post n) ih
set_option maxHeartbeats 8000000 in
set_option maxRecDepth 100000 in
theorem wB_LassoFinderModel_packed_34 {p : Program} {l : Launch} {e : Env} {s : State} {m : MethodId} {below : List Frame} {meth : Method} {c : Code} {A : Nat → Prop} (G : va_G) (K : Nat → ClassId) (ad : Nat → Nat) (Post : Int64 → (Nat → Int32) → (Nat → Int64) → (Nat → Nat → Int32) → (Nat → Nat → Int64) → Prop) (C : zCx p s m ([.ref (ad 0)] : List Value).toArray meth c A G K prog_14_method_28_code (some .long) 5 "LassoFinderModel") (K34 : Int64 → Int32 → (Nat → Int32) → (Nat → Int64) → (Nat → Nat → Int32) → (Nat → Nat → Int64) → Prop) (kh34 : ∀ (x1 : Int64) (x3 : Int32) (I : Nat → Int32) (J : Nat → Int64) (B : Nat → Nat → Int32) (D : Nat → Nat → Int64) (ls : Array Slot) (H : Heap) (locs : List Loc), K34 x1 x3 I J B D → lv_has ls 5 [(0, .ref (ad 0)), (1, .long x1), (3, .int x3)] → zW G A s.heap (wM ad K I J B D) H locs → W p l e { frames := 0, cells := 0, slots := 0, locals := 0 } s m ([.ref (ad 0)] : List Value).toArray below meth c H locs 0 0 (MQ below (va_Ql (fun (r : Int64) (u : zS) => Post r u.1 u.2.1 u.2.2.1 u.2.2.2) (fun u t => zPost G K A (wM ad K u.1 u.2.1 u.2.2.1 u.2.2.2) t) A) ([.ref (ad 0)] : List Value).toArray s 0 0 A) (F0 m 34 ls [])) : ∀ (x1 : Int64) (x3 : Int32) (I : Nat → Int32) (J : Nat → Int64) (B : Nat → Nat → Int32) (D : Nat → Nat → Int64) (ls : Array Slot) (H : Heap) (locs : List Loc), wb_LassoFinderModel_packed_34  K34 Post x1 x3 I J B D → lv_has ls 5 [(0, .ref (ad 0)), (1, .long x1), (3, .int x3)] → zW G A s.heap (wM ad K I J B D) H locs → W p l e { frames := 0, cells := 0, slots := 0, locals := 0 } s m ([.ref (ad 0)] : List Value).toArray below meth c H locs 0 0 (MQ below (va_Ql (fun (r : Int64) (u : zS) => Post r u.1 u.2.1 u.2.2.1 u.2.2.2) (fun u t => zPost G K A (wM ad K u.1 u.2.1 u.2.2.1 u.2.2.2) t) A) ([.ref (ad 0)] : List Value).toArray s 0 0 A) (F0 m 34 ls []) := by
  obtain ⟨hx, hb, hr, hml, hts, hown, hlocks, hA, hK⟩ := id C
  intro x1 x3 I J B D ls H locs hok hl hw
  unfold wb_LassoFinderModel_packed_34 at hok
  refine lv_iload_n hx hb zd_LassoFinderModel_packed_34 rfl (lv_at hl 2 rfl) ?_
  refine lv_aload_n hx hb zd_LassoFinderModel_packed_35 rfl (lv_at hl 0 rfl) ?_
  refine z_get (v := .int (I 7)) hx hb hts hown hK hw zZ12 0 wM_g0 8 (by decide) zm_309 rfl zd_LassoFinderModel_packed_36 ?_
  refine lv_icmp_ge (tgt := 114) hx hb zd_LassoFinderModel_packed_39 (by decide) (fun hc27 => ?_) (fun hc27 => ?_)
  · have hok := hok.1 hc27
    refine lv_iconst (v := 0) hx hb zd_LassoFinderModel_packed_114 (by decide) ?_
    refine lv_istore_n hx hb zd_LassoFinderModel_packed_115 rfl hl (by decide) rfl (fun ls hl => ?_)
    have hl : lv_has ls 5 [(3, .int 0), (0, .ref (ad 0)), (1, .long x1)] := hl
    obtain ⟨n9, hok⟩ := hok
    exact wL_LassoFinderModel_packed_116 G K ad  Post C n9 x1 0 I J B D ls H locs hok (lv_sub hl [1, 2, 0] rfl) hw
  · have hok := hok.2 hc27
    refine lv_lload_n hx hb zd_LassoFinderModel_packed_42 rfl (lv_at hl 1 rfl) ?_
    refine lv_aload_n hx hb zd_LassoFinderModel_packed_43 rfl (lv_at hl 0 rfl) ?_
    refine z_get (v := .ref (ad 40)) hx hb hts hown hK hw zZ12 0 wM_g0 56 (by decide) zm_274 rfl zd_LassoFinderModel_packed_44 ?_
    refine lv_iload_n hx hb zd_LassoFinderModel_packed_47 rfl (lv_at hl 2 rfl) ?_
    refine va_iald (f := (B 37)) hx hb hK hw.1 40 0 wM_a40 rfl hok.1 zd_LassoFinderModel_packed_48 ?_
    have hok := hok.2
    refine lv_topi (fun z28 ez28 => ?_)
    have hok := hok z28 ez28
    refine lv_i2l hx hb zd_LassoFinderModel_packed_49 rfl ?_
    refine lv_topl (fun z29 ez29 => ?_)
    have hok := hok z29 ez29
    refine lv_bipush (v := 18) hx hb zd_LassoFinderModel_packed_50 (by decide) ?_
    refine lv_bipush (v := 11) hx hb zd_LassoFinderModel_packed_52 (by decide) ?_
    refine lv_iload_n hx hb zd_LassoFinderModel_packed_54 rfl (lv_at hl 2 rfl) ?_
    refine lv_imul hx hb zd_LassoFinderModel_packed_55 ?_
    refine lv_topi (fun z30 ez30 => ?_)
    have hok := hok z30 ez30
    refine lv_iadd hx hb zd_LassoFinderModel_packed_56 ?_
    refine lv_topi (fun z31 ez31 => ?_)
    have hok := hok z31 ez31
    refine lv_lshl hx hb zd_LassoFinderModel_packed_57 rfl ?_
    refine lv_topl (fun z32 ez32 => ?_)
    have hok := hok z32 ez32
    refine lv_lor hx hb zd_LassoFinderModel_packed_58 ?_
    refine lv_topl (fun z33 ez33 => ?_)
    have hok := hok z33 ez33
    refine lv_lstore_n hx hb zd_LassoFinderModel_packed_59 rfl hl (by decide) rfl (fun ls hl => ?_)
    have hl : lv_has ls 5 [(1, .long z33), (0, .ref (ad 0)), (3, .int x3)] := hl
    refine lv_iconst (v := 0) hx hb zd_LassoFinderModel_packed_60 (by decide) ?_
    refine lv_istore hx hb zd_LassoFinderModel_packed_61 hl (by decide) rfl (fun ls hl => ?_)
    have hl : lv_has ls 5 [(4, .int 0), (1, .long z33), (0, .ref (ad 0)), (3, .int x3)] := hl
    obtain ⟨n9, hok⟩ := hok
    exact wL_LassoFinderModel_packed_63 G K ad  Post C K34 kh34 n9 z33 x3 0 I J B D ls H locs hok (lv_sub hl [2, 1, 3, 0] rfl) hw
theorem wL_LassoFinderModel_packed_34 {p : Program} {l : Launch} {e : Env} {s : State} {m : MethodId} {below : List Frame} {meth : Method} {c : Code} {A : Nat → Prop} (G : va_G) (K : Nat → ClassId) (ad : Nat → Nat) (Post : Int64 → (Nat → Int32) → (Nat → Int64) → (Nat → Nat → Int32) → (Nat → Nat → Int64) → Prop) (C : zCx p s m ([.ref (ad 0)] : List Value).toArray meth c A G K prog_14_method_28_code (some .long) 5 "LassoFinderModel") : ∀ (n : Nat) (x1 : Int64) (x3 : Int32) (I : Nat → Int32) (J : Nat → Int64) (B : Nat → Nat → Int32) (D : Nat → Nat → Int64) (ls : Array Slot) (H : Heap) (locs : List Loc), wl_LassoFinderModel_packed_34  Post n x1 x3 I J B D → lv_has ls 5 [(0, .ref (ad 0)), (1, .long x1), (3, .int x3)] → zW G A s.heap (wM ad K I J B D) H locs → W p l e { frames := 0, cells := 0, slots := 0, locals := 0 } s m ([.ref (ad 0)] : List Value).toArray below meth c H locs 0 0 (MQ below (va_Ql (fun (r : Int64) (u : zS) => Post r u.1 u.2.1 u.2.2.1 u.2.2.2) (fun u t => zPost G K A (wM ad K u.1 u.2.1 u.2.2.1 u.2.2.2) t) A) ([.ref (ad 0)] : List Value).toArray s 0 0 A) (F0 m 34 ls []) := by
  intro n
  induction n with
  | zero => intro x1 x3 I J B D ls H locs hok; exact hok.elim
  | succ n ih => exact wB_LassoFinderModel_packed_34 G K ad  Post C (wl_LassoFinderModel_packed_34  Post n) ih
set_option maxHeartbeats 8000000 in
set_option maxRecDepth 100000 in
theorem wB_LassoFinderModel_packed_4 {p : Program} {l : Launch} {e : Env} {s : State} {m : MethodId} {below : List Frame} {meth : Method} {c : Code} {A : Nat → Prop} (G : va_G) (K : Nat → ClassId) (ad : Nat → Nat) (Post : Int64 → (Nat → Int32) → (Nat → Int64) → (Nat → Nat → Int32) → (Nat → Nat → Int64) → Prop) (C : zCx p s m ([.ref (ad 0)] : List Value).toArray meth c A G K prog_14_method_28_code (some .long) 5 "LassoFinderModel") (K4 : Int64 → Int32 → (Nat → Int32) → (Nat → Int64) → (Nat → Nat → Int32) → (Nat → Nat → Int64) → Prop) (kh4 : ∀ (x1 : Int64) (x3 : Int32) (I : Nat → Int32) (J : Nat → Int64) (B : Nat → Nat → Int32) (D : Nat → Nat → Int64) (ls : Array Slot) (H : Heap) (locs : List Loc), K4 x1 x3 I J B D → lv_has ls 5 [(0, .ref (ad 0)), (1, .long x1), (3, .int x3)] → zW G A s.heap (wM ad K I J B D) H locs → W p l e { frames := 0, cells := 0, slots := 0, locals := 0 } s m ([.ref (ad 0)] : List Value).toArray below meth c H locs 0 0 (MQ below (va_Ql (fun (r : Int64) (u : zS) => Post r u.1 u.2.1 u.2.2.1 u.2.2.2) (fun u t => zPost G K A (wM ad K u.1 u.2.1 u.2.2.1 u.2.2.2) t) A) ([.ref (ad 0)] : List Value).toArray s 0 0 A) (F0 m 4 ls [])) : ∀ (x1 : Int64) (x3 : Int32) (I : Nat → Int32) (J : Nat → Int64) (B : Nat → Nat → Int32) (D : Nat → Nat → Int64) (ls : Array Slot) (H : Heap) (locs : List Loc), wb_LassoFinderModel_packed_4  K4 Post x1 x3 I J B D → lv_has ls 5 [(0, .ref (ad 0)), (1, .long x1), (3, .int x3)] → zW G A s.heap (wM ad K I J B D) H locs → W p l e { frames := 0, cells := 0, slots := 0, locals := 0 } s m ([.ref (ad 0)] : List Value).toArray below meth c H locs 0 0 (MQ below (va_Ql (fun (r : Int64) (u : zS) => Post r u.1 u.2.1 u.2.2.1 u.2.2.2) (fun u t => zPost G K A (wM ad K u.1 u.2.1 u.2.2.1 u.2.2.2) t) A) ([.ref (ad 0)] : List Value).toArray s 0 0 A) (F0 m 4 ls []) := by
  obtain ⟨hx, hb, hr, hml, hts, hown, hlocks, hA, hK⟩ := id C
  intro x1 x3 I J B D ls H locs hok hl hw
  unfold wb_LassoFinderModel_packed_4 at hok
  refine lv_iload_n hx hb zd_LassoFinderModel_packed_4 rfl (lv_at hl 2 rfl) ?_
  refine lv_aload_n hx hb zd_LassoFinderModel_packed_5 rfl (lv_at hl 0 rfl) ?_
  refine z_get (v := .int (I 6)) hx hb hts hown hK hw zZ12 0 wM_g0 7 (by decide) zm_308 rfl zd_LassoFinderModel_packed_6 ?_
  refine lv_icmp_ge (tgt := 32) hx hb zd_LassoFinderModel_packed_9 (by decide) (fun hc34 => ?_) (fun hc34 => ?_)
  · have hok := hok.1 hc34
    refine lv_iconst (v := 0) hx hb zd_LassoFinderModel_packed_32 (by decide) ?_
    refine lv_istore_n hx hb zd_LassoFinderModel_packed_33 rfl hl (by decide) rfl (fun ls hl => ?_)
    have hl : lv_has ls 5 [(3, .int 0), (0, .ref (ad 0)), (1, .long x1)] := hl
    obtain ⟨n9, hok⟩ := hok
    exact wL_LassoFinderModel_packed_34 G K ad  Post C n9 x1 0 I J B D ls H locs hok (lv_sub hl [1, 2, 0] rfl) hw
  · have hok := hok.2 hc34
    refine lv_lload_n hx hb zd_LassoFinderModel_packed_12 rfl (lv_at hl 1 rfl) ?_
    refine lv_aload_n hx hb zd_LassoFinderModel_packed_13 rfl (lv_at hl 0 rfl) ?_
    refine z_get (v := .ref (ad 39)) hx hb hts hown hK hw zZ12 0 wM_g0 55 (by decide) zm_273 rfl zd_LassoFinderModel_packed_14 ?_
    refine lv_iload_n hx hb zd_LassoFinderModel_packed_17 rfl (lv_at hl 2 rfl) ?_
    refine va_iald (f := (B 36)) hx hb hK hw.1 39 0 wM_a39 rfl hok.1 zd_LassoFinderModel_packed_18 ?_
    have hok := hok.2
    refine lv_topi (fun z35 ez35 => ?_)
    have hok := hok z35 ez35
    refine lv_i2l hx hb zd_LassoFinderModel_packed_19 rfl ?_
    refine lv_topl (fun z36 ez36 => ?_)
    have hok := hok z36 ez36
    refine lv_iconst (v := 3) hx hb zd_LassoFinderModel_packed_20 (by decide) ?_
    refine lv_iload_n hx hb zd_LassoFinderModel_packed_21 rfl (lv_at hl 2 rfl) ?_
    refine lv_imul hx hb zd_LassoFinderModel_packed_22 ?_
    refine lv_topi (fun z37 ez37 => ?_)
    have hok := hok z37 ez37
    refine lv_lshl hx hb zd_LassoFinderModel_packed_23 rfl ?_
    refine lv_topl (fun z38 ez38 => ?_)
    have hok := hok z38 ez38
    refine lv_lor hx hb zd_LassoFinderModel_packed_24 ?_
    refine lv_topl (fun z39 ez39 => ?_)
    have hok := hok z39 ez39
    refine lv_lstore_n hx hb zd_LassoFinderModel_packed_25 rfl hl (by decide) rfl (fun ls hl => ?_)
    have hl : lv_has ls 5 [(1, .long z39), (0, .ref (ad 0)), (3, .int x3)] := hl
    obtain ⟨z40, ez40⟩ : ∃ z : Int32, z = (x3 + 1) := ⟨_, rfl⟩
    have hok := hok z40 ez40
    refine lv_iinc (v := z40) hx hb zd_LassoFinderModel_packed_26 hl (k := 2) rfl ez40.symm (by decide) rfl (fun ls hl => ?_)
    have hl : lv_has ls 5 [(3, .int z40), (1, .long z39), (0, .ref (ad 0))] := hl
    refine lv_goto (tgt := 4) hx hb zd_LassoFinderModel_packed_29 (by decide) ?_
    exact kh4 z39 z40 I J B D ls H locs hok (lv_sub hl [2, 1, 0] rfl) hw
theorem wL_LassoFinderModel_packed_4 {p : Program} {l : Launch} {e : Env} {s : State} {m : MethodId} {below : List Frame} {meth : Method} {c : Code} {A : Nat → Prop} (G : va_G) (K : Nat → ClassId) (ad : Nat → Nat) (Post : Int64 → (Nat → Int32) → (Nat → Int64) → (Nat → Nat → Int32) → (Nat → Nat → Int64) → Prop) (C : zCx p s m ([.ref (ad 0)] : List Value).toArray meth c A G K prog_14_method_28_code (some .long) 5 "LassoFinderModel") : ∀ (n : Nat) (x1 : Int64) (x3 : Int32) (I : Nat → Int32) (J : Nat → Int64) (B : Nat → Nat → Int32) (D : Nat → Nat → Int64) (ls : Array Slot) (H : Heap) (locs : List Loc), wl_LassoFinderModel_packed_4  Post n x1 x3 I J B D → lv_has ls 5 [(0, .ref (ad 0)), (1, .long x1), (3, .int x3)] → zW G A s.heap (wM ad K I J B D) H locs → W p l e { frames := 0, cells := 0, slots := 0, locals := 0 } s m ([.ref (ad 0)] : List Value).toArray below meth c H locs 0 0 (MQ below (va_Ql (fun (r : Int64) (u : zS) => Post r u.1 u.2.1 u.2.2.1 u.2.2.2) (fun u t => zPost G K A (wM ad K u.1 u.2.1 u.2.2.1 u.2.2.2) t) A) ([.ref (ad 0)] : List Value).toArray s 0 0 A) (F0 m 4 ls []) := by
  intro n
  induction n with
  | zero => intro x1 x3 I J B D ls H locs hok; exact hok.elim
  | succ n ih => exact wB_LassoFinderModel_packed_4 G K ad  Post C (wl_LassoFinderModel_packed_4  Post n) ih
set_option maxHeartbeats 8000000 in
set_option maxRecDepth 100000 in
theorem w_LassoFinderModel_packed (l : Launch) (G : va_G) (K : Nat → ClassId) (ad : Nat → Nat) (I : Nat → Int32) (J : Nat → Int64) (B : Nat → Nat → Int32) (D : Nat → Nat → Int64) (Post : Int64 → (Nat → Int32) → (Nat → Int64) → (Nat → Nat → Int32) → (Nat → Nat → Int64) → Prop) (sz : Nat) (hok : wp_LassoFinderModel_packed I J B D  Post) : Met l zy_LassoFinderModel_packed (Cond.code zy_LassoFinderModel_packed prog_14_method_28_code 5 (some .long) :: zTB) { frames := 0, cells := 0, slots := 0, locals := 0 } (va_Pc [.ref (ad 0)] (zPre G K (wM ad K I J B D) sz)) (va_Ql (fun (r : Int64) (u : zS) => Post r u.1 u.2.1 u.2.2.1 u.2.2.2) (fun u t => zPost G K (va_A (wM ad K I J B D) sz) (wM ad K u.1 u.2.1 u.2.2.1 u.2.2.2) t) (va_A (wM ad K I J B D) sz)) 0 0 (va_A (wM ad K I J B D) sz) := by
  refine zMet (y := zy_LassoFinderModel_packed) (av := [.ref (ad 0)]) (maxL := 5) (cc := prog_14_method_28_code) (ret := (some .long)) (W0 := (wM ad K I J B D)) (sz := sz) (G := G) (K := K) (wt := zTB) (mc := 0) (ms := 0) (Qf := fun A => va_Ql (fun (r : Int64) (u : zS) => Post r u.1 u.2.1 u.2.2.1 u.2.2.2) (fun u t => zPost G K A (wM ad K u.1 u.2.1 u.2.2.1 u.2.2.2) t) A) (by decide) (Nat.le_of_ble_eq_true rfl) ?_
  intro p e s m below meth c ls A hx hb hr hml hts hown hlocks hin hA hK H locs hw hsz hl
  clear hsz
  have hown : s.vm.findClass "LassoFinderModel" = some m.cls := hown
  have C : zCx p s m ([.ref (ad 0)] : List Value).toArray meth c A G K prog_14_method_28_code (some .long) 5 "LassoFinderModel" := ⟨hx, hb, hr, hml, hts, hown, hlocks, hA, hK⟩
  have hl : lv_has ls 5 [(0, .ref (ad 0))] := hl
  have hw : zW G A s.heap (wM ad K I J B D) H locs := hw
  unfold wp_LassoFinderModel_packed at hok
  refine lv_lconst (v := 0) hx hb zd_LassoFinderModel_packed_0 (by decide) ?_
  refine lv_lstore_n hx hb zd_LassoFinderModel_packed_1 rfl hl (by decide) rfl (fun ls hl => ?_)
  have hl : lv_has ls 5 [(1, .long 0), (0, .ref (ad 0))] := hl
  refine lv_iconst (v := 0) hx hb zd_LassoFinderModel_packed_2 (by decide) ?_
  refine lv_istore_n hx hb zd_LassoFinderModel_packed_3 rfl hl (by decide) rfl (fun ls hl => ?_)
  have hl : lv_has ls 5 [(3, .int 0), (1, .long 0), (0, .ref (ad 0))] := hl
  obtain ⟨n9, hok⟩ := hok
  exact wL_LassoFinderModel_packed_4 G K ad  Post C n9 0 0 I J B D ls H locs hok (lv_sub hl [2, 1, 0] rfl) hw
def wb_LassoFinderModel_unpack_115 (a0 : Int64) (K115 : Int64 → Int32 → (Nat → Int32) → (Nat → Int64) → (Nat → Nat → Int32) → (Nat → Nat → Int64) → Prop) (Post : (Nat → Int32) → (Nat → Int64) → (Nat → Nat → Int32) → (Nat → Nat → Int64) → Prop) (x1 : Int64) (x3 : Int32) (I : Nat → Int32) (J : Nat → Int64) (B : Nat → Nat → Int32) (D : Nat → Nat → Int64) : Prop :=
  (((I 10) ≤ x3 → ∀ z2 : Int64, z2 = (x1 >>> ((60 : Int32).toInt64 &&& 63)) → ∀ z3 : Int64, z3 = (z2 &&& 7) → ∀ z4 : Int32, z4 = z3.toInt32 → ∀ z5 : Int32, z5 = (z4 - 1) → Post (upd I 17 z5) J B D) ∧ (¬ (I 10) ≤ x3 → ∀ z6 : Int32, z6 = (5 * x3) → ∀ z7 : Int32, z7 = (40 + z6) → ∀ z8 : Int64, z8 = (x1 >>> (z7.toInt64 &&& 63)) → ∀ z9 : Int64, z9 = (z8 &&& 31) → ∀ z10 : Int32, z10 = z9.toInt32 → vp_in x3 4 ∧ ∀ z11 : Int32, z11 = (x3 + 1) → K115 x1 z11 I J (va_up B 39 (upd (B 39) x3.toNatClampNeg z10)) D))
def wl_LassoFinderModel_unpack_115 (a0 : Int64) (Post : (Nat → Int32) → (Nat → Int64) → (Nat → Nat → Int32) → (Nat → Nat → Int64) → Prop) (n : Nat) : Int64 → Int32 → (Nat → Int32) → (Nat → Int64) → (Nat → Nat → Int32) → (Nat → Nat → Int64) → Prop := Nat.rec (fun _ _ _ _ _ _ => False) (fun _ r => wb_LassoFinderModel_unpack_115 a0 r Post) n
def wb_LassoFinderModel_unpack_65 (a0 : Int64) (K65 : Int64 → Int32 → Int32 → (Nat → Int32) → (Nat → Int64) → (Nat → Nat → Int32) → (Nat → Nat → Int64) → Prop) (K34 : Int64 → Int32 → (Nat → Int32) → (Nat → Int64) → (Nat → Nat → Int32) → (Nat → Nat → Int64) → Prop) (Post : (Nat → Int32) → (Nat → Int64) → (Nat → Nat → Int32) → (Nat → Nat → Int64) → Prop) (x1 : Int64) (x3 : Int32) (x4 : Int32) (I : Nat → Int32) (J : Nat → Int64) (B : Nat → Nat → Int32) (D : Nat → Nat → Int64) : Prop :=
  (((3 : Int32) ≤ x4 → ∀ z13 : Int32, z13 = (x3 + 1) → K34 x1 z13 I J B D) ∧ (¬ (3 : Int32) ≤ x4 → ∀ z14 : Int32, z14 = (3 * x3) → ∀ z15 : Int32, z15 = (z14 + x4) → ∀ z16 : Int32, z16 = (11 * x3) → ∀ z17 : Int32, z17 = (20 + z16) → ∀ z18 : Int32, z18 = (3 * x4) → ∀ z19 : Int32, z19 = (z17 + z18) → ∀ z20 : Int64, z20 = (x1 >>> (z19.toInt64 &&& 63)) → ∀ z21 : Int64, z21 = (z20 &&& 7) → ∀ z22 : Int32, z22 = z21.toInt32 → vp_in z15 6 ∧ ∀ z23 : Int32, z23 = (x4 + 1) → K65 x1 x3 z23 I J (va_up B 38 (upd (B 38) z15.toNatClampNeg z22)) D))
def wl_LassoFinderModel_unpack_65 (a0 : Int64) (K34 : Int64 → Int32 → (Nat → Int32) → (Nat → Int64) → (Nat → Nat → Int32) → (Nat → Nat → Int64) → Prop) (Post : (Nat → Int32) → (Nat → Int64) → (Nat → Nat → Int32) → (Nat → Nat → Int64) → Prop) (n : Nat) : Int64 → Int32 → Int32 → (Nat → Int32) → (Nat → Int64) → (Nat → Nat → Int32) → (Nat → Nat → Int64) → Prop := Nat.rec (fun _ _ _ _ _ _ _ => False) (fun _ r => wb_LassoFinderModel_unpack_65 a0 r K34 Post) n
def wb_LassoFinderModel_unpack_34 (a0 : Int64) (K34 : Int64 → Int32 → (Nat → Int32) → (Nat → Int64) → (Nat → Nat → Int32) → (Nat → Nat → Int64) → Prop) (Post : (Nat → Int32) → (Nat → Int64) → (Nat → Nat → Int32) → (Nat → Nat → Int64) → Prop) (x1 : Int64) (x3 : Int32) (I : Nat → Int32) (J : Nat → Int64) (B : Nat → Nat → Int32) (D : Nat → Nat → Int64) : Prop :=
  (((I 7) ≤ x3 → ∃ n : Nat, wl_LassoFinderModel_unpack_115 a0 Post n x1 0 I J B D) ∧ (¬ (I 7) ≤ x3 → ∀ z25 : Int32, z25 = (11 * x3) → ∀ z26 : Int32, z26 = (18 + z25) → ∀ z27 : Int64, z27 = (x1 >>> (z26.toInt64 &&& 63)) → ∀ z28 : Int64, z28 = (z27 &&& 3) → ∀ z29 : Int32, z29 = z28.toInt32 → vp_in x3 2 ∧ ∃ n : Nat, wl_LassoFinderModel_unpack_65 a0 K34 Post n x1 x3 0 I J (va_up B 37 (upd (B 37) x3.toNatClampNeg z29)) D))
def wl_LassoFinderModel_unpack_34 (a0 : Int64) (Post : (Nat → Int32) → (Nat → Int64) → (Nat → Nat → Int32) → (Nat → Nat → Int64) → Prop) (n : Nat) : Int64 → Int32 → (Nat → Int32) → (Nat → Int64) → (Nat → Nat → Int32) → (Nat → Nat → Int64) → Prop := Nat.rec (fun _ _ _ _ _ _ => False) (fun _ r => wb_LassoFinderModel_unpack_34 a0 r Post) n
def wb_LassoFinderModel_unpack_2 (a0 : Int64) (K2 : Int64 → Int32 → (Nat → Int32) → (Nat → Int64) → (Nat → Nat → Int32) → (Nat → Nat → Int64) → Prop) (Post : (Nat → Int32) → (Nat → Int64) → (Nat → Nat → Int32) → (Nat → Nat → Int64) → Prop) (x1 : Int64) (x3 : Int32) (I : Nat → Int32) (J : Nat → Int64) (B : Nat → Nat → Int32) (D : Nat → Nat → Int64) : Prop :=
  (((I 6) ≤ x3 → ∃ n : Nat, wl_LassoFinderModel_unpack_34 a0 Post n x1 0 I J B D) ∧ (¬ (I 6) ≤ x3 → ∀ z31 : Int32, z31 = (3 * x3) → ∀ z32 : Int64, z32 = (x1 >>> (z31.toInt64 &&& 63)) → ∀ z33 : Int64, z33 = (z32 &&& 7) → ∀ z34 : Int32, z34 = z33.toInt32 → vp_in x3 6 ∧ ∀ z35 : Int32, z35 = (x3 + 1) → K2 x1 z35 I J (va_up B 36 (upd (B 36) x3.toNatClampNeg z34)) D))
def wl_LassoFinderModel_unpack_2 (a0 : Int64) (Post : (Nat → Int32) → (Nat → Int64) → (Nat → Nat → Int32) → (Nat → Nat → Int64) → Prop) (n : Nat) : Int64 → Int32 → (Nat → Int32) → (Nat → Int64) → (Nat → Nat → Int32) → (Nat → Nat → Int64) → Prop := Nat.rec (fun _ _ _ _ _ _ => False) (fun _ r => wb_LassoFinderModel_unpack_2 a0 r Post) n
def wp_LassoFinderModel_unpack (I : Nat → Int32) (J : Nat → Int64) (B : Nat → Nat → Int32) (D : Nat → Nat → Int64) (a0 : Int64) (Post : (Nat → Int32) → (Nat → Int64) → (Nat → Nat → Int32) → (Nat → Nat → Int64) → Prop) : Prop :=
  ∃ n : Nat, wl_LassoFinderModel_unpack_2 a0 Post n a0 0 I J B D
set_option maxHeartbeats 8000000 in
set_option maxRecDepth 100000 in
theorem wB_LassoFinderModel_unpack_115 {p : Program} {l : Launch} {e : Env} {s : State} {m : MethodId} {below : List Frame} {meth : Method} {c : Code} {A : Nat → Prop} (G : va_G) (K : Nat → ClassId) (ad : Nat → Nat) (a0 : Int64) (Post : (Nat → Int32) → (Nat → Int64) → (Nat → Nat → Int32) → (Nat → Nat → Int64) → Prop) (C : zCx p s m ([.ref (ad 0), .long a0] : List Value).toArray meth c A G K prog_14_method_29_code none 5 "LassoFinderModel") (K115 : Int64 → Int32 → (Nat → Int32) → (Nat → Int64) → (Nat → Nat → Int32) → (Nat → Nat → Int64) → Prop) (kh115 : ∀ (x1 : Int64) (x3 : Int32) (I : Nat → Int32) (J : Nat → Int64) (B : Nat → Nat → Int32) (D : Nat → Nat → Int64) (ls : Array Slot) (H : Heap) (locs : List Loc), K115 x1 x3 I J B D → lv_has ls 5 [(0, .ref (ad 0)), (1, .long x1), (3, .int x3)] → zW G A s.heap (wM ad K I J B D) H locs → W p l e { frames := 0, cells := 0, slots := 0, locals := 0 } s m ([.ref (ad 0), .long a0] : List Value).toArray below meth c H locs 0 0 (MQ below (va_Qv (fun u : zS => Post u.1 u.2.1 u.2.2.1 u.2.2.2) (fun u t => zPost G K A (wM ad K u.1 u.2.1 u.2.2.1 u.2.2.2) t) A) ([.ref (ad 0), .long a0] : List Value).toArray s 0 0 A) (F0 m 115 ls [])) : ∀ (x1 : Int64) (x3 : Int32) (I : Nat → Int32) (J : Nat → Int64) (B : Nat → Nat → Int32) (D : Nat → Nat → Int64) (ls : Array Slot) (H : Heap) (locs : List Loc), wb_LassoFinderModel_unpack_115 a0 K115 Post x1 x3 I J B D → lv_has ls 5 [(0, .ref (ad 0)), (1, .long x1), (3, .int x3)] → zW G A s.heap (wM ad K I J B D) H locs → W p l e { frames := 0, cells := 0, slots := 0, locals := 0 } s m ([.ref (ad 0), .long a0] : List Value).toArray below meth c H locs 0 0 (MQ below (va_Qv (fun u : zS => Post u.1 u.2.1 u.2.2.1 u.2.2.2) (fun u t => zPost G K A (wM ad K u.1 u.2.1 u.2.2.1 u.2.2.2) t) A) ([.ref (ad 0), .long a0] : List Value).toArray s 0 0 A) (F0 m 115 ls []) := by
  obtain ⟨hx, hb, hr, hml, hts, hown, hlocks, hA, hK⟩ := id C
  intro x1 x3 I J B D ls H locs hok hl hw
  unfold wb_LassoFinderModel_unpack_115 at hok
  refine lv_iload_n hx hb zd_LassoFinderModel_unpack_115 rfl (lv_at hl 2 rfl) ?_
  refine lv_aload_n hx hb zd_LassoFinderModel_unpack_116 rfl (lv_at hl 0 rfl) ?_
  refine z_get (v := .int (I 10)) hx hb hts hown hK hw zZ12 0 wM_g0 30 (by decide) zm_310 rfl zd_LassoFinderModel_unpack_117 ?_
  refine lv_icmp_ge (tgt := 148) hx hb zd_LassoFinderModel_unpack_120 (by decide) (fun hc1 => ?_) (fun hc1 => ?_)
  · have hok := hok.1 hc1
    refine lv_aload_n hx hb zd_LassoFinderModel_unpack_148 rfl (lv_at hl 0 rfl) ?_
    refine lv_lload_n hx hb zd_LassoFinderModel_unpack_149 rfl (lv_at hl 1 rfl) ?_
    refine lv_bipush (v := 60) hx hb zd_LassoFinderModel_unpack_150 (by decide) ?_
    refine lv_lshr hx hb zd_LassoFinderModel_unpack_152 rfl ?_
    refine lv_topl (fun z2 ez2 => ?_)
    have hok := hok z2 ez2
    refine lv_ldc2 (v := 7) hx hb hown (hts _ zm_321) zd_LassoFinderModel_unpack_153 ?_
    refine lv_land hx hb zd_LassoFinderModel_unpack_156 ?_
    refine lv_topl (fun z3 ez3 => ?_)
    have hok := hok z3 ez3
    refine lv_l2i hx hb zd_LassoFinderModel_unpack_157 rfl ?_
    refine lv_topi (fun z4 ez4 => ?_)
    have hok := hok z4 ez4
    refine lv_iconst (v := 1) hx hb zd_LassoFinderModel_unpack_158 (by decide) ?_
    refine lv_isub hx hb zd_LassoFinderModel_unpack_159 ?_
    refine lv_topi (fun z5 ez5 => ?_)
    have hok := hok z5 ez5
    refine z_put (v := .int z5) hx hb hts hown hK hw zZ12 0 wM_g0 59 (by decide) zm_320 rfl rfl rfl (Nat.le_of_ble_eq_true rfl) zd_LassoFinderModel_unpack_160 (fun H locs hw => ?_)
    have hw := wM_sI17 hw
    exact (z_vret (u := ((upd I 17 z5), J, B, D)) hx hb hr hlocks hw (List.range 58) wM_all wM_nd hok (Nat.le_of_ble_eq_true rfl) (Nat.le_of_ble_eq_true rfl) zd_LassoFinderModel_unpack_163)
  · have hok := hok.2 hc1
    refine lv_aload_n hx hb zd_LassoFinderModel_unpack_123 rfl (lv_at hl 0 rfl) ?_
    refine z_get (v := .ref (ad 42)) hx hb hts hown hK hw zZ12 0 wM_g0 58 (by decide) zm_276 rfl zd_LassoFinderModel_unpack_124 ?_
    refine lv_iload_n hx hb zd_LassoFinderModel_unpack_127 rfl (lv_at hl 2 rfl) ?_
    refine lv_lload_n hx hb zd_LassoFinderModel_unpack_128 rfl (lv_at hl 1 rfl) ?_
    refine lv_bipush (v := 40) hx hb zd_LassoFinderModel_unpack_129 (by decide) ?_
    refine lv_iconst (v := 5) hx hb zd_LassoFinderModel_unpack_131 (by decide) ?_
    refine lv_iload_n hx hb zd_LassoFinderModel_unpack_132 rfl (lv_at hl 2 rfl) ?_
    refine lv_imul hx hb zd_LassoFinderModel_unpack_133 ?_
    refine lv_topi (fun z6 ez6 => ?_)
    have hok := hok z6 ez6
    refine lv_iadd hx hb zd_LassoFinderModel_unpack_134 ?_
    refine lv_topi (fun z7 ez7 => ?_)
    have hok := hok z7 ez7
    refine lv_lshr hx hb zd_LassoFinderModel_unpack_135 rfl ?_
    refine lv_topl (fun z8 ez8 => ?_)
    have hok := hok z8 ez8
    refine lv_ldc2 (v := 31) hx hb hown (hts _ zm_322) zd_LassoFinderModel_unpack_136 ?_
    refine lv_land hx hb zd_LassoFinderModel_unpack_139 ?_
    refine lv_topl (fun z9 ez9 => ?_)
    have hok := hok z9 ez9
    refine lv_l2i hx hb zd_LassoFinderModel_unpack_140 rfl ?_
    refine lv_topi (fun z10 ez10 => ?_)
    have hok := hok z10 ez10
    refine va_iast (f := (B 39)) hx hb hK hw.1 hw.2.1 hw.2.2 42 0 wM_a42 rfl hok.1 zd_LassoFinderModel_unpack_141 (fun H locs w91 w92 w93 => ?_)
    have hok := hok.2
    have hw := wM_t42 ⟨w91, w92, w93⟩
    obtain ⟨z11, ez11⟩ : ∃ z : Int32, z = (x3 + 1) := ⟨_, rfl⟩
    have hok := hok z11 ez11
    refine lv_iinc (v := z11) hx hb zd_LassoFinderModel_unpack_142 hl (k := 2) rfl ez11.symm (by decide) rfl (fun ls hl => ?_)
    have hl : lv_has ls 5 [(3, .int z11), (0, .ref (ad 0)), (1, .long x1)] := hl
    refine lv_goto (tgt := 115) hx hb zd_LassoFinderModel_unpack_145 (by decide) ?_
    exact kh115 x1 z11 I J (va_up B 39 (upd (B 39) x3.toNatClampNeg z10)) D ls H locs hok (lv_sub hl [1, 2, 0] rfl) hw
theorem wL_LassoFinderModel_unpack_115 {p : Program} {l : Launch} {e : Env} {s : State} {m : MethodId} {below : List Frame} {meth : Method} {c : Code} {A : Nat → Prop} (G : va_G) (K : Nat → ClassId) (ad : Nat → Nat) (a0 : Int64) (Post : (Nat → Int32) → (Nat → Int64) → (Nat → Nat → Int32) → (Nat → Nat → Int64) → Prop) (C : zCx p s m ([.ref (ad 0), .long a0] : List Value).toArray meth c A G K prog_14_method_29_code none 5 "LassoFinderModel") : ∀ (n : Nat) (x1 : Int64) (x3 : Int32) (I : Nat → Int32) (J : Nat → Int64) (B : Nat → Nat → Int32) (D : Nat → Nat → Int64) (ls : Array Slot) (H : Heap) (locs : List Loc), wl_LassoFinderModel_unpack_115 a0 Post n x1 x3 I J B D → lv_has ls 5 [(0, .ref (ad 0)), (1, .long x1), (3, .int x3)] → zW G A s.heap (wM ad K I J B D) H locs → W p l e { frames := 0, cells := 0, slots := 0, locals := 0 } s m ([.ref (ad 0), .long a0] : List Value).toArray below meth c H locs 0 0 (MQ below (va_Qv (fun u : zS => Post u.1 u.2.1 u.2.2.1 u.2.2.2) (fun u t => zPost G K A (wM ad K u.1 u.2.1 u.2.2.1 u.2.2.2) t) A) ([.ref (ad 0), .long a0] : List Value).toArray s 0 0 A) (F0 m 115 ls []) := by
  intro n
  induction n with
  | zero => intro x1 x3 I J B D ls H locs hok; exact hok.elim
  | succ n ih => exact wB_LassoFinderModel_unpack_115 G K ad a0 Post C (wl_LassoFinderModel_unpack_115 a0 Post n) ih
set_option maxHeartbeats 8000000 in
set_option maxRecDepth 100000 in
theorem wB_LassoFinderModel_unpack_65 {p : Program} {l : Launch} {e : Env} {s : State} {m : MethodId} {below : List Frame} {meth : Method} {c : Code} {A : Nat → Prop} (G : va_G) (K : Nat → ClassId) (ad : Nat → Nat) (a0 : Int64) (Post : (Nat → Int32) → (Nat → Int64) → (Nat → Nat → Int32) → (Nat → Nat → Int64) → Prop) (C : zCx p s m ([.ref (ad 0), .long a0] : List Value).toArray meth c A G K prog_14_method_29_code none 5 "LassoFinderModel") (K34 : Int64 → Int32 → (Nat → Int32) → (Nat → Int64) → (Nat → Nat → Int32) → (Nat → Nat → Int64) → Prop) (kh34 : ∀ (x1 : Int64) (x3 : Int32) (I : Nat → Int32) (J : Nat → Int64) (B : Nat → Nat → Int32) (D : Nat → Nat → Int64) (ls : Array Slot) (H : Heap) (locs : List Loc), K34 x1 x3 I J B D → lv_has ls 5 [(0, .ref (ad 0)), (1, .long x1), (3, .int x3)] → zW G A s.heap (wM ad K I J B D) H locs → W p l e { frames := 0, cells := 0, slots := 0, locals := 0 } s m ([.ref (ad 0), .long a0] : List Value).toArray below meth c H locs 0 0 (MQ below (va_Qv (fun u : zS => Post u.1 u.2.1 u.2.2.1 u.2.2.2) (fun u t => zPost G K A (wM ad K u.1 u.2.1 u.2.2.1 u.2.2.2) t) A) ([.ref (ad 0), .long a0] : List Value).toArray s 0 0 A) (F0 m 34 ls [])) (K65 : Int64 → Int32 → Int32 → (Nat → Int32) → (Nat → Int64) → (Nat → Nat → Int32) → (Nat → Nat → Int64) → Prop) (kh65 : ∀ (x1 : Int64) (x3 : Int32) (x4 : Int32) (I : Nat → Int32) (J : Nat → Int64) (B : Nat → Nat → Int32) (D : Nat → Nat → Int64) (ls : Array Slot) (H : Heap) (locs : List Loc), K65 x1 x3 x4 I J B D → lv_has ls 5 [(0, .ref (ad 0)), (1, .long x1), (3, .int x3), (4, .int x4)] → zW G A s.heap (wM ad K I J B D) H locs → W p l e { frames := 0, cells := 0, slots := 0, locals := 0 } s m ([.ref (ad 0), .long a0] : List Value).toArray below meth c H locs 0 0 (MQ below (va_Qv (fun u : zS => Post u.1 u.2.1 u.2.2.1 u.2.2.2) (fun u t => zPost G K A (wM ad K u.1 u.2.1 u.2.2.1 u.2.2.2) t) A) ([.ref (ad 0), .long a0] : List Value).toArray s 0 0 A) (F0 m 65 ls [])) : ∀ (x1 : Int64) (x3 : Int32) (x4 : Int32) (I : Nat → Int32) (J : Nat → Int64) (B : Nat → Nat → Int32) (D : Nat → Nat → Int64) (ls : Array Slot) (H : Heap) (locs : List Loc), wb_LassoFinderModel_unpack_65 a0 K65 K34 Post x1 x3 x4 I J B D → lv_has ls 5 [(0, .ref (ad 0)), (1, .long x1), (3, .int x3), (4, .int x4)] → zW G A s.heap (wM ad K I J B D) H locs → W p l e { frames := 0, cells := 0, slots := 0, locals := 0 } s m ([.ref (ad 0), .long a0] : List Value).toArray below meth c H locs 0 0 (MQ below (va_Qv (fun u : zS => Post u.1 u.2.1 u.2.2.1 u.2.2.2) (fun u t => zPost G K A (wM ad K u.1 u.2.1 u.2.2.1 u.2.2.2) t) A) ([.ref (ad 0), .long a0] : List Value).toArray s 0 0 A) (F0 m 65 ls []) := by
  obtain ⟨hx, hb, hr, hml, hts, hown, hlocks, hA, hK⟩ := id C
  intro x1 x3 x4 I J B D ls H locs hok hl hw
  unfold wb_LassoFinderModel_unpack_65 at hok
  refine lv_iload hx hb zd_LassoFinderModel_unpack_65 (lv_at hl 3 rfl) ?_
  refine lv_iconst (v := 3) hx hb zd_LassoFinderModel_unpack_67 (by decide) ?_
  refine lv_icmp_ge (tgt := 107) hx hb zd_LassoFinderModel_unpack_68 (by decide) (fun hc12 => ?_) (fun hc12 => ?_)
  · have hok := hok.1 hc12
    obtain ⟨z13, ez13⟩ : ∃ z : Int32, z = (x3 + 1) := ⟨_, rfl⟩
    have hok := hok z13 ez13
    refine lv_iinc (v := z13) hx hb zd_LassoFinderModel_unpack_107 hl (k := 2) rfl ez13.symm (by decide) rfl (fun ls hl => ?_)
    have hl : lv_has ls 5 [(3, .int z13), (0, .ref (ad 0)), (1, .long x1), (4, .int x4)] := hl
    refine lv_goto (tgt := 34) hx hb zd_LassoFinderModel_unpack_110 (by decide) ?_
    exact kh34 x1 z13 I J B D ls H locs hok (lv_sub hl [1, 2, 0] rfl) hw
  · have hok := hok.2 hc12
    refine lv_aload_n hx hb zd_LassoFinderModel_unpack_71 rfl (lv_at hl 0 rfl) ?_
    refine z_get (v := .ref (ad 41)) hx hb hts hown hK hw zZ12 0 wM_g0 57 (by decide) zm_275 rfl zd_LassoFinderModel_unpack_72 ?_
    refine lv_iconst (v := 3) hx hb zd_LassoFinderModel_unpack_75 (by decide) ?_
    refine lv_iload_n hx hb zd_LassoFinderModel_unpack_76 rfl (lv_at hl 2 rfl) ?_
    refine lv_imul hx hb zd_LassoFinderModel_unpack_77 ?_
    refine lv_topi (fun z14 ez14 => ?_)
    have hok := hok z14 ez14
    refine lv_iload hx hb zd_LassoFinderModel_unpack_78 (lv_at hl 3 rfl) ?_
    refine lv_iadd hx hb zd_LassoFinderModel_unpack_80 ?_
    refine lv_topi (fun z15 ez15 => ?_)
    have hok := hok z15 ez15
    refine lv_lload_n hx hb zd_LassoFinderModel_unpack_81 rfl (lv_at hl 1 rfl) ?_
    refine lv_bipush (v := 20) hx hb zd_LassoFinderModel_unpack_82 (by decide) ?_
    refine lv_bipush (v := 11) hx hb zd_LassoFinderModel_unpack_84 (by decide) ?_
    refine lv_iload_n hx hb zd_LassoFinderModel_unpack_86 rfl (lv_at hl 2 rfl) ?_
    refine lv_imul hx hb zd_LassoFinderModel_unpack_87 ?_
    refine lv_topi (fun z16 ez16 => ?_)
    have hok := hok z16 ez16
    refine lv_iadd hx hb zd_LassoFinderModel_unpack_88 ?_
    refine lv_topi (fun z17 ez17 => ?_)
    have hok := hok z17 ez17
    refine lv_iconst (v := 3) hx hb zd_LassoFinderModel_unpack_89 (by decide) ?_
    refine lv_iload hx hb zd_LassoFinderModel_unpack_90 (lv_at hl 3 rfl) ?_
    refine lv_imul hx hb zd_LassoFinderModel_unpack_92 ?_
    refine lv_topi (fun z18 ez18 => ?_)
    have hok := hok z18 ez18
    refine lv_iadd hx hb zd_LassoFinderModel_unpack_93 ?_
    refine lv_topi (fun z19 ez19 => ?_)
    have hok := hok z19 ez19
    refine lv_lshr hx hb zd_LassoFinderModel_unpack_94 rfl ?_
    refine lv_topl (fun z20 ez20 => ?_)
    have hok := hok z20 ez20
    refine lv_ldc2 (v := 7) hx hb hown (hts _ zm_321) zd_LassoFinderModel_unpack_95 ?_
    refine lv_land hx hb zd_LassoFinderModel_unpack_98 ?_
    refine lv_topl (fun z21 ez21 => ?_)
    have hok := hok z21 ez21
    refine lv_l2i hx hb zd_LassoFinderModel_unpack_99 rfl ?_
    refine lv_topi (fun z22 ez22 => ?_)
    have hok := hok z22 ez22
    refine va_iast (f := (B 38)) hx hb hK hw.1 hw.2.1 hw.2.2 41 0 wM_a41 rfl hok.1 zd_LassoFinderModel_unpack_100 (fun H locs w91 w92 w93 => ?_)
    have hok := hok.2
    have hw := wM_t41 ⟨w91, w92, w93⟩
    obtain ⟨z23, ez23⟩ : ∃ z : Int32, z = (x4 + 1) := ⟨_, rfl⟩
    have hok := hok z23 ez23
    refine lv_iinc (v := z23) hx hb zd_LassoFinderModel_unpack_101 hl (k := 3) rfl ez23.symm (by decide) rfl (fun ls hl => ?_)
    have hl : lv_has ls 5 [(4, .int z23), (0, .ref (ad 0)), (1, .long x1), (3, .int x3)] := hl
    refine lv_goto (tgt := 65) hx hb zd_LassoFinderModel_unpack_104 (by decide) ?_
    exact kh65 x1 x3 z23 I J (va_up B 38 (upd (B 38) z15.toNatClampNeg z22)) D ls H locs hok (lv_sub hl [1, 2, 3, 0] rfl) hw
theorem wL_LassoFinderModel_unpack_65 {p : Program} {l : Launch} {e : Env} {s : State} {m : MethodId} {below : List Frame} {meth : Method} {c : Code} {A : Nat → Prop} (G : va_G) (K : Nat → ClassId) (ad : Nat → Nat) (a0 : Int64) (Post : (Nat → Int32) → (Nat → Int64) → (Nat → Nat → Int32) → (Nat → Nat → Int64) → Prop) (C : zCx p s m ([.ref (ad 0), .long a0] : List Value).toArray meth c A G K prog_14_method_29_code none 5 "LassoFinderModel") (K34 : Int64 → Int32 → (Nat → Int32) → (Nat → Int64) → (Nat → Nat → Int32) → (Nat → Nat → Int64) → Prop) (kh34 : ∀ (x1 : Int64) (x3 : Int32) (I : Nat → Int32) (J : Nat → Int64) (B : Nat → Nat → Int32) (D : Nat → Nat → Int64) (ls : Array Slot) (H : Heap) (locs : List Loc), K34 x1 x3 I J B D → lv_has ls 5 [(0, .ref (ad 0)), (1, .long x1), (3, .int x3)] → zW G A s.heap (wM ad K I J B D) H locs → W p l e { frames := 0, cells := 0, slots := 0, locals := 0 } s m ([.ref (ad 0), .long a0] : List Value).toArray below meth c H locs 0 0 (MQ below (va_Qv (fun u : zS => Post u.1 u.2.1 u.2.2.1 u.2.2.2) (fun u t => zPost G K A (wM ad K u.1 u.2.1 u.2.2.1 u.2.2.2) t) A) ([.ref (ad 0), .long a0] : List Value).toArray s 0 0 A) (F0 m 34 ls [])) : ∀ (n : Nat) (x1 : Int64) (x3 : Int32) (x4 : Int32) (I : Nat → Int32) (J : Nat → Int64) (B : Nat → Nat → Int32) (D : Nat → Nat → Int64) (ls : Array Slot) (H : Heap) (locs : List Loc), wl_LassoFinderModel_unpack_65 a0 K34 Post n x1 x3 x4 I J B D → lv_has ls 5 [(0, .ref (ad 0)), (1, .long x1), (3, .int x3), (4, .int x4)] → zW G A s.heap (wM ad K I J B D) H locs → W p l e { frames := 0, cells := 0, slots := 0, locals := 0 } s m ([.ref (ad 0), .long a0] : List Value).toArray below meth c H locs 0 0 (MQ below (va_Qv (fun u : zS => Post u.1 u.2.1 u.2.2.1 u.2.2.2) (fun u t => zPost G K A (wM ad K u.1 u.2.1 u.2.2.1 u.2.2.2) t) A) ([.ref (ad 0), .long a0] : List Value).toArray s 0 0 A) (F0 m 65 ls []) := by
  intro n
  induction n with
  | zero => intro x1 x3 x4 I J B D ls H locs hok; exact hok.elim
  | succ n ih => exact wB_LassoFinderModel_unpack_65 G K ad a0 Post C K34 kh34 (wl_LassoFinderModel_unpack_65 a0 K34 Post n) ih
set_option maxHeartbeats 8000000 in
set_option maxRecDepth 100000 in
theorem wB_LassoFinderModel_unpack_34 {p : Program} {l : Launch} {e : Env} {s : State} {m : MethodId} {below : List Frame} {meth : Method} {c : Code} {A : Nat → Prop} (G : va_G) (K : Nat → ClassId) (ad : Nat → Nat) (a0 : Int64) (Post : (Nat → Int32) → (Nat → Int64) → (Nat → Nat → Int32) → (Nat → Nat → Int64) → Prop) (C : zCx p s m ([.ref (ad 0), .long a0] : List Value).toArray meth c A G K prog_14_method_29_code none 5 "LassoFinderModel") (K34 : Int64 → Int32 → (Nat → Int32) → (Nat → Int64) → (Nat → Nat → Int32) → (Nat → Nat → Int64) → Prop) (kh34 : ∀ (x1 : Int64) (x3 : Int32) (I : Nat → Int32) (J : Nat → Int64) (B : Nat → Nat → Int32) (D : Nat → Nat → Int64) (ls : Array Slot) (H : Heap) (locs : List Loc), K34 x1 x3 I J B D → lv_has ls 5 [(0, .ref (ad 0)), (1, .long x1), (3, .int x3)] → zW G A s.heap (wM ad K I J B D) H locs → W p l e { frames := 0, cells := 0, slots := 0, locals := 0 } s m ([.ref (ad 0), .long a0] : List Value).toArray below meth c H locs 0 0 (MQ below (va_Qv (fun u : zS => Post u.1 u.2.1 u.2.2.1 u.2.2.2) (fun u t => zPost G K A (wM ad K u.1 u.2.1 u.2.2.1 u.2.2.2) t) A) ([.ref (ad 0), .long a0] : List Value).toArray s 0 0 A) (F0 m 34 ls [])) : ∀ (x1 : Int64) (x3 : Int32) (I : Nat → Int32) (J : Nat → Int64) (B : Nat → Nat → Int32) (D : Nat → Nat → Int64) (ls : Array Slot) (H : Heap) (locs : List Loc), wb_LassoFinderModel_unpack_34 a0 K34 Post x1 x3 I J B D → lv_has ls 5 [(0, .ref (ad 0)), (1, .long x1), (3, .int x3)] → zW G A s.heap (wM ad K I J B D) H locs → W p l e { frames := 0, cells := 0, slots := 0, locals := 0 } s m ([.ref (ad 0), .long a0] : List Value).toArray below meth c H locs 0 0 (MQ below (va_Qv (fun u : zS => Post u.1 u.2.1 u.2.2.1 u.2.2.2) (fun u t => zPost G K A (wM ad K u.1 u.2.1 u.2.2.1 u.2.2.2) t) A) ([.ref (ad 0), .long a0] : List Value).toArray s 0 0 A) (F0 m 34 ls []) := by
  obtain ⟨hx, hb, hr, hml, hts, hown, hlocks, hA, hK⟩ := id C
  intro x1 x3 I J B D ls H locs hok hl hw
  unfold wb_LassoFinderModel_unpack_34 at hok
  refine lv_iload_n hx hb zd_LassoFinderModel_unpack_34 rfl (lv_at hl 2 rfl) ?_
  refine lv_aload_n hx hb zd_LassoFinderModel_unpack_35 rfl (lv_at hl 0 rfl) ?_
  refine z_get (v := .int (I 7)) hx hb hts hown hK hw zZ12 0 wM_g0 8 (by decide) zm_309 rfl zd_LassoFinderModel_unpack_36 ?_
  refine lv_icmp_ge (tgt := 113) hx hb zd_LassoFinderModel_unpack_39 (by decide) (fun hc24 => ?_) (fun hc24 => ?_)
  · have hok := hok.1 hc24
    refine lv_iconst (v := 0) hx hb zd_LassoFinderModel_unpack_113 (by decide) ?_
    refine lv_istore_n hx hb zd_LassoFinderModel_unpack_114 rfl hl (by decide) rfl (fun ls hl => ?_)
    have hl : lv_has ls 5 [(3, .int 0), (0, .ref (ad 0)), (1, .long x1)] := hl
    obtain ⟨n9, hok⟩ := hok
    exact wL_LassoFinderModel_unpack_115 G K ad a0 Post C n9 x1 0 I J B D ls H locs hok (lv_sub hl [1, 2, 0] rfl) hw
  · have hok := hok.2 hc24
    refine lv_aload_n hx hb zd_LassoFinderModel_unpack_42 rfl (lv_at hl 0 rfl) ?_
    refine z_get (v := .ref (ad 40)) hx hb hts hown hK hw zZ12 0 wM_g0 56 (by decide) zm_274 rfl zd_LassoFinderModel_unpack_43 ?_
    refine lv_iload_n hx hb zd_LassoFinderModel_unpack_46 rfl (lv_at hl 2 rfl) ?_
    refine lv_lload_n hx hb zd_LassoFinderModel_unpack_47 rfl (lv_at hl 1 rfl) ?_
    refine lv_bipush (v := 18) hx hb zd_LassoFinderModel_unpack_48 (by decide) ?_
    refine lv_bipush (v := 11) hx hb zd_LassoFinderModel_unpack_50 (by decide) ?_
    refine lv_iload_n hx hb zd_LassoFinderModel_unpack_52 rfl (lv_at hl 2 rfl) ?_
    refine lv_imul hx hb zd_LassoFinderModel_unpack_53 ?_
    refine lv_topi (fun z25 ez25 => ?_)
    have hok := hok z25 ez25
    refine lv_iadd hx hb zd_LassoFinderModel_unpack_54 ?_
    refine lv_topi (fun z26 ez26 => ?_)
    have hok := hok z26 ez26
    refine lv_lshr hx hb zd_LassoFinderModel_unpack_55 rfl ?_
    refine lv_topl (fun z27 ez27 => ?_)
    have hok := hok z27 ez27
    refine lv_ldc2 (v := 3) hx hb hown (hts _ zm_323) zd_LassoFinderModel_unpack_56 ?_
    refine lv_land hx hb zd_LassoFinderModel_unpack_59 ?_
    refine lv_topl (fun z28 ez28 => ?_)
    have hok := hok z28 ez28
    refine lv_l2i hx hb zd_LassoFinderModel_unpack_60 rfl ?_
    refine lv_topi (fun z29 ez29 => ?_)
    have hok := hok z29 ez29
    refine va_iast (f := (B 37)) hx hb hK hw.1 hw.2.1 hw.2.2 40 0 wM_a40 rfl hok.1 zd_LassoFinderModel_unpack_61 (fun H locs w91 w92 w93 => ?_)
    have hok := hok.2
    have hw := wM_t40 ⟨w91, w92, w93⟩
    refine lv_iconst (v := 0) hx hb zd_LassoFinderModel_unpack_62 (by decide) ?_
    refine lv_istore hx hb zd_LassoFinderModel_unpack_63 hl (by decide) rfl (fun ls hl => ?_)
    have hl : lv_has ls 5 [(4, .int 0), (0, .ref (ad 0)), (1, .long x1), (3, .int x3)] := hl
    obtain ⟨n9, hok⟩ := hok
    exact wL_LassoFinderModel_unpack_65 G K ad a0 Post C K34 kh34 n9 x1 x3 0 I J (va_up B 37 (upd (B 37) x3.toNatClampNeg z29)) D ls H locs hok (lv_sub hl [1, 2, 3, 0] rfl) hw
theorem wL_LassoFinderModel_unpack_34 {p : Program} {l : Launch} {e : Env} {s : State} {m : MethodId} {below : List Frame} {meth : Method} {c : Code} {A : Nat → Prop} (G : va_G) (K : Nat → ClassId) (ad : Nat → Nat) (a0 : Int64) (Post : (Nat → Int32) → (Nat → Int64) → (Nat → Nat → Int32) → (Nat → Nat → Int64) → Prop) (C : zCx p s m ([.ref (ad 0), .long a0] : List Value).toArray meth c A G K prog_14_method_29_code none 5 "LassoFinderModel") : ∀ (n : Nat) (x1 : Int64) (x3 : Int32) (I : Nat → Int32) (J : Nat → Int64) (B : Nat → Nat → Int32) (D : Nat → Nat → Int64) (ls : Array Slot) (H : Heap) (locs : List Loc), wl_LassoFinderModel_unpack_34 a0 Post n x1 x3 I J B D → lv_has ls 5 [(0, .ref (ad 0)), (1, .long x1), (3, .int x3)] → zW G A s.heap (wM ad K I J B D) H locs → W p l e { frames := 0, cells := 0, slots := 0, locals := 0 } s m ([.ref (ad 0), .long a0] : List Value).toArray below meth c H locs 0 0 (MQ below (va_Qv (fun u : zS => Post u.1 u.2.1 u.2.2.1 u.2.2.2) (fun u t => zPost G K A (wM ad K u.1 u.2.1 u.2.2.1 u.2.2.2) t) A) ([.ref (ad 0), .long a0] : List Value).toArray s 0 0 A) (F0 m 34 ls []) := by
  intro n
  induction n with
  | zero => intro x1 x3 I J B D ls H locs hok; exact hok.elim
  | succ n ih => exact wB_LassoFinderModel_unpack_34 G K ad a0 Post C (wl_LassoFinderModel_unpack_34 a0 Post n) ih
set_option maxHeartbeats 8000000 in
set_option maxRecDepth 100000 in
theorem wB_LassoFinderModel_unpack_2 {p : Program} {l : Launch} {e : Env} {s : State} {m : MethodId} {below : List Frame} {meth : Method} {c : Code} {A : Nat → Prop} (G : va_G) (K : Nat → ClassId) (ad : Nat → Nat) (a0 : Int64) (Post : (Nat → Int32) → (Nat → Int64) → (Nat → Nat → Int32) → (Nat → Nat → Int64) → Prop) (C : zCx p s m ([.ref (ad 0), .long a0] : List Value).toArray meth c A G K prog_14_method_29_code none 5 "LassoFinderModel") (K2 : Int64 → Int32 → (Nat → Int32) → (Nat → Int64) → (Nat → Nat → Int32) → (Nat → Nat → Int64) → Prop) (kh2 : ∀ (x1 : Int64) (x3 : Int32) (I : Nat → Int32) (J : Nat → Int64) (B : Nat → Nat → Int32) (D : Nat → Nat → Int64) (ls : Array Slot) (H : Heap) (locs : List Loc), K2 x1 x3 I J B D → lv_has ls 5 [(0, .ref (ad 0)), (1, .long x1), (3, .int x3)] → zW G A s.heap (wM ad K I J B D) H locs → W p l e { frames := 0, cells := 0, slots := 0, locals := 0 } s m ([.ref (ad 0), .long a0] : List Value).toArray below meth c H locs 0 0 (MQ below (va_Qv (fun u : zS => Post u.1 u.2.1 u.2.2.1 u.2.2.2) (fun u t => zPost G K A (wM ad K u.1 u.2.1 u.2.2.1 u.2.2.2) t) A) ([.ref (ad 0), .long a0] : List Value).toArray s 0 0 A) (F0 m 2 ls [])) : ∀ (x1 : Int64) (x3 : Int32) (I : Nat → Int32) (J : Nat → Int64) (B : Nat → Nat → Int32) (D : Nat → Nat → Int64) (ls : Array Slot) (H : Heap) (locs : List Loc), wb_LassoFinderModel_unpack_2 a0 K2 Post x1 x3 I J B D → lv_has ls 5 [(0, .ref (ad 0)), (1, .long x1), (3, .int x3)] → zW G A s.heap (wM ad K I J B D) H locs → W p l e { frames := 0, cells := 0, slots := 0, locals := 0 } s m ([.ref (ad 0), .long a0] : List Value).toArray below meth c H locs 0 0 (MQ below (va_Qv (fun u : zS => Post u.1 u.2.1 u.2.2.1 u.2.2.2) (fun u t => zPost G K A (wM ad K u.1 u.2.1 u.2.2.1 u.2.2.2) t) A) ([.ref (ad 0), .long a0] : List Value).toArray s 0 0 A) (F0 m 2 ls []) := by
  obtain ⟨hx, hb, hr, hml, hts, hown, hlocks, hA, hK⟩ := id C
  intro x1 x3 I J B D ls H locs hok hl hw
  unfold wb_LassoFinderModel_unpack_2 at hok
  refine lv_iload_n hx hb zd_LassoFinderModel_unpack_2 rfl (lv_at hl 2 rfl) ?_
  refine lv_aload_n hx hb zd_LassoFinderModel_unpack_3 rfl (lv_at hl 0 rfl) ?_
  refine z_get (v := .int (I 6)) hx hb hts hown hK hw zZ12 0 wM_g0 7 (by decide) zm_308 rfl zd_LassoFinderModel_unpack_4 ?_
  refine lv_icmp_ge (tgt := 32) hx hb zd_LassoFinderModel_unpack_7 (by decide) (fun hc30 => ?_) (fun hc30 => ?_)
  · have hok := hok.1 hc30
    refine lv_iconst (v := 0) hx hb zd_LassoFinderModel_unpack_32 (by decide) ?_
    refine lv_istore_n hx hb zd_LassoFinderModel_unpack_33 rfl hl (by decide) rfl (fun ls hl => ?_)
    have hl : lv_has ls 5 [(3, .int 0), (0, .ref (ad 0)), (1, .long x1)] := hl
    obtain ⟨n9, hok⟩ := hok
    exact wL_LassoFinderModel_unpack_34 G K ad a0 Post C n9 x1 0 I J B D ls H locs hok (lv_sub hl [1, 2, 0] rfl) hw
  · have hok := hok.2 hc30
    refine lv_aload_n hx hb zd_LassoFinderModel_unpack_10 rfl (lv_at hl 0 rfl) ?_
    refine z_get (v := .ref (ad 39)) hx hb hts hown hK hw zZ12 0 wM_g0 55 (by decide) zm_273 rfl zd_LassoFinderModel_unpack_11 ?_
    refine lv_iload_n hx hb zd_LassoFinderModel_unpack_14 rfl (lv_at hl 2 rfl) ?_
    refine lv_lload_n hx hb zd_LassoFinderModel_unpack_15 rfl (lv_at hl 1 rfl) ?_
    refine lv_iconst (v := 3) hx hb zd_LassoFinderModel_unpack_16 (by decide) ?_
    refine lv_iload_n hx hb zd_LassoFinderModel_unpack_17 rfl (lv_at hl 2 rfl) ?_
    refine lv_imul hx hb zd_LassoFinderModel_unpack_18 ?_
    refine lv_topi (fun z31 ez31 => ?_)
    have hok := hok z31 ez31
    refine lv_lshr hx hb zd_LassoFinderModel_unpack_19 rfl ?_
    refine lv_topl (fun z32 ez32 => ?_)
    have hok := hok z32 ez32
    refine lv_ldc2 (v := 7) hx hb hown (hts _ zm_321) zd_LassoFinderModel_unpack_20 ?_
    refine lv_land hx hb zd_LassoFinderModel_unpack_23 ?_
    refine lv_topl (fun z33 ez33 => ?_)
    have hok := hok z33 ez33
    refine lv_l2i hx hb zd_LassoFinderModel_unpack_24 rfl ?_
    refine lv_topi (fun z34 ez34 => ?_)
    have hok := hok z34 ez34
    refine va_iast (f := (B 36)) hx hb hK hw.1 hw.2.1 hw.2.2 39 0 wM_a39 rfl hok.1 zd_LassoFinderModel_unpack_25 (fun H locs w91 w92 w93 => ?_)
    have hok := hok.2
    have hw := wM_t39 ⟨w91, w92, w93⟩
    obtain ⟨z35, ez35⟩ : ∃ z : Int32, z = (x3 + 1) := ⟨_, rfl⟩
    have hok := hok z35 ez35
    refine lv_iinc (v := z35) hx hb zd_LassoFinderModel_unpack_26 hl (k := 2) rfl ez35.symm (by decide) rfl (fun ls hl => ?_)
    have hl : lv_has ls 5 [(3, .int z35), (0, .ref (ad 0)), (1, .long x1)] := hl
    refine lv_goto (tgt := 2) hx hb zd_LassoFinderModel_unpack_29 (by decide) ?_
    exact kh2 x1 z35 I J (va_up B 36 (upd (B 36) x3.toNatClampNeg z34)) D ls H locs hok (lv_sub hl [1, 2, 0] rfl) hw
theorem wL_LassoFinderModel_unpack_2 {p : Program} {l : Launch} {e : Env} {s : State} {m : MethodId} {below : List Frame} {meth : Method} {c : Code} {A : Nat → Prop} (G : va_G) (K : Nat → ClassId) (ad : Nat → Nat) (a0 : Int64) (Post : (Nat → Int32) → (Nat → Int64) → (Nat → Nat → Int32) → (Nat → Nat → Int64) → Prop) (C : zCx p s m ([.ref (ad 0), .long a0] : List Value).toArray meth c A G K prog_14_method_29_code none 5 "LassoFinderModel") : ∀ (n : Nat) (x1 : Int64) (x3 : Int32) (I : Nat → Int32) (J : Nat → Int64) (B : Nat → Nat → Int32) (D : Nat → Nat → Int64) (ls : Array Slot) (H : Heap) (locs : List Loc), wl_LassoFinderModel_unpack_2 a0 Post n x1 x3 I J B D → lv_has ls 5 [(0, .ref (ad 0)), (1, .long x1), (3, .int x3)] → zW G A s.heap (wM ad K I J B D) H locs → W p l e { frames := 0, cells := 0, slots := 0, locals := 0 } s m ([.ref (ad 0), .long a0] : List Value).toArray below meth c H locs 0 0 (MQ below (va_Qv (fun u : zS => Post u.1 u.2.1 u.2.2.1 u.2.2.2) (fun u t => zPost G K A (wM ad K u.1 u.2.1 u.2.2.1 u.2.2.2) t) A) ([.ref (ad 0), .long a0] : List Value).toArray s 0 0 A) (F0 m 2 ls []) := by
  intro n
  induction n with
  | zero => intro x1 x3 I J B D ls H locs hok; exact hok.elim
  | succ n ih => exact wB_LassoFinderModel_unpack_2 G K ad a0 Post C (wl_LassoFinderModel_unpack_2 a0 Post n) ih
set_option maxHeartbeats 8000000 in
set_option maxRecDepth 100000 in
theorem w_LassoFinderModel_unpack (l : Launch) (G : va_G) (K : Nat → ClassId) (ad : Nat → Nat) (I : Nat → Int32) (J : Nat → Int64) (B : Nat → Nat → Int32) (D : Nat → Nat → Int64) (a0 : Int64) (Post : (Nat → Int32) → (Nat → Int64) → (Nat → Nat → Int32) → (Nat → Nat → Int64) → Prop) (sz : Nat) (hok : wp_LassoFinderModel_unpack I J B D a0 Post) : Met l zy_LassoFinderModel_unpack (Cond.code zy_LassoFinderModel_unpack prog_14_method_29_code 5 none :: zTB) { frames := 0, cells := 0, slots := 0, locals := 0 } (va_Pc [.ref (ad 0), .long a0] (zPre G K (wM ad K I J B D) sz)) (va_Qv (fun u : zS => Post u.1 u.2.1 u.2.2.1 u.2.2.2) (fun u t => zPost G K (va_A (wM ad K I J B D) sz) (wM ad K u.1 u.2.1 u.2.2.1 u.2.2.2) t) (va_A (wM ad K I J B D) sz)) 0 0 (va_A (wM ad K I J B D) sz) := by
  refine zMet (y := zy_LassoFinderModel_unpack) (av := [.ref (ad 0), .long a0]) (maxL := 5) (cc := prog_14_method_29_code) (ret := none) (W0 := (wM ad K I J B D)) (sz := sz) (G := G) (K := K) (wt := zTB) (mc := 0) (ms := 0) (Qf := fun A => va_Qv (fun u : zS => Post u.1 u.2.1 u.2.2.1 u.2.2.2) (fun u t => zPost G K A (wM ad K u.1 u.2.1 u.2.2.1 u.2.2.2) t) A) (by decide) (Nat.le_of_ble_eq_true rfl) ?_
  intro p e s m below meth c ls A hx hb hr hml hts hown hlocks hin hA hK H locs hw hsz hl
  clear hsz
  have hown : s.vm.findClass "LassoFinderModel" = some m.cls := hown
  have C : zCx p s m ([.ref (ad 0), .long a0] : List Value).toArray meth c A G K prog_14_method_29_code none 5 "LassoFinderModel" := ⟨hx, hb, hr, hml, hts, hown, hlocks, hA, hK⟩
  have hl : lv_has ls 5 [(0, .ref (ad 0)), (1, .long a0)] := hl
  have hw : zW G A s.heap (wM ad K I J B D) H locs := hw
  unfold wp_LassoFinderModel_unpack at hok
  refine lv_iconst (v := 0) hx hb zd_LassoFinderModel_unpack_0 (by decide) ?_
  refine lv_istore_n hx hb zd_LassoFinderModel_unpack_1 rfl hl (by decide) rfl (fun ls hl => ?_)
  have hl : lv_has ls 5 [(3, .int 0), (0, .ref (ad 0)), (1, .long a0)] := hl
  obtain ⟨n9, hok⟩ := hok
  exact wL_LassoFinderModel_unpack_2 G K ad a0 Post C n9 a0 0 I J B D ls H locs hok (lv_sub hl [1, 2, 0] rfl) hw
