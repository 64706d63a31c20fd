abbrev zy_LassoFinderModel_expand : MethodName := ⟨"LassoFinderModel", "expand", "(I)V"⟩
abbrev zy_LassoFinderModel_doable : MethodName := ⟨"LassoFinderModel", "doable", "()J"⟩
theorem zm_266 : Cond.fieldLink "LassoFinderModel" 109 "LassoFinderModel" "first" "[I" ∈ zTB := z_in (zt_6 _ (List.mem_of_getElem? (i := 142) rfl)) rfl
theorem zm_316 : Cond.methodLink "LassoFinderModel" 348 ⟨"LassoFinderModel", "doable", "()J"⟩ ∈ zTB := z_in (zt_7 _ (List.mem_of_getElem? (i := 228) rfl)) rfl
theorem zm_317 : Cond.methodLink "LassoFinderModel" 351 ⟨"LassoFinderModel", "step", "(III)V"⟩ ∈ zTB := z_in (zt_8 _ (List.mem_of_getElem? (i := 8) rfl)) rfl
theorem zm_327 : Cond.methodLink "LassoFinderModel" 321 ⟨"LassoFinderModel", "can", "(I)Z"⟩ ∈ zTB := z_in (zt_7 _ (List.mem_of_getElem? (i := 236) rfl)) rfl
theorem zm_404 : Cond.code ⟨"LassoFinderModel", "step", "(III)V"⟩ prog_14_method_36_code 7 none ∈ zTB := z_in (zt_8 _ (List.mem_of_getElem? (i := 11) rfl)) rfl
theorem zm_405 : Cond.instanceMethod ⟨"LassoFinderModel", "step", "(III)V"⟩ ∈ zTB := z_in (zt_8 _ (List.mem_of_getElem? (i := 10) rfl)) rfl
theorem zm_406 : Cond.code ⟨"LassoFinderModel", "can", "(I)Z"⟩ prog_14_method_32_code 4 (some .boolean) ∈ zTB := z_in (zt_7 _ (List.mem_of_getElem? (i := 239) rfl)) rfl
theorem zm_407 : Cond.instanceMethod ⟨"LassoFinderModel", "can", "(I)Z"⟩ ∈ zTB := z_in (zt_7 _ (List.mem_of_getElem? (i := 238) rfl)) rfl
theorem zm_408 : Cond.code ⟨"LassoFinderModel", "doable", "()J"⟩ prog_14_method_33_code 10 (some .long) ∈ zTB := z_in (zt_7 _ (List.mem_of_getElem? (i := 231) rfl)) rfl
theorem zm_409 : Cond.instanceMethod ⟨"LassoFinderModel", "doable", "()J"⟩ ∈ zTB := z_in (zt_7 _ (List.mem_of_getElem? (i := 230) rfl)) rfl
theorem zf_LassoFinderModel_step : zFaceV zy_LassoFinderModel_step prog_14_method_36_code 7 none 3 := ⟨zm_405, (z_in (zp_7 _ (List.mem_of_getElem? (i := 6) rfl)) rfl), zm_25, zm_404, by decide +kernel, by decide +kernel, by decide +kernel⟩
theorem zf_LassoFinderModel_can : zFaceV zy_LassoFinderModel_can prog_14_method_32_code 4 (some .boolean) 1 := ⟨zm_407, (z_in (zp_7 _ (List.mem_of_getElem? (i := 3) rfl)) rfl), zm_25, zm_406, by decide +kernel, by decide +kernel, by decide +kernel⟩
theorem zf_LassoFinderModel_doable : zFaceV zy_LassoFinderModel_doable prog_14_method_33_code 10 (some .long) 0 := ⟨zm_409, (z_in (zp_7 _ (List.mem_of_getElem? (i := 1) rfl)) rfl), zm_25, zm_408, by decide +kernel, by decide +kernel, by decide +kernel⟩
theorem zd_LassoFinderModel_doable_0 : decode prog_14_method_33_code 0 = .ok (.lconst 0, 1) := by decide +kernel
theorem zd_LassoFinderModel_doable_1 : decode prog_14_method_33_code 1 = .ok (.lstore_n 1, 1) := by decide +kernel
theorem zd_LassoFinderModel_doable_2 : decode prog_14_method_33_code 2 = .ok (.iconst 0, 1) := by decide +kernel
theorem zd_LassoFinderModel_doable_3 : decode prog_14_method_33_code 3 = .ok (.istore_n 3, 1) := by decide +kernel
theorem zd_LassoFinderModel_doable_4 : decode prog_14_method_33_code 4 = .ok (.iload_n 3, 1) := by decide +kernel
theorem zd_LassoFinderModel_doable_5 : decode prog_14_method_33_code 5 = .ok (.aload_n 0, 1) := by decide +kernel
theorem zd_LassoFinderModel_doable_6 : decode prog_14_method_33_code 6 = .ok (.getfield 254, 3) := by decide +kernel
theorem zd_LassoFinderModel_doable_9 : decode prog_14_method_33_code 9 = .ok (.if_icmp .ge 118, 3) := by decide +kernel
theorem zd_LassoFinderModel_doable_12 : decode prog_14_method_33_code 12 = .ok (.lconst 0, 1) := by decide +kernel
theorem zd_LassoFinderModel_doable_13 : decode prog_14_method_33_code 13 = .ok (.lstore 4, 2) := by decide +kernel
theorem zd_LassoFinderModel_doable_15 : decode prog_14_method_33_code 15 = .ok (.lconst 0, 1) := by decide +kernel
theorem zd_LassoFinderModel_doable_16 : decode prog_14_method_33_code 16 = .ok (.lstore 6, 2) := by decide +kernel
theorem zd_LassoFinderModel_doable_18 : decode prog_14_method_33_code 18 = .ok (.iconst 0, 1) := by decide +kernel
theorem zd_LassoFinderModel_doable_19 : decode prog_14_method_33_code 19 = .ok (.istore 8, 2) := by decide +kernel
theorem zd_LassoFinderModel_doable_21 : decode prog_14_method_33_code 21 = .ok (.iload 8, 2) := by decide +kernel
theorem zd_LassoFinderModel_doable_23 : decode prog_14_method_33_code 23 = .ok (.aload_n 0, 1) := by decide +kernel
theorem zd_LassoFinderModel_doable_24 : decode prog_14_method_33_code 24 = .ok (.getfield 257, 3) := by decide +kernel
theorem zd_LassoFinderModel_doable_27 : decode prog_14_method_33_code 27 = .ok (.if_icmp .ge 77, 3) := by decide +kernel
theorem zd_LassoFinderModel_doable_30 : decode prog_14_method_33_code 30 = .ok (.aload_n 0, 1) := by decide +kernel
theorem zd_LassoFinderModel_doable_31 : decode prog_14_method_33_code 31 = .ok (.iload_n 3, 1) := by decide +kernel
theorem zd_LassoFinderModel_doable_32 : decode prog_14_method_33_code 32 = .ok (.invokevirtual 310, 3) := by decide +kernel
theorem zd_LassoFinderModel_doable_35 : decode prog_14_method_33_code 35 = .ok (.iload 8, 2) := by decide +kernel
theorem zd_LassoFinderModel_doable_37 : decode prog_14_method_33_code 37 = .ok (.lshr, 1) := by decide +kernel
theorem zd_LassoFinderModel_doable_38 : decode prog_14_method_33_code 38 = .ok (.lconst 1, 1) := by decide +kernel
theorem zd_LassoFinderModel_doable_39 : decode prog_14_method_33_code 39 = .ok (.land, 1) := by decide +kernel
theorem zd_LassoFinderModel_doable_40 : decode prog_14_method_33_code 40 = .ok (.lconst 0, 1) := by decide +kernel
theorem zd_LassoFinderModel_doable_41 : decode prog_14_method_33_code 41 = .ok (.lcmp, 1) := by decide +kernel
theorem zd_LassoFinderModel_doable_42 : decode prog_14_method_33_code 42 = .ok (.ifCond .ne 6, 3) := by decide +kernel
theorem zd_LassoFinderModel_doable_45 : decode prog_14_method_33_code 45 = .ok (.goto 53, 3) := by decide +kernel
theorem zd_LassoFinderModel_doable_48 : decode prog_14_method_33_code 48 = .ok (.aload_n 0, 1) := by decide +kernel
theorem zd_LassoFinderModel_doable_49 : decode prog_14_method_33_code 49 = .ok (.getfield 69, 3) := by decide +kernel
theorem zd_LassoFinderModel_doable_52 : decode prog_14_method_33_code 52 = .ok (.iload 8, 2) := by decide +kernel
theorem zd_LassoFinderModel_doable_54 : decode prog_14_method_33_code 54 = .ok (.iaload, 1) := by decide +kernel
theorem zd_LassoFinderModel_doable_55 : decode prog_14_method_33_code 55 = .ok (.istore 9, 2) := by decide +kernel
theorem zd_LassoFinderModel_doable_57 : decode prog_14_method_33_code 57 = .ok (.aload_n 0, 1) := by decide +kernel
theorem zd_LassoFinderModel_doable_58 : decode prog_14_method_33_code 58 = .ok (.getfield 29, 3) := by decide +kernel
theorem zd_LassoFinderModel_doable_61 : decode prog_14_method_33_code 61 = .ok (.iload 9, 2) := by decide +kernel
theorem zd_LassoFinderModel_doable_63 : decode prog_14_method_33_code 63 = .ok (.iaload, 1) := by decide +kernel
theorem zd_LassoFinderModel_doable_64 : decode prog_14_method_33_code 64 = .ok (.iconst 5, 1) := by decide +kernel
theorem zd_LassoFinderModel_doable_65 : decode prog_14_method_33_code 65 = .ok (.if_icmp .ne 15, 3) := by decide +kernel
theorem zd_LassoFinderModel_doable_68 : decode prog_14_method_33_code 68 = .ok (.lload 6, 2) := by decide +kernel
theorem zd_LassoFinderModel_doable_70 : decode prog_14_method_33_code 70 = .ok (.lconst 1, 1) := by decide +kernel
theorem zd_LassoFinderModel_doable_71 : decode prog_14_method_33_code 71 = .ok (.iload 8, 2) := by decide +kernel
theorem zd_LassoFinderModel_doable_73 : decode prog_14_method_33_code 73 = .ok (.lshl, 1) := by decide +kernel
theorem zd_LassoFinderModel_doable_74 : decode prog_14_method_33_code 74 = .ok (.lor, 1) := by decide +kernel
theorem zd_LassoFinderModel_doable_75 : decode prog_14_method_33_code 75 = .ok (.lstore 6, 2) := by decide +kernel
theorem zd_LassoFinderModel_doable_77 : decode prog_14_method_33_code 77 = .ok (.goto 21, 3) := by decide +kernel
theorem zd_LassoFinderModel_doable_80 : decode prog_14_method_33_code 80 = .ok (.aload_n 0, 1) := by decide +kernel
theorem zd_LassoFinderModel_doable_81 : decode prog_14_method_33_code 81 = .ok (.iload 9, 2) := by decide +kernel
theorem zd_LassoFinderModel_doable_83 : decode prog_14_method_33_code 83 = .ok (.invokevirtual 321, 3) := by decide +kernel
theorem zd_LassoFinderModel_doable_86 : decode prog_14_method_33_code 86 = .ok (.ifCond .eq 12, 3) := by decide +kernel
theorem zd_LassoFinderModel_doable_89 : decode prog_14_method_33_code 89 = .ok (.lload 4, 2) := by decide +kernel
theorem zd_LassoFinderModel_doable_91 : decode prog_14_method_33_code 91 = .ok (.lconst 1, 1) := by decide +kernel
theorem zd_LassoFinderModel_doable_92 : decode prog_14_method_33_code 92 = .ok (.iload 8, 2) := by decide +kernel
theorem zd_LassoFinderModel_doable_94 : decode prog_14_method_33_code 94 = .ok (.lshl, 1) := by decide +kernel
theorem zd_LassoFinderModel_doable_95 : decode prog_14_method_33_code 95 = .ok (.lor, 1) := by decide +kernel
theorem zd_LassoFinderModel_doable_96 : decode prog_14_method_33_code 96 = .ok (.lstore 4, 2) := by decide +kernel
theorem zd_LassoFinderModel_doable_98 : decode prog_14_method_33_code 98 = .ok (.iinc 8 1, 3) := by decide +kernel
theorem zd_LassoFinderModel_doable_101 : decode prog_14_method_33_code 101 = .ok (.goto (-80), 3) := by decide +kernel
theorem zd_LassoFinderModel_doable_104 : decode prog_14_method_33_code 104 = .ok (.lload_n 1, 1) := by decide +kernel
theorem zd_LassoFinderModel_doable_105 : decode prog_14_method_33_code 105 = .ok (.lload 4, 2) := by decide +kernel
theorem zd_LassoFinderModel_doable_107 : decode prog_14_method_33_code 107 = .ok (.lconst 0, 1) := by decide +kernel
theorem zd_LassoFinderModel_doable_108 : decode prog_14_method_33_code 108 = .ok (.lcmp, 1) := by decide +kernel
theorem zd_LassoFinderModel_doable_109 : decode prog_14_method_33_code 109 = .ok (.ifCond .ne 8, 3) := by decide +kernel
theorem zd_LassoFinderModel_doable_112 : decode prog_14_method_33_code 112 = .ok (.lload 6, 2) := by decide +kernel
theorem zd_LassoFinderModel_doable_114 : decode prog_14_method_33_code 114 = .ok (.goto 5, 3) := by decide +kernel
theorem zd_LassoFinderModel_doable_117 : decode prog_14_method_33_code 117 = .ok (.lload 4, 2) := by decide +kernel
theorem zd_LassoFinderModel_doable_119 : decode prog_14_method_33_code 119 = .ok (.lor, 1) := by decide +kernel
theorem zd_LassoFinderModel_doable_120 : decode prog_14_method_33_code 120 = .ok (.lstore_n 1, 1) := by decide +kernel
theorem zd_LassoFinderModel_doable_121 : decode prog_14_method_33_code 121 = .ok (.iinc 3 1, 3) := by decide +kernel
theorem zd_LassoFinderModel_doable_124 : decode prog_14_method_33_code 124 = .ok (.goto (-120), 3) := by decide +kernel
theorem zd_LassoFinderModel_doable_127 : decode prog_14_method_33_code 127 = .ok (.aload_n 0, 1) := by decide +kernel
theorem zd_LassoFinderModel_doable_128 : decode prog_14_method_33_code 128 = .ok (.getfield 301, 3) := by decide +kernel
theorem zd_LassoFinderModel_doable_131 : decode prog_14_method_33_code 131 = .ok (.ifCond .lt 31, 3) := by decide +kernel
theorem zd_LassoFinderModel_doable_134 : decode prog_14_method_33_code 134 = .ok (.lload_n 1, 1) := by decide +kernel
theorem zd_LassoFinderModel_doable_135 : decode prog_14_method_33_code 135 = .ok (.aload_n 0, 1) := by decide +kernel
theorem zd_LassoFinderModel_doable_136 : decode prog_14_method_33_code 136 = .ok (.aload_n 0, 1) := by decide +kernel
theorem zd_LassoFinderModel_doable_137 : decode prog_14_method_33_code 137 = .ok (.getfield 301, 3) := by decide +kernel
theorem zd_LassoFinderModel_doable_140 : decode prog_14_method_33_code 140 = .ok (.invokevirtual 310, 3) := by decide +kernel
theorem zd_LassoFinderModel_doable_143 : decode prog_14_method_33_code 143 = .ok (.land, 1) := by decide +kernel
theorem zd_LassoFinderModel_doable_144 : decode prog_14_method_33_code 144 = .ok (.lconst 0, 1) := by decide +kernel
theorem zd_LassoFinderModel_doable_145 : decode prog_14_method_33_code 145 = .ok (.lcmp, 1) := by decide +kernel
theorem zd_LassoFinderModel_doable_146 : decode prog_14_method_33_code 146 = .ok (.ifCond .eq 16, 3) := by decide +kernel
theorem zd_LassoFinderModel_doable_149 : decode prog_14_method_33_code 149 = .ok (.lload_n 1, 1) := by decide +kernel
theorem zd_LassoFinderModel_doable_150 : decode prog_14_method_33_code 150 = .ok (.aload_n 0, 1) := by decide +kernel
theorem zd_LassoFinderModel_doable_151 : decode prog_14_method_33_code 151 = .ok (.aload_n 0, 1) := by decide +kernel
theorem zd_LassoFinderModel_doable_152 : decode prog_14_method_33_code 152 = .ok (.getfield 301, 3) := by decide +kernel
theorem zd_LassoFinderModel_doable_155 : decode prog_14_method_33_code 155 = .ok (.invokevirtual 310, 3) := by decide +kernel
theorem zd_LassoFinderModel_doable_158 : decode prog_14_method_33_code 158 = .ok (.land, 1) := by decide +kernel
theorem zd_LassoFinderModel_doable_159 : decode prog_14_method_33_code 159 = .ok (.goto 4, 3) := by decide +kernel
theorem zd_LassoFinderModel_doable_162 : decode prog_14_method_33_code 162 = .ok (.lload_n 1, 1) := by decide +kernel
theorem zd_LassoFinderModel_doable_163 : decode prog_14_method_33_code 163 = .ok (.lreturn, 1) := by decide +kernel
theorem zd_LassoFinderModel_expand_0 : decode prog_14_method_37_code 0 = .ok (.aload_n 0, 1) := by decide +kernel
theorem zd_LassoFinderModel_expand_1 : decode prog_14_method_37_code 1 = .ok (.getfield 109, 3) := by decide +kernel
theorem zd_LassoFinderModel_expand_4 : decode prog_14_method_37_code 4 = .ok (.iload_n 1, 1) := by decide +kernel
theorem zd_LassoFinderModel_expand_5 : decode prog_14_method_37_code 5 = .ok (.aload_n 0, 1) := by decide +kernel
theorem zd_LassoFinderModel_expand_6 : decode prog_14_method_37_code 6 = .ok (.getfield 327, 3) := by decide +kernel
theorem zd_LassoFinderModel_expand_9 : decode prog_14_method_37_code 9 = .ok (.iastore, 1) := by decide +kernel
theorem zd_LassoFinderModel_expand_10 : decode prog_14_method_37_code 10 = .ok (.aload_n 0, 1) := by decide +kernel
theorem zd_LassoFinderModel_expand_11 : decode prog_14_method_37_code 11 = .ok (.aload_n 0, 1) := by decide +kernel
theorem zd_LassoFinderModel_expand_12 : decode prog_14_method_37_code 12 = .ok (.getfield 106, 3) := by decide +kernel
theorem zd_LassoFinderModel_expand_15 : decode prog_14_method_37_code 15 = .ok (.iload_n 1, 1) := by decide +kernel
theorem zd_LassoFinderModel_expand_16 : decode prog_14_method_37_code 16 = .ok (.laload, 1) := by decide +kernel
theorem zd_LassoFinderModel_expand_17 : decode prog_14_method_37_code 17 = .ok (.invokevirtual 334, 3) := by decide +kernel
theorem zd_LassoFinderModel_expand_20 : decode prog_14_method_37_code 20 = .ok (.aload_n 0, 1) := by decide +kernel
theorem zd_LassoFinderModel_expand_21 : decode prog_14_method_37_code 21 = .ok (.invokevirtual 348, 3) := by decide +kernel
theorem zd_LassoFinderModel_expand_24 : decode prog_14_method_37_code 24 = .ok (.lstore_n 2, 1) := by decide +kernel
theorem zd_LassoFinderModel_expand_25 : decode prog_14_method_37_code 25 = .ok (.iconst 0, 1) := by decide +kernel
theorem zd_LassoFinderModel_expand_26 : decode prog_14_method_37_code 26 = .ok (.istore 4, 2) := by decide +kernel
theorem zd_LassoFinderModel_expand_28 : decode prog_14_method_37_code 28 = .ok (.iload 4, 2) := by decide +kernel
theorem zd_LassoFinderModel_expand_30 : decode prog_14_method_37_code 30 = .ok (.aload_n 0, 1) := by decide +kernel
theorem zd_LassoFinderModel_expand_31 : decode prog_14_method_37_code 31 = .ok (.getfield 257, 3) := by decide +kernel
theorem zd_LassoFinderModel_expand_34 : decode prog_14_method_37_code 34 = .ok (.if_icmp .ge 145, 3) := by decide +kernel
theorem zd_LassoFinderModel_expand_37 : decode prog_14_method_37_code 37 = .ok (.aload_n 0, 1) := by decide +kernel
theorem zd_LassoFinderModel_expand_38 : decode prog_14_method_37_code 38 = .ok (.getfield 330, 3) := by decide +kernel
theorem zd_LassoFinderModel_expand_41 : decode prog_14_method_37_code 41 = .ok (.ifCond .ne 138, 3) := by decide +kernel
theorem zd_LassoFinderModel_expand_44 : decode prog_14_method_37_code 44 = .ok (.lload_n 2, 1) := by decide +kernel
theorem zd_LassoFinderModel_expand_45 : decode prog_14_method_37_code 45 = .ok (.iload 4, 2) := by decide +kernel
theorem zd_LassoFinderModel_expand_47 : decode prog_14_method_37_code 47 = .ok (.lshr, 1) := by decide +kernel
theorem zd_LassoFinderModel_expand_48 : decode prog_14_method_37_code 48 = .ok (.lconst 1, 1) := by decide +kernel
theorem zd_LassoFinderModel_expand_49 : decode prog_14_method_37_code 49 = .ok (.land, 1) := by decide +kernel
theorem zd_LassoFinderModel_expand_50 : decode prog_14_method_37_code 50 = .ok (.lconst 0, 1) := by decide +kernel
theorem zd_LassoFinderModel_expand_51 : decode prog_14_method_37_code 51 = .ok (.lcmp, 1) := by decide +kernel
theorem zd_LassoFinderModel_expand_52 : decode prog_14_method_37_code 52 = .ok (.ifCond .ne 6, 3) := by decide +kernel
theorem zd_LassoFinderModel_expand_55 : decode prog_14_method_37_code 55 = .ok (.goto 118, 3) := by decide +kernel
theorem zd_LassoFinderModel_expand_58 : decode prog_14_method_37_code 58 = .ok (.aload_n 0, 1) := by decide +kernel
theorem zd_LassoFinderModel_expand_59 : decode prog_14_method_37_code 59 = .ok (.getfield 69, 3) := by decide +kernel
theorem zd_LassoFinderModel_expand_62 : decode prog_14_method_37_code 62 = .ok (.iload 4, 2) := by decide +kernel
theorem zd_LassoFinderModel_expand_64 : decode prog_14_method_37_code 64 = .ok (.iaload, 1) := by decide +kernel
theorem zd_LassoFinderModel_expand_65 : decode prog_14_method_37_code 65 = .ok (.istore 5, 2) := by decide +kernel
theorem zd_LassoFinderModel_expand_67 : decode prog_14_method_37_code 67 = .ok (.aload_n 0, 1) := by decide +kernel
theorem zd_LassoFinderModel_expand_68 : decode prog_14_method_37_code 68 = .ok (.getfield 29, 3) := by decide +kernel
theorem zd_LassoFinderModel_expand_71 : decode prog_14_method_37_code 71 = .ok (.iload 5, 2) := by decide +kernel
theorem zd_LassoFinderModel_expand_73 : decode prog_14_method_37_code 73 = .ok (.iaload, 1) := by decide +kernel
theorem zd_LassoFinderModel_expand_74 : decode prog_14_method_37_code 74 = .ok (.iconst 2, 1) := by decide +kernel
theorem zd_LassoFinderModel_expand_75 : decode prog_14_method_37_code 75 = .ok (.if_icmp .ne 22, 3) := by decide +kernel
theorem zd_LassoFinderModel_expand_78 : decode prog_14_method_37_code 78 = .ok (.aload_n 0, 1) := by decide +kernel
theorem zd_LassoFinderModel_expand_79 : decode prog_14_method_37_code 79 = .ok (.getfield 26, 3) := by decide +kernel
theorem zd_LassoFinderModel_expand_82 : decode prog_14_method_37_code 82 = .ok (.aload_n 0, 1) := by decide +kernel
theorem zd_LassoFinderModel_expand_83 : decode prog_14_method_37_code 83 = .ok (.getfield 51, 3) := by decide +kernel
theorem zd_LassoFinderModel_expand_86 : decode prog_14_method_37_code 86 = .ok (.iload 5, 2) := by decide +kernel
theorem zd_LassoFinderModel_expand_88 : decode prog_14_method_37_code 88 = .ok (.iaload, 1) := by decide +kernel
theorem zd_LassoFinderModel_expand_89 : decode prog_14_method_37_code 89 = .ok (.iaload, 1) := by decide +kernel
theorem zd_LassoFinderModel_expand_90 : decode prog_14_method_37_code 90 = .ok (.ifCond .ne 7, 3) := by decide +kernel
theorem zd_LassoFinderModel_expand_93 : decode prog_14_method_37_code 93 = .ok (.iconst 1, 1) := by decide +kernel
theorem zd_LassoFinderModel_expand_94 : decode prog_14_method_37_code 94 = .ok (.goto 4, 3) := by decide +kernel
theorem zd_LassoFinderModel_expand_97 : decode prog_14_method_37_code 97 = .ok (.iconst 0, 1) := by decide +kernel
theorem zd_LassoFinderModel_expand_98 : decode prog_14_method_37_code 98 = .ok (.istore 6, 2) := by decide +kernel
theorem zd_LassoFinderModel_expand_100 : decode prog_14_method_37_code 100 = .ok (.iload 6, 2) := by decide +kernel
theorem zd_LassoFinderModel_expand_102 : decode prog_14_method_37_code 102 = .ok (.ifCond .ne 11, 3) := by decide +kernel
theorem zd_LassoFinderModel_expand_105 : decode prog_14_method_37_code 105 = .ok (.aload_n 0, 1) := by decide +kernel
theorem zd_LassoFinderModel_expand_106 : decode prog_14_method_37_code 106 = .ok (.iload_n 1, 1) := by decide +kernel
theorem zd_LassoFinderModel_expand_107 : decode prog_14_method_37_code 107 = .ok (.iload 4, 2) := by decide +kernel
theorem zd_LassoFinderModel_expand_109 : decode prog_14_method_37_code 109 = .ok (.iconst (-1), 1) := by decide +kernel
theorem zd_LassoFinderModel_expand_110 : decode prog_14_method_37_code 110 = .ok (.invokevirtual 351, 3) := by decide +kernel
theorem zd_LassoFinderModel_expand_113 : decode prog_14_method_37_code 113 = .ok (.iconst 0, 1) := by decide +kernel
theorem zd_LassoFinderModel_expand_114 : decode prog_14_method_37_code 114 = .ok (.istore 7, 2) := by decide +kernel
theorem zd_LassoFinderModel_expand_116 : decode prog_14_method_37_code 116 = .ok (.iload 7, 2) := by decide +kernel
theorem zd_LassoFinderModel_expand_118 : decode prog_14_method_37_code 118 = .ok (.aload_n 0, 1) := by decide +kernel
theorem zd_LassoFinderModel_expand_119 : decode prog_14_method_37_code 119 = .ok (.getfield 257, 3) := by decide +kernel
theorem zd_LassoFinderModel_expand_122 : decode prog_14_method_37_code 122 = .ok (.if_icmp .ge 51, 3) := by decide +kernel
theorem zd_LassoFinderModel_expand_125 : decode prog_14_method_37_code 125 = .ok (.iload 6, 2) := by decide +kernel
theorem zd_LassoFinderModel_expand_127 : decode prog_14_method_37_code 127 = .ok (.ifCond .eq 46, 3) := by decide +kernel
theorem zd_LassoFinderModel_expand_130 : decode prog_14_method_37_code 130 = .ok (.aload_n 0, 1) := by decide +kernel
theorem zd_LassoFinderModel_expand_131 : decode prog_14_method_37_code 131 = .ok (.getfield 330, 3) := by decide +kernel
theorem zd_LassoFinderModel_expand_134 : decode prog_14_method_37_code 134 = .ok (.ifCond .ne 39, 3) := by decide +kernel
theorem zd_LassoFinderModel_expand_137 : decode prog_14_method_37_code 137 = .ok (.aload_n 0, 1) := by decide +kernel
theorem zd_LassoFinderModel_expand_138 : decode prog_14_method_37_code 138 = .ok (.aload_n 0, 1) := by decide +kernel
theorem zd_LassoFinderModel_expand_139 : decode prog_14_method_37_code 139 = .ok (.getfield 106, 3) := by decide +kernel
theorem zd_LassoFinderModel_expand_142 : decode prog_14_method_37_code 142 = .ok (.iload_n 1, 1) := by decide +kernel
theorem zd_LassoFinderModel_expand_143 : decode prog_14_method_37_code 143 = .ok (.laload, 1) := by decide +kernel
theorem zd_LassoFinderModel_expand_144 : decode prog_14_method_37_code 144 = .ok (.invokevirtual 334, 3) := by decide +kernel
theorem zd_LassoFinderModel_expand_147 : decode prog_14_method_37_code 147 = .ok (.aload_n 0, 1) := by decide +kernel
theorem zd_LassoFinderModel_expand_148 : decode prog_14_method_37_code 148 = .ok (.iload 5, 2) := by decide +kernel
theorem zd_LassoFinderModel_expand_150 : decode prog_14_method_37_code 150 = .ok (.iload 7, 2) := by decide +kernel
theorem zd_LassoFinderModel_expand_152 : decode prog_14_method_37_code 152 = .ok (.invokevirtual 317, 3) := by decide +kernel
theorem zd_LassoFinderModel_expand_155 : decode prog_14_method_37_code 155 = .ok (.ifCond .eq 12, 3) := by decide +kernel
theorem zd_LassoFinderModel_expand_158 : decode prog_14_method_37_code 158 = .ok (.aload_n 0, 1) := by decide +kernel
theorem zd_LassoFinderModel_expand_159 : decode prog_14_method_37_code 159 = .ok (.iload_n 1, 1) := by decide +kernel
theorem zd_LassoFinderModel_expand_160 : decode prog_14_method_37_code 160 = .ok (.iload 4, 2) := by decide +kernel
theorem zd_LassoFinderModel_expand_162 : decode prog_14_method_37_code 162 = .ok (.iload 7, 2) := by decide +kernel
theorem zd_LassoFinderModel_expand_164 : decode prog_14_method_37_code 164 = .ok (.invokevirtual 351, 3) := by decide +kernel
theorem zd_LassoFinderModel_expand_167 : decode prog_14_method_37_code 167 = .ok (.iinc 7 1, 3) := by decide +kernel
theorem zd_LassoFinderModel_expand_170 : decode prog_14_method_37_code 170 = .ok (.goto (-54), 3) := by decide +kernel
theorem zd_LassoFinderModel_expand_173 : decode prog_14_method_37_code 173 = .ok (.iinc 4 1, 3) := by decide +kernel
theorem zd_LassoFinderModel_expand_176 : decode prog_14_method_37_code 176 = .ok (.goto (-148), 3) := by decide +kernel
theorem zd_LassoFinderModel_expand_179 : decode prog_14_method_37_code 179 = .ok (.lload_n 2, 1) := by decide +kernel
theorem zd_LassoFinderModel_expand_180 : decode prog_14_method_37_code 180 = .ok (.lconst 0, 1) := by decide +kernel
theorem zd_LassoFinderModel_expand_181 : decode prog_14_method_37_code 181 = .ok (.lcmp, 1) := by decide +kernel
theorem zd_LassoFinderModel_expand_182 : decode prog_14_method_37_code 182 = .ok (.ifCond .ne 10, 3) := by decide +kernel
theorem zd_LassoFinderModel_expand_185 : decode prog_14_method_37_code 185 = .ok (.aload_n 0, 1) := by decide +kernel
theorem zd_LassoFinderModel_expand_186 : decode prog_14_method_37_code 186 = .ok (.iload_n 1, 1) := by decide +kernel
theorem zd_LassoFinderModel_expand_187 : decode prog_14_method_37_code 187 = .ok (.iconst (-1), 1) := by decide +kernel
theorem zd_LassoFinderModel_expand_188 : decode prog_14_method_37_code 188 = .ok (.iconst (-1), 1) := by decide +kernel
theorem zd_LassoFinderModel_expand_189 : decode prog_14_method_37_code 189 = .ok (.invokevirtual 351, 3) := by decide +kernel
theorem zd_LassoFinderModel_expand_192 : decode prog_14_method_37_code 192 = .ok (.return_, 1) := by decide +kernel
def wc_LassoFinderModel_doable_163 (Post : Int64 → (Nat → Int32) → (Nat → Int64) → (Nat → Nat → Int32) → (Nat → Nat → Int64) → Prop) (y0 : Int64) (I : Nat → Int32) (J : Nat → Int64) (B : Nat → Nat → Int32) (D : Nat → Nat → Int64) : Prop :=
  Post y0 I J B D
def wc_LassoFinderModel_doable_162 (Post : Int64 → (Nat → Int32) → (Nat → Int64) → (Nat → Nat → Int32) → (Nat → Nat → Int64) → Prop) (x1 : Int64) (I : Nat → Int32) (J : Nat → Int64) (B : Nat → Nat → Int32) (D : Nat → Nat → Int64) : Prop :=
  wc_LassoFinderModel_doable_163  Post x1 I J B D
def wc_LassoFinderModel_doable_119 (K4 : Int64 → Int32 → (Nat → Int32) → (Nat → Int64) → (Nat → Nat → Int32) → (Nat → Nat → Int64) → Prop) (Post : Int64 → (Nat → Int32) → (Nat → Int64) → (Nat → Nat → Int32) → (Nat → Nat → Int64) → Prop) (x3 : Int32) (y0 : Int64) (y1 : Int64) (I : Nat → Int32) (J : Nat → Int64) (B : Nat → Nat → Int32) (D : Nat → Nat → Int64) : Prop :=
  ∀ z1 : Int64, z1 = (y1 ||| y0) → ∀ z2 : Int32, z2 = (x3 + 1) → K4 z1 z2 I J B D
def wc_LassoFinderModel_doable_98 (K4 : Int64 → Int32 → (Nat → Int32) → (Nat → Int64) → (Nat → Nat → Int32) → (Nat → Nat → Int64) → Prop) (K21 : Int64 → Int32 → Int64 → Int64 → Int32 → (Nat → Int32) → (Nat → Int64) → (Nat → Nat → Int32) → (Nat → Nat → Int64) → Prop) (Post : Int64 → (Nat → Int32) → (Nat → Int64) → (Nat → Nat → Int32) → (Nat → Nat → Int64) → Prop) (x1 : Int64) (x3 : Int32) (x4 : Int64) (x6 : Int64) (x8 : Int32) (I : Nat → Int32) (J : Nat → Int64) (B : Nat → Nat → Int32) (D : Nat → Nat → Int64) : Prop :=
  ∀ z3 : Int32, z3 = (x8 + 1) → K21 x1 x3 x4 x6 z3 I J B D
def wb_LassoFinderModel_doable_21 (K21 : Int64 → Int32 → Int64 → Int64 → Int32 → (Nat → Int32) → (Nat → Int64) → (Nat → Nat → Int32) → (Nat → Nat → Int64) → Prop) (K4 : Int64 → Int32 → (Nat → Int32) → (Nat → Int64) → (Nat → Nat → Int32) → (Nat → Nat → Int64) → Prop) (Post : Int64 → (Nat → Int32) → (Nat → Int64) → (Nat → Nat → Int32) → (Nat → Nat → Int64) → Prop) (x1 : Int64) (x3 : Int32) (x4 : Int64) (x6 : Int64) (x8 : Int32) (I : Nat → Int32) (J : Nat → Int64) (B : Nat → Nat → Int32) (D : Nat → Nat → Int64) : Prop :=
  (((I 9) ≤ x8 → ∀ z5 : Int32, z5 = (lg_cmp x4 0) → ((¬ z5 = 0 → wc_LassoFinderModel_doable_119  K4 Post x3 x4 x1 I J B D) ∧ (z5 = 0 → wc_LassoFinderModel_doable_119  K4 Post x3 x6 x1 I J B D))) ∧ (¬ (I 9) ≤ x8 → wp_LassoFinderModel_maskOf I J B D x3 (fun r7 I7 J7 B7 D7 => ∀ z8 : Int64, z8 = (r7 >>> (x8.toInt64 &&& 63)) → ∀ z9 : Int64, z9 = (z8 &&& 1) → ∀ z10 : Int32, z10 = (lg_cmp z9 0) → ((¬ z10 = 0 → vp_in x8 48 ∧ ∀ z12 : Int32, z12 = ((B7 18) x8.toNatClampNeg) → vp_in z12 140 ∧ ∀ z13 : Int32, z13 = ((B7 5) z12.toNatClampNeg) → ((¬ z13 = 5 → wp_LassoFinderModel_can I7 J7 B7 D7 z12 (fun r15 I15 J15 B15 D15 => ((r15 = 0 → wc_LassoFinderModel_doable_98  K4 K21 Post x1 x3 x4 x6 x8 I15 J15 B15 D15) ∧ (¬ r15 = 0 → ∀ z17 : Int64, z17 = ((1 : Int64) <<< (x8.toInt64 &&& 63)) → ∀ z18 : Int64, z18 = (x4 ||| z17) → wc_LassoFinderModel_doable_98  K4 K21 Post x1 x3 z18 x6 x8 I15 J15 B15 D15)))) ∧ (z13 = 5 → ∀ z19 : Int64, z19 = ((1 : Int64) <<< (x8.toInt64 &&& 63)) → ∀ z20 : Int64, z20 = (x6 ||| z19) → wc_LassoFinderModel_doable_98  K4 K21 Post x1 x3 x4 z20 x8 I7 J7 B7 D7))) ∧ (z10 = 0 → wc_LassoFinderModel_doable_98  K4 K21 Post x1 x3 x4 x6 x8 I7 J7 B7 D7)))))
def wl_LassoFinderModel_doable_21 (K4 : Int64 → Int32 → (Nat → Int32) → (Nat → Int64) → (Nat → Nat → Int32) → (Nat → Nat → Int64) → Prop) (Post : Int64 → (Nat → Int32) → (Nat → Int64) → (Nat → Nat → Int32) → (Nat → Nat → Int64) → Prop) (n : Nat) : Int64 → Int32 → Int64 → Int64 → Int32 → (Nat → Int32) → (Nat → Int64) → (Nat → Nat → Int32) → (Nat → Nat → Int64) → Prop := Nat.rec (fun _ _ _ _ _ _ _ _ _ => False) (fun _ r => wb_LassoFinderModel_doable_21  r K4 Post) n
def wb_LassoFinderModel_doable_4 (K4 : Int64 → Int32 → (Nat → Int32) → (Nat → Int64) → (Nat → Nat → Int32) → (Nat → Nat → Int64) → Prop) (Post : Int64 → (Nat → Int32) → (Nat → Int64) → (Nat → Nat → Int32) → (Nat → Nat → Int64) → Prop) (x1 : Int64) (x3 : Int32) (I : Nat → Int32) (J : Nat → Int64) (B : Nat → Nat → Int32) (D : Nat → Nat → Int64) : Prop :=
  (((I 10) ≤ x3 → (((I 17) < 0 → wc_LassoFinderModel_doable_162  Post x1 I J B D) ∧ (¬ (I 17) < 0 → wp_LassoFinderModel_maskOf I J B D (I 17) (fun r23 I23 J23 B23 D23 => ∀ z24 : Int64, z24 = (x1 &&& r23) → ∀ z25 : Int32, z25 = (lg_cmp z24 0) → ((z25 = 0 → wc_LassoFinderModel_doable_162  Post x1 I23 J23 B23 D23) ∧ (¬ z25 = 0 → wp_LassoFinderModel_maskOf I23 J23 B23 D23 (I23 17) (fun r27 I27 J27 B27 D27 => ∀ z28 : Int64, z28 = (x1 &&& r27) → wc_LassoFinderModel_doable_163  Post z28 I27 J27 B27 D27))))))) ∧ (¬ (I 10) ≤ x3 → ∃ n : Nat, wl_LassoFinderModel_doable_21  K4 Post n x1 x3 0 0 0 I J B D))
def wl_LassoFinderModel_doable_4 (Post : Int64 → (Nat → Int32) → (Nat → Int64) → (Nat → Nat → Int32) → (Nat → Nat → Int64) → Prop) (n : Nat) : Int64 → Int32 → (Nat → Int32) → (Nat → Int64) → (Nat → Nat → Int32) → (Nat → Nat → Int64) → Prop := Nat.rec (fun _ _ _ _ _ _ => False) (fun _ r => wb_LassoFinderModel_doable_4  r Post) n
def wp_LassoFinderModel_doable (I : Nat → Int32) (J : Nat → Int64) (B : Nat → Nat → Int32) (D : Nat → Nat → Int64) (Post : Int64 → (Nat → Int32) → (Nat → Int64) → (Nat → Nat → Int32) → (Nat → Nat → Int64) → Prop) : Prop :=
  ∃ n : Nat, wl_LassoFinderModel_doable_4  Post n 0 0 I J B D
set_option maxHeartbeats 8000000 in
set_option maxRecDepth 100000 in
theorem wJ_LassoFinderModel_doable_163 {p : Program} {l : Launch} {e : Env} {s : State} {m : MethodId} {below : List Frame} {meth : Method} {c : Code} {A : Nat → Prop} (G : va_G) (K : Nat → ClassId) (ad : Nat → Nat) (Post : Int64 → (Nat → Int32) → (Nat → Int64) → (Nat → Nat → Int32) → (Nat → Nat → Int64) → Prop) (C : zCx p s m ([.ref (ad 0)] : List Value).toArray meth c A G K prog_14_method_33_code (some .long) 10 "LassoFinderModel") : ∀ (y0 : Int64) (I : Nat → Int32) (J : Nat → Int64) (B : Nat → Nat → Int32) (D : Nat → Nat → Int64) (ls : Array Slot) (H : Heap) (locs : List Loc), wc_LassoFinderModel_doable_163  Post y0 I J B D → lv_has ls 10 [] → zW G A s.heap (wM ad K I J B D) H locs → W p l e { frames := 3, cells := 0, slots := 0, locals := 67 } s m ([.ref (ad 0)] : List Value).toArray below meth c H locs 0 0 (MQ below (va_Ql (fun (r : Int64) (u : zS) => Post r u.1 u.2.1 u.2.2.1 u.2.2.2) (fun u t => zPost G K A (wM ad K u.1 u.2.1 u.2.2.1 u.2.2.2) t) A) ([.ref (ad 0)] : List Value).toArray s 0 0 A) (F0 m 163 ls [.long y0]) := by
  obtain ⟨hx, hb, hr, hml, hts, hown, hlocks, hA, hK⟩ := id C
  intro y0 I J B D ls H locs hok hl hw
  unfold wc_LassoFinderModel_doable_163 at hok
  exact z_lret (u := (I, J, B, D)) hx hb hr hlocks hw [0, 1, 2, 3, 4, 5, 6, 7, 8, 9, 10, 11, 12, 13, 14, 15, 16, 17, 18, 19, 20, 21, 22, 23, 24, 25, 26, 27, 28, 29, 30, 31, 32, 33, 34, 35, 36, 37, 38, 39, 40, 41, 42, 43, 44, 45, 46, 47, 48, 49, 50, 51, 52, 53, 54, 55, 56, 57] rfl (by decide) hok (Nat.le_of_ble_eq_true rfl) (Nat.le_of_ble_eq_true rfl) zd_LassoFinderModel_doable_163
set_option maxHeartbeats 8000000 in
set_option maxRecDepth 100000 in
theorem wJ_LassoFinderModel_doable_162 {p : Program} {l : Launch} {e : Env} {s : State} {m : MethodId} {below : List Frame} {meth : Method} {c : Code} {A : Nat → Prop} (G : va_G) (K : Nat → ClassId) (ad : Nat → Nat) (Post : Int64 → (Nat → Int32) → (Nat → Int64) → (Nat → Nat → Int32) → (Nat → Nat → Int64) → Prop) (C : zCx p s m ([.ref (ad 0)] : List Value).toArray meth c A G K prog_14_method_33_code (some .long) 10 "LassoFinderModel") : ∀ (x1 : Int64) (I : Nat → Int32) (J : Nat → Int64) (B : Nat → Nat → Int32) (D : Nat → Nat → Int64) (ls : Array Slot) (H : Heap) (locs : List Loc), wc_LassoFinderModel_doable_162  Post x1 I J B D → lv_has ls 10 [(1, .long x1)] → zW G A s.heap (wM ad K I J B D) H locs → W p l e { frames := 3, cells := 0, slots := 0, locals := 67 } s m ([.ref (ad 0)] : List Value).toArray below meth c H locs 0 0 (MQ below (va_Ql (fun (r : Int64) (u : zS) => Post r u.1 u.2.1 u.2.2.1 u.2.2.2) (fun u t => zPost G K A (wM ad K u.1 u.2.1 u.2.2.1 u.2.2.2) t) A) ([.ref (ad 0)] : List Value).toArray s 0 0 A) (F0 m 162 ls []) := by
  obtain ⟨hx, hb, hr, hml, hts, hown, hlocks, hA, hK⟩ := id C
  intro x1 I J B D ls H locs hok hl hw
  unfold wc_LassoFinderModel_doable_162 at hok
  refine lv_lload_n hx hb zd_LassoFinderModel_doable_162 rfl (lv_at hl 0 rfl) ?_
  exact wJ_LassoFinderModel_doable_163 G K ad  Post C x1 I J B D ls H locs hok (lv_sub hl [] rfl) hw
set_option maxHeartbeats 8000000 in
set_option maxRecDepth 100000 in
theorem wJ_LassoFinderModel_doable_119 {p : Program} {l : Launch} {e : Env} {s : State} {m : MethodId} {below : List Frame} {meth : Method} {c : Code} {A : Nat → Prop} (G : va_G) (K : Nat → ClassId) (ad : Nat → Nat) (Post : Int64 → (Nat → Int32) → (Nat → Int64) → (Nat → Nat → Int32) → (Nat → Nat → Int64) → Prop) (C : zCx p s m ([.ref (ad 0)] : List Value).toArray meth c A G K prog_14_method_33_code (some .long) 10 "LassoFinderModel") (K4 : Int64 → Int32 → (Nat → Int32) → (Nat → Int64) → (Nat → Nat → Int32) → (Nat → Nat → Int64) → Prop) (kh4 : ∀ (x1 : Int64) (x3 : Int32) (I : Nat → Int32) (J : Nat → Int64) (B : Nat → Nat → Int32) (D : Nat → Nat → Int64) (ls : Array Slot) (H : Heap) (locs : List Loc), K4 x1 x3 I J B D → lv_has ls 10 [(0, .ref (ad 0)), (1, .long x1), (3, .int x3)] → zW G A s.heap (wM ad K I J B D) H locs → W p l e { frames := 3, cells := 0, slots := 0, locals := 67 } s m ([.ref (ad 0)] : List Value).toArray below meth c H locs 0 0 (MQ below (va_Ql (fun (r : Int64) (u : zS) => Post r u.1 u.2.1 u.2.2.1 u.2.2.2) (fun u t => zPost G K A (wM ad K u.1 u.2.1 u.2.2.1 u.2.2.2) t) A) ([.ref (ad 0)] : List Value).toArray s 0 0 A) (F0 m 4 ls [])) : ∀ (x3 : Int32) (y0 : Int64) (y1 : Int64) (I : Nat → Int32) (J : Nat → Int64) (B : Nat → Nat → Int32) (D : Nat → Nat → Int64) (ls : Array Slot) (H : Heap) (locs : List Loc), wc_LassoFinderModel_doable_119  K4 Post x3 y0 y1 I J B D → lv_has ls 10 [(0, .ref (ad 0)), (3, .int x3)] → zW G A s.heap (wM ad K I J B D) H locs → W p l e { frames := 3, cells := 0, slots := 0, locals := 67 } s m ([.ref (ad 0)] : List Value).toArray below meth c H locs 0 0 (MQ below (va_Ql (fun (r : Int64) (u : zS) => Post r u.1 u.2.1 u.2.2.1 u.2.2.2) (fun u t => zPost G K A (wM ad K u.1 u.2.1 u.2.2.1 u.2.2.2) t) A) ([.ref (ad 0)] : List Value).toArray s 0 0 A) (F0 m 119 ls [.long y0, .long y1]) := by
  obtain ⟨hx, hb, hr, hml, hts, hown, hlocks, hA, hK⟩ := id C
  intro x3 y0 y1 I J B D ls H locs hok hl hw
  unfold wc_LassoFinderModel_doable_119 at hok
  refine lv_lor hx hb zd_LassoFinderModel_doable_119 ?_
  refine lv_topl (fun z1 ez1 => ?_)
  have hok := hok z1 ez1
  refine lv_lstore_n hx hb zd_LassoFinderModel_doable_120 rfl hl (by decide) rfl (fun ls hl => ?_)
  have hl : lv_has ls 10 [(1, .long z1), (0, .ref (ad 0)), (3, .int x3)] := hl
  obtain ⟨z2, ez2⟩ : ∃ z : Int32, z = (x3 + 1) := ⟨_, rfl⟩
  have hok := hok z2 ez2
  refine lv_iinc (v := z2) hx hb zd_LassoFinderModel_doable_121 hl (k := 2) rfl ez2.symm (by decide) rfl (fun ls hl => ?_)
  have hl : lv_has ls 10 [(3, .int z2), (1, .long z1), (0, .ref (ad 0))] := hl
  refine lv_goto (tgt := 4) hx hb zd_LassoFinderModel_doable_124 (by decide) ?_
  exact kh4 z1 z2 I J B D ls H locs hok (lv_sub hl [2, 1, 0] rfl) hw
set_option maxHeartbeats 8000000 in
set_option maxRecDepth 100000 in
theorem wJ_LassoFinderModel_doable_98 {p : Program} {l : Launch} {e : Env} {s : State} {m : MethodId} {below : List Frame} {meth : Method} {c : Code} {A : Nat → Prop} (G : va_G) (K : Nat → ClassId) (ad : Nat → Nat) (Post : Int64 → (Nat → Int32) → (Nat → Int64) → (Nat → Nat → Int32) → (Nat → Nat → Int64) → Prop) (C : zCx p s m ([.ref (ad 0)] : List Value).toArray meth c A G K prog_14_method_33_code (some .long) 10 "LassoFinderModel") (K4 : Int64 → Int32 → (Nat → Int32) → (Nat → Int64) → (Nat → Nat → Int32) → (Nat → Nat → Int64) → Prop) (kh4 : ∀ (x1 : Int64) (x3 : Int32) (I : Nat → Int32) (J : Nat → Int64) (B : Nat → Nat → Int32) (D : Nat → Nat → Int64) (ls : Array Slot) (H : Heap) (locs : List Loc), K4 x1 x3 I J B D → lv_has ls 10 [(0, .ref (ad 0)), (1, .long x1), (3, .int x3)] → zW G A s.heap (wM ad K I J B D) H locs → W p l e { frames := 3, cells := 0, slots := 0, locals := 67 } s m ([.ref (ad 0)] : List Value).toArray below meth c H locs 0 0 (MQ below (va_Ql (fun (r : Int64) (u : zS) => Post r u.1 u.2.1 u.2.2.1 u.2.2.2) (fun u t => zPost G K A (wM ad K u.1 u.2.1 u.2.2.1 u.2.2.2) t) A) ([.ref (ad 0)] : List Value).toArray s 0 0 A) (F0 m 4 ls [])) (K21 : Int64 → Int32 → Int64 → Int64 → Int32 → (Nat → Int32) → (Nat → Int64) → (Nat → Nat → Int32) → (Nat → Nat → Int64) → Prop) (kh21 : ∀ (x1 : Int64) (x3 : Int32) (x4 : Int64) (x6 : Int64) (x8 : Int32) (I : Nat → Int32) (J : Nat → Int64) (B : Nat → Nat → Int32) (D : Nat → Nat → Int64) (ls : Array Slot) (H : Heap) (locs : List Loc), K21 x1 x3 x4 x6 x8 I J B D → lv_has ls 10 [(0, .ref (ad 0)), (1, .long x1), (3, .int x3), (4, .long x4), (6, .long x6), (8, .int x8)] → zW G A s.heap (wM ad K I J B D) H locs → W p l e { frames := 3, cells := 0, slots := 0, locals := 67 } s m ([.ref (ad 0)] : List Value).toArray below meth c H locs 0 0 (MQ below (va_Ql (fun (r : Int64) (u : zS) => Post r u.1 u.2.1 u.2.2.1 u.2.2.2) (fun u t => zPost G K A (wM ad K u.1 u.2.1 u.2.2.1 u.2.2.2) t) A) ([.ref (ad 0)] : List Value).toArray s 0 0 A) (F0 m 21 ls [])) : ∀ (x1 : Int64) (x3 : Int32) (x4 : Int64) (x6 : Int64) (x8 : Int32) (I : Nat → Int32) (J : Nat → Int64) (B : Nat → Nat → Int32) (D : Nat → Nat → Int64) (ls : Array Slot) (H : Heap) (locs : List Loc), wc_LassoFinderModel_doable_98  K4 K21 Post x1 x3 x4 x6 x8 I J B D → lv_has ls 10 [(0, .ref (ad 0)), (1, .long x1), (3, .int x3), (4, .long x4), (6, .long x6), (8, .int x8)] → zW G A s.heap (wM ad K I J B D) H locs → W p l e { frames := 3, cells := 0, slots := 0, locals := 67 } s m ([.ref (ad 0)] : List Value).toArray below meth c H locs 0 0 (MQ below (va_Ql (fun (r : Int64) (u : zS) => Post r u.1 u.2.1 u.2.2.1 u.2.2.2) (fun u t => zPost G K A (wM ad K u.1 u.2.1 u.2.2.1 u.2.2.2) t) A) ([.ref (ad 0)] : List Value).toArray s 0 0 A) (F0 m 98 ls []) := by
  obtain ⟨hx, hb, hr, hml, hts, hown, hlocks, hA, hK⟩ := id C
  intro x1 x3 x4 x6 x8 I J B D ls H locs hok hl hw
  unfold wc_LassoFinderModel_doable_98 at hok
  obtain ⟨z3, ez3⟩ : ∃ z : Int32, z = (x8 + 1) := ⟨_, rfl⟩
  have hok := hok z3 ez3
  refine lv_iinc (v := z3) hx hb zd_LassoFinderModel_doable_98 hl (k := 5) rfl ez3.symm (by decide) rfl (fun ls hl => ?_)
  have hl : lv_has ls 10 [(8, .int z3), (0, .ref (ad 0)), (1, .long x1), (3, .int x3), (4, .long x4), (6, .long x6)] := hl
  refine lv_goto (tgt := 21) hx hb zd_LassoFinderModel_doable_101 (by decide) ?_
  exact kh21 x1 x3 x4 x6 z3 I J B D ls H locs hok (lv_sub hl [1, 2, 3, 4, 5, 0] rfl) hw
set_option maxHeartbeats 8000000 in
set_option maxRecDepth 100000 in
theorem wB_LassoFinderModel_doable_21 {p : Program} {l : Launch} {e : Env} {s : State} {m : MethodId} {below : List Frame} {meth : Method} {c : Code} {A : Nat → Prop} (G : va_G) (K : Nat → ClassId) (ad : Nat → Nat) (Post : Int64 → (Nat → Int32) → (Nat → Int64) → (Nat → Nat → Int32) → (Nat → Nat → Int64) → Prop) (C : zCx p s m ([.ref (ad 0)] : List Value).toArray meth c A G K prog_14_method_33_code (some .long) 10 "LassoFinderModel") (K4 : Int64 → Int32 → (Nat → Int32) → (Nat → Int64) → (Nat → Nat → Int32) → (Nat → Nat → Int64) → Prop) (kh4 : ∀ (x1 : Int64) (x3 : Int32) (I : Nat → Int32) (J : Nat → Int64) (B : Nat → Nat → Int32) (D : Nat → Nat → Int64) (ls : Array Slot) (H : Heap) (locs : List Loc), K4 x1 x3 I J B D → lv_has ls 10 [(0, .ref (ad 0)), (1, .long x1), (3, .int x3)] → zW G A s.heap (wM ad K I J B D) H locs → W p l e { frames := 3, cells := 0, slots := 0, locals := 67 } s m ([.ref (ad 0)] : List Value).toArray below meth c H locs 0 0 (MQ below (va_Ql (fun (r : Int64) (u : zS) => Post r u.1 u.2.1 u.2.2.1 u.2.2.2) (fun u t => zPost G K A (wM ad K u.1 u.2.1 u.2.2.1 u.2.2.2) t) A) ([.ref (ad 0)] : List Value).toArray s 0 0 A) (F0 m 4 ls [])) (K21 : Int64 → Int32 → Int64 → Int64 → Int32 → (Nat → Int32) → (Nat → Int64) → (Nat → Nat → Int32) → (Nat → Nat → Int64) → Prop) (kh21 : ∀ (x1 : Int64) (x3 : Int32) (x4 : Int64) (x6 : Int64) (x8 : Int32) (I : Nat → Int32) (J : Nat → Int64) (B : Nat → Nat → Int32) (D : Nat → Nat → Int64) (ls : Array Slot) (H : Heap) (locs : List Loc), K21 x1 x3 x4 x6 x8 I J B D → lv_has ls 10 [(0, .ref (ad 0)), (1, .long x1), (3, .int x3), (4, .long x4), (6, .long x6), (8, .int x8)] → zW G A s.heap (wM ad K I J B D) H locs → W p l e { frames := 3, cells := 0, slots := 0, locals := 67 } s m ([.ref (ad 0)] : List Value).toArray below meth c H locs 0 0 (MQ below (va_Ql (fun (r : Int64) (u : zS) => Post r u.1 u.2.1 u.2.2.1 u.2.2.2) (fun u t => zPost G K A (wM ad K u.1 u.2.1 u.2.2.1 u.2.2.2) t) A) ([.ref (ad 0)] : List Value).toArray s 0 0 A) (F0 m 21 ls [])) : ∀ (x1 : Int64) (x3 : Int32) (x4 : Int64) (x6 : Int64) (x8 : Int32) (I : Nat → Int32) (J : Nat → Int64) (B : Nat → Nat → Int32) (D : Nat → Nat → Int64) (ls : Array Slot) (H : Heap) (locs : List Loc), wb_LassoFinderModel_doable_21  K21 K4 Post x1 x3 x4 x6 x8 I J B D → lv_has ls 10 [(0, .ref (ad 0)), (1, .long x1), (3, .int x3), (4, .long x4), (6, .long x6), (8, .int x8)] → zW G A s.heap (wM ad K I J B D) H locs → W p l e { frames := 3, cells := 0, slots := 0, locals := 67 } s m ([.ref (ad 0)] : List Value).toArray below meth c H locs 0 0 (MQ below (va_Ql (fun (r : Int64) (u : zS) => Post r u.1 u.2.1 u.2.2.1 u.2.2.2) (fun u t => zPost G K A (wM ad K u.1 u.2.1 u.2.2.1 u.2.2.2) t) A) ([.ref (ad 0)] : List Value).toArray s 0 0 A) (F0 m 21 ls []) := by
  obtain ⟨hx, hb, hr, hml, hts, hown, hlocks, hA, hK⟩ := id C
  intro x1 x3 x4 x6 x8 I J B D ls H locs hok hl hw
  unfold wb_LassoFinderModel_doable_21 at hok
  refine lv_iload hx hb zd_LassoFinderModel_doable_21 (lv_at hl 5 rfl) ?_
  refine lv_aload_n hx hb zd_LassoFinderModel_doable_23 rfl (lv_at hl 0 rfl) ?_
  refine z_get (v := .int (I 9)) hx hb hts hown hK hw zZ12 0 rfl 27 (by decide) zm_303 rfl zd_LassoFinderModel_doable_24 ?_
  refine lv_icmp_ge (tgt := 104) hx hb zd_LassoFinderModel_doable_27 (by decide) (fun hc4 => ?_) (fun hc4 => ?_)
  · have hok := hok.1 hc4
    refine lv_lload_n hx hb zd_LassoFinderModel_doable_104 rfl (lv_at hl 1 rfl) ?_
    refine lv_lload hx hb zd_LassoFinderModel_doable_105 (lv_at hl 3 rfl) ?_
    refine lv_lconst (v := 0) hx hb zd_LassoFinderModel_doable_107 (by decide) ?_
    refine W.lcmp hx hb zd_LassoFinderModel_doable_108 ?_
    refine lv_topi (fun z5 ez5 => ?_)
    have hok := hok z5 ez5
    refine lv_if_ne (tgt := 117) hx hb zd_LassoFinderModel_doable_109 (by decide) (fun hc6 => ?_) (fun hc6 => ?_)
    · have hok := hok.1 hc6
      refine lv_lload hx hb zd_LassoFinderModel_doable_117 (lv_at hl 3 rfl) ?_
      exact wJ_LassoFinderModel_doable_119 G K ad  Post C K4 kh4 x3 x4 x1 I J B D ls H locs hok (lv_sub hl [0, 2] rfl) hw
    · have hok := hok.2 hc6
      refine lv_lload hx hb zd_LassoFinderModel_doable_112 (lv_at hl 4 rfl) ?_
      refine lv_goto (tgt := 119) hx hb zd_LassoFinderModel_doable_114 (by decide) ?_
      exact wJ_LassoFinderModel_doable_119 G K ad  Post C K4 kh4 x3 x6 x1 I J B D ls H locs hok (lv_sub hl [0, 2] rfl) hw
  · have hok := hok.2 hc4
    refine lv_aload_n hx hb zd_LassoFinderModel_doable_30 rfl (lv_at hl 0 rfl) ?_
    refine lv_iload_n hx hb zd_LassoFinderModel_doable_31 rfl (lv_at hl 2 rfl) ?_
    refine z_calll (w1 := fun (u : zS) => wM ad K u.1 u.2.1 u.2.2.1 u.2.2.2) (wr := []) (z_runV (q0 := 0) (wc := (wM ad K I J B D)) (As := [.int x3]) (rest := []) ⟨hx, hb, hml, hown, hts⟩ (w_LassoFinderModel_maskOf l G K ad I J B D x3 _ H.size hok) zf_LassoFinderModel_maskOf zm_326 ⟨Nat.le_of_ble_eq_true rfl, Nat.le_of_ble_eq_true rfl⟩ hK hw [0, 1, 2, 3, 4, 5, 6, 7, 8, 9, 10, 11, 12, 13, 14, 15, 16, 17, 18, 19, 20, 21, 22, 23, 24, 25, 26, 27, 28, 29, 30, 31, 32, 33, 34, 35, 36, 37, 38, 39, 40, 41, 42, 43, 44, 45, 46, 47, 48, 49, 50, 51, 52, 53, 54, 55, 56, 57] rfl (by decide) rfl rfl rfl hl.1 rfl (Nat.le_of_ble_eq_true rfl) zd_LassoFinderModel_doable_32 ⟨Nat.le_of_ble_eq_true rfl, Nat.le_of_ble_eq_true rfl⟩) hw hA [0, 1, 2, 3, 4, 5, 6, 7, 8, 9, 10, 11, 12, 13, 14, 15, 16, 17, 18, 19, 20, 21, 22, 23, 24, 25, 26, 27, 28, 29, 30, 31, 32, 33, 34, 35, 36, 37, 38, 39, 40, 41, 42, 43, 44, 45, 46, 47, 48, 49, 50, 51, 52, 53, 54, 55, 56, 57] [] rfl rfl (by decide) (by decide) (fun r7 u H locs hok hw => ?_)
    obtain ⟨I7, J7, B7, D7⟩ := u
    dsimp only at hok
    have hw : zW G A s.heap (wM ad K I7 J7 B7 D7) H locs := hw
    refine lv_iload hx hb zd_LassoFinderModel_doable_35 (lv_at hl 5 rfl) ?_
    refine lv_lshr hx hb zd_LassoFinderModel_doable_37 rfl ?_
    refine lv_topl (fun z8 ez8 => ?_)
    have hok := hok z8 ez8
    refine lv_lconst (v := 1) hx hb zd_LassoFinderModel_doable_38 (by decide) ?_
    refine lv_land hx hb zd_LassoFinderModel_doable_39 ?_
    refine lv_topl (fun z9 ez9 => ?_)
    have hok := hok z9 ez9
    refine lv_lconst (v := 0) hx hb zd_LassoFinderModel_doable_40 (by decide) ?_
    refine W.lcmp hx hb zd_LassoFinderModel_doable_41 ?_
    refine lv_topi (fun z10 ez10 => ?_)
    have hok := hok z10 ez10
    refine lv_if_ne (tgt := 48) hx hb zd_LassoFinderModel_doable_42 (by decide) (fun hc11 => ?_) (fun hc11 => ?_)
    · have hok := hok.1 hc11
      refine lv_aload_n hx hb zd_LassoFinderModel_doable_48 rfl (lv_at hl 0 rfl) ?_
      refine z_get (v := .ref (ad 19)) hx hb hts hown hK hw zZ12 0 rfl 28 (by decide) zm_253 rfl zd_LassoFinderModel_doable_49 ?_
      refine lv_iload hx hb zd_LassoFinderModel_doable_52 (lv_at hl 5 rfl) ?_
      refine va_iald (f := (B7 18)) hx hb hK hw.1 19 0 rfl rfl hok.1 zd_LassoFinderModel_doable_54 ?_
      have hok := hok.2
      refine lv_topi (fun z12 ez12 => ?_)
      have hok := hok z12 ez12
      refine lv_istore hx hb zd_LassoFinderModel_doable_55 hl (by decide) rfl (fun ls hl => ?_)
      have hl : lv_has ls 10 [(9, .int z12), (0, .ref (ad 0)), (1, .long x1), (3, .int x3), (4, .long x4), (6, .long x6), (8, .int x8)] := hl
      refine lv_aload_n hx hb zd_LassoFinderModel_doable_57 rfl (lv_at hl 1 rfl) ?_
      refine z_get (v := .ref (ad 6)) hx hb hts hown hK hw zZ12 0 rfl 14 (by decide) zm_240 rfl zd_LassoFinderModel_doable_58 ?_
      refine lv_iload hx hb zd_LassoFinderModel_doable_61 (lv_at hl 0 rfl) ?_
      refine va_iald (f := (B7 5)) hx hb hK hw.1 6 0 rfl rfl hok.1 zd_LassoFinderModel_doable_63 ?_
      have hok := hok.2
      refine lv_topi (fun z13 ez13 => ?_)
      have hok := hok z13 ez13
      refine lv_iconst (v := 5) hx hb zd_LassoFinderModel_doable_64 (by decide) ?_
      refine lv_icmp_ne (tgt := 80) hx hb zd_LassoFinderModel_doable_65 (by decide) (fun hc14 => ?_) (fun hc14 => ?_)
      · have hok := hok.1 hc14
        refine lv_aload_n hx hb zd_LassoFinderModel_doable_80 rfl (lv_at hl 1 rfl) ?_
        refine lv_iload hx hb zd_LassoFinderModel_doable_81 (lv_at hl 0 rfl) ?_
        refine z_calli (w1 := fun (u : zS) => wM ad K u.1 u.2.1 u.2.2.1 u.2.2.2) (wr := []) (z_runV (q0 := 0) (wc := (wM ad K I7 J7 B7 D7)) (As := [.int z12]) (rest := []) ⟨hx, hb, hml, hown, hts⟩ (w_LassoFinderModel_can l G K ad I7 J7 B7 D7 z12 _ H.size hok) zf_LassoFinderModel_can zm_327 ⟨Nat.le_of_ble_eq_true rfl, Nat.le_of_ble_eq_true rfl⟩ hK hw [0, 1, 2, 3, 4, 5, 6, 7, 8, 9, 10, 11, 12, 13, 14, 15, 16, 17, 18, 19, 20, 21, 22, 23, 24, 25, 26, 27, 28, 29, 30, 31, 32, 33, 34, 35, 36, 37, 38, 39, 40, 41, 42, 43, 44, 45, 46, 47, 48, 49, 50, 51, 52, 53, 54, 55, 56, 57] rfl (by decide) rfl rfl rfl hl.1 rfl (Nat.le_of_ble_eq_true rfl) zd_LassoFinderModel_doable_83 ⟨Nat.le_of_ble_eq_true rfl, Nat.le_of_ble_eq_true rfl⟩) hw hA [0, 1, 2, 3, 4, 5, 6, 7, 8, 9, 10, 11, 12, 13, 14, 15, 16, 17, 18, 19, 20, 21, 22, 23, 24, 25, 26, 27, 28, 29, 30, 31, 32, 33, 34, 35, 36, 37, 38, 39, 40, 41, 42, 43, 44, 45, 46, 47, 48, 49, 50, 51, 52, 53, 54, 55, 56, 57] [] rfl rfl (by decide) (by decide) (fun r15 u H locs hok hw => ?_)
        obtain ⟨I15, J15, B15, D15⟩ := u
        dsimp only at hok
        have hw : zW G A s.heap (wM ad K I15 J15 B15 D15) H locs := hw
        refine lv_if_eq (tgt := 98) hx hb zd_LassoFinderModel_doable_86 (by decide) (fun hc16 => ?_) (fun hc16 => ?_)
        · have hok := hok.1 hc16
          exact wJ_LassoFinderModel_doable_98 G K ad  Post C K4 kh4 K21 kh21 x1 x3 x4 x6 x8 I15 J15 B15 D15 ls H locs hok (lv_sub hl [1, 2, 3, 4, 5, 6] rfl) hw
        · have hok := hok.2 hc16
          refine lv_lload hx hb zd_LassoFinderModel_doable_89 (lv_at hl 4 rfl) ?_
          refine lv_lconst (v := 1) hx hb zd_LassoFinderModel_doable_91 (by decide) ?_
          refine lv_iload hx hb zd_LassoFinderModel_doable_92 (lv_at hl 6 rfl) ?_
          refine lv_lshl hx hb zd_LassoFinderModel_doable_94 rfl ?_
          refine lv_topl (fun z17 ez17 => ?_)
          have hok := hok z17 ez17
          refine lv_lor hx hb zd_LassoFinderModel_doable_95 ?_
          refine lv_topl (fun z18 ez18 => ?_)
          have hok := hok z18 ez18
          refine lv_lstore hx hb zd_LassoFinderModel_doable_96 hl (by decide) rfl (fun ls hl => ?_)
          have hl : lv_has ls 10 [(4, .long z18), (9, .int z12), (0, .ref (ad 0)), (1, .long x1), (3, .int x3), (6, .long x6), (8, .int x8)] := hl
          exact wJ_LassoFinderModel_doable_98 G K ad  Post C K4 kh4 K21 kh21 x1 x3 z18 x6 x8 I15 J15 B15 D15 ls H locs hok (lv_sub hl [2, 3, 4, 0, 5, 6] rfl) hw
      · have hok := hok.2 hc14
        refine lv_lload hx hb zd_LassoFinderModel_doable_68 (lv_at hl 5 rfl) ?_
        refine lv_lconst (v := 1) hx hb zd_LassoFinderModel_doable_70 (by decide) ?_
        refine lv_iload hx hb zd_LassoFinderModel_doable_71 (lv_at hl 6 rfl) ?_
        refine lv_lshl hx hb zd_LassoFinderModel_doable_73 rfl ?_
        refine lv_topl (fun z19 ez19 => ?_)
        have hok := hok z19 ez19
        refine lv_lor hx hb zd_LassoFinderModel_doable_74 ?_
        refine lv_topl (fun z20 ez20 => ?_)
        have hok := hok z20 ez20
        refine lv_lstore hx hb zd_LassoFinderModel_doable_75 hl (by decide) rfl (fun ls hl => ?_)
        have hl : lv_has ls 10 [(6, .long z20), (9, .int z12), (0, .ref (ad 0)), (1, .long x1), (3, .int x3), (4, .long x4), (8, .int x8)] := hl
        refine lv_goto (tgt := 98) hx hb zd_LassoFinderModel_doable_77 (by decide) ?_
        exact wJ_LassoFinderModel_doable_98 G K ad  Post C K4 kh4 K21 kh21 x1 x3 x4 z20 x8 I7 J7 B7 D7 ls H locs hok (lv_sub hl [2, 3, 4, 5, 0, 6] rfl) hw
    · have hok := hok.2 hc11
      refine lv_goto (tgt := 98) hx hb zd_LassoFinderModel_doable_45 (by decide) ?_
      exact wJ_LassoFinderModel_doable_98 G K ad  Post C K4 kh4 K21 kh21 x1 x3 x4 x6 x8 I7 J7 B7 D7 ls H locs hok (lv_sub hl [0, 1, 2, 3, 4, 5] rfl) hw
theorem wL_LassoFinderModel_doable_21 {p : Program} {l : Launch} {e : Env} {s : State} {m : MethodId} {below : List Frame} {meth : Method} {c : Code} {A : Nat → Prop} (G : va_G) (K : Nat → ClassId) (ad : Nat → Nat) (Post : Int64 → (Nat → Int32) → (Nat → Int64) → (Nat → Nat → Int32) → (Nat → Nat → Int64) → Prop) (C : zCx p s m ([.ref (ad 0)] : List Value).toArray meth c A G K prog_14_method_33_code (some .long) 10 "LassoFinderModel") (K4 : Int64 → Int32 → (Nat → Int32) → (Nat → Int64) → (Nat → Nat → Int32) → (Nat → Nat → Int64) → Prop) (kh4 : ∀ (x1 : Int64) (x3 : Int32) (I : Nat → Int32) (J : Nat → Int64) (B : Nat → Nat → Int32) (D : Nat → Nat → Int64) (ls : Array Slot) (H : Heap) (locs : List Loc), K4 x1 x3 I J B D → lv_has ls 10 [(0, .ref (ad 0)), (1, .long x1), (3, .int x3)] → zW G A s.heap (wM ad K I J B D) H locs → W p l e { frames := 3, cells := 0, slots := 0, locals := 67 } s m ([.ref (ad 0)] : List Value).toArray below meth c H locs 0 0 (MQ below (va_Ql (fun (r : Int64) (u : zS) => Post r u.1 u.2.1 u.2.2.1 u.2.2.2) (fun u t => zPost G K A (wM ad K u.1 u.2.1 u.2.2.1 u.2.2.2) t) A) ([.ref (ad 0)] : List Value).toArray s 0 0 A) (F0 m 4 ls [])) : ∀ (n : Nat) (x1 : Int64) (x3 : Int32) (x4 : Int64) (x6 : Int64) (x8 : Int32) (I : Nat → Int32) (J : Nat → Int64) (B : Nat → Nat → Int32) (D : Nat → Nat → Int64) (ls : Array Slot) (H : Heap) (locs : List Loc), wl_LassoFinderModel_doable_21  K4 Post n x1 x3 x4 x6 x8 I J B D → lv_has ls 10 [(0, .ref (ad 0)), (1, .long x1), (3, .int x3), (4, .long x4), (6, .long x6), (8, .int x8)] → zW G A s.heap (wM ad K I J B D) H locs → W p l e { frames := 3, cells := 0, slots := 0, locals := 67 } s m ([.ref (ad 0)] : List Value).toArray below meth c H locs 0 0 (MQ below (va_Ql (fun (r : Int64) (u : zS) => Post r u.1 u.2.1 u.2.2.1 u.2.2.2) (fun u t => zPost G K A (wM ad K u.1 u.2.1 u.2.2.1 u.2.2.2) t) A) ([.ref (ad 0)] : List Value).toArray s 0 0 A) (F0 m 21 ls []) := by
  intro n
  induction n with
  | zero => intro x1 x3 x4 x6 x8 I J B D ls H locs hok; exact hok.elim
  | succ n ih => exact wB_LassoFinderModel_doable_21 G K ad  Post C K4 kh4 (wl_LassoFinderModel_doable_21  K4 Post n) ih
set_option maxHeartbeats 8000000 in
set_option maxRecDepth 100000 in
theorem wB_LassoFinderModel_doable_4 {p : Program} {l : Launch} {e : Env} {s : State} {m : MethodId} {below : List Frame} {meth : Method} {c : Code} {A : Nat → Prop} (G : va_G) (K : Nat → ClassId) (ad : Nat → Nat) (Post : Int64 → (Nat → Int32) → (Nat → Int64) → (Nat → Nat → Int32) → (Nat → Nat → Int64) → Prop) (C : zCx p s m ([.ref (ad 0)] : List Value).toArray meth c A G K prog_14_method_33_code (some .long) 10 "LassoFinderModel") (K4 : Int64 → Int32 → (Nat → Int32) → (Nat → Int64) → (Nat → Nat → Int32) → (Nat → Nat → Int64) → Prop) (kh4 : ∀ (x1 : Int64) (x3 : Int32) (I : Nat → Int32) (J : Nat → Int64) (B : Nat → Nat → Int32) (D : Nat → Nat → Int64) (ls : Array Slot) (H : Heap) (locs : List Loc), K4 x1 x3 I J B D → lv_has ls 10 [(0, .ref (ad 0)), (1, .long x1), (3, .int x3)] → zW G A s.heap (wM ad K I J B D) H locs → W p l e { frames := 3, cells := 0, slots := 0, locals := 67 } s m ([.ref (ad 0)] : List Value).toArray below meth c H locs 0 0 (MQ below (va_Ql (fun (r : Int64) (u : zS) => Post r u.1 u.2.1 u.2.2.1 u.2.2.2) (fun u t => zPost G K A (wM ad K u.1 u.2.1 u.2.2.1 u.2.2.2) t) A) ([.ref (ad 0)] : List Value).toArray s 0 0 A) (F0 m 4 ls [])) : ∀ (x1 : Int64) (x3 : Int32) (I : Nat → Int32) (J : Nat → Int64) (B : Nat → Nat → Int32) (D : Nat → Nat → Int64) (ls : Array Slot) (H : Heap) (locs : List Loc), wb_LassoFinderModel_doable_4  K4 Post x1 x3 I J B D → lv_has ls 10 [(0, .ref (ad 0)), (1, .long x1), (3, .int x3)] → zW G A s.heap (wM ad K I J B D) H locs → W p l e { frames := 3, cells := 0, slots := 0, locals := 67 } s m ([.ref (ad 0)] : List Value).toArray below meth c H locs 0 0 (MQ below (va_Ql (fun (r : Int64) (u : zS) => Post r u.1 u.2.1 u.2.2.1 u.2.2.2) (fun u t => zPost G K A (wM ad K u.1 u.2.1 u.2.2.1 u.2.2.2) t) A) ([.ref (ad 0)] : List Value).toArray s 0 0 A) (F0 m 4 ls []) := by
  obtain ⟨hx, hb, hr, hml, hts, hown, hlocks, hA, hK⟩ := id C
  intro x1 x3 I J B D ls H locs hok hl hw
  unfold wb_LassoFinderModel_doable_4 at hok
  refine lv_iload_n hx hb zd_LassoFinderModel_doable_4 rfl (lv_at hl 2 rfl) ?_
  refine lv_aload_n hx hb zd_LassoFinderModel_doable_5 rfl (lv_at hl 0 rfl) ?_
  refine z_get (v := .int (I 10)) hx hb hts hown hK hw zZ12 0 rfl 30 (by decide) zm_310 rfl zd_LassoFinderModel_doable_6 ?_
  refine lv_icmp_ge (tgt := 127) hx hb zd_LassoFinderModel_doable_9 (by decide) (fun hc21 => ?_) (fun hc21 => ?_)
  · have hok := hok.1 hc21
    refine lv_aload_n hx hb zd_LassoFinderModel_doable_127 rfl (lv_at hl 0 rfl) ?_
    refine z_get (v := .int (I 17)) hx hb hts hown hK hw zZ12 0 rfl 59 (by decide) zm_320 rfl zd_LassoFinderModel_doable_128 ?_
    refine lv_if_lt (tgt := 162) hx hb zd_LassoFinderModel_doable_131 (by decide) (fun hc22 => ?_) (fun hc22 => ?_)
    · have hok := hok.1 hc22
      exact wJ_LassoFinderModel_doable_162 G K ad  Post C x1 I J B D ls H locs hok (lv_sub hl [1] rfl) hw
    · have hok := hok.2 hc22
      refine lv_lload_n hx hb zd_LassoFinderModel_doable_134 rfl (lv_at hl 1 rfl) ?_
      refine lv_aload_n hx hb zd_LassoFinderModel_doable_135 rfl (lv_at hl 0 rfl) ?_
      refine lv_aload_n hx hb zd_LassoFinderModel_doable_136 rfl (lv_at hl 0 rfl) ?_
      refine z_get (v := .int (I 17)) hx hb hts hown hK hw zZ12 0 rfl 59 (by decide) zm_320 rfl zd_LassoFinderModel_doable_137 ?_
      refine z_calll (w1 := fun (u : zS) => wM ad K u.1 u.2.1 u.2.2.1 u.2.2.2) (wr := []) (z_runV (q0 := 0) (wc := (wM ad K I J B D)) (As := [.int (I 17)]) (rest := [.long x1]) ⟨hx, hb, hml, hown, hts⟩ (w_LassoFinderModel_maskOf l G K ad I J B D (I 17) _ H.size hok) zf_LassoFinderModel_maskOf zm_326 ⟨Nat.le_of_ble_eq_true rfl, Nat.le_of_ble_eq_true rfl⟩ hK hw [0, 1, 2, 3, 4, 5, 6, 7, 8, 9, 10, 11, 12, 13, 14, 15, 16, 17, 18, 19, 20, 21, 22, 23, 24, 25, 26, 27, 28, 29, 30, 31, 32, 33, 34, 35, 36, 37, 38, 39, 40, 41, 42, 43, 44, 45, 46, 47, 48, 49, 50, 51, 52, 53, 54, 55, 56, 57] rfl (by decide) rfl rfl rfl hl.1 rfl (Nat.le_of_ble_eq_true rfl) zd_LassoFinderModel_doable_140 ⟨Nat.le_of_ble_eq_true rfl, Nat.le_of_ble_eq_true rfl⟩) hw hA [0, 1, 2, 3, 4, 5, 6, 7, 8, 9, 10, 11, 12, 13, 14, 15, 16, 17, 18, 19, 20, 21, 22, 23, 24, 25, 26, 27, 28, 29, 30, 31, 32, 33, 34, 35, 36, 37, 38, 39, 40, 41, 42, 43, 44, 45, 46, 47, 48, 49, 50, 51, 52, 53, 54, 55, 56, 57] [] rfl rfl (by decide) (by decide) (fun r23 u H locs hok hw => ?_)
      obtain ⟨I23, J23, B23, D23⟩ := u
      dsimp only at hok
      have hw : zW G A s.heap (wM ad K I23 J23 B23 D23) H locs := hw
      refine lv_land hx hb zd_LassoFinderModel_doable_143 ?_
      refine lv_topl (fun z24 ez24 => ?_)
      have hok := hok z24 ez24
      refine lv_lconst (v := 0) hx hb zd_LassoFinderModel_doable_144 (by decide) ?_
      refine W.lcmp hx hb zd_LassoFinderModel_doable_145 ?_
      refine lv_topi (fun z25 ez25 => ?_)
      have hok := hok z25 ez25
      refine lv_if_eq (tgt := 162) hx hb zd_LassoFinderModel_doable_146 (by decide) (fun hc26 => ?_) (fun hc26 => ?_)
      · have hok := hok.1 hc26
        exact wJ_LassoFinderModel_doable_162 G K ad  Post C x1 I23 J23 B23 D23 ls H locs hok (lv_sub hl [1] rfl) hw
      · have hok := hok.2 hc26
        refine lv_lload_n hx hb zd_LassoFinderModel_doable_149 rfl (lv_at hl 1 rfl) ?_
        refine lv_aload_n hx hb zd_LassoFinderModel_doable_150 rfl (lv_at hl 0 rfl) ?_
        refine lv_aload_n hx hb zd_LassoFinderModel_doable_151 rfl (lv_at hl 0 rfl) ?_
        refine z_get (v := .int (I23 17)) hx hb hts hown hK hw zZ12 0 rfl 59 (by decide) zm_320 rfl zd_LassoFinderModel_doable_152 ?_
        refine z_calll (w1 := fun (u : zS) => wM ad K u.1 u.2.1 u.2.2.1 u.2.2.2) (wr := []) (z_runV (q0 := 0) (wc := (wM ad K I23 J23 B23 D23)) (As := [.int (I23 17)]) (rest := [.long x1]) ⟨hx, hb, hml, hown, hts⟩ (w_LassoFinderModel_maskOf l G K ad I23 J23 B23 D23 (I23 17) _ H.size hok) zf_LassoFinderModel_maskOf zm_326 ⟨Nat.le_of_ble_eq_true rfl, Nat.le_of_ble_eq_true rfl⟩ hK hw [0, 1, 2, 3, 4, 5, 6, 7, 8, 9, 10, 11, 12, 13, 14, 15, 16, 17, 18, 19, 20, 21, 22, 23, 24, 25, 26, 27, 28, 29, 30, 31, 32, 33, 34, 35, 36, 37, 38, 39, 40, 41, 42, 43, 44, 45, 46, 47, 48, 49, 50, 51, 52, 53, 54, 55, 56, 57] rfl (by decide) rfl rfl rfl hl.1 rfl (Nat.le_of_ble_eq_true rfl) zd_LassoFinderModel_doable_155 ⟨Nat.le_of_ble_eq_true rfl, Nat.le_of_ble_eq_true rfl⟩) hw hA [0, 1, 2, 3, 4, 5, 6, 7, 8, 9, 10, 11, 12, 13, 14, 15, 16, 17, 18, 19, 20, 21, 22, 23, 24, 25, 26, 27, 28, 29, 30, 31, 32, 33, 34, 35, 36, 37, 38, 39, 40, 41, 42, 43, 44, 45, 46, 47, 48, 49, 50, 51, 52, 53, 54, 55, 56, 57] [] rfl rfl (by decide) (by decide) (fun r27 u H locs hok hw => ?_)
        obtain ⟨I27, J27, B27, D27⟩ := u
        dsimp only at hok
        have hw : zW G A s.heap (wM ad K I27 J27 B27 D27) H locs := hw
        refine lv_land hx hb zd_LassoFinderModel_doable_158 ?_
        refine lv_topl (fun z28 ez28 => ?_)
        have hok := hok z28 ez28
        refine lv_goto (tgt := 163) hx hb zd_LassoFinderModel_doable_159 (by decide) ?_
        exact wJ_LassoFinderModel_doable_163 G K ad  Post C z28 I27 J27 B27 D27 ls H locs hok (lv_sub hl [] rfl) hw
  · have hok := hok.2 hc21
    refine lv_lconst (v := 0) hx hb zd_LassoFinderModel_doable_12 (by decide) ?_
    refine lv_lstore hx hb zd_LassoFinderModel_doable_13 hl (by decide) rfl (fun ls hl => ?_)
    have hl : lv_has ls 10 [(4, .long 0), (0, .ref (ad 0)), (1, .long x1), (3, .int x3)] := hl
    refine lv_lconst (v := 0) hx hb zd_LassoFinderModel_doable_15 (by decide) ?_
    refine lv_lstore hx hb zd_LassoFinderModel_doable_16 hl (by decide) rfl (fun ls hl => ?_)
    have hl : lv_has ls 10 [(6, .long 0), (4, .long 0), (0, .ref (ad 0)), (1, .long x1), (3, .int x3)] := hl
    refine lv_iconst (v := 0) hx hb zd_LassoFinderModel_doable_18 (by decide) ?_
    refine lv_istore hx hb zd_LassoFinderModel_doable_19 hl (by decide) rfl (fun ls hl => ?_)
    have hl : lv_has ls 10 [(8, .int 0), (6, .long 0), (4, .long 0), (0, .ref (ad 0)), (1, .long x1), (3, .int x3)] := hl
    obtain ⟨n9, hok⟩ := hok
    exact wL_LassoFinderModel_doable_21 G K ad  Post C K4 kh4 n9 x1 x3 0 0 0 I J B D ls H locs hok (lv_sub hl [3, 4, 5, 2, 1, 0] rfl) hw
theorem wL_LassoFinderModel_doable_4 {p : Program} {l : Launch} {e : Env} {s : State} {m : MethodId} {below : List Frame} {meth : Method} {c : Code} {A : Nat → Prop} (G : va_G) (K : Nat → ClassId) (ad : Nat → Nat) (Post : Int64 → (Nat → Int32) → (Nat → Int64) → (Nat → Nat → Int32) → (Nat → Nat → Int64) → Prop) (C : zCx p s m ([.ref (ad 0)] : List Value).toArray meth c A G K prog_14_method_33_code (some .long) 10 "LassoFinderModel") : ∀ (n : Nat) (x1 : Int64) (x3 : Int32) (I : Nat → Int32) (J : Nat → Int64) (B : Nat → Nat → Int32) (D : Nat → Nat → Int64) (ls : Array Slot) (H : Heap) (locs : List Loc), wl_LassoFinderModel_doable_4  Post n x1 x3 I J B D → lv_has ls 10 [(0, .ref (ad 0)), (1, .long x1), (3, .int x3)] → zW G A s.heap (wM ad K I J B D) H locs → W p l e { frames := 3, cells := 0, slots := 0, locals := 67 } s m ([.ref (ad 0)] : List Value).toArray below meth c H locs 0 0 (MQ below (va_Ql (fun (r : Int64) (u : zS) => Post r u.1 u.2.1 u.2.2.1 u.2.2.2) (fun u t => zPost G K A (wM ad K u.1 u.2.1 u.2.2.1 u.2.2.2) t) A) ([.ref (ad 0)] : List Value).toArray s 0 0 A) (F0 m 4 ls []) := by
  intro n
  induction n with
  | zero => intro x1 x3 I J B D ls H locs hok; exact hok.elim
  | succ n ih => exact wB_LassoFinderModel_doable_4 G K ad  Post C (wl_LassoFinderModel_doable_4  Post n) ih
set_option maxHeartbeats 8000000 in
set_option maxRecDepth 100000 in
theorem w_LassoFinderModel_doable (l : Launch) (G : va_G) (K : Nat → ClassId) (ad : Nat → Nat) (I : Nat → Int32) (J : Nat → Int64) (B : Nat → Nat → Int32) (D : Nat → Nat → Int64) (Post : Int64 → (Nat → Int32) → (Nat → Int64) → (Nat → Nat → Int32) → (Nat → Nat → Int64) → Prop) (sz : Nat) (hok : wp_LassoFinderModel_doable I J B D  Post) : Met l zy_LassoFinderModel_doable (Cond.code zy_LassoFinderModel_doable prog_14_method_33_code 10 (some .long) :: zTB) { frames := 3, cells := 0, slots := 0, locals := 67 } (va_Pc [.ref (ad 0)] (zPre G K (wM ad K I J B D) sz)) (va_Ql (fun (r : Int64) (u : zS) => Post r u.1 u.2.1 u.2.2.1 u.2.2.2) (fun u t => zPost G K (va_A (wM ad K I J B D) sz) (wM ad K u.1 u.2.1 u.2.2.1 u.2.2.2) t) (va_A (wM ad K I J B D) sz)) 0 0 (va_A (wM ad K I J B D) sz) := by
  refine zMet (y := zy_LassoFinderModel_doable) (av := [.ref (ad 0)]) (maxL := 10) (cc := prog_14_method_33_code) (ret := (some .long)) (W0 := (wM ad K I J B D)) (sz := sz) (G := G) (K := K) (wt := zTB) (mc := 0) (ms := 0) (Qf := fun A => va_Ql (fun (r : Int64) (u : zS) => Post r u.1 u.2.1 u.2.2.1 u.2.2.2) (fun u t => zPost G K A (wM ad K u.1 u.2.1 u.2.2.1 u.2.2.2) t) A) (by decide) (Nat.le_of_ble_eq_true rfl) ?_
  intro p e s m below meth c ls A hx hb hr hml hts hown hlocks hin hA hK H locs hw hsz hl
  clear hsz
  have hown : s.vm.findClass "LassoFinderModel" = some m.cls := hown
  have C : zCx p s m ([.ref (ad 0)] : List Value).toArray meth c A G K prog_14_method_33_code (some .long) 10 "LassoFinderModel" := ⟨hx, hb, hr, hml, hts, hown, hlocks, hA, hK⟩
  have hl : lv_has ls 10 [(0, .ref (ad 0))] := hl
  have hw : zW G A s.heap (wM ad K I J B D) H locs := hw
  unfold wp_LassoFinderModel_doable at hok
  refine lv_lconst (v := 0) hx hb zd_LassoFinderModel_doable_0 (by decide) ?_
  refine lv_lstore_n hx hb zd_LassoFinderModel_doable_1 rfl hl (by decide) rfl (fun ls hl => ?_)
  have hl : lv_has ls 10 [(1, .long 0), (0, .ref (ad 0))] := hl
  refine lv_iconst (v := 0) hx hb zd_LassoFinderModel_doable_2 (by decide) ?_
  refine lv_istore_n hx hb zd_LassoFinderModel_doable_3 rfl hl (by decide) rfl (fun ls hl => ?_)
  have hl : lv_has ls 10 [(3, .int 0), (1, .long 0), (0, .ref (ad 0))] := hl
  obtain ⟨n9, hok⟩ := hok
  exact wL_LassoFinderModel_doable_4 G K ad  Post C n9 0 0 I J B D ls H locs hok (lv_sub hl [2, 1, 0] rfl) hw
def wc_LassoFinderModel_expand_192 (a0 : Int32) (Post : (Nat → Int32) → (Nat → Int64) → (Nat → Nat → Int32) → (Nat → Nat → Int64) → Prop)  (I : Nat → Int32) (J : Nat → Int64) (B : Nat → Nat → Int32) (D : Nat → Nat → Int64) : Prop :=
  Post I J B D
def wc_LassoFinderModel_expand_179 (a0 : Int32) (Post : (Nat → Int32) → (Nat → Int64) → (Nat → Nat → Int32) → (Nat → Nat → Int64) → Prop) (x1 : Int32) (x2 : Int64) (I : Nat → Int32) (J : Nat → Int64) (B : Nat → Nat → Int32) (D : Nat → Nat → Int64) : Prop :=
  ∀ z1 : Int32, z1 = (lg_cmp x2 0) → ((¬ z1 = 0 → wc_LassoFinderModel_expand_192 a0 Post I J B D) ∧ (z1 = 0 → wp_LassoFinderModel_step I J B D x1 (-1) (-1) (fun I3 J3 B3 D3 => wc_LassoFinderModel_expand_192 a0 Post I3 J3 B3 D3)))
def wc_LassoFinderModel_expand_173 (a0 : Int32) (K28 : Int32 → Int64 → Int32 → (Nat → Int32) → (Nat → Int64) → (Nat → Nat → Int32) → (Nat → Nat → Int64) → Prop) (Post : (Nat → Int32) → (Nat → Int64) → (Nat → Nat → Int32) → (Nat → Nat → Int64) → Prop) (x1 : Int32) (x2 : Int64) (x4 : Int32) (I : Nat → Int32) (J : Nat → Int64) (B : Nat → Nat → Int32) (D : Nat → Nat → Int64) : Prop :=
  ∀ z4 : Int32, z4 = (x4 + 1) → K28 x1 x2 z4 I J B D
def wc_LassoFinderModel_expand_167 (a0 : Int32) (K28 : Int32 → Int64 → Int32 → (Nat → Int32) → (Nat → Int64) → (Nat → Nat → Int32) → (Nat → Nat → Int64) → Prop) (K116 : Int32 → Int64 → Int32 → Int32 → Int32 → Int32 → (Nat → Int32) → (Nat → Int64) → (Nat → Nat → Int32) → (Nat → Nat → Int64) → Prop) (Post : (Nat → Int32) → (Nat → Int64) → (Nat → Nat → Int32) → (Nat → Nat → Int64) → Prop) (x1 : Int32) (x2 : Int64) (x4 : Int32) (x5 : Int32) (x6 : Int32) (x7 : Int32) (I : Nat → Int32) (J : Nat → Int64) (B : Nat → Nat → Int32) (D : Nat → Nat → Int64) : Prop :=
  ∀ z5 : Int32, z5 = (x7 + 1) → K116 x1 x2 x4 x5 x6 z5 I J B D
def wb_LassoFinderModel_expand_116 (a0 : Int32) (K116 : Int32 → Int64 → Int32 → Int32 → Int32 → Int32 → (Nat → Int32) → (Nat → Int64) → (Nat → Nat → Int32) → (Nat → Nat → Int64) → Prop) (K28 : Int32 → Int64 → Int32 → (Nat → Int32) → (Nat → Int64) → (Nat → Nat → Int32) → (Nat → Nat → Int64) → Prop) (Post : (Nat → Int32) → (Nat → Int64) → (Nat → Nat → Int32) → (Nat → Nat → Int64) → Prop) (x1 : Int32) (x2 : Int64) (x4 : Int32) (x5 : Int32) (x6 : Int32) (x7 : Int32) (I : Nat → Int32) (J : Nat → Int64) (B : Nat → Nat → Int32) (D : Nat → Nat → Int64) : Prop :=
  (((I 9) ≤ x7 → wc_LassoFinderModel_expand_173 a0 K28 Post x1 x2 x4 I J B D) ∧ (¬ (I 9) ≤ x7 → ((x6 = 0 → wc_LassoFinderModel_expand_173 a0 K28 Post x1 x2 x4 I J B D) ∧ (¬ x6 = 0 → ((¬ (I 16) = 0 → wc_LassoFinderModel_expand_173 a0 K28 Post x1 x2 x4 I J B D) ∧ ((I 16) = 0 → vp_in x1 97 ∧ ∀ z9 : Int64, z9 = ((D 1) x1.toNatClampNeg) → wp_LassoFinderModel_unpack I J B D z9 (fun I10 J10 B10 D10 => wp_LassoFinderModel_meets I10 J10 B10 D10 x5 x7 (fun r11 I11 J11 B11 D11 => ((r11 = 0 → wc_LassoFinderModel_expand_167 a0 K28 K116 Post x1 x2 x4 x5 x6 x7 I11 J11 B11 D11) ∧ (¬ r11 = 0 → wp_LassoFinderModel_step I11 J11 B11 D11 x1 x4 x7 (fun I13 J13 B13 D13 => wc_LassoFinderModel_expand_167 a0 K28 K116 Post x1 x2 x4 x5 x6 x7 I13 J13 B13 D13)))))))))))
def wl_LassoFinderModel_expand_116 (a0 : Int32) (K28 : Int32 → Int64 → Int32 → (Nat → Int32) → (Nat → Int64) → (Nat → Nat → Int32) → (Nat → Nat → Int64) → Prop) (Post : (Nat → Int32) → (Nat → Int64) → (Nat → Nat → Int32) → (Nat → Nat → Int64) → Prop) (n : Nat) : Int32 → Int64 → Int32 → Int32 → Int32 → Int32 → (Nat → Int32) → (Nat → Int64) → (Nat → Nat → Int32) → (Nat → Nat → Int64) → Prop := Nat.rec (fun _ _ _ _ _ _ _ _ _ _ => False) (fun _ r => wb_LassoFinderModel_expand_116 a0 r K28 Post) n
def wc_LassoFinderModel_expand_113 (a0 : Int32) (K28 : Int32 → Int64 → Int32 → (Nat → Int32) → (Nat → Int64) → (Nat → Nat → Int32) → (Nat → Nat → Int64) → Prop) (Post : (Nat → Int32) → (Nat → Int64) → (Nat → Nat → Int32) → (Nat → Nat → Int64) → Prop) (x1 : Int32) (x2 : Int64) (x4 : Int32) (x5 : Int32) (x6 : Int32) (I : Nat → Int32) (J : Nat → Int64) (B : Nat → Nat → Int32) (D : Nat → Nat → Int64) : Prop :=
  ∃ n : Nat, wl_LassoFinderModel_expand_116 a0 K28 Post n x1 x2 x4 x5 x6 0 I J B D
def wc_LassoFinderModel_expand_98 (a0 : Int32) (K28 : Int32 → Int64 → Int32 → (Nat → Int32) → (Nat → Int64) → (Nat → Nat → Int32) → (Nat → Nat → Int64) → Prop) (Post : (Nat → Int32) → (Nat → Int64) → (Nat → Nat → Int32) → (Nat → Nat → Int64) → Prop) (x1 : Int32) (x2 : Int64) (x4 : Int32) (x5 : Int32) (y0 : Int32) (I : Nat → Int32) (J : Nat → Int64) (B : Nat → Nat → Int32) (D : Nat → Nat → Int64) : Prop :=
  ((¬ y0 = 0 → wc_LassoFinderModel_expand_113 a0 K28 Post x1 x2 x4 x5 y0 I J B D) ∧ (y0 = 0 → wp_LassoFinderModel_step I J B D x1 x4 (-1) (fun I15 J15 B15 D15 => wc_LassoFinderModel_expand_113 a0 K28 Post x1 x2 x4 x5 y0 I15 J15 B15 D15)))
def wc_LassoFinderModel_expand_97 (a0 : Int32) (K28 : Int32 → Int64 → Int32 → (Nat → Int32) → (Nat → Int64) → (Nat → Nat → Int32) → (Nat → Nat → Int64) → Prop) (Post : (Nat → Int32) → (Nat → Int64) → (Nat → Nat → Int32) → (Nat → Nat → Int64) → Prop) (x1 : Int32) (x2 : Int64) (x4 : Int32) (x5 : Int32) (I : Nat → Int32) (J : Nat → Int64) (B : Nat → Nat → Int32) (D : Nat → Nat → Int64) : Prop :=
  wc_LassoFinderModel_expand_98 a0 K28 Post x1 x2 x4 x5 0 I J B D
def wb_LassoFinderModel_expand_28 (a0 : Int32) (K28 : Int32 → Int64 → Int32 → (Nat → Int32) → (Nat → Int64) → (Nat → Nat → Int32) → (Nat → Nat → Int64) → Prop) (Post : (Nat → Int32) → (Nat → Int64) → (Nat → Nat → Int32) → (Nat → Nat → Int64) → Prop) (x1 : Int32) (x2 : Int64) (x4 : Int32) (I : Nat → Int32) (J : Nat → Int64) (B : Nat → Nat → Int32) (D : Nat → Nat → Int64) : Prop :=
  (((I 9) ≤ x4 → wc_LassoFinderModel_expand_179 a0 Post x1 x2 I J B D) ∧ (¬ (I 9) ≤ x4 → ((¬ (I 16) = 0 → wc_LassoFinderModel_expand_179 a0 Post x1 x2 I J B D) ∧ ((I 16) = 0 → ∀ z18 : Int64, z18 = (x2 >>> (x4.toInt64 &&& 63)) → ∀ z19 : Int64, z19 = (z18 &&& 1) → ∀ z20 : Int32, z20 = (lg_cmp z19 0) → ((¬ z20 = 0 → vp_in x4 48 ∧ ∀ z22 : Int32, z22 = ((B 18) x4.toNatClampNeg) → vp_in z22 140 ∧ ∀ z23 : Int32, z23 = ((B 5) z22.toNatClampNeg) → ((¬ z23 = 2 → wc_LassoFinderModel_expand_97 a0 K28 Post x1 x2 x4 z22 I J B D) ∧ (z23 = 2 → vp_in z22 140 ∧ ∀ z25 : Int32, z25 = ((B 12) z22.toNatClampNeg) → vp_in z25 2 ∧ ∀ z26 : Int32, z26 = ((B 4) z25.toNatClampNeg) → ((¬ z26 = 0 → wc_LassoFinderModel_expand_97 a0 K28 Post x1 x2 x4 z22 I J B D) ∧ (z26 = 0 → wc_LassoFinderModel_expand_98 a0 K28 Post x1 x2 x4 z22 1 I J B D))))) ∧ (z20 = 0 → wc_LassoFinderModel_expand_173 a0 K28 Post x1 x2 x4 I J B D))))))
def wl_LassoFinderModel_expand_28 (a0 : Int32) (Post : (Nat → Int32) → (Nat → Int64) → (Nat → Nat → Int32) → (Nat → Nat → Int64) → Prop) (n : Nat) : Int32 → Int64 → Int32 → (Nat → Int32) → (Nat → Int64) → (Nat → Nat → Int32) → (Nat → Nat → Int64) → Prop := Nat.rec (fun _ _ _ _ _ _ _ => False) (fun _ r => wb_LassoFinderModel_expand_28 a0 r Post) n
def wp_LassoFinderModel_expand (I : Nat → Int32) (J : Nat → Int64) (B : Nat → Nat → Int32) (D : Nat → Nat → Int64) (a0 : Int32) (Post : (Nat → Int32) → (Nat → Int64) → (Nat → Nat → Int32) → (Nat → Nat → Int64) → Prop) : Prop :=
  vp_in a0 98 ∧ vp_in a0 97 ∧ ∀ z28 : Int64, z28 = ((D 1) a0.toNatClampNeg) → wp_LassoFinderModel_unpack I J (va_up B 29 (upd (B 29) a0.toNatClampNeg (I 15))) D z28 (fun I29 J29 B29 D29 => wp_LassoFinderModel_doable I29 J29 B29 D29  (fun r30 I30 J30 B30 D30 => ∃ n : Nat, wl_LassoFinderModel_expand_28 a0 Post n a0 r30 0 I30 J30 B30 D30))
set_option maxHeartbeats 8000000 in
set_option maxRecDepth 100000 in
theorem wJ_LassoFinderModel_expand_192 {p : Program} {l : Launch} {e : Env} {s : State} {m : MethodId} {below : List Frame} {meth : Method} {c : Code} {A : Nat → Prop} (G : va_G) (K : Nat → ClassId) (ad : Nat → Nat) (a0 : Int32) (Post : (Nat → Int32) → (Nat → Int64) → (Nat → Nat → Int32) → (Nat → Nat → Int64) → Prop) (C : zCx p s m ([.ref (ad 0), .int a0] : List Value).toArray meth c A G K prog_14_method_37_code none 8 "LassoFinderModel") : ∀  (I : Nat → Int32) (J : Nat → Int64) (B : Nat → Nat → Int32) (D : Nat → Nat → Int64) (ls : Array Slot) (H : Heap) (locs : List Loc), wc_LassoFinderModel_expand_192 a0 Post  I J B D → lv_has ls 8 [] → zW G A s.heap (wM ad K I J B D) H locs → W p l e { frames := 4, cells := 0, slots := 0, locals := 96 } s m ([.ref (ad 0), .int a0] : List Value).toArray below meth c H locs 0 0 (MQ below (va_Qv (fun u : zS => Post u.1 u.2.1 u.2.2.1 u.2.2.2) (fun u t => zPost G K A (wM ad K u.1 u.2.1 u.2.2.1 u.2.2.2) t) A) ([.ref (ad 0), .int a0] : List Value).toArray s 0 0 A) (F0 m 192 ls []) := by
  obtain ⟨hx, hb, hr, hml, hts, hown, hlocks, hA, hK⟩ := id C
  intro  I J B D ls H locs hok hl hw
  unfold wc_LassoFinderModel_expand_192 at hok
  exact z_vret (u := (I, J, B, D)) hx hb hr hlocks hw [0, 1, 2, 3, 4, 5, 6, 7, 8, 9, 10, 11, 12, 13, 14, 15, 16, 17, 18, 19, 20, 21, 22, 23, 24, 25, 26, 27, 28, 29, 30, 31, 32, 33, 34, 35, 36, 37, 38, 39, 40, 41, 42, 43, 44, 45, 46, 47, 48, 49, 50, 51, 52, 53, 54, 55, 56, 57] rfl (by decide) hok (Nat.le_of_ble_eq_true rfl) (Nat.le_of_ble_eq_true rfl) zd_LassoFinderModel_expand_192
set_option maxHeartbeats 8000000 in
set_option maxRecDepth 100000 in
theorem wJ_LassoFinderModel_expand_179 {p : Program} {l : Launch} {e : Env} {s : State} {m : MethodId} {below : List Frame} {meth : Method} {c : Code} {A : Nat → Prop} (G : va_G) (K : Nat → ClassId) (ad : Nat → Nat) (a0 : Int32) (Post : (Nat → Int32) → (Nat → Int64) → (Nat → Nat → Int32) → (Nat → Nat → Int64) → Prop) (C : zCx p s m ([.ref (ad 0), .int a0] : List Value).toArray meth c A G K prog_14_method_37_code none 8 "LassoFinderModel") : ∀ (x1 : Int32) (x2 : Int64) (I : Nat → Int32) (J : Nat → Int64) (B : Nat → Nat → Int32) (D : Nat → Nat → Int64) (ls : Array Slot) (H : Heap) (locs : List Loc), wc_LassoFinderModel_expand_179 a0 Post x1 x2 I J B D → lv_has ls 8 [(0, .ref (ad 0)), (1, .int x1), (2, .long x2)] → zW G A s.heap (wM ad K I J B D) H locs → W p l e { frames := 4, cells := 0, slots := 0, locals := 96 } s m ([.ref (ad 0), .int a0] : List Value).toArray below meth c H locs 0 0 (MQ below (va_Qv (fun u : zS => Post u.1 u.2.1 u.2.2.1 u.2.2.2) (fun u t => zPost G K A (wM ad K u.1 u.2.1 u.2.2.1 u.2.2.2) t) A) ([.ref (ad 0), .int a0] : List Value).toArray s 0 0 A) (F0 m 179 ls []) := by
  obtain ⟨hx, hb, hr, hml, hts, hown, hlocks, hA, hK⟩ := id C
  intro x1 x2 I J B D ls H locs hok hl hw
  unfold wc_LassoFinderModel_expand_179 at hok
  refine lv_lload_n hx hb zd_LassoFinderModel_expand_179 rfl (lv_at hl 2 rfl) ?_
  refine lv_lconst (v := 0) hx hb zd_LassoFinderModel_expand_180 (by decide) ?_
  refine W.lcmp hx hb zd_LassoFinderModel_expand_181 ?_
  refine lv_topi (fun z1 ez1 => ?_)
  have hok := hok z1 ez1
  refine lv_if_ne (tgt := 192) hx hb zd_LassoFinderModel_expand_182 (by decide) (fun hc2 => ?_) (fun hc2 => ?_)
  · have hok := hok.1 hc2
    exact wJ_LassoFinderModel_expand_192 G K ad a0 Post C I J B D ls H locs hok (lv_sub hl [] rfl) hw
  · have hok := hok.2 hc2
    refine lv_aload_n hx hb zd_LassoFinderModel_expand_185 rfl (lv_at hl 0 rfl) ?_
    refine lv_iload_n hx hb zd_LassoFinderModel_expand_186 rfl (lv_at hl 1 rfl) ?_
    refine lv_iconst (v := (-1)) hx hb zd_LassoFinderModel_expand_187 (by decide) ?_
    refine lv_iconst (v := (-1)) hx hb zd_LassoFinderModel_expand_188 (by decide) ?_
    refine z_callv (w1 := fun (u : zS) => wM ad K u.1 u.2.1 u.2.2.1 u.2.2.2) (wr := []) (z_runV (q0 := 0) (wc := (wM ad K I J B D)) (As := [.int x1, .int (-1), .int (-1)]) (rest := []) ⟨hx, hb, hml, hown, hts⟩ (w_LassoFinderModel_step l G K ad I J B D x1 (-1) (-1) _ H.size hok) zf_LassoFinderModel_step zm_317 ⟨Nat.le_of_ble_eq_true rfl, Nat.le_of_ble_eq_true rfl⟩ hK hw [0, 1, 2, 3, 4, 5, 6, 7, 8, 9, 10, 11, 12, 13, 14, 15, 16, 17, 18, 19, 20, 21, 22, 23, 24, 25, 26, 27, 28, 29, 30, 31, 32, 33, 34, 35, 36, 37, 38, 39, 40, 41, 42, 43, 44, 45, 46, 47, 48, 49, 50, 51, 52, 53, 54, 55, 56, 57] rfl (by decide) rfl rfl rfl hl.1 rfl (Nat.le_of_ble_eq_true rfl) zd_LassoFinderModel_expand_189 ⟨Nat.le_of_ble_eq_true rfl, Nat.le_of_ble_eq_true rfl⟩) hw hA [0, 1, 2, 3, 4, 5, 6, 7, 8, 9, 10, 11, 12, 13, 14, 15, 16, 17, 18, 19, 20, 21, 22, 23, 24, 25, 26, 27, 28, 29, 30, 31, 32, 33, 34, 35, 36, 37, 38, 39, 40, 41, 42, 43, 44, 45, 46, 47, 48, 49, 50, 51, 52, 53, 54, 55, 56, 57] [] rfl rfl (by decide) (by decide) (fun u H locs hok hw => ?_)
    obtain ⟨I3, J3, B3, D3⟩ := u
    dsimp only at hok
    have hw : zW G A s.heap (wM ad K I3 J3 B3 D3) H locs := hw
    exact wJ_LassoFinderModel_expand_192 G K ad a0 Post C I3 J3 B3 D3 ls H locs hok (lv_sub hl [] rfl) hw
set_option maxHeartbeats 8000000 in
set_option maxRecDepth 100000 in
theorem wJ_LassoFinderModel_expand_173 {p : Program} {l : Launch} {e : Env} {s : State} {m : MethodId} {below : List Frame} {meth : Method} {c : Code} {A : Nat → Prop} (G : va_G) (K : Nat → ClassId) (ad : Nat → Nat) (a0 : Int32) (Post : (Nat → Int32) → (Nat → Int64) → (Nat → Nat → Int32) → (Nat → Nat → Int64) → Prop) (C : zCx p s m ([.ref (ad 0), .int a0] : List Value).toArray meth c A G K prog_14_method_37_code none 8 "LassoFinderModel") (K28 : Int32 → Int64 → Int32 → (Nat → Int32) → (Nat → Int64) → (Nat → Nat → Int32) → (Nat → Nat → Int64) → Prop) (kh28 : ∀ (x1 : Int32) (x2 : Int64) (x4 : Int32) (I : Nat → Int32) (J : Nat → Int64) (B : Nat → Nat → Int32) (D : Nat → Nat → Int64) (ls : Array Slot) (H : Heap) (locs : List Loc), K28 x1 x2 x4 I J B D → lv_has ls 8 [(0, .ref (ad 0)), (1, .int x1), (2, .long x2), (4, .int x4)] → zW G A s.heap (wM ad K I J B D) H locs → W p l e { frames := 4, cells := 0, slots := 0, locals := 96 } s m ([.ref (ad 0), .int a0] : List Value).toArray below meth c H locs 0 0 (MQ below (va_Qv (fun u : zS => Post u.1 u.2.1 u.2.2.1 u.2.2.2) (fun u t => zPost G K A (wM ad K u.1 u.2.1 u.2.2.1 u.2.2.2) t) A) ([.ref (ad 0), .int a0] : List Value).toArray s 0 0 A) (F0 m 28 ls [])) : ∀ (x1 : Int32) (x2 : Int64) (x4 : Int32) (I : Nat → Int32) (J : Nat → Int64) (B : Nat → Nat → Int32) (D : Nat → Nat → Int64) (ls : Array Slot) (H : Heap) (locs : List Loc), wc_LassoFinderModel_expand_173 a0 K28 Post x1 x2 x4 I J B D → lv_has ls 8 [(0, .ref (ad 0)), (1, .int x1), (2, .long x2), (4, .int x4)] → zW G A s.heap (wM ad K I J B D) H locs → W p l e { frames := 4, cells := 0, slots := 0, locals := 96 } s m ([.ref (ad 0), .int a0] : List Value).toArray below meth c H locs 0 0 (MQ below (va_Qv (fun u : zS => Post u.1 u.2.1 u.2.2.1 u.2.2.2) (fun u t => zPost G K A (wM ad K u.1 u.2.1 u.2.2.1 u.2.2.2) t) A) ([.ref (ad 0), .int a0] : List Value).toArray s 0 0 A) (F0 m 173 ls []) := by
  obtain ⟨hx, hb, hr, hml, hts, hown, hlocks, hA, hK⟩ := id C
  intro x1 x2 x4 I J B D ls H locs hok hl hw
  unfold wc_LassoFinderModel_expand_173 at hok
  obtain ⟨z4, ez4⟩ : ∃ z : Int32, z = (x4 + 1) := ⟨_, rfl⟩
  have hok := hok z4 ez4
  refine lv_iinc (v := z4) hx hb zd_LassoFinderModel_expand_173 hl (k := 3) rfl ez4.symm (by decide) rfl (fun ls hl => ?_)
  have hl : lv_has ls 8 [(4, .int z4), (0, .ref (ad 0)), (1, .int x1), (2, .long x2)] := hl
  refine lv_goto (tgt := 28) hx hb zd_LassoFinderModel_expand_176 (by decide) ?_
  exact kh28 x1 x2 z4 I J B D ls H locs hok (lv_sub hl [1, 2, 3, 0] rfl) hw
set_option maxHeartbeats 8000000 in
set_option maxRecDepth 100000 in
theorem wJ_LassoFinderModel_expand_167 {p : Program} {l : Launch} {e : Env} {s : State} {m : MethodId} {below : List Frame} {meth : Method} {c : Code} {A : Nat → Prop} (G : va_G) (K : Nat → ClassId) (ad : Nat → Nat) (a0 : Int32) (Post : (Nat → Int32) → (Nat → Int64) → (Nat → Nat → Int32) → (Nat → Nat → Int64) → Prop) (C : zCx p s m ([.ref (ad 0), .int a0] : List Value).toArray meth c A G K prog_14_method_37_code none 8 "LassoFinderModel") (K28 : Int32 → Int64 → Int32 → (Nat → Int32) → (Nat → Int64) → (Nat → Nat → Int32) → (Nat → Nat → Int64) → Prop) (kh28 : ∀ (x1 : Int32) (x2 : Int64) (x4 : Int32) (I : Nat → Int32) (J : Nat → Int64) (B : Nat → Nat → Int32) (D : Nat → Nat → Int64) (ls : Array Slot) (H : Heap) (locs : List Loc), K28 x1 x2 x4 I J B D → lv_has ls 8 [(0, .ref (ad 0)), (1, .int x1), (2, .long x2), (4, .int x4)] → zW G A s.heap (wM ad K I J B D) H locs → W p l e { frames := 4, cells := 0, slots := 0, locals := 96 } s m ([.ref (ad 0), .int a0] : List Value).toArray below meth c H locs 0 0 (MQ below (va_Qv (fun u : zS => Post u.1 u.2.1 u.2.2.1 u.2.2.2) (fun u t => zPost G K A (wM ad K u.1 u.2.1 u.2.2.1 u.2.2.2) t) A) ([.ref (ad 0), .int a0] : List Value).toArray s 0 0 A) (F0 m 28 ls [])) (K116 : Int32 → Int64 → Int32 → Int32 → Int32 → Int32 → (Nat → Int32) → (Nat → Int64) → (Nat → Nat → Int32) → (Nat → Nat → Int64) → Prop) (kh116 : ∀ (x1 : Int32) (x2 : Int64) (x4 : Int32) (x5 : Int32) (x6 : Int32) (x7 : Int32) (I : Nat → Int32) (J : Nat → Int64) (B : Nat → Nat → Int32) (D : Nat → Nat → Int64) (ls : Array Slot) (H : Heap) (locs : List Loc), K116 x1 x2 x4 x5 x6 x7 I J B D → lv_has ls 8 [(0, .ref (ad 0)), (1, .int x1), (2, .long x2), (4, .int x4), (5, .int x5), (6, .int x6), (7, .int x7)] → zW G A s.heap (wM ad K I J B D) H locs → W p l e { frames := 4, cells := 0, slots := 0, locals := 96 } s m ([.ref (ad 0), .int a0] : List Value).toArray below meth c H locs 0 0 (MQ below (va_Qv (fun u : zS => Post u.1 u.2.1 u.2.2.1 u.2.2.2) (fun u t => zPost G K A (wM ad K u.1 u.2.1 u.2.2.1 u.2.2.2) t) A) ([.ref (ad 0), .int a0] : List Value).toArray s 0 0 A) (F0 m 116 ls [])) : ∀ (x1 : Int32) (x2 : Int64) (x4 : Int32) (x5 : Int32) (x6 : Int32) (x7 : Int32) (I : Nat → Int32) (J : Nat → Int64) (B : Nat → Nat → Int32) (D : Nat → Nat → Int64) (ls : Array Slot) (H : Heap) (locs : List Loc), wc_LassoFinderModel_expand_167 a0 K28 K116 Post x1 x2 x4 x5 x6 x7 I J B D → lv_has ls 8 [(0, .ref (ad 0)), (1, .int x1), (2, .long x2), (4, .int x4), (5, .int x5), (6, .int x6), (7, .int x7)] → zW G A s.heap (wM ad K I J B D) H locs → W p l e { frames := 4, cells := 0, slots := 0, locals := 96 } s m ([.ref (ad 0), .int a0] : List Value).toArray below meth c H locs 0 0 (MQ below (va_Qv (fun u : zS => Post u.1 u.2.1 u.2.2.1 u.2.2.2) (fun u t => zPost G K A (wM ad K u.1 u.2.1 u.2.2.1 u.2.2.2) t) A) ([.ref (ad 0), .int a0] : List Value).toArray s 0 0 A) (F0 m 167 ls []) := by
  obtain ⟨hx, hb, hr, hml, hts, hown, hlocks, hA, hK⟩ := id C
  intro x1 x2 x4 x5 x6 x7 I J B D ls H locs hok hl hw
  unfold wc_LassoFinderModel_expand_167 at hok
  obtain ⟨z5, ez5⟩ : ∃ z : Int32, z = (x7 + 1) := ⟨_, rfl⟩
  have hok := hok z5 ez5
  refine lv_iinc (v := z5) hx hb zd_LassoFinderModel_expand_167 hl (k := 6) rfl ez5.symm (by decide) rfl (fun ls hl => ?_)
  have hl : lv_has ls 8 [(7, .int z5), (0, .ref (ad 0)), (1, .int x1), (2, .long x2), (4, .int x4), (5, .int x5), (6, .int x6)] := hl
  refine lv_goto (tgt := 116) hx hb zd_LassoFinderModel_expand_170 (by decide) ?_
  exact kh116 x1 x2 x4 x5 x6 z5 I J B D ls H locs hok (lv_sub hl [1, 2, 3, 4, 5, 6, 0] rfl) hw
set_option maxHeartbeats 8000000 in
set_option maxRecDepth 100000 in
theorem wB_LassoFinderModel_expand_116 {p : Program} {l : Launch} {e : Env} {s : State} {m : MethodId} {below : List Frame} {meth : Method} {c : Code} {A : Nat → Prop} (G : va_G) (K : Nat → ClassId) (ad : Nat → Nat) (a0 : Int32) (Post : (Nat → Int32) → (Nat → Int64) → (Nat → Nat → Int32) → (Nat → Nat → Int64) → Prop) (C : zCx p s m ([.ref (ad 0), .int a0] : List Value).toArray meth c A G K prog_14_method_37_code none 8 "LassoFinderModel") (K28 : Int32 → Int64 → Int32 → (Nat → Int32) → (Nat → Int64) → (Nat → Nat → Int32) → (Nat → Nat → Int64) → Prop) (kh28 : ∀ (x1 : Int32) (x2 : Int64) (x4 : Int32) (I : Nat → Int32) (J : Nat → Int64) (B : Nat → Nat → Int32) (D : Nat → Nat → Int64) (ls : Array Slot) (H : Heap) (locs : List Loc), K28 x1 x2 x4 I J B D → lv_has ls 8 [(0, .ref (ad 0)), (1, .int x1), (2, .long x2), (4, .int x4)] → zW G A s.heap (wM ad K I J B D) H locs → W p l e { frames := 4, cells := 0, slots := 0, locals := 96 } s m ([.ref (ad 0), .int a0] : List Value).toArray below meth c H locs 0 0 (MQ below (va_Qv (fun u : zS => Post u.1 u.2.1 u.2.2.1 u.2.2.2) (fun u t => zPost G K A (wM ad K u.1 u.2.1 u.2.2.1 u.2.2.2) t) A) ([.ref (ad 0), .int a0] : List Value).toArray s 0 0 A) (F0 m 28 ls [])) (K116 : Int32 → Int64 → Int32 → Int32 → Int32 → Int32 → (Nat → Int32) → (Nat → Int64) → (Nat → Nat → Int32) → (Nat → Nat → Int64) → Prop) (kh116 : ∀ (x1 : Int32) (x2 : Int64) (x4 : Int32) (x5 : Int32) (x6 : Int32) (x7 : Int32) (I : Nat → Int32) (J : Nat → Int64) (B : Nat → Nat → Int32) (D : Nat → Nat → Int64) (ls : Array Slot) (H : Heap) (locs : List Loc), K116 x1 x2 x4 x5 x6 x7 I J B D → lv_has ls 8 [(0, .ref (ad 0)), (1, .int x1), (2, .long x2), (4, .int x4), (5, .int x5), (6, .int x6), (7, .int x7)] → zW G A s.heap (wM ad K I J B D) H locs → W p l e { frames := 4, cells := 0, slots := 0, locals := 96 } s m ([.ref (ad 0), .int a0] : List Value).toArray below meth c H locs 0 0 (MQ below (va_Qv (fun u : zS => Post u.1 u.2.1 u.2.2.1 u.2.2.2) (fun u t => zPost G K A (wM ad K u.1 u.2.1 u.2.2.1 u.2.2.2) t) A) ([.ref (ad 0), .int a0] : List Value).toArray s 0 0 A) (F0 m 116 ls [])) : ∀ (x1 : Int32) (x2 : Int64) (x4 : Int32) (x5 : Int32) (x6 : Int32) (x7 : Int32) (I : Nat → Int32) (J : Nat → Int64) (B : Nat → Nat → Int32) (D : Nat → Nat → Int64) (ls : Array Slot) (H : Heap) (locs : List Loc), wb_LassoFinderModel_expand_116 a0 K116 K28 Post x1 x2 x4 x5 x6 x7 I J B D → lv_has ls 8 [(0, .ref (ad 0)), (1, .int x1), (2, .long x2), (4, .int x4), (5, .int x5), (6, .int x6), (7, .int x7)] → zW G A s.heap (wM ad K I J B D) H locs → W p l e { frames := 4, cells := 0, slots := 0, locals := 96 } s m ([.ref (ad 0), .int a0] : List Value).toArray below meth c H locs 0 0 (MQ below (va_Qv (fun u : zS => Post u.1 u.2.1 u.2.2.1 u.2.2.2) (fun u t => zPost G K A (wM ad K u.1 u.2.1 u.2.2.1 u.2.2.2) t) A) ([.ref (ad 0), .int a0] : List Value).toArray s 0 0 A) (F0 m 116 ls []) := by
  obtain ⟨hx, hb, hr, hml, hts, hown, hlocks, hA, hK⟩ := id C
  intro x1 x2 x4 x5 x6 x7 I J B D ls H locs hok hl hw
  unfold wb_LassoFinderModel_expand_116 at hok
  refine lv_iload hx hb zd_LassoFinderModel_expand_116 (lv_at hl 6 rfl) ?_
  refine lv_aload_n hx hb zd_LassoFinderModel_expand_118 rfl (lv_at hl 0 rfl) ?_
  refine z_get (v := .int (I 9)) hx hb hts hown hK hw zZ12 0 rfl 27 (by decide) zm_303 rfl zd_LassoFinderModel_expand_119 ?_
  refine lv_icmp_ge (tgt := 173) hx hb zd_LassoFinderModel_expand_122 (by decide) (fun hc6 => ?_) (fun hc6 => ?_)
  · have hok := hok.1 hc6
    exact wJ_LassoFinderModel_expand_173 G K ad a0 Post C K28 kh28 x1 x2 x4 I J B D ls H locs hok (lv_sub hl [0, 1, 2, 3] rfl) hw
  · have hok := hok.2 hc6
    refine lv_iload hx hb zd_LassoFinderModel_expand_125 (lv_at hl 5 rfl) ?_
    refine lv_if_eq (tgt := 173) hx hb zd_LassoFinderModel_expand_127 (by decide) (fun hc7 => ?_) (fun hc7 => ?_)
    · have hok := hok.1 hc7
      exact wJ_LassoFinderModel_expand_173 G K ad a0 Post C K28 kh28 x1 x2 x4 I J B D ls H locs hok (lv_sub hl [0, 1, 2, 3] rfl) hw
    · have hok := hok.2 hc7
      refine lv_aload_n hx hb zd_LassoFinderModel_expand_130 rfl (lv_at hl 0 rfl) ?_
      refine z_get (v := .int (I 16)) hx hb hts hown hK hw zZ12 0 rfl 46 (by decide) zm_312 rfl zd_LassoFinderModel_expand_131 ?_
      refine lv_if_ne (tgt := 173) hx hb zd_LassoFinderModel_expand_134 (by decide) (fun hc8 => ?_) (fun hc8 => ?_)
      · have hok := hok.1 hc8
        exact wJ_LassoFinderModel_expand_173 G K ad a0 Post C K28 kh28 x1 x2 x4 I J B D ls H locs hok (lv_sub hl [0, 1, 2, 3] rfl) hw
      · have hok := hok.2 hc8
        refine lv_aload_n hx hb zd_LassoFinderModel_expand_137 rfl (lv_at hl 0 rfl) ?_
        refine lv_aload_n hx hb zd_LassoFinderModel_expand_138 rfl (lv_at hl 0 rfl) ?_
        refine z_get (v := .ref (ad 31)) hx hb hts hown hK hw zZ12 0 rfl 47 (by decide) zm_265 rfl zd_LassoFinderModel_expand_139 ?_
        refine lv_iload_n hx hb zd_LassoFinderModel_expand_142 rfl (lv_at hl 1 rfl) ?_
        refine va_lald (f := (D 1)) hx hb hK hw.1 31 1 rfl rfl hok.1 zd_LassoFinderModel_expand_143 ?_
        have hok := hok.2
        refine lv_topl (fun z9 ez9 => ?_)
        have hok := hok z9 ez9
        refine z_callv (w1 := fun (u : zS) => wM ad K u.1 u.2.1 u.2.2.1 u.2.2.2) (wr := []) (z_runV (q0 := 0) (wc := (wM ad K I J B D)) (As := [.long z9]) (rest := []) ⟨hx, hb, hml, hown, hts⟩ (w_LassoFinderModel_unpack l G K ad I J B D z9 _ H.size hok) zf_LassoFinderModel_unpack zm_315 ⟨Nat.le_of_ble_eq_true rfl, Nat.le_of_ble_eq_true rfl⟩ hK hw [0, 1, 2, 3, 4, 5, 6, 7, 8, 9, 10, 11, 12, 13, 14, 15, 16, 17, 18, 19, 20, 21, 22, 23, 24, 25, 26, 27, 28, 29, 30, 31, 32, 33, 34, 35, 36, 37, 38, 39, 40, 41, 42, 43, 44, 45, 46, 47, 48, 49, 50, 51, 52, 53, 54, 55, 56, 57] rfl (by decide) rfl rfl rfl hl.1 rfl (Nat.le_of_ble_eq_true rfl) zd_LassoFinderModel_expand_144 ⟨Nat.le_of_ble_eq_true rfl, Nat.le_of_ble_eq_true rfl⟩) hw hA [0, 1, 2, 3, 4, 5, 6, 7, 8, 9, 10, 11, 12, 13, 14, 15, 16, 17, 18, 19, 20, 21, 22, 23, 24, 25, 26, 27, 28, 29, 30, 31, 32, 33, 34, 35, 36, 37, 38, 39, 40, 41, 42, 43, 44, 45, 46, 47, 48, 49, 50, 51, 52, 53, 54, 55, 56, 57] [] rfl rfl (by decide) (by decide) (fun u H locs hok hw => ?_)
        obtain ⟨I10, J10, B10, D10⟩ := u
        dsimp only at hok
        have hw : zW G A s.heap (wM ad K I10 J10 B10 D10) H locs := hw
        refine lv_aload_n hx hb zd_LassoFinderModel_expand_147 rfl (lv_at hl 0 rfl) ?_
        refine lv_iload hx hb zd_LassoFinderModel_expand_148 (lv_at hl 4 rfl) ?_
        refine lv_iload hx hb zd_LassoFinderModel_expand_150 (lv_at hl 6 rfl) ?_
        refine z_calli (w1 := fun (u : zS) => wM ad K u.1 u.2.1 u.2.2.1 u.2.2.2) (wr := []) (z_runV (q0 := 0) (wc := (wM ad K I10 J10 B10 D10)) (As := [.int x5, .int x7]) (rest := []) ⟨hx, hb, hml, hown, hts⟩ (w_LassoFinderModel_meets l G K ad I10 J10 B10 D10 x5 x7 _ H.size hok) zf_LassoFinderModel_meets zm_318 ⟨Nat.le_of_ble_eq_true rfl, Nat.le_of_ble_eq_true rfl⟩ hK hw [0, 1, 2, 3, 4, 5, 6, 7, 8, 9, 10, 11, 12, 13, 14, 15, 16, 17, 18, 19, 20, 21, 22, 23, 24, 25, 26, 27, 28, 29, 30, 31, 32, 33, 34, 35, 36, 37, 38, 39, 40, 41, 42, 43, 44, 45, 46, 47, 48, 49, 50, 51, 52, 53, 54, 55, 56, 57] rfl (by decide) rfl rfl rfl hl.1 rfl (Nat.le_of_ble_eq_true rfl) zd_LassoFinderModel_expand_152 ⟨Nat.le_of_ble_eq_true rfl, Nat.le_of_ble_eq_true rfl⟩) hw hA [0, 1, 2, 3, 4, 5, 6, 7, 8, 9, 10, 11, 12, 13, 14, 15, 16, 17, 18, 19, 20, 21, 22, 23, 24, 25, 26, 27, 28, 29, 30, 31, 32, 33, 34, 35, 36, 37, 38, 39, 40, 41, 42, 43, 44, 45, 46, 47, 48, 49, 50, 51, 52, 53, 54, 55, 56, 57] [] rfl rfl (by decide) (by decide) (fun r11 u H locs hok hw => ?_)
        obtain ⟨I11, J11, B11, D11⟩ := u
        dsimp only at hok
        have hw : zW G A s.heap (wM ad K I11 J11 B11 D11) H locs := hw
        refine lv_if_eq (tgt := 167) hx hb zd_LassoFinderModel_expand_155 (by decide) (fun hc12 => ?_) (fun hc12 => ?_)
        · have hok := hok.1 hc12
          exact wJ_LassoFinderModel_expand_167 G K ad a0 Post C K28 kh28 K116 kh116 x1 x2 x4 x5 x6 x7 I11 J11 B11 D11 ls H locs hok (lv_sub hl [0, 1, 2, 3, 4, 5, 6] rfl) hw
        · have hok := hok.2 hc12
          refine lv_aload_n hx hb zd_LassoFinderModel_expand_158 rfl (lv_at hl 0 rfl) ?_
          refine lv_iload_n hx hb zd_LassoFinderModel_expand_159 rfl (lv_at hl 1 rfl) ?_
          refine lv_iload hx hb zd_LassoFinderModel_expand_160 (lv_at hl 3 rfl) ?_
          refine lv_iload hx hb zd_LassoFinderModel_expand_162 (lv_at hl 6 rfl) ?_
          refine z_callv (w1 := fun (u : zS) => wM ad K u.1 u.2.1 u.2.2.1 u.2.2.2) (wr := []) (z_runV (q0 := 0) (wc := (wM ad K I11 J11 B11 D11)) (As := [.int x1, .int x4, .int x7]) (rest := []) ⟨hx, hb, hml, hown, hts⟩ (w_LassoFinderModel_step l G K ad I11 J11 B11 D11 x1 x4 x7 _ H.size hok) zf_LassoFinderModel_step zm_317 ⟨Nat.le_of_ble_eq_true rfl, Nat.le_of_ble_eq_true rfl⟩ hK hw [0, 1, 2, 3, 4, 5, 6, 7, 8, 9, 10, 11, 12, 13, 14, 15, 16, 17, 18, 19, 20, 21, 22, 23, 24, 25, 26, 27, 28, 29, 30, 31, 32, 33, 34, 35, 36, 37, 38, 39, 40, 41, 42, 43, 44, 45, 46, 47, 48, 49, 50, 51, 52, 53, 54, 55, 56, 57] rfl (by decide) rfl rfl rfl hl.1 rfl (Nat.le_of_ble_eq_true rfl) zd_LassoFinderModel_expand_164 ⟨Nat.le_of_ble_eq_true rfl, Nat.le_of_ble_eq_true rfl⟩) hw hA [0, 1, 2, 3, 4, 5, 6, 7, 8, 9, 10, 11, 12, 13, 14, 15, 16, 17, 18, 19, 20, 21, 22, 23, 24, 25, 26, 27, 28, 29, 30, 31, 32, 33, 34, 35, 36, 37, 38, 39, 40, 41, 42, 43, 44, 45, 46, 47, 48, 49, 50, 51, 52, 53, 54, 55, 56, 57] [] rfl rfl (by decide) (by decide) (fun u H locs hok hw => ?_)
          obtain ⟨I13, J13, B13, D13⟩ := u
          dsimp only at hok
          have hw : zW G A s.heap (wM ad K I13 J13 B13 D13) H locs := hw
          exact wJ_LassoFinderModel_expand_167 G K ad a0 Post C K28 kh28 K116 kh116 x1 x2 x4 x5 x6 x7 I13 J13 B13 D13 ls H locs hok (lv_sub hl [0, 1, 2, 3, 4, 5, 6] rfl) hw
theorem wL_LassoFinderModel_expand_116 {p : Program} {l : Launch} {e : Env} {s : State} {m : MethodId} {below : List Frame} {meth : Method} {c : Code} {A : Nat → Prop} (G : va_G) (K : Nat → ClassId) (ad : Nat → Nat) (a0 : Int32) (Post : (Nat → Int32) → (Nat → Int64) → (Nat → Nat → Int32) → (Nat → Nat → Int64) → Prop) (C : zCx p s m ([.ref (ad 0), .int a0] : List Value).toArray meth c A G K prog_14_method_37_code none 8 "LassoFinderModel") (K28 : Int32 → Int64 → Int32 → (Nat → Int32) → (Nat → Int64) → (Nat → Nat → Int32) → (Nat → Nat → Int64) → Prop) (kh28 : ∀ (x1 : Int32) (x2 : Int64) (x4 : Int32) (I : Nat → Int32) (J : Nat → Int64) (B : Nat → Nat → Int32) (D : Nat → Nat → Int64) (ls : Array Slot) (H : Heap) (locs : List Loc), K28 x1 x2 x4 I J B D → lv_has ls 8 [(0, .ref (ad 0)), (1, .int x1), (2, .long x2), (4, .int x4)] → zW G A s.heap (wM ad K I J B D) H locs → W p l e { frames := 4, cells := 0, slots := 0, locals := 96 } s m ([.ref (ad 0), .int a0] : List Value).toArray below meth c H locs 0 0 (MQ below (va_Qv (fun u : zS => Post u.1 u.2.1 u.2.2.1 u.2.2.2) (fun u t => zPost G K A (wM ad K u.1 u.2.1 u.2.2.1 u.2.2.2) t) A) ([.ref (ad 0), .int a0] : List Value).toArray s 0 0 A) (F0 m 28 ls [])) : ∀ (n : Nat) (x1 : Int32) (x2 : Int64) (x4 : Int32) (x5 : Int32) (x6 : Int32) (x7 : Int32) (I : Nat → Int32) (J : Nat → Int64) (B : Nat → Nat → Int32) (D : Nat → Nat → Int64) (ls : Array Slot) (H : Heap) (locs : List Loc), wl_LassoFinderModel_expand_116 a0 K28 Post n x1 x2 x4 x5 x6 x7 I J B D → lv_has ls 8 [(0, .ref (ad 0)), (1, .int x1), (2, .long x2), (4, .int x4), (5, .int x5), (6, .int x6), (7, .int x7)] → zW G A s.heap (wM ad K I J B D) H locs → W p l e { frames := 4, cells := 0, slots := 0, locals := 96 } s m ([.ref (ad 0), .int a0] : List Value).toArray below meth c H locs 0 0 (MQ below (va_Qv (fun u : zS => Post u.1 u.2.1 u.2.2.1 u.2.2.2) (fun u t => zPost G K A (wM ad K u.1 u.2.1 u.2.2.1 u.2.2.2) t) A) ([.ref (ad 0), .int a0] : List Value).toArray s 0 0 A) (F0 m 116 ls []) := by
  intro n
  induction n with
  | zero => intro x1 x2 x4 x5 x6 x7 I J B D ls H locs hok; exact hok.elim
  | succ n ih => exact wB_LassoFinderModel_expand_116 G K ad a0 Post C K28 kh28 (wl_LassoFinderModel_expand_116 a0 K28 Post n) ih
set_option maxHeartbeats 8000000 in
set_option maxRecDepth 100000 in
theorem wJ_LassoFinderModel_expand_113 {p : Program} {l : Launch} {e : Env} {s : State} {m : MethodId} {below : List Frame} {meth : Method} {c : Code} {A : Nat → Prop} (G : va_G) (K : Nat → ClassId) (ad : Nat → Nat) (a0 : Int32) (Post : (Nat → Int32) → (Nat → Int64) → (Nat → Nat → Int32) → (Nat → Nat → Int64) → Prop) (C : zCx p s m ([.ref (ad 0), .int a0] : List Value).toArray meth c A G K prog_14_method_37_code none 8 "LassoFinderModel") (K28 : Int32 → Int64 → Int32 → (Nat → Int32) → (Nat → Int64) → (Nat → Nat → Int32) → (Nat → Nat → Int64) → Prop) (kh28 : ∀ (x1 : Int32) (x2 : Int64) (x4 : Int32) (I : Nat → Int32) (J : Nat → Int64) (B : Nat → Nat → Int32) (D : Nat → Nat → Int64) (ls : Array Slot) (H : Heap) (locs : List Loc), K28 x1 x2 x4 I J B D → lv_has ls 8 [(0, .ref (ad 0)), (1, .int x1), (2, .long x2), (4, .int x4)] → zW G A s.heap (wM ad K I J B D) H locs → W p l e { frames := 4, cells := 0, slots := 0, locals := 96 } s m ([.ref (ad 0), .int a0] : List Value).toArray below meth c H locs 0 0 (MQ below (va_Qv (fun u : zS => Post u.1 u.2.1 u.2.2.1 u.2.2.2) (fun u t => zPost G K A (wM ad K u.1 u.2.1 u.2.2.1 u.2.2.2) t) A) ([.ref (ad 0), .int a0] : List Value).toArray s 0 0 A) (F0 m 28 ls [])) : ∀ (x1 : Int32) (x2 : Int64) (x4 : Int32) (x5 : Int32) (x6 : Int32) (I : Nat → Int32) (J : Nat → Int64) (B : Nat → Nat → Int32) (D : Nat → Nat → Int64) (ls : Array Slot) (H : Heap) (locs : List Loc), wc_LassoFinderModel_expand_113 a0 K28 Post x1 x2 x4 x5 x6 I J B D → lv_has ls 8 [(0, .ref (ad 0)), (1, .int x1), (2, .long x2), (4, .int x4), (5, .int x5), (6, .int x6)] → zW G A s.heap (wM ad K I J B D) H locs → W p l e { frames := 4, cells := 0, slots := 0, locals := 96 } s m ([.ref (ad 0), .int a0] : List Value).toArray below meth c H locs 0 0 (MQ below (va_Qv (fun u : zS => Post u.1 u.2.1 u.2.2.1 u.2.2.2) (fun u t => zPost G K A (wM ad K u.1 u.2.1 u.2.2.1 u.2.2.2) t) A) ([.ref (ad 0), .int a0] : List Value).toArray s 0 0 A) (F0 m 113 ls []) := by
  obtain ⟨hx, hb, hr, hml, hts, hown, hlocks, hA, hK⟩ := id C
  intro x1 x2 x4 x5 x6 I J B D ls H locs hok hl hw
  unfold wc_LassoFinderModel_expand_113 at hok
  refine lv_iconst (v := 0) hx hb zd_LassoFinderModel_expand_113 (by decide) ?_
  refine lv_istore hx hb zd_LassoFinderModel_expand_114 hl (by decide) rfl (fun ls hl => ?_)
  have hl : lv_has ls 8 [(7, .int 0), (0, .ref (ad 0)), (1, .int x1), (2, .long x2), (4, .int x4), (5, .int x5), (6, .int x6)] := hl
  obtain ⟨n9, hok⟩ := hok
  exact wL_LassoFinderModel_expand_116 G K ad a0 Post C K28 kh28 n9 x1 x2 x4 x5 x6 0 I J B D ls H locs hok (lv_sub hl [1, 2, 3, 4, 5, 6, 0] rfl) hw
set_option maxHeartbeats 8000000 in
set_option maxRecDepth 100000 in
theorem wJ_LassoFinderModel_expand_98 {p : Program} {l : Launch} {e : Env} {s : State} {m : MethodId} {below : List Frame} {meth : Method} {c : Code} {A : Nat → Prop} (G : va_G) (K : Nat → ClassId) (ad : Nat → Nat) (a0 : Int32) (Post : (Nat → Int32) → (Nat → Int64) → (Nat → Nat → Int32) → (Nat → Nat → Int64) → Prop) (C : zCx p s m ([.ref (ad 0), .int a0] : List Value).toArray meth c A G K prog_14_method_37_code none 8 "LassoFinderModel") (K28 : Int32 → Int64 → Int32 → (Nat → Int32) → (Nat → Int64) → (Nat → Nat → Int32) → (Nat → Nat → Int64) → Prop) (kh28 : ∀ (x1 : Int32) (x2 : Int64) (x4 : Int32) (I : Nat → Int32) (J : Nat → Int64) (B : Nat → Nat → Int32) (D : Nat → Nat → Int64) (ls : Array Slot) (H : Heap) (locs : List Loc), K28 x1 x2 x4 I J B D → lv_has ls 8 [(0, .ref (ad 0)), (1, .int x1), (2, .long x2), (4, .int x4)] → zW G A s.heap (wM ad K I J B D) H locs → W p l e { frames := 4, cells := 0, slots := 0, locals := 96 } s m ([.ref (ad 0), .int a0] : List Value).toArray below meth c H locs 0 0 (MQ below (va_Qv (fun u : zS => Post u.1 u.2.1 u.2.2.1 u.2.2.2) (fun u t => zPost G K A (wM ad K u.1 u.2.1 u.2.2.1 u.2.2.2) t) A) ([.ref (ad 0), .int a0] : List Value).toArray s 0 0 A) (F0 m 28 ls [])) : ∀ (x1 : Int32) (x2 : Int64) (x4 : Int32) (x5 : Int32) (y0 : Int32) (I : Nat → Int32) (J : Nat → Int64) (B : Nat → Nat → Int32) (D : Nat → Nat → Int64) (ls : Array Slot) (H : Heap) (locs : List Loc), wc_LassoFinderModel_expand_98 a0 K28 Post x1 x2 x4 x5 y0 I J B D → lv_has ls 8 [(0, .ref (ad 0)), (1, .int x1), (2, .long x2), (4, .int x4), (5, .int x5)] → zW G A s.heap (wM ad K I J B D) H locs → W p l e { frames := 4, cells := 0, slots := 0, locals := 96 } s m ([.ref (ad 0), .int a0] : List Value).toArray below meth c H locs 0 0 (MQ below (va_Qv (fun u : zS => Post u.1 u.2.1 u.2.2.1 u.2.2.2) (fun u t => zPost G K A (wM ad K u.1 u.2.1 u.2.2.1 u.2.2.2) t) A) ([.ref (ad 0), .int a0] : List Value).toArray s 0 0 A) (F0 m 98 ls [.int y0]) := by
  obtain ⟨hx, hb, hr, hml, hts, hown, hlocks, hA, hK⟩ := id C
  intro x1 x2 x4 x5 y0 I J B D ls H locs hok hl hw
  unfold wc_LassoFinderModel_expand_98 at hok
  refine lv_istore hx hb zd_LassoFinderModel_expand_98 hl (by decide) rfl (fun ls hl => ?_)
  have hl : lv_has ls 8 [(6, .int y0), (0, .ref (ad 0)), (1, .int x1), (2, .long x2), (4, .int x4), (5, .int x5)] := hl
  refine lv_iload hx hb zd_LassoFinderModel_expand_100 (lv_at hl 0 rfl) ?_
  refine lv_if_ne (tgt := 113) hx hb zd_LassoFinderModel_expand_102 (by decide) (fun hc14 => ?_) (fun hc14 => ?_)
  · have hok := hok.1 hc14
    exact wJ_LassoFinderModel_expand_113 G K ad a0 Post C K28 kh28 x1 x2 x4 x5 y0 I J B D ls H locs hok (lv_sub hl [1, 2, 3, 4, 5, 0] rfl) hw
  · have hok := hok.2 hc14
    refine lv_aload_n hx hb zd_LassoFinderModel_expand_105 rfl (lv_at hl 1 rfl) ?_
    refine lv_iload_n hx hb zd_LassoFinderModel_expand_106 rfl (lv_at hl 2 rfl) ?_
    refine lv_iload hx hb zd_LassoFinderModel_expand_107 (lv_at hl 4 rfl) ?_
    refine lv_iconst (v := (-1)) hx hb zd_LassoFinderModel_expand_109 (by decide) ?_
    refine z_callv (w1 := fun (u : zS) => wM ad K u.1 u.2.1 u.2.2.1 u.2.2.2) (wr := []) (z_runV (q0 := 0) (wc := (wM ad K I J B D)) (As := [.int x1, .int x4, .int (-1)]) (rest := []) ⟨hx, hb, hml, hown, hts⟩ (w_LassoFinderModel_step l G K ad I J B D x1 x4 (-1) _ H.size hok) zf_LassoFinderModel_step zm_317 ⟨Nat.le_of_ble_eq_true rfl, Nat.le_of_ble_eq_true rfl⟩ hK hw [0, 1, 2, 3, 4, 5, 6, 7, 8, 9, 10, 11, 12, 13, 14, 15, 16, 17, 18, 19, 20, 21, 22, 23, 24, 25, 26, 27, 28, 29, 30, 31, 32, 33, 34, 35, 36, 37, 38, 39, 40, 41, 42, 43, 44, 45, 46, 47, 48, 49, 50, 51, 52, 53, 54, 55, 56, 57] rfl (by decide) rfl rfl rfl hl.1 rfl (Nat.le_of_ble_eq_true rfl) zd_LassoFinderModel_expand_110 ⟨Nat.le_of_ble_eq_true rfl, Nat.le_of_ble_eq_true rfl⟩) hw hA [0, 1, 2, 3, 4, 5, 6, 7, 8, 9, 10, 11, 12, 13, 14, 15, 16, 17, 18, 19, 20, 21, 22, 23, 24, 25, 26, 27, 28, 29, 30, 31, 32, 33, 34, 35, 36, 37, 38, 39, 40, 41, 42, 43, 44, 45, 46, 47, 48, 49, 50, 51, 52, 53, 54, 55, 56, 57] [] rfl rfl (by decide) (by decide) (fun u H locs hok hw => ?_)
    obtain ⟨I15, J15, B15, D15⟩ := u
    dsimp only at hok
    have hw : zW G A s.heap (wM ad K I15 J15 B15 D15) H locs := hw
    exact wJ_LassoFinderModel_expand_113 G K ad a0 Post C K28 kh28 x1 x2 x4 x5 y0 I15 J15 B15 D15 ls H locs hok (lv_sub hl [1, 2, 3, 4, 5, 0] rfl) hw
set_option maxHeartbeats 8000000 in
set_option maxRecDepth 100000 in
theorem wJ_LassoFinderModel_expand_97 {p : Program} {l : Launch} {e : Env} {s : State} {m : MethodId} {below : List Frame} {meth : Method} {c : Code} {A : Nat → Prop} (G : va_G) (K : Nat → ClassId) (ad : Nat → Nat) (a0 : Int32) (Post : (Nat → Int32) → (Nat → Int64) → (Nat → Nat → Int32) → (Nat → Nat → Int64) → Prop) (C : zCx p s m ([.ref (ad 0), .int a0] : List Value).toArray meth c A G K prog_14_method_37_code none 8 "LassoFinderModel") (K28 : Int32 → Int64 → Int32 → (Nat → Int32) → (Nat → Int64) → (Nat → Nat → Int32) → (Nat → Nat → Int64) → Prop) (kh28 : ∀ (x1 : Int32) (x2 : Int64) (x4 : Int32) (I : Nat → Int32) (J : Nat → Int64) (B : Nat → Nat → Int32) (D : Nat → Nat → Int64) (ls : Array Slot) (H : Heap) (locs : List Loc), K28 x1 x2 x4 I J B D → lv_has ls 8 [(0, .ref (ad 0)), (1, .int x1), (2, .long x2), (4, .int x4)] → zW G A s.heap (wM ad K I J B D) H locs → W p l e { frames := 4, cells := 0, slots := 0, locals := 96 } s m ([.ref (ad 0), .int a0] : List Value).toArray below meth c H locs 0 0 (MQ below (va_Qv (fun u : zS => Post u.1 u.2.1 u.2.2.1 u.2.2.2) (fun u t => zPost G K A (wM ad K u.1 u.2.1 u.2.2.1 u.2.2.2) t) A) ([.ref (ad 0), .int a0] : List Value).toArray s 0 0 A) (F0 m 28 ls [])) : ∀ (x1 : Int32) (x2 : Int64) (x4 : Int32) (x5 : Int32) (I : Nat → Int32) (J : Nat → Int64) (B : Nat → Nat → Int32) (D : Nat → Nat → Int64) (ls : Array Slot) (H : Heap) (locs : List Loc), wc_LassoFinderModel_expand_97 a0 K28 Post x1 x2 x4 x5 I J B D → lv_has ls 8 [(0, .ref (ad 0)), (1, .int x1), (2, .long x2), (4, .int x4), (5, .int x5)] → zW G A s.heap (wM ad K I J B D) H locs → W p l e { frames := 4, cells := 0, slots := 0, locals := 96 } s m ([.ref (ad 0), .int a0] : List Value).toArray below meth c H locs 0 0 (MQ below (va_Qv (fun u : zS => Post u.1 u.2.1 u.2.2.1 u.2.2.2) (fun u t => zPost G K A (wM ad K u.1 u.2.1 u.2.2.1 u.2.2.2) t) A) ([.ref (ad 0), .int a0] : List Value).toArray s 0 0 A) (F0 m 97 ls []) := by
  obtain ⟨hx, hb, hr, hml, hts, hown, hlocks, hA, hK⟩ := id C
  intro x1 x2 x4 x5 I J B D ls H locs hok hl hw
  unfold wc_LassoFinderModel_expand_97 at hok
  refine lv_iconst (v := 0) hx hb zd_LassoFinderModel_expand_97 (by decide) ?_
  exact wJ_LassoFinderModel_expand_98 G K ad a0 Post C K28 kh28 x1 x2 x4 x5 0 I J B D ls H locs hok (lv_sub hl [0, 1, 2, 3, 4] rfl) hw
set_option maxHeartbeats 8000000 in
set_option maxRecDepth 100000 in
theorem wB_LassoFinderModel_expand_28 {p : Program} {l : Launch} {e : Env} {s : State} {m : MethodId} {below : List Frame} {meth : Method} {c : Code} {A : Nat → Prop} (G : va_G) (K : Nat → ClassId) (ad : Nat → Nat) (a0 : Int32) (Post : (Nat → Int32) → (Nat → Int64) → (Nat → Nat → Int32) → (Nat → Nat → Int64) → Prop) (C : zCx p s m ([.ref (ad 0), .int a0] : List Value).toArray meth c A G K prog_14_method_37_code none 8 "LassoFinderModel") (K28 : Int32 → Int64 → Int32 → (Nat → Int32) → (Nat → Int64) → (Nat → Nat → Int32) → (Nat → Nat → Int64) → Prop) (kh28 : ∀ (x1 : Int32) (x2 : Int64) (x4 : Int32) (I : Nat → Int32) (J : Nat → Int64) (B : Nat → Nat → Int32) (D : Nat → Nat → Int64) (ls : Array Slot) (H : Heap) (locs : List Loc), K28 x1 x2 x4 I J B D → lv_has ls 8 [(0, .ref (ad 0)), (1, .int x1), (2, .long x2), (4, .int x4)] → zW G A s.heap (wM ad K I J B D) H locs → W p l e { frames := 4, cells := 0, slots := 0, locals := 96 } s m ([.ref (ad 0), .int a0] : List Value).toArray below meth c H locs 0 0 (MQ below (va_Qv (fun u : zS => Post u.1 u.2.1 u.2.2.1 u.2.2.2) (fun u t => zPost G K A (wM ad K u.1 u.2.1 u.2.2.1 u.2.2.2) t) A) ([.ref (ad 0), .int a0] : List Value).toArray s 0 0 A) (F0 m 28 ls [])) : ∀ (x1 : Int32) (x2 : Int64) (x4 : Int32) (I : Nat → Int32) (J : Nat → Int64) (B : Nat → Nat → Int32) (D : Nat → Nat → Int64) (ls : Array Slot) (H : Heap) (locs : List Loc), wb_LassoFinderModel_expand_28 a0 K28 Post x1 x2 x4 I J B D → lv_has ls 8 [(0, .ref (ad 0)), (1, .int x1), (2, .long x2), (4, .int x4)] → zW G A s.heap (wM ad K I J B D) H locs → W p l e { frames := 4, cells := 0, slots := 0, locals := 96 } s m ([.ref (ad 0), .int a0] : List Value).toArray below meth c H locs 0 0 (MQ below (va_Qv (fun u : zS => Post u.1 u.2.1 u.2.2.1 u.2.2.2) (fun u t => zPost G K A (wM ad K u.1 u.2.1 u.2.2.1 u.2.2.2) t) A) ([.ref (ad 0), .int a0] : List Value).toArray s 0 0 A) (F0 m 28 ls []) := by
  obtain ⟨hx, hb, hr, hml, hts, hown, hlocks, hA, hK⟩ := id C
  intro x1 x2 x4 I J B D ls H locs hok hl hw
  unfold wb_LassoFinderModel_expand_28 at hok
  refine lv_iload hx hb zd_LassoFinderModel_expand_28 (lv_at hl 3 rfl) ?_
  refine lv_aload_n hx hb zd_LassoFinderModel_expand_30 rfl (lv_at hl 0 rfl) ?_
  refine z_get (v := .int (I 9)) hx hb hts hown hK hw zZ12 0 rfl 27 (by decide) zm_303 rfl zd_LassoFinderModel_expand_31 ?_
  refine lv_icmp_ge (tgt := 179) hx hb zd_LassoFinderModel_expand_34 (by decide) (fun hc16 => ?_) (fun hc16 => ?_)
  · have hok := hok.1 hc16
    exact wJ_LassoFinderModel_expand_179 G K ad a0 Post C x1 x2 I J B D ls H locs hok (lv_sub hl [0, 1, 2] rfl) hw
  · have hok := hok.2 hc16
    refine lv_aload_n hx hb zd_LassoFinderModel_expand_37 rfl (lv_at hl 0 rfl) ?_
    refine z_get (v := .int (I 16)) hx hb hts hown hK hw zZ12 0 rfl 46 (by decide) zm_312 rfl zd_LassoFinderModel_expand_38 ?_
    refine lv_if_ne (tgt := 179) hx hb zd_LassoFinderModel_expand_41 (by decide) (fun hc17 => ?_) (fun hc17 => ?_)
    · have hok := hok.1 hc17
      exact wJ_LassoFinderModel_expand_179 G K ad a0 Post C x1 x2 I J B D ls H locs hok (lv_sub hl [0, 1, 2] rfl) hw
    · have hok := hok.2 hc17
      refine lv_lload_n hx hb zd_LassoFinderModel_expand_44 rfl (lv_at hl 2 rfl) ?_
      refine lv_iload hx hb zd_LassoFinderModel_expand_45 (lv_at hl 3 rfl) ?_
      refine lv_lshr hx hb zd_LassoFinderModel_expand_47 rfl ?_
      refine lv_topl (fun z18 ez18 => ?_)
      have hok := hok z18 ez18
      refine lv_lconst (v := 1) hx hb zd_LassoFinderModel_expand_48 (by decide) ?_
      refine lv_land hx hb zd_LassoFinderModel_expand_49 ?_
      refine lv_topl (fun z19 ez19 => ?_)
      have hok := hok z19 ez19
      refine lv_lconst (v := 0) hx hb zd_LassoFinderModel_expand_50 (by decide) ?_
      refine W.lcmp hx hb zd_LassoFinderModel_expand_51 ?_
      refine lv_topi (fun z20 ez20 => ?_)
      have hok := hok z20 ez20
      refine lv_if_ne (tgt := 58) hx hb zd_LassoFinderModel_expand_52 (by decide) (fun hc21 => ?_) (fun hc21 => ?_)
      · have hok := hok.1 hc21
        refine lv_aload_n hx hb zd_LassoFinderModel_expand_58 rfl (lv_at hl 0 rfl) ?_
        refine z_get (v := .ref (ad 19)) hx hb hts hown hK hw zZ12 0 rfl 28 (by decide) zm_253 rfl zd_LassoFinderModel_expand_59 ?_
        refine lv_iload hx hb zd_LassoFinderModel_expand_62 (lv_at hl 3 rfl) ?_
        refine va_iald (f := (B 18)) hx hb hK hw.1 19 0 rfl rfl hok.1 zd_LassoFinderModel_expand_64 ?_
        have hok := hok.2
        refine lv_topi (fun z22 ez22 => ?_)
        have hok := hok z22 ez22
        refine lv_istore hx hb zd_LassoFinderModel_expand_65 hl (by decide) rfl (fun ls hl => ?_)
        have hl : lv_has ls 8 [(5, .int z22), (0, .ref (ad 0)), (1, .int x1), (2, .long x2), (4, .int x4)] := hl
        refine lv_aload_n hx hb zd_LassoFinderModel_expand_67 rfl (lv_at hl 1 rfl) ?_
        refine z_get (v := .ref (ad 6)) hx hb hts hown hK hw zZ12 0 rfl 14 (by decide) zm_240 rfl zd_LassoFinderModel_expand_68 ?_
        refine lv_iload hx hb zd_LassoFinderModel_expand_71 (lv_at hl 0 rfl) ?_
        refine va_iald (f := (B 5)) hx hb hK hw.1 6 0 rfl rfl hok.1 zd_LassoFinderModel_expand_73 ?_
        have hok := hok.2
        refine lv_topi (fun z23 ez23 => ?_)
        have hok := hok z23 ez23
        refine lv_iconst (v := 2) hx hb zd_LassoFinderModel_expand_74 (by decide) ?_
        refine lv_icmp_ne (tgt := 97) hx hb zd_LassoFinderModel_expand_75 (by decide) (fun hc24 => ?_) (fun hc24 => ?_)
        · have hok := hok.1 hc24
          exact wJ_LassoFinderModel_expand_97 G K ad a0 Post C K28 kh28 x1 x2 x4 z22 I J B D ls H locs hok (lv_sub hl [1, 2, 3, 4, 0] rfl) hw
        · have hok := hok.2 hc24
          refine lv_aload_n hx hb zd_LassoFinderModel_expand_78 rfl (lv_at hl 1 rfl) ?_
          refine z_get (v := .ref (ad 5)) hx hb hts hown hK hw zZ12 0 rfl 12 (by decide) zm_239 rfl zd_LassoFinderModel_expand_79 ?_
          refine lv_aload_n hx hb zd_LassoFinderModel_expand_82 rfl (lv_at hl 1 rfl) ?_
          refine z_get (v := .ref (ad 13)) hx hb hts hown hK hw zZ12 0 rfl 21 (by decide) zm_247 rfl zd_LassoFinderModel_expand_83 ?_
          refine lv_iload hx hb zd_LassoFinderModel_expand_86 (lv_at hl 0 rfl) ?_
          refine va_iald (f := (B 12)) hx hb hK hw.1 13 0 rfl rfl hok.1 zd_LassoFinderModel_expand_88 ?_
          have hok := hok.2
          refine lv_topi (fun z25 ez25 => ?_)
          have hok := hok z25 ez25
          refine va_iald (f := (B 4)) hx hb hK hw.1 5 0 rfl rfl hok.1 zd_LassoFinderModel_expand_89 ?_
          have hok := hok.2
          refine lv_topi (fun z26 ez26 => ?_)
          have hok := hok z26 ez26
          refine lv_if_ne (tgt := 97) hx hb zd_LassoFinderModel_expand_90 (by decide) (fun hc27 => ?_) (fun hc27 => ?_)
          · have hok := hok.1 hc27
            exact wJ_LassoFinderModel_expand_97 G K ad a0 Post C K28 kh28 x1 x2 x4 z22 I J B D ls H locs hok (lv_sub hl [1, 2, 3, 4, 0] rfl) hw
          · have hok := hok.2 hc27
            refine lv_iconst (v := 1) hx hb zd_LassoFinderModel_expand_93 (by decide) ?_
            refine lv_goto (tgt := 98) hx hb zd_LassoFinderModel_expand_94 (by decide) ?_
            exact wJ_LassoFinderModel_expand_98 G K ad a0 Post C K28 kh28 x1 x2 x4 z22 1 I J B D ls H locs hok (lv_sub hl [1, 2, 3, 4, 0] rfl) hw
      · have hok := hok.2 hc21
        refine lv_goto (tgt := 173) hx hb zd_LassoFinderModel_expand_55 (by decide) ?_
        exact wJ_LassoFinderModel_expand_173 G K ad a0 Post C K28 kh28 x1 x2 x4 I J B D ls H locs hok (lv_sub hl [0, 1, 2, 3] rfl) hw
theorem wL_LassoFinderModel_expand_28 {p : Program} {l : Launch} {e : Env} {s : State} {m : MethodId} {below : List Frame} {meth : Method} {c : Code} {A : Nat → Prop} (G : va_G) (K : Nat → ClassId) (ad : Nat → Nat) (a0 : Int32) (Post : (Nat → Int32) → (Nat → Int64) → (Nat → Nat → Int32) → (Nat → Nat → Int64) → Prop) (C : zCx p s m ([.ref (ad 0), .int a0] : List Value).toArray meth c A G K prog_14_method_37_code none 8 "LassoFinderModel") : ∀ (n : Nat) (x1 : Int32) (x2 : Int64) (x4 : Int32) (I : Nat → Int32) (J : Nat → Int64) (B : Nat → Nat → Int32) (D : Nat → Nat → Int64) (ls : Array Slot) (H : Heap) (locs : List Loc), wl_LassoFinderModel_expand_28 a0 Post n x1 x2 x4 I J B D → lv_has ls 8 [(0, .ref (ad 0)), (1, .int x1), (2, .long x2), (4, .int x4)] → zW G A s.heap (wM ad K I J B D) H locs → W p l e { frames := 4, cells := 0, slots := 0, locals := 96 } s m ([.ref (ad 0), .int a0] : List Value).toArray below meth c H locs 0 0 (MQ below (va_Qv (fun u : zS => Post u.1 u.2.1 u.2.2.1 u.2.2.2) (fun u t => zPost G K A (wM ad K u.1 u.2.1 u.2.2.1 u.2.2.2) t) A) ([.ref (ad 0), .int a0] : List Value).toArray s 0 0 A) (F0 m 28 ls []) := by
  intro n
  induction n with
  | zero => intro x1 x2 x4 I J B D ls H locs hok; exact hok.elim
  | succ n ih => exact wB_LassoFinderModel_expand_28 G K ad a0 Post C (wl_LassoFinderModel_expand_28 a0 Post n) ih
set_option maxHeartbeats 8000000 in
set_option maxRecDepth 100000 in
theorem w_LassoFinderModel_expand (l : Launch) (G : va_G) (K : Nat → ClassId) (ad : Nat → Nat) (I : Nat → Int32) (J : Nat → Int64) (B : Nat → Nat → Int32) (D : Nat → Nat → Int64) (a0 : Int32) (Post : (Nat → Int32) → (Nat → Int64) → (Nat → Nat → Int32) → (Nat → Nat → Int64) → Prop) (sz : Nat) (hok : wp_LassoFinderModel_expand I J B D a0 Post) : Met l zy_LassoFinderModel_expand (Cond.code zy_LassoFinderModel_expand prog_14_method_37_code 8 none :: zTB) { frames := 4, cells := 0, slots := 0, locals := 96 } (va_Pc [.ref (ad 0), .int a0] (zPre G K (wM ad K I J B D) sz)) (va_Qv (fun u : zS => Post u.1 u.2.1 u.2.2.1 u.2.2.2) (fun u t => zPost G K (va_A (wM ad K I J B D) sz) (wM ad K u.1 u.2.1 u.2.2.1 u.2.2.2) t) (va_A (wM ad K I J B D) sz)) 0 0 (va_A (wM ad K I J B D) sz) := by
  refine zMet (y := zy_LassoFinderModel_expand) (av := [.ref (ad 0), .int a0]) (maxL := 8) (cc := prog_14_method_37_code) (ret := none) (W0 := (wM ad K I J B D)) (sz := sz) (G := G) (K := K) (wt := zTB) (mc := 0) (ms := 0) (Qf := fun A => va_Qv (fun u : zS => Post u.1 u.2.1 u.2.2.1 u.2.2.2) (fun u t => zPost G K A (wM ad K u.1 u.2.1 u.2.2.1 u.2.2.2) t) A) (by decide) (Nat.le_of_ble_eq_true rfl) ?_
  intro p e s m below meth c ls A hx hb hr hml hts hown hlocks hin hA hK H locs hw hsz hl
  clear hsz
  have hown : s.vm.findClass "LassoFinderModel" = some m.cls := hown
  have C : zCx p s m ([.ref (ad 0), .int a0] : List Value).toArray meth c A G K prog_14_method_37_code none 8 "LassoFinderModel" := ⟨hx, hb, hr, hml, hts, hown, hlocks, hA, hK⟩
  have hl : lv_has ls 8 [(0, .ref (ad 0)), (1, .int a0)] := hl
  have hw : zW G A s.heap (wM ad K I J B D) H locs := hw
  unfold wp_LassoFinderModel_expand at hok
  refine lv_aload_n hx hb zd_LassoFinderModel_expand_0 rfl (lv_at hl 0 rfl) ?_
  refine z_get (v := .ref (ad 32)) hx hb hts hown hK hw zZ12 0 rfl 48 (by decide) zm_266 rfl zd_LassoFinderModel_expand_1 ?_
  refine lv_iload_n hx hb zd_LassoFinderModel_expand_4 rfl (lv_at hl 1 rfl) ?_
  refine lv_aload_n hx hb zd_LassoFinderModel_expand_5 rfl (lv_at hl 0 rfl) ?_
  refine z_get (v := .int (I 15)) hx hb hts hown hK hw zZ12 0 rfl 45 (by decide) zm_314 rfl zd_LassoFinderModel_expand_6 ?_
  refine va_iast (f := (B 29)) hx hb hK hw.1 hw.2.1 hw.2.2 32 0 rfl rfl hok.1 zd_LassoFinderModel_expand_9 (fun H locs w91 w92 w93 => ?_)
  have hok := hok.2
  have hw : zW G A s.heap _ H locs := ⟨w91, w92, w93⟩
  have hw : zW G A s.heap (wM ad K I J (va_up B 29 (upd (B 29) a0.toNatClampNeg (I 15))) D) H locs := hw
  refine lv_aload_n hx hb zd_LassoFinderModel_expand_10 rfl (lv_at hl 0 rfl) ?_
  refine lv_aload_n hx hb zd_LassoFinderModel_expand_11 rfl (lv_at hl 0 rfl) ?_
  refine z_get (v := .ref (ad 31)) hx hb hts hown hK hw zZ12 0 rfl 47 (by decide) zm_265 rfl zd_LassoFinderModel_expand_12 ?_
  refine lv_iload_n hx hb zd_LassoFinderModel_expand_15 rfl (lv_at hl 1 rfl) ?_
  refine va_lald (f := (D 1)) hx hb hK hw.1 31 1 rfl rfl hok.1 zd_LassoFinderModel_expand_16 ?_
  have hok := hok.2
  refine lv_topl (fun z28 ez28 => ?_)
  have hok := hok z28 ez28
  refine z_callv (w1 := fun (u : zS) => wM ad K u.1 u.2.1 u.2.2.1 u.2.2.2) (wr := []) (z_runV (q0 := 0) (wc := (wM ad K I J (va_up B 29 (upd (B 29) a0.toNatClampNeg (I 15))) D)) (As := [.long z28]) (rest := []) ⟨hx, hb, hml, hown, hts⟩ (w_LassoFinderModel_unpack l G K ad I J (va_up B 29 (upd (B 29) a0.toNatClampNeg (I 15))) D z28 _ H.size hok) zf_LassoFinderModel_unpack zm_315 ⟨Nat.le_of_ble_eq_true rfl, Nat.le_of_ble_eq_true rfl⟩ hK hw [0, 1, 2, 3, 4, 5, 6, 7, 8, 9, 10, 11, 12, 13, 14, 15, 16, 17, 18, 19, 20, 21, 22, 23, 24, 25, 26, 27, 28, 29, 30, 31, 32, 33, 34, 35, 36, 37, 38, 39, 40, 41, 42, 43, 44, 45, 46, 47, 48, 49, 50, 51, 52, 53, 54, 55, 56, 57] rfl (by decide) rfl rfl rfl hl.1 rfl (Nat.le_of_ble_eq_true rfl) zd_LassoFinderModel_expand_17 ⟨Nat.le_of_ble_eq_true rfl, Nat.le_of_ble_eq_true rfl⟩) hw hA [0, 1, 2, 3, 4, 5, 6, 7, 8, 9, 10, 11, 12, 13, 14, 15, 16, 17, 18, 19, 20, 21, 22, 23, 24, 25, 26, 27, 28, 29, 30, 31, 32, 33, 34, 35, 36, 37, 38, 39, 40, 41, 42, 43, 44, 45, 46, 47, 48, 49, 50, 51, 52, 53, 54, 55, 56, 57] [] rfl rfl (by decide) (by decide) (fun u H locs hok hw => ?_)
  obtain ⟨I29, J29, B29, D29⟩ := u
  dsimp only at hok
  have hw : zW G A s.heap (wM ad K I29 J29 B29 D29) H locs := hw
  refine lv_aload_n hx hb zd_LassoFinderModel_expand_20 rfl (lv_at hl 0 rfl) ?_
  refine z_calll (w1 := fun (u : zS) => wM ad K u.1 u.2.1 u.2.2.1 u.2.2.2) (wr := []) (z_runV (q0 := 0) (wc := (wM ad K I29 J29 B29 D29)) (As := []) (rest := []) ⟨hx, hb, hml, hown, hts⟩ (w_LassoFinderModel_doable l G K ad I29 J29 B29 D29  _ H.size hok) zf_LassoFinderModel_doable zm_316 ⟨Nat.le_of_ble_eq_true rfl, Nat.le_of_ble_eq_true rfl⟩ hK hw [0, 1, 2, 3, 4, 5, 6, 7, 8, 9, 10, 11, 12, 13, 14, 15, 16, 17, 18, 19, 20, 21, 22, 23, 24, 25, 26, 27, 28, 29, 30, 31, 32, 33, 34, 35, 36, 37, 38, 39, 40, 41, 42, 43, 44, 45, 46, 47, 48, 49, 50, 51, 52, 53, 54, 55, 56, 57] rfl (by decide) rfl rfl rfl hl.1 rfl (Nat.le_of_ble_eq_true rfl) zd_LassoFinderModel_expand_21 ⟨Nat.le_of_ble_eq_true rfl, Nat.le_of_ble_eq_true rfl⟩) hw hA [0, 1, 2, 3, 4, 5, 6, 7, 8, 9, 10, 11, 12, 13, 14, 15, 16, 17, 18, 19, 20, 21, 22, 23, 24, 25, 26, 27, 28, 29, 30, 31, 32, 33, 34, 35, 36, 37, 38, 39, 40, 41, 42, 43, 44, 45, 46, 47, 48, 49, 50, 51, 52, 53, 54, 55, 56, 57] [] rfl rfl (by decide) (by decide) (fun r30 u H locs hok hw => ?_)
  obtain ⟨I30, J30, B30, D30⟩ := u
  dsimp only at hok
  have hw : zW G A s.heap (wM ad K I30 J30 B30 D30) H locs := hw
  refine lv_lstore_n hx hb zd_LassoFinderModel_expand_24 rfl hl (by decide) rfl (fun ls hl => ?_)
  have hl : lv_has ls 8 [(2, .long r30), (0, .ref (ad 0)), (1, .int a0)] := hl
  refine lv_iconst (v := 0) hx hb zd_LassoFinderModel_expand_25 (by decide) ?_
  refine lv_istore hx hb zd_LassoFinderModel_expand_26 hl (by decide) rfl (fun ls hl => ?_)
  have hl : lv_has ls 8 [(4, .int 0), (2, .long r30), (0, .ref (ad 0)), (1, .int a0)] := hl
  obtain ⟨n9, hok⟩ := hok
  exact wL_LassoFinderModel_expand_28 G K ad a0 Post C n9 a0 r30 0 I30 J30 B30 D30 ls H locs hok (lv_sub hl [2, 3, 1, 0] rfl) hw
