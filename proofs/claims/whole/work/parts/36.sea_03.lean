abbrev zy_LassoSearch_markCycles : MethodName := ⟨"LassoFinder$LassoSearch", "markCycles", "()V"⟩
abbrev zy_LassoSearch_searchFrom : MethodName := ⟨"LassoFinder$LassoSearch", "searchFrom", "(I)V"⟩
abbrev zy_LassoSearch_leaveSpot : MethodName := ⟨"LassoFinder$LassoSearch", "leaveSpot", "(I)V"⟩
abbrev zy_LassoSearch_closePart : MethodName := ⟨"LassoFinder$LassoSearch", "closePart", "(I)V"⟩
abbrev zy_LassoSearch_measureStems : MethodName := ⟨"LassoFinder$LassoSearch", "measureStems", "()V"⟩
theorem zn_547 : Cond.methodLink "LassoFinder$LassoSearch" 107 ⟨"LassoFinder$LassoSearch", "searchFrom", "(I)V"⟩ ∈ zTB := z_in (zt_5 _ (List.mem_of_getElem? (i := 199) rfl)) rfl
theorem zn_548 : Cond.methodLink "LassoFinder$LassoSearch" 113 ⟨"LassoFinder$LassoSearch", "enterSpot", "(I)V"⟩ ∈ zTB := z_in (zt_5 _ (List.mem_of_getElem? (i := 203) rfl)) rfl
theorem zn_549 : Cond.methodLink "LassoFinder$LassoSearch" 119 ⟨"LassoFinder$LassoSearch", "leaveSpot", "(I)V"⟩ ∈ zTB := z_in (zt_5 _ (List.mem_of_getElem? (i := 207) rfl)) rfl
theorem zn_550 : Cond.methodLink "LassoFinder$LassoSearch" 129 ⟨"java/lang/Math", "min", "(II)I"⟩ ∈ zTB := z_in (zt_5 _ (List.mem_of_getElem? (i := 211) rfl)) rfl
theorem zn_551 : Cond.methodLink "LassoFinder$LassoSearch" 134 ⟨"LassoFinder$LassoSearch", "closePart", "(I)V"⟩ ∈ zTB := z_in (zt_5 _ (List.mem_of_getElem? (i := 214) rfl)) rfl
theorem zn_552 : Cond.methodLink "LassoFinder$LassoSearch" 140 ⟨"LassoFinder$LassoSearch", "leadsToItself", "(I)Z"⟩ ∈ zTB := z_in (zt_5 _ (List.mem_of_getElem? (i := 218) rfl)) rfl
theorem zn_832 : Cond.fieldLink "LassoFinder$LassoSearch" 101 "LassoFinder$Graph" "states" "I" ∈ zTB := z_in (zt_2 _ (List.mem_of_getElem? (i := 104) rfl)) rfl
theorem zn_834 : Cond.static ⟨"java/lang/Math", "min", "(II)I"⟩ ∈ zTB := z_in (zt_5 _ (List.mem_of_getElem? (i := 212) rfl)) rfl
theorem zn_835 : Cond.initialized "java/lang/Math" ∈ zTB := z_in (zt_1 _ (List.mem_of_getElem? (i := 22) rfl)) rfl
theorem zn_836 : Cond.code ⟨"java/lang/Math", "min", "(II)I"⟩ prog_19_method_69_code 2 (some .int) ∈ zTB := z_in (zt_5 _ (List.mem_of_getElem? (i := 213) rfl)) rfl
theorem zn_877 : Cond.code ⟨"LassoFinder$LassoSearch", "enterSpot", "(I)V"⟩ prog_4_method_7_code 2 none ∈ zTB := z_in (zt_5 _ (List.mem_of_getElem? (i := 206) rfl)) rfl
theorem zn_878 : Cond.instanceMethod ⟨"LassoFinder$LassoSearch", "enterSpot", "(I)V"⟩ ∈ zTB := z_in (zt_5 _ (List.mem_of_getElem? (i := 205) rfl)) rfl
theorem zn_879 : Cond.code ⟨"LassoFinder$LassoSearch", "leadsToItself", "(I)Z"⟩ prog_4_method_10_code 4 (some .boolean) ∈ zTB := z_in (zt_5 _ (List.mem_of_getElem? (i := 221) rfl)) rfl
theorem zn_880 : Cond.instanceMethod ⟨"LassoFinder$LassoSearch", "leadsToItself", "(I)Z"⟩ ∈ zTB := z_in (zt_5 _ (List.mem_of_getElem? (i := 220) rfl)) rfl
theorem zn_881 : Cond.code ⟨"LassoFinder$LassoSearch", "closePart", "(I)V"⟩ prog_4_method_9_code 6 none ∈ zTB := z_in (zt_5 _ (List.mem_of_getElem? (i := 217) rfl)) rfl
theorem zn_882 : Cond.instanceMethod ⟨"LassoFinder$LassoSearch", "closePart", "(I)V"⟩ ∈ zTB := z_in (zt_5 _ (List.mem_of_getElem? (i := 216) rfl)) rfl
theorem zn_883 : Cond.code ⟨"LassoFinder$LassoSearch", "leaveSpot", "(I)V"⟩ prog_4_method_8_code 3 none ∈ zTB := z_in (zt_5 _ (List.mem_of_getElem? (i := 210) rfl)) rfl
theorem zn_884 : Cond.instanceMethod ⟨"LassoFinder$LassoSearch", "leaveSpot", "(I)V"⟩ ∈ zTB := z_in (zt_5 _ (List.mem_of_getElem? (i := 209) rfl)) rfl
theorem zn_885 : Cond.code ⟨"LassoFinder$LassoSearch", "searchFrom", "(I)V"⟩ prog_4_method_6_code 6 none ∈ zTB := z_in (zt_5 _ (List.mem_of_getElem? (i := 202) rfl)) rfl
theorem zn_886 : Cond.instanceMethod ⟨"LassoFinder$LassoSearch", "searchFrom", "(I)V"⟩ ∈ zTB := z_in (zt_5 _ (List.mem_of_getElem? (i := 201) rfl)) rfl
theorem zf_LassoSearch_enterSpot : zFaceV zy_LassoSearch_enterSpot prog_4_method_7_code 2 none 1 := ⟨zn_878, (z_in (zp_4 _ (List.mem_of_getElem? (i := 7) rfl)) rfl), zm_7, zn_877, by decide +kernel, by decide +kernel, by decide +kernel⟩
theorem zf_LassoSearch_leadsToItself : zFaceV zy_LassoSearch_leadsToItself prog_4_method_10_code 4 (some .boolean) 1 := ⟨zn_880, (z_in (zp_4 _ (List.mem_of_getElem? (i := 10) rfl)) rfl), zm_7, zn_879, by decide +kernel, by decide +kernel, by decide +kernel⟩
theorem zf_LassoSearch_closePart : zFaceV zy_LassoSearch_closePart prog_4_method_9_code 6 none 1 := ⟨zn_882, (z_in (zp_4 _ (List.mem_of_getElem? (i := 9) rfl)) rfl), zm_7, zn_881, by decide +kernel, by decide +kernel, by decide +kernel⟩
theorem zf_LassoSearch_leaveSpot : zFaceV zy_LassoSearch_leaveSpot prog_4_method_8_code 3 none 1 := ⟨zn_884, (z_in (zp_4 _ (List.mem_of_getElem? (i := 8) rfl)) rfl), zm_7, zn_883, by decide +kernel, by decide +kernel, by decide +kernel⟩
theorem zf_LassoSearch_searchFrom : zFaceV zy_LassoSearch_searchFrom prog_4_method_6_code 6 none 1 := ⟨zn_886, (z_in (zp_4 _ (List.mem_of_getElem? (i := 6) rfl)) rfl), zm_7, zn_885, by decide +kernel, by decide +kernel, by decide +kernel⟩
theorem zd_LassoSearch_closePart_0 : decode prog_4_method_9_code 0 = .ok (.iconst 0, 1) := by decide +kernel
theorem zd_LassoSearch_closePart_1 : decode prog_4_method_9_code 1 = .ok (.istore_n 2, 1) := by decide +kernel
theorem zd_LassoSearch_closePart_2 : decode prog_4_method_9_code 2 = .ok (.iconst 0, 1) := by decide +kernel
theorem zd_LassoSearch_closePart_3 : decode prog_4_method_9_code 3 = .ok (.istore_n 3, 1) := by decide +kernel
theorem zd_LassoSearch_closePart_4 : decode prog_4_method_9_code 4 = .ok (.aload_n 0, 1) := by decide +kernel
theorem zd_LassoSearch_closePart_5 : decode prog_4_method_9_code 5 = .ok (.getfield 98, 3) := by decide +kernel
theorem zd_LassoSearch_closePart_8 : decode prog_4_method_9_code 8 = .ok (.iconst 1, 1) := by decide +kernel
theorem zd_LassoSearch_closePart_9 : decode prog_4_method_9_code 9 = .ok (.isub, 1) := by decide +kernel
theorem zd_LassoSearch_closePart_10 : decode prog_4_method_9_code 10 = .ok (.istore 4, 2) := by decide +kernel
theorem zd_LassoSearch_closePart_12 : decode prog_4_method_9_code 12 = .ok (.iload 4, 2) := by decide +kernel
theorem zd_LassoSearch_closePart_14 : decode prog_4_method_9_code 14 = .ok (.ifCond .lt 60, 3) := by decide +kernel
theorem zd_LassoSearch_closePart_17 : decode prog_4_method_9_code 17 = .ok (.iload_n 2, 1) := by decide +kernel
theorem zd_LassoSearch_closePart_18 : decode prog_4_method_9_code 18 = .ok (.ifCond .eq 16, 3) := by decide +kernel
theorem zd_LassoSearch_closePart_21 : decode prog_4_method_9_code 21 = .ok (.aload_n 0, 1) := by decide +kernel
theorem zd_LassoSearch_closePart_22 : decode prog_4_method_9_code 22 = .ok (.getfield 40, 3) := by decide +kernel
theorem zd_LassoSearch_closePart_25 : decode prog_4_method_9_code 25 = .ok (.iload 4, 2) := by decide +kernel
theorem zd_LassoSearch_closePart_27 : decode prog_4_method_9_code 27 = .ok (.iconst 1, 1) := by decide +kernel
theorem zd_LassoSearch_closePart_28 : decode prog_4_method_9_code 28 = .ok (.iadd, 1) := by decide +kernel
theorem zd_LassoSearch_closePart_29 : decode prog_4_method_9_code 29 = .ok (.iaload, 1) := by decide +kernel
theorem zd_LassoSearch_closePart_30 : decode prog_4_method_9_code 30 = .ok (.iload_n 1, 1) := by decide +kernel
theorem zd_LassoSearch_closePart_31 : decode prog_4_method_9_code 31 = .ok (.if_icmp .eq 43, 3) := by decide +kernel
theorem zd_LassoSearch_closePart_34 : decode prog_4_method_9_code 34 = .ok (.iload_n 3, 1) := by decide +kernel
theorem zd_LassoSearch_closePart_35 : decode prog_4_method_9_code 35 = .ok (.aload_n 0, 1) := by decide +kernel
theorem zd_LassoSearch_closePart_36 : decode prog_4_method_9_code 36 = .ok (.getfield 19, 3) := by decide +kernel
theorem zd_LassoSearch_closePart_39 : decode prog_4_method_9_code 39 = .ok (.getfield 137, 3) := by decide +kernel
theorem zd_LassoSearch_closePart_42 : decode prog_4_method_9_code 42 = .ok (.aload_n 0, 1) := by decide +kernel
theorem zd_LassoSearch_closePart_43 : decode prog_4_method_9_code 43 = .ok (.getfield 40, 3) := by decide +kernel
theorem zd_LassoSearch_closePart_46 : decode prog_4_method_9_code 46 = .ok (.iload 4, 2) := by decide +kernel
theorem zd_LassoSearch_closePart_48 : decode prog_4_method_9_code 48 = .ok (.iaload, 1) := by decide +kernel
theorem zd_LassoSearch_closePart_49 : decode prog_4_method_9_code 49 = .ok (.iaload, 1) := by decide +kernel
theorem zd_LassoSearch_closePart_50 : decode prog_4_method_9_code 50 = .ok (.ior, 1) := by decide +kernel
theorem zd_LassoSearch_closePart_51 : decode prog_4_method_9_code 51 = .ok (.istore_n 3, 1) := by decide +kernel
theorem zd_LassoSearch_closePart_52 : decode prog_4_method_9_code 52 = .ok (.aload_n 0, 1) := by decide +kernel
theorem zd_LassoSearch_closePart_53 : decode prog_4_method_9_code 53 = .ok (.getfield 33, 3) := by decide +kernel
theorem zd_LassoSearch_closePart_56 : decode prog_4_method_9_code 56 = .ok (.aload_n 0, 1) := by decide +kernel
theorem zd_LassoSearch_closePart_57 : decode prog_4_method_9_code 57 = .ok (.getfield 40, 3) := by decide +kernel
theorem zd_LassoSearch_closePart_60 : decode prog_4_method_9_code 60 = .ok (.iload 4, 2) := by decide +kernel
theorem zd_LassoSearch_closePart_62 : decode prog_4_method_9_code 62 = .ok (.iaload, 1) := by decide +kernel
theorem zd_LassoSearch_closePart_63 : decode prog_4_method_9_code 63 = .ok (.iconst 0, 1) := by decide +kernel
theorem zd_LassoSearch_closePart_64 : decode prog_4_method_9_code 64 = .ok (.bastore, 1) := by decide +kernel
theorem zd_LassoSearch_closePart_65 : decode prog_4_method_9_code 65 = .ok (.iinc 2 1, 3) := by decide +kernel
theorem zd_LassoSearch_closePart_68 : decode prog_4_method_9_code 68 = .ok (.iinc 4 (-1), 3) := by decide +kernel
theorem zd_LassoSearch_closePart_71 : decode prog_4_method_9_code 71 = .ok (.goto (-59), 3) := by decide +kernel
theorem zd_LassoSearch_closePart_74 : decode prog_4_method_9_code 74 = .ok (.aload_n 0, 1) := by decide +kernel
theorem zd_LassoSearch_closePart_75 : decode prog_4_method_9_code 75 = .ok (.dup, 1) := by decide +kernel
theorem zd_LassoSearch_closePart_76 : decode prog_4_method_9_code 76 = .ok (.getfield 98, 3) := by decide +kernel
theorem zd_LassoSearch_closePart_79 : decode prog_4_method_9_code 79 = .ok (.iload_n 2, 1) := by decide +kernel
theorem zd_LassoSearch_closePart_80 : decode prog_4_method_9_code 80 = .ok (.isub, 1) := by decide +kernel
theorem zd_LassoSearch_closePart_81 : decode prog_4_method_9_code 81 = .ok (.putfield 98, 3) := by decide +kernel
theorem zd_LassoSearch_closePart_84 : decode prog_4_method_9_code 84 = .ok (.iload_n 2, 1) := by decide +kernel
theorem zd_LassoSearch_closePart_85 : decode prog_4_method_9_code 85 = .ok (.iconst 1, 1) := by decide +kernel
theorem zd_LassoSearch_closePart_86 : decode prog_4_method_9_code 86 = .ok (.if_icmp .gt 11, 3) := by decide +kernel
theorem zd_LassoSearch_closePart_89 : decode prog_4_method_9_code 89 = .ok (.aload_n 0, 1) := by decide +kernel
theorem zd_LassoSearch_closePart_90 : decode prog_4_method_9_code 90 = .ok (.iload_n 1, 1) := by decide +kernel
theorem zd_LassoSearch_closePart_91 : decode prog_4_method_9_code 91 = .ok (.invokevirtual 140, 3) := by decide +kernel
theorem zd_LassoSearch_closePart_94 : decode prog_4_method_9_code 94 = .ok (.ifCond .eq 7, 3) := by decide +kernel
theorem zd_LassoSearch_closePart_97 : decode prog_4_method_9_code 97 = .ok (.iconst 1, 1) := by decide +kernel
theorem zd_LassoSearch_closePart_98 : decode prog_4_method_9_code 98 = .ok (.goto 4, 3) := by decide +kernel
theorem zd_LassoSearch_closePart_101 : decode prog_4_method_9_code 101 = .ok (.iconst 0, 1) := by decide +kernel
theorem zd_LassoSearch_closePart_102 : decode prog_4_method_9_code 102 = .ok (.istore 4, 2) := by decide +kernel
theorem zd_LassoSearch_closePart_104 : decode prog_4_method_9_code 104 = .ok (.iload 4, 2) := by decide +kernel
theorem zd_LassoSearch_closePart_106 : decode prog_4_method_9_code 106 = .ok (.ifCond .eq 51, 3) := by decide +kernel
theorem zd_LassoSearch_closePart_109 : decode prog_4_method_9_code 109 = .ok (.iload_n 3, 1) := by decide +kernel
theorem zd_LassoSearch_closePart_110 : decode prog_4_method_9_code 110 = .ok (.aload_n 0, 1) := by decide +kernel
theorem zd_LassoSearch_closePart_111 : decode prog_4_method_9_code 111 = .ok (.getfield 19, 3) := by decide +kernel
theorem zd_LassoSearch_closePart_114 : decode prog_4_method_9_code 114 = .ok (.getfield 104, 3) := by decide +kernel
theorem zd_LassoSearch_closePart_117 : decode prog_4_method_9_code 117 = .ok (.iconst 1, 1) := by decide +kernel
theorem zd_LassoSearch_closePart_118 : decode prog_4_method_9_code 118 = .ok (.isub, 1) := by decide +kernel
theorem zd_LassoSearch_closePart_119 : decode prog_4_method_9_code 119 = .ok (.if_icmp .ne 38, 3) := by decide +kernel
theorem zd_LassoSearch_closePart_122 : decode prog_4_method_9_code 122 = .ok (.aload_n 0, 1) := by decide +kernel
theorem zd_LassoSearch_closePart_123 : decode prog_4_method_9_code 123 = .ok (.getfield 98, 3) := by decide +kernel
theorem zd_LassoSearch_closePart_126 : decode prog_4_method_9_code 126 = .ok (.istore 5, 2) := by decide +kernel
theorem zd_LassoSearch_closePart_128 : decode prog_4_method_9_code 128 = .ok (.iload 5, 2) := by decide +kernel
theorem zd_LassoSearch_closePart_130 : decode prog_4_method_9_code 130 = .ok (.aload_n 0, 1) := by decide +kernel
theorem zd_LassoSearch_closePart_131 : decode prog_4_method_9_code 131 = .ok (.getfield 98, 3) := by decide +kernel
theorem zd_LassoSearch_closePart_134 : decode prog_4_method_9_code 134 = .ok (.iload_n 2, 1) := by decide +kernel
theorem zd_LassoSearch_closePart_135 : decode prog_4_method_9_code 135 = .ok (.iadd, 1) := by decide +kernel
theorem zd_LassoSearch_closePart_136 : decode prog_4_method_9_code 136 = .ok (.if_icmp .ge 21, 3) := by decide +kernel
theorem zd_LassoSearch_closePart_139 : decode prog_4_method_9_code 139 = .ok (.aload_n 0, 1) := by decide +kernel
theorem zd_LassoSearch_closePart_140 : decode prog_4_method_9_code 140 = .ok (.aload_n 0, 1) := by decide +kernel
theorem zd_LassoSearch_closePart_141 : decode prog_4_method_9_code 141 = .ok (.getfield 40, 3) := by decide +kernel
theorem zd_LassoSearch_closePart_144 : decode prog_4_method_9_code 144 = .ok (.iload 5, 2) := by decide +kernel
theorem zd_LassoSearch_closePart_146 : decode prog_4_method_9_code 146 = .ok (.iaload, 1) := by decide +kernel
theorem zd_LassoSearch_closePart_147 : decode prog_4_method_9_code 147 = .ok (.iconst 0, 1) := by decide +kernel
theorem zd_LassoSearch_closePart_148 : decode prog_4_method_9_code 148 = .ok (.invokevirtual 144, 3) := by decide +kernel
theorem zd_LassoSearch_closePart_151 : decode prog_4_method_9_code 151 = .ok (.iinc 5 1, 3) := by decide +kernel
theorem zd_LassoSearch_closePart_154 : decode prog_4_method_9_code 154 = .ok (.goto (-26), 3) := by decide +kernel
theorem zd_LassoSearch_closePart_157 : decode prog_4_method_9_code 157 = .ok (.return_, 1) := by decide +kernel
theorem zd_LassoSearch_leaveSpot_0 : decode prog_4_method_8_code 0 = .ok (.aload_n 0, 1) := by decide +kernel
theorem zd_LassoSearch_leaveSpot_1 : decode prog_4_method_8_code 1 = .ok (.dup, 1) := by decide +kernel
theorem zd_LassoSearch_leaveSpot_2 : decode prog_4_method_8_code 2 = .ok (.getfield 110, 3) := by decide +kernel
theorem zd_LassoSearch_leaveSpot_5 : decode prog_4_method_8_code 5 = .ok (.iconst 1, 1) := by decide +kernel
theorem zd_LassoSearch_leaveSpot_6 : decode prog_4_method_8_code 6 = .ok (.isub, 1) := by decide +kernel
theorem zd_LassoSearch_leaveSpot_7 : decode prog_4_method_8_code 7 = .ok (.putfield 110, 3) := by decide +kernel
theorem zd_LassoSearch_leaveSpot_10 : decode prog_4_method_8_code 10 = .ok (.aload_n 0, 1) := by decide +kernel
theorem zd_LassoSearch_leaveSpot_11 : decode prog_4_method_8_code 11 = .ok (.getfield 110, 3) := by decide +kernel
theorem zd_LassoSearch_leaveSpot_14 : decode prog_4_method_8_code 14 = .ok (.ifCond .le 36, 3) := by decide +kernel
theorem zd_LassoSearch_leaveSpot_17 : decode prog_4_method_8_code 17 = .ok (.aload_n 0, 1) := by decide +kernel
theorem zd_LassoSearch_leaveSpot_18 : decode prog_4_method_8_code 18 = .ok (.getfield 37, 3) := by decide +kernel
theorem zd_LassoSearch_leaveSpot_21 : decode prog_4_method_8_code 21 = .ok (.aload_n 0, 1) := by decide +kernel
theorem zd_LassoSearch_leaveSpot_22 : decode prog_4_method_8_code 22 = .ok (.getfield 110, 3) := by decide +kernel
theorem zd_LassoSearch_leaveSpot_25 : decode prog_4_method_8_code 25 = .ok (.iconst 1, 1) := by decide +kernel
theorem zd_LassoSearch_leaveSpot_26 : decode prog_4_method_8_code 26 = .ok (.isub, 1) := by decide +kernel
theorem zd_LassoSearch_leaveSpot_27 : decode prog_4_method_8_code 27 = .ok (.iaload, 1) := by decide +kernel
theorem zd_LassoSearch_leaveSpot_28 : decode prog_4_method_8_code 28 = .ok (.istore_n 2, 1) := by decide +kernel
theorem zd_LassoSearch_leaveSpot_29 : decode prog_4_method_8_code 29 = .ok (.aload_n 0, 1) := by decide +kernel
theorem zd_LassoSearch_leaveSpot_30 : decode prog_4_method_8_code 30 = .ok (.getfield 27, 3) := by decide +kernel
theorem zd_LassoSearch_leaveSpot_33 : decode prog_4_method_8_code 33 = .ok (.iload_n 2, 1) := by decide +kernel
theorem zd_LassoSearch_leaveSpot_34 : decode prog_4_method_8_code 34 = .ok (.aload_n 0, 1) := by decide +kernel
theorem zd_LassoSearch_leaveSpot_35 : decode prog_4_method_8_code 35 = .ok (.getfield 27, 3) := by decide +kernel
theorem zd_LassoSearch_leaveSpot_38 : decode prog_4_method_8_code 38 = .ok (.iload_n 2, 1) := by decide +kernel
theorem zd_LassoSearch_leaveSpot_39 : decode prog_4_method_8_code 39 = .ok (.iaload, 1) := by decide +kernel
theorem zd_LassoSearch_leaveSpot_40 : decode prog_4_method_8_code 40 = .ok (.aload_n 0, 1) := by decide +kernel
theorem zd_LassoSearch_leaveSpot_41 : decode prog_4_method_8_code 41 = .ok (.getfield 27, 3) := by decide +kernel
theorem zd_LassoSearch_leaveSpot_44 : decode prog_4_method_8_code 44 = .ok (.iload_n 1, 1) := by decide +kernel
theorem zd_LassoSearch_leaveSpot_45 : decode prog_4_method_8_code 45 = .ok (.iaload, 1) := by decide +kernel
theorem zd_LassoSearch_leaveSpot_46 : decode prog_4_method_8_code 46 = .ok (.invokestatic 129, 3) := by decide +kernel
theorem zd_LassoSearch_leaveSpot_49 : decode prog_4_method_8_code 49 = .ok (.iastore, 1) := by decide +kernel
theorem zd_LassoSearch_leaveSpot_50 : decode prog_4_method_8_code 50 = .ok (.aload_n 0, 1) := by decide +kernel
theorem zd_LassoSearch_leaveSpot_51 : decode prog_4_method_8_code 51 = .ok (.getfield 27, 3) := by decide +kernel
theorem zd_LassoSearch_leaveSpot_54 : decode prog_4_method_8_code 54 = .ok (.iload_n 1, 1) := by decide +kernel
theorem zd_LassoSearch_leaveSpot_55 : decode prog_4_method_8_code 55 = .ok (.iaload, 1) := by decide +kernel
theorem zd_LassoSearch_leaveSpot_56 : decode prog_4_method_8_code 56 = .ok (.aload_n 0, 1) := by decide +kernel
theorem zd_LassoSearch_leaveSpot_57 : decode prog_4_method_8_code 57 = .ok (.getfield 23, 3) := by decide +kernel
theorem zd_LassoSearch_leaveSpot_60 : decode prog_4_method_8_code 60 = .ok (.iload_n 1, 1) := by decide +kernel
theorem zd_LassoSearch_leaveSpot_61 : decode prog_4_method_8_code 61 = .ok (.iaload, 1) := by decide +kernel
theorem zd_LassoSearch_leaveSpot_62 : decode prog_4_method_8_code 62 = .ok (.if_icmp .ne 8, 3) := by decide +kernel
theorem zd_LassoSearch_leaveSpot_65 : decode prog_4_method_8_code 65 = .ok (.aload_n 0, 1) := by decide +kernel
theorem zd_LassoSearch_leaveSpot_66 : decode prog_4_method_8_code 66 = .ok (.iload_n 1, 1) := by decide +kernel
theorem zd_LassoSearch_leaveSpot_67 : decode prog_4_method_8_code 67 = .ok (.invokevirtual 134, 3) := by decide +kernel
theorem zd_LassoSearch_leaveSpot_70 : decode prog_4_method_8_code 70 = .ok (.return_, 1) := by decide +kernel
theorem zd_LassoSearch_markCycles_0 : decode prog_4_method_5_code 0 = .ok (.aload_n 0, 1) := by decide +kernel
theorem zd_LassoSearch_markCycles_1 : decode prog_4_method_5_code 1 = .ok (.getfield 23, 3) := by decide +kernel
theorem zd_LassoSearch_markCycles_4 : decode prog_4_method_5_code 4 = .ok (.iconst 0, 1) := by decide +kernel
theorem zd_LassoSearch_markCycles_5 : decode prog_4_method_5_code 5 = .ok (.invokestatic 65, 3) := by decide +kernel
theorem zd_LassoSearch_markCycles_8 : decode prog_4_method_5_code 8 = .ok (.aload_n 0, 1) := by decide +kernel
theorem zd_LassoSearch_markCycles_9 : decode prog_4_method_5_code 9 = .ok (.iconst 0, 1) := by decide +kernel
theorem zd_LassoSearch_markCycles_10 : decode prog_4_method_5_code 10 = .ok (.putfield 95, 3) := by decide +kernel
theorem zd_LassoSearch_markCycles_13 : decode prog_4_method_5_code 13 = .ok (.aload_n 0, 1) := by decide +kernel
theorem zd_LassoSearch_markCycles_14 : decode prog_4_method_5_code 14 = .ok (.iconst 0, 1) := by decide +kernel
theorem zd_LassoSearch_markCycles_15 : decode prog_4_method_5_code 15 = .ok (.putfield 98, 3) := by decide +kernel
theorem zd_LassoSearch_markCycles_18 : decode prog_4_method_5_code 18 = .ok (.iconst 0, 1) := by decide +kernel
theorem zd_LassoSearch_markCycles_19 : decode prog_4_method_5_code 19 = .ok (.istore_n 1, 1) := by decide +kernel
theorem zd_LassoSearch_markCycles_20 : decode prog_4_method_5_code 20 = .ok (.iload_n 1, 1) := by decide +kernel
theorem zd_LassoSearch_markCycles_21 : decode prog_4_method_5_code 21 = .ok (.aload_n 0, 1) := by decide +kernel
theorem zd_LassoSearch_markCycles_22 : decode prog_4_method_5_code 22 = .ok (.getfield 15, 3) := by decide +kernel
theorem zd_LassoSearch_markCycles_25 : decode prog_4_method_5_code 25 = .ok (.getfield 101, 3) := by decide +kernel
theorem zd_LassoSearch_markCycles_28 : decode prog_4_method_5_code 28 = .ok (.bipush 8, 2) := by decide +kernel
theorem zd_LassoSearch_markCycles_30 : decode prog_4_method_5_code 30 = .ok (.imul, 1) := by decide +kernel
theorem zd_LassoSearch_markCycles_31 : decode prog_4_method_5_code 31 = .ok (.if_icmp .ge 37, 3) := by decide +kernel
theorem zd_LassoSearch_markCycles_34 : decode prog_4_method_5_code 34 = .ok (.aload_n 0, 1) := by decide +kernel
theorem zd_LassoSearch_markCycles_35 : decode prog_4_method_5_code 35 = .ok (.getfield 23, 3) := by decide +kernel
theorem zd_LassoSearch_markCycles_38 : decode prog_4_method_5_code 38 = .ok (.iload_n 1, 1) := by decide +kernel
theorem zd_LassoSearch_markCycles_39 : decode prog_4_method_5_code 39 = .ok (.iaload, 1) := by decide +kernel
theorem zd_LassoSearch_markCycles_40 : decode prog_4_method_5_code 40 = .ok (.ifCond .ne 22, 3) := by decide +kernel
theorem zd_LassoSearch_markCycles_43 : decode prog_4_method_5_code 43 = .ok (.iload_n 1, 1) := by decide +kernel
theorem zd_LassoSearch_markCycles_44 : decode prog_4_method_5_code 44 = .ok (.bipush 8, 2) := by decide +kernel
theorem zd_LassoSearch_markCycles_46 : decode prog_4_method_5_code 46 = .ok (.irem, 1) := by decide +kernel
theorem zd_LassoSearch_markCycles_47 : decode prog_4_method_5_code 47 = .ok (.aload_n 0, 1) := by decide +kernel
theorem zd_LassoSearch_markCycles_48 : decode prog_4_method_5_code 48 = .ok (.getfield 19, 3) := by decide +kernel
theorem zd_LassoSearch_markCycles_51 : decode prog_4_method_5_code 51 = .ok (.getfield 104, 3) := by decide +kernel
theorem zd_LassoSearch_markCycles_54 : decode prog_4_method_5_code 54 = .ok (.if_icmp .ge 8, 3) := by decide +kernel
theorem zd_LassoSearch_markCycles_57 : decode prog_4_method_5_code 57 = .ok (.aload_n 0, 1) := by decide +kernel
theorem zd_LassoSearch_markCycles_58 : decode prog_4_method_5_code 58 = .ok (.iload_n 1, 1) := by decide +kernel
theorem zd_LassoSearch_markCycles_59 : decode prog_4_method_5_code 59 = .ok (.invokevirtual 107, 3) := by decide +kernel
theorem zd_LassoSearch_markCycles_62 : decode prog_4_method_5_code 62 = .ok (.iinc 1 1, 3) := by decide +kernel
theorem zd_LassoSearch_markCycles_65 : decode prog_4_method_5_code 65 = .ok (.goto (-45), 3) := by decide +kernel
theorem zd_LassoSearch_markCycles_68 : decode prog_4_method_5_code 68 = .ok (.return_, 1) := by decide +kernel
theorem zd_LassoSearch_measureStems_0 : decode prog_4_method_12_code 0 = .ok (.iconst 0, 1) := by decide +kernel
theorem zd_LassoSearch_measureStems_1 : decode prog_4_method_12_code 1 = .ok (.istore_n 1, 1) := by decide +kernel
theorem zd_LassoSearch_measureStems_2 : decode prog_4_method_12_code 2 = .ok (.iload_n 1, 1) := by decide +kernel
theorem zd_LassoSearch_measureStems_3 : decode prog_4_method_12_code 3 = .ok (.sipush 768, 3) := by decide +kernel
theorem zd_LassoSearch_measureStems_6 : decode prog_4_method_12_code 6 = .ok (.if_icmp .ge 92, 3) := by decide +kernel
theorem zd_LassoSearch_measureStems_9 : decode prog_4_method_12_code 9 = .ok (.iload_n 1, 1) := by decide +kernel
theorem zd_LassoSearch_measureStems_10 : decode prog_4_method_12_code 10 = .ok (.aload_n 0, 1) := by decide +kernel
theorem zd_LassoSearch_measureStems_11 : decode prog_4_method_12_code 11 = .ok (.getfield 62, 3) := by decide +kernel
theorem zd_LassoSearch_measureStems_14 : decode prog_4_method_12_code 14 = .ok (.if_icmp .ge 84, 3) := by decide +kernel
theorem zd_LassoSearch_measureStems_17 : decode prog_4_method_12_code 17 = .ok (.aload_n 0, 1) := by decide +kernel
theorem zd_LassoSearch_measureStems_18 : decode prog_4_method_12_code 18 = .ok (.getfield 46, 3) := by decide +kernel
theorem zd_LassoSearch_measureStems_21 : decode prog_4_method_12_code 21 = .ok (.iload_n 1, 1) := by decide +kernel
theorem zd_LassoSearch_measureStems_22 : decode prog_4_method_12_code 22 = .ok (.iaload, 1) := by decide +kernel
theorem zd_LassoSearch_measureStems_23 : decode prog_4_method_12_code 23 = .ok (.istore_n 2, 1) := by decide +kernel
theorem zd_LassoSearch_measureStems_24 : decode prog_4_method_12_code 24 = .ok (.iload_n 2, 1) := by decide +kernel
theorem zd_LassoSearch_measureStems_25 : decode prog_4_method_12_code 25 = .ok (.bipush 8, 2) := by decide +kernel
theorem zd_LassoSearch_measureStems_27 : decode prog_4_method_12_code 27 = .ok (.idiv, 1) := by decide +kernel
theorem zd_LassoSearch_measureStems_28 : decode prog_4_method_12_code 28 = .ok (.istore_n 3, 1) := by decide +kernel
theorem zd_LassoSearch_measureStems_29 : decode prog_4_method_12_code 29 = .ok (.aload_n 0, 1) := by decide +kernel
theorem zd_LassoSearch_measureStems_30 : decode prog_4_method_12_code 30 = .ok (.getfield 15, 3) := by decide +kernel
theorem zd_LassoSearch_measureStems_33 : decode prog_4_method_12_code 33 = .ok (.getfield 116, 3) := by decide +kernel
theorem zd_LassoSearch_measureStems_36 : decode prog_4_method_12_code 36 = .ok (.iload_n 3, 1) := by decide +kernel
theorem zd_LassoSearch_measureStems_37 : decode prog_4_method_12_code 37 = .ok (.iaload, 1) := by decide +kernel
theorem zd_LassoSearch_measureStems_38 : decode prog_4_method_12_code 38 = .ok (.istore 4, 2) := by decide +kernel
theorem zd_LassoSearch_measureStems_40 : decode prog_4_method_12_code 40 = .ok (.iload 4, 2) := by decide +kernel
theorem zd_LassoSearch_measureStems_42 : decode prog_4_method_12_code 42 = .ok (.aload_n 0, 1) := by decide +kernel
theorem zd_LassoSearch_measureStems_43 : decode prog_4_method_12_code 43 = .ok (.getfield 15, 3) := by decide +kernel
theorem zd_LassoSearch_measureStems_46 : decode prog_4_method_12_code 46 = .ok (.getfield 116, 3) := by decide +kernel
theorem zd_LassoSearch_measureStems_49 : decode prog_4_method_12_code 49 = .ok (.iload_n 3, 1) := by decide +kernel
theorem zd_LassoSearch_measureStems_50 : decode prog_4_method_12_code 50 = .ok (.iconst 1, 1) := by decide +kernel
theorem zd_LassoSearch_measureStems_51 : decode prog_4_method_12_code 51 = .ok (.iadd, 1) := by decide +kernel
theorem zd_LassoSearch_measureStems_52 : decode prog_4_method_12_code 52 = .ok (.iaload, 1) := by decide +kernel
theorem zd_LassoSearch_measureStems_53 : decode prog_4_method_12_code 53 = .ok (.if_icmp .ge 39, 3) := by decide +kernel
theorem zd_LassoSearch_measureStems_56 : decode prog_4_method_12_code 56 = .ok (.aload_n 0, 1) := by decide +kernel
theorem zd_LassoSearch_measureStems_57 : decode prog_4_method_12_code 57 = .ok (.aload_n 0, 1) := by decide +kernel
theorem zd_LassoSearch_measureStems_58 : decode prog_4_method_12_code 58 = .ok (.aload_n 0, 1) := by decide +kernel
theorem zd_LassoSearch_measureStems_59 : decode prog_4_method_12_code 59 = .ok (.getfield 15, 3) := by decide +kernel
theorem zd_LassoSearch_measureStems_62 : decode prog_4_method_12_code 62 = .ok (.getfield 122, 3) := by decide +kernel
theorem zd_LassoSearch_measureStems_65 : decode prog_4_method_12_code 65 = .ok (.iload 4, 2) := by decide +kernel
theorem zd_LassoSearch_measureStems_67 : decode prog_4_method_12_code 67 = .ok (.iaload, 1) := by decide +kernel
theorem zd_LassoSearch_measureStems_68 : decode prog_4_method_12_code 68 = .ok (.iload_n 2, 1) := by decide +kernel
theorem zd_LassoSearch_measureStems_69 : decode prog_4_method_12_code 69 = .ok (.bipush 8, 2) := by decide +kernel
theorem zd_LassoSearch_measureStems_71 : decode prog_4_method_12_code 71 = .ok (.irem, 1) := by decide +kernel
theorem zd_LassoSearch_measureStems_72 : decode prog_4_method_12_code 72 = .ok (.invokevirtual 125, 3) := by decide +kernel
theorem zd_LassoSearch_measureStems_75 : decode prog_4_method_12_code 75 = .ok (.aload_n 0, 1) := by decide +kernel
theorem zd_LassoSearch_measureStems_76 : decode prog_4_method_12_code 76 = .ok (.getfield 43, 3) := by decide +kernel
theorem zd_LassoSearch_measureStems_79 : decode prog_4_method_12_code 79 = .ok (.iload_n 2, 1) := by decide +kernel
theorem zd_LassoSearch_measureStems_80 : decode prog_4_method_12_code 80 = .ok (.iaload, 1) := by decide +kernel
theorem zd_LassoSearch_measureStems_81 : decode prog_4_method_12_code 81 = .ok (.iconst 1, 1) := by decide +kernel
theorem zd_LassoSearch_measureStems_82 : decode prog_4_method_12_code 82 = .ok (.iadd, 1) := by decide +kernel
theorem zd_LassoSearch_measureStems_83 : decode prog_4_method_12_code 83 = .ok (.invokevirtual 144, 3) := by decide +kernel
theorem zd_LassoSearch_measureStems_86 : decode prog_4_method_12_code 86 = .ok (.iinc 4 1, 3) := by decide +kernel
theorem zd_LassoSearch_measureStems_89 : decode prog_4_method_12_code 89 = .ok (.goto (-49), 3) := by decide +kernel
theorem zd_LassoSearch_measureStems_92 : decode prog_4_method_12_code 92 = .ok (.iinc 1 1, 3) := by decide +kernel
theorem zd_LassoSearch_measureStems_95 : decode prog_4_method_12_code 95 = .ok (.goto (-93), 3) := by decide +kernel
theorem zd_LassoSearch_measureStems_98 : decode prog_4_method_12_code 98 = .ok (.return_, 1) := by decide +kernel
theorem zd_LassoSearch_searchFrom_0 : decode prog_4_method_6_code 0 = .ok (.aload_n 0, 1) := by decide +kernel
theorem zd_LassoSearch_searchFrom_1 : decode prog_4_method_6_code 1 = .ok (.iconst 0, 1) := by decide +kernel
theorem zd_LassoSearch_searchFrom_2 : decode prog_4_method_6_code 2 = .ok (.putfield 110, 3) := by decide +kernel
theorem zd_LassoSearch_searchFrom_5 : decode prog_4_method_6_code 5 = .ok (.aload_n 0, 1) := by decide +kernel
theorem zd_LassoSearch_searchFrom_6 : decode prog_4_method_6_code 6 = .ok (.iload_n 1, 1) := by decide +kernel
theorem zd_LassoSearch_searchFrom_7 : decode prog_4_method_6_code 7 = .ok (.invokevirtual 113, 3) := by decide +kernel
theorem zd_LassoSearch_searchFrom_10 : decode prog_4_method_6_code 10 = .ok (.iconst 0, 1) := by decide +kernel
theorem zd_LassoSearch_searchFrom_11 : decode prog_4_method_6_code 11 = .ok (.istore_n 2, 1) := by decide +kernel
theorem zd_LassoSearch_searchFrom_12 : decode prog_4_method_6_code 12 = .ok (.iload_n 2, 1) := by decide +kernel
theorem zd_LassoSearch_searchFrom_13 : decode prog_4_method_6_code 13 = .ok (.sipush 10000, 3) := by decide +kernel
theorem zd_LassoSearch_searchFrom_16 : decode prog_4_method_6_code 16 = .ok (.if_icmp .ge 148, 3) := by decide +kernel
theorem zd_LassoSearch_searchFrom_19 : decode prog_4_method_6_code 19 = .ok (.aload_n 0, 1) := by decide +kernel
theorem zd_LassoSearch_searchFrom_20 : decode prog_4_method_6_code 20 = .ok (.getfield 110, 3) := by decide +kernel
theorem zd_LassoSearch_searchFrom_23 : decode prog_4_method_6_code 23 = .ok (.ifCond .le 141, 3) := by decide +kernel
theorem zd_LassoSearch_searchFrom_26 : decode prog_4_method_6_code 26 = .ok (.aload_n 0, 1) := by decide +kernel
theorem zd_LassoSearch_searchFrom_27 : decode prog_4_method_6_code 27 = .ok (.getfield 37, 3) := by decide +kernel
theorem zd_LassoSearch_searchFrom_30 : decode prog_4_method_6_code 30 = .ok (.aload_n 0, 1) := by decide +kernel
theorem zd_LassoSearch_searchFrom_31 : decode prog_4_method_6_code 31 = .ok (.getfield 110, 3) := by decide +kernel
theorem zd_LassoSearch_searchFrom_34 : decode prog_4_method_6_code 34 = .ok (.iconst 1, 1) := by decide +kernel
theorem zd_LassoSearch_searchFrom_35 : decode prog_4_method_6_code 35 = .ok (.isub, 1) := by decide +kernel
theorem zd_LassoSearch_searchFrom_36 : decode prog_4_method_6_code 36 = .ok (.iaload, 1) := by decide +kernel
theorem zd_LassoSearch_searchFrom_37 : decode prog_4_method_6_code 37 = .ok (.istore_n 3, 1) := by decide +kernel
theorem zd_LassoSearch_searchFrom_38 : decode prog_4_method_6_code 38 = .ok (.iload_n 3, 1) := by decide +kernel
theorem zd_LassoSearch_searchFrom_39 : decode prog_4_method_6_code 39 = .ok (.bipush 8, 2) := by decide +kernel
theorem zd_LassoSearch_searchFrom_41 : decode prog_4_method_6_code 41 = .ok (.idiv, 1) := by decide +kernel
theorem zd_LassoSearch_searchFrom_42 : decode prog_4_method_6_code 42 = .ok (.istore 4, 2) := by decide +kernel
theorem zd_LassoSearch_searchFrom_44 : decode prog_4_method_6_code 44 = .ok (.aload_n 0, 1) := by decide +kernel
theorem zd_LassoSearch_searchFrom_45 : decode prog_4_method_6_code 45 = .ok (.getfield 30, 3) := by decide +kernel
theorem zd_LassoSearch_searchFrom_48 : decode prog_4_method_6_code 48 = .ok (.iload_n 3, 1) := by decide +kernel
theorem zd_LassoSearch_searchFrom_49 : decode prog_4_method_6_code 49 = .ok (.iaload, 1) := by decide +kernel
theorem zd_LassoSearch_searchFrom_50 : decode prog_4_method_6_code 50 = .ok (.aload_n 0, 1) := by decide +kernel
theorem zd_LassoSearch_searchFrom_51 : decode prog_4_method_6_code 51 = .ok (.getfield 15, 3) := by decide +kernel
theorem zd_LassoSearch_searchFrom_54 : decode prog_4_method_6_code 54 = .ok (.getfield 116, 3) := by decide +kernel
theorem zd_LassoSearch_searchFrom_57 : decode prog_4_method_6_code 57 = .ok (.iload 4, 2) := by decide +kernel
theorem zd_LassoSearch_searchFrom_59 : decode prog_4_method_6_code 59 = .ok (.iconst 1, 1) := by decide +kernel
theorem zd_LassoSearch_searchFrom_60 : decode prog_4_method_6_code 60 = .ok (.iadd, 1) := by decide +kernel
theorem zd_LassoSearch_searchFrom_61 : decode prog_4_method_6_code 61 = .ok (.iaload, 1) := by decide +kernel
theorem zd_LassoSearch_searchFrom_62 : decode prog_4_method_6_code 62 = .ok (.if_icmp .ne 11, 3) := by decide +kernel
theorem zd_LassoSearch_searchFrom_65 : decode prog_4_method_6_code 65 = .ok (.aload_n 0, 1) := by decide +kernel
theorem zd_LassoSearch_searchFrom_66 : decode prog_4_method_6_code 66 = .ok (.iload_n 3, 1) := by decide +kernel
theorem zd_LassoSearch_searchFrom_67 : decode prog_4_method_6_code 67 = .ok (.invokevirtual 119, 3) := by decide +kernel
theorem zd_LassoSearch_searchFrom_70 : decode prog_4_method_6_code 70 = .ok (.goto 88, 3) := by decide +kernel
theorem zd_LassoSearch_searchFrom_73 : decode prog_4_method_6_code 73 = .ok (.aload_n 0, 1) := by decide +kernel
theorem zd_LassoSearch_searchFrom_74 : decode prog_4_method_6_code 74 = .ok (.aload_n 0, 1) := by decide +kernel
theorem zd_LassoSearch_searchFrom_75 : decode prog_4_method_6_code 75 = .ok (.getfield 15, 3) := by decide +kernel
theorem zd_LassoSearch_searchFrom_78 : decode prog_4_method_6_code 78 = .ok (.getfield 122, 3) := by decide +kernel
theorem zd_LassoSearch_searchFrom_81 : decode prog_4_method_6_code 81 = .ok (.aload_n 0, 1) := by decide +kernel
theorem zd_LassoSearch_searchFrom_82 : decode prog_4_method_6_code 82 = .ok (.getfield 30, 3) := by decide +kernel
theorem zd_LassoSearch_searchFrom_85 : decode prog_4_method_6_code 85 = .ok (.iload_n 3, 1) := by decide +kernel
theorem zd_LassoSearch_searchFrom_86 : decode prog_4_method_6_code 86 = .ok (.iaload, 1) := by decide +kernel
theorem zd_LassoSearch_searchFrom_87 : decode prog_4_method_6_code 87 = .ok (.iaload, 1) := by decide +kernel
theorem zd_LassoSearch_searchFrom_88 : decode prog_4_method_6_code 88 = .ok (.iload_n 3, 1) := by decide +kernel
theorem zd_LassoSearch_searchFrom_89 : decode prog_4_method_6_code 89 = .ok (.bipush 8, 2) := by decide +kernel
theorem zd_LassoSearch_searchFrom_91 : decode prog_4_method_6_code 91 = .ok (.irem, 1) := by decide +kernel
theorem zd_LassoSearch_searchFrom_92 : decode prog_4_method_6_code 92 = .ok (.invokevirtual 125, 3) := by decide +kernel
theorem zd_LassoSearch_searchFrom_95 : decode prog_4_method_6_code 95 = .ok (.istore 5, 2) := by decide +kernel
theorem zd_LassoSearch_searchFrom_97 : decode prog_4_method_6_code 97 = .ok (.aload_n 0, 1) := by decide +kernel
theorem zd_LassoSearch_searchFrom_98 : decode prog_4_method_6_code 98 = .ok (.getfield 30, 3) := by decide +kernel
theorem zd_LassoSearch_searchFrom_101 : decode prog_4_method_6_code 101 = .ok (.iload_n 3, 1) := by decide +kernel
theorem zd_LassoSearch_searchFrom_102 : decode prog_4_method_6_code 102 = .ok (.dup2, 1) := by decide +kernel
theorem zd_LassoSearch_searchFrom_103 : decode prog_4_method_6_code 103 = .ok (.iaload, 1) := by decide +kernel
theorem zd_LassoSearch_searchFrom_104 : decode prog_4_method_6_code 104 = .ok (.iconst 1, 1) := by decide +kernel
theorem zd_LassoSearch_searchFrom_105 : decode prog_4_method_6_code 105 = .ok (.iadd, 1) := by decide +kernel
theorem zd_LassoSearch_searchFrom_106 : decode prog_4_method_6_code 106 = .ok (.iastore, 1) := by decide +kernel
theorem zd_LassoSearch_searchFrom_107 : decode prog_4_method_6_code 107 = .ok (.aload_n 0, 1) := by decide +kernel
theorem zd_LassoSearch_searchFrom_108 : decode prog_4_method_6_code 108 = .ok (.getfield 23, 3) := by decide +kernel
theorem zd_LassoSearch_searchFrom_111 : decode prog_4_method_6_code 111 = .ok (.iload 5, 2) := by decide +kernel
theorem zd_LassoSearch_searchFrom_113 : decode prog_4_method_6_code 113 = .ok (.iaload, 1) := by decide +kernel
theorem zd_LassoSearch_searchFrom_114 : decode prog_4_method_6_code 114 = .ok (.ifCond .ne 12, 3) := by decide +kernel
theorem zd_LassoSearch_searchFrom_117 : decode prog_4_method_6_code 117 = .ok (.aload_n 0, 1) := by decide +kernel
theorem zd_LassoSearch_searchFrom_118 : decode prog_4_method_6_code 118 = .ok (.iload 5, 2) := by decide +kernel
theorem zd_LassoSearch_searchFrom_120 : decode prog_4_method_6_code 120 = .ok (.invokevirtual 113, 3) := by decide +kernel
theorem zd_LassoSearch_searchFrom_123 : decode prog_4_method_6_code 123 = .ok (.goto 35, 3) := by decide +kernel
theorem zd_LassoSearch_searchFrom_126 : decode prog_4_method_6_code 126 = .ok (.aload_n 0, 1) := by decide +kernel
theorem zd_LassoSearch_searchFrom_127 : decode prog_4_method_6_code 127 = .ok (.getfield 33, 3) := by decide +kernel
theorem zd_LassoSearch_searchFrom_130 : decode prog_4_method_6_code 130 = .ok (.iload 5, 2) := by decide +kernel
theorem zd_LassoSearch_searchFrom_132 : decode prog_4_method_6_code 132 = .ok (.baload, 1) := by decide +kernel
theorem zd_LassoSearch_searchFrom_133 : decode prog_4_method_6_code 133 = .ok (.ifCond .eq 25, 3) := by decide +kernel
theorem zd_LassoSearch_searchFrom_136 : decode prog_4_method_6_code 136 = .ok (.aload_n 0, 1) := by decide +kernel
theorem zd_LassoSearch_searchFrom_137 : decode prog_4_method_6_code 137 = .ok (.getfield 27, 3) := by decide +kernel
theorem zd_LassoSearch_searchFrom_140 : decode prog_4_method_6_code 140 = .ok (.iload_n 3, 1) := by decide +kernel
theorem zd_LassoSearch_searchFrom_141 : decode prog_4_method_6_code 141 = .ok (.aload_n 0, 1) := by decide +kernel
theorem zd_LassoSearch_searchFrom_142 : decode prog_4_method_6_code 142 = .ok (.getfield 27, 3) := by decide +kernel
theorem zd_LassoSearch_searchFrom_145 : decode prog_4_method_6_code 145 = .ok (.iload_n 3, 1) := by decide +kernel
theorem zd_LassoSearch_searchFrom_146 : decode prog_4_method_6_code 146 = .ok (.iaload, 1) := by decide +kernel
theorem zd_LassoSearch_searchFrom_147 : decode prog_4_method_6_code 147 = .ok (.aload_n 0, 1) := by decide +kernel
theorem zd_LassoSearch_searchFrom_148 : decode prog_4_method_6_code 148 = .ok (.getfield 23, 3) := by decide +kernel
theorem zd_LassoSearch_searchFrom_151 : decode prog_4_method_6_code 151 = .ok (.iload 5, 2) := by decide +kernel
theorem zd_LassoSearch_searchFrom_153 : decode prog_4_method_6_code 153 = .ok (.iaload, 1) := by decide +kernel
theorem zd_LassoSearch_searchFrom_154 : decode prog_4_method_6_code 154 = .ok (.invokestatic 129, 3) := by decide +kernel
theorem zd_LassoSearch_searchFrom_157 : decode prog_4_method_6_code 157 = .ok (.iastore, 1) := by decide +kernel
theorem zd_LassoSearch_searchFrom_158 : decode prog_4_method_6_code 158 = .ok (.iinc 2 1, 3) := by decide +kernel
theorem zd_LassoSearch_searchFrom_161 : decode prog_4_method_6_code 161 = .ok (.goto (-149), 3) := by decide +kernel
theorem zd_LassoSearch_searchFrom_164 : decode prog_4_method_6_code 164 = .ok (.return_, 1) := by decide +kernel
def wc_LassoSearch_closePart_157 (a0 : Int32) (Post : (Nat → Int32) → (Nat → Int64) → (Nat → Nat → Int32) → (Nat → Nat → Int64) → Prop)  (I : Nat → Int32) (J : Nat → Int64) (B : Nat → Nat → Int32) (D : Nat → Nat → Int64) : Prop :=
  Post I J B D
def wb_LassoSearch_closePart_128 (a0 : Int32) (K128 : Int32 → Int32 → (Nat → Int32) → (Nat → Int64) → (Nat → Nat → Int32) → (Nat → Nat → Int64) → Prop) (Post : (Nat → Int32) → (Nat → Int64) → (Nat → Nat → Int32) → (Nat → Nat → Int64) → Prop) (x2 : Int32) (x5 : Int32) (I : Nat → Int32) (J : Nat → Int64) (B : Nat → Nat → Int32) (D : Nat → Nat → Int64) : Prop :=
  ∀ z1 : Int32, z1 = ((I 33) + x2) → ((z1 ≤ x5 → wc_LassoSearch_closePart_157 a0 Post I J B D) ∧ (¬ z1 ≤ x5 → vp_in x5 768 ∧ ∀ z3 : Int32, z3 = ((B 55) x5.toNatClampNeg) → wp_LassoSearch_reach I J B D z3 0 (fun I4 J4 B4 D4 => ∀ z5 : Int32, z5 = (x5 + 1) → K128 x2 z5 I4 J4 B4 D4)))
def wl_LassoSearch_closePart_128 (a0 : Int32) (Post : (Nat → Int32) → (Nat → Int64) → (Nat → Nat → Int32) → (Nat → Nat → Int64) → Prop) (n : Nat) : Int32 → Int32 → (Nat → Int32) → (Nat → Int64) → (Nat → Nat → Int32) → (Nat → Nat → Int64) → Prop := Nat.rec (fun _ _ _ _ _ _ => False) (fun _ r => wb_LassoSearch_closePart_128 a0 r Post) n
def wc_LassoSearch_closePart_102 (a0 : Int32) (Post : (Nat → Int32) → (Nat → Int64) → (Nat → Nat → Int32) → (Nat → Nat → Int64) → Prop) (x2 : Int32) (x3 : Int32) (y0 : Int32) (I : Nat → Int32) (J : Nat → Int64) (B : Nat → Nat → Int32) (D : Nat → Nat → Int64) : Prop :=
  ((y0 = 0 → wc_LassoSearch_closePart_157 a0 Post I J B D) ∧ (¬ y0 = 0 → ∀ z7 : Int32, z7 = ((I 30) - 1) → ((¬ x3 = z7 → wc_LassoSearch_closePart_157 a0 Post I J B D) ∧ (x3 = z7 → ∃ n : Nat, wl_LassoSearch_closePart_128 a0 Post n x2 (I 33) I J B D))))
def wc_LassoSearch_closePart_97 (a0 : Int32) (Post : (Nat → Int32) → (Nat → Int64) → (Nat → Nat → Int32) → (Nat → Nat → Int64) → Prop) (x2 : Int32) (x3 : Int32) (I : Nat → Int32) (J : Nat → Int64) (B : Nat → Nat → Int32) (D : Nat → Nat → Int64) : Prop :=
  wc_LassoSearch_closePart_102 a0 Post x2 x3 1 I J B D
def wc_LassoSearch_closePart_74 (a0 : Int32) (Post : (Nat → Int32) → (Nat → Int64) → (Nat → Nat → Int32) → (Nat → Nat → Int64) → Prop) (x1 : Int32) (x2 : Int32) (x3 : Int32) (I : Nat → Int32) (J : Nat → Int64) (B : Nat → Nat → Int32) (D : Nat → Nat → Int64) : Prop :=
  ∀ z9 : Int32, z9 = ((I 33) - x2) → (((1 : Int32) < x2 → wc_LassoSearch_closePart_97 a0 Post x2 x3 (upd I 33 z9) J B D) ∧ (¬ (1 : Int32) < x2 → wp_LassoSearch_leadsToItself (upd I 33 z9) J B D x1 (fun r11 I11 J11 B11 D11 => ((r11 = 0 → wc_LassoSearch_closePart_102 a0 Post x2 x3 0 I11 J11 B11 D11) ∧ (¬ r11 = 0 → wc_LassoSearch_closePart_97 a0 Post x2 x3 I11 J11 B11 D11)))))
def wc_LassoSearch_closePart_34 (a0 : Int32) (K12 : Int32 → Int32 → Int32 → Int32 → (Nat → Int32) → (Nat → Int64) → (Nat → Nat → Int32) → (Nat → Nat → Int64) → Prop) (Post : (Nat → Int32) → (Nat → Int64) → (Nat → Nat → Int32) → (Nat → Nat → Int64) → Prop) (x1 : Int32) (x2 : Int32) (x3 : Int32) (x4 : Int32) (I : Nat → Int32) (J : Nat → Int64) (B : Nat → Nat → Int32) (D : Nat → Nat → Int64) : Prop :=
  vp_in x4 768 ∧ ∀ z13 : Int32, z13 = ((B 55) x4.toNatClampNeg) → vp_in z13 768 ∧ ∀ z14 : Int32, z14 = ((B 48) z13.toNatClampNeg) → ∀ z15 : Int32, z15 = (x3 ||| z14) → vp_in x4 768 ∧ ∀ z16 : Int32, z16 = ((B 55) x4.toNatClampNeg) → vp_in z16 768 ∧ ∀ z17 : Int32, z17 = (x2 + 1) → ∀ z18 : Int32, z18 = (x4 + (-1)) → K12 x1 z17 z15 z18 I J (va_up B 53 (upd (B 53) z16.toNatClampNeg (vp_nar .boolean 0))) D
def wb_LassoSearch_closePart_12 (a0 : Int32) (K12 : Int32 → Int32 → Int32 → Int32 → (Nat → Int32) → (Nat → Int64) → (Nat → Nat → Int32) → (Nat → Nat → Int64) → Prop) (Post : (Nat → Int32) → (Nat → Int64) → (Nat → Nat → Int32) → (Nat → Nat → Int64) → Prop) (x1 : Int32) (x2 : Int32) (x3 : Int32) (x4 : Int32) (I : Nat → Int32) (J : Nat → Int64) (B : Nat → Nat → Int32) (D : Nat → Nat → Int64) : Prop :=
  ((x4 < 0 → wc_LassoSearch_closePart_74 a0 Post x1 x2 x3 I J B D) ∧ (¬ x4 < 0 → ((x2 = 0 → wc_LassoSearch_closePart_34 a0 K12 Post x1 x2 x3 x4 I J B D) ∧ (¬ x2 = 0 → ∀ z21 : Int32, z21 = (x4 + 1) → vp_in z21 768 ∧ ∀ z22 : Int32, z22 = ((B 55) z21.toNatClampNeg) → ((z22 = x1 → wc_LassoSearch_closePart_74 a0 Post x1 x2 x3 I J B D) ∧ (¬ z22 = x1 → wc_LassoSearch_closePart_34 a0 K12 Post x1 x2 x3 x4 I J B D))))))
def wl_LassoSearch_closePart_12 (a0 : Int32) (Post : (Nat → Int32) → (Nat → Int64) → (Nat → Nat → Int32) → (Nat → Nat → Int64) → Prop) (n : Nat) : Int32 → Int32 → Int32 → Int32 → (Nat → Int32) → (Nat → Int64) → (Nat → Nat → Int32) → (Nat → Nat → Int64) → Prop := Nat.rec (fun _ _ _ _ _ _ _ _ => False) (fun _ r => wb_LassoSearch_closePart_12 a0 r Post) n
def wp_LassoSearch_closePart (I : Nat → Int32) (J : Nat → Int64) (B : Nat → Nat → Int32) (D : Nat → Nat → Int64) (a0 : Int32) (Post : (Nat → Int32) → (Nat → Int64) → (Nat → Nat → Int32) → (Nat → Nat → Int64) → Prop) : Prop :=
  ∀ z24 : Int32, z24 = ((I 33) - 1) → ∃ n : Nat, wl_LassoSearch_closePart_12 a0 Post n a0 0 0 z24 I J B D
set_option maxHeartbeats 8000000 in
set_option maxRecDepth 100000 in
theorem wJ_LassoSearch_closePart_157 {p : Program} {l : Launch} {e : Env} {s : State} {m : MethodId} {below : List Frame} {meth : Method} {c : Code} {A : Nat → Prop} (G : va_G) (K : Nat → ClassId) (ad : Nat → Nat) (a0 : Int32) (Post : (Nat → Int32) → (Nat → Int64) → (Nat → Nat → Int32) → (Nat → Nat → Int64) → Prop) (C : zCx p s m ([.ref (ad 65), .int a0] : List Value).toArray meth c A G K prog_4_method_9_code none 6 "LassoFinder$LassoSearch") : ∀  (I : Nat → Int32) (J : Nat → Int64) (B : Nat → Nat → Int32) (D : Nat → Nat → Int64) (ls : Array Slot) (H : Heap) (locs : List Loc), wc_LassoSearch_closePart_157 a0 Post  I J B D → lv_has ls 6 [] → zW G A s.heap (wS ad K I J B D) H locs → W p l e { frames := 2, cells := 0, slots := 0, locals := 45 } s m ([.ref (ad 65), .int a0] : List Value).toArray below meth c H locs 0 0 (MQ below (va_Qv (fun u : zS => Post u.1 u.2.1 u.2.2.1 u.2.2.2) (fun u t => zPost G K A (wS ad K u.1 u.2.1 u.2.2.1 u.2.2.2) t) A) ([.ref (ad 65), .int a0] : List Value).toArray s 0 0 A) (F0 m 157 ls []) := by
  obtain ⟨hx, hb, hr, hml, hts, hown, hlocks, hA, hK⟩ := id C
  intro  I J B D ls H locs hok hl hw
  unfold wc_LassoSearch_closePart_157 at hok
  exact (z_vret (u := (I, J, B, D)) hx hb hr hlocks hw (List.range 77) wS_all wS_nd hok (Nat.le_of_ble_eq_true rfl) (Nat.le_of_ble_eq_true rfl) zd_LassoSearch_closePart_157)
set_option maxHeartbeats 8000000 in
set_option maxRecDepth 100000 in
theorem wB_LassoSearch_closePart_128 {p : Program} {l : Launch} {e : Env} {s : State} {m : MethodId} {below : List Frame} {meth : Method} {c : Code} {A : Nat → Prop} (G : va_G) (K : Nat → ClassId) (ad : Nat → Nat) (a0 : Int32) (Post : (Nat → Int32) → (Nat → Int64) → (Nat → Nat → Int32) → (Nat → Nat → Int64) → Prop) (C : zCx p s m ([.ref (ad 65), .int a0] : List Value).toArray meth c A G K prog_4_method_9_code none 6 "LassoFinder$LassoSearch") (K128 : Int32 → Int32 → (Nat → Int32) → (Nat → Int64) → (Nat → Nat → Int32) → (Nat → Nat → Int64) → Prop) (kh128 : ∀ (x2 : Int32) (x5 : Int32) (I : Nat → Int32) (J : Nat → Int64) (B : Nat → Nat → Int32) (D : Nat → Nat → Int64) (ls : Array Slot) (H : Heap) (locs : List Loc), K128 x2 x5 I J B D → lv_has ls 6 [(0, .ref (ad 65)), (2, .int x2), (5, .int x5)] → zW G A s.heap (wS ad K I J B D) H locs → W p l e { frames := 2, cells := 0, slots := 0, locals := 45 } s m ([.ref (ad 65), .int a0] : List Value).toArray below meth c H locs 0 0 (MQ below (va_Qv (fun u : zS => Post u.1 u.2.1 u.2.2.1 u.2.2.2) (fun u t => zPost G K A (wS ad K u.1 u.2.1 u.2.2.1 u.2.2.2) t) A) ([.ref (ad 65), .int a0] : List Value).toArray s 0 0 A) (F0 m 128 ls [])) : ∀ (x2 : Int32) (x5 : Int32) (I : Nat → Int32) (J : Nat → Int64) (B : Nat → Nat → Int32) (D : Nat → Nat → Int64) (ls : Array Slot) (H : Heap) (locs : List Loc), wb_LassoSearch_closePart_128 a0 K128 Post x2 x5 I J B D → lv_has ls 6 [(0, .ref (ad 65)), (2, .int x2), (5, .int x5)] → zW G A s.heap (wS ad K I J B D) H locs → W p l e { frames := 2, cells := 0, slots := 0, locals := 45 } s m ([.ref (ad 65), .int a0] : List Value).toArray below meth c H locs 0 0 (MQ below (va_Qv (fun u : zS => Post u.1 u.2.1 u.2.2.1 u.2.2.2) (fun u t => zPost G K A (wS ad K u.1 u.2.1 u.2.2.1 u.2.2.2) t) A) ([.ref (ad 65), .int a0] : List Value).toArray s 0 0 A) (F0 m 128 ls []) := by
  obtain ⟨hx, hb, hr, hml, hts, hown, hlocks, hA, hK⟩ := id C
  intro x2 x5 I J B D ls H locs hok hl hw
  unfold wb_LassoSearch_closePart_128 at hok
  refine lv_iload hx hb zd_LassoSearch_closePart_128 (lv_at hl 2 rfl) ?_
  refine lv_aload_n hx hb zd_LassoSearch_closePart_130 rfl (lv_at hl 0 rfl) ?_
  refine z_get (v := .int (I 33)) hx hb hts hown hK hw zZ3 0 wS_g0 9 (by decide) zn_838 rfl zd_LassoSearch_closePart_131 ?_
  refine lv_iload_n hx hb zd_LassoSearch_closePart_134 rfl (lv_at hl 1 rfl) ?_
  refine lv_iadd hx hb zd_LassoSearch_closePart_135 ?_
  refine lv_topi (fun z1 ez1 => ?_)
  have hok := hok z1 ez1
  refine lv_icmp_ge (tgt := 157) hx hb zd_LassoSearch_closePart_136 (by decide) (fun hc2 => ?_) (fun hc2 => ?_)
  · have hok := hok.1 hc2
    exact wJ_LassoSearch_closePart_157 G K ad a0 Post C I J B D ls H locs hok (lv_sub hl [] rfl) hw
  · have hok := hok.2 hc2
    refine lv_aload_n hx hb zd_LassoSearch_closePart_139 rfl (lv_at hl 0 rfl) ?_
    refine lv_aload_n hx hb zd_LassoSearch_closePart_140 rfl (lv_at hl 0 rfl) ?_
    refine z_get (v := .ref (ad 71)) hx hb hts hown hK hw zZ3 0 wS_g0 7 (by decide) zn_808 rfl zd_LassoSearch_closePart_141 ?_
    refine lv_iload hx hb zd_LassoSearch_closePart_144 (lv_at hl 2 rfl) ?_
    refine va_iald (f := (B 55)) hx hb hK hw.1 6 0 wS_a6 rfl hok.1 zd_LassoSearch_closePart_146 ?_
    have hok := hok.2
    refine lv_topi (fun z3 ez3 => ?_)
    have hok := hok z3 ez3
    refine lv_iconst (v := 0) hx hb zd_LassoSearch_closePart_147 (by decide) ?_
    refine z_callv (w1 := fun (u : zS) => wS ad K u.1 u.2.1 u.2.2.1 u.2.2.2) (wr := []) (z_runV (q0 := 0) (wc := (wS ad K I J B D)) (As := [.int z3, .int 0]) (rest := []) ⟨hx, hb, hml, hown, hts⟩ (w_LassoSearch_reach l G K ad I J B D z3 0 _ H.size hok) zf_LassoSearch_reach zn_554 ⟨Nat.le_of_ble_eq_true rfl, Nat.le_of_ble_eq_true rfl⟩ hK hw (List.range 77) wS_all wS_nd wS_g0 rfl rfl hl.1 rfl (Nat.le_of_ble_eq_true rfl) zd_LassoSearch_closePart_148 ⟨Nat.le_of_ble_eq_true rfl, Nat.le_of_ble_eq_true rfl⟩) hw hA (List.range 77) [] wS_all rfl (by decide) (fun i hi => by cases hi) (fun u H locs hok hw => ?_)
    obtain ⟨I4, J4, B4, D4⟩ := u
    dsimp only at hok
    have hw : zW G A s.heap (wS ad K I4 J4 B4 D4) H locs := hw
    obtain ⟨z5, ez5⟩ : ∃ z : Int32, z = (x5 + 1) := ⟨_, rfl⟩
    have hok := hok z5 ez5
    refine lv_iinc (v := z5) hx hb zd_LassoSearch_closePart_151 hl (k := 2) rfl ez5.symm (by decide) rfl (fun ls hl => ?_)
    have hl : lv_has ls 6 [(5, .int z5), (0, .ref (ad 65)), (2, .int x2)] := hl
    refine lv_goto (tgt := 128) hx hb zd_LassoSearch_closePart_154 (by decide) ?_
    exact kh128 x2 z5 I4 J4 B4 D4 ls H locs hok (lv_sub hl [1, 2, 0] rfl) hw
theorem wL_LassoSearch_closePart_128 {p : Program} {l : Launch} {e : Env} {s : State} {m : MethodId} {below : List Frame} {meth : Method} {c : Code} {A : Nat → Prop} (G : va_G) (K : Nat → ClassId) (ad : Nat → Nat) (a0 : Int32) (Post : (Nat → Int32) → (Nat → Int64) → (Nat → Nat → Int32) → (Nat → Nat → Int64) → Prop) (C : zCx p s m ([.ref (ad 65), .int a0] : List Value).toArray meth c A G K prog_4_method_9_code none 6 "LassoFinder$LassoSearch") : ∀ (n : Nat) (x2 : Int32) (x5 : Int32) (I : Nat → Int32) (J : Nat → Int64) (B : Nat → Nat → Int32) (D : Nat → Nat → Int64) (ls : Array Slot) (H : Heap) (locs : List Loc), wl_LassoSearch_closePart_128 a0 Post n x2 x5 I J B D → lv_has ls 6 [(0, .ref (ad 65)), (2, .int x2), (5, .int x5)] → zW G A s.heap (wS ad K I J B D) H locs → W p l e { frames := 2, cells := 0, slots := 0, locals := 45 } s m ([.ref (ad 65), .int a0] : List Value).toArray below meth c H locs 0 0 (MQ below (va_Qv (fun u : zS => Post u.1 u.2.1 u.2.2.1 u.2.2.2) (fun u t => zPost G K A (wS ad K u.1 u.2.1 u.2.2.1 u.2.2.2) t) A) ([.ref (ad 65), .int a0] : List Value).toArray s 0 0 A) (F0 m 128 ls []) := by
  intro n
  induction n with
  | zero => intro x2 x5 I J B D ls H locs hok; exact hok.elim
  | succ n ih => exact wB_LassoSearch_closePart_128 G K ad a0 Post C (wl_LassoSearch_closePart_128 a0 Post n) ih
set_option maxHeartbeats 8000000 in
set_option maxRecDepth 100000 in
theorem wJ_LassoSearch_closePart_102 {p : Program} {l : Launch} {e : Env} {s : State} {m : MethodId} {below : List Frame} {meth : Method} {c : Code} {A : Nat → Prop} (G : va_G) (K : Nat → ClassId) (ad : Nat → Nat) (a0 : Int32) (Post : (Nat → Int32) → (Nat → Int64) → (Nat → Nat → Int32) → (Nat → Nat → Int64) → Prop) (C : zCx p s m ([.ref (ad 65), .int a0] : List Value).toArray meth c A G K prog_4_method_9_code none 6 "LassoFinder$LassoSearch") : ∀ (x2 : Int32) (x3 : Int32) (y0 : Int32) (I : Nat → Int32) (J : Nat → Int64) (B : Nat → Nat → Int32) (D : Nat → Nat → Int64) (ls : Array Slot) (H : Heap) (locs : List Loc), wc_LassoSearch_closePart_102 a0 Post x2 x3 y0 I J B D → lv_has ls 6 [(0, .ref (ad 65)), (2, .int x2), (3, .int x3)] → zW G A s.heap (wS ad K I J B D) H locs → W p l e { frames := 2, cells := 0, slots := 0, locals := 45 } s m ([.ref (ad 65), .int a0] : List Value).toArray below meth c H locs 0 0 (MQ below (va_Qv (fun u : zS => Post u.1 u.2.1 u.2.2.1 u.2.2.2) (fun u t => zPost G K A (wS ad K u.1 u.2.1 u.2.2.1 u.2.2.2) t) A) ([.ref (ad 65), .int a0] : List Value).toArray s 0 0 A) (F0 m 102 ls [.int y0]) := by
  obtain ⟨hx, hb, hr, hml, hts, hown, hlocks, hA, hK⟩ := id C
  intro x2 x3 y0 I J B D ls H locs hok hl hw
  unfold wc_LassoSearch_closePart_102 at hok
  refine lv_istore hx hb zd_LassoSearch_closePart_102 hl (by decide) rfl (fun ls hl => ?_)
  have hl : lv_has ls 6 [(4, .int y0), (0, .ref (ad 65)), (2, .int x2), (3, .int x3)] := hl
  refine lv_iload hx hb zd_LassoSearch_closePart_104 (lv_at hl 0 rfl) ?_
  refine lv_if_eq (tgt := 157) hx hb zd_LassoSearch_closePart_106 (by decide) (fun hc6 => ?_) (fun hc6 => ?_)
  · have hok := hok.1 hc6
    exact wJ_LassoSearch_closePart_157 G K ad a0 Post C I J B D ls H locs hok (lv_sub hl [] rfl) hw
  · have hok := hok.2 hc6
    refine lv_iload_n hx hb zd_LassoSearch_closePart_109 rfl (lv_at hl 3 rfl) ?_
    refine lv_aload_n hx hb zd_LassoSearch_closePart_110 rfl (lv_at hl 1 rfl) ?_
    refine z_get (v := .ref (ad 11)) hx hb hts hown hK hw zZ3 0 wS_g0 1 (by decide) zn_819 rfl zd_LassoSearch_closePart_111 ?_
    refine z_get (v := .int (I 30)) hx hb hts hown hK hw zZ11 23 wS_g23 7 (by decide) zn_820 rfl zd_LassoSearch_closePart_114 ?_
    refine lv_iconst (v := 1) hx hb zd_LassoSearch_closePart_117 (by decide) ?_
    refine lv_isub hx hb zd_LassoSearch_closePart_118 ?_
    refine lv_topi (fun z7 ez7 => ?_)
    have hok := hok z7 ez7
    refine lv_icmp_ne (tgt := 157) hx hb zd_LassoSearch_closePart_119 (by decide) (fun hc8 => ?_) (fun hc8 => ?_)
    · have hok := hok.1 hc8
      exact wJ_LassoSearch_closePart_157 G K ad a0 Post C I J B D ls H locs hok (lv_sub hl [] rfl) hw
    · have hok := hok.2 hc8
      refine lv_aload_n hx hb zd_LassoSearch_closePart_122 rfl (lv_at hl 1 rfl) ?_
      refine z_get (v := .int (I 33)) hx hb hts hown hK hw zZ3 0 wS_g0 9 (by decide) zn_838 rfl zd_LassoSearch_closePart_123 ?_
      refine lv_istore hx hb zd_LassoSearch_closePart_126 hl (by decide) rfl (fun ls hl => ?_)
      have hl : lv_has ls 6 [(5, .int (I 33)), (4, .int y0), (0, .ref (ad 65)), (2, .int x2), (3, .int x3)] := hl
      obtain ⟨n9, hok⟩ := hok
      exact wL_LassoSearch_closePart_128 G K ad a0 Post C n9 x2 (I 33) I J B D ls H locs hok (lv_sub hl [2, 3, 0] rfl) hw
set_option maxHeartbeats 8000000 in
set_option maxRecDepth 100000 in
theorem wJ_LassoSearch_closePart_97 {p : Program} {l : Launch} {e : Env} {s : State} {m : MethodId} {below : List Frame} {meth : Method} {c : Code} {A : Nat → Prop} (G : va_G) (K : Nat → ClassId) (ad : Nat → Nat) (a0 : Int32) (Post : (Nat → Int32) → (Nat → Int64) → (Nat → Nat → Int32) → (Nat → Nat → Int64) → Prop) (C : zCx p s m ([.ref (ad 65), .int a0] : List Value).toArray meth c A G K prog_4_method_9_code none 6 "LassoFinder$LassoSearch") : ∀ (x2 : Int32) (x3 : Int32) (I : Nat → Int32) (J : Nat → Int64) (B : Nat → Nat → Int32) (D : Nat → Nat → Int64) (ls : Array Slot) (H : Heap) (locs : List Loc), wc_LassoSearch_closePart_97 a0 Post x2 x3 I J B D → lv_has ls 6 [(0, .ref (ad 65)), (2, .int x2), (3, .int x3)] → zW G A s.heap (wS ad K I J B D) H locs → W p l e { frames := 2, cells := 0, slots := 0, locals := 45 } s m ([.ref (ad 65), .int a0] : List Value).toArray below meth c H locs 0 0 (MQ below (va_Qv (fun u : zS => Post u.1 u.2.1 u.2.2.1 u.2.2.2) (fun u t => zPost G K A (wS ad K u.1 u.2.1 u.2.2.1 u.2.2.2) t) A) ([.ref (ad 65), .int a0] : List Value).toArray s 0 0 A) (F0 m 97 ls []) := by
  obtain ⟨hx, hb, hr, hml, hts, hown, hlocks, hA, hK⟩ := id C
  intro x2 x3 I J B D ls H locs hok hl hw
  unfold wc_LassoSearch_closePart_97 at hok
  refine lv_iconst (v := 1) hx hb zd_LassoSearch_closePart_97 (by decide) ?_
  refine lv_goto (tgt := 102) hx hb zd_LassoSearch_closePart_98 (by decide) ?_
  exact wJ_LassoSearch_closePart_102 G K ad a0 Post C x2 x3 1 I J B D ls H locs hok (lv_sub hl [0, 1, 2] rfl) hw
set_option maxHeartbeats 8000000 in
set_option maxRecDepth 100000 in
theorem wJ_LassoSearch_closePart_74 {p : Program} {l : Launch} {e : Env} {s : State} {m : MethodId} {below : List Frame} {meth : Method} {c : Code} {A : Nat → Prop} (G : va_G) (K : Nat → ClassId) (ad : Nat → Nat) (a0 : Int32) (Post : (Nat → Int32) → (Nat → Int64) → (Nat → Nat → Int32) → (Nat → Nat → Int64) → Prop) (C : zCx p s m ([.ref (ad 65), .int a0] : List Value).toArray meth c A G K prog_4_method_9_code none 6 "LassoFinder$LassoSearch") : ∀ (x1 : Int32) (x2 : Int32) (x3 : Int32) (I : Nat → Int32) (J : Nat → Int64) (B : Nat → Nat → Int32) (D : Nat → Nat → Int64) (ls : Array Slot) (H : Heap) (locs : List Loc), wc_LassoSearch_closePart_74 a0 Post x1 x2 x3 I J B D → lv_has ls 6 [(0, .ref (ad 65)), (1, .int x1), (2, .int x2), (3, .int x3)] → zW G A s.heap (wS ad K I J B D) H locs → W p l e { frames := 2, cells := 0, slots := 0, locals := 45 } s m ([.ref (ad 65), .int a0] : List Value).toArray below meth c H locs 0 0 (MQ below (va_Qv (fun u : zS => Post u.1 u.2.1 u.2.2.1 u.2.2.2) (fun u t => zPost G K A (wS ad K u.1 u.2.1 u.2.2.1 u.2.2.2) t) A) ([.ref (ad 65), .int a0] : List Value).toArray s 0 0 A) (F0 m 74 ls []) := by
  obtain ⟨hx, hb, hr, hml, hts, hown, hlocks, hA, hK⟩ := id C
  intro x1 x2 x3 I J B D ls H locs hok hl hw
  unfold wc_LassoSearch_closePart_74 at hok
  refine lv_aload_n hx hb zd_LassoSearch_closePart_74 rfl (lv_at hl 0 rfl) ?_
  refine lv_dup hx hb zd_LassoSearch_closePart_75 rfl ?_
  refine z_get (v := .int (I 33)) hx hb hts hown hK hw zZ3 0 wS_g0 9 (by decide) zn_838 rfl zd_LassoSearch_closePart_76 ?_
  refine lv_iload_n hx hb zd_LassoSearch_closePart_79 rfl (lv_at hl 2 rfl) ?_
  refine lv_isub hx hb zd_LassoSearch_closePart_80 ?_
  refine lv_topi (fun z9 ez9 => ?_)
  have hok := hok z9 ez9
  refine z_put (v := .int z9) hx hb hts hown hK hw zZ3 0 wS_g0 9 (by decide) zn_838 rfl rfl rfl (Nat.le_of_ble_eq_true rfl) zd_LassoSearch_closePart_81 (fun H locs hw => ?_)
  have hw := wS_sI33 hw
  refine lv_iload_n hx hb zd_LassoSearch_closePart_84 rfl (lv_at hl 2 rfl) ?_
  refine lv_iconst (v := 1) hx hb zd_LassoSearch_closePart_85 (by decide) ?_
  refine lv_icmp_gt (tgt := 97) hx hb zd_LassoSearch_closePart_86 (by decide) (fun hc10 => ?_) (fun hc10 => ?_)
  · have hok := hok.1 hc10
    exact wJ_LassoSearch_closePart_97 G K ad a0 Post C x2 x3 (upd I 33 z9) J B D ls H locs hok (lv_sub hl [0, 2, 3] rfl) hw
  · have hok := hok.2 hc10
    refine lv_aload_n hx hb zd_LassoSearch_closePart_89 rfl (lv_at hl 0 rfl) ?_
    refine lv_iload_n hx hb zd_LassoSearch_closePart_90 rfl (lv_at hl 1 rfl) ?_
    refine z_calli (w1 := fun (u : zS) => wS ad K u.1 u.2.1 u.2.2.1 u.2.2.2) (wr := []) (z_runV (q0 := 0) (wc := (wS ad K (upd I 33 z9) J B D)) (As := [.int x1]) (rest := []) ⟨hx, hb, hml, hown, hts⟩ (w_LassoSearch_leadsToItself l G K ad (upd I 33 z9) J B D x1 _ H.size hok) zf_LassoSearch_leadsToItself zn_552 ⟨Nat.le_of_ble_eq_true rfl, Nat.le_of_ble_eq_true rfl⟩ hK hw (List.range 77) wS_all wS_nd wS_g0 rfl rfl hl.1 rfl (Nat.le_of_ble_eq_true rfl) zd_LassoSearch_closePart_91 ⟨Nat.le_of_ble_eq_true rfl, Nat.le_of_ble_eq_true rfl⟩) hw hA (List.range 77) [] wS_all rfl (by decide) (fun i hi => by cases hi) (fun r11 u H locs hok hw => ?_)
    obtain ⟨I11, J11, B11, D11⟩ := u
    dsimp only at hok
    have hw : zW G A s.heap (wS ad K I11 J11 B11 D11) H locs := hw
    refine lv_if_eq (tgt := 101) hx hb zd_LassoSearch_closePart_94 (by decide) (fun hc12 => ?_) (fun hc12 => ?_)
    · have hok := hok.1 hc12
      refine lv_iconst (v := 0) hx hb zd_LassoSearch_closePart_101 (by decide) ?_
      exact wJ_LassoSearch_closePart_102 G K ad a0 Post C x2 x3 0 I11 J11 B11 D11 ls H locs hok (lv_sub hl [0, 2, 3] rfl) hw
    · have hok := hok.2 hc12
      exact wJ_LassoSearch_closePart_97 G K ad a0 Post C x2 x3 I11 J11 B11 D11 ls H locs hok (lv_sub hl [0, 2, 3] rfl) hw
set_option maxHeartbeats 8000000 in
set_option maxRecDepth 100000 in
theorem wJ_LassoSearch_closePart_34 {p : Program} {l : Launch} {e : Env} {s : State} {m : MethodId} {below : List Frame} {meth : Method} {c : Code} {A : Nat → Prop} (G : va_G) (K : Nat → ClassId) (ad : Nat → Nat) (a0 : Int32) (Post : (Nat → Int32) → (Nat → Int64) → (Nat → Nat → Int32) → (Nat → Nat → Int64) → Prop) (C : zCx p s m ([.ref (ad 65), .int a0] : List Value).toArray meth c A G K prog_4_method_9_code none 6 "LassoFinder$LassoSearch") (K12 : Int32 → Int32 → Int32 → Int32 → (Nat → Int32) → (Nat → Int64) → (Nat → Nat → Int32) → (Nat → Nat → Int64) → Prop) (kh12 : ∀ (x1 : Int32) (x2 : Int32) (x3 : Int32) (x4 : Int32) (I : Nat → Int32) (J : Nat → Int64) (B : Nat → Nat → Int32) (D : Nat → Nat → Int64) (ls : Array Slot) (H : Heap) (locs : List Loc), K12 x1 x2 x3 x4 I J B D → lv_has ls 6 [(0, .ref (ad 65)), (1, .int x1), (2, .int x2), (3, .int x3), (4, .int x4)] → zW G A s.heap (wS ad K I J B D) H locs → W p l e { frames := 2, cells := 0, slots := 0, locals := 45 } s m ([.ref (ad 65), .int a0] : List Value).toArray below meth c H locs 0 0 (MQ below (va_Qv (fun u : zS => Post u.1 u.2.1 u.2.2.1 u.2.2.2) (fun u t => zPost G K A (wS ad K u.1 u.2.1 u.2.2.1 u.2.2.2) t) A) ([.ref (ad 65), .int a0] : List Value).toArray s 0 0 A) (F0 m 12 ls [])) : ∀ (x1 : Int32) (x2 : Int32) (x3 : Int32) (x4 : Int32) (I : Nat → Int32) (J : Nat → Int64) (B : Nat → Nat → Int32) (D : Nat → Nat → Int64) (ls : Array Slot) (H : Heap) (locs : List Loc), wc_LassoSearch_closePart_34 a0 K12 Post x1 x2 x3 x4 I J B D → lv_has ls 6 [(0, .ref (ad 65)), (1, .int x1), (2, .int x2), (3, .int x3), (4, .int x4)] → zW G A s.heap (wS ad K I J B D) H locs → W p l e { frames := 2, cells := 0, slots := 0, locals := 45 } s m ([.ref (ad 65), .int a0] : List Value).toArray below meth c H locs 0 0 (MQ below (va_Qv (fun u : zS => Post u.1 u.2.1 u.2.2.1 u.2.2.2) (fun u t => zPost G K A (wS ad K u.1 u.2.1 u.2.2.1 u.2.2.2) t) A) ([.ref (ad 65), .int a0] : List Value).toArray s 0 0 A) (F0 m 34 ls []) := by
  obtain ⟨hx, hb, hr, hml, hts, hown, hlocks, hA, hK⟩ := id C
  intro x1 x2 x3 x4 I J B D ls H locs hok hl hw
  unfold wc_LassoSearch_closePart_34 at hok
  refine lv_iload_n hx hb zd_LassoSearch_closePart_34 rfl (lv_at hl 3 rfl) ?_
  refine lv_aload_n hx hb zd_LassoSearch_closePart_35 rfl (lv_at hl 0 rfl) ?_
  refine z_get (v := .ref (ad 11)) hx hb hts hown hK hw zZ3 0 wS_g0 1 (by decide) zn_819 rfl zd_LassoSearch_closePart_36 ?_
  refine z_get (v := .ref (ad 63)) hx hb hts hown hK hw zZ11 23 wS_g23 5 (by decide) zn_828 rfl zd_LassoSearch_closePart_39 ?_
  refine lv_aload_n hx hb zd_LassoSearch_closePart_42 rfl (lv_at hl 0 rfl) ?_
  refine z_get (v := .ref (ad 71)) hx hb hts hown hK hw zZ3 0 wS_g0 7 (by decide) zn_808 rfl zd_LassoSearch_closePart_43 ?_
  refine lv_iload hx hb zd_LassoSearch_closePart_46 (lv_at hl 4 rfl) ?_
  refine va_iald (f := (B 55)) hx hb hK hw.1 6 0 wS_a6 rfl hok.1 zd_LassoSearch_closePart_48 ?_
  have hok := hok.2
  refine lv_topi (fun z13 ez13 => ?_)
  have hok := hok z13 ez13
  refine va_iald (f := (B 48)) hx hb hK hw.1 75 0 wS_a75 rfl hok.1 zd_LassoSearch_closePart_49 ?_
  have hok := hok.2
  refine lv_topi (fun z14 ez14 => ?_)
  have hok := hok z14 ez14
  refine lv_ior hx hb zd_LassoSearch_closePart_50 ?_
  refine lv_topi (fun z15 ez15 => ?_)
  have hok := hok z15 ez15
  refine lv_istore_n hx hb zd_LassoSearch_closePart_51 rfl hl (by decide) rfl (fun ls hl => ?_)
  have hl : lv_has ls 6 [(3, .int z15), (0, .ref (ad 65)), (1, .int x1), (2, .int x2), (4, .int x4)] := hl
  refine lv_aload_n hx hb zd_LassoSearch_closePart_52 rfl (lv_at hl 1 rfl) ?_
  refine z_get (v := .ref (ad 69)) hx hb hts hown hK hw zZ3 0 wS_g0 5 (by decide) zn_806 rfl zd_LassoSearch_closePart_53 ?_
  refine lv_aload_n hx hb zd_LassoSearch_closePart_56 rfl (lv_at hl 1 rfl) ?_
  refine z_get (v := .ref (ad 71)) hx hb hts hown hK hw zZ3 0 wS_g0 7 (by decide) zn_808 rfl zd_LassoSearch_closePart_57 ?_
  refine lv_iload hx hb zd_LassoSearch_closePart_60 (lv_at hl 4 rfl) ?_
  refine va_iald (f := (B 55)) hx hb hK hw.1 6 0 wS_a6 rfl hok.1 zd_LassoSearch_closePart_62 ?_
  have hok := hok.2
  refine lv_topi (fun z16 ez16 => ?_)
  have hok := hok z16 ez16
  refine lv_iconst (v := 0) hx hb zd_LassoSearch_closePart_63 (by decide) ?_
  refine va_zast (f := (B 53)) hx hb hK hw.1 hw.2.1 hw.2.2 4 2 wS_a4 rfl hok.1 zd_LassoSearch_closePart_64 (fun H locs w91 w92 w93 => ?_)
  have hok := hok.2
  have hw := wS_t4 ⟨w91, w92, w93⟩
  obtain ⟨z17, ez17⟩ : ∃ z : Int32, z = (x2 + 1) := ⟨_, rfl⟩
  have hok := hok z17 ez17
  refine lv_iinc (v := z17) hx hb zd_LassoSearch_closePart_65 hl (k := 3) rfl ez17.symm (by decide) rfl (fun ls hl => ?_)
  have hl : lv_has ls 6 [(2, .int z17), (3, .int z15), (0, .ref (ad 65)), (1, .int x1), (4, .int x4)] := hl
  obtain ⟨z18, ez18⟩ : ∃ z : Int32, z = (x4 + (-1)) := ⟨_, rfl⟩
  have hok := hok z18 ez18
  refine lv_iinc (v := z18) hx hb zd_LassoSearch_closePart_68 hl (k := 4) rfl ez18.symm (by decide) rfl (fun ls hl => ?_)
  have hl : lv_has ls 6 [(4, .int z18), (2, .int z17), (3, .int z15), (0, .ref (ad 65)), (1, .int x1)] := hl
  refine lv_goto (tgt := 12) hx hb zd_LassoSearch_closePart_71 (by decide) ?_
  exact kh12 x1 z17 z15 z18 I J (va_up B 53 (upd (B 53) z16.toNatClampNeg (vp_nar .boolean 0))) D ls H locs hok (lv_sub hl [3, 4, 1, 2, 0] rfl) hw
set_option maxHeartbeats 8000000 in
set_option maxRecDepth 100000 in
theorem wB_LassoSearch_closePart_12 {p : Program} {l : Launch} {e : Env} {s : State} {m : MethodId} {below : List Frame} {meth : Method} {c : Code} {A : Nat → Prop} (G : va_G) (K : Nat → ClassId) (ad : Nat → Nat) (a0 : Int32) (Post : (Nat → Int32) → (Nat → Int64) → (Nat → Nat → Int32) → (Nat → Nat → Int64) → Prop) (C : zCx p s m ([.ref (ad 65), .int a0] : List Value).toArray meth c A G K prog_4_method_9_code none 6 "LassoFinder$LassoSearch") (K12 : Int32 → Int32 → Int32 → Int32 → (Nat → Int32) → (Nat → Int64) → (Nat → Nat → Int32) → (Nat → Nat → Int64) → Prop) (kh12 : ∀ (x1 : Int32) (x2 : Int32) (x3 : Int32) (x4 : Int32) (I : Nat → Int32) (J : Nat → Int64) (B : Nat → Nat → Int32) (D : Nat → Nat → Int64) (ls : Array Slot) (H : Heap) (locs : List Loc), K12 x1 x2 x3 x4 I J B D → lv_has ls 6 [(0, .ref (ad 65)), (1, .int x1), (2, .int x2), (3, .int x3), (4, .int x4)] → zW G A s.heap (wS ad K I J B D) H locs → W p l e { frames := 2, cells := 0, slots := 0, locals := 45 } s m ([.ref (ad 65), .int a0] : List Value).toArray below meth c H locs 0 0 (MQ below (va_Qv (fun u : zS => Post u.1 u.2.1 u.2.2.1 u.2.2.2) (fun u t => zPost G K A (wS ad K u.1 u.2.1 u.2.2.1 u.2.2.2) t) A) ([.ref (ad 65), .int a0] : List Value).toArray s 0 0 A) (F0 m 12 ls [])) : ∀ (x1 : Int32) (x2 : Int32) (x3 : Int32) (x4 : Int32) (I : Nat → Int32) (J : Nat → Int64) (B : Nat → Nat → Int32) (D : Nat → Nat → Int64) (ls : Array Slot) (H : Heap) (locs : List Loc), wb_LassoSearch_closePart_12 a0 K12 Post x1 x2 x3 x4 I J B D → lv_has ls 6 [(0, .ref (ad 65)), (1, .int x1), (2, .int x2), (3, .int x3), (4, .int x4)] → zW G A s.heap (wS ad K I J B D) H locs → W p l e { frames := 2, cells := 0, slots := 0, locals := 45 } s m ([.ref (ad 65), .int a0] : List Value).toArray below meth c H locs 0 0 (MQ below (va_Qv (fun u : zS => Post u.1 u.2.1 u.2.2.1 u.2.2.2) (fun u t => zPost G K A (wS ad K u.1 u.2.1 u.2.2.1 u.2.2.2) t) A) ([.ref (ad 65), .int a0] : List Value).toArray s 0 0 A) (F0 m 12 ls []) := by
  obtain ⟨hx, hb, hr, hml, hts, hown, hlocks, hA, hK⟩ := id C
  intro x1 x2 x3 x4 I J B D ls H locs hok hl hw
  unfold wb_LassoSearch_closePart_12 at hok
  refine lv_iload hx hb zd_LassoSearch_closePart_12 (lv_at hl 4 rfl) ?_
  refine lv_if_lt (tgt := 74) hx hb zd_LassoSearch_closePart_14 (by decide) (fun hc19 => ?_) (fun hc19 => ?_)
  · have hok := hok.1 hc19
    exact wJ_LassoSearch_closePart_74 G K ad a0 Post C x1 x2 x3 I J B D ls H locs hok (lv_sub hl [0, 1, 2, 3] rfl) hw
  · have hok := hok.2 hc19
    refine lv_iload_n hx hb zd_LassoSearch_closePart_17 rfl (lv_at hl 2 rfl) ?_
    refine lv_if_eq (tgt := 34) hx hb zd_LassoSearch_closePart_18 (by decide) (fun hc20 => ?_) (fun hc20 => ?_)
    · have hok := hok.1 hc20
      exact wJ_LassoSearch_closePart_34 G K ad a0 Post C K12 kh12 x1 x2 x3 x4 I J B D ls H locs hok (lv_sub hl [0, 1, 2, 3, 4] rfl) hw
    · have hok := hok.2 hc20
      refine lv_aload_n hx hb zd_LassoSearch_closePart_21 rfl (lv_at hl 0 rfl) ?_
      refine z_get (v := .ref (ad 71)) hx hb hts hown hK hw zZ3 0 wS_g0 7 (by decide) zn_808 rfl zd_LassoSearch_closePart_22 ?_
      refine lv_iload hx hb zd_LassoSearch_closePart_25 (lv_at hl 4 rfl) ?_
      refine lv_iconst (v := 1) hx hb zd_LassoSearch_closePart_27 (by decide) ?_
      refine lv_iadd hx hb zd_LassoSearch_closePart_28 ?_
      refine lv_topi (fun z21 ez21 => ?_)
      have hok := hok z21 ez21
      refine va_iald (f := (B 55)) hx hb hK hw.1 6 0 wS_a6 rfl hok.1 zd_LassoSearch_closePart_29 ?_
      have hok := hok.2
      refine lv_topi (fun z22 ez22 => ?_)
      have hok := hok z22 ez22
      refine lv_iload_n hx hb zd_LassoSearch_closePart_30 rfl (lv_at hl 1 rfl) ?_
      refine lv_icmp_eq (tgt := 74) hx hb zd_LassoSearch_closePart_31 (by decide) (fun hc23 => ?_) (fun hc23 => ?_)
      · have hok := hok.1 hc23
        exact wJ_LassoSearch_closePart_74 G K ad a0 Post C x1 x2 x3 I J B D ls H locs hok (lv_sub hl [0, 1, 2, 3] rfl) hw
      · have hok := hok.2 hc23
        exact wJ_LassoSearch_closePart_34 G K ad a0 Post C K12 kh12 x1 x2 x3 x4 I J B D ls H locs hok (lv_sub hl [0, 1, 2, 3, 4] rfl) hw
theorem wL_LassoSearch_closePart_12 {p : Program} {l : Launch} {e : Env} {s : State} {m : MethodId} {below : List Frame} {meth : Method} {c : Code} {A : Nat → Prop} (G : va_G) (K : Nat → ClassId) (ad : Nat → Nat) (a0 : Int32) (Post : (Nat → Int32) → (Nat → Int64) → (Nat → Nat → Int32) → (Nat → Nat → Int64) → Prop) (C : zCx p s m ([.ref (ad 65), .int a0] : List Value).toArray meth c A G K prog_4_method_9_code none 6 "LassoFinder$LassoSearch") : ∀ (n : Nat) (x1 : Int32) (x2 : Int32) (x3 : Int32) (x4 : Int32) (I : Nat → Int32) (J : Nat → Int64) (B : Nat → Nat → Int32) (D : Nat → Nat → Int64) (ls : Array Slot) (H : Heap) (locs : List Loc), wl_LassoSearch_closePart_12 a0 Post n x1 x2 x3 x4 I J B D → lv_has ls 6 [(0, .ref (ad 65)), (1, .int x1), (2, .int x2), (3, .int x3), (4, .int x4)] → zW G A s.heap (wS ad K I J B D) H locs → W p l e { frames := 2, cells := 0, slots := 0, locals := 45 } s m ([.ref (ad 65), .int a0] : List Value).toArray below meth c H locs 0 0 (MQ below (va_Qv (fun u : zS => Post u.1 u.2.1 u.2.2.1 u.2.2.2) (fun u t => zPost G K A (wS ad K u.1 u.2.1 u.2.2.1 u.2.2.2) t) A) ([.ref (ad 65), .int a0] : List Value).toArray s 0 0 A) (F0 m 12 ls []) := by
  intro n
  induction n with
  | zero => intro x1 x2 x3 x4 I J B D ls H locs hok; exact hok.elim
  | succ n ih => exact wB_LassoSearch_closePart_12 G K ad a0 Post C (wl_LassoSearch_closePart_12 a0 Post n) ih
set_option maxHeartbeats 8000000 in
set_option maxRecDepth 100000 in
theorem w_LassoSearch_closePart (l : Launch) (G : va_G) (K : Nat → ClassId) (ad : Nat → Nat) (I : Nat → Int32) (J : Nat → Int64) (B : Nat → Nat → Int32) (D : Nat → Nat → Int64) (a0 : Int32) (Post : (Nat → Int32) → (Nat → Int64) → (Nat → Nat → Int32) → (Nat → Nat → Int64) → Prop) (sz : Nat) (hok : wp_LassoSearch_closePart I J B D a0 Post) : Met l zy_LassoSearch_closePart (Cond.code zy_LassoSearch_closePart prog_4_method_9_code 6 none :: zTB) { frames := 2, cells := 0, slots := 0, locals := 45 } (va_Pc [.ref (ad 65), .int a0] (zPre G K (wS ad K I J B D) sz)) (va_Qv (fun u : zS => Post u.1 u.2.1 u.2.2.1 u.2.2.2) (fun u t => zPost G K (va_A (wS ad K I J B D) sz) (wS ad K u.1 u.2.1 u.2.2.1 u.2.2.2) t) (va_A (wS ad K I J B D) sz)) 0 0 (va_A (wS ad K I J B D) sz) := by
  refine zMet (y := zy_LassoSearch_closePart) (av := [.ref (ad 65), .int a0]) (maxL := 6) (cc := prog_4_method_9_code) (ret := none) (W0 := (wS ad K I J B D)) (sz := sz) (G := G) (K := K) (wt := zTB) (mc := 0) (ms := 0) (Qf := fun A => va_Qv (fun u : zS => Post u.1 u.2.1 u.2.2.1 u.2.2.2) (fun u t => zPost G K A (wS ad K u.1 u.2.1 u.2.2.1 u.2.2.2) t) A) (by decide) (Nat.le_of_ble_eq_true rfl) ?_
  intro p e s m below meth c ls A hx hb hr hml hts hown hlocks hin hA hK H locs hw hsz hl
  clear hsz
  have hown : s.vm.findClass "LassoFinder$LassoSearch" = some m.cls := hown
  have C : zCx p s m ([.ref (ad 65), .int a0] : List Value).toArray meth c A G K prog_4_method_9_code none 6 "LassoFinder$LassoSearch" := ⟨hx, hb, hr, hml, hts, hown, hlocks, hA, hK⟩
  have hl : lv_has ls 6 [(0, .ref (ad 65)), (1, .int a0)] := hl
  have hw : zW G A s.heap (wS ad K I J B D) H locs := hw
  unfold wp_LassoSearch_closePart at hok
  refine lv_iconst (v := 0) hx hb zd_LassoSearch_closePart_0 (by decide) ?_
  refine lv_istore_n hx hb zd_LassoSearch_closePart_1 rfl hl (by decide) rfl (fun ls hl => ?_)
  have hl : lv_has ls 6 [(2, .int 0), (0, .ref (ad 65)), (1, .int a0)] := hl
  refine lv_iconst (v := 0) hx hb zd_LassoSearch_closePart_2 (by decide) ?_
  refine lv_istore_n hx hb zd_LassoSearch_closePart_3 rfl hl (by decide) rfl (fun ls hl => ?_)
  have hl : lv_has ls 6 [(3, .int 0), (2, .int 0), (0, .ref (ad 65)), (1, .int a0)] := hl
  refine lv_aload_n hx hb zd_LassoSearch_closePart_4 rfl (lv_at hl 2 rfl) ?_
  refine z_get (v := .int (I 33)) hx hb hts hown hK hw zZ3 0 wS_g0 9 (by decide) zn_838 rfl zd_LassoSearch_closePart_5 ?_
  refine lv_iconst (v := 1) hx hb zd_LassoSearch_closePart_8 (by decide) ?_
  refine lv_isub hx hb zd_LassoSearch_closePart_9 ?_
  refine lv_topi (fun z24 ez24 => ?_)
  have hok := hok z24 ez24
  refine lv_istore hx hb zd_LassoSearch_closePart_10 hl (by decide) rfl (fun ls hl => ?_)
  have hl : lv_has ls 6 [(4, .int z24), (3, .int 0), (2, .int 0), (0, .ref (ad 65)), (1, .int a0)] := hl
  obtain ⟨n9, hok⟩ := hok
  exact wL_LassoSearch_closePart_12 G K ad a0 Post C n9 a0 0 0 z24 I J B D ls H locs hok (lv_sub hl [3, 4, 2, 1, 0] rfl) hw
def wc_LassoSearch_leaveSpot_70 (a0 : Int32) (Post : (Nat → Int32) → (Nat → Int64) → (Nat → Nat → Int32) → (Nat → Nat → Int64) → Prop)  (I : Nat → Int32) (J : Nat → Int64) (B : Nat → Nat → Int32) (D : Nat → Nat → Int64) : Prop :=
  Post I J B D
def wc_LassoSearch_leaveSpot_50 (a0 : Int32) (Post : (Nat → Int32) → (Nat → Int64) → (Nat → Nat → Int32) → (Nat → Nat → Int64) → Prop) (x1 : Int32) (I : Nat → Int32) (J : Nat → Int64) (B : Nat → Nat → Int32) (D : Nat → Nat → Int64) : Prop :=
  vp_in x1 768 ∧ ∀ z1 : Int32, z1 = ((B 51) x1.toNatClampNeg) → vp_in x1 768 ∧ ∀ z2 : Int32, z2 = ((B 50) x1.toNatClampNeg) → ((¬ z1 = z2 → wc_LassoSearch_leaveSpot_70 a0 Post I J B D) ∧ (z1 = z2 → wp_LassoSearch_closePart I J B D x1 (fun I4 J4 B4 D4 => wc_LassoSearch_leaveSpot_70 a0 Post I4 J4 B4 D4)))
def wp_LassoSearch_leaveSpot (I : Nat → Int32) (J : Nat → Int64) (B : Nat → Nat → Int32) (D : Nat → Nat → Int64) (a0 : Int32) (Post : (Nat → Int32) → (Nat → Int64) → (Nat → Nat → Int32) → (Nat → Nat → Int64) → Prop) : Prop :=
  ∀ z5 : Int32, z5 = ((I 32) - 1) → ((z5 ≤ 0 → wc_LassoSearch_leaveSpot_50 a0 Post a0 (upd I 32 z5) J B D) ∧ (¬ z5 ≤ 0 → ∀ z7 : Int32, z7 = (z5 - 1) → vp_in z7 768 ∧ ∀ z8 : Int32, z8 = ((B 54) z7.toNatClampNeg) → vp_in z8 768 ∧ ∀ z9 : Int32, z9 = ((B 51) z8.toNatClampNeg) → vp_in a0 768 ∧ ∀ z10 : Int32, z10 = ((B 51) a0.toNatClampNeg) → ∀ z11 : Int32, z11 = (if z10 < z9 then z10 else z9) → vp_in z8 768 ∧ wc_LassoSearch_leaveSpot_50 a0 Post a0 (upd I 32 z5) J (va_up B 51 (upd (B 51) z8.toNatClampNeg z11)) D))
set_option maxHeartbeats 8000000 in
set_option maxRecDepth 100000 in
theorem wJ_LassoSearch_leaveSpot_70 {p : Program} {l : Launch} {e : Env} {s : State} {m : MethodId} {below : List Frame} {meth : Method} {c : Code} {A : Nat → Prop} (G : va_G) (K : Nat → ClassId) (ad : Nat → Nat) (a0 : Int32) (Post : (Nat → Int32) → (Nat → Int64) → (Nat → Nat → Int32) → (Nat → Nat → Int64) → Prop) (C : zCx p s m ([.ref (ad 65), .int a0] : List Value).toArray meth c A G K prog_4_method_8_code none 3 "LassoFinder$LassoSearch") : ∀  (I : Nat → Int32) (J : Nat → Int64) (B : Nat → Nat → Int32) (D : Nat → Nat → Int64) (ls : Array Slot) (H : Heap) (locs : List Loc), wc_LassoSearch_leaveSpot_70 a0 Post  I J B D → lv_has ls 3 [] → zW G A s.heap (wS ad K I J B D) H locs → W p l e { frames := 3, cells := 0, slots := 0, locals := 70 } s m ([.ref (ad 65), .int a0] : List Value).toArray below meth c H locs 0 0 (MQ below (va_Qv (fun u : zS => Post u.1 u.2.1 u.2.2.1 u.2.2.2) (fun u t => zPost G K A (wS ad K u.1 u.2.1 u.2.2.1 u.2.2.2) t) A) ([.ref (ad 65), .int a0] : List Value).toArray s 0 0 A) (F0 m 70 ls []) := by
  obtain ⟨hx, hb, hr, hml, hts, hown, hlocks, hA, hK⟩ := id C
  intro  I J B D ls H locs hok hl hw
  unfold wc_LassoSearch_leaveSpot_70 at hok
  exact (z_vret (u := (I, J, B, D)) hx hb hr hlocks hw (List.range 77) wS_all wS_nd hok (Nat.le_of_ble_eq_true rfl) (Nat.le_of_ble_eq_true rfl) zd_LassoSearch_leaveSpot_70)
set_option maxHeartbeats 8000000 in
set_option maxRecDepth 100000 in
theorem wJ_LassoSearch_leaveSpot_50 {p : Program} {l : Launch} {e : Env} {s : State} {m : MethodId} {below : List Frame} {meth : Method} {c : Code} {A : Nat → Prop} (G : va_G) (K : Nat → ClassId) (ad : Nat → Nat) (a0 : Int32) (Post : (Nat → Int32) → (Nat → Int64) → (Nat → Nat → Int32) → (Nat → Nat → Int64) → Prop) (C : zCx p s m ([.ref (ad 65), .int a0] : List Value).toArray meth c A G K prog_4_method_8_code none 3 "LassoFinder$LassoSearch") : ∀ (x1 : Int32) (I : Nat → Int32) (J : Nat → Int64) (B : Nat → Nat → Int32) (D : Nat → Nat → Int64) (ls : Array Slot) (H : Heap) (locs : List Loc), wc_LassoSearch_leaveSpot_50 a0 Post x1 I J B D → lv_has ls 3 [(0, .ref (ad 65)), (1, .int x1)] → zW G A s.heap (wS ad K I J B D) H locs → W p l e { frames := 3, cells := 0, slots := 0, locals := 70 } s m ([.ref (ad 65), .int a0] : List Value).toArray below meth c H locs 0 0 (MQ below (va_Qv (fun u : zS => Post u.1 u.2.1 u.2.2.1 u.2.2.2) (fun u t => zPost G K A (wS ad K u.1 u.2.1 u.2.2.1 u.2.2.2) t) A) ([.ref (ad 65), .int a0] : List Value).toArray s 0 0 A) (F0 m 50 ls []) := by
  obtain ⟨hx, hb, hr, hml, hts, hown, hlocks, hA, hK⟩ := id C
  intro x1 I J B D ls H locs hok hl hw
  unfold wc_LassoSearch_leaveSpot_50 at hok
  refine lv_aload_n hx hb zd_LassoSearch_leaveSpot_50 rfl (lv_at hl 0 rfl) ?_
  refine z_get (v := .ref (ad 67)) hx hb hts hown hK hw zZ3 0 wS_g0 3 (by decide) zn_804 rfl zd_LassoSearch_leaveSpot_51 ?_
  refine lv_iload_n hx hb zd_LassoSearch_leaveSpot_54 rfl (lv_at hl 1 rfl) ?_
  refine va_iald (f := (B 51)) hx hb hK hw.1 2 0 wS_a2 rfl hok.1 zd_LassoSearch_leaveSpot_55 ?_
  have hok := hok.2
  refine lv_topi (fun z1 ez1 => ?_)
  have hok := hok z1 ez1
  refine lv_aload_n hx hb zd_LassoSearch_leaveSpot_56 rfl (lv_at hl 0 rfl) ?_
  refine z_get (v := .ref (ad 66)) hx hb hts hown hK hw zZ3 0 wS_g0 2 (by decide) zn_803 rfl zd_LassoSearch_leaveSpot_57 ?_
  refine lv_iload_n hx hb zd_LassoSearch_leaveSpot_60 rfl (lv_at hl 1 rfl) ?_
  refine va_iald (f := (B 50)) hx hb hK hw.1 1 0 wS_a1 rfl hok.1 zd_LassoSearch_leaveSpot_61 ?_
  have hok := hok.2
  refine lv_topi (fun z2 ez2 => ?_)
  have hok := hok z2 ez2
  refine lv_icmp_ne (tgt := 70) hx hb zd_LassoSearch_leaveSpot_62 (by decide) (fun hc3 => ?_) (fun hc3 => ?_)
  · have hok := hok.1 hc3
    exact wJ_LassoSearch_leaveSpot_70 G K ad a0 Post C I J B D ls H locs hok (lv_sub hl [] rfl) hw
  · have hok := hok.2 hc3
    refine lv_aload_n hx hb zd_LassoSearch_leaveSpot_65 rfl (lv_at hl 0 rfl) ?_
    refine lv_iload_n hx hb zd_LassoSearch_leaveSpot_66 rfl (lv_at hl 1 rfl) ?_
    refine z_callv (w1 := fun (u : zS) => wS ad K u.1 u.2.1 u.2.2.1 u.2.2.2) (wr := []) (z_runV (q0 := 0) (wc := (wS ad K I J B D)) (As := [.int x1]) (rest := []) ⟨hx, hb, hml, hown, hts⟩ (w_LassoSearch_closePart l G K ad I J B D x1 _ H.size hok) zf_LassoSearch_closePart zn_551 ⟨Nat.le_of_ble_eq_true rfl, Nat.le_of_ble_eq_true rfl⟩ hK hw (List.range 77) wS_all wS_nd wS_g0 rfl rfl hl.1 rfl (Nat.le_of_ble_eq_true rfl) zd_LassoSearch_leaveSpot_67 ⟨Nat.le_of_ble_eq_true rfl, Nat.le_of_ble_eq_true rfl⟩) hw hA (List.range 77) [] wS_all rfl (by decide) (fun i hi => by cases hi) (fun u H locs hok hw => ?_)
    obtain ⟨I4, J4, B4, D4⟩ := u
    dsimp only at hok
    have hw : zW G A s.heap (wS ad K I4 J4 B4 D4) H locs := hw
    exact wJ_LassoSearch_leaveSpot_70 G K ad a0 Post C I4 J4 B4 D4 ls H locs hok (lv_sub hl [] rfl) hw
set_option maxHeartbeats 8000000 in
set_option maxRecDepth 100000 in
theorem w_LassoSearch_leaveSpot (l : Launch) (G : va_G) (K : Nat → ClassId) (ad : Nat → Nat) (I : Nat → Int32) (J : Nat → Int64) (B : Nat → Nat → Int32) (D : Nat → Nat → Int64) (a0 : Int32) (Post : (Nat → Int32) → (Nat → Int64) → (Nat → Nat → Int32) → (Nat → Nat → Int64) → Prop) (sz : Nat) (hok : wp_LassoSearch_leaveSpot I J B D a0 Post) : Met l zy_LassoSearch_leaveSpot (Cond.code zy_LassoSearch_leaveSpot prog_4_method_8_code 3 none :: zTB) { frames := 3, cells := 0, slots := 0, locals := 70 } (va_Pc [.ref (ad 65), .int a0] (zPre G K (wS ad K I J B D) sz)) (va_Qv (fun u : zS => Post u.1 u.2.1 u.2.2.1 u.2.2.2) (fun u t => zPost G K (va_A (wS ad K I J B D) sz) (wS ad K u.1 u.2.1 u.2.2.1 u.2.2.2) t) (va_A (wS ad K I J B D) sz)) 0 0 (va_A (wS ad K I J B D) sz) := by
  refine zMet (y := zy_LassoSearch_leaveSpot) (av := [.ref (ad 65), .int a0]) (maxL := 3) (cc := prog_4_method_8_code) (ret := none) (W0 := (wS ad K I J B D)) (sz := sz) (G := G) (K := K) (wt := zTB) (mc := 0) (ms := 0) (Qf := fun A => va_Qv (fun u : zS => Post u.1 u.2.1 u.2.2.1 u.2.2.2) (fun u t => zPost G K A (wS ad K u.1 u.2.1 u.2.2.1 u.2.2.2) t) A) (by decide) (Nat.le_of_ble_eq_true rfl) ?_
  intro p e s m below meth c ls A hx hb hr hml hts hown hlocks hin hA hK H locs hw hsz hl
  clear hsz
  have hown : s.vm.findClass "LassoFinder$LassoSearch" = some m.cls := hown
  have C : zCx p s m ([.ref (ad 65), .int a0] : List Value).toArray meth c A G K prog_4_method_8_code none 3 "LassoFinder$LassoSearch" := ⟨hx, hb, hr, hml, hts, hown, hlocks, hA, hK⟩
  have hl : lv_has ls 3 [(0, .ref (ad 65)), (1, .int a0)] := hl
  have hw : zW G A s.heap (wS ad K I J B D) H locs := hw
  unfold wp_LassoSearch_leaveSpot at hok
  refine lv_aload_n hx hb zd_LassoSearch_leaveSpot_0 rfl (lv_at hl 0 rfl) ?_
  refine lv_dup hx hb zd_LassoSearch_leaveSpot_1 rfl ?_
  refine z_get (v := .int (I 32)) hx hb hts hown hK hw zZ3 0 wS_g0 8 (by decide) zn_833 rfl zd_LassoSearch_leaveSpot_2 ?_
  refine lv_iconst (v := 1) hx hb zd_LassoSearch_leaveSpot_5 (by decide) ?_
  refine lv_isub hx hb zd_LassoSearch_leaveSpot_6 ?_
  refine lv_topi (fun z5 ez5 => ?_)
  have hok := hok z5 ez5
  refine z_put (v := .int z5) hx hb hts hown hK hw zZ3 0 wS_g0 8 (by decide) zn_833 rfl rfl rfl (Nat.le_of_ble_eq_true rfl) zd_LassoSearch_leaveSpot_7 (fun H locs hw => ?_)
  have hw := wS_sI32 hw
  refine lv_aload_n hx hb zd_LassoSearch_leaveSpot_10 rfl (lv_at hl 0 rfl) ?_
  refine z_get (v := .int z5) hx hb hts hown hK hw zZ3 0 wS_g0 8 (by decide) zn_833 rfl zd_LassoSearch_leaveSpot_11 ?_
  refine lv_if_le (tgt := 50) hx hb zd_LassoSearch_leaveSpot_14 (by decide) (fun hc6 => ?_) (fun hc6 => ?_)
  · have hok := hok.1 hc6
    exact wJ_LassoSearch_leaveSpot_50 G K ad a0 Post C a0 (upd I 32 z5) J B D ls H locs hok (lv_sub hl [0, 1] rfl) hw
  · have hok := hok.2 hc6
    refine lv_aload_n hx hb zd_LassoSearch_leaveSpot_17 rfl (lv_at hl 0 rfl) ?_
    refine z_get (v := .ref (ad 70)) hx hb hts hown hK hw zZ3 0 wS_g0 6 (by decide) zn_807 rfl zd_LassoSearch_leaveSpot_18 ?_
    refine lv_aload_n hx hb zd_LassoSearch_leaveSpot_21 rfl (lv_at hl 0 rfl) ?_
    refine z_get (v := .int z5) hx hb hts hown hK hw zZ3 0 wS_g0 8 (by decide) zn_833 rfl zd_LassoSearch_leaveSpot_22 ?_
    refine lv_iconst (v := 1) hx hb zd_LassoSearch_leaveSpot_25 (by decide) ?_
    refine lv_isub hx hb zd_LassoSearch_leaveSpot_26 ?_
    refine lv_topi (fun z7 ez7 => ?_)
    have hok := hok z7 ez7
    refine va_iald (f := (B 54)) hx hb hK hw.1 5 0 wS_a5 rfl hok.1 zd_LassoSearch_leaveSpot_27 ?_
    have hok := hok.2
    refine lv_topi (fun z8 ez8 => ?_)
    have hok := hok z8 ez8
    refine lv_istore_n hx hb zd_LassoSearch_leaveSpot_28 rfl hl (by decide) rfl (fun ls hl => ?_)
    have hl : lv_has ls 3 [(2, .int z8), (0, .ref (ad 65)), (1, .int a0)] := hl
    refine lv_aload_n hx hb zd_LassoSearch_leaveSpot_29 rfl (lv_at hl 1 rfl) ?_
    refine z_get (v := .ref (ad 67)) hx hb hts hown hK hw zZ3 0 wS_g0 3 (by decide) zn_804 rfl zd_LassoSearch_leaveSpot_30 ?_
    refine lv_iload_n hx hb zd_LassoSearch_leaveSpot_33 rfl (lv_at hl 0 rfl) ?_
    refine lv_aload_n hx hb zd_LassoSearch_leaveSpot_34 rfl (lv_at hl 1 rfl) ?_
    refine z_get (v := .ref (ad 67)) hx hb hts hown hK hw zZ3 0 wS_g0 3 (by decide) zn_804 rfl zd_LassoSearch_leaveSpot_35 ?_
    refine lv_iload_n hx hb zd_LassoSearch_leaveSpot_38 rfl (lv_at hl 0 rfl) ?_
    refine va_iald (f := (B 51)) hx hb hK hw.1 2 0 wS_a2 rfl hok.1 zd_LassoSearch_leaveSpot_39 ?_
    have hok := hok.2
    refine lv_topi (fun z9 ez9 => ?_)
    have hok := hok z9 ez9
    refine lv_aload_n hx hb zd_LassoSearch_leaveSpot_40 rfl (lv_at hl 1 rfl) ?_
    refine z_get (v := .ref (ad 67)) hx hb hts hown hK hw zZ3 0 wS_g0 3 (by decide) zn_804 rfl zd_LassoSearch_leaveSpot_41 ?_
    refine lv_iload_n hx hb zd_LassoSearch_leaveSpot_44 rfl (lv_at hl 2 rfl) ?_
    refine va_iald (f := (B 51)) hx hb hK hw.1 2 0 wS_a2 rfl hok.1 zd_LassoSearch_leaveSpot_45 ?_
    have hok := hok.2
    refine lv_topi (fun z10 ez10 => ?_)
    have hok := hok z10 ez10
    refine va_mmin (x := z9) (y := z10) hx hb (by rw [hml]; exact hl.1.symm) hown (hts _ zn_550) (hts _ zn_834) (hts _ zn_835) (z_mminc ▸ (hts _ zn_836)) (Nat.le_of_ble_eq_true rfl) (Nat.le_of_ble_eq_true rfl) (Nat.le_of_ble_eq_true rfl) (Nat.le_of_ble_eq_true rfl) zd_LassoSearch_leaveSpot_46 ?_
    refine lv_topi (fun z11 ez11 => ?_)
    have hok := hok z11 ez11
    refine va_iast (f := (B 51)) hx hb hK hw.1 hw.2.1 hw.2.2 2 0 wS_a2 rfl hok.1 zd_LassoSearch_leaveSpot_49 (fun H locs w91 w92 w93 => ?_)
    have hok := hok.2
    have hw := wS_t2 ⟨w91, w92, w93⟩
    exact wJ_LassoSearch_leaveSpot_50 G K ad a0 Post C a0 (upd I 32 z5) J (va_up B 51 (upd (B 51) z8.toNatClampNeg z11)) D ls H locs hok (lv_sub hl [1, 2] rfl) hw
def wc_LassoSearch_searchFrom_164 (a0 : Int32) (Post : (Nat → Int32) → (Nat → Int64) → (Nat → Nat → Int32) → (Nat → Nat → Int64) → Prop)  (I : Nat → Int32) (J : Nat → Int64) (B : Nat → Nat → Int32) (D : Nat → Nat → Int64) : Prop :=
  Post I J B D
def wc_LassoSearch_searchFrom_158 (a0 : Int32) (K12 : Int32 → (Nat → Int32) → (Nat → Int64) → (Nat → Nat → Int32) → (Nat → Nat → Int64) → Prop) (Post : (Nat → Int32) → (Nat → Int64) → (Nat → Nat → Int32) → (Nat → Nat → Int64) → Prop) (x2 : Int32) (I : Nat → Int32) (J : Nat → Int64) (B : Nat → Nat → Int32) (D : Nat → Nat → Int64) : Prop :=
  ∀ z1 : Int32, z1 = (x2 + 1) → K12 z1 I J B D
def wb_LassoSearch_searchFrom_12 (a0 : Int32) (K12 : Int32 → (Nat → Int32) → (Nat → Int64) → (Nat → Nat → Int32) → (Nat → Nat → Int64) → Prop) (Post : (Nat → Int32) → (Nat → Int64) → (Nat → Nat → Int32) → (Nat → Nat → Int64) → Prop) (x2 : Int32) (I : Nat → Int32) (J : Nat → Int64) (B : Nat → Nat → Int32) (D : Nat → Nat → Int64) : Prop :=
  (((10000 : Int32) ≤ x2 → wc_LassoSearch_searchFrom_164 a0 Post I J B D) ∧ (¬ (10000 : Int32) ≤ x2 → (((I 32) ≤ 0 → wc_LassoSearch_searchFrom_164 a0 Post I J B D) ∧ (¬ (I 32) ≤ 0 → ∀ z4 : Int32, z4 = ((I 32) - 1) → vp_in z4 768 ∧ ∀ z5 : Int32, z5 = ((B 54) z4.toNatClampNeg) → ∀ z6 : Int32, z6 = (z5 / 8) → vp_in z5 768 ∧ ∀ z7 : Int32, z7 = ((B 52) z5.toNatClampNeg) → ∀ z8 : Int32, z8 = (z6 + 1) → vp_in z8 97 ∧ ∀ z9 : Int32, z9 = ((B 37) z8.toNatClampNeg) → ((¬ z7 = z9 → vp_in z5 768 ∧ ∀ z11 : Int32, z11 = ((B 52) z5.toNatClampNeg) → vp_in z11 400 ∧ ∀ z12 : Int32, z12 = ((B 38) z11.toNatClampNeg) → ∀ z13 : Int32, z13 = (z5 - z5 / 8 * 8) → wp_LassoSearch_spotBefore I J B D z12 z13 (fun r14 I14 J14 B14 D14 => vp_in z5 768 ∧ ∀ z15 : Int32, z15 = ((B14 52) z5.toNatClampNeg) → ∀ z16 : Int32, z16 = (z15 + 1) → vp_in z5 768 ∧ vp_in r14 768 ∧ ∀ z17 : Int32, z17 = ((B14 50) r14.toNatClampNeg) → ((¬ z17 = 0 → vp_in r14 768 ∧ ∀ z19 : Int32, z19 = ((B14 53) r14.toNatClampNeg) → ((z19 = 0 → wc_LassoSearch_searchFrom_158 a0 K12 Post x2 I14 J14 (va_up B14 52 (upd (B14 52) z5.toNatClampNeg z16)) D14) ∧ (¬ z19 = 0 → vp_in z5 768 ∧ ∀ z21 : Int32, z21 = ((B14 51) z5.toNatClampNeg) → vp_in r14 768 ∧ ∀ z22 : Int32, z22 = ((B14 50) r14.toNatClampNeg) → ∀ z23 : Int32, z23 = (if z22 < z21 then z22 else z21) → vp_in z5 768 ∧ wc_LassoSearch_searchFrom_158 a0 K12 Post x2 I14 J14 (va_up (va_up B14 52 (upd (B14 52) z5.toNatClampNeg z16)) 51 (upd (B14 51) z5.toNatClampNeg z23)) D14))) ∧ (z17 = 0 → wp_LassoSearch_enterSpot I14 J14 (va_up B14 52 (upd (B14 52) z5.toNatClampNeg z16)) D14 r14 (fun I24 J24 B24 D24 => wc_LassoSearch_searchFrom_158 a0 K12 Post x2 I24 J24 B24 D24))))) ∧ (z7 = z9 → wp_LassoSearch_leaveSpot I J B D z5 (fun I25 J25 B25 D25 => wc_LassoSearch_searchFrom_158 a0 K12 Post x2 I25 J25 B25 D25)))))))
def wl_LassoSearch_searchFrom_12 (a0 : Int32) (Post : (Nat → Int32) → (Nat → Int64) → (Nat → Nat → Int32) → (Nat → Nat → Int64) → Prop) (n : Nat) : Int32 → (Nat → Int32) → (Nat → Int64) → (Nat → Nat → Int32) → (Nat → Nat → Int64) → Prop := Nat.rec (fun _ _ _ _ _ => False) (fun _ r => wb_LassoSearch_searchFrom_12 a0 r Post) n
def wp_LassoSearch_searchFrom (I : Nat → Int32) (J : Nat → Int64) (B : Nat → Nat → Int32) (D : Nat → Nat → Int64) (a0 : Int32) (Post : (Nat → Int32) → (Nat → Int64) → (Nat → Nat → Int32) → (Nat → Nat → Int64) → Prop) : Prop :=
  wp_LassoSearch_enterSpot (upd I 32 0) J B D a0 (fun I26 J26 B26 D26 => ∃ n : Nat, wl_LassoSearch_searchFrom_12 a0 Post n 0 I26 J26 B26 D26)
set_option maxHeartbeats 8000000 in
set_option maxRecDepth 100000 in
theorem wJ_LassoSearch_searchFrom_164 {p : Program} {l : Launch} {e : Env} {s : State} {m : MethodId} {below : List Frame} {meth : Method} {c : Code} {A : Nat → Prop} (G : va_G) (K : Nat → ClassId) (ad : Nat → Nat) (a0 : Int32) (Post : (Nat → Int32) → (Nat → Int64) → (Nat → Nat → Int32) → (Nat → Nat → Int64) → Prop) (C : zCx p s m ([.ref (ad 65), .int a0] : List Value).toArray meth c A G K prog_4_method_6_code none 6 "LassoFinder$LassoSearch") : ∀  (I : Nat → Int32) (J : Nat → Int64) (B : Nat → Nat → Int32) (D : Nat → Nat → Int64) (ls : Array Slot) (H : Heap) (locs : List Loc), wc_LassoSearch_searchFrom_164 a0 Post  I J B D → lv_has ls 6 [] → zW G A s.heap (wS ad K I J B D) H locs → W p l e { frames := 4, cells := 0, slots := 0, locals := 92 } s m ([.ref (ad 65), .int a0] : List Value).toArray below meth c H locs 0 0 (MQ below (va_Qv (fun u : zS => Post u.1 u.2.1 u.2.2.1 u.2.2.2) (fun u t => zPost G K A (wS ad K u.1 u.2.1 u.2.2.1 u.2.2.2) t) A) ([.ref (ad 65), .int a0] : List Value).toArray s 0 0 A) (F0 m 164 ls []) := by
  obtain ⟨hx, hb, hr, hml, hts, hown, hlocks, hA, hK⟩ := id C
  intro  I J B D ls H locs hok hl hw
  unfold wc_LassoSearch_searchFrom_164 at hok
  exact (z_vret (u := (I, J, B, D)) hx hb hr hlocks hw (List.range 77) wS_all wS_nd hok (Nat.le_of_ble_eq_true rfl) (Nat.le_of_ble_eq_true rfl) zd_LassoSearch_searchFrom_164)
set_option maxHeartbeats 8000000 in
set_option maxRecDepth 100000 in
theorem wJ_LassoSearch_searchFrom_158 {p : Program} {l : Launch} {e : Env} {s : State} {m : MethodId} {below : List Frame} {meth : Method} {c : Code} {A : Nat → Prop} (G : va_G) (K : Nat → ClassId) (ad : Nat → Nat) (a0 : Int32) (Post : (Nat → Int32) → (Nat → Int64) → (Nat → Nat → Int32) → (Nat → Nat → Int64) → Prop) (C : zCx p s m ([.ref (ad 65), .int a0] : List Value).toArray meth c A G K prog_4_method_6_code none 6 "LassoFinder$LassoSearch") (K12 : Int32 → (Nat → Int32) → (Nat → Int64) → (Nat → Nat → Int32) → (Nat → Nat → Int64) → Prop) (kh12 : ∀ (x2 : Int32) (I : Nat → Int32) (J : Nat → Int64) (B : Nat → Nat → Int32) (D : Nat → Nat → Int64) (ls : Array Slot) (H : Heap) (locs : List Loc), K12 x2 I J B D → lv_has ls 6 [(0, .ref (ad 65)), (2, .int x2)] → zW G A s.heap (wS ad K I J B D) H locs → W p l e { frames := 4, cells := 0, slots := 0, locals := 92 } s m ([.ref (ad 65), .int a0] : List Value).toArray below meth c H locs 0 0 (MQ below (va_Qv (fun u : zS => Post u.1 u.2.1 u.2.2.1 u.2.2.2) (fun u t => zPost G K A (wS ad K u.1 u.2.1 u.2.2.1 u.2.2.2) t) A) ([.ref (ad 65), .int a0] : List Value).toArray s 0 0 A) (F0 m 12 ls [])) : ∀ (x2 : Int32) (I : Nat → Int32) (J : Nat → Int64) (B : Nat → Nat → Int32) (D : Nat → Nat → Int64) (ls : Array Slot) (H : Heap) (locs : List Loc), wc_LassoSearch_searchFrom_158 a0 K12 Post x2 I J B D → lv_has ls 6 [(0, .ref (ad 65)), (2, .int x2)] → zW G A s.heap (wS ad K I J B D) H locs → W p l e { frames := 4, cells := 0, slots := 0, locals := 92 } s m ([.ref (ad 65), .int a0] : List Value).toArray below meth c H locs 0 0 (MQ below (va_Qv (fun u : zS => Post u.1 u.2.1 u.2.2.1 u.2.2.2) (fun u t => zPost G K A (wS ad K u.1 u.2.1 u.2.2.1 u.2.2.2) t) A) ([.ref (ad 65), .int a0] : List Value).toArray s 0 0 A) (F0 m 158 ls []) := by
  obtain ⟨hx, hb, hr, hml, hts, hown, hlocks, hA, hK⟩ := id C
  intro x2 I J B D ls H locs hok hl hw
  unfold wc_LassoSearch_searchFrom_158 at hok
  obtain ⟨z1, ez1⟩ : ∃ z : Int32, z = (x2 + 1) := ⟨_, rfl⟩
  have hok := hok z1 ez1
  refine lv_iinc (v := z1) hx hb zd_LassoSearch_searchFrom_158 hl (k := 1) rfl ez1.symm (by decide) rfl (fun ls hl => ?_)
  have hl : lv_has ls 6 [(2, .int z1), (0, .ref (ad 65))] := hl
  refine lv_goto (tgt := 12) hx hb zd_LassoSearch_searchFrom_161 (by decide) ?_
  exact kh12 z1 I J B D ls H locs hok (lv_sub hl [1, 0] rfl) hw
set_option maxHeartbeats 8000000 in
set_option maxRecDepth 100000 in
theorem wB_LassoSearch_searchFrom_12 {p : Program} {l : Launch} {e : Env} {s : State} {m : MethodId} {below : List Frame} {meth : Method} {c : Code} {A : Nat → Prop} (G : va_G) (K : Nat → ClassId) (ad : Nat → Nat) (a0 : Int32) (Post : (Nat → Int32) → (Nat → Int64) → (Nat → Nat → Int32) → (Nat → Nat → Int64) → Prop) (C : zCx p s m ([.ref (ad 65), .int a0] : List Value).toArray meth c A G K prog_4_method_6_code none 6 "LassoFinder$LassoSearch") (K12 : Int32 → (Nat → Int32) → (Nat → Int64) → (Nat → Nat → Int32) → (Nat → Nat → Int64) → Prop) (kh12 : ∀ (x2 : Int32) (I : Nat → Int32) (J : Nat → Int64) (B : Nat → Nat → Int32) (D : Nat → Nat → Int64) (ls : Array Slot) (H : Heap) (locs : List Loc), K12 x2 I J B D → lv_has ls 6 [(0, .ref (ad 65)), (2, .int x2)] → zW G A s.heap (wS ad K I J B D) H locs → W p l e { frames := 4, cells := 0, slots := 0, locals := 92 } s m ([.ref (ad 65), .int a0] : List Value).toArray below meth c H locs 0 0 (MQ below (va_Qv (fun u : zS => Post u.1 u.2.1 u.2.2.1 u.2.2.2) (fun u t => zPost G K A (wS ad K u.1 u.2.1 u.2.2.1 u.2.2.2) t) A) ([.ref (ad 65), .int a0] : List Value).toArray s 0 0 A) (F0 m 12 ls [])) : ∀ (x2 : Int32) (I : Nat → Int32) (J : Nat → Int64) (B : Nat → Nat → Int32) (D : Nat → Nat → Int64) (ls : Array Slot) (H : Heap) (locs : List Loc), wb_LassoSearch_searchFrom_12 a0 K12 Post x2 I J B D → lv_has ls 6 [(0, .ref (ad 65)), (2, .int x2)] → zW G A s.heap (wS ad K I J B D) H locs → W p l e { frames := 4, cells := 0, slots := 0, locals := 92 } s m ([.ref (ad 65), .int a0] : List Value).toArray below meth c H locs 0 0 (MQ below (va_Qv (fun u : zS => Post u.1 u.2.1 u.2.2.1 u.2.2.2) (fun u t => zPost G K A (wS ad K u.1 u.2.1 u.2.2.1 u.2.2.2) t) A) ([.ref (ad 65), .int a0] : List Value).toArray s 0 0 A) (F0 m 12 ls []) := by
  obtain ⟨hx, hb, hr, hml, hts, hown, hlocks, hA, hK⟩ := id C
  intro x2 I J B D ls H locs hok hl hw
  unfold wb_LassoSearch_searchFrom_12 at hok
  refine lv_iload_n hx hb zd_LassoSearch_searchFrom_12 rfl (lv_at hl 1 rfl) ?_
  refine lv_sipush (v := 10000) hx hb zd_LassoSearch_searchFrom_13 (by decide) ?_
  refine lv_icmp_ge (tgt := 164) hx hb zd_LassoSearch_searchFrom_16 (by decide) (fun hc2 => ?_) (fun hc2 => ?_)
  · have hok := hok.1 hc2
    exact wJ_LassoSearch_searchFrom_164 G K ad a0 Post C I J B D ls H locs hok (lv_sub hl [] rfl) hw
  · have hok := hok.2 hc2
    refine lv_aload_n hx hb zd_LassoSearch_searchFrom_19 rfl (lv_at hl 0 rfl) ?_
    refine z_get (v := .int (I 32)) hx hb hts hown hK hw zZ3 0 wS_g0 8 (by decide) zn_833 rfl zd_LassoSearch_searchFrom_20 ?_
    refine lv_if_le (tgt := 164) hx hb zd_LassoSearch_searchFrom_23 (by decide) (fun hc3 => ?_) (fun hc3 => ?_)
    · have hok := hok.1 hc3
      exact wJ_LassoSearch_searchFrom_164 G K ad a0 Post C I J B D ls H locs hok (lv_sub hl [] rfl) hw
    · have hok := hok.2 hc3
      refine lv_aload_n hx hb zd_LassoSearch_searchFrom_26 rfl (lv_at hl 0 rfl) ?_
      refine z_get (v := .ref (ad 70)) hx hb hts hown hK hw zZ3 0 wS_g0 6 (by decide) zn_807 rfl zd_LassoSearch_searchFrom_27 ?_
      refine lv_aload_n hx hb zd_LassoSearch_searchFrom_30 rfl (lv_at hl 0 rfl) ?_
      refine z_get (v := .int (I 32)) hx hb hts hown hK hw zZ3 0 wS_g0 8 (by decide) zn_833 rfl zd_LassoSearch_searchFrom_31 ?_
      refine lv_iconst (v := 1) hx hb zd_LassoSearch_searchFrom_34 (by decide) ?_
      refine lv_isub hx hb zd_LassoSearch_searchFrom_35 ?_
      refine lv_topi (fun z4 ez4 => ?_)
      have hok := hok z4 ez4
      refine va_iald (f := (B 54)) hx hb hK hw.1 5 0 wS_a5 rfl hok.1 zd_LassoSearch_searchFrom_36 ?_
      have hok := hok.2
      refine lv_topi (fun z5 ez5 => ?_)
      have hok := hok z5 ez5
      refine lv_istore_n hx hb zd_LassoSearch_searchFrom_37 rfl hl (by decide) rfl (fun ls hl => ?_)
      have hl : lv_has ls 6 [(3, .int z5), (0, .ref (ad 65)), (2, .int x2)] := hl
      refine lv_iload_n hx hb zd_LassoSearch_searchFrom_38 rfl (lv_at hl 0 rfl) ?_
      refine lv_bipush (v := 8) hx hb zd_LassoSearch_searchFrom_39 (by decide) ?_
      refine lv_idiv hx hb zd_LassoSearch_searchFrom_41 (by decide) ?_
      refine lv_topi (fun z6 ez6 => ?_)
      have hok := hok z6 ez6
      refine lv_istore hx hb zd_LassoSearch_searchFrom_42 hl (by decide) rfl (fun ls hl => ?_)
      have hl : lv_has ls 6 [(4, .int z6), (3, .int z5), (0, .ref (ad 65)), (2, .int x2)] := hl
      refine lv_aload_n hx hb zd_LassoSearch_searchFrom_44 rfl (lv_at hl 2 rfl) ?_
      refine z_get (v := .ref (ad 68)) hx hb hts hown hK hw zZ3 0 wS_g0 4 (by decide) zn_805 rfl zd_LassoSearch_searchFrom_45 ?_
      refine lv_iload_n hx hb zd_LassoSearch_searchFrom_48 rfl (lv_at hl 1 rfl) ?_
      refine va_iald (f := (B 52)) hx hb hK hw.1 3 0 wS_a3 rfl hok.1 zd_LassoSearch_searchFrom_49 ?_
      have hok := hok.2
      refine lv_topi (fun z7 ez7 => ?_)
      have hok := hok z7 ez7
      refine lv_aload_n hx hb zd_LassoSearch_searchFrom_50 rfl (lv_at hl 2 rfl) ?_
      refine z_get (v := .ref (ad 8)) hx hb hts hown hK hw zZ3 0 wS_g0 0 (by decide) zn_822 rfl zd_LassoSearch_searchFrom_51 ?_
      refine z_get (v := .ref (ad 52)) hx hb hts hown hK hw zZ2 20 wS_g20 7 (by decide) zn_830 rfl zd_LassoSearch_searchFrom_54 ?_
      refine lv_iload hx hb zd_LassoSearch_searchFrom_57 (lv_at hl 0 rfl) ?_
      refine lv_iconst (v := 1) hx hb zd_LassoSearch_searchFrom_59 (by decide) ?_
      refine lv_iadd hx hb zd_LassoSearch_searchFrom_60 ?_
      refine lv_topi (fun z8 ez8 => ?_)
      have hok := hok z8 ez8
      refine va_iald (f := (B 37)) hx hb hK hw.1 64 0 wS_a64 rfl hok.1 zd_LassoSearch_searchFrom_61 ?_
      have hok := hok.2
      refine lv_topi (fun z9 ez9 => ?_)
      have hok := hok z9 ez9
      refine lv_icmp_ne (tgt := 73) hx hb zd_LassoSearch_searchFrom_62 (by decide) (fun hc10 => ?_) (fun hc10 => ?_)
      · have hok := hok.1 hc10
        refine lv_aload_n hx hb zd_LassoSearch_searchFrom_73 rfl (lv_at hl 2 rfl) ?_
        refine lv_aload_n hx hb zd_LassoSearch_searchFrom_74 rfl (lv_at hl 2 rfl) ?_
        refine z_get (v := .ref (ad 8)) hx hb hts hown hK hw zZ3 0 wS_g0 0 (by decide) zn_822 rfl zd_LassoSearch_searchFrom_75 ?_
        refine z_get (v := .ref (ad 53)) hx hb hts hown hK hw zZ2 20 wS_g20 8 (by decide) zn_831 rfl zd_LassoSearch_searchFrom_78 ?_
        refine lv_aload_n hx hb zd_LassoSearch_searchFrom_81 rfl (lv_at hl 2 rfl) ?_
        refine z_get (v := .ref (ad 68)) hx hb hts hown hK hw zZ3 0 wS_g0 4 (by decide) zn_805 rfl zd_LassoSearch_searchFrom_82 ?_
        refine lv_iload_n hx hb zd_LassoSearch_searchFrom_85 rfl (lv_at hl 1 rfl) ?_
        refine va_iald (f := (B 52)) hx hb hK hw.1 3 0 wS_a3 rfl hok.1 zd_LassoSearch_searchFrom_86 ?_
        have hok := hok.2
        refine lv_topi (fun z11 ez11 => ?_)
        have hok := hok z11 ez11
        refine va_iald (f := (B 38)) hx hb hK hw.1 65 0 wS_a65 rfl hok.1 zd_LassoSearch_searchFrom_87 ?_
        have hok := hok.2
        refine lv_topi (fun z12 ez12 => ?_)
        have hok := hok z12 ez12
        refine lv_iload_n hx hb zd_LassoSearch_searchFrom_88 rfl (lv_at hl 1 rfl) ?_
        refine lv_bipush (v := 8) hx hb zd_LassoSearch_searchFrom_89 (by decide) ?_
        refine lv_irem hx hb zd_LassoSearch_searchFrom_91 (by decide) ?_
        refine lv_topi (fun z13 ez13 => ?_)
        have hok := hok z13 ez13
        refine z_calli (w1 := fun (u : zS) => wS ad K u.1 u.2.1 u.2.2.1 u.2.2.2) (wr := []) (z_runV (q0 := 0) (wc := (wS ad K I J B D)) (As := [.int z12, .int z13]) (rest := []) ⟨hx, hb, hml, hown, hts⟩ (w_LassoSearch_spotBefore l G K ad I J B D z12 z13 _ H.size hok) zf_LassoSearch_spotBefore zn_553 ⟨Nat.le_of_ble_eq_true rfl, Nat.le_of_ble_eq_true rfl⟩ hK hw (List.range 77) wS_all wS_nd wS_g0 rfl rfl hl.1 rfl (Nat.le_of_ble_eq_true rfl) zd_LassoSearch_searchFrom_92 ⟨Nat.le_of_ble_eq_true rfl, Nat.le_of_ble_eq_true rfl⟩) hw hA (List.range 77) [] wS_all rfl (by decide) (fun i hi => by cases hi) (fun r14 u H locs hok hw => ?_)
        obtain ⟨I14, J14, B14, D14⟩ := u
        dsimp only at hok
        have hw : zW G A s.heap (wS ad K I14 J14 B14 D14) H locs := hw
        refine lv_istore hx hb zd_LassoSearch_searchFrom_95 hl (by decide) rfl (fun ls hl => ?_)
        have hl : lv_has ls 6 [(5, .int r14), (4, .int z6), (3, .int z5), (0, .ref (ad 65)), (2, .int x2)] := hl
        refine lv_aload_n hx hb zd_LassoSearch_searchFrom_97 rfl (lv_at hl 3 rfl) ?_
        refine z_get (v := .ref (ad 68)) hx hb hts hown hK hw zZ3 0 wS_g0 4 (by decide) zn_805 rfl zd_LassoSearch_searchFrom_98 ?_
        refine lv_iload_n hx hb zd_LassoSearch_searchFrom_101 rfl (lv_at hl 2 rfl) ?_
        refine lv_dup2_11 hx hb zd_LassoSearch_searchFrom_102 rfl rfl ?_
        refine va_iald (f := (B14 52)) hx hb hK hw.1 3 0 wS_a3 rfl hok.1 zd_LassoSearch_searchFrom_103 ?_
        have hok := hok.2
        refine lv_topi (fun z15 ez15 => ?_)
        have hok := hok z15 ez15
        refine lv_iconst (v := 1) hx hb zd_LassoSearch_searchFrom_104 (by decide) ?_
        refine lv_iadd hx hb zd_LassoSearch_searchFrom_105 ?_
        refine lv_topi (fun z16 ez16 => ?_)
        have hok := hok z16 ez16
        refine va_iast (f := (B14 52)) hx hb hK hw.1 hw.2.1 hw.2.2 3 0 wS_a3 rfl hok.1 zd_LassoSearch_searchFrom_106 (fun H locs w91 w92 w93 => ?_)
        have hok := hok.2
        have hw := wS_t3 ⟨w91, w92, w93⟩
        refine lv_aload_n hx hb zd_LassoSearch_searchFrom_107 rfl (lv_at hl 3 rfl) ?_
        refine z_get (v := .ref (ad 66)) hx hb hts hown hK hw zZ3 0 wS_g0 2 (by decide) zn_803 rfl zd_LassoSearch_searchFrom_108 ?_
        refine lv_iload hx hb zd_LassoSearch_searchFrom_111 (lv_at hl 0 rfl) ?_
        refine va_iald (f := (B14 50)) hx hb hK hw.1 1 0 wS_a1 rfl hok.1 zd_LassoSearch_searchFrom_113 ?_
        have hok := hok.2
        refine lv_topi (fun z17 ez17 => ?_)
        have hok := hok z17 ez17
        refine lv_if_ne (tgt := 126) hx hb zd_LassoSearch_searchFrom_114 (by decide) (fun hc18 => ?_) (fun hc18 => ?_)
        · have hok := hok.1 hc18
          refine lv_aload_n hx hb zd_LassoSearch_searchFrom_126 rfl (lv_at hl 3 rfl) ?_
          refine z_get (v := .ref (ad 69)) hx hb hts hown hK hw zZ3 0 wS_g0 5 (by decide) zn_806 rfl zd_LassoSearch_searchFrom_127 ?_
          refine lv_iload hx hb zd_LassoSearch_searchFrom_130 (lv_at hl 0 rfl) ?_
          refine va_zald (f := (B14 53)) hx hb hK hw.1 4 2 wS_a4 rfl hok.1 zd_LassoSearch_searchFrom_132 ?_
          have hok := hok.2
          refine lv_topi (fun z19 ez19 => ?_)
          have hok := hok z19 ez19
          refine lv_if_eq (tgt := 158) hx hb zd_LassoSearch_searchFrom_133 (by decide) (fun hc20 => ?_) (fun hc20 => ?_)
          · have hok := hok.1 hc20
            exact wJ_LassoSearch_searchFrom_158 G K ad a0 Post C K12 kh12 x2 I14 J14 (va_up B14 52 (upd (B14 52) z5.toNatClampNeg z16)) D14 ls H locs hok (lv_sub hl [3, 4] rfl) hw
          · have hok := hok.2 hc20
            refine lv_aload_n hx hb zd_LassoSearch_searchFrom_136 rfl (lv_at hl 3 rfl) ?_
            refine z_get (v := .ref (ad 67)) hx hb hts hown hK hw zZ3 0 wS_g0 3 (by decide) zn_804 rfl zd_LassoSearch_searchFrom_137 ?_
            refine lv_iload_n hx hb zd_LassoSearch_searchFrom_140 rfl (lv_at hl 2 rfl) ?_
            refine lv_aload_n hx hb zd_LassoSearch_searchFrom_141 rfl (lv_at hl 3 rfl) ?_
            refine z_get (v := .ref (ad 67)) hx hb hts hown hK hw zZ3 0 wS_g0 3 (by decide) zn_804 rfl zd_LassoSearch_searchFrom_142 ?_
            refine lv_iload_n hx hb zd_LassoSearch_searchFrom_145 rfl (lv_at hl 2 rfl) ?_
            refine va_iald (f := (B14 51)) hx hb hK hw.1 2 0 wS_a2 rfl hok.1 zd_LassoSearch_searchFrom_146 ?_
            have hok := hok.2
            refine lv_topi (fun z21 ez21 => ?_)
            have hok := hok z21 ez21
            refine lv_aload_n hx hb zd_LassoSearch_searchFrom_147 rfl (lv_at hl 3 rfl) ?_
            refine z_get (v := .ref (ad 66)) hx hb hts hown hK hw zZ3 0 wS_g0 2 (by decide) zn_803 rfl zd_LassoSearch_searchFrom_148 ?_
            refine lv_iload hx hb zd_LassoSearch_searchFrom_151 (lv_at hl 0 rfl) ?_
            refine va_iald (f := (B14 50)) hx hb hK hw.1 1 0 wS_a1 rfl hok.1 zd_LassoSearch_searchFrom_153 ?_
            have hok := hok.2
            refine lv_topi (fun z22 ez22 => ?_)
            have hok := hok z22 ez22
            refine va_mmin (x := z21) (y := z22) hx hb (by rw [hml]; exact hl.1.symm) hown (hts _ zn_550) (hts _ zn_834) (hts _ zn_835) (z_mminc ▸ (hts _ zn_836)) (Nat.le_of_ble_eq_true rfl) (Nat.le_of_ble_eq_true rfl) (Nat.le_of_ble_eq_true rfl) (Nat.le_of_ble_eq_true rfl) zd_LassoSearch_searchFrom_154 ?_
            refine lv_topi (fun z23 ez23 => ?_)
            have hok := hok z23 ez23
            refine va_iast (f := (B14 51)) hx hb hK hw.1 hw.2.1 hw.2.2 2 0 wS_a2 rfl hok.1 zd_LassoSearch_searchFrom_157 (fun H locs w91 w92 w93 => ?_)
            have hok := hok.2
            have hw := wS_t2 ⟨w91, w92, w93⟩
            exact wJ_LassoSearch_searchFrom_158 G K ad a0 Post C K12 kh12 x2 I14 J14 (va_up (va_up B14 52 (upd (B14 52) z5.toNatClampNeg z16)) 51 (upd (B14 51) z5.toNatClampNeg z23)) D14 ls H locs hok (lv_sub hl [3, 4] rfl) hw
        · have hok := hok.2 hc18
          refine lv_aload_n hx hb zd_LassoSearch_searchFrom_117 rfl (lv_at hl 3 rfl) ?_
          refine lv_iload hx hb zd_LassoSearch_searchFrom_118 (lv_at hl 0 rfl) ?_
          refine z_callv (w1 := fun (u : zS) => wS ad K u.1 u.2.1 u.2.2.1 u.2.2.2) (wr := []) (z_runV (q0 := 0) (wc := (wS ad K I14 J14 (va_up B14 52 (upd (B14 52) z5.toNatClampNeg z16)) D14)) (As := [.int r14]) (rest := []) ⟨hx, hb, hml, hown, hts⟩ (w_LassoSearch_enterSpot l G K ad I14 J14 (va_up B14 52 (upd (B14 52) z5.toNatClampNeg z16)) D14 r14 _ H.size hok) zf_LassoSearch_enterSpot zn_548 ⟨Nat.le_of_ble_eq_true rfl, Nat.le_of_ble_eq_true rfl⟩ hK hw (List.range 77) wS_all wS_nd wS_g0 rfl rfl hl.1 rfl (Nat.le_of_ble_eq_true rfl) zd_LassoSearch_searchFrom_120 ⟨Nat.le_of_ble_eq_true rfl, Nat.le_of_ble_eq_true rfl⟩) hw hA (List.range 77) [] wS_all rfl (by decide) (fun i hi => by cases hi) (fun u H locs hok hw => ?_)
          obtain ⟨I24, J24, B24, D24⟩ := u
          dsimp only at hok
          have hw : zW G A s.heap (wS ad K I24 J24 B24 D24) H locs := hw
          refine lv_goto (tgt := 158) hx hb zd_LassoSearch_searchFrom_123 (by decide) ?_
          exact wJ_LassoSearch_searchFrom_158 G K ad a0 Post C K12 kh12 x2 I24 J24 B24 D24 ls H locs hok (lv_sub hl [3, 4] rfl) hw
      · have hok := hok.2 hc10
        refine lv_aload_n hx hb zd_LassoSearch_searchFrom_65 rfl (lv_at hl 2 rfl) ?_
        refine lv_iload_n hx hb zd_LassoSearch_searchFrom_66 rfl (lv_at hl 1 rfl) ?_
        refine z_callv (w1 := fun (u : zS) => wS ad K u.1 u.2.1 u.2.2.1 u.2.2.2) (wr := []) (z_runV (q0 := 0) (wc := (wS ad K I J B D)) (As := [.int z5]) (rest := []) ⟨hx, hb, hml, hown, hts⟩ (w_LassoSearch_leaveSpot l G K ad I J B D z5 _ H.size hok) zf_LassoSearch_leaveSpot zn_549 ⟨Nat.le_of_ble_eq_true rfl, Nat.le_of_ble_eq_true rfl⟩ hK hw (List.range 77) wS_all wS_nd wS_g0 rfl rfl hl.1 rfl (Nat.le_of_ble_eq_true rfl) zd_LassoSearch_searchFrom_67 ⟨Nat.le_of_ble_eq_true rfl, Nat.le_of_ble_eq_true rfl⟩) hw hA (List.range 77) [] wS_all rfl (by decide) (fun i hi => by cases hi) (fun u H locs hok hw => ?_)
        obtain ⟨I25, J25, B25, D25⟩ := u
        dsimp only at hok
        have hw : zW G A s.heap (wS ad K I25 J25 B25 D25) H locs := hw
        refine lv_goto (tgt := 158) hx hb zd_LassoSearch_searchFrom_70 (by decide) ?_
        exact wJ_LassoSearch_searchFrom_158 G K ad a0 Post C K12 kh12 x2 I25 J25 B25 D25 ls H locs hok (lv_sub hl [2, 3] rfl) hw
theorem wL_LassoSearch_searchFrom_12 {p : Program} {l : Launch} {e : Env} {s : State} {m : MethodId} {below : List Frame} {meth : Method} {c : Code} {A : Nat → Prop} (G : va_G) (K : Nat → ClassId) (ad : Nat → Nat) (a0 : Int32) (Post : (Nat → Int32) → (Nat → Int64) → (Nat → Nat → Int32) → (Nat → Nat → Int64) → Prop) (C : zCx p s m ([.ref (ad 65), .int a0] : List Value).toArray meth c A G K prog_4_method_6_code none 6 "LassoFinder$LassoSearch") : ∀ (n : Nat) (x2 : Int32) (I : Nat → Int32) (J : Nat → Int64) (B : Nat → Nat → Int32) (D : Nat → Nat → Int64) (ls : Array Slot) (H : Heap) (locs : List Loc), wl_LassoSearch_searchFrom_12 a0 Post n x2 I J B D → lv_has ls 6 [(0, .ref (ad 65)), (2, .int x2)] → zW G A s.heap (wS ad K I J B D) H locs → W p l e { frames := 4, cells := 0, slots := 0, locals := 92 } s m ([.ref (ad 65), .int a0] : List Value).toArray below meth c H locs 0 0 (MQ below (va_Qv (fun u : zS => Post u.1 u.2.1 u.2.2.1 u.2.2.2) (fun u t => zPost G K A (wS ad K u.1 u.2.1 u.2.2.1 u.2.2.2) t) A) ([.ref (ad 65), .int a0] : List Value).toArray s 0 0 A) (F0 m 12 ls []) := by
  intro n
  induction n with
  | zero => intro x2 I J B D ls H locs hok; exact hok.elim
  | succ n ih => exact wB_LassoSearch_searchFrom_12 G K ad a0 Post C (wl_LassoSearch_searchFrom_12 a0 Post n) ih
set_option maxHeartbeats 8000000 in
set_option maxRecDepth 100000 in
theorem w_LassoSearch_searchFrom (l : Launch) (G : va_G) (K : Nat → ClassId) (ad : Nat → Nat) (I : Nat → Int32) (J : Nat → Int64) (B : Nat → Nat → Int32) (D : Nat → Nat → Int64) (a0 : Int32) (Post : (Nat → Int32) → (Nat → Int64) → (Nat → Nat → Int32) → (Nat → Nat → Int64) → Prop) (sz : Nat) (hok : wp_LassoSearch_searchFrom I J B D a0 Post) : Met l zy_LassoSearch_searchFrom (Cond.code zy_LassoSearch_searchFrom prog_4_method_6_code 6 none :: zTB) { frames := 4, cells := 0, slots := 0, locals := 92 } (va_Pc [.ref (ad 65), .int a0] (zPre G K (wS ad K I J B D) sz)) (va_Qv (fun u : zS => Post u.1 u.2.1 u.2.2.1 u.2.2.2) (fun u t => zPost G K (va_A (wS ad K I J B D) sz) (wS ad K u.1 u.2.1 u.2.2.1 u.2.2.2) t) (va_A (wS ad K I J B D) sz)) 0 0 (va_A (wS ad K I J B D) sz) := by
  refine zMet (y := zy_LassoSearch_searchFrom) (av := [.ref (ad 65), .int a0]) (maxL := 6) (cc := prog_4_method_6_code) (ret := none) (W0 := (wS ad K I J B D)) (sz := sz) (G := G) (K := K) (wt := zTB) (mc := 0) (ms := 0) (Qf := fun A => va_Qv (fun u : zS => Post u.1 u.2.1 u.2.2.1 u.2.2.2) (fun u t => zPost G K A (wS ad K u.1 u.2.1 u.2.2.1 u.2.2.2) t) A) (by decide) (Nat.le_of_ble_eq_true rfl) ?_
  intro p e s m below meth c ls A hx hb hr hml hts hown hlocks hin hA hK H locs hw hsz hl
  clear hsz
  have hown : s.vm.findClass "LassoFinder$LassoSearch" = some m.cls := hown
  have C : zCx p s m ([.ref (ad 65), .int a0] : List Value).toArray meth c A G K prog_4_method_6_code none 6 "LassoFinder$LassoSearch" := ⟨hx, hb, hr, hml, hts, hown, hlocks, hA, hK⟩
  have hl : lv_has ls 6 [(0, .ref (ad 65)), (1, .int a0)] := hl
  have hw : zW G A s.heap (wS ad K I J B D) H locs := hw
  unfold wp_LassoSearch_searchFrom at hok
  refine lv_aload_n hx hb zd_LassoSearch_searchFrom_0 rfl (lv_at hl 0 rfl) ?_
  refine lv_iconst (v := 0) hx hb zd_LassoSearch_searchFrom_1 (by decide) ?_
  refine z_put (v := .int 0) hx hb hts hown hK hw zZ3 0 wS_g0 8 (by decide) zn_833 rfl rfl rfl (Nat.le_of_ble_eq_true rfl) zd_LassoSearch_searchFrom_2 (fun H locs hw => ?_)
  have hw := wS_sI32 hw
  refine lv_aload_n hx hb zd_LassoSearch_searchFrom_5 rfl (lv_at hl 0 rfl) ?_
  refine lv_iload_n hx hb zd_LassoSearch_searchFrom_6 rfl (lv_at hl 1 rfl) ?_
  refine z_callv (w1 := fun (u : zS) => wS ad K u.1 u.2.1 u.2.2.1 u.2.2.2) (wr := []) (z_runV (q0 := 0) (wc := (wS ad K (upd I 32 0) J B D)) (As := [.int a0]) (rest := []) ⟨hx, hb, hml, hown, hts⟩ (w_LassoSearch_enterSpot l G K ad (upd I 32 0) J B D a0 _ H.size hok) zf_LassoSearch_enterSpot zn_548 ⟨Nat.le_of_ble_eq_true rfl, Nat.le_of_ble_eq_true rfl⟩ hK hw (List.range 77) wS_all wS_nd wS_g0 rfl rfl hl.1 rfl (Nat.le_of_ble_eq_true rfl) zd_LassoSearch_searchFrom_7 ⟨Nat.le_of_ble_eq_true rfl, Nat.le_of_ble_eq_true rfl⟩) hw hA (List.range 77) [] wS_all rfl (by decide) (fun i hi => by cases hi) (fun u H locs hok hw => ?_)
  obtain ⟨I26, J26, B26, D26⟩ := u
  dsimp only at hok
  have hw : zW G A s.heap (wS ad K I26 J26 B26 D26) H locs := hw
  refine lv_iconst (v := 0) hx hb zd_LassoSearch_searchFrom_10 (by decide) ?_
  refine lv_istore_n hx hb zd_LassoSearch_searchFrom_11 rfl hl (by decide) rfl (fun ls hl => ?_)
  have hl : lv_has ls 6 [(2, .int 0), (0, .ref (ad 65)), (1, .int a0)] := hl
  obtain ⟨n9, hok⟩ := hok
  exact wL_LassoSearch_searchFrom_12 G K ad a0 Post C n9 0 I26 J26 B26 D26 ls H locs hok (lv_sub hl [1, 0] rfl) hw
def wc_LassoSearch_markCycles_62 (K20 : Int32 → (Nat → Int32) → (Nat → Int64) → (Nat → Nat → Int32) → (Nat → Nat → Int64) → Prop) (Post : (Nat → Int32) → (Nat → Int64) → (Nat → Nat → Int32) → (Nat → Nat → Int64) → Prop) (x1 : Int32) (I : Nat → Int32) (J : Nat → Int64) (B : Nat → Nat → Int32) (D : Nat → Nat → Int64) : Prop :=
  ∀ z1 : Int32, z1 = (x1 + 1) → K20 z1 I J B D
def wb_LassoSearch_markCycles_20 (K20 : Int32 → (Nat → Int32) → (Nat → Int64) → (Nat → Nat → Int32) → (Nat → Nat → Int64) → Prop) (Post : (Nat → Int32) → (Nat → Int64) → (Nat → Nat → Int32) → (Nat → Nat → Int64) → Prop) (x1 : Int32) (I : Nat → Int32) (J : Nat → Int64) (B : Nat → Nat → Int32) (D : Nat → Nat → Int64) : Prop :=
  ∀ z2 : Int32, z2 = ((I 19) * 8) → ((z2 ≤ x1 → Post I J B D) ∧ (¬ z2 ≤ x1 → vp_in x1 768 ∧ ∀ z4 : Int32, z4 = ((B 50) x1.toNatClampNeg) → ((¬ z4 = 0 → wc_LassoSearch_markCycles_62  K20 Post x1 I J B D) ∧ (z4 = 0 → ∀ z6 : Int32, z6 = (x1 - x1 / 8 * 8) → (((I 30) ≤ z6 → wc_LassoSearch_markCycles_62  K20 Post x1 I J B D) ∧ (¬ (I 30) ≤ z6 → wp_LassoSearch_searchFrom I J B D x1 (fun I8 J8 B8 D8 => wc_LassoSearch_markCycles_62  K20 Post x1 I8 J8 B8 D8)))))))
def wl_LassoSearch_markCycles_20 (Post : (Nat → Int32) → (Nat → Int64) → (Nat → Nat → Int32) → (Nat → Nat → Int64) → Prop) (n : Nat) : Int32 → (Nat → Int32) → (Nat → Int64) → (Nat → Nat → Int32) → (Nat → Nat → Int64) → Prop := Nat.rec (fun _ _ _ _ _ => False) (fun _ r => wb_LassoSearch_markCycles_20  r Post) n
def wp_LassoSearch_markCycles (I : Nat → Int32) (J : Nat → Int64) (B : Nat → Nat → Int32) (D : Nat → Nat → Int64) (Post : (Nat → Int32) → (Nat → Int64) → (Nat → Nat → Int32) → (Nat → Nat → Int64) → Prop) : Prop :=
  ∃ n : Nat, wl_LassoSearch_markCycles_20  Post n 0 (upd (upd I 34 0) 33 0) J (va_up B 50 (zFill (B 50) 0 768)) D
set_option maxHeartbeats 8000000 in
set_option maxRecDepth 100000 in
theorem wJ_LassoSearch_markCycles_62 {p : Program} {l : Launch} {e : Env} {s : State} {m : MethodId} {below : List Frame} {meth : Method} {c : Code} {A : Nat → Prop} (G : va_G) (K : Nat → ClassId) (ad : Nat → Nat) (Post : (Nat → Int32) → (Nat → Int64) → (Nat → Nat → Int32) → (Nat → Nat → Int64) → Prop) (C : zCx p s m ([.ref (ad 65)] : List Value).toArray meth c A G K prog_4_method_5_code none 2 "LassoFinder$LassoSearch") (K20 : Int32 → (Nat → Int32) → (Nat → Int64) → (Nat → Nat → Int32) → (Nat → Nat → Int64) → Prop) (kh20 : ∀ (x1 : Int32) (I : Nat → Int32) (J : Nat → Int64) (B : Nat → Nat → Int32) (D : Nat → Nat → Int64) (ls : Array Slot) (H : Heap) (locs : List Loc), K20 x1 I J B D → lv_has ls 2 [(0, .ref (ad 65)), (1, .int x1)] → zW G A s.heap (wS ad K I J B D) H locs → W p l e { frames := 5, cells := 0, slots := 0, locals := 117 } s m ([.ref (ad 65)] : List Value).toArray below meth c H locs 0 0 (MQ below (va_Qv (fun u : zS => Post u.1 u.2.1 u.2.2.1 u.2.2.2) (fun u t => zPost G K A (wS ad K u.1 u.2.1 u.2.2.1 u.2.2.2) t) A) ([.ref (ad 65)] : List Value).toArray s 0 0 A) (F0 m 20 ls [])) : ∀ (x1 : Int32) (I : Nat → Int32) (J : Nat → Int64) (B : Nat → Nat → Int32) (D : Nat → Nat → Int64) (ls : Array Slot) (H : Heap) (locs : List Loc), wc_LassoSearch_markCycles_62  K20 Post x1 I J B D → lv_has ls 2 [(0, .ref (ad 65)), (1, .int x1)] → zW G A s.heap (wS ad K I J B D) H locs → W p l e { frames := 5, cells := 0, slots := 0, locals := 117 } s m ([.ref (ad 65)] : List Value).toArray below meth c H locs 0 0 (MQ below (va_Qv (fun u : zS => Post u.1 u.2.1 u.2.2.1 u.2.2.2) (fun u t => zPost G K A (wS ad K u.1 u.2.1 u.2.2.1 u.2.2.2) t) A) ([.ref (ad 65)] : List Value).toArray s 0 0 A) (F0 m 62 ls []) := by
  obtain ⟨hx, hb, hr, hml, hts, hown, hlocks, hA, hK⟩ := id C
  intro x1 I J B D ls H locs hok hl hw
  unfold wc_LassoSearch_markCycles_62 at hok
  obtain ⟨z1, ez1⟩ : ∃ z : Int32, z = (x1 + 1) := ⟨_, rfl⟩
  have hok := hok z1 ez1
  refine lv_iinc (v := z1) hx hb zd_LassoSearch_markCycles_62 hl (k := 1) rfl ez1.symm (by decide) rfl (fun ls hl => ?_)
  have hl : lv_has ls 2 [(1, .int z1), (0, .ref (ad 65))] := hl
  refine lv_goto (tgt := 20) hx hb zd_LassoSearch_markCycles_65 (by decide) ?_
  exact kh20 z1 I J B D ls H locs hok (lv_sub hl [1, 0] rfl) hw
set_option maxHeartbeats 8000000 in
set_option maxRecDepth 100000 in
theorem wB_LassoSearch_markCycles_20 {p : Program} {l : Launch} {e : Env} {s : State} {m : MethodId} {below : List Frame} {meth : Method} {c : Code} {A : Nat → Prop} (G : va_G) (K : Nat → ClassId) (ad : Nat → Nat) (Post : (Nat → Int32) → (Nat → Int64) → (Nat → Nat → Int32) → (Nat → Nat → Int64) → Prop) (C : zCx p s m ([.ref (ad 65)] : List Value).toArray meth c A G K prog_4_method_5_code none 2 "LassoFinder$LassoSearch") (K20 : Int32 → (Nat → Int32) → (Nat → Int64) → (Nat → Nat → Int32) → (Nat → Nat → Int64) → Prop) (kh20 : ∀ (x1 : Int32) (I : Nat → Int32) (J : Nat → Int64) (B : Nat → Nat → Int32) (D : Nat → Nat → Int64) (ls : Array Slot) (H : Heap) (locs : List Loc), K20 x1 I J B D → lv_has ls 2 [(0, .ref (ad 65)), (1, .int x1)] → zW G A s.heap (wS ad K I J B D) H locs → W p l e { frames := 5, cells := 0, slots := 0, locals := 117 } s m ([.ref (ad 65)] : List Value).toArray below meth c H locs 0 0 (MQ below (va_Qv (fun u : zS => Post u.1 u.2.1 u.2.2.1 u.2.2.2) (fun u t => zPost G K A (wS ad K u.1 u.2.1 u.2.2.1 u.2.2.2) t) A) ([.ref (ad 65)] : List Value).toArray s 0 0 A) (F0 m 20 ls [])) : ∀ (x1 : Int32) (I : Nat → Int32) (J : Nat → Int64) (B : Nat → Nat → Int32) (D : Nat → Nat → Int64) (ls : Array Slot) (H : Heap) (locs : List Loc), wb_LassoSearch_markCycles_20  K20 Post x1 I J B D → lv_has ls 2 [(0, .ref (ad 65)), (1, .int x1)] → zW G A s.heap (wS ad K I J B D) H locs → W p l e { frames := 5, cells := 0, slots := 0, locals := 117 } s m ([.ref (ad 65)] : List Value).toArray below meth c H locs 0 0 (MQ below (va_Qv (fun u : zS => Post u.1 u.2.1 u.2.2.1 u.2.2.2) (fun u t => zPost G K A (wS ad K u.1 u.2.1 u.2.2.1 u.2.2.2) t) A) ([.ref (ad 65)] : List Value).toArray s 0 0 A) (F0 m 20 ls []) := by
  obtain ⟨hx, hb, hr, hml, hts, hown, hlocks, hA, hK⟩ := id C
  intro x1 I J B D ls H locs hok hl hw
  unfold wb_LassoSearch_markCycles_20 at hok
  refine lv_iload_n hx hb zd_LassoSearch_markCycles_20 rfl (lv_at hl 1 rfl) ?_
  refine lv_aload_n hx hb zd_LassoSearch_markCycles_21 rfl (lv_at hl 0 rfl) ?_
  refine z_get (v := .ref (ad 8)) hx hb hts hown hK hw zZ3 0 wS_g0 0 (by decide) zn_822 rfl zd_LassoSearch_markCycles_22 ?_
  refine z_get (v := .int (I 19)) hx hb hts hown hK hw zZ2 20 wS_g20 9 (by decide) zn_832 rfl zd_LassoSearch_markCycles_25 ?_
  refine lv_bipush (v := 8) hx hb zd_LassoSearch_markCycles_28 (by decide) ?_
  refine lv_imul hx hb zd_LassoSearch_markCycles_30 ?_
  refine lv_topi (fun z2 ez2 => ?_)
  have hok := hok z2 ez2
  refine lv_icmp_ge (tgt := 68) hx hb zd_LassoSearch_markCycles_31 (by decide) (fun hc3 => ?_) (fun hc3 => ?_)
  · have hok := hok.1 hc3
    exact (z_vret (u := (I, J, B, D)) hx hb hr hlocks hw (List.range 77) wS_all wS_nd hok (Nat.le_of_ble_eq_true rfl) (Nat.le_of_ble_eq_true rfl) zd_LassoSearch_markCycles_68)
  · have hok := hok.2 hc3
    refine lv_aload_n hx hb zd_LassoSearch_markCycles_34 rfl (lv_at hl 0 rfl) ?_
    refine z_get (v := .ref (ad 66)) hx hb hts hown hK hw zZ3 0 wS_g0 2 (by decide) zn_803 rfl zd_LassoSearch_markCycles_35 ?_
    refine lv_iload_n hx hb zd_LassoSearch_markCycles_38 rfl (lv_at hl 1 rfl) ?_
    refine va_iald (f := (B 50)) hx hb hK hw.1 1 0 wS_a1 rfl hok.1 zd_LassoSearch_markCycles_39 ?_
    have hok := hok.2
    refine lv_topi (fun z4 ez4 => ?_)
    have hok := hok z4 ez4
    refine lv_if_ne (tgt := 62) hx hb zd_LassoSearch_markCycles_40 (by decide) (fun hc5 => ?_) (fun hc5 => ?_)
    · have hok := hok.1 hc5
      exact wJ_LassoSearch_markCycles_62 G K ad  Post C K20 kh20 x1 I J B D ls H locs hok (lv_sub hl [0, 1] rfl) hw
    · have hok := hok.2 hc5
      refine lv_iload_n hx hb zd_LassoSearch_markCycles_43 rfl (lv_at hl 1 rfl) ?_
      refine lv_bipush (v := 8) hx hb zd_LassoSearch_markCycles_44 (by decide) ?_
      refine lv_irem hx hb zd_LassoSearch_markCycles_46 (by decide) ?_
      refine lv_topi (fun z6 ez6 => ?_)
      have hok := hok z6 ez6
      refine lv_aload_n hx hb zd_LassoSearch_markCycles_47 rfl (lv_at hl 0 rfl) ?_
      refine z_get (v := .ref (ad 11)) hx hb hts hown hK hw zZ3 0 wS_g0 1 (by decide) zn_819 rfl zd_LassoSearch_markCycles_48 ?_
      refine z_get (v := .int (I 30)) hx hb hts hown hK hw zZ11 23 wS_g23 7 (by decide) zn_820 rfl zd_LassoSearch_markCycles_51 ?_
      refine lv_icmp_ge (tgt := 62) hx hb zd_LassoSearch_markCycles_54 (by decide) (fun hc7 => ?_) (fun hc7 => ?_)
      · have hok := hok.1 hc7
        exact wJ_LassoSearch_markCycles_62 G K ad  Post C K20 kh20 x1 I J B D ls H locs hok (lv_sub hl [0, 1] rfl) hw
      · have hok := hok.2 hc7
        refine lv_aload_n hx hb zd_LassoSearch_markCycles_57 rfl (lv_at hl 0 rfl) ?_
        refine lv_iload_n hx hb zd_LassoSearch_markCycles_58 rfl (lv_at hl 1 rfl) ?_
        refine z_callv (w1 := fun (u : zS) => wS ad K u.1 u.2.1 u.2.2.1 u.2.2.2) (wr := []) (z_runV (q0 := 0) (wc := (wS ad K I J B D)) (As := [.int x1]) (rest := []) ⟨hx, hb, hml, hown, hts⟩ (w_LassoSearch_searchFrom l G K ad I J B D x1 _ H.size hok) zf_LassoSearch_searchFrom zn_547 ⟨Nat.le_of_ble_eq_true rfl, Nat.le_of_ble_eq_true rfl⟩ hK hw (List.range 77) wS_all wS_nd wS_g0 rfl rfl hl.1 rfl (Nat.le_of_ble_eq_true rfl) zd_LassoSearch_markCycles_59 ⟨Nat.le_of_ble_eq_true rfl, Nat.le_of_ble_eq_true rfl⟩) hw hA (List.range 77) [] wS_all rfl (by decide) (fun i hi => by cases hi) (fun u H locs hok hw => ?_)
        obtain ⟨I8, J8, B8, D8⟩ := u
        dsimp only at hok
        have hw : zW G A s.heap (wS ad K I8 J8 B8 D8) H locs := hw
        exact wJ_LassoSearch_markCycles_62 G K ad  Post C K20 kh20 x1 I8 J8 B8 D8 ls H locs hok (lv_sub hl [0, 1] rfl) hw
theorem wL_LassoSearch_markCycles_20 {p : Program} {l : Launch} {e : Env} {s : State} {m : MethodId} {below : List Frame} {meth : Method} {c : Code} {A : Nat → Prop} (G : va_G) (K : Nat → ClassId) (ad : Nat → Nat) (Post : (Nat → Int32) → (Nat → Int64) → (Nat → Nat → Int32) → (Nat → Nat → Int64) → Prop) (C : zCx p s m ([.ref (ad 65)] : List Value).toArray meth c A G K prog_4_method_5_code none 2 "LassoFinder$LassoSearch") : ∀ (n : Nat) (x1 : Int32) (I : Nat → Int32) (J : Nat → Int64) (B : Nat → Nat → Int32) (D : Nat → Nat → Int64) (ls : Array Slot) (H : Heap) (locs : List Loc), wl_LassoSearch_markCycles_20  Post n x1 I J B D → lv_has ls 2 [(0, .ref (ad 65)), (1, .int x1)] → zW G A s.heap (wS ad K I J B D) H locs → W p l e { frames := 5, cells := 0, slots := 0, locals := 117 } s m ([.ref (ad 65)] : List Value).toArray below meth c H locs 0 0 (MQ below (va_Qv (fun u : zS => Post u.1 u.2.1 u.2.2.1 u.2.2.2) (fun u t => zPost G K A (wS ad K u.1 u.2.1 u.2.2.1 u.2.2.2) t) A) ([.ref (ad 65)] : List Value).toArray s 0 0 A) (F0 m 20 ls []) := by
  intro n
  induction n with
  | zero => intro x1 I J B D ls H locs hok; exact hok.elim
  | succ n ih => exact wB_LassoSearch_markCycles_20 G K ad  Post C (wl_LassoSearch_markCycles_20  Post n) ih
set_option maxHeartbeats 8000000 in
set_option maxRecDepth 100000 in
theorem w_LassoSearch_markCycles (l : Launch) (G : va_G) (K : Nat → ClassId) (ad : Nat → Nat) (I : Nat → Int32) (J : Nat → Int64) (B : Nat → Nat → Int32) (D : Nat → Nat → Int64) (Post : (Nat → Int32) → (Nat → Int64) → (Nat → Nat → Int32) → (Nat → Nat → Int64) → Prop) (sz : Nat) (hok : wp_LassoSearch_markCycles I J B D  Post) : Met l zy_LassoSearch_markCycles (Cond.code zy_LassoSearch_markCycles prog_4_method_5_code 2 none :: zTB) { frames := 5, cells := 0, slots := 0, locals := 117 } (va_Pc [.ref (ad 65)] (zPre G K (wS ad K I J B D) sz)) (va_Qv (fun u : zS => Post u.1 u.2.1 u.2.2.1 u.2.2.2) (fun u t => zPost G K (va_A (wS ad K I J B D) sz) (wS ad K u.1 u.2.1 u.2.2.1 u.2.2.2) t) (va_A (wS ad K I J B D) sz)) 0 0 (va_A (wS ad K I J B D) sz) := by
  refine zMet (y := zy_LassoSearch_markCycles) (av := [.ref (ad 65)]) (maxL := 2) (cc := prog_4_method_5_code) (ret := none) (W0 := (wS ad K I J B D)) (sz := sz) (G := G) (K := K) (wt := zTB) (mc := 0) (ms := 0) (Qf := fun A => va_Qv (fun u : zS => Post u.1 u.2.1 u.2.2.1 u.2.2.2) (fun u t => zPost G K A (wS ad K u.1 u.2.1 u.2.2.1 u.2.2.2) t) A) (by decide) (Nat.le_of_ble_eq_true rfl) ?_
  intro p e s m below meth c ls A hx hb hr hml hts hown hlocks hin hA hK H locs hw hsz hl
  clear hsz
  have hown : s.vm.findClass "LassoFinder$LassoSearch" = some m.cls := hown
  have C : zCx p s m ([.ref (ad 65)] : List Value).toArray meth c A G K prog_4_method_5_code none 2 "LassoFinder$LassoSearch" := ⟨hx, hb, hr, hml, hts, hown, hlocks, hA, hK⟩
  have hl : lv_has ls 2 [(0, .ref (ad 65))] := hl
  have hw : zW G A s.heap (wS ad K I J B D) H locs := hw
  unfold wp_LassoSearch_markCycles at hok
  refine lv_aload_n hx hb zd_LassoSearch_markCycles_0 rfl (lv_at hl 0 rfl) ?_
  refine z_get (v := .ref (ad 66)) hx hb hts hown hK hw zZ3 0 wS_g0 2 (by decide) zn_803 rfl zd_LassoSearch_markCycles_1 ?_
  refine lv_iconst (v := 0) hx hb zd_LassoSearch_markCycles_4 (by decide) ?_
  refine z_fillI (f := (B 50)) (v := 0) (n := 768) (rest := []) ⟨hx, hb, hml, hown, hts⟩ hK hw hA 1 wS_a1 (by decide) zn_545 ⟨(Nat.le_of_ble_eq_true rfl), (Nat.le_of_ble_eq_true rfl)⟩ hl.1 rfl (Nat.le_of_ble_eq_true rfl) zd_LassoSearch_markCycles_5 ⟨(Nat.le_of_ble_eq_true rfl), (Nat.le_of_ble_eq_true rfl)⟩ (fun H locs hw => ?_)
  have hw := wS_t1 hw
  refine lv_aload_n hx hb zd_LassoSearch_markCycles_8 rfl (lv_at hl 0 rfl) ?_
  refine lv_iconst (v := 0) hx hb zd_LassoSearch_markCycles_9 (by decide) ?_
  refine z_put (v := .int 0) hx hb hts hown hK hw zZ3 0 wS_g0 10 (by decide) zn_837 rfl rfl rfl (Nat.le_of_ble_eq_true rfl) zd_LassoSearch_markCycles_10 (fun H locs hw => ?_)
  have hw := wS_sI34 hw
  refine lv_aload_n hx hb zd_LassoSearch_markCycles_13 rfl (lv_at hl 0 rfl) ?_
  refine lv_iconst (v := 0) hx hb zd_LassoSearch_markCycles_14 (by decide) ?_
  refine z_put (v := .int 0) hx hb hts hown hK hw zZ3 0 wS_g0 9 (by decide) zn_838 rfl rfl rfl (Nat.le_of_ble_eq_true rfl) zd_LassoSearch_markCycles_15 (fun H locs hw => ?_)
  have hw := wS_sI33 hw
  refine lv_iconst (v := 0) hx hb zd_LassoSearch_markCycles_18 (by decide) ?_
  refine lv_istore_n hx hb zd_LassoSearch_markCycles_19 rfl hl (by decide) rfl (fun ls hl => ?_)
  have hl : lv_has ls 2 [(1, .int 0), (0, .ref (ad 65))] := hl
  obtain ⟨n9, hok⟩ := hok
  exact wL_LassoSearch_markCycles_20 G K ad  Post C n9 0 (upd (upd I 34 0) 33 0) J (va_up B 50 (zFill (B 50) 0 768)) D ls H locs hok (lv_sub hl [1, 0] rfl) hw
def wc_LassoSearch_measureStems_98 (Post : (Nat → Int32) → (Nat → Int64) → (Nat → Nat → Int32) → (Nat → Nat → Int64) → Prop)  (I : Nat → Int32) (J : Nat → Int64) (B : Nat → Nat → Int32) (D : Nat → Nat → Int64) : Prop :=
  Post I J B D
def wb_LassoSearch_measureStems_40 (K40 : Int32 → Int32 → Int32 → Int32 → (Nat → Int32) → (Nat → Int64) → (Nat → Nat → Int32) → (Nat → Nat → Int64) → Prop) (K2 : Int32 → (Nat → Int32) → (Nat → Int64) → (Nat → Nat → Int32) → (Nat → Nat → Int64) → Prop) (Post : (Nat → Int32) → (Nat → Int64) → (Nat → Nat → Int32) → (Nat → Nat → Int64) → Prop) (x1 : Int32) (x2 : Int32) (x3 : Int32) (x4 : Int32) (I : Nat → Int32) (J : Nat → Int64) (B : Nat → Nat → Int32) (D : Nat → Nat → Int64) : Prop :=
  ∀ z1 : Int32, z1 = (x3 + 1) → vp_in z1 97 ∧ ∀ z2 : Int32, z2 = ((B 37) z1.toNatClampNeg) → ((z2 ≤ x4 → ∀ z4 : Int32, z4 = (x1 + 1) → K2 z4 I J B D) ∧ (¬ z2 ≤ x4 → vp_in x4 400 ∧ ∀ z5 : Int32, z5 = ((B 38) x4.toNatClampNeg) → ∀ z6 : Int32, z6 = (x2 - x2 / 8 * 8) → wp_LassoSearch_spotBefore I J B D z5 z6 (fun r7 I7 J7 B7 D7 => vp_in x2 6144 ∧ ∀ z8 : Int32, z8 = ((B7 56) x2.toNatClampNeg) → ∀ z9 : Int32, z9 = (z8 + 1) → wp_LassoSearch_reach I7 J7 B7 D7 r7 z9 (fun I10 J10 B10 D10 => ∀ z11 : Int32, z11 = (x4 + 1) → K40 x1 x2 x3 z11 I10 J10 B10 D10))))
def wl_LassoSearch_measureStems_40 (K2 : Int32 → (Nat → Int32) → (Nat → Int64) → (Nat → Nat → Int32) → (Nat → Nat → Int64) → Prop) (Post : (Nat → Int32) → (Nat → Int64) → (Nat → Nat → Int32) → (Nat → Nat → Int64) → Prop) (n : Nat) : Int32 → Int32 → Int32 → Int32 → (Nat → Int32) → (Nat → Int64) → (Nat → Nat → Int32) → (Nat → Nat → Int64) → Prop := Nat.rec (fun _ _ _ _ _ _ _ _ => False) (fun _ r => wb_LassoSearch_measureStems_40  r K2 Post) n
def wb_LassoSearch_measureStems_2 (K2 : Int32 → (Nat → Int32) → (Nat → Int64) → (Nat → Nat → Int32) → (Nat → Nat → Int64) → Prop) (Post : (Nat → Int32) → (Nat → Int64) → (Nat → Nat → Int32) → (Nat → Nat → Int64) → Prop) (x1 : Int32) (I : Nat → Int32) (J : Nat → Int64) (B : Nat → Nat → Int32) (D : Nat → Nat → Int64) : Prop :=
  (((768 : Int32) ≤ x1 → wc_LassoSearch_measureStems_98  Post I J B D) ∧ (¬ (768 : Int32) ≤ x1 → (((I 35) ≤ x1 → wc_LassoSearch_measureStems_98  Post I J B D) ∧ (¬ (I 35) ≤ x1 → vp_in x1 6144 ∧ ∀ z14 : Int32, z14 = ((B 57) x1.toNatClampNeg) → ∀ z15 : Int32, z15 = (z14 / 8) → vp_in z15 97 ∧ ∀ z16 : Int32, z16 = ((B 37) z15.toNatClampNeg) → ∃ n : Nat, wl_LassoSearch_measureStems_40  K2 Post n x1 z14 z15 z16 I J B D))))
def wl_LassoSearch_measureStems_2 (Post : (Nat → Int32) → (Nat → Int64) → (Nat → Nat → Int32) → (Nat → Nat → Int64) → Prop) (n : Nat) : Int32 → (Nat → Int32) → (Nat → Int64) → (Nat → Nat → Int32) → (Nat → Nat → Int64) → Prop := Nat.rec (fun _ _ _ _ _ => False) (fun _ r => wb_LassoSearch_measureStems_2  r Post) n
def wp_LassoSearch_measureStems (I : Nat → Int32) (J : Nat → Int64) (B : Nat → Nat → Int32) (D : Nat → Nat → Int64) (Post : (Nat → Int32) → (Nat → Int64) → (Nat → Nat → Int32) → (Nat → Nat → Int64) → Prop) : Prop :=
  ∃ n : Nat, wl_LassoSearch_measureStems_2  Post n 0 I J B D
set_option maxHeartbeats 8000000 in
set_option maxRecDepth 100000 in
theorem wJ_LassoSearch_measureStems_98 {p : Program} {l : Launch} {e : Env} {s : State} {m : MethodId} {below : List Frame} {meth : Method} {c : Code} {A : Nat → Prop} (G : va_G) (K : Nat → ClassId) (ad : Nat → Nat) (Post : (Nat → Int32) → (Nat → Int64) → (Nat → Nat → Int32) → (Nat → Nat → Int64) → Prop) (C : zCx p s m ([.ref (ad 65)] : List Value).toArray meth c A G K prog_4_method_12_code none 5 "LassoFinder$LassoSearch") : ∀  (I : Nat → Int32) (J : Nat → Int64) (B : Nat → Nat → Int32) (D : Nat → Nat → Int64) (ls : Array Slot) (H : Heap) (locs : List Loc), wc_LassoSearch_measureStems_98  Post  I J B D → lv_has ls 5 [] → zW G A s.heap (wS ad K I J B D) H locs → W p l e { frames := 1, cells := 0, slots := 0, locals := 22 } s m ([.ref (ad 65)] : List Value).toArray below meth c H locs 0 0 (MQ below (va_Qv (fun u : zS => Post u.1 u.2.1 u.2.2.1 u.2.2.2) (fun u t => zPost G K A (wS ad K u.1 u.2.1 u.2.2.1 u.2.2.2) t) A) ([.ref (ad 65)] : List Value).toArray s 0 0 A) (F0 m 98 ls []) := by
  obtain ⟨hx, hb, hr, hml, hts, hown, hlocks, hA, hK⟩ := id C
  intro  I J B D ls H locs hok hl hw
  unfold wc_LassoSearch_measureStems_98 at hok
  exact (z_vret (u := (I, J, B, D)) hx hb hr hlocks hw (List.range 77) wS_all wS_nd hok (Nat.le_of_ble_eq_true rfl) (Nat.le_of_ble_eq_true rfl) zd_LassoSearch_measureStems_98)
set_option maxHeartbeats 8000000 in
set_option maxRecDepth 100000 in
theorem wB_LassoSearch_measureStems_40 {p : Program} {l : Launch} {e : Env} {s : State} {m : MethodId} {below : List Frame} {meth : Method} {c : Code} {A : Nat → Prop} (G : va_G) (K : Nat → ClassId) (ad : Nat → Nat) (Post : (Nat → Int32) → (Nat → Int64) → (Nat → Nat → Int32) → (Nat → Nat → Int64) → Prop) (C : zCx p s m ([.ref (ad 65)] : List Value).toArray meth c A G K prog_4_method_12_code none 5 "LassoFinder$LassoSearch") (K2 : Int32 → (Nat → Int32) → (Nat → Int64) → (Nat → Nat → Int32) → (Nat → Nat → Int64) → Prop) (kh2 : ∀ (x1 : Int32) (I : Nat → Int32) (J : Nat → Int64) (B : Nat → Nat → Int32) (D : Nat → Nat → Int64) (ls : Array Slot) (H : Heap) (locs : List Loc), K2 x1 I J B D → lv_has ls 5 [(0, .ref (ad 65)), (1, .int x1)] → zW G A s.heap (wS ad K I J B D) H locs → W p l e { frames := 1, cells := 0, slots := 0, locals := 22 } s m ([.ref (ad 65)] : List Value).toArray below meth c H locs 0 0 (MQ below (va_Qv (fun u : zS => Post u.1 u.2.1 u.2.2.1 u.2.2.2) (fun u t => zPost G K A (wS ad K u.1 u.2.1 u.2.2.1 u.2.2.2) t) A) ([.ref (ad 65)] : List Value).toArray s 0 0 A) (F0 m 2 ls [])) (K40 : Int32 → Int32 → Int32 → Int32 → (Nat → Int32) → (Nat → Int64) → (Nat → Nat → Int32) → (Nat → Nat → Int64) → Prop) (kh40 : ∀ (x1 : Int32) (x2 : Int32) (x3 : Int32) (x4 : Int32) (I : Nat → Int32) (J : Nat → Int64) (B : Nat → Nat → Int32) (D : Nat → Nat → Int64) (ls : Array Slot) (H : Heap) (locs : List Loc), K40 x1 x2 x3 x4 I J B D → lv_has ls 5 [(0, .ref (ad 65)), (1, .int x1), (2, .int x2), (3, .int x3), (4, .int x4)] → zW G A s.heap (wS ad K I J B D) H locs → W p l e { frames := 1, cells := 0, slots := 0, locals := 22 } s m ([.ref (ad 65)] : List Value).toArray below meth c H locs 0 0 (MQ below (va_Qv (fun u : zS => Post u.1 u.2.1 u.2.2.1 u.2.2.2) (fun u t => zPost G K A (wS ad K u.1 u.2.1 u.2.2.1 u.2.2.2) t) A) ([.ref (ad 65)] : List Value).toArray s 0 0 A) (F0 m 40 ls [])) : ∀ (x1 : Int32) (x2 : Int32) (x3 : Int32) (x4 : Int32) (I : Nat → Int32) (J : Nat → Int64) (B : Nat → Nat → Int32) (D : Nat → Nat → Int64) (ls : Array Slot) (H : Heap) (locs : List Loc), wb_LassoSearch_measureStems_40  K40 K2 Post x1 x2 x3 x4 I J B D → lv_has ls 5 [(0, .ref (ad 65)), (1, .int x1), (2, .int x2), (3, .int x3), (4, .int x4)] → zW G A s.heap (wS ad K I J B D) H locs → W p l e { frames := 1, cells := 0, slots := 0, locals := 22 } s m ([.ref (ad 65)] : List Value).toArray below meth c H locs 0 0 (MQ below (va_Qv (fun u : zS => Post u.1 u.2.1 u.2.2.1 u.2.2.2) (fun u t => zPost G K A (wS ad K u.1 u.2.1 u.2.2.1 u.2.2.2) t) A) ([.ref (ad 65)] : List Value).toArray s 0 0 A) (F0 m 40 ls []) := by
  obtain ⟨hx, hb, hr, hml, hts, hown, hlocks, hA, hK⟩ := id C
  intro x1 x2 x3 x4 I J B D ls H locs hok hl hw
  unfold wb_LassoSearch_measureStems_40 at hok
  refine lv_iload hx hb zd_LassoSearch_measureStems_40 (lv_at hl 4 rfl) ?_
  refine lv_aload_n hx hb zd_LassoSearch_measureStems_42 rfl (lv_at hl 0 rfl) ?_
  refine z_get (v := .ref (ad 8)) hx hb hts hown hK hw zZ3 0 wS_g0 0 (by decide) zn_822 rfl zd_LassoSearch_measureStems_43 ?_
  refine z_get (v := .ref (ad 52)) hx hb hts hown hK hw zZ2 20 wS_g20 7 (by decide) zn_830 rfl zd_LassoSearch_measureStems_46 ?_
  refine lv_iload_n hx hb zd_LassoSearch_measureStems_49 rfl (lv_at hl 3 rfl) ?_
  refine lv_iconst (v := 1) hx hb zd_LassoSearch_measureStems_50 (by decide) ?_
  refine lv_iadd hx hb zd_LassoSearch_measureStems_51 ?_
  refine lv_topi (fun z1 ez1 => ?_)
  have hok := hok z1 ez1
  refine va_iald (f := (B 37)) hx hb hK hw.1 64 0 wS_a64 rfl hok.1 zd_LassoSearch_measureStems_52 ?_
  have hok := hok.2
  refine lv_topi (fun z2 ez2 => ?_)
  have hok := hok z2 ez2
  refine lv_icmp_ge (tgt := 92) hx hb zd_LassoSearch_measureStems_53 (by decide) (fun hc3 => ?_) (fun hc3 => ?_)
  · have hok := hok.1 hc3
    obtain ⟨z4, ez4⟩ : ∃ z : Int32, z = (x1 + 1) := ⟨_, rfl⟩
    have hok := hok z4 ez4
    refine lv_iinc (v := z4) hx hb zd_LassoSearch_measureStems_92 hl (k := 1) rfl ez4.symm (by decide) rfl (fun ls hl => ?_)
    have hl : lv_has ls 5 [(1, .int z4), (0, .ref (ad 65)), (2, .int x2), (3, .int x3), (4, .int x4)] := hl
    refine lv_goto (tgt := 2) hx hb zd_LassoSearch_measureStems_95 (by decide) ?_
    exact kh2 z4 I J B D ls H locs hok (lv_sub hl [1, 0] rfl) hw
  · have hok := hok.2 hc3
    refine lv_aload_n hx hb zd_LassoSearch_measureStems_56 rfl (lv_at hl 0 rfl) ?_
    refine lv_aload_n hx hb zd_LassoSearch_measureStems_57 rfl (lv_at hl 0 rfl) ?_
    refine lv_aload_n hx hb zd_LassoSearch_measureStems_58 rfl (lv_at hl 0 rfl) ?_
    refine z_get (v := .ref (ad 8)) hx hb hts hown hK hw zZ3 0 wS_g0 0 (by decide) zn_822 rfl zd_LassoSearch_measureStems_59 ?_
    refine z_get (v := .ref (ad 53)) hx hb hts hown hK hw zZ2 20 wS_g20 8 (by decide) zn_831 rfl zd_LassoSearch_measureStems_62 ?_
    refine lv_iload hx hb zd_LassoSearch_measureStems_65 (lv_at hl 4 rfl) ?_
    refine va_iald (f := (B 38)) hx hb hK hw.1 65 0 wS_a65 rfl hok.1 zd_LassoSearch_measureStems_67 ?_
    have hok := hok.2
    refine lv_topi (fun z5 ez5 => ?_)
    have hok := hok z5 ez5
    refine lv_iload_n hx hb zd_LassoSearch_measureStems_68 rfl (lv_at hl 2 rfl) ?_
    refine lv_bipush (v := 8) hx hb zd_LassoSearch_measureStems_69 (by decide) ?_
    refine lv_irem hx hb zd_LassoSearch_measureStems_71 (by decide) ?_
    refine lv_topi (fun z6 ez6 => ?_)
    have hok := hok z6 ez6
    refine z_calli (w1 := fun (u : zS) => wS ad K u.1 u.2.1 u.2.2.1 u.2.2.2) (wr := []) (z_runV (q0 := 0) (wc := (wS ad K I J B D)) (As := [.int z5, .int z6]) (rest := [.ref (ad 65)]) ⟨hx, hb, hml, hown, hts⟩ (w_LassoSearch_spotBefore l G K ad I J B D z5 z6 _ H.size hok) zf_LassoSearch_spotBefore zn_553 ⟨Nat.le_of_ble_eq_true rfl, Nat.le_of_ble_eq_true rfl⟩ hK hw (List.range 77) wS_all wS_nd wS_g0 rfl rfl hl.1 rfl (Nat.le_of_ble_eq_true rfl) zd_LassoSearch_measureStems_72 ⟨Nat.le_of_ble_eq_true rfl, Nat.le_of_ble_eq_true rfl⟩) hw hA (List.range 77) [] wS_all rfl (by decide) (fun i hi => by cases hi) (fun r7 u H locs hok hw => ?_)
    obtain ⟨I7, J7, B7, D7⟩ := u
    dsimp only at hok
    have hw : zW G A s.heap (wS ad K I7 J7 B7 D7) H locs := hw
    refine lv_aload_n hx hb zd_LassoSearch_measureStems_75 rfl (lv_at hl 0 rfl) ?_
    refine z_get (v := .ref (ad 72)) hx hb hts hown hK hw zZ3 0 wS_g0 11 (by decide) zn_809 rfl zd_LassoSearch_measureStems_76 ?_
    refine lv_iload_n hx hb zd_LassoSearch_measureStems_79 rfl (lv_at hl 2 rfl) ?_
    refine va_iald (f := (B7 56)) hx hb hK hw.1 7 0 wS_a7 rfl hok.1 zd_LassoSearch_measureStems_80 ?_
    have hok := hok.2
    refine lv_topi (fun z8 ez8 => ?_)
    have hok := hok z8 ez8
    refine lv_iconst (v := 1) hx hb zd_LassoSearch_measureStems_81 (by decide) ?_
    refine lv_iadd hx hb zd_LassoSearch_measureStems_82 ?_
    refine lv_topi (fun z9 ez9 => ?_)
    have hok := hok z9 ez9
    refine z_callv (w1 := fun (u : zS) => wS ad K u.1 u.2.1 u.2.2.1 u.2.2.2) (wr := []) (z_runV (q0 := 0) (wc := (wS ad K I7 J7 B7 D7)) (As := [.int r7, .int z9]) (rest := []) ⟨hx, hb, hml, hown, hts⟩ (w_LassoSearch_reach l G K ad I7 J7 B7 D7 r7 z9 _ H.size hok) zf_LassoSearch_reach zn_554 ⟨Nat.le_of_ble_eq_true rfl, Nat.le_of_ble_eq_true rfl⟩ hK hw (List.range 77) wS_all wS_nd wS_g0 rfl rfl hl.1 rfl (Nat.le_of_ble_eq_true rfl) zd_LassoSearch_measureStems_83 ⟨Nat.le_of_ble_eq_true rfl, Nat.le_of_ble_eq_true rfl⟩) hw hA (List.range 77) [] wS_all rfl (by decide) (fun i hi => by cases hi) (fun u H locs hok hw => ?_)
    obtain ⟨I10, J10, B10, D10⟩ := u
    dsimp only at hok
    have hw : zW G A s.heap (wS ad K I10 J10 B10 D10) H locs := hw
    obtain ⟨z11, ez11⟩ : ∃ z : Int32, z = (x4 + 1) := ⟨_, rfl⟩
    have hok := hok z11 ez11
    refine lv_iinc (v := z11) hx hb zd_LassoSearch_measureStems_86 hl (k := 4) rfl ez11.symm (by decide) rfl (fun ls hl => ?_)
    have hl : lv_has ls 5 [(4, .int z11), (0, .ref (ad 65)), (1, .int x1), (2, .int x2), (3, .int x3)] := hl
    refine lv_goto (tgt := 40) hx hb zd_LassoSearch_measureStems_89 (by decide) ?_
    exact kh40 x1 x2 x3 z11 I10 J10 B10 D10 ls H locs hok (lv_sub hl [1, 2, 3, 4, 0] rfl) hw
theorem wL_LassoSearch_measureStems_40 {p : Program} {l : Launch} {e : Env} {s : State} {m : MethodId} {below : List Frame} {meth : Method} {c : Code} {A : Nat → Prop} (G : va_G) (K : Nat → ClassId) (ad : Nat → Nat) (Post : (Nat → Int32) → (Nat → Int64) → (Nat → Nat → Int32) → (Nat → Nat → Int64) → Prop) (C : zCx p s m ([.ref (ad 65)] : List Value).toArray meth c A G K prog_4_method_12_code none 5 "LassoFinder$LassoSearch") (K2 : Int32 → (Nat → Int32) → (Nat → Int64) → (Nat → Nat → Int32) → (Nat → Nat → Int64) → Prop) (kh2 : ∀ (x1 : Int32) (I : Nat → Int32) (J : Nat → Int64) (B : Nat → Nat → Int32) (D : Nat → Nat → Int64) (ls : Array Slot) (H : Heap) (locs : List Loc), K2 x1 I J B D → lv_has ls 5 [(0, .ref (ad 65)), (1, .int x1)] → zW G A s.heap (wS ad K I J B D) H locs → W p l e { frames := 1, cells := 0, slots := 0, locals := 22 } s m ([.ref (ad 65)] : List Value).toArray below meth c H locs 0 0 (MQ below (va_Qv (fun u : zS => Post u.1 u.2.1 u.2.2.1 u.2.2.2) (fun u t => zPost G K A (wS ad K u.1 u.2.1 u.2.2.1 u.2.2.2) t) A) ([.ref (ad 65)] : List Value).toArray s 0 0 A) (F0 m 2 ls [])) : ∀ (n : Nat) (x1 : Int32) (x2 : Int32) (x3 : Int32) (x4 : Int32) (I : Nat → Int32) (J : Nat → Int64) (B : Nat → Nat → Int32) (D : Nat → Nat → Int64) (ls : Array Slot) (H : Heap) (locs : List Loc), wl_LassoSearch_measureStems_40  K2 Post n x1 x2 x3 x4 I J B D → lv_has ls 5 [(0, .ref (ad 65)), (1, .int x1), (2, .int x2), (3, .int x3), (4, .int x4)] → zW G A s.heap (wS ad K I J B D) H locs → W p l e { frames := 1, cells := 0, slots := 0, locals := 22 } s m ([.ref (ad 65)] : List Value).toArray below meth c H locs 0 0 (MQ below (va_Qv (fun u : zS => Post u.1 u.2.1 u.2.2.1 u.2.2.2) (fun u t => zPost G K A (wS ad K u.1 u.2.1 u.2.2.1 u.2.2.2) t) A) ([.ref (ad 65)] : List Value).toArray s 0 0 A) (F0 m 40 ls []) := by
  intro n
  induction n with
  | zero => intro x1 x2 x3 x4 I J B D ls H locs hok; exact hok.elim
  | succ n ih => exact wB_LassoSearch_measureStems_40 G K ad  Post C K2 kh2 (wl_LassoSearch_measureStems_40  K2 Post n) ih
set_option maxHeartbeats 8000000 in
set_option maxRecDepth 100000 in
theorem wB_LassoSearch_measureStems_2 {p : Program} {l : Launch} {e : Env} {s : State} {m : MethodId} {below : List Frame} {meth : Method} {c : Code} {A : Nat → Prop} (G : va_G) (K : Nat → ClassId) (ad : Nat → Nat) (Post : (Nat → Int32) → (Nat → Int64) → (Nat → Nat → Int32) → (Nat → Nat → Int64) → Prop) (C : zCx p s m ([.ref (ad 65)] : List Value).toArray meth c A G K prog_4_method_12_code none 5 "LassoFinder$LassoSearch") (K2 : Int32 → (Nat → Int32) → (Nat → Int64) → (Nat → Nat → Int32) → (Nat → Nat → Int64) → Prop) (kh2 : ∀ (x1 : Int32) (I : Nat → Int32) (J : Nat → Int64) (B : Nat → Nat → Int32) (D : Nat → Nat → Int64) (ls : Array Slot) (H : Heap) (locs : List Loc), K2 x1 I J B D → lv_has ls 5 [(0, .ref (ad 65)), (1, .int x1)] → zW G A s.heap (wS ad K I J B D) H locs → W p l e { frames := 1, cells := 0, slots := 0, locals := 22 } s m ([.ref (ad 65)] : List Value).toArray below meth c H locs 0 0 (MQ below (va_Qv (fun u : zS => Post u.1 u.2.1 u.2.2.1 u.2.2.2) (fun u t => zPost G K A (wS ad K u.1 u.2.1 u.2.2.1 u.2.2.2) t) A) ([.ref (ad 65)] : List Value).toArray s 0 0 A) (F0 m 2 ls [])) : ∀ (x1 : Int32) (I : Nat → Int32) (J : Nat → Int64) (B : Nat → Nat → Int32) (D : Nat → Nat → Int64) (ls : Array Slot) (H : Heap) (locs : List Loc), wb_LassoSearch_measureStems_2  K2 Post x1 I J B D → lv_has ls 5 [(0, .ref (ad 65)), (1, .int x1)] → zW G A s.heap (wS ad K I J B D) H locs → W p l e { frames := 1, cells := 0, slots := 0, locals := 22 } s m ([.ref (ad 65)] : List Value).toArray below meth c H locs 0 0 (MQ below (va_Qv (fun u : zS => Post u.1 u.2.1 u.2.2.1 u.2.2.2) (fun u t => zPost G K A (wS ad K u.1 u.2.1 u.2.2.1 u.2.2.2) t) A) ([.ref (ad 65)] : List Value).toArray s 0 0 A) (F0 m 2 ls []) := by
  obtain ⟨hx, hb, hr, hml, hts, hown, hlocks, hA, hK⟩ := id C
  intro x1 I J B D ls H locs hok hl hw
  unfold wb_LassoSearch_measureStems_2 at hok
  refine lv_iload_n hx hb zd_LassoSearch_measureStems_2 rfl (lv_at hl 1 rfl) ?_
  refine lv_sipush (v := 768) hx hb zd_LassoSearch_measureStems_3 (by decide) ?_
  refine lv_icmp_ge (tgt := 98) hx hb zd_LassoSearch_measureStems_6 (by decide) (fun hc12 => ?_) (fun hc12 => ?_)
  · have hok := hok.1 hc12
    exact wJ_LassoSearch_measureStems_98 G K ad  Post C I J B D ls H locs hok (lv_sub hl [] rfl) hw
  · have hok := hok.2 hc12
    refine lv_iload_n hx hb zd_LassoSearch_measureStems_9 rfl (lv_at hl 1 rfl) ?_
    refine lv_aload_n hx hb zd_LassoSearch_measureStems_10 rfl (lv_at hl 0 rfl) ?_
    refine z_get (v := .int (I 35)) hx hb hts hown hK hw zZ3 0 wS_g0 13 (by decide) zn_829 rfl zd_LassoSearch_measureStems_11 ?_
    refine lv_icmp_ge (tgt := 98) hx hb zd_LassoSearch_measureStems_14 (by decide) (fun hc13 => ?_) (fun hc13 => ?_)
    · have hok := hok.1 hc13
      exact wJ_LassoSearch_measureStems_98 G K ad  Post C I J B D ls H locs hok (lv_sub hl [] rfl) hw
    · have hok := hok.2 hc13
      refine lv_aload_n hx hb zd_LassoSearch_measureStems_17 rfl (lv_at hl 0 rfl) ?_
      refine z_get (v := .ref (ad 73)) hx hb hts hown hK hw zZ3 0 wS_g0 12 (by decide) zn_810 rfl zd_LassoSearch_measureStems_18 ?_
      refine lv_iload_n hx hb zd_LassoSearch_measureStems_21 rfl (lv_at hl 1 rfl) ?_
      refine va_iald (f := (B 57)) hx hb hK hw.1 8 0 wS_a8 rfl hok.1 zd_LassoSearch_measureStems_22 ?_
      have hok := hok.2
      refine lv_topi (fun z14 ez14 => ?_)
      have hok := hok z14 ez14
      refine lv_istore_n hx hb zd_LassoSearch_measureStems_23 rfl hl (by decide) rfl (fun ls hl => ?_)
      have hl : lv_has ls 5 [(2, .int z14), (0, .ref (ad 65)), (1, .int x1)] := hl
      refine lv_iload_n hx hb zd_LassoSearch_measureStems_24 rfl (lv_at hl 0 rfl) ?_
      refine lv_bipush (v := 8) hx hb zd_LassoSearch_measureStems_25 (by decide) ?_
      refine lv_idiv hx hb zd_LassoSearch_measureStems_27 (by decide) ?_
      refine lv_topi (fun z15 ez15 => ?_)
      have hok := hok z15 ez15
      refine lv_istore_n hx hb zd_LassoSearch_measureStems_28 rfl hl (by decide) rfl (fun ls hl => ?_)
      have hl : lv_has ls 5 [(3, .int z15), (2, .int z14), (0, .ref (ad 65)), (1, .int x1)] := hl
      refine lv_aload_n hx hb zd_LassoSearch_measureStems_29 rfl (lv_at hl 2 rfl) ?_
      refine z_get (v := .ref (ad 8)) hx hb hts hown hK hw zZ3 0 wS_g0 0 (by decide) zn_822 rfl zd_LassoSearch_measureStems_30 ?_
      refine z_get (v := .ref (ad 52)) hx hb hts hown hK hw zZ2 20 wS_g20 7 (by decide) zn_830 rfl zd_LassoSearch_measureStems_33 ?_
      refine lv_iload_n hx hb zd_LassoSearch_measureStems_36 rfl (lv_at hl 0 rfl) ?_
      refine va_iald (f := (B 37)) hx hb hK hw.1 64 0 wS_a64 rfl hok.1 zd_LassoSearch_measureStems_37 ?_
      have hok := hok.2
      refine lv_topi (fun z16 ez16 => ?_)
      have hok := hok z16 ez16
      refine lv_istore hx hb zd_LassoSearch_measureStems_38 hl (by decide) rfl (fun ls hl => ?_)
      have hl : lv_has ls 5 [(4, .int z16), (3, .int z15), (2, .int z14), (0, .ref (ad 65)), (1, .int x1)] := hl
      obtain ⟨n9, hok⟩ := hok
      exact wL_LassoSearch_measureStems_40 G K ad  Post C K2 kh2 n9 x1 z14 z15 z16 I J B D ls H locs hok (lv_sub hl [3, 4, 2, 1, 0] rfl) hw
theorem wL_LassoSearch_measureStems_2 {p : Program} {l : Launch} {e : Env} {s : State} {m : MethodId} {below : List Frame} {meth : Method} {c : Code} {A : Nat → Prop} (G : va_G) (K : Nat → ClassId) (ad : Nat → Nat) (Post : (Nat → Int32) → (Nat → Int64) → (Nat → Nat → Int32) → (Nat → Nat → Int64) → Prop) (C : zCx p s m ([.ref (ad 65)] : List Value).toArray meth c A G K prog_4_method_12_code none 5 "LassoFinder$LassoSearch") : ∀ (n : Nat) (x1 : Int32) (I : Nat → Int32) (J : Nat → Int64) (B : Nat → Nat → Int32) (D : Nat → Nat → Int64) (ls : Array Slot) (H : Heap) (locs : List Loc), wl_LassoSearch_measureStems_2  Post n x1 I J B D → lv_has ls 5 [(0, .ref (ad 65)), (1, .int x1)] → zW G A s.heap (wS ad K I J B D) H locs → W p l e { frames := 1, cells := 0, slots := 0, locals := 22 } s m ([.ref (ad 65)] : List Value).toArray below meth c H locs 0 0 (MQ below (va_Qv (fun u : zS => Post u.1 u.2.1 u.2.2.1 u.2.2.2) (fun u t => zPost G K A (wS ad K u.1 u.2.1 u.2.2.1 u.2.2.2) t) A) ([.ref (ad 65)] : List Value).toArray s 0 0 A) (F0 m 2 ls []) := by
  intro n
  induction n with
  | zero => intro x1 I J B D ls H locs hok; exact hok.elim
  | succ n ih => exact wB_LassoSearch_measureStems_2 G K ad  Post C (wl_LassoSearch_measureStems_2  Post n) ih
set_option maxHeartbeats 8000000 in
set_option maxRecDepth 100000 in
theorem w_LassoSearch_measureStems (l : Launch) (G : va_G) (K : Nat → ClassId) (ad : Nat → Nat) (I : Nat → Int32) (J : Nat → Int64) (B : Nat → Nat → Int32) (D : Nat → Nat → Int64) (Post : (Nat → Int32) → (Nat → Int64) → (Nat → Nat → Int32) → (Nat → Nat → Int64) → Prop) (sz : Nat) (hok : wp_LassoSearch_measureStems I J B D  Post) : Met l zy_LassoSearch_measureStems (Cond.code zy_LassoSearch_measureStems prog_4_method_12_code 5 none :: zTB) { frames := 1, cells := 0, slots := 0, locals := 22 } (va_Pc [.ref (ad 65)] (zPre G K (wS ad K I J B D) sz)) (va_Qv (fun u : zS => Post u.1 u.2.1 u.2.2.1 u.2.2.2) (fun u t => zPost G K (va_A (wS ad K I J B D) sz) (wS ad K u.1 u.2.1 u.2.2.1 u.2.2.2) t) (va_A (wS ad K I J B D) sz)) 0 0 (va_A (wS ad K I J B D) sz) := by
  refine zMet (y := zy_LassoSearch_measureStems) (av := [.ref (ad 65)]) (maxL := 5) (cc := prog_4_method_12_code) (ret := none) (W0 := (wS ad K I J B D)) (sz := sz) (G := G) (K := K) (wt := zTB) (mc := 0) (ms := 0) (Qf := fun A => va_Qv (fun u : zS => Post u.1 u.2.1 u.2.2.1 u.2.2.2) (fun u t => zPost G K A (wS ad K u.1 u.2.1 u.2.2.1 u.2.2.2) t) A) (by decide) (Nat.le_of_ble_eq_true rfl) ?_
  intro p e s m below meth c ls A hx hb hr hml hts hown hlocks hin hA hK H locs hw hsz hl
  clear hsz
  have hown : s.vm.findClass "LassoFinder$LassoSearch" = some m.cls := hown
  have C : zCx p s m ([.ref (ad 65)] : List Value).toArray meth c A G K prog_4_method_12_code none 5 "LassoFinder$LassoSearch" := ⟨hx, hb, hr, hml, hts, hown, hlocks, hA, hK⟩
  have hl : lv_has ls 5 [(0, .ref (ad 65))] := hl
  have hw : zW G A s.heap (wS ad K I J B D) H locs := hw
  unfold wp_LassoSearch_measureStems at hok
  refine lv_iconst (v := 0) hx hb zd_LassoSearch_measureStems_0 (by decide) ?_
  refine lv_istore_n hx hb zd_LassoSearch_measureStems_1 rfl hl (by decide) rfl (fun ls hl => ?_)
  have hl : lv_has ls 5 [(1, .int 0), (0, .ref (ad 65))] := hl
  obtain ⟨n9, hok⟩ := hok
  exact wL_LassoSearch_measureStems_2 G K ad  Post C n9 0 I J B D ls H locs hok (lv_sub hl [1, 0] rfl) hw
