abbrev zy_Formula_readAtom : MethodName := ⟨"LassoFinder$Formula", "readAtom", "()I"⟩
abbrev zy_Truths_atomHolds : MethodName := ⟨"LassoFinder$Truths", "atomHolds", "(I)Z"⟩
abbrev zy_Truths_joined : MethodName := ⟨"LassoFinder$Truths", "joined", "(I)I"⟩
abbrev zy_Truths_carried : MethodName := ⟨"LassoFinder$Truths", "carried", "(II)I"⟩
theorem zn_488 : Cond.methodLink "LassoFinder$Formula" 74 ⟨"LassoFinder$Text", "ahead", "()C"⟩ ∈ zTB := z_in (zt_5 _ (List.mem_of_getElem? (i := 36) rfl)) rfl
theorem zn_496 : Cond.methodLink "LassoFinder$Formula" 112 ⟨"LassoFinder$Text", "expect", "(C)V"⟩ ∈ zTB := z_in (zt_5 _ (List.mem_of_getElem? (i := 59) rfl)) rfl
theorem zn_498 : Cond.methodLink "LassoFinder$Formula" 116 ⟨"LassoFinder$Terms", "read", "(I)I"⟩ ∈ zTB := z_in (zt_5 _ (List.mem_of_getElem? (i := 64) rfl)) rfl
theorem zn_499 : Cond.methodLink "LassoFinder$Formula" 119 ⟨"LassoFinder$Text", "oneOf", "(C)I"⟩ ∈ zTB := z_in (zt_5 _ (List.mem_of_getElem? (i := 65) rfl)) rfl
theorem zn_509 : Cond.methodLink "LassoFinder$Truths" 112 ⟨"LassoFinder$Terms", "reckon", "(I[I)I"⟩ ∈ zTB := z_in (zt_5 _ (List.mem_of_getElem? (i := 94) rfl)) rfl
theorem zn_517 : Cond.fieldLink "LassoFinder$Formula" 24 "LassoFinder$Formula" "terms" "LLassoFinder$Terms;" ∈ zTB := z_in (zt_2 _ (List.mem_of_getElem? (i := 140) rfl)) rfl
theorem zn_522 : Cond.fieldLink "LassoFinder$Formula" 56 "LassoFinder$Formula" "atoms" "I" ∈ zTB := z_in (zt_2 _ (List.mem_of_getElem? (i := 156) rfl)) rfl
theorem zn_523 : Cond.fieldLink "LassoFinder$Formula" 15 "LassoFinder$Formula" "program" "LLassoFinder$Program;" ∈ zTB := z_in (zt_2 _ (List.mem_of_getElem? (i := 139) rfl)) rfl
theorem zn_524 : Cond.fieldLink "LassoFinder$Formula" 122 "LassoFinder$Program" "processes" "I" ∈ zTB := z_in (zt_1 _ (List.mem_of_getElem? (i := 126) rfl)) rfl
theorem zn_525 : Cond.fieldLink "LassoFinder$Formula" 127 "LassoFinder$Program" "labelPoint" "[I" ∈ zTB := z_in (zt_1 _ (List.mem_of_getElem? (i := 115) rfl)) rfl
theorem zn_526 : Cond.fieldLink "LassoFinder$Truths" 17 "LassoFinder$Truths" "formula" "LLassoFinder$Formula;" ∈ zTB := z_in (zt_2 _ (List.mem_of_getElem? (i := 188) rfl)) rfl
theorem zn_528 : Cond.fieldLink "LassoFinder$Truths" 51 "LassoFinder$Formula" "kinds" "[I" ∈ zTB := z_in (zt_2 _ (List.mem_of_getElem? (i := 143) rfl)) rfl
theorem zn_533 : Cond.fieldLink "LassoFinder$Truths" 13 "LassoFinder$Truths" "situation" "LLassoFinder$Situation;" ∈ zTB := z_in (zt_2 _ (List.mem_of_getElem? (i := 187) rfl)) rfl
theorem zn_537 : Cond.fieldLink "LassoFinder$Truths" 102 "LassoFinder$Formula" "left" "[I" ∈ zTB := z_in (zt_2 _ (List.mem_of_getElem? (i := 145) rfl)) rfl
theorem zn_538 : Cond.fieldLink "LassoFinder$Truths" 121 "LassoFinder$Formula" "right" "[I" ∈ zTB := z_in (zt_2 _ (List.mem_of_getElem? (i := 147) rfl)) rfl
theorem zn_539 : Cond.fieldLink "LassoFinder$Truths" 105 "LassoFinder$Formula" "terms" "LLassoFinder$Terms;" ∈ zTB := z_in (zt_2 _ (List.mem_of_getElem? (i := 141) rfl)) rfl
theorem zn_540 : Cond.fieldLink "LassoFinder$Truths" 109 "LassoFinder$Situation" "amounts" "[I" ∈ zTB := z_in (zt_2 _ (List.mem_of_getElem? (i := 48) rfl)) rfl
theorem zn_541 : Cond.fieldLink "LassoFinder$Truths" 118 "LassoFinder$Situation" "points" "[I" ∈ zTB := z_in (zt_2 _ (List.mem_of_getElem? (i := 52) rfl)) rfl
theorem zd_Formula_readAtom_0 : decode prog_2_method_9_code 0 = .ok (.aload_n 0, 1) := by decide +kernel
theorem zd_Formula_readAtom_1 : decode prog_2_method_9_code 1 = .ok (.getfield 9, 3) := by decide +kernel
theorem zd_Formula_readAtom_4 : decode prog_2_method_9_code 4 = .ok (.invokevirtual 74, 3) := by decide +kernel
theorem zd_Formula_readAtom_7 : decode prog_2_method_9_code 7 = .ok (.bipush 123, 2) := by decide +kernel
theorem zd_Formula_readAtom_9 : decode prog_2_method_9_code 9 = .ok (.if_icmp .ne 7, 3) := by decide +kernel
theorem zd_Formula_readAtom_12 : decode prog_2_method_9_code 12 = .ok (.iconst 1, 1) := by decide +kernel
theorem zd_Formula_readAtom_13 : decode prog_2_method_9_code 13 = .ok (.goto 4, 3) := by decide +kernel
theorem zd_Formula_readAtom_16 : decode prog_2_method_9_code 16 = .ok (.iconst 0, 1) := by decide +kernel
theorem zd_Formula_readAtom_17 : decode prog_2_method_9_code 17 = .ok (.istore_n 1, 1) := by decide +kernel
theorem zd_Formula_readAtom_18 : decode prog_2_method_9_code 18 = .ok (.aload_n 0, 1) := by decide +kernel
theorem zd_Formula_readAtom_19 : decode prog_2_method_9_code 19 = .ok (.getfield 56, 3) := by decide +kernel
theorem zd_Formula_readAtom_22 : decode prog_2_method_9_code 22 = .ok (.bipush 8, 2) := by decide +kernel
theorem zd_Formula_readAtom_24 : decode prog_2_method_9_code 24 = .ok (.if_icmp .eq 19, 3) := by decide +kernel
theorem zd_Formula_readAtom_27 : decode prog_2_method_9_code 27 = .ok (.iload_n 1, 1) := by decide +kernel
theorem zd_Formula_readAtom_28 : decode prog_2_method_9_code 28 = .ok (.ifCond .ne 22, 3) := by decide +kernel
theorem zd_Formula_readAtom_31 : decode prog_2_method_9_code 31 = .ok (.aload_n 0, 1) := by decide +kernel
theorem zd_Formula_readAtom_32 : decode prog_2_method_9_code 32 = .ok (.getfield 9, 3) := by decide +kernel
theorem zd_Formula_readAtom_35 : decode prog_2_method_9_code 35 = .ok (.invokevirtual 74, 3) := by decide +kernel
theorem zd_Formula_readAtom_38 : decode prog_2_method_9_code 38 = .ok (.bipush 64, 2) := by decide +kernel
theorem zd_Formula_readAtom_40 : decode prog_2_method_9_code 40 = .ok (.if_icmp .eq 10, 3) := by decide +kernel
theorem zd_Formula_readAtom_43 : decode prog_2_method_9_code 43 = .ok (.aload_n 0, 1) := by decide +kernel
theorem zd_Formula_readAtom_44 : decode prog_2_method_9_code 44 = .ok (.getfield 9, 3) := by decide +kernel
theorem zd_Formula_readAtom_47 : decode prog_2_method_9_code 47 = .ok (.invokevirtual 67, 3) := by decide +kernel
theorem zd_Formula_readAtom_50 : decode prog_2_method_9_code 50 = .ok (.aload_n 0, 1) := by decide +kernel
theorem zd_Formula_readAtom_51 : decode prog_2_method_9_code 51 = .ok (.dup, 1) := by decide +kernel
theorem zd_Formula_readAtom_52 : decode prog_2_method_9_code 52 = .ok (.getfield 56, 3) := by decide +kernel
theorem zd_Formula_readAtom_55 : decode prog_2_method_9_code 55 = .ok (.iconst 1, 1) := by decide +kernel
theorem zd_Formula_readAtom_56 : decode prog_2_method_9_code 56 = .ok (.iadd, 1) := by decide +kernel
theorem zd_Formula_readAtom_57 : decode prog_2_method_9_code 57 = .ok (.putfield 56, 3) := by decide +kernel
theorem zd_Formula_readAtom_60 : decode prog_2_method_9_code 60 = .ok (.aload_n 0, 1) := by decide +kernel
theorem zd_Formula_readAtom_61 : decode prog_2_method_9_code 61 = .ok (.getfield 9, 3) := by decide +kernel
theorem zd_Formula_readAtom_64 : decode prog_2_method_9_code 64 = .ok (.invokevirtual 102, 3) := by decide +kernel
theorem zd_Formula_readAtom_67 : decode prog_2_method_9_code 67 = .ok (.iload_n 1, 1) := by decide +kernel
theorem zd_Formula_readAtom_68 : decode prog_2_method_9_code 68 = .ok (.ifCond .eq 30, 3) := by decide +kernel
theorem zd_Formula_readAtom_71 : decode prog_2_method_9_code 71 = .ok (.aload_n 0, 1) := by decide +kernel
theorem zd_Formula_readAtom_72 : decode prog_2_method_9_code 72 = .ok (.getfield 24, 3) := by decide +kernel
theorem zd_Formula_readAtom_75 : decode prog_2_method_9_code 75 = .ok (.iconst 0, 1) := by decide +kernel
theorem zd_Formula_readAtom_76 : decode prog_2_method_9_code 76 = .ok (.invokevirtual 116, 3) := by decide +kernel
theorem zd_Formula_readAtom_79 : decode prog_2_method_9_code 79 = .ok (.istore_n 2, 1) := by decide +kernel
theorem zd_Formula_readAtom_80 : decode prog_2_method_9_code 80 = .ok (.aload_n 0, 1) := by decide +kernel
theorem zd_Formula_readAtom_81 : decode prog_2_method_9_code 81 = .ok (.getfield 9, 3) := by decide +kernel
theorem zd_Formula_readAtom_84 : decode prog_2_method_9_code 84 = .ok (.bipush 125, 2) := by decide +kernel
theorem zd_Formula_readAtom_86 : decode prog_2_method_9_code 86 = .ok (.invokevirtual 112, 3) := by decide +kernel
theorem zd_Formula_readAtom_89 : decode prog_2_method_9_code 89 = .ok (.aload_n 0, 1) := by decide +kernel
theorem zd_Formula_readAtom_90 : decode prog_2_method_9_code 90 = .ok (.bipush 8, 2) := by decide +kernel
theorem zd_Formula_readAtom_92 : decode prog_2_method_9_code 92 = .ok (.iload_n 2, 1) := by decide +kernel
theorem zd_Formula_readAtom_93 : decode prog_2_method_9_code 93 = .ok (.iconst (-1), 1) := by decide +kernel
theorem zd_Formula_readAtom_94 : decode prog_2_method_9_code 94 = .ok (.invokevirtual 93, 3) := by decide +kernel
theorem zd_Formula_readAtom_97 : decode prog_2_method_9_code 97 = .ok (.ireturn, 1) := by decide +kernel
theorem zd_Formula_readAtom_98 : decode prog_2_method_9_code 98 = .ok (.aload_n 0, 1) := by decide +kernel
theorem zd_Formula_readAtom_99 : decode prog_2_method_9_code 99 = .ok (.getfield 9, 3) := by decide +kernel
theorem zd_Formula_readAtom_102 : decode prog_2_method_9_code 102 = .ok (.bipush 48, 2) := by decide +kernel
theorem zd_Formula_readAtom_104 : decode prog_2_method_9_code 104 = .ok (.invokevirtual 119, 3) := by decide +kernel
theorem zd_Formula_readAtom_107 : decode prog_2_method_9_code 107 = .ok (.istore_n 2, 1) := by decide +kernel
theorem zd_Formula_readAtom_108 : decode prog_2_method_9_code 108 = .ok (.iload_n 2, 1) := by decide +kernel
theorem zd_Formula_readAtom_109 : decode prog_2_method_9_code 109 = .ok (.iconst (-1), 1) := by decide +kernel
theorem zd_Formula_readAtom_110 : decode prog_2_method_9_code 110 = .ok (.if_icmp .eq 14, 3) := by decide +kernel
theorem zd_Formula_readAtom_113 : decode prog_2_method_9_code 113 = .ok (.iload_n 2, 1) := by decide +kernel
theorem zd_Formula_readAtom_114 : decode prog_2_method_9_code 114 = .ok (.aload_n 0, 1) := by decide +kernel
theorem zd_Formula_readAtom_115 : decode prog_2_method_9_code 115 = .ok (.getfield 15, 3) := by decide +kernel
theorem zd_Formula_readAtom_118 : decode prog_2_method_9_code 118 = .ok (.getfield 122, 3) := by decide +kernel
theorem zd_Formula_readAtom_121 : decode prog_2_method_9_code 121 = .ok (.if_icmp .lt 10, 3) := by decide +kernel
theorem zd_Formula_readAtom_124 : decode prog_2_method_9_code 124 = .ok (.aload_n 0, 1) := by decide +kernel
theorem zd_Formula_readAtom_125 : decode prog_2_method_9_code 125 = .ok (.getfield 9, 3) := by decide +kernel
theorem zd_Formula_readAtom_128 : decode prog_2_method_9_code 128 = .ok (.invokevirtual 67, 3) := by decide +kernel
theorem zd_Formula_readAtom_131 : decode prog_2_method_9_code 131 = .ok (.aload_n 0, 1) := by decide +kernel
theorem zd_Formula_readAtom_132 : decode prog_2_method_9_code 132 = .ok (.getfield 9, 3) := by decide +kernel
theorem zd_Formula_readAtom_135 : decode prog_2_method_9_code 135 = .ok (.invokevirtual 102, 3) := by decide +kernel
theorem zd_Formula_readAtom_138 : decode prog_2_method_9_code 138 = .ok (.aload_n 0, 1) := by decide +kernel
theorem zd_Formula_readAtom_139 : decode prog_2_method_9_code 139 = .ok (.getfield 9, 3) := by decide +kernel
theorem zd_Formula_readAtom_142 : decode prog_2_method_9_code 142 = .ok (.bipush 65, 2) := by decide +kernel
theorem zd_Formula_readAtom_144 : decode prog_2_method_9_code 144 = .ok (.invokevirtual 119, 3) := by decide +kernel
theorem zd_Formula_readAtom_147 : decode prog_2_method_9_code 147 = .ok (.istore_n 3, 1) := by decide +kernel
theorem zd_Formula_readAtom_148 : decode prog_2_method_9_code 148 = .ok (.iload_n 3, 1) := by decide +kernel
theorem zd_Formula_readAtom_149 : decode prog_2_method_9_code 149 = .ok (.iconst (-1), 1) := by decide +kernel
theorem zd_Formula_readAtom_150 : decode prog_2_method_9_code 150 = .ok (.if_icmp .ne 7, 3) := by decide +kernel
theorem zd_Formula_readAtom_153 : decode prog_2_method_9_code 153 = .ok (.iconst (-1), 1) := by decide +kernel
theorem zd_Formula_readAtom_154 : decode prog_2_method_9_code 154 = .ok (.goto 17, 3) := by decide +kernel
theorem zd_Formula_readAtom_157 : decode prog_2_method_9_code 157 = .ok (.aload_n 0, 1) := by decide +kernel
theorem zd_Formula_readAtom_158 : decode prog_2_method_9_code 158 = .ok (.getfield 15, 3) := by decide +kernel
theorem zd_Formula_readAtom_161 : decode prog_2_method_9_code 161 = .ok (.getfield 127, 3) := by decide +kernel
theorem zd_Formula_readAtom_164 : decode prog_2_method_9_code 164 = .ok (.iload_n 2, 1) := by decide +kernel
theorem zd_Formula_readAtom_165 : decode prog_2_method_9_code 165 = .ok (.bipush 8, 2) := by decide +kernel
theorem zd_Formula_readAtom_167 : decode prog_2_method_9_code 167 = .ok (.imul, 1) := by decide +kernel
theorem zd_Formula_readAtom_168 : decode prog_2_method_9_code 168 = .ok (.iload_n 3, 1) := by decide +kernel
theorem zd_Formula_readAtom_169 : decode prog_2_method_9_code 169 = .ok (.iadd, 1) := by decide +kernel
theorem zd_Formula_readAtom_170 : decode prog_2_method_9_code 170 = .ok (.iaload, 1) := by decide +kernel
theorem zd_Formula_readAtom_171 : decode prog_2_method_9_code 171 = .ok (.istore 4, 2) := by decide +kernel
theorem zd_Formula_readAtom_173 : decode prog_2_method_9_code 173 = .ok (.iload 4, 2) := by decide +kernel
theorem zd_Formula_readAtom_175 : decode prog_2_method_9_code 175 = .ok (.iconst (-1), 1) := by decide +kernel
theorem zd_Formula_readAtom_176 : decode prog_2_method_9_code 176 = .ok (.if_icmp .ne 10, 3) := by decide +kernel
theorem zd_Formula_readAtom_179 : decode prog_2_method_9_code 179 = .ok (.aload_n 0, 1) := by decide +kernel
theorem zd_Formula_readAtom_180 : decode prog_2_method_9_code 180 = .ok (.getfield 9, 3) := by decide +kernel
theorem zd_Formula_readAtom_183 : decode prog_2_method_9_code 183 = .ok (.invokevirtual 67, 3) := by decide +kernel
theorem zd_Formula_readAtom_186 : decode prog_2_method_9_code 186 = .ok (.aload_n 0, 1) := by decide +kernel
theorem zd_Formula_readAtom_187 : decode prog_2_method_9_code 187 = .ok (.getfield 9, 3) := by decide +kernel
theorem zd_Formula_readAtom_190 : decode prog_2_method_9_code 190 = .ok (.invokevirtual 102, 3) := by decide +kernel
theorem zd_Formula_readAtom_193 : decode prog_2_method_9_code 193 = .ok (.aload_n 0, 1) := by decide +kernel
theorem zd_Formula_readAtom_194 : decode prog_2_method_9_code 194 = .ok (.bipush 9, 2) := by decide +kernel
theorem zd_Formula_readAtom_196 : decode prog_2_method_9_code 196 = .ok (.iload_n 2, 1) := by decide +kernel
theorem zd_Formula_readAtom_197 : decode prog_2_method_9_code 197 = .ok (.iload 4, 2) := by decide +kernel
theorem zd_Formula_readAtom_199 : decode prog_2_method_9_code 199 = .ok (.invokevirtual 93, 3) := by decide +kernel
theorem zd_Formula_readAtom_202 : decode prog_2_method_9_code 202 = .ok (.ireturn, 1) := by decide +kernel
theorem zd_Truths_atomHolds_0 : decode prog_12_method_6_code 0 = .ok (.aload_n 0, 1) := by decide +kernel
theorem zd_Truths_atomHolds_1 : decode prog_12_method_6_code 1 = .ok (.getfield 17, 3) := by decide +kernel
theorem zd_Truths_atomHolds_4 : decode prog_12_method_6_code 4 = .ok (.getfield 102, 3) := by decide +kernel
theorem zd_Truths_atomHolds_7 : decode prog_12_method_6_code 7 = .ok (.iload_n 1, 1) := by decide +kernel
theorem zd_Truths_atomHolds_8 : decode prog_12_method_6_code 8 = .ok (.iaload, 1) := by decide +kernel
theorem zd_Truths_atomHolds_9 : decode prog_12_method_6_code 9 = .ok (.istore_n 2, 1) := by decide +kernel
theorem zd_Truths_atomHolds_10 : decode prog_12_method_6_code 10 = .ok (.aload_n 0, 1) := by decide +kernel
theorem zd_Truths_atomHolds_11 : decode prog_12_method_6_code 11 = .ok (.getfield 17, 3) := by decide +kernel
theorem zd_Truths_atomHolds_14 : decode prog_12_method_6_code 14 = .ok (.getfield 51, 3) := by decide +kernel
theorem zd_Truths_atomHolds_17 : decode prog_12_method_6_code 17 = .ok (.iload_n 1, 1) := by decide +kernel
theorem zd_Truths_atomHolds_18 : decode prog_12_method_6_code 18 = .ok (.iaload, 1) := by decide +kernel
theorem zd_Truths_atomHolds_19 : decode prog_12_method_6_code 19 = .ok (.bipush 8, 2) := by decide +kernel
theorem zd_Truths_atomHolds_21 : decode prog_12_method_6_code 21 = .ok (.if_icmp .ne 30, 3) := by decide +kernel
theorem zd_Truths_atomHolds_24 : decode prog_12_method_6_code 24 = .ok (.aload_n 0, 1) := by decide +kernel
theorem zd_Truths_atomHolds_25 : decode prog_12_method_6_code 25 = .ok (.getfield 17, 3) := by decide +kernel
theorem zd_Truths_atomHolds_28 : decode prog_12_method_6_code 28 = .ok (.getfield 105, 3) := by decide +kernel
theorem zd_Truths_atomHolds_31 : decode prog_12_method_6_code 31 = .ok (.iload_n 2, 1) := by decide +kernel
theorem zd_Truths_atomHolds_32 : decode prog_12_method_6_code 32 = .ok (.aload_n 0, 1) := by decide +kernel
theorem zd_Truths_atomHolds_33 : decode prog_12_method_6_code 33 = .ok (.getfield 13, 3) := by decide +kernel
theorem zd_Truths_atomHolds_36 : decode prog_12_method_6_code 36 = .ok (.getfield 109, 3) := by decide +kernel
theorem zd_Truths_atomHolds_39 : decode prog_12_method_6_code 39 = .ok (.invokevirtual 112, 3) := by decide +kernel
theorem zd_Truths_atomHolds_42 : decode prog_12_method_6_code 42 = .ok (.ifCond .eq 7, 3) := by decide +kernel
theorem zd_Truths_atomHolds_45 : decode prog_12_method_6_code 45 = .ok (.iconst 1, 1) := by decide +kernel
theorem zd_Truths_atomHolds_46 : decode prog_12_method_6_code 46 = .ok (.goto 4, 3) := by decide +kernel
theorem zd_Truths_atomHolds_49 : decode prog_12_method_6_code 49 = .ok (.iconst 0, 1) := by decide +kernel
theorem zd_Truths_atomHolds_50 : decode prog_12_method_6_code 50 = .ok (.ireturn, 1) := by decide +kernel
theorem zd_Truths_atomHolds_51 : decode prog_12_method_6_code 51 = .ok (.aload_n 0, 1) := by decide +kernel
theorem zd_Truths_atomHolds_52 : decode prog_12_method_6_code 52 = .ok (.getfield 13, 3) := by decide +kernel
theorem zd_Truths_atomHolds_55 : decode prog_12_method_6_code 55 = .ok (.getfield 118, 3) := by decide +kernel
theorem zd_Truths_atomHolds_58 : decode prog_12_method_6_code 58 = .ok (.iload_n 2, 1) := by decide +kernel
theorem zd_Truths_atomHolds_59 : decode prog_12_method_6_code 59 = .ok (.iaload, 1) := by decide +kernel
theorem zd_Truths_atomHolds_60 : decode prog_12_method_6_code 60 = .ok (.aload_n 0, 1) := by decide +kernel
theorem zd_Truths_atomHolds_61 : decode prog_12_method_6_code 61 = .ok (.getfield 17, 3) := by decide +kernel
theorem zd_Truths_atomHolds_64 : decode prog_12_method_6_code 64 = .ok (.getfield 121, 3) := by decide +kernel
theorem zd_Truths_atomHolds_67 : decode prog_12_method_6_code 67 = .ok (.iload_n 1, 1) := by decide +kernel
theorem zd_Truths_atomHolds_68 : decode prog_12_method_6_code 68 = .ok (.iaload, 1) := by decide +kernel
theorem zd_Truths_atomHolds_69 : decode prog_12_method_6_code 69 = .ok (.if_icmp .ne 7, 3) := by decide +kernel
theorem zd_Truths_atomHolds_72 : decode prog_12_method_6_code 72 = .ok (.iconst 1, 1) := by decide +kernel
theorem zd_Truths_atomHolds_73 : decode prog_12_method_6_code 73 = .ok (.goto 4, 3) := by decide +kernel
theorem zd_Truths_atomHolds_76 : decode prog_12_method_6_code 76 = .ok (.iconst 0, 1) := by decide +kernel
theorem zd_Truths_atomHolds_77 : decode prog_12_method_6_code 77 = .ok (.ireturn, 1) := by decide +kernel
theorem zd_Truths_carried_0 : decode prog_12_method_8_code 0 = .ok (.aload_n 0, 1) := by decide +kernel
theorem zd_Truths_carried_1 : decode prog_12_method_8_code 1 = .ok (.getfield 23, 3) := by decide +kernel
theorem zd_Truths_carried_4 : decode prog_12_method_8_code 4 = .ok (.aload_n 0, 1) := by decide +kernel
theorem zd_Truths_carried_5 : decode prog_12_method_8_code 5 = .ok (.getfield 17, 3) := by decide +kernel
theorem zd_Truths_carried_8 : decode prog_12_method_8_code 8 = .ok (.getfield 102, 3) := by decide +kernel
theorem zd_Truths_carried_11 : decode prog_12_method_8_code 11 = .ok (.iload_n 1, 1) := by decide +kernel
theorem zd_Truths_carried_12 : decode prog_12_method_8_code 12 = .ok (.iaload, 1) := by decide +kernel
theorem zd_Truths_carried_13 : decode prog_12_method_8_code 13 = .ok (.iaload, 1) := by decide +kernel
theorem zd_Truths_carried_14 : decode prog_12_method_8_code 14 = .ok (.istore_n 3, 1) := by decide +kernel
theorem zd_Truths_carried_15 : decode prog_12_method_8_code 15 = .ok (.aload_n 0, 1) := by decide +kernel
theorem zd_Truths_carried_16 : decode prog_12_method_8_code 16 = .ok (.getfield 17, 3) := by decide +kernel
theorem zd_Truths_carried_19 : decode prog_12_method_8_code 19 = .ok (.getfield 51, 3) := by decide +kernel
theorem zd_Truths_carried_22 : decode prog_12_method_8_code 22 = .ok (.iload_n 1, 1) := by decide +kernel
theorem zd_Truths_carried_23 : decode prog_12_method_8_code 23 = .ok (.iaload, 1) := by decide +kernel
theorem zd_Truths_carried_24 : decode prog_12_method_8_code 24 = .ok (.tableswitch 55 4 6 #[28, 32, 36], 28) := by decide +kernel
theorem zd_Truths_carried_52 : decode prog_12_method_8_code 52 = .ok (.iload_n 3, 1) := by decide +kernel
theorem zd_Truths_carried_53 : decode prog_12_method_8_code 53 = .ok (.iload_n 2, 1) := by decide +kernel
theorem zd_Truths_carried_54 : decode prog_12_method_8_code 54 = .ok (.iand, 1) := by decide +kernel
theorem zd_Truths_carried_55 : decode prog_12_method_8_code 55 = .ok (.ireturn, 1) := by decide +kernel
theorem zd_Truths_carried_56 : decode prog_12_method_8_code 56 = .ok (.iload_n 3, 1) := by decide +kernel
theorem zd_Truths_carried_57 : decode prog_12_method_8_code 57 = .ok (.iload_n 2, 1) := by decide +kernel
theorem zd_Truths_carried_58 : decode prog_12_method_8_code 58 = .ok (.ior, 1) := by decide +kernel
theorem zd_Truths_carried_59 : decode prog_12_method_8_code 59 = .ok (.ireturn, 1) := by decide +kernel
theorem zd_Truths_carried_60 : decode prog_12_method_8_code 60 = .ok (.aload_n 0, 1) := by decide +kernel
theorem zd_Truths_carried_61 : decode prog_12_method_8_code 61 = .ok (.getfield 23, 3) := by decide +kernel
theorem zd_Truths_carried_64 : decode prog_12_method_8_code 64 = .ok (.aload_n 0, 1) := by decide +kernel
theorem zd_Truths_carried_65 : decode prog_12_method_8_code 65 = .ok (.getfield 17, 3) := by decide +kernel
theorem zd_Truths_carried_68 : decode prog_12_method_8_code 68 = .ok (.getfield 121, 3) := by decide +kernel
theorem zd_Truths_carried_71 : decode prog_12_method_8_code 71 = .ok (.iload_n 1, 1) := by decide +kernel
theorem zd_Truths_carried_72 : decode prog_12_method_8_code 72 = .ok (.iaload, 1) := by decide +kernel
theorem zd_Truths_carried_73 : decode prog_12_method_8_code 73 = .ok (.iaload, 1) := by decide +kernel
theorem zd_Truths_carried_74 : decode prog_12_method_8_code 74 = .ok (.iload_n 3, 1) := by decide +kernel
theorem zd_Truths_carried_75 : decode prog_12_method_8_code 75 = .ok (.iload_n 2, 1) := by decide +kernel
theorem zd_Truths_carried_76 : decode prog_12_method_8_code 76 = .ok (.iand, 1) := by decide +kernel
theorem zd_Truths_carried_77 : decode prog_12_method_8_code 77 = .ok (.ior, 1) := by decide +kernel
theorem zd_Truths_carried_78 : decode prog_12_method_8_code 78 = .ok (.ireturn, 1) := by decide +kernel
theorem zd_Truths_carried_79 : decode prog_12_method_8_code 79 = .ok (.aload_n 0, 1) := by decide +kernel
theorem zd_Truths_carried_80 : decode prog_12_method_8_code 80 = .ok (.getfield 23, 3) := by decide +kernel
theorem zd_Truths_carried_83 : decode prog_12_method_8_code 83 = .ok (.aload_n 0, 1) := by decide +kernel
theorem zd_Truths_carried_84 : decode prog_12_method_8_code 84 = .ok (.getfield 17, 3) := by decide +kernel
theorem zd_Truths_carried_87 : decode prog_12_method_8_code 87 = .ok (.getfield 121, 3) := by decide +kernel
theorem zd_Truths_carried_90 : decode prog_12_method_8_code 90 = .ok (.iload_n 1, 1) := by decide +kernel
theorem zd_Truths_carried_91 : decode prog_12_method_8_code 91 = .ok (.iaload, 1) := by decide +kernel
theorem zd_Truths_carried_92 : decode prog_12_method_8_code 92 = .ok (.iaload, 1) := by decide +kernel
theorem zd_Truths_carried_93 : decode prog_12_method_8_code 93 = .ok (.iload_n 3, 1) := by decide +kernel
theorem zd_Truths_carried_94 : decode prog_12_method_8_code 94 = .ok (.iload_n 2, 1) := by decide +kernel
theorem zd_Truths_carried_95 : decode prog_12_method_8_code 95 = .ok (.ior, 1) := by decide +kernel
theorem zd_Truths_carried_96 : decode prog_12_method_8_code 96 = .ok (.iand, 1) := by decide +kernel
theorem zd_Truths_carried_97 : decode prog_12_method_8_code 97 = .ok (.ireturn, 1) := by decide +kernel
theorem zd_Truths_joined_0 : decode prog_12_method_7_code 0 = .ok (.aload_n 0, 1) := by decide +kernel
theorem zd_Truths_joined_1 : decode prog_12_method_7_code 1 = .ok (.getfield 23, 3) := by decide +kernel
theorem zd_Truths_joined_4 : decode prog_12_method_7_code 4 = .ok (.aload_n 0, 1) := by decide +kernel
theorem zd_Truths_joined_5 : decode prog_12_method_7_code 5 = .ok (.getfield 17, 3) := by decide +kernel
theorem zd_Truths_joined_8 : decode prog_12_method_7_code 8 = .ok (.getfield 102, 3) := by decide +kernel
theorem zd_Truths_joined_11 : decode prog_12_method_7_code 11 = .ok (.iload_n 1, 1) := by decide +kernel
theorem zd_Truths_joined_12 : decode prog_12_method_7_code 12 = .ok (.iaload, 1) := by decide +kernel
theorem zd_Truths_joined_13 : decode prog_12_method_7_code 13 = .ok (.iaload, 1) := by decide +kernel
theorem zd_Truths_joined_14 : decode prog_12_method_7_code 14 = .ok (.istore_n 2, 1) := by decide +kernel
theorem zd_Truths_joined_15 : decode prog_12_method_7_code 15 = .ok (.aload_n 0, 1) := by decide +kernel
theorem zd_Truths_joined_16 : decode prog_12_method_7_code 16 = .ok (.getfield 17, 3) := by decide +kernel
theorem zd_Truths_joined_19 : decode prog_12_method_7_code 19 = .ok (.getfield 51, 3) := by decide +kernel
theorem zd_Truths_joined_22 : decode prog_12_method_7_code 22 = .ok (.iload_n 1, 1) := by decide +kernel
theorem zd_Truths_joined_23 : decode prog_12_method_7_code 23 = .ok (.iaload, 1) := by decide +kernel
theorem zd_Truths_joined_24 : decode prog_12_method_7_code 24 = .ok (.tableswitch 68 0 2 #[28, 34, 51], 28) := by decide +kernel
theorem zd_Truths_joined_52 : decode prog_12_method_7_code 52 = .ok (.iload_n 2, 1) := by decide +kernel
theorem zd_Truths_joined_53 : decode prog_12_method_7_code 53 = .ok (.sipush 255, 3) := by decide +kernel
theorem zd_Truths_joined_56 : decode prog_12_method_7_code 56 = .ok (.ixor, 1) := by decide +kernel
theorem zd_Truths_joined_57 : decode prog_12_method_7_code 57 = .ok (.ireturn, 1) := by decide +kernel
theorem zd_Truths_joined_58 : decode prog_12_method_7_code 58 = .ok (.iload_n 2, 1) := by decide +kernel
theorem zd_Truths_joined_59 : decode prog_12_method_7_code 59 = .ok (.aload_n 0, 1) := by decide +kernel
theorem zd_Truths_joined_60 : decode prog_12_method_7_code 60 = .ok (.getfield 23, 3) := by decide +kernel
theorem zd_Truths_joined_63 : decode prog_12_method_7_code 63 = .ok (.aload_n 0, 1) := by decide +kernel
theorem zd_Truths_joined_64 : decode prog_12_method_7_code 64 = .ok (.getfield 17, 3) := by decide +kernel
theorem zd_Truths_joined_67 : decode prog_12_method_7_code 67 = .ok (.getfield 121, 3) := by decide +kernel
theorem zd_Truths_joined_70 : decode prog_12_method_7_code 70 = .ok (.iload_n 1, 1) := by decide +kernel
theorem zd_Truths_joined_71 : decode prog_12_method_7_code 71 = .ok (.iaload, 1) := by decide +kernel
theorem zd_Truths_joined_72 : decode prog_12_method_7_code 72 = .ok (.iaload, 1) := by decide +kernel
theorem zd_Truths_joined_73 : decode prog_12_method_7_code 73 = .ok (.iand, 1) := by decide +kernel
theorem zd_Truths_joined_74 : decode prog_12_method_7_code 74 = .ok (.ireturn, 1) := by decide +kernel
theorem zd_Truths_joined_75 : decode prog_12_method_7_code 75 = .ok (.iload_n 2, 1) := by decide +kernel
theorem zd_Truths_joined_76 : decode prog_12_method_7_code 76 = .ok (.aload_n 0, 1) := by decide +kernel
theorem zd_Truths_joined_77 : decode prog_12_method_7_code 77 = .ok (.getfield 23, 3) := by decide +kernel
theorem zd_Truths_joined_80 : decode prog_12_method_7_code 80 = .ok (.aload_n 0, 1) := by decide +kernel
theorem zd_Truths_joined_81 : decode prog_12_method_7_code 81 = .ok (.getfield 17, 3) := by decide +kernel
theorem zd_Truths_joined_84 : decode prog_12_method_7_code 84 = .ok (.getfield 121, 3) := by decide +kernel
theorem zd_Truths_joined_87 : decode prog_12_method_7_code 87 = .ok (.iload_n 1, 1) := by decide +kernel
theorem zd_Truths_joined_88 : decode prog_12_method_7_code 88 = .ok (.iaload, 1) := by decide +kernel
theorem zd_Truths_joined_89 : decode prog_12_method_7_code 89 = .ok (.iaload, 1) := by decide +kernel
theorem zd_Truths_joined_90 : decode prog_12_method_7_code 90 = .ok (.ior, 1) := by decide +kernel
theorem zd_Truths_joined_91 : decode prog_12_method_7_code 91 = .ok (.ireturn, 1) := by decide +kernel
theorem zd_Truths_joined_92 : decode prog_12_method_7_code 92 = .ok (.iload_n 2, 1) := by decide +kernel
theorem zd_Truths_joined_93 : decode prog_12_method_7_code 93 = .ok (.sipush 255, 3) := by decide +kernel
theorem zd_Truths_joined_96 : decode prog_12_method_7_code 96 = .ok (.ixor, 1) := by decide +kernel
theorem zd_Truths_joined_97 : decode prog_12_method_7_code 97 = .ok (.aload_n 0, 1) := by decide +kernel
theorem zd_Truths_joined_98 : decode prog_12_method_7_code 98 = .ok (.getfield 23, 3) := by decide +kernel
theorem zd_Truths_joined_101 : decode prog_12_method_7_code 101 = .ok (.aload_n 0, 1) := by decide +kernel
theorem zd_Truths_joined_102 : decode prog_12_method_7_code 102 = .ok (.getfield 17, 3) := by decide +kernel
theorem zd_Truths_joined_105 : decode prog_12_method_7_code 105 = .ok (.getfield 121, 3) := by decide +kernel
theorem zd_Truths_joined_108 : decode prog_12_method_7_code 108 = .ok (.iload_n 1, 1) := by decide +kernel
theorem zd_Truths_joined_109 : decode prog_12_method_7_code 109 = .ok (.iaload, 1) := by decide +kernel
theorem zd_Truths_joined_110 : decode prog_12_method_7_code 110 = .ok (.iaload, 1) := by decide +kernel
theorem zd_Truths_joined_111 : decode prog_12_method_7_code 111 = .ok (.ior, 1) := by decide +kernel
theorem zd_Truths_joined_112 : decode prog_12_method_7_code 112 = .ok (.ireturn, 1) := by decide +kernel
def wc_Formula_readAtom_186 (Post : Int32 → (Nat → Int32) → (Nat → Int64) → (Nat → Nat → Int32) → (Nat → Nat → Int64) → Prop) (PX : String → (Nat → Int32) → (Nat → Int64) → (Nat → Nat → Int32) → (Nat → Nat → Int64) → Prop) (x2 : Int32) (x4 : Int32) (I : Nat → Int32) (J : Nat → Int64) (B : Nat → Nat → Int32) (D : Nat → Nat → Int64) : Prop :=
  wp_Text_skip I J B D  (fun I1 J1 B1 D1 => wp_Formula_add I1 J1 B1 D1 9 x2 x4 (fun r2 I2 J2 B2 D2 => Post r2 I2 J2 B2 D2))
def wc_Formula_readAtom_171 (Post : Int32 → (Nat → Int32) → (Nat → Int64) → (Nat → Nat → Int32) → (Nat → Nat → Int64) → Prop) (PX : String → (Nat → Int32) → (Nat → Int64) → (Nat → Nat → Int32) → (Nat → Nat → Int64) → Prop) (x2 : Int32) (y0 : Int32) (I : Nat → Int32) (J : Nat → Int64) (B : Nat → Nat → Int32) (D : Nat → Nat → Int64) : Prop :=
  ((¬ y0 = (-1) → wc_Formula_readAtom_186  Post PX x2 y0 I J B D) ∧ (y0 = (-1) → wp_Text_refuse I J B D  (fun I4 J4 B4 D4 => wc_Formula_readAtom_186  Post PX x2 y0 I4 J4 B4 D4) PX))
def wc_Formula_readAtom_131 (Post : Int32 → (Nat → Int32) → (Nat → Int64) → (Nat → Nat → Int32) → (Nat → Nat → Int64) → Prop) (PX : String → (Nat → Int32) → (Nat → Int64) → (Nat → Nat → Int32) → (Nat → Nat → Int64) → Prop) (x2 : Int32) (I : Nat → Int32) (J : Nat → Int64) (B : Nat → Nat → Int32) (D : Nat → Nat → Int64) : Prop :=
  wp_Text_skip I J B D  (fun I5 J5 B5 D5 => wp_Text_oneOf I5 J5 B5 D5 65 (fun r6 I6 J6 B6 D6 => ((¬ r6 = (-1) → ∀ z8 : Int32, z8 = (x2 * 8) → ∀ z9 : Int32, z9 = (z8 + r6) → vp_in z9 32 ∧ ∀ z10 : Int32, z10 = ((B6 14) z9.toNatClampNeg) → wc_Formula_readAtom_171  Post PX x2 z10 I6 J6 B6 D6) ∧ (r6 = (-1) → wc_Formula_readAtom_171  Post PX x2 (-1) I6 J6 B6 D6))))
def wc_Formula_readAtom_124 (Post : Int32 → (Nat → Int32) → (Nat → Int64) → (Nat → Nat → Int32) → (Nat → Nat → Int64) → Prop) (PX : String → (Nat → Int32) → (Nat → Int64) → (Nat → Nat → Int32) → (Nat → Nat → Int64) → Prop) (x2 : Int32) (I : Nat → Int32) (J : Nat → Int64) (B : Nat → Nat → Int32) (D : Nat → Nat → Int64) : Prop :=
  wp_Text_refuse I J B D  (fun I11 J11 B11 D11 => wc_Formula_readAtom_131  Post PX x2 I11 J11 B11 D11) PX
def wc_Formula_readAtom_50 (Post : Int32 → (Nat → Int32) → (Nat → Int64) → (Nat → Nat → Int32) → (Nat → Nat → Int64) → Prop) (PX : String → (Nat → Int32) → (Nat → Int64) → (Nat → Nat → Int32) → (Nat → Nat → Int64) → Prop) (x1 : Int32) (I : Nat → Int32) (J : Nat → Int64) (B : Nat → Nat → Int32) (D : Nat → Nat → Int64) : Prop :=
  ∀ z12 : Int32, z12 = ((I 24) + 1) → wp_Text_skip (upd I 24 z12) J B D  (fun I13 J13 B13 D13 => ((x1 = 0 → wp_Text_oneOf I13 J13 B13 D13 48 (fun r15 I15 J15 B15 D15 => ((r15 = (-1) → wc_Formula_readAtom_124  Post PX r15 I15 J15 B15 D15) ∧ (¬ r15 = (-1) → ((r15 < (I15 10) → wc_Formula_readAtom_131  Post PX r15 I15 J15 B15 D15) ∧ (¬ r15 < (I15 10) → wc_Formula_readAtom_124  Post PX r15 I15 J15 B15 D15)))))) ∧ (¬ x1 = 0 → wp_Terms_read_B I13 J13 B13 D13 0 (fun r18 I18 J18 B18 D18 => wp_Text_expect I18 J18 B18 D18 125 (fun I19 J19 B19 D19 => wp_Formula_add I19 J19 B19 D19 8 r18 (-1) (fun r20 I20 J20 B20 D20 => Post r20 I20 J20 B20 D20)) PX) PX)))
def wc_Formula_readAtom_43 (Post : Int32 → (Nat → Int32) → (Nat → Int64) → (Nat → Nat → Int32) → (Nat → Nat → Int64) → Prop) (PX : String → (Nat → Int32) → (Nat → Int64) → (Nat → Nat → Int32) → (Nat → Nat → Int64) → Prop) (x1 : Int32) (I : Nat → Int32) (J : Nat → Int64) (B : Nat → Nat → Int32) (D : Nat → Nat → Int64) : Prop :=
  wp_Text_refuse I J B D  (fun I21 J21 B21 D21 => wc_Formula_readAtom_50  Post PX x1 I21 J21 B21 D21) PX
def wc_Formula_readAtom_17 (Post : Int32 → (Nat → Int32) → (Nat → Int64) → (Nat → Nat → Int32) → (Nat → Nat → Int64) → Prop) (PX : String → (Nat → Int32) → (Nat → Int64) → (Nat → Nat → Int32) → (Nat → Nat → Int64) → Prop) (y0 : Int32) (I : Nat → Int32) (J : Nat → Int64) (B : Nat → Nat → Int32) (D : Nat → Nat → Int64) : Prop :=
  (((I 24) = 8 → wc_Formula_readAtom_43  Post PX y0 I J B D) ∧ (¬ (I 24) = 8 → ((¬ y0 = 0 → wc_Formula_readAtom_50  Post PX y0 I J B D) ∧ (y0 = 0 → wp_Text_ahead I J B D  (fun r24 I24 J24 B24 D24 => ((r24 = 64 → wc_Formula_readAtom_50  Post PX y0 I24 J24 B24 D24) ∧ (¬ r24 = 64 → wc_Formula_readAtom_43  Post PX y0 I24 J24 B24 D24)))))))
def wp_Formula_readAtom (I : Nat → Int32) (J : Nat → Int64) (B : Nat → Nat → Int32) (D : Nat → Nat → Int64) (Post : Int32 → (Nat → Int32) → (Nat → Int64) → (Nat → Nat → Int32) → (Nat → Nat → Int64) → Prop) (PX : String → (Nat → Int32) → (Nat → Int64) → (Nat → Nat → Int32) → (Nat → Nat → Int64) → Prop) : Prop :=
  wp_Text_ahead I J B D  (fun r26 I26 J26 B26 D26 => ((¬ r26 = 123 → wc_Formula_readAtom_17  Post PX 0 I26 J26 B26 D26) ∧ (r26 = 123 → wc_Formula_readAtom_17  Post PX 1 I26 J26 B26 D26)))
set_option maxHeartbeats 8000000 in
set_option maxRecDepth 100000 in
theorem wJ_Formula_readAtom_186 {p : Program} {l : Launch} {e : Env} {s : State} {m : MethodId} {below : List Frame} {meth : Method} {c : Code} {A : Nat → Prop} (G : va_G) (K : Nat → ClassId) (ad : Nat → Nat) (sv : Value) (Post : Int32 → (Nat → Int32) → (Nat → Int64) → (Nat → Nat → Int32) → (Nat → Nat → Int64) → Prop) (PX : String → (Nat → Int32) → (Nat → Int64) → (Nat → Nat → Int32) → (Nat → Nat → Int64) → Prop) (C : zCy p l s m ([.ref (ad 9)] : List Value).toArray meth c A G K prog_2_method_9_code (some .int) 5 "LassoFinder$Formula") : ∀ (x2 : Int32) (x4 : Int32) (I : Nat → Int32) (J : Nat → Int64) (B : Nat → Nat → Int32) (D : Nat → Nat → Int64) (ls : Array Slot) (H : Heap) (locs : List Loc), wc_Formula_readAtom_186  Post PX x2 x4 I J B D → lv_has ls 5 [(0, .ref (ad 9)), (2, .int x2), (4, .int x4)] → zW G A s.heap (wX ad K sv I J B D) H locs → W p l e { frames := 9, cells := 1, slots := 6, locals := 147 } s m ([.ref (ad 9)] : List Value).toArray below meth c H locs 0 0 (zyMQ below (va_Qi (fun (r : Int32) (u : zS) => Post r u.1 u.2.1 u.2.2.1 u.2.2.2) (fun u t => zPost G K A (wX ad K sv u.1 u.2.1 u.2.2.1 u.2.2.2) t) A) (zYC (fun E (u : zS) => PX E u.1 u.2.1 u.2.2.1 u.2.2.2) (fun u => wX ad K sv u.1 u.2.1 u.2.2.1 u.2.2.2) G K A) ([.ref (ad 9)] : List Value).toArray s 1 6 A) (F0 m 186 ls []) := by
  obtain ⟨hx, hb, hr, hml, hts, hown, hlocks, hA, hK, hT, hnt, hlt⟩ := id C
  intro x2 x4 I J B D ls H locs hok hl hw
  unfold wc_Formula_readAtom_186 at hok
  refine lv_aload_n hx hb zd_Formula_readAtom_186 rfl (lv_at hl 0 rfl) ?_
  refine z_get (v := .ref (ad 1)) hx hb hts hown hK hw zZ1 9 wX_g9 0 (by decide) zn_518 rfl zd_Formula_readAtom_187 ?_
  refine z_callv (w1 := fun (u : zS) => wX ad K sv u.1 u.2.1 u.2.2.1 u.2.2.2) (wr := []) (z_runV (q0 := 1) (wc := (wX ad K sv I J B D)) (As := []) (rest := []) ⟨hx, hb, hml, hown, hts⟩ (w_Text_skip l G K ad sv I J B D  _ H.size hok) zf_Text_skip zn_491 ⟨Nat.le_of_ble_eq_true rfl, Nat.le_of_ble_eq_true rfl⟩ hK hw (List.range 65) wX_all wX_nd wX_g1 rfl rfl hl.1 rfl (Nat.le_of_ble_eq_true rfl) zd_Formula_readAtom_190 ⟨Nat.le_of_ble_eq_true rfl, Nat.le_of_ble_eq_true rfl⟩) hw hA (List.range 65) [] wX_all rfl (by decide) (fun i hi => by cases hi) (fun u H locs hok hw => ?_)
  obtain ⟨I1, J1, B1, D1⟩ := u
  dsimp only at hok
  have hw : zW G A s.heap (wX ad K sv I1 J1 B1 D1) H locs := hw
  refine lv_aload_n hx hb zd_Formula_readAtom_193 rfl (lv_at hl 0 rfl) ?_
  refine lv_bipush (v := 9) hx hb zd_Formula_readAtom_194 (by decide) ?_
  refine lv_iload_n hx hb zd_Formula_readAtom_196 rfl (lv_at hl 1 rfl) ?_
  refine lv_iload hx hb zd_Formula_readAtom_197 (lv_at hl 2 rfl) ?_
  refine z_calli (w1 := fun (u : zS) => wX ad K sv u.1 u.2.1 u.2.2.1 u.2.2.2) (wr := []) (z_runV (q0 := 9) (wc := (wX ad K sv I1 J1 B1 D1)) (As := [.int 9, .int x2, .int x4]) (rest := []) ⟨hx, hb, hml, hown, hts⟩ (w_Formula_add l G K ad sv I1 J1 B1 D1 9 x2 x4 _ H.size hok) zf_Formula_add zn_492 ⟨Nat.le_of_ble_eq_true rfl, Nat.le_of_ble_eq_true rfl⟩ hK hw (List.range 65) wX_all wX_nd wX_g9 rfl rfl hl.1 rfl (Nat.le_of_ble_eq_true rfl) zd_Formula_readAtom_199 ⟨Nat.le_of_ble_eq_true rfl, Nat.le_of_ble_eq_true rfl⟩) hw hA (List.range 65) [] wX_all rfl (by decide) (fun i hi => by cases hi) (fun r2 u H locs hok hw => ?_)
  obtain ⟨I2, J2, B2, D2⟩ := u
  dsimp only at hok
  have hw : zW G A s.heap (wX ad K sv I2 J2 B2 D2) H locs := hw
  exact zy_ret (z_iret (u := (I2, J2, B2, D2)) hx hb hr hlocks rfl hw (List.range 65) wX_all wX_nd hok (Nat.le_of_ble_eq_true rfl) (Nat.le_of_ble_eq_true rfl) zd_Formula_readAtom_202)
set_option maxHeartbeats 8000000 in
set_option maxRecDepth 100000 in
theorem wJ_Formula_readAtom_171 {p : Program} {l : Launch} {e : Env} {s : State} {m : MethodId} {below : List Frame} {meth : Method} {c : Code} {A : Nat → Prop} (G : va_G) (K : Nat → ClassId) (ad : Nat → Nat) (sv : Value) (Post : Int32 → (Nat → Int32) → (Nat → Int64) → (Nat → Nat → Int32) → (Nat → Nat → Int64) → Prop) (PX : String → (Nat → Int32) → (Nat → Int64) → (Nat → Nat → Int32) → (Nat → Nat → Int64) → Prop) (C : zCy p l s m ([.ref (ad 9)] : List Value).toArray meth c A G K prog_2_method_9_code (some .int) 5 "LassoFinder$Formula") : ∀ (x2 : Int32) (y0 : Int32) (I : Nat → Int32) (J : Nat → Int64) (B : Nat → Nat → Int32) (D : Nat → Nat → Int64) (ls : Array Slot) (H : Heap) (locs : List Loc), wc_Formula_readAtom_171  Post PX x2 y0 I J B D → lv_has ls 5 [(0, .ref (ad 9)), (2, .int x2)] → zW G A s.heap (wX ad K sv I J B D) H locs → W p l e { frames := 9, cells := 1, slots := 6, locals := 147 } s m ([.ref (ad 9)] : List Value).toArray below meth c H locs 0 0 (zyMQ below (va_Qi (fun (r : Int32) (u : zS) => Post r u.1 u.2.1 u.2.2.1 u.2.2.2) (fun u t => zPost G K A (wX ad K sv u.1 u.2.1 u.2.2.1 u.2.2.2) t) A) (zYC (fun E (u : zS) => PX E u.1 u.2.1 u.2.2.1 u.2.2.2) (fun u => wX ad K sv u.1 u.2.1 u.2.2.1 u.2.2.2) G K A) ([.ref (ad 9)] : List Value).toArray s 1 6 A) (F0 m 171 ls [.int y0]) := by
  obtain ⟨hx, hb, hr, hml, hts, hown, hlocks, hA, hK, hT, hnt, hlt⟩ := id C
  intro x2 y0 I J B D ls H locs hok hl hw
  unfold wc_Formula_readAtom_171 at hok
  refine lv_istore hx hb zd_Formula_readAtom_171 hl (by decide) rfl (fun ls hl => ?_)
  have hl : lv_has ls 5 [(4, .int y0), (0, .ref (ad 9)), (2, .int x2)] := hl
  refine lv_iload hx hb zd_Formula_readAtom_173 (lv_at hl 0 rfl) ?_
  refine lv_iconst (v := (-1)) hx hb zd_Formula_readAtom_175 (by decide) ?_
  refine lv_icmp_ne (tgt := 186) hx hb zd_Formula_readAtom_176 (by decide) (fun hc3 => ?_) (fun hc3 => ?_)
  · have hok := hok.1 hc3
    exact wJ_Formula_readAtom_186 G K ad sv  Post PX C x2 y0 I J B D ls H locs hok (lv_sub hl [1, 2, 0] rfl) hw
  · have hok := hok.2 hc3
    refine lv_aload_n hx hb zd_Formula_readAtom_179 rfl (lv_at hl 1 rfl) ?_
    refine z_get (v := .ref (ad 1)) hx hb hts hown hK hw zZ1 9 wX_g9 0 (by decide) zn_518 rfl zd_Formula_readAtom_180 ?_
    refine z_yV (q0 := 1) (wc := (wX ad K sv I J B D)) (wr := []) (w1 := fun (u : zS) => wX ad K sv u.1 u.2.1 u.2.2.1 u.2.2.2) (As := []) (rest := []) ⟨hx, hb, hml, hown, hts⟩ (w_Text_refuse l hlt G K ad sv I J B D  _ _ H.size hok) zf_Text_refuse zn_490 ⟨Nat.le_of_ble_eq_true rfl, Nat.le_of_ble_eq_true rfl⟩ hK hT hw hA (List.range 65) [] wX_all rfl wX_nd (by decide) (fun i hi => by cases hi) wX_g1 rfl rfl hl.1 rfl (Nat.le_of_ble_eq_true rfl) zd_Formula_readAtom_183 ⟨Nat.le_of_ble_eq_true rfl, Nat.le_of_ble_eq_true rfl⟩ (fun v st9 t9 L9 h0 hq hL => ?_) (fun E ce q9 u H locs hu hw hce hcv hcl => z_yout (u := u) hnt hlocks hce hcv hcl hw (List.range 65) wX_all wX_nd hu (Nat.le_of_ble_eq_true rfl) (Nat.le_of_ble_eq_true rfl))
    obtain ⟨⟨u, hv9, hok, hB9⟩, hF9⟩ := hq
    cases hv9
    have hw := z_back (wr := []) hw hA (List.range 65) [] wX_all rfl (by decide) (fun i hi => by cases hi) h0 hL hB9 hF9
    obtain ⟨I4, J4, B4, D4⟩ := u
    dsimp only at hok
    generalize t9.heap = H at hw ⊢
    generalize locs ++ L9 = locs at hw ⊢
    have hw : zW G A s.heap (wX ad K sv I4 J4 B4 D4) H locs := hw
    refine W.eq (g2 := F0 m 186 ls []) rfl ?_
    exact wJ_Formula_readAtom_186 G K ad sv  Post PX C x2 y0 I4 J4 B4 D4 ls H locs hok (lv_sub hl [1, 2, 0] rfl) hw
set_option maxHeartbeats 8000000 in
set_option maxRecDepth 100000 in
theorem wJ_Formula_readAtom_131 {p : Program} {l : Launch} {e : Env} {s : State} {m : MethodId} {below : List Frame} {meth : Method} {c : Code} {A : Nat → Prop} (G : va_G) (K : Nat → ClassId) (ad : Nat → Nat) (sv : Value) (Post : Int32 → (Nat → Int32) → (Nat → Int64) → (Nat → Nat → Int32) → (Nat → Nat → Int64) → Prop) (PX : String → (Nat → Int32) → (Nat → Int64) → (Nat → Nat → Int32) → (Nat → Nat → Int64) → Prop) (C : zCy p l s m ([.ref (ad 9)] : List Value).toArray meth c A G K prog_2_method_9_code (some .int) 5 "LassoFinder$Formula") : ∀ (x2 : Int32) (I : Nat → Int32) (J : Nat → Int64) (B : Nat → Nat → Int32) (D : Nat → Nat → Int64) (ls : Array Slot) (H : Heap) (locs : List Loc), wc_Formula_readAtom_131  Post PX x2 I J B D → lv_has ls 5 [(0, .ref (ad 9)), (2, .int x2)] → zW G A s.heap (wX ad K sv I J B D) H locs → W p l e { frames := 9, cells := 1, slots := 6, locals := 147 } s m ([.ref (ad 9)] : List Value).toArray below meth c H locs 0 0 (zyMQ below (va_Qi (fun (r : Int32) (u : zS) => Post r u.1 u.2.1 u.2.2.1 u.2.2.2) (fun u t => zPost G K A (wX ad K sv u.1 u.2.1 u.2.2.1 u.2.2.2) t) A) (zYC (fun E (u : zS) => PX E u.1 u.2.1 u.2.2.1 u.2.2.2) (fun u => wX ad K sv u.1 u.2.1 u.2.2.1 u.2.2.2) G K A) ([.ref (ad 9)] : List Value).toArray s 1 6 A) (F0 m 131 ls []) := by
  obtain ⟨hx, hb, hr, hml, hts, hown, hlocks, hA, hK, hT, hnt, hlt⟩ := id C
  intro x2 I J B D ls H locs hok hl hw
  unfold wc_Formula_readAtom_131 at hok
  refine lv_aload_n hx hb zd_Formula_readAtom_131 rfl (lv_at hl 0 rfl) ?_
  refine z_get (v := .ref (ad 1)) hx hb hts hown hK hw zZ1 9 wX_g9 0 (by decide) zn_518 rfl zd_Formula_readAtom_132 ?_
  refine z_callv (w1 := fun (u : zS) => wX ad K sv u.1 u.2.1 u.2.2.1 u.2.2.2) (wr := []) (z_runV (q0 := 1) (wc := (wX ad K sv I J B D)) (As := []) (rest := []) ⟨hx, hb, hml, hown, hts⟩ (w_Text_skip l G K ad sv I J B D  _ H.size hok) zf_Text_skip zn_491 ⟨Nat.le_of_ble_eq_true rfl, Nat.le_of_ble_eq_true rfl⟩ hK hw (List.range 65) wX_all wX_nd wX_g1 rfl rfl hl.1 rfl (Nat.le_of_ble_eq_true rfl) zd_Formula_readAtom_135 ⟨Nat.le_of_ble_eq_true rfl, Nat.le_of_ble_eq_true rfl⟩) hw hA (List.range 65) [] wX_all rfl (by decide) (fun i hi => by cases hi) (fun u H locs hok hw => ?_)
  obtain ⟨I5, J5, B5, D5⟩ := u
  dsimp only at hok
  have hw : zW G A s.heap (wX ad K sv I5 J5 B5 D5) H locs := hw
  refine lv_aload_n hx hb zd_Formula_readAtom_138 rfl (lv_at hl 0 rfl) ?_
  refine z_get (v := .ref (ad 1)) hx hb hts hown hK hw zZ1 9 wX_g9 0 (by decide) zn_518 rfl zd_Formula_readAtom_139 ?_
  refine lv_bipush (v := 65) hx hb zd_Formula_readAtom_142 (by decide) ?_
  refine z_calli (w1 := fun (u : zS) => wX ad K sv u.1 u.2.1 u.2.2.1 u.2.2.2) (wr := []) (z_runV (q0 := 1) (wc := (wX ad K sv I5 J5 B5 D5)) (As := [.int 65]) (rest := []) ⟨hx, hb, hml, hown, hts⟩ (w_Text_oneOf l G K ad sv I5 J5 B5 D5 65 _ H.size hok) zf_Text_oneOf zn_499 ⟨Nat.le_of_ble_eq_true rfl, Nat.le_of_ble_eq_true rfl⟩ hK hw (List.range 65) wX_all wX_nd wX_g1 rfl rfl hl.1 rfl (Nat.le_of_ble_eq_true rfl) zd_Formula_readAtom_144 ⟨Nat.le_of_ble_eq_true rfl, Nat.le_of_ble_eq_true rfl⟩) hw hA (List.range 65) [] wX_all rfl (by decide) (fun i hi => by cases hi) (fun r6 u H locs hok hw => ?_)
  obtain ⟨I6, J6, B6, D6⟩ := u
  dsimp only at hok
  have hw : zW G A s.heap (wX ad K sv I6 J6 B6 D6) H locs := hw
  refine lv_istore_n hx hb zd_Formula_readAtom_147 rfl hl (by decide) rfl (fun ls hl => ?_)
  have hl : lv_has ls 5 [(3, .int r6), (0, .ref (ad 9)), (2, .int x2)] := hl
  refine lv_iload_n hx hb zd_Formula_readAtom_148 rfl (lv_at hl 0 rfl) ?_
  refine lv_iconst (v := (-1)) hx hb zd_Formula_readAtom_149 (by decide) ?_
  refine lv_icmp_ne (tgt := 157) hx hb zd_Formula_readAtom_150 (by decide) (fun hc7 => ?_) (fun hc7 => ?_)
  · have hok := hok.1 hc7
    refine lv_aload_n hx hb zd_Formula_readAtom_157 rfl (lv_at hl 1 rfl) ?_
    refine z_get (v := .ref (ad 3)) hx hb hts hown hK hw zZ1 9 wX_g9 1 (by decide) zn_523 rfl zd_Formula_readAtom_158 ?_
    refine z_get (v := .ref (ad 27)) hx hb hts hown hK hw zZ6 3 wX_g3 9 (by decide) zn_525 rfl zd_Formula_readAtom_161 ?_
    refine lv_iload_n hx hb zd_Formula_readAtom_164 rfl (lv_at hl 2 rfl) ?_
    refine lv_bipush (v := 8) hx hb zd_Formula_readAtom_165 (by decide) ?_
    refine lv_imul hx hb zd_Formula_readAtom_167 ?_
    refine lv_topi (fun z8 ez8 => ?_)
    have hok := hok z8 ez8
    refine lv_iload_n hx hb zd_Formula_readAtom_168 rfl (lv_at hl 0 rfl) ?_
    refine lv_iadd hx hb zd_Formula_readAtom_169 ?_
    refine lv_topi (fun z9 ez9 => ?_)
    have hok := hok z9 ez9
    refine va_iald (f := (B6 14)) hx hb hK hw.1 27 0 wX_a27 rfl hok.1 zd_Formula_readAtom_170 ?_
    have hok := hok.2
    refine lv_topi (fun z10 ez10 => ?_)
    have hok := hok z10 ez10
    exact wJ_Formula_readAtom_171 G K ad sv  Post PX C x2 z10 I6 J6 B6 D6 ls H locs hok (lv_sub hl [1, 2] rfl) hw
  · have hok := hok.2 hc7
    refine lv_iconst (v := (-1)) hx hb zd_Formula_readAtom_153 (by decide) ?_
    refine lv_goto (tgt := 171) hx hb zd_Formula_readAtom_154 (by decide) ?_
    exact wJ_Formula_readAtom_171 G K ad sv  Post PX C x2 (-1) I6 J6 B6 D6 ls H locs hok (lv_sub hl [1, 2] rfl) hw
set_option maxHeartbeats 8000000 in
set_option maxRecDepth 100000 in
theorem wJ_Formula_readAtom_124 {p : Program} {l : Launch} {e : Env} {s : State} {m : MethodId} {below : List Frame} {meth : Method} {c : Code} {A : Nat → Prop} (G : va_G) (K : Nat → ClassId) (ad : Nat → Nat) (sv : Value) (Post : Int32 → (Nat → Int32) → (Nat → Int64) → (Nat → Nat → Int32) → (Nat → Nat → Int64) → Prop) (PX : String → (Nat → Int32) → (Nat → Int64) → (Nat → Nat → Int32) → (Nat → Nat → Int64) → Prop) (C : zCy p l s m ([.ref (ad 9)] : List Value).toArray meth c A G K prog_2_method_9_code (some .int) 5 "LassoFinder$Formula") : ∀ (x2 : Int32) (I : Nat → Int32) (J : Nat → Int64) (B : Nat → Nat → Int32) (D : Nat → Nat → Int64) (ls : Array Slot) (H : Heap) (locs : List Loc), wc_Formula_readAtom_124  Post PX x2 I J B D → lv_has ls 5 [(0, .ref (ad 9)), (2, .int x2)] → zW G A s.heap (wX ad K sv I J B D) H locs → W p l e { frames := 9, cells := 1, slots := 6, locals := 147 } s m ([.ref (ad 9)] : List Value).toArray below meth c H locs 0 0 (zyMQ below (va_Qi (fun (r : Int32) (u : zS) => Post r u.1 u.2.1 u.2.2.1 u.2.2.2) (fun u t => zPost G K A (wX ad K sv u.1 u.2.1 u.2.2.1 u.2.2.2) t) A) (zYC (fun E (u : zS) => PX E u.1 u.2.1 u.2.2.1 u.2.2.2) (fun u => wX ad K sv u.1 u.2.1 u.2.2.1 u.2.2.2) G K A) ([.ref (ad 9)] : List Value).toArray s 1 6 A) (F0 m 124 ls []) := by
  obtain ⟨hx, hb, hr, hml, hts, hown, hlocks, hA, hK, hT, hnt, hlt⟩ := id C
  intro x2 I J B D ls H locs hok hl hw
  unfold wc_Formula_readAtom_124 at hok
  refine lv_aload_n hx hb zd_Formula_readAtom_124 rfl (lv_at hl 0 rfl) ?_
  refine z_get (v := .ref (ad 1)) hx hb hts hown hK hw zZ1 9 wX_g9 0 (by decide) zn_518 rfl zd_Formula_readAtom_125 ?_
  refine z_yV (q0 := 1) (wc := (wX ad K sv I J B D)) (wr := []) (w1 := fun (u : zS) => wX ad K sv u.1 u.2.1 u.2.2.1 u.2.2.2) (As := []) (rest := []) ⟨hx, hb, hml, hown, hts⟩ (w_Text_refuse l hlt G K ad sv I J B D  _ _ H.size hok) zf_Text_refuse zn_490 ⟨Nat.le_of_ble_eq_true rfl, Nat.le_of_ble_eq_true rfl⟩ hK hT hw hA (List.range 65) [] wX_all rfl wX_nd (by decide) (fun i hi => by cases hi) wX_g1 rfl rfl hl.1 rfl (Nat.le_of_ble_eq_true rfl) zd_Formula_readAtom_128 ⟨Nat.le_of_ble_eq_true rfl, Nat.le_of_ble_eq_true rfl⟩ (fun v st9 t9 L9 h0 hq hL => ?_) (fun E ce q9 u H locs hu hw hce hcv hcl => z_yout (u := u) hnt hlocks hce hcv hcl hw (List.range 65) wX_all wX_nd hu (Nat.le_of_ble_eq_true rfl) (Nat.le_of_ble_eq_true rfl))
  obtain ⟨⟨u, hv9, hok, hB9⟩, hF9⟩ := hq
  cases hv9
  have hw := z_back (wr := []) hw hA (List.range 65) [] wX_all rfl (by decide) (fun i hi => by cases hi) h0 hL hB9 hF9
  obtain ⟨I11, J11, B11, D11⟩ := u
  dsimp only at hok
  generalize t9.heap = H at hw ⊢
  generalize locs ++ L9 = locs at hw ⊢
  have hw : zW G A s.heap (wX ad K sv I11 J11 B11 D11) H locs := hw
  refine W.eq (g2 := F0 m 131 ls []) rfl ?_
  exact wJ_Formula_readAtom_131 G K ad sv  Post PX C x2 I11 J11 B11 D11 ls H locs hok (lv_sub hl [0, 1] rfl) hw
set_option maxHeartbeats 8000000 in
set_option maxRecDepth 100000 in
theorem wJ_Formula_readAtom_50 {p : Program} {l : Launch} {e : Env} {s : State} {m : MethodId} {below : List Frame} {meth : Method} {c : Code} {A : Nat → Prop} (G : va_G) (K : Nat → ClassId) (ad : Nat → Nat) (sv : Value) (Post : Int32 → (Nat → Int32) → (Nat → Int64) → (Nat → Nat → Int32) → (Nat → Nat → Int64) → Prop) (PX : String → (Nat → Int32) → (Nat → Int64) → (Nat → Nat → Int32) → (Nat → Nat → Int64) → Prop) (C : zCy p l s m ([.ref (ad 9)] : List Value).toArray meth c A G K prog_2_method_9_code (some .int) 5 "LassoFinder$Formula") : ∀ (x1 : Int32) (I : Nat → Int32) (J : Nat → Int64) (B : Nat → Nat → Int32) (D : Nat → Nat → Int64) (ls : Array Slot) (H : Heap) (locs : List Loc), wc_Formula_readAtom_50  Post PX x1 I J B D → lv_has ls 5 [(0, .ref (ad 9)), (1, .int x1)] → zW G A s.heap (wX ad K sv I J B D) H locs → W p l e { frames := 9, cells := 1, slots := 6, locals := 147 } s m ([.ref (ad 9)] : List Value).toArray below meth c H locs 0 0 (zyMQ below (va_Qi (fun (r : Int32) (u : zS) => Post r u.1 u.2.1 u.2.2.1 u.2.2.2) (fun u t => zPost G K A (wX ad K sv u.1 u.2.1 u.2.2.1 u.2.2.2) t) A) (zYC (fun E (u : zS) => PX E u.1 u.2.1 u.2.2.1 u.2.2.2) (fun u => wX ad K sv u.1 u.2.1 u.2.2.1 u.2.2.2) G K A) ([.ref (ad 9)] : List Value).toArray s 1 6 A) (F0 m 50 ls []) := by
  obtain ⟨hx, hb, hr, hml, hts, hown, hlocks, hA, hK, hT, hnt, hlt⟩ := id C
  intro x1 I J B D ls H locs hok hl hw
  unfold wc_Formula_readAtom_50 at hok
  refine lv_aload_n hx hb zd_Formula_readAtom_50 rfl (lv_at hl 0 rfl) ?_
  refine lv_dup hx hb zd_Formula_readAtom_51 rfl ?_
  refine z_get (v := .int (I 24)) hx hb hts hown hK hw zZ1 9 wX_g9 10 (by decide) zn_522 rfl zd_Formula_readAtom_52 ?_
  refine lv_iconst (v := 1) hx hb zd_Formula_readAtom_55 (by decide) ?_
  refine lv_iadd hx hb zd_Formula_readAtom_56 ?_
  refine lv_topi (fun z12 ez12 => ?_)
  have hok := hok z12 ez12
  refine z_put (v := .int z12) hx hb hts hown hK hw zZ1 9 wX_g9 10 (by decide) zn_522 rfl rfl rfl (Nat.le_of_ble_eq_true rfl) zd_Formula_readAtom_57 (fun H locs hw => ?_)
  have hw := wX_sI24 hw
  refine lv_aload_n hx hb zd_Formula_readAtom_60 rfl (lv_at hl 0 rfl) ?_
  refine z_get (v := .ref (ad 1)) hx hb hts hown hK hw zZ1 9 wX_g9 0 (by decide) zn_518 rfl zd_Formula_readAtom_61 ?_
  refine z_callv (w1 := fun (u : zS) => wX ad K sv u.1 u.2.1 u.2.2.1 u.2.2.2) (wr := []) (z_runV (q0 := 1) (wc := (wX ad K sv (upd I 24 z12) J B D)) (As := []) (rest := []) ⟨hx, hb, hml, hown, hts⟩ (w_Text_skip l G K ad sv (upd I 24 z12) J B D  _ H.size hok) zf_Text_skip zn_491 ⟨Nat.le_of_ble_eq_true rfl, Nat.le_of_ble_eq_true rfl⟩ hK hw (List.range 65) wX_all wX_nd wX_g1 rfl rfl hl.1 rfl (Nat.le_of_ble_eq_true rfl) zd_Formula_readAtom_64 ⟨Nat.le_of_ble_eq_true rfl, Nat.le_of_ble_eq_true rfl⟩) hw hA (List.range 65) [] wX_all rfl (by decide) (fun i hi => by cases hi) (fun u H locs hok hw => ?_)
  obtain ⟨I13, J13, B13, D13⟩ := u
  dsimp only at hok
  have hw : zW G A s.heap (wX ad K sv I13 J13 B13 D13) H locs := hw
  refine lv_iload_n hx hb zd_Formula_readAtom_67 rfl (lv_at hl 1 rfl) ?_
  refine lv_if_eq (tgt := 98) hx hb zd_Formula_readAtom_68 (by decide) (fun hc14 => ?_) (fun hc14 => ?_)
  · have hok := hok.1 hc14
    refine lv_aload_n hx hb zd_Formula_readAtom_98 rfl (lv_at hl 0 rfl) ?_
    refine z_get (v := .ref (ad 1)) hx hb hts hown hK hw zZ1 9 wX_g9 0 (by decide) zn_518 rfl zd_Formula_readAtom_99 ?_
    refine lv_bipush (v := 48) hx hb zd_Formula_readAtom_102 (by decide) ?_
    refine z_calli (w1 := fun (u : zS) => wX ad K sv u.1 u.2.1 u.2.2.1 u.2.2.2) (wr := []) (z_runV (q0 := 1) (wc := (wX ad K sv I13 J13 B13 D13)) (As := [.int 48]) (rest := []) ⟨hx, hb, hml, hown, hts⟩ (w_Text_oneOf l G K ad sv I13 J13 B13 D13 48 _ H.size hok) zf_Text_oneOf zn_499 ⟨Nat.le_of_ble_eq_true rfl, Nat.le_of_ble_eq_true rfl⟩ hK hw (List.range 65) wX_all wX_nd wX_g1 rfl rfl hl.1 rfl (Nat.le_of_ble_eq_true rfl) zd_Formula_readAtom_104 ⟨Nat.le_of_ble_eq_true rfl, Nat.le_of_ble_eq_true rfl⟩) hw hA (List.range 65) [] wX_all rfl (by decide) (fun i hi => by cases hi) (fun r15 u H locs hok hw => ?_)
    obtain ⟨I15, J15, B15, D15⟩ := u
    dsimp only at hok
    have hw : zW G A s.heap (wX ad K sv I15 J15 B15 D15) H locs := hw
    refine lv_istore_n hx hb zd_Formula_readAtom_107 rfl hl (by decide) rfl (fun ls hl => ?_)
    have hl : lv_has ls 5 [(2, .int r15), (0, .ref (ad 9)), (1, .int x1)] := hl
    refine lv_iload_n hx hb zd_Formula_readAtom_108 rfl (lv_at hl 0 rfl) ?_
    refine lv_iconst (v := (-1)) hx hb zd_Formula_readAtom_109 (by decide) ?_
    refine lv_icmp_eq (tgt := 124) hx hb zd_Formula_readAtom_110 (by decide) (fun hc16 => ?_) (fun hc16 => ?_)
    · have hok := hok.1 hc16
      exact wJ_Formula_readAtom_124 G K ad sv  Post PX C r15 I15 J15 B15 D15 ls H locs hok (lv_sub hl [1, 0] rfl) hw
    · have hok := hok.2 hc16
      refine lv_iload_n hx hb zd_Formula_readAtom_113 rfl (lv_at hl 0 rfl) ?_
      refine lv_aload_n hx hb zd_Formula_readAtom_114 rfl (lv_at hl 1 rfl) ?_
      refine z_get (v := .ref (ad 3)) hx hb hts hown hK hw zZ1 9 wX_g9 1 (by decide) zn_523 rfl zd_Formula_readAtom_115 ?_
      refine z_get (v := .int (I15 10)) hx hb hts hown hK hw zZ6 3 wX_g3 13 (by decide) zn_524 rfl zd_Formula_readAtom_118 ?_
      refine lv_icmp_lt (tgt := 131) hx hb zd_Formula_readAtom_121 (by decide) (fun hc17 => ?_) (fun hc17 => ?_)
      · have hok := hok.1 hc17
        exact wJ_Formula_readAtom_131 G K ad sv  Post PX C r15 I15 J15 B15 D15 ls H locs hok (lv_sub hl [1, 0] rfl) hw
      · have hok := hok.2 hc17
        exact wJ_Formula_readAtom_124 G K ad sv  Post PX C r15 I15 J15 B15 D15 ls H locs hok (lv_sub hl [1, 0] rfl) hw
  · have hok := hok.2 hc14
    refine lv_aload_n hx hb zd_Formula_readAtom_71 rfl (lv_at hl 0 rfl) ?_
    refine z_get (v := .ref (ad 10)) hx hb hts hown hK hw zZ1 9 wX_g9 2 (by decide) zn_517 rfl zd_Formula_readAtom_72 ?_
    refine lv_iconst (v := 0) hx hb zd_Formula_readAtom_75 (by decide) ?_
    refine z_yV (q0 := 10) (wc := (wX ad K sv I13 J13 B13 D13)) (wr := []) (w1 := fun (u : zS) => wX ad K sv u.1 u.2.1 u.2.2.1 u.2.2.2) (As := [.int 0]) (rest := []) ⟨hx, hb, hml, hown, hts⟩ (w_Terms_read_B l hlt G K ad sv I13 J13 B13 D13 0 _ _ H.size hok) zf_Terms_read zn_498 ⟨Nat.le_of_ble_eq_true rfl, Nat.le_of_ble_eq_true rfl⟩ hK hT hw hA (List.range 65) [] wX_all rfl wX_nd (by decide) (fun i hi => by cases hi) wX_g10 rfl rfl hl.1 rfl (Nat.le_of_ble_eq_true rfl) zd_Formula_readAtom_76 ⟨Nat.le_of_ble_eq_true rfl, Nat.le_of_ble_eq_true rfl⟩ (fun v st9 t9 L9 h0 hq hL => ?_) (fun E ce q9 u H locs hu hw hce hcv hcl => z_yout (u := u) hnt hlocks hce hcv hcl hw (List.range 65) wX_all wX_nd hu (Nat.le_of_ble_eq_true rfl) (Nat.le_of_ble_eq_true rfl))
    obtain ⟨⟨r18, u, hv9, hok, hB9⟩, hF9⟩ := hq
    cases hv9
    have hw := z_back (wr := []) hw hA (List.range 65) [] wX_all rfl (by decide) (fun i hi => by cases hi) h0 hL hB9 hF9
    obtain ⟨I18, J18, B18, D18⟩ := u
    dsimp only at hok
    generalize t9.heap = H at hw ⊢
    generalize locs ++ L9 = locs at hw ⊢
    have hw : zW G A s.heap (wX ad K sv I18 J18 B18 D18) H locs := hw
    refine W.eq (g2 := F0 m 79 ls [.int r18]) rfl ?_
    refine lv_istore_n hx hb zd_Formula_readAtom_79 rfl hl (by decide) rfl (fun ls hl => ?_)
    have hl : lv_has ls 5 [(2, .int r18), (0, .ref (ad 9)), (1, .int x1)] := hl
    refine lv_aload_n hx hb zd_Formula_readAtom_80 rfl (lv_at hl 1 rfl) ?_
    refine z_get (v := .ref (ad 1)) hx hb hts hown hK hw zZ1 9 wX_g9 0 (by decide) zn_518 rfl zd_Formula_readAtom_81 ?_
    refine lv_bipush (v := 125) hx hb zd_Formula_readAtom_84 (by decide) ?_
    refine z_yV (q0 := 1) (wc := (wX ad K sv I18 J18 B18 D18)) (wr := []) (w1 := fun (u : zS) => wX ad K sv u.1 u.2.1 u.2.2.1 u.2.2.2) (As := [.int 125]) (rest := []) ⟨hx, hb, hml, hown, hts⟩ (w_Text_expect l hlt G K ad sv I18 J18 B18 D18 125 _ _ H.size hok) zf_Text_expect zn_496 ⟨Nat.le_of_ble_eq_true rfl, Nat.le_of_ble_eq_true rfl⟩ hK hT hw hA (List.range 65) [] wX_all rfl wX_nd (by decide) (fun i hi => by cases hi) wX_g1 rfl rfl hl.1 rfl (Nat.le_of_ble_eq_true rfl) zd_Formula_readAtom_86 ⟨Nat.le_of_ble_eq_true rfl, Nat.le_of_ble_eq_true rfl⟩ (fun v st9 t9 L9 h0 hq hL => ?_) (fun E ce q9 u H locs hu hw hce hcv hcl => z_yout (u := u) hnt hlocks hce hcv hcl hw (List.range 65) wX_all wX_nd hu (Nat.le_of_ble_eq_true rfl) (Nat.le_of_ble_eq_true rfl))
    obtain ⟨⟨u, hv9, hok, hB9⟩, hF9⟩ := hq
    cases hv9
    have hw := z_back (wr := []) hw hA (List.range 65) [] wX_all rfl (by decide) (fun i hi => by cases hi) h0 hL hB9 hF9
    obtain ⟨I19, J19, B19, D19⟩ := u
    dsimp only at hok
    generalize t9.heap = H at hw ⊢
    generalize locs ++ L9 = locs at hw ⊢
    have hw : zW G A s.heap (wX ad K sv I19 J19 B19 D19) H locs := hw
    refine W.eq (g2 := F0 m 89 ls []) rfl ?_
    refine lv_aload_n hx hb zd_Formula_readAtom_89 rfl (lv_at hl 1 rfl) ?_
    refine lv_bipush (v := 8) hx hb zd_Formula_readAtom_90 (by decide) ?_
    refine lv_iload_n hx hb zd_Formula_readAtom_92 rfl (lv_at hl 0 rfl) ?_
    refine lv_iconst (v := (-1)) hx hb zd_Formula_readAtom_93 (by decide) ?_
    refine z_calli (w1 := fun (u : zS) => wX ad K sv u.1 u.2.1 u.2.2.1 u.2.2.2) (wr := []) (z_runV (q0 := 9) (wc := (wX ad K sv I19 J19 B19 D19)) (As := [.int 8, .int r18, .int (-1)]) (rest := []) ⟨hx, hb, hml, hown, hts⟩ (w_Formula_add l G K ad sv I19 J19 B19 D19 8 r18 (-1) _ H.size hok) zf_Formula_add zn_492 ⟨Nat.le_of_ble_eq_true rfl, Nat.le_of_ble_eq_true rfl⟩ hK hw (List.range 65) wX_all wX_nd wX_g9 rfl rfl hl.1 rfl (Nat.le_of_ble_eq_true rfl) zd_Formula_readAtom_94 ⟨Nat.le_of_ble_eq_true rfl, Nat.le_of_ble_eq_true rfl⟩) hw hA (List.range 65) [] wX_all rfl (by decide) (fun i hi => by cases hi) (fun r20 u H locs hok hw => ?_)
    obtain ⟨I20, J20, B20, D20⟩ := u
    dsimp only at hok
    have hw : zW G A s.heap (wX ad K sv I20 J20 B20 D20) H locs := hw
    exact zy_ret (z_iret (u := (I20, J20, B20, D20)) hx hb hr hlocks rfl hw (List.range 65) wX_all wX_nd hok (Nat.le_of_ble_eq_true rfl) (Nat.le_of_ble_eq_true rfl) zd_Formula_readAtom_97)
set_option maxHeartbeats 8000000 in
set_option maxRecDepth 100000 in
theorem wJ_Formula_readAtom_43 {p : Program} {l : Launch} {e : Env} {s : State} {m : MethodId} {below : List Frame} {meth : Method} {c : Code} {A : Nat → Prop} (G : va_G) (K : Nat → ClassId) (ad : Nat → Nat) (sv : Value) (Post : Int32 → (Nat → Int32) → (Nat → Int64) → (Nat → Nat → Int32) → (Nat → Nat → Int64) → Prop) (PX : String → (Nat → Int32) → (Nat → Int64) → (Nat → Nat → Int32) → (Nat → Nat → Int64) → Prop) (C : zCy p l s m ([.ref (ad 9)] : List Value).toArray meth c A G K prog_2_method_9_code (some .int) 5 "LassoFinder$Formula") : ∀ (x1 : Int32) (I : Nat → Int32) (J : Nat → Int64) (B : Nat → Nat → Int32) (D : Nat → Nat → Int64) (ls : Array Slot) (H : Heap) (locs : List Loc), wc_Formula_readAtom_43  Post PX x1 I J B D → lv_has ls 5 [(0, .ref (ad 9)), (1, .int x1)] → zW G A s.heap (wX ad K sv I J B D) H locs → W p l e { frames := 9, cells := 1, slots := 6, locals := 147 } s m ([.ref (ad 9)] : List Value).toArray below meth c H locs 0 0 (zyMQ below (va_Qi (fun (r : Int32) (u : zS) => Post r u.1 u.2.1 u.2.2.1 u.2.2.2) (fun u t => zPost G K A (wX ad K sv u.1 u.2.1 u.2.2.1 u.2.2.2) t) A) (zYC (fun E (u : zS) => PX E u.1 u.2.1 u.2.2.1 u.2.2.2) (fun u => wX ad K sv u.1 u.2.1 u.2.2.1 u.2.2.2) G K A) ([.ref (ad 9)] : List Value).toArray s 1 6 A) (F0 m 43 ls []) := by
  obtain ⟨hx, hb, hr, hml, hts, hown, hlocks, hA, hK, hT, hnt, hlt⟩ := id C
  intro x1 I J B D ls H locs hok hl hw
  unfold wc_Formula_readAtom_43 at hok
  refine lv_aload_n hx hb zd_Formula_readAtom_43 rfl (lv_at hl 0 rfl) ?_
  refine z_get (v := .ref (ad 1)) hx hb hts hown hK hw zZ1 9 wX_g9 0 (by decide) zn_518 rfl zd_Formula_readAtom_44 ?_
  refine z_yV (q0 := 1) (wc := (wX ad K sv I J B D)) (wr := []) (w1 := fun (u : zS) => wX ad K sv u.1 u.2.1 u.2.2.1 u.2.2.2) (As := []) (rest := []) ⟨hx, hb, hml, hown, hts⟩ (w_Text_refuse l hlt G K ad sv I J B D  _ _ H.size hok) zf_Text_refuse zn_490 ⟨Nat.le_of_ble_eq_true rfl, Nat.le_of_ble_eq_true rfl⟩ hK hT hw hA (List.range 65) [] wX_all rfl wX_nd (by decide) (fun i hi => by cases hi) wX_g1 rfl rfl hl.1 rfl (Nat.le_of_ble_eq_true rfl) zd_Formula_readAtom_47 ⟨Nat.le_of_ble_eq_true rfl, Nat.le_of_ble_eq_true rfl⟩ (fun v st9 t9 L9 h0 hq hL => ?_) (fun E ce q9 u H locs hu hw hce hcv hcl => z_yout (u := u) hnt hlocks hce hcv hcl hw (List.range 65) wX_all wX_nd hu (Nat.le_of_ble_eq_true rfl) (Nat.le_of_ble_eq_true rfl))
  obtain ⟨⟨u, hv9, hok, hB9⟩, hF9⟩ := hq
  cases hv9
  have hw := z_back (wr := []) hw hA (List.range 65) [] wX_all rfl (by decide) (fun i hi => by cases hi) h0 hL hB9 hF9
  obtain ⟨I21, J21, B21, D21⟩ := u
  dsimp only at hok
  generalize t9.heap = H at hw ⊢
  generalize locs ++ L9 = locs at hw ⊢
  have hw : zW G A s.heap (wX ad K sv I21 J21 B21 D21) H locs := hw
  refine W.eq (g2 := F0 m 50 ls []) rfl ?_
  exact wJ_Formula_readAtom_50 G K ad sv  Post PX C x1 I21 J21 B21 D21 ls H locs hok (lv_sub hl [0, 1] rfl) hw
set_option maxHeartbeats 8000000 in
set_option maxRecDepth 100000 in
theorem wJ_Formula_readAtom_17 {p : Program} {l : Launch} {e : Env} {s : State} {m : MethodId} {below : List Frame} {meth : Method} {c : Code} {A : Nat → Prop} (G : va_G) (K : Nat → ClassId) (ad : Nat → Nat) (sv : Value) (Post : Int32 → (Nat → Int32) → (Nat → Int64) → (Nat → Nat → Int32) → (Nat → Nat → Int64) → Prop) (PX : String → (Nat → Int32) → (Nat → Int64) → (Nat → Nat → Int32) → (Nat → Nat → Int64) → Prop) (C : zCy p l s m ([.ref (ad 9)] : List Value).toArray meth c A G K prog_2_method_9_code (some .int) 5 "LassoFinder$Formula") : ∀ (y0 : Int32) (I : Nat → Int32) (J : Nat → Int64) (B : Nat → Nat → Int32) (D : Nat → Nat → Int64) (ls : Array Slot) (H : Heap) (locs : List Loc), wc_Formula_readAtom_17  Post PX y0 I J B D → lv_has ls 5 [(0, .ref (ad 9))] → zW G A s.heap (wX ad K sv I J B D) H locs → W p l e { frames := 9, cells := 1, slots := 6, locals := 147 } s m ([.ref (ad 9)] : List Value).toArray below meth c H locs 0 0 (zyMQ below (va_Qi (fun (r : Int32) (u : zS) => Post r u.1 u.2.1 u.2.2.1 u.2.2.2) (fun u t => zPost G K A (wX ad K sv u.1 u.2.1 u.2.2.1 u.2.2.2) t) A) (zYC (fun E (u : zS) => PX E u.1 u.2.1 u.2.2.1 u.2.2.2) (fun u => wX ad K sv u.1 u.2.1 u.2.2.1 u.2.2.2) G K A) ([.ref (ad 9)] : List Value).toArray s 1 6 A) (F0 m 17 ls [.int y0]) := by
  obtain ⟨hx, hb, hr, hml, hts, hown, hlocks, hA, hK, hT, hnt, hlt⟩ := id C
  intro y0 I J B D ls H locs hok hl hw
  unfold wc_Formula_readAtom_17 at hok
  refine lv_istore_n hx hb zd_Formula_readAtom_17 rfl hl (by decide) rfl (fun ls hl => ?_)
  have hl : lv_has ls 5 [(1, .int y0), (0, .ref (ad 9))] := hl
  refine lv_aload_n hx hb zd_Formula_readAtom_18 rfl (lv_at hl 1 rfl) ?_
  refine z_get (v := .int (I 24)) hx hb hts hown hK hw zZ1 9 wX_g9 10 (by decide) zn_522 rfl zd_Formula_readAtom_19 ?_
  refine lv_bipush (v := 8) hx hb zd_Formula_readAtom_22 (by decide) ?_
  refine lv_icmp_eq (tgt := 43) hx hb zd_Formula_readAtom_24 (by decide) (fun hc22 => ?_) (fun hc22 => ?_)
  · have hok := hok.1 hc22
    exact wJ_Formula_readAtom_43 G K ad sv  Post PX C y0 I J B D ls H locs hok (lv_sub hl [1, 0] rfl) hw
  · have hok := hok.2 hc22
    refine lv_iload_n hx hb zd_Formula_readAtom_27 rfl (lv_at hl 0 rfl) ?_
    refine lv_if_ne (tgt := 50) hx hb zd_Formula_readAtom_28 (by decide) (fun hc23 => ?_) (fun hc23 => ?_)
    · have hok := hok.1 hc23
      exact wJ_Formula_readAtom_50 G K ad sv  Post PX C y0 I J B D ls H locs hok (lv_sub hl [1, 0] rfl) hw
    · have hok := hok.2 hc23
      refine lv_aload_n hx hb zd_Formula_readAtom_31 rfl (lv_at hl 1 rfl) ?_
      refine z_get (v := .ref (ad 1)) hx hb hts hown hK hw zZ1 9 wX_g9 0 (by decide) zn_518 rfl zd_Formula_readAtom_32 ?_
      refine z_calli (w1 := fun (u : zS) => wX ad K sv u.1 u.2.1 u.2.2.1 u.2.2.2) (wr := []) (z_runV (q0 := 1) (wc := (wX ad K sv I J B D)) (As := []) (rest := []) ⟨hx, hb, hml, hown, hts⟩ (w_Text_ahead l G K ad sv I J B D  _ H.size hok) zf_Text_ahead zn_488 ⟨Nat.le_of_ble_eq_true rfl, Nat.le_of_ble_eq_true rfl⟩ hK hw (List.range 65) wX_all wX_nd wX_g1 rfl rfl hl.1 rfl (Nat.le_of_ble_eq_true rfl) zd_Formula_readAtom_35 ⟨Nat.le_of_ble_eq_true rfl, Nat.le_of_ble_eq_true rfl⟩) hw hA (List.range 65) [] wX_all rfl (by decide) (fun i hi => by cases hi) (fun r24 u H locs hok hw => ?_)
      obtain ⟨I24, J24, B24, D24⟩ := u
      dsimp only at hok
      have hw : zW G A s.heap (wX ad K sv I24 J24 B24 D24) H locs := hw
      refine lv_bipush (v := 64) hx hb zd_Formula_readAtom_38 (by decide) ?_
      refine lv_icmp_eq (tgt := 50) hx hb zd_Formula_readAtom_40 (by decide) (fun hc25 => ?_) (fun hc25 => ?_)
      · have hok := hok.1 hc25
        exact wJ_Formula_readAtom_50 G K ad sv  Post PX C y0 I24 J24 B24 D24 ls H locs hok (lv_sub hl [1, 0] rfl) hw
      · have hok := hok.2 hc25
        exact wJ_Formula_readAtom_43 G K ad sv  Post PX C y0 I24 J24 B24 D24 ls H locs hok (lv_sub hl [1, 0] rfl) hw
set_option maxHeartbeats 8000000 in
set_option maxRecDepth 100000 in
theorem w_Formula_readAtom (l : Launch) (hlt : l.stackTraces = false) (G : va_G) (K : Nat → ClassId) (ad : Nat → Nat) (sv : Value) (I : Nat → Int32) (J : Nat → Int64) (B : Nat → Nat → Int32) (D : Nat → Nat → Int64) (Post : Int32 → (Nat → Int32) → (Nat → Int64) → (Nat → Nat → Int32) → (Nat → Nat → Int64) → Prop) (PX : String → (Nat → Int32) → (Nat → Int64) → (Nat → Nat → Int32) → (Nat → Nat → Int64) → Prop) (sz : Nat) (hok : wp_Formula_readAtom I J B D  Post PX) : zyMet l zy_Formula_readAtom (Cond.code zy_Formula_readAtom prog_2_method_9_code 5 (some .int) :: zTB) { frames := 9, cells := 1, slots := 6, locals := 147 } (va_Pc [.ref (ad 9)] (zPreY G K (wX ad K sv I J B D) sz)) (va_Qi (fun (r : Int32) (u : zS) => Post r u.1 u.2.1 u.2.2.1 u.2.2.2) (fun u t => zPost G K (va_A (wX ad K sv I J B D) sz) (wX ad K sv u.1 u.2.1 u.2.2.1 u.2.2.2) t) (va_A (wX ad K sv I J B D) sz)) (zYC (fun E (u : zS) => PX E u.1 u.2.1 u.2.2.1 u.2.2.2) (fun u => wX ad K sv u.1 u.2.1 u.2.2.1 u.2.2.2) G K (va_A (wX ad K sv I J B D) sz)) 1 6 (va_A (wX ad K sv I J B D) sz) := by
  refine zMetY (y := zy_Formula_readAtom) (av := [.ref (ad 9)]) (maxL := 5) (cc := prog_2_method_9_code) (ret := (some .int)) (W0 := (wX ad K sv I J B D)) (sz := sz) (G := G) (K := K) (wt := zTB) (mc := 1) (ms := 6) (Qf := fun A => va_Qi (fun (r : Int32) (u : zS) => Post r u.1 u.2.1 u.2.2.1 u.2.2.2) (fun u t => zPost G K A (wX ad K sv u.1 u.2.1 u.2.2.1 u.2.2.2) t) A) (Xf := fun A => (zYC (fun E (u : zS) => PX E u.1 u.2.1 u.2.2.1 u.2.2.2) (fun u => wX ad K sv u.1 u.2.1 u.2.2.1 u.2.2.2) G K A)) (by decide) (Nat.le_of_ble_eq_true rfl) ?_
  intro p e s m below meth c ls A hx hb hr hml hts hown hlocks hin hA hK H locs hw hsz hl hT hnt
  clear hsz
  have hown : s.vm.findClass "LassoFinder$Formula" = some m.cls := hown
  have C : zCy p l s m ([.ref (ad 9)] : List Value).toArray meth c A G K prog_2_method_9_code (some .int) 5 "LassoFinder$Formula" := ⟨hx, hb, hr, hml, hts, hown, hlocks, hA, hK, hT, hnt, hlt⟩
  have hl : lv_has ls 5 [(0, .ref (ad 9))] := hl
  have hw : zW G A s.heap (wX ad K sv I J B D) H locs := hw
  unfold wp_Formula_readAtom at hok
  refine lv_aload_n hx hb zd_Formula_readAtom_0 rfl (lv_at hl 0 rfl) ?_
  refine z_get (v := .ref (ad 1)) hx hb hts hown hK hw zZ1 9 wX_g9 0 (by decide) zn_518 rfl zd_Formula_readAtom_1 ?_
  refine z_calli (w1 := fun (u : zS) => wX ad K sv u.1 u.2.1 u.2.2.1 u.2.2.2) (wr := []) (z_runV (q0 := 1) (wc := (wX ad K sv I J B D)) (As := []) (rest := []) ⟨hx, hb, hml, hown, hts⟩ (w_Text_ahead l G K ad sv I J B D  _ H.size hok) zf_Text_ahead zn_488 ⟨Nat.le_of_ble_eq_true rfl, Nat.le_of_ble_eq_true rfl⟩ hK hw (List.range 65) wX_all wX_nd wX_g1 rfl rfl hl.1 rfl (Nat.le_of_ble_eq_true rfl) zd_Formula_readAtom_4 ⟨Nat.le_of_ble_eq_true rfl, Nat.le_of_ble_eq_true rfl⟩) hw hA (List.range 65) [] wX_all rfl (by decide) (fun i hi => by cases hi) (fun r26 u H locs hok hw => ?_)
  obtain ⟨I26, J26, B26, D26⟩ := u
  dsimp only at hok
  have hw : zW G A s.heap (wX ad K sv I26 J26 B26 D26) H locs := hw
  refine lv_bipush (v := 123) hx hb zd_Formula_readAtom_7 (by decide) ?_
  refine lv_icmp_ne (tgt := 16) hx hb zd_Formula_readAtom_9 (by decide) (fun hc27 => ?_) (fun hc27 => ?_)
  · have hok := hok.1 hc27
    refine lv_iconst (v := 0) hx hb zd_Formula_readAtom_16 (by decide) ?_
    exact wJ_Formula_readAtom_17 G K ad sv  Post PX C 0 I26 J26 B26 D26 ls H locs hok (lv_sub hl [0] rfl) hw
  · have hok := hok.2 hc27
    refine lv_iconst (v := 1) hx hb zd_Formula_readAtom_12 (by decide) ?_
    refine lv_goto (tgt := 17) hx hb zd_Formula_readAtom_13 (by decide) ?_
    exact wJ_Formula_readAtom_17 G K ad sv  Post PX C 1 I26 J26 B26 D26 ls H locs hok (lv_sub hl [0] rfl) hw
def wp_Truths_carried (I : Nat → Int32) (J : Nat → Int64) (B : Nat → Nat → Int32) (D : Nat → Nat → Int64) (a0 : Int32) (a1 : Int32) (Post : Int32 → (Nat → Int32) → (Nat → Int64) → (Nat → Nat → Int32) → (Nat → Nat → Int64) → Prop) : Prop :=
  vp_in a0 240 ∧ ∀ z1 : Int32, z1 = ((B 40) a0.toNatClampNeg) → vp_in z1 240 ∧ ∀ z2 : Int32, z2 = ((B 46) z1.toNatClampNeg) → vp_in a0 240 ∧ ∀ z3 : Int32, z3 = ((B 39) a0.toNatClampNeg) → ((z3 = 4 → ∀ z5 : Int32, z5 = (z2 &&& a1) → Post z5 I J B D) ∧ (z3 = 5 → ∀ z7 : Int32, z7 = (z2 ||| a1) → Post z7 I J B D) ∧ (z3 = 6 → vp_in a0 240 ∧ ∀ z9 : Int32, z9 = ((B 41) a0.toNatClampNeg) → vp_in z9 240 ∧ ∀ z10 : Int32, z10 = ((B 46) z9.toNatClampNeg) → ∀ z11 : Int32, z11 = (z2 &&& a1) → ∀ z12 : Int32, z12 = (z10 ||| z11) → Post z12 I J B D) ∧ (¬ z3 = 4 → ¬ z3 = 5 → ¬ z3 = 6 → vp_in a0 240 ∧ ∀ z13 : Int32, z13 = ((B 41) a0.toNatClampNeg) → vp_in z13 240 ∧ ∀ z14 : Int32, z14 = ((B 46) z13.toNatClampNeg) → ∀ z15 : Int32, z15 = (z2 ||| a1) → ∀ z16 : Int32, z16 = (z14 &&& z15) → Post z16 I J B D))
set_option maxHeartbeats 8000000 in
set_option maxRecDepth 100000 in
theorem w_Truths_carried (l : Launch) (G : va_G) (K : Nat → ClassId) (ad : Nat → Nat) (sv : Value) (I : Nat → Int32) (J : Nat → Int64) (B : Nat → Nat → Int32) (D : Nat → Nat → Int64) (a0 : Int32) (a1 : Int32) (Post : Int32 → (Nat → Int32) → (Nat → Int64) → (Nat → Nat → Int32) → (Nat → Nat → Int64) → Prop) (sz : Nat) (hok : wp_Truths_carried I J B D a0 a1 Post) : Met l zy_Truths_carried (Cond.code zy_Truths_carried prog_12_method_8_code 4 (some .int) :: zTB) { frames := 0, cells := 0, slots := 0, locals := 0 } (va_Pc [.ref (ad 11), .int a0, .int a1] (zPre G K (wX ad K sv I J B D) sz)) (va_Qi (fun (r : Int32) (u : zS) => Post r u.1 u.2.1 u.2.2.1 u.2.2.2) (fun u t => zPost G K (va_A (wX ad K sv I J B D) sz) (wX ad K sv u.1 u.2.1 u.2.2.1 u.2.2.2) t) (va_A (wX ad K sv I J B D) sz)) 0 0 (va_A (wX ad K sv I J B D) sz) := by
  refine zMet (y := zy_Truths_carried) (av := [.ref (ad 11), .int a0, .int a1]) (maxL := 4) (cc := prog_12_method_8_code) (ret := (some .int)) (W0 := (wX ad K sv I J B D)) (sz := sz) (G := G) (K := K) (wt := zTB) (mc := 0) (ms := 0) (Qf := fun A => va_Qi (fun (r : Int32) (u : zS) => Post r u.1 u.2.1 u.2.2.1 u.2.2.2) (fun u t => zPost G K A (wX ad K sv u.1 u.2.1 u.2.2.1 u.2.2.2) t) A) (by decide) (Nat.le_of_ble_eq_true rfl) ?_
  intro p e s m below meth c ls A hx hb hr hml hts hown hlocks hin hA hK H locs hw hsz hl
  clear hsz
  have hown : s.vm.findClass "LassoFinder$Truths" = some m.cls := hown
  have C : zCx p s m ([.ref (ad 11), .int a0, .int a1] : List Value).toArray meth c A G K prog_12_method_8_code (some .int) 4 "LassoFinder$Truths" := ⟨hx, hb, hr, hml, hts, hown, hlocks, hA, hK⟩
  have hl : lv_has ls 4 [(0, .ref (ad 11)), (1, .int a0), (2, .int a1)] := hl
  have hw : zW G A s.heap (wX ad K sv I J B D) H locs := hw
  unfold wp_Truths_carried at hok
  refine lv_aload_n hx hb zd_Truths_carried_0 rfl (lv_at hl 0 rfl) ?_
  refine z_get (v := .ref (ad 61)) hx hb hts hown hK hw zZ11 11 wX_g11 3 (by decide) zn_281 rfl zd_Truths_carried_1 ?_
  refine lv_aload_n hx hb zd_Truths_carried_4 rfl (lv_at hl 0 rfl) ?_
  refine z_get (v := .ref (ad 9)) hx hb hts hown hK hw zZ11 11 wX_g11 2 (by decide) zn_526 rfl zd_Truths_carried_5 ?_
  refine z_get (v := .ref (ad 55)) hx hb hts hown hK hw zZ1 9 wX_g9 4 (by decide) zn_537 rfl zd_Truths_carried_8 ?_
  refine lv_iload_n hx hb zd_Truths_carried_11 rfl (lv_at hl 1 rfl) ?_
  refine va_iald (f := (B 40)) hx hb hK hw.1 55 0 wX_a55 rfl hok.1 zd_Truths_carried_12 ?_
  have hok := hok.2
  refine lv_topi (fun z1 ez1 => ?_)
  have hok := hok z1 ez1
  refine va_iald (f := (B 46)) hx hb hK hw.1 61 0 wX_a61 rfl hok.1 zd_Truths_carried_13 ?_
  have hok := hok.2
  refine lv_topi (fun z2 ez2 => ?_)
  have hok := hok z2 ez2
  refine lv_istore_n hx hb zd_Truths_carried_14 rfl hl (by decide) rfl (fun ls hl => ?_)
  have hl : lv_has ls 4 [(3, .int z2), (0, .ref (ad 11)), (1, .int a0), (2, .int a1)] := hl
  refine lv_aload_n hx hb zd_Truths_carried_15 rfl (lv_at hl 1 rfl) ?_
  refine z_get (v := .ref (ad 9)) hx hb hts hown hK hw zZ11 11 wX_g11 2 (by decide) zn_526 rfl zd_Truths_carried_16 ?_
  refine z_get (v := .ref (ad 54)) hx hb hts hown hK hw zZ1 9 wX_g9 3 (by decide) zn_528 rfl zd_Truths_carried_19 ?_
  refine lv_iload_n hx hb zd_Truths_carried_22 rfl (lv_at hl 2 rfl) ?_
  refine va_iald (f := (B 39)) hx hb hK hw.1 54 0 wX_a54 rfl hok.1 zd_Truths_carried_23 ?_
  have hok := hok.2
  refine lv_topi (fun z3 ez3 => ?_)
  have hok := hok z3 ez3
  by_cases hs4 : z3 = 4
  · have hok := hok.1 hs4
    refine lv_tableIn (off := 28) (tgt := 52) hx hb zd_Truths_carried_24 (by rw [hs4]; decide) (by rw [hs4]; decide) (by rw [hs4]; decide) (by decide) ?_
    refine lv_iload_n hx hb zd_Truths_carried_52 rfl (lv_at hl 0 rfl) ?_
    refine lv_iload_n hx hb zd_Truths_carried_53 rfl (lv_at hl 3 rfl) ?_
    refine lv_iand hx hb zd_Truths_carried_54 ?_
    refine lv_topi (fun z5 ez5 => ?_)
    have hok := hok z5 ez5
    exact (z_iret (u := (I, J, B, D)) hx hb hr hlocks rfl hw (List.range 65) wX_all wX_nd hok (Nat.le_of_ble_eq_true rfl) (Nat.le_of_ble_eq_true rfl) zd_Truths_carried_55)
  by_cases hs6 : z3 = 5
  · have hok := hok.2.1 hs6
    refine lv_tableIn (off := 32) (tgt := 56) hx hb zd_Truths_carried_24 (by rw [hs6]; decide) (by rw [hs6]; decide) (by rw [hs6]; decide) (by decide) ?_
    refine lv_iload_n hx hb zd_Truths_carried_56 rfl (lv_at hl 0 rfl) ?_
    refine lv_iload_n hx hb zd_Truths_carried_57 rfl (lv_at hl 3 rfl) ?_
    refine lv_ior hx hb zd_Truths_carried_58 ?_
    refine lv_topi (fun z7 ez7 => ?_)
    have hok := hok z7 ez7
    exact (z_iret (u := (I, J, B, D)) hx hb hr hlocks rfl hw (List.range 65) wX_all wX_nd hok (Nat.le_of_ble_eq_true rfl) (Nat.le_of_ble_eq_true rfl) zd_Truths_carried_59)
  by_cases hs8 : z3 = 6
  · have hok := hok.2.2.1 hs8
    refine lv_tableIn (off := 36) (tgt := 60) hx hb zd_Truths_carried_24 (by rw [hs8]; decide) (by rw [hs8]; decide) (by rw [hs8]; decide) (by decide) ?_
    refine lv_aload_n hx hb zd_Truths_carried_60 rfl (lv_at hl 1 rfl) ?_
    refine z_get (v := .ref (ad 61)) hx hb hts hown hK hw zZ11 11 wX_g11 3 (by decide) zn_281 rfl zd_Truths_carried_61 ?_
    refine lv_aload_n hx hb zd_Truths_carried_64 rfl (lv_at hl 1 rfl) ?_
    refine z_get (v := .ref (ad 9)) hx hb hts hown hK hw zZ11 11 wX_g11 2 (by decide) zn_526 rfl zd_Truths_carried_65 ?_
    refine z_get (v := .ref (ad 56)) hx hb hts hown hK hw zZ1 9 wX_g9 5 (by decide) zn_538 rfl zd_Truths_carried_68 ?_
    refine lv_iload_n hx hb zd_Truths_carried_71 rfl (lv_at hl 2 rfl) ?_
    refine va_iald (f := (B 41)) hx hb hK hw.1 56 0 wX_a56 rfl hok.1 zd_Truths_carried_72 ?_
    have hok := hok.2
    refine lv_topi (fun z9 ez9 => ?_)
    have hok := hok z9 ez9
    refine va_iald (f := (B 46)) hx hb hK hw.1 61 0 wX_a61 rfl hok.1 zd_Truths_carried_73 ?_
    have hok := hok.2
    refine lv_topi (fun z10 ez10 => ?_)
    have hok := hok z10 ez10
    refine lv_iload_n hx hb zd_Truths_carried_74 rfl (lv_at hl 0 rfl) ?_
    refine lv_iload_n hx hb zd_Truths_carried_75 rfl (lv_at hl 3 rfl) ?_
    refine lv_iand hx hb zd_Truths_carried_76 ?_
    refine lv_topi (fun z11 ez11 => ?_)
    have hok := hok z11 ez11
    refine lv_ior hx hb zd_Truths_carried_77 ?_
    refine lv_topi (fun z12 ez12 => ?_)
    have hok := hok z12 ez12
    exact (z_iret (u := (I, J, B, D)) hx hb hr hlocks rfl hw (List.range 65) wX_all wX_nd hok (Nat.le_of_ble_eq_true rfl) (Nat.le_of_ble_eq_true rfl) zd_Truths_carried_78)
  have hok := hok.2.2.2 hs4 hs6 hs8
  refine lv_tableOut (tgt := 79) hx hb zd_Truths_carried_24 (by have h0 := lv_neT hs4 (a := 4) (by decide); have h1 := lv_neT hs6 (a := 5) (by decide); have h2 := lv_neT hs8 (a := 6) (by decide); omega) (by decide) ?_
  refine lv_aload_n hx hb zd_Truths_carried_79 rfl (lv_at hl 1 rfl) ?_
  refine z_get (v := .ref (ad 61)) hx hb hts hown hK hw zZ11 11 wX_g11 3 (by decide) zn_281 rfl zd_Truths_carried_80 ?_
  refine lv_aload_n hx hb zd_Truths_carried_83 rfl (lv_at hl 1 rfl) ?_
  refine z_get (v := .ref (ad 9)) hx hb hts hown hK hw zZ11 11 wX_g11 2 (by decide) zn_526 rfl zd_Truths_carried_84 ?_
  refine z_get (v := .ref (ad 56)) hx hb hts hown hK hw zZ1 9 wX_g9 5 (by decide) zn_538 rfl zd_Truths_carried_87 ?_
  refine lv_iload_n hx hb zd_Truths_carried_90 rfl (lv_at hl 2 rfl) ?_
  refine va_iald (f := (B 41)) hx hb hK hw.1 56 0 wX_a56 rfl hok.1 zd_Truths_carried_91 ?_
  have hok := hok.2
  refine lv_topi (fun z13 ez13 => ?_)
  have hok := hok z13 ez13
  refine va_iald (f := (B 46)) hx hb hK hw.1 61 0 wX_a61 rfl hok.1 zd_Truths_carried_92 ?_
  have hok := hok.2
  refine lv_topi (fun z14 ez14 => ?_)
  have hok := hok z14 ez14
  refine lv_iload_n hx hb zd_Truths_carried_93 rfl (lv_at hl 0 rfl) ?_
  refine lv_iload_n hx hb zd_Truths_carried_94 rfl (lv_at hl 3 rfl) ?_
  refine lv_ior hx hb zd_Truths_carried_95 ?_
  refine lv_topi (fun z15 ez15 => ?_)
  have hok := hok z15 ez15
  refine lv_iand hx hb zd_Truths_carried_96 ?_
  refine lv_topi (fun z16 ez16 => ?_)
  have hok := hok z16 ez16
  exact (z_iret (u := (I, J, B, D)) hx hb hr hlocks rfl hw (List.range 65) wX_all wX_nd hok (Nat.le_of_ble_eq_true rfl) (Nat.le_of_ble_eq_true rfl) zd_Truths_carried_97)
def wp_Truths_joined (I : Nat → Int32) (J : Nat → Int64) (B : Nat → Nat → Int32) (D : Nat → Nat → Int64) (a0 : Int32) (Post : Int32 → (Nat → Int32) → (Nat → Int64) → (Nat → Nat → Int32) → (Nat → Nat → Int64) → Prop) : Prop :=
  vp_in a0 240 ∧ ∀ z1 : Int32, z1 = ((B 40) a0.toNatClampNeg) → vp_in z1 240 ∧ ∀ z2 : Int32, z2 = ((B 46) z1.toNatClampNeg) → vp_in a0 240 ∧ ∀ z3 : Int32, z3 = ((B 39) a0.toNatClampNeg) → ((z3 = 0 → ∀ z5 : Int32, z5 = (z2 ^^^ 255) → Post z5 I J B D) ∧ (z3 = 1 → vp_in a0 240 ∧ ∀ z7 : Int32, z7 = ((B 41) a0.toNatClampNeg) → vp_in z7 240 ∧ ∀ z8 : Int32, z8 = ((B 46) z7.toNatClampNeg) → ∀ z9 : Int32, z9 = (z2 &&& z8) → Post z9 I J B D) ∧ (z3 = 2 → vp_in a0 240 ∧ ∀ z11 : Int32, z11 = ((B 41) a0.toNatClampNeg) → vp_in z11 240 ∧ ∀ z12 : Int32, z12 = ((B 46) z11.toNatClampNeg) → ∀ z13 : Int32, z13 = (z2 ||| z12) → Post z13 I J B D) ∧ (¬ z3 = 0 → ¬ z3 = 1 → ¬ z3 = 2 → ∀ z14 : Int32, z14 = (z2 ^^^ 255) → vp_in a0 240 ∧ ∀ z15 : Int32, z15 = ((B 41) a0.toNatClampNeg) → vp_in z15 240 ∧ ∀ z16 : Int32, z16 = ((B 46) z15.toNatClampNeg) → ∀ z17 : Int32, z17 = (z14 ||| z16) → Post z17 I J B D))
set_option maxHeartbeats 8000000 in
set_option maxRecDepth 100000 in
theorem w_Truths_joined (l : Launch) (G : va_G) (K : Nat → ClassId) (ad : Nat → Nat) (sv : Value) (I : Nat → Int32) (J : Nat → Int64) (B : Nat → Nat → Int32) (D : Nat → Nat → Int64) (a0 : Int32) (Post : Int32 → (Nat → Int32) → (Nat → Int64) → (Nat → Nat → Int32) → (Nat → Nat → Int64) → Prop) (sz : Nat) (hok : wp_Truths_joined I J B D a0 Post) : Met l zy_Truths_joined (Cond.code zy_Truths_joined prog_12_method_7_code 3 (some .int) :: zTB) { frames := 0, cells := 0, slots := 0, locals := 0 } (va_Pc [.ref (ad 11), .int a0] (zPre G K (wX ad K sv I J B D) sz)) (va_Qi (fun (r : Int32) (u : zS) => Post r u.1 u.2.1 u.2.2.1 u.2.2.2) (fun u t => zPost G K (va_A (wX ad K sv I J B D) sz) (wX ad K sv u.1 u.2.1 u.2.2.1 u.2.2.2) t) (va_A (wX ad K sv I J B D) sz)) 0 0 (va_A (wX ad K sv I J B D) sz) := by
  refine zMet (y := zy_Truths_joined) (av := [.ref (ad 11), .int a0]) (maxL := 3) (cc := prog_12_method_7_code) (ret := (some .int)) (W0 := (wX ad K sv I J B D)) (sz := sz) (G := G) (K := K) (wt := zTB) (mc := 0) (ms := 0) (Qf := fun A => va_Qi (fun (r : Int32) (u : zS) => Post r u.1 u.2.1 u.2.2.1 u.2.2.2) (fun u t => zPost G K A (wX ad K sv u.1 u.2.1 u.2.2.1 u.2.2.2) t) A) (by decide) (Nat.le_of_ble_eq_true rfl) ?_
  intro p e s m below meth c ls A hx hb hr hml hts hown hlocks hin hA hK H locs hw hsz hl
  clear hsz
  have hown : s.vm.findClass "LassoFinder$Truths" = some m.cls := hown
  have C : zCx p s m ([.ref (ad 11), .int a0] : List Value).toArray meth c A G K prog_12_method_7_code (some .int) 3 "LassoFinder$Truths" := ⟨hx, hb, hr, hml, hts, hown, hlocks, hA, hK⟩
  have hl : lv_has ls 3 [(0, .ref (ad 11)), (1, .int a0)] := hl
  have hw : zW G A s.heap (wX ad K sv I J B D) H locs := hw
  unfold wp_Truths_joined at hok
  refine lv_aload_n hx hb zd_Truths_joined_0 rfl (lv_at hl 0 rfl) ?_
  refine z_get (v := .ref (ad 61)) hx hb hts hown hK hw zZ11 11 wX_g11 3 (by decide) zn_281 rfl zd_Truths_joined_1 ?_
  refine lv_aload_n hx hb zd_Truths_joined_4 rfl (lv_at hl 0 rfl) ?_
  refine z_get (v := .ref (ad 9)) hx hb hts hown hK hw zZ11 11 wX_g11 2 (by decide) zn_526 rfl zd_Truths_joined_5 ?_
  refine z_get (v := .ref (ad 55)) hx hb hts hown hK hw zZ1 9 wX_g9 4 (by decide) zn_537 rfl zd_Truths_joined_8 ?_
  refine lv_iload_n hx hb zd_Truths_joined_11 rfl (lv_at hl 1 rfl) ?_
  refine va_iald (f := (B 40)) hx hb hK hw.1 55 0 wX_a55 rfl hok.1 zd_Truths_joined_12 ?_
  have hok := hok.2
  refine lv_topi (fun z1 ez1 => ?_)
  have hok := hok z1 ez1
  refine va_iald (f := (B 46)) hx hb hK hw.1 61 0 wX_a61 rfl hok.1 zd_Truths_joined_13 ?_
  have hok := hok.2
  refine lv_topi (fun z2 ez2 => ?_)
  have hok := hok z2 ez2
  refine lv_istore_n hx hb zd_Truths_joined_14 rfl hl (by decide) rfl (fun ls hl => ?_)
  have hl : lv_has ls 3 [(2, .int z2), (0, .ref (ad 11)), (1, .int a0)] := hl
  refine lv_aload_n hx hb zd_Truths_joined_15 rfl (lv_at hl 1 rfl) ?_
  refine z_get (v := .ref (ad 9)) hx hb hts hown hK hw zZ11 11 wX_g11 2 (by decide) zn_526 rfl zd_Truths_joined_16 ?_
  refine z_get (v := .ref (ad 54)) hx hb hts hown hK hw zZ1 9 wX_g9 3 (by decide) zn_528 rfl zd_Truths_joined_19 ?_
  refine lv_iload_n hx hb zd_Truths_joined_22 rfl (lv_at hl 2 rfl) ?_
  refine va_iald (f := (B 39)) hx hb hK hw.1 54 0 wX_a54 rfl hok.1 zd_Truths_joined_23 ?_
  have hok := hok.2
  refine lv_topi (fun z3 ez3 => ?_)
  have hok := hok z3 ez3
  by_cases hs4 : z3 = 0
  · have hok := hok.1 hs4
    refine lv_tableIn (off := 28) (tgt := 52) hx hb zd_Truths_joined_24 (by rw [hs4]; decide) (by rw [hs4]; decide) (by rw [hs4]; decide) (by decide) ?_
    refine lv_iload_n hx hb zd_Truths_joined_52 rfl (lv_at hl 0 rfl) ?_
    refine lv_sipush (v := 255) hx hb zd_Truths_joined_53 (by decide) ?_
    refine lv_ixor hx hb zd_Truths_joined_56 ?_
    refine lv_topi (fun z5 ez5 => ?_)
    have hok := hok z5 ez5
    exact (z_iret (u := (I, J, B, D)) hx hb hr hlocks rfl hw (List.range 65) wX_all wX_nd hok (Nat.le_of_ble_eq_true rfl) (Nat.le_of_ble_eq_true rfl) zd_Truths_joined_57)
  by_cases hs6 : z3 = 1
  · have hok := hok.2.1 hs6
    refine lv_tableIn (off := 34) (tgt := 58) hx hb zd_Truths_joined_24 (by rw [hs6]; decide) (by rw [hs6]; decide) (by rw [hs6]; decide) (by decide) ?_
    refine lv_iload_n hx hb zd_Truths_joined_58 rfl (lv_at hl 0 rfl) ?_
    refine lv_aload_n hx hb zd_Truths_joined_59 rfl (lv_at hl 1 rfl) ?_
    refine z_get (v := .ref (ad 61)) hx hb hts hown hK hw zZ11 11 wX_g11 3 (by decide) zn_281 rfl zd_Truths_joined_60 ?_
    refine lv_aload_n hx hb zd_Truths_joined_63 rfl (lv_at hl 1 rfl) ?_
    refine z_get (v := .ref (ad 9)) hx hb hts hown hK hw zZ11 11 wX_g11 2 (by decide) zn_526 rfl zd_Truths_joined_64 ?_
    refine z_get (v := .ref (ad 56)) hx hb hts hown hK hw zZ1 9 wX_g9 5 (by decide) zn_538 rfl zd_Truths_joined_67 ?_
    refine lv_iload_n hx hb zd_Truths_joined_70 rfl (lv_at hl 2 rfl) ?_
    refine va_iald (f := (B 41)) hx hb hK hw.1 56 0 wX_a56 rfl hok.1 zd_Truths_joined_71 ?_
    have hok := hok.2
    refine lv_topi (fun z7 ez7 => ?_)
    have hok := hok z7 ez7
    refine va_iald (f := (B 46)) hx hb hK hw.1 61 0 wX_a61 rfl hok.1 zd_Truths_joined_72 ?_
    have hok := hok.2
    refine lv_topi (fun z8 ez8 => ?_)
    have hok := hok z8 ez8
    refine lv_iand hx hb zd_Truths_joined_73 ?_
    refine lv_topi (fun z9 ez9 => ?_)
    have hok := hok z9 ez9
    exact (z_iret (u := (I, J, B, D)) hx hb hr hlocks rfl hw (List.range 65) wX_all wX_nd hok (Nat.le_of_ble_eq_true rfl) (Nat.le_of_ble_eq_true rfl) zd_Truths_joined_74)
  by_cases hs10 : z3 = 2
  · have hok := hok.2.2.1 hs10
    refine lv_tableIn (off := 51) (tgt := 75) hx hb zd_Truths_joined_24 (by rw [hs10]; decide) (by rw [hs10]; decide) (by rw [hs10]; decide) (by decide) ?_
    refine lv_iload_n hx hb zd_Truths_joined_75 rfl (lv_at hl 0 rfl) ?_
    refine lv_aload_n hx hb zd_Truths_joined_76 rfl (lv_at hl 1 rfl) ?_
    refine z_get (v := .ref (ad 61)) hx hb hts hown hK hw zZ11 11 wX_g11 3 (by decide) zn_281 rfl zd_Truths_joined_77 ?_
    refine lv_aload_n hx hb zd_Truths_joined_80 rfl (lv_at hl 1 rfl) ?_
    refine z_get (v := .ref (ad 9)) hx hb hts hown hK hw zZ11 11 wX_g11 2 (by decide) zn_526 rfl zd_Truths_joined_81 ?_
    refine z_get (v := .ref (ad 56)) hx hb hts hown hK hw zZ1 9 wX_g9 5 (by decide) zn_538 rfl zd_Truths_joined_84 ?_
    refine lv_iload_n hx hb zd_Truths_joined_87 rfl (lv_at hl 2 rfl) ?_
    refine va_iald (f := (B 41)) hx hb hK hw.1 56 0 wX_a56 rfl hok.1 zd_Truths_joined_88 ?_
    have hok := hok.2
    refine lv_topi (fun z11 ez11 => ?_)
    have hok := hok z11 ez11
    refine va_iald (f := (B 46)) hx hb hK hw.1 61 0 wX_a61 rfl hok.1 zd_Truths_joined_89 ?_
    have hok := hok.2
    refine lv_topi (fun z12 ez12 => ?_)
    have hok := hok z12 ez12
    refine lv_ior hx hb zd_Truths_joined_90 ?_
    refine lv_topi (fun z13 ez13 => ?_)
    have hok := hok z13 ez13
    exact (z_iret (u := (I, J, B, D)) hx hb hr hlocks rfl hw (List.range 65) wX_all wX_nd hok (Nat.le_of_ble_eq_true rfl) (Nat.le_of_ble_eq_true rfl) zd_Truths_joined_91)
  have hok := hok.2.2.2 hs4 hs6 hs10
  refine lv_tableOut (tgt := 92) hx hb zd_Truths_joined_24 (by have h0 := lv_neT hs4 (a := 0) (by decide); have h1 := lv_neT hs6 (a := 1) (by decide); have h2 := lv_neT hs10 (a := 2) (by decide); omega) (by decide) ?_
  refine lv_iload_n hx hb zd_Truths_joined_92 rfl (lv_at hl 0 rfl) ?_
  refine lv_sipush (v := 255) hx hb zd_Truths_joined_93 (by decide) ?_
  refine lv_ixor hx hb zd_Truths_joined_96 ?_
  refine lv_topi (fun z14 ez14 => ?_)
  have hok := hok z14 ez14
  refine lv_aload_n hx hb zd_Truths_joined_97 rfl (lv_at hl 1 rfl) ?_
  refine z_get (v := .ref (ad 61)) hx hb hts hown hK hw zZ11 11 wX_g11 3 (by decide) zn_281 rfl zd_Truths_joined_98 ?_
  refine lv_aload_n hx hb zd_Truths_joined_101 rfl (lv_at hl 1 rfl) ?_
  refine z_get (v := .ref (ad 9)) hx hb hts hown hK hw zZ11 11 wX_g11 2 (by decide) zn_526 rfl zd_Truths_joined_102 ?_
  refine z_get (v := .ref (ad 56)) hx hb hts hown hK hw zZ1 9 wX_g9 5 (by decide) zn_538 rfl zd_Truths_joined_105 ?_
  refine lv_iload_n hx hb zd_Truths_joined_108 rfl (lv_at hl 2 rfl) ?_
  refine va_iald (f := (B 41)) hx hb hK hw.1 56 0 wX_a56 rfl hok.1 zd_Truths_joined_109 ?_
  have hok := hok.2
  refine lv_topi (fun z15 ez15 => ?_)
  have hok := hok z15 ez15
  refine va_iald (f := (B 46)) hx hb hK hw.1 61 0 wX_a61 rfl hok.1 zd_Truths_joined_110 ?_
  have hok := hok.2
  refine lv_topi (fun z16 ez16 => ?_)
  have hok := hok z16 ez16
  refine lv_ior hx hb zd_Truths_joined_111 ?_
  refine lv_topi (fun z17 ez17 => ?_)
  have hok := hok z17 ez17
  exact (z_iret (u := (I, J, B, D)) hx hb hr hlocks rfl hw (List.range 65) wX_all wX_nd hok (Nat.le_of_ble_eq_true rfl) (Nat.le_of_ble_eq_true rfl) zd_Truths_joined_112)
def wc_Terms_reckon_ad43_B_109 (a0 : Int32) (Post : Int32 → (Nat → Int32) → (Nat → Int64) → (Nat → Nat → Int32) → (Nat → Nat → Int64) → Prop)  (I : Nat → Int32) (J : Nat → Int64) (B : Nat → Nat → Int32) (D : Nat → Nat → Int64) : Prop :=
  vp_in 0 13 ∧ ∀ z1 : Int32, z1 = ((B 45) (0 : Int32).toNatClampNeg) → Post z1 I J B D
def wc_Terms_reckon_ad43_B_103 (a0 : Int32) (K5 : Int32 → Int32 → (Nat → Int32) → (Nat → Int64) → (Nat → Nat → Int32) → (Nat → Nat → Int64) → Prop) (Post : Int32 → (Nat → Int32) → (Nat → Int64) → (Nat → Nat → Int32) → (Nat → Nat → Int64) → Prop) (x3 : Int32) (x4 : Int32) (I : Nat → Int32) (J : Nat → Int64) (B : Nat → Nat → Int32) (D : Nat → Nat → Int64) : Prop :=
  ∀ z2 : Int32, z2 = (x4 + 1) → K5 x3 z2 I J B D
def wc_Terms_reckon_ad43_B_99 (a0 : Int32) (K5 : Int32 → Int32 → (Nat → Int32) → (Nat → Int64) → (Nat → Nat → Int32) → (Nat → Nat → Int64) → Prop) (Post : Int32 → (Nat → Int32) → (Nat → Int64) → (Nat → Nat → Int32) → (Nat → Nat → Int64) → Prop) (x3 : Int32) (x4 : Int32) (y0 : Int32) (y1 : Int32) (I : Nat → Int32) (J : Nat → Int64) (B : Nat → Nat → Int32) (D : Nat → Nat → Int64) : Prop :=
  vp_in y1 13 ∧ ∀ z3 : Int32, z3 = (x3 + 1) → wc_Terms_reckon_ad43_B_103 a0 K5 Post z3 x4 I J (va_up B 45 (upd (B 45) y1.toNatClampNeg y0)) D
def wb_Terms_reckon_ad43_B_5 (a0 : Int32) (K5 : Int32 → Int32 → (Nat → Int32) → (Nat → Int64) → (Nat → Nat → Int32) → (Nat → Nat → Int64) → Prop) (Post : Int32 → (Nat → Int32) → (Nat → Int64) → (Nat → Nat → Int32) → (Nat → Nat → Int64) → Prop) (x3 : Int32) (x4 : Int32) (I : Nat → Int32) (J : Nat → Int64) (B : Nat → Nat → Int32) (D : Nat → Nat → Int64) : Prop :=
  (((I 25) ≤ x4 → wc_Terms_reckon_ad43_B_109 a0 Post I J B D) ∧ (¬ (I 25) ≤ x4 → vp_in x4 480 ∧ ∀ z5 : Int32, z5 = ((B 43) x4.toNatClampNeg) → ((z5 = 22 → wc_Terms_reckon_ad43_B_109 a0 Post I J B D) ∧ (¬ z5 = 22 → vp_in x4 480 ∧ ∀ z7 : Int32, z7 = ((B 43) x4.toNatClampNeg) → ((z7 < 16 → ((z7 < 8 → wc_Terms_reckon_ad43_B_99 a0 K5 Post x3 x4 z7 x3 I J B D) ∧ (¬ z7 < 8 → ∀ z10 : Int32, z10 = (z7 - 8) → vp_in z10 8 ∧ ∀ z11 : Int32, z11 = ((B 29) z10.toNatClampNeg) → wc_Terms_reckon_ad43_B_99 a0 K5 Post x3 x4 z11 x3 I J B D))) ∧ (¬ z7 < 16 → ∀ z12 : Int32, z12 = (x3 + (-1)) → ∀ z13 : Int32, z13 = (z12 - 1) → ∀ z14 : Int32, z14 = (z12 - 1) → vp_in z14 13 ∧ ∀ z15 : Int32, z15 = ((B 45) z14.toNatClampNeg) → vp_in z12 13 ∧ ∀ z16 : Int32, z16 = ((B 45) z12.toNatClampNeg) → wp_Terms_joined I J B D z7 z15 z16 (fun r17 I17 J17 B17 D17 => vp_in z13 13 ∧ wc_Terms_reckon_ad43_B_103 a0 K5 Post z12 x4 I17 J17 (va_up B17 45 (upd (B17 45) z13.toNatClampNeg r17)) D17)))))))
def wl_Terms_reckon_ad43_B_5 (a0 : Int32) (Post : Int32 → (Nat → Int32) → (Nat → Int64) → (Nat → Nat → Int32) → (Nat → Nat → Int64) → Prop) (n : Nat) : Int32 → Int32 → (Nat → Int32) → (Nat → Int64) → (Nat → Nat → Int32) → (Nat → Nat → Int64) → Prop := Nat.rec (fun _ _ _ _ _ _ => False) (fun _ r => wb_Terms_reckon_ad43_B_5 a0 r Post) n
def wp_Terms_reckon_ad43_B (I : Nat → Int32) (J : Nat → Int64) (B : Nat → Nat → Int32) (D : Nat → Nat → Int64) (a0 : Int32) (Post : Int32 → (Nat → Int32) → (Nat → Int64) → (Nat → Nat → Int32) → (Nat → Nat → Int64) → Prop) : Prop :=
  ∃ n : Nat, wl_Terms_reckon_ad43_B_5 a0 Post n 0 a0 I J B D
set_option maxHeartbeats 8000000 in
set_option maxRecDepth 100000 in
theorem wJ_Terms_reckon_ad43_B_109 {p : Program} {l : Launch} {e : Env} {s : State} {m : MethodId} {below : List Frame} {meth : Method} {c : Code} {A : Nat → Prop} (G : va_G) (K : Nat → ClassId) (ad : Nat → Nat) (sv : Value) (a0 : Int32) (Post : Int32 → (Nat → Int32) → (Nat → Int64) → (Nat → Nat → Int32) → (Nat → Nat → Int64) → Prop) (C : zCx p s m ([.ref (ad 10), .int a0, .ref (ad 43)] : List Value).toArray meth c A G K prog_9_method_12_code (some .int) 6 "LassoFinder$Terms") : ∀  (I : Nat → Int32) (J : Nat → Int64) (B : Nat → Nat → Int32) (D : Nat → Nat → Int64) (ls : Array Slot) (H : Heap) (locs : List Loc), wc_Terms_reckon_ad43_B_109 a0 Post  I J B D → lv_has ls 6 [(0, .ref (ad 10))] → zW G A s.heap (wX ad K sv I J B D) H locs → W p l e { frames := 1, cells := 0, slots := 0, locals := 22 } s m ([.ref (ad 10), .int a0, .ref (ad 43)] : List Value).toArray below meth c H locs 0 0 (MQ below (va_Qi (fun (r : Int32) (u : zS) => Post r u.1 u.2.1 u.2.2.1 u.2.2.2) (fun u t => zPost G K A (wX ad K sv u.1 u.2.1 u.2.2.1 u.2.2.2) t) A) ([.ref (ad 10), .int a0, .ref (ad 43)] : List Value).toArray s 0 0 A) (F0 m 109 ls []) := by
  obtain ⟨hx, hb, hr, hml, hts, hown, hlocks, hA, hK⟩ := id C
  intro  I J B D ls H locs hok hl hw
  unfold wc_Terms_reckon_ad43_B_109 at hok
  refine lv_aload_n hx hb zd_Terms_reckon_109 rfl (lv_at hl 0 rfl) ?_
  refine z_get (v := .ref (ad 60)) hx hb hts hown hK hw zZ8 10 wX_g10 6 (by decide) zn_254 rfl zd_Terms_reckon_110 ?_
  refine lv_iconst (v := 0) hx hb zd_Terms_reckon_113 (by decide) ?_
  refine va_iald (f := (B 45)) hx hb hK hw.1 60 0 wX_a60 rfl hok.1 zd_Terms_reckon_114 ?_
  have hok := hok.2
  refine lv_topi (fun z1 ez1 => ?_)
  have hok := hok z1 ez1
  exact (z_iret (u := (I, J, B, D)) hx hb hr hlocks rfl hw (List.range 65) wX_all wX_nd hok (Nat.le_of_ble_eq_true rfl) (Nat.le_of_ble_eq_true rfl) zd_Terms_reckon_115)
set_option maxHeartbeats 8000000 in
set_option maxRecDepth 100000 in
theorem wJ_Terms_reckon_ad43_B_103 {p : Program} {l : Launch} {e : Env} {s : State} {m : MethodId} {below : List Frame} {meth : Method} {c : Code} {A : Nat → Prop} (G : va_G) (K : Nat → ClassId) (ad : Nat → Nat) (sv : Value) (a0 : Int32) (Post : Int32 → (Nat → Int32) → (Nat → Int64) → (Nat → Nat → Int32) → (Nat → Nat → Int64) → Prop) (C : zCx p s m ([.ref (ad 10), .int a0, .ref (ad 43)] : List Value).toArray meth c A G K prog_9_method_12_code (some .int) 6 "LassoFinder$Terms") (K5 : Int32 → Int32 → (Nat → Int32) → (Nat → Int64) → (Nat → Nat → Int32) → (Nat → Nat → Int64) → Prop) (kh5 : ∀ (x3 : Int32) (x4 : Int32) (I : Nat → Int32) (J : Nat → Int64) (B : Nat → Nat → Int32) (D : Nat → Nat → Int64) (ls : Array Slot) (H : Heap) (locs : List Loc), K5 x3 x4 I J B D → lv_has ls 6 [(0, .ref (ad 10)), (2, .ref (ad 43)), (3, .int x3), (4, .int x4)] → zW G A s.heap (wX ad K sv I J B D) H locs → W p l e { frames := 1, cells := 0, slots := 0, locals := 22 } s m ([.ref (ad 10), .int a0, .ref (ad 43)] : List Value).toArray below meth c H locs 0 0 (MQ below (va_Qi (fun (r : Int32) (u : zS) => Post r u.1 u.2.1 u.2.2.1 u.2.2.2) (fun u t => zPost G K A (wX ad K sv u.1 u.2.1 u.2.2.1 u.2.2.2) t) A) ([.ref (ad 10), .int a0, .ref (ad 43)] : List Value).toArray s 0 0 A) (F0 m 5 ls [])) : ∀ (x3 : Int32) (x4 : Int32) (I : Nat → Int32) (J : Nat → Int64) (B : Nat → Nat → Int32) (D : Nat → Nat → Int64) (ls : Array Slot) (H : Heap) (locs : List Loc), wc_Terms_reckon_ad43_B_103 a0 K5 Post x3 x4 I J B D → lv_has ls 6 [(0, .ref (ad 10)), (2, .ref (ad 43)), (3, .int x3), (4, .int x4)] → zW G A s.heap (wX ad K sv I J B D) H locs → W p l e { frames := 1, cells := 0, slots := 0, locals := 22 } s m ([.ref (ad 10), .int a0, .ref (ad 43)] : List Value).toArray below meth c H locs 0 0 (MQ below (va_Qi (fun (r : Int32) (u : zS) => Post r u.1 u.2.1 u.2.2.1 u.2.2.2) (fun u t => zPost G K A (wX ad K sv u.1 u.2.1 u.2.2.1 u.2.2.2) t) A) ([.ref (ad 10), .int a0, .ref (ad 43)] : List Value).toArray s 0 0 A) (F0 m 103 ls []) := by
  obtain ⟨hx, hb, hr, hml, hts, hown, hlocks, hA, hK⟩ := id C
  intro x3 x4 I J B D ls H locs hok hl hw
  unfold wc_Terms_reckon_ad43_B_103 at hok
  obtain ⟨z2, ez2⟩ : ∃ z : Int32, z = (x4 + 1) := ⟨_, rfl⟩
  have hok := hok z2 ez2
  refine lv_iinc (v := z2) hx hb zd_Terms_reckon_103 hl (k := 3) rfl ez2.symm (by decide) rfl (fun ls hl => ?_)
  have hl : lv_has ls 6 [(4, .int z2), (0, .ref (ad 10)), (2, .ref (ad 43)), (3, .int x3)] := hl
  refine lv_goto (tgt := 5) hx hb zd_Terms_reckon_106 (by decide) ?_
  exact kh5 x3 z2 I J B D ls H locs hok (lv_sub hl [1, 2, 3, 0] rfl) hw
set_option maxHeartbeats 8000000 in
set_option maxRecDepth 100000 in
theorem wJ_Terms_reckon_ad43_B_99 {p : Program} {l : Launch} {e : Env} {s : State} {m : MethodId} {below : List Frame} {meth : Method} {c : Code} {A : Nat → Prop} (G : va_G) (K : Nat → ClassId) (ad : Nat → Nat) (sv : Value) (a0 : Int32) (Post : Int32 → (Nat → Int32) → (Nat → Int64) → (Nat → Nat → Int32) → (Nat → Nat → Int64) → Prop) (C : zCx p s m ([.ref (ad 10), .int a0, .ref (ad 43)] : List Value).toArray meth c A G K prog_9_method_12_code (some .int) 6 "LassoFinder$Terms") (K5 : Int32 → Int32 → (Nat → Int32) → (Nat → Int64) → (Nat → Nat → Int32) → (Nat → Nat → Int64) → Prop) (kh5 : ∀ (x3 : Int32) (x4 : Int32) (I : Nat → Int32) (J : Nat → Int64) (B : Nat → Nat → Int32) (D : Nat → Nat → Int64) (ls : Array Slot) (H : Heap) (locs : List Loc), K5 x3 x4 I J B D → lv_has ls 6 [(0, .ref (ad 10)), (2, .ref (ad 43)), (3, .int x3), (4, .int x4)] → zW G A s.heap (wX ad K sv I J B D) H locs → W p l e { frames := 1, cells := 0, slots := 0, locals := 22 } s m ([.ref (ad 10), .int a0, .ref (ad 43)] : List Value).toArray below meth c H locs 0 0 (MQ below (va_Qi (fun (r : Int32) (u : zS) => Post r u.1 u.2.1 u.2.2.1 u.2.2.2) (fun u t => zPost G K A (wX ad K sv u.1 u.2.1 u.2.2.1 u.2.2.2) t) A) ([.ref (ad 10), .int a0, .ref (ad 43)] : List Value).toArray s 0 0 A) (F0 m 5 ls [])) : ∀ (x3 : Int32) (x4 : Int32) (y0 : Int32) (y1 : Int32) (I : Nat → Int32) (J : Nat → Int64) (B : Nat → Nat → Int32) (D : Nat → Nat → Int64) (ls : Array Slot) (H : Heap) (locs : List Loc), wc_Terms_reckon_ad43_B_99 a0 K5 Post x3 x4 y0 y1 I J B D → lv_has ls 6 [(0, .ref (ad 10)), (2, .ref (ad 43)), (3, .int x3), (4, .int x4)] → zW G A s.heap (wX ad K sv I J B D) H locs → W p l e { frames := 1, cells := 0, slots := 0, locals := 22 } s m ([.ref (ad 10), .int a0, .ref (ad 43)] : List Value).toArray below meth c H locs 0 0 (MQ below (va_Qi (fun (r : Int32) (u : zS) => Post r u.1 u.2.1 u.2.2.1 u.2.2.2) (fun u t => zPost G K A (wX ad K sv u.1 u.2.1 u.2.2.1 u.2.2.2) t) A) ([.ref (ad 10), .int a0, .ref (ad 43)] : List Value).toArray s 0 0 A) (F0 m 99 ls [.int y0, .int y1, .ref (ad 60)]) := by
  obtain ⟨hx, hb, hr, hml, hts, hown, hlocks, hA, hK⟩ := id C
  intro x3 x4 y0 y1 I J B D ls H locs hok hl hw
  unfold wc_Terms_reckon_ad43_B_99 at hok
  refine va_iast (f := (B 45)) hx hb hK hw.1 hw.2.1 hw.2.2 60 0 wX_a60 rfl hok.1 zd_Terms_reckon_99 (fun H locs w91 w92 w93 => ?_)
  have hok := hok.2
  have hw := wX_t60 ⟨w91, w92, w93⟩
  obtain ⟨z3, ez3⟩ : ∃ z : Int32, z = (x3 + 1) := ⟨_, rfl⟩
  have hok := hok z3 ez3
  refine lv_iinc (v := z3) hx hb zd_Terms_reckon_100 hl (k := 2) rfl ez3.symm (by decide) rfl (fun ls hl => ?_)
  have hl : lv_has ls 6 [(3, .int z3), (0, .ref (ad 10)), (2, .ref (ad 43)), (4, .int x4)] := hl
  exact wJ_Terms_reckon_ad43_B_103 G K ad sv a0 Post C K5 kh5 z3 x4 I J (va_up B 45 (upd (B 45) y1.toNatClampNeg y0)) D ls H locs hok (lv_sub hl [1, 2, 0, 3] rfl) hw
set_option maxHeartbeats 8000000 in
set_option maxRecDepth 100000 in
theorem wB_Terms_reckon_ad43_B_5 {p : Program} {l : Launch} {e : Env} {s : State} {m : MethodId} {below : List Frame} {meth : Method} {c : Code} {A : Nat → Prop} (G : va_G) (K : Nat → ClassId) (ad : Nat → Nat) (sv : Value) (a0 : Int32) (Post : Int32 → (Nat → Int32) → (Nat → Int64) → (Nat → Nat → Int32) → (Nat → Nat → Int64) → Prop) (C : zCx p s m ([.ref (ad 10), .int a0, .ref (ad 43)] : List Value).toArray meth c A G K prog_9_method_12_code (some .int) 6 "LassoFinder$Terms") (K5 : Int32 → Int32 → (Nat → Int32) → (Nat → Int64) → (Nat → Nat → Int32) → (Nat → Nat → Int64) → Prop) (kh5 : ∀ (x3 : Int32) (x4 : Int32) (I : Nat → Int32) (J : Nat → Int64) (B : Nat → Nat → Int32) (D : Nat → Nat → Int64) (ls : Array Slot) (H : Heap) (locs : List Loc), K5 x3 x4 I J B D → lv_has ls 6 [(0, .ref (ad 10)), (2, .ref (ad 43)), (3, .int x3), (4, .int x4)] → zW G A s.heap (wX ad K sv I J B D) H locs → W p l e { frames := 1, cells := 0, slots := 0, locals := 22 } s m ([.ref (ad 10), .int a0, .ref (ad 43)] : List Value).toArray below meth c H locs 0 0 (MQ below (va_Qi (fun (r : Int32) (u : zS) => Post r u.1 u.2.1 u.2.2.1 u.2.2.2) (fun u t => zPost G K A (wX ad K sv u.1 u.2.1 u.2.2.1 u.2.2.2) t) A) ([.ref (ad 10), .int a0, .ref (ad 43)] : List Value).toArray s 0 0 A) (F0 m 5 ls [])) : ∀ (x3 : Int32) (x4 : Int32) (I : Nat → Int32) (J : Nat → Int64) (B : Nat → Nat → Int32) (D : Nat → Nat → Int64) (ls : Array Slot) (H : Heap) (locs : List Loc), wb_Terms_reckon_ad43_B_5 a0 K5 Post x3 x4 I J B D → lv_has ls 6 [(0, .ref (ad 10)), (2, .ref (ad 43)), (3, .int x3), (4, .int x4)] → zW G A s.heap (wX ad K sv I J B D) H locs → W p l e { frames := 1, cells := 0, slots := 0, locals := 22 } s m ([.ref (ad 10), .int a0, .ref (ad 43)] : List Value).toArray below meth c H locs 0 0 (MQ below (va_Qi (fun (r : Int32) (u : zS) => Post r u.1 u.2.1 u.2.2.1 u.2.2.2) (fun u t => zPost G K A (wX ad K sv u.1 u.2.1 u.2.2.1 u.2.2.2) t) A) ([.ref (ad 10), .int a0, .ref (ad 43)] : List Value).toArray s 0 0 A) (F0 m 5 ls []) := by
  obtain ⟨hx, hb, hr, hml, hts, hown, hlocks, hA, hK⟩ := id C
  intro x3 x4 I J B D ls H locs hok hl hw
  unfold wb_Terms_reckon_ad43_B_5 at hok
  refine lv_iload hx hb zd_Terms_reckon_5 (lv_at hl 3 rfl) ?_
  refine lv_aload_n hx hb zd_Terms_reckon_7 rfl (lv_at hl 0 rfl) ?_
  refine z_get (v := .int (I 25)) hx hb hts hown hK hw zZ8 10 wX_g10 3 (by decide) zn_435 rfl zd_Terms_reckon_8 ?_
  refine lv_icmp_ge (tgt := 109) hx hb zd_Terms_reckon_11 (by decide) (fun hc4 => ?_) (fun hc4 => ?_)
  · have hok := hok.1 hc4
    exact wJ_Terms_reckon_ad43_B_109 G K ad sv a0 Post C I J B D ls H locs hok (lv_sub hl [0] rfl) hw
  · have hok := hok.2 hc4
    refine lv_aload_n hx hb zd_Terms_reckon_14 rfl (lv_at hl 0 rfl) ?_
    refine z_get (v := .ref (ad 58)) hx hb hts hown hK hw zZ8 10 wX_g10 2 (by decide) zn_252 rfl zd_Terms_reckon_15 ?_
    refine lv_iload hx hb zd_Terms_reckon_18 (lv_at hl 3 rfl) ?_
    refine va_iald (f := (B 43)) hx hb hK hw.1 58 0 wX_a58 rfl hok.1 zd_Terms_reckon_20 ?_
    have hok := hok.2
    refine lv_topi (fun z5 ez5 => ?_)
    have hok := hok z5 ez5
    refine lv_bipush (v := 22) hx hb zd_Terms_reckon_21 (by decide) ?_
    refine lv_icmp_eq (tgt := 109) hx hb zd_Terms_reckon_23 (by decide) (fun hc6 => ?_) (fun hc6 => ?_)
    · have hok := hok.1 hc6
      exact wJ_Terms_reckon_ad43_B_109 G K ad sv a0 Post C I J B D ls H locs hok (lv_sub hl [0] rfl) hw
    · have hok := hok.2 hc6
      refine lv_aload_n hx hb zd_Terms_reckon_26 rfl (lv_at hl 0 rfl) ?_
      refine z_get (v := .ref (ad 58)) hx hb hts hown hK hw zZ8 10 wX_g10 2 (by decide) zn_252 rfl zd_Terms_reckon_27 ?_
      refine lv_iload hx hb zd_Terms_reckon_30 (lv_at hl 3 rfl) ?_
      refine va_iald (f := (B 43)) hx hb hK hw.1 58 0 wX_a58 rfl hok.1 zd_Terms_reckon_32 ?_
      have hok := hok.2
      refine lv_topi (fun z7 ez7 => ?_)
      have hok := hok z7 ez7
      refine lv_istore hx hb zd_Terms_reckon_33 hl (by decide) rfl (fun ls hl => ?_)
      have hl : lv_has ls 6 [(5, .int z7), (0, .ref (ad 10)), (2, .ref (ad 43)), (3, .int x3), (4, .int x4)] := hl
      refine lv_iload hx hb zd_Terms_reckon_35 (lv_at hl 0 rfl) ?_
      refine lv_bipush (v := 16) hx hb zd_Terms_reckon_37 (by decide) ?_
      refine lv_icmp_lt (tgt := 75) hx hb zd_Terms_reckon_39 (by decide) (fun hc8 => ?_) (fun hc8 => ?_)
      · have hok := hok.1 hc8
        refine lv_aload_n hx hb zd_Terms_reckon_75 rfl (lv_at hl 1 rfl) ?_
        refine z_get (v := .ref (ad 60)) hx hb hts hown hK hw zZ8 10 wX_g10 6 (by decide) zn_254 rfl zd_Terms_reckon_76 ?_
        refine lv_iload_n hx hb zd_Terms_reckon_79 rfl (lv_at hl 3 rfl) ?_
        refine lv_iload hx hb zd_Terms_reckon_80 (lv_at hl 0 rfl) ?_
        refine lv_bipush (v := 8) hx hb zd_Terms_reckon_82 (by decide) ?_
        refine lv_icmp_lt (tgt := 97) hx hb zd_Terms_reckon_84 (by decide) (fun hc9 => ?_) (fun hc9 => ?_)
        · have hok := hok.1 hc9
          refine lv_iload hx hb zd_Terms_reckon_97 (lv_at hl 0 rfl) ?_
          exact wJ_Terms_reckon_ad43_B_99 G K ad sv a0 Post C K5 kh5 x3 x4 z7 x3 I J B D ls H locs hok (lv_sub hl [1, 2, 3, 4] rfl) hw
        · have hok := hok.2 hc9
          refine lv_aload_n hx hb zd_Terms_reckon_87 rfl (lv_at hl 2 rfl) ?_
          refine lv_iload hx hb zd_Terms_reckon_88 (lv_at hl 0 rfl) ?_
          refine lv_bipush (v := 8) hx hb zd_Terms_reckon_90 (by decide) ?_
          refine lv_isub hx hb zd_Terms_reckon_92 ?_
          refine lv_topi (fun z10 ez10 => ?_)
          have hok := hok z10 ez10
          refine va_iald (f := (B 29)) hx hb hK hw.1 43 0 wX_a43 rfl hok.1 zd_Terms_reckon_93 ?_
          have hok := hok.2
          refine lv_topi (fun z11 ez11 => ?_)
          have hok := hok z11 ez11
          refine lv_goto (tgt := 99) hx hb zd_Terms_reckon_94 (by decide) ?_
          exact wJ_Terms_reckon_ad43_B_99 G K ad sv a0 Post C K5 kh5 x3 x4 z11 x3 I J B D ls H locs hok (lv_sub hl [1, 2, 3, 4] rfl) hw
      · have hok := hok.2 hc8
        obtain ⟨z12, ez12⟩ : ∃ z : Int32, z = (x3 + (-1)) := ⟨_, rfl⟩
        have hok := hok z12 ez12
        refine lv_iinc (v := z12) hx hb zd_Terms_reckon_42 hl (k := 3) rfl ez12.symm (by decide) rfl (fun ls hl => ?_)
        have hl : lv_has ls 6 [(3, .int z12), (5, .int z7), (0, .ref (ad 10)), (2, .ref (ad 43)), (4, .int x4)] := hl
        refine lv_aload_n hx hb zd_Terms_reckon_45 rfl (lv_at hl 2 rfl) ?_
        refine z_get (v := .ref (ad 60)) hx hb hts hown hK hw zZ8 10 wX_g10 6 (by decide) zn_254 rfl zd_Terms_reckon_46 ?_
        refine lv_iload_n hx hb zd_Terms_reckon_49 rfl (lv_at hl 0 rfl) ?_
        refine lv_iconst (v := 1) hx hb zd_Terms_reckon_50 (by decide) ?_
        refine lv_isub hx hb zd_Terms_reckon_51 ?_
        refine lv_topi (fun z13 ez13 => ?_)
        have hok := hok z13 ez13
        refine lv_iload hx hb zd_Terms_reckon_52 (lv_at hl 1 rfl) ?_
        refine lv_aload_n hx hb zd_Terms_reckon_54 rfl (lv_at hl 2 rfl) ?_
        refine z_get (v := .ref (ad 60)) hx hb hts hown hK hw zZ8 10 wX_g10 6 (by decide) zn_254 rfl zd_Terms_reckon_55 ?_
        refine lv_iload_n hx hb zd_Terms_reckon_58 rfl (lv_at hl 0 rfl) ?_
        refine lv_iconst (v := 1) hx hb zd_Terms_reckon_59 (by decide) ?_
        refine lv_isub hx hb zd_Terms_reckon_60 ?_
        refine lv_topi (fun z14 ez14 => ?_)
        have hok := hok z14 ez14
        refine va_iald (f := (B 45)) hx hb hK hw.1 60 0 wX_a60 rfl hok.1 zd_Terms_reckon_61 ?_
        have hok := hok.2
        refine lv_topi (fun z15 ez15 => ?_)
        have hok := hok z15 ez15
        refine lv_aload_n hx hb zd_Terms_reckon_62 rfl (lv_at hl 2 rfl) ?_
        refine z_get (v := .ref (ad 60)) hx hb hts hown hK hw zZ8 10 wX_g10 6 (by decide) zn_254 rfl zd_Terms_reckon_63 ?_
        refine lv_iload_n hx hb zd_Terms_reckon_66 rfl (lv_at hl 0 rfl) ?_
        refine va_iald (f := (B 45)) hx hb hK hw.1 60 0 wX_a60 rfl hok.1 zd_Terms_reckon_67 ?_
        have hok := hok.2
        refine lv_topi (fun z16 ez16 => ?_)
        have hok := hok z16 ez16
        refine z_calli (w1 := fun (u : zS) => wX ad K sv u.1 u.2.1 u.2.2.1 u.2.2.2) (wr := []) (z_runS (wc := (wX ad K sv I J B D)) (As := [.int z7, .int z15, .int z16]) (rest := [.int z13, .ref (ad 60)]) ⟨hx, hb, hml, hown, hts⟩ (w_Terms_joined l G K ad sv I J B D z7 z15 z16 _ H.size hok) zf_Terms_joined zn_400 ⟨Nat.le_of_ble_eq_true rfl, Nat.le_of_ble_eq_true rfl⟩ hK hw (List.range 65) wX_all wX_nd rfl hl.1 rfl (Nat.le_of_ble_eq_true rfl) zd_Terms_reckon_68 ⟨Nat.le_of_ble_eq_true rfl, Nat.le_of_ble_eq_true rfl⟩) hw hA (List.range 65) [] wX_all rfl (by decide) (fun i hi => by cases hi) (fun r17 u H locs hok hw => ?_)
        obtain ⟨I17, J17, B17, D17⟩ := u
        dsimp only at hok
        have hw : zW G A s.heap (wX ad K sv I17 J17 B17 D17) H locs := hw
        refine va_iast (f := (B17 45)) hx hb hK hw.1 hw.2.1 hw.2.2 60 0 wX_a60 rfl hok.1 zd_Terms_reckon_71 (fun H locs w91 w92 w93 => ?_)
        have hok := hok.2
        have hw := wX_t60 ⟨w91, w92, w93⟩
        refine lv_goto (tgt := 103) hx hb zd_Terms_reckon_72 (by decide) ?_
        exact wJ_Terms_reckon_ad43_B_103 G K ad sv a0 Post C K5 kh5 z12 x4 I17 J17 (va_up B17 45 (upd (B17 45) z13.toNatClampNeg r17)) D17 ls H locs hok (lv_sub hl [2, 3, 0, 4] rfl) hw
theorem wL_Terms_reckon_ad43_B_5 {p : Program} {l : Launch} {e : Env} {s : State} {m : MethodId} {below : List Frame} {meth : Method} {c : Code} {A : Nat → Prop} (G : va_G) (K : Nat → ClassId) (ad : Nat → Nat) (sv : Value) (a0 : Int32) (Post : Int32 → (Nat → Int32) → (Nat → Int64) → (Nat → Nat → Int32) → (Nat → Nat → Int64) → Prop) (C : zCx p s m ([.ref (ad 10), .int a0, .ref (ad 43)] : List Value).toArray meth c A G K prog_9_method_12_code (some .int) 6 "LassoFinder$Terms") : ∀ (n : Nat) (x3 : Int32) (x4 : Int32) (I : Nat → Int32) (J : Nat → Int64) (B : Nat → Nat → Int32) (D : Nat → Nat → Int64) (ls : Array Slot) (H : Heap) (locs : List Loc), wl_Terms_reckon_ad43_B_5 a0 Post n x3 x4 I J B D → lv_has ls 6 [(0, .ref (ad 10)), (2, .ref (ad 43)), (3, .int x3), (4, .int x4)] → zW G A s.heap (wX ad K sv I J B D) H locs → W p l e { frames := 1, cells := 0, slots := 0, locals := 22 } s m ([.ref (ad 10), .int a0, .ref (ad 43)] : List Value).toArray below meth c H locs 0 0 (MQ below (va_Qi (fun (r : Int32) (u : zS) => Post r u.1 u.2.1 u.2.2.1 u.2.2.2) (fun u t => zPost G K A (wX ad K sv u.1 u.2.1 u.2.2.1 u.2.2.2) t) A) ([.ref (ad 10), .int a0, .ref (ad 43)] : List Value).toArray s 0 0 A) (F0 m 5 ls []) := by
  intro n
  induction n with
  | zero => intro x3 x4 I J B D ls H locs hok; exact hok.elim
  | succ n ih => exact wB_Terms_reckon_ad43_B_5 G K ad sv a0 Post C (wl_Terms_reckon_ad43_B_5 a0 Post n) ih
set_option maxHeartbeats 8000000 in
set_option maxRecDepth 100000 in
theorem w_Terms_reckon_ad43_B (l : Launch) (G : va_G) (K : Nat → ClassId) (ad : Nat → Nat) (sv : Value) (I : Nat → Int32) (J : Nat → Int64) (B : Nat → Nat → Int32) (D : Nat → Nat → Int64) (a0 : Int32) (Post : Int32 → (Nat → Int32) → (Nat → Int64) → (Nat → Nat → Int32) → (Nat → Nat → Int64) → Prop) (sz : Nat) (hok : wp_Terms_reckon_ad43_B I J B D a0 Post) : Met l zy_Terms_reckon (Cond.code zy_Terms_reckon prog_9_method_12_code 6 (some .int) :: zTB) { frames := 1, cells := 0, slots := 0, locals := 22 } (va_Pc [.ref (ad 10), .int a0, .ref (ad 43)] (zPre G K (wX ad K sv I J B D) sz)) (va_Qi (fun (r : Int32) (u : zS) => Post r u.1 u.2.1 u.2.2.1 u.2.2.2) (fun u t => zPost G K (va_A (wX ad K sv I J B D) sz) (wX ad K sv u.1 u.2.1 u.2.2.1 u.2.2.2) t) (va_A (wX ad K sv I J B D) sz)) 0 0 (va_A (wX ad K sv I J B D) sz) := by
  refine zMet (y := zy_Terms_reckon) (av := [.ref (ad 10), .int a0, .ref (ad 43)]) (maxL := 6) (cc := prog_9_method_12_code) (ret := (some .int)) (W0 := (wX ad K sv I J B D)) (sz := sz) (G := G) (K := K) (wt := zTB) (mc := 0) (ms := 0) (Qf := fun A => va_Qi (fun (r : Int32) (u : zS) => Post r u.1 u.2.1 u.2.2.1 u.2.2.2) (fun u t => zPost G K A (wX ad K sv u.1 u.2.1 u.2.2.1 u.2.2.2) t) A) (by decide) (Nat.le_of_ble_eq_true rfl) ?_
  intro p e s m below meth c ls A hx hb hr hml hts hown hlocks hin hA hK H locs hw hsz hl
  clear hsz
  have hown : s.vm.findClass "LassoFinder$Terms" = some m.cls := hown
  have C : zCx p s m ([.ref (ad 10), .int a0, .ref (ad 43)] : List Value).toArray meth c A G K prog_9_method_12_code (some .int) 6 "LassoFinder$Terms" := ⟨hx, hb, hr, hml, hts, hown, hlocks, hA, hK⟩
  have hl : lv_has ls 6 [(0, .ref (ad 10)), (1, .int a0), (2, .ref (ad 43))] := hl
  have hw : zW G A s.heap (wX ad K sv I J B D) H locs := hw
  unfold wp_Terms_reckon_ad43_B at hok
  refine lv_iconst (v := 0) hx hb zd_Terms_reckon_0 (by decide) ?_
  refine lv_istore_n hx hb zd_Terms_reckon_1 rfl hl (by decide) rfl (fun ls hl => ?_)
  have hl : lv_has ls 6 [(3, .int 0), (0, .ref (ad 10)), (1, .int a0), (2, .ref (ad 43))] := hl
  refine lv_iload_n hx hb zd_Terms_reckon_2 rfl (lv_at hl 2 rfl) ?_
  refine lv_istore hx hb zd_Terms_reckon_3 hl (by decide) rfl (fun ls hl => ?_)
  have hl : lv_has ls 6 [(4, .int a0), (3, .int 0), (0, .ref (ad 10)), (1, .int a0), (2, .ref (ad 43))] := hl
  obtain ⟨n9, hok⟩ := hok
  exact wL_Terms_reckon_ad43_B_5 G K ad sv a0 Post C n9 0 a0 I J B D ls H locs hok (lv_sub hl [2, 4, 1, 0] rfl) hw
def wc_Truths_atomHolds_77 (a0 : Int32) (Post : Int32 → (Nat → Int32) → (Nat → Int64) → (Nat → Nat → Int32) → (Nat → Nat → Int64) → Prop) (y0 : Int32) (I : Nat → Int32) (J : Nat → Int64) (B : Nat → Nat → Int32) (D : Nat → Nat → Int64) : Prop :=
  (y0 = 0 ∨ y0 = 1) ∧ Post y0 I J B D
def wc_Truths_atomHolds_50 (a0 : Int32) (Post : Int32 → (Nat → Int32) → (Nat → Int64) → (Nat → Nat → Int32) → (Nat → Nat → Int64) → Prop) (y0 : Int32) (I : Nat → Int32) (J : Nat → Int64) (B : Nat → Nat → Int32) (D : Nat → Nat → Int64) : Prop :=
  (y0 = 0 ∨ y0 = 1) ∧ Post y0 I J B D
def wp_Truths_atomHolds (I : Nat → Int32) (J : Nat → Int64) (B : Nat → Nat → Int32) (D : Nat → Nat → Int64) (a0 : Int32) (Post : Int32 → (Nat → Int32) → (Nat → Int64) → (Nat → Nat → Int32) → (Nat → Nat → Int64) → Prop) : Prop :=
  vp_in a0 240 ∧ ∀ z1 : Int32, z1 = ((B 40) a0.toNatClampNeg) → vp_in a0 240 ∧ ∀ z2 : Int32, z2 = ((B 39) a0.toNatClampNeg) → ((¬ z2 = 8 → vp_in z1 4 ∧ ∀ z4 : Int32, z4 = ((B 31) z1.toNatClampNeg) → vp_in a0 240 ∧ ∀ z5 : Int32, z5 = ((B 41) a0.toNatClampNeg) → ((¬ z4 = z5 → wc_Truths_atomHolds_77 a0 Post 0 I J B D) ∧ (z4 = z5 → wc_Truths_atomHolds_77 a0 Post 1 I J B D))) ∧ (z2 = 8 → wp_Terms_reckon_ad43_B I J B D z1 (fun r7 I7 J7 B7 D7 => ((r7 = 0 → wc_Truths_atomHolds_50 a0 Post 0 I7 J7 B7 D7) ∧ (¬ r7 = 0 → wc_Truths_atomHolds_50 a0 Post 1 I7 J7 B7 D7)))))
set_option maxHeartbeats 8000000 in
set_option maxRecDepth 100000 in
theorem wJ_Truths_atomHolds_77 {p : Program} {l : Launch} {e : Env} {s : State} {m : MethodId} {below : List Frame} {meth : Method} {c : Code} {A : Nat → Prop} (G : va_G) (K : Nat → ClassId) (ad : Nat → Nat) (sv : Value) (a0 : Int32) (Post : Int32 → (Nat → Int32) → (Nat → Int64) → (Nat → Nat → Int32) → (Nat → Nat → Int64) → Prop) (C : zCx p s m ([.ref (ad 11), .int a0] : List Value).toArray meth c A G K prog_12_method_6_code (some .boolean) 3 "LassoFinder$Truths") : ∀ (y0 : Int32) (I : Nat → Int32) (J : Nat → Int64) (B : Nat → Nat → Int32) (D : Nat → Nat → Int64) (ls : Array Slot) (H : Heap) (locs : List Loc), wc_Truths_atomHolds_77 a0 Post y0 I J B D → lv_has ls 3 [] → zW G A s.heap (wX ad K sv I J B D) H locs → W p l e { frames := 2, cells := 0, slots := 0, locals := 47 } s m ([.ref (ad 11), .int a0] : List Value).toArray below meth c H locs 0 0 (MQ below (va_Qi (fun (r : Int32) (u : zS) => Post r u.1 u.2.1 u.2.2.1 u.2.2.2) (fun u t => zPost G K A (wX ad K sv u.1 u.2.1 u.2.2.1 u.2.2.2) t) A) ([.ref (ad 11), .int a0] : List Value).toArray s 0 0 A) (F0 m 77 ls [.int y0]) := by
  obtain ⟨hx, hb, hr, hml, hts, hown, hlocks, hA, hK⟩ := id C
  intro y0 I J B D ls H locs hok hl hw
  unfold wc_Truths_atomHolds_77 at hok
  have hbo := hok.1
  have hok := hok.2
  exact (z_iret (u := (I, J, B, D)) hx hb hr hlocks (z_nar hbo) hw (List.range 65) wX_all wX_nd hok (Nat.le_of_ble_eq_true rfl) (Nat.le_of_ble_eq_true rfl) zd_Truths_atomHolds_77)
set_option maxHeartbeats 8000000 in
set_option maxRecDepth 100000 in
theorem wJ_Truths_atomHolds_50 {p : Program} {l : Launch} {e : Env} {s : State} {m : MethodId} {below : List Frame} {meth : Method} {c : Code} {A : Nat → Prop} (G : va_G) (K : Nat → ClassId) (ad : Nat → Nat) (sv : Value) (a0 : Int32) (Post : Int32 → (Nat → Int32) → (Nat → Int64) → (Nat → Nat → Int32) → (Nat → Nat → Int64) → Prop) (C : zCx p s m ([.ref (ad 11), .int a0] : List Value).toArray meth c A G K prog_12_method_6_code (some .boolean) 3 "LassoFinder$Truths") : ∀ (y0 : Int32) (I : Nat → Int32) (J : Nat → Int64) (B : Nat → Nat → Int32) (D : Nat → Nat → Int64) (ls : Array Slot) (H : Heap) (locs : List Loc), wc_Truths_atomHolds_50 a0 Post y0 I J B D → lv_has ls 3 [] → zW G A s.heap (wX ad K sv I J B D) H locs → W p l e { frames := 2, cells := 0, slots := 0, locals := 47 } s m ([.ref (ad 11), .int a0] : List Value).toArray below meth c H locs 0 0 (MQ below (va_Qi (fun (r : Int32) (u : zS) => Post r u.1 u.2.1 u.2.2.1 u.2.2.2) (fun u t => zPost G K A (wX ad K sv u.1 u.2.1 u.2.2.1 u.2.2.2) t) A) ([.ref (ad 11), .int a0] : List Value).toArray s 0 0 A) (F0 m 50 ls [.int y0]) := by
  obtain ⟨hx, hb, hr, hml, hts, hown, hlocks, hA, hK⟩ := id C
  intro y0 I J B D ls H locs hok hl hw
  unfold wc_Truths_atomHolds_50 at hok
  have hbo := hok.1
  have hok := hok.2
  exact (z_iret (u := (I, J, B, D)) hx hb hr hlocks (z_nar hbo) hw (List.range 65) wX_all wX_nd hok (Nat.le_of_ble_eq_true rfl) (Nat.le_of_ble_eq_true rfl) zd_Truths_atomHolds_50)
set_option maxHeartbeats 8000000 in
set_option maxRecDepth 100000 in
theorem w_Truths_atomHolds (l : Launch) (G : va_G) (K : Nat → ClassId) (ad : Nat → Nat) (sv : Value) (I : Nat → Int32) (J : Nat → Int64) (B : Nat → Nat → Int32) (D : Nat → Nat → Int64) (a0 : Int32) (Post : Int32 → (Nat → Int32) → (Nat → Int64) → (Nat → Nat → Int32) → (Nat → Nat → Int64) → Prop) (sz : Nat) (hok : wp_Truths_atomHolds I J B D a0 Post) : Met l zy_Truths_atomHolds (Cond.code zy_Truths_atomHolds prog_12_method_6_code 3 (some .boolean) :: zTB) { frames := 2, cells := 0, slots := 0, locals := 47 } (va_Pc [.ref (ad 11), .int a0] (zPre G K (wX ad K sv I J B D) sz)) (va_Qi (fun (r : Int32) (u : zS) => Post r u.1 u.2.1 u.2.2.1 u.2.2.2) (fun u t => zPost G K (va_A (wX ad K sv I J B D) sz) (wX ad K sv u.1 u.2.1 u.2.2.1 u.2.2.2) t) (va_A (wX ad K sv I J B D) sz)) 0 0 (va_A (wX ad K sv I J B D) sz) := by
  refine zMet (y := zy_Truths_atomHolds) (av := [.ref (ad 11), .int a0]) (maxL := 3) (cc := prog_12_method_6_code) (ret := (some .boolean)) (W0 := (wX ad K sv I J B D)) (sz := sz) (G := G) (K := K) (wt := zTB) (mc := 0) (ms := 0) (Qf := fun A => va_Qi (fun (r : Int32) (u : zS) => Post r u.1 u.2.1 u.2.2.1 u.2.2.2) (fun u t => zPost G K A (wX ad K sv u.1 u.2.1 u.2.2.1 u.2.2.2) t) A) (by decide) (Nat.le_of_ble_eq_true rfl) ?_
  intro p e s m below meth c ls A hx hb hr hml hts hown hlocks hin hA hK H locs hw hsz hl
  clear hsz
  have hown : s.vm.findClass "LassoFinder$Truths" = some m.cls := hown
  have C : zCx p s m ([.ref (ad 11), .int a0] : List Value).toArray meth c A G K prog_12_method_6_code (some .boolean) 3 "LassoFinder$Truths" := ⟨hx, hb, hr, hml, hts, hown, hlocks, hA, hK⟩
  have hl : lv_has ls 3 [(0, .ref (ad 11)), (1, .int a0)] := hl
  have hw : zW G A s.heap (wX ad K sv I J B D) H locs := hw
  unfold wp_Truths_atomHolds at hok
  refine lv_aload_n hx hb zd_Truths_atomHolds_0 rfl (lv_at hl 0 rfl) ?_
  refine z_get (v := .ref (ad 9)) hx hb hts hown hK hw zZ11 11 wX_g11 2 (by decide) zn_526 rfl zd_Truths_atomHolds_1 ?_
  refine z_get (v := .ref (ad 55)) hx hb hts hown hK hw zZ1 9 wX_g9 4 (by decide) zn_537 rfl zd_Truths_atomHolds_4 ?_
  refine lv_iload_n hx hb zd_Truths_atomHolds_7 rfl (lv_at hl 1 rfl) ?_
  refine va_iald (f := (B 40)) hx hb hK hw.1 55 0 wX_a55 rfl hok.1 zd_Truths_atomHolds_8 ?_
  have hok := hok.2
  refine lv_topi (fun z1 ez1 => ?_)
  have hok := hok z1 ez1
  refine lv_istore_n hx hb zd_Truths_atomHolds_9 rfl hl (by decide) rfl (fun ls hl => ?_)
  have hl : lv_has ls 3 [(2, .int z1), (0, .ref (ad 11)), (1, .int a0)] := hl
  refine lv_aload_n hx hb zd_Truths_atomHolds_10 rfl (lv_at hl 1 rfl) ?_
  refine z_get (v := .ref (ad 9)) hx hb hts hown hK hw zZ11 11 wX_g11 2 (by decide) zn_526 rfl zd_Truths_atomHolds_11 ?_
  refine z_get (v := .ref (ad 54)) hx hb hts hown hK hw zZ1 9 wX_g9 3 (by decide) zn_528 rfl zd_Truths_atomHolds_14 ?_
  refine lv_iload_n hx hb zd_Truths_atomHolds_17 rfl (lv_at hl 2 rfl) ?_
  refine va_iald (f := (B 39)) hx hb hK hw.1 54 0 wX_a54 rfl hok.1 zd_Truths_atomHolds_18 ?_
  have hok := hok.2
  refine lv_topi (fun z2 ez2 => ?_)
  have hok := hok z2 ez2
  refine lv_bipush (v := 8) hx hb zd_Truths_atomHolds_19 (by decide) ?_
  refine lv_icmp_ne (tgt := 51) hx hb zd_Truths_atomHolds_21 (by decide) (fun hc3 => ?_) (fun hc3 => ?_)
  · have hok := hok.1 hc3
    refine lv_aload_n hx hb zd_Truths_atomHolds_51 rfl (lv_at hl 1 rfl) ?_
    refine z_get (v := .ref (ad 7)) hx hb hts hown hK hw zZ11 11 wX_g11 1 (by decide) zn_533 rfl zd_Truths_atomHolds_52 ?_
    refine z_get (v := .ref (ad 45)) hx hb hts hown hK hw zZ7 7 wX_g7 5 (by decide) zn_541 rfl zd_Truths_atomHolds_55 ?_
    refine lv_iload_n hx hb zd_Truths_atomHolds_58 rfl (lv_at hl 0 rfl) ?_
    refine va_iald (f := (B 31)) hx hb hK hw.1 45 0 wX_a45 rfl hok.1 zd_Truths_atomHolds_59 ?_
    have hok := hok.2
    refine lv_topi (fun z4 ez4 => ?_)
    have hok := hok z4 ez4
    refine lv_aload_n hx hb zd_Truths_atomHolds_60 rfl (lv_at hl 1 rfl) ?_
    refine z_get (v := .ref (ad 9)) hx hb hts hown hK hw zZ11 11 wX_g11 2 (by decide) zn_526 rfl zd_Truths_atomHolds_61 ?_
    refine z_get (v := .ref (ad 56)) hx hb hts hown hK hw zZ1 9 wX_g9 5 (by decide) zn_538 rfl zd_Truths_atomHolds_64 ?_
    refine lv_iload_n hx hb zd_Truths_atomHolds_67 rfl (lv_at hl 2 rfl) ?_
    refine va_iald (f := (B 41)) hx hb hK hw.1 56 0 wX_a56 rfl hok.1 zd_Truths_atomHolds_68 ?_
    have hok := hok.2
    refine lv_topi (fun z5 ez5 => ?_)
    have hok := hok z5 ez5
    refine lv_icmp_ne (tgt := 76) hx hb zd_Truths_atomHolds_69 (by decide) (fun hc6 => ?_) (fun hc6 => ?_)
    · have hok := hok.1 hc6
      refine lv_iconst (v := 0) hx hb zd_Truths_atomHolds_76 (by decide) ?_
      exact wJ_Truths_atomHolds_77 G K ad sv a0 Post C 0 I J B D ls H locs hok (lv_sub hl [] rfl) hw
    · have hok := hok.2 hc6
      refine lv_iconst (v := 1) hx hb zd_Truths_atomHolds_72 (by decide) ?_
      refine lv_goto (tgt := 77) hx hb zd_Truths_atomHolds_73 (by decide) ?_
      exact wJ_Truths_atomHolds_77 G K ad sv a0 Post C 1 I J B D ls H locs hok (lv_sub hl [] rfl) hw
  · have hok := hok.2 hc3
    refine lv_aload_n hx hb zd_Truths_atomHolds_24 rfl (lv_at hl 1 rfl) ?_
    refine z_get (v := .ref (ad 9)) hx hb hts hown hK hw zZ11 11 wX_g11 2 (by decide) zn_526 rfl zd_Truths_atomHolds_25 ?_
    refine z_get (v := .ref (ad 10)) hx hb hts hown hK hw zZ1 9 wX_g9 2 (by decide) zn_539 rfl zd_Truths_atomHolds_28 ?_
    refine lv_iload_n hx hb zd_Truths_atomHolds_31 rfl (lv_at hl 0 rfl) ?_
    refine lv_aload_n hx hb zd_Truths_atomHolds_32 rfl (lv_at hl 1 rfl) ?_
    refine z_get (v := .ref (ad 7)) hx hb hts hown hK hw zZ11 11 wX_g11 1 (by decide) zn_533 rfl zd_Truths_atomHolds_33 ?_
    refine z_get (v := .ref (ad 43)) hx hb hts hown hK hw zZ7 7 wX_g7 3 (by decide) zn_540 rfl zd_Truths_atomHolds_36 ?_
    refine z_calli (w1 := fun (u : zS) => wX ad K sv u.1 u.2.1 u.2.2.1 u.2.2.2) (wr := []) (z_runV (q0 := 10) (wc := (wX ad K sv I J B D)) (As := [.int z1, .ref (ad 43)]) (rest := []) ⟨hx, hb, hml, hown, hts⟩ (w_Terms_reckon_ad43_B l G K ad sv I J B D z1 _ H.size hok) zf_Terms_reckon zn_509 ⟨Nat.le_of_ble_eq_true rfl, Nat.le_of_ble_eq_true rfl⟩ hK hw (List.range 65) wX_all wX_nd wX_g10 rfl rfl hl.1 rfl (Nat.le_of_ble_eq_true rfl) zd_Truths_atomHolds_39 ⟨Nat.le_of_ble_eq_true rfl, Nat.le_of_ble_eq_true rfl⟩) hw hA (List.range 65) [] wX_all rfl (by decide) (fun i hi => by cases hi) (fun r7 u H locs hok hw => ?_)
    obtain ⟨I7, J7, B7, D7⟩ := u
    dsimp only at hok
    have hw : zW G A s.heap (wX ad K sv I7 J7 B7 D7) H locs := hw
    refine lv_if_eq (tgt := 49) hx hb zd_Truths_atomHolds_42 (by decide) (fun hc8 => ?_) (fun hc8 => ?_)
    · have hok := hok.1 hc8
      refine lv_iconst (v := 0) hx hb zd_Truths_atomHolds_49 (by decide) ?_
      exact wJ_Truths_atomHolds_50 G K ad sv a0 Post C 0 I7 J7 B7 D7 ls H locs hok (lv_sub hl [] rfl) hw
    · have hok := hok.2 hc8
      refine lv_iconst (v := 1) hx hb zd_Truths_atomHolds_45 (by decide) ?_
      refine lv_goto (tgt := 50) hx hb zd_Truths_atomHolds_46 (by decide) ?_
      exact wJ_Truths_atomHolds_50 G K ad sv a0 Post C 1 I7 J7 B7 D7 ls H locs hok (lv_sub hl [] rfl) hw
