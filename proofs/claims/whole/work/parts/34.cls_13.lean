abbrev zy_Truths_fillBefore : MethodName := ⟨"LassoFinder$Truths", "fillBefore", "(I)V"⟩
abbrev zy_Truths_reckonParts : MethodName := ⟨"LassoFinder$Truths", "reckonParts", "(Z)V"⟩
abbrev zy_Truths_fillSettled : MethodName := ⟨"LassoFinder$Truths", "fillSettled", "(I)V"⟩
abbrev zy_Truths_settledFor : MethodName := ⟨"LassoFinder$Truths", "settledFor", "(I)I"⟩
theorem zn_507 : Cond.methodLink "LassoFinder$Truths" 77 ⟨"LassoFinder$Truths", "reckonParts", "(Z)V"⟩ ∈ zTB := z_in (zt_5 _ (List.mem_of_getElem? (i := 86) rfl)) rfl
theorem zn_508 : Cond.methodLink "LassoFinder$Truths" 88 ⟨"LassoFinder$Truths", "atomHolds", "(I)Z"⟩ ∈ zTB := z_in (zt_5 _ (List.mem_of_getElem? (i := 90) rfl)) rfl
theorem zn_510 : Cond.methodLink "LassoFinder$Truths" 92 ⟨"LassoFinder$Truths", "joined", "(I)I"⟩ ∈ zTB := z_in (zt_5 _ (List.mem_of_getElem? (i := 95) rfl)) rfl
theorem zn_511 : Cond.methodLink "LassoFinder$Truths" 98 ⟨"LassoFinder$Truths", "carried", "(II)I"⟩ ∈ zTB := z_in (zt_5 _ (List.mem_of_getElem? (i := 101) rfl)) rfl
theorem zn_513 : Cond.methodLink "LassoFinder$Truths" 84 ⟨"LassoFinder$Truths", "settledFor", "(I)I"⟩ ∈ zTB := z_in (zt_5 _ (List.mem_of_getElem? (i := 109) rfl)) rfl
theorem zn_527 : Cond.fieldLink "LassoFinder$Truths" 39 "LassoFinder$Formula" "temporals" "I" ∈ zTB := z_in (zt_2 _ (List.mem_of_getElem? (i := 150) rfl)) rfl
theorem zn_529 : Cond.fieldLink "LassoFinder$Truths" 54 "LassoFinder$Formula" "temporalParts" "[I" ∈ zTB := z_in (zt_2 _ (List.mem_of_getElem? (i := 149) rfl)) rfl
theorem zn_535 : Cond.fieldLink "LassoFinder$Truths" 81 "LassoFinder$Formula" "size" "I" ∈ zTB := z_in (zt_2 _ (List.mem_of_getElem? (i := 154) rfl)) rfl
theorem zn_536 : Cond.fieldLink "LassoFinder$Truths" 95 "LassoFinder$Truths" "GUESSED" "[I" ∈ zTB := z_in (zt_5 _ (List.mem_of_getElem? (i := 99) rfl)) rfl
theorem zn_729 : Cond.code ⟨"LassoFinder$Truths", "carried", "(II)I"⟩ prog_12_method_8_code 4 (some .int) ∈ zTB := z_in (zt_5 _ (List.mem_of_getElem? (i := 104) rfl)) rfl
theorem zn_730 : Cond.instanceMethod ⟨"LassoFinder$Truths", "carried", "(II)I"⟩ ∈ zTB := z_in (zt_5 _ (List.mem_of_getElem? (i := 103) rfl)) rfl
theorem zn_731 : Cond.code ⟨"LassoFinder$Truths", "joined", "(I)I"⟩ prog_12_method_7_code 3 (some .int) ∈ zTB := z_in (zt_5 _ (List.mem_of_getElem? (i := 98) rfl)) rfl
theorem zn_732 : Cond.instanceMethod ⟨"LassoFinder$Truths", "joined", "(I)I"⟩ ∈ zTB := z_in (zt_5 _ (List.mem_of_getElem? (i := 97) rfl)) rfl
theorem zn_733 : Cond.code ⟨"LassoFinder$Truths", "atomHolds", "(I)Z"⟩ prog_12_method_6_code 3 (some .boolean) ∈ zTB := z_in (zt_5 _ (List.mem_of_getElem? (i := 93) rfl)) rfl
theorem zn_734 : Cond.instanceMethod ⟨"LassoFinder$Truths", "atomHolds", "(I)Z"⟩ ∈ zTB := z_in (zt_5 _ (List.mem_of_getElem? (i := 92) rfl)) rfl
theorem zn_735 : Cond.code ⟨"LassoFinder$Truths", "reckonParts", "(Z)V"⟩ prog_12_method_5_code 5 none ∈ zTB := z_in (zt_5 _ (List.mem_of_getElem? (i := 89) rfl)) rfl
theorem zn_736 : Cond.instanceMethod ⟨"LassoFinder$Truths", "reckonParts", "(Z)V"⟩ ∈ zTB := z_in (zt_5 _ (List.mem_of_getElem? (i := 88) rfl)) rfl
theorem zn_737 : Cond.code ⟨"LassoFinder$Truths", "settledFor", "(I)I"⟩ prog_12_method_9_code 5 (some .int) ∈ zTB := z_in (zt_5 _ (List.mem_of_getElem? (i := 112) rfl)) rfl
theorem zn_738 : Cond.instanceMethod ⟨"LassoFinder$Truths", "settledFor", "(I)I"⟩ ∈ zTB := z_in (zt_5 _ (List.mem_of_getElem? (i := 111) rfl)) rfl
theorem zf_Truths_carried : zFaceV zy_Truths_carried prog_12_method_8_code 4 (some .int) 2 := ⟨zn_730, (z_in (zp_4 _ (List.mem_of_getElem? (i := 2) rfl)) rfl), zm_23, zn_729, by decide +kernel, by decide +kernel, by decide +kernel⟩
theorem zf_Truths_joined : zFaceV zy_Truths_joined prog_12_method_7_code 3 (some .int) 1 := ⟨zn_732, (z_in (zp_4 _ (List.mem_of_getElem? (i := 1) rfl)) rfl), zm_23, zn_731, by decide +kernel, by decide +kernel, by decide +kernel⟩
theorem zf_Truths_atomHolds : zFaceV zy_Truths_atomHolds prog_12_method_6_code 3 (some .boolean) 1 := ⟨zn_734, (z_in (zp_4 _ (List.mem_of_getElem? (i := 0) rfl)) rfl), zm_23, zn_733, by decide +kernel, by decide +kernel, by decide +kernel⟩
theorem zf_Truths_reckonParts : zFaceV zy_Truths_reckonParts prog_12_method_5_code 5 none 1 := ⟨zn_736, (z_in (zp_3 _ (List.mem_of_getElem? (i := 15) rfl)) rfl), zm_23, zn_735, by decide +kernel, by decide +kernel, by decide +kernel⟩
theorem zf_Truths_settledFor : zFaceV zy_Truths_settledFor prog_12_method_9_code 5 (some .int) 1 := ⟨zn_738, (z_in (zp_4 _ (List.mem_of_getElem? (i := 4) rfl)) rfl), zm_23, zn_737, by decide +kernel, by decide +kernel, by decide +kernel⟩
theorem zd_Truths_fillBefore_0 : decode prog_12_method_3_code 0 = .ok (.aload_n 0, 1) := by decide +kernel
theorem zd_Truths_fillBefore_1 : decode prog_12_method_3_code 1 = .ok (.iconst 1, 1) := by decide +kernel
theorem zd_Truths_fillBefore_2 : decode prog_12_method_3_code 2 = .ok (.invokevirtual 77, 3) := by decide +kernel
theorem zd_Truths_fillBefore_5 : decode prog_12_method_3_code 5 = .ok (.iconst 0, 1) := by decide +kernel
theorem zd_Truths_fillBefore_6 : decode prog_12_method_3_code 6 = .ok (.istore_n 2, 1) := by decide +kernel
theorem zd_Truths_fillBefore_7 : decode prog_12_method_3_code 7 = .ok (.iload_n 2, 1) := by decide +kernel
theorem zd_Truths_fillBefore_8 : decode prog_12_method_3_code 8 = .ok (.bipush 8, 2) := by decide +kernel
theorem zd_Truths_fillBefore_10 : decode prog_12_method_3_code 10 = .ok (.if_icmp .ge 69, 3) := by decide +kernel
theorem zd_Truths_fillBefore_13 : decode prog_12_method_3_code 13 = .ok (.iconst 0, 1) := by decide +kernel
theorem zd_Truths_fillBefore_14 : decode prog_12_method_3_code 14 = .ok (.istore_n 3, 1) := by decide +kernel
theorem zd_Truths_fillBefore_15 : decode prog_12_method_3_code 15 = .ok (.iconst 0, 1) := by decide +kernel
theorem zd_Truths_fillBefore_16 : decode prog_12_method_3_code 16 = .ok (.istore 4, 2) := by decide +kernel
theorem zd_Truths_fillBefore_18 : decode prog_12_method_3_code 18 = .ok (.iload 4, 2) := by decide +kernel
theorem zd_Truths_fillBefore_20 : decode prog_12_method_3_code 20 = .ok (.aload_n 0, 1) := by decide +kernel
theorem zd_Truths_fillBefore_21 : decode prog_12_method_3_code 21 = .ok (.getfield 17, 3) := by decide +kernel
theorem zd_Truths_fillBefore_24 : decode prog_12_method_3_code 24 = .ok (.getfield 39, 3) := by decide +kernel
theorem zd_Truths_fillBefore_27 : decode prog_12_method_3_code 27 = .ok (.if_icmp .ge 34, 3) := by decide +kernel
theorem zd_Truths_fillBefore_30 : decode prog_12_method_3_code 30 = .ok (.iload_n 3, 1) := by decide +kernel
theorem zd_Truths_fillBefore_31 : decode prog_12_method_3_code 31 = .ok (.aload_n 0, 1) := by decide +kernel
theorem zd_Truths_fillBefore_32 : decode prog_12_method_3_code 32 = .ok (.getfield 23, 3) := by decide +kernel
theorem zd_Truths_fillBefore_35 : decode prog_12_method_3_code 35 = .ok (.aload_n 0, 1) := by decide +kernel
theorem zd_Truths_fillBefore_36 : decode prog_12_method_3_code 36 = .ok (.getfield 17, 3) := by decide +kernel
theorem zd_Truths_fillBefore_39 : decode prog_12_method_3_code 39 = .ok (.getfield 54, 3) := by decide +kernel
theorem zd_Truths_fillBefore_42 : decode prog_12_method_3_code 42 = .ok (.iload 4, 2) := by decide +kernel
theorem zd_Truths_fillBefore_44 : decode prog_12_method_3_code 44 = .ok (.iaload, 1) := by decide +kernel
theorem zd_Truths_fillBefore_45 : decode prog_12_method_3_code 45 = .ok (.iaload, 1) := by decide +kernel
theorem zd_Truths_fillBefore_46 : decode prog_12_method_3_code 46 = .ok (.iload_n 2, 1) := by decide +kernel
theorem zd_Truths_fillBefore_47 : decode prog_12_method_3_code 47 = .ok (.ishr, 1) := by decide +kernel
theorem zd_Truths_fillBefore_48 : decode prog_12_method_3_code 48 = .ok (.iconst 1, 1) := by decide +kernel
theorem zd_Truths_fillBefore_49 : decode prog_12_method_3_code 49 = .ok (.iand, 1) := by decide +kernel
theorem zd_Truths_fillBefore_50 : decode prog_12_method_3_code 50 = .ok (.iload 4, 2) := by decide +kernel
theorem zd_Truths_fillBefore_52 : decode prog_12_method_3_code 52 = .ok (.ishl, 1) := by decide +kernel
theorem zd_Truths_fillBefore_53 : decode prog_12_method_3_code 53 = .ok (.ior, 1) := by decide +kernel
theorem zd_Truths_fillBefore_54 : decode prog_12_method_3_code 54 = .ok (.istore_n 3, 1) := by decide +kernel
theorem zd_Truths_fillBefore_55 : decode prog_12_method_3_code 55 = .ok (.iinc 4 1, 3) := by decide +kernel
theorem zd_Truths_fillBefore_58 : decode prog_12_method_3_code 58 = .ok (.goto (-40), 3) := by decide +kernel
theorem zd_Truths_fillBefore_61 : decode prog_12_method_3_code 61 = .ok (.aload_n 0, 1) := by decide +kernel
theorem zd_Truths_fillBefore_62 : decode prog_12_method_3_code 62 = .ok (.getfield 29, 3) := by decide +kernel
theorem zd_Truths_fillBefore_65 : decode prog_12_method_3_code 65 = .ok (.iload_n 1, 1) := by decide +kernel
theorem zd_Truths_fillBefore_66 : decode prog_12_method_3_code 66 = .ok (.bipush 8, 2) := by decide +kernel
theorem zd_Truths_fillBefore_68 : decode prog_12_method_3_code 68 = .ok (.imul, 1) := by decide +kernel
theorem zd_Truths_fillBefore_69 : decode prog_12_method_3_code 69 = .ok (.iload_n 2, 1) := by decide +kernel
theorem zd_Truths_fillBefore_70 : decode prog_12_method_3_code 70 = .ok (.iadd, 1) := by decide +kernel
theorem zd_Truths_fillBefore_71 : decode prog_12_method_3_code 71 = .ok (.iload_n 3, 1) := by decide +kernel
theorem zd_Truths_fillBefore_72 : decode prog_12_method_3_code 72 = .ok (.iastore, 1) := by decide +kernel
theorem zd_Truths_fillBefore_73 : decode prog_12_method_3_code 73 = .ok (.iinc 2 1, 3) := by decide +kernel
theorem zd_Truths_fillBefore_76 : decode prog_12_method_3_code 76 = .ok (.goto (-69), 3) := by decide +kernel
theorem zd_Truths_fillBefore_79 : decode prog_12_method_3_code 79 = .ok (.return_, 1) := by decide +kernel
theorem zd_Truths_fillSettled_0 : decode prog_12_method_4_code 0 = .ok (.aload_n 0, 1) := by decide +kernel
theorem zd_Truths_fillSettled_1 : decode prog_12_method_4_code 1 = .ok (.iconst 0, 1) := by decide +kernel
theorem zd_Truths_fillSettled_2 : decode prog_12_method_4_code 2 = .ok (.invokevirtual 77, 3) := by decide +kernel
theorem zd_Truths_fillSettled_5 : decode prog_12_method_4_code 5 = .ok (.aload_n 0, 1) := by decide +kernel
theorem zd_Truths_fillSettled_6 : decode prog_12_method_4_code 6 = .ok (.getfield 23, 3) := by decide +kernel
theorem zd_Truths_fillSettled_9 : decode prog_12_method_4_code 9 = .ok (.aload_n 0, 1) := by decide +kernel
theorem zd_Truths_fillSettled_10 : decode prog_12_method_4_code 10 = .ok (.getfield 17, 3) := by decide +kernel
theorem zd_Truths_fillSettled_13 : decode prog_12_method_4_code 13 = .ok (.getfield 81, 3) := by decide +kernel
theorem zd_Truths_fillSettled_16 : decode prog_12_method_4_code 16 = .ok (.iconst 1, 1) := by decide +kernel
theorem zd_Truths_fillSettled_17 : decode prog_12_method_4_code 17 = .ok (.isub, 1) := by decide +kernel
theorem zd_Truths_fillSettled_18 : decode prog_12_method_4_code 18 = .ok (.iaload, 1) := by decide +kernel
theorem zd_Truths_fillSettled_19 : decode prog_12_method_4_code 19 = .ok (.istore_n 2, 1) := by decide +kernel
theorem zd_Truths_fillSettled_20 : decode prog_12_method_4_code 20 = .ok (.iconst 0, 1) := by decide +kernel
theorem zd_Truths_fillSettled_21 : decode prog_12_method_4_code 21 = .ok (.istore_n 3, 1) := by decide +kernel
theorem zd_Truths_fillSettled_22 : decode prog_12_method_4_code 22 = .ok (.iload_n 3, 1) := by decide +kernel
theorem zd_Truths_fillSettled_23 : decode prog_12_method_4_code 23 = .ok (.bipush 8, 2) := by decide +kernel
theorem zd_Truths_fillSettled_25 : decode prog_12_method_4_code 25 = .ok (.if_icmp .ge 88, 3) := by decide +kernel
theorem zd_Truths_fillSettled_28 : decode prog_12_method_4_code 28 = .ok (.iconst 0, 1) := by decide +kernel
theorem zd_Truths_fillSettled_29 : decode prog_12_method_4_code 29 = .ok (.istore 4, 2) := by decide +kernel
theorem zd_Truths_fillSettled_31 : decode prog_12_method_4_code 31 = .ok (.iconst 0, 1) := by decide +kernel
theorem zd_Truths_fillSettled_32 : decode prog_12_method_4_code 32 = .ok (.istore 5, 2) := by decide +kernel
theorem zd_Truths_fillSettled_34 : decode prog_12_method_4_code 34 = .ok (.iload 5, 2) := by decide +kernel
theorem zd_Truths_fillSettled_36 : decode prog_12_method_4_code 36 = .ok (.aload_n 0, 1) := by decide +kernel
theorem zd_Truths_fillSettled_37 : decode prog_12_method_4_code 37 = .ok (.getfield 17, 3) := by decide +kernel
theorem zd_Truths_fillSettled_40 : decode prog_12_method_4_code 40 = .ok (.getfield 39, 3) := by decide +kernel
theorem zd_Truths_fillSettled_43 : decode prog_12_method_4_code 43 = .ok (.if_icmp .ge 27, 3) := by decide +kernel
theorem zd_Truths_fillSettled_46 : decode prog_12_method_4_code 46 = .ok (.iload 4, 2) := by decide +kernel
theorem zd_Truths_fillSettled_48 : decode prog_12_method_4_code 48 = .ok (.aload_n 0, 1) := by decide +kernel
theorem zd_Truths_fillSettled_49 : decode prog_12_method_4_code 49 = .ok (.iload 5, 2) := by decide +kernel
theorem zd_Truths_fillSettled_51 : decode prog_12_method_4_code 51 = .ok (.invokevirtual 84, 3) := by decide +kernel
theorem zd_Truths_fillSettled_54 : decode prog_12_method_4_code 54 = .ok (.iload_n 3, 1) := by decide +kernel
theorem zd_Truths_fillSettled_55 : decode prog_12_method_4_code 55 = .ok (.ishr, 1) := by decide +kernel
theorem zd_Truths_fillSettled_56 : decode prog_12_method_4_code 56 = .ok (.iconst 1, 1) := by decide +kernel
theorem zd_Truths_fillSettled_57 : decode prog_12_method_4_code 57 = .ok (.iand, 1) := by decide +kernel
theorem zd_Truths_fillSettled_58 : decode prog_12_method_4_code 58 = .ok (.iload 5, 2) := by decide +kernel
theorem zd_Truths_fillSettled_60 : decode prog_12_method_4_code 60 = .ok (.ishl, 1) := by decide +kernel
theorem zd_Truths_fillSettled_61 : decode prog_12_method_4_code 61 = .ok (.ior, 1) := by decide +kernel
theorem zd_Truths_fillSettled_62 : decode prog_12_method_4_code 62 = .ok (.istore 4, 2) := by decide +kernel
theorem zd_Truths_fillSettled_64 : decode prog_12_method_4_code 64 = .ok (.iinc 5 1, 3) := by decide +kernel
theorem zd_Truths_fillSettled_67 : decode prog_12_method_4_code 67 = .ok (.goto (-33), 3) := by decide +kernel
theorem zd_Truths_fillSettled_70 : decode prog_12_method_4_code 70 = .ok (.aload_n 0, 1) := by decide +kernel
theorem zd_Truths_fillSettled_71 : decode prog_12_method_4_code 71 = .ok (.getfield 32, 3) := by decide +kernel
theorem zd_Truths_fillSettled_74 : decode prog_12_method_4_code 74 = .ok (.iload_n 1, 1) := by decide +kernel
theorem zd_Truths_fillSettled_75 : decode prog_12_method_4_code 75 = .ok (.bipush 8, 2) := by decide +kernel
theorem zd_Truths_fillSettled_77 : decode prog_12_method_4_code 77 = .ok (.imul, 1) := by decide +kernel
theorem zd_Truths_fillSettled_78 : decode prog_12_method_4_code 78 = .ok (.iload_n 3, 1) := by decide +kernel
theorem zd_Truths_fillSettled_79 : decode prog_12_method_4_code 79 = .ok (.iadd, 1) := by decide +kernel
theorem zd_Truths_fillSettled_80 : decode prog_12_method_4_code 80 = .ok (.iload 4, 2) := by decide +kernel
theorem zd_Truths_fillSettled_82 : decode prog_12_method_4_code 82 = .ok (.iastore, 1) := by decide +kernel
theorem zd_Truths_fillSettled_83 : decode prog_12_method_4_code 83 = .ok (.aload_n 0, 1) := by decide +kernel
theorem zd_Truths_fillSettled_84 : decode prog_12_method_4_code 84 = .ok (.getfield 35, 3) := by decide +kernel
theorem zd_Truths_fillSettled_87 : decode prog_12_method_4_code 87 = .ok (.iload_n 1, 1) := by decide +kernel
theorem zd_Truths_fillSettled_88 : decode prog_12_method_4_code 88 = .ok (.bipush 8, 2) := by decide +kernel
theorem zd_Truths_fillSettled_90 : decode prog_12_method_4_code 90 = .ok (.imul, 1) := by decide +kernel
theorem zd_Truths_fillSettled_91 : decode prog_12_method_4_code 91 = .ok (.iload_n 3, 1) := by decide +kernel
theorem zd_Truths_fillSettled_92 : decode prog_12_method_4_code 92 = .ok (.iadd, 1) := by decide +kernel
theorem zd_Truths_fillSettled_93 : decode prog_12_method_4_code 93 = .ok (.iload_n 2, 1) := by decide +kernel
theorem zd_Truths_fillSettled_94 : decode prog_12_method_4_code 94 = .ok (.iload_n 3, 1) := by decide +kernel
theorem zd_Truths_fillSettled_95 : decode prog_12_method_4_code 95 = .ok (.ishr, 1) := by decide +kernel
theorem zd_Truths_fillSettled_96 : decode prog_12_method_4_code 96 = .ok (.iconst 1, 1) := by decide +kernel
theorem zd_Truths_fillSettled_97 : decode prog_12_method_4_code 97 = .ok (.iand, 1) := by decide +kernel
theorem zd_Truths_fillSettled_98 : decode prog_12_method_4_code 98 = .ok (.ifCond .eq 7, 3) := by decide +kernel
theorem zd_Truths_fillSettled_101 : decode prog_12_method_4_code 101 = .ok (.iconst 1, 1) := by decide +kernel
theorem zd_Truths_fillSettled_102 : decode prog_12_method_4_code 102 = .ok (.goto 4, 3) := by decide +kernel
theorem zd_Truths_fillSettled_105 : decode prog_12_method_4_code 105 = .ok (.iconst 0, 1) := by decide +kernel
theorem zd_Truths_fillSettled_106 : decode prog_12_method_4_code 106 = .ok (.bastore, 1) := by decide +kernel
theorem zd_Truths_fillSettled_107 : decode prog_12_method_4_code 107 = .ok (.iinc 3 1, 3) := by decide +kernel
theorem zd_Truths_fillSettled_110 : decode prog_12_method_4_code 110 = .ok (.goto (-88), 3) := by decide +kernel
theorem zd_Truths_fillSettled_113 : decode prog_12_method_4_code 113 = .ok (.return_, 1) := by decide +kernel
theorem zd_Truths_reckonParts_0 : decode prog_12_method_5_code 0 = .ok (.iconst 0, 1) := by decide +kernel
theorem zd_Truths_reckonParts_1 : decode prog_12_method_5_code 1 = .ok (.istore_n 2, 1) := by decide +kernel
theorem zd_Truths_reckonParts_2 : decode prog_12_method_5_code 2 = .ok (.iconst 0, 1) := by decide +kernel
theorem zd_Truths_reckonParts_3 : decode prog_12_method_5_code 3 = .ok (.istore_n 3, 1) := by decide +kernel
theorem zd_Truths_reckonParts_4 : decode prog_12_method_5_code 4 = .ok (.iload_n 3, 1) := by decide +kernel
theorem zd_Truths_reckonParts_5 : decode prog_12_method_5_code 5 = .ok (.aload_n 0, 1) := by decide +kernel
theorem zd_Truths_reckonParts_6 : decode prog_12_method_5_code 6 = .ok (.getfield 17, 3) := by decide +kernel
theorem zd_Truths_reckonParts_9 : decode prog_12_method_5_code 9 = .ok (.getfield 81, 3) := by decide +kernel
theorem zd_Truths_reckonParts_12 : decode prog_12_method_5_code 12 = .ok (.if_icmp .ge 102, 3) := by decide +kernel
theorem zd_Truths_reckonParts_15 : decode prog_12_method_5_code 15 = .ok (.aload_n 0, 1) := by decide +kernel
theorem zd_Truths_reckonParts_16 : decode prog_12_method_5_code 16 = .ok (.getfield 17, 3) := by decide +kernel
theorem zd_Truths_reckonParts_19 : decode prog_12_method_5_code 19 = .ok (.getfield 51, 3) := by decide +kernel
theorem zd_Truths_reckonParts_22 : decode prog_12_method_5_code 22 = .ok (.iload_n 3, 1) := by decide +kernel
theorem zd_Truths_reckonParts_23 : decode prog_12_method_5_code 23 = .ok (.iaload, 1) := by decide +kernel
theorem zd_Truths_reckonParts_24 : decode prog_12_method_5_code 24 = .ok (.istore 4, 2) := by decide +kernel
theorem zd_Truths_reckonParts_26 : decode prog_12_method_5_code 26 = .ok (.iload 4, 2) := by decide +kernel
theorem zd_Truths_reckonParts_28 : decode prog_12_method_5_code 28 = .ok (.bipush 8, 2) := by decide +kernel
theorem zd_Truths_reckonParts_30 : decode prog_12_method_5_code 30 = .ok (.if_icmp .lt 27, 3) := by decide +kernel
theorem zd_Truths_reckonParts_33 : decode prog_12_method_5_code 33 = .ok (.aload_n 0, 1) := by decide +kernel
theorem zd_Truths_reckonParts_34 : decode prog_12_method_5_code 34 = .ok (.getfield 23, 3) := by decide +kernel
theorem zd_Truths_reckonParts_37 : decode prog_12_method_5_code 37 = .ok (.iload_n 3, 1) := by decide +kernel
theorem zd_Truths_reckonParts_38 : decode prog_12_method_5_code 38 = .ok (.aload_n 0, 1) := by decide +kernel
theorem zd_Truths_reckonParts_39 : decode prog_12_method_5_code 39 = .ok (.iload_n 3, 1) := by decide +kernel
theorem zd_Truths_reckonParts_40 : decode prog_12_method_5_code 40 = .ok (.invokevirtual 88, 3) := by decide +kernel
theorem zd_Truths_reckonParts_43 : decode prog_12_method_5_code 43 = .ok (.ifCond .eq 9, 3) := by decide +kernel
theorem zd_Truths_reckonParts_46 : decode prog_12_method_5_code 46 = .ok (.sipush 255, 3) := by decide +kernel
theorem zd_Truths_reckonParts_49 : decode prog_12_method_5_code 49 = .ok (.goto 4, 3) := by decide +kernel
theorem zd_Truths_reckonParts_52 : decode prog_12_method_5_code 52 = .ok (.iconst 0, 1) := by decide +kernel
theorem zd_Truths_reckonParts_53 : decode prog_12_method_5_code 53 = .ok (.iastore, 1) := by decide +kernel
theorem zd_Truths_reckonParts_54 : decode prog_12_method_5_code 54 = .ok (.goto 54, 3) := by decide +kernel
theorem zd_Truths_reckonParts_57 : decode prog_12_method_5_code 57 = .ok (.iload 4, 2) := by decide +kernel
theorem zd_Truths_reckonParts_59 : decode prog_12_method_5_code 59 = .ok (.iconst 4, 1) := by decide +kernel
theorem zd_Truths_reckonParts_60 : decode prog_12_method_5_code 60 = .ok (.if_icmp .ge 17, 3) := by decide +kernel
theorem zd_Truths_reckonParts_63 : decode prog_12_method_5_code 63 = .ok (.aload_n 0, 1) := by decide +kernel
theorem zd_Truths_reckonParts_64 : decode prog_12_method_5_code 64 = .ok (.getfield 23, 3) := by decide +kernel
theorem zd_Truths_reckonParts_67 : decode prog_12_method_5_code 67 = .ok (.iload_n 3, 1) := by decide +kernel
theorem zd_Truths_reckonParts_68 : decode prog_12_method_5_code 68 = .ok (.aload_n 0, 1) := by decide +kernel
theorem zd_Truths_reckonParts_69 : decode prog_12_method_5_code 69 = .ok (.iload_n 3, 1) := by decide +kernel
theorem zd_Truths_reckonParts_70 : decode prog_12_method_5_code 70 = .ok (.invokevirtual 92, 3) := by decide +kernel
theorem zd_Truths_reckonParts_73 : decode prog_12_method_5_code 73 = .ok (.iastore, 1) := by decide +kernel
theorem zd_Truths_reckonParts_74 : decode prog_12_method_5_code 74 = .ok (.goto 34, 3) := by decide +kernel
theorem zd_Truths_reckonParts_77 : decode prog_12_method_5_code 77 = .ok (.aload_n 0, 1) := by decide +kernel
theorem zd_Truths_reckonParts_78 : decode prog_12_method_5_code 78 = .ok (.getfield 23, 3) := by decide +kernel
theorem zd_Truths_reckonParts_81 : decode prog_12_method_5_code 81 = .ok (.iload_n 3, 1) := by decide +kernel
theorem zd_Truths_reckonParts_82 : decode prog_12_method_5_code 82 = .ok (.iload_n 1, 1) := by decide +kernel
theorem zd_Truths_reckonParts_83 : decode prog_12_method_5_code 83 = .ok (.ifCond .eq 16, 3) := by decide +kernel
theorem zd_Truths_reckonParts_86 : decode prog_12_method_5_code 86 = .ok (.aload_n 0, 1) := by decide +kernel
theorem zd_Truths_reckonParts_87 : decode prog_12_method_5_code 87 = .ok (.iload_n 3, 1) := by decide +kernel
theorem zd_Truths_reckonParts_88 : decode prog_12_method_5_code 88 = .ok (.getstatic 95, 3) := by decide +kernel
theorem zd_Truths_reckonParts_91 : decode prog_12_method_5_code 91 = .ok (.iload_n 2, 1) := by decide +kernel
theorem zd_Truths_reckonParts_92 : decode prog_12_method_5_code 92 = .ok (.iaload, 1) := by decide +kernel
theorem zd_Truths_reckonParts_93 : decode prog_12_method_5_code 93 = .ok (.invokevirtual 98, 3) := by decide +kernel
theorem zd_Truths_reckonParts_96 : decode prog_12_method_5_code 96 = .ok (.goto 8, 3) := by decide +kernel
theorem zd_Truths_reckonParts_99 : decode prog_12_method_5_code 99 = .ok (.getstatic 95, 3) := by decide +kernel
theorem zd_Truths_reckonParts_102 : decode prog_12_method_5_code 102 = .ok (.iload_n 2, 1) := by decide +kernel
theorem zd_Truths_reckonParts_103 : decode prog_12_method_5_code 103 = .ok (.iaload, 1) := by decide +kernel
theorem zd_Truths_reckonParts_104 : decode prog_12_method_5_code 104 = .ok (.iastore, 1) := by decide +kernel
theorem zd_Truths_reckonParts_105 : decode prog_12_method_5_code 105 = .ok (.iinc 2 1, 3) := by decide +kernel
theorem zd_Truths_reckonParts_108 : decode prog_12_method_5_code 108 = .ok (.iinc 3 1, 3) := by decide +kernel
theorem zd_Truths_reckonParts_111 : decode prog_12_method_5_code 111 = .ok (.goto (-107), 3) := by decide +kernel
theorem zd_Truths_reckonParts_114 : decode prog_12_method_5_code 114 = .ok (.return_, 1) := by decide +kernel
theorem zd_Truths_settledFor_0 : decode prog_12_method_9_code 0 = .ok (.aload_n 0, 1) := by decide +kernel
theorem zd_Truths_settledFor_1 : decode prog_12_method_9_code 1 = .ok (.getfield 17, 3) := by decide +kernel
theorem zd_Truths_settledFor_4 : decode prog_12_method_9_code 4 = .ok (.getfield 54, 3) := by decide +kernel
theorem zd_Truths_settledFor_7 : decode prog_12_method_9_code 7 = .ok (.iload_n 1, 1) := by decide +kernel
theorem zd_Truths_settledFor_8 : decode prog_12_method_9_code 8 = .ok (.iaload, 1) := by decide +kernel
theorem zd_Truths_settledFor_9 : decode prog_12_method_9_code 9 = .ok (.istore_n 2, 1) := by decide +kernel
theorem zd_Truths_settledFor_10 : decode prog_12_method_9_code 10 = .ok (.getstatic 95, 3) := by decide +kernel
theorem zd_Truths_settledFor_13 : decode prog_12_method_9_code 13 = .ok (.iload_n 1, 1) := by decide +kernel
theorem zd_Truths_settledFor_14 : decode prog_12_method_9_code 14 = .ok (.iaload, 1) := by decide +kernel
theorem zd_Truths_settledFor_15 : decode prog_12_method_9_code 15 = .ok (.istore_n 3, 1) := by decide +kernel
theorem zd_Truths_settledFor_16 : decode prog_12_method_9_code 16 = .ok (.aload_n 0, 1) := by decide +kernel
theorem zd_Truths_settledFor_17 : decode prog_12_method_9_code 17 = .ok (.getfield 23, 3) := by decide +kernel
theorem zd_Truths_settledFor_20 : decode prog_12_method_9_code 20 = .ok (.aload_n 0, 1) := by decide +kernel
theorem zd_Truths_settledFor_21 : decode prog_12_method_9_code 21 = .ok (.getfield 17, 3) := by decide +kernel
theorem zd_Truths_settledFor_24 : decode prog_12_method_9_code 24 = .ok (.getfield 102, 3) := by decide +kernel
theorem zd_Truths_settledFor_27 : decode prog_12_method_9_code 27 = .ok (.iload_n 2, 1) := by decide +kernel
theorem zd_Truths_settledFor_28 : decode prog_12_method_9_code 28 = .ok (.iaload, 1) := by decide +kernel
theorem zd_Truths_settledFor_29 : decode prog_12_method_9_code 29 = .ok (.iaload, 1) := by decide +kernel
theorem zd_Truths_settledFor_30 : decode prog_12_method_9_code 30 = .ok (.istore 4, 2) := by decide +kernel
theorem zd_Truths_settledFor_32 : decode prog_12_method_9_code 32 = .ok (.aload_n 0, 1) := by decide +kernel
theorem zd_Truths_settledFor_33 : decode prog_12_method_9_code 33 = .ok (.getfield 17, 3) := by decide +kernel
theorem zd_Truths_settledFor_36 : decode prog_12_method_9_code 36 = .ok (.getfield 51, 3) := by decide +kernel
theorem zd_Truths_settledFor_39 : decode prog_12_method_9_code 39 = .ok (.iload_n 2, 1) := by decide +kernel
theorem zd_Truths_settledFor_40 : decode prog_12_method_9_code 40 = .ok (.iaload, 1) := by decide +kernel
theorem zd_Truths_settledFor_41 : decode prog_12_method_9_code 41 = .ok (.tableswitch 66 4 6 #[27, 36, 45], 27) := by decide +kernel
theorem zd_Truths_settledFor_68 : decode prog_12_method_9_code 68 = .ok (.iload_n 3, 1) := by decide +kernel
theorem zd_Truths_settledFor_69 : decode prog_12_method_9_code 69 = .ok (.iload 4, 2) := by decide +kernel
theorem zd_Truths_settledFor_71 : decode prog_12_method_9_code 71 = .ok (.sipush 255, 3) := by decide +kernel
theorem zd_Truths_settledFor_74 : decode prog_12_method_9_code 74 = .ok (.ixor, 1) := by decide +kernel
theorem zd_Truths_settledFor_75 : decode prog_12_method_9_code 75 = .ok (.ior, 1) := by decide +kernel
theorem zd_Truths_settledFor_76 : decode prog_12_method_9_code 76 = .ok (.ireturn, 1) := by decide +kernel
theorem zd_Truths_settledFor_77 : decode prog_12_method_9_code 77 = .ok (.iload_n 3, 1) := by decide +kernel
theorem zd_Truths_settledFor_78 : decode prog_12_method_9_code 78 = .ok (.sipush 255, 3) := by decide +kernel
theorem zd_Truths_settledFor_81 : decode prog_12_method_9_code 81 = .ok (.ixor, 1) := by decide +kernel
theorem zd_Truths_settledFor_82 : decode prog_12_method_9_code 82 = .ok (.iload 4, 2) := by decide +kernel
theorem zd_Truths_settledFor_84 : decode prog_12_method_9_code 84 = .ok (.ior, 1) := by decide +kernel
theorem zd_Truths_settledFor_85 : decode prog_12_method_9_code 85 = .ok (.ireturn, 1) := by decide +kernel
theorem zd_Truths_settledFor_86 : decode prog_12_method_9_code 86 = .ok (.iload_n 3, 1) := by decide +kernel
theorem zd_Truths_settledFor_87 : decode prog_12_method_9_code 87 = .ok (.sipush 255, 3) := by decide +kernel
theorem zd_Truths_settledFor_90 : decode prog_12_method_9_code 90 = .ok (.ixor, 1) := by decide +kernel
theorem zd_Truths_settledFor_91 : decode prog_12_method_9_code 91 = .ok (.aload_n 0, 1) := by decide +kernel
theorem zd_Truths_settledFor_92 : decode prog_12_method_9_code 92 = .ok (.getfield 23, 3) := by decide +kernel
theorem zd_Truths_settledFor_95 : decode prog_12_method_9_code 95 = .ok (.aload_n 0, 1) := by decide +kernel
theorem zd_Truths_settledFor_96 : decode prog_12_method_9_code 96 = .ok (.getfield 17, 3) := by decide +kernel
theorem zd_Truths_settledFor_99 : decode prog_12_method_9_code 99 = .ok (.getfield 121, 3) := by decide +kernel
theorem zd_Truths_settledFor_102 : decode prog_12_method_9_code 102 = .ok (.iload_n 2, 1) := by decide +kernel
theorem zd_Truths_settledFor_103 : decode prog_12_method_9_code 103 = .ok (.iaload, 1) := by decide +kernel
theorem zd_Truths_settledFor_104 : decode prog_12_method_9_code 104 = .ok (.iaload, 1) := by decide +kernel
theorem zd_Truths_settledFor_105 : decode prog_12_method_9_code 105 = .ok (.ior, 1) := by decide +kernel
theorem zd_Truths_settledFor_106 : decode prog_12_method_9_code 106 = .ok (.ireturn, 1) := by decide +kernel
theorem zd_Truths_settledFor_107 : decode prog_12_method_9_code 107 = .ok (.iload_n 3, 1) := by decide +kernel
theorem zd_Truths_settledFor_108 : decode prog_12_method_9_code 108 = .ok (.aload_n 0, 1) := by decide +kernel
theorem zd_Truths_settledFor_109 : decode prog_12_method_9_code 109 = .ok (.getfield 23, 3) := by decide +kernel
theorem zd_Truths_settledFor_112 : decode prog_12_method_9_code 112 = .ok (.aload_n 0, 1) := by decide +kernel
theorem zd_Truths_settledFor_113 : decode prog_12_method_9_code 113 = .ok (.getfield 17, 3) := by decide +kernel
theorem zd_Truths_settledFor_116 : decode prog_12_method_9_code 116 = .ok (.getfield 121, 3) := by decide +kernel
theorem zd_Truths_settledFor_119 : decode prog_12_method_9_code 119 = .ok (.iload_n 2, 1) := by decide +kernel
theorem zd_Truths_settledFor_120 : decode prog_12_method_9_code 120 = .ok (.iaload, 1) := by decide +kernel
theorem zd_Truths_settledFor_121 : decode prog_12_method_9_code 121 = .ok (.iaload, 1) := by decide +kernel
theorem zd_Truths_settledFor_122 : decode prog_12_method_9_code 122 = .ok (.sipush 255, 3) := by decide +kernel
theorem zd_Truths_settledFor_125 : decode prog_12_method_9_code 125 = .ok (.ixor, 1) := by decide +kernel
theorem zd_Truths_settledFor_126 : decode prog_12_method_9_code 126 = .ok (.ior, 1) := by decide +kernel
theorem zd_Truths_settledFor_127 : decode prog_12_method_9_code 127 = .ok (.ireturn, 1) := by decide +kernel
def wc_Truths_reckonParts_108 (a0 : Int32) (K4 : Int32 → Int32 → Int32 → (Nat → Int32) → (Nat → Int64) → (Nat → Nat → Int32) → (Nat → Nat → Int64) → Prop) (Post : (Nat → Int32) → (Nat → Int64) → (Nat → Nat → Int32) → (Nat → Nat → Int64) → Prop) (PX : String → (Nat → Int32) → (Nat → Int64) → (Nat → Nat → Int32) → (Nat → Nat → Int64) → Prop) (x1 : Int32) (x2 : Int32) (x3 : Int32) (I : Nat → Int32) (J : Nat → Int64) (B : Nat → Nat → Int32) (D : Nat → Nat → Int64) : Prop :=
  ∀ z1 : Int32, z1 = (x3 + 1) → K4 x1 x2 z1 I J B D
def wc_Truths_reckonParts_104 (a0 : Int32) (K4 : Int32 → Int32 → Int32 → (Nat → Int32) → (Nat → Int64) → (Nat → Nat → Int32) → (Nat → Nat → Int64) → Prop) (Post : (Nat → Int32) → (Nat → Int64) → (Nat → Nat → Int32) → (Nat → Nat → Int64) → Prop) (PX : String → (Nat → Int32) → (Nat → Int64) → (Nat → Nat → Int32) → (Nat → Nat → Int64) → Prop) (x1 : Int32) (x2 : Int32) (x3 : Int32) (y0 : Int32) (y1 : Int32) (I : Nat → Int32) (J : Nat → Int64) (B : Nat → Nat → Int32) (D : Nat → Nat → Int64) : Prop :=
  vp_in y1 240 ∧ ∀ z2 : Int32, z2 = (x2 + 1) → wc_Truths_reckonParts_108 a0 K4 Post PX x1 z2 x3 I J (va_up B 46 (upd (B 46) y1.toNatClampNeg y0)) D
def wc_Truths_reckonParts_53 (a0 : Int32) (K4 : Int32 → Int32 → Int32 → (Nat → Int32) → (Nat → Int64) → (Nat → Nat → Int32) → (Nat → Nat → Int64) → Prop) (Post : (Nat → Int32) → (Nat → Int64) → (Nat → Nat → Int32) → (Nat → Nat → Int64) → Prop) (PX : String → (Nat → Int32) → (Nat → Int64) → (Nat → Nat → Int32) → (Nat → Nat → Int64) → Prop) (x1 : Int32) (x2 : Int32) (x3 : Int32) (y0 : Int32) (y1 : Int32) (I : Nat → Int32) (J : Nat → Int64) (B : Nat → Nat → Int32) (D : Nat → Nat → Int64) : Prop :=
  vp_in y1 240 ∧ wc_Truths_reckonParts_108 a0 K4 Post PX x1 x2 x3 I J (va_up B 46 (upd (B 46) y1.toNatClampNeg y0)) D
def wb_Truths_reckonParts_4 (a0 : Int32) (K4 : Int32 → Int32 → Int32 → (Nat → Int32) → (Nat → Int64) → (Nat → Nat → Int32) → (Nat → Nat → Int64) → Prop) (Post : (Nat → Int32) → (Nat → Int64) → (Nat → Nat → Int32) → (Nat → Nat → Int64) → Prop) (PX : String → (Nat → Int32) → (Nat → Int64) → (Nat → Nat → Int32) → (Nat → Nat → Int64) → Prop) (x1 : Int32) (x2 : Int32) (x3 : Int32) (I : Nat → Int32) (J : Nat → Int64) (B : Nat → Nat → Int32) (D : Nat → Nat → Int64) : Prop :=
  (((I 22) ≤ x3 → Post I J B D) ∧ (¬ (I 22) ≤ x3 → vp_in x3 240 ∧ ∀ z4 : Int32, z4 = ((B 39) x3.toNatClampNeg) → ((z4 < 8 → (((4 : Int32) ≤ z4 → ((x1 = 0 → vp_in x2 3 ∧ ∀ z9 : Int32, z9 = (zGue x2.toNatClampNeg) → wc_Truths_reckonParts_104 a0 K4 Post PX x1 x2 x3 z9 x3 I J B D) ∧ (¬ x1 = 0 → vp_in x2 3 ∧ ∀ z11 : Int32, z11 = (zGue x2.toNatClampNeg) → wp_Truths_carried I J B D x3 z11 (fun r12 I12 J12 B12 D12 => wc_Truths_reckonParts_104 a0 K4 Post PX x1 x2 x3 r12 x3 I12 J12 B12 D12)))) ∧ (¬ (4 : Int32) ≤ z4 → wp_Truths_joined I J B D x3 (fun r13 I13 J13 B13 D13 => vp_in x3 240 ∧ wc_Truths_reckonParts_108 a0 K4 Post PX x1 x2 x3 I13 J13 (va_up B13 46 (upd (B13 46) x3.toNatClampNeg r13)) D13)))) ∧ (¬ z4 < 8 → wp_Truths_atomHolds I J B D x3 (fun r14 I14 J14 B14 D14 => ((r14 = 0 → wc_Truths_reckonParts_53 a0 K4 Post PX x1 x2 x3 0 x3 I14 J14 B14 D14) ∧ (¬ r14 = 0 → wc_Truths_reckonParts_53 a0 K4 Post PX x1 x2 x3 255 x3 I14 J14 B14 D14)))))))
def wl_Truths_reckonParts_4 (a0 : Int32) (Post : (Nat → Int32) → (Nat → Int64) → (Nat → Nat → Int32) → (Nat → Nat → Int64) → Prop) (PX : String → (Nat → Int32) → (Nat → Int64) → (Nat → Nat → Int32) → (Nat → Nat → Int64) → Prop) (n : Nat) : Int32 → Int32 → Int32 → (Nat → Int32) → (Nat → Int64) → (Nat → Nat → Int32) → (Nat → Nat → Int64) → Prop := Nat.rec (fun _ _ _ _ _ _ _ => False) (fun _ r => wb_Truths_reckonParts_4 a0 r Post PX) n
def wp_Truths_reckonParts (I : Nat → Int32) (J : Nat → Int64) (B : Nat → Nat → Int32) (D : Nat → Nat → Int64) (a0 : Int32) (Post : (Nat → Int32) → (Nat → Int64) → (Nat → Nat → Int32) → (Nat → Nat → Int64) → Prop) (PX : String → (Nat → Int32) → (Nat → Int64) → (Nat → Nat → Int32) → (Nat → Nat → Int64) → Prop) : Prop :=
  ∃ n : Nat, wl_Truths_reckonParts_4 a0 Post PX n a0 0 0 I J B D
set_option maxHeartbeats 8000000 in
set_option maxRecDepth 100000 in
theorem wJ_Truths_reckonParts_108 {p : Program} {l : Launch} {e : Env} {s : State} {m : MethodId} {below : List Frame} {meth : Method} {c : Code} {A : Nat → Prop} (G : va_G) (K : Nat → ClassId) (ad : Nat → Nat) (sv : Value) (a0 : Int32) (Post : (Nat → Int32) → (Nat → Int64) → (Nat → Nat → Int32) → (Nat → Nat → Int64) → Prop) (PX : String → (Nat → Int32) → (Nat → Int64) → (Nat → Nat → Int32) → (Nat → Nat → Int64) → Prop) (C : zCy p l s m ([.ref (ad 11), .int a0] : List Value).toArray meth c A G K prog_12_method_5_code none 5 "LassoFinder$Truths") (K4 : Int32 → Int32 → Int32 → (Nat → Int32) → (Nat → Int64) → (Nat → Nat → Int32) → (Nat → Nat → Int64) → Prop) (kh4 : ∀ (x1 : Int32) (x2 : Int32) (x3 : Int32) (I : Nat → Int32) (J : Nat → Int64) (B : Nat → Nat → Int32) (D : Nat → Nat → Int64) (ls : Array Slot) (H : Heap) (locs : List Loc), K4 x1 x2 x3 I J B D → lv_has ls 5 [(0, .ref (ad 11)), (1, .int x1), (2, .int x2), (3, .int x3)] → zW G A s.heap (wX ad K sv I J B D) H locs → W p l e { frames := 3, cells := 1, slots := 6, locals := 69 } s m ([.ref (ad 11), .int a0] : List Value).toArray below meth c H locs 0 0 (zyMQ below (va_Qv (fun u : zS => Post u.1 u.2.1 u.2.2.1 u.2.2.2) (fun u t => zPost G K A (wX ad K sv u.1 u.2.1 u.2.2.1 u.2.2.2) t) A) (zYC (fun E (u : zS) => PX E u.1 u.2.1 u.2.2.1 u.2.2.2) (fun u => wX ad K sv u.1 u.2.1 u.2.2.1 u.2.2.2) G K A) ([.ref (ad 11), .int a0] : List Value).toArray s 1 6 A) (F0 m 4 ls [])) : ∀ (x1 : Int32) (x2 : Int32) (x3 : Int32) (I : Nat → Int32) (J : Nat → Int64) (B : Nat → Nat → Int32) (D : Nat → Nat → Int64) (ls : Array Slot) (H : Heap) (locs : List Loc), wc_Truths_reckonParts_108 a0 K4 Post PX x1 x2 x3 I J B D → lv_has ls 5 [(0, .ref (ad 11)), (1, .int x1), (2, .int x2), (3, .int x3)] → zW G A s.heap (wX ad K sv I J B D) H locs → W p l e { frames := 3, cells := 1, slots := 6, locals := 69 } s m ([.ref (ad 11), .int a0] : List Value).toArray below meth c H locs 0 0 (zyMQ below (va_Qv (fun u : zS => Post u.1 u.2.1 u.2.2.1 u.2.2.2) (fun u t => zPost G K A (wX ad K sv u.1 u.2.1 u.2.2.1 u.2.2.2) t) A) (zYC (fun E (u : zS) => PX E u.1 u.2.1 u.2.2.1 u.2.2.2) (fun u => wX ad K sv u.1 u.2.1 u.2.2.1 u.2.2.2) G K A) ([.ref (ad 11), .int a0] : List Value).toArray s 1 6 A) (F0 m 108 ls []) := by
  obtain ⟨hx, hb, hr, hml, hts, hown, hlocks, hA, hK, hT, hnt, hlt⟩ := id C
  intro x1 x2 x3 I J B D ls H locs hok hl hw
  unfold wc_Truths_reckonParts_108 at hok
  obtain ⟨z1, ez1⟩ : ∃ z : Int32, z = (x3 + 1) := ⟨_, rfl⟩
  have hok := hok z1 ez1
  refine lv_iinc (v := z1) hx hb zd_Truths_reckonParts_108 hl (k := 3) rfl ez1.symm (by decide) rfl (fun ls hl => ?_)
  have hl : lv_has ls 5 [(3, .int z1), (0, .ref (ad 11)), (1, .int x1), (2, .int x2)] := hl
  refine lv_goto (tgt := 4) hx hb zd_Truths_reckonParts_111 (by decide) ?_
  exact kh4 x1 x2 z1 I J B D ls H locs hok (lv_sub hl [1, 2, 3, 0] rfl) hw
set_option maxHeartbeats 8000000 in
set_option maxRecDepth 100000 in
theorem wJ_Truths_reckonParts_104 {p : Program} {l : Launch} {e : Env} {s : State} {m : MethodId} {below : List Frame} {meth : Method} {c : Code} {A : Nat → Prop} (G : va_G) (K : Nat → ClassId) (ad : Nat → Nat) (sv : Value) (a0 : Int32) (Post : (Nat → Int32) → (Nat → Int64) → (Nat → Nat → Int32) → (Nat → Nat → Int64) → Prop) (PX : String → (Nat → Int32) → (Nat → Int64) → (Nat → Nat → Int32) → (Nat → Nat → Int64) → Prop) (C : zCy p l s m ([.ref (ad 11), .int a0] : List Value).toArray meth c A G K prog_12_method_5_code none 5 "LassoFinder$Truths") (K4 : Int32 → Int32 → Int32 → (Nat → Int32) → (Nat → Int64) → (Nat → Nat → Int32) → (Nat → Nat → Int64) → Prop) (kh4 : ∀ (x1 : Int32) (x2 : Int32) (x3 : Int32) (I : Nat → Int32) (J : Nat → Int64) (B : Nat → Nat → Int32) (D : Nat → Nat → Int64) (ls : Array Slot) (H : Heap) (locs : List Loc), K4 x1 x2 x3 I J B D → lv_has ls 5 [(0, .ref (ad 11)), (1, .int x1), (2, .int x2), (3, .int x3)] → zW G A s.heap (wX ad K sv I J B D) H locs → W p l e { frames := 3, cells := 1, slots := 6, locals := 69 } s m ([.ref (ad 11), .int a0] : List Value).toArray below meth c H locs 0 0 (zyMQ below (va_Qv (fun u : zS => Post u.1 u.2.1 u.2.2.1 u.2.2.2) (fun u t => zPost G K A (wX ad K sv u.1 u.2.1 u.2.2.1 u.2.2.2) t) A) (zYC (fun E (u : zS) => PX E u.1 u.2.1 u.2.2.1 u.2.2.2) (fun u => wX ad K sv u.1 u.2.1 u.2.2.1 u.2.2.2) G K A) ([.ref (ad 11), .int a0] : List Value).toArray s 1 6 A) (F0 m 4 ls [])) : ∀ (x1 : Int32) (x2 : Int32) (x3 : Int32) (y0 : Int32) (y1 : Int32) (I : Nat → Int32) (J : Nat → Int64) (B : Nat → Nat → Int32) (D : Nat → Nat → Int64) (ls : Array Slot) (H : Heap) (locs : List Loc), wc_Truths_reckonParts_104 a0 K4 Post PX x1 x2 x3 y0 y1 I J B D → lv_has ls 5 [(0, .ref (ad 11)), (1, .int x1), (2, .int x2), (3, .int x3)] → zW G A s.heap (wX ad K sv I J B D) H locs → W p l e { frames := 3, cells := 1, slots := 6, locals := 69 } s m ([.ref (ad 11), .int a0] : List Value).toArray below meth c H locs 0 0 (zyMQ below (va_Qv (fun u : zS => Post u.1 u.2.1 u.2.2.1 u.2.2.2) (fun u t => zPost G K A (wX ad K sv u.1 u.2.1 u.2.2.1 u.2.2.2) t) A) (zYC (fun E (u : zS) => PX E u.1 u.2.1 u.2.2.1 u.2.2.2) (fun u => wX ad K sv u.1 u.2.1 u.2.2.1 u.2.2.2) G K A) ([.ref (ad 11), .int a0] : List Value).toArray s 1 6 A) (F0 m 104 ls [.int y0, .int y1, .ref (ad 61)]) := by
  obtain ⟨hx, hb, hr, hml, hts, hown, hlocks, hA, hK, hT, hnt, hlt⟩ := id C
  intro x1 x2 x3 y0 y1 I J B D ls H locs hok hl hw
  unfold wc_Truths_reckonParts_104 at hok
  refine va_iast (f := (B 46)) hx hb hK hw.1 hw.2.1 hw.2.2 61 0 wX_a61 rfl hok.1 zd_Truths_reckonParts_104 (fun H locs w91 w92 w93 => ?_)
  have hok := hok.2
  have hw := wX_t61 ⟨w91, w92, w93⟩
  obtain ⟨z2, ez2⟩ : ∃ z : Int32, z = (x2 + 1) := ⟨_, rfl⟩
  have hok := hok z2 ez2
  refine lv_iinc (v := z2) hx hb zd_Truths_reckonParts_105 hl (k := 2) rfl ez2.symm (by decide) rfl (fun ls hl => ?_)
  have hl : lv_has ls 5 [(2, .int z2), (0, .ref (ad 11)), (1, .int x1), (3, .int x3)] := hl
  exact wJ_Truths_reckonParts_108 G K ad sv a0 Post PX C K4 kh4 x1 z2 x3 I J (va_up B 46 (upd (B 46) y1.toNatClampNeg y0)) D ls H locs hok (lv_sub hl [1, 2, 0, 3] rfl) hw
set_option maxHeartbeats 8000000 in
set_option maxRecDepth 100000 in
theorem wJ_Truths_reckonParts_53 {p : Program} {l : Launch} {e : Env} {s : State} {m : MethodId} {below : List Frame} {meth : Method} {c : Code} {A : Nat → Prop} (G : va_G) (K : Nat → ClassId) (ad : Nat → Nat) (sv : Value) (a0 : Int32) (Post : (Nat → Int32) → (Nat → Int64) → (Nat → Nat → Int32) → (Nat → Nat → Int64) → Prop) (PX : String → (Nat → Int32) → (Nat → Int64) → (Nat → Nat → Int32) → (Nat → Nat → Int64) → Prop) (C : zCy p l s m ([.ref (ad 11), .int a0] : List Value).toArray meth c A G K prog_12_method_5_code none 5 "LassoFinder$Truths") (K4 : Int32 → Int32 → Int32 → (Nat → Int32) → (Nat → Int64) → (Nat → Nat → Int32) → (Nat → Nat → Int64) → Prop) (kh4 : ∀ (x1 : Int32) (x2 : Int32) (x3 : Int32) (I : Nat → Int32) (J : Nat → Int64) (B : Nat → Nat → Int32) (D : Nat → Nat → Int64) (ls : Array Slot) (H : Heap) (locs : List Loc), K4 x1 x2 x3 I J B D → lv_has ls 5 [(0, .ref (ad 11)), (1, .int x1), (2, .int x2), (3, .int x3)] → zW G A s.heap (wX ad K sv I J B D) H locs → W p l e { frames := 3, cells := 1, slots := 6, locals := 69 } s m ([.ref (ad 11), .int a0] : List Value).toArray below meth c H locs 0 0 (zyMQ below (va_Qv (fun u : zS => Post u.1 u.2.1 u.2.2.1 u.2.2.2) (fun u t => zPost G K A (wX ad K sv u.1 u.2.1 u.2.2.1 u.2.2.2) t) A) (zYC (fun E (u : zS) => PX E u.1 u.2.1 u.2.2.1 u.2.2.2) (fun u => wX ad K sv u.1 u.2.1 u.2.2.1 u.2.2.2) G K A) ([.ref (ad 11), .int a0] : List Value).toArray s 1 6 A) (F0 m 4 ls [])) : ∀ (x1 : Int32) (x2 : Int32) (x3 : Int32) (y0 : Int32) (y1 : Int32) (I : Nat → Int32) (J : Nat → Int64) (B : Nat → Nat → Int32) (D : Nat → Nat → Int64) (ls : Array Slot) (H : Heap) (locs : List Loc), wc_Truths_reckonParts_53 a0 K4 Post PX x1 x2 x3 y0 y1 I J B D → lv_has ls 5 [(0, .ref (ad 11)), (1, .int x1), (2, .int x2), (3, .int x3)] → zW G A s.heap (wX ad K sv I J B D) H locs → W p l e { frames := 3, cells := 1, slots := 6, locals := 69 } s m ([.ref (ad 11), .int a0] : List Value).toArray below meth c H locs 0 0 (zyMQ below (va_Qv (fun u : zS => Post u.1 u.2.1 u.2.2.1 u.2.2.2) (fun u t => zPost G K A (wX ad K sv u.1 u.2.1 u.2.2.1 u.2.2.2) t) A) (zYC (fun E (u : zS) => PX E u.1 u.2.1 u.2.2.1 u.2.2.2) (fun u => wX ad K sv u.1 u.2.1 u.2.2.1 u.2.2.2) G K A) ([.ref (ad 11), .int a0] : List Value).toArray s 1 6 A) (F0 m 53 ls [.int y0, .int y1, .ref (ad 61)]) := by
  obtain ⟨hx, hb, hr, hml, hts, hown, hlocks, hA, hK, hT, hnt, hlt⟩ := id C
  intro x1 x2 x3 y0 y1 I J B D ls H locs hok hl hw
  unfold wc_Truths_reckonParts_53 at hok
  refine va_iast (f := (B 46)) hx hb hK hw.1 hw.2.1 hw.2.2 61 0 wX_a61 rfl hok.1 zd_Truths_reckonParts_53 (fun H locs w91 w92 w93 => ?_)
  have hok := hok.2
  have hw := wX_t61 ⟨w91, w92, w93⟩
  refine lv_goto (tgt := 108) hx hb zd_Truths_reckonParts_54 (by decide) ?_
  exact wJ_Truths_reckonParts_108 G K ad sv a0 Post PX C K4 kh4 x1 x2 x3 I J (va_up B 46 (upd (B 46) y1.toNatClampNeg y0)) D ls H locs hok (lv_sub hl [0, 1, 2, 3] rfl) hw
set_option maxHeartbeats 8000000 in
set_option maxRecDepth 100000 in
theorem wB_Truths_reckonParts_4 {p : Program} {l : Launch} {e : Env} {s : State} {m : MethodId} {below : List Frame} {meth : Method} {c : Code} {A : Nat → Prop} (G : va_G) (K : Nat → ClassId) (ad : Nat → Nat) (sv : Value) (a0 : Int32) (Post : (Nat → Int32) → (Nat → Int64) → (Nat → Nat → Int32) → (Nat → Nat → Int64) → Prop) (PX : String → (Nat → Int32) → (Nat → Int64) → (Nat → Nat → Int32) → (Nat → Nat → Int64) → Prop) (C : zCy p l s m ([.ref (ad 11), .int a0] : List Value).toArray meth c A G K prog_12_method_5_code none 5 "LassoFinder$Truths") (K4 : Int32 → Int32 → Int32 → (Nat → Int32) → (Nat → Int64) → (Nat → Nat → Int32) → (Nat → Nat → Int64) → Prop) (kh4 : ∀ (x1 : Int32) (x2 : Int32) (x3 : Int32) (I : Nat → Int32) (J : Nat → Int64) (B : Nat → Nat → Int32) (D : Nat → Nat → Int64) (ls : Array Slot) (H : Heap) (locs : List Loc), K4 x1 x2 x3 I J B D → lv_has ls 5 [(0, .ref (ad 11)), (1, .int x1), (2, .int x2), (3, .int x3)] → zW G A s.heap (wX ad K sv I J B D) H locs → W p l e { frames := 3, cells := 1, slots := 6, locals := 69 } s m ([.ref (ad 11), .int a0] : List Value).toArray below meth c H locs 0 0 (zyMQ below (va_Qv (fun u : zS => Post u.1 u.2.1 u.2.2.1 u.2.2.2) (fun u t => zPost G K A (wX ad K sv u.1 u.2.1 u.2.2.1 u.2.2.2) t) A) (zYC (fun E (u : zS) => PX E u.1 u.2.1 u.2.2.1 u.2.2.2) (fun u => wX ad K sv u.1 u.2.1 u.2.2.1 u.2.2.2) G K A) ([.ref (ad 11), .int a0] : List Value).toArray s 1 6 A) (F0 m 4 ls [])) : ∀ (x1 : Int32) (x2 : Int32) (x3 : Int32) (I : Nat → Int32) (J : Nat → Int64) (B : Nat → Nat → Int32) (D : Nat → Nat → Int64) (ls : Array Slot) (H : Heap) (locs : List Loc), wb_Truths_reckonParts_4 a0 K4 Post PX x1 x2 x3 I J B D → lv_has ls 5 [(0, .ref (ad 11)), (1, .int x1), (2, .int x2), (3, .int x3)] → zW G A s.heap (wX ad K sv I J B D) H locs → W p l e { frames := 3, cells := 1, slots := 6, locals := 69 } s m ([.ref (ad 11), .int a0] : List Value).toArray below meth c H locs 0 0 (zyMQ below (va_Qv (fun u : zS => Post u.1 u.2.1 u.2.2.1 u.2.2.2) (fun u t => zPost G K A (wX ad K sv u.1 u.2.1 u.2.2.1 u.2.2.2) t) A) (zYC (fun E (u : zS) => PX E u.1 u.2.1 u.2.2.1 u.2.2.2) (fun u => wX ad K sv u.1 u.2.1 u.2.2.1 u.2.2.2) G K A) ([.ref (ad 11), .int a0] : List Value).toArray s 1 6 A) (F0 m 4 ls []) := by
  obtain ⟨hx, hb, hr, hml, hts, hown, hlocks, hA, hK, hT, hnt, hlt⟩ := id C
  intro x1 x2 x3 I J B D ls H locs hok hl hw
  unfold wb_Truths_reckonParts_4 at hok
  refine lv_iload_n hx hb zd_Truths_reckonParts_4 rfl (lv_at hl 3 rfl) ?_
  refine lv_aload_n hx hb zd_Truths_reckonParts_5 rfl (lv_at hl 0 rfl) ?_
  refine z_get (v := .ref (ad 9)) hx hb hts hown hK hw zZ11 11 wX_g11 2 (by decide) zn_526 rfl zd_Truths_reckonParts_6 ?_
  refine z_get (v := .int (I 22)) hx hb hts hown hK hw zZ1 9 wX_g9 8 (by decide) zn_535 rfl zd_Truths_reckonParts_9 ?_
  refine lv_icmp_ge (tgt := 114) hx hb zd_Truths_reckonParts_12 (by decide) (fun hc3 => ?_) (fun hc3 => ?_)
  · have hok := hok.1 hc3
    exact zy_ret (z_vret (u := (I, J, B, D)) hx hb hr hlocks hw (List.range 65) wX_all wX_nd hok (Nat.le_of_ble_eq_true rfl) (Nat.le_of_ble_eq_true rfl) zd_Truths_reckonParts_114)
  · have hok := hok.2 hc3
    refine lv_aload_n hx hb zd_Truths_reckonParts_15 rfl (lv_at hl 0 rfl) ?_
    refine z_get (v := .ref (ad 9)) hx hb hts hown hK hw zZ11 11 wX_g11 2 (by decide) zn_526 rfl zd_Truths_reckonParts_16 ?_
    refine z_get (v := .ref (ad 54)) hx hb hts hown hK hw zZ1 9 wX_g9 3 (by decide) zn_528 rfl zd_Truths_reckonParts_19 ?_
    refine lv_iload_n hx hb zd_Truths_reckonParts_22 rfl (lv_at hl 3 rfl) ?_
    refine va_iald (f := (B 39)) hx hb hK hw.1 54 0 wX_a54 rfl hok.1 zd_Truths_reckonParts_23 ?_
    have hok := hok.2
    refine lv_topi (fun z4 ez4 => ?_)
    have hok := hok z4 ez4
    refine lv_istore hx hb zd_Truths_reckonParts_24 hl (by decide) rfl (fun ls hl => ?_)
    have hl : lv_has ls 5 [(4, .int z4), (0, .ref (ad 11)), (1, .int x1), (2, .int x2), (3, .int x3)] := hl
    refine lv_iload hx hb zd_Truths_reckonParts_26 (lv_at hl 0 rfl) ?_
    refine lv_bipush (v := 8) hx hb zd_Truths_reckonParts_28 (by decide) ?_
    refine lv_icmp_lt (tgt := 57) hx hb zd_Truths_reckonParts_30 (by decide) (fun hc5 => ?_) (fun hc5 => ?_)
    · have hok := hok.1 hc5
      refine lv_iload hx hb zd_Truths_reckonParts_57 (lv_at hl 0 rfl) ?_
      refine lv_iconst (v := 4) hx hb zd_Truths_reckonParts_59 (by decide) ?_
      refine lv_icmp_ge (tgt := 77) hx hb zd_Truths_reckonParts_60 (by decide) (fun hc6 => ?_) (fun hc6 => ?_)
      · have hok := hok.1 hc6
        refine lv_aload_n hx hb zd_Truths_reckonParts_77 rfl (lv_at hl 1 rfl) ?_
        refine z_get (v := .ref (ad 61)) hx hb hts hown hK hw zZ11 11 wX_g11 3 (by decide) zn_281 rfl zd_Truths_reckonParts_78 ?_
        refine lv_iload_n hx hb zd_Truths_reckonParts_81 rfl (lv_at hl 4 rfl) ?_
        refine lv_iload_n hx hb zd_Truths_reckonParts_82 rfl (lv_at hl 2 rfl) ?_
        refine lv_if_eq (tgt := 99) hx hb zd_Truths_reckonParts_83 (by decide) (fun hc7 => ?_) (fun hc7 => ?_)
        · have hok := hok.1 hc7
          obtain ⟨t8, hZ8, hU8⟩ := hT.2.2.1
          refine va_gets hx hb hZ8 hw.2.2 hown (hts _ zn_536) (fun _ h => h) zd_Truths_reckonParts_99 ?_
          refine lv_iload_n hx hb zd_Truths_reckonParts_102 rfl (lv_at hl 3 rfl) ?_
          refine va_ti (v := .int (zGue x2.toNatClampNeg)) hx hb hU8 hw.2.2 hok.1 rfl zd_Truths_reckonParts_103 ?_
          have hok := hok.2
          refine lv_topi (fun z9 ez9 => ?_)
          have hok := hok z9 ez9
          exact wJ_Truths_reckonParts_104 G K ad sv a0 Post PX C K4 kh4 x1 x2 x3 z9 x3 I J B D ls H locs hok (lv_sub hl [1, 2, 3, 4] rfl) hw
        · have hok := hok.2 hc7
          refine lv_aload_n hx hb zd_Truths_reckonParts_86 rfl (lv_at hl 1 rfl) ?_
          refine lv_iload_n hx hb zd_Truths_reckonParts_87 rfl (lv_at hl 4 rfl) ?_
          obtain ⟨t10, hZ10, hU10⟩ := hT.2.2.1
          refine va_gets hx hb hZ10 hw.2.2 hown (hts _ zn_536) (fun _ h => h) zd_Truths_reckonParts_88 ?_
          refine lv_iload_n hx hb zd_Truths_reckonParts_91 rfl (lv_at hl 3 rfl) ?_
          refine va_ti (v := .int (zGue x2.toNatClampNeg)) hx hb hU10 hw.2.2 hok.1 rfl zd_Truths_reckonParts_92 ?_
          have hok := hok.2
          refine lv_topi (fun z11 ez11 => ?_)
          have hok := hok z11 ez11
          refine z_calli (w1 := fun (u : zS) => wX ad K sv u.1 u.2.1 u.2.2.1 u.2.2.2) (wr := []) (z_runV (q0 := 11) (wc := (wX ad K sv I J B D)) (As := [.int x3, .int z11]) (rest := [.int x3, .ref (ad 61)]) ⟨hx, hb, hml, hown, hts⟩ (w_Truths_carried l G K ad sv I J B D x3 z11 _ H.size hok) zf_Truths_carried zn_511 ⟨Nat.le_of_ble_eq_true rfl, Nat.le_of_ble_eq_true rfl⟩ hK hw (List.range 65) wX_all wX_nd wX_g11 rfl rfl hl.1 rfl (Nat.le_of_ble_eq_true rfl) zd_Truths_reckonParts_93 ⟨Nat.le_of_ble_eq_true rfl, Nat.le_of_ble_eq_true rfl⟩) hw hA (List.range 65) [] wX_all rfl (by decide) (fun i hi => by cases hi) (fun r12 u H locs hok hw => ?_)
          obtain ⟨I12, J12, B12, D12⟩ := u
          dsimp only at hok
          have hw : zW G A s.heap (wX ad K sv I12 J12 B12 D12) H locs := hw
          refine lv_goto (tgt := 104) hx hb zd_Truths_reckonParts_96 (by decide) ?_
          exact wJ_Truths_reckonParts_104 G K ad sv a0 Post PX C K4 kh4 x1 x2 x3 r12 x3 I12 J12 B12 D12 ls H locs hok (lv_sub hl [1, 2, 3, 4] rfl) hw
      · have hok := hok.2 hc6
        refine lv_aload_n hx hb zd_Truths_reckonParts_63 rfl (lv_at hl 1 rfl) ?_
        refine z_get (v := .ref (ad 61)) hx hb hts hown hK hw zZ11 11 wX_g11 3 (by decide) zn_281 rfl zd_Truths_reckonParts_64 ?_
        refine lv_iload_n hx hb zd_Truths_reckonParts_67 rfl (lv_at hl 4 rfl) ?_
        refine lv_aload_n hx hb zd_Truths_reckonParts_68 rfl (lv_at hl 1 rfl) ?_
        refine lv_iload_n hx hb zd_Truths_reckonParts_69 rfl (lv_at hl 4 rfl) ?_
        refine z_calli (w1 := fun (u : zS) => wX ad K sv u.1 u.2.1 u.2.2.1 u.2.2.2) (wr := []) (z_runV (q0 := 11) (wc := (wX ad K sv I J B D)) (As := [.int x3]) (rest := [.int x3, .ref (ad 61)]) ⟨hx, hb, hml, hown, hts⟩ (w_Truths_joined l G K ad sv I J B D x3 _ H.size hok) zf_Truths_joined zn_510 ⟨Nat.le_of_ble_eq_true rfl, Nat.le_of_ble_eq_true rfl⟩ hK hw (List.range 65) wX_all wX_nd wX_g11 rfl rfl hl.1 rfl (Nat.le_of_ble_eq_true rfl) zd_Truths_reckonParts_70 ⟨Nat.le_of_ble_eq_true rfl, Nat.le_of_ble_eq_true rfl⟩) hw hA (List.range 65) [] wX_all rfl (by decide) (fun i hi => by cases hi) (fun r13 u H locs hok hw => ?_)
        obtain ⟨I13, J13, B13, D13⟩ := u
        dsimp only at hok
        have hw : zW G A s.heap (wX ad K sv I13 J13 B13 D13) H locs := hw
        refine va_iast (f := (B13 46)) hx hb hK hw.1 hw.2.1 hw.2.2 61 0 wX_a61 rfl hok.1 zd_Truths_reckonParts_73 (fun H locs w91 w92 w93 => ?_)
        have hok := hok.2
        have hw := wX_t61 ⟨w91, w92, w93⟩
        refine lv_goto (tgt := 108) hx hb zd_Truths_reckonParts_74 (by decide) ?_
        exact wJ_Truths_reckonParts_108 G K ad sv a0 Post PX C K4 kh4 x1 x2 x3 I13 J13 (va_up B13 46 (upd (B13 46) x3.toNatClampNeg r13)) D13 ls H locs hok (lv_sub hl [1, 2, 3, 4] rfl) hw
    · have hok := hok.2 hc5
      refine lv_aload_n hx hb zd_Truths_reckonParts_33 rfl (lv_at hl 1 rfl) ?_
      refine z_get (v := .ref (ad 61)) hx hb hts hown hK hw zZ11 11 wX_g11 3 (by decide) zn_281 rfl zd_Truths_reckonParts_34 ?_
      refine lv_iload_n hx hb zd_Truths_reckonParts_37 rfl (lv_at hl 4 rfl) ?_
      refine lv_aload_n hx hb zd_Truths_reckonParts_38 rfl (lv_at hl 1 rfl) ?_
      refine lv_iload_n hx hb zd_Truths_reckonParts_39 rfl (lv_at hl 4 rfl) ?_
      refine z_calli (w1 := fun (u : zS) => wX ad K sv u.1 u.2.1 u.2.2.1 u.2.2.2) (wr := []) (z_runV (q0 := 11) (wc := (wX ad K sv I J B D)) (As := [.int x3]) (rest := [.int x3, .ref (ad 61)]) ⟨hx, hb, hml, hown, hts⟩ (w_Truths_atomHolds l G K ad sv I J B D x3 _ H.size hok) zf_Truths_atomHolds zn_508 ⟨Nat.le_of_ble_eq_true rfl, Nat.le_of_ble_eq_true rfl⟩ hK hw (List.range 65) wX_all wX_nd wX_g11 rfl rfl hl.1 rfl (Nat.le_of_ble_eq_true rfl) zd_Truths_reckonParts_40 ⟨Nat.le_of_ble_eq_true rfl, Nat.le_of_ble_eq_true rfl⟩) hw hA (List.range 65) [] wX_all rfl (by decide) (fun i hi => by cases hi) (fun r14 u H locs hok hw => ?_)
      obtain ⟨I14, J14, B14, D14⟩ := u
      dsimp only at hok
      have hw : zW G A s.heap (wX ad K sv I14 J14 B14 D14) H locs := hw
      refine lv_if_eq (tgt := 52) hx hb zd_Truths_reckonParts_43 (by decide) (fun hc15 => ?_) (fun hc15 => ?_)
      · have hok := hok.1 hc15
        refine lv_iconst (v := 0) hx hb zd_Truths_reckonParts_52 (by decide) ?_
        exact wJ_Truths_reckonParts_53 G K ad sv a0 Post PX C K4 kh4 x1 x2 x3 0 x3 I14 J14 B14 D14 ls H locs hok (lv_sub hl [1, 2, 3, 4] rfl) hw
      · have hok := hok.2 hc15
        refine lv_sipush (v := 255) hx hb zd_Truths_reckonParts_46 (by decide) ?_
        refine lv_goto (tgt := 53) hx hb zd_Truths_reckonParts_49 (by decide) ?_
        exact wJ_Truths_reckonParts_53 G K ad sv a0 Post PX C K4 kh4 x1 x2 x3 255 x3 I14 J14 B14 D14 ls H locs hok (lv_sub hl [1, 2, 3, 4] rfl) hw
theorem wL_Truths_reckonParts_4 {p : Program} {l : Launch} {e : Env} {s : State} {m : MethodId} {below : List Frame} {meth : Method} {c : Code} {A : Nat → Prop} (G : va_G) (K : Nat → ClassId) (ad : Nat → Nat) (sv : Value) (a0 : Int32) (Post : (Nat → Int32) → (Nat → Int64) → (Nat → Nat → Int32) → (Nat → Nat → Int64) → Prop) (PX : String → (Nat → Int32) → (Nat → Int64) → (Nat → Nat → Int32) → (Nat → Nat → Int64) → Prop) (C : zCy p l s m ([.ref (ad 11), .int a0] : List Value).toArray meth c A G K prog_12_method_5_code none 5 "LassoFinder$Truths") : ∀ (n : Nat) (x1 : Int32) (x2 : Int32) (x3 : Int32) (I : Nat → Int32) (J : Nat → Int64) (B : Nat → Nat → Int32) (D : Nat → Nat → Int64) (ls : Array Slot) (H : Heap) (locs : List Loc), wl_Truths_reckonParts_4 a0 Post PX n x1 x2 x3 I J B D → lv_has ls 5 [(0, .ref (ad 11)), (1, .int x1), (2, .int x2), (3, .int x3)] → zW G A s.heap (wX ad K sv I J B D) H locs → W p l e { frames := 3, cells := 1, slots := 6, locals := 69 } s m ([.ref (ad 11), .int a0] : List Value).toArray below meth c H locs 0 0 (zyMQ below (va_Qv (fun u : zS => Post u.1 u.2.1 u.2.2.1 u.2.2.2) (fun u t => zPost G K A (wX ad K sv u.1 u.2.1 u.2.2.1 u.2.2.2) t) A) (zYC (fun E (u : zS) => PX E u.1 u.2.1 u.2.2.1 u.2.2.2) (fun u => wX ad K sv u.1 u.2.1 u.2.2.1 u.2.2.2) G K A) ([.ref (ad 11), .int a0] : List Value).toArray s 1 6 A) (F0 m 4 ls []) := by
  intro n
  induction n with
  | zero => intro x1 x2 x3 I J B D ls H locs hok; exact hok.elim
  | succ n ih => exact wB_Truths_reckonParts_4 G K ad sv a0 Post PX C (wl_Truths_reckonParts_4 a0 Post PX n) ih
set_option maxHeartbeats 8000000 in
set_option maxRecDepth 100000 in
theorem w_Truths_reckonParts (l : Launch) (hlt : l.stackTraces = false) (G : va_G) (K : Nat → ClassId) (ad : Nat → Nat) (sv : Value) (I : Nat → Int32) (J : Nat → Int64) (B : Nat → Nat → Int32) (D : Nat → Nat → Int64) (a0 : Int32) (Post : (Nat → Int32) → (Nat → Int64) → (Nat → Nat → Int32) → (Nat → Nat → Int64) → Prop) (PX : String → (Nat → Int32) → (Nat → Int64) → (Nat → Nat → Int32) → (Nat → Nat → Int64) → Prop) (sz : Nat) (hok : wp_Truths_reckonParts I J B D a0 Post PX) : zyMet l zy_Truths_reckonParts (Cond.code zy_Truths_reckonParts prog_12_method_5_code 5 none :: zTB) { frames := 3, cells := 1, slots := 6, locals := 69 } (va_Pc [.ref (ad 11), .int a0] (zPreY G K (wX ad K sv I J B D) sz)) (va_Qv (fun u : zS => Post u.1 u.2.1 u.2.2.1 u.2.2.2) (fun u t => zPost G K (va_A (wX ad K sv I J B D) sz) (wX ad K sv u.1 u.2.1 u.2.2.1 u.2.2.2) t) (va_A (wX ad K sv I J B D) sz)) (zYC (fun E (u : zS) => PX E u.1 u.2.1 u.2.2.1 u.2.2.2) (fun u => wX ad K sv u.1 u.2.1 u.2.2.1 u.2.2.2) G K (va_A (wX ad K sv I J B D) sz)) 1 6 (va_A (wX ad K sv I J B D) sz) := by
  refine zMetY (y := zy_Truths_reckonParts) (av := [.ref (ad 11), .int a0]) (maxL := 5) (cc := prog_12_method_5_code) (ret := none) (W0 := (wX ad K sv I J B D)) (sz := sz) (G := G) (K := K) (wt := zTB) (mc := 1) (ms := 6) (Qf := fun A => va_Qv (fun u : zS => Post u.1 u.2.1 u.2.2.1 u.2.2.2) (fun u t => zPost G K A (wX ad K sv u.1 u.2.1 u.2.2.1 u.2.2.2) t) A) (Xf := fun A => (zYC (fun E (u : zS) => PX E u.1 u.2.1 u.2.2.1 u.2.2.2) (fun u => wX ad K sv u.1 u.2.1 u.2.2.1 u.2.2.2) G K A)) (by decide) (Nat.le_of_ble_eq_true rfl) ?_
  intro p e s m below meth c ls A hx hb hr hml hts hown hlocks hin hA hK H locs hw hsz hl hT hnt
  clear hsz
  have hown : s.vm.findClass "LassoFinder$Truths" = some m.cls := hown
  have C : zCy p l s m ([.ref (ad 11), .int a0] : List Value).toArray meth c A G K prog_12_method_5_code none 5 "LassoFinder$Truths" := ⟨hx, hb, hr, hml, hts, hown, hlocks, hA, hK, hT, hnt, hlt⟩
  have hl : lv_has ls 5 [(0, .ref (ad 11)), (1, .int a0)] := hl
  have hw : zW G A s.heap (wX ad K sv I J B D) H locs := hw
  unfold wp_Truths_reckonParts at hok
  refine lv_iconst (v := 0) hx hb zd_Truths_reckonParts_0 (by decide) ?_
  refine lv_istore_n hx hb zd_Truths_reckonParts_1 rfl hl (by decide) rfl (fun ls hl => ?_)
  have hl : lv_has ls 5 [(2, .int 0), (0, .ref (ad 11)), (1, .int a0)] := hl
  refine lv_iconst (v := 0) hx hb zd_Truths_reckonParts_2 (by decide) ?_
  refine lv_istore_n hx hb zd_Truths_reckonParts_3 rfl hl (by decide) rfl (fun ls hl => ?_)
  have hl : lv_has ls 5 [(3, .int 0), (2, .int 0), (0, .ref (ad 11)), (1, .int a0)] := hl
  obtain ⟨n9, hok⟩ := hok
  exact wL_Truths_reckonParts_4 G K ad sv a0 Post PX C n9 a0 0 0 I J B D ls H locs hok (lv_sub hl [2, 3, 1, 0] rfl) hw
def wb_Truths_fillBefore_18 (a0 : Int32) (K18 : Int32 → Int32 → Int32 → Int32 → (Nat → Int32) → (Nat → Int64) → (Nat → Nat → Int32) → (Nat → Nat → Int64) → Prop) (K7 : Int32 → Int32 → (Nat → Int32) → (Nat → Int64) → (Nat → Nat → Int32) → (Nat → Nat → Int64) → Prop) (Post : (Nat → Int32) → (Nat → Int64) → (Nat → Nat → Int32) → (Nat → Nat → Int64) → Prop) (PX : String → (Nat → Int32) → (Nat → Int64) → (Nat → Nat → Int32) → (Nat → Nat → Int64) → Prop) (x1 : Int32) (x2 : Int32) (x3 : Int32) (x4 : Int32) (I : Nat → Int32) (J : Nat → Int64) (B : Nat → Nat → Int32) (D : Nat → Nat → Int64) : Prop :=
  (((I 21) ≤ x4 → ∀ z2 : Int32, z2 = (x1 * 8) → ∀ z3 : Int32, z3 = (z2 + x2) → vp_in z3 768 ∧ ∀ z4 : Int32, z4 = (x2 + 1) → K7 x1 z4 I J (va_up B 47 (upd (B 47) z3.toNatClampNeg x3)) D) ∧ (¬ (I 21) ≤ x4 → vp_in x4 3 ∧ ∀ z5 : Int32, z5 = ((B 42) x4.toNatClampNeg) → vp_in z5 240 ∧ ∀ z6 : Int32, z6 = ((B 46) z5.toNatClampNeg) → ∀ z7 : Int32, z7 = (z6 >>> (x2 &&& 31)) → ∀ z8 : Int32, z8 = (z7 &&& 1) → ∀ z9 : Int32, z9 = (z8 <<< (x4 &&& 31)) → ∀ z10 : Int32, z10 = (x3 ||| z9) → ∀ z11 : Int32, z11 = (x4 + 1) → K18 x1 x2 z10 z11 I J B D))
def wl_Truths_fillBefore_18 (a0 : Int32) (K7 : Int32 → Int32 → (Nat → Int32) → (Nat → Int64) → (Nat → Nat → Int32) → (Nat → Nat → Int64) → Prop) (Post : (Nat → Int32) → (Nat → Int64) → (Nat → Nat → Int32) → (Nat → Nat → Int64) → Prop) (PX : String → (Nat → Int32) → (Nat → Int64) → (Nat → Nat → Int32) → (Nat → Nat → Int64) → Prop) (n : Nat) : Int32 → Int32 → Int32 → Int32 → (Nat → Int32) → (Nat → Int64) → (Nat → Nat → Int32) → (Nat → Nat → Int64) → Prop := Nat.rec (fun _ _ _ _ _ _ _ _ => False) (fun _ r => wb_Truths_fillBefore_18 a0 r K7 Post PX) n
def wb_Truths_fillBefore_7 (a0 : Int32) (K7 : Int32 → Int32 → (Nat → Int32) → (Nat → Int64) → (Nat → Nat → Int32) → (Nat → Nat → Int64) → Prop) (Post : (Nat → Int32) → (Nat → Int64) → (Nat → Nat → Int32) → (Nat → Nat → Int64) → Prop) (PX : String → (Nat → Int32) → (Nat → Int64) → (Nat → Nat → Int32) → (Nat → Nat → Int64) → Prop) (x1 : Int32) (x2 : Int32) (I : Nat → Int32) (J : Nat → Int64) (B : Nat → Nat → Int32) (D : Nat → Nat → Int64) : Prop :=
  (((8 : Int32) ≤ x2 → Post I J B D) ∧ (¬ (8 : Int32) ≤ x2 → ∃ n : Nat, wl_Truths_fillBefore_18 a0 K7 Post PX n x1 x2 0 0 I J B D))
def wl_Truths_fillBefore_7 (a0 : Int32) (Post : (Nat → Int32) → (Nat → Int64) → (Nat → Nat → Int32) → (Nat → Nat → Int64) → Prop) (PX : String → (Nat → Int32) → (Nat → Int64) → (Nat → Nat → Int32) → (Nat → Nat → Int64) → Prop) (n : Nat) : Int32 → Int32 → (Nat → Int32) → (Nat → Int64) → (Nat → Nat → Int32) → (Nat → Nat → Int64) → Prop := Nat.rec (fun _ _ _ _ _ _ => False) (fun _ r => wb_Truths_fillBefore_7 a0 r Post PX) n
def wp_Truths_fillBefore (I : Nat → Int32) (J : Nat → Int64) (B : Nat → Nat → Int32) (D : Nat → Nat → Int64) (a0 : Int32) (Post : (Nat → Int32) → (Nat → Int64) → (Nat → Nat → Int32) → (Nat → Nat → Int64) → Prop) (PX : String → (Nat → Int32) → (Nat → Int64) → (Nat → Nat → Int32) → (Nat → Nat → Int64) → Prop) : Prop :=
  wp_Truths_reckonParts I J B D 1 (fun I13 J13 B13 D13 => ∃ n : Nat, wl_Truths_fillBefore_7 a0 Post PX n a0 0 I13 J13 B13 D13) PX
set_option maxHeartbeats 8000000 in
set_option maxRecDepth 100000 in
theorem wB_Truths_fillBefore_18 {p : Program} {l : Launch} {e : Env} {s : State} {m : MethodId} {below : List Frame} {meth : Method} {c : Code} {A : Nat → Prop} (G : va_G) (K : Nat → ClassId) (ad : Nat → Nat) (sv : Value) (a0 : Int32) (Post : (Nat → Int32) → (Nat → Int64) → (Nat → Nat → Int32) → (Nat → Nat → Int64) → Prop) (PX : String → (Nat → Int32) → (Nat → Int64) → (Nat → Nat → Int32) → (Nat → Nat → Int64) → Prop) (C : zCy p l s m ([.ref (ad 11), .int a0] : List Value).toArray meth c A G K prog_12_method_3_code none 5 "LassoFinder$Truths") (K7 : Int32 → Int32 → (Nat → Int32) → (Nat → Int64) → (Nat → Nat → Int32) → (Nat → Nat → Int64) → Prop) (kh7 : ∀ (x1 : Int32) (x2 : Int32) (I : Nat → Int32) (J : Nat → Int64) (B : Nat → Nat → Int32) (D : Nat → Nat → Int64) (ls : Array Slot) (H : Heap) (locs : List Loc), K7 x1 x2 I J B D → lv_has ls 5 [(0, .ref (ad 11)), (1, .int x1), (2, .int x2)] → zW G A s.heap (wX ad K sv I J B D) H locs → W p l e { frames := 4, cells := 1, slots := 6, locals := 93 } s m ([.ref (ad 11), .int a0] : List Value).toArray below meth c H locs 0 0 (zyMQ below (va_Qv (fun u : zS => Post u.1 u.2.1 u.2.2.1 u.2.2.2) (fun u t => zPost G K A (wX ad K sv u.1 u.2.1 u.2.2.1 u.2.2.2) t) A) (zYC (fun E (u : zS) => PX E u.1 u.2.1 u.2.2.1 u.2.2.2) (fun u => wX ad K sv u.1 u.2.1 u.2.2.1 u.2.2.2) G K A) ([.ref (ad 11), .int a0] : List Value).toArray s 1 6 A) (F0 m 7 ls [])) (K18 : Int32 → Int32 → Int32 → Int32 → (Nat → Int32) → (Nat → Int64) → (Nat → Nat → Int32) → (Nat → Nat → Int64) → Prop) (kh18 : ∀ (x1 : Int32) (x2 : Int32) (x3 : Int32) (x4 : Int32) (I : Nat → Int32) (J : Nat → Int64) (B : Nat → Nat → Int32) (D : Nat → Nat → Int64) (ls : Array Slot) (H : Heap) (locs : List Loc), K18 x1 x2 x3 x4 I J B D → lv_has ls 5 [(0, .ref (ad 11)), (1, .int x1), (2, .int x2), (3, .int x3), (4, .int x4)] → zW G A s.heap (wX ad K sv I J B D) H locs → W p l e { frames := 4, cells := 1, slots := 6, locals := 93 } s m ([.ref (ad 11), .int a0] : List Value).toArray below meth c H locs 0 0 (zyMQ below (va_Qv (fun u : zS => Post u.1 u.2.1 u.2.2.1 u.2.2.2) (fun u t => zPost G K A (wX ad K sv u.1 u.2.1 u.2.2.1 u.2.2.2) t) A) (zYC (fun E (u : zS) => PX E u.1 u.2.1 u.2.2.1 u.2.2.2) (fun u => wX ad K sv u.1 u.2.1 u.2.2.1 u.2.2.2) G K A) ([.ref (ad 11), .int a0] : List Value).toArray s 1 6 A) (F0 m 18 ls [])) : ∀ (x1 : Int32) (x2 : Int32) (x3 : Int32) (x4 : Int32) (I : Nat → Int32) (J : Nat → Int64) (B : Nat → Nat → Int32) (D : Nat → Nat → Int64) (ls : Array Slot) (H : Heap) (locs : List Loc), wb_Truths_fillBefore_18 a0 K18 K7 Post PX x1 x2 x3 x4 I J B D → lv_has ls 5 [(0, .ref (ad 11)), (1, .int x1), (2, .int x2), (3, .int x3), (4, .int x4)] → zW G A s.heap (wX ad K sv I J B D) H locs → W p l e { frames := 4, cells := 1, slots := 6, locals := 93 } s m ([.ref (ad 11), .int a0] : List Value).toArray below meth c H locs 0 0 (zyMQ below (va_Qv (fun u : zS => Post u.1 u.2.1 u.2.2.1 u.2.2.2) (fun u t => zPost G K A (wX ad K sv u.1 u.2.1 u.2.2.1 u.2.2.2) t) A) (zYC (fun E (u : zS) => PX E u.1 u.2.1 u.2.2.1 u.2.2.2) (fun u => wX ad K sv u.1 u.2.1 u.2.2.1 u.2.2.2) G K A) ([.ref (ad 11), .int a0] : List Value).toArray s 1 6 A) (F0 m 18 ls []) := by
  obtain ⟨hx, hb, hr, hml, hts, hown, hlocks, hA, hK, hT, hnt, hlt⟩ := id C
  intro x1 x2 x3 x4 I J B D ls H locs hok hl hw
  unfold wb_Truths_fillBefore_18 at hok
  refine lv_iload hx hb zd_Truths_fillBefore_18 (lv_at hl 4 rfl) ?_
  refine lv_aload_n hx hb zd_Truths_fillBefore_20 rfl (lv_at hl 0 rfl) ?_
  refine z_get (v := .ref (ad 9)) hx hb hts hown hK hw zZ11 11 wX_g11 2 (by decide) zn_526 rfl zd_Truths_fillBefore_21 ?_
  refine z_get (v := .int (I 21)) hx hb hts hown hK hw zZ1 9 wX_g9 7 (by decide) zn_527 rfl zd_Truths_fillBefore_24 ?_
  refine lv_icmp_ge (tgt := 61) hx hb zd_Truths_fillBefore_27 (by decide) (fun hc1 => ?_) (fun hc1 => ?_)
  · have hok := hok.1 hc1
    refine lv_aload_n hx hb zd_Truths_fillBefore_61 rfl (lv_at hl 0 rfl) ?_
    refine z_get (v := .ref (ad 62)) hx hb hts hown hK hw zZ11 11 wX_g11 4 (by decide) zn_282 rfl zd_Truths_fillBefore_62 ?_
    refine lv_iload_n hx hb zd_Truths_fillBefore_65 rfl (lv_at hl 1 rfl) ?_
    refine lv_bipush (v := 8) hx hb zd_Truths_fillBefore_66 (by decide) ?_
    refine lv_imul hx hb zd_Truths_fillBefore_68 ?_
    refine lv_topi (fun z2 ez2 => ?_)
    have hok := hok z2 ez2
    refine lv_iload_n hx hb zd_Truths_fillBefore_69 rfl (lv_at hl 2 rfl) ?_
    refine lv_iadd hx hb zd_Truths_fillBefore_70 ?_
    refine lv_topi (fun z3 ez3 => ?_)
    have hok := hok z3 ez3
    refine lv_iload_n hx hb zd_Truths_fillBefore_71 rfl (lv_at hl 3 rfl) ?_
    refine va_iast (f := (B 47)) hx hb hK hw.1 hw.2.1 hw.2.2 62 0 wX_a62 rfl hok.1 zd_Truths_fillBefore_72 (fun H locs w91 w92 w93 => ?_)
    have hok := hok.2
    have hw := wX_t62 ⟨w91, w92, w93⟩
    obtain ⟨z4, ez4⟩ : ∃ z : Int32, z = (x2 + 1) := ⟨_, rfl⟩
    have hok := hok z4 ez4
    refine lv_iinc (v := z4) hx hb zd_Truths_fillBefore_73 hl (k := 2) rfl ez4.symm (by decide) rfl (fun ls hl => ?_)
    have hl : lv_has ls 5 [(2, .int z4), (0, .ref (ad 11)), (1, .int x1), (3, .int x3), (4, .int x4)] := hl
    refine lv_goto (tgt := 7) hx hb zd_Truths_fillBefore_76 (by decide) ?_
    exact kh7 x1 z4 I J (va_up B 47 (upd (B 47) z3.toNatClampNeg x3)) D ls H locs hok (lv_sub hl [1, 2, 0] rfl) hw
  · have hok := hok.2 hc1
    refine lv_iload_n hx hb zd_Truths_fillBefore_30 rfl (lv_at hl 3 rfl) ?_
    refine lv_aload_n hx hb zd_Truths_fillBefore_31 rfl (lv_at hl 0 rfl) ?_
    refine z_get (v := .ref (ad 61)) hx hb hts hown hK hw zZ11 11 wX_g11 3 (by decide) zn_281 rfl zd_Truths_fillBefore_32 ?_
    refine lv_aload_n hx hb zd_Truths_fillBefore_35 rfl (lv_at hl 0 rfl) ?_
    refine z_get (v := .ref (ad 9)) hx hb hts hown hK hw zZ11 11 wX_g11 2 (by decide) zn_526 rfl zd_Truths_fillBefore_36 ?_
    refine z_get (v := .ref (ad 57)) hx hb hts hown hK hw zZ1 9 wX_g9 6 (by decide) zn_529 rfl zd_Truths_fillBefore_39 ?_
    refine lv_iload hx hb zd_Truths_fillBefore_42 (lv_at hl 4 rfl) ?_
    refine va_iald (f := (B 42)) hx hb hK hw.1 57 0 wX_a57 rfl hok.1 zd_Truths_fillBefore_44 ?_
    have hok := hok.2
    refine lv_topi (fun z5 ez5 => ?_)
    have hok := hok z5 ez5
    refine va_iald (f := (B 46)) hx hb hK hw.1 61 0 wX_a61 rfl hok.1 zd_Truths_fillBefore_45 ?_
    have hok := hok.2
    refine lv_topi (fun z6 ez6 => ?_)
    have hok := hok z6 ez6
    refine lv_iload_n hx hb zd_Truths_fillBefore_46 rfl (lv_at hl 2 rfl) ?_
    refine lv_ishr hx hb zd_Truths_fillBefore_47 ?_
    refine lv_topi (fun z7 ez7 => ?_)
    have hok := hok z7 ez7
    refine lv_iconst (v := 1) hx hb zd_Truths_fillBefore_48 (by decide) ?_
    refine lv_iand hx hb zd_Truths_fillBefore_49 ?_
    refine lv_topi (fun z8 ez8 => ?_)
    have hok := hok z8 ez8
    refine lv_iload hx hb zd_Truths_fillBefore_50 (lv_at hl 4 rfl) ?_
    refine lv_ishl hx hb zd_Truths_fillBefore_52 ?_
    refine lv_topi (fun z9 ez9 => ?_)
    have hok := hok z9 ez9
    refine lv_ior hx hb zd_Truths_fillBefore_53 ?_
    refine lv_topi (fun z10 ez10 => ?_)
    have hok := hok z10 ez10
    refine lv_istore_n hx hb zd_Truths_fillBefore_54 rfl hl (by decide) rfl (fun ls hl => ?_)
    have hl : lv_has ls 5 [(3, .int z10), (0, .ref (ad 11)), (1, .int x1), (2, .int x2), (4, .int x4)] := hl
    obtain ⟨z11, ez11⟩ : ∃ z : Int32, z = (x4 + 1) := ⟨_, rfl⟩
    have hok := hok z11 ez11
    refine lv_iinc (v := z11) hx hb zd_Truths_fillBefore_55 hl (k := 4) rfl ez11.symm (by decide) rfl (fun ls hl => ?_)
    have hl : lv_has ls 5 [(4, .int z11), (3, .int z10), (0, .ref (ad 11)), (1, .int x1), (2, .int x2)] := hl
    refine lv_goto (tgt := 18) hx hb zd_Truths_fillBefore_58 (by decide) ?_
    exact kh18 x1 x2 z10 z11 I J B D ls H locs hok (lv_sub hl [2, 3, 4, 1, 0] rfl) hw
theorem wL_Truths_fillBefore_18 {p : Program} {l : Launch} {e : Env} {s : State} {m : MethodId} {below : List Frame} {meth : Method} {c : Code} {A : Nat → Prop} (G : va_G) (K : Nat → ClassId) (ad : Nat → Nat) (sv : Value) (a0 : Int32) (Post : (Nat → Int32) → (Nat → Int64) → (Nat → Nat → Int32) → (Nat → Nat → Int64) → Prop) (PX : String → (Nat → Int32) → (Nat → Int64) → (Nat → Nat → Int32) → (Nat → Nat → Int64) → Prop) (C : zCy p l s m ([.ref (ad 11), .int a0] : List Value).toArray meth c A G K prog_12_method_3_code none 5 "LassoFinder$Truths") (K7 : Int32 → Int32 → (Nat → Int32) → (Nat → Int64) → (Nat → Nat → Int32) → (Nat → Nat → Int64) → Prop) (kh7 : ∀ (x1 : Int32) (x2 : Int32) (I : Nat → Int32) (J : Nat → Int64) (B : Nat → Nat → Int32) (D : Nat → Nat → Int64) (ls : Array Slot) (H : Heap) (locs : List Loc), K7 x1 x2 I J B D → lv_has ls 5 [(0, .ref (ad 11)), (1, .int x1), (2, .int x2)] → zW G A s.heap (wX ad K sv I J B D) H locs → W p l e { frames := 4, cells := 1, slots := 6, locals := 93 } s m ([.ref (ad 11), .int a0] : List Value).toArray below meth c H locs 0 0 (zyMQ below (va_Qv (fun u : zS => Post u.1 u.2.1 u.2.2.1 u.2.2.2) (fun u t => zPost G K A (wX ad K sv u.1 u.2.1 u.2.2.1 u.2.2.2) t) A) (zYC (fun E (u : zS) => PX E u.1 u.2.1 u.2.2.1 u.2.2.2) (fun u => wX ad K sv u.1 u.2.1 u.2.2.1 u.2.2.2) G K A) ([.ref (ad 11), .int a0] : List Value).toArray s 1 6 A) (F0 m 7 ls [])) : ∀ (n : Nat) (x1 : Int32) (x2 : Int32) (x3 : Int32) (x4 : Int32) (I : Nat → Int32) (J : Nat → Int64) (B : Nat → Nat → Int32) (D : Nat → Nat → Int64) (ls : Array Slot) (H : Heap) (locs : List Loc), wl_Truths_fillBefore_18 a0 K7 Post PX n x1 x2 x3 x4 I J B D → lv_has ls 5 [(0, .ref (ad 11)), (1, .int x1), (2, .int x2), (3, .int x3), (4, .int x4)] → zW G A s.heap (wX ad K sv I J B D) H locs → W p l e { frames := 4, cells := 1, slots := 6, locals := 93 } s m ([.ref (ad 11), .int a0] : List Value).toArray below meth c H locs 0 0 (zyMQ below (va_Qv (fun u : zS => Post u.1 u.2.1 u.2.2.1 u.2.2.2) (fun u t => zPost G K A (wX ad K sv u.1 u.2.1 u.2.2.1 u.2.2.2) t) A) (zYC (fun E (u : zS) => PX E u.1 u.2.1 u.2.2.1 u.2.2.2) (fun u => wX ad K sv u.1 u.2.1 u.2.2.1 u.2.2.2) G K A) ([.ref (ad 11), .int a0] : List Value).toArray s 1 6 A) (F0 m 18 ls []) := by
  intro n
  induction n with
  | zero => intro x1 x2 x3 x4 I J B D ls H locs hok; exact hok.elim
  | succ n ih => exact wB_Truths_fillBefore_18 G K ad sv a0 Post PX C K7 kh7 (wl_Truths_fillBefore_18 a0 K7 Post PX n) ih
set_option maxHeartbeats 8000000 in
set_option maxRecDepth 100000 in
theorem wB_Truths_fillBefore_7 {p : Program} {l : Launch} {e : Env} {s : State} {m : MethodId} {below : List Frame} {meth : Method} {c : Code} {A : Nat → Prop} (G : va_G) (K : Nat → ClassId) (ad : Nat → Nat) (sv : Value) (a0 : Int32) (Post : (Nat → Int32) → (Nat → Int64) → (Nat → Nat → Int32) → (Nat → Nat → Int64) → Prop) (PX : String → (Nat → Int32) → (Nat → Int64) → (Nat → Nat → Int32) → (Nat → Nat → Int64) → Prop) (C : zCy p l s m ([.ref (ad 11), .int a0] : List Value).toArray meth c A G K prog_12_method_3_code none 5 "LassoFinder$Truths") (K7 : Int32 → Int32 → (Nat → Int32) → (Nat → Int64) → (Nat → Nat → Int32) → (Nat → Nat → Int64) → Prop) (kh7 : ∀ (x1 : Int32) (x2 : Int32) (I : Nat → Int32) (J : Nat → Int64) (B : Nat → Nat → Int32) (D : Nat → Nat → Int64) (ls : Array Slot) (H : Heap) (locs : List Loc), K7 x1 x2 I J B D → lv_has ls 5 [(0, .ref (ad 11)), (1, .int x1), (2, .int x2)] → zW G A s.heap (wX ad K sv I J B D) H locs → W p l e { frames := 4, cells := 1, slots := 6, locals := 93 } s m ([.ref (ad 11), .int a0] : List Value).toArray below meth c H locs 0 0 (zyMQ below (va_Qv (fun u : zS => Post u.1 u.2.1 u.2.2.1 u.2.2.2) (fun u t => zPost G K A (wX ad K sv u.1 u.2.1 u.2.2.1 u.2.2.2) t) A) (zYC (fun E (u : zS) => PX E u.1 u.2.1 u.2.2.1 u.2.2.2) (fun u => wX ad K sv u.1 u.2.1 u.2.2.1 u.2.2.2) G K A) ([.ref (ad 11), .int a0] : List Value).toArray s 1 6 A) (F0 m 7 ls [])) : ∀ (x1 : Int32) (x2 : Int32) (I : Nat → Int32) (J : Nat → Int64) (B : Nat → Nat → Int32) (D : Nat → Nat → Int64) (ls : Array Slot) (H : Heap) (locs : List Loc), wb_Truths_fillBefore_7 a0 K7 Post PX x1 x2 I J B D → lv_has ls 5 [(0, .ref (ad 11)), (1, .int x1), (2, .int x2)] → zW G A s.heap (wX ad K sv I J B D) H locs → W p l e { frames := 4, cells := 1, slots := 6, locals := 93 } s m ([.ref (ad 11), .int a0] : List Value).toArray below meth c H locs 0 0 (zyMQ below (va_Qv (fun u : zS => Post u.1 u.2.1 u.2.2.1 u.2.2.2) (fun u t => zPost G K A (wX ad K sv u.1 u.2.1 u.2.2.1 u.2.2.2) t) A) (zYC (fun E (u : zS) => PX E u.1 u.2.1 u.2.2.1 u.2.2.2) (fun u => wX ad K sv u.1 u.2.1 u.2.2.1 u.2.2.2) G K A) ([.ref (ad 11), .int a0] : List Value).toArray s 1 6 A) (F0 m 7 ls []) := by
  obtain ⟨hx, hb, hr, hml, hts, hown, hlocks, hA, hK, hT, hnt, hlt⟩ := id C
  intro x1 x2 I J B D ls H locs hok hl hw
  unfold wb_Truths_fillBefore_7 at hok
  refine lv_iload_n hx hb zd_Truths_fillBefore_7 rfl (lv_at hl 2 rfl) ?_
  refine lv_bipush (v := 8) hx hb zd_Truths_fillBefore_8 (by decide) ?_
  refine lv_icmp_ge (tgt := 79) hx hb zd_Truths_fillBefore_10 (by decide) (fun hc12 => ?_) (fun hc12 => ?_)
  · have hok := hok.1 hc12
    exact zy_ret (z_vret (u := (I, J, B, D)) hx hb hr hlocks hw (List.range 65) wX_all wX_nd hok (Nat.le_of_ble_eq_true rfl) (Nat.le_of_ble_eq_true rfl) zd_Truths_fillBefore_79)
  · have hok := hok.2 hc12
    refine lv_iconst (v := 0) hx hb zd_Truths_fillBefore_13 (by decide) ?_
    refine lv_istore_n hx hb zd_Truths_fillBefore_14 rfl hl (by decide) rfl (fun ls hl => ?_)
    have hl : lv_has ls 5 [(3, .int 0), (0, .ref (ad 11)), (1, .int x1), (2, .int x2)] := hl
    refine lv_iconst (v := 0) hx hb zd_Truths_fillBefore_15 (by decide) ?_
    refine lv_istore hx hb zd_Truths_fillBefore_16 hl (by decide) rfl (fun ls hl => ?_)
    have hl : lv_has ls 5 [(4, .int 0), (3, .int 0), (0, .ref (ad 11)), (1, .int x1), (2, .int x2)] := hl
    obtain ⟨n9, hok⟩ := hok
    exact wL_Truths_fillBefore_18 G K ad sv a0 Post PX C K7 kh7 n9 x1 x2 0 0 I J B D ls H locs hok (lv_sub hl [2, 3, 4, 1, 0] rfl) hw
theorem wL_Truths_fillBefore_7 {p : Program} {l : Launch} {e : Env} {s : State} {m : MethodId} {below : List Frame} {meth : Method} {c : Code} {A : Nat → Prop} (G : va_G) (K : Nat → ClassId) (ad : Nat → Nat) (sv : Value) (a0 : Int32) (Post : (Nat → Int32) → (Nat → Int64) → (Nat → Nat → Int32) → (Nat → Nat → Int64) → Prop) (PX : String → (Nat → Int32) → (Nat → Int64) → (Nat → Nat → Int32) → (Nat → Nat → Int64) → Prop) (C : zCy p l s m ([.ref (ad 11), .int a0] : List Value).toArray meth c A G K prog_12_method_3_code none 5 "LassoFinder$Truths") : ∀ (n : Nat) (x1 : Int32) (x2 : Int32) (I : Nat → Int32) (J : Nat → Int64) (B : Nat → Nat → Int32) (D : Nat → Nat → Int64) (ls : Array Slot) (H : Heap) (locs : List Loc), wl_Truths_fillBefore_7 a0 Post PX n x1 x2 I J B D → lv_has ls 5 [(0, .ref (ad 11)), (1, .int x1), (2, .int x2)] → zW G A s.heap (wX ad K sv I J B D) H locs → W p l e { frames := 4, cells := 1, slots := 6, locals := 93 } s m ([.ref (ad 11), .int a0] : List Value).toArray below meth c H locs 0 0 (zyMQ below (va_Qv (fun u : zS => Post u.1 u.2.1 u.2.2.1 u.2.2.2) (fun u t => zPost G K A (wX ad K sv u.1 u.2.1 u.2.2.1 u.2.2.2) t) A) (zYC (fun E (u : zS) => PX E u.1 u.2.1 u.2.2.1 u.2.2.2) (fun u => wX ad K sv u.1 u.2.1 u.2.2.1 u.2.2.2) G K A) ([.ref (ad 11), .int a0] : List Value).toArray s 1 6 A) (F0 m 7 ls []) := by
  intro n
  induction n with
  | zero => intro x1 x2 I J B D ls H locs hok; exact hok.elim
  | succ n ih => exact wB_Truths_fillBefore_7 G K ad sv a0 Post PX C (wl_Truths_fillBefore_7 a0 Post PX n) ih
set_option maxHeartbeats 8000000 in
set_option maxRecDepth 100000 in
theorem w_Truths_fillBefore (l : Launch) (hlt : l.stackTraces = false) (G : va_G) (K : Nat → ClassId) (ad : Nat → Nat) (sv : Value) (I : Nat → Int32) (J : Nat → Int64) (B : Nat → Nat → Int32) (D : Nat → Nat → Int64) (a0 : Int32) (Post : (Nat → Int32) → (Nat → Int64) → (Nat → Nat → Int32) → (Nat → Nat → Int64) → Prop) (PX : String → (Nat → Int32) → (Nat → Int64) → (Nat → Nat → Int32) → (Nat → Nat → Int64) → Prop) (sz : Nat) (hok : wp_Truths_fillBefore I J B D a0 Post PX) : zyMet l zy_Truths_fillBefore (Cond.code zy_Truths_fillBefore prog_12_method_3_code 5 none :: zTB) { frames := 4, cells := 1, slots := 6, locals := 93 } (va_Pc [.ref (ad 11), .int a0] (zPreY G K (wX ad K sv I J B D) sz)) (va_Qv (fun u : zS => Post u.1 u.2.1 u.2.2.1 u.2.2.2) (fun u t => zPost G K (va_A (wX ad K sv I J B D) sz) (wX ad K sv u.1 u.2.1 u.2.2.1 u.2.2.2) t) (va_A (wX ad K sv I J B D) sz)) (zYC (fun E (u : zS) => PX E u.1 u.2.1 u.2.2.1 u.2.2.2) (fun u => wX ad K sv u.1 u.2.1 u.2.2.1 u.2.2.2) G K (va_A (wX ad K sv I J B D) sz)) 1 6 (va_A (wX ad K sv I J B D) sz) := by
  refine zMetY (y := zy_Truths_fillBefore) (av := [.ref (ad 11), .int a0]) (maxL := 5) (cc := prog_12_method_3_code) (ret := none) (W0 := (wX ad K sv I J B D)) (sz := sz) (G := G) (K := K) (wt := zTB) (mc := 1) (ms := 6) (Qf := fun A => va_Qv (fun u : zS => Post u.1 u.2.1 u.2.2.1 u.2.2.2) (fun u t => zPost G K A (wX ad K sv u.1 u.2.1 u.2.2.1 u.2.2.2) t) A) (Xf := fun A => (zYC (fun E (u : zS) => PX E u.1 u.2.1 u.2.2.1 u.2.2.2) (fun u => wX ad K sv u.1 u.2.1 u.2.2.1 u.2.2.2) G K A)) (by decide) (Nat.le_of_ble_eq_true rfl) ?_
  intro p e s m below meth c ls A hx hb hr hml hts hown hlocks hin hA hK H locs hw hsz hl hT hnt
  clear hsz
  have hown : s.vm.findClass "LassoFinder$Truths" = some m.cls := hown
  have C : zCy p l s m ([.ref (ad 11), .int a0] : List Value).toArray meth c A G K prog_12_method_3_code none 5 "LassoFinder$Truths" := ⟨hx, hb, hr, hml, hts, hown, hlocks, hA, hK, hT, hnt, hlt⟩
  have hl : lv_has ls 5 [(0, .ref (ad 11)), (1, .int a0)] := hl
  have hw : zW G A s.heap (wX ad K sv I J B D) H locs := hw
  unfold wp_Truths_fillBefore at hok
  refine lv_aload_n hx hb zd_Truths_fillBefore_0 rfl (lv_at hl 0 rfl) ?_
  refine lv_iconst (v := 1) hx hb zd_Truths_fillBefore_1 (by decide) ?_
  refine z_yV (q0 := 11) (wc := (wX ad K sv I J B D)) (wr := []) (w1 := fun (u : zS) => wX ad K sv u.1 u.2.1 u.2.2.1 u.2.2.2) (As := [.int 1]) (rest := []) ⟨hx, hb, hml, hown, hts⟩ (w_Truths_reckonParts l hlt G K ad sv I J B D 1 _ _ H.size hok) zf_Truths_reckonParts zn_507 ⟨Nat.le_of_ble_eq_true rfl, Nat.le_of_ble_eq_true rfl⟩ hK hT hw hA (List.range 65) [] wX_all rfl wX_nd (by decide) (fun i hi => by cases hi) wX_g11 rfl rfl hl.1 rfl (Nat.le_of_ble_eq_true rfl) zd_Truths_fillBefore_2 ⟨Nat.le_of_ble_eq_true rfl, Nat.le_of_ble_eq_true rfl⟩ (fun v st9 t9 L9 h0 hq hL => ?_) (fun E ce q9 u H locs hu hw hce hcv hcl => z_yout (u := u) hnt hlocks hce hcv hcl hw (List.range 65) wX_all wX_nd hu (Nat.le_of_ble_eq_true rfl) (Nat.le_of_ble_eq_true rfl))
  obtain ⟨⟨u, hv9, hok, hB9⟩, hF9⟩ := hq
  cases hv9
  have hw := z_back (wr := []) hw hA (List.range 65) [] wX_all rfl (by decide) (fun i hi => by cases hi) h0 hL hB9 hF9
  obtain ⟨I13, J13, B13, D13⟩ := u
  dsimp only at hok
  generalize t9.heap = H at hw ⊢
  generalize locs ++ L9 = locs at hw ⊢
  have hw : zW G A s.heap (wX ad K sv I13 J13 B13 D13) H locs := hw
  refine W.eq (g2 := F0 m 5 ls []) rfl ?_
  refine lv_iconst (v := 0) hx hb zd_Truths_fillBefore_5 (by decide) ?_
  refine lv_istore_n hx hb zd_Truths_fillBefore_6 rfl hl (by decide) rfl (fun ls hl => ?_)
  have hl : lv_has ls 5 [(2, .int 0), (0, .ref (ad 11)), (1, .int a0)] := hl
  obtain ⟨n9, hok⟩ := hok
  exact wL_Truths_fillBefore_7 G K ad sv a0 Post PX C n9 a0 0 I13 J13 B13 D13 ls H locs hok (lv_sub hl [1, 2, 0] rfl) hw
def wp_Truths_settledFor (I : Nat → Int32) (J : Nat → Int64) (B : Nat → Nat → Int32) (D : Nat → Nat → Int64) (a0 : Int32) (Post : Int32 → (Nat → Int32) → (Nat → Int64) → (Nat → Nat → Int32) → (Nat → Nat → Int64) → Prop) (PX : String → (Nat → Int32) → (Nat → Int64) → (Nat → Nat → Int32) → (Nat → Nat → Int64) → Prop) : Prop :=
  vp_in a0 3 ∧ ∀ z1 : Int32, z1 = ((B 42) a0.toNatClampNeg) → vp_in a0 3 ∧ ∀ z3 : Int32, z3 = (zGue a0.toNatClampNeg) → vp_in z1 240 ∧ ∀ z4 : Int32, z4 = ((B 40) z1.toNatClampNeg) → vp_in z4 240 ∧ ∀ z5 : Int32, z5 = ((B 46) z4.toNatClampNeg) → vp_in z1 240 ∧ ∀ z6 : Int32, z6 = ((B 39) z1.toNatClampNeg) → ((z6 = 4 → ∀ z8 : Int32, z8 = (z5 ^^^ 255) → ∀ z9 : Int32, z9 = (z3 ||| z8) → Post z9 I J B D) ∧ (z6 = 5 → ∀ z11 : Int32, z11 = (z3 ^^^ 255) → ∀ z12 : Int32, z12 = (z11 ||| z5) → Post z12 I J B D) ∧ (z6 = 6 → ∀ z14 : Int32, z14 = (z3 ^^^ 255) → vp_in z1 240 ∧ ∀ z15 : Int32, z15 = ((B 41) z1.toNatClampNeg) → vp_in z15 240 ∧ ∀ z16 : Int32, z16 = ((B 46) z15.toNatClampNeg) → ∀ z17 : Int32, z17 = (z14 ||| z16) → Post z17 I J B D) ∧ (¬ z6 = 4 → ¬ z6 = 5 → ¬ z6 = 6 → vp_in z1 240 ∧ ∀ z18 : Int32, z18 = ((B 41) z1.toNatClampNeg) → vp_in z18 240 ∧ ∀ z19 : Int32, z19 = ((B 46) z18.toNatClampNeg) → ∀ z20 : Int32, z20 = (z19 ^^^ 255) → ∀ z21 : Int32, z21 = (z3 ||| z20) → Post z21 I J B D))
set_option maxHeartbeats 8000000 in
set_option maxRecDepth 100000 in
theorem w_Truths_settledFor (l : Launch) (hlt : l.stackTraces = false) (G : va_G) (K : Nat → ClassId) (ad : Nat → Nat) (sv : Value) (I : Nat → Int32) (J : Nat → Int64) (B : Nat → Nat → Int32) (D : Nat → Nat → Int64) (a0 : Int32) (Post : Int32 → (Nat → Int32) → (Nat → Int64) → (Nat → Nat → Int32) → (Nat → Nat → Int64) → Prop) (PX : String → (Nat → Int32) → (Nat → Int64) → (Nat → Nat → Int32) → (Nat → Nat → Int64) → Prop) (sz : Nat) (hok : wp_Truths_settledFor I J B D a0 Post PX) : zyMet l zy_Truths_settledFor (Cond.code zy_Truths_settledFor prog_12_method_9_code 5 (some .int) :: zTB) { frames := 0, cells := 1, slots := 6, locals := 0 } (va_Pc [.ref (ad 11), .int a0] (zPreY G K (wX ad K sv I J B D) sz)) (va_Qi (fun (r : Int32) (u : zS) => Post r u.1 u.2.1 u.2.2.1 u.2.2.2) (fun u t => zPost G K (va_A (wX ad K sv I J B D) sz) (wX ad K sv u.1 u.2.1 u.2.2.1 u.2.2.2) t) (va_A (wX ad K sv I J B D) sz)) (zYC (fun E (u : zS) => PX E u.1 u.2.1 u.2.2.1 u.2.2.2) (fun u => wX ad K sv u.1 u.2.1 u.2.2.1 u.2.2.2) G K (va_A (wX ad K sv I J B D) sz)) 1 6 (va_A (wX ad K sv I J B D) sz) := by
  refine zMetY (y := zy_Truths_settledFor) (av := [.ref (ad 11), .int a0]) (maxL := 5) (cc := prog_12_method_9_code) (ret := (some .int)) (W0 := (wX ad K sv I J B D)) (sz := sz) (G := G) (K := K) (wt := zTB) (mc := 1) (ms := 6) (Qf := fun A => va_Qi (fun (r : Int32) (u : zS) => Post r u.1 u.2.1 u.2.2.1 u.2.2.2) (fun u t => zPost G K A (wX ad K sv u.1 u.2.1 u.2.2.1 u.2.2.2) t) A) (Xf := fun A => (zYC (fun E (u : zS) => PX E u.1 u.2.1 u.2.2.1 u.2.2.2) (fun u => wX ad K sv u.1 u.2.1 u.2.2.1 u.2.2.2) G K A)) (by decide) (Nat.le_of_ble_eq_true rfl) ?_
  intro p e s m below meth c ls A hx hb hr hml hts hown hlocks hin hA hK H locs hw hsz hl hT hnt
  clear hsz
  have hown : s.vm.findClass "LassoFinder$Truths" = some m.cls := hown
  have C : zCy p l s m ([.ref (ad 11), .int a0] : List Value).toArray meth c A G K prog_12_method_9_code (some .int) 5 "LassoFinder$Truths" := ⟨hx, hb, hr, hml, hts, hown, hlocks, hA, hK, hT, hnt, hlt⟩
  have hl : lv_has ls 5 [(0, .ref (ad 11)), (1, .int a0)] := hl
  have hw : zW G A s.heap (wX ad K sv I J B D) H locs := hw
  unfold wp_Truths_settledFor at hok
  refine lv_aload_n hx hb zd_Truths_settledFor_0 rfl (lv_at hl 0 rfl) ?_
  refine z_get (v := .ref (ad 9)) hx hb hts hown hK hw zZ11 11 wX_g11 2 (by decide) zn_526 rfl zd_Truths_settledFor_1 ?_
  refine z_get (v := .ref (ad 57)) hx hb hts hown hK hw zZ1 9 wX_g9 6 (by decide) zn_529 rfl zd_Truths_settledFor_4 ?_
  refine lv_iload_n hx hb zd_Truths_settledFor_7 rfl (lv_at hl 1 rfl) ?_
  refine va_iald (f := (B 42)) hx hb hK hw.1 57 0 wX_a57 rfl hok.1 zd_Truths_settledFor_8 ?_
  have hok := hok.2
  refine lv_topi (fun z1 ez1 => ?_)
  have hok := hok z1 ez1
  refine lv_istore_n hx hb zd_Truths_settledFor_9 rfl hl (by decide) rfl (fun ls hl => ?_)
  have hl : lv_has ls 5 [(2, .int z1), (0, .ref (ad 11)), (1, .int a0)] := hl
  obtain ⟨t2, hZ2, hU2⟩ := hT.2.2.1
  refine va_gets hx hb hZ2 hw.2.2 hown (hts _ zn_536) (fun _ h => h) zd_Truths_settledFor_10 ?_
  refine lv_iload_n hx hb zd_Truths_settledFor_13 rfl (lv_at hl 2 rfl) ?_
  refine va_ti (v := .int (zGue a0.toNatClampNeg)) hx hb hU2 hw.2.2 hok.1 rfl zd_Truths_settledFor_14 ?_
  have hok := hok.2
  refine lv_topi (fun z3 ez3 => ?_)
  have hok := hok z3 ez3
  refine lv_istore_n hx hb zd_Truths_settledFor_15 rfl hl (by decide) rfl (fun ls hl => ?_)
  have hl : lv_has ls 5 [(3, .int z3), (2, .int z1), (0, .ref (ad 11)), (1, .int a0)] := hl
  refine lv_aload_n hx hb zd_Truths_settledFor_16 rfl (lv_at hl 2 rfl) ?_
  refine z_get (v := .ref (ad 61)) hx hb hts hown hK hw zZ11 11 wX_g11 3 (by decide) zn_281 rfl zd_Truths_settledFor_17 ?_
  refine lv_aload_n hx hb zd_Truths_settledFor_20 rfl (lv_at hl 2 rfl) ?_
  refine z_get (v := .ref (ad 9)) hx hb hts hown hK hw zZ11 11 wX_g11 2 (by decide) zn_526 rfl zd_Truths_settledFor_21 ?_
  refine z_get (v := .ref (ad 55)) hx hb hts hown hK hw zZ1 9 wX_g9 4 (by decide) zn_537 rfl zd_Truths_settledFor_24 ?_
  refine lv_iload_n hx hb zd_Truths_settledFor_27 rfl (lv_at hl 1 rfl) ?_
  refine va_iald (f := (B 40)) hx hb hK hw.1 55 0 wX_a55 rfl hok.1 zd_Truths_settledFor_28 ?_
  have hok := hok.2
  refine lv_topi (fun z4 ez4 => ?_)
  have hok := hok z4 ez4
  refine va_iald (f := (B 46)) hx hb hK hw.1 61 0 wX_a61 rfl hok.1 zd_Truths_settledFor_29 ?_
  have hok := hok.2
  refine lv_topi (fun z5 ez5 => ?_)
  have hok := hok z5 ez5
  refine lv_istore hx hb zd_Truths_settledFor_30 hl (by decide) rfl (fun ls hl => ?_)
  have hl : lv_has ls 5 [(4, .int z5), (3, .int z3), (2, .int z1), (0, .ref (ad 11)), (1, .int a0)] := hl
  refine lv_aload_n hx hb zd_Truths_settledFor_32 rfl (lv_at hl 3 rfl) ?_
  refine z_get (v := .ref (ad 9)) hx hb hts hown hK hw zZ11 11 wX_g11 2 (by decide) zn_526 rfl zd_Truths_settledFor_33 ?_
  refine z_get (v := .ref (ad 54)) hx hb hts hown hK hw zZ1 9 wX_g9 3 (by decide) zn_528 rfl zd_Truths_settledFor_36 ?_
  refine lv_iload_n hx hb zd_Truths_settledFor_39 rfl (lv_at hl 2 rfl) ?_
  refine va_iald (f := (B 39)) hx hb hK hw.1 54 0 wX_a54 rfl hok.1 zd_Truths_settledFor_40 ?_
  have hok := hok.2
  refine lv_topi (fun z6 ez6 => ?_)
  have hok := hok z6 ez6
  by_cases hs7 : z6 = 4
  · have hok := hok.1 hs7
    refine lv_tableIn (off := 27) (tgt := 68) hx hb zd_Truths_settledFor_41 (by rw [hs7]; decide) (by rw [hs7]; decide) (by rw [hs7]; decide) (by decide) ?_
    refine lv_iload_n hx hb zd_Truths_settledFor_68 rfl (lv_at hl 1 rfl) ?_
    refine lv_iload hx hb zd_Truths_settledFor_69 (lv_at hl 0 rfl) ?_
    refine lv_sipush (v := 255) hx hb zd_Truths_settledFor_71 (by decide) ?_
    refine lv_ixor hx hb zd_Truths_settledFor_74 ?_
    refine lv_topi (fun z8 ez8 => ?_)
    have hok := hok z8 ez8
    refine lv_ior hx hb zd_Truths_settledFor_75 ?_
    refine lv_topi (fun z9 ez9 => ?_)
    have hok := hok z9 ez9
    exact zy_ret (z_iret (u := (I, J, B, D)) hx hb hr hlocks rfl hw (List.range 65) wX_all wX_nd hok (Nat.le_of_ble_eq_true rfl) (Nat.le_of_ble_eq_true rfl) zd_Truths_settledFor_76)
  by_cases hs10 : z6 = 5
  · have hok := hok.2.1 hs10
    refine lv_tableIn (off := 36) (tgt := 77) hx hb zd_Truths_settledFor_41 (by rw [hs10]; decide) (by rw [hs10]; decide) (by rw [hs10]; decide) (by decide) ?_
    refine lv_iload_n hx hb zd_Truths_settledFor_77 rfl (lv_at hl 1 rfl) ?_
    refine lv_sipush (v := 255) hx hb zd_Truths_settledFor_78 (by decide) ?_
    refine lv_ixor hx hb zd_Truths_settledFor_81 ?_
    refine lv_topi (fun z11 ez11 => ?_)
    have hok := hok z11 ez11
    refine lv_iload hx hb zd_Truths_settledFor_82 (lv_at hl 0 rfl) ?_
    refine lv_ior hx hb zd_Truths_settledFor_84 ?_
    refine lv_topi (fun z12 ez12 => ?_)
    have hok := hok z12 ez12
    exact zy_ret (z_iret (u := (I, J, B, D)) hx hb hr hlocks rfl hw (List.range 65) wX_all wX_nd hok (Nat.le_of_ble_eq_true rfl) (Nat.le_of_ble_eq_true rfl) zd_Truths_settledFor_85)
  by_cases hs13 : z6 = 6
  · have hok := hok.2.2.1 hs13
    refine lv_tableIn (off := 45) (tgt := 86) hx hb zd_Truths_settledFor_41 (by rw [hs13]; decide) (by rw [hs13]; decide) (by rw [hs13]; decide) (by decide) ?_
    refine lv_iload_n hx hb zd_Truths_settledFor_86 rfl (lv_at hl 1 rfl) ?_
    refine lv_sipush (v := 255) hx hb zd_Truths_settledFor_87 (by decide) ?_
    refine lv_ixor hx hb zd_Truths_settledFor_90 ?_
    refine lv_topi (fun z14 ez14 => ?_)
    have hok := hok z14 ez14
    refine lv_aload_n hx hb zd_Truths_settledFor_91 rfl (lv_at hl 3 rfl) ?_
    refine z_get (v := .ref (ad 61)) hx hb hts hown hK hw zZ11 11 wX_g11 3 (by decide) zn_281 rfl zd_Truths_settledFor_92 ?_
    refine lv_aload_n hx hb zd_Truths_settledFor_95 rfl (lv_at hl 3 rfl) ?_
    refine z_get (v := .ref (ad 9)) hx hb hts hown hK hw zZ11 11 wX_g11 2 (by decide) zn_526 rfl zd_Truths_settledFor_96 ?_
    refine z_get (v := .ref (ad 56)) hx hb hts hown hK hw zZ1 9 wX_g9 5 (by decide) zn_538 rfl zd_Truths_settledFor_99 ?_
    refine lv_iload_n hx hb zd_Truths_settledFor_102 rfl (lv_at hl 2 rfl) ?_
    refine va_iald (f := (B 41)) hx hb hK hw.1 56 0 wX_a56 rfl hok.1 zd_Truths_settledFor_103 ?_
    have hok := hok.2
    refine lv_topi (fun z15 ez15 => ?_)
    have hok := hok z15 ez15
    refine va_iald (f := (B 46)) hx hb hK hw.1 61 0 wX_a61 rfl hok.1 zd_Truths_settledFor_104 ?_
    have hok := hok.2
    refine lv_topi (fun z16 ez16 => ?_)
    have hok := hok z16 ez16
    refine lv_ior hx hb zd_Truths_settledFor_105 ?_
    refine lv_topi (fun z17 ez17 => ?_)
    have hok := hok z17 ez17
    exact zy_ret (z_iret (u := (I, J, B, D)) hx hb hr hlocks rfl hw (List.range 65) wX_all wX_nd hok (Nat.le_of_ble_eq_true rfl) (Nat.le_of_ble_eq_true rfl) zd_Truths_settledFor_106)
  have hok := hok.2.2.2 hs7 hs10 hs13
  refine lv_tableOut (tgt := 107) hx hb zd_Truths_settledFor_41 (by have h0 := lv_neT hs7 (a := 4) (by decide); have h1 := lv_neT hs10 (a := 5) (by decide); have h2 := lv_neT hs13 (a := 6) (by decide); omega) (by decide) ?_
  refine lv_iload_n hx hb zd_Truths_settledFor_107 rfl (lv_at hl 1 rfl) ?_
  refine lv_aload_n hx hb zd_Truths_settledFor_108 rfl (lv_at hl 3 rfl) ?_
  refine z_get (v := .ref (ad 61)) hx hb hts hown hK hw zZ11 11 wX_g11 3 (by decide) zn_281 rfl zd_Truths_settledFor_109 ?_
  refine lv_aload_n hx hb zd_Truths_settledFor_112 rfl (lv_at hl 3 rfl) ?_
  refine z_get (v := .ref (ad 9)) hx hb hts hown hK hw zZ11 11 wX_g11 2 (by decide) zn_526 rfl zd_Truths_settledFor_113 ?_
  refine z_get (v := .ref (ad 56)) hx hb hts hown hK hw zZ1 9 wX_g9 5 (by decide) zn_538 rfl zd_Truths_settledFor_116 ?_
  refine lv_iload_n hx hb zd_Truths_settledFor_119 rfl (lv_at hl 2 rfl) ?_
  refine va_iald (f := (B 41)) hx hb hK hw.1 56 0 wX_a56 rfl hok.1 zd_Truths_settledFor_120 ?_
  have hok := hok.2
  refine lv_topi (fun z18 ez18 => ?_)
  have hok := hok z18 ez18
  refine va_iald (f := (B 46)) hx hb hK hw.1 61 0 wX_a61 rfl hok.1 zd_Truths_settledFor_121 ?_
  have hok := hok.2
  refine lv_topi (fun z19 ez19 => ?_)
  have hok := hok z19 ez19
  refine lv_sipush (v := 255) hx hb zd_Truths_settledFor_122 (by decide) ?_
  refine lv_ixor hx hb zd_Truths_settledFor_125 ?_
  refine lv_topi (fun z20 ez20 => ?_)
  have hok := hok z20 ez20
  refine lv_ior hx hb zd_Truths_settledFor_126 ?_
  refine lv_topi (fun z21 ez21 => ?_)
  have hok := hok z21 ez21
  exact zy_ret (z_iret (u := (I, J, B, D)) hx hb hr hlocks rfl hw (List.range 65) wX_all wX_nd hok (Nat.le_of_ble_eq_true rfl) (Nat.le_of_ble_eq_true rfl) zd_Truths_settledFor_127)
def wc_Truths_fillSettled_106 (a0 : Int32) (K22 : Int32 → Int32 → Int32 → (Nat → Int32) → (Nat → Int64) → (Nat → Nat → Int32) → (Nat → Nat → Int64) → Prop) (Post : (Nat → Int32) → (Nat → Int64) → (Nat → Nat → Int32) → (Nat → Nat → Int64) → Prop) (PX : String → (Nat → Int32) → (Nat → Int64) → (Nat → Nat → Int32) → (Nat → Nat → Int64) → Prop) (x1 : Int32) (x2 : Int32) (x3 : Int32) (y0 : Int32) (y1 : Int32) (I : Nat → Int32) (J : Nat → Int64) (B : Nat → Nat → Int32) (D : Nat → Nat → Int64) : Prop :=
  vp_in y1 768 ∧ ∀ z1 : Int32, z1 = (x3 + 1) → K22 x1 x2 z1 I J (va_up B 49 (upd (B 49) y1.toNatClampNeg (vp_nar .boolean y0))) D
def wb_Truths_fillSettled_34 (a0 : Int32) (K34 : Int32 → Int32 → Int32 → Int32 → Int32 → (Nat → Int32) → (Nat → Int64) → (Nat → Nat → Int32) → (Nat → Nat → Int64) → Prop) (K22 : Int32 → Int32 → Int32 → (Nat → Int32) → (Nat → Int64) → (Nat → Nat → Int32) → (Nat → Nat → Int64) → Prop) (Post : (Nat → Int32) → (Nat → Int64) → (Nat → Nat → Int32) → (Nat → Nat → Int64) → Prop) (PX : String → (Nat → Int32) → (Nat → Int64) → (Nat → Nat → Int32) → (Nat → Nat → Int64) → Prop) (x1 : Int32) (x2 : Int32) (x3 : Int32) (x4 : Int32) (x5 : Int32) (I : Nat → Int32) (J : Nat → Int64) (B : Nat → Nat → Int32) (D : Nat → Nat → Int64) : Prop :=
  (((I 21) ≤ x5 → ∀ z3 : Int32, z3 = (x1 * 8) → ∀ z4 : Int32, z4 = (z3 + x3) → vp_in z4 768 ∧ ∀ z5 : Int32, z5 = (x1 * 8) → ∀ z6 : Int32, z6 = (z5 + x3) → ∀ z7 : Int32, z7 = (x2 >>> (x3 &&& 31)) → ∀ z8 : Int32, z8 = (z7 &&& 1) → ((z8 = 0 → wc_Truths_fillSettled_106 a0 K22 Post PX x1 x2 x3 0 z6 I J (va_up B 48 (upd (B 48) z4.toNatClampNeg x4)) D) ∧ (¬ z8 = 0 → wc_Truths_fillSettled_106 a0 K22 Post PX x1 x2 x3 1 z6 I J (va_up B 48 (upd (B 48) z4.toNatClampNeg x4)) D))) ∧ (¬ (I 21) ≤ x5 → wp_Truths_settledFor I J B D x5 (fun r10 I10 J10 B10 D10 => ∀ z11 : Int32, z11 = (r10 >>> (x3 &&& 31)) → ∀ z12 : Int32, z12 = (z11 &&& 1) → ∀ z13 : Int32, z13 = (z12 <<< (x5 &&& 31)) → ∀ z14 : Int32, z14 = (x4 ||| z13) → ∀ z15 : Int32, z15 = (x5 + 1) → K34 x1 x2 x3 z14 z15 I10 J10 B10 D10) PX))
def wl_Truths_fillSettled_34 (a0 : Int32) (K22 : Int32 → Int32 → Int32 → (Nat → Int32) → (Nat → Int64) → (Nat → Nat → Int32) → (Nat → Nat → Int64) → Prop) (Post : (Nat → Int32) → (Nat → Int64) → (Nat → Nat → Int32) → (Nat → Nat → Int64) → Prop) (PX : String → (Nat → Int32) → (Nat → Int64) → (Nat → Nat → Int32) → (Nat → Nat → Int64) → Prop) (n : Nat) : Int32 → Int32 → Int32 → Int32 → Int32 → (Nat → Int32) → (Nat → Int64) → (Nat → Nat → Int32) → (Nat → Nat → Int64) → Prop := Nat.rec (fun _ _ _ _ _ _ _ _ _ => False) (fun _ r => wb_Truths_fillSettled_34 a0 r K22 Post PX) n
def wb_Truths_fillSettled_22 (a0 : Int32) (K22 : Int32 → Int32 → Int32 → (Nat → Int32) → (Nat → Int64) → (Nat → Nat → Int32) → (Nat → Nat → Int64) → Prop) (Post : (Nat → Int32) → (Nat → Int64) → (Nat → Nat → Int32) → (Nat → Nat → Int64) → Prop) (PX : String → (Nat → Int32) → (Nat → Int64) → (Nat → Nat → Int32) → (Nat → Nat → Int64) → Prop) (x1 : Int32) (x2 : Int32) (x3 : Int32) (I : Nat → Int32) (J : Nat → Int64) (B : Nat → Nat → Int32) (D : Nat → Nat → Int64) : Prop :=
  (((8 : Int32) ≤ x3 → Post I J B D) ∧ (¬ (8 : Int32) ≤ x3 → ∃ n : Nat, wl_Truths_fillSettled_34 a0 K22 Post PX n x1 x2 x3 0 0 I J B D))
def wl_Truths_fillSettled_22 (a0 : Int32) (Post : (Nat → Int32) → (Nat → Int64) → (Nat → Nat → Int32) → (Nat → Nat → Int64) → Prop) (PX : String → (Nat → Int32) → (Nat → Int64) → (Nat → Nat → Int32) → (Nat → Nat → Int64) → Prop) (n : Nat) : Int32 → Int32 → Int32 → (Nat → Int32) → (Nat → Int64) → (Nat → Nat → Int32) → (Nat → Nat → Int64) → Prop := Nat.rec (fun _ _ _ _ _ _ _ => False) (fun _ r => wb_Truths_fillSettled_22 a0 r Post PX) n
def wp_Truths_fillSettled (I : Nat → Int32) (J : Nat → Int64) (B : Nat → Nat → Int32) (D : Nat → Nat → Int64) (a0 : Int32) (Post : (Nat → Int32) → (Nat → Int64) → (Nat → Nat → Int32) → (Nat → Nat → Int64) → Prop) (PX : String → (Nat → Int32) → (Nat → Int64) → (Nat → Nat → Int32) → (Nat → Nat → Int64) → Prop) : Prop :=
  wp_Truths_reckonParts I J B D 0 (fun I17 J17 B17 D17 => ∀ z18 : Int32, z18 = ((I17 22) - 1) → vp_in z18 240 ∧ ∀ z19 : Int32, z19 = ((B17 46) z18.toNatClampNeg) → ∃ n : Nat, wl_Truths_fillSettled_22 a0 Post PX n a0 z19 0 I17 J17 B17 D17) PX
set_option maxHeartbeats 8000000 in
set_option maxRecDepth 100000 in
theorem wJ_Truths_fillSettled_106 {p : Program} {l : Launch} {e : Env} {s : State} {m : MethodId} {below : List Frame} {meth : Method} {c : Code} {A : Nat → Prop} (G : va_G) (K : Nat → ClassId) (ad : Nat → Nat) (sv : Value) (a0 : Int32) (Post : (Nat → Int32) → (Nat → Int64) → (Nat → Nat → Int32) → (Nat → Nat → Int64) → Prop) (PX : String → (Nat → Int32) → (Nat → Int64) → (Nat → Nat → Int32) → (Nat → Nat → Int64) → Prop) (C : zCy p l s m ([.ref (ad 11), .int a0] : List Value).toArray meth c A G K prog_12_method_4_code none 6 "LassoFinder$Truths") (K22 : Int32 → Int32 → Int32 → (Nat → Int32) → (Nat → Int64) → (Nat → Nat → Int32) → (Nat → Nat → Int64) → Prop) (kh22 : ∀ (x1 : Int32) (x2 : Int32) (x3 : Int32) (I : Nat → Int32) (J : Nat → Int64) (B : Nat → Nat → Int32) (D : Nat → Nat → Int64) (ls : Array Slot) (H : Heap) (locs : List Loc), K22 x1 x2 x3 I J B D → lv_has ls 6 [(0, .ref (ad 11)), (1, .int x1), (2, .int x2), (3, .int x3)] → zW G A s.heap (wX ad K sv I J B D) H locs → W p l e { frames := 4, cells := 1, slots := 6, locals := 93 } s m ([.ref (ad 11), .int a0] : List Value).toArray below meth c H locs 0 0 (zyMQ below (va_Qv (fun u : zS => Post u.1 u.2.1 u.2.2.1 u.2.2.2) (fun u t => zPost G K A (wX ad K sv u.1 u.2.1 u.2.2.1 u.2.2.2) t) A) (zYC (fun E (u : zS) => PX E u.1 u.2.1 u.2.2.1 u.2.2.2) (fun u => wX ad K sv u.1 u.2.1 u.2.2.1 u.2.2.2) G K A) ([.ref (ad 11), .int a0] : List Value).toArray s 1 6 A) (F0 m 22 ls [])) : ∀ (x1 : Int32) (x2 : Int32) (x3 : Int32) (y0 : Int32) (y1 : Int32) (I : Nat → Int32) (J : Nat → Int64) (B : Nat → Nat → Int32) (D : Nat → Nat → Int64) (ls : Array Slot) (H : Heap) (locs : List Loc), wc_Truths_fillSettled_106 a0 K22 Post PX x1 x2 x3 y0 y1 I J B D → lv_has ls 6 [(0, .ref (ad 11)), (1, .int x1), (2, .int x2), (3, .int x3)] → zW G A s.heap (wX ad K sv I J B D) H locs → W p l e { frames := 4, cells := 1, slots := 6, locals := 93 } s m ([.ref (ad 11), .int a0] : List Value).toArray below meth c H locs 0 0 (zyMQ below (va_Qv (fun u : zS => Post u.1 u.2.1 u.2.2.1 u.2.2.2) (fun u t => zPost G K A (wX ad K sv u.1 u.2.1 u.2.2.1 u.2.2.2) t) A) (zYC (fun E (u : zS) => PX E u.1 u.2.1 u.2.2.1 u.2.2.2) (fun u => wX ad K sv u.1 u.2.1 u.2.2.1 u.2.2.2) G K A) ([.ref (ad 11), .int a0] : List Value).toArray s 1 6 A) (F0 m 106 ls [.int y0, .int y1, .ref (ad 64)]) := by
  obtain ⟨hx, hb, hr, hml, hts, hown, hlocks, hA, hK, hT, hnt, hlt⟩ := id C
  intro x1 x2 x3 y0 y1 I J B D ls H locs hok hl hw
  unfold wc_Truths_fillSettled_106 at hok
  refine va_zast (f := (B 49)) hx hb hK hw.1 hw.2.1 hw.2.2 64 2 wX_a64 rfl hok.1 zd_Truths_fillSettled_106 (fun H locs w91 w92 w93 => ?_)
  have hok := hok.2
  have hw := wX_t64 ⟨w91, w92, w93⟩
  obtain ⟨z1, ez1⟩ : ∃ z : Int32, z = (x3 + 1) := ⟨_, rfl⟩
  have hok := hok z1 ez1
  refine lv_iinc (v := z1) hx hb zd_Truths_fillSettled_107 hl (k := 3) rfl ez1.symm (by decide) rfl (fun ls hl => ?_)
  have hl : lv_has ls 6 [(3, .int z1), (0, .ref (ad 11)), (1, .int x1), (2, .int x2)] := hl
  refine lv_goto (tgt := 22) hx hb zd_Truths_fillSettled_110 (by decide) ?_
  exact kh22 x1 x2 z1 I J (va_up B 49 (upd (B 49) y1.toNatClampNeg (vp_nar .boolean y0))) D ls H locs hok (lv_sub hl [1, 2, 3, 0] rfl) hw
set_option maxHeartbeats 8000000 in
set_option maxRecDepth 100000 in
theorem wB_Truths_fillSettled_34 {p : Program} {l : Launch} {e : Env} {s : State} {m : MethodId} {below : List Frame} {meth : Method} {c : Code} {A : Nat → Prop} (G : va_G) (K : Nat → ClassId) (ad : Nat → Nat) (sv : Value) (a0 : Int32) (Post : (Nat → Int32) → (Nat → Int64) → (Nat → Nat → Int32) → (Nat → Nat → Int64) → Prop) (PX : String → (Nat → Int32) → (Nat → Int64) → (Nat → Nat → Int32) → (Nat → Nat → Int64) → Prop) (C : zCy p l s m ([.ref (ad 11), .int a0] : List Value).toArray meth c A G K prog_12_method_4_code none 6 "LassoFinder$Truths") (K22 : Int32 → Int32 → Int32 → (Nat → Int32) → (Nat → Int64) → (Nat → Nat → Int32) → (Nat → Nat → Int64) → Prop) (kh22 : ∀ (x1 : Int32) (x2 : Int32) (x3 : Int32) (I : Nat → Int32) (J : Nat → Int64) (B : Nat → Nat → Int32) (D : Nat → Nat → Int64) (ls : Array Slot) (H : Heap) (locs : List Loc), K22 x1 x2 x3 I J B D → lv_has ls 6 [(0, .ref (ad 11)), (1, .int x1), (2, .int x2), (3, .int x3)] → zW G A s.heap (wX ad K sv I J B D) H locs → W p l e { frames := 4, cells := 1, slots := 6, locals := 93 } s m ([.ref (ad 11), .int a0] : List Value).toArray below meth c H locs 0 0 (zyMQ below (va_Qv (fun u : zS => Post u.1 u.2.1 u.2.2.1 u.2.2.2) (fun u t => zPost G K A (wX ad K sv u.1 u.2.1 u.2.2.1 u.2.2.2) t) A) (zYC (fun E (u : zS) => PX E u.1 u.2.1 u.2.2.1 u.2.2.2) (fun u => wX ad K sv u.1 u.2.1 u.2.2.1 u.2.2.2) G K A) ([.ref (ad 11), .int a0] : List Value).toArray s 1 6 A) (F0 m 22 ls [])) (K34 : Int32 → Int32 → Int32 → Int32 → Int32 → (Nat → Int32) → (Nat → Int64) → (Nat → Nat → Int32) → (Nat → Nat → Int64) → Prop) (kh34 : ∀ (x1 : Int32) (x2 : Int32) (x3 : Int32) (x4 : Int32) (x5 : Int32) (I : Nat → Int32) (J : Nat → Int64) (B : Nat → Nat → Int32) (D : Nat → Nat → Int64) (ls : Array Slot) (H : Heap) (locs : List Loc), K34 x1 x2 x3 x4 x5 I J B D → lv_has ls 6 [(0, .ref (ad 11)), (1, .int x1), (2, .int x2), (3, .int x3), (4, .int x4), (5, .int x5)] → zW G A s.heap (wX ad K sv I J B D) H locs → W p l e { frames := 4, cells := 1, slots := 6, locals := 93 } s m ([.ref (ad 11), .int a0] : List Value).toArray below meth c H locs 0 0 (zyMQ below (va_Qv (fun u : zS => Post u.1 u.2.1 u.2.2.1 u.2.2.2) (fun u t => zPost G K A (wX ad K sv u.1 u.2.1 u.2.2.1 u.2.2.2) t) A) (zYC (fun E (u : zS) => PX E u.1 u.2.1 u.2.2.1 u.2.2.2) (fun u => wX ad K sv u.1 u.2.1 u.2.2.1 u.2.2.2) G K A) ([.ref (ad 11), .int a0] : List Value).toArray s 1 6 A) (F0 m 34 ls [])) : ∀ (x1 : Int32) (x2 : Int32) (x3 : Int32) (x4 : Int32) (x5 : Int32) (I : Nat → Int32) (J : Nat → Int64) (B : Nat → Nat → Int32) (D : Nat → Nat → Int64) (ls : Array Slot) (H : Heap) (locs : List Loc), wb_Truths_fillSettled_34 a0 K34 K22 Post PX x1 x2 x3 x4 x5 I J B D → lv_has ls 6 [(0, .ref (ad 11)), (1, .int x1), (2, .int x2), (3, .int x3), (4, .int x4), (5, .int x5)] → zW G A s.heap (wX ad K sv I J B D) H locs → W p l e { frames := 4, cells := 1, slots := 6, locals := 93 } s m ([.ref (ad 11), .int a0] : List Value).toArray below meth c H locs 0 0 (zyMQ below (va_Qv (fun u : zS => Post u.1 u.2.1 u.2.2.1 u.2.2.2) (fun u t => zPost G K A (wX ad K sv u.1 u.2.1 u.2.2.1 u.2.2.2) t) A) (zYC (fun E (u : zS) => PX E u.1 u.2.1 u.2.2.1 u.2.2.2) (fun u => wX ad K sv u.1 u.2.1 u.2.2.1 u.2.2.2) G K A) ([.ref (ad 11), .int a0] : List Value).toArray s 1 6 A) (F0 m 34 ls []) := by
  obtain ⟨hx, hb, hr, hml, hts, hown, hlocks, hA, hK, hT, hnt, hlt⟩ := id C
  intro x1 x2 x3 x4 x5 I J B D ls H locs hok hl hw
  unfold wb_Truths_fillSettled_34 at hok
  refine lv_iload hx hb zd_Truths_fillSettled_34 (lv_at hl 5 rfl) ?_
  refine lv_aload_n hx hb zd_Truths_fillSettled_36 rfl (lv_at hl 0 rfl) ?_
  refine z_get (v := .ref (ad 9)) hx hb hts hown hK hw zZ11 11 wX_g11 2 (by decide) zn_526 rfl zd_Truths_fillSettled_37 ?_
  refine z_get (v := .int (I 21)) hx hb hts hown hK hw zZ1 9 wX_g9 7 (by decide) zn_527 rfl zd_Truths_fillSettled_40 ?_
  refine lv_icmp_ge (tgt := 70) hx hb zd_Truths_fillSettled_43 (by decide) (fun hc2 => ?_) (fun hc2 => ?_)
  · have hok := hok.1 hc2
    refine lv_aload_n hx hb zd_Truths_fillSettled_70 rfl (lv_at hl 0 rfl) ?_
    refine z_get (v := .ref (ad 63)) hx hb hts hown hK hw zZ11 11 wX_g11 5 (by decide) zn_283 rfl zd_Truths_fillSettled_71 ?_
    refine lv_iload_n hx hb zd_Truths_fillSettled_74 rfl (lv_at hl 1 rfl) ?_
    refine lv_bipush (v := 8) hx hb zd_Truths_fillSettled_75 (by decide) ?_
    refine lv_imul hx hb zd_Truths_fillSettled_77 ?_
    refine lv_topi (fun z3 ez3 => ?_)
    have hok := hok z3 ez3
    refine lv_iload_n hx hb zd_Truths_fillSettled_78 rfl (lv_at hl 3 rfl) ?_
    refine lv_iadd hx hb zd_Truths_fillSettled_79 ?_
    refine lv_topi (fun z4 ez4 => ?_)
    have hok := hok z4 ez4
    refine lv_iload hx hb zd_Truths_fillSettled_80 (lv_at hl 4 rfl) ?_
    refine va_iast (f := (B 48)) hx hb hK hw.1 hw.2.1 hw.2.2 63 0 wX_a63 rfl hok.1 zd_Truths_fillSettled_82 (fun H locs w91 w92 w93 => ?_)
    have hok := hok.2
    have hw := wX_t63 ⟨w91, w92, w93⟩
    refine lv_aload_n hx hb zd_Truths_fillSettled_83 rfl (lv_at hl 0 rfl) ?_
    refine z_get (v := .ref (ad 64)) hx hb hts hown hK hw zZ11 11 wX_g11 6 (by decide) zn_284 rfl zd_Truths_fillSettled_84 ?_
    refine lv_iload_n hx hb zd_Truths_fillSettled_87 rfl (lv_at hl 1 rfl) ?_
    refine lv_bipush (v := 8) hx hb zd_Truths_fillSettled_88 (by decide) ?_
    refine lv_imul hx hb zd_Truths_fillSettled_90 ?_
    refine lv_topi (fun z5 ez5 => ?_)
    have hok := hok z5 ez5
    refine lv_iload_n hx hb zd_Truths_fillSettled_91 rfl (lv_at hl 3 rfl) ?_
    refine lv_iadd hx hb zd_Truths_fillSettled_92 ?_
    refine lv_topi (fun z6 ez6 => ?_)
    have hok := hok z6 ez6
    refine lv_iload_n hx hb zd_Truths_fillSettled_93 rfl (lv_at hl 2 rfl) ?_
    refine lv_iload_n hx hb zd_Truths_fillSettled_94 rfl (lv_at hl 3 rfl) ?_
    refine lv_ishr hx hb zd_Truths_fillSettled_95 ?_
    refine lv_topi (fun z7 ez7 => ?_)
    have hok := hok z7 ez7
    refine lv_iconst (v := 1) hx hb zd_Truths_fillSettled_96 (by decide) ?_
    refine lv_iand hx hb zd_Truths_fillSettled_97 ?_
    refine lv_topi (fun z8 ez8 => ?_)
    have hok := hok z8 ez8
    refine lv_if_eq (tgt := 105) hx hb zd_Truths_fillSettled_98 (by decide) (fun hc9 => ?_) (fun hc9 => ?_)
    · have hok := hok.1 hc9
      refine lv_iconst (v := 0) hx hb zd_Truths_fillSettled_105 (by decide) ?_
      exact wJ_Truths_fillSettled_106 G K ad sv a0 Post PX C K22 kh22 x1 x2 x3 0 z6 I J (va_up B 48 (upd (B 48) z4.toNatClampNeg x4)) D ls H locs hok (lv_sub hl [0, 1, 2, 3] rfl) hw
    · have hok := hok.2 hc9
      refine lv_iconst (v := 1) hx hb zd_Truths_fillSettled_101 (by decide) ?_
      refine lv_goto (tgt := 106) hx hb zd_Truths_fillSettled_102 (by decide) ?_
      exact wJ_Truths_fillSettled_106 G K ad sv a0 Post PX C K22 kh22 x1 x2 x3 1 z6 I J (va_up B 48 (upd (B 48) z4.toNatClampNeg x4)) D ls H locs hok (lv_sub hl [0, 1, 2, 3] rfl) hw
  · have hok := hok.2 hc2
    refine lv_iload hx hb zd_Truths_fillSettled_46 (lv_at hl 4 rfl) ?_
    refine lv_aload_n hx hb zd_Truths_fillSettled_48 rfl (lv_at hl 0 rfl) ?_
    refine lv_iload hx hb zd_Truths_fillSettled_49 (lv_at hl 5 rfl) ?_
    refine z_yV (q0 := 11) (wc := (wX ad K sv I J B D)) (wr := []) (w1 := fun (u : zS) => wX ad K sv u.1 u.2.1 u.2.2.1 u.2.2.2) (As := [.int x5]) (rest := [.int x4]) ⟨hx, hb, hml, hown, hts⟩ (w_Truths_settledFor l hlt G K ad sv I J B D x5 _ _ H.size hok) zf_Truths_settledFor zn_513 ⟨Nat.le_of_ble_eq_true rfl, Nat.le_of_ble_eq_true rfl⟩ hK hT hw hA (List.range 65) [] wX_all rfl wX_nd (by decide) (fun i hi => by cases hi) wX_g11 rfl rfl hl.1 rfl (Nat.le_of_ble_eq_true rfl) zd_Truths_fillSettled_51 ⟨Nat.le_of_ble_eq_true rfl, Nat.le_of_ble_eq_true rfl⟩ (fun v st9 t9 L9 h0 hq hL => ?_) (fun E ce q9 u H locs hu hw hce hcv hcl => z_yout (u := u) hnt hlocks hce hcv hcl hw (List.range 65) wX_all wX_nd hu (Nat.le_of_ble_eq_true rfl) (Nat.le_of_ble_eq_true rfl))
    obtain ⟨⟨r10, u, hv9, hok, hB9⟩, hF9⟩ := hq
    cases hv9
    have hw := z_back (wr := []) hw hA (List.range 65) [] wX_all rfl (by decide) (fun i hi => by cases hi) h0 hL hB9 hF9
    obtain ⟨I10, J10, B10, D10⟩ := u
    dsimp only at hok
    generalize t9.heap = H at hw ⊢
    generalize locs ++ L9 = locs at hw ⊢
    have hw : zW G A s.heap (wX ad K sv I10 J10 B10 D10) H locs := hw
    refine W.eq (g2 := F0 m 54 ls [.int r10, .int x4]) rfl ?_
    refine lv_iload_n hx hb zd_Truths_fillSettled_54 rfl (lv_at hl 3 rfl) ?_
    refine lv_ishr hx hb zd_Truths_fillSettled_55 ?_
    refine lv_topi (fun z11 ez11 => ?_)
    have hok := hok z11 ez11
    refine lv_iconst (v := 1) hx hb zd_Truths_fillSettled_56 (by decide) ?_
    refine lv_iand hx hb zd_Truths_fillSettled_57 ?_
    refine lv_topi (fun z12 ez12 => ?_)
    have hok := hok z12 ez12
    refine lv_iload hx hb zd_Truths_fillSettled_58 (lv_at hl 5 rfl) ?_
    refine lv_ishl hx hb zd_Truths_fillSettled_60 ?_
    refine lv_topi (fun z13 ez13 => ?_)
    have hok := hok z13 ez13
    refine lv_ior hx hb zd_Truths_fillSettled_61 ?_
    refine lv_topi (fun z14 ez14 => ?_)
    have hok := hok z14 ez14
    refine lv_istore hx hb zd_Truths_fillSettled_62 hl (by decide) rfl (fun ls hl => ?_)
    have hl : lv_has ls 6 [(4, .int z14), (0, .ref (ad 11)), (1, .int x1), (2, .int x2), (3, .int x3), (5, .int x5)] := hl
    obtain ⟨z15, ez15⟩ : ∃ z : Int32, z = (x5 + 1) := ⟨_, rfl⟩
    have hok := hok z15 ez15
    refine lv_iinc (v := z15) hx hb zd_Truths_fillSettled_64 hl (k := 5) rfl ez15.symm (by decide) rfl (fun ls hl => ?_)
    have hl : lv_has ls 6 [(5, .int z15), (4, .int z14), (0, .ref (ad 11)), (1, .int x1), (2, .int x2), (3, .int x3)] := hl
    refine lv_goto (tgt := 34) hx hb zd_Truths_fillSettled_67 (by decide) ?_
    exact kh34 x1 x2 x3 z14 z15 I10 J10 B10 D10 ls H locs hok (lv_sub hl [2, 3, 4, 5, 1, 0] rfl) hw
theorem wL_Truths_fillSettled_34 {p : Program} {l : Launch} {e : Env} {s : State} {m : MethodId} {below : List Frame} {meth : Method} {c : Code} {A : Nat → Prop} (G : va_G) (K : Nat → ClassId) (ad : Nat → Nat) (sv : Value) (a0 : Int32) (Post : (Nat → Int32) → (Nat → Int64) → (Nat → Nat → Int32) → (Nat → Nat → Int64) → Prop) (PX : String → (Nat → Int32) → (Nat → Int64) → (Nat → Nat → Int32) → (Nat → Nat → Int64) → Prop) (C : zCy p l s m ([.ref (ad 11), .int a0] : List Value).toArray meth c A G K prog_12_method_4_code none 6 "LassoFinder$Truths") (K22 : Int32 → Int32 → Int32 → (Nat → Int32) → (Nat → Int64) → (Nat → Nat → Int32) → (Nat → Nat → Int64) → Prop) (kh22 : ∀ (x1 : Int32) (x2 : Int32) (x3 : Int32) (I : Nat → Int32) (J : Nat → Int64) (B : Nat → Nat → Int32) (D : Nat → Nat → Int64) (ls : Array Slot) (H : Heap) (locs : List Loc), K22 x1 x2 x3 I J B D → lv_has ls 6 [(0, .ref (ad 11)), (1, .int x1), (2, .int x2), (3, .int x3)] → zW G A s.heap (wX ad K sv I J B D) H locs → W p l e { frames := 4, cells := 1, slots := 6, locals := 93 } s m ([.ref (ad 11), .int a0] : List Value).toArray below meth c H locs 0 0 (zyMQ below (va_Qv (fun u : zS => Post u.1 u.2.1 u.2.2.1 u.2.2.2) (fun u t => zPost G K A (wX ad K sv u.1 u.2.1 u.2.2.1 u.2.2.2) t) A) (zYC (fun E (u : zS) => PX E u.1 u.2.1 u.2.2.1 u.2.2.2) (fun u => wX ad K sv u.1 u.2.1 u.2.2.1 u.2.2.2) G K A) ([.ref (ad 11), .int a0] : List Value).toArray s 1 6 A) (F0 m 22 ls [])) : ∀ (n : Nat) (x1 : Int32) (x2 : Int32) (x3 : Int32) (x4 : Int32) (x5 : Int32) (I : Nat → Int32) (J : Nat → Int64) (B : Nat → Nat → Int32) (D : Nat → Nat → Int64) (ls : Array Slot) (H : Heap) (locs : List Loc), wl_Truths_fillSettled_34 a0 K22 Post PX n x1 x2 x3 x4 x5 I J B D → lv_has ls 6 [(0, .ref (ad 11)), (1, .int x1), (2, .int x2), (3, .int x3), (4, .int x4), (5, .int x5)] → zW G A s.heap (wX ad K sv I J B D) H locs → W p l e { frames := 4, cells := 1, slots := 6, locals := 93 } s m ([.ref (ad 11), .int a0] : List Value).toArray below meth c H locs 0 0 (zyMQ below (va_Qv (fun u : zS => Post u.1 u.2.1 u.2.2.1 u.2.2.2) (fun u t => zPost G K A (wX ad K sv u.1 u.2.1 u.2.2.1 u.2.2.2) t) A) (zYC (fun E (u : zS) => PX E u.1 u.2.1 u.2.2.1 u.2.2.2) (fun u => wX ad K sv u.1 u.2.1 u.2.2.1 u.2.2.2) G K A) ([.ref (ad 11), .int a0] : List Value).toArray s 1 6 A) (F0 m 34 ls []) := by
  intro n
  induction n with
  | zero => intro x1 x2 x3 x4 x5 I J B D ls H locs hok; exact hok.elim
  | succ n ih => exact wB_Truths_fillSettled_34 G K ad sv a0 Post PX C K22 kh22 (wl_Truths_fillSettled_34 a0 K22 Post PX n) ih
set_option maxHeartbeats 8000000 in
set_option maxRecDepth 100000 in
theorem wB_Truths_fillSettled_22 {p : Program} {l : Launch} {e : Env} {s : State} {m : MethodId} {below : List Frame} {meth : Method} {c : Code} {A : Nat → Prop} (G : va_G) (K : Nat → ClassId) (ad : Nat → Nat) (sv : Value) (a0 : Int32) (Post : (Nat → Int32) → (Nat → Int64) → (Nat → Nat → Int32) → (Nat → Nat → Int64) → Prop) (PX : String → (Nat → Int32) → (Nat → Int64) → (Nat → Nat → Int32) → (Nat → Nat → Int64) → Prop) (C : zCy p l s m ([.ref (ad 11), .int a0] : List Value).toArray meth c A G K prog_12_method_4_code none 6 "LassoFinder$Truths") (K22 : Int32 → Int32 → Int32 → (Nat → Int32) → (Nat → Int64) → (Nat → Nat → Int32) → (Nat → Nat → Int64) → Prop) (kh22 : ∀ (x1 : Int32) (x2 : Int32) (x3 : Int32) (I : Nat → Int32) (J : Nat → Int64) (B : Nat → Nat → Int32) (D : Nat → Nat → Int64) (ls : Array Slot) (H : Heap) (locs : List Loc), K22 x1 x2 x3 I J B D → lv_has ls 6 [(0, .ref (ad 11)), (1, .int x1), (2, .int x2), (3, .int x3)] → zW G A s.heap (wX ad K sv I J B D) H locs → W p l e { frames := 4, cells := 1, slots := 6, locals := 93 } s m ([.ref (ad 11), .int a0] : List Value).toArray below meth c H locs 0 0 (zyMQ below (va_Qv (fun u : zS => Post u.1 u.2.1 u.2.2.1 u.2.2.2) (fun u t => zPost G K A (wX ad K sv u.1 u.2.1 u.2.2.1 u.2.2.2) t) A) (zYC (fun E (u : zS) => PX E u.1 u.2.1 u.2.2.1 u.2.2.2) (fun u => wX ad K sv u.1 u.2.1 u.2.2.1 u.2.2.2) G K A) ([.ref (ad 11), .int a0] : List Value).toArray s 1 6 A) (F0 m 22 ls [])) : ∀ (x1 : Int32) (x2 : Int32) (x3 : Int32) (I : Nat → Int32) (J : Nat → Int64) (B : Nat → Nat → Int32) (D : Nat → Nat → Int64) (ls : Array Slot) (H : Heap) (locs : List Loc), wb_Truths_fillSettled_22 a0 K22 Post PX x1 x2 x3 I J B D → lv_has ls 6 [(0, .ref (ad 11)), (1, .int x1), (2, .int x2), (3, .int x3)] → zW G A s.heap (wX ad K sv I J B D) H locs → W p l e { frames := 4, cells := 1, slots := 6, locals := 93 } s m ([.ref (ad 11), .int a0] : List Value).toArray below meth c H locs 0 0 (zyMQ below (va_Qv (fun u : zS => Post u.1 u.2.1 u.2.2.1 u.2.2.2) (fun u t => zPost G K A (wX ad K sv u.1 u.2.1 u.2.2.1 u.2.2.2) t) A) (zYC (fun E (u : zS) => PX E u.1 u.2.1 u.2.2.1 u.2.2.2) (fun u => wX ad K sv u.1 u.2.1 u.2.2.1 u.2.2.2) G K A) ([.ref (ad 11), .int a0] : List Value).toArray s 1 6 A) (F0 m 22 ls []) := by
  obtain ⟨hx, hb, hr, hml, hts, hown, hlocks, hA, hK, hT, hnt, hlt⟩ := id C
  intro x1 x2 x3 I J B D ls H locs hok hl hw
  unfold wb_Truths_fillSettled_22 at hok
  refine lv_iload_n hx hb zd_Truths_fillSettled_22 rfl (lv_at hl 3 rfl) ?_
  refine lv_bipush (v := 8) hx hb zd_Truths_fillSettled_23 (by decide) ?_
  refine lv_icmp_ge (tgt := 113) hx hb zd_Truths_fillSettled_25 (by decide) (fun hc16 => ?_) (fun hc16 => ?_)
  · have hok := hok.1 hc16
    exact zy_ret (z_vret (u := (I, J, B, D)) hx hb hr hlocks hw (List.range 65) wX_all wX_nd hok (Nat.le_of_ble_eq_true rfl) (Nat.le_of_ble_eq_true rfl) zd_Truths_fillSettled_113)
  · have hok := hok.2 hc16
    refine lv_iconst (v := 0) hx hb zd_Truths_fillSettled_28 (by decide) ?_
    refine lv_istore hx hb zd_Truths_fillSettled_29 hl (by decide) rfl (fun ls hl => ?_)
    have hl : lv_has ls 6 [(4, .int 0), (0, .ref (ad 11)), (1, .int x1), (2, .int x2), (3, .int x3)] := hl
    refine lv_iconst (v := 0) hx hb zd_Truths_fillSettled_31 (by decide) ?_
    refine lv_istore hx hb zd_Truths_fillSettled_32 hl (by decide) rfl (fun ls hl => ?_)
    have hl : lv_has ls 6 [(5, .int 0), (4, .int 0), (0, .ref (ad 11)), (1, .int x1), (2, .int x2), (3, .int x3)] := hl
    obtain ⟨n9, hok⟩ := hok
    exact wL_Truths_fillSettled_34 G K ad sv a0 Post PX C K22 kh22 n9 x1 x2 x3 0 0 I J B D ls H locs hok (lv_sub hl [2, 3, 4, 5, 1, 0] rfl) hw
theorem wL_Truths_fillSettled_22 {p : Program} {l : Launch} {e : Env} {s : State} {m : MethodId} {below : List Frame} {meth : Method} {c : Code} {A : Nat → Prop} (G : va_G) (K : Nat → ClassId) (ad : Nat → Nat) (sv : Value) (a0 : Int32) (Post : (Nat → Int32) → (Nat → Int64) → (Nat → Nat → Int32) → (Nat → Nat → Int64) → Prop) (PX : String → (Nat → Int32) → (Nat → Int64) → (Nat → Nat → Int32) → (Nat → Nat → Int64) → Prop) (C : zCy p l s m ([.ref (ad 11), .int a0] : List Value).toArray meth c A G K prog_12_method_4_code none 6 "LassoFinder$Truths") : ∀ (n : Nat) (x1 : Int32) (x2 : Int32) (x3 : Int32) (I : Nat → Int32) (J : Nat → Int64) (B : Nat → Nat → Int32) (D : Nat → Nat → Int64) (ls : Array Slot) (H : Heap) (locs : List Loc), wl_Truths_fillSettled_22 a0 Post PX n x1 x2 x3 I J B D → lv_has ls 6 [(0, .ref (ad 11)), (1, .int x1), (2, .int x2), (3, .int x3)] → zW G A s.heap (wX ad K sv I J B D) H locs → W p l e { frames := 4, cells := 1, slots := 6, locals := 93 } s m ([.ref (ad 11), .int a0] : List Value).toArray below meth c H locs 0 0 (zyMQ below (va_Qv (fun u : zS => Post u.1 u.2.1 u.2.2.1 u.2.2.2) (fun u t => zPost G K A (wX ad K sv u.1 u.2.1 u.2.2.1 u.2.2.2) t) A) (zYC (fun E (u : zS) => PX E u.1 u.2.1 u.2.2.1 u.2.2.2) (fun u => wX ad K sv u.1 u.2.1 u.2.2.1 u.2.2.2) G K A) ([.ref (ad 11), .int a0] : List Value).toArray s 1 6 A) (F0 m 22 ls []) := by
  intro n
  induction n with
  | zero => intro x1 x2 x3 I J B D ls H locs hok; exact hok.elim
  | succ n ih => exact wB_Truths_fillSettled_22 G K ad sv a0 Post PX C (wl_Truths_fillSettled_22 a0 Post PX n) ih
set_option maxHeartbeats 8000000 in
set_option maxRecDepth 100000 in
theorem w_Truths_fillSettled (l : Launch) (hlt : l.stackTraces = false) (G : va_G) (K : Nat → ClassId) (ad : Nat → Nat) (sv : Value) (I : Nat → Int32) (J : Nat → Int64) (B : Nat → Nat → Int32) (D : Nat → Nat → Int64) (a0 : Int32) (Post : (Nat → Int32) → (Nat → Int64) → (Nat → Nat → Int32) → (Nat → Nat → Int64) → Prop) (PX : String → (Nat → Int32) → (Nat → Int64) → (Nat → Nat → Int32) → (Nat → Nat → Int64) → Prop) (sz : Nat) (hok : wp_Truths_fillSettled I J B D a0 Post PX) : zyMet l zy_Truths_fillSettled (Cond.code zy_Truths_fillSettled prog_12_method_4_code 6 none :: zTB) { frames := 4, cells := 1, slots := 6, locals := 93 } (va_Pc [.ref (ad 11), .int a0] (zPreY G K (wX ad K sv I J B D) sz)) (va_Qv (fun u : zS => Post u.1 u.2.1 u.2.2.1 u.2.2.2) (fun u t => zPost G K (va_A (wX ad K sv I J B D) sz) (wX ad K sv u.1 u.2.1 u.2.2.1 u.2.2.2) t) (va_A (wX ad K sv I J B D) sz)) (zYC (fun E (u : zS) => PX E u.1 u.2.1 u.2.2.1 u.2.2.2) (fun u => wX ad K sv u.1 u.2.1 u.2.2.1 u.2.2.2) G K (va_A (wX ad K sv I J B D) sz)) 1 6 (va_A (wX ad K sv I J B D) sz) := by
  refine zMetY (y := zy_Truths_fillSettled) (av := [.ref (ad 11), .int a0]) (maxL := 6) (cc := prog_12_method_4_code) (ret := none) (W0 := (wX ad K sv I J B D)) (sz := sz) (G := G) (K := K) (wt := zTB) (mc := 1) (ms := 6) (Qf := fun A => va_Qv (fun u : zS => Post u.1 u.2.1 u.2.2.1 u.2.2.2) (fun u t => zPost G K A (wX ad K sv u.1 u.2.1 u.2.2.1 u.2.2.2) t) A) (Xf := fun A => (zYC (fun E (u : zS) => PX E u.1 u.2.1 u.2.2.1 u.2.2.2) (fun u => wX ad K sv u.1 u.2.1 u.2.2.1 u.2.2.2) G K A)) (by decide) (Nat.le_of_ble_eq_true rfl) ?_
  intro p e s m below meth c ls A hx hb hr hml hts hown hlocks hin hA hK H locs hw hsz hl hT hnt
  clear hsz
  have hown : s.vm.findClass "LassoFinder$Truths" = some m.cls := hown
  have C : zCy p l s m ([.ref (ad 11), .int a0] : List Value).toArray meth c A G K prog_12_method_4_code none 6 "LassoFinder$Truths" := ⟨hx, hb, hr, hml, hts, hown, hlocks, hA, hK, hT, hnt, hlt⟩
  have hl : lv_has ls 6 [(0, .ref (ad 11)), (1, .int a0)] := hl
  have hw : zW G A s.heap (wX ad K sv I J B D) H locs := hw
  unfold wp_Truths_fillSettled at hok
  refine lv_aload_n hx hb zd_Truths_fillSettled_0 rfl (lv_at hl 0 rfl) ?_
  refine lv_iconst (v := 0) hx hb zd_Truths_fillSettled_1 (by decide) ?_
  refine z_yV (q0 := 11) (wc := (wX ad K sv I J B D)) (wr := []) (w1 := fun (u : zS) => wX ad K sv u.1 u.2.1 u.2.2.1 u.2.2.2) (As := [.int 0]) (rest := []) ⟨hx, hb, hml, hown, hts⟩ (w_Truths_reckonParts l hlt G K ad sv I J B D 0 _ _ H.size hok) zf_Truths_reckonParts zn_507 ⟨Nat.le_of_ble_eq_true rfl, Nat.le_of_ble_eq_true rfl⟩ hK hT hw hA (List.range 65) [] wX_all rfl wX_nd (by decide) (fun i hi => by cases hi) wX_g11 rfl rfl hl.1 rfl (Nat.le_of_ble_eq_true rfl) zd_Truths_fillSettled_2 ⟨Nat.le_of_ble_eq_true rfl, Nat.le_of_ble_eq_true rfl⟩ (fun v st9 t9 L9 h0 hq hL => ?_) (fun E ce q9 u H locs hu hw hce hcv hcl => z_yout (u := u) hnt hlocks hce hcv hcl hw (List.range 65) wX_all wX_nd hu (Nat.le_of_ble_eq_true rfl) (Nat.le_of_ble_eq_true rfl))
  obtain ⟨⟨u, hv9, hok, hB9⟩, hF9⟩ := hq
  cases hv9
  have hw := z_back (wr := []) hw hA (List.range 65) [] wX_all rfl (by decide) (fun i hi => by cases hi) h0 hL hB9 hF9
  obtain ⟨I17, J17, B17, D17⟩ := u
  dsimp only at hok
  generalize t9.heap = H at hw ⊢
  generalize locs ++ L9 = locs at hw ⊢
  have hw : zW G A s.heap (wX ad K sv I17 J17 B17 D17) H locs := hw
  refine W.eq (g2 := F0 m 5 ls []) rfl ?_
  refine lv_aload_n hx hb zd_Truths_fillSettled_5 rfl (lv_at hl 0 rfl) ?_
  refine z_get (v := .ref (ad 61)) hx hb hts hown hK hw zZ11 11 wX_g11 3 (by decide) zn_281 rfl zd_Truths_fillSettled_6 ?_
  refine lv_aload_n hx hb zd_Truths_fillSettled_9 rfl (lv_at hl 0 rfl) ?_
  refine z_get (v := .ref (ad 9)) hx hb hts hown hK hw zZ11 11 wX_g11 2 (by decide) zn_526 rfl zd_Truths_fillSettled_10 ?_
  refine z_get (v := .int (I17 22)) hx hb hts hown hK hw zZ1 9 wX_g9 8 (by decide) zn_535 rfl zd_Truths_fillSettled_13 ?_
  refine lv_iconst (v := 1) hx hb zd_Truths_fillSettled_16 (by decide) ?_
  refine lv_isub hx hb zd_Truths_fillSettled_17 ?_
  refine lv_topi (fun z18 ez18 => ?_)
  have hok := hok z18 ez18
  refine va_iald (f := (B17 46)) hx hb hK hw.1 61 0 wX_a61 rfl hok.1 zd_Truths_fillSettled_18 ?_
  have hok := hok.2
  refine lv_topi (fun z19 ez19 => ?_)
  have hok := hok z19 ez19
  refine lv_istore_n hx hb zd_Truths_fillSettled_19 rfl hl (by decide) rfl (fun ls hl => ?_)
  have hl : lv_has ls 6 [(2, .int z19), (0, .ref (ad 11)), (1, .int a0)] := hl
  refine lv_iconst (v := 0) hx hb zd_Truths_fillSettled_20 (by decide) ?_
  refine lv_istore_n hx hb zd_Truths_fillSettled_21 rfl hl (by decide) rfl (fun ls hl => ?_)
  have hl : lv_has ls 6 [(3, .int 0), (2, .int z19), (0, .ref (ad 11)), (1, .int a0)] := hl
  obtain ⟨n9, hok⟩ := hok
  exact wL_Truths_fillSettled_22 G K ad sv a0 Post PX C n9 a0 z19 0 I17 J17 B17 D17 ls H locs hok (lv_sub hl [2, 3, 1, 0] rfl) hw
