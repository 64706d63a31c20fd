abbrev zy_Formula_readAll : MethodName := ⟨"LassoFinder$Formula", "readAll", "()V"⟩
theorem zn_485 : Cond.methodLink "LassoFinder$Formula" 43 ⟨"LassoFinder$Terms", "clear", "()V"⟩ ∈ zTB := z_in (zt_5 _ (List.mem_of_getElem? (i := 27) rfl)) rfl
theorem zn_486 : Cond.methodLink "LassoFinder$Formula" 59 ⟨"LassoFinder$Formula", "readFrom", "(II)I"⟩ ∈ zTB := z_in (zt_5 _ (List.mem_of_getElem? (i := 28) rfl)) rfl
theorem zn_493 : Cond.methodLink "LassoFinder$Formula" 96 ⟨"LassoFinder$Formula", "meetTemporal", "(I)V"⟩ ∈ zTB := z_in (zt_5 _ (List.mem_of_getElem? (i := 47) rfl)) rfl
theorem zn_494 : Cond.methodLink "LassoFinder$Formula" 99 ⟨"LassoFinder$Formula", "addTemporal", "(III)I"⟩ ∈ zTB := z_in (zt_5 _ (List.mem_of_getElem? (i := 51) rfl)) rfl
theorem zn_495 : Cond.methodLink "LassoFinder$Formula" 105 ⟨"LassoFinder$Formula", "readBracketed", "(I)I"⟩ ∈ zTB := z_in (zt_5 _ (List.mem_of_getElem? (i := 55) rfl)) rfl
theorem zn_497 : Cond.methodLink "LassoFinder$Formula" 108 ⟨"LassoFinder$Formula", "readAtom", "()I"⟩ ∈ zTB := z_in (zt_5 _ (List.mem_of_getElem? (i := 60) rfl)) rfl
theorem zn_503 : Cond.methodLink "LassoFinder$Formula" 63 ⟨"LassoFinder$Text", "ended", "()Z"⟩ ∈ zTB := z_in (zt_5 _ (List.mem_of_getElem? (i := 76) rfl)) rfl
theorem zn_793 : Cond.code ⟨"LassoFinder$Formula", "readBracketed", "(I)I"⟩ prog_2_method_8_code 3 (some .int) ∈ zTB := z_in (zt_5 _ (List.mem_of_getElem? (i := 58) rfl)) rfl
theorem zn_794 : Cond.instanceMethod ⟨"LassoFinder$Formula", "readBracketed", "(I)I"⟩ ∈ zTB := z_in (zt_5 _ (List.mem_of_getElem? (i := 57) rfl)) rfl
theorem zn_795 : Cond.code ⟨"LassoFinder$Formula", "meetTemporal", "(I)V"⟩ prog_2_method_11_code 2 none ∈ zTB := z_in (zt_5 _ (List.mem_of_getElem? (i := 50) rfl)) rfl
theorem zn_796 : Cond.instanceMethod ⟨"LassoFinder$Formula", "meetTemporal", "(I)V"⟩ ∈ zTB := z_in (zt_5 _ (List.mem_of_getElem? (i := 49) rfl)) rfl
theorem zn_797 : Cond.code ⟨"LassoFinder$Formula", "addTemporal", "(III)I"⟩ prog_2_method_12_code 5 (some .int) ∈ zTB := z_in (zt_5 _ (List.mem_of_getElem? (i := 54) rfl)) rfl
theorem zn_798 : Cond.instanceMethod ⟨"LassoFinder$Formula", "addTemporal", "(III)I"⟩ ∈ zTB := z_in (zt_5 _ (List.mem_of_getElem? (i := 53) rfl)) rfl
theorem zn_799 : Cond.code ⟨"LassoFinder$Formula", "readAtom", "()I"⟩ prog_2_method_9_code 5 (some .int) ∈ zTB := z_in (zt_5 _ (List.mem_of_getElem? (i := 63) rfl)) rfl
theorem zn_800 : Cond.instanceMethod ⟨"LassoFinder$Formula", "readAtom", "()I"⟩ ∈ zTB := z_in (zt_5 _ (List.mem_of_getElem? (i := 62) rfl)) rfl
theorem zn_801 : Cond.code ⟨"LassoFinder$Formula", "readFrom", "(II)I"⟩ prog_2_method_3_code 6 (some .int) ∈ zTB := z_in (zt_5 _ (List.mem_of_getElem? (i := 31) rfl)) rfl
theorem zn_802 : Cond.instanceMethod ⟨"LassoFinder$Formula", "readFrom", "(II)I"⟩ ∈ zTB := z_in (zt_5 _ (List.mem_of_getElem? (i := 30) rfl)) rfl
theorem zf_Formula_readBracketed : zFaceV zy_Formula_readBracketed prog_2_method_8_code 3 (some .int) 1 := ⟨zn_794, (z_in (zp_3 _ (List.mem_of_getElem? (i := 11) rfl)) rfl), zm_3, zn_793, by decide +kernel, by decide +kernel, by decide +kernel⟩
theorem zf_Formula_meetTemporal : zFaceV zy_Formula_meetTemporal prog_2_method_11_code 2 none 1 := ⟨zn_796, (z_in (zp_3 _ (List.mem_of_getElem? (i := 9) rfl)) rfl), zm_3, zn_795, by decide +kernel, by decide +kernel, by decide +kernel⟩
theorem zf_Formula_addTemporal : zFaceV zy_Formula_addTemporal prog_2_method_12_code 5 (some .int) 3 := ⟨zn_798, (z_in (zp_3 _ (List.mem_of_getElem? (i := 10) rfl)) rfl), zm_3, zn_797, by decide +kernel, by decide +kernel, by decide +kernel⟩
theorem zf_Formula_readAtom : zFaceV zy_Formula_readAtom prog_2_method_9_code 5 (some .int) 0 := ⟨zn_800, (z_in (zp_3 _ (List.mem_of_getElem? (i := 12) rfl)) rfl), zm_3, zn_799, by decide +kernel, by decide +kernel, by decide +kernel⟩
theorem zf_Formula_readFrom : zFaceV zy_Formula_readFrom prog_2_method_3_code 6 (some .int) 2 := ⟨zn_802, (z_in (zp_3 _ (List.mem_of_getElem? (i := 5) rfl)) rfl), zm_3, zn_801, by decide +kernel, by decide +kernel, by decide +kernel⟩
theorem zd_Formula_readAll_0 : decode prog_2_method_2_code 0 = .ok (.aload_n 0, 1) := by decide +kernel
theorem zd_Formula_readAll_1 : decode prog_2_method_2_code 1 = .ok (.getfield 24, 3) := by decide +kernel
theorem zd_Formula_readAll_4 : decode prog_2_method_2_code 4 = .ok (.invokevirtual 43, 3) := by decide +kernel
theorem zd_Formula_readAll_7 : decode prog_2_method_2_code 7 = .ok (.aload_n 0, 1) := by decide +kernel
theorem zd_Formula_readAll_8 : decode prog_2_method_2_code 8 = .ok (.iconst 0, 1) := by decide +kernel
theorem zd_Formula_readAll_9 : decode prog_2_method_2_code 9 = .ok (.putfield 46, 3) := by decide +kernel
theorem zd_Formula_readAll_12 : decode prog_2_method_2_code 12 = .ok (.aload_n 0, 1) := by decide +kernel
theorem zd_Formula_readAll_13 : decode prog_2_method_2_code 13 = .ok (.iconst 0, 1) := by decide +kernel
theorem zd_Formula_readAll_14 : decode prog_2_method_2_code 14 = .ok (.putfield 50, 3) := by decide +kernel
theorem zd_Formula_readAll_17 : decode prog_2_method_2_code 17 = .ok (.aload_n 0, 1) := by decide +kernel
theorem zd_Formula_readAll_18 : decode prog_2_method_2_code 18 = .ok (.iconst 0, 1) := by decide +kernel
theorem zd_Formula_readAll_19 : decode prog_2_method_2_code 19 = .ok (.putfield 53, 3) := by decide +kernel
theorem zd_Formula_readAll_22 : decode prog_2_method_2_code 22 = .ok (.aload_n 0, 1) := by decide +kernel
theorem zd_Formula_readAll_23 : decode prog_2_method_2_code 23 = .ok (.iconst 0, 1) := by decide +kernel
theorem zd_Formula_readAll_24 : decode prog_2_method_2_code 24 = .ok (.putfield 56, 3) := by decide +kernel
theorem zd_Formula_readAll_27 : decode prog_2_method_2_code 27 = .ok (.aload_n 0, 1) := by decide +kernel
theorem zd_Formula_readAll_28 : decode prog_2_method_2_code 28 = .ok (.iconst 0, 1) := by decide +kernel
theorem zd_Formula_readAll_29 : decode prog_2_method_2_code 29 = .ok (.iconst 0, 1) := by decide +kernel
theorem zd_Formula_readAll_30 : decode prog_2_method_2_code 30 = .ok (.invokevirtual 59, 3) := by decide +kernel
theorem zd_Formula_readAll_33 : decode prog_2_method_2_code 33 = .ok (.pop, 1) := by decide +kernel
theorem zd_Formula_readAll_34 : decode prog_2_method_2_code 34 = .ok (.aload_n 0, 1) := by decide +kernel
theorem zd_Formula_readAll_35 : decode prog_2_method_2_code 35 = .ok (.getfield 9, 3) := by decide +kernel
theorem zd_Formula_readAll_38 : decode prog_2_method_2_code 38 = .ok (.invokevirtual 63, 3) := by decide +kernel
theorem zd_Formula_readAll_41 : decode prog_2_method_2_code 41 = .ok (.ifCond .ne 10, 3) := by decide +kernel
theorem zd_Formula_readAll_44 : decode prog_2_method_2_code 44 = .ok (.aload_n 0, 1) := by decide +kernel
theorem zd_Formula_readAll_45 : decode prog_2_method_2_code 45 = .ok (.getfield 9, 3) := by decide +kernel
theorem zd_Formula_readAll_48 : decode prog_2_method_2_code 48 = .ok (.invokevirtual 67, 3) := by decide +kernel
theorem zd_Formula_readAll_51 : decode prog_2_method_2_code 51 = .ok (.return_, 1) := by decide +kernel
theorem zd_Formula_readBracketed_0 : decode prog_2_method_8_code 0 = .ok (.aload_n 0, 1) := by decide +kernel
theorem zd_Formula_readBracketed_1 : decode prog_2_method_8_code 1 = .ok (.iload_n 1, 1) := by decide +kernel
theorem zd_Formula_readBracketed_2 : decode prog_2_method_8_code 2 = .ok (.invokevirtual 89, 3) := by decide +kernel
theorem zd_Formula_readBracketed_5 : decode prog_2_method_8_code 5 = .ok (.aload_n 0, 1) := by decide +kernel
theorem zd_Formula_readBracketed_6 : decode prog_2_method_8_code 6 = .ok (.iconst 0, 1) := by decide +kernel
theorem zd_Formula_readBracketed_7 : decode prog_2_method_8_code 7 = .ok (.iload_n 1, 1) := by decide +kernel
theorem zd_Formula_readBracketed_8 : decode prog_2_method_8_code 8 = .ok (.iconst 1, 1) := by decide +kernel
theorem zd_Formula_readBracketed_9 : decode prog_2_method_8_code 9 = .ok (.iadd, 1) := by decide +kernel
theorem zd_Formula_readBracketed_10 : decode prog_2_method_8_code 10 = .ok (.invokevirtual 59, 3) := by decide +kernel
theorem zd_Formula_readBracketed_13 : decode prog_2_method_8_code 13 = .ok (.istore_n 2, 1) := by decide +kernel
theorem zd_Formula_readBracketed_14 : decode prog_2_method_8_code 14 = .ok (.aload_n 0, 1) := by decide +kernel
theorem zd_Formula_readBracketed_15 : decode prog_2_method_8_code 15 = .ok (.getfield 9, 3) := by decide +kernel
theorem zd_Formula_readBracketed_18 : decode prog_2_method_8_code 18 = .ok (.bipush 41, 2) := by decide +kernel
theorem zd_Formula_readBracketed_20 : decode prog_2_method_8_code 20 = .ok (.invokevirtual 112, 3) := by decide +kernel
theorem zd_Formula_readBracketed_23 : decode prog_2_method_8_code 23 = .ok (.iload_n 2, 1) := by decide +kernel
theorem zd_Formula_readBracketed_24 : decode prog_2_method_8_code 24 = .ok (.ireturn, 1) := by decide +kernel
theorem zd_Formula_readSecond_0 : decode prog_2_method_4_code 0 = .ok (.iload_n 1, 1) := by decide +kernel
theorem zd_Formula_readSecond_1 : decode prog_2_method_4_code 1 = .ok (.tableswitch 81 3 7 #[35, 81, 81, 58, 58], 35) := by decide +kernel
theorem zd_Formula_readSecond_36 : decode prog_2_method_4_code 36 = .ok (.aload_n 0, 1) := by decide +kernel
theorem zd_Formula_readSecond_37 : decode prog_2_method_4_code 37 = .ok (.iload_n 3, 1) := by decide +kernel
theorem zd_Formula_readSecond_38 : decode prog_2_method_4_code 38 = .ok (.invokevirtual 89, 3) := by decide +kernel
theorem zd_Formula_readSecond_41 : decode prog_2_method_4_code 41 = .ok (.aload_n 0, 1) := by decide +kernel
theorem zd_Formula_readSecond_42 : decode prog_2_method_4_code 42 = .ok (.iload_n 1, 1) := by decide +kernel
theorem zd_Formula_readSecond_43 : decode prog_2_method_4_code 43 = .ok (.iload_n 2, 1) := by decide +kernel
theorem zd_Formula_readSecond_44 : decode prog_2_method_4_code 44 = .ok (.aload_n 0, 1) := by decide +kernel
theorem zd_Formula_readSecond_45 : decode prog_2_method_4_code 45 = .ok (.iload_n 1, 1) := by decide +kernel
theorem zd_Formula_readSecond_46 : decode prog_2_method_4_code 46 = .ok (.invokestatic 82, 3) := by decide +kernel
theorem zd_Formula_readSecond_49 : decode prog_2_method_4_code 49 = .ok (.iload_n 3, 1) := by decide +kernel
theorem zd_Formula_readSecond_50 : decode prog_2_method_4_code 50 = .ok (.iconst 1, 1) := by decide +kernel
theorem zd_Formula_readSecond_51 : decode prog_2_method_4_code 51 = .ok (.iadd, 1) := by decide +kernel
theorem zd_Formula_readSecond_52 : decode prog_2_method_4_code 52 = .ok (.invokevirtual 59, 3) := by decide +kernel
theorem zd_Formula_readSecond_55 : decode prog_2_method_4_code 55 = .ok (.invokevirtual 93, 3) := by decide +kernel
theorem zd_Formula_readSecond_58 : decode prog_2_method_4_code 58 = .ok (.ireturn, 1) := by decide +kernel
theorem zd_Formula_readSecond_59 : decode prog_2_method_4_code 59 = .ok (.aload_n 0, 1) := by decide +kernel
theorem zd_Formula_readSecond_60 : decode prog_2_method_4_code 60 = .ok (.iload_n 3, 1) := by decide +kernel
theorem zd_Formula_readSecond_61 : decode prog_2_method_4_code 61 = .ok (.invokevirtual 96, 3) := by decide +kernel
theorem zd_Formula_readSecond_64 : decode prog_2_method_4_code 64 = .ok (.aload_n 0, 1) := by decide +kernel
theorem zd_Formula_readSecond_65 : decode prog_2_method_4_code 65 = .ok (.iload_n 1, 1) := by decide +kernel
theorem zd_Formula_readSecond_66 : decode prog_2_method_4_code 66 = .ok (.iload_n 2, 1) := by decide +kernel
theorem zd_Formula_readSecond_67 : decode prog_2_method_4_code 67 = .ok (.aload_n 0, 1) := by decide +kernel
theorem zd_Formula_readSecond_68 : decode prog_2_method_4_code 68 = .ok (.iload_n 1, 1) := by decide +kernel
theorem zd_Formula_readSecond_69 : decode prog_2_method_4_code 69 = .ok (.invokestatic 82, 3) := by decide +kernel
theorem zd_Formula_readSecond_72 : decode prog_2_method_4_code 72 = .ok (.iload_n 3, 1) := by decide +kernel
theorem zd_Formula_readSecond_73 : decode prog_2_method_4_code 73 = .ok (.iconst 1, 1) := by decide +kernel
theorem zd_Formula_readSecond_74 : decode prog_2_method_4_code 74 = .ok (.iadd, 1) := by decide +kernel
theorem zd_Formula_readSecond_75 : decode prog_2_method_4_code 75 = .ok (.invokevirtual 59, 3) := by decide +kernel
theorem zd_Formula_readSecond_78 : decode prog_2_method_4_code 78 = .ok (.invokevirtual 99, 3) := by decide +kernel
theorem zd_Formula_readSecond_81 : decode prog_2_method_4_code 81 = .ok (.ireturn, 1) := by decide +kernel
theorem zd_Formula_readSecond_82 : decode prog_2_method_4_code 82 = .ok (.aload_n 0, 1) := by decide +kernel
theorem zd_Formula_readSecond_83 : decode prog_2_method_4_code 83 = .ok (.getfield 9, 3) := by decide +kernel
theorem zd_Formula_readSecond_86 : decode prog_2_method_4_code 86 = .ok (.invokevirtual 102, 3) := by decide +kernel
theorem zd_Formula_readSecond_89 : decode prog_2_method_4_code 89 = .ok (.aload_n 0, 1) := by decide +kernel
theorem zd_Formula_readSecond_90 : decode prog_2_method_4_code 90 = .ok (.iload_n 1, 1) := by decide +kernel
theorem zd_Formula_readSecond_91 : decode prog_2_method_4_code 91 = .ok (.iload_n 2, 1) := by decide +kernel
theorem zd_Formula_readSecond_92 : decode prog_2_method_4_code 92 = .ok (.aload_n 0, 1) := by decide +kernel
theorem zd_Formula_readSecond_93 : decode prog_2_method_4_code 93 = .ok (.iload_n 1, 1) := by decide +kernel
theorem zd_Formula_readSecond_94 : decode prog_2_method_4_code 94 = .ok (.invokestatic 82, 3) := by decide +kernel
theorem zd_Formula_readSecond_97 : decode prog_2_method_4_code 97 = .ok (.iconst 1, 1) := by decide +kernel
theorem zd_Formula_readSecond_98 : decode prog_2_method_4_code 98 = .ok (.iadd, 1) := by decide +kernel
theorem zd_Formula_readSecond_99 : decode prog_2_method_4_code 99 = .ok (.iload_n 3, 1) := by decide +kernel
theorem zd_Formula_readSecond_100 : decode prog_2_method_4_code 100 = .ok (.invokevirtual 59, 3) := by decide +kernel
theorem zd_Formula_readSecond_103 : decode prog_2_method_4_code 103 = .ok (.invokevirtual 93, 3) := by decide +kernel
theorem zd_Formula_readSecond_106 : decode prog_2_method_4_code 106 = .ok (.ireturn, 1) := by decide +kernel
theorem zd_Formula_readUnit_0 : decode prog_2_method_7_code 0 = .ok (.aload_n 0, 1) := by decide +kernel
theorem zd_Formula_readUnit_1 : decode prog_2_method_7_code 1 = .ok (.getfield 9, 3) := by decide +kernel
theorem zd_Formula_readUnit_4 : decode prog_2_method_7_code 4 = .ok (.invokevirtual 74, 3) := by decide +kernel
theorem zd_Formula_readUnit_7 : decode prog_2_method_7_code 7 = .ok (.lookupswitch 104 #[(33, 41), (40, 98), (70, 79), (71, 60)], 41) := by decide +kernel
theorem zd_Formula_readUnit_48 : decode prog_2_method_7_code 48 = .ok (.aload_n 0, 1) := by decide +kernel
theorem zd_Formula_readUnit_49 : decode prog_2_method_7_code 49 = .ok (.iload_n 1, 1) := by decide +kernel
theorem zd_Formula_readUnit_50 : decode prog_2_method_7_code 50 = .ok (.invokevirtual 89, 3) := by decide +kernel
theorem zd_Formula_readUnit_53 : decode prog_2_method_7_code 53 = .ok (.aload_n 0, 1) := by decide +kernel
theorem zd_Formula_readUnit_54 : decode prog_2_method_7_code 54 = .ok (.iconst 0, 1) := by decide +kernel
theorem zd_Formula_readUnit_55 : decode prog_2_method_7_code 55 = .ok (.aload_n 0, 1) := by decide +kernel
theorem zd_Formula_readUnit_56 : decode prog_2_method_7_code 56 = .ok (.iload_n 1, 1) := by decide +kernel
theorem zd_Formula_readUnit_57 : decode prog_2_method_7_code 57 = .ok (.iconst 1, 1) := by decide +kernel
theorem zd_Formula_readUnit_58 : decode prog_2_method_7_code 58 = .ok (.iadd, 1) := by decide +kernel
theorem zd_Formula_readUnit_59 : decode prog_2_method_7_code 59 = .ok (.invokevirtual 70, 3) := by decide +kernel
theorem zd_Formula_readUnit_62 : decode prog_2_method_7_code 62 = .ok (.iconst (-1), 1) := by decide +kernel
theorem zd_Formula_readUnit_63 : decode prog_2_method_7_code 63 = .ok (.invokevirtual 93, 3) := by decide +kernel
theorem zd_Formula_readUnit_66 : decode prog_2_method_7_code 66 = .ok (.ireturn, 1) := by decide +kernel
theorem zd_Formula_readUnit_67 : decode prog_2_method_7_code 67 = .ok (.aload_n 0, 1) := by decide +kernel
theorem zd_Formula_readUnit_68 : decode prog_2_method_7_code 68 = .ok (.iload_n 1, 1) := by decide +kernel
theorem zd_Formula_readUnit_69 : decode prog_2_method_7_code 69 = .ok (.invokevirtual 96, 3) := by decide +kernel
theorem zd_Formula_readUnit_72 : decode prog_2_method_7_code 72 = .ok (.aload_n 0, 1) := by decide +kernel
theorem zd_Formula_readUnit_73 : decode prog_2_method_7_code 73 = .ok (.iconst 4, 1) := by decide +kernel
theorem zd_Formula_readUnit_74 : decode prog_2_method_7_code 74 = .ok (.aload_n 0, 1) := by decide +kernel
theorem zd_Formula_readUnit_75 : decode prog_2_method_7_code 75 = .ok (.iload_n 1, 1) := by decide +kernel
theorem zd_Formula_readUnit_76 : decode prog_2_method_7_code 76 = .ok (.iconst 1, 1) := by decide +kernel
theorem zd_Formula_readUnit_77 : decode prog_2_method_7_code 77 = .ok (.iadd, 1) := by decide +kernel
theorem zd_Formula_readUnit_78 : decode prog_2_method_7_code 78 = .ok (.invokevirtual 70, 3) := by decide +kernel
theorem zd_Formula_readUnit_81 : decode prog_2_method_7_code 81 = .ok (.iconst (-1), 1) := by decide +kernel
theorem zd_Formula_readUnit_82 : decode prog_2_method_7_code 82 = .ok (.invokevirtual 99, 3) := by decide +kernel
theorem zd_Formula_readUnit_85 : decode prog_2_method_7_code 85 = .ok (.ireturn, 1) := by decide +kernel
theorem zd_Formula_readUnit_86 : decode prog_2_method_7_code 86 = .ok (.aload_n 0, 1) := by decide +kernel
theorem zd_Formula_readUnit_87 : decode prog_2_method_7_code 87 = .ok (.iload_n 1, 1) := by decide +kernel
theorem zd_Formula_readUnit_88 : decode prog_2_method_7_code 88 = .ok (.invokevirtual 96, 3) := by decide +kernel
theorem zd_Formula_readUnit_91 : decode prog_2_method_7_code 91 = .ok (.aload_n 0, 1) := by decide +kernel
theorem zd_Formula_readUnit_92 : decode prog_2_method_7_code 92 = .ok (.iconst 5, 1) := by decide +kernel
theorem zd_Formula_readUnit_93 : decode prog_2_method_7_code 93 = .ok (.aload_n 0, 1) := by decide +kernel
theorem zd_Formula_readUnit_94 : decode prog_2_method_7_code 94 = .ok (.iload_n 1, 1) := by decide +kernel
theorem zd_Formula_readUnit_95 : decode prog_2_method_7_code 95 = .ok (.iconst 1, 1) := by decide +kernel
theorem zd_Formula_readUnit_96 : decode prog_2_method_7_code 96 = .ok (.iadd, 1) := by decide +kernel
theorem zd_Formula_readUnit_97 : decode prog_2_method_7_code 97 = .ok (.invokevirtual 70, 3) := by decide +kernel
theorem zd_Formula_readUnit_100 : decode prog_2_method_7_code 100 = .ok (.iconst (-1), 1) := by decide +kernel
theorem zd_Formula_readUnit_101 : decode prog_2_method_7_code 101 = .ok (.invokevirtual 99, 3) := by decide +kernel
theorem zd_Formula_readUnit_104 : decode prog_2_method_7_code 104 = .ok (.ireturn, 1) := by decide +kernel
theorem zd_Formula_readUnit_105 : decode prog_2_method_7_code 105 = .ok (.aload_n 0, 1) := by decide +kernel
theorem zd_Formula_readUnit_106 : decode prog_2_method_7_code 106 = .ok (.iload_n 1, 1) := by decide +kernel
theorem zd_Formula_readUnit_107 : decode prog_2_method_7_code 107 = .ok (.invokevirtual 105, 3) := by decide +kernel
theorem zd_Formula_readUnit_110 : decode prog_2_method_7_code 110 = .ok (.ireturn, 1) := by decide +kernel
theorem zd_Formula_readUnit_111 : decode prog_2_method_7_code 111 = .ok (.aload_n 0, 1) := by decide +kernel
theorem zd_Formula_readUnit_112 : decode prog_2_method_7_code 112 = .ok (.invokevirtual 108, 3) := by decide +kernel
theorem zd_Formula_readUnit_115 : decode prog_2_method_7_code 115 = .ok (.ireturn, 1) := by decide +kernel
def wp_Formula_readUnit_R (I : Nat → Int32) (J : Nat → Int64) (B : Nat → Nat → Int32) (D : Nat → Nat → Int64) (P0 : zTgf0) (P1 : zTgf1) (P2 : zTgf2) (P3 : zTgf3) (a0 : Int32) (Post : Int32 → (Nat → Int32) → (Nat → Int64) → (Nat → Nat → Int32) → (Nat → Nat → Int64) → Prop) (PX : String → (Nat → Int32) → (Nat → Int64) → (Nat → Nat → Int32) → (Nat → Nat → Int64) → Prop) : Prop :=
  wp_Text_ahead I J B D  (fun r1 I1 J1 B1 D1 => ((r1 = 33 → wp_Formula_goDeeper I1 J1 B1 D1 a0 (fun I3 J3 B3 D3 => ∀ z4 : Int32, z4 = (a0 + 1) → P1 I3 J3 B3 D3 z4 (fun r5 I5 J5 B5 D5 => wp_Formula_add I5 J5 B5 D5 0 r5 (-1) (fun r6 I6 J6 B6 D6 => Post r6 I6 J6 B6 D6)) PX) PX) ∧ (r1 = 40 → P2 I1 J1 B1 D1 a0 (fun r8 I8 J8 B8 D8 => Post r8 I8 J8 B8 D8) PX) ∧ (r1 = 70 → wp_Formula_meetTemporal I1 J1 B1 D1 a0 (fun I10 J10 B10 D10 => ∀ z11 : Int32, z11 = (a0 + 1) → P1 I10 J10 B10 D10 z11 (fun r12 I12 J12 B12 D12 => wp_Formula_addTemporal I12 J12 B12 D12 5 r12 (-1) (fun r13 I13 J13 B13 D13 => Post r13 I13 J13 B13 D13)) PX) PX) ∧ (r1 = 71 → wp_Formula_meetTemporal I1 J1 B1 D1 a0 (fun I15 J15 B15 D15 => ∀ z16 : Int32, z16 = (a0 + 1) → P1 I15 J15 B15 D15 z16 (fun r17 I17 J17 B17 D17 => wp_Formula_addTemporal I17 J17 B17 D17 4 r17 (-1) (fun r18 I18 J18 B18 D18 => Post r18 I18 J18 B18 D18)) PX) PX) ∧ (¬ r1 = 33 → ¬ r1 = 40 → ¬ r1 = 70 → ¬ r1 = 71 → wp_Formula_readAtom I1 J1 B1 D1  (fun r19 I19 J19 B19 D19 => Post r19 I19 J19 B19 D19) PX)))
set_option maxHeartbeats 8000000 in
set_option maxRecDepth 100000 in
theorem w_Formula_readUnit_R (l : Launch) (hlt : l.stackTraces = false) (G : va_G) (K : Nat → ClassId) (ad : Nat → Nat) (sv : Value) (I : Nat → Int32) (J : Nat → Int64) (B : Nat → Nat → Int32) (D : Nat → Nat → Int64) (P0 : zTgf0) (P1 : zTgf1) (P2 : zTgf2) (P3 : zTgf3) (a0 : Int32) (Post : Int32 → (Nat → Int32) → (Nat → Int64) → (Nat → Nat → Int32) → (Nat → Nat → Int64) → Prop) (PX : String → (Nat → Int32) → (Nat → Int64) → (Nat → Nat → Int32) → (Nat → Nat → Int64) → Prop) (sz : Nat) (hok : wp_Formula_readUnit_R I J B D P0 P1 P2 P3 a0 Post PX) (n8 : Nat) (ihP : zIH_gf l G K ad sv n8 P0 P1 P2 P3) : zyMet l zy_Formula_readUnit (Cond.code zy_Formula_readUnit prog_2_method_7_code 2 (some .int) :: zTB) { frames := n8 + 1 + 10, cells := 1, slots := 6, locals := (n8 + 1) * 25 + 171 } (va_Pc [.ref (ad 9), .int a0] (zPreY G K (wX ad K sv I J B D) sz)) (va_Qi (fun (r : Int32) (u : zS) => Post r u.1 u.2.1 u.2.2.1 u.2.2.2) (fun u t => zPost G K (va_A (wX ad K sv I J B D) sz) (wX ad K sv u.1 u.2.1 u.2.2.1 u.2.2.2) t) (va_A (wX ad K sv I J B D) sz)) (zYC (fun E (u : zS) => PX E u.1 u.2.1 u.2.2.1 u.2.2.2) (fun u => wX ad K sv u.1 u.2.1 u.2.2.1 u.2.2.2) G K (va_A (wX ad K sv I J B D) sz)) 1 6 (va_A (wX ad K sv I J B D) sz) := by
  refine zMetY (y := zy_Formula_readUnit) (av := [.ref (ad 9), .int a0]) (maxL := 2) (cc := prog_2_method_7_code) (ret := (some .int)) (W0 := (wX ad K sv I J B D)) (sz := sz) (G := G) (K := K) (wt := zTB) (mc := 1) (ms := 6) (Qf := fun A => va_Qi (fun (r : Int32) (u : zS) => Post r u.1 u.2.1 u.2.2.1 u.2.2.2) (fun u t => zPost G K A (wX ad K sv u.1 u.2.1 u.2.2.1 u.2.2.2) t) A) (Xf := fun A => (zYC (fun E (u : zS) => PX E u.1 u.2.1 u.2.2.1 u.2.2.2) (fun u => wX ad K sv u.1 u.2.1 u.2.2.1 u.2.2.2) G K A)) (by decide) (by first | omega | (dsimp only; omega) | exact Nat.le_of_ble_eq_true rfl) ?_
  intro p e s m below meth c ls A hx hb hr hml hts hown hlocks hin hA hK H locs hw hsz hl hT hnt
  clear hsz
  have hown : s.vm.findClass "LassoFinder$Formula" = some m.cls := hown
  have C : zCy p l s m ([.ref (ad 9), .int a0] : List Value).toArray meth c A G K prog_2_method_7_code (some .int) 2 "LassoFinder$Formula" := ⟨hx, hb, hr, hml, hts, hown, hlocks, hA, hK, hT, hnt, hlt⟩
  have hl : lv_has ls 2 [(0, .ref (ad 9)), (1, .int a0)] := hl
  have hw : zW G A s.heap (wX ad K sv I J B D) H locs := hw
  unfold wp_Formula_readUnit_R at hok
  refine lv_aload_n hx hb zd_Formula_readUnit_0 rfl (lv_at hl 0 rfl) ?_
  refine z_get (v := .ref (ad 1)) hx hb hts hown hK hw zZ1 9 wX_g9 0 (by decide) zn_518 rfl zd_Formula_readUnit_1 ?_
  refine z_calli (w1 := fun (u : zS) => wX ad K sv u.1 u.2.1 u.2.2.1 u.2.2.2) (wr := []) (z_runV (q0 := 1) (wc := (wX ad K sv I J B D)) (As := []) (rest := []) ⟨hx, hb, hml, hown, hts⟩ (w_Text_ahead l G K ad sv I J B D  _ H.size hok) zf_Text_ahead zn_488 ⟨(by first | omega | (dsimp only; omega) | exact Nat.le_of_ble_eq_true rfl), (by first | omega | (dsimp only; omega) | exact Nat.le_of_ble_eq_true rfl)⟩ hK hw (List.range 65) wX_all wX_nd wX_g1 rfl rfl hl.1 rfl (by first | omega | (dsimp only; omega) | exact Nat.le_of_ble_eq_true rfl) zd_Formula_readUnit_4 ⟨(by first | omega | (dsimp only; omega) | exact Nat.le_of_ble_eq_true rfl), (by first | omega | (dsimp only; omega) | exact Nat.le_of_ble_eq_true rfl)⟩) hw hA (List.range 65) [] wX_all rfl (by decide) (fun i hi => by cases hi) (fun r1 u H locs hok hw => ?_)
  obtain ⟨I1, J1, B1, D1⟩ := u
  dsimp only at hok
  have hw : zW G A s.heap (wX ad K sv I1 J1 B1 D1) H locs := hw
  by_cases hs2 : r1 = 33
  · have hok := hok.1 hs2
    refine lv_lookup (off := 41) (tgt := 48) hx hb zd_Formula_readUnit_7 (by decide) (by rw [hs2]; decide) (by decide) ?_
    refine lv_aload_n hx hb zd_Formula_readUnit_48 rfl (lv_at hl 0 rfl) ?_
    refine lv_iload_n hx hb zd_Formula_readUnit_49 rfl (lv_at hl 1 rfl) ?_
    refine z_yV (q0 := 9) (wc := (wX ad K sv I1 J1 B1 D1)) (wr := []) (w1 := fun (u : zS) => wX ad K sv u.1 u.2.1 u.2.2.1 u.2.2.2) (As := [.int a0]) (rest := []) ⟨hx, hb, hml, hown, hts⟩ (w_Formula_goDeeper l hlt G K ad sv I1 J1 B1 D1 a0 _ _ H.size hok) zf_Formula_goDeeper zn_489 ⟨(by first | omega | (dsimp only; omega) | exact Nat.le_of_ble_eq_true rfl), (by first | omega | (dsimp only; omega) | exact Nat.le_of_ble_eq_true rfl)⟩ hK hT hw hA (List.range 65) [] wX_all rfl wX_nd (by decide) (fun i hi => by cases hi) wX_g9 rfl rfl hl.1 rfl (by first | omega | (dsimp only; omega) | exact Nat.le_of_ble_eq_true rfl) zd_Formula_readUnit_50 ⟨(by first | omega | (dsimp only; omega) | exact Nat.le_of_ble_eq_true rfl), (by first | omega | (dsimp only; omega) | exact Nat.le_of_ble_eq_true rfl)⟩ (fun v st9 t9 L9 h0 hq hL => ?_) (fun E ce q9 u H locs hu hw hce hcv hcl => z_yout (u := u) hnt hlocks hce hcv hcl hw (List.range 65) wX_all wX_nd hu (by first | omega | (dsimp only; omega) | exact Nat.le_of_ble_eq_true rfl) (by first | omega | (dsimp only; omega) | exact Nat.le_of_ble_eq_true rfl))
    obtain ⟨⟨u, hv9, hok, hB9⟩, hF9⟩ := hq
    cases hv9
    have hw := z_back (wr := []) hw hA (List.range 65) [] wX_all rfl (by decide) (fun i hi => by cases hi) h0 hL hB9 hF9
    obtain ⟨I3, J3, B3, D3⟩ := u
    dsimp only at hok
    generalize t9.heap = H at hw ⊢
    generalize locs ++ L9 = locs at hw ⊢
    have hw : zW G A s.heap (wX ad K sv I3 J3 B3 D3) H locs := hw
    refine W.eq (g2 := F0 m 53 ls []) rfl ?_
    refine lv_aload_n hx hb zd_Formula_readUnit_53 rfl (lv_at hl 0 rfl) ?_
    refine lv_iconst (v := 0) hx hb zd_Formula_readUnit_54 (by decide) ?_
    refine lv_aload_n hx hb zd_Formula_readUnit_55 rfl (lv_at hl 0 rfl) ?_
    refine lv_iload_n hx hb zd_Formula_readUnit_56 rfl (lv_at hl 1 rfl) ?_
    refine lv_iconst (v := 1) hx hb zd_Formula_readUnit_57 (by decide) ?_
    refine lv_iadd hx hb zd_Formula_readUnit_58 ?_
    refine lv_topi (fun z4 ez4 => ?_)
    have hok := hok z4 ez4
    refine z_yV (q0 := 9) (wc := (wX ad K sv I3 J3 B3 D3)) (wr := []) (w1 := fun (u : zS) => wX ad K sv u.1 u.2.1 u.2.2.1 u.2.2.2) (As := [.int z4]) (rest := [.int 0, .ref (ad 9)]) ⟨hx, hb, hml, hown, hts⟩ (ihP.2.1 I3 J3 B3 D3 z4 _ _ H.size hok) zf_Formula_readUnit zn_487 ⟨(by first | omega | (dsimp only; omega) | exact Nat.le_of_ble_eq_true rfl), (by first | omega | (dsimp only; omega) | exact Nat.le_of_ble_eq_true rfl)⟩ hK hT hw hA (List.range 65) [] wX_all rfl wX_nd (by decide) (fun i hi => by cases hi) wX_g9 rfl rfl hl.1 rfl (by first | omega | (dsimp only; omega) | exact Nat.le_of_ble_eq_true rfl) zd_Formula_readUnit_59 ⟨(by first | omega | (dsimp only; omega) | exact Nat.le_of_ble_eq_true rfl), (by first | omega | (dsimp only; omega) | exact Nat.le_of_ble_eq_true rfl)⟩ (fun v st9 t9 L9 h0 hq hL => ?_) (fun E ce q9 u H locs hu hw hce hcv hcl => z_yout (u := u) hnt hlocks hce hcv hcl hw (List.range 65) wX_all wX_nd hu (by first | omega | (dsimp only; omega) | exact Nat.le_of_ble_eq_true rfl) (by first | omega | (dsimp only; omega) | exact Nat.le_of_ble_eq_true rfl))
    obtain ⟨⟨r5, u, hv9, hok, hB9⟩, hF9⟩ := hq
    cases hv9
    have hw := z_back (wr := []) hw hA (List.range 65) [] wX_all rfl (by decide) (fun i hi => by cases hi) h0 hL hB9 hF9
    obtain ⟨I5, J5, B5, D5⟩ := u
    dsimp only at hok
    generalize t9.heap = H at hw ⊢
    generalize locs ++ L9 = locs at hw ⊢
    have hw : zW G A s.heap (wX ad K sv I5 J5 B5 D5) H locs := hw
    refine W.eq (g2 := F0 m 62 ls [.int r5, .int 0, .ref (ad 9)]) rfl ?_
    refine lv_iconst (v := (-1)) hx hb zd_Formula_readUnit_62 (by decide) ?_
    refine z_calli (w1 := fun (u : zS) => wX ad K sv u.1 u.2.1 u.2.2.1 u.2.2.2) (wr := []) (z_runV (q0 := 9) (wc := (wX ad K sv I5 J5 B5 D5)) (As := [.int 0, .int r5, .int (-1)]) (rest := []) ⟨hx, hb, hml, hown, hts⟩ (w_Formula_add l G K ad sv I5 J5 B5 D5 0 r5 (-1) _ H.size hok) zf_Formula_add zn_492 ⟨(by first | omega | (dsimp only; omega) | exact Nat.le_of_ble_eq_true rfl), (by first | omega | (dsimp only; omega) | exact Nat.le_of_ble_eq_true rfl)⟩ hK hw (List.range 65) wX_all wX_nd wX_g9 rfl rfl hl.1 rfl (by first | omega | (dsimp only; omega) | exact Nat.le_of_ble_eq_true rfl) zd_Formula_readUnit_63 ⟨(by first | omega | (dsimp only; omega) | exact Nat.le_of_ble_eq_true rfl), (by first | omega | (dsimp only; omega) | exact Nat.le_of_ble_eq_true rfl)⟩) hw hA (List.range 65) [] wX_all rfl (by decide) (fun i hi => by cases hi) (fun r6 u H locs hok hw => ?_)
    obtain ⟨I6, J6, B6, D6⟩ := u
    dsimp only at hok
    have hw : zW G A s.heap (wX ad K sv I6 J6 B6 D6) H locs := hw
    exact zy_ret (z_iret (u := (I6, J6, B6, D6)) hx hb hr hlocks rfl hw (List.range 65) wX_all wX_nd hok (by first | omega | (dsimp only; omega) | exact Nat.le_of_ble_eq_true rfl) (by first | omega | (dsimp only; omega) | exact Nat.le_of_ble_eq_true rfl) zd_Formula_readUnit_66)
  by_cases hs7 : r1 = 40
  · have hok := hok.2.1 hs7
    refine lv_lookup (off := 98) (tgt := 105) hx hb zd_Formula_readUnit_7 (by decide) (by rw [hs7]; decide) (by decide) ?_
    refine lv_aload_n hx hb zd_Formula_readUnit_105 rfl (lv_at hl 0 rfl) ?_
    refine lv_iload_n hx hb zd_Formula_readUnit_106 rfl (lv_at hl 1 rfl) ?_
    refine z_yV (q0 := 9) (wc := (wX ad K sv I1 J1 B1 D1)) (wr := []) (w1 := fun (u : zS) => wX ad K sv u.1 u.2.1 u.2.2.1 u.2.2.2) (As := [.int a0]) (rest := []) ⟨hx, hb, hml, hown, hts⟩ (ihP.2.2.1 I1 J1 B1 D1 a0 _ _ H.size hok) zf_Formula_readBracketed zn_495 ⟨(by first | omega | (dsimp only; omega) | exact Nat.le_of_ble_eq_true rfl), (by first | omega | (dsimp only; omega) | exact Nat.le_of_ble_eq_true rfl)⟩ hK hT hw hA (List.range 65) [] wX_all rfl wX_nd (by decide) (fun i hi => by cases hi) wX_g9 rfl rfl hl.1 rfl (by first | omega | (dsimp only; omega) | exact Nat.le_of_ble_eq_true rfl) zd_Formula_readUnit_107 ⟨(by first | omega | (dsimp only; omega) | exact Nat.le_of_ble_eq_true rfl), (by first | omega | (dsimp only; omega) | exact Nat.le_of_ble_eq_true rfl)⟩ (fun v st9 t9 L9 h0 hq hL => ?_) (fun E ce q9 u H locs hu hw hce hcv hcl => z_yout (u := u) hnt hlocks hce hcv hcl hw (List.range 65) wX_all wX_nd hu (by first | omega | (dsimp only; omega) | exact Nat.le_of_ble_eq_true rfl) (by first | omega | (dsimp only; omega) | exact Nat.le_of_ble_eq_true rfl))
    obtain ⟨⟨r8, u, hv9, hok, hB9⟩, hF9⟩ := hq
    cases hv9
    have hw := z_back (wr := []) hw hA (List.range 65) [] wX_all rfl (by decide) (fun i hi => by cases hi) h0 hL hB9 hF9
    obtain ⟨I8, J8, B8, D8⟩ := u
    dsimp only at hok
    generalize t9.heap = H at hw ⊢
    generalize locs ++ L9 = locs at hw ⊢
    have hw : zW G A s.heap (wX ad K sv I8 J8 B8 D8) H locs := hw
    refine W.eq (g2 := F0 m 110 ls [.int r8]) rfl ?_
    exact zy_ret (z_iret (u := (I8, J8, B8, D8)) hx hb hr hlocks rfl hw (List.range 65) wX_all wX_nd hok (by first | omega | (dsimp only; omega) | exact Nat.le_of_ble_eq_true rfl) (by first | omega | (dsimp only; omega) | exact Nat.le_of_ble_eq_true rfl) zd_Formula_readUnit_110)
  by_cases hs9 : r1 = 70
  · have hok := hok.2.2.1 hs9
    refine lv_lookup (off := 79) (tgt := 86) hx hb zd_Formula_readUnit_7 (by decide) (by rw [hs9]; decide) (by decide) ?_
    refine lv_aload_n hx hb zd_Formula_readUnit_86 rfl (lv_at hl 0 rfl) ?_
    refine lv_iload_n hx hb zd_Formula_readUnit_87 rfl (lv_at hl 1 rfl) ?_
    refine z_yV (q0 := 9) (wc := (wX ad K sv I1 J1 B1 D1)) (wr := []) (w1 := fun (u : zS) => wX ad K sv u.1 u.2.1 u.2.2.1 u.2.2.2) (As := [.int a0]) (rest := []) ⟨hx, hb, hml, hown, hts⟩ (w_Formula_meetTemporal l hlt G K ad sv I1 J1 B1 D1 a0 _ _ H.size hok) zf_Formula_meetTemporal zn_493 ⟨(by first | omega | (dsimp only; omega) | exact Nat.le_of_ble_eq_true rfl), (by first | omega | (dsimp only; omega) | exact Nat.le_of_ble_eq_true rfl)⟩ hK hT hw hA (List.range 65) [] wX_all rfl wX_nd (by decide) (fun i hi => by cases hi) wX_g9 rfl rfl hl.1 rfl (by first | omega | (dsimp only; omega) | exact Nat.le_of_ble_eq_true rfl) zd_Formula_readUnit_88 ⟨(by first | omega | (dsimp only; omega) | exact Nat.le_of_ble_eq_true rfl), (by first | omega | (dsimp only; omega) | exact Nat.le_of_ble_eq_true rfl)⟩ (fun v st9 t9 L9 h0 hq hL => ?_) (fun E ce q9 u H locs hu hw hce hcv hcl => z_yout (u := u) hnt hlocks hce hcv hcl hw (List.range 65) wX_all wX_nd hu (by first | omega | (dsimp only; omega) | exact Nat.le_of_ble_eq_true rfl) (by first | omega | (dsimp only; omega) | exact Nat.le_of_ble_eq_true rfl))
    obtain ⟨⟨u, hv9, hok, hB9⟩, hF9⟩ := hq
    cases hv9
    have hw := z_back (wr := []) hw hA (List.range 65) [] wX_all rfl (by decide) (fun i hi => by cases hi) h0 hL hB9 hF9
    obtain ⟨I10, J10, B10, D10⟩ := u
    dsimp only at hok
    generalize t9.heap = H at hw ⊢
    generalize locs ++ L9 = locs at hw ⊢
    have hw : zW G A s.heap (wX ad K sv I10 J10 B10 D10) H locs := hw
    refine W.eq (g2 := F0 m 91 ls []) rfl ?_
    refine lv_aload_n hx hb zd_Formula_readUnit_91 rfl (lv_at hl 0 rfl) ?_
    refine lv_iconst (v := 5) hx hb zd_Formula_readUnit_92 (by decide) ?_
    refine lv_aload_n hx hb zd_Formula_readUnit_93 rfl (lv_at hl 0 rfl) ?_
    refine lv_iload_n hx hb zd_Formula_readUnit_94 rfl (lv_at hl 1 rfl) ?_
    refine lv_iconst (v := 1) hx hb zd_Formula_readUnit_95 (by decide) ?_
    refine lv_iadd hx hb zd_Formula_readUnit_96 ?_
    refine lv_topi (fun z11 ez11 => ?_)
    have hok := hok z11 ez11
    refine z_yV (q0 := 9) (wc := (wX ad K sv I10 J10 B10 D10)) (wr := []) (w1 := fun (u : zS) => wX ad K sv u.1 u.2.1 u.2.2.1 u.2.2.2) (As := [.int z11]) (rest := [.int 5, .ref (ad 9)]) ⟨hx, hb, hml, hown, hts⟩ (ihP.2.1 I10 J10 B10 D10 z11 _ _ H.size hok) zf_Formula_readUnit zn_487 ⟨(by first | omega | (dsimp only; omega) | exact Nat.le_of_ble_eq_true rfl), (by first | omega | (dsimp only; omega) | exact Nat.le_of_ble_eq_true rfl)⟩ hK hT hw hA (List.range 65) [] wX_all rfl wX_nd (by decide) (fun i hi => by cases hi) wX_g9 rfl rfl hl.1 rfl (by first | omega | (dsimp only; omega) | exact Nat.le_of_ble_eq_true rfl) zd_Formula_readUnit_97 ⟨(by first | omega | (dsimp only; omega) | exact Nat.le_of_ble_eq_true rfl), (by first | omega | (dsimp only; omega) | exact Nat.le_of_ble_eq_true rfl)⟩ (fun v st9 t9 L9 h0 hq hL => ?_) (fun E ce q9 u H locs hu hw hce hcv hcl => z_yout (u := u) hnt hlocks hce hcv hcl hw (List.range 65) wX_all wX_nd hu (by first | omega | (dsimp only; omega) | exact Nat.le_of_ble_eq_true rfl) (by first | omega | (dsimp only; omega) | exact Nat.le_of_ble_eq_true rfl))
    obtain ⟨⟨r12, u, hv9, hok, hB9⟩, hF9⟩ := hq
    cases hv9
    have hw := z_back (wr := []) hw hA (List.range 65) [] wX_all rfl (by decide) (fun i hi => by cases hi) h0 hL hB9 hF9
    obtain ⟨I12, J12, B12, D12⟩ := u
    dsimp only at hok
    generalize t9.heap = H at hw ⊢
    generalize locs ++ L9 = locs at hw ⊢
    have hw : zW G A s.heap (wX ad K sv I12 J12 B12 D12) H locs := hw
    refine W.eq (g2 := F0 m 100 ls [.int r12, .int 5, .ref (ad 9)]) rfl ?_
    refine lv_iconst (v := (-1)) hx hb zd_Formula_readUnit_100 (by decide) ?_
    refine z_calli (w1 := fun (u : zS) => wX ad K sv u.1 u.2.1 u.2.2.1 u.2.2.2) (wr := []) (z_runV (q0 := 9) (wc := (wX ad K sv I12 J12 B12 D12)) (As := [.int 5, .int r12, .int (-1)]) (rest := []) ⟨hx, hb, hml, hown, hts⟩ (w_Formula_addTemporal l G K ad sv I12 J12 B12 D12 5 r12 (-1) _ H.size hok) zf_Formula_addTemporal zn_494 ⟨(by first | omega | (dsimp only; omega) | exact Nat.le_of_ble_eq_true rfl), (by first | omega | (dsimp only; omega) | exact Nat.le_of_ble_eq_true rfl)⟩ hK hw (List.range 65) wX_all wX_nd wX_g9 rfl rfl hl.1 rfl (by first | omega | (dsimp only; omega) | exact Nat.le_of_ble_eq_true rfl) zd_Formula_readUnit_101 ⟨(by first | omega | (dsimp only; omega) | exact Nat.le_of_ble_eq_true rfl), (by first | omega | (dsimp only; omega) | exact Nat.le_of_ble_eq_true rfl)⟩) hw hA (List.range 65) [] wX_all rfl (by decide) (fun i hi => by cases hi) (fun r13 u H locs hok hw => ?_)
    obtain ⟨I13, J13, B13, D13⟩ := u
    dsimp only at hok
    have hw : zW G A s.heap (wX ad K sv I13 J13 B13 D13) H locs := hw
    exact zy_ret (z_iret (u := (I13, J13, B13, D13)) hx hb hr hlocks rfl hw (List.range 65) wX_all wX_nd hok (by first | omega | (dsimp only; omega) | exact Nat.le_of_ble_eq_true rfl) (by first | omega | (dsimp only; omega) | exact Nat.le_of_ble_eq_true rfl) zd_Formula_readUnit_104)
  by_cases hs14 : r1 = 71
  · have hok := hok.2.2.2.1 hs14
    refine lv_lookup (off := 60) (tgt := 67) hx hb zd_Formula_readUnit_7 (by decide) (by rw [hs14]; decide) (by decide) ?_
    refine lv_aload_n hx hb zd_Formula_readUnit_67 rfl (lv_at hl 0 rfl) ?_
    refine lv_iload_n hx hb zd_Formula_readUnit_68 rfl (lv_at hl 1 rfl) ?_
    refine z_yV (q0 := 9) (wc := (wX ad K sv I1 J1 B1 D1)) (wr := []) (w1 := fun (u : zS) => wX ad K sv u.1 u.2.1 u.2.2.1 u.2.2.2) (As := [.int a0]) (rest := []) ⟨hx, hb, hml, hown, hts⟩ (w_Formula_meetTemporal l hlt G K ad sv I1 J1 B1 D1 a0 _ _ H.size hok) zf_Formula_meetTemporal zn_493 ⟨(by first | omega | (dsimp only; omega) | exact Nat.le_of_ble_eq_true rfl), (by first | omega | (dsimp only; omega) | exact Nat.le_of_ble_eq_true rfl)⟩ hK hT hw hA (List.range 65) [] wX_all rfl wX_nd (by decide) (fun i hi => by cases hi) wX_g9 rfl rfl hl.1 rfl (by first | omega | (dsimp only; omega) | exact Nat.le_of_ble_eq_true rfl) zd_Formula_readUnit_69 ⟨(by first | omega | (dsimp only; omega) | exact Nat.le_of_ble_eq_true rfl), (by first | omega | (dsimp only; omega) | exact Nat.le_of_ble_eq_true rfl)⟩ (fun v st9 t9 L9 h0 hq hL => ?_) (fun E ce q9 u H locs hu hw hce hcv hcl => z_yout (u := u) hnt hlocks hce hcv hcl hw (List.range 65) wX_all wX_nd hu (by first | omega | (dsimp only; omega) | exact Nat.le_of_ble_eq_true rfl) (by first | omega | (dsimp only; omega) | exact Nat.le_of_ble_eq_true rfl))
    obtain ⟨⟨u, hv9, hok, hB9⟩, hF9⟩ := hq
    cases hv9
    have hw := z_back (wr := []) hw hA (List.range 65) [] wX_all rfl (by decide) (fun i hi => by cases hi) h0 hL hB9 hF9
    obtain ⟨I15, J15, B15, D15⟩ := u
    dsimp only at hok
    generalize t9.heap = H at hw ⊢
    generalize locs ++ L9 = locs at hw ⊢
    have hw : zW G A s.heap (wX ad K sv I15 J15 B15 D15) H locs := hw
    refine W.eq (g2 := F0 m 72 ls []) rfl ?_
    refine lv_aload_n hx hb zd_Formula_readUnit_72 rfl (lv_at hl 0 rfl) ?_
    refine lv_iconst (v := 4) hx hb zd_Formula_readUnit_73 (by decide) ?_
    refine lv_aload_n hx hb zd_Formula_readUnit_74 rfl (lv_at hl 0 rfl) ?_
    refine lv_iload_n hx hb zd_Formula_readUnit_75 rfl (lv_at hl 1 rfl) ?_
    refine lv_iconst (v := 1) hx hb zd_Formula_readUnit_76 (by decide) ?_
    refine lv_iadd hx hb zd_Formula_readUnit_77 ?_
    refine lv_topi (fun z16 ez16 => ?_)
    have hok := hok z16 ez16
    refine z_yV (q0 := 9) (wc := (wX ad K sv I15 J15 B15 D15)) (wr := []) (w1 := fun (u : zS) => wX ad K sv u.1 u.2.1 u.2.2.1 u.2.2.2) (As := [.int z16]) (rest := [.int 4, .ref (ad 9)]) ⟨hx, hb, hml, hown, hts⟩ (ihP.2.1 I15 J15 B15 D15 z16 _ _ H.size hok) zf_Formula_readUnit zn_487 ⟨(by first | omega | (dsimp only; omega) | exact Nat.le_of_ble_eq_true rfl), (by first | omega | (dsimp only; omega) | exact Nat.le_of_ble_eq_true rfl)⟩ hK hT hw hA (List.range 65) [] wX_all rfl wX_nd (by decide) (fun i hi => by cases hi) wX_g9 rfl rfl hl.1 rfl (by first | omega | (dsimp only; omega) | exact Nat.le_of_ble_eq_true rfl) zd_Formula_readUnit_78 ⟨(by first | omega | (dsimp only; omega) | exact Nat.le_of_ble_eq_true rfl), (by first | omega | (dsimp only; omega) | exact Nat.le_of_ble_eq_true rfl)⟩ (fun v st9 t9 L9 h0 hq hL => ?_) (fun E ce q9 u H locs hu hw hce hcv hcl => z_yout (u := u) hnt hlocks hce hcv hcl hw (List.range 65) wX_all wX_nd hu (by first | omega | (dsimp only; omega) | exact Nat.le_of_ble_eq_true rfl) (by first | omega | (dsimp only; omega) | exact Nat.le_of_ble_eq_true rfl))
    obtain ⟨⟨r17, u, hv9, hok, hB9⟩, hF9⟩ := hq
    cases hv9
    have hw := z_back (wr := []) hw hA (List.range 65) [] wX_all rfl (by decide) (fun i hi => by cases hi) h0 hL hB9 hF9
    obtain ⟨I17, J17, B17, D17⟩ := u
    dsimp only at hok
    generalize t9.heap = H at hw ⊢
    generalize locs ++ L9 = locs at hw ⊢
    have hw : zW G A s.heap (wX ad K sv I17 J17 B17 D17) H locs := hw
    refine W.eq (g2 := F0 m 81 ls [.int r17, .int 4, .ref (ad 9)]) rfl ?_
    refine lv_iconst (v := (-1)) hx hb zd_Formula_readUnit_81 (by decide) ?_
    refine z_calli (w1 := fun (u : zS) => wX ad K sv u.1 u.2.1 u.2.2.1 u.2.2.2) (wr := []) (z_runV (q0 := 9) (wc := (wX ad K sv I17 J17 B17 D17)) (As := [.int 4, .int r17, .int (-1)]) (rest := []) ⟨hx, hb, hml, hown, hts⟩ (w_Formula_addTemporal l G K ad sv I17 J17 B17 D17 4 r17 (-1) _ H.size hok) zf_Formula_addTemporal zn_494 ⟨(by first | omega | (dsimp only; omega) | exact Nat.le_of_ble_eq_true rfl), (by first | omega | (dsimp only; omega) | exact Nat.le_of_ble_eq_true rfl)⟩ hK hw (List.range 65) wX_all wX_nd wX_g9 rfl rfl hl.1 rfl (by first | omega | (dsimp only; omega) | exact Nat.le_of_ble_eq_true rfl) zd_Formula_readUnit_82 ⟨(by first | omega | (dsimp only; omega) | exact Nat.le_of_ble_eq_true rfl), (by first | omega | (dsimp only; omega) | exact Nat.le_of_ble_eq_true rfl)⟩) hw hA (List.range 65) [] wX_all rfl (by decide) (fun i hi => by cases hi) (fun r18 u H locs hok hw => ?_)
    obtain ⟨I18, J18, B18, D18⟩ := u
    dsimp only at hok
    have hw : zW G A s.heap (wX ad K sv I18 J18 B18 D18) H locs := hw
    exact zy_ret (z_iret (u := (I18, J18, B18, D18)) hx hb hr hlocks rfl hw (List.range 65) wX_all wX_nd hok (by first | omega | (dsimp only; omega) | exact Nat.le_of_ble_eq_true rfl) (by first | omega | (dsimp only; omega) | exact Nat.le_of_ble_eq_true rfl) zd_Formula_readUnit_85)
  have hok := hok.2.2.2.2 hs2 hs7 hs9 hs14
  refine lv_lookup (off := 104) (tgt := 111) hx hb zd_Formula_readUnit_7 (by decide) (by simp only [lv_osw hs2 (a := 33) (by decide), lv_osw hs7 (a := 40) (by decide), lv_osw hs9 (a := 70) (by decide), lv_osw hs14 (a := 71) (by decide)]; rfl) (by decide) ?_
  refine lv_aload_n hx hb zd_Formula_readUnit_111 rfl (lv_at hl 0 rfl) ?_
  refine z_yV (q0 := 9) (wc := (wX ad K sv I1 J1 B1 D1)) (wr := []) (w1 := fun (u : zS) => wX ad K sv u.1 u.2.1 u.2.2.1 u.2.2.2) (As := []) (rest := []) ⟨hx, hb, hml, hown, hts⟩ (w_Formula_readAtom l hlt G K ad sv I1 J1 B1 D1  _ _ H.size hok) zf_Formula_readAtom zn_497 ⟨(by first | omega | (dsimp only; omega) | exact Nat.le_of_ble_eq_true rfl), (by first | omega | (dsimp only; omega) | exact Nat.le_of_ble_eq_true rfl)⟩ hK hT hw hA (List.range 65) [] wX_all rfl wX_nd (by decide) (fun i hi => by cases hi) wX_g9 rfl rfl hl.1 rfl (by first | omega | (dsimp only; omega) | exact Nat.le_of_ble_eq_true rfl) zd_Formula_readUnit_112 ⟨(by first | omega | (dsimp only; omega) | exact Nat.le_of_ble_eq_true rfl), (by first | omega | (dsimp only; omega) | exact Nat.le_of_ble_eq_true rfl)⟩ (fun v st9 t9 L9 h0 hq hL => ?_) (fun E ce q9 u H locs hu hw hce hcv hcl => z_yout (u := u) hnt hlocks hce hcv hcl hw (List.range 65) wX_all wX_nd hu (by first | omega | (dsimp only; omega) | exact Nat.le_of_ble_eq_true rfl) (by first | omega | (dsimp only; omega) | exact Nat.le_of_ble_eq_true rfl))
  obtain ⟨⟨r19, u, hv9, hok, hB9⟩, hF9⟩ := hq
  cases hv9
  have hw := z_back (wr := []) hw hA (List.range 65) [] wX_all rfl (by decide) (fun i hi => by cases hi) h0 hL hB9 hF9
  obtain ⟨I19, J19, B19, D19⟩ := u
  dsimp only at hok
  generalize t9.heap = H at hw ⊢
  generalize locs ++ L9 = locs at hw ⊢
  have hw : zW G A s.heap (wX ad K sv I19 J19 B19 D19) H locs := hw
  refine W.eq (g2 := F0 m 115 ls [.int r19]) rfl ?_
  exact zy_ret (z_iret (u := (I19, J19, B19, D19)) hx hb hr hlocks rfl hw (List.range 65) wX_all wX_nd hok (by first | omega | (dsimp only; omega) | exact Nat.le_of_ble_eq_true rfl) (by first | omega | (dsimp only; omega) | exact Nat.le_of_ble_eq_true rfl) zd_Formula_readUnit_115)
def wp_Formula_readBracketed_R (I : Nat → Int32) (J : Nat → Int64) (B : Nat → Nat → Int32) (D : Nat → Nat → Int64) (P0 : zTgf0) (P1 : zTgf1) (P2 : zTgf2) (P3 : zTgf3) (a0 : Int32) (Post : Int32 → (Nat → Int32) → (Nat → Int64) → (Nat → Nat → Int32) → (Nat → Nat → Int64) → Prop) (PX : String → (Nat → Int32) → (Nat → Int64) → (Nat → Nat → Int32) → (Nat → Nat → Int64) → Prop) : Prop :=
  wp_Formula_goDeeper I J B D a0 (fun I1 J1 B1 D1 => ∀ z2 : Int32, z2 = (a0 + 1) → P0 I1 J1 B1 D1 0 z2 (fun r3 I3 J3 B3 D3 => wp_Text_expect I3 J3 B3 D3 41 (fun I4 J4 B4 D4 => Post r3 I4 J4 B4 D4) PX) PX) PX
set_option maxHeartbeats 8000000 in
set_option maxRecDepth 100000 in
theorem w_Formula_readBracketed_R (l : Launch) (hlt : l.stackTraces = false) (G : va_G) (K : Nat → ClassId) (ad : Nat → Nat) (sv : Value) (I : Nat → Int32) (J : Nat → Int64) (B : Nat → Nat → Int32) (D : Nat → Nat → Int64) (P0 : zTgf0) (P1 : zTgf1) (P2 : zTgf2) (P3 : zTgf3) (a0 : Int32) (Post : Int32 → (Nat → Int32) → (Nat → Int64) → (Nat → Nat → Int32) → (Nat → Nat → Int64) → Prop) (PX : String → (Nat → Int32) → (Nat → Int64) → (Nat → Nat → Int32) → (Nat → Nat → Int64) → Prop) (sz : Nat) (hok : wp_Formula_readBracketed_R I J B D P0 P1 P2 P3 a0 Post PX) (n8 : Nat) (ihP : zIH_gf l G K ad sv n8 P0 P1 P2 P3) : zyMet l zy_Formula_readBracketed (Cond.code zy_Formula_readBracketed prog_2_method_8_code 3 (some .int) :: zTB) { frames := n8 + 1 + 10, cells := 1, slots := 6, locals := (n8 + 1) * 25 + 171 } (va_Pc [.ref (ad 9), .int a0] (zPreY G K (wX ad K sv I J B D) sz)) (va_Qi (fun (r : Int32) (u : zS) => Post r u.1 u.2.1 u.2.2.1 u.2.2.2) (fun u t => zPost G K (va_A (wX ad K sv I J B D) sz) (wX ad K sv u.1 u.2.1 u.2.2.1 u.2.2.2) t) (va_A (wX ad K sv I J B D) sz)) (zYC (fun E (u : zS) => PX E u.1 u.2.1 u.2.2.1 u.2.2.2) (fun u => wX ad K sv u.1 u.2.1 u.2.2.1 u.2.2.2) G K (va_A (wX ad K sv I J B D) sz)) 1 6 (va_A (wX ad K sv I J B D) sz) := by
  refine zMetY (y := zy_Formula_readBracketed) (av := [.ref (ad 9), .int a0]) (maxL := 3) (cc := prog_2_method_8_code) (ret := (some .int)) (W0 := (wX ad K sv I J B D)) (sz := sz) (G := G) (K := K) (wt := zTB) (mc := 1) (ms := 6) (Qf := fun A => va_Qi (fun (r : Int32) (u : zS) => Post r u.1 u.2.1 u.2.2.1 u.2.2.2) (fun u t => zPost G K A (wX ad K sv u.1 u.2.1 u.2.2.1 u.2.2.2) t) A) (Xf := fun A => (zYC (fun E (u : zS) => PX E u.1 u.2.1 u.2.2.1 u.2.2.2) (fun u => wX ad K sv u.1 u.2.1 u.2.2.1 u.2.2.2) G K A)) (by decide) (by first | omega | (dsimp only; omega) | exact Nat.le_of_ble_eq_true rfl) ?_
  intro p e s m below meth c ls A hx hb hr hml hts hown hlocks hin hA hK H locs hw hsz hl hT hnt
  clear hsz
  have hown : s.vm.findClass "LassoFinder$Formula" = some m.cls := hown
  have C : zCy p l s m ([.ref (ad 9), .int a0] : List Value).toArray meth c A G K prog_2_method_8_code (some .int) 3 "LassoFinder$Formula" := ⟨hx, hb, hr, hml, hts, hown, hlocks, hA, hK, hT, hnt, hlt⟩
  have hl : lv_has ls 3 [(0, .ref (ad 9)), (1, .int a0)] := hl
  have hw : zW G A s.heap (wX ad K sv I J B D) H locs := hw
  unfold wp_Formula_readBracketed_R at hok
  refine lv_aload_n hx hb zd_Formula_readBracketed_0 rfl (lv_at hl 0 rfl) ?_
  refine lv_iload_n hx hb zd_Formula_readBracketed_1 rfl (lv_at hl 1 rfl) ?_
  refine z_yV (q0 := 9) (wc := (wX ad K sv I J B D)) (wr := []) (w1 := fun (u : zS) => wX ad K sv u.1 u.2.1 u.2.2.1 u.2.2.2) (As := [.int a0]) (rest := []) ⟨hx, hb, hml, hown, hts⟩ (w_Formula_goDeeper l hlt G K ad sv I J B D a0 _ _ H.size hok) zf_Formula_goDeeper zn_489 ⟨(by first | omega | (dsimp only; omega) | exact Nat.le_of_ble_eq_true rfl), (by first | omega | (dsimp only; omega) | exact Nat.le_of_ble_eq_true rfl)⟩ hK hT hw hA (List.range 65) [] wX_all rfl wX_nd (by decide) (fun i hi => by cases hi) wX_g9 rfl rfl hl.1 rfl (by first | omega | (dsimp only; omega) | exact Nat.le_of_ble_eq_true rfl) zd_Formula_readBracketed_2 ⟨(by first | omega | (dsimp only; omega) | exact Nat.le_of_ble_eq_true rfl), (by first | omega | (dsimp only; omega) | exact Nat.le_of_ble_eq_true rfl)⟩ (fun v st9 t9 L9 h0 hq hL => ?_) (fun E ce q9 u H locs hu hw hce hcv hcl => z_yout (u := u) hnt hlocks hce hcv hcl hw (List.range 65) wX_all wX_nd hu (by first | omega | (dsimp only; omega) | exact Nat.le_of_ble_eq_true rfl) (by first | omega | (dsimp only; omega) | exact Nat.le_of_ble_eq_true rfl))
  obtain ⟨⟨u, hv9, hok, hB9⟩, hF9⟩ := hq
  cases hv9
  have hw := z_back (wr := []) hw hA (List.range 65) [] wX_all rfl (by decide) (fun i hi => by cases hi) h0 hL hB9 hF9
  obtain ⟨I1, J1, B1, D1⟩ := u
  dsimp only at hok
  generalize t9.heap = H at hw ⊢
  generalize locs ++ L9 = locs at hw ⊢
  have hw : zW G A s.heap (wX ad K sv I1 J1 B1 D1) H locs := hw
  refine W.eq (g2 := F0 m 5 ls []) rfl ?_
  refine lv_aload_n hx hb zd_Formula_readBracketed_5 rfl (lv_at hl 0 rfl) ?_
  refine lv_iconst (v := 0) hx hb zd_Formula_readBracketed_6 (by decide) ?_
  refine lv_iload_n hx hb zd_Formula_readBracketed_7 rfl (lv_at hl 1 rfl) ?_
  refine lv_iconst (v := 1) hx hb zd_Formula_readBracketed_8 (by decide) ?_
  refine lv_iadd hx hb zd_Formula_readBracketed_9 ?_
  refine lv_topi (fun z2 ez2 => ?_)
  have hok := hok z2 ez2
  refine z_yV (q0 := 9) (wc := (wX ad K sv I1 J1 B1 D1)) (wr := []) (w1 := fun (u : zS) => wX ad K sv u.1 u.2.1 u.2.2.1 u.2.2.2) (As := [.int 0, .int z2]) (rest := []) ⟨hx, hb, hml, hown, hts⟩ (ihP.1 I1 J1 B1 D1 0 z2 _ _ H.size hok) zf_Formula_readFrom zn_486 ⟨(by first | omega | (dsimp only; omega) | exact Nat.le_of_ble_eq_true rfl), (by first | omega | (dsimp only; omega) | exact Nat.le_of_ble_eq_true rfl)⟩ hK hT hw hA (List.range 65) [] wX_all rfl wX_nd (by decide) (fun i hi => by cases hi) wX_g9 rfl rfl hl.1 rfl (by first | omega | (dsimp only; omega) | exact Nat.le_of_ble_eq_true rfl) zd_Formula_readBracketed_10 ⟨(by first | omega | (dsimp only; omega) | exact Nat.le_of_ble_eq_true rfl), (by first | omega | (dsimp only; omega) | exact Nat.le_of_ble_eq_true rfl)⟩ (fun v st9 t9 L9 h0 hq hL => ?_) (fun E ce q9 u H locs hu hw hce hcv hcl => z_yout (u := u) hnt hlocks hce hcv hcl hw (List.range 65) wX_all wX_nd hu (by first | omega | (dsimp only; omega) | exact Nat.le_of_ble_eq_true rfl) (by first | omega | (dsimp only; omega) | exact Nat.le_of_ble_eq_true rfl))
  obtain ⟨⟨r3, u, hv9, hok, hB9⟩, hF9⟩ := hq
  cases hv9
  have hw := z_back (wr := []) hw hA (List.range 65) [] wX_all rfl (by decide) (fun i hi => by cases hi) h0 hL hB9 hF9
  obtain ⟨I3, J3, B3, D3⟩ := u
  dsimp only at hok
  generalize t9.heap = H at hw ⊢
  generalize locs ++ L9 = locs at hw ⊢
  have hw : zW G A s.heap (wX ad K sv I3 J3 B3 D3) H locs := hw
  refine W.eq (g2 := F0 m 13 ls [.int r3]) rfl ?_
  refine lv_istore_n hx hb zd_Formula_readBracketed_13 rfl hl (by decide) rfl (fun ls hl => ?_)
  have hl : lv_has ls 3 [(2, .int r3), (0, .ref (ad 9)), (1, .int a0)] := hl
  refine lv_aload_n hx hb zd_Formula_readBracketed_14 rfl (lv_at hl 1 rfl) ?_
  refine z_get (v := .ref (ad 1)) hx hb hts hown hK hw zZ1 9 wX_g9 0 (by decide) zn_518 rfl zd_Formula_readBracketed_15 ?_
  refine lv_bipush (v := 41) hx hb zd_Formula_readBracketed_18 (by decide) ?_
  refine z_yV (q0 := 1) (wc := (wX ad K sv I3 J3 B3 D3)) (wr := []) (w1 := fun (u : zS) => wX ad K sv u.1 u.2.1 u.2.2.1 u.2.2.2) (As := [.int 41]) (rest := []) ⟨hx, hb, hml, hown, hts⟩ (w_Text_expect l hlt G K ad sv I3 J3 B3 D3 41 _ _ H.size hok) zf_Text_expect zn_496 ⟨(by first | omega | (dsimp only; omega) | exact Nat.le_of_ble_eq_true rfl), (by first | omega | (dsimp only; omega) | exact Nat.le_of_ble_eq_true rfl)⟩ hK hT hw hA (List.range 65) [] wX_all rfl wX_nd (by decide) (fun i hi => by cases hi) wX_g1 rfl rfl hl.1 rfl (by first | omega | (dsimp only; omega) | exact Nat.le_of_ble_eq_true rfl) zd_Formula_readBracketed_20 ⟨(by first | omega | (dsimp only; omega) | exact Nat.le_of_ble_eq_true rfl), (by first | omega | (dsimp only; omega) | exact Nat.le_of_ble_eq_true rfl)⟩ (fun v st9 t9 L9 h0 hq hL => ?_) (fun E ce q9 u H locs hu hw hce hcv hcl => z_yout (u := u) hnt hlocks hce hcv hcl hw (List.range 65) wX_all wX_nd hu (by first | omega | (dsimp only; omega) | exact Nat.le_of_ble_eq_true rfl) (by first | omega | (dsimp only; omega) | exact Nat.le_of_ble_eq_true rfl))
  obtain ⟨⟨u, hv9, hok, hB9⟩, hF9⟩ := hq
  cases hv9
  have hw := z_back (wr := []) hw hA (List.range 65) [] wX_all rfl (by decide) (fun i hi => by cases hi) h0 hL hB9 hF9
  obtain ⟨I4, J4, B4, D4⟩ := u
  dsimp only at hok
  generalize t9.heap = H at hw ⊢
  generalize locs ++ L9 = locs at hw ⊢
  have hw : zW G A s.heap (wX ad K sv I4 J4 B4 D4) H locs := hw
  refine W.eq (g2 := F0 m 23 ls []) rfl ?_
  refine lv_iload_n hx hb zd_Formula_readBracketed_23 rfl (lv_at hl 0 rfl) ?_
  exact zy_ret (z_iret (u := (I4, J4, B4, D4)) hx hb hr hlocks rfl hw (List.range 65) wX_all wX_nd hok (by first | omega | (dsimp only; omega) | exact Nat.le_of_ble_eq_true rfl) (by first | omega | (dsimp only; omega) | exact Nat.le_of_ble_eq_true rfl) zd_Formula_readBracketed_24)
def wc_Formula_readSecond_R_82 (P0 : zTgf0) (P1 : zTgf1) (P2 : zTgf2) (P3 : zTgf3) (a0 : Int32) (a1 : Int32) (a2 : Int32) (Post : Int32 → (Nat → Int32) → (Nat → Int64) → (Nat → Nat → Int32) → (Nat → Nat → Int64) → Prop) (PX : String → (Nat → Int32) → (Nat → Int64) → (Nat → Nat → Int32) → (Nat → Nat → Int64) → Prop) (x1 : Int32) (x2 : Int32) (x3 : Int32) (I : Nat → Int32) (J : Nat → Int64) (B : Nat → Nat → Int32) (D : Nat → Nat → Int64) : Prop :=
  wp_Text_skip I J B D  (fun I1 J1 B1 D1 => wp_Formula_strengthOf I1 J1 B1 D1 x1 (fun r2 I2 J2 B2 D2 => ∀ z3 : Int32, z3 = (r2 + 1) → P0 I2 J2 B2 D2 z3 x3 (fun r4 I4 J4 B4 D4 => wp_Formula_add I4 J4 B4 D4 x1 x2 r4 (fun r5 I5 J5 B5 D5 => Post r5 I5 J5 B5 D5)) PX))
def wc_Formula_readSecond_R_59 (P0 : zTgf0) (P1 : zTgf1) (P2 : zTgf2) (P3 : zTgf3) (a0 : Int32) (a1 : Int32) (a2 : Int32) (Post : Int32 → (Nat → Int32) → (Nat → Int64) → (Nat → Nat → Int32) → (Nat → Nat → Int64) → Prop) (PX : String → (Nat → Int32) → (Nat → Int64) → (Nat → Nat → Int32) → (Nat → Nat → Int64) → Prop) (x1 : Int32) (x2 : Int32) (x3 : Int32) (I : Nat → Int32) (J : Nat → Int64) (B : Nat → Nat → Int32) (D : Nat → Nat → Int64) : Prop :=
  wp_Formula_meetTemporal I J B D x3 (fun I6 J6 B6 D6 => wp_Formula_strengthOf I6 J6 B6 D6 x1 (fun r7 I7 J7 B7 D7 => ∀ z8 : Int32, z8 = (x3 + 1) → P0 I7 J7 B7 D7 r7 z8 (fun r9 I9 J9 B9 D9 => wp_Formula_addTemporal I9 J9 B9 D9 x1 x2 r9 (fun r10 I10 J10 B10 D10 => Post r10 I10 J10 B10 D10)) PX)) PX
def wp_Formula_readSecond_R (I : Nat → Int32) (J : Nat → Int64) (B : Nat → Nat → Int32) (D : Nat → Nat → Int64) (P0 : zTgf0) (P1 : zTgf1) (P2 : zTgf2) (P3 : zTgf3) (a0 : Int32) (a1 : Int32) (a2 : Int32) (Post : Int32 → (Nat → Int32) → (Nat → Int64) → (Nat → Nat → Int32) → (Nat → Nat → Int64) → Prop) (PX : String → (Nat → Int32) → (Nat → Int64) → (Nat → Nat → Int32) → (Nat → Nat → Int64) → Prop) : Prop :=
  ((a0 = 3 → wp_Formula_goDeeper I J B D a2 (fun I12 J12 B12 D12 => wp_Formula_strengthOf I12 J12 B12 D12 a0 (fun r13 I13 J13 B13 D13 => ∀ z14 : Int32, z14 = (a2 + 1) → P0 I13 J13 B13 D13 r13 z14 (fun r15 I15 J15 B15 D15 => wp_Formula_add I15 J15 B15 D15 a0 a1 r15 (fun r16 I16 J16 B16 D16 => Post r16 I16 J16 B16 D16)) PX)) PX) ∧ (a0 = 4 → wc_Formula_readSecond_R_82 P0 P1 P2 P3 a0 a1 a2 Post PX a0 a1 a2 I J B D) ∧ (a0 = 5 → wc_Formula_readSecond_R_82 P0 P1 P2 P3 a0 a1 a2 Post PX a0 a1 a2 I J B D) ∧ (a0 = 6 → wc_Formula_readSecond_R_59 P0 P1 P2 P3 a0 a1 a2 Post PX a0 a1 a2 I J B D) ∧ (a0 = 7 → wc_Formula_readSecond_R_59 P0 P1 P2 P3 a0 a1 a2 Post PX a0 a1 a2 I J B D) ∧ (¬ a0 = 3 → ¬ a0 = 4 → ¬ a0 = 5 → ¬ a0 = 6 → ¬ a0 = 7 → wc_Formula_readSecond_R_82 P0 P1 P2 P3 a0 a1 a2 Post PX a0 a1 a2 I J B D))
set_option maxHeartbeats 8000000 in
set_option maxRecDepth 100000 in
theorem wJ_Formula_readSecond_R_82 {p : Program} {l : Launch} {e : Env} {s : State} {m : MethodId} {below : List Frame} {meth : Method} {c : Code} {A : Nat → Prop} (G : va_G) (K : Nat → ClassId) (ad : Nat → Nat) (sv : Value) (P0 : zTgf0) (P1 : zTgf1) (P2 : zTgf2) (P3 : zTgf3) (a0 : Int32) (a1 : Int32) (a2 : Int32) (Post : Int32 → (Nat → Int32) → (Nat → Int64) → (Nat → Nat → Int32) → (Nat → Nat → Int64) → Prop) (PX : String → (Nat → Int32) → (Nat → Int64) → (Nat → Nat → Int32) → (Nat → Nat → Int64) → Prop) (C : zCy p l s m ([.ref (ad 9), .int a0, .int a1, .int a2] : List Value).toArray meth c A G K prog_2_method_4_code (some .int) 4 "LassoFinder$Formula") (n8 : Nat) (ihP : zIH_gf l G K ad sv n8 P0 P1 P2 P3) : ∀ (x1 : Int32) (x2 : Int32) (x3 : Int32) (I : Nat → Int32) (J : Nat → Int64) (B : Nat → Nat → Int32) (D : Nat → Nat → Int64) (ls : Array Slot) (H : Heap) (locs : List Loc), wc_Formula_readSecond_R_82 P0 P1 P2 P3 a0 a1 a2 Post PX x1 x2 x3 I J B D → lv_has ls 4 [(0, .ref (ad 9)), (1, .int x1), (2, .int x2), (3, .int x3)] → zW G A s.heap (wX ad K sv I J B D) H locs → W p l e { frames := n8 + 1 + 10, cells := 1, slots := 6, locals := (n8 + 1) * 25 + 171 } s m ([.ref (ad 9), .int a0, .int a1, .int a2] : List Value).toArray below meth c H locs 0 0 (zyMQ below (va_Qi (fun (r : Int32) (u : zS) => Post r u.1 u.2.1 u.2.2.1 u.2.2.2) (fun u t => zPost G K A (wX ad K sv u.1 u.2.1 u.2.2.1 u.2.2.2) t) A) (zYC (fun E (u : zS) => PX E u.1 u.2.1 u.2.2.1 u.2.2.2) (fun u => wX ad K sv u.1 u.2.1 u.2.2.1 u.2.2.2) G K A) ([.ref (ad 9), .int a0, .int a1, .int a2] : List Value).toArray s 1 6 A) (F0 m 82 ls []) := by
  obtain ⟨hx, hb, hr, hml, hts, hown, hlocks, hA, hK, hT, hnt, hlt⟩ := id C
  intro x1 x2 x3 I J B D ls H locs hok hl hw
  unfold wc_Formula_readSecond_R_82 at hok
  refine lv_aload_n hx hb zd_Formula_readSecond_82 rfl (lv_at hl 0 rfl) ?_
  refine z_get (v := .ref (ad 1)) hx hb hts hown hK hw zZ1 9 wX_g9 0 (by decide) zn_518 rfl zd_Formula_readSecond_83 ?_
  refine z_callv (w1 := fun (u : zS) => wX ad K sv u.1 u.2.1 u.2.2.1 u.2.2.2) (wr := []) (z_runV (q0 := 1) (wc := (wX ad K sv I J B D)) (As := []) (rest := []) ⟨hx, hb, hml, hown, hts⟩ (w_Text_skip l G K ad sv I J B D  _ H.size hok) zf_Text_skip zn_491 ⟨(by first | omega | (dsimp only; omega) | exact Nat.le_of_ble_eq_true rfl), (by first | omega | (dsimp only; omega) | exact Nat.le_of_ble_eq_true rfl)⟩ hK hw (List.range 65) wX_all wX_nd wX_g1 rfl rfl hl.1 rfl (by first | omega | (dsimp only; omega) | exact Nat.le_of_ble_eq_true rfl) zd_Formula_readSecond_86 ⟨(by first | omega | (dsimp only; omega) | exact Nat.le_of_ble_eq_true rfl), (by first | omega | (dsimp only; omega) | exact Nat.le_of_ble_eq_true rfl)⟩) hw hA (List.range 65) [] wX_all rfl (by decide) (fun i hi => by cases hi) (fun u H locs hok hw => ?_)
  obtain ⟨I1, J1, B1, D1⟩ := u
  dsimp only at hok
  have hw : zW G A s.heap (wX ad K sv I1 J1 B1 D1) H locs := hw
  refine lv_aload_n hx hb zd_Formula_readSecond_89 rfl (lv_at hl 0 rfl) ?_
  refine lv_iload_n hx hb zd_Formula_readSecond_90 rfl (lv_at hl 1 rfl) ?_
  refine lv_iload_n hx hb zd_Formula_readSecond_91 rfl (lv_at hl 2 rfl) ?_
  refine lv_aload_n hx hb zd_Formula_readSecond_92 rfl (lv_at hl 0 rfl) ?_
  refine lv_iload_n hx hb zd_Formula_readSecond_93 rfl (lv_at hl 1 rfl) ?_
  refine z_calli (w1 := fun (u : zS) => wX ad K sv u.1 u.2.1 u.2.2.1 u.2.2.2) (wr := []) (z_runS (wc := (wX ad K sv I1 J1 B1 D1)) (As := [.int x1]) (rest := [.ref (ad 9), .int x2, .int x1, .ref (ad 9)]) ⟨hx, hb, hml, hown, hts⟩ (w_Formula_strengthOf l G K ad sv I1 J1 B1 D1 x1 _ H.size hok) zf_Formula_strengthOf zn_501 ⟨(by first | omega | (dsimp only; omega) | exact Nat.le_of_ble_eq_true rfl), (by first | omega | (dsimp only; omega) | exact Nat.le_of_ble_eq_true rfl)⟩ hK hw (List.range 65) wX_all wX_nd rfl hl.1 rfl (by first | omega | (dsimp only; omega) | exact Nat.le_of_ble_eq_true rfl) zd_Formula_readSecond_94 ⟨(by first | omega | (dsimp only; omega) | exact Nat.le_of_ble_eq_true rfl), (by first | omega | (dsimp only; omega) | exact Nat.le_of_ble_eq_true rfl)⟩) hw hA (List.range 65) [] wX_all rfl (by decide) (fun i hi => by cases hi) (fun r2 u H locs hok hw => ?_)
  obtain ⟨I2, J2, B2, D2⟩ := u
  dsimp only at hok
  have hw : zW G A s.heap (wX ad K sv I2 J2 B2 D2) H locs := hw
  refine lv_iconst (v := 1) hx hb zd_Formula_readSecond_97 (by decide) ?_
  refine lv_iadd hx hb zd_Formula_readSecond_98 ?_
  refine lv_topi (fun z3 ez3 => ?_)
  have hok := hok z3 ez3
  refine lv_iload_n hx hb zd_Formula_readSecond_99 rfl (lv_at hl 3 rfl) ?_
  refine z_yV (q0 := 9) (wc := (wX ad K sv I2 J2 B2 D2)) (wr := []) (w1 := fun (u : zS) => wX ad K sv u.1 u.2.1 u.2.2.1 u.2.2.2) (As := [.int z3, .int x3]) (rest := [.int x2, .int x1, .ref (ad 9)]) ⟨hx, hb, hml, hown, hts⟩ (ihP.1 I2 J2 B2 D2 z3 x3 _ _ H.size hok) zf_Formula_readFrom zn_486 ⟨(by first | omega | (dsimp only; omega) | exact Nat.le_of_ble_eq_true rfl), (by first | omega | (dsimp only; omega) | exact Nat.le_of_ble_eq_true rfl)⟩ hK hT hw hA (List.range 65) [] wX_all rfl wX_nd (by decide) (fun i hi => by cases hi) wX_g9 rfl rfl hl.1 rfl (by first | omega | (dsimp only; omega) | exact Nat.le_of_ble_eq_true rfl) zd_Formula_readSecond_100 ⟨(by first | omega | (dsimp only; omega) | exact Nat.le_of_ble_eq_true rfl), (by first | omega | (dsimp only; omega) | exact Nat.le_of_ble_eq_true rfl)⟩ (fun v st9 t9 L9 h0 hq hL => ?_) (fun E ce q9 u H locs hu hw hce hcv hcl => z_yout (u := u) hnt hlocks hce hcv hcl hw (List.range 65) wX_all wX_nd hu (by first | omega | (dsimp only; omega) | exact Nat.le_of_ble_eq_true rfl) (by first | omega | (dsimp only; omega) | exact Nat.le_of_ble_eq_true rfl))
  obtain ⟨⟨r4, u, hv9, hok, hB9⟩, hF9⟩ := hq
  cases hv9
  have hw := z_back (wr := []) hw hA (List.range 65) [] wX_all rfl (by decide) (fun i hi => by cases hi) h0 hL hB9 hF9
  obtain ⟨I4, J4, B4, D4⟩ := u
  dsimp only at hok
  generalize t9.heap = H at hw ⊢
  generalize locs ++ L9 = locs at hw ⊢
  have hw : zW G A s.heap (wX ad K sv I4 J4 B4 D4) H locs := hw
  refine W.eq (g2 := F0 m 103 ls [.int r4, .int x2, .int x1, .ref (ad 9)]) rfl ?_
  refine z_calli (w1 := fun (u : zS) => wX ad K sv u.1 u.2.1 u.2.2.1 u.2.2.2) (wr := []) (z_runV (q0 := 9) (wc := (wX ad K sv I4 J4 B4 D4)) (As := [.int x1, .int x2, .int r4]) (rest := []) ⟨hx, hb, hml, hown, hts⟩ (w_Formula_add l G K ad sv I4 J4 B4 D4 x1 x2 r4 _ H.size hok) zf_Formula_add zn_492 ⟨(by first | omega | (dsimp only; omega) | exact Nat.le_of_ble_eq_true rfl), (by first | omega | (dsimp only; omega) | exact Nat.le_of_ble_eq_true rfl)⟩ hK hw (List.range 65) wX_all wX_nd wX_g9 rfl rfl hl.1 rfl (by first | omega | (dsimp only; omega) | exact Nat.le_of_ble_eq_true rfl) zd_Formula_readSecond_103 ⟨(by first | omega | (dsimp only; omega) | exact Nat.le_of_ble_eq_true rfl), (by first | omega | (dsimp only; omega) | exact Nat.le_of_ble_eq_true rfl)⟩) hw hA (List.range 65) [] wX_all rfl (by decide) (fun i hi => by cases hi) (fun r5 u H locs hok hw => ?_)
  obtain ⟨I5, J5, B5, D5⟩ := u
  dsimp only at hok
  have hw : zW G A s.heap (wX ad K sv I5 J5 B5 D5) H locs := hw
  exact zy_ret (z_iret (u := (I5, J5, B5, D5)) hx hb hr hlocks rfl hw (List.range 65) wX_all wX_nd hok (by first | omega | (dsimp only; omega) | exact Nat.le_of_ble_eq_true rfl) (by first | omega | (dsimp only; omega) | exact Nat.le_of_ble_eq_true rfl) zd_Formula_readSecond_106)
set_option maxHeartbeats 8000000 in
set_option maxRecDepth 100000 in
theorem wJ_Formula_readSecond_R_59 {p : Program} {l : Launch} {e : Env} {s : State} {m : MethodId} {below : List Frame} {meth : Method} {c : Code} {A : Nat → Prop} (G : va_G) (K : Nat → ClassId) (ad : Nat → Nat) (sv : Value) (P0 : zTgf0) (P1 : zTgf1) (P2 : zTgf2) (P3 : zTgf3) (a0 : Int32) (a1 : Int32) (a2 : Int32) (Post : Int32 → (Nat → Int32) → (Nat → Int64) → (Nat → Nat → Int32) → (Nat → Nat → Int64) → Prop) (PX : String → (Nat → Int32) → (Nat → Int64) → (Nat → Nat → Int32) → (Nat → Nat → Int64) → Prop) (C : zCy p l s m ([.ref (ad 9), .int a0, .int a1, .int a2] : List Value).toArray meth c A G K prog_2_method_4_code (some .int) 4 "LassoFinder$Formula") (n8 : Nat) (ihP : zIH_gf l G K ad sv n8 P0 P1 P2 P3) : ∀ (x1 : Int32) (x2 : Int32) (x3 : Int32) (I : Nat → Int32) (J : Nat → Int64) (B : Nat → Nat → Int32) (D : Nat → Nat → Int64) (ls : Array Slot) (H : Heap) (locs : List Loc), wc_Formula_readSecond_R_59 P0 P1 P2 P3 a0 a1 a2 Post PX x1 x2 x3 I J B D → lv_has ls 4 [(0, .ref (ad 9)), (1, .int x1), (2, .int x2), (3, .int x3)] → zW G A s.heap (wX ad K sv I J B D) H locs → W p l e { frames := n8 + 1 + 10, cells := 1, slots := 6, locals := (n8 + 1) * 25 + 171 } s m ([.ref (ad 9), .int a0, .int a1, .int a2] : List Value).toArray below meth c H locs 0 0 (zyMQ below (va_Qi (fun (r : Int32) (u : zS) => Post r u.1 u.2.1 u.2.2.1 u.2.2.2) (fun u t => zPost G K A (wX ad K sv u.1 u.2.1 u.2.2.1 u.2.2.2) t) A) (zYC (fun E (u : zS) => PX E u.1 u.2.1 u.2.2.1 u.2.2.2) (fun u => wX ad K sv u.1 u.2.1 u.2.2.1 u.2.2.2) G K A) ([.ref (ad 9), .int a0, .int a1, .int a2] : List Value).toArray s 1 6 A) (F0 m 59 ls []) := by
  obtain ⟨hx, hb, hr, hml, hts, hown, hlocks, hA, hK, hT, hnt, hlt⟩ := id C
  intro x1 x2 x3 I J B D ls H locs hok hl hw
  unfold wc_Formula_readSecond_R_59 at hok
  refine lv_aload_n hx hb zd_Formula_readSecond_59 rfl (lv_at hl 0 rfl) ?_
  refine lv_iload_n hx hb zd_Formula_readSecond_60 rfl (lv_at hl 3 rfl) ?_
  refine z_yV (q0 := 9) (wc := (wX ad K sv I J B D)) (wr := []) (w1 := fun (u : zS) => wX ad K sv u.1 u.2.1 u.2.2.1 u.2.2.2) (As := [.int x3]) (rest := []) ⟨hx, hb, hml, hown, hts⟩ (w_Formula_meetTemporal l hlt G K ad sv I J B D x3 _ _ H.size hok) zf_Formula_meetTemporal zn_493 ⟨(by first | omega | (dsimp only; omega) | exact Nat.le_of_ble_eq_true rfl), (by first | omega | (dsimp only; omega) | exact Nat.le_of_ble_eq_true rfl)⟩ hK hT hw hA (List.range 65) [] wX_all rfl wX_nd (by decide) (fun i hi => by cases hi) wX_g9 rfl rfl hl.1 rfl (by first | omega | (dsimp only; omega) | exact Nat.le_of_ble_eq_true rfl) zd_Formula_readSecond_61 ⟨(by first | omega | (dsimp only; omega) | exact Nat.le_of_ble_eq_true rfl), (by first | omega | (dsimp only; omega) | exact Nat.le_of_ble_eq_true rfl)⟩ (fun v st9 t9 L9 h0 hq hL => ?_) (fun E ce q9 u H locs hu hw hce hcv hcl => z_yout (u := u) hnt hlocks hce hcv hcl hw (List.range 65) wX_all wX_nd hu (by first | omega | (dsimp only; omega) | exact Nat.le_of_ble_eq_true rfl) (by first | omega | (dsimp only; omega) | exact Nat.le_of_ble_eq_true rfl))
  obtain ⟨⟨u, hv9, hok, hB9⟩, hF9⟩ := hq
  cases hv9
  have hw := z_back (wr := []) hw hA (List.range 65) [] wX_all rfl (by decide) (fun i hi => by cases hi) h0 hL hB9 hF9
  obtain ⟨I6, J6, B6, D6⟩ := u
  dsimp only at hok
  generalize t9.heap = H at hw ⊢
  generalize locs ++ L9 = locs at hw ⊢
  have hw : zW G A s.heap (wX ad K sv I6 J6 B6 D6) H locs := hw
  refine W.eq (g2 := F0 m 64 ls []) rfl ?_
  refine lv_aload_n hx hb zd_Formula_readSecond_64 rfl (lv_at hl 0 rfl) ?_
  refine lv_iload_n hx hb zd_Formula_readSecond_65 rfl (lv_at hl 1 rfl) ?_
  refine lv_iload_n hx hb zd_Formula_readSecond_66 rfl (lv_at hl 2 rfl) ?_
  refine lv_aload_n hx hb zd_Formula_readSecond_67 rfl (lv_at hl 0 rfl) ?_
  refine lv_iload_n hx hb zd_Formula_readSecond_68 rfl (lv_at hl 1 rfl) ?_
  refine z_calli (w1 := fun (u : zS) => wX ad K sv u.1 u.2.1 u.2.2.1 u.2.2.2) (wr := []) (z_runS (wc := (wX ad K sv I6 J6 B6 D6)) (As := [.int x1]) (rest := [.ref (ad 9), .int x2, .int x1, .ref (ad 9)]) ⟨hx, hb, hml, hown, hts⟩ (w_Formula_strengthOf l G K ad sv I6 J6 B6 D6 x1 _ H.size hok) zf_Formula_strengthOf zn_501 ⟨(by first | omega | (dsimp only; omega) | exact Nat.le_of_ble_eq_true rfl), (by first | omega | (dsimp only; omega) | exact Nat.le_of_ble_eq_true rfl)⟩ hK hw (List.range 65) wX_all wX_nd rfl hl.1 rfl (by first | omega | (dsimp only; omega) | exact Nat.le_of_ble_eq_true rfl) zd_Formula_readSecond_69 ⟨(by first | omega | (dsimp only; omega) | exact Nat.le_of_ble_eq_true rfl), (by first | omega | (dsimp only; omega) | exact Nat.le_of_ble_eq_true rfl)⟩) hw hA (List.range 65) [] wX_all rfl (by decide) (fun i hi => by cases hi) (fun r7 u H locs hok hw => ?_)
  obtain ⟨I7, J7, B7, D7⟩ := u
  dsimp only at hok
  have hw : zW G A s.heap (wX ad K sv I7 J7 B7 D7) H locs := hw
  refine lv_iload_n hx hb zd_Formula_readSecond_72 rfl (lv_at hl 3 rfl) ?_
  refine lv_iconst (v := 1) hx hb zd_Formula_readSecond_73 (by decide) ?_
  refine lv_iadd hx hb zd_Formula_readSecond_74 ?_
  refine lv_topi (fun z8 ez8 => ?_)
  have hok := hok z8 ez8
  refine z_yV (q0 := 9) (wc := (wX ad K sv I7 J7 B7 D7)) (wr := []) (w1 := fun (u : zS) => wX ad K sv u.1 u.2.1 u.2.2.1 u.2.2.2) (As := [.int r7, .int z8]) (rest := [.int x2, .int x1, .ref (ad 9)]) ⟨hx, hb, hml, hown, hts⟩ (ihP.1 I7 J7 B7 D7 r7 z8 _ _ H.size hok) zf_Formula_readFrom zn_486 ⟨(by first | omega | (dsimp only; omega) | exact Nat.le_of_ble_eq_true rfl), (by first | omega | (dsimp only; omega) | exact Nat.le_of_ble_eq_true rfl)⟩ hK hT hw hA (List.range 65) [] wX_all rfl wX_nd (by decide) (fun i hi => by cases hi) wX_g9 rfl rfl hl.1 rfl (by first | omega | (dsimp only; omega) | exact Nat.le_of_ble_eq_true rfl) zd_Formula_readSecond_75 ⟨(by first | omega | (dsimp only; omega) | exact Nat.le_of_ble_eq_true rfl), (by first | omega | (dsimp only; omega) | exact Nat.le_of_ble_eq_true rfl)⟩ (fun v st9 t9 L9 h0 hq hL => ?_) (fun E ce q9 u H locs hu hw hce hcv hcl => z_yout (u := u) hnt hlocks hce hcv hcl hw (List.range 65) wX_all wX_nd hu (by first | omega | (dsimp only; omega) | exact Nat.le_of_ble_eq_true rfl) (by first | omega | (dsimp only; omega) | exact Nat.le_of_ble_eq_true rfl))
  obtain ⟨⟨r9, u, hv9, hok, hB9⟩, hF9⟩ := hq
  cases hv9
  have hw := z_back (wr := []) hw hA (List.range 65) [] wX_all rfl (by decide) (fun i hi => by cases hi) h0 hL hB9 hF9
  obtain ⟨I9, J9, B9, D9⟩ := u
  dsimp only at hok
  generalize t9.heap = H at hw ⊢
  generalize locs ++ L9 = locs at hw ⊢
  have hw : zW G A s.heap (wX ad K sv I9 J9 B9 D9) H locs := hw
  refine W.eq (g2 := F0 m 78 ls [.int r9, .int x2, .int x1, .ref (ad 9)]) rfl ?_
  refine z_calli (w1 := fun (u : zS) => wX ad K sv u.1 u.2.1 u.2.2.1 u.2.2.2) (wr := []) (z_runV (q0 := 9) (wc := (wX ad K sv I9 J9 B9 D9)) (As := [.int x1, .int x2, .int r9]) (rest := []) ⟨hx, hb, hml, hown, hts⟩ (w_Formula_addTemporal l G K ad sv I9 J9 B9 D9 x1 x2 r9 _ H.size hok) zf_Formula_addTemporal zn_494 ⟨(by first | omega | (dsimp only; omega) | exact Nat.le_of_ble_eq_true rfl), (by first | omega | (dsimp only; omega) | exact Nat.le_of_ble_eq_true rfl)⟩ hK hw (List.range 65) wX_all wX_nd wX_g9 rfl rfl hl.1 rfl (by first | omega | (dsimp only; omega) | exact Nat.le_of_ble_eq_true rfl) zd_Formula_readSecond_78 ⟨(by first | omega | (dsimp only; omega) | exact Nat.le_of_ble_eq_true rfl), (by first | omega | (dsimp only; omega) | exact Nat.le_of_ble_eq_true rfl)⟩) hw hA (List.range 65) [] wX_all rfl (by decide) (fun i hi => by cases hi) (fun r10 u H locs hok hw => ?_)
  obtain ⟨I10, J10, B10, D10⟩ := u
  dsimp only at hok
  have hw : zW G A s.heap (wX ad K sv I10 J10 B10 D10) H locs := hw
  exact zy_ret (z_iret (u := (I10, J10, B10, D10)) hx hb hr hlocks rfl hw (List.range 65) wX_all wX_nd hok (by first | omega | (dsimp only; omega) | exact Nat.le_of_ble_eq_true rfl) (by first | omega | (dsimp only; omega) | exact Nat.le_of_ble_eq_true rfl) zd_Formula_readSecond_81)
set_option maxHeartbeats 8000000 in
set_option maxRecDepth 100000 in
theorem w_Formula_readSecond_R (l : Launch) (hlt : l.stackTraces = false) (G : va_G) (K : Nat → ClassId) (ad : Nat → Nat) (sv : Value) (I : Nat → Int32) (J : Nat → Int64) (B : Nat → Nat → Int32) (D : Nat → Nat → Int64) (P0 : zTgf0) (P1 : zTgf1) (P2 : zTgf2) (P3 : zTgf3) (a0 : Int32) (a1 : Int32) (a2 : Int32) (Post : Int32 → (Nat → Int32) → (Nat → Int64) → (Nat → Nat → Int32) → (Nat → Nat → Int64) → Prop) (PX : String → (Nat → Int32) → (Nat → Int64) → (Nat → Nat → Int32) → (Nat → Nat → Int64) → Prop) (sz : Nat) (hok : wp_Formula_readSecond_R I J B D P0 P1 P2 P3 a0 a1 a2 Post PX) (n8 : Nat) (ihP : zIH_gf l G K ad sv n8 P0 P1 P2 P3) : zyMet l zy_Formula_readSecond (Cond.code zy_Formula_readSecond prog_2_method_4_code 4 (some .int) :: zTB) { frames := n8 + 1 + 10, cells := 1, slots := 6, locals := (n8 + 1) * 25 + 171 } (va_Pc [.ref (ad 9), .int a0, .int a1, .int a2] (zPreY G K (wX ad K sv I J B D) sz)) (va_Qi (fun (r : Int32) (u : zS) => Post r u.1 u.2.1 u.2.2.1 u.2.2.2) (fun u t => zPost G K (va_A (wX ad K sv I J B D) sz) (wX ad K sv u.1 u.2.1 u.2.2.1 u.2.2.2) t) (va_A (wX ad K sv I J B D) sz)) (zYC (fun E (u : zS) => PX E u.1 u.2.1 u.2.2.1 u.2.2.2) (fun u => wX ad K sv u.1 u.2.1 u.2.2.1 u.2.2.2) G K (va_A (wX ad K sv I J B D) sz)) 1 6 (va_A (wX ad K sv I J B D) sz) := by
  refine zMetY (y := zy_Formula_readSecond) (av := [.ref (ad 9), .int a0, .int a1, .int a2]) (maxL := 4) (cc := prog_2_method_4_code) (ret := (some .int)) (W0 := (wX ad K sv I J B D)) (sz := sz) (G := G) (K := K) (wt := zTB) (mc := 1) (ms := 6) (Qf := fun A => va_Qi (fun (r : Int32) (u : zS) => Post r u.1 u.2.1 u.2.2.1 u.2.2.2) (fun u t => zPost G K A (wX ad K sv u.1 u.2.1 u.2.2.1 u.2.2.2) t) A) (Xf := fun A => (zYC (fun E (u : zS) => PX E u.1 u.2.1 u.2.2.1 u.2.2.2) (fun u => wX ad K sv u.1 u.2.1 u.2.2.1 u.2.2.2) G K A)) (by decide) (by first | omega | (dsimp only; omega) | exact Nat.le_of_ble_eq_true rfl) ?_
  intro p e s m below meth c ls A hx hb hr hml hts hown hlocks hin hA hK H locs hw hsz hl hT hnt
  clear hsz
  have hown : s.vm.findClass "LassoFinder$Formula" = some m.cls := hown
  have C : zCy p l s m ([.ref (ad 9), .int a0, .int a1, .int a2] : List Value).toArray meth c A G K prog_2_method_4_code (some .int) 4 "LassoFinder$Formula" := ⟨hx, hb, hr, hml, hts, hown, hlocks, hA, hK, hT, hnt, hlt⟩
  have hl : lv_has ls 4 [(0, .ref (ad 9)), (1, .int a0), (2, .int a1), (3, .int a2)] := hl
  have hw : zW G A s.heap (wX ad K sv I J B D) H locs := hw
  unfold wp_Formula_readSecond_R at hok
  refine lv_iload_n hx hb zd_Formula_readSecond_0 rfl (lv_at hl 1 rfl) ?_
  by_cases hs11 : a0 = 3
  · have hok := hok.1 hs11
    refine lv_tableIn (off := 35) (tgt := 36) hx hb zd_Formula_readSecond_1 (by rw [hs11]; decide) (by rw [hs11]; decide) (by rw [hs11]; decide) (by decide) ?_
    refine lv_aload_n hx hb zd_Formula_readSecond_36 rfl (lv_at hl 0 rfl) ?_
    refine lv_iload_n hx hb zd_Formula_readSecond_37 rfl (lv_at hl 3 rfl) ?_
    refine z_yV (q0 := 9) (wc := (wX ad K sv I J B D)) (wr := []) (w1 := fun (u : zS) => wX ad K sv u.1 u.2.1 u.2.2.1 u.2.2.2) (As := [.int a2]) (rest := []) ⟨hx, hb, hml, hown, hts⟩ (w_Formula_goDeeper l hlt G K ad sv I J B D a2 _ _ H.size hok) zf_Formula_goDeeper zn_489 ⟨(by first | omega | (dsimp only; omega) | exact Nat.le_of_ble_eq_true rfl), (by first | omega | (dsimp only; omega) | exact Nat.le_of_ble_eq_true rfl)⟩ hK hT hw hA (List.range 65) [] wX_all rfl wX_nd (by decide) (fun i hi => by cases hi) wX_g9 rfl rfl hl.1 rfl (by first | omega | (dsimp only; omega) | exact Nat.le_of_ble_eq_true rfl) zd_Formula_readSecond_38 ⟨(by first | omega | (dsimp only; omega) | exact Nat.le_of_ble_eq_true rfl), (by first | omega | (dsimp only; omega) | exact Nat.le_of_ble_eq_true rfl)⟩ (fun v st9 t9 L9 h0 hq hL => ?_) (fun E ce q9 u H locs hu hw hce hcv hcl => z_yout (u := u) hnt hlocks hce hcv hcl hw (List.range 65) wX_all wX_nd hu (by first | omega | (dsimp only; omega) | exact Nat.le_of_ble_eq_true rfl) (by first | omega | (dsimp only; omega) | exact Nat.le_of_ble_eq_true rfl))
    obtain ⟨⟨u, hv9, hok, hB9⟩, hF9⟩ := hq
    cases hv9
    have hw := z_back (wr := []) hw hA (List.range 65) [] wX_all rfl (by decide) (fun i hi => by cases hi) h0 hL hB9 hF9
    obtain ⟨I12, J12, B12, D12⟩ := u
    dsimp only at hok
    generalize t9.heap = H at hw ⊢
    generalize locs ++ L9 = locs at hw ⊢
    have hw : zW G A s.heap (wX ad K sv I12 J12 B12 D12) H locs := hw
    refine W.eq (g2 := F0 m 41 ls []) rfl ?_
    refine lv_aload_n hx hb zd_Formula_readSecond_41 rfl (lv_at hl 0 rfl) ?_
    refine lv_iload_n hx hb zd_Formula_readSecond_42 rfl (lv_at hl 1 rfl) ?_
    refine lv_iload_n hx hb zd_Formula_readSecond_43 rfl (lv_at hl 2 rfl) ?_
    refine lv_aload_n hx hb zd_Formula_readSecond_44 rfl (lv_at hl 0 rfl) ?_
    refine lv_iload_n hx hb zd_Formula_readSecond_45 rfl (lv_at hl 1 rfl) ?_
    refine z_calli (w1 := fun (u : zS) => wX ad K sv u.1 u.2.1 u.2.2.1 u.2.2.2) (wr := []) (z_runS (wc := (wX ad K sv I12 J12 B12 D12)) (As := [.int a0]) (rest := [.ref (ad 9), .int a1, .int a0, .ref (ad 9)]) ⟨hx, hb, hml, hown, hts⟩ (w_Formula_strengthOf l G K ad sv I12 J12 B12 D12 a0 _ H.size hok) zf_Formula_strengthOf zn_501 ⟨(by first | omega | (dsimp only; omega) | exact Nat.le_of_ble_eq_true rfl), (by first | omega | (dsimp only; omega) | exact Nat.le_of_ble_eq_true rfl)⟩ hK hw (List.range 65) wX_all wX_nd rfl hl.1 rfl (by first | omega | (dsimp only; omega) | exact Nat.le_of_ble_eq_true rfl) zd_Formula_readSecond_46 ⟨(by first | omega | (dsimp only; omega) | exact Nat.le_of_ble_eq_true rfl), (by first | omega | (dsimp only; omega) | exact Nat.le_of_ble_eq_true rfl)⟩) hw hA (List.range 65) [] wX_all rfl (by decide) (fun i hi => by cases hi) (fun r13 u H locs hok hw => ?_)
    obtain ⟨I13, J13, B13, D13⟩ := u
    dsimp only at hok
    have hw : zW G A s.heap (wX ad K sv I13 J13 B13 D13) H locs := hw
    refine lv_iload_n hx hb zd_Formula_readSecond_49 rfl (lv_at hl 3 rfl) ?_
    refine lv_iconst (v := 1) hx hb zd_Formula_readSecond_50 (by decide) ?_
    refine lv_iadd hx hb zd_Formula_readSecond_51 ?_
    refine lv_topi (fun z14 ez14 => ?_)
    have hok := hok z14 ez14
    refine z_yV (q0 := 9) (wc := (wX ad K sv I13 J13 B13 D13)) (wr := []) (w1 := fun (u : zS) => wX ad K sv u.1 u.2.1 u.2.2.1 u.2.2.2) (As := [.int r13, .int z14]) (rest := [.int a1, .int a0, .ref (ad 9)]) ⟨hx, hb, hml, hown, hts⟩ (ihP.1 I13 J13 B13 D13 r13 z14 _ _ H.size hok) zf_Formula_readFrom zn_486 ⟨(by first | omega | (dsimp only; omega) | exact Nat.le_of_ble_eq_true rfl), (by first | omega | (dsimp only; omega) | exact Nat.le_of_ble_eq_true rfl)⟩ hK hT hw hA (List.range 65) [] wX_all rfl wX_nd (by decide) (fun i hi => by cases hi) wX_g9 rfl rfl hl.1 rfl (by first | omega | (dsimp only; omega) | exact Nat.le_of_ble_eq_true rfl) zd_Formula_readSecond_52 ⟨(by first | omega | (dsimp only; omega) | exact Nat.le_of_ble_eq_true rfl), (by first | omega | (dsimp only; omega) | exact Nat.le_of_ble_eq_true rfl)⟩ (fun v st9 t9 L9 h0 hq hL => ?_) (fun E ce q9 u H locs hu hw hce hcv hcl => z_yout (u := u) hnt hlocks hce hcv hcl hw (List.range 65) wX_all wX_nd hu (by first | omega | (dsimp only; omega) | exact Nat.le_of_ble_eq_true rfl) (by first | omega | (dsimp only; omega) | exact Nat.le_of_ble_eq_true rfl))
    obtain ⟨⟨r15, u, hv9, hok, hB9⟩, hF9⟩ := hq
    cases hv9
    have hw := z_back (wr := []) hw hA (List.range 65) [] wX_all rfl (by decide) (fun i hi => by cases hi) h0 hL hB9 hF9
    obtain ⟨I15, J15, B15, D15⟩ := u
    dsimp only at hok
    generalize t9.heap = H at hw ⊢
    generalize locs ++ L9 = locs at hw ⊢
    have hw : zW G A s.heap (wX ad K sv I15 J15 B15 D15) H locs := hw
    refine W.eq (g2 := F0 m 55 ls [.int r15, .int a1, .int a0, .ref (ad 9)]) rfl ?_
    refine z_calli (w1 := fun (u : zS) => wX ad K sv u.1 u.2.1 u.2.2.1 u.2.2.2) (wr := []) (z_runV (q0 := 9) (wc := (wX ad K sv I15 J15 B15 D15)) (As := [.int a0, .int a1, .int r15]) (rest := []) ⟨hx, hb, hml, hown, hts⟩ (w_Formula_add l G K ad sv I15 J15 B15 D15 a0 a1 r15 _ H.size hok) zf_Formula_add zn_492 ⟨(by first | omega | (dsimp only; omega) | exact Nat.le_of_ble_eq_true rfl), (by first | omega | (dsimp only; omega) | exact Nat.le_of_ble_eq_true rfl)⟩ hK hw (List.range 65) wX_all wX_nd wX_g9 rfl rfl hl.1 rfl (by first | omega | (dsimp only; omega) | exact Nat.le_of_ble_eq_true rfl) zd_Formula_readSecond_55 ⟨(by first | omega | (dsimp only; omega) | exact Nat.le_of_ble_eq_true rfl), (by first | omega | (dsimp only; omega) | exact Nat.le_of_ble_eq_true rfl)⟩) hw hA (List.range 65) [] wX_all rfl (by decide) (fun i hi => by cases hi) (fun r16 u H locs hok hw => ?_)
    obtain ⟨I16, J16, B16, D16⟩ := u
    dsimp only at hok
    have hw : zW G A s.heap (wX ad K sv I16 J16 B16 D16) H locs := hw
    exact zy_ret (z_iret (u := (I16, J16, B16, D16)) hx hb hr hlocks rfl hw (List.range 65) wX_all wX_nd hok (by first | omega | (dsimp only; omega) | exact Nat.le_of_ble_eq_true rfl) (by first | omega | (dsimp only; omega) | exact Nat.le_of_ble_eq_true rfl) zd_Formula_readSecond_58)
  by_cases hs17 : a0 = 4
  · have hok := hok.2.1 hs17
    refine lv_tableIn (off := 81) (tgt := 82) hx hb zd_Formula_readSecond_1 (by rw [hs17]; decide) (by rw [hs17]; decide) (by rw [hs17]; decide) (by decide) ?_
    exact wJ_Formula_readSecond_R_82 G K ad sv P0 P1 P2 P3 a0 a1 a2 Post PX C n8 ihP a0 a1 a2 I J B D ls H locs hok (lv_sub hl [0, 1, 2, 3] rfl) hw
  by_cases hs18 : a0 = 5
  · have hok := hok.2.2.1 hs18
    refine lv_tableIn (off := 81) (tgt := 82) hx hb zd_Formula_readSecond_1 (by rw [hs18]; decide) (by rw [hs18]; decide) (by rw [hs18]; decide) (by decide) ?_
    exact wJ_Formula_readSecond_R_82 G K ad sv P0 P1 P2 P3 a0 a1 a2 Post PX C n8 ihP a0 a1 a2 I J B D ls H locs hok (lv_sub hl [0, 1, 2, 3] rfl) hw
  by_cases hs19 : a0 = 6
  · have hok := hok.2.2.2.1 hs19
    refine lv_tableIn (off := 58) (tgt := 59) hx hb zd_Formula_readSecond_1 (by rw [hs19]; decide) (by rw [hs19]; decide) (by rw [hs19]; decide) (by decide) ?_
    exact wJ_Formula_readSecond_R_59 G K ad sv P0 P1 P2 P3 a0 a1 a2 Post PX C n8 ihP a0 a1 a2 I J B D ls H locs hok (lv_sub hl [0, 1, 2, 3] rfl) hw
  by_cases hs20 : a0 = 7
  · have hok := hok.2.2.2.2.1 hs20
    refine lv_tableIn (off := 58) (tgt := 59) hx hb zd_Formula_readSecond_1 (by rw [hs20]; decide) (by rw [hs20]; decide) (by rw [hs20]; decide) (by decide) ?_
    exact wJ_Formula_readSecond_R_59 G K ad sv P0 P1 P2 P3 a0 a1 a2 Post PX C n8 ihP a0 a1 a2 I J B D ls H locs hok (lv_sub hl [0, 1, 2, 3] rfl) hw
  have hok := hok.2.2.2.2.2 hs11 hs17 hs18 hs19 hs20
  refine lv_tableOut (tgt := 82) hx hb zd_Formula_readSecond_1 (by have h0 := lv_neT hs11 (a := 3) (by decide); have h1 := lv_neT hs17 (a := 4) (by decide); have h2 := lv_neT hs18 (a := 5) (by decide); have h3 := lv_neT hs19 (a := 6) (by decide); have h4 := lv_neT hs20 (a := 7) (by decide); omega) (by decide) ?_
  exact wJ_Formula_readSecond_R_82 G K ad sv P0 P1 P2 P3 a0 a1 a2 Post PX C n8 ihP a0 a1 a2 I J B D ls H locs hok (lv_sub hl [0, 1, 2, 3] rfl) hw
def wG_gf (n : Nat) : zTgf0 × zTgf1 × zTgf2 × zTgf3 := Nat.rec (motive := fun _ => zTgf0 × zTgf1 × zTgf2 × zTgf3) ((fun _ _ _ _ _ _ _ _ => False), (fun _ _ _ _ _ _ _ => False), (fun _ _ _ _ _ _ _ => False), (fun _ _ _ _ _ _ _ _ _ => False)) (fun _ r => ((fun I J B D a0 a1 Post PX => wp_Formula_readFrom_R I J B D r.1 r.2.1 r.2.2.1 r.2.2.2 a0 a1 Post PX), (fun I J B D a0 Post PX => wp_Formula_readUnit_R I J B D r.1 r.2.1 r.2.2.1 r.2.2.2 a0 Post PX), (fun I J B D a0 Post PX => wp_Formula_readBracketed_R I J B D r.1 r.2.1 r.2.2.1 r.2.2.2 a0 Post PX), (fun I J B D a0 a1 a2 Post PX => wp_Formula_readSecond_R I J B D r.1 r.2.1 r.2.2.1 r.2.2.2 a0 a1 a2 Post PX))) n
theorem wG_gf_ih (l : Launch) (hlt : l.stackTraces = false) (G : va_G) (K : Nat → ClassId) (ad : Nat → Nat) (sv : Value) (n : Nat) : zIH_gf l G K ad sv n (wG_gf n).1 (wG_gf n).2.1 (wG_gf n).2.2.1 (wG_gf n).2.2.2 := by
  induction n with
  | zero => exact ⟨fun _ _ _ _ _ _ _ _ _ h => False.elim h, fun _ _ _ _ _ _ _ _ h => False.elim h, fun _ _ _ _ _ _ _ _ h => False.elim h, fun _ _ _ _ _ _ _ _ _ _ h => False.elim h⟩
  | succ n ih => exact ⟨fun I J B D a0 a1 Post PX sz h => w_Formula_readFrom_R l hlt G K ad sv I J B D _ _ _ _ a0 a1 Post PX sz h n ih, fun I J B D a0 Post PX sz h => w_Formula_readUnit_R l hlt G K ad sv I J B D _ _ _ _ a0 Post PX sz h n ih, fun I J B D a0 Post PX sz h => w_Formula_readBracketed_R l hlt G K ad sv I J B D _ _ _ _ a0 Post PX sz h n ih, fun I J B D a0 a1 a2 Post PX sz h => w_Formula_readSecond_R l hlt G K ad sv I J B D _ _ _ _ a0 a1 a2 Post PX sz h n ih⟩
def wp_Formula_readFrom (I : Nat → Int32) (J : Nat → Int64) (B : Nat → Nat → Int32) (D : Nat → Nat → Int64) (a0 : Int32) (a1 : Int32) (Post : Int32 → (Nat → Int32) → (Nat → Int64) → (Nat → Nat → Int32) → (Nat → Nat → Int64) → Prop) (PX : String → (Nat → Int32) → (Nat → Int64) → (Nat → Nat → Int32) → (Nat → Nat → Int64) → Prop) : Prop := (wG_gf 100).1 I J B D a0 a1 Post PX
theorem w_Formula_readFrom (l : Launch) (hlt : l.stackTraces = false) (G : va_G) (K : Nat → ClassId) (ad : Nat → Nat) (sv : Value) (I : Nat → Int32) (J : Nat → Int64) (B : Nat → Nat → Int32) (D : Nat → Nat → Int64) (a0 : Int32) (a1 : Int32) (Post : Int32 → (Nat → Int32) → (Nat → Int64) → (Nat → Nat → Int32) → (Nat → Nat → Int64) → Prop) (PX : String → (Nat → Int32) → (Nat → Int64) → (Nat → Nat → Int32) → (Nat → Nat → Int64) → Prop) (sz : Nat) (hok : wp_Formula_readFrom I J B D a0 a1 Post PX) : zyMet l zy_Formula_readFrom (Cond.code zy_Formula_readFrom prog_2_method_3_code 6 (some .int) :: zTB) { frames := 110, cells := 1, slots := 6, locals := 2671 } (va_Pc [.ref (ad 9), .int a0, .int a1] (zPreY G K (wX ad K sv I J B D) sz)) (va_Qi (fun (r : Int32) (u : zS) => Post r u.1 u.2.1 u.2.2.1 u.2.2.2) (fun u t => zPost G K (va_A (wX ad K sv I J B D) sz) (wX ad K sv u.1 u.2.1 u.2.2.1 u.2.2.2) t) (va_A (wX ad K sv I J B D) sz)) (zYC (fun E (u : zS) => PX E u.1 u.2.1 u.2.2.1 u.2.2.2) (fun u => wX ad K sv u.1 u.2.1 u.2.2.1 u.2.2.2) G K (va_A (wX ad K sv I J B D) sz)) 1 6 (va_A (wX ad K sv I J B D) sz) :=
  (wG_gf_ih l hlt G K ad sv 100).1 I J B D a0 a1 Post PX sz hok
def wc_Formula_readAll_51 (Post : (Nat → Int32) → (Nat → Int64) → (Nat → Nat → Int32) → (Nat → Nat → Int64) → Prop) (PX : String → (Nat → Int32) → (Nat → Int64) → (Nat → Nat → Int32) → (Nat → Nat → Int64) → Prop)  (I : Nat → Int32) (J : Nat → Int64) (B : Nat → Nat → Int32) (D : Nat → Nat → Int64) : Prop :=
  Post I J B D
def wp_Formula_readAll (I : Nat → Int32) (J : Nat → Int64) (B : Nat → Nat → Int32) (D : Nat → Nat → Int64) (Post : (Nat → Int32) → (Nat → Int64) → (Nat → Nat → Int32) → (Nat → Nat → Int64) → Prop) (PX : String → (Nat → Int32) → (Nat → Int64) → (Nat → Nat → Int32) → (Nat → Nat → Int64) → Prop) : Prop :=
  wp_Terms_clear_B I J B D  (fun I1 J1 B1 D1 => wp_Formula_readFrom (upd (upd (upd (upd I1 22 0) 21 0) 23 0) 24 0) J1 B1 D1 0 0 (fun r2 I2 J2 B2 D2 => wp_Text_ended I2 J2 B2 D2  (fun r3 I3 J3 B3 D3 => ((¬ r3 = 0 → wc_Formula_readAll_51  Post PX I3 J3 B3 D3) ∧ (r3 = 0 → wp_Text_refuse I3 J3 B3 D3  (fun I5 J5 B5 D5 => wc_Formula_readAll_51  Post PX I5 J5 B5 D5) PX)))) PX)
set_option maxHeartbeats 8000000 in
set_option maxRecDepth 100000 in
theorem wJ_Formula_readAll_51 {p : Program} {l : Launch} {e : Env} {s : State} {m : MethodId} {below : List Frame} {meth : Method} {c : Code} {A : Nat → Prop} (G : va_G) (K : Nat → ClassId) (ad : Nat → Nat) (sv : Value) (Post : (Nat → Int32) → (Nat → Int64) → (Nat → Nat → Int32) → (Nat → Nat → Int64) → Prop) (PX : String → (Nat → Int32) → (Nat → Int64) → (Nat → Nat → Int32) → (Nat → Nat → Int64) → Prop) (C : zCy p l s m ([.ref (ad 9)] : List Value).toArray meth c A G K prog_2_method_2_code none 1 "LassoFinder$Formula") : ∀  (I : Nat → Int32) (J : Nat → Int64) (B : Nat → Nat → Int32) (D : Nat → Nat → Int64) (ls : Array Slot) (H : Heap) (locs : List Loc), wc_Formula_readAll_51  Post PX  I J B D → lv_has ls 1 [] → zW G A s.heap (wX ad K sv I J B D) H locs → W p l e { frames := 111, cells := 1, slots := 6, locals := 2696 } s m ([.ref (ad 9)] : List Value).toArray below meth c H locs 0 0 (zyMQ below (va_Qv (fun u : zS => Post u.1 u.2.1 u.2.2.1 u.2.2.2) (fun u t => zPost G K A (wX ad K sv u.1 u.2.1 u.2.2.1 u.2.2.2) t) A) (zYC (fun E (u : zS) => PX E u.1 u.2.1 u.2.2.1 u.2.2.2) (fun u => wX ad K sv u.1 u.2.1 u.2.2.1 u.2.2.2) G K A) ([.ref (ad 9)] : List Value).toArray s 1 6 A) (F0 m 51 ls []) := by
  obtain ⟨hx, hb, hr, hml, hts, hown, hlocks, hA, hK, hT, hnt, hlt⟩ := id C
  intro  I J B D ls H locs hok hl hw
  unfold wc_Formula_readAll_51 at hok
  exact zy_ret (z_vret (u := (I, J, B, D)) hx hb hr hlocks hw (List.range 65) wX_all wX_nd hok (Nat.le_of_ble_eq_true rfl) (Nat.le_of_ble_eq_true rfl) zd_Formula_readAll_51)
set_option maxHeartbeats 8000000 in
set_option maxRecDepth 100000 in
theorem w_Formula_readAll (l : Launch) (hlt : l.stackTraces = false) (G : va_G) (K : Nat → ClassId) (ad : Nat → Nat) (sv : Value) (I : Nat → Int32) (J : Nat → Int64) (B : Nat → Nat → Int32) (D : Nat → Nat → Int64) (Post : (Nat → Int32) → (Nat → Int64) → (Nat → Nat → Int32) → (Nat → Nat → Int64) → Prop) (PX : String → (Nat → Int32) → (Nat → Int64) → (Nat → Nat → Int32) → (Nat → Nat → Int64) → Prop) (sz : Nat) (hok : wp_Formula_readAll I J B D  Post PX) : zyMet l zy_Formula_readAll (Cond.code zy_Formula_readAll prog_2_method_2_code 1 none :: zTB) { frames := 111, cells := 1, slots := 6, locals := 2696 } (va_Pc [.ref (ad 9)] (zPreY G K (wX ad K sv I J B D) sz)) (va_Qv (fun u : zS => Post u.1 u.2.1 u.2.2.1 u.2.2.2) (fun u t => zPost G K (va_A (wX ad K sv I J B D) sz) (wX ad K sv u.1 u.2.1 u.2.2.1 u.2.2.2) t) (va_A (wX ad K sv I J B D) sz)) (zYC (fun E (u : zS) => PX E u.1 u.2.1 u.2.2.1 u.2.2.2) (fun u => wX ad K sv u.1 u.2.1 u.2.2.1 u.2.2.2) G K (va_A (wX ad K sv I J B D) sz)) 1 6 (va_A (wX ad K sv I J B D) sz) := by
  refine zMetY (y := zy_Formula_readAll) (av := [.ref (ad 9)]) (maxL := 1) (cc := prog_2_method_2_code) (ret := none) (W0 := (wX ad K sv I J B D)) (sz := sz) (G := G) (K := K) (wt := zTB) (mc := 1) (ms := 6) (Qf := fun A => va_Qv (fun u : zS => Post u.1 u.2.1 u.2.2.1 u.2.2.2) (fun u t => zPost G K A (wX ad K sv u.1 u.2.1 u.2.2.1 u.2.2.2) t) A) (Xf := fun A => (zYC (fun E (u : zS) => PX E u.1 u.2.1 u.2.2.1 u.2.2.2) (fun u => wX ad K sv u.1 u.2.1 u.2.2.1 u.2.2.2) G K A)) (by decide) (Nat.le_of_ble_eq_true rfl) ?_
  intro p e s m below meth c ls A hx hb hr hml hts hown hlocks hin hA hK H locs hw hsz hl hT hnt
  clear hsz
  have hown : s.vm.findClass "LassoFinder$Formula" = some m.cls := hown
  have C : zCy p l s m ([.ref (ad 9)] : List Value).toArray meth c A G K prog_2_method_2_code none 1 "LassoFinder$Formula" := ⟨hx, hb, hr, hml, hts, hown, hlocks, hA, hK, hT, hnt, hlt⟩
  have hl : lv_has ls 1 [(0, .ref (ad 9))] := hl
  have hw : zW G A s.heap (wX ad K sv I J B D) H locs := hw
  unfold wp_Formula_readAll at hok
  refine lv_aload_n hx hb zd_Formula_readAll_0 rfl (lv_at hl 0 rfl) ?_
  refine z_get (v := .ref (ad 10)) hx hb hts hown hK hw zZ1 9 wX_g9 2 (by decide) zn_517 rfl zd_Formula_readAll_1 ?_
  refine z_callv (w1 := fun (u : zS) => wX ad K sv u.1 u.2.1 u.2.2.1 u.2.2.2) (wr := []) (z_runV (q0 := 10) (wc := (wX ad K sv I J B D)) (As := []) (rest := []) ⟨hx, hb, hml, hown, hts⟩ (w_Terms_clear_B l G K ad sv I J B D  _ H.size hok) zf_Terms_clear zn_485 ⟨Nat.le_of_ble_eq_true rfl, Nat.le_of_ble_eq_true rfl⟩ hK hw (List.range 65) wX_all wX_nd wX_g10 rfl rfl hl.1 rfl (Nat.le_of_ble_eq_true rfl) zd_Formula_readAll_4 ⟨Nat.le_of_ble_eq_true rfl, Nat.le_of_ble_eq_true rfl⟩) hw hA (List.range 65) [] wX_all rfl (by decide) (fun i hi => by cases hi) (fun u H locs hok hw => ?_)
  obtain ⟨I1, J1, B1, D1⟩ := u
  dsimp only at hok
  have hw : zW G A s.heap (wX ad K sv I1 J1 B1 D1) H locs := hw
  refine lv_aload_n hx hb zd_Formula_readAll_7 rfl (lv_at hl 0 rfl) ?_
  refine lv_iconst (v := 0) hx hb zd_Formula_readAll_8 (by decide) ?_
  refine z_put (v := .int 0) hx hb hts hown hK hw zZ1 9 wX_g9 8 (by decide) zn_519 rfl rfl rfl (Nat.le_of_ble_eq_true rfl) zd_Formula_readAll_9 (fun H locs hw => ?_)
  have hw := wX_sI22 hw
  refine lv_aload_n hx hb zd_Formula_readAll_12 rfl (lv_at hl 0 rfl) ?_
  refine lv_iconst (v := 0) hx hb zd_Formula_readAll_13 (by decide) ?_
  refine z_put (v := .int 0) hx hb hts hown hK hw zZ1 9 wX_g9 7 (by decide) zn_520 rfl rfl rfl (Nat.le_of_ble_eq_true rfl) zd_Formula_readAll_14 (fun H locs hw => ?_)
  have hw := wX_sI21 hw
  refine lv_aload_n hx hb zd_Formula_readAll_17 rfl (lv_at hl 0 rfl) ?_
  refine lv_iconst (v := 0) hx hb zd_Formula_readAll_18 (by decide) ?_
  refine z_put (v := .int 0) hx hb hts hown hK hw zZ1 9 wX_g9 9 (by decide) zn_521 rfl rfl rfl (Nat.le_of_ble_eq_true rfl) zd_Formula_readAll_19 (fun H locs hw => ?_)
  have hw := wX_sI23 hw
  refine lv_aload_n hx hb zd_Formula_readAll_22 rfl (lv_at hl 0 rfl) ?_
  refine lv_iconst (v := 0) hx hb zd_Formula_readAll_23 (by decide) ?_
  refine z_put (v := .int 0) hx hb hts hown hK hw zZ1 9 wX_g9 10 (by decide) zn_522 rfl rfl rfl (Nat.le_of_ble_eq_true rfl) zd_Formula_readAll_24 (fun H locs hw => ?_)
  have hw := wX_sI24 hw
  refine lv_aload_n hx hb zd_Formula_readAll_27 rfl (lv_at hl 0 rfl) ?_
  refine lv_iconst (v := 0) hx hb zd_Formula_readAll_28 (by decide) ?_
  refine lv_iconst (v := 0) hx hb zd_Formula_readAll_29 (by decide) ?_
  refine z_yV (q0 := 9) (wc := (wX ad K sv (upd (upd (upd (upd I1 22 0) 21 0) 23 0) 24 0) J1 B1 D1)) (wr := []) (w1 := fun (u : zS) => wX ad K sv u.1 u.2.1 u.2.2.1 u.2.2.2) (As := [.int 0, .int 0]) (rest := []) ⟨hx, hb, hml, hown, hts⟩ (w_Formula_readFrom l hlt G K ad sv (upd (upd (upd (upd I1 22 0) 21 0) 23 0) 24 0) J1 B1 D1 0 0 _ _ H.size hok) zf_Formula_readFrom zn_486 ⟨Nat.le_of_ble_eq_true rfl, Nat.le_of_ble_eq_true rfl⟩ hK hT hw hA (List.range 65) [] wX_all rfl wX_nd (by decide) (fun i hi => by cases hi) wX_g9 rfl rfl hl.1 rfl (Nat.le_of_ble_eq_true rfl) zd_Formula_readAll_30 ⟨Nat.le_of_ble_eq_true rfl, Nat.le_of_ble_eq_true rfl⟩ (fun v st9 t9 L9 h0 hq hL => ?_) (fun E ce q9 u H locs hu hw hce hcv hcl => z_yout (u := u) hnt hlocks hce hcv hcl hw (List.range 65) wX_all wX_nd hu (Nat.le_of_ble_eq_true rfl) (Nat.le_of_ble_eq_true rfl))
  obtain ⟨⟨r2, u, hv9, hok, hB9⟩, hF9⟩ := hq
  cases hv9
  have hw := z_back (wr := []) hw hA (List.range 65) [] wX_all rfl (by decide) (fun i hi => by cases hi) h0 hL hB9 hF9
  obtain ⟨I2, J2, B2, D2⟩ := u
  dsimp only at hok
  generalize t9.heap = H at hw ⊢
  generalize locs ++ L9 = locs at hw ⊢
  have hw : zW G A s.heap (wX ad K sv I2 J2 B2 D2) H locs := hw
  refine W.eq (g2 := F0 m 33 ls [.int r2]) rfl ?_
  refine lv_pop hx hb zd_Formula_readAll_33 rfl ?_
  refine lv_aload_n hx hb zd_Formula_readAll_34 rfl (lv_at hl 0 rfl) ?_
  refine z_get (v := .ref (ad 1)) hx hb hts hown hK hw zZ1 9 wX_g9 0 (by decide) zn_518 rfl zd_Formula_readAll_35 ?_
  refine z_calli (w1 := fun (u : zS) => wX ad K sv u.1 u.2.1 u.2.2.1 u.2.2.2) (wr := []) (z_runV (q0 := 1) (wc := (wX ad K sv I2 J2 B2 D2)) (As := []) (rest := []) ⟨hx, hb, hml, hown, hts⟩ (w_Text_ended l G K ad sv I2 J2 B2 D2  _ H.size hok) zf_Text_ended zn_503 ⟨Nat.le_of_ble_eq_true rfl, Nat.le_of_ble_eq_true rfl⟩ hK hw (List.range 65) wX_all wX_nd wX_g1 rfl rfl hl.1 rfl (Nat.le_of_ble_eq_true rfl) zd_Formula_readAll_38 ⟨Nat.le_of_ble_eq_true rfl, Nat.le_of_ble_eq_true rfl⟩) hw hA (List.range 65) [] wX_all rfl (by decide) (fun i hi => by cases hi) (fun r3 u H locs hok hw => ?_)
  obtain ⟨I3, J3, B3, D3⟩ := u
  dsimp only at hok
  have hw : zW G A s.heap (wX ad K sv I3 J3 B3 D3) H locs := hw
  refine lv_if_ne (tgt := 51) hx hb zd_Formula_readAll_41 (by decide) (fun hc4 => ?_) (fun hc4 => ?_)
  · have hok := hok.1 hc4
    exact wJ_Formula_readAll_51 G K ad sv  Post PX C I3 J3 B3 D3 ls H locs hok (lv_sub hl [] rfl) hw
  · have hok := hok.2 hc4
    refine lv_aload_n hx hb zd_Formula_readAll_44 rfl (lv_at hl 0 rfl) ?_
    refine z_get (v := .ref (ad 1)) hx hb hts hown hK hw zZ1 9 wX_g9 0 (by decide) zn_518 rfl zd_Formula_readAll_45 ?_
    refine z_yV (q0 := 1) (wc := (wX ad K sv I3 J3 B3 D3)) (wr := []) (w1 := fun (u : zS) => wX ad K sv u.1 u.2.1 u.2.2.1 u.2.2.2) (As := []) (rest := []) ⟨hx, hb, hml, hown, hts⟩ (w_Text_refuse l hlt G K ad sv I3 J3 B3 D3  _ _ H.size hok) zf_Text_refuse zn_490 ⟨Nat.le_of_ble_eq_true rfl, Nat.le_of_ble_eq_true rfl⟩ hK hT hw hA (List.range 65) [] wX_all rfl wX_nd (by decide) (fun i hi => by cases hi) wX_g1 rfl rfl hl.1 rfl (Nat.le_of_ble_eq_true rfl) zd_Formula_readAll_48 ⟨Nat.le_of_ble_eq_true rfl, Nat.le_of_ble_eq_true rfl⟩ (fun v st9 t9 L9 h0 hq hL => ?_) (fun E ce q9 u H locs hu hw hce hcv hcl => z_yout (u := u) hnt hlocks hce hcv hcl hw (List.range 65) wX_all wX_nd hu (Nat.le_of_ble_eq_true rfl) (Nat.le_of_ble_eq_true rfl))
    obtain ⟨⟨u, hv9, hok, hB9⟩, hF9⟩ := hq
    cases hv9
    have hw := z_back (wr := []) hw hA (List.range 65) [] wX_all rfl (by decide) (fun i hi => by cases hi) h0 hL hB9 hF9
    obtain ⟨I5, J5, B5, D5⟩ := u
    dsimp only at hok
    generalize t9.heap = H at hw ⊢
    generalize locs ++ L9 = locs at hw ⊢
    have hw : zW G A s.heap (wX ad K sv I5 J5 B5 D5) H locs := hw
    refine W.eq (g2 := F0 m 51 ls []) rfl ?_
    exact wJ_Formula_readAll_51 G K ad sv  Post PX C I5 J5 B5 D5 ls H locs hok (lv_sub hl [] rfl) hw
