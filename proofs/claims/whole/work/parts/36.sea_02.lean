abbrev zy_LassoSearch_enterSpot : MethodName := ⟨"LassoFinder$LassoSearch", "enterSpot", "(I)V"⟩
abbrev zy_LassoSearch_leadsToItself : MethodName := ⟨"LassoFinder$LassoSearch", "leadsToItself", "(I)Z"⟩
abbrev zy_LassoSearch_reach : MethodName := ⟨"LassoFinder$LassoSearch", "reach", "(II)V"⟩
abbrev zy_LassoSearch_findCycle : MethodName := ⟨"LassoFinder$LassoSearch", "findCycle", "(I)V"⟩
abbrev zy_LassoSearch_measureCycle : MethodName := ⟨"LassoFinder$LassoSearch", "measureCycle", "(I)I"⟩
theorem zn_545 : Cond.methodLink "LassoFinder$LassoSearch" 65 ⟨"java/util/Arrays", "fill", "([II)V"⟩ ∈ zTB := z_in (zt_5 _ (List.mem_of_getElem? (i := 194) rfl)) rfl
theorem zn_554 : Cond.methodLink "LassoFinder$LassoSearch" 144 ⟨"LassoFinder$LassoSearch", "reach", "(II)V"⟩ ∈ zTB := z_in (zt_5 _ (List.mem_of_getElem? (i := 226) rfl)) rfl
theorem zn_560 : Cond.methodLink "LassoFinder$LassoSearch" 167 ⟨"LassoFinder$LassoSearch", "measureCycle", "(I)I"⟩ ∈ zTB := z_in (zt_6 _ (List.mem_of_getElem? (i := 10) rfl)) rfl
theorem zn_561 : Cond.methodLink "LassoFinder$LassoSearch" 171 ⟨"LassoFinder$LassoSearch", "followCycle", "(II)V"⟩ ∈ zTB := z_in (zt_6 _ (List.mem_of_getElem? (i := 14) rfl)) rfl
theorem zn_564 : Cond.methodLink "LassoFinder$LassoSearch" 174 ⟨"LassoFinder$LassoSearch", "keepBetter", "(I)V"⟩ ∈ zTB := z_in (zt_6 _ (List.mem_of_getElem? (i := 26) rfl)) rfl
theorem zn_803 : Cond.fieldLink "LassoFinder$LassoSearch" 23 "LassoFinder$LassoSearch" "order" "[I" ∈ zTB := z_in (zt_5 _ (List.mem_of_getElem? (i := 128) rfl)) rfl
theorem zn_804 : Cond.fieldLink "LassoFinder$LassoSearch" 27 "LassoFinder$LassoSearch" "low" "[I" ∈ zTB := z_in (zt_5 _ (List.mem_of_getElem? (i := 129) rfl)) rfl
theorem zn_805 : Cond.fieldLink "LassoFinder$LassoSearch" 30 "LassoFinder$LassoSearch" "nextSource" "[I" ∈ zTB := z_in (zt_5 _ (List.mem_of_getElem? (i := 130) rfl)) rfl
theorem zn_806 : Cond.fieldLink "LassoFinder$LassoSearch" 33 "LassoFinder$LassoSearch" "isOpen" "[Z" ∈ zTB := z_in (zt_5 _ (List.mem_of_getElem? (i := 131) rfl)) rfl
theorem zn_807 : Cond.fieldLink "LassoFinder$LassoSearch" 37 "LassoFinder$LassoSearch" "path" "[I" ∈ zTB := z_in (zt_5 _ (List.mem_of_getElem? (i := 132) rfl)) rfl
theorem zn_808 : Cond.fieldLink "LassoFinder$LassoSearch" 40 "LassoFinder$LassoSearch" "opened" "[I" ∈ zTB := z_in (zt_5 _ (List.mem_of_getElem? (i := 133) rfl)) rfl
theorem zn_810 : Cond.fieldLink "LassoFinder$LassoSearch" 46 "LassoFinder$LassoSearch" "queue" "[I" ∈ zTB := z_in (zt_5 _ (List.mem_of_getElem? (i := 138) rfl)) rfl
theorem zn_829 : Cond.fieldLink "LassoFinder$LassoSearch" 62 "LassoFinder$LassoSearch" "queued" "I" ∈ zTB := z_in (zt_5 _ (List.mem_of_getElem? (i := 139) rfl)) rfl
theorem zn_830 : Cond.fieldLink "LassoFinder$LassoSearch" 116 "LassoFinder$Graph" "firstSource" "[I" ∈ zTB := z_in (zt_2 _ (List.mem_of_getElem? (i := 98) rfl)) rfl
theorem zn_831 : Cond.fieldLink "LassoFinder$LassoSearch" 122 "LassoFinder$Graph" "sources" "[I" ∈ zTB := z_in (zt_2 _ (List.mem_of_getElem? (i := 100) rfl)) rfl
theorem zn_833 : Cond.fieldLink "LassoFinder$LassoSearch" 110 "LassoFinder$LassoSearch" "pathLength" "I" ∈ zTB := z_in (zt_5 _ (List.mem_of_getElem? (i := 134) rfl)) rfl
theorem zn_837 : Cond.fieldLink "LassoFinder$LassoSearch" 95 "LassoFinder$LassoSearch" "entered" "I" ∈ zTB := z_in (zt_5 _ (List.mem_of_getElem? (i := 136) rfl)) rfl
theorem zn_838 : Cond.fieldLink "LassoFinder$LassoSearch" 98 "LassoFinder$LassoSearch" "openSpots" "I" ∈ zTB := z_in (zt_5 _ (List.mem_of_getElem? (i := 135) rfl)) rfl
theorem zn_869 : Cond.code ⟨"LassoFinder$LassoSearch", "followCycle", "(II)V"⟩ prog_4_method_19_code 10 none ∈ zTB := z_in (zt_6 _ (List.mem_of_getElem? (i := 17) rfl)) rfl
theorem zn_870 : Cond.instanceMethod ⟨"LassoFinder$LassoSearch", "followCycle", "(II)V"⟩ ∈ zTB := z_in (zt_6 _ (List.mem_of_getElem? (i := 16) rfl)) rfl
theorem zn_871 : Cond.code ⟨"LassoFinder$LassoSearch", "keepBetter", "(I)V"⟩ prog_4_method_17_code 5 none ∈ zTB := z_in (zt_6 _ (List.mem_of_getElem? (i := 29) rfl)) rfl
theorem zn_872 : Cond.instanceMethod ⟨"LassoFinder$LassoSearch", "keepBetter", "(I)V"⟩ ∈ zTB := z_in (zt_6 _ (List.mem_of_getElem? (i := 28) rfl)) rfl
theorem zn_873 : Cond.code ⟨"LassoFinder$LassoSearch", "reach", "(II)V"⟩ prog_4_method_11_code 3 none ∈ zTB := z_in (zt_5 _ (List.mem_of_getElem? (i := 229) rfl)) rfl
theorem zn_874 : Cond.instanceMethod ⟨"LassoFinder$LassoSearch", "reach", "(II)V"⟩ ∈ zTB := z_in (zt_5 _ (List.mem_of_getElem? (i := 228) rfl)) rfl
theorem zn_875 : Cond.code ⟨"LassoFinder$LassoSearch", "measureCycle", "(I)I"⟩ prog_4_method_18_code 10 (some .int) ∈ zTB := z_in (zt_6 _ (List.mem_of_getElem? (i := 13) rfl)) rfl
theorem zn_876 : Cond.instanceMethod ⟨"LassoFinder$LassoSearch", "measureCycle", "(I)I"⟩ ∈ zTB := z_in (zt_6 _ (List.mem_of_getElem? (i := 12) rfl)) rfl
theorem zf_LassoSearch_followCycle : zFaceV zy_LassoSearch_followCycle prog_4_method_19_code 10 none 2 := ⟨zn_870, (z_in (zp_5 _ (List.mem_of_getElem? (i := 3) rfl)) rfl), zm_7, zn_869, by decide +kernel, by decide +kernel, by decide +kernel⟩
theorem zf_LassoSearch_keepBetter : zFaceV zy_LassoSearch_keepBetter prog_4_method_17_code 5 none 1 := ⟨zn_872, (z_in (zp_5 _ (List.mem_of_getElem? (i := 6) rfl)) rfl), zm_7, zn_871, by decide +kernel, by decide +kernel, by decide +kernel⟩
theorem zf_LassoSearch_reach : zFaceV zy_LassoSearch_reach prog_4_method_11_code 3 none 2 := ⟨zn_874, (z_in (zp_4 _ (List.mem_of_getElem? (i := 12) rfl)) rfl), zm_7, zn_873, by decide +kernel, by decide +kernel, by decide +kernel⟩
theorem zf_LassoSearch_measureCycle : zFaceV zy_LassoSearch_measureCycle prog_4_method_18_code 10 (some .int) 1 := ⟨zn_876, (z_in (zp_5 _ (List.mem_of_getElem? (i := 2) rfl)) rfl), zm_7, zn_875, by decide +kernel, by decide +kernel, by decide +kernel⟩
theorem zd_LassoSearch_enterSpot_0 : decode prog_4_method_7_code 0 = .ok (.aload_n 0, 1) := by decide +kernel
theorem zd_LassoSearch_enterSpot_1 : decode prog_4_method_7_code 1 = .ok (.dup, 1) := by decide +kernel
theorem zd_LassoSearch_enterSpot_2 : decode prog_4_method_7_code 2 = .ok (.getfield 95, 3) := by decide +kernel
theorem zd_LassoSearch_enterSpot_5 : decode prog_4_method_7_code 5 = .ok (.iconst 1, 1) := by decide +kernel
theorem zd_LassoSearch_enterSpot_6 : decode prog_4_method_7_code 6 = .ok (.iadd, 1) := by decide +kernel
theorem zd_LassoSearch_enterSpot_7 : decode prog_4_method_7_code 7 = .ok (.putfield 95, 3) := by decide +kernel
theorem zd_LassoSearch_enterSpot_10 : decode prog_4_method_7_code 10 = .ok (.aload_n 0, 1) := by decide +kernel
theorem zd_LassoSearch_enterSpot_11 : decode prog_4_method_7_code 11 = .ok (.getfield 23, 3) := by decide +kernel
theorem zd_LassoSearch_enterSpot_14 : decode prog_4_method_7_code 14 = .ok (.iload_n 1, 1) := by decide +kernel
theorem zd_LassoSearch_enterSpot_15 : decode prog_4_method_7_code 15 = .ok (.aload_n 0, 1) := by decide +kernel
theorem zd_LassoSearch_enterSpot_16 : decode prog_4_method_7_code 16 = .ok (.getfield 95, 3) := by decide +kernel
theorem zd_LassoSearch_enterSpot_19 : decode prog_4_method_7_code 19 = .ok (.iastore, 1) := by decide +kernel
theorem zd_LassoSearch_enterSpot_20 : decode prog_4_method_7_code 20 = .ok (.aload_n 0, 1) := by decide +kernel
theorem zd_LassoSearch_enterSpot_21 : decode prog_4_method_7_code 21 = .ok (.getfield 27, 3) := by decide +kernel
theorem zd_LassoSearch_enterSpot_24 : decode prog_4_method_7_code 24 = .ok (.iload_n 1, 1) := by decide +kernel
theorem zd_LassoSearch_enterSpot_25 : decode prog_4_method_7_code 25 = .ok (.aload_n 0, 1) := by decide +kernel
theorem zd_LassoSearch_enterSpot_26 : decode prog_4_method_7_code 26 = .ok (.getfield 95, 3) := by decide +kernel
theorem zd_LassoSearch_enterSpot_29 : decode prog_4_method_7_code 29 = .ok (.iastore, 1) := by decide +kernel
theorem zd_LassoSearch_enterSpot_30 : decode prog_4_method_7_code 30 = .ok (.aload_n 0, 1) := by decide +kernel
theorem zd_LassoSearch_enterSpot_31 : decode prog_4_method_7_code 31 = .ok (.getfield 30, 3) := by decide +kernel
theorem zd_LassoSearch_enterSpot_34 : decode prog_4_method_7_code 34 = .ok (.iload_n 1, 1) := by decide +kernel
theorem zd_LassoSearch_enterSpot_35 : decode prog_4_method_7_code 35 = .ok (.aload_n 0, 1) := by decide +kernel
theorem zd_LassoSearch_enterSpot_36 : decode prog_4_method_7_code 36 = .ok (.getfield 15, 3) := by decide +kernel
theorem zd_LassoSearch_enterSpot_39 : decode prog_4_method_7_code 39 = .ok (.getfield 116, 3) := by decide +kernel
theorem zd_LassoSearch_enterSpot_42 : decode prog_4_method_7_code 42 = .ok (.iload_n 1, 1) := by decide +kernel
theorem zd_LassoSearch_enterSpot_43 : decode prog_4_method_7_code 43 = .ok (.bipush 8, 2) := by decide +kernel
theorem zd_LassoSearch_enterSpot_45 : decode prog_4_method_7_code 45 = .ok (.idiv, 1) := by decide +kernel
theorem zd_LassoSearch_enterSpot_46 : decode prog_4_method_7_code 46 = .ok (.iaload, 1) := by decide +kernel
theorem zd_LassoSearch_enterSpot_47 : decode prog_4_method_7_code 47 = .ok (.iastore, 1) := by decide +kernel
theorem zd_LassoSearch_enterSpot_48 : decode prog_4_method_7_code 48 = .ok (.aload_n 0, 1) := by decide +kernel
theorem zd_LassoSearch_enterSpot_49 : decode prog_4_method_7_code 49 = .ok (.getfield 33, 3) := by decide +kernel
theorem zd_LassoSearch_enterSpot_52 : decode prog_4_method_7_code 52 = .ok (.iload_n 1, 1) := by decide +kernel
theorem zd_LassoSearch_enterSpot_53 : decode prog_4_method_7_code 53 = .ok (.iconst 1, 1) := by decide +kernel
theorem zd_LassoSearch_enterSpot_54 : decode prog_4_method_7_code 54 = .ok (.bastore, 1) := by decide +kernel
theorem zd_LassoSearch_enterSpot_55 : decode prog_4_method_7_code 55 = .ok (.aload_n 0, 1) := by decide +kernel
theorem zd_LassoSearch_enterSpot_56 : decode prog_4_method_7_code 56 = .ok (.getfield 40, 3) := by decide +kernel
theorem zd_LassoSearch_enterSpot_59 : decode prog_4_method_7_code 59 = .ok (.aload_n 0, 1) := by decide +kernel
theorem zd_LassoSearch_enterSpot_60 : decode prog_4_method_7_code 60 = .ok (.getfield 98, 3) := by decide +kernel
theorem zd_LassoSearch_enterSpot_63 : decode prog_4_method_7_code 63 = .ok (.iload_n 1, 1) := by decide +kernel
theorem zd_LassoSearch_enterSpot_64 : decode prog_4_method_7_code 64 = .ok (.iastore, 1) := by decide +kernel
theorem zd_LassoSearch_enterSpot_65 : decode prog_4_method_7_code 65 = .ok (.aload_n 0, 1) := by decide +kernel
theorem zd_LassoSearch_enterSpot_66 : decode prog_4_method_7_code 66 = .ok (.dup, 1) := by decide +kernel
theorem zd_LassoSearch_enterSpot_67 : decode prog_4_method_7_code 67 = .ok (.getfield 98, 3) := by decide +kernel
theorem zd_LassoSearch_enterSpot_70 : decode prog_4_method_7_code 70 = .ok (.iconst 1, 1) := by decide +kernel
theorem zd_LassoSearch_enterSpot_71 : decode prog_4_method_7_code 71 = .ok (.iadd, 1) := by decide +kernel
theorem zd_LassoSearch_enterSpot_72 : decode prog_4_method_7_code 72 = .ok (.putfield 98, 3) := by decide +kernel
theorem zd_LassoSearch_enterSpot_75 : decode prog_4_method_7_code 75 = .ok (.aload_n 0, 1) := by decide +kernel
theorem zd_LassoSearch_enterSpot_76 : decode prog_4_method_7_code 76 = .ok (.getfield 37, 3) := by decide +kernel
theorem zd_LassoSearch_enterSpot_79 : decode prog_4_method_7_code 79 = .ok (.aload_n 0, 1) := by decide +kernel
theorem zd_LassoSearch_enterSpot_80 : decode prog_4_method_7_code 80 = .ok (.getfield 110, 3) := by decide +kernel
theorem zd_LassoSearch_enterSpot_83 : decode prog_4_method_7_code 83 = .ok (.iload_n 1, 1) := by decide +kernel
theorem zd_LassoSearch_enterSpot_84 : decode prog_4_method_7_code 84 = .ok (.iastore, 1) := by decide +kernel
theorem zd_LassoSearch_enterSpot_85 : decode prog_4_method_7_code 85 = .ok (.aload_n 0, 1) := by decide +kernel
theorem zd_LassoSearch_enterSpot_86 : decode prog_4_method_7_code 86 = .ok (.dup, 1) := by decide +kernel
theorem zd_LassoSearch_enterSpot_87 : decode prog_4_method_7_code 87 = .ok (.getfield 110, 3) := by decide +kernel
theorem zd_LassoSearch_enterSpot_90 : decode prog_4_method_7_code 90 = .ok (.iconst 1, 1) := by decide +kernel
theorem zd_LassoSearch_enterSpot_91 : decode prog_4_method_7_code 91 = .ok (.iadd, 1) := by decide +kernel
theorem zd_LassoSearch_enterSpot_92 : decode prog_4_method_7_code 92 = .ok (.putfield 110, 3) := by decide +kernel
theorem zd_LassoSearch_enterSpot_95 : decode prog_4_method_7_code 95 = .ok (.return_, 1) := by decide +kernel
theorem zd_LassoSearch_findCycle_0 : decode prog_4_method_16_code 0 = .ok (.aload_n 0, 1) := by decide +kernel
theorem zd_LassoSearch_findCycle_1 : decode prog_4_method_16_code 1 = .ok (.getfield 58, 3) := by decide +kernel
theorem zd_LassoSearch_findCycle_4 : decode prog_4_method_16_code 4 = .ok (.ifCond .ne 7, 3) := by decide +kernel
theorem zd_LassoSearch_findCycle_7 : decode prog_4_method_16_code 7 = .ok (.iconst 0, 1) := by decide +kernel
theorem zd_LassoSearch_findCycle_8 : decode prog_4_method_16_code 8 = .ok (.goto 22, 3) := by decide +kernel
theorem zd_LassoSearch_findCycle_11 : decode prog_4_method_16_code 11 = .ok (.aload_n 0, 1) := by decide +kernel
theorem zd_LassoSearch_findCycle_12 : decode prog_4_method_16_code 12 = .ok (.getfield 15, 3) := by decide +kernel
theorem zd_LassoSearch_findCycle_15 : decode prog_4_method_16_code 15 = .ok (.getfield 151, 3) := by decide +kernel
theorem zd_LassoSearch_findCycle_18 : decode prog_4_method_16_code 18 = .ok (.aload_n 0, 1) := by decide +kernel
theorem zd_LassoSearch_findCycle_19 : decode prog_4_method_16_code 19 = .ok (.getfield 49, 3) := by decide +kernel
theorem zd_LassoSearch_findCycle_22 : decode prog_4_method_16_code 22 = .ok (.aload_n 0, 1) := by decide +kernel
theorem zd_LassoSearch_findCycle_23 : decode prog_4_method_16_code 23 = .ok (.getfield 58, 3) := by decide +kernel
theorem zd_LassoSearch_findCycle_26 : decode prog_4_method_16_code 26 = .ok (.iconst 1, 1) := by decide +kernel
theorem zd_LassoSearch_findCycle_27 : decode prog_4_method_16_code 27 = .ok (.isub, 1) := by decide +kernel
theorem zd_LassoSearch_findCycle_28 : decode prog_4_method_16_code 28 = .ok (.iaload, 1) := by decide +kernel
theorem zd_LassoSearch_findCycle_29 : decode prog_4_method_16_code 29 = .ok (.iaload, 1) := by decide +kernel
theorem zd_LassoSearch_findCycle_30 : decode prog_4_method_16_code 30 = .ok (.istore_n 2, 1) := by decide +kernel
theorem zd_LassoSearch_findCycle_31 : decode prog_4_method_16_code 31 = .ok (.aload_n 0, 1) := by decide +kernel
theorem zd_LassoSearch_findCycle_32 : decode prog_4_method_16_code 32 = .ok (.iconst (-1), 1) := by decide +kernel
theorem zd_LassoSearch_findCycle_33 : decode prog_4_method_16_code 33 = .ok (.putfield 164, 3) := by decide +kernel
theorem zd_LassoSearch_findCycle_36 : decode prog_4_method_16_code 36 = .ok (.iconst 0, 1) := by decide +kernel
theorem zd_LassoSearch_findCycle_37 : decode prog_4_method_16_code 37 = .ok (.istore_n 3, 1) := by decide +kernel
theorem zd_LassoSearch_findCycle_38 : decode prog_4_method_16_code 38 = .ok (.iload_n 3, 1) := by decide +kernel
theorem zd_LassoSearch_findCycle_39 : decode prog_4_method_16_code 39 = .ok (.aload_n 0, 1) := by decide +kernel
theorem zd_LassoSearch_findCycle_40 : decode prog_4_method_16_code 40 = .ok (.getfield 19, 3) := by decide +kernel
theorem zd_LassoSearch_findCycle_43 : decode prog_4_method_16_code 43 = .ok (.getfield 104, 3) := by decide +kernel
theorem zd_LassoSearch_findCycle_46 : decode prog_4_method_16_code 46 = .ok (.if_icmp .ge 70, 3) := by decide +kernel
theorem zd_LassoSearch_findCycle_49 : decode prog_4_method_16_code 49 = .ok (.iload_n 1, 1) := by decide +kernel
theorem zd_LassoSearch_findCycle_50 : decode prog_4_method_16_code 50 = .ok (.iload_n 3, 1) := by decide +kernel
theorem zd_LassoSearch_findCycle_51 : decode prog_4_method_16_code 51 = .ok (.ishr, 1) := by decide +kernel
theorem zd_LassoSearch_findCycle_52 : decode prog_4_method_16_code 52 = .ok (.iconst 1, 1) := by decide +kernel
theorem zd_LassoSearch_findCycle_53 : decode prog_4_method_16_code 53 = .ok (.iand, 1) := by decide +kernel
theorem zd_LassoSearch_findCycle_54 : decode prog_4_method_16_code 54 = .ok (.ifCond .eq 56, 3) := by decide +kernel
theorem zd_LassoSearch_findCycle_57 : decode prog_4_method_16_code 57 = .ok (.iload_n 2, 1) := by decide +kernel
theorem zd_LassoSearch_findCycle_58 : decode prog_4_method_16_code 58 = .ok (.bipush 8, 2) := by decide +kernel
theorem zd_LassoSearch_findCycle_60 : decode prog_4_method_16_code 60 = .ok (.imul, 1) := by decide +kernel
theorem zd_LassoSearch_findCycle_61 : decode prog_4_method_16_code 61 = .ok (.iload_n 3, 1) := by decide +kernel
theorem zd_LassoSearch_findCycle_62 : decode prog_4_method_16_code 62 = .ok (.iadd, 1) := by decide +kernel
theorem zd_LassoSearch_findCycle_63 : decode prog_4_method_16_code 63 = .ok (.istore 4, 2) := by decide +kernel
theorem zd_LassoSearch_findCycle_65 : decode prog_4_method_16_code 65 = .ok (.aload_n 0, 1) := by decide +kernel
theorem zd_LassoSearch_findCycle_66 : decode prog_4_method_16_code 66 = .ok (.iload 4, 2) := by decide +kernel
theorem zd_LassoSearch_findCycle_68 : decode prog_4_method_16_code 68 = .ok (.invokevirtual 167, 3) := by decide +kernel
theorem zd_LassoSearch_findCycle_71 : decode prog_4_method_16_code 71 = .ok (.istore 5, 2) := by decide +kernel
theorem zd_LassoSearch_findCycle_73 : decode prog_4_method_16_code 73 = .ok (.iload 5, 2) := by decide +kernel
theorem zd_LassoSearch_findCycle_75 : decode prog_4_method_16_code 75 = .ok (.iconst (-1), 1) := by decide +kernel
theorem zd_LassoSearch_findCycle_76 : decode prog_4_method_16_code 76 = .ok (.if_icmp .eq 34, 3) := by decide +kernel
theorem zd_LassoSearch_findCycle_79 : decode prog_4_method_16_code 79 = .ok (.aload_n 0, 1) := by decide +kernel
theorem zd_LassoSearch_findCycle_80 : decode prog_4_method_16_code 80 = .ok (.getfield 164, 3) := by decide +kernel
theorem zd_LassoSearch_findCycle_83 : decode prog_4_method_16_code 83 = .ok (.iconst (-1), 1) := by decide +kernel
theorem zd_LassoSearch_findCycle_84 : decode prog_4_method_16_code 84 = .ok (.if_icmp .eq 12, 3) := by decide +kernel
theorem zd_LassoSearch_findCycle_87 : decode prog_4_method_16_code 87 = .ok (.iload 5, 2) := by decide +kernel
theorem zd_LassoSearch_findCycle_89 : decode prog_4_method_16_code 89 = .ok (.aload_n 0, 1) := by decide +kernel
theorem zd_LassoSearch_findCycle_90 : decode prog_4_method_16_code 90 = .ok (.getfield 164, 3) := by decide +kernel
theorem zd_LassoSearch_findCycle_93 : decode prog_4_method_16_code 93 = .ok (.if_icmp .gt 17, 3) := by decide +kernel
theorem zd_LassoSearch_findCycle_96 : decode prog_4_method_16_code 96 = .ok (.aload_n 0, 1) := by decide +kernel
theorem zd_LassoSearch_findCycle_97 : decode prog_4_method_16_code 97 = .ok (.iload 4, 2) := by decide +kernel
theorem zd_LassoSearch_findCycle_99 : decode prog_4_method_16_code 99 = .ok (.iload 5, 2) := by decide +kernel
theorem zd_LassoSearch_findCycle_101 : decode prog_4_method_16_code 101 = .ok (.invokevirtual 171, 3) := by decide +kernel
theorem zd_LassoSearch_findCycle_104 : decode prog_4_method_16_code 104 = .ok (.aload_n 0, 1) := by decide +kernel
theorem zd_LassoSearch_findCycle_105 : decode prog_4_method_16_code 105 = .ok (.iload 5, 2) := by decide +kernel
theorem zd_LassoSearch_findCycle_107 : decode prog_4_method_16_code 107 = .ok (.invokevirtual 174, 3) := by decide +kernel
theorem zd_LassoSearch_findCycle_110 : decode prog_4_method_16_code 110 = .ok (.iinc 3 1, 3) := by decide +kernel
theorem zd_LassoSearch_findCycle_113 : decode prog_4_method_16_code 113 = .ok (.goto (-75), 3) := by decide +kernel
theorem zd_LassoSearch_findCycle_116 : decode prog_4_method_16_code 116 = .ok (.return_, 1) := by decide +kernel
theorem zd_LassoSearch_leadsToItself_0 : decode prog_4_method_10_code 0 = .ok (.iload_n 1, 1) := by decide +kernel
theorem zd_LassoSearch_leadsToItself_1 : decode prog_4_method_10_code 1 = .ok (.bipush 8, 2) := by decide +kernel
theorem zd_LassoSearch_leadsToItself_3 : decode prog_4_method_10_code 3 = .ok (.idiv, 1) := by decide +kernel
theorem zd_LassoSearch_leadsToItself_4 : decode prog_4_method_10_code 4 = .ok (.istore_n 2, 1) := by decide +kernel
theorem zd_LassoSearch_leadsToItself_5 : decode prog_4_method_10_code 5 = .ok (.aload_n 0, 1) := by decide +kernel
theorem zd_LassoSearch_leadsToItself_6 : decode prog_4_method_10_code 6 = .ok (.getfield 15, 3) := by decide +kernel
theorem zd_LassoSearch_leadsToItself_9 : decode prog_4_method_10_code 9 = .ok (.getfield 148, 3) := by decide +kernel
theorem zd_LassoSearch_leadsToItself_12 : decode prog_4_method_10_code 12 = .ok (.iload_n 2, 1) := by decide +kernel
theorem zd_LassoSearch_leadsToItself_13 : decode prog_4_method_10_code 13 = .ok (.iaload, 1) := by decide +kernel
theorem zd_LassoSearch_leadsToItself_14 : decode prog_4_method_10_code 14 = .ok (.istore_n 3, 1) := by decide +kernel
theorem zd_LassoSearch_leadsToItself_15 : decode prog_4_method_10_code 15 = .ok (.iload_n 3, 1) := by decide +kernel
theorem zd_LassoSearch_leadsToItself_16 : decode prog_4_method_10_code 16 = .ok (.aload_n 0, 1) := by decide +kernel
theorem zd_LassoSearch_leadsToItself_17 : decode prog_4_method_10_code 17 = .ok (.getfield 15, 3) := by decide +kernel
theorem zd_LassoSearch_leadsToItself_20 : decode prog_4_method_10_code 20 = .ok (.getfield 148, 3) := by decide +kernel
theorem zd_LassoSearch_leadsToItself_23 : decode prog_4_method_10_code 23 = .ok (.iload_n 2, 1) := by decide +kernel
theorem zd_LassoSearch_leadsToItself_24 : decode prog_4_method_10_code 24 = .ok (.iconst 1, 1) := by decide +kernel
theorem zd_LassoSearch_leadsToItself_25 : decode prog_4_method_10_code 25 = .ok (.iadd, 1) := by decide +kernel
theorem zd_LassoSearch_leadsToItself_26 : decode prog_4_method_10_code 26 = .ok (.iaload, 1) := by decide +kernel
theorem zd_LassoSearch_leadsToItself_27 : decode prog_4_method_10_code 27 = .ok (.if_icmp .ge 41, 3) := by decide +kernel
theorem zd_LassoSearch_leadsToItself_30 : decode prog_4_method_10_code 30 = .ok (.aload_n 0, 1) := by decide +kernel
theorem zd_LassoSearch_leadsToItself_31 : decode prog_4_method_10_code 31 = .ok (.getfield 15, 3) := by decide +kernel
theorem zd_LassoSearch_leadsToItself_34 : decode prog_4_method_10_code 34 = .ok (.getfield 151, 3) := by decide +kernel
theorem zd_LassoSearch_leadsToItself_37 : decode prog_4_method_10_code 37 = .ok (.iload_n 3, 1) := by decide +kernel
theorem zd_LassoSearch_leadsToItself_38 : decode prog_4_method_10_code 38 = .ok (.iaload, 1) := by decide +kernel
theorem zd_LassoSearch_leadsToItself_39 : decode prog_4_method_10_code 39 = .ok (.iload_n 2, 1) := by decide +kernel
theorem zd_LassoSearch_leadsToItself_40 : decode prog_4_method_10_code 40 = .ok (.if_icmp .ne 22, 3) := by decide +kernel
theorem zd_LassoSearch_leadsToItself_43 : decode prog_4_method_10_code 43 = .ok (.aload_n 0, 1) := by decide +kernel
theorem zd_LassoSearch_leadsToItself_44 : decode prog_4_method_10_code 44 = .ok (.iload_n 2, 1) := by decide +kernel
theorem zd_LassoSearch_leadsToItself_45 : decode prog_4_method_10_code 45 = .ok (.iload_n 1, 1) := by decide +kernel
theorem zd_LassoSearch_leadsToItself_46 : decode prog_4_method_10_code 46 = .ok (.bipush 8, 2) := by decide +kernel
theorem zd_LassoSearch_leadsToItself_48 : decode prog_4_method_10_code 48 = .ok (.irem, 1) := by decide +kernel
theorem zd_LassoSearch_leadsToItself_49 : decode prog_4_method_10_code 49 = .ok (.invokevirtual 125, 3) := by decide +kernel
theorem zd_LassoSearch_leadsToItself_52 : decode prog_4_method_10_code 52 = .ok (.iload_n 1, 1) := by decide +kernel
theorem zd_LassoSearch_leadsToItself_53 : decode prog_4_method_10_code 53 = .ok (.if_icmp .ne 7, 3) := by decide +kernel
theorem zd_LassoSearch_leadsToItself_56 : decode prog_4_method_10_code 56 = .ok (.iconst 1, 1) := by decide +kernel
theorem zd_LassoSearch_leadsToItself_57 : decode prog_4_method_10_code 57 = .ok (.goto 4, 3) := by decide +kernel
theorem zd_LassoSearch_leadsToItself_60 : decode prog_4_method_10_code 60 = .ok (.iconst 0, 1) := by decide +kernel
theorem zd_LassoSearch_leadsToItself_61 : decode prog_4_method_10_code 61 = .ok (.ireturn, 1) := by decide +kernel
theorem zd_LassoSearch_leadsToItself_62 : decode prog_4_method_10_code 62 = .ok (.iinc 3 1, 3) := by decide +kernel
theorem zd_LassoSearch_leadsToItself_65 : decode prog_4_method_10_code 65 = .ok (.goto (-50), 3) := by decide +kernel
theorem zd_LassoSearch_leadsToItself_68 : decode prog_4_method_10_code 68 = .ok (.iconst 0, 1) := by decide +kernel
theorem zd_LassoSearch_leadsToItself_69 : decode prog_4_method_10_code 69 = .ok (.ireturn, 1) := by decide +kernel
theorem zd_LassoSearch_measureCycle_0 : decode prog_4_method_18_code 0 = .ok (.iload_n 1, 1) := by decide +kernel
theorem zd_LassoSearch_measureCycle_1 : decode prog_4_method_18_code 1 = .ok (.bipush 8, 2) := by decide +kernel
theorem zd_LassoSearch_measureCycle_3 : decode prog_4_method_18_code 3 = .ok (.imul, 1) := by decide +kernel
theorem zd_LassoSearch_measureCycle_4 : decode prog_4_method_18_code 4 = .ok (.aload_n 0, 1) := by decide +kernel
theorem zd_LassoSearch_measureCycle_5 : decode prog_4_method_18_code 5 = .ok (.getfield 19, 3) := by decide +kernel
theorem zd_LassoSearch_measureCycle_8 : decode prog_4_method_18_code 8 = .ok (.getfield 104, 3) := by decide +kernel
theorem zd_LassoSearch_measureCycle_11 : decode prog_4_method_18_code 11 = .ok (.iadd, 1) := by decide +kernel
theorem zd_LassoSearch_measureCycle_12 : decode prog_4_method_18_code 12 = .ok (.iconst 1, 1) := by decide +kernel
theorem zd_LassoSearch_measureCycle_13 : decode prog_4_method_18_code 13 = .ok (.isub, 1) := by decide +kernel
theorem zd_LassoSearch_measureCycle_14 : decode prog_4_method_18_code 14 = .ok (.istore_n 2, 1) := by decide +kernel
theorem zd_LassoSearch_measureCycle_15 : decode prog_4_method_18_code 15 = .ok (.aload_n 0, 1) := by decide +kernel
theorem zd_LassoSearch_measureCycle_16 : decode prog_4_method_18_code 16 = .ok (.getfield 43, 3) := by decide +kernel
theorem zd_LassoSearch_measureCycle_19 : decode prog_4_method_18_code 19 = .ok (.iconst (-1), 1) := by decide +kernel
theorem zd_LassoSearch_measureCycle_20 : decode prog_4_method_18_code 20 = .ok (.invokestatic 65, 3) := by decide +kernel
theorem zd_LassoSearch_measureCycle_23 : decode prog_4_method_18_code 23 = .ok (.aload_n 0, 1) := by decide +kernel
theorem zd_LassoSearch_measureCycle_24 : decode prog_4_method_18_code 24 = .ok (.iconst 0, 1) := by decide +kernel
theorem zd_LassoSearch_measureCycle_25 : decode prog_4_method_18_code 25 = .ok (.putfield 62, 3) := by decide +kernel
theorem zd_LassoSearch_measureCycle_28 : decode prog_4_method_18_code 28 = .ok (.aload_n 0, 1) := by decide +kernel
theorem zd_LassoSearch_measureCycle_29 : decode prog_4_method_18_code 29 = .ok (.iload_n 1, 1) := by decide +kernel
theorem zd_LassoSearch_measureCycle_30 : decode prog_4_method_18_code 30 = .ok (.bipush 8, 2) := by decide +kernel
theorem zd_LassoSearch_measureCycle_32 : decode prog_4_method_18_code 32 = .ok (.imul, 1) := by decide +kernel
theorem zd_LassoSearch_measureCycle_33 : decode prog_4_method_18_code 33 = .ok (.iconst 0, 1) := by decide +kernel
theorem zd_LassoSearch_measureCycle_34 : decode prog_4_method_18_code 34 = .ok (.invokevirtual 144, 3) := by decide +kernel
theorem zd_LassoSearch_measureCycle_37 : decode prog_4_method_18_code 37 = .ok (.iconst 0, 1) := by decide +kernel
theorem zd_LassoSearch_measureCycle_38 : decode prog_4_method_18_code 38 = .ok (.istore_n 3, 1) := by decide +kernel
theorem zd_LassoSearch_measureCycle_39 : decode prog_4_method_18_code 39 = .ok (.iload_n 3, 1) := by decide +kernel
theorem zd_LassoSearch_measureCycle_40 : decode prog_4_method_18_code 40 = .ok (.sipush 6144, 3) := by decide +kernel
theorem zd_LassoSearch_measureCycle_43 : decode prog_4_method_18_code 43 = .ok (.if_icmp .ge 159, 3) := by decide +kernel
theorem zd_LassoSearch_measureCycle_46 : decode prog_4_method_18_code 46 = .ok (.iload_n 3, 1) := by decide +kernel
theorem zd_LassoSearch_measureCycle_47 : decode prog_4_method_18_code 47 = .ok (.aload_n 0, 1) := by decide +kernel
theorem zd_LassoSearch_measureCycle_48 : decode prog_4_method_18_code 48 = .ok (.getfield 62, 3) := by decide +kernel
theorem zd_LassoSearch_measureCycle_51 : decode prog_4_method_18_code 51 = .ok (.if_icmp .ge 151, 3) := by decide +kernel
theorem zd_LassoSearch_measureCycle_54 : decode prog_4_method_18_code 54 = .ok (.aload_n 0, 1) := by decide +kernel
theorem zd_LassoSearch_measureCycle_55 : decode prog_4_method_18_code 55 = .ok (.getfield 46, 3) := by decide +kernel
theorem zd_LassoSearch_measureCycle_58 : decode prog_4_method_18_code 58 = .ok (.iload_n 3, 1) := by decide +kernel
theorem zd_LassoSearch_measureCycle_59 : decode prog_4_method_18_code 59 = .ok (.iaload, 1) := by decide +kernel
theorem zd_LassoSearch_measureCycle_60 : decode prog_4_method_18_code 60 = .ok (.istore 4, 2) := by decide +kernel
theorem zd_LassoSearch_measureCycle_62 : decode prog_4_method_18_code 62 = .ok (.iload 4, 2) := by decide +kernel
theorem zd_LassoSearch_measureCycle_64 : decode prog_4_method_18_code 64 = .ok (.bipush 8, 2) := by decide +kernel
theorem zd_LassoSearch_measureCycle_66 : decode prog_4_method_18_code 66 = .ok (.idiv, 1) := by decide +kernel
theorem zd_LassoSearch_measureCycle_67 : decode prog_4_method_18_code 67 = .ok (.bipush 8, 2) := by decide +kernel
theorem zd_LassoSearch_measureCycle_69 : decode prog_4_method_18_code 69 = .ok (.irem, 1) := by decide +kernel
theorem zd_LassoSearch_measureCycle_70 : decode prog_4_method_18_code 70 = .ok (.istore 5, 2) := by decide +kernel
theorem zd_LassoSearch_measureCycle_72 : decode prog_4_method_18_code 72 = .ok (.iload 4, 2) := by decide +kernel
theorem zd_LassoSearch_measureCycle_74 : decode prog_4_method_18_code 74 = .ok (.bipush 8, 2) := by decide +kernel
theorem zd_LassoSearch_measureCycle_76 : decode prog_4_method_18_code 76 = .ok (.idiv, 1) := by decide +kernel
theorem zd_LassoSearch_measureCycle_77 : decode prog_4_method_18_code 77 = .ok (.bipush 8, 2) := by decide +kernel
theorem zd_LassoSearch_measureCycle_79 : decode prog_4_method_18_code 79 = .ok (.idiv, 1) := by decide +kernel
theorem zd_LassoSearch_measureCycle_80 : decode prog_4_method_18_code 80 = .ok (.istore 6, 2) := by decide +kernel
theorem zd_LassoSearch_measureCycle_82 : decode prog_4_method_18_code 82 = .ok (.aload_n 0, 1) := by decide +kernel
theorem zd_LassoSearch_measureCycle_83 : decode prog_4_method_18_code 83 = .ok (.getfield 15, 3) := by decide +kernel
theorem zd_LassoSearch_measureCycle_86 : decode prog_4_method_18_code 86 = .ok (.getfield 116, 3) := by decide +kernel
theorem zd_LassoSearch_measureCycle_89 : decode prog_4_method_18_code 89 = .ok (.iload 6, 2) := by decide +kernel
theorem zd_LassoSearch_measureCycle_91 : decode prog_4_method_18_code 91 = .ok (.iaload, 1) := by decide +kernel
theorem zd_LassoSearch_measureCycle_92 : decode prog_4_method_18_code 92 = .ok (.istore 7, 2) := by decide +kernel
theorem zd_LassoSearch_measureCycle_94 : decode prog_4_method_18_code 94 = .ok (.iload 7, 2) := by decide +kernel
theorem zd_LassoSearch_measureCycle_96 : decode prog_4_method_18_code 96 = .ok (.aload_n 0, 1) := by decide +kernel
theorem zd_LassoSearch_measureCycle_97 : decode prog_4_method_18_code 97 = .ok (.getfield 15, 3) := by decide +kernel
theorem zd_LassoSearch_measureCycle_100 : decode prog_4_method_18_code 100 = .ok (.getfield 116, 3) := by decide +kernel
theorem zd_LassoSearch_measureCycle_103 : decode prog_4_method_18_code 103 = .ok (.iload 6, 2) := by decide +kernel
theorem zd_LassoSearch_measureCycle_105 : decode prog_4_method_18_code 105 = .ok (.iconst 1, 1) := by decide +kernel
theorem zd_LassoSearch_measureCycle_106 : decode prog_4_method_18_code 106 = .ok (.iadd, 1) := by decide +kernel
theorem zd_LassoSearch_measureCycle_107 : decode prog_4_method_18_code 107 = .ok (.iaload, 1) := by decide +kernel
theorem zd_LassoSearch_measureCycle_108 : decode prog_4_method_18_code 108 = .ok (.if_icmp .ge 88, 3) := by decide +kernel
theorem zd_LassoSearch_measureCycle_111 : decode prog_4_method_18_code 111 = .ok (.aload_n 0, 1) := by decide +kernel
theorem zd_LassoSearch_measureCycle_112 : decode prog_4_method_18_code 112 = .ok (.aload_n 0, 1) := by decide +kernel
theorem zd_LassoSearch_measureCycle_113 : decode prog_4_method_18_code 113 = .ok (.getfield 15, 3) := by decide +kernel
theorem zd_LassoSearch_measureCycle_116 : decode prog_4_method_18_code 116 = .ok (.getfield 122, 3) := by decide +kernel
theorem zd_LassoSearch_measureCycle_119 : decode prog_4_method_18_code 119 = .ok (.iload 7, 2) := by decide +kernel
theorem zd_LassoSearch_measureCycle_121 : decode prog_4_method_18_code 121 = .ok (.iaload, 1) := by decide +kernel
theorem zd_LassoSearch_measureCycle_122 : decode prog_4_method_18_code 122 = .ok (.iload 5, 2) := by decide +kernel
theorem zd_LassoSearch_measureCycle_124 : decode prog_4_method_18_code 124 = .ok (.invokevirtual 125, 3) := by decide +kernel
theorem zd_LassoSearch_measureCycle_127 : decode prog_4_method_18_code 127 = .ok (.istore 8, 2) := by decide +kernel
theorem zd_LassoSearch_measureCycle_129 : decode prog_4_method_18_code 129 = .ok (.iload 4, 2) := by decide +kernel
theorem zd_LassoSearch_measureCycle_131 : decode prog_4_method_18_code 131 = .ok (.bipush 8, 2) := by decide +kernel
theorem zd_LassoSearch_measureCycle_133 : decode prog_4_method_18_code 133 = .ok (.irem, 1) := by decide +kernel
theorem zd_LassoSearch_measureCycle_134 : decode prog_4_method_18_code 134 = .ok (.aload_n 0, 1) := by decide +kernel
theorem zd_LassoSearch_measureCycle_135 : decode prog_4_method_18_code 135 = .ok (.getfield 19, 3) := by decide +kernel
theorem zd_LassoSearch_measureCycle_138 : decode prog_4_method_18_code 138 = .ok (.getfield 137, 3) := by decide +kernel
theorem zd_LassoSearch_measureCycle_141 : decode prog_4_method_18_code 141 = .ok (.iload 8, 2) := by decide +kernel
theorem zd_LassoSearch_measureCycle_143 : decode prog_4_method_18_code 143 = .ok (.iaload, 1) := by decide +kernel
theorem zd_LassoSearch_measureCycle_144 : decode prog_4_method_18_code 144 = .ok (.ior, 1) := by decide +kernel
theorem zd_LassoSearch_measureCycle_145 : decode prog_4_method_18_code 145 = .ok (.istore 9, 2) := by decide +kernel
theorem zd_LassoSearch_measureCycle_147 : decode prog_4_method_18_code 147 = .ok (.iload 8, 2) := by decide +kernel
theorem zd_LassoSearch_measureCycle_149 : decode prog_4_method_18_code 149 = .ok (.bipush 8, 2) := by decide +kernel
theorem zd_LassoSearch_measureCycle_151 : decode prog_4_method_18_code 151 = .ok (.imul, 1) := by decide +kernel
theorem zd_LassoSearch_measureCycle_152 : decode prog_4_method_18_code 152 = .ok (.iload 9, 2) := by decide +kernel
theorem zd_LassoSearch_measureCycle_154 : decode prog_4_method_18_code 154 = .ok (.iadd, 1) := by decide +kernel
theorem zd_LassoSearch_measureCycle_155 : decode prog_4_method_18_code 155 = .ok (.iload_n 2, 1) := by decide +kernel
theorem zd_LassoSearch_measureCycle_156 : decode prog_4_method_18_code 156 = .ok (.if_icmp .ne 13, 3) := by decide +kernel
theorem zd_LassoSearch_measureCycle_159 : decode prog_4_method_18_code 159 = .ok (.aload_n 0, 1) := by decide +kernel
theorem zd_LassoSearch_measureCycle_160 : decode prog_4_method_18_code 160 = .ok (.getfield 43, 3) := by decide +kernel
theorem zd_LassoSearch_measureCycle_163 : decode prog_4_method_18_code 163 = .ok (.iload 4, 2) := by decide +kernel
theorem zd_LassoSearch_measureCycle_165 : decode prog_4_method_18_code 165 = .ok (.iaload, 1) := by decide +kernel
theorem zd_LassoSearch_measureCycle_166 : decode prog_4_method_18_code 166 = .ok (.iconst 1, 1) := by decide +kernel
theorem zd_LassoSearch_measureCycle_167 : decode prog_4_method_18_code 167 = .ok (.iadd, 1) := by decide +kernel
theorem zd_LassoSearch_measureCycle_168 : decode prog_4_method_18_code 168 = .ok (.ireturn, 1) := by decide +kernel
theorem zd_LassoSearch_measureCycle_169 : decode prog_4_method_18_code 169 = .ok (.aload_n 0, 1) := by decide +kernel
theorem zd_LassoSearch_measureCycle_170 : decode prog_4_method_18_code 170 = .ok (.iload 8, 2) := by decide +kernel
theorem zd_LassoSearch_measureCycle_172 : decode prog_4_method_18_code 172 = .ok (.bipush 8, 2) := by decide +kernel
theorem zd_LassoSearch_measureCycle_174 : decode prog_4_method_18_code 174 = .ok (.imul, 1) := by decide +kernel
theorem zd_LassoSearch_measureCycle_175 : decode prog_4_method_18_code 175 = .ok (.iload 9, 2) := by decide +kernel
theorem zd_LassoSearch_measureCycle_177 : decode prog_4_method_18_code 177 = .ok (.iadd, 1) := by decide +kernel
theorem zd_LassoSearch_measureCycle_178 : decode prog_4_method_18_code 178 = .ok (.aload_n 0, 1) := by decide +kernel
theorem zd_LassoSearch_measureCycle_179 : decode prog_4_method_18_code 179 = .ok (.getfield 43, 3) := by decide +kernel
theorem zd_LassoSearch_measureCycle_182 : decode prog_4_method_18_code 182 = .ok (.iload 4, 2) := by decide +kernel
theorem zd_LassoSearch_measureCycle_184 : decode prog_4_method_18_code 184 = .ok (.iaload, 1) := by decide +kernel
theorem zd_LassoSearch_measureCycle_185 : decode prog_4_method_18_code 185 = .ok (.iconst 1, 1) := by decide +kernel
theorem zd_LassoSearch_measureCycle_186 : decode prog_4_method_18_code 186 = .ok (.iadd, 1) := by decide +kernel
theorem zd_LassoSearch_measureCycle_187 : decode prog_4_method_18_code 187 = .ok (.invokevirtual 144, 3) := by decide +kernel
theorem zd_LassoSearch_measureCycle_190 : decode prog_4_method_18_code 190 = .ok (.iinc 7 1, 3) := by decide +kernel
theorem zd_LassoSearch_measureCycle_193 : decode prog_4_method_18_code 193 = .ok (.goto (-99), 3) := by decide +kernel
theorem zd_LassoSearch_measureCycle_196 : decode prog_4_method_18_code 196 = .ok (.iinc 3 1, 3) := by decide +kernel
theorem zd_LassoSearch_measureCycle_199 : decode prog_4_method_18_code 199 = .ok (.goto (-160), 3) := by decide +kernel
theorem zd_LassoSearch_measureCycle_202 : decode prog_4_method_18_code 202 = .ok (.iconst (-1), 1) := by decide +kernel
theorem zd_LassoSearch_measureCycle_203 : decode prog_4_method_18_code 203 = .ok (.ireturn, 1) := by decide +kernel
theorem zd_LassoSearch_reach_0 : decode prog_4_method_11_code 0 = .ok (.aload_n 0, 1) := by decide +kernel
theorem zd_LassoSearch_reach_1 : decode prog_4_method_11_code 1 = .ok (.getfield 43, 3) := by decide +kernel
theorem zd_LassoSearch_reach_4 : decode prog_4_method_11_code 4 = .ok (.iload_n 1, 1) := by decide +kernel
theorem zd_LassoSearch_reach_5 : decode prog_4_method_11_code 5 = .ok (.iaload, 1) := by decide +kernel
theorem zd_LassoSearch_reach_6 : decode prog_4_method_11_code 6 = .ok (.iconst (-1), 1) := by decide +kernel
theorem zd_LassoSearch_reach_7 : decode prog_4_method_11_code 7 = .ok (.if_icmp .ne 30, 3) := by decide +kernel
theorem zd_LassoSearch_reach_10 : decode prog_4_method_11_code 10 = .ok (.aload_n 0, 1) := by decide +kernel
theorem zd_LassoSearch_reach_11 : decode prog_4_method_11_code 11 = .ok (.getfield 43, 3) := by decide +kernel
theorem zd_LassoSearch_reach_14 : decode prog_4_method_11_code 14 = .ok (.iload_n 1, 1) := by decide +kernel
theorem zd_LassoSearch_reach_15 : decode prog_4_method_11_code 15 = .ok (.iload_n 2, 1) := by decide +kernel
theorem zd_LassoSearch_reach_16 : decode prog_4_method_11_code 16 = .ok (.iastore, 1) := by decide +kernel
theorem zd_LassoSearch_reach_17 : decode prog_4_method_11_code 17 = .ok (.aload_n 0, 1) := by decide +kernel
theorem zd_LassoSearch_reach_18 : decode prog_4_method_11_code 18 = .ok (.getfield 46, 3) := by decide +kernel
theorem zd_LassoSearch_reach_21 : decode prog_4_method_11_code 21 = .ok (.aload_n 0, 1) := by decide +kernel
theorem zd_LassoSearch_reach_22 : decode prog_4_method_11_code 22 = .ok (.getfield 62, 3) := by decide +kernel
theorem zd_LassoSearch_reach_25 : decode prog_4_method_11_code 25 = .ok (.iload_n 1, 1) := by decide +kernel
theorem zd_LassoSearch_reach_26 : decode prog_4_method_11_code 26 = .ok (.iastore, 1) := by decide +kernel
theorem zd_LassoSearch_reach_27 : decode prog_4_method_11_code 27 = .ok (.aload_n 0, 1) := by decide +kernel
theorem zd_LassoSearch_reach_28 : decode prog_4_method_11_code 28 = .ok (.dup, 1) := by decide +kernel
theorem zd_LassoSearch_reach_29 : decode prog_4_method_11_code 29 = .ok (.getfield 62, 3) := by decide +kernel
theorem zd_LassoSearch_reach_32 : decode prog_4_method_11_code 32 = .ok (.iconst 1, 1) := by decide +kernel
theorem zd_LassoSearch_reach_33 : decode prog_4_method_11_code 33 = .ok (.iadd, 1) := by decide +kernel
theorem zd_LassoSearch_reach_34 : decode prog_4_method_11_code 34 = .ok (.putfield 62, 3) := by decide +kernel
theorem zd_LassoSearch_reach_37 : decode prog_4_method_11_code 37 = .ok (.return_, 1) := by decide +kernel
def wc_LassoSearch_reach_37 (a0 : Int32) (a1 : Int32) (Post : (Nat → Int32) → (Nat → Int64) → (Nat → Nat → Int32) → (Nat → Nat → Int64) → Prop)  (I : Nat → Int32) (J : Nat → Int64) (B : Nat → Nat → Int32) (D : Nat → Nat → Int64) : Prop :=
  Post I J B D
def wp_LassoSearch_reach (I : Nat → Int32) (J : Nat → Int64) (B : Nat → Nat → Int32) (D : Nat → Nat → Int64) (a0 : Int32) (a1 : Int32) (Post : (Nat → Int32) → (Nat → Int64) → (Nat → Nat → Int32) → (Nat → Nat → Int64) → Prop) : Prop :=
  vp_in a0 6144 ∧ ∀ z1 : Int32, z1 = ((B 56) a0.toNatClampNeg) → ((¬ z1 = (-1) → wc_LassoSearch_reach_37 a0 a1 Post I J B D) ∧ (z1 = (-1) → vp_in a0 6144 ∧ vp_in (I 35) 6144 ∧ ∀ z3 : Int32, z3 = ((I 35) + 1) → wc_LassoSearch_reach_37 a0 a1 Post (upd I 35 z3) J (va_up (va_up B 56 (upd (B 56) a0.toNatClampNeg a1)) 57 (upd (B 57) (I 35).toNatClampNeg a0)) D))
set_option maxHeartbeats 8000000 in
set_option maxRecDepth 100000 in
theorem wJ_LassoSearch_reach_37 {p : Program} {l : Launch} {e : Env} {s : State} {m : MethodId} {below : List Frame} {meth : Method} {c : Code} {A : Nat → Prop} (G : va_G) (K : Nat → ClassId) (ad : Nat → Nat) (a0 : Int32) (a1 : Int32) (Post : (Nat → Int32) → (Nat → Int64) → (Nat → Nat → Int32) → (Nat → Nat → Int64) → Prop) (C : zCx p s m ([.ref (ad 65), .int a0, .int a1] : List Value).toArray meth c A G K prog_4_method_11_code none 3 "LassoFinder$LassoSearch") : ∀  (I : Nat → Int32) (J : Nat → Int64) (B : Nat → Nat → Int32) (D : Nat → Nat → Int64) (ls : Array Slot) (H : Heap) (locs : List Loc), wc_LassoSearch_reach_37 a0 a1 Post  I J B D → lv_has ls 3 [] → zW G A s.heap (wS ad K I J B D) H locs → W p l e { frames := 0, cells := 0, slots := 0, locals := 0 } s m ([.ref (ad 65), .int a0, .int a1] : List Value).toArray below meth c H locs 0 0 (MQ below (va_Qv (fun u : zS => Post u.1 u.2.1 u.2.2.1 u.2.2.2) (fun u t => zPost G K A (wS ad K u.1 u.2.1 u.2.2.1 u.2.2.2) t) A) ([.ref (ad 65), .int a0, .int a1] : List Value).toArray s 0 0 A) (F0 m 37 ls []) := by
  obtain ⟨hx, hb, hr, hml, hts, hown, hlocks, hA, hK⟩ := id C
  intro  I J B D ls H locs hok hl hw
  unfold wc_LassoSearch_reach_37 at hok
  exact (z_vret (u := (I, J, B, D)) hx hb hr hlocks hw (List.range 77) wS_all wS_nd hok (Nat.le_of_ble_eq_true rfl) (Nat.le_of_ble_eq_true rfl) zd_LassoSearch_reach_37)
set_option maxHeartbeats 8000000 in
set_option maxRecDepth 100000 in
theorem w_LassoSearch_reach (l : Launch) (G : va_G) (K : Nat → ClassId) (ad : Nat → Nat) (I : Nat → Int32) (J : Nat → Int64) (B : Nat → Nat → Int32) (D : Nat → Nat → Int64) (a0 : Int32) (a1 : Int32) (Post : (Nat → Int32) → (Nat → Int64) → (Nat → Nat → Int32) → (Nat → Nat → Int64) → Prop) (sz : Nat) (hok : wp_LassoSearch_reach I J B D a0 a1 Post) : Met l zy_LassoSearch_reach (Cond.code zy_LassoSearch_reach prog_4_method_11_code 3 none :: zTB) { frames := 0, cells := 0, slots := 0, locals := 0 } (va_Pc [.ref (ad 65), .int a0, .int a1] (zPre G K (wS ad K I J B D) sz)) (va_Qv (fun u : zS => Post u.1 u.2.1 u.2.2.1 u.2.2.2) (fun u t => zPost G K (va_A (wS ad K I J B D) sz) (wS ad K u.1 u.2.1 u.2.2.1 u.2.2.2) t) (va_A (wS ad K I J B D) sz)) 0 0 (va_A (wS ad K I J B D) sz) := by
  refine zMet (y := zy_LassoSearch_reach) (av := [.ref (ad 65), .int a0, .int a1]) (maxL := 3) (cc := prog_4_method_11_code) (ret := none) (W0 := (wS ad K I J B D)) (sz := sz) (G := G) (K := K) (wt := zTB) (mc := 0) (ms := 0) (Qf := fun A => va_Qv (fun u : zS => Post u.1 u.2.1 u.2.2.1 u.2.2.2) (fun u t => zPost G K A (wS ad K u.1 u.2.1 u.2.2.1 u.2.2.2) t) A) (by decide) (Nat.le_of_ble_eq_true rfl) ?_
  intro p e s m below meth c ls A hx hb hr hml hts hown hlocks hin hA hK H locs hw hsz hl
  clear hsz
  have hown : s.vm.findClass "LassoFinder$LassoSearch" = some m.cls := hown
  have C : zCx p s m ([.ref (ad 65), .int a0, .int a1] : List Value).toArray meth c A G K prog_4_method_11_code none 3 "LassoFinder$LassoSearch" := ⟨hx, hb, hr, hml, hts, hown, hlocks, hA, hK⟩
  have hl : lv_has ls 3 [(0, .ref (ad 65)), (1, .int a0), (2, .int a1)] := hl
  have hw : zW G A s.heap (wS ad K I J B D) H locs := hw
  unfold wp_LassoSearch_reach at hok
  refine lv_aload_n hx hb zd_LassoSearch_reach_0 rfl (lv_at hl 0 rfl) ?_
  refine z_get (v := .ref (ad 72)) hx hb hts hown hK hw zZ3 0 wS_g0 11 (by decide) zn_809 rfl zd_LassoSearch_reach_1 ?_
  refine lv_iload_n hx hb zd_LassoSearch_reach_4 rfl (lv_at hl 1 rfl) ?_
  refine va_iald (f := (B 56)) hx hb hK hw.1 7 0 wS_a7 rfl hok.1 zd_LassoSearch_reach_5 ?_
  have hok := hok.2
  refine lv_topi (fun z1 ez1 => ?_)
  have hok := hok z1 ez1
  refine lv_iconst (v := (-1)) hx hb zd_LassoSearch_reach_6 (by decide) ?_
  refine lv_icmp_ne (tgt := 37) hx hb zd_LassoSearch_reach_7 (by decide) (fun hc2 => ?_) (fun hc2 => ?_)
  · have hok := hok.1 hc2
    exact wJ_LassoSearch_reach_37 G K ad a0 a1 Post C I J B D ls H locs hok (lv_sub hl [] rfl) hw
  · have hok := hok.2 hc2
    refine lv_aload_n hx hb zd_LassoSearch_reach_10 rfl (lv_at hl 0 rfl) ?_
    refine z_get (v := .ref (ad 72)) hx hb hts hown hK hw zZ3 0 wS_g0 11 (by decide) zn_809 rfl zd_LassoSearch_reach_11 ?_
    refine lv_iload_n hx hb zd_LassoSearch_reach_14 rfl (lv_at hl 1 rfl) ?_
    refine lv_iload_n hx hb zd_LassoSearch_reach_15 rfl (lv_at hl 2 rfl) ?_
    refine va_iast (f := (B 56)) hx hb hK hw.1 hw.2.1 hw.2.2 7 0 wS_a7 rfl hok.1 zd_LassoSearch_reach_16 (fun H locs w91 w92 w93 => ?_)
    have hok := hok.2
    have hw := wS_t7 ⟨w91, w92, w93⟩
    refine lv_aload_n hx hb zd_LassoSearch_reach_17 rfl (lv_at hl 0 rfl) ?_
    refine z_get (v := .ref (ad 73)) hx hb hts hown hK hw zZ3 0 wS_g0 12 (by decide) zn_810 rfl zd_LassoSearch_reach_18 ?_
    refine lv_aload_n hx hb zd_LassoSearch_reach_21 rfl (lv_at hl 0 rfl) ?_
    refine z_get (v := .int (I 35)) hx hb hts hown hK hw zZ3 0 wS_g0 13 (by decide) zn_829 rfl zd_LassoSearch_reach_22 ?_
    refine lv_iload_n hx hb zd_LassoSearch_reach_25 rfl (lv_at hl 1 rfl) ?_
    refine va_iast (f := (B 57)) hx hb hK hw.1 hw.2.1 hw.2.2 8 0 wS_a8 rfl hok.1 zd_LassoSearch_reach_26 (fun H locs w91 w92 w93 => ?_)
    have hok := hok.2
    have hw := wS_t8 ⟨w91, w92, w93⟩
    refine lv_aload_n hx hb zd_LassoSearch_reach_27 rfl (lv_at hl 0 rfl) ?_
    refine lv_dup hx hb zd_LassoSearch_reach_28 rfl ?_
    refine z_get (v := .int (I 35)) hx hb hts hown hK hw zZ3 0 wS_g0 13 (by decide) zn_829 rfl zd_LassoSearch_reach_29 ?_
    refine lv_iconst (v := 1) hx hb zd_LassoSearch_reach_32 (by decide) ?_
    refine lv_iadd hx hb zd_LassoSearch_reach_33 ?_
    refine lv_topi (fun z3 ez3 => ?_)
    have hok := hok z3 ez3
    refine z_put (v := .int z3) hx hb hts hown hK hw zZ3 0 wS_g0 13 (by decide) zn_829 rfl rfl rfl (Nat.le_of_ble_eq_true rfl) zd_LassoSearch_reach_34 (fun H locs hw => ?_)
    have hw := wS_sI35 hw
    exact wJ_LassoSearch_reach_37 G K ad a0 a1 Post C (upd I 35 z3) J (va_up (va_up B 56 (upd (B 56) a0.toNatClampNeg a1)) 57 (upd (B 57) (I 35).toNatClampNeg a0)) D ls H locs hok (lv_sub hl [] rfl) hw
def wc_LassoSearch_measureCycle_202 (a0 : Int32) (Post : Int32 → (Nat → Int32) → (Nat → Int64) → (Nat → Nat → Int32) → (Nat → Nat → Int64) → Prop)  (I : Nat → Int32) (J : Nat → Int64) (B : Nat → Nat → Int32) (D : Nat → Nat → Int64) : Prop :=
  Post (-1) I J B D
def wb_LassoSearch_measureCycle_94 (a0 : Int32) (K94 : Int32 → Int32 → Int32 → Int32 → Int32 → Int32 → (Nat → Int32) → (Nat → Int64) → (Nat → Nat → Int32) → (Nat → Nat → Int64) → Prop) (K39 : Int32 → Int32 → (Nat → Int32) → (Nat → Int64) → (Nat → Nat → Int32) → (Nat → Nat → Int64) → Prop) (Post : Int32 → (Nat → Int32) → (Nat → Int64) → (Nat → Nat → Int32) → (Nat → Nat → Int64) → Prop) (x2 : Int32) (x3 : Int32) (x4 : Int32) (x5 : Int32) (x6 : Int32) (x7 : Int32) (I : Nat → Int32) (J : Nat → Int64) (B : Nat → Nat → Int32) (D : Nat → Nat → Int64) : Prop :=
  ∀ z1 : Int32, z1 = (x6 + 1) → vp_in z1 97 ∧ ∀ z2 : Int32, z2 = ((B 37) z1.toNatClampNeg) → ((z2 ≤ x7 → ∀ z4 : Int32, z4 = (x3 + 1) → K39 x2 z4 I J B D) ∧ (¬ z2 ≤ x7 → vp_in x7 400 ∧ ∀ z5 : Int32, z5 = ((B 38) x7.toNatClampNeg) → wp_LassoSearch_spotBefore I J B D z5 x5 (fun r6 I6 J6 B6 D6 => ∀ z7 : Int32, z7 = (x4 - x4 / 8 * 8) → vp_in r6 768 ∧ ∀ z8 : Int32, z8 = ((B6 48) r6.toNatClampNeg) → ∀ z9 : Int32, z9 = (z7 ||| z8) → ∀ z10 : Int32, z10 = (r6 * 8) → ∀ z11 : Int32, z11 = (z10 + z9) → ((¬ z11 = x2 → ∀ z13 : Int32, z13 = (r6 * 8) → ∀ z14 : Int32, z14 = (z13 + z9) → vp_in x4 6144 ∧ ∀ z15 : Int32, z15 = ((B6 56) x4.toNatClampNeg) → ∀ z16 : Int32, z16 = (z15 + 1) → wp_LassoSearch_reach I6 J6 B6 D6 z14 z16 (fun I17 J17 B17 D17 => ∀ z18 : Int32, z18 = (x7 + 1) → K94 x2 x3 x4 x5 x6 z18 I17 J17 B17 D17)) ∧ (z11 = x2 → vp_in x4 6144 ∧ ∀ z19 : Int32, z19 = ((B6 56) x4.toNatClampNeg) → ∀ z20 : Int32, z20 = (z19 + 1) → Post z20 I6 J6 B6 D6)))))
def wl_LassoSearch_measureCycle_94 (a0 : Int32) (K39 : Int32 → Int32 → (Nat → Int32) → (Nat → Int64) → (Nat → Nat → Int32) → (Nat → Nat → Int64) → Prop) (Post : Int32 → (Nat → Int32) → (Nat → Int64) → (Nat → Nat → Int32) → (Nat → Nat → Int64) → Prop) (n : Nat) : Int32 → Int32 → Int32 → Int32 → Int32 → Int32 → (Nat → Int32) → (Nat → Int64) → (Nat → Nat → Int32) → (Nat → Nat → Int64) → Prop := Nat.rec (fun _ _ _ _ _ _ _ _ _ _ => False) (fun _ r => wb_LassoSearch_measureCycle_94 a0 r K39 Post) n
def wb_LassoSearch_measureCycle_39 (a0 : Int32) (K39 : Int32 → Int32 → (Nat → Int32) → (Nat → Int64) → (Nat → Nat → Int32) → (Nat → Nat → Int64) → Prop) (Post : Int32 → (Nat → Int32) → (Nat → Int64) → (Nat → Nat → Int32) → (Nat → Nat → Int64) → Prop) (x2 : Int32) (x3 : Int32) (I : Nat → Int32) (J : Nat → Int64) (B : Nat → Nat → Int32) (D : Nat → Nat → Int64) : Prop :=
  (((6144 : Int32) ≤ x3 → wc_LassoSearch_measureCycle_202 a0 Post I J B D) ∧ (¬ (6144 : Int32) ≤ x3 → (((I 35) ≤ x3 → wc_LassoSearch_measureCycle_202 a0 Post I J B D) ∧ (¬ (I 35) ≤ x3 → vp_in x3 6144 ∧ ∀ z23 : Int32, z23 = ((B 57) x3.toNatClampNeg) → ∀ z24 : Int32, z24 = (z23 / 8) → ∀ z25 : Int32, z25 = (z24 - z24 / 8 * 8) → ∀ z26 : Int32, z26 = (z23 / 8) → ∀ z27 : Int32, z27 = (z26 / 8) → vp_in z27 97 ∧ ∀ z28 : Int32, z28 = ((B 37) z27.toNatClampNeg) → ∃ n : Nat, wl_LassoSearch_measureCycle_94 a0 K39 Post n x2 x3 z23 z25 z27 z28 I J B D))))
def wl_LassoSearch_measureCycle_39 (a0 : Int32) (Post : Int32 → (Nat → Int32) → (Nat → Int64) → (Nat → Nat → Int32) → (Nat → Nat → Int64) → Prop) (n : Nat) : Int32 → Int32 → (Nat → Int32) → (Nat → Int64) → (Nat → Nat → Int32) → (Nat → Nat → Int64) → Prop := Nat.rec (fun _ _ _ _ _ _ => False) (fun _ r => wb_LassoSearch_measureCycle_39 a0 r Post) n
def wp_LassoSearch_measureCycle (I : Nat → Int32) (J : Nat → Int64) (B : Nat → Nat → Int32) (D : Nat → Nat → Int64) (a0 : Int32) (Post : Int32 → (Nat → Int32) → (Nat → Int64) → (Nat → Nat → Int32) → (Nat → Nat → Int64) → Prop) : Prop :=
  ∀ z29 : Int32, z29 = (a0 * 8) → ∀ z30 : Int32, z30 = (z29 + (I 30)) → ∀ z31 : Int32, z31 = (z30 - 1) → ∀ z32 : Int32, z32 = (a0 * 8) → wp_LassoSearch_reach (upd I 35 0) J (va_up B 56 (zFill (B 56) (-1) 6144)) D z32 0 (fun I33 J33 B33 D33 => ∃ n : Nat, wl_LassoSearch_measureCycle_39 a0 Post n z31 0 I33 J33 B33 D33)
set_option maxHeartbeats 8000000 in
set_option maxRecDepth 100000 in
theorem wJ_LassoSearch_measureCycle_202 {p : Program} {l : Launch} {e : Env} {s : State} {m : MethodId} {below : List Frame} {meth : Method} {c : Code} {A : Nat → Prop} (G : va_G) (K : Nat → ClassId) (ad : Nat → Nat) (a0 : Int32) (Post : Int32 → (Nat → Int32) → (Nat → Int64) → (Nat → Nat → Int32) → (Nat → Nat → Int64) → Prop) (C : zCx p s m ([.ref (ad 65), .int a0] : List Value).toArray meth c A G K prog_4_method_18_code (some .int) 10 "LassoFinder$LassoSearch") : ∀  (I : Nat → Int32) (J : Nat → Int64) (B : Nat → Nat → Int32) (D : Nat → Nat → Int64) (ls : Array Slot) (H : Heap) (locs : List Loc), wc_LassoSearch_measureCycle_202 a0 Post  I J B D → lv_has ls 10 [] → zW G A s.heap (wS ad K I J B D) H locs → W p l e { frames := 1, cells := 0, slots := 0, locals := 23 } s m ([.ref (ad 65), .int a0] : List Value).toArray below meth c H locs 0 0 (MQ below (va_Qi (fun (r : Int32) (u : zS) => Post r u.1 u.2.1 u.2.2.1 u.2.2.2) (fun u t => zPost G K A (wS ad K u.1 u.2.1 u.2.2.1 u.2.2.2) t) A) ([.ref (ad 65), .int a0] : List Value).toArray s 0 0 A) (F0 m 202 ls []) := by
  obtain ⟨hx, hb, hr, hml, hts, hown, hlocks, hA, hK⟩ := id C
  intro  I J B D ls H locs hok hl hw
  unfold wc_LassoSearch_measureCycle_202 at hok
  refine lv_iconst (v := (-1)) hx hb zd_LassoSearch_measureCycle_202 (by decide) ?_
  exact (z_iret (u := (I, J, B, D)) hx hb hr hlocks rfl hw (List.range 77) wS_all wS_nd hok (Nat.le_of_ble_eq_true rfl) (Nat.le_of_ble_eq_true rfl) zd_LassoSearch_measureCycle_203)
set_option maxHeartbeats 8000000 in
set_option maxRecDepth 100000 in
theorem wB_LassoSearch_measureCycle_94 {p : Program} {l : Launch} {e : Env} {s : State} {m : MethodId} {below : List Frame} {meth : Method} {c : Code} {A : Nat → Prop} (G : va_G) (K : Nat → ClassId) (ad : Nat → Nat) (a0 : Int32) (Post : Int32 → (Nat → Int32) → (Nat → Int64) → (Nat → Nat → Int32) → (Nat → Nat → Int64) → Prop) (C : zCx p s m ([.ref (ad 65), .int a0] : List Value).toArray meth c A G K prog_4_method_18_code (some .int) 10 "LassoFinder$LassoSearch") (K39 : Int32 → Int32 → (Nat → Int32) → (Nat → Int64) → (Nat → Nat → Int32) → (Nat → Nat → Int64) → Prop) (kh39 : ∀ (x2 : Int32) (x3 : Int32) (I : Nat → Int32) (J : Nat → Int64) (B : Nat → Nat → Int32) (D : Nat → Nat → Int64) (ls : Array Slot) (H : Heap) (locs : List Loc), K39 x2 x3 I J B D → lv_has ls 10 [(0, .ref (ad 65)), (2, .int x2), (3, .int x3)] → zW G A s.heap (wS ad K I J B D) H locs → W p l e { frames := 1, cells := 0, slots := 0, locals := 23 } s m ([.ref (ad 65), .int a0] : List Value).toArray below meth c H locs 0 0 (MQ below (va_Qi (fun (r : Int32) (u : zS) => Post r u.1 u.2.1 u.2.2.1 u.2.2.2) (fun u t => zPost G K A (wS ad K u.1 u.2.1 u.2.2.1 u.2.2.2) t) A) ([.ref (ad 65), .int a0] : List Value).toArray s 0 0 A) (F0 m 39 ls [])) (K94 : Int32 → Int32 → Int32 → Int32 → Int32 → Int32 → (Nat → Int32) → (Nat → Int64) → (Nat → Nat → Int32) → (Nat → Nat → Int64) → Prop) (kh94 : ∀ (x2 : Int32) (x3 : Int32) (x4 : Int32) (x5 : Int32) (x6 : Int32) (x7 : Int32) (I : Nat → Int32) (J : Nat → Int64) (B : Nat → Nat → Int32) (D : Nat → Nat → Int64) (ls : Array Slot) (H : Heap) (locs : List Loc), K94 x2 x3 x4 x5 x6 x7 I J B D → lv_has ls 10 [(0, .ref (ad 65)), (2, .int x2), (3, .int x3), (4, .int x4), (5, .int x5), (6, .int x6), (7, .int x7)] → zW G A s.heap (wS ad K I J B D) H locs → W p l e { frames := 1, cells := 0, slots := 0, locals := 23 } s m ([.ref (ad 65), .int a0] : List Value).toArray below meth c H locs 0 0 (MQ below (va_Qi (fun (r : Int32) (u : zS) => Post r u.1 u.2.1 u.2.2.1 u.2.2.2) (fun u t => zPost G K A (wS ad K u.1 u.2.1 u.2.2.1 u.2.2.2) t) A) ([.ref (ad 65), .int a0] : List Value).toArray s 0 0 A) (F0 m 94 ls [])) : ∀ (x2 : Int32) (x3 : Int32) (x4 : Int32) (x5 : Int32) (x6 : Int32) (x7 : Int32) (I : Nat → Int32) (J : Nat → Int64) (B : Nat → Nat → Int32) (D : Nat → Nat → Int64) (ls : Array Slot) (H : Heap) (locs : List Loc), wb_LassoSearch_measureCycle_94 a0 K94 K39 Post x2 x3 x4 x5 x6 x7 I J B D → lv_has ls 10 [(0, .ref (ad 65)), (2, .int x2), (3, .int x3), (4, .int x4), (5, .int x5), (6, .int x6), (7, .int x7)] → zW G A s.heap (wS ad K I J B D) H locs → W p l e { frames := 1, cells := 0, slots := 0, locals := 23 } s m ([.ref (ad 65), .int a0] : List Value).toArray below meth c H locs 0 0 (MQ below (va_Qi (fun (r : Int32) (u : zS) => Post r u.1 u.2.1 u.2.2.1 u.2.2.2) (fun u t => zPost G K A (wS ad K u.1 u.2.1 u.2.2.1 u.2.2.2) t) A) ([.ref (ad 65), .int a0] : List Value).toArray s 0 0 A) (F0 m 94 ls []) := by
  obtain ⟨hx, hb, hr, hml, hts, hown, hlocks, hA, hK⟩ := id C
  intro x2 x3 x4 x5 x6 x7 I J B D ls H locs hok hl hw
  unfold wb_LassoSearch_measureCycle_94 at hok
  refine lv_iload hx hb zd_LassoSearch_measureCycle_94 (lv_at hl 6 rfl) ?_
  refine lv_aload_n hx hb zd_LassoSearch_measureCycle_96 rfl (lv_at hl 0 rfl) ?_
  refine z_get (v := .ref (ad 8)) hx hb hts hown hK hw zZ3 0 wS_g0 0 (by decide) zn_822 rfl zd_LassoSearch_measureCycle_97 ?_
  refine z_get (v := .ref (ad 52)) hx hb hts hown hK hw zZ2 20 wS_g20 7 (by decide) zn_830 rfl zd_LassoSearch_measureCycle_100 ?_
  refine lv_iload hx hb zd_LassoSearch_measureCycle_103 (lv_at hl 5 rfl) ?_
  refine lv_iconst (v := 1) hx hb zd_LassoSearch_measureCycle_105 (by decide) ?_
  refine lv_iadd hx hb zd_LassoSearch_measureCycle_106 ?_
  refine lv_topi (fun z1 ez1 => ?_)
  have hok := hok z1 ez1
  refine va_iald (f := (B 37)) hx hb hK hw.1 64 0 wS_a64 rfl hok.1 zd_LassoSearch_measureCycle_107 ?_
  have hok := hok.2
  refine lv_topi (fun z2 ez2 => ?_)
  have hok := hok z2 ez2
  refine lv_icmp_ge (tgt := 196) hx hb zd_LassoSearch_measureCycle_108 (by decide) (fun hc3 => ?_) (fun hc3 => ?_)
  · have hok := hok.1 hc3
    obtain ⟨z4, ez4⟩ : ∃ z : Int32, z = (x3 + 1) := ⟨_, rfl⟩
    have hok := hok z4 ez4
    refine lv_iinc (v := z4) hx hb zd_LassoSearch_measureCycle_196 hl (k := 2) rfl ez4.symm (by decide) rfl (fun ls hl => ?_)
    have hl : lv_has ls 10 [(3, .int z4), (0, .ref (ad 65)), (2, .int x2), (4, .int x4), (5, .int x5), (6, .int x6), (7, .int x7)] := hl
    refine lv_goto (tgt := 39) hx hb zd_LassoSearch_measureCycle_199 (by decide) ?_
    exact kh39 x2 z4 I J B D ls H locs hok (lv_sub hl [1, 2, 0] rfl) hw
  · have hok := hok.2 hc3
    refine lv_aload_n hx hb zd_LassoSearch_measureCycle_111 rfl (lv_at hl 0 rfl) ?_
    refine lv_aload_n hx hb zd_LassoSearch_measureCycle_112 rfl (lv_at hl 0 rfl) ?_
    refine z_get (v := .ref (ad 8)) hx hb hts hown hK hw zZ3 0 wS_g0 0 (by decide) zn_822 rfl zd_LassoSearch_measureCycle_113 ?_
    refine z_get (v := .ref (ad 53)) hx hb hts hown hK hw zZ2 20 wS_g20 8 (by decide) zn_831 rfl zd_LassoSearch_measureCycle_116 ?_
    refine lv_iload hx hb zd_LassoSearch_measureCycle_119 (lv_at hl 6 rfl) ?_
    refine va_iald (f := (B 38)) hx hb hK hw.1 65 0 wS_a65 rfl hok.1 zd_LassoSearch_measureCycle_121 ?_
    have hok := hok.2
    refine lv_topi (fun z5 ez5 => ?_)
    have hok := hok z5 ez5
    refine lv_iload hx hb zd_LassoSearch_measureCycle_122 (lv_at hl 4 rfl) ?_
    refine z_calli (w1 := fun (u : zS) => wS ad K u.1 u.2.1 u.2.2.1 u.2.2.2) (wr := []) (z_runV (q0 := 0) (wc := (wS ad K I J B D)) (As := [.int z5, .int x5]) (rest := []) ⟨hx, hb, hml, hown, hts⟩ (w_LassoSearch_spotBefore l G K ad I J B D z5 x5 _ H.size hok) zf_LassoSearch_spotBefore zn_553 ⟨Nat.le_of_ble_eq_true rfl, Nat.le_of_ble_eq_true rfl⟩ hK hw (List.range 77) wS_all wS_nd wS_g0 rfl rfl hl.1 rfl (Nat.le_of_ble_eq_true rfl) zd_LassoSearch_measureCycle_124 ⟨Nat.le_of_ble_eq_true rfl, Nat.le_of_ble_eq_true rfl⟩) hw hA (List.range 77) [] wS_all rfl (by decide) (fun i hi => by cases hi) (fun r6 u H locs hok hw => ?_)
    obtain ⟨I6, J6, B6, D6⟩ := u
    dsimp only at hok
    have hw : zW G A s.heap (wS ad K I6 J6 B6 D6) H locs := hw
    refine lv_istore hx hb zd_LassoSearch_measureCycle_127 hl (by decide) rfl (fun ls hl => ?_)
    have hl : lv_has ls 10 [(8, .int r6), (0, .ref (ad 65)), (2, .int x2), (3, .int x3), (4, .int x4), (5, .int x5), (6, .int x6), (7, .int x7)] := hl
    refine lv_iload hx hb zd_LassoSearch_measureCycle_129 (lv_at hl 4 rfl) ?_
    refine lv_bipush (v := 8) hx hb zd_LassoSearch_measureCycle_131 (by decide) ?_
    refine lv_irem hx hb zd_LassoSearch_measureCycle_133 (by decide) ?_
    refine lv_topi (fun z7 ez7 => ?_)
    have hok := hok z7 ez7
    refine lv_aload_n hx hb zd_LassoSearch_measureCycle_134 rfl (lv_at hl 1 rfl) ?_
    refine z_get (v := .ref (ad 11)) hx hb hts hown hK hw zZ3 0 wS_g0 1 (by decide) zn_819 rfl zd_LassoSearch_measureCycle_135 ?_
    refine z_get (v := .ref (ad 63)) hx hb hts hown hK hw zZ11 23 wS_g23 5 (by decide) zn_828 rfl zd_LassoSearch_measureCycle_138 ?_
    refine lv_iload hx hb zd_LassoSearch_measureCycle_141 (lv_at hl 0 rfl) ?_
    refine va_iald (f := (B6 48)) hx hb hK hw.1 75 0 wS_a75 rfl hok.1 zd_LassoSearch_measureCycle_143 ?_
    have hok := hok.2
    refine lv_topi (fun z8 ez8 => ?_)
    have hok := hok z8 ez8
    refine lv_ior hx hb zd_LassoSearch_measureCycle_144 ?_
    refine lv_topi (fun z9 ez9 => ?_)
    have hok := hok z9 ez9
    refine lv_istore hx hb zd_LassoSearch_measureCycle_145 hl (by decide) rfl (fun ls hl => ?_)
    have hl : lv_has ls 10 [(9, .int z9), (8, .int r6), (0, .ref (ad 65)), (2, .int x2), (3, .int x3), (4, .int x4), (5, .int x5), (6, .int x6), (7, .int x7)] := hl
    refine lv_iload hx hb zd_LassoSearch_measureCycle_147 (lv_at hl 1 rfl) ?_
    refine lv_bipush (v := 8) hx hb zd_LassoSearch_measureCycle_149 (by decide) ?_
    refine lv_imul hx hb zd_LassoSearch_measureCycle_151 ?_
    refine lv_topi (fun z10 ez10 => ?_)
    have hok := hok z10 ez10
    refine lv_iload hx hb zd_LassoSearch_measureCycle_152 (lv_at hl 0 rfl) ?_
    refine lv_iadd hx hb zd_LassoSearch_measureCycle_154 ?_
    refine lv_topi (fun z11 ez11 => ?_)
    have hok := hok z11 ez11
    refine lv_iload_n hx hb zd_LassoSearch_measureCycle_155 rfl (lv_at hl 3 rfl) ?_
    refine lv_icmp_ne (tgt := 169) hx hb zd_LassoSearch_measureCycle_156 (by decide) (fun hc12 => ?_) (fun hc12 => ?_)
    · have hok := hok.1 hc12
      refine lv_aload_n hx hb zd_LassoSearch_measureCycle_169 rfl (lv_at hl 2 rfl) ?_
      refine lv_iload hx hb zd_LassoSearch_measureCycle_170 (lv_at hl 1 rfl) ?_
      refine lv_bipush (v := 8) hx hb zd_LassoSearch_measureCycle_172 (by decide) ?_
      refine lv_imul hx hb zd_LassoSearch_measureCycle_174 ?_
      refine lv_topi (fun z13 ez13 => ?_)
      have hok := hok z13 ez13
      refine lv_iload hx hb zd_LassoSearch_measureCycle_175 (lv_at hl 0 rfl) ?_
      refine lv_iadd hx hb zd_LassoSearch_measureCycle_177 ?_
      refine lv_topi (fun z14 ez14 => ?_)
      have hok := hok z14 ez14
      refine lv_aload_n hx hb zd_LassoSearch_measureCycle_178 rfl (lv_at hl 2 rfl) ?_
      refine z_get (v := .ref (ad 72)) hx hb hts hown hK hw zZ3 0 wS_g0 11 (by decide) zn_809 rfl zd_LassoSearch_measureCycle_179 ?_
      refine lv_iload hx hb zd_LassoSearch_measureCycle_182 (lv_at hl 5 rfl) ?_
      refine va_iald (f := (B6 56)) hx hb hK hw.1 7 0 wS_a7 rfl hok.1 zd_LassoSearch_measureCycle_184 ?_
      have hok := hok.2
      refine lv_topi (fun z15 ez15 => ?_)
      have hok := hok z15 ez15
      refine lv_iconst (v := 1) hx hb zd_LassoSearch_measureCycle_185 (by decide) ?_
      refine lv_iadd hx hb zd_LassoSearch_measureCycle_186 ?_
      refine lv_topi (fun z16 ez16 => ?_)
      have hok := hok z16 ez16
      refine z_callv (w1 := fun (u : zS) => wS ad K u.1 u.2.1 u.2.2.1 u.2.2.2) (wr := []) (z_runV (q0 := 0) (wc := (wS ad K I6 J6 B6 D6)) (As := [.int z14, .int z16]) (rest := []) ⟨hx, hb, hml, hown, hts⟩ (w_LassoSearch_reach l G K ad I6 J6 B6 D6 z14 z16 _ H.size hok) zf_LassoSearch_reach zn_554 ⟨Nat.le_of_ble_eq_true rfl, Nat.le_of_ble_eq_true rfl⟩ hK hw (List.range 77) wS_all wS_nd wS_g0 rfl rfl hl.1 rfl (Nat.le_of_ble_eq_true rfl) zd_LassoSearch_measureCycle_187 ⟨Nat.le_of_ble_eq_true rfl, Nat.le_of_ble_eq_true rfl⟩) hw hA (List.range 77) [] wS_all rfl (by decide) (fun i hi => by cases hi) (fun u H locs hok hw => ?_)
      obtain ⟨I17, J17, B17, D17⟩ := u
      dsimp only at hok
      have hw : zW G A s.heap (wS ad K I17 J17 B17 D17) H locs := hw
      obtain ⟨z18, ez18⟩ : ∃ z : Int32, z = (x7 + 1) := ⟨_, rfl⟩
      have hok := hok z18 ez18
      refine lv_iinc (v := z18) hx hb zd_LassoSearch_measureCycle_190 hl (k := 8) rfl ez18.symm (by decide) rfl (fun ls hl => ?_)
      have hl : lv_has ls 10 [(7, .int z18), (9, .int z9), (8, .int r6), (0, .ref (ad 65)), (2, .int x2), (3, .int x3), (4, .int x4), (5, .int x5), (6, .int x6)] := hl
      refine lv_goto (tgt := 94) hx hb zd_LassoSearch_measureCycle_193 (by decide) ?_
      exact kh94 x2 x3 x4 x5 x6 z18 I17 J17 B17 D17 ls H locs hok (lv_sub hl [3, 4, 5, 6, 7, 8, 0] rfl) hw
    · have hok := hok.2 hc12
      refine lv_aload_n hx hb zd_LassoSearch_measureCycle_159 rfl (lv_at hl 2 rfl) ?_
      refine z_get (v := .ref (ad 72)) hx hb hts hown hK hw zZ3 0 wS_g0 11 (by decide) zn_809 rfl zd_LassoSearch_measureCycle_160 ?_
      refine lv_iload hx hb zd_LassoSearch_measureCycle_163 (lv_at hl 5 rfl) ?_
      refine va_iald (f := (B6 56)) hx hb hK hw.1 7 0 wS_a7 rfl hok.1 zd_LassoSearch_measureCycle_165 ?_
      have hok := hok.2
      refine lv_topi (fun z19 ez19 => ?_)
      have hok := hok z19 ez19
      refine lv_iconst (v := 1) hx hb zd_LassoSearch_measureCycle_166 (by decide) ?_
      refine lv_iadd hx hb zd_LassoSearch_measureCycle_167 ?_
      refine lv_topi (fun z20 ez20 => ?_)
      have hok := hok z20 ez20
      exact (z_iret (u := (I6, J6, B6, D6)) hx hb hr hlocks rfl hw (List.range 77) wS_all wS_nd hok (Nat.le_of_ble_eq_true rfl) (Nat.le_of_ble_eq_true rfl) zd_LassoSearch_measureCycle_168)
theorem wL_LassoSearch_measureCycle_94 {p : Program} {l : Launch} {e : Env} {s : State} {m : MethodId} {below : List Frame} {meth : Method} {c : Code} {A : Nat → Prop} (G : va_G) (K : Nat → ClassId) (ad : Nat → Nat) (a0 : Int32) (Post : Int32 → (Nat → Int32) → (Nat → Int64) → (Nat → Nat → Int32) → (Nat → Nat → Int64) → Prop) (C : zCx p s m ([.ref (ad 65), .int a0] : List Value).toArray meth c A G K prog_4_method_18_code (some .int) 10 "LassoFinder$LassoSearch") (K39 : Int32 → Int32 → (Nat → Int32) → (Nat → Int64) → (Nat → Nat → Int32) → (Nat → Nat → Int64) → Prop) (kh39 : ∀ (x2 : Int32) (x3 : Int32) (I : Nat → Int32) (J : Nat → Int64) (B : Nat → Nat → Int32) (D : Nat → Nat → Int64) (ls : Array Slot) (H : Heap) (locs : List Loc), K39 x2 x3 I J B D → lv_has ls 10 [(0, .ref (ad 65)), (2, .int x2), (3, .int x3)] → zW G A s.heap (wS ad K I J B D) H locs → W p l e { frames := 1, cells := 0, slots := 0, locals := 23 } s m ([.ref (ad 65), .int a0] : List Value).toArray below meth c H locs 0 0 (MQ below (va_Qi (fun (r : Int32) (u : zS) => Post r u.1 u.2.1 u.2.2.1 u.2.2.2) (fun u t => zPost G K A (wS ad K u.1 u.2.1 u.2.2.1 u.2.2.2) t) A) ([.ref (ad 65), .int a0] : List Value).toArray s 0 0 A) (F0 m 39 ls [])) : ∀ (n : Nat) (x2 : Int32) (x3 : Int32) (x4 : Int32) (x5 : Int32) (x6 : Int32) (x7 : Int32) (I : Nat → Int32) (J : Nat → Int64) (B : Nat → Nat → Int32) (D : Nat → Nat → Int64) (ls : Array Slot) (H : Heap) (locs : List Loc), wl_LassoSearch_measureCycle_94 a0 K39 Post n x2 x3 x4 x5 x6 x7 I J B D → lv_has ls 10 [(0, .ref (ad 65)), (2, .int x2), (3, .int x3), (4, .int x4), (5, .int x5), (6, .int x6), (7, .int x7)] → zW G A s.heap (wS ad K I J B D) H locs → W p l e { frames := 1, cells := 0, slots := 0, locals := 23 } s m ([.ref (ad 65), .int a0] : List Value).toArray below meth c H locs 0 0 (MQ below (va_Qi (fun (r : Int32) (u : zS) => Post r u.1 u.2.1 u.2.2.1 u.2.2.2) (fun u t => zPost G K A (wS ad K u.1 u.2.1 u.2.2.1 u.2.2.2) t) A) ([.ref (ad 65), .int a0] : List Value).toArray s 0 0 A) (F0 m 94 ls []) := by
  intro n
  induction n with
  | zero => intro x2 x3 x4 x5 x6 x7 I J B D ls H locs hok; exact hok.elim
  | succ n ih => exact wB_LassoSearch_measureCycle_94 G K ad a0 Post C K39 kh39 (wl_LassoSearch_measureCycle_94 a0 K39 Post n) ih
set_option maxHeartbeats 8000000 in
set_option maxRecDepth 100000 in
theorem wB_LassoSearch_measureCycle_39 {p : Program} {l : Launch} {e : Env} {s : State} {m : MethodId} {below : List Frame} {meth : Method} {c : Code} {A : Nat → Prop} (G : va_G) (K : Nat → ClassId) (ad : Nat → Nat) (a0 : Int32) (Post : Int32 → (Nat → Int32) → (Nat → Int64) → (Nat → Nat → Int32) → (Nat → Nat → Int64) → Prop) (C : zCx p s m ([.ref (ad 65), .int a0] : List Value).toArray meth c A G K prog_4_method_18_code (some .int) 10 "LassoFinder$LassoSearch") (K39 : Int32 → Int32 → (Nat → Int32) → (Nat → Int64) → (Nat → Nat → Int32) → (Nat → Nat → Int64) → Prop) (kh39 : ∀ (x2 : Int32) (x3 : Int32) (I : Nat → Int32) (J : Nat → Int64) (B : Nat → Nat → Int32) (D : Nat → Nat → Int64) (ls : Array Slot) (H : Heap) (locs : List Loc), K39 x2 x3 I J B D → lv_has ls 10 [(0, .ref (ad 65)), (2, .int x2), (3, .int x3)] → zW G A s.heap (wS ad K I J B D) H locs → W p l e { frames := 1, cells := 0, slots := 0, locals := 23 } s m ([.ref (ad 65), .int a0] : List Value).toArray below meth c H locs 0 0 (MQ below (va_Qi (fun (r : Int32) (u : zS) => Post r u.1 u.2.1 u.2.2.1 u.2.2.2) (fun u t => zPost G K A (wS ad K u.1 u.2.1 u.2.2.1 u.2.2.2) t) A) ([.ref (ad 65), .int a0] : List Value).toArray s 0 0 A) (F0 m 39 ls [])) : ∀ (x2 : Int32) (x3 : Int32) (I : Nat → Int32) (J : Nat → Int64) (B : Nat → Nat → Int32) (D : Nat → Nat → Int64) (ls : Array Slot) (H : Heap) (locs : List Loc), wb_LassoSearch_measureCycle_39 a0 K39 Post x2 x3 I J B D → lv_has ls 10 [(0, .ref (ad 65)), (2, .int x2), (3, .int x3)] → zW G A s.heap (wS ad K I J B D) H locs → W p l e { frames := 1, cells := 0, slots := 0, locals := 23 } s m ([.ref (ad 65), .int a0] : List Value).toArray below meth c H locs 0 0 (MQ below (va_Qi (fun (r : Int32) (u : zS) => Post r u.1 u.2.1 u.2.2.1 u.2.2.2) (fun u t => zPost G K A (wS ad K u.1 u.2.1 u.2.2.1 u.2.2.2) t) A) ([.ref (ad 65), .int a0] : List Value).toArray s 0 0 A) (F0 m 39 ls []) := by
  obtain ⟨hx, hb, hr, hml, hts, hown, hlocks, hA, hK⟩ := id C
  intro x2 x3 I J B D ls H locs hok hl hw
  unfold wb_LassoSearch_measureCycle_39 at hok
  refine lv_iload_n hx hb zd_LassoSearch_measureCycle_39 rfl (lv_at hl 2 rfl) ?_
  refine lv_sipush (v := 6144) hx hb zd_LassoSearch_measureCycle_40 (by decide) ?_
  refine lv_icmp_ge (tgt := 202) hx hb zd_LassoSearch_measureCycle_43 (by decide) (fun hc21 => ?_) (fun hc21 => ?_)
  · have hok := hok.1 hc21
    exact wJ_LassoSearch_measureCycle_202 G K ad a0 Post C I J B D ls H locs hok (lv_sub hl [] rfl) hw
  · have hok := hok.2 hc21
    refine lv_iload_n hx hb zd_LassoSearch_measureCycle_46 rfl (lv_at hl 2 rfl) ?_
    refine lv_aload_n hx hb zd_LassoSearch_measureCycle_47 rfl (lv_at hl 0 rfl) ?_
    refine z_get (v := .int (I 35)) hx hb hts hown hK hw zZ3 0 wS_g0 13 (by decide) zn_829 rfl zd_LassoSearch_measureCycle_48 ?_
    refine lv_icmp_ge (tgt := 202) hx hb zd_LassoSearch_measureCycle_51 (by decide) (fun hc22 => ?_) (fun hc22 => ?_)
    · have hok := hok.1 hc22
      exact wJ_LassoSearch_measureCycle_202 G K ad a0 Post C I J B D ls H locs hok (lv_sub hl [] rfl) hw
    · have hok := hok.2 hc22
      refine lv_aload_n hx hb zd_LassoSearch_measureCycle_54 rfl (lv_at hl 0 rfl) ?_
      refine z_get (v := .ref (ad 73)) hx hb hts hown hK hw zZ3 0 wS_g0 12 (by decide) zn_810 rfl zd_LassoSearch_measureCycle_55 ?_
      refine lv_iload_n hx hb zd_LassoSearch_measureCycle_58 rfl (lv_at hl 2 rfl) ?_
      refine va_iald (f := (B 57)) hx hb hK hw.1 8 0 wS_a8 rfl hok.1 zd_LassoSearch_measureCycle_59 ?_
      have hok := hok.2
      refine lv_topi (fun z23 ez23 => ?_)
      have hok := hok z23 ez23
      refine lv_istore hx hb zd_LassoSearch_measureCycle_60 hl (by decide) rfl (fun ls hl => ?_)
      have hl : lv_has ls 10 [(4, .int z23), (0, .ref (ad 65)), (2, .int x2), (3, .int x3)] := hl
      refine lv_iload hx hb zd_LassoSearch_measureCycle_62 (lv_at hl 0 rfl) ?_
      refine lv_bipush (v := 8) hx hb zd_LassoSearch_measureCycle_64 (by decide) ?_
      refine lv_idiv hx hb zd_LassoSearch_measureCycle_66 (by decide) ?_
      refine lv_topi (fun z24 ez24 => ?_)
      have hok := hok z24 ez24
      refine lv_bipush (v := 8) hx hb zd_LassoSearch_measureCycle_67 (by decide) ?_
      refine lv_irem hx hb zd_LassoSearch_measureCycle_69 (by decide) ?_
      refine lv_topi (fun z25 ez25 => ?_)
      have hok := hok z25 ez25
      refine lv_istore hx hb zd_LassoSearch_measureCycle_70 hl (by decide) rfl (fun ls hl => ?_)
      have hl : lv_has ls 10 [(5, .int z25), (4, .int z23), (0, .ref (ad 65)), (2, .int x2), (3, .int x3)] := hl
      refine lv_iload hx hb zd_LassoSearch_measureCycle_72 (lv_at hl 1 rfl) ?_
      refine lv_bipush (v := 8) hx hb zd_LassoSearch_measureCycle_74 (by decide) ?_
      refine lv_idiv hx hb zd_LassoSearch_measureCycle_76 (by decide) ?_
      refine lv_topi (fun z26 ez26 => ?_)
      have hok := hok z26 ez26
      refine lv_bipush (v := 8) hx hb zd_LassoSearch_measureCycle_77 (by decide) ?_
      refine lv_idiv hx hb zd_LassoSearch_measureCycle_79 (by decide) ?_
      refine lv_topi (fun z27 ez27 => ?_)
      have hok := hok z27 ez27
      refine lv_istore hx hb zd_LassoSearch_measureCycle_80 hl (by decide) rfl (fun ls hl => ?_)
      have hl : lv_has ls 10 [(6, .int z27), (5, .int z25), (4, .int z23), (0, .ref (ad 65)), (2, .int x2), (3, .int x3)] := hl
      refine lv_aload_n hx hb zd_LassoSearch_measureCycle_82 rfl (lv_at hl 3 rfl) ?_
      refine z_get (v := .ref (ad 8)) hx hb hts hown hK hw zZ3 0 wS_g0 0 (by decide) zn_822 rfl zd_LassoSearch_measureCycle_83 ?_
      refine z_get (v := .ref (ad 52)) hx hb hts hown hK hw zZ2 20 wS_g20 7 (by decide) zn_830 rfl zd_LassoSearch_measureCycle_86 ?_
      refine lv_iload hx hb zd_LassoSearch_measureCycle_89 (lv_at hl 0 rfl) ?_
      refine va_iald (f := (B 37)) hx hb hK hw.1 64 0 wS_a64 rfl hok.1 zd_LassoSearch_measureCycle_91 ?_
      have hok := hok.2
      refine lv_topi (fun z28 ez28 => ?_)
      have hok := hok z28 ez28
      refine lv_istore hx hb zd_LassoSearch_measureCycle_92 hl (by decide) rfl (fun ls hl => ?_)
      have hl : lv_has ls 10 [(7, .int z28), (6, .int z27), (5, .int z25), (4, .int z23), (0, .ref (ad 65)), (2, .int x2), (3, .int x3)] := hl
      obtain ⟨n9, hok⟩ := hok
      exact wL_LassoSearch_measureCycle_94 G K ad a0 Post C K39 kh39 n9 x2 x3 z23 z25 z27 z28 I J B D ls H locs hok (lv_sub hl [4, 5, 6, 3, 2, 1, 0] rfl) hw
theorem wL_LassoSearch_measureCycle_39 {p : Program} {l : Launch} {e : Env} {s : State} {m : MethodId} {below : List Frame} {meth : Method} {c : Code} {A : Nat → Prop} (G : va_G) (K : Nat → ClassId) (ad : Nat → Nat) (a0 : Int32) (Post : Int32 → (Nat → Int32) → (Nat → Int64) → (Nat → Nat → Int32) → (Nat → Nat → Int64) → Prop) (C : zCx p s m ([.ref (ad 65), .int a0] : List Value).toArray meth c A G K prog_4_method_18_code (some .int) 10 "LassoFinder$LassoSearch") : ∀ (n : Nat) (x2 : Int32) (x3 : Int32) (I : Nat → Int32) (J : Nat → Int64) (B : Nat → Nat → Int32) (D : Nat → Nat → Int64) (ls : Array Slot) (H : Heap) (locs : List Loc), wl_LassoSearch_measureCycle_39 a0 Post n x2 x3 I J B D → lv_has ls 10 [(0, .ref (ad 65)), (2, .int x2), (3, .int x3)] → zW G A s.heap (wS ad K I J B D) H locs → W p l e { frames := 1, cells := 0, slots := 0, locals := 23 } s m ([.ref (ad 65), .int a0] : List Value).toArray below meth c H locs 0 0 (MQ below (va_Qi (fun (r : Int32) (u : zS) => Post r u.1 u.2.1 u.2.2.1 u.2.2.2) (fun u t => zPost G K A (wS ad K u.1 u.2.1 u.2.2.1 u.2.2.2) t) A) ([.ref (ad 65), .int a0] : List Value).toArray s 0 0 A) (F0 m 39 ls []) := by
  intro n
  induction n with
  | zero => intro x2 x3 I J B D ls H locs hok; exact hok.elim
  | succ n ih => exact wB_LassoSearch_measureCycle_39 G K ad a0 Post C (wl_LassoSearch_measureCycle_39 a0 Post n) ih
set_option maxHeartbeats 8000000 in
set_option maxRecDepth 100000 in
theorem w_LassoSearch_measureCycle (l : Launch) (G : va_G) (K : Nat → ClassId) (ad : Nat → Nat) (I : Nat → Int32) (J : Nat → Int64) (B : Nat → Nat → Int32) (D : Nat → Nat → Int64) (a0 : Int32) (Post : Int32 → (Nat → Int32) → (Nat → Int64) → (Nat → Nat → Int32) → (Nat → Nat → Int64) → Prop) (sz : Nat) (hok : wp_LassoSearch_measureCycle I J B D a0 Post) : Met l zy_LassoSearch_measureCycle (Cond.code zy_LassoSearch_measureCycle prog_4_method_18_code 10 (some .int) :: zTB) { frames := 1, cells := 0, slots := 0, locals := 23 } (va_Pc [.ref (ad 65), .int a0] (zPre G K (wS ad K I J B D) sz)) (va_Qi (fun (r : Int32) (u : zS) => Post r u.1 u.2.1 u.2.2.1 u.2.2.2) (fun u t => zPost G K (va_A (wS ad K I J B D) sz) (wS ad K u.1 u.2.1 u.2.2.1 u.2.2.2) t) (va_A (wS ad K I J B D) sz)) 0 0 (va_A (wS ad K I J B D) sz) := by
  refine zMet (y := zy_LassoSearch_measureCycle) (av := [.ref (ad 65), .int a0]) (maxL := 10) (cc := prog_4_method_18_code) (ret := (some .int)) (W0 := (wS ad K I J B D)) (sz := sz) (G := G) (K := K) (wt := zTB) (mc := 0) (ms := 0) (Qf := fun A => va_Qi (fun (r : Int32) (u : zS) => Post r u.1 u.2.1 u.2.2.1 u.2.2.2) (fun u t => zPost G K A (wS ad K u.1 u.2.1 u.2.2.1 u.2.2.2) t) A) (by decide) (Nat.le_of_ble_eq_true rfl) ?_
  intro p e s m below meth c ls A hx hb hr hml hts hown hlocks hin hA hK H locs hw hsz hl
  clear hsz
  have hown : s.vm.findClass "LassoFinder$LassoSearch" = some m.cls := hown
  have C : zCx p s m ([.ref (ad 65), .int a0] : List Value).toArray meth c A G K prog_4_method_18_code (some .int) 10 "LassoFinder$LassoSearch" := ⟨hx, hb, hr, hml, hts, hown, hlocks, hA, hK⟩
  have hl : lv_has ls 10 [(0, .ref (ad 65)), (1, .int a0)] := hl
  have hw : zW G A s.heap (wS ad K I J B D) H locs := hw
  unfold wp_LassoSearch_measureCycle at hok
  refine lv_iload_n hx hb zd_LassoSearch_measureCycle_0 rfl (lv_at hl 1 rfl) ?_
  refine lv_bipush (v := 8) hx hb zd_LassoSearch_measureCycle_1 (by decide) ?_
  refine lv_imul hx hb zd_LassoSearch_measureCycle_3 ?_
  refine lv_topi (fun z29 ez29 => ?_)
  have hok := hok z29 ez29
  refine lv_aload_n hx hb zd_LassoSearch_measureCycle_4 rfl (lv_at hl 0 rfl) ?_
  refine z_get (v := .ref (ad 11)) hx hb hts hown hK hw zZ3 0 wS_g0 1 (by decide) zn_819 rfl zd_LassoSearch_measureCycle_5 ?_
  refine z_get (v := .int (I 30)) hx hb hts hown hK hw zZ11 23 wS_g23 7 (by decide) zn_820 rfl zd_LassoSearch_measureCycle_8 ?_
  refine lv_iadd hx hb zd_LassoSearch_measureCycle_11 ?_
  refine lv_topi (fun z30 ez30 => ?_)
  have hok := hok z30 ez30
  refine lv_iconst (v := 1) hx hb zd_LassoSearch_measureCycle_12 (by decide) ?_
  refine lv_isub hx hb zd_LassoSearch_measureCycle_13 ?_
  refine lv_topi (fun z31 ez31 => ?_)
  have hok := hok z31 ez31
  refine lv_istore_n hx hb zd_LassoSearch_measureCycle_14 rfl hl (by decide) rfl (fun ls hl => ?_)
  have hl : lv_has ls 10 [(2, .int z31), (0, .ref (ad 65)), (1, .int a0)] := hl
  refine lv_aload_n hx hb zd_LassoSearch_measureCycle_15 rfl (lv_at hl 1 rfl) ?_
  refine z_get (v := .ref (ad 72)) hx hb hts hown hK hw zZ3 0 wS_g0 11 (by decide) zn_809 rfl zd_LassoSearch_measureCycle_16 ?_
  refine lv_iconst (v := (-1)) hx hb zd_LassoSearch_measureCycle_19 (by decide) ?_
  refine z_fillI (f := (B 56)) (v := (-1)) (n := 6144) (rest := []) ⟨hx, hb, hml, hown, hts⟩ hK hw hA 7 wS_a7 (by decide) zn_545 ⟨(Nat.le_of_ble_eq_true rfl), (Nat.le_of_ble_eq_true rfl)⟩ hl.1 rfl (Nat.le_of_ble_eq_true rfl) zd_LassoSearch_measureCycle_20 ⟨(Nat.le_of_ble_eq_true rfl), (Nat.le_of_ble_eq_true rfl)⟩ (fun H locs hw => ?_)
  have hw := wS_t7 hw
  refine lv_aload_n hx hb zd_LassoSearch_measureCycle_23 rfl (lv_at hl 1 rfl) ?_
  refine lv_iconst (v := 0) hx hb zd_LassoSearch_measureCycle_24 (by decide) ?_
  refine z_put (v := .int 0) hx hb hts hown hK hw zZ3 0 wS_g0 13 (by decide) zn_829 rfl rfl rfl (Nat.le_of_ble_eq_true rfl) zd_LassoSearch_measureCycle_25 (fun H locs hw => ?_)
  have hw := wS_sI35 hw
  refine lv_aload_n hx hb zd_LassoSearch_measureCycle_28 rfl (lv_at hl 1 rfl) ?_
  refine lv_iload_n hx hb zd_LassoSearch_measureCycle_29 rfl (lv_at hl 2 rfl) ?_
  refine lv_bipush (v := 8) hx hb zd_LassoSearch_measureCycle_30 (by decide) ?_
  refine lv_imul hx hb zd_LassoSearch_measureCycle_32 ?_
  refine lv_topi (fun z32 ez32 => ?_)
  have hok := hok z32 ez32
  refine lv_iconst (v := 0) hx hb zd_LassoSearch_measureCycle_33 (by decide) ?_
  refine z_callv (w1 := fun (u : zS) => wS ad K u.1 u.2.1 u.2.2.1 u.2.2.2) (wr := []) (z_runV (q0 := 0) (wc := (wS ad K (upd I 35 0) J (va_up B 56 (zFill (B 56) (-1) 6144)) D)) (As := [.int z32, .int 0]) (rest := []) ⟨hx, hb, hml, hown, hts⟩ (w_LassoSearch_reach l G K ad (upd I 35 0) J (va_up B 56 (zFill (B 56) (-1) 6144)) D z32 0 _ H.size hok) zf_LassoSearch_reach zn_554 ⟨Nat.le_of_ble_eq_true rfl, Nat.le_of_ble_eq_true rfl⟩ hK hw (List.range 77) wS_all wS_nd wS_g0 rfl rfl hl.1 rfl (Nat.le_of_ble_eq_true rfl) zd_LassoSearch_measureCycle_34 ⟨Nat.le_of_ble_eq_true rfl, Nat.le_of_ble_eq_true rfl⟩) hw hA (List.range 77) [] wS_all rfl (by decide) (fun i hi => by cases hi) (fun u H locs hok hw => ?_)
  obtain ⟨I33, J33, B33, D33⟩ := u
  dsimp only at hok
  have hw : zW G A s.heap (wS ad K I33 J33 B33 D33) H locs := hw
  refine lv_iconst (v := 0) hx hb zd_LassoSearch_measureCycle_37 (by decide) ?_
  refine lv_istore_n hx hb zd_LassoSearch_measureCycle_38 rfl hl (by decide) rfl (fun ls hl => ?_)
  have hl : lv_has ls 10 [(3, .int 0), (2, .int z31), (0, .ref (ad 65)), (1, .int a0)] := hl
  obtain ⟨n9, hok⟩ := hok
  exact wL_LassoSearch_measureCycle_39 G K ad a0 Post C n9 z31 0 I33 J33 B33 D33 ls H locs hok (lv_sub hl [2, 1, 0] rfl) hw
def wc_LassoSearch_findCycle_110 (a0 : Int32) (K38 : Int32 → Int32 → Int32 → (Nat → Int32) → (Nat → Int64) → (Nat → Nat → Int32) → (Nat → Nat → Int64) → Prop) (Post : (Nat → Int32) → (Nat → Int64) → (Nat → Nat → Int32) → (Nat → Nat → Int64) → Prop) (x1 : Int32) (x2 : Int32) (x3 : Int32) (I : Nat → Int32) (J : Nat → Int64) (B : Nat → Nat → Int32) (D : Nat → Nat → Int64) : Prop :=
  ∀ z1 : Int32, z1 = (x3 + 1) → K38 x1 x2 z1 I J B D
def wc_LassoSearch_findCycle_96 (a0 : Int32) (K38 : Int32 → Int32 → Int32 → (Nat → Int32) → (Nat → Int64) → (Nat → Nat → Int32) → (Nat → Nat → Int64) → Prop) (Post : (Nat → Int32) → (Nat → Int64) → (Nat → Nat → Int32) → (Nat → Nat → Int64) → Prop) (x1 : Int32) (x2 : Int32) (x3 : Int32) (x4 : Int32) (x5 : Int32) (I : Nat → Int32) (J : Nat → Int64) (B : Nat → Nat → Int32) (D : Nat → Nat → Int64) : Prop :=
  wp_LassoSearch_followCycle I J B D x4 x5 (fun I2 J2 B2 D2 => wp_LassoSearch_keepBetter I2 J2 B2 D2 x5 (fun I3 J3 B3 D3 => wc_LassoSearch_findCycle_110 a0 K38 Post x1 x2 x3 I3 J3 B3 D3))
def wb_LassoSearch_findCycle_38 (a0 : Int32) (K38 : Int32 → Int32 → Int32 → (Nat → Int32) → (Nat → Int64) → (Nat → Nat → Int32) → (Nat → Nat → Int64) → Prop) (Post : (Nat → Int32) → (Nat → Int64) → (Nat → Nat → Int32) → (Nat → Nat → Int64) → Prop) (x1 : Int32) (x2 : Int32) (x3 : Int32) (I : Nat → Int32) (J : Nat → Int64) (B : Nat → Nat → Int32) (D : Nat → Nat → Int64) : Prop :=
  (((I 30) ≤ x3 → Post I J B D) ∧ (¬ (I 30) ≤ x3 → ∀ z5 : Int32, z5 = (x1 >>> (x3 &&& 31)) → ∀ z6 : Int32, z6 = (z5 &&& 1) → ((z6 = 0 → wc_LassoSearch_findCycle_110 a0 K38 Post x1 x2 x3 I J B D) ∧ (¬ z6 = 0 → ∀ z8 : Int32, z8 = (x2 * 8) → ∀ z9 : Int32, z9 = (z8 + x3) → wp_LassoSearch_measureCycle I J B D z9 (fun r10 I10 J10 B10 D10 => ((r10 = (-1) → wc_LassoSearch_findCycle_110 a0 K38 Post x1 x2 x3 I10 J10 B10 D10) ∧ (¬ r10 = (-1) → (((I10 37) = (-1) → wc_LassoSearch_findCycle_96 a0 K38 Post x1 x2 x3 z9 r10 I10 J10 B10 D10) ∧ (¬ (I10 37) = (-1) → (((I10 37) < r10 → wc_LassoSearch_findCycle_110 a0 K38 Post x1 x2 x3 I10 J10 B10 D10) ∧ (¬ (I10 37) < r10 → wc_LassoSearch_findCycle_96 a0 K38 Post x1 x2 x3 z9 r10 I10 J10 B10 D10)))))))))))
def wl_LassoSearch_findCycle_38 (a0 : Int32) (Post : (Nat → Int32) → (Nat → Int64) → (Nat → Nat → Int32) → (Nat → Nat → Int64) → Prop) (n : Nat) : Int32 → Int32 → Int32 → (Nat → Int32) → (Nat → Int64) → (Nat → Nat → Int32) → (Nat → Nat → Int64) → Prop := Nat.rec (fun _ _ _ _ _ _ _ => False) (fun _ r => wb_LassoSearch_findCycle_38 a0 r Post) n
def wc_LassoSearch_findCycle_30 (a0 : Int32) (Post : (Nat → Int32) → (Nat → Int64) → (Nat → Nat → Int32) → (Nat → Nat → Int64) → Prop) (x1 : Int32) (y0 : Int32) (I : Nat → Int32) (J : Nat → Int64) (B : Nat → Nat → Int32) (D : Nat → Nat → Int64) : Prop :=
  ∃ n : Nat, wl_LassoSearch_findCycle_38 a0 Post n x1 y0 0 (upd I 37 (-1)) J B D
def wp_LassoSearch_findCycle (I : Nat → Int32) (J : Nat → Int64) (B : Nat → Nat → Int32) (D : Nat → Nat → Int64) (a0 : Int32) (Post : (Nat → Int32) → (Nat → Int64) → (Nat → Nat → Int32) → (Nat → Nat → Int64) → Prop) : Prop :=
  ((¬ (I 36) = 0 → ∀ z15 : Int32, z15 = ((I 36) - 1) → vp_in z15 768 ∧ ∀ z16 : Int32, z16 = ((B 58) z15.toNatClampNeg) → vp_in z16 400 ∧ ∀ z17 : Int32, z17 = ((B 34) z16.toNatClampNeg) → wc_LassoSearch_findCycle_30 a0 Post a0 z17 I J B D) ∧ ((I 36) = 0 → wc_LassoSearch_findCycle_30 a0 Post a0 0 I J B D))
set_option maxHeartbeats 8000000 in
set_option maxRecDepth 100000 in
theorem wJ_LassoSearch_findCycle_110 {p : Program} {l : Launch} {e : Env} {s : State} {m : MethodId} {below : List Frame} {meth : Method} {c : Code} {A : Nat → Prop} (G : va_G) (K : Nat → ClassId) (ad : Nat → Nat) (a0 : Int32) (Post : (Nat → Int32) → (Nat → Int64) → (Nat → Nat → Int32) → (Nat → Nat → Int64) → Prop) (C : zCx p s m ([.ref (ad 65), .int a0] : List Value).toArray meth c A G K prog_4_method_16_code none 6 "LassoFinder$LassoSearch") (K38 : Int32 → Int32 → Int32 → (Nat → Int32) → (Nat → Int64) → (Nat → Nat → Int32) → (Nat → Nat → Int64) → Prop) (kh38 : ∀ (x1 : Int32) (x2 : Int32) (x3 : Int32) (I : Nat → Int32) (J : Nat → Int64) (B : Nat → Nat → Int32) (D : Nat → Nat → Int64) (ls : Array Slot) (H : Heap) (locs : List Loc), K38 x1 x2 x3 I J B D → lv_has ls 6 [(0, .ref (ad 65)), (1, .int x1), (2, .int x2), (3, .int x3)] → zW G A s.heap (wS ad K I J B D) H locs → W p l e { frames := 3, cells := 0, slots := 0, locals := 84 } s m ([.ref (ad 65), .int a0] : List Value).toArray below meth c H locs 0 0 (MQ below (va_Qv (fun u : zS => Post u.1 u.2.1 u.2.2.1 u.2.2.2) (fun u t => zPost G K A (wS ad K u.1 u.2.1 u.2.2.1 u.2.2.2) t) A) ([.ref (ad 65), .int a0] : List Value).toArray s 0 0 A) (F0 m 38 ls [])) : ∀ (x1 : Int32) (x2 : Int32) (x3 : Int32) (I : Nat → Int32) (J : Nat → Int64) (B : Nat → Nat → Int32) (D : Nat → Nat → Int64) (ls : Array Slot) (H : Heap) (locs : List Loc), wc_LassoSearch_findCycle_110 a0 K38 Post x1 x2 x3 I J B D → lv_has ls 6 [(0, .ref (ad 65)), (1, .int x1), (2, .int x2), (3, .int x3)] → zW G A s.heap (wS ad K I J B D) H locs → W p l e { frames := 3, cells := 0, slots := 0, locals := 84 } s m ([.ref (ad 65), .int a0] : List Value).toArray below meth c H locs 0 0 (MQ below (va_Qv (fun u : zS => Post u.1 u.2.1 u.2.2.1 u.2.2.2) (fun u t => zPost G K A (wS ad K u.1 u.2.1 u.2.2.1 u.2.2.2) t) A) ([.ref (ad 65), .int a0] : List Value).toArray s 0 0 A) (F0 m 110 ls []) := by
  obtain ⟨hx, hb, hr, hml, hts, hown, hlocks, hA, hK⟩ := id C
  intro x1 x2 x3 I J B D ls H locs hok hl hw
  unfold wc_LassoSearch_findCycle_110 at hok
  obtain ⟨z1, ez1⟩ : ∃ z : Int32, z = (x3 + 1) := ⟨_, rfl⟩
  have hok := hok z1 ez1
  refine lv_iinc (v := z1) hx hb zd_LassoSearch_findCycle_110 hl (k := 3) rfl ez1.symm (by decide) rfl (fun ls hl => ?_)
  have hl : lv_has ls 6 [(3, .int z1), (0, .ref (ad 65)), (1, .int x1), (2, .int x2)] := hl
  refine lv_goto (tgt := 38) hx hb zd_LassoSearch_findCycle_113 (by decide) ?_
  exact kh38 x1 x2 z1 I J B D ls H locs hok (lv_sub hl [1, 2, 3, 0] rfl) hw
set_option maxHeartbeats 8000000 in
set_option maxRecDepth 100000 in
theorem wJ_LassoSearch_findCycle_96 {p : Program} {l : Launch} {e : Env} {s : State} {m : MethodId} {below : List Frame} {meth : Method} {c : Code} {A : Nat → Prop} (G : va_G) (K : Nat → ClassId) (ad : Nat → Nat) (a0 : Int32) (Post : (Nat → Int32) → (Nat → Int64) → (Nat → Nat → Int32) → (Nat → Nat → Int64) → Prop) (C : zCx p s m ([.ref (ad 65), .int a0] : List Value).toArray meth c A G K prog_4_method_16_code none 6 "LassoFinder$LassoSearch") (K38 : Int32 → Int32 → Int32 → (Nat → Int32) → (Nat → Int64) → (Nat → Nat → Int32) → (Nat → Nat → Int64) → Prop) (kh38 : ∀ (x1 : Int32) (x2 : Int32) (x3 : Int32) (I : Nat → Int32) (J : Nat → Int64) (B : Nat → Nat → Int32) (D : Nat → Nat → Int64) (ls : Array Slot) (H : Heap) (locs : List Loc), K38 x1 x2 x3 I J B D → lv_has ls 6 [(0, .ref (ad 65)), (1, .int x1), (2, .int x2), (3, .int x3)] → zW G A s.heap (wS ad K I J B D) H locs → W p l e { frames := 3, cells := 0, slots := 0, locals := 84 } s m ([.ref (ad 65), .int a0] : List Value).toArray below meth c H locs 0 0 (MQ below (va_Qv (fun u : zS => Post u.1 u.2.1 u.2.2.1 u.2.2.2) (fun u t => zPost G K A (wS ad K u.1 u.2.1 u.2.2.1 u.2.2.2) t) A) ([.ref (ad 65), .int a0] : List Value).toArray s 0 0 A) (F0 m 38 ls [])) : ∀ (x1 : Int32) (x2 : Int32) (x3 : Int32) (x4 : Int32) (x5 : Int32) (I : Nat → Int32) (J : Nat → Int64) (B : Nat → Nat → Int32) (D : Nat → Nat → Int64) (ls : Array Slot) (H : Heap) (locs : List Loc), wc_LassoSearch_findCycle_96 a0 K38 Post x1 x2 x3 x4 x5 I J B D → lv_has ls 6 [(0, .ref (ad 65)), (1, .int x1), (2, .int x2), (3, .int x3), (4, .int x4), (5, .int x5)] → zW G A s.heap (wS ad K I J B D) H locs → W p l e { frames := 3, cells := 0, slots := 0, locals := 84 } s m ([.ref (ad 65), .int a0] : List Value).toArray below meth c H locs 0 0 (MQ below (va_Qv (fun u : zS => Post u.1 u.2.1 u.2.2.1 u.2.2.2) (fun u t => zPost G K A (wS ad K u.1 u.2.1 u.2.2.1 u.2.2.2) t) A) ([.ref (ad 65), .int a0] : List Value).toArray s 0 0 A) (F0 m 96 ls []) := by
  obtain ⟨hx, hb, hr, hml, hts, hown, hlocks, hA, hK⟩ := id C
  intro x1 x2 x3 x4 x5 I J B D ls H locs hok hl hw
  unfold wc_LassoSearch_findCycle_96 at hok
  refine lv_aload_n hx hb zd_LassoSearch_findCycle_96 rfl (lv_at hl 0 rfl) ?_
  refine lv_iload hx hb zd_LassoSearch_findCycle_97 (lv_at hl 4 rfl) ?_
  refine lv_iload hx hb zd_LassoSearch_findCycle_99 (lv_at hl 5 rfl) ?_
  refine z_callv (w1 := fun (u : zS) => wS ad K u.1 u.2.1 u.2.2.1 u.2.2.2) (wr := []) (z_runV (q0 := 0) (wc := (wS ad K I J B D)) (As := [.int x4, .int x5]) (rest := []) ⟨hx, hb, hml, hown, hts⟩ (w_LassoSearch_followCycle l G K ad I J B D x4 x5 _ H.size hok) zf_LassoSearch_followCycle zn_561 ⟨Nat.le_of_ble_eq_true rfl, Nat.le_of_ble_eq_true rfl⟩ hK hw (List.range 77) wS_all wS_nd wS_g0 rfl rfl hl.1 rfl (Nat.le_of_ble_eq_true rfl) zd_LassoSearch_findCycle_101 ⟨Nat.le_of_ble_eq_true rfl, Nat.le_of_ble_eq_true rfl⟩) hw hA (List.range 77) [] wS_all rfl (by decide) (fun i hi => by cases hi) (fun u H locs hok hw => ?_)
  obtain ⟨I2, J2, B2, D2⟩ := u
  dsimp only at hok
  have hw : zW G A s.heap (wS ad K I2 J2 B2 D2) H locs := hw
  refine lv_aload_n hx hb zd_LassoSearch_findCycle_104 rfl (lv_at hl 0 rfl) ?_
  refine lv_iload hx hb zd_LassoSearch_findCycle_105 (lv_at hl 5 rfl) ?_
  refine z_callv (w1 := fun (u : zS) => wS ad K u.1 u.2.1 u.2.2.1 u.2.2.2) (wr := []) (z_runV (q0 := 0) (wc := (wS ad K I2 J2 B2 D2)) (As := [.int x5]) (rest := []) ⟨hx, hb, hml, hown, hts⟩ (w_LassoSearch_keepBetter l G K ad I2 J2 B2 D2 x5 _ H.size hok) zf_LassoSearch_keepBetter zn_564 ⟨Nat.le_of_ble_eq_true rfl, Nat.le_of_ble_eq_true rfl⟩ hK hw (List.range 77) wS_all wS_nd wS_g0 rfl rfl hl.1 rfl (Nat.le_of_ble_eq_true rfl) zd_LassoSearch_findCycle_107 ⟨Nat.le_of_ble_eq_true rfl, Nat.le_of_ble_eq_true rfl⟩) hw hA (List.range 77) [] wS_all rfl (by decide) (fun i hi => by cases hi) (fun u H locs hok hw => ?_)
  obtain ⟨I3, J3, B3, D3⟩ := u
  dsimp only at hok
  have hw : zW G A s.heap (wS ad K I3 J3 B3 D3) H locs := hw
  exact wJ_LassoSearch_findCycle_110 G K ad a0 Post C K38 kh38 x1 x2 x3 I3 J3 B3 D3 ls H locs hok (lv_sub hl [0, 1, 2, 3] rfl) hw
set_option maxHeartbeats 8000000 in
set_option maxRecDepth 100000 in
theorem wB_LassoSearch_findCycle_38 {p : Program} {l : Launch} {e : Env} {s : State} {m : MethodId} {below : List Frame} {meth : Method} {c : Code} {A : Nat → Prop} (G : va_G) (K : Nat → ClassId) (ad : Nat → Nat) (a0 : Int32) (Post : (Nat → Int32) → (Nat → Int64) → (Nat → Nat → Int32) → (Nat → Nat → Int64) → Prop) (C : zCx p s m ([.ref (ad 65), .int a0] : List Value).toArray meth c A G K prog_4_method_16_code none 6 "LassoFinder$LassoSearch") (K38 : Int32 → Int32 → Int32 → (Nat → Int32) → (Nat → Int64) → (Nat → Nat → Int32) → (Nat → Nat → Int64) → Prop) (kh38 : ∀ (x1 : Int32) (x2 : Int32) (x3 : Int32) (I : Nat → Int32) (J : Nat → Int64) (B : Nat → Nat → Int32) (D : Nat → Nat → Int64) (ls : Array Slot) (H : Heap) (locs : List Loc), K38 x1 x2 x3 I J B D → lv_has ls 6 [(0, .ref (ad 65)), (1, .int x1), (2, .int x2), (3, .int x3)] → zW G A s.heap (wS ad K I J B D) H locs → W p l e { frames := 3, cells := 0, slots := 0, locals := 84 } s m ([.ref (ad 65), .int a0] : List Value).toArray below meth c H locs 0 0 (MQ below (va_Qv (fun u : zS => Post u.1 u.2.1 u.2.2.1 u.2.2.2) (fun u t => zPost G K A (wS ad K u.1 u.2.1 u.2.2.1 u.2.2.2) t) A) ([.ref (ad 65), .int a0] : List Value).toArray s 0 0 A) (F0 m 38 ls [])) : ∀ (x1 : Int32) (x2 : Int32) (x3 : Int32) (I : Nat → Int32) (J : Nat → Int64) (B : Nat → Nat → Int32) (D : Nat → Nat → Int64) (ls : Array Slot) (H : Heap) (locs : List Loc), wb_LassoSearch_findCycle_38 a0 K38 Post x1 x2 x3 I J B D → lv_has ls 6 [(0, .ref (ad 65)), (1, .int x1), (2, .int x2), (3, .int x3)] → zW G A s.heap (wS ad K I J B D) H locs → W p l e { frames := 3, cells := 0, slots := 0, locals := 84 } s m ([.ref (ad 65), .int a0] : List Value).toArray below meth c H locs 0 0 (MQ below (va_Qv (fun u : zS => Post u.1 u.2.1 u.2.2.1 u.2.2.2) (fun u t => zPost G K A (wS ad K u.1 u.2.1 u.2.2.1 u.2.2.2) t) A) ([.ref (ad 65), .int a0] : List Value).toArray s 0 0 A) (F0 m 38 ls []) := by
  obtain ⟨hx, hb, hr, hml, hts, hown, hlocks, hA, hK⟩ := id C
  intro x1 x2 x3 I J B D ls H locs hok hl hw
  unfold wb_LassoSearch_findCycle_38 at hok
  refine lv_iload_n hx hb zd_LassoSearch_findCycle_38 rfl (lv_at hl 3 rfl) ?_
  refine lv_aload_n hx hb zd_LassoSearch_findCycle_39 rfl (lv_at hl 0 rfl) ?_
  refine z_get (v := .ref (ad 11)) hx hb hts hown hK hw zZ3 0 wS_g0 1 (by decide) zn_819 rfl zd_LassoSearch_findCycle_40 ?_
  refine z_get (v := .int (I 30)) hx hb hts hown hK hw zZ11 23 wS_g23 7 (by decide) zn_820 rfl zd_LassoSearch_findCycle_43 ?_
  refine lv_icmp_ge (tgt := 116) hx hb zd_LassoSearch_findCycle_46 (by decide) (fun hc4 => ?_) (fun hc4 => ?_)
  · have hok := hok.1 hc4
    exact (z_vret (u := (I, J, B, D)) hx hb hr hlocks hw (List.range 77) wS_all wS_nd hok (Nat.le_of_ble_eq_true rfl) (Nat.le_of_ble_eq_true rfl) zd_LassoSearch_findCycle_116)
  · have hok := hok.2 hc4
    refine lv_iload_n hx hb zd_LassoSearch_findCycle_49 rfl (lv_at hl 1 rfl) ?_
    refine lv_iload_n hx hb zd_LassoSearch_findCycle_50 rfl (lv_at hl 3 rfl) ?_
    refine lv_ishr hx hb zd_LassoSearch_findCycle_51 ?_
    refine lv_topi (fun z5 ez5 => ?_)
    have hok := hok z5 ez5
    refine lv_iconst (v := 1) hx hb zd_LassoSearch_findCycle_52 (by decide) ?_
    refine lv_iand hx hb zd_LassoSearch_findCycle_53 ?_
    refine lv_topi (fun z6 ez6 => ?_)
    have hok := hok z6 ez6
    refine lv_if_eq (tgt := 110) hx hb zd_LassoSearch_findCycle_54 (by decide) (fun hc7 => ?_) (fun hc7 => ?_)
    · have hok := hok.1 hc7
      exact wJ_LassoSearch_findCycle_110 G K ad a0 Post C K38 kh38 x1 x2 x3 I J B D ls H locs hok (lv_sub hl [0, 1, 2, 3] rfl) hw
    · have hok := hok.2 hc7
      refine lv_iload_n hx hb zd_LassoSearch_findCycle_57 rfl (lv_at hl 2 rfl) ?_
      refine lv_bipush (v := 8) hx hb zd_LassoSearch_findCycle_58 (by decide) ?_
      refine lv_imul hx hb zd_LassoSearch_findCycle_60 ?_
      refine lv_topi (fun z8 ez8 => ?_)
      have hok := hok z8 ez8
      refine lv_iload_n hx hb zd_LassoSearch_findCycle_61 rfl (lv_at hl 3 rfl) ?_
      refine lv_iadd hx hb zd_LassoSearch_findCycle_62 ?_
      refine lv_topi (fun z9 ez9 => ?_)
      have hok := hok z9 ez9
      refine lv_istore hx hb zd_LassoSearch_findCycle_63 hl (by decide) rfl (fun ls hl => ?_)
      have hl : lv_has ls 6 [(4, .int z9), (0, .ref (ad 65)), (1, .int x1), (2, .int x2), (3, .int x3)] := hl
      refine lv_aload_n hx hb zd_LassoSearch_findCycle_65 rfl (lv_at hl 1 rfl) ?_
      refine lv_iload hx hb zd_LassoSearch_findCycle_66 (lv_at hl 0 rfl) ?_
      refine z_calli (w1 := fun (u : zS) => wS ad K u.1 u.2.1 u.2.2.1 u.2.2.2) (wr := []) (z_runV (q0 := 0) (wc := (wS ad K I J B D)) (As := [.int z9]) (rest := []) ⟨hx, hb, hml, hown, hts⟩ (w_LassoSearch_measureCycle l G K ad I J B D z9 _ H.size hok) zf_LassoSearch_measureCycle zn_560 ⟨Nat.le_of_ble_eq_true rfl, Nat.le_of_ble_eq_true rfl⟩ hK hw (List.range 77) wS_all wS_nd wS_g0 rfl rfl hl.1 rfl (Nat.le_of_ble_eq_true rfl) zd_LassoSearch_findCycle_68 ⟨Nat.le_of_ble_eq_true rfl, Nat.le_of_ble_eq_true rfl⟩) hw hA (List.range 77) [] wS_all rfl (by decide) (fun i hi => by cases hi) (fun r10 u H locs hok hw => ?_)
      obtain ⟨I10, J10, B10, D10⟩ := u
      dsimp only at hok
      have hw : zW G A s.heap (wS ad K I10 J10 B10 D10) H locs := hw
      refine lv_istore hx hb zd_LassoSearch_findCycle_71 hl (by decide) rfl (fun ls hl => ?_)
      have hl : lv_has ls 6 [(5, .int r10), (4, .int z9), (0, .ref (ad 65)), (1, .int x1), (2, .int x2), (3, .int x3)] := hl
      refine lv_iload hx hb zd_LassoSearch_findCycle_73 (lv_at hl 0 rfl) ?_
      refine lv_iconst (v := (-1)) hx hb zd_LassoSearch_findCycle_75 (by decide) ?_
      refine lv_icmp_eq (tgt := 110) hx hb zd_LassoSearch_findCycle_76 (by decide) (fun hc11 => ?_) (fun hc11 => ?_)
      · have hok := hok.1 hc11
        exact wJ_LassoSearch_findCycle_110 G K ad a0 Post C K38 kh38 x1 x2 x3 I10 J10 B10 D10 ls H locs hok (lv_sub hl [2, 3, 4, 5] rfl) hw
      · have hok := hok.2 hc11
        refine lv_aload_n hx hb zd_LassoSearch_findCycle_79 rfl (lv_at hl 2 rfl) ?_
        refine z_get (v := .int (I10 37)) hx hb hts hown hK hw zZ3 0 wS_g0 18 (by decide) zn_827 rfl zd_LassoSearch_findCycle_80 ?_
        refine lv_iconst (v := (-1)) hx hb zd_LassoSearch_findCycle_83 (by decide) ?_
        refine lv_icmp_eq (tgt := 96) hx hb zd_LassoSearch_findCycle_84 (by decide) (fun hc12 => ?_) (fun hc12 => ?_)
        · have hok := hok.1 hc12
          exact wJ_LassoSearch_findCycle_96 G K ad a0 Post C K38 kh38 x1 x2 x3 z9 r10 I10 J10 B10 D10 ls H locs hok (lv_sub hl [2, 3, 4, 5, 1, 0] rfl) hw
        · have hok := hok.2 hc12
          refine lv_iload hx hb zd_LassoSearch_findCycle_87 (lv_at hl 0 rfl) ?_
          refine lv_aload_n hx hb zd_LassoSearch_findCycle_89 rfl (lv_at hl 2 rfl) ?_
          refine z_get (v := .int (I10 37)) hx hb hts hown hK hw zZ3 0 wS_g0 18 (by decide) zn_827 rfl zd_LassoSearch_findCycle_90 ?_
          refine lv_icmp_gt (tgt := 110) hx hb zd_LassoSearch_findCycle_93 (by decide) (fun hc13 => ?_) (fun hc13 => ?_)
          · have hok := hok.1 hc13
            exact wJ_LassoSearch_findCycle_110 G K ad a0 Post C K38 kh38 x1 x2 x3 I10 J10 B10 D10 ls H locs hok (lv_sub hl [2, 3, 4, 5] rfl) hw
          · have hok := hok.2 hc13
            exact wJ_LassoSearch_findCycle_96 G K ad a0 Post C K38 kh38 x1 x2 x3 z9 r10 I10 J10 B10 D10 ls H locs hok (lv_sub hl [2, 3, 4, 5, 1, 0] rfl) hw
theorem wL_LassoSearch_findCycle_38 {p : Program} {l : Launch} {e : Env} {s : State} {m : MethodId} {below : List Frame} {meth : Method} {c : Code} {A : Nat → Prop} (G : va_G) (K : Nat → ClassId) (ad : Nat → Nat) (a0 : Int32) (Post : (Nat → Int32) → (Nat → Int64) → (Nat → Nat → Int32) → (Nat → Nat → Int64) → Prop) (C : zCx p s m ([.ref (ad 65), .int a0] : List Value).toArray meth c A G K prog_4_method_16_code none 6 "LassoFinder$LassoSearch") : ∀ (n : Nat) (x1 : Int32) (x2 : Int32) (x3 : Int32) (I : Nat → Int32) (J : Nat → Int64) (B : Nat → Nat → Int32) (D : Nat → Nat → Int64) (ls : Array Slot) (H : Heap) (locs : List Loc), wl_LassoSearch_findCycle_38 a0 Post n x1 x2 x3 I J B D → lv_has ls 6 [(0, .ref (ad 65)), (1, .int x1), (2, .int x2), (3, .int x3)] → zW G A s.heap (wS ad K I J B D) H locs → W p l e { frames := 3, cells := 0, slots := 0, locals := 84 } s m ([.ref (ad 65), .int a0] : List Value).toArray below meth c H locs 0 0 (MQ below (va_Qv (fun u : zS => Post u.1 u.2.1 u.2.2.1 u.2.2.2) (fun u t => zPost G K A (wS ad K u.1 u.2.1 u.2.2.1 u.2.2.2) t) A) ([.ref (ad 65), .int a0] : List Value).toArray s 0 0 A) (F0 m 38 ls []) := by
  intro n
  induction n with
  | zero => intro x1 x2 x3 I J B D ls H locs hok; exact hok.elim
  | succ n ih => exact wB_LassoSearch_findCycle_38 G K ad a0 Post C (wl_LassoSearch_findCycle_38 a0 Post n) ih
set_option maxHeartbeats 8000000 in
set_option maxRecDepth 100000 in
theorem wJ_LassoSearch_findCycle_30 {p : Program} {l : Launch} {e : Env} {s : State} {m : MethodId} {below : List Frame} {meth : Method} {c : Code} {A : Nat → Prop} (G : va_G) (K : Nat → ClassId) (ad : Nat → Nat) (a0 : Int32) (Post : (Nat → Int32) → (Nat → Int64) → (Nat → Nat → Int32) → (Nat → Nat → Int64) → Prop) (C : zCx p s m ([.ref (ad 65), .int a0] : List Value).toArray meth c A G K prog_4_method_16_code none 6 "LassoFinder$LassoSearch") : ∀ (x1 : Int32) (y0 : Int32) (I : Nat → Int32) (J : Nat → Int64) (B : Nat → Nat → Int32) (D : Nat → Nat → Int64) (ls : Array Slot) (H : Heap) (locs : List Loc), wc_LassoSearch_findCycle_30 a0 Post x1 y0 I J B D → lv_has ls 6 [(0, .ref (ad 65)), (1, .int x1)] → zW G A s.heap (wS ad K I J B D) H locs → W p l e { frames := 3, cells := 0, slots := 0, locals := 84 } s m ([.ref (ad 65), .int a0] : List Value).toArray below meth c H locs 0 0 (MQ below (va_Qv (fun u : zS => Post u.1 u.2.1 u.2.2.1 u.2.2.2) (fun u t => zPost G K A (wS ad K u.1 u.2.1 u.2.2.1 u.2.2.2) t) A) ([.ref (ad 65), .int a0] : List Value).toArray s 0 0 A) (F0 m 30 ls [.int y0]) := by
  obtain ⟨hx, hb, hr, hml, hts, hown, hlocks, hA, hK⟩ := id C
  intro x1 y0 I J B D ls H locs hok hl hw
  unfold wc_LassoSearch_findCycle_30 at hok
  refine lv_istore_n hx hb zd_LassoSearch_findCycle_30 rfl hl (by decide) rfl (fun ls hl => ?_)
  have hl : lv_has ls 6 [(2, .int y0), (0, .ref (ad 65)), (1, .int x1)] := hl
  refine lv_aload_n hx hb zd_LassoSearch_findCycle_31 rfl (lv_at hl 1 rfl) ?_
  refine lv_iconst (v := (-1)) hx hb zd_LassoSearch_findCycle_32 (by decide) ?_
  refine z_put (v := .int (-1)) hx hb hts hown hK hw zZ3 0 wS_g0 18 (by decide) zn_827 rfl rfl rfl (Nat.le_of_ble_eq_true rfl) zd_LassoSearch_findCycle_33 (fun H locs hw => ?_)
  have hw := wS_sI37 hw
  refine lv_iconst (v := 0) hx hb zd_LassoSearch_findCycle_36 (by decide) ?_
  refine lv_istore_n hx hb zd_LassoSearch_findCycle_37 rfl hl (by decide) rfl (fun ls hl => ?_)
  have hl : lv_has ls 6 [(3, .int 0), (2, .int y0), (0, .ref (ad 65)), (1, .int x1)] := hl
  obtain ⟨n9, hok⟩ := hok
  exact wL_LassoSearch_findCycle_38 G K ad a0 Post C n9 x1 y0 0 (upd I 37 (-1)) J B D ls H locs hok (lv_sub hl [2, 3, 1, 0] rfl) hw
set_option maxHeartbeats 8000000 in
set_option maxRecDepth 100000 in
theorem w_LassoSearch_findCycle (l : Launch) (G : va_G) (K : Nat → ClassId) (ad : Nat → Nat) (I : Nat → Int32) (J : Nat → Int64) (B : Nat → Nat → Int32) (D : Nat → Nat → Int64) (a0 : Int32) (Post : (Nat → Int32) → (Nat → Int64) → (Nat → Nat → Int32) → (Nat → Nat → Int64) → Prop) (sz : Nat) (hok : wp_LassoSearch_findCycle I J B D a0 Post) : Met l zy_LassoSearch_findCycle (Cond.code zy_LassoSearch_findCycle prog_4_method_16_code 6 none :: zTB) { frames := 3, cells := 0, slots := 0, locals := 84 } (va_Pc [.ref (ad 65), .int a0] (zPre G K (wS ad K I J B D) sz)) (va_Qv (fun u : zS => Post u.1 u.2.1 u.2.2.1 u.2.2.2) (fun u t => zPost G K (va_A (wS ad K I J B D) sz) (wS ad K u.1 u.2.1 u.2.2.1 u.2.2.2) t) (va_A (wS ad K I J B D) sz)) 0 0 (va_A (wS ad K I J B D) sz) := by
  refine zMet (y := zy_LassoSearch_findCycle) (av := [.ref (ad 65), .int a0]) (maxL := 6) (cc := prog_4_method_16_code) (ret := none) (W0 := (wS ad K I J B D)) (sz := sz) (G := G) (K := K) (wt := zTB) (mc := 0) (ms := 0) (Qf := fun A => va_Qv (fun u : zS => Post u.1 u.2.1 u.2.2.1 u.2.2.2) (fun u t => zPost G K A (wS ad K u.1 u.2.1 u.2.2.1 u.2.2.2) t) A) (by decide) (Nat.le_of_ble_eq_true rfl) ?_
  intro p e s m below meth c ls A hx hb hr hml hts hown hlocks hin hA hK H locs hw hsz hl
  clear hsz
  have hown : s.vm.findClass "LassoFinder$LassoSearch" = some m.cls := hown
  have C : zCx p s m ([.ref (ad 65), .int a0] : List Value).toArray meth c A G K prog_4_method_16_code none 6 "LassoFinder$LassoSearch" := ⟨hx, hb, hr, hml, hts, hown, hlocks, hA, hK⟩
  have hl : lv_has ls 6 [(0, .ref (ad 65)), (1, .int a0)] := hl
  have hw : zW G A s.heap (wS ad K I J B D) H locs := hw
  unfold wp_LassoSearch_findCycle at hok
  refine lv_aload_n hx hb zd_LassoSearch_findCycle_0 rfl (lv_at hl 0 rfl) ?_
  refine z_get (v := .int (I 36)) hx hb hts hown hK hw zZ3 0 wS_g0 17 (by decide) zn_817 rfl zd_LassoSearch_findCycle_1 ?_
  refine lv_if_ne (tgt := 11) hx hb zd_LassoSearch_findCycle_4 (by decide) (fun hc14 => ?_) (fun hc14 => ?_)
  · have hok := hok.1 hc14
    refine lv_aload_n hx hb zd_LassoSearch_findCycle_11 rfl (lv_at hl 0 rfl) ?_
    refine z_get (v := .ref (ad 8)) hx hb hts hown hK hw zZ3 0 wS_g0 0 (by decide) zn_822 rfl zd_LassoSearch_findCycle_12 ?_
    refine z_get (v := .ref (ad 49)) hx hb hts hown hK hw zZ2 20 wS_g20 4 (by decide) zn_824 rfl zd_LassoSearch_findCycle_15 ?_
    refine lv_aload_n hx hb zd_LassoSearch_findCycle_18 rfl (lv_at hl 0 rfl) ?_
    refine z_get (v := .ref (ad 74)) hx hb hts hown hK hw zZ3 0 wS_g0 14 (by decide) zn_811 rfl zd_LassoSearch_findCycle_19 ?_
    refine lv_aload_n hx hb zd_LassoSearch_findCycle_22 rfl (lv_at hl 0 rfl) ?_
    refine z_get (v := .int (I 36)) hx hb hts hown hK hw zZ3 0 wS_g0 17 (by decide) zn_817 rfl zd_LassoSearch_findCycle_23 ?_
    refine lv_iconst (v := 1) hx hb zd_LassoSearch_findCycle_26 (by decide) ?_
    refine lv_isub hx hb zd_LassoSearch_findCycle_27 ?_
    refine lv_topi (fun z15 ez15 => ?_)
    have hok := hok z15 ez15
    refine va_iald (f := (B 58)) hx hb hK hw.1 9 0 wS_a9 rfl hok.1 zd_LassoSearch_findCycle_28 ?_
    have hok := hok.2
    refine lv_topi (fun z16 ez16 => ?_)
    have hok := hok z16 ez16
    refine va_iald (f := (B 34)) hx hb hK hw.1 61 0 wS_a61 rfl hok.1 zd_LassoSearch_findCycle_29 ?_
    have hok := hok.2
    refine lv_topi (fun z17 ez17 => ?_)
    have hok := hok z17 ez17
    exact wJ_LassoSearch_findCycle_30 G K ad a0 Post C a0 z17 I J B D ls H locs hok (lv_sub hl [0, 1] rfl) hw
  · have hok := hok.2 hc14
    refine lv_iconst (v := 0) hx hb zd_LassoSearch_findCycle_7 (by decide) ?_
    refine lv_goto (tgt := 30) hx hb zd_LassoSearch_findCycle_8 (by decide) ?_
    exact wJ_LassoSearch_findCycle_30 G K ad a0 Post C a0 0 I J B D ls H locs hok (lv_sub hl [0, 1] rfl) hw
def wp_LassoSearch_enterSpot (I : Nat → Int32) (J : Nat → Int64) (B : Nat → Nat → Int32) (D : Nat → Nat → Int64) (a0 : Int32) (Post : (Nat → Int32) → (Nat → Int64) → (Nat → Nat → Int32) → (Nat → Nat → Int64) → Prop) : Prop :=
  ∀ z1 : Int32, z1 = ((I 34) + 1) → vp_in a0 768 ∧ vp_in a0 768 ∧ ∀ z2 : Int32, z2 = (a0 / 8) → vp_in z2 97 ∧ ∀ z3 : Int32, z3 = ((B 37) z2.toNatClampNeg) → vp_in a0 768 ∧ vp_in a0 768 ∧ vp_in (I 33) 768 ∧ ∀ z4 : Int32, z4 = ((I 33) + 1) → vp_in (I 32) 768 ∧ ∀ z5 : Int32, z5 = ((I 32) + 1) → Post (upd (upd (upd I 34 z1) 33 z4) 32 z5) J (va_up (va_up (va_up (va_up (va_up (va_up B 50 (upd (B 50) a0.toNatClampNeg z1)) 51 (upd (B 51) a0.toNatClampNeg z1)) 52 (upd (B 52) a0.toNatClampNeg z3)) 53 (upd (B 53) a0.toNatClampNeg (vp_nar .boolean 1))) 55 (upd (B 55) (I 33).toNatClampNeg a0)) 54 (upd (B 54) (I 32).toNatClampNeg a0)) D
set_option maxHeartbeats 8000000 in
set_option maxRecDepth 100000 in
theorem w_LassoSearch_enterSpot (l : Launch) (G : va_G) (K : Nat → ClassId) (ad : Nat → Nat) (I : Nat → Int32) (J : Nat → Int64) (B : Nat → Nat → Int32) (D : Nat → Nat → Int64) (a0 : Int32) (Post : (Nat → Int32) → (Nat → Int64) → (Nat → Nat → Int32) → (Nat → Nat → Int64) → Prop) (sz : Nat) (hok : wp_LassoSearch_enterSpot I J B D a0 Post) : Met l zy_LassoSearch_enterSpot (Cond.code zy_LassoSearch_enterSpot prog_4_method_7_code 2 none :: zTB) { frames := 0, cells := 0, slots := 0, locals := 0 } (va_Pc [.ref (ad 65), .int a0] (zPre G K (wS ad K I J B D) sz)) (va_Qv (fun u : zS => Post u.1 u.2.1 u.2.2.1 u.2.2.2) (fun u t => zPost G K (va_A (wS ad K I J B D) sz) (wS ad K u.1 u.2.1 u.2.2.1 u.2.2.2) t) (va_A (wS ad K I J B D) sz)) 0 0 (va_A (wS ad K I J B D) sz) := by
  refine zMet (y := zy_LassoSearch_enterSpot) (av := [.ref (ad 65), .int a0]) (maxL := 2) (cc := prog_4_method_7_code) (ret := none) (W0 := (wS ad K I J B D)) (sz := sz) (G := G) (K := K) (wt := zTB) (mc := 0) (ms := 0) (Qf := fun A => va_Qv (fun u : zS => Post u.1 u.2.1 u.2.2.1 u.2.2.2) (fun u t => zPost G K A (wS ad K u.1 u.2.1 u.2.2.1 u.2.2.2) t) A) (by decide) (Nat.le_of_ble_eq_true rfl) ?_
  intro p e s m below meth c ls A hx hb hr hml hts hown hlocks hin hA hK H locs hw hsz hl
  clear hsz
  have hown : s.vm.findClass "LassoFinder$LassoSearch" = some m.cls := hown
  have C : zCx p s m ([.ref (ad 65), .int a0] : List Value).toArray meth c A G K prog_4_method_7_code none 2 "LassoFinder$LassoSearch" := ⟨hx, hb, hr, hml, hts, hown, hlocks, hA, hK⟩
  have hl : lv_has ls 2 [(0, .ref (ad 65)), (1, .int a0)] := hl
  have hw : zW G A s.heap (wS ad K I J B D) H locs := hw
  unfold wp_LassoSearch_enterSpot at hok
  refine lv_aload_n hx hb zd_LassoSearch_enterSpot_0 rfl (lv_at hl 0 rfl) ?_
  refine lv_dup hx hb zd_LassoSearch_enterSpot_1 rfl ?_
  refine z_get (v := .int (I 34)) hx hb hts hown hK hw zZ3 0 wS_g0 10 (by decide) zn_837 rfl zd_LassoSearch_enterSpot_2 ?_
  refine lv_iconst (v := 1) hx hb zd_LassoSearch_enterSpot_5 (by decide) ?_
  refine lv_iadd hx hb zd_LassoSearch_enterSpot_6 ?_
  refine lv_topi (fun z1 ez1 => ?_)
  have hok := hok z1 ez1
  refine z_put (v := .int z1) hx hb hts hown hK hw zZ3 0 wS_g0 10 (by decide) zn_837 rfl rfl rfl (Nat.le_of_ble_eq_true rfl) zd_LassoSearch_enterSpot_7 (fun H locs hw => ?_)
  have hw := wS_sI34 hw
  refine lv_aload_n hx hb zd_LassoSearch_enterSpot_10 rfl (lv_at hl 0 rfl) ?_
  refine z_get (v := .ref (ad 66)) hx hb hts hown hK hw zZ3 0 wS_g0 2 (by decide) zn_803 rfl zd_LassoSearch_enterSpot_11 ?_
  refine lv_iload_n hx hb zd_LassoSearch_enterSpot_14 rfl (lv_at hl 1 rfl) ?_
  refine lv_aload_n hx hb zd_LassoSearch_enterSpot_15 rfl (lv_at hl 0 rfl) ?_
  refine z_get (v := .int z1) hx hb hts hown hK hw zZ3 0 wS_g0 10 (by decide) zn_837 rfl zd_LassoSearch_enterSpot_16 ?_
  refine va_iast (f := (B 50)) hx hb hK hw.1 hw.2.1 hw.2.2 1 0 wS_a1 rfl hok.1 zd_LassoSearch_enterSpot_19 (fun H locs w91 w92 w93 => ?_)
  have hok := hok.2
  have hw := wS_t1 ⟨w91, w92, w93⟩
  refine lv_aload_n hx hb zd_LassoSearch_enterSpot_20 rfl (lv_at hl 0 rfl) ?_
  refine z_get (v := .ref (ad 67)) hx hb hts hown hK hw zZ3 0 wS_g0 3 (by decide) zn_804 rfl zd_LassoSearch_enterSpot_21 ?_
  refine lv_iload_n hx hb zd_LassoSearch_enterSpot_24 rfl (lv_at hl 1 rfl) ?_
  refine lv_aload_n hx hb zd_LassoSearch_enterSpot_25 rfl (lv_at hl 0 rfl) ?_
  refine z_get (v := .int z1) hx hb hts hown hK hw zZ3 0 wS_g0 10 (by decide) zn_837 rfl zd_LassoSearch_enterSpot_26 ?_
  refine va_iast (f := (B 51)) hx hb hK hw.1 hw.2.1 hw.2.2 2 0 wS_a2 rfl hok.1 zd_LassoSearch_enterSpot_29 (fun H locs w91 w92 w93 => ?_)
  have hok := hok.2
  have hw := wS_t2 ⟨w91, w92, w93⟩
  refine lv_aload_n hx hb zd_LassoSearch_enterSpot_30 rfl (lv_at hl 0 rfl) ?_
  refine z_get (v := .ref (ad 68)) hx hb hts hown hK hw zZ3 0 wS_g0 4 (by decide) zn_805 rfl zd_LassoSearch_enterSpot_31 ?_
  refine lv_iload_n hx hb zd_LassoSearch_enterSpot_34 rfl (lv_at hl 1 rfl) ?_
  refine lv_aload_n hx hb zd_LassoSearch_enterSpot_35 rfl (lv_at hl 0 rfl) ?_
  refine z_get (v := .ref (ad 8)) hx hb hts hown hK hw zZ3 0 wS_g0 0 (by decide) zn_822 rfl zd_LassoSearch_enterSpot_36 ?_
  refine z_get (v := .ref (ad 52)) hx hb hts hown hK hw zZ2 20 wS_g20 7 (by decide) zn_830 rfl zd_LassoSearch_enterSpot_39 ?_
  refine lv_iload_n hx hb zd_LassoSearch_enterSpot_42 rfl (lv_at hl 1 rfl) ?_
  refine lv_bipush (v := 8) hx hb zd_LassoSearch_enterSpot_43 (by decide) ?_
  refine lv_idiv hx hb zd_LassoSearch_enterSpot_45 (by decide) ?_
  refine lv_topi (fun z2 ez2 => ?_)
  have hok := hok z2 ez2
  refine va_iald (f := (B 37)) hx hb hK hw.1 64 0 wS_a64 rfl hok.1 zd_LassoSearch_enterSpot_46 ?_
  have hok := hok.2
  refine lv_topi (fun z3 ez3 => ?_)
  have hok := hok z3 ez3
  refine va_iast (f := (B 52)) hx hb hK hw.1 hw.2.1 hw.2.2 3 0 wS_a3 rfl hok.1 zd_LassoSearch_enterSpot_47 (fun H locs w91 w92 w93 => ?_)
  have hok := hok.2
  have hw := wS_t3 ⟨w91, w92, w93⟩
  refine lv_aload_n hx hb zd_LassoSearch_enterSpot_48 rfl (lv_at hl 0 rfl) ?_
  refine z_get (v := .ref (ad 69)) hx hb hts hown hK hw zZ3 0 wS_g0 5 (by decide) zn_806 rfl zd_LassoSearch_enterSpot_49 ?_
  refine lv_iload_n hx hb zd_LassoSearch_enterSpot_52 rfl (lv_at hl 1 rfl) ?_
  refine lv_iconst (v := 1) hx hb zd_LassoSearch_enterSpot_53 (by decide) ?_
  refine va_zast (f := (B 53)) hx hb hK hw.1 hw.2.1 hw.2.2 4 2 wS_a4 rfl hok.1 zd_LassoSearch_enterSpot_54 (fun H locs w91 w92 w93 => ?_)
  have hok := hok.2
  have hw := wS_t4 ⟨w91, w92, w93⟩
  refine lv_aload_n hx hb zd_LassoSearch_enterSpot_55 rfl (lv_at hl 0 rfl) ?_
  refine z_get (v := .ref (ad 71)) hx hb hts hown hK hw zZ3 0 wS_g0 7 (by decide) zn_808 rfl zd_LassoSearch_enterSpot_56 ?_
  refine lv_aload_n hx hb zd_LassoSearch_enterSpot_59 rfl (lv_at hl 0 rfl) ?_
  refine z_get (v := .int (I 33)) hx hb hts hown hK hw zZ3 0 wS_g0 9 (by decide) zn_838 rfl zd_LassoSearch_enterSpot_60 ?_
  refine lv_iload_n hx hb zd_LassoSearch_enterSpot_63 rfl (lv_at hl 1 rfl) ?_
  refine va_iast (f := (B 55)) hx hb hK hw.1 hw.2.1 hw.2.2 6 0 wS_a6 rfl hok.1 zd_LassoSearch_enterSpot_64 (fun H locs w91 w92 w93 => ?_)
  have hok := hok.2
  have hw := wS_t6 ⟨w91, w92, w93⟩
  refine lv_aload_n hx hb zd_LassoSearch_enterSpot_65 rfl (lv_at hl 0 rfl) ?_
  refine lv_dup hx hb zd_LassoSearch_enterSpot_66 rfl ?_
  refine z_get (v := .int (I 33)) hx hb hts hown hK hw zZ3 0 wS_g0 9 (by decide) zn_838 rfl zd_LassoSearch_enterSpot_67 ?_
  refine lv_iconst (v := 1) hx hb zd_LassoSearch_enterSpot_70 (by decide) ?_
  refine lv_iadd hx hb zd_LassoSearch_enterSpot_71 ?_
  refine lv_topi (fun z4 ez4 => ?_)
  have hok := hok z4 ez4
  refine z_put (v := .int z4) hx hb hts hown hK hw zZ3 0 wS_g0 9 (by decide) zn_838 rfl rfl rfl (Nat.le_of_ble_eq_true rfl) zd_LassoSearch_enterSpot_72 (fun H locs hw => ?_)
  have hw := wS_sI33 hw
  refine lv_aload_n hx hb zd_LassoSearch_enterSpot_75 rfl (lv_at hl 0 rfl) ?_
  refine z_get (v := .ref (ad 70)) hx hb hts hown hK hw zZ3 0 wS_g0 6 (by decide) zn_807 rfl zd_LassoSearch_enterSpot_76 ?_
  refine lv_aload_n hx hb zd_LassoSearch_enterSpot_79 rfl (lv_at hl 0 rfl) ?_
  refine z_get (v := .int (I 32)) hx hb hts hown hK hw zZ3 0 wS_g0 8 (by decide) zn_833 rfl zd_LassoSearch_enterSpot_80 ?_
  refine lv_iload_n hx hb zd_LassoSearch_enterSpot_83 rfl (lv_at hl 1 rfl) ?_
  refine va_iast (f := (B 54)) hx hb hK hw.1 hw.2.1 hw.2.2 5 0 wS_a5 rfl hok.1 zd_LassoSearch_enterSpot_84 (fun H locs w91 w92 w93 => ?_)
  have hok := hok.2
  have hw := wS_t5 ⟨w91, w92, w93⟩
  refine lv_aload_n hx hb zd_LassoSearch_enterSpot_85 rfl (lv_at hl 0 rfl) ?_
  refine lv_dup hx hb zd_LassoSearch_enterSpot_86 rfl ?_
  refine z_get (v := .int (I 32)) hx hb hts hown hK hw zZ3 0 wS_g0 8 (by decide) zn_833 rfl zd_LassoSearch_enterSpot_87 ?_
  refine lv_iconst (v := 1) hx hb zd_LassoSearch_enterSpot_90 (by decide) ?_
  refine lv_iadd hx hb zd_LassoSearch_enterSpot_91 ?_
  refine lv_topi (fun z5 ez5 => ?_)
  have hok := hok z5 ez5
  refine z_put (v := .int z5) hx hb hts hown hK hw zZ3 0 wS_g0 8 (by decide) zn_833 rfl rfl rfl (Nat.le_of_ble_eq_true rfl) zd_LassoSearch_enterSpot_92 (fun H locs hw => ?_)
  have hw := wS_sI32 hw
  exact (z_vret (u := ((upd (upd (upd I 34 z1) 33 z4) 32 z5), J, (va_up (va_up (va_up (va_up (va_up (va_up B 50 (upd (B 50) a0.toNatClampNeg z1)) 51 (upd (B 51) a0.toNatClampNeg z1)) 52 (upd (B 52) a0.toNatClampNeg z3)) 53 (upd (B 53) a0.toNatClampNeg (vp_nar .boolean 1))) 55 (upd (B 55) (I 33).toNatClampNeg a0)) 54 (upd (B 54) (I 32).toNatClampNeg a0)), D)) hx hb hr hlocks hw (List.range 77) wS_all wS_nd hok (Nat.le_of_ble_eq_true rfl) (Nat.le_of_ble_eq_true rfl) zd_LassoSearch_enterSpot_95)
def wc_LassoSearch_leadsToItself_61 (a0 : Int32) (Post : Int32 → (Nat → Int32) → (Nat → Int64) → (Nat → Nat → Int32) → (Nat → Nat → Int64) → Prop) (y0 : Int32) (I : Nat → Int32) (J : Nat → Int64) (B : Nat → Nat → Int32) (D : Nat → Nat → Int64) : Prop :=
  (y0 = 0 ∨ y0 = 1) ∧ Post y0 I J B D
def wb_LassoSearch_leadsToItself_15 (a0 : Int32) (K15 : Int32 → Int32 → Int32 → (Nat → Int32) → (Nat → Int64) → (Nat → Nat → Int32) → (Nat → Nat → Int64) → Prop) (Post : Int32 → (Nat → Int32) → (Nat → Int64) → (Nat → Nat → Int32) → (Nat → Nat → Int64) → Prop) (x1 : Int32) (x2 : Int32) (x3 : Int32) (I : Nat → Int32) (J : Nat → Int64) (B : Nat → Nat → Int32) (D : Nat → Nat → Int64) : Prop :=
  ∀ z1 : Int32, z1 = (x2 + 1) → vp_in z1 97 ∧ ∀ z2 : Int32, z2 = ((B 32) z1.toNatClampNeg) → ((z2 ≤ x3 → Post 0 I J B D) ∧ (¬ z2 ≤ x3 → vp_in x3 400 ∧ ∀ z4 : Int32, z4 = ((B 34) x3.toNatClampNeg) → ((¬ z4 = x2 → ∀ z6 : Int32, z6 = (x3 + 1) → K15 x1 x2 z6 I J B D) ∧ (z4 = x2 → ∀ z7 : Int32, z7 = (x1 - x1 / 8 * 8) → wp_LassoSearch_spotBefore I J B D x2 z7 (fun r8 I8 J8 B8 D8 => ((¬ r8 = x1 → wc_LassoSearch_leadsToItself_61 a0 Post 0 I8 J8 B8 D8) ∧ (r8 = x1 → wc_LassoSearch_leadsToItself_61 a0 Post 1 I8 J8 B8 D8)))))))
def wl_LassoSearch_leadsToItself_15 (a0 : Int32) (Post : Int32 → (Nat → Int32) → (Nat → Int64) → (Nat → Nat → Int32) → (Nat → Nat → Int64) → Prop) (n : Nat) : Int32 → Int32 → Int32 → (Nat → Int32) → (Nat → Int64) → (Nat → Nat → Int32) → (Nat → Nat → Int64) → Prop := Nat.rec (fun _ _ _ _ _ _ _ => False) (fun _ r => wb_LassoSearch_leadsToItself_15 a0 r Post) n
def wp_LassoSearch_leadsToItself (I : Nat → Int32) (J : Nat → Int64) (B : Nat → Nat → Int32) (D : Nat → Nat → Int64) (a0 : Int32) (Post : Int32 → (Nat → Int32) → (Nat → Int64) → (Nat → Nat → Int32) → (Nat → Nat → Int64) → Prop) : Prop :=
  ∀ z10 : Int32, z10 = (a0 / 8) → vp_in z10 97 ∧ ∀ z11 : Int32, z11 = ((B 32) z10.toNatClampNeg) → ∃ n : Nat, wl_LassoSearch_leadsToItself_15 a0 Post n a0 z10 z11 I J B D
set_option maxHeartbeats 8000000 in
set_option maxRecDepth 100000 in
theorem wJ_LassoSearch_leadsToItself_61 {p : Program} {l : Launch} {e : Env} {s : State} {m : MethodId} {below : List Frame} {meth : Method} {c : Code} {A : Nat → Prop} (G : va_G) (K : Nat → ClassId) (ad : Nat → Nat) (a0 : Int32) (Post : Int32 → (Nat → Int32) → (Nat → Int64) → (Nat → Nat → Int32) → (Nat → Nat → Int64) → Prop) (C : zCx p s m ([.ref (ad 65), .int a0] : List Value).toArray meth c A G K prog_4_method_10_code (some .boolean) 4 "LassoFinder$LassoSearch") : ∀ (y0 : Int32) (I : Nat → Int32) (J : Nat → Int64) (B : Nat → Nat → Int32) (D : Nat → Nat → Int64) (ls : Array Slot) (H : Heap) (locs : List Loc), wc_LassoSearch_leadsToItself_61 a0 Post y0 I J B D → lv_has ls 4 [] → zW G A s.heap (wS ad K I J B D) H locs → W p l e { frames := 1, cells := 0, slots := 0, locals := 22 } s m ([.ref (ad 65), .int a0] : List Value).toArray below meth c H locs 0 0 (MQ below (va_Qi (fun (r : Int32) (u : zS) => Post r u.1 u.2.1 u.2.2.1 u.2.2.2) (fun u t => zPost G K A (wS ad K u.1 u.2.1 u.2.2.1 u.2.2.2) t) A) ([.ref (ad 65), .int a0] : List Value).toArray s 0 0 A) (F0 m 61 ls [.int y0]) := by
  obtain ⟨hx, hb, hr, hml, hts, hown, hlocks, hA, hK⟩ := id C
  intro y0 I J B D ls H locs hok hl hw
  unfold wc_LassoSearch_leadsToItself_61 at hok
  have hbo := hok.1
  have hok := hok.2
  exact (z_iret (u := (I, J, B, D)) hx hb hr hlocks (z_nar hbo) hw (List.range 77) wS_all wS_nd hok (Nat.le_of_ble_eq_true rfl) (Nat.le_of_ble_eq_true rfl) zd_LassoSearch_leadsToItself_61)
set_option maxHeartbeats 8000000 in
set_option maxRecDepth 100000 in
theorem wB_LassoSearch_leadsToItself_15 {p : Program} {l : Launch} {e : Env} {s : State} {m : MethodId} {below : List Frame} {meth : Method} {c : Code} {A : Nat → Prop} (G : va_G) (K : Nat → ClassId) (ad : Nat → Nat) (a0 : Int32) (Post : Int32 → (Nat → Int32) → (Nat → Int64) → (Nat → Nat → Int32) → (Nat → Nat → Int64) → Prop) (C : zCx p s m ([.ref (ad 65), .int a0] : List Value).toArray meth c A G K prog_4_method_10_code (some .boolean) 4 "LassoFinder$LassoSearch") (K15 : Int32 → Int32 → Int32 → (Nat → Int32) → (Nat → Int64) → (Nat → Nat → Int32) → (Nat → Nat → Int64) → Prop) (kh15 : ∀ (x1 : Int32) (x2 : Int32) (x3 : Int32) (I : Nat → Int32) (J : Nat → Int64) (B : Nat → Nat → Int32) (D : Nat → Nat → Int64) (ls : Array Slot) (H : Heap) (locs : List Loc), K15 x1 x2 x3 I J B D → lv_has ls 4 [(0, .ref (ad 65)), (1, .int x1), (2, .int x2), (3, .int x3)] → zW G A s.heap (wS ad K I J B D) H locs → W p l e { frames := 1, cells := 0, slots := 0, locals := 22 } s m ([.ref (ad 65), .int a0] : List Value).toArray below meth c H locs 0 0 (MQ below (va_Qi (fun (r : Int32) (u : zS) => Post r u.1 u.2.1 u.2.2.1 u.2.2.2) (fun u t => zPost G K A (wS ad K u.1 u.2.1 u.2.2.1 u.2.2.2) t) A) ([.ref (ad 65), .int a0] : List Value).toArray s 0 0 A) (F0 m 15 ls [])) : ∀ (x1 : Int32) (x2 : Int32) (x3 : Int32) (I : Nat → Int32) (J : Nat → Int64) (B : Nat → Nat → Int32) (D : Nat → Nat → Int64) (ls : Array Slot) (H : Heap) (locs : List Loc), wb_LassoSearch_leadsToItself_15 a0 K15 Post x1 x2 x3 I J B D → lv_has ls 4 [(0, .ref (ad 65)), (1, .int x1), (2, .int x2), (3, .int x3)] → zW G A s.heap (wS ad K I J B D) H locs → W p l e { frames := 1, cells := 0, slots := 0, locals := 22 } s m ([.ref (ad 65), .int a0] : List Value).toArray below meth c H locs 0 0 (MQ below (va_Qi (fun (r : Int32) (u : zS) => Post r u.1 u.2.1 u.2.2.1 u.2.2.2) (fun u t => zPost G K A (wS ad K u.1 u.2.1 u.2.2.1 u.2.2.2) t) A) ([.ref (ad 65), .int a0] : List Value).toArray s 0 0 A) (F0 m 15 ls []) := by
  obtain ⟨hx, hb, hr, hml, hts, hown, hlocks, hA, hK⟩ := id C
  intro x1 x2 x3 I J B D ls H locs hok hl hw
  unfold wb_LassoSearch_leadsToItself_15 at hok
  refine lv_iload_n hx hb zd_LassoSearch_leadsToItself_15 rfl (lv_at hl 3 rfl) ?_
  refine lv_aload_n hx hb zd_LassoSearch_leadsToItself_16 rfl (lv_at hl 0 rfl) ?_
  refine z_get (v := .ref (ad 8)) hx hb hts hown hK hw zZ3 0 wS_g0 0 (by decide) zn_822 rfl zd_LassoSearch_leadsToItself_17 ?_
  refine z_get (v := .ref (ad 47)) hx hb hts hown hK hw zZ2 20 wS_g20 2 (by decide) zn_823 rfl zd_LassoSearch_leadsToItself_20 ?_
  refine lv_iload_n hx hb zd_LassoSearch_leadsToItself_23 rfl (lv_at hl 2 rfl) ?_
  refine lv_iconst (v := 1) hx hb zd_LassoSearch_leadsToItself_24 (by decide) ?_
  refine lv_iadd hx hb zd_LassoSearch_leadsToItself_25 ?_
  refine lv_topi (fun z1 ez1 => ?_)
  have hok := hok z1 ez1
  refine va_iald (f := (B 32)) hx hb hK hw.1 59 0 wS_a59 rfl hok.1 zd_LassoSearch_leadsToItself_26 ?_
  have hok := hok.2
  refine lv_topi (fun z2 ez2 => ?_)
  have hok := hok z2 ez2
  refine lv_icmp_ge (tgt := 68) hx hb zd_LassoSearch_leadsToItself_27 (by decide) (fun hc3 => ?_) (fun hc3 => ?_)
  · have hok := hok.1 hc3
    refine lv_iconst (v := 0) hx hb zd_LassoSearch_leadsToItself_68 (by decide) ?_
    exact (z_iret (u := (I, J, B, D)) hx hb hr hlocks rfl hw (List.range 77) wS_all wS_nd hok (Nat.le_of_ble_eq_true rfl) (Nat.le_of_ble_eq_true rfl) zd_LassoSearch_leadsToItself_69)
  · have hok := hok.2 hc3
    refine lv_aload_n hx hb zd_LassoSearch_leadsToItself_30 rfl (lv_at hl 0 rfl) ?_
    refine z_get (v := .ref (ad 8)) hx hb hts hown hK hw zZ3 0 wS_g0 0 (by decide) zn_822 rfl zd_LassoSearch_leadsToItself_31 ?_
    refine z_get (v := .ref (ad 49)) hx hb hts hown hK hw zZ2 20 wS_g20 4 (by decide) zn_824 rfl zd_LassoSearch_leadsToItself_34 ?_
    refine lv_iload_n hx hb zd_LassoSearch_leadsToItself_37 rfl (lv_at hl 3 rfl) ?_
    refine va_iald (f := (B 34)) hx hb hK hw.1 61 0 wS_a61 rfl hok.1 zd_LassoSearch_leadsToItself_38 ?_
    have hok := hok.2
    refine lv_topi (fun z4 ez4 => ?_)
    have hok := hok z4 ez4
    refine lv_iload_n hx hb zd_LassoSearch_leadsToItself_39 rfl (lv_at hl 2 rfl) ?_
    refine lv_icmp_ne (tgt := 62) hx hb zd_LassoSearch_leadsToItself_40 (by decide) (fun hc5 => ?_) (fun hc5 => ?_)
    · have hok := hok.1 hc5
      obtain ⟨z6, ez6⟩ : ∃ z : Int32, z = (x3 + 1) := ⟨_, rfl⟩
      have hok := hok z6 ez6
      refine lv_iinc (v := z6) hx hb zd_LassoSearch_leadsToItself_62 hl (k := 3) rfl ez6.symm (by decide) rfl (fun ls hl => ?_)
      have hl : lv_has ls 4 [(3, .int z6), (0, .ref (ad 65)), (1, .int x1), (2, .int x2)] := hl
      refine lv_goto (tgt := 15) hx hb zd_LassoSearch_leadsToItself_65 (by decide) ?_
      exact kh15 x1 x2 z6 I J B D ls H locs hok (lv_sub hl [1, 2, 3, 0] rfl) hw
    · have hok := hok.2 hc5
      refine lv_aload_n hx hb zd_LassoSearch_leadsToItself_43 rfl (lv_at hl 0 rfl) ?_
      refine lv_iload_n hx hb zd_LassoSearch_leadsToItself_44 rfl (lv_at hl 2 rfl) ?_
      refine lv_iload_n hx hb zd_LassoSearch_leadsToItself_45 rfl (lv_at hl 1 rfl) ?_
      refine lv_bipush (v := 8) hx hb zd_LassoSearch_leadsToItself_46 (by decide) ?_
      refine lv_irem hx hb zd_LassoSearch_leadsToItself_48 (by decide) ?_
      refine lv_topi (fun z7 ez7 => ?_)
      have hok := hok z7 ez7
      refine z_calli (w1 := fun (u : zS) => wS ad K u.1 u.2.1 u.2.2.1 u.2.2.2) (wr := []) (z_runV (q0 := 0) (wc := (wS ad K I J B D)) (As := [.int x2, .int z7]) (rest := []) ⟨hx, hb, hml, hown, hts⟩ (w_LassoSearch_spotBefore l G K ad I J B D x2 z7 _ H.size hok) zf_LassoSearch_spotBefore zn_553 ⟨Nat.le_of_ble_eq_true rfl, Nat.le_of_ble_eq_true rfl⟩ hK hw (List.range 77) wS_all wS_nd wS_g0 rfl rfl hl.1 rfl (Nat.le_of_ble_eq_true rfl) zd_LassoSearch_leadsToItself_49 ⟨Nat.le_of_ble_eq_true rfl, Nat.le_of_ble_eq_true rfl⟩) hw hA (List.range 77) [] wS_all rfl (by decide) (fun i hi => by cases hi) (fun r8 u H locs hok hw => ?_)
      obtain ⟨I8, J8, B8, D8⟩ := u
      dsimp only at hok
      have hw : zW G A s.heap (wS ad K I8 J8 B8 D8) H locs := hw
      refine lv_iload_n hx hb zd_LassoSearch_leadsToItself_52 rfl (lv_at hl 1 rfl) ?_
      refine lv_icmp_ne (tgt := 60) hx hb zd_LassoSearch_leadsToItself_53 (by decide) (fun hc9 => ?_) (fun hc9 => ?_)
      · have hok := hok.1 hc9
        refine lv_iconst (v := 0) hx hb zd_LassoSearch_leadsToItself_60 (by decide) ?_
        exact wJ_LassoSearch_leadsToItself_61 G K ad a0 Post C 0 I8 J8 B8 D8 ls H locs hok (lv_sub hl [] rfl) hw
      · have hok := hok.2 hc9
        refine lv_iconst (v := 1) hx hb zd_LassoSearch_leadsToItself_56 (by decide) ?_
        refine lv_goto (tgt := 61) hx hb zd_LassoSearch_leadsToItself_57 (by decide) ?_
        exact wJ_LassoSearch_leadsToItself_61 G K ad a0 Post C 1 I8 J8 B8 D8 ls H locs hok (lv_sub hl [] rfl) hw
theorem wL_LassoSearch_leadsToItself_15 {p : Program} {l : Launch} {e : Env} {s : State} {m : MethodId} {below : List Frame} {meth : Method} {c : Code} {A : Nat → Prop} (G : va_G) (K : Nat → ClassId) (ad : Nat → Nat) (a0 : Int32) (Post : Int32 → (Nat → Int32) → (Nat → Int64) → (Nat → Nat → Int32) → (Nat → Nat → Int64) → Prop) (C : zCx p s m ([.ref (ad 65), .int a0] : List Value).toArray meth c A G K prog_4_method_10_code (some .boolean) 4 "LassoFinder$LassoSearch") : ∀ (n : Nat) (x1 : Int32) (x2 : Int32) (x3 : Int32) (I : Nat → Int32) (J : Nat → Int64) (B : Nat → Nat → Int32) (D : Nat → Nat → Int64) (ls : Array Slot) (H : Heap) (locs : List Loc), wl_LassoSearch_leadsToItself_15 a0 Post n x1 x2 x3 I J B D → lv_has ls 4 [(0, .ref (ad 65)), (1, .int x1), (2, .int x2), (3, .int x3)] → zW G A s.heap (wS ad K I J B D) H locs → W p l e { frames := 1, cells := 0, slots := 0, locals := 22 } s m ([.ref (ad 65), .int a0] : List Value).toArray below meth c H locs 0 0 (MQ below (va_Qi (fun (r : Int32) (u : zS) => Post r u.1 u.2.1 u.2.2.1 u.2.2.2) (fun u t => zPost G K A (wS ad K u.1 u.2.1 u.2.2.1 u.2.2.2) t) A) ([.ref (ad 65), .int a0] : List Value).toArray s 0 0 A) (F0 m 15 ls []) := by
  intro n
  induction n with
  | zero => intro x1 x2 x3 I J B D ls H locs hok; exact hok.elim
  | succ n ih => exact wB_LassoSearch_leadsToItself_15 G K ad a0 Post C (wl_LassoSearch_leadsToItself_15 a0 Post n) ih
set_option maxHeartbeats 8000000 in
set_option maxRecDepth 100000 in
theorem w_LassoSearch_leadsToItself (l : Launch) (G : va_G) (K : Nat → ClassId) (ad : Nat → Nat) (I : Nat → Int32) (J : Nat → Int64) (B : Nat → Nat → Int32) (D : Nat → Nat → Int64) (a0 : Int32) (Post : Int32 → (Nat → Int32) → (Nat → Int64) → (Nat → Nat → Int32) → (Nat → Nat → Int64) → Prop) (sz : Nat) (hok : wp_LassoSearch_leadsToItself I J B D a0 Post) : Met l zy_LassoSearch_leadsToItself (Cond.code zy_LassoSearch_leadsToItself prog_4_method_10_code 4 (some .boolean) :: zTB) { frames := 1, cells := 0, slots := 0, locals := 22 } (va_Pc [.ref (ad 65), .int a0] (zPre G K (wS ad K I J B D) sz)) (va_Qi (fun (r : Int32) (u : zS) => Post r u.1 u.2.1 u.2.2.1 u.2.2.2) (fun u t => zPost G K (va_A (wS ad K I J B D) sz) (wS ad K u.1 u.2.1 u.2.2.1 u.2.2.2) t) (va_A (wS ad K I J B D) sz)) 0 0 (va_A (wS ad K I J B D) sz) := by
  refine zMet (y := zy_LassoSearch_leadsToItself) (av := [.ref (ad 65), .int a0]) (maxL := 4) (cc := prog_4_method_10_code) (ret := (some .boolean)) (W0 := (wS ad K I J B D)) (sz := sz) (G := G) (K := K) (wt := zTB) (mc := 0) (ms := 0) (Qf := fun A => va_Qi (fun (r : Int32) (u : zS) => Post r u.1 u.2.1 u.2.2.1 u.2.2.2) (fun u t => zPost G K A (wS ad K u.1 u.2.1 u.2.2.1 u.2.2.2) t) A) (by decide) (Nat.le_of_ble_eq_true rfl) ?_
  intro p e s m below meth c ls A hx hb hr hml hts hown hlocks hin hA hK H locs hw hsz hl
  clear hsz
  have hown : s.vm.findClass "LassoFinder$LassoSearch" = some m.cls := hown
  have C : zCx p s m ([.ref (ad 65), .int a0] : List Value).toArray meth c A G K prog_4_method_10_code (some .boolean) 4 "LassoFinder$LassoSearch" := ⟨hx, hb, hr, hml, hts, hown, hlocks, hA, hK⟩
  have hl : lv_has ls 4 [(0, .ref (ad 65)), (1, .int a0)] := hl
  have hw : zW G A s.heap (wS ad K I J B D) H locs := hw
  unfold wp_LassoSearch_leadsToItself at hok
  refine lv_iload_n hx hb zd_LassoSearch_leadsToItself_0 rfl (lv_at hl 1 rfl) ?_
  refine lv_bipush (v := 8) hx hb zd_LassoSearch_leadsToItself_1 (by decide) ?_
  refine lv_idiv hx hb zd_LassoSearch_leadsToItself_3 (by decide) ?_
  refine lv_topi (fun z10 ez10 => ?_)
  have hok := hok z10 ez10
  refine lv_istore_n hx hb zd_LassoSearch_leadsToItself_4 rfl hl (by decide) rfl (fun ls hl => ?_)
  have hl : lv_has ls 4 [(2, .int z10), (0, .ref (ad 65)), (1, .int a0)] := hl
  refine lv_aload_n hx hb zd_LassoSearch_leadsToItself_5 rfl (lv_at hl 1 rfl) ?_
  refine z_get (v := .ref (ad 8)) hx hb hts hown hK hw zZ3 0 wS_g0 0 (by decide) zn_822 rfl zd_LassoSearch_leadsToItself_6 ?_
  refine z_get (v := .ref (ad 47)) hx hb hts hown hK hw zZ2 20 wS_g20 2 (by decide) zn_823 rfl zd_LassoSearch_leadsToItself_9 ?_
  refine lv_iload_n hx hb zd_LassoSearch_leadsToItself_12 rfl (lv_at hl 0 rfl) ?_
  refine va_iald (f := (B 32)) hx hb hK hw.1 59 0 wS_a59 rfl hok.1 zd_LassoSearch_leadsToItself_13 ?_
  have hok := hok.2
  refine lv_topi (fun z11 ez11 => ?_)
  have hok := hok z11 ez11
  refine lv_istore_n hx hb zd_LassoSearch_leadsToItself_14 rfl hl (by decide) rfl (fun ls hl => ?_)
  have hl : lv_has ls 4 [(3, .int z11), (2, .int z10), (0, .ref (ad 65)), (1, .int a0)] := hl
  obtain ⟨n9, hok⟩ := hok
  exact wL_LassoSearch_leadsToItself_15 G K ad a0 Post C n9 a0 z10 z11 I J B D ls H locs hok (lv_sub hl [2, 3, 1, 0] rfl) hw
