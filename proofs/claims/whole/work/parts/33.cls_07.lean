abbrev zy_ModelReader_checkJumps : MethodName := ⟨"LassoFinder$ModelReader", "checkJumps", "()V"⟩
abbrev zy_Program_takeProcess : MethodName := ⟨"LassoFinder$Program", "takeProcess", "(LLassoFinder$Tree;)V"⟩
abbrev zy_Program_takeWay : MethodName := ⟨"LassoFinder$Program", "takeWay", "(LLassoFinder$Tree;I)V"⟩
abbrev zy_Tree_pointAt : MethodName := ⟨"LassoFinder$Tree", "pointAt", "(I)I"⟩
abbrev zy_Program_takePlaces : MethodName := ⟨"LassoFinder$Program", "takePlaces", "(LLassoFinder$Tree;I)V"⟩
theorem zn_378 : Cond.methodLink "LassoFinder$ModelReader" 117 ⟨"LassoFinder$Tree", "settled", "(I)I"⟩ ∈ zTB := z_in (zt_4 _ (List.mem_of_getElem? (i := 104) rfl)) rfl
theorem zn_380 : Cond.methodLink "LassoFinder$ModelReader" 124 ⟨"LassoFinder$Text", "refuseAt", "(I)V"⟩ ∈ zTB := z_in (zt_4 _ (List.mem_of_getElem? (i := 112) rfl)) rfl
theorem zn_382 : Cond.methodLink "LassoFinder$Program" 75 ⟨"LassoFinder$Program", "takeWay", "(LLassoFinder$Tree;I)V"⟩ ∈ zTB := z_in (zt_4 _ (List.mem_of_getElem? (i := 120) rfl)) rfl
theorem zn_383 : Cond.methodLink "LassoFinder$Program" 95 ⟨"LassoFinder$Tree", "behind", "(I)I"⟩ ∈ zTB := z_in (zt_4 _ (List.mem_of_getElem? (i := 124) rfl)) rfl
theorem zn_384 : Cond.methodLink "LassoFinder$Program" 85 ⟨"LassoFinder$Tree", "settled", "(I)I"⟩ ∈ zTB := z_in (zt_4 _ (List.mem_of_getElem? (i := 125) rfl)) rfl
theorem zn_385 : Cond.methodLink "LassoFinder$Program" 89 ⟨"LassoFinder$Tree", "pointAt", "(I)I"⟩ ∈ zTB := z_in (zt_4 _ (List.mem_of_getElem? (i := 126) rfl)) rfl
theorem zn_386 : Cond.methodLink "LassoFinder$Program" 79 ⟨"LassoFinder$Program", "takePlaces", "(LLassoFinder$Tree;I)V"⟩ ∈ zTB := z_in (zt_4 _ (List.mem_of_getElem? (i := 130) rfl)) rfl
theorem zn_452 : Cond.fieldLink "LassoFinder$Program" 69 "LassoFinder$Tree" "size" "I" ∈ zTB := z_in (zt_1 _ (List.mem_of_getElem? (i := 231) rfl)) rfl
theorem zn_453 : Cond.fieldLink "LassoFinder$Program" 74 "LassoFinder$Tree" "kinds" "[I" ∈ zTB := z_in (zt_1 _ (List.mem_of_getElem? (i := 209) rfl)) rfl
theorem zn_454 : Cond.fieldLink "LassoFinder$Program" 82 "LassoFinder$Tree" "labelled" "[I" ∈ zTB := z_in (zt_1 _ (List.mem_of_getElem? (i := 229) rfl)) rfl
theorem zn_455 : Cond.fieldLink "LassoFinder$Program" 92 "LassoFinder$Tree" "number" "[I" ∈ zTB := z_in (zt_1 _ (List.mem_of_getElem? (i := 224) rfl)) rfl
theorem zn_456 : Cond.fieldLink "LassoFinder$Program" 98 "LassoFinder$Tree" "atomics" "[I" ∈ zTB := z_in (zt_1 _ (List.mem_of_getElem? (i := 215) rfl)) rfl
theorem zn_457 : Cond.fieldLink "LassoFinder$Program" 103 "LassoFinder$Tree" "pointOf" "[I" ∈ zTB := z_in (zt_1 _ (List.mem_of_getElem? (i := 221) rfl)) rfl
theorem zn_458 : Cond.fieldLink "LassoFinder$Program" 106 "LassoFinder$Tree" "leads" "[Z" ∈ zTB := z_in (zt_1 _ (List.mem_of_getElem? (i := 217) rfl)) rfl
theorem zn_459 : Cond.fieldLink "LassoFinder$Program" 109 "LassoFinder$Tree" "around" "[I" ∈ zTB := z_in (zt_1 _ (List.mem_of_getElem? (i := 212) rfl)) rfl
theorem zn_660 : Cond.code ⟨"LassoFinder$Text", "refuseAt", "(I)V"⟩ prog_10_method_12_code 2 none ∈ zTB := z_in (zt_4 _ (List.mem_of_getElem? (i := 115) rfl)) rfl
theorem zn_661 : Cond.selects "LassoFinder$Text" ⟨"LassoFinder$Text", "refuseAt", "(I)V"⟩ ⟨"LassoFinder$Text", "refuseAt", "(I)V"⟩ ∈ zTB := z_in (zt_4 _ (List.mem_of_getElem? (i := 114) rfl)) rfl
theorem zn_662 : Cond.instanceMethod ⟨"LassoFinder$Text", "refuseAt", "(I)V"⟩ ∈ zTB := z_in (zt_4 _ (List.mem_of_getElem? (i := 113) rfl)) rfl
theorem zn_663 : Cond.code ⟨"LassoFinder$Tree", "settled", "(I)I"⟩ prog_11_method_7_code 4 (some .int) ∈ zTB := z_in (zt_4 _ (List.mem_of_getElem? (i := 107) rfl)) rfl
theorem zn_664 : Cond.selects "LassoFinder$Tree" ⟨"LassoFinder$Tree", "settled", "(I)I"⟩ ⟨"LassoFinder$Tree", "settled", "(I)I"⟩ ∈ zTB := z_in (zt_4 _ (List.mem_of_getElem? (i := 106) rfl)) rfl
theorem zn_665 : Cond.instanceMethod ⟨"LassoFinder$Tree", "settled", "(I)I"⟩ ∈ zTB := z_in (zt_4 _ (List.mem_of_getElem? (i := 105) rfl)) rfl
theorem zn_666 : Cond.code ⟨"LassoFinder$Tree", "pointAt", "(I)I"⟩ prog_11_method_8_code 2 (some .int) ∈ zTB := z_in (zt_4 _ (List.mem_of_getElem? (i := 129) rfl)) rfl
theorem zn_667 : Cond.selects "LassoFinder$Tree" ⟨"LassoFinder$Tree", "pointAt", "(I)I"⟩ ⟨"LassoFinder$Tree", "pointAt", "(I)I"⟩ ∈ zTB := z_in (zt_4 _ (List.mem_of_getElem? (i := 128) rfl)) rfl
theorem zn_668 : Cond.instanceMethod ⟨"LassoFinder$Tree", "pointAt", "(I)I"⟩ ∈ zTB := z_in (zt_4 _ (List.mem_of_getElem? (i := 127) rfl)) rfl
theorem zn_669 : Cond.code ⟨"LassoFinder$Program", "takeWay", "(LLassoFinder$Tree;I)V"⟩ prog_7_method_6_code 6 none ∈ zTB := z_in (zt_4 _ (List.mem_of_getElem? (i := 123) rfl)) rfl
theorem zn_670 : Cond.instanceMethod ⟨"LassoFinder$Program", "takeWay", "(LLassoFinder$Tree;I)V"⟩ ∈ zTB := z_in (zt_4 _ (List.mem_of_getElem? (i := 122) rfl)) rfl
theorem zn_671 : Cond.code ⟨"LassoFinder$Program", "takePlaces", "(LLassoFinder$Tree;I)V"⟩ prog_7_method_7_code 7 none ∈ zTB := z_in (zt_4 _ (List.mem_of_getElem? (i := 133) rfl)) rfl
theorem zn_672 : Cond.instanceMethod ⟨"LassoFinder$Program", "takePlaces", "(LLassoFinder$Tree;I)V"⟩ ∈ zTB := z_in (zt_4 _ (List.mem_of_getElem? (i := 132) rfl)) rfl
theorem zf_Text_refuseAt : zFaceV zy_Text_refuseAt prog_10_method_12_code 2 none 1 := ⟨zn_662, zn_661, zm_19, zn_660, by decide +kernel, by decide +kernel, by decide +kernel⟩
theorem zf_Tree_settled : zFaceV zy_Tree_settled prog_11_method_7_code 4 (some .int) 1 := ⟨zn_665, zn_664, zm_21, zn_663, by decide +kernel, by decide +kernel, by decide +kernel⟩
theorem zf_Tree_pointAt : zFaceV zy_Tree_pointAt prog_11_method_8_code 2 (some .int) 1 := ⟨zn_668, zn_667, zm_21, zn_666, by decide +kernel, by decide +kernel, by decide +kernel⟩
theorem zf_Program_takeWay : zFaceV zy_Program_takeWay prog_7_method_6_code 6 none 2 := ⟨zn_670, (z_in (zp_2 _ (List.mem_of_getElem? (i := 7) rfl)) rfl), zm_13, zn_669, by decide +kernel, by decide +kernel, by decide +kernel⟩
theorem zf_Program_takePlaces : zFaceV zy_Program_takePlaces prog_7_method_7_code 7 none 2 := ⟨zn_672, (z_in (zp_2 _ (List.mem_of_getElem? (i := 8) rfl)) rfl), zm_13, zn_671, by decide +kernel, by decide +kernel, by decide +kernel⟩
theorem zd_ModelReader_checkJumps_0 : decode prog_5_method_5_code 0 = .ok (.iconst 0, 1) := by decide +kernel
theorem zd_ModelReader_checkJumps_1 : decode prog_5_method_5_code 1 = .ok (.istore_n 1, 1) := by decide +kernel
theorem zd_ModelReader_checkJumps_2 : decode prog_5_method_5_code 2 = .ok (.iload_n 1, 1) := by decide +kernel
theorem zd_ModelReader_checkJumps_3 : decode prog_5_method_5_code 3 = .ok (.aload_n 0, 1) := by decide +kernel
theorem zd_ModelReader_checkJumps_4 : decode prog_5_method_5_code 4 = .ok (.getfield 30, 3) := by decide +kernel
theorem zd_ModelReader_checkJumps_7 : decode prog_5_method_5_code 7 = .ok (.getfield 107, 3) := by decide +kernel
theorem zd_ModelReader_checkJumps_10 : decode prog_5_method_5_code 10 = .ok (.if_icmp .ge 83, 3) := by decide +kernel
theorem zd_ModelReader_checkJumps_13 : decode prog_5_method_5_code 13 = .ok (.aload_n 0, 1) := by decide +kernel
theorem zd_ModelReader_checkJumps_14 : decode prog_5_method_5_code 14 = .ok (.getfield 30, 3) := by decide +kernel
theorem zd_ModelReader_checkJumps_17 : decode prog_5_method_5_code 17 = .ok (.getfield 110, 3) := by decide +kernel
theorem zd_ModelReader_checkJumps_20 : decode prog_5_method_5_code 20 = .ok (.iload_n 1, 1) := by decide +kernel
theorem zd_ModelReader_checkJumps_21 : decode prog_5_method_5_code 21 = .ok (.iaload, 1) := by decide +kernel
theorem zd_ModelReader_checkJumps_22 : decode prog_5_method_5_code 22 = .ok (.iconst 5, 1) := by decide +kernel
theorem zd_ModelReader_checkJumps_23 : decode prog_5_method_5_code 23 = .ok (.if_icmp .ne 64, 3) := by decide +kernel
theorem zd_ModelReader_checkJumps_26 : decode prog_5_method_5_code 26 = .ok (.aload_n 0, 1) := by decide +kernel
theorem zd_ModelReader_checkJumps_27 : decode prog_5_method_5_code 27 = .ok (.getfield 30, 3) := by decide +kernel
theorem zd_ModelReader_checkJumps_30 : decode prog_5_method_5_code 30 = .ok (.getfield 111, 3) := by decide +kernel
theorem zd_ModelReader_checkJumps_33 : decode prog_5_method_5_code 33 = .ok (.aload_n 0, 1) := by decide +kernel
theorem zd_ModelReader_checkJumps_34 : decode prog_5_method_5_code 34 = .ok (.getfield 30, 3) := by decide +kernel
theorem zd_ModelReader_checkJumps_37 : decode prog_5_method_5_code 37 = .ok (.getfield 114, 3) := by decide +kernel
theorem zd_ModelReader_checkJumps_40 : decode prog_5_method_5_code 40 = .ok (.iload_n 1, 1) := by decide +kernel
theorem zd_ModelReader_checkJumps_41 : decode prog_5_method_5_code 41 = .ok (.iaload, 1) := by decide +kernel
theorem zd_ModelReader_checkJumps_42 : decode prog_5_method_5_code 42 = .ok (.iaload, 1) := by decide +kernel
theorem zd_ModelReader_checkJumps_43 : decode prog_5_method_5_code 43 = .ok (.bipush (-3), 2) := by decide +kernel
theorem zd_ModelReader_checkJumps_45 : decode prog_5_method_5_code 45 = .ok (.if_icmp .ne 7, 3) := by decide +kernel
theorem zd_ModelReader_checkJumps_48 : decode prog_5_method_5_code 48 = .ok (.iconst 1, 1) := by decide +kernel
theorem zd_ModelReader_checkJumps_49 : decode prog_5_method_5_code 49 = .ok (.goto 4, 3) := by decide +kernel
theorem zd_ModelReader_checkJumps_52 : decode prog_5_method_5_code 52 = .ok (.iconst 0, 1) := by decide +kernel
theorem zd_ModelReader_checkJumps_53 : decode prog_5_method_5_code 53 = .ok (.istore_n 2, 1) := by decide +kernel
theorem zd_ModelReader_checkJumps_54 : decode prog_5_method_5_code 54 = .ok (.iload_n 2, 1) := by decide +kernel
theorem zd_ModelReader_checkJumps_55 : decode prog_5_method_5_code 55 = .ok (.ifCond .ne 16, 3) := by decide +kernel
theorem zd_ModelReader_checkJumps_58 : decode prog_5_method_5_code 58 = .ok (.aload_n 0, 1) := by decide +kernel
theorem zd_ModelReader_checkJumps_59 : decode prog_5_method_5_code 59 = .ok (.getfield 30, 3) := by decide +kernel
theorem zd_ModelReader_checkJumps_62 : decode prog_5_method_5_code 62 = .ok (.iload_n 1, 1) := by decide +kernel
theorem zd_ModelReader_checkJumps_63 : decode prog_5_method_5_code 63 = .ok (.invokevirtual 117, 3) := by decide +kernel
theorem zd_ModelReader_checkJumps_66 : decode prog_5_method_5_code 66 = .ok (.bipush (-4), 2) := by decide +kernel
theorem zd_ModelReader_checkJumps_68 : decode prog_5_method_5_code 68 = .ok (.if_icmp .ne 19, 3) := by decide +kernel
theorem zd_ModelReader_checkJumps_71 : decode prog_5_method_5_code 71 = .ok (.aload_n 0, 1) := by decide +kernel
theorem zd_ModelReader_checkJumps_72 : decode prog_5_method_5_code 72 = .ok (.getfield 9, 3) := by decide +kernel
theorem zd_ModelReader_checkJumps_75 : decode prog_5_method_5_code 75 = .ok (.aload_n 0, 1) := by decide +kernel
theorem zd_ModelReader_checkJumps_76 : decode prog_5_method_5_code 76 = .ok (.getfield 30, 3) := by decide +kernel
theorem zd_ModelReader_checkJumps_79 : decode prog_5_method_5_code 79 = .ok (.getfield 121, 3) := by decide +kernel
theorem zd_ModelReader_checkJumps_82 : decode prog_5_method_5_code 82 = .ok (.iload_n 1, 1) := by decide +kernel
theorem zd_ModelReader_checkJumps_83 : decode prog_5_method_5_code 83 = .ok (.iaload, 1) := by decide +kernel
theorem zd_ModelReader_checkJumps_84 : decode prog_5_method_5_code 84 = .ok (.invokevirtual 124, 3) := by decide +kernel
theorem zd_ModelReader_checkJumps_87 : decode prog_5_method_5_code 87 = .ok (.iinc 1 1, 3) := by decide +kernel
theorem zd_ModelReader_checkJumps_90 : decode prog_5_method_5_code 90 = .ok (.goto (-88), 3) := by decide +kernel
theorem zd_ModelReader_checkJumps_93 : decode prog_5_method_5_code 93 = .ok (.return_, 1) := by decide +kernel
theorem zd_Program_takePlaces_0 : decode prog_7_method_7_code 0 = .ok (.lconst 1, 1) := by decide +kernel
theorem zd_Program_takePlaces_1 : decode prog_7_method_7_code 1 = .ok (.aload_n 1, 1) := by decide +kernel
theorem zd_Program_takePlaces_2 : decode prog_7_method_7_code 2 = .ok (.getfield 92, 3) := by decide +kernel
theorem zd_Program_takePlaces_5 : decode prog_7_method_7_code 5 = .ok (.iload_n 2, 1) := by decide +kernel
theorem zd_Program_takePlaces_6 : decode prog_7_method_7_code 6 = .ok (.iaload, 1) := by decide +kernel
theorem zd_Program_takePlaces_7 : decode prog_7_method_7_code 7 = .ok (.lshl, 1) := by decide +kernel
theorem zd_Program_takePlaces_8 : decode prog_7_method_7_code 8 = .ok (.lstore_n 3, 1) := by decide +kernel
theorem zd_Program_takePlaces_9 : decode prog_7_method_7_code 9 = .ok (.iload_n 2, 1) := by decide +kernel
theorem zd_Program_takePlaces_10 : decode prog_7_method_7_code 10 = .ok (.istore 5, 2) := by decide +kernel
theorem zd_Program_takePlaces_12 : decode prog_7_method_7_code 12 = .ok (.iconst 0, 1) := by decide +kernel
theorem zd_Program_takePlaces_13 : decode prog_7_method_7_code 13 = .ok (.istore 6, 2) := by decide +kernel
theorem zd_Program_takePlaces_15 : decode prog_7_method_7_code 15 = .ok (.iload 6, 2) := by decide +kernel
theorem zd_Program_takePlaces_17 : decode prog_7_method_7_code 17 = .ok (.sipush 240, 3) := by decide +kernel
theorem zd_Program_takePlaces_20 : decode prog_7_method_7_code 20 = .ok (.if_icmp .ge 73, 3) := by decide +kernel
theorem zd_Program_takePlaces_23 : decode prog_7_method_7_code 23 = .ok (.iload 5, 2) := by decide +kernel
theorem zd_Program_takePlaces_25 : decode prog_7_method_7_code 25 = .ok (.iconst (-1), 1) := by decide +kernel
theorem zd_Program_takePlaces_26 : decode prog_7_method_7_code 26 = .ok (.if_icmp .eq 67, 3) := by decide +kernel
theorem zd_Program_takePlaces_29 : decode prog_7_method_7_code 29 = .ok (.aload_n 1, 1) := by decide +kernel
theorem zd_Program_takePlaces_30 : decode prog_7_method_7_code 30 = .ok (.getfield 103, 3) := by decide +kernel
theorem zd_Program_takePlaces_33 : decode prog_7_method_7_code 33 = .ok (.iload 5, 2) := by decide +kernel
theorem zd_Program_takePlaces_35 : decode prog_7_method_7_code 35 = .ok (.iaload, 1) := by decide +kernel
theorem zd_Program_takePlaces_36 : decode prog_7_method_7_code 36 = .ok (.iconst (-1), 1) := by decide +kernel
theorem zd_Program_takePlaces_37 : decode prog_7_method_7_code 37 = .ok (.if_icmp .eq 27, 3) := by decide +kernel
theorem zd_Program_takePlaces_40 : decode prog_7_method_7_code 40 = .ok (.aload_n 0, 1) := by decide +kernel
theorem zd_Program_takePlaces_41 : decode prog_7_method_7_code 41 = .ok (.getfield 46, 3) := by decide +kernel
theorem zd_Program_takePlaces_44 : decode prog_7_method_7_code 44 = .ok (.aload_n 0, 1) := by decide +kernel
theorem zd_Program_takePlaces_45 : decode prog_7_method_7_code 45 = .ok (.getfield 66, 3) := by decide +kernel
theorem zd_Program_takePlaces_48 : decode prog_7_method_7_code 48 = .ok (.bipush 31, 2) := by decide +kernel
theorem zd_Program_takePlaces_50 : decode prog_7_method_7_code 50 = .ok (.imul, 1) := by decide +kernel
theorem zd_Program_takePlaces_51 : decode prog_7_method_7_code 51 = .ok (.aload_n 1, 1) := by decide +kernel
theorem zd_Program_takePlaces_52 : decode prog_7_method_7_code 52 = .ok (.getfield 103, 3) := by decide +kernel
theorem zd_Program_takePlaces_55 : decode prog_7_method_7_code 55 = .ok (.iload 5, 2) := by decide +kernel
theorem zd_Program_takePlaces_57 : decode prog_7_method_7_code 57 = .ok (.iaload, 1) := by decide +kernel
theorem zd_Program_takePlaces_58 : decode prog_7_method_7_code 58 = .ok (.iadd, 1) := by decide +kernel
theorem zd_Program_takePlaces_59 : decode prog_7_method_7_code 59 = .ok (.dup2, 1) := by decide +kernel
theorem zd_Program_takePlaces_60 : decode prog_7_method_7_code 60 = .ok (.laload, 1) := by decide +kernel
theorem zd_Program_takePlaces_61 : decode prog_7_method_7_code 61 = .ok (.lload_n 3, 1) := by decide +kernel
theorem zd_Program_takePlaces_62 : decode prog_7_method_7_code 62 = .ok (.lor, 1) := by decide +kernel
theorem zd_Program_takePlaces_63 : decode prog_7_method_7_code 63 = .ok (.lastore, 1) := by decide +kernel
theorem zd_Program_takePlaces_64 : decode prog_7_method_7_code 64 = .ok (.aload_n 1, 1) := by decide +kernel
theorem zd_Program_takePlaces_65 : decode prog_7_method_7_code 65 = .ok (.getfield 106, 3) := by decide +kernel
theorem zd_Program_takePlaces_68 : decode prog_7_method_7_code 68 = .ok (.iload 5, 2) := by decide +kernel
theorem zd_Program_takePlaces_70 : decode prog_7_method_7_code 70 = .ok (.baload, 1) := by decide +kernel
theorem zd_Program_takePlaces_71 : decode prog_7_method_7_code 71 = .ok (.ifCond .eq 13, 3) := by decide +kernel
theorem zd_Program_takePlaces_74 : decode prog_7_method_7_code 74 = .ok (.aload_n 1, 1) := by decide +kernel
theorem zd_Program_takePlaces_75 : decode prog_7_method_7_code 75 = .ok (.getfield 109, 3) := by decide +kernel
theorem zd_Program_takePlaces_78 : decode prog_7_method_7_code 78 = .ok (.iload 5, 2) := by decide +kernel
theorem zd_Program_takePlaces_80 : decode prog_7_method_7_code 80 = .ok (.iaload, 1) := by decide +kernel
theorem zd_Program_takePlaces_81 : decode prog_7_method_7_code 81 = .ok (.goto 4, 3) := by decide +kernel
theorem zd_Program_takePlaces_84 : decode prog_7_method_7_code 84 = .ok (.iconst (-1), 1) := by decide +kernel
theorem zd_Program_takePlaces_85 : decode prog_7_method_7_code 85 = .ok (.istore 5, 2) := by decide +kernel
theorem zd_Program_takePlaces_87 : decode prog_7_method_7_code 87 = .ok (.iinc 6 1, 3) := by decide +kernel
theorem zd_Program_takePlaces_90 : decode prog_7_method_7_code 90 = .ok (.goto (-75), 3) := by decide +kernel
theorem zd_Program_takePlaces_93 : decode prog_7_method_7_code 93 = .ok (.return_, 1) := by decide +kernel
theorem zd_Program_takeProcess_0 : decode prog_7_method_5_code 0 = .ok (.iconst 0, 1) := by decide +kernel
theorem zd_Program_takeProcess_1 : decode prog_7_method_5_code 1 = .ok (.istore_n 2, 1) := by decide +kernel
theorem zd_Program_takeProcess_2 : decode prog_7_method_5_code 2 = .ok (.iload_n 2, 1) := by decide +kernel
theorem zd_Program_takeProcess_3 : decode prog_7_method_5_code 3 = .ok (.aload_n 1, 1) := by decide +kernel
theorem zd_Program_takeProcess_4 : decode prog_7_method_5_code 4 = .ok (.getfield 69, 3) := by decide +kernel
theorem zd_Program_takeProcess_7 : decode prog_7_method_5_code 7 = .ok (.if_icmp .ge 30, 3) := by decide +kernel
theorem zd_Program_takeProcess_10 : decode prog_7_method_5_code 10 = .ok (.aload_n 1, 1) := by decide +kernel
theorem zd_Program_takeProcess_11 : decode prog_7_method_5_code 11 = .ok (.getfield 74, 3) := by decide +kernel
theorem zd_Program_takeProcess_14 : decode prog_7_method_5_code 14 = .ok (.iload_n 2, 1) := by decide +kernel
theorem zd_Program_takeProcess_15 : decode prog_7_method_5_code 15 = .ok (.iaload, 1) := by decide +kernel
theorem zd_Program_takeProcess_16 : decode prog_7_method_5_code 16 = .ok (.ifCond .ne 15, 3) := by decide +kernel
theorem zd_Program_takeProcess_19 : decode prog_7_method_5_code 19 = .ok (.aload_n 0, 1) := by decide +kernel
theorem zd_Program_takeProcess_20 : decode prog_7_method_5_code 20 = .ok (.aload_n 1, 1) := by decide +kernel
theorem zd_Program_takeProcess_21 : decode prog_7_method_5_code 21 = .ok (.iload_n 2, 1) := by decide +kernel
theorem zd_Program_takeProcess_22 : decode prog_7_method_5_code 22 = .ok (.invokevirtual 75, 3) := by decide +kernel
theorem zd_Program_takeProcess_25 : decode prog_7_method_5_code 25 = .ok (.aload_n 0, 1) := by decide +kernel
theorem zd_Program_takeProcess_26 : decode prog_7_method_5_code 26 = .ok (.aload_n 1, 1) := by decide +kernel
theorem zd_Program_takeProcess_27 : decode prog_7_method_5_code 27 = .ok (.iload_n 2, 1) := by decide +kernel
theorem zd_Program_takeProcess_28 : decode prog_7_method_5_code 28 = .ok (.invokevirtual 79, 3) := by decide +kernel
theorem zd_Program_takeProcess_31 : decode prog_7_method_5_code 31 = .ok (.iinc 2 1, 3) := by decide +kernel
theorem zd_Program_takeProcess_34 : decode prog_7_method_5_code 34 = .ok (.goto (-32), 3) := by decide +kernel
theorem zd_Program_takeProcess_37 : decode prog_7_method_5_code 37 = .ok (.iconst 0, 1) := by decide +kernel
theorem zd_Program_takeProcess_38 : decode prog_7_method_5_code 38 = .ok (.istore_n 2, 1) := by decide +kernel
theorem zd_Program_takeProcess_39 : decode prog_7_method_5_code 39 = .ok (.iload_n 2, 1) := by decide +kernel
theorem zd_Program_takeProcess_40 : decode prog_7_method_5_code 40 = .ok (.bipush 8, 2) := by decide +kernel
theorem zd_Program_takeProcess_42 : decode prog_7_method_5_code 42 = .ok (.if_icmp .ge 45, 3) := by decide +kernel
theorem zd_Program_takeProcess_45 : decode prog_7_method_5_code 45 = .ok (.aload_n 1, 1) := by decide +kernel
theorem zd_Program_takeProcess_46 : decode prog_7_method_5_code 46 = .ok (.getfield 82, 3) := by decide +kernel
theorem zd_Program_takeProcess_49 : decode prog_7_method_5_code 49 = .ok (.iload_n 2, 1) := by decide +kernel
theorem zd_Program_takeProcess_50 : decode prog_7_method_5_code 50 = .ok (.iaload, 1) := by decide +kernel
theorem zd_Program_takeProcess_51 : decode prog_7_method_5_code 51 = .ok (.istore_n 3, 1) := by decide +kernel
theorem zd_Program_takeProcess_52 : decode prog_7_method_5_code 52 = .ok (.iload_n 3, 1) := by decide +kernel
theorem zd_Program_takeProcess_53 : decode prog_7_method_5_code 53 = .ok (.bipush (-3), 2) := by decide +kernel
theorem zd_Program_takeProcess_55 : decode prog_7_method_5_code 55 = .ok (.if_icmp .eq 26, 3) := by decide +kernel
theorem zd_Program_takeProcess_58 : decode prog_7_method_5_code 58 = .ok (.aload_n 0, 1) := by decide +kernel
theorem zd_Program_takeProcess_59 : decode prog_7_method_5_code 59 = .ok (.getfield 43, 3) := by decide +kernel
theorem zd_Program_takeProcess_62 : decode prog_7_method_5_code 62 = .ok (.aload_n 0, 1) := by decide +kernel
theorem zd_Program_takeProcess_63 : decode prog_7_method_5_code 63 = .ok (.getfield 66, 3) := by decide +kernel
theorem zd_Program_takeProcess_66 : decode prog_7_method_5_code 66 = .ok (.bipush 8, 2) := by decide +kernel
theorem zd_Program_takeProcess_68 : decode prog_7_method_5_code 68 = .ok (.imul, 1) := by decide +kernel
theorem zd_Program_takeProcess_69 : decode prog_7_method_5_code 69 = .ok (.iload_n 2, 1) := by decide +kernel
theorem zd_Program_takeProcess_70 : decode prog_7_method_5_code 70 = .ok (.iadd, 1) := by decide +kernel
theorem zd_Program_takeProcess_71 : decode prog_7_method_5_code 71 = .ok (.aload_n 1, 1) := by decide +kernel
theorem zd_Program_takeProcess_72 : decode prog_7_method_5_code 72 = .ok (.aload_n 1, 1) := by decide +kernel
theorem zd_Program_takeProcess_73 : decode prog_7_method_5_code 73 = .ok (.iload_n 3, 1) := by decide +kernel
theorem zd_Program_takeProcess_74 : decode prog_7_method_5_code 74 = .ok (.invokevirtual 85, 3) := by decide +kernel
theorem zd_Program_takeProcess_77 : decode prog_7_method_5_code 77 = .ok (.invokevirtual 89, 3) := by decide +kernel
theorem zd_Program_takeProcess_80 : decode prog_7_method_5_code 80 = .ok (.iastore, 1) := by decide +kernel
theorem zd_Program_takeProcess_81 : decode prog_7_method_5_code 81 = .ok (.iinc 2 1, 3) := by decide +kernel
theorem zd_Program_takeProcess_84 : decode prog_7_method_5_code 84 = .ok (.goto (-45), 3) := by decide +kernel
theorem zd_Program_takeProcess_87 : decode prog_7_method_5_code 87 = .ok (.aload_n 0, 1) := by decide +kernel
theorem zd_Program_takeProcess_88 : decode prog_7_method_5_code 88 = .ok (.getfield 40, 3) := by decide +kernel
theorem zd_Program_takeProcess_91 : decode prog_7_method_5_code 91 = .ok (.aload_n 0, 1) := by decide +kernel
theorem zd_Program_takeProcess_92 : decode prog_7_method_5_code 92 = .ok (.getfield 66, 3) := by decide +kernel
theorem zd_Program_takeProcess_95 : decode prog_7_method_5_code 95 = .ok (.aload_n 1, 1) := by decide +kernel
theorem zd_Program_takeProcess_96 : decode prog_7_method_5_code 96 = .ok (.aload_n 1, 1) := by decide +kernel
theorem zd_Program_takeProcess_97 : decode prog_7_method_5_code 97 = .ok (.iconst 0, 1) := by decide +kernel
theorem zd_Program_takeProcess_98 : decode prog_7_method_5_code 98 = .ok (.invokevirtual 85, 3) := by decide +kernel
theorem zd_Program_takeProcess_101 : decode prog_7_method_5_code 101 = .ok (.invokevirtual 89, 3) := by decide +kernel
theorem zd_Program_takeProcess_104 : decode prog_7_method_5_code 104 = .ok (.iastore, 1) := by decide +kernel
theorem zd_Program_takeProcess_105 : decode prog_7_method_5_code 105 = .ok (.aload_n 0, 1) := by decide +kernel
theorem zd_Program_takeProcess_106 : decode prog_7_method_5_code 106 = .ok (.dup, 1) := by decide +kernel
theorem zd_Program_takeProcess_107 : decode prog_7_method_5_code 107 = .ok (.getfield 66, 3) := by decide +kernel
theorem zd_Program_takeProcess_110 : decode prog_7_method_5_code 110 = .ok (.iconst 1, 1) := by decide +kernel
theorem zd_Program_takeProcess_111 : decode prog_7_method_5_code 111 = .ok (.iadd, 1) := by decide +kernel
theorem zd_Program_takeProcess_112 : decode prog_7_method_5_code 112 = .ok (.putfield 66, 3) := by decide +kernel
theorem zd_Program_takeProcess_115 : decode prog_7_method_5_code 115 = .ok (.return_, 1) := by decide +kernel
theorem zd_Program_takeWay_0 : decode prog_7_method_6_code 0 = .ok (.aload_n 1, 1) := by decide +kernel
theorem zd_Program_takeWay_1 : decode prog_7_method_6_code 1 = .ok (.getfield 92, 3) := by decide +kernel
theorem zd_Program_takeWay_4 : decode prog_7_method_6_code 4 = .ok (.iload_n 2, 1) := by decide +kernel
theorem zd_Program_takeWay_5 : decode prog_7_method_6_code 5 = .ok (.iaload, 1) := by decide +kernel
theorem zd_Program_takeWay_6 : decode prog_7_method_6_code 6 = .ok (.istore_n 3, 1) := by decide +kernel
theorem zd_Program_takeWay_7 : decode prog_7_method_6_code 7 = .ok (.aload_n 1, 1) := by decide +kernel
theorem zd_Program_takeWay_8 : decode prog_7_method_6_code 8 = .ok (.aload_n 1, 1) := by decide +kernel
theorem zd_Program_takeWay_9 : decode prog_7_method_6_code 9 = .ok (.iload_n 2, 1) := by decide +kernel
theorem zd_Program_takeWay_10 : decode prog_7_method_6_code 10 = .ok (.invokevirtual 95, 3) := by decide +kernel
theorem zd_Program_takeWay_13 : decode prog_7_method_6_code 13 = .ok (.invokevirtual 85, 3) := by decide +kernel
theorem zd_Program_takeWay_16 : decode prog_7_method_6_code 16 = .ok (.istore 4, 2) := by decide +kernel
theorem zd_Program_takeWay_18 : decode prog_7_method_6_code 18 = .ok (.aload_n 1, 1) := by decide +kernel
theorem zd_Program_takeWay_19 : decode prog_7_method_6_code 19 = .ok (.getfield 98, 3) := by decide +kernel
theorem zd_Program_takeWay_22 : decode prog_7_method_6_code 22 = .ok (.iload_n 2, 1) := by decide +kernel
theorem zd_Program_takeWay_23 : decode prog_7_method_6_code 23 = .ok (.iaload, 1) := by decide +kernel
theorem zd_Program_takeWay_24 : decode prog_7_method_6_code 24 = .ok (.istore 5, 2) := by decide +kernel
theorem zd_Program_takeWay_26 : decode prog_7_method_6_code 26 = .ok (.aload_n 0, 1) := by decide +kernel
theorem zd_Program_takeWay_27 : decode prog_7_method_6_code 27 = .ok (.getfield 27, 3) := by decide +kernel
theorem zd_Program_takeWay_30 : decode prog_7_method_6_code 30 = .ok (.iload_n 3, 1) := by decide +kernel
theorem zd_Program_takeWay_31 : decode prog_7_method_6_code 31 = .ok (.aload_n 1, 1) := by decide +kernel
theorem zd_Program_takeWay_32 : decode prog_7_method_6_code 32 = .ok (.iload 4, 2) := by decide +kernel
theorem zd_Program_takeWay_34 : decode prog_7_method_6_code 34 = .ok (.invokevirtual 89, 3) := by decide +kernel
theorem zd_Program_takeWay_37 : decode prog_7_method_6_code 37 = .ok (.iastore, 1) := by decide +kernel
theorem zd_Program_takeWay_38 : decode prog_7_method_6_code 38 = .ok (.aload_n 0, 1) := by decide +kernel
theorem zd_Program_takeWay_39 : decode prog_7_method_6_code 39 = .ok (.getfield 30, 3) := by decide +kernel
theorem zd_Program_takeWay_42 : decode prog_7_method_6_code 42 = .ok (.iload_n 3, 1) := by decide +kernel
theorem zd_Program_takeWay_43 : decode prog_7_method_6_code 43 = .ok (.iload 5, 2) := by decide +kernel
theorem zd_Program_takeWay_45 : decode prog_7_method_6_code 45 = .ok (.iconst (-1), 1) := by decide +kernel
theorem zd_Program_takeWay_46 : decode prog_7_method_6_code 46 = .ok (.if_icmp .eq 24, 3) := by decide +kernel
theorem zd_Program_takeWay_49 : decode prog_7_method_6_code 49 = .ok (.iload 4, 2) := by decide +kernel
theorem zd_Program_takeWay_51 : decode prog_7_method_6_code 51 = .ok (.ifCond .lt 19, 3) := by decide +kernel
theorem zd_Program_takeWay_54 : decode prog_7_method_6_code 54 = .ok (.aload_n 1, 1) := by decide +kernel
theorem zd_Program_takeWay_55 : decode prog_7_method_6_code 55 = .ok (.getfield 98, 3) := by decide +kernel
theorem zd_Program_takeWay_58 : decode prog_7_method_6_code 58 = .ok (.iload 4, 2) := by decide +kernel
theorem zd_Program_takeWay_60 : decode prog_7_method_6_code 60 = .ok (.iaload, 1) := by decide +kernel
theorem zd_Program_takeWay_61 : decode prog_7_method_6_code 61 = .ok (.iload 5, 2) := by decide +kernel
theorem zd_Program_takeWay_63 : decode prog_7_method_6_code 63 = .ok (.if_icmp .ne 7, 3) := by decide +kernel
theorem zd_Program_takeWay_66 : decode prog_7_method_6_code 66 = .ok (.iconst 1, 1) := by decide +kernel
theorem zd_Program_takeWay_67 : decode prog_7_method_6_code 67 = .ok (.goto 4, 3) := by decide +kernel
theorem zd_Program_takeWay_70 : decode prog_7_method_6_code 70 = .ok (.iconst 0, 1) := by decide +kernel
theorem zd_Program_takeWay_71 : decode prog_7_method_6_code 71 = .ok (.bastore, 1) := by decide +kernel
theorem zd_Program_takeWay_72 : decode prog_7_method_6_code 72 = .ok (.return_, 1) := by decide +kernel
theorem zd_Tree_pointAt_0 : decode prog_11_method_8_code 0 = .ok (.iload_n 1, 1) := by decide +kernel
theorem zd_Tree_pointAt_1 : decode prog_11_method_8_code 1 = .ok (.ifCond .ge 10, 3) := by decide +kernel
theorem zd_Tree_pointAt_4 : decode prog_11_method_8_code 4 = .ok (.aload_n 0, 1) := by decide +kernel
theorem zd_Tree_pointAt_5 : decode prog_11_method_8_code 5 = .ok (.getfield 54, 3) := by decide +kernel
theorem zd_Tree_pointAt_8 : decode prog_11_method_8_code 8 = .ok (.goto 9, 3) := by decide +kernel
theorem zd_Tree_pointAt_11 : decode prog_11_method_8_code 11 = .ok (.aload_n 0, 1) := by decide +kernel
theorem zd_Tree_pointAt_12 : decode prog_11_method_8_code 12 = .ok (.getfield 36, 3) := by decide +kernel
theorem zd_Tree_pointAt_15 : decode prog_11_method_8_code 15 = .ok (.iload_n 1, 1) := by decide +kernel
theorem zd_Tree_pointAt_16 : decode prog_11_method_8_code 16 = .ok (.iaload, 1) := by decide +kernel
theorem zd_Tree_pointAt_17 : decode prog_11_method_8_code 17 = .ok (.ireturn, 1) := by decide +kernel
def wc_ModelReader_checkJumps_87 (K2 : Int32 → (Nat → Int32) → (Nat → Int64) → (Nat → Nat → Int32) → (Nat → Nat → Int64) → Prop) (Post : (Nat → Int32) → (Nat → Int64) → (Nat → Nat → Int32) → (Nat → Nat → Int64) → Prop) (PX : String → (Nat → Int32) → (Nat → Int64) → (Nat → Nat → Int32) → (Nat → Nat → Int64) → Prop) (x1 : Int32) (I : Nat → Int32) (J : Nat → Int64) (B : Nat → Nat → Int32) (D : Nat → Nat → Int64) : Prop :=
  ∀ z1 : Int32, z1 = (x1 + 1) → K2 z1 I J B D
def wc_ModelReader_checkJumps_71 (K2 : Int32 → (Nat → Int32) → (Nat → Int64) → (Nat → Nat → Int32) → (Nat → Nat → Int64) → Prop) (Post : (Nat → Int32) → (Nat → Int64) → (Nat → Nat → Int32) → (Nat → Nat → Int64) → Prop) (PX : String → (Nat → Int32) → (Nat → Int64) → (Nat → Nat → Int32) → (Nat → Nat → Int64) → Prop) (x1 : Int32) (I : Nat → Int32) (J : Nat → Int64) (B : Nat → Nat → Int32) (D : Nat → Nat → Int64) : Prop :=
  vp_in x1 240 ∧ ∀ z2 : Int32, z2 = ((B 27) x1.toNatClampNeg) → wp_Text_refuseAt I J B D z2 (fun I3 J3 B3 D3 => wc_ModelReader_checkJumps_87  K2 Post PX x1 I3 J3 B3 D3) PX
def wc_ModelReader_checkJumps_53 (K2 : Int32 → (Nat → Int32) → (Nat → Int64) → (Nat → Nat → Int32) → (Nat → Nat → Int64) → Prop) (Post : (Nat → Int32) → (Nat → Int64) → (Nat → Nat → Int32) → (Nat → Nat → Int64) → Prop) (PX : String → (Nat → Int32) → (Nat → Int64) → (Nat → Nat → Int32) → (Nat → Nat → Int64) → Prop) (x1 : Int32) (y0 : Int32) (I : Nat → Int32) (J : Nat → Int64) (B : Nat → Nat → Int32) (D : Nat → Nat → Int64) : Prop :=
  ((¬ y0 = 0 → wc_ModelReader_checkJumps_71  K2 Post PX x1 I J B D) ∧ (y0 = 0 → wp_Tree_settled I J B D x1 (fun r5 I5 J5 B5 D5 => ((¬ r5 = (-4) → wc_ModelReader_checkJumps_87  K2 Post PX x1 I5 J5 B5 D5) ∧ (r5 = (-4) → wc_ModelReader_checkJumps_71  K2 Post PX x1 I5 J5 B5 D5)))))
def wb_ModelReader_checkJumps_2 (K2 : Int32 → (Nat → Int32) → (Nat → Int64) → (Nat → Nat → Int32) → (Nat → Nat → Int64) → Prop) (Post : (Nat → Int32) → (Nat → Int64) → (Nat → Nat → Int32) → (Nat → Nat → Int64) → Prop) (PX : String → (Nat → Int32) → (Nat → Int64) → (Nat → Nat → Int32) → (Nat → Nat → Int64) → Prop) (x1 : Int32) (I : Nat → Int32) (J : Nat → Int64) (B : Nat → Nat → Int32) (D : Nat → Nat → Int64) : Prop :=
  (((I 16) ≤ x1 → Post I J B D) ∧ (¬ (I 16) ≤ x1 → vp_in x1 240 ∧ ∀ z8 : Int32, z8 = ((B 18) x1.toNatClampNeg) → ((¬ z8 = 5 → wc_ModelReader_checkJumps_87  K2 Post PX x1 I J B D) ∧ (z8 = 5 → vp_in x1 240 ∧ ∀ z10 : Int32, z10 = ((B 26) x1.toNatClampNeg) → vp_in z10 8 ∧ ∀ z11 : Int32, z11 = ((B 28) z10.toNatClampNeg) → ((¬ z11 = (-3) → wc_ModelReader_checkJumps_53  K2 Post PX x1 0 I J B D) ∧ (z11 = (-3) → wc_ModelReader_checkJumps_53  K2 Post PX x1 1 I J B D))))))
def wl_ModelReader_checkJumps_2 (Post : (Nat → Int32) → (Nat → Int64) → (Nat → Nat → Int32) → (Nat → Nat → Int64) → Prop) (PX : String → (Nat → Int32) → (Nat → Int64) → (Nat → Nat → Int32) → (Nat → Nat → Int64) → Prop) (n : Nat) : Int32 → (Nat → Int32) → (Nat → Int64) → (Nat → Nat → Int32) → (Nat → Nat → Int64) → Prop := Nat.rec (fun _ _ _ _ _ => False) (fun _ r => wb_ModelReader_checkJumps_2  r Post PX) n
def wp_ModelReader_checkJumps (I : Nat → Int32) (J : Nat → Int64) (B : Nat → Nat → Int32) (D : Nat → Nat → Int64) (Post : (Nat → Int32) → (Nat → Int64) → (Nat → Nat → Int32) → (Nat → Nat → Int64) → Prop) (PX : String → (Nat → Int32) → (Nat → Int64) → (Nat → Nat → Int32) → (Nat → Nat → Int64) → Prop) : Prop :=
  ∃ n : Nat, wl_ModelReader_checkJumps_2  Post PX n 0 I J B D
set_option maxHeartbeats 8000000 in
set_option maxRecDepth 100000 in
theorem wJ_ModelReader_checkJumps_87 {p : Program} {l : Launch} {e : Env} {s : State} {m : MethodId} {below : List Frame} {meth : Method} {c : Code} {A : Nat → Prop} (G : va_G) (K : Nat → ClassId) (ad : Nat → Nat) (sv : Value) (Post : (Nat → Int32) → (Nat → Int64) → (Nat → Nat → Int32) → (Nat → Nat → Int64) → Prop) (PX : String → (Nat → Int32) → (Nat → Int64) → (Nat → Nat → Int32) → (Nat → Nat → Int64) → Prop) (C : zCy p l s m ([.ref (ad 5)] : List Value).toArray meth c A G K prog_5_method_5_code none 3 "LassoFinder$ModelReader") (K2 : Int32 → (Nat → Int32) → (Nat → Int64) → (Nat → Nat → Int32) → (Nat → Nat → Int64) → Prop) (kh2 : ∀ (x1 : Int32) (I : Nat → Int32) (J : Nat → Int64) (B : Nat → Nat → Int32) (D : Nat → Nat → Int64) (ls : Array Slot) (H : Heap) (locs : List Loc), K2 x1 I J B D → lv_has ls 3 [(0, .ref (ad 5)), (1, .int x1)] → zW G A s.heap (wX ad K sv I J B D) H locs → W p l e { frames := 7, cells := 1, slots := 6, locals := 102 } s m ([.ref (ad 5)] : List Value).toArray below meth c H locs 0 0 (zyMQ below (va_Qv (fun u : zS => Post u.1 u.2.1 u.2.2.1 u.2.2.2) (fun u t => zPost G K A (wX ad K sv u.1 u.2.1 u.2.2.1 u.2.2.2) t) A) (zYC (fun E (u : zS) => PX E u.1 u.2.1 u.2.2.1 u.2.2.2) (fun u => wX ad K sv u.1 u.2.1 u.2.2.1 u.2.2.2) G K A) ([.ref (ad 5)] : List Value).toArray s 1 6 A) (F0 m 2 ls [])) : ∀ (x1 : Int32) (I : Nat → Int32) (J : Nat → Int64) (B : Nat → Nat → Int32) (D : Nat → Nat → Int64) (ls : Array Slot) (H : Heap) (locs : List Loc), wc_ModelReader_checkJumps_87  K2 Post PX x1 I J B D → lv_has ls 3 [(0, .ref (ad 5)), (1, .int x1)] → zW G A s.heap (wX ad K sv I J B D) H locs → W p l e { frames := 7, cells := 1, slots := 6, locals := 102 } s m ([.ref (ad 5)] : List Value).toArray below meth c H locs 0 0 (zyMQ below (va_Qv (fun u : zS => Post u.1 u.2.1 u.2.2.1 u.2.2.2) (fun u t => zPost G K A (wX ad K sv u.1 u.2.1 u.2.2.1 u.2.2.2) t) A) (zYC (fun E (u : zS) => PX E u.1 u.2.1 u.2.2.1 u.2.2.2) (fun u => wX ad K sv u.1 u.2.1 u.2.2.1 u.2.2.2) G K A) ([.ref (ad 5)] : List Value).toArray s 1 6 A) (F0 m 87 ls []) := by
  obtain ⟨hx, hb, hr, hml, hts, hown, hlocks, hA, hK, hT, hnt, hlt⟩ := id C
  intro x1 I J B D ls H locs hok hl hw
  unfold wc_ModelReader_checkJumps_87 at hok
  obtain ⟨z1, ez1⟩ : ∃ z : Int32, z = (x1 + 1) := ⟨_, rfl⟩
  have hok := hok z1 ez1
  refine lv_iinc (v := z1) hx hb zd_ModelReader_checkJumps_87 hl (k := 1) rfl ez1.symm (by decide) rfl (fun ls hl => ?_)
  have hl : lv_has ls 3 [(1, .int z1), (0, .ref (ad 5))] := hl
  refine lv_goto (tgt := 2) hx hb zd_ModelReader_checkJumps_90 (by decide) ?_
  exact kh2 z1 I J B D ls H locs hok (lv_sub hl [1, 0] rfl) hw
set_option maxHeartbeats 8000000 in
set_option maxRecDepth 100000 in
theorem wJ_ModelReader_checkJumps_71 {p : Program} {l : Launch} {e : Env} {s : State} {m : MethodId} {below : List Frame} {meth : Method} {c : Code} {A : Nat → Prop} (G : va_G) (K : Nat → ClassId) (ad : Nat → Nat) (sv : Value) (Post : (Nat → Int32) → (Nat → Int64) → (Nat → Nat → Int32) → (Nat → Nat → Int64) → Prop) (PX : String → (Nat → Int32) → (Nat → Int64) → (Nat → Nat → Int32) → (Nat → Nat → Int64) → Prop) (C : zCy p l s m ([.ref (ad 5)] : List Value).toArray meth c A G K prog_5_method_5_code none 3 "LassoFinder$ModelReader") (K2 : Int32 → (Nat → Int32) → (Nat → Int64) → (Nat → Nat → Int32) → (Nat → Nat → Int64) → Prop) (kh2 : ∀ (x1 : Int32) (I : Nat → Int32) (J : Nat → Int64) (B : Nat → Nat → Int32) (D : Nat → Nat → Int64) (ls : Array Slot) (H : Heap) (locs : List Loc), K2 x1 I J B D → lv_has ls 3 [(0, .ref (ad 5)), (1, .int x1)] → zW G A s.heap (wX ad K sv I J B D) H locs → W p l e { frames := 7, cells := 1, slots := 6, locals := 102 } s m ([.ref (ad 5)] : List Value).toArray below meth c H locs 0 0 (zyMQ below (va_Qv (fun u : zS => Post u.1 u.2.1 u.2.2.1 u.2.2.2) (fun u t => zPost G K A (wX ad K sv u.1 u.2.1 u.2.2.1 u.2.2.2) t) A) (zYC (fun E (u : zS) => PX E u.1 u.2.1 u.2.2.1 u.2.2.2) (fun u => wX ad K sv u.1 u.2.1 u.2.2.1 u.2.2.2) G K A) ([.ref (ad 5)] : List Value).toArray s 1 6 A) (F0 m 2 ls [])) : ∀ (x1 : Int32) (I : Nat → Int32) (J : Nat → Int64) (B : Nat → Nat → Int32) (D : Nat → Nat → Int64) (ls : Array Slot) (H : Heap) (locs : List Loc), wc_ModelReader_checkJumps_71  K2 Post PX x1 I J B D → lv_has ls 3 [(0, .ref (ad 5)), (1, .int x1)] → zW G A s.heap (wX ad K sv I J B D) H locs → W p l e { frames := 7, cells := 1, slots := 6, locals := 102 } s m ([.ref (ad 5)] : List Value).toArray below meth c H locs 0 0 (zyMQ below (va_Qv (fun u : zS => Post u.1 u.2.1 u.2.2.1 u.2.2.2) (fun u t => zPost G K A (wX ad K sv u.1 u.2.1 u.2.2.1 u.2.2.2) t) A) (zYC (fun E (u : zS) => PX E u.1 u.2.1 u.2.2.1 u.2.2.2) (fun u => wX ad K sv u.1 u.2.1 u.2.2.1 u.2.2.2) G K A) ([.ref (ad 5)] : List Value).toArray s 1 6 A) (F0 m 71 ls []) := by
  obtain ⟨hx, hb, hr, hml, hts, hown, hlocks, hA, hK, hT, hnt, hlt⟩ := id C
  intro x1 I J B D ls H locs hok hl hw
  unfold wc_ModelReader_checkJumps_71 at hok
  refine lv_aload_n hx hb zd_ModelReader_checkJumps_71 rfl (lv_at hl 0 rfl) ?_
  refine z_get (v := .ref (ad 1)) hx hb hts hown hK hw zZ4 5 wX_g5 0 (by decide) zn_422 rfl zd_ModelReader_checkJumps_72 ?_
  refine lv_aload_n hx hb zd_ModelReader_checkJumps_75 rfl (lv_at hl 0 rfl) ?_
  refine z_get (v := .ref (ad 6)) hx hb hts hown hK hw zZ4 5 wX_g5 4 (by decide) zn_424 rfl zd_ModelReader_checkJumps_76 ?_
  refine z_get (v := .ref (ad 41)) hx hb hts hown hK hw zZ10 6 wX_g6 9 (by decide) zn_451 rfl zd_ModelReader_checkJumps_79 ?_
  refine lv_iload_n hx hb zd_ModelReader_checkJumps_82 rfl (lv_at hl 1 rfl) ?_
  refine va_iald (f := (B 27)) hx hb hK hw.1 41 0 wX_a41 rfl hok.1 zd_ModelReader_checkJumps_83 ?_
  have hok := hok.2
  refine lv_topi (fun z2 ez2 => ?_)
  have hok := hok z2 ez2
  refine z_yV (q0 := 1) (wc := (wX ad K sv I J B D)) (wr := []) (w1 := fun (u : zS) => wX ad K sv u.1 u.2.1 u.2.2.1 u.2.2.2) (As := [.int z2]) (rest := []) ⟨hx, hb, hml, hown, hts⟩ (w_Text_refuseAt l hlt G K ad sv I J B D z2 _ _ H.size hok) zf_Text_refuseAt zn_380 ⟨Nat.le_of_ble_eq_true rfl, Nat.le_of_ble_eq_true rfl⟩ hK hT hw hA (List.range 65) [] wX_all rfl wX_nd (by decide) (fun i hi => by cases hi) wX_g1 rfl rfl hl.1 rfl (Nat.le_of_ble_eq_true rfl) zd_ModelReader_checkJumps_84 ⟨Nat.le_of_ble_eq_true rfl, Nat.le_of_ble_eq_true rfl⟩ (fun v st9 t9 L9 h0 hq hL => ?_) (fun E ce q9 u H locs hu hw hce hcv hcl => z_yout (u := u) hnt hlocks hce hcv hcl hw (List.range 65) wX_all wX_nd hu (Nat.le_of_ble_eq_true rfl) (Nat.le_of_ble_eq_true rfl))
  obtain ⟨⟨u, hv9, hok, hB9⟩, hF9⟩ := hq
  cases hv9
  have hw := z_back (wr := []) hw hA (List.range 65) [] wX_all rfl (by decide) (fun i hi => by cases hi) h0 hL hB9 hF9
  obtain ⟨I3, J3, B3, D3⟩ := u
  dsimp only at hok
  generalize t9.heap = H at hw ⊢
  generalize locs ++ L9 = locs at hw ⊢
  have hw : zW G A s.heap (wX ad K sv I3 J3 B3 D3) H locs := hw
  refine W.eq (g2 := F0 m 87 ls []) rfl ?_
  exact wJ_ModelReader_checkJumps_87 G K ad sv  Post PX C K2 kh2 x1 I3 J3 B3 D3 ls H locs hok (lv_sub hl [0, 1] rfl) hw
set_option maxHeartbeats 8000000 in
set_option maxRecDepth 100000 in
theorem wJ_ModelReader_checkJumps_53 {p : Program} {l : Launch} {e : Env} {s : State} {m : MethodId} {below : List Frame} {meth : Method} {c : Code} {A : Nat → Prop} (G : va_G) (K : Nat → ClassId) (ad : Nat → Nat) (sv : Value) (Post : (Nat → Int32) → (Nat → Int64) → (Nat → Nat → Int32) → (Nat → Nat → Int64) → Prop) (PX : String → (Nat → Int32) → (Nat → Int64) → (Nat → Nat → Int32) → (Nat → Nat → Int64) → Prop) (C : zCy p l s m ([.ref (ad 5)] : List Value).toArray meth c A G K prog_5_method_5_code none 3 "LassoFinder$ModelReader") (K2 : Int32 → (Nat → Int32) → (Nat → Int64) → (Nat → Nat → Int32) → (Nat → Nat → Int64) → Prop) (kh2 : ∀ (x1 : Int32) (I : Nat → Int32) (J : Nat → Int64) (B : Nat → Nat → Int32) (D : Nat → Nat → Int64) (ls : Array Slot) (H : Heap) (locs : List Loc), K2 x1 I J B D → lv_has ls 3 [(0, .ref (ad 5)), (1, .int x1)] → zW G A s.heap (wX ad K sv I J B D) H locs → W p l e { frames := 7, cells := 1, slots := 6, locals := 102 } s m ([.ref (ad 5)] : List Value).toArray below meth c H locs 0 0 (zyMQ below (va_Qv (fun u : zS => Post u.1 u.2.1 u.2.2.1 u.2.2.2) (fun u t => zPost G K A (wX ad K sv u.1 u.2.1 u.2.2.1 u.2.2.2) t) A) (zYC (fun E (u : zS) => PX E u.1 u.2.1 u.2.2.1 u.2.2.2) (fun u => wX ad K sv u.1 u.2.1 u.2.2.1 u.2.2.2) G K A) ([.ref (ad 5)] : List Value).toArray s 1 6 A) (F0 m 2 ls [])) : ∀ (x1 : Int32) (y0 : Int32) (I : Nat → Int32) (J : Nat → Int64) (B : Nat → Nat → Int32) (D : Nat → Nat → Int64) (ls : Array Slot) (H : Heap) (locs : List Loc), wc_ModelReader_checkJumps_53  K2 Post PX x1 y0 I J B D → lv_has ls 3 [(0, .ref (ad 5)), (1, .int x1)] → zW G A s.heap (wX ad K sv I J B D) H locs → W p l e { frames := 7, cells := 1, slots := 6, locals := 102 } s m ([.ref (ad 5)] : List Value).toArray below meth c H locs 0 0 (zyMQ below (va_Qv (fun u : zS => Post u.1 u.2.1 u.2.2.1 u.2.2.2) (fun u t => zPost G K A (wX ad K sv u.1 u.2.1 u.2.2.1 u.2.2.2) t) A) (zYC (fun E (u : zS) => PX E u.1 u.2.1 u.2.2.1 u.2.2.2) (fun u => wX ad K sv u.1 u.2.1 u.2.2.1 u.2.2.2) G K A) ([.ref (ad 5)] : List Value).toArray s 1 6 A) (F0 m 53 ls [.int y0]) := by
  obtain ⟨hx, hb, hr, hml, hts, hown, hlocks, hA, hK, hT, hnt, hlt⟩ := id C
  intro x1 y0 I J B D ls H locs hok hl hw
  unfold wc_ModelReader_checkJumps_53 at hok
  refine lv_istore_n hx hb zd_ModelReader_checkJumps_53 rfl hl (by decide) rfl (fun ls hl => ?_)
  have hl : lv_has ls 3 [(2, .int y0), (0, .ref (ad 5)), (1, .int x1)] := hl
  refine lv_iload_n hx hb zd_ModelReader_checkJumps_54 rfl (lv_at hl 0 rfl) ?_
  refine lv_if_ne (tgt := 71) hx hb zd_ModelReader_checkJumps_55 (by decide) (fun hc4 => ?_) (fun hc4 => ?_)
  · have hok := hok.1 hc4
    exact wJ_ModelReader_checkJumps_71 G K ad sv  Post PX C K2 kh2 x1 I J B D ls H locs hok (lv_sub hl [1, 2] rfl) hw
  · have hok := hok.2 hc4
    refine lv_aload_n hx hb zd_ModelReader_checkJumps_58 rfl (lv_at hl 1 rfl) ?_
    refine z_get (v := .ref (ad 6)) hx hb hts hown hK hw zZ4 5 wX_g5 4 (by decide) zn_424 rfl zd_ModelReader_checkJumps_59 ?_
    refine lv_iload_n hx hb zd_ModelReader_checkJumps_62 rfl (lv_at hl 2 rfl) ?_
    refine z_calli (w1 := fun (u : zS) => wX ad K sv u.1 u.2.1 u.2.2.1 u.2.2.2) (wr := []) (z_runV (q0 := 6) (wc := (wX ad K sv I J B D)) (As := [.int x1]) (rest := []) ⟨hx, hb, hml, hown, hts⟩ (w_Tree_settled l G K ad sv I J B D x1 _ H.size hok) zf_Tree_settled zn_378 ⟨Nat.le_of_ble_eq_true rfl, Nat.le_of_ble_eq_true rfl⟩ hK hw (List.range 65) wX_all wX_nd wX_g6 rfl rfl hl.1 rfl (Nat.le_of_ble_eq_true rfl) zd_ModelReader_checkJumps_63 ⟨Nat.le_of_ble_eq_true rfl, Nat.le_of_ble_eq_true rfl⟩) hw hA (List.range 65) [] wX_all rfl (by decide) (fun i hi => by cases hi) (fun r5 u H locs hok hw => ?_)
    obtain ⟨I5, J5, B5, D5⟩ := u
    dsimp only at hok
    have hw : zW G A s.heap (wX ad K sv I5 J5 B5 D5) H locs := hw
    refine lv_bipush (v := (-4)) hx hb zd_ModelReader_checkJumps_66 (by decide) ?_
    refine lv_icmp_ne (tgt := 87) hx hb zd_ModelReader_checkJumps_68 (by decide) (fun hc6 => ?_) (fun hc6 => ?_)
    · have hok := hok.1 hc6
      exact wJ_ModelReader_checkJumps_87 G K ad sv  Post PX C K2 kh2 x1 I5 J5 B5 D5 ls H locs hok (lv_sub hl [1, 2] rfl) hw
    · have hok := hok.2 hc6
      exact wJ_ModelReader_checkJumps_71 G K ad sv  Post PX C K2 kh2 x1 I5 J5 B5 D5 ls H locs hok (lv_sub hl [1, 2] rfl) hw
set_option maxHeartbeats 8000000 in
set_option maxRecDepth 100000 in
theorem wB_ModelReader_checkJumps_2 {p : Program} {l : Launch} {e : Env} {s : State} {m : MethodId} {below : List Frame} {meth : Method} {c : Code} {A : Nat → Prop} (G : va_G) (K : Nat → ClassId) (ad : Nat → Nat) (sv : Value) (Post : (Nat → Int32) → (Nat → Int64) → (Nat → Nat → Int32) → (Nat → Nat → Int64) → Prop) (PX : String → (Nat → Int32) → (Nat → Int64) → (Nat → Nat → Int32) → (Nat → Nat → Int64) → Prop) (C : zCy p l s m ([.ref (ad 5)] : List Value).toArray meth c A G K prog_5_method_5_code none 3 "LassoFinder$ModelReader") (K2 : Int32 → (Nat → Int32) → (Nat → Int64) → (Nat → Nat → Int32) → (Nat → Nat → Int64) → Prop) (kh2 : ∀ (x1 : Int32) (I : Nat → Int32) (J : Nat → Int64) (B : Nat → Nat → Int32) (D : Nat → Nat → Int64) (ls : Array Slot) (H : Heap) (locs : List Loc), K2 x1 I J B D → lv_has ls 3 [(0, .ref (ad 5)), (1, .int x1)] → zW G A s.heap (wX ad K sv I J B D) H locs → W p l e { frames := 7, cells := 1, slots := 6, locals := 102 } s m ([.ref (ad 5)] : List Value).toArray below meth c H locs 0 0 (zyMQ below (va_Qv (fun u : zS => Post u.1 u.2.1 u.2.2.1 u.2.2.2) (fun u t => zPost G K A (wX ad K sv u.1 u.2.1 u.2.2.1 u.2.2.2) t) A) (zYC (fun E (u : zS) => PX E u.1 u.2.1 u.2.2.1 u.2.2.2) (fun u => wX ad K sv u.1 u.2.1 u.2.2.1 u.2.2.2) G K A) ([.ref (ad 5)] : List Value).toArray s 1 6 A) (F0 m 2 ls [])) : ∀ (x1 : Int32) (I : Nat → Int32) (J : Nat → Int64) (B : Nat → Nat → Int32) (D : Nat → Nat → Int64) (ls : Array Slot) (H : Heap) (locs : List Loc), wb_ModelReader_checkJumps_2  K2 Post PX x1 I J B D → lv_has ls 3 [(0, .ref (ad 5)), (1, .int x1)] → zW G A s.heap (wX ad K sv I J B D) H locs → W p l e { frames := 7, cells := 1, slots := 6, locals := 102 } s m ([.ref (ad 5)] : List Value).toArray below meth c H locs 0 0 (zyMQ below (va_Qv (fun u : zS => Post u.1 u.2.1 u.2.2.1 u.2.2.2) (fun u t => zPost G K A (wX ad K sv u.1 u.2.1 u.2.2.1 u.2.2.2) t) A) (zYC (fun E (u : zS) => PX E u.1 u.2.1 u.2.2.1 u.2.2.2) (fun u => wX ad K sv u.1 u.2.1 u.2.2.1 u.2.2.2) G K A) ([.ref (ad 5)] : List Value).toArray s 1 6 A) (F0 m 2 ls []) := by
  obtain ⟨hx, hb, hr, hml, hts, hown, hlocks, hA, hK, hT, hnt, hlt⟩ := id C
  intro x1 I J B D ls H locs hok hl hw
  unfold wb_ModelReader_checkJumps_2 at hok
  refine lv_iload_n hx hb zd_ModelReader_checkJumps_2 rfl (lv_at hl 1 rfl) ?_
  refine lv_aload_n hx hb zd_ModelReader_checkJumps_3 rfl (lv_at hl 0 rfl) ?_
  refine z_get (v := .ref (ad 6)) hx hb hts hown hK hw zZ4 5 wX_g5 4 (by decide) zn_424 rfl zd_ModelReader_checkJumps_4 ?_
  refine z_get (v := .int (I 16)) hx hb hts hown hK hw zZ10 6 wX_g6 11 (by decide) zn_428 rfl zd_ModelReader_checkJumps_7 ?_
  refine lv_icmp_ge (tgt := 93) hx hb zd_ModelReader_checkJumps_10 (by decide) (fun hc7 => ?_) (fun hc7 => ?_)
  · have hok := hok.1 hc7
    exact zy_ret (z_vret (u := (I, J, B, D)) hx hb hr hlocks hw (List.range 65) wX_all wX_nd hok (Nat.le_of_ble_eq_true rfl) (Nat.le_of_ble_eq_true rfl) zd_ModelReader_checkJumps_93)
  · have hok := hok.2 hc7
    refine lv_aload_n hx hb zd_ModelReader_checkJumps_13 rfl (lv_at hl 0 rfl) ?_
    refine z_get (v := .ref (ad 6)) hx hb hts hown hK hw zZ4 5 wX_g5 4 (by decide) zn_424 rfl zd_ModelReader_checkJumps_14 ?_
    refine z_get (v := .ref (ad 32)) hx hb hts hown hK hw zZ10 6 wX_g6 0 (by decide) zn_447 rfl zd_ModelReader_checkJumps_17 ?_
    refine lv_iload_n hx hb zd_ModelReader_checkJumps_20 rfl (lv_at hl 1 rfl) ?_
    refine va_iald (f := (B 18)) hx hb hK hw.1 32 0 wX_a32 rfl hok.1 zd_ModelReader_checkJumps_21 ?_
    have hok := hok.2
    refine lv_topi (fun z8 ez8 => ?_)
    have hok := hok z8 ez8
    refine lv_iconst (v := 5) hx hb zd_ModelReader_checkJumps_22 (by decide) ?_
    refine lv_icmp_ne (tgt := 87) hx hb zd_ModelReader_checkJumps_23 (by decide) (fun hc9 => ?_) (fun hc9 => ?_)
    · have hok := hok.1 hc9
      exact wJ_ModelReader_checkJumps_87 G K ad sv  Post PX C K2 kh2 x1 I J B D ls H locs hok (lv_sub hl [0, 1] rfl) hw
    · have hok := hok.2 hc9
      refine lv_aload_n hx hb zd_ModelReader_checkJumps_26 rfl (lv_at hl 0 rfl) ?_
      refine z_get (v := .ref (ad 6)) hx hb hts hown hK hw zZ4 5 wX_g5 4 (by decide) zn_424 rfl zd_ModelReader_checkJumps_27 ?_
      refine z_get (v := .ref (ad 42)) hx hb hts hown hK hw zZ10 6 wX_g6 10 (by decide) zn_427 rfl zd_ModelReader_checkJumps_30 ?_
      refine lv_aload_n hx hb zd_ModelReader_checkJumps_33 rfl (lv_at hl 0 rfl) ?_
      refine z_get (v := .ref (ad 6)) hx hb hts hown hK hw zZ4 5 wX_g5 4 (by decide) zn_424 rfl zd_ModelReader_checkJumps_34 ?_
      refine z_get (v := .ref (ad 40)) hx hb hts hown hK hw zZ10 6 wX_g6 8 (by decide) zn_434 rfl zd_ModelReader_checkJumps_37 ?_
      refine lv_iload_n hx hb zd_ModelReader_checkJumps_40 rfl (lv_at hl 1 rfl) ?_
      refine va_iald (f := (B 26)) hx hb hK hw.1 40 0 wX_a40 rfl hok.1 zd_ModelReader_checkJumps_41 ?_
      have hok := hok.2
      refine lv_topi (fun z10 ez10 => ?_)
      have hok := hok z10 ez10
      refine va_iald (f := (B 28)) hx hb hK hw.1 42 0 wX_a42 rfl hok.1 zd_ModelReader_checkJumps_42 ?_
      have hok := hok.2
      refine lv_topi (fun z11 ez11 => ?_)
      have hok := hok z11 ez11
      refine lv_bipush (v := (-3)) hx hb zd_ModelReader_checkJumps_43 (by decide) ?_
      refine lv_icmp_ne (tgt := 52) hx hb zd_ModelReader_checkJumps_45 (by decide) (fun hc12 => ?_) (fun hc12 => ?_)
      · have hok := hok.1 hc12
        refine lv_iconst (v := 0) hx hb zd_ModelReader_checkJumps_52 (by decide) ?_
        exact wJ_ModelReader_checkJumps_53 G K ad sv  Post PX C K2 kh2 x1 0 I J B D ls H locs hok (lv_sub hl [0, 1] rfl) hw
      · have hok := hok.2 hc12
        refine lv_iconst (v := 1) hx hb zd_ModelReader_checkJumps_48 (by decide) ?_
        refine lv_goto (tgt := 53) hx hb zd_ModelReader_checkJumps_49 (by decide) ?_
        exact wJ_ModelReader_checkJumps_53 G K ad sv  Post PX C K2 kh2 x1 1 I J B D ls H locs hok (lv_sub hl [0, 1] rfl) hw
theorem wL_ModelReader_checkJumps_2 {p : Program} {l : Launch} {e : Env} {s : State} {m : MethodId} {below : List Frame} {meth : Method} {c : Code} {A : Nat → Prop} (G : va_G) (K : Nat → ClassId) (ad : Nat → Nat) (sv : Value) (Post : (Nat → Int32) → (Nat → Int64) → (Nat → Nat → Int32) → (Nat → Nat → Int64) → Prop) (PX : String → (Nat → Int32) → (Nat → Int64) → (Nat → Nat → Int32) → (Nat → Nat → Int64) → Prop) (C : zCy p l s m ([.ref (ad 5)] : List Value).toArray meth c A G K prog_5_method_5_code none 3 "LassoFinder$ModelReader") : ∀ (n : Nat) (x1 : Int32) (I : Nat → Int32) (J : Nat → Int64) (B : Nat → Nat → Int32) (D : Nat → Nat → Int64) (ls : Array Slot) (H : Heap) (locs : List Loc), wl_ModelReader_checkJumps_2  Post PX n x1 I J B D → lv_has ls 3 [(0, .ref (ad 5)), (1, .int x1)] → zW G A s.heap (wX ad K sv I J B D) H locs → W p l e { frames := 7, cells := 1, slots := 6, locals := 102 } s m ([.ref (ad 5)] : List Value).toArray below meth c H locs 0 0 (zyMQ below (va_Qv (fun u : zS => Post u.1 u.2.1 u.2.2.1 u.2.2.2) (fun u t => zPost G K A (wX ad K sv u.1 u.2.1 u.2.2.1 u.2.2.2) t) A) (zYC (fun E (u : zS) => PX E u.1 u.2.1 u.2.2.1 u.2.2.2) (fun u => wX ad K sv u.1 u.2.1 u.2.2.1 u.2.2.2) G K A) ([.ref (ad 5)] : List Value).toArray s 1 6 A) (F0 m 2 ls []) := by
  intro n
  induction n with
  | zero => intro x1 I J B D ls H locs hok; exact hok.elim
  | succ n ih => exact wB_ModelReader_checkJumps_2 G K ad sv  Post PX C (wl_ModelReader_checkJumps_2  Post PX n) ih
set_option maxHeartbeats 8000000 in
set_option maxRecDepth 100000 in
theorem w_ModelReader_checkJumps (l : Launch) (hlt : l.stackTraces = false) (G : va_G) (K : Nat → ClassId) (ad : Nat → Nat) (sv : Value) (I : Nat → Int32) (J : Nat → Int64) (B : Nat → Nat → Int32) (D : Nat → Nat → Int64) (Post : (Nat → Int32) → (Nat → Int64) → (Nat → Nat → Int32) → (Nat → Nat → Int64) → Prop) (PX : String → (Nat → Int32) → (Nat → Int64) → (Nat → Nat → Int32) → (Nat → Nat → Int64) → Prop) (sz : Nat) (hok : wp_ModelReader_checkJumps I J B D  Post PX) : zyMet l zy_ModelReader_checkJumps (Cond.code zy_ModelReader_checkJumps prog_5_method_5_code 3 none :: zTB) { frames := 7, cells := 1, slots := 6, locals := 102 } (va_Pc [.ref (ad 5)] (zPreY G K (wX ad K sv I J B D) sz)) (va_Qv (fun u : zS => Post u.1 u.2.1 u.2.2.1 u.2.2.2) (fun u t => zPost G K (va_A (wX ad K sv I J B D) sz) (wX ad K sv u.1 u.2.1 u.2.2.1 u.2.2.2) t) (va_A (wX ad K sv I J B D) sz)) (zYC (fun E (u : zS) => PX E u.1 u.2.1 u.2.2.1 u.2.2.2) (fun u => wX ad K sv u.1 u.2.1 u.2.2.1 u.2.2.2) G K (va_A (wX ad K sv I J B D) sz)) 1 6 (va_A (wX ad K sv I J B D) sz) := by
  refine zMetY (y := zy_ModelReader_checkJumps) (av := [.ref (ad 5)]) (maxL := 3) (cc := prog_5_method_5_code) (ret := none) (W0 := (wX ad K sv I J B D)) (sz := sz) (G := G) (K := K) (wt := zTB) (mc := 1) (ms := 6) (Qf := fun A => va_Qv (fun u : zS => Post u.1 u.2.1 u.2.2.1 u.2.2.2) (fun u t => zPost G K A (wX ad K sv u.1 u.2.1 u.2.2.1 u.2.2.2) t) A) (Xf := fun A => (zYC (fun E (u : zS) => PX E u.1 u.2.1 u.2.2.1 u.2.2.2) (fun u => wX ad K sv u.1 u.2.1 u.2.2.1 u.2.2.2) G K A)) (by decide) (Nat.le_of_ble_eq_true rfl) ?_
  intro p e s m below meth c ls A hx hb hr hml hts hown hlocks hin hA hK H locs hw hsz hl hT hnt
  clear hsz
  have hown : s.vm.findClass "LassoFinder$ModelReader" = some m.cls := hown
  have C : zCy p l s m ([.ref (ad 5)] : List Value).toArray meth c A G K prog_5_method_5_code none 3 "LassoFinder$ModelReader" := ⟨hx, hb, hr, hml, hts, hown, hlocks, hA, hK, hT, hnt, hlt⟩
  have hl : lv_has ls 3 [(0, .ref (ad 5))] := hl
  have hw : zW G A s.heap (wX ad K sv I J B D) H locs := hw
  unfold wp_ModelReader_checkJumps at hok
  refine lv_iconst (v := 0) hx hb zd_ModelReader_checkJumps_0 (by decide) ?_
  refine lv_istore_n hx hb zd_ModelReader_checkJumps_1 rfl hl (by decide) rfl (fun ls hl => ?_)
  have hl : lv_has ls 3 [(1, .int 0), (0, .ref (ad 5))] := hl
  obtain ⟨n9, hok⟩ := hok
  exact wL_ModelReader_checkJumps_2 G K ad sv  Post PX C n9 0 I J B D ls H locs hok (lv_sub hl [1, 0] rfl) hw
def wc_Tree_pointAt_17 (a0 : Int32) (Post : Int32 → (Nat → Int32) → (Nat → Int64) → (Nat → Nat → Int32) → (Nat → Nat → Int64) → Prop) (y0 : Int32) (I : Nat → Int32) (J : Nat → Int64) (B : Nat → Nat → Int32) (D : Nat → Nat → Int64) : Prop :=
  Post y0 I J B D
def wp_Tree_pointAt (I : Nat → Int32) (J : Nat → Int64) (B : Nat → Nat → Int32) (D : Nat → Nat → Int64) (a0 : Int32) (Post : Int32 → (Nat → Int32) → (Nat → Int64) → (Nat → Nat → Int32) → (Nat → Nat → Int64) → Prop) : Prop :=
  (((0 : Int32) ≤ a0 → vp_in a0 240 ∧ ∀ z2 : Int32, z2 = ((B 25) a0.toNatClampNeg) → wc_Tree_pointAt_17 a0 Post z2 I J B D) ∧ (¬ (0 : Int32) ≤ a0 → wc_Tree_pointAt_17 a0 Post (I 17) I J B D))
set_option maxHeartbeats 8000000 in
set_option maxRecDepth 100000 in
theorem wJ_Tree_pointAt_17 {p : Program} {l : Launch} {e : Env} {s : State} {m : MethodId} {below : List Frame} {meth : Method} {c : Code} {A : Nat → Prop} (G : va_G) (K : Nat → ClassId) (ad : Nat → Nat) (sv : Value) (a0 : Int32) (Post : Int32 → (Nat → Int32) → (Nat → Int64) → (Nat → Nat → Int32) → (Nat → Nat → Int64) → Prop) (C : zCx p s m ([.ref (ad 6), .int a0] : List Value).toArray meth c A G K prog_11_method_8_code (some .int) 2 "LassoFinder$Tree") : ∀ (y0 : Int32) (I : Nat → Int32) (J : Nat → Int64) (B : Nat → Nat → Int32) (D : Nat → Nat → Int64) (ls : Array Slot) (H : Heap) (locs : List Loc), wc_Tree_pointAt_17 a0 Post y0 I J B D → lv_has ls 2 [] → zW G A s.heap (wX ad K sv I J B D) H locs → W p l e { frames := 0, cells := 0, slots := 0, locals := 0 } s m ([.ref (ad 6), .int a0] : List Value).toArray below meth c H locs 0 0 (MQ below (va_Qi (fun (r : Int32) (u : zS) => Post r u.1 u.2.1 u.2.2.1 u.2.2.2) (fun u t => zPost G K A (wX ad K sv u.1 u.2.1 u.2.2.1 u.2.2.2) t) A) ([.ref (ad 6), .int a0] : List Value).toArray s 0 0 A) (F0 m 17 ls [.int y0]) := by
  obtain ⟨hx, hb, hr, hml, hts, hown, hlocks, hA, hK⟩ := id C
  intro y0 I J B D ls H locs hok hl hw
  unfold wc_Tree_pointAt_17 at hok
  exact (z_iret (u := (I, J, B, D)) hx hb hr hlocks rfl hw (List.range 65) wX_all wX_nd hok (Nat.le_of_ble_eq_true rfl) (Nat.le_of_ble_eq_true rfl) zd_Tree_pointAt_17)
set_option maxHeartbeats 8000000 in
set_option maxRecDepth 100000 in
theorem w_Tree_pointAt (l : Launch) (G : va_G) (K : Nat → ClassId) (ad : Nat → Nat) (sv : Value) (I : Nat → Int32) (J : Nat → Int64) (B : Nat → Nat → Int32) (D : Nat → Nat → Int64) (a0 : Int32) (Post : Int32 → (Nat → Int32) → (Nat → Int64) → (Nat → Nat → Int32) → (Nat → Nat → Int64) → Prop) (sz : Nat) (hok : wp_Tree_pointAt I J B D a0 Post) : Met l zy_Tree_pointAt (Cond.code zy_Tree_pointAt prog_11_method_8_code 2 (some .int) :: zTB) { frames := 0, cells := 0, slots := 0, locals := 0 } (va_Pc [.ref (ad 6), .int a0] (zPre G K (wX ad K sv I J B D) sz)) (va_Qi (fun (r : Int32) (u : zS) => Post r u.1 u.2.1 u.2.2.1 u.2.2.2) (fun u t => zPost G K (va_A (wX ad K sv I J B D) sz) (wX ad K sv u.1 u.2.1 u.2.2.1 u.2.2.2) t) (va_A (wX ad K sv I J B D) sz)) 0 0 (va_A (wX ad K sv I J B D) sz) := by
  refine zMet (y := zy_Tree_pointAt) (av := [.ref (ad 6), .int a0]) (maxL := 2) (cc := prog_11_method_8_code) (ret := (some .int)) (W0 := (wX ad K sv I J B D)) (sz := sz) (G := G) (K := K) (wt := zTB) (mc := 0) (ms := 0) (Qf := fun A => va_Qi (fun (r : Int32) (u : zS) => Post r u.1 u.2.1 u.2.2.1 u.2.2.2) (fun u t => zPost G K A (wX ad K sv u.1 u.2.1 u.2.2.1 u.2.2.2) t) A) (by decide) (Nat.le_of_ble_eq_true rfl) ?_
  intro p e s m below meth c ls A hx hb hr hml hts hown hlocks hin hA hK H locs hw hsz hl
  clear hsz
  have hown : s.vm.findClass "LassoFinder$Tree" = some m.cls := hown
  have C : zCx p s m ([.ref (ad 6), .int a0] : List Value).toArray meth c A G K prog_11_method_8_code (some .int) 2 "LassoFinder$Tree" := ⟨hx, hb, hr, hml, hts, hown, hlocks, hA, hK⟩
  have hl : lv_has ls 2 [(0, .ref (ad 6)), (1, .int a0)] := hl
  have hw : zW G A s.heap (wX ad K sv I J B D) H locs := hw
  unfold wp_Tree_pointAt at hok
  refine lv_iload_n hx hb zd_Tree_pointAt_0 rfl (lv_at hl 1 rfl) ?_
  refine lv_if_ge (tgt := 11) hx hb zd_Tree_pointAt_1 (by decide) (fun hc1 => ?_) (fun hc1 => ?_)
  · have hok := hok.1 hc1
    refine lv_aload_n hx hb zd_Tree_pointAt_11 rfl (lv_at hl 0 rfl) ?_
    refine z_get (v := .ref (ad 39)) hx hb hts hown hK hw zZ10 6 wX_g6 7 (by decide) zn_262 rfl zd_Tree_pointAt_12 ?_
    refine lv_iload_n hx hb zd_Tree_pointAt_15 rfl (lv_at hl 1 rfl) ?_
    refine va_iald (f := (B 25)) hx hb hK hw.1 39 0 wX_a39 rfl hok.1 zd_Tree_pointAt_16 ?_
    have hok := hok.2
    refine lv_topi (fun z2 ez2 => ?_)
    have hok := hok z2 ez2
    exact wJ_Tree_pointAt_17 G K ad sv a0 Post C z2 I J B D ls H locs hok (lv_sub hl [] rfl) hw
  · have hok := hok.2 hc1
    refine lv_aload_n hx hb zd_Tree_pointAt_4 rfl (lv_at hl 0 rfl) ?_
    refine z_get (v := .int (I 17)) hx hb hts hown hK hw zZ10 6 wX_g6 12 (by decide) zn_426 rfl zd_Tree_pointAt_5 ?_
    refine lv_goto (tgt := 17) hx hb zd_Tree_pointAt_8 (by decide) ?_
    exact wJ_Tree_pointAt_17 G K ad sv a0 Post C (I 17) I J B D ls H locs hok (lv_sub hl [] rfl) hw
def wc_Program_takeWay_ad6_71 (a1 : Int32) (Post : (Nat → Int32) → (Nat → Int64) → (Nat → Nat → Int32) → (Nat → Nat → Int64) → Prop) (y0 : Int32) (y1 : Int32) (I : Nat → Int32) (J : Nat → Int64) (B : Nat → Nat → Int32) (D : Nat → Nat → Int64) : Prop :=
  vp_in y1 48 ∧ Post I J (va_up B 12 (upd (B 12) y1.toNatClampNeg (vp_nar .boolean y0))) D
def wc_Program_takeWay_ad6_70 (a1 : Int32) (Post : (Nat → Int32) → (Nat → Int64) → (Nat → Nat → Int32) → (Nat → Nat → Int64) → Prop) (y0 : Int32) (I : Nat → Int32) (J : Nat → Int64) (B : Nat → Nat → Int32) (D : Nat → Nat → Int64) : Prop :=
  wc_Program_takeWay_ad6_71 a1 Post 0 y0 I J B D
def wp_Program_takeWay_ad6 (I : Nat → Int32) (J : Nat → Int64) (B : Nat → Nat → Int32) (D : Nat → Nat → Int64) (a1 : Int32) (Post : (Nat → Int32) → (Nat → Int64) → (Nat → Nat → Int32) → (Nat → Nat → Int64) → Prop) : Prop :=
  vp_in a1 240 ∧ ∀ z1 : Int32, z1 = ((B 26) a1.toNatClampNeg) → wp_Tree_behind I J B D a1 (fun r2 I2 J2 B2 D2 => wp_Tree_settled I2 J2 B2 D2 r2 (fun r3 I3 J3 B3 D3 => vp_in a1 240 ∧ ∀ z4 : Int32, z4 = ((B3 21) a1.toNatClampNeg) → wp_Tree_pointAt I3 J3 B3 D3 r3 (fun r5 I5 J5 B5 D5 => vp_in z1 48 ∧ ((z4 = (-1) → wc_Program_takeWay_ad6_70 a1 Post z1 I5 J5 (va_up B5 11 (upd (B5 11) z1.toNatClampNeg r5)) D5) ∧ (¬ z4 = (-1) → ((r3 < 0 → wc_Program_takeWay_ad6_70 a1 Post z1 I5 J5 (va_up B5 11 (upd (B5 11) z1.toNatClampNeg r5)) D5) ∧ (¬ r3 < 0 → vp_in r3 240 ∧ ∀ z8 : Int32, z8 = ((B5 21) r3.toNatClampNeg) → ((¬ z8 = z4 → wc_Program_takeWay_ad6_70 a1 Post z1 I5 J5 (va_up B5 11 (upd (B5 11) z1.toNatClampNeg r5)) D5) ∧ (z8 = z4 → wc_Program_takeWay_ad6_71 a1 Post 1 z1 I5 J5 (va_up B5 11 (upd (B5 11) z1.toNatClampNeg r5)) D5)))))))))
set_option maxHeartbeats 8000000 in
set_option maxRecDepth 100000 in
theorem wJ_Program_takeWay_ad6_71 {p : Program} {l : Launch} {e : Env} {s : State} {m : MethodId} {below : List Frame} {meth : Method} {c : Code} {A : Nat → Prop} (G : va_G) (K : Nat → ClassId) (ad : Nat → Nat) (sv : Value) (a1 : Int32) (Post : (Nat → Int32) → (Nat → Int64) → (Nat → Nat → Int32) → (Nat → Nat → Int64) → Prop) (C : zCx p s m ([.ref (ad 3), .ref (ad 6), .int a1] : List Value).toArray meth c A G K prog_7_method_6_code none 6 "LassoFinder$Program") : ∀ (y0 : Int32) (y1 : Int32) (I : Nat → Int32) (J : Nat → Int64) (B : Nat → Nat → Int32) (D : Nat → Nat → Int64) (ls : Array Slot) (H : Heap) (locs : List Loc), wc_Program_takeWay_ad6_71 a1 Post y0 y1 I J B D → lv_has ls 6 [] → zW G A s.heap (wX ad K sv I J B D) H locs → W p l e { frames := 2, cells := 0, slots := 0, locals := 46 } s m ([.ref (ad 3), .ref (ad 6), .int a1] : List Value).toArray below meth c H locs 0 0 (MQ below (va_Qv (fun u : zS => Post u.1 u.2.1 u.2.2.1 u.2.2.2) (fun u t => zPost G K A (wX ad K sv u.1 u.2.1 u.2.2.1 u.2.2.2) t) A) ([.ref (ad 3), .ref (ad 6), .int a1] : List Value).toArray s 0 0 A) (F0 m 71 ls [.int y0, .int y1, .ref (ad 24)]) := by
  obtain ⟨hx, hb, hr, hml, hts, hown, hlocks, hA, hK⟩ := id C
  intro y0 y1 I J B D ls H locs hok hl hw
  unfold wc_Program_takeWay_ad6_71 at hok
  refine va_zast (f := (B 12)) hx hb hK hw.1 hw.2.1 hw.2.2 24 2 wX_a24 rfl hok.1 zd_Program_takeWay_71 (fun H locs w91 w92 w93 => ?_)
  have hok := hok.2
  have hw := wX_t24 ⟨w91, w92, w93⟩
  exact (z_vret (u := (I, J, (va_up B 12 (upd (B 12) y1.toNatClampNeg (vp_nar .boolean y0))), D)) hx hb hr hlocks hw (List.range 65) wX_all wX_nd hok (Nat.le_of_ble_eq_true rfl) (Nat.le_of_ble_eq_true rfl) zd_Program_takeWay_72)
set_option maxHeartbeats 8000000 in
set_option maxRecDepth 100000 in
theorem wJ_Program_takeWay_ad6_70 {p : Program} {l : Launch} {e : Env} {s : State} {m : MethodId} {below : List Frame} {meth : Method} {c : Code} {A : Nat → Prop} (G : va_G) (K : Nat → ClassId) (ad : Nat → Nat) (sv : Value) (a1 : Int32) (Post : (Nat → Int32) → (Nat → Int64) → (Nat → Nat → Int32) → (Nat → Nat → Int64) → Prop) (C : zCx p s m ([.ref (ad 3), .ref (ad 6), .int a1] : List Value).toArray meth c A G K prog_7_method_6_code none 6 "LassoFinder$Program") : ∀ (y0 : Int32) (I : Nat → Int32) (J : Nat → Int64) (B : Nat → Nat → Int32) (D : Nat → Nat → Int64) (ls : Array Slot) (H : Heap) (locs : List Loc), wc_Program_takeWay_ad6_70 a1 Post y0 I J B D → lv_has ls 6 [] → zW G A s.heap (wX ad K sv I J B D) H locs → W p l e { frames := 2, cells := 0, slots := 0, locals := 46 } s m ([.ref (ad 3), .ref (ad 6), .int a1] : List Value).toArray below meth c H locs 0 0 (MQ below (va_Qv (fun u : zS => Post u.1 u.2.1 u.2.2.1 u.2.2.2) (fun u t => zPost G K A (wX ad K sv u.1 u.2.1 u.2.2.1 u.2.2.2) t) A) ([.ref (ad 3), .ref (ad 6), .int a1] : List Value).toArray s 0 0 A) (F0 m 70 ls [.int y0, .ref (ad 24)]) := by
  obtain ⟨hx, hb, hr, hml, hts, hown, hlocks, hA, hK⟩ := id C
  intro y0 I J B D ls H locs hok hl hw
  unfold wc_Program_takeWay_ad6_70 at hok
  refine lv_iconst (v := 0) hx hb zd_Program_takeWay_70 (by decide) ?_
  exact wJ_Program_takeWay_ad6_71 G K ad sv a1 Post C 0 y0 I J B D ls H locs hok (lv_sub hl [] rfl) hw
set_option maxHeartbeats 8000000 in
set_option maxRecDepth 100000 in
theorem w_Program_takeWay_ad6 (l : Launch) (G : va_G) (K : Nat → ClassId) (ad : Nat → Nat) (sv : Value) (I : Nat → Int32) (J : Nat → Int64) (B : Nat → Nat → Int32) (D : Nat → Nat → Int64) (a1 : Int32) (Post : (Nat → Int32) → (Nat → Int64) → (Nat → Nat → Int32) → (Nat → Nat → Int64) → Prop) (sz : Nat) (hok : wp_Program_takeWay_ad6 I J B D a1 Post) : Met l zy_Program_takeWay (Cond.code zy_Program_takeWay prog_7_method_6_code 6 none :: zTB) { frames := 2, cells := 0, slots := 0, locals := 46 } (va_Pc [.ref (ad 3), .ref (ad 6), .int a1] (zPre G K (wX ad K sv I J B D) sz)) (va_Qv (fun u : zS => Post u.1 u.2.1 u.2.2.1 u.2.2.2) (fun u t => zPost G K (va_A (wX ad K sv I J B D) sz) (wX ad K sv u.1 u.2.1 u.2.2.1 u.2.2.2) t) (va_A (wX ad K sv I J B D) sz)) 0 0 (va_A (wX ad K sv I J B D) sz) := by
  refine zMet (y := zy_Program_takeWay) (av := [.ref (ad 3), .ref (ad 6), .int a1]) (maxL := 6) (cc := prog_7_method_6_code) (ret := none) (W0 := (wX ad K sv I J B D)) (sz := sz) (G := G) (K := K) (wt := zTB) (mc := 0) (ms := 0) (Qf := fun A => va_Qv (fun u : zS => Post u.1 u.2.1 u.2.2.1 u.2.2.2) (fun u t => zPost G K A (wX ad K sv u.1 u.2.1 u.2.2.1 u.2.2.2) t) A) (by decide) (Nat.le_of_ble_eq_true rfl) ?_
  intro p e s m below meth c ls A hx hb hr hml hts hown hlocks hin hA hK H locs hw hsz hl
  clear hsz
  have hown : s.vm.findClass "LassoFinder$Program" = some m.cls := hown
  have C : zCx p s m ([.ref (ad 3), .ref (ad 6), .int a1] : List Value).toArray meth c A G K prog_7_method_6_code none 6 "LassoFinder$Program" := ⟨hx, hb, hr, hml, hts, hown, hlocks, hA, hK⟩
  have hl : lv_has ls 6 [(0, .ref (ad 3)), (1, .ref (ad 6)), (2, .int a1)] := hl
  have hw : zW G A s.heap (wX ad K sv I J B D) H locs := hw
  unfold wp_Program_takeWay_ad6 at hok
  refine lv_aload_n hx hb zd_Program_takeWay_0 rfl (lv_at hl 1 rfl) ?_
  refine z_get (v := .ref (ad 40)) hx hb hts hown hK hw zZ10 6 wX_g6 8 (by decide) zn_455 rfl zd_Program_takeWay_1 ?_
  refine lv_iload_n hx hb zd_Program_takeWay_4 rfl (lv_at hl 2 rfl) ?_
  refine va_iald (f := (B 26)) hx hb hK hw.1 40 0 wX_a40 rfl hok.1 zd_Program_takeWay_5 ?_
  have hok := hok.2
  refine lv_topi (fun z1 ez1 => ?_)
  have hok := hok z1 ez1
  refine lv_istore_n hx hb zd_Program_takeWay_6 rfl hl (by decide) rfl (fun ls hl => ?_)
  have hl : lv_has ls 6 [(3, .int z1), (0, .ref (ad 3)), (1, .ref (ad 6)), (2, .int a1)] := hl
  refine lv_aload_n hx hb zd_Program_takeWay_7 rfl (lv_at hl 2 rfl) ?_
  refine lv_aload_n hx hb zd_Program_takeWay_8 rfl (lv_at hl 2 rfl) ?_
  refine lv_iload_n hx hb zd_Program_takeWay_9 rfl (lv_at hl 3 rfl) ?_
  refine z_calli (w1 := fun (u : zS) => wX ad K sv u.1 u.2.1 u.2.2.1 u.2.2.2) (wr := []) (z_runV (q0 := 6) (wc := (wX ad K sv I J B D)) (As := [.int a1]) (rest := [.ref (ad 6)]) ⟨hx, hb, hml, hown, hts⟩ (w_Tree_behind l G K ad sv I J B D a1 _ H.size hok) zf_Tree_behind zn_383 ⟨Nat.le_of_ble_eq_true rfl, Nat.le_of_ble_eq_true rfl⟩ hK hw (List.range 65) wX_all wX_nd wX_g6 rfl rfl hl.1 rfl (Nat.le_of_ble_eq_true rfl) zd_Program_takeWay_10 ⟨Nat.le_of_ble_eq_true rfl, Nat.le_of_ble_eq_true rfl⟩) hw hA (List.range 65) [] wX_all rfl (by decide) (fun i hi => by cases hi) (fun r2 u H locs hok hw => ?_)
  obtain ⟨I2, J2, B2, D2⟩ := u
  dsimp only at hok
  have hw : zW G A s.heap (wX ad K sv I2 J2 B2 D2) H locs := hw
  refine z_calli (w1 := fun (u : zS) => wX ad K sv u.1 u.2.1 u.2.2.1 u.2.2.2) (wr := []) (z_runV (q0 := 6) (wc := (wX ad K sv I2 J2 B2 D2)) (As := [.int r2]) (rest := []) ⟨hx, hb, hml, hown, hts⟩ (w_Tree_settled l G K ad sv I2 J2 B2 D2 r2 _ H.size hok) zf_Tree_settled zn_384 ⟨Nat.le_of_ble_eq_true rfl, Nat.le_of_ble_eq_true rfl⟩ hK hw (List.range 65) wX_all wX_nd wX_g6 rfl rfl hl.1 rfl (Nat.le_of_ble_eq_true rfl) zd_Program_takeWay_13 ⟨Nat.le_of_ble_eq_true rfl, Nat.le_of_ble_eq_true rfl⟩) hw hA (List.range 65) [] wX_all rfl (by decide) (fun i hi => by cases hi) (fun r3 u H locs hok hw => ?_)
  obtain ⟨I3, J3, B3, D3⟩ := u
  dsimp only at hok
  have hw : zW G A s.heap (wX ad K sv I3 J3 B3 D3) H locs := hw
  refine lv_istore hx hb zd_Program_takeWay_16 hl (by decide) rfl (fun ls hl => ?_)
  have hl : lv_has ls 6 [(4, .int r3), (3, .int z1), (0, .ref (ad 3)), (1, .ref (ad 6)), (2, .int a1)] := hl
  refine lv_aload_n hx hb zd_Program_takeWay_18 rfl (lv_at hl 3 rfl) ?_
  refine z_get (v := .ref (ad 35)) hx hb hts hown hK hw zZ10 6 wX_g6 3 (by decide) zn_456 rfl zd_Program_takeWay_19 ?_
  refine lv_iload_n hx hb zd_Program_takeWay_22 rfl (lv_at hl 4 rfl) ?_
  refine va_iald (f := (B3 21)) hx hb hK hw.1 35 0 wX_a35 rfl hok.1 zd_Program_takeWay_23 ?_
  have hok := hok.2
  refine lv_topi (fun z4 ez4 => ?_)
  have hok := hok z4 ez4
  refine lv_istore hx hb zd_Program_takeWay_24 hl (by decide) rfl (fun ls hl => ?_)
  have hl : lv_has ls 6 [(5, .int z4), (4, .int r3), (3, .int z1), (0, .ref (ad 3)), (1, .ref (ad 6)), (2, .int a1)] := hl
  refine lv_aload_n hx hb zd_Program_takeWay_26 rfl (lv_at hl 3 rfl) ?_
  refine z_get (v := .ref (ad 23)) hx hb hts hown hK hw zZ6 3 wX_g3 5 (by decide) zn_246 rfl zd_Program_takeWay_27 ?_
  refine lv_iload_n hx hb zd_Program_takeWay_30 rfl (lv_at hl 2 rfl) ?_
  refine lv_aload_n hx hb zd_Program_takeWay_31 rfl (lv_at hl 4 rfl) ?_
  refine lv_iload hx hb zd_Program_takeWay_32 (lv_at hl 1 rfl) ?_
  refine z_calli (w1 := fun (u : zS) => wX ad K sv u.1 u.2.1 u.2.2.1 u.2.2.2) (wr := []) (z_runV (q0 := 6) (wc := (wX ad K sv I3 J3 B3 D3)) (As := [.int r3]) (rest := [.int z1, .ref (ad 23)]) ⟨hx, hb, hml, hown, hts⟩ (w_Tree_pointAt l G K ad sv I3 J3 B3 D3 r3 _ H.size hok) zf_Tree_pointAt zn_385 ⟨Nat.le_of_ble_eq_true rfl, Nat.le_of_ble_eq_true rfl⟩ hK hw (List.range 65) wX_all wX_nd wX_g6 rfl rfl hl.1 rfl (Nat.le_of_ble_eq_true rfl) zd_Program_takeWay_34 ⟨Nat.le_of_ble_eq_true rfl, Nat.le_of_ble_eq_true rfl⟩) hw hA (List.range 65) [] wX_all rfl (by decide) (fun i hi => by cases hi) (fun r5 u H locs hok hw => ?_)
  obtain ⟨I5, J5, B5, D5⟩ := u
  dsimp only at hok
  have hw : zW G A s.heap (wX ad K sv I5 J5 B5 D5) H locs := hw
  refine va_iast (f := (B5 11)) hx hb hK hw.1 hw.2.1 hw.2.2 23 0 wX_a23 rfl hok.1 zd_Program_takeWay_37 (fun H locs w91 w92 w93 => ?_)
  have hok := hok.2
  have hw := wX_t23 ⟨w91, w92, w93⟩
  refine lv_aload_n hx hb zd_Program_takeWay_38 rfl (lv_at hl 3 rfl) ?_
  refine z_get (v := .ref (ad 24)) hx hb hts hown hK hw zZ6 3 wX_g3 6 (by decide) zn_247 rfl zd_Program_takeWay_39 ?_
  refine lv_iload_n hx hb zd_Program_takeWay_42 rfl (lv_at hl 2 rfl) ?_
  refine lv_iload hx hb zd_Program_takeWay_43 (lv_at hl 0 rfl) ?_
  refine lv_iconst (v := (-1)) hx hb zd_Program_takeWay_45 (by decide) ?_
  refine lv_icmp_eq (tgt := 70) hx hb zd_Program_takeWay_46 (by decide) (fun hc6 => ?_) (fun hc6 => ?_)
  · have hok := hok.1 hc6
    exact wJ_Program_takeWay_ad6_70 G K ad sv a1 Post C z1 I5 J5 (va_up B5 11 (upd (B5 11) z1.toNatClampNeg r5)) D5 ls H locs hok (lv_sub hl [] rfl) hw
  · have hok := hok.2 hc6
    refine lv_iload hx hb zd_Program_takeWay_49 (lv_at hl 1 rfl) ?_
    refine lv_if_lt (tgt := 70) hx hb zd_Program_takeWay_51 (by decide) (fun hc7 => ?_) (fun hc7 => ?_)
    · have hok := hok.1 hc7
      exact wJ_Program_takeWay_ad6_70 G K ad sv a1 Post C z1 I5 J5 (va_up B5 11 (upd (B5 11) z1.toNatClampNeg r5)) D5 ls H locs hok (lv_sub hl [] rfl) hw
    · have hok := hok.2 hc7
      refine lv_aload_n hx hb zd_Program_takeWay_54 rfl (lv_at hl 4 rfl) ?_
      refine z_get (v := .ref (ad 35)) hx hb hts hown hK hw zZ10 6 wX_g6 3 (by decide) zn_456 rfl zd_Program_takeWay_55 ?_
      refine lv_iload hx hb zd_Program_takeWay_58 (lv_at hl 1 rfl) ?_
      refine va_iald (f := (B5 21)) hx hb hK hw.1 35 0 wX_a35 rfl hok.1 zd_Program_takeWay_60 ?_
      have hok := hok.2
      refine lv_topi (fun z8 ez8 => ?_)
      have hok := hok z8 ez8
      refine lv_iload hx hb zd_Program_takeWay_61 (lv_at hl 0 rfl) ?_
      refine lv_icmp_ne (tgt := 70) hx hb zd_Program_takeWay_63 (by decide) (fun hc9 => ?_) (fun hc9 => ?_)
      · have hok := hok.1 hc9
        exact wJ_Program_takeWay_ad6_70 G K ad sv a1 Post C z1 I5 J5 (va_up B5 11 (upd (B5 11) z1.toNatClampNeg r5)) D5 ls H locs hok (lv_sub hl [] rfl) hw
      · have hok := hok.2 hc9
        refine lv_iconst (v := 1) hx hb zd_Program_takeWay_66 (by decide) ?_
        refine lv_goto (tgt := 71) hx hb zd_Program_takeWay_67 (by decide) ?_
        exact wJ_Program_takeWay_ad6_71 G K ad sv a1 Post C 1 z1 I5 J5 (va_up B5 11 (upd (B5 11) z1.toNatClampNeg r5)) D5 ls H locs hok (lv_sub hl [] rfl) hw
def wc_Program_takePlaces_ad6_93 (a1 : Int32) (Post : (Nat → Int32) → (Nat → Int64) → (Nat → Nat → Int32) → (Nat → Nat → Int64) → Prop)  (I : Nat → Int32) (J : Nat → Int64) (B : Nat → Nat → Int32) (D : Nat → Nat → Int64) : Prop :=
  Post I J B D
def wc_Program_takePlaces_ad6_85 (a1 : Int32) (K15 : Int64 → Int32 → Int32 → (Nat → Int32) → (Nat → Int64) → (Nat → Nat → Int32) → (Nat → Nat → Int64) → Prop) (Post : (Nat → Int32) → (Nat → Int64) → (Nat → Nat → Int32) → (Nat → Nat → Int64) → Prop) (x3 : Int64) (x6 : Int32) (y0 : Int32) (I : Nat → Int32) (J : Nat → Int64) (B : Nat → Nat → Int32) (D : Nat → Nat → Int64) : Prop :=
  ∀ z1 : Int32, z1 = (x6 + 1) → K15 x3 y0 z1 I J B D
def wc_Program_takePlaces_ad6_64 (a1 : Int32) (K15 : Int64 → Int32 → Int32 → (Nat → Int32) → (Nat → Int64) → (Nat → Nat → Int32) → (Nat → Nat → Int64) → Prop) (Post : (Nat → Int32) → (Nat → Int64) → (Nat → Nat → Int32) → (Nat → Nat → Int64) → Prop) (x3 : Int64) (x5 : Int32) (x6 : Int32) (I : Nat → Int32) (J : Nat → Int64) (B : Nat → Nat → Int32) (D : Nat → Nat → Int64) : Prop :=
  vp_in x5 240 ∧ ∀ z2 : Int32, z2 = ((B 22) x5.toNatClampNeg) → ((z2 = 0 → wc_Program_takePlaces_ad6_85 a1 K15 Post x3 x6 (-1) I J B D) ∧ (¬ z2 = 0 → vp_in x5 240 ∧ ∀ z4 : Int32, z4 = ((B 19) x5.toNatClampNeg) → wc_Program_takePlaces_ad6_85 a1 K15 Post x3 x6 z4 I J B D))
def wb_Program_takePlaces_ad6_15 (a1 : Int32) (K15 : Int64 → Int32 → Int32 → (Nat → Int32) → (Nat → Int64) → (Nat → Nat → Int32) → (Nat → Nat → Int64) → Prop) (Post : (Nat → Int32) → (Nat → Int64) → (Nat → Nat → Int32) → (Nat → Nat → Int64) → Prop) (x3 : Int64) (x5 : Int32) (x6 : Int32) (I : Nat → Int32) (J : Nat → Int64) (B : Nat → Nat → Int32) (D : Nat → Nat → Int64) : Prop :=
  (((240 : Int32) ≤ x6 → wc_Program_takePlaces_ad6_93 a1 Post I J B D) ∧ (¬ (240 : Int32) ≤ x6 → ((x5 = (-1) → wc_Program_takePlaces_ad6_93 a1 Post I J B D) ∧ (¬ x5 = (-1) → vp_in x5 240 ∧ ∀ z7 : Int32, z7 = ((B 25) x5.toNatClampNeg) → ((z7 = (-1) → wc_Program_takePlaces_ad6_64 a1 K15 Post x3 x5 x6 I J B D) ∧ (¬ z7 = (-1) → ∀ z9 : Int32, z9 = ((I 10) * 31) → vp_in x5 240 ∧ ∀ z10 : Int32, z10 = ((B 25) x5.toNatClampNeg) → ∀ z11 : Int32, z11 = (z9 + z10) → vp_in z11 124 ∧ ∀ z12 : Int64, z12 = ((D 1) z11.toNatClampNeg) → ∀ z13 : Int64, z13 = (z12 ||| x3) → vp_in z11 124 ∧ wc_Program_takePlaces_ad6_64 a1 K15 Post x3 x5 x6 I J B (va_up D 1 (vp_updL (D 1) z11.toNatClampNeg z13))))))))
def wl_Program_takePlaces_ad6_15 (a1 : Int32) (Post : (Nat → Int32) → (Nat → Int64) → (Nat → Nat → Int32) → (Nat → Nat → Int64) → Prop) (n : Nat) : Int64 → Int32 → Int32 → (Nat → Int32) → (Nat → Int64) → (Nat → Nat → Int32) → (Nat → Nat → Int64) → Prop := Nat.rec (fun _ _ _ _ _ _ _ => False) (fun _ r => wb_Program_takePlaces_ad6_15 a1 r Post) n
def wp_Program_takePlaces_ad6 (I : Nat → Int32) (J : Nat → Int64) (B : Nat → Nat → Int32) (D : Nat → Nat → Int64) (a1 : Int32) (Post : (Nat → Int32) → (Nat → Int64) → (Nat → Nat → Int32) → (Nat → Nat → Int64) → Prop) : Prop :=
  vp_in a1 240 ∧ ∀ z14 : Int32, z14 = ((B 26) a1.toNatClampNeg) → ∀ z15 : Int64, z15 = ((1 : Int64) <<< (z14.toInt64 &&& 63)) → ∃ n : Nat, wl_Program_takePlaces_ad6_15 a1 Post n z15 a1 0 I J B D
set_option maxHeartbeats 8000000 in
set_option maxRecDepth 100000 in
theorem wJ_Program_takePlaces_ad6_93 {p : Program} {l : Launch} {e : Env} {s : State} {m : MethodId} {below : List Frame} {meth : Method} {c : Code} {A : Nat → Prop} (G : va_G) (K : Nat → ClassId) (ad : Nat → Nat) (sv : Value) (a1 : Int32) (Post : (Nat → Int32) → (Nat → Int64) → (Nat → Nat → Int32) → (Nat → Nat → Int64) → Prop) (C : zCx p s m ([.ref (ad 3), .ref (ad 6), .int a1] : List Value).toArray meth c A G K prog_7_method_7_code none 7 "LassoFinder$Program") : ∀  (I : Nat → Int32) (J : Nat → Int64) (B : Nat → Nat → Int32) (D : Nat → Nat → Int64) (ls : Array Slot) (H : Heap) (locs : List Loc), wc_Program_takePlaces_ad6_93 a1 Post  I J B D → lv_has ls 7 [] → zW G A s.heap (wX ad K sv I J B D) H locs → W p l e { frames := 0, cells := 0, slots := 0, locals := 0 } s m ([.ref (ad 3), .ref (ad 6), .int a1] : List Value).toArray below meth c H locs 0 0 (MQ below (va_Qv (fun u : zS => Post u.1 u.2.1 u.2.2.1 u.2.2.2) (fun u t => zPost G K A (wX ad K sv u.1 u.2.1 u.2.2.1 u.2.2.2) t) A) ([.ref (ad 3), .ref (ad 6), .int a1] : List Value).toArray s 0 0 A) (F0 m 93 ls []) := by
  obtain ⟨hx, hb, hr, hml, hts, hown, hlocks, hA, hK⟩ := id C
  intro  I J B D ls H locs hok hl hw
  unfold wc_Program_takePlaces_ad6_93 at hok
  exact (z_vret (u := (I, J, B, D)) hx hb hr hlocks hw (List.range 65) wX_all wX_nd hok (Nat.le_of_ble_eq_true rfl) (Nat.le_of_ble_eq_true rfl) zd_Program_takePlaces_93)
set_option maxHeartbeats 8000000 in
set_option maxRecDepth 100000 in
theorem wJ_Program_takePlaces_ad6_85 {p : Program} {l : Launch} {e : Env} {s : State} {m : MethodId} {below : List Frame} {meth : Method} {c : Code} {A : Nat → Prop} (G : va_G) (K : Nat → ClassId) (ad : Nat → Nat) (sv : Value) (a1 : Int32) (Post : (Nat → Int32) → (Nat → Int64) → (Nat → Nat → Int32) → (Nat → Nat → Int64) → Prop) (C : zCx p s m ([.ref (ad 3), .ref (ad 6), .int a1] : List Value).toArray meth c A G K prog_7_method_7_code none 7 "LassoFinder$Program") (K15 : Int64 → Int32 → Int32 → (Nat → Int32) → (Nat → Int64) → (Nat → Nat → Int32) → (Nat → Nat → Int64) → Prop) (kh15 : ∀ (x3 : Int64) (x5 : Int32) (x6 : Int32) (I : Nat → Int32) (J : Nat → Int64) (B : Nat → Nat → Int32) (D : Nat → Nat → Int64) (ls : Array Slot) (H : Heap) (locs : List Loc), K15 x3 x5 x6 I J B D → lv_has ls 7 [(0, .ref (ad 3)), (1, .ref (ad 6)), (3, .long x3), (5, .int x5), (6, .int x6)] → zW G A s.heap (wX ad K sv I J B D) H locs → W p l e { frames := 0, cells := 0, slots := 0, locals := 0 } s m ([.ref (ad 3), .ref (ad 6), .int a1] : List Value).toArray below meth c H locs 0 0 (MQ below (va_Qv (fun u : zS => Post u.1 u.2.1 u.2.2.1 u.2.2.2) (fun u t => zPost G K A (wX ad K sv u.1 u.2.1 u.2.2.1 u.2.2.2) t) A) ([.ref (ad 3), .ref (ad 6), .int a1] : List Value).toArray s 0 0 A) (F0 m 15 ls [])) : ∀ (x3 : Int64) (x6 : Int32) (y0 : Int32) (I : Nat → Int32) (J : Nat → Int64) (B : Nat → Nat → Int32) (D : Nat → Nat → Int64) (ls : Array Slot) (H : Heap) (locs : List Loc), wc_Program_takePlaces_ad6_85 a1 K15 Post x3 x6 y0 I J B D → lv_has ls 7 [(0, .ref (ad 3)), (1, .ref (ad 6)), (3, .long x3), (6, .int x6)] → zW G A s.heap (wX ad K sv I J B D) H locs → W p l e { frames := 0, cells := 0, slots := 0, locals := 0 } s m ([.ref (ad 3), .ref (ad 6), .int a1] : List Value).toArray below meth c H locs 0 0 (MQ below (va_Qv (fun u : zS => Post u.1 u.2.1 u.2.2.1 u.2.2.2) (fun u t => zPost G K A (wX ad K sv u.1 u.2.1 u.2.2.1 u.2.2.2) t) A) ([.ref (ad 3), .ref (ad 6), .int a1] : List Value).toArray s 0 0 A) (F0 m 85 ls [.int y0]) := by
  obtain ⟨hx, hb, hr, hml, hts, hown, hlocks, hA, hK⟩ := id C
  intro x3 x6 y0 I J B D ls H locs hok hl hw
  unfold wc_Program_takePlaces_ad6_85 at hok
  refine lv_istore hx hb zd_Program_takePlaces_85 hl (by decide) rfl (fun ls hl => ?_)
  have hl : lv_has ls 7 [(5, .int y0), (0, .ref (ad 3)), (1, .ref (ad 6)), (3, .long x3), (6, .int x6)] := hl
  obtain ⟨z1, ez1⟩ : ∃ z : Int32, z = (x6 + 1) := ⟨_, rfl⟩
  have hok := hok z1 ez1
  refine lv_iinc (v := z1) hx hb zd_Program_takePlaces_87 hl (k := 4) rfl ez1.symm (by decide) rfl (fun ls hl => ?_)
  have hl : lv_has ls 7 [(6, .int z1), (5, .int y0), (0, .ref (ad 3)), (1, .ref (ad 6)), (3, .long x3)] := hl
  refine lv_goto (tgt := 15) hx hb zd_Program_takePlaces_90 (by decide) ?_
  exact kh15 x3 y0 z1 I J B D ls H locs hok (lv_sub hl [2, 3, 4, 1, 0] rfl) hw
set_option maxHeartbeats 8000000 in
set_option maxRecDepth 100000 in
theorem wJ_Program_takePlaces_ad6_64 {p : Program} {l : Launch} {e : Env} {s : State} {m : MethodId} {below : List Frame} {meth : Method} {c : Code} {A : Nat → Prop} (G : va_G) (K : Nat → ClassId) (ad : Nat → Nat) (sv : Value) (a1 : Int32) (Post : (Nat → Int32) → (Nat → Int64) → (Nat → Nat → Int32) → (Nat → Nat → Int64) → Prop) (C : zCx p s m ([.ref (ad 3), .ref (ad 6), .int a1] : List Value).toArray meth c A G K prog_7_method_7_code none 7 "LassoFinder$Program") (K15 : Int64 → Int32 → Int32 → (Nat → Int32) → (Nat → Int64) → (Nat → Nat → Int32) → (Nat → Nat → Int64) → Prop) (kh15 : ∀ (x3 : Int64) (x5 : Int32) (x6 : Int32) (I : Nat → Int32) (J : Nat → Int64) (B : Nat → Nat → Int32) (D : Nat → Nat → Int64) (ls : Array Slot) (H : Heap) (locs : List Loc), K15 x3 x5 x6 I J B D → lv_has ls 7 [(0, .ref (ad 3)), (1, .ref (ad 6)), (3, .long x3), (5, .int x5), (6, .int x6)] → zW G A s.heap (wX ad K sv I J B D) H locs → W p l e { frames := 0, cells := 0, slots := 0, locals := 0 } s m ([.ref (ad 3), .ref (ad 6), .int a1] : List Value).toArray below meth c H locs 0 0 (MQ below (va_Qv (fun u : zS => Post u.1 u.2.1 u.2.2.1 u.2.2.2) (fun u t => zPost G K A (wX ad K sv u.1 u.2.1 u.2.2.1 u.2.2.2) t) A) ([.ref (ad 3), .ref (ad 6), .int a1] : List Value).toArray s 0 0 A) (F0 m 15 ls [])) : ∀ (x3 : Int64) (x5 : Int32) (x6 : Int32) (I : Nat → Int32) (J : Nat → Int64) (B : Nat → Nat → Int32) (D : Nat → Nat → Int64) (ls : Array Slot) (H : Heap) (locs : List Loc), wc_Program_takePlaces_ad6_64 a1 K15 Post x3 x5 x6 I J B D → lv_has ls 7 [(0, .ref (ad 3)), (1, .ref (ad 6)), (3, .long x3), (5, .int x5), (6, .int x6)] → zW G A s.heap (wX ad K sv I J B D) H locs → W p l e { frames := 0, cells := 0, slots := 0, locals := 0 } s m ([.ref (ad 3), .ref (ad 6), .int a1] : List Value).toArray below meth c H locs 0 0 (MQ below (va_Qv (fun u : zS => Post u.1 u.2.1 u.2.2.1 u.2.2.2) (fun u t => zPost G K A (wX ad K sv u.1 u.2.1 u.2.2.1 u.2.2.2) t) A) ([.ref (ad 3), .ref (ad 6), .int a1] : List Value).toArray s 0 0 A) (F0 m 64 ls []) := by
  obtain ⟨hx, hb, hr, hml, hts, hown, hlocks, hA, hK⟩ := id C
  intro x3 x5 x6 I J B D ls H locs hok hl hw
  unfold wc_Program_takePlaces_ad6_64 at hok
  refine lv_aload_n hx hb zd_Program_takePlaces_64 rfl (lv_at hl 1 rfl) ?_
  refine z_get (v := .ref (ad 36)) hx hb hts hown hK hw zZ10 6 wX_g6 4 (by decide) zn_458 rfl zd_Program_takePlaces_65 ?_
  refine lv_iload hx hb zd_Program_takePlaces_68 (lv_at hl 3 rfl) ?_
  refine va_zald (f := (B 22)) hx hb hK hw.1 36 2 wX_a36 rfl hok.1 zd_Program_takePlaces_70 ?_
  have hok := hok.2
  refine lv_topi (fun z2 ez2 => ?_)
  have hok := hok z2 ez2
  refine lv_if_eq (tgt := 84) hx hb zd_Program_takePlaces_71 (by decide) (fun hc3 => ?_) (fun hc3 => ?_)
  · have hok := hok.1 hc3
    refine lv_iconst (v := (-1)) hx hb zd_Program_takePlaces_84 (by decide) ?_
    exact wJ_Program_takePlaces_ad6_85 G K ad sv a1 Post C K15 kh15 x3 x6 (-1) I J B D ls H locs hok (lv_sub hl [0, 1, 2, 4] rfl) hw
  · have hok := hok.2 hc3
    refine lv_aload_n hx hb zd_Program_takePlaces_74 rfl (lv_at hl 1 rfl) ?_
    refine z_get (v := .ref (ad 33)) hx hb hts hown hK hw zZ10 6 wX_g6 1 (by decide) zn_459 rfl zd_Program_takePlaces_75 ?_
    refine lv_iload hx hb zd_Program_takePlaces_78 (lv_at hl 3 rfl) ?_
    refine va_iald (f := (B 19)) hx hb hK hw.1 33 0 wX_a33 rfl hok.1 zd_Program_takePlaces_80 ?_
    have hok := hok.2
    refine lv_topi (fun z4 ez4 => ?_)
    have hok := hok z4 ez4
    refine lv_goto (tgt := 85) hx hb zd_Program_takePlaces_81 (by decide) ?_
    exact wJ_Program_takePlaces_ad6_85 G K ad sv a1 Post C K15 kh15 x3 x6 z4 I J B D ls H locs hok (lv_sub hl [0, 1, 2, 4] rfl) hw
set_option maxHeartbeats 8000000 in
set_option maxRecDepth 100000 in
theorem wB_Program_takePlaces_ad6_15 {p : Program} {l : Launch} {e : Env} {s : State} {m : MethodId} {below : List Frame} {meth : Method} {c : Code} {A : Nat → Prop} (G : va_G) (K : Nat → ClassId) (ad : Nat → Nat) (sv : Value) (a1 : Int32) (Post : (Nat → Int32) → (Nat → Int64) → (Nat → Nat → Int32) → (Nat → Nat → Int64) → Prop) (C : zCx p s m ([.ref (ad 3), .ref (ad 6), .int a1] : List Value).toArray meth c A G K prog_7_method_7_code none 7 "LassoFinder$Program") (K15 : Int64 → Int32 → Int32 → (Nat → Int32) → (Nat → Int64) → (Nat → Nat → Int32) → (Nat → Nat → Int64) → Prop) (kh15 : ∀ (x3 : Int64) (x5 : Int32) (x6 : Int32) (I : Nat → Int32) (J : Nat → Int64) (B : Nat → Nat → Int32) (D : Nat → Nat → Int64) (ls : Array Slot) (H : Heap) (locs : List Loc), K15 x3 x5 x6 I J B D → lv_has ls 7 [(0, .ref (ad 3)), (1, .ref (ad 6)), (3, .long x3), (5, .int x5), (6, .int x6)] → zW G A s.heap (wX ad K sv I J B D) H locs → W p l e { frames := 0, cells := 0, slots := 0, locals := 0 } s m ([.ref (ad 3), .ref (ad 6), .int a1] : List Value).toArray below meth c H locs 0 0 (MQ below (va_Qv (fun u : zS => Post u.1 u.2.1 u.2.2.1 u.2.2.2) (fun u t => zPost G K A (wX ad K sv u.1 u.2.1 u.2.2.1 u.2.2.2) t) A) ([.ref (ad 3), .ref (ad 6), .int a1] : List Value).toArray s 0 0 A) (F0 m 15 ls [])) : ∀ (x3 : Int64) (x5 : Int32) (x6 : Int32) (I : Nat → Int32) (J : Nat → Int64) (B : Nat → Nat → Int32) (D : Nat → Nat → Int64) (ls : Array Slot) (H : Heap) (locs : List Loc), wb_Program_takePlaces_ad6_15 a1 K15 Post x3 x5 x6 I J B D → lv_has ls 7 [(0, .ref (ad 3)), (1, .ref (ad 6)), (3, .long x3), (5, .int x5), (6, .int x6)] → zW G A s.heap (wX ad K sv I J B D) H locs → W p l e { frames := 0, cells := 0, slots := 0, locals := 0 } s m ([.ref (ad 3), .ref (ad 6), .int a1] : List Value).toArray below meth c H locs 0 0 (MQ below (va_Qv (fun u : zS => Post u.1 u.2.1 u.2.2.1 u.2.2.2) (fun u t => zPost G K A (wX ad K sv u.1 u.2.1 u.2.2.1 u.2.2.2) t) A) ([.ref (ad 3), .ref (ad 6), .int a1] : List Value).toArray s 0 0 A) (F0 m 15 ls []) := by
  obtain ⟨hx, hb, hr, hml, hts, hown, hlocks, hA, hK⟩ := id C
  intro x3 x5 x6 I J B D ls H locs hok hl hw
  unfold wb_Program_takePlaces_ad6_15 at hok
  refine lv_iload hx hb zd_Program_takePlaces_15 (lv_at hl 4 rfl) ?_
  refine lv_sipush (v := 240) hx hb zd_Program_takePlaces_17 (by decide) ?_
  refine lv_icmp_ge (tgt := 93) hx hb zd_Program_takePlaces_20 (by decide) (fun hc5 => ?_) (fun hc5 => ?_)
  · have hok := hok.1 hc5
    exact wJ_Program_takePlaces_ad6_93 G K ad sv a1 Post C I J B D ls H locs hok (lv_sub hl [] rfl) hw
  · have hok := hok.2 hc5
    refine lv_iload hx hb zd_Program_takePlaces_23 (lv_at hl 3 rfl) ?_
    refine lv_iconst (v := (-1)) hx hb zd_Program_takePlaces_25 (by decide) ?_
    refine lv_icmp_eq (tgt := 93) hx hb zd_Program_takePlaces_26 (by decide) (fun hc6 => ?_) (fun hc6 => ?_)
    · have hok := hok.1 hc6
      exact wJ_Program_takePlaces_ad6_93 G K ad sv a1 Post C I J B D ls H locs hok (lv_sub hl [] rfl) hw
    · have hok := hok.2 hc6
      refine lv_aload_n hx hb zd_Program_takePlaces_29 rfl (lv_at hl 1 rfl) ?_
      refine z_get (v := .ref (ad 39)) hx hb hts hown hK hw zZ10 6 wX_g6 7 (by decide) zn_457 rfl zd_Program_takePlaces_30 ?_
      refine lv_iload hx hb zd_Program_takePlaces_33 (lv_at hl 3 rfl) ?_
      refine va_iald (f := (B 25)) hx hb hK hw.1 39 0 wX_a39 rfl hok.1 zd_Program_takePlaces_35 ?_
      have hok := hok.2
      refine lv_topi (fun z7 ez7 => ?_)
      have hok := hok z7 ez7
      refine lv_iconst (v := (-1)) hx hb zd_Program_takePlaces_36 (by decide) ?_
      refine lv_icmp_eq (tgt := 64) hx hb zd_Program_takePlaces_37 (by decide) (fun hc8 => ?_) (fun hc8 => ?_)
      · have hok := hok.1 hc8
        exact wJ_Program_takePlaces_ad6_64 G K ad sv a1 Post C K15 kh15 x3 x5 x6 I J B D ls H locs hok (lv_sub hl [0, 1, 2, 3, 4] rfl) hw
      · have hok := hok.2 hc8
        refine lv_aload_n hx hb zd_Program_takePlaces_40 rfl (lv_at hl 0 rfl) ?_
        refine z_get (v := .ref (ad 28)) hx hb hts hown hK hw zZ6 3 wX_g3 10 (by decide) zn_251 rfl zd_Program_takePlaces_41 ?_
        refine lv_aload_n hx hb zd_Program_takePlaces_44 rfl (lv_at hl 0 rfl) ?_
        refine z_get (v := .int (I 10)) hx hb hts hown hK hw zZ6 3 wX_g3 13 (by decide) zn_445 rfl zd_Program_takePlaces_45 ?_
        refine lv_bipush (v := 31) hx hb zd_Program_takePlaces_48 (by decide) ?_
        refine lv_imul hx hb zd_Program_takePlaces_50 ?_
        refine lv_topi (fun z9 ez9 => ?_)
        have hok := hok z9 ez9
        refine lv_aload_n hx hb zd_Program_takePlaces_51 rfl (lv_at hl 1 rfl) ?_
        refine z_get (v := .ref (ad 39)) hx hb hts hown hK hw zZ10 6 wX_g6 7 (by decide) zn_457 rfl zd_Program_takePlaces_52 ?_
        refine lv_iload hx hb zd_Program_takePlaces_55 (lv_at hl 3 rfl) ?_
        refine va_iald (f := (B 25)) hx hb hK hw.1 39 0 wX_a39 rfl hok.1 zd_Program_takePlaces_57 ?_
        have hok := hok.2
        refine lv_topi (fun z10 ez10 => ?_)
        have hok := hok z10 ez10
        refine lv_iadd hx hb zd_Program_takePlaces_58 ?_
        refine lv_topi (fun z11 ez11 => ?_)
        have hok := hok z11 ez11
        refine lv_dup2_11 hx hb zd_Program_takePlaces_59 rfl rfl ?_
        refine va_lald (f := (D 1)) hx hb hK hw.1 28 1 wX_a28 rfl hok.1 zd_Program_takePlaces_60 ?_
        have hok := hok.2
        refine lv_topl (fun z12 ez12 => ?_)
        have hok := hok z12 ez12
        refine lv_lload_n hx hb zd_Program_takePlaces_61 rfl (lv_at hl 2 rfl) ?_
        refine lv_lor hx hb zd_Program_takePlaces_62 ?_
        refine lv_topl (fun z13 ez13 => ?_)
        have hok := hok z13 ez13
        refine va_last (f := (D 1)) hx hb hK hw.1 hw.2.1 hw.2.2 28 1 wX_a28 rfl hok.1 zd_Program_takePlaces_63 (fun H locs w91 w92 w93 => ?_)
        have hok := hok.2
        have hw := wX_t28 ⟨w91, w92, w93⟩
        exact wJ_Program_takePlaces_ad6_64 G K ad sv a1 Post C K15 kh15 x3 x5 x6 I J B (va_up D 1 (vp_updL (D 1) z11.toNatClampNeg z13)) ls H locs hok (lv_sub hl [0, 1, 2, 3, 4] rfl) hw
theorem wL_Program_takePlaces_ad6_15 {p : Program} {l : Launch} {e : Env} {s : State} {m : MethodId} {below : List Frame} {meth : Method} {c : Code} {A : Nat → Prop} (G : va_G) (K : Nat → ClassId) (ad : Nat → Nat) (sv : Value) (a1 : Int32) (Post : (Nat → Int32) → (Nat → Int64) → (Nat → Nat → Int32) → (Nat → Nat → Int64) → Prop) (C : zCx p s m ([.ref (ad 3), .ref (ad 6), .int a1] : List Value).toArray meth c A G K prog_7_method_7_code none 7 "LassoFinder$Program") : ∀ (n : Nat) (x3 : Int64) (x5 : Int32) (x6 : Int32) (I : Nat → Int32) (J : Nat → Int64) (B : Nat → Nat → Int32) (D : Nat → Nat → Int64) (ls : Array Slot) (H : Heap) (locs : List Loc), wl_Program_takePlaces_ad6_15 a1 Post n x3 x5 x6 I J B D → lv_has ls 7 [(0, .ref (ad 3)), (1, .ref (ad 6)), (3, .long x3), (5, .int x5), (6, .int x6)] → zW G A s.heap (wX ad K sv I J B D) H locs → W p l e { frames := 0, cells := 0, slots := 0, locals := 0 } s m ([.ref (ad 3), .ref (ad 6), .int a1] : List Value).toArray below meth c H locs 0 0 (MQ below (va_Qv (fun u : zS => Post u.1 u.2.1 u.2.2.1 u.2.2.2) (fun u t => zPost G K A (wX ad K sv u.1 u.2.1 u.2.2.1 u.2.2.2) t) A) ([.ref (ad 3), .ref (ad 6), .int a1] : List Value).toArray s 0 0 A) (F0 m 15 ls []) := by
  intro n
  induction n with
  | zero => intro x3 x5 x6 I J B D ls H locs hok; exact hok.elim
  | succ n ih => exact wB_Program_takePlaces_ad6_15 G K ad sv a1 Post C (wl_Program_takePlaces_ad6_15 a1 Post n) ih
set_option maxHeartbeats 8000000 in
set_option maxRecDepth 100000 in
theorem w_Program_takePlaces_ad6 (l : Launch) (G : va_G) (K : Nat → ClassId) (ad : Nat → Nat) (sv : Value) (I : Nat → Int32) (J : Nat → Int64) (B : Nat → Nat → Int32) (D : Nat → Nat → Int64) (a1 : Int32) (Post : (Nat → Int32) → (Nat → Int64) → (Nat → Nat → Int32) → (Nat → Nat → Int64) → Prop) (sz : Nat) (hok : wp_Program_takePlaces_ad6 I J B D a1 Post) : Met l zy_Program_takePlaces (Cond.code zy_Program_takePlaces prog_7_method_7_code 7 none :: zTB) { frames := 0, cells := 0, slots := 0, locals := 0 } (va_Pc [.ref (ad 3), .ref (ad 6), .int a1] (zPre G K (wX ad K sv I J B D) sz)) (va_Qv (fun u : zS => Post u.1 u.2.1 u.2.2.1 u.2.2.2) (fun u t => zPost G K (va_A (wX ad K sv I J B D) sz) (wX ad K sv u.1 u.2.1 u.2.2.1 u.2.2.2) t) (va_A (wX ad K sv I J B D) sz)) 0 0 (va_A (wX ad K sv I J B D) sz) := by
  refine zMet (y := zy_Program_takePlaces) (av := [.ref (ad 3), .ref (ad 6), .int a1]) (maxL := 7) (cc := prog_7_method_7_code) (ret := none) (W0 := (wX ad K sv I J B D)) (sz := sz) (G := G) (K := K) (wt := zTB) (mc := 0) (ms := 0) (Qf := fun A => va_Qv (fun u : zS => Post u.1 u.2.1 u.2.2.1 u.2.2.2) (fun u t => zPost G K A (wX ad K sv u.1 u.2.1 u.2.2.1 u.2.2.2) t) A) (by decide) (Nat.le_of_ble_eq_true rfl) ?_
  intro p e s m below meth c ls A hx hb hr hml hts hown hlocks hin hA hK H locs hw hsz hl
  clear hsz
  have hown : s.vm.findClass "LassoFinder$Program" = some m.cls := hown
  have C : zCx p s m ([.ref (ad 3), .ref (ad 6), .int a1] : List Value).toArray meth c A G K prog_7_method_7_code none 7 "LassoFinder$Program" := ⟨hx, hb, hr, hml, hts, hown, hlocks, hA, hK⟩
  have hl : lv_has ls 7 [(0, .ref (ad 3)), (1, .ref (ad 6)), (2, .int a1)] := hl
  have hw : zW G A s.heap (wX ad K sv I J B D) H locs := hw
  unfold wp_Program_takePlaces_ad6 at hok
  refine lv_lconst (v := 1) hx hb zd_Program_takePlaces_0 (by decide) ?_
  refine lv_aload_n hx hb zd_Program_takePlaces_1 rfl (lv_at hl 1 rfl) ?_
  refine z_get (v := .ref (ad 40)) hx hb hts hown hK hw zZ10 6 wX_g6 8 (by decide) zn_455 rfl zd_Program_takePlaces_2 ?_
  refine lv_iload_n hx hb zd_Program_takePlaces_5 rfl (lv_at hl 2 rfl) ?_
  refine va_iald (f := (B 26)) hx hb hK hw.1 40 0 wX_a40 rfl hok.1 zd_Program_takePlaces_6 ?_
  have hok := hok.2
  refine lv_topi (fun z14 ez14 => ?_)
  have hok := hok z14 ez14
  refine lv_lshl hx hb zd_Program_takePlaces_7 rfl ?_
  refine lv_topl (fun z15 ez15 => ?_)
  have hok := hok z15 ez15
  refine lv_lstore_n hx hb zd_Program_takePlaces_8 rfl hl (by decide) rfl (fun ls hl => ?_)
  have hl : lv_has ls 7 [(3, .long z15), (0, .ref (ad 3)), (1, .ref (ad 6)), (2, .int a1)] := hl
  refine lv_iload_n hx hb zd_Program_takePlaces_9 rfl (lv_at hl 3 rfl) ?_
  refine lv_istore hx hb zd_Program_takePlaces_10 hl (by decide) rfl (fun ls hl => ?_)
  have hl : lv_has ls 7 [(5, .int a1), (3, .long z15), (0, .ref (ad 3)), (1, .ref (ad 6)), (2, .int a1)] := hl
  refine lv_iconst (v := 0) hx hb zd_Program_takePlaces_12 (by decide) ?_
  refine lv_istore hx hb zd_Program_takePlaces_13 hl (by decide) rfl (fun ls hl => ?_)
  have hl : lv_has ls 7 [(6, .int 0), (5, .int a1), (3, .long z15), (0, .ref (ad 3)), (1, .ref (ad 6)), (2, .int a1)] := hl
  obtain ⟨n9, hok⟩ := hok
  exact wL_Program_takePlaces_ad6_15 G K ad sv a1 Post C n9 z15 a1 0 I J B D ls H locs hok (lv_sub hl [3, 4, 2, 1, 0] rfl) hw
def wc_Program_takeProcess_ad6_81 (K39 : Int32 → (Nat → Int32) → (Nat → Int64) → (Nat → Nat → Int32) → (Nat → Nat → Int64) → Prop) (Post : (Nat → Int32) → (Nat → Int64) → (Nat → Nat → Int32) → (Nat → Nat → Int64) → Prop) (x2 : Int32) (I : Nat → Int32) (J : Nat → Int64) (B : Nat → Nat → Int32) (D : Nat → Nat → Int64) : Prop :=
  ∀ z1 : Int32, z1 = (x2 + 1) → K39 z1 I J B D
def wb_Program_takeProcess_ad6_39 (K39 : Int32 → (Nat → Int32) → (Nat → Int64) → (Nat → Nat → Int32) → (Nat → Nat → Int64) → Prop) (Post : (Nat → Int32) → (Nat → Int64) → (Nat → Nat → Int32) → (Nat → Nat → Int64) → Prop) (x2 : Int32) (I : Nat → Int32) (J : Nat → Int64) (B : Nat → Nat → Int32) (D : Nat → Nat → Int64) : Prop :=
  (((8 : Int32) ≤ x2 → wp_Tree_settled I J B D 0 (fun r3 I3 J3 B3 D3 => wp_Tree_pointAt I3 J3 B3 D3 r3 (fun r4 I4 J4 B4 D4 => vp_in (I 10) 4 ∧ ∀ z5 : Int32, z5 = ((I4 10) + 1) → Post (upd I4 10 z5) J4 (va_up B4 13 (upd (B4 13) (I 10).toNatClampNeg r4)) D4))) ∧ (¬ (8 : Int32) ≤ x2 → vp_in x2 8 ∧ ∀ z6 : Int32, z6 = ((B 28) x2.toNatClampNeg) → ((z6 = (-3) → wc_Program_takeProcess_ad6_81  K39 Post x2 I J B D) ∧ (¬ z6 = (-3) → ∀ z8 : Int32, z8 = ((I 10) * 8) → ∀ z9 : Int32, z9 = (z8 + x2) → wp_Tree_settled I J B D z6 (fun r10 I10 J10 B10 D10 => wp_Tree_pointAt I10 J10 B10 D10 r10 (fun r11 I11 J11 B11 D11 => vp_in z9 32 ∧ wc_Program_takeProcess_ad6_81  K39 Post x2 I11 J11 (va_up B11 14 (upd (B11 14) z9.toNatClampNeg r11)) D11))))))
def wl_Program_takeProcess_ad6_39 (Post : (Nat → Int32) → (Nat → Int64) → (Nat → Nat → Int32) → (Nat → Nat → Int64) → Prop) (n : Nat) : Int32 → (Nat → Int32) → (Nat → Int64) → (Nat → Nat → Int32) → (Nat → Nat → Int64) → Prop := Nat.rec (fun _ _ _ _ _ => False) (fun _ r => wb_Program_takeProcess_ad6_39  r Post) n
def wc_Program_takeProcess_ad6_31 (K2 : Int32 → (Nat → Int32) → (Nat → Int64) → (Nat → Nat → Int32) → (Nat → Nat → Int64) → Prop) (Post : (Nat → Int32) → (Nat → Int64) → (Nat → Nat → Int32) → (Nat → Nat → Int64) → Prop) (x2 : Int32) (I : Nat → Int32) (J : Nat → Int64) (B : Nat → Nat → Int32) (D : Nat → Nat → Int64) : Prop :=
  ∀ z12 : Int32, z12 = (x2 + 1) → K2 z12 I J B D
def wb_Program_takeProcess_ad6_2 (K2 : Int32 → (Nat → Int32) → (Nat → Int64) → (Nat → Nat → Int32) → (Nat → Nat → Int64) → Prop) (Post : (Nat → Int32) → (Nat → Int64) → (Nat → Nat → Int32) → (Nat → Nat → Int64) → Prop) (x2 : Int32) (I : Nat → Int32) (J : Nat → Int64) (B : Nat → Nat → Int32) (D : Nat → Nat → Int64) : Prop :=
  (((I 16) ≤ x2 → ∃ n : Nat, wl_Program_takeProcess_ad6_39  Post n 0 I J B D) ∧ (¬ (I 16) ≤ x2 → vp_in x2 240 ∧ ∀ z14 : Int32, z14 = ((B 18) x2.toNatClampNeg) → ((¬ z14 = 0 → wc_Program_takeProcess_ad6_31  K2 Post x2 I J B D) ∧ (z14 = 0 → wp_Program_takeWay_ad6 I J B D x2 (fun I16 J16 B16 D16 => wp_Program_takePlaces_ad6 I16 J16 B16 D16 x2 (fun I17 J17 B17 D17 => wc_Program_takeProcess_ad6_31  K2 Post x2 I17 J17 B17 D17))))))
def wl_Program_takeProcess_ad6_2 (Post : (Nat → Int32) → (Nat → Int64) → (Nat → Nat → Int32) → (Nat → Nat → Int64) → Prop) (n : Nat) : Int32 → (Nat → Int32) → (Nat → Int64) → (Nat → Nat → Int32) → (Nat → Nat → Int64) → Prop := Nat.rec (fun _ _ _ _ _ => False) (fun _ r => wb_Program_takeProcess_ad6_2  r Post) n
def wp_Program_takeProcess_ad6 (I : Nat → Int32) (J : Nat → Int64) (B : Nat → Nat → Int32) (D : Nat → Nat → Int64) (Post : (Nat → Int32) → (Nat → Int64) → (Nat → Nat → Int32) → (Nat → Nat → Int64) → Prop) : Prop :=
  ∃ n : Nat, wl_Program_takeProcess_ad6_2  Post n 0 I J B D
set_option maxHeartbeats 8000000 in
set_option maxRecDepth 100000 in
theorem wJ_Program_takeProcess_ad6_81 {p : Program} {l : Launch} {e : Env} {s : State} {m : MethodId} {below : List Frame} {meth : Method} {c : Code} {A : Nat → Prop} (G : va_G) (K : Nat → ClassId) (ad : Nat → Nat) (sv : Value) (Post : (Nat → Int32) → (Nat → Int64) → (Nat → Nat → Int32) → (Nat → Nat → Int64) → Prop) (C : zCx p s m ([.ref (ad 3), .ref (ad 6)] : List Value).toArray meth c A G K prog_7_method_5_code none 4 "LassoFinder$Program") (K39 : Int32 → (Nat → Int32) → (Nat → Int64) → (Nat → Nat → Int32) → (Nat → Nat → Int64) → Prop) (kh39 : ∀ (x2 : Int32) (I : Nat → Int32) (J : Nat → Int64) (B : Nat → Nat → Int32) (D : Nat → Nat → Int64) (ls : Array Slot) (H : Heap) (locs : List Loc), K39 x2 I J B D → lv_has ls 4 [(0, .ref (ad 3)), (1, .ref (ad 6)), (2, .int x2)] → zW G A s.heap (wX ad K sv I J B D) H locs → W p l e { frames := 3, cells := 0, slots := 0, locals := 71 } s m ([.ref (ad 3), .ref (ad 6)] : List Value).toArray below meth c H locs 0 0 (MQ below (va_Qv (fun u : zS => Post u.1 u.2.1 u.2.2.1 u.2.2.2) (fun u t => zPost G K A (wX ad K sv u.1 u.2.1 u.2.2.1 u.2.2.2) t) A) ([.ref (ad 3), .ref (ad 6)] : List Value).toArray s 0 0 A) (F0 m 39 ls [])) : ∀ (x2 : Int32) (I : Nat → Int32) (J : Nat → Int64) (B : Nat → Nat → Int32) (D : Nat → Nat → Int64) (ls : Array Slot) (H : Heap) (locs : List Loc), wc_Program_takeProcess_ad6_81  K39 Post x2 I J B D → lv_has ls 4 [(0, .ref (ad 3)), (1, .ref (ad 6)), (2, .int x2)] → zW G A s.heap (wX ad K sv I J B D) H locs → W p l e { frames := 3, cells := 0, slots := 0, locals := 71 } s m ([.ref (ad 3), .ref (ad 6)] : List Value).toArray below meth c H locs 0 0 (MQ below (va_Qv (fun u : zS => Post u.1 u.2.1 u.2.2.1 u.2.2.2) (fun u t => zPost G K A (wX ad K sv u.1 u.2.1 u.2.2.1 u.2.2.2) t) A) ([.ref (ad 3), .ref (ad 6)] : List Value).toArray s 0 0 A) (F0 m 81 ls []) := by
  obtain ⟨hx, hb, hr, hml, hts, hown, hlocks, hA, hK⟩ := id C
  intro x2 I J B D ls H locs hok hl hw
  unfold wc_Program_takeProcess_ad6_81 at hok
  obtain ⟨z1, ez1⟩ : ∃ z : Int32, z = (x2 + 1) := ⟨_, rfl⟩
  have hok := hok z1 ez1
  refine lv_iinc (v := z1) hx hb zd_Program_takeProcess_81 hl (k := 2) rfl ez1.symm (by decide) rfl (fun ls hl => ?_)
  have hl : lv_has ls 4 [(2, .int z1), (0, .ref (ad 3)), (1, .ref (ad 6))] := hl
  refine lv_goto (tgt := 39) hx hb zd_Program_takeProcess_84 (by decide) ?_
  exact kh39 z1 I J B D ls H locs hok (lv_sub hl [1, 2, 0] rfl) hw
set_option maxHeartbeats 8000000 in
set_option maxRecDepth 100000 in
theorem wB_Program_takeProcess_ad6_39 {p : Program} {l : Launch} {e : Env} {s : State} {m : MethodId} {below : List Frame} {meth : Method} {c : Code} {A : Nat → Prop} (G : va_G) (K : Nat → ClassId) (ad : Nat → Nat) (sv : Value) (Post : (Nat → Int32) → (Nat → Int64) → (Nat → Nat → Int32) → (Nat → Nat → Int64) → Prop) (C : zCx p s m ([.ref (ad 3), .ref (ad 6)] : List Value).toArray meth c A G K prog_7_method_5_code none 4 "LassoFinder$Program") (K39 : Int32 → (Nat → Int32) → (Nat → Int64) → (Nat → Nat → Int32) → (Nat → Nat → Int64) → Prop) (kh39 : ∀ (x2 : Int32) (I : Nat → Int32) (J : Nat → Int64) (B : Nat → Nat → Int32) (D : Nat → Nat → Int64) (ls : Array Slot) (H : Heap) (locs : List Loc), K39 x2 I J B D → lv_has ls 4 [(0, .ref (ad 3)), (1, .ref (ad 6)), (2, .int x2)] → zW G A s.heap (wX ad K sv I J B D) H locs → W p l e { frames := 3, cells := 0, slots := 0, locals := 71 } s m ([.ref (ad 3), .ref (ad 6)] : List Value).toArray below meth c H locs 0 0 (MQ below (va_Qv (fun u : zS => Post u.1 u.2.1 u.2.2.1 u.2.2.2) (fun u t => zPost G K A (wX ad K sv u.1 u.2.1 u.2.2.1 u.2.2.2) t) A) ([.ref (ad 3), .ref (ad 6)] : List Value).toArray s 0 0 A) (F0 m 39 ls [])) : ∀ (x2 : Int32) (I : Nat → Int32) (J : Nat → Int64) (B : Nat → Nat → Int32) (D : Nat → Nat → Int64) (ls : Array Slot) (H : Heap) (locs : List Loc), wb_Program_takeProcess_ad6_39  K39 Post x2 I J B D → lv_has ls 4 [(0, .ref (ad 3)), (1, .ref (ad 6)), (2, .int x2)] → zW G A s.heap (wX ad K sv I J B D) H locs → W p l e { frames := 3, cells := 0, slots := 0, locals := 71 } s m ([.ref (ad 3), .ref (ad 6)] : List Value).toArray below meth c H locs 0 0 (MQ below (va_Qv (fun u : zS => Post u.1 u.2.1 u.2.2.1 u.2.2.2) (fun u t => zPost G K A (wX ad K sv u.1 u.2.1 u.2.2.1 u.2.2.2) t) A) ([.ref (ad 3), .ref (ad 6)] : List Value).toArray s 0 0 A) (F0 m 39 ls []) := by
  obtain ⟨hx, hb, hr, hml, hts, hown, hlocks, hA, hK⟩ := id C
  intro x2 I J B D ls H locs hok hl hw
  unfold wb_Program_takeProcess_ad6_39 at hok
  refine lv_iload_n hx hb zd_Program_takeProcess_39 rfl (lv_at hl 2 rfl) ?_
  refine lv_bipush (v := 8) hx hb zd_Program_takeProcess_40 (by decide) ?_
  refine lv_icmp_ge (tgt := 87) hx hb zd_Program_takeProcess_42 (by decide) (fun hc2 => ?_) (fun hc2 => ?_)
  · have hok := hok.1 hc2
    refine lv_aload_n hx hb zd_Program_takeProcess_87 rfl (lv_at hl 0 rfl) ?_
    refine z_get (v := .ref (ad 26)) hx hb hts hown hK hw zZ6 3 wX_g3 8 (by decide) zn_249 rfl zd_Program_takeProcess_88 ?_
    refine lv_aload_n hx hb zd_Program_takeProcess_91 rfl (lv_at hl 0 rfl) ?_
    refine z_get (v := .int (I 10)) hx hb hts hown hK hw zZ6 3 wX_g3 13 (by decide) zn_445 rfl zd_Program_takeProcess_92 ?_
    refine lv_aload_n hx hb zd_Program_takeProcess_95 rfl (lv_at hl 1 rfl) ?_
    refine lv_aload_n hx hb zd_Program_takeProcess_96 rfl (lv_at hl 1 rfl) ?_
    refine lv_iconst (v := 0) hx hb zd_Program_takeProcess_97 (by decide) ?_
    refine z_calli (w1 := fun (u : zS) => wX ad K sv u.1 u.2.1 u.2.2.1 u.2.2.2) (wr := []) (z_runV (q0 := 6) (wc := (wX ad K sv I J B D)) (As := [.int 0]) (rest := [.ref (ad 6), .int (I 10), .ref (ad 26)]) ⟨hx, hb, hml, hown, hts⟩ (w_Tree_settled l G K ad sv I J B D 0 _ H.size hok) zf_Tree_settled zn_384 ⟨Nat.le_of_ble_eq_true rfl, Nat.le_of_ble_eq_true rfl⟩ hK hw (List.range 65) wX_all wX_nd wX_g6 rfl rfl hl.1 rfl (Nat.le_of_ble_eq_true rfl) zd_Program_takeProcess_98 ⟨Nat.le_of_ble_eq_true rfl, Nat.le_of_ble_eq_true rfl⟩) hw hA (List.range 65) [] wX_all rfl (by decide) (fun i hi => by cases hi) (fun r3 u H locs hok hw => ?_)
    obtain ⟨I3, J3, B3, D3⟩ := u
    dsimp only at hok
    have hw : zW G A s.heap (wX ad K sv I3 J3 B3 D3) H locs := hw
    refine z_calli (w1 := fun (u : zS) => wX ad K sv u.1 u.2.1 u.2.2.1 u.2.2.2) (wr := []) (z_runV (q0 := 6) (wc := (wX ad K sv I3 J3 B3 D3)) (As := [.int r3]) (rest := [.int (I 10), .ref (ad 26)]) ⟨hx, hb, hml, hown, hts⟩ (w_Tree_pointAt l G K ad sv I3 J3 B3 D3 r3 _ H.size hok) zf_Tree_pointAt zn_385 ⟨Nat.le_of_ble_eq_true rfl, Nat.le_of_ble_eq_true rfl⟩ hK hw (List.range 65) wX_all wX_nd wX_g6 rfl rfl hl.1 rfl (Nat.le_of_ble_eq_true rfl) zd_Program_takeProcess_101 ⟨Nat.le_of_ble_eq_true rfl, Nat.le_of_ble_eq_true rfl⟩) hw hA (List.range 65) [] wX_all rfl (by decide) (fun i hi => by cases hi) (fun r4 u H locs hok hw => ?_)
    obtain ⟨I4, J4, B4, D4⟩ := u
    dsimp only at hok
    have hw : zW G A s.heap (wX ad K sv I4 J4 B4 D4) H locs := hw
    refine va_iast (f := (B4 13)) hx hb hK hw.1 hw.2.1 hw.2.2 26 0 wX_a26 rfl hok.1 zd_Program_takeProcess_104 (fun H locs w91 w92 w93 => ?_)
    have hok := hok.2
    have hw := wX_t26 ⟨w91, w92, w93⟩
    refine lv_aload_n hx hb zd_Program_takeProcess_105 rfl (lv_at hl 0 rfl) ?_
    refine lv_dup hx hb zd_Program_takeProcess_106 rfl ?_
    refine z_get (v := .int (I4 10)) hx hb hts hown hK hw zZ6 3 wX_g3 13 (by decide) zn_445 rfl zd_Program_takeProcess_107 ?_
    refine lv_iconst (v := 1) hx hb zd_Program_takeProcess_110 (by decide) ?_
    refine lv_iadd hx hb zd_Program_takeProcess_111 ?_
    refine lv_topi (fun z5 ez5 => ?_)
    have hok := hok z5 ez5
    refine z_put (v := .int z5) hx hb hts hown hK hw zZ6 3 wX_g3 13 (by decide) zn_445 rfl rfl rfl (Nat.le_of_ble_eq_true rfl) zd_Program_takeProcess_112 (fun H locs hw => ?_)
    have hw := wX_sI10 hw
    exact (z_vret (u := ((upd I4 10 z5), J4, (va_up B4 13 (upd (B4 13) (I 10).toNatClampNeg r4)), D4)) hx hb hr hlocks hw (List.range 65) wX_all wX_nd hok (Nat.le_of_ble_eq_true rfl) (Nat.le_of_ble_eq_true rfl) zd_Program_takeProcess_115)
  · have hok := hok.2 hc2
    refine lv_aload_n hx hb zd_Program_takeProcess_45 rfl (lv_at hl 1 rfl) ?_
    refine z_get (v := .ref (ad 42)) hx hb hts hown hK hw zZ10 6 wX_g6 10 (by decide) zn_454 rfl zd_Program_takeProcess_46 ?_
    refine lv_iload_n hx hb zd_Program_takeProcess_49 rfl (lv_at hl 2 rfl) ?_
    refine va_iald (f := (B 28)) hx hb hK hw.1 42 0 wX_a42 rfl hok.1 zd_Program_takeProcess_50 ?_
    have hok := hok.2
    refine lv_topi (fun z6 ez6 => ?_)
    have hok := hok z6 ez6
    refine lv_istore_n hx hb zd_Program_takeProcess_51 rfl hl (by decide) rfl (fun ls hl => ?_)
    have hl : lv_has ls 4 [(3, .int z6), (0, .ref (ad 3)), (1, .ref (ad 6)), (2, .int x2)] := hl
    refine lv_iload_n hx hb zd_Program_takeProcess_52 rfl (lv_at hl 0 rfl) ?_
    refine lv_bipush (v := (-3)) hx hb zd_Program_takeProcess_53 (by decide) ?_
    refine lv_icmp_eq (tgt := 81) hx hb zd_Program_takeProcess_55 (by decide) (fun hc7 => ?_) (fun hc7 => ?_)
    · have hok := hok.1 hc7
      exact wJ_Program_takeProcess_ad6_81 G K ad sv  Post C K39 kh39 x2 I J B D ls H locs hok (lv_sub hl [1, 2, 3] rfl) hw
    · have hok := hok.2 hc7
      refine lv_aload_n hx hb zd_Program_takeProcess_58 rfl (lv_at hl 1 rfl) ?_
      refine z_get (v := .ref (ad 27)) hx hb hts hown hK hw zZ6 3 wX_g3 9 (by decide) zn_250 rfl zd_Program_takeProcess_59 ?_
      refine lv_aload_n hx hb zd_Program_takeProcess_62 rfl (lv_at hl 1 rfl) ?_
      refine z_get (v := .int (I 10)) hx hb hts hown hK hw zZ6 3 wX_g3 13 (by decide) zn_445 rfl zd_Program_takeProcess_63 ?_
      refine lv_bipush (v := 8) hx hb zd_Program_takeProcess_66 (by decide) ?_
      refine lv_imul hx hb zd_Program_takeProcess_68 ?_
      refine lv_topi (fun z8 ez8 => ?_)
      have hok := hok z8 ez8
      refine lv_iload_n hx hb zd_Program_takeProcess_69 rfl (lv_at hl 3 rfl) ?_
      refine lv_iadd hx hb zd_Program_takeProcess_70 ?_
      refine lv_topi (fun z9 ez9 => ?_)
      have hok := hok z9 ez9
      refine lv_aload_n hx hb zd_Program_takeProcess_71 rfl (lv_at hl 2 rfl) ?_
      refine lv_aload_n hx hb zd_Program_takeProcess_72 rfl (lv_at hl 2 rfl) ?_
      refine lv_iload_n hx hb zd_Program_takeProcess_73 rfl (lv_at hl 0 rfl) ?_
      refine z_calli (w1 := fun (u : zS) => wX ad K sv u.1 u.2.1 u.2.2.1 u.2.2.2) (wr := []) (z_runV (q0 := 6) (wc := (wX ad K sv I J B D)) (As := [.int z6]) (rest := [.ref (ad 6), .int z9, .ref (ad 27)]) ⟨hx, hb, hml, hown, hts⟩ (w_Tree_settled l G K ad sv I J B D z6 _ H.size hok) zf_Tree_settled zn_384 ⟨Nat.le_of_ble_eq_true rfl, Nat.le_of_ble_eq_true rfl⟩ hK hw (List.range 65) wX_all wX_nd wX_g6 rfl rfl hl.1 rfl (Nat.le_of_ble_eq_true rfl) zd_Program_takeProcess_74 ⟨Nat.le_of_ble_eq_true rfl, Nat.le_of_ble_eq_true rfl⟩) hw hA (List.range 65) [] wX_all rfl (by decide) (fun i hi => by cases hi) (fun r10 u H locs hok hw => ?_)
      obtain ⟨I10, J10, B10, D10⟩ := u
      dsimp only at hok
      have hw : zW G A s.heap (wX ad K sv I10 J10 B10 D10) H locs := hw
      refine z_calli (w1 := fun (u : zS) => wX ad K sv u.1 u.2.1 u.2.2.1 u.2.2.2) (wr := []) (z_runV (q0 := 6) (wc := (wX ad K sv I10 J10 B10 D10)) (As := [.int r10]) (rest := [.int z9, .ref (ad 27)]) ⟨hx, hb, hml, hown, hts⟩ (w_Tree_pointAt l G K ad sv I10 J10 B10 D10 r10 _ H.size hok) zf_Tree_pointAt zn_385 ⟨Nat.le_of_ble_eq_true rfl, Nat.le_of_ble_eq_true rfl⟩ hK hw (List.range 65) wX_all wX_nd wX_g6 rfl rfl hl.1 rfl (Nat.le_of_ble_eq_true rfl) zd_Program_takeProcess_77 ⟨Nat.le_of_ble_eq_true rfl, Nat.le_of_ble_eq_true rfl⟩) hw hA (List.range 65) [] wX_all rfl (by decide) (fun i hi => by cases hi) (fun r11 u H locs hok hw => ?_)
      obtain ⟨I11, J11, B11, D11⟩ := u
      dsimp only at hok
      have hw : zW G A s.heap (wX ad K sv I11 J11 B11 D11) H locs := hw
      refine va_iast (f := (B11 14)) hx hb hK hw.1 hw.2.1 hw.2.2 27 0 wX_a27 rfl hok.1 zd_Program_takeProcess_80 (fun H locs w91 w92 w93 => ?_)
      have hok := hok.2
      have hw := wX_t27 ⟨w91, w92, w93⟩
      exact wJ_Program_takeProcess_ad6_81 G K ad sv  Post C K39 kh39 x2 I11 J11 (va_up B11 14 (upd (B11 14) z9.toNatClampNeg r11)) D11 ls H locs hok (lv_sub hl [1, 2, 3] rfl) hw
theorem wL_Program_takeProcess_ad6_39 {p : Program} {l : Launch} {e : Env} {s : State} {m : MethodId} {below : List Frame} {meth : Method} {c : Code} {A : Nat → Prop} (G : va_G) (K : Nat → ClassId) (ad : Nat → Nat) (sv : Value) (Post : (Nat → Int32) → (Nat → Int64) → (Nat → Nat → Int32) → (Nat → Nat → Int64) → Prop) (C : zCx p s m ([.ref (ad 3), .ref (ad 6)] : List Value).toArray meth c A G K prog_7_method_5_code none 4 "LassoFinder$Program") : ∀ (n : Nat) (x2 : Int32) (I : Nat → Int32) (J : Nat → Int64) (B : Nat → Nat → Int32) (D : Nat → Nat → Int64) (ls : Array Slot) (H : Heap) (locs : List Loc), wl_Program_takeProcess_ad6_39  Post n x2 I J B D → lv_has ls 4 [(0, .ref (ad 3)), (1, .ref (ad 6)), (2, .int x2)] → zW G A s.heap (wX ad K sv I J B D) H locs → W p l e { frames := 3, cells := 0, slots := 0, locals := 71 } s m ([.ref (ad 3), .ref (ad 6)] : List Value).toArray below meth c H locs 0 0 (MQ below (va_Qv (fun u : zS => Post u.1 u.2.1 u.2.2.1 u.2.2.2) (fun u t => zPost G K A (wX ad K sv u.1 u.2.1 u.2.2.1 u.2.2.2) t) A) ([.ref (ad 3), .ref (ad 6)] : List Value).toArray s 0 0 A) (F0 m 39 ls []) := by
  intro n
  induction n with
  | zero => intro x2 I J B D ls H locs hok; exact hok.elim
  | succ n ih => exact wB_Program_takeProcess_ad6_39 G K ad sv  Post C (wl_Program_takeProcess_ad6_39  Post n) ih
set_option maxHeartbeats 8000000 in
set_option maxRecDepth 100000 in
theorem wJ_Program_takeProcess_ad6_31 {p : Program} {l : Launch} {e : Env} {s : State} {m : MethodId} {below : List Frame} {meth : Method} {c : Code} {A : Nat → Prop} (G : va_G) (K : Nat → ClassId) (ad : Nat → Nat) (sv : Value) (Post : (Nat → Int32) → (Nat → Int64) → (Nat → Nat → Int32) → (Nat → Nat → Int64) → Prop) (C : zCx p s m ([.ref (ad 3), .ref (ad 6)] : List Value).toArray meth c A G K prog_7_method_5_code none 4 "LassoFinder$Program") (K2 : Int32 → (Nat → Int32) → (Nat → Int64) → (Nat → Nat → Int32) → (Nat → Nat → Int64) → Prop) (kh2 : ∀ (x2 : Int32) (I : Nat → Int32) (J : Nat → Int64) (B : Nat → Nat → Int32) (D : Nat → Nat → Int64) (ls : Array Slot) (H : Heap) (locs : List Loc), K2 x2 I J B D → lv_has ls 4 [(0, .ref (ad 3)), (1, .ref (ad 6)), (2, .int x2)] → zW G A s.heap (wX ad K sv I J B D) H locs → W p l e { frames := 3, cells := 0, slots := 0, locals := 71 } s m ([.ref (ad 3), .ref (ad 6)] : List Value).toArray below meth c H locs 0 0 (MQ below (va_Qv (fun u : zS => Post u.1 u.2.1 u.2.2.1 u.2.2.2) (fun u t => zPost G K A (wX ad K sv u.1 u.2.1 u.2.2.1 u.2.2.2) t) A) ([.ref (ad 3), .ref (ad 6)] : List Value).toArray s 0 0 A) (F0 m 2 ls [])) : ∀ (x2 : Int32) (I : Nat → Int32) (J : Nat → Int64) (B : Nat → Nat → Int32) (D : Nat → Nat → Int64) (ls : Array Slot) (H : Heap) (locs : List Loc), wc_Program_takeProcess_ad6_31  K2 Post x2 I J B D → lv_has ls 4 [(0, .ref (ad 3)), (1, .ref (ad 6)), (2, .int x2)] → zW G A s.heap (wX ad K sv I J B D) H locs → W p l e { frames := 3, cells := 0, slots := 0, locals := 71 } s m ([.ref (ad 3), .ref (ad 6)] : List Value).toArray below meth c H locs 0 0 (MQ below (va_Qv (fun u : zS => Post u.1 u.2.1 u.2.2.1 u.2.2.2) (fun u t => zPost G K A (wX ad K sv u.1 u.2.1 u.2.2.1 u.2.2.2) t) A) ([.ref (ad 3), .ref (ad 6)] : List Value).toArray s 0 0 A) (F0 m 31 ls []) := by
  obtain ⟨hx, hb, hr, hml, hts, hown, hlocks, hA, hK⟩ := id C
  intro x2 I J B D ls H locs hok hl hw
  unfold wc_Program_takeProcess_ad6_31 at hok
  obtain ⟨z12, ez12⟩ : ∃ z : Int32, z = (x2 + 1) := ⟨_, rfl⟩
  have hok := hok z12 ez12
  refine lv_iinc (v := z12) hx hb zd_Program_takeProcess_31 hl (k := 2) rfl ez12.symm (by decide) rfl (fun ls hl => ?_)
  have hl : lv_has ls 4 [(2, .int z12), (0, .ref (ad 3)), (1, .ref (ad 6))] := hl
  refine lv_goto (tgt := 2) hx hb zd_Program_takeProcess_34 (by decide) ?_
  exact kh2 z12 I J B D ls H locs hok (lv_sub hl [1, 2, 0] rfl) hw
set_option maxHeartbeats 8000000 in
set_option maxRecDepth 100000 in
theorem wB_Program_takeProcess_ad6_2 {p : Program} {l : Launch} {e : Env} {s : State} {m : MethodId} {below : List Frame} {meth : Method} {c : Code} {A : Nat → Prop} (G : va_G) (K : Nat → ClassId) (ad : Nat → Nat) (sv : Value) (Post : (Nat → Int32) → (Nat → Int64) → (Nat → Nat → Int32) → (Nat → Nat → Int64) → Prop) (C : zCx p s m ([.ref (ad 3), .ref (ad 6)] : List Value).toArray meth c A G K prog_7_method_5_code none 4 "LassoFinder$Program") (K2 : Int32 → (Nat → Int32) → (Nat → Int64) → (Nat → Nat → Int32) → (Nat → Nat → Int64) → Prop) (kh2 : ∀ (x2 : Int32) (I : Nat → Int32) (J : Nat → Int64) (B : Nat → Nat → Int32) (D : Nat → Nat → Int64) (ls : Array Slot) (H : Heap) (locs : List Loc), K2 x2 I J B D → lv_has ls 4 [(0, .ref (ad 3)), (1, .ref (ad 6)), (2, .int x2)] → zW G A s.heap (wX ad K sv I J B D) H locs → W p l e { frames := 3, cells := 0, slots := 0, locals := 71 } s m ([.ref (ad 3), .ref (ad 6)] : List Value).toArray below meth c H locs 0 0 (MQ below (va_Qv (fun u : zS => Post u.1 u.2.1 u.2.2.1 u.2.2.2) (fun u t => zPost G K A (wX ad K sv u.1 u.2.1 u.2.2.1 u.2.2.2) t) A) ([.ref (ad 3), .ref (ad 6)] : List Value).toArray s 0 0 A) (F0 m 2 ls [])) : ∀ (x2 : Int32) (I : Nat → Int32) (J : Nat → Int64) (B : Nat → Nat → Int32) (D : Nat → Nat → Int64) (ls : Array Slot) (H : Heap) (locs : List Loc), wb_Program_takeProcess_ad6_2  K2 Post x2 I J B D → lv_has ls 4 [(0, .ref (ad 3)), (1, .ref (ad 6)), (2, .int x2)] → zW G A s.heap (wX ad K sv I J B D) H locs → W p l e { frames := 3, cells := 0, slots := 0, locals := 71 } s m ([.ref (ad 3), .ref (ad 6)] : List Value).toArray below meth c H locs 0 0 (MQ below (va_Qv (fun u : zS => Post u.1 u.2.1 u.2.2.1 u.2.2.2) (fun u t => zPost G K A (wX ad K sv u.1 u.2.1 u.2.2.1 u.2.2.2) t) A) ([.ref (ad 3), .ref (ad 6)] : List Value).toArray s 0 0 A) (F0 m 2 ls []) := by
  obtain ⟨hx, hb, hr, hml, hts, hown, hlocks, hA, hK⟩ := id C
  intro x2 I J B D ls H locs hok hl hw
  unfold wb_Program_takeProcess_ad6_2 at hok
  refine lv_iload_n hx hb zd_Program_takeProcess_2 rfl (lv_at hl 2 rfl) ?_
  refine lv_aload_n hx hb zd_Program_takeProcess_3 rfl (lv_at hl 1 rfl) ?_
  refine z_get (v := .int (I 16)) hx hb hts hown hK hw zZ10 6 wX_g6 11 (by decide) zn_452 rfl zd_Program_takeProcess_4 ?_
  refine lv_icmp_ge (tgt := 37) hx hb zd_Program_takeProcess_7 (by decide) (fun hc13 => ?_) (fun hc13 => ?_)
  · have hok := hok.1 hc13
    refine lv_iconst (v := 0) hx hb zd_Program_takeProcess_37 (by decide) ?_
    refine lv_istore_n hx hb zd_Program_takeProcess_38 rfl hl (by decide) rfl (fun ls hl => ?_)
    have hl : lv_has ls 4 [(2, .int 0), (0, .ref (ad 3)), (1, .ref (ad 6))] := hl
    obtain ⟨n9, hok⟩ := hok
    exact wL_Program_takeProcess_ad6_39 G K ad sv  Post C n9 0 I J B D ls H locs hok (lv_sub hl [1, 2, 0] rfl) hw
  · have hok := hok.2 hc13
    refine lv_aload_n hx hb zd_Program_takeProcess_10 rfl (lv_at hl 1 rfl) ?_
    refine z_get (v := .ref (ad 32)) hx hb hts hown hK hw zZ10 6 wX_g6 0 (by decide) zn_453 rfl zd_Program_takeProcess_11 ?_
    refine lv_iload_n hx hb zd_Program_takeProcess_14 rfl (lv_at hl 2 rfl) ?_
    refine va_iald (f := (B 18)) hx hb hK hw.1 32 0 wX_a32 rfl hok.1 zd_Program_takeProcess_15 ?_
    have hok := hok.2
    refine lv_topi (fun z14 ez14 => ?_)
    have hok := hok z14 ez14
    refine lv_if_ne (tgt := 31) hx hb zd_Program_takeProcess_16 (by decide) (fun hc15 => ?_) (fun hc15 => ?_)
    · have hok := hok.1 hc15
      exact wJ_Program_takeProcess_ad6_31 G K ad sv  Post C K2 kh2 x2 I J B D ls H locs hok (lv_sub hl [0, 1, 2] rfl) hw
    · have hok := hok.2 hc15
      refine lv_aload_n hx hb zd_Program_takeProcess_19 rfl (lv_at hl 0 rfl) ?_
      refine lv_aload_n hx hb zd_Program_takeProcess_20 rfl (lv_at hl 1 rfl) ?_
      refine lv_iload_n hx hb zd_Program_takeProcess_21 rfl (lv_at hl 2 rfl) ?_
      refine z_callv (w1 := fun (u : zS) => wX ad K sv u.1 u.2.1 u.2.2.1 u.2.2.2) (wr := []) (z_runV (q0 := 3) (wc := (wX ad K sv I J B D)) (As := [.ref (ad 6), .int x2]) (rest := []) ⟨hx, hb, hml, hown, hts⟩ (w_Program_takeWay_ad6 l G K ad sv I J B D x2 _ H.size hok) zf_Program_takeWay zn_382 ⟨Nat.le_of_ble_eq_true rfl, Nat.le_of_ble_eq_true rfl⟩ hK hw (List.range 65) wX_all wX_nd wX_g3 rfl rfl hl.1 rfl (Nat.le_of_ble_eq_true rfl) zd_Program_takeProcess_22 ⟨Nat.le_of_ble_eq_true rfl, Nat.le_of_ble_eq_true rfl⟩) hw hA (List.range 65) [] wX_all rfl (by decide) (fun i hi => by cases hi) (fun u H locs hok hw => ?_)
      obtain ⟨I16, J16, B16, D16⟩ := u
      dsimp only at hok
      have hw : zW G A s.heap (wX ad K sv I16 J16 B16 D16) H locs := hw
      refine lv_aload_n hx hb zd_Program_takeProcess_25 rfl (lv_at hl 0 rfl) ?_
      refine lv_aload_n hx hb zd_Program_takeProcess_26 rfl (lv_at hl 1 rfl) ?_
      refine lv_iload_n hx hb zd_Program_takeProcess_27 rfl (lv_at hl 2 rfl) ?_
      refine z_callv (w1 := fun (u : zS) => wX ad K sv u.1 u.2.1 u.2.2.1 u.2.2.2) (wr := []) (z_runV (q0 := 3) (wc := (wX ad K sv I16 J16 B16 D16)) (As := [.ref (ad 6), .int x2]) (rest := []) ⟨hx, hb, hml, hown, hts⟩ (w_Program_takePlaces_ad6 l G K ad sv I16 J16 B16 D16 x2 _ H.size hok) zf_Program_takePlaces zn_386 ⟨Nat.le_of_ble_eq_true rfl, Nat.le_of_ble_eq_true rfl⟩ hK hw (List.range 65) wX_all wX_nd wX_g3 rfl rfl hl.1 rfl (Nat.le_of_ble_eq_true rfl) zd_Program_takeProcess_28 ⟨Nat.le_of_ble_eq_true rfl, Nat.le_of_ble_eq_true rfl⟩) hw hA (List.range 65) [] wX_all rfl (by decide) (fun i hi => by cases hi) (fun u H locs hok hw => ?_)
      obtain ⟨I17, J17, B17, D17⟩ := u
      dsimp only at hok
      have hw : zW G A s.heap (wX ad K sv I17 J17 B17 D17) H locs := hw
      exact wJ_Program_takeProcess_ad6_31 G K ad sv  Post C K2 kh2 x2 I17 J17 B17 D17 ls H locs hok (lv_sub hl [0, 1, 2] rfl) hw
theorem wL_Program_takeProcess_ad6_2 {p : Program} {l : Launch} {e : Env} {s : State} {m : MethodId} {below : List Frame} {meth : Method} {c : Code} {A : Nat → Prop} (G : va_G) (K : Nat → ClassId) (ad : Nat → Nat) (sv : Value) (Post : (Nat → Int32) → (Nat → Int64) → (Nat → Nat → Int32) → (Nat → Nat → Int64) → Prop) (C : zCx p s m ([.ref (ad 3), .ref (ad 6)] : List Value).toArray meth c A G K prog_7_method_5_code none 4 "LassoFinder$Program") : ∀ (n : Nat) (x2 : Int32) (I : Nat → Int32) (J : Nat → Int64) (B : Nat → Nat → Int32) (D : Nat → Nat → Int64) (ls : Array Slot) (H : Heap) (locs : List Loc), wl_Program_takeProcess_ad6_2  Post n x2 I J B D → lv_has ls 4 [(0, .ref (ad 3)), (1, .ref (ad 6)), (2, .int x2)] → zW G A s.heap (wX ad K sv I J B D) H locs → W p l e { frames := 3, cells := 0, slots := 0, locals := 71 } s m ([.ref (ad 3), .ref (ad 6)] : List Value).toArray below meth c H locs 0 0 (MQ below (va_Qv (fun u : zS => Post u.1 u.2.1 u.2.2.1 u.2.2.2) (fun u t => zPost G K A (wX ad K sv u.1 u.2.1 u.2.2.1 u.2.2.2) t) A) ([.ref (ad 3), .ref (ad 6)] : List Value).toArray s 0 0 A) (F0 m 2 ls []) := by
  intro n
  induction n with
  | zero => intro x2 I J B D ls H locs hok; exact hok.elim
  | succ n ih => exact wB_Program_takeProcess_ad6_2 G K ad sv  Post C (wl_Program_takeProcess_ad6_2  Post n) ih
set_option maxHeartbeats 8000000 in
set_option maxRecDepth 100000 in
theorem w_Program_takeProcess_ad6 (l : Launch) (G : va_G) (K : Nat → ClassId) (ad : Nat → Nat) (sv : Value) (I : Nat → Int32) (J : Nat → Int64) (B : Nat → Nat → Int32) (D : Nat → Nat → Int64) (Post : (Nat → Int32) → (Nat → Int64) → (Nat → Nat → Int32) → (Nat → Nat → Int64) → Prop) (sz : Nat) (hok : wp_Program_takeProcess_ad6 I J B D  Post) : Met l zy_Program_takeProcess (Cond.code zy_Program_takeProcess prog_7_method_5_code 4 none :: zTB) { frames := 3, cells := 0, slots := 0, locals := 71 } (va_Pc [.ref (ad 3), .ref (ad 6)] (zPre G K (wX ad K sv I J B D) sz)) (va_Qv (fun u : zS => Post u.1 u.2.1 u.2.2.1 u.2.2.2) (fun u t => zPost G K (va_A (wX ad K sv I J B D) sz) (wX ad K sv u.1 u.2.1 u.2.2.1 u.2.2.2) t) (va_A (wX ad K sv I J B D) sz)) 0 0 (va_A (wX ad K sv I J B D) sz) := by
  refine zMet (y := zy_Program_takeProcess) (av := [.ref (ad 3), .ref (ad 6)]) (maxL := 4) (cc := prog_7_method_5_code) (ret := none) (W0 := (wX ad K sv I J B D)) (sz := sz) (G := G) (K := K) (wt := zTB) (mc := 0) (ms := 0) (Qf := fun A => va_Qv (fun u : zS => Post u.1 u.2.1 u.2.2.1 u.2.2.2) (fun u t => zPost G K A (wX ad K sv u.1 u.2.1 u.2.2.1 u.2.2.2) t) A) (by decide) (Nat.le_of_ble_eq_true rfl) ?_
  intro p e s m below meth c ls A hx hb hr hml hts hown hlocks hin hA hK H locs hw hsz hl
  clear hsz
  have hown : s.vm.findClass "LassoFinder$Program" = some m.cls := hown
  have C : zCx p s m ([.ref (ad 3), .ref (ad 6)] : List Value).toArray meth c A G K prog_7_method_5_code none 4 "LassoFinder$Program" := ⟨hx, hb, hr, hml, hts, hown, hlocks, hA, hK⟩
  have hl : lv_has ls 4 [(0, .ref (ad 3)), (1, .ref (ad 6))] := hl
  have hw : zW G A s.heap (wX ad K sv I J B D) H locs := hw
  unfold wp_Program_takeProcess_ad6 at hok
  refine lv_iconst (v := 0) hx hb zd_Program_takeProcess_0 (by decide) ?_
  refine lv_istore_n hx hb zd_Program_takeProcess_1 rfl hl (by decide) rfl (fun ls hl => ?_)
  have hl : lv_has ls 4 [(2, .int 0), (0, .ref (ad 3)), (1, .ref (ad 6))] := hl
  obtain ⟨n9, hok⟩ := hok
  exact wL_Program_takeProcess_ad6_2 G K ad sv  Post C n9 0 I J B D ls H locs hok (lv_sub hl [1, 2, 0] rfl) hw
