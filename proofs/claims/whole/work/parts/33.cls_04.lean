abbrev zy_Terms_signOf : MethodName := ⟨"LassoFinder$Terms", "signOf", "(C)I"⟩
abbrev zy_ModelReader_checkJumps : MethodName := ⟨"LassoFinder$ModelReader", "checkJumps", "()V"⟩
abbrev zy_Tree_settled : MethodName := ⟨"LassoFinder$Tree", "settled", "(I)I"⟩
abbrev zy_Tree_behind : MethodName := ⟨"LassoFinder$Tree", "behind", "(I)I"⟩
abbrev zy_Text_refuseAt : MethodName := ⟨"LassoFinder$Text", "refuseAt", "(I)V"⟩
abbrev zy_Tree_pointAt : MethodName := ⟨"LassoFinder$Tree", "pointAt", "(I)I"⟩
theorem zn_354 : Cond.methodLink "LassoFinder$ModelReader" 117 ⟨"LassoFinder$Tree", "settled", "(I)I"⟩ ∈ zTB := z_in (zt_4 _ (List.mem_of_getElem? (i := 104) rfl)) rfl
theorem zn_355 : Cond.methodLink "LassoFinder$Tree" 70 ⟨"LassoFinder$Tree", "behind", "(I)I"⟩ ∈ zTB := z_in (zt_4 _ (List.mem_of_getElem? (i := 108) rfl)) rfl
theorem zn_356 : Cond.methodLink "LassoFinder$ModelReader" 124 ⟨"LassoFinder$Text", "refuseAt", "(I)V"⟩ ∈ zTB := z_in (zt_4 _ (List.mem_of_getElem? (i := 112) rfl)) rfl
theorem zn_545 : Cond.code ⟨"LassoFinder$Text", "refuseAt", "(I)V"⟩ prog_10_method_12_code 2 none ∈ zTB := z_in (zt_4 _ (List.mem_of_getElem? (i := 115) rfl)) rfl
theorem zn_546 : Cond.selects "LassoFinder$Text" ⟨"LassoFinder$Text", "refuseAt", "(I)V"⟩ ⟨"LassoFinder$Text", "refuseAt", "(I)V"⟩ ∈ zTB := z_in (zt_4 _ (List.mem_of_getElem? (i := 114) rfl)) rfl
theorem zn_547 : Cond.instanceMethod ⟨"LassoFinder$Text", "refuseAt", "(I)V"⟩ ∈ zTB := z_in (zt_4 _ (List.mem_of_getElem? (i := 113) rfl)) rfl
theorem zn_548 : Cond.code ⟨"LassoFinder$Tree", "behind", "(I)I"⟩ prog_11_method_6_code 4 (some .int) ∈ zTB := z_in (zt_4 _ (List.mem_of_getElem? (i := 111) rfl)) rfl
theorem zn_549 : Cond.selects "LassoFinder$Tree" ⟨"LassoFinder$Tree", "behind", "(I)I"⟩ ⟨"LassoFinder$Tree", "behind", "(I)I"⟩ ∈ zTB := z_in (zt_4 _ (List.mem_of_getElem? (i := 110) rfl)) rfl
theorem zn_550 : Cond.instanceMethod ⟨"LassoFinder$Tree", "behind", "(I)I"⟩ ∈ zTB := z_in (zt_4 _ (List.mem_of_getElem? (i := 109) rfl)) rfl
theorem zn_551 : Cond.code ⟨"LassoFinder$Tree", "settled", "(I)I"⟩ prog_11_method_7_code 4 (some .int) ∈ zTB := z_in (zt_4 _ (List.mem_of_getElem? (i := 107) rfl)) rfl
theorem zn_552 : Cond.selects "LassoFinder$Tree" ⟨"LassoFinder$Tree", "settled", "(I)I"⟩ ⟨"LassoFinder$Tree", "settled", "(I)I"⟩ ∈ zTB := z_in (zt_4 _ (List.mem_of_getElem? (i := 106) rfl)) rfl
theorem zn_553 : Cond.instanceMethod ⟨"LassoFinder$Tree", "settled", "(I)I"⟩ ∈ zTB := z_in (zt_4 _ (List.mem_of_getElem? (i := 105) rfl)) rfl
theorem zf_Text_refuseAt : zFaceV zy_Text_refuseAt prog_10_method_12_code 2 none 1 := ⟨zn_547, zn_546, zm_19, zn_545, by decide +kernel, by decide +kernel, by decide +kernel⟩
theorem zf_Tree_behind : zFaceV zy_Tree_behind prog_11_method_6_code 4 (some .int) 1 := ⟨zn_550, zn_549, zm_21, zn_548, by decide +kernel, by decide +kernel, by decide +kernel⟩
theorem zf_Tree_settled : zFaceV zy_Tree_settled prog_11_method_7_code 4 (some .int) 1 := ⟨zn_553, zn_552, zm_21, zn_551, by decide +kernel, by decide +kernel, by decide +kernel⟩
theorem zd_ModelReader_checkJumps_0 : decode prog_5_method_5_code 0 = .ok (.iconst 0, 1) := by decide +kernel
theorem zd_ModelReader_checkJumps_1 : decode prog_5_method_5_code 1 = .ok (.istore_n 1, 1) := by decide +kernel
theorem zd_ModelReader_checkJumps_2 : decode prog_5_method_5_code 2 = .ok (.iload_n 1, 1) := by decide +kernel
theorem zd_ModelReader_checkJumps_3 : decode prog_5_method_5_code 3 = .ok (.aload_n 0, 1) := by decide +kernel
theorem zd_ModelReader_checkJumps_4 : decode prog_5_method_5_code 4 = .ok (.getfield 30, 3) := by decide +kernel
theorem zd_ModelReader_checkJumps_7 : decode prog_5_method_5_code 7 = .ok (.getfield 107, 3) := by decide +kernel
theorem zd_ModelReader_checkJumps_10 : decode prog_5_method_5_code 10 = .ok (.if_icmp .ge 83, 3) := by decide +kernel
theorem zd_ModelReader_checkJumps_13 : decode prog_5_method_5_code 13 = .ok (.aload_n 0, 1) := by decide +kernel
theorem zd_ModelReader_checkJumps_14 : decode prog_5_method_5_code 14 = .ok (.getfield 30, 3) := by decide +kernel
theorem zd_ModelReader_checkJumps_17 : decode prog_5_method_5_code 17 = .ok (.getfield 110, 3) := by decide +kernel
theorem zd_ModelReader_checkJumps_20 : decode prog_5_method_5_code 20 = .ok (.iload_n 1, 1) := by decide +kernel
theorem zd_ModelReader_checkJumps_21 : decode prog_5_method_5_code 21 = .ok (.iaload, 1) := by decide +kernel
theorem zd_ModelReader_checkJumps_22 : decode prog_5_method_5_code 22 = .ok (.iconst 5, 1) := by decide +kernel
theorem zd_ModelReader_checkJumps_23 : decode prog_5_method_5_code 23 = .ok (.if_icmp .ne 64, 3) := by decide +kernel
theorem zd_ModelReader_checkJumps_26 : decode prog_5_method_5_code 26 = .ok (.aload_n 0, 1) := by decide +kernel
theorem zd_ModelReader_checkJumps_27 : decode prog_5_method_5_code 27 = .ok (.getfield 30, 3) := by decide +kernel
theorem zd_ModelReader_checkJumps_30 : decode prog_5_method_5_code 30 = .ok (.getfield 111, 3) := by decide +kernel
theorem zd_ModelReader_checkJumps_33 : decode prog_5_method_5_code 33 = .ok (.aload_n 0, 1) := by decide +kernel
theorem zd_ModelReader_checkJumps_34 : decode prog_5_method_5_code 34 = .ok (.getfield 30, 3) := by decide +kernel
theorem zd_ModelReader_checkJumps_37 : decode prog_5_method_5_code 37 = .ok (.getfield 114, 3) := by decide +kernel
theorem zd_ModelReader_checkJumps_40 : decode prog_5_method_5_code 40 = .ok (.iload_n 1, 1) := by decide +kernel
theorem zd_ModelReader_checkJumps_41 : decode prog_5_method_5_code 41 = .ok (.iaload, 1) := by decide +kernel
theorem zd_ModelReader_checkJumps_42 : decode prog_5_method_5_code 42 = .ok (.iaload, 1) := by decide +kernel
theorem zd_ModelReader_checkJumps_43 : decode prog_5_method_5_code 43 = .ok (.bipush (-3), 2) := by decide +kernel
theorem zd_ModelReader_checkJumps_45 : decode prog_5_method_5_code 45 = .ok (.if_icmp .ne 7, 3) := by decide +kernel
theorem zd_ModelReader_checkJumps_48 : decode prog_5_method_5_code 48 = .ok (.iconst 1, 1) := by decide +kernel
theorem zd_ModelReader_checkJumps_49 : decode prog_5_method_5_code 49 = .ok (.goto 4, 3) := by decide +kernel
theorem zd_ModelReader_checkJumps_52 : decode prog_5_method_5_code 52 = .ok (.iconst 0, 1) := by decide +kernel
theorem zd_ModelReader_checkJumps_53 : decode prog_5_method_5_code 53 = .ok (.istore_n 2, 1) := by decide +kernel
theorem zd_ModelReader_checkJumps_54 : decode prog_5_method_5_code 54 = .ok (.iload_n 2, 1) := by decide +kernel
theorem zd_ModelReader_checkJumps_55 : decode prog_5_method_5_code 55 = .ok (.ifCond .ne 16, 3) := by decide +kernel
theorem zd_ModelReader_checkJumps_58 : decode prog_5_method_5_code 58 = .ok (.aload_n 0, 1) := by decide +kernel
theorem zd_ModelReader_checkJumps_59 : decode prog_5_method_5_code 59 = .ok (.getfield 30, 3) := by decide +kernel
theorem zd_ModelReader_checkJumps_62 : decode prog_5_method_5_code 62 = .ok (.iload_n 1, 1) := by decide +kernel
theorem zd_ModelReader_checkJumps_63 : decode prog_5_method_5_code 63 = .ok (.invokevirtual 117, 3) := by decide +kernel
theorem zd_ModelReader_checkJumps_66 : decode prog_5_method_5_code 66 = .ok (.bipush (-4), 2) := by decide +kernel
theorem zd_ModelReader_checkJumps_68 : decode prog_5_method_5_code 68 = .ok (.if_icmp .ne 19, 3) := by decide +kernel
theorem zd_ModelReader_checkJumps_71 : decode prog_5_method_5_code 71 = .ok (.aload_n 0, 1) := by decide +kernel
theorem zd_ModelReader_checkJumps_72 : decode prog_5_method_5_code 72 = .ok (.getfield 9, 3) := by decide +kernel
theorem zd_ModelReader_checkJumps_75 : decode prog_5_method_5_code 75 = .ok (.aload_n 0, 1) := by decide +kernel
theorem zd_ModelReader_checkJumps_76 : decode prog_5_method_5_code 76 = .ok (.getfield 30, 3) := by decide +kernel
theorem zd_ModelReader_checkJumps_79 : decode prog_5_method_5_code 79 = .ok (.getfield 121, 3) := by decide +kernel
theorem zd_ModelReader_checkJumps_82 : decode prog_5_method_5_code 82 = .ok (.iload_n 1, 1) := by decide +kernel
theorem zd_ModelReader_checkJumps_83 : decode prog_5_method_5_code 83 = .ok (.iaload, 1) := by decide +kernel
theorem zd_ModelReader_checkJumps_84 : decode prog_5_method_5_code 84 = .ok (.invokevirtual 124, 3) := by decide +kernel
theorem zd_ModelReader_checkJumps_87 : decode prog_5_method_5_code 87 = .ok (.iinc 1 1, 3) := by decide +kernel
theorem zd_ModelReader_checkJumps_90 : decode prog_5_method_5_code 90 = .ok (.goto (-88), 3) := by decide +kernel
theorem zd_ModelReader_checkJumps_93 : decode prog_5_method_5_code 93 = .ok (.return_, 1) := by decide +kernel
theorem zd_Terms_signOf_0 : decode prog_9_method_8_code 0 = .ok (.iload_n 0, 1) := by decide +kernel
theorem zd_Terms_signOf_1 : decode prog_9_method_8_code 1 = .ok (.lookupswitch 66 #[(42, 63), (43, 57), (45, 60), (60, 54), (61, 51)], 51) := by decide +kernel
theorem zd_Terms_signOf_52 : decode prog_9_method_8_code 52 = .ok (.bipush 16, 2) := by decide +kernel
theorem zd_Terms_signOf_54 : decode prog_9_method_8_code 54 = .ok (.ireturn, 1) := by decide +kernel
theorem zd_Terms_signOf_55 : decode prog_9_method_8_code 55 = .ok (.bipush 17, 2) := by decide +kernel
theorem zd_Terms_signOf_57 : decode prog_9_method_8_code 57 = .ok (.ireturn, 1) := by decide +kernel
theorem zd_Terms_signOf_58 : decode prog_9_method_8_code 58 = .ok (.bipush 18, 2) := by decide +kernel
theorem zd_Terms_signOf_60 : decode prog_9_method_8_code 60 = .ok (.ireturn, 1) := by decide +kernel
theorem zd_Terms_signOf_61 : decode prog_9_method_8_code 61 = .ok (.bipush 19, 2) := by decide +kernel
theorem zd_Terms_signOf_63 : decode prog_9_method_8_code 63 = .ok (.ireturn, 1) := by decide +kernel
theorem zd_Terms_signOf_64 : decode prog_9_method_8_code 64 = .ok (.bipush 20, 2) := by decide +kernel
theorem zd_Terms_signOf_66 : decode prog_9_method_8_code 66 = .ok (.ireturn, 1) := by decide +kernel
theorem zd_Terms_signOf_67 : decode prog_9_method_8_code 67 = .ok (.iconst (-1), 1) := by decide +kernel
theorem zd_Terms_signOf_68 : decode prog_9_method_8_code 68 = .ok (.ireturn, 1) := by decide +kernel
theorem zd_Text_refuseAt_0 : decode prog_10_method_12_code 0 = .ok (.aload_n 0, 1) := by decide +kernel
theorem zd_Text_refuseAt_1 : decode prog_10_method_12_code 1 = .ok (.iload_n 1, 1) := by decide +kernel
theorem zd_Text_refuseAt_2 : decode prog_10_method_12_code 2 = .ok (.putfield 15, 3) := by decide +kernel
theorem zd_Text_refuseAt_5 : decode prog_10_method_12_code 5 = .ok (.new 39, 3) := by decide +kernel
theorem zd_Text_refuseAt_8 : decode prog_10_method_12_code 8 = .ok (.dup, 1) := by decide +kernel
theorem zd_Text_refuseAt_9 : decode prog_10_method_12_code 9 = .ok (.invokespecial 41, 3) := by decide +kernel
theorem zd_Text_refuseAt_12 : decode prog_10_method_12_code 12 = .ok (.athrow, 1) := by decide +kernel
theorem zd_Tree_behind_0 : decode prog_11_method_6_code 0 = .ok (.iload_n 1, 1) := by decide +kernel
theorem zd_Tree_behind_1 : decode prog_11_method_6_code 1 = .ok (.istore_n 2, 1) := by decide +kernel
theorem zd_Tree_behind_2 : decode prog_11_method_6_code 2 = .ok (.iconst 0, 1) := by decide +kernel
theorem zd_Tree_behind_3 : decode prog_11_method_6_code 3 = .ok (.istore_n 3, 1) := by decide +kernel
theorem zd_Tree_behind_4 : decode prog_11_method_6_code 4 = .ok (.iload_n 3, 1) := by decide +kernel
theorem zd_Tree_behind_5 : decode prog_11_method_6_code 5 = .ok (.sipush 240, 3) := by decide +kernel
theorem zd_Tree_behind_8 : decode prog_11_method_6_code 8 = .ok (.if_icmp .ge 55, 3) := by decide +kernel
theorem zd_Tree_behind_11 : decode prog_11_method_6_code 11 = .ok (.iload_n 2, 1) := by decide +kernel
theorem zd_Tree_behind_12 : decode prog_11_method_6_code 12 = .ok (.iconst (-1), 1) := by decide +kernel
theorem zd_Tree_behind_13 : decode prog_11_method_6_code 13 = .ok (.if_icmp .eq 50, 3) := by decide +kernel
theorem zd_Tree_behind_16 : decode prog_11_method_6_code 16 = .ok (.aload_n 0, 1) := by decide +kernel
theorem zd_Tree_behind_17 : decode prog_11_method_6_code 17 = .ok (.getfield 30, 3) := by decide +kernel
theorem zd_Tree_behind_20 : decode prog_11_method_6_code 20 = .ok (.iload_n 2, 1) := by decide +kernel
theorem zd_Tree_behind_21 : decode prog_11_method_6_code 21 = .ok (.iaload, 1) := by decide +kernel
theorem zd_Tree_behind_22 : decode prog_11_method_6_code 22 = .ok (.iconst (-1), 1) := by decide +kernel
theorem zd_Tree_behind_23 : decode prog_11_method_6_code 23 = .ok (.if_icmp .eq 10, 3) := by decide +kernel
theorem zd_Tree_behind_26 : decode prog_11_method_6_code 26 = .ok (.aload_n 0, 1) := by decide +kernel
theorem zd_Tree_behind_27 : decode prog_11_method_6_code 27 = .ok (.getfield 30, 3) := by decide +kernel
theorem zd_Tree_behind_30 : decode prog_11_method_6_code 30 = .ok (.iload_n 2, 1) := by decide +kernel
theorem zd_Tree_behind_31 : decode prog_11_method_6_code 31 = .ok (.iaload, 1) := by decide +kernel
theorem zd_Tree_behind_32 : decode prog_11_method_6_code 32 = .ok (.ireturn, 1) := by decide +kernel
theorem zd_Tree_behind_33 : decode prog_11_method_6_code 33 = .ok (.aload_n 0, 1) := by decide +kernel
theorem zd_Tree_behind_34 : decode prog_11_method_6_code 34 = .ok (.getfield 17, 3) := by decide +kernel
theorem zd_Tree_behind_37 : decode prog_11_method_6_code 37 = .ok (.iload_n 2, 1) := by decide +kernel
theorem zd_Tree_behind_38 : decode prog_11_method_6_code 38 = .ok (.iaload, 1) := by decide +kernel
theorem zd_Tree_behind_39 : decode prog_11_method_6_code 39 = .ok (.istore_n 2, 1) := by decide +kernel
theorem zd_Tree_behind_40 : decode prog_11_method_6_code 40 = .ok (.iload_n 2, 1) := by decide +kernel
theorem zd_Tree_behind_41 : decode prog_11_method_6_code 41 = .ok (.iconst (-1), 1) := by decide +kernel
theorem zd_Tree_behind_42 : decode prog_11_method_6_code 42 = .ok (.if_icmp .eq 15, 3) := by decide +kernel
theorem zd_Tree_behind_45 : decode prog_11_method_6_code 45 = .ok (.aload_n 0, 1) := by decide +kernel
theorem zd_Tree_behind_46 : decode prog_11_method_6_code 46 = .ok (.getfield 11, 3) := by decide +kernel
theorem zd_Tree_behind_49 : decode prog_11_method_6_code 49 = .ok (.iload_n 2, 1) := by decide +kernel
theorem zd_Tree_behind_50 : decode prog_11_method_6_code 50 = .ok (.iaload, 1) := by decide +kernel
theorem zd_Tree_behind_51 : decode prog_11_method_6_code 51 = .ok (.iconst 2, 1) := by decide +kernel
theorem zd_Tree_behind_52 : decode prog_11_method_6_code 52 = .ok (.if_icmp .ne 5, 3) := by decide +kernel
theorem zd_Tree_behind_55 : decode prog_11_method_6_code 55 = .ok (.iload_n 2, 1) := by decide +kernel
theorem zd_Tree_behind_56 : decode prog_11_method_6_code 56 = .ok (.ireturn, 1) := by decide +kernel
theorem zd_Tree_behind_57 : decode prog_11_method_6_code 57 = .ok (.iinc 3 1, 3) := by decide +kernel
theorem zd_Tree_behind_60 : decode prog_11_method_6_code 60 = .ok (.goto (-56), 3) := by decide +kernel
theorem zd_Tree_behind_63 : decode prog_11_method_6_code 63 = .ok (.bipush (-2), 2) := by decide +kernel
theorem zd_Tree_behind_65 : decode prog_11_method_6_code 65 = .ok (.ireturn, 1) := by decide +kernel
theorem zd_Tree_pointAt_0 : decode prog_11_method_8_code 0 = .ok (.iload_n 1, 1) := by decide +kernel
theorem zd_Tree_pointAt_1 : decode prog_11_method_8_code 1 = .ok (.ifCond .ge 10, 3) := by decide +kernel
theorem zd_Tree_pointAt_4 : decode prog_11_method_8_code 4 = .ok (.aload_n 0, 1) := by decide +kernel
theorem zd_Tree_pointAt_5 : decode prog_11_method_8_code 5 = .ok (.getfield 54, 3) := by decide +kernel
theorem zd_Tree_pointAt_8 : decode prog_11_method_8_code 8 = .ok (.goto 9, 3) := by decide +kernel
theorem zd_Tree_pointAt_11 : decode prog_11_method_8_code 11 = .ok (.aload_n 0, 1) := by decide +kernel
theorem zd_Tree_pointAt_12 : decode prog_11_method_8_code 12 = .ok (.getfield 36, 3) := by decide +kernel
theorem zd_Tree_pointAt_15 : decode prog_11_method_8_code 15 = .ok (.iload_n 1, 1) := by decide +kernel
theorem zd_Tree_pointAt_16 : decode prog_11_method_8_code 16 = .ok (.iaload, 1) := by decide +kernel
theorem zd_Tree_pointAt_17 : decode prog_11_method_8_code 17 = .ok (.ireturn, 1) := by decide +kernel
theorem zd_Tree_settled_0 : decode prog_11_method_7_code 0 = .ok (.iload_n 1, 1) := by decide +kernel
theorem zd_Tree_settled_1 : decode prog_11_method_7_code 1 = .ok (.istore_n 2, 1) := by decide +kernel
theorem zd_Tree_settled_2 : decode prog_11_method_7_code 2 = .ok (.iconst 0, 1) := by decide +kernel
theorem zd_Tree_settled_3 : decode prog_11_method_7_code 3 = .ok (.istore_n 3, 1) := by decide +kernel
theorem zd_Tree_settled_4 : decode prog_11_method_7_code 4 = .ok (.iload_n 3, 1) := by decide +kernel
theorem zd_Tree_settled_5 : decode prog_11_method_7_code 5 = .ok (.sipush 240, 3) := by decide +kernel
theorem zd_Tree_settled_8 : decode prog_11_method_7_code 8 = .ok (.if_icmp .gt 87, 3) := by decide +kernel
theorem zd_Tree_settled_11 : decode prog_11_method_7_code 11 = .ok (.iload_n 2, 1) := by decide +kernel
theorem zd_Tree_settled_12 : decode prog_11_method_7_code 12 = .ok (.ifCond .ge 5, 3) := by decide +kernel
theorem zd_Tree_settled_15 : decode prog_11_method_7_code 15 = .ok (.iload_n 2, 1) := by decide +kernel
theorem zd_Tree_settled_16 : decode prog_11_method_7_code 16 = .ok (.ireturn, 1) := by decide +kernel
theorem zd_Tree_settled_17 : decode prog_11_method_7_code 17 = .ok (.aload_n 0, 1) := by decide +kernel
theorem zd_Tree_settled_18 : decode prog_11_method_7_code 18 = .ok (.getfield 11, 3) := by decide +kernel
theorem zd_Tree_settled_21 : decode prog_11_method_7_code 21 = .ok (.iload_n 2, 1) := by decide +kernel
theorem zd_Tree_settled_22 : decode prog_11_method_7_code 22 = .ok (.iaload, 1) := by decide +kernel
theorem zd_Tree_settled_23 : decode prog_11_method_7_code 23 = .ok (.tableswitch 64 3 5 #[25, 35, 49], 25) := by decide +kernel
theorem zd_Tree_settled_48 : decode prog_11_method_7_code 48 = .ok (.aload_n 0, 1) := by decide +kernel
theorem zd_Tree_settled_49 : decode prog_11_method_7_code 49 = .ok (.getfield 33, 3) := by decide +kernel
theorem zd_Tree_settled_52 : decode prog_11_method_7_code 52 = .ok (.iload_n 2, 1) := by decide +kernel
theorem zd_Tree_settled_53 : decode prog_11_method_7_code 53 = .ok (.iaload, 1) := by decide +kernel
theorem zd_Tree_settled_54 : decode prog_11_method_7_code 54 = .ok (.istore_n 2, 1) := by decide +kernel
theorem zd_Tree_settled_55 : decode prog_11_method_7_code 55 = .ok (.goto 34, 3) := by decide +kernel
theorem zd_Tree_settled_58 : decode prog_11_method_7_code 58 = .ok (.aload_n 0, 1) := by decide +kernel
theorem zd_Tree_settled_59 : decode prog_11_method_7_code 59 = .ok (.aload_n 0, 1) := by decide +kernel
theorem zd_Tree_settled_60 : decode prog_11_method_7_code 60 = .ok (.getfield 20, 3) := by decide +kernel
theorem zd_Tree_settled_63 : decode prog_11_method_7_code 63 = .ok (.iload_n 2, 1) := by decide +kernel
theorem zd_Tree_settled_64 : decode prog_11_method_7_code 64 = .ok (.iaload, 1) := by decide +kernel
theorem zd_Tree_settled_65 : decode prog_11_method_7_code 65 = .ok (.invokevirtual 70, 3) := by decide +kernel
theorem zd_Tree_settled_68 : decode prog_11_method_7_code 68 = .ok (.istore_n 2, 1) := by decide +kernel
theorem zd_Tree_settled_69 : decode prog_11_method_7_code 69 = .ok (.goto 20, 3) := by decide +kernel
theorem zd_Tree_settled_72 : decode prog_11_method_7_code 72 = .ok (.aload_n 0, 1) := by decide +kernel
theorem zd_Tree_settled_73 : decode prog_11_method_7_code 73 = .ok (.getfield 47, 3) := by decide +kernel
theorem zd_Tree_settled_76 : decode prog_11_method_7_code 76 = .ok (.aload_n 0, 1) := by decide +kernel
theorem zd_Tree_settled_77 : decode prog_11_method_7_code 77 = .ok (.getfield 39, 3) := by decide +kernel
theorem zd_Tree_settled_80 : decode prog_11_method_7_code 80 = .ok (.iload_n 2, 1) := by decide +kernel
theorem zd_Tree_settled_81 : decode prog_11_method_7_code 81 = .ok (.iaload, 1) := by decide +kernel
theorem zd_Tree_settled_82 : decode prog_11_method_7_code 82 = .ok (.iaload, 1) := by decide +kernel
theorem zd_Tree_settled_83 : decode prog_11_method_7_code 83 = .ok (.istore_n 2, 1) := by decide +kernel
theorem zd_Tree_settled_84 : decode prog_11_method_7_code 84 = .ok (.goto 5, 3) := by decide +kernel
theorem zd_Tree_settled_87 : decode prog_11_method_7_code 87 = .ok (.iload_n 2, 1) := by decide +kernel
theorem zd_Tree_settled_88 : decode prog_11_method_7_code 88 = .ok (.ireturn, 1) := by decide +kernel
theorem zd_Tree_settled_89 : decode prog_11_method_7_code 89 = .ok (.iinc 3 1, 3) := by decide +kernel
theorem zd_Tree_settled_92 : decode prog_11_method_7_code 92 = .ok (.goto (-88), 3) := by decide +kernel
theorem zd_Tree_settled_95 : decode prog_11_method_7_code 95 = .ok (.bipush (-4), 2) := by decide +kernel
theorem zd_Tree_settled_97 : decode prog_11_method_7_code 97 = .ok (.ireturn, 1) := by decide +kernel
def wp_Terms_add_B (I : Nat → Int32) (J : Nat → Int64) (B : Nat → Nat → Int32) (D : Nat → Nat → Int64) (a0 : Int32) (Post : (Nat → Int32) → (Nat → Int64) → (Nat → Nat → Int32) → (Nat → Nat → Int64) → Prop) : Prop :=
  vp_in (I 25) 480 ∧ ∀ z1 : Int32, z1 = ((I 25) + 1) → Post (upd I 25 z1) J (va_up B 43 (upd (B 43) (I 25).toNatClampNeg a0)) D
set_option maxHeartbeats 8000000 in
set_option maxRecDepth 100000 in
theorem w_Terms_add_B (l : Launch) (G : va_G) (K : Nat → ClassId) (ad : Nat → Nat) (sv : Value) (I : Nat → Int32) (J : Nat → Int64) (B : Nat → Nat → Int32) (D : Nat → Nat → Int64) (a0 : Int32) (Post : (Nat → Int32) → (Nat → Int64) → (Nat → Nat → Int32) → (Nat → Nat → Int64) → Prop) (sz : Nat) (hok : wp_Terms_add_B I J B D a0 Post) : Met l zy_Terms_add (Cond.code zy_Terms_add prog_9_method_11_code 2 none :: zTB) { frames := 0, cells := 0, slots := 0, locals := 0 } (va_Pc [.ref (ad 10), .int a0] (zPre G K (wX ad K sv I J B D) sz)) (va_Qv (fun u : zS => Post u.1 u.2.1 u.2.2.1 u.2.2.2) (fun u t => zPost G K (va_A (wX ad K sv I J B D) sz) (wX ad K sv u.1 u.2.1 u.2.2.1 u.2.2.2) t) (va_A (wX ad K sv I J B D) sz)) 0 0 (va_A (wX ad K sv I J B D) sz) := by
  refine zMet (y := zy_Terms_add) (av := [.ref (ad 10), .int a0]) (maxL := 2) (cc := prog_9_method_11_code) (ret := none) (W0 := (wX ad K sv I J B D)) (sz := sz) (G := G) (K := K) (wt := zTB) (mc := 0) (ms := 0) (Qf := fun A => va_Qv (fun u : zS => Post u.1 u.2.1 u.2.2.1 u.2.2.2) (fun u t => zPost G K A (wX ad K sv u.1 u.2.1 u.2.2.1 u.2.2.2) t) A) (by decide) (Nat.le_of_ble_eq_true rfl) ?_
  intro p e s m below meth c ls A hx hb hr hml hts hown hlocks hin hA hK H locs hw hsz hl
  clear hsz
  have hown : s.vm.findClass "LassoFinder$Terms" = some m.cls := hown
  have C : zCx p s m ([.ref (ad 10), .int a0] : List Value).toArray meth c A G K prog_9_method_11_code none 2 "LassoFinder$Terms" := ⟨hx, hb, hr, hml, hts, hown, hlocks, hA, hK⟩
  have hl : lv_has ls 2 [(0, .ref (ad 10)), (1, .int a0)] := hl
  have hw : zW G A s.heap (wX ad K sv I J B D) H locs := hw
  unfold wp_Terms_add_B at hok
  refine lv_aload_n hx hb zd_Terms_add_0 rfl (lv_at hl 0 rfl) ?_
  refine z_get (v := .ref (ad 58)) hx hb hts hown hK hw zZ8 10 wX_g10 2 (by decide) zn_252 rfl zd_Terms_add_1 ?_
  refine lv_aload_n hx hb zd_Terms_add_4 rfl (lv_at hl 0 rfl) ?_
  refine z_get (v := .int (I 25)) hx hb hts hown hK hw zZ8 10 wX_g10 3 (by decide) zn_379 rfl zd_Terms_add_5 ?_
  refine lv_iload_n hx hb zd_Terms_add_8 rfl (lv_at hl 1 rfl) ?_
  refine va_iast (f := (B 43)) hx hb hK hw.1 hw.2.1 hw.2.2 58 0 wX_a58 rfl hok.1 zd_Terms_add_9 (fun H locs w91 w92 w93 => ?_)
  have hok := hok.2
  have hw := wX_t58 ⟨w91, w92, w93⟩
  refine lv_aload_n hx hb zd_Terms_add_10 rfl (lv_at hl 0 rfl) ?_
  refine lv_dup hx hb zd_Terms_add_11 rfl ?_
  refine z_get (v := .int (I 25)) hx hb hts hown hK hw zZ8 10 wX_g10 3 (by decide) zn_379 rfl zd_Terms_add_12 ?_
  refine lv_iconst (v := 1) hx hb zd_Terms_add_15 (by decide) ?_
  refine lv_iadd hx hb zd_Terms_add_16 ?_
  refine lv_topi (fun z1 ez1 => ?_)
  have hok := hok z1 ez1
  refine z_put (v := .int z1) hx hb hts hown hK hw zZ8 10 wX_g10 3 (by decide) zn_379 rfl rfl rfl (Nat.le_of_ble_eq_true rfl) zd_Terms_add_17 (fun H locs hw => ?_)
  have hw := wX_sI25 hw
  exact (z_vret (u := ((upd I 25 z1), J, (va_up B 43 (upd (B 43) (I 25).toNatClampNeg a0)), D)) hx hb hr hlocks hw (List.range 65) wX_all wX_nd hok (Nat.le_of_ble_eq_true rfl) (Nat.le_of_ble_eq_true rfl) zd_Terms_add_20)
def wc_Terms_readPart_B_89 (Post : (Nat → Int32) → (Nat → Int64) → (Nat → Nat → Int32) → (Nat → Nat → Int64) → Prop) (PX : String → (Nat → Int32) → (Nat → Int64) → (Nat → Nat → Int32) → (Nat → Nat → Int64) → Prop) (y0 : Int32) (I : Nat → Int32) (J : Nat → Int64) (B : Nat → Nat → Int32) (D : Nat → Nat → Int64) : Prop :=
  wp_Terms_add_B I J B D y0 (fun I1 J1 B1 D1 => Post I1 J1 B1 D1)
def wc_Terms_readPart_B_58 (Post : (Nat → Int32) → (Nat → Int64) → (Nat → Nat → Int32) → (Nat → Nat → Int64) → Prop) (PX : String → (Nat → Int32) → (Nat → Int64) → (Nat → Nat → Int32) → (Nat → Nat → Int64) → Prop) (x1 : Int32) (x2 : Int32) (I : Nat → Int32) (J : Nat → Int64) (B : Nat → Nat → Int32) (D : Nat → Nat → Int64) : Prop :=
  wp_Text_skip I J B D  (fun I2 J2 B2 D2 => ∀ z3 : Int32, z3 = ((I2 27) + 1) → ((¬ x1 = (-1) → wc_Terms_readPart_B_89  Post PX x1 (upd I2 27 z3) J2 B2 D2) ∧ (x1 = (-1) → ∀ z5 : Int32, z5 = (8 + x2) → wc_Terms_readPart_B_89  Post PX z5 (upd I2 27 z3) J2 B2 D2)))
def wc_Terms_readPart_B_51 (Post : (Nat → Int32) → (Nat → Int64) → (Nat → Nat → Int32) → (Nat → Nat → Int64) → Prop) (PX : String → (Nat → Int32) → (Nat → Int64) → (Nat → Nat → Int32) → (Nat → Nat → Int64) → Prop) (x1 : Int32) (x2 : Int32) (I : Nat → Int32) (J : Nat → Int64) (B : Nat → Nat → Int32) (D : Nat → Nat → Int64) : Prop :=
  wp_Text_refuse I J B D  (fun I6 J6 B6 D6 => wc_Terms_readPart_B_58  Post PX x1 x2 I6 J6 B6 D6) PX
def wp_Terms_readPart_B (I : Nat → Int32) (J : Nat → Int64) (B : Nat → Nat → Int32) (D : Nat → Nat → Int64) (Post : (Nat → Int32) → (Nat → Int64) → (Nat → Nat → Int32) → (Nat → Nat → Int64) → Prop) (PX : String → (Nat → Int32) → (Nat → Int64) → (Nat → Nat → Int32) → (Nat → Nat → Int64) → Prop) : Prop :=
  wp_Text_oneOf I J B D 48 (fun r7 I7 J7 B7 D7 => wp_Text_oneOf I7 J7 B7 D7 97 (fun r8 I8 J8 B8 D8 => (((I8 27) = 12 → wc_Terms_readPart_B_51  Post PX r7 r8 I8 J8 B8 D8) ∧ (¬ (I8 27) = 12 → ((¬ r7 = (-1) → wc_Terms_readPart_B_58  Post PX r7 r8 I8 J8 B8 D8) ∧ (r7 = (-1) → ((r8 = (-1) → wc_Terms_readPart_B_51  Post PX r7 r8 I8 J8 B8 D8) ∧ (¬ r8 = (-1) → vp_in r8 8 ∧ ∀ z12 : Int32, z12 = ((B8 2) r8.toNatClampNeg) → ((¬ z12 = 0 → wc_Terms_readPart_B_58  Post PX r7 r8 I8 J8 B8 D8) ∧ (z12 = 0 → wc_Terms_readPart_B_51  Post PX r7 r8 I8 J8 B8 D8))))))))))
set_option maxHeartbeats 8000000 in
set_option maxRecDepth 100000 in
theorem wJ_Terms_readPart_B_89 {p : Program} {l : Launch} {e : Env} {s : State} {m : MethodId} {below : List Frame} {meth : Method} {c : Code} {A : Nat → Prop} (G : va_G) (K : Nat → ClassId) (ad : Nat → Nat) (sv : Value) (Post : (Nat → Int32) → (Nat → Int64) → (Nat → Nat → Int32) → (Nat → Nat → Int64) → Prop) (PX : String → (Nat → Int32) → (Nat → Int64) → (Nat → Nat → Int32) → (Nat → Nat → Int64) → Prop) (C : zCy p l s m ([.ref (ad 10)] : List Value).toArray meth c A G K prog_9_method_5_code none 3 "LassoFinder$Terms") : ∀ (y0 : Int32) (I : Nat → Int32) (J : Nat → Int64) (B : Nat → Nat → Int32) (D : Nat → Nat → Int64) (ls : Array Slot) (H : Heap) (locs : List Loc), wc_Terms_readPart_B_89  Post PX y0 I J B D → lv_has ls 3 [] → zW G A s.heap (wX ad K sv I J B D) H locs → W p l e { frames := 7, cells := 1, slots := 6, locals := 101 } s m ([.ref (ad 10)] : List Value).toArray below meth c H locs 0 0 (zyMQ below (va_Qv (fun u : zS => Post u.1 u.2.1 u.2.2.1 u.2.2.2) (fun u t => zPost G K A (wX ad K sv u.1 u.2.1 u.2.2.1 u.2.2.2) t) A) (zYC (fun E (u : zS) => PX E u.1 u.2.1 u.2.2.1 u.2.2.2) (fun u => wX ad K sv u.1 u.2.1 u.2.2.1 u.2.2.2) G K A) ([.ref (ad 10)] : List Value).toArray s 1 6 A) (F0 m 89 ls [.int y0, .ref (ad 10)]) := by
  obtain ⟨hx, hb, hr, hml, hts, hown, hlocks, hA, hK, hT, hnt, hlt⟩ := id C
  intro y0 I J B D ls H locs hok hl hw
  unfold wc_Terms_readPart_B_89 at hok
  refine z_callv (w1 := fun (u : zS) => wX ad K sv u.1 u.2.1 u.2.2.1 u.2.2.2) (wr := []) (z_runV (q0 := 10) (wc := (wX ad K sv I J B D)) (As := [.int y0]) (rest := []) ⟨hx, hb, hml, hown, hts⟩ (w_Terms_add_B l G K ad sv I J B D y0 _ H.size hok) zf_Terms_add zn_346 ⟨Nat.le_of_ble_eq_true rfl, Nat.le_of_ble_eq_true rfl⟩ hK hw (List.range 65) wX_all wX_nd wX_g10 rfl rfl hl.1 rfl (Nat.le_of_ble_eq_true rfl) zd_Terms_readPart_89 ⟨Nat.le_of_ble_eq_true rfl, Nat.le_of_ble_eq_true rfl⟩) hw hA (List.range 65) [] wX_all rfl (by decide) (fun i hi => by cases hi) (fun u H locs hok hw => ?_)
  obtain ⟨I1, J1, B1, D1⟩ := u
  dsimp only at hok
  have hw : zW G A s.heap (wX ad K sv I1 J1 B1 D1) H locs := hw
  exact zy_ret (z_vret (u := (I1, J1, B1, D1)) hx hb hr hlocks hw (List.range 65) wX_all wX_nd hok (Nat.le_of_ble_eq_true rfl) (Nat.le_of_ble_eq_true rfl) zd_Terms_readPart_92)
set_option maxHeartbeats 8000000 in
set_option maxRecDepth 100000 in
theorem wJ_Terms_readPart_B_58 {p : Program} {l : Launch} {e : Env} {s : State} {m : MethodId} {below : List Frame} {meth : Method} {c : Code} {A : Nat → Prop} (G : va_G) (K : Nat → ClassId) (ad : Nat → Nat) (sv : Value) (Post : (Nat → Int32) → (Nat → Int64) → (Nat → Nat → Int32) → (Nat → Nat → Int64) → Prop) (PX : String → (Nat → Int32) → (Nat → Int64) → (Nat → Nat → Int32) → (Nat → Nat → Int64) → Prop) (C : zCy p l s m ([.ref (ad 10)] : List Value).toArray meth c A G K prog_9_method_5_code none 3 "LassoFinder$Terms") : ∀ (x1 : Int32) (x2 : Int32) (I : Nat → Int32) (J : Nat → Int64) (B : Nat → Nat → Int32) (D : Nat → Nat → Int64) (ls : Array Slot) (H : Heap) (locs : List Loc), wc_Terms_readPart_B_58  Post PX x1 x2 I J B D → lv_has ls 3 [(0, .ref (ad 10)), (1, .int x1), (2, .int x2)] → zW G A s.heap (wX ad K sv I J B D) H locs → W p l e { frames := 7, cells := 1, slots := 6, locals := 101 } s m ([.ref (ad 10)] : List Value).toArray below meth c H locs 0 0 (zyMQ below (va_Qv (fun u : zS => Post u.1 u.2.1 u.2.2.1 u.2.2.2) (fun u t => zPost G K A (wX ad K sv u.1 u.2.1 u.2.2.1 u.2.2.2) t) A) (zYC (fun E (u : zS) => PX E u.1 u.2.1 u.2.2.1 u.2.2.2) (fun u => wX ad K sv u.1 u.2.1 u.2.2.1 u.2.2.2) G K A) ([.ref (ad 10)] : List Value).toArray s 1 6 A) (F0 m 58 ls []) := by
  obtain ⟨hx, hb, hr, hml, hts, hown, hlocks, hA, hK, hT, hnt, hlt⟩ := id C
  intro x1 x2 I J B D ls H locs hok hl hw
  unfold wc_Terms_readPart_B_58 at hok
  refine lv_aload_n hx hb zd_Terms_readPart_58 rfl (lv_at hl 0 rfl) ?_
  refine z_get (v := .ref (ad 1)) hx hb hts hown hK hw zZ8 10 wX_g10 0 (by decide) zn_381 rfl zd_Terms_readPart_59 ?_
  refine z_callv (w1 := fun (u : zS) => wX ad K sv u.1 u.2.1 u.2.2.1 u.2.2.2) (wr := []) (z_runV (q0 := 1) (wc := (wX ad K sv I J B D)) (As := []) (rest := []) ⟨hx, hb, hml, hown, hts⟩ (w_Text_skip l G K ad sv I J B D  _ H.size hok) zf_Text_skip zn_342 ⟨Nat.le_of_ble_eq_true rfl, Nat.le_of_ble_eq_true rfl⟩ hK hw (List.range 65) wX_all wX_nd wX_g1 rfl rfl hl.1 rfl (Nat.le_of_ble_eq_true rfl) zd_Terms_readPart_62 ⟨Nat.le_of_ble_eq_true rfl, Nat.le_of_ble_eq_true rfl⟩) hw hA (List.range 65) [] wX_all rfl (by decide) (fun i hi => by cases hi) (fun u H locs hok hw => ?_)
  obtain ⟨I2, J2, B2, D2⟩ := u
  dsimp only at hok
  have hw : zW G A s.heap (wX ad K sv I2 J2 B2 D2) H locs := hw
  refine lv_aload_n hx hb zd_Terms_readPart_65 rfl (lv_at hl 0 rfl) ?_
  refine lv_dup hx hb zd_Terms_readPart_66 rfl ?_
  refine z_get (v := .int (I2 27)) hx hb hts hown hK hw zZ8 10 wX_g10 7 (by decide) zn_392 rfl zd_Terms_readPart_67 ?_
  refine lv_iconst (v := 1) hx hb zd_Terms_readPart_70 (by decide) ?_
  refine lv_iadd hx hb zd_Terms_readPart_71 ?_
  refine lv_topi (fun z3 ez3 => ?_)
  have hok := hok z3 ez3
  refine z_put (v := .int z3) hx hb hts hown hK hw zZ8 10 wX_g10 7 (by decide) zn_392 rfl rfl rfl (Nat.le_of_ble_eq_true rfl) zd_Terms_readPart_72 (fun H locs hw => ?_)
  have hw := wX_sI27 hw
  refine lv_aload_n hx hb zd_Terms_readPart_75 rfl (lv_at hl 0 rfl) ?_
  refine lv_iload_n hx hb zd_Terms_readPart_76 rfl (lv_at hl 1 rfl) ?_
  refine lv_iconst (v := (-1)) hx hb zd_Terms_readPart_77 (by decide) ?_
  refine lv_icmp_ne (tgt := 88) hx hb zd_Terms_readPart_78 (by decide) (fun hc4 => ?_) (fun hc4 => ?_)
  · have hok := hok.1 hc4
    refine lv_iload_n hx hb zd_Terms_readPart_88 rfl (lv_at hl 1 rfl) ?_
    exact wJ_Terms_readPart_B_89 G K ad sv  Post PX C x1 (upd I2 27 z3) J2 B2 D2 ls H locs hok (lv_sub hl [] rfl) hw
  · have hok := hok.2 hc4
    refine lv_bipush (v := 8) hx hb zd_Terms_readPart_81 (by decide) ?_
    refine lv_iload_n hx hb zd_Terms_readPart_83 rfl (lv_at hl 2 rfl) ?_
    refine lv_iadd hx hb zd_Terms_readPart_84 ?_
    refine lv_topi (fun z5 ez5 => ?_)
    have hok := hok z5 ez5
    refine lv_goto (tgt := 89) hx hb zd_Terms_readPart_85 (by decide) ?_
    exact wJ_Terms_readPart_B_89 G K ad sv  Post PX C z5 (upd I2 27 z3) J2 B2 D2 ls H locs hok (lv_sub hl [] rfl) hw
set_option maxHeartbeats 8000000 in
set_option maxRecDepth 100000 in
theorem wJ_Terms_readPart_B_51 {p : Program} {l : Launch} {e : Env} {s : State} {m : MethodId} {below : List Frame} {meth : Method} {c : Code} {A : Nat → Prop} (G : va_G) (K : Nat → ClassId) (ad : Nat → Nat) (sv : Value) (Post : (Nat → Int32) → (Nat → Int64) → (Nat → Nat → Int32) → (Nat → Nat → Int64) → Prop) (PX : String → (Nat → Int32) → (Nat → Int64) → (Nat → Nat → Int32) → (Nat → Nat → Int64) → Prop) (C : zCy p l s m ([.ref (ad 10)] : List Value).toArray meth c A G K prog_9_method_5_code none 3 "LassoFinder$Terms") : ∀ (x1 : Int32) (x2 : Int32) (I : Nat → Int32) (J : Nat → Int64) (B : Nat → Nat → Int32) (D : Nat → Nat → Int64) (ls : Array Slot) (H : Heap) (locs : List Loc), wc_Terms_readPart_B_51  Post PX x1 x2 I J B D → lv_has ls 3 [(0, .ref (ad 10)), (1, .int x1), (2, .int x2)] → zW G A s.heap (wX ad K sv I J B D) H locs → W p l e { frames := 7, cells := 1, slots := 6, locals := 101 } s m ([.ref (ad 10)] : List Value).toArray below meth c H locs 0 0 (zyMQ below (va_Qv (fun u : zS => Post u.1 u.2.1 u.2.2.1 u.2.2.2) (fun u t => zPost G K A (wX ad K sv u.1 u.2.1 u.2.2.1 u.2.2.2) t) A) (zYC (fun E (u : zS) => PX E u.1 u.2.1 u.2.2.1 u.2.2.2) (fun u => wX ad K sv u.1 u.2.1 u.2.2.1 u.2.2.2) G K A) ([.ref (ad 10)] : List Value).toArray s 1 6 A) (F0 m 51 ls []) := by
  obtain ⟨hx, hb, hr, hml, hts, hown, hlocks, hA, hK, hT, hnt, hlt⟩ := id C
  intro x1 x2 I J B D ls H locs hok hl hw
  unfold wc_Terms_readPart_B_51 at hok
  refine lv_aload_n hx hb zd_Terms_readPart_51 rfl (lv_at hl 0 rfl) ?_
  refine z_get (v := .ref (ad 1)) hx hb hts hown hK hw zZ8 10 wX_g10 0 (by decide) zn_381 rfl zd_Terms_readPart_52 ?_
  refine z_yV (q0 := 1) (wc := (wX ad K sv I J B D)) (wr := []) (w1 := fun (u : zS) => wX ad K sv u.1 u.2.1 u.2.2.1 u.2.2.2) (As := []) (rest := []) ⟨hx, hb, hml, hown, hts⟩ (w_Text_refuse l hlt G K ad sv I J B D  _ _ H.size hok) zf_Text_refuse zn_341 ⟨Nat.le_of_ble_eq_true rfl, Nat.le_of_ble_eq_true rfl⟩ hK hT hw hA (List.range 65) [] wX_all rfl wX_nd (by decide) (fun i hi => by cases hi) wX_g1 rfl rfl hl.1 rfl (Nat.le_of_ble_eq_true rfl) zd_Terms_readPart_55 ⟨Nat.le_of_ble_eq_true rfl, Nat.le_of_ble_eq_true rfl⟩ (fun v st9 t9 L9 h0 hq hL => ?_) (fun E ce q9 u H locs hu hw hce hcv hcl => z_yout (u := u) hnt hlocks hce hcv hcl hw (List.range 65) wX_all wX_nd hu (Nat.le_of_ble_eq_true rfl) (Nat.le_of_ble_eq_true rfl))
  obtain ⟨⟨u, hv9, hok, hB9⟩, hF9⟩ := hq
  cases hv9
  have hw := z_back (wr := []) hw hA (List.range 65) [] wX_all rfl (by decide) (fun i hi => by cases hi) h0 hL hB9 hF9
  obtain ⟨I6, J6, B6, D6⟩ := u
  dsimp only at hok
  generalize t9.heap = H at hw ⊢
  generalize locs ++ L9 = locs at hw ⊢
  have hw : zW G A s.heap (wX ad K sv I6 J6 B6 D6) H locs := hw
  refine W.eq (g2 := F0 m 58 ls []) rfl ?_
  exact wJ_Terms_readPart_B_58 G K ad sv  Post PX C x1 x2 I6 J6 B6 D6 ls H locs hok (lv_sub hl [0, 1, 2] rfl) hw
set_option maxHeartbeats 8000000 in
set_option maxRecDepth 100000 in
theorem w_Terms_readPart_B (l : Launch) (hlt : l.stackTraces = false) (G : va_G) (K : Nat → ClassId) (ad : Nat → Nat) (sv : Value) (I : Nat → Int32) (J : Nat → Int64) (B : Nat → Nat → Int32) (D : Nat → Nat → Int64) (Post : (Nat → Int32) → (Nat → Int64) → (Nat → Nat → Int32) → (Nat → Nat → Int64) → Prop) (PX : String → (Nat → Int32) → (Nat → Int64) → (Nat → Nat → Int32) → (Nat → Nat → Int64) → Prop) (sz : Nat) (hok : wp_Terms_readPart_B I J B D  Post PX) : zyMet l zy_Terms_readPart (Cond.code zy_Terms_readPart prog_9_method_5_code 3 none :: zTB) { frames := 7, cells := 1, slots := 6, locals := 101 } (va_Pc [.ref (ad 10)] (zPreX G K (wX ad K sv I J B D) sz)) (va_Qv (fun u : zS => Post u.1 u.2.1 u.2.2.1 u.2.2.2) (fun u t => zPost G K (va_A (wX ad K sv I J B D) sz) (wX ad K sv u.1 u.2.1 u.2.2.1 u.2.2.2) t) (va_A (wX ad K sv I J B D) sz)) (zYC (fun E (u : zS) => PX E u.1 u.2.1 u.2.2.1 u.2.2.2) (fun u => wX ad K sv u.1 u.2.1 u.2.2.1 u.2.2.2) G K (va_A (wX ad K sv I J B D) sz)) 1 6 (va_A (wX ad K sv I J B D) sz) := by
  refine zMetY (y := zy_Terms_readPart) (av := [.ref (ad 10)]) (maxL := 3) (cc := prog_9_method_5_code) (ret := none) (W0 := (wX ad K sv I J B D)) (sz := sz) (G := G) (K := K) (wt := zTB) (mc := 1) (ms := 6) (Qf := fun A => va_Qv (fun u : zS => Post u.1 u.2.1 u.2.2.1 u.2.2.2) (fun u t => zPost G K A (wX ad K sv u.1 u.2.1 u.2.2.1 u.2.2.2) t) A) (Xf := fun A => (zYC (fun E (u : zS) => PX E u.1 u.2.1 u.2.2.1 u.2.2.2) (fun u => wX ad K sv u.1 u.2.1 u.2.2.1 u.2.2.2) G K A)) (by decide) (Nat.le_of_ble_eq_true rfl) ?_
  intro p e s m below meth c ls A hx hb hr hml hts hown hlocks hin hA hK H locs hw hsz hl hT hnt
  clear hsz
  have hown : s.vm.findClass "LassoFinder$Terms" = some m.cls := hown
  have C : zCy p l s m ([.ref (ad 10)] : List Value).toArray meth c A G K prog_9_method_5_code none 3 "LassoFinder$Terms" := ⟨hx, hb, hr, hml, hts, hown, hlocks, hA, hK, hT, hnt, hlt⟩
  have hl : lv_has ls 3 [(0, .ref (ad 10))] := hl
  have hw : zW G A s.heap (wX ad K sv I J B D) H locs := hw
  unfold wp_Terms_readPart_B at hok
  refine lv_aload_n hx hb zd_Terms_readPart_0 rfl (lv_at hl 0 rfl) ?_
  refine z_get (v := .ref (ad 1)) hx hb hts hown hK hw zZ8 10 wX_g10 0 (by decide) zn_381 rfl zd_Terms_readPart_1 ?_
  refine lv_bipush (v := 48) hx hb zd_Terms_readPart_4 (by decide) ?_
  refine z_calli (w1 := fun (u : zS) => wX ad K sv u.1 u.2.1 u.2.2.1 u.2.2.2) (wr := []) (z_runV (q0 := 1) (wc := (wX ad K sv I J B D)) (As := [.int 48]) (rest := []) ⟨hx, hb, hml, hown, hts⟩ (w_Text_oneOf l G K ad sv I J B D 48 _ H.size hok) zf_Text_oneOf zn_345 ⟨Nat.le_of_ble_eq_true rfl, Nat.le_of_ble_eq_true rfl⟩ hK hw (List.range 65) wX_all wX_nd wX_g1 rfl rfl hl.1 rfl (Nat.le_of_ble_eq_true rfl) zd_Terms_readPart_6 ⟨Nat.le_of_ble_eq_true rfl, Nat.le_of_ble_eq_true rfl⟩) hw hA (List.range 65) [] wX_all rfl (by decide) (fun i hi => by cases hi) (fun r7 u H locs hok hw => ?_)
  obtain ⟨I7, J7, B7, D7⟩ := u
  dsimp only at hok
  have hw : zW G A s.heap (wX ad K sv I7 J7 B7 D7) H locs := hw
  refine lv_istore_n hx hb zd_Terms_readPart_9 rfl hl (by decide) rfl (fun ls hl => ?_)
  have hl : lv_has ls 3 [(1, .int r7), (0, .ref (ad 10))] := hl
  refine lv_aload_n hx hb zd_Terms_readPart_10 rfl (lv_at hl 1 rfl) ?_
  refine z_get (v := .ref (ad 1)) hx hb hts hown hK hw zZ8 10 wX_g10 0 (by decide) zn_381 rfl zd_Terms_readPart_11 ?_
  refine lv_bipush (v := 97) hx hb zd_Terms_readPart_14 (by decide) ?_
  refine z_calli (w1 := fun (u : zS) => wX ad K sv u.1 u.2.1 u.2.2.1 u.2.2.2) (wr := []) (z_runV (q0 := 1) (wc := (wX ad K sv I7 J7 B7 D7)) (As := [.int 97]) (rest := []) ⟨hx, hb, hml, hown, hts⟩ (w_Text_oneOf l G K ad sv I7 J7 B7 D7 97 _ H.size hok) zf_Text_oneOf zn_345 ⟨Nat.le_of_ble_eq_true rfl, Nat.le_of_ble_eq_true rfl⟩ hK hw (List.range 65) wX_all wX_nd wX_g1 rfl rfl hl.1 rfl (Nat.le_of_ble_eq_true rfl) zd_Terms_readPart_16 ⟨Nat.le_of_ble_eq_true rfl, Nat.le_of_ble_eq_true rfl⟩) hw hA (List.range 65) [] wX_all rfl (by decide) (fun i hi => by cases hi) (fun r8 u H locs hok hw => ?_)
  obtain ⟨I8, J8, B8, D8⟩ := u
  dsimp only at hok
  have hw : zW G A s.heap (wX ad K sv I8 J8 B8 D8) H locs := hw
  refine lv_istore_n hx hb zd_Terms_readPart_19 rfl hl (by decide) rfl (fun ls hl => ?_)
  have hl : lv_has ls 3 [(2, .int r8), (1, .int r7), (0, .ref (ad 10))] := hl
  refine lv_aload_n hx hb zd_Terms_readPart_20 rfl (lv_at hl 2 rfl) ?_
  refine z_get (v := .int (I8 27)) hx hb hts hown hK hw zZ8 10 wX_g10 7 (by decide) zn_392 rfl zd_Terms_readPart_21 ?_
  refine lv_bipush (v := 12) hx hb zd_Terms_readPart_24 (by decide) ?_
  refine lv_icmp_eq (tgt := 51) hx hb zd_Terms_readPart_26 (by decide) (fun hc9 => ?_) (fun hc9 => ?_)
  · have hok := hok.1 hc9
    exact wJ_Terms_readPart_B_51 G K ad sv  Post PX C r7 r8 I8 J8 B8 D8 ls H locs hok (lv_sub hl [2, 1, 0] rfl) hw
  · have hok := hok.2 hc9
    refine lv_iload_n hx hb zd_Terms_readPart_29 rfl (lv_at hl 1 rfl) ?_
    refine lv_iconst (v := (-1)) hx hb zd_Terms_readPart_30 (by decide) ?_
    refine lv_icmp_ne (tgt := 58) hx hb zd_Terms_readPart_31 (by decide) (fun hc10 => ?_) (fun hc10 => ?_)
    · have hok := hok.1 hc10
      exact wJ_Terms_readPart_B_58 G K ad sv  Post PX C r7 r8 I8 J8 B8 D8 ls H locs hok (lv_sub hl [2, 1, 0] rfl) hw
    · have hok := hok.2 hc10
      refine lv_iload_n hx hb zd_Terms_readPart_34 rfl (lv_at hl 0 rfl) ?_
      refine lv_iconst (v := (-1)) hx hb zd_Terms_readPart_35 (by decide) ?_
      refine lv_icmp_eq (tgt := 51) hx hb zd_Terms_readPart_36 (by decide) (fun hc11 => ?_) (fun hc11 => ?_)
      · have hok := hok.1 hc11
        exact wJ_Terms_readPart_B_51 G K ad sv  Post PX C r7 r8 I8 J8 B8 D8 ls H locs hok (lv_sub hl [2, 1, 0] rfl) hw
      · have hok := hok.2 hc11
        refine lv_aload_n hx hb zd_Terms_readPart_39 rfl (lv_at hl 2 rfl) ?_
        refine z_get (v := .ref (ad 2)) hx hb hts hown hK hw zZ8 10 wX_g10 1 (by decide) zn_393 rfl zd_Terms_readPart_40 ?_
        refine z_get (v := .ref (ad 14)) hx hb hts hown hK hw zZ5 2 wX_g2 0 (by decide) zn_394 rfl zd_Terms_readPart_43 ?_
        refine lv_iload_n hx hb zd_Terms_readPart_46 rfl (lv_at hl 0 rfl) ?_
        refine va_iald (f := (B8 2)) hx hb hK hw.1 14 0 wX_a14 rfl hok.1 zd_Terms_readPart_47 ?_
        have hok := hok.2
        refine lv_topi (fun z12 ez12 => ?_)
        have hok := hok z12 ez12
        refine lv_if_ne (tgt := 58) hx hb zd_Terms_readPart_48 (by decide) (fun hc13 => ?_) (fun hc13 => ?_)
        · have hok := hok.1 hc13
          exact wJ_Terms_readPart_B_58 G K ad sv  Post PX C r7 r8 I8 J8 B8 D8 ls H locs hok (lv_sub hl [2, 1, 0] rfl) hw
        · have hok := hok.2 hc13
          exact wJ_Terms_readPart_B_51 G K ad sv  Post PX C r7 r8 I8 J8 B8 D8 ls H locs hok (lv_sub hl [2, 1, 0] rfl) hw
def wp_Terms_signOf (I : Nat → Int32) (J : Nat → Int64) (B : Nat → Nat → Int32) (D : Nat → Nat → Int64) (a0 : Int32) (Post : Int32 → (Nat → Int32) → (Nat → Int64) → (Nat → Nat → Int32) → (Nat → Nat → Int64) → Prop) : Prop :=
  ((a0 = 42 → Post 20 I J B D) ∧ (a0 = 43 → Post 18 I J B D) ∧ (a0 = 45 → Post 19 I J B D) ∧ (a0 = 60 → Post 17 I J B D) ∧ (a0 = 61 → Post 16 I J B D) ∧ (¬ a0 = 42 → ¬ a0 = 43 → ¬ a0 = 45 → ¬ a0 = 60 → ¬ a0 = 61 → Post (-1) I J B D))
set_option maxHeartbeats 8000000 in
set_option maxRecDepth 100000 in
theorem w_Terms_signOf (l : Launch) (G : va_G) (K : Nat → ClassId) (ad : Nat → Nat) (sv : Value) (I : Nat → Int32) (J : Nat → Int64) (B : Nat → Nat → Int32) (D : Nat → Nat → Int64) (a0 : Int32) (Post : Int32 → (Nat → Int32) → (Nat → Int64) → (Nat → Nat → Int32) → (Nat → Nat → Int64) → Prop) (sz : Nat) (hok : wp_Terms_signOf I J B D a0 Post) : Met l zy_Terms_signOf (Cond.code zy_Terms_signOf prog_9_method_8_code 1 (some .int) :: zTB) { frames := 0, cells := 0, slots := 0, locals := 0 } (va_Pc [.int a0] (zPre G K (wX ad K sv I J B D) sz)) (va_Qi (fun (r : Int32) (u : zS) => Post r u.1 u.2.1 u.2.2.1 u.2.2.2) (fun u t => zPost G K (va_A (wX ad K sv I J B D) sz) (wX ad K sv u.1 u.2.1 u.2.2.1 u.2.2.2) t) (va_A (wX ad K sv I J B D) sz)) 0 0 (va_A (wX ad K sv I J B D) sz) := by
  refine zMet (y := zy_Terms_signOf) (av := [.int a0]) (maxL := 1) (cc := prog_9_method_8_code) (ret := (some .int)) (W0 := (wX ad K sv I J B D)) (sz := sz) (G := G) (K := K) (wt := zTB) (mc := 0) (ms := 0) (Qf := fun A => va_Qi (fun (r : Int32) (u : zS) => Post r u.1 u.2.1 u.2.2.1 u.2.2.2) (fun u t => zPost G K A (wX ad K sv u.1 u.2.1 u.2.2.1 u.2.2.2) t) A) (by decide) (Nat.le_of_ble_eq_true rfl) ?_
  intro p e s m below meth c ls A hx hb hr hml hts hown hlocks hin hA hK H locs hw hsz hl
  clear hsz
  have hown : s.vm.findClass "LassoFinder$Terms" = some m.cls := hown
  have C : zCx p s m ([.int a0] : List Value).toArray meth c A G K prog_9_method_8_code (some .int) 1 "LassoFinder$Terms" := ⟨hx, hb, hr, hml, hts, hown, hlocks, hA, hK⟩
  have hl : lv_has ls 1 [(0, .int a0)] := hl
  have hw : zW G A s.heap (wX ad K sv I J B D) H locs := hw
  unfold wp_Terms_signOf at hok
  refine lv_iload_n hx hb zd_Terms_signOf_0 rfl (lv_at hl 0 rfl) ?_
  by_cases hs1 : a0 = 42
  · have hok := hok.1 hs1
    refine lv_lookup (off := 63) (tgt := 64) hx hb zd_Terms_signOf_1 (by decide) (by rw [hs1]; decide) (by decide) ?_
    refine lv_bipush (v := 20) hx hb zd_Terms_signOf_64 (by decide) ?_
    exact (z_iret (u := (I, J, B, D)) hx hb hr hlocks rfl hw (List.range 65) wX_all wX_nd hok (Nat.le_of_ble_eq_true rfl) (Nat.le_of_ble_eq_true rfl) zd_Terms_signOf_66)
  by_cases hs2 : a0 = 43
  · have hok := hok.2.1 hs2
    refine lv_lookup (off := 57) (tgt := 58) hx hb zd_Terms_signOf_1 (by decide) (by rw [hs2]; decide) (by decide) ?_
    refine lv_bipush (v := 18) hx hb zd_Terms_signOf_58 (by decide) ?_
    exact (z_iret (u := (I, J, B, D)) hx hb hr hlocks rfl hw (List.range 65) wX_all wX_nd hok (Nat.le_of_ble_eq_true rfl) (Nat.le_of_ble_eq_true rfl) zd_Terms_signOf_60)
  by_cases hs3 : a0 = 45
  · have hok := hok.2.2.1 hs3
    refine lv_lookup (off := 60) (tgt := 61) hx hb zd_Terms_signOf_1 (by decide) (by rw [hs3]; decide) (by decide) ?_
    refine lv_bipush (v := 19) hx hb zd_Terms_signOf_61 (by decide) ?_
    exact (z_iret (u := (I, J, B, D)) hx hb hr hlocks rfl hw (List.range 65) wX_all wX_nd hok (Nat.le_of_ble_eq_true rfl) (Nat.le_of_ble_eq_true rfl) zd_Terms_signOf_63)
  by_cases hs4 : a0 = 60
  · have hok := hok.2.2.2.1 hs4
    refine lv_lookup (off := 54) (tgt := 55) hx hb zd_Terms_signOf_1 (by decide) (by rw [hs4]; decide) (by decide) ?_
    refine lv_bipush (v := 17) hx hb zd_Terms_signOf_55 (by decide) ?_
    exact (z_iret (u := (I, J, B, D)) hx hb hr hlocks rfl hw (List.range 65) wX_all wX_nd hok (Nat.le_of_ble_eq_true rfl) (Nat.le_of_ble_eq_true rfl) zd_Terms_signOf_57)
  by_cases hs5 : a0 = 61
  · have hok := hok.2.2.2.2.1 hs5
    refine lv_lookup (off := 51) (tgt := 52) hx hb zd_Terms_signOf_1 (by decide) (by rw [hs5]; decide) (by decide) ?_
    refine lv_bipush (v := 16) hx hb zd_Terms_signOf_52 (by decide) ?_
    exact (z_iret (u := (I, J, B, D)) hx hb hr hlocks rfl hw (List.range 65) wX_all wX_nd hok (Nat.le_of_ble_eq_true rfl) (Nat.le_of_ble_eq_true rfl) zd_Terms_signOf_54)
  have hok := hok.2.2.2.2.2 hs1 hs2 hs3 hs4 hs5
  refine lv_lookup (off := 66) (tgt := 67) hx hb zd_Terms_signOf_1 (by decide) (by simp only [lv_osw hs1 (a := 42) (by decide), lv_osw hs2 (a := 43) (by decide), lv_osw hs3 (a := 45) (by decide), lv_osw hs4 (a := 60) (by decide), lv_osw hs5 (a := 61) (by decide)]; rfl) (by decide) ?_
  refine lv_iconst (v := (-1)) hx hb zd_Terms_signOf_67 (by decide) ?_
  exact (z_iret (u := (I, J, B, D)) hx hb hr hlocks rfl hw (List.range 65) wX_all wX_nd hok (Nat.le_of_ble_eq_true rfl) (Nat.le_of_ble_eq_true rfl) zd_Terms_signOf_68)
def wp_Text_refuseAt (I : Nat → Int32) (J : Nat → Int64) (B : Nat → Nat → Int32) (D : Nat → Nat → Int64) (a0 : Int32) (Post : (Nat → Int32) → (Nat → Int64) → (Nat → Nat → Int32) → (Nat → Nat → Int64) → Prop) (PX : String → (Nat → Int32) → (Nat → Int64) → (Nat → Nat → Int32) → (Nat → Nat → Int64) → Prop) : Prop :=
  PX "java/lang/IllegalArgumentException" (upd I 6 a0) J B D
set_option maxHeartbeats 8000000 in
set_option maxRecDepth 100000 in
theorem w_Text_refuseAt (l : Launch) (hlt : l.stackTraces = false) (G : va_G) (K : Nat → ClassId) (ad : Nat → Nat) (sv : Value) (I : Nat → Int32) (J : Nat → Int64) (B : Nat → Nat → Int32) (D : Nat → Nat → Int64) (a0 : Int32) (Post : (Nat → Int32) → (Nat → Int64) → (Nat → Nat → Int32) → (Nat → Nat → Int64) → Prop) (PX : String → (Nat → Int32) → (Nat → Int64) → (Nat → Nat → Int32) → (Nat → Nat → Int64) → Prop) (sz : Nat) (hok : wp_Text_refuseAt I J B D a0 Post PX) : zyMet l zy_Text_refuseAt (Cond.code zy_Text_refuseAt prog_10_method_12_code 2 none :: zTB) { frames := 6, cells := 1, slots := 6, locals := 81 } (va_Pc [.ref (ad 1), .int a0] (zPreX G K (wX ad K sv I J B D) sz)) (va_Qv (fun u : zS => Post u.1 u.2.1 u.2.2.1 u.2.2.2) (fun u t => zPost G K (va_A (wX ad K sv I J B D) sz) (wX ad K sv u.1 u.2.1 u.2.2.1 u.2.2.2) t) (va_A (wX ad K sv I J B D) sz)) (zYC (fun E (u : zS) => PX E u.1 u.2.1 u.2.2.1 u.2.2.2) (fun u => wX ad K sv u.1 u.2.1 u.2.2.1 u.2.2.2) G K (va_A (wX ad K sv I J B D) sz)) 1 6 (va_A (wX ad K sv I J B D) sz) := by
  refine zMetY (y := zy_Text_refuseAt) (av := [.ref (ad 1), .int a0]) (maxL := 2) (cc := prog_10_method_12_code) (ret := none) (W0 := (wX ad K sv I J B D)) (sz := sz) (G := G) (K := K) (wt := zTB) (mc := 1) (ms := 6) (Qf := fun A => va_Qv (fun u : zS => Post u.1 u.2.1 u.2.2.1 u.2.2.2) (fun u t => zPost G K A (wX ad K sv u.1 u.2.1 u.2.2.1 u.2.2.2) t) A) (Xf := fun A => (zYC (fun E (u : zS) => PX E u.1 u.2.1 u.2.2.1 u.2.2.2) (fun u => wX ad K sv u.1 u.2.1 u.2.2.1 u.2.2.2) G K A)) (by decide) (Nat.le_of_ble_eq_true rfl) ?_
  intro p e s m below meth c ls A hx hb hr hml hts hown hlocks hin hA hK H locs hw hsz hl hT hnt
  clear hsz
  have hown : s.vm.findClass "LassoFinder$Text" = some m.cls := hown
  have C : zCy p l s m ([.ref (ad 1), .int a0] : List Value).toArray meth c A G K prog_10_method_12_code none 2 "LassoFinder$Text" := ⟨hx, hb, hr, hml, hts, hown, hlocks, hA, hK, hT, hnt, hlt⟩
  have hl : lv_has ls 2 [(0, .ref (ad 1)), (1, .int a0)] := hl
  have hw : zW G A s.heap (wX ad K sv I J B D) H locs := hw
  unfold wp_Text_refuseAt at hok
  refine lv_aload_n hx hb zd_Text_refuseAt_0 rfl (lv_at hl 0 rfl) ?_
  refine lv_iload_n hx hb zd_Text_refuseAt_1 rfl (lv_at hl 1 rfl) ?_
  refine z_put (v := .int a0) hx hb hts hown hK hw zZ9 1 wX_g1 4 (by decide) zn_299 rfl rfl rfl (Nat.le_of_ble_eq_true rfl) zd_Text_refuseAt_2 (fun H locs hw => ?_)
  have hw := wX_sI6 hw
  exact z_ythrow (u := ((upd I 6 a0), J, B, D)) (names := ["java/lang/RuntimeException", "java/lang/Exception"]) hx hb hlt hts hown hnt hlocks hT (by rw [hml]; exact hl.1) (by decide +kernel) (by decide +kernel) zn_373 zn_374 zn_375 zx_0 hw (List.range 65) wX_all wX_nd hok zd_Text_refuseAt_5 zd_Text_refuseAt_8 zd_Text_refuseAt_9 zd_Text_refuseAt_12 (Nat.le_of_ble_eq_true rfl) (Nat.le_of_ble_eq_true rfl) (Nat.le_of_ble_eq_true rfl) (Nat.le_of_ble_eq_true rfl) (Nat.le_of_ble_eq_true rfl) (Nat.le_of_ble_eq_true rfl)
def wc_Tree_behind_63 (a0 : Int32) (Post : Int32 → (Nat → Int32) → (Nat → Int64) → (Nat → Nat → Int32) → (Nat → Nat → Int64) → Prop)  (I : Nat → Int32) (J : Nat → Int64) (B : Nat → Nat → Int32) (D : Nat → Nat → Int64) : Prop :=
  Post (-2) I J B D
def wc_Tree_behind_57 (a0 : Int32) (K4 : Int32 → Int32 → (Nat → Int32) → (Nat → Int64) → (Nat → Nat → Int32) → (Nat → Nat → Int64) → Prop) (Post : Int32 → (Nat → Int32) → (Nat → Int64) → (Nat → Nat → Int32) → (Nat → Nat → Int64) → Prop) (x2 : Int32) (x3 : Int32) (I : Nat → Int32) (J : Nat → Int64) (B : Nat → Nat → Int32) (D : Nat → Nat → Int64) : Prop :=
  ∀ z1 : Int32, z1 = (x3 + 1) → K4 x2 z1 I J B D
def wb_Tree_behind_4 (a0 : Int32) (K4 : Int32 → Int32 → (Nat → Int32) → (Nat → Int64) → (Nat → Nat → Int32) → (Nat → Nat → Int64) → Prop) (Post : Int32 → (Nat → Int32) → (Nat → Int64) → (Nat → Nat → Int32) → (Nat → Nat → Int64) → Prop) (x2 : Int32) (x3 : Int32) (I : Nat → Int32) (J : Nat → Int64) (B : Nat → Nat → Int32) (D : Nat → Nat → Int64) : Prop :=
  (((240 : Int32) ≤ x3 → wc_Tree_behind_63 a0 Post I J B D) ∧ (¬ (240 : Int32) ≤ x3 → ((x2 = (-1) → wc_Tree_behind_63 a0 Post I J B D) ∧ (¬ x2 = (-1) → vp_in x2 240 ∧ ∀ z4 : Int32, z4 = ((B 23) x2.toNatClampNeg) → ((z4 = (-1) → vp_in x2 240 ∧ ∀ z6 : Int32, z6 = ((B 19) x2.toNatClampNeg) → ((z6 = (-1) → wc_Tree_behind_57 a0 K4 Post z6 x3 I J B D) ∧ (¬ z6 = (-1) → vp_in z6 240 ∧ ∀ z8 : Int32, z8 = ((B 18) z6.toNatClampNeg) → ((¬ z8 = 2 → wc_Tree_behind_57 a0 K4 Post z6 x3 I J B D) ∧ (z8 = 2 → Post z6 I J B D))))) ∧ (¬ z4 = (-1) → vp_in x2 240 ∧ ∀ z10 : Int32, z10 = ((B 23) x2.toNatClampNeg) → Post z10 I J B D))))))
def wl_Tree_behind_4 (a0 : Int32) (Post : Int32 → (Nat → Int32) → (Nat → Int64) → (Nat → Nat → Int32) → (Nat → Nat → Int64) → Prop) (n : Nat) : Int32 → Int32 → (Nat → Int32) → (Nat → Int64) → (Nat → Nat → Int32) → (Nat → Nat → Int64) → Prop := Nat.rec (fun _ _ _ _ _ _ => False) (fun _ r => wb_Tree_behind_4 a0 r Post) n
def wp_Tree_behind (I : Nat → Int32) (J : Nat → Int64) (B : Nat → Nat → Int32) (D : Nat → Nat → Int64) (a0 : Int32) (Post : Int32 → (Nat → Int32) → (Nat → Int64) → (Nat → Nat → Int32) → (Nat → Nat → Int64) → Prop) : Prop :=
  ∃ n : Nat, wl_Tree_behind_4 a0 Post n a0 0 I J B D
set_option maxHeartbeats 8000000 in
set_option maxRecDepth 100000 in
theorem wJ_Tree_behind_63 {p : Program} {l : Launch} {e : Env} {s : State} {m : MethodId} {below : List Frame} {meth : Method} {c : Code} {A : Nat → Prop} (G : va_G) (K : Nat → ClassId) (ad : Nat → Nat) (sv : Value) (a0 : Int32) (Post : Int32 → (Nat → Int32) → (Nat → Int64) → (Nat → Nat → Int32) → (Nat → Nat → Int64) → Prop) (C : zCx p s m ([.ref (ad 6), .int a0] : List Value).toArray meth c A G K prog_11_method_6_code (some .int) 4 "LassoFinder$Tree") : ∀  (I : Nat → Int32) (J : Nat → Int64) (B : Nat → Nat → Int32) (D : Nat → Nat → Int64) (ls : Array Slot) (H : Heap) (locs : List Loc), wc_Tree_behind_63 a0 Post  I J B D → lv_has ls 4 [] → zW G A s.heap (wX ad K sv I J B D) H locs → W p l e { frames := 0, cells := 0, slots := 0, locals := 0 } s m ([.ref (ad 6), .int a0] : List Value).toArray below meth c H locs 0 0 (MQ below (va_Qi (fun (r : Int32) (u : zS) => Post r u.1 u.2.1 u.2.2.1 u.2.2.2) (fun u t => zPost G K A (wX ad K sv u.1 u.2.1 u.2.2.1 u.2.2.2) t) A) ([.ref (ad 6), .int a0] : List Value).toArray s 0 0 A) (F0 m 63 ls []) := by
  obtain ⟨hx, hb, hr, hml, hts, hown, hlocks, hA, hK⟩ := id C
  intro  I J B D ls H locs hok hl hw
  unfold wc_Tree_behind_63 at hok
  refine lv_bipush (v := (-2)) hx hb zd_Tree_behind_63 (by decide) ?_
  exact (z_iret (u := (I, J, B, D)) hx hb hr hlocks rfl hw (List.range 65) wX_all wX_nd hok (Nat.le_of_ble_eq_true rfl) (Nat.le_of_ble_eq_true rfl) zd_Tree_behind_65)
set_option maxHeartbeats 8000000 in
set_option maxRecDepth 100000 in
theorem wJ_Tree_behind_57 {p : Program} {l : Launch} {e : Env} {s : State} {m : MethodId} {below : List Frame} {meth : Method} {c : Code} {A : Nat → Prop} (G : va_G) (K : Nat → ClassId) (ad : Nat → Nat) (sv : Value) (a0 : Int32) (Post : Int32 → (Nat → Int32) → (Nat → Int64) → (Nat → Nat → Int32) → (Nat → Nat → Int64) → Prop) (C : zCx p s m ([.ref (ad 6), .int a0] : List Value).toArray meth c A G K prog_11_method_6_code (some .int) 4 "LassoFinder$Tree") (K4 : Int32 → Int32 → (Nat → Int32) → (Nat → Int64) → (Nat → Nat → Int32) → (Nat → Nat → Int64) → Prop) (kh4 : ∀ (x2 : Int32) (x3 : Int32) (I : Nat → Int32) (J : Nat → Int64) (B : Nat → Nat → Int32) (D : Nat → Nat → Int64) (ls : Array Slot) (H : Heap) (locs : List Loc), K4 x2 x3 I J B D → lv_has ls 4 [(0, .ref (ad 6)), (2, .int x2), (3, .int x3)] → zW G A s.heap (wX ad K sv I J B D) H locs → W p l e { frames := 0, cells := 0, slots := 0, locals := 0 } s m ([.ref (ad 6), .int a0] : List Value).toArray below meth c H locs 0 0 (MQ below (va_Qi (fun (r : Int32) (u : zS) => Post r u.1 u.2.1 u.2.2.1 u.2.2.2) (fun u t => zPost G K A (wX ad K sv u.1 u.2.1 u.2.2.1 u.2.2.2) t) A) ([.ref (ad 6), .int a0] : List Value).toArray s 0 0 A) (F0 m 4 ls [])) : ∀ (x2 : Int32) (x3 : Int32) (I : Nat → Int32) (J : Nat → Int64) (B : Nat → Nat → Int32) (D : Nat → Nat → Int64) (ls : Array Slot) (H : Heap) (locs : List Loc), wc_Tree_behind_57 a0 K4 Post x2 x3 I J B D → lv_has ls 4 [(0, .ref (ad 6)), (2, .int x2), (3, .int x3)] → zW G A s.heap (wX ad K sv I J B D) H locs → W p l e { frames := 0, cells := 0, slots := 0, locals := 0 } s m ([.ref (ad 6), .int a0] : List Value).toArray below meth c H locs 0 0 (MQ below (va_Qi (fun (r : Int32) (u : zS) => Post r u.1 u.2.1 u.2.2.1 u.2.2.2) (fun u t => zPost G K A (wX ad K sv u.1 u.2.1 u.2.2.1 u.2.2.2) t) A) ([.ref (ad 6), .int a0] : List Value).toArray s 0 0 A) (F0 m 57 ls []) := by
  obtain ⟨hx, hb, hr, hml, hts, hown, hlocks, hA, hK⟩ := id C
  intro x2 x3 I J B D ls H locs hok hl hw
  unfold wc_Tree_behind_57 at hok
  obtain ⟨z1, ez1⟩ : ∃ z : Int32, z = (x3 + 1) := ⟨_, rfl⟩
  have hok := hok z1 ez1
  refine lv_iinc (v := z1) hx hb zd_Tree_behind_57 hl (k := 2) rfl ez1.symm (by decide) rfl (fun ls hl => ?_)
  have hl : lv_has ls 4 [(3, .int z1), (0, .ref (ad 6)), (2, .int x2)] := hl
  refine lv_goto (tgt := 4) hx hb zd_Tree_behind_60 (by decide) ?_
  exact kh4 x2 z1 I J B D ls H locs hok (lv_sub hl [1, 2, 0] rfl) hw
set_option maxHeartbeats 8000000 in
set_option maxRecDepth 100000 in
theorem wB_Tree_behind_4 {p : Program} {l : Launch} {e : Env} {s : State} {m : MethodId} {below : List Frame} {meth : Method} {c : Code} {A : Nat → Prop} (G : va_G) (K : Nat → ClassId) (ad : Nat → Nat) (sv : Value) (a0 : Int32) (Post : Int32 → (Nat → Int32) → (Nat → Int64) → (Nat → Nat → Int32) → (Nat → Nat → Int64) → Prop) (C : zCx p s m ([.ref (ad 6), .int a0] : List Value).toArray meth c A G K prog_11_method_6_code (some .int) 4 "LassoFinder$Tree") (K4 : Int32 → Int32 → (Nat → Int32) → (Nat → Int64) → (Nat → Nat → Int32) → (Nat → Nat → Int64) → Prop) (kh4 : ∀ (x2 : Int32) (x3 : Int32) (I : Nat → Int32) (J : Nat → Int64) (B : Nat → Nat → Int32) (D : Nat → Nat → Int64) (ls : Array Slot) (H : Heap) (locs : List Loc), K4 x2 x3 I J B D → lv_has ls 4 [(0, .ref (ad 6)), (2, .int x2), (3, .int x3)] → zW G A s.heap (wX ad K sv I J B D) H locs → W p l e { frames := 0, cells := 0, slots := 0, locals := 0 } s m ([.ref (ad 6), .int a0] : List Value).toArray below meth c H locs 0 0 (MQ below (va_Qi (fun (r : Int32) (u : zS) => Post r u.1 u.2.1 u.2.2.1 u.2.2.2) (fun u t => zPost G K A (wX ad K sv u.1 u.2.1 u.2.2.1 u.2.2.2) t) A) ([.ref (ad 6), .int a0] : List Value).toArray s 0 0 A) (F0 m 4 ls [])) : ∀ (x2 : Int32) (x3 : Int32) (I : Nat → Int32) (J : Nat → Int64) (B : Nat → Nat → Int32) (D : Nat → Nat → Int64) (ls : Array Slot) (H : Heap) (locs : List Loc), wb_Tree_behind_4 a0 K4 Post x2 x3 I J B D → lv_has ls 4 [(0, .ref (ad 6)), (2, .int x2), (3, .int x3)] → zW G A s.heap (wX ad K sv I J B D) H locs → W p l e { frames := 0, cells := 0, slots := 0, locals := 0 } s m ([.ref (ad 6), .int a0] : List Value).toArray below meth c H locs 0 0 (MQ below (va_Qi (fun (r : Int32) (u : zS) => Post r u.1 u.2.1 u.2.2.1 u.2.2.2) (fun u t => zPost G K A (wX ad K sv u.1 u.2.1 u.2.2.1 u.2.2.2) t) A) ([.ref (ad 6), .int a0] : List Value).toArray s 0 0 A) (F0 m 4 ls []) := by
  obtain ⟨hx, hb, hr, hml, hts, hown, hlocks, hA, hK⟩ := id C
  intro x2 x3 I J B D ls H locs hok hl hw
  unfold wb_Tree_behind_4 at hok
  refine lv_iload_n hx hb zd_Tree_behind_4 rfl (lv_at hl 2 rfl) ?_
  refine lv_sipush (v := 240) hx hb zd_Tree_behind_5 (by decide) ?_
  refine lv_icmp_ge (tgt := 63) hx hb zd_Tree_behind_8 (by decide) (fun hc2 => ?_) (fun hc2 => ?_)
  · have hok := hok.1 hc2
    exact wJ_Tree_behind_63 G K ad sv a0 Post C I J B D ls H locs hok (lv_sub hl [] rfl) hw
  · have hok := hok.2 hc2
    refine lv_iload_n hx hb zd_Tree_behind_11 rfl (lv_at hl 1 rfl) ?_
    refine lv_iconst (v := (-1)) hx hb zd_Tree_behind_12 (by decide) ?_
    refine lv_icmp_eq (tgt := 63) hx hb zd_Tree_behind_13 (by decide) (fun hc3 => ?_) (fun hc3 => ?_)
    · have hok := hok.1 hc3
      exact wJ_Tree_behind_63 G K ad sv a0 Post C I J B D ls H locs hok (lv_sub hl [] rfl) hw
    · have hok := hok.2 hc3
      refine lv_aload_n hx hb zd_Tree_behind_16 rfl (lv_at hl 0 rfl) ?_
      refine z_get (v := .ref (ad 37)) hx hb hts hown hK hw zZ10 6 wX_g6 5 (by decide) zn_260 rfl zd_Tree_behind_17 ?_
      refine lv_iload_n hx hb zd_Tree_behind_20 rfl (lv_at hl 1 rfl) ?_
      refine va_iald (f := (B 23)) hx hb hK hw.1 37 0 wX_a37 rfl hok.1 zd_Tree_behind_21 ?_
      have hok := hok.2
      refine lv_topi (fun z4 ez4 => ?_)
      have hok := hok z4 ez4
      refine lv_iconst (v := (-1)) hx hb zd_Tree_behind_22 (by decide) ?_
      refine lv_icmp_eq (tgt := 33) hx hb zd_Tree_behind_23 (by decide) (fun hc5 => ?_) (fun hc5 => ?_)
      · have hok := hok.1 hc5
        refine lv_aload_n hx hb zd_Tree_behind_33 rfl (lv_at hl 0 rfl) ?_
        refine z_get (v := .ref (ad 33)) hx hb hts hown hK hw zZ10 6 wX_g6 1 (by decide) zn_256 rfl zd_Tree_behind_34 ?_
        refine lv_iload_n hx hb zd_Tree_behind_37 rfl (lv_at hl 1 rfl) ?_
        refine va_iald (f := (B 19)) hx hb hK hw.1 33 0 wX_a33 rfl hok.1 zd_Tree_behind_38 ?_
        have hok := hok.2
        refine lv_topi (fun z6 ez6 => ?_)
        have hok := hok z6 ez6
        refine lv_istore_n hx hb zd_Tree_behind_39 rfl hl (by decide) rfl (fun ls hl => ?_)
        have hl : lv_has ls 4 [(2, .int z6), (0, .ref (ad 6)), (3, .int x3)] := hl
        refine lv_iload_n hx hb zd_Tree_behind_40 rfl (lv_at hl 0 rfl) ?_
        refine lv_iconst (v := (-1)) hx hb zd_Tree_behind_41 (by decide) ?_
        refine lv_icmp_eq (tgt := 57) hx hb zd_Tree_behind_42 (by decide) (fun hc7 => ?_) (fun hc7 => ?_)
        · have hok := hok.1 hc7
          exact wJ_Tree_behind_57 G K ad sv a0 Post C K4 kh4 z6 x3 I J B D ls H locs hok (lv_sub hl [1, 0, 2] rfl) hw
        · have hok := hok.2 hc7
          refine lv_aload_n hx hb zd_Tree_behind_45 rfl (lv_at hl 1 rfl) ?_
          refine z_get (v := .ref (ad 32)) hx hb hts hown hK hw zZ10 6 wX_g6 0 (by decide) zn_255 rfl zd_Tree_behind_46 ?_
          refine lv_iload_n hx hb zd_Tree_behind_49 rfl (lv_at hl 0 rfl) ?_
          refine va_iald (f := (B 18)) hx hb hK hw.1 32 0 wX_a32 rfl hok.1 zd_Tree_behind_50 ?_
          have hok := hok.2
          refine lv_topi (fun z8 ez8 => ?_)
          have hok := hok z8 ez8
          refine lv_iconst (v := 2) hx hb zd_Tree_behind_51 (by decide) ?_
          refine lv_icmp_ne (tgt := 57) hx hb zd_Tree_behind_52 (by decide) (fun hc9 => ?_) (fun hc9 => ?_)
          · have hok := hok.1 hc9
            exact wJ_Tree_behind_57 G K ad sv a0 Post C K4 kh4 z6 x3 I J B D ls H locs hok (lv_sub hl [1, 0, 2] rfl) hw
          · have hok := hok.2 hc9
            refine lv_iload_n hx hb zd_Tree_behind_55 rfl (lv_at hl 0 rfl) ?_
            exact (z_iret (u := (I, J, B, D)) hx hb hr hlocks rfl hw (List.range 65) wX_all wX_nd hok (Nat.le_of_ble_eq_true rfl) (Nat.le_of_ble_eq_true rfl) zd_Tree_behind_56)
      · have hok := hok.2 hc5
        refine lv_aload_n hx hb zd_Tree_behind_26 rfl (lv_at hl 0 rfl) ?_
        refine z_get (v := .ref (ad 37)) hx hb hts hown hK hw zZ10 6 wX_g6 5 (by decide) zn_260 rfl zd_Tree_behind_27 ?_
        refine lv_iload_n hx hb zd_Tree_behind_30 rfl (lv_at hl 1 rfl) ?_
        refine va_iald (f := (B 23)) hx hb hK hw.1 37 0 wX_a37 rfl hok.1 zd_Tree_behind_31 ?_
        have hok := hok.2
        refine lv_topi (fun z10 ez10 => ?_)
        have hok := hok z10 ez10
        exact (z_iret (u := (I, J, B, D)) hx hb hr hlocks rfl hw (List.range 65) wX_all wX_nd hok (Nat.le_of_ble_eq_true rfl) (Nat.le_of_ble_eq_true rfl) zd_Tree_behind_32)
theorem wL_Tree_behind_4 {p : Program} {l : Launch} {e : Env} {s : State} {m : MethodId} {below : List Frame} {meth : Method} {c : Code} {A : Nat → Prop} (G : va_G) (K : Nat → ClassId) (ad : Nat → Nat) (sv : Value) (a0 : Int32) (Post : Int32 → (Nat → Int32) → (Nat → Int64) → (Nat → Nat → Int32) → (Nat → Nat → Int64) → Prop) (C : zCx p s m ([.ref (ad 6), .int a0] : List Value).toArray meth c A G K prog_11_method_6_code (some .int) 4 "LassoFinder$Tree") : ∀ (n : Nat) (x2 : Int32) (x3 : Int32) (I : Nat → Int32) (J : Nat → Int64) (B : Nat → Nat → Int32) (D : Nat → Nat → Int64) (ls : Array Slot) (H : Heap) (locs : List Loc), wl_Tree_behind_4 a0 Post n x2 x3 I J B D → lv_has ls 4 [(0, .ref (ad 6)), (2, .int x2), (3, .int x3)] → zW G A s.heap (wX ad K sv I J B D) H locs → W p l e { frames := 0, cells := 0, slots := 0, locals := 0 } s m ([.ref (ad 6), .int a0] : List Value).toArray below meth c H locs 0 0 (MQ below (va_Qi (fun (r : Int32) (u : zS) => Post r u.1 u.2.1 u.2.2.1 u.2.2.2) (fun u t => zPost G K A (wX ad K sv u.1 u.2.1 u.2.2.1 u.2.2.2) t) A) ([.ref (ad 6), .int a0] : List Value).toArray s 0 0 A) (F0 m 4 ls []) := by
  intro n
  induction n with
  | zero => intro x2 x3 I J B D ls H locs hok; exact hok.elim
  | succ n ih => exact wB_Tree_behind_4 G K ad sv a0 Post C (wl_Tree_behind_4 a0 Post n) ih
set_option maxHeartbeats 8000000 in
set_option maxRecDepth 100000 in
theorem w_Tree_behind (l : Launch) (G : va_G) (K : Nat → ClassId) (ad : Nat → Nat) (sv : Value) (I : Nat → Int32) (J : Nat → Int64) (B : Nat → Nat → Int32) (D : Nat → Nat → Int64) (a0 : Int32) (Post : Int32 → (Nat → Int32) → (Nat → Int64) → (Nat → Nat → Int32) → (Nat → Nat → Int64) → Prop) (sz : Nat) (hok : wp_Tree_behind I J B D a0 Post) : Met l zy_Tree_behind (Cond.code zy_Tree_behind prog_11_method_6_code 4 (some .int) :: zTB) { frames := 0, cells := 0, slots := 0, locals := 0 } (va_Pc [.ref (ad 6), .int a0] (zPre G K (wX ad K sv I J B D) sz)) (va_Qi (fun (r : Int32) (u : zS) => Post r u.1 u.2.1 u.2.2.1 u.2.2.2) (fun u t => zPost G K (va_A (wX ad K sv I J B D) sz) (wX ad K sv u.1 u.2.1 u.2.2.1 u.2.2.2) t) (va_A (wX ad K sv I J B D) sz)) 0 0 (va_A (wX ad K sv I J B D) sz) := by
  refine zMet (y := zy_Tree_behind) (av := [.ref (ad 6), .int a0]) (maxL := 4) (cc := prog_11_method_6_code) (ret := (some .int)) (W0 := (wX ad K sv I J B D)) (sz := sz) (G := G) (K := K) (wt := zTB) (mc := 0) (ms := 0) (Qf := fun A => va_Qi (fun (r : Int32) (u : zS) => Post r u.1 u.2.1 u.2.2.1 u.2.2.2) (fun u t => zPost G K A (wX ad K sv u.1 u.2.1 u.2.2.1 u.2.2.2) t) A) (by decide) (Nat.le_of_ble_eq_true rfl) ?_
  intro p e s m below meth c ls A hx hb hr hml hts hown hlocks hin hA hK H locs hw hsz hl
  clear hsz
  have hown : s.vm.findClass "LassoFinder$Tree" = some m.cls := hown
  have C : zCx p s m ([.ref (ad 6), .int a0] : List Value).toArray meth c A G K prog_11_method_6_code (some .int) 4 "LassoFinder$Tree" := ⟨hx, hb, hr, hml, hts, hown, hlocks, hA, hK⟩
  have hl : lv_has ls 4 [(0, .ref (ad 6)), (1, .int a0)] := hl
  have hw : zW G A s.heap (wX ad K sv I J B D) H locs := hw
  unfold wp_Tree_behind at hok
  refine lv_iload_n hx hb zd_Tree_behind_0 rfl (lv_at hl 1 rfl) ?_
  refine lv_istore_n hx hb zd_Tree_behind_1 rfl hl (by decide) rfl (fun ls hl => ?_)
  have hl : lv_has ls 4 [(2, .int a0), (0, .ref (ad 6)), (1, .int a0)] := hl
  refine lv_iconst (v := 0) hx hb zd_Tree_behind_2 (by decide) ?_
  refine lv_istore_n hx hb zd_Tree_behind_3 rfl hl (by decide) rfl (fun ls hl => ?_)
  have hl : lv_has ls 4 [(3, .int 0), (2, .int a0), (0, .ref (ad 6)), (1, .int a0)] := hl
  obtain ⟨n9, hok⟩ := hok
  exact wL_Tree_behind_4 G K ad sv a0 Post C n9 a0 0 I J B D ls H locs hok (lv_sub hl [2, 1, 0] rfl) hw
def wc_Tree_settled_89 (a0 : Int32) (K4 : Int32 → Int32 → (Nat → Int32) → (Nat → Int64) → (Nat → Nat → Int32) → (Nat → Nat → Int64) → Prop) (Post : Int32 → (Nat → Int32) → (Nat → Int64) → (Nat → Nat → Int32) → (Nat → Nat → Int64) → Prop) (x2 : Int32) (x3 : Int32) (I : Nat → Int32) (J : Nat → Int64) (B : Nat → Nat → Int32) (D : Nat → Nat → Int64) : Prop :=
  ∀ z1 : Int32, z1 = (x3 + 1) → K4 x2 z1 I J B D
def wb_Tree_settled_4 (a0 : Int32) (K4 : Int32 → Int32 → (Nat → Int32) → (Nat → Int64) → (Nat → Nat → Int32) → (Nat → Nat → Int64) → Prop) (Post : Int32 → (Nat → Int32) → (Nat → Int64) → (Nat → Nat → Int32) → (Nat → Nat → Int64) → Prop) (x2 : Int32) (x3 : Int32) (I : Nat → Int32) (J : Nat → Int64) (B : Nat → Nat → Int32) (D : Nat → Nat → Int64) : Prop :=
  (((240 : Int32) < x3 → Post (-4) I J B D) ∧ (¬ (240 : Int32) < x3 → (((0 : Int32) ≤ x2 → vp_in x2 240 ∧ ∀ z4 : Int32, z4 = ((B 18) x2.toNatClampNeg) → ((z4 = 3 → vp_in x2 240 ∧ ∀ z6 : Int32, z6 = ((B 24) x2.toNatClampNeg) → wc_Tree_settled_89 a0 K4 Post z6 x3 I J B D) ∧ (z4 = 4 → vp_in x2 240 ∧ ∀ z8 : Int32, z8 = ((B 20) x2.toNatClampNeg) → wp_Tree_behind I J B D z8 (fun r9 I9 J9 B9 D9 => wc_Tree_settled_89 a0 K4 Post r9 x3 I9 J9 B9 D9)) ∧ (z4 = 5 → vp_in x2 240 ∧ ∀ z11 : Int32, z11 = ((B 26) x2.toNatClampNeg) → vp_in z11 8 ∧ ∀ z12 : Int32, z12 = ((B 28) z11.toNatClampNeg) → wc_Tree_settled_89 a0 K4 Post z12 x3 I J B D) ∧ (¬ z4 = 3 → ¬ z4 = 4 → ¬ z4 = 5 → Post x2 I J B D))) ∧ (¬ (0 : Int32) ≤ x2 → Post x2 I J B D))))
def wl_Tree_settled_4 (a0 : Int32) (Post : Int32 → (Nat → Int32) → (Nat → Int64) → (Nat → Nat → Int32) → (Nat → Nat → Int64) → Prop) (n : Nat) : Int32 → Int32 → (Nat → Int32) → (Nat → Int64) → (Nat → Nat → Int32) → (Nat → Nat → Int64) → Prop := Nat.rec (fun _ _ _ _ _ _ => False) (fun _ r => wb_Tree_settled_4 a0 r Post) n
def wp_Tree_settled (I : Nat → Int32) (J : Nat → Int64) (B : Nat → Nat → Int32) (D : Nat → Nat → Int64) (a0 : Int32) (Post : Int32 → (Nat → Int32) → (Nat → Int64) → (Nat → Nat → Int32) → (Nat → Nat → Int64) → Prop) : Prop :=
  ∃ n : Nat, wl_Tree_settled_4 a0 Post n a0 0 I J B D
set_option maxHeartbeats 8000000 in
set_option maxRecDepth 100000 in
theorem wJ_Tree_settled_89 {p : Program} {l : Launch} {e : Env} {s : State} {m : MethodId} {below : List Frame} {meth : Method} {c : Code} {A : Nat → Prop} (G : va_G) (K : Nat → ClassId) (ad : Nat → Nat) (sv : Value) (a0 : Int32) (Post : Int32 → (Nat → Int32) → (Nat → Int64) → (Nat → Nat → Int32) → (Nat → Nat → Int64) → Prop) (C : zCx p s m ([.ref (ad 6), .int a0] : List Value).toArray meth c A G K prog_11_method_7_code (some .int) 4 "LassoFinder$Tree") (K4 : Int32 → Int32 → (Nat → Int32) → (Nat → Int64) → (Nat → Nat → Int32) → (Nat → Nat → Int64) → Prop) (kh4 : ∀ (x2 : Int32) (x3 : Int32) (I : Nat → Int32) (J : Nat → Int64) (B : Nat → Nat → Int32) (D : Nat → Nat → Int64) (ls : Array Slot) (H : Heap) (locs : List Loc), K4 x2 x3 I J B D → lv_has ls 4 [(0, .ref (ad 6)), (2, .int x2), (3, .int x3)] → zW G A s.heap (wX ad K sv I J B D) H locs → W p l e { frames := 1, cells := 0, slots := 0, locals := 23 } s m ([.ref (ad 6), .int a0] : List Value).toArray below meth c H locs 0 0 (MQ below (va_Qi (fun (r : Int32) (u : zS) => Post r u.1 u.2.1 u.2.2.1 u.2.2.2) (fun u t => zPost G K A (wX ad K sv u.1 u.2.1 u.2.2.1 u.2.2.2) t) A) ([.ref (ad 6), .int a0] : List Value).toArray s 0 0 A) (F0 m 4 ls [])) : ∀ (x2 : Int32) (x3 : Int32) (I : Nat → Int32) (J : Nat → Int64) (B : Nat → Nat → Int32) (D : Nat → Nat → Int64) (ls : Array Slot) (H : Heap) (locs : List Loc), wc_Tree_settled_89 a0 K4 Post x2 x3 I J B D → lv_has ls 4 [(0, .ref (ad 6)), (2, .int x2), (3, .int x3)] → zW G A s.heap (wX ad K sv I J B D) H locs → W p l e { frames := 1, cells := 0, slots := 0, locals := 23 } s m ([.ref (ad 6), .int a0] : List Value).toArray below meth c H locs 0 0 (MQ below (va_Qi (fun (r : Int32) (u : zS) => Post r u.1 u.2.1 u.2.2.1 u.2.2.2) (fun u t => zPost G K A (wX ad K sv u.1 u.2.1 u.2.2.1 u.2.2.2) t) A) ([.ref (ad 6), .int a0] : List Value).toArray s 0 0 A) (F0 m 89 ls []) := by
  obtain ⟨hx, hb, hr, hml, hts, hown, hlocks, hA, hK⟩ := id C
  intro x2 x3 I J B D ls H locs hok hl hw
  unfold wc_Tree_settled_89 at hok
  obtain ⟨z1, ez1⟩ : ∃ z : Int32, z = (x3 + 1) := ⟨_, rfl⟩
  have hok := hok z1 ez1
  refine lv_iinc (v := z1) hx hb zd_Tree_settled_89 hl (k := 2) rfl ez1.symm (by decide) rfl (fun ls hl => ?_)
  have hl : lv_has ls 4 [(3, .int z1), (0, .ref (ad 6)), (2, .int x2)] := hl
  refine lv_goto (tgt := 4) hx hb zd_Tree_settled_92 (by decide) ?_
  exact kh4 x2 z1 I J B D ls H locs hok (lv_sub hl [1, 2, 0] rfl) hw
set_option maxHeartbeats 8000000 in
set_option maxRecDepth 100000 in
theorem wB_Tree_settled_4 {p : Program} {l : Launch} {e : Env} {s : State} {m : MethodId} {below : List Frame} {meth : Method} {c : Code} {A : Nat → Prop} (G : va_G) (K : Nat → ClassId) (ad : Nat → Nat) (sv : Value) (a0 : Int32) (Post : Int32 → (Nat → Int32) → (Nat → Int64) → (Nat → Nat → Int32) → (Nat → Nat → Int64) → Prop) (C : zCx p s m ([.ref (ad 6), .int a0] : List Value).toArray meth c A G K prog_11_method_7_code (some .int) 4 "LassoFinder$Tree") (K4 : Int32 → Int32 → (Nat → Int32) → (Nat → Int64) → (Nat → Nat → Int32) → (Nat → Nat → Int64) → Prop) (kh4 : ∀ (x2 : Int32) (x3 : Int32) (I : Nat → Int32) (J : Nat → Int64) (B : Nat → Nat → Int32) (D : Nat → Nat → Int64) (ls : Array Slot) (H : Heap) (locs : List Loc), K4 x2 x3 I J B D → lv_has ls 4 [(0, .ref (ad 6)), (2, .int x2), (3, .int x3)] → zW G A s.heap (wX ad K sv I J B D) H locs → W p l e { frames := 1, cells := 0, slots := 0, locals := 23 } s m ([.ref (ad 6), .int a0] : List Value).toArray below meth c H locs 0 0 (MQ below (va_Qi (fun (r : Int32) (u : zS) => Post r u.1 u.2.1 u.2.2.1 u.2.2.2) (fun u t => zPost G K A (wX ad K sv u.1 u.2.1 u.2.2.1 u.2.2.2) t) A) ([.ref (ad 6), .int a0] : List Value).toArray s 0 0 A) (F0 m 4 ls [])) : ∀ (x2 : Int32) (x3 : Int32) (I : Nat → Int32) (J : Nat → Int64) (B : Nat → Nat → Int32) (D : Nat → Nat → Int64) (ls : Array Slot) (H : Heap) (locs : List Loc), wb_Tree_settled_4 a0 K4 Post x2 x3 I J B D → lv_has ls 4 [(0, .ref (ad 6)), (2, .int x2), (3, .int x3)] → zW G A s.heap (wX ad K sv I J B D) H locs → W p l e { frames := 1, cells := 0, slots := 0, locals := 23 } s m ([.ref (ad 6), .int a0] : List Value).toArray below meth c H locs 0 0 (MQ below (va_Qi (fun (r : Int32) (u : zS) => Post r u.1 u.2.1 u.2.2.1 u.2.2.2) (fun u t => zPost G K A (wX ad K sv u.1 u.2.1 u.2.2.1 u.2.2.2) t) A) ([.ref (ad 6), .int a0] : List Value).toArray s 0 0 A) (F0 m 4 ls []) := by
  obtain ⟨hx, hb, hr, hml, hts, hown, hlocks, hA, hK⟩ := id C
  intro x2 x3 I J B D ls H locs hok hl hw
  unfold wb_Tree_settled_4 at hok
  refine lv_iload_n hx hb zd_Tree_settled_4 rfl (lv_at hl 2 rfl) ?_
  refine lv_sipush (v := 240) hx hb zd_Tree_settled_5 (by decide) ?_
  refine lv_icmp_gt (tgt := 95) hx hb zd_Tree_settled_8 (by decide) (fun hc2 => ?_) (fun hc2 => ?_)
  · have hok := hok.1 hc2
    refine lv_bipush (v := (-4)) hx hb zd_Tree_settled_95 (by decide) ?_
    exact (z_iret (u := (I, J, B, D)) hx hb hr hlocks rfl hw (List.range 65) wX_all wX_nd hok (Nat.le_of_ble_eq_true rfl) (Nat.le_of_ble_eq_true rfl) zd_Tree_settled_97)
  · have hok := hok.2 hc2
    refine lv_iload_n hx hb zd_Tree_settled_11 rfl (lv_at hl 1 rfl) ?_
    refine lv_if_ge (tgt := 17) hx hb zd_Tree_settled_12 (by decide) (fun hc3 => ?_) (fun hc3 => ?_)
    · have hok := hok.1 hc3
      refine lv_aload_n hx hb zd_Tree_settled_17 rfl (lv_at hl 0 rfl) ?_
      refine z_get (v := .ref (ad 32)) hx hb hts hown hK hw zZ10 6 wX_g6 0 (by decide) zn_255 rfl zd_Tree_settled_18 ?_
      refine lv_iload_n hx hb zd_Tree_settled_21 rfl (lv_at hl 1 rfl) ?_
      refine va_iald (f := (B 18)) hx hb hK hw.1 32 0 wX_a32 rfl hok.1 zd_Tree_settled_22 ?_
      have hok := hok.2
      refine lv_topi (fun z4 ez4 => ?_)
      have hok := hok z4 ez4
      by_cases hs5 : z4 = 3
      · have hok := hok.1 hs5
        refine lv_tableIn (off := 25) (tgt := 48) hx hb zd_Tree_settled_23 (by rw [hs5]; decide) (by rw [hs5]; decide) (by rw [hs5]; decide) (by decide) ?_
        refine lv_aload_n hx hb zd_Tree_settled_48 rfl (lv_at hl 0 rfl) ?_
        refine z_get (v := .ref (ad 38)) hx hb hts hown hK hw zZ10 6 wX_g6 6 (by decide) zn_261 rfl zd_Tree_settled_49 ?_
        refine lv_iload_n hx hb zd_Tree_settled_52 rfl (lv_at hl 1 rfl) ?_
        refine va_iald (f := (B 24)) hx hb hK hw.1 38 0 wX_a38 rfl hok.1 zd_Tree_settled_53 ?_
        have hok := hok.2
        refine lv_topi (fun z6 ez6 => ?_)
        have hok := hok z6 ez6
        refine lv_istore_n hx hb zd_Tree_settled_54 rfl hl (by decide) rfl (fun ls hl => ?_)
        have hl : lv_has ls 4 [(2, .int z6), (0, .ref (ad 6)), (3, .int x3)] := hl
        refine lv_goto (tgt := 89) hx hb zd_Tree_settled_55 (by decide) ?_
        exact wJ_Tree_settled_89 G K ad sv a0 Post C K4 kh4 z6 x3 I J B D ls H locs hok (lv_sub hl [1, 0, 2] rfl) hw
      by_cases hs7 : z4 = 4
      · have hok := hok.2.1 hs7
        refine lv_tableIn (off := 35) (tgt := 58) hx hb zd_Tree_settled_23 (by rw [hs7]; decide) (by rw [hs7]; decide) (by rw [hs7]; decide) (by decide) ?_
        refine lv_aload_n hx hb zd_Tree_settled_58 rfl (lv_at hl 0 rfl) ?_
        refine lv_aload_n hx hb zd_Tree_settled_59 rfl (lv_at hl 0 rfl) ?_
        refine z_get (v := .ref (ad 34)) hx hb hts hown hK hw zZ10 6 wX_g6 2 (by decide) zn_257 rfl zd_Tree_settled_60 ?_
        refine lv_iload_n hx hb zd_Tree_settled_63 rfl (lv_at hl 1 rfl) ?_
        refine va_iald (f := (B 20)) hx hb hK hw.1 34 0 wX_a34 rfl hok.1 zd_Tree_settled_64 ?_
        have hok := hok.2
        refine lv_topi (fun z8 ez8 => ?_)
        have hok := hok z8 ez8
        refine z_calli (w1 := fun (u : zS) => wX ad K sv u.1 u.2.1 u.2.2.1 u.2.2.2) (wr := []) (z_runV (q0 := 6) (wc := (wX ad K sv I J B D)) (As := [.int z8]) (rest := []) ⟨hx, hb, hml, hown, hts⟩ (w_Tree_behind l G K ad sv I J B D z8 _ H.size hok) zf_Tree_behind zn_355 ⟨Nat.le_of_ble_eq_true rfl, Nat.le_of_ble_eq_true rfl⟩ hK hw (List.range 65) wX_all wX_nd wX_g6 rfl rfl hl.1 rfl (Nat.le_of_ble_eq_true rfl) zd_Tree_settled_65 ⟨Nat.le_of_ble_eq_true rfl, Nat.le_of_ble_eq_true rfl⟩) hw hA (List.range 65) [] wX_all rfl (by decide) (fun i hi => by cases hi) (fun r9 u H locs hok hw => ?_)
        obtain ⟨I9, J9, B9, D9⟩ := u
        dsimp only at hok
        have hw : zW G A s.heap (wX ad K sv I9 J9 B9 D9) H locs := hw
        refine lv_istore_n hx hb zd_Tree_settled_68 rfl hl (by decide) rfl (fun ls hl => ?_)
        have hl : lv_has ls 4 [(2, .int r9), (0, .ref (ad 6)), (3, .int x3)] := hl
        refine lv_goto (tgt := 89) hx hb zd_Tree_settled_69 (by decide) ?_
        exact wJ_Tree_settled_89 G K ad sv a0 Post C K4 kh4 r9 x3 I9 J9 B9 D9 ls H locs hok (lv_sub hl [1, 0, 2] rfl) hw
      by_cases hs10 : z4 = 5
      · have hok := hok.2.2.1 hs10
        refine lv_tableIn (off := 49) (tgt := 72) hx hb zd_Tree_settled_23 (by rw [hs10]; decide) (by rw [hs10]; decide) (by rw [hs10]; decide) (by decide) ?_
        refine lv_aload_n hx hb zd_Tree_settled_72 rfl (lv_at hl 0 rfl) ?_
        refine z_get (v := .ref (ad 42)) hx hb hts hown hK hw zZ10 6 wX_g6 10 (by decide) zn_265 rfl zd_Tree_settled_73 ?_
        refine lv_aload_n hx hb zd_Tree_settled_76 rfl (lv_at hl 0 rfl) ?_
        refine z_get (v := .ref (ad 40)) hx hb hts hown hK hw zZ10 6 wX_g6 8 (by decide) zn_263 rfl zd_Tree_settled_77 ?_
        refine lv_iload_n hx hb zd_Tree_settled_80 rfl (lv_at hl 1 rfl) ?_
        refine va_iald (f := (B 26)) hx hb hK hw.1 40 0 wX_a40 rfl hok.1 zd_Tree_settled_81 ?_
        have hok := hok.2
        refine lv_topi (fun z11 ez11 => ?_)
        have hok := hok z11 ez11
        refine va_iald (f := (B 28)) hx hb hK hw.1 42 0 wX_a42 rfl hok.1 zd_Tree_settled_82 ?_
        have hok := hok.2
        refine lv_topi (fun z12 ez12 => ?_)
        have hok := hok z12 ez12
        refine lv_istore_n hx hb zd_Tree_settled_83 rfl hl (by decide) rfl (fun ls hl => ?_)
        have hl : lv_has ls 4 [(2, .int z12), (0, .ref (ad 6)), (3, .int x3)] := hl
        refine lv_goto (tgt := 89) hx hb zd_Tree_settled_84 (by decide) ?_
        exact wJ_Tree_settled_89 G K ad sv a0 Post C K4 kh4 z12 x3 I J B D ls H locs hok (lv_sub hl [1, 0, 2] rfl) hw
      have hok := hok.2.2.2 hs5 hs7 hs10
      refine lv_tableOut (tgt := 87) hx hb zd_Tree_settled_23 (by have h0 := lv_neT hs5 (a := 3) (by decide); have h1 := lv_neT hs7 (a := 4) (by decide); have h2 := lv_neT hs10 (a := 5) (by decide); omega) (by decide) ?_
      refine lv_iload_n hx hb zd_Tree_settled_87 rfl (lv_at hl 1 rfl) ?_
      exact (z_iret (u := (I, J, B, D)) hx hb hr hlocks rfl hw (List.range 65) wX_all wX_nd hok (Nat.le_of_ble_eq_true rfl) (Nat.le_of_ble_eq_true rfl) zd_Tree_settled_88)
    · have hok := hok.2 hc3
      refine lv_iload_n hx hb zd_Tree_settled_15 rfl (lv_at hl 1 rfl) ?_
      exact (z_iret (u := (I, J, B, D)) hx hb hr hlocks rfl hw (List.range 65) wX_all wX_nd hok (Nat.le_of_ble_eq_true rfl) (Nat.le_of_ble_eq_true rfl) zd_Tree_settled_16)
theorem wL_Tree_settled_4 {p : Program} {l : Launch} {e : Env} {s : State} {m : MethodId} {below : List Frame} {meth : Method} {c : Code} {A : Nat → Prop} (G : va_G) (K : Nat → ClassId) (ad : Nat → Nat) (sv : Value) (a0 : Int32) (Post : Int32 → (Nat → Int32) → (Nat → Int64) → (Nat → Nat → Int32) → (Nat → Nat → Int64) → Prop) (C : zCx p s m ([.ref (ad 6), .int a0] : List Value).toArray meth c A G K prog_11_method_7_code (some .int) 4 "LassoFinder$Tree") : ∀ (n : Nat) (x2 : Int32) (x3 : Int32) (I : Nat → Int32) (J : Nat → Int64) (B : Nat → Nat → Int32) (D : Nat → Nat → Int64) (ls : Array Slot) (H : Heap) (locs : List Loc), wl_Tree_settled_4 a0 Post n x2 x3 I J B D → lv_has ls 4 [(0, .ref (ad 6)), (2, .int x2), (3, .int x3)] → zW G A s.heap (wX ad K sv I J B D) H locs → W p l e { frames := 1, cells := 0, slots := 0, locals := 23 } s m ([.ref (ad 6), .int a0] : List Value).toArray below meth c H locs 0 0 (MQ below (va_Qi (fun (r : Int32) (u : zS) => Post r u.1 u.2.1 u.2.2.1 u.2.2.2) (fun u t => zPost G K A (wX ad K sv u.1 u.2.1 u.2.2.1 u.2.2.2) t) A) ([.ref (ad 6), .int a0] : List Value).toArray s 0 0 A) (F0 m 4 ls []) := by
  intro n
  induction n with
  | zero => intro x2 x3 I J B D ls H locs hok; exact hok.elim
  | succ n ih => exact wB_Tree_settled_4 G K ad sv a0 Post C (wl_Tree_settled_4 a0 Post n) ih
set_option maxHeartbeats 8000000 in
set_option maxRecDepth 100000 in
theorem w_Tree_settled (l : Launch) (G : va_G) (K : Nat → ClassId) (ad : Nat → Nat) (sv : Value) (I : Nat → Int32) (J : Nat → Int64) (B : Nat → Nat → Int32) (D : Nat → Nat → Int64) (a0 : Int32) (Post : Int32 → (Nat → Int32) → (Nat → Int64) → (Nat → Nat → Int32) → (Nat → Nat → Int64) → Prop) (sz : Nat) (hok : wp_Tree_settled I J B D a0 Post) : Met l zy_Tree_settled (Cond.code zy_Tree_settled prog_11_method_7_code 4 (some .int) :: zTB) { frames := 1, cells := 0, slots := 0, locals := 23 } (va_Pc [.ref (ad 6), .int a0] (zPre G K (wX ad K sv I J B D) sz)) (va_Qi (fun (r : Int32) (u : zS) => Post r u.1 u.2.1 u.2.2.1 u.2.2.2) (fun u t => zPost G K (va_A (wX ad K sv I J B D) sz) (wX ad K sv u.1 u.2.1 u.2.2.1 u.2.2.2) t) (va_A (wX ad K sv I J B D) sz)) 0 0 (va_A (wX ad K sv I J B D) sz) := by
  refine zMet (y := zy_Tree_settled) (av := [.ref (ad 6), .int a0]) (maxL := 4) (cc := prog_11_method_7_code) (ret := (some .int)) (W0 := (wX ad K sv I J B D)) (sz := sz) (G := G) (K := K) (wt := zTB) (mc := 0) (ms := 0) (Qf := fun A => va_Qi (fun (r : Int32) (u : zS) => Post r u.1 u.2.1 u.2.2.1 u.2.2.2) (fun u t => zPost G K A (wX ad K sv u.1 u.2.1 u.2.2.1 u.2.2.2) t) A) (by decide) (Nat.le_of_ble_eq_true rfl) ?_
  intro p e s m below meth c ls A hx hb hr hml hts hown hlocks hin hA hK H locs hw hsz hl
  clear hsz
  have hown : s.vm.findClass "LassoFinder$Tree" = some m.cls := hown
  have C : zCx p s m ([.ref (ad 6), .int a0] : List Value).toArray meth c A G K prog_11_method_7_code (some .int) 4 "LassoFinder$Tree" := ⟨hx, hb, hr, hml, hts, hown, hlocks, hA, hK⟩
  have hl : lv_has ls 4 [(0, .ref (ad 6)), (1, .int a0)] := hl
  have hw : zW G A s.heap (wX ad K sv I J B D) H locs := hw
  unfold wp_Tree_settled at hok
  refine lv_iload_n hx hb zd_Tree_settled_0 rfl (lv_at hl 1 rfl) ?_
  refine lv_istore_n hx hb zd_Tree_settled_1 rfl hl (by decide) rfl (fun ls hl => ?_)
  have hl : lv_has ls 4 [(2, .int a0), (0, .ref (ad 6)), (1, .int a0)] := hl
  refine lv_iconst (v := 0) hx hb zd_Tree_settled_2 (by decide) ?_
  refine lv_istore_n hx hb zd_Tree_settled_3 rfl hl (by decide) rfl (fun ls hl => ?_)
  have hl : lv_has ls 4 [(3, .int 0), (2, .int a0), (0, .ref (ad 6)), (1, .int a0)] := hl
  obtain ⟨n9, hok⟩ := hok
  exact wL_Tree_settled_4 G K ad sv a0 Post C n9 a0 0 I J B D ls H locs hok (lv_sub hl [2, 1, 0] rfl) hw
def wc_ModelReader_checkJumps_87 (K2 : Int32 → (Nat → Int32) → (Nat → Int64) → (Nat → Nat → Int32) → (Nat → Nat → Int64) → Prop) (Post : (Nat → Int32) → (Nat → Int64) → (Nat → Nat → Int32) → (Nat → Nat → Int64) → Prop) (PX : String → (Nat → Int32) → (Nat → Int64) → (Nat → Nat → Int32) → (Nat → Nat → Int64) → Prop) (x1 : Int32) (I : Nat → Int32) (J : Nat → Int64) (B : Nat → Nat → Int32) (D : Nat → Nat → Int64) : Prop :=
  ∀ z1 : Int32, z1 = (x1 + 1) → K2 z1 I J B D
def wc_ModelReader_checkJumps_71 (K2 : Int32 → (Nat → Int32) → (Nat → Int64) → (Nat → Nat → Int32) → (Nat → Nat → Int64) → Prop) (Post : (Nat → Int32) → (Nat → Int64) → (Nat → Nat → Int32) → (Nat → Nat → Int64) → Prop) (PX : String → (Nat → Int32) → (Nat → Int64) → (Nat → Nat → Int32) → (Nat → Nat → Int64) → Prop) (x1 : Int32) (I : Nat → Int32) (J : Nat → Int64) (B : Nat → Nat → Int32) (D : Nat → Nat → Int64) : Prop :=
  vp_in x1 240 ∧ ∀ z2 : Int32, z2 = ((B 27) x1.toNatClampNeg) → wp_Text_refuseAt I J B D z2 (fun I3 J3 B3 D3 => wc_ModelReader_checkJumps_87  K2 Post PX x1 I3 J3 B3 D3) PX
def wc_ModelReader_checkJumps_53 (K2 : Int32 → (Nat → Int32) → (Nat → Int64) → (Nat → Nat → Int32) → (Nat → Nat → Int64) → Prop) (Post : (Nat → Int32) → (Nat → Int64) → (Nat → Nat → Int32) → (Nat → Nat → Int64) → Prop) (PX : String → (Nat → Int32) → (Nat → Int64) → (Nat → Nat → Int32) → (Nat → Nat → Int64) → Prop) (x1 : Int32) (y0 : Int32) (I : Nat → Int32) (J : Nat → Int64) (B : Nat → Nat → Int32) (D : Nat → Nat → Int64) : Prop :=
  ((¬ y0 = 0 → wc_ModelReader_checkJumps_71  K2 Post PX x1 I J B D) ∧ (y0 = 0 → wp_Tree_settled I J B D x1 (fun r5 I5 J5 B5 D5 => ((¬ r5 = (-4) → wc_ModelReader_checkJumps_87  K2 Post PX x1 I5 J5 B5 D5) ∧ (r5 = (-4) → wc_ModelReader_checkJumps_71  K2 Post PX x1 I5 J5 B5 D5)))))
def wb_ModelReader_checkJumps_2 (K2 : Int32 → (Nat → Int32) → (Nat → Int64) → (Nat → Nat → Int32) → (Nat → Nat → Int64) → Prop) (Post : (Nat → Int32) → (Nat → Int64) → (Nat → Nat → Int32) → (Nat → Nat → Int64) → Prop) (PX : String → (Nat → Int32) → (Nat → Int64) → (Nat → Nat → Int32) → (Nat → Nat → Int64) → Prop) (x1 : Int32) (I : Nat → Int32) (J : Nat → Int64) (B : Nat → Nat → Int32) (D : Nat → Nat → Int64) : Prop :=
  (((I 16) ≤ x1 → Post I J B D) ∧ (¬ (I 16) ≤ x1 → vp_in x1 240 ∧ ∀ z8 : Int32, z8 = ((B 18) x1.toNatClampNeg) → ((¬ z8 = 5 → wc_ModelReader_checkJumps_87  K2 Post PX x1 I J B D) ∧ (z8 = 5 → vp_in x1 240 ∧ ∀ z10 : Int32, z10 = ((B 26) x1.toNatClampNeg) → vp_in z10 8 ∧ ∀ z11 : Int32, z11 = ((B 28) z10.toNatClampNeg) → ((¬ z11 = (-3) → wc_ModelReader_checkJumps_53  K2 Post PX x1 0 I J B D) ∧ (z11 = (-3) → wc_ModelReader_checkJumps_53  K2 Post PX x1 1 I J B D))))))
def wl_ModelReader_checkJumps_2 (Post : (Nat → Int32) → (Nat → Int64) → (Nat → Nat → Int32) → (Nat → Nat → Int64) → Prop) (PX : String → (Nat → Int32) → (Nat → Int64) → (Nat → Nat → Int32) → (Nat → Nat → Int64) → Prop) (n : Nat) : Int32 → (Nat → Int32) → (Nat → Int64) → (Nat → Nat → Int32) → (Nat → Nat → Int64) → Prop := Nat.rec (fun _ _ _ _ _ => False) (fun _ r => wb_ModelReader_checkJumps_2  r Post PX) n
def wp_ModelReader_checkJumps (I : Nat → Int32) (J : Nat → Int64) (B : Nat → Nat → Int32) (D : Nat → Nat → Int64) (Post : (Nat → Int32) → (Nat → Int64) → (Nat → Nat → Int32) → (Nat → Nat → Int64) → Prop) (PX : String → (Nat → Int32) → (Nat → Int64) → (Nat → Nat → Int32) → (Nat → Nat → Int64) → Prop) : Prop :=
  ∃ n : Nat, wl_ModelReader_checkJumps_2  Post PX n 0 I J B D
set_option maxHeartbeats 8000000 in
set_option maxRecDepth 100000 in
theorem wJ_ModelReader_checkJumps_87 {p : Program} {l : Launch} {e : Env} {s : State} {m : MethodId} {below : List Frame} {meth : Method} {c : Code} {A : Nat → Prop} (G : va_G) (K : Nat → ClassId) (ad : Nat → Nat) (sv : Value) (Post : (Nat → Int32) → (Nat → Int64) → (Nat → Nat → Int32) → (Nat → Nat → Int64) → Prop) (PX : String → (Nat → Int32) → (Nat → Int64) → (Nat → Nat → Int32) → (Nat → Nat → Int64) → Prop) (C : zCy p l s m ([.ref (ad 5)] : List Value).toArray meth c A G K prog_5_method_5_code none 3 "LassoFinder$ModelReader") (K2 : Int32 → (Nat → Int32) → (Nat → Int64) → (Nat → Nat → Int32) → (Nat → Nat → Int64) → Prop) (kh2 : ∀ (x1 : Int32) (I : Nat → Int32) (J : Nat → Int64) (B : Nat → Nat → Int32) (D : Nat → Nat → Int64) (ls : Array Slot) (H : Heap) (locs : List Loc), K2 x1 I J B D → lv_has ls 3 [(0, .ref (ad 5)), (1, .int x1)] → zW G A s.heap (wX ad K sv I J B D) H locs → W p l e { frames := 7, cells := 1, slots := 6, locals := 102 } s m ([.ref (ad 5)] : List Value).toArray below meth c H locs 0 0 (zyMQ below (va_Qv (fun u : zS => Post u.1 u.2.1 u.2.2.1 u.2.2.2) (fun u t => zPost G K A (wX ad K sv u.1 u.2.1 u.2.2.1 u.2.2.2) t) A) (zYC (fun E (u : zS) => PX E u.1 u.2.1 u.2.2.1 u.2.2.2) (fun u => wX ad K sv u.1 u.2.1 u.2.2.1 u.2.2.2) G K A) ([.ref (ad 5)] : List Value).toArray s 1 6 A) (F0 m 2 ls [])) : ∀ (x1 : Int32) (I : Nat → Int32) (J : Nat → Int64) (B : Nat → Nat → Int32) (D : Nat → Nat → Int64) (ls : Array Slot) (H : Heap) (locs : List Loc), wc_ModelReader_checkJumps_87  K2 Post PX x1 I J B D → lv_has ls 3 [(0, .ref (ad 5)), (1, .int x1)] → zW G A s.heap (wX ad K sv I J B D) H locs → W p l e { frames := 7, cells := 1, slots := 6, locals := 102 } s m ([.ref (ad 5)] : List Value).toArray below meth c H locs 0 0 (zyMQ below (va_Qv (fun u : zS => Post u.1 u.2.1 u.2.2.1 u.2.2.2) (fun u t => zPost G K A (wX ad K sv u.1 u.2.1 u.2.2.1 u.2.2.2) t) A) (zYC (fun E (u : zS) => PX E u.1 u.2.1 u.2.2.1 u.2.2.2) (fun u => wX ad K sv u.1 u.2.1 u.2.2.1 u.2.2.2) G K A) ([.ref (ad 5)] : List Value).toArray s 1 6 A) (F0 m 87 ls []) := by
  obtain ⟨hx, hb, hr, hml, hts, hown, hlocks, hA, hK, hT, hnt, hlt⟩ := id C
  intro x1 I J B D ls H locs hok hl hw
  unfold wc_ModelReader_checkJumps_87 at hok
  obtain ⟨z1, ez1⟩ : ∃ z : Int32, z = (x1 + 1) := ⟨_, rfl⟩
  have hok := hok z1 ez1
  refine lv_iinc (v := z1) hx hb zd_ModelReader_checkJumps_87 hl (k := 1) rfl ez1.symm (by decide) rfl (fun ls hl => ?_)
  have hl : lv_has ls 3 [(1, .int z1), (0, .ref (ad 5))] := hl
  refine lv_goto (tgt := 2) hx hb zd_ModelReader_checkJumps_90 (by decide) ?_
  exact kh2 z1 I J B D ls H locs hok (lv_sub hl [1, 0] rfl) hw
set_option maxHeartbeats 8000000 in
set_option maxRecDepth 100000 in
theorem wJ_ModelReader_checkJumps_71 {p : Program} {l : Launch} {e : Env} {s : State} {m : MethodId} {below : List Frame} {meth : Method} {c : Code} {A : Nat → Prop} (G : va_G) (K : Nat → ClassId) (ad : Nat → Nat) (sv : Value) (Post : (Nat → Int32) → (Nat → Int64) → (Nat → Nat → Int32) → (Nat → Nat → Int64) → Prop) (PX : String → (Nat → Int32) → (Nat → Int64) → (Nat → Nat → Int32) → (Nat → Nat → Int64) → Prop) (C : zCy p l s m ([.ref (ad 5)] : List Value).toArray meth c A G K prog_5_method_5_code none 3 "LassoFinder$ModelReader") (K2 : Int32 → (Nat → Int32) → (Nat → Int64) → (Nat → Nat → Int32) → (Nat → Nat → Int64) → Prop) (kh2 : ∀ (x1 : Int32) (I : Nat → Int32) (J : Nat → Int64) (B : Nat → Nat → Int32) (D : Nat → Nat → Int64) (ls : Array Slot) (H : Heap) (locs : List Loc), K2 x1 I J B D → lv_has ls 3 [(0, .ref (ad 5)), (1, .int x1)] → zW G A s.heap (wX ad K sv I J B D) H locs → W p l e { frames := 7, cells := 1, slots := 6, locals := 102 } s m ([.ref (ad 5)] : List Value).toArray below meth c H locs 0 0 (zyMQ below (va_Qv (fun u : zS => Post u.1 u.2.1 u.2.2.1 u.2.2.2) (fun u t => zPost G K A (wX ad K sv u.1 u.2.1 u.2.2.1 u.2.2.2) t) A) (zYC (fun E (u : zS) => PX E u.1 u.2.1 u.2.2.1 u.2.2.2) (fun u => wX ad K sv u.1 u.2.1 u.2.2.1 u.2.2.2) G K A) ([.ref (ad 5)] : List Value).toArray s 1 6 A) (F0 m 2 ls [])) : ∀ (x1 : Int32) (I : Nat → Int32) (J : Nat → Int64) (B : Nat → Nat → Int32) (D : Nat → Nat → Int64) (ls : Array Slot) (H : Heap) (locs : List Loc), wc_ModelReader_checkJumps_71  K2 Post PX x1 I J B D → lv_has ls 3 [(0, .ref (ad 5)), (1, .int x1)] → zW G A s.heap (wX ad K sv I J B D) H locs → W p l e { frames := 7, cells := 1, slots := 6, locals := 102 } s m ([.ref (ad 5)] : List Value).toArray below meth c H locs 0 0 (zyMQ below (va_Qv (fun u : zS => Post u.1 u.2.1 u.2.2.1 u.2.2.2) (fun u t => zPost G K A (wX ad K sv u.1 u.2.1 u.2.2.1 u.2.2.2) t) A) (zYC (fun E (u : zS) => PX E u.1 u.2.1 u.2.2.1 u.2.2.2) (fun u => wX ad K sv u.1 u.2.1 u.2.2.1 u.2.2.2) G K A) ([.ref (ad 5)] : List Value).toArray s 1 6 A) (F0 m 71 ls []) := by
  obtain ⟨hx, hb, hr, hml, hts, hown, hlocks, hA, hK, hT, hnt, hlt⟩ := id C
  intro x1 I J B D ls H locs hok hl hw
  unfold wc_ModelReader_checkJumps_71 at hok
  refine lv_aload_n hx hb zd_ModelReader_checkJumps_71 rfl (lv_at hl 0 rfl) ?_
  refine z_get (v := .ref (ad 1)) hx hb hts hown hK hw zZ4 5 wX_g5 0 (by decide) zn_366 rfl zd_ModelReader_checkJumps_72 ?_
  refine lv_aload_n hx hb zd_ModelReader_checkJumps_75 rfl (lv_at hl 0 rfl) ?_
  refine z_get (v := .ref (ad 6)) hx hb hts hown hK hw zZ4 5 wX_g5 4 (by decide) zn_368 rfl zd_ModelReader_checkJumps_76 ?_
  refine z_get (v := .ref (ad 41)) hx hb hts hown hK hw zZ10 6 wX_g6 9 (by decide) zn_389 rfl zd_ModelReader_checkJumps_79 ?_
  refine lv_iload_n hx hb zd_ModelReader_checkJumps_82 rfl (lv_at hl 1 rfl) ?_
  refine va_iald (f := (B 27)) hx hb hK hw.1 41 0 wX_a41 rfl hok.1 zd_ModelReader_checkJumps_83 ?_
  have hok := hok.2
  refine lv_topi (fun z2 ez2 => ?_)
  have hok := hok z2 ez2
  refine z_yV (q0 := 1) (wc := (wX ad K sv I J B D)) (wr := []) (w1 := fun (u : zS) => wX ad K sv u.1 u.2.1 u.2.2.1 u.2.2.2) (As := [.int z2]) (rest := []) ⟨hx, hb, hml, hown, hts⟩ (w_Text_refuseAt l hlt G K ad sv I J B D z2 _ _ H.size hok) zf_Text_refuseAt zn_356 ⟨Nat.le_of_ble_eq_true rfl, Nat.le_of_ble_eq_true rfl⟩ hK hT hw hA (List.range 65) [] wX_all rfl wX_nd (by decide) (fun i hi => by cases hi) wX_g1 rfl rfl hl.1 rfl (Nat.le_of_ble_eq_true rfl) zd_ModelReader_checkJumps_84 ⟨Nat.le_of_ble_eq_true rfl, Nat.le_of_ble_eq_true rfl⟩ (fun v st9 t9 L9 h0 hq hL => ?_) (fun E ce q9 u H locs hu hw hce hcv hcl => z_yout (u := u) hnt hlocks hce hcv hcl hw (List.range 65) wX_all wX_nd hu (Nat.le_of_ble_eq_true rfl) (Nat.le_of_ble_eq_true rfl))
  obtain ⟨⟨u, hv9, hok, hB9⟩, hF9⟩ := hq
  cases hv9
  have hw := z_back (wr := []) hw hA (List.range 65) [] wX_all rfl (by decide) (fun i hi => by cases hi) h0 hL hB9 hF9
  obtain ⟨I3, J3, B3, D3⟩ := u
  dsimp only at hok
  generalize t9.heap = H at hw ⊢
  generalize locs ++ L9 = locs at hw ⊢
  have hw : zW G A s.heap (wX ad K sv I3 J3 B3 D3) H locs := hw
  refine W.eq (g2 := F0 m 87 ls []) rfl ?_
  exact wJ_ModelReader_checkJumps_87 G K ad sv  Post PX C K2 kh2 x1 I3 J3 B3 D3 ls H locs hok (lv_sub hl [0, 1] rfl) hw
set_option maxHeartbeats 8000000 in
set_option maxRecDepth 100000 in
theorem wJ_ModelReader_checkJumps_53 {p : Program} {l : Launch} {e : Env} {s : State} {m : MethodId} {below : List Frame} {meth : Method} {c : Code} {A : Nat → Prop} (G : va_G) (K : Nat → ClassId) (ad : Nat → Nat) (sv : Value) (Post : (Nat → Int32) → (Nat → Int64) → (Nat → Nat → Int32) → (Nat → Nat → Int64) → Prop) (PX : String → (Nat → Int32) → (Nat → Int64) → (Nat → Nat → Int32) → (Nat → Nat → Int64) → Prop) (C : zCy p l s m ([.ref (ad 5)] : List Value).toArray meth c A G K prog_5_method_5_code none 3 "LassoFinder$ModelReader") (K2 : Int32 → (Nat → Int32) → (Nat → Int64) → (Nat → Nat → Int32) → (Nat → Nat → Int64) → Prop) (kh2 : ∀ (x1 : Int32) (I : Nat → Int32) (J : Nat → Int64) (B : Nat → Nat → Int32) (D : Nat → Nat → Int64) (ls : Array Slot) (H : Heap) (locs : List Loc), K2 x1 I J B D → lv_has ls 3 [(0, .ref (ad 5)), (1, .int x1)] → zW G A s.heap (wX ad K sv I J B D) H locs → W p l e { frames := 7, cells := 1, slots := 6, locals := 102 } s m ([.ref (ad 5)] : List Value).toArray below meth c H locs 0 0 (zyMQ below (va_Qv (fun u : zS => Post u.1 u.2.1 u.2.2.1 u.2.2.2) (fun u t => zPost G K A (wX ad K sv u.1 u.2.1 u.2.2.1 u.2.2.2) t) A) (zYC (fun E (u : zS) => PX E u.1 u.2.1 u.2.2.1 u.2.2.2) (fun u => wX ad K sv u.1 u.2.1 u.2.2.1 u.2.2.2) G K A) ([.ref (ad 5)] : List Value).toArray s 1 6 A) (F0 m 2 ls [])) : ∀ (x1 : Int32) (y0 : Int32) (I : Nat → Int32) (J : Nat → Int64) (B : Nat → Nat → Int32) (D : Nat → Nat → Int64) (ls : Array Slot) (H : Heap) (locs : List Loc), wc_ModelReader_checkJumps_53  K2 Post PX x1 y0 I J B D → lv_has ls 3 [(0, .ref (ad 5)), (1, .int x1)] → zW G A s.heap (wX ad K sv I J B D) H locs → W p l e { frames := 7, cells := 1, slots := 6, locals := 102 } s m ([.ref (ad 5)] : List Value).toArray below meth c H locs 0 0 (zyMQ below (va_Qv (fun u : zS => Post u.1 u.2.1 u.2.2.1 u.2.2.2) (fun u t => zPost G K A (wX ad K sv u.1 u.2.1 u.2.2.1 u.2.2.2) t) A) (zYC (fun E (u : zS) => PX E u.1 u.2.1 u.2.2.1 u.2.2.2) (fun u => wX ad K sv u.1 u.2.1 u.2.2.1 u.2.2.2) G K A) ([.ref (ad 5)] : List Value).toArray s 1 6 A) (F0 m 53 ls [.int y0]) := by
  obtain ⟨hx, hb, hr, hml, hts, hown, hlocks, hA, hK, hT, hnt, hlt⟩ := id C
  intro x1 y0 I J B D ls H locs hok hl hw
  unfold wc_ModelReader_checkJumps_53 at hok
  refine lv_istore_n hx hb zd_ModelReader_checkJumps_53 rfl hl (by decide) rfl (fun ls hl => ?_)
  have hl : lv_has ls 3 [(2, .int y0), (0, .ref (ad 5)), (1, .int x1)] := hl
  refine lv_iload_n hx hb zd_ModelReader_checkJumps_54 rfl (lv_at hl 0 rfl) ?_
  refine lv_if_ne (tgt := 71) hx hb zd_ModelReader_checkJumps_55 (by decide) (fun hc4 => ?_) (fun hc4 => ?_)
  · have hok := hok.1 hc4
    exact wJ_ModelReader_checkJumps_71 G K ad sv  Post PX C K2 kh2 x1 I J B D ls H locs hok (lv_sub hl [1, 2] rfl) hw
  · have hok := hok.2 hc4
    refine lv_aload_n hx hb zd_ModelReader_checkJumps_58 rfl (lv_at hl 1 rfl) ?_
    refine z_get (v := .ref (ad 6)) hx hb hts hown hK hw zZ4 5 wX_g5 4 (by decide) zn_368 rfl zd_ModelReader_checkJumps_59 ?_
    refine lv_iload_n hx hb zd_ModelReader_checkJumps_62 rfl (lv_at hl 2 rfl) ?_
    refine z_calli (w1 := fun (u : zS) => wX ad K sv u.1 u.2.1 u.2.2.1 u.2.2.2) (wr := []) (z_runV (q0 := 6) (wc := (wX ad K sv I J B D)) (As := [.int x1]) (rest := []) ⟨hx, hb, hml, hown, hts⟩ (w_Tree_settled l G K ad sv I J B D x1 _ H.size hok) zf_Tree_settled zn_354 ⟨Nat.le_of_ble_eq_true rfl, Nat.le_of_ble_eq_true rfl⟩ hK hw (List.range 65) wX_all wX_nd wX_g6 rfl rfl hl.1 rfl (Nat.le_of_ble_eq_true rfl) zd_ModelReader_checkJumps_63 ⟨Nat.le_of_ble_eq_true rfl, Nat.le_of_ble_eq_true rfl⟩) hw hA (List.range 65) [] wX_all rfl (by decide) (fun i hi => by cases hi) (fun r5 u H locs hok hw => ?_)
    obtain ⟨I5, J5, B5, D5⟩ := u
    dsimp only at hok
    have hw : zW G A s.heap (wX ad K sv I5 J5 B5 D5) H locs := hw
    refine lv_bipush (v := (-4)) hx hb zd_ModelReader_checkJumps_66 (by decide) ?_
    refine lv_icmp_ne (tgt := 87) hx hb zd_ModelReader_checkJumps_68 (by decide) (fun hc6 => ?_) (fun hc6 => ?_)
    · have hok := hok.1 hc6
      exact wJ_ModelReader_checkJumps_87 G K ad sv  Post PX C K2 kh2 x1 I5 J5 B5 D5 ls H locs hok (lv_sub hl [1, 2] rfl) hw
    · have hok := hok.2 hc6
      exact wJ_ModelReader_checkJumps_71 G K ad sv  Post PX C K2 kh2 x1 I5 J5 B5 D5 ls H locs hok (lv_sub hl [1, 2] rfl) hw
set_option maxHeartbeats 8000000 in
set_option maxRecDepth 100000 in
theorem wB_ModelReader_checkJumps_2 {p : Program} {l : Launch} {e : Env} {s : State} {m : MethodId} {below : List Frame} {meth : Method} {c : Code} {A : Nat → Prop} (G : va_G) (K : Nat → ClassId) (ad : Nat → Nat) (sv : Value) (Post : (Nat → Int32) → (Nat → Int64) → (Nat → Nat → Int32) → (Nat → Nat → Int64) → Prop) (PX : String → (Nat → Int32) → (Nat → Int64) → (Nat → Nat → Int32) → (Nat → Nat → Int64) → Prop) (C : zCy p l s m ([.ref (ad 5)] : List Value).toArray meth c A G K prog_5_method_5_code none 3 "LassoFinder$ModelReader") (K2 : Int32 → (Nat → Int32) → (Nat → Int64) → (Nat → Nat → Int32) → (Nat → Nat → Int64) → Prop) (kh2 : ∀ (x1 : Int32) (I : Nat → Int32) (J : Nat → Int64) (B : Nat → Nat → Int32) (D : Nat → Nat → Int64) (ls : Array Slot) (H : Heap) (locs : List Loc), K2 x1 I J B D → lv_has ls 3 [(0, .ref (ad 5)), (1, .int x1)] → zW G A s.heap (wX ad K sv I J B D) H locs → W p l e { frames := 7, cells := 1, slots := 6, locals := 102 } s m ([.ref (ad 5)] : List Value).toArray below meth c H locs 0 0 (zyMQ below (va_Qv (fun u : zS => Post u.1 u.2.1 u.2.2.1 u.2.2.2) (fun u t => zPost G K A (wX ad K sv u.1 u.2.1 u.2.2.1 u.2.2.2) t) A) (zYC (fun E (u : zS) => PX E u.1 u.2.1 u.2.2.1 u.2.2.2) (fun u => wX ad K sv u.1 u.2.1 u.2.2.1 u.2.2.2) G K A) ([.ref (ad 5)] : List Value).toArray s 1 6 A) (F0 m 2 ls [])) : ∀ (x1 : Int32) (I : Nat → Int32) (J : Nat → Int64) (B : Nat → Nat → Int32) (D : Nat → Nat → Int64) (ls : Array Slot) (H : Heap) (locs : List Loc), wb_ModelReader_checkJumps_2  K2 Post PX x1 I J B D → lv_has ls 3 [(0, .ref (ad 5)), (1, .int x1)] → zW G A s.heap (wX ad K sv I J B D) H locs → W p l e { frames := 7, cells := 1, slots := 6, locals := 102 } s m ([.ref (ad 5)] : List Value).toArray below meth c H locs 0 0 (zyMQ below (va_Qv (fun u : zS => Post u.1 u.2.1 u.2.2.1 u.2.2.2) (fun u t => zPost G K A (wX ad K sv u.1 u.2.1 u.2.2.1 u.2.2.2) t) A) (zYC (fun E (u : zS) => PX E u.1 u.2.1 u.2.2.1 u.2.2.2) (fun u => wX ad K sv u.1 u.2.1 u.2.2.1 u.2.2.2) G K A) ([.ref (ad 5)] : List Value).toArray s 1 6 A) (F0 m 2 ls []) := by
  obtain ⟨hx, hb, hr, hml, hts, hown, hlocks, hA, hK, hT, hnt, hlt⟩ := id C
  intro x1 I J B D ls H locs hok hl hw
  unfold wb_ModelReader_checkJumps_2 at hok
  refine lv_iload_n hx hb zd_ModelReader_checkJumps_2 rfl (lv_at hl 1 rfl) ?_
  refine lv_aload_n hx hb zd_ModelReader_checkJumps_3 rfl (lv_at hl 0 rfl) ?_
  refine z_get (v := .ref (ad 6)) hx hb hts hown hK hw zZ4 5 wX_g5 4 (by decide) zn_368 rfl zd_ModelReader_checkJumps_4 ?_
  refine z_get (v := .int (I 16)) hx hb hts hown hK hw zZ10 6 wX_g6 11 (by decide) zn_372 rfl zd_ModelReader_checkJumps_7 ?_
  refine lv_icmp_ge (tgt := 93) hx hb zd_ModelReader_checkJumps_10 (by decide) (fun hc7 => ?_) (fun hc7 => ?_)
  · have hok := hok.1 hc7
    exact zy_ret (z_vret (u := (I, J, B, D)) hx hb hr hlocks hw (List.range 65) wX_all wX_nd hok (Nat.le_of_ble_eq_true rfl) (Nat.le_of_ble_eq_true rfl) zd_ModelReader_checkJumps_93)
  · have hok := hok.2 hc7
    refine lv_aload_n hx hb zd_ModelReader_checkJumps_13 rfl (lv_at hl 0 rfl) ?_
    refine z_get (v := .ref (ad 6)) hx hb hts hown hK hw zZ4 5 wX_g5 4 (by decide) zn_368 rfl zd_ModelReader_checkJumps_14 ?_
    refine z_get (v := .ref (ad 32)) hx hb hts hown hK hw zZ10 6 wX_g6 0 (by decide) zn_390 rfl zd_ModelReader_checkJumps_17 ?_
    refine lv_iload_n hx hb zd_ModelReader_checkJumps_20 rfl (lv_at hl 1 rfl) ?_
    refine va_iald (f := (B 18)) hx hb hK hw.1 32 0 wX_a32 rfl hok.1 zd_ModelReader_checkJumps_21 ?_
    have hok := hok.2
    refine lv_topi (fun z8 ez8 => ?_)
    have hok := hok z8 ez8
    refine lv_iconst (v := 5) hx hb zd_ModelReader_checkJumps_22 (by decide) ?_
    refine lv_icmp_ne (tgt := 87) hx hb zd_ModelReader_checkJumps_23 (by decide) (fun hc9 => ?_) (fun hc9 => ?_)
    · have hok := hok.1 hc9
      exact wJ_ModelReader_checkJumps_87 G K ad sv  Post PX C K2 kh2 x1 I J B D ls H locs hok (lv_sub hl [0, 1] rfl) hw
    · have hok := hok.2 hc9
      refine lv_aload_n hx hb zd_ModelReader_checkJumps_26 rfl (lv_at hl 0 rfl) ?_
      refine z_get (v := .ref (ad 6)) hx hb hts hown hK hw zZ4 5 wX_g5 4 (by decide) zn_368 rfl zd_ModelReader_checkJumps_27 ?_
      refine z_get (v := .ref (ad 42)) hx hb hts hown hK hw zZ10 6 wX_g6 10 (by decide) zn_371 rfl zd_ModelReader_checkJumps_30 ?_
      refine lv_aload_n hx hb zd_ModelReader_checkJumps_33 rfl (lv_at hl 0 rfl) ?_
      refine z_get (v := .ref (ad 6)) hx hb hts hown hK hw zZ4 5 wX_g5 4 (by decide) zn_368 rfl zd_ModelReader_checkJumps_34 ?_
      refine z_get (v := .ref (ad 40)) hx hb hts hown hK hw zZ10 6 wX_g6 8 (by decide) zn_378 rfl zd_ModelReader_checkJumps_37 ?_
      refine lv_iload_n hx hb zd_ModelReader_checkJumps_40 rfl (lv_at hl 1 rfl) ?_
      refine va_iald (f := (B 26)) hx hb hK hw.1 40 0 wX_a40 rfl hok.1 zd_ModelReader_checkJumps_41 ?_
      have hok := hok.2
      refine lv_topi (fun z10 ez10 => ?_)
      have hok := hok z10 ez10
      refine va_iald (f := (B 28)) hx hb hK hw.1 42 0 wX_a42 rfl hok.1 zd_ModelReader_checkJumps_42 ?_
      have hok := hok.2
      refine lv_topi (fun z11 ez11 => ?_)
      have hok := hok z11 ez11
      refine lv_bipush (v := (-3)) hx hb zd_ModelReader_checkJumps_43 (by decide) ?_
      refine lv_icmp_ne (tgt := 52) hx hb zd_ModelReader_checkJumps_45 (by decide) (fun hc12 => ?_) (fun hc12 => ?_)
      · have hok := hok.1 hc12
        refine lv_iconst (v := 0) hx hb zd_ModelReader_checkJumps_52 (by decide) ?_
        exact wJ_ModelReader_checkJumps_53 G K ad sv  Post PX C K2 kh2 x1 0 I J B D ls H locs hok (lv_sub hl [0, 1] rfl) hw
      · have hok := hok.2 hc12
        refine lv_iconst (v := 1) hx hb zd_ModelReader_checkJumps_48 (by decide) ?_
        refine lv_goto (tgt := 53) hx hb zd_ModelReader_checkJumps_49 (by decide) ?_
        exact wJ_ModelReader_checkJumps_53 G K ad sv  Post PX C K2 kh2 x1 1 I J B D ls H locs hok (lv_sub hl [0, 1] rfl) hw
theorem wL_ModelReader_checkJumps_2 {p : Program} {l : Launch} {e : Env} {s : State} {m : MethodId} {below : List Frame} {meth : Method} {c : Code} {A : Nat → Prop} (G : va_G) (K : Nat → ClassId) (ad : Nat → Nat) (sv : Value) (Post : (Nat → Int32) → (Nat → Int64) → (Nat → Nat → Int32) → (Nat → Nat → Int64) → Prop) (PX : String → (Nat → Int32) → (Nat → Int64) → (Nat → Nat → Int32) → (Nat → Nat → Int64) → Prop) (C : zCy p l s m ([.ref (ad 5)] : List Value).toArray meth c A G K prog_5_method_5_code none 3 "LassoFinder$ModelReader") : ∀ (n : Nat) (x1 : Int32) (I : Nat → Int32) (J : Nat → Int64) (B : Nat → Nat → Int32) (D : Nat → Nat → Int64) (ls : Array Slot) (H : Heap) (locs : List Loc), wl_ModelReader_checkJumps_2  Post PX n x1 I J B D → lv_has ls 3 [(0, .ref (ad 5)), (1, .int x1)] → zW G A s.heap (wX ad K sv I J B D) H locs → W p l e { frames := 7, cells := 1, slots := 6, locals := 102 } s m ([.ref (ad 5)] : List Value).toArray below meth c H locs 0 0 (zyMQ below (va_Qv (fun u : zS => Post u.1 u.2.1 u.2.2.1 u.2.2.2) (fun u t => zPost G K A (wX ad K sv u.1 u.2.1 u.2.2.1 u.2.2.2) t) A) (zYC (fun E (u : zS) => PX E u.1 u.2.1 u.2.2.1 u.2.2.2) (fun u => wX ad K sv u.1 u.2.1 u.2.2.1 u.2.2.2) G K A) ([.ref (ad 5)] : List Value).toArray s 1 6 A) (F0 m 2 ls []) := by
  intro n
  induction n with
  | zero => intro x1 I J B D ls H locs hok; exact hok.elim
  | succ n ih => exact wB_ModelReader_checkJumps_2 G K ad sv  Post PX C (wl_ModelReader_checkJumps_2  Post PX n) ih
set_option maxHeartbeats 8000000 in
set_option maxRecDepth 100000 in
theorem w_ModelReader_checkJumps (l : Launch) (hlt : l.stackTraces = false) (G : va_G) (K : Nat → ClassId) (ad : Nat → Nat) (sv : Value) (I : Nat → Int32) (J : Nat → Int64) (B : Nat → Nat → Int32) (D : Nat → Nat → Int64) (Post : (Nat → Int32) → (Nat → Int64) → (Nat → Nat → Int32) → (Nat → Nat → Int64) → Prop) (PX : String → (Nat → Int32) → (Nat → Int64) → (Nat → Nat → Int32) → (Nat → Nat → Int64) → Prop) (sz : Nat) (hok : wp_ModelReader_checkJumps I J B D  Post PX) : zyMet l zy_ModelReader_checkJumps (Cond.code zy_ModelReader_checkJumps prog_5_method_5_code 3 none :: zTB) { frames := 7, cells := 1, slots := 6, locals := 102 } (va_Pc [.ref (ad 5)] (zPreX G K (wX ad K sv I J B D) sz)) (va_Qv (fun u : zS => Post u.1 u.2.1 u.2.2.1 u.2.2.2) (fun u t => zPost G K (va_A (wX ad K sv I J B D) sz) (wX ad K sv u.1 u.2.1 u.2.2.1 u.2.2.2) t) (va_A (wX ad K sv I J B D) sz)) (zYC (fun E (u : zS) => PX E u.1 u.2.1 u.2.2.1 u.2.2.2) (fun u => wX ad K sv u.1 u.2.1 u.2.2.1 u.2.2.2) G K (va_A (wX ad K sv I J B D) sz)) 1 6 (va_A (wX ad K sv I J B D) sz) := by
  refine zMetY (y := zy_ModelReader_checkJumps) (av := [.ref (ad 5)]) (maxL := 3) (cc := prog_5_method_5_code) (ret := none) (W0 := (wX ad K sv I J B D)) (sz := sz) (G := G) (K := K) (wt := zTB) (mc := 1) (ms := 6) (Qf := fun A => va_Qv (fun u : zS => Post u.1 u.2.1 u.2.2.1 u.2.2.2) (fun u t => zPost G K A (wX ad K sv u.1 u.2.1 u.2.2.1 u.2.2.2) t) A) (Xf := fun A => (zYC (fun E (u : zS) => PX E u.1 u.2.1 u.2.2.1 u.2.2.2) (fun u => wX ad K sv u.1 u.2.1 u.2.2.1 u.2.2.2) G K A)) (by decide) (Nat.le_of_ble_eq_true rfl) ?_
  intro p e s m below meth c ls A hx hb hr hml hts hown hlocks hin hA hK H locs hw hsz hl hT hnt
  clear hsz
  have hown : s.vm.findClass "LassoFinder$ModelReader" = some m.cls := hown
  have C : zCy p l s m ([.ref (ad 5)] : List Value).toArray meth c A G K prog_5_method_5_code none 3 "LassoFinder$ModelReader" := ⟨hx, hb, hr, hml, hts, hown, hlocks, hA, hK, hT, hnt, hlt⟩
  have hl : lv_has ls 3 [(0, .ref (ad 5))] := hl
  have hw : zW G A s.heap (wX ad K sv I J B D) H locs := hw
  unfold wp_ModelReader_checkJumps at hok
  refine lv_iconst (v := 0) hx hb zd_ModelReader_checkJumps_0 (by decide) ?_
  refine lv_istore_n hx hb zd_ModelReader_checkJumps_1 rfl hl (by decide) rfl (fun ls hl => ?_)
  have hl : lv_has ls 3 [(1, .int 0), (0, .ref (ad 5))] := hl
  obtain ⟨n9, hok⟩ := hok
  exact wL_ModelReader_checkJumps_2 G K ad sv  Post PX C n9 0 I J B D ls H locs hok (lv_sub hl [1, 0] rfl) hw
def wc_Tree_pointAt_17 (a0 : Int32) (Post : Int32 → (Nat → Int32) → (Nat → Int64) → (Nat → Nat → Int32) → (Nat → Nat → Int64) → Prop) (y0 : Int32) (I : Nat → Int32) (J : Nat → Int64) (B : Nat → Nat → Int32) (D : Nat → Nat → Int64) : Prop :=
  Post y0 I J B D
def wp_Tree_pointAt (I : Nat → Int32) (J : Nat → Int64) (B : Nat → Nat → Int32) (D : Nat → Nat → Int64) (a0 : Int32) (Post : Int32 → (Nat → Int32) → (Nat → Int64) → (Nat → Nat → Int32) → (Nat → Nat → Int64) → Prop) : Prop :=
  (((0 : Int32) ≤ a0 → vp_in a0 240 ∧ ∀ z2 : Int32, z2 = ((B 25) a0.toNatClampNeg) → wc_Tree_pointAt_17 a0 Post z2 I J B D) ∧ (¬ (0 : Int32) ≤ a0 → wc_Tree_pointAt_17 a0 Post (I 17) I J B D))
set_option maxHeartbeats 8000000 in
set_option maxRecDepth 100000 in
theorem wJ_Tree_pointAt_17 {p : Program} {l : Launch} {e : Env} {s : State} {m : MethodId} {below : List Frame} {meth : Method} {c : Code} {A : Nat → Prop} (G : va_G) (K : Nat → ClassId) (ad : Nat → Nat) (sv : Value) (a0 : Int32) (Post : Int32 → (Nat → Int32) → (Nat → Int64) → (Nat → Nat → Int32) → (Nat → Nat → Int64) → Prop) (C : zCx p s m ([.ref (ad 6), .int a0] : List Value).toArray meth c A G K prog_11_method_8_code (some .int) 2 "LassoFinder$Tree") : ∀ (y0 : Int32) (I : Nat → Int32) (J : Nat → Int64) (B : Nat → Nat → Int32) (D : Nat → Nat → Int64) (ls : Array Slot) (H : Heap) (locs : List Loc), wc_Tree_pointAt_17 a0 Post y0 I J B D → lv_has ls 2 [] → zW G A s.heap (wX ad K sv I J B D) H locs → W p l e { frames := 0, cells := 0, slots := 0, locals := 0 } s m ([.ref (ad 6), .int a0] : List Value).toArray below meth c H locs 0 0 (MQ below (va_Qi (fun (r : Int32) (u : zS) => Post r u.1 u.2.1 u.2.2.1 u.2.2.2) (fun u t => zPost G K A (wX ad K sv u.1 u.2.1 u.2.2.1 u.2.2.2) t) A) ([.ref (ad 6), .int a0] : List Value).toArray s 0 0 A) (F0 m 17 ls [.int y0]) := by
  obtain ⟨hx, hb, hr, hml, hts, hown, hlocks, hA, hK⟩ := id C
  intro y0 I J B D ls H locs hok hl hw
  unfold wc_Tree_pointAt_17 at hok
  exact (z_iret (u := (I, J, B, D)) hx hb hr hlocks rfl hw (List.range 65) wX_all wX_nd hok (Nat.le_of_ble_eq_true rfl) (Nat.le_of_ble_eq_true rfl) zd_Tree_pointAt_17)
set_option maxHeartbeats 8000000 in
set_option maxRecDepth 100000 in
theorem w_Tree_pointAt (l : Launch) (G : va_G) (K : Nat → ClassId) (ad : Nat → Nat) (sv : Value) (I : Nat → Int32) (J : Nat → Int64) (B : Nat → Nat → Int32) (D : Nat → Nat → Int64) (a0 : Int32) (Post : Int32 → (Nat → Int32) → (Nat → Int64) → (Nat → Nat → Int32) → (Nat → Nat → Int64) → Prop) (sz : Nat) (hok : wp_Tree_pointAt I J B D a0 Post) : Met l zy_Tree_pointAt (Cond.code zy_Tree_pointAt prog_11_method_8_code 2 (some .int) :: zTB) { frames := 0, cells := 0, slots := 0, locals := 0 } (va_Pc [.ref (ad 6), .int a0] (zPre G K (wX ad K sv I J B D) sz)) (va_Qi (fun (r : Int32) (u : zS) => Post r u.1 u.2.1 u.2.2.1 u.2.2.2) (fun u t => zPost G K (va_A (wX ad K sv I J B D) sz) (wX ad K sv u.1 u.2.1 u.2.2.1 u.2.2.2) t) (va_A (wX ad K sv I J B D) sz)) 0 0 (va_A (wX ad K sv I J B D) sz) := by
  refine zMet (y := zy_Tree_pointAt) (av := [.ref (ad 6), .int a0]) (maxL := 2) (cc := prog_11_method_8_code) (ret := (some .int)) (W0 := (wX ad K sv I J B D)) (sz := sz) (G := G) (K := K) (wt := zTB) (mc := 0) (ms := 0) (Qf := fun A => va_Qi (fun (r : Int32) (u : zS) => Post r u.1 u.2.1 u.2.2.1 u.2.2.2) (fun u t => zPost G K A (wX ad K sv u.1 u.2.1 u.2.2.1 u.2.2.2) t) A) (by decide) (Nat.le_of_ble_eq_true rfl) ?_
  intro p e s m below meth c ls A hx hb hr hml hts hown hlocks hin hA hK H locs hw hsz hl
  clear hsz
  have hown : s.vm.findClass "LassoFinder$Tree" = some m.cls := hown
  have C : zCx p s m ([.ref (ad 6), .int a0] : List Value).toArray meth c A G K prog_11_method_8_code (some .int) 2 "LassoFinder$Tree" := ⟨hx, hb, hr, hml, hts, hown, hlocks, hA, hK⟩
  have hl : lv_has ls 2 [(0, .ref (ad 6)), (1, .int a0)] := hl
  have hw : zW G A s.heap (wX ad K sv I J B D) H locs := hw
  unfold wp_Tree_pointAt at hok
  refine lv_iload_n hx hb zd_Tree_pointAt_0 rfl (lv_at hl 1 rfl) ?_
  refine lv_if_ge (tgt := 11) hx hb zd_Tree_pointAt_1 (by decide) (fun hc1 => ?_) (fun hc1 => ?_)
  · have hok := hok.1 hc1
    refine lv_aload_n hx hb zd_Tree_pointAt_11 rfl (lv_at hl 0 rfl) ?_
    refine z_get (v := .ref (ad 39)) hx hb hts hown hK hw zZ10 6 wX_g6 7 (by decide) zn_262 rfl zd_Tree_pointAt_12 ?_
    refine lv_iload_n hx hb zd_Tree_pointAt_15 rfl (lv_at hl 1 rfl) ?_
    refine va_iald (f := (B 25)) hx hb hK hw.1 39 0 wX_a39 rfl hok.1 zd_Tree_pointAt_16 ?_
    have hok := hok.2
    refine lv_topi (fun z2 ez2 => ?_)
    have hok := hok z2 ez2
    exact wJ_Tree_pointAt_17 G K ad sv a0 Post C z2 I J B D ls H locs hok (lv_sub hl [] rfl) hw
  · have hok := hok.2 hc1
    refine lv_aload_n hx hb zd_Tree_pointAt_4 rfl (lv_at hl 0 rfl) ?_
    refine z_get (v := .int (I 17)) hx hb hts hown hK hw zZ10 6 wX_g6 12 (by decide) zn_370 rfl zd_Tree_pointAt_5 ?_
    refine lv_goto (tgt := 17) hx hb zd_Tree_pointAt_8 (by decide) ?_
    exact wJ_Tree_pointAt_17 G K ad sv a0 Post C (I 17) I J B D ls H locs hok (lv_sub hl [] rfl) hw
