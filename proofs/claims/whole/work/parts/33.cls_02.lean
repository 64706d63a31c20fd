abbrev zy_Tree_add : MethodName := ⟨"LassoFinder$Tree", "add", "(III)I"⟩
abbrev zy_Tree_loopInside : MethodName := ⟨"LassoFinder$Tree", "loopInside", "(I)I"⟩
abbrev zy_Tree_atomicInside : MethodName := ⟨"LassoFinder$Tree", "atomicInside", "(I)I"⟩
abbrev zy_Terms_readOpenings : MethodName := ⟨"LassoFinder$Terms", "readOpenings", "()V"⟩
abbrev zy_Terms_putOff : MethodName := ⟨"LassoFinder$Terms", "putOff", "(I)V"⟩
abbrev zy_Terms_readPart : MethodName := ⟨"LassoFinder$Terms", "readPart", "()V"⟩
abbrev zy_Terms_add : MethodName := ⟨"LassoFinder$Terms", "add", "(I)V"⟩
abbrev zy_Terms_release : MethodName := ⟨"LassoFinder$Terms", "release", "(I)V"⟩
theorem zn_351 : Cond.methodLink "LassoFinder$Tree" 63 ⟨"LassoFinder$Tree", "loopInside", "(I)I"⟩ ∈ zTB := z_in (zt_4 _ (List.mem_of_getElem? (i := 14) rfl)) rfl
theorem zn_352 : Cond.methodLink "LassoFinder$Tree" 67 ⟨"LassoFinder$Tree", "atomicInside", "(I)I"⟩ ∈ zTB := z_in (zt_4 _ (List.mem_of_getElem? (i := 18) rfl)) rfl
theorem zn_364 : Cond.methodLink "LassoFinder$Terms" 70 ⟨"LassoFinder$Text", "ahead", "()C"⟩ ∈ zTB := z_in (zt_4 _ (List.mem_of_getElem? (i := 59) rfl)) rfl
theorem zn_365 : Cond.methodLink "LassoFinder$Terms" 61 ⟨"LassoFinder$Text", "refuse", "()V"⟩ ∈ zTB := z_in (zt_4 _ (List.mem_of_getElem? (i := 60) rfl)) rfl
theorem zn_366 : Cond.methodLink "LassoFinder$Terms" 74 ⟨"LassoFinder$Text", "skip", "()V"⟩ ∈ zTB := z_in (zt_4 _ (List.mem_of_getElem? (i := 61) rfl)) rfl
theorem zn_367 : Cond.methodLink "LassoFinder$Terms" 77 ⟨"LassoFinder$Terms", "putOff", "(I)V"⟩ ∈ zTB := z_in (zt_4 _ (List.mem_of_getElem? (i := 62) rfl)) rfl
theorem zn_369 : Cond.methodLink "LassoFinder$Terms" 80 ⟨"LassoFinder$Text", "oneOf", "(C)I"⟩ ∈ zTB := z_in (zt_4 _ (List.mem_of_getElem? (i := 70) rfl)) rfl
theorem zn_370 : Cond.methodLink "LassoFinder$Terms" 67 ⟨"LassoFinder$Terms", "add", "(I)V"⟩ ∈ zTB := z_in (zt_4 _ (List.mem_of_getElem? (i := 71) rfl)) rfl
theorem zn_435 : Cond.fieldLink "LassoFinder$Terms" 31 "LassoFinder$Terms" "length" "I" ∈ zTB := z_in (zt_1 _ (List.mem_of_getElem? (i := 168) rfl)) rfl
theorem zn_436 : Cond.fieldLink "LassoFinder$Terms" 41 "LassoFinder$Terms" "open" "I" ∈ zTB := z_in (zt_1 _ (List.mem_of_getElem? (i := 173) rfl)) rfl
theorem zn_437 : Cond.fieldLink "LassoFinder$Terms" 13 "LassoFinder$Terms" "text" "LLassoFinder$Text;" ∈ zTB := z_in (zt_1 _ (List.mem_of_getElem? (i := 165) rfl)) rfl
theorem zn_438 : Cond.fieldLink "LassoFinder$Terms" 35 "LassoFinder$Terms" "waitingSigns" "I" ∈ zTB := z_in (zt_1 _ (List.mem_of_getElem? (i := 170) rfl)) rfl
theorem zn_439 : Cond.fieldLink "LassoFinder$Terms" 92 "LassoFinder$Terms" "STRENGTHS" "[I" ∈ zTB := z_in (zt_4 _ (List.mem_of_getElem? (i := 83) rfl)) rfl
theorem zn_440 : Cond.fieldLink "LassoFinder$Terms" 44 "LassoFinder$Terms" "compared" "I" ∈ zTB := z_in (zt_1 _ (List.mem_of_getElem? (i := 174) rfl)) rfl
theorem zn_441 : Cond.fieldLink "LassoFinder$Terms" 38 "LassoFinder$Terms" "parts" "I" ∈ zTB := z_in (zt_1 _ (List.mem_of_getElem? (i := 172) rfl)) rfl
theorem zn_442 : Cond.fieldLink "LassoFinder$Terms" 17 "LassoFinder$Terms" "names" "LLassoFinder$Names;" ∈ zTB := z_in (zt_1 _ (List.mem_of_getElem? (i := 166) rfl)) rfl
theorem zn_443 : Cond.fieldLink "LassoFinder$Terms" 84 "LassoFinder$Names" "kinds" "[I" ∈ zTB := z_in (zt_1 _ (List.mem_of_getElem? (i := 64) rfl)) rfl
theorem zn_612 : Cond.code ⟨"LassoFinder$Tree", "loopInside", "(I)I"⟩ prog_11_method_4_code 2 (some .int) ∈ zTB := z_in (zt_4 _ (List.mem_of_getElem? (i := 17) rfl)) rfl
theorem zn_613 : Cond.selects "LassoFinder$Tree" ⟨"LassoFinder$Tree", "loopInside", "(I)I"⟩ ⟨"LassoFinder$Tree", "loopInside", "(I)I"⟩ ∈ zTB := z_in (zt_4 _ (List.mem_of_getElem? (i := 16) rfl)) rfl
theorem zn_614 : Cond.instanceMethod ⟨"LassoFinder$Tree", "loopInside", "(I)I"⟩ ∈ zTB := z_in (zt_4 _ (List.mem_of_getElem? (i := 15) rfl)) rfl
theorem zn_615 : Cond.code ⟨"LassoFinder$Tree", "atomicInside", "(I)I"⟩ prog_11_method_5_code 2 (some .int) ∈ zTB := z_in (zt_4 _ (List.mem_of_getElem? (i := 21) rfl)) rfl
theorem zn_616 : Cond.selects "LassoFinder$Tree" ⟨"LassoFinder$Tree", "atomicInside", "(I)I"⟩ ⟨"LassoFinder$Tree", "atomicInside", "(I)I"⟩ ∈ zTB := z_in (zt_4 _ (List.mem_of_getElem? (i := 20) rfl)) rfl
theorem zn_617 : Cond.instanceMethod ⟨"LassoFinder$Tree", "atomicInside", "(I)I"⟩ ∈ zTB := z_in (zt_4 _ (List.mem_of_getElem? (i := 19) rfl)) rfl
theorem zn_618 : Cond.code ⟨"LassoFinder$Terms", "add", "(I)V"⟩ prog_9_method_11_code 2 none ∈ zTB := z_in (zt_4 _ (List.mem_of_getElem? (i := 74) rfl)) rfl
theorem zn_619 : Cond.instanceMethod ⟨"LassoFinder$Terms", "add", "(I)V"⟩ ∈ zTB := z_in (zt_4 _ (List.mem_of_getElem? (i := 73) rfl)) rfl
theorem zn_620 : Cond.code ⟨"LassoFinder$Terms", "putOff", "(I)V"⟩ prog_9_method_9_code 2 none ∈ zTB := z_in (zt_4 _ (List.mem_of_getElem? (i := 65) rfl)) rfl
theorem zn_621 : Cond.instanceMethod ⟨"LassoFinder$Terms", "putOff", "(I)V"⟩ ∈ zTB := z_in (zt_4 _ (List.mem_of_getElem? (i := 64) rfl)) rfl
theorem zf_Tree_loopInside : zFaceV zy_Tree_loopInside prog_11_method_4_code 2 (some .int) 1 := ⟨zn_614, zn_613, zm_21, zn_612, by decide +kernel, by decide +kernel, by decide +kernel⟩
theorem zf_Tree_atomicInside : zFaceV zy_Tree_atomicInside prog_11_method_5_code 2 (some .int) 1 := ⟨zn_617, zn_616, zm_21, zn_615, by decide +kernel, by decide +kernel, by decide +kernel⟩
theorem zf_Terms_add : zFaceV zy_Terms_add prog_9_method_11_code 2 none 1 := ⟨zn_619, (z_in (zp_2 _ (List.mem_of_getElem? (i := 0) rfl)) rfl), zm_17, zn_618, by decide +kernel, by decide +kernel, by decide +kernel⟩
theorem zf_Terms_putOff : zFaceV zy_Terms_putOff prog_9_method_9_code 2 none 1 := ⟨zn_621, (z_in (zp_1 _ (List.mem_of_getElem? (i := 14) rfl)) rfl), zm_17, zn_620, by decide +kernel, by decide +kernel, by decide +kernel⟩
theorem zd_Terms_add_0 : decode prog_9_method_11_code 0 = .ok (.aload_n 0, 1) := by decide +kernel
theorem zd_Terms_add_1 : decode prog_9_method_11_code 1 = .ok (.getfield 21, 3) := by decide +kernel
theorem zd_Terms_add_4 : decode prog_9_method_11_code 4 = .ok (.aload_n 0, 1) := by decide +kernel
theorem zd_Terms_add_5 : decode prog_9_method_11_code 5 = .ok (.getfield 31, 3) := by decide +kernel
theorem zd_Terms_add_8 : decode prog_9_method_11_code 8 = .ok (.iload_n 1, 1) := by decide +kernel
theorem zd_Terms_add_9 : decode prog_9_method_11_code 9 = .ok (.iastore, 1) := by decide +kernel
theorem zd_Terms_add_10 : decode prog_9_method_11_code 10 = .ok (.aload_n 0, 1) := by decide +kernel
theorem zd_Terms_add_11 : decode prog_9_method_11_code 11 = .ok (.dup, 1) := by decide +kernel
theorem zd_Terms_add_12 : decode prog_9_method_11_code 12 = .ok (.getfield 31, 3) := by decide +kernel
theorem zd_Terms_add_15 : decode prog_9_method_11_code 15 = .ok (.iconst 1, 1) := by decide +kernel
theorem zd_Terms_add_16 : decode prog_9_method_11_code 16 = .ok (.iadd, 1) := by decide +kernel
theorem zd_Terms_add_17 : decode prog_9_method_11_code 17 = .ok (.putfield 31, 3) := by decide +kernel
theorem zd_Terms_add_20 : decode prog_9_method_11_code 20 = .ok (.return_, 1) := by decide +kernel
theorem zd_Terms_putOff_0 : decode prog_9_method_9_code 0 = .ok (.aload_n 0, 1) := by decide +kernel
theorem zd_Terms_putOff_1 : decode prog_9_method_9_code 1 = .ok (.getfield 25, 3) := by decide +kernel
theorem zd_Terms_putOff_4 : decode prog_9_method_9_code 4 = .ok (.aload_n 0, 1) := by decide +kernel
theorem zd_Terms_putOff_5 : decode prog_9_method_9_code 5 = .ok (.getfield 35, 3) := by decide +kernel
theorem zd_Terms_putOff_8 : decode prog_9_method_9_code 8 = .ok (.iload_n 1, 1) := by decide +kernel
theorem zd_Terms_putOff_9 : decode prog_9_method_9_code 9 = .ok (.iastore, 1) := by decide +kernel
theorem zd_Terms_putOff_10 : decode prog_9_method_9_code 10 = .ok (.aload_n 0, 1) := by decide +kernel
theorem zd_Terms_putOff_11 : decode prog_9_method_9_code 11 = .ok (.dup, 1) := by decide +kernel
theorem zd_Terms_putOff_12 : decode prog_9_method_9_code 12 = .ok (.getfield 35, 3) := by decide +kernel
theorem zd_Terms_putOff_15 : decode prog_9_method_9_code 15 = .ok (.iconst 1, 1) := by decide +kernel
theorem zd_Terms_putOff_16 : decode prog_9_method_9_code 16 = .ok (.iadd, 1) := by decide +kernel
theorem zd_Terms_putOff_17 : decode prog_9_method_9_code 17 = .ok (.putfield 35, 3) := by decide +kernel
theorem zd_Terms_putOff_20 : decode prog_9_method_9_code 20 = .ok (.return_, 1) := by decide +kernel
theorem zd_Terms_readOpenings_0 : decode prog_9_method_4_code 0 = .ok (.iconst 0, 1) := by decide +kernel
theorem zd_Terms_readOpenings_1 : decode prog_9_method_4_code 1 = .ok (.istore_n 1, 1) := by decide +kernel
theorem zd_Terms_readOpenings_2 : decode prog_9_method_4_code 2 = .ok (.iload_n 1, 1) := by decide +kernel
theorem zd_Terms_readOpenings_3 : decode prog_9_method_4_code 3 = .ok (.sipush 240, 3) := by decide +kernel
theorem zd_Terms_readOpenings_6 : decode prog_9_method_4_code 6 = .ok (.if_icmp .ge 69, 3) := by decide +kernel
theorem zd_Terms_readOpenings_9 : decode prog_9_method_4_code 9 = .ok (.aload_n 0, 1) := by decide +kernel
theorem zd_Terms_readOpenings_10 : decode prog_9_method_4_code 10 = .ok (.getfield 13, 3) := by decide +kernel
theorem zd_Terms_readOpenings_13 : decode prog_9_method_4_code 13 = .ok (.invokevirtual 70, 3) := by decide +kernel
theorem zd_Terms_readOpenings_16 : decode prog_9_method_4_code 16 = .ok (.bipush 40, 2) := by decide +kernel
theorem zd_Terms_readOpenings_18 : decode prog_9_method_4_code 18 = .ok (.if_icmp .ne 57, 3) := by decide +kernel
theorem zd_Terms_readOpenings_21 : decode prog_9_method_4_code 21 = .ok (.aload_n 0, 1) := by decide +kernel
theorem zd_Terms_readOpenings_22 : decode prog_9_method_4_code 22 = .ok (.getfield 41, 3) := by decide +kernel
theorem zd_Terms_readOpenings_25 : decode prog_9_method_4_code 25 = .ok (.iconst 4, 1) := by decide +kernel
theorem zd_Terms_readOpenings_26 : decode prog_9_method_4_code 26 = .ok (.if_icmp .ne 10, 3) := by decide +kernel
theorem zd_Terms_readOpenings_29 : decode prog_9_method_4_code 29 = .ok (.aload_n 0, 1) := by decide +kernel
theorem zd_Terms_readOpenings_30 : decode prog_9_method_4_code 30 = .ok (.getfield 13, 3) := by decide +kernel
theorem zd_Terms_readOpenings_33 : decode prog_9_method_4_code 33 = .ok (.invokevirtual 61, 3) := by decide +kernel
theorem zd_Terms_readOpenings_36 : decode prog_9_method_4_code 36 = .ok (.aload_n 0, 1) := by decide +kernel
theorem zd_Terms_readOpenings_37 : decode prog_9_method_4_code 37 = .ok (.getfield 13, 3) := by decide +kernel
theorem zd_Terms_readOpenings_40 : decode prog_9_method_4_code 40 = .ok (.invokevirtual 74, 3) := by decide +kernel
theorem zd_Terms_readOpenings_43 : decode prog_9_method_4_code 43 = .ok (.aload_n 0, 1) := by decide +kernel
theorem zd_Terms_readOpenings_44 : decode prog_9_method_4_code 44 = .ok (.dup, 1) := by decide +kernel
theorem zd_Terms_readOpenings_45 : decode prog_9_method_4_code 45 = .ok (.getfield 41, 3) := by decide +kernel
theorem zd_Terms_readOpenings_48 : decode prog_9_method_4_code 48 = .ok (.iconst 1, 1) := by decide +kernel
theorem zd_Terms_readOpenings_49 : decode prog_9_method_4_code 49 = .ok (.iadd, 1) := by decide +kernel
theorem zd_Terms_readOpenings_50 : decode prog_9_method_4_code 50 = .ok (.putfield 41, 3) := by decide +kernel
theorem zd_Terms_readOpenings_53 : decode prog_9_method_4_code 53 = .ok (.aload_n 0, 1) := by decide +kernel
theorem zd_Terms_readOpenings_54 : decode prog_9_method_4_code 54 = .ok (.dup, 1) := by decide +kernel
theorem zd_Terms_readOpenings_55 : decode prog_9_method_4_code 55 = .ok (.getfield 44, 3) := by decide +kernel
theorem zd_Terms_readOpenings_58 : decode prog_9_method_4_code 58 = .ok (.iconst 1, 1) := by decide +kernel
theorem zd_Terms_readOpenings_59 : decode prog_9_method_4_code 59 = .ok (.ishl, 1) := by decide +kernel
theorem zd_Terms_readOpenings_60 : decode prog_9_method_4_code 60 = .ok (.putfield 44, 3) := by decide +kernel
theorem zd_Terms_readOpenings_63 : decode prog_9_method_4_code 63 = .ok (.aload_n 0, 1) := by decide +kernel
theorem zd_Terms_readOpenings_64 : decode prog_9_method_4_code 64 = .ok (.bipush 21, 2) := by decide +kernel
theorem zd_Terms_readOpenings_66 : decode prog_9_method_4_code 66 = .ok (.invokevirtual 77, 3) := by decide +kernel
theorem zd_Terms_readOpenings_69 : decode prog_9_method_4_code 69 = .ok (.iinc 1 1, 3) := by decide +kernel
theorem zd_Terms_readOpenings_72 : decode prog_9_method_4_code 72 = .ok (.goto (-70), 3) := by decide +kernel
theorem zd_Terms_readOpenings_75 : decode prog_9_method_4_code 75 = .ok (.return_, 1) := by decide +kernel
theorem zd_Terms_readPart_0 : decode prog_9_method_5_code 0 = .ok (.aload_n 0, 1) := by decide +kernel
theorem zd_Terms_readPart_1 : decode prog_9_method_5_code 1 = .ok (.getfield 13, 3) := by decide +kernel
theorem zd_Terms_readPart_4 : decode prog_9_method_5_code 4 = .ok (.bipush 48, 2) := by decide +kernel
theorem zd_Terms_readPart_6 : decode prog_9_method_5_code 6 = .ok (.invokevirtual 80, 3) := by decide +kernel
theorem zd_Terms_readPart_9 : decode prog_9_method_5_code 9 = .ok (.istore_n 1, 1) := by decide +kernel
theorem zd_Terms_readPart_10 : decode prog_9_method_5_code 10 = .ok (.aload_n 0, 1) := by decide +kernel
theorem zd_Terms_readPart_11 : decode prog_9_method_5_code 11 = .ok (.getfield 13, 3) := by decide +kernel
theorem zd_Terms_readPart_14 : decode prog_9_method_5_code 14 = .ok (.bipush 97, 2) := by decide +kernel
theorem zd_Terms_readPart_16 : decode prog_9_method_5_code 16 = .ok (.invokevirtual 80, 3) := by decide +kernel
theorem zd_Terms_readPart_19 : decode prog_9_method_5_code 19 = .ok (.istore_n 2, 1) := by decide +kernel
theorem zd_Terms_readPart_20 : decode prog_9_method_5_code 20 = .ok (.aload_n 0, 1) := by decide +kernel
theorem zd_Terms_readPart_21 : decode prog_9_method_5_code 21 = .ok (.getfield 38, 3) := by decide +kernel
theorem zd_Terms_readPart_24 : decode prog_9_method_5_code 24 = .ok (.bipush 12, 2) := by decide +kernel
theorem zd_Terms_readPart_26 : decode prog_9_method_5_code 26 = .ok (.if_icmp .eq 25, 3) := by decide +kernel
theorem zd_Terms_readPart_29 : decode prog_9_method_5_code 29 = .ok (.iload_n 1, 1) := by decide +kernel
theorem zd_Terms_readPart_30 : decode prog_9_method_5_code 30 = .ok (.iconst (-1), 1) := by decide +kernel
theorem zd_Terms_readPart_31 : decode prog_9_method_5_code 31 = .ok (.if_icmp .ne 27, 3) := by decide +kernel
theorem zd_Terms_readPart_34 : decode prog_9_method_5_code 34 = .ok (.iload_n 2, 1) := by decide +kernel
theorem zd_Terms_readPart_35 : decode prog_9_method_5_code 35 = .ok (.iconst (-1), 1) := by decide +kernel
theorem zd_Terms_readPart_36 : decode prog_9_method_5_code 36 = .ok (.if_icmp .eq 15, 3) := by decide +kernel
theorem zd_Terms_readPart_39 : decode prog_9_method_5_code 39 = .ok (.aload_n 0, 1) := by decide +kernel
theorem zd_Terms_readPart_40 : decode prog_9_method_5_code 40 = .ok (.getfield 17, 3) := by decide +kernel
theorem zd_Terms_readPart_43 : decode prog_9_method_5_code 43 = .ok (.getfield 84, 3) := by decide +kernel
theorem zd_Terms_readPart_46 : decode prog_9_method_5_code 46 = .ok (.iload_n 2, 1) := by decide +kernel
theorem zd_Terms_readPart_47 : decode prog_9_method_5_code 47 = .ok (.iaload, 1) := by decide +kernel
theorem zd_Terms_readPart_48 : decode prog_9_method_5_code 48 = .ok (.ifCond .ne 10, 3) := by decide +kernel
theorem zd_Terms_readPart_51 : decode prog_9_method_5_code 51 = .ok (.aload_n 0, 1) := by decide +kernel
theorem zd_Terms_readPart_52 : decode prog_9_method_5_code 52 = .ok (.getfield 13, 3) := by decide +kernel
theorem zd_Terms_readPart_55 : decode prog_9_method_5_code 55 = .ok (.invokevirtual 61, 3) := by decide +kernel
theorem zd_Terms_readPart_58 : decode prog_9_method_5_code 58 = .ok (.aload_n 0, 1) := by decide +kernel
theorem zd_Terms_readPart_59 : decode prog_9_method_5_code 59 = .ok (.getfield 13, 3) := by decide +kernel
theorem zd_Terms_readPart_62 : decode prog_9_method_5_code 62 = .ok (.invokevirtual 74, 3) := by decide +kernel
theorem zd_Terms_readPart_65 : decode prog_9_method_5_code 65 = .ok (.aload_n 0, 1) := by decide +kernel
theorem zd_Terms_readPart_66 : decode prog_9_method_5_code 66 = .ok (.dup, 1) := by decide +kernel
theorem zd_Terms_readPart_67 : decode prog_9_method_5_code 67 = .ok (.getfield 38, 3) := by decide +kernel
theorem zd_Terms_readPart_70 : decode prog_9_method_5_code 70 = .ok (.iconst 1, 1) := by decide +kernel
theorem zd_Terms_readPart_71 : decode prog_9_method_5_code 71 = .ok (.iadd, 1) := by decide +kernel
theorem zd_Terms_readPart_72 : decode prog_9_method_5_code 72 = .ok (.putfield 38, 3) := by decide +kernel
theorem zd_Terms_readPart_75 : decode prog_9_method_5_code 75 = .ok (.aload_n 0, 1) := by decide +kernel
theorem zd_Terms_readPart_76 : decode prog_9_method_5_code 76 = .ok (.iload_n 1, 1) := by decide +kernel
theorem zd_Terms_readPart_77 : decode prog_9_method_5_code 77 = .ok (.iconst (-1), 1) := by decide +kernel
theorem zd_Terms_readPart_78 : decode prog_9_method_5_code 78 = .ok (.if_icmp .ne 10, 3) := by decide +kernel
theorem zd_Terms_readPart_81 : decode prog_9_method_5_code 81 = .ok (.bipush 8, 2) := by decide +kernel
theorem zd_Terms_readPart_83 : decode prog_9_method_5_code 83 = .ok (.iload_n 2, 1) := by decide +kernel
theorem zd_Terms_readPart_84 : decode prog_9_method_5_code 84 = .ok (.iadd, 1) := by decide +kernel
theorem zd_Terms_readPart_85 : decode prog_9_method_5_code 85 = .ok (.goto 4, 3) := by decide +kernel
theorem zd_Terms_readPart_88 : decode prog_9_method_5_code 88 = .ok (.iload_n 1, 1) := by decide +kernel
theorem zd_Terms_readPart_89 : decode prog_9_method_5_code 89 = .ok (.invokevirtual 67, 3) := by decide +kernel
theorem zd_Terms_readPart_92 : decode prog_9_method_5_code 92 = .ok (.return_, 1) := by decide +kernel
theorem zd_Terms_release_0 : decode prog_9_method_10_code 0 = .ok (.iconst 0, 1) := by decide +kernel
theorem zd_Terms_release_1 : decode prog_9_method_10_code 1 = .ok (.istore_n 2, 1) := by decide +kernel
theorem zd_Terms_release_2 : decode prog_9_method_10_code 2 = .ok (.iload_n 2, 1) := by decide +kernel
theorem zd_Terms_release_3 : decode prog_9_method_10_code 3 = .ok (.bipush 20, 2) := by decide +kernel
theorem zd_Terms_release_5 : decode prog_9_method_10_code 5 = .ok (.if_icmp .ge 84, 3) := by decide +kernel
theorem zd_Terms_release_8 : decode prog_9_method_10_code 8 = .ok (.aload_n 0, 1) := by decide +kernel
theorem zd_Terms_release_9 : decode prog_9_method_10_code 9 = .ok (.getfield 35, 3) := by decide +kernel
theorem zd_Terms_release_12 : decode prog_9_method_10_code 12 = .ok (.ifCond .le 77, 3) := by decide +kernel
theorem zd_Terms_release_15 : decode prog_9_method_10_code 15 = .ok (.aload_n 0, 1) := by decide +kernel
theorem zd_Terms_release_16 : decode prog_9_method_10_code 16 = .ok (.getfield 25, 3) := by decide +kernel
theorem zd_Terms_release_19 : decode prog_9_method_10_code 19 = .ok (.aload_n 0, 1) := by decide +kernel
theorem zd_Terms_release_20 : decode prog_9_method_10_code 20 = .ok (.getfield 35, 3) := by decide +kernel
theorem zd_Terms_release_23 : decode prog_9_method_10_code 23 = .ok (.iconst 1, 1) := by decide +kernel
theorem zd_Terms_release_24 : decode prog_9_method_10_code 24 = .ok (.isub, 1) := by decide +kernel
theorem zd_Terms_release_25 : decode prog_9_method_10_code 25 = .ok (.iaload, 1) := by decide +kernel
theorem zd_Terms_release_26 : decode prog_9_method_10_code 26 = .ok (.istore_n 3, 1) := by decide +kernel
theorem zd_Terms_release_27 : decode prog_9_method_10_code 27 = .ok (.iload_n 3, 1) := by decide +kernel
theorem zd_Terms_release_28 : decode prog_9_method_10_code 28 = .ok (.bipush 21, 2) := by decide +kernel
theorem zd_Terms_release_30 : decode prog_9_method_10_code 30 = .ok (.if_icmp .eq 22, 3) := by decide +kernel
theorem zd_Terms_release_33 : decode prog_9_method_10_code 33 = .ok (.getstatic 92, 3) := by decide +kernel
theorem zd_Terms_release_36 : decode prog_9_method_10_code 36 = .ok (.iload_n 3, 1) := by decide +kernel
theorem zd_Terms_release_37 : decode prog_9_method_10_code 37 = .ok (.bipush 16, 2) := by decide +kernel
theorem zd_Terms_release_39 : decode prog_9_method_10_code 39 = .ok (.isub, 1) := by decide +kernel
theorem zd_Terms_release_40 : decode prog_9_method_10_code 40 = .ok (.iaload, 1) := by decide +kernel
theorem zd_Terms_release_41 : decode prog_9_method_10_code 41 = .ok (.getstatic 92, 3) := by decide +kernel
theorem zd_Terms_release_44 : decode prog_9_method_10_code 44 = .ok (.iload_n 1, 1) := by decide +kernel
theorem zd_Terms_release_45 : decode prog_9_method_10_code 45 = .ok (.bipush 16, 2) := by decide +kernel
theorem zd_Terms_release_47 : decode prog_9_method_10_code 47 = .ok (.isub, 1) := by decide +kernel
theorem zd_Terms_release_48 : decode prog_9_method_10_code 48 = .ok (.iaload, 1) := by decide +kernel
theorem zd_Terms_release_49 : decode prog_9_method_10_code 49 = .ok (.if_icmp .ge 4, 3) := by decide +kernel
theorem zd_Terms_release_52 : decode prog_9_method_10_code 52 = .ok (.return_, 1) := by decide +kernel
theorem zd_Terms_release_53 : decode prog_9_method_10_code 53 = .ok (.aload_n 0, 1) := by decide +kernel
theorem zd_Terms_release_54 : decode prog_9_method_10_code 54 = .ok (.getfield 21, 3) := by decide +kernel
theorem zd_Terms_release_57 : decode prog_9_method_10_code 57 = .ok (.aload_n 0, 1) := by decide +kernel
theorem zd_Terms_release_58 : decode prog_9_method_10_code 58 = .ok (.getfield 31, 3) := by decide +kernel
theorem zd_Terms_release_61 : decode prog_9_method_10_code 61 = .ok (.iload_n 3, 1) := by decide +kernel
theorem zd_Terms_release_62 : decode prog_9_method_10_code 62 = .ok (.iastore, 1) := by decide +kernel
theorem zd_Terms_release_63 : decode prog_9_method_10_code 63 = .ok (.aload_n 0, 1) := by decide +kernel
theorem zd_Terms_release_64 : decode prog_9_method_10_code 64 = .ok (.dup, 1) := by decide +kernel
theorem zd_Terms_release_65 : decode prog_9_method_10_code 65 = .ok (.getfield 31, 3) := by decide +kernel
theorem zd_Terms_release_68 : decode prog_9_method_10_code 68 = .ok (.iconst 1, 1) := by decide +kernel
theorem zd_Terms_release_69 : decode prog_9_method_10_code 69 = .ok (.iadd, 1) := by decide +kernel
theorem zd_Terms_release_70 : decode prog_9_method_10_code 70 = .ok (.putfield 31, 3) := by decide +kernel
theorem zd_Terms_release_73 : decode prog_9_method_10_code 73 = .ok (.aload_n 0, 1) := by decide +kernel
theorem zd_Terms_release_74 : decode prog_9_method_10_code 74 = .ok (.dup, 1) := by decide +kernel
theorem zd_Terms_release_75 : decode prog_9_method_10_code 75 = .ok (.getfield 35, 3) := by decide +kernel
theorem zd_Terms_release_78 : decode prog_9_method_10_code 78 = .ok (.iconst 1, 1) := by decide +kernel
theorem zd_Terms_release_79 : decode prog_9_method_10_code 79 = .ok (.isub, 1) := by decide +kernel
theorem zd_Terms_release_80 : decode prog_9_method_10_code 80 = .ok (.putfield 35, 3) := by decide +kernel
theorem zd_Terms_release_83 : decode prog_9_method_10_code 83 = .ok (.iinc 2 1, 3) := by decide +kernel
theorem zd_Terms_release_86 : decode prog_9_method_10_code 86 = .ok (.goto (-84), 3) := by decide +kernel
theorem zd_Terms_release_89 : decode prog_9_method_10_code 89 = .ok (.return_, 1) := by decide +kernel
theorem zd_Tree_add_0 : decode prog_11_method_3_code 0 = .ok (.aload_n 0, 1) := by decide +kernel
theorem zd_Tree_add_1 : decode prog_11_method_3_code 1 = .ok (.getfield 50, 3) := by decide +kernel
theorem zd_Tree_add_4 : decode prog_11_method_3_code 4 = .ok (.istore 4, 2) := by decide +kernel
theorem zd_Tree_add_6 : decode prog_11_method_3_code 6 = .ok (.aload_n 0, 1) := by decide +kernel
theorem zd_Tree_add_7 : decode prog_11_method_3_code 7 = .ok (.dup, 1) := by decide +kernel
theorem zd_Tree_add_8 : decode prog_11_method_3_code 8 = .ok (.getfield 50, 3) := by decide +kernel
theorem zd_Tree_add_11 : decode prog_11_method_3_code 11 = .ok (.iconst 1, 1) := by decide +kernel
theorem zd_Tree_add_12 : decode prog_11_method_3_code 12 = .ok (.iadd, 1) := by decide +kernel
theorem zd_Tree_add_13 : decode prog_11_method_3_code 13 = .ok (.putfield 50, 3) := by decide +kernel
theorem zd_Tree_add_16 : decode prog_11_method_3_code 16 = .ok (.aload_n 0, 1) := by decide +kernel
theorem zd_Tree_add_17 : decode prog_11_method_3_code 17 = .ok (.getfield 11, 3) := by decide +kernel
theorem zd_Tree_add_20 : decode prog_11_method_3_code 20 = .ok (.iload 4, 2) := by decide +kernel
theorem zd_Tree_add_22 : decode prog_11_method_3_code 22 = .ok (.iload_n 1, 1) := by decide +kernel
theorem zd_Tree_add_23 : decode prog_11_method_3_code 23 = .ok (.iastore, 1) := by decide +kernel
theorem zd_Tree_add_24 : decode prog_11_method_3_code 24 = .ok (.aload_n 0, 1) := by decide +kernel
theorem zd_Tree_add_25 : decode prog_11_method_3_code 25 = .ok (.getfield 17, 3) := by decide +kernel
theorem zd_Tree_add_28 : decode prog_11_method_3_code 28 = .ok (.iload 4, 2) := by decide +kernel
theorem zd_Tree_add_30 : decode prog_11_method_3_code 30 = .ok (.iload_n 2, 1) := by decide +kernel
theorem zd_Tree_add_31 : decode prog_11_method_3_code 31 = .ok (.iastore, 1) := by decide +kernel
theorem zd_Tree_add_32 : decode prog_11_method_3_code 32 = .ok (.aload_n 0, 1) := by decide +kernel
theorem zd_Tree_add_33 : decode prog_11_method_3_code 33 = .ok (.getfield 20, 3) := by decide +kernel
theorem zd_Tree_add_36 : decode prog_11_method_3_code 36 = .ok (.iload 4, 2) := by decide +kernel
theorem zd_Tree_add_38 : decode prog_11_method_3_code 38 = .ok (.aload_n 0, 1) := by decide +kernel
theorem zd_Tree_add_39 : decode prog_11_method_3_code 39 = .ok (.iload_n 2, 1) := by decide +kernel
theorem zd_Tree_add_40 : decode prog_11_method_3_code 40 = .ok (.invokevirtual 63, 3) := by decide +kernel
theorem zd_Tree_add_43 : decode prog_11_method_3_code 43 = .ok (.iastore, 1) := by decide +kernel
theorem zd_Tree_add_44 : decode prog_11_method_3_code 44 = .ok (.aload_n 0, 1) := by decide +kernel
theorem zd_Tree_add_45 : decode prog_11_method_3_code 45 = .ok (.getfield 23, 3) := by decide +kernel
theorem zd_Tree_add_48 : decode prog_11_method_3_code 48 = .ok (.iload 4, 2) := by decide +kernel
theorem zd_Tree_add_50 : decode prog_11_method_3_code 50 = .ok (.aload_n 0, 1) := by decide +kernel
theorem zd_Tree_add_51 : decode prog_11_method_3_code 51 = .ok (.iload_n 2, 1) := by decide +kernel
theorem zd_Tree_add_52 : decode prog_11_method_3_code 52 = .ok (.invokevirtual 67, 3) := by decide +kernel
theorem zd_Tree_add_55 : decode prog_11_method_3_code 55 = .ok (.iastore, 1) := by decide +kernel
theorem zd_Tree_add_56 : decode prog_11_method_3_code 56 = .ok (.aload_n 0, 1) := by decide +kernel
theorem zd_Tree_add_57 : decode prog_11_method_3_code 57 = .ok (.getfield 26, 3) := by decide +kernel
theorem zd_Tree_add_60 : decode prog_11_method_3_code 60 = .ok (.iload 4, 2) := by decide +kernel
theorem zd_Tree_add_62 : decode prog_11_method_3_code 62 = .ok (.iload_n 3, 1) := by decide +kernel
theorem zd_Tree_add_63 : decode prog_11_method_3_code 63 = .ok (.iconst (-1), 1) := by decide +kernel
theorem zd_Tree_add_64 : decode prog_11_method_3_code 64 = .ok (.if_icmp .ne 7, 3) := by decide +kernel
theorem zd_Tree_add_67 : decode prog_11_method_3_code 67 = .ok (.iconst 1, 1) := by decide +kernel
theorem zd_Tree_add_68 : decode prog_11_method_3_code 68 = .ok (.goto 4, 3) := by decide +kernel
theorem zd_Tree_add_71 : decode prog_11_method_3_code 71 = .ok (.iconst 0, 1) := by decide +kernel
theorem zd_Tree_add_72 : decode prog_11_method_3_code 72 = .ok (.bastore, 1) := by decide +kernel
theorem zd_Tree_add_73 : decode prog_11_method_3_code 73 = .ok (.aload_n 0, 1) := by decide +kernel
theorem zd_Tree_add_74 : decode prog_11_method_3_code 74 = .ok (.getfield 30, 3) := by decide +kernel
theorem zd_Tree_add_77 : decode prog_11_method_3_code 77 = .ok (.iload 4, 2) := by decide +kernel
theorem zd_Tree_add_79 : decode prog_11_method_3_code 79 = .ok (.iconst (-1), 1) := by decide +kernel
theorem zd_Tree_add_80 : decode prog_11_method_3_code 80 = .ok (.iastore, 1) := by decide +kernel
theorem zd_Tree_add_81 : decode prog_11_method_3_code 81 = .ok (.aload_n 0, 1) := by decide +kernel
theorem zd_Tree_add_82 : decode prog_11_method_3_code 82 = .ok (.getfield 36, 3) := by decide +kernel
theorem zd_Tree_add_85 : decode prog_11_method_3_code 85 = .ok (.iload 4, 2) := by decide +kernel
theorem zd_Tree_add_87 : decode prog_11_method_3_code 87 = .ok (.iconst (-1), 1) := by decide +kernel
theorem zd_Tree_add_88 : decode prog_11_method_3_code 88 = .ok (.iastore, 1) := by decide +kernel
theorem zd_Tree_add_89 : decode prog_11_method_3_code 89 = .ok (.iload_n 3, 1) := by decide +kernel
theorem zd_Tree_add_90 : decode prog_11_method_3_code 90 = .ok (.iconst (-1), 1) := by decide +kernel
theorem zd_Tree_add_91 : decode prog_11_method_3_code 91 = .ok (.if_icmp .eq 14, 3) := by decide +kernel
theorem zd_Tree_add_94 : decode prog_11_method_3_code 94 = .ok (.aload_n 0, 1) := by decide +kernel
theorem zd_Tree_add_95 : decode prog_11_method_3_code 95 = .ok (.getfield 30, 3) := by decide +kernel
theorem zd_Tree_add_98 : decode prog_11_method_3_code 98 = .ok (.iload_n 3, 1) := by decide +kernel
theorem zd_Tree_add_99 : decode prog_11_method_3_code 99 = .ok (.iload 4, 2) := by decide +kernel
theorem zd_Tree_add_101 : decode prog_11_method_3_code 101 = .ok (.iastore, 1) := by decide +kernel
theorem zd_Tree_add_102 : decode prog_11_method_3_code 102 = .ok (.goto 16, 3) := by decide +kernel
theorem zd_Tree_add_105 : decode prog_11_method_3_code 105 = .ok (.iload_n 2, 1) := by decide +kernel
theorem zd_Tree_add_106 : decode prog_11_method_3_code 106 = .ok (.iconst (-1), 1) := by decide +kernel
theorem zd_Tree_add_107 : decode prog_11_method_3_code 107 = .ok (.if_icmp .eq 11, 3) := by decide +kernel
theorem zd_Tree_add_110 : decode prog_11_method_3_code 110 = .ok (.aload_n 0, 1) := by decide +kernel
theorem zd_Tree_add_111 : decode prog_11_method_3_code 111 = .ok (.getfield 33, 3) := by decide +kernel
theorem zd_Tree_add_114 : decode prog_11_method_3_code 114 = .ok (.iload_n 2, 1) := by decide +kernel
theorem zd_Tree_add_115 : decode prog_11_method_3_code 115 = .ok (.iload 4, 2) := by decide +kernel
theorem zd_Tree_add_117 : decode prog_11_method_3_code 117 = .ok (.iastore, 1) := by decide +kernel
theorem zd_Tree_add_118 : decode prog_11_method_3_code 118 = .ok (.iload_n 1, 1) := by decide +kernel
theorem zd_Tree_add_119 : decode prog_11_method_3_code 119 = .ok (.iconst 2, 1) := by decide +kernel
theorem zd_Tree_add_120 : decode prog_11_method_3_code 120 = .ok (.if_icmp .gt 24, 3) := by decide +kernel
theorem zd_Tree_add_123 : decode prog_11_method_3_code 123 = .ok (.aload_n 0, 1) := by decide +kernel
theorem zd_Tree_add_124 : decode prog_11_method_3_code 124 = .ok (.getfield 36, 3) := by decide +kernel
theorem zd_Tree_add_127 : decode prog_11_method_3_code 127 = .ok (.iload 4, 2) := by decide +kernel
theorem zd_Tree_add_129 : decode prog_11_method_3_code 129 = .ok (.aload_n 0, 1) := by decide +kernel
theorem zd_Tree_add_130 : decode prog_11_method_3_code 130 = .ok (.getfield 54, 3) := by decide +kernel
theorem zd_Tree_add_133 : decode prog_11_method_3_code 133 = .ok (.iastore, 1) := by decide +kernel
theorem zd_Tree_add_134 : decode prog_11_method_3_code 134 = .ok (.aload_n 0, 1) := by decide +kernel
theorem zd_Tree_add_135 : decode prog_11_method_3_code 135 = .ok (.dup, 1) := by decide +kernel
theorem zd_Tree_add_136 : decode prog_11_method_3_code 136 = .ok (.getfield 54, 3) := by decide +kernel
theorem zd_Tree_add_139 : decode prog_11_method_3_code 139 = .ok (.iconst 1, 1) := by decide +kernel
theorem zd_Tree_add_140 : decode prog_11_method_3_code 140 = .ok (.iadd, 1) := by decide +kernel
theorem zd_Tree_add_141 : decode prog_11_method_3_code 141 = .ok (.putfield 54, 3) := by decide +kernel
theorem zd_Tree_add_144 : decode prog_11_method_3_code 144 = .ok (.iload 4, 2) := by decide +kernel
theorem zd_Tree_add_146 : decode prog_11_method_3_code 146 = .ok (.ireturn, 1) := by decide +kernel
theorem zd_Tree_atomicInside_0 : decode prog_11_method_5_code 0 = .ok (.iload_n 1, 1) := by decide +kernel
theorem zd_Tree_atomicInside_1 : decode prog_11_method_5_code 1 = .ok (.iconst (-1), 1) := by decide +kernel
theorem zd_Tree_atomicInside_2 : decode prog_11_method_5_code 2 = .ok (.if_icmp .ne 5, 3) := by decide +kernel
theorem zd_Tree_atomicInside_5 : decode prog_11_method_5_code 5 = .ok (.iconst (-1), 1) := by decide +kernel
theorem zd_Tree_atomicInside_6 : decode prog_11_method_5_code 6 = .ok (.ireturn, 1) := by decide +kernel
theorem zd_Tree_atomicInside_7 : decode prog_11_method_5_code 7 = .ok (.aload_n 0, 1) := by decide +kernel
theorem zd_Tree_atomicInside_8 : decode prog_11_method_5_code 8 = .ok (.getfield 11, 3) := by decide +kernel
theorem zd_Tree_atomicInside_11 : decode prog_11_method_5_code 11 = .ok (.iload_n 1, 1) := by decide +kernel
theorem zd_Tree_atomicInside_12 : decode prog_11_method_5_code 12 = .ok (.iaload, 1) := by decide +kernel
theorem zd_Tree_atomicInside_13 : decode prog_11_method_5_code 13 = .ok (.iconst 3, 1) := by decide +kernel
theorem zd_Tree_atomicInside_14 : decode prog_11_method_5_code 14 = .ok (.if_icmp .ne 7, 3) := by decide +kernel
theorem zd_Tree_atomicInside_17 : decode prog_11_method_5_code 17 = .ok (.iload_n 1, 1) := by decide +kernel
theorem zd_Tree_atomicInside_18 : decode prog_11_method_5_code 18 = .ok (.goto 9, 3) := by decide +kernel
theorem zd_Tree_atomicInside_21 : decode prog_11_method_5_code 21 = .ok (.aload_n 0, 1) := by decide +kernel
theorem zd_Tree_atomicInside_22 : decode prog_11_method_5_code 22 = .ok (.getfield 23, 3) := by decide +kernel
theorem zd_Tree_atomicInside_25 : decode prog_11_method_5_code 25 = .ok (.iload_n 1, 1) := by decide +kernel
theorem zd_Tree_atomicInside_26 : decode prog_11_method_5_code 26 = .ok (.iaload, 1) := by decide +kernel
theorem zd_Tree_atomicInside_27 : decode prog_11_method_5_code 27 = .ok (.ireturn, 1) := by decide +kernel
theorem zd_Tree_loopInside_0 : decode prog_11_method_4_code 0 = .ok (.iload_n 1, 1) := by decide +kernel
theorem zd_Tree_loopInside_1 : decode prog_11_method_4_code 1 = .ok (.iconst (-1), 1) := by decide +kernel
theorem zd_Tree_loopInside_2 : decode prog_11_method_4_code 2 = .ok (.if_icmp .ne 5, 3) := by decide +kernel
theorem zd_Tree_loopInside_5 : decode prog_11_method_4_code 5 = .ok (.iconst (-1), 1) := by decide +kernel
theorem zd_Tree_loopInside_6 : decode prog_11_method_4_code 6 = .ok (.ireturn, 1) := by decide +kernel
theorem zd_Tree_loopInside_7 : decode prog_11_method_4_code 7 = .ok (.aload_n 0, 1) := by decide +kernel
theorem zd_Tree_loopInside_8 : decode prog_11_method_4_code 8 = .ok (.getfield 11, 3) := by decide +kernel
theorem zd_Tree_loopInside_11 : decode prog_11_method_4_code 11 = .ok (.iload_n 1, 1) := by decide +kernel
theorem zd_Tree_loopInside_12 : decode prog_11_method_4_code 12 = .ok (.iaload, 1) := by decide +kernel
theorem zd_Tree_loopInside_13 : decode prog_11_method_4_code 13 = .ok (.iconst 2, 1) := by decide +kernel
theorem zd_Tree_loopInside_14 : decode prog_11_method_4_code 14 = .ok (.if_icmp .ne 7, 3) := by decide +kernel
theorem zd_Tree_loopInside_17 : decode prog_11_method_4_code 17 = .ok (.iload_n 1, 1) := by decide +kernel
theorem zd_Tree_loopInside_18 : decode prog_11_method_4_code 18 = .ok (.goto 9, 3) := by decide +kernel
theorem zd_Tree_loopInside_21 : decode prog_11_method_4_code 21 = .ok (.aload_n 0, 1) := by decide +kernel
theorem zd_Tree_loopInside_22 : decode prog_11_method_4_code 22 = .ok (.getfield 20, 3) := by decide +kernel
theorem zd_Tree_loopInside_25 : decode prog_11_method_4_code 25 = .ok (.iload_n 1, 1) := by decide +kernel
theorem zd_Tree_loopInside_26 : decode prog_11_method_4_code 26 = .ok (.iaload, 1) := by decide +kernel
theorem zd_Tree_loopInside_27 : decode prog_11_method_4_code 27 = .ok (.ireturn, 1) := by decide +kernel
def wc_Tree_loopInside_27 (a0 : Int32) (Post : Int32 → (Nat → Int32) → (Nat → Int64) → (Nat → Nat → Int32) → (Nat → Nat → Int64) → Prop) (y0 : Int32) (I : Nat → Int32) (J : Nat → Int64) (B : Nat → Nat → Int32) (D : Nat → Nat → Int64) : Prop :=
  Post y0 I J B D
def wp_Tree_loopInside (I : Nat → Int32) (J : Nat → Int64) (B : Nat → Nat → Int32) (D : Nat → Nat → Int64) (a0 : Int32) (Post : Int32 → (Nat → Int32) → (Nat → Int64) → (Nat → Nat → Int32) → (Nat → Nat → Int64) → Prop) : Prop :=
  ((¬ a0 = (-1) → vp_in a0 240 ∧ ∀ z2 : Int32, z2 = ((B 18) a0.toNatClampNeg) → ((¬ z2 = 2 → vp_in a0 240 ∧ ∀ z4 : Int32, z4 = ((B 20) a0.toNatClampNeg) → wc_Tree_loopInside_27 a0 Post z4 I J B D) ∧ (z2 = 2 → wc_Tree_loopInside_27 a0 Post a0 I J B D))) ∧ (a0 = (-1) → Post (-1) I J B D))
set_option maxHeartbeats 8000000 in
set_option maxRecDepth 100000 in
theorem wJ_Tree_loopInside_27 {p : Program} {l : Launch} {e : Env} {s : State} {m : MethodId} {below : List Frame} {meth : Method} {c : Code} {A : Nat → Prop} (G : va_G) (K : Nat → ClassId) (ad : Nat → Nat) (sv : Value) (a0 : Int32) (Post : Int32 → (Nat → Int32) → (Nat → Int64) → (Nat → Nat → Int32) → (Nat → Nat → Int64) → Prop) (C : zCx p s m ([.ref (ad 6), .int a0] : List Value).toArray meth c A G K prog_11_method_4_code (some .int) 2 "LassoFinder$Tree") : ∀ (y0 : Int32) (I : Nat → Int32) (J : Nat → Int64) (B : Nat → Nat → Int32) (D : Nat → Nat → Int64) (ls : Array Slot) (H : Heap) (locs : List Loc), wc_Tree_loopInside_27 a0 Post y0 I J B D → lv_has ls 2 [] → zW G A s.heap (wX ad K sv I J B D) H locs → W p l e { frames := 0, cells := 0, slots := 0, locals := 0 } s m ([.ref (ad 6), .int a0] : List Value).toArray below meth c H locs 0 0 (MQ below (va_Qi (fun (r : Int32) (u : zS) => Post r u.1 u.2.1 u.2.2.1 u.2.2.2) (fun u t => zPost G K A (wX ad K sv u.1 u.2.1 u.2.2.1 u.2.2.2) t) A) ([.ref (ad 6), .int a0] : List Value).toArray s 0 0 A) (F0 m 27 ls [.int y0]) := by
  obtain ⟨hx, hb, hr, hml, hts, hown, hlocks, hA, hK⟩ := id C
  intro y0 I J B D ls H locs hok hl hw
  unfold wc_Tree_loopInside_27 at hok
  exact (z_iret (u := (I, J, B, D)) hx hb hr hlocks rfl hw (List.range 65) wX_all wX_nd hok (Nat.le_of_ble_eq_true rfl) (Nat.le_of_ble_eq_true rfl) zd_Tree_loopInside_27)
set_option maxHeartbeats 8000000 in
set_option maxRecDepth 100000 in
theorem w_Tree_loopInside (l : Launch) (G : va_G) (K : Nat → ClassId) (ad : Nat → Nat) (sv : Value) (I : Nat → Int32) (J : Nat → Int64) (B : Nat → Nat → Int32) (D : Nat → Nat → Int64) (a0 : Int32) (Post : Int32 → (Nat → Int32) → (Nat → Int64) → (Nat → Nat → Int32) → (Nat → Nat → Int64) → Prop) (sz : Nat) (hok : wp_Tree_loopInside I J B D a0 Post) : Met l zy_Tree_loopInside (Cond.code zy_Tree_loopInside prog_11_method_4_code 2 (some .int) :: zTB) { frames := 0, cells := 0, slots := 0, locals := 0 } (va_Pc [.ref (ad 6), .int a0] (zPre G K (wX ad K sv I J B D) sz)) (va_Qi (fun (r : Int32) (u : zS) => Post r u.1 u.2.1 u.2.2.1 u.2.2.2) (fun u t => zPost G K (va_A (wX ad K sv I J B D) sz) (wX ad K sv u.1 u.2.1 u.2.2.1 u.2.2.2) t) (va_A (wX ad K sv I J B D) sz)) 0 0 (va_A (wX ad K sv I J B D) sz) := by
  refine zMet (y := zy_Tree_loopInside) (av := [.ref (ad 6), .int a0]) (maxL := 2) (cc := prog_11_method_4_code) (ret := (some .int)) (W0 := (wX ad K sv I J B D)) (sz := sz) (G := G) (K := K) (wt := zTB) (mc := 0) (ms := 0) (Qf := fun A => va_Qi (fun (r : Int32) (u : zS) => Post r u.1 u.2.1 u.2.2.1 u.2.2.2) (fun u t => zPost G K A (wX ad K sv u.1 u.2.1 u.2.2.1 u.2.2.2) t) A) (by decide) (Nat.le_of_ble_eq_true rfl) ?_
  intro p e s m below meth c ls A hx hb hr hml hts hown hlocks hin hA hK H locs hw hsz hl
  clear hsz
  have hown : s.vm.findClass "LassoFinder$Tree" = some m.cls := hown
  have C : zCx p s m ([.ref (ad 6), .int a0] : List Value).toArray meth c A G K prog_11_method_4_code (some .int) 2 "LassoFinder$Tree" := ⟨hx, hb, hr, hml, hts, hown, hlocks, hA, hK⟩
  have hl : lv_has ls 2 [(0, .ref (ad 6)), (1, .int a0)] := hl
  have hw : zW G A s.heap (wX ad K sv I J B D) H locs := hw
  unfold wp_Tree_loopInside at hok
  refine lv_iload_n hx hb zd_Tree_loopInside_0 rfl (lv_at hl 1 rfl) ?_
  refine lv_iconst (v := (-1)) hx hb zd_Tree_loopInside_1 (by decide) ?_
  refine lv_icmp_ne (tgt := 7) hx hb zd_Tree_loopInside_2 (by decide) (fun hc1 => ?_) (fun hc1 => ?_)
  · have hok := hok.1 hc1
    refine lv_aload_n hx hb zd_Tree_loopInside_7 rfl (lv_at hl 0 rfl) ?_
    refine z_get (v := .ref (ad 32)) hx hb hts hown hK hw zZ10 6 wX_g6 0 (by decide) zn_255 rfl zd_Tree_loopInside_8 ?_
    refine lv_iload_n hx hb zd_Tree_loopInside_11 rfl (lv_at hl 1 rfl) ?_
    refine va_iald (f := (B 18)) hx hb hK hw.1 32 0 wX_a32 rfl hok.1 zd_Tree_loopInside_12 ?_
    have hok := hok.2
    refine lv_topi (fun z2 ez2 => ?_)
    have hok := hok z2 ez2
    refine lv_iconst (v := 2) hx hb zd_Tree_loopInside_13 (by decide) ?_
    refine lv_icmp_ne (tgt := 21) hx hb zd_Tree_loopInside_14 (by decide) (fun hc3 => ?_) (fun hc3 => ?_)
    · have hok := hok.1 hc3
      refine lv_aload_n hx hb zd_Tree_loopInside_21 rfl (lv_at hl 0 rfl) ?_
      refine z_get (v := .ref (ad 34)) hx hb hts hown hK hw zZ10 6 wX_g6 2 (by decide) zn_257 rfl zd_Tree_loopInside_22 ?_
      refine lv_iload_n hx hb zd_Tree_loopInside_25 rfl (lv_at hl 1 rfl) ?_
      refine va_iald (f := (B 20)) hx hb hK hw.1 34 0 wX_a34 rfl hok.1 zd_Tree_loopInside_26 ?_
      have hok := hok.2
      refine lv_topi (fun z4 ez4 => ?_)
      have hok := hok z4 ez4
      exact wJ_Tree_loopInside_27 G K ad sv a0 Post C z4 I J B D ls H locs hok (lv_sub hl [] rfl) hw
    · have hok := hok.2 hc3
      refine lv_iload_n hx hb zd_Tree_loopInside_17 rfl (lv_at hl 1 rfl) ?_
      refine lv_goto (tgt := 27) hx hb zd_Tree_loopInside_18 (by decide) ?_
      exact wJ_Tree_loopInside_27 G K ad sv a0 Post C a0 I J B D ls H locs hok (lv_sub hl [] rfl) hw
  · have hok := hok.2 hc1
    refine lv_iconst (v := (-1)) hx hb zd_Tree_loopInside_5 (by decide) ?_
    exact (z_iret (u := (I, J, B, D)) hx hb hr hlocks rfl hw (List.range 65) wX_all wX_nd hok (Nat.le_of_ble_eq_true rfl) (Nat.le_of_ble_eq_true rfl) zd_Tree_loopInside_6)
def wc_Tree_atomicInside_27 (a0 : Int32) (Post : Int32 → (Nat → Int32) → (Nat → Int64) → (Nat → Nat → Int32) → (Nat → Nat → Int64) → Prop) (y0 : Int32) (I : Nat → Int32) (J : Nat → Int64) (B : Nat → Nat → Int32) (D : Nat → Nat → Int64) : Prop :=
  Post y0 I J B D
def wp_Tree_atomicInside (I : Nat → Int32) (J : Nat → Int64) (B : Nat → Nat → Int32) (D : Nat → Nat → Int64) (a0 : Int32) (Post : Int32 → (Nat → Int32) → (Nat → Int64) → (Nat → Nat → Int32) → (Nat → Nat → Int64) → Prop) : Prop :=
  ((¬ a0 = (-1) → vp_in a0 240 ∧ ∀ z2 : Int32, z2 = ((B 18) a0.toNatClampNeg) → ((¬ z2 = 3 → vp_in a0 240 ∧ ∀ z4 : Int32, z4 = ((B 21) a0.toNatClampNeg) → wc_Tree_atomicInside_27 a0 Post z4 I J B D) ∧ (z2 = 3 → wc_Tree_atomicInside_27 a0 Post a0 I J B D))) ∧ (a0 = (-1) → Post (-1) I J B D))
set_option maxHeartbeats 8000000 in
set_option maxRecDepth 100000 in
theorem wJ_Tree_atomicInside_27 {p : Program} {l : Launch} {e : Env} {s : State} {m : MethodId} {below : List Frame} {meth : Method} {c : Code} {A : Nat → Prop} (G : va_G) (K : Nat → ClassId) (ad : Nat → Nat) (sv : Value) (a0 : Int32) (Post : Int32 → (Nat → Int32) → (Nat → Int64) → (Nat → Nat → Int32) → (Nat → Nat → Int64) → Prop) (C : zCx p s m ([.ref (ad 6), .int a0] : List Value).toArray meth c A G K prog_11_method_5_code (some .int) 2 "LassoFinder$Tree") : ∀ (y0 : Int32) (I : Nat → Int32) (J : Nat → Int64) (B : Nat → Nat → Int32) (D : Nat → Nat → Int64) (ls : Array Slot) (H : Heap) (locs : List Loc), wc_Tree_atomicInside_27 a0 Post y0 I J B D → lv_has ls 2 [] → zW G A s.heap (wX ad K sv I J B D) H locs → W p l e { frames := 0, cells := 0, slots := 0, locals := 0 } s m ([.ref (ad 6), .int a0] : List Value).toArray below meth c H locs 0 0 (MQ below (va_Qi (fun (r : Int32) (u : zS) => Post r u.1 u.2.1 u.2.2.1 u.2.2.2) (fun u t => zPost G K A (wX ad K sv u.1 u.2.1 u.2.2.1 u.2.2.2) t) A) ([.ref (ad 6), .int a0] : List Value).toArray s 0 0 A) (F0 m 27 ls [.int y0]) := by
  obtain ⟨hx, hb, hr, hml, hts, hown, hlocks, hA, hK⟩ := id C
  intro y0 I J B D ls H locs hok hl hw
  unfold wc_Tree_atomicInside_27 at hok
  exact (z_iret (u := (I, J, B, D)) hx hb hr hlocks rfl hw (List.range 65) wX_all wX_nd hok (Nat.le_of_ble_eq_true rfl) (Nat.le_of_ble_eq_true rfl) zd_Tree_atomicInside_27)
set_option maxHeartbeats 8000000 in
set_option maxRecDepth 100000 in
theorem w_Tree_atomicInside (l : Launch) (G : va_G) (K : Nat → ClassId) (ad : Nat → Nat) (sv : Value) (I : Nat → Int32) (J : Nat → Int64) (B : Nat → Nat → Int32) (D : Nat → Nat → Int64) (a0 : Int32) (Post : Int32 → (Nat → Int32) → (Nat → Int64) → (Nat → Nat → Int32) → (Nat → Nat → Int64) → Prop) (sz : Nat) (hok : wp_Tree_atomicInside I J B D a0 Post) : Met l zy_Tree_atomicInside (Cond.code zy_Tree_atomicInside prog_11_method_5_code 2 (some .int) :: zTB) { frames := 0, cells := 0, slots := 0, locals := 0 } (va_Pc [.ref (ad 6), .int a0] (zPre G K (wX ad K sv I J B D) sz)) (va_Qi (fun (r : Int32) (u : zS) => Post r u.1 u.2.1 u.2.2.1 u.2.2.2) (fun u t => zPost G K (va_A (wX ad K sv I J B D) sz) (wX ad K sv u.1 u.2.1 u.2.2.1 u.2.2.2) t) (va_A (wX ad K sv I J B D) sz)) 0 0 (va_A (wX ad K sv I J B D) sz) := by
  refine zMet (y := zy_Tree_atomicInside) (av := [.ref (ad 6), .int a0]) (maxL := 2) (cc := prog_11_method_5_code) (ret := (some .int)) (W0 := (wX ad K sv I J B D)) (sz := sz) (G := G) (K := K) (wt := zTB) (mc := 0) (ms := 0) (Qf := fun A => va_Qi (fun (r : Int32) (u : zS) => Post r u.1 u.2.1 u.2.2.1 u.2.2.2) (fun u t => zPost G K A (wX ad K sv u.1 u.2.1 u.2.2.1 u.2.2.2) t) A) (by decide) (Nat.le_of_ble_eq_true rfl) ?_
  intro p e s m below meth c ls A hx hb hr hml hts hown hlocks hin hA hK H locs hw hsz hl
  clear hsz
  have hown : s.vm.findClass "LassoFinder$Tree" = some m.cls := hown
  have C : zCx p s m ([.ref (ad 6), .int a0] : List Value).toArray meth c A G K prog_11_method_5_code (some .int) 2 "LassoFinder$Tree" := ⟨hx, hb, hr, hml, hts, hown, hlocks, hA, hK⟩
  have hl : lv_has ls 2 [(0, .ref (ad 6)), (1, .int a0)] := hl
  have hw : zW G A s.heap (wX ad K sv I J B D) H locs := hw
  unfold wp_Tree_atomicInside at hok
  refine lv_iload_n hx hb zd_Tree_atomicInside_0 rfl (lv_at hl 1 rfl) ?_
  refine lv_iconst (v := (-1)) hx hb zd_Tree_atomicInside_1 (by decide) ?_
  refine lv_icmp_ne (tgt := 7) hx hb zd_Tree_atomicInside_2 (by decide) (fun hc1 => ?_) (fun hc1 => ?_)
  · have hok := hok.1 hc1
    refine lv_aload_n hx hb zd_Tree_atomicInside_7 rfl (lv_at hl 0 rfl) ?_
    refine z_get (v := .ref (ad 32)) hx hb hts hown hK hw zZ10 6 wX_g6 0 (by decide) zn_255 rfl zd_Tree_atomicInside_8 ?_
    refine lv_iload_n hx hb zd_Tree_atomicInside_11 rfl (lv_at hl 1 rfl) ?_
    refine va_iald (f := (B 18)) hx hb hK hw.1 32 0 wX_a32 rfl hok.1 zd_Tree_atomicInside_12 ?_
    have hok := hok.2
    refine lv_topi (fun z2 ez2 => ?_)
    have hok := hok z2 ez2
    refine lv_iconst (v := 3) hx hb zd_Tree_atomicInside_13 (by decide) ?_
    refine lv_icmp_ne (tgt := 21) hx hb zd_Tree_atomicInside_14 (by decide) (fun hc3 => ?_) (fun hc3 => ?_)
    · have hok := hok.1 hc3
      refine lv_aload_n hx hb zd_Tree_atomicInside_21 rfl (lv_at hl 0 rfl) ?_
      refine z_get (v := .ref (ad 35)) hx hb hts hown hK hw zZ10 6 wX_g6 3 (by decide) zn_258 rfl zd_Tree_atomicInside_22 ?_
      refine lv_iload_n hx hb zd_Tree_atomicInside_25 rfl (lv_at hl 1 rfl) ?_
      refine va_iald (f := (B 21)) hx hb hK hw.1 35 0 wX_a35 rfl hok.1 zd_Tree_atomicInside_26 ?_
      have hok := hok.2
      refine lv_topi (fun z4 ez4 => ?_)
      have hok := hok z4 ez4
      exact wJ_Tree_atomicInside_27 G K ad sv a0 Post C z4 I J B D ls H locs hok (lv_sub hl [] rfl) hw
    · have hok := hok.2 hc3
      refine lv_iload_n hx hb zd_Tree_atomicInside_17 rfl (lv_at hl 1 rfl) ?_
      refine lv_goto (tgt := 27) hx hb zd_Tree_atomicInside_18 (by decide) ?_
      exact wJ_Tree_atomicInside_27 G K ad sv a0 Post C a0 I J B D ls H locs hok (lv_sub hl [] rfl) hw
  · have hok := hok.2 hc1
    refine lv_iconst (v := (-1)) hx hb zd_Tree_atomicInside_5 (by decide) ?_
    exact (z_iret (u := (I, J, B, D)) hx hb hr hlocks rfl hw (List.range 65) wX_all wX_nd hok (Nat.le_of_ble_eq_true rfl) (Nat.le_of_ble_eq_true rfl) zd_Tree_atomicInside_6)
def wc_Tree_add_144 (a0 : Int32) (a1 : Int32) (a2 : Int32) (Post : Int32 → (Nat → Int32) → (Nat → Int64) → (Nat → Nat → Int32) → (Nat → Nat → Int64) → Prop) (x4 : Int32) (I : Nat → Int32) (J : Nat → Int64) (B : Nat → Nat → Int32) (D : Nat → Nat → Int64) : Prop :=
  Post x4 I J B D
def wc_Tree_add_118 (a0 : Int32) (a1 : Int32) (a2 : Int32) (Post : Int32 → (Nat → Int32) → (Nat → Int64) → (Nat → Nat → Int32) → (Nat → Nat → Int64) → Prop) (x1 : Int32) (x4 : Int32) (I : Nat → Int32) (J : Nat → Int64) (B : Nat → Nat → Int32) (D : Nat → Nat → Int64) : Prop :=
  (((2 : Int32) < x1 → wc_Tree_add_144 a0 a1 a2 Post x4 I J B D) ∧ (¬ (2 : Int32) < x1 → vp_in x4 240 ∧ ∀ z2 : Int32, z2 = ((I 17) + 1) → wc_Tree_add_144 a0 a1 a2 Post x4 (upd I 17 z2) J (va_up B 25 (upd (B 25) x4.toNatClampNeg (I 17))) D))
def wc_Tree_add_72 (a0 : Int32) (a1 : Int32) (a2 : Int32) (Post : Int32 → (Nat → Int32) → (Nat → Int64) → (Nat → Nat → Int32) → (Nat → Nat → Int64) → Prop) (x1 : Int32) (x2 : Int32) (x3 : Int32) (x4 : Int32) (y0 : Int32) (y1 : Int32) (I : Nat → Int32) (J : Nat → Int64) (B : Nat → Nat → Int32) (D : Nat → Nat → Int64) : Prop :=
  vp_in y1 240 ∧ vp_in x4 240 ∧ vp_in x4 240 ∧ ((x3 = (-1) → ((x2 = (-1) → wc_Tree_add_118 a0 a1 a2 Post x1 x4 I J (va_up (va_up (va_up B 22 (upd (B 22) y1.toNatClampNeg (vp_nar .boolean y0))) 23 (upd (B 23) x4.toNatClampNeg (-1))) 25 (upd (B 25) x4.toNatClampNeg (-1))) D) ∧ (¬ x2 = (-1) → vp_in x2 240 ∧ wc_Tree_add_118 a0 a1 a2 Post x1 x4 I J (va_up (va_up (va_up (va_up B 22 (upd (B 22) y1.toNatClampNeg (vp_nar .boolean y0))) 23 (upd (B 23) x4.toNatClampNeg (-1))) 25 (upd (B 25) x4.toNatClampNeg (-1))) 24 (upd (B 24) x2.toNatClampNeg x4)) D))) ∧ (¬ x3 = (-1) → vp_in x3 240 ∧ wc_Tree_add_118 a0 a1 a2 Post x1 x4 I J (va_up (va_up (va_up (va_up B 22 (upd (B 22) y1.toNatClampNeg (vp_nar .boolean y0))) 23 (upd (B 23) x4.toNatClampNeg (-1))) 25 (upd (B 25) x4.toNatClampNeg (-1))) 23 (upd (upd (B 23) x4.toNatClampNeg (-1)) x3.toNatClampNeg x4)) D))
def wp_Tree_add (I : Nat → Int32) (J : Nat → Int64) (B : Nat → Nat → Int32) (D : Nat → Nat → Int64) (a0 : Int32) (a1 : Int32) (a2 : Int32) (Post : Int32 → (Nat → Int32) → (Nat → Int64) → (Nat → Nat → Int32) → (Nat → Nat → Int64) → Prop) : Prop :=
  ∀ z5 : Int32, z5 = ((I 16) + 1) → vp_in (I 16) 240 ∧ vp_in (I 16) 240 ∧ wp_Tree_loopInside (upd I 16 z5) J (va_up (va_up B 18 (upd (B 18) (I 16).toNatClampNeg a0)) 19 (upd (B 19) (I 16).toNatClampNeg a1)) D a1 (fun r6 I6 J6 B6 D6 => vp_in (I 16) 240 ∧ wp_Tree_atomicInside I6 J6 (va_up B6 20 (upd (B6 20) (I 16).toNatClampNeg r6)) D6 a1 (fun r7 I7 J7 B7 D7 => vp_in (I 16) 240 ∧ ((¬ a2 = (-1) → wc_Tree_add_72 a0 a1 a2 Post a0 a1 a2 (I 16) 0 (I 16) I7 J7 (va_up B7 21 (upd (B7 21) (I 16).toNatClampNeg r7)) D7) ∧ (a2 = (-1) → wc_Tree_add_72 a0 a1 a2 Post a0 a1 a2 (I 16) 1 (I 16) I7 J7 (va_up B7 21 (upd (B7 21) (I 16).toNatClampNeg r7)) D7))))
set_option maxHeartbeats 8000000 in
set_option maxRecDepth 100000 in
theorem wJ_Tree_add_144 {p : Program} {l : Launch} {e : Env} {s : State} {m : MethodId} {below : List Frame} {meth : Method} {c : Code} {A : Nat → Prop} (G : va_G) (K : Nat → ClassId) (ad : Nat → Nat) (sv : Value) (a0 : Int32) (a1 : Int32) (a2 : Int32) (Post : Int32 → (Nat → Int32) → (Nat → Int64) → (Nat → Nat → Int32) → (Nat → Nat → Int64) → Prop) (C : zCx p s m ([.ref (ad 6), .int a0, .int a1, .int a2] : List Value).toArray meth c A G K prog_11_method_3_code (some .int) 5 "LassoFinder$Tree") : ∀ (x4 : Int32) (I : Nat → Int32) (J : Nat → Int64) (B : Nat → Nat → Int32) (D : Nat → Nat → Int64) (ls : Array Slot) (H : Heap) (locs : List Loc), wc_Tree_add_144 a0 a1 a2 Post x4 I J B D → lv_has ls 5 [(4, .int x4)] → zW G A s.heap (wX ad K sv I J B D) H locs → W p l e { frames := 1, cells := 0, slots := 0, locals := 21 } s m ([.ref (ad 6), .int a0, .int a1, .int a2] : List Value).toArray below meth c H locs 0 0 (MQ below (va_Qi (fun (r : Int32) (u : zS) => Post r u.1 u.2.1 u.2.2.1 u.2.2.2) (fun u t => zPost G K A (wX ad K sv u.1 u.2.1 u.2.2.1 u.2.2.2) t) A) ([.ref (ad 6), .int a0, .int a1, .int a2] : List Value).toArray s 0 0 A) (F0 m 144 ls []) := by
  obtain ⟨hx, hb, hr, hml, hts, hown, hlocks, hA, hK⟩ := id C
  intro x4 I J B D ls H locs hok hl hw
  unfold wc_Tree_add_144 at hok
  refine lv_iload hx hb zd_Tree_add_144 (lv_at hl 0 rfl) ?_
  exact (z_iret (u := (I, J, B, D)) hx hb hr hlocks rfl hw (List.range 65) wX_all wX_nd hok (Nat.le_of_ble_eq_true rfl) (Nat.le_of_ble_eq_true rfl) zd_Tree_add_146)
set_option maxHeartbeats 8000000 in
set_option maxRecDepth 100000 in
theorem wJ_Tree_add_118 {p : Program} {l : Launch} {e : Env} {s : State} {m : MethodId} {below : List Frame} {meth : Method} {c : Code} {A : Nat → Prop} (G : va_G) (K : Nat → ClassId) (ad : Nat → Nat) (sv : Value) (a0 : Int32) (a1 : Int32) (a2 : Int32) (Post : Int32 → (Nat → Int32) → (Nat → Int64) → (Nat → Nat → Int32) → (Nat → Nat → Int64) → Prop) (C : zCx p s m ([.ref (ad 6), .int a0, .int a1, .int a2] : List Value).toArray meth c A G K prog_11_method_3_code (some .int) 5 "LassoFinder$Tree") : ∀ (x1 : Int32) (x4 : Int32) (I : Nat → Int32) (J : Nat → Int64) (B : Nat → Nat → Int32) (D : Nat → Nat → Int64) (ls : Array Slot) (H : Heap) (locs : List Loc), wc_Tree_add_118 a0 a1 a2 Post x1 x4 I J B D → lv_has ls 5 [(0, .ref (ad 6)), (1, .int x1), (4, .int x4)] → zW G A s.heap (wX ad K sv I J B D) H locs → W p l e { frames := 1, cells := 0, slots := 0, locals := 21 } s m ([.ref (ad 6), .int a0, .int a1, .int a2] : List Value).toArray below meth c H locs 0 0 (MQ below (va_Qi (fun (r : Int32) (u : zS) => Post r u.1 u.2.1 u.2.2.1 u.2.2.2) (fun u t => zPost G K A (wX ad K sv u.1 u.2.1 u.2.2.1 u.2.2.2) t) A) ([.ref (ad 6), .int a0, .int a1, .int a2] : List Value).toArray s 0 0 A) (F0 m 118 ls []) := by
  obtain ⟨hx, hb, hr, hml, hts, hown, hlocks, hA, hK⟩ := id C
  intro x1 x4 I J B D ls H locs hok hl hw
  unfold wc_Tree_add_118 at hok
  refine lv_iload_n hx hb zd_Tree_add_118 rfl (lv_at hl 1 rfl) ?_
  refine lv_iconst (v := 2) hx hb zd_Tree_add_119 (by decide) ?_
  refine lv_icmp_gt (tgt := 144) hx hb zd_Tree_add_120 (by decide) (fun hc1 => ?_) (fun hc1 => ?_)
  · have hok := hok.1 hc1
    exact wJ_Tree_add_144 G K ad sv a0 a1 a2 Post C x4 I J B D ls H locs hok (lv_sub hl [2] rfl) hw
  · have hok := hok.2 hc1
    refine lv_aload_n hx hb zd_Tree_add_123 rfl (lv_at hl 0 rfl) ?_
    refine z_get (v := .ref (ad 39)) hx hb hts hown hK hw zZ10 6 wX_g6 7 (by decide) zn_262 rfl zd_Tree_add_124 ?_
    refine lv_iload hx hb zd_Tree_add_127 (lv_at hl 2 rfl) ?_
    refine lv_aload_n hx hb zd_Tree_add_129 rfl (lv_at hl 0 rfl) ?_
    refine z_get (v := .int (I 17)) hx hb hts hown hK hw zZ10 6 wX_g6 12 (by decide) zn_426 rfl zd_Tree_add_130 ?_
    refine va_iast (f := (B 25)) hx hb hK hw.1 hw.2.1 hw.2.2 39 0 wX_a39 rfl hok.1 zd_Tree_add_133 (fun H locs w91 w92 w93 => ?_)
    have hok := hok.2
    have hw := wX_t39 ⟨w91, w92, w93⟩
    refine lv_aload_n hx hb zd_Tree_add_134 rfl (lv_at hl 0 rfl) ?_
    refine lv_dup hx hb zd_Tree_add_135 rfl ?_
    refine z_get (v := .int (I 17)) hx hb hts hown hK hw zZ10 6 wX_g6 12 (by decide) zn_426 rfl zd_Tree_add_136 ?_
    refine lv_iconst (v := 1) hx hb zd_Tree_add_139 (by decide) ?_
    refine lv_iadd hx hb zd_Tree_add_140 ?_
    refine lv_topi (fun z2 ez2 => ?_)
    have hok := hok z2 ez2
    refine z_put (v := .int z2) hx hb hts hown hK hw zZ10 6 wX_g6 12 (by decide) zn_426 rfl rfl rfl (Nat.le_of_ble_eq_true rfl) zd_Tree_add_141 (fun H locs hw => ?_)
    have hw := wX_sI17 hw
    exact wJ_Tree_add_144 G K ad sv a0 a1 a2 Post C x4 (upd I 17 z2) J (va_up B 25 (upd (B 25) x4.toNatClampNeg (I 17))) D ls H locs hok (lv_sub hl [2] rfl) hw
set_option maxHeartbeats 8000000 in
set_option maxRecDepth 100000 in
theorem wJ_Tree_add_72 {p : Program} {l : Launch} {e : Env} {s : State} {m : MethodId} {below : List Frame} {meth : Method} {c : Code} {A : Nat → Prop} (G : va_G) (K : Nat → ClassId) (ad : Nat → Nat) (sv : Value) (a0 : Int32) (a1 : Int32) (a2 : Int32) (Post : Int32 → (Nat → Int32) → (Nat → Int64) → (Nat → Nat → Int32) → (Nat → Nat → Int64) → Prop) (C : zCx p s m ([.ref (ad 6), .int a0, .int a1, .int a2] : List Value).toArray meth c A G K prog_11_method_3_code (some .int) 5 "LassoFinder$Tree") : ∀ (x1 : Int32) (x2 : Int32) (x3 : Int32) (x4 : Int32) (y0 : Int32) (y1 : Int32) (I : Nat → Int32) (J : Nat → Int64) (B : Nat → Nat → Int32) (D : Nat → Nat → Int64) (ls : Array Slot) (H : Heap) (locs : List Loc), wc_Tree_add_72 a0 a1 a2 Post x1 x2 x3 x4 y0 y1 I J B D → lv_has ls 5 [(0, .ref (ad 6)), (1, .int x1), (2, .int x2), (3, .int x3), (4, .int x4)] → zW G A s.heap (wX ad K sv I J B D) H locs → W p l e { frames := 1, cells := 0, slots := 0, locals := 21 } s m ([.ref (ad 6), .int a0, .int a1, .int a2] : List Value).toArray below meth c H locs 0 0 (MQ below (va_Qi (fun (r : Int32) (u : zS) => Post r u.1 u.2.1 u.2.2.1 u.2.2.2) (fun u t => zPost G K A (wX ad K sv u.1 u.2.1 u.2.2.1 u.2.2.2) t) A) ([.ref (ad 6), .int a0, .int a1, .int a2] : List Value).toArray s 0 0 A) (F0 m 72 ls [.int y0, .int y1, .ref (ad 36)]) := by
  obtain ⟨hx, hb, hr, hml, hts, hown, hlocks, hA, hK⟩ := id C
  intro x1 x2 x3 x4 y0 y1 I J B D ls H locs hok hl hw
  unfold wc_Tree_add_72 at hok
  refine va_zast (f := (B 22)) hx hb hK hw.1 hw.2.1 hw.2.2 36 2 wX_a36 rfl hok.1 zd_Tree_add_72 (fun H locs w91 w92 w93 => ?_)
  have hok := hok.2
  have hw := wX_t36 ⟨w91, w92, w93⟩
  refine lv_aload_n hx hb zd_Tree_add_73 rfl (lv_at hl 0 rfl) ?_
  refine z_get (v := .ref (ad 37)) hx hb hts hown hK hw zZ10 6 wX_g6 5 (by decide) zn_260 rfl zd_Tree_add_74 ?_
  refine lv_iload hx hb zd_Tree_add_77 (lv_at hl 4 rfl) ?_
  refine lv_iconst (v := (-1)) hx hb zd_Tree_add_79 (by decide) ?_
  refine va_iast (f := (B 23)) hx hb hK hw.1 hw.2.1 hw.2.2 37 0 wX_a37 rfl hok.1 zd_Tree_add_80 (fun H locs w91 w92 w93 => ?_)
  have hok := hok.2
  have hw := wX_t37 ⟨w91, w92, w93⟩
  refine lv_aload_n hx hb zd_Tree_add_81 rfl (lv_at hl 0 rfl) ?_
  refine z_get (v := .ref (ad 39)) hx hb hts hown hK hw zZ10 6 wX_g6 7 (by decide) zn_262 rfl zd_Tree_add_82 ?_
  refine lv_iload hx hb zd_Tree_add_85 (lv_at hl 4 rfl) ?_
  refine lv_iconst (v := (-1)) hx hb zd_Tree_add_87 (by decide) ?_
  refine va_iast (f := (B 25)) hx hb hK hw.1 hw.2.1 hw.2.2 39 0 wX_a39 rfl hok.1 zd_Tree_add_88 (fun H locs w91 w92 w93 => ?_)
  have hok := hok.2
  have hw := wX_t39 ⟨w91, w92, w93⟩
  refine lv_iload_n hx hb zd_Tree_add_89 rfl (lv_at hl 3 rfl) ?_
  refine lv_iconst (v := (-1)) hx hb zd_Tree_add_90 (by decide) ?_
  refine lv_icmp_eq (tgt := 105) hx hb zd_Tree_add_91 (by decide) (fun hc3 => ?_) (fun hc3 => ?_)
  · have hok := hok.1 hc3
    refine lv_iload_n hx hb zd_Tree_add_105 rfl (lv_at hl 2 rfl) ?_
    refine lv_iconst (v := (-1)) hx hb zd_Tree_add_106 (by decide) ?_
    refine lv_icmp_eq (tgt := 118) hx hb zd_Tree_add_107 (by decide) (fun hc4 => ?_) (fun hc4 => ?_)
    · have hok := hok.1 hc4
      exact wJ_Tree_add_118 G K ad sv a0 a1 a2 Post C x1 x4 I J (va_up (va_up (va_up B 22 (upd (B 22) y1.toNatClampNeg (vp_nar .boolean y0))) 23 (upd (B 23) x4.toNatClampNeg (-1))) 25 (upd (B 25) x4.toNatClampNeg (-1))) D ls H locs hok (lv_sub hl [0, 1, 4] rfl) hw
    · have hok := hok.2 hc4
      refine lv_aload_n hx hb zd_Tree_add_110 rfl (lv_at hl 0 rfl) ?_
      refine z_get (v := .ref (ad 38)) hx hb hts hown hK hw zZ10 6 wX_g6 6 (by decide) zn_261 rfl zd_Tree_add_111 ?_
      refine lv_iload_n hx hb zd_Tree_add_114 rfl (lv_at hl 2 rfl) ?_
      refine lv_iload hx hb zd_Tree_add_115 (lv_at hl 4 rfl) ?_
      refine va_iast (f := (B 24)) hx hb hK hw.1 hw.2.1 hw.2.2 38 0 wX_a38 rfl hok.1 zd_Tree_add_117 (fun H locs w91 w92 w93 => ?_)
      have hok := hok.2
      have hw := wX_t38 ⟨w91, w92, w93⟩
      exact wJ_Tree_add_118 G K ad sv a0 a1 a2 Post C x1 x4 I J (va_up (va_up (va_up (va_up B 22 (upd (B 22) y1.toNatClampNeg (vp_nar .boolean y0))) 23 (upd (B 23) x4.toNatClampNeg (-1))) 25 (upd (B 25) x4.toNatClampNeg (-1))) 24 (upd (B 24) x2.toNatClampNeg x4)) D ls H locs hok (lv_sub hl [0, 1, 4] rfl) hw
  · have hok := hok.2 hc3
    refine lv_aload_n hx hb zd_Tree_add_94 rfl (lv_at hl 0 rfl) ?_
    refine z_get (v := .ref (ad 37)) hx hb hts hown hK hw zZ10 6 wX_g6 5 (by decide) zn_260 rfl zd_Tree_add_95 ?_
    refine lv_iload_n hx hb zd_Tree_add_98 rfl (lv_at hl 3 rfl) ?_
    refine lv_iload hx hb zd_Tree_add_99 (lv_at hl 4 rfl) ?_
    refine va_iast (f := (upd (B 23) x4.toNatClampNeg (-1))) hx hb hK hw.1 hw.2.1 hw.2.2 37 0 wX_a37 rfl hok.1 zd_Tree_add_101 (fun H locs w91 w92 w93 => ?_)
    have hok := hok.2
    have hw := wX_t37 ⟨w91, w92, w93⟩
    refine lv_goto (tgt := 118) hx hb zd_Tree_add_102 (by decide) ?_
    exact wJ_Tree_add_118 G K ad sv a0 a1 a2 Post C x1 x4 I J (va_up (va_up (va_up (va_up B 22 (upd (B 22) y1.toNatClampNeg (vp_nar .boolean y0))) 23 (upd (B 23) x4.toNatClampNeg (-1))) 25 (upd (B 25) x4.toNatClampNeg (-1))) 23 (upd (upd (B 23) x4.toNatClampNeg (-1)) x3.toNatClampNeg x4)) D ls H locs hok (lv_sub hl [0, 1, 4] rfl) hw
set_option maxHeartbeats 8000000 in
set_option maxRecDepth 100000 in
theorem w_Tree_add (l : Launch) (G : va_G) (K : Nat → ClassId) (ad : Nat → Nat) (sv : Value) (I : Nat → Int32) (J : Nat → Int64) (B : Nat → Nat → Int32) (D : Nat → Nat → Int64) (a0 : Int32) (a1 : Int32) (a2 : Int32) (Post : Int32 → (Nat → Int32) → (Nat → Int64) → (Nat → Nat → Int32) → (Nat → Nat → Int64) → Prop) (sz : Nat) (hok : wp_Tree_add I J B D a0 a1 a2 Post) : Met l zy_Tree_add (Cond.code zy_Tree_add prog_11_method_3_code 5 (some .int) :: zTB) { frames := 1, cells := 0, slots := 0, locals := 21 } (va_Pc [.ref (ad 6), .int a0, .int a1, .int a2] (zPre G K (wX ad K sv I J B D) sz)) (va_Qi (fun (r : Int32) (u : zS) => Post r u.1 u.2.1 u.2.2.1 u.2.2.2) (fun u t => zPost G K (va_A (wX ad K sv I J B D) sz) (wX ad K sv u.1 u.2.1 u.2.2.1 u.2.2.2) t) (va_A (wX ad K sv I J B D) sz)) 0 0 (va_A (wX ad K sv I J B D) sz) := by
  refine zMet (y := zy_Tree_add) (av := [.ref (ad 6), .int a0, .int a1, .int a2]) (maxL := 5) (cc := prog_11_method_3_code) (ret := (some .int)) (W0 := (wX ad K sv I J B D)) (sz := sz) (G := G) (K := K) (wt := zTB) (mc := 0) (ms := 0) (Qf := fun A => va_Qi (fun (r : Int32) (u : zS) => Post r u.1 u.2.1 u.2.2.1 u.2.2.2) (fun u t => zPost G K A (wX ad K sv u.1 u.2.1 u.2.2.1 u.2.2.2) t) A) (by decide) (Nat.le_of_ble_eq_true rfl) ?_
  intro p e s m below meth c ls A hx hb hr hml hts hown hlocks hin hA hK H locs hw hsz hl
  clear hsz
  have hown : s.vm.findClass "LassoFinder$Tree" = some m.cls := hown
  have C : zCx p s m ([.ref (ad 6), .int a0, .int a1, .int a2] : List Value).toArray meth c A G K prog_11_method_3_code (some .int) 5 "LassoFinder$Tree" := ⟨hx, hb, hr, hml, hts, hown, hlocks, hA, hK⟩
  have hl : lv_has ls 5 [(0, .ref (ad 6)), (1, .int a0), (2, .int a1), (3, .int a2)] := hl
  have hw : zW G A s.heap (wX ad K sv I J B D) H locs := hw
  unfold wp_Tree_add at hok
  refine lv_aload_n hx hb zd_Tree_add_0 rfl (lv_at hl 0 rfl) ?_
  refine z_get (v := .int (I 16)) hx hb hts hown hK hw zZ10 6 wX_g6 11 (by decide) zn_425 rfl zd_Tree_add_1 ?_
  refine lv_istore hx hb zd_Tree_add_4 hl (by decide) rfl (fun ls hl => ?_)
  have hl : lv_has ls 5 [(4, .int (I 16)), (0, .ref (ad 6)), (1, .int a0), (2, .int a1), (3, .int a2)] := hl
  refine lv_aload_n hx hb zd_Tree_add_6 rfl (lv_at hl 1 rfl) ?_
  refine lv_dup hx hb zd_Tree_add_7 rfl ?_
  refine z_get (v := .int (I 16)) hx hb hts hown hK hw zZ10 6 wX_g6 11 (by decide) zn_425 rfl zd_Tree_add_8 ?_
  refine lv_iconst (v := 1) hx hb zd_Tree_add_11 (by decide) ?_
  refine lv_iadd hx hb zd_Tree_add_12 ?_
  refine lv_topi (fun z5 ez5 => ?_)
  have hok := hok z5 ez5
  refine z_put (v := .int z5) hx hb hts hown hK hw zZ10 6 wX_g6 11 (by decide) zn_425 rfl rfl rfl (Nat.le_of_ble_eq_true rfl) zd_Tree_add_13 (fun H locs hw => ?_)
  have hw := wX_sI16 hw
  refine lv_aload_n hx hb zd_Tree_add_16 rfl (lv_at hl 1 rfl) ?_
  refine z_get (v := .ref (ad 32)) hx hb hts hown hK hw zZ10 6 wX_g6 0 (by decide) zn_255 rfl zd_Tree_add_17 ?_
  refine lv_iload hx hb zd_Tree_add_20 (lv_at hl 0 rfl) ?_
  refine lv_iload_n hx hb zd_Tree_add_22 rfl (lv_at hl 2 rfl) ?_
  refine va_iast (f := (B 18)) hx hb hK hw.1 hw.2.1 hw.2.2 32 0 wX_a32 rfl hok.1 zd_Tree_add_23 (fun H locs w91 w92 w93 => ?_)
  have hok := hok.2
  have hw := wX_t32 ⟨w91, w92, w93⟩
  refine lv_aload_n hx hb zd_Tree_add_24 rfl (lv_at hl 1 rfl) ?_
  refine z_get (v := .ref (ad 33)) hx hb hts hown hK hw zZ10 6 wX_g6 1 (by decide) zn_256 rfl zd_Tree_add_25 ?_
  refine lv_iload hx hb zd_Tree_add_28 (lv_at hl 0 rfl) ?_
  refine lv_iload_n hx hb zd_Tree_add_30 rfl (lv_at hl 3 rfl) ?_
  refine va_iast (f := (B 19)) hx hb hK hw.1 hw.2.1 hw.2.2 33 0 wX_a33 rfl hok.1 zd_Tree_add_31 (fun H locs w91 w92 w93 => ?_)
  have hok := hok.2
  have hw := wX_t33 ⟨w91, w92, w93⟩
  refine lv_aload_n hx hb zd_Tree_add_32 rfl (lv_at hl 1 rfl) ?_
  refine z_get (v := .ref (ad 34)) hx hb hts hown hK hw zZ10 6 wX_g6 2 (by decide) zn_257 rfl zd_Tree_add_33 ?_
  refine lv_iload hx hb zd_Tree_add_36 (lv_at hl 0 rfl) ?_
  refine lv_aload_n hx hb zd_Tree_add_38 rfl (lv_at hl 1 rfl) ?_
  refine lv_iload_n hx hb zd_Tree_add_39 rfl (lv_at hl 3 rfl) ?_
  refine z_calli (w1 := fun (u : zS) => wX ad K sv u.1 u.2.1 u.2.2.1 u.2.2.2) (wr := []) (z_runV (q0 := 6) (wc := (wX ad K sv (upd I 16 z5) J (va_up (va_up B 18 (upd (B 18) (I 16).toNatClampNeg a0)) 19 (upd (B 19) (I 16).toNatClampNeg a1)) D)) (As := [.int a1]) (rest := [.int (I 16), .ref (ad 34)]) ⟨hx, hb, hml, hown, hts⟩ (w_Tree_loopInside l G K ad sv (upd I 16 z5) J (va_up (va_up B 18 (upd (B 18) (I 16).toNatClampNeg a0)) 19 (upd (B 19) (I 16).toNatClampNeg a1)) D a1 _ H.size hok) zf_Tree_loopInside zn_351 ⟨Nat.le_of_ble_eq_true rfl, Nat.le_of_ble_eq_true rfl⟩ hK hw (List.range 65) wX_all wX_nd wX_g6 rfl rfl hl.1 rfl (Nat.le_of_ble_eq_true rfl) zd_Tree_add_40 ⟨Nat.le_of_ble_eq_true rfl, Nat.le_of_ble_eq_true rfl⟩) hw hA (List.range 65) [] wX_all rfl (by decide) (fun i hi => by cases hi) (fun r6 u H locs hok hw => ?_)
  obtain ⟨I6, J6, B6, D6⟩ := u
  dsimp only at hok
  have hw : zW G A s.heap (wX ad K sv I6 J6 B6 D6) H locs := hw
  refine va_iast (f := (B6 20)) hx hb hK hw.1 hw.2.1 hw.2.2 34 0 wX_a34 rfl hok.1 zd_Tree_add_43 (fun H locs w91 w92 w93 => ?_)
  have hok := hok.2
  have hw := wX_t34 ⟨w91, w92, w93⟩
  refine lv_aload_n hx hb zd_Tree_add_44 rfl (lv_at hl 1 rfl) ?_
  refine z_get (v := .ref (ad 35)) hx hb hts hown hK hw zZ10 6 wX_g6 3 (by decide) zn_258 rfl zd_Tree_add_45 ?_
  refine lv_iload hx hb zd_Tree_add_48 (lv_at hl 0 rfl) ?_
  refine lv_aload_n hx hb zd_Tree_add_50 rfl (lv_at hl 1 rfl) ?_
  refine lv_iload_n hx hb zd_Tree_add_51 rfl (lv_at hl 3 rfl) ?_
  refine z_calli (w1 := fun (u : zS) => wX ad K sv u.1 u.2.1 u.2.2.1 u.2.2.2) (wr := []) (z_runV (q0 := 6) (wc := (wX ad K sv I6 J6 (va_up B6 20 (upd (B6 20) (I 16).toNatClampNeg r6)) D6)) (As := [.int a1]) (rest := [.int (I 16), .ref (ad 35)]) ⟨hx, hb, hml, hown, hts⟩ (w_Tree_atomicInside l G K ad sv I6 J6 (va_up B6 20 (upd (B6 20) (I 16).toNatClampNeg r6)) D6 a1 _ H.size hok) zf_Tree_atomicInside zn_352 ⟨Nat.le_of_ble_eq_true rfl, Nat.le_of_ble_eq_true rfl⟩ hK hw (List.range 65) wX_all wX_nd wX_g6 rfl rfl hl.1 rfl (Nat.le_of_ble_eq_true rfl) zd_Tree_add_52 ⟨Nat.le_of_ble_eq_true rfl, Nat.le_of_ble_eq_true rfl⟩) hw hA (List.range 65) [] wX_all rfl (by decide) (fun i hi => by cases hi) (fun r7 u H locs hok hw => ?_)
  obtain ⟨I7, J7, B7, D7⟩ := u
  dsimp only at hok
  have hw : zW G A s.heap (wX ad K sv I7 J7 B7 D7) H locs := hw
  refine va_iast (f := (B7 21)) hx hb hK hw.1 hw.2.1 hw.2.2 35 0 wX_a35 rfl hok.1 zd_Tree_add_55 (fun H locs w91 w92 w93 => ?_)
  have hok := hok.2
  have hw := wX_t35 ⟨w91, w92, w93⟩
  refine lv_aload_n hx hb zd_Tree_add_56 rfl (lv_at hl 1 rfl) ?_
  refine z_get (v := .ref (ad 36)) hx hb hts hown hK hw zZ10 6 wX_g6 4 (by decide) zn_259 rfl zd_Tree_add_57 ?_
  refine lv_iload hx hb zd_Tree_add_60 (lv_at hl 0 rfl) ?_
  refine lv_iload_n hx hb zd_Tree_add_62 rfl (lv_at hl 4 rfl) ?_
  refine lv_iconst (v := (-1)) hx hb zd_Tree_add_63 (by decide) ?_
  refine lv_icmp_ne (tgt := 71) hx hb zd_Tree_add_64 (by decide) (fun hc8 => ?_) (fun hc8 => ?_)
  · have hok := hok.1 hc8
    refine lv_iconst (v := 0) hx hb zd_Tree_add_71 (by decide) ?_
    exact wJ_Tree_add_72 G K ad sv a0 a1 a2 Post C a0 a1 a2 (I 16) 0 (I 16) I7 J7 (va_up B7 21 (upd (B7 21) (I 16).toNatClampNeg r7)) D7 ls H locs hok (lv_sub hl [1, 2, 3, 4, 0] rfl) hw
  · have hok := hok.2 hc8
    refine lv_iconst (v := 1) hx hb zd_Tree_add_67 (by decide) ?_
    refine lv_goto (tgt := 72) hx hb zd_Tree_add_68 (by decide) ?_
    exact wJ_Tree_add_72 G K ad sv a0 a1 a2 Post C a0 a1 a2 (I 16) 1 (I 16) I7 J7 (va_up B7 21 (upd (B7 21) (I 16).toNatClampNeg r7)) D7 ls H locs hok (lv_sub hl [1, 2, 3, 4, 0] rfl) hw
def wc_Terms_release_A_89 (a0 : Int32) (Post : (Nat → Int32) → (Nat → Int64) → (Nat → Nat → Int32) → (Nat → Nat → Int64) → Prop) (PX : String → (Nat → Int32) → (Nat → Int64) → (Nat → Nat → Int32) → (Nat → Nat → Int64) → Prop)  (I : Nat → Int32) (J : Nat → Int64) (B : Nat → Nat → Int32) (D : Nat → Nat → Int64) : Prop :=
  Post I J B D
def wc_Terms_release_A_52 (a0 : Int32) (Post : (Nat → Int32) → (Nat → Int64) → (Nat → Nat → Int32) → (Nat → Nat → Int64) → Prop) (PX : String → (Nat → Int32) → (Nat → Int64) → (Nat → Nat → Int32) → (Nat → Nat → Int64) → Prop)  (I : Nat → Int32) (J : Nat → Int64) (B : Nat → Nat → Int32) (D : Nat → Nat → Int64) : Prop :=
  Post I J B D
def wb_Terms_release_A_2 (a0 : Int32) (K2 : Int32 → Int32 → (Nat → Int32) → (Nat → Int64) → (Nat → Nat → Int32) → (Nat → Nat → Int64) → Prop) (Post : (Nat → Int32) → (Nat → Int64) → (Nat → Nat → Int32) → (Nat → Nat → Int64) → Prop) (PX : String → (Nat → Int32) → (Nat → Int64) → (Nat → Nat → Int32) → (Nat → Nat → Int64) → Prop) (x1 : Int32) (x2 : Int32) (I : Nat → Int32) (J : Nat → Int64) (B : Nat → Nat → Int32) (D : Nat → Nat → Int64) : Prop :=
  (((20 : Int32) ≤ x2 → wc_Terms_release_A_89 a0 Post PX I J B D) ∧ (¬ (20 : Int32) ≤ x2 → (((I 12) ≤ 0 → wc_Terms_release_A_89 a0 Post PX I J B D) ∧ (¬ (I 12) ≤ 0 → ∀ z3 : Int32, z3 = ((I 12) - 1) → vp_in z3 20 ∧ ∀ z4 : Int32, z4 = ((B 16) z3.toNatClampNeg) → ((z4 = 21 → wc_Terms_release_A_52 a0 Post PX I J B D) ∧ (¬ z4 = 21 → ∀ z7 : Int32, z7 = (z4 - 16) → vp_in z7 5 ∧ ∀ z8 : Int32, z8 = (zStr z7.toNatClampNeg) → ∀ z10 : Int32, z10 = (x1 - 16) → vp_in z10 5 ∧ ∀ z11 : Int32, z11 = (zStr z10.toNatClampNeg) → ((z11 ≤ z8 → vp_in (I 11) 480 ∧ ∀ z13 : Int32, z13 = ((I 11) + 1) → ∀ z14 : Int32, z14 = ((I 12) - 1) → ∀ z15 : Int32, z15 = (x2 + 1) → K2 x1 z15 (upd (upd I 11 z13) 12 z14) J (va_up B 15 (upd (B 15) (I 11).toNatClampNeg z4)) D) ∧ (¬ z11 ≤ z8 → wc_Terms_release_A_52 a0 Post PX I J B D))))))))
def wl_Terms_release_A_2 (a0 : Int32) (Post : (Nat → Int32) → (Nat → Int64) → (Nat → Nat → Int32) → (Nat → Nat → Int64) → Prop) (PX : String → (Nat → Int32) → (Nat → Int64) → (Nat → Nat → Int32) → (Nat → Nat → Int64) → Prop) (n : Nat) : Int32 → Int32 → (Nat → Int32) → (Nat → Int64) → (Nat → Nat → Int32) → (Nat → Nat → Int64) → Prop := Nat.rec (fun _ _ _ _ _ _ => False) (fun _ r => wb_Terms_release_A_2 a0 r Post PX) n
def wp_Terms_release_A (I : Nat → Int32) (J : Nat → Int64) (B : Nat → Nat → Int32) (D : Nat → Nat → Int64) (a0 : Int32) (Post : (Nat → Int32) → (Nat → Int64) → (Nat → Nat → Int32) → (Nat → Nat → Int64) → Prop) (PX : String → (Nat → Int32) → (Nat → Int64) → (Nat → Nat → Int32) → (Nat → Nat → Int64) → Prop) : Prop :=
  ∃ n : Nat, wl_Terms_release_A_2 a0 Post PX n a0 0 I J B D
set_option maxHeartbeats 8000000 in
set_option maxRecDepth 100000 in
theorem wJ_Terms_release_A_89 {p : Program} {l : Launch} {e : Env} {s : State} {m : MethodId} {below : List Frame} {meth : Method} {c : Code} {A : Nat → Prop} (G : va_G) (K : Nat → ClassId) (ad : Nat → Nat) (sv : Value) (a0 : Int32) (Post : (Nat → Int32) → (Nat → Int64) → (Nat → Nat → Int32) → (Nat → Nat → Int64) → Prop) (PX : String → (Nat → Int32) → (Nat → Int64) → (Nat → Nat → Int32) → (Nat → Nat → Int64) → Prop) (C : zCy p l s m ([.ref (ad 4), .int a0] : List Value).toArray meth c A G K prog_9_method_10_code none 4 "LassoFinder$Terms") : ∀  (I : Nat → Int32) (J : Nat → Int64) (B : Nat → Nat → Int32) (D : Nat → Nat → Int64) (ls : Array Slot) (H : Heap) (locs : List Loc), wc_Terms_release_A_89 a0 Post PX  I J B D → lv_has ls 4 [] → zW G A s.heap (wX ad K sv I J B D) H locs → W p l e { frames := 0, cells := 1, slots := 6, locals := 0 } s m ([.ref (ad 4), .int a0] : List Value).toArray below meth c H locs 0 0 (zyMQ below (va_Qv (fun u : zS => Post u.1 u.2.1 u.2.2.1 u.2.2.2) (fun u t => zPost G K A (wX ad K sv u.1 u.2.1 u.2.2.1 u.2.2.2) t) A) (zYC (fun E (u : zS) => PX E u.1 u.2.1 u.2.2.1 u.2.2.2) (fun u => wX ad K sv u.1 u.2.1 u.2.2.1 u.2.2.2) G K A) ([.ref (ad 4), .int a0] : List Value).toArray s 1 6 A) (F0 m 89 ls []) := by
  obtain ⟨hx, hb, hr, hml, hts, hown, hlocks, hA, hK, hT, hnt, hlt⟩ := id C
  intro  I J B D ls H locs hok hl hw
  unfold wc_Terms_release_A_89 at hok
  exact zy_ret (z_vret (u := (I, J, B, D)) hx hb hr hlocks hw (List.range 65) wX_all wX_nd hok (Nat.le_of_ble_eq_true rfl) (Nat.le_of_ble_eq_true rfl) zd_Terms_release_89)
set_option maxHeartbeats 8000000 in
set_option maxRecDepth 100000 in
theorem wJ_Terms_release_A_52 {p : Program} {l : Launch} {e : Env} {s : State} {m : MethodId} {below : List Frame} {meth : Method} {c : Code} {A : Nat → Prop} (G : va_G) (K : Nat → ClassId) (ad : Nat → Nat) (sv : Value) (a0 : Int32) (Post : (Nat → Int32) → (Nat → Int64) → (Nat → Nat → Int32) → (Nat → Nat → Int64) → Prop) (PX : String → (Nat → Int32) → (Nat → Int64) → (Nat → Nat → Int32) → (Nat → Nat → Int64) → Prop) (C : zCy p l s m ([.ref (ad 4), .int a0] : List Value).toArray meth c A G K prog_9_method_10_code none 4 "LassoFinder$Terms") : ∀  (I : Nat → Int32) (J : Nat → Int64) (B : Nat → Nat → Int32) (D : Nat → Nat → Int64) (ls : Array Slot) (H : Heap) (locs : List Loc), wc_Terms_release_A_52 a0 Post PX  I J B D → lv_has ls 4 [] → zW G A s.heap (wX ad K sv I J B D) H locs → W p l e { frames := 0, cells := 1, slots := 6, locals := 0 } s m ([.ref (ad 4), .int a0] : List Value).toArray below meth c H locs 0 0 (zyMQ below (va_Qv (fun u : zS => Post u.1 u.2.1 u.2.2.1 u.2.2.2) (fun u t => zPost G K A (wX ad K sv u.1 u.2.1 u.2.2.1 u.2.2.2) t) A) (zYC (fun E (u : zS) => PX E u.1 u.2.1 u.2.2.1 u.2.2.2) (fun u => wX ad K sv u.1 u.2.1 u.2.2.1 u.2.2.2) G K A) ([.ref (ad 4), .int a0] : List Value).toArray s 1 6 A) (F0 m 52 ls []) := by
  obtain ⟨hx, hb, hr, hml, hts, hown, hlocks, hA, hK, hT, hnt, hlt⟩ := id C
  intro  I J B D ls H locs hok hl hw
  unfold wc_Terms_release_A_52 at hok
  exact zy_ret (z_vret (u := (I, J, B, D)) hx hb hr hlocks hw (List.range 65) wX_all wX_nd hok (Nat.le_of_ble_eq_true rfl) (Nat.le_of_ble_eq_true rfl) zd_Terms_release_52)
set_option maxHeartbeats 8000000 in
set_option maxRecDepth 100000 in
theorem wB_Terms_release_A_2 {p : Program} {l : Launch} {e : Env} {s : State} {m : MethodId} {below : List Frame} {meth : Method} {c : Code} {A : Nat → Prop} (G : va_G) (K : Nat → ClassId) (ad : Nat → Nat) (sv : Value) (a0 : Int32) (Post : (Nat → Int32) → (Nat → Int64) → (Nat → Nat → Int32) → (Nat → Nat → Int64) → Prop) (PX : String → (Nat → Int32) → (Nat → Int64) → (Nat → Nat → Int32) → (Nat → Nat → Int64) → Prop) (C : zCy p l s m ([.ref (ad 4), .int a0] : List Value).toArray meth c A G K prog_9_method_10_code none 4 "LassoFinder$Terms") (K2 : Int32 → Int32 → (Nat → Int32) → (Nat → Int64) → (Nat → Nat → Int32) → (Nat → Nat → Int64) → Prop) (kh2 : ∀ (x1 : Int32) (x2 : Int32) (I : Nat → Int32) (J : Nat → Int64) (B : Nat → Nat → Int32) (D : Nat → Nat → Int64) (ls : Array Slot) (H : Heap) (locs : List Loc), K2 x1 x2 I J B D → lv_has ls 4 [(0, .ref (ad 4)), (1, .int x1), (2, .int x2)] → zW G A s.heap (wX ad K sv I J B D) H locs → W p l e { frames := 0, cells := 1, slots := 6, locals := 0 } s m ([.ref (ad 4), .int a0] : List Value).toArray below meth c H locs 0 0 (zyMQ below (va_Qv (fun u : zS => Post u.1 u.2.1 u.2.2.1 u.2.2.2) (fun u t => zPost G K A (wX ad K sv u.1 u.2.1 u.2.2.1 u.2.2.2) t) A) (zYC (fun E (u : zS) => PX E u.1 u.2.1 u.2.2.1 u.2.2.2) (fun u => wX ad K sv u.1 u.2.1 u.2.2.1 u.2.2.2) G K A) ([.ref (ad 4), .int a0] : List Value).toArray s 1 6 A) (F0 m 2 ls [])) : ∀ (x1 : Int32) (x2 : Int32) (I : Nat → Int32) (J : Nat → Int64) (B : Nat → Nat → Int32) (D : Nat → Nat → Int64) (ls : Array Slot) (H : Heap) (locs : List Loc), wb_Terms_release_A_2 a0 K2 Post PX x1 x2 I J B D → lv_has ls 4 [(0, .ref (ad 4)), (1, .int x1), (2, .int x2)] → zW G A s.heap (wX ad K sv I J B D) H locs → W p l e { frames := 0, cells := 1, slots := 6, locals := 0 } s m ([.ref (ad 4), .int a0] : List Value).toArray below meth c H locs 0 0 (zyMQ below (va_Qv (fun u : zS => Post u.1 u.2.1 u.2.2.1 u.2.2.2) (fun u t => zPost G K A (wX ad K sv u.1 u.2.1 u.2.2.1 u.2.2.2) t) A) (zYC (fun E (u : zS) => PX E u.1 u.2.1 u.2.2.1 u.2.2.2) (fun u => wX ad K sv u.1 u.2.1 u.2.2.1 u.2.2.2) G K A) ([.ref (ad 4), .int a0] : List Value).toArray s 1 6 A) (F0 m 2 ls []) := by
  obtain ⟨hx, hb, hr, hml, hts, hown, hlocks, hA, hK, hT, hnt, hlt⟩ := id C
  intro x1 x2 I J B D ls H locs hok hl hw
  unfold wb_Terms_release_A_2 at hok
  refine lv_iload_n hx hb zd_Terms_release_2 rfl (lv_at hl 2 rfl) ?_
  refine lv_bipush (v := 20) hx hb zd_Terms_release_3 (by decide) ?_
  refine lv_icmp_ge (tgt := 89) hx hb zd_Terms_release_5 (by decide) (fun hc1 => ?_) (fun hc1 => ?_)
  · have hok := hok.1 hc1
    exact wJ_Terms_release_A_89 G K ad sv a0 Post PX C I J B D ls H locs hok (lv_sub hl [] rfl) hw
  · have hok := hok.2 hc1
    refine lv_aload_n hx hb zd_Terms_release_8 rfl (lv_at hl 0 rfl) ?_
    refine z_get (v := .int (I 12)) hx hb hts hown hK hw zZ8 4 wX_g4 5 (by decide) zn_438 rfl zd_Terms_release_9 ?_
    refine lv_if_le (tgt := 89) hx hb zd_Terms_release_12 (by decide) (fun hc2 => ?_) (fun hc2 => ?_)
    · have hok := hok.1 hc2
      exact wJ_Terms_release_A_89 G K ad sv a0 Post PX C I J B D ls H locs hok (lv_sub hl [] rfl) hw
    · have hok := hok.2 hc2
      refine lv_aload_n hx hb zd_Terms_release_15 rfl (lv_at hl 0 rfl) ?_
      refine z_get (v := .ref (ad 30)) hx hb hts hown hK hw zZ8 4 wX_g4 4 (by decide) zn_253 rfl zd_Terms_release_16 ?_
      refine lv_aload_n hx hb zd_Terms_release_19 rfl (lv_at hl 0 rfl) ?_
      refine z_get (v := .int (I 12)) hx hb hts hown hK hw zZ8 4 wX_g4 5 (by decide) zn_438 rfl zd_Terms_release_20 ?_
      refine lv_iconst (v := 1) hx hb zd_Terms_release_23 (by decide) ?_
      refine lv_isub hx hb zd_Terms_release_24 ?_
      refine lv_topi (fun z3 ez3 => ?_)
      have hok := hok z3 ez3
      refine va_iald (f := (B 16)) hx hb hK hw.1 30 0 wX_a30 rfl hok.1 zd_Terms_release_25 ?_
      have hok := hok.2
      refine lv_topi (fun z4 ez4 => ?_)
      have hok := hok z4 ez4
      refine lv_istore_n hx hb zd_Terms_release_26 rfl hl (by decide) rfl (fun ls hl => ?_)
      have hl : lv_has ls 4 [(3, .int z4), (0, .ref (ad 4)), (1, .int x1), (2, .int x2)] := hl
      refine lv_iload_n hx hb zd_Terms_release_27 rfl (lv_at hl 0 rfl) ?_
      refine lv_bipush (v := 21) hx hb zd_Terms_release_28 (by decide) ?_
      refine lv_icmp_eq (tgt := 52) hx hb zd_Terms_release_30 (by decide) (fun hc5 => ?_) (fun hc5 => ?_)
      · have hok := hok.1 hc5
        exact wJ_Terms_release_A_52 G K ad sv a0 Post PX C I J B D ls H locs hok (lv_sub hl [] rfl) hw
      · have hok := hok.2 hc5
        obtain ⟨t6, hZ6, hU6⟩ := hT.2.1
        refine va_gets hx hb hZ6 hw.2.2 hown (hts _ zn_439) (fun _ h => h) zd_Terms_release_33 ?_
        refine lv_iload_n hx hb zd_Terms_release_36 rfl (lv_at hl 0 rfl) ?_
        refine lv_bipush (v := 16) hx hb zd_Terms_release_37 (by decide) ?_
        refine lv_isub hx hb zd_Terms_release_39 ?_
        refine lv_topi (fun z7 ez7 => ?_)
        have hok := hok z7 ez7
        refine va_ti (v := .int (zStr z7.toNatClampNeg)) hx hb hU6 hw.2.2 hok.1 rfl zd_Terms_release_40 ?_
        have hok := hok.2
        refine lv_topi (fun z8 ez8 => ?_)
        have hok := hok z8 ez8
        obtain ⟨t9, hZ9, hU9⟩ := hT.2.1
        refine va_gets hx hb hZ9 hw.2.2 hown (hts _ zn_439) (fun _ h => h) zd_Terms_release_41 ?_
        refine lv_iload_n hx hb zd_Terms_release_44 rfl (lv_at hl 2 rfl) ?_
        refine lv_bipush (v := 16) hx hb zd_Terms_release_45 (by decide) ?_
        refine lv_isub hx hb zd_Terms_release_47 ?_
        refine lv_topi (fun z10 ez10 => ?_)
        have hok := hok z10 ez10
        refine va_ti (v := .int (zStr z10.toNatClampNeg)) hx hb hU9 hw.2.2 hok.1 rfl zd_Terms_release_48 ?_
        have hok := hok.2
        refine lv_topi (fun z11 ez11 => ?_)
        have hok := hok z11 ez11
        refine lv_icmp_ge (tgt := 53) hx hb zd_Terms_release_49 (by decide) (fun hc12 => ?_) (fun hc12 => ?_)
        · have hok := hok.1 hc12
          refine lv_aload_n hx hb zd_Terms_release_53 rfl (lv_at hl 1 rfl) ?_
          refine z_get (v := .ref (ad 29)) hx hb hts hown hK hw zZ8 4 wX_g4 2 (by decide) zn_252 rfl zd_Terms_release_54 ?_
          refine lv_aload_n hx hb zd_Terms_release_57 rfl (lv_at hl 1 rfl) ?_
          refine z_get (v := .int (I 11)) hx hb hts hown hK hw zZ8 4 wX_g4 3 (by decide) zn_435 rfl zd_Terms_release_58 ?_
          refine lv_iload_n hx hb zd_Terms_release_61 rfl (lv_at hl 0 rfl) ?_
          refine va_iast (f := (B 15)) hx hb hK hw.1 hw.2.1 hw.2.2 29 0 wX_a29 rfl hok.1 zd_Terms_release_62 (fun H locs w91 w92 w93 => ?_)
          have hok := hok.2
          have hw := wX_t29 ⟨w91, w92, w93⟩
          refine lv_aload_n hx hb zd_Terms_release_63 rfl (lv_at hl 1 rfl) ?_
          refine lv_dup hx hb zd_Terms_release_64 rfl ?_
          refine z_get (v := .int (I 11)) hx hb hts hown hK hw zZ8 4 wX_g4 3 (by decide) zn_435 rfl zd_Terms_release_65 ?_
          refine lv_iconst (v := 1) hx hb zd_Terms_release_68 (by decide) ?_
          refine lv_iadd hx hb zd_Terms_release_69 ?_
          refine lv_topi (fun z13 ez13 => ?_)
          have hok := hok z13 ez13
          refine z_put (v := .int z13) hx hb hts hown hK hw zZ8 4 wX_g4 3 (by decide) zn_435 rfl rfl rfl (Nat.le_of_ble_eq_true rfl) zd_Terms_release_70 (fun H locs hw => ?_)
          have hw := wX_sI11 hw
          refine lv_aload_n hx hb zd_Terms_release_73 rfl (lv_at hl 1 rfl) ?_
          refine lv_dup hx hb zd_Terms_release_74 rfl ?_
          refine z_get (v := .int (I 12)) hx hb hts hown hK hw zZ8 4 wX_g4 5 (by decide) zn_438 rfl zd_Terms_release_75 ?_
          refine lv_iconst (v := 1) hx hb zd_Terms_release_78 (by decide) ?_
          refine lv_isub hx hb zd_Terms_release_79 ?_
          refine lv_topi (fun z14 ez14 => ?_)
          have hok := hok z14 ez14
          refine z_put (v := .int z14) hx hb hts hown hK hw zZ8 4 wX_g4 5 (by decide) zn_438 rfl rfl rfl (Nat.le_of_ble_eq_true rfl) zd_Terms_release_80 (fun H locs hw => ?_)
          have hw := wX_sI12 hw
          obtain ⟨z15, ez15⟩ : ∃ z : Int32, z = (x2 + 1) := ⟨_, rfl⟩
          have hok := hok z15 ez15
          refine lv_iinc (v := z15) hx hb zd_Terms_release_83 hl (k := 3) rfl ez15.symm (by decide) rfl (fun ls hl => ?_)
          have hl : lv_has ls 4 [(2, .int z15), (3, .int z4), (0, .ref (ad 4)), (1, .int x1)] := hl
          refine lv_goto (tgt := 2) hx hb zd_Terms_release_86 (by decide) ?_
          exact kh2 x1 z15 (upd (upd I 11 z13) 12 z14) J (va_up B 15 (upd (B 15) (I 11).toNatClampNeg z4)) D ls H locs hok (lv_sub hl [2, 3, 0] rfl) hw
        · have hok := hok.2 hc12
          exact wJ_Terms_release_A_52 G K ad sv a0 Post PX C I J B D ls H locs hok (lv_sub hl [] rfl) hw
theorem wL_Terms_release_A_2 {p : Program} {l : Launch} {e : Env} {s : State} {m : MethodId} {below : List Frame} {meth : Method} {c : Code} {A : Nat → Prop} (G : va_G) (K : Nat → ClassId) (ad : Nat → Nat) (sv : Value) (a0 : Int32) (Post : (Nat → Int32) → (Nat → Int64) → (Nat → Nat → Int32) → (Nat → Nat → Int64) → Prop) (PX : String → (Nat → Int32) → (Nat → Int64) → (Nat → Nat → Int32) → (Nat → Nat → Int64) → Prop) (C : zCy p l s m ([.ref (ad 4), .int a0] : List Value).toArray meth c A G K prog_9_method_10_code none 4 "LassoFinder$Terms") : ∀ (n : Nat) (x1 : Int32) (x2 : Int32) (I : Nat → Int32) (J : Nat → Int64) (B : Nat → Nat → Int32) (D : Nat → Nat → Int64) (ls : Array Slot) (H : Heap) (locs : List Loc), wl_Terms_release_A_2 a0 Post PX n x1 x2 I J B D → lv_has ls 4 [(0, .ref (ad 4)), (1, .int x1), (2, .int x2)] → zW G A s.heap (wX ad K sv I J B D) H locs → W p l e { frames := 0, cells := 1, slots := 6, locals := 0 } s m ([.ref (ad 4), .int a0] : List Value).toArray below meth c H locs 0 0 (zyMQ below (va_Qv (fun u : zS => Post u.1 u.2.1 u.2.2.1 u.2.2.2) (fun u t => zPost G K A (wX ad K sv u.1 u.2.1 u.2.2.1 u.2.2.2) t) A) (zYC (fun E (u : zS) => PX E u.1 u.2.1 u.2.2.1 u.2.2.2) (fun u => wX ad K sv u.1 u.2.1 u.2.2.1 u.2.2.2) G K A) ([.ref (ad 4), .int a0] : List Value).toArray s 1 6 A) (F0 m 2 ls []) := by
  intro n
  induction n with
  | zero => intro x1 x2 I J B D ls H locs hok; exact hok.elim
  | succ n ih => exact wB_Terms_release_A_2 G K ad sv a0 Post PX C (wl_Terms_release_A_2 a0 Post PX n) ih
set_option maxHeartbeats 8000000 in
set_option maxRecDepth 100000 in
theorem w_Terms_release_A (l : Launch) (hlt : l.stackTraces = false) (G : va_G) (K : Nat → ClassId) (ad : Nat → Nat) (sv : Value) (I : Nat → Int32) (J : Nat → Int64) (B : Nat → Nat → Int32) (D : Nat → Nat → Int64) (a0 : Int32) (Post : (Nat → Int32) → (Nat → Int64) → (Nat → Nat → Int32) → (Nat → Nat → Int64) → Prop) (PX : String → (Nat → Int32) → (Nat → Int64) → (Nat → Nat → Int32) → (Nat → Nat → Int64) → Prop) (sz : Nat) (hok : wp_Terms_release_A I J B D a0 Post PX) : zyMet l zy_Terms_release (Cond.code zy_Terms_release prog_9_method_10_code 4 none :: zTB) { frames := 0, cells := 1, slots := 6, locals := 0 } (va_Pc [.ref (ad 4), .int a0] (zPreY G K (wX ad K sv I J B D) sz)) (va_Qv (fun u : zS => Post u.1 u.2.1 u.2.2.1 u.2.2.2) (fun u t => zPost G K (va_A (wX ad K sv I J B D) sz) (wX ad K sv u.1 u.2.1 u.2.2.1 u.2.2.2) t) (va_A (wX ad K sv I J B D) sz)) (zYC (fun E (u : zS) => PX E u.1 u.2.1 u.2.2.1 u.2.2.2) (fun u => wX ad K sv u.1 u.2.1 u.2.2.1 u.2.2.2) G K (va_A (wX ad K sv I J B D) sz)) 1 6 (va_A (wX ad K sv I J B D) sz) := by
  refine zMetY (y := zy_Terms_release) (av := [.ref (ad 4), .int a0]) (maxL := 4) (cc := prog_9_method_10_code) (ret := none) (W0 := (wX ad K sv I J B D)) (sz := sz) (G := G) (K := K) (wt := zTB) (mc := 1) (ms := 6) (Qf := fun A => va_Qv (fun u : zS => Post u.1 u.2.1 u.2.2.1 u.2.2.2) (fun u t => zPost G K A (wX ad K sv u.1 u.2.1 u.2.2.1 u.2.2.2) t) A) (Xf := fun A => (zYC (fun E (u : zS) => PX E u.1 u.2.1 u.2.2.1 u.2.2.2) (fun u => wX ad K sv u.1 u.2.1 u.2.2.1 u.2.2.2) G K A)) (by decide) (Nat.le_of_ble_eq_true rfl) ?_
  intro p e s m below meth c ls A hx hb hr hml hts hown hlocks hin hA hK H locs hw hsz hl hT hnt
  clear hsz
  have hown : s.vm.findClass "LassoFinder$Terms" = some m.cls := hown
  have C : zCy p l s m ([.ref (ad 4), .int a0] : List Value).toArray meth c A G K prog_9_method_10_code none 4 "LassoFinder$Terms" := ⟨hx, hb, hr, hml, hts, hown, hlocks, hA, hK, hT, hnt, hlt⟩
  have hl : lv_has ls 4 [(0, .ref (ad 4)), (1, .int a0)] := hl
  have hw : zW G A s.heap (wX ad K sv I J B D) H locs := hw
  unfold wp_Terms_release_A at hok
  refine lv_iconst (v := 0) hx hb zd_Terms_release_0 (by decide) ?_
  refine lv_istore_n hx hb zd_Terms_release_1 rfl hl (by decide) rfl (fun ls hl => ?_)
  have hl : lv_has ls 4 [(2, .int 0), (0, .ref (ad 4)), (1, .int a0)] := hl
  obtain ⟨n9, hok⟩ := hok
  exact wL_Terms_release_A_2 G K ad sv a0 Post PX C n9 a0 0 I J B D ls H locs hok (lv_sub hl [1, 2, 0] rfl) hw
def wp_Terms_add_A (I : Nat → Int32) (J : Nat → Int64) (B : Nat → Nat → Int32) (D : Nat → Nat → Int64) (a0 : Int32) (Post : (Nat → Int32) → (Nat → Int64) → (Nat → Nat → Int32) → (Nat → Nat → Int64) → Prop) : Prop :=
  vp_in (I 11) 480 ∧ ∀ z1 : Int32, z1 = ((I 11) + 1) → Post (upd I 11 z1) J (va_up B 15 (upd (B 15) (I 11).toNatClampNeg a0)) D
set_option maxHeartbeats 8000000 in
set_option maxRecDepth 100000 in
theorem w_Terms_add_A (l : Launch) (G : va_G) (K : Nat → ClassId) (ad : Nat → Nat) (sv : Value) (I : Nat → Int32) (J : Nat → Int64) (B : Nat → Nat → Int32) (D : Nat → Nat → Int64) (a0 : Int32) (Post : (Nat → Int32) → (Nat → Int64) → (Nat → Nat → Int32) → (Nat → Nat → Int64) → Prop) (sz : Nat) (hok : wp_Terms_add_A I J B D a0 Post) : Met l zy_Terms_add (Cond.code zy_Terms_add prog_9_method_11_code 2 none :: zTB) { frames := 0, cells := 0, slots := 0, locals := 0 } (va_Pc [.ref (ad 4), .int a0] (zPre G K (wX ad K sv I J B D) sz)) (va_Qv (fun u : zS => Post u.1 u.2.1 u.2.2.1 u.2.2.2) (fun u t => zPost G K (va_A (wX ad K sv I J B D) sz) (wX ad K sv u.1 u.2.1 u.2.2.1 u.2.2.2) t) (va_A (wX ad K sv I J B D) sz)) 0 0 (va_A (wX ad K sv I J B D) sz) := by
  refine zMet (y := zy_Terms_add) (av := [.ref (ad 4), .int a0]) (maxL := 2) (cc := prog_9_method_11_code) (ret := none) (W0 := (wX ad K sv I J B D)) (sz := sz) (G := G) (K := K) (wt := zTB) (mc := 0) (ms := 0) (Qf := fun A => va_Qv (fun u : zS => Post u.1 u.2.1 u.2.2.1 u.2.2.2) (fun u t => zPost G K A (wX ad K sv u.1 u.2.1 u.2.2.1 u.2.2.2) t) A) (by decide) (Nat.le_of_ble_eq_true rfl) ?_
  intro p e s m below meth c ls A hx hb hr hml hts hown hlocks hin hA hK H locs hw hsz hl
  clear hsz
  have hown : s.vm.findClass "LassoFinder$Terms" = some m.cls := hown
  have C : zCx p s m ([.ref (ad 4), .int a0] : List Value).toArray meth c A G K prog_9_method_11_code none 2 "LassoFinder$Terms" := ⟨hx, hb, hr, hml, hts, hown, hlocks, hA, hK⟩
  have hl : lv_has ls 2 [(0, .ref (ad 4)), (1, .int a0)] := hl
  have hw : zW G A s.heap (wX ad K sv I J B D) H locs := hw
  unfold wp_Terms_add_A at hok
  refine lv_aload_n hx hb zd_Terms_add_0 rfl (lv_at hl 0 rfl) ?_
  refine z_get (v := .ref (ad 29)) hx hb hts hown hK hw zZ8 4 wX_g4 2 (by decide) zn_252 rfl zd_Terms_add_1 ?_
  refine lv_aload_n hx hb zd_Terms_add_4 rfl (lv_at hl 0 rfl) ?_
  refine z_get (v := .int (I 11)) hx hb hts hown hK hw zZ8 4 wX_g4 3 (by decide) zn_435 rfl zd_Terms_add_5 ?_
  refine lv_iload_n hx hb zd_Terms_add_8 rfl (lv_at hl 1 rfl) ?_
  refine va_iast (f := (B 15)) hx hb hK hw.1 hw.2.1 hw.2.2 29 0 wX_a29 rfl hok.1 zd_Terms_add_9 (fun H locs w91 w92 w93 => ?_)
  have hok := hok.2
  have hw := wX_t29 ⟨w91, w92, w93⟩
  refine lv_aload_n hx hb zd_Terms_add_10 rfl (lv_at hl 0 rfl) ?_
  refine lv_dup hx hb zd_Terms_add_11 rfl ?_
  refine z_get (v := .int (I 11)) hx hb hts hown hK hw zZ8 4 wX_g4 3 (by decide) zn_435 rfl zd_Terms_add_12 ?_
  refine lv_iconst (v := 1) hx hb zd_Terms_add_15 (by decide) ?_
  refine lv_iadd hx hb zd_Terms_add_16 ?_
  refine lv_topi (fun z1 ez1 => ?_)
  have hok := hok z1 ez1
  refine z_put (v := .int z1) hx hb hts hown hK hw zZ8 4 wX_g4 3 (by decide) zn_435 rfl rfl rfl (Nat.le_of_ble_eq_true rfl) zd_Terms_add_17 (fun H locs hw => ?_)
  have hw := wX_sI11 hw
  exact (z_vret (u := ((upd I 11 z1), J, (va_up B 15 (upd (B 15) (I 11).toNatClampNeg a0)), D)) hx hb hr hlocks hw (List.range 65) wX_all wX_nd hok (Nat.le_of_ble_eq_true rfl) (Nat.le_of_ble_eq_true rfl) zd_Terms_add_20)
def wp_Terms_putOff_A (I : Nat → Int32) (J : Nat → Int64) (B : Nat → Nat → Int32) (D : Nat → Nat → Int64) (a0 : Int32) (Post : (Nat → Int32) → (Nat → Int64) → (Nat → Nat → Int32) → (Nat → Nat → Int64) → Prop) : Prop :=
  vp_in (I 12) 20 ∧ ∀ z1 : Int32, z1 = ((I 12) + 1) → Post (upd I 12 z1) J (va_up B 16 (upd (B 16) (I 12).toNatClampNeg a0)) D
set_option maxHeartbeats 8000000 in
set_option maxRecDepth 100000 in
theorem w_Terms_putOff_A (l : Launch) (G : va_G) (K : Nat → ClassId) (ad : Nat → Nat) (sv : Value) (I : Nat → Int32) (J : Nat → Int64) (B : Nat → Nat → Int32) (D : Nat → Nat → Int64) (a0 : Int32) (Post : (Nat → Int32) → (Nat → Int64) → (Nat → Nat → Int32) → (Nat → Nat → Int64) → Prop) (sz : Nat) (hok : wp_Terms_putOff_A I J B D a0 Post) : Met l zy_Terms_putOff (Cond.code zy_Terms_putOff prog_9_method_9_code 2 none :: zTB) { frames := 0, cells := 0, slots := 0, locals := 0 } (va_Pc [.ref (ad 4), .int a0] (zPre G K (wX ad K sv I J B D) sz)) (va_Qv (fun u : zS => Post u.1 u.2.1 u.2.2.1 u.2.2.2) (fun u t => zPost G K (va_A (wX ad K sv I J B D) sz) (wX ad K sv u.1 u.2.1 u.2.2.1 u.2.2.2) t) (va_A (wX ad K sv I J B D) sz)) 0 0 (va_A (wX ad K sv I J B D) sz) := by
  refine zMet (y := zy_Terms_putOff) (av := [.ref (ad 4), .int a0]) (maxL := 2) (cc := prog_9_method_9_code) (ret := none) (W0 := (wX ad K sv I J B D)) (sz := sz) (G := G) (K := K) (wt := zTB) (mc := 0) (ms := 0) (Qf := fun A => va_Qv (fun u : zS => Post u.1 u.2.1 u.2.2.1 u.2.2.2) (fun u t => zPost G K A (wX ad K sv u.1 u.2.1 u.2.2.1 u.2.2.2) t) A) (by decide) (Nat.le_of_ble_eq_true rfl) ?_
  intro p e s m below meth c ls A hx hb hr hml hts hown hlocks hin hA hK H locs hw hsz hl
  clear hsz
  have hown : s.vm.findClass "LassoFinder$Terms" = some m.cls := hown
  have C : zCx p s m ([.ref (ad 4), .int a0] : List Value).toArray meth c A G K prog_9_method_9_code none 2 "LassoFinder$Terms" := ⟨hx, hb, hr, hml, hts, hown, hlocks, hA, hK⟩
  have hl : lv_has ls 2 [(0, .ref (ad 4)), (1, .int a0)] := hl
  have hw : zW G A s.heap (wX ad K sv I J B D) H locs := hw
  unfold wp_Terms_putOff_A at hok
  refine lv_aload_n hx hb zd_Terms_putOff_0 rfl (lv_at hl 0 rfl) ?_
  refine z_get (v := .ref (ad 30)) hx hb hts hown hK hw zZ8 4 wX_g4 4 (by decide) zn_253 rfl zd_Terms_putOff_1 ?_
  refine lv_aload_n hx hb zd_Terms_putOff_4 rfl (lv_at hl 0 rfl) ?_
  refine z_get (v := .int (I 12)) hx hb hts hown hK hw zZ8 4 wX_g4 5 (by decide) zn_438 rfl zd_Terms_putOff_5 ?_
  refine lv_iload_n hx hb zd_Terms_putOff_8 rfl (lv_at hl 1 rfl) ?_
  refine va_iast (f := (B 16)) hx hb hK hw.1 hw.2.1 hw.2.2 30 0 wX_a30 rfl hok.1 zd_Terms_putOff_9 (fun H locs w91 w92 w93 => ?_)
  have hok := hok.2
  have hw := wX_t30 ⟨w91, w92, w93⟩
  refine lv_aload_n hx hb zd_Terms_putOff_10 rfl (lv_at hl 0 rfl) ?_
  refine lv_dup hx hb zd_Terms_putOff_11 rfl ?_
  refine z_get (v := .int (I 12)) hx hb hts hown hK hw zZ8 4 wX_g4 5 (by decide) zn_438 rfl zd_Terms_putOff_12 ?_
  refine lv_iconst (v := 1) hx hb zd_Terms_putOff_15 (by decide) ?_
  refine lv_iadd hx hb zd_Terms_putOff_16 ?_
  refine lv_topi (fun z1 ez1 => ?_)
  have hok := hok z1 ez1
  refine z_put (v := .int z1) hx hb hts hown hK hw zZ8 4 wX_g4 5 (by decide) zn_438 rfl rfl rfl (Nat.le_of_ble_eq_true rfl) zd_Terms_putOff_17 (fun H locs hw => ?_)
  have hw := wX_sI12 hw
  exact (z_vret (u := ((upd I 12 z1), J, (va_up B 16 (upd (B 16) (I 12).toNatClampNeg a0)), D)) hx hb hr hlocks hw (List.range 65) wX_all wX_nd hok (Nat.le_of_ble_eq_true rfl) (Nat.le_of_ble_eq_true rfl) zd_Terms_putOff_20)
def wc_Terms_readOpenings_A_75 (Post : (Nat → Int32) → (Nat → Int64) → (Nat → Nat → Int32) → (Nat → Nat → Int64) → Prop) (PX : String → (Nat → Int32) → (Nat → Int64) → (Nat → Nat → Int32) → (Nat → Nat → Int64) → Prop)  (I : Nat → Int32) (J : Nat → Int64) (B : Nat → Nat → Int32) (D : Nat → Nat → Int64) : Prop :=
  Post I J B D
def wc_Terms_readOpenings_A_36 (K2 : Int32 → (Nat → Int32) → (Nat → Int64) → (Nat → Nat → Int32) → (Nat → Nat → Int64) → Prop) (Post : (Nat → Int32) → (Nat → Int64) → (Nat → Nat → Int32) → (Nat → Nat → Int64) → Prop) (PX : String → (Nat → Int32) → (Nat → Int64) → (Nat → Nat → Int32) → (Nat → Nat → Int64) → Prop) (x1 : Int32) (I : Nat → Int32) (J : Nat → Int64) (B : Nat → Nat → Int32) (D : Nat → Nat → Int64) : Prop :=
  wp_Text_skip I J B D  (fun I1 J1 B1 D1 => ∀ z2 : Int32, z2 = ((I1 14) + 1) → ∀ z3 : Int32, z3 = ((I1 15) <<< (1 &&& 31)) → wp_Terms_putOff_A (upd (upd I1 14 z2) 15 z3) J1 B1 D1 21 (fun I4 J4 B4 D4 => ∀ z5 : Int32, z5 = (x1 + 1) → K2 z5 I4 J4 B4 D4))
def wb_Terms_readOpenings_A_2 (K2 : Int32 → (Nat → Int32) → (Nat → Int64) → (Nat → Nat → Int32) → (Nat → Nat → Int64) → Prop) (Post : (Nat → Int32) → (Nat → Int64) → (Nat → Nat → Int32) → (Nat → Nat → Int64) → Prop) (PX : String → (Nat → Int32) → (Nat → Int64) → (Nat → Nat → Int32) → (Nat → Nat → Int64) → Prop) (x1 : Int32) (I : Nat → Int32) (J : Nat → Int64) (B : Nat → Nat → Int32) (D : Nat → Nat → Int64) : Prop :=
  (((240 : Int32) ≤ x1 → wc_Terms_readOpenings_A_75  Post PX I J B D) ∧ (¬ (240 : Int32) ≤ x1 → wp_Text_ahead I J B D  (fun r7 I7 J7 B7 D7 => ((¬ r7 = 40 → wc_Terms_readOpenings_A_75  Post PX I7 J7 B7 D7) ∧ (r7 = 40 → ((¬ (I7 14) = 4 → wc_Terms_readOpenings_A_36  K2 Post PX x1 I7 J7 B7 D7) ∧ ((I7 14) = 4 → wp_Text_refuse I7 J7 B7 D7  (fun I10 J10 B10 D10 => wc_Terms_readOpenings_A_36  K2 Post PX x1 I10 J10 B10 D10) PX)))))))
def wl_Terms_readOpenings_A_2 (Post : (Nat → Int32) → (Nat → Int64) → (Nat → Nat → Int32) → (Nat → Nat → Int64) → Prop) (PX : String → (Nat → Int32) → (Nat → Int64) → (Nat → Nat → Int32) → (Nat → Nat → Int64) → Prop) (n : Nat) : Int32 → (Nat → Int32) → (Nat → Int64) → (Nat → Nat → Int32) → (Nat → Nat → Int64) → Prop := Nat.rec (fun _ _ _ _ _ => False) (fun _ r => wb_Terms_readOpenings_A_2  r Post PX) n
def wp_Terms_readOpenings_A (I : Nat → Int32) (J : Nat → Int64) (B : Nat → Nat → Int32) (D : Nat → Nat → Int64) (Post : (Nat → Int32) → (Nat → Int64) → (Nat → Nat → Int32) → (Nat → Nat → Int64) → Prop) (PX : String → (Nat → Int32) → (Nat → Int64) → (Nat → Nat → Int32) → (Nat → Nat → Int64) → Prop) : Prop :=
  ∃ n : Nat, wl_Terms_readOpenings_A_2  Post PX n 0 I J B D
set_option maxHeartbeats 8000000 in
set_option maxRecDepth 100000 in
theorem wJ_Terms_readOpenings_A_75 {p : Program} {l : Launch} {e : Env} {s : State} {m : MethodId} {below : List Frame} {meth : Method} {c : Code} {A : Nat → Prop} (G : va_G) (K : Nat → ClassId) (ad : Nat → Nat) (sv : Value) (Post : (Nat → Int32) → (Nat → Int64) → (Nat → Nat → Int32) → (Nat → Nat → Int64) → Prop) (PX : String → (Nat → Int32) → (Nat → Int64) → (Nat → Nat → Int32) → (Nat → Nat → Int64) → Prop) (C : zCy p l s m ([.ref (ad 4)] : List Value).toArray meth c A G K prog_9_method_4_code none 2 "LassoFinder$Terms") : ∀  (I : Nat → Int32) (J : Nat → Int64) (B : Nat → Nat → Int32) (D : Nat → Nat → Int64) (ls : Array Slot) (H : Heap) (locs : List Loc), wc_Terms_readOpenings_A_75  Post PX  I J B D → lv_has ls 2 [] → zW G A s.heap (wX ad K sv I J B D) H locs → W p l e { frames := 7, cells := 1, slots := 6, locals := 101 } s m ([.ref (ad 4)] : List Value).toArray below meth c H locs 0 0 (zyMQ below (va_Qv (fun u : zS => Post u.1 u.2.1 u.2.2.1 u.2.2.2) (fun u t => zPost G K A (wX ad K sv u.1 u.2.1 u.2.2.1 u.2.2.2) t) A) (zYC (fun E (u : zS) => PX E u.1 u.2.1 u.2.2.1 u.2.2.2) (fun u => wX ad K sv u.1 u.2.1 u.2.2.1 u.2.2.2) G K A) ([.ref (ad 4)] : List Value).toArray s 1 6 A) (F0 m 75 ls []) := by
  obtain ⟨hx, hb, hr, hml, hts, hown, hlocks, hA, hK, hT, hnt, hlt⟩ := id C
  intro  I J B D ls H locs hok hl hw
  unfold wc_Terms_readOpenings_A_75 at hok
  exact zy_ret (z_vret (u := (I, J, B, D)) hx hb hr hlocks hw (List.range 65) wX_all wX_nd hok (Nat.le_of_ble_eq_true rfl) (Nat.le_of_ble_eq_true rfl) zd_Terms_readOpenings_75)
set_option maxHeartbeats 8000000 in
set_option maxRecDepth 100000 in
theorem wJ_Terms_readOpenings_A_36 {p : Program} {l : Launch} {e : Env} {s : State} {m : MethodId} {below : List Frame} {meth : Method} {c : Code} {A : Nat → Prop} (G : va_G) (K : Nat → ClassId) (ad : Nat → Nat) (sv : Value) (Post : (Nat → Int32) → (Nat → Int64) → (Nat → Nat → Int32) → (Nat → Nat → Int64) → Prop) (PX : String → (Nat → Int32) → (Nat → Int64) → (Nat → Nat → Int32) → (Nat → Nat → Int64) → Prop) (C : zCy p l s m ([.ref (ad 4)] : List Value).toArray meth c A G K prog_9_method_4_code none 2 "LassoFinder$Terms") (K2 : Int32 → (Nat → Int32) → (Nat → Int64) → (Nat → Nat → Int32) → (Nat → Nat → Int64) → Prop) (kh2 : ∀ (x1 : Int32) (I : Nat → Int32) (J : Nat → Int64) (B : Nat → Nat → Int32) (D : Nat → Nat → Int64) (ls : Array Slot) (H : Heap) (locs : List Loc), K2 x1 I J B D → lv_has ls 2 [(0, .ref (ad 4)), (1, .int x1)] → zW G A s.heap (wX ad K sv I J B D) H locs → W p l e { frames := 7, cells := 1, slots := 6, locals := 101 } s m ([.ref (ad 4)] : List Value).toArray below meth c H locs 0 0 (zyMQ below (va_Qv (fun u : zS => Post u.1 u.2.1 u.2.2.1 u.2.2.2) (fun u t => zPost G K A (wX ad K sv u.1 u.2.1 u.2.2.1 u.2.2.2) t) A) (zYC (fun E (u : zS) => PX E u.1 u.2.1 u.2.2.1 u.2.2.2) (fun u => wX ad K sv u.1 u.2.1 u.2.2.1 u.2.2.2) G K A) ([.ref (ad 4)] : List Value).toArray s 1 6 A) (F0 m 2 ls [])) : ∀ (x1 : Int32) (I : Nat → Int32) (J : Nat → Int64) (B : Nat → Nat → Int32) (D : Nat → Nat → Int64) (ls : Array Slot) (H : Heap) (locs : List Loc), wc_Terms_readOpenings_A_36  K2 Post PX x1 I J B D → lv_has ls 2 [(0, .ref (ad 4)), (1, .int x1)] → zW G A s.heap (wX ad K sv I J B D) H locs → W p l e { frames := 7, cells := 1, slots := 6, locals := 101 } s m ([.ref (ad 4)] : List Value).toArray below meth c H locs 0 0 (zyMQ below (va_Qv (fun u : zS => Post u.1 u.2.1 u.2.2.1 u.2.2.2) (fun u t => zPost G K A (wX ad K sv u.1 u.2.1 u.2.2.1 u.2.2.2) t) A) (zYC (fun E (u : zS) => PX E u.1 u.2.1 u.2.2.1 u.2.2.2) (fun u => wX ad K sv u.1 u.2.1 u.2.2.1 u.2.2.2) G K A) ([.ref (ad 4)] : List Value).toArray s 1 6 A) (F0 m 36 ls []) := by
  obtain ⟨hx, hb, hr, hml, hts, hown, hlocks, hA, hK, hT, hnt, hlt⟩ := id C
  intro x1 I J B D ls H locs hok hl hw
  unfold wc_Terms_readOpenings_A_36 at hok
  refine lv_aload_n hx hb zd_Terms_readOpenings_36 rfl (lv_at hl 0 rfl) ?_
  refine z_get (v := .ref (ad 1)) hx hb hts hown hK hw zZ8 4 wX_g4 0 (by decide) zn_437 rfl zd_Terms_readOpenings_37 ?_
  refine z_callv (w1 := fun (u : zS) => wX ad K sv u.1 u.2.1 u.2.2.1 u.2.2.2) (wr := []) (z_runV (q0 := 1) (wc := (wX ad K sv I J B D)) (As := []) (rest := []) ⟨hx, hb, hml, hown, hts⟩ (w_Text_skip l G K ad sv I J B D  _ H.size hok) zf_Text_skip zn_366 ⟨Nat.le_of_ble_eq_true rfl, Nat.le_of_ble_eq_true rfl⟩ hK hw (List.range 65) wX_all wX_nd wX_g1 rfl rfl hl.1 rfl (Nat.le_of_ble_eq_true rfl) zd_Terms_readOpenings_40 ⟨Nat.le_of_ble_eq_true rfl, Nat.le_of_ble_eq_true rfl⟩) hw hA (List.range 65) [] wX_all rfl (by decide) (fun i hi => by cases hi) (fun u H locs hok hw => ?_)
  obtain ⟨I1, J1, B1, D1⟩ := u
  dsimp only at hok
  have hw : zW G A s.heap (wX ad K sv I1 J1 B1 D1) H locs := hw
  refine lv_aload_n hx hb zd_Terms_readOpenings_43 rfl (lv_at hl 0 rfl) ?_
  refine lv_dup hx hb zd_Terms_readOpenings_44 rfl ?_
  refine z_get (v := .int (I1 14)) hx hb hts hown hK hw zZ8 4 wX_g4 8 (by decide) zn_436 rfl zd_Terms_readOpenings_45 ?_
  refine lv_iconst (v := 1) hx hb zd_Terms_readOpenings_48 (by decide) ?_
  refine lv_iadd hx hb zd_Terms_readOpenings_49 ?_
  refine lv_topi (fun z2 ez2 => ?_)
  have hok := hok z2 ez2
  refine z_put (v := .int z2) hx hb hts hown hK hw zZ8 4 wX_g4 8 (by decide) zn_436 rfl rfl rfl (Nat.le_of_ble_eq_true rfl) zd_Terms_readOpenings_50 (fun H locs hw => ?_)
  have hw := wX_sI14 hw
  refine lv_aload_n hx hb zd_Terms_readOpenings_53 rfl (lv_at hl 0 rfl) ?_
  refine lv_dup hx hb zd_Terms_readOpenings_54 rfl ?_
  refine z_get (v := .int (I1 15)) hx hb hts hown hK hw zZ8 4 wX_g4 9 (by decide) zn_440 rfl zd_Terms_readOpenings_55 ?_
  refine lv_iconst (v := 1) hx hb zd_Terms_readOpenings_58 (by decide) ?_
  refine lv_ishl hx hb zd_Terms_readOpenings_59 ?_
  refine lv_topi (fun z3 ez3 => ?_)
  have hok := hok z3 ez3
  refine z_put (v := .int z3) hx hb hts hown hK hw zZ8 4 wX_g4 9 (by decide) zn_440 rfl rfl rfl (Nat.le_of_ble_eq_true rfl) zd_Terms_readOpenings_60 (fun H locs hw => ?_)
  have hw := wX_sI15 hw
  refine lv_aload_n hx hb zd_Terms_readOpenings_63 rfl (lv_at hl 0 rfl) ?_
  refine lv_bipush (v := 21) hx hb zd_Terms_readOpenings_64 (by decide) ?_
  refine z_callv (w1 := fun (u : zS) => wX ad K sv u.1 u.2.1 u.2.2.1 u.2.2.2) (wr := []) (z_runV (q0 := 4) (wc := (wX ad K sv (upd (upd I1 14 z2) 15 z3) J1 B1 D1)) (As := [.int 21]) (rest := []) ⟨hx, hb, hml, hown, hts⟩ (w_Terms_putOff_A l G K ad sv (upd (upd I1 14 z2) 15 z3) J1 B1 D1 21 _ H.size hok) zf_Terms_putOff zn_367 ⟨Nat.le_of_ble_eq_true rfl, Nat.le_of_ble_eq_true rfl⟩ hK hw (List.range 65) wX_all wX_nd wX_g4 rfl rfl hl.1 rfl (Nat.le_of_ble_eq_true rfl) zd_Terms_readOpenings_66 ⟨Nat.le_of_ble_eq_true rfl, Nat.le_of_ble_eq_true rfl⟩) hw hA (List.range 65) [] wX_all rfl (by decide) (fun i hi => by cases hi) (fun u H locs hok hw => ?_)
  obtain ⟨I4, J4, B4, D4⟩ := u
  dsimp only at hok
  have hw : zW G A s.heap (wX ad K sv I4 J4 B4 D4) H locs := hw
  obtain ⟨z5, ez5⟩ : ∃ z : Int32, z = (x1 + 1) := ⟨_, rfl⟩
  have hok := hok z5 ez5
  refine lv_iinc (v := z5) hx hb zd_Terms_readOpenings_69 hl (k := 1) rfl ez5.symm (by decide) rfl (fun ls hl => ?_)
  have hl : lv_has ls 2 [(1, .int z5), (0, .ref (ad 4))] := hl
  refine lv_goto (tgt := 2) hx hb zd_Terms_readOpenings_72 (by decide) ?_
  exact kh2 z5 I4 J4 B4 D4 ls H locs hok (lv_sub hl [1, 0] rfl) hw
set_option maxHeartbeats 8000000 in
set_option maxRecDepth 100000 in
theorem wB_Terms_readOpenings_A_2 {p : Program} {l : Launch} {e : Env} {s : State} {m : MethodId} {below : List Frame} {meth : Method} {c : Code} {A : Nat → Prop} (G : va_G) (K : Nat → ClassId) (ad : Nat → Nat) (sv : Value) (Post : (Nat → Int32) → (Nat → Int64) → (Nat → Nat → Int32) → (Nat → Nat → Int64) → Prop) (PX : String → (Nat → Int32) → (Nat → Int64) → (Nat → Nat → Int32) → (Nat → Nat → Int64) → Prop) (C : zCy p l s m ([.ref (ad 4)] : List Value).toArray meth c A G K prog_9_method_4_code none 2 "LassoFinder$Terms") (K2 : Int32 → (Nat → Int32) → (Nat → Int64) → (Nat → Nat → Int32) → (Nat → Nat → Int64) → Prop) (kh2 : ∀ (x1 : Int32) (I : Nat → Int32) (J : Nat → Int64) (B : Nat → Nat → Int32) (D : Nat → Nat → Int64) (ls : Array Slot) (H : Heap) (locs : List Loc), K2 x1 I J B D → lv_has ls 2 [(0, .ref (ad 4)), (1, .int x1)] → zW G A s.heap (wX ad K sv I J B D) H locs → W p l e { frames := 7, cells := 1, slots := 6, locals := 101 } s m ([.ref (ad 4)] : List Value).toArray below meth c H locs 0 0 (zyMQ below (va_Qv (fun u : zS => Post u.1 u.2.1 u.2.2.1 u.2.2.2) (fun u t => zPost G K A (wX ad K sv u.1 u.2.1 u.2.2.1 u.2.2.2) t) A) (zYC (fun E (u : zS) => PX E u.1 u.2.1 u.2.2.1 u.2.2.2) (fun u => wX ad K sv u.1 u.2.1 u.2.2.1 u.2.2.2) G K A) ([.ref (ad 4)] : List Value).toArray s 1 6 A) (F0 m 2 ls [])) : ∀ (x1 : Int32) (I : Nat → Int32) (J : Nat → Int64) (B : Nat → Nat → Int32) (D : Nat → Nat → Int64) (ls : Array Slot) (H : Heap) (locs : List Loc), wb_Terms_readOpenings_A_2  K2 Post PX x1 I J B D → lv_has ls 2 [(0, .ref (ad 4)), (1, .int x1)] → zW G A s.heap (wX ad K sv I J B D) H locs → W p l e { frames := 7, cells := 1, slots := 6, locals := 101 } s m ([.ref (ad 4)] : List Value).toArray below meth c H locs 0 0 (zyMQ below (va_Qv (fun u : zS => Post u.1 u.2.1 u.2.2.1 u.2.2.2) (fun u t => zPost G K A (wX ad K sv u.1 u.2.1 u.2.2.1 u.2.2.2) t) A) (zYC (fun E (u : zS) => PX E u.1 u.2.1 u.2.2.1 u.2.2.2) (fun u => wX ad K sv u.1 u.2.1 u.2.2.1 u.2.2.2) G K A) ([.ref (ad 4)] : List Value).toArray s 1 6 A) (F0 m 2 ls []) := by
  obtain ⟨hx, hb, hr, hml, hts, hown, hlocks, hA, hK, hT, hnt, hlt⟩ := id C
  intro x1 I J B D ls H locs hok hl hw
  unfold wb_Terms_readOpenings_A_2 at hok
  refine lv_iload_n hx hb zd_Terms_readOpenings_2 rfl (lv_at hl 1 rfl) ?_
  refine lv_sipush (v := 240) hx hb zd_Terms_readOpenings_3 (by decide) ?_
  refine lv_icmp_ge (tgt := 75) hx hb zd_Terms_readOpenings_6 (by decide) (fun hc6 => ?_) (fun hc6 => ?_)
  · have hok := hok.1 hc6
    exact wJ_Terms_readOpenings_A_75 G K ad sv  Post PX C I J B D ls H locs hok (lv_sub hl [] rfl) hw
  · have hok := hok.2 hc6
    refine lv_aload_n hx hb zd_Terms_readOpenings_9 rfl (lv_at hl 0 rfl) ?_
    refine z_get (v := .ref (ad 1)) hx hb hts hown hK hw zZ8 4 wX_g4 0 (by decide) zn_437 rfl zd_Terms_readOpenings_10 ?_
    refine z_calli (w1 := fun (u : zS) => wX ad K sv u.1 u.2.1 u.2.2.1 u.2.2.2) (wr := []) (z_runV (q0 := 1) (wc := (wX ad K sv I J B D)) (As := []) (rest := []) ⟨hx, hb, hml, hown, hts⟩ (w_Text_ahead l G K ad sv I J B D  _ H.size hok) zf_Text_ahead zn_364 ⟨Nat.le_of_ble_eq_true rfl, Nat.le_of_ble_eq_true rfl⟩ hK hw (List.range 65) wX_all wX_nd wX_g1 rfl rfl hl.1 rfl (Nat.le_of_ble_eq_true rfl) zd_Terms_readOpenings_13 ⟨Nat.le_of_ble_eq_true rfl, Nat.le_of_ble_eq_true rfl⟩) hw hA (List.range 65) [] wX_all rfl (by decide) (fun i hi => by cases hi) (fun r7 u H locs hok hw => ?_)
    obtain ⟨I7, J7, B7, D7⟩ := u
    dsimp only at hok
    have hw : zW G A s.heap (wX ad K sv I7 J7 B7 D7) H locs := hw
    refine lv_bipush (v := 40) hx hb zd_Terms_readOpenings_16 (by decide) ?_
    refine lv_icmp_ne (tgt := 75) hx hb zd_Terms_readOpenings_18 (by decide) (fun hc8 => ?_) (fun hc8 => ?_)
    · have hok := hok.1 hc8
      exact wJ_Terms_readOpenings_A_75 G K ad sv  Post PX C I7 J7 B7 D7 ls H locs hok (lv_sub hl [] rfl) hw
    · have hok := hok.2 hc8
      refine lv_aload_n hx hb zd_Terms_readOpenings_21 rfl (lv_at hl 0 rfl) ?_
      refine z_get (v := .int (I7 14)) hx hb hts hown hK hw zZ8 4 wX_g4 8 (by decide) zn_436 rfl zd_Terms_readOpenings_22 ?_
      refine lv_iconst (v := 4) hx hb zd_Terms_readOpenings_25 (by decide) ?_
      refine lv_icmp_ne (tgt := 36) hx hb zd_Terms_readOpenings_26 (by decide) (fun hc9 => ?_) (fun hc9 => ?_)
      · have hok := hok.1 hc9
        exact wJ_Terms_readOpenings_A_36 G K ad sv  Post PX C K2 kh2 x1 I7 J7 B7 D7 ls H locs hok (lv_sub hl [0, 1] rfl) hw
      · have hok := hok.2 hc9
        refine lv_aload_n hx hb zd_Terms_readOpenings_29 rfl (lv_at hl 0 rfl) ?_
        refine z_get (v := .ref (ad 1)) hx hb hts hown hK hw zZ8 4 wX_g4 0 (by decide) zn_437 rfl zd_Terms_readOpenings_30 ?_
        refine z_yV (q0 := 1) (wc := (wX ad K sv I7 J7 B7 D7)) (wr := []) (w1 := fun (u : zS) => wX ad K sv u.1 u.2.1 u.2.2.1 u.2.2.2) (As := []) (rest := []) ⟨hx, hb, hml, hown, hts⟩ (w_Text_refuse l hlt G K ad sv I7 J7 B7 D7  _ _ H.size hok) zf_Text_refuse zn_365 ⟨Nat.le_of_ble_eq_true rfl, Nat.le_of_ble_eq_true rfl⟩ hK hT hw hA (List.range 65) [] wX_all rfl wX_nd (by decide) (fun i hi => by cases hi) wX_g1 rfl rfl hl.1 rfl (Nat.le_of_ble_eq_true rfl) zd_Terms_readOpenings_33 ⟨Nat.le_of_ble_eq_true rfl, Nat.le_of_ble_eq_true rfl⟩ (fun v st9 t9 L9 h0 hq hL => ?_) (fun E ce q9 u H locs hu hw hce hcv hcl => z_yout (u := u) hnt hlocks hce hcv hcl hw (List.range 65) wX_all wX_nd hu (Nat.le_of_ble_eq_true rfl) (Nat.le_of_ble_eq_true rfl))
        obtain ⟨⟨u, hv9, hok, hB9⟩, hF9⟩ := hq
        cases hv9
        have hw := z_back (wr := []) hw hA (List.range 65) [] wX_all rfl (by decide) (fun i hi => by cases hi) h0 hL hB9 hF9
        obtain ⟨I10, J10, B10, D10⟩ := u
        dsimp only at hok
        generalize t9.heap = H at hw ⊢
        generalize locs ++ L9 = locs at hw ⊢
        have hw : zW G A s.heap (wX ad K sv I10 J10 B10 D10) H locs := hw
        refine W.eq (g2 := F0 m 36 ls []) rfl ?_
        exact wJ_Terms_readOpenings_A_36 G K ad sv  Post PX C K2 kh2 x1 I10 J10 B10 D10 ls H locs hok (lv_sub hl [0, 1] rfl) hw
theorem wL_Terms_readOpenings_A_2 {p : Program} {l : Launch} {e : Env} {s : State} {m : MethodId} {below : List Frame} {meth : Method} {c : Code} {A : Nat → Prop} (G : va_G) (K : Nat → ClassId) (ad : Nat → Nat) (sv : Value) (Post : (Nat → Int32) → (Nat → Int64) → (Nat → Nat → Int32) → (Nat → Nat → Int64) → Prop) (PX : String → (Nat → Int32) → (Nat → Int64) → (Nat → Nat → Int32) → (Nat → Nat → Int64) → Prop) (C : zCy p l s m ([.ref (ad 4)] : List Value).toArray meth c A G K prog_9_method_4_code none 2 "LassoFinder$Terms") : ∀ (n : Nat) (x1 : Int32) (I : Nat → Int32) (J : Nat → Int64) (B : Nat → Nat → Int32) (D : Nat → Nat → Int64) (ls : Array Slot) (H : Heap) (locs : List Loc), wl_Terms_readOpenings_A_2  Post PX n x1 I J B D → lv_has ls 2 [(0, .ref (ad 4)), (1, .int x1)] → zW G A s.heap (wX ad K sv I J B D) H locs → W p l e { frames := 7, cells := 1, slots := 6, locals := 101 } s m ([.ref (ad 4)] : List Value).toArray below meth c H locs 0 0 (zyMQ below (va_Qv (fun u : zS => Post u.1 u.2.1 u.2.2.1 u.2.2.2) (fun u t => zPost G K A (wX ad K sv u.1 u.2.1 u.2.2.1 u.2.2.2) t) A) (zYC (fun E (u : zS) => PX E u.1 u.2.1 u.2.2.1 u.2.2.2) (fun u => wX ad K sv u.1 u.2.1 u.2.2.1 u.2.2.2) G K A) ([.ref (ad 4)] : List Value).toArray s 1 6 A) (F0 m 2 ls []) := by
  intro n
  induction n with
  | zero => intro x1 I J B D ls H locs hok; exact hok.elim
  | succ n ih => exact wB_Terms_readOpenings_A_2 G K ad sv  Post PX C (wl_Terms_readOpenings_A_2  Post PX n) ih
set_option maxHeartbeats 8000000 in
set_option maxRecDepth 100000 in
theorem w_Terms_readOpenings_A (l : Launch) (hlt : l.stackTraces = false) (G : va_G) (K : Nat → ClassId) (ad : Nat → Nat) (sv : Value) (I : Nat → Int32) (J : Nat → Int64) (B : Nat → Nat → Int32) (D : Nat → Nat → Int64) (Post : (Nat → Int32) → (Nat → Int64) → (Nat → Nat → Int32) → (Nat → Nat → Int64) → Prop) (PX : String → (Nat → Int32) → (Nat → Int64) → (Nat → Nat → Int32) → (Nat → Nat → Int64) → Prop) (sz : Nat) (hok : wp_Terms_readOpenings_A I J B D  Post PX) : zyMet l zy_Terms_readOpenings (Cond.code zy_Terms_readOpenings prog_9_method_4_code 2 none :: zTB) { frames := 7, cells := 1, slots := 6, locals := 101 } (va_Pc [.ref (ad 4)] (zPreY G K (wX ad K sv I J B D) sz)) (va_Qv (fun u : zS => Post u.1 u.2.1 u.2.2.1 u.2.2.2) (fun u t => zPost G K (va_A (wX ad K sv I J B D) sz) (wX ad K sv u.1 u.2.1 u.2.2.1 u.2.2.2) t) (va_A (wX ad K sv I J B D) sz)) (zYC (fun E (u : zS) => PX E u.1 u.2.1 u.2.2.1 u.2.2.2) (fun u => wX ad K sv u.1 u.2.1 u.2.2.1 u.2.2.2) G K (va_A (wX ad K sv I J B D) sz)) 1 6 (va_A (wX ad K sv I J B D) sz) := by
  refine zMetY (y := zy_Terms_readOpenings) (av := [.ref (ad 4)]) (maxL := 2) (cc := prog_9_method_4_code) (ret := none) (W0 := (wX ad K sv I J B D)) (sz := sz) (G := G) (K := K) (wt := zTB) (mc := 1) (ms := 6) (Qf := fun A => va_Qv (fun u : zS => Post u.1 u.2.1 u.2.2.1 u.2.2.2) (fun u t => zPost G K A (wX ad K sv u.1 u.2.1 u.2.2.1 u.2.2.2) t) A) (Xf := fun A => (zYC (fun E (u : zS) => PX E u.1 u.2.1 u.2.2.1 u.2.2.2) (fun u => wX ad K sv u.1 u.2.1 u.2.2.1 u.2.2.2) G K A)) (by decide) (Nat.le_of_ble_eq_true rfl) ?_
  intro p e s m below meth c ls A hx hb hr hml hts hown hlocks hin hA hK H locs hw hsz hl hT hnt
  clear hsz
  have hown : s.vm.findClass "LassoFinder$Terms" = some m.cls := hown
  have C : zCy p l s m ([.ref (ad 4)] : List Value).toArray meth c A G K prog_9_method_4_code none 2 "LassoFinder$Terms" := ⟨hx, hb, hr, hml, hts, hown, hlocks, hA, hK, hT, hnt, hlt⟩
  have hl : lv_has ls 2 [(0, .ref (ad 4))] := hl
  have hw : zW G A s.heap (wX ad K sv I J B D) H locs := hw
  unfold wp_Terms_readOpenings_A at hok
  refine lv_iconst (v := 0) hx hb zd_Terms_readOpenings_0 (by decide) ?_
  refine lv_istore_n hx hb zd_Terms_readOpenings_1 rfl hl (by decide) rfl (fun ls hl => ?_)
  have hl : lv_has ls 2 [(1, .int 0), (0, .ref (ad 4))] := hl
  obtain ⟨n9, hok⟩ := hok
  exact wL_Terms_readOpenings_A_2 G K ad sv  Post PX C n9 0 I J B D ls H locs hok (lv_sub hl [1, 0] rfl) hw
def wc_Terms_readPart_A_89 (Post : (Nat → Int32) → (Nat → Int64) → (Nat → Nat → Int32) → (Nat → Nat → Int64) → Prop) (PX : String → (Nat → Int32) → (Nat → Int64) → (Nat → Nat → Int32) → (Nat → Nat → Int64) → Prop) (y0 : Int32) (I : Nat → Int32) (J : Nat → Int64) (B : Nat → Nat → Int32) (D : Nat → Nat → Int64) : Prop :=
  wp_Terms_add_A I J B D y0 (fun I1 J1 B1 D1 => Post I1 J1 B1 D1)
def wc_Terms_readPart_A_58 (Post : (Nat → Int32) → (Nat → Int64) → (Nat → Nat → Int32) → (Nat → Nat → Int64) → Prop) (PX : String → (Nat → Int32) → (Nat → Int64) → (Nat → Nat → Int32) → (Nat → Nat → Int64) → Prop) (x1 : Int32) (x2 : Int32) (I : Nat → Int32) (J : Nat → Int64) (B : Nat → Nat → Int32) (D : Nat → Nat → Int64) : Prop :=
  wp_Text_skip I J B D  (fun I2 J2 B2 D2 => ∀ z3 : Int32, z3 = ((I2 13) + 1) → ((¬ x1 = (-1) → wc_Terms_readPart_A_89  Post PX x1 (upd I2 13 z3) J2 B2 D2) ∧ (x1 = (-1) → ∀ z5 : Int32, z5 = (8 + x2) → wc_Terms_readPart_A_89  Post PX z5 (upd I2 13 z3) J2 B2 D2)))
def wc_Terms_readPart_A_51 (Post : (Nat → Int32) → (Nat → Int64) → (Nat → Nat → Int32) → (Nat → Nat → Int64) → Prop) (PX : String → (Nat → Int32) → (Nat → Int64) → (Nat → Nat → Int32) → (Nat → Nat → Int64) → Prop) (x1 : Int32) (x2 : Int32) (I : Nat → Int32) (J : Nat → Int64) (B : Nat → Nat → Int32) (D : Nat → Nat → Int64) : Prop :=
  wp_Text_refuse I J B D  (fun I6 J6 B6 D6 => wc_Terms_readPart_A_58  Post PX x1 x2 I6 J6 B6 D6) PX
def wp_Terms_readPart_A (I : Nat → Int32) (J : Nat → Int64) (B : Nat → Nat → Int32) (D : Nat → Nat → Int64) (Post : (Nat → Int32) → (Nat → Int64) → (Nat → Nat → Int32) → (Nat → Nat → Int64) → Prop) (PX : String → (Nat → Int32) → (Nat → Int64) → (Nat → Nat → Int32) → (Nat → Nat → Int64) → Prop) : Prop :=
  wp_Text_oneOf I J B D 48 (fun r7 I7 J7 B7 D7 => wp_Text_oneOf I7 J7 B7 D7 97 (fun r8 I8 J8 B8 D8 => (((I8 13) = 12 → wc_Terms_readPart_A_51  Post PX r7 r8 I8 J8 B8 D8) ∧ (¬ (I8 13) = 12 → ((¬ r7 = (-1) → wc_Terms_readPart_A_58  Post PX r7 r8 I8 J8 B8 D8) ∧ (r7 = (-1) → ((r8 = (-1) → wc_Terms_readPart_A_51  Post PX r7 r8 I8 J8 B8 D8) ∧ (¬ r8 = (-1) → vp_in r8 8 ∧ ∀ z12 : Int32, z12 = ((B8 2) r8.toNatClampNeg) → ((¬ z12 = 0 → wc_Terms_readPart_A_58  Post PX r7 r8 I8 J8 B8 D8) ∧ (z12 = 0 → wc_Terms_readPart_A_51  Post PX r7 r8 I8 J8 B8 D8))))))))))
set_option maxHeartbeats 8000000 in
set_option maxRecDepth 100000 in
theorem wJ_Terms_readPart_A_89 {p : Program} {l : Launch} {e : Env} {s : State} {m : MethodId} {below : List Frame} {meth : Method} {c : Code} {A : Nat → Prop} (G : va_G) (K : Nat → ClassId) (ad : Nat → Nat) (sv : Value) (Post : (Nat → Int32) → (Nat → Int64) → (Nat → Nat → Int32) → (Nat → Nat → Int64) → Prop) (PX : String → (Nat → Int32) → (Nat → Int64) → (Nat → Nat → Int32) → (Nat → Nat → Int64) → Prop) (C : zCy p l s m ([.ref (ad 4)] : List Value).toArray meth c A G K prog_9_method_5_code none 3 "LassoFinder$Terms") : ∀ (y0 : Int32) (I : Nat → Int32) (J : Nat → Int64) (B : Nat → Nat → Int32) (D : Nat → Nat → Int64) (ls : Array Slot) (H : Heap) (locs : List Loc), wc_Terms_readPart_A_89  Post PX y0 I J B D → lv_has ls 3 [] → zW G A s.heap (wX ad K sv I J B D) H locs → W p l e { frames := 7, cells := 1, slots := 6, locals := 101 } s m ([.ref (ad 4)] : List Value).toArray below meth c H locs 0 0 (zyMQ below (va_Qv (fun u : zS => Post u.1 u.2.1 u.2.2.1 u.2.2.2) (fun u t => zPost G K A (wX ad K sv u.1 u.2.1 u.2.2.1 u.2.2.2) t) A) (zYC (fun E (u : zS) => PX E u.1 u.2.1 u.2.2.1 u.2.2.2) (fun u => wX ad K sv u.1 u.2.1 u.2.2.1 u.2.2.2) G K A) ([.ref (ad 4)] : List Value).toArray s 1 6 A) (F0 m 89 ls [.int y0, .ref (ad 4)]) := by
  obtain ⟨hx, hb, hr, hml, hts, hown, hlocks, hA, hK, hT, hnt, hlt⟩ := id C
  intro y0 I J B D ls H locs hok hl hw
  unfold wc_Terms_readPart_A_89 at hok
  refine z_callv (w1 := fun (u : zS) => wX ad K sv u.1 u.2.1 u.2.2.1 u.2.2.2) (wr := []) (z_runV (q0 := 4) (wc := (wX ad K sv I J B D)) (As := [.int y0]) (rest := []) ⟨hx, hb, hml, hown, hts⟩ (w_Terms_add_A l G K ad sv I J B D y0 _ H.size hok) zf_Terms_add zn_370 ⟨Nat.le_of_ble_eq_true rfl, Nat.le_of_ble_eq_true rfl⟩ hK hw (List.range 65) wX_all wX_nd wX_g4 rfl rfl hl.1 rfl (Nat.le_of_ble_eq_true rfl) zd_Terms_readPart_89 ⟨Nat.le_of_ble_eq_true rfl, Nat.le_of_ble_eq_true rfl⟩) hw hA (List.range 65) [] wX_all rfl (by decide) (fun i hi => by cases hi) (fun u H locs hok hw => ?_)
  obtain ⟨I1, J1, B1, D1⟩ := u
  dsimp only at hok
  have hw : zW G A s.heap (wX ad K sv I1 J1 B1 D1) H locs := hw
  exact zy_ret (z_vret (u := (I1, J1, B1, D1)) hx hb hr hlocks hw (List.range 65) wX_all wX_nd hok (Nat.le_of_ble_eq_true rfl) (Nat.le_of_ble_eq_true rfl) zd_Terms_readPart_92)
set_option maxHeartbeats 8000000 in
set_option maxRecDepth 100000 in
theorem wJ_Terms_readPart_A_58 {p : Program} {l : Launch} {e : Env} {s : State} {m : MethodId} {below : List Frame} {meth : Method} {c : Code} {A : Nat → Prop} (G : va_G) (K : Nat → ClassId) (ad : Nat → Nat) (sv : Value) (Post : (Nat → Int32) → (Nat → Int64) → (Nat → Nat → Int32) → (Nat → Nat → Int64) → Prop) (PX : String → (Nat → Int32) → (Nat → Int64) → (Nat → Nat → Int32) → (Nat → Nat → Int64) → Prop) (C : zCy p l s m ([.ref (ad 4)] : List Value).toArray meth c A G K prog_9_method_5_code none 3 "LassoFinder$Terms") : ∀ (x1 : Int32) (x2 : Int32) (I : Nat → Int32) (J : Nat → Int64) (B : Nat → Nat → Int32) (D : Nat → Nat → Int64) (ls : Array Slot) (H : Heap) (locs : List Loc), wc_Terms_readPart_A_58  Post PX x1 x2 I J B D → lv_has ls 3 [(0, .ref (ad 4)), (1, .int x1), (2, .int x2)] → zW G A s.heap (wX ad K sv I J B D) H locs → W p l e { frames := 7, cells := 1, slots := 6, locals := 101 } s m ([.ref (ad 4)] : List Value).toArray below meth c H locs 0 0 (zyMQ below (va_Qv (fun u : zS => Post u.1 u.2.1 u.2.2.1 u.2.2.2) (fun u t => zPost G K A (wX ad K sv u.1 u.2.1 u.2.2.1 u.2.2.2) t) A) (zYC (fun E (u : zS) => PX E u.1 u.2.1 u.2.2.1 u.2.2.2) (fun u => wX ad K sv u.1 u.2.1 u.2.2.1 u.2.2.2) G K A) ([.ref (ad 4)] : List Value).toArray s 1 6 A) (F0 m 58 ls []) := by
  obtain ⟨hx, hb, hr, hml, hts, hown, hlocks, hA, hK, hT, hnt, hlt⟩ := id C
  intro x1 x2 I J B D ls H locs hok hl hw
  unfold wc_Terms_readPart_A_58 at hok
  refine lv_aload_n hx hb zd_Terms_readPart_58 rfl (lv_at hl 0 rfl) ?_
  refine z_get (v := .ref (ad 1)) hx hb hts hown hK hw zZ8 4 wX_g4 0 (by decide) zn_437 rfl zd_Terms_readPart_59 ?_
  refine z_callv (w1 := fun (u : zS) => wX ad K sv u.1 u.2.1 u.2.2.1 u.2.2.2) (wr := []) (z_runV (q0 := 1) (wc := (wX ad K sv I J B D)) (As := []) (rest := []) ⟨hx, hb, hml, hown, hts⟩ (w_Text_skip l G K ad sv I J B D  _ H.size hok) zf_Text_skip zn_366 ⟨Nat.le_of_ble_eq_true rfl, Nat.le_of_ble_eq_true rfl⟩ hK hw (List.range 65) wX_all wX_nd wX_g1 rfl rfl hl.1 rfl (Nat.le_of_ble_eq_true rfl) zd_Terms_readPart_62 ⟨Nat.le_of_ble_eq_true rfl, Nat.le_of_ble_eq_true rfl⟩) hw hA (List.range 65) [] wX_all rfl (by decide) (fun i hi => by cases hi) (fun u H locs hok hw => ?_)
  obtain ⟨I2, J2, B2, D2⟩ := u
  dsimp only at hok
  have hw : zW G A s.heap (wX ad K sv I2 J2 B2 D2) H locs := hw
  refine lv_aload_n hx hb zd_Terms_readPart_65 rfl (lv_at hl 0 rfl) ?_
  refine lv_dup hx hb zd_Terms_readPart_66 rfl ?_
  refine z_get (v := .int (I2 13)) hx hb hts hown hK hw zZ8 4 wX_g4 7 (by decide) zn_441 rfl zd_Terms_readPart_67 ?_
  refine lv_iconst (v := 1) hx hb zd_Terms_readPart_70 (by decide) ?_
  refine lv_iadd hx hb zd_Terms_readPart_71 ?_
  refine lv_topi (fun z3 ez3 => ?_)
  have hok := hok z3 ez3
  refine z_put (v := .int z3) hx hb hts hown hK hw zZ8 4 wX_g4 7 (by decide) zn_441 rfl rfl rfl (Nat.le_of_ble_eq_true rfl) zd_Terms_readPart_72 (fun H locs hw => ?_)
  have hw := wX_sI13 hw
  refine lv_aload_n hx hb zd_Terms_readPart_75 rfl (lv_at hl 0 rfl) ?_
  refine lv_iload_n hx hb zd_Terms_readPart_76 rfl (lv_at hl 1 rfl) ?_
  refine lv_iconst (v := (-1)) hx hb zd_Terms_readPart_77 (by decide) ?_
  refine lv_icmp_ne (tgt := 88) hx hb zd_Terms_readPart_78 (by decide) (fun hc4 => ?_) (fun hc4 => ?_)
  · have hok := hok.1 hc4
    refine lv_iload_n hx hb zd_Terms_readPart_88 rfl (lv_at hl 1 rfl) ?_
    exact wJ_Terms_readPart_A_89 G K ad sv  Post PX C x1 (upd I2 13 z3) J2 B2 D2 ls H locs hok (lv_sub hl [] rfl) hw
  · have hok := hok.2 hc4
    refine lv_bipush (v := 8) hx hb zd_Terms_readPart_81 (by decide) ?_
    refine lv_iload_n hx hb zd_Terms_readPart_83 rfl (lv_at hl 2 rfl) ?_
    refine lv_iadd hx hb zd_Terms_readPart_84 ?_
    refine lv_topi (fun z5 ez5 => ?_)
    have hok := hok z5 ez5
    refine lv_goto (tgt := 89) hx hb zd_Terms_readPart_85 (by decide) ?_
    exact wJ_Terms_readPart_A_89 G K ad sv  Post PX C z5 (upd I2 13 z3) J2 B2 D2 ls H locs hok (lv_sub hl [] rfl) hw
set_option maxHeartbeats 8000000 in
set_option maxRecDepth 100000 in
theorem wJ_Terms_readPart_A_51 {p : Program} {l : Launch} {e : Env} {s : State} {m : MethodId} {below : List Frame} {meth : Method} {c : Code} {A : Nat → Prop} (G : va_G) (K : Nat → ClassId) (ad : Nat → Nat) (sv : Value) (Post : (Nat → Int32) → (Nat → Int64) → (Nat → Nat → Int32) → (Nat → Nat → Int64) → Prop) (PX : String → (Nat → Int32) → (Nat → Int64) → (Nat → Nat → Int32) → (Nat → Nat → Int64) → Prop) (C : zCy p l s m ([.ref (ad 4)] : List Value).toArray meth c A G K prog_9_method_5_code none 3 "LassoFinder$Terms") : ∀ (x1 : Int32) (x2 : Int32) (I : Nat → Int32) (J : Nat → Int64) (B : Nat → Nat → Int32) (D : Nat → Nat → Int64) (ls : Array Slot) (H : Heap) (locs : List Loc), wc_Terms_readPart_A_51  Post PX x1 x2 I J B D → lv_has ls 3 [(0, .ref (ad 4)), (1, .int x1), (2, .int x2)] → zW G A s.heap (wX ad K sv I J B D) H locs → W p l e { frames := 7, cells := 1, slots := 6, locals := 101 } s m ([.ref (ad 4)] : List Value).toArray below meth c H locs 0 0 (zyMQ below (va_Qv (fun u : zS => Post u.1 u.2.1 u.2.2.1 u.2.2.2) (fun u t => zPost G K A (wX ad K sv u.1 u.2.1 u.2.2.1 u.2.2.2) t) A) (zYC (fun E (u : zS) => PX E u.1 u.2.1 u.2.2.1 u.2.2.2) (fun u => wX ad K sv u.1 u.2.1 u.2.2.1 u.2.2.2) G K A) ([.ref (ad 4)] : List Value).toArray s 1 6 A) (F0 m 51 ls []) := by
  obtain ⟨hx, hb, hr, hml, hts, hown, hlocks, hA, hK, hT, hnt, hlt⟩ := id C
  intro x1 x2 I J B D ls H locs hok hl hw
  unfold wc_Terms_readPart_A_51 at hok
  refine lv_aload_n hx hb zd_Terms_readPart_51 rfl (lv_at hl 0 rfl) ?_
  refine z_get (v := .ref (ad 1)) hx hb hts hown hK hw zZ8 4 wX_g4 0 (by decide) zn_437 rfl zd_Terms_readPart_52 ?_
  refine z_yV (q0 := 1) (wc := (wX ad K sv I J B D)) (wr := []) (w1 := fun (u : zS) => wX ad K sv u.1 u.2.1 u.2.2.1 u.2.2.2) (As := []) (rest := []) ⟨hx, hb, hml, hown, hts⟩ (w_Text_refuse l hlt G K ad sv I J B D  _ _ H.size hok) zf_Text_refuse zn_365 ⟨Nat.le_of_ble_eq_true rfl, Nat.le_of_ble_eq_true rfl⟩ hK hT hw hA (List.range 65) [] wX_all rfl wX_nd (by decide) (fun i hi => by cases hi) wX_g1 rfl rfl hl.1 rfl (Nat.le_of_ble_eq_true rfl) zd_Terms_readPart_55 ⟨Nat.le_of_ble_eq_true rfl, Nat.le_of_ble_eq_true rfl⟩ (fun v st9 t9 L9 h0 hq hL => ?_) (fun E ce q9 u H locs hu hw hce hcv hcl => z_yout (u := u) hnt hlocks hce hcv hcl hw (List.range 65) wX_all wX_nd hu (Nat.le_of_ble_eq_true rfl) (Nat.le_of_ble_eq_true rfl))
  obtain ⟨⟨u, hv9, hok, hB9⟩, hF9⟩ := hq
  cases hv9
  have hw := z_back (wr := []) hw hA (List.range 65) [] wX_all rfl (by decide) (fun i hi => by cases hi) h0 hL hB9 hF9
  obtain ⟨I6, J6, B6, D6⟩ := u
  dsimp only at hok
  generalize t9.heap = H at hw ⊢
  generalize locs ++ L9 = locs at hw ⊢
  have hw : zW G A s.heap (wX ad K sv I6 J6 B6 D6) H locs := hw
  refine W.eq (g2 := F0 m 58 ls []) rfl ?_
  exact wJ_Terms_readPart_A_58 G K ad sv  Post PX C x1 x2 I6 J6 B6 D6 ls H locs hok (lv_sub hl [0, 1, 2] rfl) hw
set_option maxHeartbeats 8000000 in
set_option maxRecDepth 100000 in
theorem w_Terms_readPart_A (l : Launch) (hlt : l.stackTraces = false) (G : va_G) (K : Nat → ClassId) (ad : Nat → Nat) (sv : Value) (I : Nat → Int32) (J : Nat → Int64) (B : Nat → Nat → Int32) (D : Nat → Nat → Int64) (Post : (Nat → Int32) → (Nat → Int64) → (Nat → Nat → Int32) → (Nat → Nat → Int64) → Prop) (PX : String → (Nat → Int32) → (Nat → Int64) → (Nat → Nat → Int32) → (Nat → Nat → Int64) → Prop) (sz : Nat) (hok : wp_Terms_readPart_A I J B D  Post PX) : zyMet l zy_Terms_readPart (Cond.code zy_Terms_readPart prog_9_method_5_code 3 none :: zTB) { frames := 7, cells := 1, slots := 6, locals := 101 } (va_Pc [.ref (ad 4)] (zPreY G K (wX ad K sv I J B D) sz)) (va_Qv (fun u : zS => Post u.1 u.2.1 u.2.2.1 u.2.2.2) (fun u t => zPost G K (va_A (wX ad K sv I J B D) sz) (wX ad K sv u.1 u.2.1 u.2.2.1 u.2.2.2) t) (va_A (wX ad K sv I J B D) sz)) (zYC (fun E (u : zS) => PX E u.1 u.2.1 u.2.2.1 u.2.2.2) (fun u => wX ad K sv u.1 u.2.1 u.2.2.1 u.2.2.2) G K (va_A (wX ad K sv I J B D) sz)) 1 6 (va_A (wX ad K sv I J B D) sz) := by
  refine zMetY (y := zy_Terms_readPart) (av := [.ref (ad 4)]) (maxL := 3) (cc := prog_9_method_5_code) (ret := none) (W0 := (wX ad K sv I J B D)) (sz := sz) (G := G) (K := K) (wt := zTB) (mc := 1) (ms := 6) (Qf := fun A => va_Qv (fun u : zS => Post u.1 u.2.1 u.2.2.1 u.2.2.2) (fun u t => zPost G K A (wX ad K sv u.1 u.2.1 u.2.2.1 u.2.2.2) t) A) (Xf := fun A => (zYC (fun E (u : zS) => PX E u.1 u.2.1 u.2.2.1 u.2.2.2) (fun u => wX ad K sv u.1 u.2.1 u.2.2.1 u.2.2.2) G K A)) (by decide) (Nat.le_of_ble_eq_true rfl) ?_
  intro p e s m below meth c ls A hx hb hr hml hts hown hlocks hin hA hK H locs hw hsz hl hT hnt
  clear hsz
  have hown : s.vm.findClass "LassoFinder$Terms" = some m.cls := hown
  have C : zCy p l s m ([.ref (ad 4)] : List Value).toArray meth c A G K prog_9_method_5_code none 3 "LassoFinder$Terms" := ⟨hx, hb, hr, hml, hts, hown, hlocks, hA, hK, hT, hnt, hlt⟩
  have hl : lv_has ls 3 [(0, .ref (ad 4))] := hl
  have hw : zW G A s.heap (wX ad K sv I J B D) H locs := hw
  unfold wp_Terms_readPart_A at hok
  refine lv_aload_n hx hb zd_Terms_readPart_0 rfl (lv_at hl 0 rfl) ?_
  refine z_get (v := .ref (ad 1)) hx hb hts hown hK hw zZ8 4 wX_g4 0 (by decide) zn_437 rfl zd_Terms_readPart_1 ?_
  refine lv_bipush (v := 48) hx hb zd_Terms_readPart_4 (by decide) ?_
  refine z_calli (w1 := fun (u : zS) => wX ad K sv u.1 u.2.1 u.2.2.1 u.2.2.2) (wr := []) (z_runV (q0 := 1) (wc := (wX ad K sv I J B D)) (As := [.int 48]) (rest := []) ⟨hx, hb, hml, hown, hts⟩ (w_Text_oneOf l G K ad sv I J B D 48 _ H.size hok) zf_Text_oneOf zn_369 ⟨Nat.le_of_ble_eq_true rfl, Nat.le_of_ble_eq_true rfl⟩ hK hw (List.range 65) wX_all wX_nd wX_g1 rfl rfl hl.1 rfl (Nat.le_of_ble_eq_true rfl) zd_Terms_readPart_6 ⟨Nat.le_of_ble_eq_true rfl, Nat.le_of_ble_eq_true rfl⟩) hw hA (List.range 65) [] wX_all rfl (by decide) (fun i hi => by cases hi) (fun r7 u H locs hok hw => ?_)
  obtain ⟨I7, J7, B7, D7⟩ := u
  dsimp only at hok
  have hw : zW G A s.heap (wX ad K sv I7 J7 B7 D7) H locs := hw
  refine lv_istore_n hx hb zd_Terms_readPart_9 rfl hl (by decide) rfl (fun ls hl => ?_)
  have hl : lv_has ls 3 [(1, .int r7), (0, .ref (ad 4))] := hl
  refine lv_aload_n hx hb zd_Terms_readPart_10 rfl (lv_at hl 1 rfl) ?_
  refine z_get (v := .ref (ad 1)) hx hb hts hown hK hw zZ8 4 wX_g4 0 (by decide) zn_437 rfl zd_Terms_readPart_11 ?_
  refine lv_bipush (v := 97) hx hb zd_Terms_readPart_14 (by decide) ?_
  refine z_calli (w1 := fun (u : zS) => wX ad K sv u.1 u.2.1 u.2.2.1 u.2.2.2) (wr := []) (z_runV (q0 := 1) (wc := (wX ad K sv I7 J7 B7 D7)) (As := [.int 97]) (rest := []) ⟨hx, hb, hml, hown, hts⟩ (w_Text_oneOf l G K ad sv I7 J7 B7 D7 97 _ H.size hok) zf_Text_oneOf zn_369 ⟨Nat.le_of_ble_eq_true rfl, Nat.le_of_ble_eq_true rfl⟩ hK hw (List.range 65) wX_all wX_nd wX_g1 rfl rfl hl.1 rfl (Nat.le_of_ble_eq_true rfl) zd_Terms_readPart_16 ⟨Nat.le_of_ble_eq_true rfl, Nat.le_of_ble_eq_true rfl⟩) hw hA (List.range 65) [] wX_all rfl (by decide) (fun i hi => by cases hi) (fun r8 u H locs hok hw => ?_)
  obtain ⟨I8, J8, B8, D8⟩ := u
  dsimp only at hok
  have hw : zW G A s.heap (wX ad K sv I8 J8 B8 D8) H locs := hw
  refine lv_istore_n hx hb zd_Terms_readPart_19 rfl hl (by decide) rfl (fun ls hl => ?_)
  have hl : lv_has ls 3 [(2, .int r8), (1, .int r7), (0, .ref (ad 4))] := hl
  refine lv_aload_n hx hb zd_Terms_readPart_20 rfl (lv_at hl 2 rfl) ?_
  refine z_get (v := .int (I8 13)) hx hb hts hown hK hw zZ8 4 wX_g4 7 (by decide) zn_441 rfl zd_Terms_readPart_21 ?_
  refine lv_bipush (v := 12) hx hb zd_Terms_readPart_24 (by decide) ?_
  refine lv_icmp_eq (tgt := 51) hx hb zd_Terms_readPart_26 (by decide) (fun hc9 => ?_) (fun hc9 => ?_)
  · have hok := hok.1 hc9
    exact wJ_Terms_readPart_A_51 G K ad sv  Post PX C r7 r8 I8 J8 B8 D8 ls H locs hok (lv_sub hl [2, 1, 0] rfl) hw
  · have hok := hok.2 hc9
    refine lv_iload_n hx hb zd_Terms_readPart_29 rfl (lv_at hl 1 rfl) ?_
    refine lv_iconst (v := (-1)) hx hb zd_Terms_readPart_30 (by decide) ?_
    refine lv_icmp_ne (tgt := 58) hx hb zd_Terms_readPart_31 (by decide) (fun hc10 => ?_) (fun hc10 => ?_)
    · have hok := hok.1 hc10
      exact wJ_Terms_readPart_A_58 G K ad sv  Post PX C r7 r8 I8 J8 B8 D8 ls H locs hok (lv_sub hl [2, 1, 0] rfl) hw
    · have hok := hok.2 hc10
      refine lv_iload_n hx hb zd_Terms_readPart_34 rfl (lv_at hl 0 rfl) ?_
      refine lv_iconst (v := (-1)) hx hb zd_Terms_readPart_35 (by decide) ?_
      refine lv_icmp_eq (tgt := 51) hx hb zd_Terms_readPart_36 (by decide) (fun hc11 => ?_) (fun hc11 => ?_)
      · have hok := hok.1 hc11
        exact wJ_Terms_readPart_A_51 G K ad sv  Post PX C r7 r8 I8 J8 B8 D8 ls H locs hok (lv_sub hl [2, 1, 0] rfl) hw
      · have hok := hok.2 hc11
        refine lv_aload_n hx hb zd_Terms_readPart_39 rfl (lv_at hl 2 rfl) ?_
        refine z_get (v := .ref (ad 2)) hx hb hts hown hK hw zZ8 4 wX_g4 1 (by decide) zn_442 rfl zd_Terms_readPart_40 ?_
        refine z_get (v := .ref (ad 14)) hx hb hts hown hK hw zZ5 2 wX_g2 0 (by decide) zn_443 rfl zd_Terms_readPart_43 ?_
        refine lv_iload_n hx hb zd_Terms_readPart_46 rfl (lv_at hl 0 rfl) ?_
        refine va_iald (f := (B8 2)) hx hb hK hw.1 14 0 wX_a14 rfl hok.1 zd_Terms_readPart_47 ?_
        have hok := hok.2
        refine lv_topi (fun z12 ez12 => ?_)
        have hok := hok z12 ez12
        refine lv_if_ne (tgt := 58) hx hb zd_Terms_readPart_48 (by decide) (fun hc13 => ?_) (fun hc13 => ?_)
        · have hok := hok.1 hc13
          exact wJ_Terms_readPart_A_58 G K ad sv  Post PX C r7 r8 I8 J8 B8 D8 ls H locs hok (lv_sub hl [2, 1, 0] rfl) hw
        · have hok := hok.2 hc13
          exact wJ_Terms_readPart_A_51 G K ad sv  Post PX C r7 r8 I8 J8 B8 D8 ls H locs hok (lv_sub hl [2, 1, 0] rfl) hw
