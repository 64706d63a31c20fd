abbrev zy_LassoFinderModel_place : MethodName := ⟨"LassoFinderModel", "place", "()I"⟩
abbrev zy_LassoFinderModel_push : MethodName := ⟨"LassoFinderModel", "push", "(I)Z"⟩
abbrev zy_LassoFinderModel_binds : MethodName := ⟨"LassoFinderModel", "binds", "(I)I"⟩
abbrev zy_LassoFinderModel_depth : MethodName := ⟨"LassoFinderModel", "depth", "()I"⟩
abbrev zy_LassoFinderModel_holdsAt : MethodName := ⟨"LassoFinderModel", "holdsAt", "(I)Z"⟩
abbrev zy_LassoFinderModel_looked : MethodName := ⟨"LassoFinderModel", "looked", "(II)I"⟩
theorem zm_278 : Cond.fieldLink "LassoFinderModel" 145 "LassoFinderModel" "sign" "[I" ∈ zTB := z_in (zt_6 _ (List.mem_of_getElem? (i := 157) rfl)) rfl
theorem zm_281 : Cond.fieldLink "LassoFinderModel" 154 "LassoFinderModel" "atomProcess" "[I" ∈ zTB := z_in (zt_6 _ (List.mem_of_getElem? (i := 164) rfl)) rfl
theorem zm_282 : Cond.fieldLink "LassoFinderModel" 157 "LassoFinderModel" "atomPoint" "[I" ∈ zTB := z_in (zt_6 _ (List.mem_of_getElem? (i := 165) rfl)) rfl
theorem zm_283 : Cond.fieldLink "LassoFinderModel" 160 "LassoFinderModel" "atomBegin" "[I" ∈ zTB := z_in (zt_6 _ (List.mem_of_getElem? (i := 166) rfl)) rfl
theorem zm_284 : Cond.fieldLink "LassoFinderModel" 163 "LassoFinderModel" "atomEnd" "[I" ∈ zTB := z_in (zt_6 _ (List.mem_of_getElem? (i := 167) rfl)) rfl
theorem zm_357 : Cond.fieldLink "LassoFinderModel" 379 "LassoFinderModel" "size" "I" ∈ zTB := z_in (zt_6 _ (List.mem_of_getElem? (i := 156) rfl)) rfl
theorem zm_361 : Cond.methodLink "LassoFinderModel" 382 ⟨"LassoFinderModel", "binds", "(I)I"⟩ ∈ zTB := z_in (zt_8 _ (List.mem_of_getElem? (i := 36) rfl)) rfl
theorem zm_362 : Cond.fieldLink "LassoFinderModel" 391 "LassoFinderModel" "met" "I" ∈ zTB := z_in (zt_6 _ (List.mem_of_getElem? (i := 159) rfl)) rfl
theorem zm_363 : Cond.methodLink "LassoFinderModel" 394 ⟨"LassoFinderModel", "depth", "()I"⟩ ∈ zTB := z_in (zt_8 _ (List.mem_of_getElem? (i := 39) rfl)) rfl
theorem zm_452 : Cond.code ⟨"LassoFinderModel", "binds", "(I)I"⟩ prog_14_method_41_code 1 (some .int) ∈ zTB := z_in (zt_8 _ (List.mem_of_getElem? (i := 38) rfl)) rfl
theorem zm_453 : Cond.static ⟨"LassoFinderModel", "binds", "(I)I"⟩ ∈ zTB := z_in (zt_8 _ (List.mem_of_getElem? (i := 37) rfl)) rfl
theorem zm_454 : Cond.code ⟨"LassoFinderModel", "depth", "()I"⟩ prog_14_method_42_code 3 (some .int) ∈ zTB := z_in (zt_8 _ (List.mem_of_getElem? (i := 42) rfl)) rfl
theorem zm_455 : Cond.instanceMethod ⟨"LassoFinderModel", "depth", "()I"⟩ ∈ zTB := z_in (zt_8 _ (List.mem_of_getElem? (i := 41) rfl)) rfl
theorem zf_LassoFinderModel_binds : zFaceS zy_LassoFinderModel_binds prog_14_method_41_code 1 (some .int) 1 := ⟨zm_453, zm_25, zm_452, by decide +kernel, by decide +kernel, by decide +kernel⟩
theorem zf_LassoFinderModel_depth : zFaceV zy_LassoFinderModel_depth prog_14_method_42_code 3 (some .int) 0 := ⟨zm_455, (z_in (zp_7 _ (List.mem_of_getElem? (i := 11) rfl)) rfl), zm_25, zm_454, by decide +kernel, by decide +kernel, by decide +kernel⟩
theorem zd_LassoFinderModel_binds_0 : decode prog_14_method_41_code 0 = .ok (.iload_n 0, 1) := by decide +kernel
theorem zd_LassoFinderModel_binds_1 : decode prog_14_method_41_code 1 = .ok (.bipush 16, 2) := by decide +kernel
theorem zd_LassoFinderModel_binds_3 : decode prog_14_method_41_code 3 = .ok (.if_icmp .ne 7, 3) := by decide +kernel
theorem zd_LassoFinderModel_binds_6 : decode prog_14_method_41_code 6 = .ok (.iconst 0, 1) := by decide +kernel
theorem zd_LassoFinderModel_binds_7 : decode prog_14_method_41_code 7 = .ok (.goto 50, 3) := by decide +kernel
theorem zd_LassoFinderModel_binds_10 : decode prog_14_method_41_code 10 = .ok (.iload_n 0, 1) := by decide +kernel
theorem zd_LassoFinderModel_binds_11 : decode prog_14_method_41_code 11 = .ok (.bipush 11, 2) := by decide +kernel
theorem zd_LassoFinderModel_binds_13 : decode prog_14_method_41_code 13 = .ok (.if_icmp .ne 7, 3) := by decide +kernel
theorem zd_LassoFinderModel_binds_16 : decode prog_14_method_41_code 16 = .ok (.iconst 1, 1) := by decide +kernel
theorem zd_LassoFinderModel_binds_17 : decode prog_14_method_41_code 17 = .ok (.goto 40, 3) := by decide +kernel
theorem zd_LassoFinderModel_binds_20 : decode prog_14_method_41_code 20 = .ok (.iload_n 0, 1) := by decide +kernel
theorem zd_LassoFinderModel_binds_21 : decode prog_14_method_41_code 21 = .ok (.bipush 10, 2) := by decide +kernel
theorem zd_LassoFinderModel_binds_23 : decode prog_14_method_41_code 23 = .ok (.if_icmp .ne 7, 3) := by decide +kernel
theorem zd_LassoFinderModel_binds_26 : decode prog_14_method_41_code 26 = .ok (.iconst 2, 1) := by decide +kernel
theorem zd_LassoFinderModel_binds_27 : decode prog_14_method_41_code 27 = .ok (.goto 30, 3) := by decide +kernel
theorem zd_LassoFinderModel_binds_30 : decode prog_14_method_41_code 30 = .ok (.iload_n 0, 1) := by decide +kernel
theorem zd_LassoFinderModel_binds_31 : decode prog_14_method_41_code 31 = .ok (.bipush 9, 2) := by decide +kernel
theorem zd_LassoFinderModel_binds_33 : decode prog_14_method_41_code 33 = .ok (.if_icmp .ne 7, 3) := by decide +kernel
theorem zd_LassoFinderModel_binds_36 : decode prog_14_method_41_code 36 = .ok (.iconst 3, 1) := by decide +kernel
theorem zd_LassoFinderModel_binds_37 : decode prog_14_method_41_code 37 = .ok (.goto 20, 3) := by decide +kernel
theorem zd_LassoFinderModel_binds_40 : decode prog_14_method_41_code 40 = .ok (.iload_n 0, 1) := by decide +kernel
theorem zd_LassoFinderModel_binds_41 : decode prog_14_method_41_code 41 = .ok (.bipush 12, 2) := by decide +kernel
theorem zd_LassoFinderModel_binds_43 : decode prog_14_method_41_code 43 = .ok (.if_icmp .eq 9, 3) := by decide +kernel
theorem zd_LassoFinderModel_binds_46 : decode prog_14_method_41_code 46 = .ok (.iload_n 0, 1) := by decide +kernel
theorem zd_LassoFinderModel_binds_47 : decode prog_14_method_41_code 47 = .ok (.bipush 13, 2) := by decide +kernel
theorem zd_LassoFinderModel_binds_49 : decode prog_14_method_41_code 49 = .ok (.if_icmp .ne 7, 3) := by decide +kernel
theorem zd_LassoFinderModel_binds_52 : decode prog_14_method_41_code 52 = .ok (.iconst 4, 1) := by decide +kernel
theorem zd_LassoFinderModel_binds_53 : decode prog_14_method_41_code 53 = .ok (.goto 4, 3) := by decide +kernel
theorem zd_LassoFinderModel_binds_56 : decode prog_14_method_41_code 56 = .ok (.iconst 5, 1) := by decide +kernel
theorem zd_LassoFinderModel_binds_57 : decode prog_14_method_41_code 57 = .ok (.ireturn, 1) := by decide +kernel
theorem zd_LassoFinderModel_depth_0 : decode prog_14_method_42_code 0 = .ok (.iconst 0, 1) := by decide +kernel
theorem zd_LassoFinderModel_depth_1 : decode prog_14_method_42_code 1 = .ok (.istore_n 1, 1) := by decide +kernel
theorem zd_LassoFinderModel_depth_2 : decode prog_14_method_42_code 2 = .ok (.iconst 0, 1) := by decide +kernel
theorem zd_LassoFinderModel_depth_3 : decode prog_14_method_42_code 3 = .ok (.istore_n 2, 1) := by decide +kernel
theorem zd_LassoFinderModel_depth_4 : decode prog_14_method_42_code 4 = .ok (.iload_n 2, 1) := by decide +kernel
theorem zd_LassoFinderModel_depth_5 : decode prog_14_method_42_code 5 = .ok (.aload_n 0, 1) := by decide +kernel
theorem zd_LassoFinderModel_depth_6 : decode prog_14_method_42_code 6 = .ok (.getfield 220, 3) := by decide +kernel
theorem zd_LassoFinderModel_depth_9 : decode prog_14_method_42_code 9 = .ok (.if_icmp .ge 39, 3) := by decide +kernel
theorem zd_LassoFinderModel_depth_12 : decode prog_14_method_42_code 12 = .ok (.iload_n 1, 1) := by decide +kernel
theorem zd_LassoFinderModel_depth_13 : decode prog_14_method_42_code 13 = .ok (.aload_n 0, 1) := by decide +kernel
theorem zd_LassoFinderModel_depth_14 : decode prog_14_method_42_code 14 = .ok (.getfield 103, 3) := by decide +kernel
theorem zd_LassoFinderModel_depth_17 : decode prog_14_method_42_code 17 = .ok (.iload_n 2, 1) := by decide +kernel
theorem zd_LassoFinderModel_depth_18 : decode prog_14_method_42_code 18 = .ok (.iaload, 1) := by decide +kernel
theorem zd_LassoFinderModel_depth_19 : decode prog_14_method_42_code 19 = .ok (.bipush 9, 2) := by decide +kernel
theorem zd_LassoFinderModel_depth_21 : decode prog_14_method_42_code 21 = .ok (.if_icmp .eq 14, 3) := by decide +kernel
theorem zd_LassoFinderModel_depth_24 : decode prog_14_method_42_code 24 = .ok (.aload_n 0, 1) := by decide +kernel
theorem zd_LassoFinderModel_depth_25 : decode prog_14_method_42_code 25 = .ok (.getfield 103, 3) := by decide +kernel
theorem zd_LassoFinderModel_depth_28 : decode prog_14_method_42_code 28 = .ok (.iload_n 2, 1) := by decide +kernel
theorem zd_LassoFinderModel_depth_29 : decode prog_14_method_42_code 29 = .ok (.iaload, 1) := by decide +kernel
theorem zd_LassoFinderModel_depth_30 : decode prog_14_method_42_code 30 = .ok (.bipush 10, 2) := by decide +kernel
theorem zd_LassoFinderModel_depth_32 : decode prog_14_method_42_code 32 = .ok (.if_icmp .ne 7, 3) := by decide +kernel
theorem zd_LassoFinderModel_depth_35 : decode prog_14_method_42_code 35 = .ok (.iconst 0, 1) := by decide +kernel
theorem zd_LassoFinderModel_depth_36 : decode prog_14_method_42_code 36 = .ok (.goto 4, 3) := by decide +kernel
theorem zd_LassoFinderModel_depth_39 : decode prog_14_method_42_code 39 = .ok (.iconst 1, 1) := by decide +kernel
theorem zd_LassoFinderModel_depth_40 : decode prog_14_method_42_code 40 = .ok (.iadd, 1) := by decide +kernel
theorem zd_LassoFinderModel_depth_41 : decode prog_14_method_42_code 41 = .ok (.istore_n 1, 1) := by decide +kernel
theorem zd_LassoFinderModel_depth_42 : decode prog_14_method_42_code 42 = .ok (.iinc 2 1, 3) := by decide +kernel
theorem zd_LassoFinderModel_depth_45 : decode prog_14_method_42_code 45 = .ok (.goto (-41), 3) := by decide +kernel
theorem zd_LassoFinderModel_depth_48 : decode prog_14_method_42_code 48 = .ok (.iload_n 1, 1) := by decide +kernel
theorem zd_LassoFinderModel_depth_49 : decode prog_14_method_42_code 49 = .ok (.ireturn, 1) := by decide +kernel
theorem zd_LassoFinderModel_holdsAt_0 : decode prog_14_method_48_code 0 = .ok (.aload_n 0, 1) := by decide +kernel
theorem zd_LassoFinderModel_holdsAt_1 : decode prog_14_method_48_code 1 = .ok (.getfield 154, 3) := by decide +kernel
theorem zd_LassoFinderModel_holdsAt_4 : decode prog_14_method_48_code 4 = .ok (.iload_n 1, 1) := by decide +kernel
theorem zd_LassoFinderModel_holdsAt_5 : decode prog_14_method_48_code 5 = .ok (.iaload, 1) := by decide +kernel
theorem zd_LassoFinderModel_holdsAt_6 : decode prog_14_method_48_code 6 = .ok (.ifCond .lt 31, 3) := by decide +kernel
theorem zd_LassoFinderModel_holdsAt_9 : decode prog_14_method_48_code 9 = .ok (.aload_n 0, 1) := by decide +kernel
theorem zd_LassoFinderModel_holdsAt_10 : decode prog_14_method_48_code 10 = .ok (.getfield 139, 3) := by decide +kernel
theorem zd_LassoFinderModel_holdsAt_13 : decode prog_14_method_48_code 13 = .ok (.aload_n 0, 1) := by decide +kernel
theorem zd_LassoFinderModel_holdsAt_14 : decode prog_14_method_48_code 14 = .ok (.getfield 154, 3) := by decide +kernel
theorem zd_LassoFinderModel_holdsAt_17 : decode prog_14_method_48_code 17 = .ok (.iload_n 1, 1) := by decide +kernel
theorem zd_LassoFinderModel_holdsAt_18 : decode prog_14_method_48_code 18 = .ok (.iaload, 1) := by decide +kernel
theorem zd_LassoFinderModel_holdsAt_19 : decode prog_14_method_48_code 19 = .ok (.iaload, 1) := by decide +kernel
theorem zd_LassoFinderModel_holdsAt_20 : decode prog_14_method_48_code 20 = .ok (.aload_n 0, 1) := by decide +kernel
theorem zd_LassoFinderModel_holdsAt_21 : decode prog_14_method_48_code 21 = .ok (.getfield 157, 3) := by decide +kernel
theorem zd_LassoFinderModel_holdsAt_24 : decode prog_14_method_48_code 24 = .ok (.iload_n 1, 1) := by decide +kernel
theorem zd_LassoFinderModel_holdsAt_25 : decode prog_14_method_48_code 25 = .ok (.iaload, 1) := by decide +kernel
theorem zd_LassoFinderModel_holdsAt_26 : decode prog_14_method_48_code 26 = .ok (.if_icmp .ne 7, 3) := by decide +kernel
theorem zd_LassoFinderModel_holdsAt_29 : decode prog_14_method_48_code 29 = .ok (.iconst 1, 1) := by decide +kernel
theorem zd_LassoFinderModel_holdsAt_30 : decode prog_14_method_48_code 30 = .ok (.goto 31, 3) := by decide +kernel
theorem zd_LassoFinderModel_holdsAt_33 : decode prog_14_method_48_code 33 = .ok (.iconst 0, 1) := by decide +kernel
theorem zd_LassoFinderModel_holdsAt_34 : decode prog_14_method_48_code 34 = .ok (.goto 27, 3) := by decide +kernel
theorem zd_LassoFinderModel_holdsAt_37 : decode prog_14_method_48_code 37 = .ok (.aload_n 0, 1) := by decide +kernel
theorem zd_LassoFinderModel_holdsAt_38 : decode prog_14_method_48_code 38 = .ok (.aload_n 0, 1) := by decide +kernel
theorem zd_LassoFinderModel_holdsAt_39 : decode prog_14_method_48_code 39 = .ok (.getfield 160, 3) := by decide +kernel
theorem zd_LassoFinderModel_holdsAt_42 : decode prog_14_method_48_code 42 = .ok (.iload_n 1, 1) := by decide +kernel
theorem zd_LassoFinderModel_holdsAt_43 : decode prog_14_method_48_code 43 = .ok (.iaload, 1) := by decide +kernel
theorem zd_LassoFinderModel_holdsAt_44 : decode prog_14_method_48_code 44 = .ok (.aload_n 0, 1) := by decide +kernel
theorem zd_LassoFinderModel_holdsAt_45 : decode prog_14_method_48_code 45 = .ok (.getfield 163, 3) := by decide +kernel
theorem zd_LassoFinderModel_holdsAt_48 : decode prog_14_method_48_code 48 = .ok (.iload_n 1, 1) := by decide +kernel
theorem zd_LassoFinderModel_holdsAt_49 : decode prog_14_method_48_code 49 = .ok (.iaload, 1) := by decide +kernel
theorem zd_LassoFinderModel_holdsAt_50 : decode prog_14_method_48_code 50 = .ok (.invokevirtual 314, 3) := by decide +kernel
theorem zd_LassoFinderModel_holdsAt_53 : decode prog_14_method_48_code 53 = .ok (.ifCond .eq 7, 3) := by decide +kernel
theorem zd_LassoFinderModel_holdsAt_56 : decode prog_14_method_48_code 56 = .ok (.iconst 1, 1) := by decide +kernel
theorem zd_LassoFinderModel_holdsAt_57 : decode prog_14_method_48_code 57 = .ok (.goto 4, 3) := by decide +kernel
theorem zd_LassoFinderModel_holdsAt_60 : decode prog_14_method_48_code 60 = .ok (.iconst 0, 1) := by decide +kernel
theorem zd_LassoFinderModel_holdsAt_61 : decode prog_14_method_48_code 61 = .ok (.ireturn, 1) := by decide +kernel
theorem zd_LassoFinderModel_looked_0 : decode prog_14_method_49_code 0 = .ok (.iconst 0, 1) := by decide +kernel
theorem zd_LassoFinderModel_looked_1 : decode prog_14_method_49_code 1 = .ok (.istore_n 3, 1) := by decide +kernel
theorem zd_LassoFinderModel_looked_2 : decode prog_14_method_49_code 2 = .ok (.iconst 0, 1) := by decide +kernel
theorem zd_LassoFinderModel_looked_3 : decode prog_14_method_49_code 3 = .ok (.istore 4, 2) := by decide +kernel
theorem zd_LassoFinderModel_looked_5 : decode prog_14_method_49_code 5 = .ok (.iconst 0, 1) := by decide +kernel
theorem zd_LassoFinderModel_looked_6 : decode prog_14_method_49_code 6 = .ok (.istore 5, 2) := by decide +kernel
theorem zd_LassoFinderModel_looked_8 : decode prog_14_method_49_code 8 = .ok (.iconst 0, 1) := by decide +kernel
theorem zd_LassoFinderModel_looked_9 : decode prog_14_method_49_code 9 = .ok (.istore 6, 2) := by decide +kernel
theorem zd_LassoFinderModel_looked_11 : decode prog_14_method_49_code 11 = .ok (.iload 6, 2) := by decide +kernel
theorem zd_LassoFinderModel_looked_13 : decode prog_14_method_49_code 13 = .ok (.aload_n 0, 1) := by decide +kernel
theorem zd_LassoFinderModel_looked_14 : decode prog_14_method_49_code 14 = .ok (.getfield 379, 3) := by decide +kernel
theorem zd_LassoFinderModel_looked_17 : decode prog_14_method_49_code 17 = .ok (.if_icmp .ge 238, 3) := by decide +kernel
theorem zd_LassoFinderModel_looked_20 : decode prog_14_method_49_code 20 = .ok (.aload_n 0, 1) := by decide +kernel
theorem zd_LassoFinderModel_looked_21 : decode prog_14_method_49_code 21 = .ok (.getfield 145, 3) := by decide +kernel
theorem zd_LassoFinderModel_looked_24 : decode prog_14_method_49_code 24 = .ok (.iload 6, 2) := by decide +kernel
theorem zd_LassoFinderModel_looked_26 : decode prog_14_method_49_code 26 = .ok (.iaload, 1) := by decide +kernel
theorem zd_LassoFinderModel_looked_27 : decode prog_14_method_49_code 27 = .ok (.istore 7, 2) := by decide +kernel
theorem zd_LassoFinderModel_looked_29 : decode prog_14_method_49_code 29 = .ok (.iload 7, 2) := by decide +kernel
theorem zd_LassoFinderModel_looked_31 : decode prog_14_method_49_code 31 = .ok (.bipush 8, 2) := by decide +kernel
theorem zd_LassoFinderModel_looked_33 : decode prog_14_method_49_code 33 = .ok (.if_icmp .ge 21, 3) := by decide +kernel
theorem zd_LassoFinderModel_looked_36 : decode prog_14_method_49_code 36 = .ok (.aload_n 0, 1) := by decide +kernel
theorem zd_LassoFinderModel_looked_37 : decode prog_14_method_49_code 37 = .ok (.getfield 142, 3) := by decide +kernel
theorem zd_LassoFinderModel_looked_40 : decode prog_14_method_49_code 40 = .ok (.iload_n 3, 1) := by decide +kernel
theorem zd_LassoFinderModel_looked_41 : decode prog_14_method_49_code 41 = .ok (.iload_n 1, 1) := by decide +kernel
theorem zd_LassoFinderModel_looked_42 : decode prog_14_method_49_code 42 = .ok (.iload 7, 2) := by decide +kernel
theorem zd_LassoFinderModel_looked_44 : decode prog_14_method_49_code 44 = .ok (.ishr, 1) := by decide +kernel
theorem zd_LassoFinderModel_looked_45 : decode prog_14_method_49_code 45 = .ok (.iconst 1, 1) := by decide +kernel
theorem zd_LassoFinderModel_looked_46 : decode prog_14_method_49_code 46 = .ok (.iand, 1) := by decide +kernel
theorem zd_LassoFinderModel_looked_47 : decode prog_14_method_49_code 47 = .ok (.iastore, 1) := by decide +kernel
theorem zd_LassoFinderModel_looked_48 : decode prog_14_method_49_code 48 = .ok (.iinc 3 1, 3) := by decide +kernel
theorem zd_LassoFinderModel_looked_51 : decode prog_14_method_49_code 51 = .ok (.goto 198, 3) := by decide +kernel
theorem zd_LassoFinderModel_looked_54 : decode prog_14_method_49_code 54 = .ok (.iload 7, 2) := by decide +kernel
theorem zd_LassoFinderModel_looked_56 : decode prog_14_method_49_code 56 = .ok (.bipush 8, 2) := by decide +kernel
theorem zd_LassoFinderModel_looked_58 : decode prog_14_method_49_code 58 = .ok (.if_icmp .ne 24, 3) := by decide +kernel
theorem zd_LassoFinderModel_looked_61 : decode prog_14_method_49_code 61 = .ok (.aload_n 0, 1) := by decide +kernel
theorem zd_LassoFinderModel_looked_62 : decode prog_14_method_49_code 62 = .ok (.getfield 142, 3) := by decide +kernel
theorem zd_LassoFinderModel_looked_65 : decode prog_14_method_49_code 65 = .ok (.iload_n 3, 1) := by decide +kernel
theorem zd_LassoFinderModel_looked_66 : decode prog_14_method_49_code 66 = .ok (.iconst 1, 1) := by decide +kernel
theorem zd_LassoFinderModel_looked_67 : decode prog_14_method_49_code 67 = .ok (.isub, 1) := by decide +kernel
theorem zd_LassoFinderModel_looked_68 : decode prog_14_method_49_code 68 = .ok (.iconst 1, 1) := by decide +kernel
theorem zd_LassoFinderModel_looked_69 : decode prog_14_method_49_code 69 = .ok (.aload_n 0, 1) := by decide +kernel
theorem zd_LassoFinderModel_looked_70 : decode prog_14_method_49_code 70 = .ok (.getfield 142, 3) := by decide +kernel
theorem zd_LassoFinderModel_looked_73 : decode prog_14_method_49_code 73 = .ok (.iload_n 3, 1) := by decide +kernel
theorem zd_LassoFinderModel_looked_74 : decode prog_14_method_49_code 74 = .ok (.iconst 1, 1) := by decide +kernel
theorem zd_LassoFinderModel_looked_75 : decode prog_14_method_49_code 75 = .ok (.isub, 1) := by decide +kernel
theorem zd_LassoFinderModel_looked_76 : decode prog_14_method_49_code 76 = .ok (.iaload, 1) := by decide +kernel
theorem zd_LassoFinderModel_looked_77 : decode prog_14_method_49_code 77 = .ok (.isub, 1) := by decide +kernel
theorem zd_LassoFinderModel_looked_78 : decode prog_14_method_49_code 78 = .ok (.iastore, 1) := by decide +kernel
theorem zd_LassoFinderModel_looked_79 : decode prog_14_method_49_code 79 = .ok (.goto 170, 3) := by decide +kernel
theorem zd_LassoFinderModel_looked_82 : decode prog_14_method_49_code 82 = .ok (.iload 7, 2) := by decide +kernel
theorem zd_LassoFinderModel_looked_84 : decode prog_14_method_49_code 84 = .ok (.bipush 14, 2) := by decide +kernel
theorem zd_LassoFinderModel_looked_86 : decode prog_14_method_49_code 86 = .ok (.if_icmp .eq 10, 3) := by decide +kernel
theorem zd_LassoFinderModel_looked_89 : decode prog_14_method_49_code 89 = .ok (.iload 7, 2) := by decide +kernel
theorem zd_LassoFinderModel_looked_91 : decode prog_14_method_49_code 91 = .ok (.bipush 15, 2) := by decide +kernel
theorem zd_LassoFinderModel_looked_93 : decode prog_14_method_49_code 93 = .ok (.if_icmp .ne 41, 3) := by decide +kernel
theorem zd_LassoFinderModel_looked_96 : decode prog_14_method_49_code 96 = .ok (.iload 4, 2) := by decide +kernel
theorem zd_LassoFinderModel_looked_98 : decode prog_14_method_49_code 98 = .ok (.aload_n 0, 1) := by decide +kernel
theorem zd_LassoFinderModel_looked_99 : decode prog_14_method_49_code 99 = .ok (.getfield 142, 3) := by decide +kernel
theorem zd_LassoFinderModel_looked_102 : decode prog_14_method_49_code 102 = .ok (.iload_n 3, 1) := by decide +kernel
theorem zd_LassoFinderModel_looked_103 : decode prog_14_method_49_code 103 = .ok (.iconst 1, 1) := by decide +kernel
theorem zd_LassoFinderModel_looked_104 : decode prog_14_method_49_code 104 = .ok (.isub, 1) := by decide +kernel
theorem zd_LassoFinderModel_looked_105 : decode prog_14_method_49_code 105 = .ok (.iaload, 1) := by decide +kernel
theorem zd_LassoFinderModel_looked_106 : decode prog_14_method_49_code 106 = .ok (.iconst 2, 1) := by decide +kernel
theorem zd_LassoFinderModel_looked_107 : decode prog_14_method_49_code 107 = .ok (.iload 5, 2) := by decide +kernel
theorem zd_LassoFinderModel_looked_109 : decode prog_14_method_49_code 109 = .ok (.imul, 1) := by decide +kernel
theorem zd_LassoFinderModel_looked_110 : decode prog_14_method_49_code 110 = .ok (.ishl, 1) := by decide +kernel
theorem zd_LassoFinderModel_looked_111 : decode prog_14_method_49_code 111 = .ok (.ior, 1) := by decide +kernel
theorem zd_LassoFinderModel_looked_112 : decode prog_14_method_49_code 112 = .ok (.istore 4, 2) := by decide +kernel
theorem zd_LassoFinderModel_looked_114 : decode prog_14_method_49_code 114 = .ok (.aload_n 0, 1) := by decide +kernel
theorem zd_LassoFinderModel_looked_115 : decode prog_14_method_49_code 115 = .ok (.getfield 142, 3) := by decide +kernel
theorem zd_LassoFinderModel_looked_118 : decode prog_14_method_49_code 118 = .ok (.iload_n 3, 1) := by decide +kernel
theorem zd_LassoFinderModel_looked_119 : decode prog_14_method_49_code 119 = .ok (.iconst 1, 1) := by decide +kernel
theorem zd_LassoFinderModel_looked_120 : decode prog_14_method_49_code 120 = .ok (.isub, 1) := by decide +kernel
theorem zd_LassoFinderModel_looked_121 : decode prog_14_method_49_code 121 = .ok (.iload_n 2, 1) := by decide +kernel
theorem zd_LassoFinderModel_looked_122 : decode prog_14_method_49_code 122 = .ok (.iload 5, 2) := by decide +kernel
theorem zd_LassoFinderModel_looked_124 : decode prog_14_method_49_code 124 = .ok (.ishr, 1) := by decide +kernel
theorem zd_LassoFinderModel_looked_125 : decode prog_14_method_49_code 125 = .ok (.iconst 1, 1) := by decide +kernel
theorem zd_LassoFinderModel_looked_126 : decode prog_14_method_49_code 126 = .ok (.iand, 1) := by decide +kernel
theorem zd_LassoFinderModel_looked_127 : decode prog_14_method_49_code 127 = .ok (.iastore, 1) := by decide +kernel
theorem zd_LassoFinderModel_looked_128 : decode prog_14_method_49_code 128 = .ok (.iinc 5 1, 3) := by decide +kernel
theorem zd_LassoFinderModel_looked_131 : decode prog_14_method_49_code 131 = .ok (.goto 118, 3) := by decide +kernel
theorem zd_LassoFinderModel_looked_134 : decode prog_14_method_49_code 134 = .ok (.iinc 3 (-1), 3) := by decide +kernel
theorem zd_LassoFinderModel_looked_137 : decode prog_14_method_49_code 137 = .ok (.aload_n 0, 1) := by decide +kernel
theorem zd_LassoFinderModel_looked_138 : decode prog_14_method_49_code 138 = .ok (.getfield 142, 3) := by decide +kernel
theorem zd_LassoFinderModel_looked_141 : decode prog_14_method_49_code 141 = .ok (.iload_n 3, 1) := by decide +kernel
theorem zd_LassoFinderModel_looked_142 : decode prog_14_method_49_code 142 = .ok (.iconst 1, 1) := by decide +kernel
theorem zd_LassoFinderModel_looked_143 : decode prog_14_method_49_code 143 = .ok (.isub, 1) := by decide +kernel
theorem zd_LassoFinderModel_looked_144 : decode prog_14_method_49_code 144 = .ok (.iaload, 1) := by decide +kernel
theorem zd_LassoFinderModel_looked_145 : decode prog_14_method_49_code 145 = .ok (.istore 8, 2) := by decide +kernel
theorem zd_LassoFinderModel_looked_147 : decode prog_14_method_49_code 147 = .ok (.aload_n 0, 1) := by decide +kernel
theorem zd_LassoFinderModel_looked_148 : decode prog_14_method_49_code 148 = .ok (.getfield 142, 3) := by decide +kernel
theorem zd_LassoFinderModel_looked_151 : decode prog_14_method_49_code 151 = .ok (.iload_n 3, 1) := by decide +kernel
theorem zd_LassoFinderModel_looked_152 : decode prog_14_method_49_code 152 = .ok (.iaload, 1) := by decide +kernel
theorem zd_LassoFinderModel_looked_153 : decode prog_14_method_49_code 153 = .ok (.istore 9, 2) := by decide +kernel
theorem zd_LassoFinderModel_looked_155 : decode prog_14_method_49_code 155 = .ok (.iload 7, 2) := by decide +kernel
theorem zd_LassoFinderModel_looked_157 : decode prog_14_method_49_code 157 = .ok (.bipush 12, 2) := by decide +kernel
theorem zd_LassoFinderModel_looked_159 : decode prog_14_method_49_code 159 = .ok (.if_icmp .lt 45, 3) := by decide +kernel
theorem zd_LassoFinderModel_looked_162 : decode prog_14_method_49_code 162 = .ok (.iload 4, 2) := by decide +kernel
theorem zd_LassoFinderModel_looked_164 : decode prog_14_method_49_code 164 = .ok (.iload 8, 2) := by decide +kernel
theorem zd_LassoFinderModel_looked_166 : decode prog_14_method_49_code 166 = .ok (.iconst 2, 1) := by decide +kernel
theorem zd_LassoFinderModel_looked_167 : decode prog_14_method_49_code 167 = .ok (.iload 5, 2) := by decide +kernel
theorem zd_LassoFinderModel_looked_169 : decode prog_14_method_49_code 169 = .ok (.imul, 1) := by decide +kernel
theorem zd_LassoFinderModel_looked_170 : decode prog_14_method_49_code 170 = .ok (.ishl, 1) := by decide +kernel
theorem zd_LassoFinderModel_looked_171 : decode prog_14_method_49_code 171 = .ok (.iload 9, 2) := by decide +kernel
theorem zd_LassoFinderModel_looked_173 : decode prog_14_method_49_code 173 = .ok (.iconst 2, 1) := by decide +kernel
theorem zd_LassoFinderModel_looked_174 : decode prog_14_method_49_code 174 = .ok (.iload 5, 2) := by decide +kernel
theorem zd_LassoFinderModel_looked_176 : decode prog_14_method_49_code 176 = .ok (.imul, 1) := by decide +kernel
theorem zd_LassoFinderModel_looked_177 : decode prog_14_method_49_code 177 = .ok (.iconst 1, 1) := by decide +kernel
theorem zd_LassoFinderModel_looked_178 : decode prog_14_method_49_code 178 = .ok (.iadd, 1) := by decide +kernel
theorem zd_LassoFinderModel_looked_179 : decode prog_14_method_49_code 179 = .ok (.ishl, 1) := by decide +kernel
theorem zd_LassoFinderModel_looked_180 : decode prog_14_method_49_code 180 = .ok (.ior, 1) := by decide +kernel
theorem zd_LassoFinderModel_looked_181 : decode prog_14_method_49_code 181 = .ok (.ior, 1) := by decide +kernel
theorem zd_LassoFinderModel_looked_182 : decode prog_14_method_49_code 182 = .ok (.istore 4, 2) := by decide +kernel
theorem zd_LassoFinderModel_looked_184 : decode prog_14_method_49_code 184 = .ok (.aload_n 0, 1) := by decide +kernel
theorem zd_LassoFinderModel_looked_185 : decode prog_14_method_49_code 185 = .ok (.getfield 142, 3) := by decide +kernel
theorem zd_LassoFinderModel_looked_188 : decode prog_14_method_49_code 188 = .ok (.iload_n 3, 1) := by decide +kernel
theorem zd_LassoFinderModel_looked_189 : decode prog_14_method_49_code 189 = .ok (.iconst 1, 1) := by decide +kernel
theorem zd_LassoFinderModel_looked_190 : decode prog_14_method_49_code 190 = .ok (.isub, 1) := by decide +kernel
theorem zd_LassoFinderModel_looked_191 : decode prog_14_method_49_code 191 = .ok (.iload_n 2, 1) := by decide +kernel
theorem zd_LassoFinderModel_looked_192 : decode prog_14_method_49_code 192 = .ok (.iload 5, 2) := by decide +kernel
theorem zd_LassoFinderModel_looked_194 : decode prog_14_method_49_code 194 = .ok (.ishr, 1) := by decide +kernel
theorem zd_LassoFinderModel_looked_195 : decode prog_14_method_49_code 195 = .ok (.iconst 1, 1) := by decide +kernel
theorem zd_LassoFinderModel_looked_196 : decode prog_14_method_49_code 196 = .ok (.iand, 1) := by decide +kernel
theorem zd_LassoFinderModel_looked_197 : decode prog_14_method_49_code 197 = .ok (.iastore, 1) := by decide +kernel
theorem zd_LassoFinderModel_looked_198 : decode prog_14_method_49_code 198 = .ok (.iinc 5 1, 3) := by decide +kernel
theorem zd_LassoFinderModel_looked_201 : decode prog_14_method_49_code 201 = .ok (.goto 48, 3) := by decide +kernel
theorem zd_LassoFinderModel_looked_204 : decode prog_14_method_49_code 204 = .ok (.aload_n 0, 1) := by decide +kernel
theorem zd_LassoFinderModel_looked_205 : decode prog_14_method_49_code 205 = .ok (.getfield 142, 3) := by decide +kernel
theorem zd_LassoFinderModel_looked_208 : decode prog_14_method_49_code 208 = .ok (.iload_n 3, 1) := by decide +kernel
theorem zd_LassoFinderModel_looked_209 : decode prog_14_method_49_code 209 = .ok (.iconst 1, 1) := by decide +kernel
theorem zd_LassoFinderModel_looked_210 : decode prog_14_method_49_code 210 = .ok (.isub, 1) := by decide +kernel
theorem zd_LassoFinderModel_looked_211 : decode prog_14_method_49_code 211 = .ok (.iload 7, 2) := by decide +kernel
theorem zd_LassoFinderModel_looked_213 : decode prog_14_method_49_code 213 = .ok (.bipush 9, 2) := by decide +kernel
theorem zd_LassoFinderModel_looked_215 : decode prog_14_method_49_code 215 = .ok (.if_icmp .ne 11, 3) := by decide +kernel
theorem zd_LassoFinderModel_looked_218 : decode prog_14_method_49_code 218 = .ok (.iload 8, 2) := by decide +kernel
theorem zd_LassoFinderModel_looked_220 : decode prog_14_method_49_code 220 = .ok (.iload 9, 2) := by decide +kernel
theorem zd_LassoFinderModel_looked_222 : decode prog_14_method_49_code 222 = .ok (.iand, 1) := by decide +kernel
theorem zd_LassoFinderModel_looked_223 : decode prog_14_method_49_code 223 = .ok (.goto 25, 3) := by decide +kernel
theorem zd_LassoFinderModel_looked_226 : decode prog_14_method_49_code 226 = .ok (.iload 7, 2) := by decide +kernel
theorem zd_LassoFinderModel_looked_228 : decode prog_14_method_49_code 228 = .ok (.bipush 10, 2) := by decide +kernel
theorem zd_LassoFinderModel_looked_230 : decode prog_14_method_49_code 230 = .ok (.if_icmp .ne 11, 3) := by decide +kernel
theorem zd_LassoFinderModel_looked_233 : decode prog_14_method_49_code 233 = .ok (.iload 8, 2) := by decide +kernel
theorem zd_LassoFinderModel_looked_235 : decode prog_14_method_49_code 235 = .ok (.iload 9, 2) := by decide +kernel
theorem zd_LassoFinderModel_looked_237 : decode prog_14_method_49_code 237 = .ok (.ior, 1) := by decide +kernel
theorem zd_LassoFinderModel_looked_238 : decode prog_14_method_49_code 238 = .ok (.goto 10, 3) := by decide +kernel
theorem zd_LassoFinderModel_looked_241 : decode prog_14_method_49_code 241 = .ok (.iconst 1, 1) := by decide +kernel
theorem zd_LassoFinderModel_looked_242 : decode prog_14_method_49_code 242 = .ok (.iload 8, 2) := by decide +kernel
theorem zd_LassoFinderModel_looked_244 : decode prog_14_method_49_code 244 = .ok (.isub, 1) := by decide +kernel
theorem zd_LassoFinderModel_looked_245 : decode prog_14_method_49_code 245 = .ok (.iload 9, 2) := by decide +kernel
theorem zd_LassoFinderModel_looked_247 : decode prog_14_method_49_code 247 = .ok (.ior, 1) := by decide +kernel
theorem zd_LassoFinderModel_looked_248 : decode prog_14_method_49_code 248 = .ok (.iastore, 1) := by decide +kernel
theorem zd_LassoFinderModel_looked_249 : decode prog_14_method_49_code 249 = .ok (.iinc 6 1, 3) := by decide +kernel
theorem zd_LassoFinderModel_looked_252 : decode prog_14_method_49_code 252 = .ok (.goto (-241), 3) := by decide +kernel
theorem zd_LassoFinderModel_looked_255 : decode prog_14_method_49_code 255 = .ok (.iload 4, 2) := by decide +kernel
theorem zd_LassoFinderModel_looked_257 : decode prog_14_method_49_code 257 = .ok (.aload_n 0, 1) := by decide +kernel
theorem zd_LassoFinderModel_looked_258 : decode prog_14_method_49_code 258 = .ok (.getfield 142, 3) := by decide +kernel
theorem zd_LassoFinderModel_looked_261 : decode prog_14_method_49_code 261 = .ok (.iconst 0, 1) := by decide +kernel
theorem zd_LassoFinderModel_looked_262 : decode prog_14_method_49_code 262 = .ok (.iaload, 1) := by decide +kernel
theorem zd_LassoFinderModel_looked_263 : decode prog_14_method_49_code 263 = .ok (.bipush 6, 2) := by decide +kernel
theorem zd_LassoFinderModel_looked_265 : decode prog_14_method_49_code 265 = .ok (.ishl, 1) := by decide +kernel
theorem zd_LassoFinderModel_looked_266 : decode prog_14_method_49_code 266 = .ok (.ior, 1) := by decide +kernel
theorem zd_LassoFinderModel_looked_267 : decode prog_14_method_49_code 267 = .ok (.ireturn, 1) := by decide +kernel
theorem zd_LassoFinderModel_place_0 : decode prog_14_method_40_code 0 = .ok (.aload_n 0, 1) := by decide +kernel
theorem zd_LassoFinderModel_place_1 : decode prog_14_method_40_code 1 = .ok (.iconst 0, 1) := by decide +kernel
theorem zd_LassoFinderModel_place_2 : decode prog_14_method_40_code 2 = .ok (.putfield 193, 3) := by decide +kernel
theorem zd_LassoFinderModel_place_5 : decode prog_14_method_40_code 5 = .ok (.aload_n 0, 1) := by decide +kernel
theorem zd_LassoFinderModel_place_6 : decode prog_14_method_40_code 6 = .ok (.getfield 13, 3) := by decide +kernel
theorem zd_LassoFinderModel_place_9 : decode prog_14_method_40_code 9 = .ok (.ireturn, 1) := by decide +kernel
theorem zd_LassoFinderModel_push_0 : decode prog_14_method_46_code 0 = .ok (.iload_n 1, 1) := by decide +kernel
theorem zd_LassoFinderModel_push_1 : decode prog_14_method_46_code 1 = .ok (.bipush 12, 2) := by decide +kernel
theorem zd_LassoFinderModel_push_3 : decode prog_14_method_46_code 3 = .ok (.if_icmp .lt 17, 3) := by decide +kernel
theorem zd_LassoFinderModel_push_6 : decode prog_14_method_46_code 6 = .ok (.iload_n 1, 1) := by decide +kernel
theorem zd_LassoFinderModel_push_7 : decode prog_14_method_46_code 7 = .ok (.bipush 15, 2) := by decide +kernel
theorem zd_LassoFinderModel_push_9 : decode prog_14_method_46_code 9 = .ok (.if_icmp .gt 11, 3) := by decide +kernel
theorem zd_LassoFinderModel_push_12 : decode prog_14_method_46_code 12 = .ok (.aload_n 0, 1) := by decide +kernel
theorem zd_LassoFinderModel_push_13 : decode prog_14_method_46_code 13 = .ok (.getfield 391, 3) := by decide +kernel
theorem zd_LassoFinderModel_push_16 : decode prog_14_method_46_code 16 = .ok (.iconst 3, 1) := by decide +kernel
theorem zd_LassoFinderModel_push_17 : decode prog_14_method_46_code 17 = .ok (.if_icmp .eq 28, 3) := by decide +kernel
theorem zd_LassoFinderModel_push_20 : decode prog_14_method_46_code 20 = .ok (.iload_n 1, 1) := by decide +kernel
theorem zd_LassoFinderModel_push_21 : decode prog_14_method_46_code 21 = .ok (.invokestatic 382, 3) := by decide +kernel
theorem zd_LassoFinderModel_push_24 : decode prog_14_method_46_code 24 = .ok (.iconst 2, 1) := by decide +kernel
theorem zd_LassoFinderModel_push_25 : decode prog_14_method_46_code 25 = .ok (.if_icmp .eq 25, 3) := by decide +kernel
theorem zd_LassoFinderModel_push_28 : decode prog_14_method_46_code 28 = .ok (.iload_n 1, 1) := by decide +kernel
theorem zd_LassoFinderModel_push_29 : decode prog_14_method_46_code 29 = .ok (.invokestatic 382, 3) := by decide +kernel
theorem zd_LassoFinderModel_push_32 : decode prog_14_method_46_code 32 = .ok (.iconst 3, 1) := by decide +kernel
theorem zd_LassoFinderModel_push_33 : decode prog_14_method_46_code 33 = .ok (.if_icmp .eq 17, 3) := by decide +kernel
theorem zd_LassoFinderModel_push_36 : decode prog_14_method_46_code 36 = .ok (.aload_n 0, 1) := by decide +kernel
theorem zd_LassoFinderModel_push_37 : decode prog_14_method_46_code 37 = .ok (.invokevirtual 394, 3) := by decide +kernel
theorem zd_LassoFinderModel_push_40 : decode prog_14_method_46_code 40 = .ok (.bipush 8, 2) := by decide +kernel
theorem zd_LassoFinderModel_push_42 : decode prog_14_method_46_code 42 = .ok (.if_icmp .ne 8, 3) := by decide +kernel
theorem zd_LassoFinderModel_push_45 : decode prog_14_method_46_code 45 = .ok (.aload_n 0, 1) := by decide +kernel
theorem zd_LassoFinderModel_push_46 : decode prog_14_method_46_code 46 = .ok (.invokevirtual 213, 3) := by decide +kernel
theorem zd_LassoFinderModel_push_49 : decode prog_14_method_46_code 49 = .ok (.ireturn, 1) := by decide +kernel
theorem zd_LassoFinderModel_push_50 : decode prog_14_method_46_code 50 = .ok (.aload_n 0, 1) := by decide +kernel
theorem zd_LassoFinderModel_push_51 : decode prog_14_method_46_code 51 = .ok (.dup, 1) := by decide +kernel
theorem zd_LassoFinderModel_push_52 : decode prog_14_method_46_code 52 = .ok (.getfield 391, 3) := by decide +kernel
theorem zd_LassoFinderModel_push_55 : decode prog_14_method_46_code 55 = .ok (.iload_n 1, 1) := by decide +kernel
theorem zd_LassoFinderModel_push_56 : decode prog_14_method_46_code 56 = .ok (.bipush 12, 2) := by decide +kernel
theorem zd_LassoFinderModel_push_58 : decode prog_14_method_46_code 58 = .ok (.if_icmp .lt 13, 3) := by decide +kernel
theorem zd_LassoFinderModel_push_61 : decode prog_14_method_46_code 61 = .ok (.iload_n 1, 1) := by decide +kernel
theorem zd_LassoFinderModel_push_62 : decode prog_14_method_46_code 62 = .ok (.bipush 15, 2) := by decide +kernel
theorem zd_LassoFinderModel_push_64 : decode prog_14_method_46_code 64 = .ok (.if_icmp .gt 7, 3) := by decide +kernel
theorem zd_LassoFinderModel_push_67 : decode prog_14_method_46_code 67 = .ok (.iconst 1, 1) := by decide +kernel
theorem zd_LassoFinderModel_push_68 : decode prog_14_method_46_code 68 = .ok (.goto 4, 3) := by decide +kernel
theorem zd_LassoFinderModel_push_71 : decode prog_14_method_46_code 71 = .ok (.iconst 0, 1) := by decide +kernel
theorem zd_LassoFinderModel_push_72 : decode prog_14_method_46_code 72 = .ok (.iadd, 1) := by decide +kernel
theorem zd_LassoFinderModel_push_73 : decode prog_14_method_46_code 73 = .ok (.putfield 391, 3) := by decide +kernel
theorem zd_LassoFinderModel_push_76 : decode prog_14_method_46_code 76 = .ok (.aload_n 0, 1) := by decide +kernel
theorem zd_LassoFinderModel_push_77 : decode prog_14_method_46_code 77 = .ok (.getfield 103, 3) := by decide +kernel
theorem zd_LassoFinderModel_push_80 : decode prog_14_method_46_code 80 = .ok (.aload_n 0, 1) := by decide +kernel
theorem zd_LassoFinderModel_push_81 : decode prog_14_method_46_code 81 = .ok (.getfield 220, 3) := by decide +kernel
theorem zd_LassoFinderModel_push_84 : decode prog_14_method_46_code 84 = .ok (.iload_n 1, 1) := by decide +kernel
theorem zd_LassoFinderModel_push_85 : decode prog_14_method_46_code 85 = .ok (.iastore, 1) := by decide +kernel
theorem zd_LassoFinderModel_push_86 : decode prog_14_method_46_code 86 = .ok (.aload_n 0, 1) := by decide +kernel
theorem zd_LassoFinderModel_push_87 : decode prog_14_method_46_code 87 = .ok (.dup, 1) := by decide +kernel
theorem zd_LassoFinderModel_push_88 : decode prog_14_method_46_code 88 = .ok (.getfield 220, 3) := by decide +kernel
theorem zd_LassoFinderModel_push_91 : decode prog_14_method_46_code 91 = .ok (.iconst 1, 1) := by decide +kernel
theorem zd_LassoFinderModel_push_92 : decode prog_14_method_46_code 92 = .ok (.iadd, 1) := by decide +kernel
theorem zd_LassoFinderModel_push_93 : decode prog_14_method_46_code 93 = .ok (.putfield 220, 3) := by decide +kernel
theorem zd_LassoFinderModel_push_96 : decode prog_14_method_46_code 96 = .ok (.aload_n 0, 1) := by decide +kernel
theorem zd_LassoFinderModel_push_97 : decode prog_14_method_46_code 97 = .ok (.dup, 1) := by decide +kernel
theorem zd_LassoFinderModel_push_98 : decode prog_14_method_46_code 98 = .ok (.getfield 203, 3) := by decide +kernel
theorem zd_LassoFinderModel_push_101 : decode prog_14_method_46_code 101 = .ok (.iconst 1, 1) := by decide +kernel
theorem zd_LassoFinderModel_push_102 : decode prog_14_method_46_code 102 = .ok (.iadd, 1) := by decide +kernel
theorem zd_LassoFinderModel_push_103 : decode prog_14_method_46_code 103 = .ok (.putfield 203, 3) := by decide +kernel
theorem zd_LassoFinderModel_push_106 : decode prog_14_method_46_code 106 = .ok (.iconst 1, 1) := by decide +kernel
theorem zd_LassoFinderModel_push_107 : decode prog_14_method_46_code 107 = .ok (.ireturn, 1) := by decide +kernel
def wp_LassoFinderModel_place (I : Nat → Int32) (J : Nat → Int64) (B : Nat → Nat → Int32) (D : Nat → Nat → Int64) (Post : Int32 → (Nat → Int32) → (Nat → Int64) → (Nat → Nat → Int32) → (Nat → Nat → Int64) → Prop) : Prop :=
  Post (I 4) (upd I 0 0) J B D
set_option maxHeartbeats 8000000 in
set_option maxRecDepth 100000 in
theorem w_LassoFinderModel_place (l : Launch) (G : va_G) (K : Nat → ClassId) (ad : Nat → Nat) (I : Nat → Int32) (J : Nat → Int64) (B : Nat → Nat → Int32) (D : Nat → Nat → Int64) (Post : Int32 → (Nat → Int32) → (Nat → Int64) → (Nat → Nat → Int32) → (Nat → Nat → Int64) → Prop) (sz : Nat) (hok : wp_LassoFinderModel_place I J B D  Post) : Met l zy_LassoFinderModel_place (Cond.code zy_LassoFinderModel_place prog_14_method_40_code 1 (some .int) :: zTB) { frames := 0, cells := 0, slots := 0, locals := 0 } (va_Pc [.ref (ad 0)] (zPre G K (wM ad K I J B D) sz)) (va_Qi (fun (r : Int32) (u : zS) => Post r u.1 u.2.1 u.2.2.1 u.2.2.2) (fun u t => zPost G K (va_A (wM ad K I J B D) sz) (wM ad K u.1 u.2.1 u.2.2.1 u.2.2.2) t) (va_A (wM ad K I J B D) sz)) 0 0 (va_A (wM ad K I J B D) sz) := by
  refine zMet (y := zy_LassoFinderModel_place) (av := [.ref (ad 0)]) (maxL := 1) (cc := prog_14_method_40_code) (ret := (some .int)) (W0 := (wM ad K I J B D)) (sz := sz) (G := G) (K := K) (wt := zTB) (mc := 0) (ms := 0) (Qf := fun A => va_Qi (fun (r : Int32) (u : zS) => Post r u.1 u.2.1 u.2.2.1 u.2.2.2) (fun u t => zPost G K A (wM ad K u.1 u.2.1 u.2.2.1 u.2.2.2) t) A) (by decide) (Nat.le_of_ble_eq_true rfl) ?_
  intro p e s m below meth c ls A hx hb hr hml hts hown hlocks hin hA hK H locs hw hsz hl
  clear hsz
  have hown : s.vm.findClass "LassoFinderModel" = some m.cls := hown
  have C : zCx p s m ([.ref (ad 0)] : List Value).toArray meth c A G K prog_14_method_40_code (some .int) 1 "LassoFinderModel" := ⟨hx, hb, hr, hml, hts, hown, hlocks, hA, hK⟩
  have hl : lv_has ls 1 [(0, .ref (ad 0))] := hl
  have hw : zW G A s.heap (wM ad K I J B D) H locs := hw
  unfold wp_LassoFinderModel_place at hok
  refine lv_aload_n hx hb zd_LassoFinderModel_place_0 rfl (lv_at hl 0 rfl) ?_
  refine lv_iconst (v := 0) hx hb zd_LassoFinderModel_place_1 (by decide) ?_
  refine z_put (v := .int 0) hx hb hts hown hK hw zZ12 0 wM_g0 0 (by decide) zm_292 rfl rfl rfl (Nat.le_of_ble_eq_true rfl) zd_LassoFinderModel_place_2 (fun H locs hw => ?_)
  have hw := wM_sI0 hw
  refine lv_aload_n hx hb zd_LassoFinderModel_place_5 rfl (lv_at hl 0 rfl) ?_
  refine z_get (v := .int (I 4)) hx hb hts hown hK hw zZ12 0 wM_g0 5 (by decide) zm_328 rfl zd_LassoFinderModel_place_6 ?_
  exact (z_iret (u := ((upd I 0 0), J, B, D)) hx hb hr hlocks rfl hw (List.range 58) wM_all wM_nd hok (Nat.le_of_ble_eq_true rfl) (Nat.le_of_ble_eq_true rfl) zd_LassoFinderModel_place_9)
def wc_LassoFinderModel_looked_249 (a0 : Int32) (a1 : Int32) (K11 : Int32 → Int32 → Int32 → Int32 → Int32 → Int32 → (Nat → Int32) → (Nat → Int64) → (Nat → Nat → Int32) → (Nat → Nat → Int64) → Prop) (Post : Int32 → (Nat → Int32) → (Nat → Int64) → (Nat → Nat → Int32) → (Nat → Nat → Int64) → Prop) (x1 : Int32) (x2 : Int32) (x3 : Int32) (x4 : Int32) (x5 : Int32) (x6 : Int32) (I : Nat → Int32) (J : Nat → Int64) (B : Nat → Nat → Int32) (D : Nat → Nat → Int64) : Prop :=
  ∀ z1 : Int32, z1 = (x6 + 1) → K11 x1 x2 x3 x4 x5 z1 I J B D
def wc_LassoFinderModel_looked_96 (a0 : Int32) (a1 : Int32) (K11 : Int32 → Int32 → Int32 → Int32 → Int32 → Int32 → (Nat → Int32) → (Nat → Int64) → (Nat → Nat → Int32) → (Nat → Nat → Int64) → Prop) (Post : Int32 → (Nat → Int32) → (Nat → Int64) → (Nat → Nat → Int32) → (Nat → Nat → Int64) → Prop) (x1 : Int32) (x2 : Int32) (x3 : Int32) (x4 : Int32) (x5 : Int32) (x6 : Int32) (I : Nat → Int32) (J : Nat → Int64) (B : Nat → Nat → Int32) (D : Nat → Nat → Int64) : Prop :=
  ∀ z2 : Int32, z2 = (x3 - 1) → vp_in z2 240 ∧ ∀ z3 : Int32, z3 = ((B 40) z2.toNatClampNeg) → ∀ z4 : Int32, z4 = (2 * x5) → ∀ z5 : Int32, z5 = (z3 <<< (z4 &&& 31)) → ∀ z6 : Int32, z6 = (x4 ||| z5) → ∀ z7 : Int32, z7 = (x3 - 1) → ∀ z8 : Int32, z8 = (x2 >>> (x5 &&& 31)) → ∀ z9 : Int32, z9 = (z8 &&& 1) → vp_in z7 240 ∧ ∀ z10 : Int32, z10 = (x5 + 1) → wc_LassoFinderModel_looked_249 a0 a1 K11 Post x1 x2 x3 z6 z10 x6 I J (va_up B 40 (upd (B 40) z7.toNatClampNeg z9)) D
def wc_LassoFinderModel_looked_248 (a0 : Int32) (a1 : Int32) (K11 : Int32 → Int32 → Int32 → Int32 → Int32 → Int32 → (Nat → Int32) → (Nat → Int64) → (Nat → Nat → Int32) → (Nat → Nat → Int64) → Prop) (Post : Int32 → (Nat → Int32) → (Nat → Int64) → (Nat → Nat → Int32) → (Nat → Nat → Int64) → Prop) (x1 : Int32) (x2 : Int32) (x3 : Int32) (x4 : Int32) (x5 : Int32) (x6 : Int32) (y0 : Int32) (y1 : Int32) (I : Nat → Int32) (J : Nat → Int64) (B : Nat → Nat → Int32) (D : Nat → Nat → Int64) : Prop :=
  vp_in y1 240 ∧ wc_LassoFinderModel_looked_249 a0 a1 K11 Post x1 x2 x3 x4 x5 x6 I J (va_up B 40 (upd (B 40) y1.toNatClampNeg y0)) D
def wb_LassoFinderModel_looked_11 (a0 : Int32) (a1 : Int32) (K11 : Int32 → Int32 → Int32 → Int32 → Int32 → Int32 → (Nat → Int32) → (Nat → Int64) → (Nat → Nat → Int32) → (Nat → Nat → Int64) → Prop) (Post : Int32 → (Nat → Int32) → (Nat → Int64) → (Nat → Nat → Int32) → (Nat → Nat → Int64) → Prop) (x1 : Int32) (x2 : Int32) (x3 : Int32) (x4 : Int32) (x5 : Int32) (x6 : Int32) (I : Nat → Int32) (J : Nat → Int64) (B : Nat → Nat → Int32) (D : Nat → Nat → Int64) : Prop :=
  (((I 19) ≤ x6 → vp_in 0 240 ∧ ∀ z12 : Int32, z12 = ((B 40) (0 : Int32).toNatClampNeg) → ∀ z13 : Int32, z13 = (z12 <<< (6 &&& 31)) → ∀ z14 : Int32, z14 = (x4 ||| z13) → Post z14 I J B D) ∧ (¬ (I 19) ≤ x6 → vp_in x6 240 ∧ ∀ z15 : Int32, z15 = ((B 41) x6.toNatClampNeg) → (((8 : Int32) ≤ z15 → ((¬ z15 = 8 → ((z15 = 14 → wc_LassoFinderModel_looked_96 a0 a1 K11 Post x1 x2 x3 x4 x5 x6 I J B D) ∧ (¬ z15 = 14 → ((¬ z15 = 15 → ∀ z20 : Int32, z20 = (x3 + (-1)) → ∀ z21 : Int32, z21 = (z20 - 1) → vp_in z21 240 ∧ ∀ z22 : Int32, z22 = ((B 40) z21.toNatClampNeg) → vp_in z20 240 ∧ ∀ z23 : Int32, z23 = ((B 40) z20.toNatClampNeg) → ((z15 < 12 → ∀ z25 : Int32, z25 = (z20 - 1) → ((¬ z15 = 9 → ((¬ z15 = 10 → ∀ z28 : Int32, z28 = (1 - z22) → ∀ z29 : Int32, z29 = (z28 ||| z23) → wc_LassoFinderModel_looked_248 a0 a1 K11 Post x1 x2 z20 x4 x5 x6 z29 z25 I J B D) ∧ (z15 = 10 → ∀ z30 : Int32, z30 = (z22 ||| z23) → wc_LassoFinderModel_looked_248 a0 a1 K11 Post x1 x2 z20 x4 x5 x6 z30 z25 I J B D))) ∧ (z15 = 9 → ∀ z31 : Int32, z31 = (z22 &&& z23) → wc_LassoFinderModel_looked_248 a0 a1 K11 Post x1 x2 z20 x4 x5 x6 z31 z25 I J B D))) ∧ (¬ z15 < 12 → ∀ z32 : Int32, z32 = (2 * x5) → ∀ z33 : Int32, z33 = (z22 <<< (z32 &&& 31)) → ∀ z34 : Int32, z34 = (2 * x5) → ∀ z35 : Int32, z35 = (z34 + 1) → ∀ z36 : Int32, z36 = (z23 <<< (z35 &&& 31)) → ∀ z37 : Int32, z37 = (z33 ||| z36) → ∀ z38 : Int32, z38 = (x4 ||| z37) → ∀ z39 : Int32, z39 = (z20 - 1) → ∀ z40 : Int32, z40 = (x2 >>> (x5 &&& 31)) → ∀ z41 : Int32, z41 = (z40 &&& 1) → vp_in z39 240 ∧ ∀ z42 : Int32, z42 = (x5 + 1) → wc_LassoFinderModel_looked_249 a0 a1 K11 Post x1 x2 z20 z38 z42 x6 I J (va_up B 40 (upd (B 40) z39.toNatClampNeg z41)) D))) ∧ (z15 = 15 → wc_LassoFinderModel_looked_96 a0 a1 K11 Post x1 x2 x3 x4 x5 x6 I J B D))))) ∧ (z15 = 8 → ∀ z43 : Int32, z43 = (x3 - 1) → ∀ z44 : Int32, z44 = (x3 - 1) → vp_in z44 240 ∧ ∀ z45 : Int32, z45 = ((B 40) z44.toNatClampNeg) → ∀ z46 : Int32, z46 = (1 - z45) → vp_in z43 240 ∧ wc_LassoFinderModel_looked_249 a0 a1 K11 Post x1 x2 x3 x4 x5 x6 I J (va_up B 40 (upd (B 40) z43.toNatClampNeg z46)) D))) ∧ (¬ (8 : Int32) ≤ z15 → ∀ z47 : Int32, z47 = (x1 >>> (z15 &&& 31)) → ∀ z48 : Int32, z48 = (z47 &&& 1) → vp_in x3 240 ∧ ∀ z49 : Int32, z49 = (x3 + 1) → wc_LassoFinderModel_looked_249 a0 a1 K11 Post x1 x2 z49 x4 x5 x6 I J (va_up B 40 (upd (B 40) x3.toNatClampNeg z48)) D))))
def wl_LassoFinderModel_looked_11 (a0 : Int32) (a1 : Int32) (Post : Int32 → (Nat → Int32) → (Nat → Int64) → (Nat → Nat → Int32) → (Nat → Nat → Int64) → Prop) (n : Nat) : Int32 → Int32 → Int32 → Int32 → Int32 → Int32 → (Nat → Int32) → (Nat → Int64) → (Nat → Nat → Int32) → (Nat → Nat → Int64) → Prop := Nat.rec (fun _ _ _ _ _ _ _ _ _ _ => False) (fun _ r => wb_LassoFinderModel_looked_11 a0 a1 r Post) n
def wp_LassoFinderModel_looked (I : Nat → Int32) (J : Nat → Int64) (B : Nat → Nat → Int32) (D : Nat → Nat → Int64) (a0 : Int32) (a1 : Int32) (Post : Int32 → (Nat → Int32) → (Nat → Int64) → (Nat → Nat → Int32) → (Nat → Nat → Int64) → Prop) : Prop :=
  ∃ n : Nat, wl_LassoFinderModel_looked_11 a0 a1 Post n a0 a1 0 0 0 0 I J B D
set_option maxHeartbeats 8000000 in
set_option maxRecDepth 100000 in
theorem wJ_LassoFinderModel_looked_249 {p : Program} {l : Launch} {e : Env} {s : State} {m : MethodId} {below : List Frame} {meth : Method} {c : Code} {A : Nat → Prop} (G : va_G) (K : Nat → ClassId) (ad : Nat → Nat) (a0 : Int32) (a1 : Int32) (Post : Int32 → (Nat → Int32) → (Nat → Int64) → (Nat → Nat → Int32) → (Nat → Nat → Int64) → Prop) (C : zCx p s m ([.ref (ad 0), .int a0, .int a1] : List Value).toArray meth c A G K prog_14_method_49_code (some .int) 10 "LassoFinderModel") (K11 : Int32 → Int32 → Int32 → Int32 → Int32 → Int32 → (Nat → Int32) → (Nat → Int64) → (Nat → Nat → Int32) → (Nat → Nat → Int64) → Prop) (kh11 : ∀ (x1 : Int32) (x2 : Int32) (x3 : Int32) (x4 : Int32) (x5 : Int32) (x6 : Int32) (I : Nat → Int32) (J : Nat → Int64) (B : Nat → Nat → Int32) (D : Nat → Nat → Int64) (ls : Array Slot) (H : Heap) (locs : List Loc), K11 x1 x2 x3 x4 x5 x6 I J B D → lv_has ls 10 [(0, .ref (ad 0)), (1, .int x1), (2, .int x2), (3, .int x3), (4, .int x4), (5, .int x5), (6, .int x6)] → zW G A s.heap (wM ad K I J B D) H locs → W p l e { frames := 0, cells := 0, slots := 0, locals := 0 } s m ([.ref (ad 0), .int a0, .int a1] : List Value).toArray below meth c H locs 0 0 (MQ below (va_Qi (fun (r : Int32) (u : zS) => Post r u.1 u.2.1 u.2.2.1 u.2.2.2) (fun u t => zPost G K A (wM ad K u.1 u.2.1 u.2.2.1 u.2.2.2) t) A) ([.ref (ad 0), .int a0, .int a1] : List Value).toArray s 0 0 A) (F0 m 11 ls [])) : ∀ (x1 : Int32) (x2 : Int32) (x3 : Int32) (x4 : Int32) (x5 : Int32) (x6 : Int32) (I : Nat → Int32) (J : Nat → Int64) (B : Nat → Nat → Int32) (D : Nat → Nat → Int64) (ls : Array Slot) (H : Heap) (locs : List Loc), wc_LassoFinderModel_looked_249 a0 a1 K11 Post x1 x2 x3 x4 x5 x6 I J B D → lv_has ls 10 [(0, .ref (ad 0)), (1, .int x1), (2, .int x2), (3, .int x3), (4, .int x4), (5, .int x5), (6, .int x6)] → zW G A s.heap (wM ad K I J B D) H locs → W p l e { frames := 0, cells := 0, slots := 0, locals := 0 } s m ([.ref (ad 0), .int a0, .int a1] : List Value).toArray below meth c H locs 0 0 (MQ below (va_Qi (fun (r : Int32) (u : zS) => Post r u.1 u.2.1 u.2.2.1 u.2.2.2) (fun u t => zPost G K A (wM ad K u.1 u.2.1 u.2.2.1 u.2.2.2) t) A) ([.ref (ad 0), .int a0, .int a1] : List Value).toArray s 0 0 A) (F0 m 249 ls []) := by
  obtain ⟨hx, hb, hr, hml, hts, hown, hlocks, hA, hK⟩ := id C
  intro x1 x2 x3 x4 x5 x6 I J B D ls H locs hok hl hw
  unfold wc_LassoFinderModel_looked_249 at hok
  obtain ⟨z1, ez1⟩ : ∃ z : Int32, z = (x6 + 1) := ⟨_, rfl⟩
  have hok := hok z1 ez1
  refine lv_iinc (v := z1) hx hb zd_LassoFinderModel_looked_249 hl (k := 6) rfl ez1.symm (by decide) rfl (fun ls hl => ?_)
  have hl : lv_has ls 10 [(6, .int z1), (0, .ref (ad 0)), (1, .int x1), (2, .int x2), (3, .int x3), (4, .int x4), (5, .int x5)] := hl
  refine lv_goto (tgt := 11) hx hb zd_LassoFinderModel_looked_252 (by decide) ?_
  exact kh11 x1 x2 x3 x4 x5 z1 I J B D ls H locs hok (lv_sub hl [1, 2, 3, 4, 5, 6, 0] rfl) hw
set_option maxHeartbeats 8000000 in
set_option maxRecDepth 100000 in
theorem wJ_LassoFinderModel_looked_96 {p : Program} {l : Launch} {e : Env} {s : State} {m : MethodId} {below : List Frame} {meth : Method} {c : Code} {A : Nat → Prop} (G : va_G) (K : Nat → ClassId) (ad : Nat → Nat) (a0 : Int32) (a1 : Int32) (Post : Int32 → (Nat → Int32) → (Nat → Int64) → (Nat → Nat → Int32) → (Nat → Nat → Int64) → Prop) (C : zCx p s m ([.ref (ad 0), .int a0, .int a1] : List Value).toArray meth c A G K prog_14_method_49_code (some .int) 10 "LassoFinderModel") (K11 : Int32 → Int32 → Int32 → Int32 → Int32 → Int32 → (Nat → Int32) → (Nat → Int64) → (Nat → Nat → Int32) → (Nat → Nat → Int64) → Prop) (kh11 : ∀ (x1 : Int32) (x2 : Int32) (x3 : Int32) (x4 : Int32) (x5 : Int32) (x6 : Int32) (I : Nat → Int32) (J : Nat → Int64) (B : Nat → Nat → Int32) (D : Nat → Nat → Int64) (ls : Array Slot) (H : Heap) (locs : List Loc), K11 x1 x2 x3 x4 x5 x6 I J B D → lv_has ls 10 [(0, .ref (ad 0)), (1, .int x1), (2, .int x2), (3, .int x3), (4, .int x4), (5, .int x5), (6, .int x6)] → zW G A s.heap (wM ad K I J B D) H locs → W p l e { frames := 0, cells := 0, slots := 0, locals := 0 } s m ([.ref (ad 0), .int a0, .int a1] : List Value).toArray below meth c H locs 0 0 (MQ below (va_Qi (fun (r : Int32) (u : zS) => Post r u.1 u.2.1 u.2.2.1 u.2.2.2) (fun u t => zPost G K A (wM ad K u.1 u.2.1 u.2.2.1 u.2.2.2) t) A) ([.ref (ad 0), .int a0, .int a1] : List Value).toArray s 0 0 A) (F0 m 11 ls [])) : ∀ (x1 : Int32) (x2 : Int32) (x3 : Int32) (x4 : Int32) (x5 : Int32) (x6 : Int32) (I : Nat → Int32) (J : Nat → Int64) (B : Nat → Nat → Int32) (D : Nat → Nat → Int64) (ls : Array Slot) (H : Heap) (locs : List Loc), wc_LassoFinderModel_looked_96 a0 a1 K11 Post x1 x2 x3 x4 x5 x6 I J B D → lv_has ls 10 [(0, .ref (ad 0)), (1, .int x1), (2, .int x2), (3, .int x3), (4, .int x4), (5, .int x5), (6, .int x6)] → zW G A s.heap (wM ad K I J B D) H locs → W p l e { frames := 0, cells := 0, slots := 0, locals := 0 } s m ([.ref (ad 0), .int a0, .int a1] : List Value).toArray below meth c H locs 0 0 (MQ below (va_Qi (fun (r : Int32) (u : zS) => Post r u.1 u.2.1 u.2.2.1 u.2.2.2) (fun u t => zPost G K A (wM ad K u.1 u.2.1 u.2.2.1 u.2.2.2) t) A) ([.ref (ad 0), .int a0, .int a1] : List Value).toArray s 0 0 A) (F0 m 96 ls []) := by
  obtain ⟨hx, hb, hr, hml, hts, hown, hlocks, hA, hK⟩ := id C
  intro x1 x2 x3 x4 x5 x6 I J B D ls H locs hok hl hw
  unfold wc_LassoFinderModel_looked_96 at hok
  refine lv_iload hx hb zd_LassoFinderModel_looked_96 (lv_at hl 4 rfl) ?_
  refine lv_aload_n hx hb zd_LassoFinderModel_looked_98 rfl (lv_at hl 0 rfl) ?_
  refine z_get (v := .ref (ad 43)) hx hb hts hown hK hw zZ12 0 wM_g0 60 (by decide) zm_277 rfl zd_LassoFinderModel_looked_99 ?_
  refine lv_iload_n hx hb zd_LassoFinderModel_looked_102 rfl (lv_at hl 3 rfl) ?_
  refine lv_iconst (v := 1) hx hb zd_LassoFinderModel_looked_103 (by decide) ?_
  refine lv_isub hx hb zd_LassoFinderModel_looked_104 ?_
  refine lv_topi (fun z2 ez2 => ?_)
  have hok := hok z2 ez2
  refine va_iald (f := (B 40)) hx hb hK hw.1 43 0 wM_a43 rfl hok.1 zd_LassoFinderModel_looked_105 ?_
  have hok := hok.2
  refine lv_topi (fun z3 ez3 => ?_)
  have hok := hok z3 ez3
  refine lv_iconst (v := 2) hx hb zd_LassoFinderModel_looked_106 (by decide) ?_
  refine lv_iload hx hb zd_LassoFinderModel_looked_107 (lv_at hl 5 rfl) ?_
  refine lv_imul hx hb zd_LassoFinderModel_looked_109 ?_
  refine lv_topi (fun z4 ez4 => ?_)
  have hok := hok z4 ez4
  refine lv_ishl hx hb zd_LassoFinderModel_looked_110 ?_
  refine lv_topi (fun z5 ez5 => ?_)
  have hok := hok z5 ez5
  refine lv_ior hx hb zd_LassoFinderModel_looked_111 ?_
  refine lv_topi (fun z6 ez6 => ?_)
  have hok := hok z6 ez6
  refine lv_istore hx hb zd_LassoFinderModel_looked_112 hl (by decide) rfl (fun ls hl => ?_)
  have hl : lv_has ls 10 [(4, .int z6), (0, .ref (ad 0)), (1, .int x1), (2, .int x2), (3, .int x3), (5, .int x5), (6, .int x6)] := hl
  refine lv_aload_n hx hb zd_LassoFinderModel_looked_114 rfl (lv_at hl 1 rfl) ?_
  refine z_get (v := .ref (ad 43)) hx hb hts hown hK hw zZ12 0 wM_g0 60 (by decide) zm_277 rfl zd_LassoFinderModel_looked_115 ?_
  refine lv_iload_n hx hb zd_LassoFinderModel_looked_118 rfl (lv_at hl 4 rfl) ?_
  refine lv_iconst (v := 1) hx hb zd_LassoFinderModel_looked_119 (by decide) ?_
  refine lv_isub hx hb zd_LassoFinderModel_looked_120 ?_
  refine lv_topi (fun z7 ez7 => ?_)
  have hok := hok z7 ez7
  refine lv_iload_n hx hb zd_LassoFinderModel_looked_121 rfl (lv_at hl 3 rfl) ?_
  refine lv_iload hx hb zd_LassoFinderModel_looked_122 (lv_at hl 5 rfl) ?_
  refine lv_ishr hx hb zd_LassoFinderModel_looked_124 ?_
  refine lv_topi (fun z8 ez8 => ?_)
  have hok := hok z8 ez8
  refine lv_iconst (v := 1) hx hb zd_LassoFinderModel_looked_125 (by decide) ?_
  refine lv_iand hx hb zd_LassoFinderModel_looked_126 ?_
  refine lv_topi (fun z9 ez9 => ?_)
  have hok := hok z9 ez9
  refine va_iast (f := (B 40)) hx hb hK hw.1 hw.2.1 hw.2.2 43 0 wM_a43 rfl hok.1 zd_LassoFinderModel_looked_127 (fun H locs w91 w92 w93 => ?_)
  have hok := hok.2
  have hw := wM_t43 ⟨w91, w92, w93⟩
  obtain ⟨z10, ez10⟩ : ∃ z : Int32, z = (x5 + 1) := ⟨_, rfl⟩
  have hok := hok z10 ez10
  refine lv_iinc (v := z10) hx hb zd_LassoFinderModel_looked_128 hl (k := 5) rfl ez10.symm (by decide) rfl (fun ls hl => ?_)
  have hl : lv_has ls 10 [(5, .int z10), (4, .int z6), (0, .ref (ad 0)), (1, .int x1), (2, .int x2), (3, .int x3), (6, .int x6)] := hl
  refine lv_goto (tgt := 249) hx hb zd_LassoFinderModel_looked_131 (by decide) ?_
  exact wJ_LassoFinderModel_looked_249 G K ad a0 a1 Post C K11 kh11 x1 x2 x3 z6 z10 x6 I J (va_up B 40 (upd (B 40) z7.toNatClampNeg z9)) D ls H locs hok (lv_sub hl [2, 3, 4, 5, 1, 0, 6] rfl) hw
set_option maxHeartbeats 8000000 in
set_option maxRecDepth 100000 in
theorem wJ_LassoFinderModel_looked_248 {p : Program} {l : Launch} {e : Env} {s : State} {m : MethodId} {below : List Frame} {meth : Method} {c : Code} {A : Nat → Prop} (G : va_G) (K : Nat → ClassId) (ad : Nat → Nat) (a0 : Int32) (a1 : Int32) (Post : Int32 → (Nat → Int32) → (Nat → Int64) → (Nat → Nat → Int32) → (Nat → Nat → Int64) → Prop) (C : zCx p s m ([.ref (ad 0), .int a0, .int a1] : List Value).toArray meth c A G K prog_14_method_49_code (some .int) 10 "LassoFinderModel") (K11 : Int32 → Int32 → Int32 → Int32 → Int32 → Int32 → (Nat → Int32) → (Nat → Int64) → (Nat → Nat → Int32) → (Nat → Nat → Int64) → Prop) (kh11 : ∀ (x1 : Int32) (x2 : Int32) (x3 : Int32) (x4 : Int32) (x5 : Int32) (x6 : Int32) (I : Nat → Int32) (J : Nat → Int64) (B : Nat → Nat → Int32) (D : Nat → Nat → Int64) (ls : Array Slot) (H : Heap) (locs : List Loc), K11 x1 x2 x3 x4 x5 x6 I J B D → lv_has ls 10 [(0, .ref (ad 0)), (1, .int x1), (2, .int x2), (3, .int x3), (4, .int x4), (5, .int x5), (6, .int x6)] → zW G A s.heap (wM ad K I J B D) H locs → W p l e { frames := 0, cells := 0, slots := 0, locals := 0 } s m ([.ref (ad 0), .int a0, .int a1] : List Value).toArray below meth c H locs 0 0 (MQ below (va_Qi (fun (r : Int32) (u : zS) => Post r u.1 u.2.1 u.2.2.1 u.2.2.2) (fun u t => zPost G K A (wM ad K u.1 u.2.1 u.2.2.1 u.2.2.2) t) A) ([.ref (ad 0), .int a0, .int a1] : List Value).toArray s 0 0 A) (F0 m 11 ls [])) : ∀ (x1 : Int32) (x2 : Int32) (x3 : Int32) (x4 : Int32) (x5 : Int32) (x6 : Int32) (y0 : Int32) (y1 : Int32) (I : Nat → Int32) (J : Nat → Int64) (B : Nat → Nat → Int32) (D : Nat → Nat → Int64) (ls : Array Slot) (H : Heap) (locs : List Loc), wc_LassoFinderModel_looked_248 a0 a1 K11 Post x1 x2 x3 x4 x5 x6 y0 y1 I J B D → lv_has ls 10 [(0, .ref (ad 0)), (1, .int x1), (2, .int x2), (3, .int x3), (4, .int x4), (5, .int x5), (6, .int x6)] → zW G A s.heap (wM ad K I J B D) H locs → W p l e { frames := 0, cells := 0, slots := 0, locals := 0 } s m ([.ref (ad 0), .int a0, .int a1] : List Value).toArray below meth c H locs 0 0 (MQ below (va_Qi (fun (r : Int32) (u : zS) => Post r u.1 u.2.1 u.2.2.1 u.2.2.2) (fun u t => zPost G K A (wM ad K u.1 u.2.1 u.2.2.1 u.2.2.2) t) A) ([.ref (ad 0), .int a0, .int a1] : List Value).toArray s 0 0 A) (F0 m 248 ls [.int y0, .int y1, .ref (ad 43)]) := by
  obtain ⟨hx, hb, hr, hml, hts, hown, hlocks, hA, hK⟩ := id C
  intro x1 x2 x3 x4 x5 x6 y0 y1 I J B D ls H locs hok hl hw
  unfold wc_LassoFinderModel_looked_248 at hok
  refine va_iast (f := (B 40)) hx hb hK hw.1 hw.2.1 hw.2.2 43 0 wM_a43 rfl hok.1 zd_LassoFinderModel_looked_248 (fun H locs w91 w92 w93 => ?_)
  have hok := hok.2
  have hw := wM_t43 ⟨w91, w92, w93⟩
  exact wJ_LassoFinderModel_looked_249 G K ad a0 a1 Post C K11 kh11 x1 x2 x3 x4 x5 x6 I J (va_up B 40 (upd (B 40) y1.toNatClampNeg y0)) D ls H locs hok (lv_sub hl [0, 1, 2, 3, 4, 5, 6] rfl) hw
set_option maxHeartbeats 8000000 in
set_option maxRecDepth 100000 in
theorem wB_LassoFinderModel_looked_11 {p : Program} {l : Launch} {e : Env} {s : State} {m : MethodId} {below : List Frame} {meth : Method} {c : Code} {A : Nat → Prop} (G : va_G) (K : Nat → ClassId) (ad : Nat → Nat) (a0 : Int32) (a1 : Int32) (Post : Int32 → (Nat → Int32) → (Nat → Int64) → (Nat → Nat → Int32) → (Nat → Nat → Int64) → Prop) (C : zCx p s m ([.ref (ad 0), .int a0, .int a1] : List Value).toArray meth c A G K prog_14_method_49_code (some .int) 10 "LassoFinderModel") (K11 : Int32 → Int32 → Int32 → Int32 → Int32 → Int32 → (Nat → Int32) → (Nat → Int64) → (Nat → Nat → Int32) → (Nat → Nat → Int64) → Prop) (kh11 : ∀ (x1 : Int32) (x2 : Int32) (x3 : Int32) (x4 : Int32) (x5 : Int32) (x6 : Int32) (I : Nat → Int32) (J : Nat → Int64) (B : Nat → Nat → Int32) (D : Nat → Nat → Int64) (ls : Array Slot) (H : Heap) (locs : List Loc), K11 x1 x2 x3 x4 x5 x6 I J B D → lv_has ls 10 [(0, .ref (ad 0)), (1, .int x1), (2, .int x2), (3, .int x3), (4, .int x4), (5, .int x5), (6, .int x6)] → zW G A s.heap (wM ad K I J B D) H locs → W p l e { frames := 0, cells := 0, slots := 0, locals := 0 } s m ([.ref (ad 0), .int a0, .int a1] : List Value).toArray below meth c H locs 0 0 (MQ below (va_Qi (fun (r : Int32) (u : zS) => Post r u.1 u.2.1 u.2.2.1 u.2.2.2) (fun u t => zPost G K A (wM ad K u.1 u.2.1 u.2.2.1 u.2.2.2) t) A) ([.ref (ad 0), .int a0, .int a1] : List Value).toArray s 0 0 A) (F0 m 11 ls [])) : ∀ (x1 : Int32) (x2 : Int32) (x3 : Int32) (x4 : Int32) (x5 : Int32) (x6 : Int32) (I : Nat → Int32) (J : Nat → Int64) (B : Nat → Nat → Int32) (D : Nat → Nat → Int64) (ls : Array Slot) (H : Heap) (locs : List Loc), wb_LassoFinderModel_looked_11 a0 a1 K11 Post x1 x2 x3 x4 x5 x6 I J B D → lv_has ls 10 [(0, .ref (ad 0)), (1, .int x1), (2, .int x2), (3, .int x3), (4, .int x4), (5, .int x5), (6, .int x6)] → zW G A s.heap (wM ad K I J B D) H locs → W p l e { frames := 0, cells := 0, slots := 0, locals := 0 } s m ([.ref (ad 0), .int a0, .int a1] : List Value).toArray below meth c H locs 0 0 (MQ below (va_Qi (fun (r : Int32) (u : zS) => Post r u.1 u.2.1 u.2.2.1 u.2.2.2) (fun u t => zPost G K A (wM ad K u.1 u.2.1 u.2.2.1 u.2.2.2) t) A) ([.ref (ad 0), .int a0, .int a1] : List Value).toArray s 0 0 A) (F0 m 11 ls []) := by
  obtain ⟨hx, hb, hr, hml, hts, hown, hlocks, hA, hK⟩ := id C
  intro x1 x2 x3 x4 x5 x6 I J B D ls H locs hok hl hw
  unfold wb_LassoFinderModel_looked_11 at hok
  refine lv_iload hx hb zd_LassoFinderModel_looked_11 (lv_at hl 6 rfl) ?_
  refine lv_aload_n hx hb zd_LassoFinderModel_looked_13 rfl (lv_at hl 0 rfl) ?_
  refine z_get (v := .int (I 19)) hx hb hts hown hK hw zZ12 0 wM_g0 62 (by decide) zm_357 rfl zd_LassoFinderModel_looked_14 ?_
  refine lv_icmp_ge (tgt := 255) hx hb zd_LassoFinderModel_looked_17 (by decide) (fun hc11 => ?_) (fun hc11 => ?_)
  · have hok := hok.1 hc11
    refine lv_iload hx hb zd_LassoFinderModel_looked_255 (lv_at hl 4 rfl) ?_
    refine lv_aload_n hx hb zd_LassoFinderModel_looked_257 rfl (lv_at hl 0 rfl) ?_
    refine z_get (v := .ref (ad 43)) hx hb hts hown hK hw zZ12 0 wM_g0 60 (by decide) zm_277 rfl zd_LassoFinderModel_looked_258 ?_
    refine lv_iconst (v := 0) hx hb zd_LassoFinderModel_looked_261 (by decide) ?_
    refine va_iald (f := (B 40)) hx hb hK hw.1 43 0 wM_a43 rfl hok.1 zd_LassoFinderModel_looked_262 ?_
    have hok := hok.2
    refine lv_topi (fun z12 ez12 => ?_)
    have hok := hok z12 ez12
    refine lv_bipush (v := 6) hx hb zd_LassoFinderModel_looked_263 (by decide) ?_
    refine lv_ishl hx hb zd_LassoFinderModel_looked_265 ?_
    refine lv_topi (fun z13 ez13 => ?_)
    have hok := hok z13 ez13
    refine lv_ior hx hb zd_LassoFinderModel_looked_266 ?_
    refine lv_topi (fun z14 ez14 => ?_)
    have hok := hok z14 ez14
    exact (z_iret (u := (I, J, B, D)) hx hb hr hlocks rfl hw (List.range 58) wM_all wM_nd hok (Nat.le_of_ble_eq_true rfl) (Nat.le_of_ble_eq_true rfl) zd_LassoFinderModel_looked_267)
  · have hok := hok.2 hc11
    refine lv_aload_n hx hb zd_LassoFinderModel_looked_20 rfl (lv_at hl 0 rfl) ?_
    refine z_get (v := .ref (ad 44)) hx hb hts hown hK hw zZ12 0 wM_g0 63 (by decide) zm_278 rfl zd_LassoFinderModel_looked_21 ?_
    refine lv_iload hx hb zd_LassoFinderModel_looked_24 (lv_at hl 6 rfl) ?_
    refine va_iald (f := (B 41)) hx hb hK hw.1 44 0 wM_a44 rfl hok.1 zd_LassoFinderModel_looked_26 ?_
    have hok := hok.2
    refine lv_topi (fun z15 ez15 => ?_)
    have hok := hok z15 ez15
    refine lv_istore hx hb zd_LassoFinderModel_looked_27 hl (by decide) rfl (fun ls hl => ?_)
    have hl : lv_has ls 10 [(7, .int z15), (0, .ref (ad 0)), (1, .int x1), (2, .int x2), (3, .int x3), (4, .int x4), (5, .int x5), (6, .int x6)] := hl
    refine lv_iload hx hb zd_LassoFinderModel_looked_29 (lv_at hl 0 rfl) ?_
    refine lv_bipush (v := 8) hx hb zd_LassoFinderModel_looked_31 (by decide) ?_
    refine lv_icmp_ge (tgt := 54) hx hb zd_LassoFinderModel_looked_33 (by decide) (fun hc16 => ?_) (fun hc16 => ?_)
    · have hok := hok.1 hc16
      refine lv_iload hx hb zd_LassoFinderModel_looked_54 (lv_at hl 0 rfl) ?_
      refine lv_bipush (v := 8) hx hb zd_LassoFinderModel_looked_56 (by decide) ?_
      refine lv_icmp_ne (tgt := 82) hx hb zd_LassoFinderModel_looked_58 (by decide) (fun hc17 => ?_) (fun hc17 => ?_)
      · have hok := hok.1 hc17
        refine lv_iload hx hb zd_LassoFinderModel_looked_82 (lv_at hl 0 rfl) ?_
        refine lv_bipush (v := 14) hx hb zd_LassoFinderModel_looked_84 (by decide) ?_
        refine lv_icmp_eq (tgt := 96) hx hb zd_LassoFinderModel_looked_86 (by decide) (fun hc18 => ?_) (fun hc18 => ?_)
        · have hok := hok.1 hc18
          exact wJ_LassoFinderModel_looked_96 G K ad a0 a1 Post C K11 kh11 x1 x2 x3 x4 x5 x6 I J B D ls H locs hok (lv_sub hl [1, 2, 3, 4, 5, 6, 7] rfl) hw
        · have hok := hok.2 hc18
          refine lv_iload hx hb zd_LassoFinderModel_looked_89 (lv_at hl 0 rfl) ?_
          refine lv_bipush (v := 15) hx hb zd_LassoFinderModel_looked_91 (by decide) ?_
          refine lv_icmp_ne (tgt := 134) hx hb zd_LassoFinderModel_looked_93 (by decide) (fun hc19 => ?_) (fun hc19 => ?_)
          · have hok := hok.1 hc19
            obtain ⟨z20, ez20⟩ : ∃ z : Int32, z = (x3 + (-1)) := ⟨_, rfl⟩
            have hok := hok z20 ez20
            refine lv_iinc (v := z20) hx hb zd_LassoFinderModel_looked_134 hl (k := 4) rfl ez20.symm (by decide) rfl (fun ls hl => ?_)
            have hl : lv_has ls 10 [(3, .int z20), (7, .int z15), (0, .ref (ad 0)), (1, .int x1), (2, .int x2), (4, .int x4), (5, .int x5), (6, .int x6)] := hl
            refine lv_aload_n hx hb zd_LassoFinderModel_looked_137 rfl (lv_at hl 2 rfl) ?_
            refine z_get (v := .ref (ad 43)) hx hb hts hown hK hw zZ12 0 wM_g0 60 (by decide) zm_277 rfl zd_LassoFinderModel_looked_138 ?_
            refine lv_iload_n hx hb zd_LassoFinderModel_looked_141 rfl (lv_at hl 0 rfl) ?_
            refine lv_iconst (v := 1) hx hb zd_LassoFinderModel_looked_142 (by decide) ?_
            refine lv_isub hx hb zd_LassoFinderModel_looked_143 ?_
            refine lv_topi (fun z21 ez21 => ?_)
            have hok := hok z21 ez21
            refine va_iald (f := (B 40)) hx hb hK hw.1 43 0 wM_a43 rfl hok.1 zd_LassoFinderModel_looked_144 ?_
            have hok := hok.2
            refine lv_topi (fun z22 ez22 => ?_)
            have hok := hok z22 ez22
            refine lv_istore hx hb zd_LassoFinderModel_looked_145 hl (by decide) rfl (fun ls hl => ?_)
            have hl : lv_has ls 10 [(8, .int z22), (3, .int z20), (7, .int z15), (0, .ref (ad 0)), (1, .int x1), (2, .int x2), (4, .int x4), (5, .int x5), (6, .int x6)] := hl
            refine lv_aload_n hx hb zd_LassoFinderModel_looked_147 rfl (lv_at hl 3 rfl) ?_
            refine z_get (v := .ref (ad 43)) hx hb hts hown hK hw zZ12 0 wM_g0 60 (by decide) zm_277 rfl zd_LassoFinderModel_looked_148 ?_
            refine lv_iload_n hx hb zd_LassoFinderModel_looked_151 rfl (lv_at hl 1 rfl) ?_
            refine va_iald (f := (B 40)) hx hb hK hw.1 43 0 wM_a43 rfl hok.1 zd_LassoFinderModel_looked_152 ?_
            have hok := hok.2
            refine lv_topi (fun z23 ez23 => ?_)
            have hok := hok z23 ez23
            refine lv_istore hx hb zd_LassoFinderModel_looked_153 hl (by decide) rfl (fun ls hl => ?_)
            have hl : lv_has ls 10 [(9, .int z23), (8, .int z22), (3, .int z20), (7, .int z15), (0, .ref (ad 0)), (1, .int x1), (2, .int x2), (4, .int x4), (5, .int x5), (6, .int x6)] := hl
            refine lv_iload hx hb zd_LassoFinderModel_looked_155 (lv_at hl 3 rfl) ?_
            refine lv_bipush (v := 12) hx hb zd_LassoFinderModel_looked_157 (by decide) ?_
            refine lv_icmp_lt (tgt := 204) hx hb zd_LassoFinderModel_looked_159 (by decide) (fun hc24 => ?_) (fun hc24 => ?_)
            · have hok := hok.1 hc24
              refine lv_aload_n hx hb zd_LassoFinderModel_looked_204 rfl (lv_at hl 4 rfl) ?_
              refine z_get (v := .ref (ad 43)) hx hb hts hown hK hw zZ12 0 wM_g0 60 (by decide) zm_277 rfl zd_LassoFinderModel_looked_205 ?_
              refine lv_iload_n hx hb zd_LassoFinderModel_looked_208 rfl (lv_at hl 2 rfl) ?_
              refine lv_iconst (v := 1) hx hb zd_LassoFinderModel_looked_209 (by decide) ?_
              refine lv_isub hx hb zd_LassoFinderModel_looked_210 ?_
              refine lv_topi (fun z25 ez25 => ?_)
              have hok := hok z25 ez25
              refine lv_iload hx hb zd_LassoFinderModel_looked_211 (lv_at hl 3 rfl) ?_
              refine lv_bipush (v := 9) hx hb zd_LassoFinderModel_looked_213 (by decide) ?_
              refine lv_icmp_ne (tgt := 226) hx hb zd_LassoFinderModel_looked_215 (by decide) (fun hc26 => ?_) (fun hc26 => ?_)
              · have hok := hok.1 hc26
                refine lv_iload hx hb zd_LassoFinderModel_looked_226 (lv_at hl 3 rfl) ?_
                refine lv_bipush (v := 10) hx hb zd_LassoFinderModel_looked_228 (by decide) ?_
                refine lv_icmp_ne (tgt := 241) hx hb zd_LassoFinderModel_looked_230 (by decide) (fun hc27 => ?_) (fun hc27 => ?_)
                · have hok := hok.1 hc27
                  refine lv_iconst (v := 1) hx hb zd_LassoFinderModel_looked_241 (by decide) ?_
                  refine lv_iload hx hb zd_LassoFinderModel_looked_242 (lv_at hl 1 rfl) ?_
                  refine lv_isub hx hb zd_LassoFinderModel_looked_244 ?_
                  refine lv_topi (fun z28 ez28 => ?_)
                  have hok := hok z28 ez28
                  refine lv_iload hx hb zd_LassoFinderModel_looked_245 (lv_at hl 0 rfl) ?_
                  refine lv_ior hx hb zd_LassoFinderModel_looked_247 ?_
                  refine lv_topi (fun z29 ez29 => ?_)
                  have hok := hok z29 ez29
                  exact wJ_LassoFinderModel_looked_248 G K ad a0 a1 Post C K11 kh11 x1 x2 z20 x4 x5 x6 z29 z25 I J B D ls H locs hok (lv_sub hl [4, 5, 6, 2, 7, 8, 9] rfl) hw
                · have hok := hok.2 hc27
                  refine lv_iload hx hb zd_LassoFinderModel_looked_233 (lv_at hl 1 rfl) ?_
                  refine lv_iload hx hb zd_LassoFinderModel_looked_235 (lv_at hl 0 rfl) ?_
                  refine lv_ior hx hb zd_LassoFinderModel_looked_237 ?_
                  refine lv_topi (fun z30 ez30 => ?_)
                  have hok := hok z30 ez30
                  refine lv_goto (tgt := 248) hx hb zd_LassoFinderModel_looked_238 (by decide) ?_
                  exact wJ_LassoFinderModel_looked_248 G K ad a0 a1 Post C K11 kh11 x1 x2 z20 x4 x5 x6 z30 z25 I J B D ls H locs hok (lv_sub hl [4, 5, 6, 2, 7, 8, 9] rfl) hw
              · have hok := hok.2 hc26
                refine lv_iload hx hb zd_LassoFinderModel_looked_218 (lv_at hl 1 rfl) ?_
                refine lv_iload hx hb zd_LassoFinderModel_looked_220 (lv_at hl 0 rfl) ?_
                refine lv_iand hx hb zd_LassoFinderModel_looked_222 ?_
                refine lv_topi (fun z31 ez31 => ?_)
                have hok := hok z31 ez31
                refine lv_goto (tgt := 248) hx hb zd_LassoFinderModel_looked_223 (by decide) ?_
                exact wJ_LassoFinderModel_looked_248 G K ad a0 a1 Post C K11 kh11 x1 x2 z20 x4 x5 x6 z31 z25 I J B D ls H locs hok (lv_sub hl [4, 5, 6, 2, 7, 8, 9] rfl) hw
            · have hok := hok.2 hc24
              refine lv_iload hx hb zd_LassoFinderModel_looked_162 (lv_at hl 7 rfl) ?_
              refine lv_iload hx hb zd_LassoFinderModel_looked_164 (lv_at hl 1 rfl) ?_
              refine lv_iconst (v := 2) hx hb zd_LassoFinderModel_looked_166 (by decide) ?_
              refine lv_iload hx hb zd_LassoFinderModel_looked_167 (lv_at hl 8 rfl) ?_
              refine lv_imul hx hb zd_LassoFinderModel_looked_169 ?_
              refine lv_topi (fun z32 ez32 => ?_)
              have hok := hok z32 ez32
              refine lv_ishl hx hb zd_LassoFinderModel_looked_170 ?_
              refine lv_topi (fun z33 ez33 => ?_)
              have hok := hok z33 ez33
              refine lv_iload hx hb zd_LassoFinderModel_looked_171 (lv_at hl 0 rfl) ?_
              refine lv_iconst (v := 2) hx hb zd_LassoFinderModel_looked_173 (by decide) ?_
              refine lv_iload hx hb zd_LassoFinderModel_looked_174 (lv_at hl 8 rfl) ?_
              refine lv_imul hx hb zd_LassoFinderModel_looked_176 ?_
              refine lv_topi (fun z34 ez34 => ?_)
              have hok := hok z34 ez34
              refine lv_iconst (v := 1) hx hb zd_LassoFinderModel_looked_177 (by decide) ?_
              refine lv_iadd hx hb zd_LassoFinderModel_looked_178 ?_
              refine lv_topi (fun z35 ez35 => ?_)
              have hok := hok z35 ez35
              refine lv_ishl hx hb zd_LassoFinderModel_looked_179 ?_
              refine lv_topi (fun z36 ez36 => ?_)
              have hok := hok z36 ez36
              refine lv_ior hx hb zd_LassoFinderModel_looked_180 ?_
              refine lv_topi (fun z37 ez37 => ?_)
              have hok := hok z37 ez37
              refine lv_ior hx hb zd_LassoFinderModel_looked_181 ?_
              refine lv_topi (fun z38 ez38 => ?_)
              have hok := hok z38 ez38
              refine lv_istore hx hb zd_LassoFinderModel_looked_182 hl (by decide) rfl (fun ls hl => ?_)
              have hl : lv_has ls 10 [(4, .int z38), (9, .int z23), (8, .int z22), (3, .int z20), (7, .int z15), (0, .ref (ad 0)), (1, .int x1), (2, .int x2), (5, .int x5), (6, .int x6)] := hl
              refine lv_aload_n hx hb zd_LassoFinderModel_looked_184 rfl (lv_at hl 5 rfl) ?_
              refine z_get (v := .ref (ad 43)) hx hb hts hown hK hw zZ12 0 wM_g0 60 (by decide) zm_277 rfl zd_LassoFinderModel_looked_185 ?_
              refine lv_iload_n hx hb zd_LassoFinderModel_looked_188 rfl (lv_at hl 3 rfl) ?_
              refine lv_iconst (v := 1) hx hb zd_LassoFinderModel_looked_189 (by decide) ?_
              refine lv_isub hx hb zd_LassoFinderModel_looked_190 ?_
              refine lv_topi (fun z39 ez39 => ?_)
              have hok := hok z39 ez39
              refine lv_iload_n hx hb zd_LassoFinderModel_looked_191 rfl (lv_at hl 7 rfl) ?_
              refine lv_iload hx hb zd_LassoFinderModel_looked_192 (lv_at hl 8 rfl) ?_
              refine lv_ishr hx hb zd_LassoFinderModel_looked_194 ?_
              refine lv_topi (fun z40 ez40 => ?_)
              have hok := hok z40 ez40
              refine lv_iconst (v := 1) hx hb zd_LassoFinderModel_looked_195 (by decide) ?_
              refine lv_iand hx hb zd_LassoFinderModel_looked_196 ?_
              refine lv_topi (fun z41 ez41 => ?_)
              have hok := hok z41 ez41
              refine va_iast (f := (B 40)) hx hb hK hw.1 hw.2.1 hw.2.2 43 0 wM_a43 rfl hok.1 zd_LassoFinderModel_looked_197 (fun H locs w91 w92 w93 => ?_)
              have hok := hok.2
              have hw := wM_t43 ⟨w91, w92, w93⟩
              obtain ⟨z42, ez42⟩ : ∃ z : Int32, z = (x5 + 1) := ⟨_, rfl⟩
              have hok := hok z42 ez42
              refine lv_iinc (v := z42) hx hb zd_LassoFinderModel_looked_198 hl (k := 8) rfl ez42.symm (by decide) rfl (fun ls hl => ?_)
              have hl : lv_has ls 10 [(5, .int z42), (4, .int z38), (9, .int z23), (8, .int z22), (3, .int z20), (7, .int z15), (0, .ref (ad 0)), (1, .int x1), (2, .int x2), (6, .int x6)] := hl
              refine lv_goto (tgt := 249) hx hb zd_LassoFinderModel_looked_201 (by decide) ?_
              exact wJ_LassoFinderModel_looked_249 G K ad a0 a1 Post C K11 kh11 x1 x2 z20 z38 z42 x6 I J (va_up B 40 (upd (B 40) z39.toNatClampNeg z41)) D ls H locs hok (lv_sub hl [6, 7, 8, 4, 1, 0, 9] rfl) hw
          · have hok := hok.2 hc19
            exact wJ_LassoFinderModel_looked_96 G K ad a0 a1 Post C K11 kh11 x1 x2 x3 x4 x5 x6 I J B D ls H locs hok (lv_sub hl [1, 2, 3, 4, 5, 6, 7] rfl) hw
      · have hok := hok.2 hc17
        refine lv_aload_n hx hb zd_LassoFinderModel_looked_61 rfl (lv_at hl 1 rfl) ?_
        refine z_get (v := .ref (ad 43)) hx hb hts hown hK hw zZ12 0 wM_g0 60 (by decide) zm_277 rfl zd_LassoFinderModel_looked_62 ?_
        refine lv_iload_n hx hb zd_LassoFinderModel_looked_65 rfl (lv_at hl 4 rfl) ?_
        refine lv_iconst (v := 1) hx hb zd_LassoFinderModel_looked_66 (by decide) ?_
        refine lv_isub hx hb zd_LassoFinderModel_looked_67 ?_
        refine lv_topi (fun z43 ez43 => ?_)
        have hok := hok z43 ez43
        refine lv_iconst (v := 1) hx hb zd_LassoFinderModel_looked_68 (by decide) ?_
        refine lv_aload_n hx hb zd_LassoFinderModel_looked_69 rfl (lv_at hl 1 rfl) ?_
        refine z_get (v := .ref (ad 43)) hx hb hts hown hK hw zZ12 0 wM_g0 60 (by decide) zm_277 rfl zd_LassoFinderModel_looked_70 ?_
        refine lv_iload_n hx hb zd_LassoFinderModel_looked_73 rfl (lv_at hl 4 rfl) ?_
        refine lv_iconst (v := 1) hx hb zd_LassoFinderModel_looked_74 (by decide) ?_
        refine lv_isub hx hb zd_LassoFinderModel_looked_75 ?_
        refine lv_topi (fun z44 ez44 => ?_)
        have hok := hok z44 ez44
        refine va_iald (f := (B 40)) hx hb hK hw.1 43 0 wM_a43 rfl hok.1 zd_LassoFinderModel_looked_76 ?_
        have hok := hok.2
        refine lv_topi (fun z45 ez45 => ?_)
        have hok := hok z45 ez45
        refine lv_isub hx hb zd_LassoFinderModel_looked_77 ?_
        refine lv_topi (fun z46 ez46 => ?_)
        have hok := hok z46 ez46
        refine va_iast (f := (B 40)) hx hb hK hw.1 hw.2.1 hw.2.2 43 0 wM_a43 rfl hok.1 zd_LassoFinderModel_looked_78 (fun H locs w91 w92 w93 => ?_)
        have hok := hok.2
        have hw := wM_t43 ⟨w91, w92, w93⟩
        refine lv_goto (tgt := 249) hx hb zd_LassoFinderModel_looked_79 (by decide) ?_
        exact wJ_LassoFinderModel_looked_249 G K ad a0 a1 Post C K11 kh11 x1 x2 x3 x4 x5 x6 I J (va_up B 40 (upd (B 40) z43.toNatClampNeg z46)) D ls H locs hok (lv_sub hl [1, 2, 3, 4, 5, 6, 7] rfl) hw
    · have hok := hok.2 hc16
      refine lv_aload_n hx hb zd_LassoFinderModel_looked_36 rfl (lv_at hl 1 rfl) ?_
      refine z_get (v := .ref (ad 43)) hx hb hts hown hK hw zZ12 0 wM_g0 60 (by decide) zm_277 rfl zd_LassoFinderModel_looked_37 ?_
      refine lv_iload_n hx hb zd_LassoFinderModel_looked_40 rfl (lv_at hl 4 rfl) ?_
      refine lv_iload_n hx hb zd_LassoFinderModel_looked_41 rfl (lv_at hl 2 rfl) ?_
      refine lv_iload hx hb zd_LassoFinderModel_looked_42 (lv_at hl 0 rfl) ?_
      refine lv_ishr hx hb zd_LassoFinderModel_looked_44 ?_
      refine lv_topi (fun z47 ez47 => ?_)
      have hok := hok z47 ez47
      refine lv_iconst (v := 1) hx hb zd_LassoFinderModel_looked_45 (by decide) ?_
      refine lv_iand hx hb zd_LassoFinderModel_looked_46 ?_
      refine lv_topi (fun z48 ez48 => ?_)
      have hok := hok z48 ez48
      refine va_iast (f := (B 40)) hx hb hK hw.1 hw.2.1 hw.2.2 43 0 wM_a43 rfl hok.1 zd_LassoFinderModel_looked_47 (fun H locs w91 w92 w93 => ?_)
      have hok := hok.2
      have hw := wM_t43 ⟨w91, w92, w93⟩
      obtain ⟨z49, ez49⟩ : ∃ z : Int32, z = (x3 + 1) := ⟨_, rfl⟩
      have hok := hok z49 ez49
      refine lv_iinc (v := z49) hx hb zd_LassoFinderModel_looked_48 hl (k := 4) rfl ez49.symm (by decide) rfl (fun ls hl => ?_)
      have hl : lv_has ls 10 [(3, .int z49), (7, .int z15), (0, .ref (ad 0)), (1, .int x1), (2, .int x2), (4, .int x4), (5, .int x5), (6, .int x6)] := hl
      refine lv_goto (tgt := 249) hx hb zd_LassoFinderModel_looked_51 (by decide) ?_
      exact wJ_LassoFinderModel_looked_249 G K ad a0 a1 Post C K11 kh11 x1 x2 z49 x4 x5 x6 I J (va_up B 40 (upd (B 40) x3.toNatClampNeg z48)) D ls H locs hok (lv_sub hl [2, 3, 4, 0, 5, 6, 7] rfl) hw
theorem wL_LassoFinderModel_looked_11 {p : Program} {l : Launch} {e : Env} {s : State} {m : MethodId} {below : List Frame} {meth : Method} {c : Code} {A : Nat → Prop} (G : va_G) (K : Nat → ClassId) (ad : Nat → Nat) (a0 : Int32) (a1 : Int32) (Post : Int32 → (Nat → Int32) → (Nat → Int64) → (Nat → Nat → Int32) → (Nat → Nat → Int64) → Prop) (C : zCx p s m ([.ref (ad 0), .int a0, .int a1] : List Value).toArray meth c A G K prog_14_method_49_code (some .int) 10 "LassoFinderModel") : ∀ (n : Nat) (x1 : Int32) (x2 : Int32) (x3 : Int32) (x4 : Int32) (x5 : Int32) (x6 : Int32) (I : Nat → Int32) (J : Nat → Int64) (B : Nat → Nat → Int32) (D : Nat → Nat → Int64) (ls : Array Slot) (H : Heap) (locs : List Loc), wl_LassoFinderModel_looked_11 a0 a1 Post n x1 x2 x3 x4 x5 x6 I J B D → lv_has ls 10 [(0, .ref (ad 0)), (1, .int x1), (2, .int x2), (3, .int x3), (4, .int x4), (5, .int x5), (6, .int x6)] → zW G A s.heap (wM ad K I J B D) H locs → W p l e { frames := 0, cells := 0, slots := 0, locals := 0 } s m ([.ref (ad 0), .int a0, .int a1] : List Value).toArray below meth c H locs 0 0 (MQ below (va_Qi (fun (r : Int32) (u : zS) => Post r u.1 u.2.1 u.2.2.1 u.2.2.2) (fun u t => zPost G K A (wM ad K u.1 u.2.1 u.2.2.1 u.2.2.2) t) A) ([.ref (ad 0), .int a0, .int a1] : List Value).toArray s 0 0 A) (F0 m 11 ls []) := by
  intro n
  induction n with
  | zero => intro x1 x2 x3 x4 x5 x6 I J B D ls H locs hok; exact hok.elim
  | succ n ih => exact wB_LassoFinderModel_looked_11 G K ad a0 a1 Post C (wl_LassoFinderModel_looked_11 a0 a1 Post n) ih
set_option maxHeartbeats 8000000 in
set_option maxRecDepth 100000 in
theorem w_LassoFinderModel_looked (l : Launch) (G : va_G) (K : Nat → ClassId) (ad : Nat → Nat) (I : Nat → Int32) (J : Nat → Int64) (B : Nat → Nat → Int32) (D : Nat → Nat → Int64) (a0 : Int32) (a1 : Int32) (Post : Int32 → (Nat → Int32) → (Nat → Int64) → (Nat → Nat → Int32) → (Nat → Nat → Int64) → Prop) (sz : Nat) (hok : wp_LassoFinderModel_looked I J B D a0 a1 Post) : Met l zy_LassoFinderModel_looked (Cond.code zy_LassoFinderModel_looked prog_14_method_49_code 10 (some .int) :: zTB) { frames := 0, cells := 0, slots := 0, locals := 0 } (va_Pc [.ref (ad 0), .int a0, .int a1] (zPre G K (wM ad K I J B D) sz)) (va_Qi (fun (r : Int32) (u : zS) => Post r u.1 u.2.1 u.2.2.1 u.2.2.2) (fun u t => zPost G K (va_A (wM ad K I J B D) sz) (wM ad K u.1 u.2.1 u.2.2.1 u.2.2.2) t) (va_A (wM ad K I J B D) sz)) 0 0 (va_A (wM ad K I J B D) sz) := by
  refine zMet (y := zy_LassoFinderModel_looked) (av := [.ref (ad 0), .int a0, .int a1]) (maxL := 10) (cc := prog_14_method_49_code) (ret := (some .int)) (W0 := (wM ad K I J B D)) (sz := sz) (G := G) (K := K) (wt := zTB) (mc := 0) (ms := 0) (Qf := fun A => va_Qi (fun (r : Int32) (u : zS) => Post r u.1 u.2.1 u.2.2.1 u.2.2.2) (fun u t => zPost G K A (wM ad K u.1 u.2.1 u.2.2.1 u.2.2.2) t) A) (by decide) (Nat.le_of_ble_eq_true rfl) ?_
  intro p e s m below meth c ls A hx hb hr hml hts hown hlocks hin hA hK H locs hw hsz hl
  clear hsz
  have hown : s.vm.findClass "LassoFinderModel" = some m.cls := hown
  have C : zCx p s m ([.ref (ad 0), .int a0, .int a1] : List Value).toArray meth c A G K prog_14_method_49_code (some .int) 10 "LassoFinderModel" := ⟨hx, hb, hr, hml, hts, hown, hlocks, hA, hK⟩
  have hl : lv_has ls 10 [(0, .ref (ad 0)), (1, .int a0), (2, .int a1)] := hl
  have hw : zW G A s.heap (wM ad K I J B D) H locs := hw
  unfold wp_LassoFinderModel_looked at hok
  refine lv_iconst (v := 0) hx hb zd_LassoFinderModel_looked_0 (by decide) ?_
  refine lv_istore_n hx hb zd_LassoFinderModel_looked_1 rfl hl (by decide) rfl (fun ls hl => ?_)
  have hl : lv_has ls 10 [(3, .int 0), (0, .ref (ad 0)), (1, .int a0), (2, .int a1)] := hl
  refine lv_iconst (v := 0) hx hb zd_LassoFinderModel_looked_2 (by decide) ?_
  refine lv_istore hx hb zd_LassoFinderModel_looked_3 hl (by decide) rfl (fun ls hl => ?_)
  have hl : lv_has ls 10 [(4, .int 0), (3, .int 0), (0, .ref (ad 0)), (1, .int a0), (2, .int a1)] := hl
  refine lv_iconst (v := 0) hx hb zd_LassoFinderModel_looked_5 (by decide) ?_
  refine lv_istore hx hb zd_LassoFinderModel_looked_6 hl (by decide) rfl (fun ls hl => ?_)
  have hl : lv_has ls 10 [(5, .int 0), (4, .int 0), (3, .int 0), (0, .ref (ad 0)), (1, .int a0), (2, .int a1)] := hl
  refine lv_iconst (v := 0) hx hb zd_LassoFinderModel_looked_8 (by decide) ?_
  refine lv_istore hx hb zd_LassoFinderModel_looked_9 hl (by decide) rfl (fun ls hl => ?_)
  have hl : lv_has ls 10 [(6, .int 0), (5, .int 0), (4, .int 0), (3, .int 0), (0, .ref (ad 0)), (1, .int a0), (2, .int a1)] := hl
  obtain ⟨n9, hok⟩ := hok
  exact wL_LassoFinderModel_looked_11 G K ad a0 a1 Post C n9 a0 a1 0 0 0 0 I J B D ls H locs hok (lv_sub hl [4, 5, 6, 3, 2, 1, 0] rfl) hw
def wc_LassoFinderModel_holdsAt_61 (a0 : Int32) (Post : Int32 → (Nat → Int32) → (Nat → Int64) → (Nat → Nat → Int32) → (Nat → Nat → Int64) → Prop) (y0 : Int32) (I : Nat → Int32) (J : Nat → Int64) (B : Nat → Nat → Int32) (D : Nat → Nat → Int64) : Prop :=
  (y0 = 0 ∨ y0 = 1) ∧ Post y0 I J B D
def wp_LassoFinderModel_holdsAt (I : Nat → Int32) (J : Nat → Int64) (B : Nat → Nat → Int32) (D : Nat → Nat → Int64) (a0 : Int32) (Post : Int32 → (Nat → Int32) → (Nat → Int64) → (Nat → Nat → Int32) → (Nat → Nat → Int64) → Prop) : Prop :=
  vp_in a0 8 ∧ ∀ z1 : Int32, z1 = ((B 44) a0.toNatClampNeg) → ((z1 < 0 → vp_in a0 8 ∧ ∀ z3 : Int32, z3 = ((B 46) a0.toNatClampNeg) → vp_in a0 8 ∧ ∀ z4 : Int32, z4 = ((B 47) a0.toNatClampNeg) → wp_LassoFinderModel_worth I J B D z3 z4 (fun r5 I5 J5 B5 D5 => ((r5 = 0 → wc_LassoFinderModel_holdsAt_61 a0 Post 0 I5 J5 B5 D5) ∧ (¬ r5 = 0 → wc_LassoFinderModel_holdsAt_61 a0 Post 1 I5 J5 B5 D5)))) ∧ (¬ z1 < 0 → vp_in a0 8 ∧ ∀ z7 : Int32, z7 = ((B 44) a0.toNatClampNeg) → vp_in z7 4 ∧ ∀ z8 : Int32, z8 = ((B 39) z7.toNatClampNeg) → vp_in a0 8 ∧ ∀ z9 : Int32, z9 = ((B 45) a0.toNatClampNeg) → ((¬ z8 = z9 → wc_LassoFinderModel_holdsAt_61 a0 Post 0 I J B D) ∧ (z8 = z9 → wc_LassoFinderModel_holdsAt_61 a0 Post 1 I J B D))))
set_option maxHeartbeats 8000000 in
set_option maxRecDepth 100000 in
theorem wJ_LassoFinderModel_holdsAt_61 {p : Program} {l : Launch} {e : Env} {s : State} {m : MethodId} {below : List Frame} {meth : Method} {c : Code} {A : Nat → Prop} (G : va_G) (K : Nat → ClassId) (ad : Nat → Nat) (a0 : Int32) (Post : Int32 → (Nat → Int32) → (Nat → Int64) → (Nat → Nat → Int32) → (Nat → Nat → Int64) → Prop) (C : zCx p s m ([.ref (ad 0), .int a0] : List Value).toArray meth c A G K prog_14_method_48_code (some .boolean) 2 "LassoFinderModel") : ∀ (y0 : Int32) (I : Nat → Int32) (J : Nat → Int64) (B : Nat → Nat → Int32) (D : Nat → Nat → Int64) (ls : Array Slot) (H : Heap) (locs : List Loc), wc_LassoFinderModel_holdsAt_61 a0 Post y0 I J B D → lv_has ls 2 [] → zW G A s.heap (wM ad K I J B D) H locs → W p l e { frames := 1, cells := 0, slots := 0, locals := 27 } s m ([.ref (ad 0), .int a0] : List Value).toArray below meth c H locs 0 0 (MQ below (va_Qi (fun (r : Int32) (u : zS) => Post r u.1 u.2.1 u.2.2.1 u.2.2.2) (fun u t => zPost G K A (wM ad K u.1 u.2.1 u.2.2.1 u.2.2.2) t) A) ([.ref (ad 0), .int a0] : List Value).toArray s 0 0 A) (F0 m 61 ls [.int y0]) := by
  obtain ⟨hx, hb, hr, hml, hts, hown, hlocks, hA, hK⟩ := id C
  intro y0 I J B D ls H locs hok hl hw
  unfold wc_LassoFinderModel_holdsAt_61 at hok
  have hbo := hok.1
  have hok := hok.2
  exact (z_iret (u := (I, J, B, D)) hx hb hr hlocks (z_nar hbo) hw (List.range 58) wM_all wM_nd hok (Nat.le_of_ble_eq_true rfl) (Nat.le_of_ble_eq_true rfl) zd_LassoFinderModel_holdsAt_61)
set_option maxHeartbeats 8000000 in
set_option maxRecDepth 100000 in
theorem w_LassoFinderModel_holdsAt (l : Launch) (G : va_G) (K : Nat → ClassId) (ad : Nat → Nat) (I : Nat → Int32) (J : Nat → Int64) (B : Nat → Nat → Int32) (D : Nat → Nat → Int64) (a0 : Int32) (Post : Int32 → (Nat → Int32) → (Nat → Int64) → (Nat → Nat → Int32) → (Nat → Nat → Int64) → Prop) (sz : Nat) (hok : wp_LassoFinderModel_holdsAt I J B D a0 Post) : Met l zy_LassoFinderModel_holdsAt (Cond.code zy_LassoFinderModel_holdsAt prog_14_method_48_code 2 (some .boolean) :: zTB) { frames := 1, cells := 0, slots := 0, locals := 27 } (va_Pc [.ref (ad 0), .int a0] (zPre G K (wM ad K I J B D) sz)) (va_Qi (fun (r : Int32) (u : zS) => Post r u.1 u.2.1 u.2.2.1 u.2.2.2) (fun u t => zPost G K (va_A (wM ad K I J B D) sz) (wM ad K u.1 u.2.1 u.2.2.1 u.2.2.2) t) (va_A (wM ad K I J B D) sz)) 0 0 (va_A (wM ad K I J B D) sz) := by
  refine zMet (y := zy_LassoFinderModel_holdsAt) (av := [.ref (ad 0), .int a0]) (maxL := 2) (cc := prog_14_method_48_code) (ret := (some .boolean)) (W0 := (wM ad K I J B D)) (sz := sz) (G := G) (K := K) (wt := zTB) (mc := 0) (ms := 0) (Qf := fun A => va_Qi (fun (r : Int32) (u : zS) => Post r u.1 u.2.1 u.2.2.1 u.2.2.2) (fun u t => zPost G K A (wM ad K u.1 u.2.1 u.2.2.1 u.2.2.2) t) A) (by decide) (Nat.le_of_ble_eq_true rfl) ?_
  intro p e s m below meth c ls A hx hb hr hml hts hown hlocks hin hA hK H locs hw hsz hl
  clear hsz
  have hown : s.vm.findClass "LassoFinderModel" = some m.cls := hown
  have C : zCx p s m ([.ref (ad 0), .int a0] : List Value).toArray meth c A G K prog_14_method_48_code (some .boolean) 2 "LassoFinderModel" := ⟨hx, hb, hr, hml, hts, hown, hlocks, hA, hK⟩
  have hl : lv_has ls 2 [(0, .ref (ad 0)), (1, .int a0)] := hl
  have hw : zW G A s.heap (wM ad K I J B D) H locs := hw
  unfold wp_LassoFinderModel_holdsAt at hok
  refine lv_aload_n hx hb zd_LassoFinderModel_holdsAt_0 rfl (lv_at hl 0 rfl) ?_
  refine z_get (v := .ref (ad 47)) hx hb hts hown hK hw zZ12 0 wM_g0 70 (by decide) zm_281 rfl zd_LassoFinderModel_holdsAt_1 ?_
  refine lv_iload_n hx hb zd_LassoFinderModel_holdsAt_4 rfl (lv_at hl 1 rfl) ?_
  refine va_iald (f := (B 44)) hx hb hK hw.1 47 0 wM_a47 rfl hok.1 zd_LassoFinderModel_holdsAt_5 ?_
  have hok := hok.2
  refine lv_topi (fun z1 ez1 => ?_)
  have hok := hok z1 ez1
  refine lv_if_lt (tgt := 37) hx hb zd_LassoFinderModel_holdsAt_6 (by decide) (fun hc2 => ?_) (fun hc2 => ?_)
  · have hok := hok.1 hc2
    refine lv_aload_n hx hb zd_LassoFinderModel_holdsAt_37 rfl (lv_at hl 0 rfl) ?_
    refine lv_aload_n hx hb zd_LassoFinderModel_holdsAt_38 rfl (lv_at hl 0 rfl) ?_
    refine z_get (v := .ref (ad 49)) hx hb hts hown hK hw zZ12 0 wM_g0 72 (by decide) zm_283 rfl zd_LassoFinderModel_holdsAt_39 ?_
    refine lv_iload_n hx hb zd_LassoFinderModel_holdsAt_42 rfl (lv_at hl 1 rfl) ?_
    refine va_iald (f := (B 46)) hx hb hK hw.1 49 0 wM_a49 rfl hok.1 zd_LassoFinderModel_holdsAt_43 ?_
    have hok := hok.2
    refine lv_topi (fun z3 ez3 => ?_)
    have hok := hok z3 ez3
    refine lv_aload_n hx hb zd_LassoFinderModel_holdsAt_44 rfl (lv_at hl 0 rfl) ?_
    refine z_get (v := .ref (ad 50)) hx hb hts hown hK hw zZ12 0 wM_g0 73 (by decide) zm_284 rfl zd_LassoFinderModel_holdsAt_45 ?_
    refine lv_iload_n hx hb zd_LassoFinderModel_holdsAt_48 rfl (lv_at hl 1 rfl) ?_
    refine va_iald (f := (B 47)) hx hb hK hw.1 50 0 wM_a50 rfl hok.1 zd_LassoFinderModel_holdsAt_49 ?_
    have hok := hok.2
    refine lv_topi (fun z4 ez4 => ?_)
    have hok := hok z4 ez4
    refine z_calli (w1 := fun (u : zS) => wM ad K u.1 u.2.1 u.2.2.1 u.2.2.2) (wr := []) (z_runV (q0 := 0) (wc := (wM ad K I J B D)) (As := [.int z3, .int z4]) (rest := []) ⟨hx, hb, hml, hown, hts⟩ (w_LassoFinderModel_worth l G K ad I J B D z3 z4 _ H.size hok) zf_LassoFinderModel_worth zm_324 ⟨Nat.le_of_ble_eq_true rfl, Nat.le_of_ble_eq_true rfl⟩ hK hw (List.range 58) wM_all wM_nd wM_g0 rfl rfl hl.1 rfl (Nat.le_of_ble_eq_true rfl) zd_LassoFinderModel_holdsAt_50 ⟨Nat.le_of_ble_eq_true rfl, Nat.le_of_ble_eq_true rfl⟩) hw hA (List.range 58) [] wM_all rfl (by decide) (fun i hi => by cases hi) (fun r5 u H locs hok hw => ?_)
    obtain ⟨I5, J5, B5, D5⟩ := u
    dsimp only at hok
    have hw : zW G A s.heap (wM ad K I5 J5 B5 D5) H locs := hw
    refine lv_if_eq (tgt := 60) hx hb zd_LassoFinderModel_holdsAt_53 (by decide) (fun hc6 => ?_) (fun hc6 => ?_)
    · have hok := hok.1 hc6
      refine lv_iconst (v := 0) hx hb zd_LassoFinderModel_holdsAt_60 (by decide) ?_
      exact wJ_LassoFinderModel_holdsAt_61 G K ad a0 Post C 0 I5 J5 B5 D5 ls H locs hok (lv_sub hl [] rfl) hw
    · have hok := hok.2 hc6
      refine lv_iconst (v := 1) hx hb zd_LassoFinderModel_holdsAt_56 (by decide) ?_
      refine lv_goto (tgt := 61) hx hb zd_LassoFinderModel_holdsAt_57 (by decide) ?_
      exact wJ_LassoFinderModel_holdsAt_61 G K ad a0 Post C 1 I5 J5 B5 D5 ls H locs hok (lv_sub hl [] rfl) hw
  · have hok := hok.2 hc2
    refine lv_aload_n hx hb zd_LassoFinderModel_holdsAt_9 rfl (lv_at hl 0 rfl) ?_
    refine z_get (v := .ref (ad 42)) hx hb hts hown hK hw zZ12 0 wM_g0 58 (by decide) zm_276 rfl zd_LassoFinderModel_holdsAt_10 ?_
    refine lv_aload_n hx hb zd_LassoFinderModel_holdsAt_13 rfl (lv_at hl 0 rfl) ?_
    refine z_get (v := .ref (ad 47)) hx hb hts hown hK hw zZ12 0 wM_g0 70 (by decide) zm_281 rfl zd_LassoFinderModel_holdsAt_14 ?_
    refine lv_iload_n hx hb zd_LassoFinderModel_holdsAt_17 rfl (lv_at hl 1 rfl) ?_
    refine va_iald (f := (B 44)) hx hb hK hw.1 47 0 wM_a47 rfl hok.1 zd_LassoFinderModel_holdsAt_18 ?_
    have hok := hok.2
    refine lv_topi (fun z7 ez7 => ?_)
    have hok := hok z7 ez7
    refine va_iald (f := (B 39)) hx hb hK hw.1 42 0 wM_a42 rfl hok.1 zd_LassoFinderModel_holdsAt_19 ?_
    have hok := hok.2
    refine lv_topi (fun z8 ez8 => ?_)
    have hok := hok z8 ez8
    refine lv_aload_n hx hb zd_LassoFinderModel_holdsAt_20 rfl (lv_at hl 0 rfl) ?_
    refine z_get (v := .ref (ad 48)) hx hb hts hown hK hw zZ12 0 wM_g0 71 (by decide) zm_282 rfl zd_LassoFinderModel_holdsAt_21 ?_
    refine lv_iload_n hx hb zd_LassoFinderModel_holdsAt_24 rfl (lv_at hl 1 rfl) ?_
    refine va_iald (f := (B 45)) hx hb hK hw.1 48 0 wM_a48 rfl hok.1 zd_LassoFinderModel_holdsAt_25 ?_
    have hok := hok.2
    refine lv_topi (fun z9 ez9 => ?_)
    have hok := hok z9 ez9
    refine lv_icmp_ne (tgt := 33) hx hb zd_LassoFinderModel_holdsAt_26 (by decide) (fun hc10 => ?_) (fun hc10 => ?_)
    · have hok := hok.1 hc10
      refine lv_iconst (v := 0) hx hb zd_LassoFinderModel_holdsAt_33 (by decide) ?_
      refine lv_goto (tgt := 61) hx hb zd_LassoFinderModel_holdsAt_34 (by decide) ?_
      exact wJ_LassoFinderModel_holdsAt_61 G K ad a0 Post C 0 I J B D ls H locs hok (lv_sub hl [] rfl) hw
    · have hok := hok.2 hc10
      refine lv_iconst (v := 1) hx hb zd_LassoFinderModel_holdsAt_29 (by decide) ?_
      refine lv_goto (tgt := 61) hx hb zd_LassoFinderModel_holdsAt_30 (by decide) ?_
      exact wJ_LassoFinderModel_holdsAt_61 G K ad a0 Post C 1 I J B D ls H locs hok (lv_sub hl [] rfl) hw
def wc_LassoFinderModel_binds_57 (a0 : Int32) (Post : Int32 → (Nat → Int32) → (Nat → Int64) → (Nat → Nat → Int32) → (Nat → Nat → Int64) → Prop) (y0 : Int32) (I : Nat → Int32) (J : Nat → Int64) (B : Nat → Nat → Int32) (D : Nat → Nat → Int64) : Prop :=
  Post y0 I J B D
def wc_LassoFinderModel_binds_52 (a0 : Int32) (Post : Int32 → (Nat → Int32) → (Nat → Int64) → (Nat → Nat → Int32) → (Nat → Nat → Int64) → Prop)  (I : Nat → Int32) (J : Nat → Int64) (B : Nat → Nat → Int32) (D : Nat → Nat → Int64) : Prop :=
  wc_LassoFinderModel_binds_57 a0 Post 4 I J B D
def wp_LassoFinderModel_binds (I : Nat → Int32) (J : Nat → Int64) (B : Nat → Nat → Int32) (D : Nat → Nat → Int64) (a0 : Int32) (Post : Int32 → (Nat → Int32) → (Nat → Int64) → (Nat → Nat → Int32) → (Nat → Nat → Int64) → Prop) : Prop :=
  ((¬ a0 = 16 → ((¬ a0 = 11 → ((¬ a0 = 10 → ((¬ a0 = 9 → ((a0 = 12 → wc_LassoFinderModel_binds_52 a0 Post I J B D) ∧ (¬ a0 = 12 → ((¬ a0 = 13 → wc_LassoFinderModel_binds_57 a0 Post 5 I J B D) ∧ (a0 = 13 → wc_LassoFinderModel_binds_52 a0 Post I J B D))))) ∧ (a0 = 9 → wc_LassoFinderModel_binds_57 a0 Post 3 I J B D))) ∧ (a0 = 10 → wc_LassoFinderModel_binds_57 a0 Post 2 I J B D))) ∧ (a0 = 11 → wc_LassoFinderModel_binds_57 a0 Post 1 I J B D))) ∧ (a0 = 16 → wc_LassoFinderModel_binds_57 a0 Post 0 I J B D))
set_option maxHeartbeats 8000000 in
set_option maxRecDepth 100000 in
theorem wJ_LassoFinderModel_binds_57 {p : Program} {l : Launch} {e : Env} {s : State} {m : MethodId} {below : List Frame} {meth : Method} {c : Code} {A : Nat → Prop} (G : va_G) (K : Nat → ClassId) (ad : Nat → Nat) (a0 : Int32) (Post : Int32 → (Nat → Int32) → (Nat → Int64) → (Nat → Nat → Int32) → (Nat → Nat → Int64) → Prop) (C : zCx p s m ([.int a0] : List Value).toArray meth c A G K prog_14_method_41_code (some .int) 1 "LassoFinderModel") : ∀ (y0 : Int32) (I : Nat → Int32) (J : Nat → Int64) (B : Nat → Nat → Int32) (D : Nat → Nat → Int64) (ls : Array Slot) (H : Heap) (locs : List Loc), wc_LassoFinderModel_binds_57 a0 Post y0 I J B D → lv_has ls 1 [] → zW G A s.heap (wM ad K I J B D) H locs → W p l e { frames := 0, cells := 0, slots := 0, locals := 0 } s m ([.int a0] : List Value).toArray below meth c H locs 0 0 (MQ below (va_Qi (fun (r : Int32) (u : zS) => Post r u.1 u.2.1 u.2.2.1 u.2.2.2) (fun u t => zPost G K A (wM ad K u.1 u.2.1 u.2.2.1 u.2.2.2) t) A) ([.int a0] : List Value).toArray s 0 0 A) (F0 m 57 ls [.int y0]) := by
  obtain ⟨hx, hb, hr, hml, hts, hown, hlocks, hA, hK⟩ := id C
  intro y0 I J B D ls H locs hok hl hw
  unfold wc_LassoFinderModel_binds_57 at hok
  exact (z_iret (u := (I, J, B, D)) hx hb hr hlocks rfl hw (List.range 58) wM_all wM_nd hok (Nat.le_of_ble_eq_true rfl) (Nat.le_of_ble_eq_true rfl) zd_LassoFinderModel_binds_57)
set_option maxHeartbeats 8000000 in
set_option maxRecDepth 100000 in
theorem wJ_LassoFinderModel_binds_52 {p : Program} {l : Launch} {e : Env} {s : State} {m : MethodId} {below : List Frame} {meth : Method} {c : Code} {A : Nat → Prop} (G : va_G) (K : Nat → ClassId) (ad : Nat → Nat) (a0 : Int32) (Post : Int32 → (Nat → Int32) → (Nat → Int64) → (Nat → Nat → Int32) → (Nat → Nat → Int64) → Prop) (C : zCx p s m ([.int a0] : List Value).toArray meth c A G K prog_14_method_41_code (some .int) 1 "LassoFinderModel") : ∀  (I : Nat → Int32) (J : Nat → Int64) (B : Nat → Nat → Int32) (D : Nat → Nat → Int64) (ls : Array Slot) (H : Heap) (locs : List Loc), wc_LassoFinderModel_binds_52 a0 Post  I J B D → lv_has ls 1 [] → zW G A s.heap (wM ad K I J B D) H locs → W p l e { frames := 0, cells := 0, slots := 0, locals := 0 } s m ([.int a0] : List Value).toArray below meth c H locs 0 0 (MQ below (va_Qi (fun (r : Int32) (u : zS) => Post r u.1 u.2.1 u.2.2.1 u.2.2.2) (fun u t => zPost G K A (wM ad K u.1 u.2.1 u.2.2.1 u.2.2.2) t) A) ([.int a0] : List Value).toArray s 0 0 A) (F0 m 52 ls []) := by
  obtain ⟨hx, hb, hr, hml, hts, hown, hlocks, hA, hK⟩ := id C
  intro  I J B D ls H locs hok hl hw
  unfold wc_LassoFinderModel_binds_52 at hok
  refine lv_iconst (v := 4) hx hb zd_LassoFinderModel_binds_52 (by decide) ?_
  refine lv_goto (tgt := 57) hx hb zd_LassoFinderModel_binds_53 (by decide) ?_
  exact wJ_LassoFinderModel_binds_57 G K ad a0 Post C 4 I J B D ls H locs hok (lv_sub hl [] rfl) hw
set_option maxHeartbeats 8000000 in
set_option maxRecDepth 100000 in
theorem w_LassoFinderModel_binds (l : Launch) (G : va_G) (K : Nat → ClassId) (ad : Nat → Nat) (I : Nat → Int32) (J : Nat → Int64) (B : Nat → Nat → Int32) (D : Nat → Nat → Int64) (a0 : Int32) (Post : Int32 → (Nat → Int32) → (Nat → Int64) → (Nat → Nat → Int32) → (Nat → Nat → Int64) → Prop) (sz : Nat) (hok : wp_LassoFinderModel_binds I J B D a0 Post) : Met l zy_LassoFinderModel_binds (Cond.code zy_LassoFinderModel_binds prog_14_method_41_code 1 (some .int) :: zTB) { frames := 0, cells := 0, slots := 0, locals := 0 } (va_Pc [.int a0] (zPre G K (wM ad K I J B D) sz)) (va_Qi (fun (r : Int32) (u : zS) => Post r u.1 u.2.1 u.2.2.1 u.2.2.2) (fun u t => zPost G K (va_A (wM ad K I J B D) sz) (wM ad K u.1 u.2.1 u.2.2.1 u.2.2.2) t) (va_A (wM ad K I J B D) sz)) 0 0 (va_A (wM ad K I J B D) sz) := by
  refine zMet (y := zy_LassoFinderModel_binds) (av := [.int a0]) (maxL := 1) (cc := prog_14_method_41_code) (ret := (some .int)) (W0 := (wM ad K I J B D)) (sz := sz) (G := G) (K := K) (wt := zTB) (mc := 0) (ms := 0) (Qf := fun A => va_Qi (fun (r : Int32) (u : zS) => Post r u.1 u.2.1 u.2.2.1 u.2.2.2) (fun u t => zPost G K A (wM ad K u.1 u.2.1 u.2.2.1 u.2.2.2) t) A) (by decide) (Nat.le_of_ble_eq_true rfl) ?_
  intro p e s m below meth c ls A hx hb hr hml hts hown hlocks hin hA hK H locs hw hsz hl
  clear hsz
  have hown : s.vm.findClass "LassoFinderModel" = some m.cls := hown
  have C : zCx p s m ([.int a0] : List Value).toArray meth c A G K prog_14_method_41_code (some .int) 1 "LassoFinderModel" := ⟨hx, hb, hr, hml, hts, hown, hlocks, hA, hK⟩
  have hl : lv_has ls 1 [(0, .int a0)] := hl
  have hw : zW G A s.heap (wM ad K I J B D) H locs := hw
  unfold wp_LassoFinderModel_binds at hok
  refine lv_iload_n hx hb zd_LassoFinderModel_binds_0 rfl (lv_at hl 0 rfl) ?_
  refine lv_bipush (v := 16) hx hb zd_LassoFinderModel_binds_1 (by decide) ?_
  refine lv_icmp_ne (tgt := 10) hx hb zd_LassoFinderModel_binds_3 (by decide) (fun hc1 => ?_) (fun hc1 => ?_)
  · have hok := hok.1 hc1
    refine lv_iload_n hx hb zd_LassoFinderModel_binds_10 rfl (lv_at hl 0 rfl) ?_
    refine lv_bipush (v := 11) hx hb zd_LassoFinderModel_binds_11 (by decide) ?_
    refine lv_icmp_ne (tgt := 20) hx hb zd_LassoFinderModel_binds_13 (by decide) (fun hc2 => ?_) (fun hc2 => ?_)
    · have hok := hok.1 hc2
      refine lv_iload_n hx hb zd_LassoFinderModel_binds_20 rfl (lv_at hl 0 rfl) ?_
      refine lv_bipush (v := 10) hx hb zd_LassoFinderModel_binds_21 (by decide) ?_
      refine lv_icmp_ne (tgt := 30) hx hb zd_LassoFinderModel_binds_23 (by decide) (fun hc3 => ?_) (fun hc3 => ?_)
      · have hok := hok.1 hc3
        refine lv_iload_n hx hb zd_LassoFinderModel_binds_30 rfl (lv_at hl 0 rfl) ?_
        refine lv_bipush (v := 9) hx hb zd_LassoFinderModel_binds_31 (by decide) ?_
        refine lv_icmp_ne (tgt := 40) hx hb zd_LassoFinderModel_binds_33 (by decide) (fun hc4 => ?_) (fun hc4 => ?_)
        · have hok := hok.1 hc4
          refine lv_iload_n hx hb zd_LassoFinderModel_binds_40 rfl (lv_at hl 0 rfl) ?_
          refine lv_bipush (v := 12) hx hb zd_LassoFinderModel_binds_41 (by decide) ?_
          refine lv_icmp_eq (tgt := 52) hx hb zd_LassoFinderModel_binds_43 (by decide) (fun hc5 => ?_) (fun hc5 => ?_)
          · have hok := hok.1 hc5
            exact wJ_LassoFinderModel_binds_52 G K ad a0 Post C I J B D ls H locs hok (lv_sub hl [] rfl) hw
          · have hok := hok.2 hc5
            refine lv_iload_n hx hb zd_LassoFinderModel_binds_46 rfl (lv_at hl 0 rfl) ?_
            refine lv_bipush (v := 13) hx hb zd_LassoFinderModel_binds_47 (by decide) ?_
            refine lv_icmp_ne (tgt := 56) hx hb zd_LassoFinderModel_binds_49 (by decide) (fun hc6 => ?_) (fun hc6 => ?_)
            · have hok := hok.1 hc6
              refine lv_iconst (v := 5) hx hb zd_LassoFinderModel_binds_56 (by decide) ?_
              exact wJ_LassoFinderModel_binds_57 G K ad a0 Post C 5 I J B D ls H locs hok (lv_sub hl [] rfl) hw
            · have hok := hok.2 hc6
              exact wJ_LassoFinderModel_binds_52 G K ad a0 Post C I J B D ls H locs hok (lv_sub hl [] rfl) hw
        · have hok := hok.2 hc4
          refine lv_iconst (v := 3) hx hb zd_LassoFinderModel_binds_36 (by decide) ?_
          refine lv_goto (tgt := 57) hx hb zd_LassoFinderModel_binds_37 (by decide) ?_
          exact wJ_LassoFinderModel_binds_57 G K ad a0 Post C 3 I J B D ls H locs hok (lv_sub hl [] rfl) hw
      · have hok := hok.2 hc3
        refine lv_iconst (v := 2) hx hb zd_LassoFinderModel_binds_26 (by decide) ?_
        refine lv_goto (tgt := 57) hx hb zd_LassoFinderModel_binds_27 (by decide) ?_
        exact wJ_LassoFinderModel_binds_57 G K ad a0 Post C 2 I J B D ls H locs hok (lv_sub hl [] rfl) hw
    · have hok := hok.2 hc2
      refine lv_iconst (v := 1) hx hb zd_LassoFinderModel_binds_16 (by decide) ?_
      refine lv_goto (tgt := 57) hx hb zd_LassoFinderModel_binds_17 (by decide) ?_
      exact wJ_LassoFinderModel_binds_57 G K ad a0 Post C 1 I J B D ls H locs hok (lv_sub hl [] rfl) hw
  · have hok := hok.2 hc1
    refine lv_iconst (v := 0) hx hb zd_LassoFinderModel_binds_6 (by decide) ?_
    refine lv_goto (tgt := 57) hx hb zd_LassoFinderModel_binds_7 (by decide) ?_
    exact wJ_LassoFinderModel_binds_57 G K ad a0 Post C 0 I J B D ls H locs hok (lv_sub hl [] rfl) hw
def wc_LassoFinderModel_depth_40 (K4 : Int32 → Int32 → (Nat → Int32) → (Nat → Int64) → (Nat → Nat → Int32) → (Nat → Nat → Int64) → Prop) (Post : Int32 → (Nat → Int32) → (Nat → Int64) → (Nat → Nat → Int32) → (Nat → Nat → Int64) → Prop) (x2 : Int32) (y0 : Int32) (y1 : Int32) (I : Nat → Int32) (J : Nat → Int64) (B : Nat → Nat → Int32) (D : Nat → Nat → Int64) : Prop :=
  ∀ z1 : Int32, z1 = (y1 + y0) → ∀ z2 : Int32, z2 = (x2 + 1) → K4 z1 z2 I J B D
def wc_LassoFinderModel_depth_35 (K4 : Int32 → Int32 → (Nat → Int32) → (Nat → Int64) → (Nat → Nat → Int32) → (Nat → Nat → Int64) → Prop) (Post : Int32 → (Nat → Int32) → (Nat → Int64) → (Nat → Nat → Int32) → (Nat → Nat → Int64) → Prop) (x2 : Int32) (y0 : Int32) (I : Nat → Int32) (J : Nat → Int64) (B : Nat → Nat → Int32) (D : Nat → Nat → Int64) : Prop :=
  wc_LassoFinderModel_depth_40  K4 Post x2 0 y0 I J B D
def wb_LassoFinderModel_depth_4 (K4 : Int32 → Int32 → (Nat → Int32) → (Nat → Int64) → (Nat → Nat → Int32) → (Nat → Nat → Int64) → Prop) (Post : Int32 → (Nat → Int32) → (Nat → Int64) → (Nat → Nat → Int32) → (Nat → Nat → Int64) → Prop) (x1 : Int32) (x2 : Int32) (I : Nat → Int32) (J : Nat → Int64) (B : Nat → Nat → Int32) (D : Nat → Nat → Int64) : Prop :=
  (((I 13) ≤ x2 → Post x1 I J B D) ∧ (¬ (I 13) ≤ x2 → vp_in x2 240 ∧ ∀ z4 : Int32, z4 = ((B 28) x2.toNatClampNeg) → ((z4 = 9 → wc_LassoFinderModel_depth_35  K4 Post x2 x1 I J B D) ∧ (¬ z4 = 9 → vp_in x2 240 ∧ ∀ z6 : Int32, z6 = ((B 28) x2.toNatClampNeg) → ((¬ z6 = 10 → wc_LassoFinderModel_depth_40  K4 Post x2 1 x1 I J B D) ∧ (z6 = 10 → wc_LassoFinderModel_depth_35  K4 Post x2 x1 I J B D))))))
def wl_LassoFinderModel_depth_4 (Post : Int32 → (Nat → Int32) → (Nat → Int64) → (Nat → Nat → Int32) → (Nat → Nat → Int64) → Prop) (n : Nat) : Int32 → Int32 → (Nat → Int32) → (Nat → Int64) → (Nat → Nat → Int32) → (Nat → Nat → Int64) → Prop := Nat.rec (fun _ _ _ _ _ _ => False) (fun _ r => wb_LassoFinderModel_depth_4  r Post) n
def wp_LassoFinderModel_depth (I : Nat → Int32) (J : Nat → Int64) (B : Nat → Nat → Int32) (D : Nat → Nat → Int64) (Post : Int32 → (Nat → Int32) → (Nat → Int64) → (Nat → Nat → Int32) → (Nat → Nat → Int64) → Prop) : Prop :=
  ∃ n : Nat, wl_LassoFinderModel_depth_4  Post n 0 0 I J B D
set_option maxHeartbeats 8000000 in
set_option maxRecDepth 100000 in
theorem wJ_LassoFinderModel_depth_40 {p : Program} {l : Launch} {e : Env} {s : State} {m : MethodId} {below : List Frame} {meth : Method} {c : Code} {A : Nat → Prop} (G : va_G) (K : Nat → ClassId) (ad : Nat → Nat) (Post : Int32 → (Nat → Int32) → (Nat → Int64) → (Nat → Nat → Int32) → (Nat → Nat → Int64) → Prop) (C : zCx p s m ([.ref (ad 0)] : List Value).toArray meth c A G K prog_14_method_42_code (some .int) 3 "LassoFinderModel") (K4 : Int32 → Int32 → (Nat → Int32) → (Nat → Int64) → (Nat → Nat → Int32) → (Nat → Nat → Int64) → Prop) (kh4 : ∀ (x1 : Int32) (x2 : Int32) (I : Nat → Int32) (J : Nat → Int64) (B : Nat → Nat → Int32) (D : Nat → Nat → Int64) (ls : Array Slot) (H : Heap) (locs : List Loc), K4 x1 x2 I J B D → lv_has ls 3 [(0, .ref (ad 0)), (1, .int x1), (2, .int x2)] → zW G A s.heap (wM ad K I J B D) H locs → W p l e { frames := 0, cells := 0, slots := 0, locals := 0 } s m ([.ref (ad 0)] : List Value).toArray below meth c H locs 0 0 (MQ below (va_Qi (fun (r : Int32) (u : zS) => Post r u.1 u.2.1 u.2.2.1 u.2.2.2) (fun u t => zPost G K A (wM ad K u.1 u.2.1 u.2.2.1 u.2.2.2) t) A) ([.ref (ad 0)] : List Value).toArray s 0 0 A) (F0 m 4 ls [])) : ∀ (x2 : Int32) (y0 : Int32) (y1 : Int32) (I : Nat → Int32) (J : Nat → Int64) (B : Nat → Nat → Int32) (D : Nat → Nat → Int64) (ls : Array Slot) (H : Heap) (locs : List Loc), wc_LassoFinderModel_depth_40  K4 Post x2 y0 y1 I J B D → lv_has ls 3 [(0, .ref (ad 0)), (2, .int x2)] → zW G A s.heap (wM ad K I J B D) H locs → W p l e { frames := 0, cells := 0, slots := 0, locals := 0 } s m ([.ref (ad 0)] : List Value).toArray below meth c H locs 0 0 (MQ below (va_Qi (fun (r : Int32) (u : zS) => Post r u.1 u.2.1 u.2.2.1 u.2.2.2) (fun u t => zPost G K A (wM ad K u.1 u.2.1 u.2.2.1 u.2.2.2) t) A) ([.ref (ad 0)] : List Value).toArray s 0 0 A) (F0 m 40 ls [.int y0, .int y1]) := by
  obtain ⟨hx, hb, hr, hml, hts, hown, hlocks, hA, hK⟩ := id C
  intro x2 y0 y1 I J B D ls H locs hok hl hw
  unfold wc_LassoFinderModel_depth_40 at hok
  refine lv_iadd hx hb zd_LassoFinderModel_depth_40 ?_
  refine lv_topi (fun z1 ez1 => ?_)
  have hok := hok z1 ez1
  refine lv_istore_n hx hb zd_LassoFinderModel_depth_41 rfl hl (by decide) rfl (fun ls hl => ?_)
  have hl : lv_has ls 3 [(1, .int z1), (0, .ref (ad 0)), (2, .int x2)] := hl
  obtain ⟨z2, ez2⟩ : ∃ z : Int32, z = (x2 + 1) := ⟨_, rfl⟩
  have hok := hok z2 ez2
  refine lv_iinc (v := z2) hx hb zd_LassoFinderModel_depth_42 hl (k := 2) rfl ez2.symm (by decide) rfl (fun ls hl => ?_)
  have hl : lv_has ls 3 [(2, .int z2), (1, .int z1), (0, .ref (ad 0))] := hl
  refine lv_goto (tgt := 4) hx hb zd_LassoFinderModel_depth_45 (by decide) ?_
  exact kh4 z1 z2 I J B D ls H locs hok (lv_sub hl [2, 1, 0] rfl) hw
set_option maxHeartbeats 8000000 in
set_option maxRecDepth 100000 in
theorem wJ_LassoFinderModel_depth_35 {p : Program} {l : Launch} {e : Env} {s : State} {m : MethodId} {below : List Frame} {meth : Method} {c : Code} {A : Nat → Prop} (G : va_G) (K : Nat → ClassId) (ad : Nat → Nat) (Post : Int32 → (Nat → Int32) → (Nat → Int64) → (Nat → Nat → Int32) → (Nat → Nat → Int64) → Prop) (C : zCx p s m ([.ref (ad 0)] : List Value).toArray meth c A G K prog_14_method_42_code (some .int) 3 "LassoFinderModel") (K4 : Int32 → Int32 → (Nat → Int32) → (Nat → Int64) → (Nat → Nat → Int32) → (Nat → Nat → Int64) → Prop) (kh4 : ∀ (x1 : Int32) (x2 : Int32) (I : Nat → Int32) (J : Nat → Int64) (B : Nat → Nat → Int32) (D : Nat → Nat → Int64) (ls : Array Slot) (H : Heap) (locs : List Loc), K4 x1 x2 I J B D → lv_has ls 3 [(0, .ref (ad 0)), (1, .int x1), (2, .int x2)] → zW G A s.heap (wM ad K I J B D) H locs → W p l e { frames := 0, cells := 0, slots := 0, locals := 0 } s m ([.ref (ad 0)] : List Value).toArray below meth c H locs 0 0 (MQ below (va_Qi (fun (r : Int32) (u : zS) => Post r u.1 u.2.1 u.2.2.1 u.2.2.2) (fun u t => zPost G K A (wM ad K u.1 u.2.1 u.2.2.1 u.2.2.2) t) A) ([.ref (ad 0)] : List Value).toArray s 0 0 A) (F0 m 4 ls [])) : ∀ (x2 : Int32) (y0 : Int32) (I : Nat → Int32) (J : Nat → Int64) (B : Nat → Nat → Int32) (D : Nat → Nat → Int64) (ls : Array Slot) (H : Heap) (locs : List Loc), wc_LassoFinderModel_depth_35  K4 Post x2 y0 I J B D → lv_has ls 3 [(0, .ref (ad 0)), (2, .int x2)] → zW G A s.heap (wM ad K I J B D) H locs → W p l e { frames := 0, cells := 0, slots := 0, locals := 0 } s m ([.ref (ad 0)] : List Value).toArray below meth c H locs 0 0 (MQ below (va_Qi (fun (r : Int32) (u : zS) => Post r u.1 u.2.1 u.2.2.1 u.2.2.2) (fun u t => zPost G K A (wM ad K u.1 u.2.1 u.2.2.1 u.2.2.2) t) A) ([.ref (ad 0)] : List Value).toArray s 0 0 A) (F0 m 35 ls [.int y0]) := by
  obtain ⟨hx, hb, hr, hml, hts, hown, hlocks, hA, hK⟩ := id C
  intro x2 y0 I J B D ls H locs hok hl hw
  unfold wc_LassoFinderModel_depth_35 at hok
  refine lv_iconst (v := 0) hx hb zd_LassoFinderModel_depth_35 (by decide) ?_
  refine lv_goto (tgt := 40) hx hb zd_LassoFinderModel_depth_36 (by decide) ?_
  exact wJ_LassoFinderModel_depth_40 G K ad  Post C K4 kh4 x2 0 y0 I J B D ls H locs hok (lv_sub hl [0, 1] rfl) hw
set_option maxHeartbeats 8000000 in
set_option maxRecDepth 100000 in
theorem wB_LassoFinderModel_depth_4 {p : Program} {l : Launch} {e : Env} {s : State} {m : MethodId} {below : List Frame} {meth : Method} {c : Code} {A : Nat → Prop} (G : va_G) (K : Nat → ClassId) (ad : Nat → Nat) (Post : Int32 → (Nat → Int32) → (Nat → Int64) → (Nat → Nat → Int32) → (Nat → Nat → Int64) → Prop) (C : zCx p s m ([.ref (ad 0)] : List Value).toArray meth c A G K prog_14_method_42_code (some .int) 3 "LassoFinderModel") (K4 : Int32 → Int32 → (Nat → Int32) → (Nat → Int64) → (Nat → Nat → Int32) → (Nat → Nat → Int64) → Prop) (kh4 : ∀ (x1 : Int32) (x2 : Int32) (I : Nat → Int32) (J : Nat → Int64) (B : Nat → Nat → Int32) (D : Nat → Nat → Int64) (ls : Array Slot) (H : Heap) (locs : List Loc), K4 x1 x2 I J B D → lv_has ls 3 [(0, .ref (ad 0)), (1, .int x1), (2, .int x2)] → zW G A s.heap (wM ad K I J B D) H locs → W p l e { frames := 0, cells := 0, slots := 0, locals := 0 } s m ([.ref (ad 0)] : List Value).toArray below meth c H locs 0 0 (MQ below (va_Qi (fun (r : Int32) (u : zS) => Post r u.1 u.2.1 u.2.2.1 u.2.2.2) (fun u t => zPost G K A (wM ad K u.1 u.2.1 u.2.2.1 u.2.2.2) t) A) ([.ref (ad 0)] : List Value).toArray s 0 0 A) (F0 m 4 ls [])) : ∀ (x1 : Int32) (x2 : Int32) (I : Nat → Int32) (J : Nat → Int64) (B : Nat → Nat → Int32) (D : Nat → Nat → Int64) (ls : Array Slot) (H : Heap) (locs : List Loc), wb_LassoFinderModel_depth_4  K4 Post x1 x2 I J B D → lv_has ls 3 [(0, .ref (ad 0)), (1, .int x1), (2, .int x2)] → zW G A s.heap (wM ad K I J B D) H locs → W p l e { frames := 0, cells := 0, slots := 0, locals := 0 } s m ([.ref (ad 0)] : List Value).toArray below meth c H locs 0 0 (MQ below (va_Qi (fun (r : Int32) (u : zS) => Post r u.1 u.2.1 u.2.2.1 u.2.2.2) (fun u t => zPost G K A (wM ad K u.1 u.2.1 u.2.2.1 u.2.2.2) t) A) ([.ref (ad 0)] : List Value).toArray s 0 0 A) (F0 m 4 ls []) := by
  obtain ⟨hx, hb, hr, hml, hts, hown, hlocks, hA, hK⟩ := id C
  intro x1 x2 I J B D ls H locs hok hl hw
  unfold wb_LassoFinderModel_depth_4 at hok
  refine lv_iload_n hx hb zd_LassoFinderModel_depth_4 rfl (lv_at hl 2 rfl) ?_
  refine lv_aload_n hx hb zd_LassoFinderModel_depth_5 rfl (lv_at hl 0 rfl) ?_
  refine z_get (v := .int (I 13)) hx hb hts hown hK hw zZ12 0 wM_g0 42 (by decide) zm_348 rfl zd_LassoFinderModel_depth_6 ?_
  refine lv_icmp_ge (tgt := 48) hx hb zd_LassoFinderModel_depth_9 (by decide) (fun hc3 => ?_) (fun hc3 => ?_)
  · have hok := hok.1 hc3
    refine lv_iload_n hx hb zd_LassoFinderModel_depth_48 rfl (lv_at hl 1 rfl) ?_
    exact (z_iret (u := (I, J, B, D)) hx hb hr hlocks rfl hw (List.range 58) wM_all wM_nd hok (Nat.le_of_ble_eq_true rfl) (Nat.le_of_ble_eq_true rfl) zd_LassoFinderModel_depth_49)
  · have hok := hok.2 hc3
    refine lv_iload_n hx hb zd_LassoFinderModel_depth_12 rfl (lv_at hl 1 rfl) ?_
    refine lv_aload_n hx hb zd_LassoFinderModel_depth_13 rfl (lv_at hl 0 rfl) ?_
    refine z_get (v := .ref (ad 30)) hx hb hts hown hK hw zZ12 0 wM_g0 43 (by decide) zm_264 rfl zd_LassoFinderModel_depth_14 ?_
    refine lv_iload_n hx hb zd_LassoFinderModel_depth_17 rfl (lv_at hl 2 rfl) ?_
    refine va_iald (f := (B 28)) hx hb hK hw.1 30 0 wM_a30 rfl hok.1 zd_LassoFinderModel_depth_18 ?_
    have hok := hok.2
    refine lv_topi (fun z4 ez4 => ?_)
    have hok := hok z4 ez4
    refine lv_bipush (v := 9) hx hb zd_LassoFinderModel_depth_19 (by decide) ?_
    refine lv_icmp_eq (tgt := 35) hx hb zd_LassoFinderModel_depth_21 (by decide) (fun hc5 => ?_) (fun hc5 => ?_)
    · have hok := hok.1 hc5
      exact wJ_LassoFinderModel_depth_35 G K ad  Post C K4 kh4 x2 x1 I J B D ls H locs hok (lv_sub hl [0, 2] rfl) hw
    · have hok := hok.2 hc5
      refine lv_aload_n hx hb zd_LassoFinderModel_depth_24 rfl (lv_at hl 0 rfl) ?_
      refine z_get (v := .ref (ad 30)) hx hb hts hown hK hw zZ12 0 wM_g0 43 (by decide) zm_264 rfl zd_LassoFinderModel_depth_25 ?_
      refine lv_iload_n hx hb zd_LassoFinderModel_depth_28 rfl (lv_at hl 2 rfl) ?_
      refine va_iald (f := (B 28)) hx hb hK hw.1 30 0 wM_a30 rfl hok.1 zd_LassoFinderModel_depth_29 ?_
      have hok := hok.2
      refine lv_topi (fun z6 ez6 => ?_)
      have hok := hok z6 ez6
      refine lv_bipush (v := 10) hx hb zd_LassoFinderModel_depth_30 (by decide) ?_
      refine lv_icmp_ne (tgt := 39) hx hb zd_LassoFinderModel_depth_32 (by decide) (fun hc7 => ?_) (fun hc7 => ?_)
      · have hok := hok.1 hc7
        refine lv_iconst (v := 1) hx hb zd_LassoFinderModel_depth_39 (by decide) ?_
        exact wJ_LassoFinderModel_depth_40 G K ad  Post C K4 kh4 x2 1 x1 I J B D ls H locs hok (lv_sub hl [0, 2] rfl) hw
      · have hok := hok.2 hc7
        exact wJ_LassoFinderModel_depth_35 G K ad  Post C K4 kh4 x2 x1 I J B D ls H locs hok (lv_sub hl [0, 2] rfl) hw
theorem wL_LassoFinderModel_depth_4 {p : Program} {l : Launch} {e : Env} {s : State} {m : MethodId} {below : List Frame} {meth : Method} {c : Code} {A : Nat → Prop} (G : va_G) (K : Nat → ClassId) (ad : Nat → Nat) (Post : Int32 → (Nat → Int32) → (Nat → Int64) → (Nat → Nat → Int32) → (Nat → Nat → Int64) → Prop) (C : zCx p s m ([.ref (ad 0)] : List Value).toArray meth c A G K prog_14_method_42_code (some .int) 3 "LassoFinderModel") : ∀ (n : Nat) (x1 : Int32) (x2 : Int32) (I : Nat → Int32) (J : Nat → Int64) (B : Nat → Nat → Int32) (D : Nat → Nat → Int64) (ls : Array Slot) (H : Heap) (locs : List Loc), wl_LassoFinderModel_depth_4  Post n x1 x2 I J B D → lv_has ls 3 [(0, .ref (ad 0)), (1, .int x1), (2, .int x2)] → zW G A s.heap (wM ad K I J B D) H locs → W p l e { frames := 0, cells := 0, slots := 0, locals := 0 } s m ([.ref (ad 0)] : List Value).toArray below meth c H locs 0 0 (MQ below (va_Qi (fun (r : Int32) (u : zS) => Post r u.1 u.2.1 u.2.2.1 u.2.2.2) (fun u t => zPost G K A (wM ad K u.1 u.2.1 u.2.2.1 u.2.2.2) t) A) ([.ref (ad 0)] : List Value).toArray s 0 0 A) (F0 m 4 ls []) := by
  intro n
  induction n with
  | zero => intro x1 x2 I J B D ls H locs hok; exact hok.elim
  | succ n ih => exact wB_LassoFinderModel_depth_4 G K ad  Post C (wl_LassoFinderModel_depth_4  Post n) ih
set_option maxHeartbeats 8000000 in
set_option maxRecDepth 100000 in
theorem w_LassoFinderModel_depth (l : Launch) (G : va_G) (K : Nat → ClassId) (ad : Nat → Nat) (I : Nat → Int32) (J : Nat → Int64) (B : Nat → Nat → Int32) (D : Nat → Nat → Int64) (Post : Int32 → (Nat → Int32) → (Nat → Int64) → (Nat → Nat → Int32) → (Nat → Nat → Int64) → Prop) (sz : Nat) (hok : wp_LassoFinderModel_depth I J B D  Post) : Met l zy_LassoFinderModel_depth (Cond.code zy_LassoFinderModel_depth prog_14_method_42_code 3 (some .int) :: zTB) { frames := 0, cells := 0, slots := 0, locals := 0 } (va_Pc [.ref (ad 0)] (zPre G K (wM ad K I J B D) sz)) (va_Qi (fun (r : Int32) (u : zS) => Post r u.1 u.2.1 u.2.2.1 u.2.2.2) (fun u t => zPost G K (va_A (wM ad K I J B D) sz) (wM ad K u.1 u.2.1 u.2.2.1 u.2.2.2) t) (va_A (wM ad K I J B D) sz)) 0 0 (va_A (wM ad K I J B D) sz) := by
  refine zMet (y := zy_LassoFinderModel_depth) (av := [.ref (ad 0)]) (maxL := 3) (cc := prog_14_method_42_code) (ret := (some .int)) (W0 := (wM ad K I J B D)) (sz := sz) (G := G) (K := K) (wt := zTB) (mc := 0) (ms := 0) (Qf := fun A => va_Qi (fun (r : Int32) (u : zS) => Post r u.1 u.2.1 u.2.2.1 u.2.2.2) (fun u t => zPost G K A (wM ad K u.1 u.2.1 u.2.2.1 u.2.2.2) t) A) (by decide) (Nat.le_of_ble_eq_true rfl) ?_
  intro p e s m below meth c ls A hx hb hr hml hts hown hlocks hin hA hK H locs hw hsz hl
  clear hsz
  have hown : s.vm.findClass "LassoFinderModel" = some m.cls := hown
  have C : zCx p s m ([.ref (ad 0)] : List Value).toArray meth c A G K prog_14_method_42_code (some .int) 3 "LassoFinderModel" := ⟨hx, hb, hr, hml, hts, hown, hlocks, hA, hK⟩
  have hl : lv_has ls 3 [(0, .ref (ad 0))] := hl
  have hw : zW G A s.heap (wM ad K I J B D) H locs := hw
  unfold wp_LassoFinderModel_depth at hok
  refine lv_iconst (v := 0) hx hb zd_LassoFinderModel_depth_0 (by decide) ?_
  refine lv_istore_n hx hb zd_LassoFinderModel_depth_1 rfl hl (by decide) rfl (fun ls hl => ?_)
  have hl : lv_has ls 3 [(1, .int 0), (0, .ref (ad 0))] := hl
  refine lv_iconst (v := 0) hx hb zd_LassoFinderModel_depth_2 (by decide) ?_
  refine lv_istore_n hx hb zd_LassoFinderModel_depth_3 rfl hl (by decide) rfl (fun ls hl => ?_)
  have hl : lv_has ls 3 [(2, .int 0), (1, .int 0), (0, .ref (ad 0))] := hl
  obtain ⟨n9, hok⟩ := hok
  exact wL_LassoFinderModel_depth_4 G K ad  Post C n9 0 0 I J B D ls H locs hok (lv_sub hl [2, 1, 0] rfl) hw
def wc_LassoFinderModel_push_72 (a0 : Int32) (Post : Int32 → (Nat → Int32) → (Nat → Int64) → (Nat → Nat → Int32) → (Nat → Nat → Int64) → Prop) (x1 : Int32) (y0 : Int32) (y1 : Int32) (I : Nat → Int32) (J : Nat → Int64) (B : Nat → Nat → Int32) (D : Nat → Nat → Int64) : Prop :=
  ∀ z1 : Int32, z1 = (y1 + y0) → vp_in (I 13) 240 ∧ ∀ z2 : Int32, z2 = ((I 13) + 1) → ∀ z3 : Int32, z3 = ((I 2) + 1) → Post 1 (upd (upd (upd I 21 z1) 13 z2) 2 z3) J (va_up B 28 (upd (B 28) (I 13).toNatClampNeg x1)) D
def wc_LassoFinderModel_push_71 (a0 : Int32) (Post : Int32 → (Nat → Int32) → (Nat → Int64) → (Nat → Nat → Int32) → (Nat → Nat → Int64) → Prop) (x1 : Int32) (y0 : Int32) (I : Nat → Int32) (J : Nat → Int64) (B : Nat → Nat → Int32) (D : Nat → Nat → Int64) : Prop :=
  wc_LassoFinderModel_push_72 a0 Post x1 0 y0 I J B D
def wc_LassoFinderModel_push_50 (a0 : Int32) (Post : Int32 → (Nat → Int32) → (Nat → Int64) → (Nat → Nat → Int32) → (Nat → Nat → Int64) → Prop) (x1 : Int32) (I : Nat → Int32) (J : Nat → Int64) (B : Nat → Nat → Int32) (D : Nat → Nat → Int64) : Prop :=
  ((x1 < 12 → wc_LassoFinderModel_push_71 a0 Post x1 (I 21) I J B D) ∧ (¬ x1 < 12 → (((15 : Int32) < x1 → wc_LassoFinderModel_push_71 a0 Post x1 (I 21) I J B D) ∧ (¬ (15 : Int32) < x1 → wc_LassoFinderModel_push_72 a0 Post x1 1 (I 21) I J B D))))
def wc_LassoFinderModel_push_45 (a0 : Int32) (Post : Int32 → (Nat → Int32) → (Nat → Int64) → (Nat → Nat → Int32) → (Nat → Nat → Int64) → Prop)  (I : Nat → Int32) (J : Nat → Int64) (B : Nat → Nat → Int32) (D : Nat → Nat → Int64) : Prop :=
  wp_LassoFinderModel_fail I J B D  (fun r6 I6 J6 B6 D6 => (r6 = 0 ∨ r6 = 1) ∧ Post r6 I6 J6 B6 D6)
def wc_LassoFinderModel_push_20 (a0 : Int32) (Post : Int32 → (Nat → Int32) → (Nat → Int64) → (Nat → Nat → Int32) → (Nat → Nat → Int64) → Prop) (x1 : Int32) (I : Nat → Int32) (J : Nat → Int64) (B : Nat → Nat → Int32) (D : Nat → Nat → Int64) : Prop :=
  wp_LassoFinderModel_binds I J B D x1 (fun r7 I7 J7 B7 D7 => ((r7 = 2 → wc_LassoFinderModel_push_50 a0 Post x1 I7 J7 B7 D7) ∧ (¬ r7 = 2 → wp_LassoFinderModel_binds I7 J7 B7 D7 x1 (fun r9 I9 J9 B9 D9 => ((r9 = 3 → wc_LassoFinderModel_push_50 a0 Post x1 I9 J9 B9 D9) ∧ (¬ r9 = 3 → wp_LassoFinderModel_depth I9 J9 B9 D9  (fun r11 I11 J11 B11 D11 => ((¬ r11 = 8 → wc_LassoFinderModel_push_50 a0 Post x1 I11 J11 B11 D11) ∧ (r11 = 8 → wc_LassoFinderModel_push_45 a0 Post I11 J11 B11 D11)))))))))
def wp_LassoFinderModel_push (I : Nat → Int32) (J : Nat → Int64) (B : Nat → Nat → Int32) (D : Nat → Nat → Int64) (a0 : Int32) (Post : Int32 → (Nat → Int32) → (Nat → Int64) → (Nat → Nat → Int32) → (Nat → Nat → Int64) → Prop) : Prop :=
  ((a0 < 12 → wc_LassoFinderModel_push_20 a0 Post a0 I J B D) ∧ (¬ a0 < 12 → (((15 : Int32) < a0 → wc_LassoFinderModel_push_20 a0 Post a0 I J B D) ∧ (¬ (15 : Int32) < a0 → (((I 21) = 3 → wc_LassoFinderModel_push_45 a0 Post I J B D) ∧ (¬ (I 21) = 3 → wc_LassoFinderModel_push_20 a0 Post a0 I J B D))))))
set_option maxHeartbeats 8000000 in
set_option maxRecDepth 100000 in
theorem wJ_LassoFinderModel_push_72 {p : Program} {l : Launch} {e : Env} {s : State} {m : MethodId} {below : List Frame} {meth : Method} {c : Code} {A : Nat → Prop} (G : va_G) (K : Nat → ClassId) (ad : Nat → Nat) (a0 : Int32) (Post : Int32 → (Nat → Int32) → (Nat → Int64) → (Nat → Nat → Int32) → (Nat → Nat → Int64) → Prop) (C : zCx p s m ([.ref (ad 0), .int a0] : List Value).toArray meth c A G K prog_14_method_46_code (some .boolean) 2 "LassoFinderModel") : ∀ (x1 : Int32) (y0 : Int32) (y1 : Int32) (I : Nat → Int32) (J : Nat → Int64) (B : Nat → Nat → Int32) (D : Nat → Nat → Int64) (ls : Array Slot) (H : Heap) (locs : List Loc), wc_LassoFinderModel_push_72 a0 Post x1 y0 y1 I J B D → lv_has ls 2 [(0, .ref (ad 0)), (1, .int x1)] → zW G A s.heap (wM ad K I J B D) H locs → W p l e { frames := 1, cells := 0, slots := 0, locals := 22 } s m ([.ref (ad 0), .int a0] : List Value).toArray below meth c H locs 0 0 (MQ below (va_Qi (fun (r : Int32) (u : zS) => Post r u.1 u.2.1 u.2.2.1 u.2.2.2) (fun u t => zPost G K A (wM ad K u.1 u.2.1 u.2.2.1 u.2.2.2) t) A) ([.ref (ad 0), .int a0] : List Value).toArray s 0 0 A) (F0 m 72 ls [.int y0, .int y1, .ref (ad 0)]) := by
  obtain ⟨hx, hb, hr, hml, hts, hown, hlocks, hA, hK⟩ := id C
  intro x1 y0 y1 I J B D ls H locs hok hl hw
  unfold wc_LassoFinderModel_push_72 at hok
  refine lv_iadd hx hb zd_LassoFinderModel_push_72 ?_
  refine lv_topi (fun z1 ez1 => ?_)
  have hok := hok z1 ez1
  refine z_put (v := .int z1) hx hb hts hown hK hw zZ12 0 wM_g0 65 (by decide) zm_362 rfl rfl rfl (Nat.le_of_ble_eq_true rfl) zd_LassoFinderModel_push_73 (fun H locs hw => ?_)
  have hw := wM_sI21 hw
  refine lv_aload_n hx hb zd_LassoFinderModel_push_76 rfl (lv_at hl 0 rfl) ?_
  refine z_get (v := .ref (ad 30)) hx hb hts hown hK hw zZ12 0 wM_g0 43 (by decide) zm_264 rfl zd_LassoFinderModel_push_77 ?_
  refine lv_aload_n hx hb zd_LassoFinderModel_push_80 rfl (lv_at hl 0 rfl) ?_
  refine z_get (v := .int (I 13)) hx hb hts hown hK hw zZ12 0 wM_g0 42 (by decide) zm_348 rfl zd_LassoFinderModel_push_81 ?_
  refine lv_iload_n hx hb zd_LassoFinderModel_push_84 rfl (lv_at hl 1 rfl) ?_
  refine va_iast (f := (B 28)) hx hb hK hw.1 hw.2.1 hw.2.2 30 0 wM_a30 rfl hok.1 zd_LassoFinderModel_push_85 (fun H locs w91 w92 w93 => ?_)
  have hok := hok.2
  have hw := wM_t30 ⟨w91, w92, w93⟩
  refine lv_aload_n hx hb zd_LassoFinderModel_push_86 rfl (lv_at hl 0 rfl) ?_
  refine lv_dup hx hb zd_LassoFinderModel_push_87 rfl ?_
  refine z_get (v := .int (I 13)) hx hb hts hown hK hw zZ12 0 wM_g0 42 (by decide) zm_348 rfl zd_LassoFinderModel_push_88 ?_
  refine lv_iconst (v := 1) hx hb zd_LassoFinderModel_push_91 (by decide) ?_
  refine lv_iadd hx hb zd_LassoFinderModel_push_92 ?_
  refine lv_topi (fun z2 ez2 => ?_)
  have hok := hok z2 ez2
  refine z_put (v := .int z2) hx hb hts hown hK hw zZ12 0 wM_g0 42 (by decide) zm_348 rfl rfl rfl (Nat.le_of_ble_eq_true rfl) zd_LassoFinderModel_push_93 (fun H locs hw => ?_)
  have hw := wM_sI13 hw
  refine lv_aload_n hx hb zd_LassoFinderModel_push_96 rfl (lv_at hl 0 rfl) ?_
  refine lv_dup hx hb zd_LassoFinderModel_push_97 rfl ?_
  refine z_get (v := .int (I 2)) hx hb hts hown hK hw zZ12 0 wM_g0 3 (by decide) zm_335 rfl zd_LassoFinderModel_push_98 ?_
  refine lv_iconst (v := 1) hx hb zd_LassoFinderModel_push_101 (by decide) ?_
  refine lv_iadd hx hb zd_LassoFinderModel_push_102 ?_
  refine lv_topi (fun z3 ez3 => ?_)
  have hok := hok z3 ez3
  refine z_put (v := .int z3) hx hb hts hown hK hw zZ12 0 wM_g0 3 (by decide) zm_335 rfl rfl rfl (Nat.le_of_ble_eq_true rfl) zd_LassoFinderModel_push_103 (fun H locs hw => ?_)
  have hw := wM_sI2 hw
  refine lv_iconst (v := 1) hx hb zd_LassoFinderModel_push_106 (by decide) ?_
  exact (z_iret (u := ((upd (upd (upd I 21 z1) 13 z2) 2 z3), J, (va_up B 28 (upd (B 28) (I 13).toNatClampNeg x1)), D)) hx hb hr hlocks rfl hw (List.range 58) wM_all wM_nd hok (Nat.le_of_ble_eq_true rfl) (Nat.le_of_ble_eq_true rfl) zd_LassoFinderModel_push_107)
set_option maxHeartbeats 8000000 in
set_option maxRecDepth 100000 in
theorem wJ_LassoFinderModel_push_71 {p : Program} {l : Launch} {e : Env} {s : State} {m : MethodId} {below : List Frame} {meth : Method} {c : Code} {A : Nat → Prop} (G : va_G) (K : Nat → ClassId) (ad : Nat → Nat) (a0 : Int32) (Post : Int32 → (Nat → Int32) → (Nat → Int64) → (Nat → Nat → Int32) → (Nat → Nat → Int64) → Prop) (C : zCx p s m ([.ref (ad 0), .int a0] : List Value).toArray meth c A G K prog_14_method_46_code (some .boolean) 2 "LassoFinderModel") : ∀ (x1 : Int32) (y0 : Int32) (I : Nat → Int32) (J : Nat → Int64) (B : Nat → Nat → Int32) (D : Nat → Nat → Int64) (ls : Array Slot) (H : Heap) (locs : List Loc), wc_LassoFinderModel_push_71 a0 Post x1 y0 I J B D → lv_has ls 2 [(0, .ref (ad 0)), (1, .int x1)] → zW G A s.heap (wM ad K I J B D) H locs → W p l e { frames := 1, cells := 0, slots := 0, locals := 22 } s m ([.ref (ad 0), .int a0] : List Value).toArray below meth c H locs 0 0 (MQ below (va_Qi (fun (r : Int32) (u : zS) => Post r u.1 u.2.1 u.2.2.1 u.2.2.2) (fun u t => zPost G K A (wM ad K u.1 u.2.1 u.2.2.1 u.2.2.2) t) A) ([.ref (ad 0), .int a0] : List Value).toArray s 0 0 A) (F0 m 71 ls [.int y0, .ref (ad 0)]) := by
  obtain ⟨hx, hb, hr, hml, hts, hown, hlocks, hA, hK⟩ := id C
  intro x1 y0 I J B D ls H locs hok hl hw
  unfold wc_LassoFinderModel_push_71 at hok
  refine lv_iconst (v := 0) hx hb zd_LassoFinderModel_push_71 (by decide) ?_
  exact wJ_LassoFinderModel_push_72 G K ad a0 Post C x1 0 y0 I J B D ls H locs hok (lv_sub hl [0, 1] rfl) hw
set_option maxHeartbeats 8000000 in
set_option maxRecDepth 100000 in
theorem wJ_LassoFinderModel_push_50 {p : Program} {l : Launch} {e : Env} {s : State} {m : MethodId} {below : List Frame} {meth : Method} {c : Code} {A : Nat → Prop} (G : va_G) (K : Nat → ClassId) (ad : Nat → Nat) (a0 : Int32) (Post : Int32 → (Nat → Int32) → (Nat → Int64) → (Nat → Nat → Int32) → (Nat → Nat → Int64) → Prop) (C : zCx p s m ([.ref (ad 0), .int a0] : List Value).toArray meth c A G K prog_14_method_46_code (some .boolean) 2 "LassoFinderModel") : ∀ (x1 : Int32) (I : Nat → Int32) (J : Nat → Int64) (B : Nat → Nat → Int32) (D : Nat → Nat → Int64) (ls : Array Slot) (H : Heap) (locs : List Loc), wc_LassoFinderModel_push_50 a0 Post x1 I J B D → lv_has ls 2 [(0, .ref (ad 0)), (1, .int x1)] → zW G A s.heap (wM ad K I J B D) H locs → W p l e { frames := 1, cells := 0, slots := 0, locals := 22 } s m ([.ref (ad 0), .int a0] : List Value).toArray below meth c H locs 0 0 (MQ below (va_Qi (fun (r : Int32) (u : zS) => Post r u.1 u.2.1 u.2.2.1 u.2.2.2) (fun u t => zPost G K A (wM ad K u.1 u.2.1 u.2.2.1 u.2.2.2) t) A) ([.ref (ad 0), .int a0] : List Value).toArray s 0 0 A) (F0 m 50 ls []) := by
  obtain ⟨hx, hb, hr, hml, hts, hown, hlocks, hA, hK⟩ := id C
  intro x1 I J B D ls H locs hok hl hw
  unfold wc_LassoFinderModel_push_50 at hok
  refine lv_aload_n hx hb zd_LassoFinderModel_push_50 rfl (lv_at hl 0 rfl) ?_
  refine lv_dup hx hb zd_LassoFinderModel_push_51 rfl ?_
  refine z_get (v := .int (I 21)) hx hb hts hown hK hw zZ12 0 wM_g0 65 (by decide) zm_362 rfl zd_LassoFinderModel_push_52 ?_
  refine lv_iload_n hx hb zd_LassoFinderModel_push_55 rfl (lv_at hl 1 rfl) ?_
  refine lv_bipush (v := 12) hx hb zd_LassoFinderModel_push_56 (by decide) ?_
  refine lv_icmp_lt (tgt := 71) hx hb zd_LassoFinderModel_push_58 (by decide) (fun hc4 => ?_) (fun hc4 => ?_)
  · have hok := hok.1 hc4
    exact wJ_LassoFinderModel_push_71 G K ad a0 Post C x1 (I 21) I J B D ls H locs hok (lv_sub hl [0, 1] rfl) hw
  · have hok := hok.2 hc4
    refine lv_iload_n hx hb zd_LassoFinderModel_push_61 rfl (lv_at hl 1 rfl) ?_
    refine lv_bipush (v := 15) hx hb zd_LassoFinderModel_push_62 (by decide) ?_
    refine lv_icmp_gt (tgt := 71) hx hb zd_LassoFinderModel_push_64 (by decide) (fun hc5 => ?_) (fun hc5 => ?_)
    · have hok := hok.1 hc5
      exact wJ_LassoFinderModel_push_71 G K ad a0 Post C x1 (I 21) I J B D ls H locs hok (lv_sub hl [0, 1] rfl) hw
    · have hok := hok.2 hc5
      refine lv_iconst (v := 1) hx hb zd_LassoFinderModel_push_67 (by decide) ?_
      refine lv_goto (tgt := 72) hx hb zd_LassoFinderModel_push_68 (by decide) ?_
      exact wJ_LassoFinderModel_push_72 G K ad a0 Post C x1 1 (I 21) I J B D ls H locs hok (lv_sub hl [0, 1] rfl) hw
set_option maxHeartbeats 8000000 in
set_option maxRecDepth 100000 in
theorem wJ_LassoFinderModel_push_45 {p : Program} {l : Launch} {e : Env} {s : State} {m : MethodId} {below : List Frame} {meth : Method} {c : Code} {A : Nat → Prop} (G : va_G) (K : Nat → ClassId) (ad : Nat → Nat) (a0 : Int32) (Post : Int32 → (Nat → Int32) → (Nat → Int64) → (Nat → Nat → Int32) → (Nat → Nat → Int64) → Prop) (C : zCx p s m ([.ref (ad 0), .int a0] : List Value).toArray meth c A G K prog_14_method_46_code (some .boolean) 2 "LassoFinderModel") : ∀  (I : Nat → Int32) (J : Nat → Int64) (B : Nat → Nat → Int32) (D : Nat → Nat → Int64) (ls : Array Slot) (H : Heap) (locs : List Loc), wc_LassoFinderModel_push_45 a0 Post  I J B D → lv_has ls 2 [(0, .ref (ad 0))] → zW G A s.heap (wM ad K I J B D) H locs → W p l e { frames := 1, cells := 0, slots := 0, locals := 22 } s m ([.ref (ad 0), .int a0] : List Value).toArray below meth c H locs 0 0 (MQ below (va_Qi (fun (r : Int32) (u : zS) => Post r u.1 u.2.1 u.2.2.1 u.2.2.2) (fun u t => zPost G K A (wM ad K u.1 u.2.1 u.2.2.1 u.2.2.2) t) A) ([.ref (ad 0), .int a0] : List Value).toArray s 0 0 A) (F0 m 45 ls []) := by
  obtain ⟨hx, hb, hr, hml, hts, hown, hlocks, hA, hK⟩ := id C
  intro  I J B D ls H locs hok hl hw
  unfold wc_LassoFinderModel_push_45 at hok
  refine lv_aload_n hx hb zd_LassoFinderModel_push_45 rfl (lv_at hl 0 rfl) ?_
  refine z_calli (w1 := fun (u : zS) => wM ad K u.1 u.2.1 u.2.2.1 u.2.2.2) (wr := []) (z_runV (q0 := 0) (wc := (wM ad K I J B D)) (As := []) (rest := []) ⟨hx, hb, hml, hown, hts⟩ (w_LassoFinderModel_fail l G K ad I J B D  _ H.size hok) zf_LassoFinderModel_fail zm_334 ⟨Nat.le_of_ble_eq_true rfl, Nat.le_of_ble_eq_true rfl⟩ hK hw (List.range 58) wM_all wM_nd wM_g0 rfl rfl hl.1 rfl (Nat.le_of_ble_eq_true rfl) zd_LassoFinderModel_push_46 ⟨Nat.le_of_ble_eq_true rfl, Nat.le_of_ble_eq_true rfl⟩) hw hA (List.range 58) [] wM_all rfl (by decide) (fun i hi => by cases hi) (fun r6 u H locs hok hw => ?_)
  obtain ⟨I6, J6, B6, D6⟩ := u
  dsimp only at hok
  have hw : zW G A s.heap (wM ad K I6 J6 B6 D6) H locs := hw
  have hbo := hok.1
  have hok := hok.2
  exact (z_iret (u := (I6, J6, B6, D6)) hx hb hr hlocks (z_nar hbo) hw (List.range 58) wM_all wM_nd hok (Nat.le_of_ble_eq_true rfl) (Nat.le_of_ble_eq_true rfl) zd_LassoFinderModel_push_49)
set_option maxHeartbeats 8000000 in
set_option maxRecDepth 100000 in
theorem wJ_LassoFinderModel_push_20 {p : Program} {l : Launch} {e : Env} {s : State} {m : MethodId} {below : List Frame} {meth : Method} {c : Code} {A : Nat → Prop} (G : va_G) (K : Nat → ClassId) (ad : Nat → Nat) (a0 : Int32) (Post : Int32 → (Nat → Int32) → (Nat → Int64) → (Nat → Nat → Int32) → (Nat → Nat → Int64) → Prop) (C : zCx p s m ([.ref (ad 0), .int a0] : List Value).toArray meth c A G K prog_14_method_46_code (some .boolean) 2 "LassoFinderModel") : ∀ (x1 : Int32) (I : Nat → Int32) (J : Nat → Int64) (B : Nat → Nat → Int32) (D : Nat → Nat → Int64) (ls : Array Slot) (H : Heap) (locs : List Loc), wc_LassoFinderModel_push_20 a0 Post x1 I J B D → lv_has ls 2 [(0, .ref (ad 0)), (1, .int x1)] → zW G A s.heap (wM ad K I J B D) H locs → W p l e { frames := 1, cells := 0, slots := 0, locals := 22 } s m ([.ref (ad 0), .int a0] : List Value).toArray below meth c H locs 0 0 (MQ below (va_Qi (fun (r : Int32) (u : zS) => Post r u.1 u.2.1 u.2.2.1 u.2.2.2) (fun u t => zPost G K A (wM ad K u.1 u.2.1 u.2.2.1 u.2.2.2) t) A) ([.ref (ad 0), .int a0] : List Value).toArray s 0 0 A) (F0 m 20 ls []) := by
  obtain ⟨hx, hb, hr, hml, hts, hown, hlocks, hA, hK⟩ := id C
  intro x1 I J B D ls H locs hok hl hw
  unfold wc_LassoFinderModel_push_20 at hok
  refine lv_iload_n hx hb zd_LassoFinderModel_push_20 rfl (lv_at hl 1 rfl) ?_
  refine z_calli (w1 := fun (u : zS) => wM ad K u.1 u.2.1 u.2.2.1 u.2.2.2) (wr := []) (z_runS (wc := (wM ad K I J B D)) (As := [.int x1]) (rest := []) ⟨hx, hb, hml, hown, hts⟩ (w_LassoFinderModel_binds l G K ad I J B D x1 _ H.size hok) zf_LassoFinderModel_binds zm_361 ⟨Nat.le_of_ble_eq_true rfl, Nat.le_of_ble_eq_true rfl⟩ hK hw (List.range 58) wM_all wM_nd rfl hl.1 rfl (Nat.le_of_ble_eq_true rfl) zd_LassoFinderModel_push_21 ⟨Nat.le_of_ble_eq_true rfl, Nat.le_of_ble_eq_true rfl⟩) hw hA (List.range 58) [] wM_all rfl (by decide) (fun i hi => by cases hi) (fun r7 u H locs hok hw => ?_)
  obtain ⟨I7, J7, B7, D7⟩ := u
  dsimp only at hok
  have hw : zW G A s.heap (wM ad K I7 J7 B7 D7) H locs := hw
  refine lv_iconst (v := 2) hx hb zd_LassoFinderModel_push_24 (by decide) ?_
  refine lv_icmp_eq (tgt := 50) hx hb zd_LassoFinderModel_push_25 (by decide) (fun hc8 => ?_) (fun hc8 => ?_)
  · have hok := hok.1 hc8
    exact wJ_LassoFinderModel_push_50 G K ad a0 Post C x1 I7 J7 B7 D7 ls H locs hok (lv_sub hl [0, 1] rfl) hw
  · have hok := hok.2 hc8
    refine lv_iload_n hx hb zd_LassoFinderModel_push_28 rfl (lv_at hl 1 rfl) ?_
    refine z_calli (w1 := fun (u : zS) => wM ad K u.1 u.2.1 u.2.2.1 u.2.2.2) (wr := []) (z_runS (wc := (wM ad K I7 J7 B7 D7)) (As := [.int x1]) (rest := []) ⟨hx, hb, hml, hown, hts⟩ (w_LassoFinderModel_binds l G K ad I7 J7 B7 D7 x1 _ H.size hok) zf_LassoFinderModel_binds zm_361 ⟨Nat.le_of_ble_eq_true rfl, Nat.le_of_ble_eq_true rfl⟩ hK hw (List.range 58) wM_all wM_nd rfl hl.1 rfl (Nat.le_of_ble_eq_true rfl) zd_LassoFinderModel_push_29 ⟨Nat.le_of_ble_eq_true rfl, Nat.le_of_ble_eq_true rfl⟩) hw hA (List.range 58) [] wM_all rfl (by decide) (fun i hi => by cases hi) (fun r9 u H locs hok hw => ?_)
    obtain ⟨I9, J9, B9, D9⟩ := u
    dsimp only at hok
    have hw : zW G A s.heap (wM ad K I9 J9 B9 D9) H locs := hw
    refine lv_iconst (v := 3) hx hb zd_LassoFinderModel_push_32 (by decide) ?_
    refine lv_icmp_eq (tgt := 50) hx hb zd_LassoFinderModel_push_33 (by decide) (fun hc10 => ?_) (fun hc10 => ?_)
    · have hok := hok.1 hc10
      exact wJ_LassoFinderModel_push_50 G K ad a0 Post C x1 I9 J9 B9 D9 ls H locs hok (lv_sub hl [0, 1] rfl) hw
    · have hok := hok.2 hc10
      refine lv_aload_n hx hb zd_LassoFinderModel_push_36 rfl (lv_at hl 0 rfl) ?_
      refine z_calli (w1 := fun (u : zS) => wM ad K u.1 u.2.1 u.2.2.1 u.2.2.2) (wr := []) (z_runV (q0 := 0) (wc := (wM ad K I9 J9 B9 D9)) (As := []) (rest := []) ⟨hx, hb, hml, hown, hts⟩ (w_LassoFinderModel_depth l G K ad I9 J9 B9 D9  _ H.size hok) zf_LassoFinderModel_depth zm_363 ⟨Nat.le_of_ble_eq_true rfl, Nat.le_of_ble_eq_true rfl⟩ hK hw (List.range 58) wM_all wM_nd wM_g0 rfl rfl hl.1 rfl (Nat.le_of_ble_eq_true rfl) zd_LassoFinderModel_push_37 ⟨Nat.le_of_ble_eq_true rfl, Nat.le_of_ble_eq_true rfl⟩) hw hA (List.range 58) [] wM_all rfl (by decide) (fun i hi => by cases hi) (fun r11 u H locs hok hw => ?_)
      obtain ⟨I11, J11, B11, D11⟩ := u
      dsimp only at hok
      have hw : zW G A s.heap (wM ad K I11 J11 B11 D11) H locs := hw
      refine lv_bipush (v := 8) hx hb zd_LassoFinderModel_push_40 (by decide) ?_
      refine lv_icmp_ne (tgt := 50) hx hb zd_LassoFinderModel_push_42 (by decide) (fun hc12 => ?_) (fun hc12 => ?_)
      · have hok := hok.1 hc12
        exact wJ_LassoFinderModel_push_50 G K ad a0 Post C x1 I11 J11 B11 D11 ls H locs hok (lv_sub hl [0, 1] rfl) hw
      · have hok := hok.2 hc12
        exact wJ_LassoFinderModel_push_45 G K ad a0 Post C I11 J11 B11 D11 ls H locs hok (lv_sub hl [0] rfl) hw
set_option maxHeartbeats 8000000 in
set_option maxRecDepth 100000 in
theorem w_LassoFinderModel_push (l : Launch) (G : va_G) (K : Nat → ClassId) (ad : Nat → Nat) (I : Nat → Int32) (J : Nat → Int64) (B : Nat → Nat → Int32) (D : Nat → Nat → Int64) (a0 : Int32) (Post : Int32 → (Nat → Int32) → (Nat → Int64) → (Nat → Nat → Int32) → (Nat → Nat → Int64) → Prop) (sz : Nat) (hok : wp_LassoFinderModel_push I J B D a0 Post) : Met l zy_LassoFinderModel_push (Cond.code zy_LassoFinderModel_push prog_14_method_46_code 2 (some .boolean) :: zTB) { frames := 1, cells := 0, slots := 0, locals := 22 } (va_Pc [.ref (ad 0), .int a0] (zPre G K (wM ad K I J B D) sz)) (va_Qi (fun (r : Int32) (u : zS) => Post r u.1 u.2.1 u.2.2.1 u.2.2.2) (fun u t => zPost G K (va_A (wM ad K I J B D) sz) (wM ad K u.1 u.2.1 u.2.2.1 u.2.2.2) t) (va_A (wM ad K I J B D) sz)) 0 0 (va_A (wM ad K I J B D) sz) := by
  refine zMet (y := zy_LassoFinderModel_push) (av := [.ref (ad 0), .int a0]) (maxL := 2) (cc := prog_14_method_46_code) (ret := (some .boolean)) (W0 := (wM ad K I J B D)) (sz := sz) (G := G) (K := K) (wt := zTB) (mc := 0) (ms := 0) (Qf := fun A => va_Qi (fun (r : Int32) (u : zS) => Post r u.1 u.2.1 u.2.2.1 u.2.2.2) (fun u t => zPost G K A (wM ad K u.1 u.2.1 u.2.2.1 u.2.2.2) t) A) (by decide) (Nat.le_of_ble_eq_true rfl) ?_
  intro p e s m below meth c ls A hx hb hr hml hts hown hlocks hin hA hK H locs hw hsz hl
  clear hsz
  have hown : s.vm.findClass "LassoFinderModel" = some m.cls := hown
  have C : zCx p s m ([.ref (ad 0), .int a0] : List Value).toArray meth c A G K prog_14_method_46_code (some .boolean) 2 "LassoFinderModel" := ⟨hx, hb, hr, hml, hts, hown, hlocks, hA, hK⟩
  have hl : lv_has ls 2 [(0, .ref (ad 0)), (1, .int a0)] := hl
  have hw : zW G A s.heap (wM ad K I J B D) H locs := hw
  unfold wp_LassoFinderModel_push at hok
  refine lv_iload_n hx hb zd_LassoFinderModel_push_0 rfl (lv_at hl 1 rfl) ?_
  refine lv_bipush (v := 12) hx hb zd_LassoFinderModel_push_1 (by decide) ?_
  refine lv_icmp_lt (tgt := 20) hx hb zd_LassoFinderModel_push_3 (by decide) (fun hc13 => ?_) (fun hc13 => ?_)
  · have hok := hok.1 hc13
    exact wJ_LassoFinderModel_push_20 G K ad a0 Post C a0 I J B D ls H locs hok (lv_sub hl [0, 1] rfl) hw
  · have hok := hok.2 hc13
    refine lv_iload_n hx hb zd_LassoFinderModel_push_6 rfl (lv_at hl 1 rfl) ?_
    refine lv_bipush (v := 15) hx hb zd_LassoFinderModel_push_7 (by decide) ?_
    refine lv_icmp_gt (tgt := 20) hx hb zd_LassoFinderModel_push_9 (by decide) (fun hc14 => ?_) (fun hc14 => ?_)
    · have hok := hok.1 hc14
      exact wJ_LassoFinderModel_push_20 G K ad a0 Post C a0 I J B D ls H locs hok (lv_sub hl [0, 1] rfl) hw
    · have hok := hok.2 hc14
      refine lv_aload_n hx hb zd_LassoFinderModel_push_12 rfl (lv_at hl 0 rfl) ?_
      refine z_get (v := .int (I 21)) hx hb hts hown hK hw zZ12 0 wM_g0 65 (by decide) zm_362 rfl zd_LassoFinderModel_push_13 ?_
      refine lv_iconst (v := 3) hx hb zd_LassoFinderModel_push_16 (by decide) ?_
      refine lv_icmp_eq (tgt := 45) hx hb zd_LassoFinderModel_push_17 (by decide) (fun hc15 => ?_) (fun hc15 => ?_)
      · have hok := hok.1 hc15
        exact wJ_LassoFinderModel_push_45 G K ad a0 Post C I J B D ls H locs hok (lv_sub hl [0] rfl) hw
      · have hok := hok.2 hc15
        exact wJ_LassoFinderModel_push_20 G K ad a0 Post C a0 I J B D ls H locs hok (lv_sub hl [0, 1] rfl) hw
