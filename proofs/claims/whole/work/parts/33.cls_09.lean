abbrev zy_Truths_atomHolds : MethodName := ⟨"LassoFinder$Truths", "atomHolds", "(I)Z"⟩
abbrev zy_Truths_joined : MethodName := ⟨"LassoFinder$Truths", "joined", "(I)I"⟩
abbrev zy_Truths_carried : MethodName := ⟨"LassoFinder$Truths", "carried", "(II)I"⟩
theorem zn_480 : Cond.methodLink "LassoFinder$Truths" 112 ⟨"LassoFinder$Terms", "reckon", "(I[I)I"⟩ ∈ zTB := z_in (zt_5 _ (List.mem_of_getElem? (i := 94) rfl)) rfl
theorem zn_485 : Cond.fieldLink "LassoFinder$Truths" 17 "LassoFinder$Truths" "formula" "LLassoFinder$Formula;" ∈ zTB := z_in (zt_2 _ (List.mem_of_getElem? (i := 188) rfl)) rfl
theorem zn_487 : Cond.fieldLink "LassoFinder$Truths" 51 "LassoFinder$Formula" "kinds" "[I" ∈ zTB := z_in (zt_2 _ (List.mem_of_getElem? (i := 143) rfl)) rfl
theorem zn_492 : Cond.fieldLink "LassoFinder$Truths" 13 "LassoFinder$Truths" "situation" "LLassoFinder$Situation;" ∈ zTB := z_in (zt_2 _ (List.mem_of_getElem? (i := 187) rfl)) rfl
theorem zn_495 : Cond.fieldLink "LassoFinder$Truths" 102 "LassoFinder$Formula" "left" "[I" ∈ zTB := z_in (zt_2 _ (List.mem_of_getElem? (i := 145) rfl)) rfl
theorem zn_496 : Cond.fieldLink "LassoFinder$Truths" 105 "LassoFinder$Formula" "terms" "LLassoFinder$Terms;" ∈ zTB := z_in (zt_2 _ (List.mem_of_getElem? (i := 141) rfl)) rfl
theorem zn_497 : Cond.fieldLink "LassoFinder$Truths" 109 "LassoFinder$Situation" "amounts" "[I" ∈ zTB := z_in (zt_2 _ (List.mem_of_getElem? (i := 48) rfl)) rfl
theorem zn_498 : Cond.fieldLink "LassoFinder$Truths" 118 "LassoFinder$Situation" "points" "[I" ∈ zTB := z_in (zt_2 _ (List.mem_of_getElem? (i := 52) rfl)) rfl
theorem zn_499 : Cond.fieldLink "LassoFinder$Truths" 121 "LassoFinder$Formula" "right" "[I" ∈ zTB := z_in (zt_2 _ (List.mem_of_getElem? (i := 147) rfl)) rfl
theorem zd_Truths_atomHolds_0 : decode prog_12_method_6_code 0 = .ok (.aload_n 0, 1) := by decide +kernel
theorem zd_Truths_atomHolds_1 : decode prog_12_method_6_code 1 = .ok (.getfield 17, 3) := by decide +kernel
theorem zd_Truths_atomHolds_4 : decode prog_12_method_6_code 4 = .ok (.getfield 102, 3) := by decide +kernel
theorem zd_Truths_atomHolds_7 : decode prog_12_method_6_code 7 = .ok (.iload_n 1, 1) := by decide +kernel
theorem zd_Truths_atomHolds_8 : decode prog_12_method_6_code 8 = .ok (.iaload, 1) := by decide +kernel
theorem zd_Truths_atomHolds_9 : decode prog_12_method_6_code 9 = .ok (.istore_n 2, 1) := by decide +kernel
theorem zd_Truths_atomHolds_10 : decode prog_12_method_6_code 10 = .ok (.aload_n 0, 1) := by decide +kernel
theorem zd_Truths_atomHolds_11 : decode prog_12_method_6_code 11 = .ok (.getfield 17, 3) := by decide +kernel
theorem zd_Truths_atomHolds_14 : decode prog_12_method_6_code 14 = .ok (.getfield 51, 3) := by decide +kernel
theorem zd_Truths_atomHolds_17 : decode prog_12_method_6_code 17 = .ok (.iload_n 1, 1) := by decide +kernel
theorem zd_Truths_atomHolds_18 : decode prog_12_method_6_code 18 = .ok (.iaload, 1) := by decide +kernel
theorem zd_Truths_atomHolds_19 : decode prog_12_method_6_code 19 = .ok (.bipush 8, 2) := by decide +kernel
theorem zd_Truths_atomHolds_21 : decode prog_12_method_6_code 21 = .ok (.if_icmp .ne 30, 3) := by decide +kernel
theorem zd_Truths_atomHolds_24 : decode prog_12_method_6_code 24 = .ok (.aload_n 0, 1) := by decide +kernel
theorem zd_Truths_atomHolds_25 : decode prog_12_method_6_code 25 = .ok (.getfield 17, 3) := by decide +kernel
theorem zd_Truths_atomHolds_28 : decode prog_12_method_6_code 28 = .ok (.getfield 105, 3) := by decide +kernel
theorem zd_Truths_atomHolds_31 : decode prog_12_method_6_code 31 = .ok (.iload_n 2, 1) := by decide +kernel
theorem zd_Truths_atomHolds_32 : decode prog_12_method_6_code 32 = .ok (.aload_n 0, 1) := by decide +kernel
theorem zd_Truths_atomHolds_33 : decode prog_12_method_6_code 33 = .ok (.getfield 13, 3) := by decide +kernel
theorem zd_Truths_atomHolds_36 : decode prog_12_method_6_code 36 = .ok (.getfield 109, 3) := by decide +kernel
theorem zd_Truths_atomHolds_39 : decode prog_12_method_6_code 39 = .ok (.invokevirtual 112, 3) := by decide +kernel
theorem zd_Truths_atomHolds_42 : decode prog_12_method_6_code 42 = .ok (.ifCond .eq 7, 3) := by decide +kernel
theorem zd_Truths_atomHolds_45 : decode prog_12_method_6_code 45 = .ok (.iconst 1, 1) := by decide +kernel
theorem zd_Truths_atomHolds_46 : decode prog_12_method_6_code 46 = .ok (.goto 4, 3) := by decide +kernel
theorem zd_Truths_atomHolds_49 : decode prog_12_method_6_code 49 = .ok (.iconst 0, 1) := by decide +kernel
theorem zd_Truths_atomHolds_50 : decode prog_12_method_6_code 50 = .ok (.ireturn, 1) := by decide +kernel
theorem zd_Truths_atomHolds_51 : decode prog_12_method_6_code 51 = .ok (.aload_n 0, 1) := by decide +kernel
theorem zd_Truths_atomHolds_52 : decode prog_12_method_6_code 52 = .ok (.getfield 13, 3) := by decide +kernel
theorem zd_Truths_atomHolds_55 : decode prog_12_method_6_code 55 = .ok (.getfield 118, 3) := by decide +kernel
theorem zd_Truths_atomHolds_58 : decode prog_12_method_6_code 58 = .ok (.iload_n 2, 1) := by decide +kernel
theorem zd_Truths_atomHolds_59 : decode prog_12_method_6_code 59 = .ok (.iaload, 1) := by decide +kernel
theorem zd_Truths_atomHolds_60 : decode prog_12_method_6_code 60 = .ok (.aload_n 0, 1) := by decide +kernel
theorem zd_Truths_atomHolds_61 : decode prog_12_method_6_code 61 = .ok (.getfield 17, 3) := by decide +kernel
theorem zd_Truths_atomHolds_64 : decode prog_12_method_6_code 64 = .ok (.getfield 121, 3) := by decide +kernel
theorem zd_Truths_atomHolds_67 : decode prog_12_method_6_code 67 = .ok (.iload_n 1, 1) := by decide +kernel
theorem zd_Truths_atomHolds_68 : decode prog_12_method_6_code 68 = .ok (.iaload, 1) := by decide +kernel
theorem zd_Truths_atomHolds_69 : decode prog_12_method_6_code 69 = .ok (.if_icmp .ne 7, 3) := by decide +kernel
theorem zd_Truths_atomHolds_72 : decode prog_12_method_6_code 72 = .ok (.iconst 1, 1) := by decide +kernel
theorem zd_Truths_atomHolds_73 : decode prog_12_method_6_code 73 = .ok (.goto 4, 3) := by decide +kernel
theorem zd_Truths_atomHolds_76 : decode prog_12_method_6_code 76 = .ok (.iconst 0, 1) := by decide +kernel
theorem zd_Truths_atomHolds_77 : decode prog_12_method_6_code 77 = .ok (.ireturn, 1) := by decide +kernel
theorem zd_Truths_carried_0 : decode prog_12_method_8_code 0 = .ok (.aload_n 0, 1) := by decide +kernel
theorem zd_Truths_carried_1 : decode prog_12_method_8_code 1 = .ok (.getfield 23, 3) := by decide +kernel
theorem zd_Truths_carried_4 : decode prog_12_method_8_code 4 = .ok (.aload_n 0, 1) := by decide +kernel
theorem zd_Truths_carried_5 : decode prog_12_method_8_code 5 = .ok (.getfield 17, 3) := by decide +kernel
theorem zd_Truths_carried_8 : decode prog_12_method_8_code 8 = .ok (.getfield 102, 3) := by decide +kernel
theorem zd_Truths_carried_11 : decode prog_12_method_8_code 11 = .ok (.iload_n 1, 1) := by decide +kernel
theorem zd_Truths_carried_12 : decode prog_12_method_8_code 12 = .ok (.iaload, 1) := by decide +kernel
theorem zd_Truths_carried_13 : decode prog_12_method_8_code 13 = .ok (.iaload, 1) := by decide +kernel
theorem zd_Truths_carried_14 : decode prog_12_method_8_code 14 = .ok (.istore_n 3, 1) := by decide +kernel
theorem zd_Truths_carried_15 : decode prog_12_method_8_code 15 = .ok (.aload_n 0, 1) := by decide +kernel
theorem zd_Truths_carried_16 : decode prog_12_method_8_code 16 = .ok (.getfield 17, 3) := by decide +kernel
theorem zd_Truths_carried_19 : decode prog_12_method_8_code 19 = .ok (.getfield 51, 3) := by decide +kernel
theorem zd_Truths_carried_22 : decode prog_12_method_8_code 22 = .ok (.iload_n 1, 1) := by decide +kernel
theorem zd_Truths_carried_23 : decode prog_12_method_8_code 23 = .ok (.iaload, 1) := by decide +kernel
theorem zd_Truths_carried_24 : decode prog_12_method_8_code 24 = .ok (.tableswitch 55 4 6 #[28, 32, 36], 28) := by decide +kernel
theorem zd_Truths_carried_52 : decode prog_12_method_8_code 52 = .ok (.iload_n 3, 1) := by decide +kernel
theorem zd_Truths_carried_53 : decode prog_12_method_8_code 53 = .ok (.iload_n 2, 1) := by decide +kernel
theorem zd_Truths_carried_54 : decode prog_12_method_8_code 54 = .ok (.iand, 1) := by decide +kernel
theorem zd_Truths_carried_55 : decode prog_12_method_8_code 55 = .ok (.ireturn, 1) := by decide +kernel
theorem zd_Truths_carried_56 : decode prog_12_method_8_code 56 = .ok (.iload_n 3, 1) := by decide +kernel
theorem zd_Truths_carried_57 : decode prog_12_method_8_code 57 = .ok (.iload_n 2, 1) := by decide +kernel
theorem zd_Truths_carried_58 : decode prog_12_method_8_code 58 = .ok (.ior, 1) := by decide +kernel
theorem zd_Truths_carried_59 : decode prog_12_method_8_code 59 = .ok (.ireturn, 1) := by decide +kernel
theorem zd_Truths_carried_60 : decode prog_12_method_8_code 60 = .ok (.aload_n 0, 1) := by decide +kernel
theorem zd_Truths_carried_61 : decode prog_12_method_8_code 61 = .ok (.getfield 23, 3) := by decide +kernel
theorem zd_Truths_carried_64 : decode prog_12_method_8_code 64 = .ok (.aload_n 0, 1) := by decide +kernel
theorem zd_Truths_carried_65 : decode prog_12_method_8_code 65 = .ok (.getfield 17, 3) := by decide +kernel
theorem zd_Truths_carried_68 : decode prog_12_method_8_code 68 = .ok (.getfield 121, 3) := by decide +kernel
theorem zd_Truths_carried_71 : decode prog_12_method_8_code 71 = .ok (.iload_n 1, 1) := by decide +kernel
theorem zd_Truths_carried_72 : decode prog_12_method_8_code 72 = .ok (.iaload, 1) := by decide +kernel
theorem zd_Truths_carried_73 : decode prog_12_method_8_code 73 = .ok (.iaload, 1) := by decide +kernel
theorem zd_Truths_carried_74 : decode prog_12_method_8_code 74 = .ok (.iload_n 3, 1) := by decide +kernel
theorem zd_Truths_carried_75 : decode prog_12_method_8_code 75 = .ok (.iload_n 2, 1) := by decide +kernel
theorem zd_Truths_carried_76 : decode prog_12_method_8_code 76 = .ok (.iand, 1) := by decide +kernel
theorem zd_Truths_carried_77 : decode prog_12_method_8_code 77 = .ok (.ior, 1) := by decide +kernel
theorem zd_Truths_carried_78 : decode prog_12_method_8_code 78 = .ok (.ireturn, 1) := by decide +kernel
theorem zd_Truths_carried_79 : decode prog_12_method_8_code 79 = .ok (.aload_n 0, 1) := by decide +kernel
theorem zd_Truths_carried_80 : decode prog_12_method_8_code 80 = .ok (.getfield 23, 3) := by decide +kernel
theorem zd_Truths_carried_83 : decode prog_12_method_8_code 83 = .ok (.aload_n 0, 1) := by decide +kernel
theorem zd_Truths_carried_84 : decode prog_12_method_8_code 84 = .ok (.getfield 17, 3) := by decide +kernel
theorem zd_Truths_carried_87 : decode prog_12_method_8_code 87 = .ok (.getfield 121, 3) := by decide +kernel
theorem zd_Truths_carried_90 : decode prog_12_method_8_code 90 = .ok (.iload_n 1, 1) := by decide +kernel
theorem zd_Truths_carried_91 : decode prog_12_method_8_code 91 = .ok (.iaload, 1) := by decide +kernel
theorem zd_Truths_carried_92 : decode prog_12_method_8_code 92 = .ok (.iaload, 1) := by decide +kernel
theorem zd_Truths_carried_93 : decode prog_12_method_8_code 93 = .ok (.iload_n 3, 1) := by decide +kernel
theorem zd_Truths_carried_94 : decode prog_12_method_8_code 94 = .ok (.iload_n 2, 1) := by decide +kernel
theorem zd_Truths_carried_95 : decode prog_12_method_8_code 95 = .ok (.ior, 1) := by decide +kernel
theorem zd_Truths_carried_96 : decode prog_12_method_8_code 96 = .ok (.iand, 1) := by decide +kernel
theorem zd_Truths_carried_97 : decode prog_12_method_8_code 97 = .ok (.ireturn, 1) := by decide +kernel
theorem zd_Truths_joined_0 : decode prog_12_method_7_code 0 = .ok (.aload_n 0, 1) := by decide +kernel
theorem zd_Truths_joined_1 : decode prog_12_method_7_code 1 = .ok (.getfield 23, 3) := by decide +kernel
theorem zd_Truths_joined_4 : decode prog_12_method_7_code 4 = .ok (.aload_n 0, 1) := by decide +kernel
theorem zd_Truths_joined_5 : decode prog_12_method_7_code 5 = .ok (.getfield 17, 3) := by decide +kernel
theorem zd_Truths_joined_8 : decode prog_12_method_7_code 8 = .ok (.getfield 102, 3) := by decide +kernel
theorem zd_Truths_joined_11 : decode prog_12_method_7_code 11 = .ok (.iload_n 1, 1) := by decide +kernel
theorem zd_Truths_joined_12 : decode prog_12_method_7_code 12 = .ok (.iaload, 1) := by decide +kernel
theorem zd_Truths_joined_13 : decode prog_12_method_7_code 13 = .ok (.iaload, 1) := by decide +kernel
theorem zd_Truths_joined_14 : decode prog_12_method_7_code 14 = .ok (.istore_n 2, 1) := by decide +kernel
theorem zd_Truths_joined_15 : decode prog_12_method_7_code 15 = .ok (.aload_n 0, 1) := by decide +kernel
theorem zd_Truths_joined_16 : decode prog_12_method_7_code 16 = .ok (.getfield 17, 3) := by decide +kernel
theorem zd_Truths_joined_19 : decode prog_12_method_7_code 19 = .ok (.getfield 51, 3) := by decide +kernel
theorem zd_Truths_joined_22 : decode prog_12_method_7_code 22 = .ok (.iload_n 1, 1) := by decide +kernel
theorem zd_Truths_joined_23 : decode prog_12_method_7_code 23 = .ok (.iaload, 1) := by decide +kernel
theorem zd_Truths_joined_24 : decode prog_12_method_7_code 24 = .ok (.tableswitch 68 0 2 #[28, 34, 51], 28) := by decide +kernel
theorem zd_Truths_joined_52 : decode prog_12_method_7_code 52 = .ok (.iload_n 2, 1) := by decide +kernel
theorem zd_Truths_joined_53 : decode prog_12_method_7_code 53 = .ok (.sipush 255, 3) := by decide +kernel
theorem zd_Truths_joined_56 : decode prog_12_method_7_code 56 = .ok (.ixor, 1) := by decide +kernel
theorem zd_Truths_joined_57 : decode prog_12_method_7_code 57 = .ok (.ireturn, 1) := by decide +kernel
theorem zd_Truths_joined_58 : decode prog_12_method_7_code 58 = .ok (.iload_n 2, 1) := by decide +kernel
theorem zd_Truths_joined_59 : decode prog_12_method_7_code 59 = .ok (.aload_n 0, 1) := by decide +kernel
theorem zd_Truths_joined_60 : decode prog_12_method_7_code 60 = .ok (.getfield 23, 3) := by decide +kernel
theorem zd_Truths_joined_63 : decode prog_12_method_7_code 63 = .ok (.aload_n 0, 1) := by decide +kernel
theorem zd_Truths_joined_64 : decode prog_12_method_7_code 64 = .ok (.getfield 17, 3) := by decide +kernel
theorem zd_Truths_joined_67 : decode prog_12_method_7_code 67 = .ok (.getfield 121, 3) := by decide +kernel
theorem zd_Truths_joined_70 : decode prog_12_method_7_code 70 = .ok (.iload_n 1, 1) := by decide +kernel
theorem zd_Truths_joined_71 : decode prog_12_method_7_code 71 = .ok (.iaload, 1) := by decide +kernel
theorem zd_Truths_joined_72 : decode prog_12_method_7_code 72 = .ok (.iaload, 1) := by decide +kernel
theorem zd_Truths_joined_73 : decode prog_12_method_7_code 73 = .ok (.iand, 1) := by decide +kernel
theorem zd_Truths_joined_74 : decode prog_12_method_7_code 74 = .ok (.ireturn, 1) := by decide +kernel
theorem zd_Truths_joined_75 : decode prog_12_method_7_code 75 = .ok (.iload_n 2, 1) := by decide +kernel
theorem zd_Truths_joined_76 : decode prog_12_method_7_code 76 = .ok (.aload_n 0, 1) := by decide +kernel
theorem zd_Truths_joined_77 : decode prog_12_method_7_code 77 = .ok (.getfield 23, 3) := by decide +kernel
theorem zd_Truths_joined_80 : decode prog_12_method_7_code 80 = .ok (.aload_n 0, 1) := by decide +kernel
theorem zd_Truths_joined_81 : decode prog_12_method_7_code 81 = .ok (.getfield 17, 3) := by decide +kernel
theorem zd_Truths_joined_84 : decode prog_12_method_7_code 84 = .ok (.getfield 121, 3) := by decide +kernel
theorem zd_Truths_joined_87 : decode prog_12_method_7_code 87 = .ok (.iload_n 1, 1) := by decide +kernel
theorem zd_Truths_joined_88 : decode prog_12_method_7_code 88 = .ok (.iaload, 1) := by decide +kernel
theorem zd_Truths_joined_89 : decode prog_12_method_7_code 89 = .ok (.iaload, 1) := by decide +kernel
theorem zd_Truths_joined_90 : decode prog_12_method_7_code 90 = .ok (.ior, 1) := by decide +kernel
theorem zd_Truths_joined_91 : decode prog_12_method_7_code 91 = .ok (.ireturn, 1) := by decide +kernel
theorem zd_Truths_joined_92 : decode prog_12_method_7_code 92 = .ok (.iload_n 2, 1) := by decide +kernel
theorem zd_Truths_joined_93 : decode prog_12_method_7_code 93 = .ok (.sipush 255, 3) := by decide +kernel
theorem zd_Truths_joined_96 : decode prog_12_method_7_code 96 = .ok (.ixor, 1) := by decide +kernel
theorem zd_Truths_joined_97 : decode prog_12_method_7_code 97 = .ok (.aload_n 0, 1) := by decide +kernel
theorem zd_Truths_joined_98 : decode prog_12_method_7_code 98 = .ok (.getfield 23, 3) := by decide +kernel
theorem zd_Truths_joined_101 : decode prog_12_method_7_code 101 = .ok (.aload_n 0, 1) := by decide +kernel
theorem zd_Truths_joined_102 : decode prog_12_method_7_code 102 = .ok (.getfield 17, 3) := by decide +kernel
theorem zd_Truths_joined_105 : decode prog_12_method_7_code 105 = .ok (.getfield 121, 3) := by decide +kernel
theorem zd_Truths_joined_108 : decode prog_12_method_7_code 108 = .ok (.iload_n 1, 1) := by decide +kernel
theorem zd_Truths_joined_109 : decode prog_12_method_7_code 109 = .ok (.iaload, 1) := by decide +kernel
theorem zd_Truths_joined_110 : decode prog_12_method_7_code 110 = .ok (.iaload, 1) := by decide +kernel
theorem zd_Truths_joined_111 : decode prog_12_method_7_code 111 = .ok (.ior, 1) := by decide +kernel
theorem zd_Truths_joined_112 : decode prog_12_method_7_code 112 = .ok (.ireturn, 1) := by decide +kernel
def wc_Truths_atomHolds_77 (a0 : Int32) (Post : Int32 → (Nat → Int32) → (Nat → Int64) → (Nat → Nat → Int32) → (Nat → Nat → Int64) → Prop) (y0 : Int32) (I : Nat → Int32) (J : Nat → Int64) (B : Nat → Nat → Int32) (D : Nat → Nat → Int64) : Prop :=
  (y0 = 0 ∨ y0 = 1) ∧ Post y0 I J B D
def wc_Truths_atomHolds_50 (a0 : Int32) (Post : Int32 → (Nat → Int32) → (Nat → Int64) → (Nat → Nat → Int32) → (Nat → Nat → Int64) → Prop) (y0 : Int32) (I : Nat → Int32) (J : Nat → Int64) (B : Nat → Nat → Int32) (D : Nat → Nat → Int64) : Prop :=
  (y0 = 0 ∨ y0 = 1) ∧ Post y0 I J B D
def wp_Truths_atomHolds (I : Nat → Int32) (J : Nat → Int64) (B : Nat → Nat → Int32) (D : Nat → Nat → Int64) (a0 : Int32) (Post : Int32 → (Nat → Int32) → (Nat → Int64) → (Nat → Nat → Int32) → (Nat → Nat → Int64) → Prop) : Prop :=
  vp_in a0 240 ∧ ∀ z1 : Int32, z1 = ((B 40) a0.toNatClampNeg) → vp_in a0 240 ∧ ∀ z2 : Int32, z2 = ((B 39) a0.toNatClampNeg) → ((¬ z2 = 8 → vp_in z1 4 ∧ ∀ z4 : Int32, z4 = ((B 31) z1.toNatClampNeg) → vp_in a0 240 ∧ ∀ z5 : Int32, z5 = ((B 41) a0.toNatClampNeg) → ((¬ z4 = z5 → wc_Truths_atomHolds_77 a0 Post 0 I J B D) ∧ (z4 = z5 → wc_Truths_atomHolds_77 a0 Post 1 I J B D))) ∧ (z2 = 8 → wp_Terms_reckon_ad43_B I J B D z1 (fun r7 I7 J7 B7 D7 => ((r7 = 0 → wc_Truths_atomHolds_50 a0 Post 0 I7 J7 B7 D7) ∧ (¬ r7 = 0 → wc_Truths_atomHolds_50 a0 Post 1 I7 J7 B7 D7)))))
set_option maxHeartbeats 8000000 in
set_option maxRecDepth 100000 in
theorem wJ_Truths_atomHolds_77 {p : Program} {l : Launch} {e : Env} {s : State} {m : MethodId} {below : List Frame} {meth : Method} {c : Code} {A : Nat → Prop} (G : va_G) (K : Nat → ClassId) (ad : Nat → Nat) (sv : Value) (a0 : Int32) (Post : Int32 → (Nat → Int32) → (Nat → Int64) → (Nat → Nat → Int32) → (Nat → Nat → Int64) → Prop) (C : zCx p s m ([.ref (ad 11), .int a0] : List Value).toArray meth c A G K prog_12_method_6_code (some .boolean) 3 "LassoFinder$Truths") : ∀ (y0 : Int32) (I : Nat → Int32) (J : Nat → Int64) (B : Nat → Nat → Int32) (D : Nat → Nat → Int64) (ls : Array Slot) (H : Heap) (locs : List Loc), wc_Truths_atomHolds_77 a0 Post y0 I J B D → lv_has ls 3 [] → zW G A s.heap (wX ad K sv I J B D) H locs → W p l e { frames := 2, cells := 0, slots := 0, locals := 47 } s m ([.ref (ad 11), .int a0] : List Value).toArray below meth c H locs 0 0 (MQ below (va_Qi (fun (r : Int32) (u : zS) => Post r u.1 u.2.1 u.2.2.1 u.2.2.2) (fun u t => zPost G K A (wX ad K sv u.1 u.2.1 u.2.2.1 u.2.2.2) t) A) ([.ref (ad 11), .int a0] : List Value).toArray s 0 0 A) (F0 m 77 ls [.int y0]) := by
  obtain ⟨hx, hb, hr, hml, hts, hown, hlocks, hA, hK⟩ := id C
  intro y0 I J B D ls H locs hok hl hw
  unfold wc_Truths_atomHolds_77 at hok
  have hbo := hok.1
  have hok := hok.2
  exact (z_iret (u := (I, J, B, D)) hx hb hr hlocks (z_nar hbo) hw (List.range 65) wX_all wX_nd hok (Nat.le_of_ble_eq_true rfl) (Nat.le_of_ble_eq_true rfl) zd_Truths_atomHolds_77)
set_option maxHeartbeats 8000000 in
set_option maxRecDepth 100000 in
theorem wJ_Truths_atomHolds_50 {p : Program} {l : Launch} {e : Env} {s : State} {m : MethodId} {below : List Frame} {meth : Method} {c : Code} {A : Nat → Prop} (G : va_G) (K : Nat → ClassId) (ad : Nat → Nat) (sv : Value) (a0 : Int32) (Post : Int32 → (Nat → Int32) → (Nat → Int64) → (Nat → Nat → Int32) → (Nat → Nat → Int64) → Prop) (C : zCx p s m ([.ref (ad 11), .int a0] : List Value).toArray meth c A G K prog_12_method_6_code (some .boolean) 3 "LassoFinder$Truths") : ∀ (y0 : Int32) (I : Nat → Int32) (J : Nat → Int64) (B : Nat → Nat → Int32) (D : Nat → Nat → Int64) (ls : Array Slot) (H : Heap) (locs : List Loc), wc_Truths_atomHolds_50 a0 Post y0 I J B D → lv_has ls 3 [] → zW G A s.heap (wX ad K sv I J B D) H locs → W p l e { frames := 2, cells := 0, slots := 0, locals := 47 } s m ([.ref (ad 11), .int a0] : List Value).toArray below meth c H locs 0 0 (MQ below (va_Qi (fun (r : Int32) (u : zS) => Post r u.1 u.2.1 u.2.2.1 u.2.2.2) (fun u t => zPost G K A (wX ad K sv u.1 u.2.1 u.2.2.1 u.2.2.2) t) A) ([.ref (ad 11), .int a0] : List Value).toArray s 0 0 A) (F0 m 50 ls [.int y0]) := by
  obtain ⟨hx, hb, hr, hml, hts, hown, hlocks, hA, hK⟩ := id C
  intro y0 I J B D ls H locs hok hl hw
  unfold wc_Truths_atomHolds_50 at hok
  have hbo := hok.1
  have hok := hok.2
  exact (z_iret (u := (I, J, B, D)) hx hb hr hlocks (z_nar hbo) hw (List.range 65) wX_all wX_nd hok (Nat.le_of_ble_eq_true rfl) (Nat.le_of_ble_eq_true rfl) zd_Truths_atomHolds_50)
set_option maxHeartbeats 8000000 in
set_option maxRecDepth 100000 in
theorem w_Truths_atomHolds (l : Launch) (G : va_G) (K : Nat → ClassId) (ad : Nat → Nat) (sv : Value) (I : Nat → Int32) (J : Nat → Int64) (B : Nat → Nat → Int32) (D : Nat → Nat → Int64) (a0 : Int32) (Post : Int32 → (Nat → Int32) → (Nat → Int64) → (Nat → Nat → Int32) → (Nat → Nat → Int64) → Prop) (sz : Nat) (hok : wp_Truths_atomHolds I J B D a0 Post) : Met l zy_Truths_atomHolds (Cond.code zy_Truths_atomHolds prog_12_method_6_code 3 (some .boolean) :: zTB) { frames := 2, cells := 0, slots := 0, locals := 47 } (va_Pc [.ref (ad 11), .int a0] (zPre G K (wX ad K sv I J B D) sz)) (va_Qi (fun (r : Int32) (u : zS) => Post r u.1 u.2.1 u.2.2.1 u.2.2.2) (fun u t => zPost G K (va_A (wX ad K sv I J B D) sz) (wX ad K sv u.1 u.2.1 u.2.2.1 u.2.2.2) t) (va_A (wX ad K sv I J B D) sz)) 0 0 (va_A (wX ad K sv I J B D) sz) := by
  refine zMet (y := zy_Truths_atomHolds) (av := [.ref (ad 11), .int a0]) (maxL := 3) (cc := prog_12_method_6_code) (ret := (some .boolean)) (W0 := (wX ad K sv I J B D)) (sz := sz) (G := G) (K := K) (wt := zTB) (mc := 0) (ms := 0) (Qf := fun A => va_Qi (fun (r : Int32) (u : zS) => Post r u.1 u.2.1 u.2.2.1 u.2.2.2) (fun u t => zPost G K A (wX ad K sv u.1 u.2.1 u.2.2.1 u.2.2.2) t) A) (by decide) (Nat.le_of_ble_eq_true rfl) ?_
  intro p e s m below meth c ls A hx hb hr hml hts hown hlocks hin hA hK H locs hw hsz hl
  clear hsz
  have hown : s.vm.findClass "LassoFinder$Truths" = some m.cls := hown
  have C : zCx p s m ([.ref (ad 11), .int a0] : List Value).toArray meth c A G K prog_12_method_6_code (some .boolean) 3 "LassoFinder$Truths" := ⟨hx, hb, hr, hml, hts, hown, hlocks, hA, hK⟩
  have hl : lv_has ls 3 [(0, .ref (ad 11)), (1, .int a0)] := hl
  have hw : zW G A s.heap (wX ad K sv I J B D) H locs := hw
  unfold wp_Truths_atomHolds at hok
  refine lv_aload_n hx hb zd_Truths_atomHolds_0 rfl (lv_at hl 0 rfl) ?_
  refine z_get (v := .ref (ad 9)) hx hb hts hown hK hw zZ11 11 wX_g11 2 (by decide) zn_485 rfl zd_Truths_atomHolds_1 ?_
  refine z_get (v := .ref (ad 55)) hx hb hts hown hK hw zZ1 9 wX_g9 4 (by decide) zn_495 rfl zd_Truths_atomHolds_4 ?_
  refine lv_iload_n hx hb zd_Truths_atomHolds_7 rfl (lv_at hl 1 rfl) ?_
  refine va_iald (f := (B 40)) hx hb hK hw.1 55 0 wX_a55 rfl hok.1 zd_Truths_atomHolds_8 ?_
  have hok := hok.2
  refine lv_topi (fun z1 ez1 => ?_)
  have hok := hok z1 ez1
  refine lv_istore_n hx hb zd_Truths_atomHolds_9 rfl hl (by decide) rfl (fun ls hl => ?_)
  have hl : lv_has ls 3 [(2, .int z1), (0, .ref (ad 11)), (1, .int a0)] := hl
  refine lv_aload_n hx hb zd_Truths_atomHolds_10 rfl (lv_at hl 1 rfl) ?_
  refine z_get (v := .ref (ad 9)) hx hb hts hown hK hw zZ11 11 wX_g11 2 (by decide) zn_485 rfl zd_Truths_atomHolds_11 ?_
  refine z_get (v := .ref (ad 54)) hx hb hts hown hK hw zZ1 9 wX_g9 3 (by decide) zn_487 rfl zd_Truths_atomHolds_14 ?_
  refine lv_iload_n hx hb zd_Truths_atomHolds_17 rfl (lv_at hl 2 rfl) ?_
  refine va_iald (f := (B 39)) hx hb hK hw.1 54 0 wX_a54 rfl hok.1 zd_Truths_atomHolds_18 ?_
  have hok := hok.2
  refine lv_topi (fun z2 ez2 => ?_)
  have hok := hok z2 ez2
  refine lv_bipush (v := 8) hx hb zd_Truths_atomHolds_19 (by decide) ?_
  refine lv_icmp_ne (tgt := 51) hx hb zd_Truths_atomHolds_21 (by decide) (fun hc3 => ?_) (fun hc3 => ?_)
  · have hok := hok.1 hc3
    refine lv_aload_n hx hb zd_Truths_atomHolds_51 rfl (lv_at hl 1 rfl) ?_
    refine z_get (v := .ref (ad 7)) hx hb hts hown hK hw zZ11 11 wX_g11 1 (by decide) zn_492 rfl zd_Truths_atomHolds_52 ?_
    refine z_get (v := .ref (ad 45)) hx hb hts hown hK hw zZ7 7 wX_g7 5 (by decide) zn_498 rfl zd_Truths_atomHolds_55 ?_
    refine lv_iload_n hx hb zd_Truths_atomHolds_58 rfl (lv_at hl 0 rfl) ?_
    refine va_iald (f := (B 31)) hx hb hK hw.1 45 0 wX_a45 rfl hok.1 zd_Truths_atomHolds_59 ?_
    have hok := hok.2
    refine lv_topi (fun z4 ez4 => ?_)
    have hok := hok z4 ez4
    refine lv_aload_n hx hb zd_Truths_atomHolds_60 rfl (lv_at hl 1 rfl) ?_
    refine z_get (v := .ref (ad 9)) hx hb hts hown hK hw zZ11 11 wX_g11 2 (by decide) zn_485 rfl zd_Truths_atomHolds_61 ?_
    refine z_get (v := .ref (ad 56)) hx hb hts hown hK hw zZ1 9 wX_g9 5 (by decide) zn_499 rfl zd_Truths_atomHolds_64 ?_
    refine lv_iload_n hx hb zd_Truths_atomHolds_67 rfl (lv_at hl 2 rfl) ?_
    refine va_iald (f := (B 41)) hx hb hK hw.1 56 0 wX_a56 rfl hok.1 zd_Truths_atomHolds_68 ?_
    have hok := hok.2
    refine lv_topi (fun z5 ez5 => ?_)
    have hok := hok z5 ez5
    refine lv_icmp_ne (tgt := 76) hx hb zd_Truths_atomHolds_69 (by decide) (fun hc6 => ?_) (fun hc6 => ?_)
    · have hok := hok.1 hc6
      refine lv_iconst (v := 0) hx hb zd_Truths_atomHolds_76 (by decide) ?_
      exact wJ_Truths_atomHolds_77 G K ad sv a0 Post C 0 I J B D ls H locs hok (lv_sub hl [] rfl) hw
    · have hok := hok.2 hc6
      refine lv_iconst (v := 1) hx hb zd_Truths_atomHolds_72 (by decide) ?_
      refine lv_goto (tgt := 77) hx hb zd_Truths_atomHolds_73 (by decide) ?_
      exact wJ_Truths_atomHolds_77 G K ad sv a0 Post C 1 I J B D ls H locs hok (lv_sub hl [] rfl) hw
  · have hok := hok.2 hc3
    refine lv_aload_n hx hb zd_Truths_atomHolds_24 rfl (lv_at hl 1 rfl) ?_
    refine z_get (v := .ref (ad 9)) hx hb hts hown hK hw zZ11 11 wX_g11 2 (by decide) zn_485 rfl zd_Truths_atomHolds_25 ?_
    refine z_get (v := .ref (ad 10)) hx hb hts hown hK hw zZ1 9 wX_g9 2 (by decide) zn_496 rfl zd_Truths_atomHolds_28 ?_
    refine lv_iload_n hx hb zd_Truths_atomHolds_31 rfl (lv_at hl 0 rfl) ?_
    refine lv_aload_n hx hb zd_Truths_atomHolds_32 rfl (lv_at hl 1 rfl) ?_
    refine z_get (v := .ref (ad 7)) hx hb hts hown hK hw zZ11 11 wX_g11 1 (by decide) zn_492 rfl zd_Truths_atomHolds_33 ?_
    refine z_get (v := .ref (ad 43)) hx hb hts hown hK hw zZ7 7 wX_g7 3 (by decide) zn_497 rfl zd_Truths_atomHolds_36 ?_
    refine z_calli (w1 := fun (u : zS) => wX ad K sv u.1 u.2.1 u.2.2.1 u.2.2.2) (wr := []) (z_runV (q0 := 10) (wc := (wX ad K sv I J B D)) (As := [.int z1, .ref (ad 43)]) (rest := []) ⟨hx, hb, hml, hown, hts⟩ (w_Terms_reckon_ad43_B l G K ad sv I J B D z1 _ H.size hok) zf_Terms_reckon zn_480 ⟨Nat.le_of_ble_eq_true rfl, Nat.le_of_ble_eq_true rfl⟩ hK hw (List.range 65) wX_all wX_nd wX_g10 rfl rfl hl.1 rfl (Nat.le_of_ble_eq_true rfl) zd_Truths_atomHolds_39 ⟨Nat.le_of_ble_eq_true rfl, Nat.le_of_ble_eq_true rfl⟩) hw hA (List.range 65) [] wX_all rfl (by decide) (fun i hi => by cases hi) (fun r7 u H locs hok hw => ?_)
    obtain ⟨I7, J7, B7, D7⟩ := u
    dsimp only at hok
    have hw : zW G A s.heap (wX ad K sv I7 J7 B7 D7) H locs := hw
    refine lv_if_eq (tgt := 49) hx hb zd_Truths_atomHolds_42 (by decide) (fun hc8 => ?_) (fun hc8 => ?_)
    · have hok := hok.1 hc8
      refine lv_iconst (v := 0) hx hb zd_Truths_atomHolds_49 (by decide) ?_
      exact wJ_Truths_atomHolds_50 G K ad sv a0 Post C 0 I7 J7 B7 D7 ls H locs hok (lv_sub hl [] rfl) hw
    · have hok := hok.2 hc8
      refine lv_iconst (v := 1) hx hb zd_Truths_atomHolds_45 (by decide) ?_
      refine lv_goto (tgt := 50) hx hb zd_Truths_atomHolds_46 (by decide) ?_
      exact wJ_Truths_atomHolds_50 G K ad sv a0 Post C 1 I7 J7 B7 D7 ls H locs hok (lv_sub hl [] rfl) hw
def wp_Truths_joined (I : Nat → Int32) (J : Nat → Int64) (B : Nat → Nat → Int32) (D : Nat → Nat → Int64) (a0 : Int32) (Post : Int32 → (Nat → Int32) → (Nat → Int64) → (Nat → Nat → Int32) → (Nat → Nat → Int64) → Prop) : Prop :=
  vp_in a0 240 ∧ ∀ z1 : Int32, z1 = ((B 40) a0.toNatClampNeg) → vp_in z1 240 ∧ ∀ z2 : Int32, z2 = ((B 46) z1.toNatClampNeg) → vp_in a0 240 ∧ ∀ z3 : Int32, z3 = ((B 39) a0.toNatClampNeg) → ((z3 = 0 → ∀ z5 : Int32, z5 = (z2 ^^^ 255) → Post z5 I J B D) ∧ (z3 = 1 → vp_in a0 240 ∧ ∀ z7 : Int32, z7 = ((B 41) a0.toNatClampNeg) → vp_in z7 240 ∧ ∀ z8 : Int32, z8 = ((B 46) z7.toNatClampNeg) → ∀ z9 : Int32, z9 = (z2 &&& z8) → Post z9 I J B D) ∧ (z3 = 2 → vp_in a0 240 ∧ ∀ z11 : Int32, z11 = ((B 41) a0.toNatClampNeg) → vp_in z11 240 ∧ ∀ z12 : Int32, z12 = ((B 46) z11.toNatClampNeg) → ∀ z13 : Int32, z13 = (z2 ||| z12) → Post z13 I J B D) ∧ (¬ z3 = 0 → ¬ z3 = 1 → ¬ z3 = 2 → ∀ z14 : Int32, z14 = (z2 ^^^ 255) → vp_in a0 240 ∧ ∀ z15 : Int32, z15 = ((B 41) a0.toNatClampNeg) → vp_in z15 240 ∧ ∀ z16 : Int32, z16 = ((B 46) z15.toNatClampNeg) → ∀ z17 : Int32, z17 = (z14 ||| z16) → Post z17 I J B D))
set_option maxHeartbeats 8000000 in
set_option maxRecDepth 100000 in
theorem w_Truths_joined (l : Launch) (G : va_G) (K : Nat → ClassId) (ad : Nat → Nat) (sv : Value) (I : Nat → Int32) (J : Nat → Int64) (B : Nat → Nat → Int32) (D : Nat → Nat → Int64) (a0 : Int32) (Post : Int32 → (Nat → Int32) → (Nat → Int64) → (Nat → Nat → Int32) → (Nat → Nat → Int64) → Prop) (sz : Nat) (hok : wp_Truths_joined I J B D a0 Post) : Met l zy_Truths_joined (Cond.code zy_Truths_joined prog_12_method_7_code 3 (some .int) :: zTB) { frames := 0, cells := 0, slots := 0, locals := 0 } (va_Pc [.ref (ad 11), .int a0] (zPre G K (wX ad K sv I J B D) sz)) (va_Qi (fun (r : Int32) (u : zS) => Post r u.1 u.2.1 u.2.2.1 u.2.2.2) (fun u t => zPost G K (va_A (wX ad K sv I J B D) sz) (wX ad K sv u.1 u.2.1 u.2.2.1 u.2.2.2) t) (va_A (wX ad K sv I J B D) sz)) 0 0 (va_A (wX ad K sv I J B D) sz) := by
  refine zMet (y := zy_Truths_joined) (av := [.ref (ad 11), .int a0]) (maxL := 3) (cc := prog_12_method_7_code) (ret := (some .int)) (W0 := (wX ad K sv I J B D)) (sz := sz) (G := G) (K := K) (wt := zTB) (mc := 0) (ms := 0) (Qf := fun A => va_Qi (fun (r : Int32) (u : zS) => Post r u.1 u.2.1 u.2.2.1 u.2.2.2) (fun u t => zPost G K A (wX ad K sv u.1 u.2.1 u.2.2.1 u.2.2.2) t) A) (by decide) (Nat.le_of_ble_eq_true rfl) ?_
  intro p e s m below meth c ls A hx hb hr hml hts hown hlocks hin hA hK H locs hw hsz hl
  clear hsz
  have hown : s.vm.findClass "LassoFinder$Truths" = some m.cls := hown
  have C : zCx p s m ([.ref (ad 11), .int a0] : List Value).toArray meth c A G K prog_12_method_7_code (some .int) 3 "LassoFinder$Truths" := ⟨hx, hb, hr, hml, hts, hown, hlocks, hA, hK⟩
  have hl : lv_has ls 3 [(0, .ref (ad 11)), (1, .int a0)] := hl
  have hw : zW G A s.heap (wX ad K sv I J B D) H locs := hw
  unfold wp_Truths_joined at hok
  refine lv_aload_n hx hb zd_Truths_joined_0 rfl (lv_at hl 0 rfl) ?_
  refine z_get (v := .ref (ad 61)) hx hb hts hown hK hw zZ11 11 wX_g11 3 (by decide) zn_281 rfl zd_Truths_joined_1 ?_
  refine lv_aload_n hx hb zd_Truths_joined_4 rfl (lv_at hl 0 rfl) ?_
  refine z_get (v := .ref (ad 9)) hx hb hts hown hK hw zZ11 11 wX_g11 2 (by decide) zn_485 rfl zd_Truths_joined_5 ?_
  refine z_get (v := .ref (ad 55)) hx hb hts hown hK hw zZ1 9 wX_g9 4 (by decide) zn_495 rfl zd_Truths_joined_8 ?_
  refine lv_iload_n hx hb zd_Truths_joined_11 rfl (lv_at hl 1 rfl) ?_
  refine va_iald (f := (B 40)) hx hb hK hw.1 55 0 wX_a55 rfl hok.1 zd_Truths_joined_12 ?_
  have hok := hok.2
  refine lv_topi (fun z1 ez1 => ?_)
  have hok := hok z1 ez1
  refine va_iald (f := (B 46)) hx hb hK hw.1 61 0 wX_a61 rfl hok.1 zd_Truths_joined_13 ?_
  have hok := hok.2
  refine lv_topi (fun z2 ez2 => ?_)
  have hok := hok z2 ez2
  refine lv_istore_n hx hb zd_Truths_joined_14 rfl hl (by decide) rfl (fun ls hl => ?_)
  have hl : lv_has ls 3 [(2, .int z2), (0, .ref (ad 11)), (1, .int a0)] := hl
  refine lv_aload_n hx hb zd_Truths_joined_15 rfl (lv_at hl 1 rfl) ?_
  refine z_get (v := .ref (ad 9)) hx hb hts hown hK hw zZ11 11 wX_g11 2 (by decide) zn_485 rfl zd_Truths_joined_16 ?_
  refine z_get (v := .ref (ad 54)) hx hb hts hown hK hw zZ1 9 wX_g9 3 (by decide) zn_487 rfl zd_Truths_joined_19 ?_
  refine lv_iload_n hx hb zd_Truths_joined_22 rfl (lv_at hl 2 rfl) ?_
  refine va_iald (f := (B 39)) hx hb hK hw.1 54 0 wX_a54 rfl hok.1 zd_Truths_joined_23 ?_
  have hok := hok.2
  refine lv_topi (fun z3 ez3 => ?_)
  have hok := hok z3 ez3
  by_cases hs4 : z3 = 0
  · have hok := hok.1 hs4
    refine lv_tableIn (off := 28) (tgt := 52) hx hb zd_Truths_joined_24 (by rw [hs4]; decide) (by rw [hs4]; decide) (by rw [hs4]; decide) (by decide) ?_
    refine lv_iload_n hx hb zd_Truths_joined_52 rfl (lv_at hl 0 rfl) ?_
    refine lv_sipush (v := 255) hx hb zd_Truths_joined_53 (by decide) ?_
    refine lv_ixor hx hb zd_Truths_joined_56 ?_
    refine lv_topi (fun z5 ez5 => ?_)
    have hok := hok z5 ez5
    exact (z_iret (u := (I, J, B, D)) hx hb hr hlocks rfl hw (List.range 65) wX_all wX_nd hok (Nat.le_of_ble_eq_true rfl) (Nat.le_of_ble_eq_true rfl) zd_Truths_joined_57)
  by_cases hs6 : z3 = 1
  · have hok := hok.2.1 hs6
    refine lv_tableIn (off := 34) (tgt := 58) hx hb zd_Truths_joined_24 (by rw [hs6]; decide) (by rw [hs6]; decide) (by rw [hs6]; decide) (by decide) ?_
    refine lv_iload_n hx hb zd_Truths_joined_58 rfl (lv_at hl 0 rfl) ?_
    refine lv_aload_n hx hb zd_Truths_joined_59 rfl (lv_at hl 1 rfl) ?_
    refine z_get (v := .ref (ad 61)) hx hb hts hown hK hw zZ11 11 wX_g11 3 (by decide) zn_281 rfl zd_Truths_joined_60 ?_
    refine lv_aload_n hx hb zd_Truths_joined_63 rfl (lv_at hl 1 rfl) ?_
    refine z_get (v := .ref (ad 9)) hx hb hts hown hK hw zZ11 11 wX_g11 2 (by decide) zn_485 rfl zd_Truths_joined_64 ?_
    refine z_get (v := .ref (ad 56)) hx hb hts hown hK hw zZ1 9 wX_g9 5 (by decide) zn_499 rfl zd_Truths_joined_67 ?_
    refine lv_iload_n hx hb zd_Truths_joined_70 rfl (lv_at hl 2 rfl) ?_
    refine va_iald (f := (B 41)) hx hb hK hw.1 56 0 wX_a56 rfl hok.1 zd_Truths_joined_71 ?_
    have hok := hok.2
    refine lv_topi (fun z7 ez7 => ?_)
    have hok := hok z7 ez7
    refine va_iald (f := (B 46)) hx hb hK hw.1 61 0 wX_a61 rfl hok.1 zd_Truths_joined_72 ?_
    have hok := hok.2
    refine lv_topi (fun z8 ez8 => ?_)
    have hok := hok z8 ez8
    refine lv_iand hx hb zd_Truths_joined_73 ?_
    refine lv_topi (fun z9 ez9 => ?_)
    have hok := hok z9 ez9
    exact (z_iret (u := (I, J, B, D)) hx hb hr hlocks rfl hw (List.range 65) wX_all wX_nd hok (Nat.le_of_ble_eq_true rfl) (Nat.le_of_ble_eq_true rfl) zd_Truths_joined_74)
  by_cases hs10 : z3 = 2
  · have hok := hok.2.2.1 hs10
    refine lv_tableIn (off := 51) (tgt := 75) hx hb zd_Truths_joined_24 (by rw [hs10]; decide) (by rw [hs10]; decide) (by rw [hs10]; decide) (by decide) ?_
    refine lv_iload_n hx hb zd_Truths_joined_75 rfl (lv_at hl 0 rfl) ?_
    refine lv_aload_n hx hb zd_Truths_joined_76 rfl (lv_at hl 1 rfl) ?_
    refine z_get (v := .ref (ad 61)) hx hb hts hown hK hw zZ11 11 wX_g11 3 (by decide) zn_281 rfl zd_Truths_joined_77 ?_
    refine lv_aload_n hx hb zd_Truths_joined_80 rfl (lv_at hl 1 rfl) ?_
    refine z_get (v := .ref (ad 9)) hx hb hts hown hK hw zZ11 11 wX_g11 2 (by decide) zn_485 rfl zd_Truths_joined_81 ?_
    refine z_get (v := .ref (ad 56)) hx hb hts hown hK hw zZ1 9 wX_g9 5 (by decide) zn_499 rfl zd_Truths_joined_84 ?_
    refine lv_iload_n hx hb zd_Truths_joined_87 rfl (lv_at hl 2 rfl) ?_
    refine va_iald (f := (B 41)) hx hb hK hw.1 56 0 wX_a56 rfl hok.1 zd_Truths_joined_88 ?_
    have hok := hok.2
    refine lv_topi (fun z11 ez11 => ?_)
    have hok := hok z11 ez11
    refine va_iald (f := (B 46)) hx hb hK hw.1 61 0 wX_a61 rfl hok.1 zd_Truths_joined_89 ?_
    have hok := hok.2
    refine lv_topi (fun z12 ez12 => ?_)
    have hok := hok z12 ez12
    refine lv_ior hx hb zd_Truths_joined_90 ?_
    refine lv_topi (fun z13 ez13 => ?_)
    have hok := hok z13 ez13
    exact (z_iret (u := (I, J, B, D)) hx hb hr hlocks rfl hw (List.range 65) wX_all wX_nd hok (Nat.le_of_ble_eq_true rfl) (Nat.le_of_ble_eq_true rfl) zd_Truths_joined_91)
  have hok := hok.2.2.2 hs4 hs6 hs10
  refine lv_tableOut (tgt := 92) hx hb zd_Truths_joined_24 (by have h0 := lv_neT hs4 (a := 0) (by decide); have h1 := lv_neT hs6 (a := 1) (by decide); have h2 := lv_neT hs10 (a := 2) (by decide); omega) (by decide) ?_
  refine lv_iload_n hx hb zd_Truths_joined_92 rfl (lv_at hl 0 rfl) ?_
  refine lv_sipush (v := 255) hx hb zd_Truths_joined_93 (by decide) ?_
  refine lv_ixor hx hb zd_Truths_joined_96 ?_
  refine lv_topi (fun z14 ez14 => ?_)
  have hok := hok z14 ez14
  refine lv_aload_n hx hb zd_Truths_joined_97 rfl (lv_at hl 1 rfl) ?_
  refine z_get (v := .ref (ad 61)) hx hb hts hown hK hw zZ11 11 wX_g11 3 (by decide) zn_281 rfl zd_Truths_joined_98 ?_
  refine lv_aload_n hx hb zd_Truths_joined_101 rfl (lv_at hl 1 rfl) ?_
  refine z_get (v := .ref (ad 9)) hx hb hts hown hK hw zZ11 11 wX_g11 2 (by decide) zn_485 rfl zd_Truths_joined_102 ?_
  refine z_get (v := .ref (ad 56)) hx hb hts hown hK hw zZ1 9 wX_g9 5 (by decide) zn_499 rfl zd_Truths_joined_105 ?_
  refine lv_iload_n hx hb zd_Truths_joined_108 rfl (lv_at hl 2 rfl) ?_
  refine va_iald (f := (B 41)) hx hb hK hw.1 56 0 wX_a56 rfl hok.1 zd_Truths_joined_109 ?_
  have hok := hok.2
  refine lv_topi (fun z15 ez15 => ?_)
  have hok := hok z15 ez15
  refine va_iald (f := (B 46)) hx hb hK hw.1 61 0 wX_a61 rfl hok.1 zd_Truths_joined_110 ?_
  have hok := hok.2
  refine lv_topi (fun z16 ez16 => ?_)
  have hok := hok z16 ez16
  refine lv_ior hx hb zd_Truths_joined_111 ?_
  refine lv_topi (fun z17 ez17 => ?_)
  have hok := hok z17 ez17
  exact (z_iret (u := (I, J, B, D)) hx hb hr hlocks rfl hw (List.range 65) wX_all wX_nd hok (Nat.le_of_ble_eq_true rfl) (Nat.le_of_ble_eq_true rfl) zd_Truths_joined_112)
def wp_Truths_carried (I : Nat → Int32) (J : Nat → Int64) (B : Nat → Nat → Int32) (D : Nat → Nat → Int64) (a0 : Int32) (a1 : Int32) (Post : Int32 → (Nat → Int32) → (Nat → Int64) → (Nat → Nat → Int32) → (Nat → Nat → Int64) → Prop) : Prop :=
  vp_in a0 240 ∧ ∀ z1 : Int32, z1 = ((B 40) a0.toNatClampNeg) → vp_in z1 240 ∧ ∀ z2 : Int32, z2 = ((B 46) z1.toNatClampNeg) → vp_in a0 240 ∧ ∀ z3 : Int32, z3 = ((B 39) a0.toNatClampNeg) → ((z3 = 4 → ∀ z5 : Int32, z5 = (z2 &&& a1) → Post z5 I J B D) ∧ (z3 = 5 → ∀ z7 : Int32, z7 = (z2 ||| a1) → Post z7 I J B D) ∧ (z3 = 6 → vp_in a0 240 ∧ ∀ z9 : Int32, z9 = ((B 41) a0.toNatClampNeg) → vp_in z9 240 ∧ ∀ z10 : Int32, z10 = ((B 46) z9.toNatClampNeg) → ∀ z11 : Int32, z11 = (z2 &&& a1) → ∀ z12 : Int32, z12 = (z10 ||| z11) → Post z12 I J B D) ∧ (¬ z3 = 4 → ¬ z3 = 5 → ¬ z3 = 6 → vp_in a0 240 ∧ ∀ z13 : Int32, z13 = ((B 41) a0.toNatClampNeg) → vp_in z13 240 ∧ ∀ z14 : Int32, z14 = ((B 46) z13.toNatClampNeg) → ∀ z15 : Int32, z15 = (z2 ||| a1) → ∀ z16 : Int32, z16 = (z14 &&& z15) → Post z16 I J B D))
set_option maxHeartbeats 8000000 in
set_option maxRecDepth 100000 in
theorem w_Truths_carried (l : Launch) (G : va_G) (K : Nat → ClassId) (ad : Nat → Nat) (sv : Value) (I : Nat → Int32) (J : Nat → Int64) (B : Nat → Nat → Int32) (D : Nat → Nat → Int64) (a0 : Int32) (a1 : Int32) (Post : Int32 → (Nat → Int32) → (Nat → Int64) → (Nat → Nat → Int32) → (Nat → Nat → Int64) → Prop) (sz : Nat) (hok : wp_Truths_carried I J B D a0 a1 Post) : Met l zy_Truths_carried (Cond.code zy_Truths_carried prog_12_method_8_code 4 (some .int) :: zTB) { frames := 0, cells := 0, slots := 0, locals := 0 } (va_Pc [.ref (ad 11), .int a0, .int a1] (zPre G K (wX ad K sv I J B D) sz)) (va_Qi (fun (r : Int32) (u : zS) => Post r u.1 u.2.1 u.2.2.1 u.2.2.2) (fun u t => zPost G K (va_A (wX ad K sv I J B D) sz) (wX ad K sv u.1 u.2.1 u.2.2.1 u.2.2.2) t) (va_A (wX ad K sv I J B D) sz)) 0 0 (va_A (wX ad K sv I J B D) sz) := by
  refine zMet (y := zy_Truths_carried) (av := [.ref (ad 11), .int a0, .int a1]) (maxL := 4) (cc := prog_12_method_8_code) (ret := (some .int)) (W0 := (wX ad K sv I J B D)) (sz := sz) (G := G) (K := K) (wt := zTB) (mc := 0) (ms := 0) (Qf := fun A => va_Qi (fun (r : Int32) (u : zS) => Post r u.1 u.2.1 u.2.2.1 u.2.2.2) (fun u t => zPost G K A (wX ad K sv u.1 u.2.1 u.2.2.1 u.2.2.2) t) A) (by decide) (Nat.le_of_ble_eq_true rfl) ?_
  intro p e s m below meth c ls A hx hb hr hml hts hown hlocks hin hA hK H locs hw hsz hl
  clear hsz
  have hown : s.vm.findClass "LassoFinder$Truths" = some m.cls := hown
  have C : zCx p s m ([.ref (ad 11), .int a0, .int a1] : List Value).toArray meth c A G K prog_12_method_8_code (some .int) 4 "LassoFinder$Truths" := ⟨hx, hb, hr, hml, hts, hown, hlocks, hA, hK⟩
  have hl : lv_has ls 4 [(0, .ref (ad 11)), (1, .int a0), (2, .int a1)] := hl
  have hw : zW G A s.heap (wX ad K sv I J B D) H locs := hw
  unfold wp_Truths_carried at hok
  refine lv_aload_n hx hb zd_Truths_carried_0 rfl (lv_at hl 0 rfl) ?_
  refine z_get (v := .ref (ad 61)) hx hb hts hown hK hw zZ11 11 wX_g11 3 (by decide) zn_281 rfl zd_Truths_carried_1 ?_
  refine lv_aload_n hx hb zd_Truths_carried_4 rfl (lv_at hl 0 rfl) ?_
  refine z_get (v := .ref (ad 9)) hx hb hts hown hK hw zZ11 11 wX_g11 2 (by decide) zn_485 rfl zd_Truths_carried_5 ?_
  refine z_get (v := .ref (ad 55)) hx hb hts hown hK hw zZ1 9 wX_g9 4 (by decide) zn_495 rfl zd_Truths_carried_8 ?_
  refine lv_iload_n hx hb zd_Truths_carried_11 rfl (lv_at hl 1 rfl) ?_
  refine va_iald (f := (B 40)) hx hb hK hw.1 55 0 wX_a55 rfl hok.1 zd_Truths_carried_12 ?_
  have hok := hok.2
  refine lv_topi (fun z1 ez1 => ?_)
  have hok := hok z1 ez1
  refine va_iald (f := (B 46)) hx hb hK hw.1 61 0 wX_a61 rfl hok.1 zd_Truths_carried_13 ?_
  have hok := hok.2
  refine lv_topi (fun z2 ez2 => ?_)
  have hok := hok z2 ez2
  refine lv_istore_n hx hb zd_Truths_carried_14 rfl hl (by decide) rfl (fun ls hl => ?_)
  have hl : lv_has ls 4 [(3, .int z2), (0, .ref (ad 11)), (1, .int a0), (2, .int a1)] := hl
  refine lv_aload_n hx hb zd_Truths_carried_15 rfl (lv_at hl 1 rfl) ?_
  refine z_get (v := .ref (ad 9)) hx hb hts hown hK hw zZ11 11 wX_g11 2 (by decide) zn_485 rfl zd_Truths_carried_16 ?_
  refine z_get (v := .ref (ad 54)) hx hb hts hown hK hw zZ1 9 wX_g9 3 (by decide) zn_487 rfl zd_Truths_carried_19 ?_
  refine lv_iload_n hx hb zd_Truths_carried_22 rfl (lv_at hl 2 rfl) ?_
  refine va_iald (f := (B 39)) hx hb hK hw.1 54 0 wX_a54 rfl hok.1 zd_Truths_carried_23 ?_
  have hok := hok.2
  refine lv_topi (fun z3 ez3 => ?_)
  have hok := hok z3 ez3
  by_cases hs4 : z3 = 4
  · have hok := hok.1 hs4
    refine lv_tableIn (off := 28) (tgt := 52) hx hb zd_Truths_carried_24 (by rw [hs4]; decide) (by rw [hs4]; decide) (by rw [hs4]; decide) (by decide) ?_
    refine lv_iload_n hx hb zd_Truths_carried_52 rfl (lv_at hl 0 rfl) ?_
    refine lv_iload_n hx hb zd_Truths_carried_53 rfl (lv_at hl 3 rfl) ?_
    refine lv_iand hx hb zd_Truths_carried_54 ?_
    refine lv_topi (fun z5 ez5 => ?_)
    have hok := hok z5 ez5
    exact (z_iret (u := (I, J, B, D)) hx hb hr hlocks rfl hw (List.range 65) wX_all wX_nd hok (Nat.le_of_ble_eq_true rfl) (Nat.le_of_ble_eq_true rfl) zd_Truths_carried_55)
  by_cases hs6 : z3 = 5
  · have hok := hok.2.1 hs6
    refine lv_tableIn (off := 32) (tgt := 56) hx hb zd_Truths_carried_24 (by rw [hs6]; decide) (by rw [hs6]; decide) (by rw [hs6]; decide) (by decide) ?_
    refine lv_iload_n hx hb zd_Truths_carried_56 rfl (lv_at hl 0 rfl) ?_
    refine lv_iload_n hx hb zd_Truths_carried_57 rfl (lv_at hl 3 rfl) ?_
    refine lv_ior hx hb zd_Truths_carried_58 ?_
    refine lv_topi (fun z7 ez7 => ?_)
    have hok := hok z7 ez7
    exact (z_iret (u := (I, J, B, D)) hx hb hr hlocks rfl hw (List.range 65) wX_all wX_nd hok (Nat.le_of_ble_eq_true rfl) (Nat.le_of_ble_eq_true rfl) zd_Truths_carried_59)
  by_cases hs8 : z3 = 6
  · have hok := hok.2.2.1 hs8
    refine lv_tableIn (off := 36) (tgt := 60) hx hb zd_Truths_carried_24 (by rw [hs8]; decide) (by rw [hs8]; decide) (by rw [hs8]; decide) (by decide) ?_
    refine lv_aload_n hx hb zd_Truths_carried_60 rfl (lv_at hl 1 rfl) ?_
    refine z_get (v := .ref (ad 61)) hx hb hts hown hK hw zZ11 11 wX_g11 3 (by decide) zn_281 rfl zd_Truths_carried_61 ?_
    refine lv_aload_n hx hb zd_Truths_carried_64 rfl (lv_at hl 1 rfl) ?_
    refine z_get (v := .ref (ad 9)) hx hb hts hown hK hw zZ11 11 wX_g11 2 (by decide) zn_485 rfl zd_Truths_carried_65 ?_
    refine z_get (v := .ref (ad 56)) hx hb hts hown hK hw zZ1 9 wX_g9 5 (by decide) zn_499 rfl zd_Truths_carried_68 ?_
    refine lv_iload_n hx hb zd_Truths_carried_71 rfl (lv_at hl 2 rfl) ?_
    refine va_iald (f := (B 41)) hx hb hK hw.1 56 0 wX_a56 rfl hok.1 zd_Truths_carried_72 ?_
    have hok := hok.2
    refine lv_topi (fun z9 ez9 => ?_)
    have hok := hok z9 ez9
    refine va_iald (f := (B 46)) hx hb hK hw.1 61 0 wX_a61 rfl hok.1 zd_Truths_carried_73 ?_
    have hok := hok.2
    refine lv_topi (fun z10 ez10 => ?_)
    have hok := hok z10 ez10
    refine lv_iload_n hx hb zd_Truths_carried_74 rfl (lv_at hl 0 rfl) ?_
    refine lv_iload_n hx hb zd_Truths_carried_75 rfl (lv_at hl 3 rfl) ?_
    refine lv_iand hx hb zd_Truths_carried_76 ?_
    refine lv_topi (fun z11 ez11 => ?_)
    have hok := hok z11 ez11
    refine lv_ior hx hb zd_Truths_carried_77 ?_
    refine lv_topi (fun z12 ez12 => ?_)
    have hok := hok z12 ez12
    exact (z_iret (u := (I, J, B, D)) hx hb hr hlocks rfl hw (List.range 65) wX_all wX_nd hok (Nat.le_of_ble_eq_true rfl) (Nat.le_of_ble_eq_true rfl) zd_Truths_carried_78)
  have hok := hok.2.2.2 hs4 hs6 hs8
  refine lv_tableOut (tgt := 79) hx hb zd_Truths_carried_24 (by have h0 := lv_neT hs4 (a := 4) (by decide); have h1 := lv_neT hs6 (a := 5) (by decide); have h2 := lv_neT hs8 (a := 6) (by decide); omega) (by decide) ?_
  refine lv_aload_n hx hb zd_Truths_carried_79 rfl (lv_at hl 1 rfl) ?_
  refine z_get (v := .ref (ad 61)) hx hb hts hown hK hw zZ11 11 wX_g11 3 (by decide) zn_281 rfl zd_Truths_carried_80 ?_
  refine lv_aload_n hx hb zd_Truths_carried_83 rfl (lv_at hl 1 rfl) ?_
  refine z_get (v := .ref (ad 9)) hx hb hts hown hK hw zZ11 11 wX_g11 2 (by decide) zn_485 rfl zd_Truths_carried_84 ?_
  refine z_get (v := .ref (ad 56)) hx hb hts hown hK hw zZ1 9 wX_g9 5 (by decide) zn_499 rfl zd_Truths_carried_87 ?_
  refine lv_iload_n hx hb zd_Truths_carried_90 rfl (lv_at hl 2 rfl) ?_
  refine va_iald (f := (B 41)) hx hb hK hw.1 56 0 wX_a56 rfl hok.1 zd_Truths_carried_91 ?_
  have hok := hok.2
  refine lv_topi (fun z13 ez13 => ?_)
  have hok := hok z13 ez13
  refine va_iald (f := (B 46)) hx hb hK hw.1 61 0 wX_a61 rfl hok.1 zd_Truths_carried_92 ?_
  have hok := hok.2
  refine lv_topi (fun z14 ez14 => ?_)
  have hok := hok z14 ez14
  refine lv_iload_n hx hb zd_Truths_carried_93 rfl (lv_at hl 0 rfl) ?_
  refine lv_iload_n hx hb zd_Truths_carried_94 rfl (lv_at hl 3 rfl) ?_
  refine lv_ior hx hb zd_Truths_carried_95 ?_
  refine lv_topi (fun z15 ez15 => ?_)
  have hok := hok z15 ez15
  refine lv_iand hx hb zd_Truths_carried_96 ?_
  refine lv_topi (fun z16 ez16 => ?_)
  have hok := hok z16 ez16
  exact (z_iret (u := (I, J, B, D)) hx hb hr hlocks rfl hw (List.range 65) wX_all wX_nd hok (Nat.le_of_ble_eq_true rfl) (Nat.le_of_ble_eq_true rfl) zd_Truths_carried_97)
