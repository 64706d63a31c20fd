theorem zm_580 : Cond.classLink "LassoFinderLaw" 8 "LassoFinder" ∈ zTB := z_in (zt_1 _ (List.mem_of_getElem? (i := 24) rfl)) rfl
theorem zm_581 : Cond.methodLink "LassoFinderLaw" 43 ⟨"LassoFinder", "<init>", "()V"⟩ ∈ zTB := z_in (zt_1 _ (List.mem_of_getElem? (i := 26) rfl)) rfl
theorem zm_582 : Cond.classLink "LassoFinderLaw" 44 "LassoFinderModel" ∈ zTB := z_in (zt_6 _ (List.mem_of_getElem? (i := 88) rfl)) rfl
theorem zm_583 : Cond.methodLink "LassoFinderLaw" 46 ⟨"LassoFinderModel", "<init>", "()V"⟩ ∈ zTB := z_in (zt_6 _ (List.mem_of_getElem? (i := 90) rfl)) rfl
theorem zm_584 : Cond.constantLong "LassoFinderLaw" 47 (4294967295 : Int64) ∈ zTB := z_in (zt_8 _ (List.mem_of_getElem? (i := 177) rfl)) rfl
theorem zm_585 : Cond.methodLink "LassoFinderLaw" 49 ⟨"LassoFinder", "write", "(J)Z"⟩ ∈ zTB := z_in (zt_3 _ (List.mem_of_getElem? (i := 18) rfl)) rfl
theorem zm_586 : Cond.methodLink "LassoFinderLaw" 53 ⟨"LassoFinderModel", "write", "(J)Z"⟩ ∈ zTB := z_in (zt_7 _ (List.mem_of_getElem? (i := 111) rfl)) rfl
theorem zm_587 : Cond.methodLink "LassoFinderLaw" 54 ⟨"LassoFinderLaw", "model", "(LLassoFinder;[J)I"⟩ ∈ zTB := z_in (zt_3 _ (List.mem_of_getElem? (i := 82) rfl)) rfl
theorem zm_588 : Cond.methodLink "LassoFinderLaw" 59 ⟨"LassoFinderModel", "model", "()I"⟩ ∈ zTB := z_in (zt_7 _ (List.mem_of_getElem? (i := 118) rfl)) rfl
theorem zm_589 : Cond.methodLink "LassoFinderLaw" 60 ⟨"LassoFinderModel", "thrown", "()I"⟩ ∈ zTB := z_in (zt_7 _ (List.mem_of_getElem? (i := 107) rfl)) rfl
theorem zm_590 : Cond.methodLink "LassoFinderLaw" 63 ⟨"LassoFinderLaw", "formula", "(LLassoFinder;[J)I"⟩ ∈ zTB := z_in (zt_5 _ (List.mem_of_getElem? (i := 0) rfl)) rfl
theorem zm_591 : Cond.methodLink "LassoFinderLaw" 65 ⟨"LassoFinderModel", "formula", "()I"⟩ ∈ zTB := z_in (zt_8 _ (List.mem_of_getElem? (i := 24) rfl)) rfl
theorem zm_592 : Cond.methodLink "LassoFinderLaw" 66 ⟨"LassoFinder", "place", "()I"⟩ ∈ zTB := z_in (zt_3 _ (List.mem_of_getElem? (i := 26) rfl)) rfl
theorem zm_593 : Cond.methodLink "LassoFinderLaw" 69 ⟨"LassoFinderModel", "place", "()I"⟩ ∈ zTB := z_in (zt_8 _ (List.mem_of_getElem? (i := 20) rfl)) rfl
theorem zm_594 : Cond.methodLink "LassoFinderLaw" 70 ⟨"LassoFinderLaw", "verify", "(LLassoFinder;[J)I"⟩ ∈ zTB := z_in (zt_5 _ (List.mem_of_getElem? (i := 113) rfl)) rfl
theorem zm_595 : Cond.methodLink "LassoFinderLaw" 72 ⟨"LassoFinderModel", "verify", "()Z"⟩ ∈ zTB := z_in (zt_8 _ (List.mem_of_getElem? (i := 63) rfl)) rfl
theorem zm_596 : Cond.methodLink "LassoFinderLaw" 73 ⟨"LassoFinder", "stem", "()I"⟩ ∈ zTB := z_in (zt_3 _ (List.mem_of_getElem? (i := 30) rfl)) rfl
theorem zm_597 : Cond.methodLink "LassoFinderLaw" 76 ⟨"LassoFinderModel", "stem", "()I"⟩ ∈ zTB := z_in (zt_8 _ (List.mem_of_getElem? (i := 125) rfl)) rfl
theorem zm_598 : Cond.methodLink "LassoFinderLaw" 77 ⟨"LassoFinder", "cycle", "()I"⟩ ∈ zTB := z_in (zt_3 _ (List.mem_of_getElem? (i := 38) rfl)) rfl
theorem zm_599 : Cond.methodLink "LassoFinderLaw" 80 ⟨"LassoFinderModel", "cycle", "()I"⟩ ∈ zTB := z_in (zt_8 _ (List.mem_of_getElem? (i := 129) rfl)) rfl
theorem zm_600 : Cond.methodLink "LassoFinderLaw" 81 ⟨"LassoFinderLaw", "lasso", "(LLassoFinder;II[J)I"⟩ ∈ zTB := z_in (zt_6 _ (List.mem_of_getElem? (i := 30) rfl)) rfl
theorem zm_601 : Cond.methodLink "LassoFinderLaw" 84 ⟨"LassoFinderModel", "lasso", "(II)I"⟩ ∈ zTB := z_in (zt_8 _ (List.mem_of_getElem? (i := 133) rfl)) rfl
theorem zm_602 : Cond.methodLink "LassoFinderLaw" 85 ⟨"LassoFinderLaw", "walk", "(LLassoFinder;)I"⟩ ∈ zTB := z_in (zt_6 _ (List.mem_of_getElem? (i := 57) rfl)) rfl
theorem zm_603 : Cond.methodLink "LassoFinderLaw" 88 ⟨"LassoFinderModel", "walk", "()V"⟩ ∈ zTB := z_in (zt_8 _ (List.mem_of_getElem? (i := 137) rfl)) rfl
theorem zm_604 : Cond.methodLink "LassoFinderLaw" 89 ⟨"LassoFinder", "steps", "()I"⟩ ∈ zTB := z_in (zt_3 _ (List.mem_of_getElem? (i := 42) rfl)) rfl
theorem zm_605 : Cond.methodLink "LassoFinderLaw" 92 ⟨"LassoFinderModel", "steps", "()I"⟩ ∈ zTB := z_in (zt_8 _ (List.mem_of_getElem? (i := 141) rfl)) rfl
theorem zm_606 : Cond.methodLink "LassoFinderLaw" 93 ⟨"LassoFinderLaw", "go", "(LLassoFinder;I[J)I"⟩ ∈ zTB := z_in (zt_6 _ (List.mem_of_getElem? (i := 64) rfl)) rfl
theorem zm_607 : Cond.methodLink "LassoFinderLaw" 96 ⟨"LassoFinderModel", "go", "(I)I"⟩ ∈ zTB := z_in (zt_8 _ (List.mem_of_getElem? (i := 145) rfl)) rfl
theorem zm_608 : Cond.methodLink "LassoFinderLaw" 97 ⟨"LassoFinder", "value", "(I)I"⟩ ∈ zTB := z_in (zt_3 _ (List.mem_of_getElem? (i := 50) rfl)) rfl
theorem zm_609 : Cond.methodLink "LassoFinderLaw" 100 ⟨"LassoFinderModel", "value", "(I)I"⟩ ∈ zTB := z_in (zt_8 _ (List.mem_of_getElem? (i := 149) rfl)) rfl
theorem zm_610 : Cond.methodLink "LassoFinderLaw" 101 ⟨"LassoFinder", "message", "(II)I"⟩ ∈ zTB := z_in (zt_3 _ (List.mem_of_getElem? (i := 62) rfl)) rfl
theorem zm_611 : Cond.methodLink "LassoFinderLaw" 104 ⟨"LassoFinderModel", "message", "(II)I"⟩ ∈ zTB := z_in (zt_8 _ (List.mem_of_getElem? (i := 157) rfl)) rfl
theorem zm_612 : Cond.methodLink "LassoFinderLaw" 105 ⟨"LassoFinder", "point", "(I)I"⟩ ∈ zTB := z_in (zt_3 _ (List.mem_of_getElem? (i := 70) rfl)) rfl
theorem zm_613 : Cond.methodLink "LassoFinderLaw" 108 ⟨"LassoFinderModel", "point", "(I)I"⟩ ∈ zTB := z_in (zt_8 _ (List.mem_of_getElem? (i := 161) rfl)) rfl
theorem zm_614 : Cond.methodLink "LassoFinderLaw" 109 ⟨"LassoFinder", "holder", "()I"⟩ ∈ zTB := z_in (zt_3 _ (List.mem_of_getElem? (i := 74) rfl)) rfl
theorem zm_615 : Cond.methodLink "LassoFinderLaw" 112 ⟨"LassoFinderModel", "holder", "()I"⟩ ∈ zTB := z_in (zt_8 _ (List.mem_of_getElem? (i := 165) rfl)) rfl
theorem zm_616 : Cond.methodLink "LassoFinderLaw" 113 ⟨"LassoFinderLaw", "truth", "(LLassoFinder;I[J)I"⟩ ∈ zTB := z_in (zt_6 _ (List.mem_of_getElem? (i := 71) rfl)) rfl
theorem zm_617 : Cond.methodLink "LassoFinderLaw" 115 ⟨"LassoFinderModel", "truth", "(I)Z"⟩ ∈ zTB := z_in (zt_8 _ (List.mem_of_getElem? (i := 169) rfl)) rfl
theorem zm_618 : Cond.methodLink "LassoFinderLaw" 116 ⟨"LassoFinder", "count", "(I)I"⟩ ∈ zTB := z_in (zt_3 _ (List.mem_of_getElem? (i := 78) rfl)) rfl
theorem zm_619 : Cond.methodLink "LassoFinderLaw" 119 ⟨"LassoFinderModel", "count", "(I)I"⟩ ∈ zTB := z_in (zt_8 _ (List.mem_of_getElem? (i := 173) rfl)) rfl
theorem zm_620 : Cond.code ⟨"LassoFinder", "<init>", "()V"⟩ prog_1_method_1_code 2 none ∈ zTB := z_in (zt_1 _ (List.mem_of_getElem? (i := 28) rfl)) rfl
theorem zm_621 : Cond.instanceMethod ⟨"LassoFinder", "<init>", "()V"⟩ ∈ zTB := z_in (zt_1 _ (List.mem_of_getElem? (i := 27) rfl)) rfl
theorem zm_622 : Cond.code ⟨"LassoFinderModel", "<init>", "()V"⟩ prog_14_method_1_code 1 none ∈ zTB := z_in (zt_6 _ (List.mem_of_getElem? (i := 92) rfl)) rfl
theorem zm_623 : Cond.instanceMethod ⟨"LassoFinderModel", "<init>", "()V"⟩ ∈ zTB := z_in (zt_6 _ (List.mem_of_getElem? (i := 91) rfl)) rfl
theorem zm_624 : Cond.code ⟨"LassoFinder", "write", "(J)Z"⟩ prog_1_method_2_code 3 (some .boolean) ∈ zTB := z_in (zt_3 _ (List.mem_of_getElem? (i := 21) rfl)) rfl
theorem zm_625 : Cond.selects "LassoFinder" ⟨"LassoFinder", "write", "(J)Z"⟩ ⟨"LassoFinder", "write", "(J)Z"⟩ ∈ zTB := z_in (zt_3 _ (List.mem_of_getElem? (i := 20) rfl)) rfl
theorem zm_626 : Cond.instanceMethod ⟨"LassoFinder", "write", "(J)Z"⟩ ∈ zTB := z_in (zt_3 _ (List.mem_of_getElem? (i := 19) rfl)) rfl
theorem zm_627 : Cond.code ⟨"LassoFinderModel", "write", "(J)Z"⟩ prog_14_method_4_code 6 (some .boolean) ∈ zTB := z_in (zt_7 _ (List.mem_of_getElem? (i := 114) rfl)) rfl
theorem zm_628 : Cond.selects "LassoFinderModel" ⟨"LassoFinderModel", "write", "(J)Z"⟩ ⟨"LassoFinderModel", "write", "(J)Z"⟩ ∈ zTB := z_in (zt_7 _ (List.mem_of_getElem? (i := 113) rfl)) rfl
theorem zm_629 : Cond.instanceMethod ⟨"LassoFinderModel", "write", "(J)Z"⟩ ∈ zTB := z_in (zt_7 _ (List.mem_of_getElem? (i := 112) rfl)) rfl
theorem zm_630 : Cond.codeWith ⟨"LassoFinderLaw", "model", "(LLassoFinder;[J)I"⟩ method_3_code 3 (some .int) [(0, 8, 11, 13), (0, 8, 14, 15)] ∈ zTB := z_in (zt_3 _ (List.mem_of_getElem? (i := 84) rfl)) rfl
theorem zm_631 : Cond.initialized "LassoFinderLaw" ∈ zTB := z_in (zt_1 _ (List.mem_of_getElem? (i := 0) rfl)) rfl
theorem zm_632 : Cond.static ⟨"LassoFinderLaw", "model", "(LLassoFinder;[J)I"⟩ ∈ zTB := z_in (zt_3 _ (List.mem_of_getElem? (i := 83) rfl)) rfl
theorem zm_633 : Cond.code ⟨"LassoFinderModel", "model", "()I"⟩ prog_14_method_39_code 2 (some .int) ∈ zTB := z_in (zt_7 _ (List.mem_of_getElem? (i := 121) rfl)) rfl
theorem zm_634 : Cond.selects "LassoFinderModel" ⟨"LassoFinderModel", "model", "()I"⟩ ⟨"LassoFinderModel", "model", "()I"⟩ ∈ zTB := z_in (zt_7 _ (List.mem_of_getElem? (i := 120) rfl)) rfl
theorem zm_635 : Cond.instanceMethod ⟨"LassoFinderModel", "model", "()I"⟩ ∈ zTB := z_in (zt_7 _ (List.mem_of_getElem? (i := 119) rfl)) rfl
theorem zm_636 : Cond.code ⟨"LassoFinderModel", "thrown", "()I"⟩ prog_14_method_2_code 1 (some .int) ∈ zTB := z_in (zt_7 _ (List.mem_of_getElem? (i := 110) rfl)) rfl
theorem zm_637 : Cond.selects "LassoFinderModel" ⟨"LassoFinderModel", "thrown", "()I"⟩ ⟨"LassoFinderModel", "thrown", "()I"⟩ ∈ zTB := z_in (zt_7 _ (List.mem_of_getElem? (i := 109) rfl)) rfl
theorem zm_638 : Cond.instanceMethod ⟨"LassoFinderModel", "thrown", "()I"⟩ ∈ zTB := z_in (zt_7 _ (List.mem_of_getElem? (i := 108) rfl)) rfl
theorem zm_639 : Cond.codeWith ⟨"LassoFinderLaw", "formula", "(LLassoFinder;[J)I"⟩ method_4_code 3 (some .int) [(0, 8, 11, 20), (0, 8, 14, 13)] ∈ zTB := z_in (zt_5 _ (List.mem_of_getElem? (i := 2) rfl)) rfl
theorem zm_640 : Cond.static ⟨"LassoFinderLaw", "formula", "(LLassoFinder;[J)I"⟩ ∈ zTB := z_in (zt_5 _ (List.mem_of_getElem? (i := 1) rfl)) rfl
theorem zm_641 : Cond.code ⟨"LassoFinderModel", "formula", "()I"⟩ prog_14_method_50_code 5 (some .int) ∈ zTB := z_in (zt_8 _ (List.mem_of_getElem? (i := 27) rfl)) rfl
theorem zm_642 : Cond.selects "LassoFinderModel" ⟨"LassoFinderModel", "formula", "()I"⟩ ⟨"LassoFinderModel", "formula", "()I"⟩ ∈ zTB := z_in (zt_8 _ (List.mem_of_getElem? (i := 26) rfl)) rfl
theorem zm_643 : Cond.instanceMethod ⟨"LassoFinderModel", "formula", "()I"⟩ ∈ zTB := z_in (zt_8 _ (List.mem_of_getElem? (i := 25) rfl)) rfl
theorem zm_644 : Cond.code ⟨"LassoFinder", "place", "()I"⟩ prog_1_method_5_code 1 (some .int) ∈ zTB := z_in (zt_3 _ (List.mem_of_getElem? (i := 29) rfl)) rfl
theorem zm_645 : Cond.selects "LassoFinder" ⟨"LassoFinder", "place", "()I"⟩ ⟨"LassoFinder", "place", "()I"⟩ ∈ zTB := z_in (zt_3 _ (List.mem_of_getElem? (i := 28) rfl)) rfl
theorem zm_646 : Cond.instanceMethod ⟨"LassoFinder", "place", "()I"⟩ ∈ zTB := z_in (zt_3 _ (List.mem_of_getElem? (i := 27) rfl)) rfl
theorem zm_647 : Cond.code ⟨"LassoFinderModel", "place", "()I"⟩ prog_14_method_40_code 1 (some .int) ∈ zTB := z_in (zt_8 _ (List.mem_of_getElem? (i := 23) rfl)) rfl
theorem zm_648 : Cond.selects "LassoFinderModel" ⟨"LassoFinderModel", "place", "()I"⟩ ⟨"LassoFinderModel", "place", "()I"⟩ ∈ zTB := z_in (zt_8 _ (List.mem_of_getElem? (i := 22) rfl)) rfl
theorem zm_649 : Cond.instanceMethod ⟨"LassoFinderModel", "place", "()I"⟩ ∈ zTB := z_in (zt_8 _ (List.mem_of_getElem? (i := 21) rfl)) rfl
theorem zm_650 : Cond.codeWith ⟨"LassoFinderLaw", "verify", "(LLassoFinder;[J)I"⟩ method_5_code 3 (some .int) [(0, 15, 18, 20)] ∈ zTB := z_in (zt_5 _ (List.mem_of_getElem? (i := 115) rfl)) rfl
theorem zm_651 : Cond.static ⟨"LassoFinderLaw", "verify", "(LLassoFinder;[J)I"⟩ ∈ zTB := z_in (zt_5 _ (List.mem_of_getElem? (i := 114) rfl)) rfl
theorem zm_652 : Cond.code ⟨"LassoFinderModel", "verify", "()Z"⟩ prog_14_method_66_code 6 (some .boolean) ∈ zTB := z_in (zt_8 _ (List.mem_of_getElem? (i := 66) rfl)) rfl
theorem zm_653 : Cond.selects "LassoFinderModel" ⟨"LassoFinderModel", "verify", "()Z"⟩ ⟨"LassoFinderModel", "verify", "()Z"⟩ ∈ zTB := z_in (zt_8 _ (List.mem_of_getElem? (i := 65) rfl)) rfl
theorem zm_654 : Cond.instanceMethod ⟨"LassoFinderModel", "verify", "()Z"⟩ ∈ zTB := z_in (zt_8 _ (List.mem_of_getElem? (i := 64) rfl)) rfl
theorem zm_655 : Cond.code ⟨"LassoFinder", "stem", "()I"⟩ prog_1_method_7_code 1 (some .int) ∈ zTB := z_in (zt_3 _ (List.mem_of_getElem? (i := 33) rfl)) rfl
theorem zm_656 : Cond.selects "LassoFinder" ⟨"LassoFinder", "stem", "()I"⟩ ⟨"LassoFinder", "stem", "()I"⟩ ∈ zTB := z_in (zt_3 _ (List.mem_of_getElem? (i := 32) rfl)) rfl
theorem zm_657 : Cond.instanceMethod ⟨"LassoFinder", "stem", "()I"⟩ ∈ zTB := z_in (zt_3 _ (List.mem_of_getElem? (i := 31) rfl)) rfl
theorem zm_658 : Cond.code ⟨"LassoFinderModel", "stem", "()I"⟩ prog_14_method_67_code 1 (some .int) ∈ zTB := z_in (zt_8 _ (List.mem_of_getElem? (i := 128) rfl)) rfl
theorem zm_659 : Cond.selects "LassoFinderModel" ⟨"LassoFinderModel", "stem", "()I"⟩ ⟨"LassoFinderModel", "stem", "()I"⟩ ∈ zTB := z_in (zt_8 _ (List.mem_of_getElem? (i := 127) rfl)) rfl
theorem zm_660 : Cond.instanceMethod ⟨"LassoFinderModel", "stem", "()I"⟩ ∈ zTB := z_in (zt_8 _ (List.mem_of_getElem? (i := 126) rfl)) rfl
theorem zm_661 : Cond.code ⟨"LassoFinder", "cycle", "()I"⟩ prog_1_method_8_code 1 (some .int) ∈ zTB := z_in (zt_3 _ (List.mem_of_getElem? (i := 41) rfl)) rfl
theorem zm_662 : Cond.selects "LassoFinder" ⟨"LassoFinder", "cycle", "()I"⟩ ⟨"LassoFinder", "cycle", "()I"⟩ ∈ zTB := z_in (zt_3 _ (List.mem_of_getElem? (i := 40) rfl)) rfl
theorem zm_663 : Cond.instanceMethod ⟨"LassoFinder", "cycle", "()I"⟩ ∈ zTB := z_in (zt_3 _ (List.mem_of_getElem? (i := 39) rfl)) rfl
theorem zm_664 : Cond.code ⟨"LassoFinderModel", "cycle", "()I"⟩ prog_14_method_68_code 1 (some .int) ∈ zTB := z_in (zt_8 _ (List.mem_of_getElem? (i := 132) rfl)) rfl
theorem zm_665 : Cond.selects "LassoFinderModel" ⟨"LassoFinderModel", "cycle", "()I"⟩ ⟨"LassoFinderModel", "cycle", "()I"⟩ ∈ zTB := z_in (zt_8 _ (List.mem_of_getElem? (i := 131) rfl)) rfl
theorem zm_666 : Cond.instanceMethod ⟨"LassoFinderModel", "cycle", "()I"⟩ ∈ zTB := z_in (zt_8 _ (List.mem_of_getElem? (i := 130) rfl)) rfl
theorem zm_667 : Cond.codeWith ⟨"LassoFinderLaw", "lasso", "(LLassoFinder;II[J)I"⟩ method_6_code 5 (some .int) [(0, 10, 13, 30)] ∈ zTB := z_in (zt_6 _ (List.mem_of_getElem? (i := 32) rfl)) rfl
theorem zm_668 : Cond.static ⟨"LassoFinderLaw", "lasso", "(LLassoFinder;II[J)I"⟩ ∈ zTB := z_in (zt_6 _ (List.mem_of_getElem? (i := 31) rfl)) rfl
theorem zm_669 : Cond.code ⟨"LassoFinderModel", "lasso", "(II)I"⟩ prog_14_method_69_code 4 (some .int) ∈ zTB := z_in (zt_8 _ (List.mem_of_getElem? (i := 136) rfl)) rfl
theorem zm_670 : Cond.selects "LassoFinderModel" ⟨"LassoFinderModel", "lasso", "(II)I"⟩ ⟨"LassoFinderModel", "lasso", "(II)I"⟩ ∈ zTB := z_in (zt_8 _ (List.mem_of_getElem? (i := 135) rfl)) rfl
theorem zm_671 : Cond.instanceMethod ⟨"LassoFinderModel", "lasso", "(II)I"⟩ ∈ zTB := z_in (zt_8 _ (List.mem_of_getElem? (i := 134) rfl)) rfl
theorem zm_672 : Cond.codeWith ⟨"LassoFinderLaw", "walk", "(LLassoFinder;)I"⟩ method_7_code 2 (some .int) [(0, 4, 7, 20)] ∈ zTB := z_in (zt_6 _ (List.mem_of_getElem? (i := 59) rfl)) rfl
theorem zm_673 : Cond.static ⟨"LassoFinderLaw", "walk", "(LLassoFinder;)I"⟩ ∈ zTB := z_in (zt_6 _ (List.mem_of_getElem? (i := 58) rfl)) rfl
theorem zm_674 : Cond.code ⟨"LassoFinderModel", "walk", "()V"⟩ prog_14_method_70_code 1 none ∈ zTB := z_in (zt_8 _ (List.mem_of_getElem? (i := 140) rfl)) rfl
theorem zm_675 : Cond.selects "LassoFinderModel" ⟨"LassoFinderModel", "walk", "()V"⟩ ⟨"LassoFinderModel", "walk", "()V"⟩ ∈ zTB := z_in (zt_8 _ (List.mem_of_getElem? (i := 139) rfl)) rfl
theorem zm_676 : Cond.instanceMethod ⟨"LassoFinderModel", "walk", "()V"⟩ ∈ zTB := z_in (zt_8 _ (List.mem_of_getElem? (i := 138) rfl)) rfl
theorem zm_677 : Cond.code ⟨"LassoFinder", "steps", "()I"⟩ prog_1_method_11_code 1 (some .int) ∈ zTB := z_in (zt_3 _ (List.mem_of_getElem? (i := 45) rfl)) rfl
theorem zm_678 : Cond.selects "LassoFinder" ⟨"LassoFinder", "steps", "()I"⟩ ⟨"LassoFinder", "steps", "()I"⟩ ∈ zTB := z_in (zt_3 _ (List.mem_of_getElem? (i := 44) rfl)) rfl
theorem zm_679 : Cond.instanceMethod ⟨"LassoFinder", "steps", "()I"⟩ ∈ zTB := z_in (zt_3 _ (List.mem_of_getElem? (i := 43) rfl)) rfl
theorem zm_680 : Cond.code ⟨"LassoFinderModel", "steps", "()I"⟩ prog_14_method_71_code 1 (some .int) ∈ zTB := z_in (zt_8 _ (List.mem_of_getElem? (i := 144) rfl)) rfl
theorem zm_681 : Cond.selects "LassoFinderModel" ⟨"LassoFinderModel", "steps", "()I"⟩ ⟨"LassoFinderModel", "steps", "()I"⟩ ∈ zTB := z_in (zt_8 _ (List.mem_of_getElem? (i := 143) rfl)) rfl
theorem zm_682 : Cond.instanceMethod ⟨"LassoFinderModel", "steps", "()I"⟩ ∈ zTB := z_in (zt_8 _ (List.mem_of_getElem? (i := 142) rfl)) rfl
theorem zm_683 : Cond.codeWith ⟨"LassoFinderLaw", "go", "(LLassoFinder;I[J)I"⟩ method_8_code 4 (some .int) [(0, 9, 12, 20), (0, 9, 15, 30), (0, 9, 18, 15)] ∈ zTB := z_in (zt_6 _ (List.mem_of_getElem? (i := 66) rfl)) rfl
theorem zm_684 : Cond.static ⟨"LassoFinderLaw", "go", "(LLassoFinder;I[J)I"⟩ ∈ zTB := z_in (zt_6 _ (List.mem_of_getElem? (i := 65) rfl)) rfl
theorem zm_685 : Cond.code ⟨"LassoFinderModel", "go", "(I)I"⟩ prog_14_method_72_code 3 (some .int) ∈ zTB := z_in (zt_8 _ (List.mem_of_getElem? (i := 148) rfl)) rfl
theorem zm_686 : Cond.selects "LassoFinderModel" ⟨"LassoFinderModel", "go", "(I)I"⟩ ⟨"LassoFinderModel", "go", "(I)I"⟩ ∈ zTB := z_in (zt_8 _ (List.mem_of_getElem? (i := 147) rfl)) rfl
theorem zm_687 : Cond.instanceMethod ⟨"LassoFinderModel", "go", "(I)I"⟩ ∈ zTB := z_in (zt_8 _ (List.mem_of_getElem? (i := 146) rfl)) rfl
theorem zm_688 : Cond.code ⟨"LassoFinder", "value", "(I)I"⟩ prog_1_method_13_code 2 (some .int) ∈ zTB := z_in (zt_3 _ (List.mem_of_getElem? (i := 53) rfl)) rfl
theorem zm_689 : Cond.selects "LassoFinder" ⟨"LassoFinder", "value", "(I)I"⟩ ⟨"LassoFinder", "value", "(I)I"⟩ ∈ zTB := z_in (zt_3 _ (List.mem_of_getElem? (i := 52) rfl)) rfl
theorem zm_690 : Cond.instanceMethod ⟨"LassoFinder", "value", "(I)I"⟩ ∈ zTB := z_in (zt_3 _ (List.mem_of_getElem? (i := 51) rfl)) rfl
theorem zm_691 : Cond.code ⟨"LassoFinderModel", "value", "(I)I"⟩ prog_14_method_74_code 2 (some .int) ∈ zTB := z_in (zt_8 _ (List.mem_of_getElem? (i := 152) rfl)) rfl
theorem zm_692 : Cond.selects "LassoFinderModel" ⟨"LassoFinderModel", "value", "(I)I"⟩ ⟨"LassoFinderModel", "value", "(I)I"⟩ ∈ zTB := z_in (zt_8 _ (List.mem_of_getElem? (i := 151) rfl)) rfl
theorem zm_693 : Cond.instanceMethod ⟨"LassoFinderModel", "value", "(I)I"⟩ ∈ zTB := z_in (zt_8 _ (List.mem_of_getElem? (i := 150) rfl)) rfl
theorem zm_694 : Cond.code ⟨"LassoFinder", "message", "(II)I"⟩ prog_1_method_14_code 3 (some .int) ∈ zTB := z_in (zt_3 _ (List.mem_of_getElem? (i := 65) rfl)) rfl
theorem zm_695 : Cond.selects "LassoFinder" ⟨"LassoFinder", "message", "(II)I"⟩ ⟨"LassoFinder", "message", "(II)I"⟩ ∈ zTB := z_in (zt_3 _ (List.mem_of_getElem? (i := 64) rfl)) rfl
theorem zm_696 : Cond.instanceMethod ⟨"LassoFinder", "message", "(II)I"⟩ ∈ zTB := z_in (zt_3 _ (List.mem_of_getElem? (i := 63) rfl)) rfl
theorem zm_697 : Cond.code ⟨"LassoFinderModel", "message", "(II)I"⟩ prog_14_method_75_code 3 (some .int) ∈ zTB := z_in (zt_8 _ (List.mem_of_getElem? (i := 160) rfl)) rfl
theorem zm_698 : Cond.selects "LassoFinderModel" ⟨"LassoFinderModel", "message", "(II)I"⟩ ⟨"LassoFinderModel", "message", "(II)I"⟩ ∈ zTB := z_in (zt_8 _ (List.mem_of_getElem? (i := 159) rfl)) rfl
theorem zm_699 : Cond.instanceMethod ⟨"LassoFinderModel", "message", "(II)I"⟩ ∈ zTB := z_in (zt_8 _ (List.mem_of_getElem? (i := 158) rfl)) rfl
theorem zm_700 : Cond.code ⟨"LassoFinder", "point", "(I)I"⟩ prog_1_method_15_code 2 (some .int) ∈ zTB := z_in (zt_3 _ (List.mem_of_getElem? (i := 73) rfl)) rfl
theorem zm_701 : Cond.selects "LassoFinder" ⟨"LassoFinder", "point", "(I)I"⟩ ⟨"LassoFinder", "point", "(I)I"⟩ ∈ zTB := z_in (zt_3 _ (List.mem_of_getElem? (i := 72) rfl)) rfl
theorem zm_702 : Cond.instanceMethod ⟨"LassoFinder", "point", "(I)I"⟩ ∈ zTB := z_in (zt_3 _ (List.mem_of_getElem? (i := 71) rfl)) rfl
theorem zm_703 : Cond.code ⟨"LassoFinderModel", "point", "(I)I"⟩ prog_14_method_76_code 2 (some .int) ∈ zTB := z_in (zt_8 _ (List.mem_of_getElem? (i := 164) rfl)) rfl
theorem zm_704 : Cond.selects "LassoFinderModel" ⟨"LassoFinderModel", "point", "(I)I"⟩ ⟨"LassoFinderModel", "point", "(I)I"⟩ ∈ zTB := z_in (zt_8 _ (List.mem_of_getElem? (i := 163) rfl)) rfl
theorem zm_705 : Cond.instanceMethod ⟨"LassoFinderModel", "point", "(I)I"⟩ ∈ zTB := z_in (zt_8 _ (List.mem_of_getElem? (i := 162) rfl)) rfl
theorem zm_706 : Cond.code ⟨"LassoFinder", "holder", "()I"⟩ prog_1_method_16_code 1 (some .int) ∈ zTB := z_in (zt_3 _ (List.mem_of_getElem? (i := 77) rfl)) rfl
theorem zm_707 : Cond.selects "LassoFinder" ⟨"LassoFinder", "holder", "()I"⟩ ⟨"LassoFinder", "holder", "()I"⟩ ∈ zTB := z_in (zt_3 _ (List.mem_of_getElem? (i := 76) rfl)) rfl
theorem zm_708 : Cond.instanceMethod ⟨"LassoFinder", "holder", "()I"⟩ ∈ zTB := z_in (zt_3 _ (List.mem_of_getElem? (i := 75) rfl)) rfl
theorem zm_709 : Cond.code ⟨"LassoFinderModel", "holder", "()I"⟩ prog_14_method_77_code 1 (some .int) ∈ zTB := z_in (zt_8 _ (List.mem_of_getElem? (i := 168) rfl)) rfl
theorem zm_710 : Cond.selects "LassoFinderModel" ⟨"LassoFinderModel", "holder", "()I"⟩ ⟨"LassoFinderModel", "holder", "()I"⟩ ∈ zTB := z_in (zt_8 _ (List.mem_of_getElem? (i := 167) rfl)) rfl
theorem zm_711 : Cond.instanceMethod ⟨"LassoFinderModel", "holder", "()I"⟩ ∈ zTB := z_in (zt_8 _ (List.mem_of_getElem? (i := 166) rfl)) rfl
theorem zm_712 : Cond.codeWith ⟨"LassoFinderLaw", "truth", "(LLassoFinder;I[J)I"⟩ method_9_code 4 (some .int) [(0, 16, 19, 20), (0, 16, 22, 13)] ∈ zTB := z_in (zt_6 _ (List.mem_of_getElem? (i := 73) rfl)) rfl
theorem zm_713 : Cond.static ⟨"LassoFinderLaw", "truth", "(LLassoFinder;I[J)I"⟩ ∈ zTB := z_in (zt_6 _ (List.mem_of_getElem? (i := 72) rfl)) rfl
theorem zm_714 : Cond.code ⟨"LassoFinderModel", "truth", "(I)Z"⟩ prog_14_method_78_code 7 (some .boolean) ∈ zTB := z_in (zt_8 _ (List.mem_of_getElem? (i := 172) rfl)) rfl
theorem zm_715 : Cond.selects "LassoFinderModel" ⟨"LassoFinderModel", "truth", "(I)Z"⟩ ⟨"LassoFinderModel", "truth", "(I)Z"⟩ ∈ zTB := z_in (zt_8 _ (List.mem_of_getElem? (i := 171) rfl)) rfl
theorem zm_716 : Cond.instanceMethod ⟨"LassoFinderModel", "truth", "(I)Z"⟩ ∈ zTB := z_in (zt_8 _ (List.mem_of_getElem? (i := 170) rfl)) rfl
theorem zm_717 : Cond.code ⟨"LassoFinder", "count", "(I)I"⟩ prog_1_method_18_code 2 (some .int) ∈ zTB := z_in (zt_3 _ (List.mem_of_getElem? (i := 81) rfl)) rfl
theorem zm_718 : Cond.selects "LassoFinder" ⟨"LassoFinder", "count", "(I)I"⟩ ⟨"LassoFinder", "count", "(I)I"⟩ ∈ zTB := z_in (zt_3 _ (List.mem_of_getElem? (i := 80) rfl)) rfl
theorem zm_719 : Cond.instanceMethod ⟨"LassoFinder", "count", "(I)I"⟩ ∈ zTB := z_in (zt_3 _ (List.mem_of_getElem? (i := 79) rfl)) rfl
theorem zm_720 : Cond.code ⟨"LassoFinderModel", "count", "(I)I"⟩ prog_14_method_79_code 2 (some .int) ∈ zTB := z_in (zt_8 _ (List.mem_of_getElem? (i := 176) rfl)) rfl
theorem zm_721 : Cond.selects "LassoFinderModel" ⟨"LassoFinderModel", "count", "(I)I"⟩ ⟨"LassoFinderModel", "count", "(I)I"⟩ ∈ zTB := z_in (zt_8 _ (List.mem_of_getElem? (i := 175) rfl)) rfl
theorem zm_722 : Cond.instanceMethod ⟨"LassoFinderModel", "count", "(I)I"⟩ ∈ zTB := z_in (zt_8 _ (List.mem_of_getElem? (i := 174) rfl)) rfl
theorem zf_LassoFinder_init : zFaceI zy_LassoFinder_init prog_1_method_1_code 2 0 := ⟨zm_621, rfl, zm_1, zm_620, by decide +kernel, by decide +kernel, by decide +kernel⟩
theorem zf_LassoFinderModel_init : zFaceI zy_LassoFinderModel_init prog_14_method_1_code 1 0 := ⟨zm_623, rfl, zm_25, zm_622, by decide +kernel, by decide +kernel, by decide +kernel⟩
theorem zf_LassoFinder_write : zFaceV zy_LassoFinder_write prog_1_method_2_code 3 (some .boolean) 1 := ⟨zm_626, zm_625, zm_1, zm_624, by decide +kernel, by decide +kernel, by decide +kernel⟩
theorem zf_LassoFinderModel_write : zFaceV zy_LassoFinderModel_write prog_14_method_4_code 6 (some .boolean) 1 := ⟨zm_629, zm_628, zm_25, zm_627, by decide +kernel, by decide +kernel, by decide +kernel⟩
theorem zf_LassoFinderLaw_model : zFaceSW zy_LassoFinderLaw_model method_3_code 3 (some .int) [(0, 8, 11, 13), (0, 8, 14, 15)] 2 := ⟨zm_632, zm_631, zm_630, by decide +kernel, by decide +kernel, by decide +kernel⟩
theorem zf_LassoFinderModel_model : zFaceV zy_LassoFinderModel_model prog_14_method_39_code 2 (some .int) 0 := ⟨zm_635, zm_634, zm_25, zm_633, by decide +kernel, by decide +kernel, by decide +kernel⟩
theorem zf_LassoFinderModel_thrown : zFaceV zy_LassoFinderModel_thrown prog_14_method_2_code 1 (some .int) 0 := ⟨zm_638, zm_637, zm_25, zm_636, by decide +kernel, by decide +kernel, by decide +kernel⟩
theorem zf_LassoFinderLaw_formula : zFaceSW zy_LassoFinderLaw_formula method_4_code 3 (some .int) [(0, 8, 11, 20), (0, 8, 14, 13)] 2 := ⟨zm_640, zm_631, zm_639, by decide +kernel, by decide +kernel, by decide +kernel⟩
theorem zf_LassoFinderModel_formula : zFaceV zy_LassoFinderModel_formula prog_14_method_50_code 5 (some .int) 0 := ⟨zm_643, zm_642, zm_25, zm_641, by decide +kernel, by decide +kernel, by decide +kernel⟩
theorem zf_LassoFinder_place : zFaceV zy_LassoFinder_place prog_1_method_5_code 1 (some .int) 0 := ⟨zm_646, zm_645, zm_1, zm_644, by decide +kernel, by decide +kernel, by decide +kernel⟩
theorem zf_LassoFinderModel_place : zFaceV zy_LassoFinderModel_place prog_14_method_40_code 1 (some .int) 0 := ⟨zm_649, zm_648, zm_25, zm_647, by decide +kernel, by decide +kernel, by decide +kernel⟩
theorem zf_LassoFinderLaw_verify : zFaceSW zy_LassoFinderLaw_verify method_5_code 3 (some .int) [(0, 15, 18, 20)] 2 := ⟨zm_651, zm_631, zm_650, by decide +kernel, by decide +kernel, by decide +kernel⟩
theorem zf_LassoFinderModel_verify : zFaceV zy_LassoFinderModel_verify prog_14_method_66_code 6 (some .boolean) 0 := ⟨zm_654, zm_653, zm_25, zm_652, by decide +kernel, by decide +kernel, by decide +kernel⟩
theorem zf_LassoFinder_stem : zFaceV zy_LassoFinder_stem prog_1_method_7_code 1 (some .int) 0 := ⟨zm_657, zm_656, zm_1, zm_655, by decide +kernel, by decide +kernel, by decide +kernel⟩
theorem zf_LassoFinderModel_stem : zFaceV zy_LassoFinderModel_stem prog_14_method_67_code 1 (some .int) 0 := ⟨zm_660, zm_659, zm_25, zm_658, by decide +kernel, by decide +kernel, by decide +kernel⟩
theorem zf_LassoFinder_cycle : zFaceV zy_LassoFinder_cycle prog_1_method_8_code 1 (some .int) 0 := ⟨zm_663, zm_662, zm_1, zm_661, by decide +kernel, by decide +kernel, by decide +kernel⟩
theorem zf_LassoFinderModel_cycle : zFaceV zy_LassoFinderModel_cycle prog_14_method_68_code 1 (some .int) 0 := ⟨zm_666, zm_665, zm_25, zm_664, by decide +kernel, by decide +kernel, by decide +kernel⟩
theorem zf_LassoFinderLaw_lasso : zFaceSW zy_LassoFinderLaw_lasso method_6_code 5 (some .int) [(0, 10, 13, 30)] 4 := ⟨zm_668, zm_631, zm_667, by decide +kernel, by decide +kernel, by decide +kernel⟩
theorem zf_LassoFinderModel_lasso : zFaceV zy_LassoFinderModel_lasso prog_14_method_69_code 4 (some .int) 2 := ⟨zm_671, zm_670, zm_25, zm_669, by decide +kernel, by decide +kernel, by decide +kernel⟩
theorem zf_LassoFinderLaw_walk : zFaceSW zy_LassoFinderLaw_walk method_7_code 2 (some .int) [(0, 4, 7, 20)] 1 := ⟨zm_673, zm_631, zm_672, by decide +kernel, by decide +kernel, by decide +kernel⟩
theorem zf_LassoFinderModel_walk : zFaceV zy_LassoFinderModel_walk prog_14_method_70_code 1 none 0 := ⟨zm_676, zm_675, zm_25, zm_674, by decide +kernel, by decide +kernel, by decide +kernel⟩
theorem zf_LassoFinder_steps : zFaceV zy_LassoFinder_steps prog_1_method_11_code 1 (some .int) 0 := ⟨zm_679, zm_678, zm_1, zm_677, by decide +kernel, by decide +kernel, by decide +kernel⟩
theorem zf_LassoFinderModel_steps : zFaceV zy_LassoFinderModel_steps prog_14_method_71_code 1 (some .int) 0 := ⟨zm_682, zm_681, zm_25, zm_680, by decide +kernel, by decide +kernel, by decide +kernel⟩
theorem zf_LassoFinderLaw_go : zFaceSW zy_LassoFinderLaw_go method_8_code 4 (some .int) [(0, 9, 12, 20), (0, 9, 15, 30), (0, 9, 18, 15)] 3 := ⟨zm_684, zm_631, zm_683, by decide +kernel, by decide +kernel, by decide +kernel⟩
theorem zf_LassoFinderModel_go : zFaceV zy_LassoFinderModel_go prog_14_method_72_code 3 (some .int) 1 := ⟨zm_687, zm_686, zm_25, zm_685, by decide +kernel, by decide +kernel, by decide +kernel⟩
theorem zf_LassoFinder_value : zFaceV zy_LassoFinder_value prog_1_method_13_code 2 (some .int) 1 := ⟨zm_690, zm_689, zm_1, zm_688, by decide +kernel, by decide +kernel, by decide +kernel⟩
theorem zf_LassoFinderModel_value : zFaceV zy_LassoFinderModel_value prog_14_method_74_code 2 (some .int) 1 := ⟨zm_693, zm_692, zm_25, zm_691, by decide +kernel, by decide +kernel, by decide +kernel⟩
theorem zf_LassoFinder_message : zFaceV zy_LassoFinder_message prog_1_method_14_code 3 (some .int) 2 := ⟨zm_696, zm_695, zm_1, zm_694, by decide +kernel, by decide +kernel, by decide +kernel⟩
theorem zf_LassoFinderModel_message : zFaceV zy_LassoFinderModel_message prog_14_method_75_code 3 (some .int) 2 := ⟨zm_699, zm_698, zm_25, zm_697, by decide +kernel, by decide +kernel, by decide +kernel⟩
theorem zf_LassoFinder_point : zFaceV zy_LassoFinder_point prog_1_method_15_code 2 (some .int) 1 := ⟨zm_702, zm_701, zm_1, zm_700, by decide +kernel, by decide +kernel, by decide +kernel⟩
theorem zf_LassoFinderModel_point : zFaceV zy_LassoFinderModel_point prog_14_method_76_code 2 (some .int) 1 := ⟨zm_705, zm_704, zm_25, zm_703, by decide +kernel, by decide +kernel, by decide +kernel⟩
theorem zf_LassoFinder_holder : zFaceV zy_LassoFinder_holder prog_1_method_16_code 1 (some .int) 0 := ⟨zm_708, zm_707, zm_1, zm_706, by decide +kernel, by decide +kernel, by decide +kernel⟩
theorem zf_LassoFinderModel_holder : zFaceV zy_LassoFinderModel_holder prog_14_method_77_code 1 (some .int) 0 := ⟨zm_711, zm_710, zm_25, zm_709, by decide +kernel, by decide +kernel, by decide +kernel⟩
theorem zf_LassoFinderLaw_truth : zFaceSW zy_LassoFinderLaw_truth method_9_code 4 (some .int) [(0, 16, 19, 20), (0, 16, 22, 13)] 3 := ⟨zm_713, zm_631, zm_712, by decide +kernel, by decide +kernel, by decide +kernel⟩
theorem zf_LassoFinderModel_truth : zFaceV zy_LassoFinderModel_truth prog_14_method_78_code 7 (some .boolean) 1 := ⟨zm_716, zm_715, zm_25, zm_714, by decide +kernel, by decide +kernel, by decide +kernel⟩
theorem zf_LassoFinder_count : zFaceV zy_LassoFinder_count prog_1_method_18_code 2 (some .int) 1 := ⟨zm_719, zm_718, zm_1, zm_717, by decide +kernel, by decide +kernel, by decide +kernel⟩
theorem zf_LassoFinderModel_count : zFaceV zy_LassoFinderModel_count prog_14_method_79_code 2 (some .int) 1 := ⟨zm_722, zm_721, zm_25, zm_720, by decide +kernel, by decide +kernel, by decide +kernel⟩
theorem zd_LassoFinderLaw_law_0 : decode code 0 = .ok (.new 8, 3) := by decide +kernel
theorem zd_LassoFinderLaw_law_3 : decode code 3 = .ok (.dup, 1) := by decide +kernel
theorem zd_LassoFinderLaw_law_4 : decode code 4 = .ok (.invokespecial 43, 3) := by decide +kernel
theorem zd_LassoFinderLaw_law_7 : decode code 7 = .ok (.astore_n 1, 1) := by decide +kernel
theorem zd_LassoFinderLaw_law_8 : decode code 8 = .ok (.new 44, 3) := by decide +kernel
theorem zd_LassoFinderLaw_law_11 : decode code 11 = .ok (.dup, 1) := by decide +kernel
theorem zd_LassoFinderLaw_law_12 : decode code 12 = .ok (.invokespecial 46, 3) := by decide +kernel
theorem zd_LassoFinderLaw_law_15 : decode code 15 = .ok (.astore_n 2, 1) := by decide +kernel
theorem zd_LassoFinderLaw_law_16 : decode code 16 = .ok (.iconst 1, 1) := by decide +kernel
theorem zd_LassoFinderLaw_law_17 : decode code 17 = .ok (.newarray .long, 2) := by decide +kernel
theorem zd_LassoFinderLaw_law_19 : decode code 19 = .ok (.astore_n 3, 1) := by decide +kernel
theorem zd_LassoFinderLaw_law_20 : decode code 20 = .ok (.iconst 0, 1) := by decide +kernel
theorem zd_LassoFinderLaw_law_21 : decode code 21 = .ok (.istore 4, 2) := by decide +kernel
theorem zd_LassoFinderLaw_law_23 : decode code 23 = .ok (.iload 4, 2) := by decide +kernel
theorem zd_LassoFinderLaw_law_25 : decode code 25 = .ok (.aload_n 0, 1) := by decide +kernel
theorem zd_LassoFinderLaw_law_26 : decode code 26 = .ok (.arraylength, 1) := by decide +kernel
theorem zd_LassoFinderLaw_law_27 : decode code 27 = .ok (.iconst 3, 1) := by decide +kernel
theorem zd_LassoFinderLaw_law_28 : decode code 28 = .ok (.isub, 1) := by decide +kernel
theorem zd_LassoFinderLaw_law_29 : decode code 29 = .ok (.if_icmp .gt 681, 3) := by decide +kernel
theorem zd_LassoFinderLaw_law_32 : decode code 32 = .ok (.aload_n 0, 1) := by decide +kernel
theorem zd_LassoFinderLaw_law_33 : decode code 33 = .ok (.iload 4, 2) := by decide +kernel
theorem zd_LassoFinderLaw_law_35 : decode code 35 = .ok (.iaload, 1) := by decide +kernel
theorem zd_LassoFinderLaw_law_36 : decode code 36 = .ok (.bipush 31, 2) := by decide +kernel
theorem zd_LassoFinderLaw_law_38 : decode code 38 = .ok (.iand, 1) := by decide +kernel
theorem zd_LassoFinderLaw_law_39 : decode code 39 = .ok (.tableswitch 665 0 16 #[81, 138, 182, 226, 239, 290, 303, 316, 384, 408, 421, 477, 502, 539, 564, 577, 640], 81) := by decide +kernel
theorem zd_LassoFinderLaw_law_120 : decode code 120 = .ok (.aload_n 1, 1) := by decide +kernel
theorem zd_LassoFinderLaw_law_121 : decode code 121 = .ok (.aload_n 0, 1) := by decide +kernel
theorem zd_LassoFinderLaw_law_122 : decode code 122 = .ok (.iload 4, 2) := by decide +kernel
theorem zd_LassoFinderLaw_law_124 : decode code 124 = .ok (.iconst 1, 1) := by decide +kernel
theorem zd_LassoFinderLaw_law_125 : decode code 125 = .ok (.iadd, 1) := by decide +kernel
theorem zd_LassoFinderLaw_law_126 : decode code 126 = .ok (.iaload, 1) := by decide +kernel
theorem zd_LassoFinderLaw_law_127 : decode code 127 = .ok (.i2l, 1) := by decide +kernel
theorem zd_LassoFinderLaw_law_128 : decode code 128 = .ok (.bipush 32, 2) := by decide +kernel
theorem zd_LassoFinderLaw_law_130 : decode code 130 = .ok (.lshl, 1) := by decide +kernel
theorem zd_LassoFinderLaw_law_131 : decode code 131 = .ok (.aload_n 0, 1) := by decide +kernel
theorem zd_LassoFinderLaw_law_132 : decode code 132 = .ok (.iload 4, 2) := by decide +kernel
theorem zd_LassoFinderLaw_law_134 : decode code 134 = .ok (.iconst 2, 1) := by decide +kernel
theorem zd_LassoFinderLaw_law_135 : decode code 135 = .ok (.iadd, 1) := by decide +kernel
theorem zd_LassoFinderLaw_law_136 : decode code 136 = .ok (.iaload, 1) := by decide +kernel
theorem zd_LassoFinderLaw_law_137 : decode code 137 = .ok (.i2l, 1) := by decide +kernel
theorem zd_LassoFinderLaw_law_138 : decode code 138 = .ok (.ldc2_w 47, 3) := by decide +kernel
theorem zd_LassoFinderLaw_law_141 : decode code 141 = .ok (.land, 1) := by decide +kernel
theorem zd_LassoFinderLaw_law_142 : decode code 142 = .ok (.lor, 1) := by decide +kernel
theorem zd_LassoFinderLaw_law_143 : decode code 143 = .ok (.invokevirtual 49, 3) := by decide +kernel
theorem zd_LassoFinderLaw_law_146 : decode code 146 = .ok (.aload_n 2, 1) := by decide +kernel
theorem zd_LassoFinderLaw_law_147 : decode code 147 = .ok (.aload_n 0, 1) := by decide +kernel
theorem zd_LassoFinderLaw_law_148 : decode code 148 = .ok (.iload 4, 2) := by decide +kernel
theorem zd_LassoFinderLaw_law_150 : decode code 150 = .ok (.iconst 1, 1) := by decide +kernel
theorem zd_LassoFinderLaw_law_151 : decode code 151 = .ok (.iadd, 1) := by decide +kernel
theorem zd_LassoFinderLaw_law_152 : decode code 152 = .ok (.iaload, 1) := by decide +kernel
theorem zd_LassoFinderLaw_law_153 : decode code 153 = .ok (.i2l, 1) := by decide +kernel
theorem zd_LassoFinderLaw_law_154 : decode code 154 = .ok (.bipush 32, 2) := by decide +kernel
theorem zd_LassoFinderLaw_law_156 : decode code 156 = .ok (.lshl, 1) := by decide +kernel
theorem zd_LassoFinderLaw_law_157 : decode code 157 = .ok (.aload_n 0, 1) := by decide +kernel
theorem zd_LassoFinderLaw_law_158 : decode code 158 = .ok (.iload 4, 2) := by decide +kernel
theorem zd_LassoFinderLaw_law_160 : decode code 160 = .ok (.iconst 2, 1) := by decide +kernel
theorem zd_LassoFinderLaw_law_161 : decode code 161 = .ok (.iadd, 1) := by decide +kernel
theorem zd_LassoFinderLaw_law_162 : decode code 162 = .ok (.iaload, 1) := by decide +kernel
theorem zd_LassoFinderLaw_law_163 : decode code 163 = .ok (.i2l, 1) := by decide +kernel
theorem zd_LassoFinderLaw_law_164 : decode code 164 = .ok (.ldc2_w 47, 3) := by decide +kernel
theorem zd_LassoFinderLaw_law_167 : decode code 167 = .ok (.land, 1) := by decide +kernel
theorem zd_LassoFinderLaw_law_168 : decode code 168 = .ok (.lor, 1) := by decide +kernel
theorem zd_LassoFinderLaw_law_169 : decode code 169 = .ok (.invokevirtual 53, 3) := by decide +kernel
theorem zd_LassoFinderLaw_law_172 : decode code 172 = .ok (.if_icmp .eq 532, 3) := by decide +kernel
theorem zd_LassoFinderLaw_law_177 : decode code 177 = .ok (.aload_n 1, 1) := by decide +kernel
theorem zd_LassoFinderLaw_law_178 : decode code 178 = .ok (.aload_n 3, 1) := by decide +kernel
theorem zd_LassoFinderLaw_law_179 : decode code 179 = .ok (.invokestatic 54, 3) := by decide +kernel
theorem zd_LassoFinderLaw_law_182 : decode code 182 = .ok (.istore 5, 2) := by decide +kernel
theorem zd_LassoFinderLaw_law_184 : decode code 184 = .ok (.aload_n 2, 1) := by decide +kernel
theorem zd_LassoFinderLaw_law_185 : decode code 185 = .ok (.invokevirtual 59, 3) := by decide +kernel
theorem zd_LassoFinderLaw_law_188 : decode code 188 = .ok (.istore 6, 2) := by decide +kernel
theorem zd_LassoFinderLaw_law_190 : decode code 190 = .ok (.aload_n 2, 1) := by decide +kernel
theorem zd_LassoFinderLaw_law_191 : decode code 191 = .ok (.invokevirtual 60, 3) := by decide +kernel
theorem zd_LassoFinderLaw_law_194 : decode code 194 = .ok (.iload 5, 2) := by decide +kernel
theorem zd_LassoFinderLaw_law_196 : decode code 196 = .ok (.if_icmp .eq 5, 3) := by decide +kernel
theorem zd_LassoFinderLaw_law_201 : decode code 201 = .ok (.iload 5, 2) := by decide +kernel
theorem zd_LassoFinderLaw_law_203 : decode code 203 = .ok (.ifCond .ne 15, 3) := by decide +kernel
theorem zd_LassoFinderLaw_law_218 : decode code 218 = .ok (.goto 486, 3) := by decide +kernel
theorem zd_LassoFinderLaw_law_221 : decode code 221 = .ok (.aload_n 1, 1) := by decide +kernel
theorem zd_LassoFinderLaw_law_222 : decode code 222 = .ok (.aload_n 3, 1) := by decide +kernel
theorem zd_LassoFinderLaw_law_223 : decode code 223 = .ok (.invokestatic 63, 3) := by decide +kernel
theorem zd_LassoFinderLaw_law_226 : decode code 226 = .ok (.istore 5, 2) := by decide +kernel
theorem zd_LassoFinderLaw_law_228 : decode code 228 = .ok (.aload_n 2, 1) := by decide +kernel
theorem zd_LassoFinderLaw_law_229 : decode code 229 = .ok (.invokevirtual 65, 3) := by decide +kernel
theorem zd_LassoFinderLaw_law_232 : decode code 232 = .ok (.istore 6, 2) := by decide +kernel
theorem zd_LassoFinderLaw_law_234 : decode code 234 = .ok (.aload_n 2, 1) := by decide +kernel
theorem zd_LassoFinderLaw_law_235 : decode code 235 = .ok (.invokevirtual 60, 3) := by decide +kernel
theorem zd_LassoFinderLaw_law_238 : decode code 238 = .ok (.iload 5, 2) := by decide +kernel
theorem zd_LassoFinderLaw_law_240 : decode code 240 = .ok (.if_icmp .eq 5, 3) := by decide +kernel
theorem zd_LassoFinderLaw_law_245 : decode code 245 = .ok (.iload 5, 2) := by decide +kernel
theorem zd_LassoFinderLaw_law_247 : decode code 247 = .ok (.ifCond .ne 15, 3) := by decide +kernel
theorem zd_LassoFinderLaw_law_262 : decode code 262 = .ok (.goto 442, 3) := by decide +kernel
theorem zd_LassoFinderLaw_law_265 : decode code 265 = .ok (.aload_n 1, 1) := by decide +kernel
theorem zd_LassoFinderLaw_law_266 : decode code 266 = .ok (.invokevirtual 66, 3) := by decide +kernel
theorem zd_LassoFinderLaw_law_269 : decode code 269 = .ok (.aload_n 2, 1) := by decide +kernel
theorem zd_LassoFinderLaw_law_270 : decode code 270 = .ok (.invokevirtual 69, 3) := by decide +kernel
theorem zd_LassoFinderLaw_law_273 : decode code 273 = .ok (.if_icmp .eq 431, 3) := by decide +kernel
theorem zd_LassoFinderLaw_law_278 : decode code 278 = .ok (.aload_n 1, 1) := by decide +kernel
theorem zd_LassoFinderLaw_law_279 : decode code 279 = .ok (.aload_n 3, 1) := by decide +kernel
theorem zd_LassoFinderLaw_law_280 : decode code 280 = .ok (.invokestatic 70, 3) := by decide +kernel
theorem zd_LassoFinderLaw_law_283 : decode code 283 = .ok (.istore 5, 2) := by decide +kernel
theorem zd_LassoFinderLaw_law_285 : decode code 285 = .ok (.aload_n 2, 1) := by decide +kernel
theorem zd_LassoFinderLaw_law_286 : decode code 286 = .ok (.invokevirtual 72, 3) := by decide +kernel
theorem zd_LassoFinderLaw_law_289 : decode code 289 = .ok (.istore 6, 2) := by decide +kernel
theorem zd_LassoFinderLaw_law_291 : decode code 291 = .ok (.aload_n 2, 1) := by decide +kernel
theorem zd_LassoFinderLaw_law_292 : decode code 292 = .ok (.invokevirtual 60, 3) := by decide +kernel
theorem zd_LassoFinderLaw_law_295 : decode code 295 = .ok (.iload 5, 2) := by decide +kernel
theorem zd_LassoFinderLaw_law_297 : decode code 297 = .ok (.if_icmp .eq 5, 3) := by decide +kernel
theorem zd_LassoFinderLaw_law_302 : decode code 302 = .ok (.iload 5, 2) := by decide +kernel
theorem zd_LassoFinderLaw_law_304 : decode code 304 = .ok (.ifCond .ne 22, 3) := by decide +kernel
theorem zd_LassoFinderLaw_law_326 : decode code 326 = .ok (.goto 378, 3) := by decide +kernel
theorem zd_LassoFinderLaw_law_329 : decode code 329 = .ok (.aload_n 1, 1) := by decide +kernel
theorem zd_LassoFinderLaw_law_330 : decode code 330 = .ok (.invokevirtual 73, 3) := by decide +kernel
theorem zd_LassoFinderLaw_law_333 : decode code 333 = .ok (.aload_n 2, 1) := by decide +kernel
theorem zd_LassoFinderLaw_law_334 : decode code 334 = .ok (.invokevirtual 76, 3) := by decide +kernel
theorem zd_LassoFinderLaw_law_337 : decode code 337 = .ok (.if_icmp .eq 367, 3) := by decide +kernel
theorem zd_LassoFinderLaw_law_342 : decode code 342 = .ok (.aload_n 1, 1) := by decide +kernel
theorem zd_LassoFinderLaw_law_343 : decode code 343 = .ok (.invokevirtual 77, 3) := by decide +kernel
theorem zd_LassoFinderLaw_law_346 : decode code 346 = .ok (.aload_n 2, 1) := by decide +kernel
theorem zd_LassoFinderLaw_law_347 : decode code 347 = .ok (.invokevirtual 80, 3) := by decide +kernel
theorem zd_LassoFinderLaw_law_350 : decode code 350 = .ok (.if_icmp .eq 354, 3) := by decide +kernel
theorem zd_LassoFinderLaw_law_355 : decode code 355 = .ok (.aload_n 1, 1) := by decide +kernel
theorem zd_LassoFinderLaw_law_356 : decode code 356 = .ok (.aload_n 0, 1) := by decide +kernel
theorem zd_LassoFinderLaw_law_357 : decode code 357 = .ok (.iload 4, 2) := by decide +kernel
theorem zd_LassoFinderLaw_law_359 : decode code 359 = .ok (.iconst 1, 1) := by decide +kernel
theorem zd_LassoFinderLaw_law_360 : decode code 360 = .ok (.iadd, 1) := by decide +kernel
theorem zd_LassoFinderLaw_law_361 : decode code 361 = .ok (.iaload, 1) := by decide +kernel
theorem zd_LassoFinderLaw_law_362 : decode code 362 = .ok (.aload_n 0, 1) := by decide +kernel
theorem zd_LassoFinderLaw_law_363 : decode code 363 = .ok (.iload 4, 2) := by decide +kernel
theorem zd_LassoFinderLaw_law_365 : decode code 365 = .ok (.iconst 2, 1) := by decide +kernel
theorem zd_LassoFinderLaw_law_366 : decode code 366 = .ok (.iadd, 1) := by decide +kernel
theorem zd_LassoFinderLaw_law_367 : decode code 367 = .ok (.iaload, 1) := by decide +kernel
theorem zd_LassoFinderLaw_law_368 : decode code 368 = .ok (.aload_n 3, 1) := by decide +kernel
theorem zd_LassoFinderLaw_law_369 : decode code 369 = .ok (.invokestatic 81, 3) := by decide +kernel
theorem zd_LassoFinderLaw_law_372 : decode code 372 = .ok (.istore 5, 2) := by decide +kernel
theorem zd_LassoFinderLaw_law_374 : decode code 374 = .ok (.aload_n 2, 1) := by decide +kernel
theorem zd_LassoFinderLaw_law_375 : decode code 375 = .ok (.aload_n 0, 1) := by decide +kernel
theorem zd_LassoFinderLaw_law_376 : decode code 376 = .ok (.iload 4, 2) := by decide +kernel
theorem zd_LassoFinderLaw_law_378 : decode code 378 = .ok (.iconst 1, 1) := by decide +kernel
theorem zd_LassoFinderLaw_law_379 : decode code 379 = .ok (.iadd, 1) := by decide +kernel
theorem zd_LassoFinderLaw_law_380 : decode code 380 = .ok (.iaload, 1) := by decide +kernel
theorem zd_LassoFinderLaw_law_381 : decode code 381 = .ok (.aload_n 0, 1) := by decide +kernel
theorem zd_LassoFinderLaw_law_382 : decode code 382 = .ok (.iload 4, 2) := by decide +kernel
theorem zd_LassoFinderLaw_law_384 : decode code 384 = .ok (.iconst 2, 1) := by decide +kernel
theorem zd_LassoFinderLaw_law_385 : decode code 385 = .ok (.iadd, 1) := by decide +kernel
theorem zd_LassoFinderLaw_law_386 : decode code 386 = .ok (.iaload, 1) := by decide +kernel
theorem zd_LassoFinderLaw_law_387 : decode code 387 = .ok (.invokevirtual 84, 3) := by decide +kernel
theorem zd_LassoFinderLaw_law_390 : decode code 390 = .ok (.istore 6, 2) := by decide +kernel
theorem zd_LassoFinderLaw_law_392 : decode code 392 = .ok (.aload_n 2, 1) := by decide +kernel
theorem zd_LassoFinderLaw_law_393 : decode code 393 = .ok (.invokevirtual 60, 3) := by decide +kernel
theorem zd_LassoFinderLaw_law_396 : decode code 396 = .ok (.iload 5, 2) := by decide +kernel
theorem zd_LassoFinderLaw_law_398 : decode code 398 = .ok (.if_icmp .eq 5, 3) := by decide +kernel
theorem zd_LassoFinderLaw_law_403 : decode code 403 = .ok (.iload 5, 2) := by decide +kernel
theorem zd_LassoFinderLaw_law_405 : decode code 405 = .ok (.ifCond .ne 15, 3) := by decide +kernel
theorem zd_LassoFinderLaw_law_420 : decode code 420 = .ok (.goto 284, 3) := by decide +kernel
theorem zd_LassoFinderLaw_law_423 : decode code 423 = .ok (.aload_n 1, 1) := by decide +kernel
theorem zd_LassoFinderLaw_law_424 : decode code 424 = .ok (.invokestatic 85, 3) := by decide +kernel
theorem zd_LassoFinderLaw_law_427 : decode code 427 = .ok (.istore 5, 2) := by decide +kernel
theorem zd_LassoFinderLaw_law_429 : decode code 429 = .ok (.aload_n 2, 1) := by decide +kernel
theorem zd_LassoFinderLaw_law_430 : decode code 430 = .ok (.invokevirtual 88, 3) := by decide +kernel
theorem zd_LassoFinderLaw_law_433 : decode code 433 = .ok (.aload_n 2, 1) := by decide +kernel
theorem zd_LassoFinderLaw_law_434 : decode code 434 = .ok (.invokevirtual 60, 3) := by decide +kernel
theorem zd_LassoFinderLaw_law_437 : decode code 437 = .ok (.iload 5, 2) := by decide +kernel
theorem zd_LassoFinderLaw_law_439 : decode code 439 = .ok (.if_icmp .eq 5, 3) := by decide +kernel
theorem zd_LassoFinderLaw_law_444 : decode code 444 = .ok (.goto 260, 3) := by decide +kernel
theorem zd_LassoFinderLaw_law_447 : decode code 447 = .ok (.aload_n 1, 1) := by decide +kernel
theorem zd_LassoFinderLaw_law_448 : decode code 448 = .ok (.invokevirtual 89, 3) := by decide +kernel
theorem zd_LassoFinderLaw_law_451 : decode code 451 = .ok (.aload_n 2, 1) := by decide +kernel
theorem zd_LassoFinderLaw_law_452 : decode code 452 = .ok (.invokevirtual 92, 3) := by decide +kernel
theorem zd_LassoFinderLaw_law_455 : decode code 455 = .ok (.if_icmp .eq 249, 3) := by decide +kernel
theorem zd_LassoFinderLaw_law_460 : decode code 460 = .ok (.aload_n 1, 1) := by decide +kernel
theorem zd_LassoFinderLaw_law_461 : decode code 461 = .ok (.aload_n 0, 1) := by decide +kernel
theorem zd_LassoFinderLaw_law_462 : decode code 462 = .ok (.iload 4, 2) := by decide +kernel
theorem zd_LassoFinderLaw_law_464 : decode code 464 = .ok (.iconst 1, 1) := by decide +kernel
theorem zd_LassoFinderLaw_law_465 : decode code 465 = .ok (.iadd, 1) := by decide +kernel
theorem zd_LassoFinderLaw_law_466 : decode code 466 = .ok (.iaload, 1) := by decide +kernel
theorem zd_LassoFinderLaw_law_467 : decode code 467 = .ok (.aload_n 3, 1) := by decide +kernel
theorem zd_LassoFinderLaw_law_468 : decode code 468 = .ok (.invokestatic 93, 3) := by decide +kernel
theorem zd_LassoFinderLaw_law_471 : decode code 471 = .ok (.istore 5, 2) := by decide +kernel
theorem zd_LassoFinderLaw_law_473 : decode code 473 = .ok (.aload_n 2, 1) := by decide +kernel
theorem zd_LassoFinderLaw_law_474 : decode code 474 = .ok (.aload_n 0, 1) := by decide +kernel
theorem zd_LassoFinderLaw_law_475 : decode code 475 = .ok (.iload 4, 2) := by decide +kernel
theorem zd_LassoFinderLaw_law_477 : decode code 477 = .ok (.iconst 1, 1) := by decide +kernel
theorem zd_LassoFinderLaw_law_478 : decode code 478 = .ok (.iadd, 1) := by decide +kernel
theorem zd_LassoFinderLaw_law_479 : decode code 479 = .ok (.iaload, 1) := by decide +kernel
theorem zd_LassoFinderLaw_law_480 : decode code 480 = .ok (.invokevirtual 96, 3) := by decide +kernel
theorem zd_LassoFinderLaw_law_483 : decode code 483 = .ok (.istore 6, 2) := by decide +kernel
theorem zd_LassoFinderLaw_law_485 : decode code 485 = .ok (.aload_n 2, 1) := by decide +kernel
theorem zd_LassoFinderLaw_law_486 : decode code 486 = .ok (.invokevirtual 60, 3) := by decide +kernel
theorem zd_LassoFinderLaw_law_489 : decode code 489 = .ok (.iload 5, 2) := by decide +kernel
theorem zd_LassoFinderLaw_law_491 : decode code 491 = .ok (.if_icmp .eq 5, 3) := by decide +kernel
theorem zd_LassoFinderLaw_law_496 : decode code 496 = .ok (.iload 5, 2) := by decide +kernel
theorem zd_LassoFinderLaw_law_498 : decode code 498 = .ok (.ifCond .ne 15, 3) := by decide +kernel
theorem zd_LassoFinderLaw_law_513 : decode code 513 = .ok (.goto 191, 3) := by decide +kernel
theorem zd_LassoFinderLaw_law_516 : decode code 516 = .ok (.aload_n 1, 1) := by decide +kernel
theorem zd_LassoFinderLaw_law_517 : decode code 517 = .ok (.aload_n 0, 1) := by decide +kernel
theorem zd_LassoFinderLaw_law_518 : decode code 518 = .ok (.iload 4, 2) := by decide +kernel
theorem zd_LassoFinderLaw_law_520 : decode code 520 = .ok (.iconst 1, 1) := by decide +kernel
theorem zd_LassoFinderLaw_law_521 : decode code 521 = .ok (.iadd, 1) := by decide +kernel
theorem zd_LassoFinderLaw_law_522 : decode code 522 = .ok (.iaload, 1) := by decide +kernel
theorem zd_LassoFinderLaw_law_523 : decode code 523 = .ok (.invokevirtual 97, 3) := by decide +kernel
theorem zd_LassoFinderLaw_law_526 : decode code 526 = .ok (.aload_n 2, 1) := by decide +kernel
theorem zd_LassoFinderLaw_law_527 : decode code 527 = .ok (.aload_n 0, 1) := by decide +kernel
theorem zd_LassoFinderLaw_law_528 : decode code 528 = .ok (.iload 4, 2) := by decide +kernel
theorem zd_LassoFinderLaw_law_530 : decode code 530 = .ok (.iconst 1, 1) := by decide +kernel
theorem zd_LassoFinderLaw_law_531 : decode code 531 = .ok (.iadd, 1) := by decide +kernel
theorem zd_LassoFinderLaw_law_532 : decode code 532 = .ok (.iaload, 1) := by decide +kernel
theorem zd_LassoFinderLaw_law_533 : decode code 533 = .ok (.invokevirtual 100, 3) := by decide +kernel
theorem zd_LassoFinderLaw_law_536 : decode code 536 = .ok (.if_icmp .eq 168, 3) := by decide +kernel
theorem zd_LassoFinderLaw_law_541 : decode code 541 = .ok (.aload_n 1, 1) := by decide +kernel
theorem zd_LassoFinderLaw_law_542 : decode code 542 = .ok (.aload_n 0, 1) := by decide +kernel
theorem zd_LassoFinderLaw_law_543 : decode code 543 = .ok (.iload 4, 2) := by decide +kernel
theorem zd_LassoFinderLaw_law_545 : decode code 545 = .ok (.iconst 1, 1) := by decide +kernel
theorem zd_LassoFinderLaw_law_546 : decode code 546 = .ok (.iadd, 1) := by decide +kernel
theorem zd_LassoFinderLaw_law_547 : decode code 547 = .ok (.iaload, 1) := by decide +kernel
theorem zd_LassoFinderLaw_law_548 : decode code 548 = .ok (.aload_n 0, 1) := by decide +kernel
theorem zd_LassoFinderLaw_law_549 : decode code 549 = .ok (.iload 4, 2) := by decide +kernel
theorem zd_LassoFinderLaw_law_551 : decode code 551 = .ok (.iconst 2, 1) := by decide +kernel
theorem zd_LassoFinderLaw_law_552 : decode code 552 = .ok (.iadd, 1) := by decide +kernel
theorem zd_LassoFinderLaw_law_553 : decode code 553 = .ok (.iaload, 1) := by decide +kernel
theorem zd_LassoFinderLaw_law_554 : decode code 554 = .ok (.invokevirtual 101, 3) := by decide +kernel
theorem zd_LassoFinderLaw_law_557 : decode code 557 = .ok (.aload_n 2, 1) := by decide +kernel
theorem zd_LassoFinderLaw_law_558 : decode code 558 = .ok (.aload_n 0, 1) := by decide +kernel
theorem zd_LassoFinderLaw_law_559 : decode code 559 = .ok (.iload 4, 2) := by decide +kernel
theorem zd_LassoFinderLaw_law_561 : decode code 561 = .ok (.iconst 1, 1) := by decide +kernel
theorem zd_LassoFinderLaw_law_562 : decode code 562 = .ok (.iadd, 1) := by decide +kernel
theorem zd_LassoFinderLaw_law_563 : decode code 563 = .ok (.iaload, 1) := by decide +kernel
theorem zd_LassoFinderLaw_law_564 : decode code 564 = .ok (.aload_n 0, 1) := by decide +kernel
theorem zd_LassoFinderLaw_law_565 : decode code 565 = .ok (.iload 4, 2) := by decide +kernel
theorem zd_LassoFinderLaw_law_567 : decode code 567 = .ok (.iconst 2, 1) := by decide +kernel
theorem zd_LassoFinderLaw_law_568 : decode code 568 = .ok (.iadd, 1) := by decide +kernel
theorem zd_LassoFinderLaw_law_569 : decode code 569 = .ok (.iaload, 1) := by decide +kernel
theorem zd_LassoFinderLaw_law_570 : decode code 570 = .ok (.invokevirtual 104, 3) := by decide +kernel
theorem zd_LassoFinderLaw_law_573 : decode code 573 = .ok (.if_icmp .eq 131, 3) := by decide +kernel
theorem zd_LassoFinderLaw_law_578 : decode code 578 = .ok (.aload_n 1, 1) := by decide +kernel
theorem zd_LassoFinderLaw_law_579 : decode code 579 = .ok (.aload_n 0, 1) := by decide +kernel
theorem zd_LassoFinderLaw_law_580 : decode code 580 = .ok (.iload 4, 2) := by decide +kernel
theorem zd_LassoFinderLaw_law_582 : decode code 582 = .ok (.iconst 1, 1) := by decide +kernel
theorem zd_LassoFinderLaw_law_583 : decode code 583 = .ok (.iadd, 1) := by decide +kernel
theorem zd_LassoFinderLaw_law_584 : decode code 584 = .ok (.iaload, 1) := by decide +kernel
theorem zd_LassoFinderLaw_law_585 : decode code 585 = .ok (.invokevirtual 105, 3) := by decide +kernel
theorem zd_LassoFinderLaw_law_588 : decode code 588 = .ok (.aload_n 2, 1) := by decide +kernel
theorem zd_LassoFinderLaw_law_589 : decode code 589 = .ok (.aload_n 0, 1) := by decide +kernel
theorem zd_LassoFinderLaw_law_590 : decode code 590 = .ok (.iload 4, 2) := by decide +kernel
theorem zd_LassoFinderLaw_law_592 : decode code 592 = .ok (.iconst 1, 1) := by decide +kernel
theorem zd_LassoFinderLaw_law_593 : decode code 593 = .ok (.iadd, 1) := by decide +kernel
theorem zd_LassoFinderLaw_law_594 : decode code 594 = .ok (.iaload, 1) := by decide +kernel
theorem zd_LassoFinderLaw_law_595 : decode code 595 = .ok (.invokevirtual 108, 3) := by decide +kernel
theorem zd_LassoFinderLaw_law_598 : decode code 598 = .ok (.if_icmp .eq 106, 3) := by decide +kernel
theorem zd_LassoFinderLaw_law_603 : decode code 603 = .ok (.aload_n 1, 1) := by decide +kernel
theorem zd_LassoFinderLaw_law_604 : decode code 604 = .ok (.invokevirtual 109, 3) := by decide +kernel
theorem zd_LassoFinderLaw_law_607 : decode code 607 = .ok (.aload_n 2, 1) := by decide +kernel
theorem zd_LassoFinderLaw_law_608 : decode code 608 = .ok (.invokevirtual 112, 3) := by decide +kernel
theorem zd_LassoFinderLaw_law_611 : decode code 611 = .ok (.if_icmp .eq 93, 3) := by decide +kernel
theorem zd_LassoFinderLaw_law_616 : decode code 616 = .ok (.aload_n 1, 1) := by decide +kernel
theorem zd_LassoFinderLaw_law_617 : decode code 617 = .ok (.aload_n 0, 1) := by decide +kernel
theorem zd_LassoFinderLaw_law_618 : decode code 618 = .ok (.iload 4, 2) := by decide +kernel
theorem zd_LassoFinderLaw_law_620 : decode code 620 = .ok (.iconst 1, 1) := by decide +kernel
theorem zd_LassoFinderLaw_law_621 : decode code 621 = .ok (.iadd, 1) := by decide +kernel
theorem zd_LassoFinderLaw_law_622 : decode code 622 = .ok (.iaload, 1) := by decide +kernel
theorem zd_LassoFinderLaw_law_623 : decode code 623 = .ok (.aload_n 3, 1) := by decide +kernel
theorem zd_LassoFinderLaw_law_624 : decode code 624 = .ok (.invokestatic 113, 3) := by decide +kernel
theorem zd_LassoFinderLaw_law_627 : decode code 627 = .ok (.istore 5, 2) := by decide +kernel
theorem zd_LassoFinderLaw_law_629 : decode code 629 = .ok (.aload_n 2, 1) := by decide +kernel
theorem zd_LassoFinderLaw_law_630 : decode code 630 = .ok (.aload_n 0, 1) := by decide +kernel
theorem zd_LassoFinderLaw_law_631 : decode code 631 = .ok (.iload 4, 2) := by decide +kernel
theorem zd_LassoFinderLaw_law_633 : decode code 633 = .ok (.iconst 1, 1) := by decide +kernel
theorem zd_LassoFinderLaw_law_634 : decode code 634 = .ok (.iadd, 1) := by decide +kernel
theorem zd_LassoFinderLaw_law_635 : decode code 635 = .ok (.iaload, 1) := by decide +kernel
theorem zd_LassoFinderLaw_law_636 : decode code 636 = .ok (.invokevirtual 115, 3) := by decide +kernel
theorem zd_LassoFinderLaw_law_639 : decode code 639 = .ok (.istore 6, 2) := by decide +kernel
theorem zd_LassoFinderLaw_law_641 : decode code 641 = .ok (.aload_n 2, 1) := by decide +kernel
theorem zd_LassoFinderLaw_law_642 : decode code 642 = .ok (.invokevirtual 60, 3) := by decide +kernel
theorem zd_LassoFinderLaw_law_645 : decode code 645 = .ok (.iload 5, 2) := by decide +kernel
theorem zd_LassoFinderLaw_law_647 : decode code 647 = .ok (.if_icmp .eq 5, 3) := by decide +kernel
theorem zd_LassoFinderLaw_law_652 : decode code 652 = .ok (.iload 5, 2) := by decide +kernel
theorem zd_LassoFinderLaw_law_654 : decode code 654 = .ok (.ifCond .ne 22, 3) := by decide +kernel
theorem zd_LassoFinderLaw_law_676 : decode code 676 = .ok (.goto 28, 3) := by decide +kernel
theorem zd_LassoFinderLaw_law_679 : decode code 679 = .ok (.aload_n 1, 1) := by decide +kernel
theorem zd_LassoFinderLaw_law_680 : decode code 680 = .ok (.aload_n 0, 1) := by decide +kernel
theorem zd_LassoFinderLaw_law_681 : decode code 681 = .ok (.iload 4, 2) := by decide +kernel
theorem zd_LassoFinderLaw_law_683 : decode code 683 = .ok (.iconst 1, 1) := by decide +kernel
theorem zd_LassoFinderLaw_law_684 : decode code 684 = .ok (.iadd, 1) := by decide +kernel
theorem zd_LassoFinderLaw_law_685 : decode code 685 = .ok (.iaload, 1) := by decide +kernel
theorem zd_LassoFinderLaw_law_686 : decode code 686 = .ok (.invokevirtual 116, 3) := by decide +kernel
theorem zd_LassoFinderLaw_law_689 : decode code 689 = .ok (.aload_n 2, 1) := by decide +kernel
theorem zd_LassoFinderLaw_law_690 : decode code 690 = .ok (.aload_n 0, 1) := by decide +kernel
theorem zd_LassoFinderLaw_law_691 : decode code 691 = .ok (.iload 4, 2) := by decide +kernel
theorem zd_LassoFinderLaw_law_693 : decode code 693 = .ok (.iconst 1, 1) := by decide +kernel
theorem zd_LassoFinderLaw_law_694 : decode code 694 = .ok (.iadd, 1) := by decide +kernel
theorem zd_LassoFinderLaw_law_695 : decode code 695 = .ok (.iaload, 1) := by decide +kernel
theorem zd_LassoFinderLaw_law_696 : decode code 696 = .ok (.invokevirtual 119, 3) := by decide +kernel
theorem zd_LassoFinderLaw_law_699 : decode code 699 = .ok (.if_icmp .eq 5, 3) := by decide +kernel
theorem zd_LassoFinderLaw_law_704 : decode code 704 = .ok (.iinc 4 3, 3) := by decide +kernel
theorem zd_LassoFinderLaw_law_707 : decode code 707 = .ok (.goto (-684), 3) := by decide +kernel
theorem zd_LassoFinderLaw_law_710 : decode code 710 = .ok (.iconst 1, 1) := by decide +kernel
theorem zd_LassoFinderLaw_law_711 : decode code 711 = .ok (.ireturn, 1) := by decide +kernel
theorem zArr_of {args : Array Value} {s : State} {ty : FieldType} (h : (Cond.arrayClass ty).before args s = true) : ∃ cA : ClassId, ArrOfT s cA ty ∧ s.vm.findClass ("[" ++ ty.toString) = some cA := by
  obtain ⟨cA, kA, comp, h1, h2, h3⟩ := Cond.arrayClass_spec h
  exact ⟨cA, fun n z => ⟨fun k h => (by cases h), kA, h2, comp, h3⟩, h1⟩
theorem zK_start {args : Array Value} {s : State} (hts : ∀ w ∈ zTB, w.before args s = true) : ∃ (G : va_G) (K : Nat → ClassId), va_K G vwCl (zK K) s := by
  obtain ⟨kI, aI, fI⟩ := zArr_of (hts _ zm_238)
  obtain ⟨kJ, aJ, fJ⟩ := zArr_of (hts _ zm_239)
  obtain ⟨kZ, aZ, fZ⟩ := zArr_of (hts _ zm_240)
  obtain ⟨kC, aC, fC⟩ := zArr_of (hts _ zm_241)
  obtain ⟨c0, i0, u0⟩ := u_known hts zi0 (hts _ zm_0)
  obtain ⟨c1, i1, u1⟩ := u_known hts zi1 (hts _ zm_2)
  obtain ⟨c2, i2, u2⟩ := u_known hts zi2 (hts _ zm_4)
  obtain ⟨c3, i3, u3⟩ := u_known hts zi3 (hts _ zm_6)
  obtain ⟨c4, i4, u4⟩ := u_known hts zi4 (hts _ zm_8)
  obtain ⟨c5, i5, u5⟩ := u_known hts zi5 (hts _ zm_10)
  obtain ⟨c6, i6, u6⟩ := u_known hts zi6 (hts _ zm_12)
  obtain ⟨c7, i7, u7⟩ := u_known hts zi7 (hts _ zm_14)
  obtain ⟨c8, i8, u8⟩ := u_known hts zi8 (hts _ zm_16)
  obtain ⟨c9, i9, u9⟩ := u_known hts zi9 (hts _ zm_18)
  obtain ⟨c10, i10, u10⟩ := u_known hts zi10 (hts _ zm_20)
  obtain ⟨c11, i11, u11⟩ := u_known hts zi11 (hts _ zm_22)
  obtain ⟨c12, i12, u12⟩ := u_known hts zi12 (hts _ zm_24)
  refine ⟨(fun i => ([c0, c1, c2, c3, c4, c5, c6, c7, c8, c9, c10, c11, c12] : List ClassId).getD i c0, fun i => ([i0, i1, i2, i3, i4, i5, i6, i7, i8, i9, i10, i11, i12] : List (Nat → Nat)).getD i i0), fun i => ([kI, kJ, kZ, kC] : List ClassId).getD i kI, ?_, ?_⟩
  · intro c q hq
    have hc : c < 13 := (List.getElem?_eq_some_iff.mp hq).1
    have hc9 : c = 0 ∨ c = 1 ∨ c = 2 ∨ c = 3 ∨ c = 4 ∨ c = 5 ∨ c = 6 ∨ c = 7 ∨ c = 8 ∨ c = 9 ∨ c = 10 ∨ c = 11 ∨ c = 12 := by omega
    rcases hc9 with rfl | rfl | rfl | rfl | rfl | rfl | rfl | rfl | rfl | rfl | rfl | rfl | rfl
    · cases hq; exact u0
    · cases hq; exact u1
    · cases hq; exact u2
    · cases hq; exact u3
    · cases hq; exact u4
    · cases hq; exact u5
    · cases hq; exact u6
    · cases hq; exact u7
    · cases hq; exact u8
    · cases hq; exact u9
    · cases hq; exact u10
    · cases hq; exact u11
    · cases hq; exact u12
  · intro k q hk
    have hc : k < 4 := (List.getElem?_eq_some_iff.mp hk).1
    have hc9 : k = 0 ∨ k = 1 ∨ k = 2 ∨ k = 3 := by omega
    rcases hc9 with rfl | rfl | rfl | rfl
    · cases hk; exact ⟨aI, fI⟩
    · cases hk; exact ⟨aJ, fJ⟩
    · cases hk; exact ⟨aZ, fZ⟩
    · cases hk; exact ⟨aC, fC⟩
theorem zTh_start {b : Nat} {s : State} {A : Nat → Prop} (hts0 : ∀ w ∈ lw_tbl, w.before #[Value.ref b] s = true) (hgv : (Jvm.Cond.and given_1 narrow_1).before #[Value.ref b] s = true) (hA : ∀ a : Nat, a < s.heap.size → ¬ A a) : zTh A s s.heap := by
  have hs := flat_of_before _ hgv
  exact ⟨zSt_of (hts0 _ (zt_3 _ (List.mem_of_getElem? (i := 174) rfl))) (hs _ (by decide +kernel)) hA, zSt_of (hts0 _ (zt_3 _ (List.mem_of_getElem? (i := 176) rfl))) (hs _ (by decide +kernel)) hA, zDC_moved (Vm.Alike.refl s.vm) (a := #[Value.ref b]) (fun w h => hts0 w (List.mem_filter.mp h).1)⟩
