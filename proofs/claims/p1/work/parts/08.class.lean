abbrev zy_LassoFinder_place : MethodName := ⟨"LassoFinder", "place", "()I"⟩
abbrev zy_LassoFinder_stem : MethodName := ⟨"LassoFinder", "stem", "()I"⟩
abbrev zy_LassoFinder_hasLasso : MethodName := ⟨"LassoFinder", "hasLasso", "()Z"⟩
abbrev zy_LassoFinder_cycle : MethodName := ⟨"LassoFinder", "cycle", "()I"⟩
abbrev zy_LassoFinder_steps : MethodName := ⟨"LassoFinder", "steps", "()I"⟩
abbrev zy_LassoFinder_value : MethodName := ⟨"LassoFinder", "value", "(I)I"⟩
abbrev zy_LassoFinder_standsOnWalk : MethodName := ⟨"LassoFinder", "standsOnWalk", "()Z"⟩
abbrev zy_LassoFinder_message : MethodName := ⟨"LassoFinder", "message", "(II)I"⟩
abbrev zy_LassoFinder_point : MethodName := ⟨"LassoFinder", "point", "(I)I"⟩
abbrev zy_LassoFinder_holder : MethodName := ⟨"LassoFinder", "holder", "()I"⟩
abbrev zy_LassoFinder_count : MethodName := ⟨"LassoFinder", "count", "(I)I"⟩
abbrev zy_LassoFinder_model : MethodName := ⟨"LassoFinder", "model", "()I"⟩
abbrev zy_LassoFinder_dropFormula : MethodName := ⟨"LassoFinder", "dropFormula", "()V"⟩
abbrev zy_Text_open : MethodName := ⟨"LassoFinder$Text", "open", "()V"⟩
abbrev zy_ModelReader_readAll : MethodName := ⟨"LassoFinder$ModelReader", "readAll", "()V"⟩
abbrev zy_Names_clear : MethodName := ⟨"LassoFinder$Names", "clear", "()V"⟩
abbrev zy_Arrays_fill : MethodName := ⟨"java/util/Arrays", "fill", "([II)V"⟩
abbrev zy_Terms_clear : MethodName := ⟨"LassoFinder$Terms", "clear", "()V"⟩
abbrev zy_Program_clear : MethodName := ⟨"LassoFinder$Program", "clear", "()V"⟩
abbrev zy_Arrays_fill_2 : MethodName := ⟨"java/util/Arrays", "fill", "([JJ)V"⟩
abbrev zy_Text_ahead : MethodName := ⟨"LassoFinder$Text", "ahead", "()C"⟩
abbrev zy_ModelReader_readDeclaration : MethodName := ⟨"LassoFinder$ModelReader", "readDeclaration", "()V"⟩
abbrev zy_Text_accept : MethodName := ⟨"LassoFinder$Text", "accept", "(C)Z"⟩
abbrev zy_Text_oneOf : MethodName := ⟨"LassoFinder$Text", "oneOf", "(C)I"⟩
abbrev zy_Text_refuse : MethodName := ⟨"LassoFinder$Text", "refuse", "()V"⟩
abbrev zy_LassoFinder_formula : MethodName := ⟨"LassoFinder", "formula", "()I"⟩
abbrev zy_LassoFinder_verify : MethodName := ⟨"LassoFinder", "verify", "()Z"⟩
abbrev zy_LassoFinder_lasso : MethodName := ⟨"LassoFinder", "lasso", "(II)I"⟩
abbrev zy_LassoFinder_walk : MethodName := ⟨"LassoFinder", "walk", "()V"⟩
abbrev zy_LassoFinder_go : MethodName := ⟨"LassoFinder", "go", "(I)I"⟩
abbrev zy_LassoFinder_truth : MethodName := ⟨"LassoFinder", "truth", "(I)Z"⟩
theorem zm_433 : Cond.methodLink "LassoFinder$Names" 22 ⟨"java/util/Arrays", "fill", "([II)V"⟩ ∈ zTB := z_in (zt_3 _ (List.mem_of_getElem? (i := 107) rfl)) rfl
theorem zm_434 : Cond.fieldLink "LassoFinder$Names" 28 "LassoFinder$Names" "variables" "I" ∈ zTB := z_in (zt_1 _ (List.mem_of_getElem? (i := 72) rfl)) rfl
theorem zm_435 : Cond.fieldLink "LassoFinder$Names" 32 "LassoFinder$Names" "channels" "I" ∈ zTB := z_in (zt_1 _ (List.mem_of_getElem? (i := 74) rfl)) rfl
theorem zm_436 : Cond.fieldLink "LassoFinder$Terms" 31 "LassoFinder$Terms" "length" "I" ∈ zTB := z_in (zt_1 _ (List.mem_of_getElem? (i := 168) rfl)) rfl
theorem zm_437 : Cond.methodLink "LassoFinder$Program" 49 ⟨"java/util/Arrays", "fill", "([JJ)V"⟩ ∈ zTB := z_in (zt_3 _ (List.mem_of_getElem? (i := 118) rfl)) rfl
theorem zm_438 : Cond.methodLink "LassoFinder$Program" 55 ⟨"java/util/Arrays", "fill", "([II)V"⟩ ∈ zTB := z_in (zt_3 _ (List.mem_of_getElem? (i := 121) rfl)) rfl
theorem zm_439 : Cond.fieldLink "LassoFinder$Program" 58 "LassoFinder$Program" "elses" "J" ∈ zTB := z_in (zt_1 _ (List.mem_of_getElem? (i := 117) rfl)) rfl
theorem zm_440 : Cond.fieldLink "LassoFinder$Program" 62 "LassoFinder$Program" "basics" "I" ∈ zTB := z_in (zt_1 _ (List.mem_of_getElem? (i := 119) rfl)) rfl
theorem zm_441 : Cond.fieldLink "LassoFinder$Program" 66 "LassoFinder$Program" "processes" "I" ∈ zTB := z_in (zt_1 _ (List.mem_of_getElem? (i := 123) rfl)) rfl
theorem zm_442 : Cond.fieldLink "LassoFinder$Text" 19 "LassoFinder$Text" "written" "I" ∈ zTB := z_in (zt_1 _ (List.mem_of_getElem? (i := 39) rfl)) rfl
theorem zm_443 : Cond.fieldLink "LassoFinder$Text" 22 "LassoFinder$Text" "end" "I" ∈ zTB := z_in (zt_1 _ (List.mem_of_getElem? (i := 40) rfl)) rfl
theorem zm_444 : Cond.fieldLink "LassoFinder$Text" 25 "LassoFinder$Text" "at" "I" ∈ zTB := z_in (zt_1 _ (List.mem_of_getElem? (i := 41) rfl)) rfl
theorem zm_445 : Cond.methodLink "LassoFinder$Text" 28 ⟨"LassoFinder$Text", "ahead", "()C"⟩ ∈ zTB := z_in (zt_3 _ (List.mem_of_getElem? (i := 134) rfl)) rfl
theorem zm_446 : Cond.classLink "LassoFinder$Text" 39 "java/lang/IllegalArgumentException" ∈ zTB := z_in (zt_3 _ (List.mem_of_getElem? (i := 147) rfl)) rfl
theorem zm_447 : Cond.initialized "java/lang/IllegalArgumentException" ∈ zTB := z_in (zt_1 _ (List.mem_of_getElem? (i := 17) rfl)) rfl
theorem zm_448 : Cond.instantiable "java/lang/IllegalArgumentException" 6 ∈ zTB := z_in (zt_3 _ (List.mem_of_getElem? (i := 148) rfl)) rfl
theorem zm_449 : Cond.methodLink "LassoFinder$ModelReader" 76 ⟨"LassoFinder$Text", "accept", "(C)Z"⟩ ∈ zTB := z_in (zt_3 _ (List.mem_of_getElem? (i := 130) rfl)) rfl
theorem zm_450 : Cond.methodLink "LassoFinder$ModelReader" 80 ⟨"LassoFinder$Text", "oneOf", "(C)I"⟩ ∈ zTB := z_in (zt_3 _ (List.mem_of_getElem? (i := 135) rfl)) rfl
theorem zm_451 : Cond.methodLink "LassoFinder$ModelReader" 62 ⟨"LassoFinder$Text", "refuse", "()V"⟩ ∈ zTB := z_in (zt_3 _ (List.mem_of_getElem? (i := 143) rfl)) rfl
theorem zm_452 : Cond.methodLink "LassoFinder$ModelReader" 34 ⟨"LassoFinder$Names", "clear", "()V"⟩ ∈ zTB := z_in (zt_3 _ (List.mem_of_getElem? (i := 103) rfl)) rfl
theorem zm_453 : Cond.methodLink "LassoFinder$ModelReader" 39 ⟨"LassoFinder$Terms", "clear", "()V"⟩ ∈ zTB := z_in (zt_3 _ (List.mem_of_getElem? (i := 110) rfl)) rfl
theorem zm_454 : Cond.methodLink "LassoFinder$ModelReader" 42 ⟨"LassoFinder$Program", "clear", "()V"⟩ ∈ zTB := z_in (zt_3 _ (List.mem_of_getElem? (i := 114) rfl)) rfl
theorem zm_455 : Cond.methodLink "LassoFinder$ModelReader" 47 ⟨"LassoFinder$Text", "ahead", "()C"⟩ ∈ zTB := z_in (zt_3 _ (List.mem_of_getElem? (i := 122) rfl)) rfl
theorem zm_456 : Cond.methodLink "LassoFinder$ModelReader" 51 ⟨"LassoFinder$ModelReader", "readDeclaration", "()V"⟩ ∈ zTB := z_in (zt_3 _ (List.mem_of_getElem? (i := 126) rfl)) rfl
theorem zm_457 : Cond.fieldLink "LassoFinder" 122 "LassoFinder" "hasFormula" "Z" ∈ zTB := z_in (zt_2 _ (List.mem_of_getElem? (i := 230) rfl)) rfl
theorem zm_458 : Cond.fieldLink "LassoFinder" 131 "LassoFinder" "search" "LLassoFinder$LassoSearch;" ∈ zTB := z_in (zt_2 _ (List.mem_of_getElem? (i := 226) rfl)) rfl
theorem zm_459 : Cond.fieldLink "LassoFinder" 92 "LassoFinder" "hasModel" "Z" ∈ zTB := z_in (zt_2 _ (List.mem_of_getElem? (i := 229) rfl)) rfl
theorem zm_460 : Cond.methodLink "LassoFinder" 96 ⟨"LassoFinder", "dropFormula", "()V"⟩ ∈ zTB := z_in (zt_3 _ (List.mem_of_getElem? (i := 91) rfl)) rfl
theorem zm_461 : Cond.methodLink "LassoFinder" 99 ⟨"LassoFinder$Text", "open", "()V"⟩ ∈ zTB := z_in (zt_3 _ (List.mem_of_getElem? (i := 95) rfl)) rfl
theorem zm_462 : Cond.methodLink "LassoFinder" 102 ⟨"LassoFinder$ModelReader", "readAll", "()V"⟩ ∈ zTB := z_in (zt_3 _ (List.mem_of_getElem? (i := 99) rfl)) rfl
theorem zm_463 : Cond.classLink "LassoFinder" 115 "java/lang/IllegalStateException" ∈ zTB := z_in (zt_5 _ (List.mem_of_getElem? (i := 8) rfl)) rfl
theorem zm_464 : Cond.initialized "java/lang/IllegalStateException" ∈ zTB := z_in (zt_1 _ (List.mem_of_getElem? (i := 20) rfl)) rfl
theorem zm_465 : Cond.instantiable "java/lang/IllegalStateException" 6 ∈ zTB := z_in (zt_5 _ (List.mem_of_getElem? (i := 9) rfl)) rfl
theorem zm_466 : Cond.fieldLink "LassoFinder" 128 "LassoFinder$Text" "wrongAt" "I" ∈ zTB := z_in (zt_1 _ (List.mem_of_getElem? (i := 43) rfl)) rfl
theorem zm_467 : Cond.methodLink "LassoFinder" 143 ⟨"LassoFinder", "hasLasso", "()Z"⟩ ∈ zTB := z_in (zt_3 _ (List.mem_of_getElem? (i := 34) rfl)) rfl
theorem zm_468 : Cond.classLink "LassoFinder" 152 "java/lang/IndexOutOfBoundsException" ∈ zTB := z_in (zt_6 _ (List.mem_of_getElem? (i := 38) rfl)) rfl
theorem zm_469 : Cond.initialized "java/lang/IndexOutOfBoundsException" ∈ zTB := z_in (zt_1 _ (List.mem_of_getElem? (i := 23) rfl)) rfl
theorem zm_470 : Cond.instantiable "java/lang/IndexOutOfBoundsException" 6 ∈ zTB := z_in (zt_6 _ (List.mem_of_getElem? (i := 39) rfl)) rfl
theorem zm_471 : Cond.methodLink "LassoFinder" 177 ⟨"LassoFinder", "standsOnWalk", "()Z"⟩ ∈ zTB := z_in (zt_3 _ (List.mem_of_getElem? (i := 54) rfl)) rfl
theorem zm_472 : Cond.code ⟨"java/util/Arrays", "fill", "([II)V"⟩ prog_24_method_103_code 4 none ∈ zTB := z_in (zt_3 _ (List.mem_of_getElem? (i := 109) rfl)) rfl
theorem zm_473 : Cond.initialized "java/util/Arrays" ∈ zTB := z_in (zt_1 _ (List.mem_of_getElem? (i := 13) rfl)) rfl
theorem zm_474 : Cond.static ⟨"java/util/Arrays", "fill", "([II)V"⟩ ∈ zTB := z_in (zt_3 _ (List.mem_of_getElem? (i := 108) rfl)) rfl
theorem zm_475 : Cond.code ⟨"java/util/Arrays", "fill", "([JJ)V"⟩ prog_24_method_101_code 5 none ∈ zTB := z_in (zt_3 _ (List.mem_of_getElem? (i := 120) rfl)) rfl
theorem zm_476 : Cond.static ⟨"java/util/Arrays", "fill", "([JJ)V"⟩ ∈ zTB := z_in (zt_3 _ (List.mem_of_getElem? (i := 119) rfl)) rfl
theorem zm_477 : Cond.code ⟨"LassoFinder$Text", "ahead", "()C"⟩ prog_10_method_5_code 1 (some .char) ∈ zTB := z_in (zt_3 _ (List.mem_of_getElem? (i := 125) rfl)) rfl
theorem zm_478 : Cond.selects "LassoFinder$Text" ⟨"LassoFinder$Text", "ahead", "()C"⟩ ⟨"LassoFinder$Text", "ahead", "()C"⟩ ∈ zTB := z_in (zt_3 _ (List.mem_of_getElem? (i := 124) rfl)) rfl
theorem zm_479 : Cond.instanceMethod ⟨"LassoFinder$Text", "ahead", "()C"⟩ ∈ zTB := z_in (zt_3 _ (List.mem_of_getElem? (i := 123) rfl)) rfl
theorem zm_480 : Cond.code ⟨"LassoFinder$Text", "accept", "(C)Z"⟩ prog_10_method_8_code 2 (some .boolean) ∈ zTB := z_in (zt_3 _ (List.mem_of_getElem? (i := 133) rfl)) rfl
theorem zm_481 : Cond.selects "LassoFinder$Text" ⟨"LassoFinder$Text", "accept", "(C)Z"⟩ ⟨"LassoFinder$Text", "accept", "(C)Z"⟩ ∈ zTB := z_in (zt_3 _ (List.mem_of_getElem? (i := 132) rfl)) rfl
theorem zm_482 : Cond.instanceMethod ⟨"LassoFinder$Text", "accept", "(C)Z"⟩ ∈ zTB := z_in (zt_3 _ (List.mem_of_getElem? (i := 131) rfl)) rfl
theorem zm_483 : Cond.code ⟨"LassoFinder$Text", "oneOf", "(C)I"⟩ prog_10_method_6_code 3 (some .int) ∈ zTB := z_in (zt_3 _ (List.mem_of_getElem? (i := 138) rfl)) rfl
theorem zm_484 : Cond.selects "LassoFinder$Text" ⟨"LassoFinder$Text", "oneOf", "(C)I"⟩ ⟨"LassoFinder$Text", "oneOf", "(C)I"⟩ ∈ zTB := z_in (zt_3 _ (List.mem_of_getElem? (i := 137) rfl)) rfl
theorem zm_485 : Cond.instanceMethod ⟨"LassoFinder$Text", "oneOf", "(C)I"⟩ ∈ zTB := z_in (zt_3 _ (List.mem_of_getElem? (i := 136) rfl)) rfl
theorem zm_486 : Cond.code ⟨"LassoFinder$Text", "refuse", "()V"⟩ prog_10_method_11_code 1 none ∈ zTB := z_in (zt_3 _ (List.mem_of_getElem? (i := 146) rfl)) rfl
theorem zm_487 : Cond.selects "LassoFinder$Text" ⟨"LassoFinder$Text", "refuse", "()V"⟩ ⟨"LassoFinder$Text", "refuse", "()V"⟩ ∈ zTB := z_in (zt_3 _ (List.mem_of_getElem? (i := 145) rfl)) rfl
theorem zm_488 : Cond.instanceMethod ⟨"LassoFinder$Text", "refuse", "()V"⟩ ∈ zTB := z_in (zt_3 _ (List.mem_of_getElem? (i := 144) rfl)) rfl
theorem zm_489 : Cond.code ⟨"LassoFinder$Names", "clear", "()V"⟩ prog_6_method_2_code 1 none ∈ zTB := z_in (zt_3 _ (List.mem_of_getElem? (i := 106) rfl)) rfl
theorem zm_490 : Cond.selects "LassoFinder$Names" ⟨"LassoFinder$Names", "clear", "()V"⟩ ⟨"LassoFinder$Names", "clear", "()V"⟩ ∈ zTB := z_in (zt_3 _ (List.mem_of_getElem? (i := 105) rfl)) rfl
theorem zm_491 : Cond.instanceMethod ⟨"LassoFinder$Names", "clear", "()V"⟩ ∈ zTB := z_in (zt_3 _ (List.mem_of_getElem? (i := 104) rfl)) rfl
theorem zm_492 : Cond.code ⟨"LassoFinder$Terms", "clear", "()V"⟩ prog_9_method_2_code 1 none ∈ zTB := z_in (zt_3 _ (List.mem_of_getElem? (i := 113) rfl)) rfl
theorem zm_493 : Cond.selects "LassoFinder$Terms" ⟨"LassoFinder$Terms", "clear", "()V"⟩ ⟨"LassoFinder$Terms", "clear", "()V"⟩ ∈ zTB := z_in (zt_3 _ (List.mem_of_getElem? (i := 112) rfl)) rfl
theorem zm_494 : Cond.instanceMethod ⟨"LassoFinder$Terms", "clear", "()V"⟩ ∈ zTB := z_in (zt_3 _ (List.mem_of_getElem? (i := 111) rfl)) rfl
theorem zm_495 : Cond.code ⟨"LassoFinder$Program", "clear", "()V"⟩ prog_7_method_2_code 1 none ∈ zTB := z_in (zt_3 _ (List.mem_of_getElem? (i := 117) rfl)) rfl
theorem zm_496 : Cond.selects "LassoFinder$Program" ⟨"LassoFinder$Program", "clear", "()V"⟩ ⟨"LassoFinder$Program", "clear", "()V"⟩ ∈ zTB := z_in (zt_3 _ (List.mem_of_getElem? (i := 116) rfl)) rfl
theorem zm_497 : Cond.instanceMethod ⟨"LassoFinder$Program", "clear", "()V"⟩ ∈ zTB := z_in (zt_3 _ (List.mem_of_getElem? (i := 115) rfl)) rfl
theorem zm_498 : Cond.code ⟨"LassoFinder$ModelReader", "readDeclaration", "()V"⟩ prog_5_method_3_code 5 none ∈ zTB := z_in (zt_3 _ (List.mem_of_getElem? (i := 129) rfl)) rfl
theorem zm_499 : Cond.instanceMethod ⟨"LassoFinder$ModelReader", "readDeclaration", "()V"⟩ ∈ zTB := z_in (zt_3 _ (List.mem_of_getElem? (i := 128) rfl)) rfl
theorem zm_500 : Cond.code ⟨"LassoFinder", "dropFormula", "()V"⟩ prog_1_method_19_code 1 none ∈ zTB := z_in (zt_3 _ (List.mem_of_getElem? (i := 94) rfl)) rfl
theorem zm_501 : Cond.instanceMethod ⟨"LassoFinder", "dropFormula", "()V"⟩ ∈ zTB := z_in (zt_3 _ (List.mem_of_getElem? (i := 93) rfl)) rfl
theorem zm_502 : Cond.code ⟨"LassoFinder$Text", "open", "()V"⟩ prog_10_method_3_code 1 none ∈ zTB := z_in (zt_3 _ (List.mem_of_getElem? (i := 98) rfl)) rfl
theorem zm_503 : Cond.selects "LassoFinder$Text" ⟨"LassoFinder$Text", "open", "()V"⟩ ⟨"LassoFinder$Text", "open", "()V"⟩ ∈ zTB := z_in (zt_3 _ (List.mem_of_getElem? (i := 97) rfl)) rfl
theorem zm_504 : Cond.instanceMethod ⟨"LassoFinder$Text", "open", "()V"⟩ ∈ zTB := z_in (zt_3 _ (List.mem_of_getElem? (i := 96) rfl)) rfl
theorem zm_505 : Cond.code ⟨"LassoFinder$ModelReader", "readAll", "()V"⟩ prog_5_method_2_code 2 none ∈ zTB := z_in (zt_3 _ (List.mem_of_getElem? (i := 102) rfl)) rfl
theorem zm_506 : Cond.selects "LassoFinder$ModelReader" ⟨"LassoFinder$ModelReader", "readAll", "()V"⟩ ⟨"LassoFinder$ModelReader", "readAll", "()V"⟩ ∈ zTB := z_in (zt_3 _ (List.mem_of_getElem? (i := 101) rfl)) rfl
theorem zm_507 : Cond.instanceMethod ⟨"LassoFinder$ModelReader", "readAll", "()V"⟩ ∈ zTB := z_in (zt_3 _ (List.mem_of_getElem? (i := 100) rfl)) rfl
theorem zm_508 : Cond.code ⟨"LassoFinder", "hasLasso", "()Z"⟩ prog_1_method_20_code 1 (some .boolean) ∈ zTB := z_in (zt_3 _ (List.mem_of_getElem? (i := 37) rfl)) rfl
theorem zm_509 : Cond.instanceMethod ⟨"LassoFinder", "hasLasso", "()Z"⟩ ∈ zTB := z_in (zt_3 _ (List.mem_of_getElem? (i := 36) rfl)) rfl
theorem zm_510 : Cond.code ⟨"LassoFinder", "standsOnWalk", "()Z"⟩ prog_1_method_21_code 1 (some .boolean) ∈ zTB := z_in (zt_3 _ (List.mem_of_getElem? (i := 57) rfl)) rfl
theorem zm_511 : Cond.instanceMethod ⟨"LassoFinder", "standsOnWalk", "()Z"⟩ ∈ zTB := z_in (zt_3 _ (List.mem_of_getElem? (i := 56) rfl)) rfl
theorem zf_Arrays_fill : zFaceS zy_Arrays_fill prog_24_method_103_code 4 none 2 := ⟨zm_474, zm_473, zm_472, by decide +kernel, by decide +kernel, by decide +kernel⟩
theorem zf_Arrays_fill_2 : zFaceS zy_Arrays_fill_2 prog_24_method_101_code 5 none 2 := ⟨zm_476, zm_473, zm_475, by decide +kernel, by decide +kernel, by decide +kernel⟩
theorem zf_Text_ahead : zFaceV zy_Text_ahead prog_10_method_5_code 1 (some .char) 0 := ⟨zm_479, zm_478, zm_19, zm_477, by decide +kernel, by decide +kernel, by decide +kernel⟩
theorem zf_Text_accept : zFaceV zy_Text_accept prog_10_method_8_code 2 (some .boolean) 1 := ⟨zm_482, zm_481, zm_19, zm_480, by decide +kernel, by decide +kernel, by decide +kernel⟩
theorem zf_Text_oneOf : zFaceV zy_Text_oneOf prog_10_method_6_code 3 (some .int) 1 := ⟨zm_485, zm_484, zm_19, zm_483, by decide +kernel, by decide +kernel, by decide +kernel⟩
theorem zf_Text_refuse : zFaceV zy_Text_refuse prog_10_method_11_code 1 none 0 := ⟨zm_488, zm_487, zm_19, zm_486, by decide +kernel, by decide +kernel, by decide +kernel⟩
theorem zf_Names_clear : zFaceV zy_Names_clear prog_6_method_2_code 1 none 0 := ⟨zm_491, zm_490, zm_11, zm_489, by decide +kernel, by decide +kernel, by decide +kernel⟩
theorem zf_Terms_clear : zFaceV zy_Terms_clear prog_9_method_2_code 1 none 0 := ⟨zm_494, zm_493, zm_17, zm_492, by decide +kernel, by decide +kernel, by decide +kernel⟩
theorem zf_Program_clear : zFaceV zy_Program_clear prog_7_method_2_code 1 none 0 := ⟨zm_497, zm_496, zm_13, zm_495, by decide +kernel, by decide +kernel, by decide +kernel⟩
theorem zf_ModelReader_readDeclaration : zFaceV zy_ModelReader_readDeclaration prog_5_method_3_code 5 none 0 := ⟨zm_499, (z_in (zp_1 _ (List.mem_of_getElem? (i := 3) rfl)) rfl), zm_9, zm_498, by decide +kernel, by decide +kernel, by decide +kernel⟩
theorem zf_LassoFinder_dropFormula : zFaceV zy_LassoFinder_dropFormula prog_1_method_19_code 1 none 0 := ⟨zm_501, (z_in (zp_1 _ (List.mem_of_getElem? (i := 2) rfl)) rfl), zm_1, zm_500, by decide +kernel, by decide +kernel, by decide +kernel⟩
theorem zf_Text_open : zFaceV zy_Text_open prog_10_method_3_code 1 none 0 := ⟨zm_504, zm_503, zm_19, zm_502, by decide +kernel, by decide +kernel, by decide +kernel⟩
theorem zf_ModelReader_readAll : zFaceV zy_ModelReader_readAll prog_5_method_2_code 2 none 0 := ⟨zm_507, zm_506, zm_9, zm_505, by decide +kernel, by decide +kernel, by decide +kernel⟩
theorem zf_LassoFinder_hasLasso : zFaceV zy_LassoFinder_hasLasso prog_1_method_20_code 1 (some .boolean) 0 := ⟨zm_509, (z_in (zp_1 _ (List.mem_of_getElem? (i := 0) rfl)) rfl), zm_1, zm_508, by decide +kernel, by decide +kernel, by decide +kernel⟩
theorem zf_LassoFinder_standsOnWalk : zFaceV zy_LassoFinder_standsOnWalk prog_1_method_21_code 1 (some .boolean) 0 := ⟨zm_511, (z_in (zp_1 _ (List.mem_of_getElem? (i := 1) rfl)) rfl), zm_1, zm_510, by decide +kernel, by decide +kernel, by decide +kernel⟩
theorem zx_0 : ∀ w ∈ Bundle.ownAtoms0 "LassoFinder$Text" 41 "java/lang/IllegalArgumentException" ["java/lang/RuntimeException", "java/lang/Exception"], w ∈ zTB ∨ w = .isRef (.static Bundle.tN "UNASSIGNED_STACK" Bundle.steD) ∨ w = .isRef (.static Bundle.tN "SUPPRESSED_SENTINEL" Bundle.listD) ∨ w = .laysStatic Bundle.tN "UNASSIGNED_STACK" Bundle.steD ∨ w = .laysStatic Bundle.tN "SUPPRESSED_SENTINEL" Bundle.listD ∨ w ∈ zDC := zx_of (by decide +kernel)
theorem zx_1 : ∀ w ∈ Bundle.ownAtoms0 "LassoFinder" 117 "java/lang/IllegalStateException" ["java/lang/RuntimeException", "java/lang/Exception"], w ∈ zTB ∨ w = .isRef (.static Bundle.tN "UNASSIGNED_STACK" Bundle.steD) ∨ w = .isRef (.static Bundle.tN "SUPPRESSED_SENTINEL" Bundle.listD) ∨ w = .laysStatic Bundle.tN "UNASSIGNED_STACK" Bundle.steD ∨ w = .laysStatic Bundle.tN "SUPPRESSED_SENTINEL" Bundle.listD ∨ w ∈ zDC := zx_of (by decide +kernel)
theorem zx_2 : ∀ w ∈ Bundle.ownAtoms0 "LassoFinder" 154 "java/lang/IndexOutOfBoundsException" ["java/lang/RuntimeException", "java/lang/Exception"], w ∈ zTB ∨ w = .isRef (.static Bundle.tN "UNASSIGNED_STACK" Bundle.steD) ∨ w = .isRef (.static Bundle.tN "SUPPRESSED_SENTINEL" Bundle.listD) ∨ w = .laysStatic Bundle.tN "UNASSIGNED_STACK" Bundle.steD ∨ w = .laysStatic Bundle.tN "SUPPRESSED_SENTINEL" Bundle.listD ∨ w ∈ zDC := zx_of (by decide +kernel)
theorem zd_Arrays_fill_0 : decode prog_24_method_103_code 0 = .ok (.iconst 0, 1) := by decide +kernel
theorem zd_Arrays_fill_1 : decode prog_24_method_103_code 1 = .ok (.istore_n 2, 1) := by decide +kernel
theorem zd_Arrays_fill_2 : decode prog_24_method_103_code 2 = .ok (.aload_n 0, 1) := by decide +kernel
theorem zd_Arrays_fill_3 : decode prog_24_method_103_code 3 = .ok (.arraylength, 1) := by decide +kernel
theorem zd_Arrays_fill_4 : decode prog_24_method_103_code 4 = .ok (.istore_n 3, 1) := by decide +kernel
theorem zd_Arrays_fill_5 : decode prog_24_method_103_code 5 = .ok (.iload_n 2, 1) := by decide +kernel
theorem zd_Arrays_fill_6 : decode prog_24_method_103_code 6 = .ok (.iload_n 3, 1) := by decide +kernel
theorem zd_Arrays_fill_7 : decode prog_24_method_103_code 7 = .ok (.if_icmp .ge 13, 3) := by decide +kernel
theorem zd_Arrays_fill_10 : decode prog_24_method_103_code 10 = .ok (.aload_n 0, 1) := by decide +kernel
theorem zd_Arrays_fill_11 : decode prog_24_method_103_code 11 = .ok (.iload_n 2, 1) := by decide +kernel
theorem zd_Arrays_fill_12 : decode prog_24_method_103_code 12 = .ok (.iload_n 1, 1) := by decide +kernel
theorem zd_Arrays_fill_13 : decode prog_24_method_103_code 13 = .ok (.iastore, 1) := by decide +kernel
theorem zd_Arrays_fill_14 : decode prog_24_method_103_code 14 = .ok (.iinc 2 1, 3) := by decide +kernel
theorem zd_Arrays_fill_17 : decode prog_24_method_103_code 17 = .ok (.goto (-12), 3) := by decide +kernel
theorem zd_Arrays_fill_20 : decode prog_24_method_103_code 20 = .ok (.return_, 1) := by decide +kernel
theorem zd_Arrays_fill_2_0 : decode prog_24_method_101_code 0 = .ok (.iconst 0, 1) := by decide +kernel
theorem zd_Arrays_fill_2_1 : decode prog_24_method_101_code 1 = .ok (.istore_n 3, 1) := by decide +kernel
theorem zd_Arrays_fill_2_2 : decode prog_24_method_101_code 2 = .ok (.aload_n 0, 1) := by decide +kernel
theorem zd_Arrays_fill_2_3 : decode prog_24_method_101_code 3 = .ok (.arraylength, 1) := by decide +kernel
theorem zd_Arrays_fill_2_4 : decode prog_24_method_101_code 4 = .ok (.istore 4, 2) := by decide +kernel
theorem zd_Arrays_fill_2_6 : decode prog_24_method_101_code 6 = .ok (.iload_n 3, 1) := by decide +kernel
theorem zd_Arrays_fill_2_7 : decode prog_24_method_101_code 7 = .ok (.iload 4, 2) := by decide +kernel
theorem zd_Arrays_fill_2_9 : decode prog_24_method_101_code 9 = .ok (.if_icmp .ge 13, 3) := by decide +kernel
theorem zd_Arrays_fill_2_12 : decode prog_24_method_101_code 12 = .ok (.aload_n 0, 1) := by decide +kernel
theorem zd_Arrays_fill_2_13 : decode prog_24_method_101_code 13 = .ok (.iload_n 3, 1) := by decide +kernel
theorem zd_Arrays_fill_2_14 : decode prog_24_method_101_code 14 = .ok (.lload_n 1, 1) := by decide +kernel
theorem zd_Arrays_fill_2_15 : decode prog_24_method_101_code 15 = .ok (.lastore, 1) := by decide +kernel
theorem zd_Arrays_fill_2_16 : decode prog_24_method_101_code 16 = .ok (.iinc 3 1, 3) := by decide +kernel
theorem zd_Arrays_fill_2_19 : decode prog_24_method_101_code 19 = .ok (.goto (-13), 3) := by decide +kernel
theorem zd_Arrays_fill_2_22 : decode prog_24_method_101_code 22 = .ok (.return_, 1) := by decide +kernel
theorem zd_LassoFinder_count_0 : decode prog_1_method_18_code 0 = .ok (.iload_n 1, 1) := by decide +kernel
theorem zd_LassoFinder_count_1 : decode prog_1_method_18_code 1 = .ok (.tableswitch 107 0 3 #[31, 50, 69, 88], 31) := by decide +kernel
theorem zd_LassoFinder_count_32 : decode prog_1_method_18_code 32 = .ok (.aload_n 0, 1) := by decide +kernel
theorem zd_LassoFinder_count_33 : decode prog_1_method_18_code 33 = .ok (.getfield 92, 3) := by decide +kernel
theorem zd_LassoFinder_count_36 : decode prog_1_method_18_code 36 = .ok (.ifCond .eq 13, 3) := by decide +kernel
theorem zd_LassoFinder_count_49 : decode prog_1_method_18_code 49 = .ok (.iconst 0, 1) := by decide +kernel
theorem zd_LassoFinder_count_50 : decode prog_1_method_18_code 50 = .ok (.ireturn, 1) := by decide +kernel
theorem zd_LassoFinder_count_51 : decode prog_1_method_18_code 51 = .ok (.aload_n 0, 1) := by decide +kernel
theorem zd_LassoFinder_count_52 : decode prog_1_method_18_code 52 = .ok (.getfield 92, 3) := by decide +kernel
theorem zd_LassoFinder_count_55 : decode prog_1_method_18_code 55 = .ok (.ifCond .eq 13, 3) := by decide +kernel
theorem zd_LassoFinder_count_68 : decode prog_1_method_18_code 68 = .ok (.iconst 0, 1) := by decide +kernel
theorem zd_LassoFinder_count_69 : decode prog_1_method_18_code 69 = .ok (.ireturn, 1) := by decide +kernel
theorem zd_LassoFinder_count_70 : decode prog_1_method_18_code 70 = .ok (.aload_n 0, 1) := by decide +kernel
theorem zd_LassoFinder_count_71 : decode prog_1_method_18_code 71 = .ok (.getfield 92, 3) := by decide +kernel
theorem zd_LassoFinder_count_74 : decode prog_1_method_18_code 74 = .ok (.ifCond .eq 13, 3) := by decide +kernel
theorem zd_LassoFinder_count_87 : decode prog_1_method_18_code 87 = .ok (.iconst 0, 1) := by decide +kernel
theorem zd_LassoFinder_count_88 : decode prog_1_method_18_code 88 = .ok (.ireturn, 1) := by decide +kernel
theorem zd_LassoFinder_count_89 : decode prog_1_method_18_code 89 = .ok (.aload_n 0, 1) := by decide +kernel
theorem zd_LassoFinder_count_90 : decode prog_1_method_18_code 90 = .ok (.getfield 92, 3) := by decide +kernel
theorem zd_LassoFinder_count_93 : decode prog_1_method_18_code 93 = .ok (.ifCond .eq 13, 3) := by decide +kernel
theorem zd_LassoFinder_count_106 : decode prog_1_method_18_code 106 = .ok (.iconst 0, 1) := by decide +kernel
theorem zd_LassoFinder_count_107 : decode prog_1_method_18_code 107 = .ok (.ireturn, 1) := by decide +kernel
theorem zd_LassoFinder_count_108 : decode prog_1_method_18_code 108 = .ok (.iconst (-1), 1) := by decide +kernel
theorem zd_LassoFinder_count_109 : decode prog_1_method_18_code 109 = .ok (.ireturn, 1) := by decide +kernel
theorem zd_LassoFinder_cycle_0 : decode prog_1_method_8_code 0 = .ok (.aload_n 0, 1) := by decide +kernel
theorem zd_LassoFinder_cycle_1 : decode prog_1_method_8_code 1 = .ok (.invokevirtual 143, 3) := by decide +kernel
theorem zd_LassoFinder_cycle_4 : decode prog_1_method_8_code 4 = .ok (.ifCond .eq 13, 3) := by decide +kernel
theorem zd_LassoFinder_cycle_17 : decode prog_1_method_8_code 17 = .ok (.iconst 0, 1) := by decide +kernel
theorem zd_LassoFinder_cycle_18 : decode prog_1_method_8_code 18 = .ok (.ireturn, 1) := by decide +kernel
theorem zd_LassoFinder_dropFormula_0 : decode prog_1_method_19_code 0 = .ok (.aload_n 0, 1) := by decide +kernel
theorem zd_LassoFinder_dropFormula_1 : decode prog_1_method_19_code 1 = .ok (.iconst 0, 1) := by decide +kernel
theorem zd_LassoFinder_dropFormula_2 : decode prog_1_method_19_code 2 = .ok (.putfield 122, 3) := by decide +kernel
theorem zd_LassoFinder_dropFormula_5 : decode prog_1_method_19_code 5 = .ok (.aload_n 0, 1) := by decide +kernel
theorem zd_LassoFinder_dropFormula_6 : decode prog_1_method_19_code 6 = .ok (.getfield 131, 3) := by decide +kernel
theorem zd_LassoFinder_dropFormula_9 : decode prog_1_method_19_code 9 = .ok (.ifnull 11, 3) := by decide +kernel
theorem zd_LassoFinder_dropFormula_20 : decode prog_1_method_19_code 20 = .ok (.return_, 1) := by decide +kernel
theorem zd_LassoFinder_formula_0 : decode prog_1_method_4_code 0 = .ok (.aload_n 0, 1) := by decide +kernel
theorem zd_LassoFinder_formula_1 : decode prog_1_method_4_code 1 = .ok (.invokevirtual 96, 3) := by decide +kernel
theorem zd_LassoFinder_formula_4 : decode prog_1_method_4_code 4 = .ok (.aload_n 0, 1) := by decide +kernel
theorem zd_LassoFinder_formula_5 : decode prog_1_method_4_code 5 = .ok (.getfield 10, 3) := by decide +kernel
theorem zd_LassoFinder_formula_8 : decode prog_1_method_4_code 8 = .ok (.invokevirtual 99, 3) := by decide +kernel
theorem zd_LassoFinder_formula_11 : decode prog_1_method_4_code 11 = .ok (.aload_n 0, 1) := by decide +kernel
theorem zd_LassoFinder_formula_12 : decode prog_1_method_4_code 12 = .ok (.getfield 92, 3) := by decide +kernel
theorem zd_LassoFinder_formula_15 : decode prog_1_method_4_code 15 = .ok (.ifCond .ne 11, 3) := by decide +kernel
theorem zd_LassoFinder_formula_18 : decode prog_1_method_4_code 18 = .ok (.new 115, 3) := by decide +kernel
theorem zd_LassoFinder_formula_21 : decode prog_1_method_4_code 21 = .ok (.dup, 1) := by decide +kernel
theorem zd_LassoFinder_formula_22 : decode prog_1_method_4_code 22 = .ok (.invokespecial 117, 3) := by decide +kernel
theorem zd_LassoFinder_formula_25 : decode prog_1_method_4_code 25 = .ok (.athrow, 1) := by decide +kernel
theorem zd_LassoFinder_go_0 : decode prog_1_method_12_code 0 = .ok (.aload_n 0, 1) := by decide +kernel
theorem zd_LassoFinder_go_1 : decode prog_1_method_12_code 1 = .ok (.getfield 84, 3) := by decide +kernel
theorem zd_LassoFinder_go_4 : decode prog_1_method_12_code 4 = .ok (.iconst (-1), 1) := by decide +kernel
theorem zd_LassoFinder_go_5 : decode prog_1_method_12_code 5 = .ok (.if_icmp .ne 11, 3) := by decide +kernel
theorem zd_LassoFinder_go_8 : decode prog_1_method_12_code 8 = .ok (.new 115, 3) := by decide +kernel
theorem zd_LassoFinder_go_11 : decode prog_1_method_12_code 11 = .ok (.dup, 1) := by decide +kernel
theorem zd_LassoFinder_go_12 : decode prog_1_method_12_code 12 = .ok (.invokespecial 117, 3) := by decide +kernel
theorem zd_LassoFinder_go_15 : decode prog_1_method_12_code 15 = .ok (.athrow, 1) := by decide +kernel
theorem zd_LassoFinder_hasLasso_0 : decode prog_1_method_20_code 0 = .ok (.aload_n 0, 1) := by decide +kernel
theorem zd_LassoFinder_hasLasso_1 : decode prog_1_method_20_code 1 = .ok (.getfield 131, 3) := by decide +kernel
theorem zd_LassoFinder_hasLasso_4 : decode prog_1_method_20_code 4 = .ok (.ifnull 17, 3) := by decide +kernel
theorem zd_LassoFinder_hasLasso_21 : decode prog_1_method_20_code 21 = .ok (.iconst 0, 1) := by decide +kernel
theorem zd_LassoFinder_hasLasso_22 : decode prog_1_method_20_code 22 = .ok (.ireturn, 1) := by decide +kernel
theorem zd_LassoFinder_holder_0 : decode prog_1_method_16_code 0 = .ok (.aload_n 0, 1) := by decide +kernel
theorem zd_LassoFinder_holder_1 : decode prog_1_method_16_code 1 = .ok (.invokevirtual 177, 3) := by decide +kernel
theorem zd_LassoFinder_holder_4 : decode prog_1_method_16_code 4 = .ok (.ifCond .eq 13, 3) := by decide +kernel
theorem zd_LassoFinder_holder_17 : decode prog_1_method_16_code 17 = .ok (.iconst (-1), 1) := by decide +kernel
theorem zd_LassoFinder_holder_18 : decode prog_1_method_16_code 18 = .ok (.ireturn, 1) := by decide +kernel
theorem zd_LassoFinder_lasso_0 : decode prog_1_method_9_code 0 = .ok (.aload_n 0, 1) := by decide +kernel
theorem zd_LassoFinder_lasso_1 : decode prog_1_method_9_code 1 = .ok (.invokevirtual 143, 3) := by decide +kernel
theorem zd_LassoFinder_lasso_4 : decode prog_1_method_9_code 4 = .ok (.ifCond .eq 26, 3) := by decide +kernel
theorem zd_LassoFinder_lasso_30 : decode prog_1_method_9_code 30 = .ok (.new 152, 3) := by decide +kernel
theorem zd_LassoFinder_lasso_33 : decode prog_1_method_9_code 33 = .ok (.dup, 1) := by decide +kernel
theorem zd_LassoFinder_lasso_34 : decode prog_1_method_9_code 34 = .ok (.invokespecial 154, 3) := by decide +kernel
theorem zd_LassoFinder_lasso_37 : decode prog_1_method_9_code 37 = .ok (.athrow, 1) := by decide +kernel
theorem zd_LassoFinder_message_0 : decode prog_1_method_14_code 0 = .ok (.aload_n 0, 1) := by decide +kernel
theorem zd_LassoFinder_message_1 : decode prog_1_method_14_code 1 = .ok (.invokevirtual 177, 3) := by decide +kernel
theorem zd_LassoFinder_message_4 : decode prog_1_method_14_code 4 = .ok (.ifCond .eq 26, 3) := by decide +kernel
theorem zd_LassoFinder_message_30 : decode prog_1_method_14_code 30 = .ok (.iconst (-1), 1) := by decide +kernel
theorem zd_LassoFinder_message_31 : decode prog_1_method_14_code 31 = .ok (.ireturn, 1) := by decide +kernel
theorem zd_LassoFinder_model_0 : decode prog_1_method_3_code 0 = .ok (.aload_n 0, 1) := by decide +kernel
theorem zd_LassoFinder_model_1 : decode prog_1_method_3_code 1 = .ok (.iconst 0, 1) := by decide +kernel
theorem zd_LassoFinder_model_2 : decode prog_1_method_3_code 2 = .ok (.putfield 92, 3) := by decide +kernel
theorem zd_LassoFinder_model_5 : decode prog_1_method_3_code 5 = .ok (.aload_n 0, 1) := by decide +kernel
theorem zd_LassoFinder_model_6 : decode prog_1_method_3_code 6 = .ok (.iconst (-1), 1) := by decide +kernel
theorem zd_LassoFinder_model_7 : decode prog_1_method_3_code 7 = .ok (.putfield 84, 3) := by decide +kernel
theorem zd_LassoFinder_model_10 : decode prog_1_method_3_code 10 = .ok (.aload_n 0, 1) := by decide +kernel
theorem zd_LassoFinder_model_11 : decode prog_1_method_3_code 11 = .ok (.invokevirtual 96, 3) := by decide +kernel
theorem zd_LassoFinder_model_14 : decode prog_1_method_3_code 14 = .ok (.aload_n 0, 1) := by decide +kernel
theorem zd_LassoFinder_model_15 : decode prog_1_method_3_code 15 = .ok (.getfield 10, 3) := by decide +kernel
theorem zd_LassoFinder_model_18 : decode prog_1_method_3_code 18 = .ok (.invokevirtual 99, 3) := by decide +kernel
theorem zd_LassoFinder_model_21 : decode prog_1_method_3_code 21 = .ok (.aload_n 0, 1) := by decide +kernel
theorem zd_LassoFinder_model_22 : decode prog_1_method_3_code 22 = .ok (.getfield 40, 3) := by decide +kernel
theorem zd_LassoFinder_model_25 : decode prog_1_method_3_code 25 = .ok (.invokevirtual 102, 3) := by decide +kernel
theorem zd_LassoFinder_place_0 : decode prog_1_method_5_code 0 = .ok (.aload_n 0, 1) := by decide +kernel
theorem zd_LassoFinder_place_1 : decode prog_1_method_5_code 1 = .ok (.getfield 10, 3) := by decide +kernel
theorem zd_LassoFinder_place_4 : decode prog_1_method_5_code 4 = .ok (.getfield 128, 3) := by decide +kernel
theorem zd_LassoFinder_place_7 : decode prog_1_method_5_code 7 = .ok (.ireturn, 1) := by decide +kernel
theorem zd_LassoFinder_point_0 : decode prog_1_method_15_code 0 = .ok (.aload_n 0, 1) := by decide +kernel
theorem zd_LassoFinder_point_1 : decode prog_1_method_15_code 1 = .ok (.invokevirtual 177, 3) := by decide +kernel
theorem zd_LassoFinder_point_4 : decode prog_1_method_15_code 4 = .ok (.ifCond .eq 18, 3) := by decide +kernel
theorem zd_LassoFinder_point_22 : decode prog_1_method_15_code 22 = .ok (.iconst (-1), 1) := by decide +kernel
theorem zd_LassoFinder_point_23 : decode prog_1_method_15_code 23 = .ok (.ireturn, 1) := by decide +kernel
theorem zd_LassoFinder_standsOnWalk_0 : decode prog_1_method_21_code 0 = .ok (.aload_n 0, 1) := by decide +kernel
theorem zd_LassoFinder_standsOnWalk_1 : decode prog_1_method_21_code 1 = .ok (.getfield 84, 3) := by decide +kernel
theorem zd_LassoFinder_standsOnWalk_4 : decode prog_1_method_21_code 4 = .ok (.iconst (-1), 1) := by decide +kernel
theorem zd_LassoFinder_standsOnWalk_5 : decode prog_1_method_21_code 5 = .ok (.if_icmp .ne 5, 3) := by decide +kernel
theorem zd_LassoFinder_standsOnWalk_8 : decode prog_1_method_21_code 8 = .ok (.iconst 0, 1) := by decide +kernel
theorem zd_LassoFinder_standsOnWalk_9 : decode prog_1_method_21_code 9 = .ok (.ireturn, 1) := by decide +kernel
theorem zd_LassoFinder_stem_0 : decode prog_1_method_7_code 0 = .ok (.aload_n 0, 1) := by decide +kernel
theorem zd_LassoFinder_stem_1 : decode prog_1_method_7_code 1 = .ok (.invokevirtual 143, 3) := by decide +kernel
theorem zd_LassoFinder_stem_4 : decode prog_1_method_7_code 4 = .ok (.ifCond .eq 13, 3) := by decide +kernel
theorem zd_LassoFinder_stem_17 : decode prog_1_method_7_code 17 = .ok (.iconst (-1), 1) := by decide +kernel
theorem zd_LassoFinder_stem_18 : decode prog_1_method_7_code 18 = .ok (.ireturn, 1) := by decide +kernel
theorem zd_LassoFinder_steps_0 : decode prog_1_method_11_code 0 = .ok (.aload_n 0, 1) := by decide +kernel
theorem zd_LassoFinder_steps_1 : decode prog_1_method_11_code 1 = .ok (.getfield 84, 3) := by decide +kernel
theorem zd_LassoFinder_steps_4 : decode prog_1_method_11_code 4 = .ok (.iconst (-1), 1) := by decide +kernel
theorem zd_LassoFinder_steps_5 : decode prog_1_method_11_code 5 = .ok (.if_icmp .ne 7, 3) := by decide +kernel
theorem zd_LassoFinder_steps_8 : decode prog_1_method_11_code 8 = .ok (.iconst 0, 1) := by decide +kernel
theorem zd_LassoFinder_steps_9 : decode prog_1_method_11_code 9 = .ok (.goto 19, 3) := by decide +kernel
theorem zd_LassoFinder_steps_28 : decode prog_1_method_11_code 28 = .ok (.ireturn, 1) := by decide +kernel
theorem zd_LassoFinder_truth_0 : decode prog_1_method_17_code 0 = .ok (.aload_n 0, 1) := by decide +kernel
theorem zd_LassoFinder_truth_1 : decode prog_1_method_17_code 1 = .ok (.getfield 84, 3) := by decide +kernel
theorem zd_LassoFinder_truth_4 : decode prog_1_method_17_code 4 = .ok (.iconst (-1), 1) := by decide +kernel
theorem zd_LassoFinder_truth_5 : decode prog_1_method_17_code 5 = .ok (.if_icmp .eq 10, 3) := by decide +kernel
theorem zd_LassoFinder_truth_15 : decode prog_1_method_17_code 15 = .ok (.new 115, 3) := by decide +kernel
theorem zd_LassoFinder_truth_18 : decode prog_1_method_17_code 18 = .ok (.dup, 1) := by decide +kernel
theorem zd_LassoFinder_truth_19 : decode prog_1_method_17_code 19 = .ok (.invokespecial 117, 3) := by decide +kernel
theorem zd_LassoFinder_truth_22 : decode prog_1_method_17_code 22 = .ok (.athrow, 1) := by decide +kernel
theorem zd_LassoFinder_value_0 : decode prog_1_method_13_code 0 = .ok (.aload_n 0, 1) := by decide +kernel
theorem zd_LassoFinder_value_1 : decode prog_1_method_13_code 1 = .ok (.invokevirtual 177, 3) := by decide +kernel
theorem zd_LassoFinder_value_4 : decode prog_1_method_13_code 4 = .ok (.ifCond .eq 25, 3) := by decide +kernel
theorem zd_LassoFinder_value_29 : decode prog_1_method_13_code 29 = .ok (.iconst (-1), 1) := by decide +kernel
theorem zd_LassoFinder_value_30 : decode prog_1_method_13_code 30 = .ok (.ireturn, 1) := by decide +kernel
theorem zd_LassoFinder_verify_0 : decode prog_1_method_6_code 0 = .ok (.aload_n 0, 1) := by decide +kernel
theorem zd_LassoFinder_verify_1 : decode prog_1_method_6_code 1 = .ok (.getfield 122, 3) := by decide +kernel
theorem zd_LassoFinder_verify_4 : decode prog_1_method_6_code 4 = .ok (.ifCond .ne 11, 3) := by decide +kernel
theorem zd_LassoFinder_verify_7 : decode prog_1_method_6_code 7 = .ok (.new 115, 3) := by decide +kernel
theorem zd_LassoFinder_verify_10 : decode prog_1_method_6_code 10 = .ok (.dup, 1) := by decide +kernel
theorem zd_LassoFinder_verify_11 : decode prog_1_method_6_code 11 = .ok (.invokespecial 117, 3) := by decide +kernel
theorem zd_LassoFinder_verify_14 : decode prog_1_method_6_code 14 = .ok (.athrow, 1) := by decide +kernel
theorem zd_LassoFinder_walk_0 : decode prog_1_method_10_code 0 = .ok (.aload_n 0, 1) := by decide +kernel
theorem zd_LassoFinder_walk_1 : decode prog_1_method_10_code 1 = .ok (.getfield 92, 3) := by decide +kernel
theorem zd_LassoFinder_walk_4 : decode prog_1_method_10_code 4 = .ok (.ifCond .ne 11, 3) := by decide +kernel
theorem zd_LassoFinder_walk_7 : decode prog_1_method_10_code 7 = .ok (.new 115, 3) := by decide +kernel
theorem zd_LassoFinder_walk_10 : decode prog_1_method_10_code 10 = .ok (.dup, 1) := by decide +kernel
theorem zd_LassoFinder_walk_11 : decode prog_1_method_10_code 11 = .ok (.invokespecial 117, 3) := by decide +kernel
theorem zd_LassoFinder_walk_14 : decode prog_1_method_10_code 14 = .ok (.athrow, 1) := by decide +kernel
theorem zd_ModelReader_readAll_0 : decode prog_5_method_2_code 0 = .ok (.aload_n 0, 1) := by decide +kernel
theorem zd_ModelReader_readAll_1 : decode prog_5_method_2_code 1 = .ok (.getfield 15, 3) := by decide +kernel
theorem zd_ModelReader_readAll_4 : decode prog_5_method_2_code 4 = .ok (.invokevirtual 34, 3) := by decide +kernel
theorem zd_ModelReader_readAll_7 : decode prog_5_method_2_code 7 = .ok (.aload_n 0, 1) := by decide +kernel
theorem zd_ModelReader_readAll_8 : decode prog_5_method_2_code 8 = .ok (.getfield 19, 3) := by decide +kernel
theorem zd_ModelReader_readAll_11 : decode prog_5_method_2_code 11 = .ok (.invokevirtual 39, 3) := by decide +kernel
theorem zd_ModelReader_readAll_14 : decode prog_5_method_2_code 14 = .ok (.aload_n 0, 1) := by decide +kernel
theorem zd_ModelReader_readAll_15 : decode prog_5_method_2_code 15 = .ok (.getfield 23, 3) := by decide +kernel
theorem zd_ModelReader_readAll_18 : decode prog_5_method_2_code 18 = .ok (.invokevirtual 42, 3) := by decide +kernel
theorem zd_ModelReader_readAll_21 : decode prog_5_method_2_code 21 = .ok (.iconst 0, 1) := by decide +kernel
theorem zd_ModelReader_readAll_22 : decode prog_5_method_2_code 22 = .ok (.istore_n 1, 1) := by decide +kernel
theorem zd_ModelReader_readAll_23 : decode prog_5_method_2_code 23 = .ok (.iload_n 1, 1) := by decide +kernel
theorem zd_ModelReader_readAll_24 : decode prog_5_method_2_code 24 = .ok (.sipush 240, 3) := by decide +kernel
theorem zd_ModelReader_readAll_27 : decode prog_5_method_2_code 27 = .ok (.if_icmp .ge 25, 3) := by decide +kernel
theorem zd_ModelReader_readAll_30 : decode prog_5_method_2_code 30 = .ok (.aload_n 0, 1) := by decide +kernel
theorem zd_ModelReader_readAll_31 : decode prog_5_method_2_code 31 = .ok (.getfield 9, 3) := by decide +kernel
theorem zd_ModelReader_readAll_34 : decode prog_5_method_2_code 34 = .ok (.invokevirtual 47, 3) := by decide +kernel
theorem zd_ModelReader_readAll_37 : decode prog_5_method_2_code 37 = .ok (.bipush 123, 2) := by decide +kernel
theorem zd_ModelReader_readAll_39 : decode prog_5_method_2_code 39 = .ok (.if_icmp .eq 13, 3) := by decide +kernel
theorem zd_ModelReader_readAll_42 : decode prog_5_method_2_code 42 = .ok (.aload_n 0, 1) := by decide +kernel
theorem zd_ModelReader_readAll_43 : decode prog_5_method_2_code 43 = .ok (.invokevirtual 51, 3) := by decide +kernel
theorem zd_ModelReader_readDeclaration_0 : decode prog_5_method_3_code 0 = .ok (.aload_n 0, 1) := by decide +kernel
theorem zd_ModelReader_readDeclaration_1 : decode prog_5_method_3_code 1 = .ok (.getfield 9, 3) := by decide +kernel
theorem zd_ModelReader_readDeclaration_4 : decode prog_5_method_3_code 4 = .ok (.bipush 35, 2) := by decide +kernel
theorem zd_ModelReader_readDeclaration_6 : decode prog_5_method_3_code 6 = .ok (.invokevirtual 76, 3) := by decide +kernel
theorem zd_ModelReader_readDeclaration_9 : decode prog_5_method_3_code 9 = .ok (.ifCond .eq 7, 3) := by decide +kernel
theorem zd_ModelReader_readDeclaration_16 : decode prog_5_method_3_code 16 = .ok (.iconst 1, 1) := by decide +kernel
theorem zd_ModelReader_readDeclaration_17 : decode prog_5_method_3_code 17 = .ok (.istore_n 1, 1) := by decide +kernel
theorem zd_ModelReader_readDeclaration_18 : decode prog_5_method_3_code 18 = .ok (.aload_n 0, 1) := by decide +kernel
theorem zd_ModelReader_readDeclaration_19 : decode prog_5_method_3_code 19 = .ok (.getfield 9, 3) := by decide +kernel
theorem zd_ModelReader_readDeclaration_22 : decode prog_5_method_3_code 22 = .ok (.bipush 97, 2) := by decide +kernel
theorem zd_ModelReader_readDeclaration_24 : decode prog_5_method_3_code 24 = .ok (.invokevirtual 80, 3) := by decide +kernel
theorem zd_ModelReader_readDeclaration_27 : decode prog_5_method_3_code 27 = .ok (.istore_n 2, 1) := by decide +kernel
theorem zd_ModelReader_readDeclaration_28 : decode prog_5_method_3_code 28 = .ok (.iload_n 2, 1) := by decide +kernel
theorem zd_ModelReader_readDeclaration_29 : decode prog_5_method_3_code 29 = .ok (.iconst (-1), 1) := by decide +kernel
theorem zd_ModelReader_readDeclaration_30 : decode prog_5_method_3_code 30 = .ok (.if_icmp .eq 26, 3) := by decide +kernel
theorem zd_ModelReader_readDeclaration_56 : decode prog_5_method_3_code 56 = .ok (.aload_n 0, 1) := by decide +kernel
theorem zd_ModelReader_readDeclaration_57 : decode prog_5_method_3_code 57 = .ok (.getfield 9, 3) := by decide +kernel
theorem zd_ModelReader_readDeclaration_60 : decode prog_5_method_3_code 60 = .ok (.invokevirtual 62, 3) := by decide +kernel
theorem zd_Names_clear_0 : decode prog_6_method_2_code 0 = .ok (.aload_n 0, 1) := by decide +kernel
theorem zd_Names_clear_1 : decode prog_6_method_2_code 1 = .ok (.getfield 9, 3) := by decide +kernel
theorem zd_Names_clear_4 : decode prog_6_method_2_code 4 = .ok (.iconst 0, 1) := by decide +kernel
theorem zd_Names_clear_5 : decode prog_6_method_2_code 5 = .ok (.invokestatic 22, 3) := by decide +kernel
theorem zd_Names_clear_8 : decode prog_6_method_2_code 8 = .ok (.aload_n 0, 1) := by decide +kernel
theorem zd_Names_clear_9 : decode prog_6_method_2_code 9 = .ok (.iconst 0, 1) := by decide +kernel
theorem zd_Names_clear_10 : decode prog_6_method_2_code 10 = .ok (.putfield 28, 3) := by decide +kernel
theorem zd_Names_clear_13 : decode prog_6_method_2_code 13 = .ok (.aload_n 0, 1) := by decide +kernel
theorem zd_Names_clear_14 : decode prog_6_method_2_code 14 = .ok (.iconst 0, 1) := by decide +kernel
theorem zd_Names_clear_15 : decode prog_6_method_2_code 15 = .ok (.putfield 32, 3) := by decide +kernel
theorem zd_Names_clear_18 : decode prog_6_method_2_code 18 = .ok (.return_, 1) := by decide +kernel
theorem zd_Program_clear_0 : decode prog_7_method_2_code 0 = .ok (.aload_n 0, 1) := by decide +kernel
theorem zd_Program_clear_1 : decode prog_7_method_2_code 1 = .ok (.getfield 36, 3) := by decide +kernel
theorem zd_Program_clear_4 : decode prog_7_method_2_code 4 = .ok (.lconst 0, 1) := by decide +kernel
theorem zd_Program_clear_5 : decode prog_7_method_2_code 5 = .ok (.invokestatic 49, 3) := by decide +kernel
theorem zd_Program_clear_8 : decode prog_7_method_2_code 8 = .ok (.aload_n 0, 1) := by decide +kernel
theorem zd_Program_clear_9 : decode prog_7_method_2_code 9 = .ok (.getfield 40, 3) := by decide +kernel
theorem zd_Program_clear_12 : decode prog_7_method_2_code 12 = .ok (.iconst 0, 1) := by decide +kernel
theorem zd_Program_clear_13 : decode prog_7_method_2_code 13 = .ok (.invokestatic 55, 3) := by decide +kernel
theorem zd_Program_clear_16 : decode prog_7_method_2_code 16 = .ok (.aload_n 0, 1) := by decide +kernel
theorem zd_Program_clear_17 : decode prog_7_method_2_code 17 = .ok (.getfield 43, 3) := by decide +kernel
theorem zd_Program_clear_20 : decode prog_7_method_2_code 20 = .ok (.iconst (-1), 1) := by decide +kernel
theorem zd_Program_clear_21 : decode prog_7_method_2_code 21 = .ok (.invokestatic 55, 3) := by decide +kernel
theorem zd_Program_clear_24 : decode prog_7_method_2_code 24 = .ok (.aload_n 0, 1) := by decide +kernel
theorem zd_Program_clear_25 : decode prog_7_method_2_code 25 = .ok (.getfield 46, 3) := by decide +kernel
theorem zd_Program_clear_28 : decode prog_7_method_2_code 28 = .ok (.lconst 0, 1) := by decide +kernel
theorem zd_Program_clear_29 : decode prog_7_method_2_code 29 = .ok (.invokestatic 49, 3) := by decide +kernel
theorem zd_Program_clear_32 : decode prog_7_method_2_code 32 = .ok (.aload_n 0, 1) := by decide +kernel
theorem zd_Program_clear_33 : decode prog_7_method_2_code 33 = .ok (.lconst 0, 1) := by decide +kernel
theorem zd_Program_clear_34 : decode prog_7_method_2_code 34 = .ok (.putfield 58, 3) := by decide +kernel
theorem zd_Program_clear_37 : decode prog_7_method_2_code 37 = .ok (.aload_n 0, 1) := by decide +kernel
theorem zd_Program_clear_38 : decode prog_7_method_2_code 38 = .ok (.iconst 0, 1) := by decide +kernel
theorem zd_Program_clear_39 : decode prog_7_method_2_code 39 = .ok (.putfield 62, 3) := by decide +kernel
theorem zd_Program_clear_42 : decode prog_7_method_2_code 42 = .ok (.aload_n 0, 1) := by decide +kernel
theorem zd_Program_clear_43 : decode prog_7_method_2_code 43 = .ok (.iconst 0, 1) := by decide +kernel
theorem zd_Program_clear_44 : decode prog_7_method_2_code 44 = .ok (.putfield 66, 3) := by decide +kernel
theorem zd_Program_clear_47 : decode prog_7_method_2_code 47 = .ok (.return_, 1) := by decide +kernel
theorem zd_Terms_clear_0 : decode prog_9_method_2_code 0 = .ok (.aload_n 0, 1) := by decide +kernel
theorem zd_Terms_clear_1 : decode prog_9_method_2_code 1 = .ok (.iconst 0, 1) := by decide +kernel
theorem zd_Terms_clear_2 : decode prog_9_method_2_code 2 = .ok (.putfield 31, 3) := by decide +kernel
theorem zd_Terms_clear_5 : decode prog_9_method_2_code 5 = .ok (.return_, 1) := by decide +kernel
theorem zd_Text_accept_0 : decode prog_10_method_8_code 0 = .ok (.aload_n 0, 1) := by decide +kernel
theorem zd_Text_accept_1 : decode prog_10_method_8_code 1 = .ok (.invokevirtual 28, 3) := by decide +kernel
theorem zd_Text_accept_4 : decode prog_10_method_8_code 4 = .ok (.iload_n 1, 1) := by decide +kernel
theorem zd_Text_accept_5 : decode prog_10_method_8_code 5 = .ok (.if_icmp .eq 5, 3) := by decide +kernel
theorem zd_Text_accept_8 : decode prog_10_method_8_code 8 = .ok (.iconst 0, 1) := by decide +kernel
theorem zd_Text_accept_9 : decode prog_10_method_8_code 9 = .ok (.ireturn, 1) := by decide +kernel
theorem zd_Text_ahead_0 : decode prog_10_method_5_code 0 = .ok (.aload_n 0, 1) := by decide +kernel
theorem zd_Text_ahead_1 : decode prog_10_method_5_code 1 = .ok (.getfield 25, 3) := by decide +kernel
theorem zd_Text_ahead_4 : decode prog_10_method_5_code 4 = .ok (.aload_n 0, 1) := by decide +kernel
theorem zd_Text_ahead_5 : decode prog_10_method_5_code 5 = .ok (.getfield 22, 3) := by decide +kernel
theorem zd_Text_ahead_8 : decode prog_10_method_5_code 8 = .ok (.if_icmp .ge 15, 3) := by decide +kernel
theorem zd_Text_ahead_23 : decode prog_10_method_5_code 23 = .ok (.iconst 0, 1) := by decide +kernel
theorem zd_Text_ahead_24 : decode prog_10_method_5_code 24 = .ok (.ireturn, 1) := by decide +kernel
theorem zd_Text_oneOf_0 : decode prog_10_method_6_code 0 = .ok (.aload_n 0, 1) := by decide +kernel
theorem zd_Text_oneOf_1 : decode prog_10_method_6_code 1 = .ok (.getfield 25, 3) := by decide +kernel
theorem zd_Text_oneOf_4 : decode prog_10_method_6_code 4 = .ok (.aload_n 0, 1) := by decide +kernel
theorem zd_Text_oneOf_5 : decode prog_10_method_6_code 5 = .ok (.getfield 22, 3) := by decide +kernel
theorem zd_Text_oneOf_8 : decode prog_10_method_6_code 8 = .ok (.if_icmp .ge 17, 3) := by decide +kernel
theorem zd_Text_oneOf_25 : decode prog_10_method_6_code 25 = .ok (.iconst (-1), 1) := by decide +kernel
theorem zd_Text_oneOf_26 : decode prog_10_method_6_code 26 = .ok (.istore_n 2, 1) := by decide +kernel
theorem zd_Text_oneOf_27 : decode prog_10_method_6_code 27 = .ok (.iload_n 2, 1) := by decide +kernel
theorem zd_Text_oneOf_28 : decode prog_10_method_6_code 28 = .ok (.ifCond .lt 13, 3) := by decide +kernel
theorem zd_Text_oneOf_41 : decode prog_10_method_6_code 41 = .ok (.iconst (-1), 1) := by decide +kernel
theorem zd_Text_oneOf_42 : decode prog_10_method_6_code 42 = .ok (.ireturn, 1) := by decide +kernel
theorem zd_Text_open_0 : decode prog_10_method_3_code 0 = .ok (.aload_n 0, 1) := by decide +kernel
theorem zd_Text_open_1 : decode prog_10_method_3_code 1 = .ok (.aload_n 0, 1) := by decide +kernel
theorem zd_Text_open_2 : decode prog_10_method_3_code 2 = .ok (.getfield 19, 3) := by decide +kernel
theorem zd_Text_open_5 : decode prog_10_method_3_code 5 = .ok (.putfield 22, 3) := by decide +kernel
theorem zd_Text_open_8 : decode prog_10_method_3_code 8 = .ok (.aload_n 0, 1) := by decide +kernel
theorem zd_Text_open_9 : decode prog_10_method_3_code 9 = .ok (.iconst 0, 1) := by decide +kernel
theorem zd_Text_open_10 : decode prog_10_method_3_code 10 = .ok (.putfield 19, 3) := by decide +kernel
theorem zd_Text_open_13 : decode prog_10_method_3_code 13 = .ok (.aload_n 0, 1) := by decide +kernel
theorem zd_Text_open_14 : decode prog_10_method_3_code 14 = .ok (.iconst 0, 1) := by decide +kernel
theorem zd_Text_open_15 : decode prog_10_method_3_code 15 = .ok (.putfield 25, 3) := by decide +kernel
theorem zd_Text_open_18 : decode prog_10_method_3_code 18 = .ok (.aload_n 0, 1) := by decide +kernel
theorem zd_Text_open_19 : decode prog_10_method_3_code 19 = .ok (.iconst (-1), 1) := by decide +kernel
theorem zd_Text_open_20 : decode prog_10_method_3_code 20 = .ok (.putfield 15, 3) := by decide +kernel
theorem zd_Text_open_23 : decode prog_10_method_3_code 23 = .ok (.return_, 1) := by decide +kernel
theorem zd_Text_refuse_0 : decode prog_10_method_11_code 0 = .ok (.aload_n 0, 1) := by decide +kernel
theorem zd_Text_refuse_1 : decode prog_10_method_11_code 1 = .ok (.aload_n 0, 1) := by decide +kernel
theorem zd_Text_refuse_2 : decode prog_10_method_11_code 2 = .ok (.getfield 25, 3) := by decide +kernel
theorem zd_Text_refuse_5 : decode prog_10_method_11_code 5 = .ok (.putfield 15, 3) := by decide +kernel
theorem zd_Text_refuse_8 : decode prog_10_method_11_code 8 = .ok (.new 39, 3) := by decide +kernel
theorem zd_Text_refuse_11 : decode prog_10_method_11_code 11 = .ok (.dup, 1) := by decide +kernel
theorem zd_Text_refuse_12 : decode prog_10_method_11_code 12 = .ok (.invokespecial 41, 3) := by decide +kernel
theorem zd_Text_refuse_15 : decode prog_10_method_11_code 15 = .ok (.athrow, 1) := by decide +kernel
set_option maxHeartbeats 4000000 in
set_option maxRecDepth 100000 in
/-- Arrays.fill: every place holds v -/
theorem c_fillI (l : Launch) (G : va_G) (K : Nat → ClassId) (a : Nat) (n : Nat) (f : Nat → Int32) (v : Int32) (sz : Nat) (hn : n < 2 ^ 31) : Met l zy_Arrays_fill (Cond.code zy_Arrays_fill prog_24_method_103_code 4 none :: zTB) { frames := 0, cells := 0, slots := 0, locals := 0 } (va_Pc [.ref a, .int v] (zPre G K [(a, zI K n f)] sz)) (va_Qv (fun _ : Unit => True) (fun u t => zPost G K (va_A [(a, zI K n f)] sz) [(a, zI K n (zFill f v n))] t) (va_A [(a, zI K n f)] sz)) 0 0 (va_A [(a, zI K n f)] sz) := by
  refine zMet (y := zy_Arrays_fill) (av := [.ref a, .int v]) (maxL := 4) (cc := prog_24_method_103_code) (ret := none) (W0 := [(a, zI K n f)]) (sz := sz) (G := G) (K := K) (wt := zTB) (mc := 0) (ms := 0) (Qf := fun A => va_Qv (fun _ : Unit => True) (fun u t => zPost G K A [(a, zI K n (zFill f v n))] t) A) (by decide) (Nat.le_of_ble_eq_true rfl) ?_
  intro p e s m below meth c ls A hx hb hr hml hts hown hlocks hin hA hK H locs hw hsz hl
  clear hsz
  have hown : s.vm.findClass "java/util/Arrays" = some m.cls := hown
  have hl : lv_has ls 4 [(0, .ref a), (1, .int v)] := hl
  have hw : zW G A s.heap [(a, zI K n f)] H locs := hw
  refine lv_iconst (v := 0) hx hb zd_Arrays_fill_0 (by decide) ?_
  refine lv_istore_n hx hb zd_Arrays_fill_1 rfl hl (by decide) rfl (fun ls hl => ?_)
  have hl : lv_has ls 4 [(2, .int 0), (0, .ref a), (1, .int v)] := hl
  refine lv_aload_n hx hb zd_Arrays_fill_2 rfl (lv_at hl 1 rfl) ?_
  refine va_alen (v := Int32.ofNat n) hx hb hK hw.1 0 0 rfl rfl rfl zd_Arrays_fill_3 ?_
  refine lv_istore_n hx hb zd_Arrays_fill_4 rfl hl (by decide) rfl (fun ls hl => ?_)
  have hl : lv_has ls 4 [(3, .int (Int32.ofNat n)), (2, .int 0), (0, .ref a), (1, .int v)] := hl
  suffices hloop : ∀ (d i : Nat) (ls : Array Slot) (H : Heap) (locs : List Loc), i + d = n → lv_has ls 4 [(3, .int (Int32.ofNat n)), (2, .int (nI i)), (0, .ref a), (1, .int v)] → zW G A s.heap [(a, zI K n (zFill f v i))] H locs → W p l e { frames := 0, cells := 0, slots := 0, locals := 0 } s m ([.ref a, .int v] : List Value).toArray below meth c H locs 0 0 (MQ below (va_Qv (fun _ : Unit => True) (fun u t => zPost G K A [(a, zI K n (zFill f v n))] t) A) ([.ref a, .int v] : List Value).toArray s 0 0 A) (F0 m 5 ls []) by
    exact hloop n 0 ls H locs (by omega) hl (by rw [zFill_0]; exact hw)
  intro d
  induction d with
  | zero =>
    intro i ls H locs hi hl hw
    have hi9 : i = n := by omega
    rw [hi9] at hl hw
    have hl : lv_has ls 4 [(3, .int (Int32.ofNat n)), (2, .int (nI n)), (0, .ref a), (1, .int v)] := hl
    have hw : zW G A s.heap [(a, zI K n (zFill f v n))] H locs := hw
    refine lv_iload_n hx hb zd_Arrays_fill_5 rfl (lv_at hl 1 rfl) ?_
    refine lv_iload_n hx hb zd_Arrays_fill_6 rfl (lv_at hl 0 rfl) ?_
    refine lv_icmp_ge (tgt := 20) hx hb zd_Arrays_fill_7 (by decide) (fun _ => ?_) (fun h9 => absurd h9 (fun h => h (Int32.le_refl _)))
    exact z_vret (u := ()) hx hb hr hlocks hw [0] rfl (by decide) trivial (Nat.le_of_ble_eq_true rfl) (Nat.le_of_ble_eq_true rfl) zd_Arrays_fill_20
  | succ d ih =>
    intro i ls H locs hi hl hw
    have hl : lv_has ls 4 [(3, .int (Int32.ofNat n)), (2, .int (nI i)), (0, .ref a), (1, .int v)] := hl
    have hw : zW G A s.heap [(a, zI K n (zFill f v i))] H locs := hw
    refine lv_iload_n hx hb zd_Arrays_fill_5 rfl (lv_at hl 1 rfl) ?_
    refine lv_iload_n hx hb zd_Arrays_fill_6 rfl (lv_at hl 0 rfl) ?_
    refine lv_icmp_ge (tgt := 20) hx hb zd_Arrays_fill_7 (by decide) (fun h9 => absurd h9 (nI_ge (a := i) (b := n) (by omega) hn)) (fun _ => ?_)
    refine lv_aload_n hx hb zd_Arrays_fill_10 rfl (lv_at hl 2 rfl) ?_
    refine lv_iload_n hx hb zd_Arrays_fill_11 rfl (lv_at hl 1 rfl) ?_
    refine lv_iload_n hx hb zd_Arrays_fill_12 rfl (lv_at hl 3 rfl) ?_
    refine va_iast hx hb hK hw.1 hw.2.1 hw.2.2 0 0 rfl rfl (vp_in_nI (by omega) hn) zd_Arrays_fill_13 (fun H locs a1 a2 a3 => ?_)
    have hw : zW G A s.heap _ H locs := ⟨a1, a2, a3⟩
    have hw : zW G A s.heap [(a, zI K n (upd (zFill f v i) (nI i).toNatClampNeg v))] H locs := hw
    refine lv_iinc (v := (nI i + 1)) hx hb zd_Arrays_fill_14 hl (k := 1) rfl rfl (by decide) rfl (fun ls hl => ?_)
    have hl : lv_has ls 4 [(2, .int (nI i + 1)), (3, .int (Int32.ofNat n)), (0, .ref a), (1, .int v)] := hl
    refine lv_goto (tgt := 5) hx hb zd_Arrays_fill_17 (by decide) ?_
    rw [nI_clamp (by omega), zFill_s] at hw
    exact ih (i + 1) ls H locs (by omega) (by rw [nI_succ]; exact lv_sub hl [1, 0, 2, 3] rfl) hw
set_option maxHeartbeats 4000000 in
set_option maxRecDepth 100000 in
/-- Arrays.fill: every place holds v -/
theorem c_fillJ (l : Launch) (G : va_G) (K : Nat → ClassId) (a : Nat) (n : Nat) (f : Nat → Int64) (v : Int64) (sz : Nat) (hn : n < 2 ^ 31) : Met l zy_Arrays_fill_2 (Cond.code zy_Arrays_fill_2 prog_24_method_101_code 5 none :: zTB) { frames := 0, cells := 0, slots := 0, locals := 0 } (va_Pc [.ref a, .long v] (zPre G K [(a, zJ K n f)] sz)) (va_Qv (fun _ : Unit => True) (fun u t => zPost G K (va_A [(a, zJ K n f)] sz) [(a, zJ K n (zFill f v n))] t) (va_A [(a, zJ K n f)] sz)) 0 0 (va_A [(a, zJ K n f)] sz) := by
  refine zMet (y := zy_Arrays_fill_2) (av := [.ref a, .long v]) (maxL := 5) (cc := prog_24_method_101_code) (ret := none) (W0 := [(a, zJ K n f)]) (sz := sz) (G := G) (K := K) (wt := zTB) (mc := 0) (ms := 0) (Qf := fun A => va_Qv (fun _ : Unit => True) (fun u t => zPost G K A [(a, zJ K n (zFill f v n))] t) A) (by decide) (Nat.le_of_ble_eq_true rfl) ?_
  intro p e s m below meth c ls A hx hb hr hml hts hown hlocks hin hA hK H locs hw hsz hl
  clear hsz
  have hown : s.vm.findClass "java/util/Arrays" = some m.cls := hown
  have hl : lv_has ls 5 [(0, .ref a), (1, .long v)] := hl
  have hw : zW G A s.heap [(a, zJ K n f)] H locs := hw
  refine lv_iconst (v := 0) hx hb zd_Arrays_fill_2_0 (by decide) ?_
  refine lv_istore_n hx hb zd_Arrays_fill_2_1 rfl hl (by decide) rfl (fun ls hl => ?_)
  have hl : lv_has ls 5 [(3, .int 0), (0, .ref a), (1, .long v)] := hl
  refine lv_aload_n hx hb zd_Arrays_fill_2_2 rfl (lv_at hl 1 rfl) ?_
  refine va_alen (v := Int32.ofNat n) hx hb hK hw.1 0 1 rfl rfl rfl zd_Arrays_fill_2_3 ?_
  refine lv_istore hx hb zd_Arrays_fill_2_4 hl (by decide) rfl (fun ls hl => ?_)
  have hl : lv_has ls 5 [(4, .int (Int32.ofNat n)), (3, .int 0), (0, .ref a), (1, .long v)] := hl
  suffices hloop : ∀ (d i : Nat) (ls : Array Slot) (H : Heap) (locs : List Loc), i + d = n → lv_has ls 5 [(4, .int (Int32.ofNat n)), (3, .int (nI i)), (0, .ref a), (1, .long v)] → zW G A s.heap [(a, zJ K n (zFill f v i))] H locs → W p l e { frames := 0, cells := 0, slots := 0, locals := 0 } s m ([.ref a, .long v] : List Value).toArray below meth c H locs 0 0 (MQ below (va_Qv (fun _ : Unit => True) (fun u t => zPost G K A [(a, zJ K n (zFill f v n))] t) A) ([.ref a, .long v] : List Value).toArray s 0 0 A) (F0 m 6 ls []) by
    exact hloop n 0 ls H locs (by omega) hl (by rw [zFill_0]; exact hw)
  intro d
  induction d with
  | zero =>
    intro i ls H locs hi hl hw
    have hi9 : i = n := by omega
    rw [hi9] at hl hw
    have hl : lv_has ls 5 [(4, .int (Int32.ofNat n)), (3, .int (nI n)), (0, .ref a), (1, .long v)] := hl
    have hw : zW G A s.heap [(a, zJ K n (zFill f v n))] H locs := hw
    refine lv_iload_n hx hb zd_Arrays_fill_2_6 rfl (lv_at hl 1 rfl) ?_
    refine lv_iload hx hb zd_Arrays_fill_2_7 (lv_at hl 0 rfl) ?_
    refine lv_icmp_ge (tgt := 22) hx hb zd_Arrays_fill_2_9 (by decide) (fun _ => ?_) (fun h9 => absurd h9 (fun h => h (Int32.le_refl _)))
    exact z_vret (u := ()) hx hb hr hlocks hw [0] rfl (by decide) trivial (Nat.le_of_ble_eq_true rfl) (Nat.le_of_ble_eq_true rfl) zd_Arrays_fill_2_22
  | succ d ih =>
    intro i ls H locs hi hl hw
    have hl : lv_has ls 5 [(4, .int (Int32.ofNat n)), (3, .int (nI i)), (0, .ref a), (1, .long v)] := hl
    have hw : zW G A s.heap [(a, zJ K n (zFill f v i))] H locs := hw
    refine lv_iload_n hx hb zd_Arrays_fill_2_6 rfl (lv_at hl 1 rfl) ?_
    refine lv_iload hx hb zd_Arrays_fill_2_7 (lv_at hl 0 rfl) ?_
    refine lv_icmp_ge (tgt := 22) hx hb zd_Arrays_fill_2_9 (by decide) (fun h9 => absurd h9 (nI_ge (a := i) (b := n) (by omega) hn)) (fun _ => ?_)
    refine lv_aload_n hx hb zd_Arrays_fill_2_12 rfl (lv_at hl 2 rfl) ?_
    refine lv_iload_n hx hb zd_Arrays_fill_2_13 rfl (lv_at hl 1 rfl) ?_
    refine lv_lload_n hx hb zd_Arrays_fill_2_14 rfl (lv_at hl 3 rfl) ?_
    refine va_last hx hb hK hw.1 hw.2.1 hw.2.2 0 1 rfl rfl (vp_in_nI (by omega) hn) zd_Arrays_fill_2_15 (fun H locs a1 a2 a3 => ?_)
    have hw : zW G A s.heap _ H locs := ⟨a1, a2, a3⟩
    have hw : zW G A s.heap [(a, zJ K n (vp_updL (zFill f v i) (nI i).toNatClampNeg v))] H locs := hw
    refine lv_iinc (v := (nI i + 1)) hx hb zd_Arrays_fill_2_16 hl (k := 1) rfl rfl (by decide) rfl (fun ls hl => ?_)
    have hl : lv_has ls 5 [(3, .int (nI i + 1)), (4, .int (Int32.ofNat n)), (0, .ref a), (1, .long v)] := hl
    refine lv_goto (tgt := 6) hx hb zd_Arrays_fill_2_19 (by decide) ?_
    rw [nI_clamp (by omega), zFill_sL] at hw
    exact ih (i + 1) ls H locs (by omega) (by rw [nI_succ]; exact lv_sub hl [1, 0, 2, 3] rfl) hw
set_option maxHeartbeats 4000000 in
set_option maxRecDepth 100000 in
theorem c_Names_clear (l : Launch) (G : va_G) (K : Nat → ClassId) (n9 : Nat) (k9 : Nat) (n9_digits : Value) (n9_variableNames : Value) (n9_channelNames : Value) (n9_variables : Int32) (n9_channels : Int32) (fk : Nat → Int32) (sz : Nat) : Met l zy_Names_clear (Cond.code zy_Names_clear prog_6_method_2_code 1 none :: zTB) { frames := 1, cells := 0, slots := 0, locals := 23 } (va_Pc [.ref n9] (zPre G K [(n9, zO 5 [.ref k9, n9_digits, n9_variableNames, n9_channelNames, .int n9_variables, .int n9_channels]), (k9, zI K 8 fk)] sz)) (va_Qv (fun _ : Unit => True) (fun u t => zPost G K (va_A [(n9, zO 5 [.ref k9, n9_digits, n9_variableNames, n9_channelNames, .int n9_variables, .int n9_channels]), (k9, zI K 8 fk)] sz) [(n9, zO 5 [.ref k9, n9_digits, n9_variableNames, n9_channelNames, .int 0, .int 0]), (k9, zI K 8 (zFill fk 0 8))] t) (va_A [(n9, zO 5 [.ref k9, n9_digits, n9_variableNames, n9_channelNames, .int n9_variables, .int n9_channels]), (k9, zI K 8 fk)] sz)) 0 0 (va_A [(n9, zO 5 [.ref k9, n9_digits, n9_variableNames, n9_channelNames, .int n9_variables, .int n9_channels]), (k9, zI K 8 fk)] sz) := by
  refine zMet (y := zy_Names_clear) (av := [.ref n9]) (maxL := 1) (cc := prog_6_method_2_code) (ret := none) (W0 := [(n9, zO 5 [.ref k9, n9_digits, n9_variableNames, n9_channelNames, .int n9_variables, .int n9_channels]), (k9, zI K 8 fk)]) (sz := sz) (G := G) (K := K) (wt := zTB) (mc := 0) (ms := 0) (Qf := fun A => va_Qv (fun _ : Unit => True) (fun u t => zPost G K A [(n9, zO 5 [.ref k9, n9_digits, n9_variableNames, n9_channelNames, .int 0, .int 0]), (k9, zI K 8 (zFill fk 0 8))] t) A) (by decide) (Nat.le_of_ble_eq_true rfl) ?_
  intro p e s m below meth c ls A hx hb hr hml hts hown hlocks hin hA hK H locs hw hsz hl
  clear hsz
  have hown : s.vm.findClass "LassoFinder$Names" = some m.cls := hown
  have hl : lv_has ls 1 [(0, .ref n9)] := hl
  have hw : zW G A s.heap [(n9, zO 5 [.ref k9, n9_digits, n9_variableNames, n9_channelNames, .int n9_variables, .int n9_channels]), (k9, zI K 8 fk)] H locs := hw
  refine lv_aload_n hx hb zd_Names_clear_0 rfl (lv_at hl 0 rfl) ?_
  refine z_get hx hb hts hown hK hw zZ5 0 rfl 0 (by decide) zm_245 rfl zd_Names_clear_1 ?_
  refine lv_iconst (v := 0) hx hb zd_Names_clear_4 (by decide) ?_
  refine z_callv (w1 := fun (u5 : Unit) => [(k9, zI K 8 (zFill fk 0 8))]) (wr := [(n9, zO 5 [.ref k9, n9_digits, n9_variableNames, n9_channelNames, .int n9_variables, .int n9_channels])]) (z_runS (wc := [(k9, zI K 8 fk)]) (As := [.ref k9, .int 0]) (rest := []) ⟨hx, hb, hml, hown, hts⟩ (c_fillI l G K k9 8 fk 0 H.size (by decide)) zf_Arrays_fill zm_433 ⟨Nat.le_of_ble_eq_true rfl, Nat.le_of_ble_eq_true rfl⟩ hK hw [1] rfl (by decide) rfl hl.1 rfl (Nat.le_of_ble_eq_true rfl) zd_Names_clear_5 ⟨Nat.le_of_ble_eq_true rfl, Nat.le_of_ble_eq_true rfl⟩) hw hA [1] [0] rfl rfl (by decide) (by decide) (fun u5 H locs hu hw => ?_)
  have hw : zW G A s.heap [(n9, zO 5 [.ref k9, n9_digits, n9_variableNames, n9_channelNames, .int n9_variables, .int n9_channels]), (k9, zI K 8 (zFill fk 0 8))] H locs := hw
  refine lv_aload_n hx hb zd_Names_clear_8 rfl (lv_at hl 0 rfl) ?_
  refine lv_iconst (v := 0) hx hb zd_Names_clear_9 (by decide) ?_
  refine z_put hx hb hts hown hK hw zZ5 0 rfl 4 (by decide) zm_434 rfl rfl rfl (Nat.le_of_ble_eq_true rfl) zd_Names_clear_10 (fun H locs hw => ?_)
  have hw : zW G A s.heap [(n9, zO 5 [.ref k9, n9_digits, n9_variableNames, n9_channelNames, .int 0, .int n9_channels]), (k9, zI K 8 (zFill fk 0 8))] H locs := hw
  refine lv_aload_n hx hb zd_Names_clear_13 rfl (lv_at hl 0 rfl) ?_
  refine lv_iconst (v := 0) hx hb zd_Names_clear_14 (by decide) ?_
  refine z_put hx hb hts hown hK hw zZ5 0 rfl 5 (by decide) zm_435 rfl rfl rfl (Nat.le_of_ble_eq_true rfl) zd_Names_clear_15 (fun H locs hw => ?_)
  have hw : zW G A s.heap [(n9, zO 5 [.ref k9, n9_digits, n9_variableNames, n9_channelNames, .int 0, .int 0]), (k9, zI K 8 (zFill fk 0 8))] H locs := hw
  exact z_vret (u := ()) hx hb hr hlocks hw [0, 1] rfl (by decide) trivial (Nat.le_of_ble_eq_true rfl) (Nat.le_of_ble_eq_true rfl) zd_Names_clear_18
set_option maxHeartbeats 4000000 in
set_option maxRecDepth 100000 in
theorem c_Terms_clear (l : Launch) (G : va_G) (K : Nat → ClassId) (e9 : Nat) (e9_text : Value) (e9_names : Value) (e9_codes : Value) (e9_length : Int32) (e9_waiting : Value) (e9_waitingSigns : Int32) (e9_sides : Value) (e9_parts : Int32) (e9_open : Int32) (e9_compared : Int32) (sz : Nat) : Met l zy_Terms_clear (Cond.code zy_Terms_clear prog_9_method_2_code 1 none :: zTB) { frames := 0, cells := 0, slots := 0, locals := 0 } (va_Pc [.ref e9] (zPre G K [(e9, zO 8 [e9_text, e9_names, e9_codes, .int e9_length, e9_waiting, .int e9_waitingSigns, e9_sides, .int e9_parts, .int e9_open, .int e9_compared])] sz)) (va_Qv (fun _ : Unit => True) (fun u t => zPost G K (va_A [(e9, zO 8 [e9_text, e9_names, e9_codes, .int e9_length, e9_waiting, .int e9_waitingSigns, e9_sides, .int e9_parts, .int e9_open, .int e9_compared])] sz) [(e9, zO 8 [e9_text, e9_names, e9_codes, .int 0, e9_waiting, .int e9_waitingSigns, e9_sides, .int e9_parts, .int e9_open, .int e9_compared])] t) (va_A [(e9, zO 8 [e9_text, e9_names, e9_codes, .int e9_length, e9_waiting, .int e9_waitingSigns, e9_sides, .int e9_parts, .int e9_open, .int e9_compared])] sz)) 0 0 (va_A [(e9, zO 8 [e9_text, e9_names, e9_codes, .int e9_length, e9_waiting, .int e9_waitingSigns, e9_sides, .int e9_parts, .int e9_open, .int e9_compared])] sz) := by
  refine zMet (y := zy_Terms_clear) (av := [.ref e9]) (maxL := 1) (cc := prog_9_method_2_code) (ret := none) (W0 := [(e9, zO 8 [e9_text, e9_names, e9_codes, .int e9_length, e9_waiting, .int e9_waitingSigns, e9_sides, .int e9_parts, .int e9_open, .int e9_compared])]) (sz := sz) (G := G) (K := K) (wt := zTB) (mc := 0) (ms := 0) (Qf := fun A => va_Qv (fun _ : Unit => True) (fun u t => zPost G K A [(e9, zO 8 [e9_text, e9_names, e9_codes, .int 0, e9_waiting, .int e9_waitingSigns, e9_sides, .int e9_parts, .int e9_open, .int e9_compared])] t) A) (by decide) (Nat.le_of_ble_eq_true rfl) ?_
  intro p e s m below meth c ls A hx hb hr hml hts hown hlocks hin hA hK H locs hw hsz hl
  clear hsz
  have hown : s.vm.findClass "LassoFinder$Terms" = some m.cls := hown
  have hl : lv_has ls 1 [(0, .ref e9)] := hl
  have hw : zW G A s.heap [(e9, zO 8 [e9_text, e9_names, e9_codes, .int e9_length, e9_waiting, .int e9_waitingSigns, e9_sides, .int e9_parts, .int e9_open, .int e9_compared])] H locs := hw
  refine lv_aload_n hx hb zd_Terms_clear_0 rfl (lv_at hl 0 rfl) ?_
  refine lv_iconst (v := 0) hx hb zd_Terms_clear_1 (by decide) ?_
  refine z_put hx hb hts hown hK hw zZ8 0 rfl 3 (by decide) zm_436 rfl rfl rfl (Nat.le_of_ble_eq_true rfl) zd_Terms_clear_2 (fun H locs hw => ?_)
  have hw : zW G A s.heap [(e9, zO 8 [e9_text, e9_names, e9_codes, .int 0, e9_waiting, .int e9_waitingSigns, e9_sides, .int e9_parts, .int e9_open, .int e9_compared])] H locs := hw
  exact z_vret (u := ()) hx hb hr hlocks hw [0] rfl (by decide) trivial (Nat.le_of_ble_eq_true rfl) (Nat.le_of_ble_eq_true rfl) zd_Terms_clear_5
set_option maxHeartbeats 4000000 in
set_option maxRecDepth 100000 in
theorem c_Program_clear (l : Launch) (G : va_G) (K : Nat → ClassId) (p9 : Nat) (pr : Nat) (ps : Nat) (pl : Nat) (pb : Nat) (p9_kinds : Value) (p9_channel : Value) (p9_variable : Value) (p9_expression : Value) (p9_actor : Value) (p9_after : Value) (p9_keeps : Value) (p9_elses : Int64) (p9_basics : Int32) (p9_processes : Int32) (fr : Nat → Int64) (fs : Nat → Int32) (fl : Nat → Int32) (fb : Nat → Int64) (sz : Nat) : Met l zy_Program_clear (Cond.code zy_Program_clear prog_7_method_2_code 1 none :: zTB) { frames := 1, cells := 0, slots := 0, locals := 24 } (va_Pc [.ref p9] (zPre G K [(p9, zO 6 [p9_kinds, p9_channel, p9_variable, p9_expression, p9_actor, p9_after, p9_keeps, .ref pr, .ref ps, .ref pl, .ref pb, .long p9_elses, .int p9_basics, .int p9_processes]), (pr, zJ K 8 fr), (ps, zI K 4 fs), (pl, zI K 32 fl), (pb, zJ K 124 fb)] sz)) (va_Qv (fun _ : Unit => True) (fun u t => zPost G K (va_A [(p9, zO 6 [p9_kinds, p9_channel, p9_variable, p9_expression, p9_actor, p9_after, p9_keeps, .ref pr, .ref ps, .ref pl, .ref pb, .long p9_elses, .int p9_basics, .int p9_processes]), (pr, zJ K 8 fr), (ps, zI K 4 fs), (pl, zI K 32 fl), (pb, zJ K 124 fb)] sz) [(p9, zO 6 [p9_kinds, p9_channel, p9_variable, p9_expression, p9_actor, p9_after, p9_keeps, .ref pr, .ref ps, .ref pl, .ref pb, .long 0, .int 0, .int 0]), (pr, zJ K 8 (zFill fr 0 8)), (ps, zI K 4 (zFill fs 0 4)), (pl, zI K 32 (zFill fl (-1) 32)), (pb, zJ K 124 (zFill fb 0 124))] t) (va_A [(p9, zO 6 [p9_kinds, p9_channel, p9_variable, p9_expression, p9_actor, p9_after, p9_keeps, .ref pr, .ref ps, .ref pl, .ref pb, .long p9_elses, .int p9_basics, .int p9_processes]), (pr, zJ K 8 fr), (ps, zI K 4 fs), (pl, zI K 32 fl), (pb, zJ K 124 fb)] sz)) 0 0 (va_A [(p9, zO 6 [p9_kinds, p9_channel, p9_variable, p9_expression, p9_actor, p9_after, p9_keeps, .ref pr, .ref ps, .ref pl, .ref pb, .long p9_elses, .int p9_basics, .int p9_processes]), (pr, zJ K 8 fr), (ps, zI K 4 fs), (pl, zI K 32 fl), (pb, zJ K 124 fb)] sz) := by
  refine zMet (y := zy_Program_clear) (av := [.ref p9]) (maxL := 1) (cc := prog_7_method_2_code) (ret := none) (W0 := [(p9, zO 6 [p9_kinds, p9_channel, p9_variable, p9_expression, p9_actor, p9_after, p9_keeps, .ref pr, .ref ps, .ref pl, .ref pb, .long p9_elses, .int p9_basics, .int p9_processes]), (pr, zJ K 8 fr), (ps, zI K 4 fs), (pl, zI K 32 fl), (pb, zJ K 124 fb)]) (sz := sz) (G := G) (K := K) (wt := zTB) (mc := 0) (ms := 0) (Qf := fun A => va_Qv (fun _ : Unit => True) (fun u t => zPost G K A [(p9, zO 6 [p9_kinds, p9_channel, p9_variable, p9_expression, p9_actor, p9_after, p9_keeps, .ref pr, .ref ps, .ref pl, .ref pb, .long 0, .int 0, .int 0]), (pr, zJ K 8 (zFill fr 0 8)), (ps, zI K 4 (zFill fs 0 4)), (pl, zI K 32 (zFill fl (-1) 32)), (pb, zJ K 124 (zFill fb 0 124))] t) A) (by decide) (Nat.le_of_ble_eq_true rfl) ?_
  intro p e s m below meth c ls A hx hb hr hml hts hown hlocks hin hA hK H locs hw hsz hl
  clear hsz
  have hown : s.vm.findClass "LassoFinder$Program" = some m.cls := hown
  have hl : lv_has ls 1 [(0, .ref p9)] := hl
  have hw : zW G A s.heap [(p9, zO 6 [p9_kinds, p9_channel, p9_variable, p9_expression, p9_actor, p9_after, p9_keeps, .ref pr, .ref ps, .ref pl, .ref pb, .long p9_elses, .int p9_basics, .int p9_processes]), (pr, zJ K 8 fr), (ps, zI K 4 fs), (pl, zI K 32 fl), (pb, zJ K 124 fb)] H locs := hw
  refine lv_aload_n hx hb zd_Program_clear_0 rfl (lv_at hl 0 rfl) ?_
  refine z_get hx hb hts hown hK hw zZ6 0 rfl 7 (by decide) zm_257 rfl zd_Program_clear_1 ?_
  refine lv_lconst (v := 0) hx hb zd_Program_clear_4 (by decide) ?_
  refine z_callv (w1 := fun (u5 : Unit) => [(pr, zJ K 8 (zFill fr 0 8))]) (wr := [(p9, zO 6 [p9_kinds, p9_channel, p9_variable, p9_expression, p9_actor, p9_after, p9_keeps, .ref pr, .ref ps, .ref pl, .ref pb, .long p9_elses, .int p9_basics, .int p9_processes]), (ps, zI K 4 fs), (pl, zI K 32 fl), (pb, zJ K 124 fb)]) (z_runS (wc := [(pr, zJ K 8 fr)]) (As := [.ref pr, .long 0]) (rest := []) ⟨hx, hb, hml, hown, hts⟩ (c_fillJ l G K pr 8 fr 0 H.size (by decide)) zf_Arrays_fill_2 zm_437 ⟨Nat.le_of_ble_eq_true rfl, Nat.le_of_ble_eq_true rfl⟩ hK hw [1] rfl (by decide) rfl hl.1 rfl (Nat.le_of_ble_eq_true rfl) zd_Program_clear_5 ⟨Nat.le_of_ble_eq_true rfl, Nat.le_of_ble_eq_true rfl⟩) hw hA [1] [0, 2, 3, 4] rfl rfl (by decide) (by decide) (fun u5 H locs hu hw => ?_)
  have hw : zW G A s.heap [(p9, zO 6 [p9_kinds, p9_channel, p9_variable, p9_expression, p9_actor, p9_after, p9_keeps, .ref pr, .ref ps, .ref pl, .ref pb, .long p9_elses, .int p9_basics, .int p9_processes]), (ps, zI K 4 fs), (pl, zI K 32 fl), (pb, zJ K 124 fb), (pr, zJ K 8 (zFill fr 0 8))] H locs := hw
  refine lv_aload_n hx hb zd_Program_clear_8 rfl (lv_at hl 0 rfl) ?_
  refine z_get hx hb hts hown hK hw zZ6 0 rfl 8 (by decide) zm_258 rfl zd_Program_clear_9 ?_
  refine lv_iconst (v := 0) hx hb zd_Program_clear_12 (by decide) ?_
  refine z_callv (w1 := fun (u13 : Unit) => [(ps, zI K 4 (zFill fs 0 4))]) (wr := [(p9, zO 6 [p9_kinds, p9_channel, p9_variable, p9_expression, p9_actor, p9_after, p9_keeps, .ref pr, .ref ps, .ref pl, .ref pb, .long p9_elses, .int p9_basics, .int p9_processes]), (pl, zI K 32 fl), (pb, zJ K 124 fb), (pr, zJ K 8 (zFill fr 0 8))]) (z_runS (wc := [(ps, zI K 4 fs)]) (As := [.ref ps, .int 0]) (rest := []) ⟨hx, hb, hml, hown, hts⟩ (c_fillI l G K ps 4 fs 0 H.size (by decide)) zf_Arrays_fill zm_438 ⟨Nat.le_of_ble_eq_true rfl, Nat.le_of_ble_eq_true rfl⟩ hK hw [1] rfl (by decide) rfl hl.1 rfl (Nat.le_of_ble_eq_true rfl) zd_Program_clear_13 ⟨Nat.le_of_ble_eq_true rfl, Nat.le_of_ble_eq_true rfl⟩) hw hA [1] [0, 2, 3, 4] rfl rfl (by decide) (by decide) (fun u13 H locs hu hw => ?_)
  have hw : zW G A s.heap [(p9, zO 6 [p9_kinds, p9_channel, p9_variable, p9_expression, p9_actor, p9_after, p9_keeps, .ref pr, .ref ps, .ref pl, .ref pb, .long p9_elses, .int p9_basics, .int p9_processes]), (pl, zI K 32 fl), (pb, zJ K 124 fb), (pr, zJ K 8 (zFill fr 0 8)), (ps, zI K 4 (zFill fs 0 4))] H locs := hw
  refine lv_aload_n hx hb zd_Program_clear_16 rfl (lv_at hl 0 rfl) ?_
  refine z_get hx hb hts hown hK hw zZ6 0 rfl 9 (by decide) zm_259 rfl zd_Program_clear_17 ?_
  refine lv_iconst (v := (-1)) hx hb zd_Program_clear_20 (by decide) ?_
  refine z_callv (w1 := fun (u21 : Unit) => [(pl, zI K 32 (zFill fl (-1) 32))]) (wr := [(p9, zO 6 [p9_kinds, p9_channel, p9_variable, p9_expression, p9_actor, p9_after, p9_keeps, .ref pr, .ref ps, .ref pl, .ref pb, .long p9_elses, .int p9_basics, .int p9_processes]), (pb, zJ K 124 fb), (pr, zJ K 8 (zFill fr 0 8)), (ps, zI K 4 (zFill fs 0 4))]) (z_runS (wc := [(pl, zI K 32 fl)]) (As := [.ref pl, .int (-1)]) (rest := []) ⟨hx, hb, hml, hown, hts⟩ (c_fillI l G K pl 32 fl (-1) H.size (by decide)) zf_Arrays_fill zm_438 ⟨Nat.le_of_ble_eq_true rfl, Nat.le_of_ble_eq_true rfl⟩ hK hw [1] rfl (by decide) rfl hl.1 rfl (Nat.le_of_ble_eq_true rfl) zd_Program_clear_21 ⟨Nat.le_of_ble_eq_true rfl, Nat.le_of_ble_eq_true rfl⟩) hw hA [1] [0, 2, 3, 4] rfl rfl (by decide) (by decide) (fun u21 H locs hu hw => ?_)
  have hw : zW G A s.heap [(p9, zO 6 [p9_kinds, p9_channel, p9_variable, p9_expression, p9_actor, p9_after, p9_keeps, .ref pr, .ref ps, .ref pl, .ref pb, .long p9_elses, .int p9_basics, .int p9_processes]), (pb, zJ K 124 fb), (pr, zJ K 8 (zFill fr 0 8)), (ps, zI K 4 (zFill fs 0 4)), (pl, zI K 32 (zFill fl (-1) 32))] H locs := hw
  refine lv_aload_n hx hb zd_Program_clear_24 rfl (lv_at hl 0 rfl) ?_
  refine z_get hx hb hts hown hK hw zZ6 0 rfl 10 (by decide) zm_260 rfl zd_Program_clear_25 ?_
  refine lv_lconst (v := 0) hx hb zd_Program_clear_28 (by decide) ?_
  refine z_callv (w1 := fun (u29 : Unit) => [(pb, zJ K 124 (zFill fb 0 124))]) (wr := [(p9, zO 6 [p9_kinds, p9_channel, p9_variable, p9_expression, p9_actor, p9_after, p9_keeps, .ref pr, .ref ps, .ref pl, .ref pb, .long p9_elses, .int p9_basics, .int p9_processes]), (pr, zJ K 8 (zFill fr 0 8)), (ps, zI K 4 (zFill fs 0 4)), (pl, zI K 32 (zFill fl (-1) 32))]) (z_runS (wc := [(pb, zJ K 124 fb)]) (As := [.ref pb, .long 0]) (rest := []) ⟨hx, hb, hml, hown, hts⟩ (c_fillJ l G K pb 124 fb 0 H.size (by decide)) zf_Arrays_fill_2 zm_437 ⟨Nat.le_of_ble_eq_true rfl, Nat.le_of_ble_eq_true rfl⟩ hK hw [1] rfl (by decide) rfl hl.1 rfl (Nat.le_of_ble_eq_true rfl) zd_Program_clear_29 ⟨Nat.le_of_ble_eq_true rfl, Nat.le_of_ble_eq_true rfl⟩) hw hA [1] [0, 2, 3, 4] rfl rfl (by decide) (by decide) (fun u29 H locs hu hw => ?_)
  have hw : zW G A s.heap [(p9, zO 6 [p9_kinds, p9_channel, p9_variable, p9_expression, p9_actor, p9_after, p9_keeps, .ref pr, .ref ps, .ref pl, .ref pb, .long p9_elses, .int p9_basics, .int p9_processes]), (pr, zJ K 8 (zFill fr 0 8)), (ps, zI K 4 (zFill fs 0 4)), (pl, zI K 32 (zFill fl (-1) 32)), (pb, zJ K 124 (zFill fb 0 124))] H locs := hw
  refine lv_aload_n hx hb zd_Program_clear_32 rfl (lv_at hl 0 rfl) ?_
  refine lv_lconst (v := 0) hx hb zd_Program_clear_33 (by decide) ?_
  refine z_put hx hb hts hown hK hw zZ6 0 rfl 11 (by decide) zm_439 rfl rfl rfl (Nat.le_of_ble_eq_true rfl) zd_Program_clear_34 (fun H locs hw => ?_)
  have hw : zW G A s.heap [(p9, zO 6 [p9_kinds, p9_channel, p9_variable, p9_expression, p9_actor, p9_after, p9_keeps, .ref pr, .ref ps, .ref pl, .ref pb, .long 0, .int p9_basics, .int p9_processes]), (pr, zJ K 8 (zFill fr 0 8)), (ps, zI K 4 (zFill fs 0 4)), (pl, zI K 32 (zFill fl (-1) 32)), (pb, zJ K 124 (zFill fb 0 124))] H locs := hw
  refine lv_aload_n hx hb zd_Program_clear_37 rfl (lv_at hl 0 rfl) ?_
  refine lv_iconst (v := 0) hx hb zd_Program_clear_38 (by decide) ?_
  refine z_put hx hb hts hown hK hw zZ6 0 rfl 12 (by decide) zm_440 rfl rfl rfl (Nat.le_of_ble_eq_true rfl) zd_Program_clear_39 (fun H locs hw => ?_)
  have hw : zW G A s.heap [(p9, zO 6 [p9_kinds, p9_channel, p9_variable, p9_expression, p9_actor, p9_after, p9_keeps, .ref pr, .ref ps, .ref pl, .ref pb, .long 0, .int 0, .int p9_processes]), (pr, zJ K 8 (zFill fr 0 8)), (ps, zI K 4 (zFill fs 0 4)), (pl, zI K 32 (zFill fl (-1) 32)), (pb, zJ K 124 (zFill fb 0 124))] H locs := hw
  refine lv_aload_n hx hb zd_Program_clear_42 rfl (lv_at hl 0 rfl) ?_
  refine lv_iconst (v := 0) hx hb zd_Program_clear_43 (by decide) ?_
  refine z_put hx hb hts hown hK hw zZ6 0 rfl 13 (by decide) zm_441 rfl rfl rfl (Nat.le_of_ble_eq_true rfl) zd_Program_clear_44 (fun H locs hw => ?_)
  have hw : zW G A s.heap [(p9, zO 6 [p9_kinds, p9_channel, p9_variable, p9_expression, p9_actor, p9_after, p9_keeps, .ref pr, .ref ps, .ref pl, .ref pb, .long 0, .int 0, .int 0]), (pr, zJ K 8 (zFill fr 0 8)), (ps, zI K 4 (zFill fs 0 4)), (pl, zI K 32 (zFill fl (-1) 32)), (pb, zJ K 124 (zFill fb 0 124))] H locs := hw
  exact z_vret (u := ()) hx hb hr hlocks hw [0, 1, 2, 3, 4] rfl (by decide) trivial (Nat.le_of_ble_eq_true rfl) (Nat.le_of_ble_eq_true rfl) zd_Program_clear_47
set_option maxHeartbeats 4000000 in
set_option maxRecDepth 100000 in
theorem c_Text_open (l : Launch) (G : va_G) (K : Nat → ClassId) (t9 : Nat) (t9_signs : Value) (t9_written : Int32) (t9_end : Int32) (t9_at : Int32) (t9_wrongAt : Int32) (sz : Nat) : Met l zy_Text_open (Cond.code zy_Text_open prog_10_method_3_code 1 none :: zTB) { frames := 0, cells := 0, slots := 0, locals := 0 } (va_Pc [.ref t9] (zPre G K [(t9, zO 9 [t9_signs, .int t9_written, .int t9_end, .int t9_at, .int t9_wrongAt])] sz)) (va_Qv (fun _ : Unit => True) (fun u t => zPost G K (va_A [(t9, zO 9 [t9_signs, .int t9_written, .int t9_end, .int t9_at, .int t9_wrongAt])] sz) [(t9, zO 9 [t9_signs, .int 0, .int t9_written, .int 0, .int (-1)])] t) (va_A [(t9, zO 9 [t9_signs, .int t9_written, .int t9_end, .int t9_at, .int t9_wrongAt])] sz)) 0 0 (va_A [(t9, zO 9 [t9_signs, .int t9_written, .int t9_end, .int t9_at, .int t9_wrongAt])] sz) := by
  refine zMet (y := zy_Text_open) (av := [.ref t9]) (maxL := 1) (cc := prog_10_method_3_code) (ret := none) (W0 := [(t9, zO 9 [t9_signs, .int t9_written, .int t9_end, .int t9_at, .int t9_wrongAt])]) (sz := sz) (G := G) (K := K) (wt := zTB) (mc := 0) (ms := 0) (Qf := fun A => va_Qv (fun _ : Unit => True) (fun u t => zPost G K A [(t9, zO 9 [t9_signs, .int 0, .int t9_written, .int 0, .int (-1)])] t) A) (by decide) (Nat.le_of_ble_eq_true rfl) ?_
  intro p e s m below meth c ls A hx hb hr hml hts hown hlocks hin hA hK H locs hw hsz hl
  clear hsz
  have hown : s.vm.findClass "LassoFinder$Text" = some m.cls := hown
  have hl : lv_has ls 1 [(0, .ref t9)] := hl
  have hw : zW G A s.heap [(t9, zO 9 [t9_signs, .int t9_written, .int t9_end, .int t9_at, .int t9_wrongAt])] H locs := hw
  refine lv_aload_n hx hb zd_Text_open_0 rfl (lv_at hl 0 rfl) ?_
  refine lv_aload_n hx hb zd_Text_open_1 rfl (lv_at hl 0 rfl) ?_
  refine z_get hx hb hts hown hK hw zZ9 0 rfl 1 (by decide) zm_442 rfl zd_Text_open_2 ?_
  refine z_put hx hb hts hown hK hw zZ9 0 rfl 2 (by decide) zm_443 rfl rfl rfl (Nat.le_of_ble_eq_true rfl) zd_Text_open_5 (fun H locs hw => ?_)
  have hw : zW G A s.heap [(t9, zO 9 [t9_signs, .int t9_written, .int t9_written, .int t9_at, .int t9_wrongAt])] H locs := hw
  refine lv_aload_n hx hb zd_Text_open_8 rfl (lv_at hl 0 rfl) ?_
  refine lv_iconst (v := 0) hx hb zd_Text_open_9 (by decide) ?_
  refine z_put hx hb hts hown hK hw zZ9 0 rfl 1 (by decide) zm_442 rfl rfl rfl (Nat.le_of_ble_eq_true rfl) zd_Text_open_10 (fun H locs hw => ?_)
  have hw : zW G A s.heap [(t9, zO 9 [t9_signs, .int 0, .int t9_written, .int t9_at, .int t9_wrongAt])] H locs := hw
  refine lv_aload_n hx hb zd_Text_open_13 rfl (lv_at hl 0 rfl) ?_
  refine lv_iconst (v := 0) hx hb zd_Text_open_14 (by decide) ?_
  refine z_put hx hb hts hown hK hw zZ9 0 rfl 3 (by decide) zm_444 rfl rfl rfl (Nat.le_of_ble_eq_true rfl) zd_Text_open_15 (fun H locs hw => ?_)
  have hw : zW G A s.heap [(t9, zO 9 [t9_signs, .int 0, .int t9_written, .int 0, .int t9_wrongAt])] H locs := hw
  refine lv_aload_n hx hb zd_Text_open_18 rfl (lv_at hl 0 rfl) ?_
  refine lv_iconst (v := (-1)) hx hb zd_Text_open_19 (by decide) ?_
  refine z_put hx hb hts hown hK hw zZ9 0 rfl 4 (by decide) zm_243 rfl rfl rfl (Nat.le_of_ble_eq_true rfl) zd_Text_open_20 (fun H locs hw => ?_)
  have hw : zW G A s.heap [(t9, zO 9 [t9_signs, .int 0, .int t9_written, .int 0, .int (-1)])] H locs := hw
  exact z_vret (u := ()) hx hb hr hlocks hw [0] rfl (by decide) trivial (Nat.le_of_ble_eq_true rfl) (Nat.le_of_ble_eq_true rfl) zd_Text_open_23
set_option maxHeartbeats 4000000 in
set_option maxRecDepth 100000 in
/-- ahead at the end of an empty text -/
theorem c_Text_ahead_0 (l : Launch) (G : va_G) (K : Nat → ClassId) (t9 : Nat) (t9_signs : Value) (t9_written : Int32) (t9_wrongAt : Int32) (sz : Nat) : Met l zy_Text_ahead (Cond.code zy_Text_ahead prog_10_method_5_code 1 (some .char) :: zTB) { frames := 0, cells := 0, slots := 0, locals := 0 } (va_Pc [.ref t9] (zPre G K [(t9, zO 9 [t9_signs, .int t9_written, .int 0, .int 0, .int t9_wrongAt])] sz)) (va_Qi (fun (r : Int32) (u : Unit) => r = 0) (fun u t => zPost G K (va_A [(t9, zO 9 [t9_signs, .int t9_written, .int 0, .int 0, .int t9_wrongAt])] sz) [(t9, zO 9 [t9_signs, .int t9_written, .int 0, .int 0, .int t9_wrongAt])] t) (va_A [(t9, zO 9 [t9_signs, .int t9_written, .int 0, .int 0, .int t9_wrongAt])] sz)) 0 0 (va_A [(t9, zO 9 [t9_signs, .int t9_written, .int 0, .int 0, .int t9_wrongAt])] sz) := by
  refine zMet (y := zy_Text_ahead) (av := [.ref t9]) (maxL := 1) (cc := prog_10_method_5_code) (ret := (some .char)) (W0 := [(t9, zO 9 [t9_signs, .int t9_written, .int 0, .int 0, .int t9_wrongAt])]) (sz := sz) (G := G) (K := K) (wt := zTB) (mc := 0) (ms := 0) (Qf := fun A => va_Qi (fun (r : Int32) (u : Unit) => r = 0) (fun u t => zPost G K A [(t9, zO 9 [t9_signs, .int t9_written, .int 0, .int 0, .int t9_wrongAt])] t) A) (by decide) (Nat.le_of_ble_eq_true rfl) ?_
  intro p e s m below meth c ls A hx hb hr hml hts hown hlocks hin hA hK H locs hw hsz hl
  clear hsz
  have hown : s.vm.findClass "LassoFinder$Text" = some m.cls := hown
  have hl : lv_has ls 1 [(0, .ref t9)] := hl
  have hw : zW G A s.heap [(t9, zO 9 [t9_signs, .int t9_written, .int 0, .int 0, .int t9_wrongAt])] H locs := hw
  refine lv_aload_n hx hb zd_Text_ahead_0 rfl (lv_at hl 0 rfl) ?_
  refine z_get hx hb hts hown hK hw zZ9 0 rfl 3 (by decide) zm_444 rfl zd_Text_ahead_1 ?_
  refine lv_aload_n hx hb zd_Text_ahead_4 rfl (lv_at hl 0 rfl) ?_
  refine z_get hx hb hts hown hK hw zZ9 0 rfl 2 (by decide) zm_443 rfl zd_Text_ahead_5 ?_
  refine lv_icmp_ge (tgt := 23) hx hb zd_Text_ahead_8 (by decide) (fun _ => ?_) (fun h9 => absurd h9 (by decide))
  refine lv_iconst (v := 0) hx hb zd_Text_ahead_23 (by decide) ?_
  exact z_iret (u := ()) hx hb hr hlocks rfl hw [0] rfl (by decide) rfl (Nat.le_of_ble_eq_true rfl) (Nat.le_of_ble_eq_true rfl) zd_Text_ahead_24
set_option maxHeartbeats 4000000 in
set_option maxRecDepth 100000 in
theorem c_Text_accept_0 (l : Launch) (G : va_G) (K : Nat → ClassId) (t9 : Nat) (t9_signs : Value) (t9_written : Int32) (t9_wrongAt : Int32) (sz : Nat) : Met l zy_Text_accept (Cond.code zy_Text_accept prog_10_method_8_code 2 (some .boolean) :: zTB) { frames := 1, cells := 0, slots := 0, locals := 20 } (va_Pc [.ref t9, .int 35] (zPre G K [(t9, zO 9 [t9_signs, .int t9_written, .int 0, .int 0, .int t9_wrongAt])] sz)) (va_Qi (fun (r : Int32) (u : Unit) => r = 0) (fun u t => zPost G K (va_A [(t9, zO 9 [t9_signs, .int t9_written, .int 0, .int 0, .int t9_wrongAt])] sz) [(t9, zO 9 [t9_signs, .int t9_written, .int 0, .int 0, .int t9_wrongAt])] t) (va_A [(t9, zO 9 [t9_signs, .int t9_written, .int 0, .int 0, .int t9_wrongAt])] sz)) 0 0 (va_A [(t9, zO 9 [t9_signs, .int t9_written, .int 0, .int 0, .int t9_wrongAt])] sz) := by
  refine zMet (y := zy_Text_accept) (av := [.ref t9, .int 35]) (maxL := 2) (cc := prog_10_method_8_code) (ret := (some .boolean)) (W0 := [(t9, zO 9 [t9_signs, .int t9_written, .int 0, .int 0, .int t9_wrongAt])]) (sz := sz) (G := G) (K := K) (wt := zTB) (mc := 0) (ms := 0) (Qf := fun A => va_Qi (fun (r : Int32) (u : Unit) => r = 0) (fun u t => zPost G K A [(t9, zO 9 [t9_signs, .int t9_written, .int 0, .int 0, .int t9_wrongAt])] t) A) (by decide) (Nat.le_of_ble_eq_true rfl) ?_
  intro p e s m below meth c ls A hx hb hr hml hts hown hlocks hin hA hK H locs hw hsz hl
  clear hsz
  have hown : s.vm.findClass "LassoFinder$Text" = some m.cls := hown
  have hl : lv_has ls 2 [(0, .ref t9), (1, .int 35)] := hl
  have hw : zW G A s.heap [(t9, zO 9 [t9_signs, .int t9_written, .int 0, .int 0, .int t9_wrongAt])] H locs := hw
  refine lv_aload_n hx hb zd_Text_accept_0 rfl (lv_at hl 0 rfl) ?_
  refine z_calli (w1 := fun (u1 : Unit) => [(t9, zO 9 [t9_signs, .int t9_written, .int 0, .int 0, .int t9_wrongAt])]) (wr := []) (z_runV (q0 := 0) (wc := [(t9, zO 9 [t9_signs, .int t9_written, .int 0, .int 0, .int t9_wrongAt])]) (As := []) (rest := []) ⟨hx, hb, hml, hown, hts⟩ (c_Text_ahead_0 l G K t9 t9_signs t9_written t9_wrongAt H.size ) zf_Text_ahead zm_445 ⟨Nat.le_of_ble_eq_true rfl, Nat.le_of_ble_eq_true rfl⟩ hK hw [0] rfl (by decide) rfl rfl rfl hl.1 rfl (Nat.le_of_ble_eq_true rfl) zd_Text_accept_1 ⟨Nat.le_of_ble_eq_true rfl, Nat.le_of_ble_eq_true rfl⟩) hw hA [0] [] rfl rfl (by decide) (by decide) (fun r1 u1 H locs hu hw => ?_)
  obtain rfl := hu
  have hw : zW G A s.heap [(t9, zO 9 [t9_signs, .int t9_written, .int 0, .int 0, .int t9_wrongAt])] H locs := hw
  refine lv_iload_n hx hb zd_Text_accept_4 rfl (lv_at hl 1 rfl) ?_
  refine lv_icmp_eq (tgt := 10) hx hb zd_Text_accept_5 (by decide) (fun h9 => absurd h9 (by decide)) (fun _ => ?_)
  refine lv_iconst (v := 0) hx hb zd_Text_accept_8 (by decide) ?_
  exact z_iret (u := ()) hx hb hr hlocks rfl hw [0] rfl (by decide) rfl (Nat.le_of_ble_eq_true rfl) (Nat.le_of_ble_eq_true rfl) zd_Text_accept_9
set_option maxHeartbeats 4000000 in
set_option maxRecDepth 100000 in
theorem c_Text_oneOf_0 (l : Launch) (G : va_G) (K : Nat → ClassId) (t9 : Nat) (t9_signs : Value) (t9_written : Int32) (t9_wrongAt : Int32) (sz : Nat) : Met l zy_Text_oneOf (Cond.code zy_Text_oneOf prog_10_method_6_code 3 (some .int) :: zTB) { frames := 0, cells := 0, slots := 0, locals := 0 } (va_Pc [.ref t9, .int 97] (zPre G K [(t9, zO 9 [t9_signs, .int t9_written, .int 0, .int 0, .int t9_wrongAt])] sz)) (va_Qi (fun (r : Int32) (u : Unit) => r = (-1)) (fun u t => zPost G K (va_A [(t9, zO 9 [t9_signs, .int t9_written, .int 0, .int 0, .int t9_wrongAt])] sz) [(t9, zO 9 [t9_signs, .int t9_written, .int 0, .int 0, .int t9_wrongAt])] t) (va_A [(t9, zO 9 [t9_signs, .int t9_written, .int 0, .int 0, .int t9_wrongAt])] sz)) 0 0 (va_A [(t9, zO 9 [t9_signs, .int t9_written, .int 0, .int 0, .int t9_wrongAt])] sz) := by
  refine zMet (y := zy_Text_oneOf) (av := [.ref t9, .int 97]) (maxL := 3) (cc := prog_10_method_6_code) (ret := (some .int)) (W0 := [(t9, zO 9 [t9_signs, .int t9_written, .int 0, .int 0, .int t9_wrongAt])]) (sz := sz) (G := G) (K := K) (wt := zTB) (mc := 0) (ms := 0) (Qf := fun A => va_Qi (fun (r : Int32) (u : Unit) => r = (-1)) (fun u t => zPost G K A [(t9, zO 9 [t9_signs, .int t9_written, .int 0, .int 0, .int t9_wrongAt])] t) A) (by decide) (Nat.le_of_ble_eq_true rfl) ?_
  intro p e s m below meth c ls A hx hb hr hml hts hown hlocks hin hA hK H locs hw hsz hl
  clear hsz
  have hown : s.vm.findClass "LassoFinder$Text" = some m.cls := hown
  have hl : lv_has ls 3 [(0, .ref t9), (1, .int 97)] := hl
  have hw : zW G A s.heap [(t9, zO 9 [t9_signs, .int t9_written, .int 0, .int 0, .int t9_wrongAt])] H locs := hw
  refine lv_aload_n hx hb zd_Text_oneOf_0 rfl (lv_at hl 0 rfl) ?_
  refine z_get hx hb hts hown hK hw zZ9 0 rfl 3 (by decide) zm_444 rfl zd_Text_oneOf_1 ?_
  refine lv_aload_n hx hb zd_Text_oneOf_4 rfl (lv_at hl 0 rfl) ?_
  refine z_get hx hb hts hown hK hw zZ9 0 rfl 2 (by decide) zm_443 rfl zd_Text_oneOf_5 ?_
  refine lv_icmp_ge (tgt := 25) hx hb zd_Text_oneOf_8 (by decide) (fun _ => ?_) (fun h9 => absurd h9 (by decide))
  refine lv_iconst (v := (-1)) hx hb zd_Text_oneOf_25 (by decide) ?_
  refine lv_istore_n hx hb zd_Text_oneOf_26 rfl hl (by decide) rfl (fun ls hl => ?_)
  have hl : lv_has ls 3 [(2, .int (-1)), (0, .ref t9), (1, .int 97)] := hl
  refine lv_iload_n hx hb zd_Text_oneOf_27 rfl (lv_at hl 0 rfl) ?_
  refine lv_if_lt (tgt := 41) hx hb zd_Text_oneOf_28 (by decide) (fun _ => ?_) (fun h9 => absurd h9 (by decide))
  refine lv_iconst (v := (-1)) hx hb zd_Text_oneOf_41 (by decide) ?_
  exact z_iret (u := ()) hx hb hr hlocks rfl hw [0] rfl (by decide) rfl (Nat.le_of_ble_eq_true rfl) (Nat.le_of_ble_eq_true rfl) zd_Text_oneOf_42
set_option maxHeartbeats 4000000 in
set_option maxRecDepth 100000 in
theorem c_Text_refuse (l : Launch) (hlt : l.stackTraces = false) (G : va_G) (K : Nat → ClassId) (t9 : Nat) (t9_signs : Value) (t9_written : Int32) (t9_end : Int32) (t9_at : Int32) (t9_wrongAt : Int32) (sz : Nat) : zxMet l zy_Text_refuse (Cond.code zy_Text_refuse prog_10_method_11_code 1 none :: zTB) { frames := 6, cells := 1, slots := 6, locals := 81 } (va_Pc [.ref t9] (zPreX G K [(t9, zO 9 [t9_signs, .int t9_written, .int t9_end, .int t9_at, .int t9_wrongAt])] sz)) "java/lang/IllegalArgumentException" (zXC (fun _ : Unit => True) (fun _ => []) G K (va_A [(t9, zO 9 [t9_signs, .int t9_written, .int t9_end, .int t9_at, .int t9_wrongAt])] sz)) 1 6 (va_A [(t9, zO 9 [t9_signs, .int t9_written, .int t9_end, .int t9_at, .int t9_wrongAt])] sz) := by
  refine zMetX (Xf := fun A => (zXC (fun _ : Unit => True) (fun _ => []) G K A)) (by decide) (Nat.le_of_ble_eq_true rfl) ?_
  intro p e s m below meth c ls A hx hb hr hml hts hown hlocks hin hA hK H locs hw hsz hl hT hnt hNS
  clear hsz
  have hown : s.vm.findClass "LassoFinder$Text" = some m.cls := hown
  have hl : lv_has ls 1 [(0, .ref t9)] := hl
  have hw : zW G A s.heap [(t9, zO 9 [t9_signs, .int t9_written, .int t9_end, .int t9_at, .int t9_wrongAt])] H locs := hw
  refine lv_aload_n hx hb zd_Text_refuse_0 rfl (lv_at hl 0 rfl) ?_
  refine lv_aload_n hx hb zd_Text_refuse_1 rfl (lv_at hl 0 rfl) ?_
  refine z_get hx hb hts hown hK hw zZ9 0 rfl 3 (by decide) zm_444 rfl zd_Text_refuse_2 ?_
  refine z_put hx hb hts hown hK hw zZ9 0 rfl 4 (by decide) zm_243 rfl rfl rfl (Nat.le_of_ble_eq_true rfl) zd_Text_refuse_5 (fun H locs hw => ?_)
  have hw : zW G A s.heap [(t9, zO 9 [t9_signs, .int t9_written, .int t9_end, .int t9_at, .int t9_at])] H locs := hw
  exact z_throw (names := ["java/lang/RuntimeException", "java/lang/Exception"]) hx hb hlt hts hown hnt hlocks hT hNS (by rw [hml]; exact hl.1) (by decide +kernel) (by decide +kernel) zm_446 zm_447 zm_448 zx_0 hw zd_Text_refuse_8 zd_Text_refuse_11 zd_Text_refuse_12 zd_Text_refuse_15 (Nat.le_of_ble_eq_true rfl) (Nat.le_of_ble_eq_true rfl) (Nat.le_of_ble_eq_true rfl) (Nat.le_of_ble_eq_true rfl) (Nat.le_of_ble_eq_true rfl) (Nat.le_of_ble_eq_true rfl)
set_option maxHeartbeats 4000000 in
set_option maxRecDepth 100000 in
theorem c_ModelReader_readDeclaration_0 (l : Launch) (hlt : l.stackTraces = false) (G : va_G) (K : Nat → ClassId) (r9 : Nat) (t9 : Nat) (r9_names : Value) (r9_terms : Value) (r9_program : Value) (r9_tree : Value) (t9_signs : Value) (t9_written : Int32) (t9_wrongAt : Int32) (sz : Nat) : zxMet l zy_ModelReader_readDeclaration (Cond.code zy_ModelReader_readDeclaration prog_5_method_3_code 5 none :: zTB) { frames := 7, cells := 1, slots := 6, locals := 101 } (va_Pc [.ref r9] (zPreX G K [(r9, zO 4 [.ref t9, r9_names, r9_terms, r9_program, r9_tree]), (t9, zO 9 [t9_signs, .int t9_written, .int 0, .int 0, .int t9_wrongAt])] sz)) "java/lang/IllegalArgumentException" (zXC (fun _ : Unit => True) (fun _ => []) G K (va_A [(r9, zO 4 [.ref t9, r9_names, r9_terms, r9_program, r9_tree]), (t9, zO 9 [t9_signs, .int t9_written, .int 0, .int 0, .int t9_wrongAt])] sz)) 1 6 (va_A [(r9, zO 4 [.ref t9, r9_names, r9_terms, r9_program, r9_tree]), (t9, zO 9 [t9_signs, .int t9_written, .int 0, .int 0, .int t9_wrongAt])] sz) := by
  refine zMetX (Xf := fun A => (zXC (fun _ : Unit => True) (fun _ => []) G K A)) (by decide) (Nat.le_of_ble_eq_true rfl) ?_
  intro p e s m below meth c ls A hx hb hr hml hts hown hlocks hin hA hK H locs hw hsz hl hT hnt hNS
  clear hsz
  have hown : s.vm.findClass "LassoFinder$ModelReader" = some m.cls := hown
  have hl : lv_has ls 5 [(0, .ref r9)] := hl
  have hw : zW G A s.heap [(r9, zO 4 [.ref t9, r9_names, r9_terms, r9_program, r9_tree]), (t9, zO 9 [t9_signs, .int t9_written, .int 0, .int 0, .int t9_wrongAt])] H locs := hw
  refine lv_aload_n hx hb zd_ModelReader_readDeclaration_0 rfl (lv_at hl 0 rfl) ?_
  refine z_get hx hb hts hown hK hw zZ4 0 rfl 0 (by decide) zm_280 rfl zd_ModelReader_readDeclaration_1 ?_
  refine lv_bipush (v := 35) hx hb zd_ModelReader_readDeclaration_4 (by decide) ?_
  refine z_calli (w1 := fun (u6 : Unit) => [(t9, zO 9 [t9_signs, .int t9_written, .int 0, .int 0, .int t9_wrongAt])]) (wr := [(r9, zO 4 [.ref t9, r9_names, r9_terms, r9_program, r9_tree])]) (z_runV (q0 := 1) (wc := [(t9, zO 9 [t9_signs, .int t9_written, .int 0, .int 0, .int t9_wrongAt])]) (As := [.int 35]) (rest := []) ⟨hx, hb, hml, hown, hts⟩ (c_Text_accept_0 l G K t9 t9_signs t9_written t9_wrongAt H.size ) zf_Text_accept zm_449 ⟨Nat.le_of_ble_eq_true rfl, Nat.le_of_ble_eq_true rfl⟩ hK hw [1] rfl (by decide) rfl rfl rfl hl.1 rfl (Nat.le_of_ble_eq_true rfl) zd_ModelReader_readDeclaration_6 ⟨Nat.le_of_ble_eq_true rfl, Nat.le_of_ble_eq_true rfl⟩) hw hA [1] [0] rfl rfl (by decide) (by decide) (fun r6 u6 H locs hu hw => ?_)
  obtain rfl := hu
  have hw : zW G A s.heap [(r9, zO 4 [.ref t9, r9_names, r9_terms, r9_program, r9_tree]), (t9, zO 9 [t9_signs, .int t9_written, .int 0, .int 0, .int t9_wrongAt])] H locs := hw
  refine lv_if_eq (tgt := 16) hx hb zd_ModelReader_readDeclaration_9 (by decide) (fun _ => ?_) (fun h9 => absurd h9 (by decide))
  refine lv_iconst (v := 1) hx hb zd_ModelReader_readDeclaration_16 (by decide) ?_
  refine lv_istore_n hx hb zd_ModelReader_readDeclaration_17 rfl hl (by decide) rfl (fun ls hl => ?_)
  have hl : lv_has ls 5 [(1, .int 1), (0, .ref r9)] := hl
  refine lv_aload_n hx hb zd_ModelReader_readDeclaration_18 rfl (lv_at hl 1 rfl) ?_
  refine z_get hx hb hts hown hK hw zZ4 0 rfl 0 (by decide) zm_280 rfl zd_ModelReader_readDeclaration_19 ?_
  refine lv_bipush (v := 97) hx hb zd_ModelReader_readDeclaration_22 (by decide) ?_
  refine z_calli (w1 := fun (u24 : Unit) => [(t9, zO 9 [t9_signs, .int t9_written, .int 0, .int 0, .int t9_wrongAt])]) (wr := [(r9, zO 4 [.ref t9, r9_names, r9_terms, r9_program, r9_tree])]) (z_runV (q0 := 1) (wc := [(t9, zO 9 [t9_signs, .int t9_written, .int 0, .int 0, .int t9_wrongAt])]) (As := [.int 97]) (rest := []) ⟨hx, hb, hml, hown, hts⟩ (c_Text_oneOf_0 l G K t9 t9_signs t9_written t9_wrongAt H.size ) zf_Text_oneOf zm_450 ⟨Nat.le_of_ble_eq_true rfl, Nat.le_of_ble_eq_true rfl⟩ hK hw [1] rfl (by decide) rfl rfl rfl hl.1 rfl (Nat.le_of_ble_eq_true rfl) zd_ModelReader_readDeclaration_24 ⟨Nat.le_of_ble_eq_true rfl, Nat.le_of_ble_eq_true rfl⟩) hw hA [1] [0] rfl rfl (by decide) (by decide) (fun r24 u24 H locs hu hw => ?_)
  obtain rfl := hu
  have hw : zW G A s.heap [(r9, zO 4 [.ref t9, r9_names, r9_terms, r9_program, r9_tree]), (t9, zO 9 [t9_signs, .int t9_written, .int 0, .int 0, .int t9_wrongAt])] H locs := hw
  refine lv_istore_n hx hb zd_ModelReader_readDeclaration_27 rfl hl (by decide) rfl (fun ls hl => ?_)
  have hl : lv_has ls 5 [(2, .int (-1)), (1, .int 1), (0, .ref r9)] := hl
  refine lv_iload_n hx hb zd_ModelReader_readDeclaration_28 rfl (lv_at hl 0 rfl) ?_
  refine lv_iconst (v := (-1)) hx hb zd_ModelReader_readDeclaration_29 (by decide) ?_
  refine lv_icmp_eq (tgt := 56) hx hb zd_ModelReader_readDeclaration_30 (by decide) (fun _ => ?_) (fun h9 => absurd h9 (by decide))
  refine lv_aload_n hx hb zd_ModelReader_readDeclaration_56 rfl (lv_at hl 2 rfl) ?_
  refine z_get hx hb hts hown hK hw zZ4 0 rfl 0 (by decide) zm_280 rfl zd_ModelReader_readDeclaration_57 ?_
  refine z_xV (px := fun _ : Unit => True) (w1 := fun _ => []) (q0 := 1) (wc := [(t9, zO 9 [t9_signs, .int t9_written, .int 0, .int 0, .int t9_wrongAt])]) (wr := [(r9, zO 4 [.ref t9, r9_names, r9_terms, r9_program, r9_tree])]) (As := []) (rest := []) ⟨hx, hb, hml, hown, hts⟩ (c_Text_refuse l hlt G K t9 t9_signs t9_written 0 0 t9_wrongAt H.size ) zf_Text_refuse zm_451 ⟨Nat.le_of_ble_eq_true rfl, Nat.le_of_ble_eq_true rfl⟩ hK hT hw hA [1] [0] rfl rfl (by decide) (by decide) (by decide) rfl rfl rfl hl.1 rfl (Nat.le_of_ble_eq_true rfl) zd_ModelReader_readDeclaration_60 ⟨Nat.le_of_ble_eq_true rfl, Nat.le_of_ble_eq_true rfl⟩ (fun ce q9 _ H locs hu hw hce hcv hcl => ?_)
  have hw : zW G A s.heap [(r9, zO 4 [.ref t9, r9_names, r9_terms, r9_program, r9_tree])] H locs := hw
  exact z_xout (u := ()) hnt hlocks hce hcv hcl hw [] rfl (by decide) trivial (Nat.le_of_ble_eq_true rfl) (Nat.le_of_ble_eq_true rfl)
set_option maxHeartbeats 4000000 in
set_option maxRecDepth 100000 in
theorem c_ModelReader_readAll_0 (l : Launch) (hlt : l.stackTraces = false) (G : va_G) (K : Nat → ClassId) (r9 : Nat) (t9 : Nat) (n9 : Nat) (k9 : Nat) (e9 : Nat) (p9 : Nat) (pr : Nat) (ps : Nat) (pl : Nat) (pb : Nat) (r9_tree : Value) (t9_signs : Value) (t9_written : Int32) (t9_wrongAt : Int32) (n9_digits : Value) (n9_variableNames : Value) (n9_channelNames : Value) (n9_variables : Int32) (n9_channels : Int32) (fk : Nat → Int32) (e9_text : Value) (e9_names : Value) (e9_codes : Value) (e9_length : Int32) (e9_waiting : Value) (e9_waitingSigns : Int32) (e9_sides : Value) (e9_parts : Int32) (e9_open : Int32) (e9_compared : Int32) (p9_kinds : Value) (p9_channel : Value) (p9_variable : Value) (p9_expression : Value) (p9_actor : Value) (p9_after : Value) (p9_keeps : Value) (p9_elses : Int64) (p9_basics : Int32) (p9_processes : Int32) (fr : Nat → Int64) (fs : Nat → Int32) (fl : Nat → Int32) (fb : Nat → Int64) (sz : Nat) : zxMet l zy_ModelReader_readAll (Cond.code zy_ModelReader_readAll prog_5_method_2_code 2 none :: zTB) { frames := 8, cells := 1, slots := 6, locals := 125 } (va_Pc [.ref r9] (zPreX G K [(r9, zO 4 [.ref t9, .ref n9, .ref e9, .ref p9, r9_tree]), (t9, zO 9 [t9_signs, .int t9_written, .int 0, .int 0, .int t9_wrongAt]), (n9, zO 5 [.ref k9, n9_digits, n9_variableNames, n9_channelNames, .int n9_variables, .int n9_channels]), (k9, zI K 8 fk), (e9, zO 8 [e9_text, e9_names, e9_codes, .int e9_length, e9_waiting, .int e9_waitingSigns, e9_sides, .int e9_parts, .int e9_open, .int e9_compared]), (p9, zO 6 [p9_kinds, p9_channel, p9_variable, p9_expression, p9_actor, p9_after, p9_keeps, .ref pr, .ref ps, .ref pl, .ref pb, .long p9_elses, .int p9_basics, .int p9_processes]), (pr, zJ K 8 fr), (ps, zI K 4 fs), (pl, zI K 32 fl), (pb, zJ K 124 fb)] sz)) "java/lang/IllegalArgumentException" (zXC (fun _ : Unit => True) (fun _ => []) G K (va_A [(r9, zO 4 [.ref t9, .ref n9, .ref e9, .ref p9, r9_tree]), (t9, zO 9 [t9_signs, .int t9_written, .int 0, .int 0, .int t9_wrongAt]), (n9, zO 5 [.ref k9, n9_digits, n9_variableNames, n9_channelNames, .int n9_variables, .int n9_channels]), (k9, zI K 8 fk), (e9, zO 8 [e9_text, e9_names, e9_codes, .int e9_length, e9_waiting, .int e9_waitingSigns, e9_sides, .int e9_parts, .int e9_open, .int e9_compared]), (p9, zO 6 [p9_kinds, p9_channel, p9_variable, p9_expression, p9_actor, p9_after, p9_keeps, .ref pr, .ref ps, .ref pl, .ref pb, .long p9_elses, .int p9_basics, .int p9_processes]), (pr, zJ K 8 fr), (ps, zI K 4 fs), (pl, zI K 32 fl), (pb, zJ K 124 fb)] sz)) 1 6 (va_A [(r9, zO 4 [.ref t9, .ref n9, .ref e9, .ref p9, r9_tree]), (t9, zO 9 [t9_signs, .int t9_written, .int 0, .int 0, .int t9_wrongAt]), (n9, zO 5 [.ref k9, n9_digits, n9_variableNames, n9_channelNames, .int n9_variables, .int n9_channels]), (k9, zI K 8 fk), (e9, zO 8 [e9_text, e9_names, e9_codes, .int e9_length, e9_waiting, .int e9_waitingSigns, e9_sides, .int e9_parts, .int e9_open, .int e9_compared]), (p9, zO 6 [p9_kinds, p9_channel, p9_variable, p9_expression, p9_actor, p9_after, p9_keeps, .ref pr, .ref ps, .ref pl, .ref pb, .long p9_elses, .int p9_basics, .int p9_processes]), (pr, zJ K 8 fr), (ps, zI K 4 fs), (pl, zI K 32 fl), (pb, zJ K 124 fb)] sz) := by
  refine zMetX (Xf := fun A => (zXC (fun _ : Unit => True) (fun _ => []) G K A)) (by decide) (Nat.le_of_ble_eq_true rfl) ?_
  intro p e s m below meth c ls A hx hb hr hml hts hown hlocks hin hA hK H locs hw hsz hl hT hnt hNS
  clear hsz
  have hown : s.vm.findClass "LassoFinder$ModelReader" = some m.cls := hown
  have hl : lv_has ls 2 [(0, .ref r9)] := hl
  have hw : zW G A s.heap [(r9, zO 4 [.ref t9, .ref n9, .ref e9, .ref p9, r9_tree]), (t9, zO 9 [t9_signs, .int t9_written, .int 0, .int 0, .int t9_wrongAt]), (n9, zO 5 [.ref k9, n9_digits, n9_variableNames, n9_channelNames, .int n9_variables, .int n9_channels]), (k9, zI K 8 fk), (e9, zO 8 [e9_text, e9_names, e9_codes, .int e9_length, e9_waiting, .int e9_waitingSigns, e9_sides, .int e9_parts, .int e9_open, .int e9_compared]), (p9, zO 6 [p9_kinds, p9_channel, p9_variable, p9_expression, p9_actor, p9_after, p9_keeps, .ref pr, .ref ps, .ref pl, .ref pb, .long p9_elses, .int p9_basics, .int p9_processes]), (pr, zJ K 8 fr), (ps, zI K 4 fs), (pl, zI K 32 fl), (pb, zJ K 124 fb)] H locs := hw
  refine lv_aload_n hx hb zd_ModelReader_readAll_0 rfl (lv_at hl 0 rfl) ?_
  refine z_get hx hb hts hown hK hw zZ4 0 rfl 1 (by decide) zm_281 rfl zd_ModelReader_readAll_1 ?_
  refine z_callv (w1 := fun (u4 : Unit) => [(n9, zO 5 [.ref k9, n9_digits, n9_variableNames, n9_channelNames, .int 0, .int 0]), (k9, zI K 8 (zFill fk 0 8))]) (wr := [(r9, zO 4 [.ref t9, .ref n9, .ref e9, .ref p9, r9_tree]), (t9, zO 9 [t9_signs, .int t9_written, .int 0, .int 0, .int t9_wrongAt]), (e9, zO 8 [e9_text, e9_names, e9_codes, .int e9_length, e9_waiting, .int e9_waitingSigns, e9_sides, .int e9_parts, .int e9_open, .int e9_compared]), (p9, zO 6 [p9_kinds, p9_channel, p9_variable, p9_expression, p9_actor, p9_after, p9_keeps, .ref pr, .ref ps, .ref pl, .ref pb, .long p9_elses, .int p9_basics, .int p9_processes]), (pr, zJ K 8 fr), (ps, zI K 4 fs), (pl, zI K 32 fl), (pb, zJ K 124 fb)]) (z_runV (q0 := 2) (wc := [(n9, zO 5 [.ref k9, n9_digits, n9_variableNames, n9_channelNames, .int n9_variables, .int n9_channels]), (k9, zI K 8 fk)]) (As := []) (rest := []) ⟨hx, hb, hml, hown, hts⟩ (c_Names_clear l G K n9 k9 n9_digits n9_variableNames n9_channelNames n9_variables n9_channels fk H.size ) zf_Names_clear zm_452 ⟨Nat.le_of_ble_eq_true rfl, Nat.le_of_ble_eq_true rfl⟩ hK hw [2, 3] rfl (by decide) rfl rfl rfl hl.1 rfl (Nat.le_of_ble_eq_true rfl) zd_ModelReader_readAll_4 ⟨Nat.le_of_ble_eq_true rfl, Nat.le_of_ble_eq_true rfl⟩) hw hA [2, 3] [0, 1, 4, 5, 6, 7, 8, 9] rfl rfl (by decide) (by decide) (fun u4 H locs hu hw => ?_)
  have hw : zW G A s.heap [(r9, zO 4 [.ref t9, .ref n9, .ref e9, .ref p9, r9_tree]), (t9, zO 9 [t9_signs, .int t9_written, .int 0, .int 0, .int t9_wrongAt]), (e9, zO 8 [e9_text, e9_names, e9_codes, .int e9_length, e9_waiting, .int e9_waitingSigns, e9_sides, .int e9_parts, .int e9_open, .int e9_compared]), (p9, zO 6 [p9_kinds, p9_channel, p9_variable, p9_expression, p9_actor, p9_after, p9_keeps, .ref pr, .ref ps, .ref pl, .ref pb, .long p9_elses, .int p9_basics, .int p9_processes]), (pr, zJ K 8 fr), (ps, zI K 4 fs), (pl, zI K 32 fl), (pb, zJ K 124 fb), (n9, zO 5 [.ref k9, n9_digits, n9_variableNames, n9_channelNames, .int 0, .int 0]), (k9, zI K 8 (zFill fk 0 8))] H locs := hw
  refine lv_aload_n hx hb zd_ModelReader_readAll_7 rfl (lv_at hl 0 rfl) ?_
  refine z_get hx hb hts hown hK hw zZ4 0 rfl 2 (by decide) zm_282 rfl zd_ModelReader_readAll_8 ?_
  refine z_callv (w1 := fun (u11 : Unit) => [(e9, zO 8 [e9_text, e9_names, e9_codes, .int 0, e9_waiting, .int e9_waitingSigns, e9_sides, .int e9_parts, .int e9_open, .int e9_compared])]) (wr := [(r9, zO 4 [.ref t9, .ref n9, .ref e9, .ref p9, r9_tree]), (t9, zO 9 [t9_signs, .int t9_written, .int 0, .int 0, .int t9_wrongAt]), (p9, zO 6 [p9_kinds, p9_channel, p9_variable, p9_expression, p9_actor, p9_after, p9_keeps, .ref pr, .ref ps, .ref pl, .ref pb, .long p9_elses, .int p9_basics, .int p9_processes]), (pr, zJ K 8 fr), (ps, zI K 4 fs), (pl, zI K 32 fl), (pb, zJ K 124 fb), (n9, zO 5 [.ref k9, n9_digits, n9_variableNames, n9_channelNames, .int 0, .int 0]), (k9, zI K 8 (zFill fk 0 8))]) (z_runV (q0 := 2) (wc := [(e9, zO 8 [e9_text, e9_names, e9_codes, .int e9_length, e9_waiting, .int e9_waitingSigns, e9_sides, .int e9_parts, .int e9_open, .int e9_compared])]) (As := []) (rest := []) ⟨hx, hb, hml, hown, hts⟩ (c_Terms_clear l G K e9 e9_text e9_names e9_codes e9_length e9_waiting e9_waitingSigns e9_sides e9_parts e9_open e9_compared H.size ) zf_Terms_clear zm_453 ⟨Nat.le_of_ble_eq_true rfl, Nat.le_of_ble_eq_true rfl⟩ hK hw [2] rfl (by decide) rfl rfl rfl hl.1 rfl (Nat.le_of_ble_eq_true rfl) zd_ModelReader_readAll_11 ⟨Nat.le_of_ble_eq_true rfl, Nat.le_of_ble_eq_true rfl⟩) hw hA [2] [0, 1, 3, 4, 5, 6, 7, 8, 9] rfl rfl (by decide) (by decide) (fun u11 H locs hu hw => ?_)
  have hw : zW G A s.heap [(r9, zO 4 [.ref t9, .ref n9, .ref e9, .ref p9, r9_tree]), (t9, zO 9 [t9_signs, .int t9_written, .int 0, .int 0, .int t9_wrongAt]), (p9, zO 6 [p9_kinds, p9_channel, p9_variable, p9_expression, p9_actor, p9_after, p9_keeps, .ref pr, .ref ps, .ref pl, .ref pb, .long p9_elses, .int p9_basics, .int p9_processes]), (pr, zJ K 8 fr), (ps, zI K 4 fs), (pl, zI K 32 fl), (pb, zJ K 124 fb), (n9, zO 5 [.ref k9, n9_digits, n9_variableNames, n9_channelNames, .int 0, .int 0]), (k9, zI K 8 (zFill fk 0 8)), (e9, zO 8 [e9_text, e9_names, e9_codes, .int 0, e9_waiting, .int e9_waitingSigns, e9_sides, .int e9_parts, .int e9_open, .int e9_compared])] H locs := hw
  refine lv_aload_n hx hb zd_ModelReader_readAll_14 rfl (lv_at hl 0 rfl) ?_
  refine z_get hx hb hts hown hK hw zZ4 0 rfl 3 (by decide) zm_283 rfl zd_ModelReader_readAll_15 ?_
  refine z_callv (w1 := fun (u18 : Unit) => [(p9, zO 6 [p9_kinds, p9_channel, p9_variable, p9_expression, p9_actor, p9_after, p9_keeps, .ref pr, .ref ps, .ref pl, .ref pb, .long 0, .int 0, .int 0]), (pr, zJ K 8 (zFill fr 0 8)), (ps, zI K 4 (zFill fs 0 4)), (pl, zI K 32 (zFill fl (-1) 32)), (pb, zJ K 124 (zFill fb 0 124))]) (wr := [(r9, zO 4 [.ref t9, .ref n9, .ref e9, .ref p9, r9_tree]), (t9, zO 9 [t9_signs, .int t9_written, .int 0, .int 0, .int t9_wrongAt]), (n9, zO 5 [.ref k9, n9_digits, n9_variableNames, n9_channelNames, .int 0, .int 0]), (k9, zI K 8 (zFill fk 0 8)), (e9, zO 8 [e9_text, e9_names, e9_codes, .int 0, e9_waiting, .int e9_waitingSigns, e9_sides, .int e9_parts, .int e9_open, .int e9_compared])]) (z_runV (q0 := 2) (wc := [(p9, zO 6 [p9_kinds, p9_channel, p9_variable, p9_expression, p9_actor, p9_after, p9_keeps, .ref pr, .ref ps, .ref pl, .ref pb, .long p9_elses, .int p9_basics, .int p9_processes]), (pr, zJ K 8 fr), (ps, zI K 4 fs), (pl, zI K 32 fl), (pb, zJ K 124 fb)]) (As := []) (rest := []) ⟨hx, hb, hml, hown, hts⟩ (c_Program_clear l G K p9 pr ps pl pb p9_kinds p9_channel p9_variable p9_expression p9_actor p9_after p9_keeps p9_elses p9_basics p9_processes fr fs fl fb H.size ) zf_Program_clear zm_454 ⟨Nat.le_of_ble_eq_true rfl, Nat.le_of_ble_eq_true rfl⟩ hK hw [2, 3, 4, 5, 6] rfl (by decide) rfl rfl rfl hl.1 rfl (Nat.le_of_ble_eq_true rfl) zd_ModelReader_readAll_18 ⟨Nat.le_of_ble_eq_true rfl, Nat.le_of_ble_eq_true rfl⟩) hw hA [2, 3, 4, 5, 6] [0, 1, 7, 8, 9] rfl rfl (by decide) (by decide) (fun u18 H locs hu hw => ?_)
  have hw : zW G A s.heap [(r9, zO 4 [.ref t9, .ref n9, .ref e9, .ref p9, r9_tree]), (t9, zO 9 [t9_signs, .int t9_written, .int 0, .int 0, .int t9_wrongAt]), (n9, zO 5 [.ref k9, n9_digits, n9_variableNames, n9_channelNames, .int 0, .int 0]), (k9, zI K 8 (zFill fk 0 8)), (e9, zO 8 [e9_text, e9_names, e9_codes, .int 0, e9_waiting, .int e9_waitingSigns, e9_sides, .int e9_parts, .int e9_open, .int e9_compared]), (p9, zO 6 [p9_kinds, p9_channel, p9_variable, p9_expression, p9_actor, p9_after, p9_keeps, .ref pr, .ref ps, .ref pl, .ref pb, .long 0, .int 0, .int 0]), (pr, zJ K 8 (zFill fr 0 8)), (ps, zI K 4 (zFill fs 0 4)), (pl, zI K 32 (zFill fl (-1) 32)), (pb, zJ K 124 (zFill fb 0 124))] H locs := hw
  refine lv_iconst (v := 0) hx hb zd_ModelReader_readAll_21 (by decide) ?_
  refine lv_istore_n hx hb zd_ModelReader_readAll_22 rfl hl (by decide) rfl (fun ls hl => ?_)
  have hl : lv_has ls 2 [(1, .int 0), (0, .ref r9)] := hl
  refine lv_iload_n hx hb zd_ModelReader_readAll_23 rfl (lv_at hl 0 rfl) ?_
  refine lv_sipush (v := 240) hx hb zd_ModelReader_readAll_24 (by decide) ?_
  refine lv_icmp_ge (tgt := 52) hx hb zd_ModelReader_readAll_27 (by decide) (fun h9 => absurd h9 (by decide)) (fun _ => ?_)
  refine lv_aload_n hx hb zd_ModelReader_readAll_30 rfl (lv_at hl 1 rfl) ?_
  refine z_get hx hb hts hown hK hw zZ4 0 rfl 0 (by decide) zm_280 rfl zd_ModelReader_readAll_31 ?_
  refine z_calli (w1 := fun (u34 : Unit) => [(t9, zO 9 [t9_signs, .int t9_written, .int 0, .int 0, .int t9_wrongAt])]) (wr := [(r9, zO 4 [.ref t9, .ref n9, .ref e9, .ref p9, r9_tree]), (n9, zO 5 [.ref k9, n9_digits, n9_variableNames, n9_channelNames, .int 0, .int 0]), (k9, zI K 8 (zFill fk 0 8)), (e9, zO 8 [e9_text, e9_names, e9_codes, .int 0, e9_waiting, .int e9_waitingSigns, e9_sides, .int e9_parts, .int e9_open, .int e9_compared]), (p9, zO 6 [p9_kinds, p9_channel, p9_variable, p9_expression, p9_actor, p9_after, p9_keeps, .ref pr, .ref ps, .ref pl, .ref pb, .long 0, .int 0, .int 0]), (pr, zJ K 8 (zFill fr 0 8)), (ps, zI K 4 (zFill fs 0 4)), (pl, zI K 32 (zFill fl (-1) 32)), (pb, zJ K 124 (zFill fb 0 124))]) (z_runV (q0 := 1) (wc := [(t9, zO 9 [t9_signs, .int t9_written, .int 0, .int 0, .int t9_wrongAt])]) (As := []) (rest := []) ⟨hx, hb, hml, hown, hts⟩ (c_Text_ahead_0 l G K t9 t9_signs t9_written t9_wrongAt H.size ) zf_Text_ahead zm_455 ⟨Nat.le_of_ble_eq_true rfl, Nat.le_of_ble_eq_true rfl⟩ hK hw [1] rfl (by decide) rfl rfl rfl hl.1 rfl (Nat.le_of_ble_eq_true rfl) zd_ModelReader_readAll_34 ⟨Nat.le_of_ble_eq_true rfl, Nat.le_of_ble_eq_true rfl⟩) hw hA [1] [0, 2, 3, 4, 5, 6, 7, 8, 9] rfl rfl (by decide) (by decide) (fun r34 u34 H locs hu hw => ?_)
  obtain rfl := hu
  have hw : zW G A s.heap [(r9, zO 4 [.ref t9, .ref n9, .ref e9, .ref p9, r9_tree]), (n9, zO 5 [.ref k9, n9_digits, n9_variableNames, n9_channelNames, .int 0, .int 0]), (k9, zI K 8 (zFill fk 0 8)), (e9, zO 8 [e9_text, e9_names, e9_codes, .int 0, e9_waiting, .int e9_waitingSigns, e9_sides, .int e9_parts, .int e9_open, .int e9_compared]), (p9, zO 6 [p9_kinds, p9_channel, p9_variable, p9_expression, p9_actor, p9_after, p9_keeps, .ref pr, .ref ps, .ref pl, .ref pb, .long 0, .int 0, .int 0]), (pr, zJ K 8 (zFill fr 0 8)), (ps, zI K 4 (zFill fs 0 4)), (pl, zI K 32 (zFill fl (-1) 32)), (pb, zJ K 124 (zFill fb 0 124)), (t9, zO 9 [t9_signs, .int t9_written, .int 0, .int 0, .int t9_wrongAt])] H locs := hw
  refine lv_bipush (v := 123) hx hb zd_ModelReader_readAll_37 (by decide) ?_
  refine lv_icmp_eq (tgt := 52) hx hb zd_ModelReader_readAll_39 (by decide) (fun h9 => absurd h9 (by decide)) (fun _ => ?_)
  refine lv_aload_n hx hb zd_ModelReader_readAll_42 rfl (lv_at hl 1 rfl) ?_
  refine z_xV (px := fun _ : Unit => True) (w1 := fun _ => []) (q0 := 0) (wc := [(r9, zO 4 [.ref t9, .ref n9, .ref e9, .ref p9, r9_tree]), (t9, zO 9 [t9_signs, .int t9_written, .int 0, .int 0, .int t9_wrongAt])]) (wr := [(n9, zO 5 [.ref k9, n9_digits, n9_variableNames, n9_channelNames, .int 0, .int 0]), (k9, zI K 8 (zFill fk 0 8)), (e9, zO 8 [e9_text, e9_names, e9_codes, .int 0, e9_waiting, .int e9_waitingSigns, e9_sides, .int e9_parts, .int e9_open, .int e9_compared]), (p9, zO 6 [p9_kinds, p9_channel, p9_variable, p9_expression, p9_actor, p9_after, p9_keeps, .ref pr, .ref ps, .ref pl, .ref pb, .long 0, .int 0, .int 0]), (pr, zJ K 8 (zFill fr 0 8)), (ps, zI K 4 (zFill fs 0 4)), (pl, zI K 32 (zFill fl (-1) 32)), (pb, zJ K 124 (zFill fb 0 124))]) (As := []) (rest := []) ⟨hx, hb, hml, hown, hts⟩ (c_ModelReader_readDeclaration_0 l hlt G K r9 t9 (.ref n9) (.ref e9) (.ref p9) r9_tree t9_signs t9_written t9_wrongAt H.size ) zf_ModelReader_readDeclaration zm_456 ⟨Nat.le_of_ble_eq_true rfl, Nat.le_of_ble_eq_true rfl⟩ hK hT hw hA [0, 9] [1, 2, 3, 4, 5, 6, 7, 8] rfl rfl (by decide) (by decide) (by decide) rfl rfl rfl hl.1 rfl (Nat.le_of_ble_eq_true rfl) zd_ModelReader_readAll_43 ⟨Nat.le_of_ble_eq_true rfl, Nat.le_of_ble_eq_true rfl⟩ (fun ce q9 _ H locs hu hw hce hcv hcl => ?_)
  have hw : zW G A s.heap [(n9, zO 5 [.ref k9, n9_digits, n9_variableNames, n9_channelNames, .int 0, .int 0]), (k9, zI K 8 (zFill fk 0 8)), (e9, zO 8 [e9_text, e9_names, e9_codes, .int 0, e9_waiting, .int e9_waitingSigns, e9_sides, .int e9_parts, .int e9_open, .int e9_compared]), (p9, zO 6 [p9_kinds, p9_channel, p9_variable, p9_expression, p9_actor, p9_after, p9_keeps, .ref pr, .ref ps, .ref pl, .ref pb, .long 0, .int 0, .int 0]), (pr, zJ K 8 (zFill fr 0 8)), (ps, zI K 4 (zFill fs 0 4)), (pl, zI K 32 (zFill fl (-1) 32)), (pb, zJ K 124 (zFill fb 0 124))] H locs := hw
  exact z_xout (u := ()) hnt hlocks hce hcv hcl hw [] rfl (by decide) trivial (Nat.le_of_ble_eq_true rfl) (Nat.le_of_ble_eq_true rfl)
set_option maxHeartbeats 4000000 in
set_option maxRecDepth 100000 in
theorem c_dropFormula_0 (l : Launch) (G : va_G) (K : Nat → ClassId) (x9 : Nat) (x9_text : Value) (x9_names : Value) (x9_program : Value) (x9_reader : Value) (x9_situation : Value) (x9_graph : Value) (x9_asked : Value) (x9_truths : Value) (x9_walked : Value) (x9_walkLength : Int32) (x9_hasModel : Int32) (x9_hasFormula : Int32) (sz : Nat) : Met l zy_LassoFinder_dropFormula (Cond.code zy_LassoFinder_dropFormula prog_1_method_19_code 1 none :: zTB) { frames := 0, cells := 0, slots := 0, locals := 0 } (va_Pc [.ref x9] (zPre G K [(x9, zO 0 [x9_text, x9_names, x9_program, x9_reader, x9_situation, x9_graph, x9_asked, x9_truths, .null, x9_walked, .int x9_walkLength, .int x9_hasModel, .int x9_hasFormula])] sz)) (va_Qv (fun _ : Unit => True) (fun u t => zPost G K (va_A [(x9, zO 0 [x9_text, x9_names, x9_program, x9_reader, x9_situation, x9_graph, x9_asked, x9_truths, .null, x9_walked, .int x9_walkLength, .int x9_hasModel, .int x9_hasFormula])] sz) [(x9, zO 0 [x9_text, x9_names, x9_program, x9_reader, x9_situation, x9_graph, x9_asked, x9_truths, .null, x9_walked, .int x9_walkLength, .int x9_hasModel, .int 0])] t) (va_A [(x9, zO 0 [x9_text, x9_names, x9_program, x9_reader, x9_situation, x9_graph, x9_asked, x9_truths, .null, x9_walked, .int x9_walkLength, .int x9_hasModel, .int x9_hasFormula])] sz)) 0 0 (va_A [(x9, zO 0 [x9_text, x9_names, x9_program, x9_reader, x9_situation, x9_graph, x9_asked, x9_truths, .null, x9_walked, .int x9_walkLength, .int x9_hasModel, .int x9_hasFormula])] sz) := by
  refine zMet (y := zy_LassoFinder_dropFormula) (av := [.ref x9]) (maxL := 1) (cc := prog_1_method_19_code) (ret := none) (W0 := [(x9, zO 0 [x9_text, x9_names, x9_program, x9_reader, x9_situation, x9_graph, x9_asked, x9_truths, .null, x9_walked, .int x9_walkLength, .int x9_hasModel, .int x9_hasFormula])]) (sz := sz) (G := G) (K := K) (wt := zTB) (mc := 0) (ms := 0) (Qf := fun A => va_Qv (fun _ : Unit => True) (fun u t => zPost G K A [(x9, zO 0 [x9_text, x9_names, x9_program, x9_reader, x9_situation, x9_graph, x9_asked, x9_truths, .null, x9_walked, .int x9_walkLength, .int x9_hasModel, .int 0])] t) A) (by decide) (Nat.le_of_ble_eq_true rfl) ?_
  intro p e s m below meth c ls A hx hb hr hml hts hown hlocks hin hA hK H locs hw hsz hl
  clear hsz
  have hown : s.vm.findClass "LassoFinder" = some m.cls := hown
  have hl : lv_has ls 1 [(0, .ref x9)] := hl
  have hw : zW G A s.heap [(x9, zO 0 [x9_text, x9_names, x9_program, x9_reader, x9_situation, x9_graph, x9_asked, x9_truths, .null, x9_walked, .int x9_walkLength, .int x9_hasModel, .int x9_hasFormula])] H locs := hw
  refine lv_aload_n hx hb zd_LassoFinder_dropFormula_0 rfl (lv_at hl 0 rfl) ?_
  refine lv_iconst (v := 0) hx hb zd_LassoFinder_dropFormula_1 (by decide) ?_
  refine z_put hx hb hts hown hK hw zZ0 0 rfl 12 (by decide) zm_457 rfl rfl rfl (Nat.le_of_ble_eq_true rfl) zd_LassoFinder_dropFormula_2 (fun H locs hw => ?_)
  have hw : zW G A s.heap [(x9, zO 0 [x9_text, x9_names, x9_program, x9_reader, x9_situation, x9_graph, x9_asked, x9_truths, .null, x9_walked, .int x9_walkLength, .int x9_hasModel, .int 0])] H locs := hw
  refine lv_aload_n hx hb zd_LassoFinder_dropFormula_5 rfl (lv_at hl 0 rfl) ?_
  refine z_get hx hb hts hown hK hw zZ0 0 rfl 8 (by decide) zm_458 rfl zd_LassoFinder_dropFormula_6 ?_
  refine lv_ifnullN (tgt := 20) hx hb zd_LassoFinder_dropFormula_9 (by decide) ?_
  exact z_vret (u := ()) hx hb hr hlocks hw [0] rfl (by decide) trivial (Nat.le_of_ble_eq_true rfl) (Nat.le_of_ble_eq_true rfl) zd_LassoFinder_dropFormula_20
set_option maxHeartbeats 4000000 in
set_option maxRecDepth 100000 in
theorem c_model_0 (l : Launch) (hlt : l.stackTraces = false) (G : va_G) (K : Nat → ClassId) (x9 : Nat) (r9 : Nat) (t9 : Nat) (n9 : Nat) (k9 : Nat) (e9 : Nat) (p9 : Nat) (pr : Nat) (ps : Nat) (pl : Nat) (pb : Nat) (x9_names : Value) (x9_program : Value) (x9_situation : Value) (x9_graph : Value) (x9_asked : Value) (x9_truths : Value) (x9_walked : Value) (x9_walkLength : Int32) (x9_hasModel : Int32) (x9_hasFormula : Int32) (r9_tree : Value) (t9_signs : Value) (t9_end : Int32) (t9_at : Int32) (t9_wrongAt : Int32) (n9_digits : Value) (n9_variableNames : Value) (n9_channelNames : Value) (n9_variables : Int32) (n9_channels : Int32) (fk : Nat → Int32) (e9_text : Value) (e9_names : Value) (e9_codes : Value) (e9_length : Int32) (e9_waiting : Value) (e9_waitingSigns : Int32) (e9_sides : Value) (e9_parts : Int32) (e9_open : Int32) (e9_compared : Int32) (p9_kinds : Value) (p9_channel : Value) (p9_variable : Value) (p9_expression : Value) (p9_actor : Value) (p9_after : Value) (p9_keeps : Value) (p9_elses : Int64) (p9_basics : Int32) (p9_processes : Int32) (fr : Nat → Int64) (fs : Nat → Int32) (fl : Nat → Int32) (fb : Nat → Int64) (sz : Nat) : zxMet l zy_LassoFinder_model (Cond.code zy_LassoFinder_model prog_1_method_3_code 1 (some .int) :: zTB) { frames := 9, cells := 1, slots := 6, locals := 146 } (va_Pc [.ref x9] (zPreX G K [(x9, zO 0 [.ref t9, x9_names, x9_program, .ref r9, x9_situation, x9_graph, x9_asked, x9_truths, .null, x9_walked, .int x9_walkLength, .int x9_hasModel, .int x9_hasFormula]), (r9, zO 4 [.ref t9, .ref n9, .ref e9, .ref p9, r9_tree]), (t9, zO 9 [t9_signs, .int 0, .int t9_end, .int t9_at, .int t9_wrongAt]), (n9, zO 5 [.ref k9, n9_digits, n9_variableNames, n9_channelNames, .int n9_variables, .int n9_channels]), (k9, zI K 8 fk), (e9, zO 8 [e9_text, e9_names, e9_codes, .int e9_length, e9_waiting, .int e9_waitingSigns, e9_sides, .int e9_parts, .int e9_open, .int e9_compared]), (p9, zO 6 [p9_kinds, p9_channel, p9_variable, p9_expression, p9_actor, p9_after, p9_keeps, .ref pr, .ref ps, .ref pl, .ref pb, .long p9_elses, .int p9_basics, .int p9_processes]), (pr, zJ K 8 fr), (ps, zI K 4 fs), (pl, zI K 32 fl), (pb, zJ K 124 fb)] sz)) "java/lang/IllegalArgumentException" (zXC (fun _ : Unit => True) (fun _ => []) G K (va_A [(x9, zO 0 [.ref t9, x9_names, x9_program, .ref r9, x9_situation, x9_graph, x9_asked, x9_truths, .null, x9_walked, .int x9_walkLength, .int x9_hasModel, .int x9_hasFormula]), (r9, zO 4 [.ref t9, .ref n9, .ref e9, .ref p9, r9_tree]), (t9, zO 9 [t9_signs, .int 0, .int t9_end, .int t9_at, .int t9_wrongAt]), (n9, zO 5 [.ref k9, n9_digits, n9_variableNames, n9_channelNames, .int n9_variables, .int n9_channels]), (k9, zI K 8 fk), (e9, zO 8 [e9_text, e9_names, e9_codes, .int e9_length, e9_waiting, .int e9_waitingSigns, e9_sides, .int e9_parts, .int e9_open, .int e9_compared]), (p9, zO 6 [p9_kinds, p9_channel, p9_variable, p9_expression, p9_actor, p9_after, p9_keeps, .ref pr, .ref ps, .ref pl, .ref pb, .long p9_elses, .int p9_basics, .int p9_processes]), (pr, zJ K 8 fr), (ps, zI K 4 fs), (pl, zI K 32 fl), (pb, zJ K 124 fb)] sz)) 1 6 (va_A [(x9, zO 0 [.ref t9, x9_names, x9_program, .ref r9, x9_situation, x9_graph, x9_asked, x9_truths, .null, x9_walked, .int x9_walkLength, .int x9_hasModel, .int x9_hasFormula]), (r9, zO 4 [.ref t9, .ref n9, .ref e9, .ref p9, r9_tree]), (t9, zO 9 [t9_signs, .int 0, .int t9_end, .int t9_at, .int t9_wrongAt]), (n9, zO 5 [.ref k9, n9_digits, n9_variableNames, n9_channelNames, .int n9_variables, .int n9_channels]), (k9, zI K 8 fk), (e9, zO 8 [e9_text, e9_names, e9_codes, .int e9_length, e9_waiting, .int e9_waitingSigns, e9_sides, .int e9_parts, .int e9_open, .int e9_compared]), (p9, zO 6 [p9_kinds, p9_channel, p9_variable, p9_expression, p9_actor, p9_after, p9_keeps, .ref pr, .ref ps, .ref pl, .ref pb, .long p9_elses, .int p9_basics, .int p9_processes]), (pr, zJ K 8 fr), (ps, zI K 4 fs), (pl, zI K 32 fl), (pb, zJ K 124 fb)] sz) := by
  refine zMetX (Xf := fun A => (zXC (fun _ : Unit => True) (fun _ => []) G K A)) (by decide) (Nat.le_of_ble_eq_true rfl) ?_
  intro p e s m below meth c ls A hx hb hr hml hts hown hlocks hin hA hK H locs hw hsz hl hT hnt hNS
  clear hsz
  have hown : s.vm.findClass "LassoFinder" = some m.cls := hown
  have hl : lv_has ls 1 [(0, .ref x9)] := hl
  have hw : zW G A s.heap [(x9, zO 0 [.ref t9, x9_names, x9_program, .ref r9, x9_situation, x9_graph, x9_asked, x9_truths, .null, x9_walked, .int x9_walkLength, .int x9_hasModel, .int x9_hasFormula]), (r9, zO 4 [.ref t9, .ref n9, .ref e9, .ref p9, r9_tree]), (t9, zO 9 [t9_signs, .int 0, .int t9_end, .int t9_at, .int t9_wrongAt]), (n9, zO 5 [.ref k9, n9_digits, n9_variableNames, n9_channelNames, .int n9_variables, .int n9_channels]), (k9, zI K 8 fk), (e9, zO 8 [e9_text, e9_names, e9_codes, .int e9_length, e9_waiting, .int e9_waitingSigns, e9_sides, .int e9_parts, .int e9_open, .int e9_compared]), (p9, zO 6 [p9_kinds, p9_channel, p9_variable, p9_expression, p9_actor, p9_after, p9_keeps, .ref pr, .ref ps, .ref pl, .ref pb, .long p9_elses, .int p9_basics, .int p9_processes]), (pr, zJ K 8 fr), (ps, zI K 4 fs), (pl, zI K 32 fl), (pb, zJ K 124 fb)] H locs := hw
  refine lv_aload_n hx hb zd_LassoFinder_model_0 rfl (lv_at hl 0 rfl) ?_
  refine lv_iconst (v := 0) hx hb zd_LassoFinder_model_1 (by decide) ?_
  refine z_put hx hb hts hown hK hw zZ0 0 rfl 11 (by decide) zm_459 rfl rfl rfl (Nat.le_of_ble_eq_true rfl) zd_LassoFinder_model_2 (fun H locs hw => ?_)
  have hw : zW G A s.heap [(x9, zO 0 [.ref t9, x9_names, x9_program, .ref r9, x9_situation, x9_graph, x9_asked, x9_truths, .null, x9_walked, .int x9_walkLength, .int 0, .int x9_hasFormula]), (r9, zO 4 [.ref t9, .ref n9, .ref e9, .ref p9, r9_tree]), (t9, zO 9 [t9_signs, .int 0, .int t9_end, .int t9_at, .int t9_wrongAt]), (n9, zO 5 [.ref k9, n9_digits, n9_variableNames, n9_channelNames, .int n9_variables, .int n9_channels]), (k9, zI K 8 fk), (e9, zO 8 [e9_text, e9_names, e9_codes, .int e9_length, e9_waiting, .int e9_waitingSigns, e9_sides, .int e9_parts, .int e9_open, .int e9_compared]), (p9, zO 6 [p9_kinds, p9_channel, p9_variable, p9_expression, p9_actor, p9_after, p9_keeps, .ref pr, .ref ps, .ref pl, .ref pb, .long p9_elses, .int p9_basics, .int p9_processes]), (pr, zJ K 8 fr), (ps, zI K 4 fs), (pl, zI K 32 fl), (pb, zJ K 124 fb)] H locs := hw
  refine lv_aload_n hx hb zd_LassoFinder_model_5 rfl (lv_at hl 0 rfl) ?_
  refine lv_iconst (v := (-1)) hx hb zd_LassoFinder_model_6 (by decide) ?_
  refine z_put hx hb hts hown hK hw zZ0 0 rfl 10 (by decide) zm_355 rfl rfl rfl (Nat.le_of_ble_eq_true rfl) zd_LassoFinder_model_7 (fun H locs hw => ?_)
  have hw : zW G A s.heap [(x9, zO 0 [.ref t9, x9_names, x9_program, .ref r9, x9_situation, x9_graph, x9_asked, x9_truths, .null, x9_walked, .int (-1), .int 0, .int x9_hasFormula]), (r9, zO 4 [.ref t9, .ref n9, .ref e9, .ref p9, r9_tree]), (t9, zO 9 [t9_signs, .int 0, .int t9_end, .int t9_at, .int t9_wrongAt]), (n9, zO 5 [.ref k9, n9_digits, n9_variableNames, n9_channelNames, .int n9_variables, .int n9_channels]), (k9, zI K 8 fk), (e9, zO 8 [e9_text, e9_names, e9_codes, .int e9_length, e9_waiting, .int e9_waitingSigns, e9_sides, .int e9_parts, .int e9_open, .int e9_compared]), (p9, zO 6 [p9_kinds, p9_channel, p9_variable, p9_expression, p9_actor, p9_after, p9_keeps, .ref pr, .ref ps, .ref pl, .ref pb, .long p9_elses, .int p9_basics, .int p9_processes]), (pr, zJ K 8 fr), (ps, zI K 4 fs), (pl, zI K 32 fl), (pb, zJ K 124 fb)] H locs := hw
  refine lv_aload_n hx hb zd_LassoFinder_model_10 rfl (lv_at hl 0 rfl) ?_
  refine z_callv (w1 := fun (u11 : Unit) => [(x9, zO 0 [.ref t9, x9_names, x9_program, .ref r9, x9_situation, x9_graph, x9_asked, x9_truths, .null, x9_walked, .int (-1), .int 0, .int 0])]) (wr := [(r9, zO 4 [.ref t9, .ref n9, .ref e9, .ref p9, r9_tree]), (t9, zO 9 [t9_signs, .int 0, .int t9_end, .int t9_at, .int t9_wrongAt]), (n9, zO 5 [.ref k9, n9_digits, n9_variableNames, n9_channelNames, .int n9_variables, .int n9_channels]), (k9, zI K 8 fk), (e9, zO 8 [e9_text, e9_names, e9_codes, .int e9_length, e9_waiting, .int e9_waitingSigns, e9_sides, .int e9_parts, .int e9_open, .int e9_compared]), (p9, zO 6 [p9_kinds, p9_channel, p9_variable, p9_expression, p9_actor, p9_after, p9_keeps, .ref pr, .ref ps, .ref pl, .ref pb, .long p9_elses, .int p9_basics, .int p9_processes]), (pr, zJ K 8 fr), (ps, zI K 4 fs), (pl, zI K 32 fl), (pb, zJ K 124 fb)]) (z_runV (q0 := 0) (wc := [(x9, zO 0 [.ref t9, x9_names, x9_program, .ref r9, x9_situation, x9_graph, x9_asked, x9_truths, .null, x9_walked, .int (-1), .int 0, .int x9_hasFormula])]) (As := []) (rest := []) ⟨hx, hb, hml, hown, hts⟩ (c_dropFormula_0 l G K x9 (.ref t9) x9_names x9_program (.ref r9) x9_situation x9_graph x9_asked x9_truths x9_walked (-1) 0 x9_hasFormula H.size ) zf_LassoFinder_dropFormula zm_460 ⟨Nat.le_of_ble_eq_true rfl, Nat.le_of_ble_eq_true rfl⟩ hK hw [0] rfl (by decide) rfl rfl rfl hl.1 rfl (Nat.le_of_ble_eq_true rfl) zd_LassoFinder_model_11 ⟨Nat.le_of_ble_eq_true rfl, Nat.le_of_ble_eq_true rfl⟩) hw hA [0] [1, 2, 3, 4, 5, 6, 7, 8, 9, 10] rfl rfl (by decide) (by decide) (fun u11 H locs hu hw => ?_)
  have hw : zW G A s.heap [(r9, zO 4 [.ref t9, .ref n9, .ref e9, .ref p9, r9_tree]), (t9, zO 9 [t9_signs, .int 0, .int t9_end, .int t9_at, .int t9_wrongAt]), (n9, zO 5 [.ref k9, n9_digits, n9_variableNames, n9_channelNames, .int n9_variables, .int n9_channels]), (k9, zI K 8 fk), (e9, zO 8 [e9_text, e9_names, e9_codes, .int e9_length, e9_waiting, .int e9_waitingSigns, e9_sides, .int e9_parts, .int e9_open, .int e9_compared]), (p9, zO 6 [p9_kinds, p9_channel, p9_variable, p9_expression, p9_actor, p9_after, p9_keeps, .ref pr, .ref ps, .ref pl, .ref pb, .long p9_elses, .int p9_basics, .int p9_processes]), (pr, zJ K 8 fr), (ps, zI K 4 fs), (pl, zI K 32 fl), (pb, zJ K 124 fb), (x9, zO 0 [.ref t9, x9_names, x9_program, .ref r9, x9_situation, x9_graph, x9_asked, x9_truths, .null, x9_walked, .int (-1), .int 0, .int 0])] H locs := hw
  refine lv_aload_n hx hb zd_LassoFinder_model_14 rfl (lv_at hl 0 rfl) ?_
  refine z_get hx hb hts hown hK hw zZ0 10 rfl 0 (by decide) zm_330 rfl zd_LassoFinder_model_15 ?_
  refine z_callv (w1 := fun (u18 : Unit) => [(t9, zO 9 [t9_signs, .int 0, .int 0, .int 0, .int (-1)])]) (wr := [(r9, zO 4 [.ref t9, .ref n9, .ref e9, .ref p9, r9_tree]), (n9, zO 5 [.ref k9, n9_digits, n9_variableNames, n9_channelNames, .int n9_variables, .int n9_channels]), (k9, zI K 8 fk), (e9, zO 8 [e9_text, e9_names, e9_codes, .int e9_length, e9_waiting, .int e9_waitingSigns, e9_sides, .int e9_parts, .int e9_open, .int e9_compared]), (p9, zO 6 [p9_kinds, p9_channel, p9_variable, p9_expression, p9_actor, p9_after, p9_keeps, .ref pr, .ref ps, .ref pl, .ref pb, .long p9_elses, .int p9_basics, .int p9_processes]), (pr, zJ K 8 fr), (ps, zI K 4 fs), (pl, zI K 32 fl), (pb, zJ K 124 fb), (x9, zO 0 [.ref t9, x9_names, x9_program, .ref r9, x9_situation, x9_graph, x9_asked, x9_truths, .null, x9_walked, .int (-1), .int 0, .int 0])]) (z_runV (q0 := 1) (wc := [(t9, zO 9 [t9_signs, .int 0, .int t9_end, .int t9_at, .int t9_wrongAt])]) (As := []) (rest := []) ⟨hx, hb, hml, hown, hts⟩ (c_Text_open l G K t9 t9_signs 0 t9_end t9_at t9_wrongAt H.size ) zf_Text_open zm_461 ⟨Nat.le_of_ble_eq_true rfl, Nat.le_of_ble_eq_true rfl⟩ hK hw [1] rfl (by decide) rfl rfl rfl hl.1 rfl (Nat.le_of_ble_eq_true rfl) zd_LassoFinder_model_18 ⟨Nat.le_of_ble_eq_true rfl, Nat.le_of_ble_eq_true rfl⟩) hw hA [1] [0, 2, 3, 4, 5, 6, 7, 8, 9, 10] rfl rfl (by decide) (by decide) (fun u18 H locs hu hw => ?_)
  have hw : zW G A s.heap [(r9, zO 4 [.ref t9, .ref n9, .ref e9, .ref p9, r9_tree]), (n9, zO 5 [.ref k9, n9_digits, n9_variableNames, n9_channelNames, .int n9_variables, .int n9_channels]), (k9, zI K 8 fk), (e9, zO 8 [e9_text, e9_names, e9_codes, .int e9_length, e9_waiting, .int e9_waitingSigns, e9_sides, .int e9_parts, .int e9_open, .int e9_compared]), (p9, zO 6 [p9_kinds, p9_channel, p9_variable, p9_expression, p9_actor, p9_after, p9_keeps, .ref pr, .ref ps, .ref pl, .ref pb, .long p9_elses, .int p9_basics, .int p9_processes]), (pr, zJ K 8 fr), (ps, zI K 4 fs), (pl, zI K 32 fl), (pb, zJ K 124 fb), (x9, zO 0 [.ref t9, x9_names, x9_program, .ref r9, x9_situation, x9_graph, x9_asked, x9_truths, .null, x9_walked, .int (-1), .int 0, .int 0]), (t9, zO 9 [t9_signs, .int 0, .int 0, .int 0, .int (-1)])] H locs := hw
  refine lv_aload_n hx hb zd_LassoFinder_model_21 rfl (lv_at hl 0 rfl) ?_
  refine z_get hx hb hts hown hK hw zZ0 9 rfl 3 (by decide) zm_341 rfl zd_LassoFinder_model_22 ?_
  refine z_xV (px := fun _ : Unit => True) (w1 := fun _ => []) (q0 := 0) (wc := [(r9, zO 4 [.ref t9, .ref n9, .ref e9, .ref p9, r9_tree]), (t9, zO 9 [t9_signs, .int 0, .int 0, .int 0, .int (-1)]), (n9, zO 5 [.ref k9, n9_digits, n9_variableNames, n9_channelNames, .int n9_variables, .int n9_channels]), (k9, zI K 8 fk), (e9, zO 8 [e9_text, e9_names, e9_codes, .int e9_length, e9_waiting, .int e9_waitingSigns, e9_sides, .int e9_parts, .int e9_open, .int e9_compared]), (p9, zO 6 [p9_kinds, p9_channel, p9_variable, p9_expression, p9_actor, p9_after, p9_keeps, .ref pr, .ref ps, .ref pl, .ref pb, .long p9_elses, .int p9_basics, .int p9_processes]), (pr, zJ K 8 fr), (ps, zI K 4 fs), (pl, zI K 32 fl), (pb, zJ K 124 fb)]) (wr := [(x9, zO 0 [.ref t9, x9_names, x9_program, .ref r9, x9_situation, x9_graph, x9_asked, x9_truths, .null, x9_walked, .int (-1), .int 0, .int 0])]) (As := []) (rest := []) ⟨hx, hb, hml, hown, hts⟩ (c_ModelReader_readAll_0 l hlt G K r9 t9 n9 k9 e9 p9 pr ps pl pb r9_tree t9_signs 0 (-1) n9_digits n9_variableNames n9_channelNames n9_variables n9_channels fk e9_text e9_names e9_codes e9_length e9_waiting e9_waitingSigns e9_sides e9_parts e9_open e9_compared p9_kinds p9_channel p9_variable p9_expression p9_actor p9_after p9_keeps p9_elses p9_basics p9_processes fr fs fl fb H.size ) zf_ModelReader_readAll zm_462 ⟨Nat.le_of_ble_eq_true rfl, Nat.le_of_ble_eq_true rfl⟩ hK hT hw hA [0, 10, 1, 2, 3, 4, 5, 6, 7, 8] [9] rfl rfl (by decide) (by decide) (by decide) rfl rfl rfl hl.1 rfl (Nat.le_of_ble_eq_true rfl) zd_LassoFinder_model_25 ⟨Nat.le_of_ble_eq_true rfl, Nat.le_of_ble_eq_true rfl⟩ (fun ce q9 _ H locs hu hw hce hcv hcl => ?_)
  have hw : zW G A s.heap [(x9, zO 0 [.ref t9, x9_names, x9_program, .ref r9, x9_situation, x9_graph, x9_asked, x9_truths, .null, x9_walked, .int (-1), .int 0, .int 0])] H locs := hw
  exact z_xout (u := ()) hnt hlocks hce hcv hcl hw [] rfl (by decide) trivial (Nat.le_of_ble_eq_true rfl) (Nat.le_of_ble_eq_true rfl)
set_option maxHeartbeats 4000000 in
set_option maxRecDepth 100000 in
theorem c_formula_0 (l : Launch) (hlt : l.stackTraces = false) (G : va_G) (K : Nat → ClassId) (x9 : Nat) (t9 : Nat) (x9_names : Value) (x9_program : Value) (x9_reader : Value) (x9_situation : Value) (x9_graph : Value) (x9_asked : Value) (x9_truths : Value) (x9_walked : Value) (x9_walkLength : Int32) (x9_hasFormula : Int32) (t9_signs : Value) (t9_written : Int32) (t9_end : Int32) (t9_at : Int32) (t9_wrongAt : Int32) (sz : Nat) : zxMet l zy_LassoFinder_formula (Cond.code zy_LassoFinder_formula prog_1_method_4_code 1 (some .int) :: zTB) { frames := 6, cells := 1, slots := 6, locals := 81 } (va_Pc [.ref x9] (zPreX G K [(x9, zO 0 [.ref t9, x9_names, x9_program, x9_reader, x9_situation, x9_graph, x9_asked, x9_truths, .null, x9_walked, .int x9_walkLength, .int 0, .int x9_hasFormula]), (t9, zO 9 [t9_signs, .int t9_written, .int t9_end, .int t9_at, .int t9_wrongAt])] sz)) "java/lang/IllegalStateException" (zXC (fun _ : Unit => True) (fun _ => []) G K (va_A [(x9, zO 0 [.ref t9, x9_names, x9_program, x9_reader, x9_situation, x9_graph, x9_asked, x9_truths, .null, x9_walked, .int x9_walkLength, .int 0, .int x9_hasFormula]), (t9, zO 9 [t9_signs, .int t9_written, .int t9_end, .int t9_at, .int t9_wrongAt])] sz)) 1 6 (va_A [(x9, zO 0 [.ref t9, x9_names, x9_program, x9_reader, x9_situation, x9_graph, x9_asked, x9_truths, .null, x9_walked, .int x9_walkLength, .int 0, .int x9_hasFormula]), (t9, zO 9 [t9_signs, .int t9_written, .int t9_end, .int t9_at, .int t9_wrongAt])] sz) := by
  refine zMetX (Xf := fun A => (zXC (fun _ : Unit => True) (fun _ => []) G K A)) (by decide) (Nat.le_of_ble_eq_true rfl) ?_
  intro p e s m below meth c ls A hx hb hr hml hts hown hlocks hin hA hK H locs hw hsz hl hT hnt hNS
  clear hsz
  have hown : s.vm.findClass "LassoFinder" = some m.cls := hown
  have hl : lv_has ls 1 [(0, .ref x9)] := hl
  have hw : zW G A s.heap [(x9, zO 0 [.ref t9, x9_names, x9_program, x9_reader, x9_situation, x9_graph, x9_asked, x9_truths, .null, x9_walked, .int x9_walkLength, .int 0, .int x9_hasFormula]), (t9, zO 9 [t9_signs, .int t9_written, .int t9_end, .int t9_at, .int t9_wrongAt])] H locs := hw
  refine lv_aload_n hx hb zd_LassoFinder_formula_0 rfl (lv_at hl 0 rfl) ?_
  refine z_callv (w1 := fun (u1 : Unit) => [(x9, zO 0 [.ref t9, x9_names, x9_program, x9_reader, x9_situation, x9_graph, x9_asked, x9_truths, .null, x9_walked, .int x9_walkLength, .int 0, .int 0])]) (wr := [(t9, zO 9 [t9_signs, .int t9_written, .int t9_end, .int t9_at, .int t9_wrongAt])]) (z_runV (q0 := 0) (wc := [(x9, zO 0 [.ref t9, x9_names, x9_program, x9_reader, x9_situation, x9_graph, x9_asked, x9_truths, .null, x9_walked, .int x9_walkLength, .int 0, .int x9_hasFormula])]) (As := []) (rest := []) ⟨hx, hb, hml, hown, hts⟩ (c_dropFormula_0 l G K x9 (.ref t9) x9_names x9_program x9_reader x9_situation x9_graph x9_asked x9_truths x9_walked x9_walkLength 0 x9_hasFormula H.size ) zf_LassoFinder_dropFormula zm_460 ⟨Nat.le_of_ble_eq_true rfl, Nat.le_of_ble_eq_true rfl⟩ hK hw [0] rfl (by decide) rfl rfl rfl hl.1 rfl (Nat.le_of_ble_eq_true rfl) zd_LassoFinder_formula_1 ⟨Nat.le_of_ble_eq_true rfl, Nat.le_of_ble_eq_true rfl⟩) hw hA [0] [1] rfl rfl (by decide) (by decide) (fun u1 H locs hu hw => ?_)
  have hw : zW G A s.heap [(t9, zO 9 [t9_signs, .int t9_written, .int t9_end, .int t9_at, .int t9_wrongAt]), (x9, zO 0 [.ref t9, x9_names, x9_program, x9_reader, x9_situation, x9_graph, x9_asked, x9_truths, .null, x9_walked, .int x9_walkLength, .int 0, .int 0])] H locs := hw
  refine lv_aload_n hx hb zd_LassoFinder_formula_4 rfl (lv_at hl 0 rfl) ?_
  refine z_get hx hb hts hown hK hw zZ0 1 rfl 0 (by decide) zm_330 rfl zd_LassoFinder_formula_5 ?_
  refine z_callv (w1 := fun (u8 : Unit) => [(t9, zO 9 [t9_signs, .int 0, .int t9_written, .int 0, .int (-1)])]) (wr := [(x9, zO 0 [.ref t9, x9_names, x9_program, x9_reader, x9_situation, x9_graph, x9_asked, x9_truths, .null, x9_walked, .int x9_walkLength, .int 0, .int 0])]) (z_runV (q0 := 0) (wc := [(t9, zO 9 [t9_signs, .int t9_written, .int t9_end, .int t9_at, .int t9_wrongAt])]) (As := []) (rest := []) ⟨hx, hb, hml, hown, hts⟩ (c_Text_open l G K t9 t9_signs t9_written t9_end t9_at t9_wrongAt H.size ) zf_Text_open zm_461 ⟨Nat.le_of_ble_eq_true rfl, Nat.le_of_ble_eq_true rfl⟩ hK hw [0] rfl (by decide) rfl rfl rfl hl.1 rfl (Nat.le_of_ble_eq_true rfl) zd_LassoFinder_formula_8 ⟨Nat.le_of_ble_eq_true rfl, Nat.le_of_ble_eq_true rfl⟩) hw hA [0] [1] rfl rfl (by decide) (by decide) (fun u8 H locs hu hw => ?_)
  have hw : zW G A s.heap [(x9, zO 0 [.ref t9, x9_names, x9_program, x9_reader, x9_situation, x9_graph, x9_asked, x9_truths, .null, x9_walked, .int x9_walkLength, .int 0, .int 0]), (t9, zO 9 [t9_signs, .int 0, .int t9_written, .int 0, .int (-1)])] H locs := hw
  refine lv_aload_n hx hb zd_LassoFinder_formula_11 rfl (lv_at hl 0 rfl) ?_
  refine z_get hx hb hts hown hK hw zZ0 0 rfl 11 (by decide) zm_459 rfl zd_LassoFinder_formula_12 ?_
  refine lv_if_ne (tgt := 26) hx hb zd_LassoFinder_formula_15 (by decide) (fun h9 => absurd h9 (by decide)) (fun _ => ?_)
  exact z_throw (names := ["java/lang/RuntimeException", "java/lang/Exception"]) hx hb hlt hts hown hnt hlocks hT hNS (by rw [hml]; exact hl.1) (by decide +kernel) (by decide +kernel) zm_463 zm_464 zm_465 zx_1 hw zd_LassoFinder_formula_18 zd_LassoFinder_formula_21 zd_LassoFinder_formula_22 zd_LassoFinder_formula_25 (Nat.le_of_ble_eq_true rfl) (Nat.le_of_ble_eq_true rfl) (Nat.le_of_ble_eq_true rfl) (Nat.le_of_ble_eq_true rfl) (Nat.le_of_ble_eq_true rfl) (Nat.le_of_ble_eq_true rfl)
set_option maxHeartbeats 4000000 in
set_option maxRecDepth 100000 in
theorem c_place (l : Launch) (G : va_G) (K : Nat → ClassId) (x9 : Nat) (t9 : Nat) (x9_names : Value) (x9_program : Value) (x9_reader : Value) (x9_situation : Value) (x9_graph : Value) (x9_asked : Value) (x9_truths : Value) (x9_search : Value) (x9_walked : Value) (x9_walkLength : Int32) (x9_hasModel : Int32) (x9_hasFormula : Int32) (t9_signs : Value) (t9_written : Int32) (t9_end : Int32) (t9_at : Int32) (t9_wrongAt : Int32) (sz : Nat) : Met l zy_LassoFinder_place (Cond.code zy_LassoFinder_place prog_1_method_5_code 1 (some .int) :: zTB) { frames := 0, cells := 0, slots := 0, locals := 0 } (va_Pc [.ref x9] (zPre G K [(x9, zO 0 [.ref t9, x9_names, x9_program, x9_reader, x9_situation, x9_graph, x9_asked, x9_truths, x9_search, x9_walked, .int x9_walkLength, .int x9_hasModel, .int x9_hasFormula]), (t9, zO 9 [t9_signs, .int t9_written, .int t9_end, .int t9_at, .int t9_wrongAt])] sz)) (va_Qi (fun (r : Int32) (u : Unit) => r = t9_wrongAt) (fun u t => zPost G K (va_A [(x9, zO 0 [.ref t9, x9_names, x9_program, x9_reader, x9_situation, x9_graph, x9_asked, x9_truths, x9_search, x9_walked, .int x9_walkLength, .int x9_hasModel, .int x9_hasFormula]), (t9, zO 9 [t9_signs, .int t9_written, .int t9_end, .int t9_at, .int t9_wrongAt])] sz) [(x9, zO 0 [.ref t9, x9_names, x9_program, x9_reader, x9_situation, x9_graph, x9_asked, x9_truths, x9_search, x9_walked, .int x9_walkLength, .int x9_hasModel, .int x9_hasFormula]), (t9, zO 9 [t9_signs, .int t9_written, .int t9_end, .int t9_at, .int t9_wrongAt])] t) (va_A [(x9, zO 0 [.ref t9, x9_names, x9_program, x9_reader, x9_situation, x9_graph, x9_asked, x9_truths, x9_search, x9_walked, .int x9_walkLength, .int x9_hasModel, .int x9_hasFormula]), (t9, zO 9 [t9_signs, .int t9_written, .int t9_end, .int t9_at, .int t9_wrongAt])] sz)) 0 0 (va_A [(x9, zO 0 [.ref t9, x9_names, x9_program, x9_reader, x9_situation, x9_graph, x9_asked, x9_truths, x9_search, x9_walked, .int x9_walkLength, .int x9_hasModel, .int x9_hasFormula]), (t9, zO 9 [t9_signs, .int t9_written, .int t9_end, .int t9_at, .int t9_wrongAt])] sz) := by
  refine zMet (y := zy_LassoFinder_place) (av := [.ref x9]) (maxL := 1) (cc := prog_1_method_5_code) (ret := (some .int)) (W0 := [(x9, zO 0 [.ref t9, x9_names, x9_program, x9_reader, x9_situation, x9_graph, x9_asked, x9_truths, x9_search, x9_walked, .int x9_walkLength, .int x9_hasModel, .int x9_hasFormula]), (t9, zO 9 [t9_signs, .int t9_written, .int t9_end, .int t9_at, .int t9_wrongAt])]) (sz := sz) (G := G) (K := K) (wt := zTB) (mc := 0) (ms := 0) (Qf := fun A => va_Qi (fun (r : Int32) (u : Unit) => r = t9_wrongAt) (fun u t => zPost G K A [(x9, zO 0 [.ref t9, x9_names, x9_program, x9_reader, x9_situation, x9_graph, x9_asked, x9_truths, x9_search, x9_walked, .int x9_walkLength, .int x9_hasModel, .int x9_hasFormula]), (t9, zO 9 [t9_signs, .int t9_written, .int t9_end, .int t9_at, .int t9_wrongAt])] t) A) (by decide) (Nat.le_of_ble_eq_true rfl) ?_
  intro p e s m below meth c ls A hx hb hr hml hts hown hlocks hin hA hK H locs hw hsz hl
  clear hsz
  have hown : s.vm.findClass "LassoFinder" = some m.cls := hown
  have hl : lv_has ls 1 [(0, .ref x9)] := hl
  have hw : zW G A s.heap [(x9, zO 0 [.ref t9, x9_names, x9_program, x9_reader, x9_situation, x9_graph, x9_asked, x9_truths, x9_search, x9_walked, .int x9_walkLength, .int x9_hasModel, .int x9_hasFormula]), (t9, zO 9 [t9_signs, .int t9_written, .int t9_end, .int t9_at, .int t9_wrongAt])] H locs := hw
  refine lv_aload_n hx hb zd_LassoFinder_place_0 rfl (lv_at hl 0 rfl) ?_
  refine z_get hx hb hts hown hK hw zZ0 0 rfl 0 (by decide) zm_330 rfl zd_LassoFinder_place_1 ?_
  refine z_get hx hb hts hown hK hw zZ9 1 rfl 4 (by decide) zm_466 rfl zd_LassoFinder_place_4 ?_
  exact z_iret (u := ()) hx hb hr hlocks rfl hw [0, 1] rfl (by decide) rfl (Nat.le_of_ble_eq_true rfl) (Nat.le_of_ble_eq_true rfl) zd_LassoFinder_place_7
set_option maxHeartbeats 4000000 in
set_option maxRecDepth 100000 in
theorem c_verify_0 (l : Launch) (hlt : l.stackTraces = false) (G : va_G) (K : Nat → ClassId) (x9 : Nat) (x9_text : Value) (x9_names : Value) (x9_program : Value) (x9_reader : Value) (x9_situation : Value) (x9_graph : Value) (x9_asked : Value) (x9_truths : Value) (x9_search : Value) (x9_walked : Value) (x9_walkLength : Int32) (x9_hasModel : Int32) (sz : Nat) : zxMet l zy_LassoFinder_verify (Cond.code zy_LassoFinder_verify prog_1_method_6_code 1 (some .boolean) :: zTB) { frames := 6, cells := 1, slots := 6, locals := 81 } (va_Pc [.ref x9] (zPreX G K [(x9, zO 0 [x9_text, x9_names, x9_program, x9_reader, x9_situation, x9_graph, x9_asked, x9_truths, x9_search, x9_walked, .int x9_walkLength, .int x9_hasModel, .int 0])] sz)) "java/lang/IllegalStateException" (zXC (fun _ : Unit => True) (fun _ => []) G K (va_A [(x9, zO 0 [x9_text, x9_names, x9_program, x9_reader, x9_situation, x9_graph, x9_asked, x9_truths, x9_search, x9_walked, .int x9_walkLength, .int x9_hasModel, .int 0])] sz)) 1 6 (va_A [(x9, zO 0 [x9_text, x9_names, x9_program, x9_reader, x9_situation, x9_graph, x9_asked, x9_truths, x9_search, x9_walked, .int x9_walkLength, .int x9_hasModel, .int 0])] sz) := by
  refine zMetX (Xf := fun A => (zXC (fun _ : Unit => True) (fun _ => []) G K A)) (by decide) (Nat.le_of_ble_eq_true rfl) ?_
  intro p e s m below meth c ls A hx hb hr hml hts hown hlocks hin hA hK H locs hw hsz hl hT hnt hNS
  clear hsz
  have hown : s.vm.findClass "LassoFinder" = some m.cls := hown
  have hl : lv_has ls 1 [(0, .ref x9)] := hl
  have hw : zW G A s.heap [(x9, zO 0 [x9_text, x9_names, x9_program, x9_reader, x9_situation, x9_graph, x9_asked, x9_truths, x9_search, x9_walked, .int x9_walkLength, .int x9_hasModel, .int 0])] H locs := hw
  refine lv_aload_n hx hb zd_LassoFinder_verify_0 rfl (lv_at hl 0 rfl) ?_
  refine z_get hx hb hts hown hK hw zZ0 0 rfl 12 (by decide) zm_457 rfl zd_LassoFinder_verify_1 ?_
  refine lv_if_ne (tgt := 15) hx hb zd_LassoFinder_verify_4 (by decide) (fun h9 => absurd h9 (by decide)) (fun _ => ?_)
  exact z_throw (names := ["java/lang/RuntimeException", "java/lang/Exception"]) hx hb hlt hts hown hnt hlocks hT hNS (by rw [hml]; exact hl.1) (by decide +kernel) (by decide +kernel) zm_463 zm_464 zm_465 zx_1 hw zd_LassoFinder_verify_7 zd_LassoFinder_verify_10 zd_LassoFinder_verify_11 zd_LassoFinder_verify_14 (Nat.le_of_ble_eq_true rfl) (Nat.le_of_ble_eq_true rfl) (Nat.le_of_ble_eq_true rfl) (Nat.le_of_ble_eq_true rfl) (Nat.le_of_ble_eq_true rfl) (Nat.le_of_ble_eq_true rfl)
set_option maxHeartbeats 4000000 in
set_option maxRecDepth 100000 in
theorem c_hasLasso_0 (l : Launch) (G : va_G) (K : Nat → ClassId) (x9 : Nat) (x9_text : Value) (x9_names : Value) (x9_program : Value) (x9_reader : Value) (x9_situation : Value) (x9_graph : Value) (x9_asked : Value) (x9_truths : Value) (x9_walked : Value) (x9_walkLength : Int32) (x9_hasModel : Int32) (x9_hasFormula : Int32) (sz : Nat) : Met l zy_LassoFinder_hasLasso (Cond.code zy_LassoFinder_hasLasso prog_1_method_20_code 1 (some .boolean) :: zTB) { frames := 0, cells := 0, slots := 0, locals := 0 } (va_Pc [.ref x9] (zPre G K [(x9, zO 0 [x9_text, x9_names, x9_program, x9_reader, x9_situation, x9_graph, x9_asked, x9_truths, .null, x9_walked, .int x9_walkLength, .int x9_hasModel, .int x9_hasFormula])] sz)) (va_Qi (fun (r : Int32) (u : Unit) => r = 0) (fun u t => zPost G K (va_A [(x9, zO 0 [x9_text, x9_names, x9_program, x9_reader, x9_situation, x9_graph, x9_asked, x9_truths, .null, x9_walked, .int x9_walkLength, .int x9_hasModel, .int x9_hasFormula])] sz) [(x9, zO 0 [x9_text, x9_names, x9_program, x9_reader, x9_situation, x9_graph, x9_asked, x9_truths, .null, x9_walked, .int x9_walkLength, .int x9_hasModel, .int x9_hasFormula])] t) (va_A [(x9, zO 0 [x9_text, x9_names, x9_program, x9_reader, x9_situation, x9_graph, x9_asked, x9_truths, .null, x9_walked, .int x9_walkLength, .int x9_hasModel, .int x9_hasFormula])] sz)) 0 0 (va_A [(x9, zO 0 [x9_text, x9_names, x9_program, x9_reader, x9_situation, x9_graph, x9_asked, x9_truths, .null, x9_walked, .int x9_walkLength, .int x9_hasModel, .int x9_hasFormula])] sz) := by
  refine zMet (y := zy_LassoFinder_hasLasso) (av := [.ref x9]) (maxL := 1) (cc := prog_1_method_20_code) (ret := (some .boolean)) (W0 := [(x9, zO 0 [x9_text, x9_names, x9_program, x9_reader, x9_situation, x9_graph, x9_asked, x9_truths, .null, x9_walked, .int x9_walkLength, .int x9_hasModel, .int x9_hasFormula])]) (sz := sz) (G := G) (K := K) (wt := zTB) (mc := 0) (ms := 0) (Qf := fun A => va_Qi (fun (r : Int32) (u : Unit) => r = 0) (fun u t => zPost G K A [(x9, zO 0 [x9_text, x9_names, x9_program, x9_reader, x9_situation, x9_graph, x9_asked, x9_truths, .null, x9_walked, .int x9_walkLength, .int x9_hasModel, .int x9_hasFormula])] t) A) (by decide) (Nat.le_of_ble_eq_true rfl) ?_
  intro p e s m below meth c ls A hx hb hr hml hts hown hlocks hin hA hK H locs hw hsz hl
  clear hsz
  have hown : s.vm.findClass "LassoFinder" = some m.cls := hown
  have hl : lv_has ls 1 [(0, .ref x9)] := hl
  have hw : zW G A s.heap [(x9, zO 0 [x9_text, x9_names, x9_program, x9_reader, x9_situation, x9_graph, x9_asked, x9_truths, .null, x9_walked, .int x9_walkLength, .int x9_hasModel, .int x9_hasFormula])] H locs := hw
  refine lv_aload_n hx hb zd_LassoFinder_hasLasso_0 rfl (lv_at hl 0 rfl) ?_
  refine z_get hx hb hts hown hK hw zZ0 0 rfl 8 (by decide) zm_458 rfl zd_LassoFinder_hasLasso_1 ?_
  refine lv_ifnullN (tgt := 21) hx hb zd_LassoFinder_hasLasso_4 (by decide) ?_
  refine lv_iconst (v := 0) hx hb zd_LassoFinder_hasLasso_21 (by decide) ?_
  exact z_iret (u := ()) hx hb hr hlocks rfl hw [0] rfl (by decide) rfl (Nat.le_of_ble_eq_true rfl) (Nat.le_of_ble_eq_true rfl) zd_LassoFinder_hasLasso_22
set_option maxHeartbeats 4000000 in
set_option maxRecDepth 100000 in
theorem c_stem_0 (l : Launch) (G : va_G) (K : Nat → ClassId) (x9 : Nat) (x9_text : Value) (x9_names : Value) (x9_program : Value) (x9_reader : Value) (x9_situation : Value) (x9_graph : Value) (x9_asked : Value) (x9_truths : Value) (x9_walked : Value) (x9_walkLength : Int32) (x9_hasModel : Int32) (x9_hasFormula : Int32) (sz : Nat) : Met l zy_LassoFinder_stem (Cond.code zy_LassoFinder_stem prog_1_method_7_code 1 (some .int) :: zTB) { frames := 1, cells := 0, slots := 0, locals := 20 } (va_Pc [.ref x9] (zPre G K [(x9, zO 0 [x9_text, x9_names, x9_program, x9_reader, x9_situation, x9_graph, x9_asked, x9_truths, .null, x9_walked, .int x9_walkLength, .int x9_hasModel, .int x9_hasFormula])] sz)) (va_Qi (fun (r : Int32) (u : Unit) => r = (-1)) (fun u t => zPost G K (va_A [(x9, zO 0 [x9_text, x9_names, x9_program, x9_reader, x9_situation, x9_graph, x9_asked, x9_truths, .null, x9_walked, .int x9_walkLength, .int x9_hasModel, .int x9_hasFormula])] sz) [(x9, zO 0 [x9_text, x9_names, x9_program, x9_reader, x9_situation, x9_graph, x9_asked, x9_truths, .null, x9_walked, .int x9_walkLength, .int x9_hasModel, .int x9_hasFormula])] t) (va_A [(x9, zO 0 [x9_text, x9_names, x9_program, x9_reader, x9_situation, x9_graph, x9_asked, x9_truths, .null, x9_walked, .int x9_walkLength, .int x9_hasModel, .int x9_hasFormula])] sz)) 0 0 (va_A [(x9, zO 0 [x9_text, x9_names, x9_program, x9_reader, x9_situation, x9_graph, x9_asked, x9_truths, .null, x9_walked, .int x9_walkLength, .int x9_hasModel, .int x9_hasFormula])] sz) := by
  refine zMet (y := zy_LassoFinder_stem) (av := [.ref x9]) (maxL := 1) (cc := prog_1_method_7_code) (ret := (some .int)) (W0 := [(x9, zO 0 [x9_text, x9_names, x9_program, x9_reader, x9_situation, x9_graph, x9_asked, x9_truths, .null, x9_walked, .int x9_walkLength, .int x9_hasModel, .int x9_hasFormula])]) (sz := sz) (G := G) (K := K) (wt := zTB) (mc := 0) (ms := 0) (Qf := fun A => va_Qi (fun (r : Int32) (u : Unit) => r = (-1)) (fun u t => zPost G K A [(x9, zO 0 [x9_text, x9_names, x9_program, x9_reader, x9_situation, x9_graph, x9_asked, x9_truths, .null, x9_walked, .int x9_walkLength, .int x9_hasModel, .int x9_hasFormula])] t) A) (by decide) (Nat.le_of_ble_eq_true rfl) ?_
  intro p e s m below meth c ls A hx hb hr hml hts hown hlocks hin hA hK H locs hw hsz hl
  clear hsz
  have hown : s.vm.findClass "LassoFinder" = some m.cls := hown
  have hl : lv_has ls 1 [(0, .ref x9)] := hl
  have hw : zW G A s.heap [(x9, zO 0 [x9_text, x9_names, x9_program, x9_reader, x9_situation, x9_graph, x9_asked, x9_truths, .null, x9_walked, .int x9_walkLength, .int x9_hasModel, .int x9_hasFormula])] H locs := hw
  refine lv_aload_n hx hb zd_LassoFinder_stem_0 rfl (lv_at hl 0 rfl) ?_
  refine z_calli (w1 := fun (u1 : Unit) => [(x9, zO 0 [x9_text, x9_names, x9_program, x9_reader, x9_situation, x9_graph, x9_asked, x9_truths, .null, x9_walked, .int x9_walkLength, .int x9_hasModel, .int x9_hasFormula])]) (wr := []) (z_runV (q0 := 0) (wc := [(x9, zO 0 [x9_text, x9_names, x9_program, x9_reader, x9_situation, x9_graph, x9_asked, x9_truths, .null, x9_walked, .int x9_walkLength, .int x9_hasModel, .int x9_hasFormula])]) (As := []) (rest := []) ⟨hx, hb, hml, hown, hts⟩ (c_hasLasso_0 l G K x9 x9_text x9_names x9_program x9_reader x9_situation x9_graph x9_asked x9_truths x9_walked x9_walkLength x9_hasModel x9_hasFormula H.size ) zf_LassoFinder_hasLasso zm_467 ⟨Nat.le_of_ble_eq_true rfl, Nat.le_of_ble_eq_true rfl⟩ hK hw [0] rfl (by decide) rfl rfl rfl hl.1 rfl (Nat.le_of_ble_eq_true rfl) zd_LassoFinder_stem_1 ⟨Nat.le_of_ble_eq_true rfl, Nat.le_of_ble_eq_true rfl⟩) hw hA [0] [] rfl rfl (by decide) (by decide) (fun r1 u1 H locs hu hw => ?_)
  obtain rfl := hu
  have hw : zW G A s.heap [(x9, zO 0 [x9_text, x9_names, x9_program, x9_reader, x9_situation, x9_graph, x9_asked, x9_truths, .null, x9_walked, .int x9_walkLength, .int x9_hasModel, .int x9_hasFormula])] H locs := hw
  refine lv_if_eq (tgt := 17) hx hb zd_LassoFinder_stem_4 (by decide) (fun _ => ?_) (fun h9 => absurd h9 (by decide))
  refine lv_iconst (v := (-1)) hx hb zd_LassoFinder_stem_17 (by decide) ?_
  exact z_iret (u := ()) hx hb hr hlocks rfl hw [0] rfl (by decide) rfl (Nat.le_of_ble_eq_true rfl) (Nat.le_of_ble_eq_true rfl) zd_LassoFinder_stem_18
set_option maxHeartbeats 4000000 in
set_option maxRecDepth 100000 in
theorem c_cycle_0 (l : Launch) (G : va_G) (K : Nat → ClassId) (x9 : Nat) (x9_text : Value) (x9_names : Value) (x9_program : Value) (x9_reader : Value) (x9_situation : Value) (x9_graph : Value) (x9_asked : Value) (x9_truths : Value) (x9_walked : Value) (x9_walkLength : Int32) (x9_hasModel : Int32) (x9_hasFormula : Int32) (sz : Nat) : Met l zy_LassoFinder_cycle (Cond.code zy_LassoFinder_cycle prog_1_method_8_code 1 (some .int) :: zTB) { frames := 1, cells := 0, slots := 0, locals := 20 } (va_Pc [.ref x9] (zPre G K [(x9, zO 0 [x9_text, x9_names, x9_program, x9_reader, x9_situation, x9_graph, x9_asked, x9_truths, .null, x9_walked, .int x9_walkLength, .int x9_hasModel, .int x9_hasFormula])] sz)) (va_Qi (fun (r : Int32) (u : Unit) => r = 0) (fun u t => zPost G K (va_A [(x9, zO 0 [x9_text, x9_names, x9_program, x9_reader, x9_situation, x9_graph, x9_asked, x9_truths, .null, x9_walked, .int x9_walkLength, .int x9_hasModel, .int x9_hasFormula])] sz) [(x9, zO 0 [x9_text, x9_names, x9_program, x9_reader, x9_situation, x9_graph, x9_asked, x9_truths, .null, x9_walked, .int x9_walkLength, .int x9_hasModel, .int x9_hasFormula])] t) (va_A [(x9, zO 0 [x9_text, x9_names, x9_program, x9_reader, x9_situation, x9_graph, x9_asked, x9_truths, .null, x9_walked, .int x9_walkLength, .int x9_hasModel, .int x9_hasFormula])] sz)) 0 0 (va_A [(x9, zO 0 [x9_text, x9_names, x9_program, x9_reader, x9_situation, x9_graph, x9_asked, x9_truths, .null, x9_walked, .int x9_walkLength, .int x9_hasModel, .int x9_hasFormula])] sz) := by
  refine zMet (y := zy_LassoFinder_cycle) (av := [.ref x9]) (maxL := 1) (cc := prog_1_method_8_code) (ret := (some .int)) (W0 := [(x9, zO 0 [x9_text, x9_names, x9_program, x9_reader, x9_situation, x9_graph, x9_asked, x9_truths, .null, x9_walked, .int x9_walkLength, .int x9_hasModel, .int x9_hasFormula])]) (sz := sz) (G := G) (K := K) (wt := zTB) (mc := 0) (ms := 0) (Qf := fun A => va_Qi (fun (r : Int32) (u : Unit) => r = 0) (fun u t => zPost G K A [(x9, zO 0 [x9_text, x9_names, x9_program, x9_reader, x9_situation, x9_graph, x9_asked, x9_truths, .null, x9_walked, .int x9_walkLength, .int x9_hasModel, .int x9_hasFormula])] t) A) (by decide) (Nat.le_of_ble_eq_true rfl) ?_
  intro p e s m below meth c ls A hx hb hr hml hts hown hlocks hin hA hK H locs hw hsz hl
  clear hsz
  have hown : s.vm.findClass "LassoFinder" = some m.cls := hown
  have hl : lv_has ls 1 [(0, .ref x9)] := hl
  have hw : zW G A s.heap [(x9, zO 0 [x9_text, x9_names, x9_program, x9_reader, x9_situation, x9_graph, x9_asked, x9_truths, .null, x9_walked, .int x9_walkLength, .int x9_hasModel, .int x9_hasFormula])] H locs := hw
  refine lv_aload_n hx hb zd_LassoFinder_cycle_0 rfl (lv_at hl 0 rfl) ?_
  refine z_calli (w1 := fun (u1 : Unit) => [(x9, zO 0 [x9_text, x9_names, x9_program, x9_reader, x9_situation, x9_graph, x9_asked, x9_truths, .null, x9_walked, .int x9_walkLength, .int x9_hasModel, .int x9_hasFormula])]) (wr := []) (z_runV (q0 := 0) (wc := [(x9, zO 0 [x9_text, x9_names, x9_program, x9_reader, x9_situation, x9_graph, x9_asked, x9_truths, .null, x9_walked, .int x9_walkLength, .int x9_hasModel, .int x9_hasFormula])]) (As := []) (rest := []) ⟨hx, hb, hml, hown, hts⟩ (c_hasLasso_0 l G K x9 x9_text x9_names x9_program x9_reader x9_situation x9_graph x9_asked x9_truths x9_walked x9_walkLength x9_hasModel x9_hasFormula H.size ) zf_LassoFinder_hasLasso zm_467 ⟨Nat.le_of_ble_eq_true rfl, Nat.le_of_ble_eq_true rfl⟩ hK hw [0] rfl (by decide) rfl rfl rfl hl.1 rfl (Nat.le_of_ble_eq_true rfl) zd_LassoFinder_cycle_1 ⟨Nat.le_of_ble_eq_true rfl, Nat.le_of_ble_eq_true rfl⟩) hw hA [0] [] rfl rfl (by decide) (by decide) (fun r1 u1 H locs hu hw => ?_)
  obtain rfl := hu
  have hw : zW G A s.heap [(x9, zO 0 [x9_text, x9_names, x9_program, x9_reader, x9_situation, x9_graph, x9_asked, x9_truths, .null, x9_walked, .int x9_walkLength, .int x9_hasModel, .int x9_hasFormula])] H locs := hw
  refine lv_if_eq (tgt := 17) hx hb zd_LassoFinder_cycle_4 (by decide) (fun _ => ?_) (fun h9 => absurd h9 (by decide))
  refine lv_iconst (v := 0) hx hb zd_LassoFinder_cycle_17 (by decide) ?_
  exact z_iret (u := ()) hx hb hr hlocks rfl hw [0] rfl (by decide) rfl (Nat.le_of_ble_eq_true rfl) (Nat.le_of_ble_eq_true rfl) zd_LassoFinder_cycle_18
set_option maxHeartbeats 4000000 in
set_option maxRecDepth 100000 in
theorem c_lasso_0 (l : Launch) (hlt : l.stackTraces = false) (G : va_G) (K : Nat → ClassId) (x9 : Nat) (x9_text : Value) (x9_names : Value) (x9_program : Value) (x9_reader : Value) (x9_situation : Value) (x9_graph : Value) (x9_asked : Value) (x9_truths : Value) (x9_walked : Value) (x9_walkLength : Int32) (x9_hasModel : Int32) (x9_hasFormula : Int32) (i : Int32) (what : Int32) (sz : Nat) : zxMet l zy_LassoFinder_lasso (Cond.code zy_LassoFinder_lasso prog_1_method_9_code 4 (some .int) :: zTB) { frames := 6, cells := 1, slots := 6, locals := 81 } (va_Pc [.ref x9, .int i, .int what] (zPreX G K [(x9, zO 0 [x9_text, x9_names, x9_program, x9_reader, x9_situation, x9_graph, x9_asked, x9_truths, .null, x9_walked, .int x9_walkLength, .int x9_hasModel, .int x9_hasFormula])] sz)) "java/lang/IndexOutOfBoundsException" (zXC (fun _ : Unit => True) (fun _ => []) G K (va_A [(x9, zO 0 [x9_text, x9_names, x9_program, x9_reader, x9_situation, x9_graph, x9_asked, x9_truths, .null, x9_walked, .int x9_walkLength, .int x9_hasModel, .int x9_hasFormula])] sz)) 1 6 (va_A [(x9, zO 0 [x9_text, x9_names, x9_program, x9_reader, x9_situation, x9_graph, x9_asked, x9_truths, .null, x9_walked, .int x9_walkLength, .int x9_hasModel, .int x9_hasFormula])] sz) := by
  refine zMetX (Xf := fun A => (zXC (fun _ : Unit => True) (fun _ => []) G K A)) (by decide) (Nat.le_of_ble_eq_true rfl) ?_
  intro p e s m below meth c ls A hx hb hr hml hts hown hlocks hin hA hK H locs hw hsz hl hT hnt hNS
  clear hsz
  have hown : s.vm.findClass "LassoFinder" = some m.cls := hown
  have hl : lv_has ls 4 [(0, .ref x9), (1, .int i), (2, .int what)] := hl
  have hw : zW G A s.heap [(x9, zO 0 [x9_text, x9_names, x9_program, x9_reader, x9_situation, x9_graph, x9_asked, x9_truths, .null, x9_walked, .int x9_walkLength, .int x9_hasModel, .int x9_hasFormula])] H locs := hw
  refine lv_aload_n hx hb zd_LassoFinder_lasso_0 rfl (lv_at hl 0 rfl) ?_
  refine z_calli (w1 := fun (u1 : Unit) => [(x9, zO 0 [x9_text, x9_names, x9_program, x9_reader, x9_situation, x9_graph, x9_asked, x9_truths, .null, x9_walked, .int x9_walkLength, .int x9_hasModel, .int x9_hasFormula])]) (wr := []) (z_runV (q0 := 0) (wc := [(x9, zO 0 [x9_text, x9_names, x9_program, x9_reader, x9_situation, x9_graph, x9_asked, x9_truths, .null, x9_walked, .int x9_walkLength, .int x9_hasModel, .int x9_hasFormula])]) (As := []) (rest := []) ⟨hx, hb, hml, hown, hts⟩ (c_hasLasso_0 l G K x9 x9_text x9_names x9_program x9_reader x9_situation x9_graph x9_asked x9_truths x9_walked x9_walkLength x9_hasModel x9_hasFormula H.size ) zf_LassoFinder_hasLasso zm_467 ⟨Nat.le_of_ble_eq_true rfl, Nat.le_of_ble_eq_true rfl⟩ hK hw [0] rfl (by decide) rfl rfl rfl hl.1 rfl (Nat.le_of_ble_eq_true rfl) zd_LassoFinder_lasso_1 ⟨Nat.le_of_ble_eq_true rfl, Nat.le_of_ble_eq_true rfl⟩) hw hA [0] [] rfl rfl (by decide) (by decide) (fun r1 u1 H locs hu hw => ?_)
  obtain rfl := hu
  have hw : zW G A s.heap [(x9, zO 0 [x9_text, x9_names, x9_program, x9_reader, x9_situation, x9_graph, x9_asked, x9_truths, .null, x9_walked, .int x9_walkLength, .int x9_hasModel, .int x9_hasFormula])] H locs := hw
  refine lv_if_eq (tgt := 30) hx hb zd_LassoFinder_lasso_4 (by decide) (fun _ => ?_) (fun h9 => absurd h9 (by decide))
  exact z_throw (names := ["java/lang/RuntimeException", "java/lang/Exception"]) hx hb hlt hts hown hnt hlocks hT hNS (by rw [hml]; exact hl.1) (by decide +kernel) (by decide +kernel) zm_468 zm_469 zm_470 zx_2 hw zd_LassoFinder_lasso_30 zd_LassoFinder_lasso_33 zd_LassoFinder_lasso_34 zd_LassoFinder_lasso_37 (Nat.le_of_ble_eq_true rfl) (Nat.le_of_ble_eq_true rfl) (Nat.le_of_ble_eq_true rfl) (Nat.le_of_ble_eq_true rfl) (Nat.le_of_ble_eq_true rfl) (Nat.le_of_ble_eq_true rfl)
set_option maxHeartbeats 4000000 in
set_option maxRecDepth 100000 in
theorem c_walk_0 (l : Launch) (hlt : l.stackTraces = false) (G : va_G) (K : Nat → ClassId) (x9 : Nat) (x9_text : Value) (x9_names : Value) (x9_program : Value) (x9_reader : Value) (x9_situation : Value) (x9_graph : Value) (x9_asked : Value) (x9_truths : Value) (x9_search : Value) (x9_walked : Value) (x9_walkLength : Int32) (x9_hasFormula : Int32) (sz : Nat) : zxMet l zy_LassoFinder_walk (Cond.code zy_LassoFinder_walk prog_1_method_10_code 1 none :: zTB) { frames := 6, cells := 1, slots := 6, locals := 81 } (va_Pc [.ref x9] (zPreX G K [(x9, zO 0 [x9_text, x9_names, x9_program, x9_reader, x9_situation, x9_graph, x9_asked, x9_truths, x9_search, x9_walked, .int x9_walkLength, .int 0, .int x9_hasFormula])] sz)) "java/lang/IllegalStateException" (zXC (fun _ : Unit => True) (fun _ => []) G K (va_A [(x9, zO 0 [x9_text, x9_names, x9_program, x9_reader, x9_situation, x9_graph, x9_asked, x9_truths, x9_search, x9_walked, .int x9_walkLength, .int 0, .int x9_hasFormula])] sz)) 1 6 (va_A [(x9, zO 0 [x9_text, x9_names, x9_program, x9_reader, x9_situation, x9_graph, x9_asked, x9_truths, x9_search, x9_walked, .int x9_walkLength, .int 0, .int x9_hasFormula])] sz) := by
  refine zMetX (Xf := fun A => (zXC (fun _ : Unit => True) (fun _ => []) G K A)) (by decide) (Nat.le_of_ble_eq_true rfl) ?_
  intro p e s m below meth c ls A hx hb hr hml hts hown hlocks hin hA hK H locs hw hsz hl hT hnt hNS
  clear hsz
  have hown : s.vm.findClass "LassoFinder" = some m.cls := hown
  have hl : lv_has ls 1 [(0, .ref x9)] := hl
  have hw : zW G A s.heap [(x9, zO 0 [x9_text, x9_names, x9_program, x9_reader, x9_situation, x9_graph, x9_asked, x9_truths, x9_search, x9_walked, .int x9_walkLength, .int 0, .int x9_hasFormula])] H locs := hw
  refine lv_aload_n hx hb zd_LassoFinder_walk_0 rfl (lv_at hl 0 rfl) ?_
  refine z_get hx hb hts hown hK hw zZ0 0 rfl 11 (by decide) zm_459 rfl zd_LassoFinder_walk_1 ?_
  refine lv_if_ne (tgt := 15) hx hb zd_LassoFinder_walk_4 (by decide) (fun h9 => absurd h9 (by decide)) (fun _ => ?_)
  exact z_throw (names := ["java/lang/RuntimeException", "java/lang/Exception"]) hx hb hlt hts hown hnt hlocks hT hNS (by rw [hml]; exact hl.1) (by decide +kernel) (by decide +kernel) zm_463 zm_464 zm_465 zx_1 hw zd_LassoFinder_walk_7 zd_LassoFinder_walk_10 zd_LassoFinder_walk_11 zd_LassoFinder_walk_14 (Nat.le_of_ble_eq_true rfl) (Nat.le_of_ble_eq_true rfl) (Nat.le_of_ble_eq_true rfl) (Nat.le_of_ble_eq_true rfl) (Nat.le_of_ble_eq_true rfl) (Nat.le_of_ble_eq_true rfl)
set_option maxHeartbeats 4000000 in
set_option maxRecDepth 100000 in
theorem c_steps_0 (l : Launch) (G : va_G) (K : Nat → ClassId) (x9 : Nat) (x9_text : Value) (x9_names : Value) (x9_program : Value) (x9_reader : Value) (x9_situation : Value) (x9_graph : Value) (x9_asked : Value) (x9_truths : Value) (x9_search : Value) (x9_walked : Value) (x9_hasModel : Int32) (x9_hasFormula : Int32) (sz : Nat) : Met l zy_LassoFinder_steps (Cond.code zy_LassoFinder_steps prog_1_method_11_code 1 (some .int) :: zTB) { frames := 0, cells := 0, slots := 0, locals := 0 } (va_Pc [.ref x9] (zPre G K [(x9, zO 0 [x9_text, x9_names, x9_program, x9_reader, x9_situation, x9_graph, x9_asked, x9_truths, x9_search, x9_walked, .int (-1), .int x9_hasModel, .int x9_hasFormula])] sz)) (va_Qi (fun (r : Int32) (u : Unit) => r = 0) (fun u t => zPost G K (va_A [(x9, zO 0 [x9_text, x9_names, x9_program, x9_reader, x9_situation, x9_graph, x9_asked, x9_truths, x9_search, x9_walked, .int (-1), .int x9_hasModel, .int x9_hasFormula])] sz) [(x9, zO 0 [x9_text, x9_names, x9_program, x9_reader, x9_situation, x9_graph, x9_asked, x9_truths, x9_search, x9_walked, .int (-1), .int x9_hasModel, .int x9_hasFormula])] t) (va_A [(x9, zO 0 [x9_text, x9_names, x9_program, x9_reader, x9_situation, x9_graph, x9_asked, x9_truths, x9_search, x9_walked, .int (-1), .int x9_hasModel, .int x9_hasFormula])] sz)) 0 0 (va_A [(x9, zO 0 [x9_text, x9_names, x9_program, x9_reader, x9_situation, x9_graph, x9_asked, x9_truths, x9_search, x9_walked, .int (-1), .int x9_hasModel, .int x9_hasFormula])] sz) := by
  refine zMet (y := zy_LassoFinder_steps) (av := [.ref x9]) (maxL := 1) (cc := prog_1_method_11_code) (ret := (some .int)) (W0 := [(x9, zO 0 [x9_text, x9_names, x9_program, x9_reader, x9_situation, x9_graph, x9_asked, x9_truths, x9_search, x9_walked, .int (-1), .int x9_hasModel, .int x9_hasFormula])]) (sz := sz) (G := G) (K := K) (wt := zTB) (mc := 0) (ms := 0) (Qf := fun A => va_Qi (fun (r : Int32) (u : Unit) => r = 0) (fun u t => zPost G K A [(x9, zO 0 [x9_text, x9_names, x9_program, x9_reader, x9_situation, x9_graph, x9_asked, x9_truths, x9_search, x9_walked, .int (-1), .int x9_hasModel, .int x9_hasFormula])] t) A) (by decide) (Nat.le_of_ble_eq_true rfl) ?_
  intro p e s m below meth c ls A hx hb hr hml hts hown hlocks hin hA hK H locs hw hsz hl
  clear hsz
  have hown : s.vm.findClass "LassoFinder" = some m.cls := hown
  have hl : lv_has ls 1 [(0, .ref x9)] := hl
  have hw : zW G A s.heap [(x9, zO 0 [x9_text, x9_names, x9_program, x9_reader, x9_situation, x9_graph, x9_asked, x9_truths, x9_search, x9_walked, .int (-1), .int x9_hasModel, .int x9_hasFormula])] H locs := hw
  refine lv_aload_n hx hb zd_LassoFinder_steps_0 rfl (lv_at hl 0 rfl) ?_
  refine z_get hx hb hts hown hK hw zZ0 0 rfl 10 (by decide) zm_355 rfl zd_LassoFinder_steps_1 ?_
  refine lv_iconst (v := (-1)) hx hb zd_LassoFinder_steps_4 (by decide) ?_
  refine lv_icmp_ne (tgt := 12) hx hb zd_LassoFinder_steps_5 (by decide) (fun h9 => absurd h9 (by decide)) (fun _ => ?_)
  refine lv_iconst (v := 0) hx hb zd_LassoFinder_steps_8 (by decide) ?_
  refine lv_goto (tgt := 28) hx hb zd_LassoFinder_steps_9 (by decide) ?_
  exact z_iret (u := ()) hx hb hr hlocks rfl hw [0] rfl (by decide) rfl (Nat.le_of_ble_eq_true rfl) (Nat.le_of_ble_eq_true rfl) zd_LassoFinder_steps_28
set_option maxHeartbeats 4000000 in
set_option maxRecDepth 100000 in
theorem c_go_0 (l : Launch) (hlt : l.stackTraces = false) (G : va_G) (K : Nat → ClassId) (x9 : Nat) (x9_text : Value) (x9_names : Value) (x9_program : Value) (x9_reader : Value) (x9_situation : Value) (x9_graph : Value) (x9_asked : Value) (x9_truths : Value) (x9_search : Value) (x9_walked : Value) (x9_hasModel : Int32) (x9_hasFormula : Int32) (step : Int32) (sz : Nat) : zxMet l zy_LassoFinder_go (Cond.code zy_LassoFinder_go prog_1_method_12_code 4 (some .int) :: zTB) { frames := 6, cells := 1, slots := 6, locals := 81 } (va_Pc [.ref x9, .int step] (zPreX G K [(x9, zO 0 [x9_text, x9_names, x9_program, x9_reader, x9_situation, x9_graph, x9_asked, x9_truths, x9_search, x9_walked, .int (-1), .int x9_hasModel, .int x9_hasFormula])] sz)) "java/lang/IllegalStateException" (zXC (fun _ : Unit => True) (fun _ => []) G K (va_A [(x9, zO 0 [x9_text, x9_names, x9_program, x9_reader, x9_situation, x9_graph, x9_asked, x9_truths, x9_search, x9_walked, .int (-1), .int x9_hasModel, .int x9_hasFormula])] sz)) 1 6 (va_A [(x9, zO 0 [x9_text, x9_names, x9_program, x9_reader, x9_situation, x9_graph, x9_asked, x9_truths, x9_search, x9_walked, .int (-1), .int x9_hasModel, .int x9_hasFormula])] sz) := by
  refine zMetX (Xf := fun A => (zXC (fun _ : Unit => True) (fun _ => []) G K A)) (by decide) (Nat.le_of_ble_eq_true rfl) ?_
  intro p e s m below meth c ls A hx hb hr hml hts hown hlocks hin hA hK H locs hw hsz hl hT hnt hNS
  clear hsz
  have hown : s.vm.findClass "LassoFinder" = some m.cls := hown
  have hl : lv_has ls 4 [(0, .ref x9), (1, .int step)] := hl
  have hw : zW G A s.heap [(x9, zO 0 [x9_text, x9_names, x9_program, x9_reader, x9_situation, x9_graph, x9_asked, x9_truths, x9_search, x9_walked, .int (-1), .int x9_hasModel, .int x9_hasFormula])] H locs := hw
  refine lv_aload_n hx hb zd_LassoFinder_go_0 rfl (lv_at hl 0 rfl) ?_
  refine z_get hx hb hts hown hK hw zZ0 0 rfl 10 (by decide) zm_355 rfl zd_LassoFinder_go_1 ?_
  refine lv_iconst (v := (-1)) hx hb zd_LassoFinder_go_4 (by decide) ?_
  refine lv_icmp_ne (tgt := 16) hx hb zd_LassoFinder_go_5 (by decide) (fun h9 => absurd h9 (by decide)) (fun _ => ?_)
  exact z_throw (names := ["java/lang/RuntimeException", "java/lang/Exception"]) hx hb hlt hts hown hnt hlocks hT hNS (by rw [hml]; exact hl.1) (by decide +kernel) (by decide +kernel) zm_463 zm_464 zm_465 zx_1 hw zd_LassoFinder_go_8 zd_LassoFinder_go_11 zd_LassoFinder_go_12 zd_LassoFinder_go_15 (Nat.le_of_ble_eq_true rfl) (Nat.le_of_ble_eq_true rfl) (Nat.le_of_ble_eq_true rfl) (Nat.le_of_ble_eq_true rfl) (Nat.le_of_ble_eq_true rfl) (Nat.le_of_ble_eq_true rfl)
set_option maxHeartbeats 4000000 in
set_option maxRecDepth 100000 in
theorem c_standsOnWalk_0 (l : Launch) (G : va_G) (K : Nat → ClassId) (x9 : Nat) (x9_text : Value) (x9_names : Value) (x9_program : Value) (x9_reader : Value) (x9_situation : Value) (x9_graph : Value) (x9_asked : Value) (x9_truths : Value) (x9_search : Value) (x9_walked : Value) (x9_hasModel : Int32) (x9_hasFormula : Int32) (sz : Nat) : Met l zy_LassoFinder_standsOnWalk (Cond.code zy_LassoFinder_standsOnWalk prog_1_method_21_code 1 (some .boolean) :: zTB) { frames := 0, cells := 0, slots := 0, locals := 0 } (va_Pc [.ref x9] (zPre G K [(x9, zO 0 [x9_text, x9_names, x9_program, x9_reader, x9_situation, x9_graph, x9_asked, x9_truths, x9_search, x9_walked, .int (-1), .int x9_hasModel, .int x9_hasFormula])] sz)) (va_Qi (fun (r : Int32) (u : Unit) => r = 0) (fun u t => zPost G K (va_A [(x9, zO 0 [x9_text, x9_names, x9_program, x9_reader, x9_situation, x9_graph, x9_asked, x9_truths, x9_search, x9_walked, .int (-1), .int x9_hasModel, .int x9_hasFormula])] sz) [(x9, zO 0 [x9_text, x9_names, x9_program, x9_reader, x9_situation, x9_graph, x9_asked, x9_truths, x9_search, x9_walked, .int (-1), .int x9_hasModel, .int x9_hasFormula])] t) (va_A [(x9, zO 0 [x9_text, x9_names, x9_program, x9_reader, x9_situation, x9_graph, x9_asked, x9_truths, x9_search, x9_walked, .int (-1), .int x9_hasModel, .int x9_hasFormula])] sz)) 0 0 (va_A [(x9, zO 0 [x9_text, x9_names, x9_program, x9_reader, x9_situation, x9_graph, x9_asked, x9_truths, x9_search, x9_walked, .int (-1), .int x9_hasModel, .int x9_hasFormula])] sz) := by
  refine zMet (y := zy_LassoFinder_standsOnWalk) (av := [.ref x9]) (maxL := 1) (cc := prog_1_method_21_code) (ret := (some .boolean)) (W0 := [(x9, zO 0 [x9_text, x9_names, x9_program, x9_reader, x9_situation, x9_graph, x9_asked, x9_truths, x9_search, x9_walked, .int (-1), .int x9_hasModel, .int x9_hasFormula])]) (sz := sz) (G := G) (K := K) (wt := zTB) (mc := 0) (ms := 0) (Qf := fun A => va_Qi (fun (r : Int32) (u : Unit) => r = 0) (fun u t => zPost G K A [(x9, zO 0 [x9_text, x9_names, x9_program, x9_reader, x9_situation, x9_graph, x9_asked, x9_truths, x9_search, x9_walked, .int (-1), .int x9_hasModel, .int x9_hasFormula])] t) A) (by decide) (Nat.le_of_ble_eq_true rfl) ?_
  intro p e s m below meth c ls A hx hb hr hml hts hown hlocks hin hA hK H locs hw hsz hl
  clear hsz
  have hown : s.vm.findClass "LassoFinder" = some m.cls := hown
  have hl : lv_has ls 1 [(0, .ref x9)] := hl
  have hw : zW G A s.heap [(x9, zO 0 [x9_text, x9_names, x9_program, x9_reader, x9_situation, x9_graph, x9_asked, x9_truths, x9_search, x9_walked, .int (-1), .int x9_hasModel, .int x9_hasFormula])] H locs := hw
  refine lv_aload_n hx hb zd_LassoFinder_standsOnWalk_0 rfl (lv_at hl 0 rfl) ?_
  refine z_get hx hb hts hown hK hw zZ0 0 rfl 10 (by decide) zm_355 rfl zd_LassoFinder_standsOnWalk_1 ?_
  refine lv_iconst (v := (-1)) hx hb zd_LassoFinder_standsOnWalk_4 (by decide) ?_
  refine lv_icmp_ne (tgt := 10) hx hb zd_LassoFinder_standsOnWalk_5 (by decide) (fun h9 => absurd h9 (by decide)) (fun _ => ?_)
  refine lv_iconst (v := 0) hx hb zd_LassoFinder_standsOnWalk_8 (by decide) ?_
  exact z_iret (u := ()) hx hb hr hlocks rfl hw [0] rfl (by decide) rfl (Nat.le_of_ble_eq_true rfl) (Nat.le_of_ble_eq_true rfl) zd_LassoFinder_standsOnWalk_9
set_option maxHeartbeats 4000000 in
set_option maxRecDepth 100000 in
theorem c_value_0 (l : Launch) (G : va_G) (K : Nat → ClassId) (x9 : Nat) (x9_text : Value) (x9_names : Value) (x9_program : Value) (x9_reader : Value) (x9_situation : Value) (x9_graph : Value) (x9_asked : Value) (x9_truths : Value) (x9_search : Value) (x9_walked : Value) (x9_hasModel : Int32) (x9_hasFormula : Int32) (name : Int32) (sz : Nat) : Met l zy_LassoFinder_value (Cond.code zy_LassoFinder_value prog_1_method_13_code 2 (some .int) :: zTB) { frames := 1, cells := 0, slots := 0, locals := 20 } (va_Pc [.ref x9, .int name] (zPre G K [(x9, zO 0 [x9_text, x9_names, x9_program, x9_reader, x9_situation, x9_graph, x9_asked, x9_truths, x9_search, x9_walked, .int (-1), .int x9_hasModel, .int x9_hasFormula])] sz)) (va_Qi (fun (r : Int32) (u : Unit) => r = (-1)) (fun u t => zPost G K (va_A [(x9, zO 0 [x9_text, x9_names, x9_program, x9_reader, x9_situation, x9_graph, x9_asked, x9_truths, x9_search, x9_walked, .int (-1), .int x9_hasModel, .int x9_hasFormula])] sz) [(x9, zO 0 [x9_text, x9_names, x9_program, x9_reader, x9_situation, x9_graph, x9_asked, x9_truths, x9_search, x9_walked, .int (-1), .int x9_hasModel, .int x9_hasFormula])] t) (va_A [(x9, zO 0 [x9_text, x9_names, x9_program, x9_reader, x9_situation, x9_graph, x9_asked, x9_truths, x9_search, x9_walked, .int (-1), .int x9_hasModel, .int x9_hasFormula])] sz)) 0 0 (va_A [(x9, zO 0 [x9_text, x9_names, x9_program, x9_reader, x9_situation, x9_graph, x9_asked, x9_truths, x9_search, x9_walked, .int (-1), .int x9_hasModel, .int x9_hasFormula])] sz) := by
  refine zMet (y := zy_LassoFinder_value) (av := [.ref x9, .int name]) (maxL := 2) (cc := prog_1_method_13_code) (ret := (some .int)) (W0 := [(x9, zO 0 [x9_text, x9_names, x9_program, x9_reader, x9_situation, x9_graph, x9_asked, x9_truths, x9_search, x9_walked, .int (-1), .int x9_hasModel, .int x9_hasFormula])]) (sz := sz) (G := G) (K := K) (wt := zTB) (mc := 0) (ms := 0) (Qf := fun A => va_Qi (fun (r : Int32) (u : Unit) => r = (-1)) (fun u t => zPost G K A [(x9, zO 0 [x9_text, x9_names, x9_program, x9_reader, x9_situation, x9_graph, x9_asked, x9_truths, x9_search, x9_walked, .int (-1), .int x9_hasModel, .int x9_hasFormula])] t) A) (by decide) (Nat.le_of_ble_eq_true rfl) ?_
  intro p e s m below meth c ls A hx hb hr hml hts hown hlocks hin hA hK H locs hw hsz hl
  clear hsz
  have hown : s.vm.findClass "LassoFinder" = some m.cls := hown
  have hl : lv_has ls 2 [(0, .ref x9), (1, .int name)] := hl
  have hw : zW G A s.heap [(x9, zO 0 [x9_text, x9_names, x9_program, x9_reader, x9_situation, x9_graph, x9_asked, x9_truths, x9_search, x9_walked, .int (-1), .int x9_hasModel, .int x9_hasFormula])] H locs := hw
  refine lv_aload_n hx hb zd_LassoFinder_value_0 rfl (lv_at hl 0 rfl) ?_
  refine z_calli (w1 := fun (u1 : Unit) => [(x9, zO 0 [x9_text, x9_names, x9_program, x9_reader, x9_situation, x9_graph, x9_asked, x9_truths, x9_search, x9_walked, .int (-1), .int x9_hasModel, .int x9_hasFormula])]) (wr := []) (z_runV (q0 := 0) (wc := [(x9, zO 0 [x9_text, x9_names, x9_program, x9_reader, x9_situation, x9_graph, x9_asked, x9_truths, x9_search, x9_walked, .int (-1), .int x9_hasModel, .int x9_hasFormula])]) (As := []) (rest := []) ⟨hx, hb, hml, hown, hts⟩ (c_standsOnWalk_0 l G K x9 x9_text x9_names x9_program x9_reader x9_situation x9_graph x9_asked x9_truths x9_search x9_walked x9_hasModel x9_hasFormula H.size ) zf_LassoFinder_standsOnWalk zm_471 ⟨Nat.le_of_ble_eq_true rfl, Nat.le_of_ble_eq_true rfl⟩ hK hw [0] rfl (by decide) rfl rfl rfl hl.1 rfl (Nat.le_of_ble_eq_true rfl) zd_LassoFinder_value_1 ⟨Nat.le_of_ble_eq_true rfl, Nat.le_of_ble_eq_true rfl⟩) hw hA [0] [] rfl rfl (by decide) (by decide) (fun r1 u1 H locs hu hw => ?_)
  obtain rfl := hu
  have hw : zW G A s.heap [(x9, zO 0 [x9_text, x9_names, x9_program, x9_reader, x9_situation, x9_graph, x9_asked, x9_truths, x9_search, x9_walked, .int (-1), .int x9_hasModel, .int x9_hasFormula])] H locs := hw
  refine lv_if_eq (tgt := 29) hx hb zd_LassoFinder_value_4 (by decide) (fun _ => ?_) (fun h9 => absurd h9 (by decide))
  refine lv_iconst (v := (-1)) hx hb zd_LassoFinder_value_29 (by decide) ?_
  exact z_iret (u := ()) hx hb hr hlocks rfl hw [0] rfl (by decide) rfl (Nat.le_of_ble_eq_true rfl) (Nat.le_of_ble_eq_true rfl) zd_LassoFinder_value_30
set_option maxHeartbeats 4000000 in
set_option maxRecDepth 100000 in
theorem c_message_0 (l : Launch) (G : va_G) (K : Nat → ClassId) (x9 : Nat) (x9_text : Value) (x9_names : Value) (x9_program : Value) (x9_reader : Value) (x9_situation : Value) (x9_graph : Value) (x9_asked : Value) (x9_truths : Value) (x9_search : Value) (x9_walked : Value) (x9_hasModel : Int32) (x9_hasFormula : Int32) (name : Int32) (kk : Int32) (sz : Nat) : Met l zy_LassoFinder_message (Cond.code zy_LassoFinder_message prog_1_method_14_code 3 (some .int) :: zTB) { frames := 1, cells := 0, slots := 0, locals := 20 } (va_Pc [.ref x9, .int name, .int kk] (zPre G K [(x9, zO 0 [x9_text, x9_names, x9_program, x9_reader, x9_situation, x9_graph, x9_asked, x9_truths, x9_search, x9_walked, .int (-1), .int x9_hasModel, .int x9_hasFormula])] sz)) (va_Qi (fun (r : Int32) (u : Unit) => r = (-1)) (fun u t => zPost G K (va_A [(x9, zO 0 [x9_text, x9_names, x9_program, x9_reader, x9_situation, x9_graph, x9_asked, x9_truths, x9_search, x9_walked, .int (-1), .int x9_hasModel, .int x9_hasFormula])] sz) [(x9, zO 0 [x9_text, x9_names, x9_program, x9_reader, x9_situation, x9_graph, x9_asked, x9_truths, x9_search, x9_walked, .int (-1), .int x9_hasModel, .int x9_hasFormula])] t) (va_A [(x9, zO 0 [x9_text, x9_names, x9_program, x9_reader, x9_situation, x9_graph, x9_asked, x9_truths, x9_search, x9_walked, .int (-1), .int x9_hasModel, .int x9_hasFormula])] sz)) 0 0 (va_A [(x9, zO 0 [x9_text, x9_names, x9_program, x9_reader, x9_situation, x9_graph, x9_asked, x9_truths, x9_search, x9_walked, .int (-1), .int x9_hasModel, .int x9_hasFormula])] sz) := by
  refine zMet (y := zy_LassoFinder_message) (av := [.ref x9, .int name, .int kk]) (maxL := 3) (cc := prog_1_method_14_code) (ret := (some .int)) (W0 := [(x9, zO 0 [x9_text, x9_names, x9_program, x9_reader, x9_situation, x9_graph, x9_asked, x9_truths, x9_search, x9_walked, .int (-1), .int x9_hasModel, .int x9_hasFormula])]) (sz := sz) (G := G) (K := K) (wt := zTB) (mc := 0) (ms := 0) (Qf := fun A => va_Qi (fun (r : Int32) (u : Unit) => r = (-1)) (fun u t => zPost G K A [(x9, zO 0 [x9_text, x9_names, x9_program, x9_reader, x9_situation, x9_graph, x9_asked, x9_truths, x9_search, x9_walked, .int (-1), .int x9_hasModel, .int x9_hasFormula])] t) A) (by decide) (Nat.le_of_ble_eq_true rfl) ?_
  intro p e s m below meth c ls A hx hb hr hml hts hown hlocks hin hA hK H locs hw hsz hl
  clear hsz
  have hown : s.vm.findClass "LassoFinder" = some m.cls := hown
  have hl : lv_has ls 3 [(0, .ref x9), (1, .int name), (2, .int kk)] := hl
  have hw : zW G A s.heap [(x9, zO 0 [x9_text, x9_names, x9_program, x9_reader, x9_situation, x9_graph, x9_asked, x9_truths, x9_search, x9_walked, .int (-1), .int x9_hasModel, .int x9_hasFormula])] H locs := hw
  refine lv_aload_n hx hb zd_LassoFinder_message_0 rfl (lv_at hl 0 rfl) ?_
  refine z_calli (w1 := fun (u1 : Unit) => [(x9, zO 0 [x9_text, x9_names, x9_program, x9_reader, x9_situation, x9_graph, x9_asked, x9_truths, x9_search, x9_walked, .int (-1), .int x9_hasModel, .int x9_hasFormula])]) (wr := []) (z_runV (q0 := 0) (wc := [(x9, zO 0 [x9_text, x9_names, x9_program, x9_reader, x9_situation, x9_graph, x9_asked, x9_truths, x9_search, x9_walked, .int (-1), .int x9_hasModel, .int x9_hasFormula])]) (As := []) (rest := []) ⟨hx, hb, hml, hown, hts⟩ (c_standsOnWalk_0 l G K x9 x9_text x9_names x9_program x9_reader x9_situation x9_graph x9_asked x9_truths x9_search x9_walked x9_hasModel x9_hasFormula H.size ) zf_LassoFinder_standsOnWalk zm_471 ⟨Nat.le_of_ble_eq_true rfl, Nat.le_of_ble_eq_true rfl⟩ hK hw [0] rfl (by decide) rfl rfl rfl hl.1 rfl (Nat.le_of_ble_eq_true rfl) zd_LassoFinder_message_1 ⟨Nat.le_of_ble_eq_true rfl, Nat.le_of_ble_eq_true rfl⟩) hw hA [0] [] rfl rfl (by decide) (by decide) (fun r1 u1 H locs hu hw => ?_)
  obtain rfl := hu
  have hw : zW G A s.heap [(x9, zO 0 [x9_text, x9_names, x9_program, x9_reader, x9_situation, x9_graph, x9_asked, x9_truths, x9_search, x9_walked, .int (-1), .int x9_hasModel, .int x9_hasFormula])] H locs := hw
  refine lv_if_eq (tgt := 30) hx hb zd_LassoFinder_message_4 (by decide) (fun _ => ?_) (fun h9 => absurd h9 (by decide))
  refine lv_iconst (v := (-1)) hx hb zd_LassoFinder_message_30 (by decide) ?_
  exact z_iret (u := ()) hx hb hr hlocks rfl hw [0] rfl (by decide) rfl (Nat.le_of_ble_eq_true rfl) (Nat.le_of_ble_eq_true rfl) zd_LassoFinder_message_31
set_option maxHeartbeats 4000000 in
set_option maxRecDepth 100000 in
theorem c_point_0 (l : Launch) (G : va_G) (K : Nat → ClassId) (x9 : Nat) (x9_text : Value) (x9_names : Value) (x9_program : Value) (x9_reader : Value) (x9_situation : Value) (x9_graph : Value) (x9_asked : Value) (x9_truths : Value) (x9_search : Value) (x9_walked : Value) (x9_hasModel : Int32) (x9_hasFormula : Int32) (process : Int32) (sz : Nat) : Met l zy_LassoFinder_point (Cond.code zy_LassoFinder_point prog_1_method_15_code 2 (some .int) :: zTB) { frames := 1, cells := 0, slots := 0, locals := 20 } (va_Pc [.ref x9, .int process] (zPre G K [(x9, zO 0 [x9_text, x9_names, x9_program, x9_reader, x9_situation, x9_graph, x9_asked, x9_truths, x9_search, x9_walked, .int (-1), .int x9_hasModel, .int x9_hasFormula])] sz)) (va_Qi (fun (r : Int32) (u : Unit) => r = (-1)) (fun u t => zPost G K (va_A [(x9, zO 0 [x9_text, x9_names, x9_program, x9_reader, x9_situation, x9_graph, x9_asked, x9_truths, x9_search, x9_walked, .int (-1), .int x9_hasModel, .int x9_hasFormula])] sz) [(x9, zO 0 [x9_text, x9_names, x9_program, x9_reader, x9_situation, x9_graph, x9_asked, x9_truths, x9_search, x9_walked, .int (-1), .int x9_hasModel, .int x9_hasFormula])] t) (va_A [(x9, zO 0 [x9_text, x9_names, x9_program, x9_reader, x9_situation, x9_graph, x9_asked, x9_truths, x9_search, x9_walked, .int (-1), .int x9_hasModel, .int x9_hasFormula])] sz)) 0 0 (va_A [(x9, zO 0 [x9_text, x9_names, x9_program, x9_reader, x9_situation, x9_graph, x9_asked, x9_truths, x9_search, x9_walked, .int (-1), .int x9_hasModel, .int x9_hasFormula])] sz) := by
  refine zMet (y := zy_LassoFinder_point) (av := [.ref x9, .int process]) (maxL := 2) (cc := prog_1_method_15_code) (ret := (some .int)) (W0 := [(x9, zO 0 [x9_text, x9_names, x9_program, x9_reader, x9_situation, x9_graph, x9_asked, x9_truths, x9_search, x9_walked, .int (-1), .int x9_hasModel, .int x9_hasFormula])]) (sz := sz) (G := G) (K := K) (wt := zTB) (mc := 0) (ms := 0) (Qf := fun A => va_Qi (fun (r : Int32) (u : Unit) => r = (-1)) (fun u t => zPost G K A [(x9, zO 0 [x9_text, x9_names, x9_program, x9_reader, x9_situation, x9_graph, x9_asked, x9_truths, x9_search, x9_walked, .int (-1), .int x9_hasModel, .int x9_hasFormula])] t) A) (by decide) (Nat.le_of_ble_eq_true rfl) ?_
  intro p e s m below meth c ls A hx hb hr hml hts hown hlocks hin hA hK H locs hw hsz hl
  clear hsz
  have hown : s.vm.findClass "LassoFinder" = some m.cls := hown
  have hl : lv_has ls 2 [(0, .ref x9), (1, .int process)] := hl
  have hw : zW G A s.heap [(x9, zO 0 [x9_text, x9_names, x9_program, x9_reader, x9_situation, x9_graph, x9_asked, x9_truths, x9_search, x9_walked, .int (-1), .int x9_hasModel, .int x9_hasFormula])] H locs := hw
  refine lv_aload_n hx hb zd_LassoFinder_point_0 rfl (lv_at hl 0 rfl) ?_
  refine z_calli (w1 := fun (u1 : Unit) => [(x9, zO 0 [x9_text, x9_names, x9_program, x9_reader, x9_situation, x9_graph, x9_asked, x9_truths, x9_search, x9_walked, .int (-1), .int x9_hasModel, .int x9_hasFormula])]) (wr := []) (z_runV (q0 := 0) (wc := [(x9, zO 0 [x9_text, x9_names, x9_program, x9_reader, x9_situation, x9_graph, x9_asked, x9_truths, x9_search, x9_walked, .int (-1), .int x9_hasModel, .int x9_hasFormula])]) (As := []) (rest := []) ⟨hx, hb, hml, hown, hts⟩ (c_standsOnWalk_0 l G K x9 x9_text x9_names x9_program x9_reader x9_situation x9_graph x9_asked x9_truths x9_search x9_walked x9_hasModel x9_hasFormula H.size ) zf_LassoFinder_standsOnWalk zm_471 ⟨Nat.le_of_ble_eq_true rfl, Nat.le_of_ble_eq_true rfl⟩ hK hw [0] rfl (by decide) rfl rfl rfl hl.1 rfl (Nat.le_of_ble_eq_true rfl) zd_LassoFinder_point_1 ⟨Nat.le_of_ble_eq_true rfl, Nat.le_of_ble_eq_true rfl⟩) hw hA [0] [] rfl rfl (by decide) (by decide) (fun r1 u1 H locs hu hw => ?_)
  obtain rfl := hu
  have hw : zW G A s.heap [(x9, zO 0 [x9_text, x9_names, x9_program, x9_reader, x9_situation, x9_graph, x9_asked, x9_truths, x9_search, x9_walked, .int (-1), .int x9_hasModel, .int x9_hasFormula])] H locs := hw
  refine lv_if_eq (tgt := 22) hx hb zd_LassoFinder_point_4 (by decide) (fun _ => ?_) (fun h9 => absurd h9 (by decide))
  refine lv_iconst (v := (-1)) hx hb zd_LassoFinder_point_22 (by decide) ?_
  exact z_iret (u := ()) hx hb hr hlocks rfl hw [0] rfl (by decide) rfl (Nat.le_of_ble_eq_true rfl) (Nat.le_of_ble_eq_true rfl) zd_LassoFinder_point_23
set_option maxHeartbeats 4000000 in
set_option maxRecDepth 100000 in
theorem c_holder_0 (l : Launch) (G : va_G) (K : Nat → ClassId) (x9 : Nat) (x9_text : Value) (x9_names : Value) (x9_program : Value) (x9_reader : Value) (x9_situation : Value) (x9_graph : Value) (x9_asked : Value) (x9_truths : Value) (x9_search : Value) (x9_walked : Value) (x9_hasModel : Int32) (x9_hasFormula : Int32) (sz : Nat) : Met l zy_LassoFinder_holder (Cond.code zy_LassoFinder_holder prog_1_method_16_code 1 (some .int) :: zTB) { frames := 1, cells := 0, slots := 0, locals := 20 } (va_Pc [.ref x9] (zPre G K [(x9, zO 0 [x9_text, x9_names, x9_program, x9_reader, x9_situation, x9_graph, x9_asked, x9_truths, x9_search, x9_walked, .int (-1), .int x9_hasModel, .int x9_hasFormula])] sz)) (va_Qi (fun (r : Int32) (u : Unit) => r = (-1)) (fun u t => zPost G K (va_A [(x9, zO 0 [x9_text, x9_names, x9_program, x9_reader, x9_situation, x9_graph, x9_asked, x9_truths, x9_search, x9_walked, .int (-1), .int x9_hasModel, .int x9_hasFormula])] sz) [(x9, zO 0 [x9_text, x9_names, x9_program, x9_reader, x9_situation, x9_graph, x9_asked, x9_truths, x9_search, x9_walked, .int (-1), .int x9_hasModel, .int x9_hasFormula])] t) (va_A [(x9, zO 0 [x9_text, x9_names, x9_program, x9_reader, x9_situation, x9_graph, x9_asked, x9_truths, x9_search, x9_walked, .int (-1), .int x9_hasModel, .int x9_hasFormula])] sz)) 0 0 (va_A [(x9, zO 0 [x9_text, x9_names, x9_program, x9_reader, x9_situation, x9_graph, x9_asked, x9_truths, x9_search, x9_walked, .int (-1), .int x9_hasModel, .int x9_hasFormula])] sz) := by
  refine zMet (y := zy_LassoFinder_holder) (av := [.ref x9]) (maxL := 1) (cc := prog_1_method_16_code) (ret := (some .int)) (W0 := [(x9, zO 0 [x9_text, x9_names, x9_program, x9_reader, x9_situation, x9_graph, x9_asked, x9_truths, x9_search, x9_walked, .int (-1), .int x9_hasModel, .int x9_hasFormula])]) (sz := sz) (G := G) (K := K) (wt := zTB) (mc := 0) (ms := 0) (Qf := fun A => va_Qi (fun (r : Int32) (u : Unit) => r = (-1)) (fun u t => zPost G K A [(x9, zO 0 [x9_text, x9_names, x9_program, x9_reader, x9_situation, x9_graph, x9_asked, x9_truths, x9_search, x9_walked, .int (-1), .int x9_hasModel, .int x9_hasFormula])] t) A) (by decide) (Nat.le_of_ble_eq_true rfl) ?_
  intro p e s m below meth c ls A hx hb hr hml hts hown hlocks hin hA hK H locs hw hsz hl
  clear hsz
  have hown : s.vm.findClass "LassoFinder" = some m.cls := hown
  have hl : lv_has ls 1 [(0, .ref x9)] := hl
  have hw : zW G A s.heap [(x9, zO 0 [x9_text, x9_names, x9_program, x9_reader, x9_situation, x9_graph, x9_asked, x9_truths, x9_search, x9_walked, .int (-1), .int x9_hasModel, .int x9_hasFormula])] H locs := hw
  refine lv_aload_n hx hb zd_LassoFinder_holder_0 rfl (lv_at hl 0 rfl) ?_
  refine z_calli (w1 := fun (u1 : Unit) => [(x9, zO 0 [x9_text, x9_names, x9_program, x9_reader, x9_situation, x9_graph, x9_asked, x9_truths, x9_search, x9_walked, .int (-1), .int x9_hasModel, .int x9_hasFormula])]) (wr := []) (z_runV (q0 := 0) (wc := [(x9, zO 0 [x9_text, x9_names, x9_program, x9_reader, x9_situation, x9_graph, x9_asked, x9_truths, x9_search, x9_walked, .int (-1), .int x9_hasModel, .int x9_hasFormula])]) (As := []) (rest := []) ⟨hx, hb, hml, hown, hts⟩ (c_standsOnWalk_0 l G K x9 x9_text x9_names x9_program x9_reader x9_situation x9_graph x9_asked x9_truths x9_search x9_walked x9_hasModel x9_hasFormula H.size ) zf_LassoFinder_standsOnWalk zm_471 ⟨Nat.le_of_ble_eq_true rfl, Nat.le_of_ble_eq_true rfl⟩ hK hw [0] rfl (by decide) rfl rfl rfl hl.1 rfl (Nat.le_of_ble_eq_true rfl) zd_LassoFinder_holder_1 ⟨Nat.le_of_ble_eq_true rfl, Nat.le_of_ble_eq_true rfl⟩) hw hA [0] [] rfl rfl (by decide) (by decide) (fun r1 u1 H locs hu hw => ?_)
  obtain rfl := hu
  have hw : zW G A s.heap [(x9, zO 0 [x9_text, x9_names, x9_program, x9_reader, x9_situation, x9_graph, x9_asked, x9_truths, x9_search, x9_walked, .int (-1), .int x9_hasModel, .int x9_hasFormula])] H locs := hw
  refine lv_if_eq (tgt := 17) hx hb zd_LassoFinder_holder_4 (by decide) (fun _ => ?_) (fun h9 => absurd h9 (by decide))
  refine lv_iconst (v := (-1)) hx hb zd_LassoFinder_holder_17 (by decide) ?_
  exact z_iret (u := ()) hx hb hr hlocks rfl hw [0] rfl (by decide) rfl (Nat.le_of_ble_eq_true rfl) (Nat.le_of_ble_eq_true rfl) zd_LassoFinder_holder_18
set_option maxHeartbeats 4000000 in
set_option maxRecDepth 100000 in
theorem c_truth_0 (l : Launch) (hlt : l.stackTraces = false) (G : va_G) (K : Nat → ClassId) (x9 : Nat) (x9_text : Value) (x9_names : Value) (x9_program : Value) (x9_reader : Value) (x9_situation : Value) (x9_graph : Value) (x9_asked : Value) (x9_truths : Value) (x9_search : Value) (x9_walked : Value) (x9_hasModel : Int32) (x9_hasFormula : Int32) (kk : Int32) (sz : Nat) : zxMet l zy_LassoFinder_truth (Cond.code zy_LassoFinder_truth prog_1_method_17_code 2 (some .boolean) :: zTB) { frames := 6, cells := 1, slots := 6, locals := 81 } (va_Pc [.ref x9, .int kk] (zPreX G K [(x9, zO 0 [x9_text, x9_names, x9_program, x9_reader, x9_situation, x9_graph, x9_asked, x9_truths, x9_search, x9_walked, .int (-1), .int x9_hasModel, .int x9_hasFormula])] sz)) "java/lang/IllegalStateException" (zXC (fun _ : Unit => True) (fun _ => []) G K (va_A [(x9, zO 0 [x9_text, x9_names, x9_program, x9_reader, x9_situation, x9_graph, x9_asked, x9_truths, x9_search, x9_walked, .int (-1), .int x9_hasModel, .int x9_hasFormula])] sz)) 1 6 (va_A [(x9, zO 0 [x9_text, x9_names, x9_program, x9_reader, x9_situation, x9_graph, x9_asked, x9_truths, x9_search, x9_walked, .int (-1), .int x9_hasModel, .int x9_hasFormula])] sz) := by
  refine zMetX (Xf := fun A => (zXC (fun _ : Unit => True) (fun _ => []) G K A)) (by decide) (Nat.le_of_ble_eq_true rfl) ?_
  intro p e s m below meth c ls A hx hb hr hml hts hown hlocks hin hA hK H locs hw hsz hl hT hnt hNS
  clear hsz
  have hown : s.vm.findClass "LassoFinder" = some m.cls := hown
  have hl : lv_has ls 2 [(0, .ref x9), (1, .int kk)] := hl
  have hw : zW G A s.heap [(x9, zO 0 [x9_text, x9_names, x9_program, x9_reader, x9_situation, x9_graph, x9_asked, x9_truths, x9_search, x9_walked, .int (-1), .int x9_hasModel, .int x9_hasFormula])] H locs := hw
  refine lv_aload_n hx hb zd_LassoFinder_truth_0 rfl (lv_at hl 0 rfl) ?_
  refine z_get hx hb hts hown hK hw zZ0 0 rfl 10 (by decide) zm_355 rfl zd_LassoFinder_truth_1 ?_
  refine lv_iconst (v := (-1)) hx hb zd_LassoFinder_truth_4 (by decide) ?_
  refine lv_icmp_eq (tgt := 15) hx hb zd_LassoFinder_truth_5 (by decide) (fun _ => ?_) (fun h9 => absurd h9 (by decide))
  exact z_throw (names := ["java/lang/RuntimeException", "java/lang/Exception"]) hx hb hlt hts hown hnt hlocks hT hNS (by rw [hml]; exact hl.1) (by decide +kernel) (by decide +kernel) zm_463 zm_464 zm_465 zx_1 hw zd_LassoFinder_truth_15 zd_LassoFinder_truth_18 zd_LassoFinder_truth_19 zd_LassoFinder_truth_22 (Nat.le_of_ble_eq_true rfl) (Nat.le_of_ble_eq_true rfl) (Nat.le_of_ble_eq_true rfl) (Nat.le_of_ble_eq_true rfl) (Nat.le_of_ble_eq_true rfl) (Nat.le_of_ble_eq_true rfl)
set_option maxHeartbeats 4000000 in
set_option maxRecDepth 100000 in
theorem c_count_0 (l : Launch) (G : va_G) (K : Nat → ClassId) (x9 : Nat) (x9_text : Value) (x9_names : Value) (x9_program : Value) (x9_reader : Value) (x9_situation : Value) (x9_graph : Value) (x9_asked : Value) (x9_truths : Value) (x9_search : Value) (x9_walked : Value) (x9_walkLength : Int32) (x9_hasFormula : Int32) (what : Int32) (sz : Nat) : Met l zy_LassoFinder_count (Cond.code zy_LassoFinder_count prog_1_method_18_code 2 (some .int) :: zTB) { frames := 0, cells := 0, slots := 0, locals := 0 } (va_Pc [.ref x9, .int what] (zPre G K [(x9, zO 0 [x9_text, x9_names, x9_program, x9_reader, x9_situation, x9_graph, x9_asked, x9_truths, x9_search, x9_walked, .int x9_walkLength, .int 0, .int x9_hasFormula])] sz)) (va_Qi (fun (r : Int32) (u : Unit) => r = zCount what) (fun u t => zPost G K (va_A [(x9, zO 0 [x9_text, x9_names, x9_program, x9_reader, x9_situation, x9_graph, x9_asked, x9_truths, x9_search, x9_walked, .int x9_walkLength, .int 0, .int x9_hasFormula])] sz) [(x9, zO 0 [x9_text, x9_names, x9_program, x9_reader, x9_situation, x9_graph, x9_asked, x9_truths, x9_search, x9_walked, .int x9_walkLength, .int 0, .int x9_hasFormula])] t) (va_A [(x9, zO 0 [x9_text, x9_names, x9_program, x9_reader, x9_situation, x9_graph, x9_asked, x9_truths, x9_search, x9_walked, .int x9_walkLength, .int 0, .int x9_hasFormula])] sz)) 0 0 (va_A [(x9, zO 0 [x9_text, x9_names, x9_program, x9_reader, x9_situation, x9_graph, x9_asked, x9_truths, x9_search, x9_walked, .int x9_walkLength, .int 0, .int x9_hasFormula])] sz) := by
  refine zMet (y := zy_LassoFinder_count) (av := [.ref x9, .int what]) (maxL := 2) (cc := prog_1_method_18_code) (ret := (some .int)) (W0 := [(x9, zO 0 [x9_text, x9_names, x9_program, x9_reader, x9_situation, x9_graph, x9_asked, x9_truths, x9_search, x9_walked, .int x9_walkLength, .int 0, .int x9_hasFormula])]) (sz := sz) (G := G) (K := K) (wt := zTB) (mc := 0) (ms := 0) (Qf := fun A => va_Qi (fun (r : Int32) (u : Unit) => r = zCount what) (fun u t => zPost G K A [(x9, zO 0 [x9_text, x9_names, x9_program, x9_reader, x9_situation, x9_graph, x9_asked, x9_truths, x9_search, x9_walked, .int x9_walkLength, .int 0, .int x9_hasFormula])] t) A) (by decide) (Nat.le_of_ble_eq_true rfl) ?_
  intro p e s m below meth c ls A hx hb hr hml hts hown hlocks hin hA hK H locs hw hsz hl
  clear hsz
  have hown : s.vm.findClass "LassoFinder" = some m.cls := hown
  have hl : lv_has ls 2 [(0, .ref x9), (1, .int what)] := hl
  have hw : zW G A s.heap [(x9, zO 0 [x9_text, x9_names, x9_program, x9_reader, x9_situation, x9_graph, x9_asked, x9_truths, x9_search, x9_walked, .int x9_walkLength, .int 0, .int x9_hasFormula])] H locs := hw
  refine lv_iload_n hx hb zd_LassoFinder_count_0 rfl (lv_at hl 1 rfl) ?_
  by_cases hs1_0 : what = 0
  · refine lv_tableIn (off := 31) (tgt := 32) hx hb zd_LassoFinder_count_1 (by rw [hs1_0]; decide) (by rw [hs1_0]; decide) (by rw [hs1_0]; decide) (by decide) ?_
    refine lv_aload_n hx hb zd_LassoFinder_count_32 rfl (lv_at hl 0 rfl) ?_
    refine z_get hx hb hts hown hK hw zZ0 0 rfl 11 (by decide) zm_459 rfl zd_LassoFinder_count_33 ?_
    refine lv_if_eq (tgt := 49) hx hb zd_LassoFinder_count_36 (by decide) (fun _ => ?_) (fun h9 => absurd h9 (by decide))
    refine lv_iconst (v := 0) hx hb zd_LassoFinder_count_49 (by decide) ?_
    exact z_iret (u := ()) hx hb hr hlocks rfl hw [0] rfl (by decide) (by rw [hs1_0]; decide) (Nat.le_of_ble_eq_true rfl) (Nat.le_of_ble_eq_true rfl) zd_LassoFinder_count_50
  by_cases hs1_1 : what = 1
  · refine lv_tableIn (off := 50) (tgt := 51) hx hb zd_LassoFinder_count_1 (by rw [hs1_1]; decide) (by rw [hs1_1]; decide) (by rw [hs1_1]; decide) (by decide) ?_
    refine lv_aload_n hx hb zd_LassoFinder_count_51 rfl (lv_at hl 0 rfl) ?_
    refine z_get hx hb hts hown hK hw zZ0 0 rfl 11 (by decide) zm_459 rfl zd_LassoFinder_count_52 ?_
    refine lv_if_eq (tgt := 68) hx hb zd_LassoFinder_count_55 (by decide) (fun _ => ?_) (fun h9 => absurd h9 (by decide))
    refine lv_iconst (v := 0) hx hb zd_LassoFinder_count_68 (by decide) ?_
    exact z_iret (u := ()) hx hb hr hlocks rfl hw [0] rfl (by decide) (by rw [hs1_1]; decide) (Nat.le_of_ble_eq_true rfl) (Nat.le_of_ble_eq_true rfl) zd_LassoFinder_count_69
  by_cases hs1_2 : what = 2
  · refine lv_tableIn (off := 69) (tgt := 70) hx hb zd_LassoFinder_count_1 (by rw [hs1_2]; decide) (by rw [hs1_2]; decide) (by rw [hs1_2]; decide) (by decide) ?_
    refine lv_aload_n hx hb zd_LassoFinder_count_70 rfl (lv_at hl 0 rfl) ?_
    refine z_get hx hb hts hown hK hw zZ0 0 rfl 11 (by decide) zm_459 rfl zd_LassoFinder_count_71 ?_
    refine lv_if_eq (tgt := 87) hx hb zd_LassoFinder_count_74 (by decide) (fun _ => ?_) (fun h9 => absurd h9 (by decide))
    refine lv_iconst (v := 0) hx hb zd_LassoFinder_count_87 (by decide) ?_
    exact z_iret (u := ()) hx hb hr hlocks rfl hw [0] rfl (by decide) (by rw [hs1_2]; decide) (Nat.le_of_ble_eq_true rfl) (Nat.le_of_ble_eq_true rfl) zd_LassoFinder_count_88
  by_cases hs1_3 : what = 3
  · refine lv_tableIn (off := 88) (tgt := 89) hx hb zd_LassoFinder_count_1 (by rw [hs1_3]; decide) (by rw [hs1_3]; decide) (by rw [hs1_3]; decide) (by decide) ?_
    refine lv_aload_n hx hb zd_LassoFinder_count_89 rfl (lv_at hl 0 rfl) ?_
    refine z_get hx hb hts hown hK hw zZ0 0 rfl 11 (by decide) zm_459 rfl zd_LassoFinder_count_90 ?_
    refine lv_if_eq (tgt := 106) hx hb zd_LassoFinder_count_93 (by decide) (fun _ => ?_) (fun h9 => absurd h9 (by decide))
    refine lv_iconst (v := 0) hx hb zd_LassoFinder_count_106 (by decide) ?_
    exact z_iret (u := ()) hx hb hr hlocks rfl hw [0] rfl (by decide) (by rw [hs1_3]; decide) (Nat.le_of_ble_eq_true rfl) (Nat.le_of_ble_eq_true rfl) zd_LassoFinder_count_107
  refine lv_tableOut (tgt := 108) hx hb zd_LassoFinder_count_1 (by have h0 := lv_neT hs1_0 (a := 0) (by decide); have h1 := lv_neT hs1_1 (a := 1) (by decide); have h2 := lv_neT hs1_2 (a := 2) (by decide); have h3 := lv_neT hs1_3 (a := 3) (by decide); omega) (by decide) ?_
  refine lv_iconst (v := (-1)) hx hb zd_LassoFinder_count_108 (by decide) ?_
  exact z_iret (u := ()) hx hb hr hlocks rfl hw [0] rfl (by decide) (by simp [zCount, hs1_0, hs1_1, hs1_2, hs1_3]) (Nat.le_of_ble_eq_true rfl) (Nat.le_of_ble_eq_true rfl) zd_LassoFinder_count_109
