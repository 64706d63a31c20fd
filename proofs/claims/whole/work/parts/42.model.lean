abbrev zy_LassoFinderModel_init : MethodName := ⟨"LassoFinderModel", "<init>", "()V"⟩
theorem zc_386 : Cond.methodLink "LassoFinderModel" 1 ⟨"java/lang/Object", "<init>", "()V"⟩ ∈ zTB := z_in (zt_6 _ (List.mem_of_getElem? (i := 93) rfl)) rfl
theorem zc_387 : Cond.fieldLink "LassoFinderModel" 7 "LassoFinderModel" "text" "[I" ∈ zTB := z_in (zt_6 _ (List.mem_of_getElem? (i := 96) rfl)) rfl
theorem zc_388 : Cond.fieldLink "LassoFinderModel" 13 "LassoFinderModel" "place" "I" ∈ zTB := z_in (zt_6 _ (List.mem_of_getElem? (i := 99) rfl)) rfl
theorem zc_389 : Cond.fieldLink "LassoFinderModel" 17 "LassoFinderModel" "var" "[I" ∈ zTB := z_in (zt_6 _ (List.mem_of_getElem? (i := 103) rfl)) rfl
theorem zc_390 : Cond.fieldLink "LassoFinderModel" 20 "LassoFinderModel" "chan" "[I" ∈ zTB := z_in (zt_6 _ (List.mem_of_getElem? (i := 104) rfl)) rfl
theorem zc_391 : Cond.fieldLink "LassoFinderModel" 23 "LassoFinderModel" "initial" "[I" ∈ zTB := z_in (zt_6 _ (List.mem_of_getElem? (i := 105) rfl)) rfl
theorem zc_392 : Cond.fieldLink "LassoFinderModel" 26 "LassoFinderModel" "slots" "[I" ∈ zTB := z_in (zt_6 _ (List.mem_of_getElem? (i := 106) rfl)) rfl
theorem zc_393 : Cond.fieldLink "LassoFinderModel" 29 "LassoFinderModel" "kind" "[I" ∈ zTB := z_in (zt_6 _ (List.mem_of_getElem? (i := 108) rfl)) rfl
theorem zc_394 : Cond.fieldLink "LassoFinderModel" 32 "LassoFinderModel" "process" "[I" ∈ zTB := z_in (zt_6 _ (List.mem_of_getElem? (i := 109) rfl)) rfl
theorem zc_395 : Cond.fieldLink "LassoFinderModel" 35 "LassoFinderModel" "parent" "[I" ∈ zTB := z_in (zt_6 _ (List.mem_of_getElem? (i := 110) rfl)) rfl
theorem zc_396 : Cond.fieldLink "LassoFinderModel" 38 "LassoFinderModel" "sibling" "[I" ∈ zTB := z_in (zt_6 _ (List.mem_of_getElem? (i := 111) rfl)) rfl
theorem zc_397 : Cond.fieldLink "LassoFinderModel" 41 "LassoFinderModel" "firstOf" "[Z" ∈ zTB := z_in (zt_6 _ (List.mem_of_getElem? (i := 112) rfl)) rfl
theorem zc_398 : Cond.fieldLink "LassoFinderModel" 45 "LassoFinderModel" "atomic" "[I" ∈ zTB := z_in (zt_6 _ (List.mem_of_getElem? (i := 113) rfl)) rfl
theorem zc_399 : Cond.fieldLink "LassoFinderModel" 48 "LassoFinderModel" "point" "[I" ∈ zTB := z_in (zt_6 _ (List.mem_of_getElem? (i := 114) rfl)) rfl
theorem zc_400 : Cond.fieldLink "LassoFinderModel" 51 "LassoFinderModel" "arg" "[I" ∈ zTB := z_in (zt_6 _ (List.mem_of_getElem? (i := 115) rfl)) rfl
theorem zc_401 : Cond.fieldLink "LassoFinderModel" 54 "LassoFinderModel" "into" "[I" ∈ zTB := z_in (zt_6 _ (List.mem_of_getElem? (i := 116) rfl)) rfl
theorem zc_402 : Cond.fieldLink "LassoFinderModel" 57 "LassoFinderModel" "begin" "[I" ∈ zTB := z_in (zt_6 _ (List.mem_of_getElem? (i := 117) rfl)) rfl
theorem zc_403 : Cond.fieldLink "LassoFinderModel" 60 "LassoFinderModel" "end" "[I" ∈ zTB := z_in (zt_6 _ (List.mem_of_getElem? (i := 118) rfl)) rfl
theorem zc_404 : Cond.fieldLink "LassoFinderModel" 63 "LassoFinderModel" "where" "[I" ∈ zTB := z_in (zt_6 _ (List.mem_of_getElem? (i := 119) rfl)) rfl
theorem zc_405 : Cond.fieldLink "LassoFinderModel" 66 "LassoFinderModel" "behind" "[I" ∈ zTB := z_in (zt_6 _ (List.mem_of_getElem? (i := 120) rfl)) rfl
theorem zc_406 : Cond.fieldLink "LassoFinderModel" 69 "LassoFinderModel" "basicNode" "[I" ∈ zTB := z_in (zt_6 _ (List.mem_of_getElem? (i := 122) rfl)) rfl
theorem zc_407 : Cond.fieldLink "LassoFinderModel" 72 "LassoFinderModel" "basicOf" "[I" ∈ zTB := z_in (zt_6 _ (List.mem_of_getElem? (i := 123) rfl)) rfl
theorem zc_408 : Cond.fieldLink "LassoFinderModel" 75 "LassoFinderModel" "points" "[I" ∈ zTB := z_in (zt_6 _ (List.mem_of_getElem? (i := 125) rfl)) rfl
theorem zc_409 : Cond.fieldLink "LassoFinderModel" 78 "LassoFinderModel" "firstNode" "[I" ∈ zTB := z_in (zt_6 _ (List.mem_of_getElem? (i := 126) rfl)) rfl
theorem zc_410 : Cond.fieldLink "LassoFinderModel" 81 "LassoFinderModel" "labels" "[I" ∈ zTB := z_in (zt_6 _ (List.mem_of_getElem? (i := 127) rfl)) rfl
theorem zc_411 : Cond.fieldLink "LassoFinderModel" 84 "LassoFinderModel" "nodeAt" "[I" ∈ zTB := z_in (zt_6 _ (List.mem_of_getElem? (i := 128) rfl)) rfl
theorem zc_412 : Cond.fieldLink "LassoFinderModel" 87 "LassoFinderModel" "mask" "[J" ∈ zTB := z_in (zt_6 _ (List.mem_of_getElem? (i := 129) rfl)) rfl
theorem zc_413 : Cond.fieldLink "LassoFinderModel" 91 "LassoFinderModel" "code" "[I" ∈ zTB := z_in (zt_6 _ (List.mem_of_getElem? (i := 131) rfl)) rfl
theorem zc_414 : Cond.fieldLink "LassoFinderModel" 94 "LassoFinderModel" "block" "[I" ∈ zTB := z_in (zt_6 _ (List.mem_of_getElem? (i := 133) rfl)) rfl
theorem zc_415 : Cond.fieldLink "LassoFinderModel" 97 "LassoFinderModel" "blockNode" "[I" ∈ zTB := z_in (zt_6 _ (List.mem_of_getElem? (i := 134) rfl)) rfl
theorem zc_416 : Cond.fieldLink "LassoFinderModel" 100 "LassoFinderModel" "latest" "[I" ∈ zTB := z_in (zt_6 _ (List.mem_of_getElem? (i := 135) rfl)) rfl
theorem zc_417 : Cond.fieldLink "LassoFinderModel" 103 "LassoFinderModel" "signs" "[I" ∈ zTB := z_in (zt_6 _ (List.mem_of_getElem? (i := 137) rfl)) rfl
theorem zc_418 : Cond.fieldLink "LassoFinderModel" 106 "LassoFinderModel" "key" "[J" ∈ zTB := z_in (zt_6 _ (List.mem_of_getElem? (i := 141) rfl)) rfl
theorem zc_419 : Cond.fieldLink "LassoFinderModel" 109 "LassoFinderModel" "first" "[I" ∈ zTB := z_in (zt_6 _ (List.mem_of_getElem? (i := 142) rfl)) rfl
theorem zc_420 : Cond.fieldLink "LassoFinderModel" 112 "LassoFinderModel" "target" "[I" ∈ zTB := z_in (zt_6 _ (List.mem_of_getElem? (i := 143) rfl)) rfl
theorem zc_421 : Cond.fieldLink "LassoFinderModel" 115 "LassoFinderModel" "source" "[I" ∈ zTB := z_in (zt_6 _ (List.mem_of_getElem? (i := 144) rfl)) rfl
theorem zc_422 : Cond.fieldLink "LassoFinderModel" 118 "LassoFinderModel" "doer" "[I" ∈ zTB := z_in (zt_6 _ (List.mem_of_getElem? (i := 145) rfl)) rfl
theorem zc_423 : Cond.fieldLink "LassoFinderModel" 121 "LassoFinderModel" "receiver" "[I" ∈ zTB := z_in (zt_6 _ (List.mem_of_getElem? (i := 146) rfl)) rfl
theorem zc_424 : Cond.fieldLink "LassoFinderModel" 124 "LassoFinderModel" "firstInto" "[I" ∈ zTB := z_in (zt_6 _ (List.mem_of_getElem? (i := 147) rfl)) rfl
theorem zc_425 : Cond.fieldLink "LassoFinderModel" 127 "LassoFinderModel" "stepInto" "[I" ∈ zTB := z_in (zt_6 _ (List.mem_of_getElem? (i := 148) rfl)) rfl
theorem zc_426 : Cond.fieldLink "LassoFinderModel" 130 "LassoFinderModel" "value" "[I" ∈ zTB := z_in (zt_6 _ (List.mem_of_getElem? (i := 149) rfl)) rfl
theorem zc_427 : Cond.fieldLink "LassoFinderModel" 133 "LassoFinderModel" "many" "[I" ∈ zTB := z_in (zt_6 _ (List.mem_of_getElem? (i := 150) rfl)) rfl
theorem zc_428 : Cond.fieldLink "LassoFinderModel" 136 "LassoFinderModel" "message" "[I" ∈ zTB := z_in (zt_6 _ (List.mem_of_getElem? (i := 151) rfl)) rfl
theorem zc_429 : Cond.fieldLink "LassoFinderModel" 139 "LassoFinderModel" "stands" "[I" ∈ zTB := z_in (zt_6 _ (List.mem_of_getElem? (i := 152) rfl)) rfl
theorem zc_430 : Cond.fieldLink "LassoFinderModel" 142 "LassoFinderModel" "stack" "[I" ∈ zTB := z_in (zt_6 _ (List.mem_of_getElem? (i := 154) rfl)) rfl
theorem zc_431 : Cond.fieldLink "LassoFinderModel" 145 "LassoFinderModel" "sign" "[I" ∈ zTB := z_in (zt_6 _ (List.mem_of_getElem? (i := 157) rfl)) rfl
theorem zc_432 : Cond.fieldLink "LassoFinderModel" 148 "LassoFinderModel" "kept" "[I" ∈ zTB := z_in (zt_6 _ (List.mem_of_getElem? (i := 160) rfl)) rfl
theorem zc_433 : Cond.fieldLink "LassoFinderModel" 151 "LassoFinderModel" "turn" "[I" ∈ zTB := z_in (zt_6 _ (List.mem_of_getElem? (i := 162) rfl)) rfl
theorem zc_434 : Cond.fieldLink "LassoFinderModel" 154 "LassoFinderModel" "atomProcess" "[I" ∈ zTB := z_in (zt_6 _ (List.mem_of_getElem? (i := 164) rfl)) rfl
theorem zc_435 : Cond.fieldLink "LassoFinderModel" 157 "LassoFinderModel" "atomPoint" "[I" ∈ zTB := z_in (zt_6 _ (List.mem_of_getElem? (i := 165) rfl)) rfl
theorem zc_436 : Cond.fieldLink "LassoFinderModel" 160 "LassoFinderModel" "atomBegin" "[I" ∈ zTB := z_in (zt_6 _ (List.mem_of_getElem? (i := 166) rfl)) rfl
theorem zc_437 : Cond.fieldLink "LassoFinderModel" 163 "LassoFinderModel" "atomEnd" "[I" ∈ zTB := z_in (zt_6 _ (List.mem_of_getElem? (i := 167) rfl)) rfl
theorem zc_438 : Cond.fieldLink "LassoFinderModel" 166 "LassoFinderModel" "look" "[I" ∈ zTB := z_in (zt_6 _ (List.mem_of_getElem? (i := 168) rfl)) rfl
theorem zc_439 : Cond.fieldLink "LassoFinderModel" 169 "LassoFinderModel" "deep" "[I" ∈ zTB := z_in (zt_6 _ (List.mem_of_getElem? (i := 169) rfl)) rfl
theorem zc_440 : Cond.fieldLink "LassoFinderModel" 172 "LassoFinderModel" "good" "[Z" ∈ zTB := z_in (zt_6 _ (List.mem_of_getElem? (i := 170) rfl)) rfl
theorem zc_441 : Cond.fieldLink "LassoFinderModel" 175 "LassoFinderModel" "far" "[I" ∈ zTB := z_in (zt_6 _ (List.mem_of_getElem? (i := 171) rfl)) rfl
theorem zc_442 : Cond.fieldLink "LassoFinderModel" 178 "LassoFinderModel" "stem" "I" ∈ zTB := z_in (zt_6 _ (List.mem_of_getElem? (i := 172) rfl)) rfl
theorem zc_443 : Cond.fieldLink "LassoFinderModel" 181 "LassoFinderModel" "row" "[I" ∈ zTB := z_in (zt_6 _ (List.mem_of_getElem? (i := 174) rfl)) rfl
theorem zc_444 : Cond.fieldLink "LassoFinderModel" 184 "LassoFinderModel" "tried" "[I" ∈ zTB := z_in (zt_6 _ (List.mem_of_getElem? (i := 175) rfl)) rfl
theorem zc_445 : Cond.fieldLink "LassoFinderModel" 187 "LassoFinderModel" "walked" "I" ∈ zTB := z_in (zt_6 _ (List.mem_of_getElem? (i := 176) rfl)) rfl
theorem zc_446 : Cond.fieldLink "LassoFinderModel" 190 "LassoFinderModel" "path" "[I" ∈ zTB := z_in (zt_6 _ (List.mem_of_getElem? (i := 177) rfl)) rfl
theorem zd_LassoFinderModel_init_0 : decode prog_14_method_1_code 0 = .ok (.aload_n 0, 1) := by decide +kernel
theorem zd_LassoFinderModel_init_1 : decode prog_14_method_1_code 1 = .ok (.invokespecial 1, 3) := by decide +kernel
theorem zd_LassoFinderModel_init_4 : decode prog_14_method_1_code 4 = .ok (.aload_n 0, 1) := by decide +kernel
theorem zd_LassoFinderModel_init_5 : decode prog_14_method_1_code 5 = .ok (.sipush 240, 3) := by decide +kernel
theorem zd_LassoFinderModel_init_8 : decode prog_14_method_1_code 8 = .ok (.newarray .int, 2) := by decide +kernel
theorem zd_LassoFinderModel_init_10 : decode prog_14_method_1_code 10 = .ok (.putfield 7, 3) := by decide +kernel
theorem zd_LassoFinderModel_init_13 : decode prog_14_method_1_code 13 = .ok (.aload_n 0, 1) := by decide +kernel
theorem zd_LassoFinderModel_init_14 : decode prog_14_method_1_code 14 = .ok (.iconst (-1), 1) := by decide +kernel
theorem zd_LassoFinderModel_init_15 : decode prog_14_method_1_code 15 = .ok (.putfield 13, 3) := by decide +kernel
theorem zd_LassoFinderModel_init_18 : decode prog_14_method_1_code 18 = .ok (.aload_n 0, 1) := by decide +kernel
theorem zd_LassoFinderModel_init_19 : decode prog_14_method_1_code 19 = .ok (.bipush 8, 2) := by decide +kernel
theorem zd_LassoFinderModel_init_21 : decode prog_14_method_1_code 21 = .ok (.newarray .int, 2) := by decide +kernel
theorem zd_LassoFinderModel_init_23 : decode prog_14_method_1_code 23 = .ok (.putfield 17, 3) := by decide +kernel
theorem zd_LassoFinderModel_init_26 : decode prog_14_method_1_code 26 = .ok (.aload_n 0, 1) := by decide +kernel
theorem zd_LassoFinderModel_init_27 : decode prog_14_method_1_code 27 = .ok (.bipush 8, 2) := by decide +kernel
theorem zd_LassoFinderModel_init_29 : decode prog_14_method_1_code 29 = .ok (.newarray .int, 2) := by decide +kernel
theorem zd_LassoFinderModel_init_31 : decode prog_14_method_1_code 31 = .ok (.putfield 20, 3) := by decide +kernel
theorem zd_LassoFinderModel_init_34 : decode prog_14_method_1_code 34 = .ok (.aload_n 0, 1) := by decide +kernel
theorem zd_LassoFinderModel_init_35 : decode prog_14_method_1_code 35 = .ok (.bipush 6, 2) := by decide +kernel
theorem zd_LassoFinderModel_init_37 : decode prog_14_method_1_code 37 = .ok (.newarray .int, 2) := by decide +kernel
theorem zd_LassoFinderModel_init_39 : decode prog_14_method_1_code 39 = .ok (.putfield 23, 3) := by decide +kernel
theorem zd_LassoFinderModel_init_42 : decode prog_14_method_1_code 42 = .ok (.aload_n 0, 1) := by decide +kernel
theorem zd_LassoFinderModel_init_43 : decode prog_14_method_1_code 43 = .ok (.iconst 2, 1) := by decide +kernel
theorem zd_LassoFinderModel_init_44 : decode prog_14_method_1_code 44 = .ok (.newarray .int, 2) := by decide +kernel
theorem zd_LassoFinderModel_init_46 : decode prog_14_method_1_code 46 = .ok (.putfield 26, 3) := by decide +kernel
theorem zd_LassoFinderModel_init_49 : decode prog_14_method_1_code 49 = .ok (.aload_n 0, 1) := by decide +kernel
theorem zd_LassoFinderModel_init_50 : decode prog_14_method_1_code 50 = .ok (.sipush 140, 3) := by decide +kernel
theorem zd_LassoFinderModel_init_53 : decode prog_14_method_1_code 53 = .ok (.newarray .int, 2) := by decide +kernel
theorem zd_LassoFinderModel_init_55 : decode prog_14_method_1_code 55 = .ok (.putfield 29, 3) := by decide +kernel
theorem zd_LassoFinderModel_init_58 : decode prog_14_method_1_code 58 = .ok (.aload_n 0, 1) := by decide +kernel
theorem zd_LassoFinderModel_init_59 : decode prog_14_method_1_code 59 = .ok (.sipush 140, 3) := by decide +kernel
theorem zd_LassoFinderModel_init_62 : decode prog_14_method_1_code 62 = .ok (.newarray .int, 2) := by decide +kernel
theorem zd_LassoFinderModel_init_64 : decode prog_14_method_1_code 64 = .ok (.putfield 32, 3) := by decide +kernel
theorem zd_LassoFinderModel_init_67 : decode prog_14_method_1_code 67 = .ok (.aload_n 0, 1) := by decide +kernel
theorem zd_LassoFinderModel_init_68 : decode prog_14_method_1_code 68 = .ok (.sipush 140, 3) := by decide +kernel
theorem zd_LassoFinderModel_init_71 : decode prog_14_method_1_code 71 = .ok (.newarray .int, 2) := by decide +kernel
theorem zd_LassoFinderModel_init_73 : decode prog_14_method_1_code 73 = .ok (.putfield 35, 3) := by decide +kernel
theorem zd_LassoFinderModel_init_76 : decode prog_14_method_1_code 76 = .ok (.aload_n 0, 1) := by decide +kernel
theorem zd_LassoFinderModel_init_77 : decode prog_14_method_1_code 77 = .ok (.sipush 140, 3) := by decide +kernel
theorem zd_LassoFinderModel_init_80 : decode prog_14_method_1_code 80 = .ok (.newarray .int, 2) := by decide +kernel
theorem zd_LassoFinderModel_init_82 : decode prog_14_method_1_code 82 = .ok (.putfield 38, 3) := by decide +kernel
theorem zd_LassoFinderModel_init_85 : decode prog_14_method_1_code 85 = .ok (.aload_n 0, 1) := by decide +kernel
theorem zd_LassoFinderModel_init_86 : decode prog_14_method_1_code 86 = .ok (.sipush 140, 3) := by decide +kernel
theorem zd_LassoFinderModel_init_89 : decode prog_14_method_1_code 89 = .ok (.newarray .boolean, 2) := by decide +kernel
theorem zd_LassoFinderModel_init_91 : decode prog_14_method_1_code 91 = .ok (.putfield 41, 3) := by decide +kernel
theorem zd_LassoFinderModel_init_94 : decode prog_14_method_1_code 94 = .ok (.aload_n 0, 1) := by decide +kernel
theorem zd_LassoFinderModel_init_95 : decode prog_14_method_1_code 95 = .ok (.sipush 140, 3) := by decide +kernel
theorem zd_LassoFinderModel_init_98 : decode prog_14_method_1_code 98 = .ok (.newarray .int, 2) := by decide +kernel
theorem zd_LassoFinderModel_init_100 : decode prog_14_method_1_code 100 = .ok (.putfield 45, 3) := by decide +kernel
theorem zd_LassoFinderModel_init_103 : decode prog_14_method_1_code 103 = .ok (.aload_n 0, 1) := by decide +kernel
theorem zd_LassoFinderModel_init_104 : decode prog_14_method_1_code 104 = .ok (.sipush 140, 3) := by decide +kernel
theorem zd_LassoFinderModel_init_107 : decode prog_14_method_1_code 107 = .ok (.newarray .int, 2) := by decide +kernel
theorem zd_LassoFinderModel_init_109 : decode prog_14_method_1_code 109 = .ok (.putfield 48, 3) := by decide +kernel
theorem zd_LassoFinderModel_init_112 : decode prog_14_method_1_code 112 = .ok (.aload_n 0, 1) := by decide +kernel
theorem zd_LassoFinderModel_init_113 : decode prog_14_method_1_code 113 = .ok (.sipush 140, 3) := by decide +kernel
theorem zd_LassoFinderModel_init_116 : decode prog_14_method_1_code 116 = .ok (.newarray .int, 2) := by decide +kernel
theorem zd_LassoFinderModel_init_118 : decode prog_14_method_1_code 118 = .ok (.putfield 51, 3) := by decide +kernel
theorem zd_LassoFinderModel_init_121 : decode prog_14_method_1_code 121 = .ok (.aload_n 0, 1) := by decide +kernel
theorem zd_LassoFinderModel_init_122 : decode prog_14_method_1_code 122 = .ok (.sipush 140, 3) := by decide +kernel
theorem zd_LassoFinderModel_init_125 : decode prog_14_method_1_code 125 = .ok (.newarray .int, 2) := by decide +kernel
theorem zd_LassoFinderModel_init_127 : decode prog_14_method_1_code 127 = .ok (.putfield 54, 3) := by decide +kernel
theorem zd_LassoFinderModel_init_130 : decode prog_14_method_1_code 130 = .ok (.aload_n 0, 1) := by decide +kernel
theorem zd_LassoFinderModel_init_131 : decode prog_14_method_1_code 131 = .ok (.sipush 140, 3) := by decide +kernel
theorem zd_LassoFinderModel_init_134 : decode prog_14_method_1_code 134 = .ok (.newarray .int, 2) := by decide +kernel
theorem zd_LassoFinderModel_init_136 : decode prog_14_method_1_code 136 = .ok (.putfield 57, 3) := by decide +kernel
theorem zd_LassoFinderModel_init_139 : decode prog_14_method_1_code 139 = .ok (.aload_n 0, 1) := by decide +kernel
theorem zd_LassoFinderModel_init_140 : decode prog_14_method_1_code 140 = .ok (.sipush 140, 3) := by decide +kernel
theorem zd_LassoFinderModel_init_143 : decode prog_14_method_1_code 143 = .ok (.newarray .int, 2) := by decide +kernel
theorem zd_LassoFinderModel_init_145 : decode prog_14_method_1_code 145 = .ok (.putfield 60, 3) := by decide +kernel
theorem zd_LassoFinderModel_init_148 : decode prog_14_method_1_code 148 = .ok (.aload_n 0, 1) := by decide +kernel
theorem zd_LassoFinderModel_init_149 : decode prog_14_method_1_code 149 = .ok (.sipush 140, 3) := by decide +kernel
theorem zd_LassoFinderModel_init_152 : decode prog_14_method_1_code 152 = .ok (.newarray .int, 2) := by decide +kernel
theorem zd_LassoFinderModel_init_154 : decode prog_14_method_1_code 154 = .ok (.putfield 63, 3) := by decide +kernel
theorem zd_LassoFinderModel_init_157 : decode prog_14_method_1_code 157 = .ok (.aload_n 0, 1) := by decide +kernel
theorem zd_LassoFinderModel_init_158 : decode prog_14_method_1_code 158 = .ok (.sipush 140, 3) := by decide +kernel
theorem zd_LassoFinderModel_init_161 : decode prog_14_method_1_code 161 = .ok (.newarray .int, 2) := by decide +kernel
theorem zd_LassoFinderModel_init_163 : decode prog_14_method_1_code 163 = .ok (.putfield 66, 3) := by decide +kernel
theorem zd_LassoFinderModel_init_166 : decode prog_14_method_1_code 166 = .ok (.aload_n 0, 1) := by decide +kernel
theorem zd_LassoFinderModel_init_167 : decode prog_14_method_1_code 167 = .ok (.bipush 48, 2) := by decide +kernel
theorem zd_LassoFinderModel_init_169 : decode prog_14_method_1_code 169 = .ok (.newarray .int, 2) := by decide +kernel
theorem zd_LassoFinderModel_init_171 : decode prog_14_method_1_code 171 = .ok (.putfield 69, 3) := by decide +kernel
theorem zd_LassoFinderModel_init_174 : decode prog_14_method_1_code 174 = .ok (.aload_n 0, 1) := by decide +kernel
theorem zd_LassoFinderModel_init_175 : decode prog_14_method_1_code 175 = .ok (.sipush 140, 3) := by decide +kernel
theorem zd_LassoFinderModel_init_178 : decode prog_14_method_1_code 178 = .ok (.newarray .int, 2) := by decide +kernel
theorem zd_LassoFinderModel_init_180 : decode prog_14_method_1_code 180 = .ok (.putfield 72, 3) := by decide +kernel
theorem zd_LassoFinderModel_init_183 : decode prog_14_method_1_code 183 = .ok (.aload_n 0, 1) := by decide +kernel
theorem zd_LassoFinderModel_init_184 : decode prog_14_method_1_code 184 = .ok (.iconst 5, 1) := by decide +kernel
theorem zd_LassoFinderModel_init_185 : decode prog_14_method_1_code 185 = .ok (.newarray .int, 2) := by decide +kernel
theorem zd_LassoFinderModel_init_187 : decode prog_14_method_1_code 187 = .ok (.putfield 75, 3) := by decide +kernel
theorem zd_LassoFinderModel_init_190 : decode prog_14_method_1_code 190 = .ok (.aload_n 0, 1) := by decide +kernel
theorem zd_LassoFinderModel_init_191 : decode prog_14_method_1_code 191 = .ok (.iconst 5, 1) := by decide +kernel
theorem zd_LassoFinderModel_init_192 : decode prog_14_method_1_code 192 = .ok (.newarray .int, 2) := by decide +kernel
theorem zd_LassoFinderModel_init_194 : decode prog_14_method_1_code 194 = .ok (.putfield 78, 3) := by decide +kernel
theorem zd_LassoFinderModel_init_197 : decode prog_14_method_1_code 197 = .ok (.aload_n 0, 1) := by decide +kernel
theorem zd_LassoFinderModel_init_198 : decode prog_14_method_1_code 198 = .ok (.bipush 32, 2) := by decide +kernel
theorem zd_LassoFinderModel_init_200 : decode prog_14_method_1_code 200 = .ok (.newarray .int, 2) := by decide +kernel
theorem zd_LassoFinderModel_init_202 : decode prog_14_method_1_code 202 = .ok (.putfield 81, 3) := by decide +kernel
theorem zd_LassoFinderModel_init_205 : decode prog_14_method_1_code 205 = .ok (.aload_n 0, 1) := by decide +kernel
theorem zd_LassoFinderModel_init_206 : decode prog_14_method_1_code 206 = .ok (.bipush 124, 2) := by decide +kernel
theorem zd_LassoFinderModel_init_208 : decode prog_14_method_1_code 208 = .ok (.newarray .int, 2) := by decide +kernel
theorem zd_LassoFinderModel_init_210 : decode prog_14_method_1_code 210 = .ok (.putfield 84, 3) := by decide +kernel
theorem zd_LassoFinderModel_init_213 : decode prog_14_method_1_code 213 = .ok (.aload_n 0, 1) := by decide +kernel
theorem zd_LassoFinderModel_init_214 : decode prog_14_method_1_code 214 = .ok (.bipush 124, 2) := by decide +kernel
theorem zd_LassoFinderModel_init_216 : decode prog_14_method_1_code 216 = .ok (.newarray .long, 2) := by decide +kernel
theorem zd_LassoFinderModel_init_218 : decode prog_14_method_1_code 218 = .ok (.putfield 87, 3) := by decide +kernel
theorem zd_LassoFinderModel_init_221 : decode prog_14_method_1_code 221 = .ok (.aload_n 0, 1) := by decide +kernel
theorem zd_LassoFinderModel_init_222 : decode prog_14_method_1_code 222 = .ok (.sipush 480, 3) := by decide +kernel
theorem zd_LassoFinderModel_init_225 : decode prog_14_method_1_code 225 = .ok (.newarray .int, 2) := by decide +kernel
theorem zd_LassoFinderModel_init_227 : decode prog_14_method_1_code 227 = .ok (.putfield 91, 3) := by decide +kernel
theorem zd_LassoFinderModel_init_230 : decode prog_14_method_1_code 230 = .ok (.aload_n 0, 1) := by decide +kernel
theorem zd_LassoFinderModel_init_231 : decode prog_14_method_1_code 231 = .ok (.bipush 8, 2) := by decide +kernel
theorem zd_LassoFinderModel_init_233 : decode prog_14_method_1_code 233 = .ok (.newarray .int, 2) := by decide +kernel
theorem zd_LassoFinderModel_init_235 : decode prog_14_method_1_code 235 = .ok (.putfield 94, 3) := by decide +kernel
theorem zd_LassoFinderModel_init_238 : decode prog_14_method_1_code 238 = .ok (.aload_n 0, 1) := by decide +kernel
theorem zd_LassoFinderModel_init_239 : decode prog_14_method_1_code 239 = .ok (.bipush 8, 2) := by decide +kernel
theorem zd_LassoFinderModel_init_241 : decode prog_14_method_1_code 241 = .ok (.newarray .int, 2) := by decide +kernel
theorem zd_LassoFinderModel_init_243 : decode prog_14_method_1_code 243 = .ok (.putfield 97, 3) := by decide +kernel
theorem zd_LassoFinderModel_init_246 : decode prog_14_method_1_code 246 = .ok (.aload_n 0, 1) := by decide +kernel
theorem zd_LassoFinderModel_init_247 : decode prog_14_method_1_code 247 = .ok (.bipush 8, 2) := by decide +kernel
theorem zd_LassoFinderModel_init_249 : decode prog_14_method_1_code 249 = .ok (.newarray .int, 2) := by decide +kernel
theorem zd_LassoFinderModel_init_251 : decode prog_14_method_1_code 251 = .ok (.putfield 100, 3) := by decide +kernel
theorem zd_LassoFinderModel_init_254 : decode prog_14_method_1_code 254 = .ok (.aload_n 0, 1) := by decide +kernel
theorem zd_LassoFinderModel_init_255 : decode prog_14_method_1_code 255 = .ok (.sipush 240, 3) := by decide +kernel
theorem zd_LassoFinderModel_init_258 : decode prog_14_method_1_code 258 = .ok (.newarray .int, 2) := by decide +kernel
theorem zd_LassoFinderModel_init_260 : decode prog_14_method_1_code 260 = .ok (.putfield 103, 3) := by decide +kernel
theorem zd_LassoFinderModel_init_263 : decode prog_14_method_1_code 263 = .ok (.aload_n 0, 1) := by decide +kernel
theorem zd_LassoFinderModel_init_264 : decode prog_14_method_1_code 264 = .ok (.bipush 97, 2) := by decide +kernel
theorem zd_LassoFinderModel_init_266 : decode prog_14_method_1_code 266 = .ok (.newarray .long, 2) := by decide +kernel
theorem zd_LassoFinderModel_init_268 : decode prog_14_method_1_code 268 = .ok (.putfield 106, 3) := by decide +kernel
theorem zd_LassoFinderModel_init_271 : decode prog_14_method_1_code 271 = .ok (.aload_n 0, 1) := by decide +kernel
theorem zd_LassoFinderModel_init_272 : decode prog_14_method_1_code 272 = .ok (.bipush 98, 2) := by decide +kernel
theorem zd_LassoFinderModel_init_274 : decode prog_14_method_1_code 274 = .ok (.newarray .int, 2) := by decide +kernel
theorem zd_LassoFinderModel_init_276 : decode prog_14_method_1_code 276 = .ok (.putfield 109, 3) := by decide +kernel
theorem zd_LassoFinderModel_init_279 : decode prog_14_method_1_code 279 = .ok (.aload_n 0, 1) := by decide +kernel
theorem zd_LassoFinderModel_init_280 : decode prog_14_method_1_code 280 = .ok (.sipush 401, 3) := by decide +kernel
theorem zd_LassoFinderModel_init_283 : decode prog_14_method_1_code 283 = .ok (.newarray .int, 2) := by decide +kernel
theorem zd_LassoFinderModel_init_285 : decode prog_14_method_1_code 285 = .ok (.putfield 112, 3) := by decide +kernel
theorem zd_LassoFinderModel_init_288 : decode prog_14_method_1_code 288 = .ok (.aload_n 0, 1) := by decide +kernel
theorem zd_LassoFinderModel_init_289 : decode prog_14_method_1_code 289 = .ok (.sipush 401, 3) := by decide +kernel
theorem zd_LassoFinderModel_init_292 : decode prog_14_method_1_code 292 = .ok (.newarray .int, 2) := by decide +kernel
theorem zd_LassoFinderModel_init_294 : decode prog_14_method_1_code 294 = .ok (.putfield 115, 3) := by decide +kernel
theorem zd_LassoFinderModel_init_297 : decode prog_14_method_1_code 297 = .ok (.aload_n 0, 1) := by decide +kernel
theorem zd_LassoFinderModel_init_298 : decode prog_14_method_1_code 298 = .ok (.sipush 401, 3) := by decide +kernel
theorem zd_LassoFinderModel_init_301 : decode prog_14_method_1_code 301 = .ok (.newarray .int, 2) := by decide +kernel
theorem zd_LassoFinderModel_init_303 : decode prog_14_method_1_code 303 = .ok (.putfield 118, 3) := by decide +kernel
theorem zd_LassoFinderModel_init_306 : decode prog_14_method_1_code 306 = .ok (.aload_n 0, 1) := by decide +kernel
theorem zd_LassoFinderModel_init_307 : decode prog_14_method_1_code 307 = .ok (.sipush 401, 3) := by decide +kernel
theorem zd_LassoFinderModel_init_310 : decode prog_14_method_1_code 310 = .ok (.newarray .int, 2) := by decide +kernel
theorem zd_LassoFinderModel_init_312 : decode prog_14_method_1_code 312 = .ok (.putfield 121, 3) := by decide +kernel
theorem zd_LassoFinderModel_init_315 : decode prog_14_method_1_code 315 = .ok (.aload_n 0, 1) := by decide +kernel
theorem zd_LassoFinderModel_init_316 : decode prog_14_method_1_code 316 = .ok (.bipush 98, 2) := by decide +kernel
theorem zd_LassoFinderModel_init_318 : decode prog_14_method_1_code 318 = .ok (.newarray .int, 2) := by decide +kernel
theorem zd_LassoFinderModel_init_320 : decode prog_14_method_1_code 320 = .ok (.putfield 124, 3) := by decide +kernel
theorem zd_LassoFinderModel_init_323 : decode prog_14_method_1_code 323 = .ok (.aload_n 0, 1) := by decide +kernel
theorem zd_LassoFinderModel_init_324 : decode prog_14_method_1_code 324 = .ok (.sipush 401, 3) := by decide +kernel
theorem zd_LassoFinderModel_init_327 : decode prog_14_method_1_code 327 = .ok (.newarray .int, 2) := by decide +kernel
theorem zd_LassoFinderModel_init_329 : decode prog_14_method_1_code 329 = .ok (.putfield 127, 3) := by decide +kernel
theorem zd_LassoFinderModel_init_332 : decode prog_14_method_1_code 332 = .ok (.aload_n 0, 1) := by decide +kernel
theorem zd_LassoFinderModel_init_333 : decode prog_14_method_1_code 333 = .ok (.bipush 6, 2) := by decide +kernel
theorem zd_LassoFinderModel_init_335 : decode prog_14_method_1_code 335 = .ok (.newarray .int, 2) := by decide +kernel
theorem zd_LassoFinderModel_init_337 : decode prog_14_method_1_code 337 = .ok (.putfield 130, 3) := by decide +kernel
theorem zd_LassoFinderModel_init_340 : decode prog_14_method_1_code 340 = .ok (.aload_n 0, 1) := by decide +kernel
theorem zd_LassoFinderModel_init_341 : decode prog_14_method_1_code 341 = .ok (.iconst 2, 1) := by decide +kernel
theorem zd_LassoFinderModel_init_342 : decode prog_14_method_1_code 342 = .ok (.newarray .int, 2) := by decide +kernel
theorem zd_LassoFinderModel_init_344 : decode prog_14_method_1_code 344 = .ok (.putfield 133, 3) := by decide +kernel
theorem zd_LassoFinderModel_init_347 : decode prog_14_method_1_code 347 = .ok (.aload_n 0, 1) := by decide +kernel
theorem zd_LassoFinderModel_init_348 : decode prog_14_method_1_code 348 = .ok (.bipush 6, 2) := by decide +kernel
theorem zd_LassoFinderModel_init_350 : decode prog_14_method_1_code 350 = .ok (.newarray .int, 2) := by decide +kernel
theorem zd_LassoFinderModel_init_352 : decode prog_14_method_1_code 352 = .ok (.putfield 136, 3) := by decide +kernel
theorem zd_LassoFinderModel_init_355 : decode prog_14_method_1_code 355 = .ok (.aload_n 0, 1) := by decide +kernel
theorem zd_LassoFinderModel_init_356 : decode prog_14_method_1_code 356 = .ok (.iconst 4, 1) := by decide +kernel
theorem zd_LassoFinderModel_init_357 : decode prog_14_method_1_code 357 = .ok (.newarray .int, 2) := by decide +kernel
theorem zd_LassoFinderModel_init_359 : decode prog_14_method_1_code 359 = .ok (.putfield 139, 3) := by decide +kernel
theorem zd_LassoFinderModel_init_362 : decode prog_14_method_1_code 362 = .ok (.aload_n 0, 1) := by decide +kernel
theorem zd_LassoFinderModel_init_363 : decode prog_14_method_1_code 363 = .ok (.sipush 240, 3) := by decide +kernel
theorem zd_LassoFinderModel_init_366 : decode prog_14_method_1_code 366 = .ok (.newarray .int, 2) := by decide +kernel
theorem zd_LassoFinderModel_init_368 : decode prog_14_method_1_code 368 = .ok (.putfield 142, 3) := by decide +kernel
theorem zd_LassoFinderModel_init_371 : decode prog_14_method_1_code 371 = .ok (.aload_n 0, 1) := by decide +kernel
theorem zd_LassoFinderModel_init_372 : decode prog_14_method_1_code 372 = .ok (.sipush 240, 3) := by decide +kernel
theorem zd_LassoFinderModel_init_375 : decode prog_14_method_1_code 375 = .ok (.newarray .int, 2) := by decide +kernel
theorem zd_LassoFinderModel_init_377 : decode prog_14_method_1_code 377 = .ok (.putfield 145, 3) := by decide +kernel
theorem zd_LassoFinderModel_init_380 : decode prog_14_method_1_code 380 = .ok (.aload_n 0, 1) := by decide +kernel
theorem zd_LassoFinderModel_init_381 : decode prog_14_method_1_code 381 = .ok (.sipush 240, 3) := by decide +kernel
theorem zd_LassoFinderModel_init_384 : decode prog_14_method_1_code 384 = .ok (.newarray .int, 2) := by decide +kernel
theorem zd_LassoFinderModel_init_386 : decode prog_14_method_1_code 386 = .ok (.putfield 148, 3) := by decide +kernel
theorem zd_LassoFinderModel_init_389 : decode prog_14_method_1_code 389 = .ok (.aload_n 0, 1) := by decide +kernel
theorem zd_LassoFinderModel_init_390 : decode prog_14_method_1_code 390 = .ok (.iconst 3, 1) := by decide +kernel
theorem zd_LassoFinderModel_init_391 : decode prog_14_method_1_code 391 = .ok (.newarray .int, 2) := by decide +kernel
theorem zd_LassoFinderModel_init_393 : decode prog_14_method_1_code 393 = .ok (.putfield 151, 3) := by decide +kernel
theorem zd_LassoFinderModel_init_396 : decode prog_14_method_1_code 396 = .ok (.aload_n 0, 1) := by decide +kernel
theorem zd_LassoFinderModel_init_397 : decode prog_14_method_1_code 397 = .ok (.bipush 8, 2) := by decide +kernel
theorem zd_LassoFinderModel_init_399 : decode prog_14_method_1_code 399 = .ok (.newarray .int, 2) := by decide +kernel
theorem zd_LassoFinderModel_init_401 : decode prog_14_method_1_code 401 = .ok (.putfield 154, 3) := by decide +kernel
theorem zd_LassoFinderModel_init_404 : decode prog_14_method_1_code 404 = .ok (.aload_n 0, 1) := by decide +kernel
theorem zd_LassoFinderModel_init_405 : decode prog_14_method_1_code 405 = .ok (.bipush 8, 2) := by decide +kernel
theorem zd_LassoFinderModel_init_407 : decode prog_14_method_1_code 407 = .ok (.newarray .int, 2) := by decide +kernel
theorem zd_LassoFinderModel_init_409 : decode prog_14_method_1_code 409 = .ok (.putfield 157, 3) := by decide +kernel
theorem zd_LassoFinderModel_init_412 : decode prog_14_method_1_code 412 = .ok (.aload_n 0, 1) := by decide +kernel
theorem zd_LassoFinderModel_init_413 : decode prog_14_method_1_code 413 = .ok (.bipush 8, 2) := by decide +kernel
theorem zd_LassoFinderModel_init_415 : decode prog_14_method_1_code 415 = .ok (.newarray .int, 2) := by decide +kernel
theorem zd_LassoFinderModel_init_417 : decode prog_14_method_1_code 417 = .ok (.putfield 160, 3) := by decide +kernel
theorem zd_LassoFinderModel_init_420 : decode prog_14_method_1_code 420 = .ok (.aload_n 0, 1) := by decide +kernel
theorem zd_LassoFinderModel_init_421 : decode prog_14_method_1_code 421 = .ok (.bipush 8, 2) := by decide +kernel
theorem zd_LassoFinderModel_init_423 : decode prog_14_method_1_code 423 = .ok (.newarray .int, 2) := by decide +kernel
theorem zd_LassoFinderModel_init_425 : decode prog_14_method_1_code 425 = .ok (.putfield 163, 3) := by decide +kernel
theorem zd_LassoFinderModel_init_428 : decode prog_14_method_1_code 428 = .ok (.aload_n 0, 1) := by decide +kernel
theorem zd_LassoFinderModel_init_429 : decode prog_14_method_1_code 429 = .ok (.sipush 768, 3) := by decide +kernel
theorem zd_LassoFinderModel_init_432 : decode prog_14_method_1_code 432 = .ok (.newarray .int, 2) := by decide +kernel
theorem zd_LassoFinderModel_init_434 : decode prog_14_method_1_code 434 = .ok (.putfield 166, 3) := by decide +kernel
theorem zd_LassoFinderModel_init_437 : decode prog_14_method_1_code 437 = .ok (.aload_n 0, 1) := by decide +kernel
theorem zd_LassoFinderModel_init_438 : decode prog_14_method_1_code 438 = .ok (.sipush 768, 3) := by decide +kernel
theorem zd_LassoFinderModel_init_441 : decode prog_14_method_1_code 441 = .ok (.newarray .int, 2) := by decide +kernel
theorem zd_LassoFinderModel_init_443 : decode prog_14_method_1_code 443 = .ok (.putfield 169, 3) := by decide +kernel
theorem zd_LassoFinderModel_init_446 : decode prog_14_method_1_code 446 = .ok (.aload_n 0, 1) := by decide +kernel
theorem zd_LassoFinderModel_init_447 : decode prog_14_method_1_code 447 = .ok (.sipush 768, 3) := by decide +kernel
theorem zd_LassoFinderModel_init_450 : decode prog_14_method_1_code 450 = .ok (.newarray .boolean, 2) := by decide +kernel
theorem zd_LassoFinderModel_init_452 : decode prog_14_method_1_code 452 = .ok (.putfield 172, 3) := by decide +kernel
theorem zd_LassoFinderModel_init_455 : decode prog_14_method_1_code 455 = .ok (.aload_n 0, 1) := by decide +kernel
theorem zd_LassoFinderModel_init_456 : decode prog_14_method_1_code 456 = .ok (.sipush 6144, 3) := by decide +kernel
theorem zd_LassoFinderModel_init_459 : decode prog_14_method_1_code 459 = .ok (.newarray .int, 2) := by decide +kernel
theorem zd_LassoFinderModel_init_461 : decode prog_14_method_1_code 461 = .ok (.putfield 175, 3) := by decide +kernel
theorem zd_LassoFinderModel_init_464 : decode prog_14_method_1_code 464 = .ok (.aload_n 0, 1) := by decide +kernel
theorem zd_LassoFinderModel_init_465 : decode prog_14_method_1_code 465 = .ok (.iconst (-1), 1) := by decide +kernel
theorem zd_LassoFinderModel_init_466 : decode prog_14_method_1_code 466 = .ok (.putfield 178, 3) := by decide +kernel
theorem zd_LassoFinderModel_init_469 : decode prog_14_method_1_code 469 = .ok (.aload_n 0, 1) := by decide +kernel
theorem zd_LassoFinderModel_init_470 : decode prog_14_method_1_code 470 = .ok (.sipush 1280, 3) := by decide +kernel
theorem zd_LassoFinderModel_init_473 : decode prog_14_method_1_code 473 = .ok (.newarray .int, 2) := by decide +kernel
theorem zd_LassoFinderModel_init_475 : decode prog_14_method_1_code 475 = .ok (.putfield 181, 3) := by decide +kernel
theorem zd_LassoFinderModel_init_478 : decode prog_14_method_1_code 478 = .ok (.aload_n 0, 1) := by decide +kernel
theorem zd_LassoFinderModel_init_479 : decode prog_14_method_1_code 479 = .ok (.sipush 1024, 3) := by decide +kernel
theorem zd_LassoFinderModel_init_482 : decode prog_14_method_1_code 482 = .ok (.newarray .int, 2) := by decide +kernel
theorem zd_LassoFinderModel_init_484 : decode prog_14_method_1_code 484 = .ok (.putfield 184, 3) := by decide +kernel
theorem zd_LassoFinderModel_init_487 : decode prog_14_method_1_code 487 = .ok (.aload_n 0, 1) := by decide +kernel
theorem zd_LassoFinderModel_init_488 : decode prog_14_method_1_code 488 = .ok (.iconst (-1), 1) := by decide +kernel
theorem zd_LassoFinderModel_init_489 : decode prog_14_method_1_code 489 = .ok (.putfield 187, 3) := by decide +kernel
theorem zd_LassoFinderModel_init_492 : decode prog_14_method_1_code 492 = .ok (.aload_n 0, 1) := by decide +kernel
theorem zd_LassoFinderModel_init_493 : decode prog_14_method_1_code 493 = .ok (.bipush 61, 2) := by decide +kernel
theorem zd_LassoFinderModel_init_495 : decode prog_14_method_1_code 495 = .ok (.newarray .int, 2) := by decide +kernel
theorem zd_LassoFinderModel_init_497 : decode prog_14_method_1_code 497 = .ok (.putfield 190, 3) := by decide +kernel
theorem zd_LassoFinderModel_init_500 : decode prog_14_method_1_code 500 = .ok (.return_, 1) := by decide +kernel
set_option maxHeartbeats 4000000 in
set_option maxRecDepth 100000 in
theorem c_LassoFinderModel_init (l : Launch) (G : va_G) (K : Nat → ClassId) (h0 : Nat) (sz : Nat) : Met l zy_LassoFinderModel_init (Cond.code zy_LassoFinderModel_init prog_14_method_1_code 1 none :: zTB) { frames := 1, cells := 57, slots := 17190, locals := 12 } (va_Pc [.ref h0] (zPre G K [(h0, zO 12 [.int 0, .int 0, .null, .int 0, .int 0, .int 0, .int 0, .int 0, .int 0, .null, .null, .null, .null, .int 0, .null, .null, .null, .null, .null, .null, .null, .null, .null, .null, .null, .null, .null, .int 0, .null, .null, .int 0, .null, .null, .null, .null, .null, .int 0, .null, .int 0, .null, .null, .null, .int 0, .null, .int 0, .int 0, .int 0, .null, .null, .null, .null, .null, .null, .null, .null, .null, .null, .null, .null, .int 0, .null, .int 0, .int 0, .null, .int 0, .int 0, .null, .int 0, .null, .int 0, .null, .null, .null, .null, .null, .null, .null, .null, .int 0, .int 0, .null, .null, .int 0, .null])] sz)) (va_Qv (fun _ : Nat → Nat => True) (fun u t => zPost G K (va_A [(h0, zO 12 [.int 0, .int 0, .null, .int 0, .int 0, .int 0, .int 0, .int 0, .int 0, .null, .null, .null, .null, .int 0, .null, .null, .null, .null, .null, .null, .null, .null, .null, .null, .null, .null, .null, .int 0, .null, .null, .int 0, .null, .null, .null, .null, .null, .int 0, .null, .int 0, .null, .null, .null, .int 0, .null, .int 0, .int 0, .int 0, .null, .null, .null, .null, .null, .null, .null, .null, .null, .null, .null, .null, .int 0, .null, .int 0, .int 0, .null, .int 0, .int 0, .null, .int 0, .null, .int 0, .null, .null, .null, .null, .null, .null, .null, .null, .int 0, .int 0, .null, .null, .int 0, .null])] sz) [(h0, zO 12 [.int 0, .int 0, .ref (u 0), .int 0, .int 0, .int (-1), .int 0, .int 0, .int 0, .ref (u 1), .ref (u 2), .ref (u 3), .ref (u 4), .int 0, .ref (u 5), .ref (u 6), .ref (u 7), .ref (u 8), .ref (u 9), .ref (u 10), .ref (u 11), .ref (u 12), .ref (u 13), .ref (u 14), .ref (u 15), .ref (u 16), .ref (u 17), .int 0, .ref (u 18), .ref (u 19), .int 0, .ref (u 20), .ref (u 21), .ref (u 22), .ref (u 23), .ref (u 24), .int 0, .ref (u 25), .int 0, .ref (u 26), .ref (u 27), .ref (u 28), .int 0, .ref (u 29), .int 0, .int 0, .int 0, .ref (u 30), .ref (u 31), .ref (u 32), .ref (u 33), .ref (u 34), .ref (u 35), .ref (u 36), .ref (u 37), .ref (u 38), .ref (u 39), .ref (u 40), .ref (u 41), .int 0, .ref (u 42), .int 0, .int 0, .ref (u 43), .int 0, .int 0, .ref (u 44), .int 0, .ref (u 45), .int 0, .ref (u 46), .ref (u 47), .ref (u 48), .ref (u 49), .ref (u 50), .ref (u 51), .ref (u 52), .ref (u 53), .int (-1), .int 0, .ref (u 54), .ref (u 55), .int (-1), .ref (u 56)]), ((u 0), zI K 240 (fun _ => 0)), ((u 1), zI K 8 (fun _ => 0)), ((u 2), zI K 8 (fun _ => 0)), ((u 3), zI K 6 (fun _ => 0)), ((u 4), zI K 2 (fun _ => 0)), ((u 5), zI K 140 (fun _ => 0)), ((u 6), zI K 140 (fun _ => 0)), ((u 7), zI K 140 (fun _ => 0)), ((u 8), zI K 140 (fun _ => 0)), ((u 9), zZ K 140 (fun _ => 0)), ((u 10), zI K 140 (fun _ => 0)), ((u 11), zI K 140 (fun _ => 0)), ((u 12), zI K 140 (fun _ => 0)), ((u 13), zI K 140 (fun _ => 0)), ((u 14), zI K 140 (fun _ => 0)), ((u 15), zI K 140 (fun _ => 0)), ((u 16), zI K 140 (fun _ => 0)), ((u 17), zI K 140 (fun _ => 0)), ((u 18), zI K 48 (fun _ => 0)), ((u 19), zI K 140 (fun _ => 0)), ((u 20), zI K 5 (fun _ => 0)), ((u 21), zI K 5 (fun _ => 0)), ((u 22), zI K 32 (fun _ => 0)), ((u 23), zI K 124 (fun _ => 0)), ((u 24), zJ K 124 (fun _ => 0)), ((u 25), zI K 480 (fun _ => 0)), ((u 26), zI K 8 (fun _ => 0)), ((u 27), zI K 8 (fun _ => 0)), ((u 28), zI K 8 (fun _ => 0)), ((u 29), zI K 240 (fun _ => 0)), ((u 30), zJ K 97 (fun _ => 0)), ((u 31), zI K 98 (fun _ => 0)), ((u 32), zI K 401 (fun _ => 0)), ((u 33), zI K 401 (fun _ => 0)), ((u 34), zI K 401 (fun _ => 0)), ((u 35), zI K 401 (fun _ => 0)), ((u 36), zI K 98 (fun _ => 0)), ((u 37), zI K 401 (fun _ => 0)), ((u 38), zI K 6 (fun _ => 0)), ((u 39), zI K 2 (fun _ => 0)), ((u 40), zI K 6 (fun _ => 0)), ((u 41), zI K 4 (fun _ => 0)), ((u 42), zI K 240 (fun _ => 0)), ((u 43), zI K 240 (fun _ => 0)), ((u 44), zI K 240 (fun _ => 0)), ((u 45), zI K 3 (fun _ => 0)), ((u 46), zI K 8 (fun _ => 0)), ((u 47), zI K 8 (fun _ => 0)), ((u 48), zI K 8 (fun _ => 0)), ((u 49), zI K 8 (fun _ => 0)), ((u 50), zI K 768 (fun _ => 0)), ((u 51), zI K 768 (fun _ => 0)), ((u 52), zZ K 768 (fun _ => 0)), ((u 53), zI K 6144 (fun _ => 0)), ((u 54), zI K 1280 (fun _ => 0)), ((u 55), zI K 1024 (fun _ => 0)), ((u 56), zI K 61 (fun _ => 0))] t) (va_A [(h0, zO 12 [.int 0, .int 0, .null, .int 0, .int 0, .int 0, .int 0, .int 0, .int 0, .null, .null, .null, .null, .int 0, .null, .null, .null, .null, .null, .null, .null, .null, .null, .null, .null, .null, .null, .int 0, .null, .null, .int 0, .null, .null, .null, .null, .null, .int 0, .null, .int 0, .null, .null, .null, .int 0, .null, .int 0, .int 0, .int 0, .null, .null, .null, .null, .null, .null, .null, .null, .null, .null, .null, .null, .int 0, .null, .int 0, .int 0, .null, .int 0, .int 0, .null, .int 0, .null, .int 0, .null, .null, .null, .null, .null, .null, .null, .null, .int 0, .int 0, .null, .null, .int 0, .null])] sz)) 57 17190 (va_A [(h0, zO 12 [.int 0, .int 0, .null, .int 0, .int 0, .int 0, .int 0, .int 0, .int 0, .null, .null, .null, .null, .int 0, .null, .null, .null, .null, .null, .null, .null, .null, .null, .null, .null, .null, .null, .int 0, .null, .null, .int 0, .null, .null, .null, .null, .null, .int 0, .null, .int 0, .null, .null, .null, .int 0, .null, .int 0, .int 0, .int 0, .null, .null, .null, .null, .null, .null, .null, .null, .null, .null, .null, .null, .int 0, .null, .int 0, .int 0, .null, .int 0, .int 0, .null, .int 0, .null, .int 0, .null, .null, .null, .null, .null, .null, .null, .null, .int 0, .int 0, .null, .null, .int 0, .null])] sz) := by
  refine zMet (y := zy_LassoFinderModel_init) (av := [.ref h0]) (maxL := 1) (cc := prog_14_method_1_code) (ret := none) (W0 := [(h0, zO 12 [.int 0, .int 0, .null, .int 0, .int 0, .int 0, .int 0, .int 0, .int 0, .null, .null, .null, .null, .int 0, .null, .null, .null, .null, .null, .null, .null, .null, .null, .null, .null, .null, .null, .int 0, .null, .null, .int 0, .null, .null, .null, .null, .null, .int 0, .null, .int 0, .null, .null, .null, .int 0, .null, .int 0, .int 0, .int 0, .null, .null, .null, .null, .null, .null, .null, .null, .null, .null, .null, .null, .int 0, .null, .int 0, .int 0, .null, .int 0, .int 0, .null, .int 0, .null, .int 0, .null, .null, .null, .null, .null, .null, .null, .null, .int 0, .int 0, .null, .null, .int 0, .null])]) (sz := sz) (G := G) (K := K) (wt := zTB) (mc := 57) (ms := 17190) (Qf := fun A => va_Qv (fun _ : Nat → Nat => True) (fun u t => zPost G K A [(h0, zO 12 [.int 0, .int 0, .ref (u 0), .int 0, .int 0, .int (-1), .int 0, .int 0, .int 0, .ref (u 1), .ref (u 2), .ref (u 3), .ref (u 4), .int 0, .ref (u 5), .ref (u 6), .ref (u 7), .ref (u 8), .ref (u 9), .ref (u 10), .ref (u 11), .ref (u 12), .ref (u 13), .ref (u 14), .ref (u 15), .ref (u 16), .ref (u 17), .int 0, .ref (u 18), .ref (u 19), .int 0, .ref (u 20), .ref (u 21), .ref (u 22), .ref (u 23), .ref (u 24), .int 0, .ref (u 25), .int 0, .ref (u 26), .ref (u 27), .ref (u 28), .int 0, .ref (u 29), .int 0, .int 0, .int 0, .ref (u 30), .ref (u 31), .ref (u 32), .ref (u 33), .ref (u 34), .ref (u 35), .ref (u 36), .ref (u 37), .ref (u 38), .ref (u 39), .ref (u 40), .ref (u 41), .int 0, .ref (u 42), .int 0, .int 0, .ref (u 43), .int 0, .int 0, .ref (u 44), .int 0, .ref (u 45), .int 0, .ref (u 46), .ref (u 47), .ref (u 48), .ref (u 49), .ref (u 50), .ref (u 51), .ref (u 52), .ref (u 53), .int (-1), .int 0, .ref (u 54), .ref (u 55), .int (-1), .ref (u 56)]), ((u 0), zI K 240 (fun _ => 0)), ((u 1), zI K 8 (fun _ => 0)), ((u 2), zI K 8 (fun _ => 0)), ((u 3), zI K 6 (fun _ => 0)), ((u 4), zI K 2 (fun _ => 0)), ((u 5), zI K 140 (fun _ => 0)), ((u 6), zI K 140 (fun _ => 0)), ((u 7), zI K 140 (fun _ => 0)), ((u 8), zI K 140 (fun _ => 0)), ((u 9), zZ K 140 (fun _ => 0)), ((u 10), zI K 140 (fun _ => 0)), ((u 11), zI K 140 (fun _ => 0)), ((u 12), zI K 140 (fun _ => 0)), ((u 13), zI K 140 (fun _ => 0)), ((u 14), zI K 140 (fun _ => 0)), ((u 15), zI K 140 (fun _ => 0)), ((u 16), zI K 140 (fun _ => 0)), ((u 17), zI K 140 (fun _ => 0)), ((u 18), zI K 48 (fun _ => 0)), ((u 19), zI K 140 (fun _ => 0)), ((u 20), zI K 5 (fun _ => 0)), ((u 21), zI K 5 (fun _ => 0)), ((u 22), zI K 32 (fun _ => 0)), ((u 23), zI K 124 (fun _ => 0)), ((u 24), zJ K 124 (fun _ => 0)), ((u 25), zI K 480 (fun _ => 0)), ((u 26), zI K 8 (fun _ => 0)), ((u 27), zI K 8 (fun _ => 0)), ((u 28), zI K 8 (fun _ => 0)), ((u 29), zI K 240 (fun _ => 0)), ((u 30), zJ K 97 (fun _ => 0)), ((u 31), zI K 98 (fun _ => 0)), ((u 32), zI K 401 (fun _ => 0)), ((u 33), zI K 401 (fun _ => 0)), ((u 34), zI K 401 (fun _ => 0)), ((u 35), zI K 401 (fun _ => 0)), ((u 36), zI K 98 (fun _ => 0)), ((u 37), zI K 401 (fun _ => 0)), ((u 38), zI K 6 (fun _ => 0)), ((u 39), zI K 2 (fun _ => 0)), ((u 40), zI K 6 (fun _ => 0)), ((u 41), zI K 4 (fun _ => 0)), ((u 42), zI K 240 (fun _ => 0)), ((u 43), zI K 240 (fun _ => 0)), ((u 44), zI K 240 (fun _ => 0)), ((u 45), zI K 3 (fun _ => 0)), ((u 46), zI K 8 (fun _ => 0)), ((u 47), zI K 8 (fun _ => 0)), ((u 48), zI K 8 (fun _ => 0)), ((u 49), zI K 8 (fun _ => 0)), ((u 50), zI K 768 (fun _ => 0)), ((u 51), zI K 768 (fun _ => 0)), ((u 52), zZ K 768 (fun _ => 0)), ((u 53), zI K 6144 (fun _ => 0)), ((u 54), zI K 1280 (fun _ => 0)), ((u 55), zI K 1024 (fun _ => 0)), ((u 56), zI K 61 (fun _ => 0))] t) A) (by decide) (Nat.le_of_ble_eq_true rfl) ?_
  intro p e s m below meth c ls A hx hb hr hml hts hown hlocks hin hA hK H locs hw hsz hl
  clear hsz
  have hown : s.vm.findClass "LassoFinderModel" = some m.cls := hown
  have hl : lv_has ls 1 [(0, .ref h0)] := hl
  have hw : zW G A s.heap [(h0, zO 12 [.int 0, .int 0, .null, .int 0, .int 0, .int 0, .int 0, .int 0, .int 0, .null, .null, .null, .null, .int 0, .null, .null, .null, .null, .null, .null, .null, .null, .null, .null, .null, .null, .null, .int 0, .null, .null, .int 0, .null, .null, .null, .null, .null, .int 0, .null, .int 0, .null, .null, .null, .int 0, .null, .int 0, .int 0, .int 0, .null, .null, .null, .null, .null, .null, .null, .null, .null, .null, .null, .null, .int 0, .null, .int 0, .int 0, .null, .int 0, .int 0, .null, .int 0, .null, .int 0, .null, .null, .null, .null, .null, .null, .null, .null, .int 0, .int 0, .null, .null, .int 0, .null])] H locs := hw
  refine lv_aload_n hx hb zd_LassoFinderModel_init_0 rfl (lv_at hl 0 rfl) ?_
  refine z_objInit hx hb hts hown hml hl.1 zc_386 zc_236 zc_237 zd_LassoFinderModel_init_1 (Nat.le_of_ble_eq_true rfl) (Nat.le_of_ble_eq_true rfl) ?_
  refine lv_aload_n hx hb zd_LassoFinderModel_init_4 rfl (lv_at hl 0 rfl) ?_
  refine lv_sipush (v := 240) hx hb zd_LassoFinderModel_init_5 (by decide) ?_
  refine z_newI (N' := 240) hx hb (hts _ zc_238) hK hw hA (by decide) (by decide) (Nat.le_of_ble_eq_true rfl) (Nat.le_of_ble_eq_true rfl) (Nat.le_of_ble_eq_true rfl) zd_LassoFinderModel_init_8 (fun q8 H hw => ?_)
  refine z_putF hx hb hts hown hin hK hw zZ12 0 rfl 2 (by decide) zc_387 rfl rfl rfl rfl (Nat.le_of_ble_eq_true rfl) zd_LassoFinderModel_init_10 (fun H locs hw => ?_)
  refine lv_aload_n hx hb zd_LassoFinderModel_init_13 rfl (lv_at hl 0 rfl) ?_
  refine lv_iconst (v := (-1)) hx hb zd_LassoFinderModel_init_14 (by decide) ?_
  refine z_put hx hb hts hown hK hw zZ12 0 rfl 5 (by decide) zc_388 rfl rfl rfl (Nat.le_of_ble_eq_true rfl) zd_LassoFinderModel_init_15 (fun H locs hw => ?_)
  refine lv_aload_n hx hb zd_LassoFinderModel_init_18 rfl (lv_at hl 0 rfl) ?_
  refine lv_bipush (v := 8) hx hb zd_LassoFinderModel_init_19 (by decide) ?_
  refine z_newI (N' := 8) hx hb (hts _ zc_238) hK hw hA (by decide) (by decide) (Nat.le_of_ble_eq_true rfl) (Nat.le_of_ble_eq_true rfl) (Nat.le_of_ble_eq_true rfl) zd_LassoFinderModel_init_21 (fun q21 H hw => ?_)
  refine z_putF hx hb hts hown hin hK hw zZ12 0 rfl 9 (by decide) zc_389 rfl rfl rfl rfl (Nat.le_of_ble_eq_true rfl) zd_LassoFinderModel_init_23 (fun H locs hw => ?_)
  refine lv_aload_n hx hb zd_LassoFinderModel_init_26 rfl (lv_at hl 0 rfl) ?_
  refine lv_bipush (v := 8) hx hb zd_LassoFinderModel_init_27 (by decide) ?_
  refine z_newI (N' := 8) hx hb (hts _ zc_238) hK hw hA (by decide) (by decide) (Nat.le_of_ble_eq_true rfl) (Nat.le_of_ble_eq_true rfl) (Nat.le_of_ble_eq_true rfl) zd_LassoFinderModel_init_29 (fun q29 H hw => ?_)
  have hw : zW G A s.heap [(h0, zO 12 [.int 0, .int 0, .ref q8, .int 0, .int 0, .int (-1), .int 0, .int 0, .int 0, .ref q21, .null, .null, .null, .int 0, .null, .null, .null, .null, .null, .null, .null, .null, .null, .null, .null, .null, .null, .int 0, .null, .null, .int 0, .null, .null, .null, .null, .null, .int 0, .null, .int 0, .null, .null, .null, .int 0, .null, .int 0, .int 0, .int 0, .null, .null, .null, .null, .null, .null, .null, .null, .null, .null, .null, .null, .int 0, .null, .int 0, .int 0, .null, .int 0, .int 0, .null, .int 0, .null, .int 0, .null, .null, .null, .null, .null, .null, .null, .null, .int 0, .int 0, .null, .null, .int 0, .null]), (q8, zI K 240 (fun _ => 0)), (q21, zI K 8 (fun _ => 0)), (q29, zI K 8 (fun _ => 0))] H locs := hw
  refine z_putF hx hb hts hown hin hK hw zZ12 0 rfl 10 (by decide) zc_390 rfl rfl rfl rfl (Nat.le_of_ble_eq_true rfl) zd_LassoFinderModel_init_31 (fun H locs hw => ?_)
  refine lv_aload_n hx hb zd_LassoFinderModel_init_34 rfl (lv_at hl 0 rfl) ?_
  refine lv_bipush (v := 6) hx hb zd_LassoFinderModel_init_35 (by decide) ?_
  refine z_newI (N' := 6) hx hb (hts _ zc_238) hK hw hA (by decide) (by decide) (Nat.le_of_ble_eq_true rfl) (Nat.le_of_ble_eq_true rfl) (Nat.le_of_ble_eq_true rfl) zd_LassoFinderModel_init_37 (fun q37 H hw => ?_)
  refine z_putF hx hb hts hown hin hK hw zZ12 0 rfl 11 (by decide) zc_391 rfl rfl rfl rfl (Nat.le_of_ble_eq_true rfl) zd_LassoFinderModel_init_39 (fun H locs hw => ?_)
  refine lv_aload_n hx hb zd_LassoFinderModel_init_42 rfl (lv_at hl 0 rfl) ?_
  refine lv_iconst (v := 2) hx hb zd_LassoFinderModel_init_43 (by decide) ?_
  refine z_newI (N' := 2) hx hb (hts _ zc_238) hK hw hA (by decide) (by decide) (Nat.le_of_ble_eq_true rfl) (Nat.le_of_ble_eq_true rfl) (Nat.le_of_ble_eq_true rfl) zd_LassoFinderModel_init_44 (fun q44 H hw => ?_)
  refine z_putF hx hb hts hown hin hK hw zZ12 0 rfl 12 (by decide) zc_392 rfl rfl rfl rfl (Nat.le_of_ble_eq_true rfl) zd_LassoFinderModel_init_46 (fun H locs hw => ?_)
  refine lv_aload_n hx hb zd_LassoFinderModel_init_49 rfl (lv_at hl 0 rfl) ?_
  refine lv_sipush (v := 140) hx hb zd_LassoFinderModel_init_50 (by decide) ?_
  refine z_newI (N' := 140) hx hb (hts _ zc_238) hK hw hA (by decide) (by decide) (Nat.le_of_ble_eq_true rfl) (Nat.le_of_ble_eq_true rfl) (Nat.le_of_ble_eq_true rfl) zd_LassoFinderModel_init_53 (fun q53 H hw => ?_)
  have hw : zW G A s.heap [(h0, zO 12 [.int 0, .int 0, .ref q8, .int 0, .int 0, .int (-1), .int 0, .int 0, .int 0, .ref q21, .ref q29, .ref q37, .ref q44, .int 0, .null, .null, .null, .null, .null, .null, .null, .null, .null, .null, .null, .null, .null, .int 0, .null, .null, .int 0, .null, .null, .null, .null, .null, .int 0, .null, .int 0, .null, .null, .null, .int 0, .null, .int 0, .int 0, .int 0, .null, .null, .null, .null, .null, .null, .null, .null, .null, .null, .null, .null, .int 0, .null, .int 0, .int 0, .null, .int 0, .int 0, .null, .int 0, .null, .int 0, .null, .null, .null, .null, .null, .null, .null, .null, .int 0, .int 0, .null, .null, .int 0, .null]), (q8, zI K 240 (fun _ => 0)), (q21, zI K 8 (fun _ => 0)), (q29, zI K 8 (fun _ => 0)), (q37, zI K 6 (fun _ => 0)), (q44, zI K 2 (fun _ => 0)), (q53, zI K 140 (fun _ => 0))] H locs := hw
  refine z_putF hx hb hts hown hin hK hw zZ12 0 rfl 14 (by decide) zc_393 rfl rfl rfl rfl (Nat.le_of_ble_eq_true rfl) zd_LassoFinderModel_init_55 (fun H locs hw => ?_)
  refine lv_aload_n hx hb zd_LassoFinderModel_init_58 rfl (lv_at hl 0 rfl) ?_
  refine lv_sipush (v := 140) hx hb zd_LassoFinderModel_init_59 (by decide) ?_
  refine z_newI (N' := 140) hx hb (hts _ zc_238) hK hw hA (by decide) (by decide) (Nat.le_of_ble_eq_true rfl) (Nat.le_of_ble_eq_true rfl) (Nat.le_of_ble_eq_true rfl) zd_LassoFinderModel_init_62 (fun q62 H hw => ?_)
  refine z_putF hx hb hts hown hin hK hw zZ12 0 rfl 15 (by decide) zc_394 rfl rfl rfl rfl (Nat.le_of_ble_eq_true rfl) zd_LassoFinderModel_init_64 (fun H locs hw => ?_)
  refine lv_aload_n hx hb zd_LassoFinderModel_init_67 rfl (lv_at hl 0 rfl) ?_
  refine lv_sipush (v := 140) hx hb zd_LassoFinderModel_init_68 (by decide) ?_
  refine z_newI (N' := 140) hx hb (hts _ zc_238) hK hw hA (by decide) (by decide) (Nat.le_of_ble_eq_true rfl) (Nat.le_of_ble_eq_true rfl) (Nat.le_of_ble_eq_true rfl) zd_LassoFinderModel_init_71 (fun q71 H hw => ?_)
  refine z_putF hx hb hts hown hin hK hw zZ12 0 rfl 16 (by decide) zc_395 rfl rfl rfl rfl (Nat.le_of_ble_eq_true rfl) zd_LassoFinderModel_init_73 (fun H locs hw => ?_)
  refine lv_aload_n hx hb zd_LassoFinderModel_init_76 rfl (lv_at hl 0 rfl) ?_
  refine lv_sipush (v := 140) hx hb zd_LassoFinderModel_init_77 (by decide) ?_
  refine z_newI (N' := 140) hx hb (hts _ zc_238) hK hw hA (by decide) (by decide) (Nat.le_of_ble_eq_true rfl) (Nat.le_of_ble_eq_true rfl) (Nat.le_of_ble_eq_true rfl) zd_LassoFinderModel_init_80 (fun q80 H hw => ?_)
  have hw : zW G A s.heap [(h0, zO 12 [.int 0, .int 0, .ref q8, .int 0, .int 0, .int (-1), .int 0, .int 0, .int 0, .ref q21, .ref q29, .ref q37, .ref q44, .int 0, .ref q53, .ref q62, .ref q71, .null, .null, .null, .null, .null, .null, .null, .null, .null, .null, .int 0, .null, .null, .int 0, .null, .null, .null, .null, .null, .int 0, .null, .int 0, .null, .null, .null, .int 0, .null, .int 0, .int 0, .int 0, .null, .null, .null, .null, .null, .null, .null, .null, .null, .null, .null, .null, .int 0, .null, .int 0, .int 0, .null, .int 0, .int 0, .null, .int 0, .null, .int 0, .null, .null, .null, .null, .null, .null, .null, .null, .int 0, .int 0, .null, .null, .int 0, .null]), (q8, zI K 240 (fun _ => 0)), (q21, zI K 8 (fun _ => 0)), (q29, zI K 8 (fun _ => 0)), (q37, zI K 6 (fun _ => 0)), (q44, zI K 2 (fun _ => 0)), (q53, zI K 140 (fun _ => 0)), (q62, zI K 140 (fun _ => 0)), (q71, zI K 140 (fun _ => 0)), (q80, zI K 140 (fun _ => 0))] H locs := hw
  refine z_putF hx hb hts hown hin hK hw zZ12 0 rfl 17 (by decide) zc_396 rfl rfl rfl rfl (Nat.le_of_ble_eq_true rfl) zd_LassoFinderModel_init_82 (fun H locs hw => ?_)
  refine lv_aload_n hx hb zd_LassoFinderModel_init_85 rfl (lv_at hl 0 rfl) ?_
  refine lv_sipush (v := 140) hx hb zd_LassoFinderModel_init_86 (by decide) ?_
  refine z_newZ (N' := 140) hx hb (hts _ zc_240) hK hw hA (by decide) (by decide) (Nat.le_of_ble_eq_true rfl) (Nat.le_of_ble_eq_true rfl) (Nat.le_of_ble_eq_true rfl) zd_LassoFinderModel_init_89 (fun q89 H hw => ?_)
  refine z_putF hx hb hts hown hin hK hw zZ12 0 rfl 18 (by decide) zc_397 rfl rfl rfl rfl (Nat.le_of_ble_eq_true rfl) zd_LassoFinderModel_init_91 (fun H locs hw => ?_)
  refine lv_aload_n hx hb zd_LassoFinderModel_init_94 rfl (lv_at hl 0 rfl) ?_
  refine lv_sipush (v := 140) hx hb zd_LassoFinderModel_init_95 (by decide) ?_
  refine z_newI (N' := 140) hx hb (hts _ zc_238) hK hw hA (by decide) (by decide) (Nat.le_of_ble_eq_true rfl) (Nat.le_of_ble_eq_true rfl) (Nat.le_of_ble_eq_true rfl) zd_LassoFinderModel_init_98 (fun q98 H hw => ?_)
  refine z_putF hx hb hts hown hin hK hw zZ12 0 rfl 19 (by decide) zc_398 rfl rfl rfl rfl (Nat.le_of_ble_eq_true rfl) zd_LassoFinderModel_init_100 (fun H locs hw => ?_)
  refine lv_aload_n hx hb zd_LassoFinderModel_init_103 rfl (lv_at hl 0 rfl) ?_
  refine lv_sipush (v := 140) hx hb zd_LassoFinderModel_init_104 (by decide) ?_
  refine z_newI (N' := 140) hx hb (hts _ zc_238) hK hw hA (by decide) (by decide) (Nat.le_of_ble_eq_true rfl) (Nat.le_of_ble_eq_true rfl) (Nat.le_of_ble_eq_true rfl) zd_LassoFinderModel_init_107 (fun q107 H hw => ?_)
  have hw : zW G A s.heap [(h0, zO 12 [.int 0, .int 0, .ref q8, .int 0, .int 0, .int (-1), .int 0, .int 0, .int 0, .ref q21, .ref q29, .ref q37, .ref q44, .int 0, .ref q53, .ref q62, .ref q71, .ref q80, .ref q89, .ref q98, .null, .null, .null, .null, .null, .null, .null, .int 0, .null, .null, .int 0, .null, .null, .null, .null, .null, .int 0, .null, .int 0, .null, .null, .null, .int 0, .null, .int 0, .int 0, .int 0, .null, .null, .null, .null, .null, .null, .null, .null, .null, .null, .null, .null, .int 0, .null, .int 0, .int 0, .null, .int 0, .int 0, .null, .int 0, .null, .int 0, .null, .null, .null, .null, .null, .null, .null, .null, .int 0, .int 0, .null, .null, .int 0, .null]), (q8, zI K 240 (fun _ => 0)), (q21, zI K 8 (fun _ => 0)), (q29, zI K 8 (fun _ => 0)), (q37, zI K 6 (fun _ => 0)), (q44, zI K 2 (fun _ => 0)), (q53, zI K 140 (fun _ => 0)), (q62, zI K 140 (fun _ => 0)), (q71, zI K 140 (fun _ => 0)), (q80, zI K 140 (fun _ => 0)), (q89, zZ K 140 (fun _ => 0)), (q98, zI K 140 (fun _ => 0)), (q107, zI K 140 (fun _ => 0))] H locs := hw
  refine z_putF hx hb hts hown hin hK hw zZ12 0 rfl 20 (by decide) zc_399 rfl rfl rfl rfl (Nat.le_of_ble_eq_true rfl) zd_LassoFinderModel_init_109 (fun H locs hw => ?_)
  refine lv_aload_n hx hb zd_LassoFinderModel_init_112 rfl (lv_at hl 0 rfl) ?_
  refine lv_sipush (v := 140) hx hb zd_LassoFinderModel_init_113 (by decide) ?_
  refine z_newI (N' := 140) hx hb (hts _ zc_238) hK hw hA (by decide) (by decide) (Nat.le_of_ble_eq_true rfl) (Nat.le_of_ble_eq_true rfl) (Nat.le_of_ble_eq_true rfl) zd_LassoFinderModel_init_116 (fun q116 H hw => ?_)
  refine z_putF hx hb hts hown hin hK hw zZ12 0 rfl 21 (by decide) zc_400 rfl rfl rfl rfl (Nat.le_of_ble_eq_true rfl) zd_LassoFinderModel_init_118 (fun H locs hw => ?_)
  refine lv_aload_n hx hb zd_LassoFinderModel_init_121 rfl (lv_at hl 0 rfl) ?_
  refine lv_sipush (v := 140) hx hb zd_LassoFinderModel_init_122 (by decide) ?_
  refine z_newI (N' := 140) hx hb (hts _ zc_238) hK hw hA (by decide) (by decide) (Nat.le_of_ble_eq_true rfl) (Nat.le_of_ble_eq_true rfl) (Nat.le_of_ble_eq_true rfl) zd_LassoFinderModel_init_125 (fun q125 H hw => ?_)
  refine z_putF hx hb hts hown hin hK hw zZ12 0 rfl 22 (by decide) zc_401 rfl rfl rfl rfl (Nat.le_of_ble_eq_true rfl) zd_LassoFinderModel_init_127 (fun H locs hw => ?_)
  refine lv_aload_n hx hb zd_LassoFinderModel_init_130 rfl (lv_at hl 0 rfl) ?_
  refine lv_sipush (v := 140) hx hb zd_LassoFinderModel_init_131 (by decide) ?_
  refine z_newI (N' := 140) hx hb (hts _ zc_238) hK hw hA (by decide) (by decide) (Nat.le_of_ble_eq_true rfl) (Nat.le_of_ble_eq_true rfl) (Nat.le_of_ble_eq_true rfl) zd_LassoFinderModel_init_134 (fun q134 H hw => ?_)
  have hw : zW G A s.heap [(h0, zO 12 [.int 0, .int 0, .ref q8, .int 0, .int 0, .int (-1), .int 0, .int 0, .int 0, .ref q21, .ref q29, .ref q37, .ref q44, .int 0, .ref q53, .ref q62, .ref q71, .ref q80, .ref q89, .ref q98, .ref q107, .ref q116, .ref q125, .null, .null, .null, .null, .int 0, .null, .null, .int 0, .null, .null, .null, .null, .null, .int 0, .null, .int 0, .null, .null, .null, .int 0, .null, .int 0, .int 0, .int 0, .null, .null, .null, .null, .null, .null, .null, .null, .null, .null, .null, .null, .int 0, .null, .int 0, .int 0, .null, .int 0, .int 0, .null, .int 0, .null, .int 0, .null, .null, .null, .null, .null, .null, .null, .null, .int 0, .int 0, .null, .null, .int 0, .null]), (q8, zI K 240 (fun _ => 0)), (q21, zI K 8 (fun _ => 0)), (q29, zI K 8 (fun _ => 0)), (q37, zI K 6 (fun _ => 0)), (q44, zI K 2 (fun _ => 0)), (q53, zI K 140 (fun _ => 0)), (q62, zI K 140 (fun _ => 0)), (q71, zI K 140 (fun _ => 0)), (q80, zI K 140 (fun _ => 0)), (q89, zZ K 140 (fun _ => 0)), (q98, zI K 140 (fun _ => 0)), (q107, zI K 140 (fun _ => 0)), (q116, zI K 140 (fun _ => 0)), (q125, zI K 140 (fun _ => 0)), (q134, zI K 140 (fun _ => 0))] H locs := hw
  refine z_putF hx hb hts hown hin hK hw zZ12 0 rfl 23 (by decide) zc_402 rfl rfl rfl rfl (Nat.le_of_ble_eq_true rfl) zd_LassoFinderModel_init_136 (fun H locs hw => ?_)
  refine lv_aload_n hx hb zd_LassoFinderModel_init_139 rfl (lv_at hl 0 rfl) ?_
  refine lv_sipush (v := 140) hx hb zd_LassoFinderModel_init_140 (by decide) ?_
  refine z_newI (N' := 140) hx hb (hts _ zc_238) hK hw hA (by decide) (by decide) (Nat.le_of_ble_eq_true rfl) (Nat.le_of_ble_eq_true rfl) (Nat.le_of_ble_eq_true rfl) zd_LassoFinderModel_init_143 (fun q143 H hw => ?_)
  refine z_putF hx hb hts hown hin hK hw zZ12 0 rfl 24 (by decide) zc_403 rfl rfl rfl rfl (Nat.le_of_ble_eq_true rfl) zd_LassoFinderModel_init_145 (fun H locs hw => ?_)
  refine lv_aload_n hx hb zd_LassoFinderModel_init_148 rfl (lv_at hl 0 rfl) ?_
  refine lv_sipush (v := 140) hx hb zd_LassoFinderModel_init_149 (by decide) ?_
  refine z_newI (N' := 140) hx hb (hts _ zc_238) hK hw hA (by decide) (by decide) (Nat.le_of_ble_eq_true rfl) (Nat.le_of_ble_eq_true rfl) (Nat.le_of_ble_eq_true rfl) zd_LassoFinderModel_init_152 (fun q152 H hw => ?_)
  refine z_putF hx hb hts hown hin hK hw zZ12 0 rfl 25 (by decide) zc_404 rfl rfl rfl rfl (Nat.le_of_ble_eq_true rfl) zd_LassoFinderModel_init_154 (fun H locs hw => ?_)
  refine lv_aload_n hx hb zd_LassoFinderModel_init_157 rfl (lv_at hl 0 rfl) ?_
  refine lv_sipush (v := 140) hx hb zd_LassoFinderModel_init_158 (by decide) ?_
  refine z_newI (N' := 140) hx hb (hts _ zc_238) hK hw hA (by decide) (by decide) (Nat.le_of_ble_eq_true rfl) (Nat.le_of_ble_eq_true rfl) (Nat.le_of_ble_eq_true rfl) zd_LassoFinderModel_init_161 (fun q161 H hw => ?_)
  have hw : zW G A s.heap [(h0, zO 12 [.int 0, .int 0, .ref q8, .int 0, .int 0, .int (-1), .int 0, .int 0, .int 0, .ref q21, .ref q29, .ref q37, .ref q44, .int 0, .ref q53, .ref q62, .ref q71, .ref q80, .ref q89, .ref q98, .ref q107, .ref q116, .ref q125, .ref q134, .ref q143, .ref q152, .null, .int 0, .null, .null, .int 0, .null, .null, .null, .null, .null, .int 0, .null, .int 0, .null, .null, .null, .int 0, .null, .int 0, .int 0, .int 0, .null, .null, .null, .null, .null, .null, .null, .null, .null, .null, .null, .null, .int 0, .null, .int 0, .int 0, .null, .int 0, .int 0, .null, .int 0, .null, .int 0, .null, .null, .null, .null, .null, .null, .null, .null, .int 0, .int 0, .null, .null, .int 0, .null]), (q8, zI K 240 (fun _ => 0)), (q21, zI K 8 (fun _ => 0)), (q29, zI K 8 (fun _ => 0)), (q37, zI K 6 (fun _ => 0)), (q44, zI K 2 (fun _ => 0)), (q53, zI K 140 (fun _ => 0)), (q62, zI K 140 (fun _ => 0)), (q71, zI K 140 (fun _ => 0)), (q80, zI K 140 (fun _ => 0)), (q89, zZ K 140 (fun _ => 0)), (q98, zI K 140 (fun _ => 0)), (q107, zI K 140 (fun _ => 0)), (q116, zI K 140 (fun _ => 0)), (q125, zI K 140 (fun _ => 0)), (q134, zI K 140 (fun _ => 0)), (q143, zI K 140 (fun _ => 0)), (q152, zI K 140 (fun _ => 0)), (q161, zI K 140 (fun _ => 0))] H locs := hw
  refine z_putF hx hb hts hown hin hK hw zZ12 0 rfl 26 (by decide) zc_405 rfl rfl rfl rfl (Nat.le_of_ble_eq_true rfl) zd_LassoFinderModel_init_163 (fun H locs hw => ?_)
  refine lv_aload_n hx hb zd_LassoFinderModel_init_166 rfl (lv_at hl 0 rfl) ?_
  refine lv_bipush (v := 48) hx hb zd_LassoFinderModel_init_167 (by decide) ?_
  refine z_newI (N' := 48) hx hb (hts _ zc_238) hK hw hA (by decide) (by decide) (Nat.le_of_ble_eq_true rfl) (Nat.le_of_ble_eq_true rfl) (Nat.le_of_ble_eq_true rfl) zd_LassoFinderModel_init_169 (fun q169 H hw => ?_)
  refine z_putF hx hb hts hown hin hK hw zZ12 0 rfl 28 (by decide) zc_406 rfl rfl rfl rfl (Nat.le_of_ble_eq_true rfl) zd_LassoFinderModel_init_171 (fun H locs hw => ?_)
  refine lv_aload_n hx hb zd_LassoFinderModel_init_174 rfl (lv_at hl 0 rfl) ?_
  refine lv_sipush (v := 140) hx hb zd_LassoFinderModel_init_175 (by decide) ?_
  refine z_newI (N' := 140) hx hb (hts _ zc_238) hK hw hA (by decide) (by decide) (Nat.le_of_ble_eq_true rfl) (Nat.le_of_ble_eq_true rfl) (Nat.le_of_ble_eq_true rfl) zd_LassoFinderModel_init_178 (fun q178 H hw => ?_)
  refine z_putF hx hb hts hown hin hK hw zZ12 0 rfl 29 (by decide) zc_407 rfl rfl rfl rfl (Nat.le_of_ble_eq_true rfl) zd_LassoFinderModel_init_180 (fun H locs hw => ?_)
  refine lv_aload_n hx hb zd_LassoFinderModel_init_183 rfl (lv_at hl 0 rfl) ?_
  refine lv_iconst (v := 5) hx hb zd_LassoFinderModel_init_184 (by decide) ?_
  refine z_newI (N' := 5) hx hb (hts _ zc_238) hK hw hA (by decide) (by decide) (Nat.le_of_ble_eq_true rfl) (Nat.le_of_ble_eq_true rfl) (Nat.le_of_ble_eq_true rfl) zd_LassoFinderModel_init_185 (fun q185 H hw => ?_)
  have hw : zW G A s.heap [(h0, zO 12 [.int 0, .int 0, .ref q8, .int 0, .int 0, .int (-1), .int 0, .int 0, .int 0, .ref q21, .ref q29, .ref q37, .ref q44, .int 0, .ref q53, .ref q62, .ref q71, .ref q80, .ref q89, .ref q98, .ref q107, .ref q116, .ref q125, .ref q134, .ref q143, .ref q152, .ref q161, .int 0, .ref q169, .ref q178, .int 0, .null, .null, .null, .null, .null, .int 0, .null, .int 0, .null, .null, .null, .int 0, .null, .int 0, .int 0, .int 0, .null, .null, .null, .null, .null, .null, .null, .null, .null, .null, .null, .null, .int 0, .null, .int 0, .int 0, .null, .int 0, .int 0, .null, .int 0, .null, .int 0, .null, .null, .null, .null, .null, .null, .null, .null, .int 0, .int 0, .null, .null, .int 0, .null]), (q8, zI K 240 (fun _ => 0)), (q21, zI K 8 (fun _ => 0)), (q29, zI K 8 (fun _ => 0)), (q37, zI K 6 (fun _ => 0)), (q44, zI K 2 (fun _ => 0)), (q53, zI K 140 (fun _ => 0)), (q62, zI K 140 (fun _ => 0)), (q71, zI K 140 (fun _ => 0)), (q80, zI K 140 (fun _ => 0)), (q89, zZ K 140 (fun _ => 0)), (q98, zI K 140 (fun _ => 0)), (q107, zI K 140 (fun _ => 0)), (q116, zI K 140 (fun _ => 0)), (q125, zI K 140 (fun _ => 0)), (q134, zI K 140 (fun _ => 0)), (q143, zI K 140 (fun _ => 0)), (q152, zI K 140 (fun _ => 0)), (q161, zI K 140 (fun _ => 0)), (q169, zI K 48 (fun _ => 0)), (q178, zI K 140 (fun _ => 0)), (q185, zI K 5 (fun _ => 0))] H locs := hw
  refine z_putF hx hb hts hown hin hK hw zZ12 0 rfl 31 (by decide) zc_408 rfl rfl rfl rfl (Nat.le_of_ble_eq_true rfl) zd_LassoFinderModel_init_187 (fun H locs hw => ?_)
  refine lv_aload_n hx hb zd_LassoFinderModel_init_190 rfl (lv_at hl 0 rfl) ?_
  refine lv_iconst (v := 5) hx hb zd_LassoFinderModel_init_191 (by decide) ?_
  refine z_newI (N' := 5) hx hb (hts _ zc_238) hK hw hA (by decide) (by decide) (Nat.le_of_ble_eq_true rfl) (Nat.le_of_ble_eq_true rfl) (Nat.le_of_ble_eq_true rfl) zd_LassoFinderModel_init_192 (fun q192 H hw => ?_)
  refine z_putF hx hb hts hown hin hK hw zZ12 0 rfl 32 (by decide) zc_409 rfl rfl rfl rfl (Nat.le_of_ble_eq_true rfl) zd_LassoFinderModel_init_194 (fun H locs hw => ?_)
  refine lv_aload_n hx hb zd_LassoFinderModel_init_197 rfl (lv_at hl 0 rfl) ?_
  refine lv_bipush (v := 32) hx hb zd_LassoFinderModel_init_198 (by decide) ?_
  refine z_newI (N' := 32) hx hb (hts _ zc_238) hK hw hA (by decide) (by decide) (Nat.le_of_ble_eq_true rfl) (Nat.le_of_ble_eq_true rfl) (Nat.le_of_ble_eq_true rfl) zd_LassoFinderModel_init_200 (fun q200 H hw => ?_)
  refine z_putF hx hb hts hown hin hK hw zZ12 0 rfl 33 (by decide) zc_410 rfl rfl rfl rfl (Nat.le_of_ble_eq_true rfl) zd_LassoFinderModel_init_202 (fun H locs hw => ?_)
  refine lv_aload_n hx hb zd_LassoFinderModel_init_205 rfl (lv_at hl 0 rfl) ?_
  refine lv_bipush (v := 124) hx hb zd_LassoFinderModel_init_206 (by decide) ?_
  refine z_newI (N' := 124) hx hb (hts _ zc_238) hK hw hA (by decide) (by decide) (Nat.le_of_ble_eq_true rfl) (Nat.le_of_ble_eq_true rfl) (Nat.le_of_ble_eq_true rfl) zd_LassoFinderModel_init_208 (fun q208 H hw => ?_)
  have hw : zW G A s.heap [(h0, zO 12 [.int 0, .int 0, .ref q8, .int 0, .int 0, .int (-1), .int 0, .int 0, .int 0, .ref q21, .ref q29, .ref q37, .ref q44, .int 0, .ref q53, .ref q62, .ref q71, .ref q80, .ref q89, .ref q98, .ref q107, .ref q116, .ref q125, .ref q134, .ref q143, .ref q152, .ref q161, .int 0, .ref q169, .ref q178, .int 0, .ref q185, .ref q192, .ref q200, .null, .null, .int 0, .null, .int 0, .null, .null, .null, .int 0, .null, .int 0, .int 0, .int 0, .null, .null, .null, .null, .null, .null, .null, .null, .null, .null, .null, .null, .int 0, .null, .int 0, .int 0, .null, .int 0, .int 0, .null, .int 0, .null, .int 0, .null, .null, .null, .null, .null, .null, .null, .null, .int 0, .int 0, .null, .null, .int 0, .null]), (q8, zI K 240 (fun _ => 0)), (q21, zI K 8 (fun _ => 0)), (q29, zI K 8 (fun _ => 0)), (q37, zI K 6 (fun _ => 0)), (q44, zI K 2 (fun _ => 0)), (q53, zI K 140 (fun _ => 0)), (q62, zI K 140 (fun _ => 0)), (q71, zI K 140 (fun _ => 0)), (q80, zI K 140 (fun _ => 0)), (q89, zZ K 140 (fun _ => 0)), (q98, zI K 140 (fun _ => 0)), (q107, zI K 140 (fun _ => 0)), (q116, zI K 140 (fun _ => 0)), (q125, zI K 140 (fun _ => 0)), (q134, zI K 140 (fun _ => 0)), (q143, zI K 140 (fun _ => 0)), (q152, zI K 140 (fun _ => 0)), (q161, zI K 140 (fun _ => 0)), (q169, zI K 48 (fun _ => 0)), (q178, zI K 140 (fun _ => 0)), (q185, zI K 5 (fun _ => 0)), (q192, zI K 5 (fun _ => 0)), (q200, zI K 32 (fun _ => 0)), (q208, zI K 124 (fun _ => 0))] H locs := hw
  refine z_putF hx hb hts hown hin hK hw zZ12 0 rfl 34 (by decide) zc_411 rfl rfl rfl rfl (Nat.le_of_ble_eq_true rfl) zd_LassoFinderModel_init_210 (fun H locs hw => ?_)
  refine lv_aload_n hx hb zd_LassoFinderModel_init_213 rfl (lv_at hl 0 rfl) ?_
  refine lv_bipush (v := 124) hx hb zd_LassoFinderModel_init_214 (by decide) ?_
  refine z_newJ (N' := 124) hx hb (hts _ zc_239) hK hw hA (by decide) (by decide) (Nat.le_of_ble_eq_true rfl) (Nat.le_of_ble_eq_true rfl) (Nat.le_of_ble_eq_true rfl) zd_LassoFinderModel_init_216 (fun q216 H hw => ?_)
  refine z_putF hx hb hts hown hin hK hw zZ12 0 rfl 35 (by decide) zc_412 rfl rfl rfl rfl (Nat.le_of_ble_eq_true rfl) zd_LassoFinderModel_init_218 (fun H locs hw => ?_)
  refine lv_aload_n hx hb zd_LassoFinderModel_init_221 rfl (lv_at hl 0 rfl) ?_
  refine lv_sipush (v := 480) hx hb zd_LassoFinderModel_init_222 (by decide) ?_
  refine z_newI (N' := 480) hx hb (hts _ zc_238) hK hw hA (by decide) (by decide) (Nat.le_of_ble_eq_true rfl) (Nat.le_of_ble_eq_true rfl) (Nat.le_of_ble_eq_true rfl) zd_LassoFinderModel_init_225 (fun q225 H hw => ?_)
  refine z_putF hx hb hts hown hin hK hw zZ12 0 rfl 37 (by decide) zc_413 rfl rfl rfl rfl (Nat.le_of_ble_eq_true rfl) zd_LassoFinderModel_init_227 (fun H locs hw => ?_)
  refine lv_aload_n hx hb zd_LassoFinderModel_init_230 rfl (lv_at hl 0 rfl) ?_
  refine lv_bipush (v := 8) hx hb zd_LassoFinderModel_init_231 (by decide) ?_
  refine z_newI (N' := 8) hx hb (hts _ zc_238) hK hw hA (by decide) (by decide) (Nat.le_of_ble_eq_true rfl) (Nat.le_of_ble_eq_true rfl) (Nat.le_of_ble_eq_true rfl) zd_LassoFinderModel_init_233 (fun q233 H hw => ?_)
  have hw : zW G A s.heap [(h0, zO 12 [.int 0, .int 0, .ref q8, .int 0, .int 0, .int (-1), .int 0, .int 0, .int 0, .ref q21, .ref q29, .ref q37, .ref q44, .int 0, .ref q53, .ref q62, .ref q71, .ref q80, .ref q89, .ref q98, .ref q107, .ref q116, .ref q125, .ref q134, .ref q143, .ref q152, .ref q161, .int 0, .ref q169, .ref q178, .int 0, .ref q185, .ref q192, .ref q200, .ref q208, .ref q216, .int 0, .ref q225, .int 0, .null, .null, .null, .int 0, .null, .int 0, .int 0, .int 0, .null, .null, .null, .null, .null, .null, .null, .null, .null, .null, .null, .null, .int 0, .null, .int 0, .int 0, .null, .int 0, .int 0, .null, .int 0, .null, .int 0, .null, .null, .null, .null, .null, .null, .null, .null, .int 0, .int 0, .null, .null, .int 0, .null]), (q8, zI K 240 (fun _ => 0)), (q21, zI K 8 (fun _ => 0)), (q29, zI K 8 (fun _ => 0)), (q37, zI K 6 (fun _ => 0)), (q44, zI K 2 (fun _ => 0)), (q53, zI K 140 (fun _ => 0)), (q62, zI K 140 (fun _ => 0)), (q71, zI K 140 (fun _ => 0)), (q80, zI K 140 (fun _ => 0)), (q89, zZ K 140 (fun _ => 0)), (q98, zI K 140 (fun _ => 0)), (q107, zI K 140 (fun _ => 0)), (q116, zI K 140 (fun _ => 0)), (q125, zI K 140 (fun _ => 0)), (q134, zI K 140 (fun _ => 0)), (q143, zI K 140 (fun _ => 0)), (q152, zI K 140 (fun _ => 0)), (q161, zI K 140 (fun _ => 0)), (q169, zI K 48 (fun _ => 0)), (q178, zI K 140 (fun _ => 0)), (q185, zI K 5 (fun _ => 0)), (q192, zI K 5 (fun _ => 0)), (q200, zI K 32 (fun _ => 0)), (q208, zI K 124 (fun _ => 0)), (q216, zJ K 124 (fun _ => 0)), (q225, zI K 480 (fun _ => 0)), (q233, zI K 8 (fun _ => 0))] H locs := hw
  refine z_putF hx hb hts hown hin hK hw zZ12 0 rfl 39 (by decide) zc_414 rfl rfl rfl rfl (Nat.le_of_ble_eq_true rfl) zd_LassoFinderModel_init_235 (fun H locs hw => ?_)
  refine lv_aload_n hx hb zd_LassoFinderModel_init_238 rfl (lv_at hl 0 rfl) ?_
  refine lv_bipush (v := 8) hx hb zd_LassoFinderModel_init_239 (by decide) ?_
  refine z_newI (N' := 8) hx hb (hts _ zc_238) hK hw hA (by decide) (by decide) (Nat.le_of_ble_eq_true rfl) (Nat.le_of_ble_eq_true rfl) (Nat.le_of_ble_eq_true rfl) zd_LassoFinderModel_init_241 (fun q241 H hw => ?_)
  refine z_putF hx hb hts hown hin hK hw zZ12 0 rfl 40 (by decide) zc_415 rfl rfl rfl rfl (Nat.le_of_ble_eq_true rfl) zd_LassoFinderModel_init_243 (fun H locs hw => ?_)
  refine lv_aload_n hx hb zd_LassoFinderModel_init_246 rfl (lv_at hl 0 rfl) ?_
  refine lv_bipush (v := 8) hx hb zd_LassoFinderModel_init_247 (by decide) ?_
  refine z_newI (N' := 8) hx hb (hts _ zc_238) hK hw hA (by decide) (by decide) (Nat.le_of_ble_eq_true rfl) (Nat.le_of_ble_eq_true rfl) (Nat.le_of_ble_eq_true rfl) zd_LassoFinderModel_init_249 (fun q249 H hw => ?_)
  refine z_putF hx hb hts hown hin hK hw zZ12 0 rfl 41 (by decide) zc_416 rfl rfl rfl rfl (Nat.le_of_ble_eq_true rfl) zd_LassoFinderModel_init_251 (fun H locs hw => ?_)
  refine lv_aload_n hx hb zd_LassoFinderModel_init_254 rfl (lv_at hl 0 rfl) ?_
  refine lv_sipush (v := 240) hx hb zd_LassoFinderModel_init_255 (by decide) ?_
  refine z_newI (N' := 240) hx hb (hts _ zc_238) hK hw hA (by decide) (by decide) (Nat.le_of_ble_eq_true rfl) (Nat.le_of_ble_eq_true rfl) (Nat.le_of_ble_eq_true rfl) zd_LassoFinderModel_init_258 (fun q258 H hw => ?_)
  have hw : zW G A s.heap [(h0, zO 12 [.int 0, .int 0, .ref q8, .int 0, .int 0, .int (-1), .int 0, .int 0, .int 0, .ref q21, .ref q29, .ref q37, .ref q44, .int 0, .ref q53, .ref q62, .ref q71, .ref q80, .ref q89, .ref q98, .ref q107, .ref q116, .ref q125, .ref q134, .ref q143, .ref q152, .ref q161, .int 0, .ref q169, .ref q178, .int 0, .ref q185, .ref q192, .ref q200, .ref q208, .ref q216, .int 0, .ref q225, .int 0, .ref q233, .ref q241, .ref q249, .int 0, .null, .int 0, .int 0, .int 0, .null, .null, .null, .null, .null, .null, .null, .null, .null, .null, .null, .null, .int 0, .null, .int 0, .int 0, .null, .int 0, .int 0, .null, .int 0, .null, .int 0, .null, .null, .null, .null, .null, .null, .null, .null, .int 0, .int 0, .null, .null, .int 0, .null]), (q8, zI K 240 (fun _ => 0)), (q21, zI K 8 (fun _ => 0)), (q29, zI K 8 (fun _ => 0)), (q37, zI K 6 (fun _ => 0)), (q44, zI K 2 (fun _ => 0)), (q53, zI K 140 (fun _ => 0)), (q62, zI K 140 (fun _ => 0)), (q71, zI K 140 (fun _ => 0)), (q80, zI K 140 (fun _ => 0)), (q89, zZ K 140 (fun _ => 0)), (q98, zI K 140 (fun _ => 0)), (q107, zI K 140 (fun _ => 0)), (q116, zI K 140 (fun _ => 0)), (q125, zI K 140 (fun _ => 0)), (q134, zI K 140 (fun _ => 0)), (q143, zI K 140 (fun _ => 0)), (q152, zI K 140 (fun _ => 0)), (q161, zI K 140 (fun _ => 0)), (q169, zI K 48 (fun _ => 0)), (q178, zI K 140 (fun _ => 0)), (q185, zI K 5 (fun _ => 0)), (q192, zI K 5 (fun _ => 0)), (q200, zI K 32 (fun _ => 0)), (q208, zI K 124 (fun _ => 0)), (q216, zJ K 124 (fun _ => 0)), (q225, zI K 480 (fun _ => 0)), (q233, zI K 8 (fun _ => 0)), (q241, zI K 8 (fun _ => 0)), (q249, zI K 8 (fun _ => 0)), (q258, zI K 240 (fun _ => 0))] H locs := hw
  refine z_putF hx hb hts hown hin hK hw zZ12 0 rfl 43 (by decide) zc_417 rfl rfl rfl rfl (Nat.le_of_ble_eq_true rfl) zd_LassoFinderModel_init_260 (fun H locs hw => ?_)
  refine lv_aload_n hx hb zd_LassoFinderModel_init_263 rfl (lv_at hl 0 rfl) ?_
  refine lv_bipush (v := 97) hx hb zd_LassoFinderModel_init_264 (by decide) ?_
  refine z_newJ (N' := 97) hx hb (hts _ zc_239) hK hw hA (by decide) (by decide) (Nat.le_of_ble_eq_true rfl) (Nat.le_of_ble_eq_true rfl) (Nat.le_of_ble_eq_true rfl) zd_LassoFinderModel_init_266 (fun q266 H hw => ?_)
  refine z_putF hx hb hts hown hin hK hw zZ12 0 rfl 47 (by decide) zc_418 rfl rfl rfl rfl (Nat.le_of_ble_eq_true rfl) zd_LassoFinderModel_init_268 (fun H locs hw => ?_)
  refine lv_aload_n hx hb zd_LassoFinderModel_init_271 rfl (lv_at hl 0 rfl) ?_
  refine lv_bipush (v := 98) hx hb zd_LassoFinderModel_init_272 (by decide) ?_
  refine z_newI (N' := 98) hx hb (hts _ zc_238) hK hw hA (by decide) (by decide) (Nat.le_of_ble_eq_true rfl) (Nat.le_of_ble_eq_true rfl) (Nat.le_of_ble_eq_true rfl) zd_LassoFinderModel_init_274 (fun q274 H hw => ?_)
  refine z_putF hx hb hts hown hin hK hw zZ12 0 rfl 48 (by decide) zc_419 rfl rfl rfl rfl (Nat.le_of_ble_eq_true rfl) zd_LassoFinderModel_init_276 (fun H locs hw => ?_)
  refine lv_aload_n hx hb zd_LassoFinderModel_init_279 rfl (lv_at hl 0 rfl) ?_
  refine lv_sipush (v := 401) hx hb zd_LassoFinderModel_init_280 (by decide) ?_
  refine z_newI (N' := 401) hx hb (hts _ zc_238) hK hw hA (by decide) (by decide) (Nat.le_of_ble_eq_true rfl) (Nat.le_of_ble_eq_true rfl) (Nat.le_of_ble_eq_true rfl) zd_LassoFinderModel_init_283 (fun q283 H hw => ?_)
  have hw : zW G A s.heap [(h0, zO 12 [.int 0, .int 0, .ref q8, .int 0, .int 0, .int (-1), .int 0, .int 0, .int 0, .ref q21, .ref q29, .ref q37, .ref q44, .int 0, .ref q53, .ref q62, .ref q71, .ref q80, .ref q89, .ref q98, .ref q107, .ref q116, .ref q125, .ref q134, .ref q143, .ref q152, .ref q161, .int 0, .ref q169, .ref q178, .int 0, .ref q185, .ref q192, .ref q200, .ref q208, .ref q216, .int 0, .ref q225, .int 0, .ref q233, .ref q241, .ref q249, .int 0, .ref q258, .int 0, .int 0, .int 0, .ref q266, .ref q274, .null, .null, .null, .null, .null, .null, .null, .null, .null, .null, .int 0, .null, .int 0, .int 0, .null, .int 0, .int 0, .null, .int 0, .null, .int 0, .null, .null, .null, .null, .null, .null, .null, .null, .int 0, .int 0, .null, .null, .int 0, .null]), (q8, zI K 240 (fun _ => 0)), (q21, zI K 8 (fun _ => 0)), (q29, zI K 8 (fun _ => 0)), (q37, zI K 6 (fun _ => 0)), (q44, zI K 2 (fun _ => 0)), (q53, zI K 140 (fun _ => 0)), (q62, zI K 140 (fun _ => 0)), (q71, zI K 140 (fun _ => 0)), (q80, zI K 140 (fun _ => 0)), (q89, zZ K 140 (fun _ => 0)), (q98, zI K 140 (fun _ => 0)), (q107, zI K 140 (fun _ => 0)), (q116, zI K 140 (fun _ => 0)), (q125, zI K 140 (fun _ => 0)), (q134, zI K 140 (fun _ => 0)), (q143, zI K 140 (fun _ => 0)), (q152, zI K 140 (fun _ => 0)), (q161, zI K 140 (fun _ => 0)), (q169, zI K 48 (fun _ => 0)), (q178, zI K 140 (fun _ => 0)), (q185, zI K 5 (fun _ => 0)), (q192, zI K 5 (fun _ => 0)), (q200, zI K 32 (fun _ => 0)), (q208, zI K 124 (fun _ => 0)), (q216, zJ K 124 (fun _ => 0)), (q225, zI K 480 (fun _ => 0)), (q233, zI K 8 (fun _ => 0)), (q241, zI K 8 (fun _ => 0)), (q249, zI K 8 (fun _ => 0)), (q258, zI K 240 (fun _ => 0)), (q266, zJ K 97 (fun _ => 0)), (q274, zI K 98 (fun _ => 0)), (q283, zI K 401 (fun _ => 0))] H locs := hw
  refine z_putF hx hb hts hown hin hK hw zZ12 0 rfl 49 (by decide) zc_420 rfl rfl rfl rfl (Nat.le_of_ble_eq_true rfl) zd_LassoFinderModel_init_285 (fun H locs hw => ?_)
  refine lv_aload_n hx hb zd_LassoFinderModel_init_288 rfl (lv_at hl 0 rfl) ?_
  refine lv_sipush (v := 401) hx hb zd_LassoFinderModel_init_289 (by decide) ?_
  refine z_newI (N' := 401) hx hb (hts _ zc_238) hK hw hA (by decide) (by decide) (Nat.le_of_ble_eq_true rfl) (Nat.le_of_ble_eq_true rfl) (Nat.le_of_ble_eq_true rfl) zd_LassoFinderModel_init_292 (fun q292 H hw => ?_)
  refine z_putF hx hb hts hown hin hK hw zZ12 0 rfl 50 (by decide) zc_421 rfl rfl rfl rfl (Nat.le_of_ble_eq_true rfl) zd_LassoFinderModel_init_294 (fun H locs hw => ?_)
  refine lv_aload_n hx hb zd_LassoFinderModel_init_297 rfl (lv_at hl 0 rfl) ?_
  refine lv_sipush (v := 401) hx hb zd_LassoFinderModel_init_298 (by decide) ?_
  refine z_newI (N' := 401) hx hb (hts _ zc_238) hK hw hA (by decide) (by decide) (Nat.le_of_ble_eq_true rfl) (Nat.le_of_ble_eq_true rfl) (Nat.le_of_ble_eq_true rfl) zd_LassoFinderModel_init_301 (fun q301 H hw => ?_)
  refine z_putF hx hb hts hown hin hK hw zZ12 0 rfl 51 (by decide) zc_422 rfl rfl rfl rfl (Nat.le_of_ble_eq_true rfl) zd_LassoFinderModel_init_303 (fun H locs hw => ?_)
  refine lv_aload_n hx hb zd_LassoFinderModel_init_306 rfl (lv_at hl 0 rfl) ?_
  refine lv_sipush (v := 401) hx hb zd_LassoFinderModel_init_307 (by decide) ?_
  refine z_newI (N' := 401) hx hb (hts _ zc_238) hK hw hA (by decide) (by decide) (Nat.le_of_ble_eq_true rfl) (Nat.le_of_ble_eq_true rfl) (Nat.le_of_ble_eq_true rfl) zd_LassoFinderModel_init_310 (fun q310 H hw => ?_)
  have hw : zW G A s.heap [(h0, zO 12 [.int 0, .int 0, .ref q8, .int 0, .int 0, .int (-1), .int 0, .int 0, .int 0, .ref q21, .ref q29, .ref q37, .ref q44, .int 0, .ref q53, .ref q62, .ref q71, .ref q80, .ref q89, .ref q98, .ref q107, .ref q116, .ref q125, .ref q134, .ref q143, .ref q152, .ref q161, .int 0, .ref q169, .ref q178, .int 0, .ref q185, .ref q192, .ref q200, .ref q208, .ref q216, .int 0, .ref q225, .int 0, .ref q233, .ref q241, .ref q249, .int 0, .ref q258, .int 0, .int 0, .int 0, .ref q266, .ref q274, .ref q283, .ref q292, .ref q301, .null, .null, .null, .null, .null, .null, .null, .int 0, .null, .int 0, .int 0, .null, .int 0, .int 0, .null, .int 0, .null, .int 0, .null, .null, .null, .null, .null, .null, .null, .null, .int 0, .int 0, .null, .null, .int 0, .null]), (q8, zI K 240 (fun _ => 0)), (q21, zI K 8 (fun _ => 0)), (q29, zI K 8 (fun _ => 0)), (q37, zI K 6 (fun _ => 0)), (q44, zI K 2 (fun _ => 0)), (q53, zI K 140 (fun _ => 0)), (q62, zI K 140 (fun _ => 0)), (q71, zI K 140 (fun _ => 0)), (q80, zI K 140 (fun _ => 0)), (q89, zZ K 140 (fun _ => 0)), (q98, zI K 140 (fun _ => 0)), (q107, zI K 140 (fun _ => 0)), (q116, zI K 140 (fun _ => 0)), (q125, zI K 140 (fun _ => 0)), (q134, zI K 140 (fun _ => 0)), (q143, zI K 140 (fun _ => 0)), (q152, zI K 140 (fun _ => 0)), (q161, zI K 140 (fun _ => 0)), (q169, zI K 48 (fun _ => 0)), (q178, zI K 140 (fun _ => 0)), (q185, zI K 5 (fun _ => 0)), (q192, zI K 5 (fun _ => 0)), (q200, zI K 32 (fun _ => 0)), (q208, zI K 124 (fun _ => 0)), (q216, zJ K 124 (fun _ => 0)), (q225, zI K 480 (fun _ => 0)), (q233, zI K 8 (fun _ => 0)), (q241, zI K 8 (fun _ => 0)), (q249, zI K 8 (fun _ => 0)), (q258, zI K 240 (fun _ => 0)), (q266, zJ K 97 (fun _ => 0)), (q274, zI K 98 (fun _ => 0)), (q283, zI K 401 (fun _ => 0)), (q292, zI K 401 (fun _ => 0)), (q301, zI K 401 (fun _ => 0)), (q310, zI K 401 (fun _ => 0))] H locs := hw
  refine z_putF hx hb hts hown hin hK hw zZ12 0 rfl 52 (by decide) zc_423 rfl rfl rfl rfl (Nat.le_of_ble_eq_true rfl) zd_LassoFinderModel_init_312 (fun H locs hw => ?_)
  refine lv_aload_n hx hb zd_LassoFinderModel_init_315 rfl (lv_at hl 0 rfl) ?_
  refine lv_bipush (v := 98) hx hb zd_LassoFinderModel_init_316 (by decide) ?_
  refine z_newI (N' := 98) hx hb (hts _ zc_238) hK hw hA (by decide) (by decide) (Nat.le_of_ble_eq_true rfl) (Nat.le_of_ble_eq_true rfl) (Nat.le_of_ble_eq_true rfl) zd_LassoFinderModel_init_318 (fun q318 H hw => ?_)
  refine z_putF hx hb hts hown hin hK hw zZ12 0 rfl 53 (by decide) zc_424 rfl rfl rfl rfl (Nat.le_of_ble_eq_true rfl) zd_LassoFinderModel_init_320 (fun H locs hw => ?_)
  refine lv_aload_n hx hb zd_LassoFinderModel_init_323 rfl (lv_at hl 0 rfl) ?_
  refine lv_sipush (v := 401) hx hb zd_LassoFinderModel_init_324 (by decide) ?_
  refine z_newI (N' := 401) hx hb (hts _ zc_238) hK hw hA (by decide) (by decide) (Nat.le_of_ble_eq_true rfl) (Nat.le_of_ble_eq_true rfl) (Nat.le_of_ble_eq_true rfl) zd_LassoFinderModel_init_327 (fun q327 H hw => ?_)
  refine z_putF hx hb hts hown hin hK hw zZ12 0 rfl 54 (by decide) zc_425 rfl rfl rfl rfl (Nat.le_of_ble_eq_true rfl) zd_LassoFinderModel_init_329 (fun H locs hw => ?_)
  refine lv_aload_n hx hb zd_LassoFinderModel_init_332 rfl (lv_at hl 0 rfl) ?_
  refine lv_bipush (v := 6) hx hb zd_LassoFinderModel_init_333 (by decide) ?_
  refine z_newI (N' := 6) hx hb (hts _ zc_238) hK hw hA (by decide) (by decide) (Nat.le_of_ble_eq_true rfl) (Nat.le_of_ble_eq_true rfl) (Nat.le_of_ble_eq_true rfl) zd_LassoFinderModel_init_335 (fun q335 H hw => ?_)
  have hw : zW G A s.heap [(h0, zO 12 [.int 0, .int 0, .ref q8, .int 0, .int 0, .int (-1), .int 0, .int 0, .int 0, .ref q21, .ref q29, .ref q37, .ref q44, .int 0, .ref q53, .ref q62, .ref q71, .ref q80, .ref q89, .ref q98, .ref q107, .ref q116, .ref q125, .ref q134, .ref q143, .ref q152, .ref q161, .int 0, .ref q169, .ref q178, .int 0, .ref q185, .ref q192, .ref q200, .ref q208, .ref q216, .int 0, .ref q225, .int 0, .ref q233, .ref q241, .ref q249, .int 0, .ref q258, .int 0, .int 0, .int 0, .ref q266, .ref q274, .ref q283, .ref q292, .ref q301, .ref q310, .ref q318, .ref q327, .null, .null, .null, .null, .int 0, .null, .int 0, .int 0, .null, .int 0, .int 0, .null, .int 0, .null, .int 0, .null, .null, .null, .null, .null, .null, .null, .null, .int 0, .int 0, .null, .null, .int 0, .null]), (q8, zI K 240 (fun _ => 0)), (q21, zI K 8 (fun _ => 0)), (q29, zI K 8 (fun _ => 0)), (q37, zI K 6 (fun _ => 0)), (q44, zI K 2 (fun _ => 0)), (q53, zI K 140 (fun _ => 0)), (q62, zI K 140 (fun _ => 0)), (q71, zI K 140 (fun _ => 0)), (q80, zI K 140 (fun _ => 0)), (q89, zZ K 140 (fun _ => 0)), (q98, zI K 140 (fun _ => 0)), (q107, zI K 140 (fun _ => 0)), (q116, zI K 140 (fun _ => 0)), (q125, zI K 140 (fun _ => 0)), (q134, zI K 140 (fun _ => 0)), (q143, zI K 140 (fun _ => 0)), (q152, zI K 140 (fun _ => 0)), (q161, zI K 140 (fun _ => 0)), (q169, zI K 48 (fun _ => 0)), (q178, zI K 140 (fun _ => 0)), (q185, zI K 5 (fun _ => 0)), (q192, zI K 5 (fun _ => 0)), (q200, zI K 32 (fun _ => 0)), (q208, zI K 124 (fun _ => 0)), (q216, zJ K 124 (fun _ => 0)), (q225, zI K 480 (fun _ => 0)), (q233, zI K 8 (fun _ => 0)), (q241, zI K 8 (fun _ => 0)), (q249, zI K 8 (fun _ => 0)), (q258, zI K 240 (fun _ => 0)), (q266, zJ K 97 (fun _ => 0)), (q274, zI K 98 (fun _ => 0)), (q283, zI K 401 (fun _ => 0)), (q292, zI K 401 (fun _ => 0)), (q301, zI K 401 (fun _ => 0)), (q310, zI K 401 (fun _ => 0)), (q318, zI K 98 (fun _ => 0)), (q327, zI K 401 (fun _ => 0)), (q335, zI K 6 (fun _ => 0))] H locs := hw
  refine z_putF hx hb hts hown hin hK hw zZ12 0 rfl 55 (by decide) zc_426 rfl rfl rfl rfl (Nat.le_of_ble_eq_true rfl) zd_LassoFinderModel_init_337 (fun H locs hw => ?_)
  refine lv_aload_n hx hb zd_LassoFinderModel_init_340 rfl (lv_at hl 0 rfl) ?_
  refine lv_iconst (v := 2) hx hb zd_LassoFinderModel_init_341 (by decide) ?_
  refine z_newI (N' := 2) hx hb (hts _ zc_238) hK hw hA (by decide) (by decide) (Nat.le_of_ble_eq_true rfl) (Nat.le_of_ble_eq_true rfl) (Nat.le_of_ble_eq_true rfl) zd_LassoFinderModel_init_342 (fun q342 H hw => ?_)
  refine z_putF hx hb hts hown hin hK hw zZ12 0 rfl 56 (by decide) zc_427 rfl rfl rfl rfl (Nat.le_of_ble_eq_true rfl) zd_LassoFinderModel_init_344 (fun H locs hw => ?_)
  refine lv_aload_n hx hb zd_LassoFinderModel_init_347 rfl (lv_at hl 0 rfl) ?_
  refine lv_bipush (v := 6) hx hb zd_LassoFinderModel_init_348 (by decide) ?_
  refine z_newI (N' := 6) hx hb (hts _ zc_238) hK hw hA (by decide) (by decide) (Nat.le_of_ble_eq_true rfl) (Nat.le_of_ble_eq_true rfl) (Nat.le_of_ble_eq_true rfl) zd_LassoFinderModel_init_350 (fun q350 H hw => ?_)
  refine z_putF hx hb hts hown hin hK hw zZ12 0 rfl 57 (by decide) zc_428 rfl rfl rfl rfl (Nat.le_of_ble_eq_true rfl) zd_LassoFinderModel_init_352 (fun H locs hw => ?_)
  refine lv_aload_n hx hb zd_LassoFinderModel_init_355 rfl (lv_at hl 0 rfl) ?_
  refine lv_iconst (v := 4) hx hb zd_LassoFinderModel_init_356 (by decide) ?_
  refine z_newI (N' := 4) hx hb (hts _ zc_238) hK hw hA (by decide) (by decide) (Nat.le_of_ble_eq_true rfl) (Nat.le_of_ble_eq_true rfl) (Nat.le_of_ble_eq_true rfl) zd_LassoFinderModel_init_357 (fun q357 H hw => ?_)
  have hw : zW G A s.heap [(h0, zO 12 [.int 0, .int 0, .ref q8, .int 0, .int 0, .int (-1), .int 0, .int 0, .int 0, .ref q21, .ref q29, .ref q37, .ref q44, .int 0, .ref q53, .ref q62, .ref q71, .ref q80, .ref q89, .ref q98, .ref q107, .ref q116, .ref q125, .ref q134, .ref q143, .ref q152, .ref q161, .int 0, .ref q169, .ref q178, .int 0, .ref q185, .ref q192, .ref q200, .ref q208, .ref q216, .int 0, .ref q225, .int 0, .ref q233, .ref q241, .ref q249, .int 0, .ref q258, .int 0, .int 0, .int 0, .ref q266, .ref q274, .ref q283, .ref q292, .ref q301, .ref q310, .ref q318, .ref q327, .ref q335, .ref q342, .ref q350, .null, .int 0, .null, .int 0, .int 0, .null, .int 0, .int 0, .null, .int 0, .null, .int 0, .null, .null, .null, .null, .null, .null, .null, .null, .int 0, .int 0, .null, .null, .int 0, .null]), (q8, zI K 240 (fun _ => 0)), (q21, zI K 8 (fun _ => 0)), (q29, zI K 8 (fun _ => 0)), (q37, zI K 6 (fun _ => 0)), (q44, zI K 2 (fun _ => 0)), (q53, zI K 140 (fun _ => 0)), (q62, zI K 140 (fun _ => 0)), (q71, zI K 140 (fun _ => 0)), (q80, zI K 140 (fun _ => 0)), (q89, zZ K 140 (fun _ => 0)), (q98, zI K 140 (fun _ => 0)), (q107, zI K 140 (fun _ => 0)), (q116, zI K 140 (fun _ => 0)), (q125, zI K 140 (fun _ => 0)), (q134, zI K 140 (fun _ => 0)), (q143, zI K 140 (fun _ => 0)), (q152, zI K 140 (fun _ => 0)), (q161, zI K 140 (fun _ => 0)), (q169, zI K 48 (fun _ => 0)), (q178, zI K 140 (fun _ => 0)), (q185, zI K 5 (fun _ => 0)), (q192, zI K 5 (fun _ => 0)), (q200, zI K 32 (fun _ => 0)), (q208, zI K 124 (fun _ => 0)), (q216, zJ K 124 (fun _ => 0)), (q225, zI K 480 (fun _ => 0)), (q233, zI K 8 (fun _ => 0)), (q241, zI K 8 (fun _ => 0)), (q249, zI K 8 (fun _ => 0)), (q258, zI K 240 (fun _ => 0)), (q266, zJ K 97 (fun _ => 0)), (q274, zI K 98 (fun _ => 0)), (q283, zI K 401 (fun _ => 0)), (q292, zI K 401 (fun _ => 0)), (q301, zI K 401 (fun _ => 0)), (q310, zI K 401 (fun _ => 0)), (q318, zI K 98 (fun _ => 0)), (q327, zI K 401 (fun _ => 0)), (q335, zI K 6 (fun _ => 0)), (q342, zI K 2 (fun _ => 0)), (q350, zI K 6 (fun _ => 0)), (q357, zI K 4 (fun _ => 0))] H locs := hw
  refine z_putF hx hb hts hown hin hK hw zZ12 0 rfl 58 (by decide) zc_429 rfl rfl rfl rfl (Nat.le_of_ble_eq_true rfl) zd_LassoFinderModel_init_359 (fun H locs hw => ?_)
  refine lv_aload_n hx hb zd_LassoFinderModel_init_362 rfl (lv_at hl 0 rfl) ?_
  refine lv_sipush (v := 240) hx hb zd_LassoFinderModel_init_363 (by decide) ?_
  refine z_newI (N' := 240) hx hb (hts _ zc_238) hK hw hA (by decide) (by decide) (Nat.le_of_ble_eq_true rfl) (Nat.le_of_ble_eq_true rfl) (Nat.le_of_ble_eq_true rfl) zd_LassoFinderModel_init_366 (fun q366 H hw => ?_)
  refine z_putF hx hb hts hown hin hK hw zZ12 0 rfl 60 (by decide) zc_430 rfl rfl rfl rfl (Nat.le_of_ble_eq_true rfl) zd_LassoFinderModel_init_368 (fun H locs hw => ?_)
  refine lv_aload_n hx hb zd_LassoFinderModel_init_371 rfl (lv_at hl 0 rfl) ?_
  refine lv_sipush (v := 240) hx hb zd_LassoFinderModel_init_372 (by decide) ?_
  refine z_newI (N' := 240) hx hb (hts _ zc_238) hK hw hA (by decide) (by decide) (Nat.le_of_ble_eq_true rfl) (Nat.le_of_ble_eq_true rfl) (Nat.le_of_ble_eq_true rfl) zd_LassoFinderModel_init_375 (fun q375 H hw => ?_)
  refine z_putF hx hb hts hown hin hK hw zZ12 0 rfl 63 (by decide) zc_431 rfl rfl rfl rfl (Nat.le_of_ble_eq_true rfl) zd_LassoFinderModel_init_377 (fun H locs hw => ?_)
  refine lv_aload_n hx hb zd_LassoFinderModel_init_380 rfl (lv_at hl 0 rfl) ?_
  refine lv_sipush (v := 240) hx hb zd_LassoFinderModel_init_381 (by decide) ?_
  refine z_newI (N' := 240) hx hb (hts _ zc_238) hK hw hA (by decide) (by decide) (Nat.le_of_ble_eq_true rfl) (Nat.le_of_ble_eq_true rfl) (Nat.le_of_ble_eq_true rfl) zd_LassoFinderModel_init_384 (fun q384 H hw => ?_)
  have hw : zW G A s.heap [(h0, zO 12 [.int 0, .int 0, .ref q8, .int 0, .int 0, .int (-1), .int 0, .int 0, .int 0, .ref q21, .ref q29, .ref q37, .ref q44, .int 0, .ref q53, .ref q62, .ref q71, .ref q80, .ref q89, .ref q98, .ref q107, .ref q116, .ref q125, .ref q134, .ref q143, .ref q152, .ref q161, .int 0, .ref q169, .ref q178, .int 0, .ref q185, .ref q192, .ref q200, .ref q208, .ref q216, .int 0, .ref q225, .int 0, .ref q233, .ref q241, .ref q249, .int 0, .ref q258, .int 0, .int 0, .int 0, .ref q266, .ref q274, .ref q283, .ref q292, .ref q301, .ref q310, .ref q318, .ref q327, .ref q335, .ref q342, .ref q350, .ref q357, .int 0, .ref q366, .int 0, .int 0, .ref q375, .int 0, .int 0, .null, .int 0, .null, .int 0, .null, .null, .null, .null, .null, .null, .null, .null, .int 0, .int 0, .null, .null, .int 0, .null]), (q8, zI K 240 (fun _ => 0)), (q21, zI K 8 (fun _ => 0)), (q29, zI K 8 (fun _ => 0)), (q37, zI K 6 (fun _ => 0)), (q44, zI K 2 (fun _ => 0)), (q53, zI K 140 (fun _ => 0)), (q62, zI K 140 (fun _ => 0)), (q71, zI K 140 (fun _ => 0)), (q80, zI K 140 (fun _ => 0)), (q89, zZ K 140 (fun _ => 0)), (q98, zI K 140 (fun _ => 0)), (q107, zI K 140 (fun _ => 0)), (q116, zI K 140 (fun _ => 0)), (q125, zI K 140 (fun _ => 0)), (q134, zI K 140 (fun _ => 0)), (q143, zI K 140 (fun _ => 0)), (q152, zI K 140 (fun _ => 0)), (q161, zI K 140 (fun _ => 0)), (q169, zI K 48 (fun _ => 0)), (q178, zI K 140 (fun _ => 0)), (q185, zI K 5 (fun _ => 0)), (q192, zI K 5 (fun _ => 0)), (q200, zI K 32 (fun _ => 0)), (q208, zI K 124 (fun _ => 0)), (q216, zJ K 124 (fun _ => 0)), (q225, zI K 480 (fun _ => 0)), (q233, zI K 8 (fun _ => 0)), (q241, zI K 8 (fun _ => 0)), (q249, zI K 8 (fun _ => 0)), (q258, zI K 240 (fun _ => 0)), (q266, zJ K 97 (fun _ => 0)), (q274, zI K 98 (fun _ => 0)), (q283, zI K 401 (fun _ => 0)), (q292, zI K 401 (fun _ => 0)), (q301, zI K 401 (fun _ => 0)), (q310, zI K 401 (fun _ => 0)), (q318, zI K 98 (fun _ => 0)), (q327, zI K 401 (fun _ => 0)), (q335, zI K 6 (fun _ => 0)), (q342, zI K 2 (fun _ => 0)), (q350, zI K 6 (fun _ => 0)), (q357, zI K 4 (fun _ => 0)), (q366, zI K 240 (fun _ => 0)), (q375, zI K 240 (fun _ => 0)), (q384, zI K 240 (fun _ => 0))] H locs := hw
  refine z_putF hx hb hts hown hin hK hw zZ12 0 rfl 66 (by decide) zc_432 rfl rfl rfl rfl (Nat.le_of_ble_eq_true rfl) zd_LassoFinderModel_init_386 (fun H locs hw => ?_)
  refine lv_aload_n hx hb zd_LassoFinderModel_init_389 rfl (lv_at hl 0 rfl) ?_
  refine lv_iconst (v := 3) hx hb zd_LassoFinderModel_init_390 (by decide) ?_
  refine z_newI (N' := 3) hx hb (hts _ zc_238) hK hw hA (by decide) (by decide) (Nat.le_of_ble_eq_true rfl) (Nat.le_of_ble_eq_true rfl) (Nat.le_of_ble_eq_true rfl) zd_LassoFinderModel_init_391 (fun q391 H hw => ?_)
  refine z_putF hx hb hts hown hin hK hw zZ12 0 rfl 68 (by decide) zc_433 rfl rfl rfl rfl (Nat.le_of_ble_eq_true rfl) zd_LassoFinderModel_init_393 (fun H locs hw => ?_)
  refine lv_aload_n hx hb zd_LassoFinderModel_init_396 rfl (lv_at hl 0 rfl) ?_
  refine lv_bipush (v := 8) hx hb zd_LassoFinderModel_init_397 (by decide) ?_
  refine z_newI (N' := 8) hx hb (hts _ zc_238) hK hw hA (by decide) (by decide) (Nat.le_of_ble_eq_true rfl) (Nat.le_of_ble_eq_true rfl) (Nat.le_of_ble_eq_true rfl) zd_LassoFinderModel_init_399 (fun q399 H hw => ?_)
  refine z_putF hx hb hts hown hin hK hw zZ12 0 rfl 70 (by decide) zc_434 rfl rfl rfl rfl (Nat.le_of_ble_eq_true rfl) zd_LassoFinderModel_init_401 (fun H locs hw => ?_)
  refine lv_aload_n hx hb zd_LassoFinderModel_init_404 rfl (lv_at hl 0 rfl) ?_
  refine lv_bipush (v := 8) hx hb zd_LassoFinderModel_init_405 (by decide) ?_
  refine z_newI (N' := 8) hx hb (hts _ zc_238) hK hw hA (by decide) (by decide) (Nat.le_of_ble_eq_true rfl) (Nat.le_of_ble_eq_true rfl) (Nat.le_of_ble_eq_true rfl) zd_LassoFinderModel_init_407 (fun q407 H hw => ?_)
  have hw : zW G A s.heap [(h0, zO 12 [.int 0, .int 0, .ref q8, .int 0, .int 0, .int (-1), .int 0, .int 0, .int 0, .ref q21, .ref q29, .ref q37, .ref q44, .int 0, .ref q53, .ref q62, .ref q71, .ref q80, .ref q89, .ref q98, .ref q107, .ref q116, .ref q125, .ref q134, .ref q143, .ref q152, .ref q161, .int 0, .ref q169, .ref q178, .int 0, .ref q185, .ref q192, .ref q200, .ref q208, .ref q216, .int 0, .ref q225, .int 0, .ref q233, .ref q241, .ref q249, .int 0, .ref q258, .int 0, .int 0, .int 0, .ref q266, .ref q274, .ref q283, .ref q292, .ref q301, .ref q310, .ref q318, .ref q327, .ref q335, .ref q342, .ref q350, .ref q357, .int 0, .ref q366, .int 0, .int 0, .ref q375, .int 0, .int 0, .ref q384, .int 0, .ref q391, .int 0, .ref q399, .null, .null, .null, .null, .null, .null, .null, .int 0, .int 0, .null, .null, .int 0, .null]), (q8, zI K 240 (fun _ => 0)), (q21, zI K 8 (fun _ => 0)), (q29, zI K 8 (fun _ => 0)), (q37, zI K 6 (fun _ => 0)), (q44, zI K 2 (fun _ => 0)), (q53, zI K 140 (fun _ => 0)), (q62, zI K 140 (fun _ => 0)), (q71, zI K 140 (fun _ => 0)), (q80, zI K 140 (fun _ => 0)), (q89, zZ K 140 (fun _ => 0)), (q98, zI K 140 (fun _ => 0)), (q107, zI K 140 (fun _ => 0)), (q116, zI K 140 (fun _ => 0)), (q125, zI K 140 (fun _ => 0)), (q134, zI K 140 (fun _ => 0)), (q143, zI K 140 (fun _ => 0)), (q152, zI K 140 (fun _ => 0)), (q161, zI K 140 (fun _ => 0)), (q169, zI K 48 (fun _ => 0)), (q178, zI K 140 (fun _ => 0)), (q185, zI K 5 (fun _ => 0)), (q192, zI K 5 (fun _ => 0)), (q200, zI K 32 (fun _ => 0)), (q208, zI K 124 (fun _ => 0)), (q216, zJ K 124 (fun _ => 0)), (q225, zI K 480 (fun _ => 0)), (q233, zI K 8 (fun _ => 0)), (q241, zI K 8 (fun _ => 0)), (q249, zI K 8 (fun _ => 0)), (q258, zI K 240 (fun _ => 0)), (q266, zJ K 97 (fun _ => 0)), (q274, zI K 98 (fun _ => 0)), (q283, zI K 401 (fun _ => 0)), (q292, zI K 401 (fun _ => 0)), (q301, zI K 401 (fun _ => 0)), (q310, zI K 401 (fun _ => 0)), (q318, zI K 98 (fun _ => 0)), (q327, zI K 401 (fun _ => 0)), (q335, zI K 6 (fun _ => 0)), (q342, zI K 2 (fun _ => 0)), (q350, zI K 6 (fun _ => 0)), (q357, zI K 4 (fun _ => 0)), (q366, zI K 240 (fun _ => 0)), (q375, zI K 240 (fun _ => 0)), (q384, zI K 240 (fun _ => 0)), (q391, zI K 3 (fun _ => 0)), (q399, zI K 8 (fun _ => 0)), (q407, zI K 8 (fun _ => 0))] H locs := hw
  refine z_putF hx hb hts hown hin hK hw zZ12 0 rfl 71 (by decide) zc_435 rfl rfl rfl rfl (Nat.le_of_ble_eq_true rfl) zd_LassoFinderModel_init_409 (fun H locs hw => ?_)
  refine lv_aload_n hx hb zd_LassoFinderModel_init_412 rfl (lv_at hl 0 rfl) ?_
  refine lv_bipush (v := 8) hx hb zd_LassoFinderModel_init_413 (by decide) ?_
  refine z_newI (N' := 8) hx hb (hts _ zc_238) hK hw hA (by decide) (by decide) (Nat.le_of_ble_eq_true rfl) (Nat.le_of_ble_eq_true rfl) (Nat.le_of_ble_eq_true rfl) zd_LassoFinderModel_init_415 (fun q415 H hw => ?_)
  refine z_putF hx hb hts hown hin hK hw zZ12 0 rfl 72 (by decide) zc_436 rfl rfl rfl rfl (Nat.le_of_ble_eq_true rfl) zd_LassoFinderModel_init_417 (fun H locs hw => ?_)
  refine lv_aload_n hx hb zd_LassoFinderModel_init_420 rfl (lv_at hl 0 rfl) ?_
  refine lv_bipush (v := 8) hx hb zd_LassoFinderModel_init_421 (by decide) ?_
  refine z_newI (N' := 8) hx hb (hts _ zc_238) hK hw hA (by decide) (by decide) (Nat.le_of_ble_eq_true rfl) (Nat.le_of_ble_eq_true rfl) (Nat.le_of_ble_eq_true rfl) zd_LassoFinderModel_init_423 (fun q423 H hw => ?_)
  refine z_putF hx hb hts hown hin hK hw zZ12 0 rfl 73 (by decide) zc_437 rfl rfl rfl rfl (Nat.le_of_ble_eq_true rfl) zd_LassoFinderModel_init_425 (fun H locs hw => ?_)
  refine lv_aload_n hx hb zd_LassoFinderModel_init_428 rfl (lv_at hl 0 rfl) ?_
  refine lv_sipush (v := 768) hx hb zd_LassoFinderModel_init_429 (by decide) ?_
  refine z_newI (N' := 768) hx hb (hts _ zc_238) hK hw hA (by decide) (by decide) (Nat.le_of_ble_eq_true rfl) (Nat.le_of_ble_eq_true rfl) (Nat.le_of_ble_eq_true rfl) zd_LassoFinderModel_init_432 (fun q432 H hw => ?_)
  have hw : zW G A s.heap [(h0, zO 12 [.int 0, .int 0, .ref q8, .int 0, .int 0, .int (-1), .int 0, .int 0, .int 0, .ref q21, .ref q29, .ref q37, .ref q44, .int 0, .ref q53, .ref q62, .ref q71, .ref q80, .ref q89, .ref q98, .ref q107, .ref q116, .ref q125, .ref q134, .ref q143, .ref q152, .ref q161, .int 0, .ref q169, .ref q178, .int 0, .ref q185, .ref q192, .ref q200, .ref q208, .ref q216, .int 0, .ref q225, .int 0, .ref q233, .ref q241, .ref q249, .int 0, .ref q258, .int 0, .int 0, .int 0, .ref q266, .ref q274, .ref q283, .ref q292, .ref q301, .ref q310, .ref q318, .ref q327, .ref q335, .ref q342, .ref q350, .ref q357, .int 0, .ref q366, .int 0, .int 0, .ref q375, .int 0, .int 0, .ref q384, .int 0, .ref q391, .int 0, .ref q399, .ref q407, .ref q415, .ref q423, .null, .null, .null, .null, .int 0, .int 0, .null, .null, .int 0, .null]), (q8, zI K 240 (fun _ => 0)), (q21, zI K 8 (fun _ => 0)), (q29, zI K 8 (fun _ => 0)), (q37, zI K 6 (fun _ => 0)), (q44, zI K 2 (fun _ => 0)), (q53, zI K 140 (fun _ => 0)), (q62, zI K 140 (fun _ => 0)), (q71, zI K 140 (fun _ => 0)), (q80, zI K 140 (fun _ => 0)), (q89, zZ K 140 (fun _ => 0)), (q98, zI K 140 (fun _ => 0)), (q107, zI K 140 (fun _ => 0)), (q116, zI K 140 (fun _ => 0)), (q125, zI K 140 (fun _ => 0)), (q134, zI K 140 (fun _ => 0)), (q143, zI K 140 (fun _ => 0)), (q152, zI K 140 (fun _ => 0)), (q161, zI K 140 (fun _ => 0)), (q169, zI K 48 (fun _ => 0)), (q178, zI K 140 (fun _ => 0)), (q185, zI K 5 (fun _ => 0)), (q192, zI K 5 (fun _ => 0)), (q200, zI K 32 (fun _ => 0)), (q208, zI K 124 (fun _ => 0)), (q216, zJ K 124 (fun _ => 0)), (q225, zI K 480 (fun _ => 0)), (q233, zI K 8 (fun _ => 0)), (q241, zI K 8 (fun _ => 0)), (q249, zI K 8 (fun _ => 0)), (q258, zI K 240 (fun _ => 0)), (q266, zJ K 97 (fun _ => 0)), (q274, zI K 98 (fun _ => 0)), (q283, zI K 401 (fun _ => 0)), (q292, zI K 401 (fun _ => 0)), (q301, zI K 401 (fun _ => 0)), (q310, zI K 401 (fun _ => 0)), (q318, zI K 98 (fun _ => 0)), (q327, zI K 401 (fun _ => 0)), (q335, zI K 6 (fun _ => 0)), (q342, zI K 2 (fun _ => 0)), (q350, zI K 6 (fun _ => 0)), (q357, zI K 4 (fun _ => 0)), (q366, zI K 240 (fun _ => 0)), (q375, zI K 240 (fun _ => 0)), (q384, zI K 240 (fun _ => 0)), (q391, zI K 3 (fun _ => 0)), (q399, zI K 8 (fun _ => 0)), (q407, zI K 8 (fun _ => 0)), (q415, zI K 8 (fun _ => 0)), (q423, zI K 8 (fun _ => 0)), (q432, zI K 768 (fun _ => 0))] H locs := hw
  refine z_putF hx hb hts hown hin hK hw zZ12 0 rfl 74 (by decide) zc_438 rfl rfl rfl rfl (Nat.le_of_ble_eq_true rfl) zd_LassoFinderModel_init_434 (fun H locs hw => ?_)
  refine lv_aload_n hx hb zd_LassoFinderModel_init_437 rfl (lv_at hl 0 rfl) ?_
  refine lv_sipush (v := 768) hx hb zd_LassoFinderModel_init_438 (by decide) ?_
  refine z_newI (N' := 768) hx hb (hts _ zc_238) hK hw hA (by decide) (by decide) (Nat.le_of_ble_eq_true rfl) (Nat.le_of_ble_eq_true rfl) (Nat.le_of_ble_eq_true rfl) zd_LassoFinderModel_init_441 (fun q441 H hw => ?_)
  refine z_putF hx hb hts hown hin hK hw zZ12 0 rfl 75 (by decide) zc_439 rfl rfl rfl rfl (Nat.le_of_ble_eq_true rfl) zd_LassoFinderModel_init_443 (fun H locs hw => ?_)
  refine lv_aload_n hx hb zd_LassoFinderModel_init_446 rfl (lv_at hl 0 rfl) ?_
  refine lv_sipush (v := 768) hx hb zd_LassoFinderModel_init_447 (by decide) ?_
  refine z_newZ (N' := 768) hx hb (hts _ zc_240) hK hw hA (by decide) (by decide) (Nat.le_of_ble_eq_true rfl) (Nat.le_of_ble_eq_true rfl) (Nat.le_of_ble_eq_true rfl) zd_LassoFinderModel_init_450 (fun q450 H hw => ?_)
  refine z_putF hx hb hts hown hin hK hw zZ12 0 rfl 76 (by decide) zc_440 rfl rfl rfl rfl (Nat.le_of_ble_eq_true rfl) zd_LassoFinderModel_init_452 (fun H locs hw => ?_)
  refine lv_aload_n hx hb zd_LassoFinderModel_init_455 rfl (lv_at hl 0 rfl) ?_
  refine lv_sipush (v := 6144) hx hb zd_LassoFinderModel_init_456 (by decide) ?_
  refine z_newI (N' := 6144) hx hb (hts _ zc_238) hK hw hA (by decide) (by decide) (Nat.le_of_ble_eq_true rfl) (Nat.le_of_ble_eq_true rfl) (Nat.le_of_ble_eq_true rfl) zd_LassoFinderModel_init_459 (fun q459 H hw => ?_)
  have hw : zW G A s.heap [(h0, zO 12 [.int 0, .int 0, .ref q8, .int 0, .int 0, .int (-1), .int 0, .int 0, .int 0, .ref q21, .ref q29, .ref q37, .ref q44, .int 0, .ref q53, .ref q62, .ref q71, .ref q80, .ref q89, .ref q98, .ref q107, .ref q116, .ref q125, .ref q134, .ref q143, .ref q152, .ref q161, .int 0, .ref q169, .ref q178, .int 0, .ref q185, .ref q192, .ref q200, .ref q208, .ref q216, .int 0, .ref q225, .int 0, .ref q233, .ref q241, .ref q249, .int 0, .ref q258, .int 0, .int 0, .int 0, .ref q266, .ref q274, .ref q283, .ref q292, .ref q301, .ref q310, .ref q318, .ref q327, .ref q335, .ref q342, .ref q350, .ref q357, .int 0, .ref q366, .int 0, .int 0, .ref q375, .int 0, .int 0, .ref q384, .int 0, .ref q391, .int 0, .ref q399, .ref q407, .ref q415, .ref q423, .ref q432, .ref q441, .ref q450, .null, .int 0, .int 0, .null, .null, .int 0, .null]), (q8, zI K 240 (fun _ => 0)), (q21, zI K 8 (fun _ => 0)), (q29, zI K 8 (fun _ => 0)), (q37, zI K 6 (fun _ => 0)), (q44, zI K 2 (fun _ => 0)), (q53, zI K 140 (fun _ => 0)), (q62, zI K 140 (fun _ => 0)), (q71, zI K 140 (fun _ => 0)), (q80, zI K 140 (fun _ => 0)), (q89, zZ K 140 (fun _ => 0)), (q98, zI K 140 (fun _ => 0)), (q107, zI K 140 (fun _ => 0)), (q116, zI K 140 (fun _ => 0)), (q125, zI K 140 (fun _ => 0)), (q134, zI K 140 (fun _ => 0)), (q143, zI K 140 (fun _ => 0)), (q152, zI K 140 (fun _ => 0)), (q161, zI K 140 (fun _ => 0)), (q169, zI K 48 (fun _ => 0)), (q178, zI K 140 (fun _ => 0)), (q185, zI K 5 (fun _ => 0)), (q192, zI K 5 (fun _ => 0)), (q200, zI K 32 (fun _ => 0)), (q208, zI K 124 (fun _ => 0)), (q216, zJ K 124 (fun _ => 0)), (q225, zI K 480 (fun _ => 0)), (q233, zI K 8 (fun _ => 0)), (q241, zI K 8 (fun _ => 0)), (q249, zI K 8 (fun _ => 0)), (q258, zI K 240 (fun _ => 0)), (q266, zJ K 97 (fun _ => 0)), (q274, zI K 98 (fun _ => 0)), (q283, zI K 401 (fun _ => 0)), (q292, zI K 401 (fun _ => 0)), (q301, zI K 401 (fun _ => 0)), (q310, zI K 401 (fun _ => 0)), (q318, zI K 98 (fun _ => 0)), (q327, zI K 401 (fun _ => 0)), (q335, zI K 6 (fun _ => 0)), (q342, zI K 2 (fun _ => 0)), (q350, zI K 6 (fun _ => 0)), (q357, zI K 4 (fun _ => 0)), (q366, zI K 240 (fun _ => 0)), (q375, zI K 240 (fun _ => 0)), (q384, zI K 240 (fun _ => 0)), (q391, zI K 3 (fun _ => 0)), (q399, zI K 8 (fun _ => 0)), (q407, zI K 8 (fun _ => 0)), (q415, zI K 8 (fun _ => 0)), (q423, zI K 8 (fun _ => 0)), (q432, zI K 768 (fun _ => 0)), (q441, zI K 768 (fun _ => 0)), (q450, zZ K 768 (fun _ => 0)), (q459, zI K 6144 (fun _ => 0))] H locs := hw
  refine z_putF hx hb hts hown hin hK hw zZ12 0 rfl 77 (by decide) zc_441 rfl rfl rfl rfl (Nat.le_of_ble_eq_true rfl) zd_LassoFinderModel_init_461 (fun H locs hw => ?_)
  refine lv_aload_n hx hb zd_LassoFinderModel_init_464 rfl (lv_at hl 0 rfl) ?_
  refine lv_iconst (v := (-1)) hx hb zd_LassoFinderModel_init_465 (by decide) ?_
  refine z_put hx hb hts hown hK hw zZ12 0 rfl 78 (by decide) zc_442 rfl rfl rfl (Nat.le_of_ble_eq_true rfl) zd_LassoFinderModel_init_466 (fun H locs hw => ?_)
  refine lv_aload_n hx hb zd_LassoFinderModel_init_469 rfl (lv_at hl 0 rfl) ?_
  refine lv_sipush (v := 1280) hx hb zd_LassoFinderModel_init_470 (by decide) ?_
  refine z_newI (N' := 1280) hx hb (hts _ zc_238) hK hw hA (by decide) (by decide) (Nat.le_of_ble_eq_true rfl) (Nat.le_of_ble_eq_true rfl) (Nat.le_of_ble_eq_true rfl) zd_LassoFinderModel_init_473 (fun q473 H hw => ?_)
  refine z_putF hx hb hts hown hin hK hw zZ12 0 rfl 80 (by decide) zc_443 rfl rfl rfl rfl (Nat.le_of_ble_eq_true rfl) zd_LassoFinderModel_init_475 (fun H locs hw => ?_)
  refine lv_aload_n hx hb zd_LassoFinderModel_init_478 rfl (lv_at hl 0 rfl) ?_
  refine lv_sipush (v := 1024) hx hb zd_LassoFinderModel_init_479 (by decide) ?_
  refine z_newI (N' := 1024) hx hb (hts _ zc_238) hK hw hA (by decide) (by decide) (Nat.le_of_ble_eq_true rfl) (Nat.le_of_ble_eq_true rfl) (Nat.le_of_ble_eq_true rfl) zd_LassoFinderModel_init_482 (fun q482 H hw => ?_)
  refine z_putF hx hb hts hown hin hK hw zZ12 0 rfl 81 (by decide) zc_444 rfl rfl rfl rfl (Nat.le_of_ble_eq_true rfl) zd_LassoFinderModel_init_484 (fun H locs hw => ?_)
  have hw : zW G A s.heap [(h0, zO 12 [.int 0, .int 0, .ref q8, .int 0, .int 0, .int (-1), .int 0, .int 0, .int 0, .ref q21, .ref q29, .ref q37, .ref q44, .int 0, .ref q53, .ref q62, .ref q71, .ref q80, .ref q89, .ref q98, .ref q107, .ref q116, .ref q125, .ref q134, .ref q143, .ref q152, .ref q161, .int 0, .ref q169, .ref q178, .int 0, .ref q185, .ref q192, .ref q200, .ref q208, .ref q216, .int 0, .ref q225, .int 0, .ref q233, .ref q241, .ref q249, .int 0, .ref q258, .int 0, .int 0, .int 0, .ref q266, .ref q274, .ref q283, .ref q292, .ref q301, .ref q310, .ref q318, .ref q327, .ref q335, .ref q342, .ref q350, .ref q357, .int 0, .ref q366, .int 0, .int 0, .ref q375, .int 0, .int 0, .ref q384, .int 0, .ref q391, .int 0, .ref q399, .ref q407, .ref q415, .ref q423, .ref q432, .ref q441, .ref q450, .ref q459, .int (-1), .int 0, .ref q473, .ref q482, .int 0, .null]), (q8, zI K 240 (fun _ => 0)), (q21, zI K 8 (fun _ => 0)), (q29, zI K 8 (fun _ => 0)), (q37, zI K 6 (fun _ => 0)), (q44, zI K 2 (fun _ => 0)), (q53, zI K 140 (fun _ => 0)), (q62, zI K 140 (fun _ => 0)), (q71, zI K 140 (fun _ => 0)), (q80, zI K 140 (fun _ => 0)), (q89, zZ K 140 (fun _ => 0)), (q98, zI K 140 (fun _ => 0)), (q107, zI K 140 (fun _ => 0)), (q116, zI K 140 (fun _ => 0)), (q125, zI K 140 (fun _ => 0)), (q134, zI K 140 (fun _ => 0)), (q143, zI K 140 (fun _ => 0)), (q152, zI K 140 (fun _ => 0)), (q161, zI K 140 (fun _ => 0)), (q169, zI K 48 (fun _ => 0)), (q178, zI K 140 (fun _ => 0)), (q185, zI K 5 (fun _ => 0)), (q192, zI K 5 (fun _ => 0)), (q200, zI K 32 (fun _ => 0)), (q208, zI K 124 (fun _ => 0)), (q216, zJ K 124 (fun _ => 0)), (q225, zI K 480 (fun _ => 0)), (q233, zI K 8 (fun _ => 0)), (q241, zI K 8 (fun _ => 0)), (q249, zI K 8 (fun _ => 0)), (q258, zI K 240 (fun _ => 0)), (q266, zJ K 97 (fun _ => 0)), (q274, zI K 98 (fun _ => 0)), (q283, zI K 401 (fun _ => 0)), (q292, zI K 401 (fun _ => 0)), (q301, zI K 401 (fun _ => 0)), (q310, zI K 401 (fun _ => 0)), (q318, zI K 98 (fun _ => 0)), (q327, zI K 401 (fun _ => 0)), (q335, zI K 6 (fun _ => 0)), (q342, zI K 2 (fun _ => 0)), (q350, zI K 6 (fun _ => 0)), (q357, zI K 4 (fun _ => 0)), (q366, zI K 240 (fun _ => 0)), (q375, zI K 240 (fun _ => 0)), (q384, zI K 240 (fun _ => 0)), (q391, zI K 3 (fun _ => 0)), (q399, zI K 8 (fun _ => 0)), (q407, zI K 8 (fun _ => 0)), (q415, zI K 8 (fun _ => 0)), (q423, zI K 8 (fun _ => 0)), (q432, zI K 768 (fun _ => 0)), (q441, zI K 768 (fun _ => 0)), (q450, zZ K 768 (fun _ => 0)), (q459, zI K 6144 (fun _ => 0)), (q473, zI K 1280 (fun _ => 0)), (q482, zI K 1024 (fun _ => 0))] H locs := hw
  refine lv_aload_n hx hb zd_LassoFinderModel_init_487 rfl (lv_at hl 0 rfl) ?_
  refine lv_iconst (v := (-1)) hx hb zd_LassoFinderModel_init_488 (by decide) ?_
  refine z_put hx hb hts hown hK hw zZ12 0 rfl 82 (by decide) zc_445 rfl rfl rfl (Nat.le_of_ble_eq_true rfl) zd_LassoFinderModel_init_489 (fun H locs hw => ?_)
  refine lv_aload_n hx hb zd_LassoFinderModel_init_492 rfl (lv_at hl 0 rfl) ?_
  refine lv_bipush (v := 61) hx hb zd_LassoFinderModel_init_493 (by decide) ?_
  refine z_newI (N' := 61) hx hb (hts _ zc_238) hK hw hA (by decide) (by decide) (Nat.le_of_ble_eq_true rfl) (Nat.le_of_ble_eq_true rfl) (Nat.le_of_ble_eq_true rfl) zd_LassoFinderModel_init_495 (fun q495 H hw => ?_)
  refine z_putF hx hb hts hown hin hK hw zZ12 0 rfl 83 (by decide) zc_446 rfl rfl rfl rfl (Nat.le_of_ble_eq_true rfl) zd_LassoFinderModel_init_497 (fun H locs hw => ?_)
  exact z_vret (u := (fun k => ([q8, q21, q29, q37, q44, q53, q62, q71, q80, q89, q98, q107, q116, q125, q134, q143, q152, q161, q169, q178, q185, q192, q200, q208, q216, q225, q233, q241, q249, q258, q266, q274, q283, q292, q301, q310, q318, q327, q335, q342, q350, q357, q366, q375, q384, q391, q399, q407, q415, q423, q432, q441, q450, q459, q473, q482, q495] : List Nat).getD k 0)) hx hb hr hlocks hw [0, 1, 2, 3, 4, 5, 6, 7, 8, 9, 10, 11, 12, 13, 14, 15, 16, 17, 18, 19, 20, 21, 22, 23, 24, 25, 26, 27, 28, 29, 30, 31, 32, 33, 34, 35, 36, 37, 38, 39, 40, 41, 42, 43, 44, 45, 46, 47, 48, 49, 50, 51, 52, 53, 54, 55, 56, 57] rfl (by decide) trivial (Nat.le_of_ble_eq_true rfl) (Nat.le_of_ble_eq_true rfl) zd_LassoFinderModel_init_500
