theorem zq_373 : Cond.methodLink "LassoFinderLaw" 89 ⟨"LassoFinder", "steps", "()I"⟩ ∈ zTB := z_in (zt_3 _ (List.mem_of_getElem? (i := 42) rfl)) rfl
theorem zq_374 : Cond.methodLink "LassoFinderLaw" 92 ⟨"LassoFinderModel", "steps", "()I"⟩ ∈ zTB := z_in (zt_8 _ (List.mem_of_getElem? (i := 141) rfl)) rfl
theorem zq_375 : Cond.methodLink "LassoFinderLaw" 93 ⟨"LassoFinderLaw", "go", "(LLassoFinder;I[J)I"⟩ ∈ zTB := z_in (zt_6 _ (List.mem_of_getElem? (i := 64) rfl)) rfl
theorem zq_376 : Cond.methodLink "LassoFinderLaw" 96 ⟨"LassoFinderModel", "go", "(I)I"⟩ ∈ zTB := z_in (zt_8 _ (List.mem_of_getElem? (i := 145) rfl)) rfl
theorem zq_377 : Cond.methodLink "LassoFinderLaw" 97 ⟨"LassoFinder", "value", "(I)I"⟩ ∈ zTB := z_in (zt_3 _ (List.mem_of_getElem? (i := 50) rfl)) rfl
theorem zq_378 : Cond.methodLink "LassoFinderLaw" 100 ⟨"LassoFinderModel", "value", "(I)I"⟩ ∈ zTB := z_in (zt_8 _ (List.mem_of_getElem? (i := 149) rfl)) rfl
theorem zq_379 : Cond.methodLink "LassoFinderLaw" 101 ⟨"LassoFinder", "message", "(II)I"⟩ ∈ zTB := z_in (zt_3 _ (List.mem_of_getElem? (i := 62) rfl)) rfl
theorem zq_380 : Cond.methodLink "LassoFinderLaw" 104 ⟨"LassoFinderModel", "message", "(II)I"⟩ ∈ zTB := z_in (zt_8 _ (List.mem_of_getElem? (i := 157) rfl)) rfl
theorem zq_381 : Cond.methodLink "LassoFinderLaw" 105 ⟨"LassoFinder", "point", "(I)I"⟩ ∈ zTB := z_in (zt_3 _ (List.mem_of_getElem? (i := 70) rfl)) rfl
theorem zq_382 : Cond.methodLink "LassoFinderLaw" 108 ⟨"LassoFinderModel", "point", "(I)I"⟩ ∈ zTB := z_in (zt_8 _ (List.mem_of_getElem? (i := 161) rfl)) rfl
theorem zq_442 : Cond.code ⟨"LassoFinder", "steps", "()I"⟩ prog_1_method_11_code 1 (some .int) ∈ zTB := z_in (zt_3 _ (List.mem_of_getElem? (i := 45) rfl)) rfl
theorem zq_443 : Cond.selects "LassoFinder" ⟨"LassoFinder", "steps", "()I"⟩ ⟨"LassoFinder", "steps", "()I"⟩ ∈ zTB := z_in (zt_3 _ (List.mem_of_getElem? (i := 44) rfl)) rfl
theorem zq_444 : Cond.instanceMethod ⟨"LassoFinder", "steps", "()I"⟩ ∈ zTB := z_in (zt_3 _ (List.mem_of_getElem? (i := 43) rfl)) rfl
theorem zq_445 : Cond.code ⟨"LassoFinderModel", "steps", "()I"⟩ prog_14_method_71_code 1 (some .int) ∈ zTB := z_in (zt_8 _ (List.mem_of_getElem? (i := 144) rfl)) rfl
theorem zq_446 : Cond.selects "LassoFinderModel" ⟨"LassoFinderModel", "steps", "()I"⟩ ⟨"LassoFinderModel", "steps", "()I"⟩ ∈ zTB := z_in (zt_8 _ (List.mem_of_getElem? (i := 143) rfl)) rfl
theorem zq_447 : Cond.instanceMethod ⟨"LassoFinderModel", "steps", "()I"⟩ ∈ zTB := z_in (zt_8 _ (List.mem_of_getElem? (i := 142) rfl)) rfl
theorem zq_448 : Cond.codeWith ⟨"LassoFinderLaw", "go", "(LLassoFinder;I[J)I"⟩ method_8_code 4 (some .int) [(0, 9, 12, 20), (0, 9, 15, 30), (0, 9, 18, 15)] ∈ zTB := z_in (zt_6 _ (List.mem_of_getElem? (i := 66) rfl)) rfl
theorem zq_449 : Cond.static ⟨"LassoFinderLaw", "go", "(LLassoFinder;I[J)I"⟩ ∈ zTB := z_in (zt_6 _ (List.mem_of_getElem? (i := 65) rfl)) rfl
theorem zq_450 : Cond.code ⟨"LassoFinderModel", "go", "(I)I"⟩ prog_14_method_72_code 3 (some .int) ∈ zTB := z_in (zt_8 _ (List.mem_of_getElem? (i := 148) rfl)) rfl
theorem zq_451 : Cond.selects "LassoFinderModel" ⟨"LassoFinderModel", "go", "(I)I"⟩ ⟨"LassoFinderModel", "go", "(I)I"⟩ ∈ zTB := z_in (zt_8 _ (List.mem_of_getElem? (i := 147) rfl)) rfl
theorem zq_452 : Cond.instanceMethod ⟨"LassoFinderModel", "go", "(I)I"⟩ ∈ zTB := z_in (zt_8 _ (List.mem_of_getElem? (i := 146) rfl)) rfl
theorem zq_453 : Cond.code ⟨"LassoFinder", "value", "(I)I"⟩ prog_1_method_13_code 2 (some .int) ∈ zTB := z_in (zt_3 _ (List.mem_of_getElem? (i := 53) rfl)) rfl
theorem zq_454 : Cond.selects "LassoFinder" ⟨"LassoFinder", "value", "(I)I"⟩ ⟨"LassoFinder", "value", "(I)I"⟩ ∈ zTB := z_in (zt_3 _ (List.mem_of_getElem? (i := 52) rfl)) rfl
theorem zq_455 : Cond.instanceMethod ⟨"LassoFinder", "value", "(I)I"⟩ ∈ zTB := z_in (zt_3 _ (List.mem_of_getElem? (i := 51) rfl)) rfl
theorem zq_456 : Cond.code ⟨"LassoFinderModel", "value", "(I)I"⟩ prog_14_method_74_code 2 (some .int) ∈ zTB := z_in (zt_8 _ (List.mem_of_getElem? (i := 152) rfl)) rfl
theorem zq_457 : Cond.selects "LassoFinderModel" ⟨"LassoFinderModel", "value", "(I)I"⟩ ⟨"LassoFinderModel", "value", "(I)I"⟩ ∈ zTB := z_in (zt_8 _ (List.mem_of_getElem? (i := 151) rfl)) rfl
theorem zq_458 : Cond.instanceMethod ⟨"LassoFinderModel", "value", "(I)I"⟩ ∈ zTB := z_in (zt_8 _ (List.mem_of_getElem? (i := 150) rfl)) rfl
theorem zq_459 : Cond.code ⟨"LassoFinder", "message", "(II)I"⟩ prog_1_method_14_code 3 (some .int) ∈ zTB := z_in (zt_3 _ (List.mem_of_getElem? (i := 65) rfl)) rfl
theorem zq_460 : Cond.selects "LassoFinder" ⟨"LassoFinder", "message", "(II)I"⟩ ⟨"LassoFinder", "message", "(II)I"⟩ ∈ zTB := z_in (zt_3 _ (List.mem_of_getElem? (i := 64) rfl)) rfl
theorem zq_461 : Cond.instanceMethod ⟨"LassoFinder", "message", "(II)I"⟩ ∈ zTB := z_in (zt_3 _ (List.mem_of_getElem? (i := 63) rfl)) rfl
theorem zq_462 : Cond.code ⟨"LassoFinderModel", "message", "(II)I"⟩ prog_14_method_75_code 3 (some .int) ∈ zTB := z_in (zt_8 _ (List.mem_of_getElem? (i := 160) rfl)) rfl
theorem zq_463 : Cond.selects "LassoFinderModel" ⟨"LassoFinderModel", "message", "(II)I"⟩ ⟨"LassoFinderModel", "message", "(II)I"⟩ ∈ zTB := z_in (zt_8 _ (List.mem_of_getElem? (i := 159) rfl)) rfl
theorem zq_464 : Cond.instanceMethod ⟨"LassoFinderModel", "message", "(II)I"⟩ ∈ zTB := z_in (zt_8 _ (List.mem_of_getElem? (i := 158) rfl)) rfl
theorem zq_465 : Cond.code ⟨"LassoFinder", "point", "(I)I"⟩ prog_1_method_15_code 2 (some .int) ∈ zTB := z_in (zt_3 _ (List.mem_of_getElem? (i := 73) rfl)) rfl
theorem zq_466 : Cond.selects "LassoFinder" ⟨"LassoFinder", "point", "(I)I"⟩ ⟨"LassoFinder", "point", "(I)I"⟩ ∈ zTB := z_in (zt_3 _ (List.mem_of_getElem? (i := 72) rfl)) rfl
theorem zq_467 : Cond.instanceMethod ⟨"LassoFinder", "point", "(I)I"⟩ ∈ zTB := z_in (zt_3 _ (List.mem_of_getElem? (i := 71) rfl)) rfl
theorem zq_468 : Cond.code ⟨"LassoFinderModel", "point", "(I)I"⟩ prog_14_method_76_code 2 (some .int) ∈ zTB := z_in (zt_8 _ (List.mem_of_getElem? (i := 164) rfl)) rfl
theorem zq_469 : Cond.selects "LassoFinderModel" ⟨"LassoFinderModel", "point", "(I)I"⟩ ⟨"LassoFinderModel", "point", "(I)I"⟩ ∈ zTB := z_in (zt_8 _ (List.mem_of_getElem? (i := 163) rfl)) rfl
theorem zq_470 : Cond.instanceMethod ⟨"LassoFinderModel", "point", "(I)I"⟩ ∈ zTB := z_in (zt_8 _ (List.mem_of_getElem? (i := 162) rfl)) rfl
theorem zf_LassoFinder_steps : zFaceV zy_LassoFinder_steps prog_1_method_11_code 1 (some .int) 0 := ⟨zq_444, zq_443, zm_1, zq_442, by decide +kernel, by decide +kernel, by decide +kernel⟩
theorem zf_LassoFinderModel_steps : zFaceV zy_LassoFinderModel_steps prog_14_method_71_code 1 (some .int) 0 := ⟨zq_447, zq_446, zm_25, zq_445, by decide +kernel, by decide +kernel, by decide +kernel⟩
theorem zf_LassoFinderLaw_go : zFaceSW zy_LassoFinderLaw_go method_8_code 4 (some .int) [(0, 9, 12, 20), (0, 9, 15, 30), (0, 9, 18, 15)] 3 := ⟨zq_449, zq_396, zq_448, by decide +kernel, by decide +kernel, by decide +kernel⟩
theorem zf_LassoFinderModel_go : zFaceV zy_LassoFinderModel_go prog_14_method_72_code 3 (some .int) 1 := ⟨zq_452, zq_451, zm_25, zq_450, by decide +kernel, by decide +kernel, by decide +kernel⟩
theorem zf_LassoFinder_value : zFaceV zy_LassoFinder_value prog_1_method_13_code 2 (some .int) 1 := ⟨zq_455, zq_454, zm_1, zq_453, by decide +kernel, by decide +kernel, by decide +kernel⟩
theorem zf_LassoFinderModel_value : zFaceV zy_LassoFinderModel_value prog_14_method_74_code 2 (some .int) 1 := ⟨zq_458, zq_457, zm_25, zq_456, by decide +kernel, by decide +kernel, by decide +kernel⟩
theorem zf_LassoFinder_message : zFaceV zy_LassoFinder_message prog_1_method_14_code 3 (some .int) 2 := ⟨zq_461, zq_460, zm_1, zq_459, by decide +kernel, by decide +kernel, by decide +kernel⟩
theorem zf_LassoFinderModel_message : zFaceV zy_LassoFinderModel_message prog_14_method_75_code 3 (some .int) 2 := ⟨zq_464, zq_463, zm_25, zq_462, by decide +kernel, by decide +kernel, by decide +kernel⟩
theorem zf_LassoFinder_point : zFaceV zy_LassoFinder_point prog_1_method_15_code 2 (some .int) 1 := ⟨zq_467, zq_466, zm_1, zq_465, by decide +kernel, by decide +kernel, by decide +kernel⟩
theorem zf_LassoFinderModel_point : zFaceV zy_LassoFinderModel_point prog_14_method_76_code 2 (some .int) 1 := ⟨zq_470, zq_469, zm_25, zq_468, by decide +kernel, by decide +kernel, by decide +kernel⟩
theorem zd_LassoFinderLaw_law_447 : decode code 447 = .ok (.aload_n 1, 1) := by decide +kernel
theorem zd_LassoFinderLaw_law_448 : decode code 448 = .ok (.invokevirtual 89, 3) := by decide +kernel
theorem zd_LassoFinderLaw_law_451 : decode code 451 = .ok (.aload_n 2, 1) := by decide +kernel
theorem zd_LassoFinderLaw_law_452 : decode code 452 = .ok (.invokevirtual 92, 3) := by decide +kernel
theorem zd_LassoFinderLaw_law_455 : decode code 455 = .ok (.if_icmp .eq 249, 3) := by decide +kernel
theorem zd_LassoFinderLaw_law_460 : decode code 460 = .ok (.aload_n 1, 1) := by decide +kernel
theorem zd_LassoFinderLaw_law_461 : decode code 461 = .ok (.aload_n 0, 1) := by decide +kernel
theorem zd_LassoFinderLaw_law_462 : decode code 462 = .ok (.iload 4, 2) := by decide +kernel
theorem zd_LassoFinderLaw_law_464 : decode code 464 = .ok (.iconst 1, 1) := by decide +kernel
theorem zd_LassoFinderLaw_law_465 : decode code 465 = .ok (.iadd, 1) := by decide +kernel
theorem zd_LassoFinderLaw_law_466 : decode code 466 = .ok (.iaload, 1) := by decide +kernel
theorem zd_LassoFinderLaw_law_467 : decode code 467 = .ok (.aload_n 3, 1) := by decide +kernel
theorem zd_LassoFinderLaw_law_468 : decode code 468 = .ok (.invokestatic 93, 3) := by decide +kernel
theorem zd_LassoFinderLaw_law_471 : decode code 471 = .ok (.istore 5, 2) := by decide +kernel
theorem zd_LassoFinderLaw_law_473 : decode code 473 = .ok (.aload_n 2, 1) := by decide +kernel
theorem zd_LassoFinderLaw_law_474 : decode code 474 = .ok (.aload_n 0, 1) := by decide +kernel
theorem zd_LassoFinderLaw_law_475 : decode code 475 = .ok (.iload 4, 2) := by decide +kernel
theorem zd_LassoFinderLaw_law_477 : decode code 477 = .ok (.iconst 1, 1) := by decide +kernel
theorem zd_LassoFinderLaw_law_478 : decode code 478 = .ok (.iadd, 1) := by decide +kernel
theorem zd_LassoFinderLaw_law_479 : decode code 479 = .ok (.iaload, 1) := by decide +kernel
theorem zd_LassoFinderLaw_law_480 : decode code 480 = .ok (.invokevirtual 96, 3) := by decide +kernel
theorem zd_LassoFinderLaw_law_483 : decode code 483 = .ok (.istore 6, 2) := by decide +kernel
theorem zd_LassoFinderLaw_law_485 : decode code 485 = .ok (.aload_n 2, 1) := by decide +kernel
theorem zd_LassoFinderLaw_law_486 : decode code 486 = .ok (.invokevirtual 60, 3) := by decide +kernel
theorem zd_LassoFinderLaw_law_489 : decode code 489 = .ok (.iload 5, 2) := by decide +kernel
theorem zd_LassoFinderLaw_law_491 : decode code 491 = .ok (.if_icmp .eq 5, 3) := by decide +kernel
theorem zd_LassoFinderLaw_law_496 : decode code 496 = .ok (.iload 5, 2) := by decide +kernel
theorem zd_LassoFinderLaw_law_498 : decode code 498 = .ok (.ifCond .ne 15, 3) := by decide +kernel
theorem zd_LassoFinderLaw_law_501 : decode code 501 = .ok (.aload_n 3, 1) := by decide +kernel
theorem zd_LassoFinderLaw_law_502 : decode code 502 = .ok (.iconst 0, 1) := by decide +kernel
theorem zd_LassoFinderLaw_law_503 : decode code 503 = .ok (.laload, 1) := by decide +kernel
theorem zd_LassoFinderLaw_law_504 : decode code 504 = .ok (.iload 6, 2) := by decide +kernel
theorem zd_LassoFinderLaw_law_506 : decode code 506 = .ok (.i2l, 1) := by decide +kernel
theorem zd_LassoFinderLaw_law_507 : decode code 507 = .ok (.lcmp, 1) := by decide +kernel
theorem zd_LassoFinderLaw_law_508 : decode code 508 = .ok (.ifCond .eq 5, 3) := by decide +kernel
theorem zd_LassoFinderLaw_law_513 : decode code 513 = .ok (.goto 191, 3) := by decide +kernel
theorem zd_LassoFinderLaw_law_516 : decode code 516 = .ok (.aload_n 1, 1) := by decide +kernel
theorem zd_LassoFinderLaw_law_517 : decode code 517 = .ok (.aload_n 0, 1) := by decide +kernel
theorem zd_LassoFinderLaw_law_518 : decode code 518 = .ok (.iload 4, 2) := by decide +kernel
theorem zd_LassoFinderLaw_law_520 : decode code 520 = .ok (.iconst 1, 1) := by decide +kernel
theorem zd_LassoFinderLaw_law_521 : decode code 521 = .ok (.iadd, 1) := by decide +kernel
theorem zd_LassoFinderLaw_law_522 : decode code 522 = .ok (.iaload, 1) := by decide +kernel
theorem zd_LassoFinderLaw_law_523 : decode code 523 = .ok (.invokevirtual 97, 3) := by decide +kernel
theorem zd_LassoFinderLaw_law_526 : decode code 526 = .ok (.aload_n 2, 1) := by decide +kernel
theorem zd_LassoFinderLaw_law_527 : decode code 527 = .ok (.aload_n 0, 1) := by decide +kernel
theorem zd_LassoFinderLaw_law_528 : decode code 528 = .ok (.iload 4, 2) := by decide +kernel
theorem zd_LassoFinderLaw_law_530 : decode code 530 = .ok (.iconst 1, 1) := by decide +kernel
theorem zd_LassoFinderLaw_law_531 : decode code 531 = .ok (.iadd, 1) := by decide +kernel
theorem zd_LassoFinderLaw_law_532 : decode code 532 = .ok (.iaload, 1) := by decide +kernel
theorem zd_LassoFinderLaw_law_533 : decode code 533 = .ok (.invokevirtual 100, 3) := by decide +kernel
theorem zd_LassoFinderLaw_law_536 : decode code 536 = .ok (.if_icmp .eq 168, 3) := by decide +kernel
theorem zd_LassoFinderLaw_law_541 : decode code 541 = .ok (.aload_n 1, 1) := by decide +kernel
theorem zd_LassoFinderLaw_law_542 : decode code 542 = .ok (.aload_n 0, 1) := by decide +kernel
theorem zd_LassoFinderLaw_law_543 : decode code 543 = .ok (.iload 4, 2) := by decide +kernel
theorem zd_LassoFinderLaw_law_545 : decode code 545 = .ok (.iconst 1, 1) := by decide +kernel
theorem zd_LassoFinderLaw_law_546 : decode code 546 = .ok (.iadd, 1) := by decide +kernel
theorem zd_LassoFinderLaw_law_547 : decode code 547 = .ok (.iaload, 1) := by decide +kernel
theorem zd_LassoFinderLaw_law_548 : decode code 548 = .ok (.aload_n 0, 1) := by decide +kernel
theorem zd_LassoFinderLaw_law_549 : decode code 549 = .ok (.iload 4, 2) := by decide +kernel
theorem zd_LassoFinderLaw_law_551 : decode code 551 = .ok (.iconst 2, 1) := by decide +kernel
theorem zd_LassoFinderLaw_law_552 : decode code 552 = .ok (.iadd, 1) := by decide +kernel
theorem zd_LassoFinderLaw_law_553 : decode code 553 = .ok (.iaload, 1) := by decide +kernel
theorem zd_LassoFinderLaw_law_554 : decode code 554 = .ok (.invokevirtual 101, 3) := by decide +kernel
theorem zd_LassoFinderLaw_law_557 : decode code 557 = .ok (.aload_n 2, 1) := by decide +kernel
theorem zd_LassoFinderLaw_law_558 : decode code 558 = .ok (.aload_n 0, 1) := by decide +kernel
theorem zd_LassoFinderLaw_law_559 : decode code 559 = .ok (.iload 4, 2) := by decide +kernel
theorem zd_LassoFinderLaw_law_561 : decode code 561 = .ok (.iconst 1, 1) := by decide +kernel
theorem zd_LassoFinderLaw_law_562 : decode code 562 = .ok (.iadd, 1) := by decide +kernel
theorem zd_LassoFinderLaw_law_563 : decode code 563 = .ok (.iaload, 1) := by decide +kernel
theorem zd_LassoFinderLaw_law_564 : decode code 564 = .ok (.aload_n 0, 1) := by decide +kernel
theorem zd_LassoFinderLaw_law_565 : decode code 565 = .ok (.iload 4, 2) := by decide +kernel
theorem zd_LassoFinderLaw_law_567 : decode code 567 = .ok (.iconst 2, 1) := by decide +kernel
theorem zd_LassoFinderLaw_law_568 : decode code 568 = .ok (.iadd, 1) := by decide +kernel
theorem zd_LassoFinderLaw_law_569 : decode code 569 = .ok (.iaload, 1) := by decide +kernel
theorem zd_LassoFinderLaw_law_570 : decode code 570 = .ok (.invokevirtual 104, 3) := by decide +kernel
theorem zd_LassoFinderLaw_law_573 : decode code 573 = .ok (.if_icmp .eq 131, 3) := by decide +kernel
theorem zd_LassoFinderLaw_law_578 : decode code 578 = .ok (.aload_n 1, 1) := by decide +kernel
theorem zd_LassoFinderLaw_law_579 : decode code 579 = .ok (.aload_n 0, 1) := by decide +kernel
theorem zd_LassoFinderLaw_law_580 : decode code 580 = .ok (.iload 4, 2) := by decide +kernel
theorem zd_LassoFinderLaw_law_582 : decode code 582 = .ok (.iconst 1, 1) := by decide +kernel
theorem zd_LassoFinderLaw_law_583 : decode code 583 = .ok (.iadd, 1) := by decide +kernel
theorem zd_LassoFinderLaw_law_584 : decode code 584 = .ok (.iaload, 1) := by decide +kernel
theorem zd_LassoFinderLaw_law_585 : decode code 585 = .ok (.invokevirtual 105, 3) := by decide +kernel
theorem zd_LassoFinderLaw_law_588 : decode code 588 = .ok (.aload_n 2, 1) := by decide +kernel
theorem zd_LassoFinderLaw_law_589 : decode code 589 = .ok (.aload_n 0, 1) := by decide +kernel
theorem zd_LassoFinderLaw_law_590 : decode code 590 = .ok (.iload 4, 2) := by decide +kernel
theorem zd_LassoFinderLaw_law_592 : decode code 592 = .ok (.iconst 1, 1) := by decide +kernel
theorem zd_LassoFinderLaw_law_593 : decode code 593 = .ok (.iadd, 1) := by decide +kernel
theorem zd_LassoFinderLaw_law_594 : decode code 594 = .ok (.iaload, 1) := by decide +kernel
theorem zd_LassoFinderLaw_law_595 : decode code 595 = .ok (.invokevirtual 108, 3) := by decide +kernel
theorem zd_LassoFinderLaw_law_598 : decode code 598 = .ok (.if_icmp .eq 106, 3) := by decide +kernel
set_option maxHeartbeats 8000000 in
set_option maxRecDepth 100000 in
theorem zc9_N {p : Program} {l : Launch} {e : Env} {s : State} {m : MethodId} {below : List Frame} {meth : Method} {c : Code} {A : Nat → Prop} {G : va_G} {K : Nat → ClassId} {b L : Nat} {xs : Nat → Int32} (C : zCL p l s m b L xs meth c A G K) {ad am : Nat → Nat} {i8 c9 s9 : Nat} (KN : ((Nat → Int32) → (Nat → Int64) → (Nat → Nat → Int32) → (Nat → Nat → Int64) → (Nat → Int32) → (Nat → Int64) → (Nat → Nat → Int32) → (Nat → Nat → Int64) → Prop)) (kh : ∀ (I : Nat → Int32) (J : Nat → Int64) (B : Nat → Nat → Int32) (D : Nat → Nat → Int64) (I9 : Nat → Int32) (J9 : Nat → Int64) (B9 : Nat → Nat → Int32) (D9 : Nat → Nat → Int64) (ls : Array Slot) (H : Heap) (locs : List Loc), KN I J B D I9 J9 B9 D9 → lv_has ls 7 [(4, .int (nI i8)), (3, .ref (ad 77)), (2, .ref (am 0)), (1, .ref (ad 0)), (0, .ref b)] → zW G A s.heap (wLN ad am K I J B D I9 J9 B9 D9) H locs → W p l e room_1 s m #[Value.ref b] below meth c H locs (c9 + 1) (s9 + 6) (lw_Z below #[Value.ref b] s) (F0 m 704 ls [])) (hi : i8 + 3 ≤ L) (hL : L ≤ 1536) {a8 b8 : Int32} (h81 : xs (i8 + 1) = a8) (h82 : xs (i8 + 2) = b8) (hrc : c9 + 1 ≤ 601024) (hrs : s9 + 6 ≤ 7293033) : ∀ (I : Nat → Int32) (J : Nat → Int64) (B : Nat → Nat → Int32) (D : Nat → Nat → Int64) (I9 : Nat → Int32) (J9 : Nat → Int64) (B9 : Nat → Nat → Int32) (D9 : Nat → Nat → Int64) (ls : Array Slot) (H : Heap) (locs : List Loc), lc9_N KN a8 b8 I J B D I9 J9 B9 D9 → lv_has ls 7 [(4, .int (nI i8)), (3, .ref (ad 77)), (2, .ref (am 0)), (1, .ref (ad 0)), (0, .ref b)] → zW G A s.heap (wLN ad am K I J B D I9 J9 B9 D9) H locs → W p l e room_1 s m #[Value.ref b] below meth c H locs c9 s9 (lw_Z below #[Value.ref b] s) (F0 m 447 ls []) := by
  intro I J B D I9 J9 B9 D9 ls H locs hok hl hw
  obtain ⟨hx, hb, hr, hml, hts, hown, hlocks, hA, hA9, hbA, hK, hT, hX, hbl, hlt⟩ := id C
  have hrc : c9 + 1 ≤ room_1.cells := hrc
  have hrs : s9 + 6 ≤ room_1.slots := hrs
  unfold lc9_N at hok
  have hl : lv_has ls 7 [(4, .int (nI i8)), (3, .ref (ad 77)), (2, .ref (am 0)), (1, .ref (ad 0)), (0, .ref b)] := hl
  have hw : zW G A s.heap (wLN ad am K I J B D I9 J9 B9 D9) H locs := hw
  refine lv_aload_n hx hb zd_LassoFinderLaw_law_447 rfl (lv_at hl 3 rfl) ?_
  refine z_calli (w1 := fun (u : zS) => wX ad K Value.null u.1 u.2.1 u.2.2.1 u.2.2.2) (wr := ((ad 77, zJ K 1 (D 3)) :: wM am K I9 J9 B9 D9)) (z_runV (q0 := 1) (wc := (wX ad K Value.null I J B D)) (As := []) (rest := []) ⟨hx, hb, hml, hown, hts⟩ (w_LassoFinder_steps_N l G K ad I J B D  _ H.size hok) zf_LassoFinder_steps zq_373 ⟨(Nat.le_of_ble_eq_true rfl), (Nat.le_of_ble_eq_true rfl)⟩ hK hw (List.range' 1 65) wLN_X wLN_ndX wLN_gx rfl rfl hl.1 rfl (Nat.le_of_ble_eq_true rfl) zd_LassoFinderLaw_law_448 ⟨(by first | omega | (dsimp only; omega)), (by first | omega | (dsimp only; omega))⟩) hw hA (List.range' 1 65) (0 :: List.range' 66 58) wLN_X wLN_R wLN_ndR wLN_disRX (fun r1 u H locs hok hw => ?_)
  obtain ⟨I1, J1, B1, D1⟩ := u
  dsimp only at hok
  have hw := wLN_bX hw
  have hw : zW G A s.heap (wLN ad am K I1 J1 B1 (zmix 3 D1 D) I9 J9 B9 D9) H locs := hw
  refine lv_aload_n hx hb zd_LassoFinderLaw_law_451 rfl (lv_at hl 2 rfl) ?_
  refine z_calli (w1 := fun (u : zS) => wM am K u.1 u.2.1 u.2.2.1 u.2.2.2) (wr := (wPN ad K I1 J1 B1 (zmix 3 D1 D))) (z_runV (q0 := 66) (wc := (wM am K I9 J9 B9 D9)) (As := []) (rest := [.int r1]) ⟨hx, hb, hml, hown, hts⟩ (w_LassoFinderModel_steps l G K am I9 J9 B9 D9  _ H.size hok) zf_LassoFinderModel_steps zq_374 ⟨(Nat.le_of_ble_eq_true rfl), (Nat.le_of_ble_eq_true rfl)⟩ hK hw (List.range' 66 58) wLN_M wLN_ndM wLN_gm rfl rfl hl.1 rfl (Nat.le_of_ble_eq_true rfl) zd_LassoFinderLaw_law_452 ⟨(by first | omega | (dsimp only; omega)), (by first | omega | (dsimp only; omega))⟩) hw hA (List.range' 66 58) (List.range 66) wLN_M wLN_P wLN_ndP wLN_disPM (fun r2 u H locs hok hw => ?_)
  obtain ⟨I2, J2, B2, D2⟩ := u
  dsimp only at hok
  have hw := wLN_bM hw
  have hw : zW G A s.heap (wLN ad am K I1 J1 B1 (zmix 3 D1 D) I2 J2 B2 D2) H locs := hw
  refine lv_icmp_eq (tgt := 704) hx hb zd_LassoFinderLaw_law_455 (by decide) (fun hc3 => ?_) (fun hc3 => ?_)
  · have hok := hok.1 hc3
    refine W.widen (k := c9 + 1) (n := s9 + 6) (by first | omega | (dsimp only; omega)) (by first | omega | (dsimp only; omega)) ?_
    exact kh I1 J1 B1 (zmix 3 D1 D) I2 J2 B2 D2 ls H locs hok (lv_sub hl [0, 1, 2, 3, 4] rfl) hw
  · have hok := hok.2 hc3
    exact hok.elim
set_option maxHeartbeats 8000000 in
set_option maxRecDepth 100000 in
theorem zc10_N {p : Program} {l : Launch} {e : Env} {s : State} {m : MethodId} {below : List Frame} {meth : Method} {c : Code} {A : Nat → Prop} {G : va_G} {K : Nat → ClassId} {b L : Nat} {xs : Nat → Int32} (C : zCL p l s m b L xs meth c A G K) {ad am : Nat → Nat} {i8 c9 s9 : Nat} (KN : ((Nat → Int32) → (Nat → Int64) → (Nat → Nat → Int32) → (Nat → Nat → Int64) → (Nat → Int32) → (Nat → Int64) → (Nat → Nat → Int32) → (Nat → Nat → Int64) → Prop)) (kh : ∀ (I : Nat → Int32) (J : Nat → Int64) (B : Nat → Nat → Int32) (D : Nat → Nat → Int64) (I9 : Nat → Int32) (J9 : Nat → Int64) (B9 : Nat → Nat → Int32) (D9 : Nat → Nat → Int64) (ls : Array Slot) (H : Heap) (locs : List Loc), KN I J B D I9 J9 B9 D9 → lv_has ls 7 [(4, .int (nI i8)), (3, .ref (ad 77)), (2, .ref (am 0)), (1, .ref (ad 0)), (0, .ref b)] → zW G A s.heap (wLN ad am K I J B D I9 J9 B9 D9) H locs → W p l e room_1 s m #[Value.ref b] below meth c H locs (c9 + 1) (s9 + 6) (lw_Z below #[Value.ref b] s) (F0 m 704 ls [])) (hi : i8 + 3 ≤ L) (hL : L ≤ 1536) {a8 b8 : Int32} (h81 : xs (i8 + 1) = a8) (h82 : xs (i8 + 2) = b8) (hrc : c9 + 1 ≤ 601024) (hrs : s9 + 6 ≤ 7293033) : ∀ (I : Nat → Int32) (J : Nat → Int64) (B : Nat → Nat → Int32) (D : Nat → Nat → Int64) (I9 : Nat → Int32) (J9 : Nat → Int64) (B9 : Nat → Nat → Int32) (D9 : Nat → Nat → Int64) (ls : Array Slot) (H : Heap) (locs : List Loc), lc10_N KN a8 b8 I J B D I9 J9 B9 D9 → lv_has ls 7 [(4, .int (nI i8)), (3, .ref (ad 77)), (2, .ref (am 0)), (1, .ref (ad 0)), (0, .ref b)] → zW G A s.heap (wLN ad am K I J B D I9 J9 B9 D9) H locs → W p l e room_1 s m #[Value.ref b] below meth c H locs c9 s9 (lw_Z below #[Value.ref b] s) (F0 m 460 ls []) := by
  intro I J B D I9 J9 B9 D9 ls H locs hok hl hw
  obtain ⟨hx, hb, hr, hml, hts, hown, hlocks, hA, hA9, hbA, hK, hT, hX, hbl, hlt⟩ := id C
  have hrc : c9 + 1 ≤ room_1.cells := hrc
  have hrs : s9 + 6 ≤ room_1.slots := hrs
  unfold lc10_N at hok
  have hl : lv_has ls 7 [(4, .int (nI i8)), (3, .ref (ad 77)), (2, .ref (am 0)), (1, .ref (ad 0)), (0, .ref b)] := hl
  have hw : zW G A s.heap (wLN ad am K I J B D I9 J9 B9 D9) H locs := hw
  refine lv_aload_n hx hb zd_LassoFinderLaw_law_460 rfl (lv_at hl 3 rfl) ?_
  refine lv_aload_n hx hb zd_LassoFinderLaw_law_461 rfl (lv_at hl 4 rfl) ?_
  refine lv_iload hx hb zd_LassoFinderLaw_law_462 (lv_at hl 0 rfl) ?_
  refine lv_iconst (v := 1) hx hb zd_LassoFinderLaw_law_464 (by decide) ?_
  refine lv_iadd hx hb zd_LassoFinderLaw_law_465 ?_
  refine lv_topi (fun z1 ez1 => ?_)
  obtain rfl : z1 = nI (i8 + 1) := ez1.trans (nI_add i8 1)
  refine va_sld hx hb hX hbl hbA hw.2.2 (i := nI (i8 + 1)) (vp_in_nI (by omega) (by omega)) zd_LassoFinderLaw_law_466 ?_
  rw [nI_clamp (show i8 + 1 < 2 ^ 31 by omega), h81]
  refine lv_aload_n hx hb zd_LassoFinderLaw_law_467 rfl (lv_at hl 1 rfl) ?_
  refine z_calli (w1 := fun (u : zS) => wPN ad K u.1 u.2.1 u.2.2.1 u.2.2.2) (wr := (wM am K I9 J9 B9 D9)) (z_runSWY (wc := (wPN ad K I J B D)) (As := [.ref (ad 0), .int a8, .ref (ad 77)]) (rest := []) ⟨hx, hb, hml, hown, hts⟩ (w_L_go_N l hlt G K ad I J B D a8 _ H.size hok) zf_LassoFinderLaw_go zq_375 ⟨(Nat.le_of_ble_eq_true rfl), (Nat.le_of_ble_eq_true rfl)⟩ hK hT hw hA (List.range 66) wLN_P wLN_ndP rfl hl.1 rfl (Nat.le_of_ble_eq_true rfl) zd_LassoFinderLaw_law_468 ⟨(by first | omega | (dsimp only; omega)), (by first | omega | (dsimp only; omega))⟩) hw hA (List.range 66) (List.range' 66 58) wLN_P wLN_M wLN_ndM wLN_disMP (fun r2 u H locs hok hw => ?_)
  obtain ⟨I2, J2, B2, D2⟩ := u
  dsimp only at hok
  have hw := wLN_bP hw
  have hw : zW G A s.heap (wLN ad am K I2 J2 B2 D2 I9 J9 B9 D9) H locs := hw
  refine lv_istore hx hb zd_LassoFinderLaw_law_471 hl (by decide) rfl (fun ls hl => ?_)
  have hl : lv_has ls 7 [(5, .int r2), (4, .int (nI i8)), (3, .ref (ad 77)), (2, .ref (am 0)), (1, .ref (ad 0)), (0, .ref b)] := hl
  refine lv_aload_n hx hb zd_LassoFinderLaw_law_473 rfl (lv_at hl 3 rfl) ?_
  refine lv_aload_n hx hb zd_LassoFinderLaw_law_474 rfl (lv_at hl 5 rfl) ?_
  refine lv_iload hx hb zd_LassoFinderLaw_law_475 (lv_at hl 1 rfl) ?_
  refine lv_iconst (v := 1) hx hb zd_LassoFinderLaw_law_477 (by decide) ?_
  refine lv_iadd hx hb zd_LassoFinderLaw_law_478 ?_
  refine lv_topi (fun z3 ez3 => ?_)
  obtain rfl : z3 = nI (i8 + 1) := ez3.trans (nI_add i8 1)
  refine va_sld hx hb hX hbl hbA hw.2.2 (i := nI (i8 + 1)) (vp_in_nI (by omega) (by omega)) zd_LassoFinderLaw_law_479 ?_
  rw [nI_clamp (show i8 + 1 < 2 ^ 31 by omega), h81]
  refine z_calli (w1 := fun (u : zS) => wM am K u.1 u.2.1 u.2.2.1 u.2.2.2) (wr := (wPN ad K I2 J2 B2 D2)) (z_runV (q0 := 66) (wc := (wM am K I9 J9 B9 D9)) (As := [.int a8]) (rest := []) ⟨hx, hb, hml, hown, hts⟩ (w_LassoFinderModel_go l G K am I9 J9 B9 D9 a8 _ H.size hok) zf_LassoFinderModel_go zq_376 ⟨(Nat.le_of_ble_eq_true rfl), (Nat.le_of_ble_eq_true rfl)⟩ hK hw (List.range' 66 58) wLN_M wLN_ndM wLN_gm rfl rfl hl.1 rfl (Nat.le_of_ble_eq_true rfl) zd_LassoFinderLaw_law_480 ⟨(by first | omega | (dsimp only; omega)), (by first | omega | (dsimp only; omega))⟩) hw hA (List.range' 66 58) (List.range 66) wLN_M wLN_P wLN_ndP wLN_disPM (fun r4 u H locs hok hw => ?_)
  obtain ⟨I4, J4, B4, D4⟩ := u
  dsimp only at hok
  have hw := wLN_bM hw
  have hw : zW G A s.heap (wLN ad am K I2 J2 B2 D2 I4 J4 B4 D4) H locs := hw
  refine lv_istore hx hb zd_LassoFinderLaw_law_483 hl (by decide) rfl (fun ls hl => ?_)
  have hl : lv_has ls 7 [(6, .int r4), (5, .int r2), (4, .int (nI i8)), (3, .ref (ad 77)), (2, .ref (am 0)), (1, .ref (ad 0)), (0, .ref b)] := hl
  refine lv_aload_n hx hb zd_LassoFinderLaw_law_485 rfl (lv_at hl 4 rfl) ?_
  refine z_calli (w1 := fun (u : zS) => wM am K u.1 u.2.1 u.2.2.1 u.2.2.2) (wr := (wPN ad K I2 J2 B2 D2)) (z_runV (q0 := 66) (wc := (wM am K I4 J4 B4 D4)) (As := []) (rest := []) ⟨hx, hb, hml, hown, hts⟩ (w_LassoFinderModel_thrown l G K am I4 J4 B4 D4  _ H.size hok) zf_LassoFinderModel_thrown zq_358 ⟨(Nat.le_of_ble_eq_true rfl), (Nat.le_of_ble_eq_true rfl)⟩ hK hw (List.range' 66 58) wLN_M wLN_ndM wLN_gm rfl rfl hl.1 rfl (Nat.le_of_ble_eq_true rfl) zd_LassoFinderLaw_law_486 ⟨(by first | omega | (dsimp only; omega)), (by first | omega | (dsimp only; omega))⟩) hw hA (List.range' 66 58) (List.range 66) wLN_M wLN_P wLN_ndP wLN_disPM (fun r5 u H locs hok hw => ?_)
  obtain ⟨I5, J5, B5, D5⟩ := u
  dsimp only at hok
  have hw := wLN_bM hw
  have hw : zW G A s.heap (wLN ad am K I2 J2 B2 D2 I5 J5 B5 D5) H locs := hw
  refine lv_iload hx hb zd_LassoFinderLaw_law_489 (lv_at hl 1 rfl) ?_
  refine lv_icmp_eq (tgt := 496) hx hb zd_LassoFinderLaw_law_491 (by decide) (fun hc6 => ?_) (fun hc6 => ?_)
  · have hok := hok.1 hc6
    refine lv_iload hx hb zd_LassoFinderLaw_law_496 (lv_at hl 1 rfl) ?_
    refine lv_if_ne (tgt := 513) hx hb zd_LassoFinderLaw_law_498 (by decide) (fun hc7 => ?_) (fun hc7 => ?_)
    · have hok := hok.1 hc7
      refine lv_goto (tgt := 704) hx hb zd_LassoFinderLaw_law_513 (by decide) ?_
      refine W.widen (k := c9 + 1) (n := s9 + 6) (by first | omega | (dsimp only; omega)) (by first | omega | (dsimp only; omega)) ?_
      exact kh I2 J2 B2 D2 I5 J5 B5 D5 ls H locs hok (lv_sub hl [2, 3, 4, 5, 6] rfl) hw
    · have hok := hok.2 hc7
      refine lv_aload_n hx hb zd_LassoFinderLaw_law_501 rfl (lv_at hl 3 rfl) ?_
      refine lv_iconst (v := 0) hx hb zd_LassoFinderLaw_law_502 (by decide) ?_
      refine va_lald (f := D2 3) hx hb hK hw.1 0 1 wLN_a0 rfl z_in0 zd_LassoFinderLaw_law_503 ?_
      refine lv_topl (fun z8 ez8 => ?_)
      have hok := hok z8 ez8
      refine lv_iload hx hb zd_LassoFinderLaw_law_504 (lv_at hl 0 rfl) ?_
      refine lv_i2l hx hb zd_LassoFinderLaw_law_506 rfl ?_
      refine lv_topl (fun z9 ez9 => ?_)
      have hok := hok z9 ez9
      refine W.lcmp hx hb zd_LassoFinderLaw_law_507 ?_
      refine lv_topi (fun z10 ez10 => ?_)
      have hok := hok z10 ez10
      refine lv_if_eq (tgt := 513) hx hb zd_LassoFinderLaw_law_508 (by decide) (fun hc11 => ?_) (fun hc11 => ?_)
      · have hok := hok.1 hc11
        refine lv_goto (tgt := 704) hx hb zd_LassoFinderLaw_law_513 (by decide) ?_
        refine W.widen (k := c9 + 1) (n := s9 + 6) (by first | omega | (dsimp only; omega)) (by first | omega | (dsimp only; omega)) ?_
        exact kh I2 J2 B2 D2 I5 J5 B5 D5 ls H locs hok (lv_sub hl [2, 3, 4, 5, 6] rfl) hw
      · have hok := hok.2 hc11
        exact hok.elim
  · have hok := hok.2 hc6
    exact hok.elim
set_option maxHeartbeats 8000000 in
set_option maxRecDepth 100000 in
theorem zc11_N {p : Program} {l : Launch} {e : Env} {s : State} {m : MethodId} {below : List Frame} {meth : Method} {c : Code} {A : Nat → Prop} {G : va_G} {K : Nat → ClassId} {b L : Nat} {xs : Nat → Int32} (C : zCL p l s m b L xs meth c A G K) {ad am : Nat → Nat} {i8 c9 s9 : Nat} (KN : ((Nat → Int32) → (Nat → Int64) → (Nat → Nat → Int32) → (Nat → Nat → Int64) → (Nat → Int32) → (Nat → Int64) → (Nat → Nat → Int32) → (Nat → Nat → Int64) → Prop)) (kh : ∀ (I : Nat → Int32) (J : Nat → Int64) (B : Nat → Nat → Int32) (D : Nat → Nat → Int64) (I9 : Nat → Int32) (J9 : Nat → Int64) (B9 : Nat → Nat → Int32) (D9 : Nat → Nat → Int64) (ls : Array Slot) (H : Heap) (locs : List Loc), KN I J B D I9 J9 B9 D9 → lv_has ls 7 [(4, .int (nI i8)), (3, .ref (ad 77)), (2, .ref (am 0)), (1, .ref (ad 0)), (0, .ref b)] → zW G A s.heap (wLN ad am K I J B D I9 J9 B9 D9) H locs → W p l e room_1 s m #[Value.ref b] below meth c H locs (c9 + 1) (s9 + 6) (lw_Z below #[Value.ref b] s) (F0 m 704 ls [])) (hi : i8 + 3 ≤ L) (hL : L ≤ 1536) {a8 b8 : Int32} (h81 : xs (i8 + 1) = a8) (h82 : xs (i8 + 2) = b8) (hrc : c9 + 1 ≤ 601024) (hrs : s9 + 6 ≤ 7293033) : ∀ (I : Nat → Int32) (J : Nat → Int64) (B : Nat → Nat → Int32) (D : Nat → Nat → Int64) (I9 : Nat → Int32) (J9 : Nat → Int64) (B9 : Nat → Nat → Int32) (D9 : Nat → Nat → Int64) (ls : Array Slot) (H : Heap) (locs : List Loc), lc11_N KN a8 b8 I J B D I9 J9 B9 D9 → lv_has ls 7 [(4, .int (nI i8)), (3, .ref (ad 77)), (2, .ref (am 0)), (1, .ref (ad 0)), (0, .ref b)] → zW G A s.heap (wLN ad am K I J B D I9 J9 B9 D9) H locs → W p l e room_1 s m #[Value.ref b] below meth c H locs c9 s9 (lw_Z below #[Value.ref b] s) (F0 m 516 ls []) := by
  intro I J B D I9 J9 B9 D9 ls H locs hok hl hw
  obtain ⟨hx, hb, hr, hml, hts, hown, hlocks, hA, hA9, hbA, hK, hT, hX, hbl, hlt⟩ := id C
  have hrc : c9 + 1 ≤ room_1.cells := hrc
  have hrs : s9 + 6 ≤ room_1.slots := hrs
  unfold lc11_N at hok
  have hl : lv_has ls 7 [(4, .int (nI i8)), (3, .ref (ad 77)), (2, .ref (am 0)), (1, .ref (ad 0)), (0, .ref b)] := hl
  have hw : zW G A s.heap (wLN ad am K I J B D I9 J9 B9 D9) H locs := hw
  refine lv_aload_n hx hb zd_LassoFinderLaw_law_516 rfl (lv_at hl 3 rfl) ?_
  refine lv_aload_n hx hb zd_LassoFinderLaw_law_517 rfl (lv_at hl 4 rfl) ?_
  refine lv_iload hx hb zd_LassoFinderLaw_law_518 (lv_at hl 0 rfl) ?_
  refine lv_iconst (v := 1) hx hb zd_LassoFinderLaw_law_520 (by decide) ?_
  refine lv_iadd hx hb zd_LassoFinderLaw_law_521 ?_
  refine lv_topi (fun z1 ez1 => ?_)
  obtain rfl : z1 = nI (i8 + 1) := ez1.trans (nI_add i8 1)
  refine va_sld hx hb hX hbl hbA hw.2.2 (i := nI (i8 + 1)) (vp_in_nI (by omega) (by omega)) zd_LassoFinderLaw_law_522 ?_
  rw [nI_clamp (show i8 + 1 < 2 ^ 31 by omega), h81]
  refine z_calli (w1 := fun (u : zS) => wX ad K Value.null u.1 u.2.1 u.2.2.1 u.2.2.2) (wr := ((ad 77, zJ K 1 (D 3)) :: wM am K I9 J9 B9 D9)) (z_runV (q0 := 1) (wc := (wX ad K Value.null I J B D)) (As := [.int a8]) (rest := []) ⟨hx, hb, hml, hown, hts⟩ (w_LassoFinder_value_N l G K ad I J B D a8 _ H.size hok) zf_LassoFinder_value zq_377 ⟨(Nat.le_of_ble_eq_true rfl), (Nat.le_of_ble_eq_true rfl)⟩ hK hw (List.range' 1 65) wLN_X wLN_ndX wLN_gx rfl rfl hl.1 rfl (Nat.le_of_ble_eq_true rfl) zd_LassoFinderLaw_law_523 ⟨(by first | omega | (dsimp only; omega)), (by first | omega | (dsimp only; omega))⟩) hw hA (List.range' 1 65) (0 :: List.range' 66 58) wLN_X wLN_R wLN_ndR wLN_disRX (fun r2 u H locs hok hw => ?_)
  obtain ⟨I2, J2, B2, D2⟩ := u
  dsimp only at hok
  have hw := wLN_bX hw
  have hw : zW G A s.heap (wLN ad am K I2 J2 B2 (zmix 3 D2 D) I9 J9 B9 D9) H locs := hw
  refine lv_aload_n hx hb zd_LassoFinderLaw_law_526 rfl (lv_at hl 2 rfl) ?_
  refine lv_aload_n hx hb zd_LassoFinderLaw_law_527 rfl (lv_at hl 4 rfl) ?_
  refine lv_iload hx hb zd_LassoFinderLaw_law_528 (lv_at hl 0 rfl) ?_
  refine lv_iconst (v := 1) hx hb zd_LassoFinderLaw_law_530 (by decide) ?_
  refine lv_iadd hx hb zd_LassoFinderLaw_law_531 ?_
  refine lv_topi (fun z3 ez3 => ?_)
  obtain rfl : z3 = nI (i8 + 1) := ez3.trans (nI_add i8 1)
  refine va_sld hx hb hX hbl hbA hw.2.2 (i := nI (i8 + 1)) (vp_in_nI (by omega) (by omega)) zd_LassoFinderLaw_law_532 ?_
  rw [nI_clamp (show i8 + 1 < 2 ^ 31 by omega), h81]
  refine z_calli (w1 := fun (u : zS) => wM am K u.1 u.2.1 u.2.2.1 u.2.2.2) (wr := (wPN ad K I2 J2 B2 (zmix 3 D2 D))) (z_runV (q0 := 66) (wc := (wM am K I9 J9 B9 D9)) (As := [.int a8]) (rest := [.int r2]) ⟨hx, hb, hml, hown, hts⟩ (w_LassoFinderModel_value l G K am I9 J9 B9 D9 a8 _ H.size hok) zf_LassoFinderModel_value zq_378 ⟨(Nat.le_of_ble_eq_true rfl), (Nat.le_of_ble_eq_true rfl)⟩ hK hw (List.range' 66 58) wLN_M wLN_ndM wLN_gm rfl rfl hl.1 rfl (Nat.le_of_ble_eq_true rfl) zd_LassoFinderLaw_law_533 ⟨(by first | omega | (dsimp only; omega)), (by first | omega | (dsimp only; omega))⟩) hw hA (List.range' 66 58) (List.range 66) wLN_M wLN_P wLN_ndP wLN_disPM (fun r4 u H locs hok hw => ?_)
  obtain ⟨I4, J4, B4, D4⟩ := u
  dsimp only at hok
  have hw := wLN_bM hw
  have hw : zW G A s.heap (wLN ad am K I2 J2 B2 (zmix 3 D2 D) I4 J4 B4 D4) H locs := hw
  refine lv_icmp_eq (tgt := 704) hx hb zd_LassoFinderLaw_law_536 (by decide) (fun hc5 => ?_) (fun hc5 => ?_)
  · have hok := hok.1 hc5
    refine W.widen (k := c9 + 1) (n := s9 + 6) (by first | omega | (dsimp only; omega)) (by first | omega | (dsimp only; omega)) ?_
    exact kh I2 J2 B2 (zmix 3 D2 D) I4 J4 B4 D4 ls H locs hok (lv_sub hl [0, 1, 2, 3, 4] rfl) hw
  · have hok := hok.2 hc5
    exact hok.elim
set_option maxHeartbeats 8000000 in
set_option maxRecDepth 100000 in
theorem zc12_N {p : Program} {l : Launch} {e : Env} {s : State} {m : MethodId} {below : List Frame} {meth : Method} {c : Code} {A : Nat → Prop} {G : va_G} {K : Nat → ClassId} {b L : Nat} {xs : Nat → Int32} (C : zCL p l s m b L xs meth c A G K) {ad am : Nat → Nat} {i8 c9 s9 : Nat} (KN : ((Nat → Int32) → (Nat → Int64) → (Nat → Nat → Int32) → (Nat → Nat → Int64) → (Nat → Int32) → (Nat → Int64) → (Nat → Nat → Int32) → (Nat → Nat → Int64) → Prop)) (kh : ∀ (I : Nat → Int32) (J : Nat → Int64) (B : Nat → Nat → Int32) (D : Nat → Nat → Int64) (I9 : Nat → Int32) (J9 : Nat → Int64) (B9 : Nat → Nat → Int32) (D9 : Nat → Nat → Int64) (ls : Array Slot) (H : Heap) (locs : List Loc), KN I J B D I9 J9 B9 D9 → lv_has ls 7 [(4, .int (nI i8)), (3, .ref (ad 77)), (2, .ref (am 0)), (1, .ref (ad 0)), (0, .ref b)] → zW G A s.heap (wLN ad am K I J B D I9 J9 B9 D9) H locs → W p l e room_1 s m #[Value.ref b] below meth c H locs (c9 + 1) (s9 + 6) (lw_Z below #[Value.ref b] s) (F0 m 704 ls [])) (hi : i8 + 3 ≤ L) (hL : L ≤ 1536) {a8 b8 : Int32} (h81 : xs (i8 + 1) = a8) (h82 : xs (i8 + 2) = b8) (hrc : c9 + 1 ≤ 601024) (hrs : s9 + 6 ≤ 7293033) : ∀ (I : Nat → Int32) (J : Nat → Int64) (B : Nat → Nat → Int32) (D : Nat → Nat → Int64) (I9 : Nat → Int32) (J9 : Nat → Int64) (B9 : Nat → Nat → Int32) (D9 : Nat → Nat → Int64) (ls : Array Slot) (H : Heap) (locs : List Loc), lc12_N KN a8 b8 I J B D I9 J9 B9 D9 → lv_has ls 7 [(4, .int (nI i8)), (3, .ref (ad 77)), (2, .ref (am 0)), (1, .ref (ad 0)), (0, .ref b)] → zW G A s.heap (wLN ad am K I J B D I9 J9 B9 D9) H locs → W p l e room_1 s m #[Value.ref b] below meth c H locs c9 s9 (lw_Z below #[Value.ref b] s) (F0 m 541 ls []) := by
  intro I J B D I9 J9 B9 D9 ls H locs hok hl hw
  obtain ⟨hx, hb, hr, hml, hts, hown, hlocks, hA, hA9, hbA, hK, hT, hX, hbl, hlt⟩ := id C
  have hrc : c9 + 1 ≤ room_1.cells := hrc
  have hrs : s9 + 6 ≤ room_1.slots := hrs
  unfold lc12_N at hok
  have hl : lv_has ls 7 [(4, .int (nI i8)), (3, .ref (ad 77)), (2, .ref (am 0)), (1, .ref (ad 0)), (0, .ref b)] := hl
  have hw : zW G A s.heap (wLN ad am K I J B D I9 J9 B9 D9) H locs := hw
  refine lv_aload_n hx hb zd_LassoFinderLaw_law_541 rfl (lv_at hl 3 rfl) ?_
  refine lv_aload_n hx hb zd_LassoFinderLaw_law_542 rfl (lv_at hl 4 rfl) ?_
  refine lv_iload hx hb zd_LassoFinderLaw_law_543 (lv_at hl 0 rfl) ?_
  refine lv_iconst (v := 1) hx hb zd_LassoFinderLaw_law_545 (by decide) ?_
  refine lv_iadd hx hb zd_LassoFinderLaw_law_546 ?_
  refine lv_topi (fun z1 ez1 => ?_)
  obtain rfl : z1 = nI (i8 + 1) := ez1.trans (nI_add i8 1)
  refine va_sld hx hb hX hbl hbA hw.2.2 (i := nI (i8 + 1)) (vp_in_nI (by omega) (by omega)) zd_LassoFinderLaw_law_547 ?_
  rw [nI_clamp (show i8 + 1 < 2 ^ 31 by omega), h81]
  refine lv_aload_n hx hb zd_LassoFinderLaw_law_548 rfl (lv_at hl 4 rfl) ?_
  refine lv_iload hx hb zd_LassoFinderLaw_law_549 (lv_at hl 0 rfl) ?_
  refine lv_iconst (v := 2) hx hb zd_LassoFinderLaw_law_551 (by decide) ?_
  refine lv_iadd hx hb zd_LassoFinderLaw_law_552 ?_
  refine lv_topi (fun z2 ez2 => ?_)
  obtain rfl : z2 = nI (i8 + 2) := ez2.trans (nI_add i8 2)
  refine va_sld hx hb hX hbl hbA hw.2.2 (i := nI (i8 + 2)) (vp_in_nI (by omega) (by omega)) zd_LassoFinderLaw_law_553 ?_
  rw [nI_clamp (show i8 + 2 < 2 ^ 31 by omega), h82]
  refine z_calli (w1 := fun (u : zS) => wX ad K Value.null u.1 u.2.1 u.2.2.1 u.2.2.2) (wr := ((ad 77, zJ K 1 (D 3)) :: wM am K I9 J9 B9 D9)) (z_runV (q0 := 1) (wc := (wX ad K Value.null I J B D)) (As := [.int a8, .int b8]) (rest := []) ⟨hx, hb, hml, hown, hts⟩ (w_LassoFinder_message_N l G K ad I J B D a8 b8 _ H.size hok) zf_LassoFinder_message zq_379 ⟨(Nat.le_of_ble_eq_true rfl), (Nat.le_of_ble_eq_true rfl)⟩ hK hw (List.range' 1 65) wLN_X wLN_ndX wLN_gx rfl rfl hl.1 rfl (Nat.le_of_ble_eq_true rfl) zd_LassoFinderLaw_law_554 ⟨(by first | omega | (dsimp only; omega)), (by first | omega | (dsimp only; omega))⟩) hw hA (List.range' 1 65) (0 :: List.range' 66 58) wLN_X wLN_R wLN_ndR wLN_disRX (fun r3 u H locs hok hw => ?_)
  obtain ⟨I3, J3, B3, D3⟩ := u
  dsimp only at hok
  have hw := wLN_bX hw
  have hw : zW G A s.heap (wLN ad am K I3 J3 B3 (zmix 3 D3 D) I9 J9 B9 D9) H locs := hw
  refine lv_aload_n hx hb zd_LassoFinderLaw_law_557 rfl (lv_at hl 2 rfl) ?_
  refine lv_aload_n hx hb zd_LassoFinderLaw_law_558 rfl (lv_at hl 4 rfl) ?_
  refine lv_iload hx hb zd_LassoFinderLaw_law_559 (lv_at hl 0 rfl) ?_
  refine lv_iconst (v := 1) hx hb zd_LassoFinderLaw_law_561 (by decide) ?_
  refine lv_iadd hx hb zd_LassoFinderLaw_law_562 ?_
  refine lv_topi (fun z4 ez4 => ?_)
  obtain rfl : z4 = nI (i8 + 1) := ez4.trans (nI_add i8 1)
  refine va_sld hx hb hX hbl hbA hw.2.2 (i := nI (i8 + 1)) (vp_in_nI (by omega) (by omega)) zd_LassoFinderLaw_law_563 ?_
  rw [nI_clamp (show i8 + 1 < 2 ^ 31 by omega), h81]
  refine lv_aload_n hx hb zd_LassoFinderLaw_law_564 rfl (lv_at hl 4 rfl) ?_
  refine lv_iload hx hb zd_LassoFinderLaw_law_565 (lv_at hl 0 rfl) ?_
  refine lv_iconst (v := 2) hx hb zd_LassoFinderLaw_law_567 (by decide) ?_
  refine lv_iadd hx hb zd_LassoFinderLaw_law_568 ?_
  refine lv_topi (fun z5 ez5 => ?_)
  obtain rfl : z5 = nI (i8 + 2) := ez5.trans (nI_add i8 2)
  refine va_sld hx hb hX hbl hbA hw.2.2 (i := nI (i8 + 2)) (vp_in_nI (by omega) (by omega)) zd_LassoFinderLaw_law_569 ?_
  rw [nI_clamp (show i8 + 2 < 2 ^ 31 by omega), h82]
  refine z_calli (w1 := fun (u : zS) => wM am K u.1 u.2.1 u.2.2.1 u.2.2.2) (wr := (wPN ad K I3 J3 B3 (zmix 3 D3 D))) (z_runV (q0 := 66) (wc := (wM am K I9 J9 B9 D9)) (As := [.int a8, .int b8]) (rest := [.int r3]) ⟨hx, hb, hml, hown, hts⟩ (w_LassoFinderModel_message l G K am I9 J9 B9 D9 a8 b8 _ H.size hok) zf_LassoFinderModel_message zq_380 ⟨(Nat.le_of_ble_eq_true rfl), (Nat.le_of_ble_eq_true rfl)⟩ hK hw (List.range' 66 58) wLN_M wLN_ndM wLN_gm rfl rfl hl.1 rfl (Nat.le_of_ble_eq_true rfl) zd_LassoFinderLaw_law_570 ⟨(by first | omega | (dsimp only; omega)), (by first | omega | (dsimp only; omega))⟩) hw hA (List.range' 66 58) (List.range 66) wLN_M wLN_P wLN_ndP wLN_disPM (fun r6 u H locs hok hw => ?_)
  obtain ⟨I6, J6, B6, D6⟩ := u
  dsimp only at hok
  have hw := wLN_bM hw
  have hw : zW G A s.heap (wLN ad am K I3 J3 B3 (zmix 3 D3 D) I6 J6 B6 D6) H locs := hw
  refine lv_icmp_eq (tgt := 704) hx hb zd_LassoFinderLaw_law_573 (by decide) (fun hc7 => ?_) (fun hc7 => ?_)
  · have hok := hok.1 hc7
    refine W.widen (k := c9 + 1) (n := s9 + 6) (by first | omega | (dsimp only; omega)) (by first | omega | (dsimp only; omega)) ?_
    exact kh I3 J3 B3 (zmix 3 D3 D) I6 J6 B6 D6 ls H locs hok (lv_sub hl [0, 1, 2, 3, 4] rfl) hw
  · have hok := hok.2 hc7
    exact hok.elim
set_option maxHeartbeats 8000000 in
set_option maxRecDepth 100000 in
theorem zc13_N {p : Program} {l : Launch} {e : Env} {s : State} {m : MethodId} {below : List Frame} {meth : Method} {c : Code} {A : Nat → Prop} {G : va_G} {K : Nat → ClassId} {b L : Nat} {xs : Nat → Int32} (C : zCL p l s m b L xs meth c A G K) {ad am : Nat → Nat} {i8 c9 s9 : Nat} (KN : ((Nat → Int32) → (Nat → Int64) → (Nat → Nat → Int32) → (Nat → Nat → Int64) → (Nat → Int32) → (Nat → Int64) → (Nat → Nat → Int32) → (Nat → Nat → Int64) → Prop)) (kh : ∀ (I : Nat → Int32) (J : Nat → Int64) (B : Nat → Nat → Int32) (D : Nat → Nat → Int64) (I9 : Nat → Int32) (J9 : Nat → Int64) (B9 : Nat → Nat → Int32) (D9 : Nat → Nat → Int64) (ls : Array Slot) (H : Heap) (locs : List Loc), KN I J B D I9 J9 B9 D9 → lv_has ls 7 [(4, .int (nI i8)), (3, .ref (ad 77)), (2, .ref (am 0)), (1, .ref (ad 0)), (0, .ref b)] → zW G A s.heap (wLN ad am K I J B D I9 J9 B9 D9) H locs → W p l e room_1 s m #[Value.ref b] below meth c H locs (c9 + 1) (s9 + 6) (lw_Z below #[Value.ref b] s) (F0 m 704 ls [])) (hi : i8 + 3 ≤ L) (hL : L ≤ 1536) {a8 b8 : Int32} (h81 : xs (i8 + 1) = a8) (h82 : xs (i8 + 2) = b8) (hrc : c9 + 1 ≤ 601024) (hrs : s9 + 6 ≤ 7293033) : ∀ (I : Nat → Int32) (J : Nat → Int64) (B : Nat → Nat → Int32) (D : Nat → Nat → Int64) (I9 : Nat → Int32) (J9 : Nat → Int64) (B9 : Nat → Nat → Int32) (D9 : Nat → Nat → Int64) (ls : Array Slot) (H : Heap) (locs : List Loc), lc13_N KN a8 b8 I J B D I9 J9 B9 D9 → lv_has ls 7 [(4, .int (nI i8)), (3, .ref (ad 77)), (2, .ref (am 0)), (1, .ref (ad 0)), (0, .ref b)] → zW G A s.heap (wLN ad am K I J B D I9 J9 B9 D9) H locs → W p l e room_1 s m #[Value.ref b] below meth c H locs c9 s9 (lw_Z below #[Value.ref b] s) (F0 m 578 ls []) := by
  intro I J B D I9 J9 B9 D9 ls H locs hok hl hw
  obtain ⟨hx, hb, hr, hml, hts, hown, hlocks, hA, hA9, hbA, hK, hT, hX, hbl, hlt⟩ := id C
  have hrc : c9 + 1 ≤ room_1.cells := hrc
  have hrs : s9 + 6 ≤ room_1.slots := hrs
  unfold lc13_N at hok
  have hl : lv_has ls 7 [(4, .int (nI i8)), (3, .ref (ad 77)), (2, .ref (am 0)), (1, .ref (ad 0)), (0, .ref b)] := hl
  have hw : zW G A s.heap (wLN ad am K I J B D I9 J9 B9 D9) H locs := hw
  refine lv_aload_n hx hb zd_LassoFinderLaw_law_578 rfl (lv_at hl 3 rfl) ?_
  refine lv_aload_n hx hb zd_LassoFinderLaw_law_579 rfl (lv_at hl 4 rfl) ?_
  refine lv_iload hx hb zd_LassoFinderLaw_law_580 (lv_at hl 0 rfl) ?_
  refine lv_iconst (v := 1) hx hb zd_LassoFinderLaw_law_582 (by decide) ?_
  refine lv_iadd hx hb zd_LassoFinderLaw_law_583 ?_
  refine lv_topi (fun z1 ez1 => ?_)
  obtain rfl : z1 = nI (i8 + 1) := ez1.trans (nI_add i8 1)
  refine va_sld hx hb hX hbl hbA hw.2.2 (i := nI (i8 + 1)) (vp_in_nI (by omega) (by omega)) zd_LassoFinderLaw_law_584 ?_
  rw [nI_clamp (show i8 + 1 < 2 ^ 31 by omega), h81]
  refine z_calli (w1 := fun (u : zS) => wX ad K Value.null u.1 u.2.1 u.2.2.1 u.2.2.2) (wr := ((ad 77, zJ K 1 (D 3)) :: wM am K I9 J9 B9 D9)) (z_runV (q0 := 1) (wc := (wX ad K Value.null I J B D)) (As := [.int a8]) (rest := []) ⟨hx, hb, hml, hown, hts⟩ (w_LassoFinder_point_N l G K ad I J B D a8 _ H.size hok) zf_LassoFinder_point zq_381 ⟨(Nat.le_of_ble_eq_true rfl), (Nat.le_of_ble_eq_true rfl)⟩ hK hw (List.range' 1 65) wLN_X wLN_ndX wLN_gx rfl rfl hl.1 rfl (Nat.le_of_ble_eq_true rfl) zd_LassoFinderLaw_law_585 ⟨(by first | omega | (dsimp only; omega)), (by first | omega | (dsimp only; omega))⟩) hw hA (List.range' 1 65) (0 :: List.range' 66 58) wLN_X wLN_R wLN_ndR wLN_disRX (fun r2 u H locs hok hw => ?_)
  obtain ⟨I2, J2, B2, D2⟩ := u
  dsimp only at hok
  have hw := wLN_bX hw
  have hw : zW G A s.heap (wLN ad am K I2 J2 B2 (zmix 3 D2 D) I9 J9 B9 D9) H locs := hw
  refine lv_aload_n hx hb zd_LassoFinderLaw_law_588 rfl (lv_at hl 2 rfl) ?_
  refine lv_aload_n hx hb zd_LassoFinderLaw_law_589 rfl (lv_at hl 4 rfl) ?_
  refine lv_iload hx hb zd_LassoFinderLaw_law_590 (lv_at hl 0 rfl) ?_
  refine lv_iconst (v := 1) hx hb zd_LassoFinderLaw_law_592 (by decide) ?_
  refine lv_iadd hx hb zd_LassoFinderLaw_law_593 ?_
  refine lv_topi (fun z3 ez3 => ?_)
  obtain rfl : z3 = nI (i8 + 1) := ez3.trans (nI_add i8 1)
  refine va_sld hx hb hX hbl hbA hw.2.2 (i := nI (i8 + 1)) (vp_in_nI (by omega) (by omega)) zd_LassoFinderLaw_law_594 ?_
  rw [nI_clamp (show i8 + 1 < 2 ^ 31 by omega), h81]
  refine z_calli (w1 := fun (u : zS) => wM am K u.1 u.2.1 u.2.2.1 u.2.2.2) (wr := (wPN ad K I2 J2 B2 (zmix 3 D2 D))) (z_runV (q0 := 66) (wc := (wM am K I9 J9 B9 D9)) (As := [.int a8]) (rest := [.int r2]) ⟨hx, hb, hml, hown, hts⟩ (w_LassoFinderModel_point l G K am I9 J9 B9 D9 a8 _ H.size hok) zf_LassoFinderModel_point zq_382 ⟨(Nat.le_of_ble_eq_true rfl), (Nat.le_of_ble_eq_true rfl)⟩ hK hw (List.range' 66 58) wLN_M wLN_ndM wLN_gm rfl rfl hl.1 rfl (Nat.le_of_ble_eq_true rfl) zd_LassoFinderLaw_law_595 ⟨(by first | omega | (dsimp only; omega)), (by first | omega | (dsimp only; omega))⟩) hw hA (List.range' 66 58) (List.range 66) wLN_M wLN_P wLN_ndP wLN_disPM (fun r4 u H locs hok hw => ?_)
  obtain ⟨I4, J4, B4, D4⟩ := u
  dsimp only at hok
  have hw := wLN_bM hw
  have hw : zW G A s.heap (wLN ad am K I2 J2 B2 (zmix 3 D2 D) I4 J4 B4 D4) H locs := hw
  refine lv_icmp_eq (tgt := 704) hx hb zd_LassoFinderLaw_law_598 (by decide) (fun hc5 => ?_) (fun hc5 => ?_)
  · have hok := hok.1 hc5
    refine W.widen (k := c9 + 1) (n := s9 + 6) (by first | omega | (dsimp only; omega)) (by first | omega | (dsimp only; omega)) ?_
    exact kh I2 J2 B2 (zmix 3 D2 D) I4 J4 B4 D4 ls H locs hok (lv_sub hl [0, 1, 2, 3, 4] rfl) hw
  · have hok := hok.2 hc5
    exact hok.elim
