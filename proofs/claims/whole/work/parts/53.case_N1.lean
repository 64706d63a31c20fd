theorem zq_365 : Cond.methodLink "LassoFinderLaw" 73 ⟨"LassoFinder", "stem", "()I"⟩ ∈ zTB := z_in (zt_3 _ (List.mem_of_getElem? (i := 30) rfl)) rfl
theorem zq_366 : Cond.methodLink "LassoFinderLaw" 76 ⟨"LassoFinderModel", "stem", "()I"⟩ ∈ zTB := z_in (zt_8 _ (List.mem_of_getElem? (i := 125) rfl)) rfl
theorem zq_367 : Cond.methodLink "LassoFinderLaw" 77 ⟨"LassoFinder", "cycle", "()I"⟩ ∈ zTB := z_in (zt_3 _ (List.mem_of_getElem? (i := 38) rfl)) rfl
theorem zq_368 : Cond.methodLink "LassoFinderLaw" 80 ⟨"LassoFinderModel", "cycle", "()I"⟩ ∈ zTB := z_in (zt_8 _ (List.mem_of_getElem? (i := 129) rfl)) rfl
theorem zq_369 : Cond.methodLink "LassoFinderLaw" 81 ⟨"LassoFinderLaw", "lasso", "(LLassoFinder;II[J)I"⟩ ∈ zTB := z_in (zt_6 _ (List.mem_of_getElem? (i := 30) rfl)) rfl
theorem zq_370 : Cond.methodLink "LassoFinderLaw" 84 ⟨"LassoFinderModel", "lasso", "(II)I"⟩ ∈ zTB := z_in (zt_8 _ (List.mem_of_getElem? (i := 133) rfl)) rfl
theorem zq_371 : Cond.methodLink "LassoFinderLaw" 85 ⟨"LassoFinderLaw", "walk", "(LLassoFinder;)I"⟩ ∈ zTB := z_in (zt_6 _ (List.mem_of_getElem? (i := 57) rfl)) rfl
theorem zq_372 : Cond.methodLink "LassoFinderLaw" 88 ⟨"LassoFinderModel", "walk", "()V"⟩ ∈ zTB := z_in (zt_8 _ (List.mem_of_getElem? (i := 137) rfl)) rfl
theorem zq_420 : Cond.code ⟨"LassoFinder", "stem", "()I"⟩ prog_1_method_7_code 1 (some .int) ∈ zTB := z_in (zt_3 _ (List.mem_of_getElem? (i := 33) rfl)) rfl
theorem zq_421 : Cond.selects "LassoFinder" ⟨"LassoFinder", "stem", "()I"⟩ ⟨"LassoFinder", "stem", "()I"⟩ ∈ zTB := z_in (zt_3 _ (List.mem_of_getElem? (i := 32) rfl)) rfl
theorem zq_422 : Cond.instanceMethod ⟨"LassoFinder", "stem", "()I"⟩ ∈ zTB := z_in (zt_3 _ (List.mem_of_getElem? (i := 31) rfl)) rfl
theorem zq_423 : Cond.code ⟨"LassoFinderModel", "stem", "()I"⟩ prog_14_method_67_code 1 (some .int) ∈ zTB := z_in (zt_8 _ (List.mem_of_getElem? (i := 128) rfl)) rfl
theorem zq_424 : Cond.selects "LassoFinderModel" ⟨"LassoFinderModel", "stem", "()I"⟩ ⟨"LassoFinderModel", "stem", "()I"⟩ ∈ zTB := z_in (zt_8 _ (List.mem_of_getElem? (i := 127) rfl)) rfl
theorem zq_425 : Cond.instanceMethod ⟨"LassoFinderModel", "stem", "()I"⟩ ∈ zTB := z_in (zt_8 _ (List.mem_of_getElem? (i := 126) rfl)) rfl
theorem zq_426 : Cond.code ⟨"LassoFinder", "cycle", "()I"⟩ prog_1_method_8_code 1 (some .int) ∈ zTB := z_in (zt_3 _ (List.mem_of_getElem? (i := 41) rfl)) rfl
theorem zq_427 : Cond.selects "LassoFinder" ⟨"LassoFinder", "cycle", "()I"⟩ ⟨"LassoFinder", "cycle", "()I"⟩ ∈ zTB := z_in (zt_3 _ (List.mem_of_getElem? (i := 40) rfl)) rfl
theorem zq_428 : Cond.instanceMethod ⟨"LassoFinder", "cycle", "()I"⟩ ∈ zTB := z_in (zt_3 _ (List.mem_of_getElem? (i := 39) rfl)) rfl
theorem zq_429 : Cond.code ⟨"LassoFinderModel", "cycle", "()I"⟩ prog_14_method_68_code 1 (some .int) ∈ zTB := z_in (zt_8 _ (List.mem_of_getElem? (i := 132) rfl)) rfl
theorem zq_430 : Cond.selects "LassoFinderModel" ⟨"LassoFinderModel", "cycle", "()I"⟩ ⟨"LassoFinderModel", "cycle", "()I"⟩ ∈ zTB := z_in (zt_8 _ (List.mem_of_getElem? (i := 131) rfl)) rfl
theorem zq_431 : Cond.instanceMethod ⟨"LassoFinderModel", "cycle", "()I"⟩ ∈ zTB := z_in (zt_8 _ (List.mem_of_getElem? (i := 130) rfl)) rfl
theorem zq_432 : Cond.codeWith ⟨"LassoFinderLaw", "lasso", "(LLassoFinder;II[J)I"⟩ method_6_code 5 (some .int) [(0, 10, 13, 30)] ∈ zTB := z_in (zt_6 _ (List.mem_of_getElem? (i := 32) rfl)) rfl
theorem zq_433 : Cond.static ⟨"LassoFinderLaw", "lasso", "(LLassoFinder;II[J)I"⟩ ∈ zTB := z_in (zt_6 _ (List.mem_of_getElem? (i := 31) rfl)) rfl
theorem zq_434 : Cond.code ⟨"LassoFinderModel", "lasso", "(II)I"⟩ prog_14_method_69_code 4 (some .int) ∈ zTB := z_in (zt_8 _ (List.mem_of_getElem? (i := 136) rfl)) rfl
theorem zq_435 : Cond.selects "LassoFinderModel" ⟨"LassoFinderModel", "lasso", "(II)I"⟩ ⟨"LassoFinderModel", "lasso", "(II)I"⟩ ∈ zTB := z_in (zt_8 _ (List.mem_of_getElem? (i := 135) rfl)) rfl
theorem zq_436 : Cond.instanceMethod ⟨"LassoFinderModel", "lasso", "(II)I"⟩ ∈ zTB := z_in (zt_8 _ (List.mem_of_getElem? (i := 134) rfl)) rfl
theorem zq_437 : Cond.codeWith ⟨"LassoFinderLaw", "walk", "(LLassoFinder;)I"⟩ method_7_code 2 (some .int) [(0, 4, 7, 20)] ∈ zTB := z_in (zt_6 _ (List.mem_of_getElem? (i := 59) rfl)) rfl
theorem zq_438 : Cond.static ⟨"LassoFinderLaw", "walk", "(LLassoFinder;)I"⟩ ∈ zTB := z_in (zt_6 _ (List.mem_of_getElem? (i := 58) rfl)) rfl
theorem zq_439 : Cond.code ⟨"LassoFinderModel", "walk", "()V"⟩ prog_14_method_70_code 1 none ∈ zTB := z_in (zt_8 _ (List.mem_of_getElem? (i := 140) rfl)) rfl
theorem zq_440 : Cond.selects "LassoFinderModel" ⟨"LassoFinderModel", "walk", "()V"⟩ ⟨"LassoFinderModel", "walk", "()V"⟩ ∈ zTB := z_in (zt_8 _ (List.mem_of_getElem? (i := 139) rfl)) rfl
theorem zq_441 : Cond.instanceMethod ⟨"LassoFinderModel", "walk", "()V"⟩ ∈ zTB := z_in (zt_8 _ (List.mem_of_getElem? (i := 138) rfl)) rfl
theorem zf_LassoFinder_stem : zFaceV zy_LassoFinder_stem prog_1_method_7_code 1 (some .int) 0 := ⟨zq_422, zq_421, zm_1, zq_420, by decide +kernel, by decide +kernel, by decide +kernel⟩
theorem zf_LassoFinderModel_stem : zFaceV zy_LassoFinderModel_stem prog_14_method_67_code 1 (some .int) 0 := ⟨zq_425, zq_424, zm_25, zq_423, by decide +kernel, by decide +kernel, by decide +kernel⟩
theorem zf_LassoFinder_cycle : zFaceV zy_LassoFinder_cycle prog_1_method_8_code 1 (some .int) 0 := ⟨zq_428, zq_427, zm_1, zq_426, by decide +kernel, by decide +kernel, by decide +kernel⟩
theorem zf_LassoFinderModel_cycle : zFaceV zy_LassoFinderModel_cycle prog_14_method_68_code 1 (some .int) 0 := ⟨zq_431, zq_430, zm_25, zq_429, by decide +kernel, by decide +kernel, by decide +kernel⟩
theorem zf_LassoFinderLaw_lasso : zFaceSW zy_LassoFinderLaw_lasso method_6_code 5 (some .int) [(0, 10, 13, 30)] 4 := ⟨zq_433, zq_396, zq_432, by decide +kernel, by decide +kernel, by decide +kernel⟩
theorem zf_LassoFinderModel_lasso : zFaceV zy_LassoFinderModel_lasso prog_14_method_69_code 4 (some .int) 2 := ⟨zq_436, zq_435, zm_25, zq_434, by decide +kernel, by decide +kernel, by decide +kernel⟩
theorem zf_LassoFinderLaw_walk : zFaceSW zy_LassoFinderLaw_walk method_7_code 2 (some .int) [(0, 4, 7, 20)] 1 := ⟨zq_438, zq_396, zq_437, by decide +kernel, by decide +kernel, by decide +kernel⟩
theorem zf_LassoFinderModel_walk : zFaceV zy_LassoFinderModel_walk prog_14_method_70_code 1 none 0 := ⟨zq_441, zq_440, zm_25, zq_439, by decide +kernel, by decide +kernel, by decide +kernel⟩
theorem zd_LassoFinderLaw_law_329 : decode code 329 = .ok (.aload_n 1, 1) := by decide +kernel
theorem zd_LassoFinderLaw_law_330 : decode code 330 = .ok (.invokevirtual 73, 3) := by decide +kernel
theorem zd_LassoFinderLaw_law_333 : decode code 333 = .ok (.aload_n 2, 1) := by decide +kernel
theorem zd_LassoFinderLaw_law_334 : decode code 334 = .ok (.invokevirtual 76, 3) := by decide +kernel
theorem zd_LassoFinderLaw_law_337 : decode code 337 = .ok (.if_icmp .eq 367, 3) := by decide +kernel
theorem zd_LassoFinderLaw_law_342 : decode code 342 = .ok (.aload_n 1, 1) := by decide +kernel
theorem zd_LassoFinderLaw_law_343 : decode code 343 = .ok (.invokevirtual 77, 3) := by decide +kernel
theorem zd_LassoFinderLaw_law_346 : decode code 346 = .ok (.aload_n 2, 1) := by decide +kernel
theorem zd_LassoFinderLaw_law_347 : decode code 347 = .ok (.invokevirtual 80, 3) := by decide +kernel
theorem zd_LassoFinderLaw_law_350 : decode code 350 = .ok (.if_icmp .eq 354, 3) := by decide +kernel
theorem zd_LassoFinderLaw_law_355 : decode code 355 = .ok (.aload_n 1, 1) := by decide +kernel
theorem zd_LassoFinderLaw_law_356 : decode code 356 = .ok (.aload_n 0, 1) := by decide +kernel
theorem zd_LassoFinderLaw_law_357 : decode code 357 = .ok (.iload 4, 2) := by decide +kernel
theorem zd_LassoFinderLaw_law_359 : decode code 359 = .ok (.iconst 1, 1) := by decide +kernel
theorem zd_LassoFinderLaw_law_360 : decode code 360 = .ok (.iadd, 1) := by decide +kernel
theorem zd_LassoFinderLaw_law_361 : decode code 361 = .ok (.iaload, 1) := by decide +kernel
theorem zd_LassoFinderLaw_law_362 : decode code 362 = .ok (.aload_n 0, 1) := by decide +kernel
theorem zd_LassoFinderLaw_law_363 : decode code 363 = .ok (.iload 4, 2) := by decide +kernel
theorem zd_LassoFinderLaw_law_365 : decode code 365 = .ok (.iconst 2, 1) := by decide +kernel
theorem zd_LassoFinderLaw_law_366 : decode code 366 = .ok (.iadd, 1) := by decide +kernel
theorem zd_LassoFinderLaw_law_367 : decode code 367 = .ok (.iaload, 1) := by decide +kernel
theorem zd_LassoFinderLaw_law_368 : decode code 368 = .ok (.aload_n 3, 1) := by decide +kernel
theorem zd_LassoFinderLaw_law_369 : decode code 369 = .ok (.invokestatic 81, 3) := by decide +kernel
theorem zd_LassoFinderLaw_law_372 : decode code 372 = .ok (.istore 5, 2) := by decide +kernel
theorem zd_LassoFinderLaw_law_374 : decode code 374 = .ok (.aload_n 2, 1) := by decide +kernel
theorem zd_LassoFinderLaw_law_375 : decode code 375 = .ok (.aload_n 0, 1) := by decide +kernel
theorem zd_LassoFinderLaw_law_376 : decode code 376 = .ok (.iload 4, 2) := by decide +kernel
theorem zd_LassoFinderLaw_law_378 : decode code 378 = .ok (.iconst 1, 1) := by decide +kernel
theorem zd_LassoFinderLaw_law_379 : decode code 379 = .ok (.iadd, 1) := by decide +kernel
theorem zd_LassoFinderLaw_law_380 : decode code 380 = .ok (.iaload, 1) := by decide +kernel
theorem zd_LassoFinderLaw_law_381 : decode code 381 = .ok (.aload_n 0, 1) := by decide +kernel
theorem zd_LassoFinderLaw_law_382 : decode code 382 = .ok (.iload 4, 2) := by decide +kernel
theorem zd_LassoFinderLaw_law_384 : decode code 384 = .ok (.iconst 2, 1) := by decide +kernel
theorem zd_LassoFinderLaw_law_385 : decode code 385 = .ok (.iadd, 1) := by decide +kernel
theorem zd_LassoFinderLaw_law_386 : decode code 386 = .ok (.iaload, 1) := by decide +kernel
theorem zd_LassoFinderLaw_law_387 : decode code 387 = .ok (.invokevirtual 84, 3) := by decide +kernel
theorem zd_LassoFinderLaw_law_390 : decode code 390 = .ok (.istore 6, 2) := by decide +kernel
theorem zd_LassoFinderLaw_law_392 : decode code 392 = .ok (.aload_n 2, 1) := by decide +kernel
theorem zd_LassoFinderLaw_law_393 : decode code 393 = .ok (.invokevirtual 60, 3) := by decide +kernel
theorem zd_LassoFinderLaw_law_396 : decode code 396 = .ok (.iload 5, 2) := by decide +kernel
theorem zd_LassoFinderLaw_law_398 : decode code 398 = .ok (.if_icmp .eq 5, 3) := by decide +kernel
theorem zd_LassoFinderLaw_law_403 : decode code 403 = .ok (.iload 5, 2) := by decide +kernel
theorem zd_LassoFinderLaw_law_405 : decode code 405 = .ok (.ifCond .ne 15, 3) := by decide +kernel
theorem zd_LassoFinderLaw_law_408 : decode code 408 = .ok (.aload_n 3, 1) := by decide +kernel
theorem zd_LassoFinderLaw_law_409 : decode code 409 = .ok (.iconst 0, 1) := by decide +kernel
theorem zd_LassoFinderLaw_law_410 : decode code 410 = .ok (.laload, 1) := by decide +kernel
theorem zd_LassoFinderLaw_law_411 : decode code 411 = .ok (.iload 6, 2) := by decide +kernel
theorem zd_LassoFinderLaw_law_413 : decode code 413 = .ok (.i2l, 1) := by decide +kernel
theorem zd_LassoFinderLaw_law_414 : decode code 414 = .ok (.lcmp, 1) := by decide +kernel
theorem zd_LassoFinderLaw_law_415 : decode code 415 = .ok (.ifCond .eq 5, 3) := by decide +kernel
theorem zd_LassoFinderLaw_law_420 : decode code 420 = .ok (.goto 284, 3) := by decide +kernel
theorem zd_LassoFinderLaw_law_423 : decode code 423 = .ok (.aload_n 1, 1) := by decide +kernel
theorem zd_LassoFinderLaw_law_424 : decode code 424 = .ok (.invokestatic 85, 3) := by decide +kernel
theorem zd_LassoFinderLaw_law_427 : decode code 427 = .ok (.istore 5, 2) := by decide +kernel
theorem zd_LassoFinderLaw_law_429 : decode code 429 = .ok (.aload_n 2, 1) := by decide +kernel
theorem zd_LassoFinderLaw_law_430 : decode code 430 = .ok (.invokevirtual 88, 3) := by decide +kernel
theorem zd_LassoFinderLaw_law_433 : decode code 433 = .ok (.aload_n 2, 1) := by decide +kernel
theorem zd_LassoFinderLaw_law_434 : decode code 434 = .ok (.invokevirtual 60, 3) := by decide +kernel
theorem zd_LassoFinderLaw_law_437 : decode code 437 = .ok (.iload 5, 2) := by decide +kernel
theorem zd_LassoFinderLaw_law_439 : decode code 439 = .ok (.if_icmp .eq 5, 3) := by decide +kernel
theorem zd_LassoFinderLaw_law_444 : decode code 444 = .ok (.goto 260, 3) := by decide +kernel
set_option maxHeartbeats 8000000 in
set_option maxRecDepth 100000 in
theorem zc4_M {p : Program} {l : Launch} {e : Env} {s : State} {m : MethodId} {below : List Frame} {meth : Method} {c : Code} {A : Nat → Prop} {G : va_G} {K : Nat → ClassId} {b L : Nat} {xs : Nat → Int32} (C : zCL p l s m b L xs meth c A G K) {ad am : Nat → Nat} {i8 c9 s9 : Nat} (KS : ((Nat → Int32) → (Nat → Int64) → (Nat → Nat → Int32) → (Nat → Nat → Int64) → (Nat → Int32) → (Nat → Int64) → (Nat → Nat → Int32) → (Nat → Nat → Int64) → Prop)) (khS : ∀ (ad2 : Nat → Nat), ad2 0 = ad 0 → ad2 77 = ad 77 → ∀ (I : Nat → Int32) (J : Nat → Int64) (B : Nat → Nat → Int32) (D : Nat → Nat → Int64) (I9 : Nat → Int32) (J9 : Nat → Int64) (B9 : Nat → Nat → Int32) (D9 : Nat → Nat → Int64) (ls : Array Slot) (H : Heap) (locs : List Loc), KS I J B D I9 J9 B9 D9 → lv_has ls 7 [(4, .int (nI i8)), (3, .ref (ad 77)), (2, .ref (am 0)), (1, .ref (ad 0)), (0, .ref b)] → zW G A s.heap (wLS ad2 am K I J B D I9 J9 B9 D9) H locs → W p l e room_1 s m #[Value.ref b] below meth c H locs (c9 + 13) (s9 + 23834) (lw_Z below #[Value.ref b] s) (F0 m 704 ls [])) (hi : i8 + 3 ≤ L) (hL : L ≤ 1536) {a8 b8 : Int32} (h81 : xs (i8 + 1) = a8) (h82 : xs (i8 + 2) = b8) (hrc : c9 + 13 ≤ 601024) (hrs : s9 + 23834 ≤ 7293033) : ∀ (I : Nat → Int32) (J : Nat → Int64) (B : Nat → Nat → Int32) (D : Nat → Nat → Int64) (I9 : Nat → Int32) (J9 : Nat → Int64) (B9 : Nat → Nat → Int32) (D9 : Nat → Nat → Int64) (ls : Array Slot) (H : Heap) (locs : List Loc), lc4_M KS a8 b8 I J B D I9 J9 B9 D9 → lv_has ls 7 [(4, .int (nI i8)), (3, .ref (ad 77)), (2, .ref (am 0)), (1, .ref (ad 0)), (0, .ref b)] → zW G A s.heap (wLN ad am K I J B D I9 J9 B9 D9) H locs → W p l e room_1 s m #[Value.ref b] below meth c H locs c9 s9 (lw_Z below #[Value.ref b] s) (F0 m 278 ls []) := by
  intro I J B D I9 J9 B9 D9 ls H locs hok hl hw
  obtain ⟨hx, hb, hr, hml, hts, hown, hlocks, hA, hA9, hbA, hK, hT, hX, hbl, hlt⟩ := id C
  have hrc : c9 + 13 ≤ room_1.cells := hrc
  have hrs : s9 + 23834 ≤ room_1.slots := hrs
  unfold lc4_M at hok
  have hl : lv_has ls 7 [(4, .int (nI i8)), (3, .ref (ad 77)), (2, .ref (am 0)), (1, .ref (ad 0)), (0, .ref b)] := hl
  have hw : zW G A s.heap (wLN ad am K I J B D I9 J9 B9 D9) H locs := hw
  refine lv_aload_n hx hb zd_LassoFinderLaw_law_278 rfl (lv_at hl 3 rfl) ?_
  refine lv_aload_n hx hb zd_LassoFinderLaw_law_279 rfl (lv_at hl 1 rfl) ?_
  refine z_calli (w1 := fun (u : (Nat → Nat) × zS) => wPS u.1 K u.2.1 u.2.2.1 u.2.2.2.1 u.2.2.2.2) (wr := (wM am K I9 J9 B9 D9)) (z_runSWY (wc := (wPN ad K I J B D)) (As := [.ref (ad 0), .ref (ad 77)]) (rest := []) ⟨hx, hb, hml, hown, hts⟩ (w_L_verify_M l G K ad I J B D (fun (r1 : Int32) (ad2 : Nat → Nat) (I1 : Nat → Int32) (J1 : Nat → Int64) (B1 : Nat → Nat → Int32) (D1 : Nat → Nat → Int64) => (ad2 0 = ad 0 ∧ ad2 77 = ad 77) ∧ (wp_LassoFinderModel_verify I9 J9 B9 D9  (fun r2 I2 J2 B2 D2 => wp_LassoFinderModel_thrown I2 J2 B2 D2  (fun r3 I3 J3 B3 D3 => ((r3 = r1 → ((¬ r1 = 0 → KS I1 J1 B1 D1 I3 J3 B3 D3) ∧ (r1 = 0 → ∀ z6 : Int64, z6 = (D1 3 (0 : Int32).toNatClampNeg) → ((r2 = 0 → ∀ z8 : Int32, z8 = (lg_cmp z6 0) → ((z8 = 0 → KS I1 J1 B1 D1 I3 J3 B3 D3) ∧ (¬ z8 = 0 → False))) ∧ (¬ r2 = 0 → ∀ z10 : Int32, z10 = (lg_cmp z6 1) → ((z10 = 0 → KS I1 J1 B1 D1 I3 J3 B3 D3) ∧ (¬ z10 = 0 → False))))))) ∧ (¬ r3 = r1 → False)))))) H.size hok.1 (fun ad9 h9 => hok.2 _ ⟨(if_neg (by decide)).trans (h9 0 (by decide)), if_pos rfl⟩)) zf_LassoFinderLaw_verify zq_363 ⟨(Nat.le_of_ble_eq_true rfl), (Nat.le_of_ble_eq_true rfl)⟩ hK hT hw hA (List.range 66) wLN_P wLN_ndP rfl hl.1 rfl (Nat.le_of_ble_eq_true rfl) zd_LassoFinderLaw_law_280 ⟨(by first | omega | (dsimp only; omega)), (by first | omega | (dsimp only; omega))⟩) hw hA (List.range 66) (List.range' 66 58) wLN_P wLN_M wLN_ndM wLN_disMP (fun r1 u H locs hok hw => ?_)
  obtain ⟨ad2, I1, J1, B1, D1⟩ := u
  dsimp only at hok
  obtain ⟨⟨h2x, h2o⟩, hok⟩ := hok
  have hw := wLS_bP hw
  have hl : lv_has ls 7 [(4, .int (nI i8)), (3, .ref (ad2 77)), (2, .ref (am 0)), (1, .ref (ad2 0)), (0, .ref b)] := by rw [h2x, h2o]; exact hl
  have hw : zW G A s.heap (wLS ad2 am K I1 J1 B1 D1 I9 J9 B9 D9) H locs := hw
  refine lv_istore hx hb zd_LassoFinderLaw_law_283 hl (by decide) rfl (fun ls hl => ?_)
  have hl : lv_has ls 7 [(5, .int r1), (4, .int (nI i8)), (3, .ref (ad2 77)), (2, .ref (am 0)), (1, .ref (ad2 0)), (0, .ref b)] := hl
  refine lv_aload_n hx hb zd_LassoFinderLaw_law_285 rfl (lv_at hl 3 rfl) ?_
  refine z_calli (w1 := fun (u : zS) => wM am K u.1 u.2.1 u.2.2.1 u.2.2.2) (wr := (wPS ad2 K I1 J1 B1 D1)) (z_runV (q0 := 78) (wc := (wM am K I9 J9 B9 D9)) (As := []) (rest := []) ⟨hx, hb, hml, hown, hts⟩ (w_LassoFinderModel_verify l G K am I9 J9 B9 D9  _ H.size hok) zf_LassoFinderModel_verify zq_364 ⟨(Nat.le_of_ble_eq_true rfl), (Nat.le_of_ble_eq_true rfl)⟩ hK hw (List.range' 78 58) wLS_M wLS_ndM wLS_gm rfl rfl hl.1 rfl (Nat.le_of_ble_eq_true rfl) zd_LassoFinderLaw_law_286 ⟨(by first | omega | (dsimp only; omega)), (by first | omega | (dsimp only; omega))⟩) hw hA (List.range' 78 58) (List.range 78) wLS_M wLS_P wLS_ndP wLS_disPM (fun r2 u H locs hok hw => ?_)
  obtain ⟨I2, J2, B2, D2⟩ := u
  dsimp only at hok
  have hw := wLS_bM hw
  have hw : zW G A s.heap (wLS ad2 am K I1 J1 B1 D1 I2 J2 B2 D2) H locs := hw
  refine lv_istore hx hb zd_LassoFinderLaw_law_289 hl (by decide) rfl (fun ls hl => ?_)
  have hl : lv_has ls 7 [(6, .int r2), (5, .int r1), (4, .int (nI i8)), (3, .ref (ad2 77)), (2, .ref (am 0)), (1, .ref (ad2 0)), (0, .ref b)] := hl
  refine lv_aload_n hx hb zd_LassoFinderLaw_law_291 rfl (lv_at hl 4 rfl) ?_
  refine z_calli (w1 := fun (u : zS) => wM am K u.1 u.2.1 u.2.2.1 u.2.2.2) (wr := (wPS ad2 K I1 J1 B1 D1)) (z_runV (q0 := 78) (wc := (wM am K I2 J2 B2 D2)) (As := []) (rest := []) ⟨hx, hb, hml, hown, hts⟩ (w_LassoFinderModel_thrown l G K am I2 J2 B2 D2  _ H.size hok) zf_LassoFinderModel_thrown zq_358 ⟨(Nat.le_of_ble_eq_true rfl), (Nat.le_of_ble_eq_true rfl)⟩ hK hw (List.range' 78 58) wLS_M wLS_ndM wLS_gm rfl rfl hl.1 rfl (Nat.le_of_ble_eq_true rfl) zd_LassoFinderLaw_law_292 ⟨(by first | omega | (dsimp only; omega)), (by first | omega | (dsimp only; omega))⟩) hw hA (List.range' 78 58) (List.range 78) wLS_M wLS_P wLS_ndP wLS_disPM (fun r3 u H locs hok hw => ?_)
  obtain ⟨I3, J3, B3, D3⟩ := u
  dsimp only at hok
  have hw := wLS_bM hw
  have hw : zW G A s.heap (wLS ad2 am K I1 J1 B1 D1 I3 J3 B3 D3) H locs := hw
  refine lv_iload hx hb zd_LassoFinderLaw_law_295 (lv_at hl 1 rfl) ?_
  refine lv_icmp_eq (tgt := 302) hx hb zd_LassoFinderLaw_law_297 (by decide) (fun hc4 => ?_) (fun hc4 => ?_)
  · have hok := hok.1 hc4
    refine lv_iload hx hb zd_LassoFinderLaw_law_302 (lv_at hl 1 rfl) ?_
    refine lv_if_ne (tgt := 326) hx hb zd_LassoFinderLaw_law_304 (by decide) (fun hc5 => ?_) (fun hc5 => ?_)
    · have hok := hok.1 hc5
      refine lv_goto (tgt := 704) hx hb zd_LassoFinderLaw_law_326 (by decide) ?_
      refine W.widen (k := c9 + 13) (n := s9 + 23834) (by first | omega | (dsimp only; omega)) (by first | omega | (dsimp only; omega)) ?_
      exact khS ad2 h2x h2o I1 J1 B1 D1 I3 J3 B3 D3 ls H locs hok (by rw [h2x, h2o] at hl; exact lv_sub hl [2, 3, 4, 5, 6] rfl) hw
    · have hok := hok.2 hc5
      refine lv_aload_n hx hb zd_LassoFinderLaw_law_307 rfl (lv_at hl 3 rfl) ?_
      refine lv_iconst (v := 0) hx hb zd_LassoFinderLaw_law_308 (by decide) ?_
      refine va_lald (f := D1 3) hx hb hK hw.1 0 1 wLS_a0 rfl z_in0 zd_LassoFinderLaw_law_309 ?_
      refine lv_topl (fun z6 ez6 => ?_)
      have hok := hok z6 ez6
      refine lv_iload hx hb zd_LassoFinderLaw_law_310 (lv_at hl 0 rfl) ?_
      refine lv_if_eq (tgt := 319) hx hb zd_LassoFinderLaw_law_312 (by decide) (fun hc7 => ?_) (fun hc7 => ?_)
      · have hok := hok.1 hc7
        refine lv_lconst (v := 0) hx hb zd_LassoFinderLaw_law_319 (by decide) ?_
        refine W.lcmp hx hb zd_LassoFinderLaw_law_320 ?_
        refine lv_topi (fun z8 ez8 => ?_)
        have hok := hok z8 ez8
        refine lv_if_eq (tgt := 326) hx hb zd_LassoFinderLaw_law_321 (by decide) (fun hc9 => ?_) (fun hc9 => ?_)
        · have hok := hok.1 hc9
          refine lv_goto (tgt := 704) hx hb zd_LassoFinderLaw_law_326 (by decide) ?_
          refine W.widen (k := c9 + 13) (n := s9 + 23834) (by first | omega | (dsimp only; omega)) (by first | omega | (dsimp only; omega)) ?_
          exact khS ad2 h2x h2o I1 J1 B1 D1 I3 J3 B3 D3 ls H locs hok (by rw [h2x, h2o] at hl; exact lv_sub hl [2, 3, 4, 5, 6] rfl) hw
        · have hok := hok.2 hc9
          exact hok.elim
      · have hok := hok.2 hc7
        refine lv_lconst (v := 1) hx hb zd_LassoFinderLaw_law_315 (by decide) ?_
        refine lv_goto (tgt := 320) hx hb zd_LassoFinderLaw_law_316 (by decide) ?_
        refine W.lcmp hx hb zd_LassoFinderLaw_law_320 ?_
        refine lv_topi (fun z10 ez10 => ?_)
        have hok := hok z10 ez10
        refine lv_if_eq (tgt := 326) hx hb zd_LassoFinderLaw_law_321 (by decide) (fun hc11 => ?_) (fun hc11 => ?_)
        · have hok := hok.1 hc11
          refine lv_goto (tgt := 704) hx hb zd_LassoFinderLaw_law_326 (by decide) ?_
          refine W.widen (k := c9 + 13) (n := s9 + 23834) (by first | omega | (dsimp only; omega)) (by first | omega | (dsimp only; omega)) ?_
          exact khS ad2 h2x h2o I1 J1 B1 D1 I3 J3 B3 D3 ls H locs hok (by rw [h2x, h2o] at hl; exact lv_sub hl [2, 3, 4, 5, 6] rfl) hw
        · have hok := hok.2 hc11
          exact hok.elim
  · have hok := hok.2 hc4
    exact hok.elim
set_option maxHeartbeats 8000000 in
set_option maxRecDepth 100000 in
theorem zc5_N {p : Program} {l : Launch} {e : Env} {s : State} {m : MethodId} {below : List Frame} {meth : Method} {c : Code} {A : Nat → Prop} {G : va_G} {K : Nat → ClassId} {b L : Nat} {xs : Nat → Int32} (C : zCL p l s m b L xs meth c A G K) {ad am : Nat → Nat} {i8 c9 s9 : Nat} (KN : ((Nat → Int32) → (Nat → Int64) → (Nat → Nat → Int32) → (Nat → Nat → Int64) → (Nat → Int32) → (Nat → Int64) → (Nat → Nat → Int32) → (Nat → Nat → Int64) → Prop)) (kh : ∀ (I : Nat → Int32) (J : Nat → Int64) (B : Nat → Nat → Int32) (D : Nat → Nat → Int64) (I9 : Nat → Int32) (J9 : Nat → Int64) (B9 : Nat → Nat → Int32) (D9 : Nat → Nat → Int64) (ls : Array Slot) (H : Heap) (locs : List Loc), KN I J B D I9 J9 B9 D9 → lv_has ls 7 [(4, .int (nI i8)), (3, .ref (ad 77)), (2, .ref (am 0)), (1, .ref (ad 0)), (0, .ref b)] → zW G A s.heap (wLN ad am K I J B D I9 J9 B9 D9) H locs → W p l e room_1 s m #[Value.ref b] below meth c H locs (c9 + 1) (s9 + 6) (lw_Z below #[Value.ref b] s) (F0 m 704 ls [])) (hi : i8 + 3 ≤ L) (hL : L ≤ 1536) {a8 b8 : Int32} (h81 : xs (i8 + 1) = a8) (h82 : xs (i8 + 2) = b8) (hrc : c9 + 1 ≤ 601024) (hrs : s9 + 6 ≤ 7293033) : ∀ (I : Nat → Int32) (J : Nat → Int64) (B : Nat → Nat → Int32) (D : Nat → Nat → Int64) (I9 : Nat → Int32) (J9 : Nat → Int64) (B9 : Nat → Nat → Int32) (D9 : Nat → Nat → Int64) (ls : Array Slot) (H : Heap) (locs : List Loc), lc5_N KN a8 b8 I J B D I9 J9 B9 D9 → lv_has ls 7 [(4, .int (nI i8)), (3, .ref (ad 77)), (2, .ref (am 0)), (1, .ref (ad 0)), (0, .ref b)] → zW G A s.heap (wLN ad am K I J B D I9 J9 B9 D9) H locs → W p l e room_1 s m #[Value.ref b] below meth c H locs c9 s9 (lw_Z below #[Value.ref b] s) (F0 m 329 ls []) := by
  intro I J B D I9 J9 B9 D9 ls H locs hok hl hw
  obtain ⟨hx, hb, hr, hml, hts, hown, hlocks, hA, hA9, hbA, hK, hT, hX, hbl, hlt⟩ := id C
  have hrc : c9 + 1 ≤ room_1.cells := hrc
  have hrs : s9 + 6 ≤ room_1.slots := hrs
  unfold lc5_N at hok
  have hl : lv_has ls 7 [(4, .int (nI i8)), (3, .ref (ad 77)), (2, .ref (am 0)), (1, .ref (ad 0)), (0, .ref b)] := hl
  have hw : zW G A s.heap (wLN ad am K I J B D I9 J9 B9 D9) H locs := hw
  refine lv_aload_n hx hb zd_LassoFinderLaw_law_329 rfl (lv_at hl 3 rfl) ?_
  refine z_calli (w1 := fun (u : zS) => wX ad K Value.null u.1 u.2.1 u.2.2.1 u.2.2.2) (wr := ((ad 77, zJ K 1 (D 3)) :: wM am K I9 J9 B9 D9)) (z_runV (q0 := 1) (wc := (wX ad K Value.null I J B D)) (As := []) (rest := []) ⟨hx, hb, hml, hown, hts⟩ (w_LassoFinder_stem_N l G K ad I J B D  _ H.size hok) zf_LassoFinder_stem zq_365 ⟨(Nat.le_of_ble_eq_true rfl), (Nat.le_of_ble_eq_true rfl)⟩ hK hw (List.range' 1 65) wLN_X wLN_ndX wLN_gx rfl rfl hl.1 rfl (Nat.le_of_ble_eq_true rfl) zd_LassoFinderLaw_law_330 ⟨(by first | omega | (dsimp only; omega)), (by first | omega | (dsimp only; omega))⟩) hw hA (List.range' 1 65) (0 :: List.range' 66 58) wLN_X wLN_R wLN_ndR wLN_disRX (fun r1 u H locs hok hw => ?_)
  obtain ⟨I1, J1, B1, D1⟩ := u
  dsimp only at hok
  have hw := wLN_bX hw
  have hw : zW G A s.heap (wLN ad am K I1 J1 B1 (zmix 3 D1 D) I9 J9 B9 D9) H locs := hw
  refine lv_aload_n hx hb zd_LassoFinderLaw_law_333 rfl (lv_at hl 2 rfl) ?_
  refine z_calli (w1 := fun (u : zS) => wM am K u.1 u.2.1 u.2.2.1 u.2.2.2) (wr := (wPN ad K I1 J1 B1 (zmix 3 D1 D))) (z_runV (q0 := 66) (wc := (wM am K I9 J9 B9 D9)) (As := []) (rest := [.int r1]) ⟨hx, hb, hml, hown, hts⟩ (w_LassoFinderModel_stem l G K am I9 J9 B9 D9  _ H.size hok) zf_LassoFinderModel_stem zq_366 ⟨(Nat.le_of_ble_eq_true rfl), (Nat.le_of_ble_eq_true rfl)⟩ hK hw (List.range' 66 58) wLN_M wLN_ndM wLN_gm rfl rfl hl.1 rfl (Nat.le_of_ble_eq_true rfl) zd_LassoFinderLaw_law_334 ⟨(by first | omega | (dsimp only; omega)), (by first | omega | (dsimp only; omega))⟩) hw hA (List.range' 66 58) (List.range 66) wLN_M wLN_P wLN_ndP wLN_disPM (fun r2 u H locs hok hw => ?_)
  obtain ⟨I2, J2, B2, D2⟩ := u
  dsimp only at hok
  have hw := wLN_bM hw
  have hw : zW G A s.heap (wLN ad am K I1 J1 B1 (zmix 3 D1 D) I2 J2 B2 D2) H locs := hw
  refine lv_icmp_eq (tgt := 704) hx hb zd_LassoFinderLaw_law_337 (by decide) (fun hc3 => ?_) (fun hc3 => ?_)
  · have hok := hok.1 hc3
    refine W.widen (k := c9 + 1) (n := s9 + 6) (by first | omega | (dsimp only; omega)) (by first | omega | (dsimp only; omega)) ?_
    exact kh I1 J1 B1 (zmix 3 D1 D) I2 J2 B2 D2 ls H locs hok (lv_sub hl [0, 1, 2, 3, 4] rfl) hw
  · have hok := hok.2 hc3
    exact hok.elim
set_option maxHeartbeats 8000000 in
set_option maxRecDepth 100000 in
theorem zc6_N {p : Program} {l : Launch} {e : Env} {s : State} {m : MethodId} {below : List Frame} {meth : Method} {c : Code} {A : Nat → Prop} {G : va_G} {K : Nat → ClassId} {b L : Nat} {xs : Nat → Int32} (C : zCL p l s m b L xs meth c A G K) {ad am : Nat → Nat} {i8 c9 s9 : Nat} (KN : ((Nat → Int32) → (Nat → Int64) → (Nat → Nat → Int32) → (Nat → Nat → Int64) → (Nat → Int32) → (Nat → Int64) → (Nat → Nat → Int32) → (Nat → Nat → Int64) → Prop)) (kh : ∀ (I : Nat → Int32) (J : Nat → Int64) (B : Nat → Nat → Int32) (D : Nat → Nat → Int64) (I9 : Nat → Int32) (J9 : Nat → Int64) (B9 : Nat → Nat → Int32) (D9 : Nat → Nat → Int64) (ls : Array Slot) (H : Heap) (locs : List Loc), KN I J B D I9 J9 B9 D9 → lv_has ls 7 [(4, .int (nI i8)), (3, .ref (ad 77)), (2, .ref (am 0)), (1, .ref (ad 0)), (0, .ref b)] → zW G A s.heap (wLN ad am K I J B D I9 J9 B9 D9) H locs → W p l e room_1 s m #[Value.ref b] below meth c H locs (c9 + 1) (s9 + 6) (lw_Z below #[Value.ref b] s) (F0 m 704 ls [])) (hi : i8 + 3 ≤ L) (hL : L ≤ 1536) {a8 b8 : Int32} (h81 : xs (i8 + 1) = a8) (h82 : xs (i8 + 2) = b8) (hrc : c9 + 1 ≤ 601024) (hrs : s9 + 6 ≤ 7293033) : ∀ (I : Nat → Int32) (J : Nat → Int64) (B : Nat → Nat → Int32) (D : Nat → Nat → Int64) (I9 : Nat → Int32) (J9 : Nat → Int64) (B9 : Nat → Nat → Int32) (D9 : Nat → Nat → Int64) (ls : Array Slot) (H : Heap) (locs : List Loc), lc6_N KN a8 b8 I J B D I9 J9 B9 D9 → lv_has ls 7 [(4, .int (nI i8)), (3, .ref (ad 77)), (2, .ref (am 0)), (1, .ref (ad 0)), (0, .ref b)] → zW G A s.heap (wLN ad am K I J B D I9 J9 B9 D9) H locs → W p l e room_1 s m #[Value.ref b] below meth c H locs c9 s9 (lw_Z below #[Value.ref b] s) (F0 m 342 ls []) := by
  intro I J B D I9 J9 B9 D9 ls H locs hok hl hw
  obtain ⟨hx, hb, hr, hml, hts, hown, hlocks, hA, hA9, hbA, hK, hT, hX, hbl, hlt⟩ := id C
  have hrc : c9 + 1 ≤ room_1.cells := hrc
  have hrs : s9 + 6 ≤ room_1.slots := hrs
  unfold lc6_N at hok
  have hl : lv_has ls 7 [(4, .int (nI i8)), (3, .ref (ad 77)), (2, .ref (am 0)), (1, .ref (ad 0)), (0, .ref b)] := hl
  have hw : zW G A s.heap (wLN ad am K I J B D I9 J9 B9 D9) H locs := hw
  refine lv_aload_n hx hb zd_LassoFinderLaw_law_342 rfl (lv_at hl 3 rfl) ?_
  refine z_calli (w1 := fun (u : zS) => wX ad K Value.null u.1 u.2.1 u.2.2.1 u.2.2.2) (wr := ((ad 77, zJ K 1 (D 3)) :: wM am K I9 J9 B9 D9)) (z_runV (q0 := 1) (wc := (wX ad K Value.null I J B D)) (As := []) (rest := []) ⟨hx, hb, hml, hown, hts⟩ (w_LassoFinder_cycle_N l G K ad I J B D  _ H.size hok) zf_LassoFinder_cycle zq_367 ⟨(Nat.le_of_ble_eq_true rfl), (Nat.le_of_ble_eq_true rfl)⟩ hK hw (List.range' 1 65) wLN_X wLN_ndX wLN_gx rfl rfl hl.1 rfl (Nat.le_of_ble_eq_true rfl) zd_LassoFinderLaw_law_343 ⟨(by first | omega | (dsimp only; omega)), (by first | omega | (dsimp only; omega))⟩) hw hA (List.range' 1 65) (0 :: List.range' 66 58) wLN_X wLN_R wLN_ndR wLN_disRX (fun r1 u H locs hok hw => ?_)
  obtain ⟨I1, J1, B1, D1⟩ := u
  dsimp only at hok
  have hw := wLN_bX hw
  have hw : zW G A s.heap (wLN ad am K I1 J1 B1 (zmix 3 D1 D) I9 J9 B9 D9) H locs := hw
  refine lv_aload_n hx hb zd_LassoFinderLaw_law_346 rfl (lv_at hl 2 rfl) ?_
  refine z_calli (w1 := fun (u : zS) => wM am K u.1 u.2.1 u.2.2.1 u.2.2.2) (wr := (wPN ad K I1 J1 B1 (zmix 3 D1 D))) (z_runV (q0 := 66) (wc := (wM am K I9 J9 B9 D9)) (As := []) (rest := [.int r1]) ⟨hx, hb, hml, hown, hts⟩ (w_LassoFinderModel_cycle l G K am I9 J9 B9 D9  _ H.size hok) zf_LassoFinderModel_cycle zq_368 ⟨(Nat.le_of_ble_eq_true rfl), (Nat.le_of_ble_eq_true rfl)⟩ hK hw (List.range' 66 58) wLN_M wLN_ndM wLN_gm rfl rfl hl.1 rfl (Nat.le_of_ble_eq_true rfl) zd_LassoFinderLaw_law_347 ⟨(by first | omega | (dsimp only; omega)), (by first | omega | (dsimp only; omega))⟩) hw hA (List.range' 66 58) (List.range 66) wLN_M wLN_P wLN_ndP wLN_disPM (fun r2 u H locs hok hw => ?_)
  obtain ⟨I2, J2, B2, D2⟩ := u
  dsimp only at hok
  have hw := wLN_bM hw
  have hw : zW G A s.heap (wLN ad am K I1 J1 B1 (zmix 3 D1 D) I2 J2 B2 D2) H locs := hw
  refine lv_icmp_eq (tgt := 704) hx hb zd_LassoFinderLaw_law_350 (by decide) (fun hc3 => ?_) (fun hc3 => ?_)
  · have hok := hok.1 hc3
    refine W.widen (k := c9 + 1) (n := s9 + 6) (by first | omega | (dsimp only; omega)) (by first | omega | (dsimp only; omega)) ?_
    exact kh I1 J1 B1 (zmix 3 D1 D) I2 J2 B2 D2 ls H locs hok (lv_sub hl [0, 1, 2, 3, 4] rfl) hw
  · have hok := hok.2 hc3
    exact hok.elim
set_option maxHeartbeats 8000000 in
set_option maxRecDepth 100000 in
theorem zc7_N {p : Program} {l : Launch} {e : Env} {s : State} {m : MethodId} {below : List Frame} {meth : Method} {c : Code} {A : Nat → Prop} {G : va_G} {K : Nat → ClassId} {b L : Nat} {xs : Nat → Int32} (C : zCL p l s m b L xs meth c A G K) {ad am : Nat → Nat} {i8 c9 s9 : Nat} (KN : ((Nat → Int32) → (Nat → Int64) → (Nat → Nat → Int32) → (Nat → Nat → Int64) → (Nat → Int32) → (Nat → Int64) → (Nat → Nat → Int32) → (Nat → Nat → Int64) → Prop)) (kh : ∀ (I : Nat → Int32) (J : Nat → Int64) (B : Nat → Nat → Int32) (D : Nat → Nat → Int64) (I9 : Nat → Int32) (J9 : Nat → Int64) (B9 : Nat → Nat → Int32) (D9 : Nat → Nat → Int64) (ls : Array Slot) (H : Heap) (locs : List Loc), KN I J B D I9 J9 B9 D9 → lv_has ls 7 [(4, .int (nI i8)), (3, .ref (ad 77)), (2, .ref (am 0)), (1, .ref (ad 0)), (0, .ref b)] → zW G A s.heap (wLN ad am K I J B D I9 J9 B9 D9) H locs → W p l e room_1 s m #[Value.ref b] below meth c H locs (c9 + 1) (s9 + 6) (lw_Z below #[Value.ref b] s) (F0 m 704 ls [])) (hi : i8 + 3 ≤ L) (hL : L ≤ 1536) {a8 b8 : Int32} (h81 : xs (i8 + 1) = a8) (h82 : xs (i8 + 2) = b8) (hrc : c9 + 1 ≤ 601024) (hrs : s9 + 6 ≤ 7293033) : ∀ (I : Nat → Int32) (J : Nat → Int64) (B : Nat → Nat → Int32) (D : Nat → Nat → Int64) (I9 : Nat → Int32) (J9 : Nat → Int64) (B9 : Nat → Nat → Int32) (D9 : Nat → Nat → Int64) (ls : Array Slot) (H : Heap) (locs : List Loc), lc7_N KN a8 b8 I J B D I9 J9 B9 D9 → lv_has ls 7 [(4, .int (nI i8)), (3, .ref (ad 77)), (2, .ref (am 0)), (1, .ref (ad 0)), (0, .ref b)] → zW G A s.heap (wLN ad am K I J B D I9 J9 B9 D9) H locs → W p l e room_1 s m #[Value.ref b] below meth c H locs c9 s9 (lw_Z below #[Value.ref b] s) (F0 m 355 ls []) := by
  intro I J B D I9 J9 B9 D9 ls H locs hok hl hw
  obtain ⟨hx, hb, hr, hml, hts, hown, hlocks, hA, hA9, hbA, hK, hT, hX, hbl, hlt⟩ := id C
  have hrc : c9 + 1 ≤ room_1.cells := hrc
  have hrs : s9 + 6 ≤ room_1.slots := hrs
  unfold lc7_N at hok
  have hl : lv_has ls 7 [(4, .int (nI i8)), (3, .ref (ad 77)), (2, .ref (am 0)), (1, .ref (ad 0)), (0, .ref b)] := hl
  have hw : zW G A s.heap (wLN ad am K I J B D I9 J9 B9 D9) H locs := hw
  refine lv_aload_n hx hb zd_LassoFinderLaw_law_355 rfl (lv_at hl 3 rfl) ?_
  refine lv_aload_n hx hb zd_LassoFinderLaw_law_356 rfl (lv_at hl 4 rfl) ?_
  refine lv_iload hx hb zd_LassoFinderLaw_law_357 (lv_at hl 0 rfl) ?_
  refine lv_iconst (v := 1) hx hb zd_LassoFinderLaw_law_359 (by decide) ?_
  refine lv_iadd hx hb zd_LassoFinderLaw_law_360 ?_
  refine lv_topi (fun z1 ez1 => ?_)
  obtain rfl : z1 = nI (i8 + 1) := ez1.trans (nI_add i8 1)
  refine va_sld hx hb hX hbl hbA hw.2.2 (i := nI (i8 + 1)) (vp_in_nI (by omega) (by omega)) zd_LassoFinderLaw_law_361 ?_
  rw [nI_clamp (show i8 + 1 < 2 ^ 31 by omega), h81]
  refine lv_aload_n hx hb zd_LassoFinderLaw_law_362 rfl (lv_at hl 4 rfl) ?_
  refine lv_iload hx hb zd_LassoFinderLaw_law_363 (lv_at hl 0 rfl) ?_
  refine lv_iconst (v := 2) hx hb zd_LassoFinderLaw_law_365 (by decide) ?_
  refine lv_iadd hx hb zd_LassoFinderLaw_law_366 ?_
  refine lv_topi (fun z2 ez2 => ?_)
  obtain rfl : z2 = nI (i8 + 2) := ez2.trans (nI_add i8 2)
  refine va_sld hx hb hX hbl hbA hw.2.2 (i := nI (i8 + 2)) (vp_in_nI (by omega) (by omega)) zd_LassoFinderLaw_law_367 ?_
  rw [nI_clamp (show i8 + 2 < 2 ^ 31 by omega), h82]
  refine lv_aload_n hx hb zd_LassoFinderLaw_law_368 rfl (lv_at hl 1 rfl) ?_
  refine z_calli (w1 := fun (u : zS) => wPN ad K u.1 u.2.1 u.2.2.1 u.2.2.2) (wr := (wM am K I9 J9 B9 D9)) (z_runSWY (wc := (wPN ad K I J B D)) (As := [.ref (ad 0), .int a8, .int b8, .ref (ad 77)]) (rest := []) ⟨hx, hb, hml, hown, hts⟩ (w_L_lasso_N l hlt G K ad I J B D a8 b8 _ H.size hok) zf_LassoFinderLaw_lasso zq_369 ⟨(Nat.le_of_ble_eq_true rfl), (Nat.le_of_ble_eq_true rfl)⟩ hK hT hw hA (List.range 66) wLN_P wLN_ndP rfl hl.1 rfl (Nat.le_of_ble_eq_true rfl) zd_LassoFinderLaw_law_369 ⟨(by first | omega | (dsimp only; omega)), (by first | omega | (dsimp only; omega))⟩) hw hA (List.range 66) (List.range' 66 58) wLN_P wLN_M wLN_ndM wLN_disMP (fun r3 u H locs hok hw => ?_)
  obtain ⟨I3, J3, B3, D3⟩ := u
  dsimp only at hok
  have hw := wLN_bP hw
  have hw : zW G A s.heap (wLN ad am K I3 J3 B3 D3 I9 J9 B9 D9) H locs := hw
  refine lv_istore hx hb zd_LassoFinderLaw_law_372 hl (by decide) rfl (fun ls hl => ?_)
  have hl : lv_has ls 7 [(5, .int r3), (4, .int (nI i8)), (3, .ref (ad 77)), (2, .ref (am 0)), (1, .ref (ad 0)), (0, .ref b)] := hl
  refine lv_aload_n hx hb zd_LassoFinderLaw_law_374 rfl (lv_at hl 3 rfl) ?_
  refine lv_aload_n hx hb zd_LassoFinderLaw_law_375 rfl (lv_at hl 5 rfl) ?_
  refine lv_iload hx hb zd_LassoFinderLaw_law_376 (lv_at hl 1 rfl) ?_
  refine lv_iconst (v := 1) hx hb zd_LassoFinderLaw_law_378 (by decide) ?_
  refine lv_iadd hx hb zd_LassoFinderLaw_law_379 ?_
  refine lv_topi (fun z4 ez4 => ?_)
  obtain rfl : z4 = nI (i8 + 1) := ez4.trans (nI_add i8 1)
  refine va_sld hx hb hX hbl hbA hw.2.2 (i := nI (i8 + 1)) (vp_in_nI (by omega) (by omega)) zd_LassoFinderLaw_law_380 ?_
  rw [nI_clamp (show i8 + 1 < 2 ^ 31 by omega), h81]
  refine lv_aload_n hx hb zd_LassoFinderLaw_law_381 rfl (lv_at hl 5 rfl) ?_
  refine lv_iload hx hb zd_LassoFinderLaw_law_382 (lv_at hl 1 rfl) ?_
  refine lv_iconst (v := 2) hx hb zd_LassoFinderLaw_law_384 (by decide) ?_
  refine lv_iadd hx hb zd_LassoFinderLaw_law_385 ?_
  refine lv_topi (fun z5 ez5 => ?_)
  obtain rfl : z5 = nI (i8 + 2) := ez5.trans (nI_add i8 2)
  refine va_sld hx hb hX hbl hbA hw.2.2 (i := nI (i8 + 2)) (vp_in_nI (by omega) (by omega)) zd_LassoFinderLaw_law_386 ?_
  rw [nI_clamp (show i8 + 2 < 2 ^ 31 by omega), h82]
  refine z_calli (w1 := fun (u : zS) => wM am K u.1 u.2.1 u.2.2.1 u.2.2.2) (wr := (wPN ad K I3 J3 B3 D3)) (z_runV (q0 := 66) (wc := (wM am K I9 J9 B9 D9)) (As := [.int a8, .int b8]) (rest := []) ⟨hx, hb, hml, hown, hts⟩ (w_LassoFinderModel_lasso l G K am I9 J9 B9 D9 a8 b8 _ H.size hok) zf_LassoFinderModel_lasso zq_370 ⟨(Nat.le_of_ble_eq_true rfl), (Nat.le_of_ble_eq_true rfl)⟩ hK hw (List.range' 66 58) wLN_M wLN_ndM wLN_gm rfl rfl hl.1 rfl (Nat.le_of_ble_eq_true rfl) zd_LassoFinderLaw_law_387 ⟨(by first | omega | (dsimp only; omega)), (by first | omega | (dsimp only; omega))⟩) hw hA (List.range' 66 58) (List.range 66) wLN_M wLN_P wLN_ndP wLN_disPM (fun r6 u H locs hok hw => ?_)
  obtain ⟨I6, J6, B6, D6⟩ := u
  dsimp only at hok
  have hw := wLN_bM hw
  have hw : zW G A s.heap (wLN ad am K I3 J3 B3 D3 I6 J6 B6 D6) H locs := hw
  refine lv_istore hx hb zd_LassoFinderLaw_law_390 hl (by decide) rfl (fun ls hl => ?_)
  have hl : lv_has ls 7 [(6, .int r6), (5, .int r3), (4, .int (nI i8)), (3, .ref (ad 77)), (2, .ref (am 0)), (1, .ref (ad 0)), (0, .ref b)] := hl
  refine lv_aload_n hx hb zd_LassoFinderLaw_law_392 rfl (lv_at hl 4 rfl) ?_
  refine z_calli (w1 := fun (u : zS) => wM am K u.1 u.2.1 u.2.2.1 u.2.2.2) (wr := (wPN ad K I3 J3 B3 D3)) (z_runV (q0 := 66) (wc := (wM am K I6 J6 B6 D6)) (As := []) (rest := []) ⟨hx, hb, hml, hown, hts⟩ (w_LassoFinderModel_thrown l G K am I6 J6 B6 D6  _ H.size hok) zf_LassoFinderModel_thrown zq_358 ⟨(Nat.le_of_ble_eq_true rfl), (Nat.le_of_ble_eq_true rfl)⟩ hK hw (List.range' 66 58) wLN_M wLN_ndM wLN_gm rfl rfl hl.1 rfl (Nat.le_of_ble_eq_true rfl) zd_LassoFinderLaw_law_393 ⟨(by first | omega | (dsimp only; omega)), (by first | omega | (dsimp only; omega))⟩) hw hA (List.range' 66 58) (List.range 66) wLN_M wLN_P wLN_ndP wLN_disPM (fun r7 u H locs hok hw => ?_)
  obtain ⟨I7, J7, B7, D7⟩ := u
  dsimp only at hok
  have hw := wLN_bM hw
  have hw : zW G A s.heap (wLN ad am K I3 J3 B3 D3 I7 J7 B7 D7) H locs := hw
  refine lv_iload hx hb zd_LassoFinderLaw_law_396 (lv_at hl 1 rfl) ?_
  refine lv_icmp_eq (tgt := 403) hx hb zd_LassoFinderLaw_law_398 (by decide) (fun hc8 => ?_) (fun hc8 => ?_)
  · have hok := hok.1 hc8
    refine lv_iload hx hb zd_LassoFinderLaw_law_403 (lv_at hl 1 rfl) ?_
    refine lv_if_ne (tgt := 420) hx hb zd_LassoFinderLaw_law_405 (by decide) (fun hc9 => ?_) (fun hc9 => ?_)
    · have hok := hok.1 hc9
      refine lv_goto (tgt := 704) hx hb zd_LassoFinderLaw_law_420 (by decide) ?_
      refine W.widen (k := c9 + 1) (n := s9 + 6) (by first | omega | (dsimp only; omega)) (by first | omega | (dsimp only; omega)) ?_
      exact kh I3 J3 B3 D3 I7 J7 B7 D7 ls H locs hok (lv_sub hl [2, 3, 4, 5, 6] rfl) hw
    · have hok := hok.2 hc9
      refine lv_aload_n hx hb zd_LassoFinderLaw_law_408 rfl (lv_at hl 3 rfl) ?_
      refine lv_iconst (v := 0) hx hb zd_LassoFinderLaw_law_409 (by decide) ?_
      refine va_lald (f := D3 3) hx hb hK hw.1 0 1 wLN_a0 rfl z_in0 zd_LassoFinderLaw_law_410 ?_
      refine lv_topl (fun z10 ez10 => ?_)
      have hok := hok z10 ez10
      refine lv_iload hx hb zd_LassoFinderLaw_law_411 (lv_at hl 0 rfl) ?_
      refine lv_i2l hx hb zd_LassoFinderLaw_law_413 rfl ?_
      refine lv_topl (fun z11 ez11 => ?_)
      have hok := hok z11 ez11
      refine W.lcmp hx hb zd_LassoFinderLaw_law_414 ?_
      refine lv_topi (fun z12 ez12 => ?_)
      have hok := hok z12 ez12
      refine lv_if_eq (tgt := 420) hx hb zd_LassoFinderLaw_law_415 (by decide) (fun hc13 => ?_) (fun hc13 => ?_)
      · have hok := hok.1 hc13
        refine lv_goto (tgt := 704) hx hb zd_LassoFinderLaw_law_420 (by decide) ?_
        refine W.widen (k := c9 + 1) (n := s9 + 6) (by first | omega | (dsimp only; omega)) (by first | omega | (dsimp only; omega)) ?_
        exact kh I3 J3 B3 D3 I7 J7 B7 D7 ls H locs hok (lv_sub hl [2, 3, 4, 5, 6] rfl) hw
      · have hok := hok.2 hc13
        exact hok.elim
  · have hok := hok.2 hc8
    exact hok.elim
set_option maxHeartbeats 8000000 in
set_option maxRecDepth 100000 in
theorem zc8_N {p : Program} {l : Launch} {e : Env} {s : State} {m : MethodId} {below : List Frame} {meth : Method} {c : Code} {A : Nat → Prop} {G : va_G} {K : Nat → ClassId} {b L : Nat} {xs : Nat → Int32} (C : zCL p l s m b L xs meth c A G K) {ad am : Nat → Nat} {i8 c9 s9 : Nat} (KN : ((Nat → Int32) → (Nat → Int64) → (Nat → Nat → Int32) → (Nat → Nat → Int64) → (Nat → Int32) → (Nat → Int64) → (Nat → Nat → Int32) → (Nat → Nat → Int64) → Prop)) (kh : ∀ (I : Nat → Int32) (J : Nat → Int64) (B : Nat → Nat → Int32) (D : Nat → Nat → Int64) (I9 : Nat → Int32) (J9 : Nat → Int64) (B9 : Nat → Nat → Int32) (D9 : Nat → Nat → Int64) (ls : Array Slot) (H : Heap) (locs : List Loc), KN I J B D I9 J9 B9 D9 → lv_has ls 7 [(4, .int (nI i8)), (3, .ref (ad 77)), (2, .ref (am 0)), (1, .ref (ad 0)), (0, .ref b)] → zW G A s.heap (wLN ad am K I J B D I9 J9 B9 D9) H locs → W p l e room_1 s m #[Value.ref b] below meth c H locs (c9 + 1) (s9 + 6) (lw_Z below #[Value.ref b] s) (F0 m 704 ls [])) (hi : i8 + 3 ≤ L) (hL : L ≤ 1536) {a8 b8 : Int32} (h81 : xs (i8 + 1) = a8) (h82 : xs (i8 + 2) = b8) (hrc : c9 + 1 ≤ 601024) (hrs : s9 + 6 ≤ 7293033) : ∀ (I : Nat → Int32) (J : Nat → Int64) (B : Nat → Nat → Int32) (D : Nat → Nat → Int64) (I9 : Nat → Int32) (J9 : Nat → Int64) (B9 : Nat → Nat → Int32) (D9 : Nat → Nat → Int64) (ls : Array Slot) (H : Heap) (locs : List Loc), lc8_N KN a8 b8 I J B D I9 J9 B9 D9 → lv_has ls 7 [(4, .int (nI i8)), (3, .ref (ad 77)), (2, .ref (am 0)), (1, .ref (ad 0)), (0, .ref b)] → zW G A s.heap (wLN ad am K I J B D I9 J9 B9 D9) H locs → W p l e room_1 s m #[Value.ref b] below meth c H locs c9 s9 (lw_Z below #[Value.ref b] s) (F0 m 423 ls []) := by
  intro I J B D I9 J9 B9 D9 ls H locs hok hl hw
  obtain ⟨hx, hb, hr, hml, hts, hown, hlocks, hA, hA9, hbA, hK, hT, hX, hbl, hlt⟩ := id C
  have hrc : c9 + 1 ≤ room_1.cells := hrc
  have hrs : s9 + 6 ≤ room_1.slots := hrs
  unfold lc8_N at hok
  have hl : lv_has ls 7 [(4, .int (nI i8)), (3, .ref (ad 77)), (2, .ref (am 0)), (1, .ref (ad 0)), (0, .ref b)] := hl
  have hw : zW G A s.heap (wLN ad am K I J B D I9 J9 B9 D9) H locs := hw
  refine lv_aload_n hx hb zd_LassoFinderLaw_law_423 rfl (lv_at hl 3 rfl) ?_
  refine z_calli (w1 := fun (u : zS) => wPN ad K u.1 u.2.1 u.2.2.1 u.2.2.2) (wr := (wM am K I9 J9 B9 D9)) (z_runSWY (wc := (wPN ad K I J B D)) (As := [.ref (ad 0)]) (rest := []) ⟨hx, hb, hml, hown, hts⟩ (w_L_walk_N l hlt G K ad I J B D  _ H.size hok) zf_LassoFinderLaw_walk zq_371 ⟨(Nat.le_of_ble_eq_true rfl), (Nat.le_of_ble_eq_true rfl)⟩ hK hT hw hA (List.range 66) wLN_P wLN_ndP rfl hl.1 rfl (Nat.le_of_ble_eq_true rfl) zd_LassoFinderLaw_law_424 ⟨(by first | omega | (dsimp only; omega)), (by first | omega | (dsimp only; omega))⟩) hw hA (List.range 66) (List.range' 66 58) wLN_P wLN_M wLN_ndM wLN_disMP (fun r1 u H locs hok hw => ?_)
  obtain ⟨I1, J1, B1, D1⟩ := u
  dsimp only at hok
  have hw := wLN_bP hw
  have hw : zW G A s.heap (wLN ad am K I1 J1 B1 D1 I9 J9 B9 D9) H locs := hw
  refine lv_istore hx hb zd_LassoFinderLaw_law_427 hl (by decide) rfl (fun ls hl => ?_)
  have hl : lv_has ls 7 [(5, .int r1), (4, .int (nI i8)), (3, .ref (ad 77)), (2, .ref (am 0)), (1, .ref (ad 0)), (0, .ref b)] := hl
  refine lv_aload_n hx hb zd_LassoFinderLaw_law_429 rfl (lv_at hl 3 rfl) ?_
  refine z_callv (w1 := fun (u : zS) => wM am K u.1 u.2.1 u.2.2.1 u.2.2.2) (wr := (wPN ad K I1 J1 B1 D1)) (z_runV (q0 := 66) (wc := (wM am K I9 J9 B9 D9)) (As := []) (rest := []) ⟨hx, hb, hml, hown, hts⟩ (w_LassoFinderModel_walk l G K am I9 J9 B9 D9  _ H.size hok) zf_LassoFinderModel_walk zq_372 ⟨(Nat.le_of_ble_eq_true rfl), (Nat.le_of_ble_eq_true rfl)⟩ hK hw (List.range' 66 58) wLN_M wLN_ndM wLN_gm rfl rfl hl.1 rfl (Nat.le_of_ble_eq_true rfl) zd_LassoFinderLaw_law_430 ⟨(by first | omega | (dsimp only; omega)), (by first | omega | (dsimp only; omega))⟩) hw hA (List.range' 66 58) (List.range 66) wLN_M wLN_P wLN_ndP wLN_disPM (fun u H locs hok hw => ?_)
  obtain ⟨I2, J2, B2, D2⟩ := u
  dsimp only at hok
  have hw := wLN_bM hw
  have hw : zW G A s.heap (wLN ad am K I1 J1 B1 D1 I2 J2 B2 D2) H locs := hw
  refine lv_aload_n hx hb zd_LassoFinderLaw_law_433 rfl (lv_at hl 3 rfl) ?_
  refine z_calli (w1 := fun (u : zS) => wM am K u.1 u.2.1 u.2.2.1 u.2.2.2) (wr := (wPN ad K I1 J1 B1 D1)) (z_runV (q0 := 66) (wc := (wM am K I2 J2 B2 D2)) (As := []) (rest := []) ⟨hx, hb, hml, hown, hts⟩ (w_LassoFinderModel_thrown l G K am I2 J2 B2 D2  _ H.size hok) zf_LassoFinderModel_thrown zq_358 ⟨(Nat.le_of_ble_eq_true rfl), (Nat.le_of_ble_eq_true rfl)⟩ hK hw (List.range' 66 58) wLN_M wLN_ndM wLN_gm rfl rfl hl.1 rfl (Nat.le_of_ble_eq_true rfl) zd_LassoFinderLaw_law_434 ⟨(by first | omega | (dsimp only; omega)), (by first | omega | (dsimp only; omega))⟩) hw hA (List.range' 66 58) (List.range 66) wLN_M wLN_P wLN_ndP wLN_disPM (fun r3 u H locs hok hw => ?_)
  obtain ⟨I3, J3, B3, D3⟩ := u
  dsimp only at hok
  have hw := wLN_bM hw
  have hw : zW G A s.heap (wLN ad am K I1 J1 B1 D1 I3 J3 B3 D3) H locs := hw
  refine lv_iload hx hb zd_LassoFinderLaw_law_437 (lv_at hl 0 rfl) ?_
  refine lv_icmp_eq (tgt := 444) hx hb zd_LassoFinderLaw_law_439 (by decide) (fun hc4 => ?_) (fun hc4 => ?_)
  · have hok := hok.1 hc4
    refine lv_goto (tgt := 704) hx hb zd_LassoFinderLaw_law_444 (by decide) ?_
    refine W.widen (k := c9 + 1) (n := s9 + 6) (by first | omega | (dsimp only; omega)) (by first | omega | (dsimp only; omega)) ?_
    exact kh I1 J1 B1 D1 I3 J3 B3 D3 ls H locs hok (lv_sub hl [1, 2, 3, 4, 5] rfl) hw
  · have hok := hok.2 hc4
    exact hok.elim
