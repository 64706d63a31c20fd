theorem zq_383 : Cond.methodLink "LassoFinderLaw" 109 ⟨"LassoFinder", "holder", "()I"⟩ ∈ zTB := z_in (zt_3 _ (List.mem_of_getElem? (i := 74) rfl)) rfl
theorem zq_384 : Cond.methodLink "LassoFinderLaw" 112 ⟨"LassoFinderModel", "holder", "()I"⟩ ∈ zTB := z_in (zt_8 _ (List.mem_of_getElem? (i := 165) rfl)) rfl
theorem zq_385 : Cond.methodLink "LassoFinderLaw" 113 ⟨"LassoFinderLaw", "truth", "(LLassoFinder;I[J)I"⟩ ∈ zTB := z_in (zt_6 _ (List.mem_of_getElem? (i := 71) rfl)) rfl
theorem zq_386 : Cond.methodLink "LassoFinderLaw" 115 ⟨"LassoFinderModel", "truth", "(I)Z"⟩ ∈ zTB := z_in (zt_8 _ (List.mem_of_getElem? (i := 169) rfl)) rfl
theorem zq_387 : Cond.methodLink "LassoFinderLaw" 116 ⟨"LassoFinder", "count", "(I)I"⟩ ∈ zTB := z_in (zt_3 _ (List.mem_of_getElem? (i := 78) rfl)) rfl
theorem zq_388 : Cond.methodLink "LassoFinderLaw" 119 ⟨"LassoFinderModel", "count", "(I)I"⟩ ∈ zTB := z_in (zt_8 _ (List.mem_of_getElem? (i := 173) rfl)) rfl
theorem zq_471 : Cond.code ⟨"LassoFinder", "holder", "()I"⟩ prog_1_method_16_code 1 (some .int) ∈ zTB := z_in (zt_3 _ (List.mem_of_getElem? (i := 77) rfl)) rfl
theorem zq_472 : Cond.selects "LassoFinder" ⟨"LassoFinder", "holder", "()I"⟩ ⟨"LassoFinder", "holder", "()I"⟩ ∈ zTB := z_in (zt_3 _ (List.mem_of_getElem? (i := 76) rfl)) rfl
theorem zq_473 : Cond.instanceMethod ⟨"LassoFinder", "holder", "()I"⟩ ∈ zTB := z_in (zt_3 _ (List.mem_of_getElem? (i := 75) rfl)) rfl
theorem zq_474 : Cond.code ⟨"LassoFinderModel", "holder", "()I"⟩ prog_14_method_77_code 1 (some .int) ∈ zTB := z_in (zt_8 _ (List.mem_of_getElem? (i := 168) rfl)) rfl
theorem zq_475 : Cond.selects "LassoFinderModel" ⟨"LassoFinderModel", "holder", "()I"⟩ ⟨"LassoFinderModel", "holder", "()I"⟩ ∈ zTB := z_in (zt_8 _ (List.mem_of_getElem? (i := 167) rfl)) rfl
theorem zq_476 : Cond.instanceMethod ⟨"LassoFinderModel", "holder", "()I"⟩ ∈ zTB := z_in (zt_8 _ (List.mem_of_getElem? (i := 166) rfl)) rfl
theorem zq_477 : Cond.codeWith ⟨"LassoFinderLaw", "truth", "(LLassoFinder;I[J)I"⟩ method_9_code 4 (some .int) [(0, 16, 19, 20), (0, 16, 22, 13)] ∈ zTB := z_in (zt_6 _ (List.mem_of_getElem? (i := 73) rfl)) rfl
theorem zq_478 : Cond.static ⟨"LassoFinderLaw", "truth", "(LLassoFinder;I[J)I"⟩ ∈ zTB := z_in (zt_6 _ (List.mem_of_getElem? (i := 72) rfl)) rfl
theorem zq_479 : Cond.code ⟨"LassoFinderModel", "truth", "(I)Z"⟩ prog_14_method_78_code 7 (some .boolean) ∈ zTB := z_in (zt_8 _ (List.mem_of_getElem? (i := 172) rfl)) rfl
theorem zq_480 : Cond.selects "LassoFinderModel" ⟨"LassoFinderModel", "truth", "(I)Z"⟩ ⟨"LassoFinderModel", "truth", "(I)Z"⟩ ∈ zTB := z_in (zt_8 _ (List.mem_of_getElem? (i := 171) rfl)) rfl
theorem zq_481 : Cond.instanceMethod ⟨"LassoFinderModel", "truth", "(I)Z"⟩ ∈ zTB := z_in (zt_8 _ (List.mem_of_getElem? (i := 170) rfl)) rfl
theorem zq_482 : Cond.code ⟨"LassoFinder", "count", "(I)I"⟩ prog_1_method_18_code 2 (some .int) ∈ zTB := z_in (zt_3 _ (List.mem_of_getElem? (i := 81) rfl)) rfl
theorem zq_483 : Cond.selects "LassoFinder" ⟨"LassoFinder", "count", "(I)I"⟩ ⟨"LassoFinder", "count", "(I)I"⟩ ∈ zTB := z_in (zt_3 _ (List.mem_of_getElem? (i := 80) rfl)) rfl
theorem zq_484 : Cond.instanceMethod ⟨"LassoFinder", "count", "(I)I"⟩ ∈ zTB := z_in (zt_3 _ (List.mem_of_getElem? (i := 79) rfl)) rfl
theorem zq_485 : Cond.code ⟨"LassoFinderModel", "count", "(I)I"⟩ prog_14_method_79_code 2 (some .int) ∈ zTB := z_in (zt_8 _ (List.mem_of_getElem? (i := 176) rfl)) rfl
theorem zq_486 : Cond.selects "LassoFinderModel" ⟨"LassoFinderModel", "count", "(I)I"⟩ ⟨"LassoFinderModel", "count", "(I)I"⟩ ∈ zTB := z_in (zt_8 _ (List.mem_of_getElem? (i := 175) rfl)) rfl
theorem zq_487 : Cond.instanceMethod ⟨"LassoFinderModel", "count", "(I)I"⟩ ∈ zTB := z_in (zt_8 _ (List.mem_of_getElem? (i := 174) rfl)) rfl
theorem zf_LassoFinder_holder : zFaceV zy_LassoFinder_holder prog_1_method_16_code 1 (some .int) 0 := ⟨zq_473, zq_472, zm_1, zq_471, by decide +kernel, by decide +kernel, by decide +kernel⟩
theorem zf_LassoFinderModel_holder : zFaceV zy_LassoFinderModel_holder prog_14_method_77_code 1 (some .int) 0 := ⟨zq_476, zq_475, zm_25, zq_474, by decide +kernel, by decide +kernel, by decide +kernel⟩
theorem zf_LassoFinderLaw_truth : zFaceSW zy_LassoFinderLaw_truth method_9_code 4 (some .int) [(0, 16, 19, 20), (0, 16, 22, 13)] 3 := ⟨zq_478, zq_396, zq_477, by decide +kernel, by decide +kernel, by decide +kernel⟩
theorem zf_LassoFinderModel_truth : zFaceV zy_LassoFinderModel_truth prog_14_method_78_code 7 (some .boolean) 1 := ⟨zq_481, zq_480, zm_25, zq_479, by decide +kernel, by decide +kernel, by decide +kernel⟩
theorem zf_LassoFinder_count : zFaceV zy_LassoFinder_count prog_1_method_18_code 2 (some .int) 1 := ⟨zq_484, zq_483, zm_1, zq_482, by decide +kernel, by decide +kernel, by decide +kernel⟩
theorem zf_LassoFinderModel_count : zFaceV zy_LassoFinderModel_count prog_14_method_79_code 2 (some .int) 1 := ⟨zq_487, zq_486, zm_25, zq_485, by decide +kernel, by decide +kernel, by decide +kernel⟩
theorem zd_LassoFinderLaw_law_603 : decode code 603 = .ok (.aload_n 1, 1) := by decide +kernel
theorem zd_LassoFinderLaw_law_604 : decode code 604 = .ok (.invokevirtual 109, 3) := by decide +kernel
theorem zd_LassoFinderLaw_law_607 : decode code 607 = .ok (.aload_n 2, 1) := by decide +kernel
theorem zd_LassoFinderLaw_law_608 : decode code 608 = .ok (.invokevirtual 112, 3) := by decide +kernel
theorem zd_LassoFinderLaw_law_611 : decode code 611 = .ok (.if_icmp .eq 93, 3) := by decide +kernel
theorem zd_LassoFinderLaw_law_616 : decode code 616 = .ok (.aload_n 1, 1) := by decide +kernel
theorem zd_LassoFinderLaw_law_617 : decode code 617 = .ok (.aload_n 0, 1) := by decide +kernel
theorem zd_LassoFinderLaw_law_618 : decode code 618 = .ok (.iload 4, 2) := by decide +kernel
theorem zd_LassoFinderLaw_law_620 : decode code 620 = .ok (.iconst 1, 1) := by decide +kernel
theorem zd_LassoFinderLaw_law_621 : decode code 621 = .ok (.iadd, 1) := by decide +kernel
theorem zd_LassoFinderLaw_law_622 : decode code 622 = .ok (.iaload, 1) := by decide +kernel
theorem zd_LassoFinderLaw_law_623 : decode code 623 = .ok (.aload_n 3, 1) := by decide +kernel
theorem zd_LassoFinderLaw_law_624 : decode code 624 = .ok (.invokestatic 113, 3) := by decide +kernel
theorem zd_LassoFinderLaw_law_627 : decode code 627 = .ok (.istore 5, 2) := by decide +kernel
theorem zd_LassoFinderLaw_law_629 : decode code 629 = .ok (.aload_n 2, 1) := by decide +kernel
theorem zd_LassoFinderLaw_law_630 : decode code 630 = .ok (.aload_n 0, 1) := by decide +kernel
theorem zd_LassoFinderLaw_law_631 : decode code 631 = .ok (.iload 4, 2) := by decide +kernel
theorem zd_LassoFinderLaw_law_633 : decode code 633 = .ok (.iconst 1, 1) := by decide +kernel
theorem zd_LassoFinderLaw_law_634 : decode code 634 = .ok (.iadd, 1) := by decide +kernel
theorem zd_LassoFinderLaw_law_635 : decode code 635 = .ok (.iaload, 1) := by decide +kernel
theorem zd_LassoFinderLaw_law_636 : decode code 636 = .ok (.invokevirtual 115, 3) := by decide +kernel
theorem zd_LassoFinderLaw_law_639 : decode code 639 = .ok (.istore 6, 2) := by decide +kernel
theorem zd_LassoFinderLaw_law_641 : decode code 641 = .ok (.aload_n 2, 1) := by decide +kernel
theorem zd_LassoFinderLaw_law_642 : decode code 642 = .ok (.invokevirtual 60, 3) := by decide +kernel
theorem zd_LassoFinderLaw_law_645 : decode code 645 = .ok (.iload 5, 2) := by decide +kernel
theorem zd_LassoFinderLaw_law_647 : decode code 647 = .ok (.if_icmp .eq 5, 3) := by decide +kernel
theorem zd_LassoFinderLaw_law_652 : decode code 652 = .ok (.iload 5, 2) := by decide +kernel
theorem zd_LassoFinderLaw_law_654 : decode code 654 = .ok (.ifCond .ne 22, 3) := by decide +kernel
theorem zd_LassoFinderLaw_law_657 : decode code 657 = .ok (.aload_n 3, 1) := by decide +kernel
theorem zd_LassoFinderLaw_law_658 : decode code 658 = .ok (.iconst 0, 1) := by decide +kernel
theorem zd_LassoFinderLaw_law_659 : decode code 659 = .ok (.laload, 1) := by decide +kernel
theorem zd_LassoFinderLaw_law_660 : decode code 660 = .ok (.iload 6, 2) := by decide +kernel
theorem zd_LassoFinderLaw_law_662 : decode code 662 = .ok (.ifCond .eq 7, 3) := by decide +kernel
theorem zd_LassoFinderLaw_law_665 : decode code 665 = .ok (.lconst 1, 1) := by decide +kernel
theorem zd_LassoFinderLaw_law_666 : decode code 666 = .ok (.goto 4, 3) := by decide +kernel
theorem zd_LassoFinderLaw_law_669 : decode code 669 = .ok (.lconst 0, 1) := by decide +kernel
theorem zd_LassoFinderLaw_law_670 : decode code 670 = .ok (.lcmp, 1) := by decide +kernel
theorem zd_LassoFinderLaw_law_671 : decode code 671 = .ok (.ifCond .eq 5, 3) := by decide +kernel
theorem zd_LassoFinderLaw_law_676 : decode code 676 = .ok (.goto 28, 3) := by decide +kernel
theorem zd_LassoFinderLaw_law_679 : decode code 679 = .ok (.aload_n 1, 1) := by decide +kernel
theorem zd_LassoFinderLaw_law_680 : decode code 680 = .ok (.aload_n 0, 1) := by decide +kernel
theorem zd_LassoFinderLaw_law_681 : decode code 681 = .ok (.iload 4, 2) := by decide +kernel
theorem zd_LassoFinderLaw_law_683 : decode code 683 = .ok (.iconst 1, 1) := by decide +kernel
theorem zd_LassoFinderLaw_law_684 : decode code 684 = .ok (.iadd, 1) := by decide +kernel
theorem zd_LassoFinderLaw_law_685 : decode code 685 = .ok (.iaload, 1) := by decide +kernel
theorem zd_LassoFinderLaw_law_686 : decode code 686 = .ok (.invokevirtual 116, 3) := by decide +kernel
theorem zd_LassoFinderLaw_law_689 : decode code 689 = .ok (.aload_n 2, 1) := by decide +kernel
theorem zd_LassoFinderLaw_law_690 : decode code 690 = .ok (.aload_n 0, 1) := by decide +kernel
theorem zd_LassoFinderLaw_law_691 : decode code 691 = .ok (.iload 4, 2) := by decide +kernel
theorem zd_LassoFinderLaw_law_693 : decode code 693 = .ok (.iconst 1, 1) := by decide +kernel
theorem zd_LassoFinderLaw_law_694 : decode code 694 = .ok (.iadd, 1) := by decide +kernel
theorem zd_LassoFinderLaw_law_695 : decode code 695 = .ok (.iaload, 1) := by decide +kernel
theorem zd_LassoFinderLaw_law_696 : decode code 696 = .ok (.invokevirtual 119, 3) := by decide +kernel
theorem zd_LassoFinderLaw_law_699 : decode code 699 = .ok (.if_icmp .eq 5, 3) := by decide +kernel
set_option maxHeartbeats 8000000 in
set_option maxRecDepth 100000 in
theorem zc14_N {p : Program} {l : Launch} {e : Env} {s : State} {m : MethodId} {below : List Frame} {meth : Method} {c : Code} {A : Nat → Prop} {G : va_G} {K : Nat → ClassId} {b L : Nat} {xs : Nat → Int32} (C : zCL p l s m b L xs meth c A G K) {ad am : Nat → Nat} {i8 c9 s9 : Nat} (KN : ((Nat → Int32) → (Nat → Int64) → (Nat → Nat → Int32) → (Nat → Nat → Int64) → (Nat → Int32) → (Nat → Int64) → (Nat → Nat → Int32) → (Nat → Nat → Int64) → Prop)) (kh : ∀ (I : Nat → Int32) (J : Nat → Int64) (B : Nat → Nat → Int32) (D : Nat → Nat → Int64) (I9 : Nat → Int32) (J9 : Nat → Int64) (B9 : Nat → Nat → Int32) (D9 : Nat → Nat → Int64) (ls : Array Slot) (H : Heap) (locs : List Loc), KN I J B D I9 J9 B9 D9 → lv_has ls 7 [(4, .int (nI i8)), (3, .ref (ad 77)), (2, .ref (am 0)), (1, .ref (ad 0)), (0, .ref b)] → zW G A s.heap (wLN ad am K I J B D I9 J9 B9 D9) H locs → W p l e room_1 s m #[Value.ref b] below meth c H locs (c9 + 1) (s9 + 6) (lw_Z below #[Value.ref b] s) (F0 m 704 ls [])) (hi : i8 + 3 ≤ L) (hL : L ≤ 1536) {a8 b8 : Int32} (h81 : xs (i8 + 1) = a8) (h82 : xs (i8 + 2) = b8) (hrc : c9 + 1 ≤ 601024) (hrs : s9 + 6 ≤ 7293033) : ∀ (I : Nat → Int32) (J : Nat → Int64) (B : Nat → Nat → Int32) (D : Nat → Nat → Int64) (I9 : Nat → Int32) (J9 : Nat → Int64) (B9 : Nat → Nat → Int32) (D9 : Nat → Nat → Int64) (ls : Array Slot) (H : Heap) (locs : List Loc), lc14_N KN a8 b8 I J B D I9 J9 B9 D9 → lv_has ls 7 [(4, .int (nI i8)), (3, .ref (ad 77)), (2, .ref (am 0)), (1, .ref (ad 0)), (0, .ref b)] → zW G A s.heap (wLN ad am K I J B D I9 J9 B9 D9) H locs → W p l e room_1 s m #[Value.ref b] below meth c H locs c9 s9 (lw_Z below #[Value.ref b] s) (F0 m 603 ls []) := by
  intro I J B D I9 J9 B9 D9 ls H locs hok hl hw
  obtain ⟨hx, hb, hr, hml, hts, hown, hlocks, hA, hA9, hbA, hK, hT, hX, hbl, hlt⟩ := id C
  have hrc : c9 + 1 ≤ room_1.cells := hrc
  have hrs : s9 + 6 ≤ room_1.slots := hrs
  unfold lc14_N at hok
  have hl : lv_has ls 7 [(4, .int (nI i8)), (3, .ref (ad 77)), (2, .ref (am 0)), (1, .ref (ad 0)), (0, .ref b)] := hl
  have hw : zW G A s.heap (wLN ad am K I J B D I9 J9 B9 D9) H locs := hw
  refine lv_aload_n hx hb zd_LassoFinderLaw_law_603 rfl (lv_at hl 3 rfl) ?_
  refine z_calli (w1 := fun (u : zS) => wX ad K Value.null u.1 u.2.1 u.2.2.1 u.2.2.2) (wr := ((ad 77, zJ K 1 (D 3)) :: wM am K I9 J9 B9 D9)) (z_runV (q0 := 1) (wc := (wX ad K Value.null I J B D)) (As := []) (rest := []) ⟨hx, hb, hml, hown, hts⟩ (w_LassoFinder_holder_N l G K ad I J B D  _ H.size hok) zf_LassoFinder_holder zq_383 ⟨(Nat.le_of_ble_eq_true rfl), (Nat.le_of_ble_eq_true rfl)⟩ hK hw (List.range' 1 65) wLN_X wLN_ndX wLN_gx rfl rfl hl.1 rfl (Nat.le_of_ble_eq_true rfl) zd_LassoFinderLaw_law_604 ⟨(by first | omega | (dsimp only; omega)), (by first | omega | (dsimp only; omega))⟩) hw hA (List.range' 1 65) (0 :: List.range' 66 58) wLN_X wLN_R wLN_ndR wLN_disRX (fun r1 u H locs hok hw => ?_)
  obtain ⟨I1, J1, B1, D1⟩ := u
  dsimp only at hok
  have hw := wLN_bX hw
  have hw : zW G A s.heap (wLN ad am K I1 J1 B1 (zmix 3 D1 D) I9 J9 B9 D9) H locs := hw
  refine lv_aload_n hx hb zd_LassoFinderLaw_law_607 rfl (lv_at hl 2 rfl) ?_
  refine z_calli (w1 := fun (u : zS) => wM am K u.1 u.2.1 u.2.2.1 u.2.2.2) (wr := (wPN ad K I1 J1 B1 (zmix 3 D1 D))) (z_runV (q0 := 66) (wc := (wM am K I9 J9 B9 D9)) (As := []) (rest := [.int r1]) ⟨hx, hb, hml, hown, hts⟩ (w_LassoFinderModel_holder l G K am I9 J9 B9 D9  _ H.size hok) zf_LassoFinderModel_holder zq_384 ⟨(Nat.le_of_ble_eq_true rfl), (Nat.le_of_ble_eq_true rfl)⟩ hK hw (List.range' 66 58) wLN_M wLN_ndM wLN_gm rfl rfl hl.1 rfl (Nat.le_of_ble_eq_true rfl) zd_LassoFinderLaw_law_608 ⟨(by first | omega | (dsimp only; omega)), (by first | omega | (dsimp only; omega))⟩) hw hA (List.range' 66 58) (List.range 66) wLN_M wLN_P wLN_ndP wLN_disPM (fun r2 u H locs hok hw => ?_)
  obtain ⟨I2, J2, B2, D2⟩ := u
  dsimp only at hok
  have hw := wLN_bM hw
  have hw : zW G A s.heap (wLN ad am K I1 J1 B1 (zmix 3 D1 D) I2 J2 B2 D2) H locs := hw
  refine lv_icmp_eq (tgt := 704) hx hb zd_LassoFinderLaw_law_611 (by decide) (fun hc3 => ?_) (fun hc3 => ?_)
  · have hok := hok.1 hc3
    refine W.widen (k := c9 + 1) (n := s9 + 6) (by first | omega | (dsimp only; omega)) (by first | omega | (dsimp only; omega)) ?_
    exact kh I1 J1 B1 (zmix 3 D1 D) I2 J2 B2 D2 ls H locs hok (lv_sub hl [0, 1, 2, 3, 4] rfl) hw
  · have hok := hok.2 hc3
    exact hok.elim
set_option maxHeartbeats 8000000 in
set_option maxRecDepth 100000 in
theorem zc15_N {p : Program} {l : Launch} {e : Env} {s : State} {m : MethodId} {below : List Frame} {meth : Method} {c : Code} {A : Nat → Prop} {G : va_G} {K : Nat → ClassId} {b L : Nat} {xs : Nat → Int32} (C : zCL p l s m b L xs meth c A G K) {ad am : Nat → Nat} {i8 c9 s9 : Nat} (KN : ((Nat → Int32) → (Nat → Int64) → (Nat → Nat → Int32) → (Nat → Nat → Int64) → (Nat → Int32) → (Nat → Int64) → (Nat → Nat → Int32) → (Nat → Nat → Int64) → Prop)) (kh : ∀ (I : Nat → Int32) (J : Nat → Int64) (B : Nat → Nat → Int32) (D : Nat → Nat → Int64) (I9 : Nat → Int32) (J9 : Nat → Int64) (B9 : Nat → Nat → Int32) (D9 : Nat → Nat → Int64) (ls : Array Slot) (H : Heap) (locs : List Loc), KN I J B D I9 J9 B9 D9 → lv_has ls 7 [(4, .int (nI i8)), (3, .ref (ad 77)), (2, .ref (am 0)), (1, .ref (ad 0)), (0, .ref b)] → zW G A s.heap (wLN ad am K I J B D I9 J9 B9 D9) H locs → W p l e room_1 s m #[Value.ref b] below meth c H locs (c9 + 1) (s9 + 6) (lw_Z below #[Value.ref b] s) (F0 m 704 ls [])) (hi : i8 + 3 ≤ L) (hL : L ≤ 1536) {a8 b8 : Int32} (h81 : xs (i8 + 1) = a8) (h82 : xs (i8 + 2) = b8) (hrc : c9 + 1 ≤ 601024) (hrs : s9 + 6 ≤ 7293033) : ∀ (I : Nat → Int32) (J : Nat → Int64) (B : Nat → Nat → Int32) (D : Nat → Nat → Int64) (I9 : Nat → Int32) (J9 : Nat → Int64) (B9 : Nat → Nat → Int32) (D9 : Nat → Nat → Int64) (ls : Array Slot) (H : Heap) (locs : List Loc), lc15_N KN a8 b8 I J B D I9 J9 B9 D9 → lv_has ls 7 [(4, .int (nI i8)), (3, .ref (ad 77)), (2, .ref (am 0)), (1, .ref (ad 0)), (0, .ref b)] → zW G A s.heap (wLN ad am K I J B D I9 J9 B9 D9) H locs → W p l e room_1 s m #[Value.ref b] below meth c H locs c9 s9 (lw_Z below #[Value.ref b] s) (F0 m 616 ls []) := by
  intro I J B D I9 J9 B9 D9 ls H locs hok hl hw
  obtain ⟨hx, hb, hr, hml, hts, hown, hlocks, hA, hA9, hbA, hK, hT, hX, hbl, hlt⟩ := id C
  have hrc : c9 + 1 ≤ room_1.cells := hrc
  have hrs : s9 + 6 ≤ room_1.slots := hrs
  unfold lc15_N at hok
  have hl : lv_has ls 7 [(4, .int (nI i8)), (3, .ref (ad 77)), (2, .ref (am 0)), (1, .ref (ad 0)), (0, .ref b)] := hl
  have hw : zW G A s.heap (wLN ad am K I J B D I9 J9 B9 D9) H locs := hw
  refine lv_aload_n hx hb zd_LassoFinderLaw_law_616 rfl (lv_at hl 3 rfl) ?_
  refine lv_aload_n hx hb zd_LassoFinderLaw_law_617 rfl (lv_at hl 4 rfl) ?_
  refine lv_iload hx hb zd_LassoFinderLaw_law_618 (lv_at hl 0 rfl) ?_
  refine lv_iconst (v := 1) hx hb zd_LassoFinderLaw_law_620 (by decide) ?_
  refine lv_iadd hx hb zd_LassoFinderLaw_law_621 ?_
  refine lv_topi (fun z1 ez1 => ?_)
  obtain rfl : z1 = nI (i8 + 1) := ez1.trans (nI_add i8 1)
  refine va_sld hx hb hX hbl hbA hw.2.2 (i := nI (i8 + 1)) (vp_in_nI (by omega) (by omega)) zd_LassoFinderLaw_law_622 ?_
  rw [nI_clamp (show i8 + 1 < 2 ^ 31 by omega), h81]
  refine lv_aload_n hx hb zd_LassoFinderLaw_law_623 rfl (lv_at hl 1 rfl) ?_
  refine z_calli (w1 := fun (u : zS) => wPN ad K u.1 u.2.1 u.2.2.1 u.2.2.2) (wr := (wM am K I9 J9 B9 D9)) (z_runSWY (wc := (wPN ad K I J B D)) (As := [.ref (ad 0), .int a8, .ref (ad 77)]) (rest := []) ⟨hx, hb, hml, hown, hts⟩ (w_L_truth_N l hlt G K ad I J B D a8 _ H.size hok) zf_LassoFinderLaw_truth zq_385 ⟨(Nat.le_of_ble_eq_true rfl), (Nat.le_of_ble_eq_true rfl)⟩ hK hT hw hA (List.range 66) wLN_P wLN_ndP rfl hl.1 rfl (Nat.le_of_ble_eq_true rfl) zd_LassoFinderLaw_law_624 ⟨(by first | omega | (dsimp only; omega)), (by first | omega | (dsimp only; omega))⟩) hw hA (List.range 66) (List.range' 66 58) wLN_P wLN_M wLN_ndM wLN_disMP (fun r2 u H locs hok hw => ?_)
  obtain ⟨I2, J2, B2, D2⟩ := u
  dsimp only at hok
  have hw := wLN_bP hw
  have hw : zW G A s.heap (wLN ad am K I2 J2 B2 D2 I9 J9 B9 D9) H locs := hw
  refine lv_istore hx hb zd_LassoFinderLaw_law_627 hl (by decide) rfl (fun ls hl => ?_)
  have hl : lv_has ls 7 [(5, .int r2), (4, .int (nI i8)), (3, .ref (ad 77)), (2, .ref (am 0)), (1, .ref (ad 0)), (0, .ref b)] := hl
  refine lv_aload_n hx hb zd_LassoFinderLaw_law_629 rfl (lv_at hl 3 rfl) ?_
  refine lv_aload_n hx hb zd_LassoFinderLaw_law_630 rfl (lv_at hl 5 rfl) ?_
  refine lv_iload hx hb zd_LassoFinderLaw_law_631 (lv_at hl 1 rfl) ?_
  refine lv_iconst (v := 1) hx hb zd_LassoFinderLaw_law_633 (by decide) ?_
  refine lv_iadd hx hb zd_LassoFinderLaw_law_634 ?_
  refine lv_topi (fun z3 ez3 => ?_)
  obtain rfl : z3 = nI (i8 + 1) := ez3.trans (nI_add i8 1)
  refine va_sld hx hb hX hbl hbA hw.2.2 (i := nI (i8 + 1)) (vp_in_nI (by omega) (by omega)) zd_LassoFinderLaw_law_635 ?_
  rw [nI_clamp (show i8 + 1 < 2 ^ 31 by omega), h81]
  refine z_calli (w1 := fun (u : zS) => wM am K u.1 u.2.1 u.2.2.1 u.2.2.2) (wr := (wPN ad K I2 J2 B2 D2)) (z_runV (q0 := 66) (wc := (wM am K I9 J9 B9 D9)) (As := [.int a8]) (rest := []) ⟨hx, hb, hml, hown, hts⟩ (w_LassoFinderModel_truth l G K am I9 J9 B9 D9 a8 _ H.size hok) zf_LassoFinderModel_truth zq_386 ⟨(Nat.le_of_ble_eq_true rfl), (Nat.le_of_ble_eq_true rfl)⟩ hK hw (List.range' 66 58) wLN_M wLN_ndM wLN_gm rfl rfl hl.1 rfl (Nat.le_of_ble_eq_true rfl) zd_LassoFinderLaw_law_636 ⟨(by first | omega | (dsimp only; omega)), (by first | omega | (dsimp only; omega))⟩) hw hA (List.range' 66 58) (List.range 66) wLN_M wLN_P wLN_ndP wLN_disPM (fun r4 u H locs hok hw => ?_)
  obtain ⟨I4, J4, B4, D4⟩ := u
  dsimp only at hok
  have hw := wLN_bM hw
  have hw : zW G A s.heap (wLN ad am K I2 J2 B2 D2 I4 J4 B4 D4) H locs := hw
  refine lv_istore hx hb zd_LassoFinderLaw_law_639 hl (by decide) rfl (fun ls hl => ?_)
  have hl : lv_has ls 7 [(6, .int r4), (5, .int r2), (4, .int (nI i8)), (3, .ref (ad 77)), (2, .ref (am 0)), (1, .ref (ad 0)), (0, .ref b)] := hl
  refine lv_aload_n hx hb zd_LassoFinderLaw_law_641 rfl (lv_at hl 4 rfl) ?_
  refine z_calli (w1 := fun (u : zS) => wM am K u.1 u.2.1 u.2.2.1 u.2.2.2) (wr := (wPN ad K I2 J2 B2 D2)) (z_runV (q0 := 66) (wc := (wM am K I4 J4 B4 D4)) (As := []) (rest := []) ⟨hx, hb, hml, hown, hts⟩ (w_LassoFinderModel_thrown l G K am I4 J4 B4 D4  _ H.size hok) zf_LassoFinderModel_thrown zq_358 ⟨(Nat.le_of_ble_eq_true rfl), (Nat.le_of_ble_eq_true rfl)⟩ hK hw (List.range' 66 58) wLN_M wLN_ndM wLN_gm rfl rfl hl.1 rfl (Nat.le_of_ble_eq_true rfl) zd_LassoFinderLaw_law_642 ⟨(by first | omega | (dsimp only; omega)), (by first | omega | (dsimp only; omega))⟩) hw hA (List.range' 66 58) (List.range 66) wLN_M wLN_P wLN_ndP wLN_disPM (fun r5 u H locs hok hw => ?_)
  obtain ⟨I5, J5, B5, D5⟩ := u
  dsimp only at hok
  have hw := wLN_bM hw
  have hw : zW G A s.heap (wLN ad am K I2 J2 B2 D2 I5 J5 B5 D5) H locs := hw
  refine lv_iload hx hb zd_LassoFinderLaw_law_645 (lv_at hl 1 rfl) ?_
  refine lv_icmp_eq (tgt := 652) hx hb zd_LassoFinderLaw_law_647 (by decide) (fun hc6 => ?_) (fun hc6 => ?_)
  · have hok := hok.1 hc6
    refine lv_iload hx hb zd_LassoFinderLaw_law_652 (lv_at hl 1 rfl) ?_
    refine lv_if_ne (tgt := 676) hx hb zd_LassoFinderLaw_law_654 (by decide) (fun hc7 => ?_) (fun hc7 => ?_)
    · have hok := hok.1 hc7
      refine lv_goto (tgt := 704) hx hb zd_LassoFinderLaw_law_676 (by decide) ?_
      refine W.widen (k := c9 + 1) (n := s9 + 6) (by first | omega | (dsimp only; omega)) (by first | omega | (dsimp only; omega)) ?_
      exact kh I2 J2 B2 D2 I5 J5 B5 D5 ls H locs hok (lv_sub hl [2, 3, 4, 5, 6] rfl) hw
    · have hok := hok.2 hc7
      refine lv_aload_n hx hb zd_LassoFinderLaw_law_657 rfl (lv_at hl 3 rfl) ?_
      refine lv_iconst (v := 0) hx hb zd_LassoFinderLaw_law_658 (by decide) ?_
      refine va_lald (f := D2 3) hx hb hK hw.1 0 1 wLN_a0 rfl z_in0 zd_LassoFinderLaw_law_659 ?_
      refine lv_topl (fun z8 ez8 => ?_)
      have hok := hok z8 ez8
      refine lv_iload hx hb zd_LassoFinderLaw_law_660 (lv_at hl 0 rfl) ?_
      refine lv_if_eq (tgt := 669) hx hb zd_LassoFinderLaw_law_662 (by decide) (fun hc9 => ?_) (fun hc9 => ?_)
      · have hok := hok.1 hc9
        refine lv_lconst (v := 0) hx hb zd_LassoFinderLaw_law_669 (by decide) ?_
        refine W.lcmp hx hb zd_LassoFinderLaw_law_670 ?_
        refine lv_topi (fun z10 ez10 => ?_)
        have hok := hok z10 ez10
        refine lv_if_eq (tgt := 676) hx hb zd_LassoFinderLaw_law_671 (by decide) (fun hc11 => ?_) (fun hc11 => ?_)
        · have hok := hok.1 hc11
          refine lv_goto (tgt := 704) hx hb zd_LassoFinderLaw_law_676 (by decide) ?_
          refine W.widen (k := c9 + 1) (n := s9 + 6) (by first | omega | (dsimp only; omega)) (by first | omega | (dsimp only; omega)) ?_
          exact kh I2 J2 B2 D2 I5 J5 B5 D5 ls H locs hok (lv_sub hl [2, 3, 4, 5, 6] rfl) hw
        · have hok := hok.2 hc11
          exact hok.elim
      · have hok := hok.2 hc9
        refine lv_lconst (v := 1) hx hb zd_LassoFinderLaw_law_665 (by decide) ?_
        refine lv_goto (tgt := 670) hx hb zd_LassoFinderLaw_law_666 (by decide) ?_
        refine W.lcmp hx hb zd_LassoFinderLaw_law_670 ?_
        refine lv_topi (fun z12 ez12 => ?_)
        have hok := hok z12 ez12
        refine lv_if_eq (tgt := 676) hx hb zd_LassoFinderLaw_law_671 (by decide) (fun hc13 => ?_) (fun hc13 => ?_)
        · have hok := hok.1 hc13
          refine lv_goto (tgt := 704) hx hb zd_LassoFinderLaw_law_676 (by decide) ?_
          refine W.widen (k := c9 + 1) (n := s9 + 6) (by first | omega | (dsimp only; omega)) (by first | omega | (dsimp only; omega)) ?_
          exact kh I2 J2 B2 D2 I5 J5 B5 D5 ls H locs hok (lv_sub hl [2, 3, 4, 5, 6] rfl) hw
        · have hok := hok.2 hc13
          exact hok.elim
  · have hok := hok.2 hc6
    exact hok.elim
set_option maxHeartbeats 8000000 in
set_option maxRecDepth 100000 in
theorem zc16_N {p : Program} {l : Launch} {e : Env} {s : State} {m : MethodId} {below : List Frame} {meth : Method} {c : Code} {A : Nat → Prop} {G : va_G} {K : Nat → ClassId} {b L : Nat} {xs : Nat → Int32} (C : zCL p l s m b L xs meth c A G K) {ad am : Nat → Nat} {i8 c9 s9 : Nat} (KN : ((Nat → Int32) → (Nat → Int64) → (Nat → Nat → Int32) → (Nat → Nat → Int64) → (Nat → Int32) → (Nat → Int64) → (Nat → Nat → Int32) → (Nat → Nat → Int64) → Prop)) (kh : ∀ (I : Nat → Int32) (J : Nat → Int64) (B : Nat → Nat → Int32) (D : Nat → Nat → Int64) (I9 : Nat → Int32) (J9 : Nat → Int64) (B9 : Nat → Nat → Int32) (D9 : Nat → Nat → Int64) (ls : Array Slot) (H : Heap) (locs : List Loc), KN I J B D I9 J9 B9 D9 → lv_has ls 7 [(4, .int (nI i8)), (3, .ref (ad 77)), (2, .ref (am 0)), (1, .ref (ad 0)), (0, .ref b)] → zW G A s.heap (wLN ad am K I J B D I9 J9 B9 D9) H locs → W p l e room_1 s m #[Value.ref b] below meth c H locs (c9 + 1) (s9 + 6) (lw_Z below #[Value.ref b] s) (F0 m 704 ls [])) (hi : i8 + 3 ≤ L) (hL : L ≤ 1536) {a8 b8 : Int32} (h81 : xs (i8 + 1) = a8) (h82 : xs (i8 + 2) = b8) (hrc : c9 + 1 ≤ 601024) (hrs : s9 + 6 ≤ 7293033) : ∀ (I : Nat → Int32) (J : Nat → Int64) (B : Nat → Nat → Int32) (D : Nat → Nat → Int64) (I9 : Nat → Int32) (J9 : Nat → Int64) (B9 : Nat → Nat → Int32) (D9 : Nat → Nat → Int64) (ls : Array Slot) (H : Heap) (locs : List Loc), lc16_N KN a8 b8 I J B D I9 J9 B9 D9 → lv_has ls 7 [(4, .int (nI i8)), (3, .ref (ad 77)), (2, .ref (am 0)), (1, .ref (ad 0)), (0, .ref b)] → zW G A s.heap (wLN ad am K I J B D I9 J9 B9 D9) H locs → W p l e room_1 s m #[Value.ref b] below meth c H locs c9 s9 (lw_Z below #[Value.ref b] s) (F0 m 679 ls []) := by
  intro I J B D I9 J9 B9 D9 ls H locs hok hl hw
  obtain ⟨hx, hb, hr, hml, hts, hown, hlocks, hA, hA9, hbA, hK, hT, hX, hbl, hlt⟩ := id C
  have hrc : c9 + 1 ≤ room_1.cells := hrc
  have hrs : s9 + 6 ≤ room_1.slots := hrs
  unfold lc16_N at hok
  have hl : lv_has ls 7 [(4, .int (nI i8)), (3, .ref (ad 77)), (2, .ref (am 0)), (1, .ref (ad 0)), (0, .ref b)] := hl
  have hw : zW G A s.heap (wLN ad am K I J B D I9 J9 B9 D9) H locs := hw
  refine lv_aload_n hx hb zd_LassoFinderLaw_law_679 rfl (lv_at hl 3 rfl) ?_
  refine lv_aload_n hx hb zd_LassoFinderLaw_law_680 rfl (lv_at hl 4 rfl) ?_
  refine lv_iload hx hb zd_LassoFinderLaw_law_681 (lv_at hl 0 rfl) ?_
  refine lv_iconst (v := 1) hx hb zd_LassoFinderLaw_law_683 (by decide) ?_
  refine lv_iadd hx hb zd_LassoFinderLaw_law_684 ?_
  refine lv_topi (fun z1 ez1 => ?_)
  obtain rfl : z1 = nI (i8 + 1) := ez1.trans (nI_add i8 1)
  refine va_sld hx hb hX hbl hbA hw.2.2 (i := nI (i8 + 1)) (vp_in_nI (by omega) (by omega)) zd_LassoFinderLaw_law_685 ?_
  rw [nI_clamp (show i8 + 1 < 2 ^ 31 by omega), h81]
  refine z_calli (w1 := fun (u : zS) => wX ad K Value.null u.1 u.2.1 u.2.2.1 u.2.2.2) (wr := ((ad 77, zJ K 1 (D 3)) :: wM am K I9 J9 B9 D9)) (z_runV (q0 := 1) (wc := (wX ad K Value.null I J B D)) (As := [.int a8]) (rest := []) ⟨hx, hb, hml, hown, hts⟩ (w_LassoFinder_count_N l G K ad I J B D a8 _ H.size hok) zf_LassoFinder_count zq_387 ⟨(Nat.le_of_ble_eq_true rfl), (Nat.le_of_ble_eq_true rfl)⟩ hK hw (List.range' 1 65) wLN_X wLN_ndX wLN_gx rfl rfl hl.1 rfl (Nat.le_of_ble_eq_true rfl) zd_LassoFinderLaw_law_686 ⟨(by first | omega | (dsimp only; omega)), (by first | omega | (dsimp only; omega))⟩) hw hA (List.range' 1 65) (0 :: List.range' 66 58) wLN_X wLN_R wLN_ndR wLN_disRX (fun r2 u H locs hok hw => ?_)
  obtain ⟨I2, J2, B2, D2⟩ := u
  dsimp only at hok
  have hw := wLN_bX hw
  have hw : zW G A s.heap (wLN ad am K I2 J2 B2 (zmix 3 D2 D) I9 J9 B9 D9) H locs := hw
  refine lv_aload_n hx hb zd_LassoFinderLaw_law_689 rfl (lv_at hl 2 rfl) ?_
  refine lv_aload_n hx hb zd_LassoFinderLaw_law_690 rfl (lv_at hl 4 rfl) ?_
  refine lv_iload hx hb zd_LassoFinderLaw_law_691 (lv_at hl 0 rfl) ?_
  refine lv_iconst (v := 1) hx hb zd_LassoFinderLaw_law_693 (by decide) ?_
  refine lv_iadd hx hb zd_LassoFinderLaw_law_694 ?_
  refine lv_topi (fun z3 ez3 => ?_)
  obtain rfl : z3 = nI (i8 + 1) := ez3.trans (nI_add i8 1)
  refine va_sld hx hb hX hbl hbA hw.2.2 (i := nI (i8 + 1)) (vp_in_nI (by omega) (by omega)) zd_LassoFinderLaw_law_695 ?_
  rw [nI_clamp (show i8 + 1 < 2 ^ 31 by omega), h81]
  refine z_calli (w1 := fun (u : zS) => wM am K u.1 u.2.1 u.2.2.1 u.2.2.2) (wr := (wPN ad K I2 J2 B2 (zmix 3 D2 D))) (z_runV (q0 := 66) (wc := (wM am K I9 J9 B9 D9)) (As := [.int a8]) (rest := [.int r2]) ⟨hx, hb, hml, hown, hts⟩ (w_LassoFinderModel_count l G K am I9 J9 B9 D9 a8 _ H.size hok) zf_LassoFinderModel_count zq_388 ⟨(Nat.le_of_ble_eq_true rfl), (Nat.le_of_ble_eq_true rfl)⟩ hK hw (List.range' 66 58) wLN_M wLN_ndM wLN_gm rfl rfl hl.1 rfl (Nat.le_of_ble_eq_true rfl) zd_LassoFinderLaw_law_696 ⟨(by first | omega | (dsimp only; omega)), (by first | omega | (dsimp only; omega))⟩) hw hA (List.range' 66 58) (List.range 66) wLN_M wLN_P wLN_ndP wLN_disPM (fun r4 u H locs hok hw => ?_)
  obtain ⟨I4, J4, B4, D4⟩ := u
  dsimp only at hok
  have hw := wLN_bM hw
  have hw : zW G A s.heap (wLN ad am K I2 J2 B2 (zmix 3 D2 D) I4 J4 B4 D4) H locs := hw
  refine lv_icmp_eq (tgt := 704) hx hb zd_LassoFinderLaw_law_699 (by decide) (fun hc5 => ?_) (fun hc5 => ?_)
  · have hok := hok.1 hc5
    refine W.widen (k := c9 + 1) (n := s9 + 6) (by first | omega | (dsimp only; omega)) (by first | omega | (dsimp only; omega)) ?_
    exact kh I2 J2 B2 (zmix 3 D2 D) I4 J4 B4 D4 ls H locs hok (lv_sub hl [0, 1, 2, 3, 4] rfl) hw
  · have hok := hok.2 hc5
    exact hok.elim
