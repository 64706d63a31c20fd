
set_option maxHeartbeats 8000000 in
set_option maxRecDepth 100000 in
theorem zc15_S {p : Program} {l : Launch} {e : Env} {s : State} {m : MethodId} {below : List Frame} {meth : Method} {c : Code} {A : Nat → Prop} {G : va_G} {K : Nat → ClassId} {b L : Nat} {xs : Nat → Int32} (C : zCL p l s m b L xs meth c A G K) {ad am : Nat → Nat} {i8 c9 s9 : Nat} (KS : ((Nat → Int32) → (Nat → Int64) → (Nat → Nat → Int32) → (Nat → Nat → Int64) → (Nat → Int32) → (Nat → Int64) → (Nat → Nat → Int32) → (Nat → Nat → Int64) → Prop)) (kh : ∀ (I : Nat → Int32) (J : Nat → Int64) (B : Nat → Nat → Int32) (D : Nat → Nat → Int64) (I9 : Nat → Int32) (J9 : Nat → Int64) (B9 : Nat → Nat → Int32) (D9 : Nat → Nat → Int64) (ls : Array Slot) (H : Heap) (locs : List Loc), KS I J B D I9 J9 B9 D9 → lv_has ls 7 [(4, .int (nI i8)), (3, .ref (ad 77)), (2, .ref (am 0)), (1, .ref (ad 0)), (0, .ref b)] → zW G A s.heap (wLS ad am K I J B D I9 J9 B9 D9) H locs → W p l e room_1 s m #[Value.ref b] below meth c H locs (c9 + 1) (s9 + 6) (lw_Z below #[Value.ref b] s) (F0 m 704 ls [])) (hi : i8 + 3 ≤ L) (hL : L ≤ 1536) {a8 b8 : Int32} (h81 : xs (i8 + 1) = a8) (h82 : xs (i8 + 2) = b8) (hrc : c9 + 1 ≤ 601024) (hrs : s9 + 6 ≤ 7293033) : ∀ (I : Nat → Int32) (J : Nat → Int64) (B : Nat → Nat → Int32) (D : Nat → Nat → Int64) (I9 : Nat → Int32) (J9 : Nat → Int64) (B9 : Nat → Nat → Int32) (D9 : Nat → Nat → Int64) (ls : Array Slot) (H : Heap) (locs : List Loc), lc15_S KS a8 b8 I J B D I9 J9 B9 D9 → lv_has ls 7 [(4, .int (nI i8)), (3, .ref (ad 77)), (2, .ref (am 0)), (1, .ref (ad 0)), (0, .ref b)] → zW G A s.heap (wLS ad am K I J B D I9 J9 B9 D9) H locs → W p l e room_1 s m #[Value.ref b] below meth c H locs c9 s9 (lw_Z below #[Value.ref b] s) (F0 m 616 ls []) := by
  intro I J B D I9 J9 B9 D9 ls H locs hok hl hw
  obtain ⟨hx, hb, hr, hml, hts, hown, hlocks, hA, hA9, hbA, hK, hT, hX, hbl, hlt⟩ := id C
  have hrc : c9 + 1 ≤ room_1.cells := hrc
  have hrs : s9 + 6 ≤ room_1.slots := hrs
  unfold lc15_S at hok
  have hl : lv_has ls 7 [(4, .int (nI i8)), (3, .ref (ad 77)), (2, .ref (am 0)), (1, .ref (ad 0)), (0, .ref b)] := hl
  have hw : zW G A s.heap (wLS ad am K I J B D I9 J9 B9 D9) H locs := hw
  refine lv_aload_n hx hb zd_LassoFinderLaw_law_616 rfl (lv_at hl 3 rfl) ?_
  refine lv_aload_n hx hb zd_LassoFinderLaw_law_617 rfl (lv_at hl 4 rfl) ?_
  refine lv_iload hx hb zd_LassoFinderLaw_law_618 (lv_at hl 0 rfl) ?_
  refine lv_iconst (v := 1) hx hb zd_LassoFinderLaw_law_620 (by decide) ?_
  refine lv_iadd hx hb zd_LassoFinderLaw_law_621 ?_
  refine lv_topi (fun z1 ez1 => ?_)
  obtain rfl : z1 = nI (i8 + 1) := ez1.trans (nI_add i8 1)
  refine va_sld hx hb hX hbl hbA hw.2.2 (i := nI (i8 + 1)) (vp_in_nI (by omega) (by omega)) zd_LassoFinderLaw_law_622 ?_
  rw [nI_clamp (show i8 + 1 < 2 ^ 31 by omega), h81]
  refine lv_aload_n hx hb zd_LassoFinderLaw_law_623 rfl (lv_at hl 1 rfl) ?_
  refine z_calli (w1 := fun (u : zS) => wPS ad K u.1 u.2.1 u.2.2.1 u.2.2.2) (wr := (wM am K I9 J9 B9 D9)) (z_runSWY (wc := (wPS ad K I J B D)) (As := [.ref (ad 0), .int a8, .ref (ad 77)]) (rest := []) ⟨hx, hb, hml, hown, hts⟩ (w_L_truth_S l hlt G K ad I J B D a8 _ H.size hok) zf_LassoFinderLaw_truth zq_385 ⟨(Nat.le_of_ble_eq_true rfl), (Nat.le_of_ble_eq_true rfl)⟩ hK hT hw hA (List.range 78) wLS_P wLS_ndP rfl hl.1 rfl (Nat.le_of_ble_eq_true rfl) zd_LassoFinderLaw_law_624 ⟨(by first | omega | (dsimp only; omega)), (by first | omega | (dsimp only; omega))⟩) hw hA (List.range 78) (List.range' 78 58) wLS_P wLS_M wLS_ndM wLS_disMP (fun r2 u H locs hok hw => ?_)
  obtain ⟨I2, J2, B2, D2⟩ := u
  dsimp only at hok
  have hw := wLS_bP hw
  have hw : zW G A s.heap (wLS ad am K I2 J2 B2 D2 I9 J9 B9 D9) H locs := hw
  refine lv_istore hx hb zd_LassoFinderLaw_law_627 hl (by decide) rfl (fun ls hl => ?_)
  have hl : lv_has ls 7 [(5, .int r2), (4, .int (nI i8)), (3, .ref (ad 77)), (2, .ref (am 0)), (1, .ref (ad 0)), (0, .ref b)] := hl
  refine lv_aload_n hx hb zd_LassoFinderLaw_law_629 rfl (lv_at hl 3 rfl) ?_
  refine lv_aload_n hx hb zd_LassoFinderLaw_law_630 rfl (lv_at hl 5 rfl) ?_
  refine lv_iload hx hb zd_LassoFinderLaw_law_631 (lv_at hl 1 rfl) ?_
  refine lv_iconst (v := 1) hx hb zd_LassoFinderLaw_law_633 (by decide) ?_
  refine lv_iadd hx hb zd_LassoFinderLaw_law_634 ?_
  refine lv_topi (fun z3 ez3 => ?_)
  obtain rfl : z3 = nI (i8 + 1) := ez3.trans (nI_add i8 1)
  refine va_sld hx hb hX hbl hbA hw.2.2 (i := nI (i8 + 1)) (vp_in_nI (by omega) (by omega)) zd_LassoFinderLaw_law_635 ?_
  rw [nI_clamp (show i8 + 1 < 2 ^ 31 by omega), h81]
  refine z_calli (w1 := fun (u : zS) => wM am K u.1 u.2.1 u.2.2.1 u.2.2.2) (wr := (wPS ad K I2 J2 B2 D2)) (z_runV (q0 := 78) (wc := (wM am K I9 J9 B9 D9)) (As := [.int a8]) (rest := []) ⟨hx, hb, hml, hown, hts⟩ (w_LassoFinderModel_truth l G K am I9 J9 B9 D9 a8 _ H.size hok) zf_LassoFinderModel_truth zq_386 ⟨(Nat.le_of_ble_eq_true rfl), (Nat.le_of_ble_eq_true rfl)⟩ hK hw (List.range' 78 58) wLS_M wLS_ndM wLS_gm rfl rfl hl.1 rfl (Nat.le_of_ble_eq_true rfl) zd_LassoFinderLaw_law_636 ⟨(by first | omega | (dsimp only; omega)), (by first | omega | (dsimp only; omega))⟩) hw hA (List.range' 78 58) (List.range 78) wLS_M wLS_P wLS_ndP wLS_disPM (fun r4 u H locs hok hw => ?_)
  obtain ⟨I4, J4, B4, D4⟩ := u
  dsimp only at hok
  have hw := wLS_bM hw
  have hw : zW G A s.heap (wLS ad am K I2 J2 B2 D2 I4 J4 B4 D4) H locs := hw
  refine lv_istore hx hb zd_LassoFinderLaw_law_639 hl (by decide) rfl (fun ls hl => ?_)
  have hl : lv_has ls 7 [(6, .int r4), (5, .int r2), (4, .int (nI i8)), (3, .ref (ad 77)), (2, .ref (am 0)), (1, .ref (ad 0)), (0, .ref b)] := hl
  refine lv_aload_n hx hb zd_LassoFinderLaw_law_641 rfl (lv_at hl 4 rfl) ?_
  refine z_calli (w1 := fun (u : zS) => wM am K u.1 u.2.1 u.2.2.1 u.2.2.2) (wr := (wPS ad K I2 J2 B2 D2)) (z_runV (q0 := 78) (wc := (wM am K I4 J4 B4 D4)) (As := []) (rest := []) ⟨hx, hb, hml, hown, hts⟩ (w_LassoFinderModel_thrown l G K am I4 J4 B4 D4  _ H.size hok) zf_LassoFinderModel_thrown zq_358 ⟨(Nat.le_of_ble_eq_true rfl), (Nat.le_of_ble_eq_true rfl)⟩ hK hw (List.range' 78 58) wLS_M wLS_ndM wLS_gm rfl rfl hl.1 rfl (Nat.le_of_ble_eq_true rfl) zd_LassoFinderLaw_law_642 ⟨(by first | omega | (dsimp only; omega)), (by first | omega | (dsimp only; omega))⟩) hw hA (List.range' 78 58) (List.range 78) wLS_M wLS_P wLS_ndP wLS_disPM (fun r5 u H locs hok hw => ?_)
  obtain ⟨I5, J5, B5, D5⟩ := u
  dsimp only at hok
  have hw := wLS_bM hw
  have hw : zW G A s.heap (wLS ad am K I2 J2 B2 D2 I5 J5 B5 D5) H locs := hw
  refine lv_iload hx hb zd_LassoFinderLaw_law_645 (lv_at hl 1 rfl) ?_
  refine lv_icmp_eq (tgt := 652) hx hb zd_LassoFinderLaw_law_647 (by decide) (fun hc6 => ?_) (fun hc6 => ?_)
  · have hok := hok.1 hc6
    refine lv_iload hx hb zd_LassoFinderLaw_law_652 (lv_at hl 1 rfl) ?_
    refine lv_if_ne (tgt := 676) hx hb zd_LassoFinderLaw_law_654 (by decide) (fun hc7 => ?_) (fun hc7 => ?_)
    · have hok := hok.1 hc7
      refine lv_goto (tgt := 704) hx hb zd_LassoFinderLaw_law_676 (by decide) ?_
      refine W.widen (k := c9 + 1) (n := s9 + 6) (by first | omega | (dsimp only; omega)) (by first | omega | (dsimp only; omega)) ?_
      exact kh I2 J2 B2 D2 I5 J5 B5 D5 ls H locs hok (lv_sub hl [2, 3, 4, 5, 6] rfl) hw
    · have hok := hok.2 hc7
      refine lv_aload_n hx hb zd_LassoFinderLaw_law_657 rfl (lv_at hl 3 rfl) ?_
      refine lv_iconst (v := 0) hx hb zd_LassoFinderLaw_law_658 (by decide) ?_
      refine va_lald (f := D2 3) hx hb hK hw.1 0 1 wLS_a0 rfl z_in0 zd_LassoFinderLaw_law_659 ?_
      refine lv_topl (fun z8 ez8 => ?_)
      have hok := hok z8 ez8
      refine lv_iload hx hb zd_LassoFinderLaw_law_660 (lv_at hl 0 rfl) ?_
      refine lv_if_eq (tgt := 669) hx hb zd_LassoFinderLaw_law_662 (by decide) (fun hc9 => ?_) (fun hc9 => ?_)
      · have hok := hok.1 hc9
        refine lv_lconst (v := 0) hx hb zd_LassoFinderLaw_law_669 (by decide) ?_
        refine W.lcmp hx hb zd_LassoFinderLaw_law_670 ?_
        refine lv_topi (fun z10 ez10 => ?_)
        have hok := hok z10 ez10
        refine lv_if_eq (tgt := 676) hx hb zd_LassoFinderLaw_law_671 (by decide) (fun hc11 => ?_) (fun hc11 => ?_)
        · have hok := hok.1 hc11
          refine lv_goto (tgt := 704) hx hb zd_LassoFinderLaw_law_676 (by decide) ?_
          refine W.widen (k := c9 + 1) (n := s9 + 6) (by first | omega | (dsimp only; omega)) (by first | omega | (dsimp only; omega)) ?_
          exact kh I2 J2 B2 D2 I5 J5 B5 D5 ls H locs hok (lv_sub hl [2, 3, 4, 5, 6] rfl) hw
        · have hok := hok.2 hc11
          exact hok.elim
      · have hok := hok.2 hc9
        refine lv_lconst (v := 1) hx hb zd_LassoFinderLaw_law_665 (by decide) ?_
        refine lv_goto (tgt := 670) hx hb zd_LassoFinderLaw_law_666 (by decide) ?_
        refine W.lcmp hx hb zd_LassoFinderLaw_law_670 ?_
        refine lv_topi (fun z12 ez12 => ?_)
        have hok := hok z12 ez12
        refine lv_if_eq (tgt := 676) hx hb zd_LassoFinderLaw_law_671 (by decide) (fun hc13 => ?_) (fun hc13 => ?_)
        · have hok := hok.1 hc13
          refine lv_goto (tgt := 704) hx hb zd_LassoFinderLaw_law_676 (by decide) ?_
          refine W.widen (k := c9 + 1) (n := s9 + 6) (by first | omega | (dsimp only; omega)) (by first | omega | (dsimp only; omega)) ?_
          exact kh I2 J2 B2 D2 I5 J5 B5 D5 ls H locs hok (lv_sub hl [2, 3, 4, 5, 6] rfl) hw
        · have hok := hok.2 hc13
          exact hok.elim
  · have hok := hok.2 hc6
    exact hok.elim
set_option maxHeartbeats 8000000 in
set_option maxRecDepth 100000 in
theorem zc16_S {p : Program} {l : Launch} {e : Env} {s : State} {m : MethodId} {below : List Frame} {meth : Method} {c : Code} {A : Nat → Prop} {G : va_G} {K : Nat → ClassId} {b L : Nat} {xs : Nat → Int32} (C : zCL p l s m b L xs meth c A G K) {ad am : Nat → Nat} {i8 c9 s9 : Nat} (KS : ((Nat → Int32) → (Nat → Int64) → (Nat → Nat → Int32) → (Nat → Nat → Int64) → (Nat → Int32) → (Nat → Int64) → (Nat → Nat → Int32) → (Nat → Nat → Int64) → Prop)) (kh : ∀ (I : Nat → Int32) (J : Nat → Int64) (B : Nat → Nat → Int32) (D : Nat → Nat → Int64) (I9 : Nat → Int32) (J9 : Nat → Int64) (B9 : Nat → Nat → Int32) (D9 : Nat → Nat → Int64) (ls : Array Slot) (H : Heap) (locs : List Loc), KS I J B D I9 J9 B9 D9 → lv_has ls 7 [(4, .int (nI i8)), (3, .ref (ad 77)), (2, .ref (am 0)), (1, .ref (ad 0)), (0, .ref b)] → zW G A s.heap (wLS ad am K I J B D I9 J9 B9 D9) H locs → W p l e room_1 s m #[Value.ref b] below meth c H locs (c9 + 1) (s9 + 6) (lw_Z below #[Value.ref b] s) (F0 m 704 ls [])) (hi : i8 + 3 ≤ L) (hL : L ≤ 1536) {a8 b8 : Int32} (h81 : xs (i8 + 1) = a8) (h82 : xs (i8 + 2) = b8) (hrc : c9 + 1 ≤ 601024) (hrs : s9 + 6 ≤ 7293033) : ∀ (I : Nat → Int32) (J : Nat → Int64) (B : Nat → Nat → Int32) (D : Nat → Nat → Int64) (I9 : Nat → Int32) (J9 : Nat → Int64) (B9 : Nat → Nat → Int32) (D9 : Nat → Nat → Int64) (ls : Array Slot) (H : Heap) (locs : List Loc), lc16_S KS a8 b8 I J B D I9 J9 B9 D9 → lv_has ls 7 [(4, .int (nI i8)), (3, .ref (ad 77)), (2, .ref (am 0)), (1, .ref (ad 0)), (0, .ref b)] → zW G A s.heap (wLS ad am K I J B D I9 J9 B9 D9) H locs → W p l e room_1 s m #[Value.ref b] below meth c H locs c9 s9 (lw_Z below #[Value.ref b] s) (F0 m 679 ls []) := by
  intro I J B D I9 J9 B9 D9 ls H locs hok hl hw
  obtain ⟨hx, hb, hr, hml, hts, hown, hlocks, hA, hA9, hbA, hK, hT, hX, hbl, hlt⟩ := id C
  have hrc : c9 + 1 ≤ room_1.cells := hrc
  have hrs : s9 + 6 ≤ room_1.slots := hrs
  unfold lc16_S at hok
  have hl : lv_has ls 7 [(4, .int (nI i8)), (3, .ref (ad 77)), (2, .ref (am 0)), (1, .ref (ad 0)), (0, .ref b)] := hl
  have hw : zW G A s.heap (wLS ad am K I J B D I9 J9 B9 D9) H locs := hw
  refine lv_aload_n hx hb zd_LassoFinderLaw_law_679 rfl (lv_at hl 3 rfl) ?_
  refine lv_aload_n hx hb zd_LassoFinderLaw_law_680 rfl (lv_at hl 4 rfl) ?_
  refine lv_iload hx hb zd_LassoFinderLaw_law_681 (lv_at hl 0 rfl) ?_
  refine lv_iconst (v := 1) hx hb zd_LassoFinderLaw_law_683 (by decide) ?_
  refine lv_iadd hx hb zd_LassoFinderLaw_law_684 ?_
  refine lv_topi (fun z1 ez1 => ?_)
  obtain rfl : z1 = nI (i8 + 1) := ez1.trans (nI_add i8 1)
  refine va_sld hx hb hX hbl hbA hw.2.2 (i := nI (i8 + 1)) (vp_in_nI (by omega) (by omega)) zd_LassoFinderLaw_law_685 ?_
  rw [nI_clamp (show i8 + 1 < 2 ^ 31 by omega), h81]
  refine z_calli (w1 := fun (u : zS) => wS ad K u.1 u.2.1 u.2.2.1 u.2.2.2) (wr := ((ad 77, zJ K 1 (D 3)) :: wM am K I9 J9 B9 D9)) (z_runV (q0 := 13) (wc := (wS ad K I J B D)) (As := [.int a8]) (rest := []) ⟨hx, hb, hml, hown, hts⟩ (w_LassoFinder_count_S l G K ad I J B D a8 _ H.size hok) zf_LassoFinder_count zq_387 ⟨(Nat.le_of_ble_eq_true rfl), (Nat.le_of_ble_eq_true rfl)⟩ hK hw (List.range' 1 77) wLS_X wLS_ndX wLS_gx rfl rfl hl.1 rfl (Nat.le_of_ble_eq_true rfl) zd_LassoFinderLaw_law_686 ⟨(by first | omega | (dsimp only; omega)), (by first | omega | (dsimp only; omega))⟩) hw hA (List.range' 1 77) (0 :: List.range' 78 58) wLS_X wLS_R wLS_ndR wLS_disRX (fun r2 u H locs hok hw => ?_)
  obtain ⟨I2, J2, B2, D2⟩ := u
  dsimp only at hok
  have hw := wLS_bX hw
  have hw : zW G A s.heap (wLS ad am K I2 J2 B2 (zmix 3 D2 D) I9 J9 B9 D9) H locs := hw
  refine lv_aload_n hx hb zd_LassoFinderLaw_law_689 rfl (lv_at hl 2 rfl) ?_
  refine lv_aload_n hx hb zd_LassoFinderLaw_law_690 rfl (lv_at hl 4 rfl) ?_
  refine lv_iload hx hb zd_LassoFinderLaw_law_691 (lv_at hl 0 rfl) ?_
  refine lv_iconst (v := 1) hx hb zd_LassoFinderLaw_law_693 (by decide) ?_
  refine lv_iadd hx hb zd_LassoFinderLaw_law_694 ?_
  refine lv_topi (fun z3 ez3 => ?_)
  obtain rfl : z3 = nI (i8 + 1) := ez3.trans (nI_add i8 1)
  refine va_sld hx hb hX hbl hbA hw.2.2 (i := nI (i8 + 1)) (vp_in_nI (by omega) (by omega)) zd_LassoFinderLaw_law_695 ?_
  rw [nI_clamp (show i8 + 1 < 2 ^ 31 by omega), h81]
  refine z_calli (w1 := fun (u : zS) => wM am K u.1 u.2.1 u.2.2.1 u.2.2.2) (wr := (wPS ad K I2 J2 B2 (zmix 3 D2 D))) (z_runV (q0 := 78) (wc := (wM am K I9 J9 B9 D9)) (As := [.int a8]) (rest := [.int r2]) ⟨hx, hb, hml, hown, hts⟩ (w_LassoFinderModel_count l G K am I9 J9 B9 D9 a8 _ H.size hok) zf_LassoFinderModel_count zq_388 ⟨(Nat.le_of_ble_eq_true rfl), (Nat.le_of_ble_eq_true rfl)⟩ hK hw (List.range' 78 58) wLS_M wLS_ndM wLS_gm rfl rfl hl.1 rfl (Nat.le_of_ble_eq_true rfl) zd_LassoFinderLaw_law_696 ⟨(by first | omega | (dsimp only; omega)), (by first | omega | (dsimp only; omega))⟩) hw hA (List.range' 78 58) (List.range 78) wLS_M wLS_P wLS_ndP wLS_disPM (fun r4 u H locs hok hw => ?_)
  obtain ⟨I4, J4, B4, D4⟩ := u
  dsimp only at hok
  have hw := wLS_bM hw
  have hw : zW G A s.heap (wLS ad am K I2 J2 B2 (zmix 3 D2 D) I4 J4 B4 D4) H locs := hw
  refine lv_icmp_eq (tgt := 704) hx hb zd_LassoFinderLaw_law_699 (by decide) (fun hc5 => ?_) (fun hc5 => ?_)
  · have hok := hok.1 hc5
    refine W.widen (k := c9 + 1) (n := s9 + 6) (by first | omega | (dsimp only; omega)) (by first | omega | (dsimp only; omega)) ?_
    exact kh I2 J2 B2 (zmix 3 D2 D) I4 J4 B4 D4 ls H locs hok (lv_sub hl [0, 1, 2, 3, 4] rfl) hw
  · have hok := hok.2 hc5
    exact hok.elim
