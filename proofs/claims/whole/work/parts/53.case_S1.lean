
set_option maxHeartbeats 8000000 in
set_option maxRecDepth 100000 in
theorem zc5_S {p : Program} {l : Launch} {e : Env} {s : State} {m : MethodId} {below : List Frame} {meth : Method} {c : Code} {A : Nat → Prop} {G : va_G} {K : Nat → ClassId} {b L : Nat} {xs : Nat → Int32} (C : zCL p l s m b L xs meth c A G K) {ad am : Nat → Nat} {i8 c9 s9 : Nat} (KS : ((Nat → Int32) → (Nat → Int64) → (Nat → Nat → Int32) → (Nat → Nat → Int64) → (Nat → Int32) → (Nat → Int64) → (Nat → Nat → Int32) → (Nat → Nat → Int64) → Prop)) (kh : ∀ (I : Nat → Int32) (J : Nat → Int64) (B : Nat → Nat → Int32) (D : Nat → Nat → Int64) (I9 : Nat → Int32) (J9 : Nat → Int64) (B9 : Nat → Nat → Int32) (D9 : Nat → Nat → Int64) (ls : Array Slot) (H : Heap) (locs : List Loc), KS I J B D I9 J9 B9 D9 → lv_has ls 7 [(4, .int (nI i8)), (3, .ref (ad 77)), (2, .ref (am 0)), (1, .ref (ad 0)), (0, .ref b)] → zW G A s.heap (wLS ad am K I J B D I9 J9 B9 D9) H locs → W p l e room_1 s m #[Value.ref b] below meth c H locs (c9 + 1) (s9 + 6) (lw_Z below #[Value.ref b] s) (F0 m 704 ls [])) (hi : i8 + 3 ≤ L) (hL : L ≤ 1536) {a8 b8 : Int32} (h81 : xs (i8 + 1) = a8) (h82 : xs (i8 + 2) = b8) (hrc : c9 + 1 ≤ 601024) (hrs : s9 + 6 ≤ 7293033) : ∀ (I : Nat → Int32) (J : Nat → Int64) (B : Nat → Nat → Int32) (D : Nat → Nat → Int64) (I9 : Nat → Int32) (J9 : Nat → Int64) (B9 : Nat → Nat → Int32) (D9 : Nat → Nat → Int64) (ls : Array Slot) (H : Heap) (locs : List Loc), lc5_S KS a8 b8 I J B D I9 J9 B9 D9 → lv_has ls 7 [(4, .int (nI i8)), (3, .ref (ad 77)), (2, .ref (am 0)), (1, .ref (ad 0)), (0, .ref b)] → zW G A s.heap (wLS ad am K I J B D I9 J9 B9 D9) H locs → W p l e room_1 s m #[Value.ref b] below meth c H locs c9 s9 (lw_Z below #[Value.ref b] s) (F0 m 329 ls []) := by
  intro I J B D I9 J9 B9 D9 ls H locs hok hl hw
  obtain ⟨hx, hb, hr, hml, hts, hown, hlocks, hA, hA9, hbA, hK, hT, hX, hbl, hlt⟩ := id C
  have hrc : c9 + 1 ≤ room_1.cells := hrc
  have hrs : s9 + 6 ≤ room_1.slots := hrs
  unfold lc5_S at hok
  have hl : lv_has ls 7 [(4, .int (nI i8)), (3, .ref (ad 77)), (2, .ref (am 0)), (1, .ref (ad 0)), (0, .ref b)] := hl
  have hw : zW G A s.heap (wLS ad am K I J B D I9 J9 B9 D9) H locs := hw
  refine lv_aload_n hx hb zd_LassoFinderLaw_law_329 rfl (lv_at hl 3 rfl) ?_
  refine z_calli (w1 := fun (u : zS) => wS ad K u.1 u.2.1 u.2.2.1 u.2.2.2) (wr := ((ad 77, zJ K 1 (D 3)) :: wM am K I9 J9 B9 D9)) (z_runV (q0 := 13) (wc := (wS ad K I J B D)) (As := []) (rest := []) ⟨hx, hb, hml, hown, hts⟩ (w_LassoFinder_stem_S l G K ad I J B D  _ H.size hok) zf_LassoFinder_stem zq_365 ⟨(Nat.le_of_ble_eq_true rfl), (Nat.le_of_ble_eq_true rfl)⟩ hK hw (List.range' 1 77) wLS_X wLS_ndX wLS_gx rfl rfl hl.1 rfl (Nat.le_of_ble_eq_true rfl) zd_LassoFinderLaw_law_330 ⟨(by first | omega | (dsimp only; omega)), (by first | omega | (dsimp only; omega))⟩) hw hA (List.range' 1 77) (0 :: List.range' 78 58) wLS_X wLS_R wLS_ndR wLS_disRX (fun r1 u H locs hok hw => ?_)
  obtain ⟨I1, J1, B1, D1⟩ := u
  dsimp only at hok
  have hw := wLS_bX hw
  have hw : zW G A s.heap (wLS ad am K I1 J1 B1 (zmix 3 D1 D) I9 J9 B9 D9) H locs := hw
  refine lv_aload_n hx hb zd_LassoFinderLaw_law_333 rfl (lv_at hl 2 rfl) ?_
  refine z_calli (w1 := fun (u : zS) => wM am K u.1 u.2.1 u.2.2.1 u.2.2.2) (wr := (wPS ad K I1 J1 B1 (zmix 3 D1 D))) (z_runV (q0 := 78) (wc := (wM am K I9 J9 B9 D9)) (As := []) (rest := [.int r1]) ⟨hx, hb, hml, hown, hts⟩ (w_LassoFinderModel_stem l G K am I9 J9 B9 D9  _ H.size hok) zf_LassoFinderModel_stem zq_366 ⟨(Nat.le_of_ble_eq_true rfl), (Nat.le_of_ble_eq_true rfl)⟩ hK hw (List.range' 78 58) wLS_M wLS_ndM wLS_gm rfl rfl hl.1 rfl (Nat.le_of_ble_eq_true rfl) zd_LassoFinderLaw_law_334 ⟨(by first | omega | (dsimp only; omega)), (by first | omega | (dsimp only; omega))⟩) hw hA (List.range' 78 58) (List.range 78) wLS_M wLS_P wLS_ndP wLS_disPM (fun r2 u H locs hok hw => ?_)
  obtain ⟨I2, J2, B2, D2⟩ := u
  dsimp only at hok
  have hw := wLS_bM hw
  have hw : zW G A s.heap (wLS ad am K I1 J1 B1 (zmix 3 D1 D) I2 J2 B2 D2) H locs := hw
  refine lv_icmp_eq (tgt := 704) hx hb zd_LassoFinderLaw_law_337 (by decide) (fun hc3 => ?_) (fun hc3 => ?_)
  · have hok := hok.1 hc3
    refine W.widen (k := c9 + 1) (n := s9 + 6) (by first | omega | (dsimp only; omega)) (by first | omega | (dsimp only; omega)) ?_
    exact kh I1 J1 B1 (zmix 3 D1 D) I2 J2 B2 D2 ls H locs hok (lv_sub hl [0, 1, 2, 3, 4] rfl) hw
  · have hok := hok.2 hc3
    exact hok.elim
set_option maxHeartbeats 8000000 in
set_option maxRecDepth 100000 in
theorem zc6_S {p : Program} {l : Launch} {e : Env} {s : State} {m : MethodId} {below : List Frame} {meth : Method} {c : Code} {A : Nat → Prop} {G : va_G} {K : Nat → ClassId} {b L : Nat} {xs : Nat → Int32} (C : zCL p l s m b L xs meth c A G K) {ad am : Nat → Nat} {i8 c9 s9 : Nat} (KS : ((Nat → Int32) → (Nat → Int64) → (Nat → Nat → Int32) → (Nat → Nat → Int64) → (Nat → Int32) → (Nat → Int64) → (Nat → Nat → Int32) → (Nat → Nat → Int64) → Prop)) (kh : ∀ (I : Nat → Int32) (J : Nat → Int64) (B : Nat → Nat → Int32) (D : Nat → Nat → Int64) (I9 : Nat → Int32) (J9 : Nat → Int64) (B9 : Nat → Nat → Int32) (D9 : Nat → Nat → Int64) (ls : Array Slot) (H : Heap) (locs : List Loc), KS I J B D I9 J9 B9 D9 → lv_has ls 7 [(4, .int (nI i8)), (3, .ref (ad 77)), (2, .ref (am 0)), (1, .ref (ad 0)), (0, .ref b)] → zW G A s.heap (wLS ad am K I J B D I9 J9 B9 D9) H locs → W p l e room_1 s m #[Value.ref b] below meth c H locs (c9 + 1) (s9 + 6) (lw_Z below #[Value.ref b] s) (F0 m 704 ls [])) (hi : i8 + 3 ≤ L) (hL : L ≤ 1536) {a8 b8 : Int32} (h81 : xs (i8 + 1) = a8) (h82 : xs (i8 + 2) = b8) (hrc : c9 + 1 ≤ 601024) (hrs : s9 + 6 ≤ 7293033) : ∀ (I : Nat → Int32) (J : Nat → Int64) (B : Nat → Nat → Int32) (D : Nat → Nat → Int64) (I9 : Nat → Int32) (J9 : Nat → Int64) (B9 : Nat → Nat → Int32) (D9 : Nat → Nat → Int64) (ls : Array Slot) (H : Heap) (locs : List Loc), lc6_S KS a8 b8 I J B D I9 J9 B9 D9 → lv_has ls 7 [(4, .int (nI i8)), (3, .ref (ad 77)), (2, .ref (am 0)), (1, .ref (ad 0)), (0, .ref b)] → zW G A s.heap (wLS ad am K I J B D I9 J9 B9 D9) H locs → W p l e room_1 s m #[Value.ref b] below meth c H locs c9 s9 (lw_Z below #[Value.ref b] s) (F0 m 342 ls []) := by
  intro I J B D I9 J9 B9 D9 ls H locs hok hl hw
  obtain ⟨hx, hb, hr, hml, hts, hown, hlocks, hA, hA9, hbA, hK, hT, hX, hbl, hlt⟩ := id C
  have hrc : c9 + 1 ≤ room_1.cells := hrc
  have hrs : s9 + 6 ≤ room_1.slots := hrs
  unfold lc6_S at hok
  have hl : lv_has ls 7 [(4, .int (nI i8)), (3, .ref (ad 77)), (2, .ref (am 0)), (1, .ref (ad 0)), (0, .ref b)] := hl
  have hw : zW G A s.heap (wLS ad am K I J B D I9 J9 B9 D9) H locs := hw
  refine lv_aload_n hx hb zd_LassoFinderLaw_law_342 rfl (lv_at hl 3 rfl) ?_
  refine z_calli (w1 := fun (u : zS) => wS ad K u.1 u.2.1 u.2.2.1 u.2.2.2) (wr := ((ad 77, zJ K 1 (D 3)) :: wM am K I9 J9 B9 D9)) (z_runV (q0 := 13) (wc := (wS ad K I J B D)) (As := []) (rest := []) ⟨hx, hb, hml, hown, hts⟩ (w_LassoFinder_cycle_S l G K ad I J B D  _ H.size hok) zf_LassoFinder_cycle zq_367 ⟨(Nat.le_of_ble_eq_true rfl), (Nat.le_of_ble_eq_true rfl)⟩ hK hw (List.range' 1 77) wLS_X wLS_ndX wLS_gx rfl rfl hl.1 rfl (Nat.le_of_ble_eq_true rfl) zd_LassoFinderLaw_law_343 ⟨(by first | omega | (dsimp only; omega)), (by first | omega | (dsimp only; omega))⟩) hw hA (List.range' 1 77) (0 :: List.range' 78 58) wLS_X wLS_R wLS_ndR wLS_disRX (fun r1 u H locs hok hw => ?_)
  obtain ⟨I1, J1, B1, D1⟩ := u
  dsimp only at hok
  have hw := wLS_bX hw
  have hw : zW G A s.heap (wLS ad am K I1 J1 B1 (zmix 3 D1 D) I9 J9 B9 D9) H locs := hw
  refine lv_aload_n hx hb zd_LassoFinderLaw_law_346 rfl (lv_at hl 2 rfl) ?_
  refine z_calli (w1 := fun (u : zS) => wM am K u.1 u.2.1 u.2.2.1 u.2.2.2) (wr := (wPS ad K I1 J1 B1 (zmix 3 D1 D))) (z_runV (q0 := 78) (wc := (wM am K I9 J9 B9 D9)) (As := []) (rest := [.int r1]) ⟨hx, hb, hml, hown, hts⟩ (w_LassoFinderModel_cycle l G K am I9 J9 B9 D9  _ H.size hok) zf_LassoFinderModel_cycle zq_368 ⟨(Nat.le_of_ble_eq_true rfl), (Nat.le_of_ble_eq_true rfl)⟩ hK hw (List.range' 78 58) wLS_M wLS_ndM wLS_gm rfl rfl hl.1 rfl (Nat.le_of_ble_eq_true rfl) zd_LassoFinderLaw_law_347 ⟨(by first | omega | (dsimp only; omega)), (by first | omega | (dsimp only; omega))⟩) hw hA (List.range' 78 58) (List.range 78) wLS_M wLS_P wLS_ndP wLS_disPM (fun r2 u H locs hok hw => ?_)
  obtain ⟨I2, J2, B2, D2⟩ := u
  dsimp only at hok
  have hw := wLS_bM hw
  have hw : zW G A s.heap (wLS ad am K I1 J1 B1 (zmix 3 D1 D) I2 J2 B2 D2) H locs := hw
  refine lv_icmp_eq (tgt := 704) hx hb zd_LassoFinderLaw_law_350 (by decide) (fun hc3 => ?_) (fun hc3 => ?_)
  · have hok := hok.1 hc3
    refine W.widen (k := c9 + 1) (n := s9 + 6) (by first | omega | (dsimp only; omega)) (by first | omega | (dsimp only; omega)) ?_
    exact kh I1 J1 B1 (zmix 3 D1 D) I2 J2 B2 D2 ls H locs hok (lv_sub hl [0, 1, 2, 3, 4] rfl) hw
  · have hok := hok.2 hc3
    exact hok.elim
set_option maxHeartbeats 8000000 in
set_option maxRecDepth 100000 in
theorem zc7_S {p : Program} {l : Launch} {e : Env} {s : State} {m : MethodId} {below : List Frame} {meth : Method} {c : Code} {A : Nat → Prop} {G : va_G} {K : Nat → ClassId} {b L : Nat} {xs : Nat → Int32} (C : zCL p l s m b L xs meth c A G K) {ad am : Nat → Nat} {i8 c9 s9 : Nat} (KS : ((Nat → Int32) → (Nat → Int64) → (Nat → Nat → Int32) → (Nat → Nat → Int64) → (Nat → Int32) → (Nat → Int64) → (Nat → Nat → Int32) → (Nat → Nat → Int64) → Prop)) (kh : ∀ (I : Nat → Int32) (J : Nat → Int64) (B : Nat → Nat → Int32) (D : Nat → Nat → Int64) (I9 : Nat → Int32) (J9 : Nat → Int64) (B9 : Nat → Nat → Int32) (D9 : Nat → Nat → Int64) (ls : Array Slot) (H : Heap) (locs : List Loc), KS I J B D I9 J9 B9 D9 → lv_has ls 7 [(4, .int (nI i8)), (3, .ref (ad 77)), (2, .ref (am 0)), (1, .ref (ad 0)), (0, .ref b)] → zW G A s.heap (wLS ad am K I J B D I9 J9 B9 D9) H locs → W p l e room_1 s m #[Value.ref b] below meth c H locs (c9 + 1) (s9 + 6) (lw_Z below #[Value.ref b] s) (F0 m 704 ls [])) (hi : i8 + 3 ≤ L) (hL : L ≤ 1536) {a8 b8 : Int32} (h81 : xs (i8 + 1) = a8) (h82 : xs (i8 + 2) = b8) (hrc : c9 + 1 ≤ 601024) (hrs : s9 + 6 ≤ 7293033) : ∀ (I : Nat → Int32) (J : Nat → Int64) (B : Nat → Nat → Int32) (D : Nat → Nat → Int64) (I9 : Nat → Int32) (J9 : Nat → Int64) (B9 : Nat → Nat → Int32) (D9 : Nat → Nat → Int64) (ls : Array Slot) (H : Heap) (locs : List Loc), lc7_S KS a8 b8 I J B D I9 J9 B9 D9 → lv_has ls 7 [(4, .int (nI i8)), (3, .ref (ad 77)), (2, .ref (am 0)), (1, .ref (ad 0)), (0, .ref b)] → zW G A s.heap (wLS ad am K I J B D I9 J9 B9 D9) H locs → W p l e room_1 s m #[Value.ref b] below meth c H locs c9 s9 (lw_Z below #[Value.ref b] s) (F0 m 355 ls []) := by
  intro I J B D I9 J9 B9 D9 ls H locs hok hl hw
  obtain ⟨hx, hb, hr, hml, hts, hown, hlocks, hA, hA9, hbA, hK, hT, hX, hbl, hlt⟩ := id C
  have hrc : c9 + 1 ≤ room_1.cells := hrc
  have hrs : s9 + 6 ≤ room_1.slots := hrs
  unfold lc7_S at hok
  have hl : lv_has ls 7 [(4, .int (nI i8)), (3, .ref (ad 77)), (2, .ref (am 0)), (1, .ref (ad 0)), (0, .ref b)] := hl
  have hw : zW G A s.heap (wLS ad am K I J B D I9 J9 B9 D9) H locs := hw
  refine lv_aload_n hx hb zd_LassoFinderLaw_law_355 rfl (lv_at hl 3 rfl) ?_
  refine lv_aload_n hx hb zd_LassoFinderLaw_law_356 rfl (lv_at hl 4 rfl) ?_
  refine lv_iload hx hb zd_LassoFinderLaw_law_357 (lv_at hl 0 rfl) ?_
  refine lv_iconst (v := 1) hx hb zd_LassoFinderLaw_law_359 (by decide) ?_
  refine lv_iadd hx hb zd_LassoFinderLaw_law_360 ?_
  refine lv_topi (fun z1 ez1 => ?_)
  obtain rfl : z1 = nI (i8 + 1) := ez1.trans (nI_add i8 1)
  refine va_sld hx hb hX hbl hbA hw.2.2 (i := nI (i8 + 1)) (vp_in_nI (by omega) (by omega)) zd_LassoFinderLaw_law_361 ?_
  rw [nI_clamp (show i8 + 1 < 2 ^ 31 by omega), h81]
  refine lv_aload_n hx hb zd_LassoFinderLaw_law_362 rfl (lv_at hl 4 rfl) ?_
  refine lv_iload hx hb zd_LassoFinderLaw_law_363 (lv_at hl 0 rfl) ?_
  refine lv_iconst (v := 2) hx hb zd_LassoFinderLaw_law_365 (by decide) ?_
  refine lv_iadd hx hb zd_LassoFinderLaw_law_366 ?_
  refine lv_topi (fun z2 ez2 => ?_)
  obtain rfl : z2 = nI (i8 + 2) := ez2.trans (nI_add i8 2)
  refine va_sld hx hb hX hbl hbA hw.2.2 (i := nI (i8 + 2)) (vp_in_nI (by omega) (by omega)) zd_LassoFinderLaw_law_367 ?_
  rw [nI_clamp (show i8 + 2 < 2 ^ 31 by omega), h82]
  refine lv_aload_n hx hb zd_LassoFinderLaw_law_368 rfl (lv_at hl 1 rfl) ?_
  refine z_calli (w1 := fun (u : zS) => wPS ad K u.1 u.2.1 u.2.2.1 u.2.2.2) (wr := (wM am K I9 J9 B9 D9)) (z_runSWY (wc := (wPS ad K I J B D)) (As := [.ref (ad 0), .int a8, .int b8, .ref (ad 77)]) (rest := []) ⟨hx, hb, hml, hown, hts⟩ (w_L_lasso_S l hlt G K ad I J B D a8 b8 _ H.size hok) zf_LassoFinderLaw_lasso zq_369 ⟨(Nat.le_of_ble_eq_true rfl), (Nat.le_of_ble_eq_true rfl)⟩ hK hT hw hA (List.range 78) wLS_P wLS_ndP rfl hl.1 rfl (Nat.le_of_ble_eq_true rfl) zd_LassoFinderLaw_law_369 ⟨(by first | omega | (dsimp only; omega)), (by first | omega | (dsimp only; omega))⟩) hw hA (List.range 78) (List.range' 78 58) wLS_P wLS_M wLS_ndM wLS_disMP (fun r3 u H locs hok hw => ?_)
  obtain ⟨I3, J3, B3, D3⟩ := u
  dsimp only at hok
  have hw := wLS_bP hw
  have hw : zW G A s.heap (wLS ad am K I3 J3 B3 D3 I9 J9 B9 D9) H locs := hw
  refine lv_istore hx hb zd_LassoFinderLaw_law_372 hl (by decide) rfl (fun ls hl => ?_)
  have hl : lv_has ls 7 [(5, .int r3), (4, .int (nI i8)), (3, .ref (ad 77)), (2, .ref (am 0)), (1, .ref (ad 0)), (0, .ref b)] := hl
  refine lv_aload_n hx hb zd_LassoFinderLaw_law_374 rfl (lv_at hl 3 rfl) ?_
  refine lv_aload_n hx hb zd_LassoFinderLaw_law_375 rfl (lv_at hl 5 rfl) ?_
  refine lv_iload hx hb zd_LassoFinderLaw_law_376 (lv_at hl 1 rfl) ?_
  refine lv_iconst (v := 1) hx hb zd_LassoFinderLaw_law_378 (by decide) ?_
  refine lv_iadd hx hb zd_LassoFinderLaw_law_379 ?_
  refine lv_topi (fun z4 ez4 => ?_)
  obtain rfl : z4 = nI (i8 + 1) := ez4.trans (nI_add i8 1)
  refine va_sld hx hb hX hbl hbA hw.2.2 (i := nI (i8 + 1)) (vp_in_nI (by omega) (by omega)) zd_LassoFinderLaw_law_380 ?_
  rw [nI_clamp (show i8 + 1 < 2 ^ 31 by omega), h81]
  refine lv_aload_n hx hb zd_LassoFinderLaw_law_381 rfl (lv_at hl 5 rfl) ?_
  refine lv_iload hx hb zd_LassoFinderLaw_law_382 (lv_at hl 1 rfl) ?_
  refine lv_iconst (v := 2) hx hb zd_LassoFinderLaw_law_384 (by decide) ?_
  refine lv_iadd hx hb zd_LassoFinderLaw_law_385 ?_
  refine lv_topi (fun z5 ez5 => ?_)
  obtain rfl : z5 = nI (i8 + 2) := ez5.trans (nI_add i8 2)
  refine va_sld hx hb hX hbl hbA hw.2.2 (i := nI (i8 + 2)) (vp_in_nI (by omega) (by omega)) zd_LassoFinderLaw_law_386 ?_
  rw [nI_clamp (show i8 + 2 < 2 ^ 31 by omega), h82]
  refine z_calli (w1 := fun (u : zS) => wM am K u.1 u.2.1 u.2.2.1 u.2.2.2) (wr := (wPS ad K I3 J3 B3 D3)) (z_runV (q0 := 78) (wc := (wM am K I9 J9 B9 D9)) (As := [.int a8, .int b8]) (rest := []) ⟨hx, hb, hml, hown, hts⟩ (w_LassoFinderModel_lasso l G K am I9 J9 B9 D9 a8 b8 _ H.size hok) zf_LassoFinderModel_lasso zq_370 ⟨(Nat.le_of_ble_eq_true rfl), (Nat.le_of_ble_eq_true rfl)⟩ hK hw (List.range' 78 58) wLS_M wLS_ndM wLS_gm rfl rfl hl.1 rfl (Nat.le_of_ble_eq_true rfl) zd_LassoFinderLaw_law_387 ⟨(by first | omega | (dsimp only; omega)), (by first | omega | (dsimp only; omega))⟩) hw hA (List.range' 78 58) (List.range 78) wLS_M wLS_P wLS_ndP wLS_disPM (fun r6 u H locs hok hw => ?_)
  obtain ⟨I6, J6, B6, D6⟩ := u
  dsimp only at hok
  have hw := wLS_bM hw
  have hw : zW G A s.heap (wLS ad am K I3 J3 B3 D3 I6 J6 B6 D6) H locs := hw
  refine lv_istore hx hb zd_LassoFinderLaw_law_390 hl (by decide) rfl (fun ls hl => ?_)
  have hl : lv_has ls 7 [(6, .int r6), (5, .int r3), (4, .int (nI i8)), (3, .ref (ad 77)), (2, .ref (am 0)), (1, .ref (ad 0)), (0, .ref b)] := hl
  refine lv_aload_n hx hb zd_LassoFinderLaw_law_392 rfl (lv_at hl 4 rfl) ?_
  refine z_calli (w1 := fun (u : zS) => wM am K u.1 u.2.1 u.2.2.1 u.2.2.2) (wr := (wPS ad K I3 J3 B3 D3)) (z_runV (q0 := 78) (wc := (wM am K I6 J6 B6 D6)) (As := []) (rest := []) ⟨hx, hb, hml, hown, hts⟩ (w_LassoFinderModel_thrown l G K am I6 J6 B6 D6  _ H.size hok) zf_LassoFinderModel_thrown zq_358 ⟨(Nat.le_of_ble_eq_true rfl), (Nat.le_of_ble_eq_true rfl)⟩ hK hw (List.range' 78 58) wLS_M wLS_ndM wLS_gm rfl rfl hl.1 rfl (Nat.le_of_ble_eq_true rfl) zd_LassoFinderLaw_law_393 ⟨(by first | omega | (dsimp only; omega)), (by first | omega | (dsimp only; omega))⟩) hw hA (List.range' 78 58) (List.range 78) wLS_M wLS_P wLS_ndP wLS_disPM (fun r7 u H locs hok hw => ?_)
  obtain ⟨I7, J7, B7, D7⟩ := u
  dsimp only at hok
  have hw := wLS_bM hw
  have hw : zW G A s.heap (wLS ad am K I3 J3 B3 D3 I7 J7 B7 D7) H locs := hw
  refine lv_iload hx hb zd_LassoFinderLaw_law_396 (lv_at hl 1 rfl) ?_
  refine lv_icmp_eq (tgt := 403) hx hb zd_LassoFinderLaw_law_398 (by decide) (fun hc8 => ?_) (fun hc8 => ?_)
  · have hok := hok.1 hc8
    refine lv_iload hx hb zd_LassoFinderLaw_law_403 (lv_at hl 1 rfl) ?_
    refine lv_if_ne (tgt := 420) hx hb zd_LassoFinderLaw_law_405 (by decide) (fun hc9 => ?_) (fun hc9 => ?_)
    · have hok := hok.1 hc9
      refine lv_goto (tgt := 704) hx hb zd_LassoFinderLaw_law_420 (by decide) ?_
      refine W.widen (k := c9 + 1) (n := s9 + 6) (by first | omega | (dsimp only; omega)) (by first | omega | (dsimp only; omega)) ?_
      exact kh I3 J3 B3 D3 I7 J7 B7 D7 ls H locs hok (lv_sub hl [2, 3, 4, 5, 6] rfl) hw
    · have hok := hok.2 hc9
      refine lv_aload_n hx hb zd_LassoFinderLaw_law_408 rfl (lv_at hl 3 rfl) ?_
      refine lv_iconst (v := 0) hx hb zd_LassoFinderLaw_law_409 (by decide) ?_
      refine va_lald (f := D3 3) hx hb hK hw.1 0 1 wLS_a0 rfl z_in0 zd_LassoFinderLaw_law_410 ?_
      refine lv_topl (fun z10 ez10 => ?_)
      have hok := hok z10 ez10
      refine lv_iload hx hb zd_LassoFinderLaw_law_411 (lv_at hl 0 rfl) ?_
      refine lv_i2l hx hb zd_LassoFinderLaw_law_413 rfl ?_
      refine lv_topl (fun z11 ez11 => ?_)
      have hok := hok z11 ez11
      refine W.lcmp hx hb zd_LassoFinderLaw_law_414 ?_
      refine lv_topi (fun z12 ez12 => ?_)
      have hok := hok z12 ez12
      refine lv_if_eq (tgt := 420) hx hb zd_LassoFinderLaw_law_415 (by decide) (fun hc13 => ?_) (fun hc13 => ?_)
      · have hok := hok.1 hc13
        refine lv_goto (tgt := 704) hx hb zd_LassoFinderLaw_law_420 (by decide) ?_
        refine W.widen (k := c9 + 1) (n := s9 + 6) (by first | omega | (dsimp only; omega)) (by first | omega | (dsimp only; omega)) ?_
        exact kh I3 J3 B3 D3 I7 J7 B7 D7 ls H locs hok (lv_sub hl [2, 3, 4, 5, 6] rfl) hw
      · have hok := hok.2 hc13
        exact hok.elim
  · have hok := hok.2 hc8
    exact hok.elim
set_option maxHeartbeats 8000000 in
set_option maxRecDepth 100000 in
theorem zc8_S {p : Program} {l : Launch} {e : Env} {s : State} {m : MethodId} {below : List Frame} {meth : Method} {c : Code} {A : Nat → Prop} {G : va_G} {K : Nat → ClassId} {b L : Nat} {xs : Nat → Int32} (C : zCL p l s m b L xs meth c A G K) {ad am : Nat → Nat} {i8 c9 s9 : Nat} (KS : ((Nat → Int32) → (Nat → Int64) → (Nat → Nat → Int32) → (Nat → Nat → Int64) → (Nat → Int32) → (Nat → Int64) → (Nat → Nat → Int32) → (Nat → Nat → Int64) → Prop)) (kh : ∀ (I : Nat → Int32) (J : Nat → Int64) (B : Nat → Nat → Int32) (D : Nat → Nat → Int64) (I9 : Nat → Int32) (J9 : Nat → Int64) (B9 : Nat → Nat → Int32) (D9 : Nat → Nat → Int64) (ls : Array Slot) (H : Heap) (locs : List Loc), KS I J B D I9 J9 B9 D9 → lv_has ls 7 [(4, .int (nI i8)), (3, .ref (ad 77)), (2, .ref (am 0)), (1, .ref (ad 0)), (0, .ref b)] → zW G A s.heap (wLS ad am K I J B D I9 J9 B9 D9) H locs → W p l e room_1 s m #[Value.ref b] below meth c H locs (c9 + 1) (s9 + 6) (lw_Z below #[Value.ref b] s) (F0 m 704 ls [])) (hi : i8 + 3 ≤ L) (hL : L ≤ 1536) {a8 b8 : Int32} (h81 : xs (i8 + 1) = a8) (h82 : xs (i8 + 2) = b8) (hrc : c9 + 1 ≤ 601024) (hrs : s9 + 6 ≤ 7293033) : ∀ (I : Nat → Int32) (J : Nat → Int64) (B : Nat → Nat → Int32) (D : Nat → Nat → Int64) (I9 : Nat → Int32) (J9 : Nat → Int64) (B9 : Nat → Nat → Int32) (D9 : Nat → Nat → Int64) (ls : Array Slot) (H : Heap) (locs : List Loc), lc8_S KS a8 b8 I J B D I9 J9 B9 D9 → lv_has ls 7 [(4, .int (nI i8)), (3, .ref (ad 77)), (2, .ref (am 0)), (1, .ref (ad 0)), (0, .ref b)] → zW G A s.heap (wLS ad am K I J B D I9 J9 B9 D9) H locs → W p l e room_1 s m #[Value.ref b] below meth c H locs c9 s9 (lw_Z below #[Value.ref b] s) (F0 m 423 ls []) := by
  intro I J B D I9 J9 B9 D9 ls H locs hok hl hw
  obtain ⟨hx, hb, hr, hml, hts, hown, hlocks, hA, hA9, hbA, hK, hT, hX, hbl, hlt⟩ := id C
  have hrc : c9 + 1 ≤ room_1.cells := hrc
  have hrs : s9 + 6 ≤ room_1.slots := hrs
  unfold lc8_S at hok
  have hl : lv_has ls 7 [(4, .int (nI i8)), (3, .ref (ad 77)), (2, .ref (am 0)), (1, .ref (ad 0)), (0, .ref b)] := hl
  have hw : zW G A s.heap (wLS ad am K I J B D I9 J9 B9 D9) H locs := hw
  refine lv_aload_n hx hb zd_LassoFinderLaw_law_423 rfl (lv_at hl 3 rfl) ?_
  refine z_calli (w1 := fun (u : zS) => wPS ad K u.1 u.2.1 u.2.2.1 u.2.2.2) (wr := (wM am K I9 J9 B9 D9)) (z_runSWY (wc := (wPS ad K I J B D)) (As := [.ref (ad 0)]) (rest := []) ⟨hx, hb, hml, hown, hts⟩ (w_L_walk_S l hlt G K ad I J B D  _ H.size hok) zf_LassoFinderLaw_walk zq_371 ⟨(Nat.le_of_ble_eq_true rfl), (Nat.le_of_ble_eq_true rfl)⟩ hK hT hw hA (List.range 78) wLS_P wLS_ndP rfl hl.1 rfl (Nat.le_of_ble_eq_true rfl) zd_LassoFinderLaw_law_424 ⟨(by first | omega | (dsimp only; omega)), (by first | omega | (dsimp only; omega))⟩) hw hA (List.range 78) (List.range' 78 58) wLS_P wLS_M wLS_ndM wLS_disMP (fun r1 u H locs hok hw => ?_)
  obtain ⟨I1, J1, B1, D1⟩ := u
  dsimp only at hok
  have hw := wLS_bP hw
  have hw : zW G A s.heap (wLS ad am K I1 J1 B1 D1 I9 J9 B9 D9) H locs := hw
  refine lv_istore hx hb zd_LassoFinderLaw_law_427 hl (by decide) rfl (fun ls hl => ?_)
  have hl : lv_has ls 7 [(5, .int r1), (4, .int (nI i8)), (3, .ref (ad 77)), (2, .ref (am 0)), (1, .ref (ad 0)), (0, .ref b)] := hl
  refine lv_aload_n hx hb zd_LassoFinderLaw_law_429 rfl (lv_at hl 3 rfl) ?_
  refine z_callv (w1 := fun (u : zS) => wM am K u.1 u.2.1 u.2.2.1 u.2.2.2) (wr := (wPS ad K I1 J1 B1 D1)) (z_runV (q0 := 78) (wc := (wM am K I9 J9 B9 D9)) (As := []) (rest := []) ⟨hx, hb, hml, hown, hts⟩ (w_LassoFinderModel_walk l G K am I9 J9 B9 D9  _ H.size hok) zf_LassoFinderModel_walk zq_372 ⟨(Nat.le_of_ble_eq_true rfl), (Nat.le_of_ble_eq_true rfl)⟩ hK hw (List.range' 78 58) wLS_M wLS_ndM wLS_gm rfl rfl hl.1 rfl (Nat.le_of_ble_eq_true rfl) zd_LassoFinderLaw_law_430 ⟨(by first | omega | (dsimp only; omega)), (by first | omega | (dsimp only; omega))⟩) hw hA (List.range' 78 58) (List.range 78) wLS_M wLS_P wLS_ndP wLS_disPM (fun u H locs hok hw => ?_)
  obtain ⟨I2, J2, B2, D2⟩ := u
  dsimp only at hok
  have hw := wLS_bM hw
  have hw : zW G A s.heap (wLS ad am K I1 J1 B1 D1 I2 J2 B2 D2) H locs := hw
  refine lv_aload_n hx hb zd_LassoFinderLaw_law_433 rfl (lv_at hl 3 rfl) ?_
  refine z_calli (w1 := fun (u : zS) => wM am K u.1 u.2.1 u.2.2.1 u.2.2.2) (wr := (wPS ad K I1 J1 B1 D1)) (z_runV (q0 := 78) (wc := (wM am K I2 J2 B2 D2)) (As := []) (rest := []) ⟨hx, hb, hml, hown, hts⟩ (w_LassoFinderModel_thrown l G K am I2 J2 B2 D2  _ H.size hok) zf_LassoFinderModel_thrown zq_358 ⟨(Nat.le_of_ble_eq_true rfl), (Nat.le_of_ble_eq_true rfl)⟩ hK hw (List.range' 78 58) wLS_M wLS_ndM wLS_gm rfl rfl hl.1 rfl (Nat.le_of_ble_eq_true rfl) zd_LassoFinderLaw_law_434 ⟨(by first | omega | (dsimp only; omega)), (by first | omega | (dsimp only; omega))⟩) hw hA (List.range' 78 58) (List.range 78) wLS_M wLS_P wLS_ndP wLS_disPM (fun r3 u H locs hok hw => ?_)
  obtain ⟨I3, J3, B3, D3⟩ := u
  dsimp only at hok
  have hw := wLS_bM hw
  have hw : zW G A s.heap (wLS ad am K I1 J1 B1 D1 I3 J3 B3 D3) H locs := hw
  refine lv_iload hx hb zd_LassoFinderLaw_law_437 (lv_at hl 0 rfl) ?_
  refine lv_icmp_eq (tgt := 444) hx hb zd_LassoFinderLaw_law_439 (by decide) (fun hc4 => ?_) (fun hc4 => ?_)
  · have hok := hok.1 hc4
    refine lv_goto (tgt := 704) hx hb zd_LassoFinderLaw_law_444 (by decide) ?_
    refine W.widen (k := c9 + 1) (n := s9 + 6) (by first | omega | (dsimp only; omega)) (by first | omega | (dsimp only; omega)) ?_
    exact kh I1 J1 B1 D1 I3 J3 B3 D3 ls H locs hok (lv_sub hl [1, 2, 3, 4, 5] rfl) hw
  · have hok := hok.2 hc4
    exact hok.elim
set_option maxHeartbeats 8000000 in
set_option maxRecDepth 100000 in
theorem zc9_S {p : Program} {l : Launch} {e : Env} {s : State} {m : MethodId} {below : List Frame} {meth : Method} {c : Code} {A : Nat → Prop} {G : va_G} {K : Nat → ClassId} {b L : Nat} {xs : Nat → Int32} (C : zCL p l s m b L xs meth c A G K) {ad am : Nat → Nat} {i8 c9 s9 : Nat} (KS : ((Nat → Int32) → (Nat → Int64) → (Nat → Nat → Int32) → (Nat → Nat → Int64) → (Nat → Int32) → (Nat → Int64) → (Nat → Nat → Int32) → (Nat → Nat → Int64) → Prop)) (kh : ∀ (I : Nat → Int32) (J : Nat → Int64) (B : Nat → Nat → Int32) (D : Nat → Nat → Int64) (I9 : Nat → Int32) (J9 : Nat → Int64) (B9 : Nat → Nat → Int32) (D9 : Nat → Nat → Int64) (ls : Array Slot) (H : Heap) (locs : List Loc), KS I J B D I9 J9 B9 D9 → lv_has ls 7 [(4, .int (nI i8)), (3, .ref (ad 77)), (2, .ref (am 0)), (1, .ref (ad 0)), (0, .ref b)] → zW G A s.heap (wLS ad am K I J B D I9 J9 B9 D9) H locs → W p l e room_1 s m #[Value.ref b] below meth c H locs (c9 + 1) (s9 + 6) (lw_Z below #[Value.ref b] s) (F0 m 704 ls [])) (hi : i8 + 3 ≤ L) (hL : L ≤ 1536) {a8 b8 : Int32} (h81 : xs (i8 + 1) = a8) (h82 : xs (i8 + 2) = b8) (hrc : c9 + 1 ≤ 601024) (hrs : s9 + 6 ≤ 7293033) : ∀ (I : Nat → Int32) (J : Nat → Int64) (B : Nat → Nat → Int32) (D : Nat → Nat → Int64) (I9 : Nat → Int32) (J9 : Nat → Int64) (B9 : Nat → Nat → Int32) (D9 : Nat → Nat → Int64) (ls : Array Slot) (H : Heap) (locs : List Loc), lc9_S KS a8 b8 I J B D I9 J9 B9 D9 → lv_has ls 7 [(4, .int (nI i8)), (3, .ref (ad 77)), (2, .ref (am 0)), (1, .ref (ad 0)), (0, .ref b)] → zW G A s.heap (wLS ad am K I J B D I9 J9 B9 D9) H locs → W p l e room_1 s m #[Value.ref b] below meth c H locs c9 s9 (lw_Z below #[Value.ref b] s) (F0 m 447 ls []) := by
  intro I J B D I9 J9 B9 D9 ls H locs hok hl hw
  obtain ⟨hx, hb, hr, hml, hts, hown, hlocks, hA, hA9, hbA, hK, hT, hX, hbl, hlt⟩ := id C
  have hrc : c9 + 1 ≤ room_1.cells := hrc
  have hrs : s9 + 6 ≤ room_1.slots := hrs
  unfold lc9_S at hok
  have hl : lv_has ls 7 [(4, .int (nI i8)), (3, .ref (ad 77)), (2, .ref (am 0)), (1, .ref (ad 0)), (0, .ref b)] := hl
  have hw : zW G A s.heap (wLS ad am K I J B D I9 J9 B9 D9) H locs := hw
  refine lv_aload_n hx hb zd_LassoFinderLaw_law_447 rfl (lv_at hl 3 rfl) ?_
  refine z_calli (w1 := fun (u : zS) => wS ad K u.1 u.2.1 u.2.2.1 u.2.2.2) (wr := ((ad 77, zJ K 1 (D 3)) :: wM am K I9 J9 B9 D9)) (z_runV (q0 := 13) (wc := (wS ad K I J B D)) (As := []) (rest := []) ⟨hx, hb, hml, hown, hts⟩ (w_LassoFinder_steps_S l G K ad I J B D  _ H.size hok) zf_LassoFinder_steps zq_373 ⟨(Nat.le_of_ble_eq_true rfl), (Nat.le_of_ble_eq_true rfl)⟩ hK hw (List.range' 1 77) wLS_X wLS_ndX wLS_gx rfl rfl hl.1 rfl (Nat.le_of_ble_eq_true rfl) zd_LassoFinderLaw_law_448 ⟨(by first | omega | (dsimp only; omega)), (by first | omega | (dsimp only; omega))⟩) hw hA (List.range' 1 77) (0 :: List.range' 78 58) wLS_X wLS_R wLS_ndR wLS_disRX (fun r1 u H locs hok hw => ?_)
  obtain ⟨I1, J1, B1, D1⟩ := u
  dsimp only at hok
  have hw := wLS_bX hw
  have hw : zW G A s.heap (wLS ad am K I1 J1 B1 (zmix 3 D1 D) I9 J9 B9 D9) H locs := hw
  refine lv_aload_n hx hb zd_LassoFinderLaw_law_451 rfl (lv_at hl 2 rfl) ?_
  refine z_calli (w1 := fun (u : zS) => wM am K u.1 u.2.1 u.2.2.1 u.2.2.2) (wr := (wPS ad K I1 J1 B1 (zmix 3 D1 D))) (z_runV (q0 := 78) (wc := (wM am K I9 J9 B9 D9)) (As := []) (rest := [.int r1]) ⟨hx, hb, hml, hown, hts⟩ (w_LassoFinderModel_steps l G K am I9 J9 B9 D9  _ H.size hok) zf_LassoFinderModel_steps zq_374 ⟨(Nat.le_of_ble_eq_true rfl), (Nat.le_of_ble_eq_true rfl)⟩ hK hw (List.range' 78 58) wLS_M wLS_ndM wLS_gm rfl rfl hl.1 rfl (Nat.le_of_ble_eq_true rfl) zd_LassoFinderLaw_law_452 ⟨(by first | omega | (dsimp only; omega)), (by first | omega | (dsimp only; omega))⟩) hw hA (List.range' 78 58) (List.range 78) wLS_M wLS_P wLS_ndP wLS_disPM (fun r2 u H locs hok hw => ?_)
  obtain ⟨I2, J2, B2, D2⟩ := u
  dsimp only at hok
  have hw := wLS_bM hw
  have hw : zW G A s.heap (wLS ad am K I1 J1 B1 (zmix 3 D1 D) I2 J2 B2 D2) H locs := hw
  refine lv_icmp_eq (tgt := 704) hx hb zd_LassoFinderLaw_law_455 (by decide) (fun hc3 => ?_) (fun hc3 => ?_)
  · have hok := hok.1 hc3
    refine W.widen (k := c9 + 1) (n := s9 + 6) (by first | omega | (dsimp only; omega)) (by first | omega | (dsimp only; omega)) ?_
    exact kh I1 J1 B1 (zmix 3 D1 D) I2 J2 B2 D2 ls H locs hok (lv_sub hl [0, 1, 2, 3, 4] rfl) hw
  · have hok := hok.2 hc3
    exact hok.elim
