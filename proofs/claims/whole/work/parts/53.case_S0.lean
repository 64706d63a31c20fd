
set_option maxHeartbeats 8000000 in
set_option maxRecDepth 100000 in
theorem zc0_S {p : Program} {l : Launch} {e : Env} {s : State} {m : MethodId} {below : List Frame} {meth : Method} {c : Code} {A : Nat → Prop} {G : va_G} {K : Nat → ClassId} {b L : Nat} {xs : Nat → Int32} (C : zCL p l s m b L xs meth c A G K) {ad am : Nat → Nat} {i8 c9 s9 : Nat} (KS : ((Nat → Int32) → (Nat → Int64) → (Nat → Nat → Int32) → (Nat → Nat → Int64) → (Nat → Int32) → (Nat → Int64) → (Nat → Nat → Int32) → (Nat → Nat → Int64) → Prop)) (kh : ∀ (I : Nat → Int32) (J : Nat → Int64) (B : Nat → Nat → Int32) (D : Nat → Nat → Int64) (I9 : Nat → Int32) (J9 : Nat → Int64) (B9 : Nat → Nat → Int32) (D9 : Nat → Nat → Int64) (ls : Array Slot) (H : Heap) (locs : List Loc), KS I J B D I9 J9 B9 D9 → lv_has ls 7 [(4, .int (nI i8)), (3, .ref (ad 77)), (2, .ref (am 0)), (1, .ref (ad 0)), (0, .ref b)] → zW G A s.heap (wLS ad am K I J B D I9 J9 B9 D9) H locs → W p l e room_1 s m #[Value.ref b] below meth c H locs (c9 + 1) (s9 + 6) (lw_Z below #[Value.ref b] s) (F0 m 704 ls [])) (hi : i8 + 3 ≤ L) (hL : L ≤ 1536) {a8 b8 : Int32} (h81 : xs (i8 + 1) = a8) (h82 : xs (i8 + 2) = b8) (hrc : c9 + 1 ≤ 601024) (hrs : s9 + 6 ≤ 7293033) : ∀ (I : Nat → Int32) (J : Nat → Int64) (B : Nat → Nat → Int32) (D : Nat → Nat → Int64) (I9 : Nat → Int32) (J9 : Nat → Int64) (B9 : Nat → Nat → Int32) (D9 : Nat → Nat → Int64) (ls : Array Slot) (H : Heap) (locs : List Loc), lc0_S KS a8 b8 I J B D I9 J9 B9 D9 → lv_has ls 7 [(4, .int (nI i8)), (3, .ref (ad 77)), (2, .ref (am 0)), (1, .ref (ad 0)), (0, .ref b)] → zW G A s.heap (wLS ad am K I J B D I9 J9 B9 D9) H locs → W p l e room_1 s m #[Value.ref b] below meth c H locs c9 s9 (lw_Z below #[Value.ref b] s) (F0 m 120 ls []) := by
  intro I J B D I9 J9 B9 D9 ls H locs hok hl hw
  obtain ⟨hx, hb, hr, hml, hts, hown, hlocks, hA, hA9, hbA, hK, hT, hX, hbl, hlt⟩ := id C
  have hrc : c9 + 1 ≤ room_1.cells := hrc
  have hrs : s9 + 6 ≤ room_1.slots := hrs
  unfold lc0_S at hok
  have hl : lv_has ls 7 [(4, .int (nI i8)), (3, .ref (ad 77)), (2, .ref (am 0)), (1, .ref (ad 0)), (0, .ref b)] := hl
  have hw : zW G A s.heap (wLS ad am K I J B D I9 J9 B9 D9) H locs := hw
  refine lv_aload_n hx hb zd_LassoFinderLaw_law_120 rfl (lv_at hl 3 rfl) ?_
  refine lv_aload_n hx hb zd_LassoFinderLaw_law_121 rfl (lv_at hl 4 rfl) ?_
  refine lv_iload hx hb zd_LassoFinderLaw_law_122 (lv_at hl 0 rfl) ?_
  refine lv_iconst (v := 1) hx hb zd_LassoFinderLaw_law_124 (by decide) ?_
  refine lv_iadd hx hb zd_LassoFinderLaw_law_125 ?_
  refine lv_topi (fun z1 ez1 => ?_)
  obtain rfl : z1 = nI (i8 + 1) := ez1.trans (nI_add i8 1)
  refine va_sld hx hb hX hbl hbA hw.2.2 (i := nI (i8 + 1)) (vp_in_nI (by omega) (by omega)) zd_LassoFinderLaw_law_126 ?_
  rw [nI_clamp (show i8 + 1 < 2 ^ 31 by omega), h81]
  refine lv_i2l hx hb zd_LassoFinderLaw_law_127 rfl ?_
  refine lv_topl (fun z2 ez2 => ?_)
  have hok := hok z2 ez2
  refine lv_bipush (v := 32) hx hb zd_LassoFinderLaw_law_128 (by decide) ?_
  refine lv_lshl hx hb zd_LassoFinderLaw_law_130 rfl ?_
  refine lv_topl (fun z3 ez3 => ?_)
  have hok := hok z3 ez3
  refine lv_aload_n hx hb zd_LassoFinderLaw_law_131 rfl (lv_at hl 4 rfl) ?_
  refine lv_iload hx hb zd_LassoFinderLaw_law_132 (lv_at hl 0 rfl) ?_
  refine lv_iconst (v := 2) hx hb zd_LassoFinderLaw_law_134 (by decide) ?_
  refine lv_iadd hx hb zd_LassoFinderLaw_law_135 ?_
  refine lv_topi (fun z4 ez4 => ?_)
  obtain rfl : z4 = nI (i8 + 2) := ez4.trans (nI_add i8 2)
  refine va_sld hx hb hX hbl hbA hw.2.2 (i := nI (i8 + 2)) (vp_in_nI (by omega) (by omega)) zd_LassoFinderLaw_law_136 ?_
  rw [nI_clamp (show i8 + 2 < 2 ^ 31 by omega), h82]
  refine lv_i2l hx hb zd_LassoFinderLaw_law_137 rfl ?_
  refine lv_topl (fun z5 ez5 => ?_)
  have hok := hok z5 ez5
  refine lv_ldc2 (v := 4294967295) hx hb hown (hts _ zq_353) zd_LassoFinderLaw_law_138 ?_
  refine lv_land hx hb zd_LassoFinderLaw_law_141 ?_
  refine lv_topl (fun z6 ez6 => ?_)
  have hok := hok z6 ez6
  refine lv_lor hx hb zd_LassoFinderLaw_law_142 ?_
  refine lv_topl (fun z7 ez7 => ?_)
  have hok := hok z7 ez7
  refine z_calli (w1 := fun (u : zS) => wS ad K u.1 u.2.1 u.2.2.1 u.2.2.2) (wr := ((ad 77, zJ K 1 (D 3)) :: wM am K I9 J9 B9 D9)) (z_runV (q0 := 13) (wc := (wS ad K I J B D)) (As := [.long z7]) (rest := []) ⟨hx, hb, hml, hown, hts⟩ (w_LassoFinder_write_S l G K ad I J B D z7 _ H.size hok) zf_LassoFinder_write zq_354 ⟨(Nat.le_of_ble_eq_true rfl), (Nat.le_of_ble_eq_true rfl)⟩ hK hw (List.range' 1 77) wLS_X wLS_ndX wLS_gx rfl rfl hl.1 rfl (Nat.le_of_ble_eq_true rfl) zd_LassoFinderLaw_law_143 ⟨(by first | omega | (dsimp only; omega)), (by first | omega | (dsimp only; omega))⟩) hw hA (List.range' 1 77) (0 :: List.range' 78 58) wLS_X wLS_R wLS_ndR wLS_disRX (fun r8 u H locs hok hw => ?_)
  obtain ⟨I8, J8, B8, D8⟩ := u
  dsimp only at hok
  have hw := wLS_bX hw
  have hw : zW G A s.heap (wLS ad am K I8 J8 B8 (zmix 3 D8 D) I9 J9 B9 D9) H locs := hw
  refine lv_aload_n hx hb zd_LassoFinderLaw_law_146 rfl (lv_at hl 2 rfl) ?_
  refine lv_aload_n hx hb zd_LassoFinderLaw_law_147 rfl (lv_at hl 4 rfl) ?_
  refine lv_iload hx hb zd_LassoFinderLaw_law_148 (lv_at hl 0 rfl) ?_
  refine lv_iconst (v := 1) hx hb zd_LassoFinderLaw_law_150 (by decide) ?_
  refine lv_iadd hx hb zd_LassoFinderLaw_law_151 ?_
  refine lv_topi (fun z9 ez9 => ?_)
  obtain rfl : z9 = nI (i8 + 1) := ez9.trans (nI_add i8 1)
  refine va_sld hx hb hX hbl hbA hw.2.2 (i := nI (i8 + 1)) (vp_in_nI (by omega) (by omega)) zd_LassoFinderLaw_law_152 ?_
  rw [nI_clamp (show i8 + 1 < 2 ^ 31 by omega), h81]
  refine lv_i2l hx hb zd_LassoFinderLaw_law_153 rfl ?_
  refine lv_topl (fun z10 ez10 => ?_)
  have hok := hok z10 ez10
  refine lv_bipush (v := 32) hx hb zd_LassoFinderLaw_law_154 (by decide) ?_
  refine lv_lshl hx hb zd_LassoFinderLaw_law_156 rfl ?_
  refine lv_topl (fun z11 ez11 => ?_)
  have hok := hok z11 ez11
  refine lv_aload_n hx hb zd_LassoFinderLaw_law_157 rfl (lv_at hl 4 rfl) ?_
  refine lv_iload hx hb zd_LassoFinderLaw_law_158 (lv_at hl 0 rfl) ?_
  refine lv_iconst (v := 2) hx hb zd_LassoFinderLaw_law_160 (by decide) ?_
  refine lv_iadd hx hb zd_LassoFinderLaw_law_161 ?_
  refine lv_topi (fun z12 ez12 => ?_)
  obtain rfl : z12 = nI (i8 + 2) := ez12.trans (nI_add i8 2)
  refine va_sld hx hb hX hbl hbA hw.2.2 (i := nI (i8 + 2)) (vp_in_nI (by omega) (by omega)) zd_LassoFinderLaw_law_162 ?_
  rw [nI_clamp (show i8 + 2 < 2 ^ 31 by omega), h82]
  refine lv_i2l hx hb zd_LassoFinderLaw_law_163 rfl ?_
  refine lv_topl (fun z13 ez13 => ?_)
  have hok := hok z13 ez13
  refine lv_ldc2 (v := 4294967295) hx hb hown (hts _ zq_353) zd_LassoFinderLaw_law_164 ?_
  refine lv_land hx hb zd_LassoFinderLaw_law_167 ?_
  refine lv_topl (fun z14 ez14 => ?_)
  have hok := hok z14 ez14
  refine lv_lor hx hb zd_LassoFinderLaw_law_168 ?_
  refine lv_topl (fun z15 ez15 => ?_)
  have hok := hok z15 ez15
  refine z_calli (w1 := fun (u : zS) => wM am K u.1 u.2.1 u.2.2.1 u.2.2.2) (wr := (wPS ad K I8 J8 B8 (zmix 3 D8 D))) (z_runV (q0 := 78) (wc := (wM am K I9 J9 B9 D9)) (As := [.long z15]) (rest := [.int r8]) ⟨hx, hb, hml, hown, hts⟩ (w_LassoFinderModel_write l G K am I9 J9 B9 D9 z15 _ H.size hok) zf_LassoFinderModel_write zq_355 ⟨(Nat.le_of_ble_eq_true rfl), (Nat.le_of_ble_eq_true rfl)⟩ hK hw (List.range' 78 58) wLS_M wLS_ndM wLS_gm rfl rfl hl.1 rfl (Nat.le_of_ble_eq_true rfl) zd_LassoFinderLaw_law_169 ⟨(by first | omega | (dsimp only; omega)), (by first | omega | (dsimp only; omega))⟩) hw hA (List.range' 78 58) (List.range 78) wLS_M wLS_P wLS_ndP wLS_disPM (fun r16 u H locs hok hw => ?_)
  obtain ⟨I16, J16, B16, D16⟩ := u
  dsimp only at hok
  have hw := wLS_bM hw
  have hw : zW G A s.heap (wLS ad am K I8 J8 B8 (zmix 3 D8 D) I16 J16 B16 D16) H locs := hw
  refine lv_icmp_eq (tgt := 704) hx hb zd_LassoFinderLaw_law_172 (by decide) (fun hc17 => ?_) (fun hc17 => ?_)
  · have hok := hok.1 hc17
    refine W.widen (k := c9 + 1) (n := s9 + 6) (by first | omega | (dsimp only; omega)) (by first | omega | (dsimp only; omega)) ?_
    exact kh I8 J8 B8 (zmix 3 D8 D) I16 J16 B16 D16 ls H locs hok (lv_sub hl [0, 1, 2, 3, 4] rfl) hw
  · have hok := hok.2 hc17
    exact hok.elim
set_option maxHeartbeats 8000000 in
set_option maxRecDepth 100000 in
theorem zc1_S {p : Program} {l : Launch} {e : Env} {s : State} {m : MethodId} {below : List Frame} {meth : Method} {c : Code} {A : Nat → Prop} {G : va_G} {K : Nat → ClassId} {b L : Nat} {xs : Nat → Int32} (C : zCL p l s m b L xs meth c A G K) {ad am : Nat → Nat} {i8 c9 s9 : Nat} (KS : ((Nat → Int32) → (Nat → Int64) → (Nat → Nat → Int32) → (Nat → Nat → Int64) → (Nat → Int32) → (Nat → Int64) → (Nat → Nat → Int32) → (Nat → Nat → Int64) → Prop)) (kh : ∀ (I : Nat → Int32) (J : Nat → Int64) (B : Nat → Nat → Int32) (D : Nat → Nat → Int64) (I9 : Nat → Int32) (J9 : Nat → Int64) (B9 : Nat → Nat → Int32) (D9 : Nat → Nat → Int64) (ls : Array Slot) (H : Heap) (locs : List Loc), KS I J B D I9 J9 B9 D9 → lv_has ls 7 [(4, .int (nI i8)), (3, .ref (ad 77)), (2, .ref (am 0)), (1, .ref (ad 0)), (0, .ref b)] → zW G A s.heap (wLS ad am K I J B D I9 J9 B9 D9) H locs → W p l e room_1 s m #[Value.ref b] below meth c H locs (c9 + 1) (s9 + 6) (lw_Z below #[Value.ref b] s) (F0 m 704 ls [])) (hi : i8 + 3 ≤ L) (hL : L ≤ 1536) {a8 b8 : Int32} (h81 : xs (i8 + 1) = a8) (h82 : xs (i8 + 2) = b8) (hrc : c9 + 1 ≤ 601024) (hrs : s9 + 6 ≤ 7293033) : ∀ (I : Nat → Int32) (J : Nat → Int64) (B : Nat → Nat → Int32) (D : Nat → Nat → Int64) (I9 : Nat → Int32) (J9 : Nat → Int64) (B9 : Nat → Nat → Int32) (D9 : Nat → Nat → Int64) (ls : Array Slot) (H : Heap) (locs : List Loc), lc1_S KS a8 b8 I J B D I9 J9 B9 D9 → lv_has ls 7 [(4, .int (nI i8)), (3, .ref (ad 77)), (2, .ref (am 0)), (1, .ref (ad 0)), (0, .ref b)] → zW G A s.heap (wLS ad am K I J B D I9 J9 B9 D9) H locs → W p l e room_1 s m #[Value.ref b] below meth c H locs c9 s9 (lw_Z below #[Value.ref b] s) (F0 m 177 ls []) := by
  intro I J B D I9 J9 B9 D9 ls H locs hok hl hw
  obtain ⟨hx, hb, hr, hml, hts, hown, hlocks, hA, hA9, hbA, hK, hT, hX, hbl, hlt⟩ := id C
  have hrc : c9 + 1 ≤ room_1.cells := hrc
  have hrs : s9 + 6 ≤ room_1.slots := hrs
  unfold lc1_S at hok
  have hl : lv_has ls 7 [(4, .int (nI i8)), (3, .ref (ad 77)), (2, .ref (am 0)), (1, .ref (ad 0)), (0, .ref b)] := hl
  have hw : zW G A s.heap (wLS ad am K I J B D I9 J9 B9 D9) H locs := hw
  refine lv_aload_n hx hb zd_LassoFinderLaw_law_177 rfl (lv_at hl 3 rfl) ?_
  refine lv_aload_n hx hb zd_LassoFinderLaw_law_178 rfl (lv_at hl 1 rfl) ?_
  refine z_calli (w1 := fun (u : zS) => wPS ad K u.1 u.2.1 u.2.2.1 u.2.2.2) (wr := (wM am K I9 J9 B9 D9)) (z_runSWY (wc := (wPS ad K I J B D)) (As := [.ref (ad 0), .ref (ad 77)]) (rest := []) ⟨hx, hb, hml, hown, hts⟩ (w_L_model_S l hlt G K ad I J B D  _ H.size hok) zf_LassoFinderLaw_model zq_356 ⟨(Nat.le_of_ble_eq_true rfl), (Nat.le_of_ble_eq_true rfl)⟩ hK hT hw hA (List.range 78) wLS_P wLS_ndP rfl hl.1 rfl (Nat.le_of_ble_eq_true rfl) zd_LassoFinderLaw_law_179 ⟨(by first | omega | (dsimp only; omega)), (by first | omega | (dsimp only; omega))⟩) hw hA (List.range 78) (List.range' 78 58) wLS_P wLS_M wLS_ndM wLS_disMP (fun r1 u H locs hok hw => ?_)
  obtain ⟨I1, J1, B1, D1⟩ := u
  dsimp only at hok
  have hw := wLS_bP hw
  have hw : zW G A s.heap (wLS ad am K I1 J1 B1 D1 I9 J9 B9 D9) H locs := hw
  refine lv_istore hx hb zd_LassoFinderLaw_law_182 hl (by decide) rfl (fun ls hl => ?_)
  have hl : lv_has ls 7 [(5, .int r1), (4, .int (nI i8)), (3, .ref (ad 77)), (2, .ref (am 0)), (1, .ref (ad 0)), (0, .ref b)] := hl
  refine lv_aload_n hx hb zd_LassoFinderLaw_law_184 rfl (lv_at hl 3 rfl) ?_
  refine z_calli (w1 := fun (u : zS) => wM am K u.1 u.2.1 u.2.2.1 u.2.2.2) (wr := (wPS ad K I1 J1 B1 D1)) (z_runV (q0 := 78) (wc := (wM am K I9 J9 B9 D9)) (As := []) (rest := []) ⟨hx, hb, hml, hown, hts⟩ (w_LassoFinderModel_model l G K am I9 J9 B9 D9  _ H.size hok) zf_LassoFinderModel_model zq_357 ⟨(Nat.le_of_ble_eq_true rfl), (Nat.le_of_ble_eq_true rfl)⟩ hK hw (List.range' 78 58) wLS_M wLS_ndM wLS_gm rfl rfl hl.1 rfl (Nat.le_of_ble_eq_true rfl) zd_LassoFinderLaw_law_185 ⟨(by first | omega | (dsimp only; omega)), (by first | omega | (dsimp only; omega))⟩) hw hA (List.range' 78 58) (List.range 78) wLS_M wLS_P wLS_ndP wLS_disPM (fun r2 u H locs hok hw => ?_)
  obtain ⟨I2, J2, B2, D2⟩ := u
  dsimp only at hok
  have hw := wLS_bM hw
  have hw : zW G A s.heap (wLS ad am K I1 J1 B1 D1 I2 J2 B2 D2) H locs := hw
  refine lv_istore hx hb zd_LassoFinderLaw_law_188 hl (by decide) rfl (fun ls hl => ?_)
  have hl : lv_has ls 7 [(6, .int r2), (5, .int r1), (4, .int (nI i8)), (3, .ref (ad 77)), (2, .ref (am 0)), (1, .ref (ad 0)), (0, .ref b)] := hl
  refine lv_aload_n hx hb zd_LassoFinderLaw_law_190 rfl (lv_at hl 4 rfl) ?_
  refine z_calli (w1 := fun (u : zS) => wM am K u.1 u.2.1 u.2.2.1 u.2.2.2) (wr := (wPS ad K I1 J1 B1 D1)) (z_runV (q0 := 78) (wc := (wM am K I2 J2 B2 D2)) (As := []) (rest := []) ⟨hx, hb, hml, hown, hts⟩ (w_LassoFinderModel_thrown l G K am I2 J2 B2 D2  _ H.size hok) zf_LassoFinderModel_thrown zq_358 ⟨(Nat.le_of_ble_eq_true rfl), (Nat.le_of_ble_eq_true rfl)⟩ hK hw (List.range' 78 58) wLS_M wLS_ndM wLS_gm rfl rfl hl.1 rfl (Nat.le_of_ble_eq_true rfl) zd_LassoFinderLaw_law_191 ⟨(by first | omega | (dsimp only; omega)), (by first | omega | (dsimp only; omega))⟩) hw hA (List.range' 78 58) (List.range 78) wLS_M wLS_P wLS_ndP wLS_disPM (fun r3 u H locs hok hw => ?_)
  obtain ⟨I3, J3, B3, D3⟩ := u
  dsimp only at hok
  have hw := wLS_bM hw
  have hw : zW G A s.heap (wLS ad am K I1 J1 B1 D1 I3 J3 B3 D3) H locs := hw
  refine lv_iload hx hb zd_LassoFinderLaw_law_194 (lv_at hl 1 rfl) ?_
  refine lv_icmp_eq (tgt := 201) hx hb zd_LassoFinderLaw_law_196 (by decide) (fun hc4 => ?_) (fun hc4 => ?_)
  · have hok := hok.1 hc4
    refine lv_iload hx hb zd_LassoFinderLaw_law_201 (lv_at hl 1 rfl) ?_
    refine lv_if_ne (tgt := 218) hx hb zd_LassoFinderLaw_law_203 (by decide) (fun hc5 => ?_) (fun hc5 => ?_)
    · have hok := hok.1 hc5
      refine lv_goto (tgt := 704) hx hb zd_LassoFinderLaw_law_218 (by decide) ?_
      refine W.widen (k := c9 + 1) (n := s9 + 6) (by first | omega | (dsimp only; omega)) (by first | omega | (dsimp only; omega)) ?_
      exact kh I1 J1 B1 D1 I3 J3 B3 D3 ls H locs hok (lv_sub hl [2, 3, 4, 5, 6] rfl) hw
    · have hok := hok.2 hc5
      refine lv_aload_n hx hb zd_LassoFinderLaw_law_206 rfl (lv_at hl 3 rfl) ?_
      refine lv_iconst (v := 0) hx hb zd_LassoFinderLaw_law_207 (by decide) ?_
      refine va_lald (f := D1 3) hx hb hK hw.1 0 1 wLS_a0 rfl z_in0 zd_LassoFinderLaw_law_208 ?_
      refine lv_topl (fun z6 ez6 => ?_)
      have hok := hok z6 ez6
      refine lv_iload hx hb zd_LassoFinderLaw_law_209 (lv_at hl 0 rfl) ?_
      refine lv_i2l hx hb zd_LassoFinderLaw_law_211 rfl ?_
      refine lv_topl (fun z7 ez7 => ?_)
      have hok := hok z7 ez7
      refine W.lcmp hx hb zd_LassoFinderLaw_law_212 ?_
      refine lv_topi (fun z8 ez8 => ?_)
      have hok := hok z8 ez8
      refine lv_if_eq (tgt := 218) hx hb zd_LassoFinderLaw_law_213 (by decide) (fun hc9 => ?_) (fun hc9 => ?_)
      · have hok := hok.1 hc9
        refine lv_goto (tgt := 704) hx hb zd_LassoFinderLaw_law_218 (by decide) ?_
        refine W.widen (k := c9 + 1) (n := s9 + 6) (by first | omega | (dsimp only; omega)) (by first | omega | (dsimp only; omega)) ?_
        exact kh I1 J1 B1 D1 I3 J3 B3 D3 ls H locs hok (lv_sub hl [2, 3, 4, 5, 6] rfl) hw
      · have hok := hok.2 hc9
        exact hok.elim
  · have hok := hok.2 hc4
    exact hok.elim
set_option maxHeartbeats 8000000 in
set_option maxRecDepth 100000 in
theorem zc2_S {p : Program} {l : Launch} {e : Env} {s : State} {m : MethodId} {below : List Frame} {meth : Method} {c : Code} {A : Nat → Prop} {G : va_G} {K : Nat → ClassId} {b L : Nat} {xs : Nat → Int32} (C : zCL p l s m b L xs meth c A G K) {ad am : Nat → Nat} {i8 c9 s9 : Nat} (KS : ((Nat → Int32) → (Nat → Int64) → (Nat → Nat → Int32) → (Nat → Nat → Int64) → (Nat → Int32) → (Nat → Int64) → (Nat → Nat → Int32) → (Nat → Nat → Int64) → Prop)) (kh : ∀ (I : Nat → Int32) (J : Nat → Int64) (B : Nat → Nat → Int32) (D : Nat → Nat → Int64) (I9 : Nat → Int32) (J9 : Nat → Int64) (B9 : Nat → Nat → Int32) (D9 : Nat → Nat → Int64) (ls : Array Slot) (H : Heap) (locs : List Loc), KS I J B D I9 J9 B9 D9 → lv_has ls 7 [(4, .int (nI i8)), (3, .ref (ad 77)), (2, .ref (am 0)), (1, .ref (ad 0)), (0, .ref b)] → zW G A s.heap (wLS ad am K I J B D I9 J9 B9 D9) H locs → W p l e room_1 s m #[Value.ref b] below meth c H locs (c9 + 1) (s9 + 6) (lw_Z below #[Value.ref b] s) (F0 m 704 ls [])) (hi : i8 + 3 ≤ L) (hL : L ≤ 1536) {a8 b8 : Int32} (h81 : xs (i8 + 1) = a8) (h82 : xs (i8 + 2) = b8) (hrc : c9 + 1 ≤ 601024) (hrs : s9 + 6 ≤ 7293033) : ∀ (I : Nat → Int32) (J : Nat → Int64) (B : Nat → Nat → Int32) (D : Nat → Nat → Int64) (I9 : Nat → Int32) (J9 : Nat → Int64) (B9 : Nat → Nat → Int32) (D9 : Nat → Nat → Int64) (ls : Array Slot) (H : Heap) (locs : List Loc), lc2_S KS a8 b8 I J B D I9 J9 B9 D9 → lv_has ls 7 [(4, .int (nI i8)), (3, .ref (ad 77)), (2, .ref (am 0)), (1, .ref (ad 0)), (0, .ref b)] → zW G A s.heap (wLS ad am K I J B D I9 J9 B9 D9) H locs → W p l e room_1 s m #[Value.ref b] below meth c H locs c9 s9 (lw_Z below #[Value.ref b] s) (F0 m 221 ls []) := by
  intro I J B D I9 J9 B9 D9 ls H locs hok hl hw
  obtain ⟨hx, hb, hr, hml, hts, hown, hlocks, hA, hA9, hbA, hK, hT, hX, hbl, hlt⟩ := id C
  have hrc : c9 + 1 ≤ room_1.cells := hrc
  have hrs : s9 + 6 ≤ room_1.slots := hrs
  unfold lc2_S at hok
  have hl : lv_has ls 7 [(4, .int (nI i8)), (3, .ref (ad 77)), (2, .ref (am 0)), (1, .ref (ad 0)), (0, .ref b)] := hl
  have hw : zW G A s.heap (wLS ad am K I J B D I9 J9 B9 D9) H locs := hw
  refine lv_aload_n hx hb zd_LassoFinderLaw_law_221 rfl (lv_at hl 3 rfl) ?_
  refine lv_aload_n hx hb zd_LassoFinderLaw_law_222 rfl (lv_at hl 1 rfl) ?_
  refine z_calli (w1 := fun (u : zS) => wPS ad K u.1 u.2.1 u.2.2.1 u.2.2.2) (wr := (wM am K I9 J9 B9 D9)) (z_runSWY (wc := (wPS ad K I J B D)) (As := [.ref (ad 0), .ref (ad 77)]) (rest := []) ⟨hx, hb, hml, hown, hts⟩ (w_L_formula_S l hlt G K ad I J B D  _ H.size hok) zf_LassoFinderLaw_formula zq_359 ⟨(Nat.le_of_ble_eq_true rfl), (Nat.le_of_ble_eq_true rfl)⟩ hK hT hw hA (List.range 78) wLS_P wLS_ndP rfl hl.1 rfl (Nat.le_of_ble_eq_true rfl) zd_LassoFinderLaw_law_223 ⟨(by first | omega | (dsimp only; omega)), (by first | omega | (dsimp only; omega))⟩) hw hA (List.range 78) (List.range' 78 58) wLS_P wLS_M wLS_ndM wLS_disMP (fun r1 u H locs hok hw => ?_)
  obtain ⟨I1, J1, B1, D1⟩ := u
  dsimp only at hok
  have hw := wLS_bP hw
  have hw : zW G A s.heap (wLS ad am K I1 J1 B1 D1 I9 J9 B9 D9) H locs := hw
  refine lv_istore hx hb zd_LassoFinderLaw_law_226 hl (by decide) rfl (fun ls hl => ?_)
  have hl : lv_has ls 7 [(5, .int r1), (4, .int (nI i8)), (3, .ref (ad 77)), (2, .ref (am 0)), (1, .ref (ad 0)), (0, .ref b)] := hl
  refine lv_aload_n hx hb zd_LassoFinderLaw_law_228 rfl (lv_at hl 3 rfl) ?_
  refine z_calli (w1 := fun (u : zS) => wM am K u.1 u.2.1 u.2.2.1 u.2.2.2) (wr := (wPS ad K I1 J1 B1 D1)) (z_runV (q0 := 78) (wc := (wM am K I9 J9 B9 D9)) (As := []) (rest := []) ⟨hx, hb, hml, hown, hts⟩ (w_LassoFinderModel_formula l G K am I9 J9 B9 D9  _ H.size hok) zf_LassoFinderModel_formula zq_360 ⟨(Nat.le_of_ble_eq_true rfl), (Nat.le_of_ble_eq_true rfl)⟩ hK hw (List.range' 78 58) wLS_M wLS_ndM wLS_gm rfl rfl hl.1 rfl (Nat.le_of_ble_eq_true rfl) zd_LassoFinderLaw_law_229 ⟨(by first | omega | (dsimp only; omega)), (by first | omega | (dsimp only; omega))⟩) hw hA (List.range' 78 58) (List.range 78) wLS_M wLS_P wLS_ndP wLS_disPM (fun r2 u H locs hok hw => ?_)
  obtain ⟨I2, J2, B2, D2⟩ := u
  dsimp only at hok
  have hw := wLS_bM hw
  have hw : zW G A s.heap (wLS ad am K I1 J1 B1 D1 I2 J2 B2 D2) H locs := hw
  refine lv_istore hx hb zd_LassoFinderLaw_law_232 hl (by decide) rfl (fun ls hl => ?_)
  have hl : lv_has ls 7 [(6, .int r2), (5, .int r1), (4, .int (nI i8)), (3, .ref (ad 77)), (2, .ref (am 0)), (1, .ref (ad 0)), (0, .ref b)] := hl
  refine lv_aload_n hx hb zd_LassoFinderLaw_law_234 rfl (lv_at hl 4 rfl) ?_
  refine z_calli (w1 := fun (u : zS) => wM am K u.1 u.2.1 u.2.2.1 u.2.2.2) (wr := (wPS ad K I1 J1 B1 D1)) (z_runV (q0 := 78) (wc := (wM am K I2 J2 B2 D2)) (As := []) (rest := []) ⟨hx, hb, hml, hown, hts⟩ (w_LassoFinderModel_thrown l G K am I2 J2 B2 D2  _ H.size hok) zf_LassoFinderModel_thrown zq_358 ⟨(Nat.le_of_ble_eq_true rfl), (Nat.le_of_ble_eq_true rfl)⟩ hK hw (List.range' 78 58) wLS_M wLS_ndM wLS_gm rfl rfl hl.1 rfl (Nat.le_of_ble_eq_true rfl) zd_LassoFinderLaw_law_235 ⟨(by first | omega | (dsimp only; omega)), (by first | omega | (dsimp only; omega))⟩) hw hA (List.range' 78 58) (List.range 78) wLS_M wLS_P wLS_ndP wLS_disPM (fun r3 u H locs hok hw => ?_)
  obtain ⟨I3, J3, B3, D3⟩ := u
  dsimp only at hok
  have hw := wLS_bM hw
  have hw : zW G A s.heap (wLS ad am K I1 J1 B1 D1 I3 J3 B3 D3) H locs := hw
  refine lv_iload hx hb zd_LassoFinderLaw_law_238 (lv_at hl 1 rfl) ?_
  refine lv_icmp_eq (tgt := 245) hx hb zd_LassoFinderLaw_law_240 (by decide) (fun hc4 => ?_) (fun hc4 => ?_)
  · have hok := hok.1 hc4
    refine lv_iload hx hb zd_LassoFinderLaw_law_245 (lv_at hl 1 rfl) ?_
    refine lv_if_ne (tgt := 262) hx hb zd_LassoFinderLaw_law_247 (by decide) (fun hc5 => ?_) (fun hc5 => ?_)
    · have hok := hok.1 hc5
      refine lv_goto (tgt := 704) hx hb zd_LassoFinderLaw_law_262 (by decide) ?_
      refine W.widen (k := c9 + 1) (n := s9 + 6) (by first | omega | (dsimp only; omega)) (by first | omega | (dsimp only; omega)) ?_
      exact kh I1 J1 B1 D1 I3 J3 B3 D3 ls H locs hok (lv_sub hl [2, 3, 4, 5, 6] rfl) hw
    · have hok := hok.2 hc5
      refine lv_aload_n hx hb zd_LassoFinderLaw_law_250 rfl (lv_at hl 3 rfl) ?_
      refine lv_iconst (v := 0) hx hb zd_LassoFinderLaw_law_251 (by decide) ?_
      refine va_lald (f := D1 3) hx hb hK hw.1 0 1 wLS_a0 rfl z_in0 zd_LassoFinderLaw_law_252 ?_
      refine lv_topl (fun z6 ez6 => ?_)
      have hok := hok z6 ez6
      refine lv_iload hx hb zd_LassoFinderLaw_law_253 (lv_at hl 0 rfl) ?_
      refine lv_i2l hx hb zd_LassoFinderLaw_law_255 rfl ?_
      refine lv_topl (fun z7 ez7 => ?_)
      have hok := hok z7 ez7
      refine W.lcmp hx hb zd_LassoFinderLaw_law_256 ?_
      refine lv_topi (fun z8 ez8 => ?_)
      have hok := hok z8 ez8
      refine lv_if_eq (tgt := 262) hx hb zd_LassoFinderLaw_law_257 (by decide) (fun hc9 => ?_) (fun hc9 => ?_)
      · have hok := hok.1 hc9
        refine lv_goto (tgt := 704) hx hb zd_LassoFinderLaw_law_262 (by decide) ?_
        refine W.widen (k := c9 + 1) (n := s9 + 6) (by first | omega | (dsimp only; omega)) (by first | omega | (dsimp only; omega)) ?_
        exact kh I1 J1 B1 D1 I3 J3 B3 D3 ls H locs hok (lv_sub hl [2, 3, 4, 5, 6] rfl) hw
      · have hok := hok.2 hc9
        exact hok.elim
  · have hok := hok.2 hc4
    exact hok.elim
set_option maxHeartbeats 8000000 in
set_option maxRecDepth 100000 in
theorem zc3_S {p : Program} {l : Launch} {e : Env} {s : State} {m : MethodId} {below : List Frame} {meth : Method} {c : Code} {A : Nat → Prop} {G : va_G} {K : Nat → ClassId} {b L : Nat} {xs : Nat → Int32} (C : zCL p l s m b L xs meth c A G K) {ad am : Nat → Nat} {i8 c9 s9 : Nat} (KS : ((Nat → Int32) → (Nat → Int64) → (Nat → Nat → Int32) → (Nat → Nat → Int64) → (Nat → Int32) → (Nat → Int64) → (Nat → Nat → Int32) → (Nat → Nat → Int64) → Prop)) (kh : ∀ (I : Nat → Int32) (J : Nat → Int64) (B : Nat → Nat → Int32) (D : Nat → Nat → Int64) (I9 : Nat → Int32) (J9 : Nat → Int64) (B9 : Nat → Nat → Int32) (D9 : Nat → Nat → Int64) (ls : Array Slot) (H : Heap) (locs : List Loc), KS I J B D I9 J9 B9 D9 → lv_has ls 7 [(4, .int (nI i8)), (3, .ref (ad 77)), (2, .ref (am 0)), (1, .ref (ad 0)), (0, .ref b)] → zW G A s.heap (wLS ad am K I J B D I9 J9 B9 D9) H locs → W p l e room_1 s m #[Value.ref b] below meth c H locs (c9 + 1) (s9 + 6) (lw_Z below #[Value.ref b] s) (F0 m 704 ls [])) (hi : i8 + 3 ≤ L) (hL : L ≤ 1536) {a8 b8 : Int32} (h81 : xs (i8 + 1) = a8) (h82 : xs (i8 + 2) = b8) (hrc : c9 + 1 ≤ 601024) (hrs : s9 + 6 ≤ 7293033) : ∀ (I : Nat → Int32) (J : Nat → Int64) (B : Nat → Nat → Int32) (D : Nat → Nat → Int64) (I9 : Nat → Int32) (J9 : Nat → Int64) (B9 : Nat → Nat → Int32) (D9 : Nat → Nat → Int64) (ls : Array Slot) (H : Heap) (locs : List Loc), lc3_S KS a8 b8 I J B D I9 J9 B9 D9 → lv_has ls 7 [(4, .int (nI i8)), (3, .ref (ad 77)), (2, .ref (am 0)), (1, .ref (ad 0)), (0, .ref b)] → zW G A s.heap (wLS ad am K I J B D I9 J9 B9 D9) H locs → W p l e room_1 s m #[Value.ref b] below meth c H locs c9 s9 (lw_Z below #[Value.ref b] s) (F0 m 265 ls []) := by
  intro I J B D I9 J9 B9 D9 ls H locs hok hl hw
  obtain ⟨hx, hb, hr, hml, hts, hown, hlocks, hA, hA9, hbA, hK, hT, hX, hbl, hlt⟩ := id C
  have hrc : c9 + 1 ≤ room_1.cells := hrc
  have hrs : s9 + 6 ≤ room_1.slots := hrs
  unfold lc3_S at hok
  have hl : lv_has ls 7 [(4, .int (nI i8)), (3, .ref (ad 77)), (2, .ref (am 0)), (1, .ref (ad 0)), (0, .ref b)] := hl
  have hw : zW G A s.heap (wLS ad am K I J B D I9 J9 B9 D9) H locs := hw
  refine lv_aload_n hx hb zd_LassoFinderLaw_law_265 rfl (lv_at hl 3 rfl) ?_
  refine z_calli (w1 := fun (u : zS) => wS ad K u.1 u.2.1 u.2.2.1 u.2.2.2) (wr := ((ad 77, zJ K 1 (D 3)) :: wM am K I9 J9 B9 D9)) (z_runV (q0 := 13) (wc := (wS ad K I J B D)) (As := []) (rest := []) ⟨hx, hb, hml, hown, hts⟩ (w_LassoFinder_place_S l G K ad I J B D  _ H.size hok) zf_LassoFinder_place zq_361 ⟨(Nat.le_of_ble_eq_true rfl), (Nat.le_of_ble_eq_true rfl)⟩ hK hw (List.range' 1 77) wLS_X wLS_ndX wLS_gx rfl rfl hl.1 rfl (Nat.le_of_ble_eq_true rfl) zd_LassoFinderLaw_law_266 ⟨(by first | omega | (dsimp only; omega)), (by first | omega | (dsimp only; omega))⟩) hw hA (List.range' 1 77) (0 :: List.range' 78 58) wLS_X wLS_R wLS_ndR wLS_disRX (fun r1 u H locs hok hw => ?_)
  obtain ⟨I1, J1, B1, D1⟩ := u
  dsimp only at hok
  have hw := wLS_bX hw
  have hw : zW G A s.heap (wLS ad am K I1 J1 B1 (zmix 3 D1 D) I9 J9 B9 D9) H locs := hw
  refine lv_aload_n hx hb zd_LassoFinderLaw_law_269 rfl (lv_at hl 2 rfl) ?_
  refine z_calli (w1 := fun (u : zS) => wM am K u.1 u.2.1 u.2.2.1 u.2.2.2) (wr := (wPS ad K I1 J1 B1 (zmix 3 D1 D))) (z_runV (q0 := 78) (wc := (wM am K I9 J9 B9 D9)) (As := []) (rest := [.int r1]) ⟨hx, hb, hml, hown, hts⟩ (w_LassoFinderModel_place l G K am I9 J9 B9 D9  _ H.size hok) zf_LassoFinderModel_place zq_362 ⟨(Nat.le_of_ble_eq_true rfl), (Nat.le_of_ble_eq_true rfl)⟩ hK hw (List.range' 78 58) wLS_M wLS_ndM wLS_gm rfl rfl hl.1 rfl (Nat.le_of_ble_eq_true rfl) zd_LassoFinderLaw_law_270 ⟨(by first | omega | (dsimp only; omega)), (by first | omega | (dsimp only; omega))⟩) hw hA (List.range' 78 58) (List.range 78) wLS_M wLS_P wLS_ndP wLS_disPM (fun r2 u H locs hok hw => ?_)
  obtain ⟨I2, J2, B2, D2⟩ := u
  dsimp only at hok
  have hw := wLS_bM hw
  have hw : zW G A s.heap (wLS ad am K I1 J1 B1 (zmix 3 D1 D) I2 J2 B2 D2) H locs := hw
  refine lv_icmp_eq (tgt := 704) hx hb zd_LassoFinderLaw_law_273 (by decide) (fun hc3 => ?_) (fun hc3 => ?_)
  · have hok := hok.1 hc3
    refine W.widen (k := c9 + 1) (n := s9 + 6) (by first | omega | (dsimp only; omega)) (by first | omega | (dsimp only; omega)) ?_
    exact kh I1 J1 B1 (zmix 3 D1 D) I2 J2 B2 D2 ls H locs hok (lv_sub hl [0, 1, 2, 3, 4] rfl) hw
  · have hok := hok.2 hc3
    exact hok.elim
set_option maxHeartbeats 8000000 in
set_option maxRecDepth 100000 in
theorem zc4_S {p : Program} {l : Launch} {e : Env} {s : State} {m : MethodId} {below : List Frame} {meth : Method} {c : Code} {A : Nat → Prop} {G : va_G} {K : Nat → ClassId} {b L : Nat} {xs : Nat → Int32} (C : zCL p l s m b L xs meth c A G K) {ad am : Nat → Nat} {i8 c9 s9 : Nat} (KS : ((Nat → Int32) → (Nat → Int64) → (Nat → Nat → Int32) → (Nat → Nat → Int64) → (Nat → Int32) → (Nat → Int64) → (Nat → Nat → Int32) → (Nat → Nat → Int64) → Prop)) (kh : ∀ (I : Nat → Int32) (J : Nat → Int64) (B : Nat → Nat → Int32) (D : Nat → Nat → Int64) (I9 : Nat → Int32) (J9 : Nat → Int64) (B9 : Nat → Nat → Int32) (D9 : Nat → Nat → Int64) (ls : Array Slot) (H : Heap) (locs : List Loc), KS I J B D I9 J9 B9 D9 → lv_has ls 7 [(4, .int (nI i8)), (3, .ref (ad 77)), (2, .ref (am 0)), (1, .ref (ad 0)), (0, .ref b)] → zW G A s.heap (wLS ad am K I J B D I9 J9 B9 D9) H locs → W p l e room_1 s m #[Value.ref b] below meth c H locs (c9 + 1) (s9 + 6) (lw_Z below #[Value.ref b] s) (F0 m 704 ls [])) (hi : i8 + 3 ≤ L) (hL : L ≤ 1536) {a8 b8 : Int32} (h81 : xs (i8 + 1) = a8) (h82 : xs (i8 + 2) = b8) (hrc : c9 + 1 ≤ 601024) (hrs : s9 + 6 ≤ 7293033) : ∀ (I : Nat → Int32) (J : Nat → Int64) (B : Nat → Nat → Int32) (D : Nat → Nat → Int64) (I9 : Nat → Int32) (J9 : Nat → Int64) (B9 : Nat → Nat → Int32) (D9 : Nat → Nat → Int64) (ls : Array Slot) (H : Heap) (locs : List Loc), lc4_S KS a8 b8 I J B D I9 J9 B9 D9 → lv_has ls 7 [(4, .int (nI i8)), (3, .ref (ad 77)), (2, .ref (am 0)), (1, .ref (ad 0)), (0, .ref b)] → zW G A s.heap (wLS ad am K I J B D I9 J9 B9 D9) H locs → W p l e room_1 s m #[Value.ref b] below meth c H locs c9 s9 (lw_Z below #[Value.ref b] s) (F0 m 278 ls []) := by
  intro I J B D I9 J9 B9 D9 ls H locs hok hl hw
  obtain ⟨hx, hb, hr, hml, hts, hown, hlocks, hA, hA9, hbA, hK, hT, hX, hbl, hlt⟩ := id C
  have hrc : c9 + 1 ≤ room_1.cells := hrc
  have hrs : s9 + 6 ≤ room_1.slots := hrs
  unfold lc4_S at hok
  have hl : lv_has ls 7 [(4, .int (nI i8)), (3, .ref (ad 77)), (2, .ref (am 0)), (1, .ref (ad 0)), (0, .ref b)] := hl
  have hw : zW G A s.heap (wLS ad am K I J B D I9 J9 B9 D9) H locs := hw
  refine lv_aload_n hx hb zd_LassoFinderLaw_law_278 rfl (lv_at hl 3 rfl) ?_
  refine lv_aload_n hx hb zd_LassoFinderLaw_law_279 rfl (lv_at hl 1 rfl) ?_
  refine z_calli (w1 := fun (u : zS) => wPS ad K u.1 u.2.1 u.2.2.1 u.2.2.2) (wr := (wM am K I9 J9 B9 D9)) (z_runSWY (wc := (wPS ad K I J B D)) (As := [.ref (ad 0), .ref (ad 77)]) (rest := []) ⟨hx, hb, hml, hown, hts⟩ (w_L_verify_S l hlt G K ad I J B D  _ H.size hok) zf_LassoFinderLaw_verify zq_363 ⟨(Nat.le_of_ble_eq_true rfl), (Nat.le_of_ble_eq_true rfl)⟩ hK hT hw hA (List.range 78) wLS_P wLS_ndP rfl hl.1 rfl (Nat.le_of_ble_eq_true rfl) zd_LassoFinderLaw_law_280 ⟨(by first | omega | (dsimp only; omega)), (by first | omega | (dsimp only; omega))⟩) hw hA (List.range 78) (List.range' 78 58) wLS_P wLS_M wLS_ndM wLS_disMP (fun r1 u H locs hok hw => ?_)
  obtain ⟨I1, J1, B1, D1⟩ := u
  dsimp only at hok
  have hw := wLS_bP hw
  have hw : zW G A s.heap (wLS ad am K I1 J1 B1 D1 I9 J9 B9 D9) H locs := hw
  refine lv_istore hx hb zd_LassoFinderLaw_law_283 hl (by decide) rfl (fun ls hl => ?_)
  have hl : lv_has ls 7 [(5, .int r1), (4, .int (nI i8)), (3, .ref (ad 77)), (2, .ref (am 0)), (1, .ref (ad 0)), (0, .ref b)] := hl
  refine lv_aload_n hx hb zd_LassoFinderLaw_law_285 rfl (lv_at hl 3 rfl) ?_
  refine z_calli (w1 := fun (u : zS) => wM am K u.1 u.2.1 u.2.2.1 u.2.2.2) (wr := (wPS ad K I1 J1 B1 D1)) (z_runV (q0 := 78) (wc := (wM am K I9 J9 B9 D9)) (As := []) (rest := []) ⟨hx, hb, hml, hown, hts⟩ (w_LassoFinderModel_verify l G K am I9 J9 B9 D9  _ H.size hok) zf_LassoFinderModel_verify zq_364 ⟨(Nat.le_of_ble_eq_true rfl), (Nat.le_of_ble_eq_true rfl)⟩ hK hw (List.range' 78 58) wLS_M wLS_ndM wLS_gm rfl rfl hl.1 rfl (Nat.le_of_ble_eq_true rfl) zd_LassoFinderLaw_law_286 ⟨(by first | omega | (dsimp only; omega)), (by first | omega | (dsimp only; omega))⟩) hw hA (List.range' 78 58) (List.range 78) wLS_M wLS_P wLS_ndP wLS_disPM (fun r2 u H locs hok hw => ?_)
  obtain ⟨I2, J2, B2, D2⟩ := u
  dsimp only at hok
  have hw := wLS_bM hw
  have hw : zW G A s.heap (wLS ad am K I1 J1 B1 D1 I2 J2 B2 D2) H locs := hw
  refine lv_istore hx hb zd_LassoFinderLaw_law_289 hl (by decide) rfl (fun ls hl => ?_)
  have hl : lv_has ls 7 [(6, .int r2), (5, .int r1), (4, .int (nI i8)), (3, .ref (ad 77)), (2, .ref (am 0)), (1, .ref (ad 0)), (0, .ref b)] := hl
  refine lv_aload_n hx hb zd_LassoFinderLaw_law_291 rfl (lv_at hl 4 rfl) ?_
  refine z_calli (w1 := fun (u : zS) => wM am K u.1 u.2.1 u.2.2.1 u.2.2.2) (wr := (wPS ad K I1 J1 B1 D1)) (z_runV (q0 := 78) (wc := (wM am K I2 J2 B2 D2)) (As := []) (rest := []) ⟨hx, hb, hml, hown, hts⟩ (w_LassoFinderModel_thrown l G K am I2 J2 B2 D2  _ H.size hok) zf_LassoFinderModel_thrown zq_358 ⟨(Nat.le_of_ble_eq_true rfl), (Nat.le_of_ble_eq_true rfl)⟩ hK hw (List.range' 78 58) wLS_M wLS_ndM wLS_gm rfl rfl hl.1 rfl (Nat.le_of_ble_eq_true rfl) zd_LassoFinderLaw_law_292 ⟨(by first | omega | (dsimp only; omega)), (by first | omega | (dsimp only; omega))⟩) hw hA (List.range' 78 58) (List.range 78) wLS_M wLS_P wLS_ndP wLS_disPM (fun r3 u H locs hok hw => ?_)
  obtain ⟨I3, J3, B3, D3⟩ := u
  dsimp only at hok
  have hw := wLS_bM hw
  have hw : zW G A s.heap (wLS ad am K I1 J1 B1 D1 I3 J3 B3 D3) H locs := hw
  refine lv_iload hx hb zd_LassoFinderLaw_law_295 (lv_at hl 1 rfl) ?_
  refine lv_icmp_eq (tgt := 302) hx hb zd_LassoFinderLaw_law_297 (by decide) (fun hc4 => ?_) (fun hc4 => ?_)
  · have hok := hok.1 hc4
    refine lv_iload hx hb zd_LassoFinderLaw_law_302 (lv_at hl 1 rfl) ?_
    refine lv_if_ne (tgt := 326) hx hb zd_LassoFinderLaw_law_304 (by decide) (fun hc5 => ?_) (fun hc5 => ?_)
    · have hok := hok.1 hc5
      refine lv_goto (tgt := 704) hx hb zd_LassoFinderLaw_law_326 (by decide) ?_
      refine W.widen (k := c9 + 1) (n := s9 + 6) (by first | omega | (dsimp only; omega)) (by first | omega | (dsimp only; omega)) ?_
      exact kh I1 J1 B1 D1 I3 J3 B3 D3 ls H locs hok (lv_sub hl [2, 3, 4, 5, 6] rfl) hw
    · have hok := hok.2 hc5
      refine lv_aload_n hx hb zd_LassoFinderLaw_law_307 rfl (lv_at hl 3 rfl) ?_
      refine lv_iconst (v := 0) hx hb zd_LassoFinderLaw_law_308 (by decide) ?_
      refine va_lald (f := D1 3) hx hb hK hw.1 0 1 wLS_a0 rfl z_in0 zd_LassoFinderLaw_law_309 ?_
      refine lv_topl (fun z6 ez6 => ?_)
      have hok := hok z6 ez6
      refine lv_iload hx hb zd_LassoFinderLaw_law_310 (lv_at hl 0 rfl) ?_
      refine lv_if_eq (tgt := 319) hx hb zd_LassoFinderLaw_law_312 (by decide) (fun hc7 => ?_) (fun hc7 => ?_)
      · have hok := hok.1 hc7
        refine lv_lconst (v := 0) hx hb zd_LassoFinderLaw_law_319 (by decide) ?_
        refine W.lcmp hx hb zd_LassoFinderLaw_law_320 ?_
        refine lv_topi (fun z8 ez8 => ?_)
        have hok := hok z8 ez8
        refine lv_if_eq (tgt := 326) hx hb zd_LassoFinderLaw_law_321 (by decide) (fun hc9 => ?_) (fun hc9 => ?_)
        · have hok := hok.1 hc9
          refine lv_goto (tgt := 704) hx hb zd_LassoFinderLaw_law_326 (by decide) ?_
          refine W.widen (k := c9 + 1) (n := s9 + 6) (by first | omega | (dsimp only; omega)) (by first | omega | (dsimp only; omega)) ?_
          exact kh I1 J1 B1 D1 I3 J3 B3 D3 ls H locs hok (lv_sub hl [2, 3, 4, 5, 6] rfl) hw
        · have hok := hok.2 hc9
          exact hok.elim
      · have hok := hok.2 hc7
        refine lv_lconst (v := 1) hx hb zd_LassoFinderLaw_law_315 (by decide) ?_
        refine lv_goto (tgt := 320) hx hb zd_LassoFinderLaw_law_316 (by decide) ?_
        refine W.lcmp hx hb zd_LassoFinderLaw_law_320 ?_
        refine lv_topi (fun z10 ez10 => ?_)
        have hok := hok z10 ez10
        refine lv_if_eq (tgt := 326) hx hb zd_LassoFinderLaw_law_321 (by decide) (fun hc11 => ?_) (fun hc11 => ?_)
        · have hok := hok.1 hc11
          refine lv_goto (tgt := 704) hx hb zd_LassoFinderLaw_law_326 (by decide) ?_
          refine W.widen (k := c9 + 1) (n := s9 + 6) (by first | omega | (dsimp only; omega)) (by first | omega | (dsimp only; omega)) ?_
          exact kh I1 J1 B1 D1 I3 J3 B3 D3 ls H locs hok (lv_sub hl [2, 3, 4, 5, 6] rfl) hw
        · have hok := hok.2 hc11
          exact hok.elim
  · have hok := hok.2 hc4
    exact hok.elim
