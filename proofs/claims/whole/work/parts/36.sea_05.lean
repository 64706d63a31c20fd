

def wc_LassoFinder_verify_N_56 (Post : Int32 → (Nat → Int32) → (Nat → Int64) → (Nat → Nat → Int32) → (Nat → Nat → Int64) → Prop) (PX : String → (Nat → Int32) → (Nat → Int64) → (Nat → Nat → Int32) → (Nat → Nat → Int64) → Prop) (y0 : Int32) (I : Nat → Int32) (J : Nat → Int64) (B : Nat → Nat → Int32) (D : Nat → Nat → Int64) : Prop :=
  (y0 = 0 ∨ y0 = 1) ∧ Post y0 I J B D
def wp_LassoFinder_verify_N (I : Nat → Int32) (J : Nat → Int64) (B : Nat → Nat → Int32) (D : Nat → Nat → Int64) (Post : Int32 → (Nat → Int32) → (Nat → Int64) → (Nat → Nat → Int32) → (Nat → Nat → Int64) → Prop) (PX : String → (Nat → Int32) → (Nat → Int64) → (Nat → Nat → Int32) → (Nat → Nat → Int64) → Prop) : Prop :=
  ((¬ (I 2) = 0 → False) ∧ ((I 2) = 0 → PX "java/lang/IllegalStateException" I J B D))
set_option maxHeartbeats 8000000 in
set_option maxRecDepth 100000 in
theorem wJ_LassoFinder_verify_N_56 {p : Program} {l : Launch} {e : Env} {s : State} {m : MethodId} {below : List Frame} {meth : Method} {c : Code} {A : Nat → Prop} (G : va_G) (K : Nat → ClassId) (ad : Nat → Nat) (Post : Int32 → (Nat → Int32) → (Nat → Int64) → (Nat → Nat → Int32) → (Nat → Nat → Int64) → Prop) (PX : String → (Nat → Int32) → (Nat → Int64) → (Nat → Nat → Int32) → (Nat → Nat → Int64) → Prop) (C : zCy p l s m ([.ref (ad 0)] : List Value).toArray meth c A G K prog_1_method_6_code (some .boolean) 1 "LassoFinder") : ∀ (y0 : Int32) (I : Nat → Int32) (J : Nat → Int64) (B : Nat → Nat → Int32) (D : Nat → Nat → Int64) (ls : Array Slot) (H : Heap) (locs : List Loc), wc_LassoFinder_verify_N_56  Post PX y0 I J B D → lv_has ls 1 [] → zW G A s.heap (wX ad K Value.null I J B D) H locs → W p l e { frames := 6, cells := 1, slots := 6, locals := 81 } s m ([.ref (ad 0)] : List Value).toArray below meth c H locs 0 0 (zyMQ below (va_Qi (fun (r : Int32) (u : zS) => Post r u.1 u.2.1 u.2.2.1 u.2.2.2) (fun u t => zPost G K A (wX ad K Value.null u.1 u.2.1 u.2.2.1 u.2.2.2) t) A) (zYC (fun E (u : zS) => PX E u.1 u.2.1 u.2.2.1 u.2.2.2) (fun u => wX ad K Value.null u.1 u.2.1 u.2.2.1 u.2.2.2) G K A) ([.ref (ad 0)] : List Value).toArray s 1 6 A) (F0 m 56 ls [.int y0]) := by
  obtain ⟨hx, hb, hr, hml, hts, hown, hlocks, hA, hK, hT, hnt, hlt⟩ := id C
  intro y0 I J B D ls H locs hok hl hw
  unfold wc_LassoFinder_verify_N_56 at hok
  have hbo := hok.1
  have hok := hok.2
  exact zy_ret (z_iret (u := (I, J, B, D)) hx hb hr hlocks (z_nar hbo) hw (List.range 65) wX_all wX_nd hok (Nat.le_of_ble_eq_true rfl) (Nat.le_of_ble_eq_true rfl) zd_LassoFinder_verify_56)
set_option maxHeartbeats 8000000 in
set_option maxRecDepth 100000 in
theorem w_LassoFinder_verify_N (l : Launch) (hlt : l.stackTraces = false) (G : va_G) (K : Nat → ClassId) (ad : Nat → Nat) (I : Nat → Int32) (J : Nat → Int64) (B : Nat → Nat → Int32) (D : Nat → Nat → Int64) (Post : Int32 → (Nat → Int32) → (Nat → Int64) → (Nat → Nat → Int32) → (Nat → Nat → Int64) → Prop) (PX : String → (Nat → Int32) → (Nat → Int64) → (Nat → Nat → Int32) → (Nat → Nat → Int64) → Prop) (sz : Nat) (hok : wp_LassoFinder_verify_N I J B D  Post PX) : zyMet l zy_LassoFinder_verify (Cond.code zy_LassoFinder_verify prog_1_method_6_code 1 (some .boolean) :: zTB) { frames := 6, cells := 1, slots := 6, locals := 81 } (va_Pc [.ref (ad 0)] (zPreY G K (wX ad K Value.null I J B D) sz)) (va_Qi (fun (r : Int32) (u : zS) => Post r u.1 u.2.1 u.2.2.1 u.2.2.2) (fun u t => zPost G K (va_A (wX ad K Value.null I J B D) sz) (wX ad K Value.null u.1 u.2.1 u.2.2.1 u.2.2.2) t) (va_A (wX ad K Value.null I J B D) sz)) (zYC (fun E (u : zS) => PX E u.1 u.2.1 u.2.2.1 u.2.2.2) (fun u => wX ad K Value.null u.1 u.2.1 u.2.2.1 u.2.2.2) G K (va_A (wX ad K Value.null I J B D) sz)) 1 6 (va_A (wX ad K Value.null I J B D) sz) := by
  refine zMetY (y := zy_LassoFinder_verify) (av := [.ref (ad 0)]) (maxL := 1) (cc := prog_1_method_6_code) (ret := (some .boolean)) (W0 := (wX ad K Value.null I J B D)) (sz := sz) (G := G) (K := K) (wt := zTB) (mc := 1) (ms := 6) (Qf := fun A => va_Qi (fun (r : Int32) (u : zS) => Post r u.1 u.2.1 u.2.2.1 u.2.2.2) (fun u t => zPost G K A (wX ad K Value.null u.1 u.2.1 u.2.2.1 u.2.2.2) t) A) (Xf := fun A => (zYC (fun E (u : zS) => PX E u.1 u.2.1 u.2.2.1 u.2.2.2) (fun u => wX ad K Value.null u.1 u.2.1 u.2.2.1 u.2.2.2) G K A)) (by decide) (Nat.le_of_ble_eq_true rfl) ?_
  intro p e s m below meth c ls A hx hb hr hml hts hown hlocks hin hA hK H locs hw hsz hl hT hnt
  clear hsz
  have hown : s.vm.findClass "LassoFinder" = some m.cls := hown
  have C : zCy p l s m ([.ref (ad 0)] : List Value).toArray meth c A G K prog_1_method_6_code (some .boolean) 1 "LassoFinder" := ⟨hx, hb, hr, hml, hts, hown, hlocks, hA, hK, hT, hnt, hlt⟩
  have hl : lv_has ls 1 [(0, .ref (ad 0))] := hl
  have hw : zW G A s.heap (wX ad K Value.null I J B D) H locs := hw
  unfold wp_LassoFinder_verify_N at hok
  refine lv_aload_n hx hb zd_LassoFinder_verify_0 rfl (lv_at hl 0 rfl) ?_
  refine z_get (v := .int (I 2)) hx hb hts hown hK hw zZ0 0 wX_g0 12 (by decide) zn_415 rfl zd_LassoFinder_verify_1 ?_
  refine lv_if_ne (tgt := 15) hx hb zd_LassoFinder_verify_4 (by decide) (fun hc1 => ?_) (fun hc1 => ?_)
  · have hok := hok.1 hc1
    refine lv_aload_n hx hb zd_LassoFinder_verify_15 rfl (lv_at hl 0 rfl) ?_
    refine z_get (v := .null) hx hb hts hown hK hw zZ0 0 wX_g0 8 (by decide) zn_295 rfl zd_LassoFinder_verify_16 ?_
    refine lv_ifnonnullN hx hb zd_LassoFinder_verify_19 ?_
    refine lv_aload_n hx hb zd_LassoFinder_verify_22 rfl (lv_at hl 0 rfl) ?_
    exact hok.elim
  · have hok := hok.2 hc1
    exact z_ythrow (u := (I, J, B, D)) (names := ["java/lang/RuntimeException", "java/lang/Exception"]) hx hb hlt hts hown hnt hlocks hT (by rw [hml]; exact hl.1) (by decide +kernel) (by decide +kernel) zn_567 zn_568 zn_569 zx_1 hw (List.range 65) wX_all wX_nd hok zd_LassoFinder_verify_7 zd_LassoFinder_verify_10 zd_LassoFinder_verify_11 zd_LassoFinder_verify_14 (Nat.le_of_ble_eq_true rfl) (Nat.le_of_ble_eq_true rfl) (Nat.le_of_ble_eq_true rfl) (Nat.le_of_ble_eq_true rfl) (Nat.le_of_ble_eq_true rfl) (Nat.le_of_ble_eq_true rfl)
def wc_LassoFinder_lasso_N_30 (a0 : Int32) (a1 : Int32) (Post : Int32 → (Nat → Int32) → (Nat → Int64) → (Nat → Nat → Int32) → (Nat → Nat → Int64) → Prop) (PX : String → (Nat → Int32) → (Nat → Int64) → (Nat → Nat → Int32) → (Nat → Nat → Int64) → Prop)  (I : Nat → Int32) (J : Nat → Int64) (B : Nat → Nat → Int32) (D : Nat → Nat → Int64) : Prop :=
  PX "java/lang/IndexOutOfBoundsException" I J B D
def wp_LassoFinder_lasso_N (I : Nat → Int32) (J : Nat → Int64) (B : Nat → Nat → Int32) (D : Nat → Nat → Int64) (a0 : Int32) (a1 : Int32) (Post : Int32 → (Nat → Int32) → (Nat → Int64) → (Nat → Nat → Int32) → (Nat → Nat → Int64) → Prop) (PX : String → (Nat → Int32) → (Nat → Int64) → (Nat → Nat → Int32) → (Nat → Nat → Int64) → Prop) : Prop :=
  wp_LassoFinder_hasLasso_N I J B D  (fun r1 I1 J1 B1 D1 => ((r1 = 0 → wc_LassoFinder_lasso_N_30 a0 a1 Post PX I1 J1 B1 D1) ∧ (¬ r1 = 0 → ((a0 < 0 → wc_LassoFinder_lasso_N_30 a0 a1 Post PX I1 J1 B1 D1) ∧ (¬ a0 < 0 → False)))))
set_option maxHeartbeats 8000000 in
set_option maxRecDepth 100000 in
theorem wJ_LassoFinder_lasso_N_30 {p : Program} {l : Launch} {e : Env} {s : State} {m : MethodId} {below : List Frame} {meth : Method} {c : Code} {A : Nat → Prop} (G : va_G) (K : Nat → ClassId) (ad : Nat → Nat) (a0 : Int32) (a1 : Int32) (Post : Int32 → (Nat → Int32) → (Nat → Int64) → (Nat → Nat → Int32) → (Nat → Nat → Int64) → Prop) (PX : String → (Nat → Int32) → (Nat → Int64) → (Nat → Nat → Int32) → (Nat → Nat → Int64) → Prop) (C : zCy p l s m ([.ref (ad 0), .int a0, .int a1] : List Value).toArray meth c A G K prog_1_method_9_code (some .int) 4 "LassoFinder") : ∀  (I : Nat → Int32) (J : Nat → Int64) (B : Nat → Nat → Int32) (D : Nat → Nat → Int64) (ls : Array Slot) (H : Heap) (locs : List Loc), wc_LassoFinder_lasso_N_30 a0 a1 Post PX  I J B D → lv_has ls 4 [] → zW G A s.heap (wX ad K Value.null I J B D) H locs → W p l e { frames := 6, cells := 1, slots := 6, locals := 81 } s m ([.ref (ad 0), .int a0, .int a1] : List Value).toArray below meth c H locs 0 0 (zyMQ below (va_Qi (fun (r : Int32) (u : zS) => Post r u.1 u.2.1 u.2.2.1 u.2.2.2) (fun u t => zPost G K A (wX ad K Value.null u.1 u.2.1 u.2.2.1 u.2.2.2) t) A) (zYC (fun E (u : zS) => PX E u.1 u.2.1 u.2.2.1 u.2.2.2) (fun u => wX ad K Value.null u.1 u.2.1 u.2.2.1 u.2.2.2) G K A) ([.ref (ad 0), .int a0, .int a1] : List Value).toArray s 1 6 A) (F0 m 30 ls []) := by
  obtain ⟨hx, hb, hr, hml, hts, hown, hlocks, hA, hK, hT, hnt, hlt⟩ := id C
  intro  I J B D ls H locs hok hl hw
  unfold wc_LassoFinder_lasso_N_30 at hok
  exact z_ythrow (u := (I, J, B, D)) (names := ["java/lang/RuntimeException", "java/lang/Exception"]) hx hb hlt hts hown hnt hlocks hT (by rw [hml]; exact hl.1) (by decide +kernel) (by decide +kernel) zn_573 zn_574 zn_575 zx_2 hw (List.range 65) wX_all wX_nd hok zd_LassoFinder_lasso_30 zd_LassoFinder_lasso_33 zd_LassoFinder_lasso_34 zd_LassoFinder_lasso_37 (Nat.le_of_ble_eq_true rfl) (Nat.le_of_ble_eq_true rfl) (Nat.le_of_ble_eq_true rfl) (Nat.le_of_ble_eq_true rfl) (Nat.le_of_ble_eq_true rfl) (Nat.le_of_ble_eq_true rfl)
set_option maxHeartbeats 8000000 in
set_option maxRecDepth 100000 in
theorem w_LassoFinder_lasso_N (l : Launch) (hlt : l.stackTraces = false) (G : va_G) (K : Nat → ClassId) (ad : Nat → Nat) (I : Nat → Int32) (J : Nat → Int64) (B : Nat → Nat → Int32) (D : Nat → Nat → Int64) (a0 : Int32) (a1 : Int32) (Post : Int32 → (Nat → Int32) → (Nat → Int64) → (Nat → Nat → Int32) → (Nat → Nat → Int64) → Prop) (PX : String → (Nat → Int32) → (Nat → Int64) → (Nat → Nat → Int32) → (Nat → Nat → Int64) → Prop) (sz : Nat) (hok : wp_LassoFinder_lasso_N I J B D a0 a1 Post PX) : zyMet l zy_LassoFinder_lasso (Cond.code zy_LassoFinder_lasso prog_1_method_9_code 4 (some .int) :: zTB) { frames := 6, cells := 1, slots := 6, locals := 81 } (va_Pc [.ref (ad 0), .int a0, .int a1] (zPreY G K (wX ad K Value.null I J B D) sz)) (va_Qi (fun (r : Int32) (u : zS) => Post r u.1 u.2.1 u.2.2.1 u.2.2.2) (fun u t => zPost G K (va_A (wX ad K Value.null I J B D) sz) (wX ad K Value.null u.1 u.2.1 u.2.2.1 u.2.2.2) t) (va_A (wX ad K Value.null I J B D) sz)) (zYC (fun E (u : zS) => PX E u.1 u.2.1 u.2.2.1 u.2.2.2) (fun u => wX ad K Value.null u.1 u.2.1 u.2.2.1 u.2.2.2) G K (va_A (wX ad K Value.null I J B D) sz)) 1 6 (va_A (wX ad K Value.null I J B D) sz) := by
  refine zMetY (y := zy_LassoFinder_lasso) (av := [.ref (ad 0), .int a0, .int a1]) (maxL := 4) (cc := prog_1_method_9_code) (ret := (some .int)) (W0 := (wX ad K Value.null I J B D)) (sz := sz) (G := G) (K := K) (wt := zTB) (mc := 1) (ms := 6) (Qf := fun A => va_Qi (fun (r : Int32) (u : zS) => Post r u.1 u.2.1 u.2.2.1 u.2.2.2) (fun u t => zPost G K A (wX ad K Value.null u.1 u.2.1 u.2.2.1 u.2.2.2) t) A) (Xf := fun A => (zYC (fun E (u : zS) => PX E u.1 u.2.1 u.2.2.1 u.2.2.2) (fun u => wX ad K Value.null u.1 u.2.1 u.2.2.1 u.2.2.2) G K A)) (by decide) (Nat.le_of_ble_eq_true rfl) ?_
  intro p e s m below meth c ls A hx hb hr hml hts hown hlocks hin hA hK H locs hw hsz hl hT hnt
  clear hsz
  have hown : s.vm.findClass "LassoFinder" = some m.cls := hown
  have C : zCy p l s m ([.ref (ad 0), .int a0, .int a1] : List Value).toArray meth c A G K prog_1_method_9_code (some .int) 4 "LassoFinder" := ⟨hx, hb, hr, hml, hts, hown, hlocks, hA, hK, hT, hnt, hlt⟩
  have hl : lv_has ls 4 [(0, .ref (ad 0)), (1, .int a0), (2, .int a1)] := hl
  have hw : zW G A s.heap (wX ad K Value.null I J B D) H locs := hw
  unfold wp_LassoFinder_lasso_N at hok
  refine lv_aload_n hx hb zd_LassoFinder_lasso_0 rfl (lv_at hl 0 rfl) ?_
  refine z_calli (w1 := fun (u : zS) => wX ad K Value.null u.1 u.2.1 u.2.2.1 u.2.2.2) (wr := []) (z_runV (q0 := 0) (wc := (wX ad K Value.null I J B D)) (As := []) (rest := []) ⟨hx, hb, hml, hown, hts⟩ (w_LassoFinder_hasLasso_N l G K ad I J B D  _ H.size hok) zf_LassoFinder_hasLasso zn_294 ⟨Nat.le_of_ble_eq_true rfl, Nat.le_of_ble_eq_true rfl⟩ hK hw (List.range 65) wX_all wX_nd wX_g0 rfl rfl hl.1 rfl (Nat.le_of_ble_eq_true rfl) zd_LassoFinder_lasso_1 ⟨Nat.le_of_ble_eq_true rfl, Nat.le_of_ble_eq_true rfl⟩) hw hA (List.range 65) [] wX_all rfl (by decide) (fun i hi => by cases hi) (fun r1 u H locs hok hw => ?_)
  obtain ⟨I1, J1, B1, D1⟩ := u
  dsimp only at hok
  have hw : zW G A s.heap (wX ad K Value.null I1 J1 B1 D1) H locs := hw
  refine lv_if_eq (tgt := 30) hx hb zd_LassoFinder_lasso_4 (by decide) (fun hc2 => ?_) (fun hc2 => ?_)
  · have hok := hok.1 hc2
    exact wJ_LassoFinder_lasso_N_30 G K ad a0 a1 Post PX C I1 J1 B1 D1 ls H locs hok (lv_sub hl [] rfl) hw
  · have hok := hok.2 hc2
    refine lv_iload_n hx hb zd_LassoFinder_lasso_7 rfl (lv_at hl 1 rfl) ?_
    refine lv_if_lt (tgt := 30) hx hb zd_LassoFinder_lasso_8 (by decide) (fun hc3 => ?_) (fun hc3 => ?_)
    · have hok := hok.1 hc3
      exact wJ_LassoFinder_lasso_N_30 G K ad a0 a1 Post PX C I1 J1 B1 D1 ls H locs hok (lv_sub hl [] rfl) hw
    · have hok := hok.2 hc3
      refine lv_iload_n hx hb zd_LassoFinder_lasso_11 rfl (lv_at hl 1 rfl) ?_
      refine lv_aload_n hx hb zd_LassoFinder_lasso_12 rfl (lv_at hl 0 rfl) ?_
      refine z_get (v := .null) hx hb hts hown hK hw zZ0 0 wX_g0 8 (by decide) zn_295 rfl zd_LassoFinder_lasso_13 ?_
      exact hok.elim
