

def wp_LassoFinder_write_N (I : Nat → Int32) (J : Nat → Int64) (B : Nat → Nat → Int32) (D : Nat → Nat → Int64) (a0 : Int64) (Post : Int32 → (Nat → Int32) → (Nat → Int64) → (Nat → Nat → Int32) → (Nat → Nat → Int64) → Prop) : Prop :=
  wp_Text_append I J B D a0 (fun r1 I1 J1 B1 D1 => (r1 = 0 ∨ r1 = 1) ∧ Post r1 I1 J1 B1 D1)
set_option maxHeartbeats 8000000 in
set_option maxRecDepth 100000 in
theorem w_LassoFinder_write_N (l : Launch) (G : va_G) (K : Nat → ClassId) (ad : Nat → Nat) (I : Nat → Int32) (J : Nat → Int64) (B : Nat → Nat → Int32) (D : Nat → Nat → Int64) (a0 : Int64) (Post : Int32 → (Nat → Int32) → (Nat → Int64) → (Nat → Nat → Int32) → (Nat → Nat → Int64) → Prop) (sz : Nat) (hok : wp_LassoFinder_write_N I J B D a0 Post) : Met l zy_LassoFinder_write (Cond.code zy_LassoFinder_write prog_1_method_2_code 3 (some .boolean) :: zTB) { frames := 1, cells := 0, slots := 0, locals := 25 } (va_Pc [.ref (ad 0), .long a0] (zPre G K (wX ad K Value.null I J B D) sz)) (va_Qi (fun (r : Int32) (u : zS) => Post r u.1 u.2.1 u.2.2.1 u.2.2.2) (fun u t => zPost G K (va_A (wX ad K Value.null I J B D) sz) (wX ad K Value.null u.1 u.2.1 u.2.2.1 u.2.2.2) t) (va_A (wX ad K Value.null I J B D) sz)) 0 0 (va_A (wX ad K Value.null I J B D) sz) := by
  refine zMet (y := zy_LassoFinder_write) (av := [.ref (ad 0), .long a0]) (maxL := 3) (cc := prog_1_method_2_code) (ret := (some .boolean)) (W0 := (wX ad K Value.null I J B D)) (sz := sz) (G := G) (K := K) (wt := zTB) (mc := 0) (ms := 0) (Qf := fun A => va_Qi (fun (r : Int32) (u : zS) => Post r u.1 u.2.1 u.2.2.1 u.2.2.2) (fun u t => zPost G K A (wX ad K Value.null u.1 u.2.1 u.2.2.1 u.2.2.2) t) A) (by decide) (Nat.le_of_ble_eq_true rfl) ?_
  intro p e s m below meth c ls A hx hb hr hml hts hown hlocks hin hA hK H locs hw hsz hl
  clear hsz
  have hown : s.vm.findClass "LassoFinder" = some m.cls := hown
  have C : zCx p s m ([.ref (ad 0), .long a0] : List Value).toArray meth c A G K prog_1_method_2_code (some .boolean) 3 "LassoFinder" := ⟨hx, hb, hr, hml, hts, hown, hlocks, hA, hK⟩
  have hl : lv_has ls 3 [(0, .ref (ad 0)), (1, .long a0)] := hl
  have hw : zW G A s.heap (wX ad K Value.null I J B D) H locs := hw
  unfold wp_LassoFinder_write_N at hok
  refine lv_aload_n hx hb zd_LassoFinder_write_0 rfl (lv_at hl 0 rfl) ?_
  refine z_get (v := .ref (ad 1)) hx hb hts hown hK hw zZ0 0 wX_g0 0 (by decide) zn_291 rfl zd_LassoFinder_write_1 ?_
  refine lv_lload_n hx hb zd_LassoFinder_write_4 rfl (lv_at hl 1 rfl) ?_
  refine z_calli (w1 := fun (u : zS) => wX ad K Value.null u.1 u.2.1 u.2.2.1 u.2.2.2) (wr := []) (z_runV (q0 := 1) (wc := (wX ad K Value.null I J B D)) (As := [.long a0]) (rest := []) ⟨hx, hb, hml, hown, hts⟩ (w_Text_append l G K ad Value.null I J B D a0 _ H.size hok) zf_Text_append zn_290 ⟨Nat.le_of_ble_eq_true rfl, Nat.le_of_ble_eq_true rfl⟩ hK hw (List.range 65) wX_all wX_nd wX_g1 rfl rfl hl.1 rfl (Nat.le_of_ble_eq_true rfl) zd_LassoFinder_write_5 ⟨Nat.le_of_ble_eq_true rfl, Nat.le_of_ble_eq_true rfl⟩) hw hA (List.range 65) [] wX_all rfl (by decide) (fun i hi => by cases hi) (fun r1 u H locs hok hw => ?_)
  obtain ⟨I1, J1, B1, D1⟩ := u
  dsimp only at hok
  have hw : zW G A s.heap (wX ad K Value.null I1 J1 B1 D1) H locs := hw
  have hbo := hok.1
  have hok := hok.2
  exact (z_iret (u := (I1, J1, B1, D1)) hx hb hr hlocks (z_nar hbo) hw (List.range 65) wX_all wX_nd hok (Nat.le_of_ble_eq_true rfl) (Nat.le_of_ble_eq_true rfl) zd_LassoFinder_write_8)
def wp_LassoFinder_place_N (I : Nat → Int32) (J : Nat → Int64) (B : Nat → Nat → Int32) (D : Nat → Nat → Int64) (Post : Int32 → (Nat → Int32) → (Nat → Int64) → (Nat → Nat → Int32) → (Nat → Nat → Int64) → Prop) : Prop :=
  Post (I 6) I J B D
set_option maxHeartbeats 8000000 in
set_option maxRecDepth 100000 in
theorem w_LassoFinder_place_N (l : Launch) (G : va_G) (K : Nat → ClassId) (ad : Nat → Nat) (I : Nat → Int32) (J : Nat → Int64) (B : Nat → Nat → Int32) (D : Nat → Nat → Int64) (Post : Int32 → (Nat → Int32) → (Nat → Int64) → (Nat → Nat → Int32) → (Nat → Nat → Int64) → Prop) (sz : Nat) (hok : wp_LassoFinder_place_N I J B D  Post) : Met l zy_LassoFinder_place (Cond.code zy_LassoFinder_place prog_1_method_5_code 1 (some .int) :: zTB) { frames := 0, cells := 0, slots := 0, locals := 0 } (va_Pc [.ref (ad 0)] (zPre G K (wX ad K Value.null I J B D) sz)) (va_Qi (fun (r : Int32) (u : zS) => Post r u.1 u.2.1 u.2.2.1 u.2.2.2) (fun u t => zPost G K (va_A (wX ad K Value.null I J B D) sz) (wX ad K Value.null u.1 u.2.1 u.2.2.1 u.2.2.2) t) (va_A (wX ad K Value.null I J B D) sz)) 0 0 (va_A (wX ad K Value.null I J B D) sz) := by
  refine zMet (y := zy_LassoFinder_place) (av := [.ref (ad 0)]) (maxL := 1) (cc := prog_1_method_5_code) (ret := (some .int)) (W0 := (wX ad K Value.null I J B D)) (sz := sz) (G := G) (K := K) (wt := zTB) (mc := 0) (ms := 0) (Qf := fun A => va_Qi (fun (r : Int32) (u : zS) => Post r u.1 u.2.1 u.2.2.1 u.2.2.2) (fun u t => zPost G K A (wX ad K Value.null u.1 u.2.1 u.2.2.1 u.2.2.2) t) A) (by decide) (Nat.le_of_ble_eq_true rfl) ?_
  intro p e s m below meth c ls A hx hb hr hml hts hown hlocks hin hA hK H locs hw hsz hl
  clear hsz
  have hown : s.vm.findClass "LassoFinder" = some m.cls := hown
  have C : zCx p s m ([.ref (ad 0)] : List Value).toArray meth c A G K prog_1_method_5_code (some .int) 1 "LassoFinder" := ⟨hx, hb, hr, hml, hts, hown, hlocks, hA, hK⟩
  have hl : lv_has ls 1 [(0, .ref (ad 0))] := hl
  have hw : zW G A s.heap (wX ad K Value.null I J B D) H locs := hw
  unfold wp_LassoFinder_place_N at hok
  refine lv_aload_n hx hb zd_LassoFinder_place_0 rfl (lv_at hl 0 rfl) ?_
  refine z_get (v := .ref (ad 1)) hx hb hts hown hK hw zZ0 0 wX_g0 0 (by decide) zn_291 rfl zd_LassoFinder_place_1 ?_
  refine z_get (v := .int (I 6)) hx hb hts hown hK hw zZ9 1 wX_g1 4 (by decide) zn_293 rfl zd_LassoFinder_place_4 ?_
  exact (z_iret (u := (I, J, B, D)) hx hb hr hlocks rfl hw (List.range 65) wX_all wX_nd hok (Nat.le_of_ble_eq_true rfl) (Nat.le_of_ble_eq_true rfl) zd_LassoFinder_place_7)
def wp_LassoFinder_walk_N (I : Nat → Int32) (J : Nat → Int64) (B : Nat → Nat → Int32) (D : Nat → Nat → Int64) (Post : (Nat → Int32) → (Nat → Int64) → (Nat → Nat → Int32) → (Nat → Nat → Int64) → Prop) (PX : String → (Nat → Int32) → (Nat → Int64) → (Nat → Nat → Int32) → (Nat → Nat → Int64) → Prop) : Prop :=
  ((¬ (I 1) = 0 → vp_in 0 61 ∧ Post (upd I 0 0) J (va_up B 0 (upd (B 0) (0 : Int32).toNatClampNeg 0)) D) ∧ ((I 1) = 0 → PX "java/lang/IllegalStateException" I J B D))
set_option maxHeartbeats 8000000 in
set_option maxRecDepth 100000 in
theorem w_LassoFinder_walk_N (l : Launch) (hlt : l.stackTraces = false) (G : va_G) (K : Nat → ClassId) (ad : Nat → Nat) (I : Nat → Int32) (J : Nat → Int64) (B : Nat → Nat → Int32) (D : Nat → Nat → Int64) (Post : (Nat → Int32) → (Nat → Int64) → (Nat → Nat → Int32) → (Nat → Nat → Int64) → Prop) (PX : String → (Nat → Int32) → (Nat → Int64) → (Nat → Nat → Int32) → (Nat → Nat → Int64) → Prop) (sz : Nat) (hok : wp_LassoFinder_walk_N I J B D  Post PX) : zyMet l zy_LassoFinder_walk (Cond.code zy_LassoFinder_walk prog_1_method_10_code 1 none :: zTB) { frames := 6, cells := 1, slots := 6, locals := 81 } (va_Pc [.ref (ad 0)] (zPreY G K (wX ad K Value.null I J B D) sz)) (va_Qv (fun u : zS => Post u.1 u.2.1 u.2.2.1 u.2.2.2) (fun u t => zPost G K (va_A (wX ad K Value.null I J B D) sz) (wX ad K Value.null u.1 u.2.1 u.2.2.1 u.2.2.2) t) (va_A (wX ad K Value.null I J B D) sz)) (zYC (fun E (u : zS) => PX E u.1 u.2.1 u.2.2.1 u.2.2.2) (fun u => wX ad K Value.null u.1 u.2.1 u.2.2.1 u.2.2.2) G K (va_A (wX ad K Value.null I J B D) sz)) 1 6 (va_A (wX ad K Value.null I J B D) sz) := by
  refine zMetY (y := zy_LassoFinder_walk) (av := [.ref (ad 0)]) (maxL := 1) (cc := prog_1_method_10_code) (ret := none) (W0 := (wX ad K Value.null I J B D)) (sz := sz) (G := G) (K := K) (wt := zTB) (mc := 1) (ms := 6) (Qf := fun A => va_Qv (fun u : zS => Post u.1 u.2.1 u.2.2.1 u.2.2.2) (fun u t => zPost G K A (wX ad K Value.null u.1 u.2.1 u.2.2.1 u.2.2.2) t) A) (Xf := fun A => (zYC (fun E (u : zS) => PX E u.1 u.2.1 u.2.2.1 u.2.2.2) (fun u => wX ad K Value.null u.1 u.2.1 u.2.2.1 u.2.2.2) G K A)) (by decide) (Nat.le_of_ble_eq_true rfl) ?_
  intro p e s m below meth c ls A hx hb hr hml hts hown hlocks hin hA hK H locs hw hsz hl hT hnt
  clear hsz
  have hown : s.vm.findClass "LassoFinder" = some m.cls := hown
  have C : zCy p l s m ([.ref (ad 0)] : List Value).toArray meth c A G K prog_1_method_10_code none 1 "LassoFinder" := ⟨hx, hb, hr, hml, hts, hown, hlocks, hA, hK, hT, hnt, hlt⟩
  have hl : lv_has ls 1 [(0, .ref (ad 0))] := hl
  have hw : zW G A s.heap (wX ad K Value.null I J B D) H locs := hw
  unfold wp_LassoFinder_walk_N at hok
  refine lv_aload_n hx hb zd_LassoFinder_walk_0 rfl (lv_at hl 0 rfl) ?_
  refine z_get (v := .int (I 1)) hx hb hts hown hK hw zZ0 0 wX_g0 11 (by decide) zn_317 rfl zd_LassoFinder_walk_1 ?_
  refine lv_if_ne (tgt := 15) hx hb zd_LassoFinder_walk_4 (by decide) (fun hc1 => ?_) (fun hc1 => ?_)
  · have hok := hok.1 hc1
    refine lv_aload_n hx hb zd_LassoFinder_walk_15 rfl (lv_at hl 0 rfl) ?_
    refine lv_iconst (v := 0) hx hb zd_LassoFinder_walk_16 (by decide) ?_
    refine z_put (v := .int 0) hx hb hts hown hK hw zZ0 0 wX_g0 10 (by decide) zn_297 rfl rfl rfl (Nat.le_of_ble_eq_true rfl) zd_LassoFinder_walk_17 (fun H locs hw => ?_)
    have hw := wX_sI0 hw
    refine lv_aload_n hx hb zd_LassoFinder_walk_20 rfl (lv_at hl 0 rfl) ?_
    refine z_get (v := .ref (ad 12)) hx hb hts hown hK hw zZ0 0 wX_g0 9 (by decide) zn_235 rfl zd_LassoFinder_walk_21 ?_
    refine lv_iconst (v := 0) hx hb zd_LassoFinder_walk_24 (by decide) ?_
    refine lv_iconst (v := 0) hx hb zd_LassoFinder_walk_25 (by decide) ?_
    refine va_iast (f := (B 0)) hx hb hK hw.1 hw.2.1 hw.2.2 12 0 wX_a12 rfl hok.1 zd_LassoFinder_walk_26 (fun H locs w91 w92 w93 => ?_)
    have hok := hok.2
    have hw := wX_t12 ⟨w91, w92, w93⟩
    exact zy_ret (z_vret (u := ((upd I 0 0), J, (va_up B 0 (upd (B 0) (0 : Int32).toNatClampNeg 0)), D)) hx hb hr hlocks hw (List.range 65) wX_all wX_nd hok (Nat.le_of_ble_eq_true rfl) (Nat.le_of_ble_eq_true rfl) zd_LassoFinder_walk_27)
  · have hok := hok.2 hc1
    exact z_ythrow (u := (I, J, B, D)) (names := ["java/lang/RuntimeException", "java/lang/Exception"]) hx hb hlt hts hown hnt hlocks hT (by rw [hml]; exact hl.1) (by decide +kernel) (by decide +kernel) zn_567 zn_568 zn_569 zx_1 hw (List.range 65) wX_all wX_nd hok zd_LassoFinder_walk_7 zd_LassoFinder_walk_10 zd_LassoFinder_walk_11 zd_LassoFinder_walk_14 (Nat.le_of_ble_eq_true rfl) (Nat.le_of_ble_eq_true rfl) (Nat.le_of_ble_eq_true rfl) (Nat.le_of_ble_eq_true rfl) (Nat.le_of_ble_eq_true rfl) (Nat.le_of_ble_eq_true rfl)
def wc_LassoFinder_steps_N_28 (Post : Int32 → (Nat → Int32) → (Nat → Int64) → (Nat → Nat → Int32) → (Nat → Nat → Int64) → Prop) (y0 : Int32) (I : Nat → Int32) (J : Nat → Int64) (B : Nat → Nat → Int32) (D : Nat → Nat → Int64) : Prop :=
  Post y0 I J B D
def wp_LassoFinder_steps_N (I : Nat → Int32) (J : Nat → Int64) (B : Nat → Nat → Int32) (D : Nat → Nat → Int64) (Post : Int32 → (Nat → Int32) → (Nat → Int64) → (Nat → Nat → Int32) → (Nat → Nat → Int64) → Prop) : Prop :=
  ((¬ (I 0) = (-1) → vp_in (I 0) 61 ∧ ∀ z2 : Int32, z2 = ((B 0) (I 0).toNatClampNeg) → wp_Graph_stepsFrom I J B D z2 (fun r3 I3 J3 B3 D3 => wc_LassoFinder_steps_N_28  Post r3 I3 J3 B3 D3)) ∧ ((I 0) = (-1) → wc_LassoFinder_steps_N_28  Post 0 I J B D))
set_option maxHeartbeats 8000000 in
set_option maxRecDepth 100000 in
theorem wJ_LassoFinder_steps_N_28 {p : Program} {l : Launch} {e : Env} {s : State} {m : MethodId} {below : List Frame} {meth : Method} {c : Code} {A : Nat → Prop} (G : va_G) (K : Nat → ClassId) (ad : Nat → Nat) (Post : Int32 → (Nat → Int32) → (Nat → Int64) → (Nat → Nat → Int32) → (Nat → Nat → Int64) → Prop) (C : zCx p s m ([.ref (ad 0)] : List Value).toArray meth c A G K prog_1_method_11_code (some .int) 1 "LassoFinder") : ∀ (y0 : Int32) (I : Nat → Int32) (J : Nat → Int64) (B : Nat → Nat → Int32) (D : Nat → Nat → Int64) (ls : Array Slot) (H : Heap) (locs : List Loc), wc_LassoFinder_steps_N_28  Post y0 I J B D → lv_has ls 1 [] → zW G A s.heap (wX ad K Value.null I J B D) H locs → W p l e { frames := 1, cells := 0, slots := 0, locals := 21 } s m ([.ref (ad 0)] : List Value).toArray below meth c H locs 0 0 (MQ below (va_Qi (fun (r : Int32) (u : zS) => Post r u.1 u.2.1 u.2.2.1 u.2.2.2) (fun u t => zPost G K A (wX ad K Value.null u.1 u.2.1 u.2.2.1 u.2.2.2) t) A) ([.ref (ad 0)] : List Value).toArray s 0 0 A) (F0 m 28 ls [.int y0]) := by
  obtain ⟨hx, hb, hr, hml, hts, hown, hlocks, hA, hK⟩ := id C
  intro y0 I J B D ls H locs hok hl hw
  unfold wc_LassoFinder_steps_N_28 at hok
  exact (z_iret (u := (I, J, B, D)) hx hb hr hlocks rfl hw (List.range 65) wX_all wX_nd hok (Nat.le_of_ble_eq_true rfl) (Nat.le_of_ble_eq_true rfl) zd_LassoFinder_steps_28)
set_option maxHeartbeats 8000000 in
set_option maxRecDepth 100000 in
theorem w_LassoFinder_steps_N (l : Launch) (G : va_G) (K : Nat → ClassId) (ad : Nat → Nat) (I : Nat → Int32) (J : Nat → Int64) (B : Nat → Nat → Int32) (D : Nat → Nat → Int64) (Post : Int32 → (Nat → Int32) → (Nat → Int64) → (Nat → Nat → Int32) → (Nat → Nat → Int64) → Prop) (sz : Nat) (hok : wp_LassoFinder_steps_N I J B D  Post) : Met l zy_LassoFinder_steps (Cond.code zy_LassoFinder_steps prog_1_method_11_code 1 (some .int) :: zTB) { frames := 1, cells := 0, slots := 0, locals := 21 } (va_Pc [.ref (ad 0)] (zPre G K (wX ad K Value.null I J B D) sz)) (va_Qi (fun (r : Int32) (u : zS) => Post r u.1 u.2.1 u.2.2.1 u.2.2.2) (fun u t => zPost G K (va_A (wX ad K Value.null I J B D) sz) (wX ad K Value.null u.1 u.2.1 u.2.2.1 u.2.2.2) t) (va_A (wX ad K Value.null I J B D) sz)) 0 0 (va_A (wX ad K Value.null I J B D) sz) := by
  refine zMet (y := zy_LassoFinder_steps) (av := [.ref (ad 0)]) (maxL := 1) (cc := prog_1_method_11_code) (ret := (some .int)) (W0 := (wX ad K Value.null I J B D)) (sz := sz) (G := G) (K := K) (wt := zTB) (mc := 0) (ms := 0) (Qf := fun A => va_Qi (fun (r : Int32) (u : zS) => Post r u.1 u.2.1 u.2.2.1 u.2.2.2) (fun u t => zPost G K A (wX ad K Value.null u.1 u.2.1 u.2.2.1 u.2.2.2) t) A) (by decide) (Nat.le_of_ble_eq_true rfl) ?_
  intro p e s m below meth c ls A hx hb hr hml hts hown hlocks hin hA hK H locs hw hsz hl
  clear hsz
  have hown : s.vm.findClass "LassoFinder" = some m.cls := hown
  have C : zCx p s m ([.ref (ad 0)] : List Value).toArray meth c A G K prog_1_method_11_code (some .int) 1 "LassoFinder" := ⟨hx, hb, hr, hml, hts, hown, hlocks, hA, hK⟩
  have hl : lv_has ls 1 [(0, .ref (ad 0))] := hl
  have hw : zW G A s.heap (wX ad K Value.null I J B D) H locs := hw
  unfold wp_LassoFinder_steps_N at hok
  refine lv_aload_n hx hb zd_LassoFinder_steps_0 rfl (lv_at hl 0 rfl) ?_
  refine z_get (v := .int (I 0)) hx hb hts hown hK hw zZ0 0 wX_g0 10 (by decide) zn_297 rfl zd_LassoFinder_steps_1 ?_
  refine lv_iconst (v := (-1)) hx hb zd_LassoFinder_steps_4 (by decide) ?_
  refine lv_icmp_ne (tgt := 12) hx hb zd_LassoFinder_steps_5 (by decide) (fun hc1 => ?_) (fun hc1 => ?_)
  · have hok := hok.1 hc1
    refine lv_aload_n hx hb zd_LassoFinder_steps_12 rfl (lv_at hl 0 rfl) ?_
    refine z_get (v := .ref (ad 8)) hx hb hts hown hK hw zZ0 0 wX_g0 5 (by decide) zn_298 rfl zd_LassoFinder_steps_13 ?_
    refine lv_aload_n hx hb zd_LassoFinder_steps_16 rfl (lv_at hl 0 rfl) ?_
    refine z_get (v := .ref (ad 12)) hx hb hts hown hK hw zZ0 0 wX_g0 9 (by decide) zn_235 rfl zd_LassoFinder_steps_17 ?_
    refine lv_aload_n hx hb zd_LassoFinder_steps_20 rfl (lv_at hl 0 rfl) ?_
    refine z_get (v := .int (I 0)) hx hb hts hown hK hw zZ0 0 wX_g0 10 (by decide) zn_297 rfl zd_LassoFinder_steps_21 ?_
    refine va_iald (f := (B 0)) hx hb hK hw.1 12 0 wX_a12 rfl hok.1 zd_LassoFinder_steps_24 ?_
    have hok := hok.2
    refine lv_topi (fun z2 ez2 => ?_)
    have hok := hok z2 ez2
    refine z_calli (w1 := fun (u : zS) => wX ad K Value.null u.1 u.2.1 u.2.2.1 u.2.2.2) (wr := []) (z_runV (q0 := 8) (wc := (wX ad K Value.null I J B D)) (As := [.int z2]) (rest := []) ⟨hx, hb, hml, hown, hts⟩ (w_Graph_stepsFrom l G K ad Value.null I J B D z2 _ H.size hok) zf_Graph_stepsFrom zn_296 ⟨Nat.le_of_ble_eq_true rfl, Nat.le_of_ble_eq_true rfl⟩ hK hw (List.range 65) wX_all wX_nd wX_g8 rfl rfl hl.1 rfl (Nat.le_of_ble_eq_true rfl) zd_LassoFinder_steps_25 ⟨Nat.le_of_ble_eq_true rfl, Nat.le_of_ble_eq_true rfl⟩) hw hA (List.range 65) [] wX_all rfl (by decide) (fun i hi => by cases hi) (fun r3 u H locs hok hw => ?_)
    obtain ⟨I3, J3, B3, D3⟩ := u
    dsimp only at hok
    have hw : zW G A s.heap (wX ad K Value.null I3 J3 B3 D3) H locs := hw
    exact wJ_LassoFinder_steps_N_28 G K ad  Post C r3 I3 J3 B3 D3 ls H locs hok (lv_sub hl [] rfl) hw
  · have hok := hok.2 hc1
    refine lv_iconst (v := 0) hx hb zd_LassoFinder_steps_8 (by decide) ?_
    refine lv_goto (tgt := 28) hx hb zd_LassoFinder_steps_9 (by decide) ?_
    exact wJ_LassoFinder_steps_N_28 G K ad  Post C 0 I J B D ls H locs hok (lv_sub hl [] rfl) hw
def wc_LassoFinder_go_N_42 (a0 : Int32) (Post : Int32 → (Nat → Int32) → (Nat → Int64) → (Nat → Nat → Int32) → (Nat → Nat → Int64) → Prop) (PX : String → (Nat → Int32) → (Nat → Int64) → (Nat → Nat → Int32) → (Nat → Nat → Int64) → Prop)  (I : Nat → Int32) (J : Nat → Int64) (B : Nat → Nat → Int32) (D : Nat → Nat → Int64) : Prop :=
  PX "java/lang/IndexOutOfBoundsException" I J B D
def wp_LassoFinder_go_N (I : Nat → Int32) (J : Nat → Int64) (B : Nat → Nat → Int32) (D : Nat → Nat → Int64) (a0 : Int32) (Post : Int32 → (Nat → Int32) → (Nat → Int64) → (Nat → Nat → Int32) → (Nat → Nat → Int64) → Prop) (PX : String → (Nat → Int32) → (Nat → Int64) → (Nat → Nat → Int32) → (Nat → Nat → Int64) → Prop) : Prop :=
  ((¬ (I 0) = (-1) → vp_in (I 0) 61 ∧ ∀ z2 : Int32, z2 = ((B 0) (I 0).toNatClampNeg) → ((a0 < 0 → wc_LassoFinder_go_N_42 a0 Post PX I J B D) ∧ (¬ a0 < 0 → wp_Graph_stepsFrom I J B D z2 (fun r4 I4 J4 B4 D4 => ((a0 < r4 → ((¬ (I4 0) = 60 → vp_in z2 97 ∧ ∀ z7 : Int32, z7 = ((B4 32) z2.toNatClampNeg) → ∀ z8 : Int32, z8 = (z7 + a0) → ∀ z9 : Int32, z9 = ((I4 0) + 1) → vp_in z8 400 ∧ ∀ z10 : Int32, z10 = ((B4 34) z8.toNatClampNeg) → vp_in z9 61 ∧ vp_in z8 400 ∧ ∀ z11 : Int32, z11 = ((B4 35) z8.toNatClampNeg) → Post z11 (upd I4 0 z9) J4 (va_up B4 0 (upd (B4 0) z9.toNatClampNeg z10)) D4) ∧ ((I4 0) = 60 → PX "java/lang/UnsupportedOperationException" I4 J4 B4 D4))) ∧ (¬ a0 < r4 → wc_LassoFinder_go_N_42 a0 Post PX I4 J4 B4 D4)))))) ∧ ((I 0) = (-1) → PX "java/lang/IllegalStateException" I J B D))
set_option maxHeartbeats 8000000 in
set_option maxRecDepth 100000 in
theorem wJ_LassoFinder_go_N_42 {p : Program} {l : Launch} {e : Env} {s : State} {m : MethodId} {below : List Frame} {meth : Method} {c : Code} {A : Nat → Prop} (G : va_G) (K : Nat → ClassId) (ad : Nat → Nat) (a0 : Int32) (Post : Int32 → (Nat → Int32) → (Nat → Int64) → (Nat → Nat → Int32) → (Nat → Nat → Int64) → Prop) (PX : String → (Nat → Int32) → (Nat → Int64) → (Nat → Nat → Int32) → (Nat → Nat → Int64) → Prop) (C : zCy p l s m ([.ref (ad 0), .int a0] : List Value).toArray meth c A G K prog_1_method_12_code (some .int) 4 "LassoFinder") : ∀  (I : Nat → Int32) (J : Nat → Int64) (B : Nat → Nat → Int32) (D : Nat → Nat → Int64) (ls : Array Slot) (H : Heap) (locs : List Loc), wc_LassoFinder_go_N_42 a0 Post PX  I J B D → lv_has ls 4 [] → zW G A s.heap (wX ad K Value.null I J B D) H locs → W p l e { frames := 6, cells := 1, slots := 6, locals := 81 } s m ([.ref (ad 0), .int a0] : List Value).toArray below meth c H locs 0 0 (zyMQ below (va_Qi (fun (r : Int32) (u : zS) => Post r u.1 u.2.1 u.2.2.1 u.2.2.2) (fun u t => zPost G K A (wX ad K Value.null u.1 u.2.1 u.2.2.1 u.2.2.2) t) A) (zYC (fun E (u : zS) => PX E u.1 u.2.1 u.2.2.1 u.2.2.2) (fun u => wX ad K Value.null u.1 u.2.1 u.2.2.1 u.2.2.2) G K A) ([.ref (ad 0), .int a0] : List Value).toArray s 1 6 A) (F0 m 42 ls []) := by
  obtain ⟨hx, hb, hr, hml, hts, hown, hlocks, hA, hK, hT, hnt, hlt⟩ := id C
  intro  I J B D ls H locs hok hl hw
  unfold wc_LassoFinder_go_N_42 at hok
  exact z_ythrow (u := (I, J, B, D)) (names := ["java/lang/RuntimeException", "java/lang/Exception"]) hx hb hlt hts hown hnt hlocks hT (by rw [hml]; exact hl.1) (by decide +kernel) (by decide +kernel) zn_573 zn_574 zn_575 zx_2 hw (List.range 65) wX_all wX_nd hok zd_LassoFinder_go_42 zd_LassoFinder_go_45 zd_LassoFinder_go_46 zd_LassoFinder_go_49 (Nat.le_of_ble_eq_true rfl) (Nat.le_of_ble_eq_true rfl) (Nat.le_of_ble_eq_true rfl) (Nat.le_of_ble_eq_true rfl) (Nat.le_of_ble_eq_true rfl) (Nat.le_of_ble_eq_true rfl)
set_option maxHeartbeats 8000000 in
set_option maxRecDepth 100000 in
theorem w_LassoFinder_go_N (l : Launch) (hlt : l.stackTraces = false) (G : va_G) (K : Nat → ClassId) (ad : Nat → Nat) (I : Nat → Int32) (J : Nat → Int64) (B : Nat → Nat → Int32) (D : Nat → Nat → Int64) (a0 : Int32) (Post : Int32 → (Nat → Int32) → (Nat → Int64) → (Nat → Nat → Int32) → (Nat → Nat → Int64) → Prop) (PX : String → (Nat → Int32) → (Nat → Int64) → (Nat → Nat → Int32) → (Nat → Nat → Int64) → Prop) (sz : Nat) (hok : wp_LassoFinder_go_N I J B D a0 Post PX) : zyMet l zy_LassoFinder_go (Cond.code zy_LassoFinder_go prog_1_method_12_code 4 (some .int) :: zTB) { frames := 6, cells := 1, slots := 6, locals := 81 } (va_Pc [.ref (ad 0), .int a0] (zPreY G K (wX ad K Value.null I J B D) sz)) (va_Qi (fun (r : Int32) (u : zS) => Post r u.1 u.2.1 u.2.2.1 u.2.2.2) (fun u t => zPost G K (va_A (wX ad K Value.null I J B D) sz) (wX ad K Value.null u.1 u.2.1 u.2.2.1 u.2.2.2) t) (va_A (wX ad K Value.null I J B D) sz)) (zYC (fun E (u : zS) => PX E u.1 u.2.1 u.2.2.1 u.2.2.2) (fun u => wX ad K Value.null u.1 u.2.1 u.2.2.1 u.2.2.2) G K (va_A (wX ad K Value.null I J B D) sz)) 1 6 (va_A (wX ad K Value.null I J B D) sz) := by
  refine zMetY (y := zy_LassoFinder_go) (av := [.ref (ad 0), .int a0]) (maxL := 4) (cc := prog_1_method_12_code) (ret := (some .int)) (W0 := (wX ad K Value.null I J B D)) (sz := sz) (G := G) (K := K) (wt := zTB) (mc := 1) (ms := 6) (Qf := fun A => va_Qi (fun (r : Int32) (u : zS) => Post r u.1 u.2.1 u.2.2.1 u.2.2.2) (fun u t => zPost G K A (wX ad K Value.null u.1 u.2.1 u.2.2.1 u.2.2.2) t) A) (Xf := fun A => (zYC (fun E (u : zS) => PX E u.1 u.2.1 u.2.2.1 u.2.2.2) (fun u => wX ad K Value.null u.1 u.2.1 u.2.2.1 u.2.2.2) G K A)) (by decide) (Nat.le_of_ble_eq_true rfl) ?_
  intro p e s m below meth c ls A hx hb hr hml hts hown hlocks hin hA hK H locs hw hsz hl hT hnt
  clear hsz
  have hown : s.vm.findClass "LassoFinder" = some m.cls := hown
  have C : zCy p l s m ([.ref (ad 0), .int a0] : List Value).toArray meth c A G K prog_1_method_12_code (some .int) 4 "LassoFinder" := ⟨hx, hb, hr, hml, hts, hown, hlocks, hA, hK, hT, hnt, hlt⟩
  have hl : lv_has ls 4 [(0, .ref (ad 0)), (1, .int a0)] := hl
  have hw : zW G A s.heap (wX ad K Value.null I J B D) H locs := hw
  unfold wp_LassoFinder_go_N at hok
  refine lv_aload_n hx hb zd_LassoFinder_go_0 rfl (lv_at hl 0 rfl) ?_
  refine z_get (v := .int (I 0)) hx hb hts hown hK hw zZ0 0 wX_g0 10 (by decide) zn_297 rfl zd_LassoFinder_go_1 ?_
  refine lv_iconst (v := (-1)) hx hb zd_LassoFinder_go_4 (by decide) ?_
  refine lv_icmp_ne (tgt := 16) hx hb zd_LassoFinder_go_5 (by decide) (fun hc1 => ?_) (fun hc1 => ?_)
  · have hok := hok.1 hc1
    refine lv_aload_n hx hb zd_LassoFinder_go_16 rfl (lv_at hl 0 rfl) ?_
    refine z_get (v := .ref (ad 12)) hx hb hts hown hK hw zZ0 0 wX_g0 9 (by decide) zn_235 rfl zd_LassoFinder_go_17 ?_
    refine lv_aload_n hx hb zd_LassoFinder_go_20 rfl (lv_at hl 0 rfl) ?_
    refine z_get (v := .int (I 0)) hx hb hts hown hK hw zZ0 0 wX_g0 10 (by decide) zn_297 rfl zd_LassoFinder_go_21 ?_
    refine va_iald (f := (B 0)) hx hb hK hw.1 12 0 wX_a12 rfl hok.1 zd_LassoFinder_go_24 ?_
    have hok := hok.2
    refine lv_topi (fun z2 ez2 => ?_)
    have hok := hok z2 ez2
    refine lv_istore_n hx hb zd_LassoFinder_go_25 rfl hl (by decide) rfl (fun ls hl => ?_)
    have hl : lv_has ls 4 [(2, .int z2), (0, .ref (ad 0)), (1, .int a0)] := hl
    refine lv_iload_n hx hb zd_LassoFinder_go_26 rfl (lv_at hl 2 rfl) ?_
    refine lv_if_lt (tgt := 42) hx hb zd_LassoFinder_go_27 (by decide) (fun hc3 => ?_) (fun hc3 => ?_)
    · have hok := hok.1 hc3
      exact wJ_LassoFinder_go_N_42 G K ad a0 Post PX C I J B D ls H locs hok (lv_sub hl [] rfl) hw
    · have hok := hok.2 hc3
      refine lv_iload_n hx hb zd_LassoFinder_go_30 rfl (lv_at hl 2 rfl) ?_
      refine lv_aload_n hx hb zd_LassoFinder_go_31 rfl (lv_at hl 1 rfl) ?_
      refine z_get (v := .ref (ad 8)) hx hb hts hown hK hw zZ0 0 wX_g0 5 (by decide) zn_298 rfl zd_LassoFinder_go_32 ?_
      refine lv_iload_n hx hb zd_LassoFinder_go_35 rfl (lv_at hl 0 rfl) ?_
      refine z_calli (w1 := fun (u : zS) => wX ad K Value.null u.1 u.2.1 u.2.2.1 u.2.2.2) (wr := []) (z_runV (q0 := 8) (wc := (wX ad K Value.null I J B D)) (As := [.int z2]) (rest := [.int a0]) ⟨hx, hb, hml, hown, hts⟩ (w_Graph_stepsFrom l G K ad Value.null I J B D z2 _ H.size hok) zf_Graph_stepsFrom zn_296 ⟨Nat.le_of_ble_eq_true rfl, Nat.le_of_ble_eq_true rfl⟩ hK hw (List.range 65) wX_all wX_nd wX_g8 rfl rfl hl.1 rfl (Nat.le_of_ble_eq_true rfl) zd_LassoFinder_go_36 ⟨Nat.le_of_ble_eq_true rfl, Nat.le_of_ble_eq_true rfl⟩) hw hA (List.range 65) [] wX_all rfl (by decide) (fun i hi => by cases hi) (fun r4 u H locs hok hw => ?_)
      obtain ⟨I4, J4, B4, D4⟩ := u
      dsimp only at hok
      have hw : zW G A s.heap (wX ad K Value.null I4 J4 B4 D4) H locs := hw
      refine lv_icmp_lt (tgt := 50) hx hb zd_LassoFinder_go_39 (by decide) (fun hc5 => ?_) (fun hc5 => ?_)
      · have hok := hok.1 hc5
        refine lv_aload_n hx hb zd_LassoFinder_go_50 rfl (lv_at hl 1 rfl) ?_
        refine z_get (v := .int (I4 0)) hx hb hts hown hK hw zZ0 0 wX_g0 10 (by decide) zn_297 rfl zd_LassoFinder_go_51 ?_
        refine lv_bipush (v := 60) hx hb zd_LassoFinder_go_54 (by decide) ?_
        refine lv_icmp_ne (tgt := 67) hx hb zd_LassoFinder_go_56 (by decide) (fun hc6 => ?_) (fun hc6 => ?_)
        · have hok := hok.1 hc6
          refine lv_aload_n hx hb zd_LassoFinder_go_67 rfl (lv_at hl 1 rfl) ?_
          refine z_get (v := .ref (ad 8)) hx hb hts hown hK hw zZ0 0 wX_g0 5 (by decide) zn_298 rfl zd_LassoFinder_go_68 ?_
          refine z_get (v := .ref (ad 47)) hx hb hts hown hK hw zZ2 8 wX_g8 2 (by decide) zn_570 rfl zd_LassoFinder_go_71 ?_
          refine lv_iload_n hx hb zd_LassoFinder_go_74 rfl (lv_at hl 0 rfl) ?_
          refine va_iald (f := (B4 32)) hx hb hK hw.1 47 0 wX_a47 rfl hok.1 zd_LassoFinder_go_75 ?_
          have hok := hok.2
          refine lv_topi (fun z7 ez7 => ?_)
          have hok := hok z7 ez7
          refine lv_iload_n hx hb zd_LassoFinder_go_76 rfl (lv_at hl 2 rfl) ?_
          refine lv_iadd hx hb zd_LassoFinder_go_77 ?_
          refine lv_topi (fun z8 ez8 => ?_)
          have hok := hok z8 ez8
          refine lv_istore_n hx hb zd_LassoFinder_go_78 rfl hl (by decide) rfl (fun ls hl => ?_)
          have hl : lv_has ls 4 [(3, .int z8), (2, .int z2), (0, .ref (ad 0)), (1, .int a0)] := hl
          refine lv_aload_n hx hb zd_LassoFinder_go_79 rfl (lv_at hl 2 rfl) ?_
          refine lv_dup hx hb zd_LassoFinder_go_80 rfl ?_
          refine z_get (v := .int (I4 0)) hx hb hts hown hK hw zZ0 0 wX_g0 10 (by decide) zn_297 rfl zd_LassoFinder_go_81 ?_
          refine lv_iconst (v := 1) hx hb zd_LassoFinder_go_84 (by decide) ?_
          refine lv_iadd hx hb zd_LassoFinder_go_85 ?_
          refine lv_topi (fun z9 ez9 => ?_)
          have hok := hok z9 ez9
          refine z_put (v := .int z9) hx hb hts hown hK hw zZ0 0 wX_g0 10 (by decide) zn_297 rfl rfl rfl (Nat.le_of_ble_eq_true rfl) zd_LassoFinder_go_86 (fun H locs hw => ?_)
          have hw := wX_sI0 hw
          refine lv_aload_n hx hb zd_LassoFinder_go_89 rfl (lv_at hl 2 rfl) ?_
          refine z_get (v := .ref (ad 12)) hx hb hts hown hK hw zZ0 0 wX_g0 9 (by decide) zn_235 rfl zd_LassoFinder_go_90 ?_
          refine lv_aload_n hx hb zd_LassoFinder_go_93 rfl (lv_at hl 2 rfl) ?_
          refine z_get (v := .int z9) hx hb hts hown hK hw zZ0 0 wX_g0 10 (by decide) zn_297 rfl zd_LassoFinder_go_94 ?_
          refine lv_aload_n hx hb zd_LassoFinder_go_97 rfl (lv_at hl 2 rfl) ?_
          refine z_get (v := .ref (ad 8)) hx hb hts hown hK hw zZ0 0 wX_g0 5 (by decide) zn_298 rfl zd_LassoFinder_go_98 ?_
          refine z_get (v := .ref (ad 49)) hx hb hts hown hK hw zZ2 8 wX_g8 4 (by decide) zn_571 rfl zd_LassoFinder_go_101 ?_
          refine lv_iload_n hx hb zd_LassoFinder_go_104 rfl (lv_at hl 0 rfl) ?_
          refine va_iald (f := (B4 34)) hx hb hK hw.1 49 0 wX_a49 rfl hok.1 zd_LassoFinder_go_105 ?_
          have hok := hok.2
          refine lv_topi (fun z10 ez10 => ?_)
          have hok := hok z10 ez10
          refine va_iast (f := (B4 0)) hx hb hK hw.1 hw.2.1 hw.2.2 12 0 wX_a12 rfl hok.1 zd_LassoFinder_go_106 (fun H locs w91 w92 w93 => ?_)
          have hok := hok.2
          have hw := wX_t12 ⟨w91, w92, w93⟩
          refine lv_aload_n hx hb zd_LassoFinder_go_107 rfl (lv_at hl 2 rfl) ?_
          refine z_get (v := .ref (ad 8)) hx hb hts hown hK hw zZ0 0 wX_g0 5 (by decide) zn_298 rfl zd_LassoFinder_go_108 ?_
          refine z_get (v := .ref (ad 50)) hx hb hts hown hK hw zZ2 8 wX_g8 5 (by decide) zn_572 rfl zd_LassoFinder_go_111 ?_
          refine lv_iload_n hx hb zd_LassoFinder_go_114 rfl (lv_at hl 0 rfl) ?_
          refine va_iald (f := (B4 35)) hx hb hK hw.1 50 0 wX_a50 rfl hok.1 zd_LassoFinder_go_115 ?_
          have hok := hok.2
          refine lv_topi (fun z11 ez11 => ?_)
          have hok := hok z11 ez11
          exact zy_ret (z_iret (u := ((upd I4 0 z9), J4, (va_up B4 0 (upd (B4 0) z9.toNatClampNeg z10)), D4)) hx hb hr hlocks rfl hw (List.range 65) wX_all wX_nd hok (Nat.le_of_ble_eq_true rfl) (Nat.le_of_ble_eq_true rfl) zd_LassoFinder_go_116)
        · have hok := hok.2 hc6
          exact z_ythrow (u := (I4, J4, B4, D4)) (names := ["java/lang/RuntimeException", "java/lang/Exception"]) hx hb hlt hts hown hnt hlocks hT (by rw [hml]; exact hl.1) (by decide +kernel) (by decide +kernel) zn_576 zn_577 zn_578 zx_3 hw (List.range 65) wX_all wX_nd hok zd_LassoFinder_go_59 zd_LassoFinder_go_62 zd_LassoFinder_go_63 zd_LassoFinder_go_66 (Nat.le_of_ble_eq_true rfl) (Nat.le_of_ble_eq_true rfl) (Nat.le_of_ble_eq_true rfl) (Nat.le_of_ble_eq_true rfl) (Nat.le_of_ble_eq_true rfl) (Nat.le_of_ble_eq_true rfl)
      · have hok := hok.2 hc5
        exact wJ_LassoFinder_go_N_42 G K ad a0 Post PX C I4 J4 B4 D4 ls H locs hok (lv_sub hl [] rfl) hw
  · have hok := hok.2 hc1
    exact z_ythrow (u := (I, J, B, D)) (names := ["java/lang/RuntimeException", "java/lang/Exception"]) hx hb hlt hts hown hnt hlocks hT (by rw [hml]; exact hl.1) (by decide +kernel) (by decide +kernel) zn_567 zn_568 zn_569 zx_1 hw (List.range 65) wX_all wX_nd hok zd_LassoFinder_go_8 zd_LassoFinder_go_11 zd_LassoFinder_go_12 zd_LassoFinder_go_15 (Nat.le_of_ble_eq_true rfl) (Nat.le_of_ble_eq_true rfl) (Nat.le_of_ble_eq_true rfl) (Nat.le_of_ble_eq_true rfl) (Nat.le_of_ble_eq_true rfl) (Nat.le_of_ble_eq_true rfl)
def wc_LassoFinder_value_N_29 (a0 : Int32) (Post : Int32 → (Nat → Int32) → (Nat → Int64) → (Nat → Nat → Int32) → (Nat → Nat → Int64) → Prop)  (I : Nat → Int32) (J : Nat → Int64) (B : Nat → Nat → Int32) (D : Nat → Nat → Int64) : Prop :=
  Post (-1) I J B D
def wp_LassoFinder_value_N (I : Nat → Int32) (J : Nat → Int64) (B : Nat → Nat → Int32) (D : Nat → Nat → Int64) (a0 : Int32) (Post : Int32 → (Nat → Int32) → (Nat → Int64) → (Nat → Nat → Int32) → (Nat → Nat → Int64) → Prop) : Prop :=
  wp_LassoFinder_standsOnWalk I J B D  (fun r1 I1 J1 B1 D1 => ((r1 = 0 → wc_LassoFinder_value_N_29 a0 Post I1 J1 B1 D1) ∧ (¬ r1 = 0 → ((a0 < 0 → wc_LassoFinder_value_N_29 a0 Post I1 J1 B1 D1) ∧ (¬ a0 < 0 → (((8 : Int32) ≤ a0 → wc_LassoFinder_value_N_29 a0 Post I1 J1 B1 D1) ∧ (¬ (8 : Int32) ≤ a0 → vp_in a0 8 ∧ ∀ z5 : Int32, z5 = ((B1 2) a0.toNatClampNeg) → ((¬ z5 = 0 → vp_in a0 8 ∧ ∀ z7 : Int32, z7 = ((B1 29) a0.toNatClampNeg) → Post z7 I1 J1 B1 D1) ∧ (z5 = 0 → wc_LassoFinder_value_N_29 a0 Post I1 J1 B1 D1)))))))))
set_option maxHeartbeats 8000000 in
set_option maxRecDepth 100000 in
theorem wJ_LassoFinder_value_N_29 {p : Program} {l : Launch} {e : Env} {s : State} {m : MethodId} {below : List Frame} {meth : Method} {c : Code} {A : Nat → Prop} (G : va_G) (K : Nat → ClassId) (ad : Nat → Nat) (a0 : Int32) (Post : Int32 → (Nat → Int32) → (Nat → Int64) → (Nat → Nat → Int32) → (Nat → Nat → Int64) → Prop) (C : zCx p s m ([.ref (ad 0), .int a0] : List Value).toArray meth c A G K prog_1_method_13_code (some .int) 2 "LassoFinder") : ∀  (I : Nat → Int32) (J : Nat → Int64) (B : Nat → Nat → Int32) (D : Nat → Nat → Int64) (ls : Array Slot) (H : Heap) (locs : List Loc), wc_LassoFinder_value_N_29 a0 Post  I J B D → lv_has ls 2 [] → zW G A s.heap (wX ad K Value.null I J B D) H locs → W p l e { frames := 2, cells := 0, slots := 0, locals := 47 } s m ([.ref (ad 0), .int a0] : List Value).toArray below meth c H locs 0 0 (MQ below (va_Qi (fun (r : Int32) (u : zS) => Post r u.1 u.2.1 u.2.2.1 u.2.2.2) (fun u t => zPost G K A (wX ad K Value.null u.1 u.2.1 u.2.2.1 u.2.2.2) t) A) ([.ref (ad 0), .int a0] : List Value).toArray s 0 0 A) (F0 m 29 ls []) := by
  obtain ⟨hx, hb, hr, hml, hts, hown, hlocks, hA, hK⟩ := id C
  intro  I J B D ls H locs hok hl hw
  unfold wc_LassoFinder_value_N_29 at hok
  refine lv_iconst (v := (-1)) hx hb zd_LassoFinder_value_29 (by decide) ?_
  exact (z_iret (u := (I, J, B, D)) hx hb hr hlocks rfl hw (List.range 65) wX_all wX_nd hok (Nat.le_of_ble_eq_true rfl) (Nat.le_of_ble_eq_true rfl) zd_LassoFinder_value_30)
set_option maxHeartbeats 8000000 in
set_option maxRecDepth 100000 in
theorem w_LassoFinder_value_N (l : Launch) (G : va_G) (K : Nat → ClassId) (ad : Nat → Nat) (I : Nat → Int32) (J : Nat → Int64) (B : Nat → Nat → Int32) (D : Nat → Nat → Int64) (a0 : Int32) (Post : Int32 → (Nat → Int32) → (Nat → Int64) → (Nat → Nat → Int32) → (Nat → Nat → Int64) → Prop) (sz : Nat) (hok : wp_LassoFinder_value_N I J B D a0 Post) : Met l zy_LassoFinder_value (Cond.code zy_LassoFinder_value prog_1_method_13_code 2 (some .int) :: zTB) { frames := 2, cells := 0, slots := 0, locals := 47 } (va_Pc [.ref (ad 0), .int a0] (zPre G K (wX ad K Value.null I J B D) sz)) (va_Qi (fun (r : Int32) (u : zS) => Post r u.1 u.2.1 u.2.2.1 u.2.2.2) (fun u t => zPost G K (va_A (wX ad K Value.null I J B D) sz) (wX ad K Value.null u.1 u.2.1 u.2.2.1 u.2.2.2) t) (va_A (wX ad K Value.null I J B D) sz)) 0 0 (va_A (wX ad K Value.null I J B D) sz) := by
  refine zMet (y := zy_LassoFinder_value) (av := [.ref (ad 0), .int a0]) (maxL := 2) (cc := prog_1_method_13_code) (ret := (some .int)) (W0 := (wX ad K Value.null I J B D)) (sz := sz) (G := G) (K := K) (wt := zTB) (mc := 0) (ms := 0) (Qf := fun A => va_Qi (fun (r : Int32) (u : zS) => Post r u.1 u.2.1 u.2.2.1 u.2.2.2) (fun u t => zPost G K A (wX ad K Value.null u.1 u.2.1 u.2.2.1 u.2.2.2) t) A) (by decide) (Nat.le_of_ble_eq_true rfl) ?_
  intro p e s m below meth c ls A hx hb hr hml hts hown hlocks hin hA hK H locs hw hsz hl
  clear hsz
  have hown : s.vm.findClass "LassoFinder" = some m.cls := hown
  have C : zCx p s m ([.ref (ad 0), .int a0] : List Value).toArray meth c A G K prog_1_method_13_code (some .int) 2 "LassoFinder" := ⟨hx, hb, hr, hml, hts, hown, hlocks, hA, hK⟩
  have hl : lv_has ls 2 [(0, .ref (ad 0)), (1, .int a0)] := hl
  have hw : zW G A s.heap (wX ad K Value.null I J B D) H locs := hw
  unfold wp_LassoFinder_value_N at hok
  refine lv_aload_n hx hb zd_LassoFinder_value_0 rfl (lv_at hl 0 rfl) ?_
  refine z_calli (w1 := fun (u : zS) => wX ad K Value.null u.1 u.2.1 u.2.2.1 u.2.2.2) (wr := []) (z_runV (q0 := 0) (wc := (wX ad K Value.null I J B D)) (As := []) (rest := []) ⟨hx, hb, hml, hown, hts⟩ (w_LassoFinder_standsOnWalk l G K ad Value.null I J B D  _ H.size hok) zf_LassoFinder_standsOnWalk zn_299 ⟨Nat.le_of_ble_eq_true rfl, Nat.le_of_ble_eq_true rfl⟩ hK hw (List.range 65) wX_all wX_nd wX_g0 rfl rfl hl.1 rfl (Nat.le_of_ble_eq_true rfl) zd_LassoFinder_value_1 ⟨Nat.le_of_ble_eq_true rfl, Nat.le_of_ble_eq_true rfl⟩) hw hA (List.range 65) [] wX_all rfl (by decide) (fun i hi => by cases hi) (fun r1 u H locs hok hw => ?_)
  obtain ⟨I1, J1, B1, D1⟩ := u
  dsimp only at hok
  have hw : zW G A s.heap (wX ad K Value.null I1 J1 B1 D1) H locs := hw
  refine lv_if_eq (tgt := 29) hx hb zd_LassoFinder_value_4 (by decide) (fun hc2 => ?_) (fun hc2 => ?_)
  · have hok := hok.1 hc2
    exact wJ_LassoFinder_value_N_29 G K ad a0 Post C I1 J1 B1 D1 ls H locs hok (lv_sub hl [] rfl) hw
  · have hok := hok.2 hc2
    refine lv_iload_n hx hb zd_LassoFinder_value_7 rfl (lv_at hl 1 rfl) ?_
    refine lv_if_lt (tgt := 29) hx hb zd_LassoFinder_value_8 (by decide) (fun hc3 => ?_) (fun hc3 => ?_)
    · have hok := hok.1 hc3
      exact wJ_LassoFinder_value_N_29 G K ad a0 Post C I1 J1 B1 D1 ls H locs hok (lv_sub hl [] rfl) hw
    · have hok := hok.2 hc3
      refine lv_iload_n hx hb zd_LassoFinder_value_11 rfl (lv_at hl 1 rfl) ?_
      refine lv_bipush (v := 8) hx hb zd_LassoFinder_value_12 (by decide) ?_
      refine lv_icmp_ge (tgt := 29) hx hb zd_LassoFinder_value_14 (by decide) (fun hc4 => ?_) (fun hc4 => ?_)
      · have hok := hok.1 hc4
        exact wJ_LassoFinder_value_N_29 G K ad a0 Post C I1 J1 B1 D1 ls H locs hok (lv_sub hl [] rfl) hw
      · have hok := hok.2 hc4
        refine lv_aload_n hx hb zd_LassoFinder_value_17 rfl (lv_at hl 0 rfl) ?_
        refine z_get (v := .ref (ad 2)) hx hb hts hown hK hw zZ0 0 wX_g0 1 (by decide) zn_301 rfl zd_LassoFinder_value_18 ?_
        refine z_get (v := .ref (ad 14)) hx hb hts hown hK hw zZ5 2 wX_g2 0 (by decide) zn_302 rfl zd_LassoFinder_value_21 ?_
        refine lv_iload_n hx hb zd_LassoFinder_value_24 rfl (lv_at hl 1 rfl) ?_
        refine va_iald (f := (B1 2)) hx hb hK hw.1 14 0 wX_a14 rfl hok.1 zd_LassoFinder_value_25 ?_
        have hok := hok.2
        refine lv_topi (fun z5 ez5 => ?_)
        have hok := hok z5 ez5
        refine lv_if_ne (tgt := 31) hx hb zd_LassoFinder_value_26 (by decide) (fun hc6 => ?_) (fun hc6 => ?_)
        · have hok := hok.1 hc6
          refine lv_aload_n hx hb zd_LassoFinder_value_31 rfl (lv_at hl 0 rfl) ?_
          refine z_get (v := .ref (ad 7)) hx hb hts hown hK hw zZ0 0 wX_g0 4 (by decide) zn_303 rfl zd_LassoFinder_value_32 ?_
          refine z_get (v := .ref (ad 43)) hx hb hts hown hK hw zZ7 7 wX_g7 3 (by decide) zn_304 rfl zd_LassoFinder_value_35 ?_
          refine lv_iload_n hx hb zd_LassoFinder_value_38 rfl (lv_at hl 1 rfl) ?_
          refine va_iald (f := (B1 29)) hx hb hK hw.1 43 0 wX_a43 rfl hok.1 zd_LassoFinder_value_39 ?_
          have hok := hok.2
          refine lv_topi (fun z7 ez7 => ?_)
          have hok := hok z7 ez7
          exact (z_iret (u := (I1, J1, B1, D1)) hx hb hr hlocks rfl hw (List.range 65) wX_all wX_nd hok (Nat.le_of_ble_eq_true rfl) (Nat.le_of_ble_eq_true rfl) zd_LassoFinder_value_40)
        · have hok := hok.2 hc6
          exact wJ_LassoFinder_value_N_29 G K ad a0 Post C I1 J1 B1 D1 ls H locs hok (lv_sub hl [] rfl) hw
def wc_LassoFinder_message_N_30 (a0 : Int32) (a1 : Int32) (Post : Int32 → (Nat → Int32) → (Nat → Int64) → (Nat → Nat → Int32) → (Nat → Nat → Int64) → Prop)  (I : Nat → Int32) (J : Nat → Int64) (B : Nat → Nat → Int32) (D : Nat → Nat → Int64) : Prop :=
  Post (-1) I J B D
def wc_LassoFinder_message_N_62 (a0 : Int32) (a1 : Int32) (Post : Int32 → (Nat → Int32) → (Nat → Int64) → (Nat → Nat → Int32) → (Nat → Nat → Int64) → Prop) (y0 : Int32) (I : Nat → Int32) (J : Nat → Int64) (B : Nat → Nat → Int32) (D : Nat → Nat → Int64) : Prop :=
  Post y0 I J B D
def wc_LassoFinder_message_N_49 (a0 : Int32) (a1 : Int32) (Post : Int32 → (Nat → Int32) → (Nat → Int64) → (Nat → Nat → Int32) → (Nat → Nat → Int64) → Prop)  (I : Nat → Int32) (J : Nat → Int64) (B : Nat → Nat → Int32) (D : Nat → Nat → Int64) : Prop :=
  wc_LassoFinder_message_N_62 a0 a1 Post (-1) I J B D
def wp_LassoFinder_message_N (I : Nat → Int32) (J : Nat → Int64) (B : Nat → Nat → Int32) (D : Nat → Nat → Int64) (a0 : Int32) (a1 : Int32) (Post : Int32 → (Nat → Int32) → (Nat → Int64) → (Nat → Nat → Int32) → (Nat → Nat → Int64) → Prop) : Prop :=
  wp_LassoFinder_standsOnWalk I J B D  (fun r1 I1 J1 B1 D1 => ((r1 = 0 → wc_LassoFinder_message_N_30 a0 a1 Post I1 J1 B1 D1) ∧ (¬ r1 = 0 → ((a0 < 0 → wc_LassoFinder_message_N_30 a0 a1 Post I1 J1 B1 D1) ∧ (¬ a0 < 0 → (((8 : Int32) ≤ a0 → wc_LassoFinder_message_N_30 a0 a1 Post I1 J1 B1 D1) ∧ (¬ (8 : Int32) ≤ a0 → vp_in a0 8 ∧ ∀ z5 : Int32, z5 = ((B1 2) a0.toNatClampNeg) → ((z5 = 2 → ((a1 < 0 → wc_LassoFinder_message_N_49 a0 a1 Post I1 J1 B1 D1) ∧ (¬ a1 < 0 → vp_in a0 8 ∧ ∀ z8 : Int32, z8 = ((B1 29) a0.toNatClampNeg) → ((a1 < z8 → wp_Situation_messageAt I1 J1 B1 D1 a0 a1 (fun r10 I10 J10 B10 D10 => wc_LassoFinder_message_N_62 a0 a1 Post r10 I10 J10 B10 D10)) ∧ (¬ a1 < z8 → wc_LassoFinder_message_N_49 a0 a1 Post I1 J1 B1 D1))))) ∧ (¬ z5 = 2 → wc_LassoFinder_message_N_30 a0 a1 Post I1 J1 B1 D1)))))))))
set_option maxHeartbeats 8000000 in
set_option maxRecDepth 100000 in
theorem wJ_LassoFinder_message_N_30 {p : Program} {l : Launch} {e : Env} {s : State} {m : MethodId} {below : List Frame} {meth : Method} {c : Code} {A : Nat → Prop} (G : va_G) (K : Nat → ClassId) (ad : Nat → Nat) (a0 : Int32) (a1 : Int32) (Post : Int32 → (Nat → Int32) → (Nat → Int64) → (Nat → Nat → Int32) → (Nat → Nat → Int64) → Prop) (C : zCx p s m ([.ref (ad 0), .int a0, .int a1] : List Value).toArray meth c A G K prog_1_method_14_code (some .int) 3 "LassoFinder") : ∀  (I : Nat → Int32) (J : Nat → Int64) (B : Nat → Nat → Int32) (D : Nat → Nat → Int64) (ls : Array Slot) (H : Heap) (locs : List Loc), wc_LassoFinder_message_N_30 a0 a1 Post  I J B D → lv_has ls 3 [] → zW G A s.heap (wX ad K Value.null I J B D) H locs → W p l e { frames := 2, cells := 0, slots := 0, locals := 47 } s m ([.ref (ad 0), .int a0, .int a1] : List Value).toArray below meth c H locs 0 0 (MQ below (va_Qi (fun (r : Int32) (u : zS) => Post r u.1 u.2.1 u.2.2.1 u.2.2.2) (fun u t => zPost G K A (wX ad K Value.null u.1 u.2.1 u.2.2.1 u.2.2.2) t) A) ([.ref (ad 0), .int a0, .int a1] : List Value).toArray s 0 0 A) (F0 m 30 ls []) := by
  obtain ⟨hx, hb, hr, hml, hts, hown, hlocks, hA, hK⟩ := id C
  intro  I J B D ls H locs hok hl hw
  unfold wc_LassoFinder_message_N_30 at hok
  refine lv_iconst (v := (-1)) hx hb zd_LassoFinder_message_30 (by decide) ?_
  exact (z_iret (u := (I, J, B, D)) hx hb hr hlocks rfl hw (List.range 65) wX_all wX_nd hok (Nat.le_of_ble_eq_true rfl) (Nat.le_of_ble_eq_true rfl) zd_LassoFinder_message_31)
set_option maxHeartbeats 8000000 in
set_option maxRecDepth 100000 in
theorem wJ_LassoFinder_message_N_62 {p : Program} {l : Launch} {e : Env} {s : State} {m : MethodId} {below : List Frame} {meth : Method} {c : Code} {A : Nat → Prop} (G : va_G) (K : Nat → ClassId) (ad : Nat → Nat) (a0 : Int32) (a1 : Int32) (Post : Int32 → (Nat → Int32) → (Nat → Int64) → (Nat → Nat → Int32) → (Nat → Nat → Int64) → Prop) (C : zCx p s m ([.ref (ad 0), .int a0, .int a1] : List Value).toArray meth c A G K prog_1_method_14_code (some .int) 3 "LassoFinder") : ∀ (y0 : Int32) (I : Nat → Int32) (J : Nat → Int64) (B : Nat → Nat → Int32) (D : Nat → Nat → Int64) (ls : Array Slot) (H : Heap) (locs : List Loc), wc_LassoFinder_message_N_62 a0 a1 Post y0 I J B D → lv_has ls 3 [] → zW G A s.heap (wX ad K Value.null I J B D) H locs → W p l e { frames := 2, cells := 0, slots := 0, locals := 47 } s m ([.ref (ad 0), .int a0, .int a1] : List Value).toArray below meth c H locs 0 0 (MQ below (va_Qi (fun (r : Int32) (u : zS) => Post r u.1 u.2.1 u.2.2.1 u.2.2.2) (fun u t => zPost G K A (wX ad K Value.null u.1 u.2.1 u.2.2.1 u.2.2.2) t) A) ([.ref (ad 0), .int a0, .int a1] : List Value).toArray s 0 0 A) (F0 m 62 ls [.int y0]) := by
  obtain ⟨hx, hb, hr, hml, hts, hown, hlocks, hA, hK⟩ := id C
  intro y0 I J B D ls H locs hok hl hw
  unfold wc_LassoFinder_message_N_62 at hok
  exact (z_iret (u := (I, J, B, D)) hx hb hr hlocks rfl hw (List.range 65) wX_all wX_nd hok (Nat.le_of_ble_eq_true rfl) (Nat.le_of_ble_eq_true rfl) zd_LassoFinder_message_62)
set_option maxHeartbeats 8000000 in
set_option maxRecDepth 100000 in
theorem wJ_LassoFinder_message_N_49 {p : Program} {l : Launch} {e : Env} {s : State} {m : MethodId} {below : List Frame} {meth : Method} {c : Code} {A : Nat → Prop} (G : va_G) (K : Nat → ClassId) (ad : Nat → Nat) (a0 : Int32) (a1 : Int32) (Post : Int32 → (Nat → Int32) → (Nat → Int64) → (Nat → Nat → Int32) → (Nat → Nat → Int64) → Prop) (C : zCx p s m ([.ref (ad 0), .int a0, .int a1] : List Value).toArray meth c A G K prog_1_method_14_code (some .int) 3 "LassoFinder") : ∀  (I : Nat → Int32) (J : Nat → Int64) (B : Nat → Nat → Int32) (D : Nat → Nat → Int64) (ls : Array Slot) (H : Heap) (locs : List Loc), wc_LassoFinder_message_N_49 a0 a1 Post  I J B D → lv_has ls 3 [] → zW G A s.heap (wX ad K Value.null I J B D) H locs → W p l e { frames := 2, cells := 0, slots := 0, locals := 47 } s m ([.ref (ad 0), .int a0, .int a1] : List Value).toArray below meth c H locs 0 0 (MQ below (va_Qi (fun (r : Int32) (u : zS) => Post r u.1 u.2.1 u.2.2.1 u.2.2.2) (fun u t => zPost G K A (wX ad K Value.null u.1 u.2.1 u.2.2.1 u.2.2.2) t) A) ([.ref (ad 0), .int a0, .int a1] : List Value).toArray s 0 0 A) (F0 m 49 ls []) := by
  obtain ⟨hx, hb, hr, hml, hts, hown, hlocks, hA, hK⟩ := id C
  intro  I J B D ls H locs hok hl hw
  unfold wc_LassoFinder_message_N_49 at hok
  refine lv_iconst (v := (-1)) hx hb zd_LassoFinder_message_49 (by decide) ?_
  refine lv_goto (tgt := 62) hx hb zd_LassoFinder_message_50 (by decide) ?_
  exact wJ_LassoFinder_message_N_62 G K ad a0 a1 Post C (-1) I J B D ls H locs hok (lv_sub hl [] rfl) hw
set_option maxHeartbeats 8000000 in
set_option maxRecDepth 100000 in
theorem w_LassoFinder_message_N (l : Launch) (G : va_G) (K : Nat → ClassId) (ad : Nat → Nat) (I : Nat → Int32) (J : Nat → Int64) (B : Nat → Nat → Int32) (D : Nat → Nat → Int64) (a0 : Int32) (a1 : Int32) (Post : Int32 → (Nat → Int32) → (Nat → Int64) → (Nat → Nat → Int32) → (Nat → Nat → Int64) → Prop) (sz : Nat) (hok : wp_LassoFinder_message_N I J B D a0 a1 Post) : Met l zy_LassoFinder_message (Cond.code zy_LassoFinder_message prog_1_method_14_code 3 (some .int) :: zTB) { frames := 2, cells := 0, slots := 0, locals := 47 } (va_Pc [.ref (ad 0), .int a0, .int a1] (zPre G K (wX ad K Value.null I J B D) sz)) (va_Qi (fun (r : Int32) (u : zS) => Post r u.1 u.2.1 u.2.2.1 u.2.2.2) (fun u t => zPost G K (va_A (wX ad K Value.null I J B D) sz) (wX ad K Value.null u.1 u.2.1 u.2.2.1 u.2.2.2) t) (va_A (wX ad K Value.null I J B D) sz)) 0 0 (va_A (wX ad K Value.null I J B D) sz) := by
  refine zMet (y := zy_LassoFinder_message) (av := [.ref (ad 0), .int a0, .int a1]) (maxL := 3) (cc := prog_1_method_14_code) (ret := (some .int)) (W0 := (wX ad K Value.null I J B D)) (sz := sz) (G := G) (K := K) (wt := zTB) (mc := 0) (ms := 0) (Qf := fun A => va_Qi (fun (r : Int32) (u : zS) => Post r u.1 u.2.1 u.2.2.1 u.2.2.2) (fun u t => zPost G K A (wX ad K Value.null u.1 u.2.1 u.2.2.1 u.2.2.2) t) A) (by decide) (Nat.le_of_ble_eq_true rfl) ?_
  intro p e s m below meth c ls A hx hb hr hml hts hown hlocks hin hA hK H locs hw hsz hl
  clear hsz
  have hown : s.vm.findClass "LassoFinder" = some m.cls := hown
  have C : zCx p s m ([.ref (ad 0), .int a0, .int a1] : List Value).toArray meth c A G K prog_1_method_14_code (some .int) 3 "LassoFinder" := ⟨hx, hb, hr, hml, hts, hown, hlocks, hA, hK⟩
  have hl : lv_has ls 3 [(0, .ref (ad 0)), (1, .int a0), (2, .int a1)] := hl
  have hw : zW G A s.heap (wX ad K Value.null I J B D) H locs := hw
  unfold wp_LassoFinder_message_N at hok
  refine lv_aload_n hx hb zd_LassoFinder_message_0 rfl (lv_at hl 0 rfl) ?_
  refine z_calli (w1 := fun (u : zS) => wX ad K Value.null u.1 u.2.1 u.2.2.1 u.2.2.2) (wr := []) (z_runV (q0 := 0) (wc := (wX ad K Value.null I J B D)) (As := []) (rest := []) ⟨hx, hb, hml, hown, hts⟩ (w_LassoFinder_standsOnWalk l G K ad Value.null I J B D  _ H.size hok) zf_LassoFinder_standsOnWalk zn_299 ⟨Nat.le_of_ble_eq_true rfl, Nat.le_of_ble_eq_true rfl⟩ hK hw (List.range 65) wX_all wX_nd wX_g0 rfl rfl hl.1 rfl (Nat.le_of_ble_eq_true rfl) zd_LassoFinder_message_1 ⟨Nat.le_of_ble_eq_true rfl, Nat.le_of_ble_eq_true rfl⟩) hw hA (List.range 65) [] wX_all rfl (by decide) (fun i hi => by cases hi) (fun r1 u H locs hok hw => ?_)
  obtain ⟨I1, J1, B1, D1⟩ := u
  dsimp only at hok
  have hw : zW G A s.heap (wX ad K Value.null I1 J1 B1 D1) H locs := hw
  refine lv_if_eq (tgt := 30) hx hb zd_LassoFinder_message_4 (by decide) (fun hc2 => ?_) (fun hc2 => ?_)
  · have hok := hok.1 hc2
    exact wJ_LassoFinder_message_N_30 G K ad a0 a1 Post C I1 J1 B1 D1 ls H locs hok (lv_sub hl [] rfl) hw
  · have hok := hok.2 hc2
    refine lv_iload_n hx hb zd_LassoFinder_message_7 rfl (lv_at hl 1 rfl) ?_
    refine lv_if_lt (tgt := 30) hx hb zd_LassoFinder_message_8 (by decide) (fun hc3 => ?_) (fun hc3 => ?_)
    · have hok := hok.1 hc3
      exact wJ_LassoFinder_message_N_30 G K ad a0 a1 Post C I1 J1 B1 D1 ls H locs hok (lv_sub hl [] rfl) hw
    · have hok := hok.2 hc3
      refine lv_iload_n hx hb zd_LassoFinder_message_11 rfl (lv_at hl 1 rfl) ?_
      refine lv_bipush (v := 8) hx hb zd_LassoFinder_message_12 (by decide) ?_
      refine lv_icmp_ge (tgt := 30) hx hb zd_LassoFinder_message_14 (by decide) (fun hc4 => ?_) (fun hc4 => ?_)
      · have hok := hok.1 hc4
        exact wJ_LassoFinder_message_N_30 G K ad a0 a1 Post C I1 J1 B1 D1 ls H locs hok (lv_sub hl [] rfl) hw
      · have hok := hok.2 hc4
        refine lv_aload_n hx hb zd_LassoFinder_message_17 rfl (lv_at hl 0 rfl) ?_
        refine z_get (v := .ref (ad 2)) hx hb hts hown hK hw zZ0 0 wX_g0 1 (by decide) zn_301 rfl zd_LassoFinder_message_18 ?_
        refine z_get (v := .ref (ad 14)) hx hb hts hown hK hw zZ5 2 wX_g2 0 (by decide) zn_302 rfl zd_LassoFinder_message_21 ?_
        refine lv_iload_n hx hb zd_LassoFinder_message_24 rfl (lv_at hl 1 rfl) ?_
        refine va_iald (f := (B1 2)) hx hb hK hw.1 14 0 wX_a14 rfl hok.1 zd_LassoFinder_message_25 ?_
        have hok := hok.2
        refine lv_topi (fun z5 ez5 => ?_)
        have hok := hok z5 ez5
        refine lv_iconst (v := 2) hx hb zd_LassoFinder_message_26 (by decide) ?_
        refine lv_icmp_eq (tgt := 32) hx hb zd_LassoFinder_message_27 (by decide) (fun hc6 => ?_) (fun hc6 => ?_)
        · have hok := hok.1 hc6
          refine lv_iload_n hx hb zd_LassoFinder_message_32 rfl (lv_at hl 2 rfl) ?_
          refine lv_if_lt (tgt := 49) hx hb zd_LassoFinder_message_33 (by decide) (fun hc7 => ?_) (fun hc7 => ?_)
          · have hok := hok.1 hc7
            exact wJ_LassoFinder_message_N_49 G K ad a0 a1 Post C I1 J1 B1 D1 ls H locs hok (lv_sub hl [] rfl) hw
          · have hok := hok.2 hc7
            refine lv_iload_n hx hb zd_LassoFinder_message_36 rfl (lv_at hl 2 rfl) ?_
            refine lv_aload_n hx hb zd_LassoFinder_message_37 rfl (lv_at hl 0 rfl) ?_
            refine z_get (v := .ref (ad 7)) hx hb hts hown hK hw zZ0 0 wX_g0 4 (by decide) zn_303 rfl zd_LassoFinder_message_38 ?_
            refine z_get (v := .ref (ad 43)) hx hb hts hown hK hw zZ7 7 wX_g7 3 (by decide) zn_304 rfl zd_LassoFinder_message_41 ?_
            refine lv_iload_n hx hb zd_LassoFinder_message_44 rfl (lv_at hl 1 rfl) ?_
            refine va_iald (f := (B1 29)) hx hb hK hw.1 43 0 wX_a43 rfl hok.1 zd_LassoFinder_message_45 ?_
            have hok := hok.2
            refine lv_topi (fun z8 ez8 => ?_)
            have hok := hok z8 ez8
            refine lv_icmp_lt (tgt := 53) hx hb zd_LassoFinder_message_46 (by decide) (fun hc9 => ?_) (fun hc9 => ?_)
            · have hok := hok.1 hc9
              refine lv_aload_n hx hb zd_LassoFinder_message_53 rfl (lv_at hl 0 rfl) ?_
              refine z_get (v := .ref (ad 7)) hx hb hts hown hK hw zZ0 0 wX_g0 4 (by decide) zn_303 rfl zd_LassoFinder_message_54 ?_
              refine lv_iload_n hx hb zd_LassoFinder_message_57 rfl (lv_at hl 1 rfl) ?_
              refine lv_iload_n hx hb zd_LassoFinder_message_58 rfl (lv_at hl 2 rfl) ?_
              refine z_calli (w1 := fun (u : zS) => wX ad K Value.null u.1 u.2.1 u.2.2.1 u.2.2.2) (wr := []) (z_runV (q0 := 7) (wc := (wX ad K Value.null I1 J1 B1 D1)) (As := [.int a0, .int a1]) (rest := []) ⟨hx, hb, hml, hown, hts⟩ (w_Situation_messageAt l G K ad Value.null I1 J1 B1 D1 a0 a1 _ H.size hok) zf_Situation_messageAt zn_312 ⟨Nat.le_of_ble_eq_true rfl, Nat.le_of_ble_eq_true rfl⟩ hK hw (List.range 65) wX_all wX_nd wX_g7 rfl rfl hl.1 rfl (Nat.le_of_ble_eq_true rfl) zd_LassoFinder_message_59 ⟨Nat.le_of_ble_eq_true rfl, Nat.le_of_ble_eq_true rfl⟩) hw hA (List.range 65) [] wX_all rfl (by decide) (fun i hi => by cases hi) (fun r10 u H locs hok hw => ?_)
              obtain ⟨I10, J10, B10, D10⟩ := u
              dsimp only at hok
              have hw : zW G A s.heap (wX ad K Value.null I10 J10 B10 D10) H locs := hw
              exact wJ_LassoFinder_message_N_62 G K ad a0 a1 Post C r10 I10 J10 B10 D10 ls H locs hok (lv_sub hl [] rfl) hw
            · have hok := hok.2 hc9
              exact wJ_LassoFinder_message_N_49 G K ad a0 a1 Post C I1 J1 B1 D1 ls H locs hok (lv_sub hl [] rfl) hw
        · have hok := hok.2 hc6
          exact wJ_LassoFinder_message_N_30 G K ad a0 a1 Post C I1 J1 B1 D1 ls H locs hok (lv_sub hl [] rfl) hw
def wc_LassoFinder_point_N_22 (a0 : Int32) (Post : Int32 → (Nat → Int32) → (Nat → Int64) → (Nat → Nat → Int32) → (Nat → Nat → Int64) → Prop)  (I : Nat → Int32) (J : Nat → Int64) (B : Nat → Nat → Int32) (D : Nat → Nat → Int64) : Prop :=
  Post (-1) I J B D
def wp_LassoFinder_point_N (I : Nat → Int32) (J : Nat → Int64) (B : Nat → Nat → Int32) (D : Nat → Nat → Int64) (a0 : Int32) (Post : Int32 → (Nat → Int32) → (Nat → Int64) → (Nat → Nat → Int32) → (Nat → Nat → Int64) → Prop) : Prop :=
  wp_LassoFinder_standsOnWalk I J B D  (fun r1 I1 J1 B1 D1 => ((r1 = 0 → wc_LassoFinder_point_N_22 a0 Post I1 J1 B1 D1) ∧ (¬ r1 = 0 → ((a0 < 0 → wc_LassoFinder_point_N_22 a0 Post I1 J1 B1 D1) ∧ (¬ a0 < 0 → ((a0 < (I1 10) → vp_in a0 4 ∧ ∀ z5 : Int32, z5 = ((B1 31) a0.toNatClampNeg) → Post z5 I1 J1 B1 D1) ∧ (¬ a0 < (I1 10) → wc_LassoFinder_point_N_22 a0 Post I1 J1 B1 D1)))))))
set_option maxHeartbeats 8000000 in
set_option maxRecDepth 100000 in
theorem wJ_LassoFinder_point_N_22 {p : Program} {l : Launch} {e : Env} {s : State} {m : MethodId} {below : List Frame} {meth : Method} {c : Code} {A : Nat → Prop} (G : va_G) (K : Nat → ClassId) (ad : Nat → Nat) (a0 : Int32) (Post : Int32 → (Nat → Int32) → (Nat → Int64) → (Nat → Nat → Int32) → (Nat → Nat → Int64) → Prop) (C : zCx p s m ([.ref (ad 0), .int a0] : List Value).toArray meth c A G K prog_1_method_15_code (some .int) 2 "LassoFinder") : ∀  (I : Nat → Int32) (J : Nat → Int64) (B : Nat → Nat → Int32) (D : Nat → Nat → Int64) (ls : Array Slot) (H : Heap) (locs : List Loc), wc_LassoFinder_point_N_22 a0 Post  I J B D → lv_has ls 2 [] → zW G A s.heap (wX ad K Value.null I J B D) H locs → W p l e { frames := 2, cells := 0, slots := 0, locals := 47 } s m ([.ref (ad 0), .int a0] : List Value).toArray below meth c H locs 0 0 (MQ below (va_Qi (fun (r : Int32) (u : zS) => Post r u.1 u.2.1 u.2.2.1 u.2.2.2) (fun u t => zPost G K A (wX ad K Value.null u.1 u.2.1 u.2.2.1 u.2.2.2) t) A) ([.ref (ad 0), .int a0] : List Value).toArray s 0 0 A) (F0 m 22 ls []) := by
  obtain ⟨hx, hb, hr, hml, hts, hown, hlocks, hA, hK⟩ := id C
  intro  I J B D ls H locs hok hl hw
  unfold wc_LassoFinder_point_N_22 at hok
  refine lv_iconst (v := (-1)) hx hb zd_LassoFinder_point_22 (by decide) ?_
  exact (z_iret (u := (I, J, B, D)) hx hb hr hlocks rfl hw (List.range 65) wX_all wX_nd hok (Nat.le_of_ble_eq_true rfl) (Nat.le_of_ble_eq_true rfl) zd_LassoFinder_point_23)
set_option maxHeartbeats 8000000 in
set_option maxRecDepth 100000 in
theorem w_LassoFinder_point_N (l : Launch) (G : va_G) (K : Nat → ClassId) (ad : Nat → Nat) (I : Nat → Int32) (J : Nat → Int64) (B : Nat → Nat → Int32) (D : Nat → Nat → Int64) (a0 : Int32) (Post : Int32 → (Nat → Int32) → (Nat → Int64) → (Nat → Nat → Int32) → (Nat → Nat → Int64) → Prop) (sz : Nat) (hok : wp_LassoFinder_point_N I J B D a0 Post) : Met l zy_LassoFinder_point (Cond.code zy_LassoFinder_point prog_1_method_15_code 2 (some .int) :: zTB) { frames := 2, cells := 0, slots := 0, locals := 47 } (va_Pc [.ref (ad 0), .int a0] (zPre G K (wX ad K Value.null I J B D) sz)) (va_Qi (fun (r : Int32) (u : zS) => Post r u.1 u.2.1 u.2.2.1 u.2.2.2) (fun u t => zPost G K (va_A (wX ad K Value.null I J B D) sz) (wX ad K Value.null u.1 u.2.1 u.2.2.1 u.2.2.2) t) (va_A (wX ad K Value.null I J B D) sz)) 0 0 (va_A (wX ad K Value.null I J B D) sz) := by
  refine zMet (y := zy_LassoFinder_point) (av := [.ref (ad 0), .int a0]) (maxL := 2) (cc := prog_1_method_15_code) (ret := (some .int)) (W0 := (wX ad K Value.null I J B D)) (sz := sz) (G := G) (K := K) (wt := zTB) (mc := 0) (ms := 0) (Qf := fun A => va_Qi (fun (r : Int32) (u : zS) => Post r u.1 u.2.1 u.2.2.1 u.2.2.2) (fun u t => zPost G K A (wX ad K Value.null u.1 u.2.1 u.2.2.1 u.2.2.2) t) A) (by decide) (Nat.le_of_ble_eq_true rfl) ?_
  intro p e s m below meth c ls A hx hb hr hml hts hown hlocks hin hA hK H locs hw hsz hl
  clear hsz
  have hown : s.vm.findClass "LassoFinder" = some m.cls := hown
  have C : zCx p s m ([.ref (ad 0), .int a0] : List Value).toArray meth c A G K prog_1_method_15_code (some .int) 2 "LassoFinder" := ⟨hx, hb, hr, hml, hts, hown, hlocks, hA, hK⟩
  have hl : lv_has ls 2 [(0, .ref (ad 0)), (1, .int a0)] := hl
  have hw : zW G A s.heap (wX ad K Value.null I J B D) H locs := hw
  unfold wp_LassoFinder_point_N at hok
  refine lv_aload_n hx hb zd_LassoFinder_point_0 rfl (lv_at hl 0 rfl) ?_
  refine z_calli (w1 := fun (u : zS) => wX ad K Value.null u.1 u.2.1 u.2.2.1 u.2.2.2) (wr := []) (z_runV (q0 := 0) (wc := (wX ad K Value.null I J B D)) (As := []) (rest := []) ⟨hx, hb, hml, hown, hts⟩ (w_LassoFinder_standsOnWalk l G K ad Value.null I J B D  _ H.size hok) zf_LassoFinder_standsOnWalk zn_299 ⟨Nat.le_of_ble_eq_true rfl, Nat.le_of_ble_eq_true rfl⟩ hK hw (List.range 65) wX_all wX_nd wX_g0 rfl rfl hl.1 rfl (Nat.le_of_ble_eq_true rfl) zd_LassoFinder_point_1 ⟨Nat.le_of_ble_eq_true rfl, Nat.le_of_ble_eq_true rfl⟩) hw hA (List.range 65) [] wX_all rfl (by decide) (fun i hi => by cases hi) (fun r1 u H locs hok hw => ?_)
  obtain ⟨I1, J1, B1, D1⟩ := u
  dsimp only at hok
  have hw : zW G A s.heap (wX ad K Value.null I1 J1 B1 D1) H locs := hw
  refine lv_if_eq (tgt := 22) hx hb zd_LassoFinder_point_4 (by decide) (fun hc2 => ?_) (fun hc2 => ?_)
  · have hok := hok.1 hc2
    exact wJ_LassoFinder_point_N_22 G K ad a0 Post C I1 J1 B1 D1 ls H locs hok (lv_sub hl [] rfl) hw
  · have hok := hok.2 hc2
    refine lv_iload_n hx hb zd_LassoFinder_point_7 rfl (lv_at hl 1 rfl) ?_
    refine lv_if_lt (tgt := 22) hx hb zd_LassoFinder_point_8 (by decide) (fun hc3 => ?_) (fun hc3 => ?_)
    · have hok := hok.1 hc3
      exact wJ_LassoFinder_point_N_22 G K ad a0 Post C I1 J1 B1 D1 ls H locs hok (lv_sub hl [] rfl) hw
    · have hok := hok.2 hc3
      refine lv_iload_n hx hb zd_LassoFinder_point_11 rfl (lv_at hl 1 rfl) ?_
      refine lv_aload_n hx hb zd_LassoFinder_point_12 rfl (lv_at hl 0 rfl) ?_
      refine z_get (v := .ref (ad 3)) hx hb hts hown hK hw zZ0 0 wX_g0 2 (by decide) zn_313 rfl zd_LassoFinder_point_13 ?_
      refine z_get (v := .int (I1 10)) hx hb hts hown hK hw zZ6 3 wX_g3 13 (by decide) zn_314 rfl zd_LassoFinder_point_16 ?_
      refine lv_icmp_lt (tgt := 24) hx hb zd_LassoFinder_point_19 (by decide) (fun hc4 => ?_) (fun hc4 => ?_)
      · have hok := hok.1 hc4
        refine lv_aload_n hx hb zd_LassoFinder_point_24 rfl (lv_at hl 0 rfl) ?_
        refine z_get (v := .ref (ad 7)) hx hb hts hown hK hw zZ0 0 wX_g0 4 (by decide) zn_303 rfl zd_LassoFinder_point_25 ?_
        refine z_get (v := .ref (ad 45)) hx hb hts hown hK hw zZ7 7 wX_g7 5 (by decide) zn_315 rfl zd_LassoFinder_point_28 ?_
        refine lv_iload_n hx hb zd_LassoFinder_point_31 rfl (lv_at hl 1 rfl) ?_
        refine va_iald (f := (B1 31)) hx hb hK hw.1 45 0 wX_a45 rfl hok.1 zd_LassoFinder_point_32 ?_
        have hok := hok.2
        refine lv_topi (fun z5 ez5 => ?_)
        have hok := hok z5 ez5
        exact (z_iret (u := (I1, J1, B1, D1)) hx hb hr hlocks rfl hw (List.range 65) wX_all wX_nd hok (Nat.le_of_ble_eq_true rfl) (Nat.le_of_ble_eq_true rfl) zd_LassoFinder_point_33)
      · have hok := hok.2 hc4
        exact wJ_LassoFinder_point_N_22 G K ad a0 Post C I1 J1 B1 D1 ls H locs hok (lv_sub hl [] rfl) hw
def wc_LassoFinder_holder_N_18 (Post : Int32 → (Nat → Int32) → (Nat → Int64) → (Nat → Nat → Int32) → (Nat → Nat → Int64) → Prop) (y0 : Int32) (I : Nat → Int32) (J : Nat → Int64) (B : Nat → Nat → Int32) (D : Nat → Nat → Int64) : Prop :=
  Post y0 I J B D
def wp_LassoFinder_holder_N (I : Nat → Int32) (J : Nat → Int64) (B : Nat → Nat → Int32) (D : Nat → Nat → Int64) (Post : Int32 → (Nat → Int32) → (Nat → Int64) → (Nat → Nat → Int32) → (Nat → Nat → Int64) → Prop) : Prop :=
  wp_LassoFinder_standsOnWalk I J B D  (fun r1 I1 J1 B1 D1 => ((r1 = 0 → wc_LassoFinder_holder_N_18  Post (-1) I1 J1 B1 D1) ∧ (¬ r1 = 0 → wc_LassoFinder_holder_N_18  Post (I1 18) I1 J1 B1 D1)))
set_option maxHeartbeats 8000000 in
set_option maxRecDepth 100000 in
theorem wJ_LassoFinder_holder_N_18 {p : Program} {l : Launch} {e : Env} {s : State} {m : MethodId} {below : List Frame} {meth : Method} {c : Code} {A : Nat → Prop} (G : va_G) (K : Nat → ClassId) (ad : Nat → Nat) (Post : Int32 → (Nat → Int32) → (Nat → Int64) → (Nat → Nat → Int32) → (Nat → Nat → Int64) → Prop) (C : zCx p s m ([.ref (ad 0)] : List Value).toArray meth c A G K prog_1_method_16_code (some .int) 1 "LassoFinder") : ∀ (y0 : Int32) (I : Nat → Int32) (J : Nat → Int64) (B : Nat → Nat → Int32) (D : Nat → Nat → Int64) (ls : Array Slot) (H : Heap) (locs : List Loc), wc_LassoFinder_holder_N_18  Post y0 I J B D → lv_has ls 1 [] → zW G A s.heap (wX ad K Value.null I J B D) H locs → W p l e { frames := 2, cells := 0, slots := 0, locals := 47 } s m ([.ref (ad 0)] : List Value).toArray below meth c H locs 0 0 (MQ below (va_Qi (fun (r : Int32) (u : zS) => Post r u.1 u.2.1 u.2.2.1 u.2.2.2) (fun u t => zPost G K A (wX ad K Value.null u.1 u.2.1 u.2.2.1 u.2.2.2) t) A) ([.ref (ad 0)] : List Value).toArray s 0 0 A) (F0 m 18 ls [.int y0]) := by
  obtain ⟨hx, hb, hr, hml, hts, hown, hlocks, hA, hK⟩ := id C
  intro y0 I J B D ls H locs hok hl hw
  unfold wc_LassoFinder_holder_N_18 at hok
  exact (z_iret (u := (I, J, B, D)) hx hb hr hlocks rfl hw (List.range 65) wX_all wX_nd hok (Nat.le_of_ble_eq_true rfl) (Nat.le_of_ble_eq_true rfl) zd_LassoFinder_holder_18)
set_option maxHeartbeats 8000000 in
set_option maxRecDepth 100000 in
theorem w_LassoFinder_holder_N (l : Launch) (G : va_G) (K : Nat → ClassId) (ad : Nat → Nat) (I : Nat → Int32) (J : Nat → Int64) (B : Nat → Nat → Int32) (D : Nat → Nat → Int64) (Post : Int32 → (Nat → Int32) → (Nat → Int64) → (Nat → Nat → Int32) → (Nat → Nat → Int64) → Prop) (sz : Nat) (hok : wp_LassoFinder_holder_N I J B D  Post) : Met l zy_LassoFinder_holder (Cond.code zy_LassoFinder_holder prog_1_method_16_code 1 (some .int) :: zTB) { frames := 2, cells := 0, slots := 0, locals := 47 } (va_Pc [.ref (ad 0)] (zPre G K (wX ad K Value.null I J B D) sz)) (va_Qi (fun (r : Int32) (u : zS) => Post r u.1 u.2.1 u.2.2.1 u.2.2.2) (fun u t => zPost G K (va_A (wX ad K Value.null I J B D) sz) (wX ad K Value.null u.1 u.2.1 u.2.2.1 u.2.2.2) t) (va_A (wX ad K Value.null I J B D) sz)) 0 0 (va_A (wX ad K Value.null I J B D) sz) := by
  refine zMet (y := zy_LassoFinder_holder) (av := [.ref (ad 0)]) (maxL := 1) (cc := prog_1_method_16_code) (ret := (some .int)) (W0 := (wX ad K Value.null I J B D)) (sz := sz) (G := G) (K := K) (wt := zTB) (mc := 0) (ms := 0) (Qf := fun A => va_Qi (fun (r : Int32) (u : zS) => Post r u.1 u.2.1 u.2.2.1 u.2.2.2) (fun u t => zPost G K A (wX ad K Value.null u.1 u.2.1 u.2.2.1 u.2.2.2) t) A) (by decide) (Nat.le_of_ble_eq_true rfl) ?_
  intro p e s m below meth c ls A hx hb hr hml hts hown hlocks hin hA hK H locs hw hsz hl
  clear hsz
  have hown : s.vm.findClass "LassoFinder" = some m.cls := hown
  have C : zCx p s m ([.ref (ad 0)] : List Value).toArray meth c A G K prog_1_method_16_code (some .int) 1 "LassoFinder" := ⟨hx, hb, hr, hml, hts, hown, hlocks, hA, hK⟩
  have hl : lv_has ls 1 [(0, .ref (ad 0))] := hl
  have hw : zW G A s.heap (wX ad K Value.null I J B D) H locs := hw
  unfold wp_LassoFinder_holder_N at hok
  refine lv_aload_n hx hb zd_LassoFinder_holder_0 rfl (lv_at hl 0 rfl) ?_
  refine z_calli (w1 := fun (u : zS) => wX ad K Value.null u.1 u.2.1 u.2.2.1 u.2.2.2) (wr := []) (z_runV (q0 := 0) (wc := (wX ad K Value.null I J B D)) (As := []) (rest := []) ⟨hx, hb, hml, hown, hts⟩ (w_LassoFinder_standsOnWalk l G K ad Value.null I J B D  _ H.size hok) zf_LassoFinder_standsOnWalk zn_299 ⟨Nat.le_of_ble_eq_true rfl, Nat.le_of_ble_eq_true rfl⟩ hK hw (List.range 65) wX_all wX_nd wX_g0 rfl rfl hl.1 rfl (Nat.le_of_ble_eq_true rfl) zd_LassoFinder_holder_1 ⟨Nat.le_of_ble_eq_true rfl, Nat.le_of_ble_eq_true rfl⟩) hw hA (List.range 65) [] wX_all rfl (by decide) (fun i hi => by cases hi) (fun r1 u H locs hok hw => ?_)
  obtain ⟨I1, J1, B1, D1⟩ := u
  dsimp only at hok
  have hw : zW G A s.heap (wX ad K Value.null I1 J1 B1 D1) H locs := hw
  refine lv_if_eq (tgt := 17) hx hb zd_LassoFinder_holder_4 (by decide) (fun hc2 => ?_) (fun hc2 => ?_)
  · have hok := hok.1 hc2
    refine lv_iconst (v := (-1)) hx hb zd_LassoFinder_holder_17 (by decide) ?_
    exact wJ_LassoFinder_holder_N_18 G K ad  Post C (-1) I1 J1 B1 D1 ls H locs hok (lv_sub hl [] rfl) hw
  · have hok := hok.2 hc2
    refine lv_aload_n hx hb zd_LassoFinder_holder_7 rfl (lv_at hl 0 rfl) ?_
    refine z_get (v := .ref (ad 7)) hx hb hts hown hK hw zZ0 0 wX_g0 4 (by decide) zn_303 rfl zd_LassoFinder_holder_8 ?_
    refine z_get (v := .int (I1 18)) hx hb hts hown hK hw zZ7 7 wX_g7 6 (by decide) zn_316 rfl zd_LassoFinder_holder_11 ?_
    refine lv_goto (tgt := 18) hx hb zd_LassoFinder_holder_14 (by decide) ?_
    exact wJ_LassoFinder_holder_N_18 G K ad  Post C (I1 18) I1 J1 B1 D1 ls H locs hok (lv_sub hl [] rfl) hw
def wc_LassoFinder_truth_N_15 (a0 : Int32) (Post : Int32 → (Nat → Int32) → (Nat → Int64) → (Nat → Nat → Int32) → (Nat → Nat → Int64) → Prop) (PX : String → (Nat → Int32) → (Nat → Int64) → (Nat → Nat → Int32) → (Nat → Nat → Int64) → Prop)  (I : Nat → Int32) (J : Nat → Int64) (B : Nat → Nat → Int32) (D : Nat → Nat → Int64) : Prop :=
  PX "java/lang/IllegalStateException" I J B D
def wc_LassoFinder_truth_N_53 (a0 : Int32) (Post : Int32 → (Nat → Int32) → (Nat → Int64) → (Nat → Nat → Int32) → (Nat → Nat → Int64) → Prop) (PX : String → (Nat → Int32) → (Nat → Int64) → (Nat → Nat → Int32) → (Nat → Nat → Int64) → Prop)  (I : Nat → Int32) (J : Nat → Int64) (B : Nat → Nat → Int32) (D : Nat → Nat → Int64) : Prop :=
  PX "java/lang/IllegalArgumentException" I J B D
def wp_LassoFinder_truth_N (I : Nat → Int32) (J : Nat → Int64) (B : Nat → Nat → Int32) (D : Nat → Nat → Int64) (a0 : Int32) (Post : Int32 → (Nat → Int32) → (Nat → Int64) → (Nat → Nat → Int32) → (Nat → Nat → Int64) → Prop) (PX : String → (Nat → Int32) → (Nat → Int64) → (Nat → Nat → Int32) → (Nat → Nat → Int64) → Prop) : Prop :=
  (((I 0) = (-1) → wc_LassoFinder_truth_N_15 a0 Post PX I J B D) ∧ (¬ (I 0) = (-1) → ((¬ (I 2) = 0 → ((a0 < 0 → wc_LassoFinder_truth_N_53 a0 Post PX I J B D) ∧ (¬ a0 < 0 → (((I 0) ≤ a0 → wc_LassoFinder_truth_N_53 a0 Post PX I J B D) ∧ (¬ (I 0) ≤ a0 → vp_in a0 61 ∧ ∀ z5 : Int32, z5 = ((B 0) a0.toNatClampNeg) → vp_in (I 0) 61 ∧ ∀ z6 : Int32, z6 = ((B 0) (I 0).toNatClampNeg) → ((z5 = z6 → wp_Truths_ofRound_ad12 I J B D (I 0) a0 (fun r8 I8 J8 B8 D8 => (r8 = 0 ∨ r8 = 1) ∧ Post r8 I8 J8 B8 D8)) ∧ (¬ z5 = z6 → wc_LassoFinder_truth_N_53 a0 Post PX I J B D))))))) ∧ ((I 2) = 0 → wc_LassoFinder_truth_N_15 a0 Post PX I J B D))))
set_option maxHeartbeats 8000000 in
set_option maxRecDepth 100000 in
theorem wJ_LassoFinder_truth_N_15 {p : Program} {l : Launch} {e : Env} {s : State} {m : MethodId} {below : List Frame} {meth : Method} {c : Code} {A : Nat → Prop} (G : va_G) (K : Nat → ClassId) (ad : Nat → Nat) (a0 : Int32) (Post : Int32 → (Nat → Int32) → (Nat → Int64) → (Nat → Nat → Int32) → (Nat → Nat → Int64) → Prop) (PX : String → (Nat → Int32) → (Nat → Int64) → (Nat → Nat → Int32) → (Nat → Nat → Int64) → Prop) (C : zCy p l s m ([.ref (ad 0), .int a0] : List Value).toArray meth c A G K prog_1_method_17_code (some .boolean) 2 "LassoFinder") : ∀  (I : Nat → Int32) (J : Nat → Int64) (B : Nat → Nat → Int32) (D : Nat → Nat → Int64) (ls : Array Slot) (H : Heap) (locs : List Loc), wc_LassoFinder_truth_N_15 a0 Post PX  I J B D → lv_has ls 2 [] → zW G A s.heap (wX ad K Value.null I J B D) H locs → W p l e { frames := 6, cells := 1, slots := 6, locals := 81 } s m ([.ref (ad 0), .int a0] : List Value).toArray below meth c H locs 0 0 (zyMQ below (va_Qi (fun (r : Int32) (u : zS) => Post r u.1 u.2.1 u.2.2.1 u.2.2.2) (fun u t => zPost G K A (wX ad K Value.null u.1 u.2.1 u.2.2.1 u.2.2.2) t) A) (zYC (fun E (u : zS) => PX E u.1 u.2.1 u.2.2.1 u.2.2.2) (fun u => wX ad K Value.null u.1 u.2.1 u.2.2.1 u.2.2.2) G K A) ([.ref (ad 0), .int a0] : List Value).toArray s 1 6 A) (F0 m 15 ls []) := by
  obtain ⟨hx, hb, hr, hml, hts, hown, hlocks, hA, hK, hT, hnt, hlt⟩ := id C
  intro  I J B D ls H locs hok hl hw
  unfold wc_LassoFinder_truth_N_15 at hok
  exact z_ythrow (u := (I, J, B, D)) (names := ["java/lang/RuntimeException", "java/lang/Exception"]) hx hb hlt hts hown hnt hlocks hT (by rw [hml]; exact hl.1) (by decide +kernel) (by decide +kernel) zn_567 zn_568 zn_569 zx_1 hw (List.range 65) wX_all wX_nd hok zd_LassoFinder_truth_15 zd_LassoFinder_truth_18 zd_LassoFinder_truth_19 zd_LassoFinder_truth_22 (Nat.le_of_ble_eq_true rfl) (Nat.le_of_ble_eq_true rfl) (Nat.le_of_ble_eq_true rfl) (Nat.le_of_ble_eq_true rfl) (Nat.le_of_ble_eq_true rfl) (Nat.le_of_ble_eq_true rfl)
set_option maxHeartbeats 8000000 in
set_option maxRecDepth 100000 in
theorem wJ_LassoFinder_truth_N_53 {p : Program} {l : Launch} {e : Env} {s : State} {m : MethodId} {below : List Frame} {meth : Method} {c : Code} {A : Nat → Prop} (G : va_G) (K : Nat → ClassId) (ad : Nat → Nat) (a0 : Int32) (Post : Int32 → (Nat → Int32) → (Nat → Int64) → (Nat → Nat → Int32) → (Nat → Nat → Int64) → Prop) (PX : String → (Nat → Int32) → (Nat → Int64) → (Nat → Nat → Int32) → (Nat → Nat → Int64) → Prop) (C : zCy p l s m ([.ref (ad 0), .int a0] : List Value).toArray meth c A G K prog_1_method_17_code (some .boolean) 2 "LassoFinder") : ∀  (I : Nat → Int32) (J : Nat → Int64) (B : Nat → Nat → Int32) (D : Nat → Nat → Int64) (ls : Array Slot) (H : Heap) (locs : List Loc), wc_LassoFinder_truth_N_53 a0 Post PX  I J B D → lv_has ls 2 [] → zW G A s.heap (wX ad K Value.null I J B D) H locs → W p l e { frames := 6, cells := 1, slots := 6, locals := 81 } s m ([.ref (ad 0), .int a0] : List Value).toArray below meth c H locs 0 0 (zyMQ below (va_Qi (fun (r : Int32) (u : zS) => Post r u.1 u.2.1 u.2.2.1 u.2.2.2) (fun u t => zPost G K A (wX ad K Value.null u.1 u.2.1 u.2.2.1 u.2.2.2) t) A) (zYC (fun E (u : zS) => PX E u.1 u.2.1 u.2.2.1 u.2.2.2) (fun u => wX ad K Value.null u.1 u.2.1 u.2.2.1 u.2.2.2) G K A) ([.ref (ad 0), .int a0] : List Value).toArray s 1 6 A) (F0 m 53 ls []) := by
  obtain ⟨hx, hb, hr, hml, hts, hown, hlocks, hA, hK, hT, hnt, hlt⟩ := id C
  intro  I J B D ls H locs hok hl hw
  unfold wc_LassoFinder_truth_N_53 at hok
  exact z_ythrow (u := (I, J, B, D)) (names := ["java/lang/RuntimeException", "java/lang/Exception"]) hx hb hlt hts hown hnt hlocks hT (by rw [hml]; exact hl.1) (by decide +kernel) (by decide +kernel) zn_582 zn_430 zn_431 zx_4 hw (List.range 65) wX_all wX_nd hok zd_LassoFinder_truth_53 zd_LassoFinder_truth_56 zd_LassoFinder_truth_57 zd_LassoFinder_truth_60 (Nat.le_of_ble_eq_true rfl) (Nat.le_of_ble_eq_true rfl) (Nat.le_of_ble_eq_true rfl) (Nat.le_of_ble_eq_true rfl) (Nat.le_of_ble_eq_true rfl) (Nat.le_of_ble_eq_true rfl)
set_option maxHeartbeats 8000000 in
set_option maxRecDepth 100000 in
theorem w_LassoFinder_truth_N (l : Launch) (hlt : l.stackTraces = false) (G : va_G) (K : Nat → ClassId) (ad : Nat → Nat) (I : Nat → Int32) (J : Nat → Int64) (B : Nat → Nat → Int32) (D : Nat → Nat → Int64) (a0 : Int32) (Post : Int32 → (Nat → Int32) → (Nat → Int64) → (Nat → Nat → Int32) → (Nat → Nat → Int64) → Prop) (PX : String → (Nat → Int32) → (Nat → Int64) → (Nat → Nat → Int32) → (Nat → Nat → Int64) → Prop) (sz : Nat) (hok : wp_LassoFinder_truth_N I J B D a0 Post PX) : zyMet l zy_LassoFinder_truth (Cond.code zy_LassoFinder_truth prog_1_method_17_code 2 (some .boolean) :: zTB) { frames := 6, cells := 1, slots := 6, locals := 81 } (va_Pc [.ref (ad 0), .int a0] (zPreY G K (wX ad K Value.null I J B D) sz)) (va_Qi (fun (r : Int32) (u : zS) => Post r u.1 u.2.1 u.2.2.1 u.2.2.2) (fun u t => zPost G K (va_A (wX ad K Value.null I J B D) sz) (wX ad K Value.null u.1 u.2.1 u.2.2.1 u.2.2.2) t) (va_A (wX ad K Value.null I J B D) sz)) (zYC (fun E (u : zS) => PX E u.1 u.2.1 u.2.2.1 u.2.2.2) (fun u => wX ad K Value.null u.1 u.2.1 u.2.2.1 u.2.2.2) G K (va_A (wX ad K Value.null I J B D) sz)) 1 6 (va_A (wX ad K Value.null I J B D) sz) := by
  refine zMetY (y := zy_LassoFinder_truth) (av := [.ref (ad 0), .int a0]) (maxL := 2) (cc := prog_1_method_17_code) (ret := (some .boolean)) (W0 := (wX ad K Value.null I J B D)) (sz := sz) (G := G) (K := K) (wt := zTB) (mc := 1) (ms := 6) (Qf := fun A => va_Qi (fun (r : Int32) (u : zS) => Post r u.1 u.2.1 u.2.2.1 u.2.2.2) (fun u t => zPost G K A (wX ad K Value.null u.1 u.2.1 u.2.2.1 u.2.2.2) t) A) (Xf := fun A => (zYC (fun E (u : zS) => PX E u.1 u.2.1 u.2.2.1 u.2.2.2) (fun u => wX ad K Value.null u.1 u.2.1 u.2.2.1 u.2.2.2) G K A)) (by decide) (Nat.le_of_ble_eq_true rfl) ?_
  intro p e s m below meth c ls A hx hb hr hml hts hown hlocks hin hA hK H locs hw hsz hl hT hnt
  clear hsz
  have hown : s.vm.findClass "LassoFinder" = some m.cls := hown
  have C : zCy p l s m ([.ref (ad 0), .int a0] : List Value).toArray meth c A G K prog_1_method_17_code (some .boolean) 2 "LassoFinder" := ⟨hx, hb, hr, hml, hts, hown, hlocks, hA, hK, hT, hnt, hlt⟩
  have hl : lv_has ls 2 [(0, .ref (ad 0)), (1, .int a0)] := hl
  have hw : zW G A s.heap (wX ad K Value.null I J B D) H locs := hw
  unfold wp_LassoFinder_truth_N at hok
  refine lv_aload_n hx hb zd_LassoFinder_truth_0 rfl (lv_at hl 0 rfl) ?_
  refine z_get (v := .int (I 0)) hx hb hts hown hK hw zZ0 0 wX_g0 10 (by decide) zn_297 rfl zd_LassoFinder_truth_1 ?_
  refine lv_iconst (v := (-1)) hx hb zd_LassoFinder_truth_4 (by decide) ?_
  refine lv_icmp_eq (tgt := 15) hx hb zd_LassoFinder_truth_5 (by decide) (fun hc1 => ?_) (fun hc1 => ?_)
  · have hok := hok.1 hc1
    exact wJ_LassoFinder_truth_N_15 G K ad a0 Post PX C I J B D ls H locs hok (lv_sub hl [] rfl) hw
  · have hok := hok.2 hc1
    refine lv_aload_n hx hb zd_LassoFinder_truth_8 rfl (lv_at hl 0 rfl) ?_
    refine z_get (v := .int (I 2)) hx hb hts hown hK hw zZ0 0 wX_g0 12 (by decide) zn_415 rfl zd_LassoFinder_truth_9 ?_
    refine lv_if_ne (tgt := 23) hx hb zd_LassoFinder_truth_12 (by decide) (fun hc2 => ?_) (fun hc2 => ?_)
    · have hok := hok.1 hc2
      refine lv_iload_n hx hb zd_LassoFinder_truth_23 rfl (lv_at hl 1 rfl) ?_
      refine lv_if_lt (tgt := 53) hx hb zd_LassoFinder_truth_24 (by decide) (fun hc3 => ?_) (fun hc3 => ?_)
      · have hok := hok.1 hc3
        exact wJ_LassoFinder_truth_N_53 G K ad a0 Post PX C I J B D ls H locs hok (lv_sub hl [] rfl) hw
      · have hok := hok.2 hc3
        refine lv_iload_n hx hb zd_LassoFinder_truth_27 rfl (lv_at hl 1 rfl) ?_
        refine lv_aload_n hx hb zd_LassoFinder_truth_28 rfl (lv_at hl 0 rfl) ?_
        refine z_get (v := .int (I 0)) hx hb hts hown hK hw zZ0 0 wX_g0 10 (by decide) zn_297 rfl zd_LassoFinder_truth_29 ?_
        refine lv_icmp_ge (tgt := 53) hx hb zd_LassoFinder_truth_32 (by decide) (fun hc4 => ?_) (fun hc4 => ?_)
        · have hok := hok.1 hc4
          exact wJ_LassoFinder_truth_N_53 G K ad a0 Post PX C I J B D ls H locs hok (lv_sub hl [] rfl) hw
        · have hok := hok.2 hc4
          refine lv_aload_n hx hb zd_LassoFinder_truth_35 rfl (lv_at hl 0 rfl) ?_
          refine z_get (v := .ref (ad 12)) hx hb hts hown hK hw zZ0 0 wX_g0 9 (by decide) zn_235 rfl zd_LassoFinder_truth_36 ?_
          refine lv_iload_n hx hb zd_LassoFinder_truth_39 rfl (lv_at hl 1 rfl) ?_
          refine va_iald (f := (B 0)) hx hb hK hw.1 12 0 wX_a12 rfl hok.1 zd_LassoFinder_truth_40 ?_
          have hok := hok.2
          refine lv_topi (fun z5 ez5 => ?_)
          have hok := hok z5 ez5
          refine lv_aload_n hx hb zd_LassoFinder_truth_41 rfl (lv_at hl 0 rfl) ?_
          refine z_get (v := .ref (ad 12)) hx hb hts hown hK hw zZ0 0 wX_g0 9 (by decide) zn_235 rfl zd_LassoFinder_truth_42 ?_
          refine lv_aload_n hx hb zd_LassoFinder_truth_45 rfl (lv_at hl 0 rfl) ?_
          refine z_get (v := .int (I 0)) hx hb hts hown hK hw zZ0 0 wX_g0 10 (by decide) zn_297 rfl zd_LassoFinder_truth_46 ?_
          refine va_iald (f := (B 0)) hx hb hK hw.1 12 0 wX_a12 rfl hok.1 zd_LassoFinder_truth_49 ?_
          have hok := hok.2
          refine lv_topi (fun z6 ez6 => ?_)
          have hok := hok z6 ez6
          refine lv_icmp_eq (tgt := 61) hx hb zd_LassoFinder_truth_50 (by decide) (fun hc7 => ?_) (fun hc7 => ?_)
          · have hok := hok.1 hc7
            refine lv_aload_n hx hb zd_LassoFinder_truth_61 rfl (lv_at hl 0 rfl) ?_
            refine z_get (v := .ref (ad 11)) hx hb hts hown hK hw zZ0 0 wX_g0 7 (by decide) zn_515 rfl zd_LassoFinder_truth_62 ?_
            refine lv_aload_n hx hb zd_LassoFinder_truth_65 rfl (lv_at hl 0 rfl) ?_
            refine z_get (v := .ref (ad 12)) hx hb hts hown hK hw zZ0 0 wX_g0 9 (by decide) zn_235 rfl zd_LassoFinder_truth_66 ?_
            refine lv_aload_n hx hb zd_LassoFinder_truth_69 rfl (lv_at hl 0 rfl) ?_
            refine z_get (v := .int (I 0)) hx hb hts hown hK hw zZ0 0 wX_g0 10 (by decide) zn_297 rfl zd_LassoFinder_truth_70 ?_
            refine lv_iload_n hx hb zd_LassoFinder_truth_73 rfl (lv_at hl 1 rfl) ?_
            refine z_calli (w1 := fun (u : zS) => wX ad K Value.null u.1 u.2.1 u.2.2.1 u.2.2.2) (wr := []) (z_runV (q0 := 11) (wc := (wX ad K Value.null I J B D)) (As := [.ref (ad 12), .int (I 0), .int a0]) (rest := []) ⟨hx, hb, hml, hown, hts⟩ (w_Truths_ofRound_ad12 l G K ad Value.null I J B D (I 0) a0 _ H.size hok) zf_Truths_ofRound zn_580 ⟨Nat.le_of_ble_eq_true rfl, Nat.le_of_ble_eq_true rfl⟩ hK hw (List.range 65) wX_all wX_nd wX_g11 rfl rfl hl.1 rfl (Nat.le_of_ble_eq_true rfl) zd_LassoFinder_truth_74 ⟨Nat.le_of_ble_eq_true rfl, Nat.le_of_ble_eq_true rfl⟩) hw hA (List.range 65) [] wX_all rfl (by decide) (fun i hi => by cases hi) (fun r8 u H locs hok hw => ?_)
            obtain ⟨I8, J8, B8, D8⟩ := u
            dsimp only at hok
            have hw : zW G A s.heap (wX ad K Value.null I8 J8 B8 D8) H locs := hw
            have hbo := hok.1
            have hok := hok.2
            exact zy_ret (z_iret (u := (I8, J8, B8, D8)) hx hb hr hlocks (z_nar hbo) hw (List.range 65) wX_all wX_nd hok (Nat.le_of_ble_eq_true rfl) (Nat.le_of_ble_eq_true rfl) zd_LassoFinder_truth_77)
          · have hok := hok.2 hc7
            exact wJ_LassoFinder_truth_N_53 G K ad a0 Post PX C I J B D ls H locs hok (lv_sub hl [] rfl) hw
    · have hok := hok.2 hc2
      exact wJ_LassoFinder_truth_N_15 G K ad a0 Post PX C I J B D ls H locs hok (lv_sub hl [] rfl) hw
def wc_LassoFinder_count_N_50 (a0 : Int32) (Post : Int32 → (Nat → Int32) → (Nat → Int64) → (Nat → Nat → Int32) → (Nat → Nat → Int64) → Prop) (y0 : Int32) (I : Nat → Int32) (J : Nat → Int64) (B : Nat → Nat → Int32) (D : Nat → Nat → Int64) : Prop :=
  Post y0 I J B D
def wc_LassoFinder_count_N_69 (a0 : Int32) (Post : Int32 → (Nat → Int32) → (Nat → Int64) → (Nat → Nat → Int32) → (Nat → Nat → Int64) → Prop) (y0 : Int32) (I : Nat → Int32) (J : Nat → Int64) (B : Nat → Nat → Int32) (D : Nat → Nat → Int64) : Prop :=
  Post y0 I J B D
def wc_LassoFinder_count_N_88 (a0 : Int32) (Post : Int32 → (Nat → Int32) → (Nat → Int64) → (Nat → Nat → Int32) → (Nat → Nat → Int64) → Prop) (y0 : Int32) (I : Nat → Int32) (J : Nat → Int64) (B : Nat → Nat → Int32) (D : Nat → Nat → Int64) : Prop :=
  Post y0 I J B D
def wc_LassoFinder_count_N_107 (a0 : Int32) (Post : Int32 → (Nat → Int32) → (Nat → Int64) → (Nat → Nat → Int32) → (Nat → Nat → Int64) → Prop) (y0 : Int32) (I : Nat → Int32) (J : Nat → Int64) (B : Nat → Nat → Int32) (D : Nat → Nat → Int64) : Prop :=
  Post y0 I J B D
def wp_LassoFinder_count_N (I : Nat → Int32) (J : Nat → Int64) (B : Nat → Nat → Int32) (D : Nat → Nat → Int64) (a0 : Int32) (Post : Int32 → (Nat → Int32) → (Nat → Int64) → (Nat → Nat → Int32) → (Nat → Nat → Int64) → Prop) : Prop :=
  ((a0 = 0 → (((I 1) = 0 → wc_LassoFinder_count_N_50 a0 Post 0 I J B D) ∧ (¬ (I 1) = 0 → wc_LassoFinder_count_N_50 a0 Post (I 19) I J B D))) ∧ (a0 = 1 → (((I 1) = 0 → wc_LassoFinder_count_N_69 a0 Post 0 I J B D) ∧ (¬ (I 1) = 0 → wc_LassoFinder_count_N_69 a0 Post (I 20) I J B D))) ∧ (a0 = 2 → (((I 1) = 0 → wc_LassoFinder_count_N_88 a0 Post 0 I J B D) ∧ (¬ (I 1) = 0 → wc_LassoFinder_count_N_88 a0 Post (I 9) I J B D))) ∧ (a0 = 3 → (((I 1) = 0 → wc_LassoFinder_count_N_107 a0 Post 0 I J B D) ∧ (¬ (I 1) = 0 → wc_LassoFinder_count_N_107 a0 Post (I 10) I J B D))) ∧ (¬ a0 = 0 → ¬ a0 = 1 → ¬ a0 = 2 → ¬ a0 = 3 → Post (-1) I J B D))
set_option maxHeartbeats 8000000 in
set_option maxRecDepth 100000 in
theorem wJ_LassoFinder_count_N_50 {p : Program} {l : Launch} {e : Env} {s : State} {m : MethodId} {below : List Frame} {meth : Method} {c : Code} {A : Nat → Prop} (G : va_G) (K : Nat → ClassId) (ad : Nat → Nat) (a0 : Int32) (Post : Int32 → (Nat → Int32) → (Nat → Int64) → (Nat → Nat → Int32) → (Nat → Nat → Int64) → Prop) (C : zCx p s m ([.ref (ad 0), .int a0] : List Value).toArray meth c A G K prog_1_method_18_code (some .int) 2 "LassoFinder") : ∀ (y0 : Int32) (I : Nat → Int32) (J : Nat → Int64) (B : Nat → Nat → Int32) (D : Nat → Nat → Int64) (ls : Array Slot) (H : Heap) (locs : List Loc), wc_LassoFinder_count_N_50 a0 Post y0 I J B D → lv_has ls 2 [] → zW G A s.heap (wX ad K Value.null I J B D) H locs → W p l e { frames := 0, cells := 0, slots := 0, locals := 0 } s m ([.ref (ad 0), .int a0] : List Value).toArray below meth c H locs 0 0 (MQ below (va_Qi (fun (r : Int32) (u : zS) => Post r u.1 u.2.1 u.2.2.1 u.2.2.2) (fun u t => zPost G K A (wX ad K Value.null u.1 u.2.1 u.2.2.1 u.2.2.2) t) A) ([.ref (ad 0), .int a0] : List Value).toArray s 0 0 A) (F0 m 50 ls [.int y0]) := by
  obtain ⟨hx, hb, hr, hml, hts, hown, hlocks, hA, hK⟩ := id C
  intro y0 I J B D ls H locs hok hl hw
  unfold wc_LassoFinder_count_N_50 at hok
  exact (z_iret (u := (I, J, B, D)) hx hb hr hlocks rfl hw (List.range 65) wX_all wX_nd hok (Nat.le_of_ble_eq_true rfl) (Nat.le_of_ble_eq_true rfl) zd_LassoFinder_count_50)
set_option maxHeartbeats 8000000 in
set_option maxRecDepth 100000 in
theorem wJ_LassoFinder_count_N_69 {p : Program} {l : Launch} {e : Env} {s : State} {m : MethodId} {below : List Frame} {meth : Method} {c : Code} {A : Nat → Prop} (G : va_G) (K : Nat → ClassId) (ad : Nat → Nat) (a0 : Int32) (Post : Int32 → (Nat → Int32) → (Nat → Int64) → (Nat → Nat → Int32) → (Nat → Nat → Int64) → Prop) (C : zCx p s m ([.ref (ad 0), .int a0] : List Value).toArray meth c A G K prog_1_method_18_code (some .int) 2 "LassoFinder") : ∀ (y0 : Int32) (I : Nat → Int32) (J : Nat → Int64) (B : Nat → Nat → Int32) (D : Nat → Nat → Int64) (ls : Array Slot) (H : Heap) (locs : List Loc), wc_LassoFinder_count_N_69 a0 Post y0 I J B D → lv_has ls 2 [] → zW G A s.heap (wX ad K Value.null I J B D) H locs → W p l e { frames := 0, cells := 0, slots := 0, locals := 0 } s m ([.ref (ad 0), .int a0] : List Value).toArray below meth c H locs 0 0 (MQ below (va_Qi (fun (r : Int32) (u : zS) => Post r u.1 u.2.1 u.2.2.1 u.2.2.2) (fun u t => zPost G K A (wX ad K Value.null u.1 u.2.1 u.2.2.1 u.2.2.2) t) A) ([.ref (ad 0), .int a0] : List Value).toArray s 0 0 A) (F0 m 69 ls [.int y0]) := by
  obtain ⟨hx, hb, hr, hml, hts, hown, hlocks, hA, hK⟩ := id C
  intro y0 I J B D ls H locs hok hl hw
  unfold wc_LassoFinder_count_N_69 at hok
  exact (z_iret (u := (I, J, B, D)) hx hb hr hlocks rfl hw (List.range 65) wX_all wX_nd hok (Nat.le_of_ble_eq_true rfl) (Nat.le_of_ble_eq_true rfl) zd_LassoFinder_count_69)
set_option maxHeartbeats 8000000 in
set_option maxRecDepth 100000 in
theorem wJ_LassoFinder_count_N_88 {p : Program} {l : Launch} {e : Env} {s : State} {m : MethodId} {below : List Frame} {meth : Method} {c : Code} {A : Nat → Prop} (G : va_G) (K : Nat → ClassId) (ad : Nat → Nat) (a0 : Int32) (Post : Int32 → (Nat → Int32) → (Nat → Int64) → (Nat → Nat → Int32) → (Nat → Nat → Int64) → Prop) (C : zCx p s m ([.ref (ad 0), .int a0] : List Value).toArray meth c A G K prog_1_method_18_code (some .int) 2 "LassoFinder") : ∀ (y0 : Int32) (I : Nat → Int32) (J : Nat → Int64) (B : Nat → Nat → Int32) (D : Nat → Nat → Int64) (ls : Array Slot) (H : Heap) (locs : List Loc), wc_LassoFinder_count_N_88 a0 Post y0 I J B D → lv_has ls 2 [] → zW G A s.heap (wX ad K Value.null I J B D) H locs → W p l e { frames := 0, cells := 0, slots := 0, locals := 0 } s m ([.ref (ad 0), .int a0] : List Value).toArray below meth c H locs 0 0 (MQ below (va_Qi (fun (r : Int32) (u : zS) => Post r u.1 u.2.1 u.2.2.1 u.2.2.2) (fun u t => zPost G K A (wX ad K Value.null u.1 u.2.1 u.2.2.1 u.2.2.2) t) A) ([.ref (ad 0), .int a0] : List Value).toArray s 0 0 A) (F0 m 88 ls [.int y0]) := by
  obtain ⟨hx, hb, hr, hml, hts, hown, hlocks, hA, hK⟩ := id C
  intro y0 I J B D ls H locs hok hl hw
  unfold wc_LassoFinder_count_N_88 at hok
  exact (z_iret (u := (I, J, B, D)) hx hb hr hlocks rfl hw (List.range 65) wX_all wX_nd hok (Nat.le_of_ble_eq_true rfl) (Nat.le_of_ble_eq_true rfl) zd_LassoFinder_count_88)
set_option maxHeartbeats 8000000 in
set_option maxRecDepth 100000 in
theorem wJ_LassoFinder_count_N_107 {p : Program} {l : Launch} {e : Env} {s : State} {m : MethodId} {below : List Frame} {meth : Method} {c : Code} {A : Nat → Prop} (G : va_G) (K : Nat → ClassId) (ad : Nat → Nat) (a0 : Int32) (Post : Int32 → (Nat → Int32) → (Nat → Int64) → (Nat → Nat → Int32) → (Nat → Nat → Int64) → Prop) (C : zCx p s m ([.ref (ad 0), .int a0] : List Value).toArray meth c A G K prog_1_method_18_code (some .int) 2 "LassoFinder") : ∀ (y0 : Int32) (I : Nat → Int32) (J : Nat → Int64) (B : Nat → Nat → Int32) (D : Nat → Nat → Int64) (ls : Array Slot) (H : Heap) (locs : List Loc), wc_LassoFinder_count_N_107 a0 Post y0 I J B D → lv_has ls 2 [] → zW G A s.heap (wX ad K Value.null I J B D) H locs → W p l e { frames := 0, cells := 0, slots := 0, locals := 0 } s m ([.ref (ad 0), .int a0] : List Value).toArray below meth c H locs 0 0 (MQ below (va_Qi (fun (r : Int32) (u : zS) => Post r u.1 u.2.1 u.2.2.1 u.2.2.2) (fun u t => zPost G K A (wX ad K Value.null u.1 u.2.1 u.2.2.1 u.2.2.2) t) A) ([.ref (ad 0), .int a0] : List Value).toArray s 0 0 A) (F0 m 107 ls [.int y0]) := by
  obtain ⟨hx, hb, hr, hml, hts, hown, hlocks, hA, hK⟩ := id C
  intro y0 I J B D ls H locs hok hl hw
  unfold wc_LassoFinder_count_N_107 at hok
  exact (z_iret (u := (I, J, B, D)) hx hb hr hlocks rfl hw (List.range 65) wX_all wX_nd hok (Nat.le_of_ble_eq_true rfl) (Nat.le_of_ble_eq_true rfl) zd_LassoFinder_count_107)
set_option maxHeartbeats 8000000 in
set_option maxRecDepth 100000 in
theorem w_LassoFinder_count_N (l : Launch) (G : va_G) (K : Nat → ClassId) (ad : Nat → Nat) (I : Nat → Int32) (J : Nat → Int64) (B : Nat → Nat → Int32) (D : Nat → Nat → Int64) (a0 : Int32) (Post : Int32 → (Nat → Int32) → (Nat → Int64) → (Nat → Nat → Int32) → (Nat → Nat → Int64) → Prop) (sz : Nat) (hok : wp_LassoFinder_count_N I J B D a0 Post) : Met l zy_LassoFinder_count (Cond.code zy_LassoFinder_count prog_1_method_18_code 2 (some .int) :: zTB) { frames := 0, cells := 0, slots := 0, locals := 0 } (va_Pc [.ref (ad 0), .int a0] (zPre G K (wX ad K Value.null I J B D) sz)) (va_Qi (fun (r : Int32) (u : zS) => Post r u.1 u.2.1 u.2.2.1 u.2.2.2) (fun u t => zPost G K (va_A (wX ad K Value.null I J B D) sz) (wX ad K Value.null u.1 u.2.1 u.2.2.1 u.2.2.2) t) (va_A (wX ad K Value.null I J B D) sz)) 0 0 (va_A (wX ad K Value.null I J B D) sz) := by
  refine zMet (y := zy_LassoFinder_count) (av := [.ref (ad 0), .int a0]) (maxL := 2) (cc := prog_1_method_18_code) (ret := (some .int)) (W0 := (wX ad K Value.null I J B D)) (sz := sz) (G := G) (K := K) (wt := zTB) (mc := 0) (ms := 0) (Qf := fun A => va_Qi (fun (r : Int32) (u : zS) => Post r u.1 u.2.1 u.2.2.1 u.2.2.2) (fun u t => zPost G K A (wX ad K Value.null u.1 u.2.1 u.2.2.1 u.2.2.2) t) A) (by decide) (Nat.le_of_ble_eq_true rfl) ?_
  intro p e s m below meth c ls A hx hb hr hml hts hown hlocks hin hA hK H locs hw hsz hl
  clear hsz
  have hown : s.vm.findClass "LassoFinder" = some m.cls := hown
  have C : zCx p s m ([.ref (ad 0), .int a0] : List Value).toArray meth c A G K prog_1_method_18_code (some .int) 2 "LassoFinder" := ⟨hx, hb, hr, hml, hts, hown, hlocks, hA, hK⟩
  have hl : lv_has ls 2 [(0, .ref (ad 0)), (1, .int a0)] := hl
  have hw : zW G A s.heap (wX ad K Value.null I J B D) H locs := hw
  unfold wp_LassoFinder_count_N at hok
  refine lv_iload_n hx hb zd_LassoFinder_count_0 rfl (lv_at hl 1 rfl) ?_
  by_cases hs1 : a0 = 0
  · have hok := hok.1 hs1
    refine lv_tableIn (off := 31) (tgt := 32) hx hb zd_LassoFinder_count_1 (by rw [hs1]; decide) (by rw [hs1]; decide) (by rw [hs1]; decide) (by decide) ?_
    refine lv_aload_n hx hb zd_LassoFinder_count_32 rfl (lv_at hl 0 rfl) ?_
    refine z_get (v := .int (I 1)) hx hb hts hown hK hw zZ0 0 wX_g0 11 (by decide) zn_317 rfl zd_LassoFinder_count_33 ?_
    refine lv_if_eq (tgt := 49) hx hb zd_LassoFinder_count_36 (by decide) (fun hc2 => ?_) (fun hc2 => ?_)
    · have hok := hok.1 hc2
      refine lv_iconst (v := 0) hx hb zd_LassoFinder_count_49 (by decide) ?_
      exact wJ_LassoFinder_count_N_50 G K ad a0 Post C 0 I J B D ls H locs hok (lv_sub hl [] rfl) hw
    · have hok := hok.2 hc2
      refine lv_aload_n hx hb zd_LassoFinder_count_39 rfl (lv_at hl 0 rfl) ?_
      refine z_get (v := .ref (ad 8)) hx hb hts hown hK hw zZ0 0 wX_g0 5 (by decide) zn_298 rfl zd_LassoFinder_count_40 ?_
      refine z_get (v := .int (I 19)) hx hb hts hown hK hw zZ2 8 wX_g8 9 (by decide) zn_320 rfl zd_LassoFinder_count_43 ?_
      refine lv_goto (tgt := 50) hx hb zd_LassoFinder_count_46 (by decide) ?_
      exact wJ_LassoFinder_count_N_50 G K ad a0 Post C (I 19) I J B D ls H locs hok (lv_sub hl [] rfl) hw
  by_cases hs3 : a0 = 1
  · have hok := hok.2.1 hs3
    refine lv_tableIn (off := 50) (tgt := 51) hx hb zd_LassoFinder_count_1 (by rw [hs3]; decide) (by rw [hs3]; decide) (by rw [hs3]; decide) (by decide) ?_
    refine lv_aload_n hx hb zd_LassoFinder_count_51 rfl (lv_at hl 0 rfl) ?_
    refine z_get (v := .int (I 1)) hx hb hts hown hK hw zZ0 0 wX_g0 11 (by decide) zn_317 rfl zd_LassoFinder_count_52 ?_
    refine lv_if_eq (tgt := 68) hx hb zd_LassoFinder_count_55 (by decide) (fun hc4 => ?_) (fun hc4 => ?_)
    · have hok := hok.1 hc4
      refine lv_iconst (v := 0) hx hb zd_LassoFinder_count_68 (by decide) ?_
      exact wJ_LassoFinder_count_N_69 G K ad a0 Post C 0 I J B D ls H locs hok (lv_sub hl [] rfl) hw
    · have hok := hok.2 hc4
      refine lv_aload_n hx hb zd_LassoFinder_count_58 rfl (lv_at hl 0 rfl) ?_
      refine z_get (v := .ref (ad 8)) hx hb hts hown hK hw zZ0 0 wX_g0 5 (by decide) zn_298 rfl zd_LassoFinder_count_59 ?_
      refine z_get (v := .int (I 20)) hx hb hts hown hK hw zZ2 8 wX_g8 10 (by decide) zn_319 rfl zd_LassoFinder_count_62 ?_
      refine lv_goto (tgt := 69) hx hb zd_LassoFinder_count_65 (by decide) ?_
      exact wJ_LassoFinder_count_N_69 G K ad a0 Post C (I 20) I J B D ls H locs hok (lv_sub hl [] rfl) hw
  by_cases hs5 : a0 = 2
  · have hok := hok.2.2.1 hs5
    refine lv_tableIn (off := 69) (tgt := 70) hx hb zd_LassoFinder_count_1 (by rw [hs5]; decide) (by rw [hs5]; decide) (by rw [hs5]; decide) (by decide) ?_
    refine lv_aload_n hx hb zd_LassoFinder_count_70 rfl (lv_at hl 0 rfl) ?_
    refine z_get (v := .int (I 1)) hx hb hts hown hK hw zZ0 0 wX_g0 11 (by decide) zn_317 rfl zd_LassoFinder_count_71 ?_
    refine lv_if_eq (tgt := 87) hx hb zd_LassoFinder_count_74 (by decide) (fun hc6 => ?_) (fun hc6 => ?_)
    · have hok := hok.1 hc6
      refine lv_iconst (v := 0) hx hb zd_LassoFinder_count_87 (by decide) ?_
      exact wJ_LassoFinder_count_N_88 G K ad a0 Post C 0 I J B D ls H locs hok (lv_sub hl [] rfl) hw
    · have hok := hok.2 hc6
      refine lv_aload_n hx hb zd_LassoFinder_count_77 rfl (lv_at hl 0 rfl) ?_
      refine z_get (v := .ref (ad 3)) hx hb hts hown hK hw zZ0 0 wX_g0 2 (by decide) zn_313 rfl zd_LassoFinder_count_78 ?_
      refine z_get (v := .int (I 9)) hx hb hts hown hK hw zZ6 3 wX_g3 12 (by decide) zn_318 rfl zd_LassoFinder_count_81 ?_
      refine lv_goto (tgt := 88) hx hb zd_LassoFinder_count_84 (by decide) ?_
      exact wJ_LassoFinder_count_N_88 G K ad a0 Post C (I 9) I J B D ls H locs hok (lv_sub hl [] rfl) hw
  by_cases hs7 : a0 = 3
  · have hok := hok.2.2.2.1 hs7
    refine lv_tableIn (off := 88) (tgt := 89) hx hb zd_LassoFinder_count_1 (by rw [hs7]; decide) (by rw [hs7]; decide) (by rw [hs7]; decide) (by decide) ?_
    refine lv_aload_n hx hb zd_LassoFinder_count_89 rfl (lv_at hl 0 rfl) ?_
    refine z_get (v := .int (I 1)) hx hb hts hown hK hw zZ0 0 wX_g0 11 (by decide) zn_317 rfl zd_LassoFinder_count_90 ?_
    refine lv_if_eq (tgt := 106) hx hb zd_LassoFinder_count_93 (by decide) (fun hc8 => ?_) (fun hc8 => ?_)
    · have hok := hok.1 hc8
      refine lv_iconst (v := 0) hx hb zd_LassoFinder_count_106 (by decide) ?_
      exact wJ_LassoFinder_count_N_107 G K ad a0 Post C 0 I J B D ls H locs hok (lv_sub hl [] rfl) hw
    · have hok := hok.2 hc8
      refine lv_aload_n hx hb zd_LassoFinder_count_96 rfl (lv_at hl 0 rfl) ?_
      refine z_get (v := .ref (ad 3)) hx hb hts hown hK hw zZ0 0 wX_g0 2 (by decide) zn_313 rfl zd_LassoFinder_count_97 ?_
      refine z_get (v := .int (I 10)) hx hb hts hown hK hw zZ6 3 wX_g3 13 (by decide) zn_314 rfl zd_LassoFinder_count_100 ?_
      refine lv_goto (tgt := 107) hx hb zd_LassoFinder_count_103 (by decide) ?_
      exact wJ_LassoFinder_count_N_107 G K ad a0 Post C (I 10) I J B D ls H locs hok (lv_sub hl [] rfl) hw
  have hok := hok.2.2.2.2 hs1 hs3 hs5 hs7
  refine lv_tableOut (tgt := 108) hx hb zd_LassoFinder_count_1 (by have h0 := lv_neT hs1 (a := 0) (by decide); have h1 := lv_neT hs3 (a := 1) (by decide); have h2 := lv_neT hs5 (a := 2) (by decide); have h3 := lv_neT hs7 (a := 3) (by decide); omega) (by decide) ?_
  refine lv_iconst (v := (-1)) hx hb zd_LassoFinder_count_108 (by decide) ?_
  exact (z_iret (u := (I, J, B, D)) hx hb hr hlocks rfl hw (List.range 65) wX_all wX_nd hok (Nat.le_of_ble_eq_true rfl) (Nat.le_of_ble_eq_true rfl) zd_LassoFinder_count_109)
