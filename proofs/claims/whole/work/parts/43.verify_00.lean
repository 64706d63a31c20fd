theorem zn_543 : Cond.methodLink "LassoFinder" 137 ⟨"LassoFinder$LassoSearch", "<init>", "(LLassoFinder$Graph;LLassoFinder$Truths;)V"⟩ ∈ zTB := z_in (zt_5 _ (List.mem_of_getElem? (i := 122) rfl)) rfl
theorem zn_841 : Cond.classLink "LassoFinder" 135 "LassoFinder$LassoSearch" ∈ zTB := z_in (zt_5 _ (List.mem_of_getElem? (i := 120) rfl)) rfl
theorem zn_903 : Cond.code ⟨"LassoFinder$LassoSearch", "<init>", "(LLassoFinder$Graph;LLassoFinder$Truths;)V"⟩ prog_4_method_1_code 3 none ∈ zTB := z_in (zt_5 _ (List.mem_of_getElem? (i := 124) rfl)) rfl
theorem zn_904 : Cond.instanceMethod ⟨"LassoFinder$LassoSearch", "<init>", "(LLassoFinder$Graph;LLassoFinder$Truths;)V"⟩ ∈ zTB := z_in (zt_5 _ (List.mem_of_getElem? (i := 123) rfl)) rfl
theorem zf_LassoSearch_init : zFaceI zy_LassoSearch_init prog_4_method_1_code 3 2 := ⟨zn_904, rfl, zm_7, zn_903, by decide +kernel, by decide +kernel, by decide +kernel⟩
theorem zd_LassoFinder_verify_26 : decode prog_1_method_6_code 26 = .ok (.dup, 1) := by decide +kernel
theorem zd_LassoFinder_verify_27 : decode prog_1_method_6_code 27 = .ok (.aload_n 0, 1) := by decide +kernel
theorem zd_LassoFinder_verify_28 : decode prog_1_method_6_code 28 = .ok (.getfield 58, 3) := by decide +kernel
theorem zd_LassoFinder_verify_31 : decode prog_1_method_6_code 31 = .ok (.aload_n 0, 1) := by decide +kernel
theorem zd_LassoFinder_verify_32 : decode prog_1_method_6_code 32 = .ok (.getfield 76, 3) := by decide +kernel
theorem zd_LassoFinder_verify_35 : decode prog_1_method_6_code 35 = .ok (.invokespecial 137, 3) := by decide +kernel
theorem zd_LassoFinder_verify_38 : decode prog_1_method_6_code 38 = .ok (.putfield 131, 3) := by decide +kernel
def zad (ad : Nat → Nat) (q : Nat) (u : Nat → Nat) : Nat → Nat := fun k => if k < 65 then ad k else if k = 65 then q else u (k - 66)
theorem wX_left {ad : Nat → Nat} {K : Nat → ClassId} {I : Nat → Int32} {J : Nat → Int64} {B : Nat → Nat → Int32} {D : Nat → Nat → Int64} {x : Nat × va_E} : (List.range 65).map (fun i => (wX ad K Value.null I J B D ++ [x])[i]?) = (wX ad K Value.null I J B D).map some := rfl
set_option maxRecDepth 100000 in
theorem wS_made {G : va_G} {A : Nat → Prop} {H0 H : Heap} {locs : List Loc} {ad u : Nat → Nat} {K : Nat → ClassId} {q : Nat} {I : Nat → Int32} {J : Nat → Int64} {B : Nat → Nat → Int32} {D : Nat → Nat → Int64} (h : zW G A H0 ((wX ad K Value.null I J B D ++ [(q, zO 3 [.ref (ad 8), .ref (ad 11), .ref (u 0), .ref (u 1), .ref (u 2), .ref (u 3), .ref (u 4), .ref (u 5), .int 0, .int 0, .int 0, .ref (u 6), .ref (u 7), .int 0, .ref (u 8), .ref (u 9), .ref (u 10), .int 0, .int 0, .int 0]), ((u 0), zI K 768 (fun _ => 0)), ((u 1), zI K 768 (fun _ => 0)), ((u 2), zI K 768 (fun _ => 0)), ((u 3), zZ K 768 (fun _ => 0)), ((u 4), zI K 768 (fun _ => 0)), ((u 5), zI K 768 (fun _ => 0)), ((u 6), zI K 6144 (fun _ => 0)), ((u 7), zI K 6144 (fun _ => 0)), ((u 8), zI K 768 (fun _ => 0)), ((u 9), zI K 3072 (fun _ => 0)), ((u 10), zI K 3072 (fun _ => 0))]).set 0 (ad 0, .inr (0, (wX_f0 ad Value.null I J).set 8 (.ref q)))) H locs) : zW G A H0 (wS (zad ad q u) K (zmix 32 I (fun _ => 0)) J (zmix 50 B (fun _ _ => 0)) D) H locs := by
  have hi : (List.range' 65 12 ++ List.range 65).map (fun i => ((wX ad K Value.null I J B D ++ [(q, zO 3 [.ref (ad 8), .ref (ad 11), .ref (u 0), .ref (u 1), .ref (u 2), .ref (u 3), .ref (u 4), .ref (u 5), .int 0, .int 0, .int 0, .ref (u 6), .ref (u 7), .int 0, .ref (u 8), .ref (u 9), .ref (u 10), .int 0, .int 0, .int 0]), ((u 0), zI K 768 (fun _ => 0)), ((u 1), zI K 768 (fun _ => 0)), ((u 2), zI K 768 (fun _ => 0)), ((u 3), zZ K 768 (fun _ => 0)), ((u 4), zI K 768 (fun _ => 0)), ((u 5), zI K 768 (fun _ => 0)), ((u 6), zI K 6144 (fun _ => 0)), ((u 7), zI K 6144 (fun _ => 0)), ((u 8), zI K 768 (fun _ => 0)), ((u 9), zI K 3072 (fun _ => 0)), ((u 10), zI K 3072 (fun _ => 0))]).set 0 (ad 0, .inr (0, (wX_f0 ad Value.null I J).set 8 (.ref q))))[i]?) = (wS (zad ad q u) K (zmix 32 I (fun _ => 0)) J (zmix 50 B (fun _ _ => 0)) D).map some := rfl
  exact ⟨h.1.sub _ (z_map_fm hi), h.2.1.sub _ (by decide +kernel) hi, h.2.2⟩
set_option maxHeartbeats 8000000 in
set_option maxRecDepth 100000 in
theorem w_LassoFinder_verify_M (l : Launch) (G : va_G) (K : Nat → ClassId) (ad : Nat → Nat) (I : Nat → Int32) (J : Nat → Int64) (B : Nat → Nat → Int32) (D : Nat → Nat → Int64) (Post : Int32 → (Nat → Nat) → (Nat → Int32) → (Nat → Int64) → (Nat → Nat → Int32) → (Nat → Nat → Int64) → Prop) (sz : Nat) (hf : ¬ I 2 = 0) (hok : ∀ ad9 : Nat → Nat, (∀ k, k < 65 → ad9 k = ad k) → wp_LassoSearch_find (zmix 32 I (fun _ => 0)) J (zmix 50 B (fun _ _ => 0)) D (fun r I2 J2 B2 D2 => Post (if r = 0 then 1 else 0) ad9 I2 J2 B2 D2)) : Met l zy_LassoFinder_verify (Cond.code zy_LassoFinder_verify prog_1_method_6_code 1 (some .boolean) :: zTB) { frames := 7, cells := 12, slots := 23828, locals := 158 } (va_Pc [.ref (ad 0)] (zPre G K (wX ad K Value.null I J B D) sz)) (va_Qi (fun (r : Int32) (u : (Nat → Nat) × zS) => Post r u.1 u.2.1 u.2.2.1 u.2.2.2.1 u.2.2.2.2) (fun u t => zPost G K (va_A (wX ad K Value.null I J B D) sz) (wS u.1 K u.2.1 u.2.2.1 u.2.2.2.1 u.2.2.2.2) t) (va_A (wX ad K Value.null I J B D) sz)) 12 23828 (va_A (wX ad K Value.null I J B D) sz) := by
  refine zMet (y := zy_LassoFinder_verify) (av := [.ref (ad 0)]) (maxL := 1) (cc := prog_1_method_6_code) (ret := (some .boolean)) (W0 := wX ad K Value.null I J B D) (sz := sz) (G := G) (K := K) (wt := zTB) (mc := 12) (ms := 23828) (Qf := fun A => va_Qi (fun (r : Int32) (u : (Nat → Nat) × zS) => Post r u.1 u.2.1 u.2.2.1 u.2.2.2.1 u.2.2.2.2) (fun u t => zPost G K A (wS u.1 K u.2.1 u.2.2.1 u.2.2.2.1 u.2.2.2.2) t) A) (by decide) (Nat.le_of_ble_eq_true rfl) ?_
  intro p e s m below meth c ls A hx hb hr hml hts hown hlocks hin hA hK H locs hw hsz hl
  clear hsz
  have hown : s.vm.findClass "LassoFinder" = some m.cls := hown
  have hl : lv_has ls 1 [(0, .ref (ad 0))] := hl
  have hw : zW G A s.heap (wX ad K Value.null I J B D) H locs := hw
  refine lv_aload_n hx hb zd_LassoFinder_verify_0 rfl (lv_at hl 0 rfl) ?_
  refine z_get (v := .int (I 2)) hx hb hts hown hK hw zZ0 0 wX_g0 12 (by decide) zn_415 rfl zd_LassoFinder_verify_1 ?_
  refine lv_if_ne (tgt := 15) hx hb zd_LassoFinder_verify_4 (by decide) (fun _ => ?_) (fun h9 => absurd h9 hf)
  refine lv_aload_n hx hb zd_LassoFinder_verify_15 rfl (lv_at hl 0 rfl) ?_
  refine z_get (v := .null) hx hb hts hown hK hw zZ0 0 wX_g0 8 (by decide) zn_295 rfl zd_LassoFinder_verify_16 ?_
  refine lv_ifnonnullN hx hb zd_LassoFinder_verify_19 ?_
  refine lv_aload_n hx hb zd_LassoFinder_verify_22 rfl (lv_at hl 0 rfl) ?_
  refine z_new (fs := [.null, .null, .null, .null, .null, .null, .null, .null, .int 0, .int 0, .int 0, .null, .null, .int 0, .null, .null, .null, .int 0, .int 0, .int 0]) hx hb hts hown hK hw hA zZ3 zn_841 zm_6 zm_7 zD3 (Nat.le_of_ble_eq_true rfl) (Nat.le_of_ble_eq_true rfl) zd_LassoFinder_verify_23 (fun q H hw => ?_)
  refine lv_dup hx hb zd_LassoFinder_verify_26 rfl ?_
  refine lv_aload_n hx hb zd_LassoFinder_verify_27 rfl (lv_at hl 0 rfl) ?_
  refine z_get (v := .ref (ad 8)) hx hb hts hown hK hw zZ0 0 rfl 5 (by decide) zn_298 rfl zd_LassoFinder_verify_28 ?_
  refine lv_aload_n hx hb zd_LassoFinder_verify_31 rfl (lv_at hl 0 rfl) ?_
  refine z_get (v := .ref (ad 11)) hx hb hts hown hK hw zZ0 0 rfl 7 (by decide) zn_515 rfl zd_LassoFinder_verify_32 ?_
  refine z_callv (w1 := fun (u : Nat → Nat) => [(q, zO 3 [.ref (ad 8), .ref (ad 11), .ref (u 0), .ref (u 1), .ref (u 2), .ref (u 3), .ref (u 4), .ref (u 5), .int 0, .int 0, .int 0, .ref (u 6), .ref (u 7), .int 0, .ref (u 8), .ref (u 9), .ref (u 10), .int 0, .int 0, .int 0]), ((u 0), zI K 768 (fun _ => 0)), ((u 1), zI K 768 (fun _ => 0)), ((u 2), zI K 768 (fun _ => 0)), ((u 3), zZ K 768 (fun _ => 0)), ((u 4), zI K 768 (fun _ => 0)), ((u 5), zI K 768 (fun _ => 0)), ((u 6), zI K 6144 (fun _ => 0)), ((u 7), zI K 6144 (fun _ => 0)), ((u 8), zI K 768 (fun _ => 0)), ((u 9), zI K 3072 (fun _ => 0)), ((u 10), zI K 3072 (fun _ => 0))]) (wr := wX ad K Value.null I J B D) (z_runI (wc := [(q, zO 3 [.null, .null, .null, .null, .null, .null, .null, .null, .int 0, .int 0, .int 0, .null, .null, .int 0, .null, .null, .null, .int 0, .int 0, .int 0])]) (As := [.ref (ad 8), .ref (ad 11)]) (rest := [.ref q, .ref (ad 0)]) ⟨hx, hb, hml, hown, hts⟩ (c_LassoSearch_init l G K q (ad 8) (ad 11) H.size) zf_LassoSearch_init zn_543 ⟨(Nat.le_of_ble_eq_true rfl), (Nat.le_of_ble_eq_true rfl)⟩ hK hw [65] rfl (by decide) rfl hl.1 rfl (Nat.le_of_ble_eq_true rfl) zd_LassoFinder_verify_35 ⟨(Nat.le_of_ble_eq_true rfl), (Nat.le_of_ble_eq_true rfl)⟩) hw hA [65] (List.range 65) rfl wX_left (by decide +kernel) (by decide +kernel) (fun u H locs hu hw => ?_)
  refine z_put (v := .ref q) hx hb hts hown hK hw zZ0 0 rfl 8 (by decide) zn_295 rfl rfl rfl (Nat.le_of_ble_eq_true rfl) zd_LassoFinder_verify_38 (fun H locs hw => ?_)
  have hw := wS_made hw
  have hok := hok (zad ad q u) (fun k h => if_pos h)
  refine lv_aload_n hx hb zd_LassoFinder_verify_41 rfl (lv_at hl 0 rfl) ?_
  refine z_get (v := .ref q) hx hb hts hown hK hw zZ0 12 wS_g12 8 (by decide) zn_295 rfl zd_LassoFinder_verify_42 ?_
  refine z_calli (w1 := fun (v : zS) => wS (zad ad q u) K v.1 v.2.1 v.2.2.1 v.2.2.2) (wr := []) (z_runV (q0 := 0) (wc := (wS (zad ad q u) K (zmix 32 I (fun _ => 0)) J (zmix 50 B (fun _ _ => 0)) D)) (As := []) (rest := []) ⟨hx, hb, hml, hown, hts⟩ (w_LassoSearch_find l G K (zad ad q u) (zmix 32 I (fun _ => 0)) J (zmix 50 B (fun _ _ => 0)) D _ H.size hok) zf_LassoSearch_find zn_544 ⟨(Nat.le_of_ble_eq_true rfl), (Nat.le_of_ble_eq_true rfl)⟩ hK hw (List.range 77) wS_all wS_nd wS_g0 rfl rfl hl.1 rfl (Nat.le_of_ble_eq_true rfl) zd_LassoFinder_verify_45 ⟨(Nat.le_of_ble_eq_true rfl), (Nat.le_of_ble_eq_true rfl)⟩) hw hA (List.range 77) [] wS_all rfl (by decide) (fun i hi => by cases hi) (fun r2 v H locs hok hw => ?_)
  obtain ⟨I2, J2, B2, D2⟩ := v
  dsimp only at hok
  have hw : zW G A s.heap (wS (zad ad q u) K I2 J2 B2 D2) H locs := hw
  refine lv_if_ne (tgt := 55) hx hb zd_LassoFinder_verify_48 (by decide) (fun hc3 => ?_) (fun hc3 => ?_)
  · rw [if_neg hc3] at hok
    refine lv_iconst (v := 0) hx hb zd_LassoFinder_verify_55 (by decide) ?_
    exact z_iret (u := (zad ad q u, I2, J2, B2, D2)) hx hb hr hlocks rfl hw (List.range 77) wS_all wS_nd hok (Nat.le_of_ble_eq_true rfl) (Nat.le_of_ble_eq_true rfl) zd_LassoFinder_verify_56
  · rw [if_pos hc3] at hok
    refine lv_iconst (v := 1) hx hb zd_LassoFinder_verify_51 (by decide) ?_
    refine lv_goto (tgt := 56) hx hb zd_LassoFinder_verify_52 (by decide) ?_
    exact z_iret (u := (zad ad q u, I2, J2, B2, D2)) hx hb hr hlocks rfl hw (List.range 77) wS_all wS_nd hok (Nat.le_of_ble_eq_true rfl) (Nat.le_of_ble_eq_true rfl) zd_LassoFinder_verify_56
