abbrev zy_LassoFinderModel_count : MethodName := ⟨"LassoFinderModel", "count", "(I)I"⟩

theorem zd_LassoFinderModel_count_0 : decode prog_14_method_79_code 0 = .ok (.aload_n 0, 1) := by decide +kernel
theorem zd_LassoFinderModel_count_1 : decode prog_14_method_79_code 1 = .ok (.iconst 0, 1) := by decide +kernel
theorem zd_LassoFinderModel_count_2 : decode prog_14_method_79_code 2 = .ok (.putfield 193, 3) := by decide +kernel
theorem zd_LassoFinderModel_count_5 : decode prog_14_method_79_code 5 = .ok (.iload_n 1, 1) := by decide +kernel
theorem zd_LassoFinderModel_count_6 : decode prog_14_method_79_code 6 = .ok (.iconst 0, 1) := by decide +kernel
theorem zd_LassoFinderModel_count_7 : decode prog_14_method_79_code 7 = .ok (.iconst 3, 1) := by decide +kernel
theorem zd_LassoFinderModel_count_8 : decode prog_14_method_79_code 8 = .ok (.invokestatic 196, 3) := by decide +kernel
theorem zd_LassoFinderModel_count_11 : decode prog_14_method_79_code 11 = .ok (.ifCond .ne 5, 3) := by decide +kernel
theorem zd_LassoFinderModel_count_14 : decode prog_14_method_79_code 14 = .ok (.iconst (-1), 1) := by decide +kernel
theorem zd_LassoFinderModel_count_15 : decode prog_14_method_79_code 15 = .ok (.ireturn, 1) := by decide +kernel
theorem zd_LassoFinderModel_count_16 : decode prog_14_method_79_code 16 = .ok (.aload_n 0, 1) := by decide +kernel
theorem zd_LassoFinderModel_count_17 : decode prog_14_method_79_code 17 = .ok (.getfield 361, 3) := by decide +kernel
theorem zd_LassoFinderModel_count_20 : decode prog_14_method_79_code 20 = .ok (.ifCond .ne 7, 3) := by decide +kernel
theorem zd_LassoFinderModel_count_23 : decode prog_14_method_79_code 23 = .ok (.iconst 0, 1) := by decide +kernel
theorem zd_LassoFinderModel_count_24 : decode prog_14_method_79_code 24 = .ok (.goto 42, 3) := by decide +kernel
theorem zd_LassoFinderModel_count_27 : decode prog_14_method_79_code 27 = .ok (.iload_n 1, 1) := by decide +kernel
theorem zd_LassoFinderModel_count_28 : decode prog_14_method_79_code 28 = .ok (.ifCond .ne 10, 3) := by decide +kernel
theorem zd_LassoFinderModel_count_31 : decode prog_14_method_79_code 31 = .ok (.aload_n 0, 1) := by decide +kernel
theorem zd_LassoFinderModel_count_32 : decode prog_14_method_79_code 32 = .ok (.getfield 345, 3) := by decide +kernel
theorem zd_LassoFinderModel_count_35 : decode prog_14_method_79_code 35 = .ok (.goto 31, 3) := by decide +kernel
theorem zd_LassoFinderModel_count_38 : decode prog_14_method_79_code 38 = .ok (.iload_n 1, 1) := by decide +kernel
theorem zd_LassoFinderModel_count_39 : decode prog_14_method_79_code 39 = .ok (.iconst 1, 1) := by decide +kernel
theorem zd_LassoFinderModel_count_40 : decode prog_14_method_79_code 40 = .ok (.if_icmp .ne 10, 3) := by decide +kernel
theorem zd_LassoFinderModel_count_43 : decode prog_14_method_79_code 43 = .ok (.aload_n 0, 1) := by decide +kernel
theorem zd_LassoFinderModel_count_44 : decode prog_14_method_79_code 44 = .ok (.getfield 327, 3) := by decide +kernel
theorem zd_LassoFinderModel_count_47 : decode prog_14_method_79_code 47 = .ok (.goto 19, 3) := by decide +kernel
theorem zd_LassoFinderModel_count_50 : decode prog_14_method_79_code 50 = .ok (.iload_n 1, 1) := by decide +kernel
theorem zd_LassoFinderModel_count_51 : decode prog_14_method_79_code 51 = .ok (.iconst 2, 1) := by decide +kernel
theorem zd_LassoFinderModel_count_52 : decode prog_14_method_79_code 52 = .ok (.if_icmp .ne 10, 3) := by decide +kernel
theorem zd_LassoFinderModel_count_55 : decode prog_14_method_79_code 55 = .ok (.aload_n 0, 1) := by decide +kernel
theorem zd_LassoFinderModel_count_56 : decode prog_14_method_79_code 56 = .ok (.getfield 257, 3) := by decide +kernel
theorem zd_LassoFinderModel_count_59 : decode prog_14_method_79_code 59 = .ok (.goto 7, 3) := by decide +kernel
theorem zd_LassoFinderModel_count_62 : decode prog_14_method_79_code 62 = .ok (.aload_n 0, 1) := by decide +kernel
theorem zd_LassoFinderModel_count_63 : decode prog_14_method_79_code 63 = .ok (.getfield 254, 3) := by decide +kernel
theorem zd_LassoFinderModel_count_66 : decode prog_14_method_79_code 66 = .ok (.ireturn, 1) := by decide +kernel
def wc_LassoFinderModel_count_66 (a0 : Int32) (Post : Int32 → (Nat → Int32) → (Nat → Int64) → (Nat → Nat → Int32) → (Nat → Nat → Int64) → Prop) (y0 : Int32) (I : Nat → Int32) (J : Nat → Int64) (B : Nat → Nat → Int32) (D : Nat → Nat → Int64) : Prop :=
  Post y0 I J B D
def wp_LassoFinderModel_count (I : Nat → Int32) (J : Nat → Int64) (B : Nat → Nat → Int32) (D : Nat → Nat → Int64) (a0 : Int32) (Post : Int32 → (Nat → Int32) → (Nat → Int64) → (Nat → Nat → Int32) → (Nat → Nat → Int64) → Prop) : Prop :=
  wp_LassoFinderModel_in (upd I 0 0) J B D a0 0 3 (fun r1 I1 J1 B1 D1 => ((¬ r1 = 0 → ((¬ (I1 5) = 0 → ((¬ a0 = 0 → ((¬ a0 = 1 → ((¬ a0 = 2 → wc_LassoFinderModel_count_66 a0 Post (I1 10) I1 J1 B1 D1) ∧ (a0 = 2 → wc_LassoFinderModel_count_66 a0 Post (I1 9) I1 J1 B1 D1))) ∧ (a0 = 1 → wc_LassoFinderModel_count_66 a0 Post (I1 15) I1 J1 B1 D1))) ∧ (a0 = 0 → wc_LassoFinderModel_count_66 a0 Post (I1 14) I1 J1 B1 D1))) ∧ ((I1 5) = 0 → wc_LassoFinderModel_count_66 a0 Post 0 I1 J1 B1 D1))) ∧ (r1 = 0 → Post (-1) I1 J1 B1 D1)))
set_option maxHeartbeats 8000000 in
set_option maxRecDepth 100000 in
theorem w_LassoFinderModel_count (l : Launch) (G : va_G) (K : Nat → ClassId) (ad : Nat → Nat) (I : Nat → Int32) (J : Nat → Int64) (B : Nat → Nat → Int32) (D : Nat → Nat → Int64) (a0 : Int32) (Post : Int32 → (Nat → Int32) → (Nat → Int64) → (Nat → Nat → Int32) → (Nat → Nat → Int64) → Prop) (sz : Nat) (hok : wp_LassoFinderModel_count I J B D a0 Post) : Met l zy_LassoFinderModel_count (Cond.code zy_LassoFinderModel_count prog_14_method_79_code 2 (some .int) :: zTB) { frames := 1, cells := 0, slots := 0, locals := 22 } (va_Pc [.ref (ad 0), .int a0] (zPre G K (wM ad K I J B D) sz)) (va_Qi (fun (r : Int32) (u : zS) => Post r u.1 u.2.1 u.2.2.1 u.2.2.2) (fun u t => zPost G K (va_A (wM ad K I J B D) sz) (wM ad K u.1 u.2.1 u.2.2.1 u.2.2.2) t) (va_A (wM ad K I J B D) sz)) 0 0 (va_A (wM ad K I J B D) sz) := by
  refine zMet (y := zy_LassoFinderModel_count) (av := [.ref (ad 0), .int a0]) (maxL := 2) (cc := prog_14_method_79_code) (ret := (some .int)) (W0 := (wM ad K I J B D)) (sz := sz) (G := G) (K := K) (wt := zTB) (mc := 0) (ms := 0) (Qf := fun A => va_Qi (fun (r : Int32) (u : zS) => Post r u.1 u.2.1 u.2.2.1 u.2.2.2) (fun u t => zPost G K A (wM ad K u.1 u.2.1 u.2.2.1 u.2.2.2) t) A) (by decide) (Nat.le_of_ble_eq_true rfl) ?_
  intro p e s m below meth c ls A hx hb hr hml hts hown hlocks hin hA hK H locs hw hsz hl
  clear hsz
  have hown : s.vm.findClass "LassoFinderModel" = some m.cls := hown
  have hj_66 : ∀ (y0 : Int32) (I : Nat → Int32) (J : Nat → Int64) (B : Nat → Nat → Int32) (D : Nat → Nat → Int64) (ls : Array Slot) (H : Heap) (locs : List Loc), wc_LassoFinderModel_count_66 a0 Post y0 I J B D → lv_has ls 2 [] → zW G A s.heap (wM ad K I J B D) H locs → W p l e { frames := 1, cells := 0, slots := 0, locals := 22 } s m ([.ref (ad 0), .int a0] : List Value).toArray below meth c H locs 0 0 (MQ below (va_Qi (fun (r : Int32) (u : zS) => Post r u.1 u.2.1 u.2.2.1 u.2.2.2) (fun u t => zPost G K A (wM ad K u.1 u.2.1 u.2.2.1 u.2.2.2) t) A) ([.ref (ad 0), .int a0] : List Value).toArray s 0 0 A) (F0 m 66 ls [.int y0]) := by
    intro y0 I J B D ls H locs hok hl hw
    unfold wc_LassoFinderModel_count_66 at hok
    exact z_iret (u := (I, J, B, D)) hx hb hr hlocks rfl hw [0, 1, 2, 3, 4, 5, 6, 7, 8, 9, 10, 11, 12, 13, 14, 15, 16, 17, 18, 19, 20, 21, 22, 23, 24, 25, 26, 27, 28, 29, 30, 31, 32, 33, 34, 35, 36, 37, 38, 39, 40, 41, 42, 43, 44, 45, 46, 47, 48, 49, 50, 51, 52, 53, 54, 55, 56, 57] rfl (by decide) hok (Nat.le_of_ble_eq_true rfl) (Nat.le_of_ble_eq_true rfl) zd_LassoFinderModel_count_66
  have hl : lv_has ls 2 [(0, .ref (ad 0)), (1, .int a0)] := hl
  have hw : zW G A s.heap (wM ad K I J B D) H locs := hw
  unfold wp_LassoFinderModel_count at hok
  refine lv_aload_n hx hb zd_LassoFinderModel_count_0 rfl (lv_at hl 0 rfl) ?_
  refine lv_iconst (v := 0) hx hb zd_LassoFinderModel_count_1 (by decide) ?_
  refine z_put (v := .int 0) hx hb hts hown hK hw zZ12 0 rfl 0 (by decide) zm_292 rfl rfl rfl (Nat.le_of_ble_eq_true rfl) zd_LassoFinderModel_count_2 (fun H locs hw => ?_)
  have hw : zW G A s.heap (wM ad K (upd I 0 0) J B D) H locs := hw
  refine lv_iload_n hx hb zd_LassoFinderModel_count_5 rfl (lv_at hl 1 rfl) ?_
  refine lv_iconst (v := 0) hx hb zd_LassoFinderModel_count_6 (by decide) ?_
  refine lv_iconst (v := 3) hx hb zd_LassoFinderModel_count_7 (by decide) ?_
  refine z_calli (w1 := fun (u : zS) => wM ad K u.1 u.2.1 u.2.2.1 u.2.2.2) (wr := []) (z_runS (wc := (wM ad K (upd I 0 0) J B D)) (As := [.int a0, .int 0, .int 3]) (rest := []) ⟨hx, hb, hml, hown, hts⟩ (w_LassoFinderModel_in l G K ad (upd I 0 0) J B D a0 0 3 _ H.size hok) zf_LassoFinderModel_in zm_293 ⟨Nat.le_of_ble_eq_true rfl, Nat.le_of_ble_eq_true rfl⟩ hK hw [0, 1, 2, 3, 4, 5, 6, 7, 8, 9, 10, 11, 12, 13, 14, 15, 16, 17, 18, 19, 20, 21, 22, 23, 24, 25, 26, 27, 28, 29, 30, 31, 32, 33, 34, 35, 36, 37, 38, 39, 40, 41, 42, 43, 44, 45, 46, 47, 48, 49, 50, 51, 52, 53, 54, 55, 56, 57] rfl (by decide) rfl hl.1 rfl (Nat.le_of_ble_eq_true rfl) zd_LassoFinderModel_count_8 ⟨Nat.le_of_ble_eq_true rfl, Nat.le_of_ble_eq_true rfl⟩) hw hA [0, 1, 2, 3, 4, 5, 6, 7, 8, 9, 10, 11, 12, 13, 14, 15, 16, 17, 18, 19, 20, 21, 22, 23, 24, 25, 26, 27, 28, 29, 30, 31, 32, 33, 34, 35, 36, 37, 38, 39, 40, 41, 42, 43, 44, 45, 46, 47, 48, 49, 50, 51, 52, 53, 54, 55, 56, 57] [] rfl rfl (by decide) (by decide) (fun r1 u H locs hok hw => ?_)
  obtain ⟨I1, J1, B1, D1⟩ := u
  dsimp only at hok
  have hw : zW G A s.heap (wM ad K I1 J1 B1 D1) H locs := hw
  refine lv_if_ne (tgt := 16) hx hb zd_LassoFinderModel_count_11 (by decide) (fun hc2 => ?_) (fun hc2 => ?_)
  · have hok := hok.1 hc2
    refine lv_aload_n hx hb zd_LassoFinderModel_count_16 rfl (lv_at hl 0 rfl) ?_
    refine z_get (v := .int (I1 5)) hx hb hts hown hK hw zZ12 0 rfl 6 (by decide) zm_299 rfl zd_LassoFinderModel_count_17 ?_
    refine lv_if_ne (tgt := 27) hx hb zd_LassoFinderModel_count_20 (by decide) (fun hc3 => ?_) (fun hc3 => ?_)
    · have hok := hok.1 hc3
      refine lv_iload_n hx hb zd_LassoFinderModel_count_27 rfl (lv_at hl 1 rfl) ?_
      refine lv_if_ne (tgt := 38) hx hb zd_LassoFinderModel_count_28 (by decide) (fun hc4 => ?_) (fun hc4 => ?_)
      · have hok := hok.1 hc4
        refine lv_iload_n hx hb zd_LassoFinderModel_count_38 rfl (lv_at hl 1 rfl) ?_
        refine lv_iconst (v := 1) hx hb zd_LassoFinderModel_count_39 (by decide) ?_
        refine lv_icmp_ne (tgt := 50) hx hb zd_LassoFinderModel_count_40 (by decide) (fun hc5 => ?_) (fun hc5 => ?_)
        · have hok := hok.1 hc5
          refine lv_iload_n hx hb zd_LassoFinderModel_count_50 rfl (lv_at hl 1 rfl) ?_
          refine lv_iconst (v := 2) hx hb zd_LassoFinderModel_count_51 (by decide) ?_
          refine lv_icmp_ne (tgt := 62) hx hb zd_LassoFinderModel_count_52 (by decide) (fun hc6 => ?_) (fun hc6 => ?_)
          · have hok := hok.1 hc6
            refine lv_aload_n hx hb zd_LassoFinderModel_count_62 rfl (lv_at hl 0 rfl) ?_
            refine z_get (v := .int (I1 10)) hx hb hts hown hK hw zZ12 0 rfl 30 (by decide) zm_310 rfl zd_LassoFinderModel_count_63 ?_
            exact hj_66 (I1 10) I1 J1 B1 D1 ls H locs hok (lv_sub hl [] rfl) hw
          · have hok := hok.2 hc6
            refine lv_aload_n hx hb zd_LassoFinderModel_count_55 rfl (lv_at hl 0 rfl) ?_
            refine z_get (v := .int (I1 9)) hx hb hts hown hK hw zZ12 0 rfl 27 (by decide) zm_303 rfl zd_LassoFinderModel_count_56 ?_
            refine lv_goto (tgt := 66) hx hb zd_LassoFinderModel_count_59 (by decide) ?_
            exact hj_66 (I1 9) I1 J1 B1 D1 ls H locs hok (lv_sub hl [] rfl) hw
        · have hok := hok.2 hc5
          refine lv_aload_n hx hb zd_LassoFinderModel_count_43 rfl (lv_at hl 0 rfl) ?_
          refine z_get (v := .int (I1 15)) hx hb hts hown hK hw zZ12 0 rfl 45 (by decide) zm_314 rfl zd_LassoFinderModel_count_44 ?_
          refine lv_goto (tgt := 66) hx hb zd_LassoFinderModel_count_47 (by decide) ?_
          exact hj_66 (I1 15) I1 J1 B1 D1 ls H locs hok (lv_sub hl [] rfl) hw
      · have hok := hok.2 hc4
        refine lv_aload_n hx hb zd_LassoFinderModel_count_31 rfl (lv_at hl 0 rfl) ?_
        refine z_get (v := .int (I1 14)) hx hb hts hown hK hw zZ12 0 rfl 44 (by decide) zm_300 rfl zd_LassoFinderModel_count_32 ?_
        refine lv_goto (tgt := 66) hx hb zd_LassoFinderModel_count_35 (by decide) ?_
        exact hj_66 (I1 14) I1 J1 B1 D1 ls H locs hok (lv_sub hl [] rfl) hw
    · have hok := hok.2 hc3
      refine lv_iconst (v := 0) hx hb zd_LassoFinderModel_count_23 (by decide) ?_
      refine lv_goto (tgt := 66) hx hb zd_LassoFinderModel_count_24 (by decide) ?_
      exact hj_66 0 I1 J1 B1 D1 ls H locs hok (lv_sub hl [] rfl) hw
  · have hok := hok.2 hc2
    refine lv_iconst (v := (-1)) hx hb zd_LassoFinderModel_count_14 (by decide) ?_
    exact z_iret (u := (I1, J1, B1, D1)) hx hb hr hlocks rfl hw [0, 1, 2, 3, 4, 5, 6, 7, 8, 9, 10, 11, 12, 13, 14, 15, 16, 17, 18, 19, 20, 21, 22, 23, 24, 25, 26, 27, 28, 29, 30, 31, 32, 33, 34, 35, 36, 37, 38, 39, 40, 41, 42, 43, 44, 45, 46, 47, 48, 49, 50, 51, 52, 53, 54, 55, 56, 57] rfl (by decide) hok (Nat.le_of_ble_eq_true rfl) (Nat.le_of_ble_eq_true rfl) zd_LassoFinderModel_count_15
