

def zao (ad : Nat → Nat) (o : Nat) : Nat → Nat := fun k => if k = 77 then o else ad k
theorem wPS_made {G : va_G} {A : Nat → Prop} {H0 H : Heap} {locs : List Loc} {ad9 : Nat → Nat} {K : Nat → ClassId} {o : Nat} {D : Nat → Nat → Int64} {I2 : Nat → Int32} {J2 : Nat → Int64} {B2 : Nat → Nat → Int32} {D2 : Nat → Nat → Int64} (h : zW G A H0 ([(o, zJ K 1 (D 3))] ++ wS ad9 K I2 J2 B2 D2) H locs) : zW G A H0 (wPS (zao ad9 o) K I2 J2 B2 (zmix 3 D2 D)) H locs := h
set_option maxHeartbeats 8000000 in
set_option maxRecDepth 100000 in
theorem w_L_verify_M (l : Launch) (G : va_G) (K : Nat → ClassId) (ad : Nat → Nat) (I : Nat → Int32) (J : Nat → Int64) (B : Nat → Nat → Int32) (D : Nat → Nat → Int64) (Post : Int32 → (Nat → Nat) → (Nat → Int32) → (Nat → Int64) → (Nat → Nat → Int32) → (Nat → Nat → Int64) → Prop) (sz : Nat) (hf : ¬ I 2 = 0) (hok : ∀ ad9 : Nat → Nat, (∀ k, k < 65 → ad9 k = ad k) → wp_LassoSearch_find (zmix 32 I (fun _ => 0)) J (zmix 50 B (fun _ _ => 0)) D (fun r I2 J2 B2 D2 => Post 0 (zao ad9 (ad 77)) I2 J2 B2 (va_up (zmix 3 D2 D) 3 (vp_updL (zmix 3 D2 D 3) (Int32.toNatClampNeg 0) (if (if r = 0 then (1 : Int32) else 0) = 0 then 0 else 1))))) : Met l zy_LassoFinderLaw_verify (Cond.codeWith zy_LassoFinderLaw_verify method_5_code 3 (some .int) [(0, 15, 18, 20)] :: zTB) { frames := 8, cells := 12, slots := 23828, locals := 178 } (va_Pc [.ref (ad 0), .ref (ad 77)] (zPreY G K (wPN ad K I J B D) sz)) (va_Qi (fun (r : Int32) (u : (Nat → Nat) × zS) => Post r u.1 u.2.1 u.2.2.1 u.2.2.2.1 u.2.2.2.2) (fun u t => zPost G K (va_A (wPN ad K I J B D) sz) (wPS u.1 K u.2.1 u.2.2.1 u.2.2.2.1 u.2.2.2.2) t) (va_A (wPN ad K I J B D) sz)) 12 23828 (va_A (wPN ad K I J B D) sz) := by
  refine zMetWY (y := zy_LassoFinderLaw_verify) (av := [.ref (ad 0), .ref (ad 77)]) (maxL := 3) (cc := method_5_code) (ret := (some .int)) (hh := [(0, 15, 18, 20)]) (W0 := (wPN ad K I J B D)) (sz := sz) (G := G) (K := K) (wt := zTB) (mc := 12) (ms := 23828) (Qf := fun A => va_Qi (fun (r : Int32) (u : (Nat → Nat) × zS) => Post r u.1 u.2.1 u.2.2.1 u.2.2.2.1 u.2.2.2.2) (fun u t => zPost G K A (wPS u.1 K u.2.1 u.2.2.1 u.2.2.2.1 u.2.2.2.2) t) A) (by decide) (Nat.le_of_ble_eq_true rfl) ?_
  intro p e s m below meth c ls A hx hb hr hml hts hown hlocks hin hA hK H locs hw hsz hl hT htab
  clear hsz
  have hown : s.vm.findClass "LassoFinderLaw" = some m.cls := hown
  have hl : lv_has ls 3 [(0, .ref (ad 0)), (1, .ref (ad 77))] := hl
  have hw : zW G A s.heap (wPN ad K I J B D) H locs := hw
  refine lv_aload_n hx hb zd_LassoFinderLaw_verify_0 rfl (lv_at hl 1 rfl) ?_
  refine lv_iconst (v := 0) hx hb zd_LassoFinderLaw_verify_1 (by decide) ?_
  refine lv_aload_n hx hb zd_LassoFinderLaw_verify_2 rfl (lv_at hl 0 rfl) ?_
  refine z_calli (w1 := fun (u : (Nat → Nat) × zS) => wS u.1 K u.2.1 u.2.2.1 u.2.2.2.1 u.2.2.2.2) (wr := [(ad 77, zJ K 1 (D 3))]) (z_runV (q0 := 1) (wc := wX ad K Value.null I J B D) (As := []) (rest := [.int 0, .ref (ad 77)]) ⟨hx, hb, hml, hown, hts⟩ (w_LassoFinder_verify_M l G K ad I J B D (fun (r : Int32) (ad9 : Nat → Nat) (I2 : Nat → Int32) (J2 : Nat → Int64) (B2 : Nat → Nat → Int32) (D2 : Nat → Nat → Int64) => Post 0 (zao ad9 (ad 77)) I2 J2 B2 (va_up (zmix 3 D2 D) 3 (vp_updL (zmix 3 D2 D 3) (Int32.toNatClampNeg 0) (if r = 0 then 0 else 1)))) H.size hf hok) zf_LassoFinder_verify zn_910 ⟨(Nat.le_of_ble_eq_true rfl), (Nat.le_of_ble_eq_true rfl)⟩ hK hw (List.range' 1 65) wPN_allX wPN_ndX wPN_g1 rfl rfl hl.1 rfl (Nat.le_of_ble_eq_true rfl) zd_LassoFinderLaw_verify_3 ⟨(Nat.le_of_ble_eq_true rfl), (Nat.le_of_ble_eq_true rfl)⟩) hw hA (List.range' 1 65) [0] wPN_allX rfl (by decide +kernel) wPN_dis (fun r2 u H locs hok hw => ?_)
  obtain ⟨ad9, I2, J2, B2, D2⟩ := u
  dsimp only at hok
  have hw := wPS_made hw
  have hw : zW G A s.heap (wPS (zao ad9 (ad 77)) K I2 J2 B2 (zmix 3 D2 D)) H locs := hw
  refine lv_if_eq (tgt := 13) hx hb zd_LassoFinderLaw_verify_6 (by decide) (fun hc3 => ?_) (fun hc3 => ?_)
  · rw [if_pos hc3] at hok
    refine lv_lconst (v := 0) hx hb zd_LassoFinderLaw_verify_13 (by decide) ?_
    refine va_last (f := (zmix 3 D2 D) 3) hx hb hK hw.1 hw.2.1 hw.2.2 0 1 wPS_a0 rfl (by first | decide | (unfold vp_in; decide) | (constructor <;> decide)) zd_LassoFinderLaw_verify_14 (fun H locs w91 w92 w93 => ?_)
    have hw := wPS_t0 ⟨w91, w92, w93⟩
    refine lv_goto (tgt := 21) hx hb zd_LassoFinderLaw_verify_15 (by decide) ?_
    refine lv_iconst (v := 0) hx hb zd_LassoFinderLaw_verify_21 (by decide) ?_
    exact z_iret (u := (zao ad9 (ad 77), I2, J2, B2, (va_up (zmix 3 D2 D) 3 (vp_updL (zmix 3 D2 D 3) (Int32.toNatClampNeg 0) 0)))) hx hb hr hlocks rfl hw (List.range 78) wPS_all wPS_nd hok (Nat.le_of_ble_eq_true rfl) (Nat.le_of_ble_eq_true rfl) zd_LassoFinderLaw_verify_22
  · rw [if_neg hc3] at hok
    refine lv_lconst (v := 1) hx hb zd_LassoFinderLaw_verify_9 (by decide) ?_
    refine lv_goto (tgt := 14) hx hb zd_LassoFinderLaw_verify_10 (by decide) ?_
    refine va_last (f := (zmix 3 D2 D) 3) hx hb hK hw.1 hw.2.1 hw.2.2 0 1 wPS_a0 rfl (by first | decide | (unfold vp_in; decide) | (constructor <;> decide)) zd_LassoFinderLaw_verify_14 (fun H locs w91 w92 w93 => ?_)
    have hw := wPS_t0 ⟨w91, w92, w93⟩
    refine lv_goto (tgt := 21) hx hb zd_LassoFinderLaw_verify_15 (by decide) ?_
    refine lv_iconst (v := 0) hx hb zd_LassoFinderLaw_verify_21 (by decide) ?_
    exact z_iret (u := (zao ad9 (ad 77), I2, J2, B2, (va_up (zmix 3 D2 D) 3 (vp_updL (zmix 3 D2 D 3) (Int32.toNatClampNeg 0) 1)))) hx hb hr hlocks rfl hw (List.range 78) wPS_all wPS_nd hok (Nat.le_of_ble_eq_true rfl) (Nat.le_of_ble_eq_true rfl) zd_LassoFinderLaw_verify_22
