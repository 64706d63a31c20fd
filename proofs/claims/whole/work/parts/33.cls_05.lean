abbrev zy_Text_ended : MethodName := ⟨"LassoFinder$Text", "ended", "()Z"⟩
abbrev zy_ModelReader_readBreak : MethodName := ⟨"LassoFinder$ModelReader", "readBreak", "(II)I"⟩
abbrev zy_ModelReader_readJump : MethodName := ⟨"LassoFinder$ModelReader", "readJump", "(II)I"⟩
abbrev zy_Text_position : MethodName := ⟨"LassoFinder$Text", "position", "()I"⟩
theorem zn_350 : Cond.methodLink "LassoFinder$ModelReader" 154 ⟨"LassoFinder$Tree", "add", "(III)I"⟩ ∈ zTB := z_in (zt_4 _ (List.mem_of_getElem? (i := 10) rfl)) rfl
theorem zn_357 : Cond.methodLink "LassoFinder$ModelReader" 176 ⟨"LassoFinder$Tree", "loopInside", "(I)I"⟩ ∈ zTB := z_in (zt_4 _ (List.mem_of_getElem? (i := 34) rfl)) rfl
theorem zn_359 : Cond.methodLink "LassoFinder$ModelReader" 179 ⟨"LassoFinder$Text", "position", "()I"⟩ ∈ zTB := z_in (zt_4 _ (List.mem_of_getElem? (i := 39) rfl)) rfl
theorem zn_434 : Cond.fieldLink "LassoFinder$ModelReader" 114 "LassoFinder$Tree" "number" "[I" ∈ zTB := z_in (zt_1 _ (List.mem_of_getElem? (i := 223) rfl)) rfl
theorem zn_451 : Cond.fieldLink "LassoFinder$ModelReader" 121 "LassoFinder$Tree" "labelAt" "[I" ∈ zTB := z_in (zt_1 _ (List.mem_of_getElem? (i := 226) rfl)) rfl
theorem zn_651 : Cond.code ⟨"LassoFinder$Tree", "add", "(III)I"⟩ prog_11_method_3_code 5 (some .int) ∈ zTB := z_in (zt_4 _ (List.mem_of_getElem? (i := 13) rfl)) rfl
theorem zn_652 : Cond.selects "LassoFinder$Tree" ⟨"LassoFinder$Tree", "add", "(III)I"⟩ ⟨"LassoFinder$Tree", "add", "(III)I"⟩ ∈ zTB := z_in (zt_4 _ (List.mem_of_getElem? (i := 12) rfl)) rfl
theorem zn_653 : Cond.instanceMethod ⟨"LassoFinder$Tree", "add", "(III)I"⟩ ∈ zTB := z_in (zt_4 _ (List.mem_of_getElem? (i := 11) rfl)) rfl
theorem zn_654 : Cond.code ⟨"LassoFinder$Text", "position", "()I"⟩ prog_10_method_10_code 1 (some .int) ∈ zTB := z_in (zt_4 _ (List.mem_of_getElem? (i := 42) rfl)) rfl
theorem zn_655 : Cond.selects "LassoFinder$Text" ⟨"LassoFinder$Text", "position", "()I"⟩ ⟨"LassoFinder$Text", "position", "()I"⟩ ∈ zTB := z_in (zt_4 _ (List.mem_of_getElem? (i := 41) rfl)) rfl
theorem zn_656 : Cond.instanceMethod ⟨"LassoFinder$Text", "position", "()I"⟩ ∈ zTB := z_in (zt_4 _ (List.mem_of_getElem? (i := 40) rfl)) rfl
theorem zf_Tree_add : zFaceV zy_Tree_add prog_11_method_3_code 5 (some .int) 3 := ⟨zn_653, zn_652, zm_21, zn_651, by decide +kernel, by decide +kernel, by decide +kernel⟩
theorem zf_Text_position : zFaceV zy_Text_position prog_10_method_10_code 1 (some .int) 0 := ⟨zn_656, zn_655, zm_19, zn_654, by decide +kernel, by decide +kernel, by decide +kernel⟩
theorem zd_ModelReader_readBreak_0 : decode prog_5_method_11_code 0 = .ok (.iload_n 1, 1) := by decide +kernel
theorem zd_ModelReader_readBreak_1 : decode prog_5_method_11_code 1 = .ok (.iload_n 2, 1) := by decide +kernel
theorem zd_ModelReader_readBreak_2 : decode prog_5_method_11_code 2 = .ok (.invokestatic 172, 3) := by decide +kernel
theorem zd_ModelReader_readBreak_5 : decode prog_5_method_11_code 5 = .ok (.ifCond .ne 15, 3) := by decide +kernel
theorem zd_ModelReader_readBreak_8 : decode prog_5_method_11_code 8 = .ok (.aload_n 0, 1) := by decide +kernel
theorem zd_ModelReader_readBreak_9 : decode prog_5_method_11_code 9 = .ok (.getfield 30, 3) := by decide +kernel
theorem zd_ModelReader_readBreak_12 : decode prog_5_method_11_code 12 = .ok (.iload_n 1, 1) := by decide +kernel
theorem zd_ModelReader_readBreak_13 : decode prog_5_method_11_code 13 = .ok (.invokevirtual 176, 3) := by decide +kernel
theorem zd_ModelReader_readBreak_16 : decode prog_5_method_11_code 16 = .ok (.iconst (-1), 1) := by decide +kernel
theorem zd_ModelReader_readBreak_17 : decode prog_5_method_11_code 17 = .ok (.if_icmp .ne 10, 3) := by decide +kernel
theorem zd_ModelReader_readBreak_20 : decode prog_5_method_11_code 20 = .ok (.aload_n 0, 1) := by decide +kernel
theorem zd_ModelReader_readBreak_21 : decode prog_5_method_11_code 21 = .ok (.getfield 9, 3) := by decide +kernel
theorem zd_ModelReader_readBreak_24 : decode prog_5_method_11_code 24 = .ok (.invokevirtual 62, 3) := by decide +kernel
theorem zd_ModelReader_readBreak_27 : decode prog_5_method_11_code 27 = .ok (.aload_n 0, 1) := by decide +kernel
theorem zd_ModelReader_readBreak_28 : decode prog_5_method_11_code 28 = .ok (.getfield 9, 3) := by decide +kernel
theorem zd_ModelReader_readBreak_31 : decode prog_5_method_11_code 31 = .ok (.invokevirtual 65, 3) := by decide +kernel
theorem zd_ModelReader_readBreak_34 : decode prog_5_method_11_code 34 = .ok (.aload_n 0, 1) := by decide +kernel
theorem zd_ModelReader_readBreak_35 : decode prog_5_method_11_code 35 = .ok (.getfield 30, 3) := by decide +kernel
theorem zd_ModelReader_readBreak_38 : decode prog_5_method_11_code 38 = .ok (.iconst 4, 1) := by decide +kernel
theorem zd_ModelReader_readBreak_39 : decode prog_5_method_11_code 39 = .ok (.iload_n 1, 1) := by decide +kernel
theorem zd_ModelReader_readBreak_40 : decode prog_5_method_11_code 40 = .ok (.iload_n 2, 1) := by decide +kernel
theorem zd_ModelReader_readBreak_41 : decode prog_5_method_11_code 41 = .ok (.invokevirtual 154, 3) := by decide +kernel
theorem zd_ModelReader_readBreak_44 : decode prog_5_method_11_code 44 = .ok (.ireturn, 1) := by decide +kernel
theorem zd_ModelReader_readJump_0 : decode prog_5_method_12_code 0 = .ok (.iload_n 1, 1) := by decide +kernel
theorem zd_ModelReader_readJump_1 : decode prog_5_method_12_code 1 = .ok (.iload_n 2, 1) := by decide +kernel
theorem zd_ModelReader_readJump_2 : decode prog_5_method_12_code 2 = .ok (.invokestatic 172, 3) := by decide +kernel
theorem zd_ModelReader_readJump_5 : decode prog_5_method_12_code 5 = .ok (.ifCond .eq 10, 3) := by decide +kernel
theorem zd_ModelReader_readJump_8 : decode prog_5_method_12_code 8 = .ok (.aload_n 0, 1) := by decide +kernel
theorem zd_ModelReader_readJump_9 : decode prog_5_method_12_code 9 = .ok (.getfield 9, 3) := by decide +kernel
theorem zd_ModelReader_readJump_12 : decode prog_5_method_12_code 12 = .ok (.invokevirtual 62, 3) := by decide +kernel
theorem zd_ModelReader_readJump_15 : decode prog_5_method_12_code 15 = .ok (.aload_n 0, 1) := by decide +kernel
theorem zd_ModelReader_readJump_16 : decode prog_5_method_12_code 16 = .ok (.getfield 9, 3) := by decide +kernel
theorem zd_ModelReader_readJump_19 : decode prog_5_method_12_code 19 = .ok (.invokevirtual 65, 3) := by decide +kernel
theorem zd_ModelReader_readJump_22 : decode prog_5_method_12_code 22 = .ok (.aload_n 0, 1) := by decide +kernel
theorem zd_ModelReader_readJump_23 : decode prog_5_method_12_code 23 = .ok (.getfield 9, 3) := by decide +kernel
theorem zd_ModelReader_readJump_26 : decode prog_5_method_12_code 26 = .ok (.bipush 65, 2) := by decide +kernel
theorem zd_ModelReader_readJump_28 : decode prog_5_method_12_code 28 = .ok (.invokevirtual 80, 3) := by decide +kernel
theorem zd_ModelReader_readJump_31 : decode prog_5_method_12_code 31 = .ok (.istore_n 3, 1) := by decide +kernel
theorem zd_ModelReader_readJump_32 : decode prog_5_method_12_code 32 = .ok (.iload_n 3, 1) := by decide +kernel
theorem zd_ModelReader_readJump_33 : decode prog_5_method_12_code 33 = .ok (.iconst (-1), 1) := by decide +kernel
theorem zd_ModelReader_readJump_34 : decode prog_5_method_12_code 34 = .ok (.if_icmp .ne 10, 3) := by decide +kernel
theorem zd_ModelReader_readJump_37 : decode prog_5_method_12_code 37 = .ok (.aload_n 0, 1) := by decide +kernel
theorem zd_ModelReader_readJump_38 : decode prog_5_method_12_code 38 = .ok (.getfield 9, 3) := by decide +kernel
theorem zd_ModelReader_readJump_41 : decode prog_5_method_12_code 41 = .ok (.invokevirtual 62, 3) := by decide +kernel
theorem zd_ModelReader_readJump_44 : decode prog_5_method_12_code 44 = .ok (.aload_n 0, 1) := by decide +kernel
theorem zd_ModelReader_readJump_45 : decode prog_5_method_12_code 45 = .ok (.getfield 30, 3) := by decide +kernel
theorem zd_ModelReader_readJump_48 : decode prog_5_method_12_code 48 = .ok (.iconst 5, 1) := by decide +kernel
theorem zd_ModelReader_readJump_49 : decode prog_5_method_12_code 49 = .ok (.iload_n 1, 1) := by decide +kernel
theorem zd_ModelReader_readJump_50 : decode prog_5_method_12_code 50 = .ok (.iload_n 2, 1) := by decide +kernel
theorem zd_ModelReader_readJump_51 : decode prog_5_method_12_code 51 = .ok (.invokevirtual 154, 3) := by decide +kernel
theorem zd_ModelReader_readJump_54 : decode prog_5_method_12_code 54 = .ok (.istore 4, 2) := by decide +kernel
theorem zd_ModelReader_readJump_56 : decode prog_5_method_12_code 56 = .ok (.aload_n 0, 1) := by decide +kernel
theorem zd_ModelReader_readJump_57 : decode prog_5_method_12_code 57 = .ok (.getfield 30, 3) := by decide +kernel
theorem zd_ModelReader_readJump_60 : decode prog_5_method_12_code 60 = .ok (.getfield 114, 3) := by decide +kernel
theorem zd_ModelReader_readJump_63 : decode prog_5_method_12_code 63 = .ok (.iload 4, 2) := by decide +kernel
theorem zd_ModelReader_readJump_65 : decode prog_5_method_12_code 65 = .ok (.iload_n 3, 1) := by decide +kernel
theorem zd_ModelReader_readJump_66 : decode prog_5_method_12_code 66 = .ok (.iastore, 1) := by decide +kernel
theorem zd_ModelReader_readJump_67 : decode prog_5_method_12_code 67 = .ok (.aload_n 0, 1) := by decide +kernel
theorem zd_ModelReader_readJump_68 : decode prog_5_method_12_code 68 = .ok (.getfield 30, 3) := by decide +kernel
theorem zd_ModelReader_readJump_71 : decode prog_5_method_12_code 71 = .ok (.getfield 121, 3) := by decide +kernel
theorem zd_ModelReader_readJump_74 : decode prog_5_method_12_code 74 = .ok (.iload 4, 2) := by decide +kernel
theorem zd_ModelReader_readJump_76 : decode prog_5_method_12_code 76 = .ok (.aload_n 0, 1) := by decide +kernel
theorem zd_ModelReader_readJump_77 : decode prog_5_method_12_code 77 = .ok (.getfield 9, 3) := by decide +kernel
theorem zd_ModelReader_readJump_80 : decode prog_5_method_12_code 80 = .ok (.invokevirtual 179, 3) := by decide +kernel
theorem zd_ModelReader_readJump_83 : decode prog_5_method_12_code 83 = .ok (.iastore, 1) := by decide +kernel
theorem zd_ModelReader_readJump_84 : decode prog_5_method_12_code 84 = .ok (.aload_n 0, 1) := by decide +kernel
theorem zd_ModelReader_readJump_85 : decode prog_5_method_12_code 85 = .ok (.getfield 9, 3) := by decide +kernel
theorem zd_ModelReader_readJump_88 : decode prog_5_method_12_code 88 = .ok (.invokevirtual 65, 3) := by decide +kernel
theorem zd_ModelReader_readJump_91 : decode prog_5_method_12_code 91 = .ok (.iload 4, 2) := by decide +kernel
theorem zd_ModelReader_readJump_93 : decode prog_5_method_12_code 93 = .ok (.ireturn, 1) := by decide +kernel
theorem zd_Text_ended_0 : decode prog_10_method_4_code 0 = .ok (.aload_n 0, 1) := by decide +kernel
theorem zd_Text_ended_1 : decode prog_10_method_4_code 1 = .ok (.getfield 25, 3) := by decide +kernel
theorem zd_Text_ended_4 : decode prog_10_method_4_code 4 = .ok (.aload_n 0, 1) := by decide +kernel
theorem zd_Text_ended_5 : decode prog_10_method_4_code 5 = .ok (.getfield 22, 3) := by decide +kernel
theorem zd_Text_ended_8 : decode prog_10_method_4_code 8 = .ok (.if_icmp .lt 7, 3) := by decide +kernel
theorem zd_Text_ended_11 : decode prog_10_method_4_code 11 = .ok (.iconst 1, 1) := by decide +kernel
theorem zd_Text_ended_12 : decode prog_10_method_4_code 12 = .ok (.goto 4, 3) := by decide +kernel
theorem zd_Text_ended_15 : decode prog_10_method_4_code 15 = .ok (.iconst 0, 1) := by decide +kernel
theorem zd_Text_ended_16 : decode prog_10_method_4_code 16 = .ok (.ireturn, 1) := by decide +kernel
theorem zd_Text_position_0 : decode prog_10_method_10_code 0 = .ok (.aload_n 0, 1) := by decide +kernel
theorem zd_Text_position_1 : decode prog_10_method_10_code 1 = .ok (.getfield 25, 3) := by decide +kernel
theorem zd_Text_position_4 : decode prog_10_method_10_code 4 = .ok (.ireturn, 1) := by decide +kernel
def wc_Text_ended_16 (Post : Int32 → (Nat → Int32) → (Nat → Int64) → (Nat → Nat → Int32) → (Nat → Nat → Int64) → Prop) (y0 : Int32) (I : Nat → Int32) (J : Nat → Int64) (B : Nat → Nat → Int32) (D : Nat → Nat → Int64) : Prop :=
  (y0 = 0 ∨ y0 = 1) ∧ Post y0 I J B D
def wp_Text_ended (I : Nat → Int32) (J : Nat → Int64) (B : Nat → Nat → Int32) (D : Nat → Nat → Int64) (Post : Int32 → (Nat → Int32) → (Nat → Int64) → (Nat → Nat → Int32) → (Nat → Nat → Int64) → Prop) : Prop :=
  (((I 5) < (I 4) → wc_Text_ended_16  Post 0 I J B D) ∧ (¬ (I 5) < (I 4) → wc_Text_ended_16  Post 1 I J B D))
set_option maxHeartbeats 8000000 in
set_option maxRecDepth 100000 in
theorem wJ_Text_ended_16 {p : Program} {l : Launch} {e : Env} {s : State} {m : MethodId} {below : List Frame} {meth : Method} {c : Code} {A : Nat → Prop} (G : va_G) (K : Nat → ClassId) (ad : Nat → Nat) (sv : Value) (Post : Int32 → (Nat → Int32) → (Nat → Int64) → (Nat → Nat → Int32) → (Nat → Nat → Int64) → Prop) (C : zCx p s m ([.ref (ad 1)] : List Value).toArray meth c A G K prog_10_method_4_code (some .boolean) 1 "LassoFinder$Text") : ∀ (y0 : Int32) (I : Nat → Int32) (J : Nat → Int64) (B : Nat → Nat → Int32) (D : Nat → Nat → Int64) (ls : Array Slot) (H : Heap) (locs : List Loc), wc_Text_ended_16  Post y0 I J B D → lv_has ls 1 [] → zW G A s.heap (wX ad K sv I J B D) H locs → W p l e { frames := 0, cells := 0, slots := 0, locals := 0 } s m ([.ref (ad 1)] : List Value).toArray below meth c H locs 0 0 (MQ below (va_Qi (fun (r : Int32) (u : zS) => Post r u.1 u.2.1 u.2.2.1 u.2.2.2) (fun u t => zPost G K A (wX ad K sv u.1 u.2.1 u.2.2.1 u.2.2.2) t) A) ([.ref (ad 1)] : List Value).toArray s 0 0 A) (F0 m 16 ls [.int y0]) := by
  obtain ⟨hx, hb, hr, hml, hts, hown, hlocks, hA, hK⟩ := id C
  intro y0 I J B D ls H locs hok hl hw
  unfold wc_Text_ended_16 at hok
  have hbo := hok.1
  have hok := hok.2
  exact (z_iret (u := (I, J, B, D)) hx hb hr hlocks (z_nar hbo) hw (List.range 65) wX_all wX_nd hok (Nat.le_of_ble_eq_true rfl) (Nat.le_of_ble_eq_true rfl) zd_Text_ended_16)
set_option maxHeartbeats 8000000 in
set_option maxRecDepth 100000 in
theorem w_Text_ended (l : Launch) (G : va_G) (K : Nat → ClassId) (ad : Nat → Nat) (sv : Value) (I : Nat → Int32) (J : Nat → Int64) (B : Nat → Nat → Int32) (D : Nat → Nat → Int64) (Post : Int32 → (Nat → Int32) → (Nat → Int64) → (Nat → Nat → Int32) → (Nat → Nat → Int64) → Prop) (sz : Nat) (hok : wp_Text_ended I J B D  Post) : Met l zy_Text_ended (Cond.code zy_Text_ended prog_10_method_4_code 1 (some .boolean) :: zTB) { frames := 0, cells := 0, slots := 0, locals := 0 } (va_Pc [.ref (ad 1)] (zPre G K (wX ad K sv I J B D) sz)) (va_Qi (fun (r : Int32) (u : zS) => Post r u.1 u.2.1 u.2.2.1 u.2.2.2) (fun u t => zPost G K (va_A (wX ad K sv I J B D) sz) (wX ad K sv u.1 u.2.1 u.2.2.1 u.2.2.2) t) (va_A (wX ad K sv I J B D) sz)) 0 0 (va_A (wX ad K sv I J B D) sz) := by
  refine zMet (y := zy_Text_ended) (av := [.ref (ad 1)]) (maxL := 1) (cc := prog_10_method_4_code) (ret := (some .boolean)) (W0 := (wX ad K sv I J B D)) (sz := sz) (G := G) (K := K) (wt := zTB) (mc := 0) (ms := 0) (Qf := fun A => va_Qi (fun (r : Int32) (u : zS) => Post r u.1 u.2.1 u.2.2.1 u.2.2.2) (fun u t => zPost G K A (wX ad K sv u.1 u.2.1 u.2.2.1 u.2.2.2) t) A) (by decide) (Nat.le_of_ble_eq_true rfl) ?_
  intro p e s m below meth c ls A hx hb hr hml hts hown hlocks hin hA hK H locs hw hsz hl
  clear hsz
  have hown : s.vm.findClass "LassoFinder$Text" = some m.cls := hown
  have C : zCx p s m ([.ref (ad 1)] : List Value).toArray meth c A G K prog_10_method_4_code (some .boolean) 1 "LassoFinder$Text" := ⟨hx, hb, hr, hml, hts, hown, hlocks, hA, hK⟩
  have hl : lv_has ls 1 [(0, .ref (ad 1))] := hl
  have hw : zW G A s.heap (wX ad K sv I J B D) H locs := hw
  unfold wp_Text_ended at hok
  refine lv_aload_n hx hb zd_Text_ended_0 rfl (lv_at hl 0 rfl) ?_
  refine z_get (v := .int (I 5)) hx hb hts hown hK hw zZ9 1 wX_g1 3 (by decide) zn_417 rfl zd_Text_ended_1 ?_
  refine lv_aload_n hx hb zd_Text_ended_4 rfl (lv_at hl 0 rfl) ?_
  refine z_get (v := .int (I 4)) hx hb hts hown hK hw zZ9 1 wX_g1 2 (by decide) zn_416 rfl zd_Text_ended_5 ?_
  refine lv_icmp_lt (tgt := 15) hx hb zd_Text_ended_8 (by decide) (fun hc1 => ?_) (fun hc1 => ?_)
  · have hok := hok.1 hc1
    refine lv_iconst (v := 0) hx hb zd_Text_ended_15 (by decide) ?_
    exact wJ_Text_ended_16 G K ad sv  Post C 0 I J B D ls H locs hok (lv_sub hl [] rfl) hw
  · have hok := hok.2 hc1
    refine lv_iconst (v := 1) hx hb zd_Text_ended_11 (by decide) ?_
    refine lv_goto (tgt := 16) hx hb zd_Text_ended_12 (by decide) ?_
    exact wJ_Text_ended_16 G K ad sv  Post C 1 I J B D ls H locs hok (lv_sub hl [] rfl) hw
def wc_ModelReader_readBreak_27 (a0 : Int32) (a1 : Int32) (Post : Int32 → (Nat → Int32) → (Nat → Int64) → (Nat → Nat → Int32) → (Nat → Nat → Int64) → Prop) (PX : String → (Nat → Int32) → (Nat → Int64) → (Nat → Nat → Int32) → (Nat → Nat → Int64) → Prop) (x1 : Int32) (x2 : Int32) (I : Nat → Int32) (J : Nat → Int64) (B : Nat → Nat → Int32) (D : Nat → Nat → Int64) : Prop :=
  wp_Text_skip I J B D  (fun I1 J1 B1 D1 => wp_Tree_add I1 J1 B1 D1 4 x1 x2 (fun r2 I2 J2 B2 D2 => Post r2 I2 J2 B2 D2))
def wc_ModelReader_readBreak_20 (a0 : Int32) (a1 : Int32) (Post : Int32 → (Nat → Int32) → (Nat → Int64) → (Nat → Nat → Int32) → (Nat → Nat → Int64) → Prop) (PX : String → (Nat → Int32) → (Nat → Int64) → (Nat → Nat → Int32) → (Nat → Nat → Int64) → Prop) (x1 : Int32) (x2 : Int32) (I : Nat → Int32) (J : Nat → Int64) (B : Nat → Nat → Int32) (D : Nat → Nat → Int64) : Prop :=
  wp_Text_refuse I J B D  (fun I3 J3 B3 D3 => wc_ModelReader_readBreak_27 a0 a1 Post PX x1 x2 I3 J3 B3 D3) PX
def wp_ModelReader_readBreak (I : Nat → Int32) (J : Nat → Int64) (B : Nat → Nat → Int32) (D : Nat → Nat → Int64) (a0 : Int32) (a1 : Int32) (Post : Int32 → (Nat → Int32) → (Nat → Int64) → (Nat → Nat → Int32) → (Nat → Nat → Int64) → Prop) (PX : String → (Nat → Int32) → (Nat → Int64) → (Nat → Nat → Int32) → (Nat → Nat → Int64) → Prop) : Prop :=
  wp_ModelReader_leadsInside I J B D a0 a1 (fun r4 I4 J4 B4 D4 => ((¬ r4 = 0 → wc_ModelReader_readBreak_20 a0 a1 Post PX a0 a1 I4 J4 B4 D4) ∧ (r4 = 0 → wp_Tree_loopInside I4 J4 B4 D4 a0 (fun r6 I6 J6 B6 D6 => ((¬ r6 = (-1) → wc_ModelReader_readBreak_27 a0 a1 Post PX a0 a1 I6 J6 B6 D6) ∧ (r6 = (-1) → wc_ModelReader_readBreak_20 a0 a1 Post PX a0 a1 I6 J6 B6 D6))))))
set_option maxHeartbeats 8000000 in
set_option maxRecDepth 100000 in
theorem wJ_ModelReader_readBreak_27 {p : Program} {l : Launch} {e : Env} {s : State} {m : MethodId} {below : List Frame} {meth : Method} {c : Code} {A : Nat → Prop} (G : va_G) (K : Nat → ClassId) (ad : Nat → Nat) (sv : Value) (a0 : Int32) (a1 : Int32) (Post : Int32 → (Nat → Int32) → (Nat → Int64) → (Nat → Nat → Int32) → (Nat → Nat → Int64) → Prop) (PX : String → (Nat → Int32) → (Nat → Int64) → (Nat → Nat → Int32) → (Nat → Nat → Int64) → Prop) (C : zCy p l s m ([.ref (ad 5), .int a0, .int a1] : List Value).toArray meth c A G K prog_5_method_11_code (some .int) 3 "LassoFinder$ModelReader") : ∀ (x1 : Int32) (x2 : Int32) (I : Nat → Int32) (J : Nat → Int64) (B : Nat → Nat → Int32) (D : Nat → Nat → Int64) (ls : Array Slot) (H : Heap) (locs : List Loc), wc_ModelReader_readBreak_27 a0 a1 Post PX x1 x2 I J B D → lv_has ls 3 [(0, .ref (ad 5)), (1, .int x1), (2, .int x2)] → zW G A s.heap (wX ad K sv I J B D) H locs → W p l e { frames := 7, cells := 1, slots := 6, locals := 101 } s m ([.ref (ad 5), .int a0, .int a1] : List Value).toArray below meth c H locs 0 0 (zyMQ below (va_Qi (fun (r : Int32) (u : zS) => Post r u.1 u.2.1 u.2.2.1 u.2.2.2) (fun u t => zPost G K A (wX ad K sv u.1 u.2.1 u.2.2.1 u.2.2.2) t) A) (zYC (fun E (u : zS) => PX E u.1 u.2.1 u.2.2.1 u.2.2.2) (fun u => wX ad K sv u.1 u.2.1 u.2.2.1 u.2.2.2) G K A) ([.ref (ad 5), .int a0, .int a1] : List Value).toArray s 1 6 A) (F0 m 27 ls []) := by
  obtain ⟨hx, hb, hr, hml, hts, hown, hlocks, hA, hK, hT, hnt, hlt⟩ := id C
  intro x1 x2 I J B D ls H locs hok hl hw
  unfold wc_ModelReader_readBreak_27 at hok
  refine lv_aload_n hx hb zd_ModelReader_readBreak_27 rfl (lv_at hl 0 rfl) ?_
  refine z_get (v := .ref (ad 1)) hx hb hts hown hK hw zZ4 5 wX_g5 0 (by decide) zn_422 rfl zd_ModelReader_readBreak_28 ?_
  refine z_callv (w1 := fun (u : zS) => wX ad K sv u.1 u.2.1 u.2.2.1 u.2.2.2) (wr := []) (z_runV (q0 := 1) (wc := (wX ad K sv I J B D)) (As := []) (rest := []) ⟨hx, hb, hml, hown, hts⟩ (w_Text_skip l G K ad sv I J B D  _ H.size hok) zf_Text_skip zn_338 ⟨Nat.le_of_ble_eq_true rfl, Nat.le_of_ble_eq_true rfl⟩ hK hw (List.range 65) wX_all wX_nd wX_g1 rfl rfl hl.1 rfl (Nat.le_of_ble_eq_true rfl) zd_ModelReader_readBreak_31 ⟨Nat.le_of_ble_eq_true rfl, Nat.le_of_ble_eq_true rfl⟩) hw hA (List.range 65) [] wX_all rfl (by decide) (fun i hi => by cases hi) (fun u H locs hok hw => ?_)
  obtain ⟨I1, J1, B1, D1⟩ := u
  dsimp only at hok
  have hw : zW G A s.heap (wX ad K sv I1 J1 B1 D1) H locs := hw
  refine lv_aload_n hx hb zd_ModelReader_readBreak_34 rfl (lv_at hl 0 rfl) ?_
  refine z_get (v := .ref (ad 6)) hx hb hts hown hK hw zZ4 5 wX_g5 4 (by decide) zn_424 rfl zd_ModelReader_readBreak_35 ?_
  refine lv_iconst (v := 4) hx hb zd_ModelReader_readBreak_38 (by decide) ?_
  refine lv_iload_n hx hb zd_ModelReader_readBreak_39 rfl (lv_at hl 1 rfl) ?_
  refine lv_iload_n hx hb zd_ModelReader_readBreak_40 rfl (lv_at hl 2 rfl) ?_
  refine z_calli (w1 := fun (u : zS) => wX ad K sv u.1 u.2.1 u.2.2.1 u.2.2.2) (wr := []) (z_runV (q0 := 6) (wc := (wX ad K sv I1 J1 B1 D1)) (As := [.int 4, .int x1, .int x2]) (rest := []) ⟨hx, hb, hml, hown, hts⟩ (w_Tree_add l G K ad sv I1 J1 B1 D1 4 x1 x2 _ H.size hok) zf_Tree_add zn_350 ⟨Nat.le_of_ble_eq_true rfl, Nat.le_of_ble_eq_true rfl⟩ hK hw (List.range 65) wX_all wX_nd wX_g6 rfl rfl hl.1 rfl (Nat.le_of_ble_eq_true rfl) zd_ModelReader_readBreak_41 ⟨Nat.le_of_ble_eq_true rfl, Nat.le_of_ble_eq_true rfl⟩) hw hA (List.range 65) [] wX_all rfl (by decide) (fun i hi => by cases hi) (fun r2 u H locs hok hw => ?_)
  obtain ⟨I2, J2, B2, D2⟩ := u
  dsimp only at hok
  have hw : zW G A s.heap (wX ad K sv I2 J2 B2 D2) H locs := hw
  exact zy_ret (z_iret (u := (I2, J2, B2, D2)) hx hb hr hlocks rfl hw (List.range 65) wX_all wX_nd hok (Nat.le_of_ble_eq_true rfl) (Nat.le_of_ble_eq_true rfl) zd_ModelReader_readBreak_44)
set_option maxHeartbeats 8000000 in
set_option maxRecDepth 100000 in
theorem wJ_ModelReader_readBreak_20 {p : Program} {l : Launch} {e : Env} {s : State} {m : MethodId} {below : List Frame} {meth : Method} {c : Code} {A : Nat → Prop} (G : va_G) (K : Nat → ClassId) (ad : Nat → Nat) (sv : Value) (a0 : Int32) (a1 : Int32) (Post : Int32 → (Nat → Int32) → (Nat → Int64) → (Nat → Nat → Int32) → (Nat → Nat → Int64) → Prop) (PX : String → (Nat → Int32) → (Nat → Int64) → (Nat → Nat → Int32) → (Nat → Nat → Int64) → Prop) (C : zCy p l s m ([.ref (ad 5), .int a0, .int a1] : List Value).toArray meth c A G K prog_5_method_11_code (some .int) 3 "LassoFinder$ModelReader") : ∀ (x1 : Int32) (x2 : Int32) (I : Nat → Int32) (J : Nat → Int64) (B : Nat → Nat → Int32) (D : Nat → Nat → Int64) (ls : Array Slot) (H : Heap) (locs : List Loc), wc_ModelReader_readBreak_20 a0 a1 Post PX x1 x2 I J B D → lv_has ls 3 [(0, .ref (ad 5)), (1, .int x1), (2, .int x2)] → zW G A s.heap (wX ad K sv I J B D) H locs → W p l e { frames := 7, cells := 1, slots := 6, locals := 101 } s m ([.ref (ad 5), .int a0, .int a1] : List Value).toArray below meth c H locs 0 0 (zyMQ below (va_Qi (fun (r : Int32) (u : zS) => Post r u.1 u.2.1 u.2.2.1 u.2.2.2) (fun u t => zPost G K A (wX ad K sv u.1 u.2.1 u.2.2.1 u.2.2.2) t) A) (zYC (fun E (u : zS) => PX E u.1 u.2.1 u.2.2.1 u.2.2.2) (fun u => wX ad K sv u.1 u.2.1 u.2.2.1 u.2.2.2) G K A) ([.ref (ad 5), .int a0, .int a1] : List Value).toArray s 1 6 A) (F0 m 20 ls []) := by
  obtain ⟨hx, hb, hr, hml, hts, hown, hlocks, hA, hK, hT, hnt, hlt⟩ := id C
  intro x1 x2 I J B D ls H locs hok hl hw
  unfold wc_ModelReader_readBreak_20 at hok
  refine lv_aload_n hx hb zd_ModelReader_readBreak_20 rfl (lv_at hl 0 rfl) ?_
  refine z_get (v := .ref (ad 1)) hx hb hts hown hK hw zZ4 5 wX_g5 0 (by decide) zn_422 rfl zd_ModelReader_readBreak_21 ?_
  refine z_yV (q0 := 1) (wc := (wX ad K sv I J B D)) (wr := []) (w1 := fun (u : zS) => wX ad K sv u.1 u.2.1 u.2.2.1 u.2.2.2) (As := []) (rest := []) ⟨hx, hb, hml, hown, hts⟩ (w_Text_refuse l hlt G K ad sv I J B D  _ _ H.size hok) zf_Text_refuse zn_336 ⟨Nat.le_of_ble_eq_true rfl, Nat.le_of_ble_eq_true rfl⟩ hK hT hw hA (List.range 65) [] wX_all rfl wX_nd (by decide) (fun i hi => by cases hi) wX_g1 rfl rfl hl.1 rfl (Nat.le_of_ble_eq_true rfl) zd_ModelReader_readBreak_24 ⟨Nat.le_of_ble_eq_true rfl, Nat.le_of_ble_eq_true rfl⟩ (fun v st9 t9 L9 h0 hq hL => ?_) (fun E ce q9 u H locs hu hw hce hcv hcl => z_yout (u := u) hnt hlocks hce hcv hcl hw (List.range 65) wX_all wX_nd hu (Nat.le_of_ble_eq_true rfl) (Nat.le_of_ble_eq_true rfl))
  obtain ⟨⟨u, hv9, hok, hB9⟩, hF9⟩ := hq
  cases hv9
  have hw := z_back (wr := []) hw hA (List.range 65) [] wX_all rfl (by decide) (fun i hi => by cases hi) h0 hL hB9 hF9
  obtain ⟨I3, J3, B3, D3⟩ := u
  dsimp only at hok
  generalize t9.heap = H at hw ⊢
  generalize locs ++ L9 = locs at hw ⊢
  have hw : zW G A s.heap (wX ad K sv I3 J3 B3 D3) H locs := hw
  refine W.eq (g2 := F0 m 27 ls []) rfl ?_
  exact wJ_ModelReader_readBreak_27 G K ad sv a0 a1 Post PX C x1 x2 I3 J3 B3 D3 ls H locs hok (lv_sub hl [0, 1, 2] rfl) hw
set_option maxHeartbeats 8000000 in
set_option maxRecDepth 100000 in
theorem w_ModelReader_readBreak (l : Launch) (hlt : l.stackTraces = false) (G : va_G) (K : Nat → ClassId) (ad : Nat → Nat) (sv : Value) (I : Nat → Int32) (J : Nat → Int64) (B : Nat → Nat → Int32) (D : Nat → Nat → Int64) (a0 : Int32) (a1 : Int32) (Post : Int32 → (Nat → Int32) → (Nat → Int64) → (Nat → Nat → Int32) → (Nat → Nat → Int64) → Prop) (PX : String → (Nat → Int32) → (Nat → Int64) → (Nat → Nat → Int32) → (Nat → Nat → Int64) → Prop) (sz : Nat) (hok : wp_ModelReader_readBreak I J B D a0 a1 Post PX) : zyMet l zy_ModelReader_readBreak (Cond.code zy_ModelReader_readBreak prog_5_method_11_code 3 (some .int) :: zTB) { frames := 7, cells := 1, slots := 6, locals := 101 } (va_Pc [.ref (ad 5), .int a0, .int a1] (zPreY G K (wX ad K sv I J B D) sz)) (va_Qi (fun (r : Int32) (u : zS) => Post r u.1 u.2.1 u.2.2.1 u.2.2.2) (fun u t => zPost G K (va_A (wX ad K sv I J B D) sz) (wX ad K sv u.1 u.2.1 u.2.2.1 u.2.2.2) t) (va_A (wX ad K sv I J B D) sz)) (zYC (fun E (u : zS) => PX E u.1 u.2.1 u.2.2.1 u.2.2.2) (fun u => wX ad K sv u.1 u.2.1 u.2.2.1 u.2.2.2) G K (va_A (wX ad K sv I J B D) sz)) 1 6 (va_A (wX ad K sv I J B D) sz) := by
  refine zMetY (y := zy_ModelReader_readBreak) (av := [.ref (ad 5), .int a0, .int a1]) (maxL := 3) (cc := prog_5_method_11_code) (ret := (some .int)) (W0 := (wX ad K sv I J B D)) (sz := sz) (G := G) (K := K) (wt := zTB) (mc := 1) (ms := 6) (Qf := fun A => va_Qi (fun (r : Int32) (u : zS) => Post r u.1 u.2.1 u.2.2.1 u.2.2.2) (fun u t => zPost G K A (wX ad K sv u.1 u.2.1 u.2.2.1 u.2.2.2) t) A) (Xf := fun A => (zYC (fun E (u : zS) => PX E u.1 u.2.1 u.2.2.1 u.2.2.2) (fun u => wX ad K sv u.1 u.2.1 u.2.2.1 u.2.2.2) G K A)) (by decide) (Nat.le_of_ble_eq_true rfl) ?_
  intro p e s m below meth c ls A hx hb hr hml hts hown hlocks hin hA hK H locs hw hsz hl hT hnt
  clear hsz
  have hown : s.vm.findClass "LassoFinder$ModelReader" = some m.cls := hown
  have C : zCy p l s m ([.ref (ad 5), .int a0, .int a1] : List Value).toArray meth c A G K prog_5_method_11_code (some .int) 3 "LassoFinder$ModelReader" := ⟨hx, hb, hr, hml, hts, hown, hlocks, hA, hK, hT, hnt, hlt⟩
  have hl : lv_has ls 3 [(0, .ref (ad 5)), (1, .int a0), (2, .int a1)] := hl
  have hw : zW G A s.heap (wX ad K sv I J B D) H locs := hw
  unfold wp_ModelReader_readBreak at hok
  refine lv_iload_n hx hb zd_ModelReader_readBreak_0 rfl (lv_at hl 1 rfl) ?_
  refine lv_iload_n hx hb zd_ModelReader_readBreak_1 rfl (lv_at hl 2 rfl) ?_
  refine z_calli (w1 := fun (u : zS) => wX ad K sv u.1 u.2.1 u.2.2.1 u.2.2.2) (wr := []) (z_runS (wc := (wX ad K sv I J B D)) (As := [.int a0, .int a1]) (rest := []) ⟨hx, hb, hml, hown, hts⟩ (w_ModelReader_leadsInside l G K ad sv I J B D a0 a1 _ H.size hok) zf_ModelReader_leadsInside zn_356 ⟨Nat.le_of_ble_eq_true rfl, Nat.le_of_ble_eq_true rfl⟩ hK hw (List.range 65) wX_all wX_nd rfl hl.1 rfl (Nat.le_of_ble_eq_true rfl) zd_ModelReader_readBreak_2 ⟨Nat.le_of_ble_eq_true rfl, Nat.le_of_ble_eq_true rfl⟩) hw hA (List.range 65) [] wX_all rfl (by decide) (fun i hi => by cases hi) (fun r4 u H locs hok hw => ?_)
  obtain ⟨I4, J4, B4, D4⟩ := u
  dsimp only at hok
  have hw : zW G A s.heap (wX ad K sv I4 J4 B4 D4) H locs := hw
  refine lv_if_ne (tgt := 20) hx hb zd_ModelReader_readBreak_5 (by decide) (fun hc5 => ?_) (fun hc5 => ?_)
  · have hok := hok.1 hc5
    exact wJ_ModelReader_readBreak_20 G K ad sv a0 a1 Post PX C a0 a1 I4 J4 B4 D4 ls H locs hok (lv_sub hl [0, 1, 2] rfl) hw
  · have hok := hok.2 hc5
    refine lv_aload_n hx hb zd_ModelReader_readBreak_8 rfl (lv_at hl 0 rfl) ?_
    refine z_get (v := .ref (ad 6)) hx hb hts hown hK hw zZ4 5 wX_g5 4 (by decide) zn_424 rfl zd_ModelReader_readBreak_9 ?_
    refine lv_iload_n hx hb zd_ModelReader_readBreak_12 rfl (lv_at hl 1 rfl) ?_
    refine z_calli (w1 := fun (u : zS) => wX ad K sv u.1 u.2.1 u.2.2.1 u.2.2.2) (wr := []) (z_runV (q0 := 6) (wc := (wX ad K sv I4 J4 B4 D4)) (As := [.int a0]) (rest := []) ⟨hx, hb, hml, hown, hts⟩ (w_Tree_loopInside l G K ad sv I4 J4 B4 D4 a0 _ H.size hok) zf_Tree_loopInside zn_357 ⟨Nat.le_of_ble_eq_true rfl, Nat.le_of_ble_eq_true rfl⟩ hK hw (List.range 65) wX_all wX_nd wX_g6 rfl rfl hl.1 rfl (Nat.le_of_ble_eq_true rfl) zd_ModelReader_readBreak_13 ⟨Nat.le_of_ble_eq_true rfl, Nat.le_of_ble_eq_true rfl⟩) hw hA (List.range 65) [] wX_all rfl (by decide) (fun i hi => by cases hi) (fun r6 u H locs hok hw => ?_)
    obtain ⟨I6, J6, B6, D6⟩ := u
    dsimp only at hok
    have hw : zW G A s.heap (wX ad K sv I6 J6 B6 D6) H locs := hw
    refine lv_iconst (v := (-1)) hx hb zd_ModelReader_readBreak_16 (by decide) ?_
    refine lv_icmp_ne (tgt := 27) hx hb zd_ModelReader_readBreak_17 (by decide) (fun hc7 => ?_) (fun hc7 => ?_)
    · have hok := hok.1 hc7
      exact wJ_ModelReader_readBreak_27 G K ad sv a0 a1 Post PX C a0 a1 I6 J6 B6 D6 ls H locs hok (lv_sub hl [0, 1, 2] rfl) hw
    · have hok := hok.2 hc7
      exact wJ_ModelReader_readBreak_20 G K ad sv a0 a1 Post PX C a0 a1 I6 J6 B6 D6 ls H locs hok (lv_sub hl [0, 1, 2] rfl) hw
def wp_Text_position (I : Nat → Int32) (J : Nat → Int64) (B : Nat → Nat → Int32) (D : Nat → Nat → Int64) (Post : Int32 → (Nat → Int32) → (Nat → Int64) → (Nat → Nat → Int32) → (Nat → Nat → Int64) → Prop) : Prop :=
  Post (I 5) I J B D
set_option maxHeartbeats 8000000 in
set_option maxRecDepth 100000 in
theorem w_Text_position (l : Launch) (G : va_G) (K : Nat → ClassId) (ad : Nat → Nat) (sv : Value) (I : Nat → Int32) (J : Nat → Int64) (B : Nat → Nat → Int32) (D : Nat → Nat → Int64) (Post : Int32 → (Nat → Int32) → (Nat → Int64) → (Nat → Nat → Int32) → (Nat → Nat → Int64) → Prop) (sz : Nat) (hok : wp_Text_position I J B D  Post) : Met l zy_Text_position (Cond.code zy_Text_position prog_10_method_10_code 1 (some .int) :: zTB) { frames := 0, cells := 0, slots := 0, locals := 0 } (va_Pc [.ref (ad 1)] (zPre G K (wX ad K sv I J B D) sz)) (va_Qi (fun (r : Int32) (u : zS) => Post r u.1 u.2.1 u.2.2.1 u.2.2.2) (fun u t => zPost G K (va_A (wX ad K sv I J B D) sz) (wX ad K sv u.1 u.2.1 u.2.2.1 u.2.2.2) t) (va_A (wX ad K sv I J B D) sz)) 0 0 (va_A (wX ad K sv I J B D) sz) := by
  refine zMet (y := zy_Text_position) (av := [.ref (ad 1)]) (maxL := 1) (cc := prog_10_method_10_code) (ret := (some .int)) (W0 := (wX ad K sv I J B D)) (sz := sz) (G := G) (K := K) (wt := zTB) (mc := 0) (ms := 0) (Qf := fun A => va_Qi (fun (r : Int32) (u : zS) => Post r u.1 u.2.1 u.2.2.1 u.2.2.2) (fun u t => zPost G K A (wX ad K sv u.1 u.2.1 u.2.2.1 u.2.2.2) t) A) (by decide) (Nat.le_of_ble_eq_true rfl) ?_
  intro p e s m below meth c ls A hx hb hr hml hts hown hlocks hin hA hK H locs hw hsz hl
  clear hsz
  have hown : s.vm.findClass "LassoFinder$Text" = some m.cls := hown
  have C : zCx p s m ([.ref (ad 1)] : List Value).toArray meth c A G K prog_10_method_10_code (some .int) 1 "LassoFinder$Text" := ⟨hx, hb, hr, hml, hts, hown, hlocks, hA, hK⟩
  have hl : lv_has ls 1 [(0, .ref (ad 1))] := hl
  have hw : zW G A s.heap (wX ad K sv I J B D) H locs := hw
  unfold wp_Text_position at hok
  refine lv_aload_n hx hb zd_Text_position_0 rfl (lv_at hl 0 rfl) ?_
  refine z_get (v := .int (I 5)) hx hb hts hown hK hw zZ9 1 wX_g1 3 (by decide) zn_417 rfl zd_Text_position_1 ?_
  exact (z_iret (u := (I, J, B, D)) hx hb hr hlocks rfl hw (List.range 65) wX_all wX_nd hok (Nat.le_of_ble_eq_true rfl) (Nat.le_of_ble_eq_true rfl) zd_Text_position_4)
def wc_ModelReader_readJump_44 (a0 : Int32) (a1 : Int32) (Post : Int32 → (Nat → Int32) → (Nat → Int64) → (Nat → Nat → Int32) → (Nat → Nat → Int64) → Prop) (PX : String → (Nat → Int32) → (Nat → Int64) → (Nat → Nat → Int32) → (Nat → Nat → Int64) → Prop) (x1 : Int32) (x2 : Int32) (x3 : Int32) (I : Nat → Int32) (J : Nat → Int64) (B : Nat → Nat → Int32) (D : Nat → Nat → Int64) : Prop :=
  wp_Tree_add I J B D 5 x1 x2 (fun r1 I1 J1 B1 D1 => vp_in r1 240 ∧ wp_Text_position I1 J1 (va_up B1 26 (upd (B1 26) r1.toNatClampNeg x3)) D1  (fun r2 I2 J2 B2 D2 => vp_in r1 240 ∧ wp_Text_skip I2 J2 (va_up B2 27 (upd (B2 27) r1.toNatClampNeg r2)) D2  (fun I3 J3 B3 D3 => Post r1 I3 J3 B3 D3)))
def wc_ModelReader_readJump_15 (a0 : Int32) (a1 : Int32) (Post : Int32 → (Nat → Int32) → (Nat → Int64) → (Nat → Nat → Int32) → (Nat → Nat → Int64) → Prop) (PX : String → (Nat → Int32) → (Nat → Int64) → (Nat → Nat → Int32) → (Nat → Nat → Int64) → Prop) (x1 : Int32) (x2 : Int32) (I : Nat → Int32) (J : Nat → Int64) (B : Nat → Nat → Int32) (D : Nat → Nat → Int64) : Prop :=
  wp_Text_skip I J B D  (fun I4 J4 B4 D4 => wp_Text_oneOf I4 J4 B4 D4 65 (fun r5 I5 J5 B5 D5 => ((¬ r5 = (-1) → wc_ModelReader_readJump_44 a0 a1 Post PX x1 x2 r5 I5 J5 B5 D5) ∧ (r5 = (-1) → wp_Text_refuse I5 J5 B5 D5  (fun I7 J7 B7 D7 => wc_ModelReader_readJump_44 a0 a1 Post PX x1 x2 r5 I7 J7 B7 D7) PX))))
def wp_ModelReader_readJump (I : Nat → Int32) (J : Nat → Int64) (B : Nat → Nat → Int32) (D : Nat → Nat → Int64) (a0 : Int32) (a1 : Int32) (Post : Int32 → (Nat → Int32) → (Nat → Int64) → (Nat → Nat → Int32) → (Nat → Nat → Int64) → Prop) (PX : String → (Nat → Int32) → (Nat → Int64) → (Nat → Nat → Int32) → (Nat → Nat → Int64) → Prop) : Prop :=
  wp_ModelReader_leadsInside I J B D a0 a1 (fun r8 I8 J8 B8 D8 => ((r8 = 0 → wc_ModelReader_readJump_15 a0 a1 Post PX a0 a1 I8 J8 B8 D8) ∧ (¬ r8 = 0 → wp_Text_refuse I8 J8 B8 D8  (fun I10 J10 B10 D10 => wc_ModelReader_readJump_15 a0 a1 Post PX a0 a1 I10 J10 B10 D10) PX)))
set_option maxHeartbeats 8000000 in
set_option maxRecDepth 100000 in
theorem wJ_ModelReader_readJump_44 {p : Program} {l : Launch} {e : Env} {s : State} {m : MethodId} {below : List Frame} {meth : Method} {c : Code} {A : Nat → Prop} (G : va_G) (K : Nat → ClassId) (ad : Nat → Nat) (sv : Value) (a0 : Int32) (a1 : Int32) (Post : Int32 → (Nat → Int32) → (Nat → Int64) → (Nat → Nat → Int32) → (Nat → Nat → Int64) → Prop) (PX : String → (Nat → Int32) → (Nat → Int64) → (Nat → Nat → Int32) → (Nat → Nat → Int64) → Prop) (C : zCy p l s m ([.ref (ad 5), .int a0, .int a1] : List Value).toArray meth c A G K prog_5_method_12_code (some .int) 5 "LassoFinder$ModelReader") : ∀ (x1 : Int32) (x2 : Int32) (x3 : Int32) (I : Nat → Int32) (J : Nat → Int64) (B : Nat → Nat → Int32) (D : Nat → Nat → Int64) (ls : Array Slot) (H : Heap) (locs : List Loc), wc_ModelReader_readJump_44 a0 a1 Post PX x1 x2 x3 I J B D → lv_has ls 5 [(0, .ref (ad 5)), (1, .int x1), (2, .int x2), (3, .int x3)] → zW G A s.heap (wX ad K sv I J B D) H locs → W p l e { frames := 7, cells := 1, slots := 6, locals := 101 } s m ([.ref (ad 5), .int a0, .int a1] : List Value).toArray below meth c H locs 0 0 (zyMQ below (va_Qi (fun (r : Int32) (u : zS) => Post r u.1 u.2.1 u.2.2.1 u.2.2.2) (fun u t => zPost G K A (wX ad K sv u.1 u.2.1 u.2.2.1 u.2.2.2) t) A) (zYC (fun E (u : zS) => PX E u.1 u.2.1 u.2.2.1 u.2.2.2) (fun u => wX ad K sv u.1 u.2.1 u.2.2.1 u.2.2.2) G K A) ([.ref (ad 5), .int a0, .int a1] : List Value).toArray s 1 6 A) (F0 m 44 ls []) := by
  obtain ⟨hx, hb, hr, hml, hts, hown, hlocks, hA, hK, hT, hnt, hlt⟩ := id C
  intro x1 x2 x3 I J B D ls H locs hok hl hw
  unfold wc_ModelReader_readJump_44 at hok
  refine lv_aload_n hx hb zd_ModelReader_readJump_44 rfl (lv_at hl 0 rfl) ?_
  refine z_get (v := .ref (ad 6)) hx hb hts hown hK hw zZ4 5 wX_g5 4 (by decide) zn_424 rfl zd_ModelReader_readJump_45 ?_
  refine lv_iconst (v := 5) hx hb zd_ModelReader_readJump_48 (by decide) ?_
  refine lv_iload_n hx hb zd_ModelReader_readJump_49 rfl (lv_at hl 1 rfl) ?_
  refine lv_iload_n hx hb zd_ModelReader_readJump_50 rfl (lv_at hl 2 rfl) ?_
  refine z_calli (w1 := fun (u : zS) => wX ad K sv u.1 u.2.1 u.2.2.1 u.2.2.2) (wr := []) (z_runV (q0 := 6) (wc := (wX ad K sv I J B D)) (As := [.int 5, .int x1, .int x2]) (rest := []) ⟨hx, hb, hml, hown, hts⟩ (w_Tree_add l G K ad sv I J B D 5 x1 x2 _ H.size hok) zf_Tree_add zn_350 ⟨Nat.le_of_ble_eq_true rfl, Nat.le_of_ble_eq_true rfl⟩ hK hw (List.range 65) wX_all wX_nd wX_g6 rfl rfl hl.1 rfl (Nat.le_of_ble_eq_true rfl) zd_ModelReader_readJump_51 ⟨Nat.le_of_ble_eq_true rfl, Nat.le_of_ble_eq_true rfl⟩) hw hA (List.range 65) [] wX_all rfl (by decide) (fun i hi => by cases hi) (fun r1 u H locs hok hw => ?_)
  obtain ⟨I1, J1, B1, D1⟩ := u
  dsimp only at hok
  have hw : zW G A s.heap (wX ad K sv I1 J1 B1 D1) H locs := hw
  refine lv_istore hx hb zd_ModelReader_readJump_54 hl (by decide) rfl (fun ls hl => ?_)
  have hl : lv_has ls 5 [(4, .int r1), (0, .ref (ad 5)), (1, .int x1), (2, .int x2), (3, .int x3)] := hl
  refine lv_aload_n hx hb zd_ModelReader_readJump_56 rfl (lv_at hl 1 rfl) ?_
  refine z_get (v := .ref (ad 6)) hx hb hts hown hK hw zZ4 5 wX_g5 4 (by decide) zn_424 rfl zd_ModelReader_readJump_57 ?_
  refine z_get (v := .ref (ad 40)) hx hb hts hown hK hw zZ10 6 wX_g6 8 (by decide) zn_434 rfl zd_ModelReader_readJump_60 ?_
  refine lv_iload hx hb zd_ModelReader_readJump_63 (lv_at hl 0 rfl) ?_
  refine lv_iload_n hx hb zd_ModelReader_readJump_65 rfl (lv_at hl 4 rfl) ?_
  refine va_iast (f := (B1 26)) hx hb hK hw.1 hw.2.1 hw.2.2 40 0 wX_a40 rfl hok.1 zd_ModelReader_readJump_66 (fun H locs w91 w92 w93 => ?_)
  have hok := hok.2
  have hw := wX_t40 ⟨w91, w92, w93⟩
  refine lv_aload_n hx hb zd_ModelReader_readJump_67 rfl (lv_at hl 1 rfl) ?_
  refine z_get (v := .ref (ad 6)) hx hb hts hown hK hw zZ4 5 wX_g5 4 (by decide) zn_424 rfl zd_ModelReader_readJump_68 ?_
  refine z_get (v := .ref (ad 41)) hx hb hts hown hK hw zZ10 6 wX_g6 9 (by decide) zn_451 rfl zd_ModelReader_readJump_71 ?_
  refine lv_iload hx hb zd_ModelReader_readJump_74 (lv_at hl 0 rfl) ?_
  refine lv_aload_n hx hb zd_ModelReader_readJump_76 rfl (lv_at hl 1 rfl) ?_
  refine z_get (v := .ref (ad 1)) hx hb hts hown hK hw zZ4 5 wX_g5 0 (by decide) zn_422 rfl zd_ModelReader_readJump_77 ?_
  refine z_calli (w1 := fun (u : zS) => wX ad K sv u.1 u.2.1 u.2.2.1 u.2.2.2) (wr := []) (z_runV (q0 := 1) (wc := (wX ad K sv I1 J1 (va_up B1 26 (upd (B1 26) r1.toNatClampNeg x3)) D1)) (As := []) (rest := [.int r1, .ref (ad 41)]) ⟨hx, hb, hml, hown, hts⟩ (w_Text_position l G K ad sv I1 J1 (va_up B1 26 (upd (B1 26) r1.toNatClampNeg x3)) D1  _ H.size hok) zf_Text_position zn_359 ⟨Nat.le_of_ble_eq_true rfl, Nat.le_of_ble_eq_true rfl⟩ hK hw (List.range 65) wX_all wX_nd wX_g1 rfl rfl hl.1 rfl (Nat.le_of_ble_eq_true rfl) zd_ModelReader_readJump_80 ⟨Nat.le_of_ble_eq_true rfl, Nat.le_of_ble_eq_true rfl⟩) hw hA (List.range 65) [] wX_all rfl (by decide) (fun i hi => by cases hi) (fun r2 u H locs hok hw => ?_)
  obtain ⟨I2, J2, B2, D2⟩ := u
  dsimp only at hok
  have hw : zW G A s.heap (wX ad K sv I2 J2 B2 D2) H locs := hw
  refine va_iast (f := (B2 27)) hx hb hK hw.1 hw.2.1 hw.2.2 41 0 wX_a41 rfl hok.1 zd_ModelReader_readJump_83 (fun H locs w91 w92 w93 => ?_)
  have hok := hok.2
  have hw := wX_t41 ⟨w91, w92, w93⟩
  refine lv_aload_n hx hb zd_ModelReader_readJump_84 rfl (lv_at hl 1 rfl) ?_
  refine z_get (v := .ref (ad 1)) hx hb hts hown hK hw zZ4 5 wX_g5 0 (by decide) zn_422 rfl zd_ModelReader_readJump_85 ?_
  refine z_callv (w1 := fun (u : zS) => wX ad K sv u.1 u.2.1 u.2.2.1 u.2.2.2) (wr := []) (z_runV (q0 := 1) (wc := (wX ad K sv I2 J2 (va_up B2 27 (upd (B2 27) r1.toNatClampNeg r2)) D2)) (As := []) (rest := []) ⟨hx, hb, hml, hown, hts⟩ (w_Text_skip l G K ad sv I2 J2 (va_up B2 27 (upd (B2 27) r1.toNatClampNeg r2)) D2  _ H.size hok) zf_Text_skip zn_338 ⟨Nat.le_of_ble_eq_true rfl, Nat.le_of_ble_eq_true rfl⟩ hK hw (List.range 65) wX_all wX_nd wX_g1 rfl rfl hl.1 rfl (Nat.le_of_ble_eq_true rfl) zd_ModelReader_readJump_88 ⟨Nat.le_of_ble_eq_true rfl, Nat.le_of_ble_eq_true rfl⟩) hw hA (List.range 65) [] wX_all rfl (by decide) (fun i hi => by cases hi) (fun u H locs hok hw => ?_)
  obtain ⟨I3, J3, B3, D3⟩ := u
  dsimp only at hok
  have hw : zW G A s.heap (wX ad K sv I3 J3 B3 D3) H locs := hw
  refine lv_iload hx hb zd_ModelReader_readJump_91 (lv_at hl 0 rfl) ?_
  exact zy_ret (z_iret (u := (I3, J3, B3, D3)) hx hb hr hlocks rfl hw (List.range 65) wX_all wX_nd hok (Nat.le_of_ble_eq_true rfl) (Nat.le_of_ble_eq_true rfl) zd_ModelReader_readJump_93)
set_option maxHeartbeats 8000000 in
set_option maxRecDepth 100000 in
theorem wJ_ModelReader_readJump_15 {p : Program} {l : Launch} {e : Env} {s : State} {m : MethodId} {below : List Frame} {meth : Method} {c : Code} {A : Nat → Prop} (G : va_G) (K : Nat → ClassId) (ad : Nat → Nat) (sv : Value) (a0 : Int32) (a1 : Int32) (Post : Int32 → (Nat → Int32) → (Nat → Int64) → (Nat → Nat → Int32) → (Nat → Nat → Int64) → Prop) (PX : String → (Nat → Int32) → (Nat → Int64) → (Nat → Nat → Int32) → (Nat → Nat → Int64) → Prop) (C : zCy p l s m ([.ref (ad 5), .int a0, .int a1] : List Value).toArray meth c A G K prog_5_method_12_code (some .int) 5 "LassoFinder$ModelReader") : ∀ (x1 : Int32) (x2 : Int32) (I : Nat → Int32) (J : Nat → Int64) (B : Nat → Nat → Int32) (D : Nat → Nat → Int64) (ls : Array Slot) (H : Heap) (locs : List Loc), wc_ModelReader_readJump_15 a0 a1 Post PX x1 x2 I J B D → lv_has ls 5 [(0, .ref (ad 5)), (1, .int x1), (2, .int x2)] → zW G A s.heap (wX ad K sv I J B D) H locs → W p l e { frames := 7, cells := 1, slots := 6, locals := 101 } s m ([.ref (ad 5), .int a0, .int a1] : List Value).toArray below meth c H locs 0 0 (zyMQ below (va_Qi (fun (r : Int32) (u : zS) => Post r u.1 u.2.1 u.2.2.1 u.2.2.2) (fun u t => zPost G K A (wX ad K sv u.1 u.2.1 u.2.2.1 u.2.2.2) t) A) (zYC (fun E (u : zS) => PX E u.1 u.2.1 u.2.2.1 u.2.2.2) (fun u => wX ad K sv u.1 u.2.1 u.2.2.1 u.2.2.2) G K A) ([.ref (ad 5), .int a0, .int a1] : List Value).toArray s 1 6 A) (F0 m 15 ls []) := by
  obtain ⟨hx, hb, hr, hml, hts, hown, hlocks, hA, hK, hT, hnt, hlt⟩ := id C
  intro x1 x2 I J B D ls H locs hok hl hw
  unfold wc_ModelReader_readJump_15 at hok
  refine lv_aload_n hx hb zd_ModelReader_readJump_15 rfl (lv_at hl 0 rfl) ?_
  refine z_get (v := .ref (ad 1)) hx hb hts hown hK hw zZ4 5 wX_g5 0 (by decide) zn_422 rfl zd_ModelReader_readJump_16 ?_
  refine z_callv (w1 := fun (u : zS) => wX ad K sv u.1 u.2.1 u.2.2.1 u.2.2.2) (wr := []) (z_runV (q0 := 1) (wc := (wX ad K sv I J B D)) (As := []) (rest := []) ⟨hx, hb, hml, hown, hts⟩ (w_Text_skip l G K ad sv I J B D  _ H.size hok) zf_Text_skip zn_338 ⟨Nat.le_of_ble_eq_true rfl, Nat.le_of_ble_eq_true rfl⟩ hK hw (List.range 65) wX_all wX_nd wX_g1 rfl rfl hl.1 rfl (Nat.le_of_ble_eq_true rfl) zd_ModelReader_readJump_19 ⟨Nat.le_of_ble_eq_true rfl, Nat.le_of_ble_eq_true rfl⟩) hw hA (List.range 65) [] wX_all rfl (by decide) (fun i hi => by cases hi) (fun u H locs hok hw => ?_)
  obtain ⟨I4, J4, B4, D4⟩ := u
  dsimp only at hok
  have hw : zW G A s.heap (wX ad K sv I4 J4 B4 D4) H locs := hw
  refine lv_aload_n hx hb zd_ModelReader_readJump_22 rfl (lv_at hl 0 rfl) ?_
  refine z_get (v := .ref (ad 1)) hx hb hts hown hK hw zZ4 5 wX_g5 0 (by decide) zn_422 rfl zd_ModelReader_readJump_23 ?_
  refine lv_bipush (v := 65) hx hb zd_ModelReader_readJump_26 (by decide) ?_
  refine z_calli (w1 := fun (u : zS) => wX ad K sv u.1 u.2.1 u.2.2.1 u.2.2.2) (wr := []) (z_runV (q0 := 1) (wc := (wX ad K sv I4 J4 B4 D4)) (As := [.int 65]) (rest := []) ⟨hx, hb, hml, hown, hts⟩ (w_Text_oneOf l G K ad sv I4 J4 B4 D4 65 _ H.size hok) zf_Text_oneOf zn_334 ⟨Nat.le_of_ble_eq_true rfl, Nat.le_of_ble_eq_true rfl⟩ hK hw (List.range 65) wX_all wX_nd wX_g1 rfl rfl hl.1 rfl (Nat.le_of_ble_eq_true rfl) zd_ModelReader_readJump_28 ⟨Nat.le_of_ble_eq_true rfl, Nat.le_of_ble_eq_true rfl⟩) hw hA (List.range 65) [] wX_all rfl (by decide) (fun i hi => by cases hi) (fun r5 u H locs hok hw => ?_)
  obtain ⟨I5, J5, B5, D5⟩ := u
  dsimp only at hok
  have hw : zW G A s.heap (wX ad K sv I5 J5 B5 D5) H locs := hw
  refine lv_istore_n hx hb zd_ModelReader_readJump_31 rfl hl (by decide) rfl (fun ls hl => ?_)
  have hl : lv_has ls 5 [(3, .int r5), (0, .ref (ad 5)), (1, .int x1), (2, .int x2)] := hl
  refine lv_iload_n hx hb zd_ModelReader_readJump_32 rfl (lv_at hl 0 rfl) ?_
  refine lv_iconst (v := (-1)) hx hb zd_ModelReader_readJump_33 (by decide) ?_
  refine lv_icmp_ne (tgt := 44) hx hb zd_ModelReader_readJump_34 (by decide) (fun hc6 => ?_) (fun hc6 => ?_)
  · have hok := hok.1 hc6
    exact wJ_ModelReader_readJump_44 G K ad sv a0 a1 Post PX C x1 x2 r5 I5 J5 B5 D5 ls H locs hok (lv_sub hl [1, 2, 3, 0] rfl) hw
  · have hok := hok.2 hc6
    refine lv_aload_n hx hb zd_ModelReader_readJump_37 rfl (lv_at hl 1 rfl) ?_
    refine z_get (v := .ref (ad 1)) hx hb hts hown hK hw zZ4 5 wX_g5 0 (by decide) zn_422 rfl zd_ModelReader_readJump_38 ?_
    refine z_yV (q0 := 1) (wc := (wX ad K sv I5 J5 B5 D5)) (wr := []) (w1 := fun (u : zS) => wX ad K sv u.1 u.2.1 u.2.2.1 u.2.2.2) (As := []) (rest := []) ⟨hx, hb, hml, hown, hts⟩ (w_Text_refuse l hlt G K ad sv I5 J5 B5 D5  _ _ H.size hok) zf_Text_refuse zn_336 ⟨Nat.le_of_ble_eq_true rfl, Nat.le_of_ble_eq_true rfl⟩ hK hT hw hA (List.range 65) [] wX_all rfl wX_nd (by decide) (fun i hi => by cases hi) wX_g1 rfl rfl hl.1 rfl (Nat.le_of_ble_eq_true rfl) zd_ModelReader_readJump_41 ⟨Nat.le_of_ble_eq_true rfl, Nat.le_of_ble_eq_true rfl⟩ (fun v st9 t9 L9 h0 hq hL => ?_) (fun E ce q9 u H locs hu hw hce hcv hcl => z_yout (u := u) hnt hlocks hce hcv hcl hw (List.range 65) wX_all wX_nd hu (Nat.le_of_ble_eq_true rfl) (Nat.le_of_ble_eq_true rfl))
    obtain ⟨⟨u, hv9, hok, hB9⟩, hF9⟩ := hq
    cases hv9
    have hw := z_back (wr := []) hw hA (List.range 65) [] wX_all rfl (by decide) (fun i hi => by cases hi) h0 hL hB9 hF9
    obtain ⟨I7, J7, B7, D7⟩ := u
    dsimp only at hok
    generalize t9.heap = H at hw ⊢
    generalize locs ++ L9 = locs at hw ⊢
    have hw : zW G A s.heap (wX ad K sv I7 J7 B7 D7) H locs := hw
    refine W.eq (g2 := F0 m 44 ls []) rfl ?_
    exact wJ_ModelReader_readJump_44 G K ad sv a0 a1 Post PX C x1 x2 r5 I7 J7 B7 D7 ls H locs hok (lv_sub hl [1, 2, 3, 0] rfl) hw
set_option maxHeartbeats 8000000 in
set_option maxRecDepth 100000 in
theorem w_ModelReader_readJump (l : Launch) (hlt : l.stackTraces = false) (G : va_G) (K : Nat → ClassId) (ad : Nat → Nat) (sv : Value) (I : Nat → Int32) (J : Nat → Int64) (B : Nat → Nat → Int32) (D : Nat → Nat → Int64) (a0 : Int32) (a1 : Int32) (Post : Int32 → (Nat → Int32) → (Nat → Int64) → (Nat → Nat → Int32) → (Nat → Nat → Int64) → Prop) (PX : String → (Nat → Int32) → (Nat → Int64) → (Nat → Nat → Int32) → (Nat → Nat → Int64) → Prop) (sz : Nat) (hok : wp_ModelReader_readJump I J B D a0 a1 Post PX) : zyMet l zy_ModelReader_readJump (Cond.code zy_ModelReader_readJump prog_5_method_12_code 5 (some .int) :: zTB) { frames := 7, cells := 1, slots := 6, locals := 101 } (va_Pc [.ref (ad 5), .int a0, .int a1] (zPreY G K (wX ad K sv I J B D) sz)) (va_Qi (fun (r : Int32) (u : zS) => Post r u.1 u.2.1 u.2.2.1 u.2.2.2) (fun u t => zPost G K (va_A (wX ad K sv I J B D) sz) (wX ad K sv u.1 u.2.1 u.2.2.1 u.2.2.2) t) (va_A (wX ad K sv I J B D) sz)) (zYC (fun E (u : zS) => PX E u.1 u.2.1 u.2.2.1 u.2.2.2) (fun u => wX ad K sv u.1 u.2.1 u.2.2.1 u.2.2.2) G K (va_A (wX ad K sv I J B D) sz)) 1 6 (va_A (wX ad K sv I J B D) sz) := by
  refine zMetY (y := zy_ModelReader_readJump) (av := [.ref (ad 5), .int a0, .int a1]) (maxL := 5) (cc := prog_5_method_12_code) (ret := (some .int)) (W0 := (wX ad K sv I J B D)) (sz := sz) (G := G) (K := K) (wt := zTB) (mc := 1) (ms := 6) (Qf := fun A => va_Qi (fun (r : Int32) (u : zS) => Post r u.1 u.2.1 u.2.2.1 u.2.2.2) (fun u t => zPost G K A (wX ad K sv u.1 u.2.1 u.2.2.1 u.2.2.2) t) A) (Xf := fun A => (zYC (fun E (u : zS) => PX E u.1 u.2.1 u.2.2.1 u.2.2.2) (fun u => wX ad K sv u.1 u.2.1 u.2.2.1 u.2.2.2) G K A)) (by decide) (Nat.le_of_ble_eq_true rfl) ?_
  intro p e s m below meth c ls A hx hb hr hml hts hown hlocks hin hA hK H locs hw hsz hl hT hnt
  clear hsz
  have hown : s.vm.findClass "LassoFinder$ModelReader" = some m.cls := hown
  have C : zCy p l s m ([.ref (ad 5), .int a0, .int a1] : List Value).toArray meth c A G K prog_5_method_12_code (some .int) 5 "LassoFinder$ModelReader" := ⟨hx, hb, hr, hml, hts, hown, hlocks, hA, hK, hT, hnt, hlt⟩
  have hl : lv_has ls 5 [(0, .ref (ad 5)), (1, .int a0), (2, .int a1)] := hl
  have hw : zW G A s.heap (wX ad K sv I J B D) H locs := hw
  unfold wp_ModelReader_readJump at hok
  refine lv_iload_n hx hb zd_ModelReader_readJump_0 rfl (lv_at hl 1 rfl) ?_
  refine lv_iload_n hx hb zd_ModelReader_readJump_1 rfl (lv_at hl 2 rfl) ?_
  refine z_calli (w1 := fun (u : zS) => wX ad K sv u.1 u.2.1 u.2.2.1 u.2.2.2) (wr := []) (z_runS (wc := (wX ad K sv I J B D)) (As := [.int a0, .int a1]) (rest := []) ⟨hx, hb, hml, hown, hts⟩ (w_ModelReader_leadsInside l G K ad sv I J B D a0 a1 _ H.size hok) zf_ModelReader_leadsInside zn_356 ⟨Nat.le_of_ble_eq_true rfl, Nat.le_of_ble_eq_true rfl⟩ hK hw (List.range 65) wX_all wX_nd rfl hl.1 rfl (Nat.le_of_ble_eq_true rfl) zd_ModelReader_readJump_2 ⟨Nat.le_of_ble_eq_true rfl, Nat.le_of_ble_eq_true rfl⟩) hw hA (List.range 65) [] wX_all rfl (by decide) (fun i hi => by cases hi) (fun r8 u H locs hok hw => ?_)
  obtain ⟨I8, J8, B8, D8⟩ := u
  dsimp only at hok
  have hw : zW G A s.heap (wX ad K sv I8 J8 B8 D8) H locs := hw
  refine lv_if_eq (tgt := 15) hx hb zd_ModelReader_readJump_5 (by decide) (fun hc9 => ?_) (fun hc9 => ?_)
  · have hok := hok.1 hc9
    exact wJ_ModelReader_readJump_15 G K ad sv a0 a1 Post PX C a0 a1 I8 J8 B8 D8 ls H locs hok (lv_sub hl [0, 1, 2] rfl) hw
  · have hok := hok.2 hc9
    refine lv_aload_n hx hb zd_ModelReader_readJump_8 rfl (lv_at hl 0 rfl) ?_
    refine z_get (v := .ref (ad 1)) hx hb hts hown hK hw zZ4 5 wX_g5 0 (by decide) zn_422 rfl zd_ModelReader_readJump_9 ?_
    refine z_yV (q0 := 1) (wc := (wX ad K sv I8 J8 B8 D8)) (wr := []) (w1 := fun (u : zS) => wX ad K sv u.1 u.2.1 u.2.2.1 u.2.2.2) (As := []) (rest := []) ⟨hx, hb, hml, hown, hts⟩ (w_Text_refuse l hlt G K ad sv I8 J8 B8 D8  _ _ H.size hok) zf_Text_refuse zn_336 ⟨Nat.le_of_ble_eq_true rfl, Nat.le_of_ble_eq_true rfl⟩ hK hT hw hA (List.range 65) [] wX_all rfl wX_nd (by decide) (fun i hi => by cases hi) wX_g1 rfl rfl hl.1 rfl (Nat.le_of_ble_eq_true rfl) zd_ModelReader_readJump_12 ⟨Nat.le_of_ble_eq_true rfl, Nat.le_of_ble_eq_true rfl⟩ (fun v st9 t9 L9 h0 hq hL => ?_) (fun E ce q9 u H locs hu hw hce hcv hcl => z_yout (u := u) hnt hlocks hce hcv hcl hw (List.range 65) wX_all wX_nd hu (Nat.le_of_ble_eq_true rfl) (Nat.le_of_ble_eq_true rfl))
    obtain ⟨⟨u, hv9, hok, hB9⟩, hF9⟩ := hq
    cases hv9
    have hw := z_back (wr := []) hw hA (List.range 65) [] wX_all rfl (by decide) (fun i hi => by cases hi) h0 hL hB9 hF9
    obtain ⟨I10, J10, B10, D10⟩ := u
    dsimp only at hok
    generalize t9.heap = H at hw ⊢
    generalize locs ++ L9 = locs at hw ⊢
    have hw : zW G A s.heap (wX ad K sv I10 J10 B10 D10) H locs := hw
    refine W.eq (g2 := F0 m 15 ls []) rfl ?_
    exact wJ_ModelReader_readJump_15 G K ad sv a0 a1 Post PX C a0 a1 I10 J10 B10 D10 ls H locs hok (lv_sub hl [0, 1, 2] rfl) hw
def wc_Terms_release_B_89 (a0 : Int32) (Post : (Nat → Int32) → (Nat → Int64) → (Nat → Nat → Int32) → (Nat → Nat → Int64) → Prop) (PX : String → (Nat → Int32) → (Nat → Int64) → (Nat → Nat → Int32) → (Nat → Nat → Int64) → Prop)  (I : Nat → Int32) (J : Nat → Int64) (B : Nat → Nat → Int32) (D : Nat → Nat → Int64) : Prop :=
  Post I J B D
def wc_Terms_release_B_52 (a0 : Int32) (Post : (Nat → Int32) → (Nat → Int64) → (Nat → Nat → Int32) → (Nat → Nat → Int64) → Prop) (PX : String → (Nat → Int32) → (Nat → Int64) → (Nat → Nat → Int32) → (Nat → Nat → Int64) → Prop)  (I : Nat → Int32) (J : Nat → Int64) (B : Nat → Nat → Int32) (D : Nat → Nat → Int64) : Prop :=
  Post I J B D
def wb_Terms_release_B_2 (a0 : Int32) (K2 : Int32 → Int32 → (Nat → Int32) → (Nat → Int64) → (Nat → Nat → Int32) → (Nat → Nat → Int64) → Prop) (Post : (Nat → Int32) → (Nat → Int64) → (Nat → Nat → Int32) → (Nat → Nat → Int64) → Prop) (PX : String → (Nat → Int32) → (Nat → Int64) → (Nat → Nat → Int32) → (Nat → Nat → Int64) → Prop) (x1 : Int32) (x2 : Int32) (I : Nat → Int32) (J : Nat → Int64) (B : Nat → Nat → Int32) (D : Nat → Nat → Int64) : Prop :=
  (((20 : Int32) ≤ x2 → wc_Terms_release_B_89 a0 Post PX I J B D) ∧ (¬ (20 : Int32) ≤ x2 → (((I 26) ≤ 0 → wc_Terms_release_B_89 a0 Post PX I J B D) ∧ (¬ (I 26) ≤ 0 → ∀ z3 : Int32, z3 = ((I 26) - 1) → vp_in z3 20 ∧ ∀ z4 : Int32, z4 = ((B 44) z3.toNatClampNeg) → ((z4 = 21 → wc_Terms_release_B_52 a0 Post PX I J B D) ∧ (¬ z4 = 21 → ∀ z7 : Int32, z7 = (z4 - 16) → vp_in z7 5 ∧ ∀ z8 : Int32, z8 = (zStr z7.toNatClampNeg) → ∀ z10 : Int32, z10 = (x1 - 16) → vp_in z10 5 ∧ ∀ z11 : Int32, z11 = (zStr z10.toNatClampNeg) → ((z11 ≤ z8 → vp_in (I 25) 480 ∧ ∀ z13 : Int32, z13 = ((I 25) + 1) → ∀ z14 : Int32, z14 = ((I 26) - 1) → ∀ z15 : Int32, z15 = (x2 + 1) → K2 x1 z15 (upd (upd I 25 z13) 26 z14) J (va_up B 43 (upd (B 43) (I 25).toNatClampNeg z4)) D) ∧ (¬ z11 ≤ z8 → wc_Terms_release_B_52 a0 Post PX I J B D))))))))
def wl_Terms_release_B_2 (a0 : Int32) (Post : (Nat → Int32) → (Nat → Int64) → (Nat → Nat → Int32) → (Nat → Nat → Int64) → Prop) (PX : String → (Nat → Int32) → (Nat → Int64) → (Nat → Nat → Int32) → (Nat → Nat → Int64) → Prop) (n : Nat) : Int32 → Int32 → (Nat → Int32) → (Nat → Int64) → (Nat → Nat → Int32) → (Nat → Nat → Int64) → Prop := Nat.rec (fun _ _ _ _ _ _ => False) (fun _ r => wb_Terms_release_B_2 a0 r Post PX) n
def wp_Terms_release_B (I : Nat → Int32) (J : Nat → Int64) (B : Nat → Nat → Int32) (D : Nat → Nat → Int64) (a0 : Int32) (Post : (Nat → Int32) → (Nat → Int64) → (Nat → Nat → Int32) → (Nat → Nat → Int64) → Prop) (PX : String → (Nat → Int32) → (Nat → Int64) → (Nat → Nat → Int32) → (Nat → Nat → Int64) → Prop) : Prop :=
  ∃ n : Nat, wl_Terms_release_B_2 a0 Post PX n a0 0 I J B D
set_option maxHeartbeats 8000000 in
set_option maxRecDepth 100000 in
theorem wJ_Terms_release_B_89 {p : Program} {l : Launch} {e : Env} {s : State} {m : MethodId} {below : List Frame} {meth : Method} {c : Code} {A : Nat → Prop} (G : va_G) (K : Nat → ClassId) (ad : Nat → Nat) (sv : Value) (a0 : Int32) (Post : (Nat → Int32) → (Nat → Int64) → (Nat → Nat → Int32) → (Nat → Nat → Int64) → Prop) (PX : String → (Nat → Int32) → (Nat → Int64) → (Nat → Nat → Int32) → (Nat → Nat → Int64) → Prop) (C : zCy p l s m ([.ref (ad 10), .int a0] : List Value).toArray meth c A G K prog_9_method_10_code none 4 "LassoFinder$Terms") : ∀  (I : Nat → Int32) (J : Nat → Int64) (B : Nat → Nat → Int32) (D : Nat → Nat → Int64) (ls : Array Slot) (H : Heap) (locs : List Loc), wc_Terms_release_B_89 a0 Post PX  I J B D → lv_has ls 4 [] → zW G A s.heap (wX ad K sv I J B D) H locs → W p l e { frames := 0, cells := 1, slots := 6, locals := 0 } s m ([.ref (ad 10), .int a0] : List Value).toArray below meth c H locs 0 0 (zyMQ below (va_Qv (fun u : zS => Post u.1 u.2.1 u.2.2.1 u.2.2.2) (fun u t => zPost G K A (wX ad K sv u.1 u.2.1 u.2.2.1 u.2.2.2) t) A) (zYC (fun E (u : zS) => PX E u.1 u.2.1 u.2.2.1 u.2.2.2) (fun u => wX ad K sv u.1 u.2.1 u.2.2.1 u.2.2.2) G K A) ([.ref (ad 10), .int a0] : List Value).toArray s 1 6 A) (F0 m 89 ls []) := by
  obtain ⟨hx, hb, hr, hml, hts, hown, hlocks, hA, hK, hT, hnt, hlt⟩ := id C
  intro  I J B D ls H locs hok hl hw
  unfold wc_Terms_release_B_89 at hok
  exact zy_ret (z_vret (u := (I, J, B, D)) hx hb hr hlocks hw (List.range 65) wX_all wX_nd hok (Nat.le_of_ble_eq_true rfl) (Nat.le_of_ble_eq_true rfl) zd_Terms_release_89)
set_option maxHeartbeats 8000000 in
set_option maxRecDepth 100000 in
theorem wJ_Terms_release_B_52 {p : Program} {l : Launch} {e : Env} {s : State} {m : MethodId} {below : List Frame} {meth : Method} {c : Code} {A : Nat → Prop} (G : va_G) (K : Nat → ClassId) (ad : Nat → Nat) (sv : Value) (a0 : Int32) (Post : (Nat → Int32) → (Nat → Int64) → (Nat → Nat → Int32) → (Nat → Nat → Int64) → Prop) (PX : String → (Nat → Int32) → (Nat → Int64) → (Nat → Nat → Int32) → (Nat → Nat → Int64) → Prop) (C : zCy p l s m ([.ref (ad 10), .int a0] : List Value).toArray meth c A G K prog_9_method_10_code none 4 "LassoFinder$Terms") : ∀  (I : Nat → Int32) (J : Nat → Int64) (B : Nat → Nat → Int32) (D : Nat → Nat → Int64) (ls : Array Slot) (H : Heap) (locs : List Loc), wc_Terms_release_B_52 a0 Post PX  I J B D → lv_has ls 4 [] → zW G A s.heap (wX ad K sv I J B D) H locs → W p l e { frames := 0, cells := 1, slots := 6, locals := 0 } s m ([.ref (ad 10), .int a0] : List Value).toArray below meth c H locs 0 0 (zyMQ below (va_Qv (fun u : zS => Post u.1 u.2.1 u.2.2.1 u.2.2.2) (fun u t => zPost G K A (wX ad K sv u.1 u.2.1 u.2.2.1 u.2.2.2) t) A) (zYC (fun E (u : zS) => PX E u.1 u.2.1 u.2.2.1 u.2.2.2) (fun u => wX ad K sv u.1 u.2.1 u.2.2.1 u.2.2.2) G K A) ([.ref (ad 10), .int a0] : List Value).toArray s 1 6 A) (F0 m 52 ls []) := by
  obtain ⟨hx, hb, hr, hml, hts, hown, hlocks, hA, hK, hT, hnt, hlt⟩ := id C
  intro  I J B D ls H locs hok hl hw
  unfold wc_Terms_release_B_52 at hok
  exact zy_ret (z_vret (u := (I, J, B, D)) hx hb hr hlocks hw (List.range 65) wX_all wX_nd hok (Nat.le_of_ble_eq_true rfl) (Nat.le_of_ble_eq_true rfl) zd_Terms_release_52)
set_option maxHeartbeats 8000000 in
set_option maxRecDepth 100000 in
theorem wB_Terms_release_B_2 {p : Program} {l : Launch} {e : Env} {s : State} {m : MethodId} {below : List Frame} {meth : Method} {c : Code} {A : Nat → Prop} (G : va_G) (K : Nat → ClassId) (ad : Nat → Nat) (sv : Value) (a0 : Int32) (Post : (Nat → Int32) → (Nat → Int64) → (Nat → Nat → Int32) → (Nat → Nat → Int64) → Prop) (PX : String → (Nat → Int32) → (Nat → Int64) → (Nat → Nat → Int32) → (Nat → Nat → Int64) → Prop) (C : zCy p l s m ([.ref (ad 10), .int a0] : List Value).toArray meth c A G K prog_9_method_10_code none 4 "LassoFinder$Terms") (K2 : Int32 → Int32 → (Nat → Int32) → (Nat → Int64) → (Nat → Nat → Int32) → (Nat → Nat → Int64) → Prop) (kh2 : ∀ (x1 : Int32) (x2 : Int32) (I : Nat → Int32) (J : Nat → Int64) (B : Nat → Nat → Int32) (D : Nat → Nat → Int64) (ls : Array Slot) (H : Heap) (locs : List Loc), K2 x1 x2 I J B D → lv_has ls 4 [(0, .ref (ad 10)), (1, .int x1), (2, .int x2)] → zW G A s.heap (wX ad K sv I J B D) H locs → W p l e { frames := 0, cells := 1, slots := 6, locals := 0 } s m ([.ref (ad 10), .int a0] : List Value).toArray below meth c H locs 0 0 (zyMQ below (va_Qv (fun u : zS => Post u.1 u.2.1 u.2.2.1 u.2.2.2) (fun u t => zPost G K A (wX ad K sv u.1 u.2.1 u.2.2.1 u.2.2.2) t) A) (zYC (fun E (u : zS) => PX E u.1 u.2.1 u.2.2.1 u.2.2.2) (fun u => wX ad K sv u.1 u.2.1 u.2.2.1 u.2.2.2) G K A) ([.ref (ad 10), .int a0] : List Value).toArray s 1 6 A) (F0 m 2 ls [])) : ∀ (x1 : Int32) (x2 : Int32) (I : Nat → Int32) (J : Nat → Int64) (B : Nat → Nat → Int32) (D : Nat → Nat → Int64) (ls : Array Slot) (H : Heap) (locs : List Loc), wb_Terms_release_B_2 a0 K2 Post PX x1 x2 I J B D → lv_has ls 4 [(0, .ref (ad 10)), (1, .int x1), (2, .int x2)] → zW G A s.heap (wX ad K sv I J B D) H locs → W p l e { frames := 0, cells := 1, slots := 6, locals := 0 } s m ([.ref (ad 10), .int a0] : List Value).toArray below meth c H locs 0 0 (zyMQ below (va_Qv (fun u : zS => Post u.1 u.2.1 u.2.2.1 u.2.2.2) (fun u t => zPost G K A (wX ad K sv u.1 u.2.1 u.2.2.1 u.2.2.2) t) A) (zYC (fun E (u : zS) => PX E u.1 u.2.1 u.2.2.1 u.2.2.2) (fun u => wX ad K sv u.1 u.2.1 u.2.2.1 u.2.2.2) G K A) ([.ref (ad 10), .int a0] : List Value).toArray s 1 6 A) (F0 m 2 ls []) := by
  obtain ⟨hx, hb, hr, hml, hts, hown, hlocks, hA, hK, hT, hnt, hlt⟩ := id C
  intro x1 x2 I J B D ls H locs hok hl hw
  unfold wb_Terms_release_B_2 at hok
  refine lv_iload_n hx hb zd_Terms_release_2 rfl (lv_at hl 2 rfl) ?_
  refine lv_bipush (v := 20) hx hb zd_Terms_release_3 (by decide) ?_
  refine lv_icmp_ge (tgt := 89) hx hb zd_Terms_release_5 (by decide) (fun hc1 => ?_) (fun hc1 => ?_)
  · have hok := hok.1 hc1
    exact wJ_Terms_release_B_89 G K ad sv a0 Post PX C I J B D ls H locs hok (lv_sub hl [] rfl) hw
  · have hok := hok.2 hc1
    refine lv_aload_n hx hb zd_Terms_release_8 rfl (lv_at hl 0 rfl) ?_
    refine z_get (v := .int (I 26)) hx hb hts hown hK hw zZ8 10 wX_g10 5 (by decide) zn_438 rfl zd_Terms_release_9 ?_
    refine lv_if_le (tgt := 89) hx hb zd_Terms_release_12 (by decide) (fun hc2 => ?_) (fun hc2 => ?_)
    · have hok := hok.1 hc2
      exact wJ_Terms_release_B_89 G K ad sv a0 Post PX C I J B D ls H locs hok (lv_sub hl [] rfl) hw
    · have hok := hok.2 hc2
      refine lv_aload_n hx hb zd_Terms_release_15 rfl (lv_at hl 0 rfl) ?_
      refine z_get (v := .ref (ad 59)) hx hb hts hown hK hw zZ8 10 wX_g10 4 (by decide) zn_253 rfl zd_Terms_release_16 ?_
      refine lv_aload_n hx hb zd_Terms_release_19 rfl (lv_at hl 0 rfl) ?_
      refine z_get (v := .int (I 26)) hx hb hts hown hK hw zZ8 10 wX_g10 5 (by decide) zn_438 rfl zd_Terms_release_20 ?_
      refine lv_iconst (v := 1) hx hb zd_Terms_release_23 (by decide) ?_
      refine lv_isub hx hb zd_Terms_release_24 ?_
      refine lv_topi (fun z3 ez3 => ?_)
      have hok := hok z3 ez3
      refine va_iald (f := (B 44)) hx hb hK hw.1 59 0 wX_a59 rfl hok.1 zd_Terms_release_25 ?_
      have hok := hok.2
      refine lv_topi (fun z4 ez4 => ?_)
      have hok := hok z4 ez4
      refine lv_istore_n hx hb zd_Terms_release_26 rfl hl (by decide) rfl (fun ls hl => ?_)
      have hl : lv_has ls 4 [(3, .int z4), (0, .ref (ad 10)), (1, .int x1), (2, .int x2)] := hl
      refine lv_iload_n hx hb zd_Terms_release_27 rfl (lv_at hl 0 rfl) ?_
      refine lv_bipush (v := 21) hx hb zd_Terms_release_28 (by decide) ?_
      refine lv_icmp_eq (tgt := 52) hx hb zd_Terms_release_30 (by decide) (fun hc5 => ?_) (fun hc5 => ?_)
      · have hok := hok.1 hc5
        exact wJ_Terms_release_B_52 G K ad sv a0 Post PX C I J B D ls H locs hok (lv_sub hl [] rfl) hw
      · have hok := hok.2 hc5
        obtain ⟨t6, hZ6, hU6⟩ := hT.2.1
        refine va_gets hx hb hZ6 hw.2.2 hown (hts _ zn_439) (fun _ h => h) zd_Terms_release_33 ?_
        refine lv_iload_n hx hb zd_Terms_release_36 rfl (lv_at hl 0 rfl) ?_
        refine lv_bipush (v := 16) hx hb zd_Terms_release_37 (by decide) ?_
        refine lv_isub hx hb zd_Terms_release_39 ?_
        refine lv_topi (fun z7 ez7 => ?_)
        have hok := hok z7 ez7
        refine va_ti (v := .int (zStr z7.toNatClampNeg)) hx hb hU6 hw.2.2 hok.1 rfl zd_Terms_release_40 ?_
        have hok := hok.2
        refine lv_topi (fun z8 ez8 => ?_)
        have hok := hok z8 ez8
        obtain ⟨t9, hZ9, hU9⟩ := hT.2.1
        refine va_gets hx hb hZ9 hw.2.2 hown (hts _ zn_439) (fun _ h => h) zd_Terms_release_41 ?_
        refine lv_iload_n hx hb zd_Terms_release_44 rfl (lv_at hl 2 rfl) ?_
        refine lv_bipush (v := 16) hx hb zd_Terms_release_45 (by decide) ?_
        refine lv_isub hx hb zd_Terms_release_47 ?_
        refine lv_topi (fun z10 ez10 => ?_)
        have hok := hok z10 ez10
        refine va_ti (v := .int (zStr z10.toNatClampNeg)) hx hb hU9 hw.2.2 hok.1 rfl zd_Terms_release_48 ?_
        have hok := hok.2
        refine lv_topi (fun z11 ez11 => ?_)
        have hok := hok z11 ez11
        refine lv_icmp_ge (tgt := 53) hx hb zd_Terms_release_49 (by decide) (fun hc12 => ?_) (fun hc12 => ?_)
        · have hok := hok.1 hc12
          refine lv_aload_n hx hb zd_Terms_release_53 rfl (lv_at hl 1 rfl) ?_
          refine z_get (v := .ref (ad 58)) hx hb hts hown hK hw zZ8 10 wX_g10 2 (by decide) zn_252 rfl zd_Terms_release_54 ?_
          refine lv_aload_n hx hb zd_Terms_release_57 rfl (lv_at hl 1 rfl) ?_
          refine z_get (v := .int (I 25)) hx hb hts hown hK hw zZ8 10 wX_g10 3 (by decide) zn_435 rfl zd_Terms_release_58 ?_
          refine lv_iload_n hx hb zd_Terms_release_61 rfl (lv_at hl 0 rfl) ?_
          refine va_iast (f := (B 43)) hx hb hK hw.1 hw.2.1 hw.2.2 58 0 wX_a58 rfl hok.1 zd_Terms_release_62 (fun H locs w91 w92 w93 => ?_)
          have hok := hok.2
          have hw := wX_t58 ⟨w91, w92, w93⟩
          refine lv_aload_n hx hb zd_Terms_release_63 rfl (lv_at hl 1 rfl) ?_
          refine lv_dup hx hb zd_Terms_release_64 rfl ?_
          refine z_get (v := .int (I 25)) hx hb hts hown hK hw zZ8 10 wX_g10 3 (by decide) zn_435 rfl zd_Terms_release_65 ?_
          refine lv_iconst (v := 1) hx hb zd_Terms_release_68 (by decide) ?_
          refine lv_iadd hx hb zd_Terms_release_69 ?_
          refine lv_topi (fun z13 ez13 => ?_)
          have hok := hok z13 ez13
          refine z_put (v := .int z13) hx hb hts hown hK hw zZ8 10 wX_g10 3 (by decide) zn_435 rfl rfl rfl (Nat.le_of_ble_eq_true rfl) zd_Terms_release_70 (fun H locs hw => ?_)
          have hw := wX_sI25 hw
          refine lv_aload_n hx hb zd_Terms_release_73 rfl (lv_at hl 1 rfl) ?_
          refine lv_dup hx hb zd_Terms_release_74 rfl ?_
          refine z_get (v := .int (I 26)) hx hb hts hown hK hw zZ8 10 wX_g10 5 (by decide) zn_438 rfl zd_Terms_release_75 ?_
          refine lv_iconst (v := 1) hx hb zd_Terms_release_78 (by decide) ?_
          refine lv_isub hx hb zd_Terms_release_79 ?_
          refine lv_topi (fun z14 ez14 => ?_)
          have hok := hok z14 ez14
          refine z_put (v := .int z14) hx hb hts hown hK hw zZ8 10 wX_g10 5 (by decide) zn_438 rfl rfl rfl (Nat.le_of_ble_eq_true rfl) zd_Terms_release_80 (fun H locs hw => ?_)
          have hw := wX_sI26 hw
          obtain ⟨z15, ez15⟩ : ∃ z : Int32, z = (x2 + 1) := ⟨_, rfl⟩
          have hok := hok z15 ez15
          refine lv_iinc (v := z15) hx hb zd_Terms_release_83 hl (k := 3) rfl ez15.symm (by decide) rfl (fun ls hl => ?_)
          have hl : lv_has ls 4 [(2, .int z15), (3, .int z4), (0, .ref (ad 10)), (1, .int x1)] := hl
          refine lv_goto (tgt := 2) hx hb zd_Terms_release_86 (by decide) ?_
          exact kh2 x1 z15 (upd (upd I 25 z13) 26 z14) J (va_up B 43 (upd (B 43) (I 25).toNatClampNeg z4)) D ls H locs hok (lv_sub hl [2, 3, 0] rfl) hw
        · have hok := hok.2 hc12
          exact wJ_Terms_release_B_52 G K ad sv a0 Post PX C I J B D ls H locs hok (lv_sub hl [] rfl) hw
theorem wL_Terms_release_B_2 {p : Program} {l : Launch} {e : Env} {s : State} {m : MethodId} {below : List Frame} {meth : Method} {c : Code} {A : Nat → Prop} (G : va_G) (K : Nat → ClassId) (ad : Nat → Nat) (sv : Value) (a0 : Int32) (Post : (Nat → Int32) → (Nat → Int64) → (Nat → Nat → Int32) → (Nat → Nat → Int64) → Prop) (PX : String → (Nat → Int32) → (Nat → Int64) → (Nat → Nat → Int32) → (Nat → Nat → Int64) → Prop) (C : zCy p l s m ([.ref (ad 10), .int a0] : List Value).toArray meth c A G K prog_9_method_10_code none 4 "LassoFinder$Terms") : ∀ (n : Nat) (x1 : Int32) (x2 : Int32) (I : Nat → Int32) (J : Nat → Int64) (B : Nat → Nat → Int32) (D : Nat → Nat → Int64) (ls : Array Slot) (H : Heap) (locs : List Loc), wl_Terms_release_B_2 a0 Post PX n x1 x2 I J B D → lv_has ls 4 [(0, .ref (ad 10)), (1, .int x1), (2, .int x2)] → zW G A s.heap (wX ad K sv I J B D) H locs → W p l e { frames := 0, cells := 1, slots := 6, locals := 0 } s m ([.ref (ad 10), .int a0] : List Value).toArray below meth c H locs 0 0 (zyMQ below (va_Qv (fun u : zS => Post u.1 u.2.1 u.2.2.1 u.2.2.2) (fun u t => zPost G K A (wX ad K sv u.1 u.2.1 u.2.2.1 u.2.2.2) t) A) (zYC (fun E (u : zS) => PX E u.1 u.2.1 u.2.2.1 u.2.2.2) (fun u => wX ad K sv u.1 u.2.1 u.2.2.1 u.2.2.2) G K A) ([.ref (ad 10), .int a0] : List Value).toArray s 1 6 A) (F0 m 2 ls []) := by
  intro n
  induction n with
  | zero => intro x1 x2 I J B D ls H locs hok; exact hok.elim
  | succ n ih => exact wB_Terms_release_B_2 G K ad sv a0 Post PX C (wl_Terms_release_B_2 a0 Post PX n) ih
set_option maxHeartbeats 8000000 in
set_option maxRecDepth 100000 in
theorem w_Terms_release_B (l : Launch) (hlt : l.stackTraces = false) (G : va_G) (K : Nat → ClassId) (ad : Nat → Nat) (sv : Value) (I : Nat → Int32) (J : Nat → Int64) (B : Nat → Nat → Int32) (D : Nat → Nat → Int64) (a0 : Int32) (Post : (Nat → Int32) → (Nat → Int64) → (Nat → Nat → Int32) → (Nat → Nat → Int64) → Prop) (PX : String → (Nat → Int32) → (Nat → Int64) → (Nat → Nat → Int32) → (Nat → Nat → Int64) → Prop) (sz : Nat) (hok : wp_Terms_release_B I J B D a0 Post PX) : zyMet l zy_Terms_release (Cond.code zy_Terms_release prog_9_method_10_code 4 none :: zTB) { frames := 0, cells := 1, slots := 6, locals := 0 } (va_Pc [.ref (ad 10), .int a0] (zPreY G K (wX ad K sv I J B D) sz)) (va_Qv (fun u : zS => Post u.1 u.2.1 u.2.2.1 u.2.2.2) (fun u t => zPost G K (va_A (wX ad K sv I J B D) sz) (wX ad K sv u.1 u.2.1 u.2.2.1 u.2.2.2) t) (va_A (wX ad K sv I J B D) sz)) (zYC (fun E (u : zS) => PX E u.1 u.2.1 u.2.2.1 u.2.2.2) (fun u => wX ad K sv u.1 u.2.1 u.2.2.1 u.2.2.2) G K (va_A (wX ad K sv I J B D) sz)) 1 6 (va_A (wX ad K sv I J B D) sz) := by
  refine zMetY (y := zy_Terms_release) (av := [.ref (ad 10), .int a0]) (maxL := 4) (cc := prog_9_method_10_code) (ret := none) (W0 := (wX ad K sv I J B D)) (sz := sz) (G := G) (K := K) (wt := zTB) (mc := 1) (ms := 6) (Qf := fun A => va_Qv (fun u : zS => Post u.1 u.2.1 u.2.2.1 u.2.2.2) (fun u t => zPost G K A (wX ad K sv u.1 u.2.1 u.2.2.1 u.2.2.2) t) A) (Xf := fun A => (zYC (fun E (u : zS) => PX E u.1 u.2.1 u.2.2.1 u.2.2.2) (fun u => wX ad K sv u.1 u.2.1 u.2.2.1 u.2.2.2) G K A)) (by decide) (Nat.le_of_ble_eq_true rfl) ?_
  intro p e s m below meth c ls A hx hb hr hml hts hown hlocks hin hA hK H locs hw hsz hl hT hnt
  clear hsz
  have hown : s.vm.findClass "LassoFinder$Terms" = some m.cls := hown
  have C : zCy p l s m ([.ref (ad 10), .int a0] : List Value).toArray meth c A G K prog_9_method_10_code none 4 "LassoFinder$Terms" := ⟨hx, hb, hr, hml, hts, hown, hlocks, hA, hK, hT, hnt, hlt⟩
  have hl : lv_has ls 4 [(0, .ref (ad 10)), (1, .int a0)] := hl
  have hw : zW G A s.heap (wX ad K sv I J B D) H locs := hw
  unfold wp_Terms_release_B at hok
  refine lv_iconst (v := 0) hx hb zd_Terms_release_0 (by decide) ?_
  refine lv_istore_n hx hb zd_Terms_release_1 rfl hl (by decide) rfl (fun ls hl => ?_)
  have hl : lv_has ls 4 [(2, .int 0), (0, .ref (ad 10)), (1, .int a0)] := hl
  obtain ⟨n9, hok⟩ := hok
  exact wL_Terms_release_B_2 G K ad sv a0 Post PX C n9 a0 0 I J B D ls H locs hok (lv_sub hl [1, 2, 0] rfl) hw
def wp_Terms_add_B (I : Nat → Int32) (J : Nat → Int64) (B : Nat → Nat → Int32) (D : Nat → Nat → Int64) (a0 : Int32) (Post : (Nat → Int32) → (Nat → Int64) → (Nat → Nat → Int32) → (Nat → Nat → Int64) → Prop) : Prop :=
  vp_in (I 25) 480 ∧ ∀ z1 : Int32, z1 = ((I 25) + 1) → Post (upd I 25 z1) J (va_up B 43 (upd (B 43) (I 25).toNatClampNeg a0)) D
set_option maxHeartbeats 8000000 in
set_option maxRecDepth 100000 in
theorem w_Terms_add_B (l : Launch) (G : va_G) (K : Nat → ClassId) (ad : Nat → Nat) (sv : Value) (I : Nat → Int32) (J : Nat → Int64) (B : Nat → Nat → Int32) (D : Nat → Nat → Int64) (a0 : Int32) (Post : (Nat → Int32) → (Nat → Int64) → (Nat → Nat → Int32) → (Nat → Nat → Int64) → Prop) (sz : Nat) (hok : wp_Terms_add_B I J B D a0 Post) : Met l zy_Terms_add (Cond.code zy_Terms_add prog_9_method_11_code 2 none :: zTB) { frames := 0, cells := 0, slots := 0, locals := 0 } (va_Pc [.ref (ad 10), .int a0] (zPre G K (wX ad K sv I J B D) sz)) (va_Qv (fun u : zS => Post u.1 u.2.1 u.2.2.1 u.2.2.2) (fun u t => zPost G K (va_A (wX ad K sv I J B D) sz) (wX ad K sv u.1 u.2.1 u.2.2.1 u.2.2.2) t) (va_A (wX ad K sv I J B D) sz)) 0 0 (va_A (wX ad K sv I J B D) sz) := by
  refine zMet (y := zy_Terms_add) (av := [.ref (ad 10), .int a0]) (maxL := 2) (cc := prog_9_method_11_code) (ret := none) (W0 := (wX ad K sv I J B D)) (sz := sz) (G := G) (K := K) (wt := zTB) (mc := 0) (ms := 0) (Qf := fun A => va_Qv (fun u : zS => Post u.1 u.2.1 u.2.2.1 u.2.2.2) (fun u t => zPost G K A (wX ad K sv u.1 u.2.1 u.2.2.1 u.2.2.2) t) A) (by decide) (Nat.le_of_ble_eq_true rfl) ?_
  intro p e s m below meth c ls A hx hb hr hml hts hown hlocks hin hA hK H locs hw hsz hl
  clear hsz
  have hown : s.vm.findClass "LassoFinder$Terms" = some m.cls := hown
  have C : zCx p s m ([.ref (ad 10), .int a0] : List Value).toArray meth c A G K prog_9_method_11_code none 2 "LassoFinder$Terms" := ⟨hx, hb, hr, hml, hts, hown, hlocks, hA, hK⟩
  have hl : lv_has ls 2 [(0, .ref (ad 10)), (1, .int a0)] := hl
  have hw : zW G A s.heap (wX ad K sv I J B D) H locs := hw
  unfold wp_Terms_add_B at hok
  refine lv_aload_n hx hb zd_Terms_add_0 rfl (lv_at hl 0 rfl) ?_
  refine z_get (v := .ref (ad 58)) hx hb hts hown hK hw zZ8 10 wX_g10 2 (by decide) zn_252 rfl zd_Terms_add_1 ?_
  refine lv_aload_n hx hb zd_Terms_add_4 rfl (lv_at hl 0 rfl) ?_
  refine z_get (v := .int (I 25)) hx hb hts hown hK hw zZ8 10 wX_g10 3 (by decide) zn_435 rfl zd_Terms_add_5 ?_
  refine lv_iload_n hx hb zd_Terms_add_8 rfl (lv_at hl 1 rfl) ?_
  refine va_iast (f := (B 43)) hx hb hK hw.1 hw.2.1 hw.2.2 58 0 wX_a58 rfl hok.1 zd_Terms_add_9 (fun H locs w91 w92 w93 => ?_)
  have hok := hok.2
  have hw := wX_t58 ⟨w91, w92, w93⟩
  refine lv_aload_n hx hb zd_Terms_add_10 rfl (lv_at hl 0 rfl) ?_
  refine lv_dup hx hb zd_Terms_add_11 rfl ?_
  refine z_get (v := .int (I 25)) hx hb hts hown hK hw zZ8 10 wX_g10 3 (by decide) zn_435 rfl zd_Terms_add_12 ?_
  refine lv_iconst (v := 1) hx hb zd_Terms_add_15 (by decide) ?_
  refine lv_iadd hx hb zd_Terms_add_16 ?_
  refine lv_topi (fun z1 ez1 => ?_)
  have hok := hok z1 ez1
  refine z_put (v := .int z1) hx hb hts hown hK hw zZ8 10 wX_g10 3 (by decide) zn_435 rfl rfl rfl (Nat.le_of_ble_eq_true rfl) zd_Terms_add_17 (fun H locs hw => ?_)
  have hw := wX_sI25 hw
  exact (z_vret (u := ((upd I 25 z1), J, (va_up B 43 (upd (B 43) (I 25).toNatClampNeg a0)), D)) hx hb hr hlocks hw (List.range 65) wX_all wX_nd hok (Nat.le_of_ble_eq_true rfl) (Nat.le_of_ble_eq_true rfl) zd_Terms_add_20)
def wp_Terms_putOff_B (I : Nat → Int32) (J : Nat → Int64) (B : Nat → Nat → Int32) (D : Nat → Nat → Int64) (a0 : Int32) (Post : (Nat → Int32) → (Nat → Int64) → (Nat → Nat → Int32) → (Nat → Nat → Int64) → Prop) : Prop :=
  vp_in (I 26) 20 ∧ ∀ z1 : Int32, z1 = ((I 26) + 1) → Post (upd I 26 z1) J (va_up B 44 (upd (B 44) (I 26).toNatClampNeg a0)) D
set_option maxHeartbeats 8000000 in
set_option maxRecDepth 100000 in
theorem w_Terms_putOff_B (l : Launch) (G : va_G) (K : Nat → ClassId) (ad : Nat → Nat) (sv : Value) (I : Nat → Int32) (J : Nat → Int64) (B : Nat → Nat → Int32) (D : Nat → Nat → Int64) (a0 : Int32) (Post : (Nat → Int32) → (Nat → Int64) → (Nat → Nat → Int32) → (Nat → Nat → Int64) → Prop) (sz : Nat) (hok : wp_Terms_putOff_B I J B D a0 Post) : Met l zy_Terms_putOff (Cond.code zy_Terms_putOff prog_9_method_9_code 2 none :: zTB) { frames := 0, cells := 0, slots := 0, locals := 0 } (va_Pc [.ref (ad 10), .int a0] (zPre G K (wX ad K sv I J B D) sz)) (va_Qv (fun u : zS => Post u.1 u.2.1 u.2.2.1 u.2.2.2) (fun u t => zPost G K (va_A (wX ad K sv I J B D) sz) (wX ad K sv u.1 u.2.1 u.2.2.1 u.2.2.2) t) (va_A (wX ad K sv I J B D) sz)) 0 0 (va_A (wX ad K sv I J B D) sz) := by
  refine zMet (y := zy_Terms_putOff) (av := [.ref (ad 10), .int a0]) (maxL := 2) (cc := prog_9_method_9_code) (ret := none) (W0 := (wX ad K sv I J B D)) (sz := sz) (G := G) (K := K) (wt := zTB) (mc := 0) (ms := 0) (Qf := fun A => va_Qv (fun u : zS => Post u.1 u.2.1 u.2.2.1 u.2.2.2) (fun u t => zPost G K A (wX ad K sv u.1 u.2.1 u.2.2.1 u.2.2.2) t) A) (by decide) (Nat.le_of_ble_eq_true rfl) ?_
  intro p e s m below meth c ls A hx hb hr hml hts hown hlocks hin hA hK H locs hw hsz hl
  clear hsz
  have hown : s.vm.findClass "LassoFinder$Terms" = some m.cls := hown
  have C : zCx p s m ([.ref (ad 10), .int a0] : List Value).toArray meth c A G K prog_9_method_9_code none 2 "LassoFinder$Terms" := ⟨hx, hb, hr, hml, hts, hown, hlocks, hA, hK⟩
  have hl : lv_has ls 2 [(0, .ref (ad 10)), (1, .int a0)] := hl
  have hw : zW G A s.heap (wX ad K sv I J B D) H locs := hw
  unfold wp_Terms_putOff_B at hok
  refine lv_aload_n hx hb zd_Terms_putOff_0 rfl (lv_at hl 0 rfl) ?_
  refine z_get (v := .ref (ad 59)) hx hb hts hown hK hw zZ8 10 wX_g10 4 (by decide) zn_253 rfl zd_Terms_putOff_1 ?_
  refine lv_aload_n hx hb zd_Terms_putOff_4 rfl (lv_at hl 0 rfl) ?_
  refine z_get (v := .int (I 26)) hx hb hts hown hK hw zZ8 10 wX_g10 5 (by decide) zn_438 rfl zd_Terms_putOff_5 ?_
  refine lv_iload_n hx hb zd_Terms_putOff_8 rfl (lv_at hl 1 rfl) ?_
  refine va_iast (f := (B 44)) hx hb hK hw.1 hw.2.1 hw.2.2 59 0 wX_a59 rfl hok.1 zd_Terms_putOff_9 (fun H locs w91 w92 w93 => ?_)
  have hok := hok.2
  have hw := wX_t59 ⟨w91, w92, w93⟩
  refine lv_aload_n hx hb zd_Terms_putOff_10 rfl (lv_at hl 0 rfl) ?_
  refine lv_dup hx hb zd_Terms_putOff_11 rfl ?_
  refine z_get (v := .int (I 26)) hx hb hts hown hK hw zZ8 10 wX_g10 5 (by decide) zn_438 rfl zd_Terms_putOff_12 ?_
  refine lv_iconst (v := 1) hx hb zd_Terms_putOff_15 (by decide) ?_
  refine lv_iadd hx hb zd_Terms_putOff_16 ?_
  refine lv_topi (fun z1 ez1 => ?_)
  have hok := hok z1 ez1
  refine z_put (v := .int z1) hx hb hts hown hK hw zZ8 10 wX_g10 5 (by decide) zn_438 rfl rfl rfl (Nat.le_of_ble_eq_true rfl) zd_Terms_putOff_17 (fun H locs hw => ?_)
  have hw := wX_sI26 hw
  exact (z_vret (u := ((upd I 26 z1), J, (va_up B 44 (upd (B 44) (I 26).toNatClampNeg a0)), D)) hx hb hr hlocks hw (List.range 65) wX_all wX_nd hok (Nat.le_of_ble_eq_true rfl) (Nat.le_of_ble_eq_true rfl) zd_Terms_putOff_20)
def wc_Terms_readOpenings_B_75 (Post : (Nat → Int32) → (Nat → Int64) → (Nat → Nat → Int32) → (Nat → Nat → Int64) → Prop) (PX : String → (Nat → Int32) → (Nat → Int64) → (Nat → Nat → Int32) → (Nat → Nat → Int64) → Prop)  (I : Nat → Int32) (J : Nat → Int64) (B : Nat → Nat → Int32) (D : Nat → Nat → Int64) : Prop :=
  Post I J B D
def wc_Terms_readOpenings_B_36 (K2 : Int32 → (Nat → Int32) → (Nat → Int64) → (Nat → Nat → Int32) → (Nat → Nat → Int64) → Prop) (Post : (Nat → Int32) → (Nat → Int64) → (Nat → Nat → Int32) → (Nat → Nat → Int64) → Prop) (PX : String → (Nat → Int32) → (Nat → Int64) → (Nat → Nat → Int32) → (Nat → Nat → Int64) → Prop) (x1 : Int32) (I : Nat → Int32) (J : Nat → Int64) (B : Nat → Nat → Int32) (D : Nat → Nat → Int64) : Prop :=
  wp_Text_skip I J B D  (fun I1 J1 B1 D1 => ∀ z2 : Int32, z2 = ((I1 28) + 1) → ∀ z3 : Int32, z3 = ((I1 29) <<< (1 &&& 31)) → wp_Terms_putOff_B (upd (upd I1 28 z2) 29 z3) J1 B1 D1 21 (fun I4 J4 B4 D4 => ∀ z5 : Int32, z5 = (x1 + 1) → K2 z5 I4 J4 B4 D4))
def wb_Terms_readOpenings_B_2 (K2 : Int32 → (Nat → Int32) → (Nat → Int64) → (Nat → Nat → Int32) → (Nat → Nat → Int64) → Prop) (Post : (Nat → Int32) → (Nat → Int64) → (Nat → Nat → Int32) → (Nat → Nat → Int64) → Prop) (PX : String → (Nat → Int32) → (Nat → Int64) → (Nat → Nat → Int32) → (Nat → Nat → Int64) → Prop) (x1 : Int32) (I : Nat → Int32) (J : Nat → Int64) (B : Nat → Nat → Int32) (D : Nat → Nat → Int64) : Prop :=
  (((240 : Int32) ≤ x1 → wc_Terms_readOpenings_B_75  Post PX I J B D) ∧ (¬ (240 : Int32) ≤ x1 → wp_Text_ahead I J B D  (fun r7 I7 J7 B7 D7 => ((¬ r7 = 40 → wc_Terms_readOpenings_B_75  Post PX I7 J7 B7 D7) ∧ (r7 = 40 → ((¬ (I7 28) = 4 → wc_Terms_readOpenings_B_36  K2 Post PX x1 I7 J7 B7 D7) ∧ ((I7 28) = 4 → wp_Text_refuse I7 J7 B7 D7  (fun I10 J10 B10 D10 => wc_Terms_readOpenings_B_36  K2 Post PX x1 I10 J10 B10 D10) PX)))))))
def wl_Terms_readOpenings_B_2 (Post : (Nat → Int32) → (Nat → Int64) → (Nat → Nat → Int32) → (Nat → Nat → Int64) → Prop) (PX : String → (Nat → Int32) → (Nat → Int64) → (Nat → Nat → Int32) → (Nat → Nat → Int64) → Prop) (n : Nat) : Int32 → (Nat → Int32) → (Nat → Int64) → (Nat → Nat → Int32) → (Nat → Nat → Int64) → Prop := Nat.rec (fun _ _ _ _ _ => False) (fun _ r => wb_Terms_readOpenings_B_2  r Post PX) n
def wp_Terms_readOpenings_B (I : Nat → Int32) (J : Nat → Int64) (B : Nat → Nat → Int32) (D : Nat → Nat → Int64) (Post : (Nat → Int32) → (Nat → Int64) → (Nat → Nat → Int32) → (Nat → Nat → Int64) → Prop) (PX : String → (Nat → Int32) → (Nat → Int64) → (Nat → Nat → Int32) → (Nat → Nat → Int64) → Prop) : Prop :=
  ∃ n : Nat, wl_Terms_readOpenings_B_2  Post PX n 0 I J B D
set_option maxHeartbeats 8000000 in
set_option maxRecDepth 100000 in
theorem wJ_Terms_readOpenings_B_75 {p : Program} {l : Launch} {e : Env} {s : State} {m : MethodId} {below : List Frame} {meth : Method} {c : Code} {A : Nat → Prop} (G : va_G) (K : Nat → ClassId) (ad : Nat → Nat) (sv : Value) (Post : (Nat → Int32) → (Nat → Int64) → (Nat → Nat → Int32) → (Nat → Nat → Int64) → Prop) (PX : String → (Nat → Int32) → (Nat → Int64) → (Nat → Nat → Int32) → (Nat → Nat → Int64) → Prop) (C : zCy p l s m ([.ref (ad 10)] : List Value).toArray meth c A G K prog_9_method_4_code none 2 "LassoFinder$Terms") : ∀  (I : Nat → Int32) (J : Nat → Int64) (B : Nat → Nat → Int32) (D : Nat → Nat → Int64) (ls : Array Slot) (H : Heap) (locs : List Loc), wc_Terms_readOpenings_B_75  Post PX  I J B D → lv_has ls 2 [] → zW G A s.heap (wX ad K sv I J B D) H locs → W p l e { frames := 7, cells := 1, slots := 6, locals := 101 } s m ([.ref (ad 10)] : List Value).toArray below meth c H locs 0 0 (zyMQ below (va_Qv (fun u : zS => Post u.1 u.2.1 u.2.2.1 u.2.2.2) (fun u t => zPost G K A (wX ad K sv u.1 u.2.1 u.2.2.1 u.2.2.2) t) A) (zYC (fun E (u : zS) => PX E u.1 u.2.1 u.2.2.1 u.2.2.2) (fun u => wX ad K sv u.1 u.2.1 u.2.2.1 u.2.2.2) G K A) ([.ref (ad 10)] : List Value).toArray s 1 6 A) (F0 m 75 ls []) := by
  obtain ⟨hx, hb, hr, hml, hts, hown, hlocks, hA, hK, hT, hnt, hlt⟩ := id C
  intro  I J B D ls H locs hok hl hw
  unfold wc_Terms_readOpenings_B_75 at hok
  exact zy_ret (z_vret (u := (I, J, B, D)) hx hb hr hlocks hw (List.range 65) wX_all wX_nd hok (Nat.le_of_ble_eq_true rfl) (Nat.le_of_ble_eq_true rfl) zd_Terms_readOpenings_75)
set_option maxHeartbeats 8000000 in
set_option maxRecDepth 100000 in
theorem wJ_Terms_readOpenings_B_36 {p : Program} {l : Launch} {e : Env} {s : State} {m : MethodId} {below : List Frame} {meth : Method} {c : Code} {A : Nat → Prop} (G : va_G) (K : Nat → ClassId) (ad : Nat → Nat) (sv : Value) (Post : (Nat → Int32) → (Nat → Int64) → (Nat → Nat → Int32) → (Nat → Nat → Int64) → Prop) (PX : String → (Nat → Int32) → (Nat → Int64) → (Nat → Nat → Int32) → (Nat → Nat → Int64) → Prop) (C : zCy p l s m ([.ref (ad 10)] : List Value).toArray meth c A G K prog_9_method_4_code none 2 "LassoFinder$Terms") (K2 : Int32 → (Nat → Int32) → (Nat → Int64) → (Nat → Nat → Int32) → (Nat → Nat → Int64) → Prop) (kh2 : ∀ (x1 : Int32) (I : Nat → Int32) (J : Nat → Int64) (B : Nat → Nat → Int32) (D : Nat → Nat → Int64) (ls : Array Slot) (H : Heap) (locs : List Loc), K2 x1 I J B D → lv_has ls 2 [(0, .ref (ad 10)), (1, .int x1)] → zW G A s.heap (wX ad K sv I J B D) H locs → W p l e { frames := 7, cells := 1, slots := 6, locals := 101 } s m ([.ref (ad 10)] : List Value).toArray below meth c H locs 0 0 (zyMQ below (va_Qv (fun u : zS => Post u.1 u.2.1 u.2.2.1 u.2.2.2) (fun u t => zPost G K A (wX ad K sv u.1 u.2.1 u.2.2.1 u.2.2.2) t) A) (zYC (fun E (u : zS) => PX E u.1 u.2.1 u.2.2.1 u.2.2.2) (fun u => wX ad K sv u.1 u.2.1 u.2.2.1 u.2.2.2) G K A) ([.ref (ad 10)] : List Value).toArray s 1 6 A) (F0 m 2 ls [])) : ∀ (x1 : Int32) (I : Nat → Int32) (J : Nat → Int64) (B : Nat → Nat → Int32) (D : Nat → Nat → Int64) (ls : Array Slot) (H : Heap) (locs : List Loc), wc_Terms_readOpenings_B_36  K2 Post PX x1 I J B D → lv_has ls 2 [(0, .ref (ad 10)), (1, .int x1)] → zW G A s.heap (wX ad K sv I J B D) H locs → W p l e { frames := 7, cells := 1, slots := 6, locals := 101 } s m ([.ref (ad 10)] : List Value).toArray below meth c H locs 0 0 (zyMQ below (va_Qv (fun u : zS => Post u.1 u.2.1 u.2.2.1 u.2.2.2) (fun u t => zPost G K A (wX ad K sv u.1 u.2.1 u.2.2.1 u.2.2.2) t) A) (zYC (fun E (u : zS) => PX E u.1 u.2.1 u.2.2.1 u.2.2.2) (fun u => wX ad K sv u.1 u.2.1 u.2.2.1 u.2.2.2) G K A) ([.ref (ad 10)] : List Value).toArray s 1 6 A) (F0 m 36 ls []) := by
  obtain ⟨hx, hb, hr, hml, hts, hown, hlocks, hA, hK, hT, hnt, hlt⟩ := id C
  intro x1 I J B D ls H locs hok hl hw
  unfold wc_Terms_readOpenings_B_36 at hok
  refine lv_aload_n hx hb zd_Terms_readOpenings_36 rfl (lv_at hl 0 rfl) ?_
  refine z_get (v := .ref (ad 1)) hx hb hts hown hK hw zZ8 10 wX_g10 0 (by decide) zn_437 rfl zd_Terms_readOpenings_37 ?_
  refine z_callv (w1 := fun (u : zS) => wX ad K sv u.1 u.2.1 u.2.2.1 u.2.2.2) (wr := []) (z_runV (q0 := 1) (wc := (wX ad K sv I J B D)) (As := []) (rest := []) ⟨hx, hb, hml, hown, hts⟩ (w_Text_skip l G K ad sv I J B D  _ H.size hok) zf_Text_skip zn_366 ⟨Nat.le_of_ble_eq_true rfl, Nat.le_of_ble_eq_true rfl⟩ hK hw (List.range 65) wX_all wX_nd wX_g1 rfl rfl hl.1 rfl (Nat.le_of_ble_eq_true rfl) zd_Terms_readOpenings_40 ⟨Nat.le_of_ble_eq_true rfl, Nat.le_of_ble_eq_true rfl⟩) hw hA (List.range 65) [] wX_all rfl (by decide) (fun i hi => by cases hi) (fun u H locs hok hw => ?_)
  obtain ⟨I1, J1, B1, D1⟩ := u
  dsimp only at hok
  have hw : zW G A s.heap (wX ad K sv I1 J1 B1 D1) H locs := hw
  refine lv_aload_n hx hb zd_Terms_readOpenings_43 rfl (lv_at hl 0 rfl) ?_
  refine lv_dup hx hb zd_Terms_readOpenings_44 rfl ?_
  refine z_get (v := .int (I1 28)) hx hb hts hown hK hw zZ8 10 wX_g10 8 (by decide) zn_436 rfl zd_Terms_readOpenings_45 ?_
  refine lv_iconst (v := 1) hx hb zd_Terms_readOpenings_48 (by decide) ?_
  refine lv_iadd hx hb zd_Terms_readOpenings_49 ?_
  refine lv_topi (fun z2 ez2 => ?_)
  have hok := hok z2 ez2
  refine z_put (v := .int z2) hx hb hts hown hK hw zZ8 10 wX_g10 8 (by decide) zn_436 rfl rfl rfl (Nat.le_of_ble_eq_true rfl) zd_Terms_readOpenings_50 (fun H locs hw => ?_)
  have hw := wX_sI28 hw
  refine lv_aload_n hx hb zd_Terms_readOpenings_53 rfl (lv_at hl 0 rfl) ?_
  refine lv_dup hx hb zd_Terms_readOpenings_54 rfl ?_
  refine z_get (v := .int (I1 29)) hx hb hts hown hK hw zZ8 10 wX_g10 9 (by decide) zn_440 rfl zd_Terms_readOpenings_55 ?_
  refine lv_iconst (v := 1) hx hb zd_Terms_readOpenings_58 (by decide) ?_
  refine lv_ishl hx hb zd_Terms_readOpenings_59 ?_
  refine lv_topi (fun z3 ez3 => ?_)
  have hok := hok z3 ez3
  refine z_put (v := .int z3) hx hb hts hown hK hw zZ8 10 wX_g10 9 (by decide) zn_440 rfl rfl rfl (Nat.le_of_ble_eq_true rfl) zd_Terms_readOpenings_60 (fun H locs hw => ?_)
  have hw := wX_sI29 hw
  refine lv_aload_n hx hb zd_Terms_readOpenings_63 rfl (lv_at hl 0 rfl) ?_
  refine lv_bipush (v := 21) hx hb zd_Terms_readOpenings_64 (by decide) ?_
  refine z_callv (w1 := fun (u : zS) => wX ad K sv u.1 u.2.1 u.2.2.1 u.2.2.2) (wr := []) (z_runV (q0 := 10) (wc := (wX ad K sv (upd (upd I1 28 z2) 29 z3) J1 B1 D1)) (As := [.int 21]) (rest := []) ⟨hx, hb, hml, hown, hts⟩ (w_Terms_putOff_B l G K ad sv (upd (upd I1 28 z2) 29 z3) J1 B1 D1 21 _ H.size hok) zf_Terms_putOff zn_367 ⟨Nat.le_of_ble_eq_true rfl, Nat.le_of_ble_eq_true rfl⟩ hK hw (List.range 65) wX_all wX_nd wX_g10 rfl rfl hl.1 rfl (Nat.le_of_ble_eq_true rfl) zd_Terms_readOpenings_66 ⟨Nat.le_of_ble_eq_true rfl, Nat.le_of_ble_eq_true rfl⟩) hw hA (List.range 65) [] wX_all rfl (by decide) (fun i hi => by cases hi) (fun u H locs hok hw => ?_)
  obtain ⟨I4, J4, B4, D4⟩ := u
  dsimp only at hok
  have hw : zW G A s.heap (wX ad K sv I4 J4 B4 D4) H locs := hw
  obtain ⟨z5, ez5⟩ : ∃ z : Int32, z = (x1 + 1) := ⟨_, rfl⟩
  have hok := hok z5 ez5
  refine lv_iinc (v := z5) hx hb zd_Terms_readOpenings_69 hl (k := 1) rfl ez5.symm (by decide) rfl (fun ls hl => ?_)
  have hl : lv_has ls 2 [(1, .int z5), (0, .ref (ad 10))] := hl
  refine lv_goto (tgt := 2) hx hb zd_Terms_readOpenings_72 (by decide) ?_
  exact kh2 z5 I4 J4 B4 D4 ls H locs hok (lv_sub hl [1, 0] rfl) hw
set_option maxHeartbeats 8000000 in
set_option maxRecDepth 100000 in
theorem wB_Terms_readOpenings_B_2 {p : Program} {l : Launch} {e : Env} {s : State} {m : MethodId} {below : List Frame} {meth : Method} {c : Code} {A : Nat → Prop} (G : va_G) (K : Nat → ClassId) (ad : Nat → Nat) (sv : Value) (Post : (Nat → Int32) → (Nat → Int64) → (Nat → Nat → Int32) → (Nat → Nat → Int64) → Prop) (PX : String → (Nat → Int32) → (Nat → Int64) → (Nat → Nat → Int32) → (Nat → Nat → Int64) → Prop) (C : zCy p l s m ([.ref (ad 10)] : List Value).toArray meth c A G K prog_9_method_4_code none 2 "LassoFinder$Terms") (K2 : Int32 → (Nat → Int32) → (Nat → Int64) → (Nat → Nat → Int32) → (Nat → Nat → Int64) → Prop) (kh2 : ∀ (x1 : Int32) (I : Nat → Int32) (J : Nat → Int64) (B : Nat → Nat → Int32) (D : Nat → Nat → Int64) (ls : Array Slot) (H : Heap) (locs : List Loc), K2 x1 I J B D → lv_has ls 2 [(0, .ref (ad 10)), (1, .int x1)] → zW G A s.heap (wX ad K sv I J B D) H locs → W p l e { frames := 7, cells := 1, slots := 6, locals := 101 } s m ([.ref (ad 10)] : List Value).toArray below meth c H locs 0 0 (zyMQ below (va_Qv (fun u : zS => Post u.1 u.2.1 u.2.2.1 u.2.2.2) (fun u t => zPost G K A (wX ad K sv u.1 u.2.1 u.2.2.1 u.2.2.2) t) A) (zYC (fun E (u : zS) => PX E u.1 u.2.1 u.2.2.1 u.2.2.2) (fun u => wX ad K sv u.1 u.2.1 u.2.2.1 u.2.2.2) G K A) ([.ref (ad 10)] : List Value).toArray s 1 6 A) (F0 m 2 ls [])) : ∀ (x1 : Int32) (I : Nat → Int32) (J : Nat → Int64) (B : Nat → Nat → Int32) (D : Nat → Nat → Int64) (ls : Array Slot) (H : Heap) (locs : List Loc), wb_Terms_readOpenings_B_2  K2 Post PX x1 I J B D → lv_has ls 2 [(0, .ref (ad 10)), (1, .int x1)] → zW G A s.heap (wX ad K sv I J B D) H locs → W p l e { frames := 7, cells := 1, slots := 6, locals := 101 } s m ([.ref (ad 10)] : List Value).toArray below meth c H locs 0 0 (zyMQ below (va_Qv (fun u : zS => Post u.1 u.2.1 u.2.2.1 u.2.2.2) (fun u t => zPost G K A (wX ad K sv u.1 u.2.1 u.2.2.1 u.2.2.2) t) A) (zYC (fun E (u : zS) => PX E u.1 u.2.1 u.2.2.1 u.2.2.2) (fun u => wX ad K sv u.1 u.2.1 u.2.2.1 u.2.2.2) G K A) ([.ref (ad 10)] : List Value).toArray s 1 6 A) (F0 m 2 ls []) := by
  obtain ⟨hx, hb, hr, hml, hts, hown, hlocks, hA, hK, hT, hnt, hlt⟩ := id C
  intro x1 I J B D ls H locs hok hl hw
  unfold wb_Terms_readOpenings_B_2 at hok
  refine lv_iload_n hx hb zd_Terms_readOpenings_2 rfl (lv_at hl 1 rfl) ?_
  refine lv_sipush (v := 240) hx hb zd_Terms_readOpenings_3 (by decide) ?_
  refine lv_icmp_ge (tgt := 75) hx hb zd_Terms_readOpenings_6 (by decide) (fun hc6 => ?_) (fun hc6 => ?_)
  · have hok := hok.1 hc6
    exact wJ_Terms_readOpenings_B_75 G K ad sv  Post PX C I J B D ls H locs hok (lv_sub hl [] rfl) hw
  · have hok := hok.2 hc6
    refine lv_aload_n hx hb zd_Terms_readOpenings_9 rfl (lv_at hl 0 rfl) ?_
    refine z_get (v := .ref (ad 1)) hx hb hts hown hK hw zZ8 10 wX_g10 0 (by decide) zn_437 rfl zd_Terms_readOpenings_10 ?_
    refine z_calli (w1 := fun (u : zS) => wX ad K sv u.1 u.2.1 u.2.2.1 u.2.2.2) (wr := []) (z_runV (q0 := 1) (wc := (wX ad K sv I J B D)) (As := []) (rest := []) ⟨hx, hb, hml, hown, hts⟩ (w_Text_ahead l G K ad sv I J B D  _ H.size hok) zf_Text_ahead zn_364 ⟨Nat.le_of_ble_eq_true rfl, Nat.le_of_ble_eq_true rfl⟩ hK hw (List.range 65) wX_all wX_nd wX_g1 rfl rfl hl.1 rfl (Nat.le_of_ble_eq_true rfl) zd_Terms_readOpenings_13 ⟨Nat.le_of_ble_eq_true rfl, Nat.le_of_ble_eq_true rfl⟩) hw hA (List.range 65) [] wX_all rfl (by decide) (fun i hi => by cases hi) (fun r7 u H locs hok hw => ?_)
    obtain ⟨I7, J7, B7, D7⟩ := u
    dsimp only at hok
    have hw : zW G A s.heap (wX ad K sv I7 J7 B7 D7) H locs := hw
    refine lv_bipush (v := 40) hx hb zd_Terms_readOpenings_16 (by decide) ?_
    refine lv_icmp_ne (tgt := 75) hx hb zd_Terms_readOpenings_18 (by decide) (fun hc8 => ?_) (fun hc8 => ?_)
    · have hok := hok.1 hc8
      exact wJ_Terms_readOpenings_B_75 G K ad sv  Post PX C I7 J7 B7 D7 ls H locs hok (lv_sub hl [] rfl) hw
    · have hok := hok.2 hc8
      refine lv_aload_n hx hb zd_Terms_readOpenings_21 rfl (lv_at hl 0 rfl) ?_
      refine z_get (v := .int (I7 28)) hx hb hts hown hK hw zZ8 10 wX_g10 8 (by decide) zn_436 rfl zd_Terms_readOpenings_22 ?_
      refine lv_iconst (v := 4) hx hb zd_Terms_readOpenings_25 (by decide) ?_
      refine lv_icmp_ne (tgt := 36) hx hb zd_Terms_readOpenings_26 (by decide) (fun hc9 => ?_) (fun hc9 => ?_)
      · have hok := hok.1 hc9
        exact wJ_Terms_readOpenings_B_36 G K ad sv  Post PX C K2 kh2 x1 I7 J7 B7 D7 ls H locs hok (lv_sub hl [0, 1] rfl) hw
      · have hok := hok.2 hc9
        refine lv_aload_n hx hb zd_Terms_readOpenings_29 rfl (lv_at hl 0 rfl) ?_
        refine z_get (v := .ref (ad 1)) hx hb hts hown hK hw zZ8 10 wX_g10 0 (by decide) zn_437 rfl zd_Terms_readOpenings_30 ?_
        refine z_yV (q0 := 1) (wc := (wX ad K sv I7 J7 B7 D7)) (wr := []) (w1 := fun (u : zS) => wX ad K sv u.1 u.2.1 u.2.2.1 u.2.2.2) (As := []) (rest := []) ⟨hx, hb, hml, hown, hts⟩ (w_Text_refuse l hlt G K ad sv I7 J7 B7 D7  _ _ H.size hok) zf_Text_refuse zn_365 ⟨Nat.le_of_ble_eq_true rfl, Nat.le_of_ble_eq_true rfl⟩ hK hT hw hA (List.range 65) [] wX_all rfl wX_nd (by decide) (fun i hi => by cases hi) wX_g1 rfl rfl hl.1 rfl (Nat.le_of_ble_eq_true rfl) zd_Terms_readOpenings_33 ⟨Nat.le_of_ble_eq_true rfl, Nat.le_of_ble_eq_true rfl⟩ (fun v st9 t9 L9 h0 hq hL => ?_) (fun E ce q9 u H locs hu hw hce hcv hcl => z_yout (u := u) hnt hlocks hce hcv hcl hw (List.range 65) wX_all wX_nd hu (Nat.le_of_ble_eq_true rfl) (Nat.le_of_ble_eq_true rfl))
        obtain ⟨⟨u, hv9, hok, hB9⟩, hF9⟩ := hq
        cases hv9
        have hw := z_back (wr := []) hw hA (List.range 65) [] wX_all rfl (by decide) (fun i hi => by cases hi) h0 hL hB9 hF9
        obtain ⟨I10, J10, B10, D10⟩ := u
        dsimp only at hok
        generalize t9.heap = H at hw ⊢
        generalize locs ++ L9 = locs at hw ⊢
        have hw : zW G A s.heap (wX ad K sv I10 J10 B10 D10) H locs := hw
        refine W.eq (g2 := F0 m 36 ls []) rfl ?_
        exact wJ_Terms_readOpenings_B_36 G K ad sv  Post PX C K2 kh2 x1 I10 J10 B10 D10 ls H locs hok (lv_sub hl [0, 1] rfl) hw
theorem wL_Terms_readOpenings_B_2 {p : Program} {l : Launch} {e : Env} {s : State} {m : MethodId} {below : List Frame} {meth : Method} {c : Code} {A : Nat → Prop} (G : va_G) (K : Nat → ClassId) (ad : Nat → Nat) (sv : Value) (Post : (Nat → Int32) → (Nat → Int64) → (Nat → Nat → Int32) → (Nat → Nat → Int64) → Prop) (PX : String → (Nat → Int32) → (Nat → Int64) → (Nat → Nat → Int32) → (Nat → Nat → Int64) → Prop) (C : zCy p l s m ([.ref (ad 10)] : List Value).toArray meth c A G K prog_9_method_4_code none 2 "LassoFinder$Terms") : ∀ (n : Nat) (x1 : Int32) (I : Nat → Int32) (J : Nat → Int64) (B : Nat → Nat → Int32) (D : Nat → Nat → Int64) (ls : Array Slot) (H : Heap) (locs : List Loc), wl_Terms_readOpenings_B_2  Post PX n x1 I J B D → lv_has ls 2 [(0, .ref (ad 10)), (1, .int x1)] → zW G A s.heap (wX ad K sv I J B D) H locs → W p l e { frames := 7, cells := 1, slots := 6, locals := 101 } s m ([.ref (ad 10)] : List Value).toArray below meth c H locs 0 0 (zyMQ below (va_Qv (fun u : zS => Post u.1 u.2.1 u.2.2.1 u.2.2.2) (fun u t => zPost G K A (wX ad K sv u.1 u.2.1 u.2.2.1 u.2.2.2) t) A) (zYC (fun E (u : zS) => PX E u.1 u.2.1 u.2.2.1 u.2.2.2) (fun u => wX ad K sv u.1 u.2.1 u.2.2.1 u.2.2.2) G K A) ([.ref (ad 10)] : List Value).toArray s 1 6 A) (F0 m 2 ls []) := by
  intro n
  induction n with
  | zero => intro x1 I J B D ls H locs hok; exact hok.elim
  | succ n ih => exact wB_Terms_readOpenings_B_2 G K ad sv  Post PX C (wl_Terms_readOpenings_B_2  Post PX n) ih
set_option maxHeartbeats 8000000 in
set_option maxRecDepth 100000 in
theorem w_Terms_readOpenings_B (l : Launch) (hlt : l.stackTraces = false) (G : va_G) (K : Nat → ClassId) (ad : Nat → Nat) (sv : Value) (I : Nat → Int32) (J : Nat → Int64) (B : Nat → Nat → Int32) (D : Nat → Nat → Int64) (Post : (Nat → Int32) → (Nat → Int64) → (Nat → Nat → Int32) → (Nat → Nat → Int64) → Prop) (PX : String → (Nat → Int32) → (Nat → Int64) → (Nat → Nat → Int32) → (Nat → Nat → Int64) → Prop) (sz : Nat) (hok : wp_Terms_readOpenings_B I J B D  Post PX) : zyMet l zy_Terms_readOpenings (Cond.code zy_Terms_readOpenings prog_9_method_4_code 2 none :: zTB) { frames := 7, cells := 1, slots := 6, locals := 101 } (va_Pc [.ref (ad 10)] (zPreY G K (wX ad K sv I J B D) sz)) (va_Qv (fun u : zS => Post u.1 u.2.1 u.2.2.1 u.2.2.2) (fun u t => zPost G K (va_A (wX ad K sv I J B D) sz) (wX ad K sv u.1 u.2.1 u.2.2.1 u.2.2.2) t) (va_A (wX ad K sv I J B D) sz)) (zYC (fun E (u : zS) => PX E u.1 u.2.1 u.2.2.1 u.2.2.2) (fun u => wX ad K sv u.1 u.2.1 u.2.2.1 u.2.2.2) G K (va_A (wX ad K sv I J B D) sz)) 1 6 (va_A (wX ad K sv I J B D) sz) := by
  refine zMetY (y := zy_Terms_readOpenings) (av := [.ref (ad 10)]) (maxL := 2) (cc := prog_9_method_4_code) (ret := none) (W0 := (wX ad K sv I J B D)) (sz := sz) (G := G) (K := K) (wt := zTB) (mc := 1) (ms := 6) (Qf := fun A => va_Qv (fun u : zS => Post u.1 u.2.1 u.2.2.1 u.2.2.2) (fun u t => zPost G K A (wX ad K sv u.1 u.2.1 u.2.2.1 u.2.2.2) t) A) (Xf := fun A => (zYC (fun E (u : zS) => PX E u.1 u.2.1 u.2.2.1 u.2.2.2) (fun u => wX ad K sv u.1 u.2.1 u.2.2.1 u.2.2.2) G K A)) (by decide) (Nat.le_of_ble_eq_true rfl) ?_
  intro p e s m below meth c ls A hx hb hr hml hts hown hlocks hin hA hK H locs hw hsz hl hT hnt
  clear hsz
  have hown : s.vm.findClass "LassoFinder$Terms" = some m.cls := hown
  have C : zCy p l s m ([.ref (ad 10)] : List Value).toArray meth c A G K prog_9_method_4_code none 2 "LassoFinder$Terms" := ⟨hx, hb, hr, hml, hts, hown, hlocks, hA, hK, hT, hnt, hlt⟩
  have hl : lv_has ls 2 [(0, .ref (ad 10))] := hl
  have hw : zW G A s.heap (wX ad K sv I J B D) H locs := hw
  unfold wp_Terms_readOpenings_B at hok
  refine lv_iconst (v := 0) hx hb zd_Terms_readOpenings_0 (by decide) ?_
  refine lv_istore_n hx hb zd_Terms_readOpenings_1 rfl hl (by decide) rfl (fun ls hl => ?_)
  have hl : lv_has ls 2 [(1, .int 0), (0, .ref (ad 10))] := hl
  obtain ⟨n9, hok⟩ := hok
  exact wL_Terms_readOpenings_B_2 G K ad sv  Post PX C n9 0 I J B D ls H locs hok (lv_sub hl [1, 0] rfl) hw
def wc_Terms_readPart_B_89 (Post : (Nat → Int32) → (Nat → Int64) → (Nat → Nat → Int32) → (Nat → Nat → Int64) → Prop) (PX : String → (Nat → Int32) → (Nat → Int64) → (Nat → Nat → Int32) → (Nat → Nat → Int64) → Prop) (y0 : Int32) (I : Nat → Int32) (J : Nat → Int64) (B : Nat → Nat → Int32) (D : Nat → Nat → Int64) : Prop :=
  wp_Terms_add_B I J B D y0 (fun I1 J1 B1 D1 => Post I1 J1 B1 D1)
def wc_Terms_readPart_B_58 (Post : (Nat → Int32) → (Nat → Int64) → (Nat → Nat → Int32) → (Nat → Nat → Int64) → Prop) (PX : String → (Nat → Int32) → (Nat → Int64) → (Nat → Nat → Int32) → (Nat → Nat → Int64) → Prop) (x1 : Int32) (x2 : Int32) (I : Nat → Int32) (J : Nat → Int64) (B : Nat → Nat → Int32) (D : Nat → Nat → Int64) : Prop :=
  wp_Text_skip I J B D  (fun I2 J2 B2 D2 => ∀ z3 : Int32, z3 = ((I2 27) + 1) → ((¬ x1 = (-1) → wc_Terms_readPart_B_89  Post PX x1 (upd I2 27 z3) J2 B2 D2) ∧ (x1 = (-1) → ∀ z5 : Int32, z5 = (8 + x2) → wc_Terms_readPart_B_89  Post PX z5 (upd I2 27 z3) J2 B2 D2)))
def wc_Terms_readPart_B_51 (Post : (Nat → Int32) → (Nat → Int64) → (Nat → Nat → Int32) → (Nat → Nat → Int64) → Prop) (PX : String → (Nat → Int32) → (Nat → Int64) → (Nat → Nat → Int32) → (Nat → Nat → Int64) → Prop) (x1 : Int32) (x2 : Int32) (I : Nat → Int32) (J : Nat → Int64) (B : Nat → Nat → Int32) (D : Nat → Nat → Int64) : Prop :=
  wp_Text_refuse I J B D  (fun I6 J6 B6 D6 => wc_Terms_readPart_B_58  Post PX x1 x2 I6 J6 B6 D6) PX
def wp_Terms_readPart_B (I : Nat → Int32) (J : Nat → Int64) (B : Nat → Nat → Int32) (D : Nat → Nat → Int64) (Post : (Nat → Int32) → (Nat → Int64) → (Nat → Nat → Int32) → (Nat → Nat → Int64) → Prop) (PX : String → (Nat → Int32) → (Nat → Int64) → (Nat → Nat → Int32) → (Nat → Nat → Int64) → Prop) : Prop :=
  wp_Text_oneOf I J B D 48 (fun r7 I7 J7 B7 D7 => wp_Text_oneOf I7 J7 B7 D7 97 (fun r8 I8 J8 B8 D8 => (((I8 27) = 12 → wc_Terms_readPart_B_51  Post PX r7 r8 I8 J8 B8 D8) ∧ (¬ (I8 27) = 12 → ((¬ r7 = (-1) → wc_Terms_readPart_B_58  Post PX r7 r8 I8 J8 B8 D8) ∧ (r7 = (-1) → ((r8 = (-1) → wc_Terms_readPart_B_51  Post PX r7 r8 I8 J8 B8 D8) ∧ (¬ r8 = (-1) → vp_in r8 8 ∧ ∀ z12 : Int32, z12 = ((B8 2) r8.toNatClampNeg) → ((¬ z12 = 0 → wc_Terms_readPart_B_58  Post PX r7 r8 I8 J8 B8 D8) ∧ (z12 = 0 → wc_Terms_readPart_B_51  Post PX r7 r8 I8 J8 B8 D8))))))))))
set_option maxHeartbeats 8000000 in
set_option maxRecDepth 100000 in
theorem wJ_Terms_readPart_B_89 {p : Program} {l : Launch} {e : Env} {s : State} {m : MethodId} {below : List Frame} {meth : Method} {c : Code} {A : Nat → Prop} (G : va_G) (K : Nat → ClassId) (ad : Nat → Nat) (sv : Value) (Post : (Nat → Int32) → (Nat → Int64) → (Nat → Nat → Int32) → (Nat → Nat → Int64) → Prop) (PX : String → (Nat → Int32) → (Nat → Int64) → (Nat → Nat → Int32) → (Nat → Nat → Int64) → Prop) (C : zCy p l s m ([.ref (ad 10)] : List Value).toArray meth c A G K prog_9_method_5_code none 3 "LassoFinder$Terms") : ∀ (y0 : Int32) (I : Nat → Int32) (J : Nat → Int64) (B : Nat → Nat → Int32) (D : Nat → Nat → Int64) (ls : Array Slot) (H : Heap) (locs : List Loc), wc_Terms_readPart_B_89  Post PX y0 I J B D → lv_has ls 3 [] → zW G A s.heap (wX ad K sv I J B D) H locs → W p l e { frames := 7, cells := 1, slots := 6, locals := 101 } s m ([.ref (ad 10)] : List Value).toArray below meth c H locs 0 0 (zyMQ below (va_Qv (fun u : zS => Post u.1 u.2.1 u.2.2.1 u.2.2.2) (fun u t => zPost G K A (wX ad K sv u.1 u.2.1 u.2.2.1 u.2.2.2) t) A) (zYC (fun E (u : zS) => PX E u.1 u.2.1 u.2.2.1 u.2.2.2) (fun u => wX ad K sv u.1 u.2.1 u.2.2.1 u.2.2.2) G K A) ([.ref (ad 10)] : List Value).toArray s 1 6 A) (F0 m 89 ls [.int y0, .ref (ad 10)]) := by
  obtain ⟨hx, hb, hr, hml, hts, hown, hlocks, hA, hK, hT, hnt, hlt⟩ := id C
  intro y0 I J B D ls H locs hok hl hw
  unfold wc_Terms_readPart_B_89 at hok
  refine z_callv (w1 := fun (u : zS) => wX ad K sv u.1 u.2.1 u.2.2.1 u.2.2.2) (wr := []) (z_runV (q0 := 10) (wc := (wX ad K sv I J B D)) (As := [.int y0]) (rest := []) ⟨hx, hb, hml, hown, hts⟩ (w_Terms_add_B l G K ad sv I J B D y0 _ H.size hok) zf_Terms_add zn_370 ⟨Nat.le_of_ble_eq_true rfl, Nat.le_of_ble_eq_true rfl⟩ hK hw (List.range 65) wX_all wX_nd wX_g10 rfl rfl hl.1 rfl (Nat.le_of_ble_eq_true rfl) zd_Terms_readPart_89 ⟨Nat.le_of_ble_eq_true rfl, Nat.le_of_ble_eq_true rfl⟩) hw hA (List.range 65) [] wX_all rfl (by decide) (fun i hi => by cases hi) (fun u H locs hok hw => ?_)
  obtain ⟨I1, J1, B1, D1⟩ := u
  dsimp only at hok
  have hw : zW G A s.heap (wX ad K sv I1 J1 B1 D1) H locs := hw
  exact zy_ret (z_vret (u := (I1, J1, B1, D1)) hx hb hr hlocks hw (List.range 65) wX_all wX_nd hok (Nat.le_of_ble_eq_true rfl) (Nat.le_of_ble_eq_true rfl) zd_Terms_readPart_92)
set_option maxHeartbeats 8000000 in
set_option maxRecDepth 100000 in
theorem wJ_Terms_readPart_B_58 {p : Program} {l : Launch} {e : Env} {s : State} {m : MethodId} {below : List Frame} {meth : Method} {c : Code} {A : Nat → Prop} (G : va_G) (K : Nat → ClassId) (ad : Nat → Nat) (sv : Value) (Post : (Nat → Int32) → (Nat → Int64) → (Nat → Nat → Int32) → (Nat → Nat → Int64) → Prop) (PX : String → (Nat → Int32) → (Nat → Int64) → (Nat → Nat → Int32) → (Nat → Nat → Int64) → Prop) (C : zCy p l s m ([.ref (ad 10)] : List Value).toArray meth c A G K prog_9_method_5_code none 3 "LassoFinder$Terms") : ∀ (x1 : Int32) (x2 : Int32) (I : Nat → Int32) (J : Nat → Int64) (B : Nat → Nat → Int32) (D : Nat → Nat → Int64) (ls : Array Slot) (H : Heap) (locs : List Loc), wc_Terms_readPart_B_58  Post PX x1 x2 I J B D → lv_has ls 3 [(0, .ref (ad 10)), (1, .int x1), (2, .int x2)] → zW G A s.heap (wX ad K sv I J B D) H locs → W p l e { frames := 7, cells := 1, slots := 6, locals := 101 } s m ([.ref (ad 10)] : List Value).toArray below meth c H locs 0 0 (zyMQ below (va_Qv (fun u : zS => Post u.1 u.2.1 u.2.2.1 u.2.2.2) (fun u t => zPost G K A (wX ad K sv u.1 u.2.1 u.2.2.1 u.2.2.2) t) A) (zYC (fun E (u : zS) => PX E u.1 u.2.1 u.2.2.1 u.2.2.2) (fun u => wX ad K sv u.1 u.2.1 u.2.2.1 u.2.2.2) G K A) ([.ref (ad 10)] : List Value).toArray s 1 6 A) (F0 m 58 ls []) := by
  obtain ⟨hx, hb, hr, hml, hts, hown, hlocks, hA, hK, hT, hnt, hlt⟩ := id C
  intro x1 x2 I J B D ls H locs hok hl hw
  unfold wc_Terms_readPart_B_58 at hok
  refine lv_aload_n hx hb zd_Terms_readPart_58 rfl (lv_at hl 0 rfl) ?_
  refine z_get (v := .ref (ad 1)) hx hb hts hown hK hw zZ8 10 wX_g10 0 (by decide) zn_437 rfl zd_Terms_readPart_59 ?_
  refine z_callv (w1 := fun (u : zS) => wX ad K sv u.1 u.2.1 u.2.2.1 u.2.2.2) (wr := []) (z_runV (q0 := 1) (wc := (wX ad K sv I J B D)) (As := []) (rest := []) ⟨hx, hb, hml, hown, hts⟩ (w_Text_skip l G K ad sv I J B D  _ H.size hok) zf_Text_skip zn_366 ⟨Nat.le_of_ble_eq_true rfl, Nat.le_of_ble_eq_true rfl⟩ hK hw (List.range 65) wX_all wX_nd wX_g1 rfl rfl hl.1 rfl (Nat.le_of_ble_eq_true rfl) zd_Terms_readPart_62 ⟨Nat.le_of_ble_eq_true rfl, Nat.le_of_ble_eq_true rfl⟩) hw hA (List.range 65) [] wX_all rfl (by decide) (fun i hi => by cases hi) (fun u H locs hok hw => ?_)
  obtain ⟨I2, J2, B2, D2⟩ := u
  dsimp only at hok
  have hw : zW G A s.heap (wX ad K sv I2 J2 B2 D2) H locs := hw
  refine lv_aload_n hx hb zd_Terms_readPart_65 rfl (lv_at hl 0 rfl) ?_
  refine lv_dup hx hb zd_Terms_readPart_66 rfl ?_
  refine z_get (v := .int (I2 27)) hx hb hts hown hK hw zZ8 10 wX_g10 7 (by decide) zn_441 rfl zd_Terms_readPart_67 ?_
  refine lv_iconst (v := 1) hx hb zd_Terms_readPart_70 (by decide) ?_
  refine lv_iadd hx hb zd_Terms_readPart_71 ?_
  refine lv_topi (fun z3 ez3 => ?_)
  have hok := hok z3 ez3
  refine z_put (v := .int z3) hx hb hts hown hK hw zZ8 10 wX_g10 7 (by decide) zn_441 rfl rfl rfl (Nat.le_of_ble_eq_true rfl) zd_Terms_readPart_72 (fun H locs hw => ?_)
  have hw := wX_sI27 hw
  refine lv_aload_n hx hb zd_Terms_readPart_75 rfl (lv_at hl 0 rfl) ?_
  refine lv_iload_n hx hb zd_Terms_readPart_76 rfl (lv_at hl 1 rfl) ?_
  refine lv_iconst (v := (-1)) hx hb zd_Terms_readPart_77 (by decide) ?_
  refine lv_icmp_ne (tgt := 88) hx hb zd_Terms_readPart_78 (by decide) (fun hc4 => ?_) (fun hc4 => ?_)
  · have hok := hok.1 hc4
    refine lv_iload_n hx hb zd_Terms_readPart_88 rfl (lv_at hl 1 rfl) ?_
    exact wJ_Terms_readPart_B_89 G K ad sv  Post PX C x1 (upd I2 27 z3) J2 B2 D2 ls H locs hok (lv_sub hl [] rfl) hw
  · have hok := hok.2 hc4
    refine lv_bipush (v := 8) hx hb zd_Terms_readPart_81 (by decide) ?_
    refine lv_iload_n hx hb zd_Terms_readPart_83 rfl (lv_at hl 2 rfl) ?_
    refine lv_iadd hx hb zd_Terms_readPart_84 ?_
    refine lv_topi (fun z5 ez5 => ?_)
    have hok := hok z5 ez5
    refine lv_goto (tgt := 89) hx hb zd_Terms_readPart_85 (by decide) ?_
    exact wJ_Terms_readPart_B_89 G K ad sv  Post PX C z5 (upd I2 27 z3) J2 B2 D2 ls H locs hok (lv_sub hl [] rfl) hw
set_option maxHeartbeats 8000000 in
set_option maxRecDepth 100000 in
theorem wJ_Terms_readPart_B_51 {p : Program} {l : Launch} {e : Env} {s : State} {m : MethodId} {below : List Frame} {meth : Method} {c : Code} {A : Nat → Prop} (G : va_G) (K : Nat → ClassId) (ad : Nat → Nat) (sv : Value) (Post : (Nat → Int32) → (Nat → Int64) → (Nat → Nat → Int32) → (Nat → Nat → Int64) → Prop) (PX : String → (Nat → Int32) → (Nat → Int64) → (Nat → Nat → Int32) → (Nat → Nat → Int64) → Prop) (C : zCy p l s m ([.ref (ad 10)] : List Value).toArray meth c A G K prog_9_method_5_code none 3 "LassoFinder$Terms") : ∀ (x1 : Int32) (x2 : Int32) (I : Nat → Int32) (J : Nat → Int64) (B : Nat → Nat → Int32) (D : Nat → Nat → Int64) (ls : Array Slot) (H : Heap) (locs : List Loc), wc_Terms_readPart_B_51  Post PX x1 x2 I J B D → lv_has ls 3 [(0, .ref (ad 10)), (1, .int x1), (2, .int x2)] → zW G A s.heap (wX ad K sv I J B D) H locs → W p l e { frames := 7, cells := 1, slots := 6, locals := 101 } s m ([.ref (ad 10)] : List Value).toArray below meth c H locs 0 0 (zyMQ below (va_Qv (fun u : zS => Post u.1 u.2.1 u.2.2.1 u.2.2.2) (fun u t => zPost G K A (wX ad K sv u.1 u.2.1 u.2.2.1 u.2.2.2) t) A) (zYC (fun E (u : zS) => PX E u.1 u.2.1 u.2.2.1 u.2.2.2) (fun u => wX ad K sv u.1 u.2.1 u.2.2.1 u.2.2.2) G K A) ([.ref (ad 10)] : List Value).toArray s 1 6 A) (F0 m 51 ls []) := by
  obtain ⟨hx, hb, hr, hml, hts, hown, hlocks, hA, hK, hT, hnt, hlt⟩ := id C
  intro x1 x2 I J B D ls H locs hok hl hw
  unfold wc_Terms_readPart_B_51 at hok
  refine lv_aload_n hx hb zd_Terms_readPart_51 rfl (lv_at hl 0 rfl) ?_
  refine z_get (v := .ref (ad 1)) hx hb hts hown hK hw zZ8 10 wX_g10 0 (by decide) zn_437 rfl zd_Terms_readPart_52 ?_
  refine z_yV (q0 := 1) (wc := (wX ad K sv I J B D)) (wr := []) (w1 := fun (u : zS) => wX ad K sv u.1 u.2.1 u.2.2.1 u.2.2.2) (As := []) (rest := []) ⟨hx, hb, hml, hown, hts⟩ (w_Text_refuse l hlt G K ad sv I J B D  _ _ H.size hok) zf_Text_refuse zn_365 ⟨Nat.le_of_ble_eq_true rfl, Nat.le_of_ble_eq_true rfl⟩ hK hT hw hA (List.range 65) [] wX_all rfl wX_nd (by decide) (fun i hi => by cases hi) wX_g1 rfl rfl hl.1 rfl (Nat.le_of_ble_eq_true rfl) zd_Terms_readPart_55 ⟨Nat.le_of_ble_eq_true rfl, Nat.le_of_ble_eq_true rfl⟩ (fun v st9 t9 L9 h0 hq hL => ?_) (fun E ce q9 u H locs hu hw hce hcv hcl => z_yout (u := u) hnt hlocks hce hcv hcl hw (List.range 65) wX_all wX_nd hu (Nat.le_of_ble_eq_true rfl) (Nat.le_of_ble_eq_true rfl))
  obtain ⟨⟨u, hv9, hok, hB9⟩, hF9⟩ := hq
  cases hv9
  have hw := z_back (wr := []) hw hA (List.range 65) [] wX_all rfl (by decide) (fun i hi => by cases hi) h0 hL hB9 hF9
  obtain ⟨I6, J6, B6, D6⟩ := u
  dsimp only at hok
  generalize t9.heap = H at hw ⊢
  generalize locs ++ L9 = locs at hw ⊢
  have hw : zW G A s.heap (wX ad K sv I6 J6 B6 D6) H locs := hw
  refine W.eq (g2 := F0 m 58 ls []) rfl ?_
  exact wJ_Terms_readPart_B_58 G K ad sv  Post PX C x1 x2 I6 J6 B6 D6 ls H locs hok (lv_sub hl [0, 1, 2] rfl) hw
set_option maxHeartbeats 8000000 in
set_option maxRecDepth 100000 in
theorem w_Terms_readPart_B (l : Launch) (hlt : l.stackTraces = false) (G : va_G) (K : Nat → ClassId) (ad : Nat → Nat) (sv : Value) (I : Nat → Int32) (J : Nat → Int64) (B : Nat → Nat → Int32) (D : Nat → Nat → Int64) (Post : (Nat → Int32) → (Nat → Int64) → (Nat → Nat → Int32) → (Nat → Nat → Int64) → Prop) (PX : String → (Nat → Int32) → (Nat → Int64) → (Nat → Nat → Int32) → (Nat → Nat → Int64) → Prop) (sz : Nat) (hok : wp_Terms_readPart_B I J B D  Post PX) : zyMet l zy_Terms_readPart (Cond.code zy_Terms_readPart prog_9_method_5_code 3 none :: zTB) { frames := 7, cells := 1, slots := 6, locals := 101 } (va_Pc [.ref (ad 10)] (zPreY G K (wX ad K sv I J B D) sz)) (va_Qv (fun u : zS => Post u.1 u.2.1 u.2.2.1 u.2.2.2) (fun u t => zPost G K (va_A (wX ad K sv I J B D) sz) (wX ad K sv u.1 u.2.1 u.2.2.1 u.2.2.2) t) (va_A (wX ad K sv I J B D) sz)) (zYC (fun E (u : zS) => PX E u.1 u.2.1 u.2.2.1 u.2.2.2) (fun u => wX ad K sv u.1 u.2.1 u.2.2.1 u.2.2.2) G K (va_A (wX ad K sv I J B D) sz)) 1 6 (va_A (wX ad K sv I J B D) sz) := by
  refine zMetY (y := zy_Terms_readPart) (av := [.ref (ad 10)]) (maxL := 3) (cc := prog_9_method_5_code) (ret := none) (W0 := (wX ad K sv I J B D)) (sz := sz) (G := G) (K := K) (wt := zTB) (mc := 1) (ms := 6) (Qf := fun A => va_Qv (fun u : zS => Post u.1 u.2.1 u.2.2.1 u.2.2.2) (fun u t => zPost G K A (wX ad K sv u.1 u.2.1 u.2.2.1 u.2.2.2) t) A) (Xf := fun A => (zYC (fun E (u : zS) => PX E u.1 u.2.1 u.2.2.1 u.2.2.2) (fun u => wX ad K sv u.1 u.2.1 u.2.2.1 u.2.2.2) G K A)) (by decide) (Nat.le_of_ble_eq_true rfl) ?_
  intro p e s m below meth c ls A hx hb hr hml hts hown hlocks hin hA hK H locs hw hsz hl hT hnt
  clear hsz
  have hown : s.vm.findClass "LassoFinder$Terms" = some m.cls := hown
  have C : zCy p l s m ([.ref (ad 10)] : List Value).toArray meth c A G K prog_9_method_5_code none 3 "LassoFinder$Terms" := ⟨hx, hb, hr, hml, hts, hown, hlocks, hA, hK, hT, hnt, hlt⟩
  have hl : lv_has ls 3 [(0, .ref (ad 10))] := hl
  have hw : zW G A s.heap (wX ad K sv I J B D) H locs := hw
  unfold wp_Terms_readPart_B at hok
  refine lv_aload_n hx hb zd_Terms_readPart_0 rfl (lv_at hl 0 rfl) ?_
  refine z_get (v := .ref (ad 1)) hx hb hts hown hK hw zZ8 10 wX_g10 0 (by decide) zn_437 rfl zd_Terms_readPart_1 ?_
  refine lv_bipush (v := 48) hx hb zd_Terms_readPart_4 (by decide) ?_
  refine z_calli (w1 := fun (u : zS) => wX ad K sv u.1 u.2.1 u.2.2.1 u.2.2.2) (wr := []) (z_runV (q0 := 1) (wc := (wX ad K sv I J B D)) (As := [.int 48]) (rest := []) ⟨hx, hb, hml, hown, hts⟩ (w_Text_oneOf l G K ad sv I J B D 48 _ H.size hok) zf_Text_oneOf zn_369 ⟨Nat.le_of_ble_eq_true rfl, Nat.le_of_ble_eq_true rfl⟩ hK hw (List.range 65) wX_all wX_nd wX_g1 rfl rfl hl.1 rfl (Nat.le_of_ble_eq_true rfl) zd_Terms_readPart_6 ⟨Nat.le_of_ble_eq_true rfl, Nat.le_of_ble_eq_true rfl⟩) hw hA (List.range 65) [] wX_all rfl (by decide) (fun i hi => by cases hi) (fun r7 u H locs hok hw => ?_)
  obtain ⟨I7, J7, B7, D7⟩ := u
  dsimp only at hok
  have hw : zW G A s.heap (wX ad K sv I7 J7 B7 D7) H locs := hw
  refine lv_istore_n hx hb zd_Terms_readPart_9 rfl hl (by decide) rfl (fun ls hl => ?_)
  have hl : lv_has ls 3 [(1, .int r7), (0, .ref (ad 10))] := hl
  refine lv_aload_n hx hb zd_Terms_readPart_10 rfl (lv_at hl 1 rfl) ?_
  refine z_get (v := .ref (ad 1)) hx hb hts hown hK hw zZ8 10 wX_g10 0 (by decide) zn_437 rfl zd_Terms_readPart_11 ?_
  refine lv_bipush (v := 97) hx hb zd_Terms_readPart_14 (by decide) ?_
  refine z_calli (w1 := fun (u : zS) => wX ad K sv u.1 u.2.1 u.2.2.1 u.2.2.2) (wr := []) (z_runV (q0 := 1) (wc := (wX ad K sv I7 J7 B7 D7)) (As := [.int 97]) (rest := []) ⟨hx, hb, hml, hown, hts⟩ (w_Text_oneOf l G K ad sv I7 J7 B7 D7 97 _ H.size hok) zf_Text_oneOf zn_369 ⟨Nat.le_of_ble_eq_true rfl, Nat.le_of_ble_eq_true rfl⟩ hK hw (List.range 65) wX_all wX_nd wX_g1 rfl rfl hl.1 rfl (Nat.le_of_ble_eq_true rfl) zd_Terms_readPart_16 ⟨Nat.le_of_ble_eq_true rfl, Nat.le_of_ble_eq_true rfl⟩) hw hA (List.range 65) [] wX_all rfl (by decide) (fun i hi => by cases hi) (fun r8 u H locs hok hw => ?_)
  obtain ⟨I8, J8, B8, D8⟩ := u
  dsimp only at hok
  have hw : zW G A s.heap (wX ad K sv I8 J8 B8 D8) H locs := hw
  refine lv_istore_n hx hb zd_Terms_readPart_19 rfl hl (by decide) rfl (fun ls hl => ?_)
  have hl : lv_has ls 3 [(2, .int r8), (1, .int r7), (0, .ref (ad 10))] := hl
  refine lv_aload_n hx hb zd_Terms_readPart_20 rfl (lv_at hl 2 rfl) ?_
  refine z_get (v := .int (I8 27)) hx hb hts hown hK hw zZ8 10 wX_g10 7 (by decide) zn_441 rfl zd_Terms_readPart_21 ?_
  refine lv_bipush (v := 12) hx hb zd_Terms_readPart_24 (by decide) ?_
  refine lv_icmp_eq (tgt := 51) hx hb zd_Terms_readPart_26 (by decide) (fun hc9 => ?_) (fun hc9 => ?_)
  · have hok := hok.1 hc9
    exact wJ_Terms_readPart_B_51 G K ad sv  Post PX C r7 r8 I8 J8 B8 D8 ls H locs hok (lv_sub hl [2, 1, 0] rfl) hw
  · have hok := hok.2 hc9
    refine lv_iload_n hx hb zd_Terms_readPart_29 rfl (lv_at hl 1 rfl) ?_
    refine lv_iconst (v := (-1)) hx hb zd_Terms_readPart_30 (by decide) ?_
    refine lv_icmp_ne (tgt := 58) hx hb zd_Terms_readPart_31 (by decide) (fun hc10 => ?_) (fun hc10 => ?_)
    · have hok := hok.1 hc10
      exact wJ_Terms_readPart_B_58 G K ad sv  Post PX C r7 r8 I8 J8 B8 D8 ls H locs hok (lv_sub hl [2, 1, 0] rfl) hw
    · have hok := hok.2 hc10
      refine lv_iload_n hx hb zd_Terms_readPart_34 rfl (lv_at hl 0 rfl) ?_
      refine lv_iconst (v := (-1)) hx hb zd_Terms_readPart_35 (by decide) ?_
      refine lv_icmp_eq (tgt := 51) hx hb zd_Terms_readPart_36 (by decide) (fun hc11 => ?_) (fun hc11 => ?_)
      · have hok := hok.1 hc11
        exact wJ_Terms_readPart_B_51 G K ad sv  Post PX C r7 r8 I8 J8 B8 D8 ls H locs hok (lv_sub hl [2, 1, 0] rfl) hw
      · have hok := hok.2 hc11
        refine lv_aload_n hx hb zd_Terms_readPart_39 rfl (lv_at hl 2 rfl) ?_
        refine z_get (v := .ref (ad 2)) hx hb hts hown hK hw zZ8 10 wX_g10 1 (by decide) zn_442 rfl zd_Terms_readPart_40 ?_
        refine z_get (v := .ref (ad 14)) hx hb hts hown hK hw zZ5 2 wX_g2 0 (by decide) zn_443 rfl zd_Terms_readPart_43 ?_
        refine lv_iload_n hx hb zd_Terms_readPart_46 rfl (lv_at hl 0 rfl) ?_
        refine va_iald (f := (B8 2)) hx hb hK hw.1 14 0 wX_a14 rfl hok.1 zd_Terms_readPart_47 ?_
        have hok := hok.2
        refine lv_topi (fun z12 ez12 => ?_)
        have hok := hok z12 ez12
        refine lv_if_ne (tgt := 58) hx hb zd_Terms_readPart_48 (by decide) (fun hc13 => ?_) (fun hc13 => ?_)
        · have hok := hok.1 hc13
          exact wJ_Terms_readPart_B_58 G K ad sv  Post PX C r7 r8 I8 J8 B8 D8 ls H locs hok (lv_sub hl [2, 1, 0] rfl) hw
        · have hok := hok.2 hc13
          exact wJ_Terms_readPart_B_51 G K ad sv  Post PX C r7 r8 I8 J8 B8 D8 ls H locs hok (lv_sub hl [2, 1, 0] rfl) hw
