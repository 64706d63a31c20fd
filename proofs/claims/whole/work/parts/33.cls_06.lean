abbrev zy_Tree_settled : MethodName := ⟨"LassoFinder$Tree", "settled", "(I)I"⟩
abbrev zy_Tree_behind : MethodName := ⟨"LassoFinder$Tree", "behind", "(I)I"⟩
abbrev zy_Text_refuseAt : MethodName := ⟨"LassoFinder$Text", "refuseAt", "(I)V"⟩
theorem zn_379 : Cond.methodLink "LassoFinder$Tree" 70 ⟨"LassoFinder$Tree", "behind", "(I)I"⟩ ∈ zTB := z_in (zt_4 _ (List.mem_of_getElem? (i := 108) rfl)) rfl
theorem zn_657 : Cond.code ⟨"LassoFinder$Tree", "behind", "(I)I"⟩ prog_11_method_6_code 4 (some .int) ∈ zTB := z_in (zt_4 _ (List.mem_of_getElem? (i := 111) rfl)) rfl
theorem zn_658 : Cond.selects "LassoFinder$Tree" ⟨"LassoFinder$Tree", "behind", "(I)I"⟩ ⟨"LassoFinder$Tree", "behind", "(I)I"⟩ ∈ zTB := z_in (zt_4 _ (List.mem_of_getElem? (i := 110) rfl)) rfl
theorem zn_659 : Cond.instanceMethod ⟨"LassoFinder$Tree", "behind", "(I)I"⟩ ∈ zTB := z_in (zt_4 _ (List.mem_of_getElem? (i := 109) rfl)) rfl
theorem zf_Tree_behind : zFaceV zy_Tree_behind prog_11_method_6_code 4 (some .int) 1 := ⟨zn_659, zn_658, zm_21, zn_657, by decide +kernel, by decide +kernel, by decide +kernel⟩
theorem zd_Text_refuseAt_0 : decode prog_10_method_12_code 0 = .ok (.aload_n 0, 1) := by decide +kernel
theorem zd_Text_refuseAt_1 : decode prog_10_method_12_code 1 = .ok (.iload_n 1, 1) := by decide +kernel
theorem zd_Text_refuseAt_2 : decode prog_10_method_12_code 2 = .ok (.putfield 15, 3) := by decide +kernel
theorem zd_Text_refuseAt_5 : decode prog_10_method_12_code 5 = .ok (.new 39, 3) := by decide +kernel
theorem zd_Text_refuseAt_8 : decode prog_10_method_12_code 8 = .ok (.dup, 1) := by decide +kernel
theorem zd_Text_refuseAt_9 : decode prog_10_method_12_code 9 = .ok (.invokespecial 41, 3) := by decide +kernel
theorem zd_Text_refuseAt_12 : decode prog_10_method_12_code 12 = .ok (.athrow, 1) := by decide +kernel
theorem zd_Tree_behind_0 : decode prog_11_method_6_code 0 = .ok (.iload_n 1, 1) := by decide +kernel
theorem zd_Tree_behind_1 : decode prog_11_method_6_code 1 = .ok (.istore_n 2, 1) := by decide +kernel
theorem zd_Tree_behind_2 : decode prog_11_method_6_code 2 = .ok (.iconst 0, 1) := by decide +kernel
theorem zd_Tree_behind_3 : decode prog_11_method_6_code 3 = .ok (.istore_n 3, 1) := by decide +kernel
theorem zd_Tree_behind_4 : decode prog_11_method_6_code 4 = .ok (.iload_n 3, 1) := by decide +kernel
theorem zd_Tree_behind_5 : decode prog_11_method_6_code 5 = .ok (.sipush 240, 3) := by decide +kernel
theorem zd_Tree_behind_8 : decode prog_11_method_6_code 8 = .ok (.if_icmp .ge 55, 3) := by decide +kernel
theorem zd_Tree_behind_11 : decode prog_11_method_6_code 11 = .ok (.iload_n 2, 1) := by decide +kernel
theorem zd_Tree_behind_12 : decode prog_11_method_6_code 12 = .ok (.iconst (-1), 1) := by decide +kernel
theorem zd_Tree_behind_13 : decode prog_11_method_6_code 13 = .ok (.if_icmp .eq 50, 3) := by decide +kernel
theorem zd_Tree_behind_16 : decode prog_11_method_6_code 16 = .ok (.aload_n 0, 1) := by decide +kernel
theorem zd_Tree_behind_17 : decode prog_11_method_6_code 17 = .ok (.getfield 30, 3) := by decide +kernel
theorem zd_Tree_behind_20 : decode prog_11_method_6_code 20 = .ok (.iload_n 2, 1) := by decide +kernel
theorem zd_Tree_behind_21 : decode prog_11_method_6_code 21 = .ok (.iaload, 1) := by decide +kernel
theorem zd_Tree_behind_22 : decode prog_11_method_6_code 22 = .ok (.iconst (-1), 1) := by decide +kernel
theorem zd_Tree_behind_23 : decode prog_11_method_6_code 23 = .ok (.if_icmp .eq 10, 3) := by decide +kernel
theorem zd_Tree_behind_26 : decode prog_11_method_6_code 26 = .ok (.aload_n 0, 1) := by decide +kernel
theorem zd_Tree_behind_27 : decode prog_11_method_6_code 27 = .ok (.getfield 30, 3) := by decide +kernel
theorem zd_Tree_behind_30 : decode prog_11_method_6_code 30 = .ok (.iload_n 2, 1) := by decide +kernel
theorem zd_Tree_behind_31 : decode prog_11_method_6_code 31 = .ok (.iaload, 1) := by decide +kernel
theorem zd_Tree_behind_32 : decode prog_11_method_6_code 32 = .ok (.ireturn, 1) := by decide +kernel
theorem zd_Tree_behind_33 : decode prog_11_method_6_code 33 = .ok (.aload_n 0, 1) := by decide +kernel
theorem zd_Tree_behind_34 : decode prog_11_method_6_code 34 = .ok (.getfield 17, 3) := by decide +kernel
theorem zd_Tree_behind_37 : decode prog_11_method_6_code 37 = .ok (.iload_n 2, 1) := by decide +kernel
theorem zd_Tree_behind_38 : decode prog_11_method_6_code 38 = .ok (.iaload, 1) := by decide +kernel
theorem zd_Tree_behind_39 : decode prog_11_method_6_code 39 = .ok (.istore_n 2, 1) := by decide +kernel
theorem zd_Tree_behind_40 : decode prog_11_method_6_code 40 = .ok (.iload_n 2, 1) := by decide +kernel
theorem zd_Tree_behind_41 : decode prog_11_method_6_code 41 = .ok (.iconst (-1), 1) := by decide +kernel
theorem zd_Tree_behind_42 : decode prog_11_method_6_code 42 = .ok (.if_icmp .eq 15, 3) := by decide +kernel
theorem zd_Tree_behind_45 : decode prog_11_method_6_code 45 = .ok (.aload_n 0, 1) := by decide +kernel
theorem zd_Tree_behind_46 : decode prog_11_method_6_code 46 = .ok (.getfield 11, 3) := by decide +kernel
theorem zd_Tree_behind_49 : decode prog_11_method_6_code 49 = .ok (.iload_n 2, 1) := by decide +kernel
theorem zd_Tree_behind_50 : decode prog_11_method_6_code 50 = .ok (.iaload, 1) := by decide +kernel
theorem zd_Tree_behind_51 : decode prog_11_method_6_code 51 = .ok (.iconst 2, 1) := by decide +kernel
theorem zd_Tree_behind_52 : decode prog_11_method_6_code 52 = .ok (.if_icmp .ne 5, 3) := by decide +kernel
theorem zd_Tree_behind_55 : decode prog_11_method_6_code 55 = .ok (.iload_n 2, 1) := by decide +kernel
theorem zd_Tree_behind_56 : decode prog_11_method_6_code 56 = .ok (.ireturn, 1) := by decide +kernel
theorem zd_Tree_behind_57 : decode prog_11_method_6_code 57 = .ok (.iinc 3 1, 3) := by decide +kernel
theorem zd_Tree_behind_60 : decode prog_11_method_6_code 60 = .ok (.goto (-56), 3) := by decide +kernel
theorem zd_Tree_behind_63 : decode prog_11_method_6_code 63 = .ok (.bipush (-2), 2) := by decide +kernel
theorem zd_Tree_behind_65 : decode prog_11_method_6_code 65 = .ok (.ireturn, 1) := by decide +kernel
theorem zd_Tree_settled_0 : decode prog_11_method_7_code 0 = .ok (.iload_n 1, 1) := by decide +kernel
theorem zd_Tree_settled_1 : decode prog_11_method_7_code 1 = .ok (.istore_n 2, 1) := by decide +kernel
theorem zd_Tree_settled_2 : decode prog_11_method_7_code 2 = .ok (.iconst 0, 1) := by decide +kernel
theorem zd_Tree_settled_3 : decode prog_11_method_7_code 3 = .ok (.istore_n 3, 1) := by decide +kernel
theorem zd_Tree_settled_4 : decode prog_11_method_7_code 4 = .ok (.iload_n 3, 1) := by decide +kernel
theorem zd_Tree_settled_5 : decode prog_11_method_7_code 5 = .ok (.sipush 240, 3) := by decide +kernel
theorem zd_Tree_settled_8 : decode prog_11_method_7_code 8 = .ok (.if_icmp .gt 87, 3) := by decide +kernel
theorem zd_Tree_settled_11 : decode prog_11_method_7_code 11 = .ok (.iload_n 2, 1) := by decide +kernel
theorem zd_Tree_settled_12 : decode prog_11_method_7_code 12 = .ok (.ifCond .ge 5, 3) := by decide +kernel
theorem zd_Tree_settled_15 : decode prog_11_method_7_code 15 = .ok (.iload_n 2, 1) := by decide +kernel
theorem zd_Tree_settled_16 : decode prog_11_method_7_code 16 = .ok (.ireturn, 1) := by decide +kernel
theorem zd_Tree_settled_17 : decode prog_11_method_7_code 17 = .ok (.aload_n 0, 1) := by decide +kernel
theorem zd_Tree_settled_18 : decode prog_11_method_7_code 18 = .ok (.getfield 11, 3) := by decide +kernel
theorem zd_Tree_settled_21 : decode prog_11_method_7_code 21 = .ok (.iload_n 2, 1) := by decide +kernel
theorem zd_Tree_settled_22 : decode prog_11_method_7_code 22 = .ok (.iaload, 1) := by decide +kernel
theorem zd_Tree_settled_23 : decode prog_11_method_7_code 23 = .ok (.tableswitch 64 3 5 #[25, 35, 49], 25) := by decide +kernel
theorem zd_Tree_settled_48 : decode prog_11_method_7_code 48 = .ok (.aload_n 0, 1) := by decide +kernel
theorem zd_Tree_settled_49 : decode prog_11_method_7_code 49 = .ok (.getfield 33, 3) := by decide +kernel
theorem zd_Tree_settled_52 : decode prog_11_method_7_code 52 = .ok (.iload_n 2, 1) := by decide +kernel
theorem zd_Tree_settled_53 : decode prog_11_method_7_code 53 = .ok (.iaload, 1) := by decide +kernel
theorem zd_Tree_settled_54 : decode prog_11_method_7_code 54 = .ok (.istore_n 2, 1) := by decide +kernel
theorem zd_Tree_settled_55 : decode prog_11_method_7_code 55 = .ok (.goto 34, 3) := by decide +kernel
theorem zd_Tree_settled_58 : decode prog_11_method_7_code 58 = .ok (.aload_n 0, 1) := by decide +kernel
theorem zd_Tree_settled_59 : decode prog_11_method_7_code 59 = .ok (.aload_n 0, 1) := by decide +kernel
theorem zd_Tree_settled_60 : decode prog_11_method_7_code 60 = .ok (.getfield 20, 3) := by decide +kernel
theorem zd_Tree_settled_63 : decode prog_11_method_7_code 63 = .ok (.iload_n 2, 1) := by decide +kernel
theorem zd_Tree_settled_64 : decode prog_11_method_7_code 64 = .ok (.iaload, 1) := by decide +kernel
theorem zd_Tree_settled_65 : decode prog_11_method_7_code 65 = .ok (.invokevirtual 70, 3) := by decide +kernel
theorem zd_Tree_settled_68 : decode prog_11_method_7_code 68 = .ok (.istore_n 2, 1) := by decide +kernel
theorem zd_Tree_settled_69 : decode prog_11_method_7_code 69 = .ok (.goto 20, 3) := by decide +kernel
theorem zd_Tree_settled_72 : decode prog_11_method_7_code 72 = .ok (.aload_n 0, 1) := by decide +kernel
theorem zd_Tree_settled_73 : decode prog_11_method_7_code 73 = .ok (.getfield 47, 3) := by decide +kernel
theorem zd_Tree_settled_76 : decode prog_11_method_7_code 76 = .ok (.aload_n 0, 1) := by decide +kernel
theorem zd_Tree_settled_77 : decode prog_11_method_7_code 77 = .ok (.getfield 39, 3) := by decide +kernel
theorem zd_Tree_settled_80 : decode prog_11_method_7_code 80 = .ok (.iload_n 2, 1) := by decide +kernel
theorem zd_Tree_settled_81 : decode prog_11_method_7_code 81 = .ok (.iaload, 1) := by decide +kernel
theorem zd_Tree_settled_82 : decode prog_11_method_7_code 82 = .ok (.iaload, 1) := by decide +kernel
theorem zd_Tree_settled_83 : decode prog_11_method_7_code 83 = .ok (.istore_n 2, 1) := by decide +kernel
theorem zd_Tree_settled_84 : decode prog_11_method_7_code 84 = .ok (.goto 5, 3) := by decide +kernel
theorem zd_Tree_settled_87 : decode prog_11_method_7_code 87 = .ok (.iload_n 2, 1) := by decide +kernel
theorem zd_Tree_settled_88 : decode prog_11_method_7_code 88 = .ok (.ireturn, 1) := by decide +kernel
theorem zd_Tree_settled_89 : decode prog_11_method_7_code 89 = .ok (.iinc 3 1, 3) := by decide +kernel
theorem zd_Tree_settled_92 : decode prog_11_method_7_code 92 = .ok (.goto (-88), 3) := by decide +kernel
theorem zd_Tree_settled_95 : decode prog_11_method_7_code 95 = .ok (.bipush (-4), 2) := by decide +kernel
theorem zd_Tree_settled_97 : decode prog_11_method_7_code 97 = .ok (.ireturn, 1) := by decide +kernel
def wc_Terms_readClosings_B_78 (a0 : Int32) (Post : (Nat → Int32) → (Nat → Int64) → (Nat → Nat → Int32) → (Nat → Nat → Int64) → Prop) (PX : String → (Nat → Int32) → (Nat → Int64) → (Nat → Nat → Int32) → (Nat → Nat → Int64) → Prop)  (I : Nat → Int32) (J : Nat → Int64) (B : Nat → Nat → Int32) (D : Nat → Nat → Int64) : Prop :=
  Post I J B D
def wb_Terms_readClosings_B_2 (a0 : Int32) (K2 : Int32 → Int32 → (Nat → Int32) → (Nat → Int64) → (Nat → Nat → Int32) → (Nat → Nat → Int64) → Prop) (Post : (Nat → Int32) → (Nat → Int64) → (Nat → Nat → Int32) → (Nat → Nat → Int64) → Prop) (PX : String → (Nat → Int32) → (Nat → Int64) → (Nat → Nat → Int32) → (Nat → Nat → Int64) → Prop) (x1 : Int32) (x2 : Int32) (I : Nat → Int32) (J : Nat → Int64) (B : Nat → Nat → Int32) (D : Nat → Nat → Int64) : Prop :=
  (((240 : Int32) ≤ x2 → wc_Terms_readClosings_B_78 a0 Post PX I J B D) ∧ (¬ (240 : Int32) ≤ x2 → (((I 28) ≤ x1 → wc_Terms_readClosings_B_78 a0 Post PX I J B D) ∧ (¬ (I 28) ≤ x1 → wp_Text_ahead I J B D  (fun r3 I3 J3 B3 D3 => ((¬ r3 = 41 → wc_Terms_readClosings_B_78 a0 Post PX I3 J3 B3 D3) ∧ (r3 = 41 → wp_Text_skip I3 J3 B3 D3  (fun I5 J5 B5 D5 => wp_Terms_release_B I5 J5 B5 D5 16 (fun I6 J6 B6 D6 => ∀ z7 : Int32, z7 = ((I6 26) - 1) → ∀ z8 : Int32, z8 = ((I6 28) - 1) → ∀ z9 : Int32, z9 = ((I6 29) >>> (1 &&& 31)) → ∀ z10 : Int32, z10 = (x2 + 1) → K2 x1 z10 (upd (upd (upd I6 26 z7) 28 z8) 29 z9) J6 B6 D6) PX))))))))
def wl_Terms_readClosings_B_2 (a0 : Int32) (Post : (Nat → Int32) → (Nat → Int64) → (Nat → Nat → Int32) → (Nat → Nat → Int64) → Prop) (PX : String → (Nat → Int32) → (Nat → Int64) → (Nat → Nat → Int32) → (Nat → Nat → Int64) → Prop) (n : Nat) : Int32 → Int32 → (Nat → Int32) → (Nat → Int64) → (Nat → Nat → Int32) → (Nat → Nat → Int64) → Prop := Nat.rec (fun _ _ _ _ _ _ => False) (fun _ r => wb_Terms_readClosings_B_2 a0 r Post PX) n
def wp_Terms_readClosings_B (I : Nat → Int32) (J : Nat → Int64) (B : Nat → Nat → Int32) (D : Nat → Nat → Int64) (a0 : Int32) (Post : (Nat → Int32) → (Nat → Int64) → (Nat → Nat → Int32) → (Nat → Nat → Int64) → Prop) (PX : String → (Nat → Int32) → (Nat → Int64) → (Nat → Nat → Int32) → (Nat → Nat → Int64) → Prop) : Prop :=
  ∃ n : Nat, wl_Terms_readClosings_B_2 a0 Post PX n a0 0 I J B D
set_option maxHeartbeats 8000000 in
set_option maxRecDepth 100000 in
theorem wJ_Terms_readClosings_B_78 {p : Program} {l : Launch} {e : Env} {s : State} {m : MethodId} {below : List Frame} {meth : Method} {c : Code} {A : Nat → Prop} (G : va_G) (K : Nat → ClassId) (ad : Nat → Nat) (sv : Value) (a0 : Int32) (Post : (Nat → Int32) → (Nat → Int64) → (Nat → Nat → Int32) → (Nat → Nat → Int64) → Prop) (PX : String → (Nat → Int32) → (Nat → Int64) → (Nat → Nat → Int32) → (Nat → Nat → Int64) → Prop) (C : zCy p l s m ([.ref (ad 10), .int a0] : List Value).toArray meth c A G K prog_9_method_6_code none 3 "LassoFinder$Terms") : ∀  (I : Nat → Int32) (J : Nat → Int64) (B : Nat → Nat → Int32) (D : Nat → Nat → Int64) (ls : Array Slot) (H : Heap) (locs : List Loc), wc_Terms_readClosings_B_78 a0 Post PX  I J B D → lv_has ls 3 [] → zW G A s.heap (wX ad K sv I J B D) H locs → W p l e { frames := 1, cells := 1, slots := 6, locals := 23 } s m ([.ref (ad 10), .int a0] : List Value).toArray below meth c H locs 0 0 (zyMQ below (va_Qv (fun u : zS => Post u.1 u.2.1 u.2.2.1 u.2.2.2) (fun u t => zPost G K A (wX ad K sv u.1 u.2.1 u.2.2.1 u.2.2.2) t) A) (zYC (fun E (u : zS) => PX E u.1 u.2.1 u.2.2.1 u.2.2.2) (fun u => wX ad K sv u.1 u.2.1 u.2.2.1 u.2.2.2) G K A) ([.ref (ad 10), .int a0] : List Value).toArray s 1 6 A) (F0 m 78 ls []) := by
  obtain ⟨hx, hb, hr, hml, hts, hown, hlocks, hA, hK, hT, hnt, hlt⟩ := id C
  intro  I J B D ls H locs hok hl hw
  unfold wc_Terms_readClosings_B_78 at hok
  exact zy_ret (z_vret (u := (I, J, B, D)) hx hb hr hlocks hw (List.range 65) wX_all wX_nd hok (Nat.le_of_ble_eq_true rfl) (Nat.le_of_ble_eq_true rfl) zd_Terms_readClosings_78)
set_option maxHeartbeats 8000000 in
set_option maxRecDepth 100000 in
theorem wB_Terms_readClosings_B_2 {p : Program} {l : Launch} {e : Env} {s : State} {m : MethodId} {below : List Frame} {meth : Method} {c : Code} {A : Nat → Prop} (G : va_G) (K : Nat → ClassId) (ad : Nat → Nat) (sv : Value) (a0 : Int32) (Post : (Nat → Int32) → (Nat → Int64) → (Nat → Nat → Int32) → (Nat → Nat → Int64) → Prop) (PX : String → (Nat → Int32) → (Nat → Int64) → (Nat → Nat → Int32) → (Nat → Nat → Int64) → Prop) (C : zCy p l s m ([.ref (ad 10), .int a0] : List Value).toArray meth c A G K prog_9_method_6_code none 3 "LassoFinder$Terms") (K2 : Int32 → Int32 → (Nat → Int32) → (Nat → Int64) → (Nat → Nat → Int32) → (Nat → Nat → Int64) → Prop) (kh2 : ∀ (x1 : Int32) (x2 : Int32) (I : Nat → Int32) (J : Nat → Int64) (B : Nat → Nat → Int32) (D : Nat → Nat → Int64) (ls : Array Slot) (H : Heap) (locs : List Loc), K2 x1 x2 I J B D → lv_has ls 3 [(0, .ref (ad 10)), (1, .int x1), (2, .int x2)] → zW G A s.heap (wX ad K sv I J B D) H locs → W p l e { frames := 1, cells := 1, slots := 6, locals := 23 } s m ([.ref (ad 10), .int a0] : List Value).toArray below meth c H locs 0 0 (zyMQ below (va_Qv (fun u : zS => Post u.1 u.2.1 u.2.2.1 u.2.2.2) (fun u t => zPost G K A (wX ad K sv u.1 u.2.1 u.2.2.1 u.2.2.2) t) A) (zYC (fun E (u : zS) => PX E u.1 u.2.1 u.2.2.1 u.2.2.2) (fun u => wX ad K sv u.1 u.2.1 u.2.2.1 u.2.2.2) G K A) ([.ref (ad 10), .int a0] : List Value).toArray s 1 6 A) (F0 m 2 ls [])) : ∀ (x1 : Int32) (x2 : Int32) (I : Nat → Int32) (J : Nat → Int64) (B : Nat → Nat → Int32) (D : Nat → Nat → Int64) (ls : Array Slot) (H : Heap) (locs : List Loc), wb_Terms_readClosings_B_2 a0 K2 Post PX x1 x2 I J B D → lv_has ls 3 [(0, .ref (ad 10)), (1, .int x1), (2, .int x2)] → zW G A s.heap (wX ad K sv I J B D) H locs → W p l e { frames := 1, cells := 1, slots := 6, locals := 23 } s m ([.ref (ad 10), .int a0] : List Value).toArray below meth c H locs 0 0 (zyMQ below (va_Qv (fun u : zS => Post u.1 u.2.1 u.2.2.1 u.2.2.2) (fun u t => zPost G K A (wX ad K sv u.1 u.2.1 u.2.2.1 u.2.2.2) t) A) (zYC (fun E (u : zS) => PX E u.1 u.2.1 u.2.2.1 u.2.2.2) (fun u => wX ad K sv u.1 u.2.1 u.2.2.1 u.2.2.2) G K A) ([.ref (ad 10), .int a0] : List Value).toArray s 1 6 A) (F0 m 2 ls []) := by
  obtain ⟨hx, hb, hr, hml, hts, hown, hlocks, hA, hK, hT, hnt, hlt⟩ := id C
  intro x1 x2 I J B D ls H locs hok hl hw
  unfold wb_Terms_readClosings_B_2 at hok
  refine lv_iload_n hx hb zd_Terms_readClosings_2 rfl (lv_at hl 2 rfl) ?_
  refine lv_sipush (v := 240) hx hb zd_Terms_readClosings_3 (by decide) ?_
  refine lv_icmp_ge (tgt := 78) hx hb zd_Terms_readClosings_6 (by decide) (fun hc1 => ?_) (fun hc1 => ?_)
  · have hok := hok.1 hc1
    exact wJ_Terms_readClosings_B_78 G K ad sv a0 Post PX C I J B D ls H locs hok (lv_sub hl [] rfl) hw
  · have hok := hok.2 hc1
    refine lv_aload_n hx hb zd_Terms_readClosings_9 rfl (lv_at hl 0 rfl) ?_
    refine z_get (v := .int (I 28)) hx hb hts hown hK hw zZ8 10 wX_g10 8 (by decide) zn_436 rfl zd_Terms_readClosings_10 ?_
    refine lv_iload_n hx hb zd_Terms_readClosings_13 rfl (lv_at hl 1 rfl) ?_
    refine lv_icmp_le (tgt := 78) hx hb zd_Terms_readClosings_14 (by decide) (fun hc2 => ?_) (fun hc2 => ?_)
    · have hok := hok.1 hc2
      exact wJ_Terms_readClosings_B_78 G K ad sv a0 Post PX C I J B D ls H locs hok (lv_sub hl [] rfl) hw
    · have hok := hok.2 hc2
      refine lv_aload_n hx hb zd_Terms_readClosings_17 rfl (lv_at hl 0 rfl) ?_
      refine z_get (v := .ref (ad 1)) hx hb hts hown hK hw zZ8 10 wX_g10 0 (by decide) zn_437 rfl zd_Terms_readClosings_18 ?_
      refine z_calli (w1 := fun (u : zS) => wX ad K sv u.1 u.2.1 u.2.2.1 u.2.2.2) (wr := []) (z_runV (q0 := 1) (wc := (wX ad K sv I J B D)) (As := []) (rest := []) ⟨hx, hb, hml, hown, hts⟩ (w_Text_ahead l G K ad sv I J B D  _ H.size hok) zf_Text_ahead zn_364 ⟨Nat.le_of_ble_eq_true rfl, Nat.le_of_ble_eq_true rfl⟩ hK hw (List.range 65) wX_all wX_nd wX_g1 rfl rfl hl.1 rfl (Nat.le_of_ble_eq_true rfl) zd_Terms_readClosings_21 ⟨Nat.le_of_ble_eq_true rfl, Nat.le_of_ble_eq_true rfl⟩) hw hA (List.range 65) [] wX_all rfl (by decide) (fun i hi => by cases hi) (fun r3 u H locs hok hw => ?_)
      obtain ⟨I3, J3, B3, D3⟩ := u
      dsimp only at hok
      have hw : zW G A s.heap (wX ad K sv I3 J3 B3 D3) H locs := hw
      refine lv_bipush (v := 41) hx hb zd_Terms_readClosings_24 (by decide) ?_
      refine lv_icmp_ne (tgt := 78) hx hb zd_Terms_readClosings_26 (by decide) (fun hc4 => ?_) (fun hc4 => ?_)
      · have hok := hok.1 hc4
        exact wJ_Terms_readClosings_B_78 G K ad sv a0 Post PX C I3 J3 B3 D3 ls H locs hok (lv_sub hl [] rfl) hw
      · have hok := hok.2 hc4
        refine lv_aload_n hx hb zd_Terms_readClosings_29 rfl (lv_at hl 0 rfl) ?_
        refine z_get (v := .ref (ad 1)) hx hb hts hown hK hw zZ8 10 wX_g10 0 (by decide) zn_437 rfl zd_Terms_readClosings_30 ?_
        refine z_callv (w1 := fun (u : zS) => wX ad K sv u.1 u.2.1 u.2.2.1 u.2.2.2) (wr := []) (z_runV (q0 := 1) (wc := (wX ad K sv I3 J3 B3 D3)) (As := []) (rest := []) ⟨hx, hb, hml, hown, hts⟩ (w_Text_skip l G K ad sv I3 J3 B3 D3  _ H.size hok) zf_Text_skip zn_366 ⟨Nat.le_of_ble_eq_true rfl, Nat.le_of_ble_eq_true rfl⟩ hK hw (List.range 65) wX_all wX_nd wX_g1 rfl rfl hl.1 rfl (Nat.le_of_ble_eq_true rfl) zd_Terms_readClosings_33 ⟨Nat.le_of_ble_eq_true rfl, Nat.le_of_ble_eq_true rfl⟩) hw hA (List.range 65) [] wX_all rfl (by decide) (fun i hi => by cases hi) (fun u H locs hok hw => ?_)
        obtain ⟨I5, J5, B5, D5⟩ := u
        dsimp only at hok
        have hw : zW G A s.heap (wX ad K sv I5 J5 B5 D5) H locs := hw
        refine lv_aload_n hx hb zd_Terms_readClosings_36 rfl (lv_at hl 0 rfl) ?_
        refine lv_bipush (v := 16) hx hb zd_Terms_readClosings_37 (by decide) ?_
        refine z_yV (q0 := 10) (wc := (wX ad K sv I5 J5 B5 D5)) (wr := []) (w1 := fun (u : zS) => wX ad K sv u.1 u.2.1 u.2.2.1 u.2.2.2) (As := [.int 16]) (rest := []) ⟨hx, hb, hml, hown, hts⟩ (w_Terms_release_B l hlt G K ad sv I5 J5 B5 D5 16 _ _ H.size hok) zf_Terms_release zn_372 ⟨Nat.le_of_ble_eq_true rfl, Nat.le_of_ble_eq_true rfl⟩ hK hT hw hA (List.range 65) [] wX_all rfl wX_nd (by decide) (fun i hi => by cases hi) wX_g10 rfl rfl hl.1 rfl (Nat.le_of_ble_eq_true rfl) zd_Terms_readClosings_39 ⟨Nat.le_of_ble_eq_true rfl, Nat.le_of_ble_eq_true rfl⟩ (fun v st9 t9 L9 h0 hq hL => ?_) (fun E ce q9 u H locs hu hw hce hcv hcl => z_yout (u := u) hnt hlocks hce hcv hcl hw (List.range 65) wX_all wX_nd hu (Nat.le_of_ble_eq_true rfl) (Nat.le_of_ble_eq_true rfl))
        obtain ⟨⟨u, hv9, hok, hB9⟩, hF9⟩ := hq
        cases hv9
        have hw := z_back (wr := []) hw hA (List.range 65) [] wX_all rfl (by decide) (fun i hi => by cases hi) h0 hL hB9 hF9
        obtain ⟨I6, J6, B6, D6⟩ := u
        dsimp only at hok
        generalize t9.heap = H at hw ⊢
        generalize locs ++ L9 = locs at hw ⊢
        have hw : zW G A s.heap (wX ad K sv I6 J6 B6 D6) H locs := hw
        refine W.eq (g2 := F0 m 42 ls []) rfl ?_
        refine lv_aload_n hx hb zd_Terms_readClosings_42 rfl (lv_at hl 0 rfl) ?_
        refine lv_dup hx hb zd_Terms_readClosings_43 rfl ?_
        refine z_get (v := .int (I6 26)) hx hb hts hown hK hw zZ8 10 wX_g10 5 (by decide) zn_438 rfl zd_Terms_readClosings_44 ?_
        refine lv_iconst (v := 1) hx hb zd_Terms_readClosings_47 (by decide) ?_
        refine lv_isub hx hb zd_Terms_readClosings_48 ?_
        refine lv_topi (fun z7 ez7 => ?_)
        have hok := hok z7 ez7
        refine z_put (v := .int z7) hx hb hts hown hK hw zZ8 10 wX_g10 5 (by decide) zn_438 rfl rfl rfl (Nat.le_of_ble_eq_true rfl) zd_Terms_readClosings_49 (fun H locs hw => ?_)
        have hw := wX_sI26 hw
        refine lv_aload_n hx hb zd_Terms_readClosings_52 rfl (lv_at hl 0 rfl) ?_
        refine lv_dup hx hb zd_Terms_readClosings_53 rfl ?_
        refine z_get (v := .int (I6 28)) hx hb hts hown hK hw zZ8 10 wX_g10 8 (by decide) zn_436 rfl zd_Terms_readClosings_54 ?_
        refine lv_iconst (v := 1) hx hb zd_Terms_readClosings_57 (by decide) ?_
        refine lv_isub hx hb zd_Terms_readClosings_58 ?_
        refine lv_topi (fun z8 ez8 => ?_)
        have hok := hok z8 ez8
        refine z_put (v := .int z8) hx hb hts hown hK hw zZ8 10 wX_g10 8 (by decide) zn_436 rfl rfl rfl (Nat.le_of_ble_eq_true rfl) zd_Terms_readClosings_59 (fun H locs hw => ?_)
        have hw := wX_sI28 hw
        refine lv_aload_n hx hb zd_Terms_readClosings_62 rfl (lv_at hl 0 rfl) ?_
        refine lv_dup hx hb zd_Terms_readClosings_63 rfl ?_
        refine z_get (v := .int (I6 29)) hx hb hts hown hK hw zZ8 10 wX_g10 9 (by decide) zn_440 rfl zd_Terms_readClosings_64 ?_
        refine lv_iconst (v := 1) hx hb zd_Terms_readClosings_67 (by decide) ?_
        refine lv_ishr hx hb zd_Terms_readClosings_68 ?_
        refine lv_topi (fun z9 ez9 => ?_)
        have hok := hok z9 ez9
        refine z_put (v := .int z9) hx hb hts hown hK hw zZ8 10 wX_g10 9 (by decide) zn_440 rfl rfl rfl (Nat.le_of_ble_eq_true rfl) zd_Terms_readClosings_69 (fun H locs hw => ?_)
        have hw := wX_sI29 hw
        obtain ⟨z10, ez10⟩ : ∃ z : Int32, z = (x2 + 1) := ⟨_, rfl⟩
        have hok := hok z10 ez10
        refine lv_iinc (v := z10) hx hb zd_Terms_readClosings_72 hl (k := 2) rfl ez10.symm (by decide) rfl (fun ls hl => ?_)
        have hl : lv_has ls 3 [(2, .int z10), (0, .ref (ad 10)), (1, .int x1)] := hl
        refine lv_goto (tgt := 2) hx hb zd_Terms_readClosings_75 (by decide) ?_
        exact kh2 x1 z10 (upd (upd (upd I6 26 z7) 28 z8) 29 z9) J6 B6 D6 ls H locs hok (lv_sub hl [1, 2, 0] rfl) hw
theorem wL_Terms_readClosings_B_2 {p : Program} {l : Launch} {e : Env} {s : State} {m : MethodId} {below : List Frame} {meth : Method} {c : Code} {A : Nat → Prop} (G : va_G) (K : Nat → ClassId) (ad : Nat → Nat) (sv : Value) (a0 : Int32) (Post : (Nat → Int32) → (Nat → Int64) → (Nat → Nat → Int32) → (Nat → Nat → Int64) → Prop) (PX : String → (Nat → Int32) → (Nat → Int64) → (Nat → Nat → Int32) → (Nat → Nat → Int64) → Prop) (C : zCy p l s m ([.ref (ad 10), .int a0] : List Value).toArray meth c A G K prog_9_method_6_code none 3 "LassoFinder$Terms") : ∀ (n : Nat) (x1 : Int32) (x2 : Int32) (I : Nat → Int32) (J : Nat → Int64) (B : Nat → Nat → Int32) (D : Nat → Nat → Int64) (ls : Array Slot) (H : Heap) (locs : List Loc), wl_Terms_readClosings_B_2 a0 Post PX n x1 x2 I J B D → lv_has ls 3 [(0, .ref (ad 10)), (1, .int x1), (2, .int x2)] → zW G A s.heap (wX ad K sv I J B D) H locs → W p l e { frames := 1, cells := 1, slots := 6, locals := 23 } s m ([.ref (ad 10), .int a0] : List Value).toArray below meth c H locs 0 0 (zyMQ below (va_Qv (fun u : zS => Post u.1 u.2.1 u.2.2.1 u.2.2.2) (fun u t => zPost G K A (wX ad K sv u.1 u.2.1 u.2.2.1 u.2.2.2) t) A) (zYC (fun E (u : zS) => PX E u.1 u.2.1 u.2.2.1 u.2.2.2) (fun u => wX ad K sv u.1 u.2.1 u.2.2.1 u.2.2.2) G K A) ([.ref (ad 10), .int a0] : List Value).toArray s 1 6 A) (F0 m 2 ls []) := by
  intro n
  induction n with
  | zero => intro x1 x2 I J B D ls H locs hok; exact hok.elim
  | succ n ih => exact wB_Terms_readClosings_B_2 G K ad sv a0 Post PX C (wl_Terms_readClosings_B_2 a0 Post PX n) ih
set_option maxHeartbeats 8000000 in
set_option maxRecDepth 100000 in
theorem w_Terms_readClosings_B (l : Launch) (hlt : l.stackTraces = false) (G : va_G) (K : Nat → ClassId) (ad : Nat → Nat) (sv : Value) (I : Nat → Int32) (J : Nat → Int64) (B : Nat → Nat → Int32) (D : Nat → Nat → Int64) (a0 : Int32) (Post : (Nat → Int32) → (Nat → Int64) → (Nat → Nat → Int32) → (Nat → Nat → Int64) → Prop) (PX : String → (Nat → Int32) → (Nat → Int64) → (Nat → Nat → Int32) → (Nat → Nat → Int64) → Prop) (sz : Nat) (hok : wp_Terms_readClosings_B I J B D a0 Post PX) : zyMet l zy_Terms_readClosings (Cond.code zy_Terms_readClosings prog_9_method_6_code 3 none :: zTB) { frames := 1, cells := 1, slots := 6, locals := 23 } (va_Pc [.ref (ad 10), .int a0] (zPreY G K (wX ad K sv I J B D) sz)) (va_Qv (fun u : zS => Post u.1 u.2.1 u.2.2.1 u.2.2.2) (fun u t => zPost G K (va_A (wX ad K sv I J B D) sz) (wX ad K sv u.1 u.2.1 u.2.2.1 u.2.2.2) t) (va_A (wX ad K sv I J B D) sz)) (zYC (fun E (u : zS) => PX E u.1 u.2.1 u.2.2.1 u.2.2.2) (fun u => wX ad K sv u.1 u.2.1 u.2.2.1 u.2.2.2) G K (va_A (wX ad K sv I J B D) sz)) 1 6 (va_A (wX ad K sv I J B D) sz) := by
  refine zMetY (y := zy_Terms_readClosings) (av := [.ref (ad 10), .int a0]) (maxL := 3) (cc := prog_9_method_6_code) (ret := none) (W0 := (wX ad K sv I J B D)) (sz := sz) (G := G) (K := K) (wt := zTB) (mc := 1) (ms := 6) (Qf := fun A => va_Qv (fun u : zS => Post u.1 u.2.1 u.2.2.1 u.2.2.2) (fun u t => zPost G K A (wX ad K sv u.1 u.2.1 u.2.2.1 u.2.2.2) t) A) (Xf := fun A => (zYC (fun E (u : zS) => PX E u.1 u.2.1 u.2.2.1 u.2.2.2) (fun u => wX ad K sv u.1 u.2.1 u.2.2.1 u.2.2.2) G K A)) (by decide) (Nat.le_of_ble_eq_true rfl) ?_
  intro p e s m below meth c ls A hx hb hr hml hts hown hlocks hin hA hK H locs hw hsz hl hT hnt
  clear hsz
  have hown : s.vm.findClass "LassoFinder$Terms" = some m.cls := hown
  have C : zCy p l s m ([.ref (ad 10), .int a0] : List Value).toArray meth c A G K prog_9_method_6_code none 3 "LassoFinder$Terms" := ⟨hx, hb, hr, hml, hts, hown, hlocks, hA, hK, hT, hnt, hlt⟩
  have hl : lv_has ls 3 [(0, .ref (ad 10)), (1, .int a0)] := hl
  have hw : zW G A s.heap (wX ad K sv I J B D) H locs := hw
  unfold wp_Terms_readClosings_B at hok
  refine lv_iconst (v := 0) hx hb zd_Terms_readClosings_0 (by decide) ?_
  refine lv_istore_n hx hb zd_Terms_readClosings_1 rfl hl (by decide) rfl (fun ls hl => ?_)
  have hl : lv_has ls 3 [(2, .int 0), (0, .ref (ad 10)), (1, .int a0)] := hl
  obtain ⟨n9, hok⟩ := hok
  exact wL_Terms_readClosings_B_2 G K ad sv a0 Post PX C n9 a0 0 I J B D ls H locs hok (lv_sub hl [1, 2, 0] rfl) hw
def wc_Terms_readSign_B_47 (Post : Int32 → (Nat → Int32) → (Nat → Int64) → (Nat → Nat → Int32) → (Nat → Nat → Int64) → Prop) (PX : String → (Nat → Int32) → (Nat → Int64) → (Nat → Nat → Int32) → (Nat → Nat → Int64) → Prop)  (I : Nat → Int32) (J : Nat → Int64) (B : Nat → Nat → Int32) (D : Nat → Nat → Int64) : Prop :=
  Post 0 I J B D
def wc_Terms_readSign_B_80 (Post : Int32 → (Nat → Int32) → (Nat → Int64) → (Nat → Nat → Int32) → (Nat → Nat → Int64) → Prop) (PX : String → (Nat → Int32) → (Nat → Int64) → (Nat → Nat → Int32) → (Nat → Nat → Int64) → Prop)  (I : Nat → Int32) (J : Nat → Int64) (B : Nat → Nat → Int32) (D : Nat → Nat → Int64) : Prop :=
  Post 1 I J B D
def wc_Terms_readSign_B_49 (Post : Int32 → (Nat → Int32) → (Nat → Int64) → (Nat → Nat → Int32) → (Nat → Nat → Int64) → Prop) (PX : String → (Nat → Int32) → (Nat → Int64) → (Nat → Nat → Int32) → (Nat → Nat → Int64) → Prop) (x1 : Int32) (x2 : Int32) (I : Nat → Int32) (J : Nat → Int64) (B : Nat → Nat → Int32) (D : Nat → Nat → Int64) : Prop :=
  wp_Text_skip I J B D  (fun I1 J1 B1 D1 => wp_Terms_release_B I1 J1 B1 D1 x1 (fun I2 J2 B2 D2 => wp_Terms_putOff_B I2 J2 B2 D2 x1 (fun I3 J3 B3 D3 => ((x2 = 0 → wc_Terms_readSign_B_80  Post PX I3 J3 B3 D3) ∧ (¬ x2 = 0 → ∀ z5 : Int32, z5 = ((I3 29) ||| 1) → wc_Terms_readSign_B_80  Post PX (upd I3 29 z5) J3 B3 D3)))) PX)
def wc_Terms_readSign_B_28 (Post : Int32 → (Nat → Int32) → (Nat → Int64) → (Nat → Nat → Int32) → (Nat → Nat → Int64) → Prop) (PX : String → (Nat → Int32) → (Nat → Int64) → (Nat → Nat → Int32) → (Nat → Nat → Int64) → Prop) (x1 : Int32) (y0 : Int32) (I : Nat → Int32) (J : Nat → Int64) (B : Nat → Nat → Int32) (D : Nat → Nat → Int64) : Prop :=
  ((x1 = (-1) → wc_Terms_readSign_B_47  Post PX I J B D) ∧ (¬ x1 = (-1) → ((y0 = 0 → wc_Terms_readSign_B_49  Post PX x1 y0 I J B D) ∧ (¬ y0 = 0 → ∀ z8 : Int32, z8 = ((I 29) &&& 1) → ((z8 = 0 → wc_Terms_readSign_B_49  Post PX x1 y0 I J B D) ∧ (¬ z8 = 0 → wc_Terms_readSign_B_47  Post PX I J B D))))))
def wc_Terms_readSign_B_23 (Post : Int32 → (Nat → Int32) → (Nat → Int64) → (Nat → Nat → Int32) → (Nat → Nat → Int64) → Prop) (PX : String → (Nat → Int32) → (Nat → Int64) → (Nat → Nat → Int32) → (Nat → Nat → Int64) → Prop) (x1 : Int32) (I : Nat → Int32) (J : Nat → Int64) (B : Nat → Nat → Int32) (D : Nat → Nat → Int64) : Prop :=
  wc_Terms_readSign_B_28  Post PX x1 1 I J B D
def wp_Terms_readSign_B (I : Nat → Int32) (J : Nat → Int64) (B : Nat → Nat → Int32) (D : Nat → Nat → Int64) (Post : Int32 → (Nat → Int32) → (Nat → Int64) → (Nat → Nat → Int32) → (Nat → Nat → Int64) → Prop) (PX : String → (Nat → Int32) → (Nat → Int64) → (Nat → Nat → Int32) → (Nat → Nat → Int64) → Prop) : Prop :=
  wp_Text_ahead I J B D  (fun r10 I10 J10 B10 D10 => wp_Terms_signOf I10 J10 B10 D10 r10 (fun r11 I11 J11 B11 D11 => ((r11 = 16 → wc_Terms_readSign_B_23  Post PX r11 I11 J11 B11 D11) ∧ (¬ r11 = 16 → ((¬ r11 = 17 → wc_Terms_readSign_B_28  Post PX r11 0 I11 J11 B11 D11) ∧ (r11 = 17 → wc_Terms_readSign_B_23  Post PX r11 I11 J11 B11 D11))))))
set_option maxHeartbeats 8000000 in
set_option maxRecDepth 100000 in
theorem wJ_Terms_readSign_B_47 {p : Program} {l : Launch} {e : Env} {s : State} {m : MethodId} {below : List Frame} {meth : Method} {c : Code} {A : Nat → Prop} (G : va_G) (K : Nat → ClassId) (ad : Nat → Nat) (sv : Value) (Post : Int32 → (Nat → Int32) → (Nat → Int64) → (Nat → Nat → Int32) → (Nat → Nat → Int64) → Prop) (PX : String → (Nat → Int32) → (Nat → Int64) → (Nat → Nat → Int32) → (Nat → Nat → Int64) → Prop) (C : zCy p l s m ([.ref (ad 10)] : List Value).toArray meth c A G K prog_9_method_7_code (some .boolean) 3 "LassoFinder$Terms") : ∀  (I : Nat → Int32) (J : Nat → Int64) (B : Nat → Nat → Int32) (D : Nat → Nat → Int64) (ls : Array Slot) (H : Heap) (locs : List Loc), wc_Terms_readSign_B_47  Post PX  I J B D → lv_has ls 3 [] → zW G A s.heap (wX ad K sv I J B D) H locs → W p l e { frames := 1, cells := 1, slots := 6, locals := 23 } s m ([.ref (ad 10)] : List Value).toArray below meth c H locs 0 0 (zyMQ below (va_Qi (fun (r : Int32) (u : zS) => Post r u.1 u.2.1 u.2.2.1 u.2.2.2) (fun u t => zPost G K A (wX ad K sv u.1 u.2.1 u.2.2.1 u.2.2.2) t) A) (zYC (fun E (u : zS) => PX E u.1 u.2.1 u.2.2.1 u.2.2.2) (fun u => wX ad K sv u.1 u.2.1 u.2.2.1 u.2.2.2) G K A) ([.ref (ad 10)] : List Value).toArray s 1 6 A) (F0 m 47 ls []) := by
  obtain ⟨hx, hb, hr, hml, hts, hown, hlocks, hA, hK, hT, hnt, hlt⟩ := id C
  intro  I J B D ls H locs hok hl hw
  unfold wc_Terms_readSign_B_47 at hok
  refine lv_iconst (v := 0) hx hb zd_Terms_readSign_47 (by decide) ?_
  exact zy_ret (z_iret (u := (I, J, B, D)) hx hb hr hlocks rfl hw (List.range 65) wX_all wX_nd hok (Nat.le_of_ble_eq_true rfl) (Nat.le_of_ble_eq_true rfl) zd_Terms_readSign_48)
set_option maxHeartbeats 8000000 in
set_option maxRecDepth 100000 in
theorem wJ_Terms_readSign_B_80 {p : Program} {l : Launch} {e : Env} {s : State} {m : MethodId} {below : List Frame} {meth : Method} {c : Code} {A : Nat → Prop} (G : va_G) (K : Nat → ClassId) (ad : Nat → Nat) (sv : Value) (Post : Int32 → (Nat → Int32) → (Nat → Int64) → (Nat → Nat → Int32) → (Nat → Nat → Int64) → Prop) (PX : String → (Nat → Int32) → (Nat → Int64) → (Nat → Nat → Int32) → (Nat → Nat → Int64) → Prop) (C : zCy p l s m ([.ref (ad 10)] : List Value).toArray meth c A G K prog_9_method_7_code (some .boolean) 3 "LassoFinder$Terms") : ∀  (I : Nat → Int32) (J : Nat → Int64) (B : Nat → Nat → Int32) (D : Nat → Nat → Int64) (ls : Array Slot) (H : Heap) (locs : List Loc), wc_Terms_readSign_B_80  Post PX  I J B D → lv_has ls 3 [] → zW G A s.heap (wX ad K sv I J B D) H locs → W p l e { frames := 1, cells := 1, slots := 6, locals := 23 } s m ([.ref (ad 10)] : List Value).toArray below meth c H locs 0 0 (zyMQ below (va_Qi (fun (r : Int32) (u : zS) => Post r u.1 u.2.1 u.2.2.1 u.2.2.2) (fun u t => zPost G K A (wX ad K sv u.1 u.2.1 u.2.2.1 u.2.2.2) t) A) (zYC (fun E (u : zS) => PX E u.1 u.2.1 u.2.2.1 u.2.2.2) (fun u => wX ad K sv u.1 u.2.1 u.2.2.1 u.2.2.2) G K A) ([.ref (ad 10)] : List Value).toArray s 1 6 A) (F0 m 80 ls []) := by
  obtain ⟨hx, hb, hr, hml, hts, hown, hlocks, hA, hK, hT, hnt, hlt⟩ := id C
  intro  I J B D ls H locs hok hl hw
  unfold wc_Terms_readSign_B_80 at hok
  refine lv_iconst (v := 1) hx hb zd_Terms_readSign_80 (by decide) ?_
  exact zy_ret (z_iret (u := (I, J, B, D)) hx hb hr hlocks rfl hw (List.range 65) wX_all wX_nd hok (Nat.le_of_ble_eq_true rfl) (Nat.le_of_ble_eq_true rfl) zd_Terms_readSign_81)
set_option maxHeartbeats 8000000 in
set_option maxRecDepth 100000 in
theorem wJ_Terms_readSign_B_49 {p : Program} {l : Launch} {e : Env} {s : State} {m : MethodId} {below : List Frame} {meth : Method} {c : Code} {A : Nat → Prop} (G : va_G) (K : Nat → ClassId) (ad : Nat → Nat) (sv : Value) (Post : Int32 → (Nat → Int32) → (Nat → Int64) → (Nat → Nat → Int32) → (Nat → Nat → Int64) → Prop) (PX : String → (Nat → Int32) → (Nat → Int64) → (Nat → Nat → Int32) → (Nat → Nat → Int64) → Prop) (C : zCy p l s m ([.ref (ad 10)] : List Value).toArray meth c A G K prog_9_method_7_code (some .boolean) 3 "LassoFinder$Terms") : ∀ (x1 : Int32) (x2 : Int32) (I : Nat → Int32) (J : Nat → Int64) (B : Nat → Nat → Int32) (D : Nat → Nat → Int64) (ls : Array Slot) (H : Heap) (locs : List Loc), wc_Terms_readSign_B_49  Post PX x1 x2 I J B D → lv_has ls 3 [(0, .ref (ad 10)), (1, .int x1), (2, .int x2)] → zW G A s.heap (wX ad K sv I J B D) H locs → W p l e { frames := 1, cells := 1, slots := 6, locals := 23 } s m ([.ref (ad 10)] : List Value).toArray below meth c H locs 0 0 (zyMQ below (va_Qi (fun (r : Int32) (u : zS) => Post r u.1 u.2.1 u.2.2.1 u.2.2.2) (fun u t => zPost G K A (wX ad K sv u.1 u.2.1 u.2.2.1 u.2.2.2) t) A) (zYC (fun E (u : zS) => PX E u.1 u.2.1 u.2.2.1 u.2.2.2) (fun u => wX ad K sv u.1 u.2.1 u.2.2.1 u.2.2.2) G K A) ([.ref (ad 10)] : List Value).toArray s 1 6 A) (F0 m 49 ls []) := by
  obtain ⟨hx, hb, hr, hml, hts, hown, hlocks, hA, hK, hT, hnt, hlt⟩ := id C
  intro x1 x2 I J B D ls H locs hok hl hw
  unfold wc_Terms_readSign_B_49 at hok
  refine lv_aload_n hx hb zd_Terms_readSign_49 rfl (lv_at hl 0 rfl) ?_
  refine z_get (v := .ref (ad 1)) hx hb hts hown hK hw zZ8 10 wX_g10 0 (by decide) zn_437 rfl zd_Terms_readSign_50 ?_
  refine z_callv (w1 := fun (u : zS) => wX ad K sv u.1 u.2.1 u.2.2.1 u.2.2.2) (wr := []) (z_runV (q0 := 1) (wc := (wX ad K sv I J B D)) (As := []) (rest := []) ⟨hx, hb, hml, hown, hts⟩ (w_Text_skip l G K ad sv I J B D  _ H.size hok) zf_Text_skip zn_366 ⟨Nat.le_of_ble_eq_true rfl, Nat.le_of_ble_eq_true rfl⟩ hK hw (List.range 65) wX_all wX_nd wX_g1 rfl rfl hl.1 rfl (Nat.le_of_ble_eq_true rfl) zd_Terms_readSign_53 ⟨Nat.le_of_ble_eq_true rfl, Nat.le_of_ble_eq_true rfl⟩) hw hA (List.range 65) [] wX_all rfl (by decide) (fun i hi => by cases hi) (fun u H locs hok hw => ?_)
  obtain ⟨I1, J1, B1, D1⟩ := u
  dsimp only at hok
  have hw : zW G A s.heap (wX ad K sv I1 J1 B1 D1) H locs := hw
  refine lv_aload_n hx hb zd_Terms_readSign_56 rfl (lv_at hl 0 rfl) ?_
  refine lv_iload_n hx hb zd_Terms_readSign_57 rfl (lv_at hl 1 rfl) ?_
  refine z_yV (q0 := 10) (wc := (wX ad K sv I1 J1 B1 D1)) (wr := []) (w1 := fun (u : zS) => wX ad K sv u.1 u.2.1 u.2.2.1 u.2.2.2) (As := [.int x1]) (rest := []) ⟨hx, hb, hml, hown, hts⟩ (w_Terms_release_B l hlt G K ad sv I1 J1 B1 D1 x1 _ _ H.size hok) zf_Terms_release zn_372 ⟨Nat.le_of_ble_eq_true rfl, Nat.le_of_ble_eq_true rfl⟩ hK hT hw hA (List.range 65) [] wX_all rfl wX_nd (by decide) (fun i hi => by cases hi) wX_g10 rfl rfl hl.1 rfl (Nat.le_of_ble_eq_true rfl) zd_Terms_readSign_58 ⟨Nat.le_of_ble_eq_true rfl, Nat.le_of_ble_eq_true rfl⟩ (fun v st9 t9 L9 h0 hq hL => ?_) (fun E ce q9 u H locs hu hw hce hcv hcl => z_yout (u := u) hnt hlocks hce hcv hcl hw (List.range 65) wX_all wX_nd hu (Nat.le_of_ble_eq_true rfl) (Nat.le_of_ble_eq_true rfl))
  obtain ⟨⟨u, hv9, hok, hB9⟩, hF9⟩ := hq
  cases hv9
  have hw := z_back (wr := []) hw hA (List.range 65) [] wX_all rfl (by decide) (fun i hi => by cases hi) h0 hL hB9 hF9
  obtain ⟨I2, J2, B2, D2⟩ := u
  dsimp only at hok
  generalize t9.heap = H at hw ⊢
  generalize locs ++ L9 = locs at hw ⊢
  have hw : zW G A s.heap (wX ad K sv I2 J2 B2 D2) H locs := hw
  refine W.eq (g2 := F0 m 61 ls []) rfl ?_
  refine lv_aload_n hx hb zd_Terms_readSign_61 rfl (lv_at hl 0 rfl) ?_
  refine lv_iload_n hx hb zd_Terms_readSign_62 rfl (lv_at hl 1 rfl) ?_
  refine z_callv (w1 := fun (u : zS) => wX ad K sv u.1 u.2.1 u.2.2.1 u.2.2.2) (wr := []) (z_runV (q0 := 10) (wc := (wX ad K sv I2 J2 B2 D2)) (As := [.int x1]) (rest := []) ⟨hx, hb, hml, hown, hts⟩ (w_Terms_putOff_B l G K ad sv I2 J2 B2 D2 x1 _ H.size hok) zf_Terms_putOff zn_367 ⟨Nat.le_of_ble_eq_true rfl, Nat.le_of_ble_eq_true rfl⟩ hK hw (List.range 65) wX_all wX_nd wX_g10 rfl rfl hl.1 rfl (Nat.le_of_ble_eq_true rfl) zd_Terms_readSign_63 ⟨Nat.le_of_ble_eq_true rfl, Nat.le_of_ble_eq_true rfl⟩) hw hA (List.range 65) [] wX_all rfl (by decide) (fun i hi => by cases hi) (fun u H locs hok hw => ?_)
  obtain ⟨I3, J3, B3, D3⟩ := u
  dsimp only at hok
  have hw : zW G A s.heap (wX ad K sv I3 J3 B3 D3) H locs := hw
  refine lv_iload_n hx hb zd_Terms_readSign_66 rfl (lv_at hl 2 rfl) ?_
  refine lv_if_eq (tgt := 80) hx hb zd_Terms_readSign_67 (by decide) (fun hc4 => ?_) (fun hc4 => ?_)
  · have hok := hok.1 hc4
    exact wJ_Terms_readSign_B_80 G K ad sv  Post PX C I3 J3 B3 D3 ls H locs hok (lv_sub hl [] rfl) hw
  · have hok := hok.2 hc4
    refine lv_aload_n hx hb zd_Terms_readSign_70 rfl (lv_at hl 0 rfl) ?_
    refine lv_dup hx hb zd_Terms_readSign_71 rfl ?_
    refine z_get (v := .int (I3 29)) hx hb hts hown hK hw zZ8 10 wX_g10 9 (by decide) zn_440 rfl zd_Terms_readSign_72 ?_
    refine lv_iconst (v := 1) hx hb zd_Terms_readSign_75 (by decide) ?_
    refine lv_ior hx hb zd_Terms_readSign_76 ?_
    refine lv_topi (fun z5 ez5 => ?_)
    have hok := hok z5 ez5
    refine z_put (v := .int z5) hx hb hts hown hK hw zZ8 10 wX_g10 9 (by decide) zn_440 rfl rfl rfl (Nat.le_of_ble_eq_true rfl) zd_Terms_readSign_77 (fun H locs hw => ?_)
    have hw := wX_sI29 hw
    exact wJ_Terms_readSign_B_80 G K ad sv  Post PX C (upd I3 29 z5) J3 B3 D3 ls H locs hok (lv_sub hl [] rfl) hw
set_option maxHeartbeats 8000000 in
set_option maxRecDepth 100000 in
theorem wJ_Terms_readSign_B_28 {p : Program} {l : Launch} {e : Env} {s : State} {m : MethodId} {below : List Frame} {meth : Method} {c : Code} {A : Nat → Prop} (G : va_G) (K : Nat → ClassId) (ad : Nat → Nat) (sv : Value) (Post : Int32 → (Nat → Int32) → (Nat → Int64) → (Nat → Nat → Int32) → (Nat → Nat → Int64) → Prop) (PX : String → (Nat → Int32) → (Nat → Int64) → (Nat → Nat → Int32) → (Nat → Nat → Int64) → Prop) (C : zCy p l s m ([.ref (ad 10)] : List Value).toArray meth c A G K prog_9_method_7_code (some .boolean) 3 "LassoFinder$Terms") : ∀ (x1 : Int32) (y0 : Int32) (I : Nat → Int32) (J : Nat → Int64) (B : Nat → Nat → Int32) (D : Nat → Nat → Int64) (ls : Array Slot) (H : Heap) (locs : List Loc), wc_Terms_readSign_B_28  Post PX x1 y0 I J B D → lv_has ls 3 [(0, .ref (ad 10)), (1, .int x1)] → zW G A s.heap (wX ad K sv I J B D) H locs → W p l e { frames := 1, cells := 1, slots := 6, locals := 23 } s m ([.ref (ad 10)] : List Value).toArray below meth c H locs 0 0 (zyMQ below (va_Qi (fun (r : Int32) (u : zS) => Post r u.1 u.2.1 u.2.2.1 u.2.2.2) (fun u t => zPost G K A (wX ad K sv u.1 u.2.1 u.2.2.1 u.2.2.2) t) A) (zYC (fun E (u : zS) => PX E u.1 u.2.1 u.2.2.1 u.2.2.2) (fun u => wX ad K sv u.1 u.2.1 u.2.2.1 u.2.2.2) G K A) ([.ref (ad 10)] : List Value).toArray s 1 6 A) (F0 m 28 ls [.int y0]) := by
  obtain ⟨hx, hb, hr, hml, hts, hown, hlocks, hA, hK, hT, hnt, hlt⟩ := id C
  intro x1 y0 I J B D ls H locs hok hl hw
  unfold wc_Terms_readSign_B_28 at hok
  refine lv_istore_n hx hb zd_Terms_readSign_28 rfl hl (by decide) rfl (fun ls hl => ?_)
  have hl : lv_has ls 3 [(2, .int y0), (0, .ref (ad 10)), (1, .int x1)] := hl
  refine lv_iload_n hx hb zd_Terms_readSign_29 rfl (lv_at hl 2 rfl) ?_
  refine lv_iconst (v := (-1)) hx hb zd_Terms_readSign_30 (by decide) ?_
  refine lv_icmp_eq (tgt := 47) hx hb zd_Terms_readSign_31 (by decide) (fun hc6 => ?_) (fun hc6 => ?_)
  · have hok := hok.1 hc6
    exact wJ_Terms_readSign_B_47 G K ad sv  Post PX C I J B D ls H locs hok (lv_sub hl [] rfl) hw
  · have hok := hok.2 hc6
    refine lv_iload_n hx hb zd_Terms_readSign_34 rfl (lv_at hl 0 rfl) ?_
    refine lv_if_eq (tgt := 49) hx hb zd_Terms_readSign_35 (by decide) (fun hc7 => ?_) (fun hc7 => ?_)
    · have hok := hok.1 hc7
      exact wJ_Terms_readSign_B_49 G K ad sv  Post PX C x1 y0 I J B D ls H locs hok (lv_sub hl [1, 2, 0] rfl) hw
    · have hok := hok.2 hc7
      refine lv_aload_n hx hb zd_Terms_readSign_38 rfl (lv_at hl 1 rfl) ?_
      refine z_get (v := .int (I 29)) hx hb hts hown hK hw zZ8 10 wX_g10 9 (by decide) zn_440 rfl zd_Terms_readSign_39 ?_
      refine lv_iconst (v := 1) hx hb zd_Terms_readSign_42 (by decide) ?_
      refine lv_iand hx hb zd_Terms_readSign_43 ?_
      refine lv_topi (fun z8 ez8 => ?_)
      have hok := hok z8 ez8
      refine lv_if_eq (tgt := 49) hx hb zd_Terms_readSign_44 (by decide) (fun hc9 => ?_) (fun hc9 => ?_)
      · have hok := hok.1 hc9
        exact wJ_Terms_readSign_B_49 G K ad sv  Post PX C x1 y0 I J B D ls H locs hok (lv_sub hl [1, 2, 0] rfl) hw
      · have hok := hok.2 hc9
        exact wJ_Terms_readSign_B_47 G K ad sv  Post PX C I J B D ls H locs hok (lv_sub hl [] rfl) hw
set_option maxHeartbeats 8000000 in
set_option maxRecDepth 100000 in
theorem wJ_Terms_readSign_B_23 {p : Program} {l : Launch} {e : Env} {s : State} {m : MethodId} {below : List Frame} {meth : Method} {c : Code} {A : Nat → Prop} (G : va_G) (K : Nat → ClassId) (ad : Nat → Nat) (sv : Value) (Post : Int32 → (Nat → Int32) → (Nat → Int64) → (Nat → Nat → Int32) → (Nat → Nat → Int64) → Prop) (PX : String → (Nat → Int32) → (Nat → Int64) → (Nat → Nat → Int32) → (Nat → Nat → Int64) → Prop) (C : zCy p l s m ([.ref (ad 10)] : List Value).toArray meth c A G K prog_9_method_7_code (some .boolean) 3 "LassoFinder$Terms") : ∀ (x1 : Int32) (I : Nat → Int32) (J : Nat → Int64) (B : Nat → Nat → Int32) (D : Nat → Nat → Int64) (ls : Array Slot) (H : Heap) (locs : List Loc), wc_Terms_readSign_B_23  Post PX x1 I J B D → lv_has ls 3 [(0, .ref (ad 10)), (1, .int x1)] → zW G A s.heap (wX ad K sv I J B D) H locs → W p l e { frames := 1, cells := 1, slots := 6, locals := 23 } s m ([.ref (ad 10)] : List Value).toArray below meth c H locs 0 0 (zyMQ below (va_Qi (fun (r : Int32) (u : zS) => Post r u.1 u.2.1 u.2.2.1 u.2.2.2) (fun u t => zPost G K A (wX ad K sv u.1 u.2.1 u.2.2.1 u.2.2.2) t) A) (zYC (fun E (u : zS) => PX E u.1 u.2.1 u.2.2.1 u.2.2.2) (fun u => wX ad K sv u.1 u.2.1 u.2.2.1 u.2.2.2) G K A) ([.ref (ad 10)] : List Value).toArray s 1 6 A) (F0 m 23 ls []) := by
  obtain ⟨hx, hb, hr, hml, hts, hown, hlocks, hA, hK, hT, hnt, hlt⟩ := id C
  intro x1 I J B D ls H locs hok hl hw
  unfold wc_Terms_readSign_B_23 at hok
  refine lv_iconst (v := 1) hx hb zd_Terms_readSign_23 (by decide) ?_
  refine lv_goto (tgt := 28) hx hb zd_Terms_readSign_24 (by decide) ?_
  exact wJ_Terms_readSign_B_28 G K ad sv  Post PX C x1 1 I J B D ls H locs hok (lv_sub hl [0, 1] rfl) hw
set_option maxHeartbeats 8000000 in
set_option maxRecDepth 100000 in
theorem w_Terms_readSign_B (l : Launch) (hlt : l.stackTraces = false) (G : va_G) (K : Nat → ClassId) (ad : Nat → Nat) (sv : Value) (I : Nat → Int32) (J : Nat → Int64) (B : Nat → Nat → Int32) (D : Nat → Nat → Int64) (Post : Int32 → (Nat → Int32) → (Nat → Int64) → (Nat → Nat → Int32) → (Nat → Nat → Int64) → Prop) (PX : String → (Nat → Int32) → (Nat → Int64) → (Nat → Nat → Int32) → (Nat → Nat → Int64) → Prop) (sz : Nat) (hok : wp_Terms_readSign_B I J B D  Post PX) : zyMet l zy_Terms_readSign (Cond.code zy_Terms_readSign prog_9_method_7_code 3 (some .boolean) :: zTB) { frames := 1, cells := 1, slots := 6, locals := 23 } (va_Pc [.ref (ad 10)] (zPreY G K (wX ad K sv I J B D) sz)) (va_Qi (fun (r : Int32) (u : zS) => Post r u.1 u.2.1 u.2.2.1 u.2.2.2) (fun u t => zPost G K (va_A (wX ad K sv I J B D) sz) (wX ad K sv u.1 u.2.1 u.2.2.1 u.2.2.2) t) (va_A (wX ad K sv I J B D) sz)) (zYC (fun E (u : zS) => PX E u.1 u.2.1 u.2.2.1 u.2.2.2) (fun u => wX ad K sv u.1 u.2.1 u.2.2.1 u.2.2.2) G K (va_A (wX ad K sv I J B D) sz)) 1 6 (va_A (wX ad K sv I J B D) sz) := by
  refine zMetY (y := zy_Terms_readSign) (av := [.ref (ad 10)]) (maxL := 3) (cc := prog_9_method_7_code) (ret := (some .boolean)) (W0 := (wX ad K sv I J B D)) (sz := sz) (G := G) (K := K) (wt := zTB) (mc := 1) (ms := 6) (Qf := fun A => va_Qi (fun (r : Int32) (u : zS) => Post r u.1 u.2.1 u.2.2.1 u.2.2.2) (fun u t => zPost G K A (wX ad K sv u.1 u.2.1 u.2.2.1 u.2.2.2) t) A) (Xf := fun A => (zYC (fun E (u : zS) => PX E u.1 u.2.1 u.2.2.1 u.2.2.2) (fun u => wX ad K sv u.1 u.2.1 u.2.2.1 u.2.2.2) G K A)) (by decide) (Nat.le_of_ble_eq_true rfl) ?_
  intro p e s m below meth c ls A hx hb hr hml hts hown hlocks hin hA hK H locs hw hsz hl hT hnt
  clear hsz
  have hown : s.vm.findClass "LassoFinder$Terms" = some m.cls := hown
  have C : zCy p l s m ([.ref (ad 10)] : List Value).toArray meth c A G K prog_9_method_7_code (some .boolean) 3 "LassoFinder$Terms" := ⟨hx, hb, hr, hml, hts, hown, hlocks, hA, hK, hT, hnt, hlt⟩
  have hl : lv_has ls 3 [(0, .ref (ad 10))] := hl
  have hw : zW G A s.heap (wX ad K sv I J B D) H locs := hw
  unfold wp_Terms_readSign_B at hok
  refine lv_aload_n hx hb zd_Terms_readSign_0 rfl (lv_at hl 0 rfl) ?_
  refine z_get (v := .ref (ad 1)) hx hb hts hown hK hw zZ8 10 wX_g10 0 (by decide) zn_437 rfl zd_Terms_readSign_1 ?_
  refine z_calli (w1 := fun (u : zS) => wX ad K sv u.1 u.2.1 u.2.2.1 u.2.2.2) (wr := []) (z_runV (q0 := 1) (wc := (wX ad K sv I J B D)) (As := []) (rest := []) ⟨hx, hb, hml, hown, hts⟩ (w_Text_ahead l G K ad sv I J B D  _ H.size hok) zf_Text_ahead zn_364 ⟨Nat.le_of_ble_eq_true rfl, Nat.le_of_ble_eq_true rfl⟩ hK hw (List.range 65) wX_all wX_nd wX_g1 rfl rfl hl.1 rfl (Nat.le_of_ble_eq_true rfl) zd_Terms_readSign_4 ⟨Nat.le_of_ble_eq_true rfl, Nat.le_of_ble_eq_true rfl⟩) hw hA (List.range 65) [] wX_all rfl (by decide) (fun i hi => by cases hi) (fun r10 u H locs hok hw => ?_)
  obtain ⟨I10, J10, B10, D10⟩ := u
  dsimp only at hok
  have hw : zW G A s.heap (wX ad K sv I10 J10 B10 D10) H locs := hw
  refine z_calli (w1 := fun (u : zS) => wX ad K sv u.1 u.2.1 u.2.2.1 u.2.2.2) (wr := []) (z_runS (wc := (wX ad K sv I10 J10 B10 D10)) (As := [.int r10]) (rest := []) ⟨hx, hb, hml, hown, hts⟩ (w_Terms_signOf l G K ad sv I10 J10 B10 D10 r10 _ H.size hok) zf_Terms_signOf zn_374 ⟨Nat.le_of_ble_eq_true rfl, Nat.le_of_ble_eq_true rfl⟩ hK hw (List.range 65) wX_all wX_nd rfl hl.1 rfl (Nat.le_of_ble_eq_true rfl) zd_Terms_readSign_7 ⟨Nat.le_of_ble_eq_true rfl, Nat.le_of_ble_eq_true rfl⟩) hw hA (List.range 65) [] wX_all rfl (by decide) (fun i hi => by cases hi) (fun r11 u H locs hok hw => ?_)
  obtain ⟨I11, J11, B11, D11⟩ := u
  dsimp only at hok
  have hw : zW G A s.heap (wX ad K sv I11 J11 B11 D11) H locs := hw
  refine lv_istore_n hx hb zd_Terms_readSign_10 rfl hl (by decide) rfl (fun ls hl => ?_)
  have hl : lv_has ls 3 [(1, .int r11), (0, .ref (ad 10))] := hl
  refine lv_iload_n hx hb zd_Terms_readSign_11 rfl (lv_at hl 0 rfl) ?_
  refine lv_bipush (v := 16) hx hb zd_Terms_readSign_12 (by decide) ?_
  refine lv_icmp_eq (tgt := 23) hx hb zd_Terms_readSign_14 (by decide) (fun hc12 => ?_) (fun hc12 => ?_)
  · have hok := hok.1 hc12
    exact wJ_Terms_readSign_B_23 G K ad sv  Post PX C r11 I11 J11 B11 D11 ls H locs hok (lv_sub hl [1, 0] rfl) hw
  · have hok := hok.2 hc12
    refine lv_iload_n hx hb zd_Terms_readSign_17 rfl (lv_at hl 0 rfl) ?_
    refine lv_bipush (v := 17) hx hb zd_Terms_readSign_18 (by decide) ?_
    refine lv_icmp_ne (tgt := 27) hx hb zd_Terms_readSign_20 (by decide) (fun hc13 => ?_) (fun hc13 => ?_)
    · have hok := hok.1 hc13
      refine lv_iconst (v := 0) hx hb zd_Terms_readSign_27 (by decide) ?_
      exact wJ_Terms_readSign_B_28 G K ad sv  Post PX C r11 0 I11 J11 B11 D11 ls H locs hok (lv_sub hl [1, 0] rfl) hw
    · have hok := hok.2 hc13
      exact wJ_Terms_readSign_B_23 G K ad sv  Post PX C r11 I11 J11 B11 D11 ls H locs hok (lv_sub hl [1, 0] rfl) hw
def wc_Terms_read_B_81 (a0 : Int32) (Post : Int32 → (Nat → Int32) → (Nat → Int64) → (Nat → Nat → Int32) → (Nat → Nat → Int64) → Prop) (PX : String → (Nat → Int32) → (Nat → Int64) → (Nat → Nat → Int32) → (Nat → Nat → Int64) → Prop) (x2 : Int32) (I : Nat → Int32) (J : Nat → Int64) (B : Nat → Nat → Int32) (D : Nat → Nat → Int64) : Prop :=
  wp_Terms_release_B I J B D 16 (fun I1 J1 B1 D1 => wp_Terms_add_B I1 J1 B1 D1 22 (fun I2 J2 B2 D2 => Post x2 I2 J2 B2 D2)) PX
def wc_Terms_read_B_66 (a0 : Int32) (Post : Int32 → (Nat → Int32) → (Nat → Int64) → (Nat → Nat → Int32) → (Nat → Nat → Int64) → Prop) (PX : String → (Nat → Int32) → (Nat → Int64) → (Nat → Nat → Int32) → (Nat → Nat → Int64) → Prop) (x1 : Int32) (x2 : Int32) (I : Nat → Int32) (J : Nat → Int64) (B : Nat → Nat → Int32) (D : Nat → Nat → Int64) : Prop :=
  (((I 28) ≤ x1 → wc_Terms_read_B_81 a0 Post PX x2 I J B D) ∧ (¬ (I 28) ≤ x1 → wp_Text_refuse I J B D  (fun I4 J4 B4 D4 => wc_Terms_read_B_81 a0 Post PX x2 I4 J4 B4 D4) PX))
def wb_Terms_read_B_30 (a0 : Int32) (K30 : Int32 → Int32 → Int32 → Int32 → (Nat → Int32) → (Nat → Int64) → (Nat → Nat → Int32) → (Nat → Nat → Int64) → Prop) (Post : Int32 → (Nat → Int32) → (Nat → Int64) → (Nat → Nat → Int32) → (Nat → Nat → Int64) → Prop) (PX : String → (Nat → Int32) → (Nat → Int64) → (Nat → Nat → Int32) → (Nat → Nat → Int64) → Prop) (x1 : Int32) (x2 : Int32) (x3 : Int32) (x4 : Int32) (I : Nat → Int32) (J : Nat → Int64) (B : Nat → Nat → Int32) (D : Nat → Nat → Int64) : Prop :=
  (((240 : Int32) ≤ x4 → wc_Terms_read_B_66 a0 Post PX x1 x2 I J B D) ∧ (¬ (240 : Int32) ≤ x4 → ((x3 = 0 → wc_Terms_read_B_66 a0 Post PX x1 x2 I J B D) ∧ (¬ x3 = 0 → wp_Terms_readOpenings_B I J B D  (fun I7 J7 B7 D7 => wp_Terms_readPart_B I7 J7 B7 D7  (fun I8 J8 B8 D8 => wp_Terms_readClosings_B I8 J8 B8 D8 x1 (fun I9 J9 B9 D9 => wp_Terms_readSign_B I9 J9 B9 D9  (fun r10 I10 J10 B10 D10 => ∀ z11 : Int32, z11 = (x4 + 1) → K30 x1 x2 r10 z11 I10 J10 B10 D10) PX) PX) PX) PX))))
def wl_Terms_read_B_30 (a0 : Int32) (Post : Int32 → (Nat → Int32) → (Nat → Int64) → (Nat → Nat → Int32) → (Nat → Nat → Int64) → Prop) (PX : String → (Nat → Int32) → (Nat → Int64) → (Nat → Nat → Int32) → (Nat → Nat → Int64) → Prop) (n : Nat) : Int32 → Int32 → Int32 → Int32 → (Nat → Int32) → (Nat → Int64) → (Nat → Nat → Int32) → (Nat → Nat → Int64) → Prop := Nat.rec (fun _ _ _ _ _ _ _ _ => False) (fun _ r => wb_Terms_read_B_30 a0 r Post PX) n
def wp_Terms_read_B (I : Nat → Int32) (J : Nat → Int64) (B : Nat → Nat → Int32) (D : Nat → Nat → Int64) (a0 : Int32) (Post : Int32 → (Nat → Int32) → (Nat → Int64) → (Nat → Nat → Int32) → (Nat → Nat → Int64) → Prop) (PX : String → (Nat → Int32) → (Nat → Int64) → (Nat → Nat → Int32) → (Nat → Nat → Int64) → Prop) : Prop :=
  ∃ n : Nat, wl_Terms_read_B_30 a0 Post PX n a0 (I 25) 1 0 (upd (upd (upd (upd I 26 0) 27 0) 28 a0) 29 0) J B D
set_option maxHeartbeats 8000000 in
set_option maxRecDepth 100000 in
theorem wJ_Terms_read_B_81 {p : Program} {l : Launch} {e : Env} {s : State} {m : MethodId} {below : List Frame} {meth : Method} {c : Code} {A : Nat → Prop} (G : va_G) (K : Nat → ClassId) (ad : Nat → Nat) (sv : Value) (a0 : Int32) (Post : Int32 → (Nat → Int32) → (Nat → Int64) → (Nat → Nat → Int32) → (Nat → Nat → Int64) → Prop) (PX : String → (Nat → Int32) → (Nat → Int64) → (Nat → Nat → Int32) → (Nat → Nat → Int64) → Prop) (C : zCy p l s m ([.ref (ad 10), .int a0] : List Value).toArray meth c A G K prog_9_method_3_code (some .int) 5 "LassoFinder$Terms") : ∀ (x2 : Int32) (I : Nat → Int32) (J : Nat → Int64) (B : Nat → Nat → Int32) (D : Nat → Nat → Int64) (ls : Array Slot) (H : Heap) (locs : List Loc), wc_Terms_read_B_81 a0 Post PX x2 I J B D → lv_has ls 5 [(0, .ref (ad 10)), (2, .int x2)] → zW G A s.heap (wX ad K sv I J B D) H locs → W p l e { frames := 8, cells := 1, slots := 6, locals := 123 } s m ([.ref (ad 10), .int a0] : List Value).toArray below meth c H locs 0 0 (zyMQ below (va_Qi (fun (r : Int32) (u : zS) => Post r u.1 u.2.1 u.2.2.1 u.2.2.2) (fun u t => zPost G K A (wX ad K sv u.1 u.2.1 u.2.2.1 u.2.2.2) t) A) (zYC (fun E (u : zS) => PX E u.1 u.2.1 u.2.2.1 u.2.2.2) (fun u => wX ad K sv u.1 u.2.1 u.2.2.1 u.2.2.2) G K A) ([.ref (ad 10), .int a0] : List Value).toArray s 1 6 A) (F0 m 81 ls []) := by
  obtain ⟨hx, hb, hr, hml, hts, hown, hlocks, hA, hK, hT, hnt, hlt⟩ := id C
  intro x2 I J B D ls H locs hok hl hw
  unfold wc_Terms_read_B_81 at hok
  refine lv_aload_n hx hb zd_Terms_read_81 rfl (lv_at hl 0 rfl) ?_
  refine lv_bipush (v := 16) hx hb zd_Terms_read_82 (by decide) ?_
  refine z_yV (q0 := 10) (wc := (wX ad K sv I J B D)) (wr := []) (w1 := fun (u : zS) => wX ad K sv u.1 u.2.1 u.2.2.1 u.2.2.2) (As := [.int 16]) (rest := []) ⟨hx, hb, hml, hown, hts⟩ (w_Terms_release_B l hlt G K ad sv I J B D 16 _ _ H.size hok) zf_Terms_release zn_372 ⟨Nat.le_of_ble_eq_true rfl, Nat.le_of_ble_eq_true rfl⟩ hK hT hw hA (List.range 65) [] wX_all rfl wX_nd (by decide) (fun i hi => by cases hi) wX_g10 rfl rfl hl.1 rfl (Nat.le_of_ble_eq_true rfl) zd_Terms_read_84 ⟨Nat.le_of_ble_eq_true rfl, Nat.le_of_ble_eq_true rfl⟩ (fun v st9 t9 L9 h0 hq hL => ?_) (fun E ce q9 u H locs hu hw hce hcv hcl => z_yout (u := u) hnt hlocks hce hcv hcl hw (List.range 65) wX_all wX_nd hu (Nat.le_of_ble_eq_true rfl) (Nat.le_of_ble_eq_true rfl))
  obtain ⟨⟨u, hv9, hok, hB9⟩, hF9⟩ := hq
  cases hv9
  have hw := z_back (wr := []) hw hA (List.range 65) [] wX_all rfl (by decide) (fun i hi => by cases hi) h0 hL hB9 hF9
  obtain ⟨I1, J1, B1, D1⟩ := u
  dsimp only at hok
  generalize t9.heap = H at hw ⊢
  generalize locs ++ L9 = locs at hw ⊢
  have hw : zW G A s.heap (wX ad K sv I1 J1 B1 D1) H locs := hw
  refine W.eq (g2 := F0 m 87 ls []) rfl ?_
  refine lv_aload_n hx hb zd_Terms_read_87 rfl (lv_at hl 0 rfl) ?_
  refine lv_bipush (v := 22) hx hb zd_Terms_read_88 (by decide) ?_
  refine z_callv (w1 := fun (u : zS) => wX ad K sv u.1 u.2.1 u.2.2.1 u.2.2.2) (wr := []) (z_runV (q0 := 10) (wc := (wX ad K sv I1 J1 B1 D1)) (As := [.int 22]) (rest := []) ⟨hx, hb, hml, hown, hts⟩ (w_Terms_add_B l G K ad sv I1 J1 B1 D1 22 _ H.size hok) zf_Terms_add zn_370 ⟨Nat.le_of_ble_eq_true rfl, Nat.le_of_ble_eq_true rfl⟩ hK hw (List.range 65) wX_all wX_nd wX_g10 rfl rfl hl.1 rfl (Nat.le_of_ble_eq_true rfl) zd_Terms_read_90 ⟨Nat.le_of_ble_eq_true rfl, Nat.le_of_ble_eq_true rfl⟩) hw hA (List.range 65) [] wX_all rfl (by decide) (fun i hi => by cases hi) (fun u H locs hok hw => ?_)
  obtain ⟨I2, J2, B2, D2⟩ := u
  dsimp only at hok
  have hw : zW G A s.heap (wX ad K sv I2 J2 B2 D2) H locs := hw
  refine lv_iload_n hx hb zd_Terms_read_93 rfl (lv_at hl 1 rfl) ?_
  exact zy_ret (z_iret (u := (I2, J2, B2, D2)) hx hb hr hlocks rfl hw (List.range 65) wX_all wX_nd hok (Nat.le_of_ble_eq_true rfl) (Nat.le_of_ble_eq_true rfl) zd_Terms_read_94)
set_option maxHeartbeats 8000000 in
set_option maxRecDepth 100000 in
theorem wJ_Terms_read_B_66 {p : Program} {l : Launch} {e : Env} {s : State} {m : MethodId} {below : List Frame} {meth : Method} {c : Code} {A : Nat → Prop} (G : va_G) (K : Nat → ClassId) (ad : Nat → Nat) (sv : Value) (a0 : Int32) (Post : Int32 → (Nat → Int32) → (Nat → Int64) → (Nat → Nat → Int32) → (Nat → Nat → Int64) → Prop) (PX : String → (Nat → Int32) → (Nat → Int64) → (Nat → Nat → Int32) → (Nat → Nat → Int64) → Prop) (C : zCy p l s m ([.ref (ad 10), .int a0] : List Value).toArray meth c A G K prog_9_method_3_code (some .int) 5 "LassoFinder$Terms") : ∀ (x1 : Int32) (x2 : Int32) (I : Nat → Int32) (J : Nat → Int64) (B : Nat → Nat → Int32) (D : Nat → Nat → Int64) (ls : Array Slot) (H : Heap) (locs : List Loc), wc_Terms_read_B_66 a0 Post PX x1 x2 I J B D → lv_has ls 5 [(0, .ref (ad 10)), (1, .int x1), (2, .int x2)] → zW G A s.heap (wX ad K sv I J B D) H locs → W p l e { frames := 8, cells := 1, slots := 6, locals := 123 } s m ([.ref (ad 10), .int a0] : List Value).toArray below meth c H locs 0 0 (zyMQ below (va_Qi (fun (r : Int32) (u : zS) => Post r u.1 u.2.1 u.2.2.1 u.2.2.2) (fun u t => zPost G K A (wX ad K sv u.1 u.2.1 u.2.2.1 u.2.2.2) t) A) (zYC (fun E (u : zS) => PX E u.1 u.2.1 u.2.2.1 u.2.2.2) (fun u => wX ad K sv u.1 u.2.1 u.2.2.1 u.2.2.2) G K A) ([.ref (ad 10), .int a0] : List Value).toArray s 1 6 A) (F0 m 66 ls []) := by
  obtain ⟨hx, hb, hr, hml, hts, hown, hlocks, hA, hK, hT, hnt, hlt⟩ := id C
  intro x1 x2 I J B D ls H locs hok hl hw
  unfold wc_Terms_read_B_66 at hok
  refine lv_aload_n hx hb zd_Terms_read_66 rfl (lv_at hl 0 rfl) ?_
  refine z_get (v := .int (I 28)) hx hb hts hown hK hw zZ8 10 wX_g10 8 (by decide) zn_436 rfl zd_Terms_read_67 ?_
  refine lv_iload_n hx hb zd_Terms_read_70 rfl (lv_at hl 1 rfl) ?_
  refine lv_icmp_le (tgt := 81) hx hb zd_Terms_read_71 (by decide) (fun hc3 => ?_) (fun hc3 => ?_)
  · have hok := hok.1 hc3
    exact wJ_Terms_read_B_81 G K ad sv a0 Post PX C x2 I J B D ls H locs hok (lv_sub hl [0, 2] rfl) hw
  · have hok := hok.2 hc3
    refine lv_aload_n hx hb zd_Terms_read_74 rfl (lv_at hl 0 rfl) ?_
    refine z_get (v := .ref (ad 1)) hx hb hts hown hK hw zZ8 10 wX_g10 0 (by decide) zn_437 rfl zd_Terms_read_75 ?_
    refine z_yV (q0 := 1) (wc := (wX ad K sv I J B D)) (wr := []) (w1 := fun (u : zS) => wX ad K sv u.1 u.2.1 u.2.2.1 u.2.2.2) (As := []) (rest := []) ⟨hx, hb, hml, hown, hts⟩ (w_Text_refuse l hlt G K ad sv I J B D  _ _ H.size hok) zf_Text_refuse zn_365 ⟨Nat.le_of_ble_eq_true rfl, Nat.le_of_ble_eq_true rfl⟩ hK hT hw hA (List.range 65) [] wX_all rfl wX_nd (by decide) (fun i hi => by cases hi) wX_g1 rfl rfl hl.1 rfl (Nat.le_of_ble_eq_true rfl) zd_Terms_read_78 ⟨Nat.le_of_ble_eq_true rfl, Nat.le_of_ble_eq_true rfl⟩ (fun v st9 t9 L9 h0 hq hL => ?_) (fun E ce q9 u H locs hu hw hce hcv hcl => z_yout (u := u) hnt hlocks hce hcv hcl hw (List.range 65) wX_all wX_nd hu (Nat.le_of_ble_eq_true rfl) (Nat.le_of_ble_eq_true rfl))
    obtain ⟨⟨u, hv9, hok, hB9⟩, hF9⟩ := hq
    cases hv9
    have hw := z_back (wr := []) hw hA (List.range 65) [] wX_all rfl (by decide) (fun i hi => by cases hi) h0 hL hB9 hF9
    obtain ⟨I4, J4, B4, D4⟩ := u
    dsimp only at hok
    generalize t9.heap = H at hw ⊢
    generalize locs ++ L9 = locs at hw ⊢
    have hw : zW G A s.heap (wX ad K sv I4 J4 B4 D4) H locs := hw
    refine W.eq (g2 := F0 m 81 ls []) rfl ?_
    exact wJ_Terms_read_B_81 G K ad sv a0 Post PX C x2 I4 J4 B4 D4 ls H locs hok (lv_sub hl [0, 2] rfl) hw
set_option maxHeartbeats 8000000 in
set_option maxRecDepth 100000 in
theorem wB_Terms_read_B_30 {p : Program} {l : Launch} {e : Env} {s : State} {m : MethodId} {below : List Frame} {meth : Method} {c : Code} {A : Nat → Prop} (G : va_G) (K : Nat → ClassId) (ad : Nat → Nat) (sv : Value) (a0 : Int32) (Post : Int32 → (Nat → Int32) → (Nat → Int64) → (Nat → Nat → Int32) → (Nat → Nat → Int64) → Prop) (PX : String → (Nat → Int32) → (Nat → Int64) → (Nat → Nat → Int32) → (Nat → Nat → Int64) → Prop) (C : zCy p l s m ([.ref (ad 10), .int a0] : List Value).toArray meth c A G K prog_9_method_3_code (some .int) 5 "LassoFinder$Terms") (K30 : Int32 → Int32 → Int32 → Int32 → (Nat → Int32) → (Nat → Int64) → (Nat → Nat → Int32) → (Nat → Nat → Int64) → Prop) (kh30 : ∀ (x1 : Int32) (x2 : Int32) (x3 : Int32) (x4 : Int32) (I : Nat → Int32) (J : Nat → Int64) (B : Nat → Nat → Int32) (D : Nat → Nat → Int64) (ls : Array Slot) (H : Heap) (locs : List Loc), K30 x1 x2 x3 x4 I J B D → lv_has ls 5 [(0, .ref (ad 10)), (1, .int x1), (2, .int x2), (3, .int x3), (4, .int x4)] → zW G A s.heap (wX ad K sv I J B D) H locs → W p l e { frames := 8, cells := 1, slots := 6, locals := 123 } s m ([.ref (ad 10), .int a0] : List Value).toArray below meth c H locs 0 0 (zyMQ below (va_Qi (fun (r : Int32) (u : zS) => Post r u.1 u.2.1 u.2.2.1 u.2.2.2) (fun u t => zPost G K A (wX ad K sv u.1 u.2.1 u.2.2.1 u.2.2.2) t) A) (zYC (fun E (u : zS) => PX E u.1 u.2.1 u.2.2.1 u.2.2.2) (fun u => wX ad K sv u.1 u.2.1 u.2.2.1 u.2.2.2) G K A) ([.ref (ad 10), .int a0] : List Value).toArray s 1 6 A) (F0 m 30 ls [])) : ∀ (x1 : Int32) (x2 : Int32) (x3 : Int32) (x4 : Int32) (I : Nat → Int32) (J : Nat → Int64) (B : Nat → Nat → Int32) (D : Nat → Nat → Int64) (ls : Array Slot) (H : Heap) (locs : List Loc), wb_Terms_read_B_30 a0 K30 Post PX x1 x2 x3 x4 I J B D → lv_has ls 5 [(0, .ref (ad 10)), (1, .int x1), (2, .int x2), (3, .int x3), (4, .int x4)] → zW G A s.heap (wX ad K sv I J B D) H locs → W p l e { frames := 8, cells := 1, slots := 6, locals := 123 } s m ([.ref (ad 10), .int a0] : List Value).toArray below meth c H locs 0 0 (zyMQ below (va_Qi (fun (r : Int32) (u : zS) => Post r u.1 u.2.1 u.2.2.1 u.2.2.2) (fun u t => zPost G K A (wX ad K sv u.1 u.2.1 u.2.2.1 u.2.2.2) t) A) (zYC (fun E (u : zS) => PX E u.1 u.2.1 u.2.2.1 u.2.2.2) (fun u => wX ad K sv u.1 u.2.1 u.2.2.1 u.2.2.2) G K A) ([.ref (ad 10), .int a0] : List Value).toArray s 1 6 A) (F0 m 30 ls []) := by
  obtain ⟨hx, hb, hr, hml, hts, hown, hlocks, hA, hK, hT, hnt, hlt⟩ := id C
  intro x1 x2 x3 x4 I J B D ls H locs hok hl hw
  unfold wb_Terms_read_B_30 at hok
  refine lv_iload hx hb zd_Terms_read_30 (lv_at hl 4 rfl) ?_
  refine lv_sipush (v := 240) hx hb zd_Terms_read_32 (by decide) ?_
  refine lv_icmp_ge (tgt := 66) hx hb zd_Terms_read_35 (by decide) (fun hc5 => ?_) (fun hc5 => ?_)
  · have hok := hok.1 hc5
    exact wJ_Terms_read_B_66 G K ad sv a0 Post PX C x1 x2 I J B D ls H locs hok (lv_sub hl [0, 1, 2] rfl) hw
  · have hok := hok.2 hc5
    refine lv_iload_n hx hb zd_Terms_read_38 rfl (lv_at hl 3 rfl) ?_
    refine lv_if_eq (tgt := 66) hx hb zd_Terms_read_39 (by decide) (fun hc6 => ?_) (fun hc6 => ?_)
    · have hok := hok.1 hc6
      exact wJ_Terms_read_B_66 G K ad sv a0 Post PX C x1 x2 I J B D ls H locs hok (lv_sub hl [0, 1, 2] rfl) hw
    · have hok := hok.2 hc6
      refine lv_aload_n hx hb zd_Terms_read_42 rfl (lv_at hl 0 rfl) ?_
      refine z_yV (q0 := 10) (wc := (wX ad K sv I J B D)) (wr := []) (w1 := fun (u : zS) => wX ad K sv u.1 u.2.1 u.2.2.1 u.2.2.2) (As := []) (rest := []) ⟨hx, hb, hml, hown, hts⟩ (w_Terms_readOpenings_B l hlt G K ad sv I J B D  _ _ H.size hok) zf_Terms_readOpenings zn_363 ⟨Nat.le_of_ble_eq_true rfl, Nat.le_of_ble_eq_true rfl⟩ hK hT hw hA (List.range 65) [] wX_all rfl wX_nd (by decide) (fun i hi => by cases hi) wX_g10 rfl rfl hl.1 rfl (Nat.le_of_ble_eq_true rfl) zd_Terms_read_43 ⟨Nat.le_of_ble_eq_true rfl, Nat.le_of_ble_eq_true rfl⟩ (fun v st9 t9 L9 h0 hq hL => ?_) (fun E ce q9 u H locs hu hw hce hcv hcl => z_yout (u := u) hnt hlocks hce hcv hcl hw (List.range 65) wX_all wX_nd hu (Nat.le_of_ble_eq_true rfl) (Nat.le_of_ble_eq_true rfl))
      obtain ⟨⟨u, hv9, hok, hB9⟩, hF9⟩ := hq
      cases hv9
      have hw := z_back (wr := []) hw hA (List.range 65) [] wX_all rfl (by decide) (fun i hi => by cases hi) h0 hL hB9 hF9
      obtain ⟨I7, J7, B7, D7⟩ := u
      dsimp only at hok
      generalize t9.heap = H at hw ⊢
      generalize locs ++ L9 = locs at hw ⊢
      have hw : zW G A s.heap (wX ad K sv I7 J7 B7 D7) H locs := hw
      refine W.eq (g2 := F0 m 46 ls []) rfl ?_
      refine lv_aload_n hx hb zd_Terms_read_46 rfl (lv_at hl 0 rfl) ?_
      refine z_yV (q0 := 10) (wc := (wX ad K sv I7 J7 B7 D7)) (wr := []) (w1 := fun (u : zS) => wX ad K sv u.1 u.2.1 u.2.2.1 u.2.2.2) (As := []) (rest := []) ⟨hx, hb, hml, hown, hts⟩ (w_Terms_readPart_B l hlt G K ad sv I7 J7 B7 D7  _ _ H.size hok) zf_Terms_readPart zn_368 ⟨Nat.le_of_ble_eq_true rfl, Nat.le_of_ble_eq_true rfl⟩ hK hT hw hA (List.range 65) [] wX_all rfl wX_nd (by decide) (fun i hi => by cases hi) wX_g10 rfl rfl hl.1 rfl (Nat.le_of_ble_eq_true rfl) zd_Terms_read_47 ⟨Nat.le_of_ble_eq_true rfl, Nat.le_of_ble_eq_true rfl⟩ (fun v st9 t9 L9 h0 hq hL => ?_) (fun E ce q9 u H locs hu hw hce hcv hcl => z_yout (u := u) hnt hlocks hce hcv hcl hw (List.range 65) wX_all wX_nd hu (Nat.le_of_ble_eq_true rfl) (Nat.le_of_ble_eq_true rfl))
      obtain ⟨⟨u, hv9, hok, hB9⟩, hF9⟩ := hq
      cases hv9
      have hw := z_back (wr := []) hw hA (List.range 65) [] wX_all rfl (by decide) (fun i hi => by cases hi) h0 hL hB9 hF9
      obtain ⟨I8, J8, B8, D8⟩ := u
      dsimp only at hok
      generalize t9.heap = H at hw ⊢
      generalize locs ++ L9 = locs at hw ⊢
      have hw : zW G A s.heap (wX ad K sv I8 J8 B8 D8) H locs := hw
      refine W.eq (g2 := F0 m 50 ls []) rfl ?_
      refine lv_aload_n hx hb zd_Terms_read_50 rfl (lv_at hl 0 rfl) ?_
      refine lv_iload_n hx hb zd_Terms_read_51 rfl (lv_at hl 1 rfl) ?_
      refine z_yV (q0 := 10) (wc := (wX ad K sv I8 J8 B8 D8)) (wr := []) (w1 := fun (u : zS) => wX ad K sv u.1 u.2.1 u.2.2.1 u.2.2.2) (As := [.int x1]) (rest := []) ⟨hx, hb, hml, hown, hts⟩ (w_Terms_readClosings_B l hlt G K ad sv I8 J8 B8 D8 x1 _ _ H.size hok) zf_Terms_readClosings zn_371 ⟨Nat.le_of_ble_eq_true rfl, Nat.le_of_ble_eq_true rfl⟩ hK hT hw hA (List.range 65) [] wX_all rfl wX_nd (by decide) (fun i hi => by cases hi) wX_g10 rfl rfl hl.1 rfl (Nat.le_of_ble_eq_true rfl) zd_Terms_read_52 ⟨Nat.le_of_ble_eq_true rfl, Nat.le_of_ble_eq_true rfl⟩ (fun v st9 t9 L9 h0 hq hL => ?_) (fun E ce q9 u H locs hu hw hce hcv hcl => z_yout (u := u) hnt hlocks hce hcv hcl hw (List.range 65) wX_all wX_nd hu (Nat.le_of_ble_eq_true rfl) (Nat.le_of_ble_eq_true rfl))
      obtain ⟨⟨u, hv9, hok, hB9⟩, hF9⟩ := hq
      cases hv9
      have hw := z_back (wr := []) hw hA (List.range 65) [] wX_all rfl (by decide) (fun i hi => by cases hi) h0 hL hB9 hF9
      obtain ⟨I9, J9, B9, D9⟩ := u
      dsimp only at hok
      generalize t9.heap = H at hw ⊢
      generalize locs ++ L9 = locs at hw ⊢
      have hw : zW G A s.heap (wX ad K sv I9 J9 B9 D9) H locs := hw
      refine W.eq (g2 := F0 m 55 ls []) rfl ?_
      refine lv_aload_n hx hb zd_Terms_read_55 rfl (lv_at hl 0 rfl) ?_
      refine z_yV (q0 := 10) (wc := (wX ad K sv I9 J9 B9 D9)) (wr := []) (w1 := fun (u : zS) => wX ad K sv u.1 u.2.1 u.2.2.1 u.2.2.2) (As := []) (rest := []) ⟨hx, hb, hml, hown, hts⟩ (w_Terms_readSign_B l hlt G K ad sv I9 J9 B9 D9  _ _ H.size hok) zf_Terms_readSign zn_373 ⟨Nat.le_of_ble_eq_true rfl, Nat.le_of_ble_eq_true rfl⟩ hK hT hw hA (List.range 65) [] wX_all rfl wX_nd (by decide) (fun i hi => by cases hi) wX_g10 rfl rfl hl.1 rfl (Nat.le_of_ble_eq_true rfl) zd_Terms_read_56 ⟨Nat.le_of_ble_eq_true rfl, Nat.le_of_ble_eq_true rfl⟩ (fun v st9 t9 L9 h0 hq hL => ?_) (fun E ce q9 u H locs hu hw hce hcv hcl => z_yout (u := u) hnt hlocks hce hcv hcl hw (List.range 65) wX_all wX_nd hu (Nat.le_of_ble_eq_true rfl) (Nat.le_of_ble_eq_true rfl))
      obtain ⟨⟨r10, u, hv9, hok, hB9⟩, hF9⟩ := hq
      cases hv9
      have hw := z_back (wr := []) hw hA (List.range 65) [] wX_all rfl (by decide) (fun i hi => by cases hi) h0 hL hB9 hF9
      obtain ⟨I10, J10, B10, D10⟩ := u
      dsimp only at hok
      generalize t9.heap = H at hw ⊢
      generalize locs ++ L9 = locs at hw ⊢
      have hw : zW G A s.heap (wX ad K sv I10 J10 B10 D10) H locs := hw
      refine W.eq (g2 := F0 m 59 ls [.int r10]) rfl ?_
      refine lv_istore_n hx hb zd_Terms_read_59 rfl hl (by decide) rfl (fun ls hl => ?_)
      have hl : lv_has ls 5 [(3, .int r10), (0, .ref (ad 10)), (1, .int x1), (2, .int x2), (4, .int x4)] := hl
      obtain ⟨z11, ez11⟩ : ∃ z : Int32, z = (x4 + 1) := ⟨_, rfl⟩
      have hok := hok z11 ez11
      refine lv_iinc (v := z11) hx hb zd_Terms_read_60 hl (k := 4) rfl ez11.symm (by decide) rfl (fun ls hl => ?_)
      have hl : lv_has ls 5 [(4, .int z11), (3, .int r10), (0, .ref (ad 10)), (1, .int x1), (2, .int x2)] := hl
      refine lv_goto (tgt := 30) hx hb zd_Terms_read_63 (by decide) ?_
      exact kh30 x1 x2 r10 z11 I10 J10 B10 D10 ls H locs hok (lv_sub hl [2, 3, 4, 1, 0] rfl) hw
theorem wL_Terms_read_B_30 {p : Program} {l : Launch} {e : Env} {s : State} {m : MethodId} {below : List Frame} {meth : Method} {c : Code} {A : Nat → Prop} (G : va_G) (K : Nat → ClassId) (ad : Nat → Nat) (sv : Value) (a0 : Int32) (Post : Int32 → (Nat → Int32) → (Nat → Int64) → (Nat → Nat → Int32) → (Nat → Nat → Int64) → Prop) (PX : String → (Nat → Int32) → (Nat → Int64) → (Nat → Nat → Int32) → (Nat → Nat → Int64) → Prop) (C : zCy p l s m ([.ref (ad 10), .int a0] : List Value).toArray meth c A G K prog_9_method_3_code (some .int) 5 "LassoFinder$Terms") : ∀ (n : Nat) (x1 : Int32) (x2 : Int32) (x3 : Int32) (x4 : Int32) (I : Nat → Int32) (J : Nat → Int64) (B : Nat → Nat → Int32) (D : Nat → Nat → Int64) (ls : Array Slot) (H : Heap) (locs : List Loc), wl_Terms_read_B_30 a0 Post PX n x1 x2 x3 x4 I J B D → lv_has ls 5 [(0, .ref (ad 10)), (1, .int x1), (2, .int x2), (3, .int x3), (4, .int x4)] → zW G A s.heap (wX ad K sv I J B D) H locs → W p l e { frames := 8, cells := 1, slots := 6, locals := 123 } s m ([.ref (ad 10), .int a0] : List Value).toArray below meth c H locs 0 0 (zyMQ below (va_Qi (fun (r : Int32) (u : zS) => Post r u.1 u.2.1 u.2.2.1 u.2.2.2) (fun u t => zPost G K A (wX ad K sv u.1 u.2.1 u.2.2.1 u.2.2.2) t) A) (zYC (fun E (u : zS) => PX E u.1 u.2.1 u.2.2.1 u.2.2.2) (fun u => wX ad K sv u.1 u.2.1 u.2.2.1 u.2.2.2) G K A) ([.ref (ad 10), .int a0] : List Value).toArray s 1 6 A) (F0 m 30 ls []) := by
  intro n
  induction n with
  | zero => intro x1 x2 x3 x4 I J B D ls H locs hok; exact hok.elim
  | succ n ih => exact wB_Terms_read_B_30 G K ad sv a0 Post PX C (wl_Terms_read_B_30 a0 Post PX n) ih
set_option maxHeartbeats 8000000 in
set_option maxRecDepth 100000 in
theorem w_Terms_read_B (l : Launch) (hlt : l.stackTraces = false) (G : va_G) (K : Nat → ClassId) (ad : Nat → Nat) (sv : Value) (I : Nat → Int32) (J : Nat → Int64) (B : Nat → Nat → Int32) (D : Nat → Nat → Int64) (a0 : Int32) (Post : Int32 → (Nat → Int32) → (Nat → Int64) → (Nat → Nat → Int32) → (Nat → Nat → Int64) → Prop) (PX : String → (Nat → Int32) → (Nat → Int64) → (Nat → Nat → Int32) → (Nat → Nat → Int64) → Prop) (sz : Nat) (hok : wp_Terms_read_B I J B D a0 Post PX) : zyMet l zy_Terms_read (Cond.code zy_Terms_read prog_9_method_3_code 5 (some .int) :: zTB) { frames := 8, cells := 1, slots := 6, locals := 123 } (va_Pc [.ref (ad 10), .int a0] (zPreY G K (wX ad K sv I J B D) sz)) (va_Qi (fun (r : Int32) (u : zS) => Post r u.1 u.2.1 u.2.2.1 u.2.2.2) (fun u t => zPost G K (va_A (wX ad K sv I J B D) sz) (wX ad K sv u.1 u.2.1 u.2.2.1 u.2.2.2) t) (va_A (wX ad K sv I J B D) sz)) (zYC (fun E (u : zS) => PX E u.1 u.2.1 u.2.2.1 u.2.2.2) (fun u => wX ad K sv u.1 u.2.1 u.2.2.1 u.2.2.2) G K (va_A (wX ad K sv I J B D) sz)) 1 6 (va_A (wX ad K sv I J B D) sz) := by
  refine zMetY (y := zy_Terms_read) (av := [.ref (ad 10), .int a0]) (maxL := 5) (cc := prog_9_method_3_code) (ret := (some .int)) (W0 := (wX ad K sv I J B D)) (sz := sz) (G := G) (K := K) (wt := zTB) (mc := 1) (ms := 6) (Qf := fun A => va_Qi (fun (r : Int32) (u : zS) => Post r u.1 u.2.1 u.2.2.1 u.2.2.2) (fun u t => zPost G K A (wX ad K sv u.1 u.2.1 u.2.2.1 u.2.2.2) t) A) (Xf := fun A => (zYC (fun E (u : zS) => PX E u.1 u.2.1 u.2.2.1 u.2.2.2) (fun u => wX ad K sv u.1 u.2.1 u.2.2.1 u.2.2.2) G K A)) (by decide) (Nat.le_of_ble_eq_true rfl) ?_
  intro p e s m below meth c ls A hx hb hr hml hts hown hlocks hin hA hK H locs hw hsz hl hT hnt
  clear hsz
  have hown : s.vm.findClass "LassoFinder$Terms" = some m.cls := hown
  have C : zCy p l s m ([.ref (ad 10), .int a0] : List Value).toArray meth c A G K prog_9_method_3_code (some .int) 5 "LassoFinder$Terms" := ⟨hx, hb, hr, hml, hts, hown, hlocks, hA, hK, hT, hnt, hlt⟩
  have hl : lv_has ls 5 [(0, .ref (ad 10)), (1, .int a0)] := hl
  have hw : zW G A s.heap (wX ad K sv I J B D) H locs := hw
  unfold wp_Terms_read_B at hok
  refine lv_aload_n hx hb zd_Terms_read_0 rfl (lv_at hl 0 rfl) ?_
  refine z_get (v := .int (I 25)) hx hb hts hown hK hw zZ8 10 wX_g10 3 (by decide) zn_435 rfl zd_Terms_read_1 ?_
  refine lv_istore_n hx hb zd_Terms_read_4 rfl hl (by decide) rfl (fun ls hl => ?_)
  have hl : lv_has ls 5 [(2, .int (I 25)), (0, .ref (ad 10)), (1, .int a0)] := hl
  refine lv_aload_n hx hb zd_Terms_read_5 rfl (lv_at hl 1 rfl) ?_
  refine lv_iconst (v := 0) hx hb zd_Terms_read_6 (by decide) ?_
  refine z_put (v := .int 0) hx hb hts hown hK hw zZ8 10 wX_g10 5 (by decide) zn_438 rfl rfl rfl (Nat.le_of_ble_eq_true rfl) zd_Terms_read_7 (fun H locs hw => ?_)
  have hw := wX_sI26 hw
  refine lv_aload_n hx hb zd_Terms_read_10 rfl (lv_at hl 1 rfl) ?_
  refine lv_iconst (v := 0) hx hb zd_Terms_read_11 (by decide) ?_
  refine z_put (v := .int 0) hx hb hts hown hK hw zZ8 10 wX_g10 7 (by decide) zn_441 rfl rfl rfl (Nat.le_of_ble_eq_true rfl) zd_Terms_read_12 (fun H locs hw => ?_)
  have hw := wX_sI27 hw
  refine lv_aload_n hx hb zd_Terms_read_15 rfl (lv_at hl 1 rfl) ?_
  refine lv_iload_n hx hb zd_Terms_read_16 rfl (lv_at hl 2 rfl) ?_
  refine z_put (v := .int a0) hx hb hts hown hK hw zZ8 10 wX_g10 8 (by decide) zn_436 rfl rfl rfl (Nat.le_of_ble_eq_true rfl) zd_Terms_read_17 (fun H locs hw => ?_)
  have hw := wX_sI28 hw
  refine lv_aload_n hx hb zd_Terms_read_20 rfl (lv_at hl 1 rfl) ?_
  refine lv_iconst (v := 0) hx hb zd_Terms_read_21 (by decide) ?_
  refine z_put (v := .int 0) hx hb hts hown hK hw zZ8 10 wX_g10 9 (by decide) zn_440 rfl rfl rfl (Nat.le_of_ble_eq_true rfl) zd_Terms_read_22 (fun H locs hw => ?_)
  have hw := wX_sI29 hw
  refine lv_iconst (v := 1) hx hb zd_Terms_read_25 (by decide) ?_
  refine lv_istore_n hx hb zd_Terms_read_26 rfl hl (by decide) rfl (fun ls hl => ?_)
  have hl : lv_has ls 5 [(3, .int 1), (2, .int (I 25)), (0, .ref (ad 10)), (1, .int a0)] := hl
  refine lv_iconst (v := 0) hx hb zd_Terms_read_27 (by decide) ?_
  refine lv_istore hx hb zd_Terms_read_28 hl (by decide) rfl (fun ls hl => ?_)
  have hl : lv_has ls 5 [(4, .int 0), (3, .int 1), (2, .int (I 25)), (0, .ref (ad 10)), (1, .int a0)] := hl
  obtain ⟨n9, hok⟩ := hok
  exact wL_Terms_read_B_30 G K ad sv a0 Post PX C n9 a0 (I 25) 1 0 (upd (upd (upd (upd I 26 0) 27 0) 28 a0) 29 0) J B D ls H locs hok (lv_sub hl [3, 4, 2, 1, 0] rfl) hw
def wp_Text_refuseAt (I : Nat → Int32) (J : Nat → Int64) (B : Nat → Nat → Int32) (D : Nat → Nat → Int64) (a0 : Int32) (Post : (Nat → Int32) → (Nat → Int64) → (Nat → Nat → Int32) → (Nat → Nat → Int64) → Prop) (PX : String → (Nat → Int32) → (Nat → Int64) → (Nat → Nat → Int32) → (Nat → Nat → Int64) → Prop) : Prop :=
  PX "java/lang/IllegalArgumentException" (upd I 6 a0) J B D
set_option maxHeartbeats 8000000 in
set_option maxRecDepth 100000 in
theorem w_Text_refuseAt (l : Launch) (hlt : l.stackTraces = false) (G : va_G) (K : Nat → ClassId) (ad : Nat → Nat) (sv : Value) (I : Nat → Int32) (J : Nat → Int64) (B : Nat → Nat → Int32) (D : Nat → Nat → Int64) (a0 : Int32) (Post : (Nat → Int32) → (Nat → Int64) → (Nat → Nat → Int32) → (Nat → Nat → Int64) → Prop) (PX : String → (Nat → Int32) → (Nat → Int64) → (Nat → Nat → Int32) → (Nat → Nat → Int64) → Prop) (sz : Nat) (hok : wp_Text_refuseAt I J B D a0 Post PX) : zyMet l zy_Text_refuseAt (Cond.code zy_Text_refuseAt prog_10_method_12_code 2 none :: zTB) { frames := 6, cells := 1, slots := 6, locals := 81 } (va_Pc [.ref (ad 1), .int a0] (zPreY G K (wX ad K sv I J B D) sz)) (va_Qv (fun u : zS => Post u.1 u.2.1 u.2.2.1 u.2.2.2) (fun u t => zPost G K (va_A (wX ad K sv I J B D) sz) (wX ad K sv u.1 u.2.1 u.2.2.1 u.2.2.2) t) (va_A (wX ad K sv I J B D) sz)) (zYC (fun E (u : zS) => PX E u.1 u.2.1 u.2.2.1 u.2.2.2) (fun u => wX ad K sv u.1 u.2.1 u.2.2.1 u.2.2.2) G K (va_A (wX ad K sv I J B D) sz)) 1 6 (va_A (wX ad K sv I J B D) sz) := by
  refine zMetY (y := zy_Text_refuseAt) (av := [.ref (ad 1), .int a0]) (maxL := 2) (cc := prog_10_method_12_code) (ret := none) (W0 := (wX ad K sv I J B D)) (sz := sz) (G := G) (K := K) (wt := zTB) (mc := 1) (ms := 6) (Qf := fun A => va_Qv (fun u : zS => Post u.1 u.2.1 u.2.2.1 u.2.2.2) (fun u t => zPost G K A (wX ad K sv u.1 u.2.1 u.2.2.1 u.2.2.2) t) A) (Xf := fun A => (zYC (fun E (u : zS) => PX E u.1 u.2.1 u.2.2.1 u.2.2.2) (fun u => wX ad K sv u.1 u.2.1 u.2.2.1 u.2.2.2) G K A)) (by decide) (Nat.le_of_ble_eq_true rfl) ?_
  intro p e s m below meth c ls A hx hb hr hml hts hown hlocks hin hA hK H locs hw hsz hl hT hnt
  clear hsz
  have hown : s.vm.findClass "LassoFinder$Text" = some m.cls := hown
  have C : zCy p l s m ([.ref (ad 1), .int a0] : List Value).toArray meth c A G K prog_10_method_12_code none 2 "LassoFinder$Text" := ⟨hx, hb, hr, hml, hts, hown, hlocks, hA, hK, hT, hnt, hlt⟩
  have hl : lv_has ls 2 [(0, .ref (ad 1)), (1, .int a0)] := hl
  have hw : zW G A s.heap (wX ad K sv I J B D) H locs := hw
  unfold wp_Text_refuseAt at hok
  refine lv_aload_n hx hb zd_Text_refuseAt_0 rfl (lv_at hl 0 rfl) ?_
  refine lv_iload_n hx hb zd_Text_refuseAt_1 rfl (lv_at hl 1 rfl) ?_
  refine z_put (v := .int a0) hx hb hts hown hK hw zZ9 1 wX_g1 4 (by decide) zn_418 rfl rfl rfl (Nat.le_of_ble_eq_true rfl) zd_Text_refuseAt_2 (fun H locs hw => ?_)
  have hw := wX_sI6 hw
  exact z_ythrow (u := ((upd I 6 a0), J, B, D)) (names := ["java/lang/RuntimeException", "java/lang/Exception"]) hx hb hlt hts hown hnt hlocks hT (by rw [hml]; exact hl.1) (by decide +kernel) (by decide +kernel) zn_429 zn_430 zn_431 zx_0 hw (List.range 65) wX_all wX_nd hok zd_Text_refuseAt_5 zd_Text_refuseAt_8 zd_Text_refuseAt_9 zd_Text_refuseAt_12 (Nat.le_of_ble_eq_true rfl) (Nat.le_of_ble_eq_true rfl) (Nat.le_of_ble_eq_true rfl) (Nat.le_of_ble_eq_true rfl) (Nat.le_of_ble_eq_true rfl) (Nat.le_of_ble_eq_true rfl)
def wc_Tree_behind_63 (a0 : Int32) (Post : Int32 → (Nat → Int32) → (Nat → Int64) → (Nat → Nat → Int32) → (Nat → Nat → Int64) → Prop)  (I : Nat → Int32) (J : Nat → Int64) (B : Nat → Nat → Int32) (D : Nat → Nat → Int64) : Prop :=
  Post (-2) I J B D
def wc_Tree_behind_57 (a0 : Int32) (K4 : Int32 → Int32 → (Nat → Int32) → (Nat → Int64) → (Nat → Nat → Int32) → (Nat → Nat → Int64) → Prop) (Post : Int32 → (Nat → Int32) → (Nat → Int64) → (Nat → Nat → Int32) → (Nat → Nat → Int64) → Prop) (x2 : Int32) (x3 : Int32) (I : Nat → Int32) (J : Nat → Int64) (B : Nat → Nat → Int32) (D : Nat → Nat → Int64) : Prop :=
  ∀ z1 : Int32, z1 = (x3 + 1) → K4 x2 z1 I J B D
def wb_Tree_behind_4 (a0 : Int32) (K4 : Int32 → Int32 → (Nat → Int32) → (Nat → Int64) → (Nat → Nat → Int32) → (Nat → Nat → Int64) → Prop) (Post : Int32 → (Nat → Int32) → (Nat → Int64) → (Nat → Nat → Int32) → (Nat → Nat → Int64) → Prop) (x2 : Int32) (x3 : Int32) (I : Nat → Int32) (J : Nat → Int64) (B : Nat → Nat → Int32) (D : Nat → Nat → Int64) : Prop :=
  (((240 : Int32) ≤ x3 → wc_Tree_behind_63 a0 Post I J B D) ∧ (¬ (240 : Int32) ≤ x3 → ((x2 = (-1) → wc_Tree_behind_63 a0 Post I J B D) ∧ (¬ x2 = (-1) → vp_in x2 240 ∧ ∀ z4 : Int32, z4 = ((B 23) x2.toNatClampNeg) → ((z4 = (-1) → vp_in x2 240 ∧ ∀ z6 : Int32, z6 = ((B 19) x2.toNatClampNeg) → ((z6 = (-1) → wc_Tree_behind_57 a0 K4 Post z6 x3 I J B D) ∧ (¬ z6 = (-1) → vp_in z6 240 ∧ ∀ z8 : Int32, z8 = ((B 18) z6.toNatClampNeg) → ((¬ z8 = 2 → wc_Tree_behind_57 a0 K4 Post z6 x3 I J B D) ∧ (z8 = 2 → Post z6 I J B D))))) ∧ (¬ z4 = (-1) → vp_in x2 240 ∧ ∀ z10 : Int32, z10 = ((B 23) x2.toNatClampNeg) → Post z10 I J B D))))))
def wl_Tree_behind_4 (a0 : Int32) (Post : Int32 → (Nat → Int32) → (Nat → Int64) → (Nat → Nat → Int32) → (Nat → Nat → Int64) → Prop) (n : Nat) : Int32 → Int32 → (Nat → Int32) → (Nat → Int64) → (Nat → Nat → Int32) → (Nat → Nat → Int64) → Prop := Nat.rec (fun _ _ _ _ _ _ => False) (fun _ r => wb_Tree_behind_4 a0 r Post) n
def wp_Tree_behind (I : Nat → Int32) (J : Nat → Int64) (B : Nat → Nat → Int32) (D : Nat → Nat → Int64) (a0 : Int32) (Post : Int32 → (Nat → Int32) → (Nat → Int64) → (Nat → Nat → Int32) → (Nat → Nat → Int64) → Prop) : Prop :=
  ∃ n : Nat, wl_Tree_behind_4 a0 Post n a0 0 I J B D
set_option maxHeartbeats 8000000 in
set_option maxRecDepth 100000 in
theorem wJ_Tree_behind_63 {p : Program} {l : Launch} {e : Env} {s : State} {m : MethodId} {below : List Frame} {meth : Method} {c : Code} {A : Nat → Prop} (G : va_G) (K : Nat → ClassId) (ad : Nat → Nat) (sv : Value) (a0 : Int32) (Post : Int32 → (Nat → Int32) → (Nat → Int64) → (Nat → Nat → Int32) → (Nat → Nat → Int64) → Prop) (C : zCx p s m ([.ref (ad 6), .int a0] : List Value).toArray meth c A G K prog_11_method_6_code (some .int) 4 "LassoFinder$Tree") : ∀  (I : Nat → Int32) (J : Nat → Int64) (B : Nat → Nat → Int32) (D : Nat → Nat → Int64) (ls : Array Slot) (H : Heap) (locs : List Loc), wc_Tree_behind_63 a0 Post  I J B D → lv_has ls 4 [] → zW G A s.heap (wX ad K sv I J B D) H locs → W p l e { frames := 0, cells := 0, slots := 0, locals := 0 } s m ([.ref (ad 6), .int a0] : List Value).toArray below meth c H locs 0 0 (MQ below (va_Qi (fun (r : Int32) (u : zS) => Post r u.1 u.2.1 u.2.2.1 u.2.2.2) (fun u t => zPost G K A (wX ad K sv u.1 u.2.1 u.2.2.1 u.2.2.2) t) A) ([.ref (ad 6), .int a0] : List Value).toArray s 0 0 A) (F0 m 63 ls []) := by
  obtain ⟨hx, hb, hr, hml, hts, hown, hlocks, hA, hK⟩ := id C
  intro  I J B D ls H locs hok hl hw
  unfold wc_Tree_behind_63 at hok
  refine lv_bipush (v := (-2)) hx hb zd_Tree_behind_63 (by decide) ?_
  exact (z_iret (u := (I, J, B, D)) hx hb hr hlocks rfl hw (List.range 65) wX_all wX_nd hok (Nat.le_of_ble_eq_true rfl) (Nat.le_of_ble_eq_true rfl) zd_Tree_behind_65)
set_option maxHeartbeats 8000000 in
set_option maxRecDepth 100000 in
theorem wJ_Tree_behind_57 {p : Program} {l : Launch} {e : Env} {s : State} {m : MethodId} {below : List Frame} {meth : Method} {c : Code} {A : Nat → Prop} (G : va_G) (K : Nat → ClassId) (ad : Nat → Nat) (sv : Value) (a0 : Int32) (Post : Int32 → (Nat → Int32) → (Nat → Int64) → (Nat → Nat → Int32) → (Nat → Nat → Int64) → Prop) (C : zCx p s m ([.ref (ad 6), .int a0] : List Value).toArray meth c A G K prog_11_method_6_code (some .int) 4 "LassoFinder$Tree") (K4 : Int32 → Int32 → (Nat → Int32) → (Nat → Int64) → (Nat → Nat → Int32) → (Nat → Nat → Int64) → Prop) (kh4 : ∀ (x2 : Int32) (x3 : Int32) (I : Nat → Int32) (J : Nat → Int64) (B : Nat → Nat → Int32) (D : Nat → Nat → Int64) (ls : Array Slot) (H : Heap) (locs : List Loc), K4 x2 x3 I J B D → lv_has ls 4 [(0, .ref (ad 6)), (2, .int x2), (3, .int x3)] → zW G A s.heap (wX ad K sv I J B D) H locs → W p l e { frames := 0, cells := 0, slots := 0, locals := 0 } s m ([.ref (ad 6), .int a0] : List Value).toArray below meth c H locs 0 0 (MQ below (va_Qi (fun (r : Int32) (u : zS) => Post r u.1 u.2.1 u.2.2.1 u.2.2.2) (fun u t => zPost G K A (wX ad K sv u.1 u.2.1 u.2.2.1 u.2.2.2) t) A) ([.ref (ad 6), .int a0] : List Value).toArray s 0 0 A) (F0 m 4 ls [])) : ∀ (x2 : Int32) (x3 : Int32) (I : Nat → Int32) (J : Nat → Int64) (B : Nat → Nat → Int32) (D : Nat → Nat → Int64) (ls : Array Slot) (H : Heap) (locs : List Loc), wc_Tree_behind_57 a0 K4 Post x2 x3 I J B D → lv_has ls 4 [(0, .ref (ad 6)), (2, .int x2), (3, .int x3)] → zW G A s.heap (wX ad K sv I J B D) H locs → W p l e { frames := 0, cells := 0, slots := 0, locals := 0 } s m ([.ref (ad 6), .int a0] : List Value).toArray below meth c H locs 0 0 (MQ below (va_Qi (fun (r : Int32) (u : zS) => Post r u.1 u.2.1 u.2.2.1 u.2.2.2) (fun u t => zPost G K A (wX ad K sv u.1 u.2.1 u.2.2.1 u.2.2.2) t) A) ([.ref (ad 6), .int a0] : List Value).toArray s 0 0 A) (F0 m 57 ls []) := by
  obtain ⟨hx, hb, hr, hml, hts, hown, hlocks, hA, hK⟩ := id C
  intro x2 x3 I J B D ls H locs hok hl hw
  unfold wc_Tree_behind_57 at hok
  obtain ⟨z1, ez1⟩ : ∃ z : Int32, z = (x3 + 1) := ⟨_, rfl⟩
  have hok := hok z1 ez1
  refine lv_iinc (v := z1) hx hb zd_Tree_behind_57 hl (k := 2) rfl ez1.symm (by decide) rfl (fun ls hl => ?_)
  have hl : lv_has ls 4 [(3, .int z1), (0, .ref (ad 6)), (2, .int x2)] := hl
  refine lv_goto (tgt := 4) hx hb zd_Tree_behind_60 (by decide) ?_
  exact kh4 x2 z1 I J B D ls H locs hok (lv_sub hl [1, 2, 0] rfl) hw
set_option maxHeartbeats 8000000 in
set_option maxRecDepth 100000 in
theorem wB_Tree_behind_4 {p : Program} {l : Launch} {e : Env} {s : State} {m : MethodId} {below : List Frame} {meth : Method} {c : Code} {A : Nat → Prop} (G : va_G) (K : Nat → ClassId) (ad : Nat → Nat) (sv : Value) (a0 : Int32) (Post : Int32 → (Nat → Int32) → (Nat → Int64) → (Nat → Nat → Int32) → (Nat → Nat → Int64) → Prop) (C : zCx p s m ([.ref (ad 6), .int a0] : List Value).toArray meth c A G K prog_11_method_6_code (some .int) 4 "LassoFinder$Tree") (K4 : Int32 → Int32 → (Nat → Int32) → (Nat → Int64) → (Nat → Nat → Int32) → (Nat → Nat → Int64) → Prop) (kh4 : ∀ (x2 : Int32) (x3 : Int32) (I : Nat → Int32) (J : Nat → Int64) (B : Nat → Nat → Int32) (D : Nat → Nat → Int64) (ls : Array Slot) (H : Heap) (locs : List Loc), K4 x2 x3 I J B D → lv_has ls 4 [(0, .ref (ad 6)), (2, .int x2), (3, .int x3)] → zW G A s.heap (wX ad K sv I J B D) H locs → W p l e { frames := 0, cells := 0, slots := 0, locals := 0 } s m ([.ref (ad 6), .int a0] : List Value).toArray below meth c H locs 0 0 (MQ below (va_Qi (fun (r : Int32) (u : zS) => Post r u.1 u.2.1 u.2.2.1 u.2.2.2) (fun u t => zPost G K A (wX ad K sv u.1 u.2.1 u.2.2.1 u.2.2.2) t) A) ([.ref (ad 6), .int a0] : List Value).toArray s 0 0 A) (F0 m 4 ls [])) : ∀ (x2 : Int32) (x3 : Int32) (I : Nat → Int32) (J : Nat → Int64) (B : Nat → Nat → Int32) (D : Nat → Nat → Int64) (ls : Array Slot) (H : Heap) (locs : List Loc), wb_Tree_behind_4 a0 K4 Post x2 x3 I J B D → lv_has ls 4 [(0, .ref (ad 6)), (2, .int x2), (3, .int x3)] → zW G A s.heap (wX ad K sv I J B D) H locs → W p l e { frames := 0, cells := 0, slots := 0, locals := 0 } s m ([.ref (ad 6), .int a0] : List Value).toArray below meth c H locs 0 0 (MQ below (va_Qi (fun (r : Int32) (u : zS) => Post r u.1 u.2.1 u.2.2.1 u.2.2.2) (fun u t => zPost G K A (wX ad K sv u.1 u.2.1 u.2.2.1 u.2.2.2) t) A) ([.ref (ad 6), .int a0] : List Value).toArray s 0 0 A) (F0 m 4 ls []) := by
  obtain ⟨hx, hb, hr, hml, hts, hown, hlocks, hA, hK⟩ := id C
  intro x2 x3 I J B D ls H locs hok hl hw
  unfold wb_Tree_behind_4 at hok
  refine lv_iload_n hx hb zd_Tree_behind_4 rfl (lv_at hl 2 rfl) ?_
  refine lv_sipush (v := 240) hx hb zd_Tree_behind_5 (by decide) ?_
  refine lv_icmp_ge (tgt := 63) hx hb zd_Tree_behind_8 (by decide) (fun hc2 => ?_) (fun hc2 => ?_)
  · have hok := hok.1 hc2
    exact wJ_Tree_behind_63 G K ad sv a0 Post C I J B D ls H locs hok (lv_sub hl [] rfl) hw
  · have hok := hok.2 hc2
    refine lv_iload_n hx hb zd_Tree_behind_11 rfl (lv_at hl 1 rfl) ?_
    refine lv_iconst (v := (-1)) hx hb zd_Tree_behind_12 (by decide) ?_
    refine lv_icmp_eq (tgt := 63) hx hb zd_Tree_behind_13 (by decide) (fun hc3 => ?_) (fun hc3 => ?_)
    · have hok := hok.1 hc3
      exact wJ_Tree_behind_63 G K ad sv a0 Post C I J B D ls H locs hok (lv_sub hl [] rfl) hw
    · have hok := hok.2 hc3
      refine lv_aload_n hx hb zd_Tree_behind_16 rfl (lv_at hl 0 rfl) ?_
      refine z_get (v := .ref (ad 37)) hx hb hts hown hK hw zZ10 6 wX_g6 5 (by decide) zn_260 rfl zd_Tree_behind_17 ?_
      refine lv_iload_n hx hb zd_Tree_behind_20 rfl (lv_at hl 1 rfl) ?_
      refine va_iald (f := (B 23)) hx hb hK hw.1 37 0 wX_a37 rfl hok.1 zd_Tree_behind_21 ?_
      have hok := hok.2
      refine lv_topi (fun z4 ez4 => ?_)
      have hok := hok z4 ez4
      refine lv_iconst (v := (-1)) hx hb zd_Tree_behind_22 (by decide) ?_
      refine lv_icmp_eq (tgt := 33) hx hb zd_Tree_behind_23 (by decide) (fun hc5 => ?_) (fun hc5 => ?_)
      · have hok := hok.1 hc5
        refine lv_aload_n hx hb zd_Tree_behind_33 rfl (lv_at hl 0 rfl) ?_
        refine z_get (v := .ref (ad 33)) hx hb hts hown hK hw zZ10 6 wX_g6 1 (by decide) zn_256 rfl zd_Tree_behind_34 ?_
        refine lv_iload_n hx hb zd_Tree_behind_37 rfl (lv_at hl 1 rfl) ?_
        refine va_iald (f := (B 19)) hx hb hK hw.1 33 0 wX_a33 rfl hok.1 zd_Tree_behind_38 ?_
        have hok := hok.2
        refine lv_topi (fun z6 ez6 => ?_)
        have hok := hok z6 ez6
        refine lv_istore_n hx hb zd_Tree_behind_39 rfl hl (by decide) rfl (fun ls hl => ?_)
        have hl : lv_has ls 4 [(2, .int z6), (0, .ref (ad 6)), (3, .int x3)] := hl
        refine lv_iload_n hx hb zd_Tree_behind_40 rfl (lv_at hl 0 rfl) ?_
        refine lv_iconst (v := (-1)) hx hb zd_Tree_behind_41 (by decide) ?_
        refine lv_icmp_eq (tgt := 57) hx hb zd_Tree_behind_42 (by decide) (fun hc7 => ?_) (fun hc7 => ?_)
        · have hok := hok.1 hc7
          exact wJ_Tree_behind_57 G K ad sv a0 Post C K4 kh4 z6 x3 I J B D ls H locs hok (lv_sub hl [1, 0, 2] rfl) hw
        · have hok := hok.2 hc7
          refine lv_aload_n hx hb zd_Tree_behind_45 rfl (lv_at hl 1 rfl) ?_
          refine z_get (v := .ref (ad 32)) hx hb hts hown hK hw zZ10 6 wX_g6 0 (by decide) zn_255 rfl zd_Tree_behind_46 ?_
          refine lv_iload_n hx hb zd_Tree_behind_49 rfl (lv_at hl 0 rfl) ?_
          refine va_iald (f := (B 18)) hx hb hK hw.1 32 0 wX_a32 rfl hok.1 zd_Tree_behind_50 ?_
          have hok := hok.2
          refine lv_topi (fun z8 ez8 => ?_)
          have hok := hok z8 ez8
          refine lv_iconst (v := 2) hx hb zd_Tree_behind_51 (by decide) ?_
          refine lv_icmp_ne (tgt := 57) hx hb zd_Tree_behind_52 (by decide) (fun hc9 => ?_) (fun hc9 => ?_)
          · have hok := hok.1 hc9
            exact wJ_Tree_behind_57 G K ad sv a0 Post C K4 kh4 z6 x3 I J B D ls H locs hok (lv_sub hl [1, 0, 2] rfl) hw
          · have hok := hok.2 hc9
            refine lv_iload_n hx hb zd_Tree_behind_55 rfl (lv_at hl 0 rfl) ?_
            exact (z_iret (u := (I, J, B, D)) hx hb hr hlocks rfl hw (List.range 65) wX_all wX_nd hok (Nat.le_of_ble_eq_true rfl) (Nat.le_of_ble_eq_true rfl) zd_Tree_behind_56)
      · have hok := hok.2 hc5
        refine lv_aload_n hx hb zd_Tree_behind_26 rfl (lv_at hl 0 rfl) ?_
        refine z_get (v := .ref (ad 37)) hx hb hts hown hK hw zZ10 6 wX_g6 5 (by decide) zn_260 rfl zd_Tree_behind_27 ?_
        refine lv_iload_n hx hb zd_Tree_behind_30 rfl (lv_at hl 1 rfl) ?_
        refine va_iald (f := (B 23)) hx hb hK hw.1 37 0 wX_a37 rfl hok.1 zd_Tree_behind_31 ?_
        have hok := hok.2
        refine lv_topi (fun z10 ez10 => ?_)
        have hok := hok z10 ez10
        exact (z_iret (u := (I, J, B, D)) hx hb hr hlocks rfl hw (List.range 65) wX_all wX_nd hok (Nat.le_of_ble_eq_true rfl) (Nat.le_of_ble_eq_true rfl) zd_Tree_behind_32)
theorem wL_Tree_behind_4 {p : Program} {l : Launch} {e : Env} {s : State} {m : MethodId} {below : List Frame} {meth : Method} {c : Code} {A : Nat → Prop} (G : va_G) (K : Nat → ClassId) (ad : Nat → Nat) (sv : Value) (a0 : Int32) (Post : Int32 → (Nat → Int32) → (Nat → Int64) → (Nat → Nat → Int32) → (Nat → Nat → Int64) → Prop) (C : zCx p s m ([.ref (ad 6), .int a0] : List Value).toArray meth c A G K prog_11_method_6_code (some .int) 4 "LassoFinder$Tree") : ∀ (n : Nat) (x2 : Int32) (x3 : Int32) (I : Nat → Int32) (J : Nat → Int64) (B : Nat → Nat → Int32) (D : Nat → Nat → Int64) (ls : Array Slot) (H : Heap) (locs : List Loc), wl_Tree_behind_4 a0 Post n x2 x3 I J B D → lv_has ls 4 [(0, .ref (ad 6)), (2, .int x2), (3, .int x3)] → zW G A s.heap (wX ad K sv I J B D) H locs → W p l e { frames := 0, cells := 0, slots := 0, locals := 0 } s m ([.ref (ad 6), .int a0] : List Value).toArray below meth c H locs 0 0 (MQ below (va_Qi (fun (r : Int32) (u : zS) => Post r u.1 u.2.1 u.2.2.1 u.2.2.2) (fun u t => zPost G K A (wX ad K sv u.1 u.2.1 u.2.2.1 u.2.2.2) t) A) ([.ref (ad 6), .int a0] : List Value).toArray s 0 0 A) (F0 m 4 ls []) := by
  intro n
  induction n with
  | zero => intro x2 x3 I J B D ls H locs hok; exact hok.elim
  | succ n ih => exact wB_Tree_behind_4 G K ad sv a0 Post C (wl_Tree_behind_4 a0 Post n) ih
set_option maxHeartbeats 8000000 in
set_option maxRecDepth 100000 in
theorem w_Tree_behind (l : Launch) (G : va_G) (K : Nat → ClassId) (ad : Nat → Nat) (sv : Value) (I : Nat → Int32) (J : Nat → Int64) (B : Nat → Nat → Int32) (D : Nat → Nat → Int64) (a0 : Int32) (Post : Int32 → (Nat → Int32) → (Nat → Int64) → (Nat → Nat → Int32) → (Nat → Nat → Int64) → Prop) (sz : Nat) (hok : wp_Tree_behind I J B D a0 Post) : Met l zy_Tree_behind (Cond.code zy_Tree_behind prog_11_method_6_code 4 (some .int) :: zTB) { frames := 0, cells := 0, slots := 0, locals := 0 } (va_Pc [.ref (ad 6), .int a0] (zPre G K (wX ad K sv I J B D) sz)) (va_Qi (fun (r : Int32) (u : zS) => Post r u.1 u.2.1 u.2.2.1 u.2.2.2) (fun u t => zPost G K (va_A (wX ad K sv I J B D) sz) (wX ad K sv u.1 u.2.1 u.2.2.1 u.2.2.2) t) (va_A (wX ad K sv I J B D) sz)) 0 0 (va_A (wX ad K sv I J B D) sz) := by
  refine zMet (y := zy_Tree_behind) (av := [.ref (ad 6), .int a0]) (maxL := 4) (cc := prog_11_method_6_code) (ret := (some .int)) (W0 := (wX ad K sv I J B D)) (sz := sz) (G := G) (K := K) (wt := zTB) (mc := 0) (ms := 0) (Qf := fun A => va_Qi (fun (r : Int32) (u : zS) => Post r u.1 u.2.1 u.2.2.1 u.2.2.2) (fun u t => zPost G K A (wX ad K sv u.1 u.2.1 u.2.2.1 u.2.2.2) t) A) (by decide) (Nat.le_of_ble_eq_true rfl) ?_
  intro p e s m below meth c ls A hx hb hr hml hts hown hlocks hin hA hK H locs hw hsz hl
  clear hsz
  have hown : s.vm.findClass "LassoFinder$Tree" = some m.cls := hown
  have C : zCx p s m ([.ref (ad 6), .int a0] : List Value).toArray meth c A G K prog_11_method_6_code (some .int) 4 "LassoFinder$Tree" := ⟨hx, hb, hr, hml, hts, hown, hlocks, hA, hK⟩
  have hl : lv_has ls 4 [(0, .ref (ad 6)), (1, .int a0)] := hl
  have hw : zW G A s.heap (wX ad K sv I J B D) H locs := hw
  unfold wp_Tree_behind at hok
  refine lv_iload_n hx hb zd_Tree_behind_0 rfl (lv_at hl 1 rfl) ?_
  refine lv_istore_n hx hb zd_Tree_behind_1 rfl hl (by decide) rfl (fun ls hl => ?_)
  have hl : lv_has ls 4 [(2, .int a0), (0, .ref (ad 6)), (1, .int a0)] := hl
  refine lv_iconst (v := 0) hx hb zd_Tree_behind_2 (by decide) ?_
  refine lv_istore_n hx hb zd_Tree_behind_3 rfl hl (by decide) rfl (fun ls hl => ?_)
  have hl : lv_has ls 4 [(3, .int 0), (2, .int a0), (0, .ref (ad 6)), (1, .int a0)] := hl
  obtain ⟨n9, hok⟩ := hok
  exact wL_Tree_behind_4 G K ad sv a0 Post C n9 a0 0 I J B D ls H locs hok (lv_sub hl [2, 1, 0] rfl) hw
def wc_Tree_settled_89 (a0 : Int32) (K4 : Int32 → Int32 → (Nat → Int32) → (Nat → Int64) → (Nat → Nat → Int32) → (Nat → Nat → Int64) → Prop) (Post : Int32 → (Nat → Int32) → (Nat → Int64) → (Nat → Nat → Int32) → (Nat → Nat → Int64) → Prop) (x2 : Int32) (x3 : Int32) (I : Nat → Int32) (J : Nat → Int64) (B : Nat → Nat → Int32) (D : Nat → Nat → Int64) : Prop :=
  ∀ z1 : Int32, z1 = (x3 + 1) → K4 x2 z1 I J B D
def wb_Tree_settled_4 (a0 : Int32) (K4 : Int32 → Int32 → (Nat → Int32) → (Nat → Int64) → (Nat → Nat → Int32) → (Nat → Nat → Int64) → Prop) (Post : Int32 → (Nat → Int32) → (Nat → Int64) → (Nat → Nat → Int32) → (Nat → Nat → Int64) → Prop) (x2 : Int32) (x3 : Int32) (I : Nat → Int32) (J : Nat → Int64) (B : Nat → Nat → Int32) (D : Nat → Nat → Int64) : Prop :=
  (((240 : Int32) < x3 → Post (-4) I J B D) ∧ (¬ (240 : Int32) < x3 → (((0 : Int32) ≤ x2 → vp_in x2 240 ∧ ∀ z4 : Int32, z4 = ((B 18) x2.toNatClampNeg) → ((z4 = 3 → vp_in x2 240 ∧ ∀ z6 : Int32, z6 = ((B 24) x2.toNatClampNeg) → wc_Tree_settled_89 a0 K4 Post z6 x3 I J B D) ∧ (z4 = 4 → vp_in x2 240 ∧ ∀ z8 : Int32, z8 = ((B 20) x2.toNatClampNeg) → wp_Tree_behind I J B D z8 (fun r9 I9 J9 B9 D9 => wc_Tree_settled_89 a0 K4 Post r9 x3 I9 J9 B9 D9)) ∧ (z4 = 5 → vp_in x2 240 ∧ ∀ z11 : Int32, z11 = ((B 26) x2.toNatClampNeg) → vp_in z11 8 ∧ ∀ z12 : Int32, z12 = ((B 28) z11.toNatClampNeg) → wc_Tree_settled_89 a0 K4 Post z12 x3 I J B D) ∧ (¬ z4 = 3 → ¬ z4 = 4 → ¬ z4 = 5 → Post x2 I J B D))) ∧ (¬ (0 : Int32) ≤ x2 → Post x2 I J B D))))
def wl_Tree_settled_4 (a0 : Int32) (Post : Int32 → (Nat → Int32) → (Nat → Int64) → (Nat → Nat → Int32) → (Nat → Nat → Int64) → Prop) (n : Nat) : Int32 → Int32 → (Nat → Int32) → (Nat → Int64) → (Nat → Nat → Int32) → (Nat → Nat → Int64) → Prop := Nat.rec (fun _ _ _ _ _ _ => False) (fun _ r => wb_Tree_settled_4 a0 r Post) n
def wp_Tree_settled (I : Nat → Int32) (J : Nat → Int64) (B : Nat → Nat → Int32) (D : Nat → Nat → Int64) (a0 : Int32) (Post : Int32 → (Nat → Int32) → (Nat → Int64) → (Nat → Nat → Int32) → (Nat → Nat → Int64) → Prop) : Prop :=
  ∃ n : Nat, wl_Tree_settled_4 a0 Post n a0 0 I J B D
set_option maxHeartbeats 8000000 in
set_option maxRecDepth 100000 in
theorem wJ_Tree_settled_89 {p : Program} {l : Launch} {e : Env} {s : State} {m : MethodId} {below : List Frame} {meth : Method} {c : Code} {A : Nat → Prop} (G : va_G) (K : Nat → ClassId) (ad : Nat → Nat) (sv : Value) (a0 : Int32) (Post : Int32 → (Nat → Int32) → (Nat → Int64) → (Nat → Nat → Int32) → (Nat → Nat → Int64) → Prop) (C : zCx p s m ([.ref (ad 6), .int a0] : List Value).toArray meth c A G K prog_11_method_7_code (some .int) 4 "LassoFinder$Tree") (K4 : Int32 → Int32 → (Nat → Int32) → (Nat → Int64) → (Nat → Nat → Int32) → (Nat → Nat → Int64) → Prop) (kh4 : ∀ (x2 : Int32) (x3 : Int32) (I : Nat → Int32) (J : Nat → Int64) (B : Nat → Nat → Int32) (D : Nat → Nat → Int64) (ls : Array Slot) (H : Heap) (locs : List Loc), K4 x2 x3 I J B D → lv_has ls 4 [(0, .ref (ad 6)), (2, .int x2), (3, .int x3)] → zW G A s.heap (wX ad K sv I J B D) H locs → W p l e { frames := 1, cells := 0, slots := 0, locals := 23 } s m ([.ref (ad 6), .int a0] : List Value).toArray below meth c H locs 0 0 (MQ below (va_Qi (fun (r : Int32) (u : zS) => Post r u.1 u.2.1 u.2.2.1 u.2.2.2) (fun u t => zPost G K A (wX ad K sv u.1 u.2.1 u.2.2.1 u.2.2.2) t) A) ([.ref (ad 6), .int a0] : List Value).toArray s 0 0 A) (F0 m 4 ls [])) : ∀ (x2 : Int32) (x3 : Int32) (I : Nat → Int32) (J : Nat → Int64) (B : Nat → Nat → Int32) (D : Nat → Nat → Int64) (ls : Array Slot) (H : Heap) (locs : List Loc), wc_Tree_settled_89 a0 K4 Post x2 x3 I J B D → lv_has ls 4 [(0, .ref (ad 6)), (2, .int x2), (3, .int x3)] → zW G A s.heap (wX ad K sv I J B D) H locs → W p l e { frames := 1, cells := 0, slots := 0, locals := 23 } s m ([.ref (ad 6), .int a0] : List Value).toArray below meth c H locs 0 0 (MQ below (va_Qi (fun (r : Int32) (u : zS) => Post r u.1 u.2.1 u.2.2.1 u.2.2.2) (fun u t => zPost G K A (wX ad K sv u.1 u.2.1 u.2.2.1 u.2.2.2) t) A) ([.ref (ad 6), .int a0] : List Value).toArray s 0 0 A) (F0 m 89 ls []) := by
  obtain ⟨hx, hb, hr, hml, hts, hown, hlocks, hA, hK⟩ := id C
  intro x2 x3 I J B D ls H locs hok hl hw
  unfold wc_Tree_settled_89 at hok
  obtain ⟨z1, ez1⟩ : ∃ z : Int32, z = (x3 + 1) := ⟨_, rfl⟩
  have hok := hok z1 ez1
  refine lv_iinc (v := z1) hx hb zd_Tree_settled_89 hl (k := 2) rfl ez1.symm (by decide) rfl (fun ls hl => ?_)
  have hl : lv_has ls 4 [(3, .int z1), (0, .ref (ad 6)), (2, .int x2)] := hl
  refine lv_goto (tgt := 4) hx hb zd_Tree_settled_92 (by decide) ?_
  exact kh4 x2 z1 I J B D ls H locs hok (lv_sub hl [1, 2, 0] rfl) hw
set_option maxHeartbeats 8000000 in
set_option maxRecDepth 100000 in
theorem wB_Tree_settled_4 {p : Program} {l : Launch} {e : Env} {s : State} {m : MethodId} {below : List Frame} {meth : Method} {c : Code} {A : Nat → Prop} (G : va_G) (K : Nat → ClassId) (ad : Nat → Nat) (sv : Value) (a0 : Int32) (Post : Int32 → (Nat → Int32) → (Nat → Int64) → (Nat → Nat → Int32) → (Nat → Nat → Int64) → Prop) (C : zCx p s m ([.ref (ad 6), .int a0] : List Value).toArray meth c A G K prog_11_method_7_code (some .int) 4 "LassoFinder$Tree") (K4 : Int32 → Int32 → (Nat → Int32) → (Nat → Int64) → (Nat → Nat → Int32) → (Nat → Nat → Int64) → Prop) (kh4 : ∀ (x2 : Int32) (x3 : Int32) (I : Nat → Int32) (J : Nat → Int64) (B : Nat → Nat → Int32) (D : Nat → Nat → Int64) (ls : Array Slot) (H : Heap) (locs : List Loc), K4 x2 x3 I J B D → lv_has ls 4 [(0, .ref (ad 6)), (2, .int x2), (3, .int x3)] → zW G A s.heap (wX ad K sv I J B D) H locs → W p l e { frames := 1, cells := 0, slots := 0, locals := 23 } s m ([.ref (ad 6), .int a0] : List Value).toArray below meth c H locs 0 0 (MQ below (va_Qi (fun (r : Int32) (u : zS) => Post r u.1 u.2.1 u.2.2.1 u.2.2.2) (fun u t => zPost G K A (wX ad K sv u.1 u.2.1 u.2.2.1 u.2.2.2) t) A) ([.ref (ad 6), .int a0] : List Value).toArray s 0 0 A) (F0 m 4 ls [])) : ∀ (x2 : Int32) (x3 : Int32) (I : Nat → Int32) (J : Nat → Int64) (B : Nat → Nat → Int32) (D : Nat → Nat → Int64) (ls : Array Slot) (H : Heap) (locs : List Loc), wb_Tree_settled_4 a0 K4 Post x2 x3 I J B D → lv_has ls 4 [(0, .ref (ad 6)), (2, .int x2), (3, .int x3)] → zW G A s.heap (wX ad K sv I J B D) H locs → W p l e { frames := 1, cells := 0, slots := 0, locals := 23 } s m ([.ref (ad 6), .int a0] : List Value).toArray below meth c H locs 0 0 (MQ below (va_Qi (fun (r : Int32) (u : zS) => Post r u.1 u.2.1 u.2.2.1 u.2.2.2) (fun u t => zPost G K A (wX ad K sv u.1 u.2.1 u.2.2.1 u.2.2.2) t) A) ([.ref (ad 6), .int a0] : List Value).toArray s 0 0 A) (F0 m 4 ls []) := by
  obtain ⟨hx, hb, hr, hml, hts, hown, hlocks, hA, hK⟩ := id C
  intro x2 x3 I J B D ls H locs hok hl hw
  unfold wb_Tree_settled_4 at hok
  refine lv_iload_n hx hb zd_Tree_settled_4 rfl (lv_at hl 2 rfl) ?_
  refine lv_sipush (v := 240) hx hb zd_Tree_settled_5 (by decide) ?_
  refine lv_icmp_gt (tgt := 95) hx hb zd_Tree_settled_8 (by decide) (fun hc2 => ?_) (fun hc2 => ?_)
  · have hok := hok.1 hc2
    refine lv_bipush (v := (-4)) hx hb zd_Tree_settled_95 (by decide) ?_
    exact (z_iret (u := (I, J, B, D)) hx hb hr hlocks rfl hw (List.range 65) wX_all wX_nd hok (Nat.le_of_ble_eq_true rfl) (Nat.le_of_ble_eq_true rfl) zd_Tree_settled_97)
  · have hok := hok.2 hc2
    refine lv_iload_n hx hb zd_Tree_settled_11 rfl (lv_at hl 1 rfl) ?_
    refine lv_if_ge (tgt := 17) hx hb zd_Tree_settled_12 (by decide) (fun hc3 => ?_) (fun hc3 => ?_)
    · have hok := hok.1 hc3
      refine lv_aload_n hx hb zd_Tree_settled_17 rfl (lv_at hl 0 rfl) ?_
      refine z_get (v := .ref (ad 32)) hx hb hts hown hK hw zZ10 6 wX_g6 0 (by decide) zn_255 rfl zd_Tree_settled_18 ?_
      refine lv_iload_n hx hb zd_Tree_settled_21 rfl (lv_at hl 1 rfl) ?_
      refine va_iald (f := (B 18)) hx hb hK hw.1 32 0 wX_a32 rfl hok.1 zd_Tree_settled_22 ?_
      have hok := hok.2
      refine lv_topi (fun z4 ez4 => ?_)
      have hok := hok z4 ez4
      by_cases hs5 : z4 = 3
      · have hok := hok.1 hs5
        refine lv_tableIn (off := 25) (tgt := 48) hx hb zd_Tree_settled_23 (by rw [hs5]; decide) (by rw [hs5]; decide) (by rw [hs5]; decide) (by decide) ?_
        refine lv_aload_n hx hb zd_Tree_settled_48 rfl (lv_at hl 0 rfl) ?_
        refine z_get (v := .ref (ad 38)) hx hb hts hown hK hw zZ10 6 wX_g6 6 (by decide) zn_261 rfl zd_Tree_settled_49 ?_
        refine lv_iload_n hx hb zd_Tree_settled_52 rfl (lv_at hl 1 rfl) ?_
        refine va_iald (f := (B 24)) hx hb hK hw.1 38 0 wX_a38 rfl hok.1 zd_Tree_settled_53 ?_
        have hok := hok.2
        refine lv_topi (fun z6 ez6 => ?_)
        have hok := hok z6 ez6
        refine lv_istore_n hx hb zd_Tree_settled_54 rfl hl (by decide) rfl (fun ls hl => ?_)
        have hl : lv_has ls 4 [(2, .int z6), (0, .ref (ad 6)), (3, .int x3)] := hl
        refine lv_goto (tgt := 89) hx hb zd_Tree_settled_55 (by decide) ?_
        exact wJ_Tree_settled_89 G K ad sv a0 Post C K4 kh4 z6 x3 I J B D ls H locs hok (lv_sub hl [1, 0, 2] rfl) hw
      by_cases hs7 : z4 = 4
      · have hok := hok.2.1 hs7
        refine lv_tableIn (off := 35) (tgt := 58) hx hb zd_Tree_settled_23 (by rw [hs7]; decide) (by rw [hs7]; decide) (by rw [hs7]; decide) (by decide) ?_
        refine lv_aload_n hx hb zd_Tree_settled_58 rfl (lv_at hl 0 rfl) ?_
        refine lv_aload_n hx hb zd_Tree_settled_59 rfl (lv_at hl 0 rfl) ?_
        refine z_get (v := .ref (ad 34)) hx hb hts hown hK hw zZ10 6 wX_g6 2 (by decide) zn_257 rfl zd_Tree_settled_60 ?_
        refine lv_iload_n hx hb zd_Tree_settled_63 rfl (lv_at hl 1 rfl) ?_
        refine va_iald (f := (B 20)) hx hb hK hw.1 34 0 wX_a34 rfl hok.1 zd_Tree_settled_64 ?_
        have hok := hok.2
        refine lv_topi (fun z8 ez8 => ?_)
        have hok := hok z8 ez8
        refine z_calli (w1 := fun (u : zS) => wX ad K sv u.1 u.2.1 u.2.2.1 u.2.2.2) (wr := []) (z_runV (q0 := 6) (wc := (wX ad K sv I J B D)) (As := [.int z8]) (rest := []) ⟨hx, hb, hml, hown, hts⟩ (w_Tree_behind l G K ad sv I J B D z8 _ H.size hok) zf_Tree_behind zn_379 ⟨Nat.le_of_ble_eq_true rfl, Nat.le_of_ble_eq_true rfl⟩ hK hw (List.range 65) wX_all wX_nd wX_g6 rfl rfl hl.1 rfl (Nat.le_of_ble_eq_true rfl) zd_Tree_settled_65 ⟨Nat.le_of_ble_eq_true rfl, Nat.le_of_ble_eq_true rfl⟩) hw hA (List.range 65) [] wX_all rfl (by decide) (fun i hi => by cases hi) (fun r9 u H locs hok hw => ?_)
        obtain ⟨I9, J9, B9, D9⟩ := u
        dsimp only at hok
        have hw : zW G A s.heap (wX ad K sv I9 J9 B9 D9) H locs := hw
        refine lv_istore_n hx hb zd_Tree_settled_68 rfl hl (by decide) rfl (fun ls hl => ?_)
        have hl : lv_has ls 4 [(2, .int r9), (0, .ref (ad 6)), (3, .int x3)] := hl
        refine lv_goto (tgt := 89) hx hb zd_Tree_settled_69 (by decide) ?_
        exact wJ_Tree_settled_89 G K ad sv a0 Post C K4 kh4 r9 x3 I9 J9 B9 D9 ls H locs hok (lv_sub hl [1, 0, 2] rfl) hw
      by_cases hs10 : z4 = 5
      · have hok := hok.2.2.1 hs10
        refine lv_tableIn (off := 49) (tgt := 72) hx hb zd_Tree_settled_23 (by rw [hs10]; decide) (by rw [hs10]; decide) (by rw [hs10]; decide) (by decide) ?_
        refine lv_aload_n hx hb zd_Tree_settled_72 rfl (lv_at hl 0 rfl) ?_
        refine z_get (v := .ref (ad 42)) hx hb hts hown hK hw zZ10 6 wX_g6 10 (by decide) zn_265 rfl zd_Tree_settled_73 ?_
        refine lv_aload_n hx hb zd_Tree_settled_76 rfl (lv_at hl 0 rfl) ?_
        refine z_get (v := .ref (ad 40)) hx hb hts hown hK hw zZ10 6 wX_g6 8 (by decide) zn_263 rfl zd_Tree_settled_77 ?_
        refine lv_iload_n hx hb zd_Tree_settled_80 rfl (lv_at hl 1 rfl) ?_
        refine va_iald (f := (B 26)) hx hb hK hw.1 40 0 wX_a40 rfl hok.1 zd_Tree_settled_81 ?_
        have hok := hok.2
        refine lv_topi (fun z11 ez11 => ?_)
        have hok := hok z11 ez11
        refine va_iald (f := (B 28)) hx hb hK hw.1 42 0 wX_a42 rfl hok.1 zd_Tree_settled_82 ?_
        have hok := hok.2
        refine lv_topi (fun z12 ez12 => ?_)
        have hok := hok z12 ez12
        refine lv_istore_n hx hb zd_Tree_settled_83 rfl hl (by decide) rfl (fun ls hl => ?_)
        have hl : lv_has ls 4 [(2, .int z12), (0, .ref (ad 6)), (3, .int x3)] := hl
        refine lv_goto (tgt := 89) hx hb zd_Tree_settled_84 (by decide) ?_
        exact wJ_Tree_settled_89 G K ad sv a0 Post C K4 kh4 z12 x3 I J B D ls H locs hok (lv_sub hl [1, 0, 2] rfl) hw
      have hok := hok.2.2.2 hs5 hs7 hs10
      refine lv_tableOut (tgt := 87) hx hb zd_Tree_settled_23 (by have h0 := lv_neT hs5 (a := 3) (by decide); have h1 := lv_neT hs7 (a := 4) (by decide); have h2 := lv_neT hs10 (a := 5) (by decide); omega) (by decide) ?_
      refine lv_iload_n hx hb zd_Tree_settled_87 rfl (lv_at hl 1 rfl) ?_
      exact (z_iret (u := (I, J, B, D)) hx hb hr hlocks rfl hw (List.range 65) wX_all wX_nd hok (Nat.le_of_ble_eq_true rfl) (Nat.le_of_ble_eq_true rfl) zd_Tree_settled_88)
    · have hok := hok.2 hc3
      refine lv_iload_n hx hb zd_Tree_settled_15 rfl (lv_at hl 1 rfl) ?_
      exact (z_iret (u := (I, J, B, D)) hx hb hr hlocks rfl hw (List.range 65) wX_all wX_nd hok (Nat.le_of_ble_eq_true rfl) (Nat.le_of_ble_eq_true rfl) zd_Tree_settled_16)
theorem wL_Tree_settled_4 {p : Program} {l : Launch} {e : Env} {s : State} {m : MethodId} {below : List Frame} {meth : Method} {c : Code} {A : Nat → Prop} (G : va_G) (K : Nat → ClassId) (ad : Nat → Nat) (sv : Value) (a0 : Int32) (Post : Int32 → (Nat → Int32) → (Nat → Int64) → (Nat → Nat → Int32) → (Nat → Nat → Int64) → Prop) (C : zCx p s m ([.ref (ad 6), .int a0] : List Value).toArray meth c A G K prog_11_method_7_code (some .int) 4 "LassoFinder$Tree") : ∀ (n : Nat) (x2 : Int32) (x3 : Int32) (I : Nat → Int32) (J : Nat → Int64) (B : Nat → Nat → Int32) (D : Nat → Nat → Int64) (ls : Array Slot) (H : Heap) (locs : List Loc), wl_Tree_settled_4 a0 Post n x2 x3 I J B D → lv_has ls 4 [(0, .ref (ad 6)), (2, .int x2), (3, .int x3)] → zW G A s.heap (wX ad K sv I J B D) H locs → W p l e { frames := 1, cells := 0, slots := 0, locals := 23 } s m ([.ref (ad 6), .int a0] : List Value).toArray below meth c H locs 0 0 (MQ below (va_Qi (fun (r : Int32) (u : zS) => Post r u.1 u.2.1 u.2.2.1 u.2.2.2) (fun u t => zPost G K A (wX ad K sv u.1 u.2.1 u.2.2.1 u.2.2.2) t) A) ([.ref (ad 6), .int a0] : List Value).toArray s 0 0 A) (F0 m 4 ls []) := by
  intro n
  induction n with
  | zero => intro x2 x3 I J B D ls H locs hok; exact hok.elim
  | succ n ih => exact wB_Tree_settled_4 G K ad sv a0 Post C (wl_Tree_settled_4 a0 Post n) ih
set_option maxHeartbeats 8000000 in
set_option maxRecDepth 100000 in
theorem w_Tree_settled (l : Launch) (G : va_G) (K : Nat → ClassId) (ad : Nat → Nat) (sv : Value) (I : Nat → Int32) (J : Nat → Int64) (B : Nat → Nat → Int32) (D : Nat → Nat → Int64) (a0 : Int32) (Post : Int32 → (Nat → Int32) → (Nat → Int64) → (Nat → Nat → Int32) → (Nat → Nat → Int64) → Prop) (sz : Nat) (hok : wp_Tree_settled I J B D a0 Post) : Met l zy_Tree_settled (Cond.code zy_Tree_settled prog_11_method_7_code 4 (some .int) :: zTB) { frames := 1, cells := 0, slots := 0, locals := 23 } (va_Pc [.ref (ad 6), .int a0] (zPre G K (wX ad K sv I J B D) sz)) (va_Qi (fun (r : Int32) (u : zS) => Post r u.1 u.2.1 u.2.2.1 u.2.2.2) (fun u t => zPost G K (va_A (wX ad K sv I J B D) sz) (wX ad K sv u.1 u.2.1 u.2.2.1 u.2.2.2) t) (va_A (wX ad K sv I J B D) sz)) 0 0 (va_A (wX ad K sv I J B D) sz) := by
  refine zMet (y := zy_Tree_settled) (av := [.ref (ad 6), .int a0]) (maxL := 4) (cc := prog_11_method_7_code) (ret := (some .int)) (W0 := (wX ad K sv I J B D)) (sz := sz) (G := G) (K := K) (wt := zTB) (mc := 0) (ms := 0) (Qf := fun A => va_Qi (fun (r : Int32) (u : zS) => Post r u.1 u.2.1 u.2.2.1 u.2.2.2) (fun u t => zPost G K A (wX ad K sv u.1 u.2.1 u.2.2.1 u.2.2.2) t) A) (by decide) (Nat.le_of_ble_eq_true rfl) ?_
  intro p e s m below meth c ls A hx hb hr hml hts hown hlocks hin hA hK H locs hw hsz hl
  clear hsz
  have hown : s.vm.findClass "LassoFinder$Tree" = some m.cls := hown
  have C : zCx p s m ([.ref (ad 6), .int a0] : List Value).toArray meth c A G K prog_11_method_7_code (some .int) 4 "LassoFinder$Tree" := ⟨hx, hb, hr, hml, hts, hown, hlocks, hA, hK⟩
  have hl : lv_has ls 4 [(0, .ref (ad 6)), (1, .int a0)] := hl
  have hw : zW G A s.heap (wX ad K sv I J B D) H locs := hw
  unfold wp_Tree_settled at hok
  refine lv_iload_n hx hb zd_Tree_settled_0 rfl (lv_at hl 1 rfl) ?_
  refine lv_istore_n hx hb zd_Tree_settled_1 rfl hl (by decide) rfl (fun ls hl => ?_)
  have hl : lv_has ls 4 [(2, .int a0), (0, .ref (ad 6)), (1, .int a0)] := hl
  refine lv_iconst (v := 0) hx hb zd_Tree_settled_2 (by decide) ?_
  refine lv_istore_n hx hb zd_Tree_settled_3 rfl hl (by decide) rfl (fun ls hl => ?_)
  have hl : lv_has ls 4 [(3, .int 0), (2, .int a0), (0, .ref (ad 6)), (1, .int a0)] := hl
  obtain ⟨n9, hok⟩ := hok
  exact wL_Tree_settled_4 G K ad sv a0 Post C n9 a0 0 I J B D ls H locs hok (lv_sub hl [2, 1, 0] rfl) hw
