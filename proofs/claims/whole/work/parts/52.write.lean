theorem zw_235 : Cond.fieldLink "LassoFinder$Text" 19 "LassoFinder$Text" "written" "I" ∈ zTB := z_in (zt_1 _ (List.mem_of_getElem? (i := 39) rfl)) rfl
theorem zw_236 : Cond.fieldLink "LassoFinder$Text" 11 "LassoFinder$Text" "signs" "[C" ∈ zTB := z_in (zt_1 _ (List.mem_of_getElem? (i := 38) rfl)) rfl
theorem zw_237 : Cond.fieldLink "LassoFinder" 10 "LassoFinder" "text" "LLassoFinder$Text;" ∈ zTB := z_in (zt_2 _ (List.mem_of_getElem? (i := 218) rfl)) rfl
theorem zw_238 : Cond.methodLink "LassoFinder" 88 ⟨"LassoFinder$Text", "append", "(J)Z"⟩ ∈ zTB := z_in (zt_3 _ (List.mem_of_getElem? (i := 22) rfl)) rfl
theorem zw_239 : Cond.fieldLink "LassoFinderModel" 193 "LassoFinderModel" "thrown" "I" ∈ zTB := z_in (zt_6 _ (List.mem_of_getElem? (i := 94) rfl)) rfl
theorem zw_240 : Cond.fieldLink "LassoFinderModel" 200 "LassoFinderModel" "length" "I" ∈ zTB := z_in (zt_6 _ (List.mem_of_getElem? (i := 95) rfl)) rfl
theorem zw_241 : Cond.fieldLink "LassoFinderModel" 7 "LassoFinderModel" "text" "[I" ∈ zTB := z_in (zt_6 _ (List.mem_of_getElem? (i := 96) rfl)) rfl
theorem zw_242 : Cond.methodLink "LassoFinderModel" 196 ⟨"LassoFinderModel", "in", "(III)Z"⟩ ∈ zTB := z_in (zt_7 _ (List.mem_of_getElem? (i := 115) rfl)) rfl
theorem zw_243 : Cond.code ⟨"LassoFinder$Text", "append", "(J)Z"⟩ prog_10_method_2_code 6 (some .boolean) ∈ zTB := z_in (zt_3 _ (List.mem_of_getElem? (i := 25) rfl)) rfl
theorem zw_244 : Cond.selects "LassoFinder$Text" ⟨"LassoFinder$Text", "append", "(J)Z"⟩ ⟨"LassoFinder$Text", "append", "(J)Z"⟩ ∈ zTB := z_in (zt_3 _ (List.mem_of_getElem? (i := 24) rfl)) rfl
theorem zw_245 : Cond.instanceMethod ⟨"LassoFinder$Text", "append", "(J)Z"⟩ ∈ zTB := z_in (zt_3 _ (List.mem_of_getElem? (i := 23) rfl)) rfl
theorem zw_246 : Cond.code ⟨"LassoFinderModel", "in", "(III)Z"⟩ prog_14_method_3_code 3 (some .boolean) ∈ zTB := z_in (zt_7 _ (List.mem_of_getElem? (i := 117) rfl)) rfl
theorem zw_247 : Cond.static ⟨"LassoFinderModel", "in", "(III)Z"⟩ ∈ zTB := z_in (zt_7 _ (List.mem_of_getElem? (i := 116) rfl)) rfl
set_option maxHeartbeats 4000000 in
set_option maxRecDepth 100000 in
theorem c_in (l : Launch) (G : va_G) (K : Nat → ClassId) (v : Int32) (lo : Int32) (hi : Int32) (sz : Nat) : Met l zy_LassoFinderModel_in (Cond.code zy_LassoFinderModel_in prog_14_method_3_code 3 (some .boolean) :: zTB) { frames := 0, cells := 0, slots := 0, locals := 0 } (va_Pc [.int v, .int lo, .int hi] (zPre G K [] sz)) (va_Qi (fun (r : Int32) (u : Unit) => r = (zIn v lo hi)) (fun u t => zPost G K (va_A [] sz) [] t) (va_A [] sz)) 0 0 (va_A [] sz) := by
  refine zMet (y := zy_LassoFinderModel_in) (av := [.int v, .int lo, .int hi]) (maxL := 3) (cc := prog_14_method_3_code) (ret := (some .boolean)) (W0 := []) (sz := sz) (G := G) (K := K) (wt := zTB) (mc := 0) (ms := 0) (Qf := fun A => va_Qi (fun (r : Int32) (u : Unit) => r = (zIn v lo hi)) (fun u t => zPost G K A [] t) A) (by decide) (Nat.le_of_ble_eq_true rfl) ?_
  intro p e s m below meth c ls A hx hb hr hml hts hown hlocks hin hA hK H locs hw hsz hl
  clear hsz
  have hown : s.vm.findClass "LassoFinderModel" = some m.cls := hown
  have hl : lv_has ls 3 [(0, .int v), (1, .int lo), (2, .int hi)] := hl
  have hw : zW G A s.heap [] H locs := hw
  refine lv_iload_n hx hb zd_LassoFinderModel_in_0 rfl (lv_at hl 0 rfl) ?_
  refine lv_iload_n hx hb zd_LassoFinderModel_in_1 rfl (lv_at hl 1 rfl) ?_
  refine lv_icmp_lt (tgt := 14) hx hb zd_LassoFinderModel_in_2 (by decide) (fun hc2 => ?_) (fun hc2 => ?_)
  · skip
    refine lv_iconst (v := 0) hx hb zd_LassoFinderModel_in_14 (by decide) ?_
    exact z_iret (u := ()) hx hb hr hlocks rfl hw [] rfl (by decide) (by unfold zIn; rw [if_pos hc2]) (Nat.le_of_ble_eq_true rfl) (Nat.le_of_ble_eq_true rfl) zd_LassoFinderModel_in_15
  · skip
    refine lv_iload_n hx hb zd_LassoFinderModel_in_5 rfl (lv_at hl 0 rfl) ?_
    refine lv_iload_n hx hb zd_LassoFinderModel_in_6 rfl (lv_at hl 2 rfl) ?_
    refine lv_icmp_gt (tgt := 14) hx hb zd_LassoFinderModel_in_7 (by decide) (fun hc7 => ?_) (fun hc7 => ?_)
    · skip
      refine lv_iconst (v := 0) hx hb zd_LassoFinderModel_in_14 (by decide) ?_
      exact z_iret (u := ()) hx hb hr hlocks rfl hw [] rfl (by decide) (by unfold zIn; rw [if_neg hc2, if_pos hc7]) (Nat.le_of_ble_eq_true rfl) (Nat.le_of_ble_eq_true rfl) zd_LassoFinderModel_in_15
    · skip
      refine lv_iconst (v := 1) hx hb zd_LassoFinderModel_in_10 (by decide) ?_
      refine lv_goto (tgt := 15) hx hb zd_LassoFinderModel_in_11 (by decide) ?_
      exact z_iret (u := ()) hx hb hr hlocks rfl hw [] rfl (by decide) (by unfold zIn; rw [if_neg hc2, if_neg hc7]) (Nat.le_of_ble_eq_true rfl) (Nat.le_of_ble_eq_true rfl) zd_LassoFinderModel_in_15
set_option maxHeartbeats 4000000 in
set_option maxRecDepth 100000 in
/-- write: the characters are set behind those that are there, if all are right and there is room -/
theorem c_Text_append (l : Launch) (G : va_G) (K : Nat → ClassId) (t9 : Nat) (sg : Nat) (t9_end : Int32) (t9_at : Int32) (t9_wrongAt : Int32) (f : Nat → Int32) (w : Int64) (n : Nat) (sz : Nat) (hn : n ≤ 240) : Met l zy_Text_append (Cond.code zy_Text_append prog_10_method_2_code 6 (some .boolean) :: zTB) { frames := 0, cells := 0, slots := 0, locals := 0 } (va_Pc [.ref t9, .long w] (zPre G K [(t9, zO 9 [.ref sg, .int (nI n), .int t9_end, .int t9_at, .int t9_wrongAt]), (sg, zC K 240 f)] sz)) (va_Qi (fun (r : Int32) (u : Unit) => r = zWrR w n) (fun u t => zPost G K (va_A [(t9, zO 9 [.ref sg, .int (nI n), .int t9_end, .int t9_at, .int t9_wrongAt]), (sg, zC K 240 f)] sz) [(t9, zO 9 [.ref sg, .int (nI (zWrN w n)), .int t9_end, .int t9_at, .int t9_wrongAt]), (sg, zC K 240 (zWrF w f n))] t) (va_A [(t9, zO 9 [.ref sg, .int (nI n), .int t9_end, .int t9_at, .int t9_wrongAt]), (sg, zC K 240 f)] sz)) 0 0 (va_A [(t9, zO 9 [.ref sg, .int (nI n), .int t9_end, .int t9_at, .int t9_wrongAt]), (sg, zC K 240 f)] sz) := by
  refine zMet (y := zy_Text_append) (av := [.ref t9, .long w]) (maxL := 6) (cc := prog_10_method_2_code) (ret := (some .boolean)) (W0 := [(t9, zO 9 [.ref sg, .int (nI n), .int t9_end, .int t9_at, .int t9_wrongAt]), (sg, zC K 240 f)]) (sz := sz) (G := G) (K := K) (wt := zTB) (mc := 0) (ms := 0) (Qf := fun A => va_Qi (fun (r : Int32) (u : Unit) => r = zWrR w n) (fun u t => zPost G K A [(t9, zO 9 [.ref sg, .int (nI (zWrN w n)), .int t9_end, .int t9_at, .int t9_wrongAt]), (sg, zC K 240 (zWrF w f n))] t) A) (by decide) (Nat.le_of_ble_eq_true rfl) ?_
  intro p e s m below meth c ls A hx hb hr hml hts hown hlocks hin hA hK H locs hw hsz hl
  clear hsz
  have hown : s.vm.findClass "LassoFinder$Text" = some m.cls := hown
  have hl : lv_has ls 6 [(0, .ref t9), (1, .long w)] := hl
  have hw : zW G A s.heap [(t9, zO 9 [.ref sg, .int (nI n), .int t9_end, .int t9_at, .int t9_wrongAt]), (sg, zC K 240 f)] H locs := hw
  refine lv_iconst (v := 0) hx hb zd_Text_append_0 (by decide) ?_
  refine lv_istore_n hx hb zd_Text_append_1 rfl hl (by decide) rfl (fun ls hl => ?_)
  have hl : lv_has ls 6 [(3, .int 0), (0, .ref t9), (1, .long w)] := hl
  refine lv_bipush (v := 56) hx hb zd_Text_append_2 (by decide) ?_
  refine lv_istore hx hb zd_Text_append_4 hl (by decide) rfl (fun ls hl => ?_)
  have hl : lv_has ls 6 [(4, .int 56), (3, .int 0), (0, .ref t9), (1, .long w)] := hl
  suffices hloop : ∀ (r : List Int32) (acc : Nat) (ls : Array Slot) (H : Heap) (locs : List Loc), zSuf r = true → (zOkL w r = false → zOkL w zSh = false) → lv_has ls 6 [(4, .int (zHd r)), (3, .int (nI acc)), (0, .ref t9), (1, .long w)] → zW G A s.heap [(t9, zO 9 [.ref sg, .int (nI n), .int t9_end, .int t9_at, .int t9_wrongAt]), (sg, zC K 240 f)] H locs → (zOkL w r = true → ∀ (ls : Array Slot) (H : Heap) (locs : List Loc), lv_has ls 6 [(3, .int (nI (acc + zSum w r))), (0, .ref t9), (1, .long w)] → zW G A s.heap [(t9, zO 9 [.ref sg, .int (nI n), .int t9_end, .int t9_at, .int t9_wrongAt]), (sg, zC K 240 f)] H locs → W p l e { frames := 0, cells := 0, slots := 0, locals := 0 } s m ([.ref t9, .long w] : List Value).toArray below meth c H locs 0 0 (MQ below (va_Qi (fun (r : Int32) (u : Unit) => r = zWrR w n) (fun u t => zPost G K A [(t9, zO 9 [.ref sg, .int (nI (zWrN w n)), .int t9_end, .int t9_at, .int t9_wrongAt]), (sg, zC K 240 (zWrF w f n))] t) A) ([.ref t9, .long w] : List Value).toArray s 0 0 A) (F0 m 62 ls [])) → W p l e { frames := 0, cells := 0, slots := 0, locals := 0 } s m ([.ref t9, .long w] : List Value).toArray below meth c H locs 0 0 (MQ below (va_Qi (fun (r : Int32) (u : Unit) => r = zWrR w n) (fun u t => zPost G K A [(t9, zO 9 [.ref sg, .int (nI (zWrN w n)), .int t9_end, .int t9_at, .int t9_wrongAt]), (sg, zC K 240 (zWrF w f n))] t) A) ([.ref t9, .long w] : List Value).toArray s 0 0 A) (F0 m 6 ls []) by
    refine hloop zSh 0 ls H locs zSuf_sh (fun h => h) hl hw ?_
    intro hok ls H locs hl hw
    rw [Nat.zero_add] at hl
    have hl : lv_has ls 6 [(3, .int (nI (zSum w zSh))), (0, .ref t9), (1, .long w)] := hl
    refine lv_aload_n hx hb zd_Text_append_62 rfl (lv_at hl 1 rfl) ?_
    refine z_get hx hb hts hown hK hw zZ9 0 rfl 1 (by decide) zw_235 rfl zd_Text_append_63 ?_
    refine lv_iload_n hx hb zd_Text_append_66 rfl (lv_at hl 0 rfl) ?_
    refine lv_iadd hx hb zd_Text_append_67 ?_
    refine lv_sipush (v := 240) hx hb zd_Text_append_68 (by decide) ?_
    refine lv_icmp_le (tgt := 76) hx hb zd_Text_append_71 (by decide) (fun hc71 => ?_) (fun hc71 => ?_)
    · skip
      refine lv_bipush (v := 56) hx hb zd_Text_append_76 (by decide) ?_
      refine lv_istore hx hb zd_Text_append_78 hl (by decide) rfl (fun ls hl => ?_)
      have hl : lv_has ls 6 [(4, .int 56), (3, .int (nI (zSum w zSh))), (0, .ref t9), (1, .long w)] := hl
      have hT : n + zSum w zSh ≤ 240 := (zLe240 hn (zSum_le w zSh)).mp hc71
      suffices hloop2 : ∀ (r : List Int32) (g : Nat → Int32) (k : Nat) (ls : Array Slot) (H : Heap) (locs : List Loc), zSuf r = true → zPutF w r g k = zPutF w zSh f n → k + zSum w r = n + zSum w zSh → lv_has ls 6 [(4, .int (zHd r)), (0, .ref t9), (1, .long w)] → zW G A s.heap [(t9, zO 9 [.ref sg, .int (nI k), .int t9_end, .int t9_at, .int t9_wrongAt]), (sg, zC K 240 g)] H locs → W p l e { frames := 0, cells := 0, slots := 0, locals := 0 } s m ([.ref t9, .long w] : List Value).toArray below meth c H locs 0 0 (MQ below (va_Qi (fun (r : Int32) (u : Unit) => r = zWrR w n) (fun u t => zPost G K A [(t9, zO 9 [.ref sg, .int (nI (zWrN w n)), .int t9_end, .int t9_at, .int t9_wrongAt]), (sg, zC K 240 (zWrF w f n))] t) A) ([.ref t9, .long w] : List Value).toArray s 0 0 A) (F0 m 80 ls []) by
        exact hloop2 zSh f n ls H locs zSuf_sh rfl rfl (lv_sub hl [0, 2, 3] rfl) hw
      intro r
      induction r with
      | nil =>
        intro g k ls H locs hs hg hkn hl hw
        have hl : lv_has ls 6 [(4, .int (-8)), (0, .ref t9), (1, .long w)] := hl
        have hw : zW G A s.heap [(t9, zO 9 [.ref sg, .int (nI k), .int t9_end, .int t9_at, .int t9_wrongAt]), (sg, zC K 240 g)] H locs := hw
        refine lv_iload hx hb zd_Text_append_80 (lv_at hl 0 rfl) ?_
        refine lv_if_lt (tgt := 129) hx hb zd_Text_append_82 (by decide) (fun _ => ?_) (fun h9 => absurd h9 (by decide))
        have hB : zWrB w n = true := zWrB_ok hok hT
        have hN : k = zWrN w n := by unfold zWrN; rw [if_pos hB]; exact (Nat.add_zero k).symm.trans hkn
        have hG : g = zWrF w f n := by unfold zWrF; rw [if_pos hB]; exact hg
        rw [hN, hG] at hw
        have hfin : (1 : Int32) = zWrR w n := by unfold zWrR; rw [hB]; rfl
        have hw : zW G A s.heap [(t9, zO 9 [.ref sg, .int (nI (zWrN w n)), .int t9_end, .int t9_at, .int t9_wrongAt]), (sg, zC K 240 (zWrF w f n))] H locs := hw
        refine lv_iconst (v := 1) hx hb zd_Text_append_129 (by decide) ?_
        exact z_iret (u := ()) hx hb hr hlocks rfl hw [0, 1] rfl (by decide) hfin (Nat.le_of_ble_eq_true rfl) (Nat.le_of_ble_eq_true rfl) zd_Text_append_130
      | cons sh r ih =>
        intro g k ls H locs hs hg hkn hl hw
        obtain ⟨h1, h2, h3⟩ := zSuf_c hs
        have hl : lv_has ls 6 [(4, .int sh), (0, .ref t9), (1, .long w)] := hl
        have hw : zW G A s.heap [(t9, zO 9 [.ref sg, .int (nI k), .int t9_end, .int t9_at, .int t9_wrongAt]), (sg, zC K 240 g)] H locs := hw
        refine lv_iload hx hb zd_Text_append_80 (lv_at hl 0 rfl) ?_
        refine lv_if_lt (tgt := 129) hx hb zd_Text_append_82 (by decide) (fun h9 => absurd h9 h1) (fun _ => ?_)
        refine lv_lload_n hx hb zd_Text_append_85 rfl (lv_at hl 2 rfl) ?_
        refine lv_iload hx hb zd_Text_append_86 (lv_at hl 0 rfl) ?_
        refine lv_lushr hx hb zd_Text_append_88 rfl ?_
        refine lv_l2i hx hb zd_Text_append_89 rfl ?_
        refine lv_sipush (v := 255) hx hb zd_Text_append_90 (by decide) ?_
        refine lv_iand hx hb zd_Text_append_93 ?_
        refine W.eq (g2 := F0 m 94 ls [.int (zB w sh)]) rfl ?_
        refine lv_istore hx hb zd_Text_append_94 hl (by decide) rfl (fun ls hl => ?_)
        have hl : lv_has ls 6 [(5, .int (zB w sh)), (4, .int sh), (0, .ref t9), (1, .long w)] := hl
        refine lv_iload hx hb zd_Text_append_96 (lv_at hl 0 rfl) ?_
        refine lv_if_eq (tgt := 123) hx hb zd_Text_append_98 (by decide) (fun hc98 => ?_) (fun hc98 => ?_)
        · skip
          refine lv_iinc (v := (sh + (-8))) hx hb zd_Text_append_123 hl (k := 1) rfl rfl (by decide) rfl (fun ls hl => ?_)
          have hl : lv_has ls 6 [(4, .int (sh + (-8))), (5, .int (zB w sh)), (0, .ref t9), (1, .long w)] := hl
          refine lv_goto (tgt := 80) hx hb zd_Text_append_126 (by decide) ?_
          rw [zPutF_0 hc98] at hg
          have hkn : k + (zC1 (zB w sh) + zSum w r) = n + zSum w zSh := hkn
          rw [zC1_0 hc98, Nat.zero_add] at hkn
          exact ih g k ls H locs h3 hg hkn (by rw [← h2]; exact lv_sub hl [0, 2, 3] rfl) hw
        · skip
          have hkn9 : k + (zC1 (zB w sh) + zSum w r) = n + zSum w zSh := hkn
          rw [zC1_1 hc98] at hkn9
          refine lv_aload_n hx hb zd_Text_append_101 rfl (lv_at hl 2 rfl) ?_
          refine z_get hx hb hts hown hK hw zZ9 0 rfl 0 (by decide) zw_236 rfl zd_Text_append_102 ?_
          refine lv_aload_n hx hb zd_Text_append_105 rfl (lv_at hl 2 rfl) ?_
          refine z_get hx hb hts hown hK hw zZ9 0 rfl 1 (by decide) zw_235 rfl zd_Text_append_106 ?_
          refine lv_iload hx hb zd_Text_append_109 (lv_at hl 0 rfl) ?_
          refine lv_i2c hx hb zd_Text_append_111 rfl ?_
          refine va_cast hx hb hK hw.1 hw.2.1 hw.2.2 1 3 rfl rfl (vp_in_nI (by omega) (by omega)) zd_Text_append_112 (fun H locs a1 a2 a3 => ?_)
          have hw : zW G A s.heap _ H locs := ⟨a1, a2, a3⟩
          have hw : zW G A s.heap [(t9, zO 9 [.ref sg, .int (nI k), .int t9_end, .int t9_at, .int t9_wrongAt]), (sg, zC K 240 (upd g (nI k).toNatClampNeg (vp_nar .char (((zB w sh).toUInt32 % 65536).toInt32))))] H locs := hw
          refine lv_aload_n hx hb zd_Text_append_113 rfl (lv_at hl 2 rfl) ?_
          refine lv_dup hx hb zd_Text_append_114 rfl ?_
          refine z_get hx hb hts hown hK hw zZ9 0 rfl 1 (by decide) zw_235 rfl zd_Text_append_115 ?_
          refine lv_iconst (v := 1) hx hb zd_Text_append_118 (by decide) ?_
          refine lv_iadd hx hb zd_Text_append_119 ?_
          refine z_put hx hb hts hown hK hw zZ9 0 rfl 1 (by decide) zw_235 rfl rfl rfl (Nat.le_of_ble_eq_true rfl) zd_Text_append_120 (fun H locs hw => ?_)
          have hw : zW G A s.heap [(t9, zO 9 [.ref sg, .int ((nI k) + 1), .int t9_end, .int t9_at, .int t9_wrongAt]), (sg, zC K 240 (upd g (nI k).toNatClampNeg (vp_nar .char (((zB w sh).toUInt32 % 65536).toInt32))))] H locs := hw
          refine lv_iinc (v := (sh + (-8))) hx hb zd_Text_append_123 hl (k := 1) rfl rfl (by decide) rfl (fun ls hl => ?_)
          have hl : lv_has ls 6 [(4, .int (sh + (-8))), (5, .int (zB w sh)), (0, .ref t9), (1, .long w)] := hl
          refine lv_goto (tgt := 80) hx hb zd_Text_append_126 (by decide) ?_
          rw [zPutF_1 hc98] at hg
          rw [zChar] at hw
          rw [nI_clamp (by omega), ← nI_succ] at hw
          exact ih _ (k + 1) ls H locs h3 hg (by omega) (by rw [← h2]; exact lv_sub hl [0, 2, 3] rfl) hw
    · skip
      have hB : zWrB w n = false := zWrB_full (fun h => hc71 ((zLe240 hn (zSum_le w zSh)).mpr h))
      have hN : zWrN w n = n := by unfold zWrN; rw [hB]; rfl
      have hG : zWrF w f n = f := by unfold zWrF; rw [hB]; rfl
      have hw : zW G A s.heap [(t9, zO 9 [.ref sg, .int (nI (zWrN w n)), .int t9_end, .int t9_at, .int t9_wrongAt]), (sg, zC K 240 (zWrF w f n))] H locs := by rw [hN, hG]; exact hw
      have hfin : (0 : Int32) = zWrR w n := by unfold zWrR; rw [hB]; rfl
      have hw : zW G A s.heap [(t9, zO 9 [.ref sg, .int (nI (zWrN w n)), .int t9_end, .int t9_at, .int t9_wrongAt]), (sg, zC K 240 (zWrF w f n))] H locs := hw
      refine lv_iconst (v := 0) hx hb zd_Text_append_74 (by decide) ?_
      exact z_iret (u := ()) hx hb hr hlocks rfl hw [0, 1] rfl (by decide) hfin (Nat.le_of_ble_eq_true rfl) (Nat.le_of_ble_eq_true rfl) zd_Text_append_75
  intro r
  induction r with
  | nil =>
    intro acc ls H locs hs hbk hl hw kk
    have hl : lv_has ls 6 [(4, .int (-8)), (3, .int (nI acc)), (0, .ref t9), (1, .long w)] := hl
    refine lv_iload hx hb zd_Text_append_6 (lv_at hl 0 rfl) ?_
    refine lv_if_lt (tgt := 62) hx hb zd_Text_append_8 (by decide) (fun _ => ?_) (fun h9 => absurd h9 (by decide))
    exact kk rfl ls H locs (lv_sub hl [1, 2, 3] rfl) hw
  | cons sh r ih =>
    intro acc ls H locs hs hbk hl hw kk
    obtain ⟨h1, h2, h3⟩ := zSuf_c hs
    have hl : lv_has ls 6 [(4, .int sh), (3, .int (nI acc)), (0, .ref t9), (1, .long w)] := hl
    refine lv_iload hx hb zd_Text_append_6 (lv_at hl 0 rfl) ?_
    refine lv_if_lt (tgt := 62) hx hb zd_Text_append_8 (by decide) (fun h9 => absurd h9 h1) (fun _ => ?_)
    refine lv_lload_n hx hb zd_Text_append_11 rfl (lv_at hl 3 rfl) ?_
    refine lv_iload hx hb zd_Text_append_12 (lv_at hl 0 rfl) ?_
    refine lv_lushr hx hb zd_Text_append_14 rfl ?_
    refine lv_l2i hx hb zd_Text_append_15 rfl ?_
    refine lv_sipush (v := 255) hx hb zd_Text_append_16 (by decide) ?_
    refine lv_iand hx hb zd_Text_append_19 ?_
    refine W.eq (g2 := F0 m 20 ls [.int (zB w sh)]) rfl ?_
    refine lv_istore hx hb zd_Text_append_20 hl (by decide) rfl (fun ls hl => ?_)
    have hl : lv_has ls 6 [(5, .int (zB w sh)), (4, .int sh), (3, .int (nI acc)), (0, .ref t9), (1, .long w)] := hl
    refine lv_iload hx hb zd_Text_append_22 (lv_at hl 0 rfl) ?_
    refine lv_if_eq (tgt := 43) hx hb zd_Text_append_24 (by decide) (fun hc24 => ?_) (fun hc24 => ?_)
    · skip
      refine lv_iload_n hx hb zd_Text_append_43 rfl (lv_at hl 2 rfl) ?_
      refine lv_iload hx hb zd_Text_append_44 (lv_at hl 0 rfl) ?_
      refine lv_if_ne (tgt := 53) hx hb zd_Text_append_46 (by decide) (fun h9 => absurd h9 (fun h => h hc24)) (fun _ => ?_)
      refine lv_iconst (v := 0) hx hb zd_Text_append_49 (by decide) ?_
      refine lv_goto (tgt := 54) hx hb zd_Text_append_50 (by decide) ?_
      refine lv_iadd hx hb zd_Text_append_54 ?_
      refine lv_istore_n hx hb zd_Text_append_55 rfl hl (by decide) rfl (fun ls hl => ?_)
      have hl : lv_has ls 6 [(3, .int ((nI acc) + 0)), (5, .int (zB w sh)), (4, .int sh), (0, .ref t9), (1, .long w)] := hl
      refine lv_iinc (v := (sh + (-8))) hx hb zd_Text_append_56 hl (k := 2) rfl rfl (by decide) rfl (fun ls hl => ?_)
      have hl : lv_has ls 6 [(4, .int (sh + (-8))), (3, .int ((nI acc) + 0)), (5, .int (zB w sh)), (0, .ref t9), (1, .long w)] := hl
      refine lv_goto (tgt := 6) hx hb zd_Text_append_59 (by decide) ?_
      refine ih (acc + zC1 (zB w sh)) ls H locs h3 (fun h => hbk (zOk_r h)) (by rw [← h2, zAdd0 hc24]; exact lv_sub hl [0, 1, 3, 4] rfl) hw (fun hok ls H locs hl hw => kk (zOk_c (zBadB_z hc24) hok) ls H locs (by rw [Nat.add_assoc] at hl; exact hl) hw)
    · skip
      refine lv_iload hx hb zd_Text_append_27 (lv_at hl 0 rfl) ?_
      refine lv_bipush (v := 33) hx hb zd_Text_append_29 (by decide) ?_
      refine lv_icmp_lt (tgt := 41) hx hb zd_Text_append_31 (by decide) (fun hc31 => ?_) (fun hc31 => ?_)
      · skip
        have hB : zWrB w n = false := zWrB_bad (hbk (zOk_b (zBadB_t hc24 (Or.inl hc31))))
        have hN : zWrN w n = n := by unfold zWrN; rw [hB]; rfl
        have hG : zWrF w f n = f := by unfold zWrF; rw [hB]; rfl
        have hw : zW G A s.heap [(t9, zO 9 [.ref sg, .int (nI (zWrN w n)), .int t9_end, .int t9_at, .int t9_wrongAt]), (sg, zC K 240 (zWrF w f n))] H locs := by rw [hN, hG]; exact hw
        have hfin : (0 : Int32) = zWrR w n := by unfold zWrR; rw [hB]; rfl
        have hw : zW G A s.heap [(t9, zO 9 [.ref sg, .int (nI (zWrN w n)), .int t9_end, .int t9_at, .int t9_wrongAt]), (sg, zC K 240 (zWrF w f n))] H locs := hw
        refine lv_iconst (v := 0) hx hb zd_Text_append_41 (by decide) ?_
        exact z_iret (u := ()) hx hb hr hlocks rfl hw [0, 1] rfl (by decide) hfin (Nat.le_of_ble_eq_true rfl) (Nat.le_of_ble_eq_true rfl) zd_Text_append_42
      · skip
        refine lv_iload hx hb zd_Text_append_34 (lv_at hl 0 rfl) ?_
        refine lv_bipush (v := 126) hx hb zd_Text_append_36 (by decide) ?_
        refine lv_icmp_le (tgt := 43) hx hb zd_Text_append_38 (by decide) (fun hc38 => ?_) (fun hc38 => ?_)
        · skip
          refine lv_iload_n hx hb zd_Text_append_43 rfl (lv_at hl 2 rfl) ?_
          refine lv_iload hx hb zd_Text_append_44 (lv_at hl 0 rfl) ?_
          refine lv_if_ne (tgt := 53) hx hb zd_Text_append_46 (by decide) (fun _ => ?_) (fun h9 => absurd h9 hc24)
          refine lv_iconst (v := 1) hx hb zd_Text_append_53 (by decide) ?_
          refine lv_iadd hx hb zd_Text_append_54 ?_
          refine lv_istore_n hx hb zd_Text_append_55 rfl hl (by decide) rfl (fun ls hl => ?_)
          have hl : lv_has ls 6 [(3, .int ((nI acc) + 1)), (5, .int (zB w sh)), (4, .int sh), (0, .ref t9), (1, .long w)] := hl
          refine lv_iinc (v := (sh + (-8))) hx hb zd_Text_append_56 hl (k := 2) rfl rfl (by decide) rfl (fun ls hl => ?_)
          have hl : lv_has ls 6 [(4, .int (sh + (-8))), (3, .int ((nI acc) + 1)), (5, .int (zB w sh)), (0, .ref t9), (1, .long w)] := hl
          refine lv_goto (tgt := 6) hx hb zd_Text_append_59 (by decide) ?_
          refine ih (acc + zC1 (zB w sh)) ls H locs h3 (fun h => hbk (zOk_r h)) (by rw [← h2, zAdd1 hc24]; exact lv_sub hl [0, 1, 3, 4] rfl) hw (fun hok ls H locs hl hw => kk (zOk_c (zBadB_f hc31 hc38) hok) ls H locs (by rw [Nat.add_assoc] at hl; exact hl) hw)
        · skip
          have hB : zWrB w n = false := zWrB_bad (hbk (zOk_b (zBadB_t hc24 (Or.inr (Int32.not_le.mp hc38)))))
          have hN : zWrN w n = n := by unfold zWrN; rw [hB]; rfl
          have hG : zWrF w f n = f := by unfold zWrF; rw [hB]; rfl
          have hw : zW G A s.heap [(t9, zO 9 [.ref sg, .int (nI (zWrN w n)), .int t9_end, .int t9_at, .int t9_wrongAt]), (sg, zC K 240 (zWrF w f n))] H locs := by rw [hN, hG]; exact hw
          have hfin : (0 : Int32) = zWrR w n := by unfold zWrR; rw [hB]; rfl
          have hw : zW G A s.heap [(t9, zO 9 [.ref sg, .int (nI (zWrN w n)), .int t9_end, .int t9_at, .int t9_wrongAt]), (sg, zC K 240 (zWrF w f n))] H locs := hw
          refine lv_iconst (v := 0) hx hb zd_Text_append_41 (by decide) ?_
          exact z_iret (u := ()) hx hb hr hlocks rfl hw [0, 1] rfl (by decide) hfin (Nat.le_of_ble_eq_true rfl) (Nat.le_of_ble_eq_true rfl) zd_Text_append_42
set_option maxHeartbeats 4000000 in
set_option maxRecDepth 100000 in
theorem c_write (l : Launch) (G : va_G) (K : Nat → ClassId) (x9 : Nat) (t9 : Nat) (sg : Nat) (x9_names : Value) (x9_program : Value) (x9_reader : Value) (x9_situation : Value) (x9_graph : Value) (x9_asked : Value) (x9_truths : Value) (x9_search : Value) (x9_walked : Value) (x9_walkLength : Int32) (x9_hasModel : Int32) (x9_hasFormula : Int32) (t9_end : Int32) (t9_at : Int32) (t9_wrongAt : Int32) (f : Nat → Int32) (w : Int64) (n : Nat) (sz : Nat) (hn : n ≤ 240) : Met l zy_LassoFinder_write (Cond.code zy_LassoFinder_write prog_1_method_2_code 3 (some .boolean) :: zTB) { frames := 1, cells := 0, slots := 0, locals := 25 } (va_Pc [.ref x9, .long w] (zPre G K [(x9, zO 0 [.ref t9, x9_names, x9_program, x9_reader, x9_situation, x9_graph, x9_asked, x9_truths, x9_search, x9_walked, .int x9_walkLength, .int x9_hasModel, .int x9_hasFormula]), (t9, zO 9 [.ref sg, .int (nI n), .int t9_end, .int t9_at, .int t9_wrongAt]), (sg, zC K 240 f)] sz)) (va_Qi (fun (r : Int32) (u : Unit) => r = zWrR w n) (fun u t => zPost G K (va_A [(x9, zO 0 [.ref t9, x9_names, x9_program, x9_reader, x9_situation, x9_graph, x9_asked, x9_truths, x9_search, x9_walked, .int x9_walkLength, .int x9_hasModel, .int x9_hasFormula]), (t9, zO 9 [.ref sg, .int (nI n), .int t9_end, .int t9_at, .int t9_wrongAt]), (sg, zC K 240 f)] sz) [(x9, zO 0 [.ref t9, x9_names, x9_program, x9_reader, x9_situation, x9_graph, x9_asked, x9_truths, x9_search, x9_walked, .int x9_walkLength, .int x9_hasModel, .int x9_hasFormula]), (t9, zO 9 [.ref sg, .int (nI (zWrN w n)), .int t9_end, .int t9_at, .int t9_wrongAt]), (sg, zC K 240 (zWrF w f n))] t) (va_A [(x9, zO 0 [.ref t9, x9_names, x9_program, x9_reader, x9_situation, x9_graph, x9_asked, x9_truths, x9_search, x9_walked, .int x9_walkLength, .int x9_hasModel, .int x9_hasFormula]), (t9, zO 9 [.ref sg, .int (nI n), .int t9_end, .int t9_at, .int t9_wrongAt]), (sg, zC K 240 f)] sz)) 0 0 (va_A [(x9, zO 0 [.ref t9, x9_names, x9_program, x9_reader, x9_situation, x9_graph, x9_asked, x9_truths, x9_search, x9_walked, .int x9_walkLength, .int x9_hasModel, .int x9_hasFormula]), (t9, zO 9 [.ref sg, .int (nI n), .int t9_end, .int t9_at, .int t9_wrongAt]), (sg, zC K 240 f)] sz) := by
  refine zMet (y := zy_LassoFinder_write) (av := [.ref x9, .long w]) (maxL := 3) (cc := prog_1_method_2_code) (ret := (some .boolean)) (W0 := [(x9, zO 0 [.ref t9, x9_names, x9_program, x9_reader, x9_situation, x9_graph, x9_asked, x9_truths, x9_search, x9_walked, .int x9_walkLength, .int x9_hasModel, .int x9_hasFormula]), (t9, zO 9 [.ref sg, .int (nI n), .int t9_end, .int t9_at, .int t9_wrongAt]), (sg, zC K 240 f)]) (sz := sz) (G := G) (K := K) (wt := zTB) (mc := 0) (ms := 0) (Qf := fun A => va_Qi (fun (r : Int32) (u : Unit) => r = zWrR w n) (fun u t => zPost G K A [(x9, zO 0 [.ref t9, x9_names, x9_program, x9_reader, x9_situation, x9_graph, x9_asked, x9_truths, x9_search, x9_walked, .int x9_walkLength, .int x9_hasModel, .int x9_hasFormula]), (t9, zO 9 [.ref sg, .int (nI (zWrN w n)), .int t9_end, .int t9_at, .int t9_wrongAt]), (sg, zC K 240 (zWrF w f n))] t) A) (by decide) (Nat.le_of_ble_eq_true rfl) ?_
  intro p e s m below meth c ls A hx hb hr hml hts hown hlocks hin hA hK H locs hw hsz hl
  clear hsz
  have hown : s.vm.findClass "LassoFinder" = some m.cls := hown
  have hl : lv_has ls 3 [(0, .ref x9), (1, .long w)] := hl
  have hw : zW G A s.heap [(x9, zO 0 [.ref t9, x9_names, x9_program, x9_reader, x9_situation, x9_graph, x9_asked, x9_truths, x9_search, x9_walked, .int x9_walkLength, .int x9_hasModel, .int x9_hasFormula]), (t9, zO 9 [.ref sg, .int (nI n), .int t9_end, .int t9_at, .int t9_wrongAt]), (sg, zC K 240 f)] H locs := hw
  refine lv_aload_n hx hb zd_LassoFinder_write_0 rfl (lv_at hl 0 rfl) ?_
  refine z_get hx hb hts hown hK hw zZ0 0 rfl 0 (by decide) zw_237 rfl zd_LassoFinder_write_1 ?_
  refine lv_lload_n hx hb zd_LassoFinder_write_4 rfl (lv_at hl 1 rfl) ?_
  refine z_calli (w1 := fun (u5 : Unit) => [(t9, zO 9 [.ref sg, .int (nI (zWrN w n)), .int t9_end, .int t9_at, .int t9_wrongAt]), (sg, zC K 240 (zWrF w f n))]) (wr := [(x9, zO 0 [.ref t9, x9_names, x9_program, x9_reader, x9_situation, x9_graph, x9_asked, x9_truths, x9_search, x9_walked, .int x9_walkLength, .int x9_hasModel, .int x9_hasFormula])]) (z_runV (q0 := 1) (wc := [(t9, zO 9 [.ref sg, .int (nI n), .int t9_end, .int t9_at, .int t9_wrongAt]), (sg, zC K 240 f)]) (As := [.long w]) (rest := []) ⟨hx, hb, hml, hown, hts⟩ (c_Text_append l G K t9 sg t9_end t9_at t9_wrongAt f w n H.size hn) zf_Text_append zw_238 ⟨Nat.le_of_ble_eq_true rfl, Nat.le_of_ble_eq_true rfl⟩ hK hw [1, 2] rfl (by decide) rfl rfl rfl hl.1 rfl (Nat.le_of_ble_eq_true rfl) zd_LassoFinder_write_5 ⟨Nat.le_of_ble_eq_true rfl, Nat.le_of_ble_eq_true rfl⟩) hw hA [1, 2] [0] rfl rfl (by decide) (by decide) (fun r5 u5 H locs hu hw => ?_)
  obtain rfl := hu
  have hw : zW G A s.heap [(x9, zO 0 [.ref t9, x9_names, x9_program, x9_reader, x9_situation, x9_graph, x9_asked, x9_truths, x9_search, x9_walked, .int x9_walkLength, .int x9_hasModel, .int x9_hasFormula]), (t9, zO 9 [.ref sg, .int (nI (zWrN w n)), .int t9_end, .int t9_at, .int t9_wrongAt]), (sg, zC K 240 (zWrF w f n))] H locs := hw
  exact z_iret (u := ()) hx hb hr hlocks (zWrR_nar w n) hw [0, 1, 2] rfl (by decide) rfl (Nat.le_of_ble_eq_true rfl) (Nat.le_of_ble_eq_true rfl) zd_LassoFinder_write_8
set_option maxHeartbeats 4000000 in
set_option maxRecDepth 100000 in
/-- write: the characters are set behind those that are there, if all are right and there is room -/
theorem c_m_write (l : Launch) (G : va_G) (K : Nat → ClassId) (m9 : Nat) (sg : Nat) (m9_thrown : Int32) (m9_at : Int32) (m9_bad : Int32) (m9_place : Int32) (m9_there : Int32) (m9_vars : Int32) (m9_chans : Int32) (m9_var : Value) (m9_chan : Value) (m9_initial : Value) (m9_slots : Value) (m9_nodes : Int32) (m9_kind : Value) (m9_process : Value) (m9_parent : Value) (m9_sibling : Value) (m9_firstOf : Value) (m9_atomic : Value) (m9_point : Value) (m9_arg : Value) (m9_into : Value) (m9_begin : Value) (m9_end : Value) (m9_where : Value) (m9_behind : Value) (m9_basics : Int32) (m9_basicNode : Value) (m9_basicOf : Value) (m9_processes : Int32) (m9_points : Value) (m9_firstNode : Value) (m9_labels : Value) (m9_nodeAt : Value) (m9_mask : Value) (m9_codes : Int32) (m9_code : Value) (m9_open : Int32) (m9_block : Value) (m9_blockNode : Value) (m9_latest : Value) (m9_waiting : Int32) (m9_signs : Value) (m9_states : Int32) (m9_steps : Int32) (m9_over : Int32) (m9_key : Value) (m9_first : Value) (m9_target : Value) (m9_source : Value) (m9_doer : Value) (m9_receiver : Value) (m9_firstInto : Value) (m9_stepInto : Value) (m9_value : Value) (m9_many : Value) (m9_message : Value) (m9_stands : Value) (m9_holds : Int32) (m9_stack : Value) (m9_asked : Int32) (m9_size : Int32) (m9_sign : Value) (m9_turns : Int32) (m9_met : Int32) (m9_kept : Value) (m9_modelCodes : Int32) (m9_turn : Value) (m9_atoms : Int32) (m9_atomProcess : Value) (m9_atomPoint : Value) (m9_atomBegin : Value) (m9_atomEnd : Value) (m9_look : Value) (m9_deep : Value) (m9_good : Value) (m9_far : Value) (m9_stem : Int32) (m9_cycle : Int32) (m9_row : Value) (m9_tried : Value) (m9_walked : Int32) (m9_path : Value) (f : Nat → Int32) (w : Int64) (n : Nat) (sz : Nat) (hn : n ≤ 240) : Met l zy_LassoFinderModel_write (Cond.code zy_LassoFinderModel_write prog_14_method_4_code 6 (some .boolean) :: zTB) { frames := 1, cells := 0, slots := 0, locals := 22 } (va_Pc [.ref m9, .long w] (zPre G K [(m9, zO 12 [.int m9_thrown, .int (nI n), .ref sg, .int m9_at, .int m9_bad, .int m9_place, .int m9_there, .int m9_vars, .int m9_chans, m9_var, m9_chan, m9_initial, m9_slots, .int m9_nodes, m9_kind, m9_process, m9_parent, m9_sibling, m9_firstOf, m9_atomic, m9_point, m9_arg, m9_into, m9_begin, m9_end, m9_where, m9_behind, .int m9_basics, m9_basicNode, m9_basicOf, .int m9_processes, m9_points, m9_firstNode, m9_labels, m9_nodeAt, m9_mask, .int m9_codes, m9_code, .int m9_open, m9_block, m9_blockNode, m9_latest, .int m9_waiting, m9_signs, .int m9_states, .int m9_steps, .int m9_over, m9_key, m9_first, m9_target, m9_source, m9_doer, m9_receiver, m9_firstInto, m9_stepInto, m9_value, m9_many, m9_message, m9_stands, .int m9_holds, m9_stack, .int m9_asked, .int m9_size, m9_sign, .int m9_turns, .int m9_met, m9_kept, .int m9_modelCodes, m9_turn, .int m9_atoms, m9_atomProcess, m9_atomPoint, m9_atomBegin, m9_atomEnd, m9_look, m9_deep, m9_good, m9_far, .int m9_stem, .int m9_cycle, m9_row, m9_tried, .int m9_walked, m9_path]), (sg, zI K 240 f)] sz)) (va_Qi (fun (r : Int32) (u : Unit) => r = zWrR w n) (fun u t => zPost G K (va_A [(m9, zO 12 [.int m9_thrown, .int (nI n), .ref sg, .int m9_at, .int m9_bad, .int m9_place, .int m9_there, .int m9_vars, .int m9_chans, m9_var, m9_chan, m9_initial, m9_slots, .int m9_nodes, m9_kind, m9_process, m9_parent, m9_sibling, m9_firstOf, m9_atomic, m9_point, m9_arg, m9_into, m9_begin, m9_end, m9_where, m9_behind, .int m9_basics, m9_basicNode, m9_basicOf, .int m9_processes, m9_points, m9_firstNode, m9_labels, m9_nodeAt, m9_mask, .int m9_codes, m9_code, .int m9_open, m9_block, m9_blockNode, m9_latest, .int m9_waiting, m9_signs, .int m9_states, .int m9_steps, .int m9_over, m9_key, m9_first, m9_target, m9_source, m9_doer, m9_receiver, m9_firstInto, m9_stepInto, m9_value, m9_many, m9_message, m9_stands, .int m9_holds, m9_stack, .int m9_asked, .int m9_size, m9_sign, .int m9_turns, .int m9_met, m9_kept, .int m9_modelCodes, m9_turn, .int m9_atoms, m9_atomProcess, m9_atomPoint, m9_atomBegin, m9_atomEnd, m9_look, m9_deep, m9_good, m9_far, .int m9_stem, .int m9_cycle, m9_row, m9_tried, .int m9_walked, m9_path]), (sg, zI K 240 f)] sz) [(m9, zO 12 [.int 0, .int (nI (zWrN w n)), .ref sg, .int m9_at, .int m9_bad, .int m9_place, .int m9_there, .int m9_vars, .int m9_chans, m9_var, m9_chan, m9_initial, m9_slots, .int m9_nodes, m9_kind, m9_process, m9_parent, m9_sibling, m9_firstOf, m9_atomic, m9_point, m9_arg, m9_into, m9_begin, m9_end, m9_where, m9_behind, .int m9_basics, m9_basicNode, m9_basicOf, .int m9_processes, m9_points, m9_firstNode, m9_labels, m9_nodeAt, m9_mask, .int m9_codes, m9_code, .int m9_open, m9_block, m9_blockNode, m9_latest, .int m9_waiting, m9_signs, .int m9_states, .int m9_steps, .int m9_over, m9_key, m9_first, m9_target, m9_source, m9_doer, m9_receiver, m9_firstInto, m9_stepInto, m9_value, m9_many, m9_message, m9_stands, .int m9_holds, m9_stack, .int m9_asked, .int m9_size, m9_sign, .int m9_turns, .int m9_met, m9_kept, .int m9_modelCodes, m9_turn, .int m9_atoms, m9_atomProcess, m9_atomPoint, m9_atomBegin, m9_atomEnd, m9_look, m9_deep, m9_good, m9_far, .int m9_stem, .int m9_cycle, m9_row, m9_tried, .int m9_walked, m9_path]), (sg, zI K 240 (zWrF w f n))] t) (va_A [(m9, zO 12 [.int m9_thrown, .int (nI n), .ref sg, .int m9_at, .int m9_bad, .int m9_place, .int m9_there, .int m9_vars, .int m9_chans, m9_var, m9_chan, m9_initial, m9_slots, .int m9_nodes, m9_kind, m9_process, m9_parent, m9_sibling, m9_firstOf, m9_atomic, m9_point, m9_arg, m9_into, m9_begin, m9_end, m9_where, m9_behind, .int m9_basics, m9_basicNode, m9_basicOf, .int m9_processes, m9_points, m9_firstNode, m9_labels, m9_nodeAt, m9_mask, .int m9_codes, m9_code, .int m9_open, m9_block, m9_blockNode, m9_latest, .int m9_waiting, m9_signs, .int m9_states, .int m9_steps, .int m9_over, m9_key, m9_first, m9_target, m9_source, m9_doer, m9_receiver, m9_firstInto, m9_stepInto, m9_value, m9_many, m9_message, m9_stands, .int m9_holds, m9_stack, .int m9_asked, .int m9_size, m9_sign, .int m9_turns, .int m9_met, m9_kept, .int m9_modelCodes, m9_turn, .int m9_atoms, m9_atomProcess, m9_atomPoint, m9_atomBegin, m9_atomEnd, m9_look, m9_deep, m9_good, m9_far, .int m9_stem, .int m9_cycle, m9_row, m9_tried, .int m9_walked, m9_path]), (sg, zI K 240 f)] sz)) 0 0 (va_A [(m9, zO 12 [.int m9_thrown, .int (nI n), .ref sg, .int m9_at, .int m9_bad, .int m9_place, .int m9_there, .int m9_vars, .int m9_chans, m9_var, m9_chan, m9_initial, m9_slots, .int m9_nodes, m9_kind, m9_process, m9_parent, m9_sibling, m9_firstOf, m9_atomic, m9_point, m9_arg, m9_into, m9_begin, m9_end, m9_where, m9_behind, .int m9_basics, m9_basicNode, m9_basicOf, .int m9_processes, m9_points, m9_firstNode, m9_labels, m9_nodeAt, m9_mask, .int m9_codes, m9_code, .int m9_open, m9_block, m9_blockNode, m9_latest, .int m9_waiting, m9_signs, .int m9_states, .int m9_steps, .int m9_over, m9_key, m9_first, m9_target, m9_source, m9_doer, m9_receiver, m9_firstInto, m9_stepInto, m9_value, m9_many, m9_message, m9_stands, .int m9_holds, m9_stack, .int m9_asked, .int m9_size, m9_sign, .int m9_turns, .int m9_met, m9_kept, .int m9_modelCodes, m9_turn, .int m9_atoms, m9_atomProcess, m9_atomPoint, m9_atomBegin, m9_atomEnd, m9_look, m9_deep, m9_good, m9_far, .int m9_stem, .int m9_cycle, m9_row, m9_tried, .int m9_walked, m9_path]), (sg, zI K 240 f)] sz) := by
  refine zMet (y := zy_LassoFinderModel_write) (av := [.ref m9, .long w]) (maxL := 6) (cc := prog_14_method_4_code) (ret := (some .boolean)) (W0 := [(m9, zO 12 [.int m9_thrown, .int (nI n), .ref sg, .int m9_at, .int m9_bad, .int m9_place, .int m9_there, .int m9_vars, .int m9_chans, m9_var, m9_chan, m9_initial, m9_slots, .int m9_nodes, m9_kind, m9_process, m9_parent, m9_sibling, m9_firstOf, m9_atomic, m9_point, m9_arg, m9_into, m9_begin, m9_end, m9_where, m9_behind, .int m9_basics, m9_basicNode, m9_basicOf, .int m9_processes, m9_points, m9_firstNode, m9_labels, m9_nodeAt, m9_mask, .int m9_codes, m9_code, .int m9_open, m9_block, m9_blockNode, m9_latest, .int m9_waiting, m9_signs, .int m9_states, .int m9_steps, .int m9_over, m9_key, m9_first, m9_target, m9_source, m9_doer, m9_receiver, m9_firstInto, m9_stepInto, m9_value, m9_many, m9_message, m9_stands, .int m9_holds, m9_stack, .int m9_asked, .int m9_size, m9_sign, .int m9_turns, .int m9_met, m9_kept, .int m9_modelCodes, m9_turn, .int m9_atoms, m9_atomProcess, m9_atomPoint, m9_atomBegin, m9_atomEnd, m9_look, m9_deep, m9_good, m9_far, .int m9_stem, .int m9_cycle, m9_row, m9_tried, .int m9_walked, m9_path]), (sg, zI K 240 f)]) (sz := sz) (G := G) (K := K) (wt := zTB) (mc := 0) (ms := 0) (Qf := fun A => va_Qi (fun (r : Int32) (u : Unit) => r = zWrR w n) (fun u t => zPost G K A [(m9, zO 12 [.int 0, .int (nI (zWrN w n)), .ref sg, .int m9_at, .int m9_bad, .int m9_place, .int m9_there, .int m9_vars, .int m9_chans, m9_var, m9_chan, m9_initial, m9_slots, .int m9_nodes, m9_kind, m9_process, m9_parent, m9_sibling, m9_firstOf, m9_atomic, m9_point, m9_arg, m9_into, m9_begin, m9_end, m9_where, m9_behind, .int m9_basics, m9_basicNode, m9_basicOf, .int m9_processes, m9_points, m9_firstNode, m9_labels, m9_nodeAt, m9_mask, .int m9_codes, m9_code, .int m9_open, m9_block, m9_blockNode, m9_latest, .int m9_waiting, m9_signs, .int m9_states, .int m9_steps, .int m9_over, m9_key, m9_first, m9_target, m9_source, m9_doer, m9_receiver, m9_firstInto, m9_stepInto, m9_value, m9_many, m9_message, m9_stands, .int m9_holds, m9_stack, .int m9_asked, .int m9_size, m9_sign, .int m9_turns, .int m9_met, m9_kept, .int m9_modelCodes, m9_turn, .int m9_atoms, m9_atomProcess, m9_atomPoint, m9_atomBegin, m9_atomEnd, m9_look, m9_deep, m9_good, m9_far, .int m9_stem, .int m9_cycle, m9_row, m9_tried, .int m9_walked, m9_path]), (sg, zI K 240 (zWrF w f n))] t) A) (by decide) (Nat.le_of_ble_eq_true rfl) ?_
  intro p e s m below meth c ls A hx hb hr hml hts hown hlocks hin hA hK H locs hw hsz hl
  clear hsz
  have hown : s.vm.findClass "LassoFinderModel" = some m.cls := hown
  have hl : lv_has ls 6 [(0, .ref m9), (1, .long w)] := hl
  have hw : zW G A s.heap [(m9, zO 12 [.int m9_thrown, .int (nI n), .ref sg, .int m9_at, .int m9_bad, .int m9_place, .int m9_there, .int m9_vars, .int m9_chans, m9_var, m9_chan, m9_initial, m9_slots, .int m9_nodes, m9_kind, m9_process, m9_parent, m9_sibling, m9_firstOf, m9_atomic, m9_point, m9_arg, m9_into, m9_begin, m9_end, m9_where, m9_behind, .int m9_basics, m9_basicNode, m9_basicOf, .int m9_processes, m9_points, m9_firstNode, m9_labels, m9_nodeAt, m9_mask, .int m9_codes, m9_code, .int m9_open, m9_block, m9_blockNode, m9_latest, .int m9_waiting, m9_signs, .int m9_states, .int m9_steps, .int m9_over, m9_key, m9_first, m9_target, m9_source, m9_doer, m9_receiver, m9_firstInto, m9_stepInto, m9_value, m9_many, m9_message, m9_stands, .int m9_holds, m9_stack, .int m9_asked, .int m9_size, m9_sign, .int m9_turns, .int m9_met, m9_kept, .int m9_modelCodes, m9_turn, .int m9_atoms, m9_atomProcess, m9_atomPoint, m9_atomBegin, m9_atomEnd, m9_look, m9_deep, m9_good, m9_far, .int m9_stem, .int m9_cycle, m9_row, m9_tried, .int m9_walked, m9_path]), (sg, zI K 240 f)] H locs := hw
  refine lv_aload_n hx hb zd_LassoFinderModel_write_0 rfl (lv_at hl 0 rfl) ?_
  refine lv_iconst (v := 0) hx hb zd_LassoFinderModel_write_1 (by decide) ?_
  refine z_put hx hb hts hown hK hw zZ12 0 rfl 0 (by decide) zw_239 rfl rfl rfl (Nat.le_of_ble_eq_true rfl) zd_LassoFinderModel_write_2 (fun H locs hw => ?_)
  have hw : zW G A s.heap [(m9, zO 12 [.int 0, .int (nI n), .ref sg, .int m9_at, .int m9_bad, .int m9_place, .int m9_there, .int m9_vars, .int m9_chans, m9_var, m9_chan, m9_initial, m9_slots, .int m9_nodes, m9_kind, m9_process, m9_parent, m9_sibling, m9_firstOf, m9_atomic, m9_point, m9_arg, m9_into, m9_begin, m9_end, m9_where, m9_behind, .int m9_basics, m9_basicNode, m9_basicOf, .int m9_processes, m9_points, m9_firstNode, m9_labels, m9_nodeAt, m9_mask, .int m9_codes, m9_code, .int m9_open, m9_block, m9_blockNode, m9_latest, .int m9_waiting, m9_signs, .int m9_states, .int m9_steps, .int m9_over, m9_key, m9_first, m9_target, m9_source, m9_doer, m9_receiver, m9_firstInto, m9_stepInto, m9_value, m9_many, m9_message, m9_stands, .int m9_holds, m9_stack, .int m9_asked, .int m9_size, m9_sign, .int m9_turns, .int m9_met, m9_kept, .int m9_modelCodes, m9_turn, .int m9_atoms, m9_atomProcess, m9_atomPoint, m9_atomBegin, m9_atomEnd, m9_look, m9_deep, m9_good, m9_far, .int m9_stem, .int m9_cycle, m9_row, m9_tried, .int m9_walked, m9_path]), (sg, zI K 240 f)] H locs := hw
  refine lv_iconst (v := 0) hx hb zd_LassoFinderModel_write_5 (by decide) ?_
  refine lv_istore_n hx hb zd_LassoFinderModel_write_6 rfl hl (by decide) rfl (fun ls hl => ?_)
  have hl : lv_has ls 6 [(3, .int 0), (0, .ref m9), (1, .long w)] := hl
  refine lv_bipush (v := 56) hx hb zd_LassoFinderModel_write_7 (by decide) ?_
  refine lv_istore hx hb zd_LassoFinderModel_write_9 hl (by decide) rfl (fun ls hl => ?_)
  have hl : lv_has ls 6 [(4, .int 56), (3, .int 0), (0, .ref m9), (1, .long w)] := hl
  suffices hloop : ∀ (r : List Int32) (acc : Nat) (ls : Array Slot) (H : Heap) (locs : List Loc), zSuf r = true → (zOkL w r = false → zOkL w zSh = false) → lv_has ls 6 [(4, .int (zHd r)), (3, .int (nI acc)), (0, .ref m9), (1, .long w)] → zW G A s.heap [(m9, zO 12 [.int 0, .int (nI n), .ref sg, .int m9_at, .int m9_bad, .int m9_place, .int m9_there, .int m9_vars, .int m9_chans, m9_var, m9_chan, m9_initial, m9_slots, .int m9_nodes, m9_kind, m9_process, m9_parent, m9_sibling, m9_firstOf, m9_atomic, m9_point, m9_arg, m9_into, m9_begin, m9_end, m9_where, m9_behind, .int m9_basics, m9_basicNode, m9_basicOf, .int m9_processes, m9_points, m9_firstNode, m9_labels, m9_nodeAt, m9_mask, .int m9_codes, m9_code, .int m9_open, m9_block, m9_blockNode, m9_latest, .int m9_waiting, m9_signs, .int m9_states, .int m9_steps, .int m9_over, m9_key, m9_first, m9_target, m9_source, m9_doer, m9_receiver, m9_firstInto, m9_stepInto, m9_value, m9_many, m9_message, m9_stands, .int m9_holds, m9_stack, .int m9_asked, .int m9_size, m9_sign, .int m9_turns, .int m9_met, m9_kept, .int m9_modelCodes, m9_turn, .int m9_atoms, m9_atomProcess, m9_atomPoint, m9_atomBegin, m9_atomEnd, m9_look, m9_deep, m9_good, m9_far, .int m9_stem, .int m9_cycle, m9_row, m9_tried, .int m9_walked, m9_path]), (sg, zI K 240 f)] H locs → (zOkL w r = true → ∀ (ls : Array Slot) (H : Heap) (locs : List Loc), lv_has ls 6 [(3, .int (nI (acc + zSum w r))), (0, .ref m9), (1, .long w)] → zW G A s.heap [(m9, zO 12 [.int 0, .int (nI n), .ref sg, .int m9_at, .int m9_bad, .int m9_place, .int m9_there, .int m9_vars, .int m9_chans, m9_var, m9_chan, m9_initial, m9_slots, .int m9_nodes, m9_kind, m9_process, m9_parent, m9_sibling, m9_firstOf, m9_atomic, m9_point, m9_arg, m9_into, m9_begin, m9_end, m9_where, m9_behind, .int m9_basics, m9_basicNode, m9_basicOf, .int m9_processes, m9_points, m9_firstNode, m9_labels, m9_nodeAt, m9_mask, .int m9_codes, m9_code, .int m9_open, m9_block, m9_blockNode, m9_latest, .int m9_waiting, m9_signs, .int m9_states, .int m9_steps, .int m9_over, m9_key, m9_first, m9_target, m9_source, m9_doer, m9_receiver, m9_firstInto, m9_stepInto, m9_value, m9_many, m9_message, m9_stands, .int m9_holds, m9_stack, .int m9_asked, .int m9_size, m9_sign, .int m9_turns, .int m9_met, m9_kept, .int m9_modelCodes, m9_turn, .int m9_atoms, m9_atomProcess, m9_atomPoint, m9_atomBegin, m9_atomEnd, m9_look, m9_deep, m9_good, m9_far, .int m9_stem, .int m9_cycle, m9_row, m9_tried, .int m9_walked, m9_path]), (sg, zI K 240 f)] H locs → W p l e { frames := 1, cells := 0, slots := 0, locals := 22 } s m ([.ref m9, .long w] : List Value).toArray below meth c H locs 0 0 (MQ below (va_Qi (fun (r : Int32) (u : Unit) => r = zWrR w n) (fun u t => zPost G K A [(m9, zO 12 [.int 0, .int (nI (zWrN w n)), .ref sg, .int m9_at, .int m9_bad, .int m9_place, .int m9_there, .int m9_vars, .int m9_chans, m9_var, m9_chan, m9_initial, m9_slots, .int m9_nodes, m9_kind, m9_process, m9_parent, m9_sibling, m9_firstOf, m9_atomic, m9_point, m9_arg, m9_into, m9_begin, m9_end, m9_where, m9_behind, .int m9_basics, m9_basicNode, m9_basicOf, .int m9_processes, m9_points, m9_firstNode, m9_labels, m9_nodeAt, m9_mask, .int m9_codes, m9_code, .int m9_open, m9_block, m9_blockNode, m9_latest, .int m9_waiting, m9_signs, .int m9_states, .int m9_steps, .int m9_over, m9_key, m9_first, m9_target, m9_source, m9_doer, m9_receiver, m9_firstInto, m9_stepInto, m9_value, m9_many, m9_message, m9_stands, .int m9_holds, m9_stack, .int m9_asked, .int m9_size, m9_sign, .int m9_turns, .int m9_met, m9_kept, .int m9_modelCodes, m9_turn, .int m9_atoms, m9_atomProcess, m9_atomPoint, m9_atomBegin, m9_atomEnd, m9_look, m9_deep, m9_good, m9_far, .int m9_stem, .int m9_cycle, m9_row, m9_tried, .int m9_walked, m9_path]), (sg, zI K 240 (zWrF w f n))] t) A) ([.ref m9, .long w] : List Value).toArray s 0 0 A) (F0 m 65 ls [])) → W p l e { frames := 1, cells := 0, slots := 0, locals := 22 } s m ([.ref m9, .long w] : List Value).toArray below meth c H locs 0 0 (MQ below (va_Qi (fun (r : Int32) (u : Unit) => r = zWrR w n) (fun u t => zPost G K A [(m9, zO 12 [.int 0, .int (nI (zWrN w n)), .ref sg, .int m9_at, .int m9_bad, .int m9_place, .int m9_there, .int m9_vars, .int m9_chans, m9_var, m9_chan, m9_initial, m9_slots, .int m9_nodes, m9_kind, m9_process, m9_parent, m9_sibling, m9_firstOf, m9_atomic, m9_point, m9_arg, m9_into, m9_begin, m9_end, m9_where, m9_behind, .int m9_basics, m9_basicNode, m9_basicOf, .int m9_processes, m9_points, m9_firstNode, m9_labels, m9_nodeAt, m9_mask, .int m9_codes, m9_code, .int m9_open, m9_block, m9_blockNode, m9_latest, .int m9_waiting, m9_signs, .int m9_states, .int m9_steps, .int m9_over, m9_key, m9_first, m9_target, m9_source, m9_doer, m9_receiver, m9_firstInto, m9_stepInto, m9_value, m9_many, m9_message, m9_stands, .int m9_holds, m9_stack, .int m9_asked, .int m9_size, m9_sign, .int m9_turns, .int m9_met, m9_kept, .int m9_modelCodes, m9_turn, .int m9_atoms, m9_atomProcess, m9_atomPoint, m9_atomBegin, m9_atomEnd, m9_look, m9_deep, m9_good, m9_far, .int m9_stem, .int m9_cycle, m9_row, m9_tried, .int m9_walked, m9_path]), (sg, zI K 240 (zWrF w f n))] t) A) ([.ref m9, .long w] : List Value).toArray s 0 0 A) (F0 m 11 ls []) by
    refine hloop zSh 0 ls H locs zSuf_sh (fun h => h) hl hw ?_
    intro hok ls H locs hl hw
    rw [Nat.zero_add] at hl
    have hl : lv_has ls 6 [(3, .int (nI (zSum w zSh))), (0, .ref m9), (1, .long w)] := hl
    refine lv_aload_n hx hb zd_LassoFinderModel_write_65 rfl (lv_at hl 1 rfl) ?_
    refine z_get hx hb hts hown hK hw zZ12 0 rfl 1 (by decide) zw_240 rfl zd_LassoFinderModel_write_66 ?_
    refine lv_iload_n hx hb zd_LassoFinderModel_write_69 rfl (lv_at hl 0 rfl) ?_
    refine lv_iadd hx hb zd_LassoFinderModel_write_70 ?_
    refine lv_sipush (v := 240) hx hb zd_LassoFinderModel_write_71 (by decide) ?_
    refine lv_icmp_le (tgt := 79) hx hb zd_LassoFinderModel_write_74 (by decide) (fun hc74 => ?_) (fun hc74 => ?_)
    · skip
      refine lv_bipush (v := 56) hx hb zd_LassoFinderModel_write_79 (by decide) ?_
      refine lv_istore hx hb zd_LassoFinderModel_write_81 hl (by decide) rfl (fun ls hl => ?_)
      have hl : lv_has ls 6 [(4, .int 56), (3, .int (nI (zSum w zSh))), (0, .ref m9), (1, .long w)] := hl
      have hT : n + zSum w zSh ≤ 240 := (zLe240 hn (zSum_le w zSh)).mp hc74
      suffices hloop2 : ∀ (r : List Int32) (g : Nat → Int32) (k : Nat) (ls : Array Slot) (H : Heap) (locs : List Loc), zSuf r = true → zPutF w r g k = zPutF w zSh f n → k + zSum w r = n + zSum w zSh → lv_has ls 6 [(4, .int (zHd r)), (0, .ref m9), (1, .long w)] → zW G A s.heap [(m9, zO 12 [.int 0, .int (nI k), .ref sg, .int m9_at, .int m9_bad, .int m9_place, .int m9_there, .int m9_vars, .int m9_chans, m9_var, m9_chan, m9_initial, m9_slots, .int m9_nodes, m9_kind, m9_process, m9_parent, m9_sibling, m9_firstOf, m9_atomic, m9_point, m9_arg, m9_into, m9_begin, m9_end, m9_where, m9_behind, .int m9_basics, m9_basicNode, m9_basicOf, .int m9_processes, m9_points, m9_firstNode, m9_labels, m9_nodeAt, m9_mask, .int m9_codes, m9_code, .int m9_open, m9_block, m9_blockNode, m9_latest, .int m9_waiting, m9_signs, .int m9_states, .int m9_steps, .int m9_over, m9_key, m9_first, m9_target, m9_source, m9_doer, m9_receiver, m9_firstInto, m9_stepInto, m9_value, m9_many, m9_message, m9_stands, .int m9_holds, m9_stack, .int m9_asked, .int m9_size, m9_sign, .int m9_turns, .int m9_met, m9_kept, .int m9_modelCodes, m9_turn, .int m9_atoms, m9_atomProcess, m9_atomPoint, m9_atomBegin, m9_atomEnd, m9_look, m9_deep, m9_good, m9_far, .int m9_stem, .int m9_cycle, m9_row, m9_tried, .int m9_walked, m9_path]), (sg, zI K 240 g)] H locs → W p l e { frames := 1, cells := 0, slots := 0, locals := 22 } s m ([.ref m9, .long w] : List Value).toArray below meth c H locs 0 0 (MQ below (va_Qi (fun (r : Int32) (u : Unit) => r = zWrR w n) (fun u t => zPost G K A [(m9, zO 12 [.int 0, .int (nI (zWrN w n)), .ref sg, .int m9_at, .int m9_bad, .int m9_place, .int m9_there, .int m9_vars, .int m9_chans, m9_var, m9_chan, m9_initial, m9_slots, .int m9_nodes, m9_kind, m9_process, m9_parent, m9_sibling, m9_firstOf, m9_atomic, m9_point, m9_arg, m9_into, m9_begin, m9_end, m9_where, m9_behind, .int m9_basics, m9_basicNode, m9_basicOf, .int m9_processes, m9_points, m9_firstNode, m9_labels, m9_nodeAt, m9_mask, .int m9_codes, m9_code, .int m9_open, m9_block, m9_blockNode, m9_latest, .int m9_waiting, m9_signs, .int m9_states, .int m9_steps, .int m9_over, m9_key, m9_first, m9_target, m9_source, m9_doer, m9_receiver, m9_firstInto, m9_stepInto, m9_value, m9_many, m9_message, m9_stands, .int m9_holds, m9_stack, .int m9_asked, .int m9_size, m9_sign, .int m9_turns, .int m9_met, m9_kept, .int m9_modelCodes, m9_turn, .int m9_atoms, m9_atomProcess, m9_atomPoint, m9_atomBegin, m9_atomEnd, m9_look, m9_deep, m9_good, m9_far, .int m9_stem, .int m9_cycle, m9_row, m9_tried, .int m9_walked, m9_path]), (sg, zI K 240 (zWrF w f n))] t) A) ([.ref m9, .long w] : List Value).toArray s 0 0 A) (F0 m 83 ls []) by
        exact hloop2 zSh f n ls H locs zSuf_sh rfl rfl (lv_sub hl [0, 2, 3] rfl) hw
      intro r
      induction r with
      | nil =>
        intro g k ls H locs hs hg hkn hl hw
        have hl : lv_has ls 6 [(4, .int (-8)), (0, .ref m9), (1, .long w)] := hl
        have hw : zW G A s.heap [(m9, zO 12 [.int 0, .int (nI k), .ref sg, .int m9_at, .int m9_bad, .int m9_place, .int m9_there, .int m9_vars, .int m9_chans, m9_var, m9_chan, m9_initial, m9_slots, .int m9_nodes, m9_kind, m9_process, m9_parent, m9_sibling, m9_firstOf, m9_atomic, m9_point, m9_arg, m9_into, m9_begin, m9_end, m9_where, m9_behind, .int m9_basics, m9_basicNode, m9_basicOf, .int m9_processes, m9_points, m9_firstNode, m9_labels, m9_nodeAt, m9_mask, .int m9_codes, m9_code, .int m9_open, m9_block, m9_blockNode, m9_latest, .int m9_waiting, m9_signs, .int m9_states, .int m9_steps, .int m9_over, m9_key, m9_first, m9_target, m9_source, m9_doer, m9_receiver, m9_firstInto, m9_stepInto, m9_value, m9_many, m9_message, m9_stands, .int m9_holds, m9_stack, .int m9_asked, .int m9_size, m9_sign, .int m9_turns, .int m9_met, m9_kept, .int m9_modelCodes, m9_turn, .int m9_atoms, m9_atomProcess, m9_atomPoint, m9_atomBegin, m9_atomEnd, m9_look, m9_deep, m9_good, m9_far, .int m9_stem, .int m9_cycle, m9_row, m9_tried, .int m9_walked, m9_path]), (sg, zI K 240 g)] H locs := hw
        refine lv_iload hx hb zd_LassoFinderModel_write_83 (lv_at hl 0 rfl) ?_
        refine lv_if_lt (tgt := 131) hx hb zd_LassoFinderModel_write_85 (by decide) (fun _ => ?_) (fun h9 => absurd h9 (by decide))
        have hB : zWrB w n = true := zWrB_ok hok hT
        have hN : k = zWrN w n := by unfold zWrN; rw [if_pos hB]; exact (Nat.add_zero k).symm.trans hkn
        have hG : g = zWrF w f n := by unfold zWrF; rw [if_pos hB]; exact hg
        rw [hN, hG] at hw
        have hfin : (1 : Int32) = zWrR w n := by unfold zWrR; rw [hB]; rfl
        have hw : zW G A s.heap [(m9, zO 12 [.int 0, .int (nI (zWrN w n)), .ref sg, .int m9_at, .int m9_bad, .int m9_place, .int m9_there, .int m9_vars, .int m9_chans, m9_var, m9_chan, m9_initial, m9_slots, .int m9_nodes, m9_kind, m9_process, m9_parent, m9_sibling, m9_firstOf, m9_atomic, m9_point, m9_arg, m9_into, m9_begin, m9_end, m9_where, m9_behind, .int m9_basics, m9_basicNode, m9_basicOf, .int m9_processes, m9_points, m9_firstNode, m9_labels, m9_nodeAt, m9_mask, .int m9_codes, m9_code, .int m9_open, m9_block, m9_blockNode, m9_latest, .int m9_waiting, m9_signs, .int m9_states, .int m9_steps, .int m9_over, m9_key, m9_first, m9_target, m9_source, m9_doer, m9_receiver, m9_firstInto, m9_stepInto, m9_value, m9_many, m9_message, m9_stands, .int m9_holds, m9_stack, .int m9_asked, .int m9_size, m9_sign, .int m9_turns, .int m9_met, m9_kept, .int m9_modelCodes, m9_turn, .int m9_atoms, m9_atomProcess, m9_atomPoint, m9_atomBegin, m9_atomEnd, m9_look, m9_deep, m9_good, m9_far, .int m9_stem, .int m9_cycle, m9_row, m9_tried, .int m9_walked, m9_path]), (sg, zI K 240 (zWrF w f n))] H locs := hw
        refine lv_iconst (v := 1) hx hb zd_LassoFinderModel_write_131 (by decide) ?_
        exact z_iret (u := ()) hx hb hr hlocks rfl hw [0, 1] rfl (by decide) hfin (Nat.le_of_ble_eq_true rfl) (Nat.le_of_ble_eq_true rfl) zd_LassoFinderModel_write_132
      | cons sh r ih =>
        intro g k ls H locs hs hg hkn hl hw
        obtain ⟨h1, h2, h3⟩ := zSuf_c hs
        have hl : lv_has ls 6 [(4, .int sh), (0, .ref m9), (1, .long w)] := hl
        have hw : zW G A s.heap [(m9, zO 12 [.int 0, .int (nI k), .ref sg, .int m9_at, .int m9_bad, .int m9_place, .int m9_there, .int m9_vars, .int m9_chans, m9_var, m9_chan, m9_initial, m9_slots, .int m9_nodes, m9_kind, m9_process, m9_parent, m9_sibling, m9_firstOf, m9_atomic, m9_point, m9_arg, m9_into, m9_begin, m9_end, m9_where, m9_behind, .int m9_basics, m9_basicNode, m9_basicOf, .int m9_processes, m9_points, m9_firstNode, m9_labels, m9_nodeAt, m9_mask, .int m9_codes, m9_code, .int m9_open, m9_block, m9_blockNode, m9_latest, .int m9_waiting, m9_signs, .int m9_states, .int m9_steps, .int m9_over, m9_key, m9_first, m9_target, m9_source, m9_doer, m9_receiver, m9_firstInto, m9_stepInto, m9_value, m9_many, m9_message, m9_stands, .int m9_holds, m9_stack, .int m9_asked, .int m9_size, m9_sign, .int m9_turns, .int m9_met, m9_kept, .int m9_modelCodes, m9_turn, .int m9_atoms, m9_atomProcess, m9_atomPoint, m9_atomBegin, m9_atomEnd, m9_look, m9_deep, m9_good, m9_far, .int m9_stem, .int m9_cycle, m9_row, m9_tried, .int m9_walked, m9_path]), (sg, zI K 240 g)] H locs := hw
        refine lv_iload hx hb zd_LassoFinderModel_write_83 (lv_at hl 0 rfl) ?_
        refine lv_if_lt (tgt := 131) hx hb zd_LassoFinderModel_write_85 (by decide) (fun h9 => absurd h9 h1) (fun _ => ?_)
        refine lv_lload_n hx hb zd_LassoFinderModel_write_88 rfl (lv_at hl 2 rfl) ?_
        refine lv_iload hx hb zd_LassoFinderModel_write_89 (lv_at hl 0 rfl) ?_
        refine lv_lushr hx hb zd_LassoFinderModel_write_91 rfl ?_
        refine lv_l2i hx hb zd_LassoFinderModel_write_92 rfl ?_
        refine lv_sipush (v := 255) hx hb zd_LassoFinderModel_write_93 (by decide) ?_
        refine lv_iand hx hb zd_LassoFinderModel_write_96 ?_
        refine W.eq (g2 := F0 m 97 ls [.int (zB w sh)]) rfl ?_
        refine lv_istore hx hb zd_LassoFinderModel_write_97 hl (by decide) rfl (fun ls hl => ?_)
        have hl : lv_has ls 6 [(5, .int (zB w sh)), (4, .int sh), (0, .ref m9), (1, .long w)] := hl
        refine lv_iload hx hb zd_LassoFinderModel_write_99 (lv_at hl 0 rfl) ?_
        refine lv_if_eq (tgt := 125) hx hb zd_LassoFinderModel_write_101 (by decide) (fun hc101 => ?_) (fun hc101 => ?_)
        · skip
          refine lv_iinc (v := (sh + (-8))) hx hb zd_LassoFinderModel_write_125 hl (k := 1) rfl rfl (by decide) rfl (fun ls hl => ?_)
          have hl : lv_has ls 6 [(4, .int (sh + (-8))), (5, .int (zB w sh)), (0, .ref m9), (1, .long w)] := hl
          refine lv_goto (tgt := 83) hx hb zd_LassoFinderModel_write_128 (by decide) ?_
          rw [zPutF_0 hc101] at hg
          have hkn : k + (zC1 (zB w sh) + zSum w r) = n + zSum w zSh := hkn
          rw [zC1_0 hc101, Nat.zero_add] at hkn
          exact ih g k ls H locs h3 hg hkn (by rw [← h2]; exact lv_sub hl [0, 2, 3] rfl) hw
        · skip
          have hkn9 : k + (zC1 (zB w sh) + zSum w r) = n + zSum w zSh := hkn
          rw [zC1_1 hc101] at hkn9
          refine lv_aload_n hx hb zd_LassoFinderModel_write_104 rfl (lv_at hl 2 rfl) ?_
          refine z_get hx hb hts hown hK hw zZ12 0 rfl 2 (by decide) zw_241 rfl zd_LassoFinderModel_write_105 ?_
          refine lv_aload_n hx hb zd_LassoFinderModel_write_108 rfl (lv_at hl 2 rfl) ?_
          refine z_get hx hb hts hown hK hw zZ12 0 rfl 1 (by decide) zw_240 rfl zd_LassoFinderModel_write_109 ?_
          refine lv_iload hx hb zd_LassoFinderModel_write_112 (lv_at hl 0 rfl) ?_
          refine va_iast hx hb hK hw.1 hw.2.1 hw.2.2 1 0 rfl rfl (vp_in_nI (by omega) (by omega)) zd_LassoFinderModel_write_114 (fun H locs a1 a2 a3 => ?_)
          have hw : zW G A s.heap _ H locs := ⟨a1, a2, a3⟩
          have hw : zW G A s.heap [(m9, zO 12 [.int 0, .int (nI k), .ref sg, .int m9_at, .int m9_bad, .int m9_place, .int m9_there, .int m9_vars, .int m9_chans, m9_var, m9_chan, m9_initial, m9_slots, .int m9_nodes, m9_kind, m9_process, m9_parent, m9_sibling, m9_firstOf, m9_atomic, m9_point, m9_arg, m9_into, m9_begin, m9_end, m9_where, m9_behind, .int m9_basics, m9_basicNode, m9_basicOf, .int m9_processes, m9_points, m9_firstNode, m9_labels, m9_nodeAt, m9_mask, .int m9_codes, m9_code, .int m9_open, m9_block, m9_blockNode, m9_latest, .int m9_waiting, m9_signs, .int m9_states, .int m9_steps, .int m9_over, m9_key, m9_first, m9_target, m9_source, m9_doer, m9_receiver, m9_firstInto, m9_stepInto, m9_value, m9_many, m9_message, m9_stands, .int m9_holds, m9_stack, .int m9_asked, .int m9_size, m9_sign, .int m9_turns, .int m9_met, m9_kept, .int m9_modelCodes, m9_turn, .int m9_atoms, m9_atomProcess, m9_atomPoint, m9_atomBegin, m9_atomEnd, m9_look, m9_deep, m9_good, m9_far, .int m9_stem, .int m9_cycle, m9_row, m9_tried, .int m9_walked, m9_path]), (sg, zI K 240 (upd g (nI k).toNatClampNeg (zB w sh)))] H locs := hw
          refine lv_aload_n hx hb zd_LassoFinderModel_write_115 rfl (lv_at hl 2 rfl) ?_
          refine lv_dup hx hb zd_LassoFinderModel_write_116 rfl ?_
          refine z_get hx hb hts hown hK hw zZ12 0 rfl 1 (by decide) zw_240 rfl zd_LassoFinderModel_write_117 ?_
          refine lv_iconst (v := 1) hx hb zd_LassoFinderModel_write_120 (by decide) ?_
          refine lv_iadd hx hb zd_LassoFinderModel_write_121 ?_
          refine z_put hx hb hts hown hK hw zZ12 0 rfl 1 (by decide) zw_240 rfl rfl rfl (Nat.le_of_ble_eq_true rfl) zd_LassoFinderModel_write_122 (fun H locs hw => ?_)
          have hw : zW G A s.heap [(m9, zO 12 [.int 0, .int ((nI k) + 1), .ref sg, .int m9_at, .int m9_bad, .int m9_place, .int m9_there, .int m9_vars, .int m9_chans, m9_var, m9_chan, m9_initial, m9_slots, .int m9_nodes, m9_kind, m9_process, m9_parent, m9_sibling, m9_firstOf, m9_atomic, m9_point, m9_arg, m9_into, m9_begin, m9_end, m9_where, m9_behind, .int m9_basics, m9_basicNode, m9_basicOf, .int m9_processes, m9_points, m9_firstNode, m9_labels, m9_nodeAt, m9_mask, .int m9_codes, m9_code, .int m9_open, m9_block, m9_blockNode, m9_latest, .int m9_waiting, m9_signs, .int m9_states, .int m9_steps, .int m9_over, m9_key, m9_first, m9_target, m9_source, m9_doer, m9_receiver, m9_firstInto, m9_stepInto, m9_value, m9_many, m9_message, m9_stands, .int m9_holds, m9_stack, .int m9_asked, .int m9_size, m9_sign, .int m9_turns, .int m9_met, m9_kept, .int m9_modelCodes, m9_turn, .int m9_atoms, m9_atomProcess, m9_atomPoint, m9_atomBegin, m9_atomEnd, m9_look, m9_deep, m9_good, m9_far, .int m9_stem, .int m9_cycle, m9_row, m9_tried, .int m9_walked, m9_path]), (sg, zI K 240 (upd g (nI k).toNatClampNeg (zB w sh)))] H locs := hw
          refine lv_iinc (v := (sh + (-8))) hx hb zd_LassoFinderModel_write_125 hl (k := 1) rfl rfl (by decide) rfl (fun ls hl => ?_)
          have hl : lv_has ls 6 [(4, .int (sh + (-8))), (5, .int (zB w sh)), (0, .ref m9), (1, .long w)] := hl
          refine lv_goto (tgt := 83) hx hb zd_LassoFinderModel_write_128 (by decide) ?_
          rw [zPutF_1 hc101] at hg
          rw [nI_clamp (by omega), ← nI_succ] at hw
          exact ih _ (k + 1) ls H locs h3 hg (by omega) (by rw [← h2]; exact lv_sub hl [0, 2, 3] rfl) hw
    · skip
      have hB : zWrB w n = false := zWrB_full (fun h => hc74 ((zLe240 hn (zSum_le w zSh)).mpr h))
      have hN : zWrN w n = n := by unfold zWrN; rw [hB]; rfl
      have hG : zWrF w f n = f := by unfold zWrF; rw [hB]; rfl
      have hw : zW G A s.heap [(m9, zO 12 [.int 0, .int (nI (zWrN w n)), .ref sg, .int m9_at, .int m9_bad, .int m9_place, .int m9_there, .int m9_vars, .int m9_chans, m9_var, m9_chan, m9_initial, m9_slots, .int m9_nodes, m9_kind, m9_process, m9_parent, m9_sibling, m9_firstOf, m9_atomic, m9_point, m9_arg, m9_into, m9_begin, m9_end, m9_where, m9_behind, .int m9_basics, m9_basicNode, m9_basicOf, .int m9_processes, m9_points, m9_firstNode, m9_labels, m9_nodeAt, m9_mask, .int m9_codes, m9_code, .int m9_open, m9_block, m9_blockNode, m9_latest, .int m9_waiting, m9_signs, .int m9_states, .int m9_steps, .int m9_over, m9_key, m9_first, m9_target, m9_source, m9_doer, m9_receiver, m9_firstInto, m9_stepInto, m9_value, m9_many, m9_message, m9_stands, .int m9_holds, m9_stack, .int m9_asked, .int m9_size, m9_sign, .int m9_turns, .int m9_met, m9_kept, .int m9_modelCodes, m9_turn, .int m9_atoms, m9_atomProcess, m9_atomPoint, m9_atomBegin, m9_atomEnd, m9_look, m9_deep, m9_good, m9_far, .int m9_stem, .int m9_cycle, m9_row, m9_tried, .int m9_walked, m9_path]), (sg, zI K 240 (zWrF w f n))] H locs := by rw [hN, hG]; exact hw
      have hfin : (0 : Int32) = zWrR w n := by unfold zWrR; rw [hB]; rfl
      have hw : zW G A s.heap [(m9, zO 12 [.int 0, .int (nI (zWrN w n)), .ref sg, .int m9_at, .int m9_bad, .int m9_place, .int m9_there, .int m9_vars, .int m9_chans, m9_var, m9_chan, m9_initial, m9_slots, .int m9_nodes, m9_kind, m9_process, m9_parent, m9_sibling, m9_firstOf, m9_atomic, m9_point, m9_arg, m9_into, m9_begin, m9_end, m9_where, m9_behind, .int m9_basics, m9_basicNode, m9_basicOf, .int m9_processes, m9_points, m9_firstNode, m9_labels, m9_nodeAt, m9_mask, .int m9_codes, m9_code, .int m9_open, m9_block, m9_blockNode, m9_latest, .int m9_waiting, m9_signs, .int m9_states, .int m9_steps, .int m9_over, m9_key, m9_first, m9_target, m9_source, m9_doer, m9_receiver, m9_firstInto, m9_stepInto, m9_value, m9_many, m9_message, m9_stands, .int m9_holds, m9_stack, .int m9_asked, .int m9_size, m9_sign, .int m9_turns, .int m9_met, m9_kept, .int m9_modelCodes, m9_turn, .int m9_atoms, m9_atomProcess, m9_atomPoint, m9_atomBegin, m9_atomEnd, m9_look, m9_deep, m9_good, m9_far, .int m9_stem, .int m9_cycle, m9_row, m9_tried, .int m9_walked, m9_path]), (sg, zI K 240 (zWrF w f n))] H locs := hw
      refine lv_iconst (v := 0) hx hb zd_LassoFinderModel_write_77 (by decide) ?_
      exact z_iret (u := ()) hx hb hr hlocks rfl hw [0, 1] rfl (by decide) hfin (Nat.le_of_ble_eq_true rfl) (Nat.le_of_ble_eq_true rfl) zd_LassoFinderModel_write_78
  intro r
  induction r with
  | nil =>
    intro acc ls H locs hs hbk hl hw kk
    have hl : lv_has ls 6 [(4, .int (-8)), (3, .int (nI acc)), (0, .ref m9), (1, .long w)] := hl
    refine lv_iload hx hb zd_LassoFinderModel_write_11 (lv_at hl 0 rfl) ?_
    refine lv_if_lt (tgt := 65) hx hb zd_LassoFinderModel_write_13 (by decide) (fun _ => ?_) (fun h9 => absurd h9 (by decide))
    exact kk rfl ls H locs (lv_sub hl [1, 2, 3] rfl) hw
  | cons sh r ih =>
    intro acc ls H locs hs hbk hl hw kk
    obtain ⟨h1, h2, h3⟩ := zSuf_c hs
    have hl : lv_has ls 6 [(4, .int sh), (3, .int (nI acc)), (0, .ref m9), (1, .long w)] := hl
    refine lv_iload hx hb zd_LassoFinderModel_write_11 (lv_at hl 0 rfl) ?_
    refine lv_if_lt (tgt := 65) hx hb zd_LassoFinderModel_write_13 (by decide) (fun h9 => absurd h9 h1) (fun _ => ?_)
    refine lv_lload_n hx hb zd_LassoFinderModel_write_16 rfl (lv_at hl 3 rfl) ?_
    refine lv_iload hx hb zd_LassoFinderModel_write_17 (lv_at hl 0 rfl) ?_
    refine lv_lushr hx hb zd_LassoFinderModel_write_19 rfl ?_
    refine lv_l2i hx hb zd_LassoFinderModel_write_20 rfl ?_
    refine lv_sipush (v := 255) hx hb zd_LassoFinderModel_write_21 (by decide) ?_
    refine lv_iand hx hb zd_LassoFinderModel_write_24 ?_
    refine W.eq (g2 := F0 m 25 ls [.int (zB w sh)]) rfl ?_
    refine lv_istore hx hb zd_LassoFinderModel_write_25 hl (by decide) rfl (fun ls hl => ?_)
    have hl : lv_has ls 6 [(5, .int (zB w sh)), (4, .int sh), (3, .int (nI acc)), (0, .ref m9), (1, .long w)] := hl
    refine lv_iload hx hb zd_LassoFinderModel_write_27 (lv_at hl 0 rfl) ?_
    refine lv_if_eq (tgt := 46) hx hb zd_LassoFinderModel_write_29 (by decide) (fun hc29 => ?_) (fun hc29 => ?_)
    · skip
      refine lv_iload_n hx hb zd_LassoFinderModel_write_46 rfl (lv_at hl 2 rfl) ?_
      refine lv_iload hx hb zd_LassoFinderModel_write_47 (lv_at hl 0 rfl) ?_
      refine lv_if_eq (tgt := 56) hx hb zd_LassoFinderModel_write_49 (by decide) (fun _ => ?_) (fun h9 => absurd h9 (fun h => h hc29))
      refine lv_iconst (v := 0) hx hb zd_LassoFinderModel_write_56 (by decide) ?_
      refine lv_iadd hx hb zd_LassoFinderModel_write_57 ?_
      refine lv_istore_n hx hb zd_LassoFinderModel_write_58 rfl hl (by decide) rfl (fun ls hl => ?_)
      have hl : lv_has ls 6 [(3, .int ((nI acc) + 0)), (5, .int (zB w sh)), (4, .int sh), (0, .ref m9), (1, .long w)] := hl
      refine lv_iinc (v := (sh + (-8))) hx hb zd_LassoFinderModel_write_59 hl (k := 2) rfl rfl (by decide) rfl (fun ls hl => ?_)
      have hl : lv_has ls 6 [(4, .int (sh + (-8))), (3, .int ((nI acc) + 0)), (5, .int (zB w sh)), (0, .ref m9), (1, .long w)] := hl
      refine lv_goto (tgt := 11) hx hb zd_LassoFinderModel_write_62 (by decide) ?_
      refine ih (acc + zC1 (zB w sh)) ls H locs h3 (fun h => hbk (zOk_r h)) (by rw [← h2, zAdd0 hc29]; exact lv_sub hl [0, 1, 3, 4] rfl) hw (fun hok ls H locs hl hw => kk (zOk_c (zBadB_z hc29) hok) ls H locs (by rw [Nat.add_assoc] at hl; exact hl) hw)
    · skip
      refine lv_iload hx hb zd_LassoFinderModel_write_32 (lv_at hl 0 rfl) ?_
      refine lv_bipush (v := 33) hx hb zd_LassoFinderModel_write_34 (by decide) ?_
      refine lv_bipush (v := 126) hx hb zd_LassoFinderModel_write_36 (by decide) ?_
      refine z_calli (w1 := fun (u38 : Unit) => []) (wr := [(m9, zO 12 [.int 0, .int (nI n), .ref sg, .int m9_at, .int m9_bad, .int m9_place, .int m9_there, .int m9_vars, .int m9_chans, m9_var, m9_chan, m9_initial, m9_slots, .int m9_nodes, m9_kind, m9_process, m9_parent, m9_sibling, m9_firstOf, m9_atomic, m9_point, m9_arg, m9_into, m9_begin, m9_end, m9_where, m9_behind, .int m9_basics, m9_basicNode, m9_basicOf, .int m9_processes, m9_points, m9_firstNode, m9_labels, m9_nodeAt, m9_mask, .int m9_codes, m9_code, .int m9_open, m9_block, m9_blockNode, m9_latest, .int m9_waiting, m9_signs, .int m9_states, .int m9_steps, .int m9_over, m9_key, m9_first, m9_target, m9_source, m9_doer, m9_receiver, m9_firstInto, m9_stepInto, m9_value, m9_many, m9_message, m9_stands, .int m9_holds, m9_stack, .int m9_asked, .int m9_size, m9_sign, .int m9_turns, .int m9_met, m9_kept, .int m9_modelCodes, m9_turn, .int m9_atoms, m9_atomProcess, m9_atomPoint, m9_atomBegin, m9_atomEnd, m9_look, m9_deep, m9_good, m9_far, .int m9_stem, .int m9_cycle, m9_row, m9_tried, .int m9_walked, m9_path]), (sg, zI K 240 f)]) (z_runS (wc := []) (As := [.int (zB w sh), .int 33, .int 126]) (rest := []) ⟨hx, hb, hml, hown, hts⟩ (c_in l G K (zB w sh) 33 126 H.size ) zf_LassoFinderModel_in zw_242 ⟨Nat.le_of_ble_eq_true rfl, Nat.le_of_ble_eq_true rfl⟩ hK hw [] rfl (by decide) rfl hl.1 rfl (Nat.le_of_ble_eq_true rfl) zd_LassoFinderModel_write_38 ⟨Nat.le_of_ble_eq_true rfl, Nat.le_of_ble_eq_true rfl⟩) hw hA [] [0, 1] rfl rfl (by decide) (by decide) (fun r38 u38 H locs hu hw => ?_)
      obtain rfl := hu
      have hw : zW G A s.heap [(m9, zO 12 [.int 0, .int (nI n), .ref sg, .int m9_at, .int m9_bad, .int m9_place, .int m9_there, .int m9_vars, .int m9_chans, m9_var, m9_chan, m9_initial, m9_slots, .int m9_nodes, m9_kind, m9_process, m9_parent, m9_sibling, m9_firstOf, m9_atomic, m9_point, m9_arg, m9_into, m9_begin, m9_end, m9_where, m9_behind, .int m9_basics, m9_basicNode, m9_basicOf, .int m9_processes, m9_points, m9_firstNode, m9_labels, m9_nodeAt, m9_mask, .int m9_codes, m9_code, .int m9_open, m9_block, m9_blockNode, m9_latest, .int m9_waiting, m9_signs, .int m9_states, .int m9_steps, .int m9_over, m9_key, m9_first, m9_target, m9_source, m9_doer, m9_receiver, m9_firstInto, m9_stepInto, m9_value, m9_many, m9_message, m9_stands, .int m9_holds, m9_stack, .int m9_asked, .int m9_size, m9_sign, .int m9_turns, .int m9_met, m9_kept, .int m9_modelCodes, m9_turn, .int m9_atoms, m9_atomProcess, m9_atomPoint, m9_atomBegin, m9_atomEnd, m9_look, m9_deep, m9_good, m9_far, .int m9_stem, .int m9_cycle, m9_row, m9_tried, .int m9_walked, m9_path]), (sg, zI K 240 f)] H locs := hw
      refine lv_if_ne (tgt := 46) hx hb zd_LassoFinderModel_write_41 (by decide) (fun hc41 => ?_) (fun hc41 => ?_)
      · skip
        refine lv_iload_n hx hb zd_LassoFinderModel_write_46 rfl (lv_at hl 2 rfl) ?_
        refine lv_iload hx hb zd_LassoFinderModel_write_47 (lv_at hl 0 rfl) ?_
        refine lv_if_eq (tgt := 56) hx hb zd_LassoFinderModel_write_49 (by decide) (fun h9 => absurd h9 hc29) (fun _ => ?_)
        refine lv_iconst (v := 1) hx hb zd_LassoFinderModel_write_52 (by decide) ?_
        refine lv_goto (tgt := 57) hx hb zd_LassoFinderModel_write_53 (by decide) ?_
        refine lv_iadd hx hb zd_LassoFinderModel_write_57 ?_
        refine lv_istore_n hx hb zd_LassoFinderModel_write_58 rfl hl (by decide) rfl (fun ls hl => ?_)
        have hl : lv_has ls 6 [(3, .int ((nI acc) + 1)), (5, .int (zB w sh)), (4, .int sh), (0, .ref m9), (1, .long w)] := hl
        refine lv_iinc (v := (sh + (-8))) hx hb zd_LassoFinderModel_write_59 hl (k := 2) rfl rfl (by decide) rfl (fun ls hl => ?_)
        have hl : lv_has ls 6 [(4, .int (sh + (-8))), (3, .int ((nI acc) + 1)), (5, .int (zB w sh)), (0, .ref m9), (1, .long w)] := hl
        refine lv_goto (tgt := 11) hx hb zd_LassoFinderModel_write_62 (by decide) ?_
        refine ih (acc + zC1 (zB w sh)) ls H locs h3 (fun h => hbk (zOk_r h)) (by rw [← h2, zAdd1 hc29]; exact lv_sub hl [0, 1, 3, 4] rfl) hw (fun hok ls H locs hl hw => kk (zOk_c (zIn_good hc41) hok) ls H locs (by rw [Nat.add_assoc] at hl; exact hl) hw)
      · skip
        have hB : zWrB w n = false := zWrB_bad (hbk (zOk_b (zIn_bad hc41 hc29)))
        have hN : zWrN w n = n := by unfold zWrN; rw [hB]; rfl
        have hG : zWrF w f n = f := by unfold zWrF; rw [hB]; rfl
        have hw : zW G A s.heap [(m9, zO 12 [.int 0, .int (nI (zWrN w n)), .ref sg, .int m9_at, .int m9_bad, .int m9_place, .int m9_there, .int m9_vars, .int m9_chans, m9_var, m9_chan, m9_initial, m9_slots, .int m9_nodes, m9_kind, m9_process, m9_parent, m9_sibling, m9_firstOf, m9_atomic, m9_point, m9_arg, m9_into, m9_begin, m9_end, m9_where, m9_behind, .int m9_basics, m9_basicNode, m9_basicOf, .int m9_processes, m9_points, m9_firstNode, m9_labels, m9_nodeAt, m9_mask, .int m9_codes, m9_code, .int m9_open, m9_block, m9_blockNode, m9_latest, .int m9_waiting, m9_signs, .int m9_states, .int m9_steps, .int m9_over, m9_key, m9_first, m9_target, m9_source, m9_doer, m9_receiver, m9_firstInto, m9_stepInto, m9_value, m9_many, m9_message, m9_stands, .int m9_holds, m9_stack, .int m9_asked, .int m9_size, m9_sign, .int m9_turns, .int m9_met, m9_kept, .int m9_modelCodes, m9_turn, .int m9_atoms, m9_atomProcess, m9_atomPoint, m9_atomBegin, m9_atomEnd, m9_look, m9_deep, m9_good, m9_far, .int m9_stem, .int m9_cycle, m9_row, m9_tried, .int m9_walked, m9_path]), (sg, zI K 240 (zWrF w f n))] H locs := by rw [hN, hG]; exact hw
        have hfin : (0 : Int32) = zWrR w n := by unfold zWrR; rw [hB]; rfl
        have hw : zW G A s.heap [(m9, zO 12 [.int 0, .int (nI (zWrN w n)), .ref sg, .int m9_at, .int m9_bad, .int m9_place, .int m9_there, .int m9_vars, .int m9_chans, m9_var, m9_chan, m9_initial, m9_slots, .int m9_nodes, m9_kind, m9_process, m9_parent, m9_sibling, m9_firstOf, m9_atomic, m9_point, m9_arg, m9_into, m9_begin, m9_end, m9_where, m9_behind, .int m9_basics, m9_basicNode, m9_basicOf, .int m9_processes, m9_points, m9_firstNode, m9_labels, m9_nodeAt, m9_mask, .int m9_codes, m9_code, .int m9_open, m9_block, m9_blockNode, m9_latest, .int m9_waiting, m9_signs, .int m9_states, .int m9_steps, .int m9_over, m9_key, m9_first, m9_target, m9_source, m9_doer, m9_receiver, m9_firstInto, m9_stepInto, m9_value, m9_many, m9_message, m9_stands, .int m9_holds, m9_stack, .int m9_asked, .int m9_size, m9_sign, .int m9_turns, .int m9_met, m9_kept, .int m9_modelCodes, m9_turn, .int m9_atoms, m9_atomProcess, m9_atomPoint, m9_atomBegin, m9_atomEnd, m9_look, m9_deep, m9_good, m9_far, .int m9_stem, .int m9_cycle, m9_row, m9_tried, .int m9_walked, m9_path]), (sg, zI K 240 (zWrF w f n))] H locs := hw
        refine lv_iconst (v := 0) hx hb zd_LassoFinderModel_write_44 (by decide) ?_
        exact z_iret (u := ()) hx hb hr hlocks rfl hw [0, 1] rfl (by decide) hfin (Nat.le_of_ble_eq_true rfl) (Nat.le_of_ble_eq_true rfl) zd_LassoFinderModel_write_45
