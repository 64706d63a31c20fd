abbrev zy_Arrays_fill : MethodName := ⟨"java/util/Arrays", "fill", "([II)V"⟩
abbrev zy_Arrays_fill_2 : MethodName := ⟨"java/util/Arrays", "fill", "([JJ)V"⟩
theorem zn_235 : Cond.fieldLink "LassoFinder" 80 "LassoFinder" "walked" "[I" ∈ zTB := z_in (zt_2 _ (List.mem_of_getElem? (i := 227) rfl)) rfl
theorem zn_236 : Cond.fieldLink "LassoFinder$Text" 11 "LassoFinder$Text" "signs" "[C" ∈ zTB := z_in (zt_1 _ (List.mem_of_getElem? (i := 38) rfl)) rfl
theorem zn_237 : Cond.fieldLink "LassoFinder$Names" 9 "LassoFinder$Names" "kinds" "[I" ∈ zTB := z_in (zt_1 _ (List.mem_of_getElem? (i := 62) rfl)) rfl
theorem zn_238 : Cond.fieldLink "LassoFinder$Names" 13 "LassoFinder$Names" "digits" "[I" ∈ zTB := z_in (zt_1 _ (List.mem_of_getElem? (i := 66) rfl)) rfl
theorem zn_239 : Cond.fieldLink "LassoFinder$Names" 16 "LassoFinder$Names" "variableNames" "[I" ∈ zTB := z_in (zt_1 _ (List.mem_of_getElem? (i := 68) rfl)) rfl
theorem zn_240 : Cond.fieldLink "LassoFinder$Names" 19 "LassoFinder$Names" "channelNames" "[I" ∈ zTB := z_in (zt_1 _ (List.mem_of_getElem? (i := 70) rfl)) rfl
theorem zn_241 : Cond.fieldLink "LassoFinder$Program" 11 "LassoFinder$Program" "kinds" "[I" ∈ zTB := z_in (zt_1 _ (List.mem_of_getElem? (i := 96) rfl)) rfl
theorem zn_242 : Cond.fieldLink "LassoFinder$Program" 15 "LassoFinder$Program" "channel" "[I" ∈ zTB := z_in (zt_1 _ (List.mem_of_getElem? (i := 98) rfl)) rfl
theorem zn_243 : Cond.fieldLink "LassoFinder$Program" 18 "LassoFinder$Program" "variable" "[I" ∈ zTB := z_in (zt_1 _ (List.mem_of_getElem? (i := 100) rfl)) rfl
theorem zn_244 : Cond.fieldLink "LassoFinder$Program" 21 "LassoFinder$Program" "expression" "[I" ∈ zTB := z_in (zt_1 _ (List.mem_of_getElem? (i := 102) rfl)) rfl
theorem zn_245 : Cond.fieldLink "LassoFinder$Program" 24 "LassoFinder$Program" "actor" "[I" ∈ zTB := z_in (zt_1 _ (List.mem_of_getElem? (i := 104) rfl)) rfl
theorem zn_246 : Cond.fieldLink "LassoFinder$Program" 27 "LassoFinder$Program" "after" "[I" ∈ zTB := z_in (zt_1 _ (List.mem_of_getElem? (i := 106) rfl)) rfl
theorem zn_247 : Cond.fieldLink "LassoFinder$Program" 30 "LassoFinder$Program" "keeps" "[Z" ∈ zTB := z_in (zt_1 _ (List.mem_of_getElem? (i := 108) rfl)) rfl
theorem zn_248 : Cond.fieldLink "LassoFinder$Program" 36 "LassoFinder$Program" "receives" "[J" ∈ zTB := z_in (zt_1 _ (List.mem_of_getElem? (i := 110) rfl)) rfl
theorem zn_249 : Cond.fieldLink "LassoFinder$Program" 40 "LassoFinder$Program" "startPoint" "[I" ∈ zTB := z_in (zt_1 _ (List.mem_of_getElem? (i := 112) rfl)) rfl
theorem zn_250 : Cond.fieldLink "LassoFinder$Program" 43 "LassoFinder$Program" "labelPoint" "[I" ∈ zTB := z_in (zt_1 _ (List.mem_of_getElem? (i := 114) rfl)) rfl
theorem zn_251 : Cond.fieldLink "LassoFinder$Program" 46 "LassoFinder$Program" "basicsAt" "[J" ∈ zTB := z_in (zt_1 _ (List.mem_of_getElem? (i := 116) rfl)) rfl
theorem zn_252 : Cond.fieldLink "LassoFinder$Terms" 21 "LassoFinder$Terms" "codes" "[I" ∈ zTB := z_in (zt_1 _ (List.mem_of_getElem? (i := 167) rfl)) rfl
theorem zn_253 : Cond.fieldLink "LassoFinder$Terms" 25 "LassoFinder$Terms" "waiting" "[I" ∈ zTB := z_in (zt_1 _ (List.mem_of_getElem? (i := 169) rfl)) rfl
theorem zn_254 : Cond.fieldLink "LassoFinder$Terms" 28 "LassoFinder$Terms" "sides" "[I" ∈ zTB := z_in (zt_1 _ (List.mem_of_getElem? (i := 171) rfl)) rfl
theorem zn_255 : Cond.fieldLink "LassoFinder$Tree" 11 "LassoFinder$Tree" "kinds" "[I" ∈ zTB := z_in (zt_1 _ (List.mem_of_getElem? (i := 208) rfl)) rfl
theorem zn_256 : Cond.fieldLink "LassoFinder$Tree" 17 "LassoFinder$Tree" "around" "[I" ∈ zTB := z_in (zt_1 _ (List.mem_of_getElem? (i := 211) rfl)) rfl
theorem zn_257 : Cond.fieldLink "LassoFinder$Tree" 20 "LassoFinder$Tree" "loops" "[I" ∈ zTB := z_in (zt_1 _ (List.mem_of_getElem? (i := 213) rfl)) rfl
theorem zn_258 : Cond.fieldLink "LassoFinder$Tree" 23 "LassoFinder$Tree" "atomics" "[I" ∈ zTB := z_in (zt_1 _ (List.mem_of_getElem? (i := 214) rfl)) rfl
theorem zn_259 : Cond.fieldLink "LassoFinder$Tree" 26 "LassoFinder$Tree" "leads" "[Z" ∈ zTB := z_in (zt_1 _ (List.mem_of_getElem? (i := 216) rfl)) rfl
theorem zn_260 : Cond.fieldLink "LassoFinder$Tree" 30 "LassoFinder$Tree" "next" "[I" ∈ zTB := z_in (zt_1 _ (List.mem_of_getElem? (i := 218) rfl)) rfl
theorem zn_261 : Cond.fieldLink "LassoFinder$Tree" 33 "LassoFinder$Tree" "firstInside" "[I" ∈ zTB := z_in (zt_1 _ (List.mem_of_getElem? (i := 219) rfl)) rfl
theorem zn_262 : Cond.fieldLink "LassoFinder$Tree" 36 "LassoFinder$Tree" "pointOf" "[I" ∈ zTB := z_in (zt_1 _ (List.mem_of_getElem? (i := 220) rfl)) rfl
theorem zn_263 : Cond.fieldLink "LassoFinder$Tree" 39 "LassoFinder$Tree" "number" "[I" ∈ zTB := z_in (zt_1 _ (List.mem_of_getElem? (i := 222) rfl)) rfl
theorem zn_264 : Cond.fieldLink "LassoFinder$Tree" 42 "LassoFinder$Tree" "labelAt" "[I" ∈ zTB := z_in (zt_1 _ (List.mem_of_getElem? (i := 225) rfl)) rfl
theorem zn_265 : Cond.fieldLink "LassoFinder$Tree" 47 "LassoFinder$Tree" "labelled" "[I" ∈ zTB := z_in (zt_1 _ (List.mem_of_getElem? (i := 227) rfl)) rfl
theorem zn_266 : Cond.fieldLink "LassoFinder$Situation" 25 "LassoFinder$Situation" "amounts" "[I" ∈ zTB := z_in (zt_2 _ (List.mem_of_getElem? (i := 47) rfl)) rfl
theorem zn_267 : Cond.fieldLink "LassoFinder$Situation" 29 "LassoFinder$Situation" "messages" "[I" ∈ zTB := z_in (zt_2 _ (List.mem_of_getElem? (i := 50) rfl)) rfl
theorem zn_268 : Cond.fieldLink "LassoFinder$Situation" 34 "LassoFinder$Situation" "points" "[I" ∈ zTB := z_in (zt_2 _ (List.mem_of_getElem? (i := 51) rfl)) rfl
theorem zn_269 : Cond.fieldLink "LassoFinder$Graph" 15 "LassoFinder$Graph" "packedStates" "[J" ∈ zTB := z_in (zt_2 _ (List.mem_of_getElem? (i := 81) rfl)) rfl
theorem zn_270 : Cond.fieldLink "LassoFinder$Graph" 19 "LassoFinder$Graph" "firstStep" "[I" ∈ zTB := z_in (zt_2 _ (List.mem_of_getElem? (i := 84) rfl)) rfl
theorem zn_271 : Cond.fieldLink "LassoFinder$Graph" 23 "LassoFinder$Graph" "stepFrom" "[I" ∈ zTB := z_in (zt_2 _ (List.mem_of_getElem? (i := 87) rfl)) rfl
theorem zn_272 : Cond.fieldLink "LassoFinder$Graph" 26 "LassoFinder$Graph" "stepTo" "[I" ∈ zTB := z_in (zt_2 _ (List.mem_of_getElem? (i := 90) rfl)) rfl
theorem zn_273 : Cond.fieldLink "LassoFinder$Graph" 29 "LassoFinder$Graph" "stepBasic" "[I" ∈ zTB := z_in (zt_2 _ (List.mem_of_getElem? (i := 93) rfl)) rfl
theorem zn_274 : Cond.fieldLink "LassoFinder$Graph" 32 "LassoFinder$Graph" "stepPartner" "[I" ∈ zTB := z_in (zt_2 _ (List.mem_of_getElem? (i := 95) rfl)) rfl
theorem zn_275 : Cond.fieldLink "LassoFinder$Graph" 35 "LassoFinder$Graph" "firstSource" "[I" ∈ zTB := z_in (zt_2 _ (List.mem_of_getElem? (i := 97) rfl)) rfl
theorem zn_276 : Cond.fieldLink "LassoFinder$Graph" 38 "LassoFinder$Graph" "sources" "[I" ∈ zTB := z_in (zt_2 _ (List.mem_of_getElem? (i := 99) rfl)) rfl
theorem zn_277 : Cond.fieldLink "LassoFinder$Formula" 30 "LassoFinder$Formula" "kinds" "[I" ∈ zTB := z_in (zt_2 _ (List.mem_of_getElem? (i := 142) rfl)) rfl
theorem zn_278 : Cond.fieldLink "LassoFinder$Formula" 34 "LassoFinder$Formula" "left" "[I" ∈ zTB := z_in (zt_2 _ (List.mem_of_getElem? (i := 144) rfl)) rfl
theorem zn_279 : Cond.fieldLink "LassoFinder$Formula" 37 "LassoFinder$Formula" "right" "[I" ∈ zTB := z_in (zt_2 _ (List.mem_of_getElem? (i := 146) rfl)) rfl
theorem zn_280 : Cond.fieldLink "LassoFinder$Formula" 40 "LassoFinder$Formula" "temporalParts" "[I" ∈ zTB := z_in (zt_2 _ (List.mem_of_getElem? (i := 148) rfl)) rfl
theorem zn_281 : Cond.fieldLink "LassoFinder$Truths" 23 "LassoFinder$Truths" "parts" "[I" ∈ zTB := z_in (zt_2 _ (List.mem_of_getElem? (i := 189) rfl)) rfl
theorem zn_282 : Cond.fieldLink "LassoFinder$Truths" 29 "LassoFinder$Truths" "before" "[I" ∈ zTB := z_in (zt_2 _ (List.mem_of_getElem? (i := 190) rfl)) rfl
theorem zn_283 : Cond.fieldLink "LassoFinder$Truths" 32 "LassoFinder$Truths" "settled" "[I" ∈ zTB := z_in (zt_2 _ (List.mem_of_getElem? (i := 192) rfl)) rfl
theorem zn_284 : Cond.fieldLink "LassoFinder$Truths" 35 "LassoFinder$Truths" "satisfied" "[Z" ∈ zTB := z_in (zt_2 _ (List.mem_of_getElem? (i := 194) rfl)) rfl
theorem zn_285 : Cond.code ⟨"java/util/Arrays", "fill", "([II)V"⟩ prog_24_method_103_code 4 none ∈ zTB := z_in (zt_3 _ (List.mem_of_getElem? (i := 109) rfl)) rfl
theorem zn_286 : Cond.initialized "java/util/Arrays" ∈ zTB := z_in (zt_1 _ (List.mem_of_getElem? (i := 13) rfl)) rfl
theorem zn_287 : Cond.static ⟨"java/util/Arrays", "fill", "([II)V"⟩ ∈ zTB := z_in (zt_3 _ (List.mem_of_getElem? (i := 108) rfl)) rfl
theorem zn_288 : Cond.code ⟨"java/util/Arrays", "fill", "([JJ)V"⟩ prog_24_method_101_code 5 none ∈ zTB := z_in (zt_3 _ (List.mem_of_getElem? (i := 120) rfl)) rfl
theorem zn_289 : Cond.static ⟨"java/util/Arrays", "fill", "([JJ)V"⟩ ∈ zTB := z_in (zt_3 _ (List.mem_of_getElem? (i := 119) rfl)) rfl
theorem zf_Arrays_fill : zFaceS zy_Arrays_fill prog_24_method_103_code 4 none 2 := ⟨zn_287, zn_286, zn_285, by decide +kernel, by decide +kernel, by decide +kernel⟩
theorem zf_Arrays_fill_2 : zFaceS zy_Arrays_fill_2 prog_24_method_101_code 5 none 2 := ⟨zn_289, zn_286, zn_288, by decide +kernel, by decide +kernel, by decide +kernel⟩
theorem zd_Arrays_fill_0 : decode prog_24_method_103_code 0 = .ok (.iconst 0, 1) := by decide +kernel
theorem zd_Arrays_fill_1 : decode prog_24_method_103_code 1 = .ok (.istore_n 2, 1) := by decide +kernel
theorem zd_Arrays_fill_2 : decode prog_24_method_103_code 2 = .ok (.aload_n 0, 1) := by decide +kernel
theorem zd_Arrays_fill_3 : decode prog_24_method_103_code 3 = .ok (.arraylength, 1) := by decide +kernel
theorem zd_Arrays_fill_4 : decode prog_24_method_103_code 4 = .ok (.istore_n 3, 1) := by decide +kernel
theorem zd_Arrays_fill_5 : decode prog_24_method_103_code 5 = .ok (.iload_n 2, 1) := by decide +kernel
theorem zd_Arrays_fill_6 : decode prog_24_method_103_code 6 = .ok (.iload_n 3, 1) := by decide +kernel
theorem zd_Arrays_fill_7 : decode prog_24_method_103_code 7 = .ok (.if_icmp .ge 13, 3) := by decide +kernel
theorem zd_Arrays_fill_10 : decode prog_24_method_103_code 10 = .ok (.aload_n 0, 1) := by decide +kernel
theorem zd_Arrays_fill_11 : decode prog_24_method_103_code 11 = .ok (.iload_n 2, 1) := by decide +kernel
theorem zd_Arrays_fill_12 : decode prog_24_method_103_code 12 = .ok (.iload_n 1, 1) := by decide +kernel
theorem zd_Arrays_fill_13 : decode prog_24_method_103_code 13 = .ok (.iastore, 1) := by decide +kernel
theorem zd_Arrays_fill_14 : decode prog_24_method_103_code 14 = .ok (.iinc 2 1, 3) := by decide +kernel
theorem zd_Arrays_fill_17 : decode prog_24_method_103_code 17 = .ok (.goto (-12), 3) := by decide +kernel
theorem zd_Arrays_fill_20 : decode prog_24_method_103_code 20 = .ok (.return_, 1) := by decide +kernel
theorem zd_Arrays_fill_2_0 : decode prog_24_method_101_code 0 = .ok (.iconst 0, 1) := by decide +kernel
theorem zd_Arrays_fill_2_1 : decode prog_24_method_101_code 1 = .ok (.istore_n 3, 1) := by decide +kernel
theorem zd_Arrays_fill_2_2 : decode prog_24_method_101_code 2 = .ok (.aload_n 0, 1) := by decide +kernel
theorem zd_Arrays_fill_2_3 : decode prog_24_method_101_code 3 = .ok (.arraylength, 1) := by decide +kernel
theorem zd_Arrays_fill_2_4 : decode prog_24_method_101_code 4 = .ok (.istore 4, 2) := by decide +kernel
theorem zd_Arrays_fill_2_6 : decode prog_24_method_101_code 6 = .ok (.iload_n 3, 1) := by decide +kernel
theorem zd_Arrays_fill_2_7 : decode prog_24_method_101_code 7 = .ok (.iload 4, 2) := by decide +kernel
theorem zd_Arrays_fill_2_9 : decode prog_24_method_101_code 9 = .ok (.if_icmp .ge 13, 3) := by decide +kernel
theorem zd_Arrays_fill_2_12 : decode prog_24_method_101_code 12 = .ok (.aload_n 0, 1) := by decide +kernel
theorem zd_Arrays_fill_2_13 : decode prog_24_method_101_code 13 = .ok (.iload_n 3, 1) := by decide +kernel
theorem zd_Arrays_fill_2_14 : decode prog_24_method_101_code 14 = .ok (.lload_n 1, 1) := by decide +kernel
theorem zd_Arrays_fill_2_15 : decode prog_24_method_101_code 15 = .ok (.lastore, 1) := by decide +kernel
theorem zd_Arrays_fill_2_16 : decode prog_24_method_101_code 16 = .ok (.iinc 3 1, 3) := by decide +kernel
theorem zd_Arrays_fill_2_19 : decode prog_24_method_101_code 19 = .ok (.goto (-13), 3) := by decide +kernel
theorem zd_Arrays_fill_2_22 : decode prog_24_method_101_code 22 = .ok (.return_, 1) := by decide +kernel
set_option maxHeartbeats 4000000 in
set_option maxRecDepth 100000 in
/-- Arrays.fill: every place holds v -/
theorem c_fillI (l : Launch) (G : va_G) (K : Nat → ClassId) (a : Nat) (n : Nat) (f : Nat → Int32) (v : Int32) (sz : Nat) (hn : n < 2 ^ 31) : Met l zy_Arrays_fill (Cond.code zy_Arrays_fill prog_24_method_103_code 4 none :: zTB) { frames := 0, cells := 0, slots := 0, locals := 0 } (va_Pc [.ref a, .int v] (zPre G K [(a, zI K n f)] sz)) (va_Qv (fun _ : Unit => True) (fun u t => zPost G K (va_A [(a, zI K n f)] sz) [(a, zI K n (zFill f v n))] t) (va_A [(a, zI K n f)] sz)) 0 0 (va_A [(a, zI K n f)] sz) := by
  refine zMet (y := zy_Arrays_fill) (av := [.ref a, .int v]) (maxL := 4) (cc := prog_24_method_103_code) (ret := none) (W0 := [(a, zI K n f)]) (sz := sz) (G := G) (K := K) (wt := zTB) (mc := 0) (ms := 0) (Qf := fun A => va_Qv (fun _ : Unit => True) (fun u t => zPost G K A [(a, zI K n (zFill f v n))] t) A) (by decide) (Nat.le_of_ble_eq_true rfl) ?_
  intro p e s m below meth c ls A hx hb hr hml hts hown hlocks hin hA hK H locs hw hsz hl
  clear hsz
  have hown : s.vm.findClass "java/util/Arrays" = some m.cls := hown
  have hl : lv_has ls 4 [(0, .ref a), (1, .int v)] := hl
  have hw : zW G A s.heap [(a, zI K n f)] H locs := hw
  refine lv_iconst (v := 0) hx hb zd_Arrays_fill_0 (by decide) ?_
  refine lv_istore_n hx hb zd_Arrays_fill_1 rfl hl (by decide) rfl (fun ls hl => ?_)
  have hl : lv_has ls 4 [(2, .int 0), (0, .ref a), (1, .int v)] := hl
  refine lv_aload_n hx hb zd_Arrays_fill_2 rfl (lv_at hl 1 rfl) ?_
  refine va_alen (v := Int32.ofNat n) hx hb hK hw.1 0 0 rfl rfl rfl zd_Arrays_fill_3 ?_
  refine lv_istore_n hx hb zd_Arrays_fill_4 rfl hl (by decide) rfl (fun ls hl => ?_)
  have hl : lv_has ls 4 [(3, .int (Int32.ofNat n)), (2, .int 0), (0, .ref a), (1, .int v)] := hl
  suffices hloop : ∀ (d i : Nat) (ls : Array Slot) (H : Heap) (locs : List Loc), i + d = n → lv_has ls 4 [(3, .int (Int32.ofNat n)), (2, .int (nI i)), (0, .ref a), (1, .int v)] → zW G A s.heap [(a, zI K n (zFill f v i))] H locs → W p l e { frames := 0, cells := 0, slots := 0, locals := 0 } s m ([.ref a, .int v] : List Value).toArray below meth c H locs 0 0 (MQ below (va_Qv (fun _ : Unit => True) (fun u t => zPost G K A [(a, zI K n (zFill f v n))] t) A) ([.ref a, .int v] : List Value).toArray s 0 0 A) (F0 m 5 ls []) by
    exact hloop n 0 ls H locs (by omega) hl (by rw [zFill_0]; exact hw)
  intro d
  induction d with
  | zero =>
    intro i ls H locs hi hl hw
    have hi9 : i = n := by omega
    rw [hi9] at hl hw
    have hl : lv_has ls 4 [(3, .int (Int32.ofNat n)), (2, .int (nI n)), (0, .ref a), (1, .int v)] := hl
    have hw : zW G A s.heap [(a, zI K n (zFill f v n))] H locs := hw
    refine lv_iload_n hx hb zd_Arrays_fill_5 rfl (lv_at hl 1 rfl) ?_
    refine lv_iload_n hx hb zd_Arrays_fill_6 rfl (lv_at hl 0 rfl) ?_
    refine lv_icmp_ge (tgt := 20) hx hb zd_Arrays_fill_7 (by decide) (fun _ => ?_) (fun h9 => absurd h9 (fun h => h (Int32.le_refl _)))
    exact z_vret (u := ()) hx hb hr hlocks hw [0] rfl (by decide) trivial (Nat.le_of_ble_eq_true rfl) (Nat.le_of_ble_eq_true rfl) zd_Arrays_fill_20
  | succ d ih =>
    intro i ls H locs hi hl hw
    have hl : lv_has ls 4 [(3, .int (Int32.ofNat n)), (2, .int (nI i)), (0, .ref a), (1, .int v)] := hl
    have hw : zW G A s.heap [(a, zI K n (zFill f v i))] H locs := hw
    refine lv_iload_n hx hb zd_Arrays_fill_5 rfl (lv_at hl 1 rfl) ?_
    refine lv_iload_n hx hb zd_Arrays_fill_6 rfl (lv_at hl 0 rfl) ?_
    refine lv_icmp_ge (tgt := 20) hx hb zd_Arrays_fill_7 (by decide) (fun h9 => absurd h9 (nI_ge (a := i) (b := n) (by omega) hn)) (fun _ => ?_)
    refine lv_aload_n hx hb zd_Arrays_fill_10 rfl (lv_at hl 2 rfl) ?_
    refine lv_iload_n hx hb zd_Arrays_fill_11 rfl (lv_at hl 1 rfl) ?_
    refine lv_iload_n hx hb zd_Arrays_fill_12 rfl (lv_at hl 3 rfl) ?_
    refine va_iast hx hb hK hw.1 hw.2.1 hw.2.2 0 0 rfl rfl (vp_in_nI (by omega) hn) zd_Arrays_fill_13 (fun H locs a1 a2 a3 => ?_)
    have hw : zW G A s.heap _ H locs := ⟨a1, a2, a3⟩
    have hw : zW G A s.heap [(a, zI K n (upd (zFill f v i) (nI i).toNatClampNeg v))] H locs := hw
    refine lv_iinc (v := (nI i + 1)) hx hb zd_Arrays_fill_14 hl (k := 1) rfl rfl (by decide) rfl (fun ls hl => ?_)
    have hl : lv_has ls 4 [(2, .int (nI i + 1)), (3, .int (Int32.ofNat n)), (0, .ref a), (1, .int v)] := hl
    refine lv_goto (tgt := 5) hx hb zd_Arrays_fill_17 (by decide) ?_
    rw [nI_clamp (by omega), zFill_s] at hw
    exact ih (i + 1) ls H locs (by omega) (by rw [nI_succ]; exact lv_sub hl [1, 0, 2, 3] rfl) hw
set_option maxHeartbeats 4000000 in
set_option maxRecDepth 100000 in
/-- Arrays.fill: every place holds v -/
theorem c_fillJ (l : Launch) (G : va_G) (K : Nat → ClassId) (a : Nat) (n : Nat) (f : Nat → Int64) (v : Int64) (sz : Nat) (hn : n < 2 ^ 31) : Met l zy_Arrays_fill_2 (Cond.code zy_Arrays_fill_2 prog_24_method_101_code 5 none :: zTB) { frames := 0, cells := 0, slots := 0, locals := 0 } (va_Pc [.ref a, .long v] (zPre G K [(a, zJ K n f)] sz)) (va_Qv (fun _ : Unit => True) (fun u t => zPost G K (va_A [(a, zJ K n f)] sz) [(a, zJ K n (zFill f v n))] t) (va_A [(a, zJ K n f)] sz)) 0 0 (va_A [(a, zJ K n f)] sz) := by
  refine zMet (y := zy_Arrays_fill_2) (av := [.ref a, .long v]) (maxL := 5) (cc := prog_24_method_101_code) (ret := none) (W0 := [(a, zJ K n f)]) (sz := sz) (G := G) (K := K) (wt := zTB) (mc := 0) (ms := 0) (Qf := fun A => va_Qv (fun _ : Unit => True) (fun u t => zPost G K A [(a, zJ K n (zFill f v n))] t) A) (by decide) (Nat.le_of_ble_eq_true rfl) ?_
  intro p e s m below meth c ls A hx hb hr hml hts hown hlocks hin hA hK H locs hw hsz hl
  clear hsz
  have hown : s.vm.findClass "java/util/Arrays" = some m.cls := hown
  have hl : lv_has ls 5 [(0, .ref a), (1, .long v)] := hl
  have hw : zW G A s.heap [(a, zJ K n f)] H locs := hw
  refine lv_iconst (v := 0) hx hb zd_Arrays_fill_2_0 (by decide) ?_
  refine lv_istore_n hx hb zd_Arrays_fill_2_1 rfl hl (by decide) rfl (fun ls hl => ?_)
  have hl : lv_has ls 5 [(3, .int 0), (0, .ref a), (1, .long v)] := hl
  refine lv_aload_n hx hb zd_Arrays_fill_2_2 rfl (lv_at hl 1 rfl) ?_
  refine va_alen (v := Int32.ofNat n) hx hb hK hw.1 0 1 rfl rfl rfl zd_Arrays_fill_2_3 ?_
  refine lv_istore hx hb zd_Arrays_fill_2_4 hl (by decide) rfl (fun ls hl => ?_)
  have hl : lv_has ls 5 [(4, .int (Int32.ofNat n)), (3, .int 0), (0, .ref a), (1, .long v)] := hl
  suffices hloop : ∀ (d i : Nat) (ls : Array Slot) (H : Heap) (locs : List Loc), i + d = n → lv_has ls 5 [(4, .int (Int32.ofNat n)), (3, .int (nI i)), (0, .ref a), (1, .long v)] → zW G A s.heap [(a, zJ K n (zFill f v i))] H locs → W p l e { frames := 0, cells := 0, slots := 0, locals := 0 } s m ([.ref a, .long v] : List Value).toArray below meth c H locs 0 0 (MQ below (va_Qv (fun _ : Unit => True) (fun u t => zPost G K A [(a, zJ K n (zFill f v n))] t) A) ([.ref a, .long v] : List Value).toArray s 0 0 A) (F0 m 6 ls []) by
    exact hloop n 0 ls H locs (by omega) hl (by rw [zFill_0]; exact hw)
  intro d
  induction d with
  | zero =>
    intro i ls H locs hi hl hw
    have hi9 : i = n := by omega
    rw [hi9] at hl hw
    have hl : lv_has ls 5 [(4, .int (Int32.ofNat n)), (3, .int (nI n)), (0, .ref a), (1, .long v)] := hl
    have hw : zW G A s.heap [(a, zJ K n (zFill f v n))] H locs := hw
    refine lv_iload_n hx hb zd_Arrays_fill_2_6 rfl (lv_at hl 1 rfl) ?_
    refine lv_iload hx hb zd_Arrays_fill_2_7 (lv_at hl 0 rfl) ?_
    refine lv_icmp_ge (tgt := 22) hx hb zd_Arrays_fill_2_9 (by decide) (fun _ => ?_) (fun h9 => absurd h9 (fun h => h (Int32.le_refl _)))
    exact z_vret (u := ()) hx hb hr hlocks hw [0] rfl (by decide) trivial (Nat.le_of_ble_eq_true rfl) (Nat.le_of_ble_eq_true rfl) zd_Arrays_fill_2_22
  | succ d ih =>
    intro i ls H locs hi hl hw
    have hl : lv_has ls 5 [(4, .int (Int32.ofNat n)), (3, .int (nI i)), (0, .ref a), (1, .long v)] := hl
    have hw : zW G A s.heap [(a, zJ K n (zFill f v i))] H locs := hw
    refine lv_iload_n hx hb zd_Arrays_fill_2_6 rfl (lv_at hl 1 rfl) ?_
    refine lv_iload hx hb zd_Arrays_fill_2_7 (lv_at hl 0 rfl) ?_
    refine lv_icmp_ge (tgt := 22) hx hb zd_Arrays_fill_2_9 (by decide) (fun h9 => absurd h9 (nI_ge (a := i) (b := n) (by omega) hn)) (fun _ => ?_)
    refine lv_aload_n hx hb zd_Arrays_fill_2_12 rfl (lv_at hl 2 rfl) ?_
    refine lv_iload_n hx hb zd_Arrays_fill_2_13 rfl (lv_at hl 1 rfl) ?_
    refine lv_lload_n hx hb zd_Arrays_fill_2_14 rfl (lv_at hl 3 rfl) ?_
    refine va_last hx hb hK hw.1 hw.2.1 hw.2.2 0 1 rfl rfl (vp_in_nI (by omega) hn) zd_Arrays_fill_2_15 (fun H locs a1 a2 a3 => ?_)
    have hw : zW G A s.heap _ H locs := ⟨a1, a2, a3⟩
    have hw : zW G A s.heap [(a, zJ K n (vp_updL (zFill f v i) (nI i).toNatClampNeg v))] H locs := hw
    refine lv_iinc (v := (nI i + 1)) hx hb zd_Arrays_fill_2_16 hl (k := 1) rfl rfl (by decide) rfl (fun ls hl => ?_)
    have hl : lv_has ls 5 [(3, .int (nI i + 1)), (4, .int (Int32.ofNat n)), (0, .ref a), (1, .long v)] := hl
    refine lv_goto (tgt := 6) hx hb zd_Arrays_fill_2_19 (by decide) ?_
    rw [nI_clamp (by omega), zFill_sL] at hw
    exact ih (i + 1) ls H locs (by omega) (by rw [nI_succ]; exact lv_sub hl [1, 0, 2, 3] rfl) hw
section ZFL
variable {p : Program} {l : Launch} {e : Env} {R : Room} {s : State} {m : MethodId} {args : Array Value} {below : List Frame} {meth : Method} {c : Code} {H : Heap} {locs : List Loc} {cells slots : Nat} {Q : State → Prop}
variable {cc : ByteArray} {pc : Nat} {ls : Array Slot} {rest st0 : List Value} {G : va_G} {K : Nat → ClassId} {A : Nat → Prop} {ws : va_W}
/-- one cell of a world was another method's world: what became of the rest -/
theorem z_one {wc1 : Nat × va_E} {e1 : va_E} {q0 : Nat} {H1 : Heap} {locs1 : List Loc} (hw : zW G A s.heap ws H locs) (he : ws[q0]? = some wc1) (hk : ∀ q : Nat, q < H.size → ¬ va_A [wc1] H.size q → H1[q]? = H[q]?) (hP1 : va_P G vwCl [(wc1.1, e1)] H1) (hS1 : va_S A s.heap H1 locs1) : zW G A s.heap (ws.set q0 (wc1.1, e1)) H1 locs1 := by
  obtain ⟨hP, hD, hS⟩ := hw
  refine ⟨fun k q hq => ?_, hD.set (e0 := wc1.2) he, hS1⟩
  by_cases hk0 : k = q0
  · subst hk0
    rw [List.getElem?_set_self (List.getElem?_eq_some_iff.mp he).1] at hq
    cases hq
    exact hP1 0 _ rfl
  · rw [List.getElem?_set_ne (Ne.symm hk0)] at hq
    refine (hP k q hq).kept (hk q.1 ((hP k q hq).lt) ?_)
    intro h
    rcases h with ⟨k2, e9, h9⟩ | h9
    · cases k2 with
      | zero =>
        have h8 : wc1 = (q.1, e9) := Option.some.inj h9
        exact hk0 (hD.1 k q0 q wc1 hq he (by rw [h8]))
      | succ k2 => simp at h9
    · have := (hP k q hq).lt
      omega
theorem z_fillI {n a0 index nL : Nat} {f : Nat → Int32} {v : Int32} {own : String} (SF : CallFix p m c cc nL s args zTB own) (hK : va_K G vwCl (zK K) s) (hw : zW G A s.heap ws H locs) (hA : ∀ q, s.heap.size ≤ q → A q) (q0 : Nat) (he : ws[q0]? = some (a0, .inl (K 0, n, .inl f))) (hn : n < 2 ^ 31) (h1 : Cond.methodLink own index ⟨"java/util/Arrays", "fill", "([II)V"⟩ ∈ zTB) (hR : 0 + 1 ≤ R.frames ∧ 8 + (4 + 11) + 0 ≤ R.locals) (hsize : ls.size = nL) (hst : st0 = .int v :: .ref a0 :: rest) (hW : (rest.map fun v => v.category).sum ≤ 8) (hdg : decode cc pc = .ok (.invokestatic index, 3)) (hroom : cells + 0 ≤ R.cells ∧ slots + 0 ≤ R.slots)
    (kk : ∀ (H1 : Heap) (locs1 : List Loc), zW G A s.heap (ws.set q0 (a0, .inl (K 0, n, .inl (zFill f v n)))) H1 locs1 → W p l e R s m args below meth c H1 locs1 cells slots Q (F0 m (pc + 3) ls rest)) : W p l e R s m args below meth c H locs cells slots Q (F0 m pc ls st0) := by
  have hi : [q0].map (fun i => ws[i]?) = [((a0, zI K n f) : Nat × va_E)].map some := by simp [he]
  have hFc := va_free (wc := [(a0, zI K n f)]) hw.2.1 hw.2.2 hA [q0] hi
  refine va_callv (z_runS (wc := [(a0, zI K n f)]) (As := [.ref a0, .int v]) (rest := rest) (st0 := st0) SF (c_fillI l G K a0 n f v H.size hn) zf_Arrays_fill h1 hR hK hw [q0] hi rfl rfl hsize hst hW hdg hroom) hw.2.2 (fun q _ h => hFc q h) hFc (fun u t H1 locs1 ht hvm hp hB hz hk hS1 => ?_)
  obtain ⟨hP1, hD1⟩ := hB
  rw [ht] at hP1
  exact kk H1 locs1 (z_one hw he hk hP1 hS1)
theorem z_fillJ {n a0 index nL : Nat} {f : Nat → Int64} {v : Int64} {own : String} (SF : CallFix p m c cc nL s args zTB own) (hK : va_K G vwCl (zK K) s) (hw : zW G A s.heap ws H locs) (hA : ∀ q, s.heap.size ≤ q → A q) (q0 : Nat) (he : ws[q0]? = some (a0, .inl (K 1, n, .inr (.inl f)))) (hn : n < 2 ^ 31) (h1 : Cond.methodLink own index ⟨"java/util/Arrays", "fill", "([JJ)V"⟩ ∈ zTB) (hR : 0 + 1 ≤ R.frames ∧ 8 + (5 + 11) + 0 ≤ R.locals) (hsize : ls.size = nL) (hst : st0 = .long v :: .ref a0 :: rest) (hW : (rest.map fun v => v.category).sum ≤ 8) (hdg : decode cc pc = .ok (.invokestatic index, 3)) (hroom : cells + 0 ≤ R.cells ∧ slots + 0 ≤ R.slots)
    (kk : ∀ (H1 : Heap) (locs1 : List Loc), zW G A s.heap (ws.set q0 (a0, .inl (K 1, n, .inr (.inl (zFill f v n))))) H1 locs1 → W p l e R s m args below meth c H1 locs1 cells slots Q (F0 m (pc + 3) ls rest)) : W p l e R s m args below meth c H locs cells slots Q (F0 m pc ls st0) := by
  have hi : [q0].map (fun i => ws[i]?) = [((a0, zJ K n f) : Nat × va_E)].map some := by simp [he]
  have hFc := va_free (wc := [(a0, zJ K n f)]) hw.2.1 hw.2.2 hA [q0] hi
  refine va_callv (z_runS (wc := [(a0, zJ K n f)]) (As := [.ref a0, .long v]) (rest := rest) (st0 := st0) SF (c_fillJ l G K a0 n f v H.size hn) zf_Arrays_fill_2 h1 hR hK hw [q0] hi rfl rfl hsize hst hW hdg hroom) hw.2.2 (fun q _ h => hFc q h) hFc (fun u t H1 locs1 ht hvm hp hB hz hk hS1 => ?_)
  obtain ⟨hP1, hD1⟩ := hB
  rw [ht] at hP1
  exact kk H1 locs1 (z_one hw he hk hP1 hS1)
end ZFL
