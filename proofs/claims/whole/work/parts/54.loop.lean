theorem zd_LassoFinderLaw_law_23 : decode code 23 = .ok (.iload 4, 2) := by decide +kernel
theorem zd_LassoFinderLaw_law_25 : decode code 25 = .ok (.aload_n 0, 1) := by decide +kernel
theorem zd_LassoFinderLaw_law_26 : decode code 26 = .ok (.arraylength, 1) := by decide +kernel
theorem zd_LassoFinderLaw_law_27 : decode code 27 = .ok (.iconst 3, 1) := by decide +kernel
theorem zd_LassoFinderLaw_law_28 : decode code 28 = .ok (.isub, 1) := by decide +kernel
theorem zd_LassoFinderLaw_law_29 : decode code 29 = .ok (.if_icmp .gt 681, 3) := by decide +kernel
theorem zd_LassoFinderLaw_law_32 : decode code 32 = .ok (.aload_n 0, 1) := by decide +kernel
theorem zd_LassoFinderLaw_law_33 : decode code 33 = .ok (.iload 4, 2) := by decide +kernel
theorem zd_LassoFinderLaw_law_35 : decode code 35 = .ok (.iaload, 1) := by decide +kernel
theorem zd_LassoFinderLaw_law_36 : decode code 36 = .ok (.bipush 31, 2) := by decide +kernel
theorem zd_LassoFinderLaw_law_38 : decode code 38 = .ok (.iand, 1) := by decide +kernel
theorem zd_LassoFinderLaw_law_39 : decode code 39 = .ok (.tableswitch 665 0 16 #[81, 138, 182, 226, 239, 290, 303, 316, 384, 408, 421, 477, 502, 539, 564, 577, 640], 81) := by decide +kernel
theorem zd_LassoFinderLaw_law_704 : decode code 704 = .ok (.iinc 4 3, 3) := by decide +kernel
theorem zd_LassoFinderLaw_law_707 : decode code 707 = .ok (.goto (-684), 3) := by decide +kernel
theorem zd_LassoFinderLaw_law_710 : decode code 710 = .ok (.iconst 1, 1) := by decide +kernel
theorem zd_LassoFinderLaw_law_711 : decode code 711 = .ok (.ireturn, 1) := by decide +kernel
theorem zi_le {i L : Nat} (hL : L ≤ 1536) (hi : i ≤ 1600) {z : Int32} (hz : z = nI L - 3) (h : ¬ z < nI i) : i + 3 ≤ L := by
  subst hz
  rw [Int32.lt_iff_toInt_lt, nI_toInt (by omega), Int32.toInt_sub, nI_toInt (by omega)] at h
  have e3 : (3 : Int32).toInt = 3 := rfl
  rw [e3, Int.bmod_eq_of_le (by omega) (by omega)] at h
  omega

/-- one call of the script, whatever it is -/
def lcN (KN KS : ((Nat → Int32) → (Nat → Int64) → (Nat → Nat → Int32) → (Nat → Nat → Int64) → (Nat → Int32) → (Nat → Int64) → (Nat → Nat → Int32) → (Nat → Nat → Int64) → Prop)) (k8 a8 b8 : Int32) (I : Nat → Int32) (J : Nat → Int64) (B : Nat → Nat → Int32) (D : Nat → Nat → Int64) (I9 : Nat → Int32) (J9 : Nat → Int64) (B9 : Nat → Nat → Int32) (D9 : Nat → Nat → Int64) : Prop :=
  (k8 = 0 → lc0_N KN a8 b8 I J B D I9 J9 B9 D9) ∧
  (k8 = 1 → lc1_N KN a8 b8 I J B D I9 J9 B9 D9) ∧
  (k8 = 2 → lc2_N KN a8 b8 I J B D I9 J9 B9 D9) ∧
  (k8 = 3 → lc3_N KN a8 b8 I J B D I9 J9 B9 D9) ∧
  (k8 = 4 → (I 2 = 0 → lc4_N KN a8 b8 I J B D I9 J9 B9 D9) ∧ (¬ I 2 = 0 → lc4_M KS a8 b8 I J B D I9 J9 B9 D9)) ∧
  (k8 = 5 → lc5_N KN a8 b8 I J B D I9 J9 B9 D9) ∧
  (k8 = 6 → lc6_N KN a8 b8 I J B D I9 J9 B9 D9) ∧
  (k8 = 7 → lc7_N KN a8 b8 I J B D I9 J9 B9 D9) ∧
  (k8 = 8 → lc8_N KN a8 b8 I J B D I9 J9 B9 D9) ∧
  (k8 = 9 → lc9_N KN a8 b8 I J B D I9 J9 B9 D9) ∧
  (k8 = 10 → lc10_N KN a8 b8 I J B D I9 J9 B9 D9) ∧
  (k8 = 11 → lc11_N KN a8 b8 I J B D I9 J9 B9 D9) ∧
  (k8 = 12 → lc12_N KN a8 b8 I J B D I9 J9 B9 D9) ∧
  (k8 = 13 → lc13_N KN a8 b8 I J B D I9 J9 B9 D9) ∧
  (k8 = 14 → lc14_N KN a8 b8 I J B D I9 J9 B9 D9) ∧
  (k8 = 15 → lc15_N KN a8 b8 I J B D I9 J9 B9 D9) ∧
  (k8 = 16 → lc16_N KN a8 b8 I J B D I9 J9 B9 D9) ∧
  (¬ k8 = 0 → ¬ k8 = 1 → ¬ k8 = 2 → ¬ k8 = 3 → ¬ k8 = 4 → ¬ k8 = 5 → ¬ k8 = 6 → ¬ k8 = 7 → ¬ k8 = 8 → ¬ k8 = 9 → ¬ k8 = 10 → ¬ k8 = 11 → ¬ k8 = 12 → ¬ k8 = 13 → ¬ k8 = 14 → ¬ k8 = 15 → ¬ k8 = 16 → KN I J B D I9 J9 B9 D9)

set_option maxHeartbeats 8000000 in
set_option maxRecDepth 100000 in
theorem zs_N {p : Program} {l : Launch} {e : Env} {s : State} {m : MethodId} {below : List Frame} {meth : Method} {c : Code} {A : Nat → Prop} {G : va_G} {K : Nat → ClassId} {b L : Nat} {xs : Nat → Int32} (C : zCL p l s m b L xs meth c A G K) {ad am : Nat → Nat} {i8 c9 s9 : Nat} (KN KS : ((Nat → Int32) → (Nat → Int64) → (Nat → Nat → Int32) → (Nat → Nat → Int64) → (Nat → Int32) → (Nat → Int64) → (Nat → Nat → Int32) → (Nat → Nat → Int64) → Prop)) (kh : ∀ (I : Nat → Int32) (J : Nat → Int64) (B : Nat → Nat → Int32) (D : Nat → Nat → Int64) (I9 : Nat → Int32) (J9 : Nat → Int64) (B9 : Nat → Nat → Int32) (D9 : Nat → Nat → Int64) (ls : Array Slot) (H : Heap) (locs : List Loc), KN I J B D I9 J9 B9 D9 → lv_has ls 7 [(4, .int (nI i8)), (3, .ref (ad 77)), (2, .ref (am 0)), (1, .ref (ad 0)), (0, .ref b)] → zW G A s.heap (wLN ad am K I J B D I9 J9 B9 D9) H locs → W p l e room_1 s m #[Value.ref b] below meth c H locs (c9 + 1) (s9 + 6) (lw_Z below #[Value.ref b] s) (F0 m 704 ls [])) (khS : ∀ (ad2 : Nat → Nat), ad2 0 = ad 0 → ad2 77 = ad 77 → ∀ (I : Nat → Int32) (J : Nat → Int64) (B : Nat → Nat → Int32) (D : Nat → Nat → Int64) (I9 : Nat → Int32) (J9 : Nat → Int64) (B9 : Nat → Nat → Int32) (D9 : Nat → Nat → Int64) (ls : Array Slot) (H : Heap) (locs : List Loc), KS I J B D I9 J9 B9 D9 → lv_has ls 7 [(4, .int (nI i8)), (3, .ref (ad 77)), (2, .ref (am 0)), (1, .ref (ad 0)), (0, .ref b)] → zW G A s.heap (wLS ad2 am K I J B D I9 J9 B9 D9) H locs → W p l e room_1 s m #[Value.ref b] below meth c H locs (c9 + 13) (s9 + 23834) (lw_Z below #[Value.ref b] s) (F0 m 704 ls [])) (hrc : c9 + 13 ≤ 601024) (hrs : s9 + 23834 ≤ 7293033) (hi : i8 + 3 ≤ L) (hL : L ≤ 1536) {k8 a8 b8 : Int32} (h81 : xs (i8 + 1) = a8) (h82 : xs (i8 + 2) = b8) : ∀ (I : Nat → Int32) (J : Nat → Int64) (B : Nat → Nat → Int32) (D : Nat → Nat → Int64) (I9 : Nat → Int32) (J9 : Nat → Int64) (B9 : Nat → Nat → Int32) (D9 : Nat → Nat → Int64) (ls : Array Slot) (H : Heap) (locs : List Loc), lcN KN KS k8 a8 b8 I J B D I9 J9 B9 D9 → lv_has ls 7 [(4, .int (nI i8)), (3, .ref (ad 77)), (2, .ref (am 0)), (1, .ref (ad 0)), (0, .ref b)] → zW G A s.heap (wLN ad am K I J B D I9 J9 B9 D9) H locs → W p l e room_1 s m #[Value.ref b] below meth c H locs c9 s9 (lw_Z below #[Value.ref b] s) (F0 m 39 ls [.int k8]) := by
  intro I J B D I9 J9 B9 D9 ls H locs hok hl hw
  obtain ⟨hx, hb, hr, hml, hts, hown, hlocks, hA, hA9, hbA, hK, hT, hX, hbl, hlt⟩ := id C
  by_cases hs0 : k8 = 0
  · have hok := hok.1 hs0
    refine lv_tableIn (off := 81) (tgt := 120) hx hb zd_LassoFinderLaw_law_39 (by rw [hs0]; decide) (by rw [hs0]; decide) (by rw [hs0]; decide) (by decide) ?_
    exact zc0_N C KN kh hi hL h81 h82 (by omega) (by omega) I J B D I9 J9 B9 D9 ls H locs hok hl hw
  by_cases hs1 : k8 = 1
  · have hok := hok.2.1 hs1
    refine lv_tableIn (off := 138) (tgt := 177) hx hb zd_LassoFinderLaw_law_39 (by rw [hs1]; decide) (by rw [hs1]; decide) (by rw [hs1]; decide) (by decide) ?_
    exact zc1_N C KN kh hi hL h81 h82 (by omega) (by omega) I J B D I9 J9 B9 D9 ls H locs hok hl hw
  by_cases hs2 : k8 = 2
  · have hok := hok.2.2.1 hs2
    refine lv_tableIn (off := 182) (tgt := 221) hx hb zd_LassoFinderLaw_law_39 (by rw [hs2]; decide) (by rw [hs2]; decide) (by rw [hs2]; decide) (by decide) ?_
    exact zc2_N C KN kh hi hL h81 h82 (by omega) (by omega) I J B D I9 J9 B9 D9 ls H locs hok hl hw
  by_cases hs3 : k8 = 3
  · have hok := hok.2.2.2.1 hs3
    refine lv_tableIn (off := 226) (tgt := 265) hx hb zd_LassoFinderLaw_law_39 (by rw [hs3]; decide) (by rw [hs3]; decide) (by rw [hs3]; decide) (by decide) ?_
    exact zc3_N C KN kh hi hL h81 h82 (by omega) (by omega) I J B D I9 J9 B9 D9 ls H locs hok hl hw
  by_cases hs4 : k8 = 4
  · have hok := hok.2.2.2.2.1 hs4
    refine lv_tableIn (off := 239) (tgt := 278) hx hb zd_LassoFinderLaw_law_39 (by rw [hs4]; decide) (by rw [hs4]; decide) (by rw [hs4]; decide) (by decide) ?_
    by_cases hf8 : I 2 = 0
    · exact zc4_N C KN kh hi hL h81 h82 (by omega) (by omega) I J B D I9 J9 B9 D9 ls H locs (hok.1 hf8) hl hw
    · exact zc4_M C KS khS hi hL h81 h82 (by omega) (by omega) I J B D I9 J9 B9 D9 ls H locs (hok.2 hf8) hl hw
  by_cases hs5 : k8 = 5
  · have hok := hok.2.2.2.2.2.1 hs5
    refine lv_tableIn (off := 290) (tgt := 329) hx hb zd_LassoFinderLaw_law_39 (by rw [hs5]; decide) (by rw [hs5]; decide) (by rw [hs5]; decide) (by decide) ?_
    exact zc5_N C KN kh hi hL h81 h82 (by omega) (by omega) I J B D I9 J9 B9 D9 ls H locs hok hl hw
  by_cases hs6 : k8 = 6
  · have hok := hok.2.2.2.2.2.2.1 hs6
    refine lv_tableIn (off := 303) (tgt := 342) hx hb zd_LassoFinderLaw_law_39 (by rw [hs6]; decide) (by rw [hs6]; decide) (by rw [hs6]; decide) (by decide) ?_
    exact zc6_N C KN kh hi hL h81 h82 (by omega) (by omega) I J B D I9 J9 B9 D9 ls H locs hok hl hw
  by_cases hs7 : k8 = 7
  · have hok := hok.2.2.2.2.2.2.2.1 hs7
    refine lv_tableIn (off := 316) (tgt := 355) hx hb zd_LassoFinderLaw_law_39 (by rw [hs7]; decide) (by rw [hs7]; decide) (by rw [hs7]; decide) (by decide) ?_
    exact zc7_N C KN kh hi hL h81 h82 (by omega) (by omega) I J B D I9 J9 B9 D9 ls H locs hok hl hw
  by_cases hs8 : k8 = 8
  · have hok := hok.2.2.2.2.2.2.2.2.1 hs8
    refine lv_tableIn (off := 384) (tgt := 423) hx hb zd_LassoFinderLaw_law_39 (by rw [hs8]; decide) (by rw [hs8]; decide) (by rw [hs8]; decide) (by decide) ?_
    exact zc8_N C KN kh hi hL h81 h82 (by omega) (by omega) I J B D I9 J9 B9 D9 ls H locs hok hl hw
  by_cases hs9 : k8 = 9
  · have hok := hok.2.2.2.2.2.2.2.2.2.1 hs9
    refine lv_tableIn (off := 408) (tgt := 447) hx hb zd_LassoFinderLaw_law_39 (by rw [hs9]; decide) (by rw [hs9]; decide) (by rw [hs9]; decide) (by decide) ?_
    exact zc9_N C KN kh hi hL h81 h82 (by omega) (by omega) I J B D I9 J9 B9 D9 ls H locs hok hl hw
  by_cases hs10 : k8 = 10
  · have hok := hok.2.2.2.2.2.2.2.2.2.2.1 hs10
    refine lv_tableIn (off := 421) (tgt := 460) hx hb zd_LassoFinderLaw_law_39 (by rw [hs10]; decide) (by rw [hs10]; decide) (by rw [hs10]; decide) (by decide) ?_
    exact zc10_N C KN kh hi hL h81 h82 (by omega) (by omega) I J B D I9 J9 B9 D9 ls H locs hok hl hw
  by_cases hs11 : k8 = 11
  · have hok := hok.2.2.2.2.2.2.2.2.2.2.2.1 hs11
    refine lv_tableIn (off := 477) (tgt := 516) hx hb zd_LassoFinderLaw_law_39 (by rw [hs11]; decide) (by rw [hs11]; decide) (by rw [hs11]; decide) (by decide) ?_
    exact zc11_N C KN kh hi hL h81 h82 (by omega) (by omega) I J B D I9 J9 B9 D9 ls H locs hok hl hw
  by_cases hs12 : k8 = 12
  · have hok := hok.2.2.2.2.2.2.2.2.2.2.2.2.1 hs12
    refine lv_tableIn (off := 502) (tgt := 541) hx hb zd_LassoFinderLaw_law_39 (by rw [hs12]; decide) (by rw [hs12]; decide) (by rw [hs12]; decide) (by decide) ?_
    exact zc12_N C KN kh hi hL h81 h82 (by omega) (by omega) I J B D I9 J9 B9 D9 ls H locs hok hl hw
  by_cases hs13 : k8 = 13
  · have hok := hok.2.2.2.2.2.2.2.2.2.2.2.2.2.1 hs13
    refine lv_tableIn (off := 539) (tgt := 578) hx hb zd_LassoFinderLaw_law_39 (by rw [hs13]; decide) (by rw [hs13]; decide) (by rw [hs13]; decide) (by decide) ?_
    exact zc13_N C KN kh hi hL h81 h82 (by omega) (by omega) I J B D I9 J9 B9 D9 ls H locs hok hl hw
  by_cases hs14 : k8 = 14
  · have hok := hok.2.2.2.2.2.2.2.2.2.2.2.2.2.2.1 hs14
    refine lv_tableIn (off := 564) (tgt := 603) hx hb zd_LassoFinderLaw_law_39 (by rw [hs14]; decide) (by rw [hs14]; decide) (by rw [hs14]; decide) (by decide) ?_
    exact zc14_N C KN kh hi hL h81 h82 (by omega) (by omega) I J B D I9 J9 B9 D9 ls H locs hok hl hw
  by_cases hs15 : k8 = 15
  · have hok := hok.2.2.2.2.2.2.2.2.2.2.2.2.2.2.2.1 hs15
    refine lv_tableIn (off := 577) (tgt := 616) hx hb zd_LassoFinderLaw_law_39 (by rw [hs15]; decide) (by rw [hs15]; decide) (by rw [hs15]; decide) (by decide) ?_
    exact zc15_N C KN kh hi hL h81 h82 (by omega) (by omega) I J B D I9 J9 B9 D9 ls H locs hok hl hw
  by_cases hs16 : k8 = 16
  · have hok := hok.2.2.2.2.2.2.2.2.2.2.2.2.2.2.2.2.1 hs16
    refine lv_tableIn (off := 640) (tgt := 679) hx hb zd_LassoFinderLaw_law_39 (by rw [hs16]; decide) (by rw [hs16]; decide) (by rw [hs16]; decide) (by decide) ?_
    exact zc16_N C KN kh hi hL h81 h82 (by omega) (by omega) I J B D I9 J9 B9 D9 ls H locs hok hl hw
  have hok := hok.2.2.2.2.2.2.2.2.2.2.2.2.2.2.2.2.2 hs0 hs1 hs2 hs3 hs4 hs5 hs6 hs7 hs8 hs9 hs10 hs11 hs12 hs13 hs14 hs15 hs16
  refine lv_tableOut (tgt := 704) hx hb zd_LassoFinderLaw_law_39 (by have h0 := lv_neT hs0 (a := 0) (by decide); have h1 := lv_neT hs1 (a := 1) (by decide); have h2 := lv_neT hs2 (a := 2) (by decide); have h3 := lv_neT hs3 (a := 3) (by decide); have h4 := lv_neT hs4 (a := 4) (by decide); have h5 := lv_neT hs5 (a := 5) (by decide); have h6 := lv_neT hs6 (a := 6) (by decide); have h7 := lv_neT hs7 (a := 7) (by decide); have h8 := lv_neT hs8 (a := 8) (by decide); have h9 := lv_neT hs9 (a := 9) (by decide); have h10 := lv_neT hs10 (a := 10) (by decide); have h11 := lv_neT hs11 (a := 11) (by decide); have h12 := lv_neT hs12 (a := 12) (by decide); have h13 := lv_neT hs13 (a := 13) (by decide); have h14 := lv_neT hs14 (a := 14) (by decide); have h15 := lv_neT hs15 (a := 15) (by decide); have h16 := lv_neT hs16 (a := 16) (by decide); omega) (by decide) ?_
  refine W.widen (k := c9 + 1) (n := s9 + 6) (by omega) (by omega) ?_
  exact kh I J B D I9 J9 B9 D9 ls H locs hok hl hw

/-- one call of the script, whatever it is -/
def lcS (KS : ((Nat → Int32) → (Nat → Int64) → (Nat → Nat → Int32) → (Nat → Nat → Int64) → (Nat → Int32) → (Nat → Int64) → (Nat → Nat → Int32) → (Nat → Nat → Int64) → Prop)) (k8 a8 b8 : Int32) (I : Nat → Int32) (J : Nat → Int64) (B : Nat → Nat → Int32) (D : Nat → Nat → Int64) (I9 : Nat → Int32) (J9 : Nat → Int64) (B9 : Nat → Nat → Int32) (D9 : Nat → Nat → Int64) : Prop :=
  (k8 = 0 → lc0_S KS a8 b8 I J B D I9 J9 B9 D9) ∧
  (k8 = 1 → lc1_S KS a8 b8 I J B D I9 J9 B9 D9) ∧
  (k8 = 2 → lc2_S KS a8 b8 I J B D I9 J9 B9 D9) ∧
  (k8 = 3 → lc3_S KS a8 b8 I J B D I9 J9 B9 D9) ∧
  (k8 = 4 → lc4_S KS a8 b8 I J B D I9 J9 B9 D9) ∧
  (k8 = 5 → lc5_S KS a8 b8 I J B D I9 J9 B9 D9) ∧
  (k8 = 6 → lc6_S KS a8 b8 I J B D I9 J9 B9 D9) ∧
  (k8 = 7 → lc7_S KS a8 b8 I J B D I9 J9 B9 D9) ∧
  (k8 = 8 → lc8_S KS a8 b8 I J B D I9 J9 B9 D9) ∧
  (k8 = 9 → lc9_S KS a8 b8 I J B D I9 J9 B9 D9) ∧
  (k8 = 10 → lc10_S KS a8 b8 I J B D I9 J9 B9 D9) ∧
  (k8 = 11 → lc11_S KS a8 b8 I J B D I9 J9 B9 D9) ∧
  (k8 = 12 → lc12_S KS a8 b8 I J B D I9 J9 B9 D9) ∧
  (k8 = 13 → lc13_S KS a8 b8 I J B D I9 J9 B9 D9) ∧
  (k8 = 14 → lc14_S KS a8 b8 I J B D I9 J9 B9 D9) ∧
  (k8 = 15 → lc15_S KS a8 b8 I J B D I9 J9 B9 D9) ∧
  (k8 = 16 → lc16_S KS a8 b8 I J B D I9 J9 B9 D9) ∧
  (¬ k8 = 0 → ¬ k8 = 1 → ¬ k8 = 2 → ¬ k8 = 3 → ¬ k8 = 4 → ¬ k8 = 5 → ¬ k8 = 6 → ¬ k8 = 7 → ¬ k8 = 8 → ¬ k8 = 9 → ¬ k8 = 10 → ¬ k8 = 11 → ¬ k8 = 12 → ¬ k8 = 13 → ¬ k8 = 14 → ¬ k8 = 15 → ¬ k8 = 16 → KS I J B D I9 J9 B9 D9)

set_option maxHeartbeats 8000000 in
set_option maxRecDepth 100000 in
theorem zs_S {p : Program} {l : Launch} {e : Env} {s : State} {m : MethodId} {below : List Frame} {meth : Method} {c : Code} {A : Nat → Prop} {G : va_G} {K : Nat → ClassId} {b L : Nat} {xs : Nat → Int32} (C : zCL p l s m b L xs meth c A G K) {ad am : Nat → Nat} {i8 c9 s9 : Nat} (KS : ((Nat → Int32) → (Nat → Int64) → (Nat → Nat → Int32) → (Nat → Nat → Int64) → (Nat → Int32) → (Nat → Int64) → (Nat → Nat → Int32) → (Nat → Nat → Int64) → Prop)) (kh : ∀ (I : Nat → Int32) (J : Nat → Int64) (B : Nat → Nat → Int32) (D : Nat → Nat → Int64) (I9 : Nat → Int32) (J9 : Nat → Int64) (B9 : Nat → Nat → Int32) (D9 : Nat → Nat → Int64) (ls : Array Slot) (H : Heap) (locs : List Loc), KS I J B D I9 J9 B9 D9 → lv_has ls 7 [(4, .int (nI i8)), (3, .ref (ad 77)), (2, .ref (am 0)), (1, .ref (ad 0)), (0, .ref b)] → zW G A s.heap (wLS ad am K I J B D I9 J9 B9 D9) H locs → W p l e room_1 s m #[Value.ref b] below meth c H locs (c9 + 1) (s9 + 6) (lw_Z below #[Value.ref b] s) (F0 m 704 ls [])) (hrc : c9 + 1 ≤ 601024) (hrs : s9 + 6 ≤ 7293033) (hi : i8 + 3 ≤ L) (hL : L ≤ 1536) {k8 a8 b8 : Int32} (h81 : xs (i8 + 1) = a8) (h82 : xs (i8 + 2) = b8) : ∀ (I : Nat → Int32) (J : Nat → Int64) (B : Nat → Nat → Int32) (D : Nat → Nat → Int64) (I9 : Nat → Int32) (J9 : Nat → Int64) (B9 : Nat → Nat → Int32) (D9 : Nat → Nat → Int64) (ls : Array Slot) (H : Heap) (locs : List Loc), lcS KS k8 a8 b8 I J B D I9 J9 B9 D9 → lv_has ls 7 [(4, .int (nI i8)), (3, .ref (ad 77)), (2, .ref (am 0)), (1, .ref (ad 0)), (0, .ref b)] → zW G A s.heap (wLS ad am K I J B D I9 J9 B9 D9) H locs → W p l e room_1 s m #[Value.ref b] below meth c H locs c9 s9 (lw_Z below #[Value.ref b] s) (F0 m 39 ls [.int k8]) := by
  intro I J B D I9 J9 B9 D9 ls H locs hok hl hw
  obtain ⟨hx, hb, hr, hml, hts, hown, hlocks, hA, hA9, hbA, hK, hT, hX, hbl, hlt⟩ := id C
  by_cases hs0 : k8 = 0
  · have hok := hok.1 hs0
    refine lv_tableIn (off := 81) (tgt := 120) hx hb zd_LassoFinderLaw_law_39 (by rw [hs0]; decide) (by rw [hs0]; decide) (by rw [hs0]; decide) (by decide) ?_
    exact zc0_S C KS kh hi hL h81 h82 (by omega) (by omega) I J B D I9 J9 B9 D9 ls H locs hok hl hw
  by_cases hs1 : k8 = 1
  · have hok := hok.2.1 hs1
    refine lv_tableIn (off := 138) (tgt := 177) hx hb zd_LassoFinderLaw_law_39 (by rw [hs1]; decide) (by rw [hs1]; decide) (by rw [hs1]; decide) (by decide) ?_
    exact zc1_S C KS kh hi hL h81 h82 (by omega) (by omega) I J B D I9 J9 B9 D9 ls H locs hok hl hw
  by_cases hs2 : k8 = 2
  · have hok := hok.2.2.1 hs2
    refine lv_tableIn (off := 182) (tgt := 221) hx hb zd_LassoFinderLaw_law_39 (by rw [hs2]; decide) (by rw [hs2]; decide) (by rw [hs2]; decide) (by decide) ?_
    exact zc2_S C KS kh hi hL h81 h82 (by omega) (by omega) I J B D I9 J9 B9 D9 ls H locs hok hl hw
  by_cases hs3 : k8 = 3
  · have hok := hok.2.2.2.1 hs3
    refine lv_tableIn (off := 226) (tgt := 265) hx hb zd_LassoFinderLaw_law_39 (by rw [hs3]; decide) (by rw [hs3]; decide) (by rw [hs3]; decide) (by decide) ?_
    exact zc3_S C KS kh hi hL h81 h82 (by omega) (by omega) I J B D I9 J9 B9 D9 ls H locs hok hl hw
  by_cases hs4 : k8 = 4
  · have hok := hok.2.2.2.2.1 hs4
    refine lv_tableIn (off := 239) (tgt := 278) hx hb zd_LassoFinderLaw_law_39 (by rw [hs4]; decide) (by rw [hs4]; decide) (by rw [hs4]; decide) (by decide) ?_
    exact zc4_S C KS kh hi hL h81 h82 (by omega) (by omega) I J B D I9 J9 B9 D9 ls H locs hok hl hw
  by_cases hs5 : k8 = 5
  · have hok := hok.2.2.2.2.2.1 hs5
    refine lv_tableIn (off := 290) (tgt := 329) hx hb zd_LassoFinderLaw_law_39 (by rw [hs5]; decide) (by rw [hs5]; decide) (by rw [hs5]; decide) (by decide) ?_
    exact zc5_S C KS kh hi hL h81 h82 (by omega) (by omega) I J B D I9 J9 B9 D9 ls H locs hok hl hw
  by_cases hs6 : k8 = 6
  · have hok := hok.2.2.2.2.2.2.1 hs6
    refine lv_tableIn (off := 303) (tgt := 342) hx hb zd_LassoFinderLaw_law_39 (by rw [hs6]; decide) (by rw [hs6]; decide) (by rw [hs6]; decide) (by decide) ?_
    exact zc6_S C KS kh hi hL h81 h82 (by omega) (by omega) I J B D I9 J9 B9 D9 ls H locs hok hl hw
  by_cases hs7 : k8 = 7
  · have hok := hok.2.2.2.2.2.2.2.1 hs7
    refine lv_tableIn (off := 316) (tgt := 355) hx hb zd_LassoFinderLaw_law_39 (by rw [hs7]; decide) (by rw [hs7]; decide) (by rw [hs7]; decide) (by decide) ?_
    exact zc7_S C KS kh hi hL h81 h82 (by omega) (by omega) I J B D I9 J9 B9 D9 ls H locs hok hl hw
  by_cases hs8 : k8 = 8
  · have hok := hok.2.2.2.2.2.2.2.2.1 hs8
    refine lv_tableIn (off := 384) (tgt := 423) hx hb zd_LassoFinderLaw_law_39 (by rw [hs8]; decide) (by rw [hs8]; decide) (by rw [hs8]; decide) (by decide) ?_
    exact zc8_S C KS kh hi hL h81 h82 (by omega) (by omega) I J B D I9 J9 B9 D9 ls H locs hok hl hw
  by_cases hs9 : k8 = 9
  · have hok := hok.2.2.2.2.2.2.2.2.2.1 hs9
    refine lv_tableIn (off := 408) (tgt := 447) hx hb zd_LassoFinderLaw_law_39 (by rw [hs9]; decide) (by rw [hs9]; decide) (by rw [hs9]; decide) (by decide) ?_
    exact zc9_S C KS kh hi hL h81 h82 (by omega) (by omega) I J B D I9 J9 B9 D9 ls H locs hok hl hw
  by_cases hs10 : k8 = 10
  · have hok := hok.2.2.2.2.2.2.2.2.2.2.1 hs10
    refine lv_tableIn (off := 421) (tgt := 460) hx hb zd_LassoFinderLaw_law_39 (by rw [hs10]; decide) (by rw [hs10]; decide) (by rw [hs10]; decide) (by decide) ?_
    exact zc10_S C KS kh hi hL h81 h82 (by omega) (by omega) I J B D I9 J9 B9 D9 ls H locs hok hl hw
  by_cases hs11 : k8 = 11
  · have hok := hok.2.2.2.2.2.2.2.2.2.2.2.1 hs11
    refine lv_tableIn (off := 477) (tgt := 516) hx hb zd_LassoFinderLaw_law_39 (by rw [hs11]; decide) (by rw [hs11]; decide) (by rw [hs11]; decide) (by decide) ?_
    exact zc11_S C KS kh hi hL h81 h82 (by omega) (by omega) I J B D I9 J9 B9 D9 ls H locs hok hl hw
  by_cases hs12 : k8 = 12
  · have hok := hok.2.2.2.2.2.2.2.2.2.2.2.2.1 hs12
    refine lv_tableIn (off := 502) (tgt := 541) hx hb zd_LassoFinderLaw_law_39 (by rw [hs12]; decide) (by rw [hs12]; decide) (by rw [hs12]; decide) (by decide) ?_
    exact zc12_S C KS kh hi hL h81 h82 (by omega) (by omega) I J B D I9 J9 B9 D9 ls H locs hok hl hw
  by_cases hs13 : k8 = 13
  · have hok := hok.2.2.2.2.2.2.2.2.2.2.2.2.2.1 hs13
    refine lv_tableIn (off := 539) (tgt := 578) hx hb zd_LassoFinderLaw_law_39 (by rw [hs13]; decide) (by rw [hs13]; decide) (by rw [hs13]; decide) (by decide) ?_
    exact zc13_S C KS kh hi hL h81 h82 (by omega) (by omega) I J B D I9 J9 B9 D9 ls H locs hok hl hw
  by_cases hs14 : k8 = 14
  · have hok := hok.2.2.2.2.2.2.2.2.2.2.2.2.2.2.1 hs14
    refine lv_tableIn (off := 564) (tgt := 603) hx hb zd_LassoFinderLaw_law_39 (by rw [hs14]; decide) (by rw [hs14]; decide) (by rw [hs14]; decide) (by decide) ?_
    exact zc14_S C KS kh hi hL h81 h82 (by omega) (by omega) I J B D I9 J9 B9 D9 ls H locs hok hl hw
  by_cases hs15 : k8 = 15
  · have hok := hok.2.2.2.2.2.2.2.2.2.2.2.2.2.2.2.1 hs15
    refine lv_tableIn (off := 577) (tgt := 616) hx hb zd_LassoFinderLaw_law_39 (by rw [hs15]; decide) (by rw [hs15]; decide) (by rw [hs15]; decide) (by decide) ?_
    exact zc15_S C KS kh hi hL h81 h82 (by omega) (by omega) I J B D I9 J9 B9 D9 ls H locs hok hl hw
  by_cases hs16 : k8 = 16
  · have hok := hok.2.2.2.2.2.2.2.2.2.2.2.2.2.2.2.2.1 hs16
    refine lv_tableIn (off := 640) (tgt := 679) hx hb zd_LassoFinderLaw_law_39 (by rw [hs16]; decide) (by rw [hs16]; decide) (by rw [hs16]; decide) (by decide) ?_
    exact zc16_S C KS kh hi hL h81 h82 (by omega) (by omega) I J B D I9 J9 B9 D9 ls H locs hok hl hw
  have hok := hok.2.2.2.2.2.2.2.2.2.2.2.2.2.2.2.2.2 hs0 hs1 hs2 hs3 hs4 hs5 hs6 hs7 hs8 hs9 hs10 hs11 hs12 hs13 hs14 hs15 hs16
  refine lv_tableOut (tgt := 704) hx hb zd_LassoFinderLaw_law_39 (by have h0 := lv_neT hs0 (a := 0) (by decide); have h1 := lv_neT hs1 (a := 1) (by decide); have h2 := lv_neT hs2 (a := 2) (by decide); have h3 := lv_neT hs3 (a := 3) (by decide); have h4 := lv_neT hs4 (a := 4) (by decide); have h5 := lv_neT hs5 (a := 5) (by decide); have h6 := lv_neT hs6 (a := 6) (by decide); have h7 := lv_neT hs7 (a := 7) (by decide); have h8 := lv_neT hs8 (a := 8) (by decide); have h9 := lv_neT hs9 (a := 9) (by decide); have h10 := lv_neT hs10 (a := 10) (by decide); have h11 := lv_neT hs11 (a := 11) (by decide); have h12 := lv_neT hs12 (a := 12) (by decide); have h13 := lv_neT hs13 (a := 13) (by decide); have h14 := lv_neT hs14 (a := 14) (by decide); have h15 := lv_neT hs15 (a := 15) (by decide); have h16 := lv_neT hs16 (a := 16) (by decide); omega) (by decide) ?_
  refine W.widen (k := c9 + 1) (n := s9 + 6) (by omega) (by omega) ?_
  exact kh I J B D I9 J9 B9 D9 ls H locs hok hl hw

set_option maxHeartbeats 8000000 in
set_option maxRecDepth 100000 in
theorem zl_S {p : Program} {l : Launch} {e : Env} {s : State} {m : MethodId} {below : List Frame} {meth : Method} {c : Code} {A : Nat → Prop} {G : va_G} {K : Nat → ClassId} {b L : Nat} {xs : Nat → Int32} (C : zCL p l s m b L xs meth c A G K) (hL : L ≤ 1536) (KS : ((Nat → Int32) → (Nat → Int64) → (Nat → Nat → Int32) → (Nat → Nat → Int64) → (Nat → Int32) → (Nat → Int64) → (Nat → Nat → Int32) → (Nat → Nat → Int64) → Prop)) (hS : ∀ (k8 a8 b8 : Int32) (I : Nat → Int32) (J : Nat → Int64) (B : Nat → Nat → Int32) (D : Nat → Nat → Int64) (I9 : Nat → Int32) (J9 : Nat → Int64) (B9 : Nat → Nat → Int32) (D9 : Nat → Nat → Int64), KS I J B D I9 J9 B9 D9 → lcS KS k8 a8 b8 I J B D I9 J9 B9 D9) : ∀ (n : Nat) (ad am : Nat → Nat) (i8 c9 s9 : Nat) (I : Nat → Int32) (J : Nat → Int64) (B : Nat → Nat → Int32) (D : Nat → Nat → Int64) (I9 : Nat → Int32) (J9 : Nat → Int64) (B9 : Nat → Nat → Int32) (D9 : Nat → Nat → Int64) (ls : Array Slot) (H : Heap) (locs : List Loc), L ≤ i8 + 3 * n → i8 ≤ 1539 → c9 + (n) ≤ 601024 → s9 + (6 * n) ≤ 7293033 → KS I J B D I9 J9 B9 D9 → lv_has ls 7 [(4, .int (nI i8)), (3, .ref (ad 77)), (2, .ref (am 0)), (1, .ref (ad 0)), (0, .ref b)] → zW G A s.heap (wLS ad am K I J B D I9 J9 B9 D9) H locs → W p l e room_1 s m #[Value.ref b] below meth c H locs c9 s9 (lw_Z below #[Value.ref b] s) (F0 m 23 ls []) := by
  intro n
  induction n with
  | zero =>
    intro ad am i8 c9 s9 I J B D I9 J9 B9 D9 ls H locs hn hi8 hrc hrs hinv hl hw
    obtain ⟨hx, hb, hr, hml, hts, hown, hlocks, hA, hA9, hbA, hK, hT, hX, hbl, hlt⟩ := id C
    refine lv_iload hx hb zd_LassoFinderLaw_law_23 (lv_at hl 0 rfl) ?_
    refine lv_aload_n hx hb zd_LassoFinderLaw_law_25 rfl (lv_at hl 4 rfl) ?_
    refine va_slen hx hb hX hbl hbA hw.2.2 zd_LassoFinderLaw_law_26 ?_
    refine W.eq (g2 := F0 m 27 ls [.int (nI L), .int (nI i8)]) rfl ?_
    refine lv_iconst (v := 3) hx hb zd_LassoFinderLaw_law_27 (by decide) ?_
    refine lv_isub hx hb zd_LassoFinderLaw_law_28 ?_
    refine lv_topi (fun z1 ez1 => ?_)
    refine lv_icmp_gt (tgt := 710) hx hb zd_LassoFinderLaw_law_29 (by decide) (fun _ => ?_) (fun hgt => ?_)
    · refine lv_iconst (v := 1) hx hb zd_LassoFinderLaw_law_710 (by decide) ?_
      refine va_forget (fun q hq => hA9 _ (hw.2.2.2.2 q hq)) ?_
      refine W.widen (k := 601024) (n := 7293033) (by omega) (by omega) ?_
      exact lw_ret hx hb hr hlocks zd_LassoFinderLaw_law_711
    · have hi := zi_le hL (by omega) ez1 hgt
      omega
  | succ n ih =>
    intro ad am i8 c9 s9 I J B D I9 J9 B9 D9 ls H locs hn hi8 hrc hrs hinv hl hw
    obtain ⟨hx, hb, hr, hml, hts, hown, hlocks, hA, hA9, hbA, hK, hT, hX, hbl, hlt⟩ := id C
    refine lv_iload hx hb zd_LassoFinderLaw_law_23 (lv_at hl 0 rfl) ?_
    refine lv_aload_n hx hb zd_LassoFinderLaw_law_25 rfl (lv_at hl 4 rfl) ?_
    refine va_slen hx hb hX hbl hbA hw.2.2 zd_LassoFinderLaw_law_26 ?_
    refine W.eq (g2 := F0 m 27 ls [.int (nI L), .int (nI i8)]) rfl ?_
    refine lv_iconst (v := 3) hx hb zd_LassoFinderLaw_law_27 (by decide) ?_
    refine lv_isub hx hb zd_LassoFinderLaw_law_28 ?_
    refine lv_topi (fun z1 ez1 => ?_)
    refine lv_icmp_gt (tgt := 710) hx hb zd_LassoFinderLaw_law_29 (by decide) (fun _ => ?_) (fun hgt => ?_)
    · refine lv_iconst (v := 1) hx hb zd_LassoFinderLaw_law_710 (by decide) ?_
      refine va_forget (fun q hq => hA9 _ (hw.2.2.2.2 q hq)) ?_
      refine W.widen (k := 601024) (n := 7293033) (by omega) (by omega) ?_
      exact lw_ret hx hb hr hlocks zd_LassoFinderLaw_law_711
    · have hi := zi_le hL (by omega) ez1 hgt
      refine lv_aload_n hx hb zd_LassoFinderLaw_law_32 rfl (lv_at hl 4 rfl) ?_
      refine lv_iload hx hb zd_LassoFinderLaw_law_33 (lv_at hl 0 rfl) ?_
      refine va_sld hx hb hX hbl hbA hw.2.2 (i := nI i8) (vp_in_nI (by omega) (by omega)) zd_LassoFinderLaw_law_35 ?_
      refine lv_bipush (v := 31) hx hb zd_LassoFinderLaw_law_36 (by decide) ?_
      refine lv_iand hx hb zd_LassoFinderLaw_law_38 ?_
      refine zs_S (am := am) C KS ?_ (by omega) (by omega) hi hL rfl rfl I J B D I9 J9 B9 D9 ls H locs (hS _ _ _ I J B D I9 J9 B9 D9 hinv) hl hw
      · intro I J B D I9 J9 B9 D9 ls H locs hinv hl hw
        refine lv_iinc (v := nI (i8 + 3)) hx hb zd_LassoFinderLaw_law_704 hl (k := 0) rfl (nI_add i8 3) (by decide) rfl (fun ls hl => ?_)
        refine lv_goto (tgt := 23) hx hb zd_LassoFinderLaw_law_707 (by decide) ?_
        exact ih ad am (i8 + 3) (c9 + 1) (s9 + 6) I J B D I9 J9 B9 D9 ls H locs (by omega) (by omega) (by omega) (by omega) hinv hl hw

set_option maxHeartbeats 8000000 in
set_option maxRecDepth 100000 in
theorem zl_N {p : Program} {l : Launch} {e : Env} {s : State} {m : MethodId} {below : List Frame} {meth : Method} {c : Code} {A : Nat → Prop} {G : va_G} {K : Nat → ClassId} {b L : Nat} {xs : Nat → Int32} (C : zCL p l s m b L xs meth c A G K) (hL : L ≤ 1536) (KN KS : ((Nat → Int32) → (Nat → Int64) → (Nat → Nat → Int32) → (Nat → Nat → Int64) → (Nat → Int32) → (Nat → Int64) → (Nat → Nat → Int32) → (Nat → Nat → Int64) → Prop)) (hS : ∀ (k8 a8 b8 : Int32) (I : Nat → Int32) (J : Nat → Int64) (B : Nat → Nat → Int32) (D : Nat → Nat → Int64) (I9 : Nat → Int32) (J9 : Nat → Int64) (B9 : Nat → Nat → Int32) (D9 : Nat → Nat → Int64), KS I J B D I9 J9 B9 D9 → lcS KS k8 a8 b8 I J B D I9 J9 B9 D9) (hN : ∀ (k8 a8 b8 : Int32) (I : Nat → Int32) (J : Nat → Int64) (B : Nat → Nat → Int32) (D : Nat → Nat → Int64) (I9 : Nat → Int32) (J9 : Nat → Int64) (B9 : Nat → Nat → Int32) (D9 : Nat → Nat → Int64), KN I J B D I9 J9 B9 D9 → lcN KN KS k8 a8 b8 I J B D I9 J9 B9 D9) : ∀ (n : Nat) (ad am : Nat → Nat) (i8 c9 s9 : Nat) (I : Nat → Int32) (J : Nat → Int64) (B : Nat → Nat → Int32) (D : Nat → Nat → Int64) (I9 : Nat → Int32) (J9 : Nat → Int64) (B9 : Nat → Nat → Int32) (D9 : Nat → Nat → Int64) (ls : Array Slot) (H : Heap) (locs : List Loc), L ≤ i8 + 3 * n → i8 ≤ 1539 → c9 + (12 + n) ≤ 601024 → s9 + (23828 + 6 * n) ≤ 7293033 → KN I J B D I9 J9 B9 D9 → lv_has ls 7 [(4, .int (nI i8)), (3, .ref (ad 77)), (2, .ref (am 0)), (1, .ref (ad 0)), (0, .ref b)] → zW G A s.heap (wLN ad am K I J B D I9 J9 B9 D9) H locs → W p l e room_1 s m #[Value.ref b] below meth c H locs c9 s9 (lw_Z below #[Value.ref b] s) (F0 m 23 ls []) := by
  intro n
  induction n with
  | zero =>
    intro ad am i8 c9 s9 I J B D I9 J9 B9 D9 ls H locs hn hi8 hrc hrs hinv hl hw
    obtain ⟨hx, hb, hr, hml, hts, hown, hlocks, hA, hA9, hbA, hK, hT, hX, hbl, hlt⟩ := id C
    refine lv_iload hx hb zd_LassoFinderLaw_law_23 (lv_at hl 0 rfl) ?_
    refine lv_aload_n hx hb zd_LassoFinderLaw_law_25 rfl (lv_at hl 4 rfl) ?_
    refine va_slen hx hb hX hbl hbA hw.2.2 zd_LassoFinderLaw_law_26 ?_
    refine W.eq (g2 := F0 m 27 ls [.int (nI L), .int (nI i8)]) rfl ?_
    refine lv_iconst (v := 3) hx hb zd_LassoFinderLaw_law_27 (by decide) ?_
    refine lv_isub hx hb zd_LassoFinderLaw_law_28 ?_
    refine lv_topi (fun z1 ez1 => ?_)
    refine lv_icmp_gt (tgt := 710) hx hb zd_LassoFinderLaw_law_29 (by decide) (fun _ => ?_) (fun hgt => ?_)
    · refine lv_iconst (v := 1) hx hb zd_LassoFinderLaw_law_710 (by decide) ?_
      refine va_forget (fun q hq => hA9 _ (hw.2.2.2.2 q hq)) ?_
      refine W.widen (k := 601024) (n := 7293033) (by omega) (by omega) ?_
      exact lw_ret hx hb hr hlocks zd_LassoFinderLaw_law_711
    · have hi := zi_le hL (by omega) ez1 hgt
      omega
  | succ n ih =>
    intro ad am i8 c9 s9 I J B D I9 J9 B9 D9 ls H locs hn hi8 hrc hrs hinv hl hw
    obtain ⟨hx, hb, hr, hml, hts, hown, hlocks, hA, hA9, hbA, hK, hT, hX, hbl, hlt⟩ := id C
    refine lv_iload hx hb zd_LassoFinderLaw_law_23 (lv_at hl 0 rfl) ?_
    refine lv_aload_n hx hb zd_LassoFinderLaw_law_25 rfl (lv_at hl 4 rfl) ?_
    refine va_slen hx hb hX hbl hbA hw.2.2 zd_LassoFinderLaw_law_26 ?_
    refine W.eq (g2 := F0 m 27 ls [.int (nI L), .int (nI i8)]) rfl ?_
    refine lv_iconst (v := 3) hx hb zd_LassoFinderLaw_law_27 (by decide) ?_
    refine lv_isub hx hb zd_LassoFinderLaw_law_28 ?_
    refine lv_topi (fun z1 ez1 => ?_)
    refine lv_icmp_gt (tgt := 710) hx hb zd_LassoFinderLaw_law_29 (by decide) (fun _ => ?_) (fun hgt => ?_)
    · refine lv_iconst (v := 1) hx hb zd_LassoFinderLaw_law_710 (by decide) ?_
      refine va_forget (fun q hq => hA9 _ (hw.2.2.2.2 q hq)) ?_
      refine W.widen (k := 601024) (n := 7293033) (by omega) (by omega) ?_
      exact lw_ret hx hb hr hlocks zd_LassoFinderLaw_law_711
    · have hi := zi_le hL (by omega) ez1 hgt
      refine lv_aload_n hx hb zd_LassoFinderLaw_law_32 rfl (lv_at hl 4 rfl) ?_
      refine lv_iload hx hb zd_LassoFinderLaw_law_33 (lv_at hl 0 rfl) ?_
      refine va_sld hx hb hX hbl hbA hw.2.2 (i := nI i8) (vp_in_nI (by omega) (by omega)) zd_LassoFinderLaw_law_35 ?_
      refine lv_bipush (v := 31) hx hb zd_LassoFinderLaw_law_36 (by decide) ?_
      refine lv_iand hx hb zd_LassoFinderLaw_law_38 ?_
      refine zs_N (am := am) C KN KS ?_ ?_ (by omega) (by omega) hi hL rfl rfl I J B D I9 J9 B9 D9 ls H locs (hN _ _ _ I J B D I9 J9 B9 D9 hinv) hl hw
      · intro I J B D I9 J9 B9 D9 ls H locs hinv hl hw
        refine lv_iinc (v := nI (i8 + 3)) hx hb zd_LassoFinderLaw_law_704 hl (k := 0) rfl (nI_add i8 3) (by decide) rfl (fun ls hl => ?_)
        refine lv_goto (tgt := 23) hx hb zd_LassoFinderLaw_law_707 (by decide) ?_
        exact ih ad am (i8 + 3) (c9 + 1) (s9 + 6) I J B D I9 J9 B9 D9 ls H locs (by omega) (by omega) (by omega) (by omega) hinv hl hw
      · intro ad2 h2x h2o I J B D I9 J9 B9 D9 ls H locs hinv hl hw
        refine lv_iinc (v := nI (i8 + 3)) hx hb zd_LassoFinderLaw_law_704 hl (k := 0) rfl (nI_add i8 3) (by decide) rfl (fun ls hl => ?_)
        refine lv_goto (tgt := 23) hx hb zd_LassoFinderLaw_law_707 (by decide) ?_
        exact zl_S C hL KS hS n ad2 am (i8 + 3) (c9 + 13) (s9 + 23834) I J B D I9 J9 B9 D9 ls H locs (by omega) (by omega) (by omega) (by omega) hinv (by rw [h2x, h2o]; exact hl) hw
