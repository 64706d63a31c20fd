/-- out, the class, the reference -/
def wLN (ad am : Nat → Nat) (K : Nat → ClassId) (I : Nat → Int32) (J : Nat → Int64) (B : Nat → Nat → Int32) (D : Nat → Nat → Int64) (I9 : Nat → Int32) (J9 : Nat → Int64) (B9 : Nat → Nat → Int32) (D9 : Nat → Nat → Int64) : va_W := wPN ad K I J B D ++ wM am K I9 J9 B9 D9
set_option maxRecDepth 100000 in
theorem wLN_P {ad am : Nat → Nat} {K : Nat → ClassId} {I : Nat → Int32} {J : Nat → Int64} {B : Nat → Nat → Int32} {D : Nat → Nat → Int64} {I9 : Nat → Int32} {J9 : Nat → Int64} {B9 : Nat → Nat → Int32} {D9 : Nat → Nat → Int64} : (List.range 66).map (fun i => (wLN ad am K I J B D I9 J9 B9 D9)[i]?) = (wPN ad K I J B D).map some := rfl
set_option maxRecDepth 100000 in
theorem wLN_M {ad am : Nat → Nat} {K : Nat → ClassId} {I : Nat → Int32} {J : Nat → Int64} {B : Nat → Nat → Int32} {D : Nat → Nat → Int64} {I9 : Nat → Int32} {J9 : Nat → Int64} {B9 : Nat → Nat → Int32} {D9 : Nat → Nat → Int64} : (List.range' 66 58).map (fun i => (wLN ad am K I J B D I9 J9 B9 D9)[i]?) = (wM am K I9 J9 B9 D9).map some := rfl
set_option maxRecDepth 100000 in
theorem wLN_X {ad am : Nat → Nat} {K : Nat → ClassId} {I : Nat → Int32} {J : Nat → Int64} {B : Nat → Nat → Int32} {D : Nat → Nat → Int64} {I9 : Nat → Int32} {J9 : Nat → Int64} {B9 : Nat → Nat → Int32} {D9 : Nat → Nat → Int64} : (List.range' 1 65).map (fun i => (wLN ad am K I J B D I9 J9 B9 D9)[i]?) = (wX ad K Value.null I J B D).map some := rfl
set_option maxRecDepth 100000 in
theorem wLN_R {ad am : Nat → Nat} {K : Nat → ClassId} {I : Nat → Int32} {J : Nat → Int64} {B : Nat → Nat → Int32} {D : Nat → Nat → Int64} {I9 : Nat → Int32} {J9 : Nat → Int64} {B9 : Nat → Nat → Int32} {D9 : Nat → Nat → Int64} : (0 :: List.range' 66 58).map (fun i => (wLN ad am K I J B D I9 J9 B9 D9)[i]?) = ((ad 77, zJ K 1 (D 3)) :: wM am K I9 J9 B9 D9).map some := rfl
set_option maxRecDepth 100000 in
theorem wLN_all {ad am : Nat → Nat} {K : Nat → ClassId} {I : Nat → Int32} {J : Nat → Int64} {B : Nat → Nat → Int32} {D : Nat → Nat → Int64} {I9 : Nat → Int32} {J9 : Nat → Int64} {B9 : Nat → Nat → Int32} {D9 : Nat → Nat → Int64} : (List.range 124).map (fun i => (wLN ad am K I J B D I9 J9 B9 D9)[i]?) = (wLN ad am K I J B D I9 J9 B9 D9).map some := rfl
theorem wLN_ndP : va_nd (List.range 66) = true := by decide +kernel
theorem wLN_ndM : va_nd (List.range' 66 58) = true := by decide +kernel
theorem wLN_ndX : va_nd (List.range' 1 65) = true := by decide +kernel
theorem wLN_ndR : va_nd (0 :: List.range' 66 58) = true := by decide +kernel
theorem wLN_nd : va_nd (List.range 124) = true := by decide +kernel
theorem wLN_disMP : ∀ i ∈ (List.range' 66 58), i ∉ (List.range 66) := by decide +kernel
theorem wLN_disPM : ∀ i ∈ (List.range 66), i ∉ (List.range' 66 58) := by decide +kernel
theorem wLN_disRX : ∀ i ∈ (0 :: List.range' 66 58), i ∉ (List.range' 1 65) := by decide +kernel
theorem wLN_bM {G : va_G} {A : Nat → Prop} {H0 H : Heap} {locs : List Loc} {ad am : Nat → Nat} {K : Nat → ClassId} {I : Nat → Int32} {J : Nat → Int64} {B : Nat → Nat → Int32} {D : Nat → Nat → Int64} {I9 : Nat → Int32} {J9 : Nat → Int64} {B9 : Nat → Nat → Int32} {D9 : Nat → Nat → Int64} (h : zW G A H0 (wPN ad K I J B D ++ wM am K I9 J9 B9 D9) H locs) : zW G A H0 (wLN ad am K I J B D I9 J9 B9 D9) H locs := h
set_option maxRecDepth 100000 in
theorem wLN_bP {G : va_G} {A : Nat → Prop} {H0 H : Heap} {locs : List Loc} {ad am : Nat → Nat} {K : Nat → ClassId} {I : Nat → Int32} {J : Nat → Int64} {B : Nat → Nat → Int32} {D : Nat → Nat → Int64} {I9 : Nat → Int32} {J9 : Nat → Int64} {B9 : Nat → Nat → Int32} {D9 : Nat → Nat → Int64} (h : zW G A H0 (wM am K I9 J9 B9 D9 ++ wPN ad K I J B D) H locs) : zW G A H0 (wLN ad am K I J B D I9 J9 B9 D9) H locs := by
  have hi : (List.range' 58 66 ++ List.range 58).map (fun i => (wM am K I9 J9 B9 D9 ++ wPN ad K I J B D)[i]?) = (wLN ad am K I J B D I9 J9 B9 D9).map some := rfl
  exact ⟨h.1.sub _ (z_map_fm hi), h.2.1.sub _ (by decide +kernel) hi, h.2.2⟩
set_option maxRecDepth 100000 in
theorem wLN_bX {G : va_G} {A : Nat → Prop} {H0 H : Heap} {locs : List Loc} {ad am : Nat → Nat} {K : Nat → ClassId} {D : Nat → Nat → Int64} {I2 : Nat → Int32} {J2 : Nat → Int64} {B2 : Nat → Nat → Int32} {D2 : Nat → Nat → Int64} {I9 : Nat → Int32} {J9 : Nat → Int64} {B9 : Nat → Nat → Int32} {D9 : Nat → Nat → Int64} (h : zW G A H0 (((ad 77, zJ K 1 (D 3)) :: wM am K I9 J9 B9 D9) ++ wX ad K Value.null I2 J2 B2 D2) H locs) : zW G A H0 (wLN ad am K I2 J2 B2 (zmix 3 D2 D) I9 J9 B9 D9) H locs := by
  have hi : (0 :: (List.range' 59 65 ++ List.range' 1 58)).map (fun i => (((ad 77, zJ K 1 (D 3)) :: wM am K I9 J9 B9 D9) ++ wX ad K Value.null I2 J2 B2 D2)[i]?) = (wLN ad am K I2 J2 B2 (zmix 3 D2 D) I9 J9 B9 D9).map some := rfl
  exact ⟨h.1.sub _ (z_map_fm hi), h.2.1.sub _ (by decide +kernel) hi, h.2.2⟩
/-- out, the class, the reference -/
def wLS (ad am : Nat → Nat) (K : Nat → ClassId) (I : Nat → Int32) (J : Nat → Int64) (B : Nat → Nat → Int32) (D : Nat → Nat → Int64) (I9 : Nat → Int32) (J9 : Nat → Int64) (B9 : Nat → Nat → Int32) (D9 : Nat → Nat → Int64) : va_W := wPS ad K I J B D ++ wM am K I9 J9 B9 D9
set_option maxRecDepth 100000 in
theorem wLS_P {ad am : Nat → Nat} {K : Nat → ClassId} {I : Nat → Int32} {J : Nat → Int64} {B : Nat → Nat → Int32} {D : Nat → Nat → Int64} {I9 : Nat → Int32} {J9 : Nat → Int64} {B9 : Nat → Nat → Int32} {D9 : Nat → Nat → Int64} : (List.range 78).map (fun i => (wLS ad am K I J B D I9 J9 B9 D9)[i]?) = (wPS ad K I J B D).map some := rfl
set_option maxRecDepth 100000 in
theorem wLS_M {ad am : Nat → Nat} {K : Nat → ClassId} {I : Nat → Int32} {J : Nat → Int64} {B : Nat → Nat → Int32} {D : Nat → Nat → Int64} {I9 : Nat → Int32} {J9 : Nat → Int64} {B9 : Nat → Nat → Int32} {D9 : Nat → Nat → Int64} : (List.range' 78 58).map (fun i => (wLS ad am K I J B D I9 J9 B9 D9)[i]?) = (wM am K I9 J9 B9 D9).map some := rfl
set_option maxRecDepth 100000 in
theorem wLS_X {ad am : Nat → Nat} {K : Nat → ClassId} {I : Nat → Int32} {J : Nat → Int64} {B : Nat → Nat → Int32} {D : Nat → Nat → Int64} {I9 : Nat → Int32} {J9 : Nat → Int64} {B9 : Nat → Nat → Int32} {D9 : Nat → Nat → Int64} : (List.range' 1 77).map (fun i => (wLS ad am K I J B D I9 J9 B9 D9)[i]?) = (wS ad K I J B D).map some := rfl
set_option maxRecDepth 100000 in
theorem wLS_R {ad am : Nat → Nat} {K : Nat → ClassId} {I : Nat → Int32} {J : Nat → Int64} {B : Nat → Nat → Int32} {D : Nat → Nat → Int64} {I9 : Nat → Int32} {J9 : Nat → Int64} {B9 : Nat → Nat → Int32} {D9 : Nat → Nat → Int64} : (0 :: List.range' 78 58).map (fun i => (wLS ad am K I J B D I9 J9 B9 D9)[i]?) = ((ad 77, zJ K 1 (D 3)) :: wM am K I9 J9 B9 D9).map some := rfl
set_option maxRecDepth 100000 in
theorem wLS_all {ad am : Nat → Nat} {K : Nat → ClassId} {I : Nat → Int32} {J : Nat → Int64} {B : Nat → Nat → Int32} {D : Nat → Nat → Int64} {I9 : Nat → Int32} {J9 : Nat → Int64} {B9 : Nat → Nat → Int32} {D9 : Nat → Nat → Int64} : (List.range 136).map (fun i => (wLS ad am K I J B D I9 J9 B9 D9)[i]?) = (wLS ad am K I J B D I9 J9 B9 D9).map some := rfl
theorem wLS_ndP : va_nd (List.range 78) = true := by decide +kernel
theorem wLS_ndM : va_nd (List.range' 78 58) = true := by decide +kernel
theorem wLS_ndX : va_nd (List.range' 1 77) = true := by decide +kernel
theorem wLS_ndR : va_nd (0 :: List.range' 78 58) = true := by decide +kernel
theorem wLS_nd : va_nd (List.range 136) = true := by decide +kernel
theorem wLS_disMP : ∀ i ∈ (List.range' 78 58), i ∉ (List.range 78) := by decide +kernel
theorem wLS_disPM : ∀ i ∈ (List.range 78), i ∉ (List.range' 78 58) := by decide +kernel
theorem wLS_disRX : ∀ i ∈ (0 :: List.range' 78 58), i ∉ (List.range' 1 77) := by decide +kernel
theorem wLS_bM {G : va_G} {A : Nat → Prop} {H0 H : Heap} {locs : List Loc} {ad am : Nat → Nat} {K : Nat → ClassId} {I : Nat → Int32} {J : Nat → Int64} {B : Nat → Nat → Int32} {D : Nat → Nat → Int64} {I9 : Nat → Int32} {J9 : Nat → Int64} {B9 : Nat → Nat → Int32} {D9 : Nat → Nat → Int64} (h : zW G A H0 (wPS ad K I J B D ++ wM am K I9 J9 B9 D9) H locs) : zW G A H0 (wLS ad am K I J B D I9 J9 B9 D9) H locs := h
set_option maxRecDepth 100000 in
theorem wLS_bP {G : va_G} {A : Nat → Prop} {H0 H : Heap} {locs : List Loc} {ad am : Nat → Nat} {K : Nat → ClassId} {I : Nat → Int32} {J : Nat → Int64} {B : Nat → Nat → Int32} {D : Nat → Nat → Int64} {I9 : Nat → Int32} {J9 : Nat → Int64} {B9 : Nat → Nat → Int32} {D9 : Nat → Nat → Int64} (h : zW G A H0 (wM am K I9 J9 B9 D9 ++ wPS ad K I J B D) H locs) : zW G A H0 (wLS ad am K I J B D I9 J9 B9 D9) H locs := by
  have hi : (List.range' 58 78 ++ List.range 58).map (fun i => (wM am K I9 J9 B9 D9 ++ wPS ad K I J B D)[i]?) = (wLS ad am K I J B D I9 J9 B9 D9).map some := rfl
  exact ⟨h.1.sub _ (z_map_fm hi), h.2.1.sub _ (by decide +kernel) hi, h.2.2⟩
set_option maxRecDepth 100000 in
theorem wLS_bX {G : va_G} {A : Nat → Prop} {H0 H : Heap} {locs : List Loc} {ad am : Nat → Nat} {K : Nat → ClassId} {D : Nat → Nat → Int64} {I2 : Nat → Int32} {J2 : Nat → Int64} {B2 : Nat → Nat → Int32} {D2 : Nat → Nat → Int64} {I9 : Nat → Int32} {J9 : Nat → Int64} {B9 : Nat → Nat → Int32} {D9 : Nat → Nat → Int64} (h : zW G A H0 (((ad 77, zJ K 1 (D 3)) :: wM am K I9 J9 B9 D9) ++ wS ad K I2 J2 B2 D2) H locs) : zW G A H0 (wLS ad am K I2 J2 B2 (zmix 3 D2 D) I9 J9 B9 D9) H locs := by
  have hi : (0 :: (List.range' 59 77 ++ List.range' 1 58)).map (fun i => (((ad 77, zJ K 1 (D 3)) :: wM am K I9 J9 B9 D9) ++ wS ad K I2 J2 B2 D2)[i]?) = (wLS ad am K I2 J2 B2 (zmix 3 D2 D) I9 J9 B9 D9).map some := rfl
  exact ⟨h.1.sub _ (z_map_fm hi), h.2.1.sub _ (by decide +kernel) hi, h.2.2⟩
