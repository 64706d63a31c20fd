/-! Exceptions that leave a method, by contracts of our own: over the library's Steps.callFree, Stand.leaveThrown, Stand.ctorThrow0, Stand.thenCaughtThrough. Launches without stack traces. -/
section ZS
/-- a static field that holds a reference or null, in a cell that no world holds -/
def zSt (C n d : String) (A : Nat → Prop) (U : State) (H : Heap) : Prop := ∃ (c : ClassId) (k : Class) (i : Nat) (f : Field) (a : Nat) (cell : Cell) (v : Value), U.vm.findClass C = some c ∧ U.fieldFound? C n d = some (c, k, i, f) ∧ f.isStatic = true ∧ k.statics = some a ∧ H[a]? = some cell ∧ cell.vm.isStatics = true ∧ cell.cls = c ∧ f.slot < cell.slots.size ∧ k.staticTypes[f.slot]? = some f.type ∧ cell.slots[f.slot]? = some v ∧ v.isRef = true ∧ ¬ A a
theorem zSt.moved {C n d : String} {A : Nat → Prop} {u U : State} {H : Heap} (hvm : u.vm.Alike U.vm) (h : zSt C n d A u H) : zSt C n d A U H := by
  obtain ⟨c, k, i, f, a, cell, v, h1, h2, h3, h4, h5, h6, h7, h8, h9, hr⟩ := h
  obtain ⟨k', hi', he⟩ := State.fieldFound?_setVm hvm h2
  exact ⟨c, k', i, f, a, cell, v, by rw [hvm.findClass]; exact h1, hi', h3, by rw [he]; exact h4, h5, h6, h7, h8, by rw [he]; exact h9, hr⟩
theorem zSt.kept {C n d : String} {A : Nat → Prop} {U : State} {H H1 : Heap} (h : zSt C n d A U H) (hq : ∀ a : Nat, a < H.size → ¬ A a → H1[a]? = H[a]?) : zSt C n d A U H1 := by
  obtain ⟨c, k, i, f, a, cell, v, h1, h2, h3, h4, h5, h6, h7, h8, h9, h10, h11, h12⟩ := h
  exact ⟨c, k, i, f, a, cell, v, h1, h2, h3, h4, by rw [hq a (Array.getElem?_eq_some_iff.mp h5).1 h12]; exact h5, h6, h7, h8, h9, h10, h11, h12⟩
theorem zSt.narrow {C n d : String} {A B : Nat → Prop} {U : State} {H : Heap} (h : zSt C n d A U H) (hAB : ∀ q, B q → A q) : zSt C n d B U H := by
  obtain ⟨c, k, i, f, a, cell, v, h1, h2, h3, h4, h5, h6, h7, h8, h9, h10, h11, h12⟩ := h
  exact ⟨c, k, i, f, a, cell, v, h1, h2, h3, h4, h5, h6, h7, h8, h9, h10, h11, fun z => h12 (hAB _ z)⟩
theorem zSt.lays {C n d : String} {A : Nat → Prop} {s : State} {args : Array Value} (h : zSt C n d A s s.heap) : (Cond.laysStatic C n d).before args s = true := by
  obtain ⟨c, k, i, f, a, cell, v, h1, h2, h3, h4, h5, h6, h7, h8, h9, -⟩ := h
  exact Cond.laysStatic_of h1 h2 h3 h4 h5 h6 h7 h8 h9
theorem zSt.isRef {C n d : String} {A : Nat → Prop} {s : State} {args : Array Value} (h : zSt C n d A s s.heap) : (Cond.isRef (.static C n d)).before args s = true := by
  obtain ⟨c, k, i, f, a, cell, v, h1, h2, h3, h4, h5, h6, h7, h8, h9, h10, h11, -⟩ := h
  have he : (Term.static C n d).eval args s none [] s = some v := by
    simp [Term.eval, State.fieldNamed?, h2, h3, h4, h5, h6, h10]
  simp only [Cond.before, Cond.holds, Cond.value, he]
  cases v <;> simp_all [Value.isRef]
theorem zSt_of {C n d : String} {A : Nat → Prop} {s : State} {args : Array Value} (hl : (Cond.laysStatic C n d).before args s = true) (h : (Cond.isRef (.static C n d)).before args s = true) (hA : ∀ a : Nat, a < s.heap.size → ¬ A a) : zSt C n d A s s.heap := by
  obtain ⟨c, k, i, f, a, cell, h1, h2, h3, h4, h5, h6, h7, h8, h9⟩ := Cond.laysStatic_spec hl
  cases hv : (Term.static C n d).eval args s none [] s with
  | none => simp [Cond.before, Cond.holds, Cond.value, hv] at h
  | some w =>
    obtain ⟨-, a', cell', ha', hcell', -, hslot⟩ := Term.static_spec h2 hv
    cases h4.symm.trans ha'
    cases h5.symm.trans hcell'
    refine ⟨c, k, i, f, a, cell, w, h1, h2, h3, h4, h5, h6, h7, h8, h9, hslot, ?_, hA a (Array.getElem?_eq_some_iff.mp h5).1⟩
    simp only [Cond.before, Cond.holds, Cond.value, hv] at h
    cases w <;> simp_all [Value.isRef]
/-- the words on the tables that a call doesn't hand on by itself -/
def zDC : List Cond := lw_tbl.filter (fun w => w.faceAtom && w.onTables)
theorem zDC_moved {u U : State} {a a' : Array Value} (hvm : u.vm.Alike U.vm) (h : ∀ w ∈ zDC, w.before a u = true) : ∀ w ∈ zDC, w.before a' U = true := fun w hw => by
  have h1 := (List.mem_filter.mp hw).2
  simp only [Bool.and_eq_true] at h1
  have h2 := Cond.faceAtom_setVm hvm w h1.1 (h w hw)
  rw [Cond.onTables_vm (A' := a') (U' := U) U.vm w h1.2, State.setVm_self] at h2
  exact h2
/-- Throwable's two statics, and those words -/
def zTh (A : Nat → Prop) (U : State) (H : Heap) : Prop := zSt Bundle.tN "UNASSIGNED_STACK" Bundle.steD A U H ∧ zSt Bundle.tN "SUPPRESSED_SENTINEL" Bundle.listD A U H ∧ ∀ w ∈ zDC, w.before #[] U = true
theorem zTh.moved {A : Nat → Prop} {u U : State} {H : Heap} (hvm : u.vm.Alike U.vm) (h : zTh A u H) : zTh A U H := ⟨h.1.moved hvm, h.2.1.moved hvm, zDC_moved hvm h.2.2⟩
theorem zTh.kept {A : Nat → Prop} {U : State} {H H1 : Heap} (h : zTh A U H) (hq : ∀ a : Nat, a < H.size → ¬ A a → H1[a]? = H[a]?) : zTh A U H1 := ⟨h.1.kept hq, h.2.1.kept hq, h.2.2⟩
theorem zTh.narrow {A B : Nat → Prop} {U : State} {H : Heap} (h : zTh A U H) (hAB : ∀ q, B q → A q) : zTh B U H := ⟨h.1.narrow hAB, h.2.1.narrow hAB, h.2.2⟩
end ZS
section ZX
variable {p : Program} {l : Launch} {e : Env} {R : Room} {s : State} {m : MethodId} {args : Array Value} {below : List Frame} {meth : Method} {c : Code} {H : Heap} {locs : List Loc} {cells slots : Nat} {Q : State → Prop}
variable {cc : ByteArray} {pc : Nat} {ls : Array Slot} {rest st0 : List Value} {G : va_G} {K : Nat → ClassId} {A : Nat → Prop} {ws wc wr : va_W} {H0 : Heap} {mc ms : Nat} {a : Array Value}
theorem zPost_nil {t : State} : zPost G K A [] t := ⟨fun k q hk => by simp at hk, ⟨fun i j p q hi => by simp at hi, fun k q hk => by simp at hk⟩⟩
/-- the world ahead of a method that may throw -/
def zPreX (G : va_G) (K : Nat → ClassId) (ws : va_W) (sz : Nat) (U : State) : Prop := zPre G K ws sz U ∧ zTh (va_A ws sz) U U.heap
theorem zPreX_blind {av : List Value} {wc : va_W} {sz : Nat} : FrameBlind (va_Pc av (zPreX G K wc sz)) := fun a U g mk q => by
  obtain ⟨q0, ⟨q1, qP, qK, qD⟩, qT⟩ := q
  exact ⟨q0, ⟨q1, qP, va_K.moved (u := U) (U := U.calling g mk a) (Vm.Alike.refl U.vm) qK, qD⟩, zTh.moved (u := U) (U := U.calling g mk a) (Vm.Alike.refl U.vm) qT⟩
/-- how a method that throws E ends -/
def zxQ (E : String) (XC : State → State → Prop) (mc ms : Nat) (free : Addr → Prop) : Array Value → State → Outcome → State → Prop := fun _ st o t =>
  ∃ (q : Addr) (ce : Cell) (L : List Loc), o = .threw q ∧ XC st t ∧ t.heap[q]? = some ce ∧ ce.vm = .none ∧ st.vm.findClass E = some ce.cls ∧ st.WarmedH t.vm ∧ st.sameButNew ({ t with vm := st.vm } : State) L mc ms ∧ ∀ z ∈ L, free z.base
/-- a method that throws E -/
def zxMet (l : Launch) (y : MethodName) (ws : List Cond) (rm : Room) (Pc : Array Value → State → Prop) (E : String) (XC : State → State → Prop) (mc ms : Nat) (free : Addr → Prop) : Prop :=
  MetFree l y (headSpec ws rm) Pc (fun _ _ _ _ _ => True) (zxQ E XC mc ms free)
/-- the world where it has thrown -/
def zXC {S : Type} (px : S → Prop) (w1 : S → va_W) (G : va_G) (K : Nat → ClassId) (A : Nat → Prop) : State → State → Prop := fun st t => ∃ u : S, px u ∧ zPost G K A (w1 u) t ∧ va_F A st t
/-- the frame g with q thrown over it -/
def zxW (p : Program) (l : Launch) (e : Env) (R : Room) (s : State) (m : MethodId) (args : Array Value) (below : List Frame) (meth : Method) (c : Code) (H : Heap) (locs : List Loc) (cells slots : Nat) (Q : State → Prop) (g : JFrame) (q : Addr) : Prop :=
  ∀ T : State, T.heap = H → Stand p l e R s m args below meth c T locs cells slots → ∃ t, Steps p.tables e below ((T.setTop g).pushFrame (.throwing q)) t ∧ Q t
def zxMQ (below : List Frame) (E : String) (XC : State → State → Prop) (a : Array Value) (s : State) (mc ms : Nat) (free : Addr → Prop) : State → Prop := fun t => ∃ o, t.status = .running ∧ Ended t below o ∧ zxQ E XC mc ms free a s o t
/-- from a point of a walk into a callee that throws -/
theorem zx_call {U : State} {Ls : List Loc} {c0 s0 : Nat} (X : Stand p l e R s m args below meth c U Ls c0 s0) {y : MethodName} {wt : List Cond} {rm : Room} {Pc : Array Value → State → Prop} {E : String} {XC : State → State → Prop} {free : Addr → Prop} (hM : zxMet l y wt rm Pc E XC mc ms free)
    {g : JFrame} (hg : g.method = m) (hsize : g.locals.size = c.maxLocals) {ig : Instr} {len : Nat} (hdg : decode c.code g.pc = .ok (ig, len)) (hW : 2 * g.monitorRoom + (g.stack.map fun v => v.category).sum ≤ 8) {mk : MethodId} (hn : U.methodNamed? y = some mk) {bytes : ByteArray} {maxL : Nat} {ret : Option FieldType}
    (h1 : (headSpec wt rm).pre.before a U = true) (h2 : (Cond.code y bytes maxL ret).before a U = true) (h3 : (Cond.initialized y.cls).before a U = true) (hframes : rm.frames + 1 ≤ R.frames) (hlocals : 8 + (maxL + 11) + rm.locals ≤ R.locals) (h4 : c0 + rm.cells ≤ R.cells) (h5 : s0 + rm.slots ≤ R.slots) (hP : Pc a (U.calling g mk a)) :
    ∃ (q : Addr) (ce : Cell) (t T' : State) (L : List Loc), Stand p l e R s m args below meth c T' (Ls ++ L) (c0 + mc) (s0 + ms) ∧ (∀ z ∈ L, free z.base) ∧ T'.heap = t.heap ∧ XC (U.calling g mk a) t ∧ t.heap[q]? = some ce ∧ ce.vm = .none ∧ U.vm.findClass E = some ce.cls ∧
      Steps p.tables e below (doInvoke e (U.setTop g) [] mk a).1 ((T'.setTop g).pushFrame (.throwing q)) := by
  obtain ⟨methY, cY, hmY, hcY, -, hlY, -, -, -, -⟩ := Cond.code_spec hn h2
  obtain ⟨kY, hkY, -⟩ := className_of_methodNamed hn
  have hinitY : kY.init = .initialized := Cond.initialized_spec (findClass_of_methodNamed hn) hkY h3
  have h : At U g.method c below := by rw [hg]; exact X.here
  have happ : (headSpec wt rm).appliesLoose y e.platform (U.calling g mk a) = true :=
    Spec.appliesLoose_calling (g := g) h hdg hn hkY hinitY (X.room_calling (g := g) (R' := rm) hsize hmY hcY hframes (by rw [hlY]; omega) h4 h5) h1
  obtain ⟨mid, hmid⟩ := h.above
  have hfr : (U.setTop g).frames = (.java g :: mid) ++ below := by rw [State.frames_setTop' g h.top, hmid]; rfl
  obtain ⟨o, s₂, hsteps, -, hend, hq⟩ := Steps.callFree hM p X.admits X.cas X.clock (acts := []) hfr happ hP trivial
  have hq : zxQ E XC mc ms free a (U.calling g mk a) o s₂ := hq
  obtain ⟨q, ce, L, ho, hXC, hce, hcv, hcl, hW₂, ⟨e2, q2, q3, q4, q5, q6⟩, hL⟩ := hq
  subst ho
  rw [State.frames_setTop' g h.top] at hend
  have hf₂ : s₂.frames = .throwing q :: .java g :: U.frames.tail := hend
  have e3 : s₂ = ({ (U.calling g mk a).setFrames s₂.frames with heap := s₂.heap, slotsUsed := s₂.slotsUsed } : State).setVm s₂.vm := by
    have h9 : s₂ = ({ s₂ with vm := (U.calling g mk a).vm } : State).setVm s₂.vm := rfl
    rw [e2] at h9
    exact h9
  have hW' : U.WarmedH s₂.vm := hW₂
  obtain ⟨g₀, hg0⟩ := Option.isSome_iff_exists.mp h.top
  obtain ⟨r, hr⟩ := State.topJava?_eq_some.mp hg0
  have hs₂ : s₂ = ((({ U with heap := s₂.heap, slotsUsed := s₂.slotsUsed } : State).setVm s₂.vm).setTop g).pushFrame (.throwing q) := by
    have hr' : (({ U with heap := s₂.heap, slotsUsed := s₂.slotsUsed } : State).setVm s₂.vm).frames = .java g₀ :: r := hr
    refine e3.trans ?_
    rw [hf₂, State.calling_eq h.top, State.setFrames_setFrames, State.pushFrame, State.frames_setTop _ hr', State.setTop_of_frames _ hr', State.setFrames_setFrames, hr]
    rfl
  have hsame : U.sameButNew ({ U with heap := s₂.heap, slotsUsed := s₂.slotsUsed } : State) L mc ms := by
    refine ⟨?_, q2, q3, q4, q5, q6⟩
    obtain ⟨t, ht, -⟩ := State.frames_cons hr
    show ({ U with heap := s₂.heap, slotsUsed := s₂.slotsUsed } : State) = { U.setFrames U.frames with heap := s₂.heap, slotsUsed := s₂.slotsUsed }
    rw [State.setFrames_self ht]
  subst hg
  refine ⟨q, ce, s₂, (({ U with heap := s₂.heap, slotsUsed := s₂.slotsUsed } : State).setVm s₂.vm), L,
    ⟨X.admits, X.cas, X.clock, X.frames, X.room, X.hears, X.method, X.code, (X.here.setHeapUsed s₂.heap s₂.slotsUsed).setVm hW'.alike, X.tail, State.WarmedH.trans X.warmed hW', X.limits, X.bytes, X.same.trans (hsame.setVm s.vm)⟩,
    hL, rfl, hXC, hce, hcv, hcl, ?_⟩
  rw [← hs₂]
  exact hsteps
/-- a call, on an object, of a method that throws; the frame rule -/
theorem z_xV {S : Type} {px : S → Prop} {w1 : S → va_W} {E : String} {y : MethodName} {bytes : ByteArray} {maxL n index nL q0 ci N : Nat} {ret : Option FieldType} {own : String} {rm : Room} {b : Nat} {As : List Value} {fs : List Value} {Tt : u_T}
    (SF : CallFix p m c cc nL s args zTB own) (hM : zxMet l y (Cond.code y bytes maxL ret :: zTB) rm (va_Pc (.ref b :: As) (zPreX G K wc H.size)) E (zXC px w1 G K (va_A wc H.size)) rm.cells rm.slots (va_A wc H.size)) (hf : zFaceV y bytes maxL ret n) (h1 : Cond.methodLink own index y ∈ zTB) (hR : rm.frames + 1 ≤ R.frames ∧ 8 + (maxL + 11) + rm.locals ≤ R.locals)
    (hK : va_K G vwCl (zK K) s) (hT : zTh A s s.heap) (hw : zW G A s.heap ws H locs) (hA : ∀ q, s.heap.size ≤ q → A q) (isC isR : List Nat) (hC : isC.map (fun i => ws[i]?) = wc.map some) (hRr : isR.map (fun i => ws[i]?) = wr.map some) (hnC : va_nd isC = true) (hnR : va_nd isR = true) (hdis : ∀ i ∈ isR, i ∉ isC) (he : ws[q0]? = some (b, .inr (ci, fs))) (hc : vwCl[ci]? = some (y.cls, Tt, N)) (hn : As.length = n) (hsize : ls.size = nL) (hst : st0 = As.reverse ++ .ref b :: rest) (hW : (rest.map fun v => v.category).sum ≤ 8) (hdg : decode cc pc = .ok (.invokevirtual index, 3)) (hroom : cells + rm.cells ≤ R.cells ∧ slots + rm.slots ≤ R.slots)
    (kk : ∀ (ce : Cell) (q9 : Addr) (u : S) (H1 : Heap) (locs1 : List Loc), px u → zW G A s.heap (wr ++ w1 u) H1 locs1 → H1[q9]? = some ce → ce.vm = .none → s.vm.findClass E = some ce.cls → zxW p l e R s m args below meth c H1 locs1 (cells + rm.cells) (slots + rm.slots) Q (F0 m pc ls rest) q9) : W p l e R s m args below meth c H locs cells slots Q (F0 m pc ls st0) := by
  obtain ⟨hx, hb, hml, hown, hts⟩ := SF
  obtain ⟨f2, f3, f4, f5, fy1, fy2, flen⟩ := hf
  obtain ⟨hP, hD, hS⟩ := hw
  have hPc := hP.sub isC (z_map_fm hC)
  have hDc := hD.sub isC hnC hC
  have hFc := va_free (wc := wc) hD hS hA isC hC
  have hT1 : zTh (va_A wc H.size) s H := (hT.kept hS.2.1).narrow hFc
  obtain ⟨mk, methM, hnamed, hmethM, hstM, habM⟩ := Cond.instanceMethod_spec (hts _ f2)
  obtain ⟨methM', cM, hmethM', -, -, -, -, -, -, hsigM⟩ := Cond.code_spec hnamed (hts _ f5)
  cases hmethM.symm.trans hmethM'
  obtain ⟨c2, r2, m2, q1, q2, q3, q4, kP, hkP, hkPi⟩ := Cond.selects_spec (hts _ f3)
  obtain ⟨cellB, hcB, hoB, hclB⟩ := va_recv hK hP hc he
  cases hclB.symm.trans q1
  cases (State.methodFound?_of_named hnamed ⟨fy1, fy2⟩).symm.trans q2
  cases hnamed.symm.trans q3
  intro T hT0 X
  have hselP : selectMethod e.platform s.vm cellB.cls mk = .method mk := by rw [Launch.admits_selectMethod X.admits]; exact q4
  have hlen : ∀ sig, parseMethodDescriptor y.desc = some sig → As.length = sig.parameters.length := fun sig h => by
    rw [h] at flen
    rw [hn]
    exact (Option.some.inj flen).symm
  obtain ⟨vm₁, X₁, hstep₁⟩ := X.invokevirtual hx hown (hts _ h1) hnamed hmethM hstM hkP hkPi ⟨fy1, fy2⟩ (a := b) (cell := cellB) (by rw [hT0]; exact hcB)
    (fun z h => by rw [h] at hoB; cases hoB) hselP hmethM habM hkP hkPi (g := F0 m pc ls st0) rfl (argsL := As) (rest := rest) (hlen _ hsigM) hst (by rw [hb]; exact hdg)
  have hWm : s.WarmedH vm₁ := X₁.warmed
  have hws := pay_in hts (z_good f5)
  have hpre : va_Pc (.ref b :: As) (zPreX G K wc H.size) (Value.ref b :: As).toArray (T.setVm vm₁) := by
    refine ⟨rfl, ⟨?_, ?_, ?_, ?_⟩, ?_⟩
    · show T.heap.size = H.size
      rw [hT0]
    · show va_P G vwCl wc T.heap
      rw [hT0]; exact hPc
    · exact va_K.moved hWm.alike hK
    · exact hDc.weaken (fun _ _ _ _ => trivial)
    · show zTh (va_A wc H.size) (T.setVm vm₁) T.heap
      rw [hT0]; exact zTh.moved hWm.alike hT1
  obtain ⟨q, ce, t, T', L, X', hL, e1, ⟨u, hu, ⟨hP1, hD1⟩, hF⟩, hce, hcv, hcl, st⟩ := zx_call X₁ hM (g := F0 m pc ls rest) rfl (hsize.trans hml.symm) (ig := .invokevirtual index) (len := 3) (by rw [hb]; exact hdg) (lv_room hW) (X₁.named hnamed) (bytes := bytes) (maxL := maxL) (ret := ret)
    (atoms_intro fun w hw => hws w hw _ _ hWm) (hws _ List.mem_cons_self _ _ hWm) (hws _ (List.mem_cons_of_mem _ f4) _ _ hWm) hR.1 hR.2 hroom.1 hroom.2 (zPreX_blind _ _ _ _ hpre)
  have hz : H.size ≤ t.heap.size := by
    have h9 : T.heap.size ≤ t.heap.size := hF.1
    rw [hT0] at h9; exact h9
  have hk : ∀ q : Nat, q < H.size → ¬ va_A wc H.size q → t.heap[q]? = H[q]? := fun q hq hA9 => by
    have h9 : t.heap[q]? = T.heap[q]? := hF.2 q (by show q < T.heap.size; rw [hT0]; exact hq) hA9
    rw [h9, hT0]
  obtain ⟨hP2, hD2⟩ := va_join hP hD isC isR hC hRr hnR hdis hk hFc hP1 hD1
  have hS2 : va_S A s.heap t.heap (locs ++ L) := ⟨Nat.le_trans hS.1 hz, fun q h1 h2 => by
      rw [hk q (Nat.lt_of_lt_of_le h1 hS.1) (fun z => h2 (hFc q z))]; exact hS.2.1 q h1 h2, fun q hq => by
      rcases List.mem_append.mp hq with h | h
      · exact hS.2.2 q h
      · exact hFc _ (hL q h)⟩
  have hcl' : s.vm.findClass E = some ce.cls := by
    have h9 : vm₁.findClass E = some ce.cls := hcl
    rw [hWm.alike.findClass] at h9
    exact h9
  obtain ⟨t2, a1, b1⟩ := kk ce q u t.heap (locs ++ L) hu ⟨hP2, hD2, hS2⟩ hce hcv hcl' T' e1 X'
  exact ⟨t2, hstep₁ _ fun acts => by rw [doInvoke_state]; exact st.trans a1, b1⟩
/-- it goes on to the caller -/
theorem z_xout {S : Type} {E : String} {px : S → Prop} {w1 : S → va_W} {ce : Cell} {q : Addr} (u : S) (hnt : ∀ x ∈ c.exceptionTable.toList, False) (hlocks : meth.locks = false) (hcell : H[q]? = some ce) (hv : ce.vm = .none) (hcl : s.vm.findClass E = some ce.cls) (hw : zW G A s.heap ws H locs) (is : List Nat) (hi : is.map (fun i => ws[i]?) = (w1 u).map some) (hn : va_nd is = true) (hu : px u) (hc : cells ≤ mc) (hs : slots ≤ ms) :
    zxW p l e R s m args below meth c H locs cells slots (zxMQ below E (zXC px w1 G K A) args s mc ms A) (F0 m pc ls rest) q := by
  obtain ⟨hP, hD, hS⟩ := hw
  intro T hT X
  obtain ⟨st1, hrun, hend, hW, hsm⟩ := X.leaveThrown q (g := F0 m pc ls rest) rfl rfl rfl (fun x hx => (hnt x hx).elim) hlocks
  have hheap : (T.setFrames (.throwing q :: below)).heap = H := hT
  refine ⟨_, st1, .threw q, hrun, hend, q, ce, locs, rfl, ⟨u, hu, ⟨?_, hD.sub is hn hi⟩, ?_⟩, ?_, hv, hcl, hW, hsm.mono hc hs, hS.2.2⟩
  · rw [hheap]; exact hP.sub is (z_map_fm hi)
  · exact hS.F hheap
  · rw [hheap]; exact hcell
/-- a body that throws, of a method without a table -/
theorem zMetX {y : MethodName} {wt : List Cond} {rm : Room} {av : List Value} {W0 : va_W} {sz : Nat} {E : String} {Xf : (Nat → Prop) → State → State → Prop} {maxL : Nat} {ret : Option FieldType}
    (hy : plainName y.cls = true) (hav : (lg_sl av).length ≤ maxL)
    (body : ∀ (p : Program) (e : Env) (s : State) (m : MethodId) (below : List Frame) (meth : Method) (c : Code) (ls : Array Slot) (A : Nat → Prop), p.tables.exec = Jvm.exec → c.code = cc → meth.sig.returnType = ret → c.maxLocals = maxL → (∀ w ∈ wt, w.before av.toArray s = true) → s.vm.findClass y.cls = some m.cls → meth.locks = false → meth.name = y.name → (∀ q, s.heap.size ≤ q → A q) → va_K G vwCl (zK K) s → ∀ (H : Heap) (locs : List Loc), zW G A s.heap W0 H locs → H.size = sz → lv_has ls maxL (lv_args 0 av) → zTh A s s.heap → (∀ x ∈ c.exceptionTable.toList, False) → (∀ q, A q → ∀ cell, s.heap[q]? = some cell → cell.vm.isStatics = false) →
      W p l e rm s m av.toArray below meth c H locs 0 0 (zxMQ below E (Xf A) av.toArray s mc ms A) (F0 m 0 ls [])) :
    zxMet l y (Cond.code y cc maxL ret :: wt) rm (va_Pc av (zPreX G K W0 sz)) E (Xf (va_A W0 sz)) mc ms (va_A W0 sz) := by
  refine MetFree.of_bodyS (code := cc) (maxLocals := maxL) (ret := ret) hy ?_ ?_
  · intro args s m h hn
    obtain ⟨meth, c, h1, h2, h3, h4, h5, h6, -, -⟩ := Cond.code_spec hn (atoms_spec (ws := Cond.code y cc maxL ret :: wt) h _ List.mem_cons_self)
    exact ⟨meth, c, h1, h2, h3, h4, h5, h6⟩
  · intro p e s m args below meth c s₁ B hml hv _
    obtain ⟨rfl, ⟨hsz, hP, hK, hD0⟩, hT⟩ := hv
    have hh0 : s₁.heap = s.heap := by rw [B.state]; rfl
    have hts := atoms_spec (ws := Cond.code y cc maxL ret :: wt) B.pre
    have hnt : ∀ x ∈ c.exceptionTable.toList, False := by
      obtain ⟨meth9, c9, h1, h2, -, -, -, -, h7, -⟩ := Cond.code_spec B.named (hts _ List.mem_cons_self)
      cases Option.some.inj (h1.symm.trans B.method)
      cases Option.some.inj (h2.symm.trans (Stand.of_body B).code)
      intro x hx
      rw [Array.isEmpty_iff.mp h7] at hx
      cases hx
    have hNS : ∀ q, va_A W0 sz q → ∀ cell, s.heap[q]? = some cell → cell.vm.isStatics = false := by
      intro q hq cell hcell
      rcases hq with ⟨k, e9, h9⟩ | h9
      · have h8 := hP k (q, e9) h9
        cases e9 with
        | inl x =>
          have h7 : s.heap[q]? = some (vp_cell x.1 x.2) := h8
          cases hcell.symm.trans h7
          obtain ⟨x1, n1, x3⟩ := x
          rcases x3 with f | f | f | f | f <;> rfl
        | inr o =>
          obtain ⟨r, h1, cell2, h2, h3, h4, h5⟩ := h8
          cases hcell.symm.trans h2
          rw [h4]
          rfl
      · have h8 := (Array.getElem?_eq_some_iff.mp hcell).1
        have h7 : s.heap.size = sz := hsz
        omega
    have hl := lv_entry av (n := maxL) hav
    have hA : ∀ q, s.heap.size ≤ q → va_A W0 sz q := fun q h => Or.inr (by rw [← hsz]; exact h)
    have key := body p e s m below meth c _ (va_A W0 sz) B.exec B.bytes B.returns hml (fun w h => hts w (List.mem_cons_of_mem _ h)) (findClass_of_methodNamed B.named) B.notSynchronized (name_of_methodNamed B.named B.method).1 hA hK s.heap [] ⟨hP, hD0.self, va_S.rf⟩ hsz hl hT hnt hNS
    rw [← lg_entry_eq] at key
    obtain ⟨t, a1, o, b1, b2, b3⟩ := key s₁ hh0 (Stand.of_body B)
    exact ⟨t, o, a1, b1, b2, b3⟩
/-- the words of a throw, by a look at each -/
theorem zx_of {L : List Cond} (h : L.all (fun w => (decide (w ∈ lw_tbl) && (goodWord w || (w.faceAtom && w.onTables))) || (decide (w = .isRef (.static Bundle.tN "UNASSIGNED_STACK" Bundle.steD)) || decide (w = .isRef (.static Bundle.tN "SUPPRESSED_SENTINEL" Bundle.listD)) || decide (w = .laysStatic Bundle.tN "UNASSIGNED_STACK" Bundle.steD) || decide (w = .laysStatic Bundle.tN "SUPPRESSED_SENTINEL" Bundle.listD))) = true) :
    ∀ w ∈ L, w ∈ zTB ∨ w = .isRef (.static Bundle.tN "UNASSIGNED_STACK" Bundle.steD) ∨ w = .isRef (.static Bundle.tN "SUPPRESSED_SENTINEL" Bundle.listD) ∨ w = .laysStatic Bundle.tN "UNASSIGNED_STACK" Bundle.steD ∨ w = .laysStatic Bundle.tN "SUPPRESSED_SENTINEL" Bundle.listD ∨ w ∈ zDC := by
  intro w hw
  have h1 := List.all_eq_true.mp h w hw
  simp only [Bool.or_eq_true, Bool.and_eq_true, decide_eq_true_eq] at h1
  rcases h1 with ⟨h2, h3 | h3⟩ | ((h2 | h2) | h2) | h2
  · exact Or.inl (z_in h2 h3)
  · exact Or.inr (Or.inr (Or.inr (Or.inr (Or.inr (List.mem_filter.mpr ⟨h2, by simp only [Bool.and_eq_true]; exact h3⟩)))))
  · exact Or.inr (Or.inl h2)
  · exact Or.inr (Or.inr (Or.inl h2))
  · exact Or.inr (Or.inr (Or.inr (Or.inl h2)))
  · exact Or.inr (Or.inr (Or.inr (Or.inr (Or.inl h2))))
/-- 'throw new E()': new; dup; invokespecial; athrow -/
theorem z_throw {own cls : String} {names : List String} {ik ic : Nat} (hexec : p.tables.exec = Jvm.exec) (hb : c.code = cc) (hl : l.stackTraces = false) (hts : ∀ w ∈ zTB, w.before args s = true) (hown : s.vm.findClass own = some m.cls) (hnt : ∀ x ∈ c.exceptionTable.toList, False) (hlocks : meth.locks = false) (hT : zTh A s s.heap) (hNS : ∀ q, A q → ∀ cell, s.heap[q]? = some cell → cell.vm.isStatics = false) (hsize : ls.size = c.maxLocals) (hcls : Bundle.fit cls = true) (hnames : ∀ n ∈ names, Bundle.fit n = true)
    (hk : Cond.classLink own ik cls ∈ zTB) (hini : Cond.initialized cls ∈ zTB) (hins : Cond.instantiable cls 6 ∈ zTB)
    (hat : ∀ w ∈ Bundle.ownAtoms0 own ic cls names, w ∈ zTB ∨ w = .isRef (.static Bundle.tN "UNASSIGNED_STACK" Bundle.steD) ∨ w = .isRef (.static Bundle.tN "SUPPRESSED_SENTINEL" Bundle.listD) ∨ w = .laysStatic Bundle.tN "UNASSIGNED_STACK" Bundle.steD ∨ w = .laysStatic Bundle.tN "SUPPRESSED_SENTINEL" Bundle.listD ∨ w ∈ zDC)
    (hw : zW G A s.heap ws H locs)
    (d0 : decode cc pc = .ok (.new ik, 3)) (d3 : decode cc (pc + 3) = .ok (.dup, 1)) (d4 : decode cc (pc + 4) = .ok (.invokespecial ic, 3)) (d7 : decode cc (pc + 7) = .ok (.athrow, 1))
    (hRframes : names.length + 3 < R.frames) (hRlocals : (rest.map fun v => v.category).sum + (13 * (names.length + 1) + 42) ≤ R.locals) (hRcells : cells + 1 ≤ R.cells) (hRslots : slots + 6 ≤ R.slots) (hc : cells + 1 ≤ mc) (hs : slots + 6 ≤ ms) :
    W p l e R s m args below meth c H locs cells slots (zxMQ below cls (zXC (fun _ : Unit => True) (fun _ => []) G K A) args s mc ms A) (F0 m pc ls rest) := by
  obtain ⟨hP, hD, hS⟩ := hw
  intro T hT0 X
  have htr : e.platform.stackTraces = false := (show e.platform.stackTraces = l.stackTraces by rw [X.admits.platform]).trans hl
  obtain ⟨vm₁, cX, kX, hfX, hkX, -, -, X₁, st1⟩ := X.newCold hexec (own := own) (C := cls) (index := ik) (n := 6) hown (hts _ hk) (hts _ hins) (hts _ hini) (g := F0 m pc ls rest) rfl (by rw [hb]; exact d0) hRcells hRslots
  have hwords : ∀ w ∈ Bundle.ownAtoms0 own ic cls names, w.before args s = true := fun w hw9 => by
    rcases hat w hw9 with h | h | h | h | h | h
    · exact hts _ h
    · rw [h]; exact hT.1.isRef
    · rw [h]; exact hT.2.1.isRef
    · rw [h]; exact hT.1.lays
    · rw [h]; exact hT.2.1.lays
    · exact zDC_moved (Vm.Alike.refl s.vm) hT.2.2 w h
  generalize hT1 : (T.setVm vm₁).pushCell { cls := cX, slots := kX.instanceTypes.map defaultValue, vm := .none } = T1 at X₁ st1
  have hcellA : T1.heap[T.heap.size]? = some (freshCell cX kX) := by rw [← hT1]; exact State.heap_pushCell_size _ _
  have d3' : decode c.code (pc + 3) = .ok (.dup, 1) := by rw [hb]; exact d3
  have hcat : (Value.ref T.heap.size).category = 1 := rfl
  obtain ⟨U, hsteps, hrun, hend, hW, hsame, ce, hce, hO⟩ := X₁.ctorThrow0 hexec htr (own := own) (cls := cls) (names := names) (ic := ic) hown hcls hnames hwords (fun x hx cell hcell => hNS _ (hS.2.2 x hx) cell hcell) hfX hkX hcellA (by rw [hT0]; exact hS.1)
    (g := { method := m, pc := pc + 4, locals := ls, stack := .ref T.heap.size :: .ref T.heap.size :: rest, locked := none }) rfl hsize rfl rfl (rest := rest) rfl
    (by rw [hb]; exact d4) (by rw [hb]; exact d7) (fun x hx => (hnt x hx).elim) hRframes (by
      have h0 : ({ method := m, pc := pc + 4, locals := ls, stack := .ref T.heap.size :: .ref T.heap.size :: rest, locked := none } : JFrame).monitorRoom = 0 := rfl
      rw [h0]
      simp only [List.map_cons, List.sum_cons, hcat]
      omega) hlocks
  have hk9 := kept_of_same hsame (keep := fun q => ¬ A q) (fun q hq h => h (hS.2.2 q hq))
  have hF : va_F A s U := ⟨hsame.2.1, fun q hq hq2 => by
    have h9 : s.heap[q]? = some s.heap[q] := Array.getElem?_eq_getElem hq
    rw [h9]
    exact hk9 q _ hq2 h9⟩
  have hcl : s.vm.findClass cls = some ce.cls := hO.cls
  refine ⟨U, ?_, .threw T.heap.size, hrun, hend, T.heap.size, ce, locs, rfl, ⟨(), trivial, zPost_nil, hF⟩, hce, hO.vm, hcl, hW, hsame.mono hc hs, hS.2.2⟩
  refine st1 _ ?_
  show Steps p.tables e below (T1.setTop { method := m, pc := pc + 3, locals := ls, stack := .ref T.heap.size :: rest, locked := none }) _
  jvm_step X₁.here [X₁.here.top, hexec, d3', Value.category]
  exact hsteps
/-- a method with a table of its own that catches -/
theorem zMetW {y : MethodName} {wt : List Cond} {rm : Room} {av : List Value} {W0 : va_W} {sz : Nat} {Qf : (Nat → Prop) → Array Value → State → Outcome → State → Prop} {maxL : Nat} {ret : Option FieldType} {hh : List (Nat × Nat × Nat × Nat)}
    (hy : plainName y.cls = true) (hav : (lg_sl av).length ≤ maxL)
    (body : ∀ (p : Program) (e : Env) (s : State) (m : MethodId) (below : List Frame) (meth : Method) (c : Code) (ls : Array Slot) (A : Nat → Prop), p.tables.exec = Jvm.exec → c.code = cc → meth.sig.returnType = ret → c.maxLocals = maxL → (∀ w ∈ wt, w.before av.toArray s = true) → s.vm.findClass y.cls = some m.cls → meth.locks = false → meth.name = y.name → (∀ q, s.heap.size ≤ q → A q) → va_K G vwCl (zK K) s → ∀ (H : Heap) (locs : List Loc), zW G A s.heap W0 H locs → H.size = sz → lv_has ls maxL (lv_args 0 av) → zTh A s s.heap → c.exceptionTable.toList = tableOf hh →
      W p l e rm s m av.toArray below meth c H locs 0 0 (MQ below (Qf A) av.toArray s mc ms A) (F0 m 0 ls [])) :
    Met l y (Cond.codeWith y cc maxL ret hh :: wt) rm (va_Pc av (zPreX G K W0 sz)) (Qf (va_A W0 sz)) mc ms (va_A W0 sz) := by
  refine va_MetW (cc := cc) (maxL := maxL) (ret := ret) (hh := hh) hy rfl ?_
  intro p e s m args below meth c s₁ B hml hv
  obtain ⟨rfl, ⟨hsz, hP, hK, hD0⟩, hT⟩ := hv
  have hts := atoms_spec (ws := Cond.codeWith y cc maxL ret hh :: wt) B.pre
  have htab : c.exceptionTable.toList = tableOf hh := by
    obtain ⟨m9, meth9, c9, hn9, h1, h2, -, -, h6, -⟩ := Cond.codeWith_spec (hts _ List.mem_cons_self)
    cases Option.some.inj (hn9.symm.trans B.named)
    cases Option.some.inj (h1.symm.trans B.method)
    cases Option.some.inj (h2.symm.trans (Stand.of_body B).code)
    rw [← h6, table_eq]
  have hl := lv_entry av (n := maxL) hav
  rw [lg_entry_eq]
  generalize (lg_sl av ++ List.replicate (maxL - (lg_sl av).length) Slot.unset).toArray = ls at hl ⊢
  refine body p e s m below meth c ls _ B.exec B.bytes B.returns hml (fun w h => hts w (List.mem_cons_of_mem _ h)) (findClass_of_methodNamed B.named) B.notSynchronized (name_of_methodNamed B.named B.method).1 ?_ hK s.heap [] ⟨hP, hD0.self, va_S.rf⟩ hsz hl hT htab
  intro q h
  exact Or.inr (by rw [← hsz]; exact h)
/-- caught by the first row of this method's table, which names the very class -/
theorem z_catch {own E : String} {ce : Cell} {q : Addr} (hown : s.vm.findClass own = some m.cls) (hts : ∀ w ∈ zTB, w.before args s = true) (x : ExceptionTableEntry) (suf : List ExceptionTableEntry) (htab : c.exceptionTable.toList = x :: suf) (hx : covers x pc = true) (h0 : x.catchType ≠ 0) (hlink : Cond.classLink own x.catchType E ∈ zTB) (hT : zTh A s s.heap) (hcast : Cond.castable E E ∈ zDC) (hcell : H[q]? = some ce) (hv : ce.vm = .none) (hcl : s.vm.findClass E = some ce.cls)
    (kk : W p l e R s m args below meth c H locs cells slots Q (F0 m x.handlerPc ls [.ref q])) : zxW p l e R s m args below meth c H locs cells slots Q (F0 m pc ls rest) q := by
  intro T hT0 X
  have hpl : e.platform.magicAccessors = ({} : Platform).magicAccessors := by rw [X.admits.platform]
  obtain ⟨c3, c4, hc3, hc4, hasg⟩ := Cond.castable_spec (hT.2.2 _ hcast)
  obtain ⟨c5, hc5, hcl5⟩ := Cond.classLink_spec hown (hts _ hlink) e.platform hpl
  cases Option.some.inj (hc3.symm.trans hcl)
  cases Option.some.inj (hc4.symm.trans hc5)
  obtain ⟨vm', X', st⟩ := X.thenCaughtThrough q (g := F0 m pc ls rest) rfl (Steps.refl _) (by rw [hT0]; exact hcell) (by rw [hv]; rfl) (by obtain ⟨k9, h9, -⟩ := Vm.findClass_spec hcl; exact ⟨k9, h9⟩) [] x suf htab (fun z hz => by cases hz) hx (Or.inr ⟨h0, _, hcl5, hasg⟩)
  obtain ⟨t, a1, b1⟩ := kk (T.setVm vm') hT0 X'
  exact ⟨t, st.trans a1, b1⟩
def zFaceSW (y : MethodName) (bytes : ByteArray) (maxL : Nat) (ret : Option FieldType) (hh : List (Nat × Nat × Nat × Nat)) (n : Nat) : Prop := Cond.static y ∈ zTB ∧ Cond.initialized y.cls ∈ zTB ∧ Cond.codeWith y bytes maxL ret hh ∈ zTB ∧ y.cls ≠ "java/lang/invoke/MethodHandle" ∧ y.cls ≠ "java/lang/invoke/VarHandle" ∧ (parseMethodDescriptor y.desc).map (fun d => d.parameters.length) = some n
/-- a call of a static method that has a table of its own -/
theorem z_runSW {y : MethodName} {bytes : ByteArray} {maxL n index nL : Nat} {ret : Option FieldType} {hh : List (Nat × Nat × Nat × Nat)} {own : String} {rm : Room} {Qc : Array Value → State → Outcome → State → Prop} {free : Addr → Prop} {As : List Value}
    (S : CallFix p m c cc nL s args zTB own) (hM : Met l y (Cond.codeWith y bytes maxL ret hh :: zTB) rm (va_Pc As (zPreX G K wc H.size)) Qc rm.cells rm.slots free) (hf : zFaceSW y bytes maxL ret hh n) (h1 : Cond.methodLink own index y ∈ zTB) (hR : rm.frames + 1 ≤ R.frames ∧ 8 + (maxL + 11) + rm.locals ≤ R.locals)
    (hK : va_K G vwCl (zK K) s) (hT : zTh A s s.heap) (hw : zW G A s.heap ws H locs) (hA : ∀ q, s.heap.size ≤ q → A q) (is : List Nat) (hi : is.map (fun i => ws[i]?) = wc.map some) (hnd : va_nd is = true) (hn : As.length = n) (hsize : ls.size = nL) (hst : st0 = As.reverse ++ rest) (hW : (rest.map fun v => v.category).sum ≤ 8) (hdg : decode cc pc = .ok (.invokestatic index, 3)) (hroom : cells + rm.cells ≤ R.cells ∧ slots + rm.slots ≤ R.slots) :
    va_Run p l e R s m args below meth c H locs cells slots rm.cells rm.slots (F0 m pc ls st0) rest (Qc As.toArray) free := by
  obtain ⟨hP, hD, hS⟩ := hw
  have hPc := hP.sub is (z_map_fm hi)
  have hDc := hD.sub is hnd hi
  have hFc := va_free (wc := wc) hD hS hA is hi
  have hT1 : zTh (va_A wc H.size) s H := (hT.kept hS.2.1).narrow hFc
  obtain ⟨hx, hb, hml, hown, hts⟩ := S
  obtain ⟨f1, f2, f3, fy1, fy2, flen⟩ := hf
  have hws := pay_in hts (z_good f3)
  have hBk : Back l R p e below s args y 3 8 (PreOf R rm.cells rm.slots (va_Pc As (zPreX G K wc H.size))) (PostOf Qc rm.cells rm.slots free) := va_backW (hh := hh) (bytes := bytes) (maxL := maxL) (ret := ret) hM zPreX_blind rfl rfl hR.1 hR.2 hws List.mem_cons_self (fun a' U hW => hws _ (List.mem_cons_of_mem _ f2) a' U hW)
  obtain ⟨mk, methM, cM, hnamed, hmethM, -, -, -, -, -, -, hsigM⟩ := Cond.codeWith_spec (hts _ f3)
  have hstatic : methM.isStatic = true := Cond.static_spec hnamed hmethM (hts _ f1)
  obtain ⟨kP, hkP, -⟩ := className_of_methodNamed hnamed
  have hinitP : kP.init = .initialized := Cond.initialized_spec (findClass_of_methodNamed hnamed) hkP (hts _ f2)
  have hlen : ∀ sig, parseMethodDescriptor y.desc = some sig → As.length = sig.parameters.length := fun sig h => by
    rw [h] at flen
    rw [hn]
    exact (Option.some.inj flen).symm
  intro T hT0 X
  obtain ⟨vm₁, X₁, hstep₁⟩ := X.invokestatic hx hown (hts _ h1) hnamed hmethM hstatic hkP hinitP ⟨fy1, fy2⟩ (g := F0 m pc ls st0) rfl (argsL := As) (rest := rest) (hlen _ hsigM) hst (by rw [hb]; exact hdg)
  have hWm : s.WarmedH vm₁ := X₁.warmed
  have hpre : va_Pc As (zPreX G K wc H.size) As.toArray (T.setVm vm₁) := by
    refine ⟨rfl, ⟨?_, ?_, ?_, ?_⟩, ?_⟩
    · show T.heap.size = H.size
      rw [hT0]
    · show va_P G vwCl wc T.heap
      rw [hT0]; exact hPc
    · exact va_K.moved hWm.alike hK
    · exact hDc.weaken (fun _ _ _ _ => trivial)
    · show zTh (va_A wc H.size) (T.setVm vm₁) T.heap
      rw [hT0]; exact zTh.moved hWm.alike hT1
  obtain ⟨v, ⟨U', l2, c2, s2⟩, X', ⟨g', mk', t, L, e1, e2, hq, h8, hL, h9, h10⟩, st⟩ := hBk m meth c ⟨T.setVm vm₁, locs, cells, slots⟩ (F0 m pc ls rest) (.invokestatic index) mk As.toArray X₁ rfl (hsize.trans hml.symm) (by rw [hb]; exact hdg) (lv_room hW) (X₁.named hnamed) ⟨hroom.1, hroom.2, hpre⟩
  dsimp only [Pt.U, Pt.locs, Pt.cells, Pt.slots] at X' e1 e2 h8 h9 h10 st
  subst h8; subst h9; subst h10
  exact ⟨v, (T.setVm vm₁).calling g' mk' As.toArray, t, U', L, hT0, X', hL, e1, e2, hq, fun target h => hstep₁ _ fun acts => by rw [doInvoke_state]; exact st.trans h⟩
end ZX
