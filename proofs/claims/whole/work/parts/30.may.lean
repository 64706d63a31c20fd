/-! Contracts of methods that return or throw, the world said behind both. -/
section ZY
variable {p : Program} {l : Launch} {e : Env} {R : Room} {s : State} {m : MethodId} {args : Array Value} {below : List Frame} {meth : Method} {c : Code} {H : Heap} {locs : List Loc} {cells slots : Nat} {Q : State → Prop}
variable {cc : ByteArray} {pc : Nat} {ls : Array Slot} {rest st0 : List Value} {G : va_G} {K : Nat → ClassId} {A : Nat → Prop} {ws wc wr : va_W} {H0 : Heap} {mc ms : Nat} {a : Array Value}
/-- a static array of ints that nobody writes -/
def zSA (C n : String) (N : Nat) (f : Nat → Int32) (A : Nat → Prop) (U : State) (H : Heap) : Prop := ∃ t : Nat, va_Z C n "[I" (.ref t) A U H ∧ va_T .int t N (fun j => .int (f j)) A U H
def zStr (j : Nat) : Int32 := ([0, 0, 1, 1, 2] : List Int32).getD j 0
def zGue (j : Nat) : Int32 := ([170, 204, 240] : List Int32).getD j 0
/-- the class named a is none of b's -/
def zNA (a b : String) (U : State) : Prop := ∃ c d : ClassId, U.vm.findClass a = some c ∧ U.vm.findClass b = some d ∧ U.vm.assignable c d = false
theorem zNA.moved {a b : String} {u U : State} (hvm : u.vm.Alike U.vm) (h : zNA a b u) : zNA a b U := by
  obtain ⟨c, d, h1, h2, h3⟩ := h
  exact ⟨c, d, by rw [hvm.findClass]; exact h1, by rw [hvm.findClass]; exact h2, by rw [hvm.assignable]; exact h3⟩
def zNAs (U : State) : Prop := zNA "java/lang/UnsupportedOperationException" "java/lang/IllegalArgumentException" U ∧ zNA "java/lang/IllegalArgumentException" "java/lang/IllegalStateException" U ∧ zNA "java/lang/IndexOutOfBoundsException" "java/lang/IllegalStateException" U ∧ zNA "java/lang/UnsupportedOperationException" "java/lang/IllegalStateException" U ∧ zNA "java/lang/UnsupportedOperationException" "java/lang/IndexOutOfBoundsException" U
theorem zNAs.moved {u U : State} (hvm : u.vm.Alike U.vm) (h : zNAs u) : zNAs U := ⟨h.1.moved hvm, h.2.1.moved hvm, h.2.2.1.moved hvm, h.2.2.2.1.moved hvm, h.2.2.2.2.moved hvm⟩
theorem zNA_of {a b : String} {s : State} {args : Array Value} (h : (Cond.not (.castable a b)).before args s = true) : zNA a b s := by
  have hv := Cond.holds_not_iff.mp h
  cases h1 : s.vm.findClass a with
  | none => simp [Cond.value, h1] at hv
  | some c =>
    cases h2 : s.vm.findClass b with
    | none => simp [Cond.value, h1, h2] at hv
    | some d =>
      simp only [Cond.value, h1, h2] at hv
      exact ⟨c, d, h1, h2, Option.some.inj hv⟩
/-- what a method of ours may need of the heap beside its world: Throwable's statics, two tables -/
def zTH (A : Nat → Prop) (U : State) (H : Heap) : Prop := zTh A U H ∧ zSA "LassoFinder$Terms" "STRENGTHS" 5 zStr A U H ∧ zSA "LassoFinder$Truths" "GUESSED" 3 zGue A U H ∧ zNAs U
theorem zSA.moved {C n : String} {N : Nat} {f : Nat → Int32} {u U : State} (hvm : u.vm.Alike U.vm) (h : zSA C n N f A u H) : zSA C n N f A U H := by
  obtain ⟨t, h1, h2⟩ := h
  exact ⟨t, va_Z.moved hvm h1, va_T.moved hvm h2⟩
theorem zSA.kept {C n : String} {N : Nat} {f : Nat → Int32} {U : State} {H1 : Heap} (h : zSA C n N f A U H) (hq : ∀ a : Nat, a < H.size → ¬ A a → H1[a]? = H[a]?) : zSA C n N f A U H1 := by
  obtain ⟨t, h1, h2⟩ := h
  exact ⟨t, h1.kept hq, h2.kept hq⟩
theorem zSA.narrow {C n : String} {N : Nat} {f : Nat → Int32} {A' : Nat → Prop} {U : State} (h : zSA C n N f A U H) (hAB : ∀ q, A' q → A q) : zSA C n N f A' U H := by
  obtain ⟨t, h1, h2⟩ := h
  exact ⟨t, h1.narrow hAB, h2.narrow hAB⟩
theorem zTH.moved {u U : State} (hvm : u.vm.Alike U.vm) (h : zTH A u H) : zTH A U H := ⟨h.1.moved hvm, h.2.1.moved hvm, h.2.2.1.moved hvm, h.2.2.2.moved hvm⟩
theorem zTH.kept {U : State} {H1 : Heap} (h : zTH A U H) (hq : ∀ a : Nat, a < H.size → ¬ A a → H1[a]? = H[a]?) : zTH A U H1 := ⟨h.1.kept hq, h.2.1.kept hq, h.2.2.1.kept hq, h.2.2.2⟩
theorem zTH.narrow {A' : Nat → Prop} {U : State} (h : zTH A U H) (hAB : ∀ q, A' q → A q) : zTH A' U H := ⟨h.1.narrow hAB, h.2.1.narrow hAB, h.2.2.1.narrow hAB, h.2.2.2⟩
/-- the world ahead of a method that may throw, or read a table -/
def zPreY (G : va_G) (K : Nat → ClassId) (ws : va_W) (sz : Nat) (U : State) : Prop := zPre G K ws sz U ∧ zTH (va_A ws sz) U U.heap
theorem zPreY_blind {av : List Value} {wc : va_W} {sz : Nat} : FrameBlind (va_Pc av (zPreY G K wc sz)) := fun a U g mk q => by
  obtain ⟨q0, ⟨q1, qP, qK, qD⟩, qT⟩ := q
  exact ⟨q0, ⟨q1, qP, va_K.moved (u := U) (U := U.calling g mk a) (Vm.Alike.refl U.vm) qK, qD⟩, zTH.moved (u := U) (U := U.calling g mk a) (Vm.Alike.refl U.vm) qT⟩
/-- how a method ends that returns (and then has made nothing) or throws -/
def zyQ (Qc : Array Value → State → Outcome → State → Prop) (XC : String → State → State → Prop) (mc ms : Nat) (free : Addr → Prop) : Array Value → State → Outcome → State → Prop := fun a st o t =>
  (Qc a st o t ∧ ∃ L, FrameEnd st o t L 0 0 ∧ ∀ q ∈ L, free q.base) ∨ ∃ E, zxQ E (XC E) mc ms free a st o t
def zyMet (l : Launch) (y : MethodName) (ws : List Cond) (rm : Room) (Pc : Array Value → State → Prop) (Qc : Array Value → State → Outcome → State → Prop) (XC : String → State → State → Prop) (mc ms : Nat) (free : Addr → Prop) : Prop :=
  MetFree l y (headSpec ws rm) Pc (fun _ _ _ _ _ => True) (zyQ Qc XC mc ms free)
def zyMQ (below : List Frame) (Qc : Array Value → State → Outcome → State → Prop) (XC : String → State → State → Prop) (a : Array Value) (s : State) (mc ms : Nat) (free : Addr → Prop) : State → Prop := fun t => ∃ o, t.status = .running ∧ Ended t below o ∧ zyQ Qc XC mc ms free a s o t
/-- the world where E has been thrown -/
def zYC {S : Type} (px : String → S → Prop) (w1 : S → va_W) (G : va_G) (K : Nat → ClassId) (A : Nat → Prop) : String → State → State → Prop := fun E st t => ∃ u : S, px E u ∧ zPost G K A (w1 u) t ∧ va_F A st t
/-- a method that returns is one that returns or throws -/
theorem zyMet_of {y : MethodName} {wt : List Cond} {rm : Room} {Pc : Array Value → State → Prop} {Qc : Array Value → State → Outcome → State → Prop} {XC : String → State → State → Prop} {free : Addr → Prop} (h : Met l y wt rm Pc Qc 0 0 free) : zyMet l y wt rm Pc Qc XC mc ms free := by
  intro p e ha hc hk s m args below hf happ hP hK
  obtain ⟨n, o, h1, h2, h3, h4⟩ := h p e ha hc hk s m args below hf happ hP hK
  exact ⟨n, o, h1, h2, h3, Or.inl h4⟩
/-- the end of a body: the return's rows serve -/
theorem zy_ret {Qc : Array Value → State → Outcome → State → Prop} {XC : String → State → State → Prop} {free : Addr → Prop} {g : JFrame} (k : W p l e R s m args below meth c H locs cells slots (MQ below Qc args s 0 0 free) g) : W p l e R s m args below meth c H locs cells slots (zyMQ below Qc XC args s mc ms free) g := by
  intro T hT X
  obtain ⟨t, a1, o, b1, b2, b3, b4⟩ := k T hT X
  exact ⟨t, a1, o, b1, b2, Or.inl ⟨b3, b4⟩⟩
/-- from a point of a walk into a callee that returns or throws -/
theorem zy_call {U : State} {Ls : List Loc} {c0 s0 : Nat} (X : Stand p l e R s m args below meth c U Ls c0 s0) {y : MethodName} {wt : List Cond} {rm : Room} {Pc : Array Value → State → Prop} {Qc : Array Value → State → Outcome → State → Prop} {XC : String → State → State → Prop} {free : Addr → Prop} (hM : zyMet l y wt rm Pc Qc XC mc ms free)
    {g : JFrame} (hg : g.method = m) (hsize : g.locals.size = c.maxLocals) {ig : Instr} {len : Nat} (hdg : decode c.code g.pc = .ok (ig, len)) (hW : 2 * g.monitorRoom + (g.stack.map fun v => v.category).sum ≤ 8) {mk : MethodId} (hn : U.methodNamed? y = some mk) {bytes : ByteArray} {maxL : Nat} {ret : Option FieldType}
    (h1 : (headSpec wt rm).pre.before a U = true) (h2 : (Cond.code y bytes maxL ret).before a U = true) (h3 : (Cond.initialized y.cls).before a U = true) (hframes : rm.frames + 1 ≤ R.frames) (hlocals : 8 + (maxL + 11) + rm.locals ≤ R.locals) (h4 : c0 + rm.cells ≤ R.cells) (h5 : s0 + rm.slots ≤ R.slots) (hP : Pc a (U.calling g mk a)) :
    (∃ (v : Option Value) (t T' : State) (L : List Loc), Stand p l e R s m args below meth c T' (Ls ++ L) (c0 + 0) (s0 + 0) ∧ (∀ z ∈ L, free z.base) ∧ T'.heap = t.heap ∧ Qc a (U.calling g mk a) (.returned v) t ∧
      Steps p.tables e below (doInvoke e (U.setTop g) [] mk a).1 (T'.setTop { g with pc := g.pc + len, stack := v.toList ++ g.stack })) ∨
    (∃ (E : String) (q : Addr) (ce : Cell) (t T' : State) (L : List Loc), Stand p l e R s m args below meth c T' (Ls ++ L) (c0 + mc) (s0 + ms) ∧ (∀ z ∈ L, free z.base) ∧ T'.heap = t.heap ∧ XC E (U.calling g mk a) t ∧ t.heap[q]? = some ce ∧ ce.vm = .none ∧ U.vm.findClass E = some ce.cls ∧
      Steps p.tables e below (doInvoke e (U.setTop g) [] mk a).1 ((T'.setTop g).pushFrame (.throwing q))) := by
  obtain ⟨methY, cY, hmY, hcY, -, hlY, -, -, -, -⟩ := Cond.code_spec hn h2
  obtain ⟨kY, hkY, -⟩ := className_of_methodNamed hn
  have hinitY : kY.init = .initialized := Cond.initialized_spec (findClass_of_methodNamed hn) hkY h3
  have h : At U g.method c below := by rw [hg]; exact X.here
  have happ : (headSpec wt rm).appliesLoose y e.platform (U.calling g mk a) = true :=
    Spec.appliesLoose_calling (g := g) h hdg hn hkY hinitY (X.room_calling (g := g) (R' := rm) hsize hmY hcY hframes (by rw [hlY]; omega) h4 h5) h1
  obtain ⟨mid, hmid⟩ := h.above
  have hfr : (U.setTop g).frames = (.java g :: mid) ++ below := by rw [State.frames_setTop' g h.top, hmid]; rfl
  obtain ⟨o, s₂, hsteps, -, hend, hq⟩ := Steps.callFree hM p X.admits X.cas X.clock (acts := []) hfr happ hP trivial
  have hq : zyQ Qc XC mc ms free a (U.calling g mk a) o s₂ := hq
  rw [State.frames_setTop' g h.top] at hend
  obtain ⟨g₀, hg0⟩ := Option.isSome_iff_exists.mp h.top
  obtain ⟨r, hr⟩ := State.topJava?_eq_some.mp hg0
  -- what both ways share
  have share : ∀ (L : List Loc) (k9 n9 : Nat), (U.calling g mk a).WarmedH s₂.vm → (U.calling g mk a).sameButNew ({ s₂ with vm := (U.calling g mk a).vm } : State) L k9 n9 →
      s₂ = ({ (U.calling g mk a).setFrames s₂.frames with heap := s₂.heap, slotsUsed := s₂.slotsUsed } : State).setVm s₂.vm ∧ Stand p l e R s g.method args below meth c (({ U with heap := s₂.heap, slotsUsed := s₂.slotsUsed } : State).setVm s₂.vm) (Ls ++ L) (c0 + k9) (s0 + n9) := by
    intro L k9 n9 hW₂ hsm
    obtain ⟨e2, q2, q3, q4, q5, q6⟩ := hsm
    have e3 : s₂ = ({ (U.calling g mk a).setFrames s₂.frames with heap := s₂.heap, slotsUsed := s₂.slotsUsed } : State).setVm s₂.vm := by
      have h9 : s₂ = ({ s₂ with vm := (U.calling g mk a).vm } : State).setVm s₂.vm := rfl
      rw [e2] at h9
      exact h9
    have hW' : U.WarmedH s₂.vm := hW₂
    have hsame : U.sameButNew ({ U with heap := s₂.heap, slotsUsed := s₂.slotsUsed } : State) L k9 n9 := by
      refine ⟨?_, q2, q3, q4, q5, q6⟩
      obtain ⟨t, ht, -⟩ := State.frames_cons hr
      show ({ U with heap := s₂.heap, slotsUsed := s₂.slotsUsed } : State) = { U.setFrames U.frames with heap := s₂.heap, slotsUsed := s₂.slotsUsed }
      rw [State.setFrames_self ht]
    subst hg
    exact ⟨e3, X.admits, X.cas, X.clock, X.frames, X.room, X.hears, X.method, X.code, (X.here.setHeapUsed s₂.heap s₂.slotsUsed).setVm hW'.alike, X.tail, State.WarmedH.trans X.warmed hW', X.limits, X.bytes, X.same.trans (hsame.setVm s.vm)⟩
  rcases hq with ⟨hq, L, hfe, hL⟩ | ⟨E, q, ce, L, ho, hXC, hce, hcv, hcl, hW₂, hsm, hL⟩
  · obtain ⟨⟨v, ho⟩, hW₂, hsm⟩ := hfe
    subst ho
    obtain ⟨e3, X'⟩ := share L 0 0 hW₂ hsm
    obtain ⟨c₂, i₂, len₂, hc₂, hd₂, hf₂⟩ := hend
    have hW' : U.WarmedH s₂.vm := hW₂
    have hcc : c₂ = c := by
      have h1 : s₂.code? g.method = U.code? g.method := by
        rw [State.code?_eq, State.code?_eq, hW'.alike.method?]
      exact Option.some.inj (hc₂.symm.trans (h1.trans h.code))
    subst hcc
    have hlen : len₂ = len := by rw [hdg] at hd₂; cases hd₂; rfl
    subst hlen
    have hs₂ : s₂ = (({ U with heap := s₂.heap, slotsUsed := s₂.slotsUsed } : State).setVm s₂.vm).setTop { g with pc := g.pc + len₂, stack := v.toList ++ g.stack } := by
      have hr' : (({ U with heap := s₂.heap, slotsUsed := s₂.slotsUsed } : State).setVm s₂.vm).frames = .java g₀ :: r := hr
      refine e3.trans ?_
      rw [hf₂, State.calling_eq h.top, State.setFrames_setFrames, State.setTop_of_frames _ hr', hr]
      rfl
    refine Or.inl ⟨v, s₂, (({ U with heap := s₂.heap, slotsUsed := s₂.slotsUsed } : State).setVm s₂.vm), L, by rw [← hg]; exact X', hL, rfl, hq, ?_⟩
    rw [← hs₂]
    exact hsteps
  · subst ho
    obtain ⟨e3, X'⟩ := share L mc ms hW₂ hsm
    have hf₂ : s₂.frames = .throwing q :: .java g :: U.frames.tail := hend
    have hs₂ : s₂ = ((({ U with heap := s₂.heap, slotsUsed := s₂.slotsUsed } : State).setVm s₂.vm).setTop g).pushFrame (.throwing q) := by
      have hr' : (({ U with heap := s₂.heap, slotsUsed := s₂.slotsUsed } : State).setVm s₂.vm).frames = .java g₀ :: r := hr
      refine e3.trans ?_
      rw [hf₂, State.calling_eq h.top, State.setFrames_setFrames, State.pushFrame, State.frames_setTop _ hr', State.setTop_of_frames _ hr', State.setFrames_setFrames, hr]
      rfl
    refine Or.inr ⟨E, q, ce, s₂, (({ U with heap := s₂.heap, slotsUsed := s₂.slotsUsed } : State).setVm s₂.vm), L, by rw [← hg]; exact X', hL, rfl, hXC, hce, hcv, hcl, ?_⟩
    rw [← hs₂]
    exact hsteps
/-- a call on an object of a method that returns or throws, over the cells wc -/
theorem z_yV {S : Type} {px : String → S → Prop} {w1 : S → va_W} {Qc : Array Value → State → Outcome → State → Prop} {y : MethodName} {bytes : ByteArray} {maxL n index nL q0 ci N : Nat} {ret : Option FieldType} {own : String} {rm : Room} {b : Nat} {As : List Value} {fs : List Value} {Tt : u_T}
    (SF : CallFix p m c cc nL s args zTB own) (hM : zyMet l y (Cond.code y bytes maxL ret :: zTB) rm (va_Pc (.ref b :: As) (zPreY G K wc H.size)) Qc (zYC px w1 G K (va_A wc H.size)) rm.cells rm.slots (va_A wc H.size)) (hf : zFaceV y bytes maxL ret n) (h1 : Cond.methodLink own index y ∈ zTB) (hR : rm.frames + 1 ≤ R.frames ∧ 8 + (maxL + 11) + rm.locals ≤ R.locals)
    (hK : va_K G vwCl (zK K) s) (hT : zTH A s s.heap) (hw : zW G A s.heap ws H locs) (hA : ∀ q, s.heap.size ≤ q → A q) (isC isR : List Nat) (hC : isC.map (fun i => ws[i]?) = wc.map some) (hRr : isR.map (fun i => ws[i]?) = wr.map some) (hnC : va_nd isC = true) (hnR : va_nd isR = true) (hdis : ∀ i ∈ isR, i ∉ isC) (he : ws[q0]? = some (b, .inr (ci, fs))) (hc : vwCl[ci]? = some (y.cls, Tt, N)) (hn : As.length = n) (hsize : ls.size = nL) (hst : st0 = As.reverse ++ .ref b :: rest) (hW : (rest.map fun v => v.category).sum ≤ 8) (hdg : decode cc pc = .ok (.invokevirtual index, 3)) (hroom : cells + rm.cells ≤ R.cells ∧ slots + rm.slots ≤ R.slots)
    (kk : ∀ (v : Option Value) (st t : State) (L : List Loc), st.heap = H → Qc (Value.ref b :: As).toArray st (.returned v) t → (∀ z ∈ L, va_A wc H.size z.base) → W p l e R s m args below meth c t.heap (locs ++ L) cells slots Q (F0 m (pc + 3) ls (v.toList ++ rest)))
    (kx : ∀ (E : String) (ce : Cell) (q9 : Addr) (u : S) (H1 : Heap) (locs1 : List Loc), px E u → zW G A s.heap (wr ++ w1 u) H1 locs1 → H1[q9]? = some ce → ce.vm = .none → s.vm.findClass E = some ce.cls → zxW p l e R s m args below meth c H1 locs1 (cells + rm.cells) (slots + rm.slots) Q (F0 m pc ls rest) q9) : W p l e R s m args below meth c H locs cells slots Q (F0 m pc ls st0) := by
  obtain ⟨hx, hb, hml, hown, hts⟩ := SF
  obtain ⟨f2, f3, f4, f5, fy1, fy2, flen⟩ := hf
  obtain ⟨hP, hD, hS⟩ := hw
  have hPc := hP.sub isC (z_map_fm hC)
  have hDc := hD.sub isC hnC hC
  have hFc := va_free (wc := wc) hD hS hA isC hC
  have hT1 : zTH (va_A wc H.size) s H := (hT.kept hS.2.1).narrow hFc
  obtain ⟨mk, methM, hnamed, hmethM, hstM, habM⟩ := Cond.instanceMethod_spec (hts _ f2)
  obtain ⟨methM', cM, hmethM', -, -, -, -, -, -, hsigM⟩ := Cond.code_spec hnamed (hts _ f5)
  cases hmethM.symm.trans hmethM'
  obtain ⟨c2, r2, m2, q1, q2, q3, q4, kP, hkP, hkPi⟩ := Cond.selects_spec (hts _ f3)
  obtain ⟨cellB, hcB, hoB, hclB⟩ := va_recv hK hP hc he
  cases hclB.symm.trans q1
  cases (State.methodFound?_of_named hnamed ⟨fy1, fy2⟩).symm.trans q2
  cases hnamed.symm.trans q3
  intro T hT0 X
  have hselP : selectMethod e.platform s.vm cellB.cls mk = .method mk := by rw [Launch.admits_selectMethod X.admits]; exact q4
  have hlen : ∀ sig, parseMethodDescriptor y.desc = some sig → As.length = sig.parameters.length := fun sig h => by
    rw [h] at flen
    rw [hn]
    exact (Option.some.inj flen).symm
  obtain ⟨vm₁, X₁, hstep₁⟩ := X.invokevirtual hx hown (hts _ h1) hnamed hmethM hstM hkP hkPi ⟨fy1, fy2⟩ (a := b) (cell := cellB) (by rw [hT0]; exact hcB)
    (fun z h => by rw [h] at hoB; cases hoB) hselP hmethM habM hkP hkPi (g := F0 m pc ls st0) rfl (argsL := As) (rest := rest) (hlen _ hsigM) hst (by rw [hb]; exact hdg)
  have hWm : s.WarmedH vm₁ := X₁.warmed
  have hws := pay_in hts (z_good f5)
  have hpre : va_Pc (.ref b :: As) (zPreY G K wc H.size) (Value.ref b :: As).toArray (T.setVm vm₁) := by
    refine ⟨rfl, ⟨?_, ?_, ?_, ?_⟩, ?_⟩
    · show T.heap.size = H.size
      rw [hT0]
    · show va_P G vwCl wc T.heap
      rw [hT0]; exact hPc
    · exact va_K.moved hWm.alike hK
    · exact hDc.weaken (fun _ _ _ _ => trivial)
    · show zTH (va_A wc H.size) (T.setVm vm₁) T.heap
      rw [hT0]; exact zTH.moved hWm.alike hT1
  rcases zy_call X₁ hM (g := F0 m pc ls rest) rfl (hsize.trans hml.symm) (ig := .invokevirtual index) (len := 3) (by rw [hb]; exact hdg) (lv_room hW) (X₁.named hnamed) (bytes := bytes) (maxL := maxL) (ret := ret)
    (atoms_intro fun w hw => hws w hw _ _ hWm) (hws _ List.mem_cons_self _ _ hWm) (hws _ (List.mem_cons_of_mem _ f4) _ _ hWm) hR.1 hR.2 hroom.1 hroom.2 (zPreY_blind _ _ _ _ hpre) with ⟨v, t, T', L, X', hL, e1, hq, st⟩ | ⟨E, q, ce, t, T', L, X', hL, e1, ⟨u, hu, ⟨hP1, hD1⟩, hF⟩, hce, hcv, hcl, st⟩
  · obtain ⟨t2, a1, b1⟩ := kk v ((T.setVm vm₁).calling (F0 m pc ls rest) mk (Value.ref b :: As).toArray) t L hT0 hq hL T' e1 X'
    exact ⟨t2, hstep₁ _ fun acts => by rw [doInvoke_state]; exact st.trans a1, b1⟩
  · have hz : H.size ≤ t.heap.size := by
      have h9 : T.heap.size ≤ t.heap.size := hF.1
      rw [hT0] at h9; exact h9
    have hk : ∀ q : Nat, q < H.size → ¬ va_A wc H.size q → t.heap[q]? = H[q]? := fun q hq hA9 => by
      have h9 : t.heap[q]? = T.heap[q]? := hF.2 q (by show q < T.heap.size; rw [hT0]; exact hq) hA9
      rw [h9, hT0]
    obtain ⟨hP2, hD2⟩ := va_join hP hD isC isR hC hRr hnR hdis hk hFc hP1 hD1
    have hS2 : va_S A s.heap t.heap (locs ++ L) := ⟨Nat.le_trans hS.1 hz, fun q h1 h2 => by
        rw [hk q (Nat.lt_of_lt_of_le h1 hS.1) (fun z => h2 (hFc q z))]; exact hS.2.1 q h1 h2, fun q hq => by
        rcases List.mem_append.mp hq with h | h
        · exact hS.2.2 q h
        · exact hFc _ (hL q h)⟩
    have hcl' : s.vm.findClass E = some ce.cls := by
      have h9 : vm₁.findClass E = some ce.cls := hcl
      rw [hWm.alike.findClass] at h9
      exact h9
    obtain ⟨t2, a1, b1⟩ := kx E ce q u t.heap (locs ++ L) hu ⟨hP2, hD2, hS2⟩ hce hcv hcl' T' e1 X'
    exact ⟨t2, hstep₁ _ fun acts => by rw [doInvoke_state]; exact st.trans a1, b1⟩
/-- behind a return: the rest of the world, and what came back -/
theorem z_back {w1' : va_W} (hw : zW G A s.heap ws H locs) (hA : ∀ q, s.heap.size ≤ q → A q) (isC isR : List Nat) (hC : isC.map (fun i => ws[i]?) = wc.map some) (hR : isR.map (fun i => ws[i]?) = wr.map some) (hn : va_nd isR = true) (hdis : ∀ i ∈ isR, i ∉ isC) {st t : State} {L : List Loc} (h0 : st.heap = H) (hL : ∀ z ∈ L, va_A wc H.size z.base) (hB : zPost G K (va_A wc H.size) w1' t) (hF : va_F (va_A wc H.size) st t) : zW G A s.heap (wr ++ w1') t.heap (locs ++ L) := by
  obtain ⟨hP, hD, hS⟩ := hw
  have hFc := va_free (wc := wc) hD hS hA isC hC
  have hz : H.size ≤ t.heap.size := by
    have h9 := hF.1
    rw [h0] at h9; exact h9
  have hk : ∀ q : Nat, q < H.size → ¬ va_A wc H.size q → t.heap[q]? = H[q]? := fun q hq hA9 => by
    rw [← h0] at hq ⊢
    exact hF.2 q hq hA9
  obtain ⟨hP2, hD2⟩ := va_join hP hD isC isR hC hR hn hdis hk hFc hB.1 hB.2
  exact ⟨hP2, hD2, Nat.le_trans hS.1 hz, fun q h1 h2 => by
    rw [hk q (Nat.lt_of_lt_of_le h1 hS.1) (fun z => h2 (hFc q z))]; exact hS.2.1 q h1 h2, fun q hq => by
    rcases List.mem_append.mp hq with h | h
    · exact hS.2.2 q h
    · exact hFc _ (hL q h)⟩
/-- it goes on to the caller -/
theorem z_yout {S : Type} {E : String} {px : String → S → Prop} {w1 : S → va_W} {Qc : Array Value → State → Outcome → State → Prop} {ce : Cell} {q : Addr} (u : S) (hnt : ∀ x ∈ c.exceptionTable.toList, False) (hlocks : meth.locks = false) (hcell : H[q]? = some ce) (hv : ce.vm = .none) (hcl : s.vm.findClass E = some ce.cls) (hw : zW G A s.heap ws H locs) (is : List Nat) (hi : is.map (fun i => ws[i]?) = (w1 u).map some) (hn : va_nd is = true) (hu : px E u) (hc : cells ≤ mc) (hs : slots ≤ ms) :
    zxW p l e R s m args below meth c H locs cells slots (zyMQ below Qc (zYC px w1 G K A) args s mc ms A) (F0 m pc ls rest) q := by
  obtain ⟨hP, hD, hS⟩ := hw
  intro T hT X
  obtain ⟨st1, hrun, hend, hW, hsm⟩ := X.leaveThrown q (g := F0 m pc ls rest) rfl rfl rfl (fun x hx => (hnt x hx).elim) hlocks
  have hheap : (T.setFrames (.throwing q :: below)).heap = H := hT
  refine ⟨_, st1, .threw q, hrun, hend, Or.inr ⟨E, q, ce, locs, rfl, ⟨u, hu, ⟨?_, hD.sub is hn hi⟩, ?_⟩, ?_, hv, hcl, hW, hsm.mono hc hs, hS.2.2⟩⟩
  · rw [hheap]; exact hP.sub is (z_map_fm hi)
  · exact hS.F hheap
  · rw [hheap]; exact hcell
/-- a body that returns or throws, of a method without a table -/
theorem zMetY {y : MethodName} {wt : List Cond} {rm : Room} {av : List Value} {W0 : va_W} {sz : Nat} {Qf : (Nat → Prop) → Array Value → State → Outcome → State → Prop} {Xf : (Nat → Prop) → String → State → State → Prop} {maxL : Nat} {ret : Option FieldType}
    (hy : plainName y.cls = true) (hav : (lg_sl av).length ≤ maxL)
    (body : ∀ (p : Program) (e : Env) (s : State) (m : MethodId) (below : List Frame) (meth : Method) (c : Code) (ls : Array Slot) (A : Nat → Prop), p.tables.exec = Jvm.exec → c.code = cc → meth.sig.returnType = ret → c.maxLocals = maxL → (∀ w ∈ wt, w.before av.toArray s = true) → s.vm.findClass y.cls = some m.cls → meth.locks = false → meth.name = y.name → (∀ q, s.heap.size ≤ q → A q) → va_K G vwCl (zK K) s → ∀ (H : Heap) (locs : List Loc), zW G A s.heap W0 H locs → H.size = sz → lv_has ls maxL (lv_args 0 av) → zTH A s s.heap → (∀ x ∈ c.exceptionTable.toList, False) →
      W p l e rm s m av.toArray below meth c H locs 0 0 (zyMQ below (Qf A) (Xf A) av.toArray s mc ms A) (F0 m 0 ls [])) :
    zyMet l y (Cond.code y cc maxL ret :: wt) rm (va_Pc av (zPreY G K W0 sz)) (Qf (va_A W0 sz)) (Xf (va_A W0 sz)) mc ms (va_A W0 sz) := by
  refine MetFree.of_bodyS (code := cc) (maxLocals := maxL) (ret := ret) hy ?_ ?_
  · intro args s m h hn
    obtain ⟨meth, c, h1, h2, h3, h4, h5, h6, -, -⟩ := Cond.code_spec hn (atoms_spec (ws := Cond.code y cc maxL ret :: wt) h _ List.mem_cons_self)
    exact ⟨meth, c, h1, h2, h3, h4, h5, h6⟩
  · intro p e s m args below meth c s₁ B hml hv _
    obtain ⟨rfl, ⟨hsz, hP, hK, hD0⟩, hT⟩ := hv
    have hh0 : s₁.heap = s.heap := by rw [B.state]; rfl
    have hts := atoms_spec (ws := Cond.code y cc maxL ret :: wt) B.pre
    have hnt : ∀ x ∈ c.exceptionTable.toList, False := by
      obtain ⟨meth9, c9, h1, h2, -, -, -, -, h7, -⟩ := Cond.code_spec B.named (hts _ List.mem_cons_self)
      cases Option.some.inj (h1.symm.trans B.method)
      cases Option.some.inj (h2.symm.trans (Stand.of_body B).code)
      intro x hx
      rw [Array.isEmpty_iff.mp h7] at hx
      cases hx
    have hl := lv_entry av (n := maxL) hav
    have hA : ∀ q, s.heap.size ≤ q → va_A W0 sz q := fun q h => Or.inr (by rw [← hsz]; exact h)
    have key := body p e s m below meth c _ (va_A W0 sz) B.exec B.bytes B.returns hml (fun w h => hts w (List.mem_cons_of_mem _ h)) (findClass_of_methodNamed B.named) B.notSynchronized (name_of_methodNamed B.named B.method).1 hA hK s.heap [] ⟨hP, hD0.self, va_S.rf⟩ hsz hl hT hnt
    rw [← lg_entry_eq] at key
    obtain ⟨t, a1, o, b1, b2, b3⟩ := key s₁ hh0 (Stand.of_body B)
    exact ⟨t, o, a1, b1, b2, b3⟩
/-- a walk seen from its present heap: as if its method were entered here, nothing written yet -/
theorem zy_anew {T : State} (X : Stand p l e R s m args below meth c T locs cells slots) {R' : Room} (hf : R'.frames ≤ R.frames) (hl : R'.locals ≤ R.locals) (hc : cells + R'.cells ≤ R.cells) (hs : slots + R'.slots ≤ R.slots) :
    Stand p l e R' ((T.setVm s.vm).setFrames (.invoking m args :: below)) m args below meth c T [] 0 0 := by
  have htop : (T.setVm s.vm).topJava?.isSome := X.here.top
  have hcur : (T.setVm s.vm).cur < (T.setVm s.vm).threads.size := State.cur_lt_of_top htop
  have hF := State.frames_setFrames (s := T.setVm s.vm) (.invoking m args :: below) hcur
  obtain ⟨g₀, hg0⟩ := Option.isSome_iff_exists.mp htop
  obtain ⟨r, hr⟩ := State.topJava?_eq_some.mp hg0
  have hroom : ((T.setVm s.vm).setFrames (.invoking m args :: below)).hasRoom e.platform R' = true := by
    have h := X.room
    have hin : ((T.setVm s.vm).setFrames (.invoking m args :: below)).localsInUse = s.localsInUse := by
      rw [State.localsInUse_invoking hF (meth := meth) (c := c) X.method X.code, State.localsInUse_invoking X.frames X.method X.code]
    have hlim : e.platform.stackLimits (T.setVm s.vm).me = e.platform.stackLimits s.me := X.limits
    have hbyt : (T.setVm s.vm).me.stackBytes = s.me.stackBytes := X.bytes
    have hz := X.heapSize
    have hu := X.used
    simp only [State.hasRoom, Bool.and_eq_true, decide_eq_true_eq] at h ⊢
    obtain ⟨⟨⟨⟨k1, k2, k3, k4, k5, k6⟩, k7⟩, k8⟩, k9⟩ := h
    rw [X.frames, List.length_cons] at k2 k3
    simp only [hF, hin, List.length_cons, State.stackLimits_setFrames, State.stackBytes_setFrames, hlim, hbyt]
    refine ⟨⟨⟨⟨by omega, by omega, by omega, by omega, by omega, k6⟩, ?_⟩, ?_⟩, X.book⟩
    · show T.heap.size + R'.cells ≤ e.platform.maxCells
      omega
    · show T.slotsUsed + R'.slots ≤ e.platform.maxSlots
      omega
  have hnil : T.heap.toList.drop T.heap.size = [] := List.drop_eq_nil_of_le (Nat.le_of_eq Array.length_toList)
  refine ⟨X.admits, X.cas, X.clock, hF, hroom, X.hears, X.method, X.code, X.here, X.tail, X.warmed, by rw [State.stackLimits_setFrames]; rfl, by rw [State.stackBytes_setFrames]; rfl, ?_, Nat.le_refl _, Nat.le_refl _, ?_, ?_, fun a c9 h9 => ⟨c9, h9, rfl, rfl, fun _ _ => rfl⟩⟩
  · obtain ⟨t, ht, -⟩ := State.frames_cons hr
    show T.setVm s.vm = { ((T.setVm s.vm).setFrames (.invoking m args :: below)).setFrames (T.setVm s.vm).frames with heap := T.heap, slotsUsed := T.slotsUsed }
    rw [State.setFrames_setFrames, State.setFrames_self ht]
    rfl
  · show T.slotsUsed = T.slotsUsed + ((T.heap.toList.drop T.heap.size).map (·.slots.size)).sum
    rw [hnil]
    rfl
  · show ((T.heap.toList.drop T.heap.size).map (·.slots.size)).sum ≤ 0
    rw [hnil]
    exact Nat.le_refl _
/-- 'throw new E()', the world kept -/
theorem z_ythrow {S : Type} {px : String → S → Prop} {w1 : S → va_W} {Qc : Array Value → State → Outcome → State → Prop} {own cls : String} {names : List String} {ik ic : Nat} (u : S) (hexec : p.tables.exec = Jvm.exec) (hb : c.code = cc) (hl : l.stackTraces = false) (hts : ∀ w ∈ zTB, w.before args s = true) (hown : s.vm.findClass own = some m.cls) (hnt : ∀ x ∈ c.exceptionTable.toList, False) (hlocks : meth.locks = false) (hT : zTH A s s.heap) (hsize : ls.size = c.maxLocals) (hcls : Bundle.fit cls = true) (hnames : ∀ n ∈ names, Bundle.fit n = true)
    (hk : Cond.classLink own ik cls ∈ zTB) (hini : Cond.initialized cls ∈ zTB) (hins : Cond.instantiable cls 6 ∈ zTB)
    (hat : ∀ w ∈ Bundle.ownAtoms0 own ic cls names, w ∈ zTB ∨ w = .isRef (.static Bundle.tN "UNASSIGNED_STACK" Bundle.steD) ∨ w = .isRef (.static Bundle.tN "SUPPRESSED_SENTINEL" Bundle.listD) ∨ w = .laysStatic Bundle.tN "UNASSIGNED_STACK" Bundle.steD ∨ w = .laysStatic Bundle.tN "SUPPRESSED_SENTINEL" Bundle.listD ∨ w ∈ zDC)
    (hw : zW G A s.heap ws H locs) (is : List Nat) (hi : is.map (fun i => ws[i]?) = (w1 u).map some) (hn : va_nd is = true) (hu : px cls u)
    (d0 : decode cc pc = .ok (.new ik, 3)) (d3 : decode cc (pc + 3) = .ok (.dup, 1)) (d4 : decode cc (pc + 4) = .ok (.invokespecial ic, 3)) (d7 : decode cc (pc + 7) = .ok (.athrow, 1))
    (hRframes : names.length + 3 < R.frames) (hRlocals : (rest.map fun v => v.category).sum + (13 * (names.length + 1) + 42) ≤ R.locals) (hRcells : cells + 1 ≤ R.cells) (hRslots : slots + 6 ≤ R.slots) (hc : cells + 1 ≤ mc) (hs : slots + 6 ≤ ms) :
    W p l e R s m args below meth c H locs cells slots (zyMQ below Qc (zYC px w1 G K A) args s mc ms A) (F0 m pc ls rest) := by
  obtain ⟨hP, hD, hS⟩ := hw
  intro T hT0 X
  have htr : e.platform.stackTraces = false := (show e.platform.stackTraces = l.stackTraces by rw [X.admits.platform]).trans hl
  have Y := zy_anew X (R' := { frames := R.frames, locals := R.locals, cells := 1, slots := 6 }) (Nat.le_refl _) (Nat.le_refl _) hRcells hRslots
  obtain ⟨s', hs'⟩ : ∃ z, z = (T.setVm s.vm).setFrames (.invoking m args :: below) := ⟨_, rfl⟩
  rw [← hs'] at Y
  have hvm : s'.vm = s.vm := by rw [hs']; rfl
  have hhp : s'.heap = H := by rw [hs']; exact hT0
  have hal : s.vm.Alike s'.vm := by rw [hvm]; exact Vm.Alike.refl s.vm
  have hT1 : zTh A s' s'.heap := by rw [hhp]; exact zTh.moved hal (hT.1.kept hS.2.1)
  have hW0 : s.WarmedH s'.vm := by rw [hvm]; exact State.WarmedH.refl s
  have hts' : ∀ w ∈ zTB, w.before args s' = true := fun w hw => word_at hW0 (zTB_good _ hw) (hts w hw)
  have hwords : ∀ w ∈ Bundle.ownAtoms0 own ic cls names, w.before args s' = true := fun w hw9 => by
    rcases hat w hw9 with h | h | h | h | h | h
    · exact hts' _ h
    · rw [h]; exact hT1.1.isRef
    · rw [h]; exact hT1.2.1.isRef
    · rw [h]; exact hT1.1.lays
    · rw [h]; exact hT1.2.1.lays
    · exact zDC_moved (Vm.Alike.refl s'.vm) hT1.2.2 w h
  have hown' : s'.vm.findClass own = some m.cls := by rw [hvm]; exact hown
  obtain ⟨vm₁, cX, kX, hfX, hkX, -, -, X₁, st1⟩ := Y.newCold hexec (own := own) (C := cls) (index := ik) (n := 6) hown' (hts' _ hk) (hts' _ hins) (hts' _ hini) (g := F0 m pc ls rest) rfl (by rw [hb]; exact d0) (Nat.le_refl _) (Nat.le_refl _)
  generalize hT9 : (T.setVm vm₁).pushCell { cls := cX, slots := kX.instanceTypes.map defaultValue, vm := .none } = T1 at X₁ st1
  have hcellA : T1.heap[T.heap.size]? = some (freshCell cX kX) := by rw [← hT9]; exact State.heap_pushCell_size _ _
  have d3' : decode c.code (pc + 3) = .ok (.dup, 1) := by rw [hb]; exact d3
  have hcat : (Value.ref T.heap.size).category = 1 := rfl
  obtain ⟨U, hsteps, hrun, hend, hW, hsame, ce, hce, hO⟩ := X₁.ctorThrow0 hexec htr (own := own) (cls := cls) (names := names) (ic := ic) hown' hcls hnames hwords (fun x hx => by cases hx) hfX hkX hcellA (by rw [hhp, hT0]; exact Nat.le_refl _)
    (g := { method := m, pc := pc + 4, locals := ls, stack := .ref T.heap.size :: .ref T.heap.size :: rest, locked := none }) rfl hsize rfl rfl (rest := rest) rfl
    (by rw [hb]; exact d4) (by rw [hb]; exact d7) (fun x hx => (hnt x hx).elim) hRframes (by
      have h0 : ({ method := m, pc := pc + 4, locals := ls, stack := .ref T.heap.size :: .ref T.heap.size :: rest, locked := none } : JFrame).monitorRoom = 0 := rfl
      rw [h0]
      simp only [List.map_cons, List.sum_cons, hcat]
      omega) hlocks
  have hk9 := kept_of_same hsame (keep := fun _ => True) (fun q hq => by cases hq)
  have hU : ∀ q : Nat, q < H.size → U.heap[q]? = H[q]? := fun q hq => by
    rw [← hhp] at hq ⊢
    have h9 : s'.heap[q]? = some s'.heap[q] := Array.getElem?_eq_getElem hq
    rw [h9]
    exact hk9 q _ trivial h9
  have hsz : H.size ≤ U.heap.size := by
    have h9 : s'.heap.size ≤ U.heap.size := hsame.2.1
    rw [hhp] at h9; exact h9
  have hP1 : va_P G vwCl ws U.heap := hP.kept (fun k q hk => hU q.1 ((hP k q hk).lt))
  have hF : va_F A s U := ⟨Nat.le_trans hS.1 hsz, fun q hq hq2 => (hU q (Nat.lt_of_lt_of_le hq hS.1)).trans (hS.2.1 q hq hq2)⟩
  have hcl : s.vm.findClass cls = some ce.cls := by
    have h9 := hO.cls
    rw [hvm] at h9
    exact h9
  have hall : s.sameButNew ({ U with vm := s.vm } : State) locs mc ms := by
    subst hs'
    obtain ⟨e1, e2⟩ := hsame
    rw [State.setFrames_setFrames] at e1
    have h2 : (T.setVm s.vm).sameButNew ({ U with vm := s.vm } : State) [] (0 + 1) (0 + 6) := ⟨e1, e2⟩
    have h3 := X.same.trans h2
    rw [List.append_nil] at h3
    exact h3.mono hc hs
  refine ⟨U, ?_, .threw T.heap.size, hrun, hend, Or.inr ⟨cls, T.heap.size, ce, locs, rfl, ⟨u, hu, ⟨hP1.sub is (z_map_fm hi), hD.sub is hn hi⟩, hF⟩, hce, hO.vm, hcl, State.WarmedH.trans hW0 hW, hall, hS.2.2⟩⟩
  refine st1 _ ?_
  show Steps p.tables e below (T1.setTop { method := m, pc := pc + 3, locals := ls, stack := .ref T.heap.size :: rest, locked := none }) _
  jvm_step X₁.here [X₁.here.top, hexec, d3', Value.category]
  exact hsteps
/-- a method with a table of its own that catches -/
theorem zMetWY {y : MethodName} {wt : List Cond} {rm : Room} {av : List Value} {W0 : va_W} {sz : Nat} {Qf : (Nat → Prop) → Array Value → State → Outcome → State → Prop} {maxL : Nat} {ret : Option FieldType} {hh : List (Nat × Nat × Nat × Nat)}
    (hy : plainName y.cls = true) (hav : (lg_sl av).length ≤ maxL)
    (body : ∀ (p : Program) (e : Env) (s : State) (m : MethodId) (below : List Frame) (meth : Method) (c : Code) (ls : Array Slot) (A : Nat → Prop), p.tables.exec = Jvm.exec → c.code = cc → meth.sig.returnType = ret → c.maxLocals = maxL → (∀ w ∈ wt, w.before av.toArray s = true) → s.vm.findClass y.cls = some m.cls → meth.locks = false → meth.name = y.name → (∀ q, s.heap.size ≤ q → A q) → va_K G vwCl (zK K) s → ∀ (H : Heap) (locs : List Loc), zW G A s.heap W0 H locs → H.size = sz → lv_has ls maxL (lv_args 0 av) → zTH A s s.heap → c.exceptionTable.toList = tableOf hh →
      W p l e rm s m av.toArray below meth c H locs 0 0 (MQ below (Qf A) av.toArray s mc ms A) (F0 m 0 ls [])) :
    Met l y (Cond.codeWith y cc maxL ret hh :: wt) rm (va_Pc av (zPreY G K W0 sz)) (Qf (va_A W0 sz)) mc ms (va_A W0 sz) := by
  refine va_MetW (cc := cc) (maxL := maxL) (ret := ret) (hh := hh) hy rfl ?_
  intro p e s m args below meth c s₁ B hml hv
  obtain ⟨rfl, ⟨hsz, hP, hK, hD0⟩, hT⟩ := hv
  have hts := atoms_spec (ws := Cond.codeWith y cc maxL ret hh :: wt) B.pre
  have htab : c.exceptionTable.toList = tableOf hh := by
    obtain ⟨m9, meth9, c9, hn9, h1, h2, -, -, h6, -⟩ := Cond.codeWith_spec (hts _ List.mem_cons_self)
    cases Option.some.inj (hn9.symm.trans B.named)
    cases Option.some.inj (h1.symm.trans B.method)
    cases Option.some.inj (h2.symm.trans (Stand.of_body B).code)
    rw [← h6, table_eq]
  have hl := lv_entry av (n := maxL) hav
  rw [lg_entry_eq]
  generalize (lg_sl av ++ List.replicate (maxL - (lg_sl av).length) Slot.unset).toArray = ls at hl ⊢
  refine body p e s m below meth c ls _ B.exec B.bytes B.returns hml (fun w h => hts w (List.mem_cons_of_mem _ h)) (findClass_of_methodNamed B.named) B.notSynchronized (name_of_methodNamed B.named B.method).1 ?_ hK s.heap [] ⟨hP, hD0.self, va_S.rf⟩ hsz hl hT htab
  intro q h
  exact Or.inr (by rw [← hsz]; exact h)
theorem z_passed {own E : String} {k : ClassId} {y : ExceptionTableEntry} (hown : s.vm.findClass own = some m.cls) (hts : ∀ w ∈ zTB, w.before args s = true) (hpl : e.platform.magicAccessors = ({} : Platform).magicAccessors) (hcl : s.vm.findClass E = some k) (h : y.catchType ≠ 0 ∧ ∃ B, Cond.classLink own y.catchType B ∈ zTB ∧ zNA E B s) : RowPassed e.platform s m.cls pc k y := by
  obtain ⟨h0, B, hl, c1, d1, h1, h2, h3⟩ := h
  obtain ⟨c5, hc5, hcl5⟩ := Cond.classLink_spec hown (hts _ hl) e.platform hpl
  cases Option.some.inj (h1.symm.trans hcl)
  cases Option.some.inj (h2.symm.trans hc5)
  exact Or.inr ⟨h0, _, hcl5, h3⟩
/-- caught by a row of this method's table that names the very class, behind rows that name others -/
theorem z_catchP {own E : String} {ce : Cell} {q : Addr} (hown : s.vm.findClass own = some m.cls) (hts : ∀ w ∈ zTB, w.before args s = true) (pre : List ExceptionTableEntry) (x : ExceptionTableEntry) (suf : List ExceptionTableEntry) (htab : c.exceptionTable.toList = pre ++ x :: suf) (hpre : ∀ y ∈ pre, y.catchType ≠ 0 ∧ ∃ B, Cond.classLink own y.catchType B ∈ zTB ∧ zNA E B s) (hx : covers x pc = true) (h0 : x.catchType ≠ 0) (hlink : Cond.classLink own x.catchType E ∈ zTB) (hT : zTh A s s.heap) (hcast : Cond.castable E E ∈ zDC) (hcell : H[q]? = some ce) (hv : ce.vm = .none) (hcl : s.vm.findClass E = some ce.cls)
    (kk : W p l e R s m args below meth c H locs cells slots Q (F0 m x.handlerPc ls [.ref q])) : zxW p l e R s m args below meth c H locs cells slots Q (F0 m pc ls rest) q := by
  intro T hT0 X
  have hpl : e.platform.magicAccessors = ({} : Platform).magicAccessors := by rw [X.admits.platform]
  obtain ⟨c3, c4, hc3, hc4, hasg⟩ := Cond.castable_spec (hT.2.2 _ hcast)
  obtain ⟨c5, hc5, hcl5⟩ := Cond.classLink_spec hown (hts _ hlink) e.platform hpl
  cases Option.some.inj (hc3.symm.trans hcl)
  cases Option.some.inj (hc4.symm.trans hc5)
  obtain ⟨vm', X', st⟩ := X.thenCaughtThrough q (g := F0 m pc ls rest) rfl (Steps.refl _) (by rw [hT0]; exact hcell) (by rw [hv]; rfl) (by obtain ⟨k9, h9, -⟩ := Vm.findClass_spec hcl; exact ⟨k9, h9⟩) pre x suf htab (fun z hz => z_passed hown hts hpl hcl (hpre z hz)) hx (Or.inr ⟨h0, _, hcl5, hasg⟩)
  obtain ⟨t, a1, b1⟩ := kk (T.setVm vm') hT0 X'
  exact ⟨t, st.trans a1, b1⟩
/-- a call of a static method that has a table of its own -/
theorem z_runSWY {y : MethodName} {bytes : ByteArray} {maxL n index nL : Nat} {ret : Option FieldType} {hh : List (Nat × Nat × Nat × Nat)} {own : String} {rm : Room} {Qc : Array Value → State → Outcome → State → Prop} {free : Addr → Prop} {As : List Value}
    (S : CallFix p m c cc nL s args zTB own) (hM : Met l y (Cond.codeWith y bytes maxL ret hh :: zTB) rm (va_Pc As (zPreY G K wc H.size)) Qc rm.cells rm.slots free) (hf : zFaceSW y bytes maxL ret hh n) (h1 : Cond.methodLink own index y ∈ zTB) (hR : rm.frames + 1 ≤ R.frames ∧ 8 + (maxL + 11) + rm.locals ≤ R.locals)
    (hK : va_K G vwCl (zK K) s) (hT : zTH A s s.heap) (hw : zW G A s.heap ws H locs) (hA : ∀ q, s.heap.size ≤ q → A q) (is : List Nat) (hi : is.map (fun i => ws[i]?) = wc.map some) (hnd : va_nd is = true) (hn : As.length = n) (hsize : ls.size = nL) (hst : st0 = As.reverse ++ rest) (hW : (rest.map fun v => v.category).sum ≤ 8) (hdg : decode cc pc = .ok (.invokestatic index, 3)) (hroom : cells + rm.cells ≤ R.cells ∧ slots + rm.slots ≤ R.slots) :
    va_Run p l e R s m args below meth c H locs cells slots rm.cells rm.slots (F0 m pc ls st0) rest (Qc As.toArray) free := by
  obtain ⟨hP, hD, hS⟩ := hw
  have hPc := hP.sub is (z_map_fm hi)
  have hDc := hD.sub is hnd hi
  have hFc := va_free (wc := wc) hD hS hA is hi
  have hT1 : zTH (va_A wc H.size) s H := (hT.kept hS.2.1).narrow hFc
  obtain ⟨hx, hb, hml, hown, hts⟩ := S
  obtain ⟨f1, f2, f3, fy1, fy2, flen⟩ := hf
  have hws := pay_in hts (z_good f3)
  have hBk : Back l R p e below s args y 3 8 (PreOf R rm.cells rm.slots (va_Pc As (zPreY G K wc H.size))) (PostOf Qc rm.cells rm.slots free) := va_backW (hh := hh) (bytes := bytes) (maxL := maxL) (ret := ret) hM zPreY_blind rfl rfl hR.1 hR.2 hws List.mem_cons_self (fun a' U hW => hws _ (List.mem_cons_of_mem _ f2) a' U hW)
  obtain ⟨mk, methM, cM, hnamed, hmethM, -, -, -, -, -, -, hsigM⟩ := Cond.codeWith_spec (hts _ f3)
  have hstatic : methM.isStatic = true := Cond.static_spec hnamed hmethM (hts _ f1)
  obtain ⟨kP, hkP, -⟩ := className_of_methodNamed hnamed
  have hinitP : kP.init = .initialized := Cond.initialized_spec (findClass_of_methodNamed hnamed) hkP (hts _ f2)
  have hlen : ∀ sig, parseMethodDescriptor y.desc = some sig → As.length = sig.parameters.length := fun sig h => by
    rw [h] at flen
    rw [hn]
    exact (Option.some.inj flen).symm
  intro T hT0 X
  obtain ⟨vm₁, X₁, hstep₁⟩ := X.invokestatic hx hown (hts _ h1) hnamed hmethM hstatic hkP hinitP ⟨fy1, fy2⟩ (g := F0 m pc ls st0) rfl (argsL := As) (rest := rest) (hlen _ hsigM) hst (by rw [hb]; exact hdg)
  have hWm : s.WarmedH vm₁ := X₁.warmed
  have hpre : va_Pc As (zPreY G K wc H.size) As.toArray (T.setVm vm₁) := by
    refine ⟨rfl, ⟨?_, ?_, ?_, ?_⟩, ?_⟩
    · show T.heap.size = H.size
      rw [hT0]
    · show va_P G vwCl wc T.heap
      rw [hT0]; exact hPc
    · exact va_K.moved hWm.alike hK
    · exact hDc.weaken (fun _ _ _ _ => trivial)
    · show zTH (va_A wc H.size) (T.setVm vm₁) T.heap
      rw [hT0]; exact zTH.moved hWm.alike hT1
  obtain ⟨v, ⟨U', l2, c2, s2⟩, X', ⟨g', mk', t, L, e1, e2, hq, h8, hL, h9, h10⟩, st⟩ := hBk m meth c ⟨T.setVm vm₁, locs, cells, slots⟩ (F0 m pc ls rest) (.invokestatic index) mk As.toArray X₁ rfl (hsize.trans hml.symm) (by rw [hb]; exact hdg) (lv_room hW) (X₁.named hnamed) ⟨hroom.1, hroom.2, hpre⟩
  dsimp only [Pt.U, Pt.locs, Pt.cells, Pt.slots] at X' e1 e2 h8 h9 h10 st
  subst h8; subst h9; subst h10
  exact ⟨v, (T.setVm vm₁).calling g' mk' As.toArray, t, U', L, hT0, X', hL, e1, e2, hq, fun target h => hstep₁ _ fun acts => by rw [doInvoke_state]; exact st.trans h⟩
end ZY
