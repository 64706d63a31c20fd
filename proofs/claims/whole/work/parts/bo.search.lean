/-! The class searches from a spot. -/
section ZQ7
variable {I : Nat → Int32} {J : Nat → Int64} {B : Nat → Nat → Int32} {D : Nat → Nat → Int64}
def svx (ord ix : Nat → Nat) : Nat → Nat
  | 0 => 0
  | n + 1 => svx ord ix n + (if ord n = 0 then 0 else ix n)
def smx (f : Nat → Nat) : Nat → Nat
  | 0 => 0
  | n + 1 => smx f n + f n
theorem svx_le {ord ix f : Nat → Nat} (h : ∀ v, ¬ ord v = 0 → ix v ≤ f v) : ∀ n, svx ord ix n ≤ smx f n := by
  intro n
  induction n with
  | zero => exact Nat.le_refl _
  | succ n ih =>
    show svx ord ix n + (if ord n = 0 then 0 else ix n) ≤ smx f n + f n
    by_cases e : ord n = 0
    · rw [if_pos e]; omega
    · rw [if_neg e]; have := h n e; omega
theorem svx_cg {ord ix ord' ix' : Nat → Nat} : ∀ n, (∀ v, v < n → (if ord' v = 0 then 0 else ix' v) = (if ord v = 0 then 0 else ix v)) → svx ord' ix' n = svx ord ix n := by
  intro n
  induction n with
  | zero => intro _; rfl
  | succ n ih => intro h; show svx ord' ix' n + (if ord' n = 0 then 0 else ix' n) = svx ord ix n + (if ord n = 0 then 0 else ix n); rw [ih (fun v hv => h v (by omega)), h n (by omega)]
theorem svx_in {ord ix : Nat → Nat} {v : Nat} (hv : ¬ ord v = 0) : ∀ n, v < n → svx ord (upn ix v (ix v + 1)) n = svx ord ix n + 1 := by
  intro n
  induction n with
  | zero => intro h; omega
  | succ n ih =>
    intro h
    show svx ord (upn ix v (ix v + 1)) n + (if ord n = 0 then 0 else upn ix v (ix v + 1) n) = svx ord ix n + (if ord n = 0 then 0 else ix n) + 1
    by_cases e : v = n
    · subst e
      rw [upn_at, if_neg hv, if_neg hv, svx_cg v (fun w hw => by rw [upn_ne (by omega)])]; omega
    · rw [ih (by omega), upn_ne (fun w => e w.symm)]; omega
theorem svx_en {ord ix : Nat → Nat} {u c : Nat} (hu : ord u = 0) (n : Nat) : svx (upn ord u (c + 1)) (upn ix u 0) n = svx ord ix n := by
  refine svx_cg n (fun v _ => ?_)
  by_cases e : v = u
  · subst e; rw [upn_at, upn_at, if_neg (by omega), if_pos hu]
  · rw [upn_ne e, upn_ne e]
theorem smx_cg {f g : Nat → Nat} : ∀ n, (∀ v, v < n → f v = g v) → smx f n = smx g n := by
  intro n
  induction n with
  | zero => intro _; rfl
  | succ n ih => intro h; show smx f n + f n = smx g n + g n; rw [ih (fun v hv => h v (by omega)), h n (by omega)]
theorem smx_dg (X : zG) : ∀ n, smx (dgX X) (8 * n) = 8 * cl (gT X) n (gM X) := by
  intro n
  induction n with
  | zero => show (0 : Nat) = _; rw [cl_0]
  | succ n ih =>
    have e : ∀ k, k < 8 → dgX X (8 * n + k) = ce (gT X) n (gM X) := fun k hk => by
      unfold dgX
      rw [show (8 * n + k) / 8 = n by omega, cl_s]; omega
    show smx (dgX X) (8 * n) + dgX X (8 * n) + dgX X (8 * n + 1) + dgX X (8 * n + 2) + dgX X (8 * n + 3) + dgX X (8 * n + 4) + dgX X (8 * n + 5) + dgX X (8 * n + 6) + dgX X (8 * n + 7) = _
    rw [ih, show dgX X (8 * n) = ce (gT X) n (gM X) from e 0 (by omega), e 1 (by omega), e 2 (by omega), e 3 (by omega), e 4 (by omega), e 5 (by omega), e 6 (by omega), e 7 (by omega), cl_s]; omega
/-- all that the search keeps -/
def SIx (d : zD) (X : zG) (out : List zIt) (ord low ix : Nat → Nat) (opn pth : List Nat) (cnt : Nat) (mq : List Nat) (I : Nat → Int32) (B : Nat → Nat → Int32) : Prop := TJ (dgX X) (nbX d X out) ord low ix opn pth cnt ∧ TC (8 * gN X) X ord low ix opn pth cnt mq I B ∧ GM d X out ord opn mq ∧ (∀ v, ¬ ord v = 0 → ix v ≤ dgX X v) ∧ (∀ v, ¬ ord v = 0 → v % 8 < 2 ^ ntm out)
theorem TJ_open {dg : Nat → Nat} {nb : Nat → Nat → Nat} {ord low ix : Nat → Nat} {opn : List Nat} {cnt : Nat} (h : TJ dg nb ord low ix opn [] cnt) : opn = [] := by
  match opn, h with
  | [], _ => rfl
  | x :: l, h =>
    obtain ⟨p, hp, _⟩ := h.2.2.2.2.2.2.2.2.2.1 x (List.mem_cons_self ..) (by simp)
    simp at hp
theorem q_searchLoop {Post : (Nat → Int32) → (Nat → Int64) → (Nat → Nat → Int32) → (Nat → Nat → Int64) → Prop} {d : zD} {Q : zQ} {X : zG} {out : List zIt} {a0 : Int32} (hF : XF X (gN X)) {I0 : Nat → Int32} {B0 : Nat → Nat → Int32} {ord0 : Nat → Nat} (hR0 : SR d Q X out I0 B0)
    (h : ∀ ord low ix cnt mq I' B', SIx d X out ord low ix [] [] cnt mq I' B' → (∀ w, ¬ ord0 w = 0 → ¬ ord w = 0) → FS I0 B0 I' B' → Post I' J B' D) :
    ∀ m i ord low ix opn pth cnt mq I B, i + m = 4000 → SIx d X out ord low ix opn pth cnt mq I B → (∀ w, ¬ ord0 w = 0 → ¬ ord w = 0) → FS I0 B0 I B → i + pth.length ≤ svx ord ix (8 * gN X) + cnt → wl_LassoSearch_searchFrom_12 a0 Post (m + 1) (nI i) I J B D := by
  have x1 := hR0.1.1
  have x2 := hR0.1.2.1
  have h3 := hR0.2.1
  have hbnd : ∀ (ord ix : Nat → Nat), (∀ v, ¬ ord v = 0 → ix v ≤ dgX X v) → svx ord ix (8 * gN X) ≤ 3200 := fun ord ix hx => by
    have := svx_le hx (8 * gN X)
    rw [smx_dg] at this
    have := cl_le (gT X) (gN X) (gM X)
    omega
  intro m
  induction m with
  | zero =>
    intro i ord low ix opn pth cnt mq I B hi hS hmo hFS hle
    have := hbnd ord ix hS.2.2.2.1
    have := hS.2.1.2.2.2.1.2.2
    have := cv_le ord (8 * gN X)
    omega
  | succ m ih =>
    intro i ord low ix opn pth cnt mq I B hi hS hmo hFS hle
    have hSS := hS
    obtain ⟨hT, hC, hG, hix, hg8⟩ := hS
    have hCC := hC
    have hR := hR0.fs hFS
    obtain ⟨b50, bv, ⟨i34, i33, r55, i32, r54⟩, ⟨on, oz, ecv⟩, ⟨i35, r57, b56, hml, hm⟩⟩ := hC
    have hcn := cv_le ord (8 * gN X)
    refine ⟨fun z => ?_, fun _ => ?_⟩
    · have := (leI (x := 10000) (a := 10000) rfl (y := nI i) rfl (by omega) (by omega)).mp z; omega
    have hpl : pth.length ≤ cnt := Srt_len hT.2.2.2.2.2.2.2.2.2.2.1 (fun x hx => ⟨hT.2.2.1 x (hT.2.2.2.1 x hx), hT.1 x⟩)
    refine ⟨fun z => ?_, fun z z4 e4 => ?_⟩
    · have h0 := (leI i32 (y := 0) (b := 0) rfl (by omega) (by omega)).mp z
      have hp : pth = [] := List.eq_nil_of_length_eq_zero (by omega)
      subst hp
      have ho := TJ_open hT
      subst ho
      exact h ord low ix cnt mq I B hSS hmo hFS
    match pth, hT, hCC, i32, r54, hpl, hle, hSS with
    | [], _, _, i32, _, _, _, _ => exact absurd ((leI i32 (y := 0) (b := 0) rfl (by simp) (by omega)).mpr (by simp)) z
    | v :: rest, hT, hCC, i32, r54, hpl, hle, hSS =>
      have hTT := hT
      obtain ⟨c1, c2, c3, c4, c5, c6, c7, c8, c9, c10, c11, c12, c13⟩ := hT
      have hvo : v ∈ opn := c4 v (List.mem_cons_self ..)
      have hvN := on v hvo
      have hvz := c3 v hvo
      have hvl := (c8 v hvo).1
      have hvc := c1 v
      have hvx := c13 v (List.mem_cons_self ..)
      rw [List.length_cons] at hpl hle i32
      have n4 := deI i32 e4
      refine ⟨vin2 n4 (by omega) (by omega), fun z5 e5 z6 e6 => ?_⟩
      have e5v : z5 = nI v := by
        rw [e5, clI n4 (by omega)]
        exact rep_mid (A := []) r54
      subst e5v
      clear e5
      have vv : vp_in (nI v) 768 := vin2 rfl (by omega) (by omega)
      have cvv : (nI v).toNatClampNeg = v := clI rfl (by omega)
      rw [div8 v (by omega)] at e6
      refine ⟨vv, fun z7 e7 z8 e8 => ?_⟩
      rw [cvv, (bv v hvN hvz).2.1] at e7
      have n8 := inI e6 e8
      refine ⟨vin2 n8 (by omega) (by omega), fun z9 e9 => ?_⟩
      rw [clI n8 (by omega), hR.2.2.2.2.2.1.1 _ (by omega)] at e9
      have hcl1 := cl_le (gT X) (v / 8 + 1) (gM X)
      have hcq := cl_q (f := gT X) (show v / 8 ≤ v / 8 + 1 by omega) (gM X)
      have hdg : dgX X v = cl (gT X) (v / 8 + 1) (gM X) - cl (gT X) (v / 8) (gM X) := rfl
      have hcqv : cq X v = cl (gT X) (v / 8) (gM X) := rfl
      have q79 : z7 = z9 ↔ ix v = dgX X v := by rw [eqI e7 e9 (by omega) (by omega)]; omega
      refine ⟨fun w => ⟨vv, fun z11 e11 => ?_⟩, fun w => ?_⟩
      · have hkl : ix v < dgX X v := by
          have : ¬ ix v = dgX X v := fun y => w (q79.mpr y)
          omega
        rw [cvv, (bv v hvN hvz).2.1] at e11
        refine ⟨vin2 e11 (by omega) (by omega), fun z12 e12 z13 e13 => ?_⟩
        obtain ⟨j1, j2, j3⟩ := jx_at (dg_k.mp hkl)
        rw [← hcqv] at j1 j2 j3
        rw [clI e11 (by omega), ← j3, hR.2.2.2.2.2.1.2 _ j1] at e12
        rw [mod8 v (by omega)] at e13
        have hs := (hR.1.2.2.2.2 _ j1).1
        obtain ⟨u1, u2, u3⟩ := nb_lt (d := d) (out := out) hR.1 h3 hkl
        refine q_spotBefore e12 e13 hR hs (by omega) ?_
        have eu : 8 * gS X (jx X (cq X v + ix v)) + bef (atv d (gK X (gS X (jx X (cq X v + ix v))))) out (v % 8) = nbX d X out v (ix v) := rfl
        rw [eu]
        generalize hue : nbX d X out v (ix v) = u at u1 u2 u3
        have uu : vp_in (nI u) 768 := vin2 rfl (by omega) (by omega)
        have cuu : (nI u).toNatClampNeg = u := clI rfl (by omega)
        refine ⟨vv, fun z15 e15 z16 e16 => ⟨vv, uu, fun z17 e17 => ?_⟩⟩
        rw [cvv, (bv v hvN hvz).2.1] at e15
        have n16 : z16 = nI (cq X v + (ix v + 1)) := inI e15 e16
        rw [cuu, b50 u u1] at e17
        have huc := c1 u
        have q17 : z17 = 0 ↔ ord u = 0 := eqI e17 (b := 0) rfl (by omega) (by omega)
        rw [cvv]
        -- the rows with the next source's number
        have tcx : ∀ low1 : Nat → Nat, ∀ B1 : Nat → Nat → Int32, (∀ k, k ∉ [51, 52] → B1 k = B k) → (∀ w, w < 8 * gN X → ¬ ord w = 0 → B1 51 w = nI (low1 w)) → B1 52 = upd (B 52) v z16 → TC (8 * gN X) X ord low1 (upn ix v (ix v + 1)) opn (v :: rest) cnt mq I B1 := by
          intro low1 B1 hB h51 h52
          refine ⟨by rw [hB 50 (by decide)]; exact b50, fun w hw hwz => ⟨h51 w hw hwz, ?_, by rw [hB 53 (by decide)]; exact (bv w hw hwz).2.2⟩, ⟨i34, i33, by rw [hB 55 (by decide)]; exact r55, i32, by rw [hB 54 (by decide)]; exact r54⟩, ⟨on, oz, ecv⟩, ⟨i35, by rw [hB 57 (by decide)]; exact r57, by rw [hB 56 (by decide)]; exact b56, hml, hm⟩⟩
          rw [h52]
          by_cases e : w = v
          · subst e; rw [upn_at]; simp [upd]; exact n16
          · rw [upn_ne e]; simp [upd, e]; exact (bv w hw hwz).2.1
        have hix' : ∀ w, ¬ ord w = 0 → upn ix v (ix v + 1) w ≤ dgX X w := fun w hw => by
          by_cases e : w = v
          · subst e; rw [upn_at]; omega
          · rw [upn_ne e]; exact hix w hw
        have hsv := svx_in (ix := ix) hvz (8 * gN X) hvN
        have lo51 : ∀ w, w < 8 * gN X → ¬ ord w = 0 → B 51 w = nI (low w) := fun w hw hwz => (bv w hw hwz).1
        have fs1 : ∀ B1 : Nat → Nat → Int32, (∀ k, k ∉ [51, 52] → B1 k = B k) → FS I0 B0 I B1 := fun B1 hB => hFS.tr ⟨fun _ _ => rfl, fun k hk => hB k (by simp at hk ⊢; omega)⟩
        have lowlow : ∀ f : Nat → Nat, upn f v (f v) = f := fun f => by
          funext w
          by_cases e : w = v
          · subst e; rw [upn_at]
          · rw [upn_ne e]
        refine ⟨fun y => ⟨uu, fun z19 e19 => ?_⟩, fun y => ?_⟩
        · have huz : ¬ ord u = 0 := fun q => y (q17.mpr q)
          rw [cuu, (bv u u1 huz).2.2] at e19
          refine ⟨fun q => ?_, fun q => ⟨vv, fun z21 e21 => ⟨uu, fun z22 e22 z23 e23 => ⟨vv, ?_⟩⟩⟩⟩
          · have huo : u ∉ opn := fun g => by rw [if_pos g] at e19; rw [e19] at q; exact absurd q (by decide)
            have hT2 := T_seen hTT hkl hue huz (l' := low v) (Or.inl ⟨huo, rfl⟩)
            rw [lowlow] at hT2
            intro z1 e1
            rw [inI rfl e1]
            have hB1 : ∀ k, k ∉ [51, 52] → va_up B 52 (upd (B 52) v z16) k = B k := fun k hk => by simp at hk; simp [va_up, hk]
            exact ih (i + 1) ord low _ opn (v :: rest) cnt mq I _ (by omega) ⟨hT2, tcx low _ hB1 (by simpa [va_up] using lo51) (by simp [va_up]), hG, hix', hg8⟩ hmo (fs1 _ hB1) (by rw [hsv, List.length_cons]; omega)
          · have huo : u ∈ opn := Classical.byContradiction (fun g => q (by rw [e19, if_neg g]))
            rw [lo51 v hvN hvz] at e21
            rw [cuu, b50 u u1] at e22
            have hT2 := T_seen hTT hkl hue huz (l' := Nat.min (low v) (ord u)) (Or.inr ⟨huo, rfl⟩)
            have n23 : z23 = nI (Nat.min (low v) (ord u)) := by
              have q2 : z22 < z21 ↔ ord u < low v := ltI e22 e21 (by omega) (by omega)
              rw [e23]
              by_cases g : ord u < low v
              · rw [if_pos (q2.mpr g), e22]; congr 1; exact (Nat.min_eq_right (by omega)).symm
              · rw [if_neg (fun w => g (q2.mp w)), e21]; congr 1; exact (Nat.min_eq_left (by omega)).symm
            intro z1 e1
            rw [inI rfl e1]
            have hB1 : ∀ k, k ∉ [51, 52] → va_up (va_up B 52 (upd (B 52) v z16)) 51 (upd (B 51) v z23) k = B k := fun k hk => by simp at hk; simp [va_up, hk]
            refine ih (i + 1) ord _ _ opn (v :: rest) cnt mq I _ (by omega) ⟨hT2, tcx _ _ hB1 (fun w hw hwz => ?_) (by simp [va_up]), hG, hix', hg8⟩ hmo (fs1 _ hB1) (by rw [hsv, List.length_cons]; omega)
            by_cases e : w = v
            · subst e; rw [upn_at]; simp [va_up, upd]; exact n23
            · rw [upn_ne e]; simp [va_up, upd, e]; exact lo51 w hw hwz
        · have huz := q17.mp y
          have hB1 : ∀ k, k ∉ [51, 52] → va_up B 52 (upd (B 52) v z16) k = B k := fun k hk => by simp at hk; simp [va_up, hk]
          have hR1 : SR d Q X out I (va_up B 52 (upd (B 52) v z16)) := hR.cg (fun _ _ => rfl) (fun k hk => hB1 k (by simp at hk ⊢; omega))
          have hT2 := T_enter (u := u) (ix' := upn ix v (ix v + 1)) hTT huz (Or.inr ⟨v, rest, rfl, hkl, hue, rfl⟩)
          refine q_enterSpot hR1 hTT (tcx low _ hB1 (by simpa [va_up] using lo51) (by simp [va_up])) u1 huz (fun I' B' hC' hFS' z1 e1 => ?_)
          rw [inI rfl e1]
          refine ih (i + 1) _ _ _ (u :: opn) (u :: v :: rest) (cnt + 1) mq I' B' (by omega) ⟨hT2, hC', ⟨fun w hw hwo => ?_, hG.2⟩, fun w hw => ?_, fun w hw => ?_⟩ (fun w hw => ?_) ((fs1 _ hB1).tr hFS') ?_
          · have e : ¬ w = u := fun e => hwo (by rw [e]; exact List.mem_cons_self ..)
            rw [upn_ne e] at hw
            exact hG.1 w hw (fun g => hwo (List.mem_cons_of_mem _ g))
          · by_cases e : w = u
            · subst e; rw [upn_at]; omega
            · rw [upn_ne e] at hw ⊢; exact hix' w hw
          · by_cases e : w = u
            · subst e; exact u3
            · rw [upn_ne e] at hw; exact hg8 w hw
          · by_cases e : w = u
            · rw [e, upn_at]; omega
            · rw [upn_ne e]; exact hmo w hw
          · rw [svx_en huz, hsv, List.length_cons, List.length_cons]; omega
      · refine q_leaveSpot hR hF hTT hCC hG (q79.mp w) (fun low' opn' mq' I' B' k1 k2 k3 k4 z1 e1 => ?_)
        rw [inI rfl e1]
        exact ih (i + 1) ord low' ix opn' rest cnt mq' I' B' (by omega) ⟨k1, k2, k3, hix, hg8⟩ hmo (hFS.tr k4) (by omega)
end ZQ7
