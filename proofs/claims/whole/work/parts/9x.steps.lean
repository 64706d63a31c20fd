/-! The class adds the steps of a state. -/
section ZK4
variable {I : Nat → Int32} {J : Nat → Int64} {B : Nat → Nat → Int32} {D : Nat → Nat → Int64}
def byL (d : zD) (Q : zQ) (s b : Nat) (c : zCf) : Nat → Nat → zG → Option zG
  | 0, _, X => some X
  | m + 1, r, X => if ptn d Q c b r = true then (stG d Q X s b (some r)).bind (byL d Q s b c m (r + 1)) else byL d Q s b c m (r + 1) X
def by1 (d : zD) (Q : zQ) (X : zG) (s b : Nat) : Option zG := if anyB (ptn d Q (gK X s) b) 48 = true then byL d Q s b (gK X s) 48 0 X else stG d Q X s b none
def ofL (d : zD) (Q : zQ) (s : Nat) (c : zCf) : Nat → Nat → zG → Option zG
  | 0, _, X => some X
  | m + 1, b, X => if dob d Q c b = true then (by1 d Q X s b).bind (ofL d Q s c m (b + 1)) else ofL d Q s c m (b + 1) X
def of1 (d : zD) (Q : zQ) (X : zG) (s : Nat) : Option zG := (ofL d Q s (gK X s) 48 0 X).bind (fun X' => if gM X' = gM X then adds X' s s (-1) (-1) else some X')
theorem ptn_dn {d : zD} {Q : zQ} {c : zCf} {b r : Nat} (hW : QW d Q) (hb : b < qN Q) (h : ptn d Q c b r = true) : dn Q c b (some r) := by
  unfold ptn mtc at h
  simp only [Bool.and_eq_true, decide_eq_true_eq] at h
  exact ⟨hb, (hB_n hW h.2.2).1, h.1.1, h.2.1.1.1⟩
theorem dob_dn {d : zD} {Q : zQ} {c : zCf} {b : Nat} (hN : NC d) (hW : QW d Q) (h : dob d Q c b = true) (hp : ¬ anyB (ptn d Q c b) 48 = true) : dn Q c b none := by
  unfold dob at h
  simp only [Bool.and_eq_true] at h
  obtain ⟨p, _, hpb⟩ := anyB_iff.mp h.1
  have hb := (hB_n hW (pab_h hpb)).1
  have hcn : ¬ qK Q b = 5 → cn d Q c b = true := by
    intro g
    unfold pab at hpb
    simp only [Bool.and_eq_true] at hpb
    have := hpb.2
    split at this
    · exact this
    · simp [g] at this
  obtain ⟨w1, w2, w3, w4, w5, w6⟩ := hW.2.2.1 b hb
  refine ⟨hb, fun g => ?_, fun g => ?_⟩
  · have q := hcn (by omega)
    have := (sl_ok hN (w4 (Or.inl g))).2
    unfold cn at q
    rw [if_neg (by omega), if_neg (by omega), if_pos g] at q
    split at q
    · simp at q; omega
    · rename_i g0
      obtain ⟨r, hr, e⟩ := anyB_iff.mp q
      refine absurd (anyB_iff.mpr ⟨r, by have := hW.2.1; omega, ?_⟩) hp
      have : sl d (qC Q b) = 0 := by omega
      simp [ptn, g, this, e]
  · have q := hcn (by omega)
    unfold cn at q
    rw [if_neg (by omega), if_pos g] at q
    simpa using q
theorem byL_ok {d : zD} {Q : zQ} {s b : Nat} {c : zCf} (hW : QW d Q) (hb : b < qN Q) : ∀ m r X X', XI d Q X → s < gN X → gK X s = c → byL d Q s b c m r X = some X' → XI d Q X' ∧ XE X X' ∧ ((∃ j, r ≤ j ∧ j < r + m ∧ ptn d Q c b j = true) → gM X < gM X') := by
  intro m
  induction m with
  | zero =>
    intro r X X' hX hs hc h
    injection h with h
    subst h
    exact ⟨hX, XE.rf, fun ⟨j, h1, h2, _⟩ => by omega⟩
  | succ m ih =>
    intro r X X' hX hs hc h
    unfold byL at h
    split at h
    · rename_i g
      cases e : stG d Q X s b (some r) with
      | none => rw [e] at h; exact absurd h (by simp)
      | some Y =>
        rw [e] at h
        obtain ⟨a1, a2, a3⟩ := stG_ok hW hX hs (by rw [hc]; exact ptn_dn hW hb g) e
        obtain ⟨b1, b2, b3⟩ := ih (r + 1) Y X' a1 (by have := a2.1; omega) (by rw [a2.2.1 s hs]; exact hc) h
        exact ⟨b1, a2.tr b2, fun _ => by have := b2.2.2.1; omega⟩
    · rename_i g
      obtain ⟨b1, b2, b3⟩ := ih (r + 1) X X' hX hs hc h
      refine ⟨b1, b2, fun ⟨j, h1, h2, h3⟩ => b3 ⟨j, ?_, by omega, h3⟩⟩
      by_cases e : j = r
      · subst e; exact absurd h3 g
      · omega
theorem dob_b {d : zD} {Q : zQ} {c : zCf} {b : Nat} (hW : QW d Q) (h : dob d Q c b = true) : b < qN Q := by
  unfold dob at h
  simp only [Bool.and_eq_true] at h
  exact (alb_n hW h.1).1
theorem by1_ok {d : zD} {Q : zQ} {s b : Nat} {X X' : zG} (hN : NC d) (hW : QW d Q) (hX : XI d Q X) (hs : s < gN X) (hd : dob d Q (gK X s) b = true) (h : by1 d Q X s b = some X') : XI d Q X' ∧ XE X X' ∧ gM X < gM X' := by
  unfold by1 at h
  split at h
  · rename_i g
    obtain ⟨b1, b2, b3⟩ := byL_ok hW (dob_b hW hd) 48 0 X X' hX hs rfl h
    obtain ⟨j, h1, h2⟩ := anyB_iff.mp g
    exact ⟨b1, b2, b3 ⟨j, by omega, by omega, h2⟩⟩
  · rename_i g
    obtain ⟨a1, a2, a3⟩ := stG_ok hW hX hs (dob_dn hN hW hd g) h
    exact ⟨a1, a2, by omega⟩
theorem ofL_ok {d : zD} {Q : zQ} {s : Nat} {c : zCf} (hN : NC d) (hW : QW d Q) : ∀ m b X X', XI d Q X → s < gN X → gK X s = c → ofL d Q s c m b X = some X' → XI d Q X' ∧ XE X X' ∧ ((∃ j, b ≤ j ∧ j < b + m ∧ dob d Q c j = true) → gM X < gM X') := by
  intro m
  induction m with
  | zero =>
    intro r X X' hX hs hc h
    injection h with h
    subst h
    exact ⟨hX, XE.rf, fun ⟨j, h1, h2, _⟩ => by omega⟩
  | succ m ih =>
    intro r X X' hX hs hc h
    unfold ofL at h
    split at h
    · rename_i g
      cases e : by1 d Q X s r with
      | none => rw [e] at h; exact absurd h (by simp)
      | some Y =>
        rw [e] at h
        obtain ⟨a1, a2, a3⟩ := by1_ok hN hW hX hs (by rw [hc]; exact g) e
        obtain ⟨b1, b2, b3⟩ := ih (r + 1) Y X' a1 (by have := a2.1; omega) (by rw [a2.2.1 s hs]; exact hc) h
        exact ⟨b1, a2.tr b2, fun _ => by have := b2.2.2.1; omega⟩
    · rename_i g
      obtain ⟨b1, b2, b3⟩ := ih (r + 1) X X' hX hs hc h
      refine ⟨b1, b2, fun ⟨j, h1, h2, h3⟩ => b3 ⟨j, ?_, by omega, h3⟩⟩
      by_cases e : j = r
      · subst e; exact absurd h3 g
      · omega
theorem of1_ok {d : zD} {Q : zQ} {s : Nat} {X X' : zG} (hN : NC d) (hW : QW d Q) (hX : XI d Q X) (hs : s < gN X) (h : of1 d Q X s = some X') : XI d Q X' ∧ XE X X' ∧ gM X < gM X' := by
  unfold of1 at h
  cases e : ofL d Q s (gK X s) 48 0 X with
  | none => rw [e] at h; exact absurd h (by simp)
  | some Y =>
    rw [e] at h
    obtain ⟨b1, b2, b3⟩ := ofL_ok hN hW 48 0 X Y hX hs rfl e
    have h' : (if gM Y = gM X then adds Y s s (-1) (-1) else some Y) = some X' := h
    have lt : s < gN Y := by have := b2.1; omega
    split at h'
    · obtain ⟨c1, c2, c3, c4, c5⟩ := adds_ok b1 lt lt h'
      exact ⟨c1, b2.tr ⟨by omega, fun j _ => by rw [c3], by omega, c5⟩, by omega⟩
    · rename_i g
      injection h' with h'
      subst h'
      exact ⟨b1, b2, by have := b2.2.2.1; omega⟩
theorem q_byL {Post : Int32 → (Nat → Int32) → (Nat → Int64) → (Nat → Nat → Int32) → (Nat → Nat → Int64) → Prop} {d : zD} {Q : zQ} {s b : Nat} {c : zCf} {w : Int64} {a0 a1 : Int32} {o : Option zG} (hN : NC d) (hW : QW d Q) (hP : PC d Q I J B D) (hb : b < qN Q) (hw : ∀ r, bt w r = ptn d Q c b r) (h : ∀ y I' B' D', OUT d Q o y I' B' D' → FY I B D I' B' D' → Post y I' J B' D') : ∀ (m r : Nat) (X : zG) (I1 : Nat → Int32) (B1 : Nat → Nat → Int32) (D1 : Nat → Nat → Int64), r + m = 48 → XI d Q X → CG d X I1 B1 D1 → s < gN X → gK X s = c → FY I B D I1 B1 D1 → byL d Q s b c m r X = o → wl_Graph_addStepsBy_42 a0 a1 Post (m + 1) (nI s) (nI b) w 1 (nI r) I1 J B1 D1 := by
  intro m
  induction m with
  | zero =>
    intro r X I1 B1 D1 hr hX hG hs hc hF ho
    have e : r = 48 := by omega
    subst e
    refine ⟨fun _ => ⟨Or.inr rfl, h 1 I1 B1 D1 (Or.inr ⟨X, ho.symm, rfl, hG, hX⟩) hF⟩, fun z => absurd ?_ z⟩
    exact (leI (x := 48) (a := 48) rfl (y := nI 48) rfl (by omega) (by omega)).mpr (by omega)
  | succ m ih =>
    intro r X I1 B1 D1 hr hX hG hs hc hF ho
    refine ⟨fun z => ?_, fun _ => ⟨fun z => absurd z (by decide), fun _ z4 e4 z5 e5 z6 e6 => ?_⟩⟩
    · have := (leI (x := 48) (a := 48) rfl (y := nI r) rfl (by omega) (by omega)).mp z; omega
    rw [e5, e4] at e6
    have t := tstC w (b := r) (by omega)
    rw [← e6, hw r] at t
    unfold byL at ho
    refine ⟨fun g z1 e1 => ?_, fun g => ?_⟩
    · rw [if_neg (by rw [t.mp g]; decide)] at ho
      rw [inI rfl e1]
      exact ih (r + 1) X I1 B1 D1 (by omega) hX hG hs hc hF ho
    · have hp : ptn d Q c b r = true := by
        cases e : ptn d Q c b r
        · exact absurd (t.mpr e) g
        · rfl
      rw [if_pos hp] at ho
      have hd : dn Q (gK X s) b (some r) := by rw [hc]; exact ptn_dn hW hb hp
      refine q_addDone hN hW (hP.fx hF.fx) hX hG hs hd (fun y I2 B2 D2 hO hF2 z1 e1 => ?_)
      rw [inI rfl e1]
      rcases hO with ⟨hn, hy⟩ | ⟨X2, hn, hy, hG2, hX2⟩
      · rw [hn] at ho
        rw [hy]
        have fin := h 0 I2 B2 D2 (Or.inl ⟨ho.symm, rfl⟩) (hF.tr hF2)
        exact ⟨fun _ => ⟨Or.inl rfl, fin⟩, fun _ => ⟨fun _ => ⟨Or.inl rfl, fin⟩, fun q => absurd rfl q⟩⟩
      · rw [hn] at ho
        rw [hy]
        obtain ⟨a1, a2, a3⟩ := stG_ok hW hX hs hd hn
        exact ih (r + 1) X2 I2 B2 D2 (by omega) hX2 hG2 (by have := a2.1; omega) (by rw [a2.2.1 s hs]; exact hc) (hF.tr hF2) ho
theorem q_addStepsBy {Post : Int32 → (Nat → Int32) → (Nat → Int64) → (Nat → Nat → Int32) → (Nat → Nat → Int64) → Prop} {d : zD} {Q : zQ} {X : zG} {s b : Nat} (hN : NC d) (hW : QW d Q) (hP : PC d Q I J B D) (hX : XI d Q X) (hG : CG d X I B D) (hs : s < gN X) (hJ : prs Q (gK X s) (J 1)) (hd : dob d Q (gK X s) b = true) (h : ∀ y I' B' D', OUT d Q (by1 d Q X s b) y I' B' D' → FY I B D I' B' D' → Post y I' J B' D') : wp_Graph_addStepsBy I J B D (nI s) (nI b) Post := by
  have x1 := hX.1
  have hC := hX.2.2.1 s hs
  have hb := dob_b hW hd
  obtain ⟨g19, g20, gk, gs⟩ := id hG
  refine ⟨vin2 rfl (by omega) (by omega), fun z9 e9 => ?_⟩
  rw [clI rfl (by omega), gk s hs] at e9
  rw [e9]
  refine q_unpack hN hP.1 hC.1 hW.1 (fun I2 B2 s2 f2 => ?_)
  have F2 : FY I B D I2 B2 D := ⟨fun k hk => f2.1 k (by simp at hk ⊢; omega), fun k hk => f2.2 k (by simp at hk ⊢; omega), fun _ _ => rfl⟩
  have P2 : PC d Q I2 J B2 D := hP.fx F2.fx
  have G2 : CG d X I2 B2 D := ⟨by rw [f2.1 19 (by decide)]; exact g19, by rw [f2.1 20 (by decide)]; exact g20, gk, fun j hj => by
    rw [f2.2 33 (by decide), f2.2 34 (by decide), f2.2 35 (by decide), f2.2 36 (by decide)]; exact gs j hj⟩
  refine q_partners hN hW P2 s2 hC hJ hb (fun w hw z12 e12 => ?_)
  have hz : z12 = 0 ↔ w = 0 := by rw [e12]; exact cmp0 _ _
  have hany : ¬ w = 0 ↔ anyB (ptn d Q (gK X s) b) 48 = true := by
    rw [anyB_iff]
    constructor
    · intro q
      obtain ⟨i, hi⟩ := bt_ne q
      rw [hw i] at hi
      have := (ptn_dn hW hb hi).2.1
      exact ⟨i, by have := hW.2.1; omega, hi⟩
    · rintro ⟨i, _, e⟩
      exact bt_t (i := i) (by rw [hw i]; exact e)
  refine ⟨fun g => ⟨49, ?_⟩, fun g => ?_⟩
  · have ha := hany.mp (fun e => g (hz.mpr e))
    have hby : by1 d Q X s b = byL d Q s b (gK X s) 48 0 X := by unfold by1; rw [if_pos ha]
    exact q_byL hN hW hP hb hw h 48 0 X I2 B2 D (by omega) hX G2 hs rfl F2 hby.symm
  · have ha : ¬ anyB (ptn d Q (gK X s) b) 48 = true := fun e => hany.mpr e (hz.mp g)
    have hby : by1 d Q X s b = stG d Q X s b none := by unfold by1; rw [if_neg ha]
    refine q_addDone (r := none) hN hW P2 hX G2 hs (dob_dn hN hW hd ha) (fun y I3 B3 D3 hO F3 => ⟨?_, h y I3 B3 D3 (by rw [hby]; exact hO) (F2.tr F3)⟩)
    rcases hO with ⟨_, hy⟩ | ⟨_, _, hy, _⟩
    · exact Or.inl hy
    · exact Or.inr hy
end ZK4
