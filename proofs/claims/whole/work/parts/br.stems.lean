/-! The class measures how far it is to a round. -/
section ZR1
variable {I : Nat → Int32} {J : Nat → Int64} {B : Nat → Nat → Int32} {D : Nat → Nat → Int64}
def Er (d : zD) (X : zG) (out : List zIt) : Nat → Nat → Prop := Ed (dgX X) (nbX d X out)
def gd (d : zD) (X : zG) (out : List zIt) : Nat → Prop := good (dgX X) (nbX d X out) (Sx d X out) (2 ^ ntm out - 1)
theorem nd_cv : ∀ {l : List Nat} {N : Nat}, l.Nodup → (∀ x ∈ l, x < N) → l.length ≤ cv (fun v => if v ∈ l then 1 else 0) N := by
  intro l N
  induction l with
  | nil => intro _ _; exact Nat.zero_le _
  | cons x l ih =>
    intro h hx
    obtain ⟨h1, h2⟩ := List.nodup_cons.mp h
    have e : (fun v => if v ∈ x :: l then 1 else 0) = upn (fun v => if v ∈ l then 1 else 0) x (0 + 1) := by
      funext v
      by_cases g : v = x
      · subst g; rw [upn_at]; simp
      · rw [upn_ne g]; simp [g]
    rw [e, cv_up (by simp [h1]) N (hx x (List.mem_cons_self ..)), List.length_cons]
    have := ih h2 (fun y hy => hx y (List.mem_cons_of_mem _ hy))
    omega
theorem MQ_BQ {d : zD} {Q : zQ} {X : zG} {out : List zIt} {mq : List Nat} (hX : XI d Q X) (h3 : ntm out ≤ 3) (h : MQx d X out mq I B) : ∃ ds qu, BQ (Er d X out) (gd d X out) (8 * gN X) ds qu mq.length ∧ BL ds qu mq.length 0 ∧ BPx (Er d X out) ds qu 0 ∧ RW ds qu mq.length I B := by
  obtain ⟨i35, r57, b56, hnd, hg⟩ := h
  have hin : ∀ a, a < mq.length → mq.reverse[a]?.getD 0 ∈ mq := fun a ha => by
    rw [List.getElem?_eq_getElem (by simpa using ha)]
    exact List.mem_reverse.mp (List.getElem_mem _)
  have one : ∀ a, a < mq.length → (if mq.reverse[a]?.getD 0 ∈ mq then 1 else 0) = 1 := fun a ha => if_pos (hin a ha)
  have hlt : ∀ w ∈ mq, w < 8 * gN X := fun w hw => (good_lt hX h3 ((hg w).mp hw)).1
  refine ⟨fun v => if v ∈ mq then 1 else 0, fun a => mq.reverse[a]?.getD 0, ⟨fun w hw => ?_, fun a ha => ?_, nd_cv hnd hlt, fun a b hab hb => ?_, fun w hw => if_pos ((hg w).mpr hw), fun a ha => ?_⟩, fun _ b hb => ?_, fun a ha => by omega, ⟨i35, fun a ha => ?_, fun w hw => ?_⟩⟩
  · have hm : w ∈ mq := Classical.byContradiction (fun z => hw (if_neg z))
    refine ⟨hlt w hm, ?_, ?_⟩
    · obtain ⟨a, ha, e⟩ := List.mem_iff_getElem.mp (List.mem_reverse.mpr hm)
      refine ⟨a, by simpa using ha, ?_⟩
      show mq.reverse[a]?.getD 0 = w
      rw [List.getElem?_eq_getElem ha, ← e]; rfl
    · show pt _ _ ((if w ∈ mq then 1 else 0) - 1) w
      rw [if_pos hm]; exact ⟨w, (hg w).mp hm, rfl⟩
  · show ¬ (if mq.reverse[a]?.getD 0 ∈ mq then 1 else 0) = 0
    rw [one a ha]; omega
  · show (if mq.reverse[a]?.getD 0 ∈ mq then 1 else 0) ≤ (if mq.reverse[b]?.getD 0 ∈ mq then 1 else 0)
    rw [one a (by omega), one b hb]; omega
  · show (if mq.reverse[a]?.getD 0 ∈ mq then 1 else 0) ≤ a + 1
    rw [one a ha]; omega
  · show (if mq.reverse[b]?.getD 0 ∈ mq then 1 else 0) ≤ (if mq.reverse[0]?.getD 0 ∈ mq then 1 else 0) + 1
    rw [one b hb]; omega
  · have := rep_get r57 a (by simpa using ha)
    rw [← List.map_reverse, List.getElem?_map, List.getElem?_eq_getElem (by simpa using ha)] at this
    show B 57 a = nI (mq.reverse[a]?.getD 0)
    rw [List.getElem?_eq_getElem (by simpa using ha)]
    simpa using this.symm
  · rw [b56 w hw]
    show _ = nI (if w ∈ mq then 1 else 0) - 1
    by_cases e : w ∈ mq
    · rw [if_pos e, if_pos e]; rfl
    · rw [if_neg e, if_neg e]; rfl
/-- how far each spot is from a round -/
def DS (d : zD) (X : zG) (out : List zIt) (ds : Nat → Nat) (B : Nat → Nat → Int32) : Prop := MD (Er d X out) (gd d X out) ds ∧ (∀ w, w < 6144 → B 56 w = nI (ds w) - 1) ∧ (∀ w, ds w ≤ 8 * gN X)
theorem q_measureStems {Post : (Nat → Int32) → (Nat → Int64) → (Nat → Nat → Int32) → (Nat → Nat → Int64) → Prop} {d : zD} {Q : zQ} {X : zG} {out : List zIt} {mq : List Nat} (hR : SR d Q X out I B) (hM : MQx d X out mq I B)
    (h : ∀ ds I' B', DS d X out ds B' → FS I B I' B' → Post I' J B' D) : wp_LassoSearch_measureStems I J B D Post := by
  have x1 := hR.1.1
  have x2 := hR.1.2.1
  have h3 := hR.2.1
  obtain ⟨ds0, qu0, k1, k2, k3, k4⟩ := MQ_BQ hR.1 h3 hM
  have dsN : ∀ ds qu m, BQ (Er d X out) (gd d X out) (8 * gN X) ds qu m → ∀ w, ds w ≤ 8 * gN X := fun ds qu m hb w => by
    by_cases e : ds w = 0
    · omega
    · obtain ⟨_, ⟨a, a1, a2⟩, _⟩ := hb.1 w e
      have := hb.2.2.2.2.2 a a1
      rw [a2] at this
      have := BQ_m hb
      omega
  have inner : ∀ (K2 : Int32 → (Nat → Int32) → (Nat → Int64) → (Nat → Nat → Int32) → (Nat → Nat → Int64) → Prop) (i v : Nat), v < 8 * gN X → (∀ ds qu m I1 B1, BQ (Er d X out) (gd d X out) (8 * gN X) ds qu m → BL ds qu m (i + 1) → BPx (Er d X out) ds qu (i + 1) → RW ds qu m I1 B1 → FS I B I1 B1 → i + 1 ≤ m → K2 (nI (i + 1)) I1 J B1 D) →
      ∀ t k ds qu m I1 B1, k + t = dgX X v → BQ (Er d X out) (gd d X out) (8 * gN X) ds qu m → BL ds qu m i → BPx (Er d X out) ds qu i → i < m → qu i = v → (∀ k', k' < k → ¬ ds (nbX d X out v k') = 0 ∧ ds (nbX d X out v k') ≤ ds v + 1) → RW ds qu m I1 B1 → FS I B I1 B1 → wl_LassoSearch_measureStems_40 K2 Post (t + 1) (nI i) (nI v) (nI (v / 8)) (nI (cq X v + k)) I1 J B1 D := by
    intro K2 i v hv hK t
    have hcl1 := cl_le (gT X) (v / 8 + 1) (gM X)
    have hcq := cl_q (f := gT X) (show v / 8 ≤ v / 8 + 1 by omega) (gM X)
    have hdg : dgX X v = cl (gT X) (v / 8 + 1) (gM X) - cl (gT X) (v / 8) (gM X) := rfl
    have hcqv : cq X v = cl (gT X) (v / 8) (gM X) := rfl
    induction t with
    | zero =>
      intro k ds qu m I1 B1 hk hb hl hp hi hq hdone hr hf z1 e1
      have hR1 := hR.fs hf
      have n1 := inI rfl e1
      refine ⟨vin2 n1 (by omega) (by omega), fun z2 e2 => ?_⟩
      rw [clI n1 (by omega), hR1.2.2.2.2.2.1.1 _ (by omega)] at e2
      refine ⟨fun _ z4 e4 => ?_, fun z => absurd ((leI e2 (y := nI (cq X v + k)) rfl (by omega) (by omega)).mpr (by omega)) z⟩
      rw [inI rfl e4]
      refine hK ds qu m I1 B1 hb (BL_next hb hl) (fun a ha w hw => ?_) hr hf hi
      by_cases e : a = i
      · subst e
        rw [hq] at hw ⊢
        obtain ⟨k', h1, h2⟩ := hw
        have := hdone k' (by omega)
        rw [h2] at this; exact this
      · exact hp a (by omega) w hw
    | succ t ih =>
      intro k ds qu m I1 B1 hk hb hl hp hi hq hdone hr hf z1 e1
      have hR1 := hR.fs hf
      have n1 := inI rfl e1
      have hkl : k < dgX X v := by omega
      have hmN := BQ_m hb
      refine ⟨vin2 n1 (by omega) (by omega), fun z2 e2 => ?_⟩
      rw [clI n1 (by omega), hR1.2.2.2.2.2.1.1 _ (by omega)] at e2
      refine ⟨fun z => ?_, fun _ => ⟨vin2 rfl (by omega) (by omega), fun z5 e5 z6 e6 => ?_⟩⟩
      · have := (leI e2 (y := nI (cq X v + k)) rfl (by omega) (by omega)).mp z; omega
      obtain ⟨j1, j2, j3⟩ := jx_at (dg_k.mp hkl)
      rw [← hcqv] at j1 j2 j3
      rw [clI rfl (by omega), ← j3, hR1.2.2.2.2.2.1.2 _ j1] at e5
      rw [mod8 v (by omega)] at e6
      have hs := (hR.1.2.2.2.2 _ j1).1
      obtain ⟨u1, u2, u3⟩ := nb_lt (d := d) (out := out) hR.1 h3 hkl
      refine q_spotBefore e5 e6 hR1 hs (by omega) ⟨vin2 rfl (by omega) (by omega), fun z8 e8 z9 e9 => ?_⟩
      have eu : 8 * gS X (jx X (cq X v + k)) + bef (atv d (gK X (gS X (jx X (cq X v + k))))) out (v % 8) = nbX d X out v k := rfl
      rw [eu]
      have hvz : ¬ ds v = 0 := by rw [← hq]; exact hb.2.1 i hi
      rw [clI rfl (by omega), hr.2.2 v (by omega)] at e8
      have n9 : z9 = nI (ds (qu i)) := by
        rw [e9, e8, hq]
        generalize nI (ds v) = y
        grind
      refine q_reach (by omega) hb hl hi u1 (by rw [hq]; exact ⟨k, hkl, rfl⟩) hr rfl n9 (fun ds' qu' m' I' B' c1 c2 c3 c4 c5 c6 c7 c8 z11 e11 => ?_)
      rw [inI rfl e11]
      obtain ⟨f1, f2⟩ := c3.at hb.2.1 hi
      refine ih (k + 1) ds' qu' m' I' B' (by omega) c1 c2 (hp.ex (by omega) hb.2.1 c3) (by have := c3.2.2; omega) (f1.trans hq) (fun k' hk' => ?_) c6 (hf.tr ⟨fun x hx => c7 x (by simp at hx; omega), fun x hx => c8 x (by simp at hx ⊢; omega)⟩)
      rw [f1, hq] at f2 c5
      by_cases e : k' = k
      · subst e; exact ⟨c4, c5⟩
      · obtain ⟨g1, g2⟩ := hdone k' (by omega)
        rw [c3.1 _ g1, f2]; exact ⟨g1, g2⟩
  have outer : ∀ t i ds qu m I1 B1, i + t = 768 → BQ (Er d X out) (gd d X out) (8 * gN X) ds qu m → BL ds qu m i → BPx (Er d X out) ds qu i → RW ds qu m I1 B1 → FS I B I1 B1 → i ≤ m → wl_LassoSearch_measureStems_2 Post (t + 1) (nI i) I1 J B1 D := by
    intro t
    induction t with
    | zero =>
      intro i ds qu m I1 B1 hi hb hl hp hr hf him
      have hmN := BQ_m hb
      refine ⟨fun _ => h ds I1 B1 ⟨B_end hb hp (by omega), hr.2.2, dsN ds qu m hb⟩ hf, fun z => absurd ((leI (x := 768) (a := 768) rfl (y := nI i) rfl (by omega) (by omega)).mpr (by omega)) z⟩
    | succ t ih =>
      intro i ds qu m I1 B1 hi hb hl hp hr hf him
      have hmN := BQ_m hb
      have hR1 := hR.fs hf
      refine ⟨fun z => ?_, fun _ => ⟨fun z => ?_, fun z => ?_⟩⟩
      · have := (leI (x := 768) (a := 768) rfl (y := nI i) rfl (by omega) (by omega)).mp z; omega
      · have := (leI hr.1 (y := nI i) rfl (by omega) (by omega)).mp z
        exact h ds I1 B1 ⟨B_end hb hp this, hr.2.2, dsN ds qu m hb⟩ hf
      · have him2 : i < m := Nat.lt_of_not_le (fun y => z ((leI hr.1 (y := nI i) rfl (by omega) (by omega)).mpr y))
        refine ⟨vin2 rfl (by omega) (by omega), fun z14 e14 z15 e15 => ?_⟩
        rw [clI rfl (by omega), hr.2.1 i him2] at e14
        have hvN : qu i < 8 * gN X := (hb.1 _ (hb.2.1 i him2)).1
        rw [e14, div8 _ (by omega)] at e15
        refine ⟨vin2 e15 (by omega) (by omega), fun z16 e16 => ?_⟩
        rw [clI e15 (by omega), hR1.2.2.2.2.2.1.1 _ (by omega)] at e16
        rw [e14, e15, e16]
        refine ⟨dgX X (qu i) + 1, ?_⟩
        exact inner (wl_LassoSearch_measureStems_2 Post (t + 1)) i (qu i) hvN (fun ds' qu' m' I' B' c1 c2 c3 c4 c5 c6 => ih (i + 1) ds' qu' m' I' B' (by omega) c1 c2 c3 c4 c5 c6) (dgX X (qu i)) 0 ds qu m I1 B1 (by omega) hb hl hp him2 rfl (fun k' hk' => by omega) hr hf
  exact ⟨769, outer 768 0 ds0 qu0 mq.length I B (by omega) k1 k2 k3 k4 FS.rf (Nat.zero_le _)⟩
/-- the least of those that count -/
def MNx (P : Nat → Prop) (ds : Nat → Nat) (i c : Nat) : Prop := (∀ g, g < i → P g → ¬ ds g = 0 → ¬ c = 0 ∧ c ≤ ds g) ∧ (¬ c = 0 → ∃ g, g < i ∧ P g ∧ ds g = c)
theorem q_shortestStem {Post : Int32 → (Nat → Int32) → (Nat → Int64) → (Nat → Nat → Int32) → (Nat → Nat → Int64) → Prop} {d : zD} {Q : zQ} {X : zG} {out : List zIt} {ds : Nat → Nat} (hR : SR d Q X out I B) (h0 : 0 < gN X) (hD : DS d X out ds B)
    (h : ∀ c, MNx (fun g => sat (atv d (gK X 0)) out g = false) ds (2 ^ ntm out) c → Post (nI c - 1) I J B D) : wp_LassoSearch_shortestStem I J B D Post := by
  have x1 := hR.1.1
  have h3 := hR.2.1
  have p8 := p2_3 h3
  have i30 := hR.2.2.2.1
  have lp : ∀ t i c, i + t = 2 ^ ntm out → MNx (fun g => sat (atv d (gK X 0)) out g = false) ds i c → wl_LassoSearch_shortestStem_4 Post (t + 1) (nI c - 1) (nI i) I J B D := by
    intro t
    induction t with
    | zero =>
      intro i c hi hm
      refine ⟨fun _ => h c (by rw [show 2 ^ ntm out = i by omega]; exact hm), fun z => absurd ((leI i30 (y := nI i) rfl (by omega) (by omega)).mpr (by omega)) z⟩
    | succ t ih =>
      intro i c hi hm
      refine ⟨fun z => ?_, fun _ => ⟨vin2 rfl (by omega) (by omega), fun z6 e6 => ?_⟩⟩
      · have := (leI i30 (y := nI i) rfl (by omega) (by omega)).mp z; omega
      have b49 := (hR.2.2.2.2.1 0 h0 i (by omega)).2.2
      rw [Nat.mul_zero, Nat.zero_add] at b49
      rw [clI rfl (by omega), b49] at e6
      have cN : c ≤ 768 := by
        by_cases e : c = 0
        · omega
        · obtain ⟨g, _, _, e2⟩ := hm.2 e
          have := hD.2.2 g
          omega
      have dN := hD.2.2 i
      -- nothing changes
      have keep : (sat (atv d (gK X 0)) out i = false → ¬ ds i = 0 → ¬ c = 0 ∧ c ≤ ds i) → wc_LassoSearch_shortestStem_55 (wl_LassoSearch_shortestStem_4 Post (t + 1)) Post (nI c - 1) (nI i) I J B D := by
        intro hk z1 e1
        rw [inI rfl e1]
        refine ih (i + 1) c (by omega) ⟨fun g hg hp hd => ?_, fun hc => ?_⟩
        · by_cases e : g = i
          · subst e; exact hk hp hd
          · exact hm.1 g (by omega) hp hd
        · obtain ⟨g, g1, g2⟩ := hm.2 hc
          exact ⟨g, by omega, g2⟩
      -- this one is the least now
      have take : sat (atv d (gK X 0)) out i = false → ¬ ds i = 0 → (¬ c = 0 → ds i ≤ c) → wc_LassoSearch_shortestStem_53 (wl_LassoSearch_shortestStem_4 Post (t + 1)) Post (nI i) (nI (ds i) - 1) I J B D := by
        intro hs hd hc z1 e1
        rw [inI rfl e1]
        refine ih (i + 1) (ds i) (by omega) ⟨fun g hg hp hd' => ?_, fun _ => ⟨i, by omega, hs, rfl⟩⟩
        by_cases e : g = i
        · subst e; exact ⟨hd, Nat.le_refl _⟩
        · obtain ⟨a1, a2⟩ := hm.1 g (by omega) hp hd'
          exact ⟨hd, by have := hc a1; omega⟩
      refine ⟨fun z => ⟨vin2 rfl (by omega) (by omega), fun z8 e8 => ?_⟩, fun z => ?_⟩
      · have hs : sat (atv d (gK X 0)) out i = false := by
          cases hb : sat (atv d (gK X 0)) out i
          · rfl
          · rw [e6, hb] at z; exact absurd z (by decide)
        rw [clI rfl (by omega), hD.2.1 i (by omega)] at e8
        have q8 := (nI_md (a := ds i) (b := 0) (by omega) (by omega)).2
        have q1 := (nI_md (a := c) (b := 0) (by omega) (by omega)).2
        rw [e8]
        refine ⟨fun y => keep (fun _ hd => absurd (q8.mp y) hd), fun y => ⟨fun w => ?_, fun w => ?_⟩⟩
        · exact take hs (fun e => y (q8.mpr e)) (fun hc => absurd (q1.mp w) hc)
        · have hd : ¬ ds i = 0 := fun e => y (q8.mpr e)
          have hc : ¬ c = 0 := fun e => w (q1.mpr e)
          have m1 : nI c - 1 = nI (c - 1) := deI (k := c - 1) (by rw [show c - 1 + 1 = c by omega]) rfl
          have m2 : nI (ds i) - 1 = nI (ds i - 1) := deI (k := ds i - 1) (by rw [show ds i - 1 + 1 = ds i by omega]) rfl
          have q : nI c - 1 ≤ nI (ds i) - 1 ↔ c - 1 ≤ ds i - 1 := leI m1 m2 (by omega) (by omega)
          exact ⟨fun u => keep (fun _ _ => ⟨hc, by have := q.mp u; omega⟩), fun u => take hs hd (fun _ => by
            have : ¬ c - 1 ≤ ds i - 1 := fun v => u (q.mpr v)
            omega)⟩
      · have hs : ¬ sat (atv d (gK X 0)) out i = false := fun hb => z (by rw [e6, hb]; rfl)
        exact ⟨fun _ => keep (fun hp => absurd hp hs), fun y => absurd rfl y⟩
  have := lp (2 ^ ntm out) 0 0 (by omega) ⟨fun g hg => by omega, fun hc => absurd rfl hc⟩
  rw [show nI 0 - 1 = (-1 : Int32) from by decide] at this
  exact ⟨2 ^ ntm out + 1, this⟩
end ZR1
