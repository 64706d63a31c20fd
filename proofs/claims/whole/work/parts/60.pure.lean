/-! The pure half: what the predicates say, answer by answer. -/
section ZQ
variable {I : Nat → Int32} {J : Nat → Int64} {B : Nat → Nat → Int32} {D : Nat → Nat → Int64}
theorem q_place_N : wp_LassoFinder_place_N I J B D (fun r I' J' B' D' => r = I 6 ∧ (I', J', B', D') = (I, J, B, D)) := ⟨rfl, rfl⟩
theorem q_place_S : wp_LassoFinder_place_S I J B D (fun r I' J' B' D' => r = I 6 ∧ (I', J', B', D') = (I, J, B, D)) := ⟨rfl, rfl⟩
theorem q_m_place : wp_LassoFinderModel_place I J B D (fun r I' J' B' D' => r = I 4 ∧ (I', J', B', D') = (upd I 0 0, J, B, D)) := ⟨rfl, rfl⟩
/-- count's answer: is there a model; states, steps, basics, processes -/
def qCnt (a h n t b q : Int32) : Int32 := if a = 0 then (if h = 0 then 0 else n) else if a = 1 then (if h = 0 then 0 else t) else if a = 2 then (if h = 0 then 0 else b) else if a = 3 then (if h = 0 then 0 else q) else -1
theorem q_count_N (a : Int32) : wp_LassoFinder_count_N I J B D a (fun r I' J' B' D' => r = qCnt a (I 1) (I 19) (I 20) (I 9) (I 10) ∧ (I', J', B', D') = (I, J, B, D)) := by
  unfold wp_LassoFinder_count_N
  refine ⟨fun h => ⟨fun g => ?_, fun g => ?_⟩, fun h => ⟨fun g => ?_, fun g => ?_⟩, fun h => ⟨fun g => ?_, fun g => ?_⟩, fun h => ⟨fun g => ?_, fun g => ?_⟩, fun h0 h1 h2 h3 => ?_⟩
  all_goals refine ⟨?_, rfl⟩
  all_goals simp_all [qCnt]
theorem q_count_S (a : Int32) : wp_LassoFinder_count_S I J B D a (fun r I' J' B' D' => r = qCnt a (I 1) (I 19) (I 20) (I 9) (I 10) ∧ (I', J', B', D') = (I, J, B, D)) := by
  unfold wp_LassoFinder_count_S
  refine ⟨fun h => ⟨fun g => ?_, fun g => ?_⟩, fun h => ⟨fun g => ?_, fun g => ?_⟩, fun h => ⟨fun g => ?_, fun g => ?_⟩, fun h => ⟨fun g => ?_, fun g => ?_⟩, fun h0 h1 h2 h3 => ?_⟩
  all_goals refine ⟨?_, rfl⟩
  all_goals simp_all [qCnt]
theorem q_in3 {a : Int32} (h : ¬ a < 0) (h2 : ¬ 3 < a) (g0 : ¬ a = 0) (g1 : ¬ a = 1) (g2 : ¬ a = 2) : a = 3 := by
  rw [Int32.lt_iff_toInt_lt] at h h2
  rw [← Int32.toInt_inj] at g0 g1 g2 ⊢
  have e0 : (0 : Int32).toInt = 0 := rfl
  have e1 : (1 : Int32).toInt = 1 := rfl
  have e2 : (2 : Int32).toInt = 2 := rfl
  have e3 : (3 : Int32).toInt = 3 := rfl
  omega
theorem q_out {a : Int32} (h : a < 0 ∨ 3 < a) : ¬ a = 0 ∧ ¬ a = 1 ∧ ¬ a = 2 ∧ ¬ a = 3 := by
  refine ⟨?_, ?_, ?_, ?_⟩ <;> (rintro rfl; revert h; decide)
theorem q_m_count (a : Int32) : wp_LassoFinderModel_count I J B D a (fun r I' J' B' D' => r = qCnt a (I 5) (I 14) (I 15) (I 9) (I 10) ∧ (I', J', B', D') = (upd I 0 0, J, B, D)) := by
  refine ⟨fun h => ⟨Or.inl rfl, fun g => absurd rfl g, fun _ => ⟨?_, rfl⟩⟩, fun h => ⟨fun h2 => ⟨Or.inl rfl, fun g => absurd rfl g, fun _ => ⟨?_, rfl⟩⟩, fun h2 => ⟨Or.inr rfl, fun _ => ⟨fun g => ⟨fun g0 => ⟨fun g1 => ⟨fun g2 => ⟨?_, rfl⟩, fun g2 => ⟨?_, rfl⟩⟩, fun g1 => ⟨?_, rfl⟩⟩, fun g0 => ⟨?_, rfl⟩⟩, fun g => ⟨?_, rfl⟩⟩, fun g => absurd g (by decide)⟩⟩⟩
  · obtain ⟨k0, k1, k2, k3⟩ := q_out (Or.inl h)
    simp [qCnt, k0, k1, k2, k3]
  · obtain ⟨k0, k1, k2, k3⟩ := q_out (Or.inr h2)
    simp [qCnt, k0, k1, k2, k3]
  · have g : ¬ I 5 = 0 := g
    have k3 := q_in3 h h2 g0 g1 g2
    show I 10 = _
    simp [qCnt, g, k3]
  · have g : ¬ I 5 = 0 := g
    show I 9 = _
    simp [qCnt, g, g2]
  · have g : ¬ I 5 = 0 := g
    show I 15 = _
    simp [qCnt, g, g1]
  · have g : ¬ I 5 = 0 := g
    show I 14 = _
    simp [qCnt, g, g0]
  · have g : I 5 = 0 := g
    have k : a = 0 ∨ a = 1 ∨ a = 2 ∨ a = 3 := by
      by_cases k0 : a = 0
      · exact Or.inl k0
      by_cases k1 : a = 1
      · exact Or.inr (Or.inl k1)
      by_cases k2 : a = 2
      · exact Or.inr (Or.inr (Or.inl k2))
      exact Or.inr (Or.inr (Or.inr (q_in3 h h2 k0 k1 k2)))
    rcases k with rfl | rfl | rfl | rfl <;> simp [qCnt, g]
end ZQ
