theorem isLimit_c {a : Int} (ha : -2147483648 ≤ a ∧ a < 2147483648) : fX1_isLimit (J a) = some (decide (1 ≤ a ∧ a ≤ 3)) := by
  have c1 : J a < 1 ↔ a < 1 := by rw [j1]; exact J_lt (by omega) (by omega)
  have c2 : 3 < J a ↔ 3 < a := by rw [j3]; exact J_lt (by omega) (by omega)
  unfold fX1_isLimit
  by_cases q1 : a < 1
  · have q : ¬ (1 ≤ a ∧ a ≤ 3) := by omega
    rw [if_pos (c1.mpr q1), decide_eq_false q]
  · rw [if_neg (fun z => q1 (c1.mp z))]
    by_cases q2 : 3 < a
    · have q : ¬ (1 ≤ a ∧ a ≤ 3) := by omega
      rw [if_pos (c2.mpr q2), decide_eq_false q]
    · have q : 1 ≤ a ∧ a ≤ 3 := by omega
      rw [if_neg (fun z => q2 (c2.mp z)), decide_eq_true q]
theorem isFee_c {a : Int} (ha : -2147483648 ≤ a ∧ a < 2147483648) : fX1_isFee (J a) = some (decide (0 ≤ a ∧ a ≤ 99)) := by
  have c1 : J a < 0 ↔ a < 0 := by rw [j0]; exact J_lt (by omega) (by omega)
  have c2 : 99 < J a ↔ 99 < a := by rw [j99]; exact J_lt (by omega) (by omega)
  unfold fX1_isFee
  by_cases q1 : a < 0
  · have q : ¬ (0 ≤ a ∧ a ≤ 99) := by omega
    rw [if_pos (c1.mpr q1), decide_eq_false q]
  · rw [if_neg (fun z => q1 (c1.mp z))]
    by_cases q2 : 99 < a
    · have q : ¬ (0 ≤ a ∧ a ≤ 99) := by omega
      rw [if_pos (c2.mpr q2), decide_eq_false q]
    · have q : 0 ≤ a ∧ a ≤ 99 := by omega
      rw [if_neg (fun z => q2 (c2.mp z)), decide_eq_true q]
