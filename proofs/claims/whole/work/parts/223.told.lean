theorem isCase_c {ρ : Rh} {d : Dd} {μ : Mk} (M : MktAt d ρ.1 μ) (h : mkOK μ) {c : Int} (hc : -2147483648 ≤ c ∧ c < 2147483648) : fX11_isCase ρ d (J c) = some (decide (0 ≤ c ∧ c < kN μ)) := by
  have hN := h.2.2.1
  have c1 : J c < 0 ↔ c < 0 := by rw [j0]; exact J_lt (by omega) (by omega)
  have c2 : d_i d ρ.1 2 ≤ J c ↔ (kN μ : Int) ≤ c := by rw [M.2.2.1]; exact J_le (by omega) (by omega)
  unfold fX11_isCase
  by_cases q1 : c < 0
  · have q : ¬ (0 ≤ c ∧ c < kN μ) := by omega
    rw [if_pos (c1.mpr q1), decide_eq_false q]
  · rw [if_neg (fun z => q1 (c1.mp z))]
    by_cases q2 : (kN μ : Int) ≤ c
    · have q : ¬ (0 ≤ c ∧ c < kN μ) := by omega
      rw [if_pos (c2.mpr q2), decide_eq_false q]
    · have q : 0 ≤ c ∧ c < kN μ := by omega
      rw [if_neg (fun z => q2 (c2.mp z)), decide_eq_true q]
theorem isCase_m {ρ : Rh} {d : Dd} {σ : Sg} (M : RM d σ) (O : sgOK σ) {c : Int} (hc : -2147483648 ≤ c ∧ c < 2147483648) : fX12_isCase ρ d (J c) = some (decide (0 ≤ c ∧ c < kN (gM σ))) := by
  have hN := O.2.1.2.2.1
  unfold fX12_isCase
  rw [M.2.1.2, j1, J_sub, J_l (by omega), J_l (by omega), k0, in_val (by omega) (by omega) (by omega), Option.bind_some]
  congr 1
  exact decide_eq_decide.mpr (by omega)
theorem op4 : Op4 Inv := by
  rintro d ρ ⟨σ, O, R, C, M⟩ x1 x2
  obtain ⟨c, hc, rfl⟩ := J_of x1
  obtain ⟨w, hw, rfl⟩ := J_of x2
  have hN := O.2.1.2.2.1
  have cm : J c = -1 ↔ c = -1 := by rw [jm1]; exact J_eq (by omega) (by omega)
  have w0 : J w = 0 ↔ w = 0 := by rw [j0]; exact J_eq (by omega) (by omega)
  have w1 : J w = 1 ↔ w = 1 := by rw [j1]; exact J_eq (by omega) (by omega)
  by_cases hop : 0 < kN (gM σ)
  · have hM := R.2.2.1.1 hop
    have hD := M.2.1.1 hop
    have op1 : ¬ d_i d 3 3 = 0 := by rw [R.2.2.1.2, if_pos hop]; decide
    have op2 : ¬ d_i d 23 4 = 0 := by rw [M.2.1.2, j0, J_eq (by omega) (by omega)]; omega
    have hwin : fX12_in (Int32.toInt64 (J w)) 0 1 = some (decide (0 ≤ w ∧ w ≤ 1)) := by
      rw [J_l (by omega), k0, k1]; exact in_val (by omega) (by omega) (by omega)
    by_cases hcc : c = -1 ∨ (0 ≤ c ∧ c < kN (gM σ))
    · refine ⟨if 0 ≤ w ∧ w ≤ 1 then (if c = -1 then (if w = 0 then J (kB (gM σ)) else J (kS (gM σ))) else (if w = 0 then J (kW (gM σ) c.toNat) else J (kV (gM σ) c.toNat))) else -102, ?_, ?_, ⟨σ, O, R, C, M⟩⟩
      · unfold fX11_told
        rw [if_neg op1, isCase_c hM O.2.1 hc]
        simp only [jn, Option.bind_some, cm, w0, w1]
        have go : (if w = 0 then (if c = -1 then (if w = 0 then some (d_i d ρ.1 0) else some (d_i d ρ.1 1)) else (if w = 0 then ((fX5_weightOf ρ d ρ.1 (J c)).bind fun r5 => some r5) else ((fX5_valueOf ρ d ρ.1 (J c)).bind fun r6 => some r6))) else (if w = 1 then (if c = -1 then (if w = 0 then some (d_i d ρ.1 0) else some (d_i d ρ.1 1)) else (if w = 0 then ((fX5_weightOf ρ d ρ.1 (J c)).bind fun r5 => some r5) else ((fX5_valueOf ρ d ρ.1 (J c)).bind fun r6 => some r6))) else some (-102))) = some (if 0 ≤ w ∧ w ≤ 1 then (if c = -1 then (if w = 0 then J (kB (gM σ)) else J (kS (gM σ))) else (if w = 0 then J (kW (gM σ) c.toNat) else J (kV (gM σ) c.toNat))) else -102) := by
          rw [hM.1, hM.2.1]
          have vals : ¬ c = -1 → fX5_weightOf ρ d ρ.1 (J c) = some (J (kW (gM σ) c.toNat)) ∧ fX5_valueOf ρ d ρ.1 (J c) = some (J (kV (gM σ) c.toNat)) := by
            intro q
            have e : c = ((c.toNat : Nat) : Int) := by omega
            have v1 := weightOf_val (ρ := ρ) hM O.2.1 (i := c.toNat) (by omega)
            have v2 := valueOf_val (ρ := ρ) hM O.2.1 (i := c.toNat) (by omega)
            rw [← e] at v1 v2
            exact ⟨v1, v2⟩
          by_cases q0 : w = 0
          · have q : 0 ≤ w ∧ w ≤ 1 := by omega
            by_cases qc : c = -1
            · simp [q0, qc]
            · simp [q0, qc, (vals qc).1]
          · by_cases q1 : w = 1
            · by_cases qc : c = -1
              · simp [q1, qc]
              · simp [q1, qc, (vals qc).2]
            · have q : ¬ (0 ≤ w ∧ w ≤ 1) := by omega
              rw [if_neg q0, if_neg q1, if_neg q]
        by_cases qc : c = -1
        · rw [if_pos qc]; exact go
        · have q3 : 0 ≤ c ∧ c < kN (gM σ) := by omega
          rw [if_neg qc, decide_eq_true q3, if_pos rfl]; exact go
      · unfold fX12_told
        rw [isCase_m M O hc, hwin]
        simp only [jn, Option.bind_some, cm, w0, op2, if_false]
        have go : (if decide (0 ≤ w ∧ w ≤ 1) = true then (if c = -1 then (if w = 0 then some (d_i d 23 2) else some (d_i d 23 3)) else (if w = 0 then (if inB (J c) 4 = true then some (d_i d 25 (ix (J c))) else none) else (if inB (J c) 4 = true then some (d_i d 26 (ix (J c))) else none))) else some (-102)) = some (if 0 ≤ w ∧ w ≤ 1 then (if c = -1 then (if w = 0 then J (kB (gM σ)) else J (kS (gM σ))) else (if w = 0 then J (kW (gM σ) c.toNat) else J (kV (gM σ) c.toNat))) else -102) := by
          rw [hD.1, hD.2.1]
          by_cases q : 0 ≤ w ∧ w ≤ 1
          · rw [decide_eq_true q, if_pos rfl, if_pos q]
            by_cases qc : c = -1
            · rw [if_pos qc, if_pos qc]; split <;> rfl
            · have hin : inB (J c) 4 = true := by rw [inB_J (by omega)]; omega
              have v := hD.2.2.2 c.toNat (by omega)
              rw [if_neg qc, if_neg qc, if_pos hin, if_pos hin, ix_J (by omega), v.1, v.2]; split <;> rfl
          · rw [decide_eq_false q, if_neg Bool.false_ne_true, if_neg q]
        by_cases qc : c = -1
        · rw [if_pos qc]; exact go
        · have q3 : 0 ≤ c ∧ c < kN (gM σ) := by omega
          rw [if_neg qc, decide_eq_true q3, if_pos rfl]; exact go
    · have qc : ¬ c = -1 := by omega
      have q3 : ¬ (0 ≤ c ∧ c < kN (gM σ)) := by omega
      refine ⟨-101, ?_, ?_, ⟨σ, O, R, C, M⟩⟩
      · unfold fX11_told
        rw [if_neg op1, isCase_c hM O.2.1 hc]
        simp only [jn, Option.bind_some, cm]
        rw [if_neg qc, decide_eq_false q3, if_neg Bool.false_ne_true]
      · unfold fX12_told
        rw [isCase_m M O hc]
        simp only [jn, Option.bind_some, cm]
        rw [if_neg qc, decide_eq_false q3, if_neg Bool.false_ne_true]
  · have n0 : kN (gM σ) = 0 := by omega
    have op1 : d_i d 3 3 = 0 := by rw [R.2.2.1.2, if_neg hop]; rfl
    have op2 : d_i d 23 4 = 0 := by rw [M.2.1.2, n0]; rfl
    have q3 : ¬ (0 ≤ c ∧ c < kN (gM σ)) := by omega
    refine ⟨-101, ?_, ?_, ⟨σ, O, R, C, M⟩⟩
    · unfold fX11_told
      rw [if_pos op1]
    · unfold fX12_told
      rw [isCase_m M O hc]
      simp only [jn, Option.bind_some, op2, if_true]
      by_cases qc : J c = -1
      · rw [if_pos qc]
      · rw [if_neg qc, decide_eq_false q3, if_neg Bool.false_ne_true]
