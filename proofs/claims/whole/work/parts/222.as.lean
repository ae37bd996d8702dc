def isK (k q : Int) : Bool := decide (q = 0) || decide (q = k) || (decide (q = 1) && decide (2 < k))
def isOfT (t : Nat) (a1 : Int32) : Option Bool := if a1 = 0 then some true else if a1 = 1 then some (insB 9 t) else if a1 = 2 then some (insB 8 t) else if a1 = 3 then some (insB 0 t) else if a1 = 4 then some (insB 4 t) else some false
theorem isOfT_val : ∀ k : Fin 5, ∀ q : Fin 5, isOfT (tgK (k.val : Int)) (J (q.val : Int)) = some (isK (k.val : Int) (q.val : Int)) := by decide +kernel
theorem isOf_c {ρ : Rh} {d : Dd} {o : Nat} {ν : Nw} (N : NewAt d ρ o ν) (hn : nwOK ν) {q : Int} (hq : 0 ≤ q ∧ q < 5) : fv_isOf ρ d o (J q) = some (isK ν.1 q) := by
  have hk := hn.1
  have e : fv_isOf ρ d o (J q) = isOfT (tg ρ o) (J q) := rfl
  rw [e, N.2.2]
  have h := isOfT_val ⟨ν.1.toNat, by omega⟩ ⟨q.toNat, by omega⟩
  have e1 : ((ν.1.toNat : Nat) : Int) = ν.1 := by omega
  have e2 : ((q.toNat : Nat) : Int) = q := by omega
  dsimp only at h
  rw [e1, e2] at h
  exact h
theorem op8 : Op8 Inv := by
  rintro d ρ ⟨σ, O, R, C, M⟩ x1 x2
  obtain ⟨a, ha, rfl⟩ := J_of x1
  obtain ⟨q, hq, rfl⟩ := J_of x2
  have hn8 := O.2.2.2.1.1
  refine ⟨if 0 ≤ a ∧ a < gN σ then (if 0 ≤ q ∧ q < 5 then (if isK (gV σ a.toNat).1 q = true then J a else -1) else -102) else -101, ?_, ?_, ⟨σ, O, R, C, M⟩⟩
  · unfold fX11_as
    by_cases p : 0 ≤ a ∧ a < gN σ
    · have ea : a = ((a.toNat : Nat) : Int) := by omega
      have h1 := newsAt_in R O (k := a.toNat) (by omega)
      rw [← ea] at h1
      have n0 : ¬ 35 + a.toNat = 0 := by omega
      have c1 : J q < 0 ↔ q < 0 := by rw [j0]; exact J_lt (by omega) (by omega)
      have c2 : J q < 5 ↔ q < 5 := by rw [j5]; exact J_lt (by omega) (by omega)
      rw [h1, Option.bind_some, if_neg n0, if_pos p]
      by_cases p1 : q < 0
      · have p3 : ¬ (0 ≤ q ∧ q < 5) := by omega
        rw [if_pos (c1.mpr p1), if_neg p3]
      · rw [if_neg (fun z => p1 (c1.mp z))]
        by_cases p2 : q < 5
        · have p3 : 0 ≤ q ∧ q < 5 := by omega
          rw [if_pos (c2.mpr p2), if_pos p3, isOf_c (R.2.2.2.2.1.2.2 a.toNat (by omega)) (O.2.2.2.1.2 a.toNat (by omega)) p3, Option.bind_some]
          split <;> rfl
        · have p3 : ¬ (0 ≤ q ∧ q < 5) := by omega
          rw [if_neg (fun z => p2 (c2.mp z)), if_neg p3]
    · rw [newsAt_out R O ha p, Option.bind_some, if_pos rfl, if_neg p]
  · unfold fX12_as
    rw [isNews_val M O ha, Option.bind_some]
    by_cases p : 0 ≤ a ∧ a < gN σ
    · have ea : a = ((a.toNat : Nat) : Int) := by omega
      obtain ⟨m0, m1, m2⟩ := M.2.2.2.1.2 a.toNat (by omega)
      have hk := (O.2.2.2.1.2 a.toNat (by omega)).1
      rw [decide_eq_true p, if_pos rfl, if_pos p, J_l (by omega), k0, show (4 : Int64) = K 4 from rfl, in_val (by omega) (by omega) (by omega), Option.bind_some]
      by_cases p3 : 0 ≤ q ∧ q < 5
      · have p4 : 0 ≤ q ∧ q ≤ 4 := by omega
        have hin : inB (J a) 8 = true := by rw [inB_J (by omega)]; omega
        have e31 : d_i d 31 (ix (J a)) = J (gV σ a.toNat).1 := by rw [ix_J (by omega), m1]
        have c0 : J q = 0 ↔ q = 0 := by rw [j0]; exact J_eq (by omega) (by omega)
        have c1 : J q = 1 ↔ q = 1 := by rw [j1]; exact J_eq (by omega) (by omega)
        have ck : J q = J (gV σ a.toNat).1 ↔ q = (gV σ a.toNat).1 := J_eq (by omega) (by omega)
        have c2 : J (gV σ a.toNat).1 ≤ 2 ↔ (gV σ a.toNat).1 ≤ 2 := by rw [j2]; exact J_le (by omega) (by omega)
        rw [decide_eq_true p4, if_pos rfl, if_pos p3]
        simp only [jn, hin, if_true, e31, c0, c1, ck, c2, Bool.false_eq_true, if_false]
        unfold isK
        by_cases q0 : q = 0
        · simp [q0]
        · by_cases q1 : q = (gV σ a.toNat).1
          · rw [if_neg q0, if_pos q1]; simp [q1]
          · by_cases q2 : q = 1
            · by_cases q3 : (gV σ a.toNat).1 ≤ 2
              · have q4 : ¬ 2 < (gV σ a.toNat).1 := by omega
                rw [if_neg q0, if_neg q1, if_pos q2, if_pos q3]; simp [q0, q1, q4]
              · have q4 : 2 < (gV σ a.toNat).1 := by omega
                rw [if_neg q0, if_neg q1, if_pos q2, if_neg q3]; simp [q2, q4]
            · rw [if_neg q0, if_neg q1, if_neg q2]; simp [q0, q1, q2]
      · have p4 : ¬ (0 ≤ q ∧ q ≤ 4) := by omega
        rw [decide_eq_false p4, if_neg Bool.false_ne_true, if_neg p3]
    · rw [decide_eq_false p, if_neg Bool.false_ne_true, if_neg p]
