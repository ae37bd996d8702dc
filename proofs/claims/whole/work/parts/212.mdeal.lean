/-! the reference's dealings -/
theorem in_val {a lo hi : Int} (ha : -9000000000000000000 ≤ a ∧ a ≤ 9000000000000000000) (hl : -9000000000000000000 ≤ lo ∧ lo ≤ 9000000000000000000) (hh : -9000000000000000000 ≤ hi ∧ hi ≤ 9000000000000000000) : fX12_in (K a) (K lo) (K hi) = some (decide (lo ≤ a ∧ a ≤ hi)) := by
  unfold fX12_in
  have c1 : K a < K lo ↔ a < lo := K_lt (by omega) (by omega)
  have c2 : K hi < K a ↔ hi < a := K_lt (by omega) (by omega)
  by_cases q1 : a < lo
  · have q : ¬ (lo ≤ a ∧ a ≤ hi) := by omega
    rw [if_pos (c1.mpr q1), decide_eq_false q]
  · rw [if_neg (fun z => q1 (c1.mp z))]
    by_cases q2 : hi < a
    · have q : ¬ (lo ≤ a ∧ a ≤ hi) := by omega
      rw [if_pos (c2.mpr q2), decide_eq_false q]
    · have q : lo ≤ a ∧ a ≤ hi := by omega
      rw [if_neg (fun z => q2 (c2.mp z)), decide_eq_true q]
theorem power_val {b : Nat} (hb : b < 4) : fX12_power (J b) = some (J (7 ^ b)) := by
  rcases (show b = 0 ∨ b = 1 ∨ b = 2 ∨ b = 3 by omega) with rfl | rfl | rfl | rfl <;> rfl
theorem pow7_bd {b : Nat} (hb : b < 4) : (1 : Int) ≤ 7 ^ b ∧ (7 : Int) ^ b ≤ 343 := by
  rcases (show b = 0 ∨ b = 1 ∨ b = 2 ∨ b = 3 by omega) with rfl | rfl | rfl | rfl <;> decide
theorem st_J {z b : Nat} (hz : z < 2401) (hb : b < 4) : jrem (J z / J (7 ^ b)) 7 - 3 = J (st z b) := by
  have h7 := pow7_bd hb
  have e1 : (z : Int).tdiv (7 ^ b) = ((z / 7 ^ b : Nat) : Int) := by
    rw [Int.tdiv_eq_ediv_of_nonneg (by omega), Int.natCast_ediv, Int.natCast_pow]; rfl
  have e2 : z / 7 ^ b ≤ z := Nat.div_le_self _ _
  unfold st
  rw [J_div (by omega) (by omega) (by omega), e1]
  generalize z / 7 ^ b = q at e2 ⊢
  rw [j7, J_rem (by omega) (by omega) (by decide), j3, J_sub]
  have h : (q : Int).tmod 7 = ((q % 7 : Nat) : Int) := tmod_nat q 7
  rw [h]
theorem stepsOf_val {z b : Nat} (hz : z < 2401) (hb : b < 4) : fX12_stepsOf (J z) (J b) = some (J (st z b)) := by
  have h7 := pow7_bd hb
  unfold fX12_stepsOf
  rw [power_val hb, Option.bind_some]
  have h0 : ¬ J (7 ^ b) = 0 := by rw [j0, J_eq (by omega) (by omega)]; omega
  rw [if_neg h0, st_J hz hb]
theorem together_val {ρ : Rh} {d : Dd} {β : By} (B : MdlB d β) (hβ : byOK β) {z : Nat} (hz : z < 2401) : fX12_together ρ d (J z) = some (J (TT β z)) := by
  have hN := hβ.1
  unfold fX12_together TT
  refine lp_up (bN β) (fun i => (J (sm i (st z)), J (i : Int))) (fun i hi self => ?_) (fun self => ?_) 6000 (by omega)
  · have h1 : ¬ d_i d 23 15 ≤ J (i : Int) := by rw [B.1, J_le (by omega) (by omega)]; omega
    simp only [h1, if_false]
    rw [stepsOf_val hz (by omega), Option.bind_some]
    simp only [bnd]
    rw [J_add, j1, J_add]; rfl
  · have h1 : d_i d 23 15 ≤ J (bN β : Int) := by rw [B.1, J_le (by omega) (by omega)]; omega
    simp only [h1, if_true]
theorem TT_bd {β : By} (hβ : byOK β) (z : Nat) : -12 ≤ TT β z ∧ TT β z ≤ 12 := by
  have hN := hβ.1
  have := sm_bd (n := bN β) (f := st z) (lo := -3) (hi := 3) (fun b _ => st_bd z b)
  unfold TT
  omega
theorem isOf_val {ρ : Rh} {d : Dd} {β : By} (B : MdlB d β) (hβ : byOK β) {z set : Nat} (hz : z < 2401) (hs : set < 16) : ∃ r, fX12_isOf ρ d (J z) (J set) = some r ∧ (r = true ↔ inBox β set z) := by
  have hN := hβ.1
  unfold fX12_isOf
  refine lp_n (fun n s => ∃ (i : Nat) (b : Bool), i + n = bN β ∧ s = (b, J (i : Int)) ∧ (b = true ↔ ∀ k, k < i → -lm β set k ≤ st z k ∧ st z k ≤ lm β set k)) (fun o => ∃ r, o = some r ∧ (r = true ↔ inBox β set z)) ?_ 6000 (bN β) _ ⟨0, true, by omega, rfl, by simp⟩ (by omega)
  rintro n s ⟨i, b, hi, rfl, hb⟩ self
  by_cases h4 : i = bN β
  · right
    have h1 : d_i d 23 15 ≤ J (i : Int) := by rw [B.1, J_le (by omega) (by omega)]; omega
    simp only [h1, if_true]
    exact ⟨b, rfl, by rw [hb, h4]; rfl⟩
  · left
    have hib : i < bN β := by omega
    have h1 : ¬ d_i d 23 15 ≤ J (i : Int) := by rw [B.1, J_le (by omega) (by omega)]; omega
    have h3 : inB (J (i : Int)) 4 = true := by rw [inB_J (by omega)]; omega
    have hst := st_bd z i
    have hl := (hβ.2 i hib).1
    have next : ∀ (c : Bool) (o : Option Bool), (c = true ↔ (b = true ∧ -lm β set i ≤ st z i ∧ st z i ≤ lm β set i)) → o = self (c, J (i : Int) + 1) → ∃ s' n', n' < n ∧ (∃ (i : Nat) (b : Bool), i + n' = bN β ∧ s' = (b, J (i : Int)) ∧ (b = true ↔ ∀ k, k < i → -lm β set k ≤ st z k ∧ st z k ≤ lm β set k)) ∧ o = self s' := by
      intro c o hc ho
      refine ⟨_, n - 1, by omega, ⟨i + 1, c, by omega, rfl, ?_⟩, by rw [ho, j1, J_add]; rfl⟩
      rw [hc, hb]
      constructor
      · rintro ⟨h5, h6⟩ k hk
        by_cases e : k = i
        · rw [e]; exact h6
        · exact h5 k (by omega)
      · intro h5
        exact ⟨fun k hk => h5 k (by omega), h5 i (by omega)⟩
    simp only [h1, if_false]
    rw [stepsOf_val hz (by omega), Option.bind_some]
    simp only [jn]
    by_cases hbt : b = true
    · rw [if_pos hbt]
      by_cases hbit : set.testBit i = true
      · have e1 := (set_bit set hs i (by omega)).mpr hbit
        have el : lm β set i = bL β i := by unfold lm; rw [if_pos ⟨hib, hbit⟩]
        rw [if_pos e1, if_pos h3, if_pos h3, ix_J (by omega), Int.toNat_natCast, (B.2 i hib).1, J_neg, J_l (by omega), J_l (by omega), J_l (by omega), in_val (by omega) (by omega) (by omega), Option.bind_some]
        by_cases q : -bL β i ≤ st z i ∧ st z i ≤ bL β i
        · rw [decide_eq_true q, if_pos rfl]
          exact next true _ (by rw [el]; simp [hbt, q]) rfl
        · rw [decide_eq_false q, if_neg Bool.false_ne_true]
          exact next false _ (by rw [el]; simp; intro _ h; omega) rfl
      · have e1 := fun h => hbit ((set_bit set hs i (by omega)).mp h)
        have el : lm β set i = 0 := lm_out hbit
        have c0 : J (st z i) = 0 ↔ st z i = 0 := by rw [j0]; exact J_eq (by omega) (by omega)
        rw [if_neg e1]
        by_cases q : st z i = 0
        · rw [if_pos (c0.mpr q)]
          exact next true _ (by rw [el]; simp [hbt, q]) rfl
        · rw [if_neg (fun h => q (c0.mp h))]
          exact next false _ (by rw [el]; simp; intro _ h; omega) rfl
    · rw [if_neg hbt]
      exact next false _ (by simp [hbt]) rfl
def MdlD (d : Dd) (η : Hg) : Prop := d_l d 23 21 = K (100 * η.2.1) ∧ d_l d 23 22 = K η.1 ∧ d_i d 23 3 = J η.2.2
theorem made_alg (x E S T W f a : Int) : x * (100 * E - 100 * S * T * W) - 100 * f * a * W = 100 * (x * (E - W * S * T) - W * f * a) := by grind
theorem made_val {ρ : Rh} {d : Dd} {β : By} {η : Hg} (B : MdlB d β) (D : MdlD d η) (hβ : byOK β) (hη : hgOK η) {b : Nat} (hb : b < bN β) {x T : Int} (hx : -100 ≤ x ∧ x ≤ 100) (hT : -100 ≤ T ∧ T ≤ 100) : fX12_made ρ d (J b) (J x) (J T) = some (K (100 * gn η.1 η.2.1 η.2.2 (bF β b) x T)) := by
  have hN := hβ.1
  have hη3 := hη.2.2
  have hf := (hβ.2 b hb).2
  have h3 : inB (J (b : Int)) 4 = true := by rw [inB_J (by omega)]; omega
  have c0 : (0 : Int32) ≤ J x ↔ 0 ≤ x := by rw [j0]; exact J_le (by omega) (by omega)
  have hab : 0 ≤ ab x ∧ ab x ≤ 100 := by unfold ab; split <;> omega
  have key : (if inB (J (b : Int)) 4 = true then some (Int32.toInt64 (J x) * (d_l d 23 21 - 100 * Int32.toInt64 (d_i d 23 3) * Int32.toInt64 (J T) * d_l d 23 22) - 100 * Int32.toInt64 (d_i d 30 (ix (J (b : Int)))) * Int32.toInt64 (J (ab x)) * d_l d 23 22) else none) = some (K (100 * gn η.1 η.2.1 η.2.2 (bF β b) x T)) := by
    rw [if_pos h3, ix_J (by omega), Int.toNat_natCast, (B.2 b hb).2, D.1, D.2.1, D.2.2, J_l (by omega), J_l (by omega), J_l (by omega), J_l (by omega), J_l (by omega), k100]
    simp only [K_mul, K_sub]
    rw [made_alg]; rfl
  unfold fX12_made
  simp only [jn]
  by_cases q : 0 ≤ x
  · rw [if_pos (c0.mpr q)]
    have e : ab x = x := by unfold ab; rw [if_pos q]
    rw [e] at key; exact key
  · rw [if_neg (fun h => q (c0.mp h)), J_neg]
    have e : ab x = -x := by unfold ab; rw [if_neg q]
    rw [e] at key; exact key
theorem allMake_val {ρ : Rh} {d : Dd} {β : By} {η : Hg} (B : MdlB d β) (D : MdlD d η) (hβ : byOK β) (hη : hgOK η) {z : Nat} (hz : z < 2401) : fX12_allMake ρ d (J z) = some (K (100 * tz η β z)) := by
  have hN := hβ.1
  have hT := TT_bd hβ z
  unfold fX12_allMake
  rw [show (100 * tz η β z : Int) = sm (bN β) (fun b => 100 * gn η.1 η.2.1 η.2.2 (bF β b) (st z b) (TT β z)) by rw [sm_mul]; rfl]
  refine lp_up (bN β) (fun i => (K (sm i (fun b => 100 * gn η.1 η.2.1 η.2.2 (bF β b) (st z b) (TT β z))), J (i : Int))) (fun i hi self => ?_) (fun self => ?_) 6000 (by omega)
  · have h1 : ¬ d_i d 23 15 ≤ J (i : Int) := by rw [B.1, J_le (by omega) (by omega)]; omega
    have hst := st_bd z i
    simp only [h1, if_false]
    rw [stepsOf_val hz (by omega), Option.bind_some, together_val B hβ hz, Option.bind_some, made_val B D hβ hη hi (by omega) (by omega), Option.bind_some]
    simp only [bnd]
    rw [K_add, j1, J_add]; rfl
  · have h1 : d_i d 23 15 ≤ J (bN β : Int) := by rw [B.1, J_le (by omega) (by omega)]; omega
    simp only [h1, if_true]
theorem dealings_val {ρ : Rh} {d : Dd} {β : By} (B : MdlB d β) (hβ : byOK β) : fX12_dealings ρ d = some (J ((7 ^ bN β : Nat) : Int)) := by
  have hN := hβ.1
  unfold fX12_dealings
  refine lp_up (bN β) (fun i => (J ((7 ^ i : Nat) : Int), J (i : Int))) (fun i hi self => ?_) (fun self => ?_) 6000 (by omega)
  · have h1 : ¬ d_i d 23 15 ≤ J (i : Int) := by rw [B.1, J_le (by omega) (by omega)]; omega
    simp only [h1, if_false, bnd]
    rw [j7, J_mul, j1, J_add, Nat.pow_succ, Int.natCast_mul]; rfl
  · have h1 : d_i d 23 15 ≤ J (bN β : Int) := by rw [B.1, J_le (by omega) (by omega)]; omega
    simp only [h1, if_true]
