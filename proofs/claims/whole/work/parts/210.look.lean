def nearB (η : Hg) (β : By) (x : Nat → Int) (T : Int) (b : Nat) : Prop :=
  (x b < lim β b → gn η.1 η.2.1 η.2.2 (fee β b) (x b + 1) (T + 1) ≤ gn η.1 η.2.1 η.2.2 (fee β b) (x b) T) ∧ (-lim β b < x b → gn η.1 η.2.1 η.2.2 (fee β b) (x b + -1) (T + -1) ≤ gn η.1 η.2.1 η.2.2 (fee β b) (x b) T)
theorem isAtRest_val {ρ : Rh} {d : Dd} {η : Hg} {β : By} {set : Nat} (D : DealAt d η set) (B : BuyAt d β) (hη : hgOK η) (hβ : byOK β) (hs : setOK β set) {x : Nat → Int} (hx : ∀ b, b < 4 → -lm β set b ≤ x b ∧ x b ≤ lm β set b) : ∃ r, fX2_isAtRest ρ (sv d x (sm 4 x)) = some r ∧ (r = true ↔ ∀ b, b < 4 → set.testBit b = true → nearB η β x (sm 4 x) b) := by
  have hT := sum_bd hβ hx
  have Dx := D.sv x (sm 4 x)
  have Bx := B.sv x (sm 4 x)
  unfold fX2_isAtRest
  refine lp_n (fun n s => ∃ i : Nat, i + n = 4 ∧ s = J (i : Int) ∧ ∀ b, b < i → set.testBit b = true → nearB η β x (sm 4 x) b) (fun o => ∃ r, o = some r ∧ (r = true ↔ ∀ b, b < 4 → set.testBit b = true → nearB η β x (sm 4 x) b)) ?_ 6000 4 _ ⟨0, by omega, rfl, fun b hb => absurd hb (by omega)⟩ (by omega)
  rintro n s ⟨i, hi, rfl, hn⟩ self
  by_cases h4 : i = 4
  · subst h4
    right
    have h1 : (4 : Int32) ≤ J ((4 : Nat) : Int) := by decide
    simp only [h1, if_true]
    exact ⟨true, rfl, by simp; exact hn⟩
  · have h1 : ¬ (4 : Int32) ≤ J (i : Int) := by rw [J_lit, J_le (by omega) (by omega)]; omega
    have h3 : inB (J (i : Int)) 4 = true := by rw [inB_J (by omega)]; omega
    simp only [h1, if_false]
    rw [Dx.2.2.2, isIn_val hs.1 (by omega), Option.bind_some]
    simp only [jn]
    have next : (∀ b, b < i + 1 → set.testBit b = true → nearB η β x (sm 4 x) b) → ∀ o : Option Bool, o = self (J (i : Int) + 1) → (∃ s' n', n' < n ∧ (∃ i' : Nat, i' + n' = 4 ∧ s' = J (i' : Int) ∧ ∀ b, b < i' → set.testBit b = true → nearB η β x (sm 4 x) b) ∧ o = self s') ∨ ∃ r, o = some r ∧ (r = true ↔ ∀ b, b < 4 → set.testBit b = true → nearB η β x (sm 4 x) b) := by
      intro hnn o ho
      exact Or.inl ⟨_, n - 1, by omega, ⟨i + 1, by omega, rfl, hnn⟩, by rw [ho, J_lit, J_add]; rfl⟩
    by_cases hb : set.testBit i = true
    · have hl := lim_bd hβ i
      have hf := fee_bd hβ i
      have hxi := hx i (by omega)
      rw [lm_in hs hb] at hxi
      have b0 := (gn_bd (W := η.1) (E := η.2.1) (S := η.2.2) (f := fee β i) (x := x i) (T := sm 4 x) hη.1 hη.2.1 hη.2.2 hf (by omega) (by omega)).2.2.2.2.2.2
      have b1 := (gn_bd (W := η.1) (E := η.2.1) (S := η.2.2) (f := fee β i) (x := x i + 1) (T := sm 4 x + 1) hη.1 hη.2.1 hη.2.2 hf (by omega) (by omega)).2.2.2.2.2.2
      have b2 := (gn_bd (W := η.1) (E := η.2.1) (S := η.2.2) (f := fee β i) (x := x i + -1) (T := sm 4 x + -1) hη.1 hη.2.1 hη.2.2 hf (by omega) (by omega)).2.2.2.2.2.2
      have g0 := gain_val (ρ := ρ) Dx Bx hη hβ (b := i) (by omega) (e := 0) (sv_s (by omega)) sv_t (by omega) (by omega) (by omega)
      have g1 := gain_val (ρ := ρ) Dx Bx hη hβ (b := i) (by omega) (e := 1) (sv_s (by omega)) sv_t (by omega) (by omega) (by omega)
      have g2 := gain_val (ρ := ρ) Dx Bx hη hβ (b := i) (by omega) (e := -1) (sv_s (by omega)) sv_t (by omega) (by omega) (by omega)
      rw [Int.add_zero, Int.add_zero] at g0
      have z0 : J 0 = 0 := rfl
      have z1 : J 1 = 1 := rfl
      have z2 : J (-1) = -1 := rfl
      rw [z0] at g0
      rw [z1] at g1
      rw [z2] at g2
      rw [if_pos hb, limitOf_val Bx hβ (by omega), Option.bind_some, g0, Option.bind_some, g1, g2]
      simp only [h3, if_true, ix_J (show 0 ≤ (i : Int) ∧ (i : Int) < 2147483648 by omega), Int.toNat_natCast, Option.bind_some, J_neg]
      rw [sv_s (by omega)]
      have c1 : J (lim β i) ≤ J (x i) ↔ lim β i ≤ x i := J_le (by omega) (by omega)
      have c2 : J (x i) ≤ J (-lim β i) ↔ x i ≤ -lim β i := J_le (by omega) (by omega)
      have c3 := K_le (a := gn η.1 η.2.1 η.2.2 (fee β i) (x i + 1) (sm 4 x + 1)) (b := gn η.1 η.2.1 η.2.2 (fee β i) (x i) (sm 4 x)) (by omega) (by omega)
      have c4 := K_le (a := gn η.1 η.2.1 η.2.2 (fee β i) (x i + -1) (sm 4 x + -1)) (b := gn η.1 η.2.1 η.2.2 (fee β i) (x i) (sm 4 x)) (by omega) (by omega)
      simp only [c1, c2, c3, c4]
      by_cases hnb : nearB η β x (sm 4 x) i
      · have hres : ∀ b, b < i + 1 → set.testBit b = true → nearB η β x (sm 4 x) b := fun b hb1 hb2 => by
          by_cases e : b = i
          · rw [e]; exact hnb
          · exact hn b (by omega) hb2
        refine next hres _ ?_
        obtain ⟨n1, n2⟩ := hnb
        by_cases p1 : lim β i ≤ x i
        · rw [if_pos p1]
          by_cases p2 : x i ≤ -lim β i
          · simp [p2]
          · simp [p2, n2 (by omega)]
        · rw [if_neg p1, if_pos (n1 (by omega))]
          by_cases p2 : x i ≤ -lim β i
          · simp [p2]
          · simp [p2, n2 (by omega)]
      · right
        have hres : ¬ ∀ b, b < 4 → set.testBit b = true → nearB η β x (sm 4 x) b := fun z => hnb (z i (by omega) hb)
        refine ⟨false, ?_, by simp; simpa using hres⟩
        unfold nearB at hnb
        by_cases p1 : lim β i ≤ x i
        · rw [if_pos p1]
          by_cases p2 : x i ≤ -lim β i
          · exact absurd ⟨fun z => absurd z (by omega), fun z => absurd z (by omega)⟩ hnb
          · have p3 : ¬ gn η.1 η.2.1 η.2.2 (fee β i) (x i + -1) (sm 4 x + -1) ≤ gn η.1 η.2.1 η.2.2 (fee β i) (x i) (sm 4 x) := fun z => hnb ⟨fun z2 => absurd z2 (by omega), fun _ => z⟩
            simp [p2, p3]
        · rw [if_neg p1]
          by_cases p3 : gn η.1 η.2.1 η.2.2 (fee β i) (x i + 1) (sm 4 x + 1) ≤ gn η.1 η.2.1 η.2.2 (fee β i) (x i) (sm 4 x)
          · rw [if_pos p3]
            by_cases p2 : x i ≤ -lim β i
            · exact absurd ⟨fun _ => p3, fun z => absurd z (by omega)⟩ hnb
            · have p4 : ¬ gn η.1 η.2.1 η.2.2 (fee β i) (x i + -1) (sm 4 x + -1) ≤ gn η.1 η.2.1 η.2.2 (fee β i) (x i) (sm 4 x) := fun z => hnb ⟨fun _ => p3, fun _ => z⟩
              simp [p2, p4]
          · rw [if_neg p3]
            by_cases p2 : x i ≤ -lim β i
            · simp [p2]
            · by_cases p4 : gn η.1 η.2.1 η.2.2 (fee β i) (x i + -1) (sm 4 x + -1) ≤ gn η.1 η.2.1 η.2.2 (fee β i) (x i) (sm 4 x)
              · simp [p2, p4]
              · simp [p2, p4]
    · rw [if_neg hb]
      refine next (fun b hb1 hb2 => ?_) _ rfl
      by_cases e : b = i
      · rw [e] at hb2; exact absurd hb2 hb
      · exact hn b (by omega) hb2
theorem madeTog_val {ρ : Rh} {d : Dd} {η : Hg} {β : By} {set : Nat} (D : DealAt d η set) (B : BuyAt d β) (hη : hgOK η) (hβ : byOK β) {x : Nat → Int} (hx : ∀ b, b < 4 → -lm β set b ≤ x b ∧ x b ≤ lm β set b) : fX2_madeTogether ρ (sv d x (sm 4 x)) = some (K (sm 4 fun b => gn η.1 η.2.1 η.2.2 (fee β b) (x b) (sm 4 x))) := by
  have hT := sum_bd hβ hx
  have Dx := D.sv x (sm 4 x)
  have Bx := B.sv x (sm 4 x)
  unfold fX2_madeTogether
  refine lp_up 4 (fun i => (K (sm i fun b => gn η.1 η.2.1 η.2.2 (fee β b) (x b) (sm 4 x)), J (i : Int))) (fun i hi self => ?_) (fun self => ?_) 6000 (by omega)
  · have h1 : ¬ (4 : Int32) ≤ J (i : Int) := by rw [J_lit, J_le (by omega) (by omega)]; omega
    have hxi := hx i hi
    have hl := lm_bd hβ set i
    have g0 := gain_val (ρ := ρ) Dx Bx hη hβ (b := i) (by omega) (e := 0) (sv_s (by omega)) sv_t (by omega) (by omega) (by omega)
    rw [Int.add_zero, Int.add_zero] at g0
    have z0 : J 0 = 0 := rfl
    rw [z0] at g0
    simp only [h1, if_false]
    rw [g0, Option.bind_some]
    simp only [bnd]
    rw [K_add, J_lit, J_add]
    rfl
  · have h1 : (4 : Int32) ≤ J ((4 : Nat) : Int) := by decide
    simp only [h1, if_true]
theorem pl_val {d : Dd} (P : PlAt d) {i : Nat} (hi : i < 4) : d_i d 1 i = J (7 ^ i) := by
  rcases (show i = 0 ∨ i = 1 ∨ i = 2 ∨ i = 3 by omega) with rfl | rfl | rfl | rfl
  · exact P.1
  · exact P.2.1
  · exact P.2.2.1
  · exact P.2.2.2
theorem number_val {ρ : Rh} {d : Dd} {β : By} (B : BuyAt d β) (P : PlAt d) (hβ : byOK β) {x : Nat → Int} {T : Int} : fX2_number ρ (sv d x T) = some (J (num (bN β) x)) := by
  have Bx := B.sv x T
  have Px := P.sv x T
  have hN := hβ.1
  unfold fX2_number num
  refine lp_up (bN β) (fun i => (J (sm i fun b => (x b + 3) * 7 ^ b), J (i : Int))) (fun i hi self => ?_) (fun self => ?_) 6000 (by omega)
  · have h1 : ¬ (4 : Int32) ≤ J (i : Int) := by rw [J_lit, J_le (by omega) (by omega)]; omega
    have h2 : ¬ J (bN β : Int) ≤ J (i : Int) := by rw [J_le (by omega) (by omega)]; omega
    have h3 : inB (J (i : Int)) 4 = true := by rw [inB_J (by omega)]; omega
    simp only [h1, if_false, Bx.1, h2, h3, if_true, bnd, ix_J (show 0 ≤ (i : Int) ∧ (i : Int) < 2147483648 by omega), Int.toNat_natCast]
    rw [sv_s (by omega), pl_val Px (by omega), J_lit, J_add, J_mul, J_add, J_lit, J_add]
    rfl
  · by_cases e : bN β = 4
    · rw [e]
      have h1 : (4 : Int32) ≤ J ((4 : Nat) : Int) := by decide
      simp only [h1, if_true]
    · have h1 : ¬ (4 : Int32) ≤ J (bN β : Int) := by rw [J_lit, J_le (by omega) (by omega)]; omega
      have h2 : J (bN β : Int) ≤ J (bN β : Int) := by rw [J_le (by omega) (by omega)]; omega
      simp only [h1, if_false, Bx.1, h2, if_true]
