/-! worth; shut -/
theorem bit_nat : ∀ b : Nat, b < 4 → jshl 1 (J b) = J ((2 ^ b : Nat) : Int) := by decide +kernel
theorem bit_val {b : Nat} (hb : b < 4) : fX11_bit (J b) = some (J ((2 ^ b : Nat) : Int)) := by
  unfold fX11_bit
  rw [bit_nat b hb]
theorem two_lt {b n : Nat} (h : b < n) : 2 ^ b < 2 ^ n := Nat.pow_lt_pow_right (by omega) h
theorem rfs_101 {σ : Sg} {a : Int} {A : Prop} [Decidable A] {inside : Bool} (h : ¬ (0 ≤ a ∧ a < gN σ) ∨ (0 < kN (gM σ) ∧ ¬ A)) : rfs σ a (decide A) inside = -101 := by
  unfold rfs
  by_cases q : 0 ≤ a ∧ a < gN σ
  · have nq : ¬ ¬ (0 ≤ a ∧ a < gN σ) := fun z => z q
    rcases h with h | ⟨h1, h2⟩
    · exact absurd q h
    · have n1 : ¬ kN (gM σ) = 0 := by omega
      rw [if_neg nq, if_neg n1, decide_eq_false h2, if_neg Bool.false_ne_true]
  · rw [if_pos q]
theorem early_m {ρ : Rh} {d : Dd} {σ : Sg} (M : RM d σ) (O : sgOK σ) {a b : Int} (ha : -2147483648 ≤ a ∧ a < 2147483648) (hb : -2147483648 ≤ b ∧ b < 2147483648) {γ : Type} (F : Unit → Option γ) (x : Option γ) (hx : ¬ (0 ≤ a ∧ a < gN σ) ∨ (0 < kN (gM σ) ∧ ¬ (0 ≤ b ∧ b < bN (gB σ))) → F () = x) :
    ((fX12_isNews ρ d (J a)).bind fun r1 => if r1 = true then jn F (fun k3 => if d_i d 23 4 ≤ 0 then k3 () else (fX12_isBuyer ρ d (J b)).bind fun r12 => if r12 = true then k3 () else x) else x) = F () := by
  have hN := O.2.1.2.2.1
  rw [isNews_val M O ha, Option.bind_some]
  by_cases q : 0 ≤ a ∧ a < gN σ
  · rw [decide_eq_true q, if_pos rfl, jn_eq]
    by_cases p : kN (gM σ) = 0
    · have c : d_i d 23 4 ≤ 0 := by rw [M.2.1.2, p]; decide
      rw [if_pos c]
    · have c : ¬ d_i d 23 4 ≤ 0 := by rw [M.2.1.2, j0, J_le (by omega) (by omega)]; omega
      rw [if_neg c, isBuyer_m M.2.2.1 O.2.2.1 hb, Option.bind_some]
      by_cases w : 0 ≤ b ∧ b < bN (gB σ)
      · rw [decide_eq_true w, if_pos rfl]
      · rw [decide_eq_false w, if_neg Bool.false_ne_true]
        exact (hx (Or.inr ⟨by omega, w⟩)).symm
  · rw [decide_eq_false q, if_neg Bool.false_ne_true]
    exact (hx (Or.inl q)).symm
theorem op13 : Op13 Inv := by
  rintro d ρ ⟨σ, O, R, C, M⟩ x1 x2 x3 x4
  obtain ⟨a, ha, rfl⟩ := J_of x1
  obtain ⟨t, ht, rfl⟩ := J_of x2
  obtain ⟨b, hb, rfl⟩ := J_of x3
  obtain ⟨p, hp, rfl⟩ := J_of x4
  have hβ := O.2.2.1
  have B := R.2.2.2.1
  have hN := hβ.1
  have h2N := two_le hN
  have hk8 := O.2.2.2.1.1
  rcases rfs_cases σ a (decide (0 ≤ b ∧ b < (bN (gB σ) : Int))) (decide ((0 ≤ t ∧ t < ((2 ^ bN (gB σ) : Nat) : Int)) ∧ (p = 0 ∨ p = 1))) with ⟨h0, ha0, ha1, hop, hnm, hins⟩ | hbad
  · have hb4 := of_decide_eq_true hnm
    obtain ⟨ht4, hp1⟩ := of_decide_eq_true hins
    have hz : J (rfs σ a (decide (0 ≤ b ∧ b < (bN (gB σ) : Int))) (decide ((0 ≤ t ∧ t < ((2 ^ bN (gB σ) : Nat) : Int)) ∧ (p = 0 ∨ p = 1)))) = 0 := by rw [h0]; rfl
    obtain ⟨k, rfl⟩ : ∃ k : Nat, a = (k : Int) := ⟨a.toNat, by omega⟩
    obtain ⟨set, rfl⟩ : ∃ k : Nat, t = (k : Int) := ⟨t.toNat, by omega⟩
    obtain ⟨i, rfl⟩ : ∃ k : Nat, b = (k : Int) := ⟨b.toNat, by omega⟩
    have hset : set < 2 ^ bN (gB σ) := by omega
    have hk : k < gN σ := by omega
    have hi : i < bN (gB σ) := by omega
    obtain ⟨d1, s1, f1, C1, row, -⟩ := settle_val R O C hop hk hset
    have R1 := R.fr f1
    have M1 := M.frC f1
    obtain ⟨d2, w1, f2, -⟩ := mworth_val (ρ := ρ) M1 O hop hk (show set < 16 by omega) hi
    have f2s := f2.ms
    have M2 := M1.frM f2s
    have hw := WO_bd (set := set) O.2.1 (O.2.2.2.1.2 k hk) hβ hi
    have hW := whole_bd O.2.1 hop
    refine ⟨K (frc (WO (gM σ) (gV σ k) (gB σ) set i) (WT (gM σ) * (100 * oth (gM σ))) p), d1, d2, ?_, ?_, inv_cm O R M C1 f1 f2s, f1.cs2⟩
    · unfold fX11_worth
      rw [has_c B hβ hb, Option.bind_some, isSet_val B hβ ht, Option.bind_some]
      refine (jn_b _ _ (decide ((0 ≤ (set : Int) ∧ (set : Int) < ((2 ^ bN (gB σ) : Nat) : Int)) ∧ (p = 0 ∨ p = 1))) (fun k => ?_)).trans ?_
      · rw [isPart_c hp, jn_eq, Option.bind_some]; exact if2 _ _ k
      rw [refusal_c R O ha, Option.bind_some, if_pos hz, s1, Option.bind_some, worthOf_row row (by omega) (by omega) (by omega), Option.bind_some, wholeW_val (R1.2.2.1.1 hop) O.2.1 (WT_bd O.2.1).1, Option.bind_some, pt_val (by omega) (by omega) hp1, Option.bind_some]
    · unfold fX12_worth
      rw [isBuyer_m M1.2.2.1 hβ hb, Option.bind_some, isSet_m M1.2.2.1 hβ ht, Option.bind_some]
      refine (jn_b _ _ (decide ((0 ≤ (set : Int) ∧ (set : Int) < ((2 ^ bN (gB σ) : Nat) : Int)) ∧ (p = 0 ∨ p = 1))) (fun k => ?_)).trans ?_
      · rw [isPart_m hp, jn_eq, Option.bind_some]; exact if2 _ _ k
      rw [refusal_m M1 O ha, Option.bind_some, if_pos hz, w1, Option.bind_some, below_val (M2.2.1.1 hop) O.2.1, Option.bind_some, tm_val (by omega) (by omega) hp1, Option.bind_some, frc_100 _ _ _ (by omega)]
  · have hne : ¬ J (rfs σ a (decide (0 ≤ b ∧ b < (bN (gB σ) : Int))) (decide ((0 ≤ t ∧ t < ((2 ^ bN (gB σ) : Nat) : Int)) ∧ (p = 0 ∨ p = 1)))) = 0 := by rcases hbad with h | h | h <;> rw [h] <;> decide
    refine ⟨K (rfL (rfs σ a (decide (0 ≤ b ∧ b < (bN (gB σ) : Int))) (decide ((0 ≤ t ∧ t < ((2 ^ bN (gB σ) : Nat) : Int)) ∧ (p = 0 ∨ p = 1))))), d, d, ?_, ?_, ⟨σ, O, R, C, M⟩, rfl⟩
    · unfold fX11_worth
      rw [has_c B hβ hb, Option.bind_some, isSet_val B hβ ht, Option.bind_some]
      refine (jn_b _ _ (decide ((0 ≤ t ∧ t < ((2 ^ bN (gB σ) : Nat) : Int)) ∧ (p = 0 ∨ p = 1))) (fun k => ?_)).trans ?_
      · rw [isPart_c hp, jn_eq, Option.bind_some]; exact if2 _ _ k
      rw [refusal_c R O ha, Option.bind_some, if_neg hne, refusedPart_val hbad, Option.bind_some]
    · unfold fX12_worth
      rw [isBuyer_m M.2.2.1 hβ hb, Option.bind_some, isSet_m M.2.2.1 hβ ht, Option.bind_some]
      refine (jn_b _ _ (decide ((0 ≤ t ∧ t < ((2 ^ bN (gB σ) : Nat) : Int)) ∧ (p = 0 ∨ p = 1))) (fun k => ?_)).trans ?_
      · rw [isPart_m hp, jn_eq, Option.bind_some]; exact if2 _ _ k
      rw [refusal_m M O ha, Option.bind_some, if_neg hne, asLong_val hbad, Option.bind_some]
theorem op19 : Op19 Inv := by
  rintro d ρ ⟨σ, O, R, C, M⟩ x1 x2 x3
  obtain ⟨a, ha, rfl⟩ := J_of x1
  obtain ⟨b, hb, rfl⟩ := J_of x2
  obtain ⟨p, hp, rfl⟩ := J_of x3
  have hβ := O.2.2.1
  have B := R.2.2.2.1
  have hN := hβ.1
  have h2N := two_le hN
  have hk8 := O.2.2.2.1.1
  rcases rfs_cases σ a (decide (0 ≤ b ∧ b < (bN (gB σ) : Int))) (decide (p = 0 ∨ p = 1)) with ⟨h0, ha0, ha1, hop, hnm, hins⟩ | hbad
  · have hb4 := of_decide_eq_true hnm
    have hp1 := of_decide_eq_true hins
    have hz : J (rfs σ a (decide (0 ≤ b ∧ b < (bN (gB σ) : Int))) (decide (p = 0 ∨ p = 1))) = 0 := by rw [h0]; rfl
    obtain ⟨k, rfl⟩ : ∃ k : Nat, a = (k : Int) := ⟨a.toNat, by omega⟩
    obtain ⟨i, rfl⟩ : ∃ k : Nat, b = (k : Int) := ⟨b.toNat, by omega⟩
    have hk : k < gN σ := by omega
    have hi : i < bN (gB σ) := by omega
    have h2i := two_lt hi
    have hev : 2 ^ bN (gB σ) - 1 < 2 ^ bN (gB σ) := by omega
    obtain ⟨d1, s1, f1, C1, row1, -⟩ := settle_val R O C hop hk h2i
    have R1 := R.fr f1
    obtain ⟨d2, s2, f2, C2, row2, rows⟩ := settle_val R1 O C1 hop hk hev
    have row1' := rows k (2 ^ i) (by omega) (by omega) row1
    have f12 := f1.tr f2
    have R2 := R.fr f12
    have M2 := M.frC f12
    obtain ⟨d3, w3, f3, -⟩ := mworth_val (ρ := ρ) M2 O hop hk (show 2 ^ i < 16 by omega) hi
    have M3 := M2.frM f3.ms
    obtain ⟨d4, w4, f4, -⟩ := mworth_val (ρ := ρ) M3 O hop hk (show 2 ^ bN (gB σ) - 1 < 16 by omega) hi
    have f34 := f3.ms.tr f4.ms
    have M4 := M2.frM f34
    have hw1 := WO_bd (set := 2 ^ i) O.2.1 (O.2.2.2.1.2 k hk) hβ hi
    have hw2 := WO_bd (set := 2 ^ bN (gB σ) - 1) O.2.1 (O.2.2.2.1.2 k hk) hβ hi
    have hW := whole_bd O.2.1 hop
    have hsh : jshl 1 (d_i d3 23 15) - 1 = J ((2 ^ bN (gB σ) - 1 : Nat) : Int) := by
      rw [M3.2.2.1.1, shl_val _ hN]; congr 1; omega
    have ebit := bit_val (b := i) (by omega)
    have eal : K (100 * WO (gM σ) (gV σ k) (gB σ) (2 ^ i) i) - K (100 * WO (gM σ) (gV σ k) (gB σ) (2 ^ bN (gB σ) - 1) i) = K (100 * (WO (gM σ) (gV σ k) (gB σ) (2 ^ i) i - WO (gM σ) (gV σ k) (gB σ) (2 ^ bN (gB σ) - 1) i)) := by
      rw [K_sub]; congr 1; omega
    refine ⟨K (frc (WO (gM σ) (gV σ k) (gB σ) (2 ^ i) i - WO (gM σ) (gV σ k) (gB σ) (2 ^ bN (gB σ) - 1) i) (WT (gM σ) * (100 * oth (gM σ))) p), d2, d4, ?_, ?_, inv_cm O R M C2 f12 f34, f12.cs2⟩
    · unfold fX11_shut
      rw [has_c B hβ hb, Option.bind_some, isPart_c hp, Option.bind_some]
      rw [refusal_c R O ha, Option.bind_some, if_pos hz, ebit, Option.bind_some, s1, Option.bind_some, ev_val R1.2.2.2.1 hβ, Option.bind_some, s2, Option.bind_some, Option.bind_some, worthOf_row row1' (by omega) (by omega) (by omega), Option.bind_some, ev_val R2.2.2.2.1 hβ, Option.bind_some, worthOf_row row2 (by omega) (by omega) (by omega), Option.bind_some, wholeW_val (R2.2.2.1.1 hop) O.2.1 (WT_bd O.2.1).1, Option.bind_some, K_sub, pt_val (by omega) (by omega) hp1, Option.bind_some]
    · unfold fX12_shut
      refine (early_m M2 O ha hb _ _ (fun hx => ?_)).trans ?_
      · rw [isBuyer_m M2.2.2.1 hβ hb, Option.bind_some, isPart_m hp, Option.bind_some, refusal_m M2 O ha, Option.bind_some, rfs_101 hx]; rfl
      rw [isBuyer_m M2.2.2.1 hβ hb, Option.bind_some, isPart_m hp, Option.bind_some]
      rw [refusal_m M2 O ha, Option.bind_some, if_pos hz, bit_nat i (by omega), w3, Option.bind_some, hsh, w4, Option.bind_some, below_val (M4.2.1.1 hop) O.2.1, Option.bind_some, eal, tm_val (by omega) (by omega) hp1, Option.bind_some, frc_100 _ _ _ (by omega)]
  · have hne : ¬ J (rfs σ a (decide (0 ≤ b ∧ b < (bN (gB σ) : Int))) (decide (p = 0 ∨ p = 1))) = 0 := by rcases hbad with h | h | h <;> rw [h] <;> decide
    refine ⟨K (rfL (rfs σ a (decide (0 ≤ b ∧ b < (bN (gB σ) : Int))) (decide (p = 0 ∨ p = 1)))), d, d, ?_, ?_, ⟨σ, O, R, C, M⟩, rfl⟩
    · unfold fX11_shut
      rw [has_c B hβ hb, Option.bind_some, isPart_c hp, Option.bind_some]
      rw [refusal_c R O ha, Option.bind_some, if_neg hne, refusedPart_val hbad, Option.bind_some]
    · unfold fX12_shut
      refine (early_m M O ha hb _ _ (fun hx => ?_)).trans ?_
      · rw [isBuyer_m M.2.2.1 hβ hb, Option.bind_some, isPart_m hp, Option.bind_some, refusal_m M O ha, Option.bind_some, rfs_101 hx]; rfl
      rw [isBuyer_m M.2.2.1 hβ hb, Option.bind_some, isPart_m hp, Option.bind_some]
      rw [refusal_m M O ha, Option.bind_some, if_neg hne, asLong_val hbad, Option.bind_some]
