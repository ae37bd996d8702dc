def MktAt (d : Dd) (o : Nat) (μ : Mk) : Prop := d_i d o 0 = J (kB μ) ∧ d_i d o 1 = J (kS μ) ∧ d_i d o 2 = J (kN μ) ∧ d_i d o 3 = J (WT μ) ∧ ∀ c, c < kN μ → d_i d (o + 1) c = J (kW μ c) ∧ d_i d (o + 2) c = J (kV μ c)
def BuyAt (d : Dd) (β : By) : Prop := d_i d 15 2 = J (bN β) ∧ ∀ b, b < bN β → d_i d 16 b = J (bL β b) ∧ d_i d 17 b = J (bF β b)
def tgK (k : Int) : Nat := if k = 0 then 6 else if k = 1 then 9 else if k = 2 then 8 else if k = 3 then 0 else 4
def NewAt (d : Dd) (ρ : Rh) (o : Nat) (ν : Nw) : Prop := d_i d o 0 = J ν.1 ∧ d_i d o 1 = J ν.2 ∧ tg ρ o = tgK ν.1
def MdlAt (d : Dd) (μ : Mk) : Prop := d_i d 23 2 = J (kB μ) ∧ d_i d 23 3 = J (kS μ) ∧ d_i d 23 4 = J (kN μ) ∧ ∀ c, c < kN μ → d_i d 25 c = J (kW μ c) ∧ d_i d 26 c = J (kV μ c)
def MdlB (d : Dd) (β : By) : Prop := d_i d 23 15 = J (bN β) ∧ ∀ b, b < bN β → d_i d 29 b = J (bL β b) ∧ d_i d 30 b = J (bF β b)
def MdlN (d : Dd) (k : Nat) (ν : Nw) : Prop := k < 8 ∧ d_i d 31 k = J ν.1 ∧ d_i d 32 k = J ν.2
theorem part_sign : ∀ n : Nat, n < 256 → ∀ c : Nat, c < 4 → (jshr (J n) (2 * J c)) &&& 3 = J ((n / 4 ^ c % 4 : Nat)) := by decide +kernel
theorem set_bit : ∀ s : Nat, s < 16 → ∀ b : Nat, b < 4 → ((((jshr (J s) (J b)) &&& 1) = 1) ↔ s.testBit b = true) := by decide +kernel
theorem hAs_part {ν : Nw} (hn : nwOK ν) (h2 : ν.1 = 2) {c : Nat} (hc : c < 4) : (jshr (J ν.2) (2 * J c)) &&& 3 = J (hAs ν c) := by
  have h := part_sign ν.2.toNat (by have := hn.2.1; omega) c hc
  have e : ((ν.2.toNat : Nat) : Int) = ν.2 := by have := hn.2.1; omega
  rw [e] at h
  rw [h]
  unfold hAs
  rw [if_neg (by omega), if_pos h2]
  congr 1
  rw [Int.natCast_emod, Int.natCast_ediv, e, Int.natCast_pow]
  rfl
theorem hAs_bd {ν : Nw} {c : Nat} (hc : c < 4) : 0 ≤ hAs ν c ∧ hAs ν c < 4 := by
  unfold hAs
  split
  · omega
  · split
    · exact ⟨Int.emod_nonneg _ (by decide), Int.emod_lt_of_pos _ (by decide)⟩
    · omega
theorem weightOf_val {ρ : Rh} {d : Dd} {o : Nat} {μ : Mk} (M : MktAt d o μ) (h : mkOK μ) {i : Nat} (hi : i < kN μ) : fX5_weightOf ρ d o (J i) = some (J (kW μ i)) := by
  have hN := h.2.2.1
  have h0 : ¬ J (i : Int) < 0 := by rw [J_lit, J_lt (by omega) (by omega)]; omega
  have h1 : ¬ d_i d o 2 ≤ J i := by rw [M.2.2.1, J_le (by omega) (by omega)]; omega
  have h2 : ¬ (4 : Int32) ≤ J i := by rw [J_lit, J_le (by omega) (by omega)]; omega
  have h3 : inB (J i) 4 = true := by rw [inB_J (by omega)]; omega
  unfold fX5_weightOf
  rw [if_neg h0, if_neg h1, if_neg h2, if_pos h3, ix_J (by omega), Int.toNat_natCast, (M.2.2.2.2 i hi).1]
theorem valueOf_val {ρ : Rh} {d : Dd} {o : Nat} {μ : Mk} (M : MktAt d o μ) (h : mkOK μ) {i : Nat} (hi : i < kN μ) : fX5_valueOf ρ d o (J i) = some (J (kV μ i)) := by
  have hN := h.2.2.1
  have h0 : ¬ J (i : Int) < 0 := by rw [J_lit, J_lt (by omega) (by omega)]; omega
  have h1 : ¬ d_i d o 2 ≤ J i := by rw [M.2.2.1, J_le (by omega) (by omega)]; omega
  have h2 : ¬ (4 : Int32) ≤ J i := by rw [J_lit, J_le (by omega) (by omega)]; omega
  have h3 : inB (J i) 4 = true := by rw [inB_J (by omega)]; omega
  unfold fX5_valueOf
  rw [if_neg h0, if_neg h1, if_neg h2, if_pos h3, ix_J (by omega), Int.toNat_natCast, (M.2.2.2.2 i hi).2]
theorem wholeOf_val {μ : Mk} (h : mkOK μ) : fX6_wholeOf (J (kN μ)) = some (J (100 * oth μ)) := by
  have hN := h.2.2.1
  unfold fX6_wholeOf jmaxI oth
  rw [J_lit, J_lit, J_sub]
  by_cases e : kN μ ≤ 1
  · rw [if_pos e, if_neg (by rw [J_lt (by omega) (by omega)]; omega), J_mul]
  · rw [if_neg e]
    by_cases e2 : kN μ = 2
    · rw [if_neg (by rw [J_lt (by omega) (by omega)]; omega), J_mul, e2]; rfl
    · rw [if_pos (by rw [J_lt (by omega) (by omega)]; omega), J_mul]
theorem share_val {ρ : Rh} {d : Dd} {o : Nat} {μ : Mk} {ν : Nw} (N : NewAt d ρ o ν) (h : mkOK μ) (hn : nwOK ν) {c : Nat} (hc : c < kN μ) {s : Int} (hs : 0 ≤ s ∧ s < 4) : fv_share ρ d o (J c) (J s) (J (kN μ)) = some (J (shr μ ν c s)) := by
  have hN := h.2.2.1
  have ho := oth_bd μ h
  obtain ⟨N1, N2, N3⟩ := N
  have hcd : ¬ kN μ ≤ 1 → oth μ = (kN μ : Int) - 1 := fun q => by unfold oth; rw [if_neg q]
  have other : ∀ r : Int, 0 ≤ r ∧ r < 4 → hAs ν c = r → fv_signOf ρ d o (J c) = some (J r) → ¬ (ν.1 = 3 ∧ 2 ≤ kN μ) → fX6_share ρ d o (J c) (J s) (J (kN μ)) = some (J (shr μ ν c s)) := by
    intro r hr e1 e2 e3
    unfold fX6_share
    rw [e2, Option.bind_some, wholeOf_val h]
    simp only [J_eq (show -2147483648 ≤ s ∧ s < 2147483648 by omega) (show -2147483648 ≤ r ∧ r < 2147483648 by omega)]
    unfold shr
    rw [if_neg e3, e1]
    by_cases q : s = r
    · rw [if_pos q, if_pos q.symm]; rfl
    · rw [if_neg q, if_neg (fun z => q z.symm)]; rfl
  unfold fv_share
  have hk := hn.1
  rw [N3]
  by_cases k3 : ν.1 = 3
  · have ht : tgK ν.1 = 0 := by unfold tgK; simp [k3]
    rw [if_pos ht]
    unfold fX0_share
    have hb := hn.2.2 (by omega)
    have hb2 := hn.2.1
    have c2 : J s = J (c : Int) ↔ s = c := J_eq (by omega) (by omega)
    by_cases e : 2 ≤ kN μ
    · have c0 : (2 : Int32) ≤ J (kN μ : Int) := by rw [J_lit, J_le (by omega) (by omega)]; omega
      have c1 : J s < J (kN μ : Int) ↔ s < kN μ := J_lt (by omega) (by omega)
      have hS : shr μ ν c s = if s = c then (100 - ν.2) * oth μ else if s < kN μ then ν.2 else 0 := by
        have hc : ν.1 = 3 ∧ 2 ≤ kN μ := ⟨k3, e⟩
        unfold shr; rw [if_pos hc]
      rw [if_pos c0, hS]
      by_cases q : s < kN μ
      · by_cases q2 : s = c
        · rw [if_pos (c1.mpr q), if_pos (c2.mpr q2), if_pos q2, N2, J_lit, J_lit, J_sub, J_sub, J_mul, hcd (by omega)]
        · rw [if_pos (c1.mpr q), if_neg (fun z => q2 (c2.mp z)), if_neg q2, if_pos q, N2]
      · have q2 : ¬ s = c := by omega
        rw [if_neg (fun z => q (c1.mp z)), if_neg q2, if_neg q]; rfl
    · have c0 : ¬ (2 : Int32) ≤ J (kN μ : Int) := by rw [J_lit, J_le (by omega) (by omega)]; omega
      have hh : hAs ν c = c := by
        have z0 : ¬ ν.1 = 0 := by omega
        have z2 : ¬ ν.1 = 2 := by omega
        unfold hAs; rw [if_neg z0, if_neg z2]
      have hS : shr μ ν c s = if (c : Int) = s then 100 * oth μ else 0 := by
        have hc : ¬ (ν.1 = 3 ∧ 2 ≤ kN μ) := by omega
        unfold shr; rw [if_neg hc, hh]
      rw [if_neg c0, hS, wholeOf_val h]
      by_cases q2 : s = c
      · rw [if_pos (c2.mpr q2), if_pos q2.symm]; rfl
      · have q3 : ¬ (c : Int) = s := fun z => q2 z.symm
        rw [if_neg (fun z => q2 (c2.mp z)), if_neg q3]; rfl
  · have ht : ¬ tgK ν.1 = 0 := by unfold tgK; (repeat' split) <;> first | decide | omega
    rw [if_neg ht]
    refine other (hAs ν c) (hAs_bd (by omega)) rfl ?_ (fun z => k3 z.1)
    unfold fv_signOf
    rw [N3]
    rcases (show ν.1 = 0 ∨ ν.1 = 1 ∨ ν.1 = 2 ∨ ν.1 = 4 by omega) with e | e | e | e
    · have : tgK ν.1 = 6 := by unfold tgK; simp [e]
      rw [this]
      show some (0 : Int32) = some (J (hAs ν c))
      unfold hAs; rw [if_pos e]; rfl
    · have : tgK ν.1 = 9 := by unfold tgK; simp [e]
      rw [this]
      show some (J c) = some (J (hAs ν c))
      unfold hAs; rw [if_neg (by omega), if_neg (by omega)]
    · have : tgK ν.1 = 8 := by unfold tgK; simp [e]
      rw [this]
      show fX8_signOf ρ d o (J c) = some (J (hAs ν c))
      unfold fX8_signOf
      rw [N2, hAs_part hn e (by omega)]
    · have : tgK ν.1 = 4 := by unfold tgK; simp [e]
      rw [this]
      show some (J c) = some (J (hAs ν c))
      unfold hAs; rw [if_neg (by omega), if_neg (by omega)]
theorem nearer_val {ρ : Rh} {d : Dd} {o : Nat} {ν : Nw} (N : NewAt d ρ o ν) (hn : nwOK ν) : fv_nearer ρ d o = some (J (nr ν)) := by
  obtain ⟨N1, N2, N3⟩ := N
  have hk := hn.1
  unfold fv_nearer
  rw [N3]
  by_cases e : ν.1 = 4
  · have : tgK ν.1 = 4 := by unfold tgK; simp [e]
    rw [if_pos this]
    unfold fX4_nearer nr
    rw [N2, if_pos e]
  · have : ¬ tgK ν.1 = 4 := by
      unfold tgK
      (repeat' split) <;> first | decide | omega
    rw [if_neg this]
    unfold fX6_nearer nr
    rw [if_neg e]; rfl
