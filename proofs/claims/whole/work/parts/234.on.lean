/-! who would tell on -/
def FS (p : Nat → Prop) (n : Nat) (r : Int) : Prop := (r = -1 ∧ ∀ j, j < n → ¬ p j) ∨ ∃ j, j < n ∧ r = (j : Int) ∧ p j ∧ ∀ i, i < j → ¬ p i
theorem FS_ex (p : Nat → Prop) (n : Nat) : ∃ r, FS p n r := by
  induction n with
  | zero => exact ⟨-1, Or.inl ⟨rfl, fun j hj => absurd hj (Nat.not_lt_zero j)⟩⟩
  | succ n ih =>
    obtain ⟨r, h | ⟨j, h1, h2, h3, h4⟩⟩ := ih
    · by_cases q : p n
      · exact ⟨n, Or.inr ⟨n, by omega, rfl, q, h.2⟩⟩
      · refine ⟨-1, Or.inl ⟨rfl, fun j hj => ?_⟩⟩
        by_cases e : j = n
        · subst e; exact q
        · exact h.2 j (by omega)
    · exact ⟨r, Or.inr ⟨j, by omega, h2, h3, h4⟩⟩
theorem FS_hit {p : Nat → Prop} {n : Nat} {r : Int} (h : FS p n r) {j : Nat} (hj : j < n) (hp : p j) (hq : ∀ i, i < j → ¬ p i) : r = (j : Int) := by
  rcases h with ⟨-, h⟩ | ⟨i, h1, h2, h3, h4⟩
  · exact absurd hp (h j hj)
  · rw [h2]
    have a : ¬ i < j := fun z => hq i z h3
    have b : ¬ j < i := fun z => h4 j z hp
    omega
theorem FS_none {p : Nat → Prop} {n : Nat} {r : Int} (h : FS p n r) (hq : ∀ i, i < n → ¬ p i) : r = -1 := by
  rcases h with ⟨h, -⟩ | ⟨i, h1, h2, h3, h4⟩
  · exact h
  · exact absurd h3 (hq i h1)
def tp (μ : Mk) (ν : Nw) (β : By) (set i j : Nat) : Prop := ¬ set.testBit j = true ∧ WO μ ν β set i < WO μ ν β (set ||| 2 ^ j) i + WO μ ν β (set ||| 2 ^ j) j
def tq (μ : Mk) (ν : Nw) (β : By) (set i : Nat) : Prop := set.testBit i = true ∧ ∃ j, j < bN β ∧ tp μ ν β set i j
noncomputable def tb (μ : Mk) (ν : Nw) (β : By) (set i : Nat) : Int := Classical.choose (FS_ex (tp μ ν β set i) (bN β))
theorem tb_is (μ : Mk) (ν : Nw) (β : By) (set i : Nat) : FS (tp μ ν β set i) (bN β) (tb μ ν β set i) := Classical.choose_spec (FS_ex (tp μ ν β set i) (bN β))
noncomputable def tR (μ : Mk) (ν : Nw) (β : By) (set : Nat) : Int := Classical.choose (FS_ex (tq μ ν β set) (bN β))
theorem tR_is (μ : Mk) (ν : Nw) (β : By) (set : Nat) : FS (tq μ ν β set) (bN β) (tR μ ν β set) := Classical.choose_spec (FS_ex (tq μ ν β set) (bN β))
noncomputable def onR (μ : Mk) (ν : Nw) (β : By) (set : Nat) (w : Int) : Int := if tR μ ν β set = -1 then -1 else if w = 0 then tR μ ν β set else tb μ ν β set (tR μ ν β set).toNat
theorem or_eq : ∀ s : Nat, s < 16 → ∀ b : Nat, b < 4 → ((s ||| 2 ^ b = s) ↔ s.testBit b = true) := by decide +kernel
theorem set_bit0 : ∀ s : Nat, s < 16 → ∀ b : Nat, b < 4 → ((((jshr (J s) (J b)) &&& 1) = 0) ↔ ¬ s.testBit b = true) := by decide +kernel
theorem toldBy_val {ρ : Rh} {d : Dd} {σ : Sg} (B : BuyAt d (gB σ)) (O : sgOK σ) {k set i : Nat} (hk : k < gN σ) (hset : set < 2 ^ bN (gB σ)) (hi : i < bN (gB σ)) (rows : ∀ s, s < 2 ^ bN (gB σ) → RowOK d σ k s) :
    fX11_toldBy ρ d (J k) (J set) (J i) = some (J (tb (gM σ) (gV σ k) (gB σ) set i)) := by
  have hβ := O.2.2.1
  have hN := hβ.1
  have h2N := two_le hN
  have hk8 := O.2.2.2.1.1
  have hT := tb_is (gM σ) (gV σ k) (gB σ) set i
  unfold fX11_toldBy
  rw [worthOf_row (rows set hset) (show k < 8 by omega) (show set < 16 by omega) (show i < 4 by omega), Option.bind_some]
  refine lp_e (bN (gB σ)) (fun j s => s = J (j : Int) ∧ ∀ j', j' < j → ¬ tp (gM σ) (gV σ k) (gB σ) set i j') (fun o => o = some (J (tb (gM σ) (gV σ k) (gB σ) set i))) ?_ ?_ 6000 (by omega) _ ⟨rfl, fun j' hj' => absurd hj' (Nat.not_lt_zero j')⟩
  · rintro j hj s ⟨rfl, hno⟩ self
    have h1 : ¬ d_i d 15 2 ≤ J (j : Int) := by rw [B.1, J_le (by omega) (by omega)]; omega
    have hor := set_or set (by omega) j (by omega)
    have hlt : set ||| 2 ^ j < 2 ^ bN (gB σ) := Nat.or_lt_two_pow hset (two_lt hj)
    have heq := or_eq set (by omega) j (by omega)
    have c : J ((set ||| 2 ^ j : Nat) : Int) = J (set : Int) ↔ set.testBit j = true := by
      rw [← heq, J_eq (by omega) (by omega)]; omega
    have w1 := worthOf_row (ρ := ρ) (rows _ hlt) (show k < 8 by omega) hor.2 (show i < 4 by omega)
    have w2 := worthOf_row (ρ := ρ) (rows _ hlt) (show k < 8 by omega) hor.2 (show j < 4 by omega)
    have b1 := WO_bd (set := set ||| 2 ^ j) O.2.1 (O.2.2.2.1.2 k hk) hβ hi
    have b2 := WO_bd (set := set ||| 2 ^ j) O.2.1 (O.2.2.2.1.2 k hk) hβ hj
    have b3 := WO_bd (set := set) O.2.1 (O.2.2.2.1.2 k hk) hβ hi
    have next : ¬ tp (gM σ) (gV σ k) (gB σ) set i j → ∀ j', j' < j + 1 → ¬ tp (gM σ) (gV σ k) (gB σ) set i j' := fun q j' hj' => by
      by_cases e : j' = j
      · subst e; exact q
      · exact hno j' (by omega)
    simp only [h1, if_false, bit_val (show j < 4 by omega), Option.bind_some, bnd_eq, jn_eq, hor.1, w1, w2]
    by_cases q : set.testBit j = true
    · refine Or.inl ⟨_, ⟨rfl, next (fun z => z.1 q)⟩, ?_⟩
      rw [if_pos (c.mpr q), j1, J_add]; rfl
    · rw [if_neg (fun z => q (c.mp z)), K_add]
      have c2 : K (WO (gM σ) (gV σ k) (gB σ) (set ||| 2 ^ j) i + WO (gM σ) (gV σ k) (gB σ) (set ||| 2 ^ j) j) ≤ K (WO (gM σ) (gV σ k) (gB σ) set i) ↔ WO (gM σ) (gV σ k) (gB σ) (set ||| 2 ^ j) i + WO (gM σ) (gV σ k) (gB σ) (set ||| 2 ^ j) j ≤ WO (gM σ) (gV σ k) (gB σ) set i := K_le (by omega) (by omega)
      by_cases q2 : WO (gM σ) (gV σ k) (gB σ) set i < WO (gM σ) (gV σ k) (gB σ) (set ||| 2 ^ j) i + WO (gM σ) (gV σ k) (gB σ) (set ||| 2 ^ j) j
      · right
        rw [if_neg (fun z => by have := c2.mp z; omega), FS_hit hT hj ⟨q, q2⟩ hno]
      · refine Or.inl ⟨_, ⟨rfl, next (fun z => q2 z.2)⟩, ?_⟩
        rw [if_pos (c2.mpr (by omega)), j1, J_add]; rfl
  · rintro s ⟨rfl, hno⟩ self
    have h1 : d_i d 15 2 ≤ J (bN (gB σ) : Int) := by rw [B.1, J_le (by omega) (by omega)]; omega
    simp only [h1, if_true]
    rw [FS_none hT hno]; rfl
theorem tq_tb {μ : Mk} {ν : Nw} {β : By} {set i : Nat} (hβ : byOK β) : (-1 ≤ tb μ ν β set i ∧ tb μ ν β set i < 4) ∧ (tb μ ν β set i = -1 ↔ ¬ ∃ j, j < bN β ∧ tp μ ν β set i j) := by
  have hN := hβ.1
  rcases tb_is μ ν β set i with ⟨h1, h2⟩ | ⟨j, h1, h2, h3, h4⟩
  · exact ⟨by omega, fun _ => fun ⟨j, hj, hp⟩ => h2 j hj hp, fun _ => h1⟩
  · exact ⟨by omega, fun z => by omega, fun z => absurd ⟨j, h1, h3⟩ z⟩
theorem if2o {γ : Type} (A B C : Prop) [Decidable A] [Decidable B] [Decidable C] (k : Bool → γ) : (if decide A = true then (if B then k true else (if C then k true else k false)) else k false) = k (decide (A ∧ (B ∨ C))) := by
  by_cases hA : A <;> by_cases hB : B <;> by_cases hC : C <;> simp [hA, hB, hC]
theorem op18 : Op18 Inv := by
  rintro d ρ ⟨σ, O, R, C, M⟩ x1 x2 x3
  obtain ⟨a, ha, rfl⟩ := J_of x1
  obtain ⟨t, ht, rfl⟩ := J_of x2
  obtain ⟨w, hw, rfl⟩ := J_of x3
  have hβ := O.2.2.1
  have B := R.2.2.2.1
  have hN := hβ.1
  have h2N := two_le hN
  have hk8 := O.2.2.2.1.1
  have c0 : J w = 0 ↔ w = 0 := by rw [j0]; exact J_eq (by omega) (by omega)
  have c1 : J w = 1 ↔ w = 1 := by rw [j1]; exact J_eq (by omega) (by omega)
  rcases rfs_cases σ a true (decide ((0 ≤ t ∧ t < ((2 ^ bN (gB σ) : Nat) : Int)) ∧ (w = 0 ∨ w = 1))) with ⟨h0, ha0, ha1, hop, hnm, hins⟩ | hbad
  · obtain ⟨ht4, hw1⟩ := of_decide_eq_true hins
    have hz : J (rfs σ a true (decide ((0 ≤ t ∧ t < ((2 ^ bN (gB σ) : Nat) : Int)) ∧ (w = 0 ∨ w = 1)))) = 0 := by rw [h0]; rfl
    obtain ⟨k, rfl⟩ : ∃ k : Nat, a = (k : Int) := ⟨a.toNat, by omega⟩
    obtain ⟨set, rfl⟩ : ∃ k : Nat, t = (k : Int) := ⟨t.toNat, by omega⟩
    have hset : set < 2 ^ bN (gB σ) := by omega
    have hk : k < gN σ := by omega
    obtain ⟨d1, s1, f1, C1, rows⟩ := settleAll_val (ρ := ρ) R O C hop hk
    have R1 := R.fr f1
    have M1 := M.frC f1
    have hT := tR_is (gM σ) (gV σ k) (gB σ) set
    have hon : ∀ i, i < bN (gB σ) → tq (gM σ) (gV σ k) (gB σ) set i → (∀ i', i' < i → ¬ tq (gM σ) (gV σ k) (gB σ) set i') → J (onR (gM σ) (gV σ k) (gB σ) set w) = if J w = 0 then J (i : Int) else J (tb (gM σ) (gV σ k) (gB σ) set i) := by
      intro i hi hp hno
      have e := FS_hit hT hi hp hno
      unfold onR
      rw [if_neg (by omega)]
      by_cases q : w = 0
      · rw [if_pos q, if_pos (c0.mpr q), e]
      · rw [if_neg q, if_neg (fun z => q (c0.mp z)), e]; rfl
    have hon0 : (∀ i', i' < bN (gB σ) → ¬ tq (gM σ) (gV σ k) (gB σ) set i') → onR (gM σ) (gV σ k) (gB σ) set w = -1 := by
      intro hno
      have e := FS_none hT hno
      unfold onR
      rw [if_pos e]
    have hc : ∃ d2, fX12_on ρ d1 (J (k : Int)) (J (set : Int)) (J w) = some (J (onR (gM σ) (gV σ k) (gB σ) set w), d2) ∧ Fr MS d1 d2 := by
      unfold fX12_on
      rw [isSet_m M1.2.2.1 hβ ht, Option.bind_some]
      rw [jn_b _ _ (decide ((0 ≤ (set : Int) ∧ (set : Int) < ((2 ^ bN (gB σ) : Nat) : Int)) ∧ (w = 0 ∨ w = 1))) (fun k => ?_)]
      rotate_left
      · rw [in01 hw, jn_eq, Option.bind_some]; exact if2 _ _ k
      rw [refusal_m M1 O ha, Option.bind_some, if_pos hz]
      refine lp_e (bN (gB σ)) (fun i s => ∃ d', s = (J (i : Int), d') ∧ Fr MS d1 d' ∧ ∀ i', i' < i → ¬ tq (gM σ) (gV σ k) (gB σ) set i') (fun o => ∃ d2, o = some (J (onR (gM σ) (gV σ k) (gB σ) set w), d2) ∧ Fr MS d1 d2) ?_ ?_ 6000 (by omega) _ ⟨d1, rfl, Fr.rf, fun j' hj' => absurd hj' (Nat.not_lt_zero j')⟩
      · rintro i hi s ⟨d', rfl, f, hno⟩ self
        have M' := M1.frM f
        have h1 : ¬ d_i d' 23 15 ≤ J (i : Int) := by rw [M'.2.2.1.1, J_le (by omega) (by omega)]; omega
        have next : ¬ tq (gM σ) (gV σ k) (gB σ) set i → ∀ j', j' < i + 1 → ¬ tq (gM σ) (gV σ k) (gB σ) set j' := fun q j' hj' => by
          by_cases e : j' = i
          · subst e; exact q
          · exact hno j' (by omega)
        have hsb := set_bit set (by omega) i (by omega)
        by_cases q : set.testBit i = true
        · obtain ⟨d3, w3, f3, -⟩ := mworth_val (ρ := ρ) M' O hop hk (show set < 16 by omega) hi
          have hq := hsb.mpr q
          simp only [h1, if_false, jn_eq, hq, if_true, w3, Option.bind_some]
          refine lp_e (bN (gB σ)) (fun j s => ∃ d', s = (J (j : Int), d') ∧ Fr MS d1 d' ∧ ∀ j', j' < j → ¬ tp (gM σ) (gV σ k) (gB σ) set i j') (fun o => (∃ s', (∃ d', s' = (J ((i + 1 : Nat) : Int), d') ∧ Fr MS d1 d' ∧ ∀ i', i' < i + 1 → ¬ tq (gM σ) (gV σ k) (gB σ) set i') ∧ o = self s') ∨ ∃ d2, o = some (J (onR (gM σ) (gV σ k) (gB σ) set w), d2) ∧ Fr MS d1 d2) ?_ ?_ 6000 (by omega) _ ⟨d3, rfl, f.tr f3.ms, fun j' hj' => absurd hj' (Nat.not_lt_zero j')⟩
          · rintro j hj s ⟨d4, rfl, f4, hnj⟩ self2
            have M4 := M1.frM f4
            have h2 : ¬ d_i d4 23 15 ≤ J (j : Int) := by rw [M4.2.2.1.1, J_le (by omega) (by omega)]; omega
            have nextj : ¬ tp (gM σ) (gV σ k) (gB σ) set i j → ∀ j', j' < j + 1 → ¬ tp (gM σ) (gV σ k) (gB σ) set i j' := fun q j' hj' => by
              by_cases e : j' = j
              · subst e; exact q
              · exact hnj j' (by omega)
            have hsb0 := set_bit0 set (by omega) j (by omega)
            by_cases q2 : set.testBit j = true
            · have hq2 : ¬ (jshr (J (set : Int)) (J (j : Int)) &&& 1) = 0 := fun z => hsb0.mp z q2
              simp only [h2, if_false, hq, if_true, jn_eq, hq2]
              refine Or.inl ⟨_, ⟨d4, rfl, f4, nextj (fun z => z.1 q2)⟩, ?_⟩
              rw [j1, J_add]; rfl
            · have hq2 := hsb0.mpr q2
              have hor := set_or set (by omega) j (by omega)
              have ebit := bit_nat j (by omega)
              obtain ⟨d5, w5, f5, hv5⟩ := mworth_val (ρ := ρ) M4 O hop hk hor.2 hi
              obtain ⟨p1, p2, p3⟩ := w33 hor.2 (show j < 4 by omega)
              have b1 := WO_bd (set := set ||| 2 ^ j) O.2.1 (O.2.2.2.1.2 k hk) hβ hi
              have b2 := WO_bd (set := set ||| 2 ^ j) O.2.1 (O.2.2.2.1.2 k hk) hβ hj
              have b3 := WO_bd (set := set) O.2.1 (O.2.2.2.1.2 k hk) hβ hi
              have f15 := f4.tr f5.ms
              simp only [h2, if_false, hq, if_true, jn_eq, bnd_eq, hq2, ebit, hor.1, w5, Option.bind_some, p1, p2, p3, hv5 j hj, K_add]
              have c2 : K (100 * WO (gM σ) (gV σ k) (gB σ) (set ||| 2 ^ j) i + 100 * WO (gM σ) (gV σ k) (gB σ) (set ||| 2 ^ j) j) ≤ K (100 * WO (gM σ) (gV σ k) (gB σ) set i) ↔ 100 * WO (gM σ) (gV σ k) (gB σ) (set ||| 2 ^ j) i + 100 * WO (gM σ) (gV σ k) (gB σ) (set ||| 2 ^ j) j ≤ 100 * WO (gM σ) (gV σ k) (gB σ) set i := K_le (by omega) (by omega)
              by_cases q3 : WO (gM σ) (gV σ k) (gB σ) set i < WO (gM σ) (gV σ k) (gB σ) (set ||| 2 ^ j) i + WO (gM σ) (gV σ k) (gB σ) (set ||| 2 ^ j) j
              · refine Or.inr (Or.inr ⟨d5, ?_, f15⟩)
                have etb := FS_hit (tb_is (gM σ) (gV σ k) (gB σ) set i) hj ⟨q2, q3⟩ hnj
                rw [if_neg (fun z => by have := c2.mp z; omega), hon i hi ⟨q, j, hj, q2, q3⟩ hno, etb]
                by_cases q4 : J w = 0
                · rw [if_pos q4, if_pos q4]
                · rw [if_neg q4, if_neg q4]
              · refine Or.inl ⟨_, ⟨d5, rfl, f15, nextj (fun z => q3 z.2)⟩, ?_⟩
                rw [if_pos (c2.mpr (by omega)), j1, J_add]; rfl
          · rintro s ⟨d4, rfl, f4, hnj⟩ self2
            have M4 := M1.frM f4
            have h2 : d_i d4 23 15 ≤ J (bN (gB σ) : Int) := by rw [M4.2.2.1.1, J_le (by omega) (by omega)]; omega
            simp only [h2, if_true, jn_eq]
            refine Or.inl ⟨_, ⟨d4, rfl, f4, next (fun ⟨_, j, hj, z⟩ => hnj j hj z)⟩, ?_⟩
            rw [j1, J_add]; rfl
        · have hq : ¬ (jshr (J (set : Int)) (J (i : Int)) &&& 1) = 1 := fun z => q (hsb.mp z)
          simp only [h1, if_false, jn_eq, hq]
          refine lp_e (bN (gB σ)) (fun j s => s = (J (j : Int), d')) (fun o => (∃ s', (∃ d', s' = (J ((i + 1 : Nat) : Int), d') ∧ Fr MS d1 d' ∧ ∀ i', i' < i + 1 → ¬ tq (gM σ) (gV σ k) (gB σ) set i') ∧ o = self s') ∨ ∃ d2, o = some (J (onR (gM σ) (gV σ k) (gB σ) set w), d2) ∧ Fr MS d1 d2) ?_ ?_ 6000 (by omega) _ rfl
          · rintro j hj s rfl self2
            have h2 : ¬ d_i d' 23 15 ≤ J (j : Int) := by rw [M'.2.2.1.1, J_le (by omega) (by omega)]; omega
            simp only [h2, if_false, jn_eq]
            refine Or.inr (Or.inl ⟨_, ⟨d', rfl, f, next (fun z => q z.1)⟩, ?_⟩)
            rw [j1, J_add]; rfl
          · rintro s rfl self2
            have h2 : d_i d' 23 15 ≤ J (bN (gB σ) : Int) := by rw [M'.2.2.1.1, J_le (by omega) (by omega)]; omega
            simp only [h2, if_true, jn_eq]
            refine Or.inl ⟨_, ⟨d', rfl, f, next (fun z => q z.1)⟩, ?_⟩
            rw [j1, J_add]; rfl
      · rintro s ⟨d', rfl, f, hno⟩ self
        have M' := M1.frM f
        have h1 : d_i d' 23 15 ≤ J (bN (gB σ) : Int) := by rw [M'.2.2.1.1, J_le (by omega) (by omega)]; omega
        exact ⟨d', by simp only [h1, if_true]; rw [hon0 hno]; rfl, f⟩
    obtain ⟨d2, w2, f2⟩ := hc
    refine ⟨J (onR (gM σ) (gV σ k) (gB σ) set w), d1, d2, ?_, w2, inv_cm O R M C1 f1 f2, f1.cs2⟩
    unfold fX11_on
    rw [isSet_val B hβ ht, Option.bind_some]
    refine (jn_b _ _ (decide ((0 ≤ (set : Int) ∧ (set : Int) < ((2 ^ bN (gB σ) : Nat) : Int)) ∧ (w = 0 ∨ w = 1))) (fun k => ?_)).trans ?_
    · simp only [jn_eq, c0, c1]; exact if2o _ _ _ k
    rw [refusal_c R O ha, Option.bind_some, if_pos hz, s1, Option.bind_some]
    refine lp_e (bN (gB σ)) (fun i s => s = J (i : Int) ∧ ∀ i', i' < i → ¬ tq (gM σ) (gV σ k) (gB σ) set i') (fun o => o = some (J (onR (gM σ) (gV σ k) (gB σ) set w), d1)) ?_ ?_ 6000 (by omega) _ ⟨rfl, fun j' hj' => absurd hj' (Nat.not_lt_zero j')⟩
    · rintro i hi s ⟨rfl, hno⟩ self
      have h1 : ¬ d_i d1 15 2 ≤ J (i : Int) := by rw [R1.2.2.2.1.1, J_le (by omega) (by omega)]; omega
      have next : ¬ tq (gM σ) (gV σ k) (gB σ) set i → ∀ j', j' < i + 1 → ¬ tq (gM σ) (gV σ k) (gB σ) set j' := fun q j' hj' => by
        by_cases e : j' = i
        · subst e; exact q
        · exact hno j' (by omega)
      have htb := tq_tb (μ := gM σ) (ν := gV σ k) (set := set) (i := i) hβ
      have cb : J (tb (gM σ) (gV σ k) (gB σ) set i) = -1 ↔ tb (gM σ) (gV σ k) (gB σ) set i = -1 := by rw [jm1]; exact J_eq (by omega) (by omega)
      have htold := toldBy_val (ρ := ρ) R1.2.2.2.1 O hk hset hi rows
      by_cases q : set.testBit i = true
      · simp only [h1, if_false, isIn_val (show set < 16 by omega) (show i < 4 by omega), Option.bind_some, q, if_true, jn_eq, htold]
        by_cases q2 : tb (gM σ) (gV σ k) (gB σ) set i = -1
        · refine Or.inl ⟨_, ⟨rfl, next (fun z => htb.2.mp q2 z.2)⟩, ?_⟩
          rw [if_pos (cb.mpr q2), j1, J_add]; rfl
        · right
          have hx : ∃ j, j < bN (gB σ) ∧ tp (gM σ) (gV σ k) (gB σ) set i j := Classical.byContradiction (fun z => q2 (htb.2.mpr z))
          rw [if_neg (fun z => q2 (cb.mp z)), hon i hi ⟨q, hx⟩ hno]
          by_cases q3 : J w = 0
          · rw [if_pos q3, if_pos q3]
          · rw [if_neg q3, if_neg q3]
      · simp only [h1, if_false, isIn_val (show set < 16 by omega) (show i < 4 by omega), Option.bind_some, q, jn_eq, Bool.false_eq_true, if_true]
        refine Or.inl ⟨_, ⟨rfl, next (fun z => q z.1)⟩, ?_⟩
        rw [j1, J_add]; rfl
    · rintro s ⟨rfl, hno⟩ self
      have h1 : d_i d1 15 2 ≤ J (bN (gB σ) : Int) := by rw [R1.2.2.2.1.1, J_le (by omega) (by omega)]; omega
      simp only [h1, if_true]
      rw [hon0 hno]; rfl
  · have hne : ¬ J (rfs σ a true (decide ((0 ≤ t ∧ t < ((2 ^ bN (gB σ) : Nat) : Int)) ∧ (w = 0 ∨ w = 1)))) = 0 := by rcases hbad with h | h | h <;> rw [h] <;> decide
    refine ⟨J (rfs σ a true (decide ((0 ≤ t ∧ t < ((2 ^ bN (gB σ) : Nat) : Int)) ∧ (w = 0 ∨ w = 1)))), d, d, ?_, ?_, ⟨σ, O, R, C, M⟩, rfl⟩
    · unfold fX11_on
      rw [isSet_val B hβ ht, Option.bind_some]
      refine (jn_b _ _ (decide ((0 ≤ t ∧ t < ((2 ^ bN (gB σ) : Nat) : Int)) ∧ (w = 0 ∨ w = 1))) (fun k => ?_)).trans ?_
      · simp only [jn_eq, c0, c1]; exact if2o _ _ _ k
      rw [refusal_c R O ha, Option.bind_some, if_neg hne]
    · unfold fX12_on
      rw [isSet_m M.2.2.1 hβ ht, Option.bind_some]
      refine (jn_b _ _ (decide ((0 ≤ t ∧ t < ((2 ^ bN (gB σ) : Nat) : Int)) ∧ (w = 0 ∨ w = 1))) (fun k => ?_)).trans ?_
      · rw [in01 hw, jn_eq, Option.bind_some]; exact if2 _ _ k
      rw [refusal_m M O ha, Option.bind_some, if_neg hne]
