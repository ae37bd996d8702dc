/-! one more -/
def omS (w : Nat → Int) : Nat → Int × Int
  | 0 => (-1, 0)
  | n + 1 => if (omS w n).2 < w n then ((n : Int), w n) else omS w n
theorem omS_t {w : Nat → Int} {n : Nat} (h : (omS w n).2 < w n) : omS w (n + 1) = ((n : Int), w n) := by
  show (if (omS w n).2 < w n then _ else _) = _
  rw [if_pos h]
theorem omS_f {w : Nat → Int} {n : Nat} (h : ¬ (omS w n).2 < w n) : omS w (n + 1) = omS w n := by
  show (if (omS w n).2 < w n then _ else _) = _
  rw [if_neg h]
theorem omS_is (w : Nat → Int) (n : Nat) : omS w n = (-1, 0) ∨ ∃ j, j < n ∧ omS w n = ((j : Int), w j) ∧ 0 < w j := by
  induction n with
  | zero => exact Or.inl rfl
  | succ n ih =>
    by_cases h : (omS w n).2 < w n
    · rw [omS_t h]
      refine Or.inr ⟨n, by omega, rfl, ?_⟩
      rcases ih with e | ⟨j, h1, e, h2⟩
      · rw [e] at h; exact h
      · rw [e] at h
        have h' : w j < w n := h
        omega
    · rw [omS_f h]
      rcases ih with e | ⟨j, h1, e, h2⟩
      · exact Or.inl e
      · exact Or.inr ⟨j, by omega, e, h2⟩
noncomputable def pw (μ : Mk) (ν : Nw) (β : By) (set j : Nat) : Int := if set.testBit j = true then 0 else WO μ ν β (set ||| 2 ^ j) j
theorem pw_bd {μ : Mk} {ν : Nw} {β : By} (h : mkOK μ) (hn : nwOK ν) (hβ : byOK β) {set b : Nat} (hb : b < bN β) : -20000000000 ≤ pw μ ν β set b ∧ pw μ ν β set b ≤ 20000000000 := by
  unfold pw
  split
  · omega
  · exact WO_bd h hn hβ hb
theorem omS_bd {μ : Mk} {ν : Nw} {β : By} (h : mkOK μ) (hn : nwOK ν) (hβ : byOK β) (set : Nat) {n : Nat} (hb : n ≤ bN β) : (-1 ≤ (omS (pw μ ν β set) n).1 ∧ (omS (pw μ ν β set) n).1 < 4) ∧ 0 ≤ (omS (pw μ ν β set) n).2 ∧ (omS (pw μ ν β set) n).2 ≤ 20000000000 := by
  have hN := hβ.1
  rcases omS_is (pw μ ν β set) n with e | ⟨j, h1, e, h2⟩
  · rw [e]; exact ⟨⟨by decide, by decide⟩, by decide, by decide⟩
  · rw [e]
    have := pw_bd (set := set) h hn hβ (show j < bN β by omega)
    show (-1 ≤ (j : Int) ∧ (j : Int) < 4) ∧ 0 ≤ pw μ ν β set j ∧ pw μ ν β set j ≤ 20000000000
    omega
theorem set_or : ∀ s : Nat, s < 16 → ∀ b : Nat, b < 4 → (J s ||| J ((2 ^ b : Nat) : Int)) = J ((s ||| 2 ^ b : Nat) : Int) ∧ s ||| 2 ^ b < 16 := by decide +kernel
theorem oneMore_val {ρ : Rh} {d : Dd} {σ : Sg} (B : BuyAt d (gB σ)) (O : sgOK σ) {k set : Nat} (hk : k < gN σ) (hset : set < 2 ^ bN (gB σ)) (rows : ∀ s, s < 2 ^ bN (gB σ) → RowOK d σ k s) :
    fX11_oneMore ρ d (J k) (J set) = some (J (omS (pw (gM σ) (gV σ k) (gB σ) set) (bN (gB σ))).1) := by
  have hβ := O.2.2.1
  have hN := hβ.1
  have h2N := two_le hN
  have hk8 := O.2.2.2.1.1
  unfold fX11_oneMore
  refine lp_up (bN (gB σ)) (fun i => (J (omS (pw (gM σ) (gV σ k) (gB σ) set) i).1, K (omS (pw (gM σ) (gV σ k) (gB σ) set) i).2, J (i : Int))) (fun i hi self => ?_) (fun self => ?_) 6000 (by omega)
  · have h1 : ¬ d_i d 15 2 ≤ J (i : Int) := by rw [B.1, J_le (by omega) (by omega)]; omega
    have hb := omS_bd O.2.1 (O.2.2.2.1.2 k hk) hβ set (Nat.le_of_lt hi)
    have hp := pw_bd (set := set) O.2.1 (O.2.2.2.1.2 k hk) hβ hi
    have fin : (if K (pw (gM σ) (gV σ k) (gB σ) set i) ≤ K (omS (pw (gM σ) (gV σ k) (gB σ) set) i).2 then self (J (omS (pw (gM σ) (gV σ k) (gB σ) set) i).1, K (omS (pw (gM σ) (gV σ k) (gB σ) set) i).2, J (i : Int) + 1) else self (J (i : Int), K (pw (gM σ) (gV σ k) (gB σ) set i), J (i : Int) + 1)) = self (J (omS (pw (gM σ) (gV σ k) (gB σ) set) (i + 1)).1, K (omS (pw (gM σ) (gV σ k) (gB σ) set) (i + 1)).2, J ((i + 1 : Nat) : Int)) := by
      have c : K (pw (gM σ) (gV σ k) (gB σ) set i) ≤ K (omS (pw (gM σ) (gV σ k) (gB σ) set) i).2 ↔ pw (gM σ) (gV σ k) (gB σ) set i ≤ (omS (pw (gM σ) (gV σ k) (gB σ) set) i).2 := K_le (by omega) (by omega)
      by_cases q : (omS (pw (gM σ) (gV σ k) (gB σ) set) i).2 < pw (gM σ) (gV σ k) (gB σ) set i
      · have nc : ¬ K (pw (gM σ) (gV σ k) (gB σ) set i) ≤ K (omS (pw (gM σ) (gV σ k) (gB σ) set) i).2 := fun z => by have := c.mp z; omega
        rw [if_neg nc, omS_t q, j1, J_add]; rfl
      · rw [if_pos (c.mpr (by omega)), omS_f q, j1, J_add]; rfl
    by_cases q : set.testBit i = true
    · have e : (0 : Int64) = K (pw (gM σ) (gV σ k) (gB σ) set i) := by unfold pw; rw [if_pos q]; rfl
      simp only [h1, if_false, isIn_val (show set < 16 by omega) (show i < 4 by omega), Option.bind_some, q, if_true, jn_eq]
      rw [e]; exact fin
    · have hor := set_or set (by omega) i (by omega)
      have hlt : set ||| 2 ^ i < 2 ^ bN (gB σ) := Nat.or_lt_two_pow hset (two_lt hi)
      have e : WO (gM σ) (gV σ k) (gB σ) (set ||| 2 ^ i) i = pw (gM σ) (gV σ k) (gB σ) set i := by unfold pw; rw [if_neg q]
      have hw := worthOf_row (ρ := ρ) (rows _ hlt) (show k < 8 by omega) hor.2 (show i < 4 by omega)
      simp only [h1, if_false, isIn_val (show set < 16 by omega) (show i < 4 by omega), Option.bind_some, q, jn_eq, bit_val (show i < 4 by omega), hor.1, hw, e]
      exact fin
  · have h1 : d_i d 15 2 ≤ J (bN (gB σ) : Int) := by rw [B.1, J_le (by omega) (by omega)]; omega
    simp only [h1, if_true]
theorem moreOf_val {ρ : Rh} {d : Dd} {σ : Sg} (M : RM d σ) (O : sgOK σ) (hop : 0 < kN (gM σ)) {k set : Nat} (hk : k < gN σ) (hset : set < 2 ^ bN (gB σ)) :
    ∃ d', fX12_moreOf ρ d (J k) (J set) = some (J (omS (pw (gM σ) (gV σ k) (gB σ) set) (bN (gB σ))).1, d') ∧ Fr MS d d' ∧ d_l d' 23 28 = K (100 * (omS (pw (gM σ) (gV σ k) (gB σ) set) (bN (gB σ))).2) := by
  have hβ := O.2.2.1
  have hN := hβ.1
  have h2N := two_le hN
  have hk8 := O.2.2.2.1.1
  have m28 : MS 23 28 := Or.inl ⟨rfl, by omega⟩
  unfold fX12_moreOf
  rw [bnd_eq]
  refine lp_c (bN (gB σ)) (fun i s => ∃ d', s = (J (omS (pw (gM σ) (gV σ k) (gB σ) set) i).1, J (i : Int), d') ∧ Fr MS d d' ∧ d_l d' 23 28 = K (100 * (omS (pw (gM σ) (gV σ k) (gB σ) set) i).2)) (fun o => ∃ d', o = some (J (omS (pw (gM σ) (gV σ k) (gB σ) set) (bN (gB σ))).1, d') ∧ Fr MS d d' ∧ d_l d' 23 28 = K (100 * (omS (pw (gM σ) (gV σ k) (gB σ) set) (bN (gB σ))).2)) ?_ ?_ 6000 (by omega) _ ⟨_, rfl, Fr.rf.l m28, dL_s⟩
  · rintro i hi s ⟨d', rfl, f, h28⟩ self
    have M' := M.frM f
    have h1 : ¬ d_i d' 23 15 ≤ J (i : Int) := by rw [M'.2.2.1.1, J_le (by omega) (by omega)]; omega
    have hb := omS_bd O.2.1 (O.2.2.2.1.2 k hk) hβ set (Nat.le_of_lt hi)
    have hp := pw_bd (set := set) O.2.1 (O.2.2.2.1.2 k hk) hβ hi
    have hsb := set_bit set (by omega) i (by omega)
    have fin : ∀ d2, Fr MS d d2 → d_l d2 23 28 = K (100 * (omS (pw (gM σ) (gV σ k) (gB σ) set) i).2) → ∃ s', (∃ d', s' = (J (omS (pw (gM σ) (gV σ k) (gB σ) set) (i + 1)).1, J ((i + 1 : Nat) : Int), d') ∧ Fr MS d d' ∧ d_l d' 23 28 = K (100 * (omS (pw (gM σ) (gV σ k) (gB σ) set) (i + 1)).2)) ∧ (if K (100 * pw (gM σ) (gV σ k) (gB σ) set i) ≤ d_l d2 23 28 then (if K (100 * pw (gM σ) (gV σ k) (gB σ) set i) ≤ d_l d2 23 28 then self (J (omS (pw (gM σ) (gV σ k) (gB σ) set) i).1, J (i : Int) + 1, dL d2 23 28 (d_l d2 23 28)) else self (J (omS (pw (gM σ) (gV σ k) (gB σ) set) i).1, J (i : Int) + 1, dL d2 23 28 (K (100 * pw (gM σ) (gV σ k) (gB σ) set i)))) else (if K (100 * pw (gM σ) (gV σ k) (gB σ) set i) ≤ d_l d2 23 28 then self (J (i : Int), J (i : Int) + 1, dL d2 23 28 (d_l d2 23 28)) else self (J (i : Int), J (i : Int) + 1, dL d2 23 28 (K (100 * pw (gM σ) (gV σ k) (gB σ) set i))))) = self s' := by
      intro d2 f2 g28
      rw [g28]
      have c : K (100 * pw (gM σ) (gV σ k) (gB σ) set i) ≤ K (100 * (omS (pw (gM σ) (gV σ k) (gB σ) set) i).2) ↔ 100 * pw (gM σ) (gV σ k) (gB σ) set i ≤ 100 * (omS (pw (gM σ) (gV σ k) (gB σ) set) i).2 := K_le (by omega) (by omega)
      by_cases q : (omS (pw (gM σ) (gV σ k) (gB σ) set) i).2 < pw (gM σ) (gV σ k) (gB σ) set i
      · have nc : ¬ K (100 * pw (gM σ) (gV σ k) (gB σ) set i) ≤ K (100 * (omS (pw (gM σ) (gV σ k) (gB σ) set) i).2) := fun z => by have := c.mp z; omega
        rw [if_neg nc, if_neg nc, omS_t q]
        refine ⟨_, ⟨dL d2 23 28 (K (100 * pw (gM σ) (gV σ k) (gB σ) set i)), rfl, f2.l m28, dL_s⟩, ?_⟩
        rw [j1, J_add]; rfl
      · have nc := c.mpr (by omega)
        rw [if_pos nc, if_pos nc, omS_f q]
        refine ⟨_, ⟨dL d2 23 28 (K (100 * (omS (pw (gM σ) (gV σ k) (gB σ) set) i).2)), rfl, f2.l m28, dL_s⟩, ?_⟩
        rw [j1, J_add]; rfl
    by_cases q : set.testBit i = true
    · have e : (0 : Int64) = K (100 * pw (gM σ) (gV σ k) (gB σ) set i) := by unfold pw; rw [if_pos q]; rfl
      have hq := hsb.mpr q
      simp only [h1, if_false, hq, if_true, jn_eq, bnd_eq]
      rw [e]; exact fin d' f h28
    · have hq : ¬ (jshr (J set) (J i) &&& 1) = 1 := fun z => q (hsb.mp z)
      have hor := set_or set (by omega) i (by omega)
      have hlt : set ||| 2 ^ i < 2 ^ bN (gB σ) := Nat.or_lt_two_pow hset (two_lt hi)
      have e : WO (gM σ) (gV σ k) (gB σ) (set ||| 2 ^ i) i = pw (gM σ) (gV σ k) (gB σ) set i := by unfold pw; rw [if_neg q]
      obtain ⟨d2, w2, f2, -⟩ := mworth_val (ρ := ρ) M' O hop hk hor.2 hi
      rw [e] at w2
      have ebit := bit_nat i (by omega)
      simp only [h1, if_false, hq, jn_eq, bnd_eq, ebit, hor.1, w2, Option.bind_some]
      exact fin d2 (f.tr f2.ms) ((f2.gl (by unfold MW; omega)).trans h28)
  · rintro s ⟨d', rfl, f, h28⟩ self
    have M' := M.frM f
    have h1 : d_i d' 23 15 ≤ J (bN (gB σ) : Int) := by rw [M'.2.2.1.1, J_le (by omega) (by omega)]; omega
    exact ⟨d', by simp only [h1, if_true], f, h28⟩
theorem op16 : Op16 Inv := by
  rintro d ρ ⟨σ, O, R, C, M⟩ x1 x2
  obtain ⟨a, ha, rfl⟩ := J_of x1
  obtain ⟨t, ht, rfl⟩ := J_of x2
  have hβ := O.2.2.1
  have B := R.2.2.2.1
  have hN := hβ.1
  have h2N := two_le hN
  have hk8 := O.2.2.2.1.1
  rcases rfs_cases σ a true (decide (0 ≤ t ∧ t < ((2 ^ bN (gB σ) : Nat) : Int))) with ⟨h0, ha0, ha1, hop, hnm, hins⟩ | hbad
  · have ht4 := of_decide_eq_true hins
    have hz : J (rfs σ a true (decide (0 ≤ t ∧ t < ((2 ^ bN (gB σ) : Nat) : Int)))) = 0 := by rw [h0]; rfl
    obtain ⟨k, rfl⟩ : ∃ k : Nat, a = (k : Int) := ⟨a.toNat, by omega⟩
    obtain ⟨set, rfl⟩ : ∃ k : Nat, t = (k : Int) := ⟨t.toNat, by omega⟩
    have hset : set < 2 ^ bN (gB σ) := by omega
    have hk : k < gN σ := by omega
    obtain ⟨d1, s1, f1, C1, rows⟩ := settleAll_val (ρ := ρ) R O C hop hk
    have R1 := R.fr f1
    have M1 := M.frC f1
    obtain ⟨d2, w2, f2, -⟩ := moreOf_val (ρ := ρ) M1 O hop hk hset
    refine ⟨J (omS (pw (gM σ) (gV σ k) (gB σ) set) (bN (gB σ))).1, d1, d2, ?_, ?_, inv_cm O R M C1 f1 f2, f1.cs2⟩
    · unfold fX11_more
      rw [isSet_val B hβ ht, Option.bind_some]
      rw [refusal_c R O ha, Option.bind_some, if_pos hz, s1, Option.bind_some, oneMore_val R1.2.2.2.1 O hk hset rows, Option.bind_some]
    · unfold fX12_more
      rw [isSet_m M1.2.2.1 hβ ht, Option.bind_some]
      rw [refusal_m M1 O ha, Option.bind_some, if_pos hz, w2, Option.bind_some]
  · have hne : ¬ J (rfs σ a true (decide (0 ≤ t ∧ t < ((2 ^ bN (gB σ) : Nat) : Int)))) = 0 := by rcases hbad with h | h | h <;> rw [h] <;> decide
    refine ⟨J (rfs σ a true (decide (0 ≤ t ∧ t < ((2 ^ bN (gB σ) : Nat) : Int)))), d, d, ?_, ?_, ⟨σ, O, R, C, M⟩, rfl⟩
    · unfold fX11_more
      rw [isSet_val B hβ ht, Option.bind_some]
      rw [refusal_c R O ha, Option.bind_some, if_neg hne]
    · unfold fX12_more
      rw [isSet_m M.2.2.1 hβ ht, Option.bind_some]
      rw [refusal_m M O ha, Option.bind_some, if_neg hne]
theorem op17 : Op17 Inv := by
  rintro d ρ ⟨σ, O, R, C, M⟩ x1 x2 x3
  obtain ⟨a, ha, rfl⟩ := J_of x1
  obtain ⟨t, ht, rfl⟩ := J_of x2
  obtain ⟨p, hp, rfl⟩ := J_of x3
  have hβ := O.2.2.1
  have B := R.2.2.2.1
  have hN := hβ.1
  have h2N := two_le hN
  have hk8 := O.2.2.2.1.1
  rcases rfs_cases σ a true (decide ((0 ≤ t ∧ t < ((2 ^ bN (gB σ) : Nat) : Int)) ∧ (p = 0 ∨ p = 1))) with ⟨h0, ha0, ha1, hop, hnm, hins⟩ | hbad
  · obtain ⟨ht4, hp1⟩ := of_decide_eq_true hins
    have hz : J (rfs σ a true (decide ((0 ≤ t ∧ t < ((2 ^ bN (gB σ) : Nat) : Int)) ∧ (p = 0 ∨ p = 1)))) = 0 := by rw [h0]; rfl
    obtain ⟨k, rfl⟩ : ∃ k : Nat, a = (k : Int) := ⟨a.toNat, by omega⟩
    obtain ⟨set, rfl⟩ : ∃ k : Nat, t = (k : Int) := ⟨t.toNat, by omega⟩
    have hset : set < 2 ^ bN (gB σ) := by omega
    have hk : k < gN σ := by omega
    obtain ⟨d1, s1, f1, C1, rows⟩ := settleAll_val (ρ := ρ) R O C hop hk
    have R1 := R.fr f1
    have M1 := M.frC f1
    obtain ⟨d2, w2, f2, h28⟩ := moreOf_val (ρ := ρ) M1 O hop hk hset
    have M2 := M1.frM f2
    have hW := whole_bd O.2.1 hop
    have hb := omS_bd O.2.1 (O.2.2.2.1.2 k hk) hβ set (Nat.le_refl (bN (gB σ)))
    refine ⟨K (frc (omS (pw (gM σ) (gV σ k) (gB σ) set) (bN (gB σ))).2 (WT (gM σ) * (100 * oth (gM σ))) p), d1, d2, ?_, ?_, inv_cm O R M C1 f1 f2, f1.cs2⟩
    · unfold fX11_pledge
      rw [isSet_val B hβ ht, Option.bind_some]
      refine (jn_b _ _ (decide ((0 ≤ (set : Int) ∧ (set : Int) < ((2 ^ bN (gB σ) : Nat) : Int)) ∧ (p = 0 ∨ p = 1))) (fun k => ?_)).trans ?_
      · rw [isPart_c hp, jn_eq, Option.bind_some]; exact if2 _ _ k
      rw [refusal_c R O ha, Option.bind_some, if_pos hz, s1, Option.bind_some, oneMore_val R1.2.2.2.1 O hk hset rows, Option.bind_some, jn_eq]
      have hfin : ∀ y : Int, y = (omS (pw (gM σ) (gV σ k) (gB σ) set) (bN (gB σ))).2 → ((fX5_wholeWeight ρ d1 ρ.1).bind fun r9 => (fX11_partOf (K y) r9 (J p)).bind fun r10 => some (r10, d1)) = some (K (frc (omS (pw (gM σ) (gV σ k) (gB σ) set) (bN (gB σ))).2 (WT (gM σ) * (100 * oth (gM σ))) p), d1) := by
        rintro y rfl
        rw [wholeW_val (R1.2.2.1.1 hop) O.2.1 (WT_bd O.2.1).1, Option.bind_some, pt_val (by omega) (by omega) hp1, Option.bind_some]
      rcases omS_is (pw (gM σ) (gV σ k) (gB σ) set) (bN (gB σ)) with e | ⟨j, hj, e, hpos⟩
      · have c : J (omS (pw (gM σ) (gV σ k) (gB σ) set) (bN (gB σ))).1 = -1 := by rw [e]; rfl
        rw [if_pos c, k0]
        exact hfin 0 (by rw [e])
      · have c : ¬ J (omS (pw (gM σ) (gV σ k) (gB σ) set) (bN (gB σ))).1 = -1 := by
          rw [e, jm1, J_eq (by show -2147483648 ≤ (j : Int) ∧ (j : Int) < 2147483648; omega) (by omega)]
          show ¬ (j : Int) = -1
          omega
        have ej : J (omS (pw (gM σ) (gV σ k) (gB σ) set) (bN (gB σ))).1 = J (j : Int) := by rw [e]
        have hor := set_or set (by omega) j (by omega)
        have hlt : set ||| 2 ^ j < 2 ^ bN (gB σ) := Nat.or_lt_two_pow hset (two_lt hj)
        have hq : ¬ set.testBit j = true := fun q => by
          have : pw (gM σ) (gV σ k) (gB σ) set j = 0 := by unfold pw; rw [if_pos q]
          omega
        have e2 : WO (gM σ) (gV σ k) (gB σ) (set ||| 2 ^ j) j = (omS (pw (gM σ) (gV σ k) (gB σ) set) (bN (gB σ))).2 := by
          rw [e]
          show _ = pw (gM σ) (gV σ k) (gB σ) set j
          unfold pw; rw [if_neg hq]
        rw [if_neg c, ej, bit_val (by omega), Option.bind_some, hor.1, worthOf_row (rows _ hlt) (by omega) hor.2 (by omega), Option.bind_some]
        exact hfin _ e2
    · unfold fX12_pledge
      rw [isSet_m M1.2.2.1 hβ ht, Option.bind_some]
      refine (jn_b _ _ (decide ((0 ≤ (set : Int) ∧ (set : Int) < ((2 ^ bN (gB σ) : Nat) : Int)) ∧ (p = 0 ∨ p = 1))) (fun k => ?_)).trans ?_
      · rw [isPart_m hp, jn_eq, Option.bind_some]; exact if2 _ _ k
      rw [refusal_m M1 O ha, Option.bind_some, if_pos hz, w2, Option.bind_some, below_val (M2.2.1.1 hop) O.2.1, Option.bind_some, h28, tm_val (by omega) (by omega) hp1, Option.bind_some, frc_100 _ _ _ (by omega)]
  · have hne : ¬ J (rfs σ a true (decide ((0 ≤ t ∧ t < ((2 ^ bN (gB σ) : Nat) : Int)) ∧ (p = 0 ∨ p = 1)))) = 0 := by rcases hbad with h | h | h <;> rw [h] <;> decide
    refine ⟨K (rfL (rfs σ a true (decide ((0 ≤ t ∧ t < ((2 ^ bN (gB σ) : Nat) : Int)) ∧ (p = 0 ∨ p = 1))))), d, d, ?_, ?_, ⟨σ, O, R, C, M⟩, rfl⟩
    · unfold fX11_pledge
      rw [isSet_val B hβ ht, Option.bind_some]
      refine (jn_b _ _ (decide ((0 ≤ t ∧ t < ((2 ^ bN (gB σ) : Nat) : Int)) ∧ (p = 0 ∨ p = 1))) (fun k => ?_)).trans ?_
      · rw [isPart_c hp, jn_eq, Option.bind_some]; exact if2 _ _ k
      rw [refusal_c R O ha, Option.bind_some, if_neg hne, refusedPart_val hbad, Option.bind_some]
    · unfold fX12_pledge
      rw [isSet_m M.2.2.1 hβ ht, Option.bind_some]
      refine (jn_b _ _ (decide ((0 ≤ t ∧ t < ((2 ^ bN (gB σ) : Nat) : Int)) ∧ (p = 0 ∨ p = 1))) (fun k => ?_)).trans ?_
      · rw [isPart_m hp, jn_eq, Option.bind_some]; exact if2 _ _ k
      rw [refusal_m M O ha, Option.bind_some, if_neg hne, asLong_val hbad, Option.bind_some]
