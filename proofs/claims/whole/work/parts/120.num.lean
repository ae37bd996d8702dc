/-! whole numbers for the machine's numbers -/
def J (a : Int) : Int32 := Int32.ofInt a
def K (a : Int) : Int64 := Int64.ofInt a
theorem J_toInt {a : Int} (h : -2147483648 ≤ a ∧ a < 2147483648) : (J a).toInt = a := by
  unfold J
  rw [Int32.toInt_ofInt]
  have : (Int32.size : Int) = 4294967296 := by decide
  rw [Int.bmod_eq_of_le (by rw [this]; omega) (by rw [this]; omega)]
theorem K_toInt {a : Int} (h : -9223372036854775808 ≤ a ∧ a < 9223372036854775808) : (K a).toInt = a := by
  unfold K
  rw [Int64.toInt_ofInt]
  have : (Int64.size : Int) = 18446744073709551616 := by decide
  rw [Int.bmod_eq_of_le (by rw [this]; omega) (by rw [this]; omega)]
theorem J_of (x : Int32) : ∃ a : Int, (-2147483648 ≤ a ∧ a < 2147483648) ∧ x = J a := ⟨x.toInt, ⟨x.le_toInt, x.toInt_lt⟩, (Int32.ofInt_toInt x).symm⟩
theorem K_of (x : Int64) : ∃ a : Int, (-9223372036854775808 ≤ a ∧ a < 9223372036854775808) ∧ x = K a := ⟨x.toInt, ⟨x.le_toInt, x.toInt_lt⟩, (Int64.ofInt_toInt x).symm⟩
theorem J_add (a b : Int) : J a + J b = J (a + b) := (Int32.ofInt_add a b).symm
theorem J_sub (a b : Int) : J a - J b = J (a - b) := (Int32.ofInt_sub a b).symm
theorem J_mul (a b : Int) : J a * J b = J (a * b) := (Int32.ofInt_mul a b).symm
theorem J_neg (a : Int) : -J a = J (-a) := (Int32.ofInt_neg a).symm
theorem K_add (a b : Int) : K a + K b = K (a + b) := (Int64.ofInt_add a b).symm
theorem K_sub (a b : Int) : K a - K b = K (a - b) := (Int64.ofInt_sub a b).symm
theorem K_mul (a b : Int) : K a * K b = K (a * b) := (Int64.ofInt_mul a b).symm
theorem K_neg (a : Int) : -K a = K (-a) := (Int64.ofInt_neg a).symm
theorem J_lt {a b : Int} (ha : -2147483648 ≤ a ∧ a < 2147483648) (hb : -2147483648 ≤ b ∧ b < 2147483648) : J a < J b ↔ a < b := by rw [Int32.lt_iff_toInt_lt, J_toInt ha, J_toInt hb]
theorem J_le {a b : Int} (ha : -2147483648 ≤ a ∧ a < 2147483648) (hb : -2147483648 ≤ b ∧ b < 2147483648) : J a ≤ J b ↔ a ≤ b := by rw [Int32.le_iff_toInt_le, J_toInt ha, J_toInt hb]
theorem J_eq {a b : Int} (ha : -2147483648 ≤ a ∧ a < 2147483648) (hb : -2147483648 ≤ b ∧ b < 2147483648) : J a = J b ↔ a = b := by rw [← Int32.toInt_inj, J_toInt ha, J_toInt hb]
theorem K_lt {a b : Int} (ha : -9223372036854775808 ≤ a ∧ a < 9223372036854775808) (hb : -9223372036854775808 ≤ b ∧ b < 9223372036854775808) : K a < K b ↔ a < b := by rw [Int64.lt_iff_toInt_lt, K_toInt ha, K_toInt hb]
theorem K_le {a b : Int} (ha : -9223372036854775808 ≤ a ∧ a < 9223372036854775808) (hb : -9223372036854775808 ≤ b ∧ b < 9223372036854775808) : K a ≤ K b ↔ a ≤ b := by rw [Int64.le_iff_toInt_le, K_toInt ha, K_toInt hb]
theorem K_eq {a b : Int} (ha : -9223372036854775808 ≤ a ∧ a < 9223372036854775808) (hb : -9223372036854775808 ≤ b ∧ b < 9223372036854775808) : K a = K b ↔ a = b := by rw [← Int64.toInt_inj, K_toInt ha, K_toInt hb]
theorem J_lit (n : Nat) : (OfNat.ofNat n : Int32) = J (OfNat.ofNat n : Int) := by
  show Int32.ofNat n = Int32.ofInt (n : Int)
  exact Int32.ofInt_eq_ofNat.symm
theorem K_lit (n : Nat) : (OfNat.ofNat n : Int64) = K (OfNat.ofNat n : Int) := by
  show Int64.ofNat n = Int64.ofInt (n : Int)
  exact Int64.ofInt_eq_ofNat.symm
theorem J_l {a : Int} (h : -2147483648 ≤ a ∧ a < 2147483648) : (J a).toInt64 = K a := by
  have h1 : Int32.minValue.toInt = -2147483648 := by decide
  have h2 : Int32.maxValue.toInt = 2147483647 := by decide
  exact Int32.toInt64_ofInt (by rw [h1]; exact h.1) (by rw [h2]; omega)
theorem K_i (a : Int) : (K a).toInt32 = J a := Int64.toInt32_ofInt
theorem J_div {a b : Int} (ha : -2147483648 ≤ a ∧ a < 2147483648) (hb : -2147483648 ≤ b ∧ b < 2147483648) (h0 : 0 < b) : J a / J b = J (a.tdiv b) := by
  have h1 : Int32.minValue.toInt = -2147483648 := by decide
  have h2 : Int32.maxValue.toInt = 2147483647 := by decide
  exact (Int32.ofInt_tdiv (by rw [h1]; exact ha.1) (by rw [h2]; omega) (by rw [h1]; exact hb.1) (by rw [h2]; omega)).symm
theorem K_div {a b : Int} (ha : -9223372036854775808 ≤ a ∧ a < 9223372036854775808) (hb : -9223372036854775808 ≤ b ∧ b < 9223372036854775808) (h0 : 0 < b) : K a / K b = K (a.tdiv b) := by
  have h1 : Int64.minValue.toInt = -9223372036854775808 := by decide
  have h2 : Int64.maxValue.toInt = 9223372036854775807 := by decide
  exact (Int64.ofInt_tdiv (by rw [h1]; exact ha.1) (by rw [h2]; omega) (by rw [h1]; exact hb.1) (by rw [h2]; omega)).symm
theorem J_rem {a b : Int} (ha : -2147483648 ≤ a ∧ a < 2147483648) (hb : -2147483648 ≤ b ∧ b < 2147483648) (h0 : 0 < b) : jrem (J a) (J b) = J (a.tmod b) := by
  unfold jrem
  rw [J_div ha hb h0, J_mul, J_sub, Int.tmod_def, Int.mul_comm]
theorem K_rem {a b : Int} (ha : -9223372036854775808 ≤ a ∧ a < 9223372036854775808) (hb : -9223372036854775808 ≤ b ∧ b < 9223372036854775808) (h0 : 0 < b) : jlrem (K a) (K b) = K (a.tmod b) := by
  unfold jlrem
  rw [K_div ha hb h0, K_mul, K_sub, Int.tmod_def, Int.mul_comm]
theorem J_nat (n : Nat) : nI n = J (n : Int) := Int32.ofInt_eq_ofNat.symm
theorem ix_J {a : Int} (h : 0 ≤ a ∧ a < 2147483648) : ix (J a) = a.toNat := by
  unfold ix
  rw [Int32.toNatClampNeg]
  show (J a).toInt.toNat = _
  rw [J_toInt (by omega)]
theorem inB_J {a : Int} {n : Nat} (h : -2147483648 ≤ a ∧ a < 2147483648) : inB (J a) n = true ↔ 0 ≤ a ∧ a < n := by
  unfold inB
  rw [J_toInt h]
  simp
theorem b2i_J (b : Bool) : b2i b = J (if b = true then 1 else 0) := by cases b <;> rfl
/-- loops -/
theorem lp_m {σ γ : Type} {f : (σ → Option γ) → σ → Option γ} (I : σ → Prop) (μ : σ → Nat) (Q : Option γ → Prop) (h : ∀ s, I s → ∀ self, (∃ s', I s' ∧ μ s' < μ s ∧ f self s = self s') ∨ Q (f self s)) : ∀ (F : Nat) (s : σ), I s → μ s < F → Q (lp f F s) := by
  intro F
  induction F with
  | zero => intro s _ h0; exact absurd h0 (Nat.not_lt_zero _)
  | succ n ih =>
    intro s hs hm
    show Q (f (lp f n) s)
    rcases h s hs (lp f n) with ⟨s', h1, h2, h3⟩ | h1
    · rw [h3]; exact ih s' h1 (by omega)
    · exact h1
/-- .. with a bound on the turns that are left, by the invariant -/
theorem lp_n {σ γ : Type} {f : (σ → Option γ) → σ → Option γ} (I : Nat → σ → Prop) (Q : Option γ → Prop) (h : ∀ n s, I n s → ∀ self, (∃ s' n', n' < n ∧ I n' s' ∧ f self s = self s') ∨ Q (f self s)) : ∀ (F n : Nat) (s : σ), I n s → n < F → Q (lp f F s) := by
  intro F
  induction F with
  | zero => intro n s _ h0; exact absurd h0 (Nat.not_lt_zero _)
  | succ m ih =>
    intro n s hs hm
    show Q (f (lp f m) s)
    rcases h n s hs (lp f m) with ⟨s', n', h1, h2, h3⟩ | h1
    · rw [h3]; exact ih n' s' h2 (by omega)
    · exact h1
/-- .. whose states are known one by one -/
theorem lp_up {σ γ : Type} {f : (σ → Option γ) → σ → Option γ} (N : Nat) (s : Nat → σ) {r : Option γ} (hs : ∀ i, i < N → ∀ self, f self (s i) = self (s (i + 1))) (he : ∀ self, f self (s N) = r) (F : Nat) (hF : N < F) : lp f F (s 0) = r := by
  refine lp_n (fun n x => ∃ i, i + n = N ∧ x = s i) (fun o => o = r) ?_ F N (s 0) ⟨0, by omega, rfl⟩ hF
  rintro n x ⟨i, hi, rfl⟩ self
  by_cases h : i = N
  · subst h; exact Or.inr (he self)
  · exact Or.inl ⟨s (i + 1), n - 1, by omega, ⟨i + 1, by omega, rfl⟩, hs i (by omega) self⟩
