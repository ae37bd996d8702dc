/-! the greatest divisor, in both classes -/
theorem half_rem {y r : Nat} (hr0 : 0 < r) (hr : r < y) : 2 * (y % r) < y + 0 ∨ 2 * (y % r) ≤ y := by
  have h1 := Nat.mod_lt y hr0
  have h2 := Nat.div_add_mod y r
  have h3 : 1 ≤ y / r := Nat.div_pos (Nat.le_of_lt hr) hr0
  have h4 : r ≤ r * (y / r) := Nat.le_mul_of_pos_right r h3
  right; omega
/-- a bound on the turns that Euclid's way has left -/
def eucB (n x y : Nat) : Prop := (∃ k, y < 2 ^ k ∧ n = 2 * k) ∨ (0 < y ∧ ∃ k, x % y < 2 ^ k ∧ n = 2 * k + 1)
theorem eucB_step {n x y : Nat} (h : eucB n x y) (hy : 0 < y) : ∃ n', n' < n ∧ eucB n' y (x % y) := by
  rcases h with ⟨k, h1, rfl⟩ | ⟨-, k, h1, rfl⟩
  · have hk : 1 ≤ k := by
      rcases Nat.eq_zero_or_pos k with rfl | q
      · simp at h1; omega
      · exact q
    rcases Nat.eq_zero_or_pos (x % y) with e | e
    · exact ⟨0, by omega, Or.inl ⟨0, by rw [e]; decide, rfl⟩⟩
    · refine ⟨2 * (k - 1) + 1, by omega, Or.inr ⟨e, k - 1, ?_, rfl⟩⟩
      have h2 := Nat.mod_lt x hy
      have h3 := half_rem e h2
      have h4 : 2 ^ k = 2 * 2 ^ (k - 1) := by
        conv => lhs; rw [show k = (k - 1) + 1 by omega]
        rw [Nat.pow_succ]; omega
      omega
  · exact ⟨2 * k, by omega, Or.inl ⟨k, h1, rfl⟩⟩
theorem eucB_62 {x y : Nat} (h : y < 2 ^ 62) : eucB 124 x y := Or.inl ⟨62, h, rfl⟩
theorem gcd_step (x y : Nat) : Nat.gcd x y = Nat.gcd y (x % y) := by
  rw [Nat.gcd_comm x y, Nat.gcd_rec y x, Nat.gcd_comm]
theorem tmod_nat (x y : Nat) : (x : Int).tmod (y : Int) = ((x % y : Nat) : Int) := by
  rw [Int.tmod_eq_emod_of_nonneg (Int.natCast_nonneg x)]; exact (Int.natCast_emod x y).symm
theorem cd_val {x y : Nat} (hx : x < 2 ^ 62) (hy : y < 2 ^ 62) : fX11_commonDivisor (K x) (K y) = some (K (Nat.gcd x y)) := by
  unfold fX11_commonDivisor
  refine lp_n (fun n s => ∃ (x' y' t : Nat), s = (K x', K y', J t) ∧ Nat.gcd x' y' = Nat.gcd x y ∧ x' < 2 ^ 62 ∧ y' < 2 ^ 62 ∧ eucB n x' y' ∧ n + t < 200) (fun o => o = some (K (Nat.gcd x y))) ?_ 6000 124 _ ⟨x, y, 0, rfl, rfl, hx, hy, eucB_62 hy, by omega⟩ (by omega)
  rintro n s ⟨x', y', t, rfl, hg, hx', hy', hb, ht⟩ self
  have h1 : ¬ (200 : Int32) ≤ J t := by rw [J_lit, J_le (by omega) (by omega)]; omega
  rcases Nat.eq_zero_or_pos y' with rfl | hp
  · right
    have h2 : K ((0 : Nat) : Int) = 0 := rfl
    simp only [h1, if_false, h2, if_true]
    rw [Nat.gcd_zero_right] at hg
    rw [hg]
  · left
    obtain ⟨n', hn, hb'⟩ := eucB_step hb hp
    have h2 : ¬ K (y' : Int) = 0 := by rw [K_lit, K_eq (by omega) (by omega)]; omega
    refine ⟨_, n', hn, ⟨y', x' % y', t + 1, rfl, by rw [← hg, gcd_step x' y'], hy', Nat.lt_of_le_of_lt (Nat.mod_le _ _) hx', hb', by omega⟩, ?_⟩
    simp only [h1, if_false, h2, bnd]
    rw [K_rem (by omega) (by omega) (by omega), tmod_nat, J_lit, J_add]
    rfl
theorem co_val {x y : Nat} (hx : x < 2 ^ 62) (hy : y < 2 ^ 62) (a : Int) (ha : a.natAbs = x) : fX12_common (K a) (K y) = some (K (Nat.gcd x y)) := by
  have key : ∀ x1 : Int64, x1 = K x → lp (fun self4 (x3 : Int64 × Int64) =>
      if x3.1 = 0 then
        (some x3.2)
      else
        (if x3.1 = 0 then none else
        bnd ((jlrem x3.2 x3.1) : Int64) fun v6 =>
        self4 (v6, x3.1))
      ) 6000 (x1, K y) = some (K (Nat.gcd x y)) := by
    rintro x1 rfl
    refine lp_n (fun n s => ∃ (x' y' : Nat), s = (K x', K y') ∧ Nat.gcd x' y' = Nat.gcd x y ∧ x' < 2 ^ 62 ∧ y' < 2 ^ 62 ∧ eucB n y' x') (fun o => o = some (K (Nat.gcd x y))) ?_ 6000 124 _ ⟨x, y, rfl, rfl, hx, hy, eucB_62 hx⟩ (by omega)
    rintro n s ⟨x', y', rfl, hg, hx', hy', hb⟩ self
    rcases Nat.eq_zero_or_pos x' with rfl | hp
    · right
      have h2 : K ((0 : Nat) : Int) = 0 := rfl
      simp only [h2, if_true]
      rw [Nat.gcd_zero_left] at hg
      rw [hg]
    · left
      obtain ⟨n', hn, hb'⟩ := eucB_step hb hp
      have h2 : ¬ K (x' : Int) = 0 := by rw [K_lit, K_eq (by omega) (by omega)]; omega
      refine ⟨_, n', hn, ⟨y' % x', x', rfl, by rw [← hg, Nat.gcd_comm x' y', gcd_step y' x', Nat.gcd_comm], Nat.lt_of_le_of_lt (Nat.mod_le _ _) hy', hx', hb'⟩, ?_⟩
      simp only [if_false, h2, bnd]
      rw [K_rem (by omega) (by omega) (by omega), tmod_nat]
  unfold fX12_common
  simp only [jn]
  by_cases h0 : 0 ≤ a
  · have h1 : (0 : Int64) ≤ K a := by rw [K_lit, K_le (by omega) (by omega)]; exact h0
    rw [if_pos h1]
    exact key _ (by rw [show a = (x : Int) by omega])
  · have h1 : ¬ (0 : Int64) ≤ K a := by rw [K_lit, K_le (by omega) (by omega)]; exact h0
    rw [if_neg h1, K_neg]
    exact key _ (by rw [show -a = (x : Int) by omega])
/-- a fraction in lowest terms: above, below -/
def frc (a b p : Int) : Int := if p = 0 then a / (Int.gcd a b : Int) else b / (Int.gcd a b : Int)
theorem tdiv_gcd_l (a b : Int) : a.tdiv (Int.gcd a b : Int) = a / (Int.gcd a b : Int) := by
  rw [Int.tdiv_eq_ediv_of_dvd (Int.gcd_dvd_left a b)]
theorem tdiv_gcd_r (a b : Int) : b.tdiv (Int.gcd a b : Int) = b / (Int.gcd a b : Int) := by
  rw [Int.tdiv_eq_ediv_of_dvd (Int.gcd_dvd_right a b)]
theorem gcd_pos {a b : Int} (hb : 0 < b) : 0 < (Int.gcd a b : Int) := by
  have : 0 < Int.gcd a b := Int.gcd_pos_of_ne_zero_right _ (by omega)
  omega
theorem gcd_lt {a b : Int} (hb : 0 < b) : (Int.gcd a b : Int) ≤ b := Int.le_of_dvd hb (Int.gcd_dvd_right a b)
theorem frc_100 (a b p : Int) (hb : 0 < b) : frc (100 * a) (100 * b) p = frc a b p := by
  have hg : (Int.gcd (100 * a) (100 * b) : Int) = 100 * (Int.gcd a b : Int) := by
    rw [Int.gcd_mul_left]; rfl
  unfold frc
  rw [hg, Int.mul_ediv_mul_of_pos _ _ (by decide), Int.mul_ediv_mul_of_pos _ _ (by decide)]
theorem pt_val {a b p : Int} (ha : a.natAbs < 2 ^ 62) (hb : 0 < b ∧ b < 2 ^ 62) (hp : p = 0 ∨ p = 1) : fX11_partOf (K a) (K b) (J p) = some (K (frc a b p)) := by
  have hg := gcd_pos (a := a) hb.1
  have hg2 := gcd_lt (a := a) hb.1
  have habs : jabsL (K a) = K (a.natAbs : Int) := by
    unfold jabsL
    by_cases h0 : 0 < a
    · rw [if_pos (by rw [K_lit, K_lt (by omega) (by omega)]; exact h0), show (a.natAbs : Int) = a by omega]
    · rw [if_neg (by rw [K_lit, K_lt (by omega) (by omega)]; exact h0), K_neg, show (a.natAbs : Int) = -a by omega]
  have hcd : fX11_commonDivisor (jabsL (K a)) (K b) = some (K (Int.gcd a b : Int)) := by
    rw [habs]
    have := cd_val (x := a.natAbs) (y := b.natAbs) ha (by omega)
    rw [show ((b.natAbs : Nat) : Int) = b by omega] at this
    exact this
  unfold fX11_partOf
  rw [hcd, Option.bind_some]
  have h1 : (1 : Int64) ≤ K (Int.gcd a b : Int) := by rw [K_lit, K_le (by omega) (by omega)]; omega
  have h2 : ¬ K (Int.gcd a b : Int) = 0 := by rw [K_lit, K_eq (by omega) (by omega)]; omega
  simp only [h1, if_true, jn, h2, if_false]
  unfold frc
  rcases hp with rfl | rfl
  · have h3 : J 0 = 0 := rfl
    rw [if_pos h3, if_pos rfl, K_div (by omega) (by omega) hg, tdiv_gcd_l]
  · have h3 : ¬ J 1 = 0 := by decide
    rw [if_neg h3, if_neg (by decide), K_div (by omega) (by omega) hg, tdiv_gcd_r]
theorem tm_val {a b p : Int} (ha : a.natAbs < 2 ^ 62) (hb : 0 < b ∧ b < 2 ^ 62) (hp : p = 0 ∨ p = 1) : fX12_term (K a) (K b) (J p) = some (K (frc a b p)) := by
  have hg := gcd_pos (a := a) hb.1
  have hg2 := gcd_lt (a := a) hb.1
  have hcd : fX12_common (K a) (K b) = some (K (Int.gcd a b : Int)) := by
    have := co_val (x := a.natAbs) (y := b.natAbs) ha (by omega) a rfl
    rw [show ((b.natAbs : Nat) : Int) = b by omega] at this
    exact this
  unfold fX12_term
  rw [hcd, Option.bind_some]
  have h2 : ¬ K (Int.gcd a b : Int) = 0 := by rw [K_lit, K_eq (by omega) (by omega)]; omega
  simp only [h2, if_false]
  unfold frc
  rcases hp with rfl | rfl
  · have h3 : J 0 = 0 := rfl
    rw [if_pos h3, if_pos rfl, K_div (by omega) (by omega) hg, tdiv_gcd_l]
  · have h3 : ¬ J 1 = 0 := by decide
    rw [if_neg h3, if_neg (by decide), K_div (by omega) (by omega) hg, tdiv_gcd_r]
