theorem j0 : (0 : Int32) = J 0 := rfl
theorem j1 : (1 : Int32) = J 1 := rfl
theorem j2 : (2 : Int32) = J 2 := rfl
theorem j3 : (3 : Int32) = J 3 := rfl
theorem j4 : (4 : Int32) = J 4 := rfl
theorem j5 : (5 : Int32) = J 5 := rfl
theorem j7 : (7 : Int32) = J 7 := rfl
theorem j8 : (8 : Int32) = J 8 := rfl
theorem j10 : (10 : Int32) = J 10 := rfl
theorem j16 : (16 : Int32) = J 16 := rfl
theorem j40 : (40 : Int32) = J 40 := rfl
theorem j48 : (48 : Int32) = J 48 := rfl
theorem j60 : (60 : Int32) = J 60 := rfl
theorem j99 : (99 : Int32) = J 99 := rfl
theorem j100 : (100 : Int32) = J 100 := rfl
theorem j128 : (128 : Int32) = J 128 := rfl
theorem j200 : (200 : Int32) = J 200 := rfl
theorem j255 : (255 : Int32) = J 255 := rfl
theorem j512 : (512 : Int32) = J 512 := rfl
theorem j2401 : (2401 : Int32) = J 2401 := rfl
theorem k0 : (0 : Int64) = K 0 := rfl
theorem k1 : (1 : Int64) = K 1 := rfl
theorem k2 : (2 : Int64) = K 2 := rfl
theorem k31 : (31 : Int64) = K 31 := rfl
theorem k100 : (100 : Int64) = K 100 := rfl
theorem jm1 : (-1 : Int32) = J (-1) := rfl
/-! what the document means, in whole numbers -/
def sm : Nat → (Nat → Int) → Int
  | 0, _ => 0
  | n + 1, f => sm n f + f n
theorem sm_cong {n : Nat} {f g : Nat → Int} (h : ∀ i, i < n → f i = g i) : sm n f = sm n g := by
  induction n with
  | zero => rfl
  | succ n ih => show sm n f + f n = sm n g + g n; rw [ih (fun i hi => h i (by omega)), h n (by omega)]
theorem sm_mul (n : Nat) (f : Nat → Int) (c : Int) : sm n (fun i => c * f i) = c * sm n f := by
  induction n with
  | zero => simp [sm]
  | succ n ih => show sm n _ + c * f n = c * (sm n f + f n); rw [ih, Int.mul_add]
theorem sm_bd {n : Nat} {f : Nat → Int} {lo hi : Int} (h : ∀ i, i < n → lo ≤ f i ∧ f i ≤ hi) : lo * n ≤ sm n f ∧ sm n f ≤ hi * n := by
  induction n with
  | zero => simp [sm]
  | succ n ih =>
    have h1 := ih (fun i hi => h i (by omega))
    have h2 := h n (by omega)
    show lo * ((n + 1 : Nat) : Int) ≤ sm n f + f n ∧ sm n f + f n ≤ hi * ((n + 1 : Nat) : Int)
    rw [Int.natCast_succ, Int.mul_add, Int.mul_add, Int.mul_one, Int.mul_one]
    omega
/-- a market: base, slope, how many cases, weights, values -/
abbrev Mk : Type := Int × Int × Nat × (Nat → Int) × (Nat → Int)
def kB (μ : Mk) : Int := μ.1
def kS (μ : Mk) : Int := μ.2.1
def kN (μ : Mk) : Nat := μ.2.2.1
def kW (μ : Mk) : Nat → Int := μ.2.2.2.1
def kV (μ : Mk) : Nat → Int := μ.2.2.2.2
/-- buyers: how many, limits, fees -/
abbrev By : Type := Nat × (Nat → Int) × (Nat → Int)
def bN (β : By) : Nat := β.1
def bL (β : By) : Nat → Int := β.2.1
def bF (β : By) : Nat → Int := β.2.2
/-- news: kind, n -/
abbrev Nw : Type := Int × Int
def mkOK (μ : Mk) : Prop := (0 ≤ kB μ ∧ kB μ ≤ 999) ∧ (0 ≤ kS μ ∧ kS μ ≤ 9) ∧ kN μ ≤ 4 ∧ ∀ c, c < kN μ → (1 ≤ kW μ c ∧ kW μ c ≤ 99) ∧ (0 ≤ kV μ c ∧ kV μ c ≤ 999)
def byOK (β : By) : Prop := bN β ≤ 4 ∧ ∀ b, b < bN β → (1 ≤ bL β b ∧ bL β b ≤ 3) ∧ (0 ≤ bF β b ∧ bF β b ≤ 99)
def nwOK (ν : Nw) : Prop := (0 ≤ ν.1 ∧ ν.1 ≤ 4) ∧ (0 ≤ ν.2 ∧ ν.2 ≤ 255) ∧ (2 < ν.1 → ν.2 ≤ 100)
def hAs (ν : Nw) (c : Nat) : Int := if ν.1 = 0 then 0 else if ν.1 = 2 then (ν.2 / 4 ^ c) % 4 else c
def oth (μ : Mk) : Int := if kN μ ≤ 1 then 1 else (kN μ : Int) - 1
def shr (μ : Mk) (ν : Nw) (c : Nat) (s : Int) : Int :=
  if ν.1 = 3 ∧ 2 ≤ kN μ then (if s = c then (100 - ν.2) * oth μ else if s < kN μ then ν.2 else 0) else if hAs ν c = s then 100 * oth μ else 0
def WS (μ : Mk) (ν : Nw) (s : Int) : Int := sm (kN μ) fun c => kW μ c * shr μ ν c s
def VS (μ : Mk) (ν : Nw) (s : Int) : Int := sm (kN μ) fun c => kW μ c * shr μ ν c s * kV μ c
def nr (ν : Nw) : Int := if ν.1 = 4 then ν.2 else 0
/-- edges: in hundredths; and without them -/
def EH (μ : Mk) (ν : Nw) (s : Int) : Int := (VS μ ν s - WS μ ν s * kB μ) * (100 - nr ν)
def ES (μ : Mk) (ν : Nw) (s : Int) : Int := EH μ ν s / 100
def WT (μ : Mk) : Int := sm (kN μ) (kW μ)
theorem oth_bd (μ : Mk) (h : mkOK μ) : 1 ≤ oth μ ∧ oth μ ≤ 3 := by
  have := h.2.2.1
  unfold oth; split <;> omega
theorem shr_bd {μ : Mk} {ν : Nw} (h : mkOK μ) (hn : nwOK ν) (c : Nat) {s : Int} (hs : 0 ≤ s) : 0 ≤ shr μ ν c s ∧ shr μ ν c s ≤ 300 := by
  have ho := oth_bd μ h
  have h1 := hn.2.1
  unfold shr
  by_cases e : ν.1 = 3 ∧ 2 ≤ kN μ
  · have h2 := hn.2.2 (by omega)
    rw [if_pos e]
    by_cases e2 : s = c
    · rw [if_pos e2]
      constructor
      · exact Int.mul_nonneg (by omega) (by omega)
      · have := Int.mul_le_mul (show (100 - ν.2) ≤ 100 by omega) ho.2 (by omega) (by omega)
        omega
    · rw [if_neg e2]; split <;> omega
  · rw [if_neg e]; split <;> omega
theorem WS_bd {μ : Mk} {ν : Nw} (h : mkOK μ) (hn : nwOK ν) {s : Int} (hs : 0 ≤ s) : ∀ n, n ≤ kN μ → 0 ≤ sm n (fun c => kW μ c * shr μ ν c s) ∧ sm n (fun c => kW μ c * shr μ ν c s) ≤ 29700 * n := by
  intro n hn2
  have := sm_bd (n := n) (f := fun c => kW μ c * shr μ ν c s) (lo := 0) (hi := 29700) (fun i hi => by
    have h1 := shr_bd h hn i hs
    have h2 := (h.2.2.2 i (by omega)).1
    refine ⟨Int.mul_nonneg (by omega) h1.1, ?_⟩
    have := Int.mul_le_mul h2.2 h1.2 h1.1 (by omega)
    omega)
  omega
theorem VS_bd {μ : Mk} {ν : Nw} (h : mkOK μ) (hn : nwOK ν) {s : Int} (hs : 0 ≤ s) : ∀ n, n ≤ kN μ → 0 ≤ sm n (fun c => kW μ c * shr μ ν c s * kV μ c) ∧ sm n (fun c => kW μ c * shr μ ν c s * kV μ c) ≤ 29670300 * n := by
  intro n hn2
  have := sm_bd (n := n) (f := fun c => kW μ c * shr μ ν c s * kV μ c) (lo := 0) (hi := 29670300) (fun i hi => by
    have h1 := shr_bd h hn i hs
    obtain ⟨h2, h3⟩ := h.2.2.2 i (by omega)
    have h4 : 0 ≤ kW μ i * shr μ ν i s := Int.mul_nonneg (by omega) h1.1
    have h5 := Int.mul_le_mul h2.2 h1.2 h1.1 (by omega)
    refine ⟨Int.mul_nonneg h4 h3.1, ?_⟩
    have := Int.mul_le_mul (show kW μ i * shr μ ν i s ≤ 29700 by omega) h3.2 h3.1 (by omega)
    omega)
  omega
/-- where a base comes nearer, all is heard in whole hundreds -/
theorem EH_dvd {μ : Mk} {ν : Nw} (hn : nwOK ν) (s : Int) : 100 * ES μ ν s = EH μ ν s := by
  unfold ES
  have hd : (100 : Int) ∣ EH μ ν s := by
    unfold EH nr
    by_cases e : ν.1 = 4
    · have h1 : ∀ c, (100 : Int) ∣ shr μ ν c s := by
        intro c
        unfold shr
        rw [if_neg (by omega)]
        split
        · exact Int.dvd_mul_right 100 _
        · exact Int.dvd_zero 100
      have h2 : ∀ n, (100 : Int) ∣ sm n (fun c => kW μ c * shr μ ν c s) := by
        intro n
        induction n with
        | zero => exact Int.dvd_zero 100
        | succ n ih => exact Int.dvd_add ih (Int.dvd_mul_of_dvd_right (h1 n))
      have h3 : ∀ n, (100 : Int) ∣ sm n (fun c => kW μ c * shr μ ν c s * kV μ c) := by
        intro n
        induction n with
        | zero => exact Int.dvd_zero 100
        | succ n ih => exact Int.dvd_add ih (Int.dvd_mul_of_dvd_left (Int.dvd_mul_of_dvd_right (h1 n)))
      exact Int.dvd_mul_of_dvd_left (Int.dvd_sub (h3 _) (Int.dvd_mul_of_dvd_left (h2 _)))
    · rw [if_neg e]
      exact Int.dvd_mul_of_dvd_right (by omega)
  exact Int.mul_ediv_cancel' hd
theorem ab_mul (a b : Int) {x y : Int} (h1 : -a ≤ x ∧ x ≤ a) (h2 : -b ≤ y ∧ y ≤ b) : -(a * b) ≤ x * y ∧ x * y ≤ a * b := by
  have ha : 0 ≤ a := by omega
  have hb : 0 ≤ b := by omega
  have k : (x * y).natAbs ≤ a.natAbs * b.natAbs := by
    rw [Int.natAbs_mul]
    exact Nat.mul_le_mul (by omega) (by omega)
  have k2 : (a * b) = ((a.natAbs * b.natAbs : Nat) : Int) := by
    rw [Int.natCast_mul]
    rw [Int.natAbs_of_nonneg ha, Int.natAbs_of_nonneg hb]
  rw [k2]
  omega
theorem EH_bd {μ : Mk} {ν : Nw} (h : mkOK μ) (hn : nwOK ν) {s : Int} (hs : 0 ≤ s) : -24000000000 ≤ EH μ ν s ∧ EH μ ν s ≤ 24000000000 := by
  have h1 := WS_bd h hn hs _ (Nat.le_refl _)
  have h2 := VS_bd h hn hs _ (Nat.le_refl _)
  have hN := h.2.2.1
  have h3 := ab_mul 118800 999 (x := WS μ ν s) (y := kB μ) (by unfold WS; omega) (by have := h.1; omega)
  have hnr : 0 ≤ 100 - nr ν ∧ 100 - nr ν ≤ 100 := by
    unfold nr
    by_cases e : ν.1 = 4
    · have := hn.2.2 (by omega); have := hn.2.1; rw [if_pos e]; omega
    · rw [if_neg e]; omega
  have h4 := ab_mul 240000000 100 (x := VS μ ν s - WS μ ν s * kB μ) (y := 100 - nr ν) (by unfold VS; omega) (by omega)
  unfold EH
  omega
