/-! dealings: what one makes, rest, and the count through all dealings -/
def ab (x : Int) : Int := if 0 ≤ x then x else -x
/-- what x makes, weight times: weight, edge, slope, fee, x, all steps together -/
def gn (W E S f x T : Int) : Int := x * (E - W * S * T) - W * f * ab x
def st (z b : Nat) : Int := ((z / 7 ^ b % 7 : Nat) : Int) - 3
theorem st_bd (z b : Nat) : -3 ≤ st z b ∧ st z b ≤ 3 := by unfold st; omega
/-- limits of those who know, 0 else -/
def lm (β : By) (set b : Nat) : Int := if b < bN β ∧ set.testBit b = true then bL β b else 0
theorem lm_bd {β : By} (h : byOK β) (set b : Nat) : 0 ≤ lm β set b ∧ lm β set b ≤ 3 := by
  unfold lm; split
  · next e => have := (h.2 b e.1).1; omega
  · omega
def TT (β : By) (z : Nat) : Int := sm (bN β) (st z)
/-- the parameters of a hearing: weight, edge, slope -/
abbrev Hg : Type := Int × Int × Int
def inBox (β : By) (set z : Nat) : Prop := ∀ b, b < bN β → -lm β set b ≤ st z b ∧ st z b ≤ lm β set b
def atRest (η : Hg) (β : By) (set z : Nat) : Prop := ∀ b, b < bN β → set.testBit b = true → ∀ y, -bL β b ≤ y → y ≤ bL β b → gn η.1 η.2.1 η.2.2 (bF β b) y (TT β z - st z b + y) ≤ gn η.1 η.2.1 η.2.2 (bF β b) (st z b) (TT β z)
noncomputable def qz (η : Hg) (β : By) (set z : Nat) : Bool := @decide (inBox β set z ∧ atRest η β set z) (Classical.propDecidable _)
theorem qz_iff (η : Hg) (β : By) (set z : Nat) : qz η β set z = true ↔ inBox β set z ∧ atRest η β set z := by
  unfold qz; exact @decide_eq_true_iff _ (Classical.propDecidable _)
/-- what all together make -/
def tz (η : Hg) (β : By) (z : Nat) : Int := sm (bN β) fun b => gn η.1 η.2.1 η.2.2 (bF β b) (st z b) (TT β z)
/-- the count: how many, the best, what it makes -/
def scn (q : Nat → Bool) (t : Nat → Int) : Nat → Nat × Int × Int
  | 0 => (0, -1, 0)
  | z + 1 => if q z = true then ((scn q t z).1 + 1, if (scn q t z).1 = 0 ∨ (scn q t z).2.2 < t z then ((z : Int), t z) else (scn q t z).2) else scn q t z
def ith (q : Nat → Bool) (t : Nat → Int) (i : Int) : Nat → Int
  | 0 => -1
  | z + 1 => if q z = true ∧ ((scn q t z).1 : Int) = i then (z : Int) else ith q t i z
theorem scn_skip {q : Nat → Bool} {t : Nat → Int} {a : Nat} : ∀ {b : Nat}, a ≤ b → (∀ z, a ≤ z → z < b → ¬ q z = true) → scn q t b = scn q t a := by
  intro b
  induction b with
  | zero => intro h _; rw [show a = 0 by omega]
  | succ b ih =>
    intro h hz
    by_cases e : a = b + 1
    · rw [e]
    · show (if q b = true then _ else scn q t b) = _
      rw [if_neg (hz b (by omega) (by omega))]
      exact ih (by omega) (fun z h1 h2 => hz z h1 (by omega))
theorem ith_skip {q : Nat → Bool} {t : Nat → Int} {i : Int} {a : Nat} : ∀ {b : Nat}, a ≤ b → (∀ z, a ≤ z → z < b → ¬ q z = true) → ith q t i b = ith q t i a := by
  intro b
  induction b with
  | zero => intro h _; rw [show a = 0 by omega]
  | succ b ih =>
    intro h hz
    by_cases e : a = b + 1
    · rw [e]
    · show (if q b = true ∧ _ then _ else ith q t i b) = _
      rw [if_neg (fun z => hz b (by omega) (by omega) z.1)]
      exact ih (by omega) (fun z h1 h2 => hz z h1 (by omega))
theorem scn_mono {q : Nat → Bool} {t : Nat → Int} {a : Nat} : ∀ {b : Nat}, a ≤ b → (scn q t a).1 ≤ (scn q t b).1 := by
  intro b
  induction b with
  | zero => intro h; rw [show a = 0 by omega]; exact Nat.le_refl _
  | succ b ih =>
    intro h
    by_cases e : a = b + 1
    · rw [e]; exact Nat.le_refl _
    · refine Nat.le_trans (ih (by omega)) ?_
      show _ ≤ (if q b = true then _ else scn q t b).1
      split
      · exact Nat.le_succ _
      · exact Nat.le_refl _
theorem ith_hit {q : Nat → Bool} {t : Nat → Int} {z N : Nat} (hz : z < N) (hq : q z = true) : ith q t ((scn q t z).1 : Int) N = z := by
  induction N with
  | zero => omega
  | succ N ih =>
    show (if q N = true ∧ _ then _ else ith q t _ N) = _
    by_cases e : z = N
    · subst e; rw [if_pos ⟨hq, rfl⟩]
    · rw [if_neg, ih (by omega)]
      rintro ⟨-, h2⟩
      have h3 : (scn q t (z + 1)).1 ≤ (scn q t N).1 := scn_mono (by omega)
      have h4 : (scn q t (z + 1)).1 = (scn q t z).1 + 1 := by
        show (if q z = true then _ else scn q t z).1 = _
        rw [if_pos hq]
      omega
theorem scn_le {q : Nat → Bool} {t : Nat → Int} (N : Nat) : (scn q t N).1 ≤ N := by
  induction N with
  | zero => exact Nat.le_refl _
  | succ N ih =>
    show (if q N = true then _ else scn q t N).1 ≤ _
    split
    · exact Nat.succ_le_succ ih
    · omega
theorem scn_best {q : Nat → Bool} {t : Nat → Int} (N : Nat) : ((scn q t N).1 = 0 ∧ (scn q t N).2.1 = -1) ∨ (0 < (scn q t N).1 ∧ ∃ z, z < N ∧ q z = true ∧ (scn q t N).2.1 = z ∧ (scn q t N).2.2 = t z) := by
  induction N with
  | zero => exact Or.inl ⟨rfl, rfl⟩
  | succ N ih =>
    by_cases hq : q N = true
    · right
      have e : scn q t (N + 1) = ((scn q t N).1 + 1, if (scn q t N).1 = 0 ∨ (scn q t N).2.2 < t N then ((N : Int), t N) else (scn q t N).2) := by
        show (if q N = true then _ else scn q t N) = _
        rw [if_pos hq]
      rw [e]
      refine ⟨Nat.succ_pos _, ?_⟩
      by_cases h : (scn q t N).1 = 0 ∨ (scn q t N).2.2 < t N
      · refine ⟨N, by omega, hq, ?_⟩
        show (if _ then _ else _ : Int × Int).1 = _ ∧ (if _ then _ else _ : Int × Int).2 = _
        rw [if_pos h]; exact ⟨rfl, rfl⟩
      · rcases ih with ⟨h1, h2⟩ | ⟨h1, z, h2, h3, h4, h5⟩
        · exact absurd (Or.inl h1) h
        · refine ⟨z, by omega, h3, ?_⟩
          show (if _ then _ else _ : Int × Int).1 = _ ∧ (if _ then _ else _ : Int × Int).2 = _
          rw [if_neg h]; exact ⟨h4, h5⟩
    · have e : scn q t (N + 1) = scn q t N := by
        show (if q N = true then _ else scn q t N) = _
        rw [if_neg hq]
      rw [e]
      rcases ih with h | ⟨h1, z, h2, h3⟩
      · exact Or.inl h
      · exact Or.inr ⟨h1, z, by omega, h3⟩
theorem scn_pos {q : Nat → Bool} {t : Nat → Int} {z N : Nat} (hz : z < N) (hq : q z = true) : 0 < (scn q t N).1 := by
  have h1 : (scn q t (z + 1)).1 = (scn q t z).1 + 1 := by
    show (if q z = true then _ else scn q t z).1 = _
    rw [if_pos hq]
  have h2 : (scn q t (z + 1)).1 ≤ (scn q t N).1 := scn_mono (by omega)
  omega
/-- digits and numbers -/
def num (n : Nat) (x : Nat → Int) : Int := sm n fun b => (x b + 3) * 7 ^ b
theorem num4 (x : Nat → Int) : num 4 x = (x 0 + 3) + 7 * (x 1 + 3) + 49 * (x 2 + 3) + 343 * (x 3 + 3) := by
  simp only [num, sm]; omega
theorem num3 (x : Nat → Int) : num 3 x = (x 0 + 3) + 7 * (x 1 + 3) + 49 * (x 2 + 3) := by simp only [num, sm]; omega
theorem num2 (x : Nat → Int) : num 2 x = (x 0 + 3) + 7 * (x 1 + 3) := by simp only [num, sm]; omega
theorem num1 (x : Nat → Int) : num 1 x = (x 0 + 3) := by simp only [num, sm]; omega
theorem num0 (x : Nat → Int) : num 0 x = 0 := rfl
theorem num_st {n z : Nat} (hn : n ≤ 4) (hz : z < 7 ^ n) : num n (st z) = z := by
  rcases (show n = 0 ∨ n = 1 ∨ n = 2 ∨ n = 3 ∨ n = 4 by omega) with rfl | rfl | rfl | rfl | rfl
  · rw [num0]; simp at hz; omega
  · rw [num1]; unfold st; simp at hz ⊢; omega
  · rw [num2]; unfold st; simp at hz ⊢; omega
  · rw [num3]; unfold st; simp at hz ⊢; omega
  · rw [num4]; unfold st; simp at hz ⊢; omega
theorem st_num {n : Nat} (hn : n ≤ 4) {x : Nat → Int} (hx : ∀ b, b < n → -3 ≤ x b ∧ x b ≤ 3) : 0 ≤ num n x ∧ (num n x).toNat < 7 ^ n ∧ ∀ b, b < n → st (num n x).toNat b = x b := by
  rcases (show n = 0 ∨ n = 1 ∨ n = 2 ∨ n = 3 ∨ n = 4 by omega) with rfl | rfl | rfl | rfl | rfl
  · rw [num0]; exact ⟨by decide, by decide, fun b hb => absurd hb (by omega)⟩
  · have h0 := hx 0 (by omega)
    rw [num1]
    refine ⟨by omega, by simp; omega, fun b hb => ?_⟩
    rw [show b = 0 by omega]; unfold st; simp; omega
  · have h0 := hx 0 (by omega); have h1 := hx 1 (by omega)
    rw [num2]
    refine ⟨by omega, by simp; omega, fun b hb => ?_⟩
    rcases (show b = 0 ∨ b = 1 by omega) with rfl | rfl <;> unfold st <;> simp <;> omega
  · have h0 := hx 0 (by omega); have h1 := hx 1 (by omega); have h2 := hx 2 (by omega)
    rw [num3]
    refine ⟨by omega, by simp; omega, fun b hb => ?_⟩
    rcases (show b = 0 ∨ b = 1 ∨ b = 2 by omega) with rfl | rfl | rfl <;> unfold st <;> simp <;> omega
  · have h0 := hx 0 (by omega); have h1 := hx 1 (by omega); have h2 := hx 2 (by omega); have h3 := hx 3 (by omega)
    rw [num4]
    refine ⟨by omega, by simp; omega, fun b hb => ?_⟩
    rcases (show b = 0 ∨ b = 1 ∨ b = 2 ∨ b = 3 by omega) with rfl | rfl | rfl | rfl <;> unfold st <;> simp <;> omega
/-- the next dealings: the places below e are full -/
def nxt (l x : Nat → Int) (e : Nat) : Nat → Int := fun b => if b < e then -l b else if b = e then x b + 1 else x b
theorem nxt_gap {n : Nat} (hn : n ≤ 4) {l x y : Nat → Int} (hl : ∀ b, b < n → 0 ≤ l b ∧ l b ≤ 3) (hx : ∀ b, b < n → -l b ≤ x b ∧ x b ≤ l b) (hy : ∀ b, b < n → -l b ≤ y b ∧ y b ≤ l b) {e : Nat} (he : e < n) (hf : ∀ b, b < e → x b = l b) : num n x < num n (nxt l x e) ∧ (num n x < num n y → num n (nxt l x e) ≤ num n y) := by
  rcases (show n = 1 ∨ n = 2 ∨ n = 3 ∨ n = 4 by omega) with rfl | rfl | rfl | rfl
  · have a0 := hl 0 (by omega); have b0 := hx 0 (by omega); have c0 := hy 0 (by omega)
    rw [num1, num1, num1]
    rw [show e = 0 by omega]
    simp only [nxt]; simp; omega
  · have a0 := hl 0 (by omega); have b0 := hx 0 (by omega); have c0 := hy 0 (by omega)
    have a1 := hl 1 (by omega); have b1 := hx 1 (by omega); have c1 := hy 1 (by omega)
    rw [num2, num2, num2]
    rcases (show e = 0 ∨ e = 1 by omega) with rfl | rfl
    · simp only [nxt]; simp; omega
    · have f0 := hf 0 (by omega)
      simp only [nxt]; simp; omega
  · have a0 := hl 0 (by omega); have b0 := hx 0 (by omega); have c0 := hy 0 (by omega)
    have a1 := hl 1 (by omega); have b1 := hx 1 (by omega); have c1 := hy 1 (by omega)
    have a2 := hl 2 (by omega); have b2 := hx 2 (by omega); have c2 := hy 2 (by omega)
    rw [num3, num3, num3]
    rcases (show e = 0 ∨ e = 1 ∨ e = 2 by omega) with rfl | rfl | rfl
    · simp only [nxt]; simp; omega
    · have f0 := hf 0 (by omega)
      simp only [nxt]; simp; omega
    · have f0 := hf 0 (by omega); have f1 := hf 1 (by omega)
      simp only [nxt]; simp; omega
  · have a0 := hl 0 (by omega); have b0 := hx 0 (by omega); have c0 := hy 0 (by omega)
    have a1 := hl 1 (by omega); have b1 := hx 1 (by omega); have c1 := hy 1 (by omega)
    have a2 := hl 2 (by omega); have b2 := hx 2 (by omega); have c2 := hy 2 (by omega)
    have a3 := hl 3 (by omega); have b3 := hx 3 (by omega); have c3 := hy 3 (by omega)
    rw [num4, num4, num4]
    rcases (show e = 0 ∨ e = 1 ∨ e = 2 ∨ e = 3 by omega) with rfl | rfl | rfl | rfl
    · simp only [nxt]; simp; omega
    · have f0 := hf 0 (by omega)
      simp only [nxt]; simp; omega
    · have f0 := hf 0 (by omega); have f1 := hf 1 (by omega)
      simp only [nxt]; simp; omega
    · have f0 := hf 0 (by omega); have f1 := hf 1 (by omega); have f2 := hf 2 (by omega)
      simp only [nxt]; simp; omega
theorem num_le {n : Nat} {x y : Nat → Int} (h : ∀ b, b < n → x b ≤ y b) : num n x ≤ num n y := by
  unfold num
  induction n with
  | zero => exact Int.le_refl _
  | succ n ih =>
    have h1 := ih (fun b hb => h b (by omega))
    have h2 := h n (by omega)
    have h3 : (x n + 3) * 7 ^ n ≤ (y n + 3) * 7 ^ n := Int.mul_le_mul_of_nonneg_right (by omega) (Int.pow_nonneg (by decide))
    exact Int.add_le_add h1 h3
