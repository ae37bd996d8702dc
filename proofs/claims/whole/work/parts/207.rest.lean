/-- what x makes, the others' steps being T: a curve that bends downward -/
def phi (B A F y : Int) : Int := y * B - A * (y * y) - F * ab y
theorem gn_phi (W E S f y T : Int) : gn W E S f y (T + y) = phi (E - W * S * T) (W * S) (W * f) y := by
  unfold gn phi
  rw [Int.mul_add (W * S) T y, Int.mul_sub, Int.mul_sub, Int.mul_add, ← Int.mul_assoc y (W * S) y, Int.mul_comm y (W * S), Int.mul_assoc (W * S) y y]
  omega
theorem int7 {x : Int} (h1 : -3 ≤ x) (h2 : x ≤ 3) : x = -3 ∨ x = -2 ∨ x = -1 ∨ x = 0 ∨ x = 1 ∨ x = 2 ∨ x = 3 := by omega
theorem phi_m3 (B A F : Int) : phi B A F (-3) = -3 * B - 9 * A - 3 * F := by simp [phi, ab]; omega
theorem phi_m2 (B A F : Int) : phi B A F (-2) = -2 * B - 4 * A - 2 * F := by simp [phi, ab]; omega
theorem phi_m1 (B A F : Int) : phi B A F (-1) = -B - A - F := by simp [phi, ab]
theorem phi_0 (B A F : Int) : phi B A F 0 = 0 := by simp [phi, ab]
theorem phi_1 (B A F : Int) : phi B A F 1 = B - A - F := by simp [phi, ab]
theorem phi_2 (B A F : Int) : phi B A F 2 = 2 * B - 4 * A - 2 * F := by simp [phi, ab]; omega
theorem phi_3 (B A F : Int) : phi B A F 3 = 3 * B - 9 * A - 3 * F := by simp [phi, ab]; omega
theorem phi_top {B A F l x y : Int} (hA : 0 ≤ A) (hF : 0 ≤ F) (hl : 0 ≤ l ∧ l ≤ 3) (hx : -l ≤ x ∧ x ≤ l) (hy : -l ≤ y ∧ y ≤ l) (h1 : x < l → phi B A F (x + 1) ≤ phi B A F x) (h2 : -l < x → phi B A F (x + -1) ≤ phi B A F x) : phi B A F y ≤ phi B A F x := by
  by_cases hyx : y = x
  · rw [hyx]; exact Int.le_refl _
  · by_cases hlt : x < y
    · have g := h1 (by omega)
      rcases int7 (x := x) (by omega) (by omega) with rfl | rfl | rfl | rfl | rfl | rfl | rfl <;> rcases int7 (x := y) (by omega) (by omega) with rfl | rfl | rfl | rfl | rfl | rfl | rfl <;> first | omega | (simp only [Int.reduceAdd, phi_m3, phi_m2, phi_m1, phi_0, phi_1, phi_2, phi_3] at g ⊢; omega)
    · have g := h2 (by omega)
      rcases int7 (x := x) (by omega) (by omega) with rfl | rfl | rfl | rfl | rfl | rfl | rfl <;> rcases int7 (x := y) (by omega) (by omega) with rfl | rfl | rfl | rfl | rfl | rfl | rfl <;> first | omega | (simp only [Int.reduceAdd, Int.reduceNeg, phi_m3, phi_m2, phi_m1, phi_0, phi_1, phi_2, phi_3] at g ⊢; omega)
/-- it's enough to look one step more and one less -/
theorem rest_near {η : Hg} {β : By} {set z : Nat} (hβ : byOK β) (hW : 0 ≤ η.1) (hS : 0 ≤ η.2.2) (hb : inBox β set z) : atRest η β set z ↔ ∀ b, b < bN β → set.testBit b = true →
    (st z b < bL β b → gn η.1 η.2.1 η.2.2 (bF β b) (st z b + 1) (TT β z + 1) ≤ gn η.1 η.2.1 η.2.2 (bF β b) (st z b) (TT β z)) ∧
    (-bL β b < st z b → gn η.1 η.2.1 η.2.2 (bF β b) (st z b + -1) (TT β z + -1) ≤ gn η.1 η.2.1 η.2.2 (bF β b) (st z b) (TT β z)) := by
  constructor
  · intro h b hb1 hb2
    refine ⟨fun hl => ?_, fun hl => ?_⟩
    · have hbb := hb b hb1
      unfold lm at hbb
      rw [if_pos ⟨hb1, hb2⟩] at hbb
      have := h b hb1 hb2 (st z b + 1) (by omega) (by omega)
      rwa [show TT β z - st z b + (st z b + 1) = TT β z + 1 by omega] at this
    · have hbb := hb b hb1
      unfold lm at hbb
      rw [if_pos ⟨hb1, hb2⟩] at hbb
      have := h b hb1 hb2 (st z b + -1) (by omega) (by omega)
      rwa [show TT β z - st z b + (st z b + -1) = TT β z + -1 by omega] at this
  · intro h b hb1 hb2 y hy1 hy2
    obtain ⟨g1, g2⟩ := h b hb1 hb2
    have hbb := hb b hb1
    unfold lm at hbb
    rw [if_pos ⟨hb1, hb2⟩] at hbb
    have hl := hβ.2 b hb1
    have e0 : TT β z = (TT β z - st z b) + st z b := by omega
    have e1 : TT β z + 1 = (TT β z - st z b) + (st z b + 1) := by omega
    have e2 : TT β z + -1 = (TT β z - st z b) + (st z b + -1) := by omega
    rw [e1] at g1
    rw [e2] at g2
    have k0 := gn_phi η.1 η.2.1 η.2.2 (bF β b) (st z b) (TT β z - st z b)
    rw [← e0] at k0
    rw [gn_phi, k0] at g1 g2
    rw [gn_phi, k0]
    exact phi_top (Int.mul_nonneg hW hS) (Int.mul_nonneg hW hl.2.1) (by omega) hbb ⟨hy1, hy2⟩ g1 g2
theorem max_ex (P : Nat → Prop) (φ : Nat → Int) (N : Nat) (h : ∃ z, z < N ∧ P z) : ∃ z, z < N ∧ P z ∧ ∀ y, y < N → P y → φ y ≤ φ z := by
  induction N with
  | zero => obtain ⟨z, hz, -⟩ := h; omega
  | succ N ih =>
    by_cases hN : ∃ z, z < N ∧ P z
    · obtain ⟨z, h1, h2, h3⟩ := ih hN
      by_cases hP : P N ∧ φ z < φ N
      · refine ⟨N, by omega, hP.1, fun y hy hPy => ?_⟩
        by_cases e : y = N
        · rw [e]; exact Int.le_refl _
        · have := h3 y (by omega) hPy; omega
      · refine ⟨z, by omega, h2, fun y hy hPy => ?_⟩
        by_cases e : y = N
        · subst e
          by_cases e2 : φ z < φ y
          · exact absurd ⟨hPy, e2⟩ hP
          · omega
        · exact h3 y (by omega) hPy
    · obtain ⟨z, h1, h2⟩ := h
      have e : z = N := by
        by_cases e : z = N
        · exact e
        · exact absurd ⟨z, by omega, h2⟩ hN
      subst e
      refine ⟨z, by omega, h2, fun y hy hPy => ?_⟩
      by_cases e : y = z
      · rw [e]; exact Int.le_refl _
      · exact absurd ⟨y, by omega, hPy⟩ hN
theorem sm_one {n : Nat} {f g : Nat → Int} {b : Nat} (hb : b < n) (h : ∀ i, i < n → i ≠ b → g i = f i) : sm n g = sm n f - f b + g b := by
  induction n with
  | zero => omega
  | succ n ih =>
    show sm n g + g n = sm n f + f n - f b + g b
    by_cases e : b = n
    · subst e
      rw [sm_cong (fun i hi => h i (by omega) (by omega))]; omega
    · rw [ih (by omega) (fun i hi hne => h i (by omega) hne), h n (by omega) (fun q => e q.symm)]; omega
/-- twice what speaks for all together: who moves to his own good raises it by twice that -/
def pot (η : Hg) (β : By) (z : Nat) : Int := 2 * (η.2.1 * TT β z) - η.1 * η.2.2 * (TT β z * TT β z + sm (bN β) (fun b => st z b * st z b)) - 2 * sm (bN β) (fun b => η.1 * bF β b * ab (st z b))
theorem pot_alg (E A T x y F0 F1 : Int) : (2 * (E * (T - x + y)) - A * ((T - x + y) * (T - x + y) + (y * y - x * x)) - 2 * (F1 - F0)) - (2 * (E * T) - A * (T * T)) = 2 * ((y * (E - A * (T - x + y)) - F1) - (x * (E - A * T) - F0)) := by grind
theorem pot_move {η : Hg} {β : By} {z z' b : Nat} {y : Int} (hb : b < bN β) (h1 : st z' b = y) (h2 : ∀ i, i < bN β → i ≠ b → st z' i = st z i) : pot η β z' - pot η β z = 2 * (gn η.1 η.2.1 η.2.2 (bF β b) y (TT β z - st z b + y) - gn η.1 η.2.1 η.2.2 (bF β b) (st z b) (TT β z)) := by
  have e1 : TT β z' = TT β z - st z b + y := by
    unfold TT; rw [sm_one hb h2, h1]
  have e2 : sm (bN β) (fun i => st z' i * st z' i) = sm (bN β) (fun i => st z i * st z i) - st z b * st z b + y * y := by
    rw [sm_one (f := fun i => st z i * st z i) hb (fun i hi hne => by simp only [h2 i hi hne]), h1]
  have e3 : sm (bN β) (fun i => η.1 * bF β i * ab (st z' i)) = sm (bN β) (fun i => η.1 * bF β i * ab (st z i)) - η.1 * bF β b * ab (st z b) + η.1 * bF β b * ab y := by
    rw [sm_one (f := fun i => η.1 * bF β i * ab (st z i)) hb (fun i hi hne => by simp only [h2 i hi hne]), h1]
  unfold pot gn
  rw [e1, e2, e3]
  generalize sm (bN β) (fun i => st z i * st z i) = Q
  generalize sm (bN β) (fun i => η.1 * bF β i * ab (st z i)) = R
  generalize η.1 * bF β b * ab (st z b) = F0
  generalize η.1 * bF β b * ab y = F1
  generalize η.1 * η.2.2 = A
  generalize TT β z = T
  generalize st z b = x
  generalize η.2.1 = E
  have := pot_alg E A T x y F0 F1
  have e4 : A * ((T - x + y) * (T - x + y) + (Q - x * x + y * y)) = A * ((T - x + y) * (T - x + y) + (y * y - x * x)) + A * Q := by grind
  have e5 : A * (T * T + Q) = A * (T * T) + A * Q := by grind
  rw [e4, e5]
  omega
/-- there is always one at rest -/
theorem rest_ex {η : Hg} {β : By} {set : Nat} (hβ : byOK β) : ∃ z, z < 7 ^ bN β ∧ qz η β set z = true := by
  have hn := hβ.1
  have h0 := st_num (x := fun _ => 0) hn (fun b _ => by omega)
  obtain ⟨z, h1, h2, h3⟩ := max_ex (fun z => inBox β set z) (pot η β) (7 ^ bN β) ⟨(num (bN β) (fun _ => 0)).toNat, h0.2.1, fun b hb => by
    rw [h0.2.2 b hb]; have := lm_bd hβ set b; omega⟩
  refine ⟨z, h1, (qz_iff _ _ _ _).mpr ⟨h2, fun b hb hs y hy1 hy2 => ?_⟩⟩
  have hl := hβ.2 b hb
  have h4 := st_num (x := fun i => if i = b then y else st z i) hn (fun i hi => by
    have := st_bd z i
    by_cases e : i = b
    · simp only [e, if_true]; omega
    · simp only [e, if_false]; omega)
  have hm := pot_move (η := η) (z := z) (z' := (num (bN β) (fun i => if i = b then y else st z i)).toNat) (y := y) hb (by rw [h4.2.2 b hb]; simp) (fun i hi hne => by rw [h4.2.2 i hi]; simp [hne])
  have h5 := h3 _ h4.2.1 (fun i hi => by
    rw [h4.2.2 i hi]
    by_cases e : i = b
    · simp only [e, if_true]
      unfold lm; rw [if_pos ⟨hb, hs⟩]; exact ⟨hy1, hy2⟩
    · simp only [e, if_false]; exact h2 i hi)
  omega
