/-! the page's letters, one by one -/
abbrev Mst : Type := Int × Int × Int × Int × Int × Int × (Nat → Int) × (Nat → Int)
def updI (f : Nat → Int) (i v : Int) : Nat → Int := fun k => if (k : Int) = i then v else f k
def gs : Mst → Int → Bool × Mst
  | (st, dg, nm, rb, rs, rc, rw', rv), c =>
    if st = 0 then (decide (c = 112), (1, 0, 0, rb, rs, rc, rw', rv))
    else if st = 1 then (if 48 ≤ c ∧ c ≤ 57 then (decide (dg < 3), (1, dg + 1, 10 * nm + c - 48, rb, rs, rc, rw', rv)) else (decide (0 < dg ∧ c = 115), (2, 0, 0, nm, rs, rc, rw', rv)))
    else if st = 2 then (decide (49 ≤ c ∧ c ≤ 57), (3, 0, 0, rb, c - 48, rc, rw', rv))
    else if st = 3 then (if c = 59 then (decide (rc < 4), (4, 0, 0, rb, rs, rc + 1, rw', rv)) else (false, (st, dg, nm, rb, rs, rc, rw', rv)))
    else if st = 4 then (if 48 ≤ c ∧ c ≤ 57 then (if 0 < dg ∨ ¬ c = 48 then (decide (dg < 2), (4, dg + 1, 10 * nm + c - 48, rb, rs, rc, rw', rv)) else (false, (st, dg, nm, rb, rs, rc, rw', rv))) else (decide (0 < dg ∧ c = 58), (5, 0, 0, rb, rs, rc, updI rw' (rc - 1) nm, rv)))
    else (if 48 ≤ c ∧ c ≤ 57 then (decide (dg < 3), (5, dg + 1, 10 * nm + c - 48, rb, rs, rc, rw', updI rv (rc - 1) (10 * nm + c - 48))) else if dg ≤ 0 then (false, (st, dg, nm, rb, rs, rc, rw', rv)) else if c = 59 then (decide (rc < 4), (4, 0, 0, rb, rs, rc + 1, rw', rv)) else (false, (st, dg, nm, rb, rs, rc, rw', rv)))
def MR (d : Dd) : Mst → Prop
  | (st, dg, nm, rb, rs, rc, rw', rv) => d_i d 23 7 = J st ∧ d_i d 23 8 = J dg ∧ d_i d 23 9 = J nm ∧ d_i d 23 10 = J rb ∧ d_i d 23 11 = J rs ∧ d_i d 23 12 = J rc ∧ ∀ k, k < 4 → d_i d 27 k = J (rw' k) ∧ d_i d 28 k = J (rv k)
def Vl : Mst → Prop
  | (st, dg, _, _, _, rc, _, _) => (0 ≤ st ∧ st ≤ 5) ∧ (0 ≤ dg ∧ dg ≤ 3) ∧ (0 ≤ rc ∧ rc ≤ 4) ∧ (4 ≤ st → 1 ≤ rc)
def PM (o k : Nat) : Prop := (o = 23 ∧ 7 ≤ k ∧ k ≤ 12) ∨ o = 27 ∨ o = 28
theorem gs_vl {τ : Mst} {c : Int} (h : Vl τ) (hg : (gs τ c).1 = true) : Vl (gs τ c).2 := by
  obtain ⟨st, dg, nm, rb, rs, rc, rw', rv⟩ := τ
  obtain ⟨h1, h2, h3, h4⟩ := h
  rcases (show st = 0 ∨ st = 1 ∨ st = 2 ∨ st = 3 ∨ st = 4 ∨ st = 5 by omega) with rfl | rfl | rfl | rfl | rfl | rfl
  · have e : gs (0, dg, nm, rb, rs, rc, rw', rv) c = (decide (c = 112), (1, 0, 0, rb, rs, rc, rw', rv)) := rfl
    rw [e]
    exact ⟨by omega, by omega, h3, fun z => by omega⟩
  · by_cases q : 48 ≤ c ∧ c ≤ 57
    · have e : gs (1, dg, nm, rb, rs, rc, rw', rv) c = (decide (dg < 3), (1, dg + 1, 10 * nm + c - 48, rb, rs, rc, rw', rv)) := by simp [gs, q]
      rw [e] at hg ⊢
      have hg' := of_decide_eq_true hg
      exact ⟨by omega, by omega, h3, fun z => by omega⟩
    · have e : gs (1, dg, nm, rb, rs, rc, rw', rv) c = (decide (0 < dg ∧ c = 115), (2, 0, 0, nm, rs, rc, rw', rv)) := by
        show (if 48 ≤ c ∧ c ≤ 57 then _ else _ : Bool × Mst) = _
        rw [if_neg q]
      rw [e]
      exact ⟨by omega, by omega, h3, fun z => by omega⟩
  · exact ⟨by show (0 : Int) ≤ 3 ∧ (3 : Int) ≤ 5; omega, by show (0 : Int) ≤ 0 ∧ (0 : Int) ≤ 3; omega, h3, fun z => by have : (4 : Int) ≤ 3 := z; omega⟩
  · by_cases q : c = 59
    · have e : gs (3, dg, nm, rb, rs, rc, rw', rv) c = (decide (rc < 4), (4, 0, 0, rb, rs, rc + 1, rw', rv)) := by
        show (if c = 59 then _ else _ : Bool × Mst) = _
        rw [if_pos q]
      rw [e] at hg ⊢
      have hg' := of_decide_eq_true hg
      exact ⟨by omega, by omega, by omega, fun z => by omega⟩
    · have e : gs (3, dg, nm, rb, rs, rc, rw', rv) c = (false, (3, dg, nm, rb, rs, rc, rw', rv)) := by
        show (if c = 59 then _ else _ : Bool × Mst) = _
        rw [if_neg q]
      rw [e] at hg
      exact absurd hg Bool.false_ne_true
  · by_cases q : 48 ≤ c ∧ c ≤ 57
    · by_cases w : 0 < dg ∨ ¬ c = 48
      · have e : gs (4, dg, nm, rb, rs, rc, rw', rv) c = (decide (dg < 2), (4, dg + 1, 10 * nm + c - 48, rb, rs, rc, rw', rv)) := by
          show (if 48 ≤ c ∧ c ≤ 57 then (if 0 < dg ∨ ¬ c = 48 then _ else _) else _ : Bool × Mst) = _
          rw [if_pos q, if_pos w]
        rw [e] at hg ⊢
        have hg' := of_decide_eq_true hg
        exact ⟨by omega, by omega, h3, fun z => h4 (by omega)⟩
      · have e : gs (4, dg, nm, rb, rs, rc, rw', rv) c = (false, (4, dg, nm, rb, rs, rc, rw', rv)) := by
          show (if 48 ≤ c ∧ c ≤ 57 then (if 0 < dg ∨ ¬ c = 48 then _ else _) else _ : Bool × Mst) = _
          rw [if_pos q, if_neg w]
        rw [e] at hg
        exact absurd hg Bool.false_ne_true
    · have e : gs (4, dg, nm, rb, rs, rc, rw', rv) c = (decide (0 < dg ∧ c = 58), (5, 0, 0, rb, rs, rc, updI rw' (rc - 1) nm, rv)) := by
        show (if 48 ≤ c ∧ c ≤ 57 then _ else _ : Bool × Mst) = _
        rw [if_neg q]
      rw [e]
      exact ⟨by omega, by omega, h3, fun z => h4 (by omega)⟩
  · by_cases q : 48 ≤ c ∧ c ≤ 57
    · have e : gs (5, dg, nm, rb, rs, rc, rw', rv) c = (decide (dg < 3), (5, dg + 1, 10 * nm + c - 48, rb, rs, rc, rw', updI rv (rc - 1) (10 * nm + c - 48))) := by
        show (if 48 ≤ c ∧ c ≤ 57 then _ else _ : Bool × Mst) = _
        rw [if_pos q]
      rw [e] at hg ⊢
      have hg' := of_decide_eq_true hg
      exact ⟨by omega, by omega, h3, fun z => h4 (by omega)⟩
    · by_cases w : dg ≤ 0
      · have e : gs (5, dg, nm, rb, rs, rc, rw', rv) c = (false, (5, dg, nm, rb, rs, rc, rw', rv)) := by
          show (if 48 ≤ c ∧ c ≤ 57 then _ else (if dg ≤ 0 then _ else _) : Bool × Mst) = _
          rw [if_neg q, if_pos w]
        rw [e] at hg
        exact absurd hg Bool.false_ne_true
      · by_cases y : c = 59
        · have e : gs (5, dg, nm, rb, rs, rc, rw', rv) c = (decide (rc < 4), (4, 0, 0, rb, rs, rc + 1, rw', rv)) := by
            show (if 48 ≤ c ∧ c ≤ 57 then _ else (if dg ≤ 0 then _ else (if c = 59 then _ else _)) : Bool × Mst) = _
            rw [if_neg q, if_neg w, if_pos y]
          rw [e] at hg ⊢
          have hg' := of_decide_eq_true hg
          exact ⟨by omega, by omega, by omega, fun z => by omega⟩
        · have e : gs (5, dg, nm, rb, rs, rc, rw', rv) c = (false, (5, dg, nm, rb, rs, rc, rw', rv)) := by
            show (if 48 ≤ c ∧ c ≤ 57 then _ else (if dg ≤ 0 then _ else (if c = 59 then _ else _)) : Bool × Mst) = _
            rw [if_neg q, if_neg w, if_neg y]
          rw [e] at hg
          exact absurd hg Bool.false_ne_true
