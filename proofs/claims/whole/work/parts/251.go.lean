def nxt3 (d : Dd) (s : Int) : Dd := dI (dI (dI d 23 7 (J s)) 23 8 0) 23 9 0
theorem next_val {ρ : Rh} {d : Dd} (s : Int) : fX12_next ρ d (J s) = some (nxt3 d s) := by
  unfold fX12_next
  simp only [bnd_eq]; rfl
theorem nxt3_MR {d : Dd} {st dg nm rb rs rc : Int} {rw' rv : Nat → Int} (h : MR d (st, dg, nm, rb, rs, rc, rw', rv)) (s : Int) : MR (nxt3 d s) (s, 0, 0, rb, rs, rc, rw', rv) := by
  obtain ⟨h1, h2, h3, h4, h5, h6, h7⟩ := h
  unfold nxt3
  refine ⟨?_, ?_, ?_, ?_, ?_, ?_, fun k hk => ⟨?_, ?_⟩⟩
  · rw [dI_o (by omega), dI_o (by omega), dI_s]
  · rw [dI_o (by omega), dI_s]; rfl
  · rw [dI_s]; rfl
  · rw [dI_o (by omega), dI_o (by omega), dI_o (by omega)]; exact h4
  · rw [dI_o (by omega), dI_o (by omega), dI_o (by omega)]; exact h5
  · rw [dI_o (by omega), dI_o (by omega), dI_o (by omega)]; exact h6
  · rw [dI_o (by omega), dI_o (by omega), dI_o (by omega)]; exact (h7 k hk).1
  · rw [dI_o (by omega), dI_o (by omega), dI_o (by omega)]; exact (h7 k hk).2
theorem nxt3_fr {d0 d : Dd} (f : Fr PM d0 d) (s : Int) : Fr PM d0 (nxt3 d s) :=
  ((f.i (Or.inl ⟨rfl, by omega, by omega⟩)).i (Or.inl ⟨rfl, by omega, by omega⟩)).i (Or.inl ⟨rfl, by omega, by omega⟩)
theorem digit_val {ρ : Rh} {d : Dd} {st dg nm rb rs rc : Int} {rw' rv : Nat → Int} (h : MR d (st, dg, nm, rb, rs, rc, rw', rv)) (hdg : 0 ≤ dg ∧ dg ≤ 3) (c : Int) {m : Int} (hm : m = 2 ∨ m = 3) :
    ∃ d', fX12_digit ρ d (J c) (J m) = some (decide (dg < m), d') ∧ MR d' (st, dg + 1, 10 * nm + c - 48, rb, rs, rc, rw', rv) ∧ Fr PM d d' := by
  obtain ⟨h1, h2, h3, h4, h5, h6, h7⟩ := h
  refine ⟨dI (dI d 23 9 (J (10 * nm + c - 48))) 23 8 (J (dg + 1)), ?_, ⟨?_, ?_, ?_, ?_, ?_, ?_, fun k hk => ⟨?_, ?_⟩⟩, (Fr.rf.i (Or.inl ⟨rfl, by omega, by omega⟩)).i (Or.inl ⟨rfl, by omega, by omega⟩)⟩
  · have e1 : 10 * d_i d 23 9 + J c - 48 = J (10 * nm + c - 48) := by
      rw [h3, j10, J_mul, J_add, j48, J_sub]
    have e2 : d_i (dI d 23 9 (J (10 * nm + c - 48))) 23 8 + 1 = J (dg + 1) := by
      rw [dI_o (by omega), h2, j1, J_add]
    have cl : J m < J (dg + 1) ↔ m < dg + 1 := J_lt (by omega) (by omega)
    unfold fX12_digit
    rw [e1, bnd_eq, e2, bnd_eq, dI_s]
    by_cases q : dg < m
    · rw [if_neg (fun z => by have := cl.mp z; omega), decide_eq_true q]
    · rw [if_pos (cl.mpr (by omega)), decide_eq_false q]
  · rw [dI_o (by omega), dI_o (by omega)]; exact h1
  · rw [dI_s]
  · rw [dI_o (by omega), dI_s]
  · rw [dI_o (by omega), dI_o (by omega)]; exact h4
  · rw [dI_o (by omega), dI_o (by omega)]; exact h5
  · rw [dI_o (by omega), dI_o (by omega)]; exact h6
  · rw [dI_o (by omega), dI_o (by omega)]; exact (h7 k hk).1
  · rw [dI_o (by omega), dI_o (by omega)]; exact (h7 k hk).2
theorem begin_case {ρ : Rh} {d : Dd} {st dg nm rb rs rc : Int} {rw' rv : Nat → Int} (h : MR d (st, dg, nm, rb, rs, rc, rw', rv)) (hrc : 0 ≤ rc ∧ rc ≤ 4) :
    ∃ d', fX12_beginCase ρ d = some (decide (rc < 4), d') ∧ MR d' (4, 0, 0, rb, rs, rc + 1, rw', rv) ∧ Fr PM d d' := by
  obtain ⟨h1, h2, h3, h4, h5, h6, h7⟩ := h
  have e1 : d_i d 23 12 + 1 = J (rc + 1) := by rw [h6, j1, J_add]
  have hM : MR (dI d 23 12 (J (rc + 1))) (st, dg, nm, rb, rs, rc + 1, rw', rv) := by
    refine ⟨?_, ?_, ?_, ?_, ?_, ?_, fun k hk => ⟨?_, ?_⟩⟩
    · rw [dI_o (by omega)]; exact h1
    · rw [dI_o (by omega)]; exact h2
    · rw [dI_o (by omega)]; exact h3
    · rw [dI_o (by omega)]; exact h4
    · rw [dI_o (by omega)]; exact h5
    · rw [dI_s]
    · rw [dI_o (by omega)]; exact (h7 k hk).1
    · rw [dI_o (by omega)]; exact (h7 k hk).2
  have hM2 := nxt3_MR hM 4
  refine ⟨nxt3 (dI d 23 12 (J (rc + 1))) 4, ?_, hM2, nxt3_fr (Fr.rf.i (Or.inl ⟨rfl, by omega, by omega⟩)) 4⟩
  have cl : (4 : Int32) < J (rc + 1) ↔ 4 < rc + 1 := by rw [j4]; exact J_lt (by omega) (by omega)
  have e2 : d_i (nxt3 (dI d 23 12 (J (rc + 1))) 4) 23 12 = J (rc + 1) := hM2.2.2.2.2.2.1
  unfold fX12_beginCase
  rw [e1, bnd_eq, j4, next_val, Option.bind_some, e2, ← j4]
  by_cases q : rc < 4
  · rw [if_neg (fun z => by have := cl.mp z; omega), decide_eq_true q]
  · rw [if_pos (cl.mpr (by omega)), decide_eq_false q]
theorem inD {c : Int} (hc : 0 ≤ c ∧ c ≤ 255) (lo : Int) (hlo : 0 ≤ lo ∧ lo ≤ 255) : fX12_in (Int32.toInt64 (J c)) (K lo) 57 = some (decide (lo ≤ c ∧ c ≤ 57)) := by
  rw [J_l (by omega), show (57 : Int64) = K 57 from rfl, in_val (by omega) (by omega) (by omega)]
theorem updI_ok {d : Dd} {o : Nat} {f : Nat → Int} (h : ∀ k, k < 4 → d_i d o k = J (f k)) {i : Int} (hi : 0 ≤ i ∧ i < 4) (v : Int) : ∀ k, k < 4 → d_i (dI d o i.toNat (J v)) o k = J (updI f i v k) := fun k hk => by
  unfold updI
  by_cases e : (k : Int) = i
  · rw [if_pos e, show i.toNat = k by omega, dI_s]
  · rw [if_neg e, dI_o (by omega)]; exact h k hk
theorem go_val {ρ : Rh} {d : Dd} {τ : Mst} (h : MR d τ) (hv : Vl τ) {c : Int} (hc : 0 ≤ c ∧ c ≤ 255) : ∃ d', fX12_go ρ d (J c) = some ((gs τ c).1, d') ∧ MR d' (gs τ c).2 ∧ Fr PM d d' := by
  obtain ⟨st, dg, nm, rb, rs, rc, rw', rv⟩ := τ
  obtain ⟨v1, v2, v3, v4⟩ := hv
  have h' := h
  obtain ⟨h1, h2, h3, h4, h5, h6, h7⟩ := h'
  have i0 := inD hc 48 (by omega)
  have i0' : fX12_in (Int32.toInt64 (J c)) 48 57 = some (decide (48 ≤ c ∧ c ≤ 57)) := i0
  have ce : ∀ x : Int, 0 ≤ x ∧ x ≤ 255 → (J c = J x ↔ c = x) := fun x hx => J_eq (by omega) (by omega)
  have cd : J dg ≤ 0 ↔ dg ≤ 0 := by rw [j0]; exact J_le (by omega) (by omega)
  have cd' : 0 < J dg ↔ 0 < dg := by rw [j0]; exact J_lt (by omega) (by omega)
  unfold fX12_go
  rw [i0', Option.bind_some, h1]
  rcases (show st = 0 ∨ st = 1 ∨ st = 2 ∨ st = 3 ∨ st = 4 ∨ st = 5 by omega) with rfl | rfl | rfl | rfl | rfl | rfl
  · have e : gs (0, dg, nm, rb, rs, rc, rw', rv) c = (decide (c = 112), (1, 0, 0, rb, rs, rc, rw', rv)) := rfl
    have c112 : J c = 112 ↔ c = 112 := ce 112 (by omega)
    rw [if_pos j0.symm, e, j1, next_val, Option.bind_some]
    refine ⟨nxt3 d 1, ?_, nxt3_MR h 1, nxt3_fr Fr.rf 1⟩
    by_cases q : c = 112
    · rw [if_pos (c112.mpr q), decide_eq_true q]
    · rw [if_neg (fun z => q (c112.mp z)), decide_eq_false q]
  · rw [if_neg (by decide), if_pos j1.symm]
    by_cases q : 48 ≤ c ∧ c ≤ 57
    · have e : gs (1, dg, nm, rb, rs, rc, rw', rv) c = (decide (dg < 3), (1, dg + 1, 10 * nm + c - 48, rb, rs, rc, rw', rv)) := by
        show (if 48 ≤ c ∧ c ≤ 57 then _ else _ : Bool × Mst) = _
        rw [if_pos q]
      obtain ⟨d', e1, e2, e3⟩ := digit_val (ρ := ρ) h v2 c (m := 3) (Or.inr rfl)
      rw [decide_eq_true q, if_pos rfl, e, j3, e1, Option.bind_some]
      exact ⟨d', rfl, e2, e3⟩
    · have e : gs (1, dg, nm, rb, rs, rc, rw', rv) c = (decide (0 < dg ∧ c = 115), (2, 0, 0, nm, rs, rc, rw', rv)) := by
        show (if 48 ≤ c ∧ c ≤ 57 then _ else _ : Bool × Mst) = _
        rw [if_neg q]
      have c115 : J c = 115 ↔ c = 115 := ce 115 (by omega)
      have hM : MR (dI d 23 10 (d_i d 23 9)) (1, dg, nm, nm, rs, rc, rw', rv) := by
        refine ⟨?_, ?_, ?_, ?_, ?_, ?_, fun k hk => ⟨?_, ?_⟩⟩
        · rw [dI_o (by omega)]; exact h1
        · rw [dI_o (by omega)]; exact h2
        · rw [dI_o (by omega)]; exact h3
        · rw [dI_s]; exact h3
        · rw [dI_o (by omega)]; exact h5
        · rw [dI_o (by omega)]; exact h6
        · rw [dI_o (by omega)]; exact (h7 k hk).1
        · rw [dI_o (by omega)]; exact (h7 k hk).2
      have e8 : d_i (dI d 23 10 (d_i d 23 9)) 23 8 = J dg := hM.2.1
      rw [decide_eq_false q, if_neg Bool.false_ne_true, e, bnd_eq, jn_eq, e8]
      refine ⟨nxt3 (dI d 23 10 (d_i d 23 9)) 2, ?_, nxt3_MR hM 2, nxt3_fr (Fr.rf.i (Or.inl ⟨rfl, by omega, by omega⟩)) 2⟩
      have en := next_val (ρ := ρ) (d := dI d 23 10 (d_i d 23 9)) 2
      rw [← j2] at en
      simp only [en, Option.bind_some]
      by_cases w : 0 < dg
      · rw [if_neg (fun z => by have := cd.mp z; omega), if_pos trivial]
        by_cases y : c = 115
        · rw [if_pos (c115.mpr y), decide_eq_true ⟨w, y⟩]
        · rw [if_neg (fun z => y (c115.mp z)), decide_eq_false (fun z => y z.2)]
      · rw [if_pos (cd.mpr (by omega)), if_neg Bool.false_ne_true, decide_eq_false (fun z => w z.1)]
  · have e : gs (2, dg, nm, rb, rs, rc, rw', rv) c = (decide (49 ≤ c ∧ c ≤ 57), (3, 0, 0, rb, c - 48, rc, rw', rv)) := rfl
    have hM : MR (dI d 23 11 (J c - 48)) (2, dg, nm, rb, c - 48, rc, rw', rv) := by
      refine ⟨?_, ?_, ?_, ?_, ?_, ?_, fun k hk => ⟨?_, ?_⟩⟩
      · rw [dI_o (by omega)]; exact h1
      · rw [dI_o (by omega)]; exact h2
      · rw [dI_o (by omega)]; exact h3
      · rw [dI_o (by omega)]; exact h4
      · rw [dI_s, j48, J_sub]
      · rw [dI_o (by omega)]; exact h6
      · rw [dI_o (by omega)]; exact (h7 k hk).1
      · rw [dI_o (by omega)]; exact (h7 k hk).2
    have i1 : fX12_in (Int32.toInt64 (J c)) 49 57 = some (decide (49 ≤ c ∧ c ≤ 57)) := inD hc 49 (by omega)
    rw [if_neg (by decide), if_neg (by decide), if_pos j2.symm, e, bnd_eq, j3, next_val, Option.bind_some, i1, Option.bind_some]
    exact ⟨nxt3 (dI d 23 11 (J c - 48)) 3, rfl, nxt3_MR hM 3, nxt3_fr (Fr.rf.i (Or.inl ⟨rfl, by omega, by omega⟩)) 3⟩
  · have c59 : J c = 59 ↔ c = 59 := ce 59 (by omega)
    rw [if_neg (by decide), if_neg (by decide), if_neg (by decide), if_pos j3.symm]
    by_cases q : c = 59
    · have e : gs (3, dg, nm, rb, rs, rc, rw', rv) c = (decide (rc < 4), (4, 0, 0, rb, rs, rc + 1, rw', rv)) := by
        show (if c = 59 then _ else _ : Bool × Mst) = _
        rw [if_pos q]
      obtain ⟨d', e1, e2, e3⟩ := begin_case (ρ := ρ) h v3
      rw [if_pos (c59.mpr q), e, e1, Option.bind_some]
      refine ⟨d', ?_, e2, e3⟩
      by_cases y : rc < 4
      · rw [decide_eq_true y, if_pos rfl]
      · rw [decide_eq_false y, if_neg Bool.false_ne_true]
    · have e : gs (3, dg, nm, rb, rs, rc, rw', rv) c = (false, (3, dg, nm, rb, rs, rc, rw', rv)) := by
        show (if c = 59 then _ else _ : Bool × Mst) = _
        rw [if_neg q]
      rw [if_neg (fun z => q (c59.mp z)), e]
      exact ⟨d, rfl, h, Fr.rf⟩
  · have c48 : J c = 48 ↔ c = 48 := ce 48 (by omega)
    have c58 : J c = 58 ↔ c = 58 := ce 58 (by omega)
    have hrc1 := v4 (by omega)
    rw [if_neg (by decide), if_neg (by decide), if_neg (by decide), if_neg (by decide), if_pos j4.symm]
    by_cases q : 48 ≤ c ∧ c ≤ 57
    · rw [decide_eq_true q, if_pos rfl, jn_eq, h2]
      obtain ⟨d', e1, e2, e3⟩ := digit_val (ρ := ρ) h v2 c (m := 2) (Or.inl rfl)
      by_cases w : 0 < dg ∨ ¬ c = 48
      · have e : gs (4, dg, nm, rb, rs, rc, rw', rv) c = (decide (dg < 2), (4, dg + 1, 10 * nm + c - 48, rb, rs, rc, rw', rv)) := by
          show (if 48 ≤ c ∧ c ≤ 57 then (if 0 < dg ∨ ¬ c = 48 then _ else _) else _ : Bool × Mst) = _
          rw [if_pos q, if_pos w]
        refine ⟨d', ?_, by rw [e]; exact e2, e3⟩
        have fin : ((fX12_digit ρ d (J c) 2).bind fun r19 => if r19.1 = true then some (true, r19.2) else some (false, r19.2)) = some ((gs (4, dg, nm, rb, rs, rc, rw', rv) c).1, d') := by
          rw [j2, e1, Option.bind_some, e]
          by_cases y : dg < 2
          · rw [decide_eq_true y, if_pos rfl]
          · rw [decide_eq_false y, if_neg Bool.false_ne_true]
        by_cases y : 0 < dg
        · rw [if_pos (cd'.mpr y)]; exact fin
        · have y2 : ¬ c = 48 := w.resolve_left y
          rw [if_neg (fun z => y (cd'.mp z)), if_neg (fun z => y2 (c48.mp z))]; exact fin
      · have e : gs (4, dg, nm, rb, rs, rc, rw', rv) c = (false, (4, dg, nm, rb, rs, rc, rw', rv)) := by
          show (if 48 ≤ c ∧ c ≤ 57 then (if 0 < dg ∨ ¬ c = 48 then _ else _) else _ : Bool × Mst) = _
          rw [if_pos q, if_neg w]
        rw [if_neg (fun z => w (Or.inl (cd'.mp z))), if_pos (c48.mpr (by omega)), e]
        exact ⟨d, rfl, h, Fr.rf⟩
    · have e : gs (4, dg, nm, rb, rs, rc, rw', rv) c = (decide (0 < dg ∧ c = 58), (5, 0, 0, rb, rs, rc, updI rw' (rc - 1) nm, rv)) := by
        show (if 48 ≤ c ∧ c ≤ 57 then _ else _ : Bool × Mst) = _
        rw [if_neg q]
      have e12 : d_i d 23 12 - 1 = J (rc - 1) := by rw [h6, j1, J_sub]
      have hin : inB (J (rc - 1)) 4 = true := by rw [inB_J (by omega)]; omega
      have hix : ix (J (rc - 1)) = (rc - 1).toNat := ix_J (by omega)
      have hM : MR (dI d 27 (rc - 1).toNat (J nm)) (4, dg, nm, rb, rs, rc, updI rw' (rc - 1) nm, rv) := by
        refine ⟨?_, ?_, ?_, ?_, ?_, ?_, fun k hk => ⟨?_, ?_⟩⟩
        · rw [dI_o (by omega)]; exact h1
        · rw [dI_o (by omega)]; exact h2
        · rw [dI_o (by omega)]; exact h3
        · rw [dI_o (by omega)]; exact h4
        · rw [dI_o (by omega)]; exact h5
        · rw [dI_o (by omega)]; exact h6
        · exact updI_ok (fun k hk => (h7 k hk).1) (by omega) nm k hk
        · rw [dI_o (by omega)]; exact (h7 k hk).2
      rw [decide_eq_false q, if_neg Bool.false_ne_true, e, jn_eq, e12, hin, hix, h2, h3]
      refine ⟨nxt3 (dI d 27 (rc - 1).toNat (J nm)) 5, ?_, nxt3_MR hM 5, nxt3_fr (Fr.rf.i (Or.inr (Or.inl rfl))) 5⟩
      have en := next_val (ρ := ρ) (d := dI d 27 (rc - 1).toNat (J nm)) 5
      rw [← j5] at en
      simp only [if_true, bnd_eq, en, Option.bind_some]
      by_cases w : 0 < dg
      · rw [if_neg (fun z => by have := cd.mp z; omega)]
        by_cases y : c = 58
        · rw [if_pos (c58.mpr y), decide_eq_true ⟨w, y⟩]
        · rw [if_neg (fun z => y (c58.mp z)), decide_eq_false (fun z => y z.2)]
      · rw [if_pos (cd.mpr (by omega)), if_neg Bool.false_ne_true, decide_eq_false (fun z => w z.1)]
  · have c59 : J c = 59 ↔ c = 59 := ce 59 (by omega)
    have hrc1 := v4 (by omega)
    rw [if_neg (by decide), if_neg (by decide), if_neg (by decide), if_neg (by decide), if_neg (by decide)]
    by_cases q : 48 ≤ c ∧ c ≤ 57
    · have e : gs (5, dg, nm, rb, rs, rc, rw', rv) c = (decide (dg < 3), (5, dg + 1, 10 * nm + c - 48, rb, rs, rc, rw', updI rv (rc - 1) (10 * nm + c - 48))) := by
        show (if 48 ≤ c ∧ c ≤ 57 then _ else _ : Bool × Mst) = _
        rw [if_pos q]
      obtain ⟨d', e1, e2, e3⟩ := digit_val (ρ := ρ) h v2 c (m := 3) (Or.inr rfl)
      have hin : inB (J (rc - 1)) 4 = true := by rw [inB_J (by omega)]; omega
      have hix : ix (J (rc - 1)) = (rc - 1).toNat := ix_J (by omega)
      obtain ⟨g1, g2, g3, g4, g5, g6, g7⟩ := e2
      have e12 : d_i d' 23 12 - 1 = J (rc - 1) := by rw [g6, j1, J_sub]
      rw [decide_eq_true q, if_pos rfl, e, j3, e1, Option.bind_some, e12, if_pos hin, hix, g3, bnd_eq]
      refine ⟨_, rfl, ⟨?_, ?_, ?_, ?_, ?_, ?_, fun k hk => ⟨?_, ?_⟩⟩, e3.i (Or.inr (Or.inr rfl))⟩
      · rw [dI_o (by omega)]; exact g1
      · rw [dI_o (by omega)]; exact g2
      · rw [dI_o (by omega)]; exact g3
      · rw [dI_o (by omega)]; exact g4
      · rw [dI_o (by omega)]; exact g5
      · rw [dI_o (by omega)]; exact g6
      · rw [dI_o (by omega)]; exact (g7 k hk).1
      · exact updI_ok (fun k hk => (g7 k hk).2) (by omega) _ k hk
    · rw [decide_eq_false q, if_neg Bool.false_ne_true, h2]
      by_cases w : dg ≤ 0
      · have e : gs (5, dg, nm, rb, rs, rc, rw', rv) c = (false, (5, dg, nm, rb, rs, rc, rw', rv)) := by
          show (if 48 ≤ c ∧ c ≤ 57 then _ else (if dg ≤ 0 then _ else _) : Bool × Mst) = _
          rw [if_neg q, if_pos w]
        rw [if_pos (cd.mpr w), e]
        exact ⟨d, rfl, h, Fr.rf⟩
      · rw [if_neg (fun z => w (cd.mp z))]
        by_cases y : c = 59
        · have e : gs (5, dg, nm, rb, rs, rc, rw', rv) c = (decide (rc < 4), (4, 0, 0, rb, rs, rc + 1, rw', rv)) := by
            show (if 48 ≤ c ∧ c ≤ 57 then _ else (if dg ≤ 0 then _ else (if c = 59 then _ else _)) : Bool × Mst) = _
            rw [if_neg q, if_neg w, if_pos y]
          obtain ⟨d', e1, e2, e3⟩ := begin_case (ρ := ρ) h v3
          rw [if_pos (c59.mpr y), e, e1, Option.bind_some]
          refine ⟨d', ?_, e2, e3⟩
          by_cases y : rc < 4
          · rw [decide_eq_true y, if_pos rfl]
          · rw [decide_eq_false y, if_neg Bool.false_ne_true]
        · have e : gs (5, dg, nm, rb, rs, rc, rw', rv) c = (false, (5, dg, nm, rb, rs, rc, rw', rv)) := by
            show (if 48 ≤ c ∧ c ≤ 57 then _ else (if dg ≤ 0 then _ else (if c = 59 then _ else _)) : Bool × Mst) = _
            rw [if_neg q, if_neg w, if_neg y]
          rw [if_neg (fun z => y (c59.mp z)), e]
          exact ⟨d, rfl, h, Fr.rf⟩
/-- the letters from a place -/
def mgo (pg : Nat → Int) : Nat → Nat → Mst → Nat × Mst
  | 0, k, τ => (k, τ)
  | n + 1, k, τ => if (gs τ (pg k)).1 = true then mgo pg n (k + 1) (gs τ (pg k)).2 else (k, (gs τ (pg k)).2)
theorem mgo_t {pg : Nat → Int} {n k : Nat} {τ : Mst} (h : (gs τ (pg k)).1 = true) : mgo pg (n + 1) k τ = mgo pg n (k + 1) (gs τ (pg k)).2 := by
  show (if (gs τ (pg k)).1 = true then _ else _) = _
  rw [if_pos h]
theorem mgo_f {pg : Nat → Int} {n k : Nat} {τ : Mst} (h : ¬ (gs τ (pg k)).1 = true) : mgo pg (n + 1) k τ = (k, (gs τ (pg k)).2) := by
  show (if (gs τ (pg k)).1 = true then _ else _) = _
  rw [if_neg h]
theorem mgo_le (pg : Nat → Int) : ∀ n k τ, k ≤ (mgo pg n k τ).1 ∧ (mgo pg n k τ).1 ≤ k + n := by
  intro n
  induction n with
  | zero => intro k τ; exact ⟨Nat.le_refl k, Nat.le_refl k⟩
  | succ n ih =>
    intro k τ
    by_cases h : (gs τ (pg k)).1 = true
    · rw [mgo_t h]
      have := ih (k + 1) (gs τ (pg k)).2
      omega
    · rw [mgo_f h]
      show k ≤ k ∧ k ≤ k + (n + 1)
      omega
theorem faultOf_val {ρ : Rh} {d : Dd} {np : Nat} {pg : Nat → Int} (h1 : d_i d 23 1 = J (np : Int)) (h2 : ∀ k, k < np → d_i d 24 k = J (pg k)) (hnp : np ≤ 60) (hpg : ∀ k, k < np → 1 ≤ pg k ∧ pg k ≤ 126) :
    ∃ d' rb rs rw' rv, fX12_faultOf ρ d = some (J ((mgo pg np 0 (0, 0, 0, rb, rs, 0, rw', rv)).1 : Int), d') ∧ MR d' (mgo pg np 0 (0, 0, 0, rb, rs, 0, rw', rv)).2 ∧ Fr PM d d' := by
  obtain ⟨rb, -, eb⟩ := J_of (d_i d 23 10)
  obtain ⟨rs, -, es⟩ := J_of (d_i d 23 11)
  have f12 : Fr PM d (dI d 23 12 0) := Fr.rf.i (Or.inl ⟨rfl, by omega, by omega⟩)
  have hM0 : MR (nxt3 (dI d 23 12 0) 0) (0, 0, 0, rb, rs, 0, fun k => (d_i d 27 k).toInt, fun k => (d_i d 28 k).toInt) := by
    refine nxt3_MR (st := (d_i d 23 7).toInt) (dg := (d_i d 23 8).toInt) (nm := (d_i d 23 9).toInt) ⟨?_, ?_, ?_, ?_, ?_, ?_, fun k hk => ⟨?_, ?_⟩⟩ 0
    · rw [dI_o (by omega)]; exact (Int32.ofInt_toInt _).symm
    · rw [dI_o (by omega)]; exact (Int32.ofInt_toInt _).symm
    · rw [dI_o (by omega)]; exact (Int32.ofInt_toInt _).symm
    · rw [dI_o (by omega)]; exact eb
    · rw [dI_o (by omega)]; exact es
    · rw [dI_s]; rfl
    · rw [dI_o (by omega)]; exact (Int32.ofInt_toInt _).symm
    · rw [dI_o (by omega)]; exact (Int32.ofInt_toInt _).symm
  have f0 := nxt3_fr f12 0
  obtain ⟨τ0, hτ0⟩ : ∃ τ0 : Mst, τ0 = (0, 0, 0, rb, rs, 0, fun k => (d_i d 27 k).toInt, fun k => (d_i d 28 k).toInt) := ⟨_, rfl⟩
  rw [← hτ0] at hM0
  have hV0 : Vl τ0 := by rw [hτ0]; exact ⟨by omega, by omega, by omega, fun z => by omega⟩
  have key : ∃ d', fX12_faultOf ρ d = some (J ((mgo pg np 0 τ0).1 : Int), d') ∧ MR d' (mgo pg np 0 τ0).2 ∧ Fr PM d d' := by
    unfold fX12_faultOf
    rw [bnd_eq, j0, next_val, Option.bind_some, ← j0]
    refine lp_n (fun n s => ∃ (k : Nat) (d' : Dd) (τ : Mst), s = (J (k : Int), d') ∧ k + n = np ∧ MR d' τ ∧ Vl τ ∧ Fr PM d d' ∧ mgo pg n k τ = mgo pg np 0 τ0) (fun o => ∃ d', o = some (J ((mgo pg np 0 τ0).1 : Int), d') ∧ MR d' (mgo pg np 0 τ0).2 ∧ Fr PM d d') ?_ 6000 np _ ⟨0, _, τ0, rfl, by omega, hM0, hV0, f0, rfl⟩ (by omega)
    rintro n s ⟨k, d', τ, rfl, hkn, hM, hV, f, he⟩ self
    have e1 : d_i d' 23 1 = J (np : Int) := (f.gi (by unfold PM; omega)).trans h1
    cases n with
    | zero =>
      right
      have c : d_i d' 23 1 ≤ J (k : Int) := by rw [e1, J_le (by omega) (by omega)]; omega
      have he' : (k, τ) = mgo pg np 0 τ0 := he
      simp only [c, if_true]
      rw [← he']
      exact ⟨d', rfl, hM, f⟩
    | succ n =>
      have c : ¬ d_i d' 23 1 ≤ J (k : Int) := by rw [e1, J_le (by omega) (by omega)]; omega
      have hin : inB (J (k : Int)) 60 = true := by rw [inB_J (by omega)]; omega
      have hix : ix (J (k : Int)) = k := by rw [ix_J (by omega), Int.toNat_natCast]
      have e24 : d_i d' 24 k = J (pg k) := (f.gi (by unfold PM; omega)).trans (h2 k (by omega))
      have hp := hpg k (by omega)
      obtain ⟨d2, g1, g2, g3⟩ := go_val (ρ := ρ) hM hV (c := pg k) (by omega)
      simp only [c, if_false, hin, if_true, hix, e24, g1, Option.bind_some]
      by_cases q : (gs τ (pg k)).1 = true
      · left
        rw [if_pos q]
        refine ⟨(J ((k + 1 : Nat) : Int), d2), n, by omega, ⟨k + 1, d2, _, rfl, by omega, g2, gs_vl hV q, f.tr g3, (mgo_t q).symm.trans he⟩, ?_⟩
        rw [j1, J_add]; rfl
      · right
        rw [if_neg q, ← he, mgo_f q]
        exact ⟨d2, rfl, g2, f.tr g3⟩
  obtain ⟨d', a, b, c⟩ := key
  rw [hτ0] at a b
  exact ⟨d', rb, rs, _, _, a, b, c⟩
