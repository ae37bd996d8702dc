/-! letters -/
theorem sh_bits (x : Int64) (c : Nat) (hc : c < 64) : (jlushr x (J (c : Int))).toBitVec.toNat = x.toBitVec.toNat / 2 ^ c := by
  unfold jlushr
  rw [J_l (by omega)]
  have e1 : (K (c : Int)).toUInt64.toNat = c := by
    show (K (c : Int)).toBitVec.toNat = c
    rw [K_bits (by omega)]; omega
  have e2 : (Int64.toUInt64 63).toNat = 63 := rfl
  show (x.toUInt64 >>> ((K (c : Int)).toUInt64 &&& Int64.toUInt64 63)).toNat = _
  rw [UInt64.toNat_shiftRight, UInt64.toNat_and, e1, e2]
  have e3 : c &&& 63 = c := by
    have := Nat.and_two_pow_sub_one_eq_mod c 6
    have h63 : (2 : Nat) ^ 6 - 1 = 63 := rfl
    rw [h63] at this
    rw [this]; omega
  rw [e3, Nat.mod_eq_of_lt hc, Nat.shiftRight_eq_div_pow]; rfl
/-- the letter at a place -/
def ltr (w : Int64) (i : Nat) : Nat := w.toBitVec.toNat / 2 ^ (8 * i) % 256
theorem ltr_lt (w : Int64) (i : Nat) : ltr w i < 256 := Nat.mod_lt _ (by decide)
theorem and255 (y : Int64) : Int64.toInt32 (y &&& 255) = J ((y.toBitVec.toNat % 256 : Nat) : Int) := by
  have e : (255 : Int64) = K ((2 ^ 8 - 1 : Nat) : Int) := rfl
  rw [e, K_and y 8 (by omega), K_i]
theorem sh8 {i : Nat} : (8 : Int32) * J (i : Int) = J ((8 * i : Nat) : Int) := by
  rw [j8, J_mul]; rfl
theorem ltr_val (w : Int64) {i : Nat} (hi : i < 8) : Int64.toInt32 ((jlushr w (8 * J (i : Int))) &&& 255) = J (ltr w i : Int) := by
  rw [and255, sh8, sh_bits w _ (by omega)]; rfl
theorem letterOf_val (w : Int64) {i : Nat} (hi : i < 8) : fX7_letterOf w (J (i : Int)) = some (J (ltr w i : Int)) := by
  unfold fX7_letterOf
  rw [ltr_val w hi]
/-- as told: up to n places -/
def lwOK (w : Int64) (n m : Nat) : Prop := m ≤ n ∧ ∀ i, i < n → ltr w i ≤ 126 ∧ (i < m → 1 ≤ ltr w i) ∧ (m ≤ i → ltr w i = 0)
theorem lw_step {w : Int64} {n m : Nat} (h : lwOK w n m) (h1 : ltr w n ≤ 126) (h2 : ltr w n = 0 ∨ m = n) : ∃ m', (m' = if ltr w n = 0 then m else m + 1) ∧ lwOK w (n + 1) m' := by
  refine ⟨_, rfl, ?_⟩
  by_cases e : ltr w n = 0
  · rw [if_pos e]
    refine ⟨by have := h.1; omega, fun i hi => ?_⟩
    by_cases q : i = n
    · subst q; exact ⟨h1, fun z => by have := h.1; omega, fun _ => e⟩
    · exact h.2 i (by omega)
  · rw [if_neg e]
    have hm : m = n := h2.resolve_left e
    subst hm
    refine ⟨by omega, fun i hi => ?_⟩
    by_cases q : i = m
    · subst q; exact ⟨h1, fun z => by omega, fun z => by omega⟩
    · have := h.2 i (by omega)
      exact ⟨this.1, fun _ => this.2.1 (by omega), fun z => by omega⟩
theorem lw_uniq {w : Int64} {n m m' : Nat} (h : lwOK w n m) (h' : lwOK w n m') : m = m' := by
  have a : ¬ m < m' := fun q => by
    have q1 := h'.1
    have q2 := (h.2 m (by omega)).2.2 (Nat.le_refl m)
    have q3 := (h'.2 m (by omega)).2.1 q
    omega
  have b : ¬ m' < m := fun q => by
    have q1 := h.1
    have q2 := (h'.2 m' (by omega)).2.2 (Nat.le_refl m')
    have q3 := (h.2 m' (by omega)).2.1 q
    omega
  omega
theorem lw_cut {w : Int64} {n m : Nat} (h : lwOK w 8 m) (hn : n ≤ 8) : lwOK w n (if m ≤ n then m else n) := by
  by_cases e : m ≤ n
  · rw [if_pos e]; exact ⟨e, fun i hi => h.2 i (by omega)⟩
  · rw [if_neg e]
    refine ⟨Nat.le_refl n, fun i hi => ?_⟩
    have := h.2 i (by omega)
    exact ⟨this.1, fun _ => this.2.1 (by omega), fun z => by omega⟩
theorem lw_next {w : Int64} {n m m8 : Nat} (h : lwOK w n m) (hn : n < 8) (h8 : lwOK w 8 m8) : ltr w n ≤ 126 ∧ (ltr w n = 0 ∨ m = n) := by
  have c := lw_cut h8 (show n ≤ 8 by omega)
  have e := lw_uniq h c
  have q := h8.2 n hn
  refine ⟨q.1, ?_⟩
  by_cases y : m8 ≤ n
  · exact Or.inl (q.2.2 y)
  · rw [if_neg y] at e; exact Or.inr e
theorem lettersIn_val (w : Int64) : (∃ m : Nat, lwOK w 8 m ∧ fX7_lettersIn w = some (J (m : Int))) ∨ ((¬ ∃ m, lwOK w 8 m) ∧ fX7_lettersIn w = some (-1)) := by
  unfold fX7_lettersIn
  refine lp_e 8 (fun i s => ∃ m : Nat, s = (J (m : Int), J (i : Int)) ∧ lwOK w i m) (fun o => (∃ m : Nat, lwOK w 8 m ∧ o = some (J (m : Int))) ∨ ((¬ ∃ m, lwOK w 8 m) ∧ o = some (-1))) ?_ ?_ 6000 (by omega) _ ⟨0, rfl, Nat.le_refl 0, fun i hi => absurd hi (Nat.not_lt_zero i)⟩
  · rintro i hi s ⟨m, rfl, hm⟩ self
    have h1 : ¬ (8 : Int32) ≤ J (i : Int) := by rw [j8, J_le (by omega) (by omega)]; omega
    have hl := ltr_lt w i
    have hmi := hm.1
    have c1 : 126 < J (ltr w i : Int) ↔ 126 < ltr w i := by rw [show (126 : Int32) = J 126 from rfl, J_lt (by omega) (by omega)]; omega
    have c2 : J (ltr w i : Int) = 0 ↔ ltr w i = 0 := by rw [j0, J_eq (by omega) (by omega)]; omega
    have c3 : J (i : Int) ≤ J (m : Int) ↔ i ≤ m := (J_le (by omega) (by omega)).trans (by omega)
    simp only [h1, if_false, letterOf_val w hi, Option.bind_some, jn_eq, bnd_eq]
    have e1 : (J (i : Int) + 1) = J ((i + 1 : Nat) : Int) := by rw [j1, J_add]; rfl
    rw [e1]
    by_cases q1 : ltr w i ≤ 126
    · have n1 : ¬ 126 < J (ltr w i : Int) := fun z => by have := c1.mp z; omega
      rw [if_neg n1]
      by_cases q2 : ltr w i = 0
      · obtain ⟨m', e, hm'⟩ := lw_step hm q1 (Or.inl q2)
        rw [if_pos q2] at e
        have e2 : J (m : Int) + b2i false = J (m' : Int) := by rw [b2i_J, J_add, e]; congr 1
        rw [if_pos (c2.mpr q2), if_pos (c2.mpr q2), e2]
        exact Or.inl ⟨_, ⟨m', rfl, hm'⟩, rfl⟩
      · have n2 : ¬ J (ltr w i : Int) = 0 := fun z => q2 (c2.mp z)
        rw [if_neg n2]
        by_cases q3 : i ≤ m
        · obtain ⟨m', e, hm'⟩ := lw_step hm q1 (Or.inr (by omega))
          rw [if_neg q2] at e
          have e2 : J (m : Int) + b2i true = J (m' : Int) := by rw [b2i_J, J_add, e]; rfl
          rw [if_pos (c3.mpr q3), if_neg n2, e2]
          exact Or.inl ⟨_, ⟨m', rfl, hm'⟩, rfl⟩
        · rw [if_neg (fun z => q3 (c3.mp z))]
          refine Or.inr (Or.inr ⟨fun ⟨m8, h8⟩ => ?_, rfl⟩)
          have := lw_next hm hi h8
          rcases this.2 with z | z <;> omega
    · rw [if_pos (c1.mpr (by omega))]
      refine Or.inr (Or.inr ⟨fun ⟨m8, h8⟩ => ?_, rfl⟩)
      have := lw_next hm hi h8
      omega
  · rintro s ⟨m, rfl, hm⟩ self
    have h1 : (8 : Int32) ≤ J ((8 : Nat) : Int) := by decide
    simp only [h1, if_true]
    exact Or.inl ⟨m, hm, rfl⟩
/-- the page with letters put behind -/
def pgA (pg : Nat → Int) (np : Nat) (w : Int64) (k : Nat) : Int := if k < np then pg k else (ltr w (k - np) : Int)
def PP (o k : Nat) : Prop := (o = 4 ∧ k = 1) ∨ o = 5
def PQ (o k : Nat) : Prop := (o = 23 ∧ k = 1) ∨ o = 24
theorem append_val {ρ : Rh} {d : Dd} {np : Nat} {pg : Nat → Int} (h1 : d_i d 4 1 = J (np : Int)) (h2 : ∀ k, k < np → d_i d 5 k = J (pg k)) (hnp : np ≤ 60) (w : Int64) {m : Nat} (hm : m ≤ 8) :
    (60 < np + m → fX7_append ρ d w (J (m : Int)) = some (false, d)) ∧ (np + m ≤ 60 → ∃ d', fX7_append ρ d w (J (m : Int)) = some (true, d') ∧ Fr PP d d' ∧ d_i d' 4 1 = J ((np + m : Nat) : Int) ∧ ∀ k, k < np + m → d_i d' 5 k = J (pgA pg np w k)) := by
  have g0 : ¬ J (np : Int) < 0 := by rw [j0, J_lt (by omega) (by omega)]; omega
  have cs : J (m : Int) ≤ 60 - J (np : Int) ↔ np + m ≤ 60 := by rw [j60, J_sub, J_le (by omega) (by omega)]; omega
  unfold fX7_append
  rw [h1, if_neg g0]
  constructor
  · intro h
    rw [if_neg (fun z => by have := cs.mp z; omega)]
  · intro h
    rw [if_pos (cs.mpr h)]
    refine lp_c m (fun i s => ∃ d', s = (J (i : Int), d') ∧ Fr PP d d' ∧ d_i d' 4 1 = J ((np + i : Nat) : Int) ∧ ∀ k, k < np + i → d_i d' 5 k = J (pgA pg np w k)) (fun o => ∃ d', o = some (true, d') ∧ Fr PP d d' ∧ d_i d' 4 1 = J ((np + m : Nat) : Int) ∧ ∀ k, k < np + m → d_i d' 5 k = J (pgA pg np w k)) ?_ ?_ 6000 (by omega) _ ⟨d, rfl, Fr.rf, h1, fun k hk => by unfold pgA; rw [if_pos (by omega)]; exact h2 k (by omega)⟩
    · rintro i hi s ⟨d', rfl, f, e1, e2⟩ self
      have c1 : ¬ J (m : Int) ≤ J (i : Int) := by rw [J_le (by omega) (by omega)]; omega
      have c2 : ¬ (60 : Int32) ≤ J ((np + i : Nat) : Int) := by rw [j60, J_le (by omega) (by omega)]; omega
      have hin : inB (J ((np + i : Nat) : Int)) 60 = true := by rw [inB_J (by omega)]; omega
      have hix : ix (J ((np + i : Nat) : Int)) = np + i := by rw [ix_J (by omega), Int.toNat_natCast]
      have e3 : d_i (dI d' 5 (np + i) (J (ltr w i : Int))) 4 1 = J ((np + i : Nat) : Int) := by rw [dI_o (by omega)]; exact e1
      have e4 : (J ((np + i : Nat) : Int) + 1) = J ((np + (i + 1) : Nat) : Int) := by rw [j1, J_add]; congr 1
      simp only [c1, if_false, e1, c2, letterOf_val w (show i < 8 by omega), Option.bind_some, hin, if_true, hix, bnd_eq, e3, e4]
      refine ⟨_, ⟨dI (dI d' 5 (np + i) (J (ltr w i : Int))) 4 1 (J ((np + (i + 1) : Nat) : Int)), rfl, (f.i (Or.inr rfl)).i (Or.inl ⟨rfl, rfl⟩), dI_s, fun k hk => ?_⟩, ?_⟩
      · rw [dI_o (by omega)]
        by_cases e : k = np + i
        · subst e
          rw [dI_s]
          unfold pgA
          rw [if_neg (by omega), Nat.add_sub_cancel_left]
        · rw [dI_o (by omega)]; exact e2 k (by omega)
      · rw [j1, J_add]; rfl
    · rintro s ⟨d', rfl, f, e1, e2⟩ self
      have c1 : J (m : Int) ≤ J (m : Int) := by rw [J_le (by omega) (by omega)]; omega
      simp only [c1, if_true]
      exact ⟨d', rfl, f, e1, e2⟩
theorem left_val (w : Int64) : ∀ i : Nat, i < 8 → ∀ x : Int64, x.toBitVec.toNat = w.toBitVec.toNat / 2 ^ (8 * i) → Int64.toInt32 (x &&& 255) = J (ltr w i : Int) ∧ (jlushr x 8).toBitVec.toNat = w.toBitVec.toNat / 2 ^ (8 * (i + 1)) := by
  intro i hi x hx
  constructor
  · rw [and255, hx]; rfl
  · have e : (8 : Int32) = J ((8 : Nat) : Int) := rfl
    rw [e, sh_bits x 8 (by omega), hx, Nat.div_div_eq_div_mul, ← Nat.pow_add]; rfl
theorem mletters_val {ρ : Rh} {d : Dd} {np : Nat} {pg : Nat → Int} (h1 : d_i d 23 1 = J (np : Int)) (h2 : ∀ k, k < np → d_i d 24 k = J (pg k)) (hnp : np ≤ 60) (w : Int64) :
    ((¬ ∃ m, lwOK w 8 m) → fX12_letters ρ d w = some (-102, d)) ∧ ∀ m, lwOK w 8 m → (60 < np + m → fX12_letters ρ d w = some (-104, d)) ∧ (np + m ≤ 60 → ∃ d', fX12_letters ρ d w = some (J ((np + m : Nat) : Int), d') ∧ Fr PQ d d' ∧ d_i d' 23 1 = J ((np + m : Nat) : Int) ∧ ∀ k, k < np + m → d_i d' 24 k = J (pgA pg np w k)) := by
  have key : ∃ (g : Bool) (m : Nat), m ≤ 8 ∧ (g = true ↔ lwOK w 8 m) ∧ (g = false → ¬ ∃ m, lwOK w 8 m) ∧ fX12_letters ρ d w = (if g = true then (if ((d_i d 23 1) + J (m : Int)) ≤ 60 then (lp (fun self4 (x3 : Int32 × Dd) => if J (m : Int) ≤ x3.1 then (some ((d_i x3.2 23 1), x3.2)) else (if inB (d_i x3.2 23 1) 60 = true then (bnd (dI x3.2 24 (ix (d_i x3.2 23 1)) (Int64.toInt32 ((jlushr w (8 * x3.1)) &&& 255))) fun d5 => bnd (dI d5 23 1 ((d_i d5 23 1) + 1)) fun d6 => self4 ((x3.1 + 1), d6)) else none)) 6000 (0, d)) else (some ((-104), d))) else (some ((-102), d))) := by
    unfold fX12_letters
    refine lp_c 8 (fun i s => ∃ (g : Bool) (m : Nat) (x : Int64), s = (J (m : Int), g, x, J (i : Int)) ∧ m ≤ i ∧ x.toBitVec.toNat = w.toBitVec.toNat / 2 ^ (8 * i) ∧ (g = true ↔ lwOK w i m) ∧ (g = false → ¬ ∃ m, lwOK w 8 m)) (fun o => ∃ (g : Bool) (m : Nat), m ≤ 8 ∧ (g = true ↔ lwOK w 8 m) ∧ (g = false → ¬ ∃ m, lwOK w 8 m) ∧ o = (if g = true then (if ((d_i d 23 1) + J (m : Int)) ≤ 60 then (lp (fun self4 (x3 : Int32 × Dd) => if J (m : Int) ≤ x3.1 then (some ((d_i x3.2 23 1), x3.2)) else (if inB (d_i x3.2 23 1) 60 = true then (bnd (dI x3.2 24 (ix (d_i x3.2 23 1)) (Int64.toInt32 ((jlushr w (8 * x3.1)) &&& 255))) fun d5 => bnd (dI d5 23 1 ((d_i d5 23 1) + 1)) fun d6 => self4 ((x3.1 + 1), d6)) else none)) 6000 (0, d)) else (some ((-104), d))) else (some ((-102), d)))) ?_ ?_ 6000 (by omega) _ ⟨true, 0, w, rfl, Nat.le_refl 0, by rw [Nat.mul_zero, Nat.pow_zero, Nat.div_one], ⟨fun _ => ⟨Nat.le_refl 0, fun i hi => absurd hi (Nat.not_lt_zero i)⟩, fun _ => rfl⟩, fun z => by simp at z⟩
    · rintro i hi s ⟨g, m, x, rfl, hmi, hx, hg, hgf⟩ self
      have c1 : ¬ (8 : Int32) ≤ J (i : Int) := by rw [j8, J_le (by omega) (by omega)]; omega
      obtain ⟨el, en⟩ := left_val w i hi x hx
      have hl := ltr_lt w i
      have d1 : 126 < J (ltr w i : Int) ↔ 126 < ltr w i := by rw [show (126 : Int32) = J 126 from rfl, J_lt (by omega) (by omega)]; omega
      have d2 : J (ltr w i : Int) = 0 ↔ ltr w i = 0 := by rw [j0, J_eq (by omega) (by omega)]; omega
      have d3 : J (m : Int) = J (i : Int) ↔ m = i := (J_eq (by omega) (by omega)).trans (by omega)
      have d4 : J (ltr w i : Int) ≤ 0 ↔ ltr w i = 0 := by rw [j0, J_le (by omega) (by omega)]; omega
      have e1 : (J (i : Int) + 1) = J ((i + 1 : Nat) : Int) := by rw [j1, J_add]; rfl
      simp only [c1, if_false, bnd_eq, el]
      rw [e1]
      -- the flag
      obtain ⟨g', hg'⟩ : ∃ g' : Bool, (g' = true ↔ g = true ∧ ltr w i ≤ 126 ∧ (ltr w i = 0 ∨ m = i)) := by
        by_cases q : g = true ∧ ltr w i ≤ 126 ∧ (ltr w i = 0 ∨ m = i)
        · exact ⟨true, fun _ => q, fun _ => rfl⟩
        · exact ⟨false, fun z => by simp at z, fun z => absurd z q⟩
      have hm' : ∃ m', m' = (if ltr w i = 0 then m else m + 1) := ⟨_, rfl⟩
      obtain ⟨m', em'⟩ := hm'
      have hmb : m' ≤ i + 1 := by rw [em']; split <;> omega
      have h1' : g' = true ↔ lwOK w (i + 1) m' := by
        rw [hg']
        constructor
        · rintro ⟨z1, z2, z3⟩
          obtain ⟨y, ey, hy⟩ := lw_step (hg.mp z1) z2 z3
          rw [em', ← ey]; exact hy
        · intro hz
          by_cases q0 : ltr w i = 0
          · rw [em', if_pos q0] at hz
            refine ⟨hg.mpr ⟨hmi, fun j hj => hz.2 j (by omega)⟩, by omega, Or.inl q0⟩
          · rw [em', if_neg q0] at hz
            have z1 := hz.2 i (by omega)
            have z2 : ¬ m + 1 ≤ i := fun y => q0 (z1.2.2 y)
            refine ⟨hg.mpr ⟨hmi, fun j hj => ?_⟩, z1.1, Or.inr (by omega)⟩
            have z3 := hz.2 j (by omega)
            exact ⟨z3.1, fun y => z3.2.1 (by omega), fun y => by omega⟩
      have h2' : g' = false → ¬ ∃ m, lwOK w 8 m := by
        intro z ⟨m8, h8⟩
        have nz : ¬ g' = true := by rw [z]; decide
        by_cases y : g = true
        · exact nz (hg'.mpr ⟨y, lw_next (hg.mp y) hi h8⟩)
        · exact hgf (by cases g <;> simp_all) ⟨m8, h8⟩
      refine ⟨(J (m' : Int), g', jlushr x 8, J ((i + 1 : Nat) : Int)), ⟨g', m', jlushr x 8, rfl, hmb, en, h1', h2'⟩, ?_⟩
      refine (jn_b _ _ g' (fun k => ?_)).trans ?_
      · simp only [jn_eq]
        by_cases y : g = true
        · rw [if_pos y]
          by_cases y1 : ltr w i ≤ 126
          · rw [if_neg (fun z => by have := d1.mp z; omega)]
            by_cases y2 : ltr w i = 0
            · rw [if_pos (d2.mpr y2), hg'.mpr ⟨y, y1, Or.inl y2⟩]
            · rw [if_neg (fun z => y2 (d2.mp z))]
              by_cases y3 : m = i
              · rw [if_pos (d3.mpr y3), hg'.mpr ⟨y, y1, Or.inr y3⟩]
              · rw [if_neg (fun z => y3 (d3.mp z))]
                have : ¬ g' = true := fun z => (hg'.mp z).2.2.elim y2 y3
                rw [Bool.eq_false_iff.mpr this]
          · rw [if_pos (d1.mpr (by omega))]
            have : ¬ g' = true := fun z => y1 (hg'.mp z).2.1
            rw [Bool.eq_false_iff.mpr this]
        · rw [if_neg y]
          have : ¬ g' = true := fun z => y (hg'.mp z).1
          rw [Bool.eq_false_iff.mpr this]
      · refine (jn_b _ _ (decide (¬ ltr w i = 0)) (fun k => ?_)).trans ?_
        · by_cases y : ltr w i = 0
          · have ny : ¬ ¬ ltr w i = 0 := fun z => z y
            rw [if_pos (d4.mpr y), decide_eq_false ny]
          · rw [if_neg (fun z => y (d4.mp z)), decide_eq_true y]
        · have e2 : J (m : Int) + b2i (decide (¬ ltr w i = 0)) = J (m' : Int) := by
            rw [b2i_J, J_add, em']
            by_cases y : ltr w i = 0
            · have ny : ¬ ¬ ltr w i = 0 := fun z => z y
              rw [decide_eq_false ny, if_neg Bool.false_ne_true, if_pos y]; congr 1
            · rw [decide_eq_true y, if_pos rfl, if_neg y]; rfl
          rw [e2]
    · rintro s ⟨g, m, x, rfl, hmi, hx, hg, hgf⟩ self
      have c1 : (8 : Int32) ≤ J ((8 : Nat) : Int) := by decide
      simp only [c1, if_true]
      exact ⟨g, m, hmi, hg, hgf, rfl⟩
  obtain ⟨g, m, hm8, hg, hgf, e⟩ := key
  rw [e]
  constructor
  · intro hno
    have : ¬ g = true := fun z => hno ⟨m, hg.mp z⟩
    rw [if_neg this]
  · intro m2 hm2
    have hgt : g = true := by
      cases g
      · exact absurd ⟨m2, hm2⟩ (hgf rfl)
      · rfl
    have em : m2 = m := lw_uniq hm2 (hg.mp hgt)
    subst em
    have cs : J (np : Int) + J (m2 : Int) ≤ 60 ↔ np + m2 ≤ 60 := by rw [j60, J_add, J_le (by omega) (by omega)]; omega
    rw [if_pos hgt, h1]
    constructor
    · intro h
      rw [if_neg (fun z => by have := cs.mp z; omega)]
    · intro h
      rw [if_pos (cs.mpr h)]
      refine lp_c m2 (fun i s => ∃ d', s = (J (i : Int), d') ∧ Fr PQ d d' ∧ d_i d' 23 1 = J ((np + i : Nat) : Int) ∧ ∀ k, k < np + i → d_i d' 24 k = J (pgA pg np w k)) (fun o => ∃ d', o = some (J ((np + m2 : Nat) : Int), d') ∧ Fr PQ d d' ∧ d_i d' 23 1 = J ((np + m2 : Nat) : Int) ∧ ∀ k, k < np + m2 → d_i d' 24 k = J (pgA pg np w k)) ?_ ?_ 6000 (by omega) _ ⟨d, rfl, Fr.rf, h1, fun k hk => by unfold pgA; rw [if_pos (by omega)]; exact h2 k (by omega)⟩
      · rintro i hi s ⟨d', rfl, f, e1, e2⟩ self
        have c1 : ¬ J (m2 : Int) ≤ J (i : Int) := by rw [J_le (by omega) (by omega)]; omega
        have hin : inB (J ((np + i : Nat) : Int)) 60 = true := by rw [inB_J (by omega)]; omega
        have hix : ix (J ((np + i : Nat) : Int)) = np + i := by rw [ix_J (by omega), Int.toNat_natCast]
        have e3 : d_i (dI d' 24 (np + i) (J (ltr w i : Int))) 23 1 = J ((np + i : Nat) : Int) := by rw [dI_o (by omega)]; exact e1
        have e4 : (J ((np + i : Nat) : Int) + 1) = J ((np + (i + 1) : Nat) : Int) := by rw [j1, J_add]; congr 1
        simp only [c1, if_false, e1, ltr_val w (show i < 8 by omega), hin, if_true, hix, bnd_eq, e3, e4]
        refine ⟨_, ⟨dI (dI d' 24 (np + i) (J (ltr w i : Int))) 23 1 (J ((np + (i + 1) : Nat) : Int)), rfl, (f.i (Or.inr rfl)).i (Or.inl ⟨rfl, rfl⟩), dI_s, fun k hk => ?_⟩, ?_⟩
        · rw [dI_o (by omega)]
          by_cases e : k = np + i
          · subst e
            rw [dI_s]
            unfold pgA
            rw [if_neg (by omega), Nat.add_sub_cancel_left]
          · rw [dI_o (by omega)]; exact e2 k (by omega)
        · rw [j1, J_add]; rfl
      · rintro s ⟨d', rfl, f, e1, e2⟩ self
        have c1 : J (m2 : Int) ≤ J (m2 : Int) := by rw [J_le (by omega) (by omega)]; omega
        simp only [c1, if_true, e1]
        exact ⟨d', rfl, f, e1, e2⟩
theorem op0 : Op0 Inv := by
  rintro d ρ ⟨σ, O, R, C, M⟩ w
  have hP := O.1.1
  obtain ⟨mm1, mm2⟩ := mletters_val (ρ := ρ) M.1.1 M.1.2 hP w
  rcases lettersIn_val w with ⟨m, hm, el⟩ | ⟨hno, el⟩
  · have hm8 := hm.1
    obtain ⟨a1, a2⟩ := append_val (ρ := ρ) R.2.1.1 R.2.1.2 hP w hm8
    have c0 : (0 : Int32) ≤ J (m : Int) := by rw [j0, J_le (by omega) (by omega)]; omega
    by_cases q : gP σ + m ≤ 60
    · obtain ⟨d1, e1, f1, g1, g2⟩ := a2 q
      have fp1 : ∀ o k, PP o k → o = 4 ∨ o = 5 ∨ (o = 23 ∧ k = 1) ∨ o = 24 := fun o k h => by unfold PP at h; omega
      have M1 : RM d1 σ := M.gfr f1 (fun o k h1 h2 h3 h4 => by unfold PP at h4; omega)
      obtain ⟨-, mm2'⟩ := mletters_val (ρ := ρ) M1.1.1 M1.1.2 hP w
      obtain ⟨d2, e2, f2, g3, g4⟩ := (mm2' m hm).2 q
      have f12 : Fr (fun o k => PP o k ∨ PQ o k) d d2 := (f1.mono (fun o k h => Or.inl h)).tr (f2.mono (fun o k h => Or.inr h))
      have hP' : ∀ o k, (PP o k ∨ PQ o k) → o = 4 ∨ o = 5 ∨ (o = 23 ∧ k = 1) ∨ o = 24 := fun o k h => by unfold PP PQ at h; omega
      refine ⟨J ((gP σ + m : Nat) : Int), d1, d2, ?_, e2, ⟨((gP σ + m, pgA (gL σ) (gP σ) w), σ.2), ⟨⟨q, fun k hk => ?_⟩, O.2⟩, R.pg f12 hP' _ _ ?_ (fun k hk => ?_), C.pg f12 hP' _ _, M.pg f12 hP' _ _ g3 g4⟩, f1.c2 (fun k => by unfold PP; omega)⟩
      · unfold fX11_letters
        rw [el, Option.bind_some, if_pos c0, e1, Option.bind_some, if_pos rfl, g1]
      · have hk' : k < gP σ + m := hk
        show 1 ≤ pgA (gL σ) (gP σ) w k ∧ pgA (gL σ) (gP σ) w k ≤ 126
        unfold pgA
        by_cases e : k < gP σ
        · rw [if_pos e]; exact O.1.2 k e
        · rw [if_neg e]
          have := hm.2 (k - gP σ) (by omega)
          have := this.2.1 (by omega)
          omega
      · rw [f2.gi (by unfold PQ; omega)]; exact g1
      · rw [f2.gi (by unfold PQ; omega)]; exact g2 k hk
    · refine ⟨-104, d, d, ?_, (mm2 m hm).1 (by omega), ⟨σ, O, R, C, M⟩, rfl⟩
      unfold fX11_letters
      rw [el, Option.bind_some, if_pos c0, a1 (by omega), Option.bind_some, if_neg Bool.false_ne_true]
  · refine ⟨-102, d, d, ?_, mm1 hno, ⟨σ, O, R, C, M⟩, rfl⟩
    have c0 : ¬ (0 : Int32) ≤ -1 := by decide
    unfold fX11_letters
    rw [el, Option.bind_some, if_neg c0]
