/-! whom to tell -/
def tkS (w : Nat → Int) (set : Nat) : Nat → Int × Int × Int
  | 0 => (0, 0, 0)
  | n + 1 => if set.testBit n = true then ((tkS w set n).1 + w n, (if (tkS w set n).2.2 = 0 ∨ w n < (tkS w set n).2.1 then w n else (tkS w set n).2.1), (tkS w set n).2.2 + 1) else tkS w set n
theorem tkS_t {w : Nat → Int} {set n : Nat} (h : set.testBit n = true) : tkS w set (n + 1) = ((tkS w set n).1 + w n, (if (tkS w set n).2.2 = 0 ∨ w n < (tkS w set n).2.1 then w n else (tkS w set n).2.1), (tkS w set n).2.2 + 1) := by
  show (if set.testBit n = true then _ else _) = _
  rw [if_pos h]
theorem tkS_f {w : Nat → Int} {set n : Nat} (h : ¬ set.testBit n = true) : tkS w set (n + 1) = tkS w set n := by
  show (if set.testBit n = true then _ else _) = _
  rw [if_neg h]
theorem tkS_bd {w : Nat → Int} (set : Nat) {n : Nat} (h : ∀ i, i < n → -20000000000 ≤ w i ∧ w i ≤ 20000000000) : (-(20000000000 * (n : Int)) ≤ (tkS w set n).1 ∧ (tkS w set n).1 ≤ 20000000000 * (n : Int)) ∧ (-20000000000 ≤ (tkS w set n).2.1 ∧ (tkS w set n).2.1 ≤ 20000000000) ∧ (0 ≤ (tkS w set n).2.2 ∧ (tkS w set n).2.2 ≤ (n : Int)) := by
  induction n with
  | zero =>
    show (-(20000000000 * ((0 : Nat) : Int)) ≤ (0 : Int) ∧ (0 : Int) ≤ 20000000000 * ((0 : Nat) : Int)) ∧ (-20000000000 ≤ (0 : Int) ∧ (0 : Int) ≤ 20000000000) ∧ (0 ≤ (0 : Int) ∧ (0 : Int) ≤ ((0 : Nat) : Int))
    omega
  | succ n ih =>
    obtain ⟨a, b, c⟩ := ih (fun i hi => h i (by omega))
    have d := h n (by omega)
    by_cases q : set.testBit n = true
    · rw [tkS_t q]
      refine ⟨?_, ?_, ?_⟩
      · show -(20000000000 * ((n + 1 : Nat) : Int)) ≤ (tkS w set n).1 + w n ∧ (tkS w set n).1 + w n ≤ 20000000000 * ((n + 1 : Nat) : Int)
        omega
      · show -20000000000 ≤ (if (tkS w set n).2.2 = 0 ∨ w n < (tkS w set n).2.1 then w n else (tkS w set n).2.1) ∧ (if (tkS w set n).2.2 = 0 ∨ w n < (tkS w set n).2.1 then w n else (tkS w set n).2.1) ≤ 20000000000
        split <;> omega
      · show 0 ≤ (tkS w set n).2.2 + 1 ∧ (tkS w set n).2.2 + 1 ≤ ((n + 1 : Nat) : Int)
        omega
    · rw [tkS_f q]; omega
theorem tkS_0 (w : Nat → Int) (n : Nat) : tkS w 0 n = (0, 0, 0) := by
  induction n with
  | zero => rfl
  | succ n ih => rw [tkS_f (by simp), ih]
def tkV (w : Nat → Int) (set : Nat) (how : Int) (n : Nat) : Int := if how = 0 then (tkS w set n).1 else (tkS w set n).2.1 * (tkS w set n).2.2
theorem tkV_bd {w : Nat → Int} (set : Nat) (how : Int) {n : Nat} (hn : n ≤ 4) (h : ∀ i, i < n → -20000000000 ≤ w i ∧ w i ≤ 20000000000) : -80000000000 ≤ tkV w set how n ∧ tkV w set how n ≤ 80000000000 := by
  obtain ⟨a, b, c⟩ := tkS_bd set h
  have m := ab_mul 20000000000 4 b (show -4 ≤ (tkS w set n).2.2 ∧ (tkS w set n).2.2 ≤ 4 by omega)
  unfold tkV
  split <;> omega
noncomputable def tv (μ : Mk) (ν : Nw) (β : By) (how : Int) (set : Nat) : Int := tkV (fun b => WO μ ν β set b) set how (bN β)
theorem tv_bd {μ : Mk} {ν : Nw} {β : By} (h : mkOK μ) (hn : nwOK ν) (hβ : byOK β) (how : Int) (set : Nat) : -80000000000 ≤ tv μ ν β how set ∧ tv μ ν β how set ≤ 80000000000 :=
  tkV_bd set how hβ.1 (fun i hi => WO_bd h hn hβ hi)
theorem tv_0 (μ : Mk) (ν : Nw) (β : By) (how : Int) : tv μ ν β how 0 = 0 := by
  unfold tv tkV
  rw [tkS_0]
  split <;> rfl
def bsS (v : Nat → Int) : Nat → Int × Int
  | 0 => (0, 0)
  | n + 1 => if (bsS v n).2 < v (n + 1) then (((n + 1 : Nat) : Int), v (n + 1)) else bsS v n
theorem bsS_t {v : Nat → Int} {n : Nat} (h : (bsS v n).2 < v (n + 1)) : bsS v (n + 1) = (((n + 1 : Nat) : Int), v (n + 1)) := by
  show (if (bsS v n).2 < v (n + 1) then _ else _) = _
  rw [if_pos h]
theorem bsS_f {v : Nat → Int} {n : Nat} (h : ¬ (bsS v n).2 < v (n + 1)) : bsS v (n + 1) = bsS v n := by
  show (if (bsS v n).2 < v (n + 1) then _ else _) = _
  rw [if_neg h]
theorem bsS_is (v : Nat → Int) (n : Nat) : bsS v n = (0, 0) ∨ ∃ s : Nat, s ≤ n ∧ bsS v n = ((s : Int), v s) ∧ 0 < v s := by
  induction n with
  | zero => exact Or.inl rfl
  | succ n ih =>
    by_cases h : (bsS v n).2 < v (n + 1)
    · rw [bsS_t h]
      refine Or.inr ⟨n + 1, by omega, rfl, ?_⟩
      rcases ih with e | ⟨j, h1, e, h2⟩
      · rw [e] at h; exact h
      · rw [e] at h
        have h' : v j < v (n + 1) := h
        omega
    · rw [bsS_f h]
      rcases ih with e | ⟨j, h1, e, h2⟩
      · exact Or.inl e
      · exact Or.inr ⟨j, by omega, e, h2⟩
theorem bsS_bd {v : Nat → Int} {n : Nat} (hn : n < 16) (h : ∀ s, -80000000000 ≤ v s ∧ v s ≤ 80000000000) : (0 ≤ (bsS v n).1 ∧ (bsS v n).1 < 16) ∧ 0 ≤ (bsS v n).2 ∧ (bsS v n).2 ≤ 80000000000 := by
  rcases bsS_is v n with e | ⟨s, h1, e, h2⟩
  · rw [e]; exact ⟨⟨by decide, by decide⟩, by decide, by decide⟩
  · rw [e]
    have := h s
    show (0 ≤ (s : Int) ∧ (s : Int) < 16) ∧ 0 ≤ v s ∧ v s ≤ 80000000000
    omega
theorem takings_val {ρ : Rh} {d : Dd} {σ : Sg} (B : BuyAt d (gB σ)) (O : sgOK σ) {k set : Nat} (hk : k < gN σ) (hset : set < 2 ^ bN (gB σ)) (row : RowOK d σ k set) {how : Int} (hh : how = 0 ∨ how = 1) :
    fX11_takings ρ d (J k) (J set) (J how) = some (K (tv (gM σ) (gV σ k) (gB σ) how set)) := by
  have hβ := O.2.2.1
  have hN := hβ.1
  have h2N := two_le hN
  have hk8 := O.2.2.2.1.1
  unfold fX11_takings tv
  generalize hw : (fun b => WO (gM σ) (gV σ k) (gB σ) set b) = w
  have hwb : ∀ i, i < bN (gB σ) → -20000000000 ≤ w i ∧ w i ≤ 20000000000 := fun i hi => by
    rw [← hw]; exact WO_bd O.2.1 (O.2.2.2.1.2 k hk) hβ hi
  refine lp_up (bN (gB σ)) (fun i => (K (tkS w set i).1, K (tkS w set i).2.1, J (tkS w set i).2.2, J (i : Int))) (fun i hi self => ?_) (fun self => ?_) 6000 (by omega)
  · have h1 : ¬ d_i d 15 2 ≤ J (i : Int) := by rw [B.1, J_le (by omega) (by omega)]; omega
    by_cases q : set.testBit i = true
    · have hwo := worthOf_row (ρ := ρ) row (show k < 8 by omega) (show set < 16 by omega) (show i < 4 by omega)
      have ew : WO (gM σ) (gV σ k) (gB σ) set i = w i := by rw [← hw]
      rw [ew] at hwo
      obtain ⟨a, b, c⟩ := tkS_bd (w := w) set (n := i) (fun i' hi' => hwb i' (by omega))
      have dd := hwb i hi
      simp only [h1, if_false, isIn_val (show set < 16 by omega) (show i < 4 by omega), Option.bind_some, q, if_true, jn_eq, bnd_eq, hwo]
      rw [tkS_t q]
      have c0 : J (tkS w set i).2.2 = 0 ↔ (tkS w set i).2.2 = 0 := by rw [j0]; exact J_eq (by omega) (by omega)
      have cl : K (w i) < K (tkS w set i).2.1 ↔ w i < (tkS w set i).2.1 := K_lt (by omega) (by omega)
      by_cases q0 : (tkS w set i).2.2 = 0
      · rw [if_pos (c0.mpr q0), if_pos (Or.inl q0), K_add, j1, J_add, J_add]; rfl
      · rw [if_neg (fun z => q0 (c0.mp z))]
        unfold jminL
        by_cases ql : w i < (tkS w set i).2.1
        · rw [if_pos (cl.mpr ql), if_pos (Or.inr ql), K_add, j1, J_add, J_add]; rfl
        · have nq : ¬ ((tkS w set i).2.2 = 0 ∨ w i < (tkS w set i).2.1) := fun z => z.elim q0 ql
          rw [if_neg (fun z => ql (cl.mp z)), if_neg nq, K_add, j1, J_add, J_add]; rfl
    · simp only [h1, if_false, isIn_val (show set < 16 by omega) (show i < 4 by omega), Option.bind_some, q, jn_eq, Bool.false_eq_true]
      rw [tkS_f q, j1, J_add]; rfl
  · have h1 : d_i d 15 2 ≤ J (bN (gB σ) : Int) := by rw [B.1, J_le (by omega) (by omega)]; omega
    obtain ⟨a, b, c⟩ := tkS_bd (w := w) set (n := bN (gB σ)) hwb
    have c0 : J how = 0 ↔ how = 0 := by rw [j0]; exact J_eq (by omega) (by omega)
    simp only [h1, if_true]
    unfold tkV
    by_cases q : how = 0
    · rw [if_pos (c0.mpr q), if_pos q]
    · rw [if_neg (fun z => q (c0.mp z)), if_neg q, J_l (by omega), K_mul]
theorem bestSet_val {ρ : Rh} {d : Dd} {σ : Sg} (B : BuyAt d (gB σ)) (O : sgOK σ) {k : Nat} (hk : k < gN σ) (rows : ∀ s, s < 2 ^ bN (gB σ) → RowOK d σ k s) {how : Int} (hh : how = 0 ∨ how = 1) :
    fX11_bestSet ρ d (J k) (J how) = some (J (bsS (tv (gM σ) (gV σ k) (gB σ) how) (2 ^ bN (gB σ) - 1)).1) := by
  have hβ := O.2.2.1
  have hN := hβ.1
  have h2N := two_le hN
  unfold fX11_bestSet
  have hv := tv_bd O.2.1 (O.2.2.2.1.2 k hk) hβ how
  refine lp_up (2 ^ bN (gB σ) - 1) (fun i => (J (bsS (tv (gM σ) (gV σ k) (gB σ) how) i).1, K (bsS (tv (gM σ) (gV σ k) (gB σ) how) i).2, J ((i + 1 : Nat) : Int))) (fun i hi self => ?_) (fun self => ?_) 6000 (by omega)
  · have c1 : ¬ J ((2 ^ bN (gB σ) - 1 : Nat) : Int) < J ((i + 1 : Nat) : Int) := by rw [J_lt (by omega) (by omega)]; omega
    have c2 : ¬ (16 : Int32) ≤ J ((i + 1 : Nat) : Int) := by rw [j16, J_le (by omega) (by omega)]; omega
    have hb := bsS_bd (v := tv (gM σ) (gV σ k) (gB σ) how) (n := i) (by omega) hv
    have hvi := hv (i + 1)
    simp only [ev_val B hβ, Option.bind_some, c1, c2, if_false, takings_val B O hk (show i + 1 < 2 ^ bN (gB σ) by omega) (rows _ (by omega)) hh, jn_eq]
    have c : K (tv (gM σ) (gV σ k) (gB σ) how (i + 1)) ≤ K (bsS (tv (gM σ) (gV σ k) (gB σ) how) i).2 ↔ tv (gM σ) (gV σ k) (gB σ) how (i + 1) ≤ (bsS (tv (gM σ) (gV σ k) (gB σ) how) i).2 := K_le (by omega) (by omega)
    by_cases q : (bsS (tv (gM σ) (gV σ k) (gB σ) how) i).2 < tv (gM σ) (gV σ k) (gB σ) how (i + 1)
    · rw [if_neg (fun z => by have := c.mp z; omega), bsS_t q, j1, J_add]; rfl
    · rw [if_pos (c.mpr (by omega)), bsS_f q, j1, J_add]; rfl
  · have c1 : J ((2 ^ bN (gB σ) - 1 : Nat) : Int) < J ((2 ^ bN (gB σ) - 1 + 1 : Nat) : Int) := by rw [J_lt (by omega) (by omega)]; omega
    simp only [ev_val B hβ, Option.bind_some, c1, if_true]
theorem two_nat : ∀ n : Nat, n ≤ 4 → jshl 1 (J n) = J ((2 ^ n : Nat) : Int) := by decide +kernel
theorem mostAsked_val {ρ : Rh} {d : Dd} {σ : Sg} (M : RM d σ) (O : sgOK σ) (hop : 0 < kN (gM σ)) {k : Nat} (hk : k < gN σ) {how : Int} (hh : how = 0 ∨ how = 1) :
    ∃ d', fX12_mostAsked ρ d (J k) (J how) = some (K (100 * (bsS (tv (gM σ) (gV σ k) (gB σ) how) (2 ^ bN (gB σ) - 1)).2), d') ∧ Fr MS d d' ∧ d_i d' 23 27 = J (bsS (tv (gM σ) (gV σ k) (gB σ) how) (2 ^ bN (gB σ) - 1)).1 := by
  have hβ := O.2.2.1
  have hN := hβ.1
  have h2N := two_le hN
  have m27 : MS 23 27 := Or.inl ⟨rfl, by omega⟩
  have hv := tv_bd O.2.1 (O.2.2.2.1.2 k hk) hβ how
  have c0 : J how = 0 ↔ how = 0 := by rw [j0]; exact J_eq (by omega) (by omega)
  unfold fX12_mostAsked
  rw [bnd_eq]
  refine lp_c (2 ^ bN (gB σ) - 1) (fun i s => ∃ d', s = (K (100 * (bsS (tv (gM σ) (gV σ k) (gB σ) how) i).2), J ((i + 1 : Nat) : Int), d') ∧ Fr MS d d' ∧ d_i d' 23 27 = J (bsS (tv (gM σ) (gV σ k) (gB σ) how) i).1) (fun o => ∃ d', o = some (K (100 * (bsS (tv (gM σ) (gV σ k) (gB σ) how) (2 ^ bN (gB σ) - 1)).2), d') ∧ Fr MS d d' ∧ d_i d' 23 27 = J (bsS (tv (gM σ) (gV σ k) (gB σ) how) (2 ^ bN (gB σ) - 1)).1) ?_ ?_ 6000 (by omega) _ ⟨_, rfl, Fr.rf.i m27, dI_s⟩
  · rintro i hi s ⟨d', rfl, f, h27⟩ self
    have M' := M.frM f
    have h1 : ¬ jshl 1 (d_i d' 23 15) ≤ J ((i + 1 : Nat) : Int) := by rw [M'.2.2.1.1, two_nat _ hN, J_le (by omega) (by omega)]; omega
    obtain ⟨d2, l2, f2, hv2⟩ := mlay_val (ρ := ρ) (M'.2.1.1 hop) (M'.2.2.2.1.2 k hk) M'.2.2.1 O.2.1 (O.2.2.2.1.2 k hk) hβ (show i + 1 < 16 by omega)
    have B2 := M'.2.2.1.fm f2.ms
    have hb := bsS_bd (v := tv (gM σ) (gV σ k) (gB σ) how) (n := i) (by omega) hv
    have hvi := hv (i + 1)
    have h27' : d_i d2 23 27 = J (bsS (tv (gM σ) (gV σ k) (gB σ) how) i).1 := (f2.gi (by unfold MW; omega)).trans h27
    simp only [h1, if_false, l2, Option.bind_some, jn_eq, bnd_eq]
    have htv : tv (gM σ) (gV σ k) (gB σ) how (i + 1) = tkV (fun b => WO (gM σ) (gV σ k) (gB σ) (i + 1) b) (i + 1) how (bN (gB σ)) := rfl
    generalize hw : (fun b => WO (gM σ) (gV σ k) (gB σ) (i + 1) b) = w at htv
    have hwb : ∀ b, b < bN (gB σ) → -20000000000 ≤ w b ∧ w b ≤ 20000000000 := fun b hb => by
      rw [← hw]; exact WO_bd O.2.1 (O.2.2.2.1.2 k hk) hβ hb
    refine lp_c (bN (gB σ)) (fun b s => s = (K (100 * (tkS w (i + 1) b).1), K (100 * (tkS w (i + 1) b).2.1), J (tkS w (i + 1) b).2.2, J (b : Int))) (fun o => ∃ s', (∃ d', s' = (K (100 * (bsS (tv (gM σ) (gV σ k) (gB σ) how) (i + 1)).2), J ((i + 1 + 1 : Nat) : Int), d') ∧ Fr MS d d' ∧ d_i d' 23 27 = J (bsS (tv (gM σ) (gV σ k) (gB σ) how) (i + 1)).1) ∧ o = self s') ?_ ?_ 6000 (by omega) _ rfl
    · rintro b hb s rfl self2
      have h2 : ¬ d_i d2 23 15 ≤ J (b : Int) := by rw [B2.1, J_le (by omega) (by omega)]; omega
      have hsb := set_bit (i + 1) (by omega) b (by omega)
      refine ⟨_, rfl, ?_⟩
      by_cases q : (i + 1).testBit b = true
      · have hq := hsb.mpr q
        obtain ⟨p1, p2, p3⟩ := w33 (show i + 1 < 16 by omega) (show b < 4 by omega)
        have ew : d_l d2 33 (4 * (i + 1) + b) = K (100 * w b) := by rw [← hw]; exact hv2 b hb
        obtain ⟨ta, tb, tc⟩ := tkS_bd (w := w) (i + 1) (n := b) (fun i' hi' => hwb i' (by omega))
        have dd := hwb b hb
        simp only [h2, if_false, hq, if_true, jn_eq, bnd_eq, p1, p2, p3, ew]
        rw [tkS_t q]
        have c0 : J (tkS w (i + 1) b).2.2 = 0 ↔ (tkS w (i + 1) b).2.2 = 0 := by rw [j0]; exact J_eq (by omega) (by omega)
        have cl : K (100 * (tkS w (i + 1) b).2.1) ≤ K (100 * w b) ↔ 100 * (tkS w (i + 1) b).2.1 ≤ 100 * w b := K_le (by omega) (by omega)
        have eadd : K (100 * (tkS w (i + 1) b).1) + K (100 * w b) = K (100 * ((tkS w (i + 1) b).1 + w b)) := by rw [K_add]; congr 1; omega
        rw [eadd]
        by_cases q0 : (tkS w (i + 1) b).2.2 = 0
        · rw [if_pos (c0.mpr q0), if_pos (Or.inl q0), j1, J_add, J_add]; rfl
        · rw [if_neg (fun z => q0 (c0.mp z))]
          by_cases ql : w b < (tkS w (i + 1) b).2.1
          · rw [if_neg (fun z => by have := cl.mp z; omega), if_pos (Or.inr ql), j1, J_add, J_add]; rfl
          · have nq : ¬ ((tkS w (i + 1) b).2.2 = 0 ∨ w b < (tkS w (i + 1) b).2.1) := fun z => z.elim q0 ql
            rw [if_pos (cl.mpr (by omega)), if_neg nq, j1, J_add, J_add]; rfl
      · have hq : ¬ (jshr (J ((i + 1 : Nat) : Int)) (J (b : Int)) &&& 1) = 1 := fun z => q (hsb.mp z)
        simp only [h2, if_false, hq, jn_eq]
        rw [tkS_f q, j1, J_add]; rfl
    · rintro s rfl self2
      have h2 : d_i d2 23 15 ≤ J (bN (gB σ) : Int) := by rw [B2.1, J_le (by omega) (by omega)]; omega
      obtain ⟨ta, tb, tc⟩ := tkS_bd (w := w) (i + 1) (n := bN (gB σ)) hwb
      simp only [h2, if_true]
      have eg : ∀ {γ : Type} (g : Int64 → γ), (if J how = 0 then g (K (100 * (tkS w (i + 1) (bN (gB σ))).1)) else g (K (100 * (tkS w (i + 1) (bN (gB σ))).2.1) * Int32.toInt64 (J (tkS w (i + 1) (bN (gB σ))).2.2))) = g (K (100 * tv (gM σ) (gV σ k) (gB σ) how (i + 1))) := by
        intro γ g
        rw [htv]
        unfold tkV
        by_cases q : how = 0
        · rw [if_pos (c0.mpr q), if_pos q]
        · rw [if_neg (fun z => q (c0.mp z)), if_neg q, J_l (by omega), K_mul]
          congr 2
          grind
      have c : K (100 * tv (gM σ) (gV σ k) (gB σ) how (i + 1)) ≤ K (100 * (bsS (tv (gM σ) (gV σ k) (gB σ) how) i).2) ↔ 100 * tv (gM σ) (gV σ k) (gB σ) how (i + 1) ≤ 100 * (bsS (tv (gM σ) (gV σ k) (gB σ) how) i).2 := K_le (by omega) (by omega)
      have e1 := eg (fun x7 : Int64 => if x7 ≤ K (100 * (bsS (tv (gM σ) (gV σ k) (gB σ) how) i).2) then (if x7 ≤ K (100 * (bsS (tv (gM σ) (gV σ k) (gB σ) how) i).2) then self (K (100 * (bsS (tv (gM σ) (gV σ k) (gB σ) how) i).2), J ((i + 1 : Nat) : Int) + 1, dI d2 23 27 (d_i d2 23 27)) else self (x7, J ((i + 1 : Nat) : Int) + 1, dI d2 23 27 (d_i d2 23 27))) else (if x7 ≤ K (100 * (bsS (tv (gM σ) (gV σ k) (gB σ) how) i).2) then self (K (100 * (bsS (tv (gM σ) (gV σ k) (gB σ) how) i).2), J ((i + 1 : Nat) : Int) + 1, dI d2 23 27 (J ((i + 1 : Nat) : Int))) else self (x7, J ((i + 1 : Nat) : Int) + 1, dI d2 23 27 (J ((i + 1 : Nat) : Int)))))
      have ff := f.tr f2.ms
      by_cases q : (bsS (tv (gM σ) (gV σ k) (gB σ) how) i).2 < tv (gM σ) (gV σ k) (gB σ) how (i + 1)
      · have nc : ¬ K (100 * tv (gM σ) (gV σ k) (gB σ) how (i + 1)) ≤ K (100 * (bsS (tv (gM σ) (gV σ k) (gB σ) how) i).2) := fun z => by have := c.mp z; omega
        refine ⟨_, ⟨dI d2 23 27 (J ((i + 1 : Nat) : Int)), rfl, ff.i m27, ?_⟩, ?_⟩
        · rw [dI_s, bsS_t q]
        · refine e1.trans ?_
          simp only [nc, if_false]
          rw [bsS_t q, j1, J_add]; rfl
      · have nc := c.mpr (by omega)
        refine ⟨_, ⟨dI d2 23 27 (d_i d2 23 27), rfl, ff.i m27, ?_⟩, ?_⟩
        · rw [dI_s, bsS_f q]; exact h27'
        · refine e1.trans ?_
          simp only [nc, if_true]
          rw [bsS_f q, j1, J_add]; rfl
  · rintro s ⟨d', rfl, f, h27⟩ self
    have M' := M.frM f
    have h1 : jshl 1 (d_i d' 23 15) ≤ J ((2 ^ bN (gB σ) - 1 + 1 : Nat) : Int) := by rw [M'.2.2.1.1, two_nat _ hN, J_le (by omega) (by omega)]; omega
    exact ⟨d', by simp only [h1, if_true], f, h27⟩
/-! the number of sales -/
def sgS (σ : Sg) (n : Nat) : Sg := (σ.1, σ.2.1, σ.2.2.1, σ.2.2.2.1, n)
theorem RC.gfr {P : Nat → Nat → Prop} {d d1 : Dd} {ρ : Rh} {σ : Sg} (R : RC d ρ σ) (f : Fr P d d1) (h : ∀ o k, P o k → 23 ≤ o ∧ o < 35) : RC d1 ρ σ := by
  obtain ⟨⟨r1, r2⟩, ⟨r3, r4⟩, ⟨r5, r6⟩, r7, ⟨r8, r9, r10⟩, r11⟩ := R
  have hm := r2.1
  have hn : ∀ o k, (o < 23 ∨ 35 ≤ o) → ¬ P o k := fun o k q z => by have := h o k z; omega
  refine ⟨⟨r1.fr f (fun k => hn _ _ (by omega)), r2⟩, ⟨(f.gi (hn _ _ (by omega))).trans r3, fun k hk => (f.gi (hn _ _ (by omega))).trans (r4 k hk)⟩, ⟨fun h => (r5 h).fr f (fun k => ⟨hn _ _ (by omega), hn _ _ (by omega), hn _ _ (by omega)⟩), (f.gi (hn _ _ (by omega))).trans r6⟩, r7.fr f (fun k => ⟨hn _ _ (by omega), hn _ _ (by omega), hn _ _ (by omega)⟩), ⟨(f.gi (hn _ _ (by omega))).trans r8, r9, fun k hk => (r10 k hk).fr f (fun j => hn _ _ (by omega))⟩, (f.gi (hn _ _ (by omega))).trans r11⟩
theorem RC.sl {d : Dd} {ρ : Rh} {σ : Sg} (R : RC d ρ σ) (n : Nat) : RC (dI d 3 7 (J n)) ρ (sgS σ n) := by
  obtain ⟨⟨r1, r2⟩, ⟨r3, r4⟩, ⟨r5, r6⟩, r7, ⟨r8, r9, r10⟩, r11⟩ := R
  have hm := r2.1
  have f : Fr (fun o k => o = 3 ∧ k = 7) d (dI d 3 7 (J n)) := Fr.rf.i ⟨rfl, rfl⟩
  refine ⟨⟨r1.fr f (fun k => by omega), r2⟩, ⟨(f.gi (by omega)).trans r3, fun k hk => (f.gi (by omega)).trans (r4 k hk)⟩, ⟨fun h => (r5 h).fr f (fun k => ⟨by omega, by omega, by omega⟩), (f.gi (by omega)).trans r6⟩, r7.fr f (fun k => ⟨by omega, by omega, by omega⟩), ⟨(f.gi (by omega)).trans r8, r9, fun k hk => (r10 k hk).fr f (fun j => by omega)⟩, dI_s⟩
theorem RM.sl {d : Dd} {σ : Sg} (R : RM d σ) (n : Nat) : RM (dI d 23 26 (J n)) (sgS σ n) := by
  obtain ⟨⟨r1, r2⟩, ⟨r3, r4⟩, ⟨r5, r6⟩, ⟨r7, r8⟩, r9⟩ := R
  have f : Fr (fun o k => o = 23 ∧ k = 26) d (dI d 23 26 (J n)) := Fr.rf.i ⟨rfl, rfl⟩
  refine ⟨⟨(f.gi (by omega)).trans r1, fun k hk => (f.gi (by omega)).trans (r2 k hk)⟩, ⟨fun hq => ?_, (f.gi (by omega)).trans r4⟩, ⟨(f.gi (by omega)).trans r5, fun b hb => ⟨(f.gi (by omega)).trans (r6 b hb).1, (f.gi (by omega)).trans (r6 b hb).2⟩⟩, ⟨(f.gi (by omega)).trans r7, fun k hk => ⟨(r8 k hk).1, (f.gi (by omega)).trans (r8 k hk).2.1, (f.gi (by omega)).trans (r8 k hk).2.2⟩⟩, dI_s⟩
  obtain ⟨m1, m2, m3, m4⟩ := r3 hq
  exact ⟨(f.gi (by omega)).trans m1, (f.gi (by omega)).trans m2, (f.gi (by omega)).trans m3, fun c hc => ⟨(f.gi (by omega)).trans (m4 c hc).1, (f.gi (by omega)).trans (m4 c hc).2⟩⟩
theorem sgS_ok {σ : Sg} (O : sgOK σ) {n : Nat} (hn : n ≤ 40) : sgOK (sgS σ n) := ⟨O.1, O.2.1, O.2.2.1, O.2.2.2.1, hn⟩
