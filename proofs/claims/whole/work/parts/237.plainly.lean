/-! plainly -/
def plS (g : Nat → Int) : Nat → Int × Int
  | 0 => (-1, 0)
  | n + 1 => if (plS g n).1 = -1 ∨ (plS g n).2 < g n then ((n : Int), g n) else plS g n
theorem plS_t {g : Nat → Int} {n : Nat} (h : (plS g n).1 = -1 ∨ (plS g n).2 < g n) : plS g (n + 1) = ((n : Int), g n) := by
  show (if (plS g n).1 = -1 ∨ (plS g n).2 < g n then _ else _) = _
  rw [if_pos h]
theorem plS_f {g : Nat → Int} {n : Nat} (h : ¬ ((plS g n).1 = -1 ∨ (plS g n).2 < g n)) : plS g (n + 1) = plS g n := by
  show (if (plS g n).1 = -1 ∨ (plS g n).2 < g n then _ else _) = _
  rw [if_neg h]
theorem plS_bd {g : Nat → Int} {n : Nat} (h : ∀ i, i < n → 0 ≤ g i ∧ g i ≤ 80000000000) : (-1 ≤ (plS g n).1 ∧ (plS g n).1 < n) ∧ 0 ≤ (plS g n).2 ∧ (plS g n).2 ≤ 80000000000 := by
  induction n with
  | zero =>
    show (-1 ≤ (-1 : Int) ∧ (-1 : Int) < ((0 : Nat) : Int)) ∧ 0 ≤ (0 : Int) ∧ (0 : Int) ≤ 80000000000
    omega
  | succ n ih =>
    have a := ih (fun i hi => h i (by omega))
    have b := h n (by omega)
    by_cases q : (plS g n).1 = -1 ∨ (plS g n).2 < g n
    · rw [plS_t q]
      show (-1 ≤ (n : Int) ∧ (n : Int) < ((n + 1 : Nat) : Int)) ∧ 0 ≤ g n ∧ g n ≤ 80000000000
      omega
    · rw [plS_f q]; omega
noncomputable def gW (σ : Sg) (how : Int) (k : Nat) : Int := (bsS (tv (gM σ) (gV σ k) (gB σ) how) (2 ^ bN (gB σ) - 1)).2
theorem gW_bd {σ : Sg} (O : sgOK σ) (how : Int) {k : Nat} (hk : k < gN σ) : 0 ≤ gW σ how k ∧ gW σ how k ≤ 80000000000 := by
  have h2N := two_le O.2.2.1.1
  exact (bsS_bd (by omega) (tv_bd O.2.1 (O.2.2.2.1.2 k hk) O.2.2.1 how)).2
theorem best_tak {ρ : Rh} {d : Dd} {σ : Sg} (B : BuyAt d (gB σ)) (O : sgOK σ) {k : Nat} (hk : k < gN σ) (rows : ∀ s, s < 2 ^ bN (gB σ) → RowOK d σ k s) {how : Int} (hh : how = 0 ∨ how = 1) :
    fX11_takings ρ d (J k) (J (bsS (tv (gM σ) (gV σ k) (gB σ) how) (2 ^ bN (gB σ) - 1)).1) (J how) = some (K (gW σ how k)) := by
  have h2N := two_le O.2.2.1.1
  unfold gW
  rcases bsS_is (tv (gM σ) (gV σ k) (gB σ) how) (2 ^ bN (gB σ) - 1) with e | ⟨s, h1, e, h2⟩
  · rw [e]
    have := takings_val (ρ := ρ) B O hk (set := 0) (by omega) (rows 0 (by omega)) hh
    rw [tv_0] at this
    exact this
  · rw [e]
    exact takings_val (ρ := ρ) B O hk (set := s) (by omega) (rows s (by omega)) hh
theorem op15 : Op15 Inv := by
  rintro d ρ ⟨σ, O, R, C, M⟩ x1
  obtain ⟨w, hw, rfl⟩ := J_of x1
  have hβ := O.2.2.1
  have hN := hβ.1
  have h2N := two_le hN
  have hk8 := O.2.2.2.1.1
  have hkN := O.2.1.2.2.1
  have hS := O.2.2.2.2
  by_cases hop : 0 < kN (gM σ)
  · have op1 : ¬ d_i d 3 3 = 0 := by rw [R.2.2.1.2, if_pos hop]; decide
    have op2 : ∀ d1, RM d1 σ → ¬ d_i d1 23 4 = 0 := fun d1 M1 => by rw [M1.2.1.2, j0, J_eq (by omega) (by omega)]; omega
    by_cases hw1 : w = 0 ∨ w = 1
    · by_cases hs : gS σ < 40
      · have hs1 : d_i d 3 7 < 40 := by rw [R.2.2.2.2.2, j40, J_lt (by omega) (by omega)]; omega
        have e1 : d_i d 3 7 + 1 = J ((gS σ + 1 : Nat) : Int) := by rw [R.2.2.2.2.2, j1, J_add]; rfl
        obtain ⟨τ, hτ⟩ : ∃ τ, τ = sgS σ (gS σ + 1) := ⟨_, rfl⟩
        have O' : sgOK τ := by rw [hτ]; exact sgS_ok O (by omega)
        have fc : Fr (fun o k => o = 3 ∧ k = 7) d (dI d 3 7 (J ((gS σ + 1 : Nat) : Int))) := Fr.rf.i ⟨rfl, rfl⟩
        have R0 : RC (dI d 3 7 (J ((gS σ + 1 : Nat) : Int))) ρ τ := by rw [hτ]; exact R.sl (gS σ + 1)
        have C0 : CacheOK (dI d 3 7 (J ((gS σ + 1 : Nat) : Int))) τ := by rw [hτ]; exact C.gfr (σ := σ) fc (fun k => ⟨by omega, by omega, by omega⟩)
        have M0 : RM (dI d 3 7 (J ((gS σ + 1 : Nat) : Int))) σ := M.gfr fc (fun o k h1 h2 h3 => by omega)
        have hop' : 0 < kN (gM τ) := by rw [hτ]; exact hop
        have eN : gN τ = gN σ := by rw [hτ]; rfl
        have hcl : ∃ d1, fX11_plainly ρ d (J w) = some (J (plS (gW τ w) (gN τ)).1, d1) ∧ Fr CS (dI d 3 7 (J ((gS σ + 1 : Nat) : Int))) d1 ∧ CacheOK d1 τ := by
          unfold fX11_plainly
          rw [if_neg op1, isHow_c hw, Option.bind_some, decide_eq_true hw1, if_pos rfl, if_pos hs1, bnd_eq, e1]
          refine lp_c (gN τ) (fun i s => ∃ d', s = (J (plS (gW τ w) i).1, K (plS (gW τ w) i).2, J (i : Int), d') ∧ Fr CS (dI d 3 7 (J ((gS σ + 1 : Nat) : Int))) d' ∧ CacheOK d' τ) (fun o => ∃ d1, o = some (J (plS (gW τ w) (gN τ)).1, d1) ∧ Fr CS (dI d 3 7 (J ((gS σ + 1 : Nat) : Int))) d1 ∧ CacheOK d1 τ) ?_ ?_ 6000 (by omega) _ ⟨_, rfl, Fr.rf, C0⟩
          · rintro i hi s ⟨d', rfl, f, C'⟩ self
            have R' := R0.fr f
            have h1 : ¬ d_i d' 3 6 ≤ J (i : Int) := by rw [R'.2.2.2.2.1.1, J_le (by omega) (by omega)]; omega
            obtain ⟨d2, s2, f2, C2, rows⟩ := settleAll_val (ρ := ρ) R' O' C' hop' hi
            have R2 := R'.fr f2
            have hb := bestSet_val (ρ := ρ) R2.2.2.2.1 O' hi rows hw1
            have ht := best_tak (ρ := ρ) R2.2.2.2.1 O' hi rows hw1
            have b1 := plS_bd (g := gW τ w) (n := i) (fun j hj => gW_bd O' w (show j < gN τ by omega))
            have b2 := gW_bd O' w hi
            have c0 : J (plS (gW τ w) i).1 = -1 ↔ (plS (gW τ w) i).1 = -1 := by rw [jm1]; exact J_eq (by omega) (by omega)
            have c1 : K (gW τ w i) ≤ K (plS (gW τ w) i).2 ↔ gW τ w i ≤ (plS (gW τ w) i).2 := K_le (by omega) (by omega)
            have ff := f.tr f2
            simp only [h1, if_false, s2, hb, ht, Option.bind_some, jn_eq]
            refine ⟨_, ⟨d2, rfl, ff, C2⟩, ?_⟩
            by_cases q0 : (plS (gW τ w) i).1 = -1
            · rw [if_pos (c0.mpr q0), plS_t (Or.inl q0), j1, J_add]; rfl
            · rw [if_neg (fun z => q0 (c0.mp z))]
              by_cases q1 : (plS (gW τ w) i).2 < gW τ w i
              · rw [if_neg (fun z => by have := c1.mp z; omega), plS_t (Or.inr q1), j1, J_add]; rfl
              · rw [if_pos (c1.mpr (by omega)), plS_f (fun z => z.elim q0 q1), j1, J_add]; rfl
          · rintro s ⟨d', rfl, f, C'⟩ self
            have R' := R0.fr f
            have h1 : d_i d' 3 6 ≤ J (gN τ : Int) := by rw [R'.2.2.2.2.1.1, J_le (by omega) (by omega)]; omega
            exact ⟨d', by simp only [h1, if_true], f, C'⟩
        obtain ⟨d1, w1, f1, C1⟩ := hcl
        have R1 := R0.fr f1
        have M1 := M0.frC f1
        have fm : Fr (fun o k => o = 23 ∧ k = 26) d1 (dI d1 23 26 (J ((gS σ + 1 : Nat) : Int))) := Fr.rf.i ⟨rfl, rfl⟩
        have Mm : RM (dI d1 23 26 (J ((gS σ + 1 : Nat) : Int))) τ := by rw [hτ]; exact M1.sl (gS σ + 1)
        have Rm := R1.gfr fm (fun o k h => by omega)
        have Cm := C1.gfr fm (fun k => ⟨by omega, by omega, by omega⟩)
        have hs2 : ¬ d_i d1 23 26 = 40 := by rw [M1.2.2.2.2, j40, J_eq (by omega) (by omega)]; omega
        have e2 : d_i d1 23 26 + 1 = J ((gS σ + 1 : Nat) : Int) := by rw [M1.2.2.2.2, j1, J_add]; rfl
        have hml : ∃ d2, fX12_plainly ρ d1 (J w) = some (J (plS (gW τ w) (gN τ)).1, d2) ∧ Fr MS (dI d1 23 26 (J ((gS σ + 1 : Nat) : Int))) d2 := by
          unfold fX12_plainly
          rw [if_neg (op2 d1 M1), in01 hw, Option.bind_some, decide_eq_true hw1, if_pos rfl, if_neg hs2, bnd_eq, e2]
          refine lp_c (gN τ) (fun i s => ∃ d', s = (J (plS (gW τ w) i).1, K (100 * (plS (gW τ w) i).2), J (i : Int), d') ∧ Fr MS (dI d1 23 26 (J ((gS σ + 1 : Nat) : Int))) d') (fun o => ∃ d2, o = some (J (plS (gW τ w) (gN τ)).1, d2) ∧ Fr MS (dI d1 23 26 (J ((gS σ + 1 : Nat) : Int))) d2) ?_ ?_ 6000 (by omega) _ ⟨_, rfl, Fr.rf⟩
          · rintro i hi s ⟨d', rfl, f⟩ self
            have M' := Mm.frM f
            have h1 : ¬ d_i d' 23 18 ≤ J (i : Int) := by rw [M'.2.2.2.1.1, J_le (by omega) (by omega)]; omega
            obtain ⟨d2, s2, f2, -⟩ := mostAsked_val (ρ := ρ) M' O' hop' hi hw1
            have s2' : fX12_mostAsked ρ d' (J (i : Int)) (J w) = some (K (100 * gW τ w i), d2) := s2
            have b1 := plS_bd (g := gW τ w) (n := i) (fun j hj => gW_bd O' w (show j < gN τ by omega))
            have b2 := gW_bd O' w hi
            have c0 : J (plS (gW τ w) i).1 = -1 ↔ (plS (gW τ w) i).1 = -1 := by rw [jm1]; exact J_eq (by omega) (by omega)
            have ci : ¬ J (plS (gW τ w) i).1 = J (i : Int) := by rw [J_eq (by omega) (by omega)]; omega
            have c1 : K (100 * gW τ w i) ≤ K (100 * (plS (gW τ w) i).2) ↔ 100 * gW τ w i ≤ 100 * (plS (gW τ w) i).2 := K_le (by omega) (by omega)
            have ff := f.tr f2
            simp only [h1, if_false, s2', Option.bind_some, jn_eq, if_true, ci]
            refine ⟨_, ⟨d2, rfl, ff⟩, ?_⟩
            by_cases q0 : (plS (gW τ w) i).1 = -1
            · rw [if_pos (c0.mpr q0), plS_t (Or.inl q0), j1, J_add]; rfl
            · rw [if_neg (fun z => q0 (c0.mp z))]
              by_cases q1 : (plS (gW τ w) i).2 < gW τ w i
              · rw [if_neg (fun z => by have := c1.mp z; omega), plS_t (Or.inr q1), j1, J_add]; rfl
              · rw [if_pos (c1.mpr (by omega)), plS_f (fun z => z.elim q0 q1), j1, J_add]; rfl
          · rintro s ⟨d', rfl, f⟩ self
            have M' := Mm.frM f
            have h1 : d_i d' 23 18 ≤ J (gN τ : Int) := by rw [M'.2.2.2.1.1, J_le (by omega) (by omega)]; omega
            exact ⟨d', by simp only [h1, if_true], f⟩
        obtain ⟨d2, w2, f2⟩ := hml
        exact ⟨_, d1, d2, w1, w2, ⟨τ, O', Rm.frM f2, Cm.frM f2, Mm.frM f2⟩, f1.cs2.trans (fc.c2 (fun k => by omega))⟩
      · have hs1 : ¬ d_i d 3 7 < 40 := by rw [R.2.2.2.2.2, j40, J_lt (by omega) (by omega)]; omega
        have hs2 : d_i d 23 26 = 40 := by rw [M.2.2.2.2, j40, J_eq (by omega) (by omega)]; omega
        refine ⟨-103, d, d, ?_, ?_, ⟨σ, O, R, C, M⟩, rfl⟩
        · unfold fX11_plainly
          rw [if_neg op1, isHow_c hw, Option.bind_some, decide_eq_true hw1, if_pos rfl, if_neg hs1]
        · unfold fX12_plainly
          rw [if_neg (op2 d M), in01 hw, Option.bind_some, decide_eq_true hw1, if_pos rfl, if_pos hs2]
    · refine ⟨-102, d, d, ?_, ?_, ⟨σ, O, R, C, M⟩, rfl⟩
      · unfold fX11_plainly
        rw [if_neg op1, isHow_c hw, Option.bind_some, decide_eq_false hw1, if_neg Bool.false_ne_true]
      · unfold fX12_plainly
        rw [if_neg (op2 d M), in01 hw, Option.bind_some, decide_eq_false hw1, if_neg Bool.false_ne_true]
  · have n0 : kN (gM σ) = 0 := by omega
    have op1 : d_i d 3 3 = 0 := by rw [R.2.2.1.2, if_neg hop]; rfl
    have op2 : d_i d 23 4 = 0 := by rw [M.2.1.2, n0]; rfl
    refine ⟨-103, d, d, ?_, ?_, ⟨σ, O, R, C, M⟩, rfl⟩
    · unfold fX11_plainly
      rw [if_pos op1]
    · unfold fX12_plainly
      rw [if_pos op2]
