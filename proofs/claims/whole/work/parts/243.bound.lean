/-! a bound on all that knowing can bring -/
def bsx (f : Nat → Int) : Nat → Int
  | 0 => 0
  | n + 1 => if bsx f n < f n then f n else bsx f n
theorem bsx_t {f : Nat → Int} {n : Nat} (h : bsx f n < f n) : bsx f (n + 1) = f n := by
  show (if bsx f n < f n then _ else _) = _
  rw [if_pos h]
theorem bsx_f {f : Nat → Int} {n : Nat} (h : ¬ bsx f n < f n) : bsx f (n + 1) = bsx f n := by
  show (if bsx f n < f n then _ else _) = _
  rw [if_neg h]
theorem bsx_bd {f : Nat → Int} {n : Nat} (h : ∀ i, i < n → f i ≤ 20000) : 0 ≤ bsx f n ∧ bsx f n ≤ 20000 := by
  induction n with
  | zero =>
    show 0 ≤ (0 : Int) ∧ (0 : Int) ≤ 20000
    omega
  | succ n ih =>
    have a := ih (fun i hi => h i (by omega))
    have b := h n (by omega)
    by_cases q : bsx f n < f n
    · rw [bsx_t q]; omega
    · rw [bsx_f q]; omega
def xv (μ : Mk) (L c i : Nat) : Int := ((i : Int) - L) * (kV μ c - kB μ - kS μ * ((i : Int) - L))
theorem xv_bd {μ : Mk} (h : mkOK μ) {L : Nat} (hL : L ≤ 12) {c : Nat} (hc : c < kN μ) {i : Nat} (hi : i ≤ 2 * L) : (-20000 ≤ xv μ L c i ∧ xv μ L c i ≤ 20000) ∧ (-1200 ≤ kV μ c - kB μ - kS μ * ((i : Int) - L) ∧ kV μ c - kB μ - kS μ * ((i : Int) - L) ≤ 1200) := by
  have hV := (h.2.2.2 c hc).2
  have hB := h.1
  have hS := h.2.1
  have a := ab_mul 9 12 (x := kS μ) (y := (i : Int) - L) (by omega) (by omega)
  have b := ab_mul 12 1107 (x := (i : Int) - L) (y := kV μ c - kB μ - kS μ * ((i : Int) - L)) (by omega) (by omega)
  unfold xv
  omega
def mB (μ : Mk) (L c : Nat) : Int := bsx (xv μ L c) (2 * L + 1)
theorem mB_bd {μ : Mk} (h : mkOK μ) {L : Nat} (hL : L ≤ 12) {c : Nat} (hc : c < kN μ) : 0 ≤ mB μ L c ∧ mB μ L c ≤ 20000 := bsx_bd (fun i hi => (xv_bd h hL hc (by omega)).1.2)
def moS (μ : Mk) (L : Nat) : Int := sm (kN μ) (fun c => kW μ c * mB μ L c)
theorem moS_bd {μ : Mk} (h : mkOK μ) {L : Nat} (hL : L ≤ 12) : 0 ≤ moS μ L ∧ moS μ L ≤ 8000000 := by
  have hN := h.2.2.1
  have := sm_bd (n := kN μ) (f := fun c => kW μ c * mB μ L c) (lo := 0) (hi := 1980000) (fun c hc => by
    have a := (h.2.2.2 c hc).1
    have b := mB_bd h hL hc
    have d := Int.mul_nonneg (show 0 ≤ kW μ c by omega) b.1
    have e := ab_mul 99 20000 (x := kW μ c) (y := mB μ L c) (by omega) (by omega)
    show 0 ≤ kW μ c * mB μ L c ∧ kW μ c * mB μ L c ≤ 1980000
    omega)
  unfold moS
  omega
def lmS (β : By) : Nat := (sm (bN β) (bL β)).toNat
theorem lmS_is {β : By} (h : byOK β) : sm (bN β) (bL β) = (lmS β : Int) ∧ lmS β ≤ 12 := by
  have hN := h.1
  have := sm_bd (n := bN β) (f := bL β) (lo := 0) (hi := 3) (fun b hb => by have := (h.2 b hb).1; omega)
  unfold lmS
  omega
theorem allLim_val {ρ : Rh} {d : Dd} {β : By} (B : BuyAt d β) (hβ : byOK β) : fX1_allLimits ρ d = some (J (lmS β : Int)) := by
  have hN := hβ.1
  rw [← (lmS_is hβ).1]
  unfold fX1_allLimits
  refine lp_up (bN β) (fun i => (J (sm i (bL β)), J (i : Int))) (fun i hi self => ?_) (fun self => ?_) 6000 (by omega)
  · have h1 : ¬ d_i d 15 2 ≤ J (i : Int) := by rw [B.1, J_le (by omega) (by omega)]; omega
    have el : lim β i = bL β i := by unfold lim; rw [if_pos hi]
    simp only [h1, if_false, limitOf_val B hβ (show i < 4 by omega), Option.bind_some, bnd_eq, el]
    rw [J_add, j1, J_add]; rfl
  · have h1 : d_i d 15 2 ≤ J (bN β : Int) := by rw [B.1, J_le (by omega) (by omega)]; omega
    simp only [h1, if_true]
theorem mostFor_val {ρ : Rh} {d : Dd} {o : Nat} {μ : Mk} (M : MktAt d o μ) (h : mkOK μ) {L : Nat} (hL : L ≤ 12) : fX5_mostFor ρ d o (J (L : Int)) = some (K (moS μ L)) := by
  have hN := h.2.2.1
  unfold fX5_mostFor moS
  refine lp_up (kN μ) (fun c => (K (sm c (fun c => kW μ c * mB μ L c)), J (c : Int))) (fun c hc self => ?_) (fun self => ?_) 6000 (by omega)
  · have h1 : ¬ d_i d o 2 ≤ J (c : Int) := by rw [M.2.2.1, J_le (by omega) (by omega)]; omega
    have hV := (h.2.2.2 c hc).2
    have hW := (h.2.2.2 c hc).1
    have hB := h.1
    have hS := h.2.1
    simp only [h1, if_false, bnd_eq]
    refine lp_c (2 * L + 1) (fun i x => x = (K (bsx (xv μ L c) i), J ((i : Int) - L))) (fun o => o = self (K (sm (c + 1) (fun c => kW μ c * mB μ L c)), J ((c + 1 : Nat) : Int))) ?_ ?_ 6000 (by omega) _ (by rw [J_neg, show -(L : Int) = ((0 : Nat) : Int) - L by omega]; rfl)
    · rintro i hi x rfl self2
      have h2 : ¬ J (L : Int) < J ((i : Int) - L) := by rw [J_lt (by omega) (by omega)]; omega
      have hb := xv_bd h hL hc (show i ≤ 2 * L by omega)
      have ha := bsx_bd (f := xv μ L c) (n := i) (fun j hj => (xv_bd h hL hc (show j ≤ 2 * L by omega)).1.2)
      have e1 : (J ((i : Int) - L) + 1) = J (((i + 1 : Nat) : Int) - L) := by rw [j1, J_add]; congr 1; omega
      have ev : Int32.toInt64 (J ((i : Int) - L)) * Int32.toInt64 (J (kV μ c) - d_i d o 0 - d_i d o 1 * J ((i : Int) - L)) = K (xv μ L c i) := by
        rw [M.1, M.2.1, J_sub, J_mul, J_sub, J_l (by omega), J_l (by omega), K_mul]; rfl
      simp only [h2, if_false, valueOf_val M h hc, Option.bind_some, ev, e1]
      unfold jmaxL
      have cl : K (xv μ L c i) < K (bsx (xv μ L c) i) ↔ xv μ L c i < bsx (xv μ L c) i := K_lt (by omega) (by omega)
      refine ⟨_, rfl, ?_⟩
      by_cases q : bsx (xv μ L c) i < xv μ L c i
      · rw [bsx_t q, if_neg (fun z => by have := cl.mp z; omega)]
      · rw [bsx_f q]
        by_cases w : xv μ L c i < bsx (xv μ L c) i
        · rw [if_pos (cl.mpr w)]
        · rw [if_neg (fun z => w (cl.mp z)), show xv μ L c i = bsx (xv μ L c) i by omega]
    · rintro x rfl self2
      have h2 : J (L : Int) < J (((2 * L + 1 : Nat) : Int) - L) := by rw [J_lt (by omega) (by omega)]; omega
      simp only [h2, if_true, weightOf_val M h hc, Option.bind_some]
      rw [J_l (by omega), K_mul, K_add, j1, J_add]; rfl
  · have h1 : d_i d o 2 ≤ J (kN μ : Int) := by rw [M.2.2.1, J_le (by omega) (by omega)]; omega
    simp only [h1, if_true]
theorem boundOf_val {ρ : Rh} {d : Dd} {μ : Mk} {β : By} (M : MdlAt d μ) (B : MdlB d β) (h : mkOK μ) (hβ : byOK β) : fX12_boundOf ρ d = some (K (moS μ (lmS β))) := by
  have hN := h.2.2.1
  have hbN := hβ.1
  obtain ⟨eL, hL⟩ := lmS_is hβ
  have hB := h.1
  have hS := h.2.1
  unfold fX12_boundOf
  refine lp_c (bN β) (fun i x => x = (J (sm i (bL β)), J (i : Int))) (fun o => o = some (K (moS μ (lmS β)))) ?_ ?_ 6000 (by omega) _ rfl
  · rintro i hi x rfl self
    have h1 : ¬ d_i d 23 15 ≤ J (i : Int) := by rw [B.1, J_le (by omega) (by omega)]; omega
    have hin : inB (J (i : Int)) 4 = true := by rw [inB_J (by omega)]; omega
    have hix : ix (J (i : Int)) = i := by rw [ix_J (by omega), Int.toNat_natCast]
    simp only [h1, if_false, hin, if_true, hix, (B.2 i hi).1, bnd_eq]
    refine ⟨_, rfl, ?_⟩
    rw [J_add, j1, J_add]; rfl
  · rintro x rfl self
    have h1 : d_i d 23 15 ≤ J (bN β : Int) := by rw [B.1, J_le (by omega) (by omega)]; omega
    simp only [h1, if_true, eL]
    generalize hLL : lmS β = L at hL
    unfold moS
    refine lp_up (kN μ) (fun c => (K (sm c (fun c => kW μ c * mB μ L c)), J (c : Int))) (fun c hc self => ?_) (fun self => ?_) 6000 (by omega)
    · have h1 : ¬ d_i d 23 4 ≤ J (c : Int) := by rw [M.2.2.1, J_le (by omega) (by omega)]; omega
      have hV := (h.2.2.2 c hc).2
      have hW := (h.2.2.2 c hc).1
      have hin : inB (J (c : Int)) 4 = true := by rw [inB_J (by omega)]; omega
      have hix : ix (J (c : Int)) = c := by rw [ix_J (by omega), Int.toNat_natCast]
      have hwv := M.2.2.2 c hc
      simp only [h1, if_false, bnd_eq, jn_eq]
      refine lp_c (2 * L + 1) (fun i x => x = (J (bsx (xv μ L c) i), J ((i : Int) - L))) (fun o => o = self (K (sm (c + 1) (fun c => kW μ c * mB μ L c)), J ((c + 1 : Nat) : Int))) ?_ ?_ 6000 (by omega) _ (by rw [J_neg, show -(L : Int) = ((0 : Nat) : Int) - L by omega]; rfl)
      · rintro i hi x rfl self2
        have h2 : ¬ J (L : Int) < J ((i : Int) - L) := by rw [J_lt (by omega) (by omega)]; omega
        have hb := xv_bd h hL hc (show i ≤ 2 * L by omega)
        have ha := bsx_bd (f := xv μ L c) (n := i) (fun j hj => (xv_bd h hL hc (show j ≤ 2 * L by omega)).1.2)
        have e1 : (J ((i : Int) - L) + 1) = J (((i + 1 : Nat) : Int) - L) := by rw [j1, J_add]; congr 1; omega
        have ev : J ((i : Int) - L) * (J (kV μ c) - d_i d 23 2 - d_i d 23 3 * J ((i : Int) - L)) = J (xv μ L c i) := by
          rw [M.1, M.2.1, J_sub, J_mul, J_sub, J_mul]; rfl
        simp only [h2, if_false, hin, if_true, hix, hwv.2, ev, e1]
        have cl : J (xv μ L c i) ≤ J (bsx (xv μ L c) i) ↔ xv μ L c i ≤ bsx (xv μ L c) i := J_le (by omega) (by omega)
        refine ⟨_, rfl, ?_⟩
        by_cases q : bsx (xv μ L c) i < xv μ L c i
        · rw [bsx_t q, if_neg (fun z => by have := cl.mp z; omega)]
        · rw [bsx_f q, if_pos (cl.mpr (by omega))]
      · rintro x rfl self2
        have h2 : J (L : Int) < J (((2 * L + 1 : Nat) : Int) - L) := by rw [J_lt (by omega) (by omega)]; omega
        have hm := mB_bd h hL hc
        have hm' : 0 ≤ bsx (xv μ L c) (2 * L + 1) ∧ bsx (xv μ L c) (2 * L + 1) ≤ 20000 := hm
        simp only [h2, if_true, hin, hix, hwv.1]
        rw [J_l (by omega), J_l (by omega), K_mul, K_add, j1, J_add]; rfl
    · have h1 : d_i d 23 4 ≤ J (kN μ : Int) := by rw [M.2.2.1, J_le (by omega) (by omega)]; omega
      simp only [h1, if_true]
theorem bound_c {ρ : Rh} {d : Dd} {σ : Sg} (R : RC d ρ σ) (O : sgOK σ) (hop : 0 < kN (gM σ)) {p : Int} (hp : p = 0 ∨ p = 1) : fX11_bound ρ d (J p) = some (K (frc (moS (gM σ) (lmS (gB σ))) (WT (gM σ)) p)) := by
  have hM := R.2.2.1.1 hop
  have hL := (lmS_is O.2.2.1).2
  have hw := WT_bd O.2.1
  have hw1 := hw.2 hop
  have hmo := moS_bd O.2.1 hL
  have op1 : ¬ d_i d 3 3 = 0 := by rw [R.2.2.1.2, if_pos hop]; decide
  unfold fX11_bound
  rw [if_neg op1, isPart_c (by omega), Option.bind_some, decide_eq_true hp, if_pos rfl, allLim_val R.2.2.2.1 O.2.2.1, Option.bind_some, mostFor_val hM O.2.1 hL, Option.bind_some, hM.2.2.2.1, J_l (by omega), pt_val (by omega) (by omega) hp, Option.bind_some]
theorem bound_m {d : Dd} {σ : Sg} (M : RM d σ) (O : sgOK σ) (hop : 0 < kN (gM σ)) {p : Int} (hp : p = 0 ∨ p = 1) : fX12_term (K (moS (gM σ) (lmS (gB σ)))) (Int32.toInt64 (J (WT (gM σ)))) (J p) = some (K (frc (moS (gM σ) (lmS (gB σ))) (WT (gM σ)) p)) := by
  have hL := (lmS_is O.2.2.1).2
  have hw := WT_bd O.2.1
  have hw1 := hw.2 hop
  have hmo := moS_bd O.2.1 hL
  rw [J_l (by omega), tm_val (by omega) (by omega) hp]
theorem op23 : Op23 Inv := by
  rintro d ρ ⟨σ, O, R, C, M⟩ x1
  obtain ⟨p, hp, rfl⟩ := J_of x1
  have hkN := O.2.1.2.2.1
  by_cases hop : 0 < kN (gM σ)
  · have op1 : ¬ d_i d 3 3 = 0 := by rw [R.2.2.1.2, if_pos hop]; decide
    have op2 : ¬ d_i d 23 4 = 0 := by rw [M.2.1.2, j0, J_eq (by omega) (by omega)]; omega
    by_cases hp1 : p = 0 ∨ p = 1
    · refine ⟨_, bound_c R O hop hp1, ?_, ⟨σ, O, R, C, M⟩⟩
      unfold fX12_bound
      rw [if_neg op2, isPart_m hp, Option.bind_some, decide_eq_true hp1, if_pos rfl, boundOf_val (M.2.1.1 hop) M.2.2.1 O.2.1 O.2.2.1, Option.bind_some, allW_val (M.2.1.1 hop) O.2.1, Option.bind_some, bound_m M O hop hp1, Option.bind_some]
    · refine ⟨-1000000000000000002, ?_, ?_, ⟨σ, O, R, C, M⟩⟩
      · unfold fX11_bound
        rw [if_neg op1, isPart_c hp, Option.bind_some, decide_eq_false hp1, if_neg Bool.false_ne_true]
      · unfold fX12_bound
        rw [if_neg op2, isPart_m hp, Option.bind_some, decide_eq_false hp1, if_neg Bool.false_ne_true]
  · have n0 : kN (gM σ) = 0 := by omega
    have op1 : d_i d 3 3 = 0 := by rw [R.2.2.1.2, if_neg hop]; rfl
    have op2 : d_i d 23 4 = 0 := by rw [M.2.1.2, n0]; rfl
    refine ⟨-1000000000000000003, ?_, ?_, ⟨σ, O, R, C, M⟩⟩
    · unfold fX11_bound
      rw [if_pos op1]
    · unfold fX12_bound
      rw [if_pos op2]
