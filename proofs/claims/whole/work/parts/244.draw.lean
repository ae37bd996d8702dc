/-! draws -/
theorem K_bits {a : Int} (h : 0 ≤ a ∧ a < 9223372036854775808) : (K a).toBitVec.toNat = a.toNat := by
  unfold K
  rw [Int64.toBitVec_ofInt, BitVec.toNat_ofInt]
  omega
theorem K_and (y : Int64) (k : Nat) (hk : k < 63) : y &&& K ((2 ^ k - 1 : Nat) : Int) = K ((y.toBitVec.toNat % 2 ^ k : Nat) : Int) := by
  have h1 : (2 : Nat) ^ k < 2 ^ 63 := Nat.pow_lt_pow_right (by omega) hk
  have h0 : 0 < (2 : Nat) ^ k := Nat.pow_pos (by omega)
  have h2 : y.toBitVec.toNat % 2 ^ k < 2 ^ k := Nat.mod_lt _ h0
  apply Int64.toBitVec_inj.mp
  apply BitVec.eq_of_toNat_eq
  rw [Int64.toBitVec_and, BitVec.toNat_and, K_bits (by omega), K_bits (by omega), Int.toNat_natCast, Int.toNat_natCast, Nat.and_two_pow_sub_one_eq_mod]
def nx (s : Int) : Int := (1103515245 * s + 12345) % 2147483648
theorem nx_bd (s : Int) : 0 ≤ nx s ∧ nx s < 2147483648 := by unfold nx; omega
theorem tmod_pos {a b : Int} (h : 0 ≤ a) : a.tmod b = a % b := Int.tmod_eq_emod_of_nonneg h
theorem tdiv_pos {a b : Int} (h : 0 ≤ a) : a.tdiv b = a / b := Int.tdiv_eq_ediv_of_nonneg h
def dv (s : Int) (of : Int) : Int := nx s / 65536 % of
theorem dv_bd (s : Int) {of : Int} (h : 1 ≤ of) : 0 ≤ dv s of ∧ dv s of < of := by
  unfold dv
  exact ⟨Int.emod_nonneg _ (by omega), Int.emod_lt_of_pos _ (by omega)⟩
theorem draw_c {ρ : Rh} {d : Dd} {s of : Int} (hs : 0 ≤ s ∧ s < 2147483648) (h : d_l d 19 0 = K s) (ho : 1 ≤ of ∧ of ≤ 1000) : fX10_draw ρ d (J of) = some (J (dv s of), dL d 19 0 (K (nx s))) := by
  have hn := nx_bd s
  have c1 : (1 : Int32) ≤ J of := by rw [j1, J_le (by omega) (by omega)]; omega
  have c2 : ¬ K of = 0 := by rw [k0, K_eq (by omega) (by omega)]; omega
  have e : jlrem (1103515245 * d_l d 19 0 + 12345) 2147483648 = K (nx s) := by
    rw [h, show (1103515245 : Int64) = K 1103515245 from rfl, show (12345 : Int64) = K 12345 from rfl, show (2147483648 : Int64) = K 2147483648 from rfl, K_mul, K_add, K_rem (by omega) (by omega) (by omega), tmod_pos (by omega)]; rfl
  have hd := dv_bd s ho.1
  unfold fX10_draw
  rw [e, bnd_eq, if_pos c1, J_l (by omega), if_neg c2, dL_s, show (65536 : Int64) = K 65536 from rfl, K_div (by omega) (by omega) (by omega), tdiv_pos (by omega), K_rem (by omega) (by omega) (by omega), tmod_pos (by omega), K_i]; rfl
theorem draw_m {ρ : Rh} {d : Dd} {s of : Int} (hs : 0 ≤ s ∧ s < 2147483648) (h : d_i d 23 30 = J s) (ho : 1 ≤ of ∧ of ≤ 1000) : fX12_draw ρ d (J of) = some (J (dv s of), dI d 23 30 (J (nx s))) := by
  have hn := nx_bd s
  have c2 : ¬ J of = 0 := by rw [j0, J_eq (by omega) (by omega)]; omega
  have e : Int64.toInt32 ((1103515245 * Int32.toInt64 (d_i d 23 30) + 12345) &&& 2147483647) = J (nx s) := by
    have ha := K_and (K (1103515245 * s + 12345)) 31 (by omega)
    rw [K_bits (by omega)] at ha
    have hb : (2147483647 : Int64) = K ((2 ^ 31 - 1 : Nat) : Int) := rfl
    rw [h, J_l (by omega), show (1103515245 : Int64) = K 1103515245 from rfl, show (12345 : Int64) = K 12345 from rfl, K_mul, K_add, hb, ha, K_i]
    congr 1
    unfold nx
    omega
  unfold fX12_draw
  rw [e, bnd_eq, if_neg c2, dI_s, show (65536 : Int32) = J 65536 from rfl, J_div (by omega) (by omega) (by omega), tdiv_pos (by omega), J_rem (by omega) (by omega) (by omega), tmod_pos (by omega)]; rfl
noncomputable def dcs (μ : Mk) (x : Int) : Int := Classical.choose (FS_ex (fun c => x < sm (c + 1) (kW μ)) (kN μ))
theorem dcs_is (μ : Mk) (x : Int) : FS (fun c => x < sm (c + 1) (kW μ)) (kN μ) (dcs μ x) := Classical.choose_spec (FS_ex (fun c => x < sm (c + 1) (kW μ)) (kN μ))
theorem dcs_ex {μ : Mk} (hop : 0 < kN μ) {x : Int} (hx : x < WT μ) : ∃ c : Nat, c < kN μ ∧ dcs μ x = (c : Int) ∧ x < sm (c + 1) (kW μ) ∧ ∀ c', c' < c → ¬ x < sm (c' + 1) (kW μ) := by
  rcases dcs_is μ x with ⟨h1, h2⟩ | ⟨c, h1, h2, h3, h4⟩
  · refine absurd ?_ (h2 (kN μ - 1) (by omega))
    show x < sm (kN μ - 1 + 1) (kW μ)
    rw [show kN μ - 1 + 1 = kN μ by omega]; exact hx
  · exact ⟨c, h1, h2, h3, h4⟩
theorem smW_bd {μ : Mk} (h : mkOK μ) {c : Nat} (hc : c ≤ kN μ) : 0 ≤ sm c (kW μ) ∧ sm c (kW μ) ≤ 396 := by
  have hN := h.2.2.1
  have := sm_bd (n := c) (f := kW μ) (lo := 1) (hi := 99) (fun i hi => (h.2.2.2 i (by omega)).1)
  omega
theorem caseAt_val {ρ : Rh} {d : Dd} {o : Nat} {μ : Mk} (M : MktAt d o μ) (h : mkOK μ) (hop : 0 < kN μ) {x : Int} (hx : 0 ≤ x ∧ x < WT μ) : fX5_caseAt ρ d o (J x) = some (J (dcs μ x)) := by
  have hN := h.2.2.1
  have hw := WT_bd h
  obtain ⟨c0, hc0, e0, h1, h2⟩ := dcs_ex hop hx.2
  rw [e0]
  unfold fX5_caseAt
  refine lp_e (kN μ) (fun i y => y = (J (sm i (kW μ)), J (i : Int)) ∧ ∀ c', c' < i → ¬ x < sm (c' + 1) (kW μ)) (fun o => o = some (J (c0 : Int))) ?_ ?_ 6000 (by omega) _ ⟨rfl, fun c' hc' => absurd hc' (Nat.not_lt_zero c')⟩
  · rintro i hi y ⟨rfl, hno⟩ self
    have g1 : ¬ d_i d o 2 ≤ J (i : Int) := by rw [M.2.2.1, J_le (by omega) (by omega)]; omega
    have hb := smW_bd h (show i + 1 ≤ kN μ by omega)
    have cl : J (sm (i + 1) (kW μ)) ≤ J x ↔ sm (i + 1) (kW μ) ≤ x := J_le (by omega) (by omega)
    simp only [g1, if_false, weightOf_val M h hi, Option.bind_some, bnd_eq, J_add]
    have e : sm i (kW μ) + kW μ i = sm (i + 1) (kW μ) := rfl
    rw [e]
    by_cases q : x < sm (i + 1) (kW μ)
    · right
      rw [if_neg (fun z => by have := cl.mp z; omega)]
      have a : ¬ c0 < i := fun z => hno c0 z h1
      have b : ¬ i < c0 := fun z => h2 i z q
      rw [show i = c0 by omega]
    · left
      refine ⟨_, ⟨rfl, fun c' hc' => ?_⟩, ?_⟩
      · by_cases e2 : c' = i
        · subst e2; exact q
        · exact hno c' (by omega)
      · rw [if_pos (cl.mpr (by omega)), j1, J_add]; rfl
  · rintro y ⟨rfl, hno⟩ self
    exact absurd h1 (hno c0 hc0)
theorem drawCase_val {ρ : Rh} {d : Dd} {μ : Mk} (M : MdlAt d μ) (h : mkOK μ) (hop : 0 < kN μ) {s : Int} (hs : 0 ≤ s ∧ s < 2147483648) (h30 : d_i d 23 30 = J s) : fX12_drawCase ρ d = some (J (dcs μ (dv s (WT μ))), dI d 23 30 (J (nx s))) := by
  have hN := h.2.2.1
  have hw := WT_bd h
  have hw1 := hw.2 hop
  have hx := dv_bd s hw1
  obtain ⟨c0, hc0, e0, h1, h2⟩ := dcs_ex hop hx.2
  have hwv : ∀ c, c < kN μ → d_i (dI d 23 30 (J (nx s))) 25 c = J (kW μ c) := fun c hc => by rw [dI_o (by omega)]; exact (M.2.2.2 c hc).1
  rw [e0]
  unfold fX12_drawCase
  rw [allW_val M h, Option.bind_some, draw_m hs h30 (by omega), Option.bind_some]
  refine lp_e (kN μ) (fun i y => y = (J (dv s (WT μ) - sm i (kW μ)), J (i : Int)) ∧ ∀ c', c' < i → ¬ dv s (WT μ) < sm (c' + 1) (kW μ)) (fun o => o = some (J (c0 : Int), dI d 23 30 (J (nx s)))) ?_ ?_ 6000 (by omega) _ ⟨by show _ = (J (dv s (WT μ) - 0), _); rw [Int.sub_zero]; rfl, fun c' hc' => absurd hc' (Nat.not_lt_zero c')⟩
  · rintro i hi y ⟨rfl, hno⟩ self
    have hin : inB (J (i : Int)) 4 = true := by rw [inB_J (by omega)]; omega
    have hix : ix (J (i : Int)) = i := by rw [ix_J (by omega), Int.toNat_natCast]
    have hb0 := smW_bd h (show i ≤ kN μ by omega)
    have hb := smW_bd h (show i + 1 ≤ kN μ by omega)
    have hwb := (h.2.2.2 i hi).1
    have e : sm (i + 1) (kW μ) = sm i (kW μ) + kW μ i := rfl
    have cl : J (dv s (WT μ) - sm i (kW μ)) < J (kW μ i) ↔ dv s (WT μ) - sm i (kW μ) < kW μ i := J_lt (by omega) (by omega)
    simp only [hin, if_true, hix, hwv i hi, bnd_eq]
    by_cases q : dv s (WT μ) < sm (i + 1) (kW μ)
    · right
      rw [if_pos (cl.mpr (by omega))]
      have a : ¬ c0 < i := fun z => hno c0 z h1
      have b : ¬ i < c0 := fun z => h2 i z q
      rw [show i = c0 by omega]
    · left
      refine ⟨_, ⟨rfl, fun c' hc' => ?_⟩, ?_⟩
      · by_cases e2 : c' = i
        · subst e2; exact q
        · exact hno c' (by omega)
      · rw [if_neg (fun z => by have := cl.mp z; omega), J_sub, j1, J_add, e, Int.sub_sub]; rfl
  · rintro y ⟨rfl, hno⟩ self
    exact absurd h1 (hno c0 hc0)
theorem signOf_val {ρ : Rh} {d : Dd} {o : Nat} {ν : Nw} (N : NewAt d ρ o ν) (hn : nwOK ν) {c : Nat} (hc : c < 4) : fv_signOf ρ d o (J c) = some (J (hAs ν c)) := by
  obtain ⟨N1, N2, N3⟩ := N
  have hk := hn.1
  unfold fv_signOf
  rw [N3]
  rcases (show ν.1 = 0 ∨ ν.1 = 1 ∨ ν.1 = 2 ∨ ν.1 = 3 ∨ ν.1 = 4 by omega) with e | e | e | e | e
  · have : tgK ν.1 = 6 := by unfold tgK; simp [e]
    rw [this]
    show some (0 : Int32) = some (J (hAs ν c))
    unfold hAs; rw [if_pos e]; rfl
  · have : tgK ν.1 = 9 := by unfold tgK; simp [e]
    rw [this]
    show some (J c) = some (J (hAs ν c))
    unfold hAs; rw [if_neg (by omega), if_neg (by omega)]
  · have : tgK ν.1 = 8 := by unfold tgK; simp [e]
    rw [this]
    show fX8_signOf ρ d o (J c) = some (J (hAs ν c))
    unfold fX8_signOf
    rw [N2, hAs_part hn e (by omega)]
  · have : tgK ν.1 = 0 := by unfold tgK; simp [e]
    rw [this]
    show some (J c) = some (J (hAs ν c))
    unfold hAs; rw [if_neg (by omega), if_neg (by omega)]
  · have : tgK ν.1 = 4 := by unfold tgK; simp [e]
    rw [this]
    show some (J c) = some (J (hAs ν c))
    unfold hAs; rw [if_neg (by omega), if_neg (by omega)]
/-- behind the case's draw (the seed s) a case c: the seed then, and the sign -/
def hrdS (μ : Mk) (ν : Nw) (s : Int) (c : Nat) : Int × Int :=
  if ν.1 = 3 ∧ 2 ≤ kN μ then (if dv s 100 < ν.2 then (nx (nx s), if dv (nx s) ((kN μ : Int) - 1) < (c : Int) then dv (nx s) ((kN μ : Int) - 1) else dv (nx s) ((kN μ : Int) - 1) + 1) else (nx s, (c : Int))) else (s, hAs ν c)
theorem hrdS_1 {μ : Mk} {ν : Nw} {s : Int} {c : Nat} (h : ν.1 = 3 ∧ 2 ≤ kN μ) (h2 : dv s 100 < ν.2) : hrdS μ ν s c = (nx (nx s), if dv (nx s) ((kN μ : Int) - 1) < (c : Int) then dv (nx s) ((kN μ : Int) - 1) else dv (nx s) ((kN μ : Int) - 1) + 1) := by
  unfold hrdS; rw [if_pos h, if_pos h2]
theorem hrdS_2 {μ : Mk} {ν : Nw} {s : Int} {c : Nat} (h : ν.1 = 3 ∧ 2 ≤ kN μ) (h2 : ¬ dv s 100 < ν.2) : hrdS μ ν s c = (nx s, (c : Int)) := by
  unfold hrdS; rw [if_pos h, if_neg h2]
theorem hrdS_3 {μ : Mk} {ν : Nw} {s : Int} {c : Nat} (h : ¬ (ν.1 = 3 ∧ 2 ≤ kN μ)) : hrdS μ ν s c = (s, hAs ν c) := by
  unfold hrdS; rw [if_neg h]
theorem sm_nn {n : Nat} {f : Nat → Int} (h : ∀ i, i < n → 0 ≤ f i) : 0 ≤ sm n f := by
  induction n with
  | zero => exact Int.le_refl _
  | succ n ih =>
    have a := ih (fun i hi => h i (by omega))
    have b := h n (by omega)
    rw [sm_succ]; omega
theorem sm_pos {n : Nat} {f : Nat → Int} (h : ∀ i, i < n → 0 ≤ f i) {c : Nat} (hc : c < n) (hp : 0 < f c) : 0 < sm n f := by
  induction n with
  | zero => omega
  | succ n ih =>
    have a := sm_nn (n := n) (f := f) (fun i hi => h i (by omega))
    have b := h n (by omega)
    rw [sm_succ]
    by_cases e : c = n
    · subst e; omega
    · have := ih (fun i hi => h i (by omega)) (by omega)
      omega
theorem sm_zero {n : Nat} {f : Nat → Int} (h : ∀ i, i < n → 0 ≤ f i) (h0 : sm n f = 0) : ∀ i, i < n → f i = 0 := fun i hi => by
  have a := h i hi
  have b : ¬ 0 < f i := fun q => by have := sm_pos h hi q; omega
  omega
/-- a sign that comes of a case may be heard -/
theorem WS_heard {μ : Mk} {ν : Nw} (h : mkOK μ) (hn : nwOK ν) {c s : Nat} (hc : c < kN μ) (hp : 0 < shr μ ν c s) : ¬ WS μ ν s = 0 := by
  have := sm_pos (n := kN μ) (f := fun c => kW μ c * shr μ ν c s) (fun i hi => Int.mul_nonneg (by have := (h.2.2.2 i hi).1; omega) (shr_bd h hn i (by omega)).1) hc (Int.mul_pos (by have := (h.2.2.2 c hc).1; omega) hp)
  unfold WS
  omega
theorem hrdS_is {μ : Mk} {ν : Nw} (h : mkOK μ) (hn : nwOK ν) {s : Int} (hs : 0 ≤ s ∧ s < 2147483648) {c : Nat} (hc : c < kN μ) : (0 ≤ (hrdS μ ν s c).1 ∧ (hrdS μ ν s c).1 < 2147483648) ∧ ∃ g : Nat, g < 4 ∧ (hrdS μ ν s c).2 = (g : Int) ∧ ¬ WS μ ν g = 0 := by
  have hN := h.2.2.1
  have ho := oth_bd μ h
  have n1 := nx_bd s
  have n2 := nx_bd (nx s)
  by_cases q : ν.1 = 3 ∧ 2 ≤ kN μ
  · have hp : ∀ t : Nat, shr μ ν c t = if (t : Int) = c then (100 - ν.2) * oth μ else if (t : Int) < kN μ then ν.2 else 0 := fun t => by unfold shr; rw [if_pos q]
    have d1 := dv_bd s (show (1 : Int) ≤ 100 by omega)
    have d2 := dv_bd (nx s) (show (1 : Int) ≤ (kN μ : Int) - 1 by omega)
    by_cases w : dv s 100 < ν.2
    · rw [hrdS_1 q w]
      refine ⟨n2, ?_⟩
      obtain ⟨g, hg, hgc, hg4⟩ : ∃ g : Nat, (if dv (nx s) ((kN μ : Int) - 1) < (c : Int) then dv (nx s) ((kN μ : Int) - 1) else dv (nx s) ((kN μ : Int) - 1) + 1) = (g : Int) ∧ ¬ (g : Int) = c ∧ (g : Int) < kN μ := by
        by_cases y : dv (nx s) ((kN μ : Int) - 1) < (c : Int)
        · exact ⟨(dv (nx s) ((kN μ : Int) - 1)).toNat, by rw [if_pos y]; omega, by omega, by omega⟩
        · exact ⟨(dv (nx s) ((kN μ : Int) - 1) + 1).toNat, by rw [if_neg y]; omega, by omega, by omega⟩
      refine ⟨g, by omega, hg, WS_heard h hn hc ?_⟩
      rw [hp g, if_neg hgc, if_pos hg4]; omega
    · rw [hrdS_2 q w]
      refine ⟨n1, c, by omega, rfl, WS_heard h hn hc ?_⟩
      rw [hp c, if_pos rfl]
      exact Int.mul_pos (by omega) (by omega)
  · rw [hrdS_3 q]
    have hb := hAs_bd (ν := ν) (show c < 4 by omega)
    refine ⟨hs, (hAs ν c).toNat, by omega, by omega, WS_heard h hn hc ?_⟩
    unfold shr
    rw [if_neg q, if_pos (by omega)]
    omega
theorem hears_c {ρ : Rh} {d : Dd} {o : Nat} {μ : Mk} {ν : Nw} (N : NewAt d ρ o ν) (h : mkOK μ) (hn : nwOK ν) (hop : 0 < kN μ) {s : Int} (hs : 0 ≤ s ∧ s < 2147483648) (h19 : d_l d 19 0 = K s) (h35 : 35 ≤ o) {c : Nat} (hc : c < kN μ) : ∃ d', fv_hears ρ d o (J c) (J (kN μ)) = some (J (hrdS μ ν s c).2, d') ∧ d_l d' 19 0 = K (hrdS μ ν s c).1 ∧ Fr (fun o _ => o = 19) d d' := by
  have hN := h.2.2.1
  have n1 := nx_bd s
  obtain ⟨N1, N2, N3⟩ := id N
  unfold fv_hears
  rw [N3]
  by_cases k3 : ν.1 = 3
  · have ht : tgK ν.1 = 0 := by unfold tgK; simp [k3]
    rw [if_pos ht]
    unfold fX0_hears
    have c2 : J (kN μ : Int) < 2 ↔ (kN μ : Int) < 2 := by rw [j2]; exact J_lt (by omega) (by omega)
    by_cases q : 2 ≤ kN μ
    · have d1 := dv_bd s (show (1 : Int) ≤ 100 by omega)
      have hb := hn.2.1
      rw [if_neg (fun z => by have := c2.mp z; omega), j100, draw_c hs h19 (by omega), Option.bind_some]
      have e1 : d_i (dL d 19 0 (K (nx s))) o 1 = J ν.2 := N2
      have cl : J (dv s 100) < J ν.2 ↔ dv s 100 < ν.2 := J_lt (by omega) (by omega)
      rw [e1]
      by_cases w : dv s 100 < ν.2
      · have d2 := dv_bd (nx s) (show (1 : Int) ≤ (kN μ : Int) - 1 by omega)
        rw [if_pos (cl.mpr w), hrdS_1 ⟨k3, q⟩ w, j1, J_sub, draw_c n1 dL_s (by omega), Option.bind_some]
        have cc : J (c : Int) ≤ J (dv (nx s) ((kN μ : Int) - 1)) ↔ (c : Int) ≤ dv (nx s) ((kN μ : Int) - 1) := J_le (by omega) (by omega)
        refine ⟨dL (dL d 19 0 (K (nx s))) 19 0 (K (nx (nx s))), ?_, dL_s, Fr.l (P := fun o _ => o = 19) rfl (Fr.l (P := fun o _ => o = 19) rfl Fr.rf)⟩
        by_cases y : dv (nx s) ((kN μ : Int) - 1) < (c : Int)
        · rw [if_neg (fun z => by have := cc.mp z; omega), if_pos y]
        · rw [if_pos (cc.mpr (by omega)), if_neg y, J_add]
      · rw [if_neg (fun z => w (cl.mp z)), hrdS_2 ⟨k3, q⟩ w]
        exact ⟨_, rfl, dL_s, Fr.l (P := fun o _ => o = 19) rfl Fr.rf⟩
    · have e : hAs ν c = c := by
        unfold hAs
        rw [if_neg (by omega), if_neg (by omega)]
      rw [if_pos (c2.mpr (by omega)), hrdS_3 (fun z => q z.2), e]
      exact ⟨d, rfl, h19, Fr.rf⟩
  · have ht : ¬ tgK ν.1 = 0 := by
      have hk := hn.1
      unfold tgK; (repeat' split) <;> first | decide | omega
    rw [if_neg ht]
    unfold fX6_hears
    rw [signOf_val N hn (show c < 4 by omega), hrdS_3 (fun z => k3 z.1)]
    exact ⟨d, rfl, h19, Fr.rf⟩
theorem drawSign_val {ρ : Rh} {d : Dd} {k : Nat} {μ : Mk} {ν : Nw} (M : MdlAt d μ) (N : MdlN d k ν) (h : mkOK μ) (hn : nwOK ν) (hop : 0 < kN μ) {s : Int} (hs : 0 ≤ s ∧ s < 2147483648) (h30 : d_i d 23 30 = J s) {c : Nat} (hc : c < kN μ) (hdc : dcs μ (dv s (WT μ)) = (c : Int)) : ∃ d', fX12_drawSign ρ d (J k) = some (J (hrdS μ ν (nx s) c).2, d') ∧ d_i d' 23 30 = J (hrdS μ ν (nx s) c).1 ∧ Fr (fun o k => o = 23 ∧ k = 30) d d' := by
  have hN := h.2.2.1
  have n0 := nx_bd s
  have n1 := nx_bd (nx s)
  have hk8 := N.1
  have hb := hn.2.1
  have hkk := hn.1
  have hin : inB (J (k : Int)) 8 = true := by rw [inB_J (by omega)]; omega
  have hix : ix (J (k : Int)) = k := by rw [ix_J (by omega), Int.toNat_natCast]
  have e31 : ∀ v, d_i (dI d 23 30 v) 31 k = J ν.1 := fun v => by rw [dI_o (by omega)]; exact N.2.1
  have e32 : ∀ v, d_i (dI d 23 30 v) 32 k = J ν.2 := fun v => by rw [dI_o (by omega)]; exact N.2.2
  have e32' : ∀ v w, d_i (dI (dI d 23 30 v) 23 30 w) 32 k = J ν.2 := fun v w => by rw [dI_o (by omega), dI_o (by omega)]; exact N.2.2
  have e4 : ∀ v, d_i (dI d 23 30 v) 23 4 = J (kN μ) := fun v => by rw [dI_o (by omega)]; exact M.2.2.1
  have e4' : ∀ v w, d_i (dI (dI d 23 30 v) 23 30 w) 23 4 = J (kN μ) := fun v w => by rw [dI_o (by omega), dI_o (by omega)]; exact M.2.2.1
  have c3 : J ν.1 = 3 ↔ ν.1 = 3 := by rw [j3]; exact J_eq (by omega) (by omega)
  have c0 : J ν.1 = 0 ↔ ν.1 = 0 := by rw [j0]; exact J_eq (by omega) (by omega)
  have c2 : J ν.1 = 2 ↔ ν.1 = 2 := by rw [j2]; exact J_eq (by omega) (by omega)
  have cN : J (kN μ : Int) ≤ 1 ↔ (kN μ : Int) ≤ 1 := by rw [j1]; exact J_le (by omega) (by omega)
  have f1 : Fr (fun o k => o = 23 ∧ k = 30) d (dI d 23 30 (J (nx s))) := Fr.rf.i ⟨rfl, rfl⟩
  have hsg : ¬ (ν.1 = 3 ∧ 2 ≤ kN μ) → (if J ν.1 = 0 then some ((0 : Int32), dI d 23 30 (J (nx s))) else (if J ν.1 = 2 then some (((jshr (J ν.2) (2 * J (c : Int))) &&& 3), dI d 23 30 (J (nx s))) else some (J (c : Int), dI d 23 30 (J (nx s))))) = some (J (hrdS μ ν (nx s) c).2, dI d 23 30 (J (nx s))) ∧ (hrdS μ ν (nx s) c).1 = nx s := by
    intro q
    rw [hrdS_3 q]
    refine ⟨?_, rfl⟩
    by_cases k0 : ν.1 = 0
    · have e : hAs ν c = 0 := by unfold hAs; rw [if_pos k0]
      rw [if_pos (c0.mpr k0), e]; rfl
    · by_cases k2 : ν.1 = 2
      · rw [if_neg (fun z => k0 (c0.mp z)), if_pos (c2.mpr k2), hAs_part hn k2 (by omega)]
      · have e : hAs ν c = c := by unfold hAs; rw [if_neg k0, if_neg k2]
        rw [if_neg (fun z => k0 (c0.mp z)), if_neg (fun z => k2 (c2.mp z)), e]
  unfold fX12_drawSign
  rw [drawCase_val M h hop hs h30, hdc, Option.bind_some]
  simp only [hin, if_true, hix, jn_eq, e31, e32, e4]
  by_cases k3 : ν.1 = 3
  · rw [if_pos (c3.mpr k3)]
    by_cases q : 2 ≤ kN μ
    · have d1 := dv_bd (nx s) (show (1 : Int) ≤ 100 by omega)
      have cl : J ν.2 ≤ J (dv (nx s) 100) ↔ ν.2 ≤ dv (nx s) 100 := J_le (by omega) (by omega)
      rw [if_neg (fun z => by have := cN.mp z; omega), j100, draw_m n0 dI_s (by omega), Option.bind_some]
      simp only [e32', e4']
      by_cases w : dv (nx s) 100 < ν.2
      · have d2 := dv_bd (nx (nx s)) (show (1 : Int) ≤ (kN μ : Int) - 1 by omega)
        rw [if_neg (fun z => by have := cl.mp z; omega), hrdS_1 ⟨k3, q⟩ w, j1, J_sub, draw_m n1 dI_s (by omega), Option.bind_some]
        have cc : J (c : Int) ≤ J (dv (nx (nx s)) ((kN μ : Int) - 1)) ↔ (c : Int) ≤ dv (nx (nx s)) ((kN μ : Int) - 1) := J_le (by omega) (by omega)
        refine ⟨dI (dI (dI d 23 30 (J (nx s))) 23 30 (J (nx (nx s)))) 23 30 (J (nx (nx (nx s)))), ?_, dI_s, ((Fr.rf.i ⟨rfl, rfl⟩).i ⟨rfl, rfl⟩).i ⟨rfl, rfl⟩⟩
        by_cases y : dv (nx (nx s)) ((kN μ : Int) - 1) < (c : Int)
        · rw [if_neg (fun z => by have := cc.mp z; omega), if_pos y]
        · rw [if_pos (cc.mpr (by omega)), if_neg y, J_add]
      · rw [if_pos (cl.mpr (by omega)), hrdS_2 ⟨k3, q⟩ w]
        exact ⟨_, rfl, dI_s, (Fr.rf.i ⟨rfl, rfl⟩).i ⟨rfl, rfl⟩⟩
    · have hq := hsg (fun z => q z.2)
      rw [if_pos (cN.mpr (by omega)), hq.2]
      exact ⟨_, hq.1, dI_s, f1⟩
  · have hq := hsg (fun z => k3 z.1)
    rw [if_neg (fun z => k3 (c3.mp z)), hq.2]
    exact ⟨_, hq.1, dI_s, f1⟩
