/-! makes -/
def canD (β : By) (z : Int) : Prop := 0 ≤ z ∧ z.toNat < 7 ^ bN β ∧ inBox β (2 ^ bN β - 1) z.toNat
theorem lm_all {β : By} {b : Nat} (hb : b < bN β) : lm β (2 ^ bN β - 1) b = bL β b := by
  unfold lm
  rw [if_pos ⟨hb, by rw [Nat.testBit_two_pow_sub_one]; exact decide_eq_true hb⟩]
theorem ab_le {x l : Int} : ab x ≤ l ↔ -l ≤ x ∧ x ≤ l := by
  unfold ab; split <;> omega
theorem absI_val {x : Int} (h : -1000 ≤ x ∧ x ≤ 1000) : jabsI (J x) = J (ab x) := by
  unfold jabsI ab
  have c : (0 : Int32) ≤ J x ↔ 0 ≤ x := by rw [j0]; exact J_le (by omega) (by omega)
  by_cases q : 0 ≤ x
  · rw [if_pos (c.mpr q), if_pos q]
  · rw [if_neg (fun z => q (c.mp z)), if_neg q, j0, J_sub]; congr 1; omega
theorem st_pos {q z i : Nat} (hz : (z : Int) < 2147483648) (hq : q = z / 7 ^ i) : jrem (J (q : Int)) 7 - 3 = J (st z i) ∧ J (q : Int) / 7 = J ((z / 7 ^ (i + 1) : Nat) : Int) := by
  have hle : q ≤ z := by rw [hq]; exact Nat.div_le_self _ _
  constructor
  · rw [j7, J_rem (by omega) (by omega) (by omega), show ((q : Nat) : Int).tmod 7 = ((q % 7 : Nat) : Int) from tmod_nat _ 7, j3, J_sub, hq]; rfl
  · have e : z / 7 ^ (i + 1) = q / 7 := by rw [hq, Nat.pow_succ, Nat.div_div_eq_div_mul]
    rw [j7, J_div (by omega) (by omega) (by omega), Int.tdiv_eq_ediv_of_nonneg (by omega), e]
    congr 1
theorem take_m {ρ : Rh} {d : Dd} {σ : Sg} (M : RM d σ) (O : sgOK σ) (hop : 0 < kN (gM σ)) {k : Nat} (hk : k < gN σ) {s : Int} (hs : 0 ≤ s ∧ s < 4) : ∃ d', fX12_take ρ d (J k) (J s) = some d' ∧ Fr MS d d' ∧ d_l d' 23 22 = K (WS (gM σ) (gV σ k) s) ∧ MdlB d' (gB σ) ∧ MdlD d' (hgS (gM σ) (gV σ k) s) :=
  ⟨_, mtake_val (M.2.1.1 hop) (M.2.2.2.1.2 k hk) O.2.1 (O.2.2.2.1.2 k hk) hs, fr_tk (fun k h1 h2 => Or.inl ⟨rfl, Or.inr (Or.inl ⟨h1, h2⟩)⟩) Fr.rf, dL_s, M.2.2.1.tk _ _, tk_D (M.2.1.1 hop) (O.2.2.2.1.2 k hk) s⟩
theorem canDeal_val {ρ : Rh} {d : Dd} {β : By} (B : BuyAt d β) (hβ : byOK β) {z : Int} (hz : -2147483648 ≤ z ∧ z < 2147483648) : ∃ r, fX1_canDeal ρ d (J z) = some r ∧ (r = true ↔ canD β z) := by
  have hN := hβ.1
  unfold fX1_canDeal
  have c : (0 : Int32) ≤ J z ↔ 0 ≤ z := by rw [j0]; exact J_le (by omega) (by omega)
  by_cases q : 0 ≤ z
  · rw [if_pos (c.mpr q)]
    obtain ⟨n, rfl⟩ : ∃ n : Nat, z = (n : Int) := ⟨z.toNat, by omega⟩
    refine lp_e (bN β) (fun i s => s = (J ((n / 7 ^ i : Nat) : Int), J (i : Int)) ∧ ∀ b, b < i → -bL β b ≤ st n b ∧ st n b ≤ bL β b) (fun o => ∃ r, o = some r ∧ (r = true ↔ canD β n)) ?_ ?_ 6000 (by omega) _ ⟨by rw [Nat.pow_zero, Nat.div_one]; rfl, fun b hb => absurd hb (Nat.not_lt_zero b)⟩
    · rintro i hi s ⟨rfl, hno⟩ self
      have h1 : ¬ d_i d 15 2 ≤ J (i : Int) := by rw [B.1, J_le (by omega) (by omega)]; omega
      obtain ⟨e1, e2⟩ := st_pos (q := n / 7 ^ i) (z := n) (i := i) hz.2 rfl
      have hs := st_bd n i
      have hl := (hβ.2 i hi).1
      have el : lim β i = bL β i := by unfold lim; rw [if_pos hi]
      have ha : 0 ≤ ab (st n i) ∧ ab (st n i) ≤ 3 := by unfold ab; split <;> omega
      have cl : J (ab (st n i)) ≤ J (bL β i) ↔ ab (st n i) ≤ bL β i := J_le (by omega) (by omega)
      simp only [h1, if_false, limitOf_val B hβ (show i < 4 by omega), Option.bind_some, el, e1, e2, absI_val (show -1000 ≤ st n i ∧ st n i ≤ 1000 by omega), bnd_eq]
      by_cases w : ab (st n i) ≤ bL β i
      · refine Or.inl ⟨_, ⟨rfl, fun b hb => ?_⟩, ?_⟩
        · by_cases e : b = i
          · subst e; exact ab_le.mp w
          · exact hno b (by omega)
        · rw [if_pos (cl.mpr w), j1, J_add]; rfl
      · right
        rw [if_neg (fun y => w (cl.mp y))]
        refine ⟨false, rfl, fun y => by simp at y, fun y => absurd ?_ w⟩
        have := y.2.2 i hi
        rw [lm_all hi, Int.toNat_natCast] at this
        exact ab_le.mpr this
    · rintro s ⟨rfl, hno⟩ self
      have h1 : d_i d 15 2 ≤ J (bN β : Int) := by rw [B.1, J_le (by omega) (by omega)]; omega
      have hle : n / 7 ^ bN β ≤ n := Nat.div_le_self _ _
      have c0' : ∀ q : Nat, q ≤ n → (J (q : Int) = 0 ↔ q = 0) := fun q h => by rw [j0, J_eq (by omega) (by omega)]; omega
      have c0 := c0' _ hle
      have c7 : n / 7 ^ bN β = 0 ↔ n < 7 ^ bN β := Nat.div_eq_zero_iff_lt (Nat.pow_pos (by omega))
      have hbox : inBox β (2 ^ bN β - 1) n := fun b hb => by rw [lm_all hb]; exact hno b hb
      simp only [h1, if_true]
      by_cases w : n < 7 ^ bN β
      · rw [if_pos (c0.mpr (c7.mpr w))]
        exact ⟨true, rfl, fun _ => ⟨by omega, by rw [Int.toNat_natCast]; exact w, by rw [Int.toNat_natCast]; exact hbox⟩, fun _ => rfl⟩
      · rw [if_neg (fun y => w (c7.mp (c0.mp y)))]
        refine ⟨false, rfl, fun y => by simp at y, fun y => absurd y.2.1 (by rw [Int.toNat_natCast]; exact w)⟩
  · rw [if_neg (fun y => q (c.mp y))]
    exact ⟨false, rfl, fun y => by simp at y, fun y => absurd y.1 q⟩
theorem isDealt_val {ρ : Rh} {d : Dd} {β : By} (B : MdlB d β) (hβ : byOK β) {z : Int} (hz : -2147483648 ≤ z ∧ z < 2147483648) : ∃ r, fX12_isDealt ρ d (J z) = some r ∧ (r = true ↔ canD β z) := by
  have hN := hβ.1
  have h7 := seven_le hN
  have h2 := two_le hN
  have h70 : (0 : Int) ≤ ((7 ^ bN β : Nat) : Int) := Int.natCast_nonneg _
  unfold fX12_isDealt
  rw [dealings_val B hβ, Option.bind_some, j1, J_sub, J_l (by omega), J_l (by omega), k0, in_val (by omega) (by omega) (by omega), Option.bind_some]
  by_cases q : 0 ≤ z ∧ z ≤ ((7 ^ bN β : Nat) : Int) - 1
  · obtain ⟨n, rfl⟩ : ∃ n : Nat, z = (n : Int) := ⟨z.toNat, by omega⟩
    have hs : (jshl (J 1) (d_i d 23 15) - J 1) = J ((2 ^ bN β - 1 : Nat) : Int) := by
      have := shl_val _ hN
      rw [B.1]
      refine this.trans ?_
      congr 1; omega
    obtain ⟨r, e, hr⟩ := isOf_val (ρ := ρ) (z := n) (set := 2 ^ bN β - 1) B hβ (by omega) (by omega)
    rw [decide_eq_true q, if_pos rfl, hs, e, Option.bind_some]
    have key : r = true ↔ canD β (n : Int) := by
      rw [hr]
      unfold canD
      rw [Int.toNat_natCast]
      exact ⟨fun y => ⟨by omega, by omega, y⟩, fun y => y.2.2⟩
    cases r
    · exact ⟨false, rfl, key⟩
    · exact ⟨true, rfl, key⟩
  · rw [decide_eq_false q, if_neg Bool.false_ne_true]
    exact ⟨false, rfl, fun y => by simp at y, fun y => absurd (show 0 ≤ z ∧ z ≤ ((7 ^ bN β : Nat) : Int) - 1 by have := y.1; have := y.2.1; omega) q⟩
theorem if3b {γ : Type} (A C : Prop) [Decidable A] [Decidable C] (r : Bool) (k : Bool → γ) : (if decide A = true then (if r = true then (if decide C = true then k true else k false) else k false) else k false) = k (decide (A ∧ r = true ∧ C)) := by
  by_cases hA : A <;> by_cases hC : C <;> cases r <;> simp [hA, hC]
theorem op12 : Op12 Inv := by
  rintro d ρ ⟨σ, O, R, C, M⟩ x1 x2 x3 x4 x5
  obtain ⟨a, ha, rfl⟩ := J_of x1
  obtain ⟨s, hs, rfl⟩ := J_of x2
  obtain ⟨z0, hz0, rfl⟩ := J_of x3
  obtain ⟨b, hb, rfl⟩ := J_of x4
  obtain ⟨p, hp, rfl⟩ := J_of x5
  have hβ := O.2.2.1
  have B := R.2.2.2.1
  have hN := hβ.1
  have h2N := two_le hN
  have hk8 := O.2.2.2.1.1
  obtain ⟨r, hr, hrc⟩ := canDeal_val (ρ := ρ) B hβ hz0
  rcases rfs_cases σ a (decide (0 ≤ b ∧ b < (bN (gB σ) : Int))) (decide ((0 ≤ s ∧ s < 4) ∧ r = true ∧ (p = 0 ∨ p = 1))) with ⟨h0, ha0, ha1, hop, hnm, hins⟩ | hbad
  · have hb4 := of_decide_eq_true hnm
    obtain ⟨hs4, hrt, hp1⟩ := of_decide_eq_true hins
    have hz : J (rfs σ a (decide (0 ≤ b ∧ b < (bN (gB σ) : Int))) (decide ((0 ≤ s ∧ s < 4) ∧ r = true ∧ (p = 0 ∨ p = 1)))) = 0 := by rw [h0]; rfl
    obtain ⟨k, rfl⟩ : ∃ k : Nat, a = (k : Int) := ⟨a.toNat, by omega⟩
    obtain ⟨i, rfl⟩ : ∃ k : Nat, b = (k : Int) := ⟨b.toNat, by omega⟩
    have hcan := hrc.mp hrt
    obtain ⟨z, rfl⟩ : ∃ k : Nat, z0 = (k : Int) := ⟨z0.toNat, by have := hcan.1; omega⟩
    have hz7 : z < 7 ^ bN (gB σ) := by have := hcan.2.1; rw [Int.toNat_natCast] at this; exact this
    have h7 := seven_le hN
    have hk : k < gN σ := by omega
    have hi : i < bN (gB σ) := by omega
    have hν := O.2.2.2.1.2 k hk
    have hη := hgS_ok O.2.1 hν hs4
    have hED := EH_dvd (μ := gM σ) hν s
    have htk := take_val (ρ := ρ) (R.2.2.1.1 hop) (R.2.2.2.2.1.2.2 k hk) O.2.1 hν (by omega) hs4
    have hwb := (hear_m (ρ := ρ) M O hop hk hs4).2.2
    have hnv := never_val (ρ := ρ) (d := d) (v := VS (gM σ) (gV σ k) s) (e := ES (gM σ) (gV σ k) s) (show -200000 ≤ WS (gM σ) (gV σ k) s ∧ WS (gM σ) (gV σ k) s ≤ 200000 by omega)
    have hnw := newsAt_in R O hk
    have ck : K (WS (gM σ) (gV σ k) s) = 0 ↔ WS (gM σ) (gV σ k) s = 0 := by rw [k0]; exact K_eq (by omega) (by omega)
    by_cases hW : WS (gM σ) (gV σ k) s = 0
    · have f1 : Fr HS d (hr3 d (WS (gM σ) (gV σ k) s) (VS (gM σ) (gV σ k) s) (ES (gM σ) (gV σ k) s)) := Fr.rf.hr (fun _ => by unfold HS; omega)
      have M1 := M.frC f1.cs
      obtain ⟨d2, mt, fmt, h22, -, -⟩ := take_m (ρ := ρ) M1 O hop hk hs4
      refine ⟨-1000000000000000004, _, d2, ?_, ?_, inv_cm O R M (C.hs f1) f1.cs fmt, f1.cs.cs2⟩
      · unfold fX11_makes
        rw [isSign_c hs, Option.bind_some]
        refine (jn_b _ _ (decide ((0 ≤ s ∧ s < 4) ∧ r = true ∧ (p = 0 ∨ p = 1))) (fun k => ?_)).trans ?_
        · simp only [hr, isPart_c hp, jn_eq, Option.bind_some]; exact if3b _ _ r k
        rw [has_c B hβ hb, Option.bind_some]
        rw [refusal_c R O ha, Option.bind_some, if_pos hz, hnw, Option.bind_some, htk, Option.bind_some, hnv, Option.bind_some, decide_eq_true hW, if_pos rfl]
      · unfold fX12_makes
        obtain ⟨r', e', hr'⟩ := isDealt_val (ρ := ρ) M1.2.2.1 hβ hz0
        have er : r' = r := by rw [Bool.eq_iff_iff, hr', hrc]
        rw [er] at e'
        refine (early_m M1 O ha hb _ _ (fun hx => ?_)).trans ?_
        · rw [isBuyer_m M1.2.2.1 hβ hb, Option.bind_some, isSign_m hs, Option.bind_some]
          refine (jn_b _ _ (decide ((0 ≤ s ∧ s < 4) ∧ r = true ∧ (p = 0 ∨ p = 1))) (fun k => ?_)).trans ?_
          · simp only [e', isPart_m hp, jn_eq, Option.bind_some]; exact if3b _ _ r k
          rw [refusal_m M1 O ha, Option.bind_some, rfs_101 hx]; rfl
        rw [isBuyer_m M1.2.2.1 hβ hb, Option.bind_some, isSign_m hs, Option.bind_some]
        refine (jn_b _ _ (decide ((0 ≤ s ∧ s < 4) ∧ r = true ∧ (p = 0 ∨ p = 1))) (fun k => ?_)).trans ?_
        · simp only [e', isPart_m hp, jn_eq, Option.bind_some]; exact if3b _ _ r k
        rw [refusal_m M1 O ha, Option.bind_some, if_pos hz, mt, Option.bind_some, h22, if_pos (ck.mpr hW)]
    · have f1 : Fr HS d (bg (hr3 d (WS (gM σ) (gV σ k) s) (VS (gM σ) (gV σ k) s) (ES (gM σ) (gV σ k) s)) (WS (gM σ) (gV σ k) s) (ES (gM σ) (gV σ k) s) (kS (gM σ)) 0) := bg_fr Fr.rf
      have R1 := R.fr f1.cs
      have D1 : DealAt (bg (hr3 d (WS (gM σ) (gV σ k) s) (VS (gM σ) (gV σ k) s) (ES (gM σ) (gV σ k) s)) (WS (gM σ) (gV σ k) s) (ES (gM σ) (gV σ k) s) (kS (gM σ)) 0) (WS (gM σ) (gV σ k) s, ES (gM σ) (gV σ k) s, kS (gM σ)) 0 := bg_D
      have hdl := deal_val (ρ := ρ) R1.2.2.2.1 R1.1.1 hβ (show z < 2401 by omega)
      have f2 := f1.sv (x := xs (gB σ) z) (T := TT (gB σ) z) ⟨fun _ => (by unfold HS; omega), (by unfold HS; omega)⟩
      have R2 := R.fr f2.cs
      have M2 := M.frC f2.cs
      have hst := st_bd z i
      have hTT := TT_bd hβ z
      have exs : xs (gB σ) z i = st z i := by unfold xs; rw [if_pos hi]
      have efe : fee (gB σ) i = bF (gB σ) i := by unfold fee; rw [if_pos hi]
      have hgn := gain_val (ρ := ρ) (D1.sv (xs (gB σ) z) (TT (gB σ) z)) R2.2.2.2.1 hη hβ (show i < 4 by omega) (x := st z i) (T := TT (gB σ) z) (e := 0) (by rw [sv_s (by omega), exs]) sv_t (by omega) (by omega) (by omega)
      rw [Int.add_zero, Int.add_zero, efe] at hgn
      have hfe := (hβ.2 i hi).2
      have hgb : -5000000000 ≤ gn (WS (gM σ) (gV σ k) s) (ES (gM σ) (gV σ k) s) (kS (gM σ)) (bF (gB σ) i) (st z i) (TT (gB σ) z) ∧ gn (WS (gM σ) (gV σ k) s) (ES (gM σ) (gV σ k) s) (kS (gM σ)) (bF (gB σ) i) (st z i) (TT (gB σ) z) ≤ 5000000000 := (gn_bd hη.1 hη.2.1 hη.2.2 (f := bF (gB σ) i) (x := st z i) (T := TT (gB σ) z) (by omega) (by omega) (by omega)).2.2.2.2.2.2
      have hsl : d_i (hr3 d (WS (gM σ) (gV σ k) s) (VS (gM σ) (gV σ k) s) (ES (gM σ) (gV σ k) s)) ρ.1 1 = J (kS (gM σ)) := (hr3_i _ _ _ _ _ _).trans (R.2.2.1.1 hop).2.1
      have h16 : d_l (sv (bg (hr3 d (WS (gM σ) (gV σ k) s) (VS (gM σ) (gV σ k) s) (ES (gM σ) (gV σ k) s)) (WS (gM σ) (gV σ k) s) (ES (gM σ) (gV σ k) s) (kS (gM σ)) 0) (xs (gB σ) z) (TT (gB σ) z)) 13 0 = K (WS (gM σ) (gV σ k) s) := (sv_l 13 0).trans bg_16
      obtain ⟨d4, mt, fmt, h22, hMb, hMd⟩ := take_m (ρ := ρ) M2 O hop hk hs4
      have hm := made_val (ρ := ρ) hMb hMd hβ hη hi (x := st z i) (T := TT (gB σ) z) (by omega) (by omega)
      have hj0 : (0 : Int32) = J ((0 : Nat) : Int) := rfl
      refine ⟨K (frc (gn (WS (gM σ) (gV σ k) s) (ES (gM σ) (gV σ k) s) (kS (gM σ)) (bF (gB σ) i) (st z i) (TT (gB σ) z)) (WS (gM σ) (gV σ k) s) p), _, d4, ?_, ?_, inv_cm O R M (C.hs f2) f2.cs fmt, f2.cs.cs2⟩
      · unfold fX11_makes
        rw [isSign_c hs, Option.bind_some]
        refine (jn_b _ _ (decide ((0 ≤ s ∧ s < 4) ∧ r = true ∧ (p = 0 ∨ p = 1))) (fun k => ?_)).trans ?_
        · simp only [hr, isPart_c hp, jn_eq, Option.bind_some]; exact if3b _ _ r k
        rw [has_c B hβ hb, Option.bind_some]
        have hmb : fX2_madeBy ρ (bg (hr3 d (WS (gM σ) (gV σ k) s) (VS (gM σ) (gV σ k) s) (ES (gM σ) (gV σ k) s)) (WS (gM σ) (gV σ k) s) (ES (gM σ) (gV σ k) s) (kS (gM σ)) 0) (J (z : Int)) (J (i : Int)) = some (K (gn (WS (gM σ) (gV σ k) s) (ES (gM σ) (gV σ k) s) (kS (gM σ)) (bF (gB σ) i) (st z i) (TT (gB σ) z)), sv (bg (hr3 d (WS (gM σ) (gV σ k) s) (VS (gM σ) (gV σ k) s) (ES (gM σ) (gV σ k) s)) (WS (gM σ) (gV σ k) s) (ES (gM σ) (gV σ k) s) (kS (gM σ)) 0) (xs (gB σ) z) (TT (gB σ) z)) := by
          unfold fX2_madeBy
          rw [hdl, Option.bind_some, j0, hgn, Option.bind_some]
        rw [refusal_c R O ha, Option.bind_some, if_pos hz, hnw, Option.bind_some, htk, Option.bind_some, hnv, Option.bind_some, decide_eq_false hW, if_neg Bool.false_ne_true, hsl, hj0, begin_x, Option.bind_some, hmb, Option.bind_some, h16, pt_val (by omega) (by omega) hp1, Option.bind_some]
      · unfold fX12_makes
        obtain ⟨r', e', hr'⟩ := isDealt_val (ρ := ρ) M2.2.2.1 hβ hz0
        have er : r' = r := by rw [Bool.eq_iff_iff, hr', hrc]
        rw [er] at e'
        refine (early_m M2 O ha hb _ _ (fun hx => ?_)).trans ?_
        · rw [isBuyer_m M2.2.2.1 hβ hb, Option.bind_some, isSign_m hs, Option.bind_some]
          refine (jn_b _ _ (decide ((0 ≤ s ∧ s < 4) ∧ r = true ∧ (p = 0 ∨ p = 1))) (fun k => ?_)).trans ?_
          · simp only [e', isPart_m hp, jn_eq, Option.bind_some]; exact if3b _ _ r k
          rw [refusal_m M2 O ha, Option.bind_some, rfs_101 hx]; rfl
        rw [isBuyer_m M2.2.2.1 hβ hb, Option.bind_some, isSign_m hs, Option.bind_some]
        refine (jn_b _ _ (decide ((0 ≤ s ∧ s < 4) ∧ r = true ∧ (p = 0 ∨ p = 1))) (fun k => ?_)).trans ?_
        · simp only [e', isPart_m hp, jn_eq, Option.bind_some]; exact if3b _ _ r k
        rw [refusal_m M2 O ha, Option.bind_some, if_pos hz, mt, Option.bind_some, h22, if_neg (fun q => hW (ck.mp q)), stepsOf_val (show z < 2401 by omega) (show i < 4 by omega), Option.bind_some, together_val hMb hβ (show z < 2401 by omega), Option.bind_some, hm, Option.bind_some, k100, K_mul, tm_val (by show (100 * gn (WS (gM σ) (gV σ k) s) (ES (gM σ) (gV σ k) s) (kS (gM σ)) (bF (gB σ) i) (st z i) (TT (gB σ) z)).natAbs < 2 ^ 62; omega) (by omega) hp1, Option.bind_some, frc_100 _ _ _ (by omega)]; rfl
  · have hne : ¬ J (rfs σ a (decide (0 ≤ b ∧ b < (bN (gB σ) : Int))) (decide ((0 ≤ s ∧ s < 4) ∧ r = true ∧ (p = 0 ∨ p = 1)))) = 0 := by rcases hbad with h | h | h <;> rw [h] <;> decide
    refine ⟨K (rfL (rfs σ a (decide (0 ≤ b ∧ b < (bN (gB σ) : Int))) (decide ((0 ≤ s ∧ s < 4) ∧ r = true ∧ (p = 0 ∨ p = 1))))), d, d, ?_, ?_, ⟨σ, O, R, C, M⟩, rfl⟩
    · unfold fX11_makes
      rw [isSign_c hs, Option.bind_some]
      refine (jn_b _ _ (decide ((0 ≤ s ∧ s < 4) ∧ r = true ∧ (p = 0 ∨ p = 1))) (fun k => ?_)).trans ?_
      · simp only [hr, isPart_c hp, jn_eq, Option.bind_some]; exact if3b _ _ r k
      rw [has_c B hβ hb, Option.bind_some]
      rw [refusal_c R O ha, Option.bind_some, if_neg hne, refusedPart_val hbad, Option.bind_some]
    · unfold fX12_makes
      obtain ⟨r', e', hr'⟩ := isDealt_val (ρ := ρ) M.2.2.1 hβ hz0
      have er : r' = r := by rw [Bool.eq_iff_iff, hr', hrc]
      rw [er] at e'
      refine (early_m M O ha hb _ _ (fun hx => ?_)).trans ?_
      · rw [isBuyer_m M.2.2.1 hβ hb, Option.bind_some, isSign_m hs, Option.bind_some]
        refine (jn_b _ _ (decide ((0 ≤ s ∧ s < 4) ∧ r = true ∧ (p = 0 ∨ p = 1))) (fun k => ?_)).trans ?_
        · simp only [e', isPart_m hp, jn_eq, Option.bind_some]; exact if3b _ _ r k
        rw [refusal_m M O ha, Option.bind_some, rfs_101 hx]; rfl
      rw [isBuyer_m M.2.2.1 hβ hb, Option.bind_some, isSign_m hs, Option.bind_some]
      refine (jn_b _ _ (decide ((0 ≤ s ∧ s < 4) ∧ r = true ∧ (p = 0 ∨ p = 1))) (fun k => ?_)).trans ?_
      · simp only [e', isPart_m hp, jn_eq, Option.bind_some]; exact if3b _ _ r k
      rw [refusal_m M O ha, Option.bind_some, if_neg hne, asLong_val hbad, Option.bind_some]
