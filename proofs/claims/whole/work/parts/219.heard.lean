theorem isSign_c {a : Int} (ha : -2147483648 ≤ a ∧ a < 2147483648) : fX11_isSign (J a) = some (decide (0 ≤ a ∧ a < 4)) := by
  have c1 : J a < 0 ↔ a < 0 := by rw [j0]; exact J_lt (by omega) (by omega)
  have c2 : (4 : Int32) ≤ J a ↔ 4 ≤ a := by rw [j4]; exact J_le (by omega) (by omega)
  unfold fX11_isSign
  by_cases q1 : a < 0
  · have q : ¬ (0 ≤ a ∧ a < 4) := by omega
    rw [if_pos (c1.mpr q1), decide_eq_false q]
  · rw [if_neg (fun z => q1 (c1.mp z))]
    by_cases q2 : 4 ≤ a
    · have q : ¬ (0 ≤ a ∧ a < 4) := by omega
      rw [if_pos (c2.mpr q2), decide_eq_false q]
    · have q : 0 ≤ a ∧ a < 4 := by omega
      rw [if_neg (fun z => q2 (c2.mp z)), decide_eq_true q]
theorem isPart_c {a : Int} (ha : -2147483648 ≤ a ∧ a < 2147483648) : fX11_isPart (J a) = some (decide (a = 0 ∨ a = 1)) := by
  have c1 : J a = 0 ↔ a = 0 := by rw [j0]; exact J_eq (by omega) (by omega)
  have c2 : J a = 1 ↔ a = 1 := by rw [j1]; exact J_eq (by omega) (by omega)
  unfold fX11_isPart
  simp only [jn]
  by_cases q1 : a = 0
  · have q : a = 0 ∨ a = 1 := by omega
    rw [if_pos (c1.mpr q1), decide_eq_true q]
  · rw [if_neg (fun z => q1 (c1.mp z))]
    by_cases q2 : a = 1
    · have q : a = 0 ∨ a = 1 := by omega
      rw [if_pos (c2.mpr q2), decide_eq_true q]
    · have q : ¬ (a = 0 ∨ a = 1) := by omega
      rw [if_neg (fun z => q2 (c2.mp z)), decide_eq_false q]
theorem isSign_m {a : Int} (ha : -2147483648 ≤ a ∧ a < 2147483648) : fX12_isSign (J a) = some (decide (0 ≤ a ∧ a < 4)) := by
  unfold fX12_isSign
  rw [J_l (by omega), k0, show (3 : Int64) = K 3 from rfl, in_val (by omega) (by omega) (by omega), Option.bind_some]
  congr 1
  exact decide_eq_decide.mpr (by omega)
theorem isPart_m {a : Int} (ha : -2147483648 ≤ a ∧ a < 2147483648) : fX12_isPart (J a) = some (decide (a = 0 ∨ a = 1)) := by
  unfold fX12_isPart
  rw [J_l (by omega), k0, k1, in_val (by omega) (by omega) (by omega), Option.bind_some]
  congr 1
  exact decide_eq_decide.mpr (by omega)
theorem wholeW_val {ρ : Rh} {d : Dd} {o : Nat} {μ : Mk} (M : MktAt d o μ) (h : mkOK μ) (hw : 0 ≤ WT μ ∧ WT μ ≤ 396) : fX5_wholeWeight ρ d o = some (K (WT μ * (100 * oth μ))) := by
  have ho := oth_bd μ h
  unfold fX5_wholeWeight
  rw [M.2.2.1, wholeOf_val h, Option.bind_some, M.2.2.2.1, J_l (by omega), J_l (by omega), K_mul]
theorem WT_bd {μ : Mk} (h : mkOK μ) : (0 ≤ WT μ ∧ WT μ ≤ 396) ∧ (0 < kN μ → 1 ≤ WT μ) := by
  have hN := h.2.2.1
  have h1 := sm_bd (n := kN μ) (f := kW μ) (lo := 1) (hi := 99) (fun c hc => (h.2.2.2 c hc).1)
  unfold WT
  omega
theorem allW_val {ρ : Rh} {d : Dd} {μ : Mk} (M : MdlAt d μ) (h : mkOK μ) : fX12_allWeights ρ d = some (J (WT μ)) := by
  have hN := h.2.2.1
  unfold fX12_allWeights WT
  refine lp_up (kN μ) (fun i => (J (sm i (kW μ)), J (i : Int))) (fun i hi self => ?_) (fun self => ?_) 6000 (by omega)
  · have h1 : ¬ d_i d 23 4 ≤ J (i : Int) := by rw [M.2.2.1, J_le (by omega) (by omega)]; omega
    have h3 : inB (J (i : Int)) 4 = true := by rw [inB_J (by omega)]; omega
    simp only [h1, if_false, h3, if_true, bnd]
    rw [ix_J (by omega), Int.toNat_natCast, (M.2.2.2 i hi).1, J_add, j1, J_add]
    rfl
  · have h1 : d_i d 23 4 ≤ J (kN μ : Int) := by rw [M.2.2.1, J_le (by omega) (by omega)]; omega
    simp only [h1, if_true]
theorem CacheOK.frH {d : Dd} {σ : Sg} {a b c : Int} (C : CacheOK d σ) : CacheOK (hr3 d a b c) σ :=
  C.gfr (P := fun o _ => o = 13) (Fr.rf.hr (fun _ => rfl)) (fun k => by omega)
theorem op9 : Op9 Inv := by
  rintro d ρ ⟨σ, O, R, C, RMd⟩ x1 x2 x3
  obtain ⟨a, ha, rfl⟩ := J_of x1
  obtain ⟨s, hs, rfl⟩ := J_of x2
  obtain ⟨p, hp, rfl⟩ := J_of x3
  unfold fX11_heard fX12_heard
  simp only [isSign_c hs, isSign_m hs, isPart_c hp, isPart_m hp, jn, Option.bind_some]
  have hin : ∃ inside : Bool, (inside = true ↔ (0 ≤ s ∧ s < 4) ∧ (p = 0 ∨ p = 1)) ∧ (∀ (β : Type) (f : Bool → β), (if decide (0 ≤ s ∧ s < 4) = true then (if decide (p = 0 ∨ p = 1) = true then f true else f false) else f false) = f inside) := by
    by_cases q1 : 0 ≤ s ∧ s < 4
    · by_cases q2 : p = 0 ∨ p = 1
      · exact ⟨true, by simp [q1, q2], fun β f => by rw [decide_eq_true q1, decide_eq_true q2, if_pos rfl, if_pos rfl]⟩
      · exact ⟨false, by simp [q2], fun β f => by rw [decide_eq_true q1, decide_eq_false q2, if_pos rfl, if_neg Bool.false_ne_true]⟩
    · exact ⟨false, by simp [q1], fun β f => by rw [decide_eq_false q1, if_neg Bool.false_ne_true]⟩
  obtain ⟨inside, hi, hf⟩ := hin
  have e1 := hf _ (fun z : Bool => (fX11_refusal ρ d (J a) true z).bind fun r4 => if r4 = 0 then ((fX11_newsAt ρ d (J a)).bind fun r5 => (fX3_take ρ d ρ.1 r5 (J s)).bind fun r6 => (fX5_wholeWeight ρ r6 ρ.1).bind fun r7 => (fX11_partOf (d_l r6 13 0) r7 (J p)).bind fun r8 => some (r8, r6)) else ((fX11_refusedPart r4).bind fun r9 => some (r9, d)))
  have e2 : ∀ d1, _ := fun d1 => hf _ (fun z : Bool => (fX12_refusal ρ d1 (J a) true z).bind fun r4 => if r4 = 0 then ((fX12_heardOf ρ d1 (J a) (J s)).bind fun r5 => (fX12_unit ρ d1).bind fun r6 => (fX12_allWeights ρ d1).bind fun r7 => (fX12_term (Int32.toInt64 r5) ((Int32.toInt64 r6) * (Int32.toInt64 r7)) (J p)).bind fun r8 => some r8) else ((fX12_asLong r4).bind fun r9 => some r9))
  have e3 := refusal_c R O ha true inside
  rcases rfs_cases σ a true inside with ⟨h0, ha0, ha1, hop, -, hins⟩ | hbad
  · obtain ⟨hs4, hp1⟩ := hi.mp hins
    have ea : a = ((a.toNat : Nat) : Int) := by omega
    have hM := R.2.2.1.1 hop
    have hN := R.2.2.2.2.1.2.2 a.toNat (by omega)
    have hν := O.2.2.2.1.2 a.toNat (by omega)
    have hw := WT_bd O.2.1
    have ho := oth_bd (gM σ) O.2.1
    have hWS := WS_bd O.2.1 hν hs4.1 _ (Nat.le_refl (kN (gM σ)))
    have hkN := O.2.1.2.2.1
    have htk := take_val (ρ := ρ) hM hN O.2.1 hν (by omega) hs4
    have hpos : 0 < WT (gM σ) * (100 * oth (gM σ)) := Int.mul_pos (by have := hw.2 hop; omega) (by omega)
    have hle := ab_mul 396 300 (x := WT (gM σ)) (y := 100 * oth (gM σ)) (by omega) (by omega)
    have hM2 := hM.hr (WS (gM σ) (gV σ a.toNat) s) (VS (gM σ) (gV σ a.toNat) s) (ES (gM σ) (gV σ a.toNat) s)
    have hR1 : RC (hr3 d (WS (gM σ) (gV σ a.toNat) s) (VS (gM σ) (gV σ a.toNat) s) (ES (gM σ) (gV σ a.toNat) s)) ρ σ := R.fr (Fr.rf.hr (fun _ => Or.inl ⟨by decide, by decide⟩))
    have hRM1 : RM (hr3 d (WS (gM σ) (gV σ a.toNat) s) (VS (gM σ) (gV σ a.toNat) s) (ES (gM σ) (gV σ a.toNat) s)) σ := RMd.frC (Fr.rf.hr (fun _ => Or.inl ⟨by decide, by decide⟩))
    have hnw := newsAt_in R O (k := a.toNat) (by omega)
    rw [← ea] at hnw
    have hz : J (rfs σ a true inside) = 0 := by rw [h0]; rfl
    have hho := heardOf_val (ρ := ρ) (hRM1.2.1.1 hop) (hRM1.2.2.2.1.2 a.toNat (by omega)) O.2.1 hν hs4
    rw [← ea] at hho
    refine ⟨K (frc (WS (gM σ) (gV σ a.toNat) s) (WT (gM σ) * (100 * oth (gM σ))) p), _, ?_, ?_, ⟨σ, O, hR1, C.frH, hRM1⟩, rfl⟩
    · refine e1.trans ?_
      rw [e3, Option.bind_some, if_pos hz, hnw, Option.bind_some, htk, Option.bind_some, wholeW_val hM2 O.2.1 hw.1, Option.bind_some, hr3_0, pt_val (by unfold WS; omega) ⟨hpos, by omega⟩ hp1, Option.bind_some]
    · refine (e2 _).trans ?_
      rw [refusal_m hRM1 O ha, Option.bind_some, if_pos hz, hho, Option.bind_some, unit_val (hRM1.2.1.1 hop) O.2.1, Option.bind_some, allW_val (hRM1.2.1.1 hop) O.2.1, Option.bind_some, J_l (by unfold WS; omega), J_l (by omega), J_l (by omega), K_mul, Int.mul_comm (100 * oth (gM σ)), tm_val (by unfold WS; omega) ⟨hpos, by omega⟩ hp1, Option.bind_some]
  · have hne : ¬ J (rfs σ a true inside) = 0 := by rcases hbad with h | h | h <;> rw [h] <;> decide
    refine ⟨K (rfL (rfs σ a true inside)), d, ?_, ?_, ⟨σ, O, R, C, RMd⟩, rfl⟩
    · refine e1.trans ?_
      rw [e3, Option.bind_some, if_neg hne, refusedPart_val hbad, Option.bind_some]
    · refine (e2 d).trans ?_
      rw [refusal_m RMd O ha, Option.bind_some, if_neg hne, asLong_val hbad, Option.bind_some]
