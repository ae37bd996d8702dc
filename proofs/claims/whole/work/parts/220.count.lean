theorem cnt_c {ρ : Rh} {d : Dd} {σ : Sg} (R : RC d ρ σ) (O : sgOK σ) (x : Int32) : fX11_count ρ d x = some (if x = 0 then J (kN (gM σ)) else if x = 1 then J (bN (gB σ)) else if x = 2 then J (gN σ) else if x = 3 then J (gP σ) else if x = 4 then J (gS σ) else -102) := by
  unfold fX11_count
  rw [R.2.2.1.2, R.2.2.2.1.1, R.2.2.2.2.1.1, R.2.1.1, R.2.2.2.2.2]
  by_cases c0 : x = 0
  · rw [if_pos c0, if_pos c0]
    by_cases p : 0 < kN (gM σ)
    · have n2 : ¬ J 1 = 0 := by decide
      rw [if_pos p, if_neg n2, (R.2.2.1.1 p).2.2.1]
    · have n1 : kN (gM σ) = 0 := by omega
      have n2 : J 0 = 0 := rfl
      rw [if_neg p, if_pos n2, n1]; rfl
  · rw [if_neg c0, if_neg c0]
    by_cases c1 : x = 1
    · rw [if_pos c1, if_pos c1]
    · rw [if_neg c1, if_neg c1]
      by_cases c2 : x = 2
      · rw [if_pos c2, if_pos c2]
      · rw [if_neg c2, if_neg c2]
        by_cases c3 : x = 3
        · rw [if_pos c3, if_pos c3]
        · rw [if_neg c3, if_neg c3]
          by_cases c4 : x = 4
          · rw [if_pos c4, if_pos c4]
          · rw [if_neg c4, if_neg c4]
theorem cnt_m {ρ : Rh} {d : Dd} {σ : Sg} (R : RM d σ) (x : Int32) : fX12_count ρ d x = some (if x = 0 then J (kN (gM σ)) else if x = 1 then J (bN (gB σ)) else if x = 2 then J (gN σ) else if x = 3 then J (gP σ) else if x = 4 then J (gS σ) else -102) := by
  unfold fX12_count
  rw [R.2.1.2, R.2.2.1.1, R.2.2.2.1.1, R.1.1, R.2.2.2.2]
  by_cases c0 : x = 0
  · rw [if_pos c0, if_pos c0]
  · rw [if_neg c0, if_neg c0]
    by_cases c1 : x = 1
    · rw [if_pos c1, if_pos c1]
    · rw [if_neg c1, if_neg c1]
      by_cases c2 : x = 2
      · rw [if_pos c2, if_pos c2]
      · rw [if_neg c2, if_neg c2]
        by_cases c3 : x = 3
        · rw [if_pos c3, if_pos c3]
        · rw [if_neg c3, if_neg c3]
          by_cases c4 : x = 4
          · rw [if_pos c4, if_pos c4]
          · rw [if_neg c4, if_neg c4]
theorem op25 : Op25 Inv := by
  rintro d ρ ⟨σ, O, R, C, M⟩ x
  exact ⟨_, cnt_c R O x, cnt_m M x, ⟨σ, O, R, C, M⟩⟩
/-- two conditions in a row, as the classes write them -/
theorem two_if (a b : Prop) [Decidable a] [Decidable b] : ∃ inside : Bool, (inside = true ↔ a ∧ b) ∧ ∀ (β : Type) (f : Bool → β), (if decide a = true then (if decide b = true then f true else f false) else f false) = f inside := by
  by_cases q1 : a
  · by_cases q2 : b
    · exact ⟨true, by simp [q1, q2], fun β f => by rw [decide_eq_true q1, decide_eq_true q2, if_pos rfl, if_pos rfl]⟩
    · exact ⟨false, by simp [q2], fun β f => by rw [decide_eq_true q1, decide_eq_false q2, if_pos rfl, if_neg Bool.false_ne_true]⟩
  · exact ⟨false, by simp [q1], fun β f => by rw [decide_eq_false q1, if_neg Bool.false_ne_true]⟩
theorem never_val {ρ : Rh} {d : Dd} {μ : Mk} {ν : Nw} {s v e : Int} (hw : -200000 ≤ WS μ ν s ∧ WS μ ν s ≤ 200000) : fX3_isNever ρ (hr3 d (WS μ ν s) v e) = some (decide (WS μ ν s = 0)) := by
  unfold fX3_isNever
  rw [hr3_0, k0]
  have c0 : K (WS μ ν s) = K 0 ↔ WS μ ν s = 0 := K_eq (by omega) (by omega)
  by_cases q : WS μ ν s = 0
  · rw [if_pos (c0.mpr q), decide_eq_true q]
  · rw [if_neg (fun z => q (c0.mp z)), decide_eq_false q]
theorem op10 : Op10 Inv := by
  rintro d ρ ⟨σ, O, R, C, RMd⟩ x1 x2 x3
  obtain ⟨a, ha, rfl⟩ := J_of x1
  obtain ⟨s, hs, rfl⟩ := J_of x2
  obtain ⟨p, hp, rfl⟩ := J_of x3
  unfold fX11_edge fX12_edge
  simp only [isSign_c hs, isSign_m hs, isPart_c hp, isPart_m hp, jn, Option.bind_some]
  obtain ⟨inside, hi, hf⟩ := two_if (0 ≤ s ∧ s < 4) (p = 0 ∨ p = 1)
  have e1 := hf _ (fun z : Bool => (fX11_refusal ρ d (J a) true z).bind fun r4 => if r4 = 0 then ((fX11_newsAt ρ d (J a)).bind fun r5 => (fX3_take ρ d ρ.1 r5 (J s)).bind fun r6 => (fX3_isNever ρ r6).bind fun r7 => if r7 = true then (some ((-1000000000000000004 : Int64), r6)) else ((fX11_partOf (d_l r6 13 2) (d_l r6 13 0) (J p)).bind fun r8 => some (r8, r6))) else ((fX11_refusedPart r4).bind fun r9 => some (r9, d)))
  have e2 : ∀ d1, _ := fun d1 => hf _ (fun z : Bool => (fX12_refusal ρ d1 (J a) true z).bind fun r4 => if r4 = 0 then ((fX12_heardOf ρ d1 (J a) (J s)).bind fun r5 => if r5 = 0 then (some (-1000000000000000004 : Int64)) else ((fX12_edgeOf ρ d1 (J a) (J s)).bind fun r6 => (fX12_term r6 (100 * (Int32.toInt64 r5)) (J p)).bind fun r7 => some r7)) else ((fX12_asLong r4).bind fun r8 => some r8))
  have e3 := refusal_c R O ha true inside
  rcases rfs_cases σ a true inside with ⟨h0, ha0, ha1, hop, -, hins⟩ | hbad
  · obtain ⟨hs4, hp1⟩ := hi.mp hins
    have ea : a = ((a.toNat : Nat) : Int) := by omega
    have hM := R.2.2.1.1 hop
    have hN := R.2.2.2.2.1.2.2 a.toNat (by omega)
    have hν := O.2.2.2.1.2 a.toNat (by omega)
    have hWS := WS_bd O.2.1 hν hs4.1 _ (Nat.le_refl (kN (gM σ)))
    have hEH := EH_bd O.2.1 hν hs4.1
    have hED := EH_dvd (μ := gM σ) hν s
    have hkN := O.2.1.2.2.1
    have hWb : 0 ≤ WS (gM σ) (gV σ a.toNat) s ∧ WS (gM σ) (gV σ a.toNat) s ≤ 118800 := by unfold WS; omega
    have htk := take_val (ρ := ρ) hM hN O.2.1 hν (by omega) hs4
    have hR1 : RC (hr3 d (WS (gM σ) (gV σ a.toNat) s) (VS (gM σ) (gV σ a.toNat) s) (ES (gM σ) (gV σ a.toNat) s)) ρ σ := R.fr (Fr.rf.hr (fun _ => Or.inl ⟨by decide, by decide⟩))
    have hRM1 : RM (hr3 d (WS (gM σ) (gV σ a.toNat) s) (VS (gM σ) (gV σ a.toNat) s) (ES (gM σ) (gV σ a.toNat) s)) σ := RMd.frC (Fr.rf.hr (fun _ => Or.inl ⟨by decide, by decide⟩))
    have hnw := newsAt_in R O (k := a.toNat) (by omega)
    rw [← ea] at hnw
    have hz : J (rfs σ a true inside) = 0 := by rw [h0]; rfl
    have hho := heardOf_val (ρ := ρ) (hRM1.2.1.1 hop) (hRM1.2.2.2.1.2 a.toNat (by omega)) O.2.1 hν hs4
    have heo := edgeOf_val (ρ := ρ) (hRM1.2.1.1 hop) (hRM1.2.2.2.1.2 a.toNat (by omega)) O.2.1 hν hs4
    rw [← ea] at hho heo
    have c0 : J (WS (gM σ) (gV σ a.toNat) s) = 0 ↔ WS (gM σ) (gV σ a.toNat) s = 0 := by rw [j0]; exact J_eq (by omega) (by omega)
    by_cases hW : WS (gM σ) (gV σ a.toNat) s = 0
    · refine ⟨-1000000000000000004, _, ?_, ?_, ⟨σ, O, hR1, C.frH, hRM1⟩, rfl⟩
      · refine e1.trans ?_
        rw [e3, Option.bind_some, if_pos hz, hnw, Option.bind_some, htk, Option.bind_some, never_val (by omega), Option.bind_some, decide_eq_true hW, if_pos rfl]
      · refine (e2 _).trans ?_
        rw [refusal_m hRM1 O ha, Option.bind_some, if_pos hz, hho, Option.bind_some, if_pos (c0.mpr hW)]
    · refine ⟨K (frc (ES (gM σ) (gV σ a.toNat) s) (WS (gM σ) (gV σ a.toNat) s) p), _, ?_, ?_, ⟨σ, O, hR1, C.frH, hRM1⟩, rfl⟩
      · refine e1.trans ?_
        rw [e3, Option.bind_some, if_pos hz, hnw, Option.bind_some, htk, Option.bind_some, never_val (by omega), Option.bind_some, decide_eq_false hW, if_neg Bool.false_ne_true, hr3_0, hr3_2, pt_val (by omega) ⟨by omega, by omega⟩ hp1, Option.bind_some]
      · refine (e2 _).trans ?_
        have nW := fun z => hW (c0.mp z)
        rw [refusal_m hRM1 O ha, Option.bind_some, if_pos hz, hho, Option.bind_some, if_neg nW, heo, Option.bind_some, J_l (by omega), k100, K_mul, tm_val (by omega) ⟨by omega, by omega⟩ hp1, Option.bind_some, ← hED, frc_100 _ _ _ (by omega)]
  · have hne : ¬ J (rfs σ a true inside) = 0 := by rcases hbad with h | h | h <;> rw [h] <;> decide
    refine ⟨K (rfL (rfs σ a true inside)), d, ?_, ?_, ⟨σ, O, R, C, RMd⟩, rfl⟩
    · refine e1.trans ?_
      rw [e3, Option.bind_some, if_neg hne, refusedPart_val hbad, Option.bind_some]
    · refine (e2 d).trans ?_
      rw [refusal_m RMd O ha, Option.bind_some, if_neg hne, asLong_val hbad, Option.bind_some]
