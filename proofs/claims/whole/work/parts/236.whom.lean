/-! whom -/
theorem op14 : Op14 Inv := by
  rintro d ρ ⟨σ, O, R, C, M⟩ x1 x2
  obtain ⟨a, ha, rfl⟩ := J_of x1
  obtain ⟨w, hw, rfl⟩ := J_of x2
  have hβ := O.2.2.1
  have B := R.2.2.2.1
  have hN := hβ.1
  have h2N := two_le hN
  have hk8 := O.2.2.2.1.1
  rcases rfs_cases σ a true (decide (w = 0 ∨ w = 1)) with ⟨h0, ha0, ha1, hop, hnm, hins⟩ | hbad
  · have hw1 := of_decide_eq_true hins
    have hz : J (rfs σ a true (decide (w = 0 ∨ w = 1))) = 0 := by rw [h0]; rfl
    obtain ⟨k, rfl⟩ : ∃ k : Nat, a = (k : Int) := ⟨a.toNat, by omega⟩
    have hk : k < gN σ := by omega
    have hS := O.2.2.2.2
    by_cases hs : gS σ < 40
    · have hs1 : d_i d 3 7 < 40 := by rw [R.2.2.2.2.2, j40, J_lt (by omega) (by omega)]; omega
      have e1 : d_i d 3 7 + 1 = J ((gS σ + 1 : Nat) : Int) := by rw [R.2.2.2.2.2, j1, J_add]; rfl
      have O' : sgOK (sgS σ (gS σ + 1)) := sgS_ok O (by omega)
      have fc : Fr (fun o k => o = 3 ∧ k = 7) d (dI d 3 7 (J ((gS σ + 1 : Nat) : Int))) := Fr.rf.i ⟨rfl, rfl⟩
      have R0 := R.sl (gS σ + 1)
      have C0 : CacheOK (dI d 3 7 (J ((gS σ + 1 : Nat) : Int))) (sgS σ (gS σ + 1)) := C.gfr (σ := σ) fc (fun k => ⟨by omega, by omega, by omega⟩)
      have M0 : RM (dI d 3 7 (J ((gS σ + 1 : Nat) : Int))) σ := M.gfr fc (fun o k h1 h2 h3 => by omega)
      obtain ⟨d1, s1, f1, C1, rows⟩ := settleAll_val (ρ := ρ) R0 O' C0 hop hk
      have R1 := R0.fr f1
      have M1 := M0.frC f1
      have fm : Fr (fun o k => o = 23 ∧ k = 26) d1 (dI d1 23 26 (J ((gS σ + 1 : Nat) : Int))) := Fr.rf.i ⟨rfl, rfl⟩
      have Mm := M1.sl (gS σ + 1)
      have Rm := R1.gfr fm (fun o k h => by omega)
      have Cm := C1.gfr fm (fun k => ⟨by omega, by omega, by omega⟩)
      obtain ⟨d2, w2, f2, h27⟩ := mostAsked_val (ρ := ρ) Mm O' hop hk hw1
      have hs2 : ¬ d_i d1 23 26 = 40 := by rw [M1.2.2.2.2, j40, J_eq (by omega) (by omega)]; omega
      have e2 : d_i d1 23 26 + 1 = J ((gS σ + 1 : Nat) : Int) := by rw [M1.2.2.2.2, j1, J_add]; rfl
      refine ⟨J (bsS (tv (gM σ) (gV σ k) (gB σ) w) (2 ^ bN (gB σ) - 1)).1, d1, d2, ?_, ?_, ⟨sgS σ (gS σ + 1), O', Rm.frM f2, Cm.frM f2, Mm.frM f2⟩, f1.cs2.trans (fc.c2 (fun k => by omega))⟩
      · unfold fX11_whom
        rw [isHow_c hw, Option.bind_some]
        rw [refusal_c R O ha, Option.bind_some, if_pos hz, if_pos hs1, bnd_eq, e1, s1, Option.bind_some]
        have hb := bestSet_val (ρ := ρ) (σ := sgS σ (gS σ + 1)) R1.2.2.2.1 O' hk rows hw1
        rw [hb, Option.bind_some]; rfl
      · unfold fX12_whom
        rw [in01 hw, Option.bind_some]
        rw [refusal_m M1 O ha, Option.bind_some, if_pos hz, if_neg hs2, bnd_eq, e2, w2, Option.bind_some, h27]; rfl
    · have hs1 : ¬ d_i d 3 7 < 40 := by rw [R.2.2.2.2.2, j40, J_lt (by omega) (by omega)]; omega
      have hs2 : d_i d 23 26 = 40 := by rw [M.2.2.2.2, j40, J_eq (by omega) (by omega)]; omega
      refine ⟨-103, d, d, ?_, ?_, ⟨σ, O, R, C, M⟩, rfl⟩
      · unfold fX11_whom
        rw [isHow_c hw, Option.bind_some]
        rw [refusal_c R O ha, Option.bind_some, if_pos hz, if_neg hs1]
      · unfold fX12_whom
        rw [in01 hw, Option.bind_some]
        rw [refusal_m M O ha, Option.bind_some, if_pos hz, if_pos hs2]
  · have hne : ¬ J (rfs σ a true (decide (w = 0 ∨ w = 1))) = 0 := by rcases hbad with h | h | h <;> rw [h] <;> decide
    refine ⟨J (rfs σ a true (decide (w = 0 ∨ w = 1))), d, d, ?_, ?_, ⟨σ, O, R, C, M⟩, rfl⟩
    · unfold fX11_whom
      rw [isHow_c hw, Option.bind_some]
      rw [refusal_c R O ha, Option.bind_some, if_neg hne]
    · unfold fX12_whom
      rw [in01 hw, Option.bind_some]
      rw [refusal_m M O ha, Option.bind_some, if_neg hne]
