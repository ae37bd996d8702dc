/-! what one thinks who saw it -/
theorem RowOK.hs {d d1 : Dd} {σ : Sg} {k set : Nat} (h : RowOK d σ k set) (f : Fr HS d d1) : RowOK d1 σ k set :=
  ⟨(f.gi (by unfold HS; omega)).trans h.1, fun s hs => (f.gi (by unfold HS; omega)).trans (h.2.1 s hs), fun b hb => (f.gl (by unfold HS; omega)).trans (h.2.2 b hb)⟩
noncomputable def upS (f : Nat → Int) (s0 : Nat) (g : Nat → Int) (s : Nat) : Int := if f s = f s0 then g s else 0
theorem upS_bd {f : Nat → Int} {s0 : Nat} {g : Nat → Int} {hi : Int} (h0 : 0 ≤ hi) (h : ∀ s, s < 4 → 0 ≤ g s ∧ g s ≤ hi) : 0 ≤ sm 4 (upS f s0 g) ∧ sm 4 (upS f s0 g) ≤ 4 * hi := by
  have := sm_bd (n := 4) (f := upS f s0 g) (lo := 0) (hi := hi) (fun s hs => by
    have := h s hs
    unfold upS
    split <;> omega)
  omega
theorem upS_pos {f : Nat → Int} {s0 : Nat} {g : Nat → Int} (hs0 : s0 < 4) (h : ∀ s, s < 4 → 0 ≤ g s) (hp : 0 < g s0) : 0 < sm 4 (upS f s0 g) := by
  have a : ∀ s, s < 4 → 0 ≤ upS f s0 g s := fun s hs => by
    have := h s hs
    unfold upS
    split <;> omega
  have b : upS f s0 g s0 = g s0 := by unfold upS; rw [if_pos rfl]
  have a0 := a 0 (by omega)
  have a1 := a 1 (by omega)
  have a2 := a 2 (by omega)
  have a3 := a 3 (by omega)
  rw [sm4]
  rcases (show s0 = 0 ∨ s0 = 1 ∨ s0 = 2 ∨ s0 = 3 by omega) with rfl | rfl | rfl | rfl <;> omega
theorem op22 : Op22 Inv := by
  rintro d ρ ⟨σ, O, R, C, M⟩ x1 x2 x3 x4
  obtain ⟨a, ha, rfl⟩ := J_of x1
  obtain ⟨t, ht, rfl⟩ := J_of x2
  obtain ⟨s, hs, rfl⟩ := J_of x3
  obtain ⟨p, hp, rfl⟩ := J_of x4
  have hβ := O.2.2.1
  have B := R.2.2.2.1
  have hN := hβ.1
  have h2N := two_le hN
  have hk8 := O.2.2.2.1.1
  rcases rfs_cases σ a true (decide ((0 ≤ t ∧ t < ((2 ^ bN (gB σ) : Nat) : Int)) ∧ (0 ≤ s ∧ s < 4) ∧ (p = 0 ∨ p = 1))) with ⟨h0, ha0, ha1, hop, hnm, hins⟩ | hbad
  · obtain ⟨ht4, hs4, hp1⟩ := of_decide_eq_true hins
    have hz : J (rfs σ a true (decide ((0 ≤ t ∧ t < ((2 ^ bN (gB σ) : Nat) : Int)) ∧ (0 ≤ s ∧ s < 4) ∧ (p = 0 ∨ p = 1)))) = 0 := by rw [h0]; rfl
    obtain ⟨k, rfl⟩ : ∃ k : Nat, a = (k : Int) := ⟨a.toNat, by omega⟩
    obtain ⟨set, rfl⟩ : ∃ k : Nat, t = (k : Int) := ⟨t.toNat, by omega⟩
    obtain ⟨sg, rfl⟩ : ∃ k : Nat, s = (k : Int) := ⟨s.toNat, by omega⟩
    have hset : set < 2 ^ bN (gB σ) := by omega
    have hk : k < gN σ := by omega
    have hν := O.2.2.2.1.2 k hk
    obtain ⟨d1, s1, f1, C1, row, -⟩ := settle_val R O C hop hk hset
    have R1 := R.fr f1
    have M1 := M.frC f1
    obtain ⟨m1, m2, m3⟩ := hear_m (ρ := ρ) M1 O hop hk hs4
    have hdt := dealtFor_row (ρ := ρ) row (by omega) (by omega) (s := sg) (by omega)
    by_cases hW : WS (gM σ) (gV σ k) (sg : Int) = 0
    · rw [DT_never hW] at hdt
      refine ⟨-1000000000000000004, d1, d1, ?_, ?_, inv_cm O R M C1 f1 Fr.rf, f1.cs2⟩
      · unfold fX11_thought
        rw [isSet_val B hβ ht, Option.bind_some]
        refine (jn_b _ _ (decide ((0 ≤ (set : Int) ∧ (set : Int) < ((2 ^ bN (gB σ) : Nat) : Int)) ∧ (0 ≤ (sg : Int) ∧ (sg : Int) < 4) ∧ (p = 0 ∨ p = 1))) (fun k => ?_)).trans ?_
        · simp only [isSign_c hs, isPart_c hp, jn_eq, Option.bind_some]; exact if3 _ _ _ k
        rw [refusal_c R O ha, Option.bind_some, if_pos hz, s1, Option.bind_some, hdt, Option.bind_some, if_pos jm1.symm]
      · unfold fX12_thought
        rw [isSet_m M1.2.2.1 hβ ht, Option.bind_some]
        refine (jn_b _ _ (decide ((0 ≤ (set : Int) ∧ (set : Int) < ((2 ^ bN (gB σ) : Nat) : Int)) ∧ (0 ≤ (sg : Int) ∧ (sg : Int) < 4) ∧ (p = 0 ∨ p = 1))) (fun k => ?_)).trans ?_
        · simp only [isSign_m hs, isPart_m hp, jn_eq, Option.bind_some]; exact if3 _ _ _ k
        rw [refusal_m M1 O ha, Option.bind_some, if_pos hz, m1, Option.bind_some, if_pos (m2.mpr hW)]
    · obtain ⟨z, hz1, -, hz2, -, -, -⟩ := DT_ex (μ := gM σ) (ν := gV σ k) (set := set) hβ hW
      rw [hz1] at hdt
      have hnz : ¬ J (z : Int) = -1 := by rw [jm1, J_eq (by omega) (by omega)]; omega
      have h99 : ¬ (sb (gM σ) (gV σ k) (gB σ) set) sg = 99 := fun q => hW ((sb_99 hβ).mp q)
      have hkN := O.2.1.2.2.1
      have hWb : ∀ s : Nat, s < 4 → 0 ≤ WS (gM σ) (gV σ k) s ∧ WS (gM σ) (gV σ k) s ≤ 118800 := fun s hs => (hear_m (ρ := ρ) M1 O hop hk (show (0 : Int) ≤ (s : Int) ∧ (s : Int) < 4 by omega)).2.2
      have hVb : ∀ s : Nat, s < 4 → 0 ≤ VS (gM σ) (gV σ k) s ∧ VS (gM σ) (gV σ k) s ≤ 118681200 := fun s hs => by
        have := VS_bd O.2.1 hν (show (0 : Int) ≤ (s : Int) by omega) _ (Nat.le_refl (kN (gM σ)))
        unfold VS; omega
      have bV := upS_bd (f := (sb (gM σ) (gV σ k) (gB σ) set)) (s0 := sg) (g := fun s => VS (gM σ) (gV σ k) s) (hi := 118681200) (by omega) hVb
      have bW := upS_bd (f := (sb (gM σ) (gV σ k) (gB σ) set)) (s0 := sg) (g := fun s => WS (gM σ) (gV σ k) s) (hi := 118800) (by omega) hWb
      have pW := upS_pos (f := (sb (gM σ) (gV σ k) (gB σ) set)) (s0 := sg) (g := fun s => WS (gM σ) (gV σ k) s) (by omega) (fun s hs => (hWb s hs).1) (by show 0 < WS (gM σ) (gV σ k) (sg : Int); omega)
      have hcl : ∃ d2, fX11_thought ρ d (J (k : Int)) (J (set : Int)) (J (sg : Int)) (J p) = some (K (frc (sm 4 (upS (sb (gM σ) (gV σ k) (gB σ) set) sg (fun s => VS (gM σ) (gV σ k) s))) (sm 4 (upS (sb (gM σ) (gV σ k) (gB σ) set) sg (fun s => WS (gM σ) (gV σ k) s))) p), d2) ∧ Fr HS d1 d2 := by
        unfold fX11_thought
        rw [isSet_val B hβ ht, Option.bind_some]
        rw [jn_b _ _ (decide ((0 ≤ (set : Int) ∧ (set : Int) < ((2 ^ bN (gB σ) : Nat) : Int)) ∧ (0 ≤ (sg : Int) ∧ (sg : Int) < 4) ∧ (p = 0 ∨ p = 1))) (fun k => ?_)]
        rotate_left
        · simp only [isSign_c hs, isPart_c hp, jn_eq, Option.bind_some]; exact if3 _ _ _ k
        rw [refusal_c R O ha, Option.bind_some, if_pos hz, s1, Option.bind_some, hdt, Option.bind_some, if_neg hnz]
        refine lp_c 4 (fun i x => ∃ d', x = (K (sm i (upS (sb (gM σ) (gV σ k) (gB σ) set) sg (fun s => VS (gM σ) (gV σ k) s))), K (sm i (upS (sb (gM σ) (gV σ k) (gB σ) set) sg (fun s => WS (gM σ) (gV σ k) s))), J (i : Int), d') ∧ Fr HS d1 d') (fun o => ∃ d2, o = some (K (frc (sm 4 (upS (sb (gM σ) (gV σ k) (gB σ) set) sg (fun s => VS (gM σ) (gV σ k) s))) (sm 4 (upS (sb (gM σ) (gV σ k) (gB σ) set) sg (fun s => WS (gM σ) (gV σ k) s))) p), d2) ∧ Fr HS d1 d2) ?_ ?_ 6000 (by omega) _ ⟨d1, rfl, Fr.rf⟩
        · rintro i hi x ⟨d', rfl, f⟩ self
          have R' := R1.fr f.cs
          have row' := row.hs f
          have h1 : ¬ (4 : Int32) ≤ J (i : Int) := by rw [j4, J_le (by omega) (by omega)]; omega
          have hla := look_al (ρ := ρ) R'.2.2.2.1 R'.1.1 O row' (by omega) (by omega) (s := sg) (t := i) (by omega) hi
          have e1 : (J (i : Int) + 1) = J ((i + 1 : Nat) : Int) := by rw [j1, J_add]; rfl
          simp only [h1, if_false, hla, Option.bind_some, jn_eq, bnd_eq, e1]
          by_cases q : (sb (gM σ) (gV σ k) (gB σ) set) i = (sb (gM σ) (gV σ k) (gB σ) set) sg
          · have hnw := newsAt_in R' O hk
            have htk := take_val (ρ := ρ) (R'.2.2.1.1 hop) (R'.2.2.2.2.1.2.2 k hk) O.2.1 hν (by omega) (show (0 : Int) ≤ (i : Int) ∧ (i : Int) < 4 by omega)
            rw [decide_eq_true ⟨h99, q⟩, if_pos rfl, hnw, Option.bind_some, htk, Option.bind_some, hr3_0, hr3_1, K_add, K_add]
            have eV : (upS (sb (gM σ) (gV σ k) (gB σ) set) sg (fun s => VS (gM σ) (gV σ k) s)) i = VS (gM σ) (gV σ k) i := by unfold upS; rw [if_pos q]
            have eW : (upS (sb (gM σ) (gV σ k) (gB σ) set) sg (fun s => WS (gM σ) (gV σ k) s)) i = WS (gM σ) (gV σ k) i := by unfold upS; rw [if_pos q]
            refine ⟨_, ⟨hr3 d' (WS (gM σ) (gV σ k) (i : Int)) (VS (gM σ) (gV σ k) (i : Int)) (ES (gM σ) (gV σ k) (i : Int)), rfl, f.hr (fun _ => by unfold HS; omega)⟩, ?_⟩
            rw [sm_succ, sm_succ, eV, eW]
          · rw [decide_eq_false (fun z => q z.2), if_neg Bool.false_ne_true]
            have eV : (upS (sb (gM σ) (gV σ k) (gB σ) set) sg (fun s => VS (gM σ) (gV σ k) s)) i = 0 := by unfold upS; rw [if_neg q]
            have eW : (upS (sb (gM σ) (gV σ k) (gB σ) set) sg (fun s => WS (gM σ) (gV σ k) s)) i = 0 := by unfold upS; rw [if_neg q]
            refine ⟨_, ⟨d', rfl, f⟩, ?_⟩
            rw [sm_succ, sm_succ, eV, eW, Int.add_zero, Int.add_zero]
        · rintro x ⟨d', rfl, f⟩ self
          have h1 : (4 : Int32) ≤ J ((4 : Nat) : Int) := by decide
          refine ⟨d', ?_, f⟩
          simp only [h1, if_true]
          rw [pt_val (by omega) (by omega) hp1, Option.bind_some]
      obtain ⟨d2, w2, f2⟩ := hcl
      have f12 := f1.tr f2.cs
      have M2 := M1.frC f2.cs
      obtain ⟨n1, n2, -⟩ := hear_m (ρ := ρ) M2 O hop hk hs4
      obtain ⟨d3, l3, f3, h34⟩ := laySteps_val (ρ := ρ) M2 O hop hk (show set < 16 by omega)
      have M3 := M2.frM f3
      refine ⟨_, d2, d3, w2, ?_, inv_cm O R M (C1.hs f2) f12 f3, f12.cs2⟩
      unfold fX12_thought
      rw [isSet_m M2.2.2.1 hβ ht, Option.bind_some]
      refine (jn_b _ _ (decide ((0 ≤ (set : Int) ∧ (set : Int) < ((2 ^ bN (gB σ) : Nat) : Int)) ∧ (0 ≤ (sg : Int) ∧ (sg : Int) < 4) ∧ (p = 0 ∨ p = 1))) (fun k => ?_)).trans ?_
      · simp only [isSign_m hs, isPart_m hp, jn_eq, Option.bind_some]; exact if3 _ _ _ k
      rw [refusal_m M2 O ha, Option.bind_some, if_pos hz, n1, Option.bind_some, if_neg (fun q => hW (n2.mp q)), l3, Option.bind_some]
      refine lp_up 4 (fun i => (K (sm i (upS (sb (gM σ) (gV σ k) (gB σ) set) sg (fun s => VS (gM σ) (gV σ k) s))), K (sm i (upS (sb (gM σ) (gV σ k) (gB σ) set) sg (fun s => WS (gM σ) (gV σ k) s))), J (i : Int))) (fun i hi self => ?_) (fun self => ?_) 6000 (by omega)
      · have h1 : ¬ (4 : Int32) ≤ J (i : Int) := by rw [j4, J_le (by omega) (by omega)]; omega
        have hin : inB (J (i : Int)) 4 = true := by rw [inB_J (by omega)]; omega
        have hix : ix (J (i : Int)) = i := by rw [ix_J (by omega), Int.toNat_natCast]
        have hin0 : inB (J (sg : Int)) 4 = true := by rw [inB_J (by omega)]; omega
        have hix0 : ix (J (sg : Int)) = sg := by rw [ix_J (by omega), Int.toNat_natCast]
        have bi := sb_bd (μ := gM σ) (ν := gV σ k) (set := set) (s := i) hβ
        have b0 := sb_bd (μ := gM σ) (ν := gV σ k) (set := set) (s := sg) hβ
        have c : J ((sb (gM σ) (gV σ k) (gB σ) set) i) = J ((sb (gM σ) (gV σ k) (gB σ) set) sg) ↔ (sb (gM σ) (gV σ k) (gB σ) set) i = (sb (gM σ) (gV σ k) (gB σ) set) sg := J_eq (by omega) (by omega)
        have e1 : (J (i : Int) + 1) = J ((i + 1 : Nat) : Int) := by rw [j1, J_add]; rfl
        have h4 : ∀ j : Nat, j < kN (gM σ) → ¬ d_i d3 23 4 ≤ J (j : Int) := fun j hj => by rw [M3.2.1.2, J_le (by omega) (by omega)]; omega
        simp only [h1, if_false, jn_eq]
        by_cases q : (sb (gM σ) (gV σ k) (gB σ) set) i = (sb (gM σ) (gV σ k) (gB σ) set) sg
        · refine lp_c (kN (gM σ)) (fun j x => x = (K (sm i (upS (sb (gM σ) (gV σ k) (gB σ) set) sg (fun s => VS (gM σ) (gV σ k) s)) + sm j (fun c => kW (gM σ) c * shr (gM σ) (gV σ k) c i * kV (gM σ) c)), K (sm i (upS (sb (gM σ) (gV σ k) (gB σ) set) sg (fun s => WS (gM σ) (gV σ k) s)) + sm j (fun c => kW (gM σ) c * shr (gM σ) (gV σ k) c i)), J (j : Int))) (fun o => o = self (K (sm (i + 1) (upS (sb (gM σ) (gV σ k) (gB σ) set) sg (fun s => VS (gM σ) (gV σ k) s))), K (sm (i + 1) (upS (sb (gM σ) (gV σ k) (gB σ) set) sg (fun s => WS (gM σ) (gV σ k) s))), J ((i + 1 : Nat) : Int))) ?_ ?_ 6000 (by omega) _ (by show _ = (K (sm i (upS (sb (gM σ) (gV σ k) (gB σ) set) sg (fun s => VS (gM σ) (gV σ k) s)) + 0), K (sm i (upS (sb (gM σ) (gV σ k) (gB σ) set) sg (fun s => WS (gM σ) (gV σ k) s)) + 0), _); rw [Int.add_zero, Int.add_zero]; rfl)
          · rintro j hj x rfl self2
            have hinj : inB (J (j : Int)) 4 = true := by rw [inB_J (by omega)]; omega
            have hixj : ix (J (j : Int)) = j := by rw [ix_J (by omega), Int.toNat_natCast]
            have hof := often_val (ρ := ρ) (M3.2.1.1 hop) (M3.2.2.2.1.2 k hk) O.2.1 hν hj (show (0 : Int) ≤ (i : Int) ∧ (i : Int) < 4 by omega)
            have hwv := (M3.2.1.1 hop).2.2.2 j hj
            have hmk := O.2.1.2.2.2 j hj
            have hsh := shr_bd O.2.1 hν j (show (0 : Int) ≤ (i : Int) by omega)
            have e2 : (J (j : Int) + 1) = J ((j + 1 : Nat) : Int) := by rw [j1, J_add]; rfl
            simp only [h4 j hj, if_false, hin, hin0, hinj, if_true, hix, hix0, hixj, h34 i hi, h34 sg (by omega), hof, Option.bind_some, bnd_eq, hwv.1, hwv.2, e2]
            rw [if_pos (c.mpr q), J_l (by omega), J_l (by omega), J_l (by omega), K_mul, K_mul, K_add, K_add]
            refine ⟨_, rfl, ?_⟩
            rw [sm_succ, sm_succ, Int.add_assoc, Int.add_assoc]
          · rintro x rfl self2
            have h5 : d_i d3 23 4 ≤ J (kN (gM σ) : Int) := by rw [M3.2.1.2, J_le (by omega) (by omega)]; omega
            have eV : (upS (sb (gM σ) (gV σ k) (gB σ) set) sg (fun s => VS (gM σ) (gV σ k) s)) i = VS (gM σ) (gV σ k) i := by unfold upS; rw [if_pos q]
            have eW : (upS (sb (gM σ) (gV σ k) (gB σ) set) sg (fun s => WS (gM σ) (gV σ k) s)) i = WS (gM σ) (gV σ k) i := by unfold upS; rw [if_pos q]
            simp only [h5, if_true]
            rw [sm_succ, sm_succ, eV, eW, e1]; rfl
        · refine lp_e (kN (gM σ)) (fun j x => x = (K (sm i (upS (sb (gM σ) (gV σ k) (gB σ) set) sg (fun s => VS (gM σ) (gV σ k) s))), K (sm i (upS (sb (gM σ) (gV σ k) (gB σ) set) sg (fun s => WS (gM σ) (gV σ k) s))), J (j : Int))) (fun o => o = self (K (sm (i + 1) (upS (sb (gM σ) (gV σ k) (gB σ) set) sg (fun s => VS (gM σ) (gV σ k) s))), K (sm (i + 1) (upS (sb (gM σ) (gV σ k) (gB σ) set) sg (fun s => WS (gM σ) (gV σ k) s))), J ((i + 1 : Nat) : Int))) ?_ ?_ 6000 (by omega) _ rfl
          · rintro j hj x rfl self2
            right
            have eV : (upS (sb (gM σ) (gV σ k) (gB σ) set) sg (fun s => VS (gM σ) (gV σ k) s)) i = 0 := by unfold upS; rw [if_neg q]
            have eW : (upS (sb (gM σ) (gV σ k) (gB σ) set) sg (fun s => WS (gM σ) (gV σ k) s)) i = 0 := by unfold upS; rw [if_neg q]
            simp only [h4 j hj, if_false, hin, hin0, if_true, hix, hix0, h34 i hi, h34 sg (by omega)]
            rw [if_neg (fun z => q (c.mp z)), sm_succ, sm_succ, eV, eW, Int.add_zero, Int.add_zero, e1]
          · rintro x rfl self2
            have h5 : d_i d3 23 4 ≤ J (kN (gM σ) : Int) := by rw [M3.2.1.2, J_le (by omega) (by omega)]; omega
            have eV : (upS (sb (gM σ) (gV σ k) (gB σ) set) sg (fun s => VS (gM σ) (gV σ k) s)) i = 0 := by unfold upS; rw [if_neg q]
            have eW : (upS (sb (gM σ) (gV σ k) (gB σ) set) sg (fun s => WS (gM σ) (gV σ k) s)) i = 0 := by unfold upS; rw [if_neg q]
            simp only [h5, if_true]
            rw [sm_succ, sm_succ, eV, eW, Int.add_zero, Int.add_zero, e1]
      · have h1 : (4 : Int32) ≤ J ((4 : Nat) : Int) := by decide
        simp only [h1, if_true]
        rw [tm_val (by omega) (by omega) hp1, Option.bind_some]
  · have hne : ¬ J (rfs σ a true (decide ((0 ≤ t ∧ t < ((2 ^ bN (gB σ) : Nat) : Int)) ∧ (0 ≤ s ∧ s < 4) ∧ (p = 0 ∨ p = 1)))) = 0 := by rcases hbad with h | h | h <;> rw [h] <;> decide
    refine ⟨K (rfL (rfs σ a true (decide ((0 ≤ t ∧ t < ((2 ^ bN (gB σ) : Nat) : Int)) ∧ (0 ≤ s ∧ s < 4) ∧ (p = 0 ∨ p = 1))))), d, d, ?_, ?_, ⟨σ, O, R, C, M⟩, rfl⟩
    · unfold fX11_thought
      rw [isSet_val B hβ ht, Option.bind_some]
      refine (jn_b _ _ (decide ((0 ≤ t ∧ t < ((2 ^ bN (gB σ) : Nat) : Int)) ∧ (0 ≤ s ∧ s < 4) ∧ (p = 0 ∨ p = 1))) (fun k => ?_)).trans ?_
      · simp only [isSign_c hs, isPart_c hp, jn_eq, Option.bind_some]; exact if3 _ _ _ k
      rw [refusal_c R O ha, Option.bind_some, if_neg hne, refusedPart_val hbad, Option.bind_some]
    · unfold fX12_thought
      rw [isSet_m M.2.2.1 hβ ht, Option.bind_some]
      refine (jn_b _ _ (decide ((0 ≤ t ∧ t < ((2 ^ bN (gB σ) : Nat) : Int)) ∧ (0 ≤ s ∧ s < 4) ∧ (p = 0 ∨ p = 1))) (fun k => ?_)).trans ?_
      · simp only [isSign_m hs, isPart_m hp, jn_eq, Option.bind_some]; exact if3 _ _ _ k
      rw [refusal_m M O ha, Option.bind_some, if_neg hne, asLong_val hbad, Option.bind_some]
