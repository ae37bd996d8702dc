/-! wrongly -/
theorem isCase_any {ρ : Rh} {d : Dd} (x : Int32) : ∃ r, fX11_isCase ρ d x = some r := by
  unfold fX11_isCase
  by_cases h : x < 0
  · exact ⟨false, by rw [if_pos h]⟩
  · by_cases h2 : d_i d ρ.1 2 ≤ x
    · exact ⟨false, by rw [if_neg h, if_pos h2]⟩
    · exact ⟨true, by rw [if_neg h, if_neg h2]⟩
theorem if2b {γ : Type} (A : Prop) [Decidable A] (r : Bool) (k : Bool → γ) : (if decide A = true then (if r = true then k true else k false) else k false) = k (decide (A ∧ r = true)) := by
  by_cases hA : A <;> cases r <;> simp [hA]
theorem rfs_shut {σ : Sg} (h : ¬ 0 < kN (gM σ)) (a : Int) (n1 i1 n2 i2 : Bool) : rfs σ a n1 i1 = rfs σ a n2 i2 := by
  have e : kN (gM σ) = 0 := by omega
  unfold rfs
  rw [if_pos e, if_pos e]
theorem rfs_shut_bad {σ : Sg} (h : ¬ 0 < kN (gM σ)) (a : Int) (n i : Bool) : rfs σ a n i = -101 ∨ rfs σ a n i = -102 ∨ rfs σ a n i = -103 := by
  rcases rfs_cases σ a n i with ⟨-, -, -, q, -, -⟩ | q
  · exact absurd q h
  · exact q
theorem takeCase_val {ρ : Rh} {d : Dd} {m o : Nat} {μ : Mk} {ν : Nw} (M : MktAt d m μ) (N : NewAt d ρ o ν) (h : mkOK μ) (hn : nwOK ν) (ho : o ≠ 0) {c : Nat} (hc : c < kN μ) : fX3_takeCase ρ d m o (J c) = some (hr3 d 100 (100 * kV μ c) ((kV μ c - kB μ) * (100 - nr ν))) := by
  have hv := (h.2.2.2 c hc).2
  have e : dL (dL (dL d 13 0 100) 13 1 (K (100 * kV μ c))) 13 2 0 = hr3 d 100 (100 * kV μ c) 0 := rfl
  have e0 : d_l (dL d 13 0 100) 13 0 = 100 := dL_s
  have hvo := valueOf_val (ρ := ρ) (d := dL d 13 0 100) (o := m) (μ := μ) M h hc
  unfold fX3_takeCase
  rw [bnd_eq, hvo, Option.bind_some, bnd_eq, bnd_eq, e0, J_l (by omega), k100, K_mul, ← k100, e, if_neg ho, narrow_val M N h hn (e := (kV μ c - kB μ) * (100 - nr ν)) (by omega) (by omega) (by grind), Option.bind_some]
theorem op20 : Op20 Inv := by
  rintro d ρ ⟨σ, O, R, C, M⟩ x1 x2 x3 x4 x5 x6
  obtain ⟨a, ha, rfl⟩ := J_of x1
  obtain ⟨t, ht, rfl⟩ := J_of x2
  obtain ⟨s, hs, rfl⟩ := J_of x3
  obtain ⟨c, hc, rfl⟩ := J_of x4
  obtain ⟨b, hb, rfl⟩ := J_of x5
  obtain ⟨p, hp, rfl⟩ := J_of x6
  have hβ := O.2.2.1
  have B := R.2.2.2.1
  have hN := hβ.1
  have h2N := two_le hN
  have hk8 := O.2.2.2.1.1
  by_cases hop0 : ¬ 0 < kN (gM σ)
  · obtain ⟨rr, hrr⟩ := isCase_any (ρ := ρ) (d := d) (J c)
    have hbad := rfs_shut_bad hop0 a true true
    have hne : ¬ J (rfs σ a true true) = 0 := by rcases hbad with h | h | h <;> rw [h] <;> decide
    refine ⟨K (rfL (rfs σ a true true)), d, d, ?_, ?_, ⟨σ, O, R, C, M⟩, rfl⟩
    · unfold fX11_wrongly
      rw [isSet_val B hβ ht, Option.bind_some]
      refine (jn_b _ _ (decide ((0 ≤ t ∧ t < ((2 ^ bN (gB σ) : Nat) : Int)) ∧ (0 ≤ s ∧ s < 4) ∧ (p = 0 ∨ p = 1))) (fun k => ?_)).trans ?_
      · simp only [isSign_c hs, isPart_c hp, jn_eq, Option.bind_some]; exact if3 _ _ _ k
      rw [has_c B hβ hb, Option.bind_some]
      refine (jn_b _ _ (decide ((0 ≤ b ∧ b < (bN (gB σ) : Int)) ∧ rr = true)) (fun k => ?_)).trans ?_
      · rw [hrr, jn_eq, Option.bind_some]; exact if2b _ _ k
      rw [refusal_c R O ha, Option.bind_some, rfs_shut hop0 a _ _ true true, if_neg hne, refusedPart_val hbad, Option.bind_some]
    · unfold fX12_wrongly
      rw [isBuyer_m M.2.2.1 hβ hb, Option.bind_some]
      refine (jn_b _ _ (decide ((0 ≤ b ∧ b < (bN (gB σ) : Int)) ∧ (0 ≤ c ∧ c < (kN (gM σ) : Int)))) (fun k => ?_)).trans ?_
      · rw [isCase_m M O hc, jn_eq, Option.bind_some]; exact if2 _ _ k
      rw [isSet_m M.2.2.1 hβ ht, Option.bind_some]
      refine (jn_b _ _ (decide ((0 ≤ t ∧ t < ((2 ^ bN (gB σ) : Nat) : Int)) ∧ (0 ≤ s ∧ s < 4) ∧ (p = 0 ∨ p = 1))) (fun k => ?_)).trans ?_
      · simp only [isSign_m hs, isPart_m hp, jn_eq, Option.bind_some]; exact if3 _ _ _ k
      rw [refusal_m M O ha, Option.bind_some, rfs_shut hop0 a _ _ true true, if_neg hne, asLong_val hbad, Option.bind_some]
  have hop : 0 < kN (gM σ) := by omega
  rcases rfs_cases σ a (decide ((0 ≤ b ∧ b < (bN (gB σ) : Int)) ∧ (0 ≤ c ∧ c < (kN (gM σ) : Int)))) (decide ((0 ≤ t ∧ t < ((2 ^ bN (gB σ) : Nat) : Int)) ∧ (0 ≤ s ∧ s < 4) ∧ (p = 0 ∨ p = 1))) with ⟨h0, ha0, ha1, -, hnm, hins⟩ | hbad
  · obtain ⟨hb4, hc4⟩ := of_decide_eq_true hnm
    obtain ⟨ht4, hs4, hp1⟩ := of_decide_eq_true hins
    have hz : J (rfs σ a (decide ((0 ≤ b ∧ b < (bN (gB σ) : Int)) ∧ (0 ≤ c ∧ c < (kN (gM σ) : Int)))) (decide ((0 ≤ t ∧ t < ((2 ^ bN (gB σ) : Nat) : Int)) ∧ (0 ≤ s ∧ s < 4) ∧ (p = 0 ∨ p = 1)))) = 0 := by rw [h0]; rfl
    obtain ⟨k, rfl⟩ : ∃ k : Nat, a = (k : Int) := ⟨a.toNat, by omega⟩
    obtain ⟨set, rfl⟩ : ∃ k : Nat, t = (k : Int) := ⟨t.toNat, by omega⟩
    obtain ⟨sg, rfl⟩ : ∃ k : Nat, s = (k : Int) := ⟨s.toNat, by omega⟩
    obtain ⟨cc, rfl⟩ : ∃ k : Nat, c = (k : Int) := ⟨c.toNat, by omega⟩
    obtain ⟨i, rfl⟩ : ∃ k : Nat, b = (k : Int) := ⟨b.toNat, by omega⟩
    have hset : set < 2 ^ bN (gB σ) := by omega
    have hk : k < gN σ := by omega
    have hi : i < bN (gB σ) := by omega
    have hcc : cc < kN (gM σ) := by omega
    have hkN := O.2.1.2.2.1
    have hν := O.2.2.2.1.2 k hk
    obtain ⟨d1, s1, f1, C1, row, -⟩ := settle_val R O C hop hk hset
    have R1 := R.fr f1
    have M1 := M.frC f1
    obtain ⟨m1, m2, m3⟩ := hear_m (ρ := ρ) M1 O hop hk hs4
    have hdt := dealtFor_row (ρ := ρ) row (by omega) (by omega) (s := sg) (by omega)
    by_cases hW : WS (gM σ) (gV σ k) (sg : Int) = 0
    · rw [DT_never hW] at hdt
      refine ⟨-1000000000000000004, d1, d1, ?_, ?_, inv_cm O R M C1 f1 Fr.rf, f1.cs2⟩
      · unfold fX11_wrongly
        rw [isSet_val B hβ ht, Option.bind_some]
        refine (jn_b _ _ (decide ((0 ≤ (set : Int) ∧ (set : Int) < ((2 ^ bN (gB σ) : Nat) : Int)) ∧ (0 ≤ (sg : Int) ∧ (sg : Int) < 4) ∧ (p = 0 ∨ p = 1))) (fun k => ?_)).trans ?_
        · simp only [isSign_c hs, isPart_c hp, jn_eq, Option.bind_some]; exact if3 _ _ _ k
        rw [has_c B hβ hb, Option.bind_some]
        refine (jn_b _ _ (decide ((0 ≤ (i : Int) ∧ (i : Int) < (bN (gB σ) : Int)) ∧ (0 ≤ (cc : Int) ∧ (cc : Int) < (kN (gM σ) : Int)))) (fun k => ?_)).trans ?_
        · rw [isCase_c (R.2.2.1.1 hop) O.2.1 hc, jn_eq, Option.bind_some]; exact if2 _ _ k
        rw [refusal_c R O ha, Option.bind_some, if_pos hz, s1, Option.bind_some, hdt, Option.bind_some, if_pos jm1.symm]
      · unfold fX12_wrongly
        rw [isBuyer_m M1.2.2.1 hβ hb, Option.bind_some]
        refine (jn_b _ _ (decide ((0 ≤ (i : Int) ∧ (i : Int) < (bN (gB σ) : Int)) ∧ (0 ≤ (cc : Int) ∧ (cc : Int) < (kN (gM σ) : Int)))) (fun k => ?_)).trans ?_
        · rw [isCase_m M1 O hc, jn_eq, Option.bind_some]; exact if2 _ _ k
        rw [isSet_m M1.2.2.1 hβ ht, Option.bind_some]
        refine (jn_b _ _ (decide ((0 ≤ (set : Int) ∧ (set : Int) < ((2 ^ bN (gB σ) : Nat) : Int)) ∧ (0 ≤ (sg : Int) ∧ (sg : Int) < 4) ∧ (p = 0 ∨ p = 1))) (fun k => ?_)).trans ?_
        · simp only [isSign_m hs, isPart_m hp, jn_eq, Option.bind_some]; exact if3 _ _ _ k
        rw [refusal_m M1 O ha, Option.bind_some, if_pos hz, m1, Option.bind_some, if_pos (m2.mpr hW)]
    · obtain ⟨z, hz1, hz7, hz2, hsc, -, -⟩ := DT_ex (μ := gM σ) (ν := gV σ k) (set := set) hβ hW
      rw [hz1] at hdt
      have hnz : ¬ J (z : Int) = -1 := by rw [jm1, J_eq (by omega) (by omega)]; omega
      have hnw := newsAt_in R1 O hk
      have htc := takeCase_val (ρ := ρ) (R1.2.2.1.1 hop) (R1.2.2.2.2.1.2.2 k hk) O.2.1 hν (by omega) hcc
      have hvb := (O.2.1.2.2.2 cc hcc).2
      have hBb := O.2.1.1
      have hSb := O.2.1.2.1
      have hnr : 0 ≤ nr (gV σ k) ∧ nr (gV σ k) ≤ 100 := by
        have q1 := hν.1
        have q2 := hν.2.1
        unfold nr; split
        · next e => have := hν.2.2 (by omega); omega
        · omega
      have hEb := ab_mul 999 100 (x := kV (gM σ) cc - kB (gM σ)) (y := 100 - nr (gV σ k)) (by omega) (by omega)
      have hnb := ab_mul 100 999 (x := nr (gV σ k)) (y := kV (gM σ) cc - kB (gM σ)) (by omega) (by omega)
      have f2 : Fr HS d1 (bg (hr3 d1 100 (100 * kV (gM σ) cc) ((kV (gM σ) cc - kB (gM σ)) * (100 - nr (gV σ k)))) 100 ((kV (gM σ) cc - kB (gM σ)) * (100 - nr (gV σ k))) (kS (gM σ)) set) := bg_fr Fr.rf
      have R2 := R1.fr f2.cs
      have D2 : DealAt (bg (hr3 d1 100 (100 * kV (gM σ) cc) ((kV (gM σ) cc - kB (gM σ)) * (100 - nr (gV σ k)))) 100 ((kV (gM σ) cc - kB (gM σ)) * (100 - nr (gV σ k))) (kS (gM σ)) set) (100, ((kV (gM σ) cc - kB (gM σ)) * (100 - nr (gV σ k))), kS (gM σ)) set := bg_D
      have hη : hgOK (100, ((kV (gM σ) cc - kB (gM σ)) * (100 - nr (gV σ k))), kS (gM σ)) := ⟨⟨by show (0 : Int) ≤ 100; decide, by show (100 : Int) ≤ 200000; decide⟩, ⟨by show -1000000000 ≤ ((kV (gM σ) cc - kB (gM σ)) * (100 - nr (gV σ k))); omega, by show ((kV (gM σ) cc - kB (gM σ)) * (100 - nr (gV σ k))) ≤ 1000000000; omega⟩, hSb⟩
      have hd2 := deal_val (ρ := ρ) R2.2.2.2.1 R2.1.1 hβ (show z < 2401 by omega)
      have f3 := f2.sv (x := xs (gB σ) z) (T := TT (gB σ) z) ⟨fun _ => (by unfold HS; omega), (by unfold HS; omega)⟩
      have R3 := R1.fr f3.cs
      have M3 := M1.frC f3.cs
      have C3 := C1.hs f3
      have hst := st_bd z i
      have hTT := TT_bd hβ z
      have exs : xs (gB σ) z i = st z i := by unfold xs; rw [if_pos hi]
      have efe : fee (gB σ) i = bF (gB σ) i := by unfold fee; rw [if_pos hi]
      have hgn := gain_val (ρ := ρ) (D2.sv (xs (gB σ) z) (TT (gB σ) z)) R3.2.2.2.1 hη hβ (show i < 4 by omega) (x := st z i) (T := TT (gB σ) z) (e := 0) (by rw [sv_s (by omega), exs]) sv_t (by omega) (by omega) (by omega)
      rw [Int.add_zero, Int.add_zero, efe] at hgn
      have hfe := (hβ.2 i hi).2
      have hgb : -5000000000 ≤ gn 100 ((kV (gM σ) cc - kB (gM σ)) * (100 - nr (gV σ k))) (kS (gM σ)) (bF (gB σ) i) (st z i) (TT (gB σ) z) ∧ gn 100 ((kV (gM σ) cc - kB (gM σ)) * (100 - nr (gV σ k))) (kS (gM σ)) (bF (gB σ) i) (st z i) (TT (gB σ) z) ≤ 5000000000 := (gn_bd hη.1 hη.2.1 hη.2.2 (f := bF (gB σ) i) (x := st z i) (T := TT (gB σ) z) (by omega) (by omega) (by omega)).2.2.2.2.2.2
      have hsl : d_i (hr3 d1 100 (100 * kV (gM σ) cc) ((kV (gM σ) cc - kB (gM σ)) * (100 - nr (gV σ k)))) ρ.1 1 = J (kS (gM σ)) := (hr3_i _ _ _ _ _ _).trans (R1.2.2.1.1 hop).2.1
      have h16 : d_l (sv (bg (hr3 d1 100 (100 * kV (gM σ) cc) ((kV (gM σ) cc - kB (gM σ)) * (100 - nr (gV σ k)))) 100 ((kV (gM σ) cc - kB (gM σ)) * (100 - nr (gV σ k))) (kS (gM σ)) set) (xs (gB σ) z) (TT (gB σ) z)) 13 0 = K 100 := (sv_l 13 0).trans bg_16
      have mM := M3.2.1.1 hop
      obtain ⟨d4, hdl3, f4, -, -⟩ := dealt_m (ρ := ρ) M3 O hop hk hs4 (show set < 16 by omega) (w := -1) (by omega)
      rw [hsc] at hdl3
      obtain ⟨n1, n2, -⟩ := hear_m (ρ := ρ) M3 O hop hk hs4
      have M4 := M3.frM f4
      refine ⟨K (frc (gn 100 ((kV (gM σ) cc - kB (gM σ)) * (100 - nr (gV σ k))) (kS (gM σ)) (bF (gB σ) i) (st z i) (TT (gB σ) z)) 100 p), _, d4, ?_, ?_, inv_cm O R M C3 (f1.tr f3.cs) f4, (f1.tr f3.cs).cs2⟩
      · unfold fX11_wrongly
        rw [isSet_val B hβ ht, Option.bind_some]
        refine (jn_b _ _ (decide ((0 ≤ (set : Int) ∧ (set : Int) < ((2 ^ bN (gB σ) : Nat) : Int)) ∧ (0 ≤ (sg : Int) ∧ (sg : Int) < 4) ∧ (p = 0 ∨ p = 1))) (fun k => ?_)).trans ?_
        · simp only [isSign_c hs, isPart_c hp, jn_eq, Option.bind_some]; exact if3 _ _ _ k
        rw [has_c B hβ hb, Option.bind_some]
        refine (jn_b _ _ (decide ((0 ≤ (i : Int) ∧ (i : Int) < (bN (gB σ) : Int)) ∧ (0 ≤ (cc : Int) ∧ (cc : Int) < (kN (gM σ) : Int)))) (fun k => ?_)).trans ?_
        · rw [isCase_c (R.2.2.1.1 hop) O.2.1 hc, jn_eq, Option.bind_some]; exact if2 _ _ k
        have hmb : fX2_madeBy ρ (bg (hr3 d1 100 (100 * kV (gM σ) cc) ((kV (gM σ) cc - kB (gM σ)) * (100 - nr (gV σ k)))) 100 ((kV (gM σ) cc - kB (gM σ)) * (100 - nr (gV σ k))) (kS (gM σ)) set) (J (z : Int)) (J (i : Int)) = some (K (gn 100 ((kV (gM σ) cc - kB (gM σ)) * (100 - nr (gV σ k))) (kS (gM σ)) (bF (gB σ) i) (st z i) (TT (gB σ) z)), sv (bg (hr3 d1 100 (100 * kV (gM σ) cc) ((kV (gM σ) cc - kB (gM σ)) * (100 - nr (gV σ k)))) 100 ((kV (gM σ) cc - kB (gM σ)) * (100 - nr (gV σ k))) (kS (gM σ)) set) (xs (gB σ) z) (TT (gB σ) z)) := by
          unfold fX2_madeBy
          rw [hd2, Option.bind_some, j0, hgn, Option.bind_some]
        rw [refusal_c R O ha, Option.bind_some, if_pos hz, s1, Option.bind_some, hdt, Option.bind_some, if_neg hnz, hnw, Option.bind_some, htc, Option.bind_some, hsl, begin_x, Option.bind_some, hmb, Option.bind_some, h16, pt_val (by omega) (by omega) hp1, Option.bind_some]
      · unfold fX12_wrongly
        rw [isBuyer_m M3.2.2.1 hβ hb, Option.bind_some]
        refine (jn_b _ _ (decide ((0 ≤ (i : Int) ∧ (i : Int) < (bN (gB σ) : Int)) ∧ (0 ≤ (cc : Int) ∧ (cc : Int) < (kN (gM σ) : Int)))) (fun k => ?_)).trans ?_
        · rw [isCase_m M3 O hc, jn_eq, Option.bind_some]; exact if2 _ _ k
        rw [isSet_m M3.2.2.1 hβ ht, Option.bind_some]
        refine (jn_b _ _ (decide ((0 ≤ (set : Int) ∧ (set : Int) < ((2 ^ bN (gB σ) : Nat) : Int)) ∧ (0 ≤ (sg : Int) ∧ (sg : Int) < 4) ∧ (p = 0 ∨ p = 1))) (fun k => ?_)).trans ?_
        · simp only [isSign_m hs, isPart_m hp, jn_eq, Option.bind_some]; exact if3 _ _ _ k
        have hin4 : inB (J (cc : Int)) 4 = true := by rw [inB_J (by omega)]; omega
        have hin5 : inB (J (i : Int)) 4 = true := by rw [inB_J (by omega)]; omega
        have vV : ∀ d4, RM d4 σ → d_i d4 26 (ix (J (cc : Int))) = J (kV (gM σ) cc) := fun d4 M4 => by rw [ix_J (by omega), Int.toNat_natCast]; exact ((M4.2.1.1 hop).2.2.2 cc hcc).2
        have vF : ∀ d4, RM d4 σ → d_i d4 30 (ix (J (i : Int))) = J (bF (gB σ) i) := fun d4 M4 => by rw [ix_J (by omega), Int.toNat_natCast]; exact (M4.2.2.1.2 i hi).2
        have vB := baseOf_val (ρ := ρ) (M4.2.1.1 hop) (M4.2.2.2.1.2 k hk) O.2.1 hν hcc
        have vT := together_val (ρ := ρ) M4.2.2.1 hβ hz2
        have cx : (0 : Int32) ≤ J (st z i) ↔ 0 ≤ st z i := by rw [j0]; exact J_le (by omega) (by omega)
        have hab : 0 ≤ ab (st z i) ∧ ab (st z i) ≤ 3 := by unfold ab; split <;> omega
        have hST := ab_mul 9 12 (x := kS (gM σ)) (y := TT (gB σ) z) (by omega) (by omega)
        have e100 : 100 * kS (gM σ) * TT (gB σ) z = 100 * (kS (gM σ) * TT (gB σ) z) := by grind
        have hST2 : -10800 ≤ 100 * kS (gM σ) * TT (gB σ) z ∧ 100 * kS (gM σ) * TT (gB σ) z ≤ 10800 := by rw [e100]; omega
        have fin : ∀ y : Int, y = ab (st z i) → (if inB (J (cc : Int)) 4 = true then ((fX12_baseOf ρ d4 (J (k : Int)) (J (cc : Int))).bind fun r13 => (fX12_together ρ d4 (J (z : Int))).bind fun r14 => if inB (J (i : Int)) 4 = true then (bnd ((((Int32.toInt64 (J (st z i))) * (Int32.toInt64 (((100 * (d_i d4 26 (ix (J (cc : Int))))) - r13) - ((100 * (d_i d4 23 3)) * r14)))) - ((100 * (Int32.toInt64 (d_i d4 30 (ix (J (i : Int)))))) * (Int32.toInt64 (J y)))) : Int64) fun v15 => (fX12_term v15 100 (J p)).bind fun r16 => some (r16, d4)) else none) else none) = some (K (frc (gn 100 ((kV (gM σ) cc - kB (gM σ)) * (100 - nr (gV σ k))) (kS (gM σ)) (bF (gB σ) i) (st z i) (TT (gB σ) z)) 100 p), d4) := by
          rintro y rfl
          rw [if_pos hin4, vB, Option.bind_some, vT, Option.bind_some, if_pos hin5, bnd_eq, vV _ M4, vF _ M4, (M4.2.1.1 hop).2.1, j100, k100, J_mul, J_sub, J_mul, J_mul, J_sub, J_l (by omega), J_l (by omega), J_l (by omega), J_l (by omega), K_mul, K_mul, K_mul, K_sub]
          have e : st z i * (100 * kV (gM σ) cc - (100 * kB (gM σ) + nr (gV σ k) * (kV (gM σ) cc - kB (gM σ))) - 100 * kS (gM σ) * TT (gB σ) z) - 100 * bF (gB σ) i * ab (st z i) = gn 100 ((kV (gM σ) cc - kB (gM σ)) * (100 - nr (gV σ k))) (kS (gM σ)) (bF (gB σ) i) (st z i) (TT (gB σ) z) := by
            unfold gn; grind
          rw [e, tm_val (by omega) (by omega) hp1, Option.bind_some]
        rw [refusal_m M3 O ha, Option.bind_some, if_pos hz, n1, Option.bind_some, if_neg (fun q => hW (n2.mp q)), jm1, hdl3, Option.bind_some, stepsOf_val hz2 (show i < 4 by omega), Option.bind_some, jn_eq]
        by_cases q : 0 ≤ st z i
        · rw [if_pos (cx.mpr q)]
          exact fin (st z i) (by unfold ab; rw [if_pos q])
        · rw [if_neg (fun y => q (cx.mp y)), J_neg]
          exact fin (-st z i) (by unfold ab; rw [if_neg q])
  · have hne : ¬ J (rfs σ a (decide ((0 ≤ b ∧ b < (bN (gB σ) : Int)) ∧ (0 ≤ c ∧ c < (kN (gM σ) : Int)))) (decide ((0 ≤ t ∧ t < ((2 ^ bN (gB σ) : Nat) : Int)) ∧ (0 ≤ s ∧ s < 4) ∧ (p = 0 ∨ p = 1)))) = 0 := by rcases hbad with h | h | h <;> rw [h] <;> decide
    refine ⟨K (rfL (rfs σ a (decide ((0 ≤ b ∧ b < (bN (gB σ) : Int)) ∧ (0 ≤ c ∧ c < (kN (gM σ) : Int)))) (decide ((0 ≤ t ∧ t < ((2 ^ bN (gB σ) : Nat) : Int)) ∧ (0 ≤ s ∧ s < 4) ∧ (p = 0 ∨ p = 1))))), d, d, ?_, ?_, ⟨σ, O, R, C, M⟩, rfl⟩
    · unfold fX11_wrongly
      rw [isSet_val B hβ ht, Option.bind_some]
      refine (jn_b _ _ (decide ((0 ≤ t ∧ t < ((2 ^ bN (gB σ) : Nat) : Int)) ∧ (0 ≤ s ∧ s < 4) ∧ (p = 0 ∨ p = 1))) (fun k => ?_)).trans ?_
      · simp only [isSign_c hs, isPart_c hp, jn_eq, Option.bind_some]; exact if3 _ _ _ k
      rw [has_c B hβ hb, Option.bind_some]
      refine (jn_b _ _ (decide ((0 ≤ b ∧ b < (bN (gB σ) : Int)) ∧ (0 ≤ c ∧ c < (kN (gM σ) : Int)))) (fun k => ?_)).trans ?_
      · rw [isCase_c (R.2.2.1.1 hop) O.2.1 hc, jn_eq, Option.bind_some]; exact if2 _ _ k
      rw [refusal_c R O ha, Option.bind_some, if_neg hne, refusedPart_val hbad, Option.bind_some]
    · unfold fX12_wrongly
      rw [isBuyer_m M.2.2.1 hβ hb, Option.bind_some]
      refine (jn_b _ _ (decide ((0 ≤ b ∧ b < (bN (gB σ) : Int)) ∧ (0 ≤ c ∧ c < (kN (gM σ) : Int)))) (fun k => ?_)).trans ?_
      · rw [isCase_m M O hc, jn_eq, Option.bind_some]; exact if2 _ _ k
      rw [isSet_m M.2.2.1 hβ ht, Option.bind_some]
      refine (jn_b _ _ (decide ((0 ≤ t ∧ t < ((2 ^ bN (gB σ) : Nat) : Int)) ∧ (0 ≤ s ∧ s < 4) ∧ (p = 0 ∨ p = 1))) (fun k => ?_)).trans ?_
      · simp only [isSign_m hs, isPart_m hp, jn_eq, Option.bind_some]; exact if3 _ _ _ k
      rw [refusal_m M O ha, Option.bind_some, if_neg hne, asLong_val hbad, Option.bind_some]
