/-! rests -/
def HS (o _ : Nat) : Prop := o = 13 ∨ o = 14 ∨ o = 18
theorem Fr.cs {d d1 : Dd} (f : Fr HS d d1) : Fr CS d d1 := f.mono (fun o k h => by unfold HS at h; unfold CS; omega)
theorem CacheOK.hs {d d1 : Dd} {σ : Sg} (C : CacheOK d σ) (f : Fr HS d d1) : CacheOK d1 σ := C.gfr f (fun k => by unfold HS; omega)
def bg (d : Dd) (a c S : Int) (set : Nat) : Dd := dI (dI (dL (dL d 14 4 (K a)) 14 5 (K c)) 14 6 (J S)) 14 3 (J set)
theorem begin_x {ρ : Rh} {d : Dd} {a b c S : Int} {set : Nat} : fX2_begin ρ (hr3 d a b c) (J S) (J set) = some (bg (hr3 d a b c) a c S set) := by
  unfold fX2_begin bg
  simp only [bnd]
  rw [hr3_0]
  have : d_l (dL (hr3 d a b c) 14 4 (K a)) 13 2 = K c := hr3_2 d a b c
  rw [this]
theorem bg_D {d : Dd} {a c S : Int} {set : Nat} : DealAt (bg d a c S set) (a, c, S) set := by
  refine ⟨?_, ?_, ?_, ?_⟩
  · simp [bg, d_l, dI, dL, set2]
  · simp [bg, d_l, dI, dL, set2]
  · simp [bg, d_i, dI, dL, set2]
  · simp [bg, d_i, dI, dL, set2]
theorem bg_16 {d : Dd} {a b c a' c' S : Int} {set : Nat} : d_l (bg (hr3 d a b c) a' c' S set) 13 0 = K a := by
  have e : d_l (bg (hr3 d a b c) a' c' S set) 13 0 = d_l (dL (dL (hr3 d a b c) 14 4 (K a')) 14 5 (K c')) 13 0 := rfl
  rw [e, dL_o (by omega), dL_o (by omega), hr3_0]
theorem bg_fr {d0 d : Dd} {a b c a' c' S : Int} {set : Nat} (f : Fr HS d0 d) : Fr HS d0 (bg (hr3 d a b c) a' c' S set) :=
  ((((f.hr (fun _ => by unfold HS; omega)).l (by unfold HS; omega)).l (by unfold HS; omega)).i (by unfold HS; omega)).i (by unfold HS; omega)
theorem if3o {γ : Type} (A B C D : Prop) [Decidable A] [Decidable B] [Decidable C] [Decidable D] (k : Bool → γ) : (if decide A = true then (if decide B = true then (if decide C = true then k true else (if decide D = true then k true else k false)) else k false) else k false) = k (decide (A ∧ B ∧ (C ∨ D))) := by
  by_cases hA : A <;> by_cases hB : B <;> by_cases hC : C <;> by_cases hD : D <;> simp [hA, hB, hC, hD]
theorem in1099 {a : Int} (ha : -2147483648 ≤ a ∧ a < 2147483648) : fX12_in (Int32.toInt64 (J a)) 10 99 = some (decide (10 ≤ a ∧ a ≤ 99)) := by
  rw [J_l (by omega), show (10 : Int64) = K 10 from rfl, show (99 : Int64) = K 99 from rfl, in_val (by omega) (by omega) (by omega)]
theorem hear_m {ρ : Rh} {d : Dd} {σ : Sg} (M : RM d σ) (O : sgOK σ) (hop : 0 < kN (gM σ)) {k : Nat} (hk : k < gN σ) {s : Int} (hs : 0 ≤ s ∧ s < 4) : fX12_heardOf ρ d (J k) (J s) = some (J (WS (gM σ) (gV σ k) s)) ∧ (J (WS (gM σ) (gV σ k) s) = 0 ↔ WS (gM σ) (gV σ k) s = 0) ∧ 0 ≤ WS (gM σ) (gV σ k) s ∧ WS (gM σ) (gV σ k) s ≤ 118800 := by
  have hν := O.2.2.2.1.2 k hk
  have hWS := WS_bd O.2.1 hν hs.1 _ (Nat.le_refl (kN (gM σ)))
  have hkN := O.2.1.2.2.1
  have hWb : 0 ≤ WS (gM σ) (gV σ k) s ∧ WS (gM σ) (gV σ k) s ≤ 118800 := by unfold WS; omega
  refine ⟨heardOf_val (M.2.1.1 hop) (M.2.2.2.1.2 k hk) O.2.1 hν hs, ?_, hWb⟩
  rw [j0]; exact J_eq (by omega) (by omega)
theorem dealt_m {ρ : Rh} {d : Dd} {σ : Sg} (M : RM d σ) (O : sgOK σ) (hop : 0 < kN (gM σ)) {k : Nat} (hk : k < gN σ) {s : Int} (hs : 0 ≤ s ∧ s < 4) {set : Nat} (hset : set < 16) {w : Int} (hw : -1000 ≤ w ∧ w ≤ 1000) : ∃ d', fX12_dealtFor ρ d (J k) (J set) (J s) (J w) = some (J (scn (qz (hgS (gM σ) (gV σ k) s) (gB σ) set) (tz (hgS (gM σ) (gV σ k) s) (gB σ)) (7 ^ bN (gB σ))).2.1, d') ∧ Fr MS d d' ∧ d_i d' 23 23 = J (scn (qz (hgS (gM σ) (gV σ k) s) (gB σ) set) (tz (hgS (gM σ) (gV σ k) s) (gB σ)) (7 ^ bN (gB σ))).1 ∧ d_i d' 23 24 = J (ith (qz (hgS (gM σ) (gV σ k) s) (gB σ) set) (tz (hgS (gM σ) (gV σ k) s) (gB σ)) w (7 ^ bN (gB σ))) :=
  ⟨_, mdealt_val (M.2.1.1 hop) (M.2.2.2.1.2 k hk) M.2.2.1 O.2.1 (O.2.2.2.1.2 k hk) O.2.2.1 hs hset hw, fr_dM (fun k h1 h2 => Or.inl ⟨rfl, Or.inr (Or.inl ⟨h1, h2⟩)⟩) Fr.rf, dM_c _ _ _, dM_a _ _ _⟩
theorem ith_bd (q : Nat → Bool) (t : Nat → Int) (i : Int) (z : Nat) : -1 ≤ ith q t i z ∧ ith q t i z ≤ z := by
  rcases scn_at (q := q) (t := t) (i := i) z with h | h <;> omega
theorem op11 : Op11 Inv := by
  rintro d ρ ⟨σ, O, R, C, M⟩ x1 x2 x3 x4
  obtain ⟨a, ha, rfl⟩ := J_of x1
  obtain ⟨t, ht, rfl⟩ := J_of x2
  obtain ⟨s, hs, rfl⟩ := J_of x3
  obtain ⟨w, hw, rfl⟩ := J_of x4
  have hβ := O.2.2.1
  have B := R.2.2.2.1
  have hN := hβ.1
  have h2N := two_le hN
  have hk8 := O.2.2.2.1.1
  have c0 : J w = 0 ↔ w = 0 := by rw [j0]; exact J_eq (by omega) (by omega)
  have c1 : J w = 1 ↔ w = 1 := by rw [j1]; exact J_eq (by omega) (by omega)
  have c2 : J w < 10 ↔ w < 10 := by rw [j10]; exact J_lt (by omega) (by omega)
  have c3 : 99 < J w ↔ 99 < w := by rw [j99]; exact J_lt (by omega) (by omega)
  have hask : ∀ {γ : Type} (k : Bool → γ), (jn (fun (_ : Unit) => k true) fun k18 => if J w = 0 then k18 () else (if J w = 1 then k18 () else (jn (fun (_ : Unit) => k false) fun k20 => if J w < 10 then k20 () else (if 99 < J w then k20 () else k18 ())))) = k (decide ((w = 0 ∨ w = 1) ∨ (10 ≤ w ∧ w ≤ 99))) := by
    intro γ k
    simp only [jn_eq, c0, c1, c2, c3]
    by_cases q : ((w = 0 ∨ w = 1) ∨ (10 ≤ w ∧ w ≤ 99))
    · rw [decide_eq_true q]
      by_cases q0 : w = 0
      · rw [if_pos q0]
      · by_cases q1 : w = 1
        · rw [if_neg q0, if_pos q1]
        · have n2 : ¬ w < 10 := by omega
          have n3 : ¬ 99 < w := by omega
          rw [if_neg q0, if_neg q1, if_neg n2, if_neg n3]
    · rw [decide_eq_false q]
      have q0 : ¬ w = 0 := by omega
      have q1 : ¬ w = 1 := by omega
      by_cases n2 : w < 10
      · rw [if_neg q0, if_neg q1, if_pos n2]
      · have n3 : 99 < w := by omega
        rw [if_neg q0, if_neg q1, if_neg n2, if_pos n3]
  rcases rfs_cases σ a true (decide ((0 ≤ t ∧ t < ((2 ^ bN (gB σ) : Nat) : Int)) ∧ (0 ≤ s ∧ s < 4) ∧ ((w = 0 ∨ w = 1) ∨ (10 ≤ w ∧ w ≤ 99)))) with ⟨h0, ha0, ha1, hop, hnm, hins⟩ | hbad
  · obtain ⟨ht4, hs4, hw1⟩ := of_decide_eq_true hins
    have hz : J (rfs σ a true (decide ((0 ≤ t ∧ t < ((2 ^ bN (gB σ) : Nat) : Int)) ∧ (0 ≤ s ∧ s < 4) ∧ ((w = 0 ∨ w = 1) ∨ (10 ≤ w ∧ w ≤ 99))))) = 0 := by rw [h0]; rfl
    obtain ⟨k, rfl⟩ : ∃ k : Nat, a = (k : Int) := ⟨a.toNat, by omega⟩
    obtain ⟨set, rfl⟩ : ∃ k : Nat, t = (k : Int) := ⟨t.toNat, by omega⟩
    obtain ⟨sg, rfl⟩ : ∃ k : Nat, s = (k : Int) := ⟨s.toNat, by omega⟩
    have hset : set < 2 ^ bN (gB σ) := by omega
    have hk : k < gN σ := by omega
    have hν := O.2.2.2.1.2 k hk
    have hη := hgS_ok O.2.1 hν hs4
    have hwi : (J w - 10) = J (w - 10) := by rw [j10, J_sub]
    by_cases hw2 : w = 1
    · obtain ⟨d1, s1, f1, C1, row, -⟩ := settle_val R O C hop hk hset
      have R1 := R.fr f1
      have M1 := M.frC f1
      obtain ⟨m1, m2, m3⟩ := hear_m (ρ := ρ) M1 O hop hk hs4
      have hdt := dealtFor_row (ρ := ρ) row (by omega) (by omega) (s := sg) (by omega)
      have hc : fX11_rests ρ d (J (k : Int)) (J (set : Int)) (J (sg : Int)) (J w) = some (J (DT (gM σ) (gV σ k) (gB σ) set sg), d1) := by
        unfold fX11_rests
        refine (jn_b _ _ (decide ((w = 0 ∨ w = 1) ∨ (10 ≤ w ∧ w ≤ 99))) (fun k => ?_)).trans ?_
        · exact hask k
        rw [isSet_val B hβ ht, Option.bind_some]
        refine (jn_b _ _ (decide ((0 ≤ (set : Int) ∧ (set : Int) < ((2 ^ bN (gB σ) : Nat) : Int)) ∧ (0 ≤ (sg : Int) ∧ (sg : Int) < 4) ∧ ((w = 0 ∨ w = 1) ∨ (10 ≤ w ∧ w ≤ 99)))) (fun k => ?_)).trans ?_
        · rw [isSign_c hs, jn_eq, Option.bind_some]; exact if3 _ _ _ k
        rw [refusal_c R O ha, Option.bind_some, if_pos hz, if_pos (c1.mpr hw2), s1, Option.bind_some, hdt, Option.bind_some]
      by_cases hW : WS (gM σ) (gV σ k) (sg : Int) = 0
      · refine ⟨_, d1, d1, hc, ?_, inv_cm O R M C1 f1 Fr.rf, f1.cs2⟩
        unfold fX12_rests
        rw [isSet_m M1.2.2.1 hβ ht, Option.bind_some]
        refine (jn_b _ _ (decide ((0 ≤ (set : Int) ∧ (set : Int) < ((2 ^ bN (gB σ) : Nat) : Int)) ∧ (0 ≤ (sg : Int) ∧ (sg : Int) < 4) ∧ ((w = 0 ∨ w = 1) ∨ (10 ≤ w ∧ w ≤ 99)))) (fun k => ?_)).trans ?_
        · simp only [isSign_m hs, in01 hw, in1099 hw, jn_eq, Option.bind_some]; exact if3o _ _ _ _ k
        rw [refusal_m M1 O ha, Option.bind_some, if_pos hz, m1, Option.bind_some, if_pos (m2.mpr hW), DT_never hW]; rfl
      · obtain ⟨z, hz1, -, -, hsc, -, -⟩ := DT_ex (μ := gM σ) (ν := gV σ k) (set := set) hβ hW
        obtain ⟨d2, hdl, fdl, -, -⟩ := dealt_m (ρ := ρ) M1 O hop hk hs4 (show set < 16 by omega) (w := w - 10) (by omega)
        rw [hsc] at hdl
        refine ⟨_, d1, d2, hc, ?_, inv_cm O R M C1 f1 fdl, f1.cs2⟩
        unfold fX12_rests
        rw [isSet_m M1.2.2.1 hβ ht, Option.bind_some]
        refine (jn_b _ _ (decide ((0 ≤ (set : Int) ∧ (set : Int) < ((2 ^ bN (gB σ) : Nat) : Int)) ∧ (0 ≤ (sg : Int) ∧ (sg : Int) < 4) ∧ ((w = 0 ∨ w = 1) ∨ (10 ≤ w ∧ w ≤ 99)))) (fun k => ?_)).trans ?_
        · simp only [isSign_m hs, in01 hw, in1099 hw, jn_eq, Option.bind_some]; exact if3o _ _ _ _ k
        rw [refusal_m M1 O ha, Option.bind_some, if_pos hz, m1, Option.bind_some, if_neg (fun q => hW (m2.mp q)), hwi, hdl, Option.bind_some, if_neg (fun q => by have := c0.mp q; omega), if_pos (c1.mpr hw2), hz1]
    · have hw3 : w = 0 ∨ w = 1 ∨ (10 ≤ w ∧ w ≤ 99) := by omega
      have htk := take_val (ρ := ρ) (R.2.2.1.1 hop) (R.2.2.2.2.1.2.2 k hk) O.2.1 hν (by omega) hs4
      have hwb := (hear_m (ρ := ρ) M O hop hk hs4).2.2
      have hnv := never_val (ρ := ρ) (d := d) (v := VS (gM σ) (gV σ k) (sg : Int)) (e := ES (gM σ) (gV σ k) (sg : Int)) (show -200000 ≤ WS (gM σ) (gV σ k) (sg : Int) ∧ WS (gM σ) (gV σ k) (sg : Int) ≤ 200000 by omega)
      have hnw := newsAt_in R O hk
      by_cases hW : WS (gM σ) (gV σ k) (sg : Int) = 0
      · have f1 : Fr HS d (hr3 d (WS (gM σ) (gV σ k) (sg : Int)) (VS (gM σ) (gV σ k) (sg : Int)) (ES (gM σ) (gV σ k) (sg : Int))) := Fr.rf.hr (fun _ => by unfold HS; omega)
        have M1 := M.frC f1.cs
        obtain ⟨m1, m2, m3⟩ := hear_m (ρ := ρ) M1 O hop hk hs4
        refine ⟨-1, _, _, ?_, ?_, inv_cm O R M (C.hs f1) f1.cs Fr.rf, f1.cs.cs2⟩
        · unfold fX11_rests
          refine (jn_b _ _ (decide ((w = 0 ∨ w = 1) ∨ (10 ≤ w ∧ w ≤ 99))) (fun k => ?_)).trans ?_
          · exact hask k
          rw [isSet_val B hβ ht, Option.bind_some]
          refine (jn_b _ _ (decide ((0 ≤ (set : Int) ∧ (set : Int) < ((2 ^ bN (gB σ) : Nat) : Int)) ∧ (0 ≤ (sg : Int) ∧ (sg : Int) < 4) ∧ ((w = 0 ∨ w = 1) ∨ (10 ≤ w ∧ w ≤ 99)))) (fun k => ?_)).trans ?_
          · rw [isSign_c hs, jn_eq, Option.bind_some]; exact if3 _ _ _ k
          rw [refusal_c R O ha, Option.bind_some, if_pos hz, if_neg (fun q => hw2 (c1.mp q)), hnw, Option.bind_some, htk, Option.bind_some, hnv, Option.bind_some, decide_eq_true hW, if_pos rfl]
        · unfold fX12_rests
          rw [isSet_m M1.2.2.1 hβ ht, Option.bind_some]
          refine (jn_b _ _ (decide ((0 ≤ (set : Int) ∧ (set : Int) < ((2 ^ bN (gB σ) : Nat) : Int)) ∧ (0 ≤ (sg : Int) ∧ (sg : Int) < 4) ∧ ((w = 0 ∨ w = 1) ∨ (10 ≤ w ∧ w ≤ 99)))) (fun k => ?_)).trans ?_
          · simp only [isSign_m hs, in01 hw, in1099 hw, jn_eq, Option.bind_some]; exact if3o _ _ _ _ k
          rw [refusal_m M1 O ha, Option.bind_some, if_pos hz, m1, Option.bind_some, if_pos (m2.mpr hW)]
      · have f1 : Fr HS d (bg (hr3 d (WS (gM σ) (gV σ k) (sg : Int)) (VS (gM σ) (gV σ k) (sg : Int)) (ES (gM σ) (gV σ k) (sg : Int))) (WS (gM σ) (gV σ k) (sg : Int)) (ES (gM σ) (gV σ k) (sg : Int)) (kS (gM σ)) set) := bg_fr Fr.rf
        have R1 := R.fr f1.cs
        obtain ⟨x, T, hlk⟩ := look_val (ρ := ρ) bg_D R1.2.2.2.1 R1.1.1 hη hβ (set_ok hβ hset) (d := bg (hr3 d (WS (gM σ) (gV σ k) (sg : Int)) (VS (gM σ) (gV σ k) (sg : Int)) (ES (gM σ) (gV σ k) (sg : Int))) (WS (gM σ) (gV σ k) (sg : Int)) (ES (gM σ) (gV σ k) (sg : Int)) (kS (gM σ)) set) hw3
        have f2 := f1.sv (x := x) (T := T) ⟨fun _ => (by unfold HS; omega), (by unfold HS; omega)⟩
        have M2 := M.frC f2.cs
        obtain ⟨m1, m2, m3⟩ := hear_m (ρ := ρ) M2 O hop hk hs4
        obtain ⟨d4, hdl, fdl, hd23, hd24⟩ := dealt_m (ρ := ρ) M2 O hop hk hs4 (show set < 16 by omega) (w := w - 10) (by omega)
        have hsl : d_i (hr3 d (WS (gM σ) (gV σ k) (sg : Int)) (VS (gM σ) (gV σ k) (sg : Int)) (ES (gM σ) (gV σ k) (sg : Int))) ρ.1 1 = J (kS (gM σ)) := (hr3_i _ _ _ _ _ _).trans (R.2.2.1.1 hop).2.1
        refine ⟨J (RS (hgS (gM σ) (gV σ k) (sg : Int)) (gB σ) set w), _, d4, ?_, ?_, inv_cm O R M (C.hs f2) f2.cs fdl, f2.cs.cs2⟩
        · unfold fX11_rests
          refine (jn_b _ _ (decide ((w = 0 ∨ w = 1) ∨ (10 ≤ w ∧ w ≤ 99))) (fun k => ?_)).trans ?_
          · exact hask k
          rw [isSet_val B hβ ht, Option.bind_some]
          refine (jn_b _ _ (decide ((0 ≤ (set : Int) ∧ (set : Int) < ((2 ^ bN (gB σ) : Nat) : Int)) ∧ (0 ≤ (sg : Int) ∧ (sg : Int) < 4) ∧ ((w = 0 ∨ w = 1) ∨ (10 ≤ w ∧ w ≤ 99)))) (fun k => ?_)).trans ?_
          · rw [isSign_c hs, jn_eq, Option.bind_some]; exact if3 _ _ _ k
          rw [refusal_c R O ha, Option.bind_some, if_pos hz, if_neg (fun q => hw2 (c1.mp q)), hnw, Option.bind_some, htk, Option.bind_some, hnv, Option.bind_some, decide_eq_false hW, if_neg Bool.false_ne_true, hsl, begin_x, Option.bind_some, hlk, Option.bind_some]; rfl
        · unfold fX12_rests
          rw [isSet_m M2.2.2.1 hβ ht, Option.bind_some]
          refine (jn_b _ _ (decide ((0 ≤ (set : Int) ∧ (set : Int) < ((2 ^ bN (gB σ) : Nat) : Int)) ∧ (0 ≤ (sg : Int) ∧ (sg : Int) < 4) ∧ ((w = 0 ∨ w = 1) ∨ (10 ≤ w ∧ w ≤ 99)))) (fun k => ?_)).trans ?_
          · simp only [isSign_m hs, in01 hw, in1099 hw, jn_eq, Option.bind_some]; exact if3o _ _ _ _ k
          rw [refusal_m M2 O ha, Option.bind_some, if_pos hz, m1, Option.bind_some, if_neg (fun q => hW (m2.mp q)), hwi, hdl, Option.bind_some]
          unfold RS
          by_cases q0 : w = 0
          · rw [if_pos (c0.mpr q0), if_pos q0, hd23]
          · rw [if_neg (fun q => q0 (c0.mp q)), if_neg q0, if_neg (fun q => hw2 (c1.mp q)), if_neg hw2, hd24]
  · have hne : ¬ J (rfs σ a true (decide ((0 ≤ t ∧ t < ((2 ^ bN (gB σ) : Nat) : Int)) ∧ (0 ≤ s ∧ s < 4) ∧ ((w = 0 ∨ w = 1) ∨ (10 ≤ w ∧ w ≤ 99))))) = 0 := by rcases hbad with h | h | h <;> rw [h] <;> decide
    refine ⟨J (rfs σ a true (decide ((0 ≤ t ∧ t < ((2 ^ bN (gB σ) : Nat) : Int)) ∧ (0 ≤ s ∧ s < 4) ∧ ((w = 0 ∨ w = 1) ∨ (10 ≤ w ∧ w ≤ 99))))), d, d, ?_, ?_, ⟨σ, O, R, C, M⟩, rfl⟩
    · unfold fX11_rests
      refine (jn_b _ _ (decide ((w = 0 ∨ w = 1) ∨ (10 ≤ w ∧ w ≤ 99))) (fun k => ?_)).trans ?_
      · exact hask k
      rw [isSet_val B hβ ht, Option.bind_some]
      refine (jn_b _ _ (decide ((0 ≤ t ∧ t < ((2 ^ bN (gB σ) : Nat) : Int)) ∧ (0 ≤ s ∧ s < 4) ∧ ((w = 0 ∨ w = 1) ∨ (10 ≤ w ∧ w ≤ 99)))) (fun k => ?_)).trans ?_
      · rw [isSign_c hs, jn_eq, Option.bind_some]; exact if3 _ _ _ k
      rw [refusal_c R O ha, Option.bind_some, if_neg hne]
    · unfold fX12_rests
      rw [isSet_m M.2.2.1 hβ ht, Option.bind_some]
      refine (jn_b _ _ (decide ((0 ≤ t ∧ t < ((2 ^ bN (gB σ) : Nat) : Int)) ∧ (0 ≤ s ∧ s < 4) ∧ ((w = 0 ∨ w = 1) ∨ (10 ≤ w ∧ w ≤ 99)))) (fun k => ?_)).trans ?_
      · simp only [isSign_m hs, in01 hw, in1099 hw, jn_eq, Option.bind_some]; exact if3o _ _ _ _ k
      rw [refusal_m M O ha, Option.bind_some, if_neg hne]
