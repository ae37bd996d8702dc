/-! dealings run by seed -/
theorem sizes_val {ρ : Rh} {d : Dd} {β : By} (B : BuyAt d β) (P : PlAt d) (hβ : byOK β) {z : Nat} (hz : z < 2401) : fX1_sizesOf ρ d (J z) = some (J (sm (bN β) (fun b => ab (st z b)))) := by
  have hN := hβ.1
  unfold fX1_sizesOf
  refine lp_up (bN β) (fun i => (J (sm i (fun b => ab (st z b))), J (i : Int))) (fun i hi self => ?_) (fun self => ?_) 6000 (by omega)
  · have h1 : ¬ d_i d 15 2 ≤ J (i : Int) := by rw [B.1, J_le (by omega) (by omega)]; omega
    have hs := st_bd z i
    simp only [h1, if_false, stepOf_val P hz (show i < 4 by omega), Option.bind_some, bnd_eq, absI_val (show -1000 ≤ st z i ∧ st z i ≤ 1000 by omega)]
    rw [J_add, j1, J_add]; rfl
  · have h1 : d_i d 15 2 ≤ J (bN β : Int) := by rw [B.1, J_le (by omega) (by omega)]; omega
    simp only [h1, if_true]
theorem ab_0 {x : Int} (h : ab x = 0) : x = 0 := by unfold ab at h; split at h <;> omega
theorem quiet_iff {n z : Nat} (hn : n ≤ 4) (hz : z < 7 ^ n) : sm n (fun b => ab (st z b)) = 0 ↔ (z : Int) = sm n (fun b => 3 * 7 ^ b) := by
  have e0 : num n (fun _ => 0) = sm n (fun b => 3 * 7 ^ b) := by
    unfold num
    exact sm_cong (fun b hb => by rw [Int.zero_add])
  constructor
  · intro h
    have h1 := sm_zero (n := n) (f := fun b => ab (st z b)) (fun i hi => by show 0 ≤ ab (st z i); unfold ab; split <;> omega) h
    rw [← num_st hn hz, ← e0]
    unfold num
    exact sm_cong (fun b hb => by rw [ab_0 (h1 b hb)])
  · intro h
    obtain ⟨a, b, c⟩ := st_num hn (x := fun _ => 0) (fun b hb => by omega)
    have ez : z = (num n (fun _ => 0)).toNat := by rw [e0]; omega
    have : sm n (fun b => ab (st z b)) = sm n (fun _ => 0) := sm_cong (fun b hb => by
      rw [ez, c b hb]; rfl)
    rw [this]
    clear this c ez e0 h hz a b
    induction n with
    | zero => rfl
    | succ n ih => rw [sm_succ, ih (by omega), Int.add_zero]
theorem nobody_bd {n : Nat} (hn : n ≤ 4) : 0 ≤ sm n (fun b => 3 * 7 ^ b) ∧ sm n (fun b => 3 * (7 : Int) ^ b) ≤ 1200 := by
  rcases (show n = 0 ∨ n = 1 ∨ n = 2 ∨ n = 3 ∨ n = 4 by omega) with rfl | rfl | rfl | rfl | rfl <;> simp [sm]
/-- the days: seed, steps, days at rest -/
noncomputable def rnS (μ : Mk) (ν : Nw) (β : By) (set : Nat) (seed : Int) : Nat → Int × Int × Int
  | 0 => (seed, 0, 0)
  | i + 1 =>
    ((hrdS μ ν (nx (rnS μ ν β set seed i).1) (dcs μ (dv (rnS μ ν β set seed i).1 (WT μ))).toNat).1,
     (rnS μ ν β set seed i).2.1 + sm (bN β) (fun b => ab (st (DT μ ν β set (hrdS μ ν (nx (rnS μ ν β set seed i).1) (dcs μ (dv (rnS μ ν β set seed i).1 (WT μ))).toNat).2).toNat b)),
     (rnS μ ν β set seed i).2.2 + (if sm (bN β) (fun b => ab (st (DT μ ν β set (hrdS μ ν (nx (rnS μ ν β set seed i).1) (dcs μ (dv (rnS μ ν β set seed i).1 (WT μ))).toNat).2).toNat b)) = 0 then 1 else 0))
theorem rnS_bd {μ : Mk} {ν : Nw} {β : By} {set : Nat} {seed : Int} (h : mkOK μ) (hn : nwOK ν) (hop : 0 < kN μ) (hs : 0 ≤ seed ∧ seed < 2147483648) (i : Nat) : 0 ≤ (rnS μ ν β set seed i).1 ∧ (rnS μ ν β set seed i).1 < 2147483648 := by
  cases i with
  | zero => exact hs
  | succ i =>
    have hw := (WT_bd h).2 hop
    obtain ⟨c, hc, ec, -, -⟩ := dcs_ex hop (dv_bd (rnS μ ν β set seed i).1 hw).2
    have := (hrdS_is h hn (nx_bd (rnS μ ν β set seed i).1) hc).1
    show 0 ≤ (hrdS μ ν (nx (rnS μ ν β set seed i).1) (dcs μ (dv (rnS μ ν β set seed i).1 (WT μ))).toNat).1 ∧ (hrdS μ ν (nx (rnS μ ν β set seed i).1) (dcs μ (dv (rnS μ ν β set seed i).1 (WT μ))).toNat).1 < 2147483648
    rw [ec, Int.toNat_natCast]
    exact this
theorem RowOK.h19 {d d1 : Dd} {σ : Sg} {k set : Nat} (h : RowOK d σ k set) (f : Fr (fun o _ => o = 19) d d1) : RowOK d1 σ k set :=
  ⟨(f.gi (by omega)).trans h.1, fun s hs => (f.gi (by omega)).trans (h.2.1 s hs), fun b hb => (f.gl (by omega)).trans (h.2.2 b hb)⟩
theorem layDealt_val {ρ : Rh} {d : Dd} {σ : Sg} (M : RM d σ) (O : sgOK σ) (hop : 0 < kN (gM σ)) {k set : Nat} (hk : k < gN σ) (hset : set < 16) :
    ∃ d', fX12_layDealtBySign ρ d (J k) (J set) = some d' ∧ Fr MS d d' ∧ ∀ s : Nat, s < 4 → ¬ WS (gM σ) (gV σ k) s = 0 → d_i d' 34 s = J (DT (gM σ) (gV σ k) (gB σ) set s) := by
  have hβ := O.2.2.1
  have hν := O.2.2.2.1.2 k hk
  have m34 : ∀ k, MS 34 k := fun k => Or.inr (Or.inr (Or.inr (Or.inr rfl)))
  unfold fX12_layDealtBySign
  refine lp_c 4 (fun i x => ∃ d', x = (J (i : Int), d') ∧ Fr MS d d' ∧ ∀ s : Nat, s < i → ¬ WS (gM σ) (gV σ k) s = 0 → d_i d' 34 s = J (DT (gM σ) (gV σ k) (gB σ) set s)) (fun o => ∃ d', o = some d' ∧ Fr MS d d' ∧ ∀ s : Nat, s < 4 → ¬ WS (gM σ) (gV σ k) s = 0 → d_i d' 34 s = J (DT (gM σ) (gV σ k) (gB σ) set s)) ?_ ?_ 6000 (by omega) _ ⟨d, rfl, Fr.rf, fun t ht => absurd ht (Nat.not_lt_zero t)⟩
  · rintro i hi x ⟨d', rfl, f, hv⟩ self
    have M' := M.frM f
    have h1 : ¬ (4 : Int32) ≤ J (i : Int) := by rw [j4, J_le (by omega) (by omega)]; omega
    have hin : inB (J (i : Int)) 4 = true := by rw [inB_J (by omega)]; omega
    have hix : ix (J (i : Int)) = i := by rw [ix_J (by omega), Int.toNat_natCast]
    have hs4 : (0 : Int) ≤ (i : Int) ∧ (i : Int) < 4 := by omega
    obtain ⟨m1, m2, m3⟩ := hear_m (ρ := ρ) M' O hop hk hs4
    by_cases hW : WS (gM σ) (gV σ k) (i : Int) = 0
    · simp only [h1, if_false, m1, Option.bind_some, jn_eq, hin, if_true, hix, bnd_eq]
      rw [if_pos (m2.mpr hW)]
      refine ⟨_, ⟨dI d' 34 i 0, rfl, f.i (m34 i), fun s hs hq => ?_⟩, ?_⟩
      · by_cases e : s = i
        · subst e; exact absurd hW hq
        · rw [dI_o (by omega)]; exact hv s (by omega) hq
      · rw [j1, J_add]; rfl
    · obtain ⟨z, hz, -, hz2, hsc, -, -⟩ := DT_ex (μ := gM σ) (ν := gV σ k) (set := set) hβ hW
      obtain ⟨d3, hdl, fdl⟩ := dealt_w (ρ := ρ) M' O hop hk hs4 hset
      rw [hsc] at hdl
      simp only [h1, if_false, m1, Option.bind_some, jn_eq, hin, if_true, hix, bnd_eq]
      rw [if_neg (fun q => hW (m2.mp q)), jm1, hdl, Option.bind_some]
      refine ⟨_, ⟨dI d3 34 i (J (z : Int)), rfl, (f.tr fdl.ms).i (m34 i), fun s hs hq => ?_⟩, ?_⟩
      · by_cases e : s = i
        · subst e; rw [dI_s, hz]
        · rw [dI_o (by omega), fdl.gi (by unfold MW; omega)]
          exact hv s (by omega) hq
      · rw [j1, J_add]; rfl
  · rintro x ⟨d', rfl, f, hv⟩ self
    have h1 : (4 : Int32) ≤ J ((4 : Nat) : Int) := by decide
    exact ⟨d', by simp only [h1, if_true], f, hv⟩
/-- one day: what is drawn and dealt -/
theorem day_is {μ : Mk} {ν : Nw} {β : By} {set : Nat} {seed : Int} (h : mkOK μ) (hn : nwOK ν) (hβ : byOK β) (hop : 0 < kN μ) (hs : 0 ≤ seed ∧ seed < 2147483648) (i : Nat) :
    ∃ c g z : Nat, c < kN μ ∧ dcs μ (dv (rnS μ ν β set seed i).1 (WT μ)) = (c : Int) ∧ g < 4 ∧ (hrdS μ ν (nx (rnS μ ν β set seed i).1) c).2 = (g : Int) ∧ ¬ WS μ ν g = 0 ∧ DT μ ν β set g = (z : Int) ∧ z < 7 ^ bN β ∧ z < 2401 ∧ (rnS μ ν β set seed (i + 1)).1 = (hrdS μ ν (nx (rnS μ ν β set seed i).1) c).1 ∧ (rnS μ ν β set seed (i + 1)).2.1 = (rnS μ ν β set seed i).2.1 + sm (bN β) (fun b => ab (st z b)) ∧ (rnS μ ν β set seed (i + 1)).2.2 = (rnS μ ν β set seed i).2.2 + (if sm (bN β) (fun b => ab (st z b)) = 0 then 1 else 0) := by
  have hw := (WT_bd h).2 hop
  obtain ⟨c, hc, ec, -, -⟩ := dcs_ex hop (dv_bd (rnS μ ν β set seed i).1 hw).2
  obtain ⟨-, g, hg, eg, hW⟩ := hrdS_is h hn (nx_bd (rnS μ ν β set seed i).1) hc
  obtain ⟨z, hz, hz7, hz2, -, -, -⟩ := DT_ex (set := set) hβ hW
  refine ⟨c, g, z, hc, ec, hg, eg, hW, hz, hz7, hz2, ?_, ?_, ?_⟩
  · show (hrdS μ ν (nx (rnS μ ν β set seed i).1) (dcs μ (dv (rnS μ ν β set seed i).1 (WT μ))).toNat).1 = _
    rw [ec, Int.toNat_natCast]
  · show (rnS μ ν β set seed i).2.1 + sm (bN β) (fun b => ab (st (DT μ ν β set (hrdS μ ν (nx (rnS μ ν β set seed i).1) (dcs μ (dv (rnS μ ν β set seed i).1 (WT μ))).toNat).2).toNat b)) = _
    rw [ec, Int.toNat_natCast, eg, hz, Int.toNat_natCast]
  · show (rnS μ ν β set seed i).2.2 + (if sm (bN β) (fun b => ab (st (DT μ ν β set (hrdS μ ν (nx (rnS μ ν β set seed i).1) (dcs μ (dv (rnS μ ν β set seed i).1 (WT μ))).toNat).2).toNat b)) = 0 then 1 else 0) = _
    rw [ec, Int.toNat_natCast, eg, hz, Int.toNat_natCast]
theorem in1100 {a : Int} (ha : -2147483648 ≤ a ∧ a < 2147483648) : fX12_in (Int32.toInt64 (J a)) 1 100 = some (decide (1 ≤ a ∧ a ≤ 100)) := by
  rw [J_l (by omega), k1, k100, in_val (by omega) (by omega) (by omega)]
theorem in02 {a : Int} (ha : -2147483648 ≤ a ∧ a < 2147483648) : fX12_in (Int32.toInt64 (J a)) 0 2 = some (decide (0 ≤ a ∧ a ≤ 2)) := by
  rw [J_l (by omega), k0, k2, in_val (by omega) (by omega) (by omega)]
theorem op24 : Op24 Inv := by
  rintro d ρ ⟨σ, O, R, C, M⟩ x1 x2 x3 x4 x5
  obtain ⟨a, ha, rfl⟩ := J_of x1
  obtain ⟨t, ht, rfl⟩ := J_of x2
  obtain ⟨e, he, rfl⟩ := J_of x3
  obtain ⟨n, hn, rfl⟩ := J_of x4
  obtain ⟨w, hw, rfl⟩ := J_of x5
  have hβ := O.2.2.1
  have B := R.2.2.2.1
  have hN := hβ.1
  have h2N := two_le hN
  have hk8 := O.2.2.2.1.1
  have c0 : J w = 0 ↔ w = 0 := by rw [j0]; exact J_eq (by omega) (by omega)
  have c1 : J w = 1 ↔ w = 1 := by rw [j1]; exact J_eq (by omega) (by omega)
  have ce : J e < 0 ↔ e < 0 := by rw [j0]; exact J_lt (by omega) (by omega)
  have cn1 : J n < 1 ↔ n < 1 := by rw [j1]; exact J_lt (by omega) (by omega)
  have cn2 : 100 < J n ↔ 100 < n := by rw [j100]; exact J_lt (by omega) (by omega)
  have cw1 : J w < 0 ↔ w < 0 := by rw [j0]; exact J_lt (by omega) (by omega)
  have cw2 : 2 < J w ↔ 2 < w := by rw [j2]; exact J_lt (by omega) (by omega)
  have hin_c : ∀ {γ : Type} (k : Bool → γ), (if decide (0 ≤ t ∧ t < ((2 ^ bN (gB σ) : Nat) : Int)) = true then (if J e < 0 then k false else (if J n < 1 then k false else (if 100 < J n then k false else (if J w < 0 then k false else (if 2 < J w then k false else k true))))) else k false) = k (decide ((0 ≤ t ∧ t < ((2 ^ bN (gB σ) : Nat) : Int)) ∧ 0 ≤ e ∧ (1 ≤ n ∧ n ≤ 100) ∧ (0 ≤ w ∧ w ≤ 2))) := by
    intro γ k
    by_cases q : 0 ≤ t ∧ t < ((2 ^ bN (gB σ) : Nat) : Int)
    · rw [decide_eq_true q, if_pos rfl]
      by_cases q2 : 0 ≤ e ∧ (1 ≤ n ∧ n ≤ 100) ∧ (0 ≤ w ∧ w ≤ 2)
      · have n1 : ¬ J e < 0 := fun z => by have := ce.mp z; omega
        have n2 : ¬ J n < 1 := fun z => by have := cn1.mp z; omega
        have n3 : ¬ 100 < J n := fun z => by have := cn2.mp z; omega
        have n4 : ¬ J w < 0 := fun z => by have := cw1.mp z; omega
        have n5 : ¬ 2 < J w := fun z => by have := cw2.mp z; omega
        rw [if_neg n1, if_neg n2, if_neg n3, if_neg n4, if_neg n5, decide_eq_true ⟨q, q2⟩]
      · rw [decide_eq_false (fun z => q2 z.2)]
        by_cases m1 : J e < 0
        · rw [if_pos m1]
        · by_cases m2 : J n < 1
          · rw [if_neg m1, if_pos m2]
          · by_cases m3 : 100 < J n
            · rw [if_neg m1, if_neg m2, if_pos m3]
            · by_cases m4 : J w < 0
              · rw [if_neg m1, if_neg m2, if_neg m3, if_pos m4]
              · by_cases m5 : 2 < J w
                · rw [if_neg m1, if_neg m2, if_neg m3, if_neg m4, if_pos m5]
                · rw [ce] at m1; rw [cn1] at m2; rw [cn2] at m3; rw [cw1] at m4; rw [cw2] at m5
                  exact absurd (show 0 ≤ e ∧ (1 ≤ n ∧ n ≤ 100) ∧ (0 ≤ w ∧ w ≤ 2) by omega) q2
    · rw [decide_eq_false q, if_neg Bool.false_ne_true, decide_eq_false (fun z => q z.1)]
  have hin_m : ∀ {γ : Type} (k : Bool → γ), (if decide (0 ≤ t ∧ t < ((2 ^ bN (gB σ) : Nat) : Int)) = true then (if J e < 0 then k false else (if decide (1 ≤ n ∧ n ≤ 100) = true then (if decide (0 ≤ w ∧ w ≤ 2) = true then k true else k false) else k false)) else k false) = k (decide ((0 ≤ t ∧ t < ((2 ^ bN (gB σ) : Nat) : Int)) ∧ 0 ≤ e ∧ (1 ≤ n ∧ n ≤ 100) ∧ (0 ≤ w ∧ w ≤ 2))) := by
    intro γ k
    by_cases q : 0 ≤ t ∧ t < ((2 ^ bN (gB σ) : Nat) : Int)
    · rw [decide_eq_true q, if_pos rfl]
      by_cases m1 : J e < 0
      · rw [if_pos m1, decide_eq_false (fun z => by have := ce.mp m1; have := z.2.1; omega)]
      · rw [if_neg m1]
        rw [ce] at m1
        have e1 := if2 (1 ≤ n ∧ n ≤ 100) (0 ≤ w ∧ w ≤ 2) k
        rw [e1]
        congr 1
        exact decide_eq_decide.mpr ⟨fun z => ⟨q, by omega, z.1, z.2⟩, fun z => ⟨z.2.2.1, z.2.2.2⟩⟩
    · rw [decide_eq_false q, if_neg Bool.false_ne_true, decide_eq_false (fun z => q z.1)]
  rcases rfs_cases σ a true (decide ((0 ≤ t ∧ t < ((2 ^ bN (gB σ) : Nat) : Int)) ∧ 0 ≤ e ∧ (1 ≤ n ∧ n ≤ 100) ∧ (0 ≤ w ∧ w ≤ 2))) with ⟨h0, ha0, ha1, hop, hnm, hins⟩ | hbad
  · obtain ⟨ht4, he0, hn1, hw1⟩ := of_decide_eq_true hins
    have hz : J (rfs σ a true (decide ((0 ≤ t ∧ t < ((2 ^ bN (gB σ) : Nat) : Int)) ∧ 0 ≤ e ∧ (1 ≤ n ∧ n ≤ 100) ∧ (0 ≤ w ∧ w ≤ 2)))) = 0 := by rw [h0]; rfl
    obtain ⟨k, rfl⟩ : ∃ k : Nat, a = (k : Int) := ⟨a.toNat, by omega⟩
    obtain ⟨set, rfl⟩ : ∃ k : Nat, t = (k : Int) := ⟨t.toNat, by omega⟩
    obtain ⟨dy, rfl⟩ : ∃ k : Nat, n = (k : Int) := ⟨n.toNat, by omega⟩
    have hset : set < 2 ^ bN (gB σ) := by omega
    have hk : k < gN σ := by omega
    have hν := O.2.2.2.1.2 k hk
    have hkN := O.2.1.2.2.1
    have hWT := WT_bd O.2.1
    have hWT1 := hWT.2 hop
    have hsd : 0 ≤ e ∧ e < 2147483648 := by omega
    have hr := rnS_bd (β := gB σ) (set := set) O.2.1 hν hop hsd
    have day := day_is (set := set) O.2.1 hν hβ hop hsd
    obtain ⟨d1, s1, f1, C1, row, -⟩ := settle_val R O C hop hk hset
    have R1 := R.fr f1
    have M1 := M.frC f1
    have f19 : ∀ d2, Fr (fun o _ => o = 19) d1 d2 → Fr CS d1 d2 := fun d2 f => f.mono (fun o k h => by unfold CS; omega)
    have hnw := newsAt_in R O hk
    have n35 : ¬ 35 + k = 0 := by omega
    have hcl : ∃ d2, fX11_run ρ d (J (k : Int)) (J (set : Int)) (J e) (J (dy : Int)) (J w) = some (if w = 0 then J (rnS (gM σ) (gV σ k) (gB σ) set e dy).1 else if w = 1 then J (rnS (gM σ) (gV σ k) (gB σ) set e dy).2.1 else J (rnS (gM σ) (gV σ k) (gB σ) set e dy).2.2, d2) ∧ Fr (fun o _ => o = 19) d1 d2 := by
      unfold fX11_run
      rw [isSet_val B hβ ht, Option.bind_some]
      rw [jn_b _ _ (decide ((0 ≤ (set : Int) ∧ (set : Int) < ((2 ^ bN (gB σ) : Nat) : Int)) ∧ 0 ≤ e ∧ (1 ≤ (dy : Int) ∧ (dy : Int) ≤ 100) ∧ (0 ≤ w ∧ w ≤ 2))) (fun k => ?_)]
      rotate_left
      · rw [jn_eq]; exact hin_c k
      rw [refusal_c R O ha, Option.bind_some, if_pos hz, hnw, Option.bind_some, if_neg n35, s1, Option.bind_some, J_l (by omega), bnd_eq]
      refine lp_c dy (fun i x => ∃ d', x = (J (rnS (gM σ) (gV σ k) (gB σ) set e i).2.1, J (rnS (gM σ) (gV σ k) (gB σ) set e i).2.2, J (i : Int), d') ∧ d_l d' 19 0 = K (rnS (gM σ) (gV σ k) (gB σ) set e i).1 ∧ Fr (fun o _ => o = 19) d1 d') (fun o => ∃ d2, o = some (if w = 0 then J (rnS (gM σ) (gV σ k) (gB σ) set e dy).1 else if w = 1 then J (rnS (gM σ) (gV σ k) (gB σ) set e dy).2.1 else J (rnS (gM σ) (gV σ k) (gB σ) set e dy).2.2, d2) ∧ Fr (fun o _ => o = 19) d1 d2) ?_ ?_ 6000 (by omega) _ ⟨_, rfl, dL_s, Fr.rf.l rfl⟩
      · rintro i hi x ⟨d', rfl, h19, f⟩ self
        have R' := R1.fr (f19 _ f)
        have h1 : ¬ J (dy : Int) ≤ J (i : Int) := by rw [J_le (by omega) (by omega)]; omega
        obtain ⟨c, g, z, hc, ec, hg, eg, hW, hzd, hz7, hz2, e1, e2, e3⟩ := day i
        have hri := hr i
        have hwt : d_i d' ρ.1 3 = J (WT (gM σ)) := (R'.2.2.1.1 hop).2.2.2.1
        have hdr := draw_c (ρ := ρ) hri h19 (show 1 ≤ WT (gM σ) ∧ WT (gM σ) ≤ 1000 by omega)
        have fa : Fr (fun o _ => o = 19) d1 (dL d' 19 0 (K (nx (rnS (gM σ) (gV σ k) (gB σ) set e i).1))) := f.l rfl
        have Ra := R1.fr (f19 _ fa)
        have hca := caseAt_val (ρ := ρ) (Ra.2.2.1.1 hop) O.2.1 hop (dv_bd (rnS (gM σ) (gV σ k) (gB σ) set e i).1 hWT1)
        rw [ec] at hca
        obtain ⟨d3, hh, h193, f3⟩ := hears_c (ρ := ρ) (Ra.2.2.2.2.1.2.2 k hk) O.2.1 hν hop (nx_bd (rnS (gM σ) (gV σ k) (gB σ) set e i).1) dL_s (by omega) hc
        rw [eg] at hh
        have fb := fa.tr f3
        have Rb := R1.fr (f19 _ fb)
        have hkn : d_i (dL d' 19 0 (K (nx (rnS (gM σ) (gV σ k) (gB σ) set e i).1))) ρ.1 2 = J (kN (gM σ)) := (Ra.2.2.1.1 hop).2.2.1
        have hdf := dealtFor_row (ρ := ρ) (row.h19 fb) (by omega) (by omega) (s := g) hg
        rw [hzd] at hdf
        have hsz := sizes_val (ρ := ρ) Rb.2.2.2.1 Rb.1.1 hβ hz2
        have hsb := sm_bd (n := bN (gB σ)) (f := fun b => ab (st z b)) (lo := 0) (hi := 3) (fun b hb => by have := st_bd z b; show 0 ≤ ab (st z b) ∧ ab (st z b) ≤ 3; unfold ab; split <;> omega)
        have cs : J (sm (bN (gB σ)) (fun b => ab (st z b))) = 0 ↔ sm (bN (gB σ)) (fun b => ab (st z b)) = 0 := by rw [j0]; exact J_eq (by omega) (by omega)
        simp only [h1, if_false, hwt, hdr, Option.bind_some, hca, hkn, hh, hdf, hsz, bnd_eq, jn_eq]
        refine ⟨(J (rnS (gM σ) (gV σ k) (gB σ) set e (i + 1)).2.1, J (rnS (gM σ) (gV σ k) (gB σ) set e (i + 1)).2.2, J ((i + 1 : Nat) : Int), d3), ⟨d3, rfl, by rw [e1]; exact h193, fb⟩, ?_⟩
        have e4 : (J (i : Int) + 1) = J ((i + 1 : Nat) : Int) := by rw [j1, J_add]; rfl
        rw [e2, e3, J_add, e4]
        by_cases q : sm (bN (gB σ)) (fun b => ab (st z b)) = 0
        · rw [if_pos (cs.mpr q), if_pos q, b2i_J, J_add]; rfl
        · rw [if_neg (fun z => q (cs.mp z)), if_neg q, b2i_J, J_add]; rfl
      · rintro x ⟨d', rfl, h19, f⟩ self
        have h1 : J (dy : Int) ≤ J (dy : Int) := by rw [J_le (by omega) (by omega)]; omega
        refine ⟨d', ?_, f⟩
        simp only [h1, if_true, h19, K_i]
        by_cases q0 : w = 0
        · rw [if_pos (c0.mpr q0), if_pos q0]
        · by_cases q1 : w = 1
          · rw [if_neg (fun z => q0 (c0.mp z)), if_neg q0, if_pos (c1.mpr q1), if_pos q1]
          · rw [if_neg (fun z => q0 (c0.mp z)), if_neg q0, if_neg (fun z => q1 (c1.mp z)), if_neg q1]
    obtain ⟨d2, w2, f2⟩ := hcl
    have f12 := f1.tr (f19 _ f2)
    have M2 := M1.frC (f19 _ f2)
    have C2 := C1.gfr f2 (fun k => by omega)
    have hml : ∃ d3, fX12_run ρ d2 (J (k : Int)) (J (set : Int)) (J e) (J (dy : Int)) (J w) = some (if w = 0 then J (rnS (gM σ) (gV σ k) (gB σ) set e dy).1 else if w = 1 then J (rnS (gM σ) (gV σ k) (gB σ) set e dy).2.1 else J (rnS (gM σ) (gV σ k) (gB σ) set e dy).2.2, d3) ∧ Fr MS d2 d3 := by
      unfold fX12_run
      rw [isSet_m M2.2.2.1 hβ ht, Option.bind_some]
      rw [jn_b _ _ (decide ((0 ≤ (set : Int) ∧ (set : Int) < ((2 ^ bN (gB σ) : Nat) : Int)) ∧ 0 ≤ e ∧ (1 ≤ (dy : Int) ∧ (dy : Int) ≤ 100) ∧ (0 ≤ w ∧ w ≤ 2))) (fun k => ?_)]
      rotate_left
      · simp only [jn_eq, in1100 hn, in02 hw, Option.bind_some]; exact hin_m k
      rw [refusal_m M2 O ha, Option.bind_some, if_pos hz]
      refine lp_c (bN (gB σ)) (fun i x => x = (J (sm i (fun b => 3 * 7 ^ b)), J (i : Int))) (fun o => ∃ d3, o = some (if w = 0 then J (rnS (gM σ) (gV σ k) (gB σ) set e dy).1 else if w = 1 then J (rnS (gM σ) (gV σ k) (gB σ) set e dy).2.1 else J (rnS (gM σ) (gV σ k) (gB σ) set e dy).2.2, d3) ∧ Fr MS d2 d3) ?_ ?_ 6000 (by omega) _ rfl
      · rintro i hi x rfl self
        have h1 : ¬ d_i d2 23 15 ≤ J (i : Int) := by rw [M2.2.2.1.1, J_le (by omega) (by omega)]; omega
        simp only [h1, if_false, power_val (show i < 4 by omega), Option.bind_some, bnd_eq]
        refine ⟨_, rfl, ?_⟩
        rw [j3, J_mul, J_add, j1, J_add]; rfl
      · rintro x rfl self
        have h1 : d_i d2 23 15 ≤ J (bN (gB σ) : Int) := by rw [M2.2.2.1.1, J_le (by omega) (by omega)]; omega
        obtain ⟨d3, l3, f3, h34⟩ := layDealt_val (ρ := ρ) M2 O hop hk (show set < 16 by omega)
        have hnb := nobody_bd hN
        simp only [h1, if_true, l3, Option.bind_some, bnd_eq]
        have m30 : MS 23 30 := Or.inl ⟨rfl, by omega⟩
        refine lp_c dy (fun i x => ∃ d', x = (J (rnS (gM σ) (gV σ k) (gB σ) set e i).2.1, J (rnS (gM σ) (gV σ k) (gB σ) set e i).2.2, J (i : Int), d') ∧ d_i d' 23 30 = J (rnS (gM σ) (gV σ k) (gB σ) set e i).1 ∧ Fr (fun o k => o = 23 ∧ k = 30) d3 d') (fun o => ∃ d3, o = some (if w = 0 then J (rnS (gM σ) (gV σ k) (gB σ) set e dy).1 else if w = 1 then J (rnS (gM σ) (gV σ k) (gB σ) set e dy).2.1 else J (rnS (gM σ) (gV σ k) (gB σ) set e dy).2.2, d3) ∧ Fr MS d2 d3) ?_ ?_ 6000 (by omega) _ ⟨_, rfl, dI_s, Fr.rf.i ⟨rfl, rfl⟩⟩
        · rintro i hi x ⟨d', rfl, h30, f⟩ self2
          have fms : Fr MS d2 d' := f3.tr (f.mono (fun o k h => by rw [h.1, h.2]; exact m30))
          have M' := M2.frM fms
          have h2 : ¬ J (dy : Int) ≤ J (i : Int) := by rw [J_le (by omega) (by omega)]; omega
          obtain ⟨c, g, z, hc, ec, hg, eg, hW, hzd, hz7, hz2, e1, e2, e3⟩ := day i
          obtain ⟨d4, hds, h304, f4⟩ := drawSign_val (ρ := ρ) (M'.2.1.1 hop) (M'.2.2.2.1.2 k hk) O.2.1 hν hop (hr i) h30 hc ec
          rw [eg] at hds
          have fb := f.tr f4
          have fbs : Fr MS d2 d4 := f3.tr (fb.mono (fun o k h => by rw [h.1, h.2]; exact m30))
          have M4 := M2.frM fbs
          have hin : inB (J (g : Int)) 4 = true := by rw [inB_J (by omega)]; omega
          have hix : ix (J (g : Int)) = g := by rw [ix_J (by omega), Int.toNat_natCast]
          have h344 : d_i d4 34 g = J (z : Int) := ((fb.gi (by omega)).trans (h34 g hg hW)).trans (by rw [hzd])
          simp only [h2, if_false, hds, Option.bind_some, hin, if_true, hix, h344, bnd_eq, jn_eq]
          refine lp_c (bN (gB σ)) (fun b x => x = (J ((rnS (gM σ) (gV σ k) (gB σ) set e i).2.1 + sm b (fun b => ab (st z b))), J (b : Int))) (fun o => ∃ s', (∃ d', s' = (J (rnS (gM σ) (gV σ k) (gB σ) set e (i + 1)).2.1, J (rnS (gM σ) (gV σ k) (gB σ) set e (i + 1)).2.2, J ((i + 1 : Nat) : Int), d') ∧ d_i d' 23 30 = J (rnS (gM σ) (gV σ k) (gB σ) set e (i + 1)).1 ∧ Fr (fun o k => o = 23 ∧ k = 30) d3 d') ∧ o = self2 s') ?_ ?_ 6000 (by omega) _ (by show _ = (J ((rnS (gM σ) (gV σ k) (gB σ) set e i).2.1 + 0), _); rw [Int.add_zero]; rfl)
          · rintro b hb x rfl self3
            have h3 : ¬ d_i d4 23 15 ≤ J (b : Int) := by rw [M4.2.2.1.1, J_le (by omega) (by omega)]; omega
            have hst := st_bd z b
            have cx : (0 : Int32) ≤ J (st z b) ↔ 0 ≤ st z b := by rw [j0]; exact J_le (by omega) (by omega)
            simp only [h3, if_false, stepsOf_val hz2 (show b < 4 by omega), Option.bind_some]
            refine ⟨_, rfl, ?_⟩
            rw [sm_succ]
            by_cases q : 0 ≤ st z b
            · rw [if_pos (cx.mpr q), J_add, j1, J_add, Int.add_assoc, show ab (st z b) = st z b by unfold ab; rw [if_pos q]]; rfl
            · rw [if_neg (fun y => q (cx.mp y)), J_neg, J_add, j1, J_add, Int.add_assoc, show ab (st z b) = -st z b by unfold ab; rw [if_neg q]]; rfl
          · rintro x rfl self3
            have h3 : d_i d4 23 15 ≤ J (bN (gB σ) : Int) := by rw [M4.2.2.1.1, J_le (by omega) (by omega)]; omega
            simp only [h3, if_true]
            refine ⟨(J (rnS (gM σ) (gV σ k) (gB σ) set e (i + 1)).2.1, J (rnS (gM σ) (gV σ k) (gB σ) set e (i + 1)).2.2, J ((i + 1 : Nat) : Int), d4), ⟨d4, rfl, by rw [e1]; exact h304, fb⟩, ?_⟩
            have e4 : (J (i : Int) + 1) = J ((i + 1 : Nat) : Int) := by rw [j1, J_add]; rfl
            have cq : J (z : Int) = J (sm (bN (gB σ)) (fun b => 3 * 7 ^ b)) ↔ sm (bN (gB σ)) (fun b => ab (st z b)) = 0 := by
              rw [quiet_iff hN hz7]; exact J_eq (by omega) (by omega)
            rw [e2, e3, e4]
            by_cases q : sm (bN (gB σ)) (fun b => ab (st z b)) = 0
            · rw [if_pos (cq.mpr q), if_pos q, b2i_J, J_add]; rfl
            · rw [if_neg (fun y => q (cq.mp y)), if_neg q, b2i_J, J_add]; rfl
        · rintro x ⟨d', rfl, h30, f⟩ self2
          have fms : Fr MS d2 d' := f3.tr (f.mono (fun o k h => by rw [h.1, h.2]; exact m30))
          have h2 : J (dy : Int) ≤ J (dy : Int) := by rw [J_le (by omega) (by omega)]; omega
          refine ⟨d', ?_, fms⟩
          simp only [h2, if_true, h30]
          by_cases q0 : w = 0
          · rw [if_pos (c0.mpr q0), if_pos q0]
          · by_cases q1 : w = 1
            · rw [if_neg (fun z => q0 (c0.mp z)), if_neg q0, if_pos (c1.mpr q1), if_pos q1]
            · rw [if_neg (fun z => q0 (c0.mp z)), if_neg q0, if_neg (fun z => q1 (c1.mp z)), if_neg q1]
    obtain ⟨d3, w3, f3⟩ := hml
    exact ⟨_, d2, d3, w2, w3, inv_cm O R M C2 f12 f3, f12.cs2⟩
  · have hne : ¬ J (rfs σ a true (decide ((0 ≤ t ∧ t < ((2 ^ bN (gB σ) : Nat) : Int)) ∧ 0 ≤ e ∧ (1 ≤ n ∧ n ≤ 100) ∧ (0 ≤ w ∧ w ≤ 2)))) = 0 := by rcases hbad with h | h | h <;> rw [h] <;> decide
    refine ⟨J (rfs σ a true (decide ((0 ≤ t ∧ t < ((2 ^ bN (gB σ) : Nat) : Int)) ∧ 0 ≤ e ∧ (1 ≤ n ∧ n ≤ 100) ∧ (0 ≤ w ∧ w ≤ 2)))), d, d, ?_, ?_, ⟨σ, O, R, C, M⟩, rfl⟩
    · unfold fX11_run
      rw [isSet_val B hβ ht, Option.bind_some]
      refine (jn_b _ _ (decide ((0 ≤ t ∧ t < ((2 ^ bN (gB σ) : Nat) : Int)) ∧ 0 ≤ e ∧ (1 ≤ n ∧ n ≤ 100) ∧ (0 ≤ w ∧ w ≤ 2))) (fun k => ?_)).trans ?_
      · rw [jn_eq]; exact hin_c k
      rw [refusal_c R O ha, Option.bind_some, if_neg hne]
    · unfold fX12_run
      rw [isSet_m M.2.2.1 hβ ht, Option.bind_some]
      refine (jn_b _ _ (decide ((0 ≤ t ∧ t < ((2 ^ bN (gB σ) : Nat) : Int)) ∧ 0 ≤ e ∧ (1 ≤ n ∧ n ≤ 100) ∧ (0 ≤ w ∧ w ≤ 2))) (fun k => ?_)).trans ?_
      · simp only [jn_eq, in1100 hn, in02 hw, Option.bind_some]; exact hin_m k
      rw [refusal_m M O ha, Option.bind_some, if_neg hne]
