/-! what the reference lays down of worth -/
theorem w33 {set i : Nat} (hs : set < 16) (hi : i < 4) : (4 * J (set : Int) + J (i : Int)) = J ((4 * set + i : Nat) : Int) ∧ inB (J ((4 * set + i : Nat) : Int)) 64 = true ∧ ix (J ((4 * set + i : Nat) : Int)) = 4 * set + i := by
  refine ⟨?_, ?_, ?_⟩
  · rw [j4, J_mul, J_add]; congr 1
  · rw [inB_J (by omega)]; omega
  · rw [ix_J (by omega), Int.toNat_natCast]
def MW (o k : Nat) : Prop := (o = 23 ∧ 21 ≤ k ∧ k ≤ 24) ∨ o = 33
theorem Fr.ms {d d1 : Dd} (f : Fr MW d d1) : Fr MS d d1 := f.mono (fun o k h => by unfold MW at h; unfold MS; omega)
theorem fr_dM {P : Nat → Nat → Prop} {d0 d : Dd} {e w c a : Int} (h : ∀ k, 21 ≤ k → k ≤ 24 → P 23 k) (f : Fr P d0 d) : Fr P d0 (dM (tk d e w) c a) :=
  (((f.l (h _ (by omega) (by omega))).l (h _ (by omega) (by omega))).i (h _ (by omega) (by omega))).i (h _ (by omega) (by omega))
theorem fr_tk {P : Nat → Nat → Prop} {d0 d : Dd} {e w : Int} (h : ∀ k, 21 ≤ k → k ≤ 24 → P 23 k) (f : Fr P d0 d) : Fr P d0 (tk d e w) :=
  (f.l (h _ (by omega) (by omega))).l (h _ (by omega) (by omega))
theorem dM_33 {d : Dd} {e w c a : Int} {k : Nat} : d_l (dM (tk d e w) c a) 33 k = d_l d 33 k := by
  have h : d_l (dM (tk d e w) c a) 33 k = d_l (tk d e w) 33 k := rfl
  rw [h]
  unfold tk
  rw [dL_o (by omega), dL_o (by omega)]
theorem MdlD.w33 {d : Dd} {η : Hg} (D : MdlD d η) {k : Nat} {v : Int64} : MdlD (dL d 33 k v) η :=
  ⟨(dL_o (by omega)).trans D.1, (dL_o (by omega)).trans D.2.1, D.2.2⟩
theorem mlay_val {ρ : Rh} {d : Dd} {k : Nat} {μ : Mk} {ν : Nw} {β : By} (M : MdlAt d μ) (N : MdlN d k ν) (B : MdlB d β) (h : mkOK μ) (hn : nwOK ν) (hβ : byOK β) {set : Nat} (hset : set < 16) :
    ∃ d', fX12_layWorth ρ d (J k) (J set) = some d' ∧ Fr MW d d' ∧ ∀ b, b < bN β → d_l d' 33 (4 * set + b) = K (100 * WO μ ν β set b) := by
  have hN := hβ.1
  have h7 := seven_le hN
  unfold fX12_layWorth
  refine lp_c 4 (fun i s => ∃ d', s = (J (i : Int), d') ∧ Fr MW d d' ∧ ∀ b, b < i → d_l d' 33 (4 * set + b) = K 0) (fun o => ∃ d', o = some d' ∧ Fr MW d d' ∧ ∀ b, b < bN β → d_l d' 33 (4 * set + b) = K (100 * WO μ ν β set b)) ?_ ?_ 6000 (by omega) _ ⟨d, rfl, Fr.rf, fun b hb => absurd hb (Nat.not_lt_zero b)⟩
  · rintro i hi s ⟨d', rfl, f, h0⟩ self
    obtain ⟨p1, p2, p3⟩ := w33 hset hi
    have h1 : ¬ (4 : Int32) ≤ J (i : Int) := by rw [j4, J_le (by omega) (by omega)]; omega
    refine ⟨(J ((i + 1 : Nat) : Int), dL d' 33 (4 * set + i) 0), ⟨_, rfl, f.l (Or.inr rfl), fun b hb => ?_⟩, ?_⟩
    · by_cases e : b = i
      · subst e; exact dL_s
      · rw [dL_o (by omega)]; exact h0 b (by omega)
    · simp only [h1, if_false, p1, p2, p3, if_true, bnd_eq]
      rw [j1, J_add]; rfl
  · rintro s ⟨d', rfl, f, h0⟩ self
    have h1 : (4 : Int32) ≤ J ((4 : Nat) : Int) := by decide
    simp only [h1, if_true]
    refine lp_c 4 (fun i s => ∃ d2, s = (J (i : Int), d2) ∧ Fr MW d d2 ∧ ∀ b, b < bN β → d_l d2 33 (4 * set + b) = K (100 * sm i (fun s' => WO1 μ ν β set b s'))) (fun o => ∃ d', o = some d' ∧ Fr MW d d' ∧ ∀ b, b < bN β → d_l d' 33 (4 * set + b) = K (100 * WO μ ν β set b)) ?_ ?_ 6000 (by omega) _ ⟨d', rfl, f, fun b hb => by rw [h0 b (by omega)]; rfl⟩
    · rintro i hi s ⟨d2, rfl, f2, hv⟩ self2
      have h2 : ¬ (4 : Int32) ≤ J (i : Int) := by rw [j4, J_le (by omega) (by omega)]; omega
      have hs4 : (0 : Int) ≤ (i : Int) ∧ (i : Int) < 4 := by omega
      have M2 := M.fm f2.ms
      have N2 := N.fm f2.ms
      have B2 := B.fm f2.ms
      have hho := heardOf_val (ρ := ρ) M2 N2 h hn hs4
      have hWS := WS_bd h hn hs4.1 _ (Nat.le_refl (kN μ))
      have hkN := h.2.2.1
      have hWb : 0 ≤ WS μ ν i ∧ WS μ ν i ≤ 118800 := by unfold WS; omega
      have c0 : J (WS μ ν i) ≤ 0 ↔ WS μ ν i ≤ 0 := by rw [j0]; exact J_le (by omega) (by omega)
      by_cases hW : WS μ ν (i : Int) = 0
      · have c1 : J (WS μ ν i) ≤ 0 := c0.mpr (by omega)
        refine ⟨(J ((i + 1 : Nat) : Int), d2), ⟨d2, rfl, f2, fun b hb => ?_⟩, ?_⟩
        · rw [hv b hb, sm_succ]
          have e : WO1 μ ν β set b (i : Int) = 0 := by unfold WO1; rw [if_pos hW]
          rw [e, Int.add_zero]
        · simp only [h2, if_false, hho, Option.bind_some, jn_eq, c1, if_true]
          rw [j1, J_add]; rfl
      · have c1 : ¬ J (WS μ ν i) ≤ 0 := fun z => hW (by have := c0.mp z; omega)
        obtain ⟨z, hz, hz7, hz2, hsc, -, hwo⟩ := DT_ex (μ := μ) (ν := ν) (set := set) (s := (i : Int)) hβ hW
        have hdl := mdealt_val (ρ := ρ) M2 N2 B2 h hn hβ hs4 hset (w := -1) (by omega)
        rw [hsc] at hdl
        simp only [h2, if_false, hho, Option.bind_some, jn_eq, c1]
        rw [jm1, hdl, Option.bind_some]
        have hη := hgS_ok h hn hs4
        refine lp_c (bN β) (fun b s => ∃ d3, s = (J (b : Int), d3) ∧ Fr MW d d3 ∧ MdlD d3 (hgS μ ν i) ∧ (∀ b', b' < b → d_l d3 33 (4 * set + b') = K (100 * sm (i + 1) (fun s' => WO1 μ ν β set b' s'))) ∧ (∀ b', b ≤ b' → b' < bN β → d_l d3 33 (4 * set + b') = K (100 * sm i (fun s' => WO1 μ ν β set b' s')))) (fun o => ∃ s', (∃ d2, s' = (J ((i + 1 : Nat) : Int), d2) ∧ Fr MW d d2 ∧ ∀ b, b < bN β → d_l d2 33 (4 * set + b) = K (100 * sm (i + 1) (fun s' => WO1 μ ν β set b s'))) ∧ o = self2 s') ?_ ?_ 6000 (by omega) _ ⟨_, rfl, fr_dM (fun k h1 h2 => Or.inl ⟨rfl, h1, h2⟩) f2, (tk_D M2 hn _).dM _ _, fun b' hb' => absurd hb' (Nat.not_lt_zero _), fun b' _ hb' => by rw [dM_33]; exact hv b' hb'⟩
        · rintro b hb s ⟨d3, rfl, f3, D3, ha, hc⟩ self3
          obtain ⟨p1, p2, p3⟩ := w33 hset (show b < 4 by omega)
          have B3 := B.fm f3.ms
          have h3 : ¬ d_i d3 23 15 ≤ J (b : Int) := by rw [B3.1, J_le (by omega) (by omega)]; omega
          have hst := stepsOf_val hz2 (show b < 4 by omega)
          have htg := together_val (ρ := ρ) B3 hβ hz2
          have q1 := st_bd z b
          have q2 := TT_bd hβ z
          have hmd := made_val (ρ := ρ) B3 D3 hβ hη hb (x := st z b) (T := TT β z) (by omega) (by omega)
          have hadd : K (100 * sm i (fun s' => WO1 μ ν β set b s')) + K (100 * gn (hgS μ ν i).1 (hgS μ ν i).2.1 (hgS μ ν i).2.2 (bF β b) (st z b) (TT β z)) = K (100 * sm (i + 1) (fun s' => WO1 μ ν β set b s')) := by
            rw [K_add, sm_succ, hwo b hb]
            congr 1
            show _ = 100 * (_ + gn (hgS μ ν i).1 (hgS μ ν i).2.1 (hgS μ ν i).2.2 (bF β b) (st z b) (TT β z))
            omega
          refine ⟨(J ((b + 1 : Nat) : Int), dL d3 33 (4 * set + b) (K (100 * sm (i + 1) (fun s' => WO1 μ ν β set b s')))), ⟨_, rfl, f3.l (Or.inr rfl), D3.w33, fun b' hb' => ?_, fun b' h1' h2' => ?_⟩, ?_⟩
          · by_cases e : b' = b
            · subst e; exact dL_s
            · rw [dL_o (by omega)]; exact ha b' (by omega)
          · rw [dL_o (by omega)]; exact hc b' (by omega) h2'
          · simp only [h3, if_false, p1, p2, p3, if_true, bnd_eq, hst, htg, hmd, Option.bind_some, hc b (Nat.le_refl b) hb, hadd]
            rw [j1, J_add]; rfl
        · rintro s ⟨d3, rfl, f3, D3, ha, hc⟩ self3
          have B3 := B.fm f3.ms
          have h3 : d_i d3 23 15 ≤ J (bN β : Int) := by rw [B3.1, J_le (by omega) (by omega)]; omega
          refine ⟨(J ((i + 1 : Nat) : Int), d3), ⟨d3, rfl, f3, ha⟩, ?_⟩
          simp only [h3, if_true]
          rw [j1, J_add]; rfl
    · rintro s ⟨d2, rfl, f2, hv⟩ self2
      have h2 : (4 : Int32) ≤ J ((4 : Nat) : Int) := by decide
      exact ⟨d2, by simp only [h2, if_true], f2, hv⟩
/-- the context of a call on news that may be answered -/
theorem mworth_val {ρ : Rh} {d : Dd} {σ : Sg} (M : RM d σ) (O : sgOK σ) (hop : 0 < kN (gM σ)) {k set b : Nat} (hk : k < gN σ) (hset : set < 16) (hb : b < bN (gB σ)) :
    ∃ d', fX12_worthOf ρ d (J k) (J set) (J b) = some (K (100 * WO (gM σ) (gV σ k) (gB σ) set b), d') ∧ Fr MW d d' ∧ ∀ b', b' < bN (gB σ) → d_l d' 33 (4 * set + b') = K (100 * WO (gM σ) (gV σ k) (gB σ) set b') := by
  have hN := O.2.2.1.1
  obtain ⟨d', h1, h2, h3⟩ := mlay_val (ρ := ρ) (M.2.1.1 hop) (M.2.2.2.1.2 k hk) M.2.2.1 O.2.1 (O.2.2.2.1.2 k hk) O.2.2.1 hset
  obtain ⟨p1, p2, p3⟩ := w33 hset (show b < 4 by omega)
  refine ⟨d', ?_, h2, h3⟩
  unfold fX12_worthOf
  rw [h1, Option.bind_some, p1, if_pos p2, p3, h3 b hb]
/-- all sets are settled -/
theorem settleAll_val {ρ : Rh} {d : Dd} {σ : Sg} (R : RC d ρ σ) (O : sgOK σ) (C : CacheOK d σ) (hop : 0 < kN (gM σ)) {k : Nat} (hk : k < gN σ) :
    ∃ d', fX11_settleAll ρ d (J k) = some d' ∧ Fr CS d d' ∧ CacheOK d' σ ∧ ∀ set, set < 2 ^ bN (gB σ) → RowOK d' σ k set := by
  have hβ := O.2.2.1
  have h2 := two_le hβ.1
  have hk8 := O.2.2.2.1.1
  unfold fX11_settleAll
  refine lp_c (2 ^ bN (gB σ)) (fun i s => ∃ d', s = (J (i : Int), d') ∧ Fr CS d d' ∧ CacheOK d' σ ∧ ∀ set, set < i → RowOK d' σ k set) (fun o => ∃ d', o = some d' ∧ Fr CS d d' ∧ CacheOK d' σ ∧ ∀ set, set < 2 ^ bN (gB σ) → RowOK d' σ k set) ?_ ?_ 6000 (by omega) _ ⟨d, rfl, Fr.rf, C, fun b hb => absurd hb (Nat.not_lt_zero b)⟩
  · rintro i hi s ⟨d', rfl, f, C', hr⟩ self
    have R' := R.fr f
    obtain ⟨d2, s1, f1, C2, row, rows⟩ := settle_val R' O C' hop hk hi
    have c1 : ¬ J ((2 ^ bN (gB σ) - 1 : Nat) : Int) < J (i : Int) := by rw [J_lt (by omega) (by omega)]; omega
    have c2 : ¬ (16 : Int32) ≤ J (i : Int) := by rw [j16, J_le (by omega) (by omega)]; omega
    refine ⟨(J ((i + 1 : Nat) : Int), d2), ⟨d2, rfl, f.tr f1, C2, fun set hs => ?_⟩, ?_⟩
    · by_cases e : set = i
      · subst e; exact row
      · exact rows k set (by omega) (by omega) (hr set (by omega))
    · simp only [ev_val R'.2.2.2.1 hβ, Option.bind_some, c1, c2, if_false, s1]
      rw [j1, J_add]; rfl
  · rintro s ⟨d', rfl, f, C', hr⟩ self
    have R' := R.fr f
    have c1 : J ((2 ^ bN (gB σ) - 1 : Nat) : Int) < J ((2 ^ bN (gB σ) : Nat) : Int) := by rw [J_lt (by omega) (by omega)]; omega
    exact ⟨d', by simp only [ev_val R'.2.2.2.1 hβ, Option.bind_some, c1, if_true], f, C', hr⟩
