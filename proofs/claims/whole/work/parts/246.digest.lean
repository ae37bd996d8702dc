/-! the digest -/
theorem jn_v {σ γ : Type} (F : σ → γ) (g : (σ → γ) → γ) (v : σ) (h : ∀ k, g k = k v) : jn F g = F v := (jn_eq F g).trans (h F)
def mx (h v : Int64) : Int64 := 31 * h + v
theorem mixed_val (h v : Int64) : fX11_mixed h v = some (mx h v) := rfl
def mkD (μ : Mk) (h : Int64) : Nat → Int64
  | 0 => h
  | n + 1 => mx (mx (mkD μ h n) (K (kW μ n))) (K (kV μ n))
def byD (β : By) (h : Int64) : Nat → Int64
  | 0 => h
  | n + 1 => mx (mx (byD β h n) (K (bL β n))) (K (bF β n))
noncomputable def sgD (σ : Sg) (k : Nat) (h : Int64) : Nat → Int64
  | 0 => h
  | s + 1 => mx (sgD σ k h s) (K (DT (gM σ) (gV σ k) (gB σ) (2 ^ bN (gB σ) - 1) s))
noncomputable def nwD (σ : Sg) (k : Nat) (h : Int64) : Int64 := if 0 < kN (gM σ) then sgD σ k (mx (mx h (K (gV σ k).1)) (K (gV σ k).2)) 4 else mx (mx h (K (gV σ k).1)) (K (gV σ k).2)
noncomputable def nsD (σ : Sg) (h : Int64) : Nat → Int64
  | 0 => h
  | n + 1 => nwD σ n (nsD σ h n)
def pgD (σ : Sg) (h : Int64) : Nat → Int64
  | 0 => h
  | n + 1 => mx (pgD σ h n) (K (gL σ n))
def cvS (σ : Sg) (i : Nat) : Int := if i = 0 then kN (gM σ) else if i = 1 then bN (gB σ) else if i = 2 then gN σ else if i = 3 then gP σ else gS σ
def ctD (σ : Sg) (h : Int64) : Nat → Int64
  | 0 => h
  | n + 1 => mx (ctD σ h n) (K (cvS σ n))
def h1D (σ : Sg) : Int64 := if 0 < kN (gM σ) then mkD (gM σ) (mx (mx 359 (K (kB (gM σ)))) (K (kS (gM σ)))) (kN (gM σ)) else 359
def h2D (σ : Sg) : Int64 := byD (gB σ) (h1D σ) (bN (gB σ))
noncomputable def h3D (σ : Sg) : Int64 := nsD σ (h2D σ) (gN σ)
noncomputable def h4D (σ : Sg) : Int64 := if 0 < kN (gM σ) then mx (mx (h3D σ) (K (frc (moS (gM σ) (lmS (gB σ))) (WT (gM σ)) 0))) (K (frc (moS (gM σ) (lmS (gB σ))) (WT (gM σ)) 1)) else h3D σ
noncomputable def h5D (σ : Sg) : Int64 := pgD σ (h4D σ) (gP σ)
noncomputable def h6D (σ : Sg) : Int64 := ctD σ (h5D σ) 5
theorem cvS_bd {σ : Sg} (O : sgOK σ) (i : Nat) : 0 ≤ cvS σ i ∧ cvS σ i ≤ 60 := by
  have a := O.2.1.2.2.1
  have b := O.2.2.1.1
  have c := O.2.2.2.1.1
  have e := O.1.1
  have f := O.2.2.2.2
  unfold cvS
  (repeat' split) <;> omega
theorem cnt_if (σ : Sg) {i : Nat} (h : i < 5) : (if J (i : Int) = 0 then J (kN (gM σ)) else if J (i : Int) = 1 then J (bN (gB σ)) else if J (i : Int) = 2 then J (gN σ) else if J (i : Int) = 3 then J (gP σ) else if J (i : Int) = 4 then J (gS σ) else -102) = J (cvS σ i) := by
  rcases (show i = 0 ∨ i = 1 ∨ i = 2 ∨ i = 3 ∨ i = 4 by omega) with rfl | rfl | rfl | rfl | rfl <;> rfl
theorem mktMix_val {ρ : Rh} {d : Dd} {o : Nat} {μ : Mk} (M : MktAt d o μ) (h : mkOK μ) (h0 : Int64) : fX5_mixedInto ρ d o h0 = some (mkD μ (mx (mx h0 (K (kB μ))) (K (kS μ))) (kN μ)) := by
  have hN := h.2.2.1
  have hB := h.1
  have hS := h.2.1
  unfold fX5_mixedInto
  rw [M.1, M.2.1, J_l (by omega), J_l (by omega), mixed_val, Option.bind_some, mixed_val, Option.bind_some]
  refine lp_up (kN μ) (fun i => (mkD μ (mx (mx h0 (K (kB μ))) (K (kS μ))) i, J (i : Int))) (fun i hi self => ?_) (fun self => ?_) 6000 (by omega)
  · have h1 : ¬ d_i d o 2 ≤ J (i : Int) := by rw [M.2.2.1, J_le (by omega) (by omega)]; omega
    have hb := h.2.2.2 i hi
    simp only [h1, if_false, weightOf_val M h hi, valueOf_val M h hi, Option.bind_some, mixed_val]
    rw [J_l (by omega), J_l (by omega), j1, J_add]; rfl
  · have h1 : d_i d o 2 ≤ J (kN μ : Int) := by rw [M.2.2.1, J_le (by omega) (by omega)]; omega
    simp only [h1, if_true]
theorem byMix_val {ρ : Rh} {d : Dd} {β : By} (B : BuyAt d β) (hβ : byOK β) (h0 : Int64) : fX1_mixedInto ρ d h0 = some (byD β h0 (bN β)) := by
  have hN := hβ.1
  unfold fX1_mixedInto
  refine lp_up (bN β) (fun i => (byD β h0 i, J (i : Int))) (fun i hi self => ?_) (fun self => ?_) 6000 (by omega)
  · have h1 : ¬ d_i d 15 2 ≤ J (i : Int) := by rw [B.1, J_le (by omega) (by omega)]; omega
    have hb := hβ.2 i hi
    have el : lim β i = bL β i := by unfold lim; rw [if_pos hi]
    have ef : fee β i = bF β i := by unfold fee; rw [if_pos hi]
    simp only [h1, if_false, limitOf_val B hβ (show i < 4 by omega), feeOf_val B hβ (show i < 4 by omega), Option.bind_some, mixed_val, el, ef]
    rw [J_l (by omega), J_l (by omega), j1, J_add]; rfl
  · have h1 : d_i d 15 2 ≤ J (bN β : Int) := by rw [B.1, J_le (by omega) (by omega)]; omega
    simp only [h1, if_true]
theorem pgMix_val {ρ : Rh} {d : Dd} {σ : Sg} (R : RC d ρ σ) (O : sgOK σ) (h0 : Int64) : fX7_mixedInto ρ d h0 = some (pgD σ h0 (gP σ)) := by
  have hP := O.1.1
  unfold fX7_mixedInto
  refine lp_up (gP σ) (fun i => (pgD σ h0 i, J (i : Int))) (fun i hi self => ?_) (fun self => ?_) 6000 (by omega)
  · have h1 : ¬ d_i d 4 1 ≤ J (i : Int) := by rw [R.2.1.1, J_le (by omega) (by omega)]; omega
    have h2 : ¬ (60 : Int32) ≤ J (i : Int) := by rw [j60, J_le (by omega) (by omega)]; omega
    have hin : inB (J (i : Int)) 60 = true := by rw [inB_J (by omega)]; omega
    have hix : ix (J (i : Int)) = i := by rw [ix_J (by omega), Int.toNat_natCast]
    have hb := O.1.2 i hi
    simp only [h1, h2, if_false, hin, if_true, hix, R.2.1.2 i hi, Option.bind_some, mixed_val]
    rw [J_l (by omega), j1, J_add]; rfl
  · have h1 : d_i d 4 1 ≤ J (gP σ : Int) := by rw [R.2.1.1, J_le (by omega) (by omega)]; omega
    simp only [h1, if_true]
theorem DT_bd {μ : Mk} {ν : Nw} {β : By} (hβ : byOK β) (set : Nat) (s : Int) : -1 ≤ DT μ ν β set s ∧ DT μ ν β set s ≤ 2401 := by
  by_cases hW : WS μ ν s = 0
  · rw [DT_never hW]; omega
  · obtain ⟨z, hz, -, hz2, -⟩ := DT_ex (set := set) hβ hW
    rw [hz]; omega
theorem nwMix_val {ρ : Rh} {d : Dd} {σ : Sg} (R : RC d ρ σ) (O : sgOK σ) (C : CacheOK d σ) {k : Nat} (hk : k < gN σ) (h0 : Int64) :
    ∃ d', fX11_newsMixedInto ρ d h0 (J k) = some (nwD σ k h0, d') ∧ Fr CS d d' ∧ CacheOK d' σ := by
  have hβ := O.2.2.1
  have h2N := two_le hβ.1
  have hk8 := O.2.2.2.1.1
  have hν := O.2.2.2.1.2 k hk
  have hN := R.2.2.2.2.1.2.2 k hk
  have n35 : ¬ 35 + k = 0 := by omega
  have b1 := hν.1
  have b2 := hν.2.1
  unfold fX11_newsMixedInto nwD
  rw [newsAt_in R O hk, Option.bind_some, if_neg n35, hN.1, hN.2.1, J_l (by omega), J_l (by omega), mixed_val, Option.bind_some, mixed_val, Option.bind_some]
  by_cases hop : 0 < kN (gM σ)
  · have op1 : ¬ d_i d 3 3 = 0 := by rw [R.2.2.1.2, if_pos hop]; decide
    obtain ⟨d1, s1, f1, C1, row, -⟩ := settle_val R O C hop hk (show 2 ^ bN (gB σ) - 1 < 2 ^ bN (gB σ) by omega)
    have R1 := R.fr f1
    rw [if_neg op1, if_pos hop, ev_val R.2.2.2.1 hβ, Option.bind_some, s1, Option.bind_some]
    refine ⟨d1, ?_, f1, C1⟩
    generalize mx (mx h0 (K (gV σ k).1)) (K (gV σ k).2) = hh
    refine lp_up 4 (fun i => (sgD σ k hh i, J (i : Int))) (fun i hi self => ?_) (fun self => ?_) 6000 (by omega)
    · have h1 : ¬ (4 : Int32) ≤ J (i : Int) := by rw [j4, J_le (by omega) (by omega)]; omega
      have hdt := dealtFor_row (ρ := ρ) row (by omega) (by omega) (s := i) hi
      have hb := DT_bd (μ := gM σ) (ν := gV σ k) hβ (2 ^ bN (gB σ) - 1) (i : Int)
      simp only [h1, if_false, ev_val R1.2.2.2.1 hβ, hdt, Option.bind_some, mixed_val]
      rw [J_l (by omega), j1, J_add]; rfl
    · have h1 : (4 : Int32) ≤ J ((4 : Nat) : Int) := by decide
      simp only [h1, if_true]
  · have op1 : d_i d 3 3 = 0 := by rw [R.2.2.1.2, if_neg hop]; rfl
    rw [if_pos op1, if_neg hop]
    exact ⟨d, rfl, Fr.rf, C⟩
theorem digest_c {ρ : Rh} {d : Dd} {σ : Sg} (R : RC d ρ σ) (O : sgOK σ) (C : CacheOK d σ) : ∃ d', fX11_digest ρ d = some (h6D σ, d') ∧ Fr CS d d' ∧ CacheOK d' σ := by
  have hβ := O.2.2.1
  have hk8 := O.2.2.2.1.1
  have hkN := O.2.1.2.2.1
  unfold fX11_digest
  have e1 : ∀ {γ : Type} (F : Int64 → Option γ), (if d_i d 3 3 = 0 then F 359 else ((fX5_mixedInto ρ d ρ.1 359).bind fun r18 => F r18)) = F (h1D σ) := by
    intro γ F
    unfold h1D
    by_cases hop : 0 < kN (gM σ)
    · have op1 : ¬ d_i d 3 3 = 0 := by rw [R.2.2.1.2, if_pos hop]; decide
      rw [if_neg op1, if_pos hop, mktMix_val (R.2.2.1.1 hop) O.2.1, Option.bind_some]
    · have op1 : d_i d 3 3 = 0 := by rw [R.2.2.1.2, if_neg hop]; rfl
      rw [if_pos op1, if_neg hop]
  rw [jn_v _ _ (h1D σ) (fun k => e1 k), byMix_val R.2.2.2.1 hβ, Option.bind_some]
  refine lp_c (gN σ) (fun i x => ∃ d', x = (nsD σ (h2D σ) i, J (i : Int), d') ∧ Fr CS d d' ∧ CacheOK d' σ) (fun o => ∃ d', o = some (h6D σ, d') ∧ Fr CS d d' ∧ CacheOK d' σ) ?_ ?_ 6000 (by omega) _ ⟨d, rfl, Fr.rf, C⟩
  · rintro i hi x ⟨d', rfl, f, C'⟩ self
    have R' := R.fr f
    have h1 : ¬ d_i d' 3 6 ≤ J (i : Int) := by rw [R'.2.2.2.2.1.1, J_le (by omega) (by omega)]; omega
    obtain ⟨d2, n2, f2, C2⟩ := nwMix_val (ρ := ρ) R' O C' hi (nsD σ (h2D σ) i)
    simp only [h1, if_false, n2, Option.bind_some]
    refine ⟨_, ⟨d2, rfl, f.tr f2, C2⟩, ?_⟩
    rw [j1, J_add]; rfl
  · rintro x ⟨d', rfl, f, C'⟩ self
    have R' := R.fr f
    have h1 : d_i d' 3 6 ≤ J (gN σ : Int) := by rw [R'.2.2.2.2.1.1, J_le (by omega) (by omega)]; omega
    simp only [h1, if_true]
    have e2 : ∀ {γ : Type} (F : Int64 → Option γ), (if d_i d' 3 3 = 0 then F (nsD σ (h2D σ) (gN σ)) else ((fX11_bound ρ d' 0).bind fun r13 => (fX11_mixed (nsD σ (h2D σ) (gN σ)) r13).bind fun r14 => (fX11_bound ρ d' 1).bind fun r15 => (fX11_mixed r14 r15).bind fun r16 => F r16)) = F (h4D σ) := by
      intro γ F
      unfold h4D
      by_cases hop : 0 < kN (gM σ)
      · have op1 : ¬ d_i d' 3 3 = 0 := by rw [R'.2.2.1.2, if_pos hop]; decide
        rw [if_neg op1, if_pos hop, j0, j1, bound_c R' O hop (Or.inl rfl), Option.bind_some, mixed_val, Option.bind_some, bound_c R' O hop (Or.inr rfl), Option.bind_some, mixed_val, Option.bind_some]; rfl
      · have op1 : d_i d' 3 3 = 0 := by rw [R'.2.2.1.2, if_neg hop]; rfl
        rw [if_pos op1, if_neg hop]; rfl
    rw [jn_v _ _ (h4D σ) (fun k => e2 k), pgMix_val R' O, Option.bind_some]
    refine ⟨d', ?_, f, C'⟩
    refine lp_up 5 (fun i => (ctD σ (h5D σ) i, J (i : Int))) (fun i hi self => ?_) (fun self => ?_) 6000 (by omega)
    · have h1 : ¬ (5 : Int32) ≤ J (i : Int) := by rw [j5, J_le (by omega) (by omega)]; omega
      have hc := cnt_c R' O (J (i : Int))
      rw [cnt_if σ hi] at hc
      have hb := cvS_bd O i
      simp only [h1, if_false, hc, Option.bind_some, mixed_val]
      rw [J_l (by omega), j1, J_add]; rfl
    · have h1 : (5 : Int32) ≤ J ((5 : Nat) : Int) := by decide
      simp only [h1, if_true]; rfl
theorem tell_val {ρ : Rh} {d : Dd} {h0 : Int64} (h : d_l d 23 31 = h0) (v : Int64) : fX12_tell ρ d v = some (dL d 23 31 (mx h0 v)) := by
  unfold fX12_tell
  rw [bnd_eq, h]; rfl
theorem m31 : MS 23 31 := Or.inl ⟨rfl, by omega⟩
theorem tell_ex {ρ : Rh} {d : Dd} {h0 : Int64} (h : d_l d 23 31 = h0) (v : Int64) : ∃ d', fX12_tell ρ d v = some d' ∧ Fr MS d d' ∧ d_l d' 23 31 = mx h0 v ∧ ∀ o k, d_i d' o k = d_i d o k :=
  ⟨_, tell_val h v, Fr.rf.l m31, dL_s, fun _ _ => rfl⟩
theorem tellNews_val {ρ : Rh} {d : Dd} {σ : Sg} (M : RM d σ) (O : sgOK σ) {k : Nat} (hk : k < gN σ) {h0 : Int64} (h31 : d_l d 23 31 = h0) :
    ∃ d', fX12_tellNews ρ d (J k) = some d' ∧ Fr MS d d' ∧ d_l d' 23 31 = nwD σ k h0 := by
  have hβ := O.2.2.1
  have h2N := two_le hβ.1
  have hk8 := O.2.2.2.1.1
  have hν := O.2.2.2.1.2 k hk
  have hkN := O.2.1.2.2.1
  have b1 := hν.1
  have b2 := hν.2.1
  have hN := M.2.2.2.1.2 k hk
  have hin : inB (J (k : Int)) 8 = true := by rw [inB_J (by omega)]; omega
  have hix : ix (J (k : Int)) = k := by rw [ix_J (by omega), Int.toNat_natCast]
  obtain ⟨da, ta, fa, va, ia⟩ := tell_ex (ρ := ρ) h31 (K (gV σ k).1)
  obtain ⟨db, tb', fb, vb, ib⟩ := tell_ex (ρ := ρ) va (K (gV σ k).2)
  have e32 : d_i da 32 k = J (gV σ k).2 := (ia 32 k).trans hN.2.2
  unfold fX12_tellNews nwD
  rw [if_pos hin, hix, hN.2.1, J_l (by omega), ta, Option.bind_some, if_pos hin, e32, J_l (by omega), tb', Option.bind_some]
  generalize mx (mx h0 (K (gV σ k).1)) (K (gV σ k).2) = hh at vb
  have f0 : Fr MS d db := fa.tr fb
  by_cases hop : 0 < kN (gM σ)
  · rw [if_pos hop]
    refine lp_c 4 (fun i x => ∃ d', x = (J (i : Int), d') ∧ Fr MS d d' ∧ d_l d' 23 31 = sgD σ k hh i) (fun o => ∃ d', o = some d' ∧ Fr MS d d' ∧ d_l d' 23 31 = sgD σ k hh 4) ?_ ?_ 6000 (by omega) _ ⟨db, rfl, f0, vb⟩
    · rintro i hi x ⟨d', rfl, f, hv⟩ self
      have M' := M.frM f
      have h1 : ¬ (4 : Int32) ≤ J (i : Int) := by rw [j4, J_le (by omega) (by omega)]; omega
      have h2 : ¬ d_i d' 23 4 ≤ 0 := by rw [M'.2.1.2, j0, J_le (by omega) (by omega)]; omega
      have hs4 : (0 : Int) ≤ (i : Int) ∧ (i : Int) < 4 := by omega
      obtain ⟨m1, m2, m3⟩ := hear_m (ρ := ρ) M' O hop hk hs4
      by_cases hW : WS (gM σ) (gV σ k) (i : Int) = 0
      · simp only [h1, h2, if_false, m1, Option.bind_some, jn_eq]
        obtain ⟨d4, t4, f4, v4, -⟩ := tell_ex (ρ := ρ) hv (-1)
        rw [if_pos (m2.mpr hW), t4, Option.bind_some]
        refine ⟨_, ⟨d4, rfl, f.tr f4, v4.trans ?_⟩, ?_⟩
        · show _ = mx (sgD σ k hh i) (K (DT (gM σ) (gV σ k) (gB σ) (2 ^ bN (gB σ) - 1) i))
          rw [DT_never hW]; rfl
        · rw [j1, J_add]; rfl
      · obtain ⟨z, hz, -, hz2, hsc, -, -⟩ := DT_ex (μ := gM σ) (ν := gV σ k) (set := 2 ^ bN (gB σ) - 1) hβ hW
        obtain ⟨d3, hdl, fdl⟩ := dealt_w (ρ := ρ) M' O hop hk hs4 (show 2 ^ bN (gB σ) - 1 < 16 by omega)
        rw [hsc] at hdl
        have hsh : jshl 1 (d_i d' 23 15) - 1 = J ((2 ^ bN (gB σ) - 1 : Nat) : Int) := by
          rw [M'.2.2.1.1, shl_val _ hβ.1]; congr 1; omega
        simp only [h1, h2, if_false, m1, Option.bind_some, jn_eq]
        have hv2 : d_l d3 23 31 = sgD σ k hh i := (fdl.gl (by unfold MW; omega)).trans hv
        obtain ⟨d4, t4, f4, v4, -⟩ := tell_ex (ρ := ρ) hv2 (K (z : Int))
        rw [if_neg (fun q => hW (m2.mp q)), hsh, jm1, hdl, Option.bind_some, J_l (by omega), t4, Option.bind_some]
        refine ⟨_, ⟨d4, rfl, (f.tr fdl.ms).tr f4, v4.trans ?_⟩, ?_⟩
        · show _ = mx (sgD σ k hh i) (K (DT (gM σ) (gV σ k) (gB σ) (2 ^ bN (gB σ) - 1) i))
          rw [hz]
        · rw [j1, J_add]; rfl
    · rintro x ⟨d', rfl, f, hv⟩ self
      have h1 : (4 : Int32) ≤ J ((4 : Nat) : Int) := by decide
      exact ⟨d', by simp only [h1, if_true], f, hv⟩
  · rw [if_neg hop]
    refine lp_e 1 (fun i x => i = 0 ∧ x = (0, db)) (fun o => ∃ d', o = some d' ∧ Fr MS d d' ∧ d_l d' 23 31 = hh) ?_ ?_ 6000 (by omega) _ ⟨rfl, rfl⟩
    · rintro i hi x ⟨-, rfl⟩ self
      have M' := M.frM f0
      have h1 : ¬ (4 : Int32) ≤ 0 := by decide
      have h2 : d_i db 23 4 ≤ 0 := by
        rw [M'.2.1.2, show kN (gM σ) = 0 by omega]; decide
      right
      simp only [h1, if_false, h2, if_true]
      exact ⟨db, rfl, f0, vb⟩
    · rintro x ⟨h, -⟩ self
      exact absurd h (by decide)
theorem digest_m {ρ : Rh} {d : Dd} {σ : Sg} (M : RM d σ) (O : sgOK σ) : ∃ d', fX12_digest ρ d = some (h6D σ, d') ∧ Fr MS d d' := by
  have hβ := O.2.2.1
  have hbN := hβ.1
  have hk8 := O.2.2.2.1.1
  have hkN := O.2.1.2.2.1
  have hP := O.1.1
  have hB := O.2.1.1
  have hS := O.2.1.2.1
  unfold fX12_digest
  rw [bnd_eq]
  have f0 : Fr MS d (dL d 23 31 359) := Fr.rf.l m31
  have M0 := M.frM f0
  have e1 : ∃ d1, Fr MS d d1 ∧ (d_l d1 23 31 = if 0 < kN (gM σ) then mx (mx 359 (K (kB (gM σ)))) (K (kS (gM σ))) else 359) ∧ ∀ {γ : Type} (F : Dd → Option γ), (if d_i (dL d 23 31 359) 23 4 ≤ 0 then F (dL d 23 31 359) else ((fX12_tell ρ (dL d 23 31 359) (Int32.toInt64 (d_i (dL d 23 31 359) 23 2))).bind fun r32 => (fX12_tell ρ r32 (Int32.toInt64 (d_i r32 23 3))).bind fun r33 => F r33)) = F d1 := by
    by_cases hop : 0 < kN (gM σ)
    · have h2 : ¬ d_i (dL d 23 31 359) 23 4 ≤ 0 := by rw [M0.2.1.2, j0, J_le (by omega) (by omega)]; omega
      have ms := M0.2.1.1 hop
      obtain ⟨da, ta, fa, va, ia⟩ := tell_ex (ρ := ρ) (d := dL d 23 31 359) dL_s (K (kB (gM σ)))
      obtain ⟨db, tb', fb, vb, ib⟩ := tell_ex (ρ := ρ) va (K (kS (gM σ)))
      have e3 : d_i da 23 3 = J (kS (gM σ)) := (ia 23 3).trans ms.2.1
      refine ⟨db, (f0.tr fa).tr fb, ?_, fun F => ?_⟩
      · rw [vb, if_pos hop]
      · rw [if_neg h2, ms.1, J_l (by omega), ta, Option.bind_some, e3, J_l (by omega), tb', Option.bind_some]
    · have h2 : d_i (dL d 23 31 359) 23 4 ≤ 0 := by rw [M0.2.1.2, show kN (gM σ) = 0 by omega]; decide
      exact ⟨_, f0, by rw [dL_s, if_neg hop], fun F => by rw [if_pos h2]⟩
  obtain ⟨d1, f1, v1, e1⟩ := e1
  rw [jn_v _ _ d1 (fun k => e1 k)]
  have v1' : d_l d1 23 31 = mkD (gM σ) (if 0 < kN (gM σ) then mx (mx 359 (K (kB (gM σ)))) (K (kS (gM σ))) else 359) 0 := v1
  have ehD : mkD (gM σ) (if 0 < kN (gM σ) then mx (mx 359 (K (kB (gM σ)))) (K (kS (gM σ))) else 359) (kN (gM σ)) = h1D σ := by
    unfold h1D
    by_cases hop : 0 < kN (gM σ)
    · rw [if_pos hop, if_pos hop]
    · rw [if_neg hop, if_neg hop, show kN (gM σ) = 0 by omega]; rfl
  refine lp_c (kN (gM σ)) (fun i x => ∃ d', x = (J (i : Int), d') ∧ Fr MS d d' ∧ d_l d' 23 31 = mkD (gM σ) (if 0 < kN (gM σ) then mx (mx 359 (K (kB (gM σ)))) (K (kS (gM σ))) else 359) i) (fun o => ∃ d', o = some (h6D σ, d') ∧ Fr MS d d') ?_ ?_ 6000 (by omega) _ ⟨d1, rfl, f1, v1'⟩
  · rintro i hi x ⟨d', rfl, f, hv⟩ self
    have M' := M.frM f
    have ms := M'.2.1.1 (show 0 < kN (gM σ) by omega)
    have h1 : ¬ d_i d' 23 4 ≤ J (i : Int) := by rw [M'.2.1.2, J_le (by omega) (by omega)]; omega
    have hin : inB (J (i : Int)) 4 = true := by rw [inB_J (by omega)]; omega
    have hix : ix (J (i : Int)) = i := by rw [ix_J (by omega), Int.toNat_natCast]
    have hb := O.2.1.2.2.2 i hi
    obtain ⟨da, ta, fa, va, ia⟩ := tell_ex (ρ := ρ) hv (K (kW (gM σ) i))
    obtain ⟨db, tb', fb, vb, ib⟩ := tell_ex (ρ := ρ) va (K (kV (gM σ) i))
    have e26 : d_i da 26 i = J (kV (gM σ) i) := (ia 26 i).trans (ms.2.2.2 i hi).2
    simp only [h1, if_false, hin, if_true, hix, (ms.2.2.2 i hi).1]
    rw [J_l (by omega), ta, Option.bind_some, e26, J_l (by omega), tb', Option.bind_some]
    refine ⟨_, ⟨db, rfl, (f.tr fa).tr fb, vb⟩, ?_⟩
    rw [j1, J_add]; rfl
  · rintro x ⟨d', rfl, f, hv⟩ self
    have M' := M.frM f
    have h1 : d_i d' 23 4 ≤ J (kN (gM σ) : Int) := by rw [M'.2.1.2, J_le (by omega) (by omega)]; omega
    rw [ehD] at hv
    simp only [h1, if_true]
    refine lp_c (bN (gB σ)) (fun i x => ∃ d', x = (J (i : Int), d') ∧ Fr MS d d' ∧ d_l d' 23 31 = byD (gB σ) (h1D σ) i) (fun o => ∃ d', o = some (h6D σ, d') ∧ Fr MS d d') ?_ ?_ 6000 (by omega) _ ⟨d', rfl, f, hv⟩
    · rintro i hi x ⟨d', rfl, f, hv⟩ self
      have M' := M.frM f
      have h1 : ¬ d_i d' 23 15 ≤ J (i : Int) := by rw [M'.2.2.1.1, J_le (by omega) (by omega)]; omega
      have hin : inB (J (i : Int)) 4 = true := by rw [inB_J (by omega)]; omega
      have hix : ix (J (i : Int)) = i := by rw [ix_J (by omega), Int.toNat_natCast]
      have hb := hβ.2 i hi
      have ms := M'.2.2.1.2 i hi
      obtain ⟨da, ta, fa, va, ia⟩ := tell_ex (ρ := ρ) hv (K (bL (gB σ) i))
      obtain ⟨db, tb', fb, vb, ib⟩ := tell_ex (ρ := ρ) va (K (bF (gB σ) i))
      have e30 : d_i da 30 i = J (bF (gB σ) i) := (ia 30 i).trans ms.2
      simp only [h1, if_false, hin, if_true, hix, ms.1]
      rw [J_l (by omega), ta, Option.bind_some, e30, J_l (by omega), tb', Option.bind_some]
      refine ⟨_, ⟨db, rfl, (f.tr fa).tr fb, vb⟩, ?_⟩
      rw [j1, J_add]; rfl
    · rintro x ⟨d', rfl, f, hv⟩ self
      have M' := M.frM f
      have h1 : d_i d' 23 15 ≤ J (bN (gB σ) : Int) := by rw [M'.2.2.1.1, J_le (by omega) (by omega)]; omega
      simp only [h1, if_true]
      refine lp_c (gN σ) (fun i x => ∃ d', x = (J (i : Int), d') ∧ Fr MS d d' ∧ d_l d' 23 31 = nsD σ (h2D σ) i) (fun o => ∃ d', o = some (h6D σ, d') ∧ Fr MS d d') ?_ ?_ 6000 (by omega) _ ⟨d', rfl, f, hv⟩
      · rintro i hi x ⟨d', rfl, f, hv⟩ self
        have M' := M.frM f
        have h1 : ¬ d_i d' 23 18 ≤ J (i : Int) := by rw [M'.2.2.2.1.1, J_le (by omega) (by omega)]; omega
        obtain ⟨d2, t2, f2, v2⟩ := tellNews_val (ρ := ρ) M' O hi hv
        simp only [h1, if_false, t2, Option.bind_some]
        refine ⟨_, ⟨d2, rfl, f.tr f2, v2⟩, ?_⟩
        rw [j1, J_add]; rfl
      · rintro x ⟨d', rfl, f, hv⟩ self
        have M' := M.frM f
        have h1 : d_i d' 23 18 ≤ J (gN σ : Int) := by rw [M'.2.2.2.1.1, J_le (by omega) (by omega)]; omega
        simp only [h1, if_true]
        have e2 : ∃ d2, Fr MS d d2 ∧ d_l d2 23 31 = h4D σ ∧ ∀ {γ : Type} (F : Dd → Option γ), (if d_i d' 23 4 ≤ 0 then F d' else ((fX12_boundOf ρ d').bind fun r19 => (fX12_allWeights ρ d').bind fun r20 => (fX12_term r19 (Int32.toInt64 r20) 0).bind fun r21 => (fX12_tell ρ d' r21).bind fun r22 => (fX12_boundOf ρ r22).bind fun r23 => (fX12_allWeights ρ r22).bind fun r24 => (fX12_term r23 (Int32.toInt64 r24) 1).bind fun r25 => (fX12_tell ρ r22 r25).bind fun r26 => F r26)) = F d2 := by
          unfold h4D
          by_cases hop : 0 < kN (gM σ)
          · have h2 : ¬ d_i d' 23 4 ≤ 0 := by rw [M'.2.1.2, j0, J_le (by omega) (by omega)]; omega
            obtain ⟨da, ta, fa, va, ia⟩ := tell_ex (ρ := ρ) hv (K (frc (moS (gM σ) (lmS (gB σ))) (WT (gM σ)) 0))
            obtain ⟨db, tb', fb, vb, ib⟩ := tell_ex (ρ := ρ) va (K (frc (moS (gM σ) (lmS (gB σ))) (WT (gM σ)) 1))
            have Ma := M.frM (f.tr fa)
            have b0 := bound_m M' O hop (p := 0) (Or.inl rfl)
            have b1 := bound_m Ma O hop (p := 1) (Or.inr rfl)
            refine ⟨db, (f.tr fa).tr fb, by rw [vb, if_pos hop]; rfl, fun F => ?_⟩
            rw [if_neg h2, boundOf_val (M'.2.1.1 hop) M'.2.2.1 O.2.1 hβ, Option.bind_some, allW_val (M'.2.1.1 hop) O.2.1, Option.bind_some, j0, b0, Option.bind_some, ta, Option.bind_some, boundOf_val (Ma.2.1.1 hop) Ma.2.2.1 O.2.1 hβ, Option.bind_some, allW_val (Ma.2.1.1 hop) O.2.1, Option.bind_some, j1, b1, Option.bind_some, tb', Option.bind_some]
          · have h2 : d_i d' 23 4 ≤ 0 := by rw [M'.2.1.2, show kN (gM σ) = 0 by omega]; decide
            exact ⟨d', f, by rw [if_neg hop]; exact hv, fun F => by rw [if_pos h2]⟩
        obtain ⟨d2, f2, v2, e2⟩ := e2
        rw [jn_v _ _ d2 (fun k => e2 k)]
        refine lp_c (gP σ) (fun i x => ∃ d', x = (J (i : Int), d') ∧ Fr MS d d' ∧ d_l d' 23 31 = pgD σ (h4D σ) i) (fun o => ∃ d', o = some (h6D σ, d') ∧ Fr MS d d') ?_ ?_ 6000 (by omega) _ ⟨d2, rfl, f2, v2⟩
        · rintro i hi x ⟨d', rfl, f, hv⟩ self
          have M' := M.frM f
          have h1 : ¬ d_i d' 23 1 ≤ J (i : Int) := by rw [M'.1.1, J_le (by omega) (by omega)]; omega
          have hin : inB (J (i : Int)) 60 = true := by rw [inB_J (by omega)]; omega
          have hix : ix (J (i : Int)) = i := by rw [ix_J (by omega), Int.toNat_natCast]
          have hb := O.1.2 i hi
          simp only [h1, if_false, hin, if_true, hix, M'.1.2 i hi]
          obtain ⟨da, ta, fa, va, ia⟩ := tell_ex (ρ := ρ) hv (K (gL σ i))
          rw [J_l (by omega), ta, Option.bind_some]
          refine ⟨_, ⟨da, rfl, f.tr fa, va⟩, ?_⟩
          rw [j1, J_add]; rfl
        · rintro x ⟨d', rfl, f, hv⟩ self
          have M' := M.frM f
          have h1 : d_i d' 23 1 ≤ J (gP σ : Int) := by rw [M'.1.1, J_le (by omega) (by omega)]; omega
          simp only [h1, if_true]
          refine lp_c 5 (fun i x => ∃ d', x = (J (i : Int), d') ∧ Fr MS d d' ∧ d_l d' 23 31 = ctD σ (h5D σ) i) (fun o => ∃ d', o = some (h6D σ, d') ∧ Fr MS d d') ?_ ?_ 6000 (by omega) _ ⟨d', rfl, f, hv⟩
          · rintro i hi x ⟨d', rfl, f, hv⟩ self
            have M' := M.frM f
            have h1 : ¬ (5 : Int32) ≤ J (i : Int) := by rw [j5, J_le (by omega) (by omega)]; omega
            have hc := cnt_m (ρ := ρ) M' (J (i : Int))
            rw [cnt_if σ hi] at hc
            have hb := cvS_bd O i
            simp only [h1, if_false, hc, Option.bind_some]
            obtain ⟨da, ta, fa, va, ia⟩ := tell_ex (ρ := ρ) hv (K (cvS σ i))
            rw [J_l (by omega), ta, Option.bind_some]
            refine ⟨_, ⟨da, rfl, f.tr fa, va⟩, ?_⟩
            rw [j1, J_add]; rfl
          · rintro x ⟨d', rfl, f, hv⟩ self
            have h1 : (5 : Int32) ≤ J ((5 : Nat) : Int) := by decide
            refine ⟨d', ?_, f⟩
            simp only [h1, if_true, hv]; rfl
theorem op26 : Op26 Inv := by
  rintro d ρ ⟨σ, O, R, C, M⟩
  obtain ⟨d1, w1, f1, C1⟩ := digest_c (ρ := ρ) R O C
  obtain ⟨d2, w2, f2⟩ := digest_m (ρ := ρ) (M.frC f1) O
  exact ⟨_, d1, d2, w1, w2, inv_cm O R M C1 f1 f2, f1.cs2⟩
