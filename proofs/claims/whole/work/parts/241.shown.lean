/-! what is shown -/
noncomputable def sb (μ : Mk) (ν : Nw) (β : By) (set : Nat) (s : Nat) : Int := if WS μ ν s = 0 then 99 else TT β (DT μ ν β set s).toNat
theorem sb_never {μ : Mk} {ν : Nw} {β : By} {set s : Nat} (h : WS μ ν s = 0) : sb μ ν β set s = 99 := by unfold sb; rw [if_pos h]
theorem sb_is {μ : Mk} {ν : Nw} {β : By} {set s : Nat} (h : ¬ WS μ ν s = 0) {z : Nat} (hz : DT μ ν β set s = (z : Int)) : sb μ ν β set s = TT β z := by
  unfold sb; rw [if_neg h, hz, Int.toNat_natCast]
theorem sb_99 {μ : Mk} {ν : Nw} {β : By} (hβ : byOK β) {set s : Nat} : sb μ ν β set s = 99 ↔ WS μ ν s = 0 := by
  unfold sb
  by_cases h : WS μ ν s = 0
  · rw [if_pos h]; exact ⟨fun _ => h, fun _ => rfl⟩
  · rw [if_neg h]
    have := TT_bd hβ (DT μ ν β set s).toNat
    exact ⟨fun q => by omega, fun q => absurd q h⟩
theorem sb_bd {μ : Mk} {ν : Nw} {β : By} (hβ : byOK β) {set s : Nat} : -12 ≤ sb μ ν β set s ∧ sb μ ν β set s ≤ 99 := by
  unfold sb
  split
  · omega
  · have := TT_bd hβ (DT μ ν β set s).toNat
    omega
theorem csteps_val {ρ : Rh} {d : Dd} {β : By} (B : BuyAt d β) (P : PlAt d) (hβ : byOK β) {z : Nat} (hz : z < 2401) : fX1_stepsOf ρ d (J z) = some (J (TT β z)) := by
  have hN := hβ.1
  unfold fX1_stepsOf TT
  refine lp_up (bN β) (fun i => (J (sm i (st z)), J (i : Int))) (fun i hi self => ?_) (fun self => ?_) 6000 (by omega)
  · have h1 : ¬ d_i d 15 2 ≤ J (i : Int) := by rw [B.1, J_le (by omega) (by omega)]; omega
    simp only [h1, if_false, stepOf_val P hz (show i < 4 by omega), Option.bind_some, bnd_eq]
    rw [J_add, j1, J_add]; rfl
  · have h1 : d_i d 15 2 ≤ J (bN β : Int) := by rw [B.1, J_le (by omega) (by omega)]; omega
    simp only [h1, if_true]
theorem look_al {ρ : Rh} {d : Dd} {σ : Sg} (B : BuyAt d (gB σ)) (P : PlAt d) (O : sgOK σ) {k set : Nat} (row : RowOK d σ k set) (hk : k < 8) (hs : set < 16) {s t : Nat} (h4 : s < 4) (h5 : t < 4) :
    fX11_lookAlike ρ d (J k) (J set) (J s) (J t) = some (decide (¬ sb (gM σ) (gV σ k) (gB σ) set s = 99 ∧ sb (gM σ) (gV σ k) (gB σ) set t = sb (gM σ) (gV σ k) (gB σ) set s)) := by
  have hβ := O.2.2.1
  unfold fX11_lookAlike
  rw [dealtFor_row row hk hs h4, Option.bind_some, dealtFor_row row hk hs h5, Option.bind_some]
  by_cases q1 : WS (gM σ) (gV σ k) s = 0
  · have e := sb_never (β := gB σ) (set := set) q1
    rw [DT_never q1, if_pos jm1.symm, decide_eq_false (fun z => z.1 e)]
  · obtain ⟨z, hz, -, hz2, -, -, -⟩ := DT_ex (set := set) hβ q1
    have n1 : ¬ J (z : Int) = -1 := by rw [jm1, J_eq (by omega) (by omega)]; omega
    have e1 := sb_is q1 hz
    have b1 := TT_bd hβ z
    rw [hz, if_neg n1]
    by_cases q2 : WS (gM σ) (gV σ k) t = 0
    · have e := sb_never (β := gB σ) (set := set) q2
      rw [DT_never q2, if_pos jm1.symm, decide_eq_false (fun z => by have := z.2; omega)]
    · obtain ⟨y, hy, -, hy2, -, -, -⟩ := DT_ex (set := set) hβ q2
      have n2 : ¬ J (y : Int) = -1 := by rw [jm1, J_eq (by omega) (by omega)]; omega
      have e2 := sb_is q2 hy
      have b2 := TT_bd hβ y
      rw [hy, if_neg n2, csteps_val B P hβ hz2, Option.bind_some, csteps_val B P hβ hy2, Option.bind_some, e1, e2]
      have c : J (TT (gB σ) z) = J (TT (gB σ) y) ↔ TT (gB σ) z = TT (gB σ) y := J_eq (by omega) (by omega)
      by_cases q : TT (gB σ) z = TT (gB σ) y
      · rw [if_pos (c.mpr q), decide_eq_true ⟨by omega, q.symm⟩]
      · rw [if_neg (fun w => q (c.mp w)), decide_eq_false (fun w => q w.2.symm)]
def fresh (f : Nat → Int) (s : Nat) : Prop := ¬ f s = 99 ∧ ∀ t, t < s → ¬ f t = f s
noncomputable def shwS (f : Nat → Int) : Nat → Int
  | 0 => 0
  | n + 1 => shwS f n + @ite Int (fresh f n) (Classical.propDecidable _) 1 0
theorem shwS_t {f : Nat → Int} {n : Nat} (h : fresh f n) : shwS f (n + 1) = shwS f n + 1 := by
  show shwS f n + @ite Int (fresh f n) (Classical.propDecidable _) 1 0 = _
  rw [if_pos h]
theorem shwS_f {f : Nat → Int} {n : Nat} (h : ¬ fresh f n) : shwS f (n + 1) = shwS f n := by
  show shwS f n + @ite Int (fresh f n) (Classical.propDecidable _) 1 0 = _
  rw [if_neg h, Int.add_zero]
theorem earlier_val {ρ : Rh} {d : Dd} {σ : Sg} (B : BuyAt d (gB σ)) (P : PlAt d) (O : sgOK σ) {k set : Nat} (row : RowOK d σ k set) (hk : k < 8) (hs : set < 16) {s : Nat} (h4 : s < 4) (h99 : ¬ sb (gM σ) (gV σ k) (gB σ) set s = 99) :
    ∃ r, fX11_looksLikeEarlier ρ d (J k) (J set) (J s) = some r ∧ (r = true ↔ ¬ fresh (sb (gM σ) (gV σ k) (gB σ) set) s) := by
  unfold fX11_looksLikeEarlier
  refine lp_e s (fun i x => x = J (i : Int) ∧ ∀ t, t < i → ¬ sb (gM σ) (gV σ k) (gB σ) set t = sb (gM σ) (gV σ k) (gB σ) set s) (fun o => ∃ r, o = some r ∧ (r = true ↔ ¬ fresh (sb (gM σ) (gV σ k) (gB σ) set) s)) ?_ ?_ 6000 (by omega) _ ⟨rfl, fun t ht => absurd ht (Nat.not_lt_zero t)⟩
  · rintro i hi x ⟨rfl, hno⟩ self
    have h1 : ¬ J (s : Int) ≤ J (i : Int) := by rw [J_le (by omega) (by omega)]; omega
    simp only [h1, if_false, look_al B P O row hk hs h4 (show i < 4 by omega), Option.bind_some]
    by_cases q : sb (gM σ) (gV σ k) (gB σ) set i = sb (gM σ) (gV σ k) (gB σ) set s
    · right
      rw [decide_eq_true ⟨h99, q⟩, if_pos rfl]
      exact ⟨true, rfl, fun _ => fun z => z.2 i hi q, fun _ => rfl⟩
    · left
      rw [decide_eq_false (fun z => q z.2), if_neg Bool.false_ne_true]
      refine ⟨_, ⟨rfl, fun t ht => ?_⟩, ?_⟩
      · by_cases e : t = i
        · subst e; exact q
        · exact hno t (by omega)
      · rw [j1, J_add]; rfl
  · rintro x ⟨rfl, hno⟩ self
    have h1 : J (s : Int) ≤ J (s : Int) := by rw [J_le (by omega) (by omega)]; omega
    simp only [h1, if_true]
    exact ⟨false, rfl, fun z => by simp at z, fun z => absurd ⟨h99, hno⟩ z⟩
theorem dealt_w {ρ : Rh} {d : Dd} {σ : Sg} (M : RM d σ) (O : sgOK σ) (hop : 0 < kN (gM σ)) {k : Nat} (hk : k < gN σ) {s : Int} (hs : 0 ≤ s ∧ s < 4) {set : Nat} (hset : set < 16) : ∃ d', fX12_dealtFor ρ d (J k) (J set) (J s) (J (-1)) = some (J (scn (qz (hgS (gM σ) (gV σ k) s) (gB σ) set) (tz (hgS (gM σ) (gV σ k) s) (gB σ)) (7 ^ bN (gB σ))).2.1, d') ∧ Fr MW d d' :=
  ⟨_, mdealt_val (M.2.1.1 hop) (M.2.2.2.1.2 k hk) M.2.2.1 O.2.1 (O.2.2.2.1.2 k hk) O.2.2.1 hs hset (by omega), fr_dM (fun k h1 h2 => Or.inl ⟨rfl, h1, h2⟩) Fr.rf⟩
theorem laySteps_val {ρ : Rh} {d : Dd} {σ : Sg} (M : RM d σ) (O : sgOK σ) (hop : 0 < kN (gM σ)) {k set : Nat} (hk : k < gN σ) (hset : set < 16) :
    ∃ d', fX12_layStepsBySign ρ d (J k) (J set) = some d' ∧ Fr MS d d' ∧ ∀ s, s < 4 → d_i d' 34 s = J (sb (gM σ) (gV σ k) (gB σ) set s) := by
  have hβ := O.2.2.1
  have hν := O.2.2.2.1.2 k hk
  have m34 : ∀ k, MS 34 k := fun k => Or.inr (Or.inr (Or.inr (Or.inr rfl)))
  unfold fX12_layStepsBySign
  refine lp_c 4 (fun i x => ∃ d', x = (J (i : Int), d') ∧ Fr MS d d' ∧ ∀ s, s < i → d_i d' 34 s = J (sb (gM σ) (gV σ k) (gB σ) set s)) (fun o => ∃ d', o = some d' ∧ Fr MS d d' ∧ ∀ s, s < 4 → d_i d' 34 s = J (sb (gM σ) (gV σ k) (gB σ) set s)) ?_ ?_ 6000 (by omega) _ ⟨d, rfl, Fr.rf, fun t ht => absurd ht (Nat.not_lt_zero t)⟩
  · rintro i hi x ⟨d', rfl, f, hv⟩ self
    have M' := M.frM f
    have h1 : ¬ (4 : Int32) ≤ J (i : Int) := by rw [j4, J_le (by omega) (by omega)]; omega
    have hin : inB (J (i : Int)) 4 = true := by rw [inB_J (by omega)]; omega
    have hix : ix (J (i : Int)) = i := by rw [ix_J (by omega), Int.toNat_natCast]
    have hs4 : (0 : Int) ≤ (i : Int) ∧ (i : Int) < 4 := by omega
    obtain ⟨m1, m2, m3⟩ := hear_m (ρ := ρ) M' O hop hk hs4
    by_cases hW : WS (gM σ) (gV σ k) (i : Int) = 0
    · simp only [h1, if_false, m1, Option.bind_some, jn_eq, hin, if_true, hix, bnd_eq]
      rw [if_pos (m2.mpr hW)]
      refine ⟨_, ⟨dI d' 34 i 99, rfl, f.i (m34 i), fun s hs => ?_⟩, ?_⟩
      · by_cases e : s = i
        · subst e; rw [dI_s, sb_never hW]; rfl
        · rw [dI_o (by omega)]; exact hv s (by omega)
      · rw [j1, J_add]; rfl
    · obtain ⟨z, hz, -, hz2, hsc, -, -⟩ := DT_ex (μ := gM σ) (ν := gV σ k) (set := set) hβ hW
      obtain ⟨d3, hdl, fdl⟩ := dealt_w (ρ := ρ) M' O hop hk hs4 hset
      rw [hsc] at hdl
      have htg := fun (d3 : Dd) (B3 : MdlB d3 (gB σ)) => together_val (ρ := ρ) B3 hβ hz2
      simp only [h1, if_false, m1, Option.bind_some, jn_eq, hin, if_true, hix, bnd_eq]
      rw [if_neg (fun q => hW (m2.mp q)), jm1, hdl, Option.bind_some, htg d3 (M'.frM fdl.ms).2.2.1, Option.bind_some]
      refine ⟨_, ⟨dI d3 34 i (J (TT (gB σ) z)), rfl, (f.tr fdl.ms).i (m34 i), fun s hs => ?_⟩, ?_⟩
      · by_cases e : s = i
        · subst e; rw [dI_s, sb_is hW hz]
        · rw [dI_o (by omega), fdl.gi (by unfold MW; omega)]
          exact hv s (by omega)
      · rw [j1, J_add]; rfl
  · rintro x ⟨d', rfl, f, hv⟩ self
    have h1 : (4 : Int32) ≤ J ((4 : Nat) : Int) := by decide
    exact ⟨d', by simp only [h1, if_true], f, hv⟩
theorem op21 : Op21 Inv := by
  rintro d ρ ⟨σ, O, R, C, M⟩ x1 x2
  obtain ⟨a, ha, rfl⟩ := J_of x1
  obtain ⟨t, ht, rfl⟩ := J_of x2
  have hβ := O.2.2.1
  have B := R.2.2.2.1
  have hN := hβ.1
  have h2N := two_le hN
  have hk8 := O.2.2.2.1.1
  rcases rfs_cases σ a true (decide (0 ≤ t ∧ t < ((2 ^ bN (gB σ) : Nat) : Int))) with ⟨h0, ha0, ha1, hop, hnm, hins⟩ | hbad
  · have ht4 := of_decide_eq_true hins
    have hz : J (rfs σ a true (decide (0 ≤ t ∧ t < ((2 ^ bN (gB σ) : Nat) : Int)))) = 0 := by rw [h0]; rfl
    obtain ⟨k, rfl⟩ : ∃ k : Nat, a = (k : Int) := ⟨a.toNat, by omega⟩
    obtain ⟨set, rfl⟩ : ∃ k : Nat, t = (k : Int) := ⟨t.toNat, by omega⟩
    have hset : set < 2 ^ bN (gB σ) := by omega
    have hk : k < gN σ := by omega
    obtain ⟨d1, s1, f1, C1, row, -⟩ := settle_val R O C hop hk hset
    have R1 := R.fr f1
    have M1 := M.frC f1
    obtain ⟨d2, l2, f2, h34⟩ := laySteps_val (ρ := ρ) M1 O hop hk (show set < 16 by omega)
    refine ⟨J (shwS (sb (gM σ) (gV σ k) (gB σ) set) 4), d1, d2, ?_, ?_, inv_cm O R M C1 f1 f2, f1.cs2⟩
    · unfold fX11_shown
      rw [isSet_val B hβ ht, Option.bind_some]
      rw [refusal_c R O ha, Option.bind_some, if_pos hz, s1, Option.bind_some]
      refine lp_up 4 (fun i => (J (shwS (sb (gM σ) (gV σ k) (gB σ) set) i), J (i : Int))) (fun i hi self => ?_) (fun self => ?_) 6000 (by omega)
      · have h1 : ¬ (4 : Int32) ≤ J (i : Int) := by rw [j4, J_le (by omega) (by omega)]; omega
        have hdt := dealtFor_row (ρ := ρ) row (by omega) (by omega) (s := i) (by omega)
        simp only [h1, if_false, hdt, Option.bind_some, jn_eq]
        by_cases hW : WS (gM σ) (gV σ k) (i : Int) = 0
        · rw [DT_never hW, if_pos jm1.symm, shwS_f (fun z => z.1 (sb_never hW)), j1, J_add]; rfl
        · obtain ⟨z, hz, -, hz2, -, -, -⟩ := DT_ex (μ := gM σ) (ν := gV σ k) (set := set) hβ hW
          have n1 : ¬ J (z : Int) = -1 := by rw [jm1, J_eq (by omega) (by omega)]; omega
          obtain ⟨r, er, hr⟩ := earlier_val (ρ := ρ) R1.2.2.2.1 R1.1.1 O row (by omega) (by omega) hi (fun z => hW ((sb_99 hβ).mp z))
          rw [hz, if_neg n1, er, Option.bind_some]
          by_cases q : fresh (sb (gM σ) (gV σ k) (gB σ) set) i
          · have e : ¬ r = true := fun z => hr.mp z q
            rw [if_neg e, shwS_t q, j1, J_add, J_add]; rfl
          · rw [if_pos (hr.mpr q), shwS_f q, j1, J_add]; rfl
      · have h1 : (4 : Int32) ≤ J ((4 : Nat) : Int) := by decide
        simp only [h1, if_true]
    · unfold fX12_shown
      rw [isSet_m M1.2.2.1 hβ ht, Option.bind_some]
      rw [refusal_m M1 O ha, Option.bind_some, if_pos hz, l2, Option.bind_some]
      refine lp_up 4 (fun i => (J (shwS (sb (gM σ) (gV σ k) (gB σ) set) i), J (i : Int))) (fun i hi self => ?_) (fun self => ?_) 6000 (by omega)
      · have h1 : ¬ (4 : Int32) ≤ J (i : Int) := by rw [j4, J_le (by omega) (by omega)]; omega
        have hin : inB (J (i : Int)) 4 = true := by rw [inB_J (by omega)]; omega
        have hix : ix (J (i : Int)) = i := by rw [ix_J (by omega), Int.toNat_natCast]
        have bi := sb_bd (μ := gM σ) (ν := gV σ k) (set := set) (s := i) hβ
        have c99 : J ((sb (gM σ) (gV σ k) (gB σ) set) i) = 99 ↔ (sb (gM σ) (gV σ k) (gB σ) set) i = 99 := by rw [j99]; exact J_eq (by omega) (by omega)
        simp only [h1, if_false, hin, if_true, hix, h34 i hi]
        refine (jn_b _ _ (decide (¬ (sb (gM σ) (gV σ k) (gB σ) set) i = 99)) (fun kk => ?_)).trans ?_
        · by_cases q : (sb (gM σ) (gV σ k) (gB σ) set) i = 99
          · have nq : ¬ ¬ (sb (gM σ) (gV σ k) (gB σ) set) i = 99 := fun z => z q
            rw [if_pos (c99.mpr q), decide_eq_false nq]
          · rw [if_neg (fun z => q (c99.mp z)), decide_eq_true q]
        · refine lp_c i (fun t x => ∃ b : Bool, x = (b, J (t : Int)) ∧ (b = true ↔ ¬ (sb (gM σ) (gV σ k) (gB σ) set) i = 99 ∧ ∀ t', t' < t → ¬ (sb (gM σ) (gV σ k) (gB σ) set) t' = (sb (gM σ) (gV σ k) (gB σ) set) i)) (fun o => o = self (J (shwS (sb (gM σ) (gV σ k) (gB σ) set) (i + 1)), J ((i + 1 : Nat) : Int))) ?_ ?_ 6000 (by omega) _ ⟨_, rfl, fun z => ⟨of_decide_eq_true z, fun t ht => absurd ht (Nat.not_lt_zero t)⟩, fun z => decide_eq_true z.1⟩
          · rintro t ht x ⟨b, rfl, hb⟩ self2
            have h2 : ¬ J (i : Int) ≤ J (t : Int) := by rw [J_le (by omega) (by omega)]; omega
            have hin2 : inB (J (t : Int)) 4 = true := by rw [inB_J (by omega)]; omega
            have hix2 : ix (J (t : Int)) = t := by rw [ix_J (by omega), Int.toNat_natCast]
            have bt := sb_bd (μ := gM σ) (ν := gV σ k) (set := set) (s := t) hβ
            have ct : J ((sb (gM σ) (gV σ k) (gB σ) set) t) = J ((sb (gM σ) (gV σ k) (gB σ) set) i) ↔ (sb (gM σ) (gV σ k) (gB σ) set) t = (sb (gM σ) (gV σ k) (gB σ) set) i := J_eq (by omega) (by omega)
            simp only [h2, if_false, jn_eq, hin, hin2, if_true, hix2, h34 t (by omega)]
            have e1 : (J (t : Int) + 1) = J ((t + 1 : Nat) : Int) := by rw [j1, J_add]; rfl
            rw [e1]
            by_cases hbt : b = true
            · rw [if_pos hbt]
              have q := hb.mp hbt
              by_cases w : (sb (gM σ) (gV σ k) (gB σ) set) t = (sb (gM σ) (gV σ k) (gB σ) set) i
              · rw [if_pos (ct.mpr w)]
                exact ⟨_, ⟨false, rfl, fun z => by simp at z, fun z => absurd w (z.2 t (by omega))⟩, rfl⟩
              · rw [if_neg (fun z => w (ct.mp z))]
                refine ⟨_, ⟨true, rfl, fun _ => ⟨q.1, fun t' ht' => ?_⟩, fun _ => rfl⟩, rfl⟩
                by_cases e : t' = t
                · subst e; exact w
                · exact q.2 t' (by omega)
            · rw [if_neg hbt]
              exact ⟨_, ⟨false, rfl, fun z => by simp at z, fun z => absurd (hb.mpr ⟨z.1, fun t' ht' => z.2 t' (by omega)⟩) hbt⟩, rfl⟩
          · rintro x ⟨b, rfl, hb⟩ self2
            have h2 : J (i : Int) ≤ J (i : Int) := by rw [J_le (by omega) (by omega)]; omega
            have e1 : (J (i : Int) + 1) = J ((i + 1 : Nat) : Int) := by rw [j1, J_add]; rfl
            simp only [h2, if_true, jn_eq, bnd_eq]
            rw [e1]
            by_cases hbt : b = true
            · rw [if_pos hbt, shwS_t (hb.mp hbt)]
              have e2 : J (shwS (sb (gM σ) (gV σ k) (gB σ) set) i) + b2i true = J (shwS (sb (gM σ) (gV σ k) (gB σ) set) i + 1) := by rw [b2i_J, J_add]; rfl
              rw [e2]
            · rw [if_neg hbt, shwS_f (fun z => hbt (hb.mpr z))]
              have e2 : J (shwS (sb (gM σ) (gV σ k) (gB σ) set) i) + b2i false = J (shwS (sb (gM σ) (gV σ k) (gB σ) set) i) := by rw [b2i_J, J_add]; congr 1; exact Int.add_zero _
              rw [e2]
      · have h1 : (4 : Int32) ≤ J ((4 : Nat) : Int) := by decide
        simp only [h1, if_true]
  · have hne : ¬ J (rfs σ a true (decide (0 ≤ t ∧ t < ((2 ^ bN (gB σ) : Nat) : Int)))) = 0 := by rcases hbad with h | h | h <;> rw [h] <;> decide
    refine ⟨J (rfs σ a true (decide (0 ≤ t ∧ t < ((2 ^ bN (gB σ) : Nat) : Int)))), d, d, ?_, ?_, ⟨σ, O, R, C, M⟩, rfl⟩
    · unfold fX11_shown
      rw [isSet_val B hβ ht, Option.bind_some]
      rw [refusal_c R O ha, Option.bind_some, if_neg hne]
    · unfold fX12_shown
      rw [isSet_m M.2.2.1 hβ ht, Option.bind_some]
      rw [refusal_m M O ha, Option.bind_some, if_neg hne]
