theorem bnd_eq {α β : Type} (v : α) (k : α → β) : bnd v k = k v := Eq.trans (Eq.refl _) (Eq.refl _)
theorem jn_eq {σ γ : Type} (k : σ → γ) (f : (σ → γ) → γ) : jn k f = f k := Eq.trans (Eq.refl _) (Eq.refl _)
theorem mrest_in {ρ : Rh} {d : Dd} {β : By} {η : Hg} (B : MdlB d β) (D : MdlD d η) (hβ : byOK β) (hη : hgOK η) {z set i : Nat} (hs : set < 16) (hi : i < bN β) (k8 : Bool → Option Bool) : ∃ c : Bool, (c = true ↔ (set.testBit i = true → ∀ y, -bL β i ≤ y → y ≤ bL β i → gn η.1 η.2.1 η.2.2 (bF β i) y (TT β z - st z i + y) ≤ gn η.1 η.2.1 η.2.2 (bF β i) (st z i) (TT β z))) ∧
    lp (fun (self10 : Bool × Int32 → Option Bool) (x9 : Bool × Int32) =>
            if inB (J i) 4 = true then
              (if (d_i d 29 (ix (J i))) < x9.2 then
                (k8 x9.1)
              else
                (if ((jshr (J set) (J i)) &&& 1) = 1 then
                  (jn (fun (x11 : Bool) =>
                    self10 (x11, (x9.2 + 1))
                    ) fun k12 =>
                  jn (fun (x13 : Unit) =>
                    k12 false
                    ) fun k14 =>
                  if x9.1 = true then
                    ((fX12_made ρ d (J i) x9.2 ((J (TT β z) - J (st z i)) + x9.2)).bind fun r15 =>
                    if K (100 * gn η.1 η.2.1 η.2.2 (bF β i) (st z i) (TT β z)) < r15 then
                      (k14 ())
                    else
                      (k12 true))
                  else
                    (k14 ()))
                else
                  (k8 x9.1)))
            else none
            ) 6000 (true, J (-bL β i)) = k8 c := by
  have hN := hβ.1
  have hl := (hβ.2 i hi).1
  have hf := (hβ.2 i hi).2
  have hT := TT_bd hβ z
  have hst := st_bd z i
  have h3 : inB (J (i : Int)) 4 = true := by rw [inB_J (by omega)]; omega
  have b0 := (gn_bd (W := η.1) (E := η.2.1) (S := η.2.2) (f := bF β i) (x := st z i) (T := TT β z) hη.1 hη.2.1 hη.2.2 hf (by omega) (by omega)).2.2.2.2.2.2
  by_cases hbit : set.testBit i = true
  · have e1 := (set_bit set hs i (by omega)).mpr hbit
    refine lp_n (fun n s => ∃ (y : Int) (c : Bool), (bL β i + 1 - y = n ∧ -bL β i ≤ y) ∧ s = (c, J y) ∧ (c = true ↔ ∀ y', -bL β i ≤ y' → y' < y → gn η.1 η.2.1 η.2.2 (bF β i) y' (TT β z - st z i + y') ≤ gn η.1 η.2.1 η.2.2 (bF β i) (st z i) (TT β z)))
      (fun o => ∃ c : Bool, (c = true ↔ (set.testBit i = true → ∀ y, -bL β i ≤ y → y ≤ bL β i → gn η.1 η.2.1 η.2.2 (bF β i) y (TT β z - st z i + y) ≤ gn η.1 η.2.1 η.2.2 (bF β i) (st z i) (TT β z))) ∧ o = k8 c) ?_ 6000 (2 * bL β i + 1).toNat _ ⟨-bL β i, true, by omega, rfl, by simp; intro y' h1 h2; omega⟩ (by omega)
    rintro n s ⟨y, c, ⟨hn, hy⟩, rfl, hc⟩ self
    have c1 : d_i d 29 (ix (J (i : Int))) < J y ↔ bL β i < y := by
      rw [ix_J (by omega), Int.toNat_natCast, (B.2 i hi).1]; exact J_lt (by omega) (by omega)
    simp only [h3, if_true]
    by_cases hend : bL β i < y
    · right
      rw [if_pos (c1.mpr hend)]
      refine ⟨c, ?_, rfl⟩
      rw [hc]
      constructor
      · intro h _ y' h1 h2; exact h y' h1 (by omega)
      · intro h y' h1 h2; exact h hbit y' h1 (by omega)
    · left
      rw [if_neg (fun q => hend (c1.mp q)), if_pos e1]
      simp only [jn]
      have next : ∀ (c' : Bool) (o : Option Bool), (c' = true ↔ (c = true ∧ gn η.1 η.2.1 η.2.2 (bF β i) y (TT β z - st z i + y) ≤ gn η.1 η.2.1 η.2.2 (bF β i) (st z i) (TT β z))) → o = self (c', J y + 1) → ∃ s' n', n' < n ∧ (∃ (y : Int) (c : Bool), (bL β i + 1 - y = n' ∧ -bL β i ≤ y) ∧ s' = (c, J y) ∧ (c = true ↔ ∀ y', -bL β i ≤ y' → y' < y → gn η.1 η.2.1 η.2.2 (bF β i) y' (TT β z - st z i + y') ≤ gn η.1 η.2.1 η.2.2 (bF β i) (st z i) (TT β z))) ∧ o = self s' := by
        intro c' o hc' ho
        refine ⟨_, n - 1, by omega, ⟨y + 1, c', by omega, rfl, ?_⟩, by rw [ho, j1, J_add]⟩
        rw [hc', hc]
        constructor
        · rintro ⟨h5, h6⟩ y' h7 h8
          by_cases e : y' = y
          · rw [e]; exact h6
          · exact h5 y' h7 (by omega)
        · intro h5
          exact ⟨fun y' h7 h8 => h5 y' h7 (by omega), h5 y hy (by omega)⟩
      by_cases hct : c = true
      · have b1 := (gn_bd (W := η.1) (E := η.2.1) (S := η.2.2) (f := bF β i) (x := y) (T := TT β z - st z i + y) hη.1 hη.2.1 hη.2.2 hf (by omega) (by omega)).2.2.2.2.2.2
        rw [if_pos hct, J_sub, J_add, made_val B D hβ hη hi (by omega) (by omega), Option.bind_some]
        have c3 := K_lt (a := 100 * gn η.1 η.2.1 η.2.2 (bF β i) (st z i) (TT β z)) (b := 100 * gn η.1 η.2.1 η.2.2 (bF β i) y (TT β z - st z i + y)) (by omega) (by omega)
        by_cases q : gn η.1 η.2.1 η.2.2 (bF β i) y (TT β z - st z i + y) ≤ gn η.1 η.2.1 η.2.2 (bF β i) (st z i) (TT β z)
        · have q2 : ¬ K (100 * gn η.1 η.2.1 η.2.2 (bF β i) (st z i) (TT β z)) < K (100 * gn η.1 η.2.1 η.2.2 (bF β i) y (TT β z - st z i + y)) := by rw [c3]; omega
          rw [if_neg q2]
          exact next true _ (by simp [hct, q]) rfl
        · have q2 : K (100 * gn η.1 η.2.1 η.2.2 (bF β i) (st z i) (TT β z)) < K (100 * gn η.1 η.2.1 η.2.2 (bF β i) y (TT β z - st z i + y)) := by rw [c3]; omega
          rw [if_pos q2]
          exact next false _ (by simp; intro _; omega) rfl
      · rw [if_neg hct]
        exact next false _ (by simp [hct]) rfl
  · refine ⟨true, by simp [hbit], ?_⟩
    have e1 := fun h => hbit ((set_bit set hs i (by omega)).mp h)
    have c1 : ¬ d_i d 29 (ix (J (i : Int))) < J (-bL β i) := by
      rw [ix_J (by omega), Int.toNat_natCast, (B.2 i hi).1, J_lt (by omega) (by omega)]; omega
    show (if inB (J (i : Int)) 4 = true then _ else _) = _
    rw [if_pos h3, if_neg c1, if_neg e1]
theorem mrest_val {ρ : Rh} {d : Dd} {β : By} {η : Hg} (B : MdlB d β) (D : MdlD d η) (hβ : byOK β) (hη : hgOK η) {z set : Nat} (hz : z < 2401) (hs : set < 16) : ∃ r, fX12_isAtRest ρ d (J z) (J set) = some r ∧ (r = true ↔ atRest η β set z) := by
  have hN := hβ.1
  have hT := TT_bd hβ z
  unfold fX12_isAtRest
  rw [together_val B hβ hz, Option.bind_some]
  refine lp_n (fun n s => ∃ (i : Nat) (b : Bool), i + n = bN β ∧ s = (b, J (i : Int)) ∧ (b = true ↔ ∀ k, k < i → set.testBit k = true → ∀ y, -bL β k ≤ y → y ≤ bL β k → gn η.1 η.2.1 η.2.2 (bF β k) y (TT β z - st z k + y) ≤ gn η.1 η.2.1 η.2.2 (bF β k) (st z k) (TT β z))) (fun o => ∃ r, o = some r ∧ (r = true ↔ atRest η β set z)) ?_ 6000 (bN β) _ ⟨0, true, by omega, rfl, by simp⟩ (by omega)
  rintro n s ⟨i, b, hi, rfl, hb⟩ self
  by_cases h4 : i = bN β
  · right
    have h1 : d_i d 23 15 ≤ J (i : Int) := by rw [B.1, J_le (by omega) (by omega)]; omega
    simp only [h1, if_true]
    exact ⟨b, rfl, by rw [hb, h4]; rfl⟩
  · have hib : i < bN β := by omega
    have h1 : ¬ d_i d 23 15 ≤ J (i : Int) := by rw [B.1, J_le (by omega) (by omega)]; omega
    have h3 : inB (J (i : Int)) 4 = true := by rw [inB_J (by omega)]; omega
    have hst := st_bd z i
    simp only [h1, if_false]
    by_cases hbt : b = true
    · left
      rw [if_pos hbt, stepsOf_val hz (by omega), Option.bind_some, made_val B D hβ hη hib (by omega) (by omega), Option.bind_some, if_pos h3]
      simp only [bnd]
      have e29 : -d_i d 29 (ix (J (i : Int))) = J (-bL β i) := by rw [ix_J (by omega), Int.toNat_natCast, (B.2 i hib).1, J_neg]
      rw [e29, hbt]
      obtain ⟨c, hc, he⟩ := mrest_in (ρ := ρ) B D hβ hη (z := z) hs hib (fun x7 => self (x7, J (i : Int) + 1))
      refine ⟨(c, J ((i + 1 : Nat) : Int)), n - 1, by omega, ⟨i + 1, c, by omega, rfl, ?_⟩, ?_⟩
      · rw [hc]
        constructor
        · intro h5 k hk
          by_cases e : k = i
          · rw [e]; exact h5
          · exact hb.mp hbt k (by omega)
        · intro h5
          exact h5 i (by omega)
      · simp only [jn] at he ⊢
        rw [he, j1, J_add]; rfl
    · right
      rw [if_neg hbt]
      refine ⟨b, rfl, ?_⟩
      rw [hb]
      constructor
      · intro h; exact absurd (hb.mpr h) hbt
      · intro h k hk; exact h k (by omega)
/-- what the scan writes -/
def tk (d : Dd) (e w : Int) : Dd := dL (dL d 23 21 (K e)) 23 22 (K w)
def dM (d : Dd) (c a : Int) : Dd := dI (dI d 23 23 (J c)) 23 24 (J a)
theorem dM_c (d : Dd) (c a : Int) : d_i (dM d c a) 23 23 = J c := by simp [dM, d_i, dI, set2]
theorem dM_a (d : Dd) (c a : Int) : d_i (dM d c a) 23 24 = J a := by simp [dM, d_i, dI, set2]
theorem dM_sa (d : Dd) (c a x : Int) : dI (dM d c a) 23 24 (J x) = dM d c x := by
  unfold dM dI
  congr 1
  funext o k
  simp only [set2]
  repeat' split <;> simp_all
theorem dM_sc (d : Dd) (c a x : Int) : dI (dM d c a) 23 23 (J x) = dM d x a := by
  unfold dM dI
  congr 1
  funext o k
  simp only [set2]
  repeat' split <;> simp_all
theorem MdlAt.tk {d : Dd} {μ : Mk} (M : MdlAt d μ) (e w : Int) : MdlAt (tk d e w) μ := M
theorem MdlB.tk {d : Dd} {β : By} (M : MdlB d β) (e w : Int) : MdlB (tk d e w) β := M
theorem MdlN.tk {d : Dd} {k : Nat} {ν : Nw} (M : MdlN d k ν) (e w : Int) : MdlN (tk d e w) k ν := M
theorem MdlAt.dM {d : Dd} {μ : Mk} (M : MdlAt d μ) (c a : Int) : MdlAt (dM d c a) μ := M
theorem MdlB.dM {d : Dd} {β : By} (M : MdlB d β) (c a : Int) : MdlB (dM d c a) β := M
theorem MdlN.dM {d : Dd} {k : Nat} {ν : Nw} (M : MdlN d k ν) (c a : Int) : MdlN (dM d c a) k ν := M
theorem MdlD.dM {d : Dd} {η : Hg} (M : MdlD d η) (c a : Int) : MdlD (dM d c a) η := M
def hgS (μ : Mk) (ν : Nw) (s : Int) : Hg := (WS μ ν s, ES μ ν s, kS μ)
theorem hgS_ok {μ : Mk} {ν : Nw} (h : mkOK μ) (hn : nwOK ν) {s : Int} (hs : 0 ≤ s ∧ s < 4) : hgOK (hgS μ ν s) := by
  have hN := h.2.2.1
  have h1 := WS_bd h hn hs.1 _ (Nat.le_refl (kN μ))
  have h2 := EH_bd h hn hs.1
  have h3 := EH_dvd (μ := μ) hn s
  have h4 := h.2.1
  unfold hgOK hgS
  dsimp only
  unfold WS
  omega
theorem mtake_val {ρ : Rh} {d : Dd} {k : Nat} {μ : Mk} {ν : Nw} (M : MdlAt d μ) (N : MdlN d k ν) (h : mkOK μ) (hn : nwOK ν) {s : Int} (hs : 0 ≤ s ∧ s < 4) : fX12_take ρ d (J k) (J s) = some (tk d (EH μ ν s) (WS μ ν s)) := by
  have hN := h.2.2.1
  have h1 := WS_bd h hn hs.1 _ (Nat.le_refl (kN μ))
  unfold fX12_take
  rw [edgeOf_val M N h hn hs, Option.bind_some]
  simp only [bnd]
  have e := heardOf_val (ρ := ρ) (d := dL d 23 21 (K (EH μ ν s))) (k := k) (ν := ν) (show MdlAt (dL d 23 21 (K (EH μ ν s))) μ from M) (show MdlN (dL d 23 21 (K (EH μ ν s))) k ν from N) h hn hs
  rw [e, Option.bind_some, J_l (by unfold WS; omega)]
  rfl
theorem tk_D {d : Dd} {μ : Mk} {ν : Nw} (M : MdlAt d μ) (hn : nwOK ν) (s : Int) : MdlD (tk d (EH μ ν s) (WS μ ν s)) (hgS μ ν s) := by
  refine ⟨?_, ?_, M.2.1⟩
  · show _ = K (100 * ES μ ν s)
    rw [EH_dvd hn s]
    simp [tk, d_l, dL, set2]
  · simp [tk, d_l, dL, set2, hgS]
theorem scn_at {q : Nat → Bool} {t : Nat → Int} {i : Int} : ∀ z : Nat, ith q t i z = -1 ∨ (0 ≤ ith q t i z ∧ ith q t i z < z) := by
  intro z
  induction z with
  | zero => exact Or.inl rfl
  | succ z ih =>
    show (if q z = true ∧ _ then _ else ith q t i z) = -1 ∨ _ ≤ (if q z = true ∧ _ then _ else ith q t i z) ∧ (if q z = true ∧ _ then _ else ith q t i z) < _
    split
    · right; omega
    · rcases ih with h | h
      · exact Or.inl h
      · right; omega
theorem dealt0 (d1 : Dd) (q : Nat → Bool) (t : Nat → Int) (w : Int) : ((-1 : Int32), (0 : Int64), (0 : Int32), dI (dI d1 23 23 0) 23 24 (-1)) = (J (scn q t 0).2.1, K (100 * (scn q t 0).2.2), J ((0 : Nat) : Int), dM d1 (scn q t 0).1 (ith q t w 0)) := by
  have a1 : J (scn q t 0).2.1 = -1 := rfl
  have a2 : K (100 * (scn q t 0).2.2) = 0 := rfl
  have a3 : J ((0 : Nat) : Int) = 0 := rfl
  have a4 : J ((scn q t 0).1 : Int) = 0 := rfl
  have a5 : J (ith q t w 0) = -1 := rfl
  unfold dM
  rw [a1, a2, a3, a4, a5]
theorem mdealt_val {ρ : Rh} {d : Dd} {k : Nat} {μ : Mk} {ν : Nw} {β : By} (M : MdlAt d μ) (N : MdlN d k ν) (B : MdlB d β) (h : mkOK μ) (hn : nwOK ν) (hβ : byOK β) {s : Int} (hs : 0 ≤ s ∧ s < 4) {set : Nat} (hset : set < 16) {w : Int} (hw : -1000 ≤ w ∧ w ≤ 1000) :
    fX12_dealtFor ρ d (J k) (J set) (J s) (J w) = some (J (scn (qz (hgS μ ν s) β set) (tz (hgS μ ν s) β) (7 ^ bN β)).2.1, dM (tk d (EH μ ν s) (WS μ ν s)) (scn (qz (hgS μ ν s) β set) (tz (hgS μ ν s) β) (7 ^ bN β)).1 (ith (qz (hgS μ ν s) β set) (tz (hgS μ ν s) β) w (7 ^ bN β))) := by
  have hN := hβ.1
  have h7 := seven_le hN
  have hη := hgS_ok h hn hs
  unfold fX12_dealtFor
  rw [mtake_val M N h hn hs, Option.bind_some]
  have D0 := tk_D M hn s
  have B0 := B.tk (EH μ ν s) (WS μ ν s)
  rw [bnd_eq, bnd_eq]
  generalize tk d (EH μ ν s) (WS μ ν s) = d1 at D0 B0 ⊢
  generalize hgS μ ν s = η at hη D0 ⊢
  have e0 := dealt0 d1 (qz η β set) (tz η β) w
  rw [e0]
  refine lp_up (7 ^ bN β) (fun z => (J (scn (qz η β set) (tz η β) z).2.1, K (100 * (scn (qz η β set) (tz η β) z).2.2), J (z : Int), dM d1 (scn (qz η β set) (tz η β) z).1 (ith (qz η β set) (tz η β) w z))) (fun z hz self => ?_) (fun self => ?_) 6000 (by omega)
  · have hz2 : z < 2401 := by omega
    have Bz := B0.dM (scn (qz η β set) (tz η β) z).1 (ith (qz η β set) (tz η β) w z)
    have Dz := D0.dM (scn (qz η β set) (tz η β) z).1 (ith (qz η β set) (tz η β) w z)
    have hle := scn_le (q := qz η β set) (t := tz η β) z
    have htz := tz_bd hη hβ z
    have c0 : d_i (dM d1 (scn (qz η β set) (tz η β) z).1 (ith (qz η β set) (tz η β) w z)) 23 23 = 0 ↔ (scn (qz η β set) (tz η β) z).1 = 0 := by
      rw [dM_c, j0, J_eq (by omega) (by omega)]; omega
    have cw : d_i (dM d1 (scn (qz η β set) (tz η β) z).1 (ith (qz η β set) (tz η β) w z)) 23 23 = J w ↔ ((scn (qz η β set) (tz η β) z).1 : Int) = w := by
      rw [dM_c]; exact J_eq (by omega) (by omega)
    have hmb : -20000000000 ≤ (scn (qz η β set) (tz η β) z).2.2 ∧ (scn (qz η β set) (tz η β) z).2.2 ≤ 20000000000 ∨ (scn (qz η β set) (tz η β) z).1 = 0 := by
      rcases scn_best (q := qz η β set) (t := tz η β) z with ⟨a1, a2⟩ | ⟨a1, z0, a2, a3, a4, a5⟩
      · exact Or.inr a1
      · left; rw [a5]; exact tz_bd hη hβ z0
    have hdl : ¬ J ((7 ^ bN β : Nat) : Int) ≤ J (z : Int) := by rw [J_le (by omega) (by omega)]; omega
    obtain ⟨r, hr, hrr⟩ := isOf_val (ρ := ρ) Bz hβ hz2 hset
    obtain ⟨r2, hr2, hrr2⟩ := mrest_val (ρ := ρ) Bz Dz hβ hη hz2 hset
    simp only []
    rw [dealings_val Bz hβ, Option.bind_some, if_neg hdl, hr, Option.bind_some]
    simp only [jn, bnd]
    have skip : ¬ qz η β set z = true → self (J (scn (qz η β set) (tz η β) z).2.1, K (100 * (scn (qz η β set) (tz η β) z).2.2), J (z : Int) + 1, dM d1 (scn (qz η β set) (tz η β) z).1 (ith (qz η β set) (tz η β) w z)) = self (J (scn (qz η β set) (tz η β) (z + 1)).2.1, K (100 * (scn (qz η β set) (tz η β) (z + 1)).2.2), J ((z + 1 : Nat) : Int), dM d1 (scn (qz η β set) (tz η β) (z + 1)).1 (ith (qz η β set) (tz η β) w (z + 1))) := by
      intro hq
      rw [scn_succ_f hq, j1, J_add]
      have : ith (qz η β set) (tz η β) w (z + 1) = ith (qz η β set) (tz η β) w z := by
        show (if qz η β set z = true ∧ _ then _ else _) = _
        rw [if_neg (fun q => hq q.1)]
      rw [this]; rfl
    by_cases q1 : r = true
    · rw [if_pos q1, hr2, Option.bind_some]
      by_cases q2 : r2 = true
      · have hq : qz η β set z = true := (qz_iff _ _ _ _).mpr ⟨hrr.mp q1, hrr2.mp q2⟩
        rw [if_pos q2, allMake_val Bz Dz hβ hη hz2, Option.bind_some]
        have hith : ith (qz η β set) (tz η β) w (z + 1) = if ((scn (qz η β set) (tz η β) z).1 : Int) = w then (z : Int) else ith (qz η β set) (tz η β) w z := by
          show (if qz η β set z = true ∧ _ then _ else _) = _
          by_cases e : ((scn (qz η β set) (tz η β) z).1 : Int) = w
          · rw [if_pos ⟨hq, e⟩, if_pos e]
          · rw [if_neg (fun q => e q.2), if_neg e]
        have last : ∀ (b m : Int), (b, m) = (if (scn (qz η β set) (tz η β) z).1 = 0 ∨ (scn (qz η β set) (tz η β) z).2.2 < tz η β z then ((z : Int), tz η β z) else (scn (qz η β set) (tz η β) z).2) →
            (if d_i (dM d1 (scn (qz η β set) (tz η β) z).1 (ith (qz η β set) (tz η β) w z)) 23 23 = J w then self (J b, K (100 * m), J (z : Int) + 1, dI (dI (dM d1 (scn (qz η β set) (tz η β) z).1 (ith (qz η β set) (tz η β) w z)) 23 24 (J z)) 23 23 (d_i (dI (dM d1 (scn (qz η β set) (tz η β) z).1 (ith (qz η β set) (tz η β) w z)) 23 24 (J z)) 23 23 + 1)) else self (J b, K (100 * m), J (z : Int) + 1, dI (dI (dM d1 (scn (qz η β set) (tz η β) z).1 (ith (qz η β set) (tz η β) w z)) 23 24 (d_i (dM d1 (scn (qz η β set) (tz η β) z).1 (ith (qz η β set) (tz η β) w z)) 23 24)) 23 23 (d_i (dI (dM d1 (scn (qz η β set) (tz η β) z).1 (ith (qz η β set) (tz η β) w z)) 23 24 (d_i (dM d1 (scn (qz η β set) (tz η β) z).1 (ith (qz η β set) (tz η β) w z)) 23 24)) 23 23 + 1))) =
            self (J (scn (qz η β set) (tz η β) (z + 1)).2.1, K (100 * (scn (qz η β set) (tz η β) (z + 1)).2.2), J ((z + 1 : Nat) : Int), dM d1 (scn (qz η β set) (tz η β) (z + 1)).1 (ith (qz η β set) (tz η β) w (z + 1))) := by
          intro b m hbm
          rw [scn_succ_t hq, hith, dM_a, dM_sa, dM_sa, dM_c, dM_c, j1, J_add, J_add, dM_sc, dM_sc]
          dsimp only
          rw [← hbm]
          have cw2 : J ((scn (qz η β set) (tz η β) z).1 : Int) = J w ↔ ((scn (qz η β set) (tz η β) z).1 : Int) = w := J_eq (by omega) (by omega)
          by_cases e : ((scn (qz η β set) (tz η β) z).1 : Int) = w
          · rw [if_pos (cw2.mpr e), if_pos e]; rfl
          · rw [if_neg (fun q => e (cw2.mp q)), if_neg e]; rfl
        by_cases e0 : (scn (qz η β set) (tz η β) z).1 = 0
        · rw [if_pos (c0.mpr e0), if_pos (c0.mpr e0)]
          exact last z (tz η β z) (by rw [if_pos (Or.inl e0)])
        · have n0 : ¬ d_i (dM d1 (scn (qz η β set) (tz η β) z).1 (ith (qz η β set) (tz η β) w z)) 23 23 = 0 := fun q => e0 (c0.mp q)
          rw [if_neg n0]
          simp only [if_neg n0]
          have hmb2 := hmb.resolve_right e0
          have c5 : K (100 * tz η β z) ≤ K (100 * (scn (qz η β set) (tz η β) z).2.2) ↔ 100 * tz η β z ≤ 100 * (scn (qz η β set) (tz η β) z).2.2 := K_le (by omega) (by omega)
          by_cases e1 : (scn (qz η β set) (tz η β) z).2.2 < tz η β z
          · have n5 : ¬ 100 * tz η β z ≤ 100 * (scn (qz η β set) (tz η β) z).2.2 := by omega
            have n6 : ¬ K (100 * tz η β z) ≤ K (100 * (scn (qz η β set) (tz η β) z).2.2) := fun q => n5 (c5.mp q)
            rw [if_neg n6]
            simp only [if_neg n6]
            exact last z (tz η β z) (by rw [if_pos (Or.inr e1)])
          · have n5 : 100 * tz η β z ≤ 100 * (scn (qz η β set) (tz η β) z).2.2 := by omega
            have n6 := c5.mpr n5
            rw [if_pos n6]
            simp only [if_pos n6]
            exact last _ _ (by rw [if_neg (fun q => q.elim e0 e1)])
      · rw [if_neg q2]
        exact skip (fun q => q2 (hrr2.mpr ((qz_iff _ _ _ _).mp q).2))
    · rw [if_neg q1]
      exact skip (fun q => q1 (hrr.mpr ((qz_iff _ _ _ _).mp q).1))
  · have Bz := B0.dM (scn (qz η β set) (tz η β) (7 ^ bN β)).1 (ith (qz η β set) (tz η β) w (7 ^ bN β))
    have hdl : J ((7 ^ bN β : Nat) : Int) ≤ J ((7 ^ bN β : Nat) : Int) := Int32.le_iff_toInt_le.mpr (Int.le_refl _)
    simp only []
    rw [dealings_val Bz hβ, Option.bind_some, if_pos hdl]
