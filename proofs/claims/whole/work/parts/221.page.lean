/-! the page -/
theorem RC.pg {d d2 : Dd} {ρ : Rh} {σ : Sg} (R : RC d ρ σ) {P : Nat → Nat → Prop} (f : Fr P d d2) (hP : ∀ o k, P o k → o = 4 ∨ o = 5 ∨ (o = 23 ∧ k = 1) ∨ o = 24) (np : Nat) (pg : Nat → Int) (h1 : d_i d2 4 1 = J np) (h2 : ∀ k, k < np → d_i d2 5 k = J (pg k)) : RC d2 ρ ((np, pg), σ.2) := by
  obtain ⟨⟨r1, r2⟩, -, ⟨r5, r6⟩, r7, ⟨r8, r9, r10⟩, r11⟩ := R
  have hm := r2.1
  have hn : ∀ o k, ¬ (o = 4 ∨ o = 5 ∨ (o = 23 ∧ k = 1) ∨ o = 24) → ¬ P o k := fun o k h q => h (hP o k q)
  exact ⟨⟨r1.fr f (fun k => hn _ _ (by omega)), r2⟩, ⟨h1, h2⟩, ⟨fun h => (r5 h).fr f (fun k => ⟨hn _ _ (by omega), hn _ _ (by omega), hn _ _ (by omega)⟩), (f.gi (hn _ _ (by omega))).trans r6⟩, r7.fr f (fun k => ⟨hn _ _ (by omega), hn _ _ (by omega), hn _ _ (by omega)⟩), ⟨(f.gi (hn _ _ (by omega))).trans r8, r9, fun k hk => (r10 k hk).fr f (fun j => hn _ _ (by omega))⟩, (f.gi (hn _ _ (by omega))).trans r11⟩
theorem RM.pg {d d2 : Dd} {σ : Sg} (R : RM d σ) {P : Nat → Nat → Prop} (f : Fr P d d2) (hP : ∀ o k, P o k → o = 4 ∨ o = 5 ∨ (o = 23 ∧ k = 1) ∨ o = 24) (np : Nat) (pg : Nat → Int) (h1 : d_i d2 23 1 = J np) (h2 : ∀ k, k < np → d_i d2 24 k = J (pg k)) : RM d2 ((np, pg), σ.2) := by
  obtain ⟨-, ⟨r3, r4⟩, ⟨r5, r6⟩, ⟨r7, r8⟩, r9⟩ := R
  have g : ∀ o k, ¬ (o = 4 ∨ o = 5 ∨ (o = 23 ∧ k = 1) ∨ o = 24) → d_i d2 o k = d_i d o k := fun o k h => f.gi (fun q => h (hP o k q))
  refine ⟨⟨h1, h2⟩, ⟨fun hq => ?_, (g _ _ (by omega)).trans r4⟩, ⟨(g _ _ (by omega)).trans r5, fun b hb => ⟨(g _ _ (by omega)).trans (r6 b hb).1, (g _ _ (by omega)).trans (r6 b hb).2⟩⟩, ⟨(g _ _ (by omega)).trans r7, fun k hk => ⟨(r8 k hk).1, (g _ _ (by omega)).trans (r8 k hk).2.1, (g _ _ (by omega)).trans (r8 k hk).2.2⟩⟩, (g _ _ (by omega)).trans r9⟩
  obtain ⟨m1, m2, m3, m4⟩ := r3 hq
  exact ⟨(g _ _ (by omega)).trans m1, (g _ _ (by omega)).trans m2, (g _ _ (by omega)).trans m3, fun c hc => ⟨(g _ _ (by omega)).trans (m4 c hc).1, (g _ _ (by omega)).trans (m4 c hc).2⟩⟩
theorem CacheOK.pg {d d2 : Dd} {σ : Sg} (C : CacheOK d σ) {P : Nat → Nat → Prop} (f : Fr P d d2) (hP : ∀ o k, P o k → o = 4 ∨ o = 5 ∨ (o = 23 ∧ k = 1) ∨ o = 24) (np : Nat) (pg : Nat → Int) : CacheOK d2 ((np, pg), σ.2) :=
  C.gfr (σ := σ) f (fun k => ⟨fun q => by have := hP _ _ q; omega, fun q => by have := hP _ _ q; omega, fun q => by have := hP _ _ q; omega⟩)
theorem op1 : Op1 Inv := by
  rintro d ρ ⟨σ, O, R, C, M⟩
  let P : Nat → Nat → Prop := fun o k => (o = 4 ∧ k = 1) ∨ (o = 23 ∧ k = 1)
  have hP : ∀ o k, P o k → o = 4 ∨ o = 5 ∨ (o = 23 ∧ k = 1) ∨ o = 24 := fun o k h => by rcases h with h | h <;> omega
  have f : Fr P d (dI (dI d 4 1 0) 23 1 0) := (Fr.rf.i (Or.inl ⟨rfl, rfl⟩)).i (Or.inr ⟨rfl, rfl⟩)
  refine ⟨J (gP σ), dI d 4 1 0, dI (dI d 4 1 0) 23 1 0, ?_, ?_, ⟨((0, gL σ), σ.2), ⟨⟨Nat.zero_le _, fun k hk => absurd hk (Nat.not_lt_zero k)⟩, O.2⟩, R.pg f hP 0 _ rfl (fun k hk => absurd hk (Nat.not_lt_zero k)), C.pg f hP 0 _, M.pg f hP 0 _ rfl (fun k hk => absurd hk (Nat.not_lt_zero k))⟩, rfl⟩
  · unfold fX11_blank
    rw [bnd_eq, bnd_eq, R.2.1.1]
  · unfold fX12_blank
    rw [bnd_eq, bnd_eq]
    have : d_i (dI d 4 1 0) 23 1 = d_i d 23 1 := rfl
    rw [this, M.1.1]
