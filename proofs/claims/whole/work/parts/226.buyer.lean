/-! the buyers -/
def PB (o k : Nat) : Prop := o = 15 ∨ o = 16 ∨ o = 17 ∨ o = 20 ∨ (o = 23 ∧ k = 15) ∨ o = 29 ∨ o = 30
def sgB (σ : Sg) (β : By) : Sg := (σ.1, σ.2.1, β, σ.2.2.2)
theorem RC.by' {d d2 : Dd} {ρ : Rh} {σ : Sg} {β : By} (R : RC d ρ σ) (f : Fr PB d d2) (B : BuyAt d2 β) : RC d2 ρ (sgB σ β) := by
  obtain ⟨⟨r1, r2⟩, ⟨r3, r4⟩, ⟨r5, r6⟩, -, ⟨r8, r9, r10⟩, r11⟩ := R
  have hm := r2.1
  have hn : ∀ o k, ¬ PB o k → ¬ PB o k := fun o k h => h
  exact ⟨⟨r1.fr f (fun k => by unfold PB; omega), r2⟩, ⟨(f.gi (by unfold PB; omega)).trans r3, fun k hk => (f.gi (by unfold PB; omega)).trans (r4 k hk)⟩, ⟨fun h => (r5 h).fr f (fun k => ⟨by unfold PB; omega, by unfold PB; omega, by unfold PB; omega⟩), (f.gi (by unfold PB; omega)).trans r6⟩, B, ⟨(f.gi (by unfold PB; omega)).trans r8, r9, fun k hk => (r10 k hk).fr f (fun j => by unfold PB; omega)⟩, (f.gi (by unfold PB; omega)).trans r11⟩
theorem RM.by' {d d2 : Dd} {σ : Sg} {β : By} (R : RM d σ) (f : Fr PB d d2) (B : MdlB d2 β) : RM d2 (sgB σ β) := by
  obtain ⟨⟨r1, r2⟩, ⟨r3, r4⟩, -, ⟨r7, r8⟩, r9⟩ := R
  refine ⟨⟨(f.gi (by unfold PB; omega)).trans r1, fun k hk => (f.gi (by unfold PB; omega)).trans (r2 k hk)⟩, ⟨fun hq => ?_, (f.gi (by unfold PB; omega)).trans r4⟩, B, ⟨(f.gi (by unfold PB; omega)).trans r7, fun k hk => ⟨(r8 k hk).1, (f.gi (by unfold PB; omega)).trans (r8 k hk).2.1, (f.gi (by unfold PB; omega)).trans (r8 k hk).2.2⟩⟩, (f.gi (by unfold PB; omega)).trans r9⟩
  obtain ⟨m1, m2, m3, m4⟩ := r3 hq
  exact ⟨(f.gi (by unfold PB; omega)).trans m1, (f.gi (by unfold PB; omega)).trans m2, (f.gi (by unfold PB; omega)).trans m3, fun c hc => ⟨(f.gi (by unfold PB; omega)).trans (m4 c hc).1, (f.gi (by unfold PB; omega)).trans (m4 c hc).2⟩⟩
