/-- the first row of the turn: nothing was called yet -/
theorem inv_0 (xs : Nat → Int32) (L : Nat) (hL : L ≤ 3584) : Inv (d00 xs) (6, [], L) := by
  have z : ∀ o k, 3 ≤ o → d_i (d00 xs) o k = 0 := fun o k h => by
    show (if o = 1 then _ else if o = 2 then _ else (0 : Int32)) = 0
    rw [if_neg (by omega), if_neg (by omega)]
  let σ : Sg := ((0, fun _ => 0), (0, 0, 0, fun _ => 0, fun _ => 0), (0, fun _ => 0, fun _ => 0), (0, fun _ => (0, 0)), 0)
  refine ⟨σ, ⟨⟨Nat.zero_le _, fun k hk => absurd hk (Nat.not_lt_zero k)⟩, ⟨⟨by decide, by decide⟩, ⟨by decide, by decide⟩, Nat.zero_le _, fun c hc => absurd hc (Nat.not_lt_zero c)⟩, ⟨Nat.zero_le _, fun b hb => absurd hb (Nat.not_lt_zero b)⟩, ⟨Nat.zero_le _, fun k hk => absurd hk (Nat.not_lt_zero k)⟩, Nat.zero_le _⟩, ⟨⟨⟨rfl, rfl, rfl, rfl⟩, Or.inl rfl, Nat.zero_le _, fun t ht => absurd ht (List.not_mem_nil), by show L < 2 ^ 31; omega⟩, ⟨rfl, fun k hk => absurd hk (Nat.not_lt_zero k)⟩, ⟨fun h => absurd h (Nat.not_lt_zero 0), rfl⟩, ⟨rfl, fun b hb => absurd hb (Nat.not_lt_zero b)⟩, ⟨rfl, rfl, fun k hk => absurd hk (Nat.not_lt_zero k)⟩, rfl⟩, fun k set _ _ => Or.inl (z _ _ (by omega)), ⟨rfl, fun k hk => absurd hk (Nat.not_lt_zero k)⟩, ⟨fun h => absurd h (Nat.not_lt_zero 0), rfl⟩, ⟨rfl, fun b hb => absurd hb (Nat.not_lt_zero b)⟩, ⟨rfl, fun k hk => absurd hk (Nat.not_lt_zero k)⟩, rfl⟩
theorem inv_hr {d : Dd} {ρ : Rh} (h : Inv d ρ) : Hr ρ := by
  obtain ⟨σ, -, R, -⟩ := h
  exact R.1.2
