def byA (β : By) (l f : Int) : By := (bN β + 1, fun b => if b = bN β then l else bL β b, fun b => if b = bN β then f else bF β b)
theorem byA_ok {β : By} (h : byOK β) (hN : bN β < 4) {l f : Int} (hl : 1 ≤ l ∧ l ≤ 3) (hf : 0 ≤ f ∧ f ≤ 99) : byOK (byA β l f) := by
  refine ⟨by show bN β + 1 ≤ 4; omega, fun b hb => ?_⟩
  have hb' : b < bN β + 1 := hb
  show (1 ≤ (if b = bN β then l else bL β b) ∧ (if b = bN β then l else bL β b) ≤ 3) ∧ (0 ≤ (if b = bN β then f else bF β b) ∧ (if b = bN β then f else bF β b) ≤ 99)
  by_cases e : b = bN β
  · rw [if_pos e, if_pos e]; exact ⟨hl, hf⟩
  · rw [if_neg e, if_neg e]; exact h.2 b (by omega)
theorem append_c {ρ : Rh} {d : Dd} {β : By} (B : BuyAt d β) (hN : bN β < 4) (l f : Int) : fX1_append ρ d (J l) (J f) = some (J (bN β), dI (dI (dI d 16 (bN β) (J l)) 17 (bN β) (J f)) 15 2 (J ((bN β + 1 : Nat) : Int))) := by
  have c1 : ¬ J (bN β : Int) < 0 := by rw [j0, J_lt (by omega) (by omega)]; omega
  have c2 : ¬ (4 : Int32) ≤ J (bN β : Int) := by rw [j4, J_le (by omega) (by omega)]; omega
  have c3 : J (bN β : Int) < 4 := by rw [j4, J_lt (by omega) (by omega)]; omega
  have c4 : inB (J (bN β : Int)) 4 = true := by rw [inB_J (by omega)]; omega
  have c5 : ix (J (bN β : Int)) = bN β := by rw [ix_J (by omega), Int.toNat_natCast]
  have g1 : ∀ v k, d_i (dI d 16 k v) 15 2 = d_i d 15 2 := fun _ _ => by simp [d_i, dI, set2]
  have g2 : ∀ v w k, d_i (dI (dI d 16 k v) 17 k w) 15 2 = d_i d 15 2 := fun _ _ _ => by simp [d_i, dI, set2]
  unfold fX1_append
  simp only [bnd, g1, g2, B.1, c1, c2, c3, c4, c5, if_true, if_false]
  rw [j1, J_add]; rfl
