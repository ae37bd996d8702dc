def uz (d : Dd) (n : Nat) : Dd := (fun o k => if o = 20 ∧ k < n then 0 else d.1 o k, d.2)
theorem uz_0 (d : Dd) : uz d 0 = d := by
  unfold uz
  refine Prod.ext ?_ rfl
  funext o k
  show (if _ then _ else _) = _
  rw [if_neg (by omega)]
theorem uz_s (d : Dd) (n : Nat) : dI (uz d n) 20 n 0 = uz d (n + 1) := by
  unfold uz dI
  refine Prod.ext ?_ rfl
  funext o k
  show set2 _ _ _ _ o k = _
  simp only [set2]
  by_cases e : o = 20 ∧ k = n
  · rw [if_pos e, if_pos (by omega)]
  · rw [if_neg e]
    by_cases e2 : o = 20 ∧ k < n
    · rw [if_pos e2, if_pos (by omega)]
    · rw [if_neg e2, if_neg (by omega)]
theorem unsettle_val (ρ : Rh) (d : Dd) : fX11_unsettle ρ d = some (uz d 128) := by
  unfold fX11_unsettle
  have e0 : d = uz d 0 := (uz_0 d).symm
  conv => lhs; rw [e0]
  refine lp_up 128 (fun i => (J (i : Int), uz d i)) (fun i hi self => ?_) (fun self => ?_) 6000 (by omega)
  · have h1 : ¬ (128 : Int32) ≤ J (i : Int) := by rw [j128, J_le (by omega) (by omega)]; omega
    have h3 : inB (J (i : Int)) 128 = true := by rw [inB_J (by omega)]; omega
    simp only [h1, if_false, h3, if_true, bnd]
    rw [ix_J (by omega), Int.toNat_natCast, uz_s, j1, J_add]; rfl
  · have h1 : (128 : Int32) ≤ J ((128 : Nat) : Int) := by decide
    simp only [h1, if_true]
theorem uz_fr {P : Nat → Nat → Prop} {d d1 : Dd} {n : Nat} (h : ∀ k, P 20 k) (f : Fr P d d1) : Fr P d (uz d1 n) := fun o k q => by
  refine ⟨?_, (f o k q).2⟩
  show (if o = 20 ∧ k < n then _ else d1.1 o k) = _
  rw [if_neg (fun z => q (by rw [z.1]; exact h k))]
  exact (f o k q).1
theorem uz_cache (d : Dd) (σ : Sg) : CacheOK (uz d 128) σ := fun k set hk hs => Or.inl (by
  show (if 20 = 20 ∧ k * 16 + set < 128 then (0 : Int32) else _) = 0
  rw [if_pos ⟨rfl, by omega⟩])
