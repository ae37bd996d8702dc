theorem row_pre {k set : Nat} (hk : k < 8) (hs : set < 16) : (J (k : Int) * 16 + J (set : Int)) = J ((k * 16 + set : Nat) : Int) ∧ ¬ J ((k * 16 + set : Nat) : Int) < 0 ∧ ¬ (128 : Int32) ≤ J ((k * 16 + set : Nat) : Int) ∧ inB (J ((k * 16 + set : Nat) : Int)) 128 = true ∧ ix (J ((k * 16 + set : Nat) : Int)) = k * 16 + set := by
  refine ⟨?_, ?_, ?_, ?_, ?_⟩
  · rw [j16, J_mul, J_add]; congr 1
  · rw [j0, J_lt (by omega) (by omega)]; omega
  · rw [j128, J_le (by omega) (by omega)]; omega
  · rw [inB_J (by omega)]; omega
  · rw [ix_J (by omega), Int.toNat_natCast]
theorem settle_val {ρ : Rh} {d : Dd} {σ : Sg} (R : RC d ρ σ) (O : sgOK σ) (C : CacheOK d σ) (hop : 0 < kN (gM σ)) {k set : Nat} (hk : k < gN σ) (hset : set < 2 ^ bN (gB σ)) :
    ∃ d', fX11_settle ρ d (J k) (J set) = some d' ∧ Fr CS d d' ∧ CacheOK d' σ ∧ RowOK d' σ k set ∧ ∀ k2 set2, k2 < 8 → set2 < 16 → RowOK d σ k2 set2 → RowOK d' σ k2 set2 := by
  have hk8 := O.2.2.2.1.1
  have hβ := O.2.2.1
  have h2 := two_le hβ.1
  obtain ⟨e1, e2, e3, e4, e5⟩ := row_pre (k := k) (set := set) (by omega) (by omega)
  have hd : decide (0 ≤ (set : Int) ∧ (set : Int) < ((2 ^ bN (gB σ) : Nat) : Int)) = true := decide_eq_true (by omega)
  have n0 : ¬ 35 + k = 0 := by omega
  unfold fX11_settle
  rw [newsAt_in R O hk, Option.bind_some, bnd_eq, e1, if_neg n0, isSet_val R.2.2.2.1 hβ (by omega), hd, Option.bind_some, if_pos rfl, if_neg e2, if_neg e3, if_pos e4, e5]
  rcases C k set (by omega) (by omega) with hz | ⟨-, -, -, hrow⟩
  · rw [if_pos hz, if_pos e4, bnd_eq, keep_t (by omega), Option.bind_some]
    have f0 : Fr (CR (k * 16 + set)) d (wr (dI d 20 (k * 16 + set) 1) (k * 16 + set) 4 (fun _ => 0)) := (Fr.rf.i (Or.inr (Or.inl ⟨rfl, rfl⟩))).wr (fun j q1 q2 => Or.inr (Or.inr ⟨Or.inr rfl, q1, q2⟩))
    have hloop := lp_n (F := 6000) (γ := Dd) (fun n s => ∃ (i : Nat) (d' : Dd), i + n = 4 ∧ s = (J (i : Int), d') ∧ Fr (CR (k * 16 + set)) d d' ∧ (∀ s' : Nat, s' < i → d_i d' 21 ((k * 16 + set) * 4 + s') = J (DT (gM σ) (gV σ k) (gB σ) set s')) ∧ (∀ b, b < 4 → d_l d' 22 ((k * 16 + set) * 4 + b) = K (sm i (fun s' => WO1 (gM σ) (gV σ k) (gB σ) set b s'))) ∧ d_i d' 20 (k * 16 + set) = 1)
      (fun o => ∃ d', o = some d' ∧ Fr (CR (k * 16 + set)) d d' ∧ RowOK d' σ k set) (f := fun (self8 : Int32 × Dd → Option Dd) (x7 : Int32 × Dd) =>
                  if 4 ≤ x7.1 then
                    (some x7.2)
                  else
                    (bnd (((J ((k * 16 + set : Nat) : Int) * 4) + x7.1) : Int32) fun v9 =>
                    (fX3_take ρ x7.2 ρ.1 (35 + k) x7.1).bind fun r10 =>
                    (fX3_isNever ρ r10).bind fun r11 =>
                    jn (fun (x12 : Int32 × Dd) =>
                      jn (fun (x14 : Dd) =>
                        self8 ((x7.1 + 1), x14)
                        ) fun k15 =>
                      if v9 < 0 then
                        (k15 x12.2)
                      else
                        (if 512 ≤ v9 then
                          (k15 x12.2)
                        else
                          (if inB v9 512 = true then
                            (bnd (dI x12.2 21 (ix v9) x12.1) fun d16 =>
                            k15 d16)
                          else none))
                      ) fun k13 =>
                    if r11 = true then
                      (k13 ((-1), r10))
                    else
                      ((fX2_begin ρ r10 (d_i r10 ρ.1 1) (J set)).bind fun r17 =>
                      (fX2_look ρ r17 1).bind fun r18 =>
                      (fX2_deal ρ r18.2 r18.1).bind fun r19 =>
                      (fX11_keepWorths ρ r19 (J ((k * 16 + set : Nat) : Int)) false).bind fun r20 =>
                      k13 (r18.1, r20)))) (by
        rintro n s ⟨i, d', hi, rfl, f, h21, h22, h20⟩ self
        by_cases h4 : i = 4
        · subst h4
          right
          have h1 : (4 : Int32) ≤ J ((4 : Nat) : Int) := by decide
          simp only [h1, if_true]
          exact ⟨d', rfl, f, h20, h21, h22⟩
        · left
          have h1 : ¬ (4 : Int32) ≤ J (i : Int) := by rw [j4, J_le (by omega) (by omega)]; omega
          obtain ⟨d2, g1, g2, g3, g4, g5⟩ := settle_step (ρ := ρ) R.1.1 (R.2.2.1.1 hop) (R.2.2.2.2.1.2.2 k hk) R.2.2.2.1 O.2.1 (O.2.2.2.1.2 k hk) hβ hset (row := k * 16 + set) (by omega) R.1.2.1 (by omega) f (s := i) (by omega) h21 h22 h20
          refine ⟨(J ((i + 1 : Nat) : Int), d2), n - 1, by omega, ⟨i + 1, d2, by omega, rfl, g1, g2, g3, g4⟩, ?_⟩
          have g6 := g5 self
          simp only [h1, if_false]
          exact g6) 4 (0, wr (dI d 20 (k * 16 + set) 1) (k * 16 + set) 4 (fun _ => 0)) ⟨0, _, rfl, rfl, f0, fun s' hs' => absurd hs' (Nat.not_lt_zero _), fun b hb => wr_g hb, by simp [d_i, wr, dI, set2]⟩ (by omega)
    obtain ⟨d', g1, g2, g3⟩ := hloop
    refine ⟨d', g1, g2.mono (fun o k h => CR_CS h), ?_, g3, ?_⟩
    · intro k2 set2 hk2 hs2
      by_cases e : k2 = k ∧ set2 = set
      · obtain ⟨rfl, rfl⟩ := e
        exact Or.inr ⟨hk, hset, hop, g3⟩
      · have ne : k2 * 16 + set2 ≠ k * 16 + set := by omega
        have q20 : d_i d' 20 (k2 * 16 + set2) = d_i d 20 (k2 * 16 + set2) := g2.gi (by unfold CR; omega)
        rcases C k2 set2 hk2 hs2 with h | ⟨a1, a2, a3, a4, a5, a6⟩
        · exact Or.inl (q20.trans h)
        · exact Or.inr ⟨a1, a2, a3, q20.trans a4, fun s hs => (g2.gi (by unfold CR; omega)).trans (a5 s hs), fun b hb => (g2.gl (by unfold CR; omega)).trans (a6 b hb)⟩
    · intro k2 set2 hk2 hs2 ⟨a4, a5, a6⟩
      by_cases e : k2 = k ∧ set2 = set
      · obtain ⟨rfl, rfl⟩ := e; exact g3
      · have ne : k2 * 16 + set2 ≠ k * 16 + set := by omega
        exact ⟨(g2.gi (by unfold CR; omega)).trans a4, fun s hs => (g2.gi (by unfold CR; omega)).trans (a5 s hs), fun b hb => (g2.gl (by unfold CR; omega)).trans (a6 b hb)⟩
  · have n1 : ¬ d_i d 20 (k * 16 + set) = 0 := by rw [hrow.1]; decide
    rw [if_neg n1]
    exact ⟨d, rfl, Fr.rf, C, hrow, fun _ _ _ _ h => h⟩
theorem at_pre {k set s : Nat} (hk : k < 8) (hs : set < 16) (h4 : s < 4) : ((J (k : Int) * 16 + J (set : Int)) * 4 + J (s : Int)) = J (((k * 16 + set) * 4 + s : Nat) : Int) ∧ ¬ J (((k * 16 + set) * 4 + s : Nat) : Int) < 0 ∧ ¬ (512 : Int32) ≤ J (((k * 16 + set) * 4 + s : Nat) : Int) ∧ inB (J (((k * 16 + set) * 4 + s : Nat) : Int)) 512 = true ∧ ix (J (((k * 16 + set) * 4 + s : Nat) : Int)) = (k * 16 + set) * 4 + s := by
  refine ⟨?_, ?_, ?_, ?_, ?_⟩
  · rw [j16, j4, J_mul, J_add, J_mul, J_add]; congr 1
  · rw [j0, J_lt (by omega) (by omega)]; omega
  · rw [j512, J_le (by omega) (by omega)]; omega
  · rw [inB_J (by omega)]; omega
  · rw [ix_J (by omega), Int.toNat_natCast]
theorem dealtFor_row {ρ : Rh} {d : Dd} {σ : Sg} {k set : Nat} (h : RowOK d σ k set) (hk : k < 8) (hs : set < 16) {s : Nat} (h4 : s < 4) : fX11_dealtFor ρ d (J k) (J set) (J s) = some (J (DT (gM σ) (gV σ k) (gB σ) set s)) := by
  obtain ⟨e1, e2, e3, e4, e5⟩ := at_pre hk hs h4
  unfold fX11_dealtFor
  rw [bnd_eq, e1, if_neg e2, if_neg e3, if_pos e4, e5, h.2.1 s h4]
theorem worthOf_row {ρ : Rh} {d : Dd} {σ : Sg} {k set : Nat} (h : RowOK d σ k set) (hk : k < 8) (hs : set < 16) {b : Nat} (h4 : b < 4) : fX11_worthOf ρ d (J k) (J set) (J b) = some (K (WO (gM σ) (gV σ k) (gB σ) set b)) := by
  obtain ⟨e1, e2, e3, e4, e5⟩ := at_pre hk hs h4
  unfold fX11_worthOf
  rw [bnd_eq, e1, if_neg e2, if_neg e3, if_pos e4, e5, h.2.2 b h4]
