/-! a buyer more; a buyer changed -/
theorem uz_o {d : Dd} {n o k : Nat} (h : ¬ o = 20) : d_i (uz d n) o k = d_i d o k := by
  show (if o = 20 ∧ k < n then (0 : Int32) else d.1 o k) = d.1 o k
  rw [if_neg (fun z => h z.1)]
theorem append_full {ρ : Rh} {d : Dd} {β : By} (B : BuyAt d β) (h : bN β = 4) (x y : Int32) : fX1_append ρ d x y = some (-1, d) := by
  have c1 : ¬ J (bN β : Int) < 0 := by rw [j0, J_lt (by omega) (by omega)]; omega
  have c2 : (4 : Int32) ≤ J (bN β : Int) := by rw [j4, J_le (by omega) (by omega)]; omega
  unfold fX1_append
  rw [B.1, if_neg c1, if_pos c2]
theorem sgB_ok {σ : Sg} (O : sgOK σ) {β : By} (h : byOK β) : sgOK (sgB σ β) := ⟨O.1, O.2.1, h, O.2.2.2.1, O.2.2.2.2⟩
theorem op5 : Op5 Inv := by
  rintro d ρ ⟨σ, O, R, C, M⟩ x1 x2
  obtain ⟨l, hl, rfl⟩ := J_of x1
  obtain ⟨f, hf, rfl⟩ := J_of x2
  have hN := O.2.2.1.1
  have i1 : fX12_in (Int32.toInt64 (J l)) 1 3 = some (decide (1 ≤ l ∧ l ≤ 3)) := by
    rw [J_l (by omega), k1, show (3 : Int64) = K 3 from rfl]; exact in_val (by omega) (by omega) (by omega)
  have i2 : fX12_in (Int32.toInt64 (J f)) 0 99 = some (decide (0 ≤ f ∧ f ≤ 99)) := by
    rw [J_l (by omega), k0, show (99 : Int64) = K 99 from rfl]; exact in_val (by omega) (by omega) (by omega)
  unfold fX11_buyer fX12_buyer
  simp only [isLimit_c hl, isFee_c hf, i1, i2, Option.bind_some]
  by_cases q1 : 1 ≤ l ∧ l ≤ 3
  · by_cases q2 : 0 ≤ f ∧ f ≤ 99
    · simp only [decide_eq_true q1, decide_eq_true q2, if_true]
      by_cases q3 : bN (gB σ) < 4
      · obtain ⟨n, hn⟩ : ∃ n, n = bN (gB σ) := ⟨_, rfl⟩
        have B := R.2.2.2.1
        have MB := M.2.2.1
        have happ := append_c (ρ := ρ) B q3 l f
        rw [← hn] at happ q3
        have n1 : ¬ J (n : Int) = -1 := by rw [jm1, J_eq (by omega) (by omega)]; omega
        have hin : inB (J (n : Int)) 4 = true := by rw [inB_J (by omega)]; omega
        have hix : ix (J (n : Int)) = n := by rw [ix_J (by omega), Int.toNat_natCast]
        obtain ⟨d0, hd0⟩ : ∃ d0, d0 = dI (dI (dI d 16 n (J l)) 17 n (J f)) 15 2 (J ((n + 1 : Nat) : Int)) := ⟨_, rfl⟩
        rw [← hd0] at happ
        have f0 : Fr PB d d0 := by
          rw [hd0]
          exact ((Fr.rf.i (Or.inr (Or.inl rfl))).i (Or.inr (Or.inr (Or.inl rfl)))).i (Or.inl rfl)
        have f1 : Fr PB d (uz d0 128) := uz_fr (fun k => Or.inr (Or.inr (Or.inr (Or.inl rfl)))) f0
        have e15 : d_i (uz d0 128) 23 15 = J (n : Int) := by
          rw [uz_o (by omega), hd0, dI_o (by omega), dI_o (by omega), dI_o (by omega), hn]; exact MB.1
        obtain ⟨d2, hd2⟩ : ∃ d2, d2 = dI (dI (dI (uz d0 128) 29 n (J l)) 30 n (J f)) 23 15 (J ((n + 1 : Nat) : Int)) := ⟨_, rfl⟩
        have f2 : Fr PB d d2 := by
          rw [hd2]
          exact ((f1.i (Or.inr (Or.inr (Or.inr (Or.inr (Or.inr (Or.inl rfl))))))).i (Or.inr (Or.inr (Or.inr (Or.inr (Or.inr (Or.inr rfl))))))).i (Or.inr (Or.inr (Or.inr (Or.inr (Or.inl ⟨rfl, rfl⟩)))))
        have f3 : Fr (fun o k => o = 29 ∨ o = 30 ∨ (o = 23 ∧ k = 15)) (uz d0 128) d2 := by
          rw [hd2]
          exact ((Fr.rf.i (Or.inl rfl)).i (Or.inr (Or.inl rfl))).i (Or.inr (Or.inr ⟨rfl, rfl⟩))
        have hβ' := byA_ok O.2.2.1 (by omega) q1 q2
        have gBN : bN (byA (gB σ) l f) = n + 1 := by rw [hn]; rfl
        have gBL : ∀ b, bL (byA (gB σ) l f) b = if b = n then l else bL (gB σ) b := fun b => by rw [hn]; rfl
        have gBF : ∀ b, bF (byA (gB σ) l f) b = if b = n then f else bF (gB σ) b := fun b => by rw [hn]; rfl
        have B2 : BuyAt d2 (byA (gB σ) l f) := by
          refine ⟨?_, fun b hb => ⟨?_, ?_⟩⟩
          · rw [f3.gi (by omega), uz_o (by omega), hd0, dI_s, gBN]
          · rw [f3.gi (by omega), uz_o (by omega), hd0, dI_o (by omega), dI_o (by omega), gBL]
            by_cases e : b = n
            · rw [if_pos e, e, dI_s]
            · rw [if_neg e, dI_o (by omega)]; exact (B.2 b (by omega)).1
          · rw [f3.gi (by omega), uz_o (by omega), hd0, dI_o (by omega), gBF]
            by_cases e : b = n
            · rw [if_pos e, e, dI_s]
            · rw [if_neg e, dI_o (by omega), dI_o (by omega)]; exact (B.2 b (by omega)).2
        have e29 : ∀ b, d_i (uz d0 128) 29 b = d_i d 29 b := fun b => by rw [uz_o (by omega), hd0, dI_o (by omega), dI_o (by omega), dI_o (by omega)]
        have e30 : ∀ b, d_i (uz d0 128) 30 b = d_i d 30 b := fun b => by rw [uz_o (by omega), hd0, dI_o (by omega), dI_o (by omega), dI_o (by omega)]
        have M2 : MdlB d2 (byA (gB σ) l f) := by
          refine ⟨?_, fun b hb => ⟨?_, ?_⟩⟩
          · rw [hd2, dI_s, gBN]
          · rw [hd2, dI_o (by omega), dI_o (by omega), gBL]
            by_cases e : b = n
            · rw [if_pos e, e, dI_s]
            · rw [if_neg e, dI_o (by omega), e29]; exact (MB.2 b (by omega)).1
          · rw [hd2, dI_o (by omega), gBF]
            by_cases e : b = n
            · rw [if_pos e, e, dI_s]
            · rw [if_neg e, dI_o (by omega), dI_o (by omega), e30]; exact (MB.2 b (by omega)).2
        have C2 : CacheOK d2 (sgB σ (byA (gB σ) l f)) := (uz_cache d0 (sgB σ (byA (gB σ) l f))).gfr f3 (fun k => by omega)
        refine ⟨J (n : Int), uz d0 128, d2, ?_, ?_, ⟨sgB σ (byA (gB σ) l f), sgB_ok O hβ', R.by' f2 B2, C2, M.by' f2 M2⟩, f1.c2 (fun k => by unfold PB; omega)⟩
        · rw [happ, Option.bind_some, if_neg n1, unsettle_val, Option.bind_some]
        · have n4 : ¬ d_i (uz d0 128) 23 15 = 4 := by rw [e15, j4, J_eq (by omega) (by omega)]; omega
          have g1 : d_i (dI (uz d0 128) 29 n (J l)) 23 15 = J (n : Int) := by rw [dI_o (by omega)]; exact e15
          have g2 : d_i (dI (dI (uz d0 128) 29 n (J l)) 30 n (J f)) 23 15 = J (n : Int) := by rw [dI_o (by omega), dI_o (by omega)]; exact e15
          rw [if_neg n4, e15, if_pos hin, hix, bnd_eq, g1, if_pos hin, hix, bnd_eq, g2, bnd_eq, j1, J_add, dI_s, J_sub, hd2]
          have e : (n : Int) + 1 - 1 = n := by omega
          rw [e]; rfl
      · have e4 : bN (gB σ) = 4 := by omega
        have n4 : d_i d 23 15 = 4 := by rw [M.2.2.1.1, e4]; rfl
        refine ⟨-104, d, d, ?_, ?_, ⟨σ, O, R, C, M⟩, rfl⟩
        · rw [append_full R.2.2.2.1 e4, Option.bind_some, if_pos rfl]
        · rw [if_pos n4]
    · refine ⟨-102, d, d, ?_, ?_, ⟨σ, O, R, C, M⟩, rfl⟩
      · simp only [decide_eq_true q1, decide_eq_false q2, if_true, Bool.false_eq_true, if_false]
      · simp only [decide_eq_true q1, decide_eq_false q2, if_true, Bool.false_eq_true, if_false]
  · refine ⟨-102, d, d, ?_, ?_, ⟨σ, O, R, C, M⟩, rfl⟩
    · simp only [decide_eq_false q1, Bool.false_eq_true, if_false]
    · simp only [decide_eq_false q1, Bool.false_eq_true, if_false]
def byL (β : By) (i : Nat) (v : Int) : By := (bN β, fun b => if b = i then v else bL β b, bF β)
def byF (β : By) (i : Nat) (v : Int) : By := (bN β, bL β, fun b => if b = i then v else bF β b)
theorem byL_ok {β : By} (h : byOK β) (i : Nat) {v : Int} (hv : 1 ≤ v ∧ v ≤ 3) : byOK (byL β i v) := ⟨h.1, fun b hb => by
  show (1 ≤ (if b = i then v else bL β b) ∧ (if b = i then v else bL β b) ≤ 3) ∧ (0 ≤ bF β b ∧ bF β b ≤ 99)
  have := h.2 b hb
  refine ⟨?_, this.2⟩
  split <;> omega⟩
theorem byF_ok {β : By} (h : byOK β) (i : Nat) {v : Int} (hv : 0 ≤ v ∧ v ≤ 99) : byOK (byF β i v) := ⟨h.1, fun b hb => by
  show (1 ≤ bL β b ∧ bL β b ≤ 3) ∧ (0 ≤ (if b = i then v else bF β b) ∧ (if b = i then v else bF β b) ≤ 99)
  have := h.2 b hb
  refine ⟨this.1, ?_⟩
  split <;> omega⟩
theorem BuyAt.uz {d : Dd} {β : By} (B : BuyAt d β) (n : Nat) : BuyAt (uz d n) β :=
  ⟨(uz_o (by omega)).trans B.1, fun b hb => ⟨(uz_o (by omega)).trans (B.2 b hb).1, (uz_o (by omega)).trans (B.2 b hb).2⟩⟩
theorem op6 : Op6 Inv := by
  rintro d ρ ⟨σ, O, R, C, M⟩ x1 x2 x3
  obtain ⟨b, hb, rfl⟩ := J_of x1
  obtain ⟨w, hw, rfl⟩ := J_of x2
  obtain ⟨v, hv, rfl⟩ := J_of x3
  have hβ := O.2.2.1
  have hN := hβ.1
  have B := R.2.2.2.1
  have MB := M.2.2.1
  have c0 : J w = 0 ↔ w = 0 := by rw [j0]; exact J_eq (by omega) (by omega)
  have c1 : J w = 1 ↔ w = 1 := by rw [j1]; exact J_eq (by omega) (by omega)
  have i1 : fX12_in (Int32.toInt64 (J v)) 1 3 = some (decide (1 ≤ v ∧ v ≤ 3)) := by
    rw [J_l (by omega), k1, show (3 : Int64) = K 3 from rfl]; exact in_val (by omega) (by omega) (by omega)
  have i2 : fX12_in (Int32.toInt64 (J v)) 0 99 = some (decide (0 ≤ v ∧ v ≤ 99)) := by
    rw [J_l (by omega), k0, show (99 : Int64) = K 99 from rfl]; exact in_val (by omega) (by omega) (by omega)
  unfold fX11_change fX12_change
  simp only [has_c B hβ hb, isBuyer_m MB hβ hb, in01 hw, isLimit_c hv, isFee_c hv, Option.bind_some]
  by_cases q : 0 ≤ b ∧ b < bN (gB σ)
  · obtain ⟨i, rfl⟩ : ∃ k : Nat, b = (k : Int) := ⟨b.toNat, by omega⟩
    have hi : i < bN (gB σ) := by omega
    have hin : inB (J (i : Int)) 4 = true := by rw [inB_J (by omega)]; omega
    have hix : ix (J (i : Int)) = i := by rw [ix_J (by omega), Int.toNat_natCast]
    have g0 : ¬ J (i : Int) < 0 := by rw [j0, J_lt (by omega) (by omega)]; omega
    have g4 : ¬ (4 : Int32) ≤ J (i : Int) := by rw [j4, J_le (by omega) (by omega)]; omega
    have Bu := B.uz 128
    have gN' : ¬ d_i (uz d 128) 15 2 ≤ J (i : Int) := by rw [Bu.1, J_le (by omega) (by omega)]; omega
    have el : lim (gB σ) i = bL (gB σ) i := by unfold lim; rw [if_pos hi]
    have ef : fee (gB σ) i = bF (gB σ) i := by unfold fee; rw [if_pos hi]
    have f1 : Fr PB d (uz d 128) := uz_fr (fun k => Or.inr (Or.inr (Or.inr (Or.inl rfl)))) Fr.rf
    simp only [decide_eq_true q, if_true, jn_eq, hin, hix, bnd_eq]
    by_cases q0 : w = 0
    · have j := c0.mpr q0
      have nq1 : ¬ J w = 1 := fun z => by have := c1.mp z; omega
      have hw1 : w = 0 ∨ w = 1 := Or.inl q0
      simp only [j, if_true, decide_eq_true hw1, i1, Option.bind_some]
      have n01 : ¬ (0 : Int32) = 1 := by decide
      simp only [n01, if_false]
      by_cases q2 : 1 ≤ v ∧ v ≤ 3
      · simp only [decide_eq_true q2, if_true, unsettle_val, Option.bind_some]
        have hsw : fX1_swapLimit ρ (uz d 128) (J (i : Int)) (J v) = some (J (bL (gB σ) i), dI (uz d 128) 16 i (J v)) := by
          unfold fX1_swapLimit
          rw [limitOf_val Bu hβ (show i < 4 by omega), Option.bind_some, if_neg g0, if_neg gN', if_neg g4, if_pos hin, hix, bnd_eq, el]
        obtain ⟨d1, hd1⟩ : ∃ d1, d1 = dI (uz d 128) 16 i (J v) := ⟨_, rfl⟩
        obtain ⟨d2, hd2⟩ : ∃ d2, d2 = dI (dI d1 29 i (J v)) 30 i (d_i (dI d1 29 i (J v)) 30 i) := ⟨_, rfl⟩
        have f1' : Fr PB d d1 := by rw [hd1]; exact f1.i (Or.inr (Or.inl rfl))
        have f3 : Fr (fun o k => o = 29 ∨ o = 30) d1 d2 := by
          rw [hd2]; exact (Fr.rf.i (Or.inl rfl)).i (Or.inr rfl)
        have f2 : Fr PB d d2 := f1'.tr (f3.mono (fun o k h => by unfold PB; omega))
        have f4 : Fr (fun o k => o = 16 ∨ o = 29 ∨ o = 30) (uz d 128) d2 := by
          have : Fr (fun o k => o = 16 ∨ o = 29 ∨ o = 30) (uz d 128) d1 := by rw [hd1]; exact Fr.rf.i (Or.inl rfl)
          exact this.tr (f3.mono (fun o k h => by omega))
        have B2 : BuyAt d2 (byL (gB σ) i v) := by
          refine ⟨(f4.gi (by omega)).trans Bu.1, fun b hb => ⟨?_, (f4.gi (by omega)).trans (Bu.2 b hb).2⟩⟩
          show _ = J (if b = i then v else bL (gB σ) b)
          rw [f3.gi (by omega), hd1]
          by_cases e : b = i
          · rw [if_pos e, e, dI_s]
          · rw [if_neg e, dI_o (by omega)]; exact (Bu.2 b hb).1
        have e29 : ∀ b, d_i d1 29 b = d_i d 29 b := fun b => by rw [hd1, dI_o (by omega), uz_o (by omega)]
        have e30 : ∀ b, d_i d1 30 b = d_i d 30 b := fun b => by rw [hd1, dI_o (by omega), uz_o (by omega)]
        have M2 : MdlB d2 (byL (gB σ) i v) := by
          refine ⟨((f4.gi (by omega)).trans (uz_o (by omega))).trans MB.1, fun b hb => ⟨?_, ?_⟩⟩
          · show _ = J (if b = i then v else bL (gB σ) b)
            rw [hd2, dI_o (by omega)]
            by_cases e : b = i
            · rw [if_pos e, e, dI_s]
            · rw [if_neg e, dI_o (by omega), e29]; exact (MB.2 b hb).1
          · show _ = J (bF (gB σ) b)
            rw [hd2]
            by_cases e : b = i
            · rw [e, dI_s, dI_o (by omega), e30]; exact (MB.2 i hi).2
            · rw [dI_o (by omega), dI_o (by omega), e30]; exact (MB.2 b hb).2
        have C2 : CacheOK d2 (sgB σ (byL (gB σ) i v)) := (uz_cache d (sgB σ (byL (gB σ) i v))).gfr f4 (fun k => by omega)
        refine ⟨J (bL (gB σ) i), d1, d2, ?_, ?_, ⟨sgB σ (byL (gB σ) i v), sgB_ok O (byL_ok hβ i q2), R.by' f2 B2, C2, M.by' f2 M2⟩, f1'.c2 (fun k => by unfold PB; omega)⟩
        · rw [hsw, Option.bind_some, hd1]
        · have MB1 : MdlB d1 (gB σ) := ⟨by rw [hd1, dI_o (by omega), uz_o (by omega)]; exact MB.1, fun b hb => ⟨(e29 b).trans (MB.2 b hb).1, (e30 b).trans (MB.2 b hb).2⟩⟩
          rw [isBuyer_m MB1 hβ hb, Option.bind_some, decide_eq_true q, if_pos rfl, e29, (MB.2 i hi).1, hd2]
      · refine ⟨-102, d, d, ?_, ?_, ⟨σ, O, R, C, M⟩, rfl⟩
        · simp only [decide_eq_false q2, Bool.false_eq_true, if_false]
        · simp only [isBuyer_m MB hβ hb, Option.bind_some, decide_eq_true q, if_true, decide_eq_false q2, Bool.false_eq_true, if_false]
    · have j : ¬ J w = 0 := fun z => q0 (c0.mp z)
      simp only [j, if_false]
      by_cases q1 : w = 1
      · have j1' := c1.mpr q1
        have hw1 : w = 0 ∨ w = 1 := Or.inr q1
        simp only [j1', if_true, decide_eq_true hw1, i2, Option.bind_some]
        by_cases q2 : 0 ≤ v ∧ v ≤ 99
        · simp only [decide_eq_true q2, if_true, unsettle_val, Option.bind_some]
          have n10 : ¬ (1 : Int32) = 0 := by decide
          try simp only [n10, if_false]
          have hsw : fX1_swapFee ρ (uz d 128) (J (i : Int)) (J v) = some (J (bF (gB σ) i), dI (uz d 128) 17 i (J v)) := by
            unfold fX1_swapFee
            rw [feeOf_val Bu hβ (show i < 4 by omega), Option.bind_some, if_neg g0, if_neg gN', if_neg g4, if_pos hin, hix, bnd_eq, ef]
          obtain ⟨d1, hd1⟩ : ∃ d1, d1 = dI (uz d 128) 17 i (J v) := ⟨_, rfl⟩
          obtain ⟨d2, hd2⟩ : ∃ d2, d2 = dI (dI d1 29 i (d_i d1 29 i)) 30 i (J v) := ⟨_, rfl⟩
          have f1' : Fr PB d d1 := by rw [hd1]; exact f1.i (Or.inr (Or.inr (Or.inl rfl)))
          have f3 : Fr (fun o k => o = 29 ∨ o = 30) d1 d2 := by
            rw [hd2]; exact (Fr.rf.i (Or.inl rfl)).i (Or.inr rfl)
          have f2 : Fr PB d d2 := f1'.tr (f3.mono (fun o k h => by unfold PB; omega))
          have f4 : Fr (fun o k => o = 17 ∨ o = 29 ∨ o = 30) (uz d 128) d2 := by
            have : Fr (fun o k => o = 17 ∨ o = 29 ∨ o = 30) (uz d 128) d1 := by rw [hd1]; exact Fr.rf.i (Or.inl rfl)
            exact this.tr (f3.mono (fun o k h => by omega))
          have B2 : BuyAt d2 (byF (gB σ) i v) := by
            refine ⟨(f4.gi (by omega)).trans Bu.1, fun b hb => ⟨(f4.gi (by omega)).trans (Bu.2 b hb).1, ?_⟩⟩
            show _ = J (if b = i then v else bF (gB σ) b)
            rw [f3.gi (by omega), hd1]
            by_cases e : b = i
            · rw [if_pos e, e, dI_s]
            · rw [if_neg e, dI_o (by omega)]; exact (Bu.2 b hb).2
          have e29 : ∀ b, d_i d1 29 b = d_i d 29 b := fun b => by rw [hd1, dI_o (by omega), uz_o (by omega)]
          have e30 : ∀ b, d_i d1 30 b = d_i d 30 b := fun b => by rw [hd1, dI_o (by omega), uz_o (by omega)]
          have M2 : MdlB d2 (byF (gB σ) i v) := by
            refine ⟨((f4.gi (by omega)).trans (uz_o (by omega))).trans MB.1, fun b hb => ⟨?_, ?_⟩⟩
            · show _ = J (bL (gB σ) b)
              rw [hd2, dI_o (by omega)]
              by_cases e : b = i
              · rw [e, dI_s, e29]; exact (MB.2 i hi).1
              · rw [dI_o (by omega), e29]; exact (MB.2 b hb).1
            · show _ = J (if b = i then v else bF (gB σ) b)
              rw [hd2]
              by_cases e : b = i
              · rw [if_pos e, e, dI_s]
              · rw [if_neg e, dI_o (by omega), dI_o (by omega), e30]; exact (MB.2 b hb).2
          have C2 : CacheOK d2 (sgB σ (byF (gB σ) i v)) := (uz_cache d (sgB σ (byF (gB σ) i v))).gfr f4 (fun k => by omega)
          refine ⟨J (bF (gB σ) i), d1, d2, ?_, ?_, ⟨sgB σ (byF (gB σ) i v), sgB_ok O (byF_ok hβ i q2), R.by' f2 B2, C2, M.by' f2 M2⟩, f1'.c2 (fun k => by unfold PB; omega)⟩
          · rw [hsw, Option.bind_some, hd1]
          · have MB1 : MdlB d1 (gB σ) := ⟨by rw [hd1, dI_o (by omega), uz_o (by omega)]; exact MB.1, fun b hb => ⟨(e29 b).trans (MB.2 b hb).1, (e30 b).trans (MB.2 b hb).2⟩⟩
            rw [isBuyer_m MB1 hβ hb, Option.bind_some, decide_eq_true q, if_pos rfl, e30, (MB.2 i hi).2, hd2]
        · refine ⟨-102, d, d, ?_, ?_, ⟨σ, O, R, C, M⟩, rfl⟩
          · simp only [decide_eq_false q2, Bool.false_eq_true, if_false]
          · simp only [isBuyer_m MB hβ hb, Option.bind_some, decide_eq_true q, if_true, decide_eq_false q2, Bool.false_eq_true, if_false]
      · have j1' : ¬ J w = 1 := fun z => q1 (c1.mp z)
        have hw1 : ¬ (w = 0 ∨ w = 1) := by omega
        refine ⟨-102, d, d, ?_, ?_, ⟨σ, O, R, C, M⟩, rfl⟩
        · simp only [j1', Bool.false_eq_true, if_false]
        · simp only [isBuyer_m MB hβ hb, Option.bind_some, decide_eq_true q, if_true, decide_eq_false hw1, Bool.false_eq_true, if_false]
  · refine ⟨-101, d, d, ?_, ?_, ⟨σ, O, R, C, M⟩, rfl⟩
    · simp only [decide_eq_false q, Bool.false_eq_true, if_false]
    · simp only [isBuyer_m MB hβ hb, Option.bind_some, decide_eq_false q, Bool.false_eq_true, if_false]
