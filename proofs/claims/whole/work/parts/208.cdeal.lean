/-! the class's dealings -/
def sv (d : Dd) (x : Nat → Int) (T : Int) : Dd := (fun o k => if o = 18 ∧ k < 4 then J (x k) else if o = 14 ∧ k = 2 then J T else d.1 o k, d.2)
theorem sv_s {d : Dd} {x : Nat → Int} {T : Int} {b : Nat} (hb : b < 4) : d_i (sv d x T) 18 b = J (x b) := by simp [d_i, sv, hb]
theorem sv_t {d : Dd} {x : Nat → Int} {T : Int} : d_i (sv d x T) 14 2 = J T := by simp [d_i, sv]
theorem sv_o {d : Dd} {x : Nat → Int} {T : Int} {o k : Nat} (h1 : o ≠ 18) (h2 : ¬ (o = 14 ∧ k = 2)) : d_i (sv d x T) o k = d_i d o k := by
  unfold d_i sv
  show (if o = 18 ∧ k < 4 then _ else if o = 14 ∧ k = 2 then _ else d.1 o k) = _
  rw [if_neg (fun z => h1 z.1), if_neg h2]
theorem sv_l {d : Dd} {x : Nat → Int} {T : Int} (o k : Nat) : d_l (sv d x T) o k = d_l d o k := rfl
theorem sv_ext {d : Dd} {x y : Nat → Int} {T U : Int} (h : ∀ b, b < 4 → x b = y b) (hT : T = U) : sv d x T = sv d y U := by
  subst hT
  unfold sv
  congr 1
  funext o k
  by_cases e : o = 18 ∧ k < 4
  · rw [if_pos e, if_pos e, h k e.2]
  · rw [if_neg e, if_neg e]
theorem sv_set {d : Dd} {x : Nat → Int} {T y : Int} {b : Nat} (hb : b < 4) : dI (sv d x T) 18 b (J y) = sv d (fun i => if i = b then y else x i) T := by
  unfold sv dI
  congr 1
  funext o k
  simp only [set2]
  by_cases e : o = 18 ∧ k = b
  · rw [if_pos e, if_pos ⟨e.1, by omega⟩, if_pos e.2]
  · rw [if_neg e]
    by_cases e2 : o = 18 ∧ k < 4
    · rw [if_pos e2, if_pos e2, if_neg (fun z => e ⟨e2.1, z⟩)]
    · rw [if_neg e2, if_neg e2]
theorem sv_tog {d : Dd} {x : Nat → Int} {T t : Int} : dI (sv d x T) 14 2 (J t) = sv d x t := by
  unfold sv dI
  congr 1
  funext o k
  simp only [set2]
  by_cases e : o = 14 ∧ k = 2
  · rw [if_pos e, if_neg (by omega), if_pos e]
  · rw [if_neg e, if_neg e, if_neg e]
theorem sv_any (d : Dd) (t : Int) : dI d 14 2 (J t) = sv d (fun k => (d.1 18 k).toInt) t := by
  unfold sv dI
  congr 1
  funext o k
  simp only [set2]
  by_cases e : o = 18 ∧ k < 4
  · rw [if_neg (by omega), if_pos e, e.1]
    exact (Int32.ofInt_toInt _).symm
  · rw [if_neg e]
theorem sv_sv {d : Dd} {x y : Nat → Int} {T U : Int} : sv (sv d x T) y U = sv d y U := by
  unfold sv
  congr 1
  funext o k
  simp only []
  by_cases e : o = 18 ∧ k < 4
  · rw [if_pos e, if_pos e]
  · rw [if_neg e, if_neg e]
    by_cases e2 : o = 14 ∧ k = 2
    · rw [if_pos e2, if_pos e2, if_neg e]
    · rw [if_neg e2, if_neg e2, if_neg e, if_neg e2]
def DealAt (d : Dd) (η : Hg) (set : Nat) : Prop := d_l d 14 4 = K η.1 ∧ d_l d 14 5 = K η.2.1 ∧ d_i d 14 6 = J η.2.2 ∧ d_i d 14 3 = J set
def hgOK (η : Hg) : Prop := (0 ≤ η.1 ∧ η.1 ≤ 200000) ∧ (-1000000000 ≤ η.2.1 ∧ η.2.1 ≤ 1000000000) ∧ (0 ≤ η.2.2 ∧ η.2.2 ≤ 9)
def PlAt (d : Dd) : Prop := d_i d 1 0 = 1 ∧ d_i d 1 1 = 7 ∧ d_i d 1 2 = 49 ∧ d_i d 1 3 = 343
theorem DealAt.sv {d : Dd} {η : Hg} {set : Nat} (h : DealAt d η set) (x : Nat → Int) (T : Int) : DealAt (sv d x T) η set :=
  ⟨h.1, h.2.1, by rw [sv_o (by decide) (by decide)]; exact h.2.2.1, by rw [sv_o (by decide) (by decide)]; exact h.2.2.2⟩
theorem BuyAt.sv {d : Dd} {β : By} (h : BuyAt d β) (x : Nat → Int) (T : Int) : BuyAt (sv d x T) β :=
  ⟨by rw [sv_o (by decide) (by decide)]; exact h.1, fun b hb => ⟨by rw [sv_o (by decide) (by omega)]; exact (h.2 b hb).1, by rw [sv_o (by decide) (by omega)]; exact (h.2 b hb).2⟩⟩
theorem PlAt.sv {d : Dd} (h : PlAt d) (x : Nat → Int) (T : Int) : PlAt (sv d x T) :=
  ⟨by rw [sv_o (by decide) (by omega)]; exact h.1, by rw [sv_o (by decide) (by omega)]; exact h.2.1, by rw [sv_o (by decide) (by omega)]; exact h.2.2.1, by rw [sv_o (by decide) (by omega)]; exact h.2.2.2⟩
def lim (β : By) (b : Nat) : Int := if b < bN β then bL β b else 0
def fee (β : By) (b : Nat) : Int := if b < bN β then bF β b else 0
theorem lim_bd {β : By} (h : byOK β) (b : Nat) : 0 ≤ lim β b ∧ lim β b ≤ 3 := by
  unfold lim; split
  · next e => have := (h.2 b e).1; omega
  · omega
theorem fee_bd {β : By} (h : byOK β) (b : Nat) : 0 ≤ fee β b ∧ fee β b ≤ 99 := by
  unfold fee; split
  · next e => have := (h.2 b e).2; omega
  · omega
theorem limitOf_val {ρ : Rh} {d : Dd} {β : By} (B : BuyAt d β) (h : byOK β) {b : Nat} (hb : b < 4) : fX1_limitOf ρ d (J b) = some (J (lim β b)) := by
  have hN := h.1
  have h0 : ¬ J (b : Int) < 0 := by rw [J_lit, J_lt (by omega) (by omega)]; omega
  unfold fX1_limitOf lim
  rw [if_neg h0, B.1]
  by_cases e : b < bN β
  · have h1 : ¬ J (bN β : Int) ≤ J b := by rw [J_le (by omega) (by omega)]; omega
    have h2 : ¬ (4 : Int32) ≤ J b := by rw [J_lit, J_le (by omega) (by omega)]; omega
    have h3 : inB (J b) 4 = true := by rw [inB_J (by omega)]; omega
    rw [if_neg h1, if_neg h2, if_pos h3, ix_J (by omega), Int.toNat_natCast, (B.2 b e).1, if_pos e]
  · have h1 : J (bN β : Int) ≤ J b := by rw [J_le (by omega) (by omega)]; omega
    rw [if_pos h1, if_neg e]; rfl
theorem feeOf_val {ρ : Rh} {d : Dd} {β : By} (B : BuyAt d β) (h : byOK β) {b : Nat} (hb : b < 4) : fX1_feeOf ρ d (J b) = some (J (fee β b)) := by
  have hN := h.1
  have h0 : ¬ J (b : Int) < 0 := by rw [J_lit, J_lt (by omega) (by omega)]; omega
  unfold fX1_feeOf fee
  rw [if_neg h0, B.1]
  by_cases e : b < bN β
  · have h1 : ¬ J (bN β : Int) ≤ J b := by rw [J_le (by omega) (by omega)]; omega
    have h2 : ¬ (4 : Int32) ≤ J b := by rw [J_lit, J_le (by omega) (by omega)]; omega
    have h3 : inB (J b) 4 = true := by rw [inB_J (by omega)]; omega
    rw [if_neg h1, if_neg h2, if_pos h3, ix_J (by omega), Int.toNat_natCast, (B.2 b e).2, if_pos e]
  · have h1 : J (bN β : Int) ≤ J b := by rw [J_le (by omega) (by omega)]; omega
    rw [if_pos h1, if_neg e]; rfl
theorem isIn_val {s b : Nat} (hs : s < 16) (hb : b < 4) : fX11_isIn (J s) (J b) = some (s.testBit b) := by
  unfold fX11_isIn
  by_cases e : s.testBit b = true
  · rw [if_pos ((set_bit s hs b hb).mpr e), e]
  · rw [if_neg (fun z => e ((set_bit s hs b hb).mp z))]
    cases h : s.testBit b
    · rfl
    · exact absurd h e
theorem gn_bd {W E S f x T : Int} (hW : 0 ≤ W ∧ W ≤ 200000) (hE : -1000000000 ≤ E ∧ E ≤ 1000000000) (hS : 0 ≤ S ∧ S ≤ 9) (hf : 0 ≤ f ∧ f ≤ 99) (hx : -4 ≤ x ∧ x ≤ 4) (hT : -20 ≤ T ∧ T ≤ 20) :
    (0 ≤ W * S ∧ W * S ≤ 1800000) ∧ (-36000000 ≤ W * S * T ∧ W * S * T ≤ 36000000) ∧ (-4144000000 ≤ x * (E - W * S * T) ∧ x * (E - W * S * T) ≤ 4144000000) ∧ (0 ≤ W * f ∧ W * f ≤ 19800000) ∧ (0 ≤ ab x ∧ ab x ≤ 4) ∧ (0 ≤ W * f * ab x ∧ W * f * ab x ≤ 79200000) ∧ (-5000000000 ≤ gn W E S f x T ∧ gn W E S f x T ≤ 5000000000) := by
  have a1 := ab_mul 200000 9 (x := W) (y := S) (by omega) (by omega)
  have a2 := Int.mul_nonneg hW.1 hS.1
  have a3 := ab_mul 1800000 20 (x := W * S) (y := T) (by omega) (by omega)
  have a4 := ab_mul 4 1036000000 (x := x) (y := E - W * S * T) (by omega) (by omega)
  have a5 := ab_mul 200000 99 (x := W) (y := f) (by omega) (by omega)
  have a6 := Int.mul_nonneg hW.1 hf.1
  have a7 : 0 ≤ ab x ∧ ab x ≤ 4 := by unfold ab; split <;> omega
  have a8 := ab_mul 19800000 4 (x := W * f) (y := ab x) (by omega) (by omega)
  have a9 := Int.mul_nonneg a6 a7.1
  unfold gn
  omega
theorem gain_val {ρ : Rh} {d : Dd} {η : Hg} {β : By} {set : Nat} (D : DealAt d η set) (B : BuyAt d β) (hη : hgOK η) (h : byOK β) {b : Nat} (hb : b < 4) {x T e : Int} (hx : d_i d 18 b = J x) (hT : d_i d 14 2 = J T) (bx : -3 ≤ x ∧ x ≤ 3) (bT : -19 ≤ T ∧ T ≤ 19) (be : -1 ≤ e ∧ e ≤ 1) : fX2_gain ρ d (J b) (J e) = some (K (gn η.1 η.2.1 η.2.2 (fee β b) (x + e) (T + e))) := by
  have h0 : ¬ J (b : Int) < 0 := by rw [J_lit, J_lt (by omega) (by omega)]; omega
  have h1 : J (b : Int) < 4 := by rw [J_lit, J_lt (by omega) (by omega)]; omega
  have h3 : inB (J (b : Int)) 4 = true := by rw [inB_J (by omega)]; omega
  have hf := fee_bd h b
  obtain ⟨g1, g2, g3, g4, g5, g6, g7⟩ := gn_bd (W := η.1) (E := η.2.1) (S := η.2.2) (f := fee β b) (x := x + e) (T := T + e) hη.1 hη.2.1 hη.2.2 hf (by omega) (by omega)
  have hη1 := hη.1
  have hη2 := hη.2.1
  have hη3 := hη.2.2
  unfold fX2_gain
  simp only [jn, bnd]
  rw [if_neg h0, if_pos h1, if_pos h3, ix_J (by omega), Int.toNat_natCast, hx, hT, J_add, J_add, J_l (by omega), J_l (by omega), D.1, D.2.1, D.2.2.1, J_l (by omega), K_mul, K_mul, feeOf_val B h hb, Option.bind_some, J_l (by omega), K_sub, K_mul, K_mul]
  unfold gn ab
  by_cases q : 0 ≤ x + e
  · rw [if_pos (by rw [K_lit, K_le (by omega) (by omega)]; exact q), if_pos q, K_mul, K_sub]
  · rw [if_neg (by rw [K_lit, K_le (by omega) (by omega)]; exact q), if_neg q, K_neg, K_mul, K_sub]
