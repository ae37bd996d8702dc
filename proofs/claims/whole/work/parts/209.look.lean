/-- sums of four -/
theorem sm4 (f : Nat → Int) : sm 4 f = f 0 + f 1 + f 2 + f 3 := by simp only [sm]; omega
theorem sum_bd {β : By} {set : Nat} (hβ : byOK β) {x : Nat → Int} (hx : ∀ b, b < 4 → -lm β set b ≤ x b ∧ x b ≤ lm β set b) : -12 ≤ sm 4 x ∧ sm 4 x ≤ 12 := by
  rw [sm4]
  have h0 := hx 0 (by omega); have h1 := hx 1 (by omega); have h2 := hx 2 (by omega); have h3 := hx 3 (by omega)
  have l0 := lm_bd hβ set 0; have l1 := lm_bd hβ set 1; have l2 := lm_bd hβ set 2; have l3 := lm_bd hβ set 3
  omega
/-- those who know are among the buyers -/
def setOK (β : By) (set : Nat) : Prop := set < 16 ∧ ∀ b, set.testBit b = true → b < bN β
theorem lm_in {β : By} {set b : Nat} (hs : setOK β set) (h : set.testBit b = true) : lm β set b = lim β b := by
  unfold lm lim; rw [if_pos ⟨hs.2 b h, h⟩, if_pos (hs.2 b h)]
theorem lm_out {β : By} {set b : Nat} (h : ¬ set.testBit b = true) : lm β set b = 0 := by
  unfold lm; rw [if_neg (fun z => h z.2)]
theorem sm_succ (n : Nat) (f : Nat → Int) : sm (n + 1) f = sm n f + f n := rfl
theorem sellMost_val {ρ : Rh} {d : Dd} {η : Hg} {β : By} {set : Nat} (D : DealAt d η set) (B : BuyAt d β) (hβ : byOK β) (hs : setOK β set) : fX2_sellMost ρ d = some (sv d (fun b => -lm β set b) (sm 4 (fun b => -lm β set b))) := by
  unfold fX2_sellMost
  simp only [bnd]
  have h0 : dI d 14 2 0 = sv d (fun k => (d.1 18 k).toInt) 0 := sv_any d 0
  rw [h0]
  have e0 : sv d (fun k => (d.1 18 k).toInt) 0 = sv d (fun k => if k < 0 then -lm β set k else (d.1 18 k).toInt) (sm 0 (fun b => -lm β set b)) := sv_ext (fun b hb => by simp) rfl
  rw [e0]
  refine (lp_up 4 (fun i => (J (i : Int), sv d (fun k => if k < i then -lm β set k else (d.1 18 k).toInt) (sm i (fun b => -lm β set b)))) (r := some (sv d (fun k => if k < 4 then -lm β set k else (d.1 18 k).toInt) (sm 4 (fun b => -lm β set b)))) (fun i hi self => ?_) (fun self => ?_) 6000 (by omega)).trans ?_
  · have h1 : ¬ (4 : Int32) ≤ J (i : Int) := by rw [J_lit, J_le (by omega) (by omega)]; omega
    have h3 : inB (J (i : Int)) 4 = true := by rw [inB_J (by omega)]; omega
    have Di := D.sv (fun k => if k < i then -lm β set k else (d.1 18 k).toInt) (sm i (fun b => -lm β set b))
    have Bi := B.sv (fun k => if k < i then -lm β set k else (d.1 18 k).toInt) (sm i (fun b => -lm β set b))
    have fin : ∀ y : Int, y = -lm β set i → (if inB (J (i : Int)) 4 = true then bnd (dI (sv d (fun k => if k < i then -lm β set k else (d.1 18 k).toInt) (sm i (fun b => -lm β set b))) 18 (ix (J (i : Int))) (J y)) fun d7 => if inB (J (i : Int)) 4 = true then bnd (dI d7 14 2 (d_i d7 14 2 + d_i d7 18 (ix (J (i : Int))))) fun d8 => self (J (i : Int) + 1, d8) else none else none) = self (J ((i + 1 : Nat) : Int), sv d (fun k => if k < i + 1 then -lm β set k else (d.1 18 k).toInt) (sm (i + 1) (fun b => -lm β set b))) := by
      intro y hy
      simp only [h3, if_true, bnd, ix_J (show 0 ≤ (i : Int) ∧ (i : Int) < 2147483648 by omega), Int.toNat_natCast]
      rw [sv_set hi, sv_t, sv_s hi]
      simp only [if_true]
      rw [J_add, sv_tog, J_lit, J_add]
      congr 2
      refine sv_ext (fun b hb => ?_) (by rw [sm_succ, hy])
      by_cases e : b = i
      · subst e; simp [hy]
      · by_cases e2 : b < i
        · simp [e, e2, show b < i + 1 by omega]
        · simp [e, e2, show ¬ b < i + 1 by omega]
    simp only [h1, if_false]
    rw [Di.2.2.2, isIn_val hs.1 hi, Option.bind_some]
    simp only [jn]
    by_cases hb : set.testBit i = true
    · rw [if_pos hb, limitOf_val Bi hβ hi, Option.bind_some, J_neg]
      exact fin _ (by rw [lm_in hs hb])
    · rw [if_neg hb]
      exact fin 0 (by rw [lm_out hb]; rfl)
  · have h1 : (4 : Int32) ≤ J ((4 : Nat) : Int) := by decide
    simp only [h1, if_true]
  · congr 1
    exact sv_ext (fun b hb => by simp [hb]) rfl
/-- on to the next dealings -/
theorem goOn_pre {β : By} {set : Nat} {d : Dd} {x : Nat → Int} {T : Int} {i : Nat} (hx : x i = lm β set i) (h0 : lm β set i = 0) : sv d (fun b => if b < i then -lm β set b else x b) (T - 2 * sm i (lm β set)) = sv d (fun b => if b < i + 1 then -lm β set b else x b) (T - 2 * sm (i + 1) (lm β set)) := by
  refine sv_ext (fun b hb => ?_) (by rw [sm_succ, h0]; omega)
  by_cases e : b = i
  · subst e; simp [hx, h0]
  · by_cases e2 : b < i
    · simp [e2, show b < i + 1 by omega]
    · simp [e2, show ¬ b < i + 1 by omega]
theorem goOn_step {ρ : Rh} {d : Dd} {η : Hg} {β : By} {set : Nat} (D : DealAt d η set) (B : BuyAt d β) (hβ : byOK β) (hs : setOK β set) {x : Nat → Int} (hx : ∀ b, b < 4 → -lm β set b ≤ x b ∧ x b ≤ lm β set b) (N : Nat) (hN : N ≤ 4) (hf : ∀ b, b < N → x b = lm β set b) {r : Option (Bool × Dd)}
    (hr : ∀ self : Int32 × Dd → Option (Bool × Dd), (fun (self2 : Int32 × Dd → Option (Bool × Dd)) (x1 : Int32 × Dd) =>
    if 4 ≤ x1.1 then
      (some (false, x1.2))
    else
      ((fX1_limitOf ρ x1.2 x1.1).bind fun r3 =>
      (fX11_isIn (d_i x1.2 14 3) x1.1).bind fun r4 =>
      jn (fun (x5 : Unit) =>
        (fX11_isIn (d_i x1.2 14 3) x1.1).bind fun r7 =>
        jn (fun (x8 : Dd) =>
          self2 ((x1.1 + 1), x8)
          ) fun k9 =>
        if r7 = true then
          (if inB x1.1 4 = true then
            (bnd (dI x1.2 18 (ix x1.1) (-r3)) fun d10 =>
            bnd (dI d10 14 2 ((d_i d10 14 2) - (2 * r3))) fun d11 =>
            k9 d11)
          else none)
        else
          (k9 x1.2)
        ) fun k6 =>
      if r4 = true then
        (if inB x1.1 4 = true then
          (if r3 ≤ (d_i x1.2 18 (ix x1.1)) then
            (k6 ())
          else
            (if inB x1.1 4 = true then
              (if inB x1.1 4 = true then
                (bnd (dI x1.2 18 (ix x1.1) ((d_i x1.2 18 (ix x1.1)) + 1)) fun d12 =>
                bnd (dI d12 14 2 ((d_i d12 14 2) + 1)) fun d13 =>
                some (true, d13))
              else none)
            else none))
        else none)
      else
        (k6 ()))) self (J (N : Int), sv d (fun b => if b < N then -lm β set b else x b) (sm 4 x - 2 * sm N (lm β set))) = r) : fX2_goOn ρ (sv d x (sm 4 x)) = r := by
  unfold fX2_goOn
  have e0 : sv d x (sm 4 x) = sv d (fun b => if b < 0 then -lm β set b else x b) (sm 4 x - 2 * sm 0 (lm β set)) := sv_ext (fun b hb => by simp) (by simp [sm])
  rw [e0]
  refine lp_up N (fun i => (J (i : Int), sv d (fun b => if b < i then -lm β set b else x b) (sm 4 x - 2 * sm i (lm β set)))) (fun i hi self => ?_) hr 6000 (by omega)
  have h1 : ¬ (4 : Int32) ≤ J (i : Int) := by rw [J_lit, J_le (by omega) (by omega)]; omega
  have h3 : inB (J (i : Int)) 4 = true := by rw [inB_J (by omega)]; omega
  have Di := D.sv (fun b => if b < i then -lm β set b else x b) (sm 4 x - 2 * sm i (lm β set))
  have Bi := B.sv (fun b => if b < i then -lm β set b else x b) (sm 4 x - 2 * sm i (lm β set))
  have hl := lim_bd hβ i
  simp only [h1, if_false]
  rw [limitOf_val Bi hβ (by omega), Option.bind_some, Di.2.2.2, isIn_val hs.1 (by omega), Option.bind_some]
  simp only [jn, Option.bind_some]
  by_cases hb : set.testBit i = true
  · simp only [hb, if_true, h3, ix_J (show 0 ≤ (i : Int) ∧ (i : Int) < 2147483648 by omega), Int.toNat_natCast]
    rw [sv_s (by omega)]
    simp only [Nat.lt_irrefl, if_false]
    rw [if_pos (by rw [hf i hi, lm_in hs hb]; rw [J_le (by omega) (by omega)]; omega)]
    simp only [bnd]
    rw [J_neg, sv_set (by omega), sv_t, j2, J_mul, J_sub, sv_tog, j1, J_add]
    congr 2
    refine sv_ext (fun b hb2 => ?_) (by rw [sm_succ i, lm_in hs hb]; omega)
    by_cases e : b = i
    · subst e; simp [lm_in hs hb]
    · by_cases e2 : b < i
      · simp [e, e2, show b < i + 1 by omega]
      · simp [e, e2, show ¬ b < i + 1 by omega]
  · rw [if_neg hb, if_neg hb, j1, J_add, goOn_pre (hf i hi) (lm_out hb)]
    rfl
theorem nxt_sum {l x : Nat → Int} {e : Nat} (he : e < 4) (hf : ∀ b, b < e → x b = l b) : sm 4 (nxt l x e) = sm 4 x - 2 * sm e l + 1 := by
  rw [sm4, sm4]
  rcases (show e = 0 ∨ e = 1 ∨ e = 2 ∨ e = 3 by omega) with rfl | rfl | rfl | rfl
  · simp only [nxt, sm]; simp; omega
  · have f0 := hf 0 (by omega)
    simp only [nxt, sm]; simp; omega
  · have f0 := hf 0 (by omega); have f1 := hf 1 (by omega)
    simp only [nxt, sm]; simp; omega
  · have f0 := hf 0 (by omega); have f1 := hf 1 (by omega); have f2 := hf 2 (by omega)
    simp only [nxt, sm]; simp; omega
theorem goOn_t {ρ : Rh} {d : Dd} {η : Hg} {β : By} {set : Nat} (D : DealAt d η set) (B : BuyAt d β) (hβ : byOK β) (hs : setOK β set) {x : Nat → Int} (hx : ∀ b, b < 4 → -lm β set b ≤ x b ∧ x b ≤ lm β set b) {e : Nat} (he : e < 4) (hf : ∀ b, b < e → x b = lm β set b) (hlt : x e < lm β set e) : fX2_goOn ρ (sv d x (sm 4 x)) = some (true, sv d (nxt (lm β set) x e) (sm 4 (nxt (lm β set) x e))) := by
  refine goOn_step D B hβ hs hx e (by omega) hf (fun self => ?_)
  have h1 : ¬ (4 : Int32) ≤ J (e : Int) := by rw [J_lit, J_le (by omega) (by omega)]; omega
  have h3 : inB (J (e : Int)) 4 = true := by rw [inB_J (by omega)]; omega
  have Di := D.sv (fun b => if b < e then -lm β set b else x b) (sm 4 x - 2 * sm e (lm β set))
  have Bi := B.sv (fun b => if b < e then -lm β set b else x b) (sm 4 x - 2 * sm e (lm β set))
  have hl := lim_bd hβ e
  have hb : set.testBit e = true := by
    by_cases q : set.testBit e = true
    · exact q
    · rw [lm_out q] at hlt
      have := hx e he; rw [lm_out q] at this; omega
  have hxe := hx e he
  rw [lm_in hs hb] at hlt hxe
  simp only [h1, if_false]
  rw [limitOf_val Bi hβ (by omega), Option.bind_some, Di.2.2.2, isIn_val hs.1 (by omega), Option.bind_some]
  simp only [jn, Option.bind_some]
  simp only [hb, if_true, h3, ix_J (show 0 ≤ (e : Int) ∧ (e : Int) < 2147483648 by omega), Int.toNat_natCast]
  rw [sv_s (by omega)]
  simp only [Nat.lt_irrefl, if_false]
  rw [if_neg (by rw [J_le (by omega) (by omega)]; omega)]
  simp only [bnd]
  rw [j1, J_add, sv_set (by omega), sv_t, J_add, sv_tog]
  congr 2
  refine sv_ext (fun b hb2 => ?_) (by rw [nxt_sum he hf])
  unfold nxt
  by_cases e1 : b = e
  · subst e1; simp
  · simp [e1]
theorem goOn_f {ρ : Rh} {d : Dd} {η : Hg} {β : By} {set : Nat} (D : DealAt d η set) (B : BuyAt d β) (hβ : byOK β) (hs : setOK β set) {x : Nat → Int} (hx : ∀ b, b < 4 → -lm β set b ≤ x b ∧ x b ≤ lm β set b) (hf : ∀ b, b < 4 → x b = lm β set b) : ∃ y U, fX2_goOn ρ (sv d x (sm 4 x)) = some (false, sv d y U) := by
  refine ⟨fun b => if b < 4 then -lm β set b else x b, sm 4 x - 2 * sm 4 (lm β set), goOn_step D B hβ hs hx 4 (by omega) hf (fun self => ?_)⟩
  have h1 : (4 : Int32) ≤ J ((4 : Nat) : Int) := by decide
  simp only [h1, if_true]
