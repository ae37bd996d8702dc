/-! what the class settles -/
def Fr (P : Nat → Nat → Prop) (d d' : Dd) : Prop := ∀ o k, ¬ P o k → d'.1 o k = d.1 o k ∧ d'.2 o k = d.2 o k
theorem Fr.rf {P : Nat → Nat → Prop} {d : Dd} : Fr P d d := fun _ _ _ => ⟨rfl, rfl⟩
theorem Fr.tr {P : Nat → Nat → Prop} {d d1 d2 : Dd} (a : Fr P d d1) (b : Fr P d1 d2) : Fr P d d2 := fun o k h => ⟨(b o k h).1.trans (a o k h).1, (b o k h).2.trans (a o k h).2⟩
theorem Fr.mono {P Q : Nat → Nat → Prop} {d d1 : Dd} (hPQ : ∀ o k, P o k → Q o k) (a : Fr P d d1) : Fr Q d d1 := fun o k h => a o k (fun q => h (hPQ o k q))
theorem Fr.i {P : Nat → Nat → Prop} {d d1 : Dd} {o k : Nat} {v : Int32} (h : P o k) (a : Fr P d d1) : Fr P d (dI d1 o k v) := fun o' k' q => by
  refine ⟨?_, (a o' k' q).2⟩
  show set2 d1.1 o k v o' k' = _
  unfold set2
  rw [if_neg (fun z => q (by rw [z.1, z.2]; exact h))]
  exact (a o' k' q).1
theorem Fr.l {P : Nat → Nat → Prop} {d d1 : Dd} {o k : Nat} {v : Int64} (h : P o k) (a : Fr P d d1) : Fr P d (dL d1 o k v) := fun o' k' q => by
  refine ⟨(a o' k' q).1, ?_⟩
  show set2 d1.2 o k v o' k' = _
  unfold set2
  rw [if_neg (fun z => q (by rw [z.1, z.2]; exact h))]
  exact (a o' k' q).2
theorem Fr.gi {P : Nat → Nat → Prop} {d d1 : Dd} (a : Fr P d d1) {o k : Nat} (h : ¬ P o k) : d_i d1 o k = d_i d o k := (a o k h).1
theorem Fr.gl {P : Nat → Nat → Prop} {d d1 : Dd} (a : Fr P d d1) {o k : Nat} (h : ¬ P o k) : d_l d1 o k = d_l d o k := (a o k h).2
theorem Fr.sv {P : Nat → Nat → Prop} {d d1 : Dd} {x : Nat → Int} {T : Int} (h : (∀ k, P 18 k) ∧ P 14 2) (a : Fr P d d1) : Fr P d (sv d1 x T) := fun o k q => by
  refine ⟨?_, (a o k q).2⟩
  show (if o = 18 ∧ k < 4 then _ else if o = 14 ∧ k = 2 then _ else d1.1 o k) = _
  rw [if_neg (fun z => q (by rw [z.1]; exact h.1 k)), if_neg (fun z => q (by rw [z.1, z.2]; exact h.2))]
  exact (a o k q).1
theorem Fr.hr {P : Nat → Nat → Prop} {d d1 : Dd} {a b c : Int} (h : ∀ k, P 13 k) (f : Fr P d d1) : Fr P d (hr3 d1 a b c) := ((f.l (h 0)).l (h 1)).l (h 2)
theorem MktAt.fr {P : Nat → Nat → Prop} {d d1 : Dd} {o : Nat} {μ : Mk} (M : MktAt d o μ) (f : Fr P d d1) (h : ∀ k, ¬ P o k ∧ ¬ P (o + 1) k ∧ ¬ P (o + 2) k) : MktAt d1 o μ :=
  ⟨(f.gi (h 0).1).trans M.1, (f.gi (h 1).1).trans M.2.1, (f.gi (h 2).1).trans M.2.2.1, (f.gi (h 3).1).trans M.2.2.2.1, fun c hc => ⟨(f.gi (h c).2.1).trans (M.2.2.2.2 c hc).1, (f.gi (h c).2.2).trans (M.2.2.2.2 c hc).2⟩⟩
theorem BuyAt.fr {P : Nat → Nat → Prop} {d d1 : Dd} {β : By} (M : BuyAt d β) (f : Fr P d d1) (h : ∀ k, ¬ P 15 k ∧ ¬ P 16 k ∧ ¬ P 17 k) : BuyAt d1 β :=
  ⟨(f.gi (h 2).1).trans M.1, fun b hb => ⟨(f.gi (h b).2.1).trans (M.2 b hb).1, (f.gi (h b).2.2).trans (M.2 b hb).2⟩⟩
theorem PlAt.fr {P : Nat → Nat → Prop} {d d1 : Dd} (M : PlAt d) (f : Fr P d d1) (h : ∀ k, ¬ P 1 k) : PlAt d1 :=
  ⟨(f.gi (h 0)).trans M.1, (f.gi (h 1)).trans M.2.1, (f.gi (h 2)).trans M.2.2.1, (f.gi (h 3)).trans M.2.2.2⟩
theorem NewAt.fr {P : Nat → Nat → Prop} {d d1 : Dd} {ρ : Rh} {o : Nat} {ν : Nw} (M : NewAt d ρ o ν) (f : Fr P d d1) (h : ∀ k, ¬ P o k) : NewAt d1 ρ o ν :=
  ⟨(f.gi (h 0)).trans M.1, (f.gi (h 1)).trans M.2.1, M.2.2⟩
theorem stepOf_val {ρ : Rh} {d : Dd} (P : PlAt d) {z b : Nat} (hz : z < 2401) (hb : b < 4) : fX1_stepOf ρ d (J z) (J b) = some (J (st z b)) := by
  have h7 := pow7_bd hb
  have c1 : ¬ J (z : Int) < 0 := by rw [j0, J_lt (by omega) (by omega)]; omega
  have c2 : ¬ J (b : Int) < 0 := by rw [j0, J_lt (by omega) (by omega)]; omega
  have c3 : ¬ (4 : Int32) ≤ J (b : Int) := by rw [j4, J_le (by omega) (by omega)]; omega
  have c4 : inB (J (b : Int)) 4 = true := by rw [inB_J (by omega)]; omega
  have e1 : d_i d 1 (ix (J (b : Int))) = J (7 ^ b) := by rw [ix_J (by omega), Int.toNat_natCast, pl_val P hb]
  have c5 : (1 : Int32) ≤ J (7 ^ b) := by rw [j1, J_le (by omega) (by omega)]; omega
  have c6 : ¬ J (7 ^ b) = 0 := by rw [j0, J_eq (by omega) (by omega)]; omega
  unfold fX1_stepOf
  rw [if_neg c1, if_neg c2, if_neg c3, if_pos c4, e1, if_pos c5, if_pos c4, if_neg c6, st_J hz hb]
def xs (β : By) (z b : Nat) : Int := if b < bN β then st z b else 0
theorem xs_sum {β : By} (hβ : byOK β) (z : Nat) : sm 4 (xs β z) = TT β z := by
  have hN := hβ.1
  rw [sm_zero_from hN (fun b h1 _ => by unfold xs; rw [if_neg (by omega)])]
  unfold TT
  exact sm_cong (fun b hb => by unfold xs; rw [if_pos hb])
theorem deal_val {ρ : Rh} {d : Dd} {β : By} (B : BuyAt d β) (P : PlAt d) (hβ : byOK β) {z : Nat} (hz : z < 2401) : fX2_deal ρ d (J z) = some (sv d (xs β z) (TT β z)) := by
  have hN := hβ.1
  unfold fX2_deal
  rw [bnd_eq]
  have h0 : dI d 14 2 0 = sv d (fun k => (d.1 18 k).toInt) 0 := sv_any d 0
  have e0 : sv d (fun k => (d.1 18 k).toInt) 0 = sv d (fun k => if k < 0 then xs β z k else (d.1 18 k).toInt) (sm 0 (xs β z)) := sv_ext (fun b hb => by simp) rfl
  rw [h0, e0, ← xs_sum hβ z]
  refine (lp_up 4 (fun i => (J (i : Int), sv d (fun k => if k < i then xs β z k else (d.1 18 k).toInt) (sm i (xs β z)))) (r := some (sv d (fun k => if k < 4 then xs β z k else (d.1 18 k).toInt) (sm 4 (xs β z)))) (fun i hi self => ?_) (fun self => ?_) 6000 (by omega)).trans ?_
  · have h1 : ¬ (4 : Int32) ≤ J (i : Int) := by rw [j4, J_le (by omega) (by omega)]; omega
    have h3 : inB (J (i : Int)) 4 = true := by rw [inB_J (by omega)]; omega
    have Bi := B.sv (fun k => if k < i then xs β z k else (d.1 18 k).toInt) (sm i (xs β z))
    have Pi := P.sv (fun k => if k < i then xs β z k else (d.1 18 k).toInt) (sm i (xs β z))
    have fin : ∀ y : Int, y = xs β z i → (if inB (J (i : Int)) 4 = true then bnd (dI (sv d (fun k => if k < i then xs β z k else (d.1 18 k).toInt) (sm i (xs β z))) 18 (ix (J (i : Int))) (J y)) fun d7 => if inB (J (i : Int)) 4 = true then bnd (dI d7 14 2 (d_i d7 14 2 + d_i d7 18 (ix (J (i : Int))))) fun d8 => self (J (i : Int) + 1, d8) else none else none) = self (J ((i + 1 : Nat) : Int), sv d (fun k => if k < i + 1 then xs β z k else (d.1 18 k).toInt) (sm (i + 1) (xs β z))) := by
      intro y hy
      simp only [h3, if_true, bnd, ix_J (show 0 ≤ (i : Int) ∧ (i : Int) < 2147483648 by omega), Int.toNat_natCast]
      rw [sv_set hi, sv_t, sv_s hi]
      simp only [if_true]
      rw [J_add, sv_tog, j1, J_add]
      congr 2
      refine sv_ext (fun b hb => ?_) (by rw [sm_succ, hy])
      by_cases e : b = i
      · subst e; simp [hy]
      · by_cases e2 : b < i
        · simp [e, e2, show b < i + 1 by omega]
        · simp [e, e2, show ¬ b < i + 1 by omega]
    simp only [h1, if_false, jn]
    rw [Bi.1]
    have c2 : J (bN β : Int) ≤ J (i : Int) ↔ (bN β : Int) ≤ i := J_le (by omega) (by omega)
    by_cases hb : i < bN β
    · have n2 : ¬ J (bN β : Int) ≤ J (i : Int) := by rw [c2]; omega
      rw [if_neg n2, stepOf_val Pi hz (by omega), Option.bind_some]
      exact fin _ (by unfold xs; rw [if_pos hb])
    · have n2 : J (bN β : Int) ≤ J (i : Int) := by rw [c2]; omega
      rw [if_pos n2]
      exact fin 0 (by unfold xs; rw [if_neg hb])
  · have h1 : (4 : Int32) ≤ J ((4 : Nat) : Int) := by decide
    simp only [h1, if_true]
  · congr 1
    exact sv_ext (fun b hb => by simp [hb]) rfl
/-- a row of worths -/
def wr (d : Dd) (row : Nat) (n : Nat) (f : Nat → Int) : Dd := (d.1, fun o k => if o = 22 ∧ row * 4 ≤ k ∧ k < row * 4 + n then K (f (k - row * 4)) else d.2 o k)
theorem wr_0 (d : Dd) (row : Nat) (f : Nat → Int) : wr d row 0 f = d := by
  unfold wr
  refine Prod.ext rfl ?_
  funext o k
  show (if _ then _ else _) = _
  rw [if_neg (by omega)]
theorem wr_set {d : Dd} {row n : Nat} {f : Nat → Int} {x : Int} (hx : x = f n) : dL (wr d row n f) 22 (row * 4 + n) (K x) = wr d row (n + 1) f := by
  subst hx
  unfold wr dL
  refine Prod.ext rfl ?_
  funext o k
  show set2 _ _ _ _ o k = _
  simp only [set2]
  by_cases e : o = 22 ∧ k = row * 4 + n
  · rw [if_pos e, if_pos (by omega), e.2, Nat.add_sub_cancel_left]
  · rw [if_neg e]
    by_cases e2 : o = 22 ∧ row * 4 ≤ k ∧ k < row * 4 + n
    · rw [if_pos e2, if_pos (by omega)]
    · rw [if_neg e2, if_neg (by omega)]
theorem wr_g {d : Dd} {row n : Nat} {f : Nat → Int} {b : Nat} (hb : b < n) : d_l (wr d row n f) 22 (row * 4 + b) = K (f b) := by
  unfold d_l wr
  show (if _ then _ else _) = _
  rw [if_pos (by omega), Nat.add_sub_cancel_left]
theorem wr_n {d : Dd} {row n : Nat} {f : Nat → Int} {o k : Nat} (h : ¬ (o = 22 ∧ row * 4 ≤ k ∧ k < row * 4 + n)) : d_l (wr d row n f) o k = d_l d o k := by
  unfold d_l wr
  show (if _ then _ else _) = _
  rw [if_neg h]
theorem kw_pre {row i : Nat} (hr : row < 128) (hi : i < 4) : (J (row : Int) * 4 + J (i : Int)) = J ((row * 4 + i : Nat) : Int) ∧ ¬ J ((row * 4 + i : Nat) : Int) < 0 ∧ ¬ (512 : Int32) ≤ J ((row * 4 + i : Nat) : Int) ∧ inB (J ((row * 4 + i : Nat) : Int)) 512 = true ∧ ix (J ((row * 4 + i : Nat) : Int)) = row * 4 + i := by
  refine ⟨?_, ?_, ?_, ?_, ?_⟩
  · rw [j4, J_mul, J_add]; congr 1
  · rw [j0, J_lt (by omega) (by omega)]; omega
  · rw [j512, J_le (by omega) (by omega)]; omega
  · rw [inB_J (by omega)]; omega
  · rw [ix_J (by omega), Int.toNat_natCast]
theorem keep_t {ρ : Rh} {d : Dd} {row : Nat} (hr : row < 128) : fX11_keepWorths ρ d (J row) true = some (wr d row 4 (fun _ => 0)) := by
  unfold fX11_keepWorths
  have e0 : d = wr d row 0 (fun _ => 0) := (wr_0 d row _).symm
  conv => lhs; rw [e0]
  refine lp_up 4 (fun i => (J (i : Int), wr d row i (fun _ => 0))) (fun i hi self => ?_) (fun self => ?_) 6000 (by omega)
  · have h1 : ¬ (4 : Int32) ≤ J (i : Int) := by rw [j4, J_le (by omega) (by omega)]; omega
    obtain ⟨k1, k2, k3, k4, k5⟩ := kw_pre hr hi
    simp only [h1, if_false, bnd, jn, k1, k2, k3, k4, if_true, k5]
    rw [k0, wr_set rfl, j1, J_add]; rfl
  · have h1 : (4 : Int32) ≤ J ((4 : Nat) : Int) := by decide
    simp only [h1, if_true]
theorem keep_f {ρ : Rh} {d : Dd} {row : Nat} (hr : row < 128) {f gb : Nat → Int} (hf : ∀ b, b < 4 → d_l d 22 (row * 4 + b) = K (f b)) (hg : ∀ (b n : Nat) (F : Nat → Int), b < 4 → fX2_gain ρ (wr d row n F) (J b) 0 = some (K (gb b))) : fX11_keepWorths ρ d (J row) false = some (wr d row 4 (fun b => f b + gb b)) := by
  unfold fX11_keepWorths
  have e0 : d = wr d row 0 (fun b => f b + gb b) := (wr_0 d row _).symm
  conv => lhs; rw [e0]
  refine lp_up 4 (fun i => (J (i : Int), wr d row i (fun b => f b + gb b))) (fun i hi self => ?_) (fun self => ?_) 6000 (by omega)
  · have h1 : ¬ (4 : Int32) ≤ J (i : Int) := by rw [j4, J_le (by omega) (by omega)]; omega
    obtain ⟨k1, k2, k3, k4, k5⟩ := kw_pre hr hi
    have k6 : d_l (wr d row i (fun b => f b + gb b)) 22 (row * 4 + i) = K (f i) := by rw [wr_n (by omega), hf i hi]
    simp only [h1, if_false, bnd, jn, k1, k2, k3, k4, if_true, k5, Bool.false_eq_true]
    rw [hg i i _ hi, Option.bind_some, k6, K_add, wr_set rfl, j1, J_add]; rfl
  · have h1 : (4 : Int32) ≤ J ((4 : Nat) : Int) := by decide
    simp only [h1, if_true]
theorem begin_val {ρ : Rh} {d : Dd} {a b c S : Int} {set : Nat} : ∃ d1, fX2_begin ρ (hr3 d a b c) (J S) (J set) = some d1 ∧ DealAt d1 (a, c, S) set ∧ (∀ P : Nat → Nat → Prop, ∀ d0, (∀ k, P 13 k) → (∀ k, P 14 k) → Fr P d0 d → Fr P d0 d1) := by
  refine ⟨dI (dI (dL (dL (hr3 d a b c) 14 4 (K a)) 14 5 (K c)) 14 6 (J S)) 14 3 (J set), ?_, ⟨?_, ?_, ?_, ?_⟩, ?_⟩
  · unfold fX2_begin
    simp only [bnd]
    rw [hr3_0]
    have : d_l (dL (hr3 d a b c) 14 4 (K a)) 13 2 = K c := hr3_2 d a b c
    rw [this]
  · simp [d_l, dI, dL, set2]
  · simp [d_l, dI, dL, set2]
  · simp [d_i, dI, dL, set2]
  · simp [d_i, dI, dL, set2]
  · intro P d0 h16 h17 f
    exact ((((f.hr h16).l (h17 4)).l (h17 5)).i (h17 6)).i (h17 3)
