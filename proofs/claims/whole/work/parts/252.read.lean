/-! how the page is read -/
def Lt (pg : Nat → Int) (np k : Nat) : Int := if k < np then pg k else 0
def rnn (L : Nat → Int) : Nat → Int → Nat → Int × Nat
  | 0, n, k => (n, k)
  | f + 1, n, k => if 48 ≤ L k ∧ L k ≤ 57 then rnn L f (10 * n + L k - 48) (k + 1) else (n, k)
theorem rnn_t {L : Nat → Int} {f : Nat} {n : Int} {k : Nat} (h : 48 ≤ L k ∧ L k ≤ 57) : rnn L (f + 1) n k = rnn L f (10 * n + L k - 48) (k + 1) := by
  show (if 48 ≤ L k ∧ L k ≤ 57 then _ else _) = _
  rw [if_pos h]
theorem rnn_f {L : Nat → Int} {f : Nat} {n : Int} {k : Nat} (h : ¬ (48 ≤ L k ∧ L k ≤ 57)) : rnn L (f + 1) n k = (n, k) := by
  show (if 48 ≤ L k ∧ L k ≤ 57 then _ else _) = _
  rw [if_neg h]
def rdN (L : Nat → Int) (m : Nat) (lo : Int) (k : Nat) : Int × Nat := if lo ≤ L k ∧ L k ≤ 57 then rnn L (m - 1) (L k - 48) (k + 1) else (-1, k)
theorem dig_run {pg : Nat → Int} {np m : Nat} {T : Int → Int → Mst} (hT : ∀ dg nm c, 1 ≤ dg → dg < (m : Int) → 48 ≤ c ∧ c ≤ 57 → gs (T dg nm) c = (true, T (dg + 1) (10 * nm + c - 48))) :
    ∀ (f : Nat) (n : Int) (k : Nat), k ≤ np → f < m → 0 ≤ n → (k ≤ (rnn (Lt pg np) f n k).2 ∧ (rnn (Lt pg np) f n k).2 ≤ np ∧ (rnn (Lt pg np) f n k).2 ≤ k + f) ∧ mgo pg (np - k) k (T ((m : Int) - f) n) = mgo pg (np - (rnn (Lt pg np) f n k).2) (rnn (Lt pg np) f n k).2 (T ((m : Int) - f + (((rnn (Lt pg np) f n k).2 : Int) - k)) (rnn (Lt pg np) f n k).1) ∧ ((rnn (Lt pg np) f n k).2 = k + f ∨ ¬ (48 ≤ Lt pg np (rnn (Lt pg np) f n k).2 ∧ Lt pg np (rnn (Lt pg np) f n k).2 ≤ 57)) ∧ n ≤ (rnn (Lt pg np) f n k).1 ∧ (rnn (Lt pg np) f n k).1 + 1 ≤ (n + 1) * 10 ^ f := by
  intro f
  induction f with
  | zero =>
    intro n k hk hf hn
    refine ⟨⟨Nat.le_refl k, hk, Nat.le_refl k⟩, ?_, Or.inl rfl, Int.le_refl n, ?_⟩
    · show mgo pg (np - k) k (T ((m : Int) - (0 : Nat)) n) = mgo pg (np - k) k (T ((m : Int) - (0 : Nat) + ((k : Int) - k)) n)
      rw [Int.sub_self, Int.add_zero]
    · show n + 1 ≤ (n + 1) * 10 ^ 0
      rw [Int.pow_zero, Int.mul_one]; exact Int.le_refl _
  | succ f ih =>
    intro n k hk hf hn
    by_cases h : 48 ≤ Lt pg np k ∧ Lt pg np k ≤ 57
    · have hlt : k < np := by
        by_cases q : k < np
        · exact q
        · have : Lt pg np k = 0 := by unfold Lt; rw [if_neg q]
          omega
      have eL : Lt pg np k = pg k := by unfold Lt; rw [if_pos hlt]
      obtain ⟨⟨a1, a2, a3⟩, b, c, e, g⟩ := ih (10 * n + Lt pg np k - 48) (k + 1) (by omega) (by omega) (by omega)
      rw [rnn_t h]
      refine ⟨⟨by omega, a2, by omega⟩, ?_, ?_, by omega, ?_⟩
      · have hg := hT ((m : Int) - (f + 1 : Nat)) n (pg k) (by omega) (by omega) (by rw [← eL]; exact h)
        rw [show np - k = (np - (k + 1)) + 1 by omega, mgo_t (by rw [hg]), hg, ← eL]
        have e1 : (m : Int) - ((f + 1 : Nat) : Int) + 1 = (m : Int) - f := by omega
        rw [e1, b]
        congr 2
        omega
      · rcases c with c | c
        · exact Or.inl (by omega)
        · exact Or.inr c
      · refine Int.le_trans g ?_
        have e2 : (n + 1) * 10 ^ (f + 1) = (10 * n + 10) * 10 ^ f := by rw [Int.pow_succ]; grind
        rw [e2]
        exact Int.mul_le_mul_of_nonneg_right (by omega) (Int.pow_nonneg (by decide))
    · rw [rnn_f h]
      refine ⟨⟨Nat.le_refl k, hk, by omega⟩, ?_, Or.inr h, Int.le_refl n, ?_⟩
      · show mgo pg (np - k) k (T ((m : Int) - (f + 1 : Nat)) n) = mgo pg (np - k) k (T ((m : Int) - (f + 1 : Nat) + ((k : Int) - k)) n)
        rw [Int.sub_self, Int.add_zero]
      · show n + 1 ≤ (n + 1) * 10 ^ (f + 1)
        have : (n + 1) * 1 ≤ (n + 1) * 10 ^ (f + 1) := Int.mul_le_mul_of_nonneg_left (by
          have := Int.pow_pos (n := (10 : Int)) (m := f + 1) (by decide)
          omega) (by omega)
        omega
theorem num_run {pg : Nat → Int} {np m : Nat} {T : Int → Int → Mst} {S : Mst} {lo : Int} (hm : 1 ≤ m) (hlo : 48 ≤ lo) (hS : ∀ c, lo ≤ c ∧ c ≤ 57 → gs S c = (true, T 1 (c - 48))) (hT : ∀ dg nm c, 1 ≤ dg → dg < (m : Int) → 48 ≤ c ∧ c ≤ 57 → gs (T dg nm) c = (true, T (dg + 1) (10 * nm + c - 48))) {k : Nat} (hk : k ≤ np) :
    (rdN (Lt pg np) m lo k = (-1, k) ∧ ¬ (lo ≤ Lt pg np k ∧ Lt pg np k ≤ 57)) ∨ ∃ v k', rdN (Lt pg np) m lo k = (v, k') ∧ k < k' ∧ k' ≤ np ∧ k' ≤ k + m ∧ lo - 48 ≤ v ∧ v + 1 ≤ 10 ^ m ∧ mgo pg (np - k) k S = mgo pg (np - k') k' (T ((k' : Int) - k) v) ∧ (k' = k + m ∨ ¬ (48 ≤ Lt pg np k' ∧ Lt pg np k' ≤ 57)) := by
  unfold rdN
  by_cases h : lo ≤ Lt pg np k ∧ Lt pg np k ≤ 57
  · right
    rw [if_pos h]
    have hlt : k < np := by
      by_cases q : k < np
      · exact q
      · have : Lt pg np k = 0 := by unfold Lt; rw [if_neg q]
        omega
    have eL : Lt pg np k = pg k := by unfold Lt; rw [if_pos hlt]
    obtain ⟨⟨a1, a2, a3⟩, b, c, e, g⟩ := dig_run (pg := pg) (np := np) hT (m - 1) (Lt pg np k - 48) (k + 1) (by omega) (by omega) (by omega)
    refine ⟨(rnn (Lt pg np) (m - 1) (Lt pg np k - 48) (k + 1)).1, (rnn (Lt pg np) (m - 1) (Lt pg np k - 48) (k + 1)).2, rfl, by omega, a2, by omega, by omega, ?_, ?_, ?_⟩
    · refine Int.le_trans g ?_
      have e2 : (10 : Int) ^ m = 10 * 10 ^ (m - 1) := by
        conv => lhs; rw [show m = (m - 1) + 1 by omega, Int.pow_succ]
        rw [Int.mul_comm]
      rw [e2]
      exact Int.mul_le_mul_of_nonneg_right (by omega) (Int.pow_nonneg (by decide))
    · have hg := hS (pg k) (by rw [← eL]; exact h)
      rw [show np - k = (np - (k + 1)) + 1 by omega, mgo_t (by rw [hg]), hg, ← eL]
      have e1 : (m : Int) - ((m - 1 : Nat) : Int) = 1 := by omega
      rw [e1] at b
      show mgo pg (np - (k + 1)) (k + 1) (T 1 (Lt pg np k - 48)) = _
      rw [b]
      congr 2
      omega
    · rcases c with c | c
      · exact Or.inl (by omega)
      · exact Or.inr c
  · left
    rw [if_neg h]
    exact ⟨rfl, h⟩
def P42 (o k : Nat) : Prop := o = 4 ∧ k = 2
def PgAt (d : Dd) (pg : Nat → Int) (np : Nat) : Prop := d_i d 4 1 = J (np : Int) ∧ ∀ k, k < np → d_i d 5 k = J (pg k)
theorem PgAt.fr {P : Nat → Nat → Prop} {d d1 : Dd} {pg : Nat → Int} {np : Nat} (h : PgAt d pg np) (f : Fr P d d1) (hP : ¬ P 4 1 ∧ ∀ k, ¬ P 5 k) : PgAt d1 pg np :=
  ⟨(f.gi hP.1).trans h.1, fun k hk => (f.gi (hP.2 k)).trans (h.2 k hk)⟩
theorem PgAt.f42 {d d1 : Dd} {pg : Nat → Int} {np : Nat} (h : PgAt d pg np) (f : Fr P42 d d1) : PgAt d1 pg np := h.fr f ⟨by unfold P42; omega, fun k => by unfold P42; omega⟩
theorem here_val {ρ : Rh} {d : Dd} {pg : Nat → Int} {np k : Nat} (h : PgAt d pg np) (hnp : np ≤ 60) (hk : k ≤ np) (h42 : d_i d 4 2 = J (k : Int)) : fX7_letterHere ρ d = some (J (Lt pg np k)) := by
  have c0 : ¬ J (k : Int) < 0 := by rw [j0, J_lt (by omega) (by omega)]; omega
  have c1 : J (np : Int) ≤ J (k : Int) ↔ np ≤ k := by rw [J_le (by omega) (by omega)]; omega
  unfold fX7_letterHere Lt
  rw [h42, h.1, if_neg c0]
  by_cases q : k < np
  · have c2 : ¬ (60 : Int32) ≤ J (k : Int) := by rw [j60, J_le (by omega) (by omega)]; omega
    have hin : inB (J (k : Int)) 60 = true := by rw [inB_J (by omega)]; omega
    have hix : ix (J (k : Int)) = k := by rw [ix_J (by omega), Int.toNat_natCast]
    rw [if_neg (fun z => by have := c1.mp z; omega), if_neg c2, if_pos hin, hix, h.2 k q, if_pos q]
  · rw [if_pos (c1.mpr (by omega)), if_neg q]; rfl
theorem Lt_bd {pg : Nat → Int} {np : Nat} (hpg : ∀ k, k < np → 1 ≤ pg k ∧ pg k ≤ 126) (k : Nat) : 0 ≤ Lt pg np k ∧ Lt pg np k ≤ 126 := by
  unfold Lt
  by_cases q : k < np
  · rw [if_pos q]; have := hpg k q; omega
  · rw [if_neg q]; omega
theorem reads_val {ρ : Rh} {d : Dd} {pg : Nat → Int} {np k : Nat} (h : PgAt d pg np) (hnp : np ≤ 60) (hpg : ∀ k, k < np → 1 ≤ pg k ∧ pg k ≤ 126) (hk : k ≤ np) (h42 : d_i d 4 2 = J (k : Int)) {x : Int} (hx : 1 ≤ x ∧ x ≤ 126) :
    (Lt pg np k = x ∧ k < np ∧ pg k = x ∧ ∃ d', fX7_reads ρ d (J x) = some (true, d') ∧ Fr P42 d d' ∧ d_i d' 4 2 = J ((k + 1 : Nat) : Int)) ∨ (¬ Lt pg np k = x ∧ (k < np → ¬ pg k = x) ∧ ∃ d', fX7_reads ρ d (J x) = some (false, d') ∧ Fr P42 d d' ∧ d_i d' 4 2 = J (k : Int)) := by
  have hb := Lt_bd hpg k
  have c : J (Lt pg np k) = J x ↔ Lt pg np k = x := J_eq (by omega) (by omega)
  unfold fX7_reads
  rw [here_val h hnp hk h42, Option.bind_some]
  by_cases q : Lt pg np k = x
  · have hlt : k < np := by
      by_cases w : k < np
      · exact w
      · have : Lt pg np k = 0 := by unfold Lt; rw [if_neg w]
        omega
    have eL : Lt pg np k = pg k := by unfold Lt; rw [if_pos hlt]
    refine Or.inl ⟨q, hlt, by omega, dI d 4 2 (J ((k + 1 : Nat) : Int)), ?_, Fr.rf.i ⟨rfl, rfl⟩, dI_s⟩
    simp only [jn_eq, bnd_eq]
    rw [if_pos (c.mpr q), if_pos trivial, h42, b2i_J, J_add]; rfl
  · refine Or.inr ⟨q, fun w => ?_, dI d 4 2 (J (k : Int)), ?_, Fr.rf.i ⟨rfl, rfl⟩, dI_s⟩
    · have eL : Lt pg np k = pg k := by unfold Lt; rw [if_pos w]
      omega
    · simp only [jn_eq, bnd_eq]
      have e : J (k : Int) + b2i false = J (k : Int) := by rw [b2i_J, J_add]; congr 1
      rw [if_neg (fun z => q (c.mp z)), if_neg Bool.false_ne_true, h42, e]
theorem readN_val {ρ : Rh} {d : Dd} {pg : Nat → Int} {np k : Nat} (h : PgAt d pg np) (hnp : np ≤ 60) (hpg : ∀ k, k < np → 1 ≤ pg k ∧ pg k ≤ 126) (hk : k ≤ np) (h42 : d_i d 4 2 = J (k : Int)) {m : Nat} (hm : 1 ≤ m ∧ m ≤ 3) {lo : Int} (hlo : 48 ≤ lo ∧ lo ≤ 49) :
    ∃ d', fX7_readNumber ρ d (J (m : Int)) (J lo) = some (J (rdN (Lt pg np) m lo k).1, d') ∧ Fr P42 d d' ∧ d_i d' 4 2 = J ((rdN (Lt pg np) m lo k).2 : Int) := by
  unfold fX7_readNumber
  obtain ⟨R, hR⟩ : ∃ R, R = rdN (Lt pg np) m lo k := ⟨_, rfl⟩
  rw [← hR]
  refine lp_e m (fun i s => ∃ (n : Int) (k' : Nat) (d' : Dd), s = (J n, J (i : Int), d') ∧ k' ≤ np ∧ Fr P42 d d' ∧ d_i d' 4 2 = J (k' : Int) ∧ ((i = 0 ∧ n = -1 ∧ k' = k) ∨ (1 ≤ i ∧ rnn (Lt pg np) (m - i) n k' = R))) (fun o => ∃ d', o = some (J R.1, d') ∧ Fr P42 d d' ∧ d_i d' 4 2 = J (R.2 : Int)) ?_ ?_ 6000 (by omega) _ ⟨-1, k, d, rfl, hk, Fr.rf, h42, Or.inl ⟨rfl, rfl, rfl⟩⟩
  · rintro i hi s ⟨n, k', d', rfl, hk', f, e42, hc⟩ self
    have c0 : ¬ J (m : Int) ≤ J (i : Int) := by rw [J_le (by omega) (by omega)]; omega
    have hb := Lt_bd hpg k'
    have ci : J (i : Int) = 0 ↔ i = 0 := by rw [j0, J_eq (by omega) (by omega)]; omega
    have cl : ∀ x : Int, 0 ≤ x ∧ x ≤ 200 → (J (Lt pg np k') < J x ↔ Lt pg np k' < x) := fun x hx => J_lt (by omega) (by omega)
    have c57 : J (Lt pg np k') ≤ 57 ↔ Lt pg np k' ≤ 57 := by rw [show (57 : Int32) = J 57 from rfl]; exact J_le (by omega) (by omega)
    simp only [c0, if_false, here_val (h.f42 f) hnp hk' e42, Option.bind_some, jn_eq, bnd_eq]
    have e1 : (J (i : Int) + 1) = J ((i + 1 : Nat) : Int) := by rw [j1, J_add]; rfl
    have e2 : d_i d' 4 2 + 1 = J ((k' + 1 : Nat) : Int) := by rw [e42, j1, J_add]; rfl
    rw [e1, e2]
    have hlt : 48 ≤ Lt pg np k' → k' < np := fun z => by
      by_cases w : k' < np
      · exact w
      · have : Lt pg np k' = 0 := by unfold Lt; rw [if_neg w]
        omega
    have f' : Fr P42 d (dI d' 4 2 (J ((k' + 1 : Nat) : Int))) := f.i ⟨rfl, rfl⟩
    rcases hc with ⟨rfl, rfl, rfl⟩ | ⟨h1, hr⟩
    · rw [if_pos (ci.mpr rfl), if_pos (ci.mpr rfl)]
      by_cases q : lo ≤ Lt pg np k' ∧ Lt pg np k' ≤ 57
      · left
        rw [if_neg (fun z => by have := (cl lo (by omega)).mp z; omega), if_pos (c57.mpr q.2)]
        refine ⟨_, ⟨Lt pg np k' - 48, k' + 1, _, rfl, by have := hlt (by omega); omega, f', dI_s, Or.inr ⟨by omega, ?_⟩⟩, ?_⟩
        · rw [hR]; unfold rdN; rw [if_pos q]
        · rw [j0, J_add, j48, J_sub, Int.zero_add]
      · right
        have eR : R = (-1, k') := by rw [hR]; unfold rdN; rw [if_neg q]
        rw [eR]
        by_cases w : Lt pg np k' < lo
        · rw [if_pos ((cl lo (by omega)).mpr w)]
          exact ⟨d', rfl, f, e42⟩
        · rw [if_neg (fun z => w ((cl lo (by omega)).mp z)), if_neg (fun z => by have := c57.mp z; omega)]
          exact ⟨d', rfl, f, e42⟩
    · have ni : ¬ i = 0 := by omega
      rw [if_neg (fun z => ni (ci.mp z)), if_neg (fun z => ni (ci.mp z))]
      have c48 : J (Lt pg np k') < 48 ↔ Lt pg np k' < 48 := cl 48 (by omega)
      rw [show m - i = (m - (i + 1)) + 1 by omega] at hr
      by_cases q : 48 ≤ Lt pg np k' ∧ Lt pg np k' ≤ 57
      · left
        rw [rnn_t q] at hr
        rw [if_neg (fun z => by have := c48.mp z; omega), if_pos (c57.mpr q.2)]
        refine ⟨_, ⟨10 * n + Lt pg np k' - 48, k' + 1, _, rfl, by have := hlt (by omega); omega, f', dI_s, Or.inr ⟨by omega, hr⟩⟩, ?_⟩
        rw [j10, J_mul, J_add, j48, J_sub, Int.mul_comm n 10]
      · right
        rw [rnn_f q] at hr
        rw [← hr]
        by_cases w : Lt pg np k' < 48
        · rw [if_pos (c48.mpr w)]
          exact ⟨d', rfl, f, e42⟩
        · rw [if_neg (fun z => w (c48.mp z)), if_neg (fun z => by have := c57.mp z; omega)]
          exact ⟨d', rfl, f, e42⟩
  · rintro s ⟨n, k', d', rfl, hk', f, e42, hc⟩ self
    have c0 : J (m : Int) ≤ J (m : Int) := by rw [J_le (by omega) (by omega)]; omega
    have hr : rnn (Lt pg np) (m - m) n k' = R := by
      rcases hc with ⟨h1, -⟩ | ⟨-, h2⟩
      · omega
      · exact h2
    rw [Nat.sub_self] at hr
    have hr' : (n, k') = R := hr
    simp only [c0, if_true]
    rw [← hr']
    exact ⟨d', rfl, f, e42⟩
