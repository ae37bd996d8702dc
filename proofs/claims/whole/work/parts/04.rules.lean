def jrem (x y : Int32) : Int32 := x - x / y * y
def jlrem (x y : Int64) : Int64 := x - x / y * y
def jshl (x y : Int32) : Int32 := x <<< (y &&& 31)
def jshr (x y : Int32) : Int32 := x >>> (y &&& 31)
def jlushr (x : Int64) (y : Int32) : Int64 := (x.toUInt64 >>> (y.toInt64.toUInt64 &&& Int64.toUInt64 63)).toInt64
def jlshl (x : Int64) (y : Int32) : Int64 := x <<< (y.toInt64 &&& 63)
def b2i (b : Bool) : Int32 := if b = true then 1 else 0
theorem b2i_ne {b : Bool} : b2i b = 0 ↔ ¬ b = true := by cases b <;> simp [b2i]
/-- a value that is named -/
def bnd {α β : Type} (v : α) (k : α → β) : β := k v
/-- a join: what goes on behind, and how it is come to -/
def jn {σ γ : Type} (k : σ → γ) (f : (σ → γ) → γ) : γ := f k
/-- a loop with fuel -/
def lp {σ γ : Type} (f : (σ → Option γ) → σ → Option γ) : Nat → σ → Option γ
  | 0, _ => none
  | n + 1, s => f (lp f n) s
def inB (i : Int32) (n : Nat) : Bool := decide (0 ≤ i.toInt) && decide (i.toInt < n)
theorem inB_vp {i : Int32} {n : Nat} (h : inB i n = true) : vp_in i n := by
  simp only [inB, Bool.and_eq_true, decide_eq_true_eq] at h
  exact vp_in_iff.mpr h
def ix (i : Int32) : Nat := i.toNatClampNeg
theorem lc_eq (x y : Int64) : lg_cmp x y = 0 ↔ x = y := by
  unfold lg_cmp
  by_cases h : y < x
  · simp only [gt_iff_lt, h, if_pos]
    exact ⟨fun q => absurd q (by decide), fun q => by subst q; exact absurd h (by simp [Int64.lt_iff_toInt_lt])⟩
  · simp only [gt_iff_lt, h, if_neg, not_false_eq_true]
    by_cases h2 : x = y
    · simp [h2]
    · simp [h2]
theorem lc_cases (x y : Int64) : (x < y ∧ lg_cmp x y = -1) ∨ (x = y ∧ lg_cmp x y = 0) ∨ (y < x ∧ lg_cmp x y = 1) := by
  unfold lg_cmp
  by_cases h : y < x
  · exact Or.inr (Or.inr ⟨h, by simp [h]⟩)
  · by_cases h2 : x = y
    · exact Or.inr (Or.inl ⟨h2, by simp [h2, Int64.lt_iff_toInt_lt]⟩)
    · refine Or.inl ⟨?_, by simp [h, h2]⟩
      rw [Int64.lt_iff_toInt_lt] at h ⊢
      rw [← Int64.toInt_inj] at h2
      omega
theorem lc_lt (x y : Int64) : lg_cmp x y < 0 ↔ x < y := by
  rcases lc_cases x y with ⟨a, b⟩ | ⟨a, b⟩ | ⟨a, b⟩ <;> rw [b] <;> rw [Int64.lt_iff_toInt_lt] at * <;> first | exact ⟨fun _ => a, fun _ => by decide⟩ | (subst a; exact ⟨fun q => absurd q (by decide), fun q => by omega⟩) | exact ⟨fun q => absurd q (by decide), fun q => by omega⟩
theorem lc_gt (x y : Int64) : 0 < lg_cmp x y ↔ y < x := by
  rcases lc_cases x y with ⟨a, b⟩ | ⟨a, b⟩ | ⟨a, b⟩ <;> rw [b] <;> rw [Int64.lt_iff_toInt_lt] at * <;> first | exact ⟨fun _ => a, fun _ => by decide⟩ | (subst a; exact ⟨fun q => absurd q (by decide), fun q => by omega⟩) | exact ⟨fun q => absurd q (by decide), fun q => by omega⟩
theorem lc_le (x y : Int64) : lg_cmp x y ≤ 0 ↔ x ≤ y := by
  rcases lc_cases x y with ⟨a, b⟩ | ⟨a, b⟩ | ⟨a, b⟩ <;> rw [b] <;> simp only [Int64.lt_iff_toInt_lt, Int64.le_iff_toInt_le] at * <;> first | exact ⟨fun _ => by omega, fun _ => by decide⟩ | (subst a; exact ⟨fun q => by omega, fun q => by decide⟩) | exact ⟨fun q => absurd q (by decide), fun q => by omega⟩
theorem lc_ge (x y : Int64) : 0 ≤ lg_cmp x y ↔ y ≤ x := by
  rcases lc_cases x y with ⟨a, b⟩ | ⟨a, b⟩ | ⟨a, b⟩ <;> rw [b] <;> simp only [Int64.lt_iff_toInt_lt, Int64.le_iff_toInt_le] at * <;> first | exact ⟨fun q => absurd q (by decide), fun q => by omega⟩ | (subst a; exact ⟨fun q => by omega, fun q => by decide⟩) | exact ⟨fun _ => by omega, fun _ => by decide⟩
section WWr
variable {α : Type} {g : Gx} {M : Mx} {emb : α → Option Value × HP} {pc : Nat} {L : List (Nat × Value)} {st : List Value} {h : HP} {kc ks : Nat} {res : Option α}
-- the stack
theorem WW.dup {v : Value} (hv : v.category = 1) (hd : decode (m_cc M) pc = .ok (.dup, 1)) (k : WW g M emb (pc + 1) L (v :: v :: st) h kc ks res) : WW g M emb pc L (v :: st) h kc ks res :=
  WW.gen (fun _ _ _ _ _ _ _ _ _ _ _ X _ _ ls hl k => lv_dup X.1.1 X.1.2.1 hd (by rw [cv_cat]; exact hv) (k ls hl)) k
theorem WW.pop {v : Value} (hv : v.category = 1) (hd : decode (m_cc M) pc = .ok (.pop, 1)) (k : WW g M emb (pc + 1) L st h kc ks res) : WW g M emb pc L (v :: st) h kc ks res :=
  WW.gen (fun _ _ _ _ _ _ _ _ _ _ _ X _ _ ls hl k => lv_pop X.1.1 X.1.2.1 hd (by rw [cv_cat]; exact hv) (k ls hl)) k
theorem WW.pop2 {v : Value} (hv : v.category = 2) (hd : decode (m_cc M) pc = .ok (.pop2, 1)) (k : WW g M emb (pc + 1) L st h kc ks res) : WW g M emb pc L (v :: st) h kc ks res :=
  WW.gen (fun _ _ _ _ _ _ _ _ _ _ _ X _ _ ls hl k => lv_pop2_2 X.1.1 X.1.2.1 hd (by rw [cv_cat]; exact hv) (k ls hl)) k
theorem WW.dup_x1 {v w : Value} (hv : v.category = 1) (hw : w.category = 1) (hd : decode (m_cc M) pc = .ok (.dup_x1, 1)) (k : WW g M emb (pc + 1) L (v :: w :: v :: st) h kc ks res) : WW g M emb pc L (v :: w :: st) h kc ks res :=
  WW.gen (fun _ _ _ _ _ _ _ _ _ _ _ X _ _ ls hl k => lv_dup_x1 X.1.1 X.1.2.1 hd (by rw [cv_cat]; exact hv) (by rw [cv_cat]; exact hw) (k ls hl)) k
theorem WW.dup2 {v w : Value} (hv : v.category = 1) (hw : w.category = 1) (hd : decode (m_cc M) pc = .ok (.dup2, 1)) (k : WW g M emb (pc + 1) L (v :: w :: v :: w :: st) h kc ks res) : WW g M emb pc L (v :: w :: st) h kc ks res :=
  WW.gen (fun _ _ _ _ _ _ _ _ _ _ _ X _ _ ls hl k => lv_dup2_11 X.1.1 X.1.2.1 hd (by rw [cv_cat]; exact hv) (by rw [cv_cat]; exact hw) (k ls hl)) k
-- arithmetic
theorem WW.iadd {x y : Int32} (hd : decode (m_cc M) pc = .ok (.iadd, 1)) (k : WW g M emb (pc + 1) L (.int (x + y) :: st) h kc ks res) : WW g M emb pc L (.int y :: .int x :: st) h kc ks res :=
  WW.gen (fun _ _ _ _ _ _ _ _ _ _ _ X _ _ ls hl k => lv_iadd X.1.1 X.1.2.1 hd (k ls hl)) k
theorem WW.isub {x y : Int32} (hd : decode (m_cc M) pc = .ok (.isub, 1)) (k : WW g M emb (pc + 1) L (.int (x - y) :: st) h kc ks res) : WW g M emb pc L (.int y :: .int x :: st) h kc ks res :=
  WW.gen (fun _ _ _ _ _ _ _ _ _ _ _ X _ _ ls hl k => lv_isub X.1.1 X.1.2.1 hd (k ls hl)) k
theorem WW.imul {x y : Int32} (hd : decode (m_cc M) pc = .ok (.imul, 1)) (k : WW g M emb (pc + 1) L (.int (x * y) :: st) h kc ks res) : WW g M emb pc L (.int y :: .int x :: st) h kc ks res :=
  WW.gen (fun _ _ _ _ _ _ _ _ _ _ _ X _ _ ls hl k => lv_imul X.1.1 X.1.2.1 hd (k ls hl)) k
theorem WW.iand {x y : Int32} (hd : decode (m_cc M) pc = .ok (.iand, 1)) (k : WW g M emb (pc + 1) L (.int (x &&& y) :: st) h kc ks res) : WW g M emb pc L (.int y :: .int x :: st) h kc ks res :=
  WW.gen (fun _ _ _ _ _ _ _ _ _ _ _ X _ _ ls hl k => lv_iand X.1.1 X.1.2.1 hd (k ls hl)) k
theorem WW.ior {x y : Int32} (hd : decode (m_cc M) pc = .ok (.ior, 1)) (k : WW g M emb (pc + 1) L (.int (x ||| y) :: st) h kc ks res) : WW g M emb pc L (.int y :: .int x :: st) h kc ks res :=
  WW.gen (fun _ _ _ _ _ _ _ _ _ _ _ X _ _ ls hl k => lv_ior X.1.1 X.1.2.1 hd (k ls hl)) k
theorem WW.ishl {x y : Int32} (hd : decode (m_cc M) pc = .ok (.ishl, 1)) (k : WW g M emb (pc + 1) L (.int (jshl x y) :: st) h kc ks res) : WW g M emb pc L (.int y :: .int x :: st) h kc ks res :=
  WW.gen (fun _ _ _ _ _ _ _ _ _ _ _ X _ _ ls hl k => lv_ishl X.1.1 X.1.2.1 hd (k ls hl)) k
theorem WW.ishr {x y : Int32} (hd : decode (m_cc M) pc = .ok (.ishr, 1)) (k : WW g M emb (pc + 1) L (.int (jshr x y) :: st) h kc ks res) : WW g M emb pc L (.int y :: .int x :: st) h kc ks res :=
  WW.gen (fun _ _ _ _ _ _ _ _ _ _ _ X _ _ ls hl k => lv_ishr X.1.1 X.1.2.1 hd (k ls hl)) k
theorem WW.idiv {x y : Int32} (hy : ¬ y = 0) (hd : decode (m_cc M) pc = .ok (.idiv, 1)) (k : WW g M emb (pc + 1) L (.int (x / y) :: st) h kc ks res) : WW g M emb pc L (.int y :: .int x :: st) h kc ks res :=
  WW.gen (fun _ _ _ _ _ _ _ _ _ _ _ X _ _ ls hl k => lv_idiv X.1.1 X.1.2.1 hd hy (k ls hl)) k
theorem WW.irem {x y : Int32} (hy : ¬ y = 0) (hd : decode (m_cc M) pc = .ok (.irem, 1)) (k : WW g M emb (pc + 1) L (.int (jrem x y) :: st) h kc ks res) : WW g M emb pc L (.int y :: .int x :: st) h kc ks res :=
  WW.gen (fun _ _ _ _ _ _ _ _ _ _ _ X _ _ ls hl k => lv_irem X.1.1 X.1.2.1 hd hy (k ls hl)) k
theorem WW.ladd {x y : Int64} (hd : decode (m_cc M) pc = .ok (.ladd, 1)) (k : WW g M emb (pc + 1) L (.long (x + y) :: st) h kc ks res) : WW g M emb pc L (.long y :: .long x :: st) h kc ks res :=
  WW.gen (fun _ _ _ _ _ _ _ _ _ _ _ X _ _ ls hl k => lv_ladd X.1.1 X.1.2.1 hd (k ls hl)) k
theorem WW.lsub {x y : Int64} (hd : decode (m_cc M) pc = .ok (.lsub, 1)) (k : WW g M emb (pc + 1) L (.long (x - y) :: st) h kc ks res) : WW g M emb pc L (.long y :: .long x :: st) h kc ks res :=
  WW.gen (fun _ _ _ _ _ _ _ _ _ _ _ X _ _ ls hl k => lv_lsub X.1.1 X.1.2.1 hd (k ls hl)) k
theorem WW.lmul {x y : Int64} (hd : decode (m_cc M) pc = .ok (.lmul, 1)) (k : WW g M emb (pc + 1) L (.long (x * y) :: st) h kc ks res) : WW g M emb pc L (.long y :: .long x :: st) h kc ks res :=
  WW.gen (fun _ _ _ _ _ _ _ _ _ _ _ X _ _ ls hl k => lv_lmul X.1.1 X.1.2.1 hd (k ls hl)) k
theorem WW.land {x y : Int64} (hd : decode (m_cc M) pc = .ok (.land, 1)) (k : WW g M emb (pc + 1) L (.long (x &&& y) :: st) h kc ks res) : WW g M emb pc L (.long y :: .long x :: st) h kc ks res :=
  WW.gen (fun _ _ _ _ _ _ _ _ _ _ _ X _ _ ls hl k => lv_land X.1.1 X.1.2.1 hd (k ls hl)) k
theorem WW.lor {x y : Int64} (hd : decode (m_cc M) pc = .ok (.lor, 1)) (k : WW g M emb (pc + 1) L (.long (x ||| y) :: st) h kc ks res) : WW g M emb pc L (.long y :: .long x :: st) h kc ks res :=
  WW.gen (fun _ _ _ _ _ _ _ _ _ _ _ X _ _ ls hl k => lv_lor X.1.1 X.1.2.1 hd (k ls hl)) k
theorem WW.ldiv {x y : Int64} (hy : ¬ y = 0) (hd : decode (m_cc M) pc = .ok (.ldiv, 1)) (k : WW g M emb (pc + 1) L (.long (x / y) :: st) h kc ks res) : WW g M emb pc L (.long y :: .long x :: st) h kc ks res :=
  WW.gen (fun _ _ _ _ _ _ _ _ _ _ _ X _ _ ls hl k => lv_ldiv X.1.1 X.1.2.1 hd hy (k ls hl)) k
theorem WW.lrem {x y : Int64} (hy : ¬ y = 0) (hd : decode (m_cc M) pc = .ok (.lrem, 1)) (k : WW g M emb (pc + 1) L (.long (jlrem x y) :: st) h kc ks res) : WW g M emb pc L (.long y :: .long x :: st) h kc ks res :=
  WW.gen (fun _ _ _ _ _ _ _ _ _ _ _ X _ _ ls hl k => lv_lrem X.1.1 X.1.2.1 hd hy (k ls hl)) k
theorem WW.ineg {x : Int32} (hd : decode (m_cc M) pc = .ok (.ineg, 1)) (k : WW g M emb (pc + 1) L (.int (-x) :: st) h kc ks res) : WW g M emb pc L (.int x :: st) h kc ks res :=
  WW.gen (fun _ _ _ _ _ _ _ _ _ _ _ X _ _ ls hl k => lv_ineg X.1.1 X.1.2.1 hd (by have h0 : (0 : Int32) - x = -x := (by first | exact Int32.zero_sub x | simp); have k2 := k ls hl; simp only [List.map_cons] at k2; first | exact k2 | (rw [h0]; exact k2) | (rw [← h0] at k2; exact k2))) k
theorem WW.lneg {x : Int64} (hd : decode (m_cc M) pc = .ok (.lneg, 1)) (k : WW g M emb (pc + 1) L (.long (-x) :: st) h kc ks res) : WW g M emb pc L (.long x :: st) h kc ks res :=
  WW.gen (fun _ _ _ _ _ _ _ _ _ _ _ X _ _ ls hl k => lv_lneg X.1.1 X.1.2.1 hd (by have h0 : (0 : Int64) - x = -x := (by first | exact Int64.zero_sub x | simp); have k2 := k ls hl; simp only [List.map_cons] at k2; first | exact k2 | (rw [h0]; exact k2) | (rw [← h0] at k2; exact k2))) k
theorem WW.i2l {x : Int32} (hd : decode (m_cc M) pc = .ok (.i2l, 1)) (k : WW g M emb (pc + 1) L (.long x.toInt64 :: st) h kc ks res) : WW g M emb pc L (.int x :: st) h kc ks res :=
  WW.gen (fun _ _ _ _ _ _ _ _ _ _ _ X _ _ ls hl k => lv_i2l X.1.1 X.1.2.1 hd rfl (k ls hl)) k
theorem WW.l2i {x : Int64} (hd : decode (m_cc M) pc = .ok (.l2i, 1)) (k : WW g M emb (pc + 1) L (.int x.toInt32 :: st) h kc ks res) : WW g M emb pc L (.long x :: st) h kc ks res :=
  WW.gen (fun _ _ _ _ _ _ _ _ _ _ _ X _ _ ls hl k => lv_l2i X.1.1 X.1.2.1 hd rfl (k ls hl)) k
theorem WW.lushr {x : Int64} {y : Int32} (hd : decode (m_cc M) pc = .ok (.lushr, 1)) (k : WW g M emb (pc + 1) L (.long (jlushr x y) :: st) h kc ks res) : WW g M emb pc L (.int y :: .long x :: st) h kc ks res :=
  WW.gen (fun _ _ _ _ _ _ _ _ _ _ _ X _ _ ls hl k => lv_lushr X.1.1 X.1.2.1 hd rfl (k ls hl)) k
theorem WW.lshl {x : Int64} {y : Int32} (hd : decode (m_cc M) pc = .ok (.lshl, 1)) (k : WW g M emb (pc + 1) L (.long (jlshl x y) :: st) h kc ks res) : WW g M emb pc L (.int y :: .long x :: st) h kc ks res :=
  WW.gen (fun _ _ _ _ _ _ _ _ _ _ _ X _ _ ls hl k => lv_lshl X.1.1 X.1.2.1 hd rfl (k ls hl)) k
-- branches
theorem WW.goto {off : Int} (tgt : Nat) (hd : decode (m_cc M) pc = .ok (.goto off, 3)) (ht : (pc : Int) + off = (tgt : Int)) (k : WW g M emb tgt L st h kc ks res) : WW g M emb pc L st h kc ks res :=
  WW.gen (fun _ _ _ _ _ _ _ _ _ _ _ X _ _ ls hl k => lv_goto X.1.1 X.1.2.1 hd ht (k ls hl)) k
/-- a branch: W at both ends gives W, for every condition -/
theorem WW.brn {c : Prop} [Decidable c] {pt pf : Nat} {st' : List Value} {r1 r2 : Option α}
    (hs : ∀ (p : Program) (l : Launch) (e : Env) (R : Room) (s : State) (m : MethodId) (args : Array Value) (below : List Frame) (meth : Method) (c0 : Code) (Q : State → Prop), CX g M p R s m args meth c0 → ∀ (H : Heap) (locs : List Loc) (ls : Array Slot),
      (c → W p l e R s m args below meth c0 H locs kc ks Q (F0 m pt ls (st'.map (cv g)))) → (¬ c → W p l e R s m args below meth c0 H locs kc ks Q (F0 m pf ls (st'.map (cv g)))) → W p l e R s m args below meth c0 H locs kc ks Q (F0 m pc ls (st.map (cv g))))
    (k1 : c → WW g M emb pt L st' h kc ks r1) (k2 : ¬ c → WW g M emb pf L st' h kc ks r2) : WW g M emb pc L st h kc ks (if c then r1 else r2) := by
  intro a ha p l e R s m args below meth c0 Q X hr H locs ls w hS hl
  refine hs p l e R s m args below meth c0 Q X H locs ls (fun hc => ?_) (fun hc => ?_)
  · rw [if_pos hc] at ha
    exact k1 hc a ha p l e R s m args below meth c0 Q X hr H locs ls w hS hl
  · rw [if_neg hc] at ha
    exact k2 hc a ha p l e R s m args below meth c0 Q X hr H locs ls w hS hl

theorem WW.if_eq {x : Int32} {off : Int} {r1 r2 : Option α} (tgt : Nat) (hd : decode (m_cc M) pc = .ok (.ifCond .eq off, 3)) (ht : (pc : Int) + off = (tgt : Int)) (k1 : x = 0 → WW g M emb tgt L st h kc ks r1) (k2 : ¬ x = 0 → WW g M emb (pc + 3) L st h kc ks r2) : WW g M emb pc L (.int x :: st) h kc ks (if x = 0 then r1 else r2) :=
  WW.brn (fun _ _ _ _ _ _ _ _ _ _ _ X _ _ _ kt kf => lv_if_eq X.1.1 X.1.2.1 hd ht kt kf) k1 k2
theorem WW.icmp_eq {x y : Int32} {off : Int} {r1 r2 : Option α} (tgt : Nat) (hd : decode (m_cc M) pc = .ok (.if_icmp .eq off, 3)) (ht : (pc : Int) + off = (tgt : Int)) (k1 : x = y → WW g M emb tgt L st h kc ks r1) (k2 : ¬ x = y → WW g M emb (pc + 3) L st h kc ks r2) : WW g M emb pc L (.int y :: .int x :: st) h kc ks (if x = y then r1 else r2) :=
  WW.brn (fun _ _ _ _ _ _ _ _ _ _ _ X _ _ _ kt kf => lv_icmp_eq X.1.1 X.1.2.1 hd ht kt kf) k1 k2
theorem WW.lcmp_eq {x y : Int64} {off : Int} {r1 r2 : Option α} (tgt : Nat) (hd0 : decode (m_cc M) pc = .ok (.lcmp, 1)) (hd : decode (m_cc M) (pc + 1) = .ok (.ifCond .eq off, 3)) (ht : ((pc + 1 : Nat) : Int) + off = (tgt : Int)) (k1 : x = y → WW g M emb tgt L st h kc ks r1) (k2 : ¬ x = y → WW g M emb (pc + 4) L st h kc ks r2) : WW g M emb pc L (.long y :: .long x :: st) h kc ks (if x = y then r1 else r2) :=
  WW.brn (fun _ _ _ _ _ _ _ _ _ _ _ X _ _ _ kt kf => W.lcmp X.1.1 X.1.2.1 hd0 (lv_if_eq X.1.1 X.1.2.1 hd ht (fun q => kt ((lc_eq x y).mp q)) (fun q => kf (fun z => q ((lc_eq x y).mpr z))))) k1 k2
theorem WW.if_ne {x : Int32} {off : Int} {r1 r2 : Option α} (tgt : Nat) (hd : decode (m_cc M) pc = .ok (.ifCond .ne off, 3)) (ht : (pc : Int) + off = (tgt : Int)) (k1 : x = 0 → WW g M emb (pc + 3) L st h kc ks r1) (k2 : ¬ x = 0 → WW g M emb tgt L st h kc ks r2) : WW g M emb pc L (.int x :: st) h kc ks (if x = 0 then r1 else r2) :=
  WW.brn (fun _ _ _ _ _ _ _ _ _ _ _ X _ _ _ kt kf => lv_if_ne X.1.1 X.1.2.1 hd ht kf kt) k1 k2
theorem WW.if_neB {b : Bool} {off : Int} {r1 r2 : Option α} (tgt : Nat) (hd : decode (m_cc M) pc = .ok (.ifCond .ne off, 3)) (ht : (pc : Int) + off = (tgt : Int)) (k1 : b = true → WW g M emb tgt L st h kc ks r1) (k2 : ¬ b = true → WW g M emb (pc + 3) L st h kc ks r2) : WW g M emb pc L (.int (b2i b) :: st) h kc ks (if b = true then r1 else r2) :=
  WW.brn (fun _ _ _ _ _ _ _ _ _ _ _ X _ _ _ kt kf => lv_if_ne X.1.1 X.1.2.1 hd ht (fun q => kt (Classical.not_not.mp (fun z => q (b2i_ne.mpr z)))) (fun q => kf (b2i_ne.mp q))) k1 k2
theorem WW.if_eqB {b : Bool} {off : Int} {r1 r2 : Option α} (tgt : Nat) (hd : decode (m_cc M) pc = .ok (.ifCond .eq off, 3)) (ht : (pc : Int) + off = (tgt : Int)) (k1 : b = true → WW g M emb (pc + 3) L st h kc ks r1) (k2 : ¬ b = true → WW g M emb tgt L st h kc ks r2) : WW g M emb pc L (.int (b2i b) :: st) h kc ks (if b = true then r1 else r2) :=
  WW.brn (fun _ _ _ _ _ _ _ _ _ _ _ X _ _ _ kt kf => lv_if_eq X.1.1 X.1.2.1 hd ht (fun q => kf (b2i_ne.mp q)) (fun q => kt (Classical.not_not.mp (fun z => q (b2i_ne.mpr z))))) k1 k2
theorem WW.icmp_ne {x y : Int32} {off : Int} {r1 r2 : Option α} (tgt : Nat) (hd : decode (m_cc M) pc = .ok (.if_icmp .ne off, 3)) (ht : (pc : Int) + off = (tgt : Int)) (k1 : x = y → WW g M emb (pc + 3) L st h kc ks r1) (k2 : ¬ x = y → WW g M emb tgt L st h kc ks r2) : WW g M emb pc L (.int y :: .int x :: st) h kc ks (if x = y then r1 else r2) :=
  WW.brn (fun _ _ _ _ _ _ _ _ _ _ _ X _ _ _ kt kf => lv_icmp_ne X.1.1 X.1.2.1 hd ht kf kt) k1 k2
theorem WW.lcmp_ne {x y : Int64} {off : Int} {r1 r2 : Option α} (tgt : Nat) (hd0 : decode (m_cc M) pc = .ok (.lcmp, 1)) (hd : decode (m_cc M) (pc + 1) = .ok (.ifCond .ne off, 3)) (ht : ((pc + 1 : Nat) : Int) + off = (tgt : Int)) (k1 : x = y → WW g M emb (pc + 4) L st h kc ks r1) (k2 : ¬ x = y → WW g M emb tgt L st h kc ks r2) : WW g M emb pc L (.long y :: .long x :: st) h kc ks (if x = y then r1 else r2) :=
  WW.brn (fun _ _ _ _ _ _ _ _ _ _ _ X _ _ _ kt kf => W.lcmp X.1.1 X.1.2.1 hd0 (lv_if_ne X.1.1 X.1.2.1 hd ht (fun q => kf (fun z => q ((lc_eq x y).mpr z))) (fun q => kt ((lc_eq x y).mp q)))) k1 k2
theorem WW.if_lt {x : Int32} {off : Int} {r1 r2 : Option α} (tgt : Nat) (hd : decode (m_cc M) pc = .ok (.ifCond .lt off, 3)) (ht : (pc : Int) + off = (tgt : Int)) (k1 : x < 0 → WW g M emb tgt L st h kc ks r1) (k2 : ¬ x < 0 → WW g M emb (pc + 3) L st h kc ks r2) : WW g M emb pc L (.int x :: st) h kc ks (if x < 0 then r1 else r2) :=
  WW.brn (fun _ _ _ _ _ _ _ _ _ _ _ X _ _ _ kt kf => lv_if_lt X.1.1 X.1.2.1 hd ht kt kf) k1 k2
theorem WW.icmp_lt {x y : Int32} {off : Int} {r1 r2 : Option α} (tgt : Nat) (hd : decode (m_cc M) pc = .ok (.if_icmp .lt off, 3)) (ht : (pc : Int) + off = (tgt : Int)) (k1 : x < y → WW g M emb tgt L st h kc ks r1) (k2 : ¬ x < y → WW g M emb (pc + 3) L st h kc ks r2) : WW g M emb pc L (.int y :: .int x :: st) h kc ks (if x < y then r1 else r2) :=
  WW.brn (fun _ _ _ _ _ _ _ _ _ _ _ X _ _ _ kt kf => lv_icmp_lt X.1.1 X.1.2.1 hd ht kt kf) k1 k2
theorem WW.lcmp_lt {x y : Int64} {off : Int} {r1 r2 : Option α} (tgt : Nat) (hd0 : decode (m_cc M) pc = .ok (.lcmp, 1)) (hd : decode (m_cc M) (pc + 1) = .ok (.ifCond .lt off, 3)) (ht : ((pc + 1 : Nat) : Int) + off = (tgt : Int)) (k1 : x < y → WW g M emb tgt L st h kc ks r1) (k2 : ¬ x < y → WW g M emb (pc + 4) L st h kc ks r2) : WW g M emb pc L (.long y :: .long x :: st) h kc ks (if x < y then r1 else r2) :=
  WW.brn (fun _ _ _ _ _ _ _ _ _ _ _ X _ _ _ kt kf => W.lcmp X.1.1 X.1.2.1 hd0 (lv_if_lt X.1.1 X.1.2.1 hd ht (fun q => kt ((lc_lt x y).mp q)) (fun q => kf (fun z => q ((lc_lt x y).mpr z))))) k1 k2
theorem WW.if_ge {x : Int32} {off : Int} {r1 r2 : Option α} (tgt : Nat) (hd : decode (m_cc M) pc = .ok (.ifCond .ge off, 3)) (ht : (pc : Int) + off = (tgt : Int)) (k1 : 0 ≤ x → WW g M emb tgt L st h kc ks r1) (k2 : ¬ 0 ≤ x → WW g M emb (pc + 3) L st h kc ks r2) : WW g M emb pc L (.int x :: st) h kc ks (if 0 ≤ x then r1 else r2) :=
  WW.brn (fun _ _ _ _ _ _ _ _ _ _ _ X _ _ _ kt kf => lv_if_ge X.1.1 X.1.2.1 hd ht kt kf) k1 k2
theorem WW.icmp_ge {x y : Int32} {off : Int} {r1 r2 : Option α} (tgt : Nat) (hd : decode (m_cc M) pc = .ok (.if_icmp .ge off, 3)) (ht : (pc : Int) + off = (tgt : Int)) (k1 : y ≤ x → WW g M emb tgt L st h kc ks r1) (k2 : ¬ y ≤ x → WW g M emb (pc + 3) L st h kc ks r2) : WW g M emb pc L (.int y :: .int x :: st) h kc ks (if y ≤ x then r1 else r2) :=
  WW.brn (fun _ _ _ _ _ _ _ _ _ _ _ X _ _ _ kt kf => lv_icmp_ge X.1.1 X.1.2.1 hd ht kt kf) k1 k2
theorem WW.lcmp_ge {x y : Int64} {off : Int} {r1 r2 : Option α} (tgt : Nat) (hd0 : decode (m_cc M) pc = .ok (.lcmp, 1)) (hd : decode (m_cc M) (pc + 1) = .ok (.ifCond .ge off, 3)) (ht : ((pc + 1 : Nat) : Int) + off = (tgt : Int)) (k1 : y ≤ x → WW g M emb tgt L st h kc ks r1) (k2 : ¬ y ≤ x → WW g M emb (pc + 4) L st h kc ks r2) : WW g M emb pc L (.long y :: .long x :: st) h kc ks (if y ≤ x then r1 else r2) :=
  WW.brn (fun _ _ _ _ _ _ _ _ _ _ _ X _ _ _ kt kf => W.lcmp X.1.1 X.1.2.1 hd0 (lv_if_ge X.1.1 X.1.2.1 hd ht (fun q => kt ((lc_ge x y).mp q)) (fun q => kf (fun z => q ((lc_ge x y).mpr z))))) k1 k2
theorem WW.if_gt {x : Int32} {off : Int} {r1 r2 : Option α} (tgt : Nat) (hd : decode (m_cc M) pc = .ok (.ifCond .gt off, 3)) (ht : (pc : Int) + off = (tgt : Int)) (k1 : 0 < x → WW g M emb tgt L st h kc ks r1) (k2 : ¬ 0 < x → WW g M emb (pc + 3) L st h kc ks r2) : WW g M emb pc L (.int x :: st) h kc ks (if 0 < x then r1 else r2) :=
  WW.brn (fun _ _ _ _ _ _ _ _ _ _ _ X _ _ _ kt kf => lv_if_gt X.1.1 X.1.2.1 hd ht kt kf) k1 k2
theorem WW.icmp_gt {x y : Int32} {off : Int} {r1 r2 : Option α} (tgt : Nat) (hd : decode (m_cc M) pc = .ok (.if_icmp .gt off, 3)) (ht : (pc : Int) + off = (tgt : Int)) (k1 : y < x → WW g M emb tgt L st h kc ks r1) (k2 : ¬ y < x → WW g M emb (pc + 3) L st h kc ks r2) : WW g M emb pc L (.int y :: .int x :: st) h kc ks (if y < x then r1 else r2) :=
  WW.brn (fun _ _ _ _ _ _ _ _ _ _ _ X _ _ _ kt kf => lv_icmp_gt X.1.1 X.1.2.1 hd ht kt kf) k1 k2
theorem WW.lcmp_gt {x y : Int64} {off : Int} {r1 r2 : Option α} (tgt : Nat) (hd0 : decode (m_cc M) pc = .ok (.lcmp, 1)) (hd : decode (m_cc M) (pc + 1) = .ok (.ifCond .gt off, 3)) (ht : ((pc + 1 : Nat) : Int) + off = (tgt : Int)) (k1 : y < x → WW g M emb tgt L st h kc ks r1) (k2 : ¬ y < x → WW g M emb (pc + 4) L st h kc ks r2) : WW g M emb pc L (.long y :: .long x :: st) h kc ks (if y < x then r1 else r2) :=
  WW.brn (fun _ _ _ _ _ _ _ _ _ _ _ X _ _ _ kt kf => W.lcmp X.1.1 X.1.2.1 hd0 (lv_if_gt X.1.1 X.1.2.1 hd ht (fun q => kt ((lc_gt x y).mp q)) (fun q => kf (fun z => q ((lc_gt x y).mpr z))))) k1 k2
theorem WW.if_le {x : Int32} {off : Int} {r1 r2 : Option α} (tgt : Nat) (hd : decode (m_cc M) pc = .ok (.ifCond .le off, 3)) (ht : (pc : Int) + off = (tgt : Int)) (k1 : x ≤ 0 → WW g M emb tgt L st h kc ks r1) (k2 : ¬ x ≤ 0 → WW g M emb (pc + 3) L st h kc ks r2) : WW g M emb pc L (.int x :: st) h kc ks (if x ≤ 0 then r1 else r2) :=
  WW.brn (fun _ _ _ _ _ _ _ _ _ _ _ X _ _ _ kt kf => lv_if_le X.1.1 X.1.2.1 hd ht kt kf) k1 k2
theorem WW.icmp_le {x y : Int32} {off : Int} {r1 r2 : Option α} (tgt : Nat) (hd : decode (m_cc M) pc = .ok (.if_icmp .le off, 3)) (ht : (pc : Int) + off = (tgt : Int)) (k1 : x ≤ y → WW g M emb tgt L st h kc ks r1) (k2 : ¬ x ≤ y → WW g M emb (pc + 3) L st h kc ks r2) : WW g M emb pc L (.int y :: .int x :: st) h kc ks (if x ≤ y then r1 else r2) :=
  WW.brn (fun _ _ _ _ _ _ _ _ _ _ _ X _ _ _ kt kf => lv_icmp_le X.1.1 X.1.2.1 hd ht kt kf) k1 k2
theorem WW.lcmp_le {x y : Int64} {off : Int} {r1 r2 : Option α} (tgt : Nat) (hd0 : decode (m_cc M) pc = .ok (.lcmp, 1)) (hd : decode (m_cc M) (pc + 1) = .ok (.ifCond .le off, 3)) (ht : ((pc + 1 : Nat) : Int) + off = (tgt : Int)) (k1 : x ≤ y → WW g M emb tgt L st h kc ks r1) (k2 : ¬ x ≤ y → WW g M emb (pc + 4) L st h kc ks r2) : WW g M emb pc L (.long y :: .long x :: st) h kc ks (if x ≤ y then r1 else r2) :=
  WW.brn (fun _ _ _ _ _ _ _ _ _ _ _ X _ _ _ kt kf => W.lcmp X.1.1 X.1.2.1 hd0 (lv_if_le X.1.1 X.1.2.1 hd ht (fun q => kt ((lc_le x y).mp q)) (fun q => kf (fun z => q ((lc_le x y).mpr z))))) k1 k2
theorem WW.ifnull {x : Nat} {off : Int} {r1 r2 : Option α} (tgt : Nat) (hd : decode (m_cc M) pc = .ok (.ifnull off, 3)) (ht : (pc : Int) + off = (tgt : Int)) (k1 : x = 0 → WW g M emb tgt L st h kc ks r1) (k2 : ¬ x = 0 → WW g M emb (pc + 3) L st h kc ks r2) : WW g M emb pc L (.ref x :: st) h kc ks (if x = 0 then r1 else r2) :=
  WW.brn (fun _ _ _ _ _ _ _ _ _ _ _ X _ _ _ kt kf => by
    simp only [List.map_cons]
    by_cases e : x = 0
    · simp only [cv, e, if_pos]
      exact lv_ifnullN X.1.1 X.1.2.1 hd ht (kt e)
    · rw [cv_ref e]
      exact lv_ifnull X.1.1 X.1.2.1 hd (kf e)) k1 k2
theorem WW.ifnonnull {x : Nat} {off : Int} {r1 r2 : Option α} (tgt : Nat) (hd : decode (m_cc M) pc = .ok (.ifnonnull off, 3)) (ht : (pc : Int) + off = (tgt : Int)) (k1 : x = 0 → WW g M emb (pc + 3) L st h kc ks r1) (k2 : ¬ x = 0 → WW g M emb tgt L st h kc ks r2) : WW g M emb pc L (.ref x :: st) h kc ks (if x = 0 then r1 else r2) :=
  WW.brn (fun _ _ _ _ _ _ _ _ _ _ _ X _ _ _ kt kf => by
    simp only [List.map_cons]
    by_cases e : x = 0
    · simp only [cv, e, if_pos]
      exact lv_ifnonnullN X.1.1 X.1.2.1 hd (kt e)
    · rw [cv_ref e]
      exact lv_ifnonnull X.1.1 X.1.2.1 hd ht (kf e)) k1 k2
/-- a case of a switch, or of any condition: no instruction -/
theorem WW.ite {c : Prop} [Decidable c] {r1 r2 : Option α} (k1 : c → WW g M emb pc L st h kc ks r1) (k2 : ¬ c → WW g M emb pc L st h kc ks r2) : WW g M emb pc L st h kc ks (if c then r1 else r2) := by
  by_cases hc : c
  · rw [if_pos hc]; exact k1 hc
  · rw [if_neg hc]; exact k2 hc
theorem WW.tabIn {dflt lo hi : Int} {offs : Array Int} {len : Nat} {x : Int32} {off : Int} (v : Int32) (tgt : Nat) (hx : x = v) (hd : decode (m_cc M) pc = .ok (.tableswitch dflt lo hi offs, len)) (h1 : ¬ v.toInt < lo) (h2 : ¬ hi < v.toInt) (ho : offs[(v.toInt - lo).toNat]? = some off) (ht : (pc : Int) + off = (tgt : Int)) (k : WW g M emb tgt L st h kc ks res) : WW g M emb pc L (.int x :: st) h kc ks res := by
  subst hx
  exact WW.gen (fun _ _ _ _ _ _ _ _ _ _ _ X _ _ ls hl k => lv_tableIn X.1.1 X.1.2.1 hd h1 h2 ho ht (k ls hl)) k
theorem WW.tabOut {dflt lo hi : Int} {offs : Array Int} {len : Nat} {x : Int32} (tgt : Nat) (hd : decode (m_cc M) pc = .ok (.tableswitch dflt lo hi offs, len)) (ho : x.toInt < lo ∨ hi < x.toInt) (ht : (pc : Int) + dflt = (tgt : Int)) (k : WW g M emb tgt L st h kc ks res) : WW g M emb pc L (.int x :: st) h kc ks res :=
  WW.gen (fun _ _ _ _ _ _ _ _ _ _ _ X _ _ ls hl k => lv_tableOut X.1.1 X.1.2.1 hd ho ht (k ls hl)) k
-- names, joins, loops
theorem WW.nm {β : Type} {v : β} {κ : β → Option α} (k : WW g M emb pc L st h kc ks (κ v)) : WW g M emb pc L st h kc ks (bnd v κ) := k
/-- a named number on the stack -/
theorem WW.nmi {v : Int32} {κ : Int32 → Option α} (k : ∀ x : Int32, WW g M emb pc L (.int x :: st) h kc ks (κ x)) : WW g M emb pc L (.int v :: st) h kc ks (bnd v κ) := k v
theorem WW.nml {v : Int64} {κ : Int64 → Option α} (k : ∀ x : Int64, WW g M emb pc L (.long x :: st) h kc ks (κ x)) : WW g M emb pc L (.long v :: st) h kc ks (bnd v κ) := k v
theorem WW.join {σ : Type} {κ : σ → Option α} {φ : (σ → Option α) → Option α} {pj : Nat} (Lj : σ → List (Nat × Value)) (sj : σ → List Value) (hj : σ → HP) (k1 : ∀ x, WW g M emb pj (Lj x) (sj x) (hj x) kc ks (κ x)) (k2 : ∀ k : σ → Option α, (∀ x, WW g M emb pj (Lj x) (sj x) (hj x) kc ks (k x)) → WW g M emb pc L st h kc ks (φ k)) : WW g M emb pc L st h kc ks (jn κ φ) := k2 κ k1
theorem WW.loop {σ : Type} {f : (σ → Option α) → σ → Option α} (Lj : σ → List (Nat × Value)) (hj : σ → HP) (k : ∀ self : σ → Option α, (∀ x, WW g M emb pc (Lj x) [] (hj x) kc ks (self x)) → ∀ x, WW g M emb pc (Lj x) [] (hj x) kc ks (f self x)) : ∀ (n : Nat) (x : σ), WW g M emb pc (Lj x) [] (hj x) kc ks (lp f n x)
  | 0, _ => WW.none
  | n + 1, x => k (_) (fun y => WW.loop Lj hj k n y) x
end WWr
