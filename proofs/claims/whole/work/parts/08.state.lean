/-! the picture behind the constructors: numbers in rows by cell and place; what is fixed but for the market's cell, the news' kinds and the script's length -/
abbrev Dd : Type := (Nat → Nat → Int32) × (Nat → Nat → Int64)
abbrev Rh : Type := Nat × List Nat × Nat
def d_i (d : Dd) (o k : Nat) : Int32 := d.1 o k
def d_l (d : Dd) (o k : Nat) : Int64 := d.2 o k
def dI (d : Dd) (o k : Nat) (v : Int32) : Dd := (set2 d.1 o k v, d.2)
def dL (d : Dd) (o k : Nat) (v : Int64) : Dd := (d.1, set2 d.2 o k v)
def shS (ρ : Rh) : List (Nat × Nat) := [(99, 0), (20, 4), (20, ρ.2.2), (11, 0), (7, 0), (20, 60), (5, 0), (20, 4), (20, 4), (5, 0), (20, 4), (20, 4), (23, 8), (3, 0), (2, 0), (1, 0), (20, 4), (20, 4), (20, 4), (10, 0), (22, 128), (20, 512), (21, 512), (12, 0), (20, 60), (20, 4), (20, 4), (20, 4), (20, 4), (20, 4), (20, 4), (20, 8), (20, 8), (21, 64), (20, 4)] ++ ρ.2.1.map (fun t => (t, 0))
def hrR (ρ : Rh) (o : Nat) : List Nat := match o with
  | 3 => [4, ρ.1, (15 - ρ.1), 0, 15, 12, 0, 0, 13, 14, 19, 20, 21, 22]
  | 4 => [5]
  | 6 => [0, 0, 0, 0, 7, 8]
  | 9 => [0, 0, 0, 0, 10, 11]
  | 14 => [15, 18]
  | 15 => [16, 17]
  | 23 => [24, 0, 0, 0, 0, 25, 26, 0, 0, 0, 0, 0, 0, 27, 28, 0, 29, 30, 0, 31, 32, 0, 0, 0, 0, 33, 0, 0, 0, 34]
  | _ => []
def hrS (ρ : Rh) (o k : Nat) : Nat := if o = 12 then (if k < ρ.2.1.length then 35 + k else 0) else (hrR ρ o).getD k 0
def full (d : Dd) (ρ : Rh) : HP := (d.1, d.2, hrS ρ, shS ρ)
def nT : List Nat := [0, 4, 6, 8, 9]
theorem mem5 {t : Nat} (h : t ∈ nT) : t = 0 ∨ t = 4 ∨ t = 6 ∨ t = 8 ∨ t = 9 := by simpa [nT] using h
def Hr (ρ : Rh) : Prop := (ρ.1 = 6 ∨ ρ.1 = 9) ∧ ρ.2.1.length ≤ 8 ∧ (∀ t ∈ ρ.2.1, t ∈ nT) ∧ ρ.2.2 < 2 ^ 31
def NewsO (ρ : Rh) (o : Nat) : Prop := 35 ≤ o ∧ o < 35 + ρ.2.1.length
def NwOK (ρ : Rh) (o : Nat) : Prop := o = 0 ∨ NewsO ρ o
def tg (ρ : Rh) (o : Nat) : Nat := ρ.2.1.getD (o - 35) 99
theorem NwOK.resolve_left {ρ : Rh} {o : Nat} (h : NwOK ρ o) (h0 : ¬ o = 0) : NewsO ρ o := Or.resolve_left h h0
theorem one_le {o : Nat} (h : 3 ≤ o) : 1 ≤ o := by omega
theorem shT {ρ : Rh} {o : Nat} (h : NewsO ρ o) : (shS ρ)[o]? = some (tg ρ o, 0) := by
  obtain ⟨h1, h2⟩ := h
  unfold shS tg
  rw [List.getElem?_append_right (by simpa using h1)]
  have hl : o - 35 < ρ.2.1.length := by omega
  simp [List.getElem?_map, List.getElem?_eq_getElem hl, List.getD_eq_getElem?_getD]
theorem tgT {ρ : Rh} (hρ : Hr ρ) {o : Nat} (h : NewsO ρ o) : tg ρ o ∈ nT := by
  obtain ⟨h1, h2⟩ := h
  have hl : o - 35 < ρ.2.1.length := by omega
  refine hρ.2.2.1 _ ?_
  unfold tg
  rw [List.getD_eq_getElem?_getD, List.getElem?_eq_getElem hl]
  exact List.getElem_mem hl
theorem shN {ρ : Rh} {o t : Nat} (h : NewsO ρ o) (ht : tg ρ o = t) : (shS ρ)[o]? = some (t, 0) := ht ▸ shT h
theorem h3N {ρ : Rh} {o : Nat} (h : NewsO ρ o) : 3 ≤ o := by have := h.1; omega
theorem nwAll {ρ : Rh} (hρ : Hr ρ) (i : Nat) : NwOK ρ (hrS ρ 12 i) := by
  unfold hrS
  rw [if_pos rfl]
  by_cases h : i < ρ.2.1.length
  · rw [if_pos h]; exact Or.inr ⟨by omega, by omega⟩
  · rw [if_neg h]; exact Or.inl rfl
theorem mkS {ρ : Rh} {o : Nat} (h : o = 6 ∨ o = 9) : (shS ρ)[o]? = some (5, 0) := by rcases h with rfl | rfl <;> rfl
theorem mkS1 {ρ : Rh} {o : Nat} (h : o = 6 ∨ o = 9) : (shS ρ)[o + 1]? = some (20, 4) := by rcases h with rfl | rfl <;> rfl
theorem mkS2 {ρ : Rh} {o : Nat} (h : o = 6 ∨ o = 9) : (shS ρ)[o + 2]? = some (20, 4) := by rcases h with rfl | rfl <;> rfl
theorem mk3 {o : Nat} (h : o = 6 ∨ o = 9) : 3 ≤ o := by omega
theorem mk31 {o : Nat} (h : o = 6 ∨ o = 9) : 3 ≤ o + 1 := by omega
theorem mk32 {o : Nat} (h : o = 6 ∨ o = 9) : 3 ≤ o + 2 := by omega
theorem hrM1 (ρ : Rh) {o : Nat} (h : o = 6 ∨ o = 9) : hrS ρ o 4 = o + 1 := by rcases h with rfl | rfl <;> rfl
theorem hrM2 (ρ : Rh) {o : Nat} (h : o = 6 ∨ o = 9) : hrS ρ o 5 = o + 2 := by rcases h with rfl | rfl <;> rfl
theorem hr_mk (ρ : Rh) : hrS ρ 3 1 = ρ.1 := rfl
theorem hr_dr (ρ : Rh) : hrS ρ 3 2 = 15 - ρ.1 := rfl
theorem ho_dr {ρ : Rh} (hρ : Hr ρ) : 15 - ρ.1 = 6 ∨ 15 - ρ.1 = 9 := by rcases hρ.1 with h | h <;> omega
theorem sh_1 (ρ : Rh) : (shS ρ)[1]? = some (20, 4) := rfl
theorem sh_3 (ρ : Rh) : (shS ρ)[3]? = some (11, 0) := rfl
theorem h3_3 : 3 ≤ 3 := by decide
theorem sh_4 (ρ : Rh) : (shS ρ)[4]? = some (7, 0) := rfl
theorem h3_4 : 3 ≤ 4 := by decide
theorem sh_5 (ρ : Rh) : (shS ρ)[5]? = some (20, 60) := rfl
theorem h3_5 : 3 ≤ 5 := by decide
theorem sh_6 (ρ : Rh) : (shS ρ)[6]? = some (5, 0) := rfl
theorem h3_6 : 3 ≤ 6 := by decide
theorem sh_7 (ρ : Rh) : (shS ρ)[7]? = some (20, 4) := rfl
theorem h3_7 : 3 ≤ 7 := by decide
theorem sh_8 (ρ : Rh) : (shS ρ)[8]? = some (20, 4) := rfl
theorem h3_8 : 3 ≤ 8 := by decide
theorem sh_9 (ρ : Rh) : (shS ρ)[9]? = some (5, 0) := rfl
theorem h3_9 : 3 ≤ 9 := by decide
theorem sh_10 (ρ : Rh) : (shS ρ)[10]? = some (20, 4) := rfl
theorem h3_10 : 3 ≤ 10 := by decide
theorem sh_11 (ρ : Rh) : (shS ρ)[11]? = some (20, 4) := rfl
theorem h3_11 : 3 ≤ 11 := by decide
theorem sh_12 (ρ : Rh) : (shS ρ)[12]? = some (23, 8) := rfl
theorem h3_12 : 3 ≤ 12 := by decide
theorem sh_13 (ρ : Rh) : (shS ρ)[13]? = some (3, 0) := rfl
theorem h3_13 : 3 ≤ 13 := by decide
theorem sh_14 (ρ : Rh) : (shS ρ)[14]? = some (2, 0) := rfl
theorem h3_14 : 3 ≤ 14 := by decide
theorem sh_15 (ρ : Rh) : (shS ρ)[15]? = some (1, 0) := rfl
theorem h3_15 : 3 ≤ 15 := by decide
theorem sh_16 (ρ : Rh) : (shS ρ)[16]? = some (20, 4) := rfl
theorem h3_16 : 3 ≤ 16 := by decide
theorem sh_17 (ρ : Rh) : (shS ρ)[17]? = some (20, 4) := rfl
theorem h3_17 : 3 ≤ 17 := by decide
theorem sh_18 (ρ : Rh) : (shS ρ)[18]? = some (20, 4) := rfl
theorem h3_18 : 3 ≤ 18 := by decide
theorem sh_19 (ρ : Rh) : (shS ρ)[19]? = some (10, 0) := rfl
theorem h3_19 : 3 ≤ 19 := by decide
theorem sh_20 (ρ : Rh) : (shS ρ)[20]? = some (22, 128) := rfl
theorem h3_20 : 3 ≤ 20 := by decide
theorem sh_21 (ρ : Rh) : (shS ρ)[21]? = some (20, 512) := rfl
theorem h3_21 : 3 ≤ 21 := by decide
theorem sh_22 (ρ : Rh) : (shS ρ)[22]? = some (21, 512) := rfl
theorem h3_22 : 3 ≤ 22 := by decide
theorem sh_23 (ρ : Rh) : (shS ρ)[23]? = some (12, 0) := rfl
theorem h3_23 : 3 ≤ 23 := by decide
theorem sh_24 (ρ : Rh) : (shS ρ)[24]? = some (20, 60) := rfl
theorem h3_24 : 3 ≤ 24 := by decide
theorem sh_25 (ρ : Rh) : (shS ρ)[25]? = some (20, 4) := rfl
theorem h3_25 : 3 ≤ 25 := by decide
theorem sh_26 (ρ : Rh) : (shS ρ)[26]? = some (20, 4) := rfl
theorem h3_26 : 3 ≤ 26 := by decide
theorem sh_27 (ρ : Rh) : (shS ρ)[27]? = some (20, 4) := rfl
theorem h3_27 : 3 ≤ 27 := by decide
theorem sh_28 (ρ : Rh) : (shS ρ)[28]? = some (20, 4) := rfl
theorem h3_28 : 3 ≤ 28 := by decide
theorem sh_29 (ρ : Rh) : (shS ρ)[29]? = some (20, 4) := rfl
theorem h3_29 : 3 ≤ 29 := by decide
theorem sh_30 (ρ : Rh) : (shS ρ)[30]? = some (20, 4) := rfl
theorem h3_30 : 3 ≤ 30 := by decide
theorem sh_31 (ρ : Rh) : (shS ρ)[31]? = some (20, 8) := rfl
theorem h3_31 : 3 ≤ 31 := by decide
theorem sh_32 (ρ : Rh) : (shS ρ)[32]? = some (20, 8) := rfl
theorem h3_32 : 3 ≤ 32 := by decide
theorem sh_33 (ρ : Rh) : (shS ρ)[33]? = some (21, 64) := rfl
theorem h3_33 : 3 ≤ 33 := by decide
theorem sh_34 (ρ : Rh) : (shS ρ)[34]? = some (20, 4) := rfl
theorem h3_34 : 3 ≤ 34 := by decide
theorem hr_3_0 (ρ : Rh) : hrS ρ 3 0 = 4 := rfl
theorem hr_3_4 (ρ : Rh) : hrS ρ 3 4 = 15 := rfl
theorem hr_3_5 (ρ : Rh) : hrS ρ 3 5 = 12 := rfl
theorem hr_3_8 (ρ : Rh) : hrS ρ 3 8 = 13 := rfl
theorem hr_3_9 (ρ : Rh) : hrS ρ 3 9 = 14 := rfl
theorem hr_3_10 (ρ : Rh) : hrS ρ 3 10 = 19 := rfl
theorem hr_3_11 (ρ : Rh) : hrS ρ 3 11 = 20 := rfl
theorem hr_3_12 (ρ : Rh) : hrS ρ 3 12 = 21 := rfl
theorem hr_3_13 (ρ : Rh) : hrS ρ 3 13 = 22 := rfl
theorem hr_4_0 (ρ : Rh) : hrS ρ 4 0 = 5 := rfl
theorem hr_14_0 (ρ : Rh) : hrS ρ 14 0 = 15 := rfl
theorem hr_14_1 (ρ : Rh) : hrS ρ 14 1 = 18 := rfl
theorem hr_15_0 (ρ : Rh) : hrS ρ 15 0 = 16 := rfl
theorem hr_15_1 (ρ : Rh) : hrS ρ 15 1 = 17 := rfl
theorem hr_23_0 (ρ : Rh) : hrS ρ 23 0 = 24 := rfl
theorem hr_23_5 (ρ : Rh) : hrS ρ 23 5 = 25 := rfl
theorem hr_23_6 (ρ : Rh) : hrS ρ 23 6 = 26 := rfl
theorem hr_23_13 (ρ : Rh) : hrS ρ 23 13 = 27 := rfl
theorem hr_23_14 (ρ : Rh) : hrS ρ 23 14 = 28 := rfl
theorem hr_23_16 (ρ : Rh) : hrS ρ 23 16 = 29 := rfl
theorem hr_23_17 (ρ : Rh) : hrS ρ 23 17 = 30 := rfl
theorem hr_23_19 (ρ : Rh) : hrS ρ 23 19 = 31 := rfl
theorem hr_23_20 (ρ : Rh) : hrS ρ 23 20 = 32 := rfl
theorem hr_23_25 (ρ : Rh) : hrS ρ 23 25 = 33 := rfl
theorem hr_23_29 (ρ : Rh) : hrS ρ 23 29 = 34 := rfl
/-- answers -/
def eI (ρ : Rh) : Int32 × Dd → Option Value × HP := fun x => (some (.int x.1), full x.2 ρ)
def eIp (ρ : Rh) (d : Dd) : Int32 → Option Value × HP := fun x => (some (.int x), full d ρ)
def eZ (ρ : Rh) : Bool × Dd → Option Value × HP := fun x => (some (.int (b2i x.1)), full x.2 ρ)
def eZp (ρ : Rh) (d : Dd) : Bool → Option Value × HP := fun x => (some (.int (b2i x)), full d ρ)
def eL (ρ : Rh) : Int64 × Dd → Option Value × HP := fun x => (some (.long x.1), full x.2 ρ)
def eLp (ρ : Rh) (d : Dd) : Int64 → Option Value × HP := fun x => (some (.long x), full d ρ)
def eRp (ρ : Rh) (d : Dd) : Nat → Option Value × HP := fun x => (some (.ref x), full d ρ)
def eV (ρ : Rh) : Dd → Option Value × HP := fun x => (none, full x ρ)
section WWS
variable {α : Type} {g : Gx} {M : Mx} {emb : α → Option Value × HP} {pc : Nat} {L : List (Nat × Value)} {st : List Value} {ρ : Rh} {d : Dd} {kc ks : Nat} {res : Option α}
theorem WW.sgi {ixx ci k o z : Nat} (hf : FLk (m_own M) ixx ci k) (h3 : 3 ≤ o) (hs : (shS ρ)[o]? = some (ci, z)) (ht : gty ci k = .int ∨ gty ci k = .boolean) (hd : decode (m_cc M) pc = .ok (.getfield ixx, 3)) (kk : WW g M emb (pc + 3) L (.int (d_i d o k) :: st) (full d ρ) kc ks res) : WW g M emb pc L (.ref o :: st) (full d ρ) kc ks res :=
  WW.getf _ hf h3 hs (by rcases ht with e | e <;> rw [e] <;> rfl) hd kk
theorem WW.sgl {ixx ci k o z : Nat} (hf : FLk (m_own M) ixx ci k) (h3 : 3 ≤ o) (hs : (shS ρ)[o]? = some (ci, z)) (ht : gty ci k = .long) (hd : decode (m_cc M) pc = .ok (.getfield ixx, 3)) (kk : WW g M emb (pc + 3) L (.long (d_l d o k) :: st) (full d ρ) kc ks res) : WW g M emb pc L (.ref o :: st) (full d ρ) kc ks res :=
  WW.getf _ hf h3 hs (by rw [ht]; rfl) hd kk
theorem WW.sgr {ixx ci k o z j : Nat} (hf : FLk (m_own M) ixx ci k) (h3 : 3 ≤ o) (hs : (shS ρ)[o]? = some (ci, z)) (ht : (∃ C, gty ci k = .object C) ∨ ∃ t, gty ci k = .array t) (hj : hrS ρ o k = j) (hd : decode (m_cc M) pc = .ok (.getfield ixx, 3)) (kk : WW g M emb (pc + 3) L (.ref j :: st) (full d ρ) kc ks res) : WW g M emb pc L (.ref o :: st) (full d ρ) kc ks res :=
  WW.getf _ hf h3 hs (by subst hj; rcases ht with ⟨_, e⟩ | ⟨_, e⟩ <;> rw [e] <;> rfl) hd kk
theorem WW.sgiN {ixx k o : Nat} (hρ : Hr ρ) (hn : NewsO ρ o) (hf : ∀ t, t ∈ nT → FLk (m_own M) ixx t k) (ht : gty 6 k = .int) (hd : decode (m_cc M) pc = .ok (.getfield ixx, 3)) (kk : WW g M emb (pc + 3) L (.int (d_i d o k) :: st) (full d ρ) kc ks res) : WW g M emb pc L (.ref o :: st) (full d ρ) kc ks res :=
  WW.getf _ (hf _ (tgT hρ hn)) (h3N hn) (shT hn) (by
    have h2 : gty (tg ρ o) k = .int := by
      rw [← ht]
      rcases mem5 (tgT hρ hn) with e | e | e | e | e <;> rw [e] <;> (match k with | 0 => rfl | 1 => rfl | k + 2 => rfl)
    rw [h2]; rfl) hd kk
theorem WW.spi {ixx ci k o z : Nat} {x : Int32} {κ : Dd → Option α} (hf : FPk (m_own M) ixx ci k false) (h3 : 3 ≤ o) (hs : (shS ρ)[o]? = some (ci, z)) (ht : gty ci k = .int) (hd : decode (m_cc M) pc = .ok (.putfield ixx, 3)) (kk : ∀ d' : Dd, WW g M emb (pc + 3) L st (full d' ρ) kc ks (κ d')) : WW g M emb pc L (.int x :: .ref o :: st) (full d ρ) kc ks (bnd (dI d o k x) κ) :=
  WW.puti hf (fun h => by cases h) h3 hs (Or.inl ht) hd (kk (dI d o k x))
theorem WW.spl {ixx ci k o z : Nat} {x : Int64} {κ : Dd → Option α} (hf : FPk (m_own M) ixx ci k false) (h3 : 3 ≤ o) (hs : (shS ρ)[o]? = some (ci, z)) (ht : gty ci k = .long) (hd : decode (m_cc M) pc = .ok (.putfield ixx, 3)) (kk : ∀ d' : Dd, WW g M emb (pc + 3) L st (full d' ρ) kc ks (κ d')) : WW g M emb pc L (.long x :: .ref o :: st) (full d ρ) kc ks (bnd (dL d o k x) κ) :=
  WW.putl hf (fun h => by cases h) h3 hs ht hd (kk (dL d o k x))
theorem WW.siald {o n : Nat} {i : Int32} (h1 : 1 ≤ o) (hs : (shS ρ)[o]? = some (20, n)) (hd : decode (m_cc M) pc = .ok (.iaload, 1)) (kk : WW g M emb (pc + 1) L (.int (d_i d o (ix i)) :: st) (full d ρ) kc ks res) : WW g M emb pc L (.int i :: .ref o :: st) (full d ρ) kc ks (if inB i n = true then res else Option.none) := WW.iald h1 hs hd kk
theorem WW.slald {o n : Nat} {i : Int32} (h1 : 3 ≤ o) (hs : (shS ρ)[o]? = some (21, n)) (hd : decode (m_cc M) pc = .ok (.laload, 1)) (kk : WW g M emb (pc + 1) L (.long (d_l d o (ix i)) :: st) (full d ρ) kc ks res) : WW g M emb pc L (.int i :: .ref o :: st) (full d ρ) kc ks (if inB i n = true then res else Option.none) := WW.lald h1 hs hd kk
theorem WW.szald {o n : Nat} {i : Int32} (h1 : 3 ≤ o) (hs : (shS ρ)[o]? = some (22, n)) (hd : decode (m_cc M) pc = .ok (.baload, 1)) (kk : WW g M emb (pc + 1) L (.int (d_i d o (ix i)) :: st) (full d ρ) kc ks res) : WW g M emb pc L (.int i :: .ref o :: st) (full d ρ) kc ks (if inB i n = true then res else Option.none) := WW.zald h1 hs hd kk
theorem WW.saald {o n : Nat} {i : Int32} (h1 : 3 ≤ o) (hs : (shS ρ)[o]? = some (23, n)) (hd : decode (m_cc M) pc = .ok (.aaload, 1)) (kk : WW g M emb (pc + 1) L (.ref (hrS ρ o (ix i)) :: st) (full d ρ) kc ks res) : WW g M emb pc L (.int i :: .ref o :: st) (full d ρ) kc ks (if inB i n = true then res else Option.none) := WW.aald h1 hs hd kk
theorem WW.siast {o n : Nat} {i x : Int32} {κ : Dd → Option α} (h3 : 3 ≤ o) (hs : (shS ρ)[o]? = some (20, n)) (hd : decode (m_cc M) pc = .ok (.iastore, 1)) (kk : ∀ d' : Dd, WW g M emb (pc + 1) L st (full d' ρ) kc ks (κ d')) : WW g M emb pc L (.int x :: .int i :: .ref o :: st) (full d ρ) kc ks (if inB i n = true then bnd (dI d o (ix i) x) κ else Option.none) := WW.iast h3 hs hd (kk (dI d o (ix i) x))
theorem WW.slast {o n : Nat} {i : Int32} {x : Int64} {κ : Dd → Option α} (h3 : 3 ≤ o) (hs : (shS ρ)[o]? = some (21, n)) (hd : decode (m_cc M) pc = .ok (.lastore, 1)) (kk : ∀ d' : Dd, WW g M emb (pc + 1) L st (full d' ρ) kc ks (κ d')) : WW g M emb pc L (.long x :: .int i :: .ref o :: st) (full d ρ) kc ks (if inB i n = true then bnd (dL d o (ix i) x) κ else Option.none) := WW.last h3 hs hd (kk (dL d o (ix i) x))
theorem WW.szast {o n : Nat} {i x : Int32} {κ : Dd → Option α} (h3 : 3 ≤ o) (hs : (shS ρ)[o]? = some (22, n)) (hx : x &&& 1 = x) (hd : decode (m_cc M) pc = .ok (.bastore, 1)) (kk : ∀ d' : Dd, WW g M emb (pc + 1) L st (full d' ρ) kc ks (κ d')) : WW g M emb pc L (.int x :: .int i :: .ref o :: st) (full d ρ) kc ks (if inB i n = true then bnd (dI d o (ix i) x) κ else Option.none) := WW.zast h3 hs hx hd (kk (dI d o (ix i) x))
def insB (T t : Nat) : Bool := match T with
  | 9 => t == 9 || t == 0 || t == 4
  | T => t == T
theorem WW.sinst {ixx o T : Nat} (hρ : Hr ρ) (hn : NewsO ρ o) (hl : ∀ t, t ∈ nT → LkT (m_own M) ixx t (insB T t)) (hd : decode (m_cc M) pc = .ok (.instanceof ixx, 3)) (kk : WW g M emb (pc + 3) L (.int (b2i (insB T (tg ρ o))) :: st) (full d ρ) kc ks res) : WW g M emb pc L (.ref o :: st) (full d ρ) kc ks res :=
  WW.inst (hl _ (tgT hρ hn)) (h3N hn) (shT hn) hd kk
end WWS
