/-! the start: what the tables say, and the two objects -/
theorem tbl_at {w : Cond} (i : Nat) (h : lw_tbl[i]? = some w) : w ∈ lw_tbl := List.mem_of_getElem? h
theorem tbl_of (ws : List Cond) (ps : List Nat) (hp : ws = ps.filterMap (fun i => lw_tbl[i]?)) : ∀ w ∈ ws, w ∈ lw_tbl := by
  intro w hw
  rw [hp] at hw
  obtain ⟨i, -, hi⟩ := List.mem_filterMap.mp hw
  exact List.mem_of_getElem? hi
theorem nWd_tbl : ∀ w ∈ nWd, w ∈ lw_tbl := tbl_of nWd [90, 95, 97, 109, 113, 114, 115, 117, 118, 121, 122, 123, 125, 126, 146, 151, 152, 154, 155, 157, 167, 173, 179, 181, 190, 214, 219, 591, 604, 621, 795, 803, 814] (by decide +kernel)
theorem nWd_on : nWd.all (fun w => w.onTables) = true := by decide +kernel
def caW : List Cond := caP.map (fun q => .castable q.1 q.2)
theorem caW_tbl : ∀ w ∈ caW, w ∈ lw_tbl := tbl_of caW [1230, 1231, 1232, 1233, 1234, 1235] (by decide +kernel)
theorem caW_on : caW.all (fun w => w.onTables) = true := by decide +kernel
theorem kn_0 {s : State} {args : Array Value} (hts : ∀ w ∈ lw_tbl, w.before args s = true) : ∃ (cC : ClassId) (iS : Nat → Nat), u_Kn s RX0 TX0 2 cC iS := u_known (ws := wB) (n := 2) (fun w hw => hts w (wB_tbl hw)) inBX0 (hts _ (tbl_at (w := .instantiable RX0 2) 417 (by decide +kernel)))
theorem kn_1 {s : State} {args : Array Value} (hts : ∀ w ∈ lw_tbl, w.before args s = true) : ∃ (cC : ClassId) (iS : Nat → Nat), u_Kn s RX1 TX1 3 cC iS := u_known (ws := wB) (n := 3) (fun w hw => hts w (wB_tbl hw)) inBX1 (hts _ (tbl_at (w := .instantiable RX1 3) 172 (by decide +kernel)))
theorem kn_2 {s : State} {args : Array Value} (hts : ∀ w ∈ lw_tbl, w.before args s = true) : ∃ (cC : ClassId) (iS : Nat → Nat), u_Kn s RX2 TX2 7 cC iS := u_known (ws := wB) (n := 7) (fun w hw => hts w (wB_tbl hw)) inBX2 (hts _ (tbl_at (w := .instantiable RX2 7) 166 (by decide +kernel)))
theorem kn_3 {s : State} {args : Array Value} (hts : ∀ w ∈ lw_tbl, w.before args s = true) : ∃ (cC : ClassId) (iS : Nat → Nat), u_Kn s RX3 TX3 3 cC iS := u_known (ws := wB) (n := 3) (fun w hw => hts w (wB_tbl hw)) inBX3 (hts _ (tbl_at (w := .instantiable RX3 3) 145 (by decide +kernel)))
theorem kn_4 {s : State} {args : Array Value} (hts : ∀ w ∈ lw_tbl, w.before args s = true) : ∃ (cC : ClassId) (iS : Nat → Nat), u_Kn s RX4 TX4 2 cC iS := u_known (ws := wB) (n := 2) (fun w hw => hts w (wB_tbl hw)) inBX4 (hts _ (tbl_at (w := .instantiable RX4 2) 426 (by decide +kernel)))
theorem kn_5 {s : State} {args : Array Value} (hts : ∀ w ∈ lw_tbl, w.before args s = true) : ∃ (cC : ClassId) (iS : Nat → Nat), u_Kn s RX5 TX5 6 cC iS := u_known (ws := wB) (n := 6) (fun w hw => hts w (wB_tbl hw)) inBX5 (hts _ (tbl_at (w := .instantiable RX5 6) 108 (by decide +kernel)))
theorem kn_6 {s : State} {args : Array Value} (hts : ∀ w ∈ lw_tbl, w.before args s = true) : ∃ (cC : ClassId) (iS : Nat → Nat), u_Kn s RX6 TX6 2 cC iS := u_known (ws := wB) (n := 2) (fun w hw => hts w (wB_tbl hw)) inBX6 (hts _ (tbl_at (w := .instantiable RX6 2) 435 (by decide +kernel)))
theorem kn_7 {s : State} {args : Array Value} (hts : ∀ w ∈ lw_tbl, w.before args s = true) : ∃ (cC : ClassId) (iS : Nat → Nat), u_Kn s RX7 TX7 3 cC iS := u_known (ws := wB) (n := 3) (fun w hw => hts w (wB_tbl hw)) inBX7 (hts _ (tbl_at (w := .instantiable RX7 3) 89 (by decide +kernel)))
theorem kn_8 {s : State} {args : Array Value} (hts : ∀ w ∈ lw_tbl, w.before args s = true) : ∃ (cC : ClassId) (iS : Nat → Nat), u_Kn s RX8 TX8 2 cC iS := u_known (ws := wB) (n := 2) (fun w hw => hts w (wB_tbl hw)) inBX8 (hts _ (tbl_at (w := .instantiable RX8 2) 408 (by decide +kernel)))
theorem kn_9 {s : State} {args : Array Value} (hts : ∀ w ∈ lw_tbl, w.before args s = true) : ∃ (cC : ClassId) (iS : Nat → Nat), u_Kn s RX9 TX9 2 cC iS := u_known (ws := wB) (n := 2) (fun w hw => hts w (wB_tbl hw)) inBX9 (hts _ (tbl_at (w := .instantiable RX9 2) 384 (by decide +kernel)))
theorem kn_10 {s : State} {args : Array Value} (hts : ∀ w ∈ lw_tbl, w.before args s = true) : ∃ (cC : ClassId) (iS : Nat → Nat), u_Kn s RX10 TX10 1 cC iS := u_known (ws := wB) (n := 1) (fun w hw => hts w (wB_tbl hw)) inBX10 (hts _ (tbl_at (w := .instantiable RX10 1) 213 (by decide +kernel)))
theorem kn_11 {s : State} {args : Array Value} (hts : ∀ w ∈ lw_tbl, w.before args s = true) : ∃ (cC : ClassId) (iS : Nat → Nat), u_Kn s RX11 TX11 14 cC iS := u_known (ws := wB) (n := 14) (fun w hw => hts w (wB_tbl hw)) inBX11 (hts _ (tbl_at (w := .instantiable RX11 14) 81 (by decide +kernel)))
theorem kn_12 {s : State} {args : Array Value} (hts : ∀ w ∈ lw_tbl, w.before args s = true) : ∃ (cC : ClassId) (iS : Nat → Nat), u_Kn s RX12 TX12 32 cC iS := u_known (ws := wB) (n := 32) (fun w hw => hts w (wB_tbl hw)) inBX12 (hts _ (tbl_at (w := .instantiable RX12 32) 817 (by decide +kernel)))
theorem kn_all {s : State} {args : Array Value} (hts : ∀ w ∈ lw_tbl, w.before args s = true) (c : Nat) : ∃ (cC : ClassId) (iS : Nat → Nat), ∀ q : vw_C, vwCl[c]? = some q → u_Kn s q.1 q.2.1 q.2.2 cC iS := by
  match c with
  | 0 => obtain ⟨x, y, h⟩ := kn_0 hts; exact ⟨x, y, fun q hq => by cases hq; exact h⟩
  | 1 => obtain ⟨x, y, h⟩ := kn_1 hts; exact ⟨x, y, fun q hq => by cases hq; exact h⟩
  | 2 => obtain ⟨x, y, h⟩ := kn_2 hts; exact ⟨x, y, fun q hq => by cases hq; exact h⟩
  | 3 => obtain ⟨x, y, h⟩ := kn_3 hts; exact ⟨x, y, fun q hq => by cases hq; exact h⟩
  | 4 => obtain ⟨x, y, h⟩ := kn_4 hts; exact ⟨x, y, fun q hq => by cases hq; exact h⟩
  | 5 => obtain ⟨x, y, h⟩ := kn_5 hts; exact ⟨x, y, fun q hq => by cases hq; exact h⟩
  | 6 => obtain ⟨x, y, h⟩ := kn_6 hts; exact ⟨x, y, fun q hq => by cases hq; exact h⟩
  | 7 => obtain ⟨x, y, h⟩ := kn_7 hts; exact ⟨x, y, fun q hq => by cases hq; exact h⟩
  | 8 => obtain ⟨x, y, h⟩ := kn_8 hts; exact ⟨x, y, fun q hq => by cases hq; exact h⟩
  | 9 => obtain ⟨x, y, h⟩ := kn_9 hts; exact ⟨x, y, fun q hq => by cases hq; exact h⟩
  | 10 => obtain ⟨x, y, h⟩ := kn_10 hts; exact ⟨x, y, fun q hq => by cases hq; exact h⟩
  | 11 => obtain ⟨x, y, h⟩ := kn_11 hts; exact ⟨x, y, fun q hq => by cases hq; exact h⟩
  | 12 => obtain ⟨x, y, h⟩ := kn_12 hts; exact ⟨x, y, fun q hq => by cases hq; exact h⟩
  | n + 13 =>
    have hn : vwCl[n + 13]? = none := List.getElem?_eq_none (by show 13 ≤ n + 13; omega)
    exact ⟨0, fun _ => 0, fun q hq => absurd (hn.symm.trans hq) (by simp)⟩
theorem ar_prim {s : State} {args : Array Value} {ty : FieldType} (h : (Cond.arrayClass ty).before args s = true) : ∃ cA : ClassId, ArrOfT s cA ty ∧ s.vm.findClass ("[" ++ ty.toString) = some cA := by
  obtain ⟨c, k, comp, h1, h2, h3⟩ := Cond.arrayClass_spec h
  exact ⟨c, fun N z => ⟨(fun k h => by cases h), k, h2, comp, h3⟩, h1⟩
theorem ar_news {s : State} {args : Array Value} (h : (Cond.arrayOver (.object "SoldNews$News")).before args s = true) : ∃ cA : ClassId, ArrOfT s cA (.object "SoldNews$News") ∧ va_RA s cA (.object "SoldNews$News") := by
  obtain ⟨comp, c, k, h1, h2, h3, h4, h5⟩ := Cond.arrayOver_spec h
  exact ⟨c, fun N z => ⟨(fun k h => by cases h), k, h3, comp, h4⟩, k, comp, h3, h4, h1, h5⟩
theorem eq_of_int {args : Array Value} {s : State} {t : Term} {z : Int32} (h : (Cond.eq t (.int z)).before args s = true) : t.eval args s none [] s = some (.int z) := by
  cases hv : t.eval args s none [] s with
  | none => simp [Cond.before, Cond.holds, Cond.value, hv] at h
  | some w =>
    have hz : (Term.int z).eval args s none [] s = some (.int z) := rfl
    simp only [Cond.before, Cond.holds, Cond.value, hv, hz] at h
    cases w <;> simp_all
theorem size_of_len {args : Array Value} {s : State} {t : Term} {a : Addr} {cell : Cell} {n : Nat} (hn : n < 2 ^ 31) (ht : t.eval args s none [] s = some (.ref a)) (hc : s.arrayAt? a = some cell) (h : (Term.length t).eval args s none [] s = some (.int (Int32.ofNat n))) : cell.slots.size = n := by
  simp only [Term.eval, Option.bind_eq_bind, ht, Option.bind_some, hc] at h
  by_cases hs : cell.slots.size < 2147483648
  · rw [if_pos hs] at h
    have h1 : Int32.ofNat cell.slots.size = Int32.ofNat n := by
      have := Option.some.inj h
      injection this
    have h2 := congrArg Int32.toInt h1
    rw [show Int32.ofNat cell.slots.size = J (cell.slots.size : Int) from J_nat _, show Int32.ofNat n = J (n : Int) from J_nat _, J_toInt (by omega), J_toInt (by omega)] at h2
    omega
  · rw [if_neg hs] at h; cases h
def plc (k : Nat) : Int32 := if k = 0 then 1 else if k = 1 then 7 else if k = 2 then 49 else if k = 3 then 343 else 0
def d00 (xs : Nat → Int32) : Dd := (fun o k => if o = 1 then plc k else if o = 2 then xs k else 0, fun _ _ => 0)
def h00 (xs : Nat → Int32) (L : Nat) : HP := ((d00 xs).1, (d00 xs).2, fun _ _ => 0, [(99, 0), (20, 4), (20, L)])
/-- the picture that the constructors leave -/
def RfS (h h' : HP) : Prop := h.2.2.1 = h'.2.2.1 ∧ h.2.2.2.length = h'.2.2.2.length
theorem RfS.nw {h h' : HP} {t t' : Nat × Nat} (a : RfS h h') : RfS (hp_nw h t) (hp_nw h' t') := by
  refine ⟨?_, by simp [hp_nw, a.2]⟩
  show (fun j k => if j = h.2.2.2.length then 0 else h.2.2.1 j k) = (fun j k => if j = h'.2.2.2.length then 0 else h'.2.2.1 j k)
  rw [a.1, a.2]
theorem RfS.pr {h h' : HP} {o k v : Nat} (a : RfS h h') : RfS (hp_pr h o k v) (hp_pr h' o k v) := ⟨by show set2 _ _ _ _ = set2 _ _ _ _; rw [a.1], a.2⟩
theorem RfS.pi {h h' : HP} {o k : Nat} {v v' : Int32} (a : RfS h h') : RfS (hp_pi h o k v) (hp_pi h' o k v') := a
def RfZ (h : HP) : Prop := ∀ o k, 35 ≤ o ∨ 33 ≤ k → h.2.2.1 o k = 0
theorem RfZ.nw {h : HP} {t : Nat × Nat} (a : RfZ h) : RfZ (hp_nw h t) := fun o k q => by
  show (if o = _ then 0 else _) = 0
  split
  · rfl
  · exact a o k q
theorem RfZ.pr {h : HP} {o k v : Nat} (ho : o < 35 ∧ k < 33) (a : RfZ h) : RfZ (hp_pr h o k v) := fun o' k' q => by
  show (if o' = o ∧ k' = k then v else _) = 0
  rw [if_neg (by omega)]
  exact a o' k' q
theorem RfZ.pi {h : HP} {o k : Nat} {v : Int32} (a : RfZ h) : RfZ (hp_pi h o k v) := a
def RfD (d : Dd) (h : HP) : Prop := 3 ≤ h.2.2.2.length ∧ (∀ o k, h.1 o k = d.1 o k) ∧ ∀ o k, h.2.1 o k = 0
theorem RfD.nw {xs : Nat → Int32} {h : HP} {t : Nat × Nat} (a : RfD (d00 xs) h) : RfD (d00 xs) (hp_nw h t) := by
  refine ⟨by have := a.1; simp [hp_nw]; omega, fun o k => ?_, fun o k => ?_⟩
  · show (if o = _ then 0 else _) = _
    split
    · rename_i e
      have h3 := a.1
      show (0 : Int32) = if o = 1 then _ else if o = 2 then _ else 0
      rw [if_neg (by omega), if_neg (by omega)]
    · exact a.2.1 o k
  · show (if o = _ then 0 else _) = (0 : Int64)
    split
    · rfl
    · exact a.2.2 o k
theorem RfD.pr {d : Dd} {h : HP} {o k v : Nat} (a : RfD d h) : RfD d (hp_pr h o k v) := a
theorem RfD.pi {xs : Nat → Int32} {h : HP} {o k : Nat} (ho : 3 ≤ o) (a : RfD (d00 xs) h) : RfD (d00 xs) (hp_pi h o k 0) := by
  refine ⟨a.1, fun o' k' => ?_, a.2.2⟩
  show (if o' = o ∧ k' = k then 0 else _) = _
  by_cases q : o' = o ∧ k' = k
  · rw [if_pos q]
    show (0 : Int32) = if o' = 1 then _ else if o' = 2 then _ else 0
    rw [if_neg (by omega), if_neg (by omega)]
  · rw [if_neg q]; exact a.2.1 o' k'
theorem nwS {h : HP} {t : Nat × Nat} : (hp_nw h t).2.2.2 = h.2.2.2 ++ [t] := rfl
theorem prS {h : HP} {o k v : Nat} : (hp_pr h o k v).2.2.2 = h.2.2.2 := rfl
theorem piS {h : HP} {o k : Nat} {v : Int32} : (hp_pi h o k v).2.2.2 = h.2.2.2 := rfl
def hA (h : HP) : HP := hX12_init (hp_nw (hX11_init (hp_nw h (11, 0)) 3 4) (12, 0)) 23 24
theorem hrR_long (ρ : Rh) (o : Nat) : (hrR ρ o).length ≤ 32 := by
  unfold hrR
  split <;> simp
set_option maxHeartbeats 4000000 in
set_option maxRecDepth 100000 in
theorem hA_rf (xs : Nat → Int32) (L : Nat) : (hA (h00 xs L)).2.2.1 = hrS (6, [], L) := by
  have h1 : RfS (hA (h00 xs L)) (hA (h00 (fun _ => 0) 0)) := by
    have h0 : RfS (h00 xs L) (h00 (fun _ => 0) 0) := ⟨rfl, rfl⟩
    generalize h00 xs L = a at h0 ⊢
    generalize h00 (fun _ => 0) 0 = b at h0 ⊢
    unfold hA hX12_init hX11_init hX10_init hX2_init hX3_init hX1_init hX5_init hX7_init
    (repeat' first | (with_reducible exact h0) | (with_reducible refine RfS.pr ?_) | (with_reducible refine RfS.nw ?_) | (with_reducible refine RfS.pi ?_))
  have h2 : RfZ (hA (h00 (fun _ => 0) 0)) := by
    have h0 : RfZ (h00 (fun _ => 0) 0) := fun _ _ _ => rfl
    generalize h00 (fun _ => 0) 0 = b at h0 ⊢
    unfold hA hX12_init hX11_init hX10_init hX2_init hX3_init hX1_init hX5_init hX7_init
    (repeat' first | (with_reducible exact h0) | (with_reducible refine RfZ.pr ?_ ?_) | (with_reducible refine RfZ.nw ?_) | (with_reducible refine RfZ.pi ?_) | decide)
  have h3 : ∀ o : Fin 35, ∀ k : Fin 33, (hA (h00 (fun _ => 0) 0)).2.2.1 o.val k.val = hrS (6, [], 0) o.val k.val := by decide +kernel
  have h5 : ∀ o k, 35 ≤ o ∨ 33 ≤ k → hrS (6, [], 0) o k = 0 := by
    intro o k q
    unfold hrS
    by_cases e : o = 12
    · subst e; rfl
    · rw [if_neg e]
      by_cases e2 : 35 ≤ o
      · rw [hrR_35 _ e2]; rfl
      · have := hrR_long (6, [], 0) o
        rw [List.getD_eq_getElem?_getD, List.getElem?_eq_none (by omega)]; rfl
  have h6 : hrS (6, [], L) = hrS (6, [], 0) := rfl
  rw [h1.1, h6]
  funext o k
  by_cases q : 35 ≤ o ∨ 33 ≤ k
  · rw [h2 o k q, h5 o k q]
  · exact h3 ⟨o, by omega⟩ ⟨k, by omega⟩
set_option maxHeartbeats 4000000 in
set_option maxRecDepth 100000 in
theorem hA_full (xs : Nat → Int32) (L : Nat) : hA (h00 xs L) = full (d00 xs) (6, [], L) := by
  have h1 : RfD (d00 xs) (hA (h00 xs L)) := by
    have h0 : RfD (d00 xs) (h00 xs L) := ⟨Nat.le_refl 3, fun _ _ => rfl, fun _ _ => rfl⟩
    generalize h00 xs L = b at h0 ⊢
    unfold hA hX12_init hX11_init hX10_init hX2_init hX3_init hX1_init hX5_init hX7_init
    (repeat' first | (with_reducible exact h0) | (with_reducible refine RfD.pr ?_) | (with_reducible refine RfD.nw ?_) | (with_reducible refine RfD.pi ?_ ?_) | decide)
  refine Prod.ext ?_ (Prod.ext ?_ (Prod.ext (hA_rf xs L) ?_))
  · funext o k; exact h1.2.1 o k
  · funext o k; exact h1.2.2 o k
  · show (hA (h00 xs L)).2.2.2 = shS (6, [], L)
    unfold hA hX12_init hX11_init hX10_init hX2_init hX3_init hX1_init hX5_init hX7_init
    simp only [nwS, prS, piS]
    simp [h00, shS]
