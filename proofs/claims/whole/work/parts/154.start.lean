/-! the start: what the tables say, and the two objects -/
theorem tbl_at {w : Cond} (i : Nat) (h : lw_tbl[i]? = some w) : w ∈ lw_tbl := List.mem_of_getElem? h
theorem tbl_of (ws : List Cond) (ps : List Nat) (hp : ws = ps.filterMap (fun i => lw_tbl[i]?)) : ∀ w ∈ ws, w ∈ lw_tbl := by
  intro w hw
  rw [hp] at hw
  obtain ⟨i, -, hi⟩ := List.mem_filterMap.mp hw
  exact List.mem_of_getElem? hi
theorem nWd_tbl : ∀ w ∈ nWd, w ∈ lw_tbl := tbl_of nWd [90, 95, 97, 109, 113, 114, 115, 117, 118, 121, 122, 123, 125, 126, 144, 150, 152, 164, 169, 170, 172, 173, 175, 213, 218, 590, 603, 620, 794, 802, 813] (by decide +kernel)
theorem nWd_on : nWd.all (fun w => w.onTables) = true := by decide +kernel
def caW : List Cond := caP.map (fun q => .castable q.1 q.2)
theorem caW_tbl : ∀ w ∈ caW, w ∈ lw_tbl := tbl_of caW [1229, 1230, 1231, 1232, 1233, 1234] (by decide +kernel)
theorem caW_on : caW.all (fun w => w.onTables) = true := by decide +kernel
theorem kn_0 {s : State} {args : Array Value} (hts : ∀ w ∈ lw_tbl, w.before args s = true) : ∃ (cC : ClassId) (iS : Nat → Nat), u_Kn s RX0 TX0 2 cC iS := u_known (ws := wB) (n := 2) (fun w hw => hts w (wB_tbl hw)) inBX0 (hts _ (tbl_at (w := .instantiable RX0 2) 416 (by decide +kernel)))
theorem kn_1 {s : State} {args : Array Value} (hts : ∀ w ∈ lw_tbl, w.before args s = true) : ∃ (cC : ClassId) (iS : Nat → Nat), u_Kn s RX1 TX1 3 cC iS := u_known (ws := wB) (n := 3) (fun w hw => hts w (wB_tbl hw)) inBX1 (hts _ (tbl_at (w := .instantiable RX1 3) 143 (by decide +kernel)))
theorem kn_2 {s : State} {args : Array Value} (hts : ∀ w ∈ lw_tbl, w.before args s = true) : ∃ (cC : ClassId) (iS : Nat → Nat), u_Kn s RX2 TX2 7 cC iS := u_known (ws := wB) (n := 7) (fun w hw => hts w (wB_tbl hw)) inBX2 (hts _ (tbl_at (w := .instantiable RX2 7) 184 (by decide +kernel)))
theorem kn_3 {s : State} {args : Array Value} (hts : ∀ w ∈ lw_tbl, w.before args s = true) : ∃ (cC : ClassId) (iS : Nat → Nat), u_Kn s RX3 TX3 3 cC iS := u_known (ws := wB) (n := 3) (fun w hw => hts w (wB_tbl hw)) inBX3 (hts _ (tbl_at (w := .instantiable RX3 3) 163 (by decide +kernel)))
theorem kn_4 {s : State} {args : Array Value} (hts : ∀ w ∈ lw_tbl, w.before args s = true) : ∃ (cC : ClassId) (iS : Nat → Nat), u_Kn s RX4 TX4 2 cC iS := u_known (ws := wB) (n := 2) (fun w hw => hts w (wB_tbl hw)) inBX4 (hts _ (tbl_at (w := .instantiable RX4 2) 425 (by decide +kernel)))
theorem kn_5 {s : State} {args : Array Value} (hts : ∀ w ∈ lw_tbl, w.before args s = true) : ∃ (cC : ClassId) (iS : Nat → Nat), u_Kn s RX5 TX5 6 cC iS := u_known (ws := wB) (n := 6) (fun w hw => hts w (wB_tbl hw)) inBX5 (hts _ (tbl_at (w := .instantiable RX5 6) 108 (by decide +kernel)))
theorem kn_6 {s : State} {args : Array Value} (hts : ∀ w ∈ lw_tbl, w.before args s = true) : ∃ (cC : ClassId) (iS : Nat → Nat), u_Kn s RX6 TX6 2 cC iS := u_known (ws := wB) (n := 2) (fun w hw => hts w (wB_tbl hw)) inBX6 (hts _ (tbl_at (w := .instantiable RX6 2) 434 (by decide +kernel)))
theorem kn_7 {s : State} {args : Array Value} (hts : ∀ w ∈ lw_tbl, w.before args s = true) : ∃ (cC : ClassId) (iS : Nat → Nat), u_Kn s RX7 TX7 3 cC iS := u_known (ws := wB) (n := 3) (fun w hw => hts w (wB_tbl hw)) inBX7 (hts _ (tbl_at (w := .instantiable RX7 3) 89 (by decide +kernel)))
theorem kn_8 {s : State} {args : Array Value} (hts : ∀ w ∈ lw_tbl, w.before args s = true) : ∃ (cC : ClassId) (iS : Nat → Nat), u_Kn s RX8 TX8 2 cC iS := u_known (ws := wB) (n := 2) (fun w hw => hts w (wB_tbl hw)) inBX8 (hts _ (tbl_at (w := .instantiable RX8 2) 407 (by decide +kernel)))
theorem kn_9 {s : State} {args : Array Value} (hts : ∀ w ∈ lw_tbl, w.before args s = true) : ∃ (cC : ClassId) (iS : Nat → Nat), u_Kn s RX9 TX9 2 cC iS := u_known (ws := wB) (n := 2) (fun w hw => hts w (wB_tbl hw)) inBX9 (hts _ (tbl_at (w := .instantiable RX9 2) 383 (by decide +kernel)))
theorem kn_10 {s : State} {args : Array Value} (hts : ∀ w ∈ lw_tbl, w.before args s = true) : ∃ (cC : ClassId) (iS : Nat → Nat), u_Kn s RX10 TX10 1 cC iS := u_known (ws := wB) (n := 1) (fun w hw => hts w (wB_tbl hw)) inBX10 (hts _ (tbl_at (w := .instantiable RX10 1) 212 (by decide +kernel)))
theorem kn_11 {s : State} {args : Array Value} (hts : ∀ w ∈ lw_tbl, w.before args s = true) : ∃ (cC : ClassId) (iS : Nat → Nat), u_Kn s RX11 TX11 14 cC iS := u_known (ws := wB) (n := 14) (fun w hw => hts w (wB_tbl hw)) inBX11 (hts _ (tbl_at (w := .instantiable RX11 14) 81 (by decide +kernel)))
theorem kn_12 {s : State} {args : Array Value} (hts : ∀ w ∈ lw_tbl, w.before args s = true) : ∃ (cC : ClassId) (iS : Nat → Nat), u_Kn s RX12 TX12 32 cC iS := u_known (ws := wB) (n := 32) (fun w hw => hts w (wB_tbl hw)) inBX12 (hts _ (tbl_at (w := .instantiable RX12 32) 816 (by decide +kernel)))
theorem kn_all {s : State} {args : Array Value} (hts : ∀ w ∈ lw_tbl, w.before args s = true) (c : Nat) : ∃ (cC : ClassId) (iS : Nat → Nat), ∀ q : vw_C, vwCl[c]? = some q → u_Kn s q.1 q.2.1 q.2.2 cC iS := by
  match c with
  | 0 => obtain ⟨x, y, h⟩ := kn_0 hts; exact ⟨x, y, fun q hq => by cases hq; exact h⟩
  | 1 => obtain ⟨x, y, h⟩ := kn_1 hts; exact ⟨x, y, fun q hq => by cases hq; exact h⟩
  | 2 => obtain ⟨x, y, h⟩ := kn_2 hts; exact ⟨x, y, fun q hq => by cases hq; exact h⟩
  | 3 => obtain ⟨x, y, h⟩ := kn_3 hts; exact ⟨x, y, fun q hq => by cases hq; exact h⟩
  | 4 => obtain ⟨x, y, h⟩ := kn_4 hts; exact ⟨x, y, fun q hq => by cases hq; exact h⟩
  | 5 => obtain ⟨x, y, h⟩ := kn_5 hts; exact ⟨x, y, fun q hq => by cases hq; exact h⟩
  | 6 => obtain ⟨x, y, h⟩ := kn_6 hts; exact ⟨x, y, fun q hq => by cases hq; exact h⟩
  | 7 => obtain ⟨x, y, h⟩ := kn_7 hts; exact ⟨x, y, fun q hq => by cases hq; exact h⟩
  | 8 => obtain ⟨x, y, h⟩ := kn_8 hts; exact ⟨x, y, fun q hq => by cases hq; exact h⟩
  | 9 => obtain ⟨x, y, h⟩ := kn_9 hts; exact ⟨x, y, fun q hq => by cases hq; exact h⟩
  | 10 => obtain ⟨x, y, h⟩ := kn_10 hts; exact ⟨x, y, fun q hq => by cases hq; exact h⟩
  | 11 => obtain ⟨x, y, h⟩ := kn_11 hts; exact ⟨x, y, fun q hq => by cases hq; exact h⟩
  | 12 => obtain ⟨x, y, h⟩ := kn_12 hts; exact ⟨x, y, fun q hq => by cases hq; exact h⟩
  | n + 13 => exact ⟨0, fun _ => 0, fun q hq => by have : vwCl[n + 13]? = none := List.getElem?_eq_none (by show 13 ≤ n + 13; omega)
                                                  rw [this] at hq; cases hq⟩
theorem ar_prim {s : State} {args : Array Value} {ty : FieldType} (h : (Cond.arrayClass ty).before args s = true) : ∃ cA : ClassId, ArrOfT s cA ty ∧ s.vm.findClass ("[" ++ ty.toString) = some cA := by
  obtain ⟨c, k, comp, h1, h2, h3⟩ := Cond.arrayClass_spec h
  exact ⟨c, fun N z => ⟨(fun k h => by cases h), k, h2, comp, h3⟩, h1⟩
theorem ar_news {s : State} {args : Array Value} (h : (Cond.arrayOver (.object "SoldNews$News")).before args s = true) : ∃ cA : ClassId, ArrOfT s cA (.object "SoldNews$News") ∧ va_RA s cA (.object "SoldNews$News") := by
  obtain ⟨comp, c, k, h1, h2, h3, h4, h5⟩ := Cond.arrayOver_spec h
  exact ⟨c, fun N z => ⟨(fun k h => by cases h), k, h3, comp, h4⟩, k, comp, h3, h4, h1, h5⟩
theorem eq_of_int {args : Array Value} {s : State} {t : Term} {z : Int32} (h : (Cond.eq t (.int z)).before args s = true) : t.eval args s none [] s = some (.int z) := by
  cases hv : t.eval args s none [] s with
  | none => simp [Cond.before, Cond.holds, Cond.value, hv] at h
  | some w =>
    have hz : (Term.int z).eval args s none [] s = some (.int z) := rfl
    simp only [Cond.before, Cond.holds, Cond.value, hv, hz] at h
    cases w <;> simp_all
theorem size_of_len {args : Array Value} {s : State} {t : Term} {a : Addr} {cell : Cell} {n : Nat} (hn : n < 2 ^ 31) (ht : t.eval args s none [] s = some (.ref a)) (hc : s.arrayAt? a = some cell) (h : (Term.length t).eval args s none [] s = some (.int (Int32.ofNat n))) : cell.slots.size = n := by
  simp only [Term.eval, Option.bind_eq_bind, ht, Option.bind_some, hc] at h
  by_cases hs : cell.slots.size < 2147483648
  · rw [if_pos hs] at h
    have h1 : Int32.ofNat cell.slots.size = Int32.ofNat n := by
      have := Option.some.inj h
      injection this
    have h2 := congrArg Int32.toInt h1
    rw [J_nat, J_nat, J_toInt (by omega), J_toInt (by omega)] at h2
    omega
  · rw [if_neg hs] at h; cases h
def plc (k : Nat) : Int32 := if k = 0 then 1 else if k = 1 then 7 else if k = 2 then 49 else if k = 3 then 343 else 0
def d00 (xs : Nat → Int32) : Dd := (fun o k => if o = 1 then plc k else if o = 2 then xs k else 0, fun _ _ => 0)
def h00 (xs : Nat → Int32) (L : Nat) : HP := ((d00 xs).1, (d00 xs).2, fun _ _ => 0, [(99, 0), (20, 4), (20, L)])
/-- the picture that the constructors leave -/
def RfS (h h' : HP) : Prop := h.2.2.1 = h'.2.2.1 ∧ h.2.2.2.length = h'.2.2.2.length
theorem RfS.nw {h h' : HP} {t t' : Nat × Nat} (a : RfS h h') : RfS (hp_nw h t) (hp_nw h' t') := by
  refine ⟨?_, by simp [hp_nw, a.2]⟩
  show (fun j k => if j = h.2.2.2.length then 0 else h.2.2.1 j k) = (fun j k => if j = h'.2.2.2.length then 0 else h'.2.2.1 j k)
  rw [a.1, a.2]
theorem RfS.pr {h h' : HP} {o k v : Nat} (a : RfS h h') : RfS (hp_pr h o k v) (hp_pr h' o k v) := ⟨by show set2 _ _ _ _ = set2 _ _ _ _; rw [a.1], a.2⟩
theorem RfS.pi {h h' : HP} {o k : Nat} {v v' : Int32} (a : RfS h h') : RfS (hp_pi h o k v) (hp_pi h' o k v') := a
def RfZ (h : HP) : Prop := ∀ o k, 35 ≤ o ∨ 33 ≤ k → h.2.2.1 o k = 0
theorem RfZ.nw {h : HP} {t : Nat × Nat} (a : RfZ h) : RfZ (hp_nw h t) := fun o k q => by
  show (if o = _ then 0 else _) = 0
  split
  · rfl
  · exact a o k q
theorem RfZ.pr {h : HP} {o k v : Nat} (ho : o < 35 ∧ k < 33) (a : RfZ h) : RfZ (hp_pr h o k v) := fun o' k' q => by
  show (if o' = o ∧ k' = k then v else _) = 0
  rw [if_neg (by omega)]
  exact a o' k' q
theorem RfZ.pi {h : HP} {o k : Nat} {v : Int32} (a : RfZ h) : RfZ (hp_pi h o k v) := a
def RfD (d : Dd) (h : HP) : Prop := 3 ≤ h.2.2.2.length ∧ (∀ o k, h.1 o k = d.1 o k) ∧ ∀ o k, h.2.1 o k = 0
theorem RfD.nw {xs : Nat → Int32} {h : HP} {t : Nat × Nat} (a : RfD (d00 xs) h) : RfD (d00 xs) (hp_nw h t) := by
  refine ⟨by have := a.1; simp [hp_nw]; omega, fun o k => ?_, fun o k => ?_⟩
  · show (if o = _ then 0 else _) = _
    split
    · rename_i e
      have h3 := a.1
      show (0 : Int32) = if o = 1 then _ else if o = 2 then _ else 0
      rw [if_neg (by omega), if_neg (by omega)]
    · exact a.2.1 o k
  · show (if o = _ then 0 else _) = (0 : Int64)
    split
    · rfl
    · exact a.2.2 o k
theorem RfD.pr {d : Dd} {h : HP} {o k v : Nat} (a : RfD d h) : RfD d (hp_pr h o k v) := a
theorem RfD.pi {xs : Nat → Int32} {h : HP} {o k : Nat} (ho : 3 ≤ o) (a : RfD (d00 xs) h) : RfD (d00 xs) (hp_pi h o k 0) := by
  refine ⟨a.1, fun o' k' => ?_, a.2.2⟩
  show (if o' = o ∧ k' = k then 0 else _) = _
  by_cases q : o' = o ∧ k' = k
  · rw [if_pos q]
    show (0 : Int32) = if o' = 1 then _ else if o' = 2 then _ else 0
    rw [if_neg (by omega), if_neg (by omega)]
  · rw [if_neg q]; exact a.2.1 o' k'
def hA (h : HP) : HP := hX12_init (hp_nw (hX11_init (hp_nw h (11, 0)) 3 4) (12, 0)) 23 24
theorem hrR_long (ρ : Rh) (o : Nat) : (hrR ρ o).length ≤ 32 := by
  unfold hrR
  split <;> simp
set_option maxHeartbeats 4000000 in
set_option maxRecDepth 100000 in
theorem hA_rf (xs : Nat → Int32) (L : Nat) : (hA (h00 xs L)).2.2.1 = hrS (6, [], L) := by
  have h1 : RfS (hA (h00 xs L)) (hA (h00 (fun _ => 0) 0)) := by
    have h0 : RfS (h00 xs L) (h00 (fun _ => 0) 0) := ⟨rfl, rfl⟩
    generalize h00 xs L = a at h0 ⊢
    generalize h00 (fun _ => 0) 0 = b at h0 ⊢
    unfold hA hX12_init hX11_init hX10_init hX2_init hX3_init hX1_init hX5_init hX7_init
    (repeat' first | exact h0 | refine RfS.pr ?_ | refine RfS.nw ?_ | refine RfS.pi ?_)
  have h2 : RfZ (hA (h00 (fun _ => 0) 0)) := by
    have h0 : RfZ (h00 (fun _ => 0) 0) := fun _ _ _ => rfl
    generalize h00 (fun _ => 0) 0 = b at h0 ⊢
    unfold hA hX12_init hX11_init hX10_init hX2_init hX3_init hX1_init hX5_init hX7_init
    (repeat' first | exact h0 | refine RfZ.pr (by decide) ?_ | refine RfZ.nw ?_ | refine RfZ.pi ?_)
  have h3 : ∀ o : Fin 35, ∀ k : Fin 33, (hA (h00 (fun _ => 0) 0)).2.2.1 o.val k.val = hrS (6, [], 0) o.val k.val := by decide +kernel
  have h5 : ∀ o k, 35 ≤ o ∨ 33 ≤ k → hrS (6, [], 0) o k = 0 := by
    intro o k q
    unfold hrS
    by_cases e : o = 15
    · subst e; rfl
    · rw [if_neg e]
      by_cases e2 : 35 ≤ o
      · rw [hrR_35 _ e2]; rfl
      · have := hrR_long (6, [], 0) o
        rw [List.getD_eq_getElem?_getD, List.getElem?_eq_none (by omega)]; rfl
  have h6 : hrS (6, [], L) = hrS (6, [], 0) := rfl
  rw [h1.1, h6]
  funext o k
  by_cases q : 35 ≤ o ∨ 33 ≤ k
  · rw [h2 o k q, h5 o k q]
  · exact h3 ⟨o, by omega⟩ ⟨k, by omega⟩
set_option maxHeartbeats 4000000 in
set_option maxRecDepth 100000 in
theorem hA_full (xs : Nat → Int32) (L : Nat) : hA (h00 xs L) = full (d00 xs) (6, [], L) := by
  have h1 : RfD (d00 xs) (hA (h00 xs L)) := by
    have h0 : RfD (d00 xs) (h00 xs L) := ⟨by decide, fun _ _ => rfl, fun _ _ => rfl⟩
    generalize h00 xs L = b at h0 ⊢
    unfold hA hX12_init hX11_init hX10_init hX2_init hX3_init hX1_init hX5_init hX7_init
    (repeat' first | exact h0 | refine RfD.pr ?_ | refine RfD.nw ?_ | refine RfD.pi (by decide) ?_)
  refine Prod.ext ?_ (Prod.ext ?_ (Prod.ext (hA_rf xs L) ?_))
  · funext o k; exact h1.2.1 o k
  · funext o k; exact h1.2.2 o k
  · rfl
set_option maxHeartbeats 4000000 in
set_option maxRecDepth 100000 in
/-- from the law's first row to the loop's head -/
theorem law_head {g : Gx} {hf : HP} {xs : Nat → Int32} {L : Nat} (kk : WW g M_L_law (eF hf) 18 (LH (J 0)) [] (full (d00 xs) (6, [], L)) 32 1491 (some ())) : WW g M_L_law (eF hf) 0 [(0, .ref 2)] [] (h00 xs L) 0 0 (some ()) := by
  refine WW.newn (pc := 0) (n0 := 3) rfl lkc_L_7 ⟨(Nat.le_of_ble_eq_true rfl), (Nat.le_of_ble_eq_true rfl)⟩ dL_law_0 ?_
  refine WW.dup (pc := 3) rfl dL_law_3 ?_
  refine WW.callI1 (pc := 4) (As := []) (st := [.ref 3]) lki_L_9 (okX11_init g (hp_nw (h00 xs L) (11, 0)) 3 4 (by decide) (by decide) (nwl rfl) (by decide) (nwa rfl)) (by decide) rfl (Nat.le_of_ble_eq_true rfl) ⟨Nat.le_of_ble_eq_true rfl, Nat.le_of_ble_eq_true rfl, Nat.le_of_ble_eq_true rfl, Nat.le_of_ble_eq_true rfl⟩ dL_law_4 rfl ?_
  show WW _ _ _ 7 _ [.ref 3] (hX11_init (hp_nw (h00 xs L) (11, 0)) 3 4) 20 1291 _
  refine WW.astore_n (pc := 7) [(1, .ref 3), (0, .ref 2)] rfl (by decide) dL_law_7 ?_
  have hl1 : (hX11_init (hp_nw (h00 xs L) (11, 0)) 3 4).2.2.2.length = 23 := rfl
  refine WW.newn (pc := 8) (n0 := 23) hl1 lkc_L_10 ⟨(Nat.le_of_ble_eq_true rfl), (Nat.le_of_ble_eq_true rfl)⟩ dL_law_8 ?_
  refine WW.dup (pc := 11) rfl dL_law_11 ?_
  refine WW.callI1 (pc := 12) (As := []) (st := [.ref 23]) lki_L_12 (okX12_init g (hp_nw (hX11_init (hp_nw (h00 xs L) (11, 0)) 3 4) (12, 0)) 23 24 (by decide) (by decide) (nwl hl1) (by decide) (nwa hl1)) (by decide) rfl (Nat.le_of_ble_eq_true rfl) ⟨Nat.le_of_ble_eq_true rfl, Nat.le_of_ble_eq_true rfl, Nat.le_of_ble_eq_true rfl, Nat.le_of_ble_eq_true rfl⟩ dL_law_12 rfl ?_
  show WW _ _ _ 15 _ [.ref 23] (hA (h00 xs L)) 32 1491 _
  rw [hA_full]
  refine WW.astore_n (pc := 15) [(2, .ref 23), (1, .ref 3), (0, .ref 2)] rfl (by decide) dL_law_15 ?_
  refine WW.iconst (pc := 16) 0 dL_law_16 rfl ?_
  refine WW.istore_n (pc := 17) [(3, .int 0), (2, .ref 23), (1, .ref 3), (0, .ref 2)] rfl (by decide) dL_law_17 ?_
  refine WW.sub [3, 2, 1, 0] rfl ?_
  exact kk
theorem plc_of {args : Array Value} {s : State} (hgv : (Cond.and given_1 narrow_1).before args s = true) : ∃ a : Nat, (Term.static "SoldNews" "(.static "SoldNews" "PLACES" "[I")ACES" "[I").eval args s none [] s = some (.ref a) ∧ a < s.heap.size ∧ OldA a 4 plc s s.heap := by
  have hs := flat_of_before _ hgv
  have e0 := eq_of_int (hs (.eq (.elem (.static "SoldNews" "PLACES" "[I") (.int 0)) (.int 1)) (by decide +kernel))
  have e1 := eq_of_int (hs (.eq (.elem (.static "SoldNews" "PLACES" "[I") (.int 1)) (.int 7)) (by decide +kernel))
  have e2 := eq_of_int (hs (.eq (.elem (.static "SoldNews" "PLACES" "[I") (.int 2)) (.int 49)) (by decide +kernel))
  have e3 := eq_of_int (hs (.eq (.elem (.static "SoldNews" "PLACES" "[I") (.int 3)) (.int 343)) (by decide +kernel))
  have el := eq_of_int (hs (.eq (.length (.static "SoldNews" "PLACES" "[I")) (.int 4)) (by decide +kernel))
  have ea : (Cond.arrayOf (.static "SoldNews" "PLACES" "[I") .int).before args s = true := hs _ (by decide +kernel)
  obtain ⟨a, j, cell, ha, hj, hat, -, hv0⟩ := Term.elem_spec e0
  obtain ⟨a1, j1, cell1, ha1, hj1, hat1, -, hv1⟩ := Term.elem_spec e1
  obtain ⟨a2, j2, cell2, ha2, hj2, hat2, -, hv2⟩ := Term.elem_spec e2
  obtain ⟨a3, j3, cell3, ha3, hj3, hat3, -, hv3⟩ := Term.elem_spec e3
  cases ha.symm.trans ha1
  cases ha.symm.trans ha2
  cases ha.symm.trans ha3
  cases hat.symm.trans hat1
  cases hat.symm.trans hat2
  cases hat.symm.trans hat3
  have q0 : j = 0 := by have : some (Value.int 0) = some (Value.int j) := hj; injection this with h; injection h with h; exact h.symm
  have q1 : j1 = 1 := by have : some (Value.int 1) = some (Value.int j1) := hj1; injection this with h; injection h with h; exact h.symm
  have q2 : j2 = 2 := by have : some (Value.int 2) = some (Value.int j2) := hj2; injection this with h; injection h with h; exact h.symm
  have q3 : j3 = 3 := by have : some (Value.int 3) = some (Value.int j3) := hj3; injection this with h; injection h with h; exact h.symm
  subst q0 q1 q2 q3
  obtain ⟨hcell, hkn, -, -⟩ := State.arrayAt?_spec hat
  have hsz := size_of_len (n := 4) (by decide) ha hat el
  have hof := Cond.arrayOf_spec ea ha hcell
  refine ⟨a, ha, (Array.getElem?_eq_some_iff.mp hcell).1, cell, hcell, hof.1, hkn, hsz, fun k hk => ?_⟩
  match k, hk with
  | 0, _ => exact hv0
  | 1, _ => exact hv1
  | 2, _ => exact hv2
  | 3, _ => exact hv3
  | k + 4, hk => exact absurd hk (by omega)
set_option maxHeartbeats 4000000 in
set_option maxRecDepth 100000 in
theorem start_of {Inv : Dd → Rh → Prop} (hO : Ops Inv) (hH : ∀ d ρ, Inv d ρ → Hr ρ) (hI0 : ∀ (xs : Nat → Int32) (L : Nat), L ≤ 3584 → Inv (d00 xs) (6, [], L))
    {p : Program} {e : Env} {s : State} {m : MethodId} {below : List Frame} {meth : Method} {c : Code} (l : Launch) {b L : Nat} {xs : Nat → Int32} (hL : L ≤ 3584)
    (hexec : p.tables.exec = Jvm.exec) (hcode : c.code = code) (hret : meth.sig.returnType = ret) (hml : c.maxLocals = 4) (hown : s.vm.findClass RL = some m.cls) (hts : ∀ w ∈ lw_tbl, w.before #[Value.ref b] s = true) (hX : va_X b L xs s s.heap) (hbl : b < s.heap.size) (hgv : (Jvm.Cond.and given_1 narrow_1).before #[Value.ref b] s = true) (Q : State → Prop)
    (hend : ∀ (pc : Nat) (H : Heap) (ls : Array Slot), decode code pc = .ok (.ireturn, 1) → W p l e room_1 s m #[Value.ref b] below meth c H [] 600000 7302250 Q (F0 m pc ls [.int 1])) : W p l e room_1 s m #[Value.ref b] below meth c s.heap [] 0 0 Q (entryFrame m ([Value.ref b] : List Value).toArray 4) := by
  have hk := kn_all hts
  obtain ⟨cI, aI, bI⟩ := ar_prim (hts _ (wB_tbl wd_106))
  obtain ⟨cL, aL, bL⟩ := ar_prim (hts _ (wB_tbl wd_266))
  obtain ⟨cZ, aZ, bZ⟩ := ar_prim (hts _ (wB_tbl wd_265))
  have hAO : (Cond.arrayOver (.object "SoldNews$News")).before #[Value.ref b] s = true := hts _ (tbl_at 161 (by decide +kernel))
  obtain ⟨cN, aN, bN⟩ := ar_news hAO
  obtain ⟨ap, hpe, hpl, hpo⟩ := plc_of hgv
  let g : Gx := ((fun c => Classical.choose (hk c), fun c => Classical.choose (Classical.choose_spec (hk c))), (cI, cL, cZ, cN), (ap, b, s.heap.size))
  have hT : Tb g s := by
    refine ⟨⟨fun c q hq => Classical.choose_spec (Classical.choose_spec (hk c)) q hq, fun k q hq => ?_⟩, fun w hw => ?_, fun q hq => ?_, fun q hq => ?_, va_AO.of hAO⟩
    · match k, hq with
      | 0, hq => cases hq; exact ⟨aI, bI⟩
      | 1, hq => cases hq; exact ⟨aL, bL⟩
      | 2, hq => cases hq; exact ⟨aZ, bZ⟩
      | 3, hq => cases hq; exact ⟨aN, bN⟩
      | k + 4, hq => exact absurd (List.getElem?_eq_some_iff.mp hq).1 (by show ¬ k + 4 < 4; omega)
    · exact va_Nw.of (List.all_eq_true.mp nWd_on w hw) (hts w (nWd_tbl w hw))
    · have hs := flat_of_before _ hgv
      simp only [ncP, List.mem_cons, List.not_mem_nil, or_false] at hq
      rcases hq with rfl | rfl | rfl | rfl | rfl | rfl | rfl | rfl | rfl | rfl | rfl | rfl | rfl | rfl
      · exact va_Nc.of (hs (Cond.not (.castable "SoldNews$Part" "SoldNews$Plain")) (by decide +kernel))
      · exact va_Nc.of (hs (Cond.not (.castable "SoldNews$News" "SoldNews$Plain")) (by decide +kernel))
      · exact va_Nc.of (hs (Cond.not (.castable "SoldNews$Plain" "SoldNews$Part")) (by decide +kernel))
      · exact va_Nc.of (hs (Cond.not (.castable "SoldNews$Blur" "SoldNews$Part")) (by decide +kernel))
      · exact va_Nc.of (hs (Cond.not (.castable "SoldNews$Late" "SoldNews$Part")) (by decide +kernel))
      · exact va_Nc.of (hs (Cond.not (.castable "SoldNews$News" "SoldNews$Part")) (by decide +kernel))
      · exact va_Nc.of (hs (Cond.not (.castable "SoldNews$Plain" "SoldNews$Blur")) (by decide +kernel))
      · exact va_Nc.of (hs (Cond.not (.castable "SoldNews$Part" "SoldNews$Blur")) (by decide +kernel))
      · exact va_Nc.of (hs (Cond.not (.castable "SoldNews$Late" "SoldNews$Blur")) (by decide +kernel))
      · exact va_Nc.of (hs (Cond.not (.castable "SoldNews$News" "SoldNews$Blur")) (by decide +kernel))
      · exact va_Nc.of (hs (Cond.not (.castable "SoldNews$Plain" "SoldNews$Late")) (by decide +kernel))
      · exact va_Nc.of (hs (Cond.not (.castable "SoldNews$Part" "SoldNews$Late")) (by decide +kernel))
      · exact va_Nc.of (hs (Cond.not (.castable "SoldNews$Blur" "SoldNews$Late")) (by decide +kernel))
      · exact va_Nc.of (hs (Cond.not (.castable "SoldNews$News" "SoldNews$Late")) (by decide +kernel))
    · have hm : Cond.castable q.1 q.2 ∈ caW := List.mem_map.mpr ⟨q, hq, rfl⟩
      exact va_Nw.of (List.all_eq_true.mp caW_on _ hm) (hts _ (caW_tbl _ hm))
  have hZ : gZ g s s.heap := va_Zof (hts (.laysStatic "SoldNews" "PLACES" "[I") (tbl_at 604 (by decide +kernel))) (hts (.initialized "SoldNews") (tbl_at 66 (by decide +kernel))) hpe (fun a ha q => by
    have : s.heap.size ≤ a := q
    omega)
  have hC : CX g M_L_law p room_1 s m #[Value.ref b] meth c := ⟨⟨hexec, hcode, hml, hown, fun w hw => hts w (wB_tbl hw)⟩, hT, hZ, Nat.le_refl _, ⟨by decide, by decide, by decide, by decide⟩, fun h => absurd h (by decide)⟩
  have hWP : WP g (h00 xs L) s s.heap := by
    refine ⟨⟨by decide, rfl, hpl, hbl⟩, fun j t h3 h4 => ?_, fun j h3 => ?_⟩
    · have : j < 3 := (List.getElem?_eq_some_iff.mp h4).1
      omega
    · rcases h3 with rfl | rfl
      · exact ⟨4, rfl, hpo⟩
      · exact ⟨L, rfl, hX⟩
  obtain ⟨hf, hW⟩ := law_loop hO hH (L + 8) (d00 xs) (6, [], L) 0 (hI0 xs L hL) (by omega) (by show (0 : Int) ≤ (L : Int) + 7; omega) hL (by show (L : Int) + 8 - 0 ≤ ((L + 8 : Nat) : Int); omega)
  have hw := law_head (hW g)
  have hl := lv_entry ([Value.ref b]) (n := 4) (Nat.le_of_ble_eq_true rfl)
  rw [lg_entry_eq]
  refine hw () rfl p l e room_1 s m #[Value.ref b] below meth c Q hC (fun pc' ls' H' locs' kc' ks' hri h1 h2 _ hS' => ?_) s.heap [] _ hWP va_S.rf hl
  refine W.widen h1 h2 ?_
  exact va_forget hS'.2.2 (hend pc' H' ls' hri)
